/-! THE TEXT -/
def TA (G : Cx) (a : Nat) : Prop := a = gB G + 279 ∨ a = gB G + 280
section TEXT
variable {G : Cx} {m m' : Mm} {A : Ab} {t : List Nat} {e p : Int32}
theorem Cls.tx (h : Cls G m A) (hO : Out (TA G) m' m) (hT : TxC G m' t) (he : fi m' 702 (gB G + 279) = e) (hp : fi m' 703 (gB G + 279) = p) : Cls G m' (A.1, A.2.1, t, e, p) := by
  obtain ⟨h1, h2, -, -, -⟩ := h
  refine ⟨h1.ag (fun f j hj => hO.fi (by unfold TA; omega) f) (fun f => hO.fl (by unfold TA; omega) f) (fun j k hj => hO.ai (by unfold TA; omega) k), fun i hi => ⟨?_, fun s hs => ?_⟩, hT, he, hp⟩
  · rw [hO.ai (by unfold TA; omega)]; exact (h2 i hi).1
  · refine ((h2 i hi).2 s hs).ag (fun f j hj => hO.fi (by unfold TA; omega) f) (fun f => hO.fl (by unfold TA; omega) f) (fun j k hj => hO.ai (by unfold TA; omega) k)
theorem TxC.push {b : Nat} {v : Int32} (h : TxC G m t) (hv : v = sx8 b) : TxC G (wfi (wai m (gB G + 280) t.length v) 701 (gB G + 279) (nI (t.length + 1))) (t ++ [b]) := by
  refine ⟨fi_eq.trans (by rw [List.length_append]; rfl), fun k c hk => ?_⟩
  show ai (wai m (gB G + 280) t.length v) (gB G + 280) k = _
  rw [ai_wai_upd]
  by_cases e : k < t.length
  · rw [upd_ne (by omega)]
    rw [List.getElem?_append_left e] at hk
    exact h.2 k c hk
  · have hl := (List.getElem?_eq_some_iff.mp hk).1
    rw [List.length_append] at hl
    have hl2 : k < t.length + 1 := hl
    have ek : k = t.length := by omega
    subst ek
    rw [List.getElem?_append_right (Nat.le_refl _), Nat.sub_self] at hk
    cases hk
    rw [upd_eq, hv]
def byt (y : Int32) : Nat := (y &&& 255).toBitVec.toNat
theorem byt_lt (y : Int32) : byt y < 256 := by
  have e : byt y = y.toBitVec.toNat &&& 255 := by
    unfold byt
    rw [Int32.toBitVec_and, BitVec.toNat_and]
    rfl
  rw [e]
  have := Nat.and_le_right (n := y.toBitVec.toNat) (m := 255)
  omega
theorem byt_nI (y : Int32) : y &&& 255 = nI (byt y) := by
  apply Int32.toBitVec_inj.mp
  unfold byt
  show _ = (Int32.ofNat _).toBitVec
  rw [Int32.toBitVec_ofNat', BitVec.ofNat_toNat]
  simp
theorem byt_sx (y : Int32) : Int8.toInt32 (Int32.toInt8 (Int8.toInt32 (Int32.toInt8 y))) = sx8 (byt y) := by
  unfold sx8
  rw [← byt_nI, Int32.toInt8_and, show Int32.toInt8 255 = -1 from rfl]
  simp
theorem C_at {d : Nat} {x : Int32} {Q : Option Value → Mm → Prop} (hF : Full G m) (hT : TxC G m t) (hm : t.length + 4 ≤ 500) (k : ∀ m', Full G m' → Out (TA G) m' m → fi m' 702 (gB G + 279) = fi m 702 (gB G + 279) → fi m' 703 (gB G + 279) = fi m 703 (gB G + 279) → TxC G m' (((((t ++ [byt (x >>> ((24 : Int32) &&& 31))]) ++ [byt (x >>> ((16 : Int32) &&& 31))]) ++ [byt (x >>> ((8 : Int32) &&& 31))])) ++ [byt (x >>> ((0 : Int32) &&& 31))]) → Q (some (.int (nI (t.length + 4)))) m') : WPM G (d + 1) (0, 0) μX10_appendText [.ref (gB G), .int x] m Q := by
  have h1 := hT.push (byt_sx (x >>> ((24 : Int32) &&& 31)))
  have h2 := h1.push (byt_sx (x >>> ((16 : Int32) &&& 31)))
  have h3 := h2.push (byt_sx (x >>> ((8 : Int32) &&& 31)))
  have h4 := h3.push (byt_sx (x >>> ((0 : Int32) &&& 31)))
  have l1 : (t ++ [byt (x >>> ((24 : Int32) &&& 31))]).length = t.length + 1 := List.length_append
  have l2 : ((t ++ [byt (x >>> ((24 : Int32) &&& 31))]) ++ [byt (x >>> ((16 : Int32) &&& 31))]).length = t.length + 1 + 1 := by rw [List.length_append, l1]; rfl
  have l3 : (((t ++ [byt (x >>> ((24 : Int32) &&& 31))]) ++ [byt (x >>> ((16 : Int32) &&& 31))]) ++ [byt (x >>> ((8 : Int32) &&& 31))]).length = t.length + 1 + 1 + 1 := by rw [List.length_append, l2]; rfl
  have l4 : ((((t ++ [byt (x >>> ((24 : Int32) &&& 31))]) ++ [byt (x >>> ((16 : Int32) &&& 31))]) ++ [byt (x >>> ((8 : Int32) &&& 31))]) ++ [byt (x >>> ((0 : Int32) &&& 31))]).length = t.length + 1 + 1 + 1 + 1 := by rw [List.length_append, l3]; rfl
  rw [l1] at h2
  rw [l1, l2] at h3
  rw [l1, l2, l3] at h4
  have g1 := h1.1
  have g2 := h2.1
  have g3 := h3.1
  have g4 := h4.1
  rw [l1] at g1
  rw [l2] at g2
  rw [l3] at g3
  rw [l4] at g4
  have o : ∀ {m1 : Mm} {v y : Int32} {q : Nat}, Out (TA G) m1 m → Out (TA G) (wfi (wai m1 (gB G + 280) q v) 701 (gB G + 279) y) m := fun h => (h.wai (Or.inr rfl)).wfi (Or.inl rfl)
  have fu : ∀ {m1 : Mm} {v y : Int32} {q : Nat}, Full G m1 → Full G (wfi (wai m1 (gB G + 280) q v) 701 (gB G + 279) y) := fun h => Full_wfi _ _ _ (Full_wai _ _ _ h)
  have f2 : ∀ {m1 : Mm} {v y : Int32} {q : Nat}, fi (wfi (wai m1 (gB G + 280) q v) 701 (gB G + 279) y) 702 (gB G + 279) = fi m1 702 (gB G + 279) := (fi_ne (by decide)).trans rfl
  have f3 : ∀ {m1 : Mm} {v y : Int32} {q : Nat}, fi (wfi (wai m1 (gB G + 280) q v) 701 (gB G + 279) y) 703 (gB G + 279) = fi m1 703 (gB G + 279) := (fi_ne (by decide)).trans rfl
  refine eC_at hF hT.1 (by omega) (fun _ => ?_) (fun z => by omega)
  refine bC_at32 hF hT.1 (by omega) ?_
  refine bC_at24 (fu hF) g1 (by omega) ?_
  refine bC_at16 (fu (fu hF)) g2 (by omega) ?_
  refine bC_at8 (fu (fu (fu hF))) g3 (by omega) ?_
  refine bC_at0 (fu (fu (fu (fu hF)))) g4 ?_
  exact k _ (fu (fu (fu (fu hF)))) (o (o (o (o Out.rf)))) (f2.trans (f2.trans (f2.trans f2))) (f3.trans (f3.trans (f3.trans f3))) h4
end TEXT
