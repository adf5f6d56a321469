/-! THE REFERENCE'S nextToken -/
/-- what is behind the fields' new start -/
def mT (G : Cx) (m : Mm) (q : Nat) (tk : Int32) : Mm := wfi (wfi (wfi (wfl (wfi (wfi m 1113 (gB G + 293) (nI q)) 1116 (gB G + 293) (0 : Int32)) 1120 (gB G + 293) (0 : Int64)) 1117 (gB G + 293) (0 : Int32)) 1115 (gB G + 293) (0 : Int32)) 1114 (gB G + 293) tk
def RSt (G : Cx) (m : Mm) (t : List Nat) (ts : List Tk) : Prop := ∃ k r, ts = k :: r ∧ RTk G m k ∧ (1 < k.1 → ∃ f p, p ≤ t.length ∧ t.length - p < f ∧ fi m 1112 (gB G + 293) = nI p ∧ r = toks t f p)
section MNT
variable {G : Cx} {d : Nat} {m : Mm} {Q : Option Value → Mm → Prop} {t : List Nat} {q : Nat} {tk : Int32}
theorem mT_full (hF : Full G m) : Full G (mT G m q tk) := Full_wfi _ _ _ (Full_wfi _ _ _ (Full_wfi _ _ _ (Full_wfl _ _ _ (Full_wfi _ _ _ (Full_wfi _ _ _ hF)))))
theorem mT_out {m0 : Mm} (h : Out (ON G) m m0) : Out (ON G) (mT G m q tk) m0 := (((((h.wfi rfl).wfi rfl).wfl rfl).wfi rfl).wfi rfl).wfi rfl
theorem mT_14 : fi (mT G m q tk) 1114 (gB G + 293) = tk := fi_eq
theorem mT_15 : fi (mT G m q tk) 1115 (gB G + 293) = 0 := (fi_ne (by decide)).trans fi_eq
theorem mT_17 : fi (mT G m q tk) 1117 (gB G + 293) = 0 := (fi_ne (by decide)).trans ((fi_ne (by decide)).trans fi_eq)
theorem mT_16 : fi (mT G m q tk) 1116 (gB G + 293) = 0 := (fi_ne (by decide)).trans ((fi_ne (by decide)).trans ((fi_ne (by decide)).trans fi_eq))
theorem mT_13 : fi (mT G m q tk) 1113 (gB G + 293) = nI q := by
  have h : fi (mT G m q tk) 1113 (gB G + 293) = fi (wfi (wfi m 1113 (gB G + 293) (nI q)) 1116 (gB G + 293) (0 : Int32)) 1113 (gB G + 293) := (fi_ne (by decide)).trans ((fi_ne (by decide)).trans (fi_ne (by decide)))
  exact h.trans ((fi_ne (by decide)).trans fi_eq)
theorem mT_20 : fl (mT G m q tk) 1120 (gB G + 293) = 0 := fl_eq
theorem mT_ne {g : Nat} (h : ¬ (1113 ≤ g ∧ g ≤ 1117)) : fi (mT G m q tk) g (gB G + 293) = fi m g (gB G + 293) := (fi_ne (by omega)).trans ((fi_ne (by omega)).trans ((fi_ne (by omega)).trans ((fi_ne (by omega)).trans (fi_ne (by omega)))))
theorem syK_w {k : Nat} (h : k ≤ 1 ∨ 100 ≤ k) : syK k = 0 := if_neg (by omega)
theorem M_nt (hF : Full G m) (hT : TxM G m t) (h5 : t.length ≤ 500) (hb : ∀ b ∈ t, b < 256) {p f : Nat} (hp : p ≤ t.length) (hf : t.length - p < f) (hpos : fi m 1112 (gB G + 293) = nI p) (k : ∀ m', Full G m' → Out (ON G) m' m → (∀ g, ¬ (1112 ≤ g ∧ g ≤ 1117) → fi m' g (gB G + 293) = fi m g (gB G + 293)) → RSt G m' t (toks t f p) → Q none m') : WPM G (d + 6) (0, 0) μX11_nextToken [.ref (gB G + 293)] m Q := by
  obtain ⟨f', rfl⟩ : ∃ z, f = z + 1 := ⟨f - 1, by omega⟩
  refine WPM.of pX11 (Nat.le_of_ble_eq_true rfl) rfl ?_
  have q1 := ruE_ge (P := blP) (t := t) (p := p)
  have q2 := ruE_le (P := blP) hp
  have et : toks t (f' + 1) p = (tkK t (ruE blP t p), ruE blP t p, tkV t (ruE blP t p)) :: (if tkK t (ruE blP t p) ≤ 1 then [] else toks t f' (tkN t (ruE blP t p))) := rfl
  rw [et] at k
  obtain ⟨q, hq⟩ : ∃ q, ruE blP t p = q := ⟨_, rfl⟩
  rw [hq] at k q1 q2
  refine L_nb (q := q) hb h5 hT (fun m1 hF1 hO1 hf1 hp1 => ?_) t.length p m (by omega) hp hq hF Out.rf (fun _ _ => rfl) hpos
  have hT1 : TxM G m1 t := ⟨(hf1 1111 (by decide)).trans hT.1, fun z b hz => (hO1.ai (by unfold ON; omega) z).trans (hT.2 z b hz)⟩
  have fr : ∀ {m' : Mm} {tk : Int32}, (∀ g, ¬ (1112 ≤ g ∧ g ≤ 1117) → fi m' g (gB G + 293) = fi (mT G m1 q tk) g (gB G + 293)) → ∀ g, ¬ (1112 ≤ g ∧ g ≤ 1117) → fi m' g (gB G + 293) = fi m g (gB G + 293) := fun h g hg => (h g hg).trans ((mT_ne (by omega)).trans (hf1 g (by omega)))
  by_cases hpl : q < t.length
  · obtain ⟨b, g1, g2, g3⟩ := hT1.b hb hpl
    obtain ⟨x1, x2, x3, x4, x5, x6⟩ := leM_ok b g2
    have hgt := tkN_gt hpl
    have hle := tkN_le q2
    have eK : tkK t q = if diP b = true then 200 else if leP b = true then wdK ((t.drop q).takeWhile leP) else if b ∈ syL then b else 1 := by unfold tkK; rw [g1]
    have eN : tkN t q = if diP b = true then ruE diP t q else if leP b = true then ruE leP t q else q + 1 := by unfold tkN; rw [g1]
    have dl : leP b = true → ¬ diP b = true := fun h z => by
      have := leP_rg h
      have := diP_rg z
      omega
    -- the end, once the token's fields are known
    have fin : ∀ m', Full G m' → Out (ON G) m' m → (∀ g, ¬ (1112 ≤ g ∧ g ≤ 1117) → fi m' g (gB G + 293) = fi m g (gB G + 293)) → RTk G m' (tkK t q, q, tkV t q) → fi m' 1112 (gB G + 293) = nI (tkN t q) → Q none m' := fun m' a1 a2 a3 a4 a5 => by
      refine k m' a1 a2 a3 ⟨_, _, rfl, a4, fun hk => ⟨f', tkN t q, hle, by omega, a5, if_neg (by dsimp only at hk; omega)⟩⟩
    refine n1 hF1 hT1.1 hp1 h5 q2 hpl g3 x6 (fun a1 a2 a3 => ?_) (fun a1 a2 a3 => ?_) (fun a1 a2 => ?_) (fun a1 => ?_)
    · have n1 : ¬ leP b = true := fun z => by rw [x1, if_pos z] at a1; exact absurd a1 (by decide)
      have n2 : ¬ diP b = true := fun z => by rw [x2, if_pos z] at a2; exact absurd a2 (by decide)
      have n3 := x3.mp a3
      rw [if_neg n2, if_neg n1, if_neg n3] at eK
      rw [if_neg n2, if_neg n1] at eN
      refine fin _ (Full_wfi _ _ _ (Full_wfi _ _ _ (mT_full hF1))) (((mT_out hO1).wfi rfl).wfi rfl) (fr (fun g hg => (fi_ne (by omega)).trans (fi_ne (by omega)))) ?_ (by rw [eN]; exact fi_eq)
      rw [eK]
      have h14 : fi (wfi (wfi (mT G m1 q 1) 1115 (gB G + 293) 0) 1112 (gB G + 293) (nI (q + 1))) 1114 (gB G + 293) = 1 := (fi_ne (by decide)).trans ((fi_ne (by decide)).trans mT_14)
      refine ⟨(fi_ne (by decide)).trans ((fi_ne (by decide)).trans mT_13), (fi_ne (by decide)).trans fi_eq, ?_, ?_, fun h => by dsimp only at h; omega, ⟨0, by omega, (fi_ne (by decide)).trans ((fi_ne (by decide)).trans mT_16), fun h => ?_⟩, fun _ => by dsimp only; omega⟩
      · exact ⟨fun z => absurd (h14.symm.trans z) (by decide), fun z => by dsimp only at z; omega⟩
      · exact ⟨fun z => absurd (h14.symm.trans z) (by decide), fun z => by dsimp only at z; omega⟩
      · exact absurd (h14.symm.trans h) (by decide)
    · have n1 : ¬ leP b = true := fun z => by rw [x1, if_pos z] at a1; exact absurd a1 (by decide)
      have n2 : ¬ diP b = true := fun z => by rw [x2, if_pos z] at a2; exact absurd a2 (by decide)
      have n3 : b ∈ syL := Classical.not_not.mp (fun z => a3 (x3.mpr z))
      have n4 := sy_rg n3
      rw [if_neg n2, if_neg n1, if_pos n3] at eK
      rw [if_neg n2, if_neg n1] at eN
      refine fin _ (Full_wfi _ _ _ (Full_wfi _ _ _ (mT_full hF1))) (((mT_out hO1).wfi rfl).wfi rfl) (fr (fun g hg => (fi_ne (by omega)).trans (fi_ne (by omega)))) ?_ (by rw [eN]; exact fi_eq)
      rw [eK]
      have h14 : fi (wfi (wfi (mT G m1 q 4) 1115 (gB G + 293) (nI b)) 1112 (gB G + 293) (nI (q + 1))) 1114 (gB G + 293) = 4 := (fi_ne (by decide)).trans ((fi_ne (by decide)).trans mT_14)
      refine ⟨(fi_ne (by decide)).trans ((fi_ne (by decide)).trans mT_13), ?_, ?_, ?_, fun h => ?_, ⟨0, by omega, (fi_ne (by decide)).trans ((fi_ne (by decide)).trans mT_16), fun h => ?_⟩, fun _ => ?_⟩
      · rw [show syK b = b from if_pos (by omega)]
        exact (fi_ne (by decide)).trans fi_eq
      · exact ⟨fun z => absurd (h14.symm.trans z) (by decide), fun z => by dsimp only at z; omega⟩
      · exact ⟨fun z => absurd (h14.symm.trans z) (by decide), fun z => by dsimp only at z; omega⟩
      · dsimp only at h; omega
      · exact absurd (h14.symm.trans h) (by decide)
      · dsimp only; omega
    · have n1 : ¬ leP b = true := fun z => by rw [x1, if_pos z] at a1; exact absurd a1 (by decide)
      have n2 : diP b = true := Classical.not_not.mp (fun z => a2 (by rw [x2, if_neg z]))
      rw [if_pos n2] at eK eN
      have hTT : TxM G (mT G m1 q 3) t := ⟨(mT_ne (by omega)).trans hT1.1, hT1.2⟩
      refine L_nd (q := tkN t q) (V := tkV t q) hb h5 hTT (fun m' b1 b2 b3 b4 b5 => fin m' b1 (b2.tr (mT_out hO1)) (fr (fun g hg => b3 g (by omega) (by omega))) ?_ b4) t.length q 0 _ (by omega) q2 eN.symm rfl (mT_full hF1) Out.rf (fun _ _ _ => rfl) ((mT_ne (by omega)).trans hp1) (Or.inl ⟨by omega, mT_17⟩)
      rw [eK]
      have h14 : fi m' 1114 (gB G + 293) = 3 := (b3 1114 (by decide) (by decide)).trans mT_14
      refine ⟨(b3 1113 (by decide) (by decide)).trans mT_13, (b3 1115 (by decide) (by decide)).trans mT_15, ?_, ?_, fun _ => b5, ⟨0, by omega, (b3 1116 (by decide) (by decide)).trans mT_16, fun h => ?_⟩, fun _ => Nat.le_refl _⟩
      · exact ⟨fun z => absurd (h14.symm.trans z) (by decide), fun z => by dsimp only at z; omega⟩
      · exact ⟨fun _ => rfl, fun _ => h14⟩
      · exact absurd (h14.symm.trans h) (by decide)
    · have n1 : leP b = true := Classical.not_not.mp (fun z => a1 (by rw [x1, if_neg z]))
      have n2 := dl n1
      rw [if_neg n2, if_pos n1] at eK eN
      have hTT : TxM G (mT G m1 q 2) t := ⟨(mT_ne (by omega)).trans hT1.1, hT1.2⟩
      have hwl : ((t.drop q).takeWhile leP).length ≤ 500 := by
        have h9 := tw_len (P := leP) (t.drop q)
        rw [List.length_drop] at h9
        omega
      refine L_nw (q := tkN t q) (L := ((t.drop q).takeWhile leP).length) (W := pkA 0 (((t.drop q).takeWhile leP).take 8)) hb h5 hTT (fun m' b1 b2 b3 b4 b5 b6 => fin m' b1 (b2.tr (mT_out hO1)) (fr (fun g hg => b3 g (by omega) (by omega))) ?_ b4) t.length q 0 0 _ (by omega) q2 (by omega) eN.symm (by omega) rfl (mT_full hF1) Out.rf (fun _ _ _ => rfl) ((mT_ne (by omega)).trans hp1) mT_16 mT_20
      have h14 : fi m' 1114 (gB G + 293) = 2 := (b3 1114 (by decide) (by decide)).trans mT_14
      have hk := wdK_rg ((t.drop q).takeWhile leP)
      rw [eK]
      refine ⟨(b3 1113 (by decide) (by decide)).trans mT_13, ?_, ?_, ?_, fun h => ?_, ⟨_, hwl, b5, fun _ => ⟨_, rfl, b6, fun x hx => leP_rg (tw_all _ x hx), rfl⟩⟩, fun h => absurd h14 h⟩
      · rw [syK_w (by dsimp only; omega)]
        exact (b3 1115 (by decide) (by decide)).trans mT_15
      · exact ⟨fun z => absurd (h14.symm.trans z) (by decide), fun z => by dsimp only at z; omega⟩
      · exact ⟨fun z => absurd (h14.symm.trans z) (by decide), fun z => by dsimp only at z; omega⟩
      · dsimp only at h; omega
  · have eK : tkK t q = 0 := by unfold tkK; rw [get_end hpl]
    refine n1e hF1 hT1.1 hp1 h5 q2 hpl (k _ (mT_full (tk := 0) hF1) (mT_out hO1) (fr (fun _ _ => rfl)) ⟨_, _, rfl, ?_, fun hk => by dsimp only at hk; omega⟩)
    rw [eK]
    have h14 : fi (mT G m1 q 0) 1114 (gB G + 293) = 0 := mT_14
    refine ⟨mT_13, mT_15, ⟨fun _ => rfl, fun _ => mT_14⟩, ?_, fun h => by dsimp only at h; omega, ⟨0, by omega, mT_16, fun h => ?_⟩, fun _ => by dsimp only; omega⟩
    · exact ⟨fun z => absurd (h14.symm.trans z) (by decide), fun z => by dsimp only at z; omega⟩
    · exact absurd (h14.symm.trans h) (by decide)
end MNT
