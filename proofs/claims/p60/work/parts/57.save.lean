/-! SAVED CRAFTS -/
section SAVE
variable {n nl nh : Nat}
theorem CodM_eq2 {st st' : Nat → Int32} (h : ∀ k, k < 1486 → st' k = st k) : ∀ (cs : List Cd) (i : Nat), i + cs.length ≤ 500 → CodM st i cs → CodM st' i cs
  | [], _, _, _ => trivial
  | c :: cs, i, hl, ⟨h1, h2, h3⟩ => by
    rw [List.length_cons] at hl
    exact ⟨(h _ (by omega)).trans h1, (h _ (by omega)).trans h2, CodM_eq2 h cs (i + 1) (by omega) h3⟩
theorem RulM_eq2 {st st' : Nat → Int32} {r : Nat} {R : Ru} (hr : r < 12) (h : ∀ k, k < 1486 → st' k = st k) (hR : RulM st r R) : RulM st' r R := by
  obtain ⟨i, j, h1, h2, h3, h4, h5, h6, h7⟩ := hR
  refine ⟨i, j, (h _ (by omega)).trans h1, (h _ (by omega)).trans h2, h3, CodM_eq2 h _ _ h3 h4, (h _ (by omega)).trans h5, (h _ (by omega)).trans h6, fun q => ?_⟩
  obtain ⟨a1, a2, a3, a4⟩ := h7 q
  exact ⟨(h _ (by omega)).trans a1, (h _ (by omega)).trans a2, a3, CodM_eq2 h _ _ a3 a4⟩
theorem RulsM.eqS {st st' : Nat → Int32} {L : List Ru} (h : RulsM st n nl nh L) (e : ∀ k, k < 1486 → st' k = st k) : RulsM st' n nl nh L := by
  obtain ⟨a1, a2, a3⟩ := h
  refine ⟨(e 15 (by omega)).trans a1, a2, fun r R hr => ⟨RulM_eq2 ?_ e (a3 r R hr).1, (a3 r R hr).2⟩⟩
  have := (List.getElem?_eq_some_iff.mp hr).1
  omega
theorem Iv.eqS {T : Int} {st st' : Nat → Int32} (h : Iv T st n nl nh) (e : ∀ k, k < 1486 → st' k = st k) : Iv T st' n nl nh := by
  obtain ⟨⟨i1, i2, i3, i4, i5, i6, ⟨j1, j2, j3, j4, j5, j6, j7⟩, i8, i9, i10, i11⟩, i12⟩ := h
  refine ⟨⟨(e 12 (by omega)).trans i1, i2, (e 13 (by omega)).trans i3, i4, (e 14 (by omega)).trans i5, i6, ⟨?_, ?_, ?_, ?_, ?_, ?_, ?_⟩, fun i hi => ?_, fun i hi => ?_, fun i hi => ?_, ?_⟩, fun i hi => ?_⟩
  · rw [e 0 (by omega)]; exact j1
  · rw [e 1 (by omega)]; exact j2
  · rw [e 2 (by omega)]; exact j3
  · rw [e 8 (by omega)]; exact j4
  · rw [e 9 (by omega)]; exact j5
  · rw [e 10 (by omega)]; exact j6
  · rw [e 11 (by omega), e 10 (by omega)]; exact j7
  · have := i8 i hi
    unfold InvN at this ⊢
    rw [e (11 * i + 20) (by omega), e (11 * i + 21) (by omega), e (11 * i + 29) (by omega), e (11 * i + 30) (by omega), e 0 (by omega)]
    exact this
  · have := i9 i hi
    unfold InvL at this ⊢
    rw [e (7 * i + 296) (by omega), e (7 * i + 298) (by omega), e (7 * i + 299) (by omega), e (7 * i + 300) (by omega), e (7 * i + 302) (by omega)]
    exact this
  · have := i10 i hi
    unfold InvH at this ⊢
    rw [e (8 * i + 338) (by omega), e (8 * i + 339) (by omega), e (8 * i + 342) (by omega), e (8 * i + 344) (by omega)]
    exact this
  · rw [e 16 (by omega), i11]
    exact congrArg nI (vcnt_eq n (fun j hj => e _ (by omega))).symm
  · rw [e _ (by omega)]
    exact i12 i hi
theorem CR.eqS {T : Int} {m : Mm} {c : Nat} {st st' : Nat → Int32} {en en' : Nat → Int64} {L : List Ru} {l : List Lk} (h : CR m c st en n nl nh L l) (hI : Iv T st n nl nh) (e : ∀ k, k < 1486 → st' k = st k) (ee : ∀ w, w < 3 → en' w = en w) : CR m c st' en' n nl nh L l := by
  obtain ⟨⟨s1, s2, s3, ⟨e1, e2, e3⟩, s5⟩, b, a3, a4, a5, a6, a7, a8⟩ := h
  obtain ⟨⟨i1, i2, i3, i4, i5, i6, -, i8, i9, i10, i11⟩, i12⟩ := hI
  refine ⟨⟨Out.rf, K6.rf, fun k hk hd => (s3 k hk hd).trans (e k (by have := hk.lt; omega)).symm, ⟨e1.trans (ee 0 (by omega)).symm, e2.trans (ee 1 (by omega)).symm, e3.trans (ee 2 (by omega)).symm⟩, fun k hk => ?_⟩, b, a3, fun i j hi hj => (e _ (by omega)).trans (a4 i j hi hj), a5.of (fun _ => rfl) (fun j hj => e _ (by omega)), a6, a7, (e 15 (by omega)).trans a8⟩
  have eo : own st' 16 = own st 16 := by unfold own; rw [e 16 (by omega)]
  have hv := own_of i11 (by have := vcnt_le st n; omega)
  have := vcnt_le st n
  rw [eo] at hk
  exact (s5 k hk).trans (e _ (by omega)).symm
theorem cpy_s {α : Type} {f g : Nat → α} {sp dp j : Nat} : ∀ k, va_cpy f g sp dp (j + 1) k = if k = dp + j then f (sp + j) else va_cpy f g sp dp j k := by
  intro k
  unfold va_cpy
  by_cases h : k = dp + j
  · rw [if_pos h, if_pos (by omega), h, Nat.add_sub_cancel_left]
  · rw [if_neg h]
    by_cases h2 : dp ≤ k ∧ k < dp + j
    · rw [if_pos h2, if_pos (by omega)]
    · rw [if_neg h2, if_neg (by omega)]
theorem cpy_u {f g : Nat → Int32} {sp dp j k : Nat} {v : Int32} (hk : k = dp + j) (hv : v = f (sp + j)) : upd (va_cpy f g sp dp j) k v = va_cpy f g sp dp (j + 1) := by
  funext i
  rw [cpy_s, hk, hv]
  by_cases h : i = dp + j
  · rw [if_pos h, h, upd_eq]
  · rw [if_neg h, upd_ne h]
theorem cpy_ul {f g : Nat → Int64} {sp dp j k : Nat} {v : Int64} (hk : k = dp + j) (hv : v = f (sp + j)) : vp_updL (va_cpy f g sp dp j) k v = va_cpy f g sp dp (j + 1) := by
  funext i
  rw [cpy_s, hk, hv]
  by_cases h : i = dp + j
  · rw [if_pos h, h]
    simp [vp_updL]
  · rw [if_neg h]
    simp [vp_updL, h]
theorem cpy_z {α : Type} {f g : Nat → α} {sp dp : Nat} : va_cpy f g sp dp 0 = g := by
  funext k
  unfold va_cpy
  rw [if_neg (by omega)]
def svV (A : Ab) (q : Nat) : Nat → Option Sc := fun i => if i = q then some (aS A) else aV A i
def QA (G : Cx) (q a : Nat) : Prop := a = gB G + 278 ∨ CA (gB G + (140 + 69 * q)) a
variable {G : Cx} {m m1 m' : Mm} {A : Ab} {q : Nat}
theorem Cls.sv (h : Cls G m A) (hq : q < 2) (hO : Out (CA (gB G + (140 + 69 * q))) m1 m) (hC : CRx m1 (gB G + (140 + 69 * q)) (aS A)) : Cls G (wai m1 (gB G + 278) q 1) (A.1, svV A q, A.2.2) := by
  obtain ⟨h1, h2, ⟨h3, h4⟩, h5, h6⟩ := h
  have hO2 : Out (QA G q) (wai m1 (gB G + 278) q 1) m := (hO.mono (fun a ha => Or.inr ha)).wai (Or.inl rfl)
  have n0 : ∀ {a : Nat}, a < gB G + 140 ∨ gB G + 279 ≤ a → ¬ QA G q a := fun {a} ha => by unfold QA CA; omega
  refine ⟨h1.ag (fun f j hj => hO2.fi (n0 (by omega)) f) (fun f => hO2.fl (n0 (by omega)) f) (fun j k hj => hO2.ai (n0 (by omega)) k), fun i hi => ⟨?_, fun s hs => ?_⟩, ⟨?_, fun k b hb => ?_⟩, ?_, ?_⟩
  · show ai (wai m1 (gB G + 278) q 1) (gB G + 278) i = flag (svV A q i)
    rw [ai_wai_upd]
    unfold svV
    by_cases e : i = q
    · rw [if_pos e, e, upd_eq]
      rfl
    · rw [if_neg e, upd_ne e, hO.ai (by unfold CA; omega)]
      exact (h2 i hi).1
  · have hs' : svV A q i = some s := hs
    unfold svV at hs'
    by_cases e : i = q
    · rw [if_pos e] at hs'
      cases hs'
      subst e
      exact CR.ag hC (fun f j hj => rfl) (fun f => rfl) (fun j k hj => ai_na (by omega))
    · rw [if_neg e] at hs'
      have n1 : ∀ {a : Nat}, gB G + (140 + 69 * i) ≤ a → a < gB G + (140 + 69 * i) + 69 → ¬ QA G q a := fun {a} ha hb => by unfold QA CA; omega
      exact ((h2 i hi).2 s hs').ag (fun f j hj => hO2.fi (n1 (by omega) (by omega)) f) (fun f => hO2.fl (n1 (by omega) (by omega)) f) (fun j k hj => hO2.ai (n1 (by omega) (by omega)) k)
  · rw [hO2.fi (n0 (by omega))]; exact h3
  · rw [hO2.ai (n0 (by omega))]; exact h4 k b hb
  · rw [hO2.fi (n0 (by omega))]; exact h5
  · rw [hO2.fi (n0 (by omega))]; exact h6
end SAVE
