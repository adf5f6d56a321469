/-! SAVED CRAFTS -/
section SAVE
variable {n nl nh : Nat}
theorem CodM_eq2 {st st' : Nat → Int32} (h : ∀ k, k < 1486 → st' k = st k) : ∀ (cs : List Cd) (i : Nat), i + cs.length ≤ 500 → CodM st i cs → CodM st' i cs
  | [], _, _, _ => trivial
  | c :: cs, i, hl, ⟨h1, h2, h3⟩ => by
    rw [List.length_cons] at hl
    exact ⟨(h _ (by omega)).trans h1, (h _ (by omega)).trans h2, CodM_eq2 h cs (i + 1) (by omega) h3⟩
theorem RulM_eq2 {st st' : Nat → Int32} {r : Nat} {R : Ru} (hr : r < 12) (h : ∀ k, k < 1486 → st' k = st k) (hR : RulM st r R) : RulM st' r R := by
  obtain ⟨i, j, h1, h2, h3, h4, h5, h6, h7⟩ := hR
  refine ⟨i, j, (h _ (by omega)).trans h1, (h _ (by omega)).trans h2, h3, CodM_eq2 h _ _ h3 h4, (h _ (by omega)).trans h5, (h _ (by omega)).trans h6, fun q => ?_⟩
  obtain ⟨a1, a2, a3, a4⟩ := h7 q
  exact ⟨(h _ (by omega)).trans a1, (h _ (by omega)).trans a2, a3, CodM_eq2 h _ _ a3 a4⟩
theorem RulsM.eqS {st st' : Nat → Int32} {L : List Ru} (h : RulsM st n nl nh L) (e : ∀ k, k < 1486 → st' k = st k) : RulsM st' n nl nh L := by
  obtain ⟨a1, a2, a3⟩ := h
  refine ⟨(e 15 (by omega)).trans a1, a2, fun r R hr => ⟨RulM_eq2 ?_ e (a3 r R hr).1, (a3 r R hr).2⟩⟩
  have := (List.getElem?_eq_some_iff.mp hr).1
  omega
theorem Iv.eqS {T : Int} {st st' : Nat → Int32} (h : Iv T st n nl nh) (e : ∀ k, k < 1486 → st' k = st k) : Iv T st' n nl nh := by
  obtain ⟨⟨i1, i2, i3, i4, i5, i6, ⟨j1, j2, j3, j4, j5, j6, j7⟩, i8, i9, i10, i11⟩, i12⟩ := h
  refine ⟨⟨(e 12 (by omega)).trans i1, i2, (e 13 (by omega)).trans i3, i4, (e 14 (by omega)).trans i5, i6, ⟨?_, ?_, ?_, ?_, ?_, ?_, ?_⟩, fun i hi => ?_, fun i hi => ?_, fun i hi => ?_, ?_⟩, fun i hi => ?_⟩
  · rw [e 0 (by omega)]; exact j1
  · rw [e 1 (by omega)]; exact j2
  · rw [e 2 (by omega)]; exact j3
  · rw [e 8 (by omega)]; exact j4
  · rw [e 9 (by omega)]; exact j5
  · rw [e 10 (by omega)]; exact j6
  · rw [e 11 (by omega), e 10 (by omega)]; exact j7
  · have := i8 i hi
    unfold InvN at this ⊢
    rw [e (11 * i + 20) (by omega), e (11 * i + 21) (by omega), e (11 * i + 29) (by omega), e (11 * i + 30) (by omega), e 0 (by omega)]
    exact this
  · have := i9 i hi
    unfold InvL at this ⊢
    rw [e (7 * i + 296) (by omega), e (7 * i + 298) (by omega), e (7 * i + 299) (by omega), e (7 * i + 300) (by omega), e (7 * i + 302) (by omega)]
    exact this
  · have := i10 i hi
    unfold InvH at this ⊢
    rw [e (8 * i + 338) (by omega), e (8 * i + 339) (by omega), e (8 * i + 342) (by omega), e (8 * i + 344) (by omega)]
    exact this
  · rw [e 16 (by omega), i11]
    exact congrArg nI (vcnt_eq n (fun j hj => e _ (by omega))).symm
  · rw [e _ (by omega)]
    exact i12 i hi
theorem CR.eqS {T : Int} {m : Mm} {c : Nat} {st st' : Nat → Int32} {en en' : Nat → Int64} {L : List Ru} {l : List Lk} (h : CR m c st en n nl nh L l) (hI : Iv T st n nl nh) (e : ∀ k, k < 1486 → st' k = st k) (ee : ∀ w, w < 3 → en' w = en w) : CR m c st' en' n nl nh L l := by
  obtain ⟨⟨s1, s2, s3, ⟨e1, e2, e3⟩, s5⟩, b, a3, a4, a5, a6, a7, a8⟩ := h
  obtain ⟨⟨i1, i2, i3, i4, i5, i6, -, i8, i9, i10, i11⟩, i12⟩ := hI
  refine ⟨⟨Out.rf, K6.rf, fun k hk hd => (s3 k hk hd).trans (e k (by have := hk.lt; omega)).symm, ⟨e1.trans (ee 0 (by omega)).symm, e2.trans (ee 1 (by omega)).symm, e3.trans (ee 2 (by omega)).symm⟩, fun k hk => ?_⟩, b, a3, fun i j hi hj => (e _ (by omega)).trans (a4 i j hi hj), a5.of (fun _ => rfl) (fun j hj => e _ (by omega)), a6, a7, (e 15 (by omega)).trans a8⟩
  have eo : own st' 16 = own st 16 := by unfold own; rw [e 16 (by omega)]
  have hv := own_of i11 (by have := vcnt_le st n; omega)
  have := vcnt_le st n
  rw [eo] at hk
  exact (s5 k hk).trans (e _ (by omega)).symm
theorem cpy_s {α : Type} {f g : Nat → α} {sp dp j : Nat} : ∀ k, va_cpy f g sp dp (j + 1) k = if k = dp + j then f (sp + j) else va_cpy f g sp dp j k := by
  intro k
  unfold va_cpy
  by_cases h : k = dp + j
  · rw [if_pos h, if_pos (by omega), h, Nat.add_sub_cancel_left]
  · rw [if_neg h]
    by_cases h2 : dp ≤ k ∧ k < dp + j
    · rw [if_pos h2, if_pos (by omega)]
    · rw [if_neg h2, if_neg (by omega)]
theorem cpy_u {f g : Nat → Int32} {sp dp j k : Nat} {v : Int32} (hk : k = dp + j) (hv : v = f (sp + j)) : upd (va_cpy f g sp dp j) k v = va_cpy f g sp dp (j + 1) := by
  funext i
  rw [cpy_s, hk, hv]
  by_cases h : i = dp + j
  · rw [if_pos h, h, upd_eq]
  · rw [if_neg h, upd_ne h]
theorem cpy_ul {f g : Nat → Int64} {sp dp j k : Nat} {v : Int64} (hk : k = dp + j) (hv : v = f (sp + j)) : vp_updL (va_cpy f g sp dp j) k v = va_cpy f g sp dp (j + 1) := by
  funext i
  rw [cpy_s, hk, hv]
  by_cases h : i = dp + j
  · rw [if_pos h, h]
    simp [vp_updL]
  · rw [if_neg h]
    simp [vp_updL, h]
theorem cpy_z {α : Type} {f g : Nat → α} {sp dp : Nat} : va_cpy f g sp dp 0 = g := by
  funext k
  unfold va_cpy
  rw [if_neg (by omega)]
def svV (A : Ab) (q : Nat) : Nat → Option Sc := fun i => if i = q then some (aS A) else aV A i
def QA (G : Cx) (q a : Nat) : Prop := a = gB G + 278 ∨ CA (gB G + (140 + 69 * q)) a
def QB (G : Cx) (a : Nat) : Prop := a = gB G + 296 ∨ a = gB G + 299 ∨ a = gB G + 300
variable {G : Cx} {m m1 m' : Mm} {A : Ab} {q : Nat}
theorem Cls.sv (h : Cls G m A) (hq : q < 2) (hO : Out (CA (gB G + (140 + 69 * q))) m1 m) (hC : CRx m1 (gB G + (140 + 69 * q)) (aS A)) : Cls G (wai m1 (gB G + 278) q 1) (A.1, svV A q, A.2.2) := by
  obtain ⟨h1, h2, ⟨h3, h4⟩, h5, h6⟩ := h
  have hO2 : Out (QA G q) (wai m1 (gB G + 278) q 1) m := (hO.mono (fun a ha => Or.inr ha)).wai (Or.inl rfl)
  have n0 : ∀ {a : Nat}, a < gB G + 140 ∨ gB G + 279 ≤ a → ¬ QA G q a := fun {a} ha => by unfold QA CA; omega
  refine ⟨h1.ag (fun f j hj => hO2.fi (n0 (by omega)) f) (fun f => hO2.fl (n0 (by omega)) f) (fun j k hj => hO2.ai (n0 (by omega)) k), fun i hi => ⟨?_, fun s hs => ?_⟩, ⟨?_, fun k b hb => ?_⟩, ?_, ?_⟩
  · show ai (wai m1 (gB G + 278) q 1) (gB G + 278) i = flag (svV A q i)
    rw [ai_wai_upd]
    unfold svV
    by_cases e : i = q
    · rw [if_pos e, e, upd_eq]
      rfl
    · rw [if_neg e, upd_ne e, hO.ai (by unfold CA; omega)]
      exact (h2 i hi).1
  · have hs' : svV A q i = some s := hs
    unfold svV at hs'
    by_cases e : i = q
    · rw [if_pos e] at hs'
      cases hs'
      subst e
      exact CR.ag hC (fun f j hj => rfl) (fun f => rfl) (fun j k hj => ai_na (by omega))
    · rw [if_neg e] at hs'
      have n1 : ∀ {a : Nat}, gB G + (140 + 69 * i) ≤ a → a < gB G + (140 + 69 * i) + 69 → ¬ QA G q a := fun {a} ha hb => by unfold QA CA; omega
      exact ((h2 i hi).2 s hs').ag (fun f j hj => hO2.fi (n1 (by omega) (by omega)) f) (fun f => hO2.fl (n1 (by omega) (by omega)) f) (fun j k hj => hO2.ai (n1 (by omega) (by omega)) k)
  · rw [hO2.fi (n0 (by omega))]; exact h3
  · rw [hO2.ai (n0 (by omega))]; exact h4 k b hb
  · rw [hO2.fi (n0 (by omega))]; exact h5
  · rw [hO2.fi (n0 (by omega))]; exact h6
theorem Ref.sv (h : Ref G m A) (hq : q < 2) (hO : Out (QB G) m' m) (h1 : ai m' (gB G + 296) = va_cpy (ai m (gB G + 294)) (ai m (gB G + 296)) 0 (1486 * q) 1486) (h2 : al m' (gB G + 299) = va_cpy (al m (gB G + 297)) (al m (gB G + 299)) 0 (3 * q) 3) (h3 : ai m' (gB G + 300) = upd (ai m (gB G + 300)) q 1) : Ref G m' (A.1, svV A q, A.2.2) := by
  obtain ⟨r1, r2, r3, ⟨r4, r5⟩, r6, r7⟩ := h
  refine ⟨?_, ?_, fun i hi => ⟨?_, fun s hs => ?_⟩, ⟨?_, fun k b hb => ?_⟩, ?_, ?_⟩
  · rw [← r1]; funext k; exact hO.ai (by unfold QB; omega) k
  · rw [← r2]; funext k; exact hO.al (by unfold QB; omega) k
  · show ai m' (gB G + 300) i = flag (svV A q i)
    rw [h3]
    unfold svV
    by_cases e : i = q
    · rw [if_pos e, e, upd_eq]
      rfl
    · rw [if_neg e, upd_ne e]
      exact (r3 i hi).1
  · have hs' : svV A q i = some s := hs
    unfold svV at hs'
    rw [h1, h2]
    by_cases e : i = q
    · rw [if_pos e] at hs'
      cases hs'
      subst e
      refine ⟨fun k hk => ?_, fun w hw => ?_⟩
      · unfold va_cpy
        rw [if_pos (by omega), Nat.add_sub_cancel_left, Nat.zero_add, r1]
      · unfold va_cpy
        rw [if_pos (by omega), Nat.add_sub_cancel_left, Nat.zero_add, r2]
    · rw [if_neg e] at hs'
      obtain ⟨t1, t2⟩ := (r3 i hi).2 s hs'
      refine ⟨fun k hk => ?_, fun w hw => ?_⟩
      · unfold va_cpy
        rw [if_neg (by omega)]
        exact t1 k hk
      · unfold va_cpy
        rw [if_neg (by omega)]
        exact t2 w hw
  · rw [hO.fi (by unfold QB; omega)]; exact r4
  · rw [hO.ai (by unfold QB; omega)]; exact r5 k b hb
  · rw [hO.fi (by unfold QB; omega)]; exact r6
  · rw [hO.fi (by unfold QB; omega)]; exact r7
theorem QB_RC {a : Nat} (h : QB G a) : RC G a := by unfold QB at h; unfold RC; omega
theorem QA_CC {a : Nat} (hq : q < 2) (h : QA G q a) : CC G a := by unfold QA CA at h; unfold CC; omega
theorem LIv_sv {m2 : Mm} (hL : LIv G m A) (hq : q < 2) (hF : Full G m2) (hO : Out (CA (gB G + (140 + 69 * q))) m1 m) (hC : CRx m1 (gB G + (140 + 69 * q)) (aS A)) (hO2 : Out (QB G) m2 (wai m1 (gB G + 278) q 1)) (h1 : ai m2 (gB G + 296) = va_cpy (ai m (gB G + 294)) (ai m (gB G + 296)) 0 (1486 * q) 1486) (h2 : al m2 (gB G + 299) = va_cpy (al m (gB G + 297)) (al m (gB G + 299)) 0 (3 * q) 3) (h3 : ai m2 (gB G + 300) = upd (ai m (gB G + 300)) q 1) : LIv G m2 (A.1, svV A q, A.2.2) := by
  have hO3 : Out (QA G q) (wai m1 (gB G + 278) q 1) m := (hO.mono (fun a ha => Or.inr ha)).wai (Or.inl rfl)
  have e1 : ∀ j, 293 ≤ j → ai (wai m1 (gB G + 278) q 1) (gB G + j) = ai m (gB G + j) := fun j hj => by
    funext k
    exact hO3.ai (by unfold QA CA; omega) k
  have e2 : ∀ j, 293 ≤ j → al (wai m1 (gB G + 278) q 1) (gB G + j) = al m (gB G + j) := fun j hj => by
    funext k
    exact hO3.al (by unfold QA CA; omega) k
  refine ⟨hF, (hL.2.1.sv hq hO hC).ref (hO2.mono (fun a ha => QB_RC ha)), (hL.2.2.1.cls (hO3.mono (fun a ha => QA_CC hq ha))).sv hq hO2 ?_ ?_ ?_, hL.2.2.2.1, fun i s hi hs => ?_, hL.2.2.2.2.2⟩
  · rw [e1 294 (by omega), e1 296 (by omega)]; exact h1
  · rw [e2 297 (by omega), e2 299 (by omega)]; exact h2
  · rw [e1 300 (by omega)]; exact h3
  · have hs' : svV A q i = some s := hs
    unfold svV at hs'
    by_cases e : i = q
    · rw [if_pos e] at hs'
      cases hs'
      exact hL.2.2.2.1
    · rw [if_neg e] at hs'
      exact hL.2.2.2.2.1 i s hi hs'
end SAVE
