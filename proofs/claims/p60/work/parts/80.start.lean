/-! THE LAW'S BEGINNING -/
def m00 (G : Cx) : Mm := (0, fun f a => nrl (a - gB G) f, fun _ _ => 0, fun _ _ => 0, fun _ _ => 0, fun _ _ => 0)
theorem Fr_00 (G : Cx) : Fr G (m00 G) 0 := fun j _ f => ⟨by show nrl (gB G + j - gB G) f = _; rw [Nat.add_sub_cancel_left], rfl, rfl, rfl, rfl⟩
/-- the same cells under another picture -/
theorem wp_cg {G : Cx} {d : Nat} {b : Nat × Nat} {μ : MI} {pc : Nat} {L S : List Value} {m m' : Mm} {Q : Option Value → Mm → Prop} (h1 : mN m' = mN m) (h2 : ∀ j, j < mN m → cel G m' j = cel G m j) (k : WP G d b μ pc L S m' Q) : WP G d b μ pc L S m Q := by
  intro p e R s mi args below meth c H locs cells slots ls F hR hS hL
  refine k p e R s mi args below meth c H locs cells slots ls F ?_ hS hL
  have hw : wld G m' = wld G m := by
    apply List.ext_getElem?
    intro i
    by_cases hi : i < mN m
    · rw [wld_at hi, wld_at (m := m') (by rw [h1]; exact hi), h2 i hi]
    · rw [List.getElem?_eq_none (by simp [wld]; omega), List.getElem?_eq_none (by simp [wld, h1]; omega)]
  exact ⟨by rw [hw]; exact hR.1, by rw [h1]; exact hR.2⟩
def mFl (m : Mm) : Mm := (m.1, fun _ _ => true, m.2.2)
theorem cel_Fl {G : Cx} {m : Mm} {j : Nat} (h : ∀ f, mI m f (gB G + j) = true) : cel G (mFl m) j = cel G m j := by
  have e1 : ∀ ci, flds G (mFl m) ci (gB G + j) = flds G m ci (gB G + j) := fun ci => by
    unfold flds
    apply List.map_congr_left
    intro k _
    unfold fval
    rw [h]
    rfl
  have e2 : elq G (mFl m) (gB G + j) = elq G m (gB G + j) := by
    funext k
    unfold elq
    rw [h]
    rfl
  unfold cel
  rw [e1, e2]
  rfl
def S00 : Nat → Int32 := fun k => if k = 1 then 10 else if k = 2 then 6000 else if k = 5 then 1361 else 0
def s00 : Sc := (S00, fun _ => 0, 0, 0, 0, [], [])
def A00 : Ab := (s00, fun _ => none, [], 0, -1)
theorem CIv_00 {G : Cx} {m m0 : Mm} (h : Ct G m0 m 0 293 VV Z2) : CIv G (mFl m) A00 := by
  have hf : ∀ f j, j < 293 → fi (mFl m) f (gB G + j) = VV j f := fun f j hj => by
    have := (h.2.2 j hj f).2.1
    rw [Nat.zero_add] at this
    exact this
  have hl : ∀ f j, j < 293 → fl (mFl m) f (gB G + j) = 0 := fun f j hj => by
    have := (h.2.2 j hj f).2.2.1
    rw [Nat.zero_add] at this
    exact this
  have ha : ∀ f j, j < 293 → ai (mFl m) (gB G + j) f = 0 := fun f j hj => by
    have := (h.2.2 j hj f).2.2.2.1
    rw [Nat.zero_add] at this
    exact this
  have hF : Full G (mFl m) := ⟨by show mN m = 293; rw [h.1], fun _ _ => rfl⟩
  have no : ∀ {α : Type} {i : Nat} {x : α} {P : Prop}, ([] : List α)[i]? = some x → P := fun h => by simp at h
  have e16 : own S00 16 = 0 := by decide +kernel
  have hvals : ∀ k, k < 18 → VV (1 + ofC k) (flC k) = S00 k ∧ 1 + ofC k < 293 := by decide +kernel
  have hC : CRx (mFl m) (gB G + 1) s00 := by
    refine ⟨⟨Out.rf, K6.rf, fun k hk hd => ?_, ⟨?_, ?_, ?_⟩, fun k hk => ?_⟩, ⟨?_, by decide, fun i x hx => no hx⟩, ⟨fun x hx => absurd hx List.not_mem_nil, List.Pairwise.nil⟩, fun i j hi hj => absurd hi (Nat.not_lt_zero _), fun i h hh => ?_, ⟨0, ?_, by decide, ?_, by decide, fun q R hR => no hR⟩, fun R hR => absurd hR List.not_mem_nil, by decide +kernel⟩
    · have hk18 : k < 18 := by unfold UD at hd; change k < 18 ∨ (20 ≤ k ∧ k < 20 + 11 * 0) ∨ (296 ≤ k ∧ k < 296 + 7 * 0) ∨ (338 ≤ k ∧ k < 338 + 8 * 0) at hd; omega
      obtain ⟨v1, v2⟩ := hvals k hk18
      rw [Nat.add_assoc, hf _ _ v2, v1]
      rfl
    · exact hl 603 9 (by omega)
    · exact hl 604 9 (by omega)
    · exact hl 605 9 (by omega)
    · have : k < own S00 16 := hk
      rw [e16] at this
      omega
    · exact (hf 6 1 (by omega)).trans (by decide +kernel)
    · have : rnk S00 0 = [] := by decide +kernel
      have hh' : (rnk S00 0)[i]? = some h := hh
      rw [this] at hh'
      exact no hh'
    · exact (hf 807 11 (by omega)).trans (by decide +kernel)
    · exact (hf 808 11 (by omega)).trans (by decide +kernel)
  have hG : GdS s00 := by
    refine ⟨⟨⟨by decide +kernel, by decide, by decide +kernel, by decide, by decide +kernel, by decide, ⟨?_, ?_, ?_, ?_, ?_, ?_, ?_⟩, fun i hi => absurd hi (Nat.not_lt_zero _), fun i hi => absurd hi (Nat.not_lt_zero _), fun i hi => absurd hi (Nat.not_lt_zero _), by decide +kernel⟩, fun i hi => absurd hi (Nat.not_lt_zero _)⟩, fun R hR => absurd hR List.not_mem_nil⟩
    all_goals (unfold rg; decide +kernel)
  refine ⟨hF, ⟨hC, fun i hi => ⟨?_, fun s hs => by cases hs⟩, ⟨(hf 701 279 (by omega)).trans (by decide +kernel), fun k b hb => no hb⟩, (hf 702 279 (by omega)).trans (by decide +kernel), (hf 703 279 (by omega)).trans (by decide +kernel)⟩, ⟨hG, (fun i s hi hs => by cases hs), by decide, fun b hb => absurd hb List.not_mem_nil⟩⟩
  exact ha i 278 (by omega)
