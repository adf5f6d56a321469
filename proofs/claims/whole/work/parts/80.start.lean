/-! THE LAW'S BEGINNING -/
def V11 : Nat → Nat → Int32 := fun j' f' => if j' = 0 ∧ f' = 1119 then (-1) else 0
def A11 : Nat → Nat → Int32 := fun j' f' => if j' = 1 ∧ f' = 5 then 1361 else if j' = 1 ∧ f' = 2 then 6000 else if j' = 1 ∧ f' = 1 then 10 else 0
def VL : Nat → Nat → Int32 := fun j f => if j < 293 then VV j f else V11 (j - 293) f
def AL : Nat → Nat → Int32 := fun j f => if j < 293 then 0 else A11 (j - 293) f
theorem VL_2 {j f : Nat} : V11 j f = VL (0 + 293 + j) f := by
  unfold VL
  rw [if_neg (by omega), show 0 + 293 + j - 293 = j by omega]
theorem AL_2 {j f : Nat} : A11 j f = AL (0 + 293 + j) f := by
  unfold AL
  rw [if_neg (by omega), show 0 + 293 + j - 293 = j by omega]
/-- the memory with nothing made -/
def m00 (G : Cx) : Mm := (0, fun f a => nrl (a - gB G) f, fun _ _ => 0, fun _ _ => 0, fun _ _ => 0, fun _ _ => 0)
theorem Fr_00 (G : Cx) : Fr G (m00 G) 0 := fun j _ f => ⟨by show nrl (gB G + j - gB G) f = _; rw [Nat.add_sub_cancel_left], rfl, rfl, rfl, rfl⟩
/-- the same cells under another picture -/
theorem wp_cg {G : Cx} {d : Nat} {b : Nat × Nat} {μ : MI} {pc : Nat} {L S : List Value} {m m' : Mm} {Q : Option Value → Mm → Prop} (h1 : mN m' = mN m) (h2 : ∀ j, j < mN m → cel G m' j = cel G m j) (k : WP G d b μ pc L S m' Q) : WP G d b μ pc L S m Q := by
  intro p e R s mi args below meth c H locs cells slots ls F hR hS hL
  refine k p e R s mi args below meth c H locs cells slots ls F ?_ hS hL
  have hw : wld G m' = wld G m := by
    apply List.ext_getElem?
    intro i
    by_cases hi : i < mN m
    · rw [wld_at hi, wld_at (m := m') (by rw [h1]; exact hi), h2 i hi]
    · rw [List.getElem?_eq_none (by simp [wld]; omega), List.getElem?_eq_none (by simp [wld, h1]; omega)]
  exact ⟨by rw [hw]; exact hR.1, by rw [h1]; exact hR.2⟩
def mFl (m : Mm) : Mm := (m.1, fun _ _ => true, m.2.2)
theorem cel_Fl {G : Cx} {m : Mm} {j : Nat} (h : ∀ f, mI m f (gB G + j) = true) : cel G (mFl m) j = cel G m j := by
  have e1 : ∀ ci, flds G (mFl m) ci (gB G + j) = flds G m ci (gB G + j) := fun ci => by
    unfold flds
    apply List.map_congr_left
    intro k _
    unfold fval
    rw [h]
    rfl
  have e2 : elq G (mFl m) (gB G + j) = elq G m (gB G + j) := by
    funext k
    unfold elq
    rw [h]
    rfl
  unfold cel
  rw [e1, e2]
  rfl
def s00 : Sc := (AL 294, fun _ => 0, 0, 0, 0, [], [])
def A00 : Ab := (s00, fun _ => none, [], 0, -1)
section START
variable {G : Cx} {d : Nat} {m : Mm} {Q : Option Value → Mm → Prop}
theorem LIv_00 {m0 : Mm} (h : Ct G m0 m 0 308 VL AL) : LIv G (mFl m) A00 := by
  have hf : ∀ f j, j < 308 → fi (mFl m) f (gB G + j) = VL j f := fun f j hj => by
    have := (h.2.2 j hj f).2.1
    rw [Nat.zero_add] at this
    exact this
  have hl : ∀ f j, j < 308 → fl (mFl m) f (gB G + j) = 0 := fun f j hj => by
    have := (h.2.2 j hj f).2.2.1
    rw [Nat.zero_add] at this
    exact this
  have ha : ∀ f j, j < 308 → ai (mFl m) (gB G + j) f = AL j f := fun f j hj => by
    have := (h.2.2 j hj f).2.2.2.1
    rw [Nat.zero_add] at this
    exact this
  have hal : ∀ f j, j < 308 → al (mFl m) (gB G + j) f = 0 := fun f j hj => by
    have := (h.2.2 j hj f).2.2.2.2
    rw [Nat.zero_add] at this
    exact this
  have hF : Full G (mFl m) := ⟨by show mN m = 308; rw [h.1], fun _ _ => rfl⟩
  have no : ∀ {α : Type} {i : Nat} {x : α} {P : Prop}, ([] : List α)[i]? = some x → P := fun h => by simp at h
  have e16 : own (AL 294) 16 = 0 := by decide +kernel
  have hvals : ∀ k, k < 18 → VL (1 + ofC k) (flC k) = AL 294 k ∧ 1 + ofC k < 308 := by decide +kernel
  have hC : CRx (mFl m) (gB G + 1) s00 := by
    refine ⟨⟨Out.rf, K6.rf, fun k hk hd => ?_, ⟨?_, ?_, ?_⟩, fun k hk => ?_⟩, ⟨?_, by decide, fun i x hx => no hx⟩, ⟨fun x hx => absurd hx List.not_mem_nil, List.Pairwise.nil⟩, fun i j hi hj => absurd hi (Nat.not_lt_zero _), fun i h hh => ?_, ⟨0, ?_, by decide, ?_, by decide, fun q R hR => no hR⟩, fun R hR => absurd hR List.not_mem_nil, by decide +kernel⟩
    · have hk18 : k < 18 := by unfold UD at hd; change k < 18 ∨ (20 ≤ k ∧ k < 20 + 11 * 0) ∨ (296 ≤ k ∧ k < 296 + 7 * 0) ∨ (338 ≤ k ∧ k < 338 + 8 * 0) at hd; omega
      obtain ⟨v1, v2⟩ := hvals k hk18
      rw [Nat.add_assoc, hf _ _ v2, v1]
      rfl
    · exact hl 603 9 (by omega)
    · exact hl 604 9 (by omega)
    · exact hl 605 9 (by omega)
    · have : k < own (AL 294) 16 := hk
      rw [e16] at this
      omega
    · exact (hf 6 1 (by omega)).trans (by decide +kernel)
    · have : rnk (AL 294) 0 = [] := by decide +kernel
      have hh' : (rnk (AL 294) 0)[i]? = some h := hh
      rw [this] at hh'
      exact no hh'
    · exact (hf 807 11 (by omega)).trans (by decide +kernel)
    · exact (hf 808 11 (by omega)).trans (by decide +kernel)
  have hG : GdS s00 := by
    refine ⟨⟨⟨by decide +kernel, by decide, by decide +kernel, by decide, by decide +kernel, by decide, ⟨?_, ?_, ?_, ?_, ?_, ?_, ?_⟩, fun i hi => absurd hi (Nat.not_lt_zero _), fun i hi => absurd hi (Nat.not_lt_zero _), fun i hi => absurd hi (Nat.not_lt_zero _), by decide +kernel⟩, fun i hi => absurd hi (Nat.not_lt_zero _)⟩, by decide +kernel, by decide, fun r R hR => no hR⟩
    all_goals (unfold rg; decide +kernel)
  refine ⟨hF, ⟨hC, fun i hi => ⟨?_, fun s hs => by cases hs⟩, ⟨(hf 701 279 (by omega)).trans (by decide +kernel), fun k b hb => no hb⟩, (hf 702 279 (by omega)).trans (by decide +kernel), (hf 703 279 (by omega)).trans (by decide +kernel)⟩, ⟨?_, ?_, fun i hi => ⟨?_, fun s hs => by cases hs⟩, ⟨(hf 1111 293 (by omega)).trans (by decide +kernel), fun k b hb => no hb⟩, (hf 1118 293 (by omega)).trans (by decide +kernel), (hf 1119 293 (by omega)).trans (by decide +kernel)⟩, hG, (fun i s hi hs => by cases hs), by decide, fun b hb => absurd hb List.not_mem_nil⟩
  · exact ha i 278 (by omega)
  · funext k
    exact ha k 294 (by omega)
  · funext k
    exact hal k 297 (by omega)
  · refine (ha i 300 (by omega)).trans ?_
    show A11 7 i = 0
    unfold A11
    rw [if_neg (by omega), if_neg (by omega), if_neg (by omega)]
theorem law_start (K50 : Case50 G) (hl : gSl G < 4000) (fin : ∀ m, Q (some (.int (1 : Int32))) m) : WP G (d + 100) (308, 18010) μL_law 0 [.ref (gSa G), lvU, lvU, lvU] [] (m00 G) Q := by
  have h0 : Bd G (m00 G) (m00 G) 0 0 VL AL P0 := Bd.zero rfl
  have hF := Fr_00 G
  refine bp_new (o := 0) (n := 0) (ci := 10) (N := 5) (b1 := 307) (b2 := 18005) tyX10 h0 (hF (0 + 0) (Nat.le_refl _)) dL_law_0 rfl CL_7 IX10 iX10 uw10 dvX10 rfl ?_
  refine wp_dup dL_law_3 rfl ?_
  refine wp_callI (As := []) (b' := (292, 9623)) (b := (15, 8382)) dL_law_4 ML_9 rfl rfl (Nat.le_of_ble_eq_true rfl) ?_
  refine C_X10_init (d := d + 96) rfl (h0.fr hF) (fun m1 t1 => ?_)
  have h1 := Bd_ct (V := VL) (A := AL) h0 t1 (fun j f hj => by unfold VL; rw [if_pos (by omega), Nat.zero_add]) (fun j f hj => by unfold AL; rw [if_pos (by omega)])
  refine wp_astore_n dL_law_7 (by decide) rfl ?_
  refine bp_new (o := 0) (n := 293) (ci := 11) (N := 28) (b1 := 14) (b2 := 8354) tyX11 h1 (hF (0 + 293) (Nat.zero_le _)) dL_law_8 rfl CL_10 IX11 iX11 uw11 dvX11 (by decide +kernel) ?_
  refine wp_dup dL_law_11 rfl ?_
  refine wp_callI (As := []) (b' := (14, 8354)) (b := (0, 0)) dL_law_12 ML_12 rfl rfl (Nat.le_of_ble_eq_true rfl) ?_
  refine C_X11_init (d := d + 98) (o := 0 + 293) rfl (h1.fr (fun j hj => hF j (Nat.zero_le _))) (by decide +kernel) (by decide +kernel) (by decide +kernel) (by decide +kernel) (by decide +kernel) (by decide +kernel) (by decide +kernel) (by decide +kernel) (by decide +kernel) (by decide +kernel) (by decide +kernel) (by decide +kernel) (by decide +kernel) (by decide +kernel) (by decide +kernel) (by decide +kernel) (by decide +kernel) (by decide +kernel) (by decide +kernel) (by decide +kernel) (by decide +kernel) (by decide +kernel) (by decide +kernel) (by decide +kernel) (by decide +kernel) (by decide +kernel) (by decide +kernel) (by decide +kernel) (by decide +kernel) (fun m2 t2 => ?_)
  have h2 : Bd G (m00 G) m2 0 (0 + 293 + 15) VL AL P0 := Bd_ct (V1 := V11) (A1 := A11) h1 t2 (fun j f _ => VL_2) (fun j f _ => AL_2)
  refine wp_astore_n dL_law_15 (by decide) rfl ?_
  refine wp_iconst (0 : Int32) dL_law_16 (by decide) ?_
  refine wp_istore_n dL_law_17 (by decide) rfl ?_
  have hLv := LIv_00 (m0 := m00 G) h2
  refine wp_cg (m' := mFl m2) rfl (fun j hj => cel_Fl (fun f => ?_)) ?_
  · have hm : mN m2 = 308 := h2.1
    rw [hm] at hj
    have := (h2.2.2 j hj f).1.resolve_right (fun z => z)
    rw [Nat.zero_add] at this
    exact this
  · exact law_loop K50 hl fin (gSl G) 0 _ _ (Nat.sub_le _ _) (Nat.zero_le _) hLv
end START
