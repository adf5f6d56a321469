/-! THE CLASS'S STEP, method by method -/
section CSTEP
variable {G : Cx} {d : Nat} {m0 m : Mm} {c : Nat} {D : Nat → Prop} {Q : Option Value → Mm → Prop} {st : Nat → Int32} {en : Nat → Int64} {n nl nh : Nat} {T : Int}
theorem CS.full (h : CS m0 m c D st en) (hF : Full G m0) : Full G m := h.1.full hF
theorem C_sun (hF : Full G m) (hc : IsC G c) (h : CS m0 m c D st en) (hD : ∀ k, k < 8 → D k) (h2 : 0 < st 2) (k : Q (some (.int (sunF st))) m) : WPM G (d + 2) (0, 0) μX0_hasSun [.ref c] m Q := by
  have r0 : fi m 14 c = st 0 := h.rG 0 rfl rfl (by unfold VK; omega) (hD _ (by omega))
  have r2 : fi m 500 (c + 6) = st 2 := h.rG 2 rfl rfl (by unfold VK; omega) (hD _ (by omega))
  have r3 : fi m 501 (c + 6) = st 3 := h.rG 3 rfl rfl (by unfold VK; omega) (hD _ (by omega))
  have r4 : fi m 502 (c + 6) = st 4 := h.rG 4 rfl rfl (by unfold VK; omega) (hD _ (by omega))
  refine sC_sun hF hc (by rw [r2]; exact h2) ?_ (fun h => ?_) (fun h h' => ?_) (fun h h' => ?_)
  · rw [r2]
    intro e
    rw [e] at h2
    exact absurd h2 (by decide)
  all_goals try rw [r0, r2, r3] at h
  all_goals try rw [r0, r2, r4] at h'
  · rw [show sunF st = 1 from if_pos h] at k
    exact k
  · rw [show sunF st = 0 from (if_neg h).trans (if_pos h')] at k
    exact k
  · rw [show sunF st = 1 from (if_neg h).trans (if_neg h')] at k
    exact k
theorem C_pha (hF : Full G m) (hc : IsC G c) (h : CS m0 m c D st en) (hD : ∀ k, k < 8 → D k) (h2 : 0 < st 2) (k : Q (some (.int (phF st))) m) : WPM G (d + 2) (0, 0) μX0_phaseNow [.ref c] m Q := by
  have r0 : fi m 14 c = st 0 := h.rG 0 rfl rfl (by unfold VK; omega) (hD _ (by omega))
  have r2 : fi m 500 (c + 6) = st 2 := h.rG 2 rfl rfl (by unfold VK; omega) (hD _ (by omega))
  refine sC_pha hF hc (by rw [r2]; exact h2) ?_ ?_
  · rw [r2]
    intro e
    rw [e] at h2
    exact absurd h2 (by decide)
  · rw [r0, r2]
    exact k
theorem C_up (hF : Full G m) (hc : IsC G c) (h : CS m0 m c (UD n nl nh) st en) (hn : st 14 = nI nh) (h8 : nh ≤ 8) (k : Q (some (.int (upF st nh))) m) : WPM G (d + 1) (0, 0) μX0_powerInUse [.ref c] m Q := by
  have r8 : fi m 8 c = nI nh := (h.rG 14 rfl rfl (by unfold VK; omega) (by unfold UD; omega)).trans hn
  refine eC_up hF hc ?_
  refine loopN (n := nh) (P := fun _ m' => m' = m) (W := fun i m => WP G (d + 1) (0, 0) μX0_powerInUse 4 [.ref c, .int (upF st i), .int (nI i)] [] m Q) ?_ 0 (Nat.zero_le _) m rfl
  intro i m' hi hP ih
  subst hP
  refine bC_up hF hc r8 h8 hi (fun z => ?_) (fun z h' => ?_) (fun z h' => ?_)
  · have e : i = nh := by omega
    rw [e]
    exact k
  · have r : fi m' 107 (ht c i) = st (8 * i + 345) := h.rH 7 (by omega) (by omega) (by unfold UD; omega)
    rw [r] at h'
    have := ih z _ rfl
    rw [upF_s, if_neg h', Int32.add_zero] at this
    exact this
  · have r : fi m' 107 (ht c i) = st (8 * i + 345) := h.rH 7 (by omega) (by omega) (by unfold UD; omega)
    have r1 : fi m' 101 (ht c i) = st (8 * i + 339) := h.rH 1 (by omega) (by omega) (by unfold UD; omega)
    rw [r] at h'
    have := ih z _ rfl
    rw [upF_s, if_pos h', ← r1] at this
    exact this
theorem i32_sub_rg {a b : Int32} {x : Int} (h1 : rg a x 1000000000) (h2 : rg b x 1000000000) (hx : -1000000000 ≤ x) : (a - b).toInt = a.toInt - b.toInt := by
  rw [Int32.toInt_sub]
  have := h1.1
  have := h1.2
  have := h2.1
  have := h2.2
  apply Int.bmod_eq_of_le <;> omega
theorem toL_inj0 {a : Int32} (h : Int32.toInt64 a = 0) : a = 0 := by
  apply Int32.toInt_inj.mp
  have := congrArg Int64.toInt h
  rw [Int32.toInt_toInt64] at this
  exact this
theorem C_mv (hF : Full G m0) (hc : IsC G c) (h : CS m0 m c (UD n nl nh) st en) (hI : Inv T st n nl nh) (k : ∀ m', CS m0 m' c (UD n nl nh) (mvF st nl) en → Q none m') : WPM G (d + 3) (0, 0) μX0_moveLouvres [.ref c] m Q := by
  obtain ⟨i1, i2, i3, i4, i5, i6, i7, i8, i9, i10, i11⟩ := hI
  refine eC_mv (h.full hF) hc ?_
  refine loopN (n := nl) (P := fun i m => CS m0 m c (UD n nl nh) (mvF st i) en) (W := fun i m => WP G (d + 3) (0, 0) μX0_moveLouvres 2 [.ref c, .int (nI i)] [] m Q) ?_ 0 (Nat.zero_le _) m h
  intro i m' hi hP ih
  have r7 : fi m' 7 c = nI nl := ((hP.rG 13 rfl rfl (by unfold VK; omega) (by unfold UD; omega)).trans (mvF_ne st i (fun j _ => by omega))).trans i3
  have r5 : fi m' 5 c = nI n := ((hP.rG 12 rfl rfl (by unfold VK; omega) (by unfold UD; omega)).trans (mvF_ne st i (fun j _ => by omega))).trans i1
  by_cases hin : i < nl
  · obtain ⟨⟨o, ho, e⟩, b1, b2, b3, b4⟩ := i9 i hin
    have hi6 : i < 6 := by omega
    have rL : ∀ j, j < 7 → fi m' (300 + j) (lv c i) = mvF st i (7 * i + 296 + j) := fun j hj => hP.rL j hi6 hj (by unfold UD; omega)
    have eL : ∀ j, j < 7 → mvF st i (7 * i + 296 + j) = st (7 * i + 296 + j) := fun j hj => mvF_ne st i (fun q hq => by omega)
    have eo : mvF st i (7 * i + 296) = nI o := (eL 0 (by omega)).trans e
    refine bC_mv (hP.full hF) hc r7 i4 hi r5 i2 (fun _ => (rL 0 (by omega)).trans eo) (fun _ => ho) (fun z => absurd hin z) (fun h1 h2 => ?_) (fun h1 h2 => ?_)
    · have e2 : mvF st (i + 1) = mvF st i := by
        show mvS (mvF st i) i = _
        unfold mvS
        refine if_pos ?_
        have q1 : mvF st i (7 * i + 302) = st (7 * i + 302) := eL 6 (by omega)
        have q2 : fi m' 306 (lv c i) = mvF st i (7 * i + 302) := rL 6 (by omega)
        rw [q2, q1] at h2
        rw [q1]
        exact b4.resolve_left h2
      exact ih h1 _ (hP.eqv e2)
    · have q1 : mvF st i (7 * i + 302) = st (7 * i + 302) := eL 6 (by omega)
      have q2 : fi m' 306 (lv c i) = mvF st i (7 * i + 302) := rL 6 (by omega)
      rw [q2] at h2
      have e2 : mvF st (i + 1) = upd (mvF st i) (7 * i + 301) (opnF (mvF st i) o i) := by
        show mvS (mvF st i) i = _
        unfold mvS
        rw [if_neg (by rw [h2]; decide), own_of eo (by omega)]
      have t1 : fi m' 401 (nd c o) = mvF st i (11 * o + 21) := hP.rN 1 (by omega) (by omega) (by unfold UD; omega)
      have t2 : fi m' 302 (lv c i) = mvF st i (7 * i + 298) := rL 2 (by omega)
      have t3 : fi m' 303 (lv c i) = mvF st i (7 * i + 299) := rL 3 (by omega)
      have t4 : fi m' 304 (lv c i) = mvF st i (7 * i + 300) := rL 4 (by omega)
      have t5 : fi m' 305 (lv c i) = mvF st i (7 * i + 301) := rL 5 (by omega)
      refine ih h1 _ ?_
      rw [t1, t2, t3, t4, t5]
      have w2 : mvF st i (7 * i + 298) = st (7 * i + 298) := eL 2 (by omega)
      have w3 : mvF st i (7 * i + 299) = st (7 * i + 299) := eL 3 (by omega)
      have w4 : mvF st i (7 * i + 300) = st (7 * i + 300) := eL 4 (by omega)
      have hne : ¬ Int32.toInt64 (mvF st i (7 * i + 299) - mvF st i (7 * i + 298)) = 0 := by
        intro z
        have z2 := toL_inj0 z
        have z3 := congrArg Int32.toInt z2
        rw [w2, w3, i32_sub_rg (x := -1000000000) ⟨by have := b2.1; have := b1.1; omega, by have := b2.2; omega⟩ ⟨by have := b1.1; omega, by have := b1.2; omega⟩ (by omega)] at z3
        have := b2.1
        have z4 : (0 : Int32).toInt = 0 := rfl
        omega
      have hrt : ¬ Int32.toInt64 (mvF st i (7 * i + 300)) < Int32.toInt64 (-(mvF st i (7 * i + 300))) := by
        rw [w4, Int64.lt_iff_toInt_lt, Int32.toInt_toInt64, Int32.toInt_toInt64, Int32.toInt_neg]
        have := b3.1
        have := b3.2
        have q : Int.bmod (-(st (7 * i + 300)).toInt) (2 ^ 32) = -(st (7 * i + 300)).toInt := by apply Int.bmod_eq_of_le <;> omega
        rw [q]
        omega
      have key : mvF st i (7 * i + 301) + Int64.toInt32 (limF (Int32.toInt64 (Int64.toInt32 (limF (quoF (Int32.toInt64 (mvF st i (11 * o + 21) - mvF st i (7 * i + 298)) * 1000) (Int32.toInt64 (mvF st i (7 * i + 299) - mvF st i (7 * i + 298)))) 0 1000) - mvF st i (7 * i + 301))) (Int32.toInt64 (-mvF st i (7 * i + 300))) (Int32.toInt64 (mvF st i (7 * i + 300)))) = opnF (mvF st i) o i := by
        unfold opnF tgtF
        rw [quoF_eq hne, limF_eq (x := 0) (y := 1000) (by decide), limF_eq hrt]
      rw [key]
      exact (hP.wL 5 hi6 (by omega) (fun k hk => Or.inl hk)).eqv e2
  · refine bC_mv (o := 0) (hP.full hF) hc r7 i4 hi r5 i2 (fun z => absurd z hin) (fun z => absurd z hin) (fun _ => ?_) (fun z => absurd z hin) (fun z => absurd z hin)
    have e : i = nl := by omega
    rw [e] at hP
    exact k m' hP
theorem C_dw (hF : Full G m0) (hc : IsC G c) (h : CS m0 m c (UX n nl nh (List.range nh)) st en) (hI : Iv T st n nl nh) (k : ∀ m', CS m0 m' c (UX n nl nh (List.range nh)) (w1F st nh) en → Q none m') : WPM G (d + 3) (0, 0) μX0_decideWishes [.ref c] m Q := by
  obtain ⟨⟨i1, i2, i3, i4, i5, i6, i7, i8, i9, i10, i11⟩, i12⟩ := hI
  have uu : ∀ k, UD n nl nh k → k < 345 ∨ (k - 345) % 8 ≠ 0 → UX n nl nh (List.range nh) k := fun k h1 h2 => ⟨h1, fun j _ => by omega⟩
  refine eC_dw (h.full hF) hc ?_
  refine loopN (n := nh) (P := fun i m => CS m0 m c (UX n nl nh (List.range nh)) (w1F st i) en) (W := fun i m => WP G (d + 3) (0, 0) μX0_decideWishes 2 [.ref c, .int (nI i)] [] m Q) ?_ 0 (Nat.zero_le _) m h
  intro i m' hi hP ih
  have r8 : fi m' 8 c = nI nh := ((hP.rG 14 rfl rfl (by unfold VK; omega) (uu _ (by unfold UD; omega) (by omega))).trans (w1F_ne st i (fun j _ => by omega))).trans i5
  have r5 : fi m' 5 c = nI n := ((hP.rG 12 rfl rfl (by unfold VK; omega) (uu _ (by unfold UD; omega) (by omega))).trans (w1F_ne st i (fun j _ => by omega))).trans i1
  by_cases hin : i < nh
  · obtain ⟨⟨o, ho, e⟩, b1, b2, b3⟩ := i10 i hin
    have hi8 : i < 8 := by omega
    have rH : ∀ j, j < 7 → fi m' (100 + j) (ht c i) = w1F st i (8 * i + 338 + j) := fun j hj => hP.rH j hi8 (by omega) (uu _ (by unfold UD; omega) (by omega))
    have eH : ∀ j, j < 8 → w1F st i (8 * i + 338 + j) = st (8 * i + 338 + j) := fun j hj => w1F_ne st i (fun q hq => by omega)
    have eo : w1F st i (8 * i + 338) = nI o := (eH 0 (by omega)).trans e
    have t1 : fi m' 401 (nd c o) = w1F st i (11 * o + 21) := hP.rN 1 (by omega) (by omega) (uu _ (by unfold UD; omega) (by omega))
    have t2 : fi m' 102 (ht c i) = w1F st i (8 * i + 340) := rH 2 (by omega)
    have t3 : fi m' 103 (ht c i) = w1F st i (8 * i + 341) := rH 3 (by omega)
    have t5 : fi m' 105 (ht c i) = w1F st i (8 * i + 343) := rH 5 (by omega)
    have t6 : fi m' 106 (ht c i) = w1F st i (8 * i + 344) := rH 6 (by omega)
    have w5 : w1F st i (8 * i + 343) = st (8 * i + 343) := eH 5 (by omega)
    have hmo := i12 i hin
    rw [← w5] at hmo
    have hnx : ¬ UX n nl nh (List.range nh) (8 * i + 345) := fun z => z.2 i (List.mem_range.mpr hin) rfl
    have key : ∀ w, wshF (w1F st i) o i = w → CS m0 (wfi m' 106 (ht c i) w) c (UX n nl nh (List.range nh)) (w1F st (i + 1)) en := by
      intro w hw
      have e2 : w1F st (i + 1) = upd (upd (w1F st i) (8 * i + 344) w) (8 * i + 345) 0 := by
        show w1S (w1F st i) i = _
        unfold w1S
        rw [own_of eo (by omega), hw]
      rw [e2]
      exact (hP.wH 6 hi8 (by omega) (fun k hk => Or.inl hk)).ign hnx (by omega) (by omega)
    refine bC_dw (hP.full hF) hc r8 i6 hi r5 i2 (fun _ => (rH 0 (by omega)).trans eo) (fun _ => ho) (fun z => absurd hin z) (fun h1 h2 h3 h4 h5 => ?_) (fun h1 h2 h3 h4 h5 => ?_) (fun h1 h2 h3 h4 => ?_) (fun h1 h2 h3 => ?_) (fun h1 h2 => ?_)
    · rw [t5] at h2 h3
      rw [t1, t2] at h4
      rw [t1, t3] at h5
      have hm0 := hmo.resolve_right (fun z => z.elim h2 h3)
      have e2 : w1F st (i + 1) = upd (w1F st i) (8 * i + 345) 0 := by
        show w1S (w1F st i) i = _
        unfold w1S
        rw [own_of eo (by omega)]
        unfold wshF
        rw [if_pos hm0, if_neg h4, if_neg h5]
        congr 1
        funext j
        by_cases hj : j = 8 * i + 344
        · subst hj
          rw [upd_eq]
        · rw [upd_ne hj]
      exact ih h1 _ ((hP.ign hnx (by omega) (by omega)).eqv e2)
    · rw [t5] at h2 h3
      rw [t1, t2] at h4
      rw [t1, t3] at h5
      have hm0 := hmo.resolve_right (fun z => z.elim h2 h3)
      exact ih h1 _ (key _ (by unfold wshF; rw [if_pos hm0, if_neg h4, if_pos h5]))
    · rw [t5] at h2 h3
      rw [t1, t2] at h4
      have hm0 := hmo.resolve_right (fun z => z.elim h2 h3)
      exact ih h1 _ (key _ (by unfold wshF; rw [if_pos hm0, if_pos h4]))
    · rw [t5] at h2 h3
      exact ih h1 _ (key _ (by unfold wshF; rw [if_neg (by rw [h3]; decide), if_neg h2]))
    · rw [t5] at h2
      exact ih h1 _ (key _ (by unfold wshF; rw [if_neg (by rw [h2]; decide), if_pos h2]))
  · refine bC_dw (o := 0) (hP.full hF) hc r8 i6 hi r5 i2 (fun z => absurd z hin) (fun z => absurd z hin) (fun _ => ?_) (fun z => absurd z hin) (fun z => absurd z hin) (fun z => absurd z hin) (fun z => absurd z hin) (fun z => absurd z hin)
    have e : i = nh := by omega
    rw [e] at hP
    exact k m' hP
end CSTEP
