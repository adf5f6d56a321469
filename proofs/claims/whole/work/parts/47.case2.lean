theorem LIv.h2 {G : Cx} {m : Mm} {A : Ab} (h : LIv G m A) : 0 < sS (aS A) 2 := by
  have := h.iv.1.2.2.2.2.2.2.1.2.2.1.1
  rw [Int32.lt_iff_toInt_lt]
  have z : (0 : Int32).toInt = 0 := rfl
  omega
theorem LIv.cs {G : Cx} {m m1 : Mm} {A : Ab} (h : LIv G m A) (hS : CS m m1 (gB G + 1) (UD (sN (aS A)) (sL (aS A)) (sH (aS A))) (sS (aS A)) (sE (aS A))) : LIv G m1 A := by
  have hC : CRx m1 (gB G + 1) (aS A) := h.2.1.1.of hS (fun _ _ => rfl) (fun _ _ => rfl) h.nn.2.2
  exact ⟨hS.full h.1, h.2.1.craft (hS.1.mono (fun a ha => SA_CT ha)) hC, h.2.2.1.cls (hS.1.mono (fun a ha => CT_CC (SA_CT ha))), h.2.2.2⟩
theorem LIv.ms {G : Cx} {m m1 : Mm} {A : Ab} (h : LIv G m A) (hM : MS G m m1 (sS (aS A)) (sE (aS A))) : LIv G m1 A :=
  ⟨hM.1, h.2.1.ref (hM.2.1.mono (fun a ha => SM_RC ha)), h.2.2.1.ms hM, h.2.2.2⟩
theorem LIv.CS {G : Cx} {m : Mm} {A : Ab} (h : LIv G m A) : CS m m (gB G + 1) (UD (sN (aS A)) (sL (aS A)) (sH (aS A))) (sS (aS A)) (sE (aS A)) := h.2.1.1.1

theorem K_7 {G : Cx} {d i : Nat} {m : Mm} {A : Ab} {Q : Option Value → Mm → Prop} (hL : LIv G m A) (hi : i + 7 ≤ gSl G) (hl : gSl G < 4000) (next : ∀ m' A', LIv G m' A' → WP G (d + 100) (0, 0) μL_law 18 [.ref (gSa G), .ref (gB G), .ref (gB G + 293), .int (nI (i + 7))] [] m' Q) : WP G (d + 100) (0, 0) μL_law 537 [.ref (gSa G), .ref (gB G), .ref (gB G + 293), .int (nI i)] [] m Q := by
  have fin : ∀ v : Int32, WP G (d + 100) (0, 0) μL_law 545 [.ref (gSa G), .ref (gB G), .ref (gB G + 293), .int (nI i)] [.int v, .int v] m Q := fun v => bL_7c hL.1 hi hl (fun _ => next m A hL) (fun z => absurd rfl z)
  obtain ⟨n5, n12, h12⟩ := hL.nn
  refine bL_7a hL.1 hi hl (sC_linkCount hL.1 ?_)
  refine bL_7b hL.1 hi hl (M_lc hL.1 rfl n12 h12 ?_)
  obtain ⟨-, hLk, hLO, hLS, -⟩ := hL.2.1.1
  have e : cnA (fun i j => ai m (gB G + 294) (12 * i + j + 152)) (sN (aS A)) = (sK (aS A)).length := by
    rw [← cnA_len _ hLO, hL.st]
    exact cnA_eq _ (fun i j hi hj => (hLS i j hi (by omega)).trans rfl)
  rw [hLk.1, e]
  exact fin _

theorem K_6 {G : Cx} {d i : Nat} {m : Mm} {A : Ab} {Q : Option Value → Mm → Prop} (hL : LIv G m A) (hi : i + 7 ≤ gSl G) (hl : gSl G < 4000) (next : ∀ m' A', LIv G m' A' → WP G (d + 100) (0, 0) μL_law 18 [.ref (gSa G), .ref (gB G), .ref (gB G + 293), .int (nI (i + 7))] [] m' Q) : WP G (d + 100) (0, 0) μL_law 504 [.ref (gSa G), .ref (gB G), .ref (gB G + 293), .int (nI i)] [] m Q := by
  have fin : ∀ v : Int32, WP G (d + 100) (0, 0) μL_law 532 [.ref (gSa G), .ref (gB G), .ref (gB G + 293), .int (nI i)] [.int v, .int v] m Q := fun v => bL_6c hL.1 hi hl (fun _ => next m A hL) (fun z => absurd rfl z)
  obtain ⟨n5, n12, h12⟩ := hL.nn
  obtain ⟨-, hLk, hLO, hLS, -⟩ := hL.2.1.1
  refine bL_6a hL.1 hi hl ?_
  rcases inr_cases (gSx G (i + 1)) (sN (aS A)) (by omega) with ⟨j, hj, e⟩ | e | ⟨e, e'⟩
  · obtain ⟨p, hp⟩ : ∃ p, sN (aS A) = p + 1 := ⟨sN (aS A) - 1, by omega⟩
    have hp' := hp
    have hjn := hj
    rcases inr_cases (gSx G (i + 2)) (sN (aS A)) (by omega) with ⟨q, hq, f⟩ | f | ⟨f, f'⟩
    · have hqn := hq
      rw [hp] at n5 n12 h12 hj hq
      rw [e, f]
      refine iiC_conductance hL.1 n5 h12 hj hq (C_pol hL.1 (isC1 G) hLk hLO (by omega) (by omega) (by omega) (fun hz => ?_) (fun r x hr hx hm => ?_))
      · refine jC_conductance0 hL.1 (bL_6b hL.1 hi hl ?_)
        rw [e, f]
        refine iiM_conductance hL.1 n12 h12 hj hq ?_
        rw [hL.st, hLS j q hjn hqn, lkV_z _ hz]
        exact fin _
      · refine jC_conductance1 hL.1 (by have := hLk.2.1; omega) (fun _ => bL_6b hL.1 hi hl ?_) (fun z => absurd z (nI_ne1 (by have := hLk.2.1; omega)))
        rw [e, f]
        refine iiM_conductance hL.1 n12 h12 hj hq ?_
        rw [hL.st, hLS j q hjn hqn, lkV_at hm _ hLO r hx, (hLk.2.2 r x hx).2.2]
        exact fin _
    · rw [hp] at n5 n12 h12 hj
      rw [e]
      refine iaC_conductance hL.1 n5 h12 hj f (bL_6b hL.1 hi hl ?_)
      rw [e]
      exact iaM_conductance hL.1 n12 h12 hj f (fin _)
    · rw [hp] at n5 n12 h12 hj f'
      rw [e]
      refine ibC_conductance hL.1 n5 h12 hj f f' (bL_6b hL.1 hi hl ?_)
      rw [e]
      exact ibM_conductance hL.1 n12 h12 hj f f' (fin _)
  · exact aC_conductance hL.1 n5 h12 e (bL_6b hL.1 hi hl (aM_conductance hL.1 n12 h12 e (fin _)))
  · exact bC_conductance hL.1 n5 h12 e e' (bL_6b hL.1 hi hl (bM_conductance hL.1 n12 h12 e e' (fin _)))

theorem K_13 {G : Cx} {d i : Nat} {m : Mm} {A : Ab} {Q : Option Value → Mm → Prop} (hL : LIv G m A) (hi : i + 7 ≤ gSl G) (hl : gSl G < 4000) (next : ∀ m' A', LIv G m' A' → WP G (d + 100) (0, 0) μL_law 18 [.ref (gSa G), .ref (gB G), .ref (gB G + 293), .int (nI (i + 7))] [] m' Q) : WP G (d + 100) (0, 0) μL_law 735 [.ref (gSa G), .ref (gB G), .ref (gB G + 293), .int (nI i)] [] m Q := by
  have fin : ∀ v : Int32, WP G (d + 100) (0, 0) μL_law 753 [.ref (gSa G), .ref (gB G), .ref (gB G + 293), .int (nI i)] [.int v, .int v] m Q := fun v => bL_13c hL.1 hi hl (fun _ => next m A hL) (fun z => absurd rfl z)
  obtain ⟨n5, n12, h12⟩ := hL.nl
  refine bL_13a hL.1 hi hl ?_
  rcases inr_cases (gSx G (i + 1)) (sL (aS A)) (by omega) with ⟨j, hj, e⟩ | e | ⟨e, e'⟩
  · obtain ⟨p, hp⟩ : ∃ p, sL (aS A) = p + 1 := ⟨sL (aS A) - 1, by omega⟩
    have t : fi m 306 (lv (gB G + 1) j) = ai m (gB G + 294) (7 * j + 302) := hL.L 6 hj (by omega)
    have hv : ai m (gB G + 294) (7 * j + 302) = 0 ∨ ai m (gB G + 294) (7 * j + 302) = 1 := by
      rw [hL.st]
      exact (hL.iv.1.2.2.2.2.2.2.2.2.1 j hj).2.2.2.2
    rw [hp] at n5 n12 h12 hj
    rw [e]
    refine iC_isHeld hL.1 n5 h12 hj (fun z => ?_) (fun z => ?_)
    · rw [t] at z
      refine bL_13b hL.1 hi hl ?_
      rw [e]
      refine iM_isHeld hL.1 n12 h12 hj ?_
      rw [z]
      exact fin _
    · rw [t] at z
      refine bL_13b hL.1 hi hl ?_
      rw [e]
      refine iM_isHeld hL.1 n12 h12 hj ?_
      rw [hv.resolve_left z]
      exact fin _
  · exact aC_isHeld hL.1 n5 h12 e (bL_13b hL.1 hi hl (aM_isHeld hL.1 n12 h12 e (fin _)))
  · exact bC_isHeld hL.1 n5 h12 e e' (bL_13b hL.1 hi hl (bM_isHeld hL.1 n12 h12 e e' (fin _)))

theorem K_12 {G : Cx} {d i : Nat} {m : Mm} {A : Ab} {Q : Option Value → Mm → Prop} (hL : LIv G m A) (hi : i + 7 ≤ gSl G) (hl : gSl G < 4000) (next : ∀ m' A', LIv G m' A' → WP G (d + 100) (0, 0) μL_law 18 [.ref (gSa G), .ref (gB G), .ref (gB G + 293), .int (nI (i + 7))] [] m' Q) : WP G (d + 100) (0, 0) μL_law 712 [.ref (gSa G), .ref (gB G), .ref (gB G + 293), .int (nI i)] [] m Q := by
  have fin : ∀ v : Int32, WP G (d + 100) (0, 0) μL_law 730 [.ref (gSa G), .ref (gB G), .ref (gB G + 293), .int (nI i)] [.int v, .int v] m Q := fun v => bL_12c hL.1 hi hl (fun _ => next m A hL) (fun z => absurd rfl z)
  obtain ⟨n5, n12, h12⟩ := hL.nl
  obtain ⟨m5, m12, g12⟩ := hL.nn
  refine bL_12a hL.1 hi hl ?_
  rcases inr_cases (gSx G (i + 1)) (sL (aS A)) (by omega) with ⟨j, hj, e⟩ | e | ⟨e, e'⟩
  · obtain ⟨p, hp⟩ : ∃ p, sL (aS A) = p + 1 := ⟨sL (aS A) - 1, by omega⟩
    obtain ⟨⟨o, ho, eo⟩, -⟩ := hL.iv.1.2.2.2.2.2.2.2.2.1 j hj
    have t0 : fi m 300 (lv (gB G + 1) j) = nI o := by
      have := hL.L 0 hj (by omega)
      rw [hL.st] at this
      exact this.trans eo
    have t2 : fi m 302 (lv (gB G + 1) j) = ai m (gB G + 294) (7 * j + 298) := hL.L 2 hj (by omega)
    have t3 : fi m 303 (lv (gB G + 1) j) = ai m (gB G + 294) (7 * j + 299) := hL.L 3 hj (by omega)
    have t1 : fi m 401 (nd (gB G + 1) o) = ai m (gB G + 294) (11 * o + 21) := hL.N 1 ho (by omega)
    have hne : ¬ Int32.toInt64 (ai m (gB G + 294) (7 * j + 299) - ai m (gB G + 294) (7 * j + 298)) = 0 := by
      rw [hL.st]
      exact hL.iv.safe.2.2.2.2.2.2.2.2.2.2.1 j hj
    rw [hp] at n5 n12 h12 hj
    rw [e]
    refine iC_target hL.1 n5 h12 hj m5 g12 t0 ho ?_
    refine bL_12b hL.1 hi hl ?_
    rw [e]
    refine iM_target hL.1 n12 h12 hj (o := o) (by rw [hL.st]; exact eo) (by omega) hne ?_
    rw [t1, t2, t3, quoF_eq hne, limF_eq (by decide)]
    exact fin _
  · exact aC_target hL.1 n5 h12 e (bL_12b hL.1 hi hl (aM_target hL.1 n12 h12 e (fin _)))
  · exact bC_target hL.1 n5 h12 e e' (bL_12b hL.1 hi hl (bM_target hL.1 n12 h12 e e' (fin _)))

theorem K_23 {G : Cx} {d i : Nat} {m : Mm} {A : Ab} {Q : Option Value → Mm → Prop} (hL : LIv G m A) (hi : i + 7 ≤ gSl G) (hl : gSl G < 4000) (next : ∀ m' A', LIv G m' A' → WP G (d + 100) (0, 0) μL_law 18 [.ref (gSa G), .ref (gB G), .ref (gB G + 293), .int (nI (i + 7))] [] m' Q) : WP G (d + 100) (0, 0) μL_law 1037 [.ref (gSa G), .ref (gB G), .ref (gB G + 293), .int (nI i)] [] m Q := by
  have fin : ∀ v : Int32, WP G (d + 100) (0, 0) μL_law 1045 [.ref (gSa G), .ref (gB G), .ref (gB G + 293), .int (nI i)] [.int v, .int v] m Q := fun v => bL_23c hL.1 hi hl (fun _ => next m A hL) (fun z => absurd rfl z)
  refine bL_23a hL.1 hi hl (eC_phase hL.1 (C_pha hL.1 (isC1 G) hL.CS (fun k hk => by unfold UD; omega) hL.h2 ?_))
  refine bC_phase hL.1 (bL_23b hL.1 hi hl (sM_phase hL.1 ?_ ?_))
  · rw [hL.st]
    exact hL.iv.safe.2.2.2.2.2.2.1
  · rw [hL.st]
    exact fin _

theorem K_24 {G : Cx} {d i : Nat} {m : Mm} {A : Ab} {Q : Option Value → Mm → Prop} (hL : LIv G m A) (hi : i + 7 ≤ gSl G) (hl : gSl G < 4000) (next : ∀ m' A', LIv G m' A' → WP G (d + 100) (0, 0) μL_law 18 [.ref (gSa G), .ref (gB G), .ref (gB G + 293), .int (nI (i + 7))] [] m' Q) : WP G (d + 100) (0, 0) μL_law 1050 [.ref (gSa G), .ref (gB G), .ref (gB G + 293), .int (nI i)] [] m Q := by
  have fin : ∀ v : Int32, WP G (d + 100) (0, 0) μL_law 1058 [.ref (gSa G), .ref (gB G), .ref (gB G + 293), .int (nI i)] [.int v, .int v] m Q := fun v => bL_24c hL.1 hi hl (fun _ => next m A hL) (fun z => absurd rfl z)
  refine bL_24a hL.1 hi hl (eC_isSunlit hL.1 (C_sun hL.1 (isC1 G) hL.CS (fun k hk => by unfold UD; omega) hL.h2 ?_))
  refine bC_isSunlit hL.1 ?_ (bL_24b hL.1 hi hl (M_sun hL.1 ?_ ?_))
  · unfold sunF
    repeat' split
    all_goals first | exact Or.inl rfl | exact Or.inr rfl
  · rw [hL.st]
    exact hL.iv.safe.2.2.2.2.2.2.1
  · rw [hL.st]
    exact fin _

theorem K_26 {G : Cx} {d i : Nat} {m : Mm} {A : Ab} {Q : Option Value → Mm → Prop} (hL : LIv G m A) (hi : i + 7 ≤ gSl G) (hl : gSl G < 4000) (next : ∀ m' A', LIv G m' A' → WP G (d + 100) (0, 0) μL_law 18 [.ref (gSa G), .ref (gB G), .ref (gB G + 293), .int (nI (i + 7))] [] m' Q) : WP G (d + 100) (0, 0) μL_law 1076 [.ref (gSa G), .ref (gB G), .ref (gB G + 293), .int (nI i)] [] m Q := by
  have fin : ∀ v : Int32, WP G (d + 100) (0, 0) μL_law 1084 [.ref (gSa G), .ref (gB G), .ref (gB G + 293), .int (nI i)] [.int v, .int v] m Q := fun v => bL_26c hL.1 hi hl (fun _ => next m A hL) (fun z => absurd rfl z)
  obtain ⟨n5, n12, h12⟩ := hL.nh
  refine bL_26a hL.1 hi hl (eC_usedPower hL.1 (C_up hL.1 (isC1 G) hL.CS (by rw [hL.st] at n12; exact n12) h12 ?_))
  refine bC_usedPower hL.1 (bL_26b hL.1 hi hl (M_up hL.1 n12 h12 ?_))
  rw [hL.st]
  exact fin _

theorem K_40 {G : Cx} {d i : Nat} {m : Mm} {A : Ab} {Q : Option Value → Mm → Prop} (hL : LIv G m A) (hi : i + 7 ≤ gSl G) (hl : gSl G < 4000) (next : ∀ m' A', LIv G m' A' → WP G (d + 100) (0, 0) μL_law 18 [.ref (gSa G), .ref (gB G), .ref (gB G + 293), .int (nI (i + 7))] [] m' Q) : WP G (d + 100) (0, 0) μL_law 1372 [.ref (gSa G), .ref (gB G), .ref (gB G + 293), .int (nI i)] [] m Q := by
  have fin : ∀ v : Int32, WP G (d + 100) (0, 0) μL_law 1390 [.ref (gSa G), .ref (gB G), .ref (gB G + 293), .int (nI i)] [.int v, .int v] m Q := fun v => bL_40c hL.1 hi hl (fun _ => next m A hL) (fun z => absurd rfl z)
  have hv16 := hL.iv.1.2.2.2.2.2.2.2.2.2.2
  have hvle := vcnt_le (sS (aS A)) (sN (aS A))
  have h12 := hL.nn.2.2
  have n12 : ai m (gB G + 294) 16 = nI (vcnt (sS (aS A)) (sN (aS A))) := by rw [hL.st]; exact hv16
  have n5 : fi m 601 (gB G + 1 + 8) = nI (vcnt (sS (aS A)) (sN (aS A))) := (hL.rd (k := 16) rfl rfl (by unfold VK; omega) (by unfold UD; omega)).trans n12
  refine bL_40a hL.1 hi hl ?_
  rcases inr_cases (gSx G (i + 1)) (vcnt (sS (aS A)) (sN (aS A))) (by omega) with ⟨j, hj, e⟩ | e | ⟨e, e'⟩
  · obtain ⟨p, hp⟩ : ∃ p, vcnt (sS (aS A)) (sN (aS A)) = p + 1 := ⟨vcnt (sS (aS A)) (sN (aS A)) - 1, by omega⟩
    have t : ai m (gB G + 1 + 9) j = ai m (gB G + 294) (j + 402) := by
      rw [hL.st, Nat.add_comm j 402]
      exact hL.CS.2.2.2.2 j (by rw [own_of hv16 (by omega)]; exact hj)
    rw [hp] at n5 n12 hj
    rw [e]
    refine iC_violator hL.1 n5 (by omega) hj (bL_40b hL.1 hi hl ?_)
    rw [e]
    refine iM_violator hL.1 n12 (by omega) hj ?_
    rw [t]
    exact fin _
  · exact aC_violator hL.1 e (bL_40b hL.1 hi hl (aM_violator hL.1 e (fin _)))
  · exact bC_violator hL.1 n5 (by omega) e e' (bL_40b hL.1 hi hl (bM_violator hL.1 n12 (by omega) e e' (fin _)))

theorem K_42 {G : Cx} {d i : Nat} {m : Mm} {A : Ab} {Q : Option Value → Mm → Prop} (hL : LIv G m A) (hi : i + 7 ≤ gSl G) (hl : gSl G < 4000) (next : ∀ m' A', LIv G m' A' → WP G (d + 100) (0, 0) μL_law 18 [.ref (gSa G), .ref (gB G), .ref (gB G + 293), .int (nI (i + 7))] [] m' Q) : WP G (d + 100) (0, 0) μL_law 1408 [.ref (gSa G), .ref (gB G), .ref (gB G + 293), .int (nI i)] [] m Q := by
  have fin : ∀ v : Int64, WP G (d + 100) (0, 0) μL_law 1426 [.ref (gSa G), .ref (gB G), .ref (gB G + 293), .int (nI i)] [.long v, .long v] m Q := fun v => bL_42c hL.1 hi hl (fun _ => next m A hL) (fun z => absurd rfl z)
  obtain ⟨e0, e1, e2⟩ := hL.CS.2.2.2.1
  have hE := hL.2.2.1.2.1
  refine bL_42a hL.1 hi hl (sC_energy hL.1 (fun z => ?_) (fun z => ?_) (fun z => ?_) (fun z0 z1 z2 => ?_))
  · refine bL_42b hL.1 hi hl ?_
    rw [z]
    refine sM_energy hL.1 (fun _ _ => vinl (by decide)) (fun q => absurd q (by decide)) (fun _ q => absurd q (by decide)) (fun _ _ => ?_)
    rw [hE, e0]
    exact fin _
  · refine bL_42b hL.1 hi hl ?_
    rw [z]
    refine sM_energy hL.1 (fun _ _ => vinl (by decide)) (fun q => absurd q (by decide)) (fun _ q => absurd q (by decide)) (fun _ _ => ?_)
    rw [hE, e1]
    exact fin _
  · refine bL_42b hL.1 hi hl ?_
    rw [z]
    refine sM_energy hL.1 (fun _ _ => vinl (by decide)) (fun q => absurd q (by decide)) (fun _ q => absurd q (by decide)) (fun _ _ => ?_)
    rw [hE, e2]
    exact fin _
  · have hx : gSx G (i + 1) < 0 ∨ (2 : Int32) < gSx G (i + 1) := by
      rcases inr_cases (gSx G (i + 1)) 3 (by omega) with ⟨j, hj, e⟩ | e | ⟨e, e'⟩
      · exfalso
        have : j = 0 ∨ j = 1 ∨ j = 2 := by omega
        rcases this with rfl | rfl | rfl
        · exact z0 e
        · exact z1 e
        · exact z2 e
      · exact Or.inl e
      · exact Or.inr (sub_lt1 (n := 2) (by omega) e e')
    refine bL_42b hL.1 hi hl (sM_energy hL.1 (fun q r => absurd hx (fun z => z.elim q r)) (fun _ => fin _) (fun _ _ => fin _) (fun q r => absurd hx (fun z => z.elim q r)))

theorem K_29 {G : Cx} {d i : Nat} {m : Mm} {A : Ab} {Q : Option Value → Mm → Prop} (hL : LIv G m A) (hi : i + 7 ≤ gSl G) (hl : gSl G < 4000) (next : ∀ m' A', LIv G m' A' → WP G (d + 100) (0, 0) μL_law 18 [.ref (gSa G), .ref (gB G), .ref (gB G + 293), .int (nI (i + 7))] [] m' Q) : WP G (d + 100) (0, 0) μL_law 1135 [.ref (gSa G), .ref (gB G), .ref (gB G + 293), .int (nI i)] [] m Q := by
  have fin : ∀ {m} (v : Int64), LIv G m A → WP G (d + 100) (0, 0) μL_law 1153 [.ref (gSa G), .ref (gB G), .ref (gB G + 293), .int (nI i)] [.long v, .long v] m Q := fun {m} v hL => bL_29c hL.1 hi hl (fun _ => next m A hL) (fun z => absurd rfl z)
  obtain ⟨n5, n12, h12⟩ := hL.nn
  obtain ⟨-, hLk, hLO, hLS, -⟩ := hL.2.1.1
  refine bL_29a hL.1 hi hl ?_
  rcases inr_cases (gSx G (i + 1)) (sN (aS A)) (by omega) with ⟨j, hj, e⟩ | e | ⟨e, e'⟩
  · obtain ⟨p, hp⟩ : ∃ p, sN (aS A) = p + 1 := ⟨sN (aS A) - 1, by omega⟩
    have hjn := hj
    rw [hp] at n5 h12 hj
    rw [e]
    refine iC_absorbedHeat hL.1 n5 h12 hj (C_bh hL.1 (isC1 G) hL.CS hL.iv hLk hLO hLS (fun m1 h1 fl1 => ?_))
    have hL1 := hL.cs h1
    obtain ⟨f1, f2, f3, f4⟩ := fl1 j hjn
    have n12' := hL1.nn.2.1
    rw [hp] at n12'
    refine jC_absorbedHeat hL1.1 (by omega) (bL_29b hL1.1 hi hl ?_)
    rw [e]
    refine iM_absorbedHeat hL1.1 n12' h12 hj (M_abs hL1.1 (by omega) (by rw [hL1.st]; exact hL1.iv.safe.2.2.2.2.2.2.1) ?_)
    refine jM_absorbedHeat hL1.1 ?_
    rw [f1, hL1.st]
    exact fin _ hL1
  · exact aC_absorbedHeat hL.1 n5 h12 e (bL_29b hL.1 hi hl (aM_absorbedHeat hL.1 n12 h12 e (fin _ hL)))
  · exact bC_absorbedHeat hL.1 n5 h12 e e' (bL_29b hL.1 hi hl (bM_absorbedHeat hL.1 n12 h12 e e' (fin _ hL)))

theorem K_30 {G : Cx} {d i : Nat} {m : Mm} {A : Ab} {Q : Option Value → Mm → Prop} (hL : LIv G m A) (hi : i + 7 ≤ gSl G) (hl : gSl G < 4000) (next : ∀ m' A', LIv G m' A' → WP G (d + 100) (0, 0) μL_law 18 [.ref (gSa G), .ref (gB G), .ref (gB G + 293), .int (nI (i + 7))] [] m' Q) : WP G (d + 100) (0, 0) μL_law 1159 [.ref (gSa G), .ref (gB G), .ref (gB G + 293), .int (nI i)] [] m Q := by
  have fin : ∀ {m} (v : Int64), LIv G m A → WP G (d + 100) (0, 0) μL_law 1177 [.ref (gSa G), .ref (gB G), .ref (gB G + 293), .int (nI i)] [.long v, .long v] m Q := fun {m} v hL => bL_30c hL.1 hi hl (fun _ => next m A hL) (fun z => absurd rfl z)
  obtain ⟨n5, n12, h12⟩ := hL.nn
  obtain ⟨-, hLk, hLO, hLS, -⟩ := hL.2.1.1
  refine bL_30a hL.1 hi hl ?_
  rcases inr_cases (gSx G (i + 1)) (sN (aS A)) (by omega) with ⟨j, hj, e⟩ | e | ⟨e, e'⟩
  · obtain ⟨p, hp⟩ : ∃ p, sN (aS A) = p + 1 := ⟨sN (aS A) - 1, by omega⟩
    have hjn := hj
    rw [hp] at n5 h12 hj
    rw [e]
    refine iC_emittedHeat hL.1 n5 h12 hj (C_bh hL.1 (isC1 G) hL.CS hL.iv hLk hLO hLS (fun m1 h1 fl1 => ?_))
    have hL1 := hL.cs h1
    obtain ⟨f1, f2, f3, f4⟩ := fl1 j hjn
    have n12' := hL1.nn.2.1
    rw [hp] at n12'
    refine jC_emittedHeat hL1.1 (by omega) (bL_30b hL1.1 hi hl ?_)
    rw [e]
    refine iM_emittedHeat hL1.1 n12' h12 hj (M_em hL1.1 (by omega) hL1.nl.2.1 hL1.nl.2.2 (by rw [hL1.st]; exact hL1.iv.safe.2.2.2.2.2.2.2.2.1) ?_)
    refine jM_emittedHeat hL1.1 ?_
    rw [f2, hL1.st]
    exact fin _ hL1
  · exact aC_emittedHeat hL.1 n5 h12 e (bL_30b hL.1 hi hl (aM_emittedHeat hL.1 n12 h12 e (fin _ hL)))
  · exact bC_emittedHeat hL.1 n5 h12 e e' (bL_30b hL.1 hi hl (bM_emittedHeat hL.1 n12 h12 e e' (fin _ hL)))

theorem K_31 {G : Cx} {d i : Nat} {m : Mm} {A : Ab} {Q : Option Value → Mm → Prop} (hL : LIv G m A) (hi : i + 7 ≤ gSl G) (hl : gSl G < 4000) (next : ∀ m' A', LIv G m' A' → WP G (d + 100) (0, 0) μL_law 18 [.ref (gSa G), .ref (gB G), .ref (gB G + 293), .int (nI (i + 7))] [] m' Q) : WP G (d + 100) (0, 0) μL_law 1183 [.ref (gSa G), .ref (gB G), .ref (gB G + 293), .int (nI i)] [] m Q := by
  have fin : ∀ {m} (v : Int64), LIv G m A → WP G (d + 100) (0, 0) μL_law 1201 [.ref (gSa G), .ref (gB G), .ref (gB G + 293), .int (nI i)] [.long v, .long v] m Q := fun {m} v hL => bL_31c hL.1 hi hl (fun _ => next m A hL) (fun z => absurd rfl z)
  obtain ⟨n5, n12, h12⟩ := hL.nn
  obtain ⟨-, hLk, hLO, hLS, -⟩ := hL.2.1.1
  refine bL_31a hL.1 hi hl ?_
  rcases inr_cases (gSx G (i + 1)) (sN (aS A)) (by omega) with ⟨j, hj, e⟩ | e | ⟨e, e'⟩
  · obtain ⟨p, hp⟩ : ∃ p, sN (aS A) = p + 1 := ⟨sN (aS A) - 1, by omega⟩
    have hjn := hj
    rw [hp] at n5 h12 hj
    rw [e]
    refine iC_conductedHeat hL.1 n5 h12 hj (C_bh hL.1 (isC1 G) hL.CS hL.iv hLk hLO hLS (fun m1 h1 fl1 => ?_))
    have hL1 := hL.cs h1
    obtain ⟨f1, f2, f3, f4⟩ := fl1 j hjn
    have n12' := hL1.nn.2.1
    rw [hp] at n12'
    refine jC_conductedHeat hL1.1 (by omega) (bL_31b hL1.1 hi hl ?_)
    rw [e]
    refine iM_conductedHeat hL1.1 n12' h12 hj (M_cd hL1.1 (by omega) hL1.nn.2.1 hL1.nn.2.2 ?_)
    refine jM_conductedHeat hL1.1 ?_
    rw [f3, hL1.st]
    exact fin _ hL1
  · exact aC_conductedHeat hL.1 n5 h12 e (bL_31b hL.1 hi hl (aM_conductedHeat hL.1 n12 h12 e (fin _ hL)))
  · exact bC_conductedHeat hL.1 n5 h12 e e' (bL_31b hL.1 hi hl (bM_conductedHeat hL.1 n12 h12 e e' (fin _ hL)))

theorem K_32 {G : Cx} {d i : Nat} {m : Mm} {A : Ab} {Q : Option Value → Mm → Prop} (hL : LIv G m A) (hi : i + 7 ≤ gSl G) (hl : gSl G < 4000) (next : ∀ m' A', LIv G m' A' → WP G (d + 100) (0, 0) μL_law 18 [.ref (gSa G), .ref (gB G), .ref (gB G + 293), .int (nI (i + 7))] [] m' Q) : WP G (d + 100) (0, 0) μL_law 1207 [.ref (gSa G), .ref (gB G), .ref (gB G + 293), .int (nI i)] [] m Q := by
  have fin : ∀ {m} (v : Int64), LIv G m A → WP G (d + 100) (0, 0) μL_law 1225 [.ref (gSa G), .ref (gB G), .ref (gB G + 293), .int (nI i)] [.long v, .long v] m Q := fun {m} v hL => bL_32c hL.1 hi hl (fun _ => next m A hL) (fun z => absurd rfl z)
  obtain ⟨n5, n12, h12⟩ := hL.nn
  obtain ⟨-, hLk, hLO, hLS, -⟩ := hL.2.1.1
  refine bL_32a hL.1 hi hl ?_
  rcases inr_cases (gSx G (i + 1)) (sN (aS A)) (by omega) with ⟨j, hj, e⟩ | e | ⟨e, e'⟩
  · obtain ⟨p, hp⟩ : ∃ p, sN (aS A) = p + 1 := ⟨sN (aS A) - 1, by omega⟩
    have hjn := hj
    rw [hp] at n5 h12 hj
    rw [e]
    refine iC_netHeat hL.1 n5 h12 hj (C_bh hL.1 (isC1 G) hL.CS hL.iv hLk hLO hLS (fun m1 h1 fl1 => ?_))
    have hL1 := hL.cs h1
    obtain ⟨f1, f2, f3, f4⟩ := fl1 j hjn
    have n12' := hL1.nn.2.1
    rw [hp] at n12'
    refine jC_netHeat hL1.1 (by omega) (bL_32b hL1.1 hi hl ?_)
    rw [e]
    refine iM_netHeat hL1.1 n12' h12 hj (M_net hL1.1 (by omega) (by rw [hL1.st]; exact hL1.iv.safe) ?_)
    refine jM_netHeat hL1.1 ?_
    have t4 : fi m1 404 (nd (gB G + 1) j) = sS (aS A) (11 * j + 24) := by
      have := hL1.N 4 hjn (by omega)
      rw [hL1.st] at this
      exact this
    rw [f1, f2, f3, f4, t4, hL1.st]
    unfold netF
    rw [htF_a (sS (aS A)) j (Int32.toInt64 (sS (aS A) (11 * j + 24)) + absF (sS (aS A)) j + cdF (sS (aS A)) j (sN (aS A)) - emF (sS (aS A)) (sL (aS A)) j) (sH (aS A))]
    rw [show Int32.toInt64 (sS (aS A) (11 * j + 24)) + htF (sS (aS A)) j 0 (sH (aS A)) + absF (sS (aS A)) j + cdF (sS (aS A)) j (sN (aS A)) - emF (sS (aS A)) (sL (aS A)) j = Int32.toInt64 (sS (aS A) (11 * j + 24)) + absF (sS (aS A)) j + cdF (sS (aS A)) j (sN (aS A)) - emF (sS (aS A)) (sL (aS A)) j + htF (sS (aS A)) j 0 (sH (aS A)) by grind]
    exact fin _ hL1
  · exact aC_netHeat hL.1 n5 h12 e (bL_32b hL.1 hi hl (aM_netHeat hL.1 n12 h12 e (fin _ hL)))
  · exact bC_netHeat hL.1 n5 h12 e e' (bL_32b hL.1 hi hl (bM_netHeat hL.1 n12 h12 e e' (fin _ hL)))

theorem K_54 {G : Cx} {d i : Nat} {m : Mm} {A : Ab} {Q : Option Value → Mm → Prop} (hL : LIv G m A) (hi : i + 7 ≤ gSl G) (hl : gSl G < 4000) (next : ∀ m' A', LIv G m' A' → WP G (d + 100) (0, 0) μL_law 18 [.ref (gSa G), .ref (gB G), .ref (gB G + 293), .int (nI (i + 7))] [] m' Q) : WP G (d + 100) (0, 0) μL_law 1721 [.ref (gSa G), .ref (gB G), .ref (gB G + 293), .int (nI i)] [] m Q := by
  have fin : ∀ {m} (v : Int32), LIv G m A → WP G (d + 100) (0, 0) μL_law 1739 [.ref (gSa G), .ref (gB G), .ref (gB G + 293), .int (nI i)] [.int v, .int v] m Q := fun {m} v hL => bL_54c hL.1 hi hl (fun _ => next m A hL) (fun z => absurd rfl z)
  obtain ⟨-, -, -, -, -, ⟨sz, z1, z2, z3, z4, z5⟩, hOL, h15⟩ := hL.2.1.1
  have n12 : ai m (gB G + 294) 15 = nI (sR (aS A)).length := by rw [hL.st]; exact h15
  refine bL_54a hL.1 hi hl ?_
  rcases inr_cases (gSx G (i + 1)) (sR (aS A)).length (by omega) with ⟨j, hj, e⟩ | e | ⟨e, e'⟩
  · obtain ⟨p, hp⟩ : ∃ p, (sR (aS A)).length = p + 1 := ⟨(sR (aS A)).length - 1, by omega⟩
    have hx : (sR (aS A))[j]? = some (sR (aS A))[j] := List.getElem?_eq_getElem hj
    have hO := hOL _ (List.getElem_mem hj)
    have hRu := z5 j _ hx
    have hM := hL.2.2.2.1.2.2.2 j _ hx
    rw [hp] at z3 z4 hj
    rw [e]
    refine iC_ruleHolds hL.1 z3 z4 hj (C_due hL.1 (isC1 G) hL.iv z2 (by omega) hRu hO hL.CS (fun m1 h1 => ?_))
    have hL1 := hL.cs h1
    have n12' : ai m1 (gB G + 294) 15 = nI (p + 1) := by rw [hL1.st, h15, hp]
    have m2 : WP G (d + 100) (0, 0) μL_law 1730 [.ref (gSa G), .ref (gB G), .ref (gB G + 293), .int (nI i)] [.int (if holdM (sS (aS A)) (sH (aS A)) (sR (aS A))[j].1 = true then 1 else 0)] m1 Q := by
      refine bL_54b hL1.1 hi hl ?_
      rw [e]
      refine iM_ruleHolds hL1.1 n12' z4 hj (M_hold (hL1.2.2.1.MS hL1.1) hL1.iv.safe (by omega) hM.1 hM.2 (fun m2 h2 => ?_))
      have hL2 := hL1.ms h2
      refine jM_ruleHolds hL2.1 (fun q => ?_) (fun q => ?_)
      · rw [q]
        exact fin _ hL2
      · have : (if holdM (sS (aS A)) (sH (aS A)) (sR (aS A))[j].1 = true then (1 : Int32) else 0) = 1 := by
          by_cases hh : holdM (sS (aS A)) (sH (aS A)) (sR (aS A))[j].1 = true
          · rw [if_pos hh]
          · rw [if_neg hh] at q
            exact absurd rfl q
        rw [this]
        exact fin _ hL2
    refine jC_ruleHolds hL1.1 (fun q => ?_) (fun q => ?_)
    · rw [q] at m2
      exact m2
    · have : (if holdM (sS (aS A)) (sH (aS A)) (sR (aS A))[j].1 = true then (1 : Int32) else 0) = 1 := by
        by_cases hh : holdM (sS (aS A)) (sH (aS A)) (sR (aS A))[j].1 = true
        · rw [if_pos hh]
        · rw [if_neg hh] at q
          exact absurd rfl q
      rw [this] at m2
      exact m2
  · exact aC_ruleHolds hL.1 e (bL_54b hL.1 hi hl (aM_ruleHolds hL.1 e (fin _ hL)))
  · exact bC_ruleHolds hL.1 z3 (by omega) e e' (bL_54b hL.1 hi hl (bM_ruleHolds hL.1 n12 (by omega) e e' (fin _ hL)))
