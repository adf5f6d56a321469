theorem K_1 {G : Cx} {d i : Nat} {m : Mm} {A : Ab} {Q : Option Value → Mm → Prop} (hL : LIv G m A) (hi : i + 7 ≤ gSl G) (hl : gSl G < 4000) (next : ∀ m' A', LIv G m' A' → WP G (d + 100) (0, 0) μL_law 18 [.ref (gSa G), .ref (gB G), .ref (gB G + 293), .int (nI (i + 7))] [] m' Q) : WP G (d + 100) (0, 0) μL_law 339 [.ref (gSa G), .ref (gB G), .ref (gB G + 293), .int (nI i)] [] m Q := by
  have fin : ∀ v : Int32, WP G (d + 100) (0, 0) μL_law 347 [.ref (gSa G), .ref (gB G), .ref (gB G + 293), .int (nI i)] [.int v, .int v] m Q := fun v => bL_1c hL.1 hi hl (fun _ => next m A hL) (fun z => absurd rfl z)
  refine bL_1a hL.1 hi hl (sC_nodeCount hL.1 ?_)
  refine bL_1b hL.1 hi hl (sM_nodeCount hL.1 ?_)
  have e : fi m 5 (gB G + 1) = ai m (gB G + 294) 12 := hL.rd (k := 12) rfl rfl (by unfold VK; omega) (by unfold UD; omega)
  rw [e]
  exact fin _

theorem K_10 {G : Cx} {d i : Nat} {m : Mm} {A : Ab} {Q : Option Value → Mm → Prop} (hL : LIv G m A) (hi : i + 7 ≤ gSl G) (hl : gSl G < 4000) (next : ∀ m' A', LIv G m' A' → WP G (d + 100) (0, 0) μL_law 18 [.ref (gSa G), .ref (gB G), .ref (gB G + 293), .int (nI (i + 7))] [] m' Q) : WP G (d + 100) (0, 0) μL_law 676 [.ref (gSa G), .ref (gB G), .ref (gB G + 293), .int (nI i)] [] m Q := by
  have fin : ∀ v : Int32, WP G (d + 100) (0, 0) μL_law 684 [.ref (gSa G), .ref (gB G), .ref (gB G + 293), .int (nI i)] [.int v, .int v] m Q := fun v => bL_10c hL.1 hi hl (fun _ => next m A hL) (fun z => absurd rfl z)
  refine bL_10a hL.1 hi hl (sC_louvreCount hL.1 ?_)
  refine bL_10b hL.1 hi hl (sM_louvreCount hL.1 ?_)
  have e : fi m 7 (gB G + 1) = ai m (gB G + 294) 13 := hL.rd (k := 13) rfl rfl (by unfold VK; omega) (by unfold UD; omega)
  rw [e]
  exact fin _

theorem K_14 {G : Cx} {d i : Nat} {m : Mm} {A : Ab} {Q : Option Value → Mm → Prop} (hL : LIv G m A) (hi : i + 7 ≤ gSl G) (hl : gSl G < 4000) (next : ∀ m' A', LIv G m' A' → WP G (d + 100) (0, 0) μL_law 18 [.ref (gSa G), .ref (gB G), .ref (gB G + 293), .int (nI (i + 7))] [] m' Q) : WP G (d + 100) (0, 0) μL_law 758 [.ref (gSa G), .ref (gB G), .ref (gB G + 293), .int (nI i)] [] m Q := by
  have fin : ∀ v : Int32, WP G (d + 100) (0, 0) μL_law 766 [.ref (gSa G), .ref (gB G), .ref (gB G + 293), .int (nI i)] [.int v, .int v] m Q := fun v => bL_14c hL.1 hi hl (fun _ => next m A hL) (fun z => absurd rfl z)
  refine bL_14a hL.1 hi hl (sC_heaterCount hL.1 ?_)
  refine bL_14b hL.1 hi hl (sM_heaterCount hL.1 ?_)
  have e : fi m 8 (gB G + 1) = ai m (gB G + 294) 14 := hL.rd (k := 14) rfl rfl (by unfold VK; omega) (by unfold UD; omega)
  rw [e]
  exact fin _

theorem K_22 {G : Cx} {d i : Nat} {m : Mm} {A : Ab} {Q : Option Value → Mm → Prop} (hL : LIv G m A) (hi : i + 7 ≤ gSl G) (hl : gSl G < 4000) (next : ∀ m' A', LIv G m' A' → WP G (d + 100) (0, 0) μL_law 18 [.ref (gSa G), .ref (gB G), .ref (gB G + 293), .int (nI (i + 7))] [] m' Q) : WP G (d + 100) (0, 0) μL_law 1024 [.ref (gSa G), .ref (gB G), .ref (gB G + 293), .int (nI i)] [] m Q := by
  have fin : ∀ v : Int32, WP G (d + 100) (0, 0) μL_law 1032 [.ref (gSa G), .ref (gB G), .ref (gB G + 293), .int (nI i)] [.int v, .int v] m Q := fun v => bL_22c hL.1 hi hl (fun _ => next m A hL) (fun z => absurd rfl z)
  refine bL_22a hL.1 hi hl (sC_time hL.1 ?_)
  refine bL_22b hL.1 hi hl (sM_time hL.1 ?_)
  have e : fi m 14 (gB G + 1) = ai m (gB G + 294) 0 := hL.rd (k := 0) rfl rfl (by unfold VK; omega) (by unfold UD; omega)
  rw [e]
  exact fin _

theorem K_39 {G : Cx} {d i : Nat} {m : Mm} {A : Ab} {Q : Option Value → Mm → Prop} (hL : LIv G m A) (hi : i + 7 ≤ gSl G) (hl : gSl G < 4000) (next : ∀ m' A', LIv G m' A' → WP G (d + 100) (0, 0) μL_law 18 [.ref (gSa G), .ref (gB G), .ref (gB G + 293), .int (nI (i + 7))] [] m' Q) : WP G (d + 100) (0, 0) μL_law 1359 [.ref (gSa G), .ref (gB G), .ref (gB G + 293), .int (nI i)] [] m Q := by
  have fin : ∀ v : Int32, WP G (d + 100) (0, 0) μL_law 1367 [.ref (gSa G), .ref (gB G), .ref (gB G + 293), .int (nI i)] [.int v, .int v] m Q := fun v => bL_39c hL.1 hi hl (fun _ => next m A hL) (fun z => absurd rfl z)
  refine bL_39a hL.1 hi hl (sC_violatorCount hL.1 ?_)
  refine bL_39b hL.1 hi hl (sM_violatorCount hL.1 ?_)
  have e : fi m 601 (gB G + 1 + 8) = ai m (gB G + 294) 16 := hL.rd (k := 16) rfl rfl (by unfold VK; omega) (by unfold UD; omega)
  rw [e]
  exact fin _

theorem K_41 {G : Cx} {d i : Nat} {m : Mm} {A : Ab} {Q : Option Value → Mm → Prop} (hL : LIv G m A) (hi : i + 7 ≤ gSl G) (hl : gSl G < 4000) (next : ∀ m' A', LIv G m' A' → WP G (d + 100) (0, 0) μL_law 18 [.ref (gSa G), .ref (gB G), .ref (gB G + 293), .int (nI (i + 7))] [] m' Q) : WP G (d + 100) (0, 0) μL_law 1395 [.ref (gSa G), .ref (gB G), .ref (gB G + 293), .int (nI i)] [] m Q := by
  have fin : ∀ v : Int32, WP G (d + 100) (0, 0) μL_law 1403 [.ref (gSa G), .ref (gB G), .ref (gB G + 293), .int (nI i)] [.int v, .int v] m Q := fun v => bL_41c hL.1 hi hl (fun _ => next m A hL) (fun z => absurd rfl z)
  refine bL_41a hL.1 hi hl (sC_shedCount hL.1 ?_)
  refine bL_41b hL.1 hi hl (sM_shedCount hL.1 ?_)
  have e : fi m 602 (gB G + 1 + 8) = ai m (gB G + 294) 17 := hL.rd (k := 17) rfl rfl (by unfold VK; omega) (by unfold UD; omega)
  rw [e]
  exact fin _

theorem K_25 {G : Cx} {d i : Nat} {m : Mm} {A : Ab} {Q : Option Value → Mm → Prop} (hL : LIv G m A) (hi : i + 7 ≤ gSl G) (hl : gSl G < 4000) (next : ∀ m' A', LIv G m' A' → WP G (d + 100) (0, 0) μL_law 18 [.ref (gSa G), .ref (gB G), .ref (gB G + 293), .int (nI (i + 7))] [] m' Q) : WP G (d + 100) (0, 0) μL_law 1063 [.ref (gSa G), .ref (gB G), .ref (gB G + 293), .int (nI i)] [] m Q := by
  have fin : ∀ v : Int32, WP G (d + 100) (0, 0) μL_law 1071 [.ref (gSa G), .ref (gB G), .ref (gB G + 293), .int (nI i)] [.int v, .int v] m Q := fun v => bL_25c hL.1 hi hl (fun _ => next m A hL) (fun z => absurd rfl z)
  refine bL_25a hL.1 hi hl (sC_charge hL.1 ?_)
  refine bL_25b hL.1 hi hl (sM_charge hL.1 ?_)
  have e : fi m 903 (gB G + 1 + 7) = ai m (gB G + 294) 11 := hL.rd (k := 11) rfl rfl (by unfold VK; omega) (by unfold UD; omega)
  rw [e]
  exact fin _

theorem K_53 {G : Cx} {d i : Nat} {m : Mm} {A : Ab} {Q : Option Value → Mm → Prop} (hL : LIv G m A) (hi : i + 7 ≤ gSl G) (hl : gSl G < 4000) (next : ∀ m' A', LIv G m' A' → WP G (d + 100) (0, 0) μL_law 18 [.ref (gSa G), .ref (gB G), .ref (gB G + 293), .int (nI (i + 7))] [] m' Q) : WP G (d + 100) (0, 0) μL_law 1708 [.ref (gSa G), .ref (gB G), .ref (gB G + 293), .int (nI i)] [] m Q := by
  have fin : ∀ v : Int32, WP G (d + 100) (0, 0) μL_law 1716 [.ref (gSa G), .ref (gB G), .ref (gB G + 293), .int (nI i)] [.int v, .int v] m Q := fun v => bL_53c hL.1 hi hl (fun _ => next m A hL) (fun z => absurd rfl z)
  refine bL_53a hL.1 hi hl (sC_ruleCount hL.1 ?_)
  refine bL_53b hL.1 hi hl (sM_ruleCount hL.1 ?_)
  have e : fi m 808 (gB G + 1 + 10) = ai m (gB G + 294) 15 := hL.rd (k := 15) rfl rfl (by unfold VK; omega) (by unfold UD; omega)
  rw [e]
  exact fin _

theorem K_51 {G : Cx} {d i : Nat} {m : Mm} {A : Ab} {Q : Option Value → Mm → Prop} (hL : LIv G m A) (hi : i + 7 ≤ gSl G) (hl : gSl G < 4000) (next : ∀ m' A', LIv G m' A' → WP G (d + 100) (0, 0) μL_law 18 [.ref (gSa G), .ref (gB G), .ref (gB G + 293), .int (nI (i + 7))] [] m' Q) : WP G (d + 100) (0, 0) μL_law 1682 [.ref (gSa G), .ref (gB G), .ref (gB G + 293), .int (nI i)] [] m Q := by
  have fin : ∀ v : Int32, WP G (d + 100) (0, 0) μL_law 1690 [.ref (gSa G), .ref (gB G), .ref (gB G + 293), .int (nI i)] [.int v, .int v] m Q := fun v => bL_51c hL.1 hi hl (fun _ => next m A hL) (fun z => absurd rfl z)
  refine bL_51a hL.1 hi hl (sC_errorCode hL.1 ?_)
  refine bL_51b hL.1 hi hl (sM_errorCode hL.1 ?_)
  have e : fi m 702 (gB G + 279) = fi m 1118 (gB G + 293) := hL.2.1.2.2.2.1.trans hL.2.2.1.2.2.2.2.1.symm
  rw [e]
  exact fin _

theorem K_52 {G : Cx} {d i : Nat} {m : Mm} {A : Ab} {Q : Option Value → Mm → Prop} (hL : LIv G m A) (hi : i + 7 ≤ gSl G) (hl : gSl G < 4000) (next : ∀ m' A', LIv G m' A' → WP G (d + 100) (0, 0) μL_law 18 [.ref (gSa G), .ref (gB G), .ref (gB G + 293), .int (nI (i + 7))] [] m' Q) : WP G (d + 100) (0, 0) μL_law 1695 [.ref (gSa G), .ref (gB G), .ref (gB G + 293), .int (nI i)] [] m Q := by
  have fin : ∀ v : Int32, WP G (d + 100) (0, 0) μL_law 1703 [.ref (gSa G), .ref (gB G), .ref (gB G + 293), .int (nI i)] [.int v, .int v] m Q := fun v => bL_52c hL.1 hi hl (fun _ => next m A hL) (fun z => absurd rfl z)
  refine bL_52a hL.1 hi hl (sC_errorPosition hL.1 ?_)
  refine bL_52b hL.1 hi hl (sM_errorPosition hL.1 ?_)
  have e : fi m 703 (gB G + 279) = fi m 1119 (gB G + 293) := hL.2.1.2.2.2.2.trans hL.2.2.1.2.2.2.2.2.symm
  rw [e]
  exact fin _

theorem K_27 {G : Cx} {d i : Nat} {m : Mm} {A : Ab} {Q : Option Value → Mm → Prop} (hL : LIv G m A) (hi : i + 7 ≤ gSl G) (hl : gSl G < 4000) (next : ∀ m' A', LIv G m' A' → WP G (d + 100) (0, 0) μL_law 18 [.ref (gSa G), .ref (gB G), .ref (gB G + 293), .int (nI (i + 7))] [] m' Q) : WP G (d + 100) (0, 0) μL_law 1089 [.ref (gSa G), .ref (gB G), .ref (gB G + 293), .int (nI i)] [] m Q := by
  have fin : ∀ v : Int32, WP G (d + 100) (0, 0) μL_law 1107 [.ref (gSa G), .ref (gB G), .ref (gB G + 293), .int (nI i)] [.int v, .int v] m Q := fun v => bL_27c hL.1 hi hl (fun _ => next m A hL) (fun z => absurd rfl z)
  obtain ⟨n5, n12, h12⟩ := hL.nn
  refine bL_27a hL.1 hi hl ?_
  rcases inr_cases (gSx G (i + 1)) (sN (aS A)) (by omega) with ⟨j, hj, e⟩ | e | ⟨e, e'⟩
  · obtain ⟨p, hp⟩ : ∃ p, sN (aS A) = p + 1 := ⟨sN (aS A) - 1, by omega⟩
    have t1 : fi m 401 (nd (gB G + 1) j) = ai m (gB G + 294) (11 * j + 21) := hL.N 1 hj (by omega)
    rw [hp] at n5 n12 h12 hj
    rw [e]
    refine iC_temperature hL.1 n5 h12 hj ?_
    refine bL_27b hL.1 hi hl ?_
    rw [e]
    refine iM_temperature hL.1 n12 h12 hj ?_
    rw [t1]
    exact fin _
  · exact aC_temperature hL.1 n5 h12 e (bL_27b hL.1 hi hl (aM_temperature hL.1 n12 h12 e (fin _)))
  · exact bC_temperature hL.1 n5 h12 e e' (bL_27b hL.1 hi hl (bM_temperature hL.1 n12 h12 e e' (fin _)))

theorem K_28 {G : Cx} {d i : Nat} {m : Mm} {A : Ab} {Q : Option Value → Mm → Prop} (hL : LIv G m A) (hi : i + 7 ≤ gSl G) (hl : gSl G < 4000) (next : ∀ m' A', LIv G m' A' → WP G (d + 100) (0, 0) μL_law 18 [.ref (gSa G), .ref (gB G), .ref (gB G + 293), .int (nI (i + 7))] [] m' Q) : WP G (d + 100) (0, 0) μL_law 1112 [.ref (gSa G), .ref (gB G), .ref (gB G + 293), .int (nI i)] [] m Q := by
  have fin : ∀ v : Int32, WP G (d + 100) (0, 0) μL_law 1130 [.ref (gSa G), .ref (gB G), .ref (gB G + 293), .int (nI i)] [.int v, .int v] m Q := fun v => bL_28c hL.1 hi hl (fun _ => next m A hL) (fun z => absurd rfl z)
  obtain ⟨n5, n12, h12⟩ := hL.nn
  refine bL_28a hL.1 hi hl ?_
  rcases inr_cases (gSx G (i + 1)) (sN (aS A)) (by omega) with ⟨j, hj, e⟩ | e | ⟨e, e'⟩
  · obtain ⟨p, hp⟩ : ∃ p, sN (aS A) = p + 1 := ⟨sN (aS A) - 1, by omega⟩
    have t4 : fi m 404 (nd (gB G + 1) j) = ai m (gB G + 294) (11 * j + 24) := hL.N 4 hj (by omega)
    rw [hp] at n5 n12 h12 hj
    rw [e]
    refine iC_load hL.1 n5 h12 hj ?_
    refine bL_28b hL.1 hi hl ?_
    rw [e]
    refine iM_load hL.1 n12 h12 hj ?_
    rw [t4]
    exact fin _
  · exact aC_load hL.1 n5 h12 e (bL_28b hL.1 hi hl (aM_load hL.1 n12 h12 e (fin _)))
  · exact bC_load hL.1 n5 h12 e e' (bL_28b hL.1 hi hl (bM_load hL.1 n12 h12 e e' (fin _)))

theorem K_33 {G : Cx} {d i : Nat} {m : Mm} {A : Ab} {Q : Option Value → Mm → Prop} (hL : LIv G m A) (hi : i + 7 ≤ gSl G) (hl : gSl G < 4000) (next : ∀ m' A', LIv G m' A' → WP G (d + 100) (0, 0) μL_law 18 [.ref (gSa G), .ref (gB G), .ref (gB G + 293), .int (nI (i + 7))] [] m' Q) : WP G (d + 100) (0, 0) μL_law 1231 [.ref (gSa G), .ref (gB G), .ref (gB G + 293), .int (nI i)] [] m Q := by
  have fin : ∀ v : Int32, WP G (d + 100) (0, 0) μL_law 1249 [.ref (gSa G), .ref (gB G), .ref (gB G + 293), .int (nI i)] [.int v, .int v] m Q := fun v => bL_33c hL.1 hi hl (fun _ => next m A hL) (fun z => absurd rfl z)
  obtain ⟨n5, n12, h12⟩ := hL.nn
  refine bL_33a hL.1 hi hl ?_
  rcases inr_cases (gSx G (i + 1)) (sN (aS A)) (by omega) with ⟨j, hj, e⟩ | e | ⟨e, e'⟩
  · obtain ⟨p, hp⟩ : ∃ p, sN (aS A) = p + 1 := ⟨sN (aS A) - 1, by omega⟩
    have t1 : fi m 401 (nd (gB G + 1) j) = ai m (gB G + 294) (11 * j + 21) := hL.N 1 hj (by omega)
    have t5 : fi m 405 (nd (gB G + 1) j) = ai m (gB G + 294) (11 * j + 25) := hL.N 5 hj (by omega)
    have t6 : fi m 406 (nd (gB G + 1) j) = ai m (gB G + 294) (11 * j + 26) := hL.N 6 hj (by omega)
    rw [hp] at n5 n12 h12 hj
    rw [e]
    refine iC_margin hL.1 n5 h12 hj ?_
    refine bL_33b hL.1 hi hl ?_
    rw [e]
    refine iM_margin hL.1 n12 h12 hj ?_
    rw [t1, t5, t6]
    exact fin _
  · exact aC_margin hL.1 n5 h12 e (bL_33b hL.1 hi hl (aM_margin hL.1 n12 h12 e (fin _)))
  · exact bC_margin hL.1 n5 h12 e e' (bL_33b hL.1 hi hl (bM_margin hL.1 n12 h12 e e' (fin _)))

theorem K_35 {G : Cx} {d i : Nat} {m : Mm} {A : Ab} {Q : Option Value → Mm → Prop} (hL : LIv G m A) (hi : i + 7 ≤ gSl G) (hl : gSl G < 4000) (next : ∀ m' A', LIv G m' A' → WP G (d + 100) (0, 0) μL_law 18 [.ref (gSa G), .ref (gB G), .ref (gB G + 293), .int (nI (i + 7))] [] m' Q) : WP G (d + 100) (0, 0) μL_law 1267 [.ref (gSa G), .ref (gB G), .ref (gB G + 293), .int (nI i)] [] m Q := by
  have fin : ∀ v : Int32, WP G (d + 100) (0, 0) μL_law 1285 [.ref (gSa G), .ref (gB G), .ref (gB G + 293), .int (nI i)] [.int v, .int v] m Q := fun v => bL_35c hL.1 hi hl (fun _ => next m A hL) (fun z => absurd rfl z)
  obtain ⟨n5, n12, h12⟩ := hL.nn
  refine bL_35a hL.1 hi hl ?_
  rcases inr_cases (gSx G (i + 1)) (sN (aS A)) (by omega) with ⟨j, hj, e⟩ | e | ⟨e, e'⟩
  · obtain ⟨p, hp⟩ : ∃ p, sN (aS A) = p + 1 := ⟨sN (aS A) - 1, by omega⟩
    have t7 : fi m 407 (nd (gB G + 1) j) = ai m (gB G + 294) (11 * j + 27) := hL.N 7 hj (by omega)
    rw [hp] at n5 n12 h12 hj
    rw [e]
    refine iC_lowest hL.1 n5 h12 hj ?_
    refine bL_35b hL.1 hi hl ?_
    rw [e]
    refine iM_lowest hL.1 n12 h12 hj ?_
    rw [t7]
    exact fin _
  · exact aC_lowest hL.1 n5 h12 e (bL_35b hL.1 hi hl (aM_lowest hL.1 n12 h12 e (fin _)))
  · exact bC_lowest hL.1 n5 h12 e e' (bL_35b hL.1 hi hl (bM_lowest hL.1 n12 h12 e e' (fin _)))

theorem K_36 {G : Cx} {d i : Nat} {m : Mm} {A : Ab} {Q : Option Value → Mm → Prop} (hL : LIv G m A) (hi : i + 7 ≤ gSl G) (hl : gSl G < 4000) (next : ∀ m' A', LIv G m' A' → WP G (d + 100) (0, 0) μL_law 18 [.ref (gSa G), .ref (gB G), .ref (gB G + 293), .int (nI (i + 7))] [] m' Q) : WP G (d + 100) (0, 0) μL_law 1290 [.ref (gSa G), .ref (gB G), .ref (gB G + 293), .int (nI i)] [] m Q := by
  have fin : ∀ v : Int32, WP G (d + 100) (0, 0) μL_law 1308 [.ref (gSa G), .ref (gB G), .ref (gB G + 293), .int (nI i)] [.int v, .int v] m Q := fun v => bL_36c hL.1 hi hl (fun _ => next m A hL) (fun z => absurd rfl z)
  obtain ⟨n5, n12, h12⟩ := hL.nn
  refine bL_36a hL.1 hi hl ?_
  rcases inr_cases (gSx G (i + 1)) (sN (aS A)) (by omega) with ⟨j, hj, e⟩ | e | ⟨e, e'⟩
  · obtain ⟨p, hp⟩ : ∃ p, sN (aS A) = p + 1 := ⟨sN (aS A) - 1, by omega⟩
    have t8 : fi m 408 (nd (gB G + 1) j) = ai m (gB G + 294) (11 * j + 28) := hL.N 8 hj (by omega)
    rw [hp] at n5 n12 h12 hj
    rw [e]
    refine iC_highest hL.1 n5 h12 hj ?_
    refine bL_36b hL.1 hi hl ?_
    rw [e]
    refine iM_highest hL.1 n12 h12 hj ?_
    rw [t8]
    exact fin _
  · exact aC_highest hL.1 n5 h12 e (bL_36b hL.1 hi hl (aM_highest hL.1 n12 h12 e (fin _)))
  · exact bC_highest hL.1 n5 h12 e e' (bL_36b hL.1 hi hl (bM_highest hL.1 n12 h12 e e' (fin _)))

theorem K_37 {G : Cx} {d i : Nat} {m : Mm} {A : Ab} {Q : Option Value → Mm → Prop} (hL : LIv G m A) (hi : i + 7 ≤ gSl G) (hl : gSl G < 4000) (next : ∀ m' A', LIv G m' A' → WP G (d + 100) (0, 0) μL_law 18 [.ref (gSa G), .ref (gB G), .ref (gB G + 293), .int (nI (i + 7))] [] m' Q) : WP G (d + 100) (0, 0) μL_law 1313 [.ref (gSa G), .ref (gB G), .ref (gB G + 293), .int (nI i)] [] m Q := by
  have fin : ∀ v : Int32, WP G (d + 100) (0, 0) μL_law 1331 [.ref (gSa G), .ref (gB G), .ref (gB G + 293), .int (nI i)] [.int v, .int v] m Q := fun v => bL_37c hL.1 hi hl (fun _ => next m A hL) (fun z => absurd rfl z)
  obtain ⟨n5, n12, h12⟩ := hL.nn
  refine bL_37a hL.1 hi hl ?_
  rcases inr_cases (gSx G (i + 1)) (sN (aS A)) (by omega) with ⟨j, hj, e⟩ | e | ⟨e, e'⟩
  · obtain ⟨p, hp⟩ : ∃ p, sN (aS A) = p + 1 := ⟨sN (aS A) - 1, by omega⟩
    have t9 : fi m 409 (nd (gB G + 1) j) = ai m (gB G + 294) (11 * j + 29) := hL.N 9 hj (by omega)
    rw [hp] at n5 n12 h12 hj
    rw [e]
    refine iC_violations hL.1 n5 h12 hj ?_
    refine bL_37b hL.1 hi hl ?_
    rw [e]
    refine iM_violations hL.1 n12 h12 hj ?_
    rw [t9]
    exact fin _
  · exact aC_violations hL.1 n5 h12 e (bL_37b hL.1 hi hl (aM_violations hL.1 n12 h12 e (fin _)))
  · exact bC_violations hL.1 n5 h12 e e' (bL_37b hL.1 hi hl (bM_violations hL.1 n12 h12 e e' (fin _)))

theorem K_38 {G : Cx} {d i : Nat} {m : Mm} {A : Ab} {Q : Option Value → Mm → Prop} (hL : LIv G m A) (hi : i + 7 ≤ gSl G) (hl : gSl G < 4000) (next : ∀ m' A', LIv G m' A' → WP G (d + 100) (0, 0) μL_law 18 [.ref (gSa G), .ref (gB G), .ref (gB G + 293), .int (nI (i + 7))] [] m' Q) : WP G (d + 100) (0, 0) μL_law 1336 [.ref (gSa G), .ref (gB G), .ref (gB G + 293), .int (nI i)] [] m Q := by
  have fin : ∀ v : Int32, WP G (d + 100) (0, 0) μL_law 1354 [.ref (gSa G), .ref (gB G), .ref (gB G + 293), .int (nI i)] [.int v, .int v] m Q := fun v => bL_38c hL.1 hi hl (fun _ => next m A hL) (fun z => absurd rfl z)
  obtain ⟨n5, n12, h12⟩ := hL.nn
  refine bL_38a hL.1 hi hl ?_
  rcases inr_cases (gSx G (i + 1)) (sN (aS A)) (by omega) with ⟨j, hj, e⟩ | e | ⟨e, e'⟩
  · obtain ⟨p, hp⟩ : ∃ p, sN (aS A) = p + 1 := ⟨sN (aS A) - 1, by omega⟩
    have t10 : fi m 410 (nd (gB G + 1) j) = ai m (gB G + 294) (11 * j + 30) := hL.N 10 hj (by omega)
    rw [hp] at n5 n12 h12 hj
    rw [e]
    refine iC_firstViolation hL.1 n5 h12 hj ?_
    refine bL_38b hL.1 hi hl ?_
    rw [e]
    refine iM_firstViolation hL.1 n12 h12 hj ?_
    rw [t10]
    exact fin _
  · exact aC_firstViolation hL.1 n5 h12 e (bL_38b hL.1 hi hl (aM_firstViolation hL.1 n12 h12 e (fin _)))
  · exact bC_firstViolation hL.1 n5 h12 e e' (bL_38b hL.1 hi hl (bM_firstViolation hL.1 n12 h12 e e' (fin _)))

theorem K_11 {G : Cx} {d i : Nat} {m : Mm} {A : Ab} {Q : Option Value → Mm → Prop} (hL : LIv G m A) (hi : i + 7 ≤ gSl G) (hl : gSl G < 4000) (next : ∀ m' A', LIv G m' A' → WP G (d + 100) (0, 0) μL_law 18 [.ref (gSa G), .ref (gB G), .ref (gB G + 293), .int (nI (i + 7))] [] m' Q) : WP G (d + 100) (0, 0) μL_law 689 [.ref (gSa G), .ref (gB G), .ref (gB G + 293), .int (nI i)] [] m Q := by
  have fin : ∀ v : Int32, WP G (d + 100) (0, 0) μL_law 707 [.ref (gSa G), .ref (gB G), .ref (gB G + 293), .int (nI i)] [.int v, .int v] m Q := fun v => bL_11c hL.1 hi hl (fun _ => next m A hL) (fun z => absurd rfl z)
  obtain ⟨n5, n12, h12⟩ := hL.nl
  refine bL_11a hL.1 hi hl ?_
  rcases inr_cases (gSx G (i + 1)) (sL (aS A)) (by omega) with ⟨j, hj, e⟩ | e | ⟨e, e'⟩
  · obtain ⟨p, hp⟩ : ∃ p, sL (aS A) = p + 1 := ⟨sL (aS A) - 1, by omega⟩
    have t5 : fi m 305 (lv (gB G + 1) j) = ai m (gB G + 294) (7 * j + 301) := hL.L 5 hj (by omega)
    rw [hp] at n5 n12 h12 hj
    rw [e]
    refine iC_opening hL.1 n5 h12 hj ?_
    refine bL_11b hL.1 hi hl ?_
    rw [e]
    refine iM_opening hL.1 n12 h12 hj ?_
    rw [t5]
    exact fin _
  · exact aC_opening hL.1 n5 h12 e (bL_11b hL.1 hi hl (aM_opening hL.1 n12 h12 e (fin _)))
  · exact bC_opening hL.1 n5 h12 e e' (bL_11b hL.1 hi hl (bM_opening hL.1 n12 h12 e e' (fin _)))

theorem K_15 {G : Cx} {d i : Nat} {m : Mm} {A : Ab} {Q : Option Value → Mm → Prop} (hL : LIv G m A) (hi : i + 7 ≤ gSl G) (hl : gSl G < 4000) (next : ∀ m' A', LIv G m' A' → WP G (d + 100) (0, 0) μL_law 18 [.ref (gSa G), .ref (gB G), .ref (gB G + 293), .int (nI (i + 7))] [] m' Q) : WP G (d + 100) (0, 0) μL_law 771 [.ref (gSa G), .ref (gB G), .ref (gB G + 293), .int (nI i)] [] m Q := by
  have fin : ∀ v : Int32, WP G (d + 100) (0, 0) μL_law 789 [.ref (gSa G), .ref (gB G), .ref (gB G + 293), .int (nI i)] [.int v, .int v] m Q := fun v => bL_15c hL.1 hi hl (fun _ => next m A hL) (fun z => absurd rfl z)
  obtain ⟨n5, n12, h12⟩ := hL.nh
  refine bL_15a hL.1 hi hl ?_
  rcases inr_cases (gSx G (i + 1)) (sH (aS A)) (by omega) with ⟨j, hj, e⟩ | e | ⟨e, e'⟩
  · obtain ⟨p, hp⟩ : ∃ p, sH (aS A) = p + 1 := ⟨sH (aS A) - 1, by omega⟩
    have t7 : fi m 107 (ht (gB G + 1) j) = ai m (gB G + 294) (8 * j + 345) := hL.H 7 hj (by omega)
    rw [hp] at n5 n12 h12 hj
    rw [e]
    refine iC_heaterState hL.1 n5 h12 hj ?_
    refine bL_15b hL.1 hi hl ?_
    rw [e]
    refine iM_heaterState hL.1 n12 h12 hj ?_
    rw [t7]
    exact fin _
  · exact aC_heaterState hL.1 n5 h12 e (bL_15b hL.1 hi hl (aM_heaterState hL.1 n12 h12 e (fin _)))
  · exact bC_heaterState hL.1 n5 h12 e e' (bL_15b hL.1 hi hl (bM_heaterState hL.1 n12 h12 e e' (fin _)))

theorem K_16 {G : Cx} {d i : Nat} {m : Mm} {A : Ab} {Q : Option Value → Mm → Prop} (hL : LIv G m A) (hi : i + 7 ≤ gSl G) (hl : gSl G < 4000) (next : ∀ m' A', LIv G m' A' → WP G (d + 100) (0, 0) μL_law 18 [.ref (gSa G), .ref (gB G), .ref (gB G + 293), .int (nI (i + 7))] [] m' Q) : WP G (d + 100) (0, 0) μL_law 794 [.ref (gSa G), .ref (gB G), .ref (gB G + 293), .int (nI i)] [] m Q := by
  have fin : ∀ v : Int32, WP G (d + 100) (0, 0) μL_law 812 [.ref (gSa G), .ref (gB G), .ref (gB G + 293), .int (nI i)] [.int v, .int v] m Q := fun v => bL_16c hL.1 hi hl (fun _ => next m A hL) (fun z => absurd rfl z)
  obtain ⟨n5, n12, h12⟩ := hL.nh
  refine bL_16a hL.1 hi hl ?_
  rcases inr_cases (gSx G (i + 1)) (sH (aS A)) (by omega) with ⟨j, hj, e⟩ | e | ⟨e, e'⟩
  · obtain ⟨p, hp⟩ : ∃ p, sH (aS A) = p + 1 := ⟨sH (aS A) - 1, by omega⟩
    have t5 : fi m 105 (ht (gB G + 1) j) = ai m (gB G + 294) (8 * j + 343) := hL.H 5 hj (by omega)
    rw [hp] at n5 n12 h12 hj
    rw [e]
    refine iC_heaterMode hL.1 n5 h12 hj ?_
    refine bL_16b hL.1 hi hl ?_
    rw [e]
    refine iM_heaterMode hL.1 n12 h12 hj ?_
    rw [t5]
    exact fin _
  · exact aC_heaterMode hL.1 n5 h12 e (bL_16b hL.1 hi hl (aM_heaterMode hL.1 n12 h12 e (fin _)))
  · exact bC_heaterMode hL.1 n5 h12 e e' (bL_16b hL.1 hi hl (bM_heaterMode hL.1 n12 h12 e e' (fin _)))
