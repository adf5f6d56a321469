theorem rg_of {x a b : Int32} {p q : Int} (h1 : ¬ x < a) (h2 : ¬ b < x) (ha : a.toInt = p) (hb : b.toInt = q) : rg x p q := by
  rw [Int32.lt_iff_toInt_lt] at h1 h2
  unfold rg
  omega
theorem RulsM.of {st st' : Nat → Int32} {n nl nh n' nl' nh' : Nat} {L : List Ru} (h : RulsM st n nl nh L) (h1 : ∀ k, k = 15 ∨ 414 ≤ k → st' k = st k) (h2 : n ≤ n' ∧ nl ≤ nl' ∧ nh ≤ nh') (h3 : ∀ R ∈ L, RuC n' nl' nh' R) : RulsM st' n' nl' nh' L := by
  obtain ⟨a1, a2, a3⟩ := h
  exact ⟨(h1 15 (Or.inl rfl)).trans a1, a2, fun r R hr => ⟨RulM_eq (fun k hk => h1 k (Or.inr hk)) (a3 r R hr).1, (h3 R (List.mem_of_getElem? hr)).ok⟩⟩
/-- a number set on both sides -/
theorem LIv_set {G : Cx} {m m1 m2 : Mm} {A : Ab} {st' : Nat → Int32} (h : LIv G m A) (hS : CS m m1 (gB G + 1) (UD (sN (aS A)) (sL (aS A)) (sH (aS A))) st' (sE (aS A))) (hM : MS G m1 m2 st' (sE (aS A))) (h1 : ∀ k, (152 ≤ k ∧ k < 296) ∨ k = 15 ∨ 414 ≤ k → st' k = sS (aS A) k) (h2 : ∀ j, j < sH (aS A) → st' (8 * j + 342) = sS (aS A) (8 * j + 342)) (hI : Iv 100000000 st' (sN (aS A)) (sL (aS A)) (sH (aS A))) : LIv G m2 ((st', A.1.2), A.2) := by
  have hC : CRx m1 (gB G + 1) (st', A.1.2) := h.2.1.1.of hS (fun k hk => h1 k (by omega)) h2 h.nn.2.2
  have c1 : Cls G m1 ((st', A.1.2), A.2) := h.2.1.craft (hS.1.mono (fun a ha => SA_CT ha)) hC
  have r1 : Ref G m1 A := h.2.2.1.cls (hS.1.mono (fun a ha => CT_CC (SA_CT ha)))
  refine ⟨hM.1, c1.ref (hM.2.1.mono (fun a ha => SM_RC ha)), r1.ms hM, ⟨hI, h.2.2.2.1.2.of (fun k hk => h1 k (by omega)) ⟨Nat.le_refl _, Nat.le_refl _, Nat.le_refl _⟩ hC.2.2.2.2.2.2.1⟩, h.2.2.2.2⟩
theorem MS.of {G : Cx} {m : Mm} (hF : Full G m) : MS G m m (ai m (gB G + 294)) (al m (gB G + 297)) := ⟨hF, Out.rf, rfl, rfl⟩

theorem K_2 {G : Cx} {d i : Nat} {m : Mm} {A : Ab} {Q : Option Value → Mm → Prop} (hL : LIv G m A) (hi : i + 7 ≤ gSl G) (hl : gSl G < 4000) (next : ∀ m' A', LIv G m' A' → WP G (d + 100) (0, 0) μL_law 18 [.ref (gSa G), .ref (gB G), .ref (gB G + 293), .int (nI (i + 7))] [] m' Q) : WP G (d + 100) (0, 0) μL_law 352 [.ref (gSa G), .ref (gB G), .ref (gB G + 293), .int (nI i)] [] m Q := by
  have fin : ∀ v : Int32, WP G (d + 100) (0, 0) μL_law 390 [.ref (gSa G), .ref (gB G), .ref (gB G + 293), .int (nI i)] [.int v, .int v] m Q := fun v => bL_2c hL.1 hi hl (fun _ => next m A hL) (fun z => absurd rfl z)
  obtain ⟨n5, n12, h12⟩ := hL.nn
  refine bL_2a hL.1 hi hl ?_
  rcases inr_cases (gSx G (i + 1)) (sN (aS A)) (by omega) with ⟨j, hj, e⟩ | e | ⟨e, e'⟩
  · obtain ⟨p, hp⟩ : ∃ p, sN (aS A) = p + 1 := ⟨sN (aS A) - 1, by omega⟩
    have hjn := hj
    rw [hp] at n5 n12 h12 hj
    rw [e]
    refine iC_setLimits hL.1 n5 h12 hj ?_ ?_ ?_ ?_ ?_
    · intro c1
      refine bL_2b hL.1 hi hl ?_
      rw [e]
      exact iM_setLimits hL.1 n12 h12 hj  (fun _ => fin _) (fun h1 _ => absurd c1 h1) (fun h1 _ _ => absurd c1 h1) (fun h1 _ _ _ => absurd c1 h1) (fun h1 _ _ _ => absurd c1 h1)
    · intro c1 c2
      refine bL_2b hL.1 hi hl ?_
      rw [e]
      exact iM_setLimits hL.1 n12 h12 hj  (fun h1 => absurd h1 c1) (fun _ _ => fin _) (fun _ h2 _ => absurd c2 h2) (fun _ h2 _ _ => absurd c2 h2) (fun _ h2 _ _ => absurd c2 h2)
    · intro c1 c2 c3
      refine bL_2b hL.1 hi hl ?_
      rw [e]
      exact iM_setLimits hL.1 n12 h12 hj  (fun h1 => absurd h1 c1) (fun _ h2 => absurd h2 c2) (fun _ _ _ => fin _) (fun _ _ h3 _ => absurd c3 h3) (fun _ _ h3 _ => absurd c3 h3)
    · intro c1 c2 c3 c4
      refine bL_2b hL.1 hi hl ?_
      rw [e]
      exact iM_setLimits hL.1 n12 h12 hj  (fun h1 => absurd h1 c1) (fun _ h2 => absurd h2 c2) (fun _ _ h3 => absurd h3 c3) (fun _ _ _ _ => fin _) (fun _ _ _ h4 => absurd c4 h4)
    · intro c1 c2 c3 c4
      have b1 := hL.nn.2.2
      have b2 := hL.nl.2.2
      have b3 := hL.nh.2.2
      have hS : CS m _ (gB G + 1) (UD (sN (aS A)) (sL (aS A)) (sH (aS A))) (upd (upd (sS (aS A)) (11 * j + 25) (gSx G (i + 2))) (11 * j + 26) (gSx G (i + 3))) (sE (aS A)) := (hL.CS.wN (i := j) (x := (gSx G (i + 2))) (D' := UD (sN (aS A)) (sL (aS A)) (sH (aS A))) 5 (by omega) (by omega) (fun k hk => Or.inl hk)).wN (i := j) (x := (gSx G (i + 3))) (D' := UD (sN (aS A)) (sL (aS A)) (sH (aS A))) 6 (by omega) (by omega) (fun k hk => Or.inl hk)
      refine bL_2b (hS.full hL.1) hi hl ?_
      rw [e]
      refine iM_setLimits (hS.full hL.1) n12 h12 hj (fun h1 => absurd h1 c1) (fun _ h2 => absurd h2 c2) (fun _ _ h3 => absurd h3 c3) (fun _ _ _ h4 => absurd h4 c4) (fun _ _ _ _ => ?_)
      have r1 := (hL.2.2.1.cls (hS.1.mono (fun a ha => CT_CC (SA_CT ha)))).MS (hS.full hL.1)
      have hM := (r1.wst (11 * j + 25) (gSx G (i + 2))).wst (11 * j + 26) (gSx G (i + 3))
      have h1 : ∀ k, (152 ≤ k ∧ k < 296) ∨ k = 15 ∨ 414 ≤ k → (upd (upd (sS (aS A)) (11 * j + 25) (gSx G (i + 2))) (11 * j + 26) (gSx G (i + 3))) k = sS (aS A) k := fun k hk => by rw [upd_ne (by omega), upd_ne (by omega)]
      have h2 : ∀ q, q < sH (aS A) → (upd (upd (sS (aS A)) (11 * j + 25) (gSx G (i + 2))) (11 * j + 26) (gSx G (i + 3))) (8 * q + 342) = sS (aS A) (8 * q + 342) := fun q hq => by rw [upd_ne (by omega), upd_ne (by omega)]
      have hI : Iv 100000000 (upd (upd (sS (aS A)) (11 * j + 25) (gSx G (i + 2))) (11 * j + 26) (gSx G (i + 3))) (sN (aS A)) (sL (aS A)) (sH (aS A)) := (hL.iv.upd (x := (gSx G (i + 2))) (k := 11 * j + 25) (by omega) (fun _ _ => by omega) (fun _ _ => ⟨fun _ _ _ => by omega, fun _ => by omega⟩) (fun _ _ => ⟨fun _ _ => by omega, fun _ => by omega, fun _ => by omega⟩)).upd (by omega) (fun _ _ => by omega) (fun _ _ => ⟨fun _ _ _ => by omega, fun _ => by omega⟩) (fun _ _ => ⟨fun _ _ => by omega, fun _ => by omega, fun _ => by omega⟩)
      exact bL_2c hM.1 hi hl (fun _ => next _ _ (LIv_set hL hS hM h1 h2 hI)) (fun z => absurd rfl z)
  · exact aC_setLimits hL.1 n5 h12 e (bL_2b hL.1 hi hl (aM_setLimits hL.1 n12 h12 e (fin _)))
  · exact bC_setLimits hL.1 n5 h12 e e' (bL_2b hL.1 hi hl (bM_setLimits hL.1 n12 h12 e e' (fin _)))

theorem K_3 {G : Cx} {d i : Nat} {m : Mm} {A : Ab} {Q : Option Value → Mm → Prop} (hL : LIv G m A) (hi : i + 7 ≤ gSl G) (hl : gSl G < 4000) (next : ∀ m' A', LIv G m' A' → WP G (d + 100) (0, 0) μL_law 18 [.ref (gSa G), .ref (gB G), .ref (gB G + 293), .int (nI (i + 7))] [] m' Q) : WP G (d + 100) (0, 0) μL_law 395 [.ref (gSa G), .ref (gB G), .ref (gB G + 293), .int (nI i)] [] m Q := by
  have fin : ∀ v : Int32, WP G (d + 100) (0, 0) μL_law 423 [.ref (gSa G), .ref (gB G), .ref (gB G + 293), .int (nI i)] [.int v, .int v] m Q := fun v => bL_3c hL.1 hi hl (fun _ => next m A hL) (fun z => absurd rfl z)
  obtain ⟨n5, n12, h12⟩ := hL.nn
  refine bL_3a hL.1 hi hl ?_
  rcases inr_cases (gSx G (i + 1)) (sN (aS A)) (by omega) with ⟨j, hj, e⟩ | e | ⟨e, e'⟩
  · obtain ⟨p, hp⟩ : ∃ p, sN (aS A) = p + 1 := ⟨sN (aS A) - 1, by omega⟩
    have hjn := hj
    have t : fi m 401 (nd (gB G + 1) j) = ai m (gB G + 294) (11 * j + 21) := hL.N 1 hj (by omega)
    rw [hp] at n5 n12 h12 hj
    rw [e]
    refine iC_setTemperature hL.1 n5 h12 hj ?_ ?_ ?_
    · intro c1
      refine bL_3b hL.1 hi hl ?_
      rw [e]
      exact iM_setTemperature hL.1 n12 h12 hj  (fun _ => fin _) (fun h1 _ => absurd c1 h1) (fun h1 _ => absurd c1 h1)
    · intro c1 c2
      refine bL_3b hL.1 hi hl ?_
      rw [e]
      exact iM_setTemperature hL.1 n12 h12 hj  (fun h1 => absurd h1 c1) (fun _ _ => fin _) (fun _ h2 => absurd c2 h2)
    · intro c1 c2
      have b1 := hL.nn.2.2
      have b2 := hL.nl.2.2
      have b3 := hL.nh.2.2
      have hS : CS m _ (gB G + 1) (UD (sN (aS A)) (sL (aS A)) (sH (aS A))) (upd (sS (aS A)) (11 * j + 21) (gSx G (i + 2))) (sE (aS A)) := (hL.CS.wN (i := j) (x := (gSx G (i + 2))) (D' := UD (sN (aS A)) (sL (aS A)) (sH (aS A))) 1 (by omega) (by omega) (fun k hk => Or.inl hk))
      refine bL_3b (hS.full hL.1) hi hl ?_
      rw [e]
      refine iM_setTemperature (hS.full hL.1) n12 h12 hj (fun h1 => absurd h1 c1) (fun _ h2 => absurd h2 c2) (fun _ _ => ?_)
      have r1 := (hL.2.2.1.cls (hS.1.mono (fun a ha => CT_CC (SA_CT ha)))).MS (hS.full hL.1)
      have hM := (r1.wst (11 * j + 21) (gSx G (i + 2)))
      have h1 : ∀ k, (152 ≤ k ∧ k < 296) ∨ k = 15 ∨ 414 ≤ k → (upd (sS (aS A)) (11 * j + 21) (gSx G (i + 2))) k = sS (aS A) k := fun k hk => by rw [upd_ne (by omega)]
      have h2 : ∀ q, q < sH (aS A) → (upd (sS (aS A)) (11 * j + 21) (gSx G (i + 2))) (8 * q + 342) = sS (aS A) (8 * q + 342) := fun q hq => by rw [upd_ne (by omega)]
      have hI : Iv 100000000 (upd (sS (aS A)) (11 * j + 21) (gSx G (i + 2))) (sN (aS A)) (sL (aS A)) (sH (aS A)) := hL.iv.upd (by omega) (fun _ _ => ⟨by omega, by omega, by omega, fun _ => rg_of c1 c2 (by decide) (by decide)⟩) (fun _ _ => ⟨fun _ _ _ => by omega, fun _ => by omega⟩) (fun _ _ => ⟨fun _ _ => by omega, fun _ => by omega, fun _ => by omega⟩)
      rw [t]
      exact bL_3c hM.1 hi hl (fun _ => next _ _ (LIv_set hL hS hM h1 h2 hI)) (fun z => absurd rfl z)
  · exact aC_setTemperature hL.1 n5 h12 e (bL_3b hL.1 hi hl (aM_setTemperature hL.1 n12 h12 e (fin _)))
  · exact bC_setTemperature hL.1 n5 h12 e e' (bL_3b hL.1 hi hl (bM_setTemperature hL.1 n12 h12 e e' (fin _)))

theorem K_4 {G : Cx} {d i : Nat} {m : Mm} {A : Ab} {Q : Option Value → Mm → Prop} (hL : LIv G m A) (hi : i + 7 ≤ gSl G) (hl : gSl G < 4000) (next : ∀ m' A', LIv G m' A' → WP G (d + 100) (0, 0) μL_law 18 [.ref (gSa G), .ref (gB G), .ref (gB G + 293), .int (nI (i + 7))] [] m' Q) : WP G (d + 100) (0, 0) μL_law 428 [.ref (gSa G), .ref (gB G), .ref (gB G + 293), .int (nI i)] [] m Q := by
  have fin : ∀ v : Int32, WP G (d + 100) (0, 0) μL_law 456 [.ref (gSa G), .ref (gB G), .ref (gB G + 293), .int (nI i)] [.int v, .int v] m Q := fun v => bL_4c hL.1 hi hl (fun _ => next m A hL) (fun z => absurd rfl z)
  obtain ⟨n5, n12, h12⟩ := hL.nn
  refine bL_4a hL.1 hi hl ?_
  rcases inr_cases (gSx G (i + 1)) (sN (aS A)) (by omega) with ⟨j, hj, e⟩ | e | ⟨e, e'⟩
  · obtain ⟨p, hp⟩ : ∃ p, sN (aS A) = p + 1 := ⟨sN (aS A) - 1, by omega⟩
    have hjn := hj
    have t : fi m 404 (nd (gB G + 1) j) = ai m (gB G + 294) (11 * j + 24) := hL.N 4 hj (by omega)
    rw [hp] at n5 n12 h12 hj
    rw [e]
    refine iC_setLoad hL.1 n5 h12 hj ?_ ?_ ?_
    · intro c1
      refine bL_4b hL.1 hi hl ?_
      rw [e]
      exact iM_setLoad hL.1 n12 h12 hj  (fun _ => fin _) (fun h1 _ => absurd c1 h1) (fun h1 _ => absurd c1 h1)
    · intro c1 c2
      refine bL_4b hL.1 hi hl ?_
      rw [e]
      exact iM_setLoad hL.1 n12 h12 hj  (fun h1 => absurd h1 c1) (fun _ _ => fin _) (fun _ h2 => absurd c2 h2)
    · intro c1 c2
      have b1 := hL.nn.2.2
      have b2 := hL.nl.2.2
      have b3 := hL.nh.2.2
      have hS : CS m _ (gB G + 1) (UD (sN (aS A)) (sL (aS A)) (sH (aS A))) (upd (sS (aS A)) (11 * j + 24) (gSx G (i + 2))) (sE (aS A)) := (hL.CS.wN (i := j) (x := (gSx G (i + 2))) (D' := UD (sN (aS A)) (sL (aS A)) (sH (aS A))) 4 (by omega) (by omega) (fun k hk => Or.inl hk))
      refine bL_4b (hS.full hL.1) hi hl ?_
      rw [e]
      refine iM_setLoad (hS.full hL.1) n12 h12 hj (fun h1 => absurd h1 c1) (fun _ h2 => absurd h2 c2) (fun _ _ => ?_)
      have r1 := (hL.2.2.1.cls (hS.1.mono (fun a ha => CT_CC (SA_CT ha)))).MS (hS.full hL.1)
      have hM := (r1.wst (11 * j + 24) (gSx G (i + 2)))
      have h1 : ∀ k, (152 ≤ k ∧ k < 296) ∨ k = 15 ∨ 414 ≤ k → (upd (sS (aS A)) (11 * j + 24) (gSx G (i + 2))) k = sS (aS A) k := fun k hk => by rw [upd_ne (by omega)]
      have h2 : ∀ q, q < sH (aS A) → (upd (sS (aS A)) (11 * j + 24) (gSx G (i + 2))) (8 * q + 342) = sS (aS A) (8 * q + 342) := fun q hq => by rw [upd_ne (by omega)]
      have hI : Iv 100000000 (upd (sS (aS A)) (11 * j + 24) (gSx G (i + 2))) (sN (aS A)) (sL (aS A)) (sH (aS A)) := hL.iv.upd (by omega) (fun _ _ => by omega) (fun _ _ => ⟨fun _ _ _ => by omega, fun _ => by omega⟩) (fun _ _ => ⟨fun _ _ => by omega, fun _ => by omega, fun _ => by omega⟩)
      rw [t]
      exact bL_4c hM.1 hi hl (fun _ => next _ _ (LIv_set hL hS hM h1 h2 hI)) (fun z => absurd rfl z)
  · exact aC_setLoad hL.1 n5 h12 e (bL_4b hL.1 hi hl (aM_setLoad hL.1 n12 h12 e (fin _)))
  · exact bC_setLoad hL.1 n5 h12 e e' (bL_4b hL.1 hi hl (bM_setLoad hL.1 n12 h12 e e' (fin _)))

theorem K_17 {G : Cx} {d i : Nat} {m : Mm} {A : Ab} {Q : Option Value → Mm → Prop} (hL : LIv G m A) (hi : i + 7 ≤ gSl G) (hl : gSl G < 4000) (next : ∀ m' A', LIv G m' A' → WP G (d + 100) (0, 0) μL_law 18 [.ref (gSa G), .ref (gB G), .ref (gB G + 293), .int (nI (i + 7))] [] m' Q) : WP G (d + 100) (0, 0) μL_law 817 [.ref (gSa G), .ref (gB G), .ref (gB G + 293), .int (nI i)] [] m Q := by
  have fin : ∀ v : Int32, WP G (d + 100) (0, 0) μL_law 845 [.ref (gSa G), .ref (gB G), .ref (gB G + 293), .int (nI i)] [.int v, .int v] m Q := fun v => bL_17c hL.1 hi hl (fun _ => next m A hL) (fun z => absurd rfl z)
  obtain ⟨n5, n12, h12⟩ := hL.nh
  refine bL_17a hL.1 hi hl ?_
  rcases inr_cases (gSx G (i + 1)) (sH (aS A)) (by omega) with ⟨j, hj, e⟩ | e | ⟨e, e'⟩
  · obtain ⟨p, hp⟩ : ∃ p, sH (aS A) = p + 1 := ⟨sH (aS A) - 1, by omega⟩
    have hjn := hj
    have t : fi m 105 (ht (gB G + 1) j) = ai m (gB G + 294) (8 * j + 343) := hL.H 5 hj (by omega)
    rw [hp] at n5 n12 h12 hj
    rw [e]
    refine iC_setMode hL.1 n5 h12 hj ?_ ?_ ?_
    · intro c1
      refine bL_17b hL.1 hi hl ?_
      rw [e]
      exact iM_setMode hL.1 n12 h12 hj  (fun _ => fin _) (fun h1 _ => absurd c1 h1) (fun h1 _ => absurd c1 h1)
    · intro c1 c2
      refine bL_17b hL.1 hi hl ?_
      rw [e]
      exact iM_setMode hL.1 n12 h12 hj  (fun h1 => absurd h1 c1) (fun _ _ => fin _) (fun _ h2 => absurd c2 h2)
    · intro c1 c2
      have b1 := hL.nn.2.2
      have b2 := hL.nl.2.2
      have b3 := hL.nh.2.2
      have hS : CS m _ (gB G + 1) (UD (sN (aS A)) (sL (aS A)) (sH (aS A))) (upd (sS (aS A)) (8 * j + 343) (gSx G (i + 2))) (sE (aS A)) := (hL.CS.wH (i := j) (x := (gSx G (i + 2))) (D' := UD (sN (aS A)) (sL (aS A)) (sH (aS A))) 5 (by omega) (by omega) (fun k hk => Or.inl hk))
      refine bL_17b (hS.full hL.1) hi hl ?_
      rw [e]
      refine iM_setMode (hS.full hL.1) n12 h12 hj (fun h1 => absurd h1 c1) (fun _ h2 => absurd h2 c2) (fun _ _ => ?_)
      have r1 := (hL.2.2.1.cls (hS.1.mono (fun a ha => CT_CC (SA_CT ha)))).MS (hS.full hL.1)
      have hM := (r1.wst (8 * j + 343) (gSx G (i + 2)))
      have h1 : ∀ k, (152 ≤ k ∧ k < 296) ∨ k = 15 ∨ 414 ≤ k → (upd (sS (aS A)) (8 * j + 343) (gSx G (i + 2))) k = sS (aS A) k := fun k hk => by rw [upd_ne (by omega)]
      have h2 : ∀ q, q < sH (aS A) → (upd (sS (aS A)) (8 * j + 343) (gSx G (i + 2))) (8 * q + 342) = sS (aS A) (8 * q + 342) := fun q hq => by rw [upd_ne (by omega)]
      have hx : (gSx G (i + 2)) = 0 ∨ (gSx G (i + 2)) = 1 ∨ (gSx G (i + 2)) = 2 := by
        have q := rg_of (p := 0) (q := 2) c1 c2 (by decide) (by decide)
        have q1 := q.1
        have q2 := q.2
        have z0 : (0 : Int32).toInt = 0 := rfl
        have z1 : (1 : Int32).toInt = 1 := rfl
        have z2 : (2 : Int32).toInt = 2 := rfl
        have : (gSx G (i + 2)).toInt = 0 ∨ (gSx G (i + 2)).toInt = 1 ∨ (gSx G (i + 2)).toInt = 2 := by omega
        rcases this with h | h | h
        · exact Or.inl (Int32.toInt_inj.mp (by omega))
        · exact Or.inr (Or.inl (Int32.toInt_inj.mp (by omega)))
        · exact Or.inr (Or.inr (Int32.toInt_inj.mp (by omega)))
      have hI : Iv 100000000 (upd (sS (aS A)) (8 * j + 343) (gSx G (i + 2))) (sN (aS A)) (sL (aS A)) (sH (aS A)) := hL.iv.upd (by omega) (fun _ _ => by omega) (fun _ _ => ⟨fun _ _ _ => by omega, fun _ => by omega⟩) (fun _ _ => ⟨fun _ _ => by omega, fun _ => by omega, fun _ => hx⟩)
      rw [t]
      exact bL_17c hM.1 hi hl (fun _ => next _ _ (LIv_set hL hS hM h1 h2 hI)) (fun z => absurd rfl z)
  · exact aC_setMode hL.1 n5 h12 e (bL_17b hL.1 hi hl (aM_setMode hL.1 n12 h12 e (fin _)))
  · exact bC_setMode hL.1 n5 h12 e e' (bL_17b hL.1 hi hl (bM_setMode hL.1 n12 h12 e e' (fin _)))

theorem K_18 {G : Cx} {d i : Nat} {m : Mm} {A : Ab} {Q : Option Value → Mm → Prop} (hL : LIv G m A) (hi : i + 7 ≤ gSl G) (hl : gSl G < 4000) (next : ∀ m' A', LIv G m' A' → WP G (d + 100) (0, 0) μL_law 18 [.ref (gSa G), .ref (gB G), .ref (gB G + 293), .int (nI (i + 7))] [] m' Q) : WP G (d + 100) (0, 0) μL_law 850 [.ref (gSa G), .ref (gB G), .ref (gB G + 293), .int (nI i)] [] m Q := by
  have fin : ∀ v : Int32, WP G (d + 100) (0, 0) μL_law 920 [.ref (gSa G), .ref (gB G), .ref (gB G + 293), .int (nI i)] [.int v, .int v] m Q := fun v => bL_18c hL.1 hi hl (fun _ => next m A hL) (fun z => absurd rfl z)
  refine bL_18a hL.1 hi hl ?_
  refine sC_setOrbit hL.1 ?_ ?_ ?_ ?_ ?_ ?_ ?_ ?_ ?_ ?_ ?_ ?_ ?_
  · intro c1
    refine bL_18b hL.1 hi hl ?_
    exact sM_setOrbit hL.1  (fun _ => fin _) (fun h1 _ => absurd c1 h1) (fun h1 _ _ => absurd c1 h1) (fun h1 _ _ _ => absurd c1 h1) (fun h1 _ _ _ _ => absurd c1 h1) (fun h1 _ _ _ _ _ => absurd c1 h1) (fun h1 _ _ _ _ _ _ => absurd c1 h1) (fun h1 _ _ _ _ _ _ _ => absurd c1 h1) (fun h1 _ _ _ _ _ _ _ _ => absurd c1 h1) (fun h1 _ _ _ _ _ _ _ _ _ => absurd c1 h1) (fun h1 _ _ _ _ _ _ _ _ _ _ => absurd c1 h1) (fun h1 _ _ _ _ _ _ _ _ _ _ _ => absurd c1 h1) (fun h1 _ _ _ _ _ _ _ _ _ _ _ => absurd c1 h1)
  · intro c1 c2
    refine bL_18b hL.1 hi hl ?_
    exact sM_setOrbit hL.1  (fun h1 => absurd h1 c1) (fun _ _ => fin _) (fun _ h2 _ => absurd c2 h2) (fun _ h2 _ _ => absurd c2 h2) (fun _ h2 _ _ _ => absurd c2 h2) (fun _ h2 _ _ _ _ => absurd c2 h2) (fun _ h2 _ _ _ _ _ => absurd c2 h2) (fun _ h2 _ _ _ _ _ _ => absurd c2 h2) (fun _ h2 _ _ _ _ _ _ _ => absurd c2 h2) (fun _ h2 _ _ _ _ _ _ _ _ => absurd c2 h2) (fun _ h2 _ _ _ _ _ _ _ _ _ => absurd c2 h2) (fun _ h2 _ _ _ _ _ _ _ _ _ _ => absurd c2 h2) (fun _ h2 _ _ _ _ _ _ _ _ _ _ => absurd c2 h2)
  · intro c1 c2 c3
    refine bL_18b hL.1 hi hl ?_
    exact sM_setOrbit hL.1  (fun h1 => absurd h1 c1) (fun _ h2 => absurd h2 c2) (fun _ _ _ => fin _) (fun _ _ h3 _ => absurd c3 h3) (fun _ _ h3 _ _ => absurd c3 h3) (fun _ _ h3 _ _ _ => absurd c3 h3) (fun _ _ h3 _ _ _ _ => absurd c3 h3) (fun _ _ h3 _ _ _ _ _ => absurd c3 h3) (fun _ _ h3 _ _ _ _ _ _ => absurd c3 h3) (fun _ _ h3 _ _ _ _ _ _ _ => absurd c3 h3) (fun _ _ h3 _ _ _ _ _ _ _ _ => absurd c3 h3) (fun _ _ h3 _ _ _ _ _ _ _ _ _ => absurd c3 h3) (fun _ _ h3 _ _ _ _ _ _ _ _ _ => absurd c3 h3)
  · intro c1 c2 c3 c4
    refine bL_18b hL.1 hi hl ?_
    exact sM_setOrbit hL.1  (fun h1 => absurd h1 c1) (fun _ h2 => absurd h2 c2) (fun _ _ h3 => absurd h3 c3) (fun _ _ _ _ => fin _) (fun _ _ _ h4 _ => absurd c4 h4) (fun _ _ _ h4 _ _ => absurd c4 h4) (fun _ _ _ h4 _ _ _ => absurd c4 h4) (fun _ _ _ h4 _ _ _ _ => absurd c4 h4) (fun _ _ _ h4 _ _ _ _ _ => absurd c4 h4) (fun _ _ _ h4 _ _ _ _ _ _ => absurd c4 h4) (fun _ _ _ h4 _ _ _ _ _ _ _ => absurd c4 h4) (fun _ _ _ h4 _ _ _ _ _ _ _ _ => absurd c4 h4) (fun _ _ _ h4 _ _ _ _ _ _ _ _ => absurd c4 h4)
  · intro c1 c2 c3 c4 c5
    refine bL_18b hL.1 hi hl ?_
    exact sM_setOrbit hL.1  (fun h1 => absurd h1 c1) (fun _ h2 => absurd h2 c2) (fun _ _ h3 => absurd h3 c3) (fun _ _ _ h4 => absurd h4 c4) (fun _ _ _ _ _ => fin _) (fun _ _ _ _ h5 _ => absurd c5 h5) (fun _ _ _ _ h5 _ _ => absurd c5 h5) (fun _ _ _ _ h5 _ _ _ => absurd c5 h5) (fun _ _ _ _ h5 _ _ _ _ => absurd c5 h5) (fun _ _ _ _ h5 _ _ _ _ _ => absurd c5 h5) (fun _ _ _ _ h5 _ _ _ _ _ _ => absurd c5 h5) (fun _ _ _ _ h5 _ _ _ _ _ _ _ => absurd c5 h5) (fun _ _ _ _ h5 _ _ _ _ _ _ _ => absurd c5 h5)
  · intro c1 c2 c3 c4 c5 c6
    refine bL_18b hL.1 hi hl ?_
    exact sM_setOrbit hL.1  (fun h1 => absurd h1 c1) (fun _ h2 => absurd h2 c2) (fun _ _ h3 => absurd h3 c3) (fun _ _ _ h4 => absurd h4 c4) (fun _ _ _ _ h5 => absurd h5 c5) (fun _ _ _ _ _ _ => fin _) (fun _ _ _ _ _ h6 _ => absurd c6 h6) (fun _ _ _ _ _ h6 _ _ => absurd c6 h6) (fun _ _ _ _ _ h6 _ _ _ => absurd c6 h6) (fun _ _ _ _ _ h6 _ _ _ _ => absurd c6 h6) (fun _ _ _ _ _ h6 _ _ _ _ _ => absurd c6 h6) (fun _ _ _ _ _ h6 _ _ _ _ _ _ => absurd c6 h6) (fun _ _ _ _ _ h6 _ _ _ _ _ _ => absurd c6 h6)
  · intro c1 c2 c3 c4 c5 c6 c7
    refine bL_18b hL.1 hi hl ?_
    exact sM_setOrbit hL.1  (fun h1 => absurd h1 c1) (fun _ h2 => absurd h2 c2) (fun _ _ h3 => absurd h3 c3) (fun _ _ _ h4 => absurd h4 c4) (fun _ _ _ _ h5 => absurd h5 c5) (fun _ _ _ _ _ h6 => absurd h6 c6) (fun _ _ _ _ _ _ _ => fin _) (fun _ _ _ _ _ _ h7 _ => absurd c7 h7) (fun _ _ _ _ _ _ h7 _ _ => absurd c7 h7) (fun _ _ _ _ _ _ h7 _ _ _ => absurd c7 h7) (fun _ _ _ _ _ _ h7 _ _ _ _ => absurd c7 h7) (fun _ _ _ _ _ _ h7 _ _ _ _ _ => absurd c7 h7) (fun _ _ _ _ _ _ h7 _ _ _ _ _ => absurd c7 h7)
  · intro c1 c2 c3 c4 c5 c6 c7 c8
    refine bL_18b hL.1 hi hl ?_
    exact sM_setOrbit hL.1  (fun h1 => absurd h1 c1) (fun _ h2 => absurd h2 c2) (fun _ _ h3 => absurd h3 c3) (fun _ _ _ h4 => absurd h4 c4) (fun _ _ _ _ h5 => absurd h5 c5) (fun _ _ _ _ _ h6 => absurd h6 c6) (fun _ _ _ _ _ _ h7 => absurd h7 c7) (fun _ _ _ _ _ _ _ _ => fin _) (fun _ _ _ _ _ _ _ h8 _ => absurd c8 h8) (fun _ _ _ _ _ _ _ h8 _ _ => absurd c8 h8) (fun _ _ _ _ _ _ _ h8 _ _ _ => absurd c8 h8) (fun _ _ _ _ _ _ _ h8 _ _ _ _ => absurd c8 h8) (fun _ _ _ _ _ _ _ h8 _ _ _ _ => absurd c8 h8)
  · intro c1 c2 c3 c4 c5 c6 c7 c8 c9
    refine bL_18b hL.1 hi hl ?_
    exact sM_setOrbit hL.1  (fun h1 => absurd h1 c1) (fun _ h2 => absurd h2 c2) (fun _ _ h3 => absurd h3 c3) (fun _ _ _ h4 => absurd h4 c4) (fun _ _ _ _ h5 => absurd h5 c5) (fun _ _ _ _ _ h6 => absurd h6 c6) (fun _ _ _ _ _ _ h7 => absurd h7 c7) (fun _ _ _ _ _ _ _ h8 => absurd h8 c8) (fun _ _ _ _ _ _ _ _ _ => fin _) (fun _ _ _ _ _ _ _ _ h9 _ => absurd c9 h9) (fun _ _ _ _ _ _ _ _ h9 _ _ => absurd c9 h9) (fun _ _ _ _ _ _ _ _ h9 _ _ _ => absurd c9 h9) (fun _ _ _ _ _ _ _ _ h9 _ _ _ => absurd c9 h9)
  · intro c1 c2 c3 c4 c5 c6 c7 c8 c9 c10
    refine bL_18b hL.1 hi hl ?_
    exact sM_setOrbit hL.1  (fun h1 => absurd h1 c1) (fun _ h2 => absurd h2 c2) (fun _ _ h3 => absurd h3 c3) (fun _ _ _ h4 => absurd h4 c4) (fun _ _ _ _ h5 => absurd h5 c5) (fun _ _ _ _ _ h6 => absurd h6 c6) (fun _ _ _ _ _ _ h7 => absurd h7 c7) (fun _ _ _ _ _ _ _ h8 => absurd h8 c8) (fun _ _ _ _ _ _ _ _ h9 => absurd h9 c9) (fun _ _ _ _ _ _ _ _ _ _ => fin _) (fun _ _ _ _ _ _ _ _ _ h10 _ => absurd c10 h10) (fun _ _ _ _ _ _ _ _ _ h10 _ _ => absurd c10 h10) (fun _ _ _ _ _ _ _ _ _ h10 _ _ => absurd c10 h10)
  · intro c1 c2 c3 c4 c5 c6 c7 c8 c9 c10 c11
    refine bL_18b hL.1 hi hl ?_
    exact sM_setOrbit hL.1  (fun h1 => absurd h1 c1) (fun _ h2 => absurd h2 c2) (fun _ _ h3 => absurd h3 c3) (fun _ _ _ h4 => absurd h4 c4) (fun _ _ _ _ h5 => absurd h5 c5) (fun _ _ _ _ _ h6 => absurd h6 c6) (fun _ _ _ _ _ _ h7 => absurd h7 c7) (fun _ _ _ _ _ _ _ h8 => absurd h8 c8) (fun _ _ _ _ _ _ _ _ h9 => absurd h9 c9) (fun _ _ _ _ _ _ _ _ _ h10 => absurd h10 c10) (fun _ _ _ _ _ _ _ _ _ _ _ => fin _) (fun _ _ _ _ _ _ _ _ _ _ h11 _ => absurd c11 h11) (fun _ _ _ _ _ _ _ _ _ _ h11 _ => absurd c11 h11)
  · intro c1 c2 c3 c4 c5 c6 c7 c8 c9 c10 c11 c12
    refine bL_18b hL.1 hi hl ?_
    exact sM_setOrbit hL.1  (fun h1 => absurd h1 c1) (fun _ h2 => absurd h2 c2) (fun _ _ h3 => absurd h3 c3) (fun _ _ _ h4 => absurd h4 c4) (fun _ _ _ _ h5 => absurd h5 c5) (fun _ _ _ _ _ h6 => absurd h6 c6) (fun _ _ _ _ _ _ h7 => absurd h7 c7) (fun _ _ _ _ _ _ _ h8 => absurd h8 c8) (fun _ _ _ _ _ _ _ _ h9 => absurd h9 c9) (fun _ _ _ _ _ _ _ _ _ h10 => absurd h10 c10) (fun _ _ _ _ _ _ _ _ _ _ h11 => absurd h11 c11) (fun _ _ _ _ _ _ _ _ _ _ _ _ => fin _) (fun _ _ _ _ _ _ _ _ _ _ _ h12 => absurd c12 h12)
  · intro c1 c2 c3 c4 c5 c6 c7 c8 c9 c10 c11 c12
    have hS : CS m _ (gB G + 1) (UD (sN (aS A)) (sL (aS A)) (sH (aS A))) (upd (upd (upd (upd (upd (upd (sS (aS A)) 2 (gSx G (i + 1))) 3 (gSx G (i + 2))) 4 (gSx G (i + 3))) 5 (gSx G (i + 4))) 6 (gSx G (i + 5))) 7 (gSx G (i + 6))) (sE (aS A)) := ((((((hL.CS.w (x := (gSx G (i + 1))) (D' := (UD (sN (aS A)) (sL (aS A)) (sH (aS A)))) 2 rfl rfl (by unfold VK; omega) (by omega) (by omega) (fun k hk => Or.inl hk)).w (x := (gSx G (i + 2))) (D' := (UD (sN (aS A)) (sL (aS A)) (sH (aS A)))) 3 rfl rfl (by unfold VK; omega) (by omega) (by omega) (fun k hk => Or.inl hk)).w (x := (gSx G (i + 3))) (D' := (UD (sN (aS A)) (sL (aS A)) (sH (aS A)))) 4 rfl rfl (by unfold VK; omega) (by omega) (by omega) (fun k hk => Or.inl hk)).w (x := (gSx G (i + 4))) (D' := (UD (sN (aS A)) (sL (aS A)) (sH (aS A)))) 5 rfl rfl (by unfold VK; omega) (by omega) (by omega) (fun k hk => Or.inl hk)).w (x := (gSx G (i + 5))) (D' := (UD (sN (aS A)) (sL (aS A)) (sH (aS A)))) 6 rfl rfl (by unfold VK; omega) (by omega) (by omega) (fun k hk => Or.inl hk)).w (x := (gSx G (i + 6))) (D' := (UD (sN (aS A)) (sL (aS A)) (sH (aS A)))) 7 rfl rfl (by unfold VK; omega) (by omega) (by omega) (fun k hk => Or.inl hk))
    refine bL_18b (hS.full hL.1) hi hl ?_
    refine sM_setOrbit (hS.full hL.1) (fun h1 => absurd h1 c1) (fun _ h2 => absurd h2 c2) (fun _ _ h3 => absurd h3 c3) (fun _ _ _ h4 => absurd h4 c4) (fun _ _ _ _ h5 => absurd h5 c5) (fun _ _ _ _ _ h6 => absurd h6 c6) (fun _ _ _ _ _ _ h7 => absurd h7 c7) (fun _ _ _ _ _ _ _ h8 => absurd h8 c8) (fun _ _ _ _ _ _ _ _ h9 => absurd h9 c9) (fun _ _ _ _ _ _ _ _ _ h10 => absurd h10 c10) (fun _ _ _ _ _ _ _ _ _ _ h11 => absurd h11 c11) (fun _ _ _ _ _ _ _ _ _ _ _ h12 => absurd h12 c12) (fun _ _ _ _ _ _ _ _ _ _ _ _ => ?_)
    have r1 := (hL.2.2.1.cls (hS.1.mono (fun a ha => CT_CC (SA_CT ha)))).MS (hS.full hL.1)
    have hM := ((((((r1.wst 2 (gSx G (i + 1))).wst 3 (gSx G (i + 2))).wst 4 (gSx G (i + 3))).wst 5 (gSx G (i + 4))).wst 6 (gSx G (i + 5))).wst 7 (gSx G (i + 6)))
    have h1 : ∀ k, (152 ≤ k ∧ k < 296) ∨ k = 15 ∨ 414 ≤ k → (upd (upd (upd (upd (upd (upd (sS (aS A)) 2 (gSx G (i + 1))) 3 (gSx G (i + 2))) 4 (gSx G (i + 3))) 5 (gSx G (i + 4))) 6 (gSx G (i + 5))) 7 (gSx G (i + 6))) k = sS (aS A) k := fun k hk => by rw [upd_ne (by omega), upd_ne (by omega), upd_ne (by omega), upd_ne (by omega), upd_ne (by omega), upd_ne (by omega)]
    have h2 : ∀ q, q < sH (aS A) → (upd (upd (upd (upd (upd (upd (sS (aS A)) 2 (gSx G (i + 1))) 3 (gSx G (i + 2))) 4 (gSx G (i + 3))) 5 (gSx G (i + 4))) 6 (gSx G (i + 5))) 7 (gSx G (i + 6))) (8 * q + 342) = sS (aS A) (8 * q + 342) := fun q hq => by rw [upd_ne (by omega), upd_ne (by omega), upd_ne (by omega), upd_ne (by omega), upd_ne (by omega), upd_ne (by omega)]
    have hI : Iv 100000000 (upd (upd (upd (upd (upd (upd (sS (aS A)) 2 (gSx G (i + 1))) 3 (gSx G (i + 2))) 4 (gSx G (i + 3))) 5 (gSx G (i + 4))) 6 (gSx G (i + 5))) 7 (gSx G (i + 6))) (sN (aS A)) (sL (aS A)) (sH (aS A)) := by
      obtain ⟨⟨i1, i2, i3, i4, i5, i6, ⟨j1, j2, j3, j4, j5, j6, j7⟩, i8, i9, i10, i11⟩, i12⟩ := hL.iv
      have e : ∀ k, k ≠ 2 ∧ k ≠ 3 ∧ k ≠ 4 ∧ k ≠ 5 ∧ k ≠ 6 ∧ k ≠ 7 → (upd (upd (upd (upd (upd (upd (sS (aS A)) 2 (gSx G (i + 1))) 3 (gSx G (i + 2))) 4 (gSx G (i + 3))) 5 (gSx G (i + 4))) 6 (gSx G (i + 5))) 7 (gSx G (i + 6))) k = sS (aS A) k := fun k hk => by rw [upd_ne (by omega), upd_ne (by omega), upd_ne (by omega), upd_ne (by omega), upd_ne (by omega), upd_ne (by omega)]
      refine ⟨⟨(e 12 (by omega)).trans i1, i2, (e 13 (by omega)).trans i3, i4, (e 14 (by omega)).trans i5, i6, ⟨?_, ?_, ?_, ?_, ?_, ?_, ?_⟩, fun i hi => ?_, fun i hi => ?_, fun i hi => ?_, ?_⟩, fun i hi => by rw [e _ (by omega)]; exact i12 i hi⟩
      · rw [e 0 (by omega)]; exact j1
      · rw [e 1 (by omega)]; exact j2
      · rw [upd_ne (by omega), upd_ne (by omega), upd_ne (by omega), upd_ne (by omega), upd_ne (by omega), upd_eq]; exact rg_of c1 c2 (by decide) (by decide)
      · rw [e 8 (by omega)]; exact j4
      · rw [e 9 (by omega)]; exact j5
      · rw [e 10 (by omega)]; exact j6
      · rw [e 11 (by omega), e 10 (by omega)]; exact j7
      · have := i8 i hi
        unfold InvN at this ⊢
        rw [e (11 * i + 20) (by omega), e (11 * i + 21) (by omega), e (11 * i + 29) (by omega), e (11 * i + 30) (by omega), e 0 (by omega)]
        exact this
      · have := i9 i hi
        unfold InvL at this ⊢
        rw [e (7 * i + 296) (by omega), e (7 * i + 298) (by omega), e (7 * i + 299) (by omega), e (7 * i + 300) (by omega), e (7 * i + 302) (by omega)]
        exact this
      · have := i10 i hi
        unfold InvH at this ⊢
        rw [e (8 * i + 338) (by omega), e (8 * i + 339) (by omega), e (8 * i + 342) (by omega), e (8 * i + 344) (by omega)]
        exact this
      · rw [e 16 (by omega), i11]
        exact congrArg nI (vcnt_eq _ (fun j hj => e _ (by omega))).symm
    exact bL_18c hM.1 hi hl (fun _ => next _ _ (LIv_set hL hS hM h1 h2 hI)) (fun z => absurd rfl z)

theorem K_19 {G : Cx} {d i : Nat} {m : Mm} {A : Ab} {Q : Option Value → Mm → Prop} (hL : LIv G m A) (hi : i + 7 ≤ gSl G) (hl : gSl G < 4000) (next : ∀ m' A', LIv G m' A' → WP G (d + 100) (0, 0) μL_law 18 [.ref (gSa G), .ref (gB G), .ref (gB G + 293), .int (nI (i + 7))] [] m' Q) : WP G (d + 100) (0, 0) μL_law 925 [.ref (gSa G), .ref (gB G), .ref (gB G + 293), .int (nI i)] [] m Q := by
  have fin : ∀ v : Int32, WP G (d + 100) (0, 0) μL_law 973 [.ref (gSa G), .ref (gB G), .ref (gB G + 293), .int (nI i)] [.int v, .int v] m Q := fun v => bL_19c hL.1 hi hl (fun _ => next m A hL) (fun z => absurd rfl z)
  refine bL_19a hL.1 hi hl ?_
  refine sC_setPower hL.1 ?_ ?_ ?_ ?_ ?_ ?_ ?_ ?_ ?_
  · intro c1
    refine bL_19b hL.1 hi hl ?_
    exact sM_setPower hL.1  (fun _ => fin _) (fun h1 _ => absurd c1 h1) (fun h1 _ _ => absurd c1 h1) (fun h1 _ _ _ => absurd c1 h1) (fun h1 _ _ _ _ => absurd c1 h1) (fun h1 _ _ _ _ _ => absurd c1 h1) (fun h1 _ _ _ _ _ _ => absurd c1 h1) (fun h1 _ _ _ _ _ _ _ => absurd c1 h1) (fun h1 _ _ _ _ _ _ _ => absurd c1 h1)
  · intro c1 c2
    refine bL_19b hL.1 hi hl ?_
    exact sM_setPower hL.1  (fun h1 => absurd h1 c1) (fun _ _ => fin _) (fun _ h2 _ => absurd c2 h2) (fun _ h2 _ _ => absurd c2 h2) (fun _ h2 _ _ _ => absurd c2 h2) (fun _ h2 _ _ _ _ => absurd c2 h2) (fun _ h2 _ _ _ _ _ => absurd c2 h2) (fun _ h2 _ _ _ _ _ _ => absurd c2 h2) (fun _ h2 _ _ _ _ _ _ => absurd c2 h2)
  · intro c1 c2 c3
    refine bL_19b hL.1 hi hl ?_
    exact sM_setPower hL.1  (fun h1 => absurd h1 c1) (fun _ h2 => absurd h2 c2) (fun _ _ _ => fin _) (fun _ _ h3 _ => absurd c3 h3) (fun _ _ h3 _ _ => absurd c3 h3) (fun _ _ h3 _ _ _ => absurd c3 h3) (fun _ _ h3 _ _ _ _ => absurd c3 h3) (fun _ _ h3 _ _ _ _ _ => absurd c3 h3) (fun _ _ h3 _ _ _ _ _ => absurd c3 h3)
  · intro c1 c2 c3 c4
    refine bL_19b hL.1 hi hl ?_
    exact sM_setPower hL.1  (fun h1 => absurd h1 c1) (fun _ h2 => absurd h2 c2) (fun _ _ h3 => absurd h3 c3) (fun _ _ _ _ => fin _) (fun _ _ _ h4 _ => absurd c4 h4) (fun _ _ _ h4 _ _ => absurd c4 h4) (fun _ _ _ h4 _ _ _ => absurd c4 h4) (fun _ _ _ h4 _ _ _ _ => absurd c4 h4) (fun _ _ _ h4 _ _ _ _ => absurd c4 h4)
  · intro c1 c2 c3 c4 c5
    refine bL_19b hL.1 hi hl ?_
    exact sM_setPower hL.1  (fun h1 => absurd h1 c1) (fun _ h2 => absurd h2 c2) (fun _ _ h3 => absurd h3 c3) (fun _ _ _ h4 => absurd h4 c4) (fun _ _ _ _ _ => fin _) (fun _ _ _ _ h5 _ => absurd c5 h5) (fun _ _ _ _ h5 _ _ => absurd c5 h5) (fun _ _ _ _ h5 _ _ _ => absurd c5 h5) (fun _ _ _ _ h5 _ _ _ => absurd c5 h5)
  · intro c1 c2 c3 c4 c5 c6
    refine bL_19b hL.1 hi hl ?_
    exact sM_setPower hL.1  (fun h1 => absurd h1 c1) (fun _ h2 => absurd h2 c2) (fun _ _ h3 => absurd h3 c3) (fun _ _ _ h4 => absurd h4 c4) (fun _ _ _ _ h5 => absurd h5 c5) (fun _ _ _ _ _ _ => fin _) (fun _ _ _ _ _ h6 _ => absurd c6 h6) (fun _ _ _ _ _ h6 _ _ => absurd c6 h6) (fun _ _ _ _ _ h6 _ _ => absurd c6 h6)
  · intro c1 c2 c3 c4 c5 c6 c7
    refine bL_19b hL.1 hi hl ?_
    exact sM_setPower hL.1  (fun h1 => absurd h1 c1) (fun _ h2 => absurd h2 c2) (fun _ _ h3 => absurd h3 c3) (fun _ _ _ h4 => absurd h4 c4) (fun _ _ _ _ h5 => absurd h5 c5) (fun _ _ _ _ _ h6 => absurd h6 c6) (fun _ _ _ _ _ _ _ => fin _) (fun _ _ _ _ _ _ h7 _ => absurd c7 h7) (fun _ _ _ _ _ _ h7 _ => absurd c7 h7)
  · intro c1 c2 c3 c4 c5 c6 c7 c8
    refine bL_19b hL.1 hi hl ?_
    exact sM_setPower hL.1  (fun h1 => absurd h1 c1) (fun _ h2 => absurd h2 c2) (fun _ _ h3 => absurd h3 c3) (fun _ _ _ h4 => absurd h4 c4) (fun _ _ _ _ h5 => absurd h5 c5) (fun _ _ _ _ _ h6 => absurd h6 c6) (fun _ _ _ _ _ _ h7 => absurd h7 c7) (fun _ _ _ _ _ _ _ _ => fin _) (fun _ _ _ _ _ _ _ h8 => absurd c8 h8)
  · intro c1 c2 c3 c4 c5 c6 c7 c8
    have hS : CS m _ (gB G + 1) (UD (sN (aS A)) (sL (aS A)) (sH (aS A))) (upd (upd (upd (upd (sS (aS A)) 8 (gSx G (i + 1))) 9 (gSx G (i + 2))) 10 (gSx G (i + 3))) 11 (gSx G (i + 4))) (sE (aS A)) := ((((hL.CS.w (x := (gSx G (i + 1))) (D' := (UD (sN (aS A)) (sL (aS A)) (sH (aS A)))) 8 rfl rfl (by unfold VK; omega) (by omega) (by omega) (fun k hk => Or.inl hk)).w (x := (gSx G (i + 2))) (D' := (UD (sN (aS A)) (sL (aS A)) (sH (aS A)))) 9 rfl rfl (by unfold VK; omega) (by omega) (by omega) (fun k hk => Or.inl hk)).w (x := (gSx G (i + 3))) (D' := (UD (sN (aS A)) (sL (aS A)) (sH (aS A)))) 10 rfl rfl (by unfold VK; omega) (by omega) (by omega) (fun k hk => Or.inl hk)).w (x := (gSx G (i + 4))) (D' := (UD (sN (aS A)) (sL (aS A)) (sH (aS A)))) 11 rfl rfl (by unfold VK; omega) (by omega) (by omega) (fun k hk => Or.inl hk))
    refine bL_19b (hS.full hL.1) hi hl ?_
    refine sM_setPower (hS.full hL.1) (fun h1 => absurd h1 c1) (fun _ h2 => absurd h2 c2) (fun _ _ h3 => absurd h3 c3) (fun _ _ _ h4 => absurd h4 c4) (fun _ _ _ _ h5 => absurd h5 c5) (fun _ _ _ _ _ h6 => absurd h6 c6) (fun _ _ _ _ _ _ h7 => absurd h7 c7) (fun _ _ _ _ _ _ _ h8 => absurd h8 c8) (fun _ _ _ _ _ _ _ _ => ?_)
    have r1 := (hL.2.2.1.cls (hS.1.mono (fun a ha => CT_CC (SA_CT ha)))).MS (hS.full hL.1)
    have hM := ((((r1.wst 8 (gSx G (i + 1))).wst 9 (gSx G (i + 2))).wst 10 (gSx G (i + 3))).wst 11 (gSx G (i + 4)))
    have h1 : ∀ k, (152 ≤ k ∧ k < 296) ∨ k = 15 ∨ 414 ≤ k → (upd (upd (upd (upd (sS (aS A)) 8 (gSx G (i + 1))) 9 (gSx G (i + 2))) 10 (gSx G (i + 3))) 11 (gSx G (i + 4))) k = sS (aS A) k := fun k hk => by rw [upd_ne (by omega), upd_ne (by omega), upd_ne (by omega), upd_ne (by omega)]
    have h2 : ∀ q, q < sH (aS A) → (upd (upd (upd (upd (sS (aS A)) 8 (gSx G (i + 1))) 9 (gSx G (i + 2))) 10 (gSx G (i + 3))) 11 (gSx G (i + 4))) (8 * q + 342) = sS (aS A) (8 * q + 342) := fun q hq => by rw [upd_ne (by omega), upd_ne (by omega), upd_ne (by omega), upd_ne (by omega)]
    have hI : Iv 100000000 (upd (upd (upd (upd (sS (aS A)) 8 (gSx G (i + 1))) 9 (gSx G (i + 2))) 10 (gSx G (i + 3))) 11 (gSx G (i + 4))) (sN (aS A)) (sL (aS A)) (sH (aS A)) := by
      obtain ⟨⟨i1, i2, i3, i4, i5, i6, ⟨j1, j2, j3, j4, j5, j6, j7⟩, i8, i9, i10, i11⟩, i12⟩ := hL.iv
      have e : ∀ k, k ≠ 8 ∧ k ≠ 9 ∧ k ≠ 10 ∧ k ≠ 11 → (upd (upd (upd (upd (sS (aS A)) 8 (gSx G (i + 1))) 9 (gSx G (i + 2))) 10 (gSx G (i + 3))) 11 (gSx G (i + 4))) k = sS (aS A) k := fun k hk => by rw [upd_ne (by omega), upd_ne (by omega), upd_ne (by omega), upd_ne (by omega)]
      refine ⟨⟨(e 12 (by omega)).trans i1, i2, (e 13 (by omega)).trans i3, i4, (e 14 (by omega)).trans i5, i6, ⟨?_, ?_, ?_, ?_, ?_, ?_, ?_⟩, fun i hi => ?_, fun i hi => ?_, fun i hi => ?_, ?_⟩, fun i hi => by rw [e _ (by omega)]; exact i12 i hi⟩
      · rw [e 0 (by omega)]; exact j1
      · rw [e 1 (by omega)]; exact j2
      · rw [e 2 (by omega)]; exact j3
      · rw [upd_ne (by omega), upd_ne (by omega), upd_ne (by omega), upd_eq]; exact rg_of c1 c2 (by decide) (by decide)
      · rw [upd_ne (by omega), upd_ne (by omega), upd_eq]; exact rg_of c3 c4 (by decide) (by decide)
      · rw [upd_ne (by omega), upd_eq]; exact rg_of c5 c6 (by decide) (by decide)
      · rw [upd_eq, upd_ne (by omega), upd_eq]; exact rg_of c7 c8 (by decide) rfl
      · have := i8 i hi
        unfold InvN at this ⊢
        rw [e (11 * i + 20) (by omega), e (11 * i + 21) (by omega), e (11 * i + 29) (by omega), e (11 * i + 30) (by omega), e 0 (by omega)]
        exact this
      · have := i9 i hi
        unfold InvL at this ⊢
        rw [e (7 * i + 296) (by omega), e (7 * i + 298) (by omega), e (7 * i + 299) (by omega), e (7 * i + 300) (by omega), e (7 * i + 302) (by omega)]
        exact this
      · have := i10 i hi
        unfold InvH at this ⊢
        rw [e (8 * i + 338) (by omega), e (8 * i + 339) (by omega), e (8 * i + 342) (by omega), e (8 * i + 344) (by omega)]
        exact this
      · rw [e 16 (by omega), i11]
        exact congrArg nI (vcnt_eq _ (fun j hj => e _ (by omega))).symm
    exact bL_19c hM.1 hi hl (fun _ => next _ _ (LIv_set hL hS hM h1 h2 hI)) (fun z => absurd rfl z)

theorem K_20 {G : Cx} {d i : Nat} {m : Mm} {A : Ab} {Q : Option Value → Mm → Prop} (hL : LIv G m A) (hi : i + 7 ≤ gSl G) (hl : gSl G < 4000) (next : ∀ m' A', LIv G m' A' → WP G (d + 100) (0, 0) μL_law 18 [.ref (gSa G), .ref (gB G), .ref (gB G + 293), .int (nI (i + 7))] [] m' Q) : WP G (d + 100) (0, 0) μL_law 978 [.ref (gSa G), .ref (gB G), .ref (gB G + 293), .int (nI i)] [] m Q := by
  have fin : ∀ v : Int32, WP G (d + 100) (0, 0) μL_law 996 [.ref (gSa G), .ref (gB G), .ref (gB G + 293), .int (nI i)] [.int v, .int v] m Q := fun v => bL_20c hL.1 hi hl (fun _ => next m A hL) (fun z => absurd rfl z)
  refine bL_20a hL.1 hi hl ?_
  have t : fi m 13 (gB G + 1) = ai m (gB G + 294) 1 := hL.rd (k := 1) rfl rfl (by unfold VK; omega) (by unfold UD; omega)
  refine sC_setStepLength hL.1 ?_ ?_ ?_
  · intro c1
    refine bL_20b hL.1 hi hl ?_
    exact sM_setStepLength hL.1  (fun _ => fin _) (fun h1 _ => absurd c1 h1) (fun h1 _ => absurd c1 h1)
  · intro c1 c2
    refine bL_20b hL.1 hi hl ?_
    exact sM_setStepLength hL.1  (fun h1 => absurd h1 c1) (fun _ _ => fin _) (fun _ h2 => absurd c2 h2)
  · intro c1 c2
    have hS : CS m _ (gB G + 1) (UD (sN (aS A)) (sL (aS A)) (sH (aS A))) (upd (sS (aS A)) 1 (gSx G (i + 1))) (sE (aS A)) := (hL.CS.w (x := (gSx G (i + 1))) (D' := (UD (sN (aS A)) (sL (aS A)) (sH (aS A)))) 1 rfl rfl (by unfold VK; omega) (by omega) (by omega) (fun k hk => Or.inl hk))
    refine bL_20b (hS.full hL.1) hi hl ?_
    refine sM_setStepLength (hS.full hL.1) (fun h1 => absurd h1 c1) (fun _ h2 => absurd h2 c2) (fun _ _ => ?_)
    have r1 := (hL.2.2.1.cls (hS.1.mono (fun a ha => CT_CC (SA_CT ha)))).MS (hS.full hL.1)
    have hM := (r1.wst 1 (gSx G (i + 1)))
    have h1 : ∀ k, (152 ≤ k ∧ k < 296) ∨ k = 15 ∨ 414 ≤ k → (upd (sS (aS A)) 1 (gSx G (i + 1))) k = sS (aS A) k := fun k hk => by rw [upd_ne (by omega)]
    have h2 : ∀ q, q < sH (aS A) → (upd (sS (aS A)) 1 (gSx G (i + 1))) (8 * q + 342) = sS (aS A) (8 * q + 342) := fun q hq => by rw [upd_ne (by omega)]
    have hI : Iv 100000000 (upd (sS (aS A)) 1 (gSx G (i + 1))) (sN (aS A)) (sL (aS A)) (sH (aS A)) := by
      obtain ⟨⟨i1, i2, i3, i4, i5, i6, ⟨j1, j2, j3, j4, j5, j6, j7⟩, i8, i9, i10, i11⟩, i12⟩ := hL.iv
      have e : ∀ k, k ≠ 1 → (upd (sS (aS A)) 1 (gSx G (i + 1))) k = sS (aS A) k := fun k hk => by rw [upd_ne (by omega)]
      refine ⟨⟨(e 12 (by omega)).trans i1, i2, (e 13 (by omega)).trans i3, i4, (e 14 (by omega)).trans i5, i6, ⟨?_, ?_, ?_, ?_, ?_, ?_, ?_⟩, fun i hi => ?_, fun i hi => ?_, fun i hi => ?_, ?_⟩, fun i hi => by rw [e _ (by omega)]; exact i12 i hi⟩
      · rw [e 0 (by omega)]; exact j1
      · rw [upd_eq]; exact rg_of c1 c2 (by decide) (by decide)
      · rw [e 2 (by omega)]; exact j3
      · rw [e 8 (by omega)]; exact j4
      · rw [e 9 (by omega)]; exact j5
      · rw [e 10 (by omega)]; exact j6
      · rw [e 11 (by omega), e 10 (by omega)]; exact j7
      · have := i8 i hi
        unfold InvN at this ⊢
        rw [e (11 * i + 20) (by omega), e (11 * i + 21) (by omega), e (11 * i + 29) (by omega), e (11 * i + 30) (by omega), e 0 (by omega)]
        exact this
      · have := i9 i hi
        unfold InvL at this ⊢
        rw [e (7 * i + 296) (by omega), e (7 * i + 298) (by omega), e (7 * i + 299) (by omega), e (7 * i + 300) (by omega), e (7 * i + 302) (by omega)]
        exact this
      · have := i10 i hi
        unfold InvH at this ⊢
        rw [e (8 * i + 338) (by omega), e (8 * i + 339) (by omega), e (8 * i + 342) (by omega), e (8 * i + 344) (by omega)]
        exact this
      · rw [e 16 (by omega), i11]
        exact congrArg nI (vcnt_eq _ (fun j hj => e _ (by omega))).symm
    rw [t]
    exact bL_20c hM.1 hi hl (fun _ => next _ _ (LIv_set hL hS hM h1 h2 hI)) (fun z => absurd rfl z)
