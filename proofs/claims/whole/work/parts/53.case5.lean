theorem K_9 {G : Cx} {d i : Nat} {m : Mm} {A : Ab} {Q : Option Value → Mm → Prop} (hL : LIv G m A) (hi : i + 7 ≤ gSl G) (hl : gSl G < 4000) (next : ∀ m' A', LIv G m' A' → WP G (d + 100) (0, 0) μL_law 18 [.ref (gSa G), .ref (gB G), .ref (gB G + 293), .int (nI (i + 7))] [] m' Q) : WP G (d + 100) (0, 0) μL_law 613 [.ref (gSa G), .ref (gB G), .ref (gB G + 293), .int (nI i)] [] m Q := by
  have fin : ∀ v : Int32, WP G (d + 100) (0, 0) μL_law 671 [.ref (gSa G), .ref (gB G), .ref (gB G + 293), .int (nI i)] [.int v, .int v] m Q := fun v => bL_9c hL.1 hi hl (fun _ => next m A hL) (fun z => absurd rfl z)
  obtain ⟨l5, l12, g12⟩ := hL.nh
  obtain ⟨n5, n12, h12⟩ := hL.nn
  refine bL_9a hL.1 hi hl ?_
  rcases inr_cases (gSx G (i + 1)) (sN (aS A)) (by omega) with ⟨j, hj, e⟩ | e | ⟨e, e'⟩
  · obtain ⟨p, hp⟩ : ∃ p, sN (aS A) = p + 1 := ⟨sN (aS A) - 1, by omega⟩
    have hjn := hj
    rw [hp] at n5 n12 h12 hj
    rw [e]
    refine iC_addHeater hL.1 n5 h12 hj l5 g12 ?_ ?_ ?_ ?_ ?_ ?_ ?_ ?_ ?_ ?_
    · intro c1
      refine bL_9b hL.1 hi hl ?_
      rw [e]
      exact iM_addHeater hL.1 n12 h12 hj l12 g12 (fun _ => fin _) (fun h1 _ => absurd c1 h1) (fun h1 _ _ => absurd c1 h1) (fun h1 _ _ _ => absurd c1 h1) (fun h1 _ _ _ _ => absurd c1 h1) (fun h1 _ _ _ _ _ => absurd c1 h1) (fun h1 _ _ _ _ _ _ => absurd c1 h1) (fun h1 _ _ _ _ _ _ _ => absurd c1 h1) (fun h1 _ _ _ _ _ _ _ _ => absurd c1 h1) (fun h1 _ _ _ _ _ _ _ _ => absurd c1 h1)
    · intro c1 c2
      refine bL_9b hL.1 hi hl ?_
      rw [e]
      exact iM_addHeater hL.1 n12 h12 hj l12 g12 (fun h1 => absurd h1 c1) (fun _ _ => fin _) (fun _ h2 _ => absurd c2 h2) (fun _ h2 _ _ => absurd c2 h2) (fun _ h2 _ _ _ => absurd c2 h2) (fun _ h2 _ _ _ _ => absurd c2 h2) (fun _ h2 _ _ _ _ _ => absurd c2 h2) (fun _ h2 _ _ _ _ _ _ => absurd c2 h2) (fun _ h2 _ _ _ _ _ _ _ => absurd c2 h2) (fun _ h2 _ _ _ _ _ _ _ => absurd c2 h2)
    · intro c1 c2 c3
      refine bL_9b hL.1 hi hl ?_
      rw [e]
      exact iM_addHeater hL.1 n12 h12 hj l12 g12 (fun h1 => absurd h1 c1) (fun _ h2 => absurd h2 c2) (fun _ _ _ => fin _) (fun _ _ h3 _ => absurd c3 h3) (fun _ _ h3 _ _ => absurd c3 h3) (fun _ _ h3 _ _ _ => absurd c3 h3) (fun _ _ h3 _ _ _ _ => absurd c3 h3) (fun _ _ h3 _ _ _ _ _ => absurd c3 h3) (fun _ _ h3 _ _ _ _ _ _ => absurd c3 h3) (fun _ _ h3 _ _ _ _ _ _ => absurd c3 h3)
    · intro c1 c2 c3 c4
      refine bL_9b hL.1 hi hl ?_
      rw [e]
      exact iM_addHeater hL.1 n12 h12 hj l12 g12 (fun h1 => absurd h1 c1) (fun _ h2 => absurd h2 c2) (fun _ _ h3 => absurd h3 c3) (fun _ _ _ _ => fin _) (fun _ _ _ h4 _ => absurd c4 h4) (fun _ _ _ h4 _ _ => absurd c4 h4) (fun _ _ _ h4 _ _ _ => absurd c4 h4) (fun _ _ _ h4 _ _ _ _ => absurd c4 h4) (fun _ _ _ h4 _ _ _ _ _ => absurd c4 h4) (fun _ _ _ h4 _ _ _ _ _ => absurd c4 h4)
    · intro c1 c2 c3 c4 c5
      refine bL_9b hL.1 hi hl ?_
      rw [e]
      exact iM_addHeater hL.1 n12 h12 hj l12 g12 (fun h1 => absurd h1 c1) (fun _ h2 => absurd h2 c2) (fun _ _ h3 => absurd h3 c3) (fun _ _ _ h4 => absurd h4 c4) (fun _ _ _ _ _ => fin _) (fun _ _ _ _ h5 _ => absurd c5 h5) (fun _ _ _ _ h5 _ _ => absurd c5 h5) (fun _ _ _ _ h5 _ _ _ => absurd c5 h5) (fun _ _ _ _ h5 _ _ _ _ => absurd c5 h5) (fun _ _ _ _ h5 _ _ _ _ => absurd c5 h5)
    · intro c1 c2 c3 c4 c5 c6
      refine bL_9b hL.1 hi hl ?_
      rw [e]
      exact iM_addHeater hL.1 n12 h12 hj l12 g12 (fun h1 => absurd h1 c1) (fun _ h2 => absurd h2 c2) (fun _ _ h3 => absurd h3 c3) (fun _ _ _ h4 => absurd h4 c4) (fun _ _ _ _ h5 => absurd h5 c5) (fun _ _ _ _ _ _ => fin _) (fun _ _ _ _ _ h6 _ => absurd c6 h6) (fun _ _ _ _ _ h6 _ _ => absurd c6 h6) (fun _ _ _ _ _ h6 _ _ _ => absurd c6 h6) (fun _ _ _ _ _ h6 _ _ _ => absurd c6 h6)
    · intro c1 c2 c3 c4 c5 c6 c7
      refine bL_9b hL.1 hi hl ?_
      rw [e]
      exact iM_addHeater hL.1 n12 h12 hj l12 g12 (fun h1 => absurd h1 c1) (fun _ h2 => absurd h2 c2) (fun _ _ h3 => absurd h3 c3) (fun _ _ _ h4 => absurd h4 c4) (fun _ _ _ _ h5 => absurd h5 c5) (fun _ _ _ _ _ h6 => absurd h6 c6) (fun _ _ _ _ _ _ _ => fin _) (fun _ _ _ _ _ _ h7 _ => absurd c7 h7) (fun _ _ _ _ _ _ h7 _ _ => absurd c7 h7) (fun _ _ _ _ _ _ h7 _ _ => absurd c7 h7)
    · intro c1 c2 c3 c4 c5 c6 c7 c8
      refine bL_9b hL.1 hi hl ?_
      rw [e]
      exact iM_addHeater hL.1 n12 h12 hj l12 g12 (fun h1 => absurd h1 c1) (fun _ h2 => absurd h2 c2) (fun _ _ h3 => absurd h3 c3) (fun _ _ _ h4 => absurd h4 c4) (fun _ _ _ _ h5 => absurd h5 c5) (fun _ _ _ _ _ h6 => absurd h6 c6) (fun _ _ _ _ _ _ h7 => absurd h7 c7) (fun _ _ _ _ _ _ _ _ => fin _) (fun _ _ _ _ _ _ _ h8 _ => absurd c8 h8) (fun _ _ _ _ _ _ _ h8 _ => absurd c8 h8)
    · intro c1 c2 c3 c4 c5 c6 c7 c8 c9
      have hS : CS m _ (gB G + 1) (UD (sN (aS A)) (sL (aS A)) (sH (aS A) + 1)) (adH (sS (aS A)) (sH (aS A)) (nI j) (gSx G (i + 2)) (gSx G (i + 3)) (gSx G (i + 4)) (gSx G (i + 5))) (sE (aS A)) := (CS.dH (i := (sH (aS A))) (x := 0) 7 (CS.dH (i := (sH (aS A))) (x := 0) 6 (CS.dH (i := (sH (aS A))) (x := 0) 5 (CS.dH (i := (sH (aS A))) (x := (gSx G (i + 5))) 4 (CS.dH (i := (sH (aS A))) (x := (gSx G (i + 4))) 3 (CS.dH (i := (sH (aS A))) (x := (gSx G (i + 3))) 2 (CS.dH (i := (sH (aS A))) (x := (gSx G (i + 2))) 1 (CS.dH (i := (sH (aS A))) (x := (nI j)) 0 (CS.dp hL.CS) (by omega) (by omega)) (by omega) (by omega)) (by omega) (by omega)) (by omega) (by omega)) (by omega) (by omega)) (by omega) (by omega)) (by omega) (by omega)) (by omega) (by omega)).dpx 14 rfl rfl (by unfold VK; omega) (by omega) (by omega) (fun k hk => ud_H hk)
      have hF0 := hS.full hL.1
      have hIv := Iv_adH (lo := (gSx G (i + 3))) (hi := (gSx G (i + 4))) hL.iv (by omega) hjn (rg_of c1 c2 (by decide) (by decide)) (rg_of c7 c8 (by decide) (by decide))
      have hpr : ∀ a, a < sH (aS A) → (adH (sS (aS A)) (sH (aS A)) (nI j) (gSx G (i + 2)) (gSx G (i + 3)) (gSx G (i + 4)) (gSx G (i + 5))) (8 * a + 342) = sS (aS A) (8 * a + 342) := fun a ha => adH_ne (by omega) (by omega)
      refine C_rk (s := sS (aS A)) (s' := adH (sS (aS A)) (sH (aS A)) (nI j) (gSx G (i + 2)) (gSx G (i + 3)) (gSx G (i + 4)) (gSx G (i + 5))) hF0 (isC1 G) (by omega) hpr (fun a ha => hS.rH 4 (by omega) (by omega) (by unfold UD; omega)) (fun a ha => (hIv.1.2.2.2.2.2.2.2.2.2.1 a ha).2.2.1) (hL.2.1.1.2.2.2.2.1.of (fun k => hS.1.ai (by unfold SA; omega) k) (fun _ _ => rfl)) (fun m1 hF1 hO1 hf1 hRk => ?_)
      have hO : Out (CT G) m1 m := (hO1.mono (fun a ha => by unfold CT; omega)).tr (hS.1.mono (fun a ha => SA_CT ha))
      refine jC_addHeater hF1 ?_
      refine bL_9b hF1 hi hl ?_
      rw [e]
      have n12' := (hO.ai (a := gB G + 294) (by unfold CT; omega) 12).trans n12
      have l12' := (hO.ai (a := gB G + 294) (by unfold CT; omega) 14).trans l12
      refine iM_addHeater hF1 n12' h12 hj l12' g12 (fun h1 => absurd h1 c1) (fun _ h2 => absurd h2 c2) (fun _ _ h3 => absurd h3 c3) (fun _ _ _ h4 => absurd h4 c4) (fun _ _ _ _ h5 => absurd h5 c5) (fun _ _ _ _ _ h6 => absurd h6 c6) (fun _ _ _ _ _ _ h7 => absurd h7 c7) (fun _ _ _ _ _ _ _ h8 => absurd h8 c8) (fun _ _ _ _ _ _ _ _ _ => ?_) (fun _ _ _ _ _ _ _ _ h9 => absurd h9 (by omega))
      have r1 := (hL.2.2.1.cls (hO.mono (fun a ha => CT_CC ha))).MS hF1
      have hM : MS G _ _ (adH (sS (aS A)) (sH (aS A)) (nI j) (gSx G (i + 2)) (gSx G (i + 3)) (gSx G (i + 4)) (gSx G (i + 5))) (sE (aS A)) := ((((((((r1.wst (8 * (sH (aS A)) + 338) (nI j)).wst (8 * (sH (aS A)) + 339) (gSx G (i + 2))).wst (8 * (sH (aS A)) + 340) (gSx G (i + 3))).wst (8 * (sH (aS A)) + 341) (gSx G (i + 4))).wst (8 * (sH (aS A)) + 342) (gSx G (i + 5))).wst (8 * (sH (aS A)) + 343) 0).wst (8 * (sH (aS A)) + 344) 0).wst (8 * (sH (aS A)) + 345) 0).wst 14 (nI ((sH (aS A)) + 1))
      have hO' := hL.2.1.1.2.2.2.2.2.2.1
      have hls : LkS (adH (sS (aS A)) (sH (aS A)) (nI j) (gSx G (i + 2)) (gSx G (i + 3)) (gSx G (i + 4)) (gSx G (i + 5))) (sN (aS A)) (sK (aS A)) := fun a b ha hb => by rw [adH_ne (by omega) (by omega)]; exact hL.2.1.1.2.2.2.1 a b ha hb
      have h15 : (adH (sS (aS A)) (sH (aS A)) (nI j) (gSx G (i + 2)) (gSx G (i + 3)) (gSx G (i + 4)) (gSx G (i + 5))) 15 = sS (aS A) 15 := adH_ne (by omega) (by omega)
      have hC0 : CR m1 (gB G + 1) (adH (sS (aS A)) (sH (aS A)) (nI j) (gSx G (i + 2)) (gSx G (i + 3)) (gSx G (i + 4)) (gSx G (i + 5))) (sE (aS A)) (sN (aS A)) (sL (aS A)) (sH (aS A) + 1) (sR (aS A)) (sK (aS A)) := hL.2.1.1.mkR hS hO1 hf1 hL.2.1.1.2.2.1 hls hRk (fun R hR => (hO' R hR).mono (Nat.le_refl _) (Nat.le_refl _) (Nat.le_succ _)) h15
      have hC : CRx _ (gB G + 1) ((adH (sS (aS A)) (sH (aS A)) (nI j) (gSx G (i + 2)) (gSx G (i + 3)) (gSx G (i + 4)) (gSx G (i + 5)), sE (aS A), sN (aS A), sL (aS A), sH (aS A) + 1, sR (aS A), sK (aS A)) : Sc) := hC0
      have hG : GdS ((adH (sS (aS A)) (sH (aS A)) (nI j) (gSx G (i + 2)) (gSx G (i + 3)) (gSx G (i + 4)) (gSx G (i + 5)), sE (aS A), sN (aS A), sL (aS A), sH (aS A) + 1, sR (aS A), sK (aS A)) : Sc) := ⟨hIv, hL.2.2.2.1.2.of (fun k hk => adH_ne (by omega) (by omega)) ⟨Nat.le_refl _, Nat.le_refl _, Nat.le_succ _⟩ (fun R hR => (hO' R hR).mono (Nat.le_refl _) (Nat.le_refl _) (Nat.le_succ _))⟩
      exact bL_9c hM.1 hi hl (fun _ => next _ _ (LIv_new hL hO hC hM hG)) (fun z => absurd rfl z)
    · intro c1 c2 c3 c4 c5 c6 c7 c8 c9
      refine bL_9b hL.1 hi hl ?_
      rw [e]
      exact iM_addHeater hL.1 n12 h12 hj l12 g12 (fun h1 => absurd h1 c1) (fun _ h2 => absurd h2 c2) (fun _ _ h3 => absurd h3 c3) (fun _ _ _ h4 => absurd h4 c4) (fun _ _ _ _ h5 => absurd h5 c5) (fun _ _ _ _ _ h6 => absurd h6 c6) (fun _ _ _ _ _ _ h7 => absurd h7 c7) (fun _ _ _ _ _ _ _ h8 => absurd h8 c8) (fun _ _ _ _ _ _ _ _ h9 => absurd h9 (by omega)) (fun _ _ _ _ _ _ _ _ _ => fin _)
  · exact aC_addHeater hL.1 n5 h12 e (bL_9b hL.1 hi hl (aM_addHeater hL.1 n12 h12 e (fin _)))
  · exact bC_addHeater hL.1 n5 h12 e e' (bL_9b hL.1 hi hl (bM_addHeater hL.1 n12 h12 e e' (fin _)))
