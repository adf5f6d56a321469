theorem dp_L {n nl nh j k : Nat} (h : DP (UD n nl nh) (7 * nl + 296) j k) : True := trivial
theorem ud_L {n nl nh k : Nat} (h : UD n (nl + 1) nh k) : DP (UD n nl nh) (7 * nl + 296) 7 k := by
  unfold UD at h
  unfold DP UD
  omega
theorem ud_H {n nl nh k : Nat} (h : UD n nl (nh + 1) k) : DP (UD n nl nh) (8 * nh + 338) 8 k := by
  unfold UD at h
  unfold DP UD
  omega
theorem ud_N {n nl nh k : Nat} (h : UD (n + 1) nl nh k) : DP (UD n nl nh) (11 * n + 20) 11 k := by
  unfold UD at h
  unfold DP UD
  omega
theorem CS.dp {m0 m : Mm} {c : Nat} {B : Nat → Prop} {st : Nat → Int32} {en : Nat → Int64} {s : Nat} (h : CS m0 m c B st en) : CS m0 m c (DP B s 0) st en := h.mono (fun k hk => by
  unfold DP at hk
  rcases hk with h | h
  · exact h
  · omega)
theorem CS.dL {m0 m : Mm} {c : Nat} {B : Nat → Prop} {st : Nat → Int32} {en : Nat → Int64} {i : Nat} {x : Int32} (j : Nat) (h : CS m0 m c (DP B (7 * i + 296) j) st en) (hi : i < 6) (hj : j < 7) : CS m0 (wfi m (300 + j) (lv c i) x) c (DP B (7 * i + 296) (j + 1)) (upd st (7 * i + 296 + j) x) en := h.wL j hi hj (fun k hk => by
  unfold DP at hk ⊢
  rcases hk with h | h
  · exact Or.inl (Or.inl h)
  · by_cases e : k = 7 * i + 296 + j
    · exact Or.inr e
    · exact Or.inl (Or.inr (by omega)))
theorem CS.dH {m0 m : Mm} {c : Nat} {B : Nat → Prop} {st : Nat → Int32} {en : Nat → Int64} {i : Nat} {x : Int32} (j : Nat) (h : CS m0 m c (DP B (8 * i + 338) j) st en) (hi : i < 8) (hj : j < 8) : CS m0 (wfi m (100 + j) (ht c i) x) c (DP B (8 * i + 338) (j + 1)) (upd st (8 * i + 338 + j) x) en := h.wH j hi hj (fun k hk => by
  unfold DP at hk ⊢
  rcases hk with h | h
  · exact Or.inl (Or.inl h)
  · by_cases e : k = 8 * i + 338 + j
    · exact Or.inr e
    · exact Or.inl (Or.inr (by omega)))
theorem CS.dN {m0 m : Mm} {c : Nat} {B : Nat → Prop} {st : Nat → Int32} {en : Nat → Int64} {i : Nat} {x : Int32} (j : Nat) (h : CS m0 m c (DP B (11 * i + 20) j) st en) (hi : i < 12) (hj : j < 11) : CS m0 (wfi m (400 + j) (nd c i) x) c (DP B (11 * i + 20) (j + 1)) (upd st (11 * i + 20 + j) x) en := h.wN j hi hj (fun k hk => by
  unfold DP at hk ⊢
  rcases hk with h | h
  · exact Or.inl (Or.inl h)
  · by_cases e : k = 11 * i + 20 + j
    · exact Or.inr e
    · exact Or.inl (Or.inr (by omega)))
theorem CS.dpx {m0 m : Mm} {c : Nat} {B D' : Nat → Prop} {st : Nat → Int32} {en : Nat → Int64} {s p : Nat} (h : CS m0 m c (DP B s p) st en) (k0 : Nat) {f o : Nat} {x : Int32} (hf : flC k0 = f) (ho : ofC k0 = o) (hk : VK k0) (h15 : k0 ≠ 15) (h16 : k0 ≠ 16) (hD : ∀ k, D' k → DP B s p k) : CS m0 (wfi m f (c + o) x) c D' (upd st k0 x) en := h.w k0 hf ho hk h15 h16 (fun k hk => Or.inl (hD k hk))
theorem clF_sN {st : Nat → Int32} {q : Nat} (j : Nat) : clF st q (j + 1) = upd (upd (clF st q j) (12 * q + j + 152) 0) (12 * j + q + 152) 0 := rfl

theorem K_8 {G : Cx} {d i : Nat} {m : Mm} {A : Ab} {Q : Option Value → Mm → Prop} (hL : LIv G m A) (hi : i + 7 ≤ gSl G) (hl : gSl G < 4000) (next : ∀ m' A', LIv G m' A' → WP G (d + 100) (0, 0) μL_law 18 [.ref (gSa G), .ref (gB G), .ref (gB G + 293), .int (nI (i + 7))] [] m' Q) : WP G (d + 100) (0, 0) μL_law 550 [.ref (gSa G), .ref (gB G), .ref (gB G + 293), .int (nI i)] [] m Q := by
  have fin : ∀ v : Int32, WP G (d + 100) (0, 0) μL_law 608 [.ref (gSa G), .ref (gB G), .ref (gB G + 293), .int (nI i)] [.int v, .int v] m Q := fun v => bL_8c hL.1 hi hl (fun _ => next m A hL) (fun z => absurd rfl z)
  obtain ⟨l5, l12, g12⟩ := hL.nl
  obtain ⟨n5, n12, h12⟩ := hL.nn
  refine bL_8a hL.1 hi hl ?_
  rcases inr_cases (gSx G (i + 1)) (sN (aS A)) (by omega) with ⟨j, hj, e⟩ | e | ⟨e, e'⟩
  · obtain ⟨p, hp⟩ : ∃ p, sN (aS A) = p + 1 := ⟨sN (aS A) - 1, by omega⟩
    have hjn := hj
    rw [hp] at n5 n12 h12 hj
    rw [e]
    refine iC_addLouvre hL.1 n5 h12 hj l5 g12 ?_ ?_ ?_ ?_ ?_ ?_ ?_ ?_ ?_ ?_
    · intro c1
      refine bL_8b hL.1 hi hl ?_
      rw [e]
      exact iM_addLouvre hL.1 n12 h12 hj l12 g12 (fun _ => fin _) (fun h1 _ => absurd c1 h1) (fun h1 _ _ => absurd c1 h1) (fun h1 _ _ _ => absurd c1 h1) (fun h1 _ _ _ _ => absurd c1 h1) (fun h1 _ _ _ _ _ => absurd c1 h1) (fun h1 _ _ _ _ _ _ => absurd c1 h1) (fun h1 _ _ _ _ _ _ _ => absurd c1 h1) (fun h1 _ _ _ _ _ _ _ _ => absurd c1 h1) (fun h1 _ _ _ _ _ _ _ _ => absurd c1 h1)
    · intro c1 c2
      refine bL_8b hL.1 hi hl ?_
      rw [e]
      exact iM_addLouvre hL.1 n12 h12 hj l12 g12 (fun h1 => absurd h1 c1) (fun _ _ => fin _) (fun _ h2 _ => absurd c2 h2) (fun _ h2 _ _ => absurd c2 h2) (fun _ h2 _ _ _ => absurd c2 h2) (fun _ h2 _ _ _ _ => absurd c2 h2) (fun _ h2 _ _ _ _ _ => absurd c2 h2) (fun _ h2 _ _ _ _ _ _ => absurd c2 h2) (fun _ h2 _ _ _ _ _ _ _ => absurd c2 h2) (fun _ h2 _ _ _ _ _ _ _ => absurd c2 h2)
    · intro c1 c2 c3
      refine bL_8b hL.1 hi hl ?_
      rw [e]
      exact iM_addLouvre hL.1 n12 h12 hj l12 g12 (fun h1 => absurd h1 c1) (fun _ h2 => absurd h2 c2) (fun _ _ _ => fin _) (fun _ _ h3 _ => absurd c3 h3) (fun _ _ h3 _ _ => absurd c3 h3) (fun _ _ h3 _ _ _ => absurd c3 h3) (fun _ _ h3 _ _ _ _ => absurd c3 h3) (fun _ _ h3 _ _ _ _ _ => absurd c3 h3) (fun _ _ h3 _ _ _ _ _ _ => absurd c3 h3) (fun _ _ h3 _ _ _ _ _ _ => absurd c3 h3)
    · intro c1 c2 c3 c4
      refine bL_8b hL.1 hi hl ?_
      rw [e]
      exact iM_addLouvre hL.1 n12 h12 hj l12 g12 (fun h1 => absurd h1 c1) (fun _ h2 => absurd h2 c2) (fun _ _ h3 => absurd h3 c3) (fun _ _ _ _ => fin _) (fun _ _ _ h4 _ => absurd c4 h4) (fun _ _ _ h4 _ _ => absurd c4 h4) (fun _ _ _ h4 _ _ _ => absurd c4 h4) (fun _ _ _ h4 _ _ _ _ => absurd c4 h4) (fun _ _ _ h4 _ _ _ _ _ => absurd c4 h4) (fun _ _ _ h4 _ _ _ _ _ => absurd c4 h4)
    · intro c1 c2 c3 c4 c5
      refine bL_8b hL.1 hi hl ?_
      rw [e]
      exact iM_addLouvre hL.1 n12 h12 hj l12 g12 (fun h1 => absurd h1 c1) (fun _ h2 => absurd h2 c2) (fun _ _ h3 => absurd h3 c3) (fun _ _ _ h4 => absurd h4 c4) (fun _ _ _ _ _ => fin _) (fun _ _ _ _ h5 _ => absurd c5 h5) (fun _ _ _ _ h5 _ _ => absurd c5 h5) (fun _ _ _ _ h5 _ _ _ => absurd c5 h5) (fun _ _ _ _ h5 _ _ _ _ => absurd c5 h5) (fun _ _ _ _ h5 _ _ _ _ => absurd c5 h5)
    · intro c1 c2 c3 c4 c5 c6
      refine bL_8b hL.1 hi hl ?_
      rw [e]
      exact iM_addLouvre hL.1 n12 h12 hj l12 g12 (fun h1 => absurd h1 c1) (fun _ h2 => absurd h2 c2) (fun _ _ h3 => absurd h3 c3) (fun _ _ _ h4 => absurd h4 c4) (fun _ _ _ _ h5 => absurd h5 c5) (fun _ _ _ _ _ _ => fin _) (fun _ _ _ _ _ h6 _ => absurd c6 h6) (fun _ _ _ _ _ h6 _ _ => absurd c6 h6) (fun _ _ _ _ _ h6 _ _ _ => absurd c6 h6) (fun _ _ _ _ _ h6 _ _ _ => absurd c6 h6)
    · intro c1 c2 c3 c4 c5 c6 c7
      refine bL_8b hL.1 hi hl ?_
      rw [e]
      exact iM_addLouvre hL.1 n12 h12 hj l12 g12 (fun h1 => absurd h1 c1) (fun _ h2 => absurd h2 c2) (fun _ _ h3 => absurd h3 c3) (fun _ _ _ h4 => absurd h4 c4) (fun _ _ _ _ h5 => absurd h5 c5) (fun _ _ _ _ _ h6 => absurd h6 c6) (fun _ _ _ _ _ _ _ => fin _) (fun _ _ _ _ _ _ h7 _ => absurd c7 h7) (fun _ _ _ _ _ _ h7 _ _ => absurd c7 h7) (fun _ _ _ _ _ _ h7 _ _ => absurd c7 h7)
    · intro c1 c2 c3 c4 c5 c6 c7 c8
      refine bL_8b hL.1 hi hl ?_
      rw [e]
      exact iM_addLouvre hL.1 n12 h12 hj l12 g12 (fun h1 => absurd h1 c1) (fun _ h2 => absurd h2 c2) (fun _ _ h3 => absurd h3 c3) (fun _ _ _ h4 => absurd h4 c4) (fun _ _ _ _ h5 => absurd h5 c5) (fun _ _ _ _ _ h6 => absurd h6 c6) (fun _ _ _ _ _ _ h7 => absurd h7 c7) (fun _ _ _ _ _ _ _ _ => fin _) (fun _ _ _ _ _ _ _ h8 _ => absurd c8 h8) (fun _ _ _ _ _ _ _ h8 _ => absurd c8 h8)
    · intro c1 c2 c3 c4 c5 c6 c7 c8 c9
      have hS : CS m _ (gB G + 1) (UD (sN (aS A)) (sL (aS A) + 1) (sH (aS A))) (adL (sS (aS A)) (sL (aS A)) (nI j) (gSx G (i + 2)) (gSx G (i + 3)) (gSx G (i + 4)) (gSx G (i + 5))) (sE (aS A)) := (CS.dL (i := (sL (aS A))) (x := 0) 6 (CS.dL (i := (sL (aS A))) (x := 0) 5 (CS.dL (i := (sL (aS A))) (x := (gSx G (i + 5))) 4 (CS.dL (i := (sL (aS A))) (x := (gSx G (i + 4))) 3 (CS.dL (i := (sL (aS A))) (x := (gSx G (i + 3))) 2 (CS.dL (i := (sL (aS A))) (x := (gSx G (i + 2))) 1 (CS.dL (i := (sL (aS A))) (x := (nI j)) 0 (CS.dp hL.CS) (by omega) (by omega)) (by omega) (by omega)) (by omega) (by omega)) (by omega) (by omega)) (by omega) (by omega)) (by omega) (by omega)) (by omega) (by omega)).dpx 13 rfl rfl (by unfold VK; omega) (by omega) (by omega) (fun k hk => ud_L hk)
      have hO : Out (CT G) _ m := hS.1.mono (fun a ha => SA_CT ha)
      have hF1 := hS.full hL.1
      refine bL_8b hF1 hi hl ?_
      rw [e]
      refine iM_addLouvre hF1 n12 h12 hj l12 g12 (fun h1 => absurd h1 c1) (fun _ h2 => absurd h2 c2) (fun _ _ h3 => absurd h3 c3) (fun _ _ _ h4 => absurd h4 c4) (fun _ _ _ _ h5 => absurd h5 c5) (fun _ _ _ _ _ h6 => absurd h6 c6) (fun _ _ _ _ _ _ h7 => absurd h7 c7) (fun _ _ _ _ _ _ _ h8 => absurd h8 c8) (fun _ _ _ _ _ _ _ _ _ => ?_) (fun _ _ _ _ _ _ _ _ h9 => absurd h9 (by omega))
      have r1 := (hL.2.2.1.cls (hO.mono (fun a ha => CT_CC ha))).MS hF1
      have hM : MS G _ _ (adL (sS (aS A)) (sL (aS A)) (nI j) (gSx G (i + 2)) (gSx G (i + 3)) (gSx G (i + 4)) (gSx G (i + 5))) (sE (aS A)) := (((((((r1.wst (7 * (sL (aS A)) + 296) (nI j)).wst (7 * (sL (aS A)) + 297) (gSx G (i + 2))).wst (7 * (sL (aS A)) + 298) (gSx G (i + 3))).wst (7 * (sL (aS A)) + 299) (gSx G (i + 4))).wst (7 * (sL (aS A)) + 300) (gSx G (i + 5))).wst (7 * (sL (aS A)) + 301) 0).wst (7 * (sL (aS A)) + 302) 0).wst 13 (nI ((sL (aS A)) + 1))
      have hO' := hL.2.1.1.2.2.2.2.2.2.1
      have hls : LkS (adL (sS (aS A)) (sL (aS A)) (nI j) (gSx G (i + 2)) (gSx G (i + 3)) (gSx G (i + 4)) (gSx G (i + 5))) (sN (aS A)) (sK (aS A)) := fun a b ha hb => by rw [adL_ne (by omega) (by omega)]; exact hL.2.1.1.2.2.2.1 a b ha hb
      have h15 : (adL (sS (aS A)) (sL (aS A)) (nI j) (gSx G (i + 2)) (gSx G (i + 3)) (gSx G (i + 4)) (gSx G (i + 5))) 15 = sS (aS A) 15 := adL_ne (by omega) (by omega)
      have hpr : ∀ a, a < sH (aS A) → (adL (sS (aS A)) (sL (aS A)) (nI j) (gSx G (i + 2)) (gSx G (i + 3)) (gSx G (i + 4)) (gSx G (i + 5))) (8 * a + 342) = sS (aS A) (8 * a + 342) := fun a ha => adL_ne (by omega) (by omega)
      have hC0 : CR _ (gB G + 1) (adL (sS (aS A)) (sL (aS A)) (nI j) (gSx G (i + 2)) (gSx G (i + 3)) (gSx G (i + 4)) (gSx G (i + 5))) (sE (aS A)) (sN (aS A)) (sL (aS A) + 1) (sH (aS A)) (sR (aS A)) (sK (aS A)) := hL.2.1.1.mk hS hL.2.1.1.2.2.1 hls (hL.2.1.1.2.2.2.2.1.of (fun k => hS.1.ai (by unfold SA; omega) k) hpr) (fun R hR => (hO' R hR).mono (Nat.le_refl _) (Nat.le_succ _) (Nat.le_refl _)) h15
      have hC : CRx _ (gB G + 1) ((adL (sS (aS A)) (sL (aS A)) (nI j) (gSx G (i + 2)) (gSx G (i + 3)) (gSx G (i + 4)) (gSx G (i + 5)), sE (aS A), sN (aS A), sL (aS A) + 1, sH (aS A), sR (aS A), sK (aS A)) : Sc) := hC0
      have hG : GdS ((adL (sS (aS A)) (sL (aS A)) (nI j) (gSx G (i + 2)) (gSx G (i + 3)) (gSx G (i + 4)) (gSx G (i + 5)), sE (aS A), sN (aS A), sL (aS A) + 1, sH (aS A), sR (aS A), sK (aS A)) : Sc) := ⟨Iv_adL hL.iv (by omega) hjn (rg_of c3 c4 (by decide) (by decide)) (by
          have q1 := rg_of (p := -200000) (q := 199999) c3 c4 (by decide) (by decide)
          have q2 : ((gSx G (i + 3)) + 1).toInt = (gSx G (i + 3)).toInt + 1 := by
            have z : (1 : Int32).toInt = 1 := rfl
            have := q1.1
            have := q1.2
            rw [Int32.toInt_add, z, Int.bmod_eq_of_le (by omega) (by omega)]
          exact rg_of c5 c6 q2 (by decide)) (rg_of c7 c8 (by decide) (by decide)), hL.2.2.2.1.2.of (fun k hk => adL_ne (by omega) (by omega)) ⟨Nat.le_refl _, Nat.le_succ _, Nat.le_refl _⟩ (fun R hR => (hO' R hR).mono (Nat.le_refl _) (Nat.le_succ _) (Nat.le_refl _))⟩
      exact bL_8c hM.1 hi hl (fun _ => next _ _ (LIv_new hL hO hC hM hG)) (fun z => absurd rfl z)
    · intro c1 c2 c3 c4 c5 c6 c7 c8 c9
      refine bL_8b hL.1 hi hl ?_
      rw [e]
      exact iM_addLouvre hL.1 n12 h12 hj l12 g12 (fun h1 => absurd h1 c1) (fun _ h2 => absurd h2 c2) (fun _ _ h3 => absurd h3 c3) (fun _ _ _ h4 => absurd h4 c4) (fun _ _ _ _ h5 => absurd h5 c5) (fun _ _ _ _ _ h6 => absurd h6 c6) (fun _ _ _ _ _ _ h7 => absurd h7 c7) (fun _ _ _ _ _ _ _ h8 => absurd h8 c8) (fun _ _ _ _ _ _ _ _ h9 => absurd h9 (by omega)) (fun _ _ _ _ _ _ _ _ _ => fin _)
  · exact aC_addLouvre hL.1 n5 h12 e (bL_8b hL.1 hi hl (aM_addLouvre hL.1 n12 h12 e (fin _)))
  · exact bC_addLouvre hL.1 n5 h12 e e' (bL_8b hL.1 hi hl (bM_addLouvre hL.1 n12 h12 e e' (fin _)))

theorem adN_eqv {st : Nat → Int32} {q k : Nat} {c t e a l : Int32} (hq : q < 12) (hk : k < 152 ∨ 296 ≤ k) : adN st q c t e a l k = upd (upd (upd (upd (upd (adN0 st q c t e a l) (11 * q + 27) t) (11 * q + 28) t) (11 * q + 29) 0) (11 * q + 30) (-1)) 12 (nI (q + 1)) k := by
  unfold adN
  have hcl : clF (adN0 st q c t e a l) q 12 k = adN0 st q c t e a l k := clF_ne 12 (fun i hi => by omega)
  by_cases h0 : k = 12
  · rw [h0, upd_eq, upd_eq]
  · rw [upd_ne h0, upd_ne h0]
    by_cases h1 : k = 11 * q + 30
    · rw [h1, upd_eq, upd_eq]
    · rw [upd_ne h1, upd_ne h1]
      by_cases h2 : k = 11 * q + 29
      · rw [h2, upd_eq, upd_eq]
      · rw [upd_ne h2, upd_ne h2]
        by_cases h3 : k = 11 * q + 28
        · rw [h3, upd_eq, upd_eq]
        · rw [upd_ne h3, upd_ne h3]
          by_cases h4 : k = 11 * q + 27
          · rw [h4, upd_eq, upd_eq]
          · rw [upd_ne h4, upd_ne h4, hcl]
theorem M_clr {G : Cx} {d q : Nat} {m0 m : Mm} {Q : Option Value → Mm → Prop} {st : Nat → Int32} {en : Nat → Int64} {c t e a l : Int32} (hM : MS G m0 m (adN0 st q c t e a l) en) (hn : adN0 st q c t e a l 12 = nI q) (hq : q < 12) (k : ∀ m', MS G m0 m' (adN st q c t e a l) en → Q (some (.int (nI q))) m') : WP G (d + 4) (0, 0) μX11_addNode 149 [.ref (gB G + 293), lvU, lvU, lvU, lvU, lvU, lvU, .int (nI q), .int (0 : Int32)] [] m Q := by
  refine loopN (n := 12) (P := fun j m => MS G m0 m (clF (adN0 st q c t e a l) q j) en) (W := fun j m => WP G (d + 4) (0, 0) μX11_addNode 149 [.ref (gB G + 293), lvU, lvU, lvU, lvU, lvU, lvU, .int (nI q), .int (nI j)] [] m Q) ?_ 0 (by omega) m hM
  intro j m1 hj h1 ih
  have e12 : ai m1 (gB G + 294) 12 = nI q := by
    rw [h1.2.2.1, clF_ne j (fun i hi => by omega)]
    exact hn
  refine bM_addNode h1.1 e12 hq hj (fun z => ?_) (fun z => ?_)
  · have ej : j = 12 := by omega
    subst ej
    have t1 : ai m1 (gB G + 294) (11 * q + 21) = t := by
      rw [h1.2.2.1, clF_ne 12 (fun i hi => by omega)]
      unfold adN0
      iterate 5 rw [upd_ne (by omega)]
      rw [upd_eq]
    rw [t1]
    exact k _ (((((h1.wst _ _).wst _ _).wst _ _).wst _ _).wst _ _)
  · refine ih z _ ?_
    rw [clF_sN]
    have := (h1.wst (12 * q + j + 152) 0).wst (12 * j + q + 152) 0
    rw [show j + 12 * q + 152 = 12 * q + j + 152 by omega]
    exact this

theorem K_0 {G : Cx} {d i : Nat} {m : Mm} {A : Ab} {Q : Option Value → Mm → Prop} (hL : LIv G m A) (hi : i + 7 ≤ gSl G) (hl : gSl G < 4000) (next : ∀ m' A', LIv G m' A' → WP G (d + 100) (0, 0) μL_law 18 [.ref (gSa G), .ref (gB G), .ref (gB G + 293), .int (nI (i + 7))] [] m' Q) : WP G (d + 100) (0, 0) μL_law 276 [.ref (gSa G), .ref (gB G), .ref (gB G + 293), .int (nI i)] [] m Q := by
  have fin : ∀ v : Int32, WP G (d + 100) (0, 0) μL_law 334 [.ref (gSa G), .ref (gB G), .ref (gB G + 293), .int (nI i)] [.int v, .int v] m Q := fun v => bL_0c hL.1 hi hl (fun _ => next m A hL) (fun z => absurd rfl z)
  obtain ⟨n5, n12, h12⟩ := hL.nn
  refine bL_0a hL.1 hi hl ?_
  refine sC_addNode hL.1 n5 h12 ?_ ?_ ?_ ?_ ?_ ?_ ?_ ?_ ?_ ?_ ?_ ?_
  · intro c1
    refine bL_0b hL.1 hi hl ?_
    exact sM_addNode hL.1 n12 h12 (fun _ => fin _) (fun h1 _ => absurd c1 h1) (fun h1 _ _ => absurd c1 h1) (fun h1 _ _ _ => absurd c1 h1) (fun h1 _ _ _ _ => absurd c1 h1) (fun h1 _ _ _ _ _ => absurd c1 h1) (fun h1 _ _ _ _ _ _ => absurd c1 h1) (fun h1 _ _ _ _ _ _ _ => absurd c1 h1) (fun h1 _ _ _ _ _ _ _ _ => absurd c1 h1) (fun h1 _ _ _ _ _ _ _ _ _ => absurd c1 h1) (fun h1 _ _ _ _ _ _ _ _ _ _ => absurd c1 h1) (fun h1 _ _ _ _ _ _ _ _ _ _ => absurd c1 h1)
  · intro c1 c2
    refine bL_0b hL.1 hi hl ?_
    exact sM_addNode hL.1 n12 h12 (fun h1 => absurd h1 c1) (fun _ _ => fin _) (fun _ h2 _ => absurd c2 h2) (fun _ h2 _ _ => absurd c2 h2) (fun _ h2 _ _ _ => absurd c2 h2) (fun _ h2 _ _ _ _ => absurd c2 h2) (fun _ h2 _ _ _ _ _ => absurd c2 h2) (fun _ h2 _ _ _ _ _ _ => absurd c2 h2) (fun _ h2 _ _ _ _ _ _ _ => absurd c2 h2) (fun _ h2 _ _ _ _ _ _ _ _ => absurd c2 h2) (fun _ h2 _ _ _ _ _ _ _ _ _ => absurd c2 h2) (fun _ h2 _ _ _ _ _ _ _ _ _ => absurd c2 h2)
  · intro c1 c2 c3
    refine bL_0b hL.1 hi hl ?_
    exact sM_addNode hL.1 n12 h12 (fun h1 => absurd h1 c1) (fun _ h2 => absurd h2 c2) (fun _ _ _ => fin _) (fun _ _ h3 _ => absurd c3 h3) (fun _ _ h3 _ _ => absurd c3 h3) (fun _ _ h3 _ _ _ => absurd c3 h3) (fun _ _ h3 _ _ _ _ => absurd c3 h3) (fun _ _ h3 _ _ _ _ _ => absurd c3 h3) (fun _ _ h3 _ _ _ _ _ _ => absurd c3 h3) (fun _ _ h3 _ _ _ _ _ _ _ => absurd c3 h3) (fun _ _ h3 _ _ _ _ _ _ _ _ => absurd c3 h3) (fun _ _ h3 _ _ _ _ _ _ _ _ => absurd c3 h3)
  · intro c1 c2 c3 c4
    refine bL_0b hL.1 hi hl ?_
    exact sM_addNode hL.1 n12 h12 (fun h1 => absurd h1 c1) (fun _ h2 => absurd h2 c2) (fun _ _ h3 => absurd h3 c3) (fun _ _ _ _ => fin _) (fun _ _ _ h4 _ => absurd c4 h4) (fun _ _ _ h4 _ _ => absurd c4 h4) (fun _ _ _ h4 _ _ _ => absurd c4 h4) (fun _ _ _ h4 _ _ _ _ => absurd c4 h4) (fun _ _ _ h4 _ _ _ _ _ => absurd c4 h4) (fun _ _ _ h4 _ _ _ _ _ _ => absurd c4 h4) (fun _ _ _ h4 _ _ _ _ _ _ _ => absurd c4 h4) (fun _ _ _ h4 _ _ _ _ _ _ _ => absurd c4 h4)
  · intro c1 c2 c3 c4 c5
    refine bL_0b hL.1 hi hl ?_
    exact sM_addNode hL.1 n12 h12 (fun h1 => absurd h1 c1) (fun _ h2 => absurd h2 c2) (fun _ _ h3 => absurd h3 c3) (fun _ _ _ h4 => absurd h4 c4) (fun _ _ _ _ _ => fin _) (fun _ _ _ _ h5 _ => absurd c5 h5) (fun _ _ _ _ h5 _ _ => absurd c5 h5) (fun _ _ _ _ h5 _ _ _ => absurd c5 h5) (fun _ _ _ _ h5 _ _ _ _ => absurd c5 h5) (fun _ _ _ _ h5 _ _ _ _ _ => absurd c5 h5) (fun _ _ _ _ h5 _ _ _ _ _ _ => absurd c5 h5) (fun _ _ _ _ h5 _ _ _ _ _ _ => absurd c5 h5)
  · intro c1 c2 c3 c4 c5 c6
    refine bL_0b hL.1 hi hl ?_
    exact sM_addNode hL.1 n12 h12 (fun h1 => absurd h1 c1) (fun _ h2 => absurd h2 c2) (fun _ _ h3 => absurd h3 c3) (fun _ _ _ h4 => absurd h4 c4) (fun _ _ _ _ h5 => absurd h5 c5) (fun _ _ _ _ _ _ => fin _) (fun _ _ _ _ _ h6 _ => absurd c6 h6) (fun _ _ _ _ _ h6 _ _ => absurd c6 h6) (fun _ _ _ _ _ h6 _ _ _ => absurd c6 h6) (fun _ _ _ _ _ h6 _ _ _ _ => absurd c6 h6) (fun _ _ _ _ _ h6 _ _ _ _ _ => absurd c6 h6) (fun _ _ _ _ _ h6 _ _ _ _ _ => absurd c6 h6)
  · intro c1 c2 c3 c4 c5 c6 c7
    refine bL_0b hL.1 hi hl ?_
    exact sM_addNode hL.1 n12 h12 (fun h1 => absurd h1 c1) (fun _ h2 => absurd h2 c2) (fun _ _ h3 => absurd h3 c3) (fun _ _ _ h4 => absurd h4 c4) (fun _ _ _ _ h5 => absurd h5 c5) (fun _ _ _ _ _ h6 => absurd h6 c6) (fun _ _ _ _ _ _ _ => fin _) (fun _ _ _ _ _ _ h7 _ => absurd c7 h7) (fun _ _ _ _ _ _ h7 _ _ => absurd c7 h7) (fun _ _ _ _ _ _ h7 _ _ _ => absurd c7 h7) (fun _ _ _ _ _ _ h7 _ _ _ _ => absurd c7 h7) (fun _ _ _ _ _ _ h7 _ _ _ _ => absurd c7 h7)
  · intro c1 c2 c3 c4 c5 c6 c7 c8
    refine bL_0b hL.1 hi hl ?_
    exact sM_addNode hL.1 n12 h12 (fun h1 => absurd h1 c1) (fun _ h2 => absurd h2 c2) (fun _ _ h3 => absurd h3 c3) (fun _ _ _ h4 => absurd h4 c4) (fun _ _ _ _ h5 => absurd h5 c5) (fun _ _ _ _ _ h6 => absurd h6 c6) (fun _ _ _ _ _ _ h7 => absurd h7 c7) (fun _ _ _ _ _ _ _ _ => fin _) (fun _ _ _ _ _ _ _ h8 _ => absurd c8 h8) (fun _ _ _ _ _ _ _ h8 _ _ => absurd c8 h8) (fun _ _ _ _ _ _ _ h8 _ _ _ => absurd c8 h8) (fun _ _ _ _ _ _ _ h8 _ _ _ => absurd c8 h8)
  · intro c1 c2 c3 c4 c5 c6 c7 c8 c9
    refine bL_0b hL.1 hi hl ?_
    exact sM_addNode hL.1 n12 h12 (fun h1 => absurd h1 c1) (fun _ h2 => absurd h2 c2) (fun _ _ h3 => absurd h3 c3) (fun _ _ _ h4 => absurd h4 c4) (fun _ _ _ _ h5 => absurd h5 c5) (fun _ _ _ _ _ h6 => absurd h6 c6) (fun _ _ _ _ _ _ h7 => absurd h7 c7) (fun _ _ _ _ _ _ _ h8 => absurd h8 c8) (fun _ _ _ _ _ _ _ _ _ => fin _) (fun _ _ _ _ _ _ _ _ h9 _ => absurd c9 h9) (fun _ _ _ _ _ _ _ _ h9 _ _ => absurd c9 h9) (fun _ _ _ _ _ _ _ _ h9 _ _ => absurd c9 h9)
  · intro c1 c2 c3 c4 c5 c6 c7 c8 c9 c10
    refine bL_0b hL.1 hi hl ?_
    exact sM_addNode hL.1 n12 h12 (fun h1 => absurd h1 c1) (fun _ h2 => absurd h2 c2) (fun _ _ h3 => absurd h3 c3) (fun _ _ _ h4 => absurd h4 c4) (fun _ _ _ _ h5 => absurd h5 c5) (fun _ _ _ _ _ h6 => absurd h6 c6) (fun _ _ _ _ _ _ h7 => absurd h7 c7) (fun _ _ _ _ _ _ _ h8 => absurd h8 c8) (fun _ _ _ _ _ _ _ _ h9 => absurd h9 c9) (fun _ _ _ _ _ _ _ _ _ _ => fin _) (fun _ _ _ _ _ _ _ _ _ h10 _ => absurd c10 h10) (fun _ _ _ _ _ _ _ _ _ h10 _ => absurd c10 h10)
  · intro c1 c2 c3 c4 c5 c6 c7 c8 c9 c10 c11
    have hT := CS.dpx (D' := UD (sN (aS A) + 1) (sL (aS A)) (sH (aS A))) (x := nI ((sN (aS A)) + 1)) (CS.dN (i := (sN (aS A))) (x := (-1)) 10 (CS.dN (i := (sN (aS A))) (x := 0) 9 (CS.dN (i := (sN (aS A))) (x := (gSx G (i + 2))) 8 (CS.dN (i := (sN (aS A))) (x := (gSx G (i + 2))) 7 (CS.dN (i := (sN (aS A))) (x := 200000) 6 (CS.dN (i := (sN (aS A))) (x := (-200000)) 5 (CS.dN (i := (sN (aS A))) (x := (gSx G (i + 5))) 4 (CS.dN (i := (sN (aS A))) (x := (gSx G (i + 4))) 3 (CS.dN (i := (sN (aS A))) (x := (gSx G (i + 3))) 2 (CS.dN (i := (sN (aS A))) (x := (gSx G (i + 2))) 1 (CS.dN (i := (sN (aS A))) (x := (gSx G (i + 1))) 0 (CS.dp hL.CS) (by omega) (by omega)) (by omega) (by omega)) (by omega) (by omega)) (by omega) (by omega)) (by omega) (by omega)) (by omega) (by omega)) (by omega) (by omega)) (by omega) (by omega)) (by omega) (by omega)) (by omega) (by omega)) (by omega) (by omega)) 12 rfl rfl (by unfold VK; omega) (by omega) (by omega) (fun k hk => ud_N hk)
    have hS : CS m _ (gB G + 1) (UD (sN (aS A) + 1) (sL (aS A)) (sH (aS A))) (adN (sS (aS A)) (sN (aS A)) (gSx G (i + 1)) (gSx G (i + 2)) (gSx G (i + 3)) (gSx G (i + 4)) (gSx G (i + 5))) (sE (aS A)) := ⟨hT.1, hT.2.1, fun k hk hd => (hT.2.2.1 k hk hd).trans (adN_eqv (by omega) (by unfold VK at hk; omega)).symm, hT.2.2.2.1, fun k hk => by
      have e16 : own (adN (sS (aS A)) (sN (aS A)) (gSx G (i + 1)) (gSx G (i + 2)) (gSx G (i + 3)) (gSx G (i + 4)) (gSx G (i + 5))) 16 = own (sS (aS A)) 16 := by
        unfold own
        rw [adN_ne (by omega) (by omega) (by omega)]
      rw [e16] at hk
      have hv := own_of (hL.iv.1.2.2.2.2.2.2.2.2.2.2) (by have := vcnt_le (sS (aS A)) (sN (aS A)); omega)
      have := vcnt_le (sS (aS A)) (sN (aS A))
      rw [adN_ne (by omega) (by omega) (by omega)]
      exact hL.CS.2.2.2.2 k hk⟩
    have hO : Out (CT G) _ m := hS.1.mono (fun a ha => SA_CT ha)
    have hF1 := hS.full hL.1
    refine bL_0b hF1 hi hl ?_
    refine sM_addNode hF1 n12 h12 (fun h1 => absurd h1 c1) (fun _ h2 => absurd h2 c2) (fun _ _ h3 => absurd h3 c3) (fun _ _ _ h4 => absurd h4 c4) (fun _ _ _ _ h5 => absurd h5 c5) (fun _ _ _ _ _ h6 => absurd h6 c6) (fun _ _ _ _ _ _ h7 => absurd h7 c7) (fun _ _ _ _ _ _ _ h8 => absurd h8 c8) (fun _ _ _ _ _ _ _ _ h9 => absurd h9 c9) (fun _ _ _ _ _ _ _ _ _ h10 => absurd h10 c10) (fun _ _ _ _ _ _ _ _ _ _ _ => ?_) (fun _ _ _ _ _ _ _ _ _ _ h11 => absurd h11 (by omega))
    have r1 := (hL.2.2.1.cls (hO.mono (fun a ha => CT_CC ha))).MS hF1
    have hM0 := (((((((r1.wst (11 * (sN (aS A)) + 20) (gSx G (i + 1))).wst (11 * (sN (aS A)) + 21) (gSx G (i + 2))).wst (11 * (sN (aS A)) + 22) (gSx G (i + 3))).wst (11 * (sN (aS A)) + 23) (gSx G (i + 4))).wst (11 * (sN (aS A)) + 24) (gSx G (i + 5))).wst (11 * (sN (aS A)) + 25) (-200000)).wst (11 * (sN (aS A)) + 26) 200000)
    refine M_clr hM0 (by unfold adN0; rw [upd_ne (by omega), upd_ne (by omega), upd_ne (by omega), upd_ne (by omega), upd_ne (by omega), upd_ne (by omega), upd_ne (by omega)]; exact hL.iv.1.1) (by omega) (fun m2 hM => ?_)
    have hO' := hL.2.1.1.2.2.2.2.2.2.1
    have h15 : (adN (sS (aS A)) (sN (aS A)) (gSx G (i + 1)) (gSx G (i + 2)) (gSx G (i + 3)) (gSx G (i + 4)) (gSx G (i + 5))) 15 = sS (aS A) 15 := adN_ne (by omega) (by omega) (by omega)
    have hpr : ∀ a, a < sH (aS A) → (adN (sS (aS A)) (sN (aS A)) (gSx G (i + 1)) (gSx G (i + 2)) (gSx G (i + 3)) (gSx G (i + 4)) (gSx G (i + 5))) (8 * a + 342) = sS (aS A) (8 * a + 342) := fun a ha => adN_ne (by omega) (by omega) (by omega)
    have hC0 : CR _ (gB G + 1) (adN (sS (aS A)) (sN (aS A)) (gSx G (i + 1)) (gSx G (i + 2)) (gSx G (i + 3)) (gSx G (i + 4)) (gSx G (i + 5))) (sE (aS A)) (sN (aS A) + 1) (sL (aS A)) (sH (aS A)) (sR (aS A)) (sK (aS A)) := hL.2.1.1.mk hS (hL.2.1.1.2.2.1.mono (Nat.le_succ _)) (LkS_adN (by omega) hL.2.1.1.2.2.2.1 hL.2.1.1.2.2.1) (hL.2.1.1.2.2.2.2.1.of (fun k => hS.1.ai (by unfold SA; omega) k) hpr) (fun R hR => (hO' R hR).mono (Nat.le_succ _) (Nat.le_refl _) (Nat.le_refl _)) h15
    have hC : CRx _ (gB G + 1) ((adN (sS (aS A)) (sN (aS A)) (gSx G (i + 1)) (gSx G (i + 2)) (gSx G (i + 3)) (gSx G (i + 4)) (gSx G (i + 5)), sE (aS A), sN (aS A) + 1, sL (aS A), sH (aS A), sR (aS A), sK (aS A)) : Sc) := hC0
    have hG : GdS ((adN (sS (aS A)) (sN (aS A)) (gSx G (i + 1)) (gSx G (i + 2)) (gSx G (i + 3)) (gSx G (i + 4)) (gSx G (i + 5)), sE (aS A), sN (aS A) + 1, sL (aS A), sH (aS A), sR (aS A), sK (aS A)) : Sc) := ⟨Iv_adN hL.iv (by omega) (rg_of c1 c2 (by decide) (by decide)) (rg_of c3 c4 (by decide) (by decide)), hL.2.2.2.1.2.of (fun k hk => adN_ne (by omega) (by omega) (by omega)) ⟨Nat.le_succ _, Nat.le_refl _, Nat.le_refl _⟩ (fun R hR => (hO' R hR).mono (Nat.le_succ _) (Nat.le_refl _) (Nat.le_refl _))⟩
    exact bL_0c hM.1 hi hl (fun _ => next _ _ (LIv_new hL hO hC hM hG)) (fun z => absurd rfl z)
  · intro c1 c2 c3 c4 c5 c6 c7 c8 c9 c10 c11
    refine bL_0b hL.1 hi hl ?_
    exact sM_addNode hL.1 n12 h12 (fun h1 => absurd h1 c1) (fun _ h2 => absurd h2 c2) (fun _ _ h3 => absurd h3 c3) (fun _ _ _ h4 => absurd h4 c4) (fun _ _ _ _ h5 => absurd h5 c5) (fun _ _ _ _ _ h6 => absurd h6 c6) (fun _ _ _ _ _ _ h7 => absurd h7 c7) (fun _ _ _ _ _ _ _ h8 => absurd h8 c8) (fun _ _ _ _ _ _ _ _ h9 => absurd h9 c9) (fun _ _ _ _ _ _ _ _ _ h10 => absurd h10 c10) (fun _ _ _ _ _ _ _ _ _ _ h11 => absurd h11 (by omega)) (fun _ _ _ _ _ _ _ _ _ _ _ => fin _)
