/-! THE LAW'S CASE 5: LINK -/
theorem fi_6 {m : Mm} {f a c : Nat} {x : Int32} (h : f = 6 → a ≠ c) : fi (wfi m 6 c x) f a = fi m f a := by
  by_cases e : f = 6
  · exact fi_na (h e)
  · exact fi_ne e
theorem LIv_lnk {G : Cx} {m m1 m2 : Mm} {A : Ab} {j q : Nat} {z : Int32} {l' : List Lk} (hL : LIv G m A) (hj : j < sN (aS A)) (hq : q < sN (aS A)) (hO : Out (CT G) m1 m) (hf : ∀ f a, (f = 6 → a ≠ gB G + 1) → (∀ k, k < 24 → a ≠ lk (gB G + 1) k) → fi m1 f a = fi m f a) (hfl : ∀ f a, fl m1 f a = fl m f a) (hai : ∀ a k, ai m1 a k = ai m a k) (hC : LkC m1 (gB G + 1) l') (hOl : LkOK (sN (aS A)) l') (P : ∀ x, ¬ lkM x j q → (x ∈ l' ↔ x ∈ sK (aS A))) (hz : lkV j q l' = z) (hM : MS G m1 m2 (nwS (sS (aS A)) j q z) (sE (aS A))) : LIv G m2 ((nwS (sS (aS A)) j q z, sE (aS A), sN (aS A), sL (aS A), sH (aS A), sR (aS A), l'), A.2) := by
  have h12 := hL.nn.2.2
  have hne : ∀ k, k < 152 ∨ 296 ≤ k → nwS (sS (aS A)) j q z k = sS (aS A) k := fun k hk => nwS_ne (by omega) (by omega) hk
  have hLS : LkS (nwS (sS (aS A)) j q z) (sN (aS A)) l' := LkS_chg hL.2.1.1.2.2.2.1 hL.2.1.1.2.2.1 hOl h12 hj hq P hz
  have hC2 : CRx m1 (gB G + 1) ((nwS (sS (aS A)) j q z, sE (aS A), sN (aS A), sL (aS A), sH (aS A), sR (aS A), l') : Sc) := hL.2.1.1.lnk hf hfl hai hC hOl hLS hne
  have hG : GdS ((nwS (sS (aS A)) j q z, sE (aS A), sN (aS A), sL (aS A), sH (aS A), sR (aS A), l') : Sc) := ⟨hL.iv.lnk hne, hL.2.2.2.1.2.of (fun k hk => hne k (by omega)) ⟨Nat.le_refl _, Nat.le_refl _, Nat.le_refl _⟩ (fun R hR => hL.2.1.1.2.2.2.2.2.2.1 R hR)⟩
  exact LIv_new hL hO hC2 hM hG
theorem pos_nz {z : Int32} (h1 : ¬ z < 0) (h2 : ¬ z = 0) : 0 < z := by
  rw [Int32.lt_iff_toInt_lt] at h1 ⊢
  have e : (0 : Int32).toInt = 0 := rfl
  have : z.toInt ≠ 0 := fun q => h2 (Int32.toInt_inj.mp (q.trans e.symm))
  omega
theorem rg_nz {z : Int32} {b : Int} (h : rg z 0 b) (h2 : ¬ z = 0) : rg z 1 b := by
  have e : (0 : Int32).toInt = 0 := rfl
  have : z.toInt ≠ 0 := fun q => h2 (Int32.toInt_inj.mp (q.trans e.symm))
  unfold rg at *
  omega
theorem K_5 {G : Cx} {d i : Nat} {m : Mm} {A : Ab} {Q : Option Value → Mm → Prop} (hL : LIv G m A) (hi : i + 7 ≤ gSl G) (hl : gSl G < 4000) (next : ∀ m' A', LIv G m' A' → WP G (d + 100) (0, 0) μL_law 18 [.ref (gSa G), .ref (gB G), .ref (gB G + 293), .int (nI (i + 7))] [] m' Q) : WP G (d + 100) (0, 0) μL_law 461 [.ref (gSa G), .ref (gB G), .ref (gB G + 293), .int (nI i)] [] m Q := by
  have fin : ∀ v : Int32, WP G (d + 100) (0, 0) μL_law 499 [.ref (gSa G), .ref (gB G), .ref (gB G + 293), .int (nI i)] [.int v, .int v] m Q := fun v => bL_5c hL.1 hi hl (fun _ => next m A hL) (fun z => absurd rfl z)
  obtain ⟨n5, n12, h12⟩ := hL.nn
  obtain ⟨-, hLk, hLO, hLS, -⟩ := hL.2.1.1
  refine bL_5a hL.1 hi hl ?_
  rcases inr_cases (gSx G (i + 1)) (sN (aS A)) (by omega) with ⟨j, hj, e⟩ | e | ⟨e, e'⟩
  · obtain ⟨p, hp⟩ : ∃ p, sN (aS A) = p + 1 := ⟨sN (aS A) - 1, by omega⟩
    have hjn := hj
    rcases inr_cases (gSx G (i + 2)) (sN (aS A)) (by omega) with ⟨q, hq, f⟩ | f | ⟨f, f'⟩
    · have hqn := hq
      have old : sS (aS A) (12 * j + q + 152) = lkV j q (sK (aS A)) := hLS j q hjn hqn
      have h12s := h12
      rw [hp] at n5 n12 h12 hj hq
      rw [e, f]
      have rf : ∀ {m1 : Mm}, Full G m1 → Out (CT G) m1 m → ai m1 (gB G + 294) 12 = nI (p + 1) ∧ ai m1 (gB G + 294) = sS (aS A) ∧ MS G m1 m1 (sS (aS A)) (sE (aS A)) := fun {m1} hF1 hO => by
        have r := (hL.2.2.1.cls (hO.mono (fun a ha => CT_CC ha))).MS hF1
        exact ⟨(hO.ai (by unfold CT; omega) 12).trans n12, r.2.2.1, r⟩
      refine iiC_link hL.1 n5 h12 hj hq (fun c1 => ?_) (fun c1 c2 => ?_) (fun c1 c2 c3 => ?_) (fun c1 c2 c3 => ?_)
      · refine bL_5b hL.1 hi hl ?_
        rw [e, f]
        exact iiM_link hL.1 n12 h12 hj hq (fun _ => fin _) (fun h => absurd c1 h) (fun h => absurd c1 h) (fun h => absurd c1 h) (fun h => absurd c1 h) (fun h => absurd c1 h)
      · refine bL_5b hL.1 hi hl ?_
        rw [e, f]
        exact iiM_link hL.1 n12 h12 hj hq (fun h => absurd h c1) (fun _ _ => fin _) (fun _ h => absurd c2 h) (fun _ h => absurd c2 h) (fun _ h => absurd c2 h) (fun _ h => absurd c2 h)
      · refine bL_5b hL.1 hi hl ?_
        rw [e, f]
        exact iiM_link hL.1 n12 h12 hj hq (fun h => absurd h c1) (fun _ h => absurd h c2) (fun _ _ _ => fin _) (fun _ _ h => absurd c3 h) (fun _ _ h => absurd c3 h) (fun _ _ h => absurd c3 h)
      · have hrg := rg_of c2 c3 (p := 0) (q := 100000) (by decide) (by decide)
        refine C_pol hL.1 (isC1 G) hLk hLO h12s (by omega) (by omega) (fun hz => ?_) (fun r x hr hx hm => ?_)
        · have old0 : sS (aS A) (12 * j + q + 152) = 0 := old.trans (lkV_z _ hz)
          refine jC_link0 hL.1 (by omega) (by omega) ?_
          refine sC_mkl (d := d + 96) hL.1 (isC1 G) hLk.1 hLk.2.1 (fun nz h24 => ?_) (fun nz h24 => ?_) (fun ez => ?_)
          · refine wp_iret dX10_link_70 rfl ?_
            have hF1 : Full G _ := Full_wfi 6 (gB G + 1) (nI ((sK (aS A)).length + 1)) (Full_wfi 202 (lk (gB G + 1) (sK (aS A)).length) (gSx G (i + 3)) (Full_wfi 201 (lk (gB G + 1) (sK (aS A)).length) (nI q) (Full_wfi 200 (lk (gB G + 1) (sK (aS A)).length) (nI j) hL.1)))
            have hO : Out (CT G) _ m := (((Out.rf.wfi (m := m) (f := 200) (a := lk (gB G + 1) (sK (aS A)).length) (x := nI j) (by unfold CT lk; omega)).wfi (f := 201) (a := lk (gB G + 1) (sK (aS A)).length) (x := nI q) (by unfold CT lk; omega)).wfi (f := 202) (a := lk (gB G + 1) (sK (aS A)).length) (x := gSx G (i + 3)) (by unfold CT lk; omega)).wfi (f := 6) (a := gB G + 1) (x := nI ((sK (aS A)).length + 1)) (by unfold CT; omega)
            refine bL_5b hF1 hi hl ?_
            rw [e, f]
            obtain ⟨n12', st', hMS⟩ := rf hF1 hO
            have hnew : ∀ m2, MS G _ m2 (nwS (sS (aS A)) j q (gSx G (i + 3))) (sE (aS A)) → LIv G m2 _ := fun m2 hM => LIv_lnk hL hjn hqn hO (fun f a h6 hk => (fi_6 h6).trans ((fi_na (hk _ h24)).trans ((fi_na (hk _ h24)).trans (fi_na (hk _ h24))))) (fun _ _ => rfl) (fun _ _ => rfl) (LkC_add hLk h24) (lkOK_add hLO hjn hqn c1 (rg_nz hrg nz) hz) (fun x hx => by
              rw [List.mem_append, List.mem_singleton]
              constructor
              · rintro (h | h)
                · exact h
                · rw [h] at hx
                  exact absurd (Or.inl ⟨rfl, rfl⟩) hx
              · exact Or.inl) (lkV_in (x := (j, q, gSx G (i + 3))) (lkOK_add hLO hjn hqn c1 (rg_nz hrg nz) hz) (List.mem_append.mpr (Or.inr (List.mem_singleton.mpr rfl))) (Or.inl ⟨rfl, rfl⟩)) hM
            refine iiM_link hF1 n12' h12 hj hq (fun h => absurd h c1) (fun _ h => absurd h c2) (fun _ _ h => absurd h c3) (fun _ _ _ h => absurd ((congrFun st' _).trans old0) h) (fun _ _ _ _ h => absurd (pos_nz c2 nz) h) (fun _ _ _ _ _ => ?_)
            refine M_lc (d := d + 96) hF1 st' (by rw [← st']; exact n12'.trans (congrArg nI hp.symm)) h12s ?_
            have hcn : cnA (fun i j => sS (aS A) (12 * i + j + 152)) (sN (aS A)) = (sK (aS A)).length := by
              rw [← cnA_len _ hLO]
              exact cnA_eq _ (fun a b ha hb => hLS a b ha (by omega))
            rw [hcn]
            refine jM_link hF1 (by omega) (by omega) (by omega) (fun _ => ?_) (fun h => by omega)
            rw [congrFun st' _, old0]
            have hM2 := (hMS.wst (12 * j + q + 152) (gSx G (i + 3))).wst (j + 12 * q + 152) (gSx G (i + 3))
            exact bL_5c hM2.1 hi hl (fun _ => next _ _ (hnew _ hM2)) (fun z => absurd rfl z)
          · refine wp_iret dX10_link_70 rfl ?_
            refine bL_5b hL.1 hi hl ?_
            rw [e, f]
            refine iiM_link hL.1 n12 h12 hj hq (fun h => absurd h c1) (fun _ h => absurd h c2) (fun _ _ h => absurd h c3) (fun _ _ _ h => absurd ((congrFun hL.st _).trans old0) h) (fun _ _ _ _ h => absurd (pos_nz c2 nz) h) (fun _ _ _ _ _ => ?_)
            refine M_lc (d := d + 96) hL.1 hL.st (by rw [← hL.st]; exact n12.trans (congrArg nI hp.symm)) h12s ?_
            have hcn : cnA (fun i j => sS (aS A) (12 * i + j + 152)) (sN (aS A)) = (sK (aS A)).length := by
              rw [← cnA_len _ hLO]
              exact cnA_eq _ (fun a b ha hb => hLS a b ha (by omega))
            rw [hcn]
            have h24' := hLk.2.1
            exact jM_link hL.1 (by omega) (by omega) (by omega) (fun h => by omega) (fun _ => fin _)
          · refine wp_iret dX10_link_70 rfl ?_
            refine bL_5b hL.1 hi hl ?_
            rw [e, f, ez]
            refine iiM_link hL.1 n12 h12 hj hq (fun h => absurd h c1) (fun _ h => absurd h (by decide)) (fun _ _ h => absurd h (by decide)) (fun _ _ _ h => absurd ((congrFun hL.st _).trans old0) h) (fun _ _ _ _ _ => ?_) (fun _ _ _ _ h => absurd h (by decide))
            rw [congrFun hL.st _, old0]
            obtain ⟨n12', st', hMS⟩ := rf hL.1 Out.rf
            have hM2 := (hMS.wst (12 * j + q + 152) 0).wst (j + 12 * q + 152) 0
            have hnew := LIv_lnk hL hjn hqn Out.rf (fun _ _ _ _ => rfl) (fun _ _ => rfl) (fun _ _ => rfl) hLk hLO (fun _ _ => Iff.rfl) (lkV_z _ hz) hM2
            exact bL_5c hM2.1 hi hl (fun _ => next _ _ hnew) (fun z => absurd rfl z)
        · have h24' := hLk.2.1
          have oldv : sS (aS A) (12 * j + q + 152) = x.2.2 := old.trans (lkV_at hm _ hLO r hx)
          have oldn : ¬ sS (aS A) (12 * j + q + 152) = 0 := by
            have h0 := lkV_n0 hLO hx hm
            rw [← old] at h0
            intro h
            rw [h] at h0
            exact absurd h0 (by decide)
          obtain ⟨X, Y, hXY, hX⟩ := lk_dec hx
          have fx := (hLk.2.2 r x hx).2.2
          have hLk' := hLk
          have hLO' := hLO
          rw [hXY] at hLk' hLO'
          refine jC_link1 hL.1 (by omega) (by omega) (by omega) (fun _ nz => ?_) (fun _ ez => ?_) (fun h => absurd h (nI_ne1 (by omega)))
          · rw [fx]
            have hF1 : Full G _ := Full_wfi 202 (lk (gB G + 1) r) (gSx G (i + 3)) hL.1
            have hO : Out (CT G) _ m := Out.rf.wfi (m := m) (f := 202) (a := lk (gB G + 1) r) (x := gSx G (i + 3)) (by unfold CT lk; omega)
            refine bL_5b hF1 hi hl ?_
            rw [e, f]
            obtain ⟨n12', st', hMS⟩ := rf hF1 hO
            refine iiM_link hF1 n12' h12 hj hq (fun h => absurd h c1) (fun _ h => absurd h c2) (fun _ _ h => absurd h c3) (fun _ _ _ _ => ?_) (fun _ _ _ h _ => absurd ((congrFun st' _).symm.trans h) oldn) (fun _ _ _ h _ => absurd ((congrFun st' _).symm.trans h) oldn)
            rw [congrFun st' _, oldv]
            have hM2 := (hMS.wst (12 * j + q + 152) (gSx G (i + 3))).wst (j + 12 * q + 152) (gSx G (i + 3))
            have hOn := lkOK_new (y := (x.1, x.2.1, gSx G (i + 3))) hLO' ⟨rfl, rfl⟩ (rg_nz hrg nz)
            have hnew := LIv_lnk hL hjn hqn hO (fun f a h6 hk => fi_na (hk _ (by omega))) (fun _ _ => rfl) (fun _ _ => rfl) (LkC_set hLk' hX) hOn (fun w hw => by
              rw [hXY, List.mem_append, List.mem_append, List.mem_cons, List.mem_cons]
              constructor
              · rintro (h | h | h)
                · exact Or.inl h
                · rw [h] at hw
                  exact absurd hm hw
                · exact Or.inr (Or.inr h)
              · rintro (h | h | h)
                · exact Or.inl h
                · rw [h] at hw
                  exact absurd hm hw
                · exact Or.inr (Or.inr h)) (lkV_in (x := (x.1, x.2.1, gSx G (i + 3))) hOn (List.mem_append.mpr (Or.inr List.mem_cons_self)) hm) hM2
            exact bL_5c hM2.1 hi hl (fun _ => next _ _ hnew) (fun z => absurd rfl z)
          · obtain ⟨w, hw⟩ : ∃ w, (sK (aS A)).length = w + 1 := ⟨(sK (aS A)).length - 1, by omega⟩
            have hwX : (X ++ x :: Y).length = w + 1 := by rw [← hXY]; exact hw
            rw [fx]
            refine sC_drl (d := d + 96) (n := w) hL.1 (isC1 G) (hLk.1.trans (congrArg nI hw)) (by omega) (by omega) ?_
            refine wp_goto 116 dX10_link_99 (by decide) ?_
            refine wp_iload dX10_link_116 rfl ?_
            refine wp_iret dX10_link_118 rfl ?_
            obtain ⟨Z, hZ, hCZ⟩ := LkC_off hLk' hX hwX
            have hF1 : Full G _ := Full_wfi 202 (lk (gB G + 1) r) (fi m 202 (lk (gB G + 1) w)) (Full_wfi 201 (lk (gB G + 1) r) (fi m 201 (lk (gB G + 1) w)) (Full_wfi 200 (lk (gB G + 1) r) (fi m 200 (lk (gB G + 1) w)) (Full_wfi 6 (gB G + 1) (nI w) hL.1)))
            have hO : Out (CT G) _ m := (((Out.rf.wfi (m := m) (f := 6) (a := gB G + 1) (x := nI w) (by unfold CT; omega)).wfi (f := 200) (a := lk (gB G + 1) r) (x := fi m 200 (lk (gB G + 1) w)) (by unfold CT lk; omega)).wfi (f := 201) (a := lk (gB G + 1) r) (x := fi m 201 (lk (gB G + 1) w)) (by unfold CT lk; omega)).wfi (f := 202) (a := lk (gB G + 1) r) (x := fi m 202 (lk (gB G + 1) w)) (by unfold CT lk; omega)
            refine bL_5b hF1 hi hl ?_
            rw [e, f]
            obtain ⟨n12', st', hMS⟩ := rf hF1 hO
            refine iiM_link hF1 n12' h12 hj hq (fun h => absurd h c1) (fun _ h => absurd h c2) (fun _ _ h => absurd h c3) (fun _ _ _ _ => ?_) (fun _ _ _ h _ => absurd ((congrFun st' _).symm.trans h) oldn) (fun _ _ _ h _ => absurd ((congrFun st' _).symm.trans h) oldn)
            rw [congrFun st' _, oldv, ez]
            have hM2 := (hMS.wst (12 * j + q + 152) 0).wst (j + 12 * q + 152) 0
            have hOn : LkOK (sN (aS A)) Z := (lkOK_off hLO').perm hZ.symm
            have hnew := LIv_lnk hL hjn hqn hO (fun f a h6 hk => (fi_na (hk _ (by omega))).trans ((fi_na (hk _ (by omega))).trans ((fi_na (hk _ (by omega))).trans (fi_6 h6)))) (fun _ _ => rfl) (fun _ _ => rfl) hCZ hOn (fun u hu => by
              rw [hZ.mem_iff, hXY, List.mem_append, List.mem_append, List.mem_cons]
              constructor
              · rintro (h | h)
                · exact Or.inl h
                · exact Or.inr (Or.inr h)
              · rintro (h | h | h)
                · exact Or.inl h
                · rw [h] at hu
                  exact absurd hm hu
                · exact Or.inr h) (lkV_z Z (fun u hu => lk_un hLO' hm (hZ.mem_iff.mp hu))) hM2
            exact bL_5c hM2.1 hi hl (fun _ => next _ _ hnew) (fun z => absurd rfl z)
    · rw [hp] at n5 n12 h12 hj
      rw [e]
      refine iaC_link hL.1 n5 h12 hj f (bL_5b hL.1 hi hl ?_)
      rw [e]
      exact iaM_link hL.1 n12 h12 hj f (fin _)
    · rw [hp] at n5 n12 h12 hj f'
      rw [e]
      refine ibC_link hL.1 n5 h12 hj f f' (bL_5b hL.1 hi hl ?_)
      rw [e]
      exact ibM_link hL.1 n12 h12 hj f f' (fin _)
  · exact aC_link hL.1 n5 h12 e (bL_5b hL.1 hi hl (aM_link hL.1 n12 h12 e (fin _)))
  · exact bC_link hL.1 n5 h12 e e' (bL_5b hL.1 hi hl (bM_link hL.1 n12 h12 e e' (fin _)))
