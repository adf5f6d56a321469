theorem K_55 {G : Cx} {d i : Nat} {m : Mm} {A : Ab} {Q : Option Value → Mm → Prop} (hL : LIv G m A) (hi : i + 7 ≤ gSl G) (hl : gSl G < 4000) (next : ∀ m' A', LIv G m' A' → WP G (d + 100) (0, 0) μL_law 18 [.ref (gSa G), .ref (gB G), .ref (gB G + 293), .int (nI (i + 7))] [] m' Q) : WP G (d + 100) (0, 0) μL_law 1744 [.ref (gSa G), .ref (gB G), .ref (gB G + 293), .int (nI i)] [] m Q := by
  have fin : ∀ v : Int32, WP G (d + 100) (0, 0) μL_law 1762 [.ref (gSa G), .ref (gB G), .ref (gB G + 293), .int (nI i)] [.int v, .int v] m Q := fun v => bL_55c hL.1 hi hl (fun _ => next m A hL) (fun z => absurd rfl z)
  refine bL_55a hL.1 hi hl ?_
  rcases inr_cases (gSx G (i + 1)) 2 (by omega) with ⟨j, hj, e⟩ | e | ⟨e, e'⟩
  · rcases (show j = 0 ∨ j = 1 by omega) with z | z
    · subst z
      rw [e]
      refine eC_sv0 (d := d + 94) hL.1 ?_
      refine C_copy (d := d + 95) hL.1 (isC3 G) (isC1 G) (by omega) hL.2.1.1 hL.iv (fun m1 hO hC => ?_)
      have hF1 := hO.full hL.1
      refine bC_sv0 (d := d + 94) hF1 ?_
      have hF2 := Full_wai (gB G + 278) 0 1 hF1
      refine bL_55b hF2 hi hl ?_
      rw [e]
      refine eM_sv0 (d := d + 96) hF2 ?_
      have hO3 : Out (QA G 0) (wai m1 (gB G + 278) 0 1) m := (hO.mono (fun a ha => Or.inr ha)).wai (Or.inl rfl)
      generalize hm2 : wai m1 (gB G + 278) 0 1 = m2 at *
      have x4 : ai m2 (gB G + 294) = ai m (gB G + 294) := by funext k; exact hO3.ai (by unfold QA CA; omega) k
      have x6 : ai m2 (gB G + 296) = ai m (gB G + 296) := by funext k; exact hO3.ai (by unfold QA CA; omega) k
      have x0 : ai m2 (gB G + 300) = ai m (gB G + 300) := by funext k; exact hO3.ai (by unfold QA CA; omega) k
      have x7 : al m2 (gB G + 297) = al m (gB G + 297) := by funext k; exact hO3.al (by unfold QA CA; omega) k
      have x9 : al m2 (gB G + 299) = al m (gB G + 299) := by funext k; exact hO3.al (by unfold QA CA; omega) k
      refine loopN (n := 1486) (P := fun j m3 => Full G m3 ∧ Out (QB G) m3 m2 ∧ ai m3 (gB G + 296) = va_cpy (ai m (gB G + 294)) (ai m (gB G + 296)) 0 0 j ∧ al m3 (gB G + 299) = al m (gB G + 299) ∧ ai m3 (gB G + 300) = ai m (gB G + 300)) (W := fun j m3 => WP G (d + 99) (0, 0) μX11_save 13 [.ref (gB G + 293), .int (0 : Int32), .int (nI j)] [] m3 (fun r' m' => WP G (d + 100) (0, 0) μL_law 1762 [.ref (gSa G), .ref (gB G), .ref (gB G + 293), .int (nI i)] (r'.toList ++ [.int (1 : Int32)]) m' Q)) ?_ 0 (by omega) m2 ⟨hF2, Out.rf, x6.trans cpy_z.symm, x9, x0⟩
      intro j m3 hj ⟨hF3, hO4, y6, y9, y0⟩ ih
      have y4 : ai m3 (gB G + 294) = ai m (gB G + 294) := by rw [← x4]; funext k; exact hO4.ai (by unfold QB; omega) k
      refine bM_sv0 (d := d + 96) hF3 hj (fun z => ?_) (fun z => ?_)
      · have ej : j = 1486 := by omega
        subst ej
        refine loopN (n := 3) (P := fun j m4 => Full G m4 ∧ Out (QB G) m4 m2 ∧ ai m4 (gB G + 296) = va_cpy (ai m (gB G + 294)) (ai m (gB G + 296)) 0 0 1486 ∧ al m4 (gB G + 299) = va_cpy (al m (gB G + 297)) (al m (gB G + 299)) 0 0 j ∧ ai m4 (gB G + 300) = ai m (gB G + 300)) (W := fun j m4 => WP G (d + 99) (0, 0) μX11_save 46 [.ref (gB G + 293), .int (0 : Int32), .int (nI j)] [] m4 (fun r' m' => WP G (d + 100) (0, 0) μL_law 1762 [.ref (gSa G), .ref (gB G), .ref (gB G + 293), .int (nI i)] (r'.toList ++ [.int (1 : Int32)]) m' Q)) ?_ 0 (by omega) m3 ⟨hF3, hO4, y6, y9.trans cpy_z.symm, y0⟩
        intro w m4 hw ⟨hF4, hO5, w6, w9, w0⟩ ih2
        have y7 : al m4 (gB G + 297) = al m (gB G + 297) := by rw [← x7]; funext k; exact hO5.al (by unfold QB; omega) k
        refine cM_sv0 (d := d + 96) hF4 hw (fun z => ?_) (fun z => ?_)
        · have ej : w = 3 := by omega
          subst ej
          have hF5 := Full_wai (gB G + 300) 0 1 hF4
          subst hm2
          have hLn := LIv_sv (q := 0) hL (by omega) hF5 hO hC (hO5.wai (Or.inr (Or.inr rfl))) ((by funext k; exact ai_na (by omega) : ai (wai m4 (gB G + 300) 0 1) (gB G + 296) = ai m4 (gB G + 296)).trans w6) w9 (ai_wai_upd.trans (by rw [w0]))
          exact bL_55c hF5 hi hl (fun _ => next _ _ hLn) (fun z => absurd rfl z)
        · exact ih2 z _ ⟨Full_wal _ _ _ hF4, hO5.wal (Or.inr (Or.inl rfl)), w6, al_wal_upd.trans (by rw [w9]; exact cpy_ul (by omega) (by rw [y7, Nat.zero_add])), w0⟩
      · exact ih z _ ⟨Full_wai _ _ _ hF3, hO4.wai (Or.inl rfl), ai_wai_upd.trans (by rw [y6]; exact cpy_u (by omega) (by rw [y4, Nat.zero_add])), y9, (by funext k; exact ai_na (by omega) : ai (wai m3 (gB G + 296) (j) _) (gB G + 300) = ai m3 (gB G + 300)).trans y0⟩
    · subst z
      rw [e]
      refine eC_sv1 (d := d + 94) hL.1 ?_
      refine C_copy (d := d + 95) hL.1 (isC4 G) (isC1 G) (by omega) hL.2.1.1 hL.iv (fun m1 hO hC => ?_)
      have hF1 := hO.full hL.1
      refine bC_sv1 (d := d + 94) hF1 ?_
      have hF2 := Full_wai (gB G + 278) 1 1 hF1
      refine bL_55b hF2 hi hl ?_
      rw [e]
      refine eM_sv1 (d := d + 96) hF2 ?_
      have hO3 : Out (QA G 1) (wai m1 (gB G + 278) 1 1) m := (hO.mono (fun a ha => Or.inr ha)).wai (Or.inl rfl)
      generalize hm2 : wai m1 (gB G + 278) 1 1 = m2 at *
      have x4 : ai m2 (gB G + 294) = ai m (gB G + 294) := by funext k; exact hO3.ai (by unfold QA CA; omega) k
      have x6 : ai m2 (gB G + 296) = ai m (gB G + 296) := by funext k; exact hO3.ai (by unfold QA CA; omega) k
      have x0 : ai m2 (gB G + 300) = ai m (gB G + 300) := by funext k; exact hO3.ai (by unfold QA CA; omega) k
      have x7 : al m2 (gB G + 297) = al m (gB G + 297) := by funext k; exact hO3.al (by unfold QA CA; omega) k
      have x9 : al m2 (gB G + 299) = al m (gB G + 299) := by funext k; exact hO3.al (by unfold QA CA; omega) k
      refine loopN (n := 1486) (P := fun j m3 => Full G m3 ∧ Out (QB G) m3 m2 ∧ ai m3 (gB G + 296) = va_cpy (ai m (gB G + 294)) (ai m (gB G + 296)) 0 1486 j ∧ al m3 (gB G + 299) = al m (gB G + 299) ∧ ai m3 (gB G + 300) = ai m (gB G + 300)) (W := fun j m3 => WP G (d + 99) (0, 0) μX11_save 13 [.ref (gB G + 293), .int (1 : Int32), .int (nI j)] [] m3 (fun r' m' => WP G (d + 100) (0, 0) μL_law 1762 [.ref (gSa G), .ref (gB G), .ref (gB G + 293), .int (nI i)] (r'.toList ++ [.int (1 : Int32)]) m' Q)) ?_ 0 (by omega) m2 ⟨hF2, Out.rf, x6.trans cpy_z.symm, x9, x0⟩
      intro j m3 hj ⟨hF3, hO4, y6, y9, y0⟩ ih
      have y4 : ai m3 (gB G + 294) = ai m (gB G + 294) := by rw [← x4]; funext k; exact hO4.ai (by unfold QB; omega) k
      refine bM_sv1 (d := d + 96) hF3 hj (fun z => ?_) (fun z => ?_)
      · have ej : j = 1486 := by omega
        subst ej
        refine loopN (n := 3) (P := fun j m4 => Full G m4 ∧ Out (QB G) m4 m2 ∧ ai m4 (gB G + 296) = va_cpy (ai m (gB G + 294)) (ai m (gB G + 296)) 0 1486 1486 ∧ al m4 (gB G + 299) = va_cpy (al m (gB G + 297)) (al m (gB G + 299)) 0 3 j ∧ ai m4 (gB G + 300) = ai m (gB G + 300)) (W := fun j m4 => WP G (d + 99) (0, 0) μX11_save 46 [.ref (gB G + 293), .int (1 : Int32), .int (nI j)] [] m4 (fun r' m' => WP G (d + 100) (0, 0) μL_law 1762 [.ref (gSa G), .ref (gB G), .ref (gB G + 293), .int (nI i)] (r'.toList ++ [.int (1 : Int32)]) m' Q)) ?_ 0 (by omega) m3 ⟨hF3, hO4, y6, y9.trans cpy_z.symm, y0⟩
        intro w m4 hw ⟨hF4, hO5, w6, w9, w0⟩ ih2
        have y7 : al m4 (gB G + 297) = al m (gB G + 297) := by rw [← x7]; funext k; exact hO5.al (by unfold QB; omega) k
        refine cM_sv1 (d := d + 96) hF4 hw (fun z => ?_) (fun z => ?_)
        · have ej : w = 3 := by omega
          subst ej
          have hF5 := Full_wai (gB G + 300) 1 1 hF4
          subst hm2
          have hLn := LIv_sv (q := 1) hL (by omega) hF5 hO hC (hO5.wai (Or.inr (Or.inr rfl))) ((by funext k; exact ai_na (by omega) : ai (wai m4 (gB G + 300) 1 1) (gB G + 296) = ai m4 (gB G + 296)).trans w6) w9 (ai_wai_upd.trans (by rw [w0]))
          exact bL_55c hF5 hi hl (fun _ => next _ _ hLn) (fun z => absurd rfl z)
        · exact ih2 z _ ⟨Full_wal _ _ _ hF4, hO5.wal (Or.inr (Or.inl rfl)), w6, al_wal_upd.trans (by rw [w9]; exact cpy_ul (by omega) (by rw [y7, Nat.zero_add])), w0⟩
      · exact ih z _ ⟨Full_wai _ _ _ hF3, hO4.wai (Or.inl rfl), ai_wai_upd.trans (by rw [y6]; exact cpy_u (by omega) (by rw [y4, Nat.zero_add])), y9, (by funext k; exact ai_na (by omega) : ai (wai m3 (gB G + 296) (j + 1486) _) (gB G + 300) = ai m3 (gB G + 300)).trans y0⟩
  · exact aC_save hL.1 e (bL_55b hL.1 hi hl (aM_save hL.1 e (fin _)))
  · have g : (1 : Int32) < gSx G (i + 1) := sub_lt1 (n := 1) (by omega) e e'
    exact bC_save hL.1 e g (bL_55b hL.1 hi hl (bM_save hL.1 e g (fin _)))

theorem K_56 {G : Cx} {d i : Nat} {m : Mm} {A : Ab} {Q : Option Value → Mm → Prop} (hL : LIv G m A) (hi : i + 7 ≤ gSl G) (hl : gSl G < 4000) (next : ∀ m' A', LIv G m' A' → WP G (d + 100) (0, 0) μL_law 18 [.ref (gSa G), .ref (gB G), .ref (gB G + 293), .int (nI (i + 7))] [] m' Q) : WP G (d + 100) (0, 0) μL_law 1767 [.ref (gSa G), .ref (gB G), .ref (gB G + 293), .int (nI i)] [] m Q := by
  have fin : ∀ v : Int32, WP G (d + 100) (0, 0) μL_law 1785 [.ref (gSa G), .ref (gB G), .ref (gB G + 293), .int (nI i)] [.int v, .int v] m Q := fun v => bL_56c hL.1 hi hl (fun _ => next m A hL) (fun z => absurd rfl z)
  refine bL_56a hL.1 hi hl ?_
  rcases inr_cases (gSx G (i + 1)) 2 (by omega) with ⟨j, hj, e⟩ | e | ⟨e, e'⟩
  · rcases (show j = 0 ∨ j = 1 by omega) with z | z
    · subst z
      rw [e]
      obtain ⟨f1, g1⟩ := hL.2.1.2.1 0 (by omega)
      obtain ⟨f2, g2⟩ := hL.2.2.1.2.2.1 0 (by omega)
      cases hv : aV A 0 with
      | none =>
        rw [hv] at f1 f2
        refine eC_rs00 (d := d + 94) hL.1 f1 ?_
        refine bL_56b hL.1 hi hl ?_
        rw [e]
        exact eM_rs00 (d := d + 96) hL.1 f2 (fin _)
      | some s =>
        have hGs : GdS s := hL.2.2.2.2.1 0 s (by omega) hv
        obtain ⟨g2a, g2b⟩ := g2 s hv
        have g1' : CRx m (gB G + 140) s := g1 s hv
        rw [hv] at f1 f2
        refine eC_rs01 (d := d + 94) hL.1 f1 ?_
        refine C_copy (d := d + 95) hL.1 (isC1 G) (isC3 G) (by omega) g1' hGs.1 (fun m1 hO hC => ?_)
        have hF1 := hO.full hL.1
        have hOt : Out (CT G) m1 m := hO.mono (fun a ha => CA_CT ha)
        refine bC_rs0 (d := d + 94) hF1 ?_
        refine bL_56b hF1 hi hl ?_
        rw [e]
        have f2' : ai m1 (gB G + 300) 0 = 1 := (hOt.ai (by unfold CT; omega) 0).trans f2
        refine eM_rs01 (d := d + 96) hF1 f2' ?_
        have hr := hL.2.2.1.cls (hOt.mono (fun a ha => CT_CC ha))
        have r1 := hr.MS hF1
        have b6 : ∀ k, ai m1 (gB G + 296) k = ai m (gB G + 296) k := fun k => hOt.ai (by unfold CT; omega) k
        have b9 : ∀ k, al m1 (gB G + 299) k = al m (gB G + 299) k := fun k => hOt.al (by unfold CT; omega) k
        refine loopN (n := 1486) (P := fun j m3 => MS G m1 m3 (va_cpy (ai m1 (gB G + 296)) (sS (aS A)) 0 0 j) (sE (aS A))) (W := fun j m3 => WP G (d + 99) (0, 0) μX11_restore 22 [.ref (gB G + 293), .int (0 : Int32), .int (nI j)] [] m3 (fun r' m' => WP G (d + 100) (0, 0) μL_law 1785 [.ref (gSa G), .ref (gB G), .ref (gB G + 293), .int (nI i)] (r'.toList ++ [.int (1 : Int32)]) m' Q)) ?_ 0 (by omega) m1 (by rw [cpy_z]; exact r1)
        intro j m3 hj h3 ih
        have y6 : ∀ k, ai m3 (gB G + 296) k = ai m1 (gB G + 296) k := fun k => h3.2.1.ai (by unfold SM; omega) k
        refine bM_rs0 (d := d + 96) h3.1 hj (fun z => ?_) (fun z => ?_)
        · have ej : j = 1486 := by omega
          subst ej
          refine loopN (n := 3) (P := fun j m4 => MS G m1 m4 (va_cpy (ai m1 (gB G + 296)) (sS (aS A)) 0 0 1486) (va_cpy (al m1 (gB G + 299)) (sE (aS A)) 0 0 j)) (W := fun j m4 => WP G (d + 99) (0, 0) μX11_restore 55 [.ref (gB G + 293), .int (0 : Int32), .int (nI j)] [] m4 (fun r' m' => WP G (d + 100) (0, 0) μL_law 1785 [.ref (gSa G), .ref (gB G), .ref (gB G + 293), .int (nI i)] (r'.toList ++ [.int (1 : Int32)]) m' Q)) ?_ 0 (by omega) m3 (by rw [cpy_z]; exact h3)
          intro w m4 hw h4 ih2
          have y9 : ∀ k, al m4 (gB G + 299) k = al m1 (gB G + 299) k := fun k => h4.2.1.al (by unfold SM; omega) k
          refine cM_rs0 (d := d + 96) h4.1 hw (fun z => ?_) (fun z => ?_)
          · have ej : w = 3 := by omega
            subst ej
            have eS : ∀ k, k < 1486 → va_cpy (ai m1 (gB G + 296)) (sS (aS A)) 0 0 1486 k = sS s k := fun k hk => by
              have := g2a k hk
              unfold va_cpy
              rw [if_pos (by omega), b6, Nat.sub_zero]
              exact this
            have eE : ∀ k, k < 3 → va_cpy (al m1 (gB G + 299)) (sE (aS A)) 0 0 3 k = sE s k := fun k hk => by
              have := g2b k hk
              unfold va_cpy
              rw [if_pos (by omega), b9, Nat.sub_zero]
              exact this
            have hC2 : CRx m1 (gB G + 1) ((va_cpy (ai m1 (gB G + 296)) (sS (aS A)) 0 0 1486, va_cpy (al m1 (gB G + 299)) (sE (aS A)) 0 0 3, s.2.2) : Sc) := CR.eqS hC hGs.1 eS eE
            have hG2 : GdS ((va_cpy (ai m1 (gB G + 296)) (sS (aS A)) 0 0 1486, va_cpy (al m1 (gB G + 299)) (sE (aS A)) 0 0 3, s.2.2) : Sc) := ⟨Iv.eqS hGs.1 eS, RulsM.eqS hGs.2 eS⟩
            exact bL_56c h4.1 hi hl (fun _ => next _ _ (LIv_new hL hOt hC2 h4 hG2)) (fun z => absurd rfl z)
          · refine ih2 z _ ?_
            have := h4.wen w (al m4 (gB G + 299) (w))
            rw [cpy_ul (by omega) (by rw [y9]; rw [Nat.zero_add])] at this
            exact this
        · refine ih z _ ?_
          have := h3.wst j (ai m3 (gB G + 296) (j))
          rw [cpy_u (by omega) (by rw [y6]; rw [Nat.zero_add])] at this
          exact this
    · subst z
      rw [e]
      obtain ⟨f1, g1⟩ := hL.2.1.2.1 1 (by omega)
      obtain ⟨f2, g2⟩ := hL.2.2.1.2.2.1 1 (by omega)
      cases hv : aV A 1 with
      | none =>
        rw [hv] at f1 f2
        refine eC_rs10 (d := d + 94) hL.1 f1 ?_
        refine bL_56b hL.1 hi hl ?_
        rw [e]
        exact eM_rs10 (d := d + 96) hL.1 f2 (fin _)
      | some s =>
        have hGs : GdS s := hL.2.2.2.2.1 1 s (by omega) hv
        obtain ⟨g2a, g2b⟩ := g2 s hv
        have g1' : CRx m (gB G + 209) s := g1 s hv
        rw [hv] at f1 f2
        refine eC_rs11 (d := d + 94) hL.1 f1 ?_
        refine C_copy (d := d + 95) hL.1 (isC1 G) (isC4 G) (by omega) g1' hGs.1 (fun m1 hO hC => ?_)
        have hF1 := hO.full hL.1
        have hOt : Out (CT G) m1 m := hO.mono (fun a ha => CA_CT ha)
        refine bC_rs1 (d := d + 94) hF1 ?_
        refine bL_56b hF1 hi hl ?_
        rw [e]
        have f2' : ai m1 (gB G + 300) 1 = 1 := (hOt.ai (by unfold CT; omega) 1).trans f2
        refine eM_rs11 (d := d + 96) hF1 f2' ?_
        have hr := hL.2.2.1.cls (hOt.mono (fun a ha => CT_CC ha))
        have r1 := hr.MS hF1
        have b6 : ∀ k, ai m1 (gB G + 296) k = ai m (gB G + 296) k := fun k => hOt.ai (by unfold CT; omega) k
        have b9 : ∀ k, al m1 (gB G + 299) k = al m (gB G + 299) k := fun k => hOt.al (by unfold CT; omega) k
        refine loopN (n := 1486) (P := fun j m3 => MS G m1 m3 (va_cpy (ai m1 (gB G + 296)) (sS (aS A)) 1486 0 j) (sE (aS A))) (W := fun j m3 => WP G (d + 99) (0, 0) μX11_restore 22 [.ref (gB G + 293), .int (1 : Int32), .int (nI j)] [] m3 (fun r' m' => WP G (d + 100) (0, 0) μL_law 1785 [.ref (gSa G), .ref (gB G), .ref (gB G + 293), .int (nI i)] (r'.toList ++ [.int (1 : Int32)]) m' Q)) ?_ 0 (by omega) m1 (by rw [cpy_z]; exact r1)
        intro j m3 hj h3 ih
        have y6 : ∀ k, ai m3 (gB G + 296) k = ai m1 (gB G + 296) k := fun k => h3.2.1.ai (by unfold SM; omega) k
        refine bM_rs1 (d := d + 96) h3.1 hj (fun z => ?_) (fun z => ?_)
        · have ej : j = 1486 := by omega
          subst ej
          refine loopN (n := 3) (P := fun j m4 => MS G m1 m4 (va_cpy (ai m1 (gB G + 296)) (sS (aS A)) 1486 0 1486) (va_cpy (al m1 (gB G + 299)) (sE (aS A)) 3 0 j)) (W := fun j m4 => WP G (d + 99) (0, 0) μX11_restore 55 [.ref (gB G + 293), .int (1 : Int32), .int (nI j)] [] m4 (fun r' m' => WP G (d + 100) (0, 0) μL_law 1785 [.ref (gSa G), .ref (gB G), .ref (gB G + 293), .int (nI i)] (r'.toList ++ [.int (1 : Int32)]) m' Q)) ?_ 0 (by omega) m3 (by rw [cpy_z]; exact h3)
          intro w m4 hw h4 ih2
          have y9 : ∀ k, al m4 (gB G + 299) k = al m1 (gB G + 299) k := fun k => h4.2.1.al (by unfold SM; omega) k
          refine cM_rs1 (d := d + 96) h4.1 hw (fun z => ?_) (fun z => ?_)
          · have ej : w = 3 := by omega
            subst ej
            have eS : ∀ k, k < 1486 → va_cpy (ai m1 (gB G + 296)) (sS (aS A)) 1486 0 1486 k = sS s k := fun k hk => by
              have := g2a k hk
              unfold va_cpy
              rw [if_pos (by omega), b6, Nat.sub_zero]
              exact this
            have eE : ∀ k, k < 3 → va_cpy (al m1 (gB G + 299)) (sE (aS A)) 3 0 3 k = sE s k := fun k hk => by
              have := g2b k hk
              unfold va_cpy
              rw [if_pos (by omega), b9, Nat.sub_zero]
              exact this
            have hC2 : CRx m1 (gB G + 1) ((va_cpy (ai m1 (gB G + 296)) (sS (aS A)) 1486 0 1486, va_cpy (al m1 (gB G + 299)) (sE (aS A)) 3 0 3, s.2.2) : Sc) := CR.eqS hC hGs.1 eS eE
            have hG2 : GdS ((va_cpy (ai m1 (gB G + 296)) (sS (aS A)) 1486 0 1486, va_cpy (al m1 (gB G + 299)) (sE (aS A)) 3 0 3, s.2.2) : Sc) := ⟨Iv.eqS hGs.1 eS, RulsM.eqS hGs.2 eS⟩
            exact bL_56c h4.1 hi hl (fun _ => next _ _ (LIv_new hL hOt hC2 h4 hG2)) (fun z => absurd rfl z)
          · refine ih2 z _ ?_
            have := h4.wen w (al m4 (gB G + 299) (w + 3))
            rw [cpy_ul (by omega) (by rw [y9]; rw [Nat.add_comm w 3])] at this
            exact this
        · refine ih z _ ?_
          have := h3.wst j (ai m3 (gB G + 296) (j + 1486))
          rw [cpy_u (by omega) (by rw [y6]; rw [Nat.add_comm j 1486])] at this
          exact this
  · exact aC_restore hL.1 e (bL_56b hL.1 hi hl (aM_restore hL.1 e (fin _)))
  · have g : (1 : Int32) < gSx G (i + 1) := sub_lt1 (n := 1) (by omega) e e'
    exact bC_restore hL.1 e g (bL_56b hL.1 hi hl (bM_restore hL.1 e g (fin _)))
