theorem mul_w {o w : Nat} (ho : o ≤ 20) (hw : w ≤ 200000) (h : ¬ (4000 : Int32) < nI o * nI w) : o * w ≤ 4000 := by
  have e1 : (nI o).toInt = (o : Int) := nI_toInt (by omega)
  have e2 : (nI w).toInt = (w : Int) := nI_toInt (by omega)
  have p : o * w ≤ 20 * 200000 := Nat.mul_le_mul ho hw
  rw [Int32.lt_iff_toInt_lt, Int32.toInt_mul, e1, e2, ← Int.natCast_mul, Int.bmod_eq_of_le (by omega) (by omega)] at h
  have e3 : (4000 : Int32).toInt = 4000 := by decide
  omega
theorem K_47 {G : Cx} {d i : Nat} {m : Mm} {A : Ab} {Q : Option Value → Mm → Prop} (hL : LIv G m A) (hi : i + 7 ≤ gSl G) (hl : gSl G < 4000) (next : ∀ m' A', LIv G m' A' → WP G (d + 100) (0, 0) μL_law 18 [.ref (gSa G), .ref (gB G), .ref (gB G + 293), .int (nI (i + 7))] [] m' Q) : WP G (d + 100) (0, 0) μL_law 1590 [.ref (gSa G), .ref (gB G), .ref (gB G + 293), .int (nI i)] [] m Q := by
  have fin : ∀ v : Int32, WP G (d + 100) (0, 0) μL_law 1618 [.ref (gSa G), .ref (gB G), .ref (gB G + 293), .int (nI i)] [.int v, .int v] m Q := fun v => bL_47c hL.1 hi hl (fun _ => next m A hL) (fun z => absurd rfl z)
  have hG := hL.gd
  have t13 : fi m 13 (gB G + 1) = sS (aS A) 1 := (hL.rd (k := 1) rfl rfl (by unfold VK; omega) (by unfold UD; omega)).trans (congrFun hL.st 1)
  have t500 : fi m 500 (gB G + 1 + 6) = sS (aS A) 2 := (hL.rd (k := 2) rfl rfl (by unfold VK; omega) (by unfold UD; omega)).trans (congrFun hL.st 2)
  have r1 := hL.iv.1.2.2.2.2.2.2.1.2.1
  have r2 := hL.iv.1.2.2.2.2.2.2.1.2.2.1
  have ra : rg (sS (aS A) 2 + sS (aS A) 1 - 1) 0 200000 := by
    have a1 := r1.1
    have a2 := r1.2
    have b1 := r2.1
    have b2 := r2.2
    have o : (1 : Int32).toInt = 1 := rfl
    unfold rg
    rw [Int32.toInt_sub, Int32.toInt_add, o, Int.bmod_eq_of_le (n := (sS (aS A) 2).toInt + (sS (aS A) 1).toInt) (by omega) (by omega), Int.bmod_eq_of_le (by omega) (by omega)]
    omega
  obtain ⟨w, hw, ew, ewc⟩ := steps_w ra r1
  have nz : ∀ {m1 : Mm}, ai m1 (gB G + 294) = sS (aS A) → ¬ ai m1 (gB G + 294) 1 = 0 := fun h z => by
    rw [h] at z
    have := r1.1
    rw [z] at this
    have z0 : (0 : Int32).toInt = 0 := rfl
    omega
  refine bL_47a hL.1 hi hl ?_
  have ec : Int64.toInt32 (quoF (Int32.toInt64 (((fi m 500 ((gB G + 1) + 6)) + (fi m 13 (gB G + 1))) - (1 : Int32))) (Int32.toInt64 (fi m 13 (gB G + 1)))) = nI w := by
    rw [t13, t500]
    exact ewc
  have em : ∀ {m1 : Mm}, ai m1 (gB G + 294) = sS (aS A) → (((ai m1 (gB G + 294) 2) + (ai m1 (gB G + 294) 1)) - (1 : Int32)) / (ai m1 (gB G + 294) 1) = nI w := fun h => by
    rw [h]
    exact ew
  refine eC_so (d := d + 91) hL.1 (fun c1 => ?_) (fun c1 c2 => ?_) (fun c1 c2 c3 => ?_) (fun c1 c2 c3 c4 => ?_) (fun c1 c2 c3 c4 c5 => ?_) (fun c1 c2 c3 c4 c5 => ?_)
  · exact bL_47b hL.1 hi hl (eM_so (d := d + 89) hL.1 (nz hL.st) (fun _ => fin _) (fun h => absurd c1 h) (fun h => absurd c1 h) (fun h => absurd c1 h) (fun h => absurd c1 h) (fun h => absurd c1 h))
  · exact bL_47b hL.1 hi hl (eM_so (d := d + 89) hL.1 (nz hL.st) (fun h => absurd h c1) (fun _ _ => fin _) (fun _ h => absurd c2 h) (fun _ h => absurd c2 h) (fun _ h => absurd c2 h) (fun _ h => absurd c2 h))
  · exact bL_47b hL.1 hi hl (eM_so (d := d + 89) hL.1 (nz hL.st) (fun h => absurd h c1) (fun _ h => absurd h c2) (fun _ _ _ => fin _) (fun _ _ h => absurd c3 h) (fun _ _ h => absurd c3 h) (fun _ _ h => absurd c3 h))
  · exact bL_47b hL.1 hi hl (eM_so (d := d + 89) hL.1 (nz hL.st) (fun h => absurd h c1) (fun _ h => absurd h c2) (fun _ _ h => absurd h c3) (fun _ _ _ _ => fin _) (fun _ _ _ h => absurd c4 h) (fun _ _ _ h => absurd c4 h))
  · obtain ⟨o, ho, eo⟩ := st_in (b := 20) (by omega) (by decide) c3 c4
    rw [ec, eo] at c5
    have how := mul_w ho hw c5
    have o1 : 1 ≤ o := by
      rcases Nat.eq_zero_or_pos o with z | z
      · subst z
        rw [eo] at c3
        exact absurd (by decide) c3
      · exact z
    have hw4 : w ≤ 4000 := Nat.le_trans (Nat.le_mul_of_pos_left w o1) how
    rw [Nat.mul_comm] at how
    rw [ec, eo]
    refine C_trial (d := d + 95) hL.1 hL.2.1.1 hG (fun m1 hF1 hO1 hC1 => ?_)
    refine cC_so hF1 ?_
    refine C_so (d := d + 91) hF1 hC1 hG (by omega) ho hw4 how (fun m2 hF2 hO2 => ?_)
    have hO := hO2.tr hO1
    refine bL_47b hF2 hi hl ?_
    have r1 := (hL.2.2.1.cls (hO.mono (fun a ha => CT_CC (CA_CT2 ha)))).MS hF2
    have st2 := r1.2.2.1
    refine eM_so (d := d + 89) hF2 (nz st2) (fun h => absurd h c1) (fun _ h => absurd h c2) (fun _ _ h => absurd h c3) (fun _ _ _ h => absurd h c4) (fun _ _ _ _ _ => ?_) (fun _ _ _ _ h => ?_)
    · rw [em st2, eo]
      refine M_ks (s := aS A) r1 (fun m3 h3 => ?_)
      refine cM_so h3.1 ?_
      refine M_so (d := d + 89) h3 hG (by omega) ho hw4 how (fun m5 h5 => ?_)
      exact bL_47c h5.1 hi hl (fun _ => next _ _ (LIv_trial hL hO h5)) (fun z => absurd rfl z)
    · rw [em st2, eo] at h
      exact absurd h c5
  · rw [ec] at c5
    exact bL_47b hL.1 hi hl (eM_so (d := d + 89) hL.1 (nz hL.st) (fun h => absurd h c1) (fun _ h => absurd h c2) (fun _ _ h => absurd h c3) (fun _ _ _ h => absurd h c4) (fun _ _ _ _ h => absurd (by rw [em hL.st]; exact c5) h) (fun _ _ _ _ _ => fin _))
