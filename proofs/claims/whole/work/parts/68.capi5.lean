theorem eC_so {G : Cx} {d : Nat} {m : Mm} {Q : Option Value → Mm → Prop} {x y : Int32} (hF : Full G m) 
    (e1 : x < (0 : Int32) → Q (some (.int (-1000000002 : Int32))) m)
    (e2 : ¬ x < (0 : Int32) → (100000 : Int32) < x → Q (some (.int (-1000000002 : Int32))) m)
    (e3 : ¬ x < (0 : Int32) → ¬ (100000 : Int32) < x → y < (1 : Int32) → Q (some (.int (-1000000002 : Int32))) m)
    (e4 : ¬ x < (0 : Int32) → ¬ (100000 : Int32) < x → ¬ y < (1 : Int32) → (20 : Int32) < y → Q (some (.int (-1000000002 : Int32))) m)
    (e5 : ¬ x < (0 : Int32) → ¬ (100000 : Int32) < x → ¬ y < (1 : Int32) → ¬ (20 : Int32) < y → ¬ (4000 : Int32) < (y * (Int64.toInt32 (quoF (Int32.toInt64 (((fi m 500 ((gB G + 1) + 6)) + (fi m 13 (gB G + 1))) - (1 : Int32))) (Int32.toInt64 (fi m 13 (gB G + 1)))))) → WPM G (d + 7) (0, 0) μX0_copyFrom [.ref (gB G + 70), .ref (gB G + 1)] m (fun r' m' => WP G (d + 8) (0, 0) μX10_settlingOrbit 51 [.ref (gB G), .int x, .int y, .int (Int64.toInt32 (quoF (Int32.toInt64 (((fi m 500 ((gB G + 1) + 6)) + (fi m 13 (gB G + 1))) - (1 : Int32))) (Int32.toInt64 (fi m 13 (gB G + 1))))), lvU, lvU] (r'.toList ++ []) m' Q))
    (e6 : ¬ x < (0 : Int32) → ¬ (100000 : Int32) < x → ¬ y < (1 : Int32) → ¬ (20 : Int32) < y → (4000 : Int32) < (y * (Int64.toInt32 (quoF (Int32.toInt64 (((fi m 500 ((gB G + 1) + 6)) + (fi m 13 (gB G + 1))) - (1 : Int32))) (Int32.toInt64 (fi m 13 (gB G + 1)))))) → Q (some (.int (-1000000002 : Int32))) m) :
    WPM G (d + 8) (0, 0) μX10_settlingOrbit [.ref (gB G), .int x, .int y] m Q := by
  refine WPM.of pX10 (Nat.le_of_ble_eq_true rfl) rfl ?_
  refine wp_aload_n dX10_settlingOrbit_0 rfl ?_
  refine wp_getr (gB G + 1) dX10_settlingOrbit_1 fX10_10 (ka0 hF) (hF.2 _ _) (rra 1 (isK_le (ka0 hF)) (fun _ => rfl)) ?_
  refine wp_callV (As := []) (S := []) (b' := (0, 0)) (b := (0, 0)) dX10_settlingOrbit_4 MX10_273 (kc0 hF (isC1 G)) rfl rfl rfl rfl (Nat.le_of_ble_eq_true rfl) ?_
  refine WPM.of pX0 (Nat.le_of_ble_eq_true rfl) rfl ?_
  refine wp_aload_n dX0_stepsOfOrbit_0 rfl ?_
  refine wp_getr ((gB G + 1) + 6) dX0_stepsOfOrbit_1 fX0_42 (kc0 hF (isC1 G)) (hF.2 _ _) (rra 6 (isK_le (kc0 hF (isC1 G))) (fun _ => rfl)) ?_
  refine wp_geti (fi m 500 ((gB G + 1) + 6)) dX0_stepsOfOrbit_4 fX0_135 (Or.inl rfl) (kc hF (isC1 G) 6 (by decide)) rfl ?_
  refine wp_aload_n dX0_stepsOfOrbit_7 rfl ?_
  refine wp_geti (fi m 13 (gB G + 1)) dX0_stepsOfOrbit_8 fX0_67 (Or.inl rfl) (kc0 hF (isC1 G)) rfl ?_
  refine wp_iaddv ((fi m 500 ((gB G + 1) + 6)) + (fi m 13 (gB G + 1))) dX0_stepsOfOrbit_11 rfl ?_
  refine wp_iconst (1 : Int32) dX0_stepsOfOrbit_12 (by decide) ?_
  refine wp_isubv (((fi m 500 ((gB G + 1) + 6)) + (fi m 13 (gB G + 1))) - (1 : Int32)) dX0_stepsOfOrbit_13 rfl ?_
  refine wp_i2l dX0_stepsOfOrbit_14 ?_
  refine wp_aload_n dX0_stepsOfOrbit_15 rfl ?_
  refine wp_geti (fi m 13 (gB G + 1)) dX0_stepsOfOrbit_16 fX0_67 (Or.inl rfl) (kc0 hF (isC1 G)) rfl ?_
  refine wp_i2l dX0_stepsOfOrbit_19 ?_
  refine wp_quoFN dX0_stepsOfOrbit_20 MX0_148 (Nat.le_of_ble_eq_true rfl) ?_
  refine wp_l2i dX0_stepsOfOrbit_23 ?_
  refine wp_iret dX0_stepsOfOrbit_24 rfl ?_
  show WP G (d + 8) (0, 0) μX10_settlingOrbit 7 [.ref (gB G), .int x, .int y, lvU, lvU, lvU] [.int (Int64.toInt32 (quoF (Int32.toInt64 (((fi m 500 ((gB G + 1) + 6)) + (fi m 13 (gB G + 1))) - (1 : Int32))) (Int32.toInt64 (fi m 13 (gB G + 1)))))] m _
  refine wp_istore_n dX10_settlingOrbit_7 (by decide) rfl ?_
  refine wp_iload_n dX10_settlingOrbit_8 rfl ?_
  refine wp_iconst (0 : Int32) dX10_settlingOrbit_9 (by decide) ?_
  refine wp_ldc dX10_settlingOrbit_10 kX10_34 ?_
  refine wp_callS (As := [.int x, .int (0 : Int32), .int (100000 : Int32)]) (S := []) (b' := (0, 0)) (b := (0, 0)) dX10_settlingOrbit_12 MX10_35 rfl rfl (Nat.le_of_ble_eq_true rfl) ?_
  refine WPM.of pX10 (Nat.le_of_ble_eq_true rfl) rfl ?_
  refine wp_iload_n dX10_within_0 rfl ?_
  refine wp_iload_n dX10_within_1 rfl ?_
  refine wp_icmp_lt 14 dX10_within_2 (by decide) (fun q1 => ?_) (fun q2 => ?_)
  · skip
    refine wp_iconst (0 : Int32) dX10_within_14 (by decide) ?_
    refine wp_zret dX10_within_15 rfl rfl ?_
    show WP G (d + 8) (0, 0) μX10_settlingOrbit 15 [.ref (gB G), .int x, .int y, .int (Int64.toInt32 (quoF (Int32.toInt64 (((fi m 500 ((gB G + 1) + 6)) + (fi m 13 (gB G + 1))) - (1 : Int32))) (Int32.toInt64 (fi m 13 (gB G + 1))))), lvU, lvU] [.int (0 : Int32)] m _
    refine wp_if_eq 37 dX10_settlingOrbit_15 (by decide) (fun _ => ?_) (fun q => absurd (by decide) q)
    refine wp_ldc dX10_settlingOrbit_37 kX10_42 ?_
    exact wp_iret dX10_settlingOrbit_39 rfl (e1 q1)
  · skip
    refine wp_iload_n dX10_within_5 rfl ?_
    refine wp_iload_n dX10_within_6 rfl ?_
    refine wp_icmp_gt 14 dX10_within_7 (by decide) (fun q3 => ?_) (fun q4 => ?_)
    · skip
      refine wp_iconst (0 : Int32) dX10_within_14 (by decide) ?_
      refine wp_zret dX10_within_15 rfl rfl ?_
      show WP G (d + 8) (0, 0) μX10_settlingOrbit 15 [.ref (gB G), .int x, .int y, .int (Int64.toInt32 (quoF (Int32.toInt64 (((fi m 500 ((gB G + 1) + 6)) + (fi m 13 (gB G + 1))) - (1 : Int32))) (Int32.toInt64 (fi m 13 (gB G + 1))))), lvU, lvU] [.int (0 : Int32)] m _
      refine wp_if_eq 37 dX10_settlingOrbit_15 (by decide) (fun _ => ?_) (fun q => absurd (by decide) q)
      refine wp_ldc dX10_settlingOrbit_37 kX10_42 ?_
      exact wp_iret dX10_settlingOrbit_39 rfl (e2 q2 q3)
    · skip
      refine wp_iconst (1 : Int32) dX10_within_10 (by decide) ?_
      refine wp_goto 15 dX10_within_11 (by decide) ?_
      refine wp_zret dX10_within_15 rfl rfl ?_
      show WP G (d + 8) (0, 0) μX10_settlingOrbit 15 [.ref (gB G), .int x, .int y, .int (Int64.toInt32 (quoF (Int32.toInt64 (((fi m 500 ((gB G + 1) + 6)) + (fi m 13 (gB G + 1))) - (1 : Int32))) (Int32.toInt64 (fi m 13 (gB G + 1))))), lvU, lvU] [.int (1 : Int32)] m _
      refine wp_if_eq 37 dX10_settlingOrbit_15 (by decide) (fun q => absurd q (by decide)) (fun _ => ?_)
      refine wp_iload_n dX10_settlingOrbit_18 rfl ?_
      refine wp_iconst (1 : Int32) dX10_settlingOrbit_19 (by decide) ?_
      refine wp_bipush (20 : Int32) dX10_settlingOrbit_20 (by decide) ?_
      refine wp_callS (As := [.int y, .int (1 : Int32), .int (20 : Int32)]) (S := []) (b' := (0, 0)) (b := (0, 0)) dX10_settlingOrbit_22 MX10_35 rfl rfl (Nat.le_of_ble_eq_true rfl) ?_
      refine WPM.of pX10 (Nat.le_of_ble_eq_true rfl) rfl ?_
      refine wp_iload_n dX10_within_0 rfl ?_
      refine wp_iload_n dX10_within_1 rfl ?_
      refine wp_icmp_lt 14 dX10_within_2 (by decide) (fun q5 => ?_) (fun q6 => ?_)
      · skip
        refine wp_iconst (0 : Int32) dX10_within_14 (by decide) ?_
        refine wp_zret dX10_within_15 rfl rfl ?_
        show WP G (d + 8) (0, 0) μX10_settlingOrbit 25 [.ref (gB G), .int x, .int y, .int (Int64.toInt32 (quoF (Int32.toInt64 (((fi m 500 ((gB G + 1) + 6)) + (fi m 13 (gB G + 1))) - (1 : Int32))) (Int32.toInt64 (fi m 13 (gB G + 1))))), lvU, lvU] [.int (0 : Int32)] m _
        refine wp_if_eq 37 dX10_settlingOrbit_25 (by decide) (fun _ => ?_) (fun q => absurd (by decide) q)
        refine wp_ldc dX10_settlingOrbit_37 kX10_42 ?_
        exact wp_iret dX10_settlingOrbit_39 rfl (e3 q2 q4 q5)
      · skip
        refine wp_iload_n dX10_within_5 rfl ?_
        refine wp_iload_n dX10_within_6 rfl ?_
        refine wp_icmp_gt 14 dX10_within_7 (by decide) (fun q7 => ?_) (fun q8 => ?_)
        · skip
          refine wp_iconst (0 : Int32) dX10_within_14 (by decide) ?_
          refine wp_zret dX10_within_15 rfl rfl ?_
          show WP G (d + 8) (0, 0) μX10_settlingOrbit 25 [.ref (gB G), .int x, .int y, .int (Int64.toInt32 (quoF (Int32.toInt64 (((fi m 500 ((gB G + 1) + 6)) + (fi m 13 (gB G + 1))) - (1 : Int32))) (Int32.toInt64 (fi m 13 (gB G + 1))))), lvU, lvU] [.int (0 : Int32)] m _
          refine wp_if_eq 37 dX10_settlingOrbit_25 (by decide) (fun _ => ?_) (fun q => absurd (by decide) q)
          refine wp_ldc dX10_settlingOrbit_37 kX10_42 ?_
          exact wp_iret dX10_settlingOrbit_39 rfl (e4 q2 q4 q6 q7)
        · skip
          refine wp_iconst (1 : Int32) dX10_within_10 (by decide) ?_
          refine wp_goto 15 dX10_within_11 (by decide) ?_
          refine wp_zret dX10_within_15 rfl rfl ?_
          show WP G (d + 8) (0, 0) μX10_settlingOrbit 25 [.ref (gB G), .int x, .int y, .int (Int64.toInt32 (quoF (Int32.toInt64 (((fi m 500 ((gB G + 1) + 6)) + (fi m 13 (gB G + 1))) - (1 : Int32))) (Int32.toInt64 (fi m 13 (gB G + 1))))), lvU, lvU] [.int (1 : Int32)] m _
          refine wp_if_eq 37 dX10_settlingOrbit_25 (by decide) (fun q => absurd q (by decide)) (fun _ => ?_)
          refine wp_iload_n dX10_settlingOrbit_28 rfl ?_
          refine wp_iload_n dX10_settlingOrbit_29 rfl ?_
          refine wp_imulv (y * (Int64.toInt32 (quoF (Int32.toInt64 (((fi m 500 ((gB G + 1) + 6)) + (fi m 13 (gB G + 1))) - (1 : Int32))) (Int32.toInt64 (fi m 13 (gB G + 1)))))) dX10_settlingOrbit_30 rfl ?_
          refine wp_sipush (4000 : Int32) dX10_settlingOrbit_31 (by decide) ?_
          refine wp_icmp_le 40 dX10_settlingOrbit_34 (by decide) (fun q9 => ?_) (fun q10 => ?_)
          · skip
            refine wp_aload_n dX10_settlingOrbit_40 rfl ?_
            refine wp_getr (gB G + 70) dX10_settlingOrbit_41 fX10_16 (ka0 hF) (hF.2 _ _) (rra 70 (isK_le (ka0 hF)) (fun _ => rfl)) ?_
            refine wp_aload_n dX10_settlingOrbit_44 rfl ?_
            refine wp_getr (gB G + 1) dX10_settlingOrbit_45 fX10_10 (ka0 hF) (hF.2 _ _) (rra 1 (isK_le (ka0 hF)) (fun _ => rfl)) ?_
            refine wp_callV (As := [.ref (gB G + 1)]) (S := []) (b' := (0, 0)) (b := (0, 0)) dX10_settlingOrbit_48 MX10_254 (kc0 hF (isC2 G)) rfl rfl rfl rfl (Nat.le_of_ble_eq_true rfl) ?_
            exact e5 q2 q4 q6 q8 q9
          · skip
            refine wp_ldc dX10_settlingOrbit_37 kX10_42 ?_
            exact wp_iret dX10_settlingOrbit_39 rfl (e6 q2 q4 q6 q8 q10)

theorem cC_so {G : Cx} {d : Nat} {m : Mm} {Q : Option Value → Mm → Prop} {l1 : Int32} {l2 : Int32} {l3 : Int32} (hF : Full G m) 
    (e1 : WP G (d + 8) (0, 0) μX10_settlingOrbit 54 [.ref (gB G), .int l1, .int l2, .int l3, .int (1 : Int32), lvU] [] m Q) :
    WP G (d + 8) (0, 0) μX10_settlingOrbit 51 [.ref (gB G), .int l1, .int l2, .int l3, lvU, lvU] [] m Q := by
  refine wp_iconst (1 : Int32) dX10_settlingOrbit_51 (by decide) ?_
  refine wp_istore dX10_settlingOrbit_52 (by decide) rfl ?_
  refine wp_forget [.ref (gB G), .int l1, .int l2, .int l3, .int (1 : Int32), lvU] ⟨Or.inl rfl, Or.inl rfl, Or.inl rfl, Or.inl rfl, Or.inl rfl, Or.inr rfl, trivial⟩ ?_
  exact e1

theorem bC_so {G : Cx} {d : Nat} {m : Mm} {Q : Option Value → Mm → Prop} {x : Int32} {o w j : Nat} (hF : Full G m) (ho : o ≤ 20) (hw : w ≤ 4000) (hj : j ≤ o + 1)
    (e1 : o < j → Q (some (.int (-1 : Int32))) m)
    (e2 : ¬ o < j → WPM G (d + 7) (0, 0) μX0_rememberTemperatures [.ref (gB G + 70)] m (fun r' m' => WP G (d + 8) (0, 0) μX10_settlingOrbit 67 [.ref (gB G), .int x, .int (nI o), .int (nI w), .int (nI j), lvU] (r'.toList ++ []) m' Q)) :
    WP G (d + 8) (0, 0) μX10_settlingOrbit 54 [.ref (gB G), .int x, .int (nI o), .int (nI w), .int (nI j), lvU] [] m Q := by
  refine wp_iload dX10_settlingOrbit_54 rfl ?_
  refine wp_iload_n dX10_settlingOrbit_56 rfl ?_
  refine wp_icmp_gt 110 dX10_settlingOrbit_57 (by decide) (fun q1 => ?_) (fun q2 => ?_)
  · have hp3 : o < j := (nlt q1 (by omega) (by omega))
    refine wp_iconst (-1 : Int32) dX10_settlingOrbit_110 (by decide) ?_
    exact wp_iret dX10_settlingOrbit_111 rfl (e1 hp3)
  · have hp4 : ¬ o < j := (fun z => q2 (nlt_ (b := j) z (by omega)))
    refine wp_aload_n dX10_settlingOrbit_60 rfl ?_
    refine wp_getr (gB G + 70) dX10_settlingOrbit_61 fX10_16 (ka0 hF) (hF.2 _ _) (rra 70 (isK_le (ka0 hF)) (fun _ => rfl)) ?_
    refine wp_callV (As := []) (S := []) (b' := (0, 0)) (b := (0, 0)) dX10_settlingOrbit_64 MX10_276 (kc0 hF (isC2 G)) rfl rfl rfl rfl (Nat.le_of_ble_eq_true rfl) ?_
    exact e2 hp4

theorem dC_so {G : Cx} {d : Nat} {m : Mm} {Q : Option Value → Mm → Prop} {o w j : Nat} {l1 : Int32} (hF : Full G m) (ho : o ≤ 20) (hw : w ≤ 4000) (hj : j < o + 1)
    (e1 : WP G (d + 8) (0, 0) μX10_settlingOrbit 70 [.ref (gB G), .int l1, .int (nI o), .int (nI w), .int (nI j), .int (0 : Int32)] [] m Q) :
    WP G (d + 8) (0, 0) μX10_settlingOrbit 67 [.ref (gB G), .int l1, .int (nI o), .int (nI w), .int (nI j), lvU] [] m Q := by
  refine wp_iconst (0 : Int32) dX10_settlingOrbit_67 (by decide) ?_
  refine wp_istore dX10_settlingOrbit_68 (by decide) rfl ?_
  refine wp_forget [.ref (gB G), .int l1, .int (nI o), .int (nI w), .int (nI j), .int (0 : Int32)] ⟨Or.inl rfl, Or.inl rfl, Or.inl rfl, Or.inl rfl, Or.inl rfl, Or.inl rfl, trivial⟩ ?_
  exact e1

theorem fC_so {G : Cx} {d : Nat} {m : Mm} {Q : Option Value → Mm → Prop} {x : Int32} {o w j t : Nat} (hF : Full G m) (ho : o ≤ 20) (hw : w ≤ 4000) (hj : j < o + 1) (ht : t ≤ w)
    (e1 : ¬ t < w → WPM G (d + 7) (0, 0) μX0_isNearRemembered [.ref (gB G + 70), .int x] m (fun r' m' => WP G (d + 8) (0, 0) μX10_settlingOrbit 98 [.ref (gB G), .int x, .int (nI o), .int (nI w), .int (nI j), lvU] (r'.toList ++ []) m' Q))
    (e2 : t < w → WPM G (d + 7) (0, 0) μX0_step [.ref (gB G + 70)] m (fun r' m' => WP G (d + 8) (0, 0) μX10_settlingOrbit 83 [.ref (gB G), .int x, .int (nI o), .int (nI w), .int (nI j), .int (nI t)] (r'.toList ++ []) m' Q)) :
    WP G (d + 8) (0, 0) μX10_settlingOrbit 70 [.ref (gB G), .int x, .int (nI o), .int (nI w), .int (nI j), .int (nI t)] [] m Q := by
  refine wp_iload dX10_settlingOrbit_70 rfl ?_
  refine wp_iload_n dX10_settlingOrbit_72 rfl ?_
  refine wp_icmp_ge 90 dX10_settlingOrbit_73 (by decide) (fun q1 => ?_) (fun q2 => ?_)
  · have hp3 : ¬ t < w := (fun z => q1 (nlt_ (b := w) z (by omega)))
    refine wp_aload_n dX10_settlingOrbit_90 rfl ?_
    refine wp_getr (gB G + 70) dX10_settlingOrbit_91 fX10_16 (ka0 hF) (hF.2 _ _) (rra 70 (isK_le (ka0 hF)) (fun _ => rfl)) ?_
    refine wp_iload_n dX10_settlingOrbit_94 rfl ?_
    refine wp_forget [.ref (gB G), .int x, .int (nI o), .int (nI w), .int (nI j), lvU] ⟨Or.inl rfl, Or.inl rfl, Or.inl rfl, Or.inl rfl, Or.inl rfl, Or.inr rfl, trivial⟩ ?_
    refine wp_callV (As := [.int x]) (S := []) (b' := (0, 0)) (b := (0, 0)) dX10_settlingOrbit_95 MX10_279 (kc0 hF (isC2 G)) rfl rfl rfl rfl (Nat.le_of_ble_eq_true rfl) ?_
    exact e1 hp3
  · have hp4 : t < w := (nlt q2 (by omega) (by omega))
    refine wp_aload_n dX10_settlingOrbit_76 rfl ?_
    refine wp_getr (gB G + 70) dX10_settlingOrbit_77 fX10_16 (ka0 hF) (hF.2 _ _) (rra 70 (isK_le (ka0 hF)) (fun _ => rfl)) ?_
    refine wp_callV (As := []) (S := []) (b' := (0, 0)) (b := (0, 0)) dX10_settlingOrbit_80 MX10_172 (kc0 hF (isC2 G)) rfl rfl rfl rfl (Nat.le_of_ble_eq_true rfl) ?_
    exact e2 hp4

theorem gC_so {G : Cx} {d : Nat} {m : Mm} {Q : Option Value → Mm → Prop} {o w j t : Nat} {l1 : Int32} {r : Int32} (hF : Full G m) (ho : o ≤ 20) (hw : w ≤ 4000) (hj : j < o + 1) (ht : t < w)
    (e1 : WP G (d + 8) (0, 0) μX10_settlingOrbit 70 [.ref (gB G), .int l1, .int (nI o), .int (nI w), .int (nI j), .int (nI (t + 1))] [] m Q) :
    WP G (d + 8) (0, 0) μX10_settlingOrbit 83 [.ref (gB G), .int l1, .int (nI o), .int (nI w), .int (nI j), .int (nI t)] [.int r] m Q := by
  refine wp_pop dX10_settlingOrbit_83 rfl ?_
  refine wp_iinc (nI (t + 1)) dX10_settlingOrbit_84 rfl (by decide) (nadd (a := t) (b := 1) (by omega)) rfl ?_
  refine wp_goto 70 dX10_settlingOrbit_87 (by decide) ?_
  refine wp_forget [.ref (gB G), .int l1, .int (nI o), .int (nI w), .int (nI j), .int (nI (t + 1))] ⟨Or.inl rfl, Or.inl rfl, Or.inl rfl, Or.inl rfl, Or.inl rfl, Or.inl rfl, trivial⟩ ?_
  exact e1

theorem hC_so {G : Cx} {d : Nat} {m : Mm} {Q : Option Value → Mm → Prop} {o w j : Nat} {l1 : Int32} {r : Int32} (hF : Full G m) (ho : o ≤ 20) (hw : w ≤ 4000) (hj : j < o + 1)
    (e1 : r = 0 → WP G (d + 8) (0, 0) μX10_settlingOrbit 54 [.ref (gB G), .int l1, .int (nI o), .int (nI w), .int (nI (j + 1)), lvU] [] m Q)
    (e2 : ¬ r = 0 → Q (some (.int (nI j))) m) :
    WP G (d + 8) (0, 0) μX10_settlingOrbit 98 [.ref (gB G), .int l1, .int (nI o), .int (nI w), .int (nI j), lvU] [.int r] m Q := by
  refine wp_if_eq 104 dX10_settlingOrbit_98 (by decide) (fun q1 => ?_) (fun q2 => ?_)
  · skip
    refine wp_iinc (nI (j + 1)) dX10_settlingOrbit_104 rfl (by decide) (nadd (a := j) (b := 1) (by omega)) rfl ?_
    refine wp_goto 54 dX10_settlingOrbit_107 (by decide) ?_
    refine wp_forget [.ref (gB G), .int l1, .int (nI o), .int (nI w), .int (nI (j + 1)), lvU] ⟨Or.inl rfl, Or.inl rfl, Or.inl rfl, Or.inl rfl, Or.inl rfl, Or.inr rfl, trivial⟩ ?_
    exact e1 q1
  · skip
    refine wp_iload dX10_settlingOrbit_101 rfl ?_
    exact wp_iret dX10_settlingOrbit_103 rfl (e2 q2)

theorem eC_rem {G : Cx} {d : Nat} {m : Mm} {Q : Option Value → Mm → Prop} {c : Nat} (hF : Full G m) (hc : IsC G c)
    (e1 : WP G (d + 1) (0, 0) μX0_rememberTemperatures 2 [.ref c, .int (0 : Int32)] [] m Q) :
    WPM G (d + 1) (0, 0) μX0_rememberTemperatures [.ref c] m Q := by
  refine WPM.of pX0 (Nat.le_of_ble_eq_true rfl) rfl ?_
  refine wp_iconst (0 : Int32) dX0_rememberTemperatures_0 (by decide) ?_
  refine wp_istore_n dX0_rememberTemperatures_1 (by decide) rfl ?_
  refine wp_forget [.ref c, .int (0 : Int32)] ⟨Or.inl rfl, Or.inl rfl, trivial⟩ ?_
  exact e1

theorem bC_rem {G : Cx} {d : Nat} {m : Mm} {Q : Option Value → Mm → Prop} {c i n : Nat} (hF : Full G m) (hc : IsC G c) (hn : fi m 5 c = nI n) (hm : n ≤ 12) (hi : i ≤ n)
    (e1 : ¬ i < n → Q none m)
    (e2 : i < n → WP G (d + 1) (0, 0) μX0_rememberTemperatures 2 [.ref c, .int (nI (i + 1))] [] (wfi m 416 (nd c i) (fi m 401 (nd c i))) Q) :
    WP G (d + 1) (0, 0) μX0_rememberTemperatures 2 [.ref c, .int (nI i)] [] m Q := by
  refine wp_iload_n dX0_rememberTemperatures_2 rfl ?_
  refine wp_aload_n dX0_rememberTemperatures_3 rfl ?_
  refine wp_geti (nI n) dX0_rememberTemperatures_4 fX0_75 (Or.inl rfl) (kc0 hF hc) hn ?_
  refine wp_icmp_ge 34 dX0_rememberTemperatures_7 (by decide) (fun q1 => ?_) (fun q2 => ?_)
  · have hp3 : ¬ i < n := (fun z => q1 (nlt_ (b := n) z (by omega)))
    exact wp_vret dX0_rememberTemperatures_34 rfl (e1 hp3)
  · have hp4 : i < n := (nlt q2 (by omega) (by omega))
    refine wp_aload_n dX0_rememberTemperatures_10 rfl ?_
    refine wp_getr (c + 1) dX0_rememberTemperatures_11 fX0_11 (kc0 hF hc) (hF.2 _ _) (rra 1 (isK_le (kc0 hF hc)) (fun _ => rfl)) ?_
    refine wp_iload_n dX0_rememberTemperatures_14 rfl ?_
    refine wp_raldk (n := 12) i (nd c i) dX0_rememberTemperatures_15 (kc hF hc 1 (by decide)) (by decide) (by decide) (lc hc 1 (by decide)) (vin (by omega) (by decide)) (nIc (by omega)) (hF.2 _ _) (rnd hF hc) ?_
    refine wp_aload_n dX0_rememberTemperatures_16 rfl ?_
    refine wp_getr (c + 1) dX0_rememberTemperatures_17 fX0_11 (kc0 hF hc) (hF.2 _ _) (rra 1 (isK_le (kc0 hF hc)) (fun _ => rfl)) ?_
    refine wp_iload_n dX0_rememberTemperatures_20 rfl ?_
    refine wp_raldk (n := 12) i (nd c i) dX0_rememberTemperatures_21 (kc hF hc 1 (by decide)) (by decide) (by decide) (lc hc 1 (by decide)) (vin (by omega) (by decide)) (nIc (by omega)) (hF.2 _ _) (rnd hF hc) ?_
    refine wp_geti (fi m 401 (nd c i)) dX0_rememberTemperatures_22 fX0_156 (Or.inl rfl) (knd hF hc (by omega)) rfl ?_
    refine wp_puti dX0_rememberTemperatures_25 pX0_330 (knd hF hc (by omega)) ?_
    have hF5 := Full_wfi 416 (nd c i) (fi m 401 (nd c i)) hF
    refine wp_iinc (nI (i + 1)) dX0_rememberTemperatures_28 rfl (by decide) (nadd (a := i) (b := 1) (by omega)) rfl ?_
    refine wp_goto 2 dX0_rememberTemperatures_31 (by decide) ?_
    refine wp_forget [.ref c, .int (nI (i + 1))] ⟨Or.inl rfl, Or.inl rfl, trivial⟩ ?_
    exact e2 hp4

theorem eC_inr {G : Cx} {d : Nat} {m : Mm} {Q : Option Value → Mm → Prop} {c : Nat} {x : Int32} (hF : Full G m) (hc : IsC G c)
    (e1 : WP G (d + 1) (0, 0) μX0_isNearRemembered 2 [.ref c, .int x, .int (0 : Int32)] [] m Q) :
    WPM G (d + 1) (0, 0) μX0_isNearRemembered [.ref c, .int x] m Q := by
  refine WPM.of pX0 (Nat.le_of_ble_eq_true rfl) rfl ?_
  refine wp_iconst (0 : Int32) dX0_isNearRemembered_0 (by decide) ?_
  refine wp_istore_n dX0_isNearRemembered_1 (by decide) rfl ?_
  refine wp_forget [.ref c, .int x, .int (0 : Int32)] ⟨Or.inl rfl, Or.inl rfl, Or.inl rfl, trivial⟩ ?_
  exact e1

theorem bC_inr {G : Cx} {d : Nat} {m : Mm} {Q : Option Value → Mm → Prop} {c i n : Nat} {x : Int32} (hF : Full G m) (hc : IsC G c) (hn : fi m 5 c = nI n) (hm : n ≤ 12) (hi : i ≤ n)
    (e1 : ¬ i < n → Q (some (.int (1 : Int32))) m)
    (e2 : i < n → ¬ x < (iabs ((fi m 401 (nd c i)) - (fi m 416 (nd c i)))) → WP G (d + 1) (0, 0) μX0_isNearRemembered 2 [.ref c, .int x, .int (nI (i + 1))] [] m Q)
    (e3 : i < n → x < (iabs ((fi m 401 (nd c i)) - (fi m 416 (nd c i)))) → Q (some (.int (0 : Int32))) m) :
    WP G (d + 1) (0, 0) μX0_isNearRemembered 2 [.ref c, .int x, .int (nI i)] [] m Q := by
  refine wp_iload_n dX0_isNearRemembered_2 rfl ?_
  refine wp_aload_n dX0_isNearRemembered_3 rfl ?_
  refine wp_geti (nI n) dX0_isNearRemembered_4 fX0_75 (Or.inl rfl) (kc0 hF hc) hn ?_
  refine wp_icmp_ge 44 dX0_isNearRemembered_7 (by decide) (fun q1 => ?_) (fun q2 => ?_)
  · have hp3 : ¬ i < n := (fun z => q1 (nlt_ (b := n) z (by omega)))
    refine wp_iconst (1 : Int32) dX0_isNearRemembered_44 (by decide) ?_
    exact wp_zret dX0_isNearRemembered_45 rfl rfl (e1 hp3)
  · have hp4 : i < n := (nlt q2 (by omega) (by omega))
    refine wp_aload_n dX0_isNearRemembered_10 rfl ?_
    refine wp_getr (c + 1) dX0_isNearRemembered_11 fX0_11 (kc0 hF hc) (hF.2 _ _) (rra 1 (isK_le (kc0 hF hc)) (fun _ => rfl)) ?_
    refine wp_iload_n dX0_isNearRemembered_14 rfl ?_
    refine wp_raldk (n := 12) i (nd c i) dX0_isNearRemembered_15 (kc hF hc 1 (by decide)) (by decide) (by decide) (lc hc 1 (by decide)) (vin (by omega) (by decide)) (nIc (by omega)) (hF.2 _ _) (rnd hF hc) ?_
    refine wp_geti (fi m 401 (nd c i)) dX0_isNearRemembered_16 fX0_156 (Or.inl rfl) (knd hF hc (by omega)) rfl ?_
    refine wp_aload_n dX0_isNearRemembered_19 rfl ?_
    refine wp_getr (c + 1) dX0_isNearRemembered_20 fX0_11 (kc0 hF hc) (hF.2 _ _) (rra 1 (isK_le (kc0 hF hc)) (fun _ => rfl)) ?_
    refine wp_iload_n dX0_isNearRemembered_23 rfl ?_
    refine wp_raldk (n := 12) i (nd c i) dX0_isNearRemembered_24 (kc hF hc 1 (by decide)) (by decide) (by decide) (lc hc 1 (by decide)) (vin (by omega) (by decide)) (nIc (by omega)) (hF.2 _ _) (rnd hF hc) ?_
    refine wp_geti (fi m 416 (nd c i)) dX0_isNearRemembered_25 fX0_330 (Or.inl rfl) (knd hF hc (by omega)) rfl ?_
    refine wp_isubv ((fi m 401 (nd c i)) - (fi m 416 (nd c i))) dX0_isNearRemembered_28 rfl ?_
    refine wp_absI dX0_isNearRemembered_29 AX0_333 (Nat.le_of_ble_eq_true rfl) ?_
    refine wp_iload_n dX0_isNearRemembered_32 rfl ?_
    refine wp_icmp_le 38 dX0_isNearRemembered_33 (by decide) (fun q5 => ?_) (fun q6 => ?_)
    · skip
      refine wp_iinc (nI (i + 1)) dX0_isNearRemembered_38 rfl (by decide) (nadd (a := i) (b := 1) (by omega)) rfl ?_
      refine wp_goto 2 dX0_isNearRemembered_41 (by decide) ?_
      refine wp_forget [.ref c, .int x, .int (nI (i + 1))] ⟨Or.inl rfl, Or.inl rfl, Or.inl rfl, trivial⟩ ?_
      exact e2 hp4 q5
    · skip
      refine wp_iconst (0 : Int32) dX0_isNearRemembered_36 (by decide) ?_
      exact wp_zret dX0_isNearRemembered_37 rfl rfl (e3 hp4 q6)

theorem eM_so {G : Cx} {d : Nat} {m : Mm} {Q : Option Value → Mm → Prop} {x y : Int32} (hF : Full G m) 
    (g1 : ¬ (ai m (gB G + 294) 1) = 0)
    (e1 : x < (0 : Int32) → Q (some (.int (-1000000002 : Int32))) m)
    (e2 : ¬ x < (0 : Int32) → (100000 : Int32) < x → Q (some (.int (-1000000002 : Int32))) m)
    (e3 : ¬ x < (0 : Int32) → ¬ (100000 : Int32) < x → y < (1 : Int32) → Q (some (.int (-1000000002 : Int32))) m)
    (e4 : ¬ x < (0 : Int32) → ¬ (100000 : Int32) < x → ¬ y < (1 : Int32) → (20 : Int32) < y → Q (some (.int (-1000000002 : Int32))) m)
    (e5 : ¬ x < (0 : Int32) → ¬ (100000 : Int32) < x → ¬ y < (1 : Int32) → ¬ (20 : Int32) < y → ¬ (4000 : Int32) < (y * ((((ai m (gB G + 294) 2) + (ai m (gB G + 294) 1)) - (1 : Int32)) / (ai m (gB G + 294) 1))) → WPM G (d + 9) (0, 0) μX11_keepState [.ref (gB G + 293)] m (fun r' m' => WP G (d + 10) (0, 0) μX11_settlingOrbit 59 [.ref (gB G + 293), .int x, .int y, .int ((((ai m (gB G + 294) 2) + (ai m (gB G + 294) 1)) - (1 : Int32)) / (ai m (gB G + 294) 1)), lvU, lvU] (r'.toList ++ []) m' Q))
    (e6 : ¬ x < (0 : Int32) → ¬ (100000 : Int32) < x → ¬ y < (1 : Int32) → ¬ (20 : Int32) < y → (4000 : Int32) < (y * ((((ai m (gB G + 294) 2) + (ai m (gB G + 294) 1)) - (1 : Int32)) / (ai m (gB G + 294) 1))) → Q (some (.int (-1000000002 : Int32))) m) :
    WPM G (d + 10) (0, 0) μX11_settlingOrbit [.ref (gB G + 293), .int x, .int y] m Q := by
  refine WPM.of pX11 (Nat.le_of_ble_eq_true rfl) rfl ?_
  refine wp_aload_n dX11_settlingOrbit_0 rfl ?_
  refine wp_getr (gB G + 294) dX11_settlingOrbit_1 fX11_7 (ka hF 293 (by decide)) (hF.2 _ _) (rra 1 (isK_le (ka hF 293 (by decide))) (fun _ => rfl)) ?_
  refine wp_iconst (2 : Int32) dX11_settlingOrbit_4 (by decide) ?_
  refine wp_ialdk (n := 1486) 2 (ai m (gB G + 294) 2) dX11_settlingOrbit_5 (ka hF 294 (by decide)) (la 294) (vinl (by decide)) rfl rfl ?_
  refine wp_aload_n dX11_settlingOrbit_6 rfl ?_
  refine wp_getr (gB G + 294) dX11_settlingOrbit_7 fX11_7 (ka hF 293 (by decide)) (hF.2 _ _) (rra 1 (isK_le (ka hF 293 (by decide))) (fun _ => rfl)) ?_
  refine wp_iconst (1 : Int32) dX11_settlingOrbit_10 (by decide) ?_
  refine wp_ialdk (n := 1486) 1 (ai m (gB G + 294) 1) dX11_settlingOrbit_11 (ka hF 294 (by decide)) (la 294) (vinl (by decide)) rfl rfl ?_
  refine wp_iaddv ((ai m (gB G + 294) 2) + (ai m (gB G + 294) 1)) dX11_settlingOrbit_12 rfl ?_
  refine wp_iconst (1 : Int32) dX11_settlingOrbit_13 (by decide) ?_
  refine wp_isubv (((ai m (gB G + 294) 2) + (ai m (gB G + 294) 1)) - (1 : Int32)) dX11_settlingOrbit_14 rfl ?_
  refine wp_aload_n dX11_settlingOrbit_15 rfl ?_
  refine wp_getr (gB G + 294) dX11_settlingOrbit_16 fX11_7 (ka hF 293 (by decide)) (hF.2 _ _) (rra 1 (isK_le (ka hF 293 (by decide))) (fun _ => rfl)) ?_
  refine wp_iconst (1 : Int32) dX11_settlingOrbit_19 (by decide) ?_
  refine wp_ialdk (n := 1486) 1 (ai m (gB G + 294) 1) dX11_settlingOrbit_20 (ka hF 294 (by decide)) (la 294) (vinl (by decide)) rfl rfl ?_
  refine wp_idiv dX11_settlingOrbit_21 g1 ?_
  refine wp_istore_n dX11_settlingOrbit_22 (by decide) rfl ?_
  refine wp_iload_n dX11_settlingOrbit_23 rfl ?_
  refine wp_iconst (0 : Int32) dX11_settlingOrbit_24 (by decide) ?_
  refine wp_ldc dX11_settlingOrbit_25 kX11_73 ?_
  refine wp_callS (As := [.int x, .int (0 : Int32), .int (100000 : Int32)]) (S := []) (b' := (0, 0)) (b := (0, 0)) dX11_settlingOrbit_27 MX11_67 rfl rfl (Nat.le_of_ble_eq_true rfl) ?_
  refine WPM.of pX11 (Nat.le_of_ble_eq_true rfl) rfl ?_
  refine wp_iload_n dX11_isBetween_0 rfl ?_
  refine wp_iload_n dX11_isBetween_1 rfl ?_
  refine wp_icmp_lt 14 dX11_isBetween_2 (by decide) (fun q1 => ?_) (fun q2 => ?_)
  · skip
    refine wp_iconst (0 : Int32) dX11_isBetween_14 (by decide) ?_
    refine wp_zret dX11_isBetween_15 rfl rfl ?_
    show WP G (d + 10) (0, 0) μX11_settlingOrbit 30 [.ref (gB G + 293), .int x, .int y, .int ((((ai m (gB G + 294) 2) + (ai m (gB G + 294) 1)) - (1 : Int32)) / (ai m (gB G + 294) 1)), lvU, lvU] [.int (0 : Int32)] m _
    refine wp_if_eq 52 dX11_settlingOrbit_30 (by decide) (fun _ => ?_) (fun q => absurd (by decide) q)
    refine wp_ldc dX11_settlingOrbit_52 kX11_79 ?_
    exact wp_iret dX11_settlingOrbit_54 rfl (e1 q1)
  · skip
    refine wp_iload_n dX11_isBetween_5 rfl ?_
    refine wp_iload_n dX11_isBetween_6 rfl ?_
    refine wp_icmp_gt 14 dX11_isBetween_7 (by decide) (fun q3 => ?_) (fun q4 => ?_)
    · skip
      refine wp_iconst (0 : Int32) dX11_isBetween_14 (by decide) ?_
      refine wp_zret dX11_isBetween_15 rfl rfl ?_
      show WP G (d + 10) (0, 0) μX11_settlingOrbit 30 [.ref (gB G + 293), .int x, .int y, .int ((((ai m (gB G + 294) 2) + (ai m (gB G + 294) 1)) - (1 : Int32)) / (ai m (gB G + 294) 1)), lvU, lvU] [.int (0 : Int32)] m _
      refine wp_if_eq 52 dX11_settlingOrbit_30 (by decide) (fun _ => ?_) (fun q => absurd (by decide) q)
      refine wp_ldc dX11_settlingOrbit_52 kX11_79 ?_
      exact wp_iret dX11_settlingOrbit_54 rfl (e2 q2 q3)
    · skip
      refine wp_iconst (1 : Int32) dX11_isBetween_10 (by decide) ?_
      refine wp_goto 15 dX11_isBetween_11 (by decide) ?_
      refine wp_zret dX11_isBetween_15 rfl rfl ?_
      show WP G (d + 10) (0, 0) μX11_settlingOrbit 30 [.ref (gB G + 293), .int x, .int y, .int ((((ai m (gB G + 294) 2) + (ai m (gB G + 294) 1)) - (1 : Int32)) / (ai m (gB G + 294) 1)), lvU, lvU] [.int (1 : Int32)] m _
      refine wp_if_eq 52 dX11_settlingOrbit_30 (by decide) (fun q => absurd q (by decide)) (fun _ => ?_)
      refine wp_iload_n dX11_settlingOrbit_33 rfl ?_
      refine wp_iconst (1 : Int32) dX11_settlingOrbit_34 (by decide) ?_
      refine wp_bipush (20 : Int32) dX11_settlingOrbit_35 (by decide) ?_
      refine wp_callS (As := [.int y, .int (1 : Int32), .int (20 : Int32)]) (S := []) (b' := (0, 0)) (b := (0, 0)) dX11_settlingOrbit_37 MX11_67 rfl rfl (Nat.le_of_ble_eq_true rfl) ?_
      refine WPM.of pX11 (Nat.le_of_ble_eq_true rfl) rfl ?_
      refine wp_iload_n dX11_isBetween_0 rfl ?_
      refine wp_iload_n dX11_isBetween_1 rfl ?_
      refine wp_icmp_lt 14 dX11_isBetween_2 (by decide) (fun q5 => ?_) (fun q6 => ?_)
      · skip
        refine wp_iconst (0 : Int32) dX11_isBetween_14 (by decide) ?_
        refine wp_zret dX11_isBetween_15 rfl rfl ?_
        show WP G (d + 10) (0, 0) μX11_settlingOrbit 40 [.ref (gB G + 293), .int x, .int y, .int ((((ai m (gB G + 294) 2) + (ai m (gB G + 294) 1)) - (1 : Int32)) / (ai m (gB G + 294) 1)), lvU, lvU] [.int (0 : Int32)] m _
        refine wp_if_eq 52 dX11_settlingOrbit_40 (by decide) (fun _ => ?_) (fun q => absurd (by decide) q)
        refine wp_ldc dX11_settlingOrbit_52 kX11_79 ?_
        exact wp_iret dX11_settlingOrbit_54 rfl (e3 q2 q4 q5)
      · skip
        refine wp_iload_n dX11_isBetween_5 rfl ?_
        refine wp_iload_n dX11_isBetween_6 rfl ?_
        refine wp_icmp_gt 14 dX11_isBetween_7 (by decide) (fun q7 => ?_) (fun q8 => ?_)
        · skip
          refine wp_iconst (0 : Int32) dX11_isBetween_14 (by decide) ?_
          refine wp_zret dX11_isBetween_15 rfl rfl ?_
          show WP G (d + 10) (0, 0) μX11_settlingOrbit 40 [.ref (gB G + 293), .int x, .int y, .int ((((ai m (gB G + 294) 2) + (ai m (gB G + 294) 1)) - (1 : Int32)) / (ai m (gB G + 294) 1)), lvU, lvU] [.int (0 : Int32)] m _
          refine wp_if_eq 52 dX11_settlingOrbit_40 (by decide) (fun _ => ?_) (fun q => absurd (by decide) q)
          refine wp_ldc dX11_settlingOrbit_52 kX11_79 ?_
          exact wp_iret dX11_settlingOrbit_54 rfl (e4 q2 q4 q6 q7)
        · skip
          refine wp_iconst (1 : Int32) dX11_isBetween_10 (by decide) ?_
          refine wp_goto 15 dX11_isBetween_11 (by decide) ?_
          refine wp_zret dX11_isBetween_15 rfl rfl ?_
          show WP G (d + 10) (0, 0) μX11_settlingOrbit 40 [.ref (gB G + 293), .int x, .int y, .int ((((ai m (gB G + 294) 2) + (ai m (gB G + 294) 1)) - (1 : Int32)) / (ai m (gB G + 294) 1)), lvU, lvU] [.int (1 : Int32)] m _
          refine wp_if_eq 52 dX11_settlingOrbit_40 (by decide) (fun q => absurd q (by decide)) (fun _ => ?_)
          refine wp_iload_n dX11_settlingOrbit_43 rfl ?_
          refine wp_iload_n dX11_settlingOrbit_44 rfl ?_
          refine wp_imulv (y * ((((ai m (gB G + 294) 2) + (ai m (gB G + 294) 1)) - (1 : Int32)) / (ai m (gB G + 294) 1))) dX11_settlingOrbit_45 rfl ?_
          refine wp_sipush (4000 : Int32) dX11_settlingOrbit_46 (by decide) ?_
          refine wp_icmp_le 55 dX11_settlingOrbit_49 (by decide) (fun q9 => ?_) (fun q10 => ?_)
          · skip
            refine wp_aload_n dX11_settlingOrbit_55 rfl ?_
            refine wp_callV (As := []) (S := []) (b' := (0, 0)) (b := (0, 0)) dX11_settlingOrbit_56 MX11_199 (ka hF 293 (by decide)) rfl rfl rfl rfl (Nat.le_of_ble_eq_true rfl) ?_
            exact e5 q2 q4 q6 q8 q9
          · skip
            refine wp_ldc dX11_settlingOrbit_52 kX11_79 ?_
            exact wp_iret dX11_settlingOrbit_54 rfl (e6 q2 q4 q6 q8 q10)

theorem cM_so {G : Cx} {d : Nat} {m : Mm} {Q : Option Value → Mm → Prop} {l1 : Int32} {l2 : Int32} {l3 : Int32} (hF : Full G m) 
    (e1 : WP G (d + 10) (0, 0) μX11_settlingOrbit 65 [.ref (gB G + 293), .int l1, .int l2, .int l3, .int (-1 : Int32), .int (1 : Int32)] [] m Q) :
    WP G (d + 10) (0, 0) μX11_settlingOrbit 59 [.ref (gB G + 293), .int l1, .int l2, .int l3, lvU, lvU] [] m Q := by
  refine wp_iconst (-1 : Int32) dX11_settlingOrbit_59 (by decide) ?_
  refine wp_istore dX11_settlingOrbit_60 (by decide) rfl ?_
  refine wp_iconst (1 : Int32) dX11_settlingOrbit_62 (by decide) ?_
  refine wp_istore dX11_settlingOrbit_63 (by decide) rfl ?_
  refine wp_forget [.ref (gB G + 293), .int l1, .int l2, .int l3, .int (-1 : Int32), .int (1 : Int32)] ⟨Or.inl rfl, Or.inl rfl, Or.inl rfl, Or.inl rfl, Or.inl rfl, Or.inl rfl, trivial⟩ ?_
  exact e1

theorem bM_so {G : Cx} {d : Nat} {m : Mm} {Q : Option Value → Mm → Prop} {x : Int32} {o w j : Nat} (hF : Full G m) (ho : o ≤ 20) (hw : w ≤ 4000) (hj : j ≤ o + 1)
    (e1 : o < j → WPM G (d + 9) (0, 0) μX11_putBackState [.ref (gB G + 293)] m (fun r' m' => WP G (d + 10) (0, 0) μX11_settlingOrbit 104 [lvU, lvU, lvU, lvU, .int (-1 : Int32), lvU] (r'.toList ++ []) m' Q))
    (e2 : ¬ o < j → WPM G (d + 9) (0, 0) μX11_isRepeated [.ref (gB G + 293), .int (nI w), .int x] m (fun r' m' => WP G (d + 10) (0, 0) μX11_settlingOrbit 83 [.ref (gB G + 293), .int x, .int (nI o), .int (nI w), lvU, .int (nI j)] (r'.toList ++ []) m' Q)) :
    WP G (d + 10) (0, 0) μX11_settlingOrbit 65 [.ref (gB G + 293), .int x, .int (nI o), .int (nI w), .int (-1 : Int32), .int (nI j)] [] m Q := by
  refine wp_iload dX11_settlingOrbit_65 rfl ?_
  refine wp_iload_n dX11_settlingOrbit_67 rfl ?_
  refine wp_icmp_gt 100 dX11_settlingOrbit_68 (by decide) (fun q1 => ?_) (fun q2 => ?_)
  · have hp3 : o < j := (nlt q1 (by omega) (by omega))
    refine wp_aload_n dX11_settlingOrbit_100 rfl ?_
    refine wp_forget [lvU, lvU, lvU, lvU, .int (-1 : Int32), lvU] ⟨Or.inr rfl, Or.inr rfl, Or.inr rfl, Or.inr rfl, Or.inl rfl, Or.inr rfl, trivial⟩ ?_
    refine wp_callV (As := []) (S := []) (b' := (0, 0)) (b := (0, 0)) dX11_settlingOrbit_101 MX11_205 (ka hF 293 (by decide)) rfl rfl rfl rfl (Nat.le_of_ble_eq_true rfl) ?_
    exact e1 hp3
  · have hp4 : ¬ o < j := (fun z => q2 (nlt_ (b := j) z (by omega)))
    refine wp_iload dX11_settlingOrbit_71 rfl ?_
    refine wp_iconst (-1 : Int32) dX11_settlingOrbit_73 (by decide) ?_
    refine wp_icmp_ne 100 dX11_settlingOrbit_74 (by decide) (fun q => absurd (by decide) q) (fun _ => ?_)
    refine wp_aload_n dX11_settlingOrbit_77 rfl ?_
    refine wp_iload_n dX11_settlingOrbit_78 rfl ?_
    refine wp_iload_n dX11_settlingOrbit_79 rfl ?_
    refine wp_forget [.ref (gB G + 293), .int x, .int (nI o), .int (nI w), lvU, .int (nI j)] ⟨Or.inl rfl, Or.inl rfl, Or.inl rfl, Or.inl rfl, Or.inr rfl, Or.inl rfl, trivial⟩ ?_
    refine wp_callV (As := [.int (nI w), .int x]) (S := []) (b' := (0, 0)) (b := (0, 0)) dX11_settlingOrbit_80 MX11_214 (ka hF 293 (by decide)) rfl rfl rfl rfl (Nat.le_of_ble_eq_true rfl) ?_
    exact e2 hp4

theorem dM_so {G : Cx} {d : Nat} {m : Mm} {Q : Option Value → Mm → Prop} {o w j : Nat} {l1 : Int32} {r : Int32} (hF : Full G m) (ho : o ≤ 20) (hw : w ≤ 4000) (hj : j < o + 1)
    (e1 : r = 0 → WP G (d + 10) (0, 0) μX11_settlingOrbit 65 [.ref (gB G + 293), .int l1, .int (nI o), .int (nI w), .int (-1 : Int32), .int (nI (j + 1))] [] m Q)
    (e2 : ¬ r = 0 → WP G (d + 10) (0, 0) μX11_settlingOrbit 65 [.ref (gB G + 293), .int l1, .int (nI o), .int (nI w), .int (nI j), .int (nI (j + 1))] [] m Q) :
    WP G (d + 10) (0, 0) μX11_settlingOrbit 83 [.ref (gB G + 293), .int l1, .int (nI o), .int (nI w), lvU, .int (nI j)] [.int r] m Q := by
  refine wp_if_eq 91 dX11_settlingOrbit_83 (by decide) (fun q1 => ?_) (fun q2 => ?_)
  · skip
    refine wp_iconst (-1 : Int32) dX11_settlingOrbit_91 (by decide) ?_
    refine wp_istore dX11_settlingOrbit_92 (by decide) rfl ?_
    refine wp_iinc (nI (j + 1)) dX11_settlingOrbit_94 rfl (by decide) (nadd (a := j) (b := 1) (by omega)) rfl ?_
    refine wp_goto 65 dX11_settlingOrbit_97 (by decide) ?_
    refine wp_forget [.ref (gB G + 293), .int l1, .int (nI o), .int (nI w), .int (-1 : Int32), .int (nI (j + 1))] ⟨Or.inl rfl, Or.inl rfl, Or.inl rfl, Or.inl rfl, Or.inl rfl, Or.inl rfl, trivial⟩ ?_
    exact e1 q1
  · skip
    refine wp_iload dX11_settlingOrbit_86 rfl ?_
    refine wp_goto 92 dX11_settlingOrbit_88 (by decide) ?_
    refine wp_istore dX11_settlingOrbit_92 (by decide) rfl ?_
    refine wp_iinc (nI (j + 1)) dX11_settlingOrbit_94 rfl (by decide) (nadd (a := j) (b := 1) (by omega)) rfl ?_
    refine wp_goto 65 dX11_settlingOrbit_97 (by decide) ?_
    refine wp_forget [.ref (gB G + 293), .int l1, .int (nI o), .int (nI w), .int (nI j), .int (nI (j + 1))] ⟨Or.inl rfl, Or.inl rfl, Or.inl rfl, Or.inl rfl, Or.inl rfl, Or.inl rfl, trivial⟩ ?_
    exact e2 q2

theorem fM_so {G : Cx} {d : Nat} {m : Mm} {Q : Option Value → Mm → Prop}  (hF : Full G m) 
    (e1 : Q (some (.int (-1 : Int32))) m) :
    WP G (d + 10) (0, 0) μX11_settlingOrbit 104 [lvU, lvU, lvU, lvU, .int (-1 : Int32), lvU] [] m Q := by
  refine wp_iload dX11_settlingOrbit_104 rfl ?_
  exact wp_iret dX11_settlingOrbit_106 rfl (e1)

theorem xM_so {G : Cx} {d : Nat} {m : Mm} {Q : Option Value → Mm → Prop} {x : Int32} {o w j p : Nat} (hF : Full G m) (ho : o ≤ 20) (hw : w ≤ 4000) (hj : j ≤ o + 1) (hp : p ≤ 30)
    (e1 : o < j → WPM G (d + 9) (0, 0) μX11_putBackState [.ref (gB G + 293)] m (fun r' m' => WP G (d + 10) (0, 0) μX11_settlingOrbit 104 [lvU, lvU, lvU, lvU, .int (nI p), lvU] (r'.toList ++ []) m' Q))
    (e2 : ¬ o < j → WPM G (d + 9) (0, 0) μX11_putBackState [.ref (gB G + 293)] m (fun r' m' => WP G (d + 10) (0, 0) μX11_settlingOrbit 104 [lvU, lvU, lvU, lvU, .int (nI p), lvU] (r'.toList ++ []) m' Q)) :
    WP G (d + 10) (0, 0) μX11_settlingOrbit 65 [.ref (gB G + 293), .int x, .int (nI o), .int (nI w), .int (nI p), .int (nI j)] [] m Q := by
  refine wp_iload dX11_settlingOrbit_65 rfl ?_
  refine wp_iload_n dX11_settlingOrbit_67 rfl ?_
  refine wp_icmp_gt 100 dX11_settlingOrbit_68 (by decide) (fun q1 => ?_) (fun q2 => ?_)
  · have hp3 : o < j := (nlt q1 (by omega) (by omega))
    refine wp_aload_n dX11_settlingOrbit_100 rfl ?_
    refine wp_forget [lvU, lvU, lvU, lvU, .int (nI p), lvU] ⟨Or.inr rfl, Or.inr rfl, Or.inr rfl, Or.inr rfl, Or.inl rfl, Or.inr rfl, trivial⟩ ?_
    refine wp_callV (As := []) (S := []) (b' := (0, 0)) (b := (0, 0)) dX11_settlingOrbit_101 MX11_205 (ka hF 293 (by decide)) rfl rfl rfl rfl (Nat.le_of_ble_eq_true rfl) ?_
    exact e1 hp3
  · have hp4 : ¬ o < j := (fun z => q2 (nlt_ (b := j) z (by omega)))
    refine wp_iload dX11_settlingOrbit_71 rfl ?_
    refine wp_iconst (-1 : Int32) dX11_settlingOrbit_73 (by decide) ?_
    refine wp_icmp_ne 100 dX11_settlingOrbit_74 (by decide) (fun _ => ?_) (fun q => absurd q (nI_ne1b (by omega)))
    refine wp_aload_n dX11_settlingOrbit_100 rfl ?_
    refine wp_forget [lvU, lvU, lvU, lvU, .int (nI p), lvU] ⟨Or.inr rfl, Or.inr rfl, Or.inr rfl, Or.inr rfl, Or.inl rfl, Or.inr rfl, trivial⟩ ?_
    refine wp_callV (As := []) (S := []) (b' := (0, 0)) (b := (0, 0)) dX11_settlingOrbit_101 MX11_205 (ka hF 293 (by decide)) rfl rfl rfl rfl (Nat.le_of_ble_eq_true rfl) ?_
    exact e2 hp4

theorem y0M_so {G : Cx} {d : Nat} {m : Mm} {Q : Option Value → Mm → Prop} {p : Nat} (hF : Full G m) 
    (e1 : Q (some (.int (nI p))) m) :
    WP G (d + 10) (0, 0) μX11_settlingOrbit 104 [lvU, lvU, lvU, lvU, .int (nI p), lvU] [] m Q := by
  refine wp_iload dX11_settlingOrbit_104 rfl ?_
  exact wp_iret dX11_settlingOrbit_106 rfl (e1)

theorem y1M_so {G : Cx} {d : Nat} {m : Mm} {Q : Option Value → Mm → Prop} {p : Nat} (hF : Full G m) 
    (e1 : Q (some (.int (nI p))) m) :
    WP G (d + 10) (0, 0) μX11_settlingOrbit 104 [lvU, lvU, lvU, lvU, .int (nI p), lvU] [] m Q := by
  refine wp_iload dX11_settlingOrbit_104 rfl ?_
  exact wp_iret dX11_settlingOrbit_106 rfl (e1)

theorem eM_ir {G : Cx} {d : Nat} {m : Mm} {Q : Option Value → Mm → Prop} {w : Nat} {x : Int32} (hF : Full G m) 
    (e1 : WP G (d + 8) (0, 0) μX11_isRepeated 2 [.ref (gB G + 293), .int (nI w), .int x, .int (0 : Int32), lvU] [] m Q) :
    WPM G (d + 8) (0, 0) μX11_isRepeated [.ref (gB G + 293), .int (nI w), .int x] m Q := by
  refine WPM.of pX11 (Nat.le_of_ble_eq_true rfl) rfl ?_
  refine wp_iconst (0 : Int32) dX11_isRepeated_0 (by decide) ?_
  refine wp_istore_n dX11_isRepeated_1 (by decide) rfl ?_
  refine wp_forget [.ref (gB G + 293), .int (nI w), .int x, .int (0 : Int32), lvU] ⟨Or.inl rfl, Or.inl rfl, Or.inl rfl, Or.inl rfl, Or.inr rfl, trivial⟩ ?_
  exact e1

theorem bM_ir {G : Cx} {d : Nat} {m : Mm} {Q : Option Value → Mm → Prop} {w i n : Nat} {x : Int32} (hF : Full G m) (hn : ai m (gB G + 294) 12 = nI n) (hm : n ≤ 12) (hi : i ≤ n)
    (e1 : ¬ i < n → WP G (d + 8) (0, 0) μX11_isRepeated 33 [.ref (gB G + 293), .int (nI w), .int x, .int (0 : Int32), lvU] [] m Q)
    (e2 : i < n → WP G (d + 8) (0, 0) μX11_isRepeated 2 [.ref (gB G + 293), .int (nI w), .int x, .int (nI (i + 1)), lvU] [] (wai m (gB G + 302) i (ai m (gB G + 294) (11 * i + 21))) Q) :
    WP G (d + 8) (0, 0) μX11_isRepeated 2 [.ref (gB G + 293), .int (nI w), .int x, .int (nI i), lvU] [] m Q := by
  refine wp_iload_n dX11_isRepeated_2 rfl ?_
  refine wp_aload_n dX11_isRepeated_3 rfl ?_
  refine wp_getr (gB G + 294) dX11_isRepeated_4 fX11_7 (ka hF 293 (by decide)) (hF.2 _ _) (rra 1 (isK_le (ka hF 293 (by decide))) (fun _ => rfl)) ?_
  refine wp_bipush (12 : Int32) dX11_isRepeated_7 (by decide) ?_
  refine wp_ialdk (n := 1486) 12 (nI n) dX11_isRepeated_9 (ka hF 294 (by decide)) (la 294) (vinl (by decide)) rfl hn ?_
  refine wp_icmp_ge 31 dX11_isRepeated_10 (by decide) (fun q1 => ?_) (fun q2 => ?_)
  · have hp3 : ¬ i < n := (fun z => q1 (nlt_ (b := n) z (by omega)))
    refine wp_iconst (0 : Int32) dX11_isRepeated_31 (by decide) ?_
    refine wp_istore_n dX11_isRepeated_32 (by decide) rfl ?_
    refine wp_forget [.ref (gB G + 293), .int (nI w), .int x, .int (0 : Int32), lvU] ⟨Or.inl rfl, Or.inl rfl, Or.inl rfl, Or.inl rfl, Or.inr rfl, trivial⟩ ?_
    exact e1 hp3
  · have hp4 : i < n := (nlt q2 (by omega) (by omega))
    refine wp_aload_n dX11_isRepeated_13 rfl ?_
    refine wp_getr (gB G + 302) dX11_isRepeated_14 fX11_36 (ka hF 293 (by decide)) (hF.2 _ _) (rra 9 (isK_le (ka hF 293 (by decide))) (fun _ => rfl)) ?_
    refine wp_iload_n dX11_isRepeated_17 rfl ?_
    refine wp_aload_n dX11_isRepeated_18 rfl ?_
    refine wp_iload_n dX11_isRepeated_19 rfl ?_
    refine wp_iconst (1 : Int32) dX11_isRepeated_20 (by decide) ?_
    refine wp_callV (As := [.int (nI i), .int (1 : Int32)]) (S := [.int (nI i), .ref (gB G + 302)]) (b' := (0, 0)) (b := (0, 0)) dX11_isRepeated_21 MX11_89 (ka hF 293 (by decide)) rfl rfl rfl rfl (Nat.le_of_ble_eq_true rfl) ?_
    refine WPM.of pX11 (Nat.le_of_ble_eq_true rfl) rfl ?_
    refine wp_aload_n dX11_node_0 rfl ?_
    refine wp_getr (gB G + 294) dX11_node_1 fX11_7 (ka hF 293 (by decide)) (hF.2 _ _) (rra 1 (isK_le (ka hF 293 (by decide))) (fun _ => rfl)) ?_
    refine wp_bipush (20 : Int32) dX11_node_4 (by decide) ?_
    refine wp_bipush (11 : Int32) dX11_node_6 (by decide) ?_
    refine wp_iload_n dX11_node_8 rfl ?_
    refine wp_imulv (nI (11 * i)) dX11_node_9 (nmul (a := 11) (b := i) (by omega)) ?_
    refine wp_iaddv (nI (11 * i + 20)) dX11_node_10 (nadd (a := 20) (b := 11 * i) (by omega)) ?_
    refine wp_iload_n dX11_node_11 rfl ?_
    refine wp_iaddv (nI (11 * i + 21)) dX11_node_12 (nadd (a := 11 * i + 20) (b := 1) (by omega)) ?_
    refine wp_ialdk (n := 1486) (11 * i + 21) (ai m (gB G + 294) (11 * i + 21)) dX11_node_13 (ka hF 294 (by decide)) (la 294) (vin (by omega) (by decide)) (nIc (by omega)) rfl ?_
    refine wp_iret dX11_node_14 rfl ?_
    show WP G (d + 8) (0, 0) μX11_isRepeated 24 [.ref (gB G + 293), .int (nI w), .int x, .int (nI i), lvU] [.int (ai m (gB G + 294) (11 * i + 21)), .int (nI i), .ref (gB G + 302)] m _
    refine wp_iastk (n := 12) i dX11_isRepeated_24 (ka hF 302 (by decide)) (la 302) (vin (by omega) (by decide))  (nIc (by omega)) ?_
    have hF5 := Full_wai (gB G + 302) i (ai m (gB G + 294) (11 * i + 21)) hF
    refine wp_iinc (nI (i + 1)) dX11_isRepeated_25 rfl (by decide) (nadd (a := i) (b := 1) (by omega)) rfl ?_
    refine wp_goto 2 dX11_isRepeated_28 (by decide) ?_
    refine wp_forget [.ref (gB G + 293), .int (nI w), .int x, .int (nI (i + 1)), lvU] ⟨Or.inl rfl, Or.inl rfl, Or.inl rfl, Or.inl rfl, Or.inr rfl, trivial⟩ ?_
    exact e2 hp4

theorem fM_ir {G : Cx} {d : Nat} {m : Mm} {Q : Option Value → Mm → Prop} {w t : Nat} {x : Int32} (hF : Full G m) (hw : w ≤ 4000) (ht : t ≤ w)
    (e1 : ¬ t < w → WP G (d + 8) (0, 0) μX11_isRepeated 55 [.ref (gB G + 293), lvU, .int x, .int (1 : Int32), .int (0 : Int32)] [] m Q)
    (e2 : t < w → WPM G (d + 7) (0, 0) μX11_step [.ref (gB G + 293)] m (fun r' m' => WP G (d + 8) (0, 0) μX11_isRepeated 42 [.ref (gB G + 293), .int (nI w), .int x, .int (nI t), lvU] (r'.toList ++ []) m' Q)) :
    WP G (d + 8) (0, 0) μX11_isRepeated 33 [.ref (gB G + 293), .int (nI w), .int x, .int (nI t), lvU] [] m Q := by
  refine wp_iload_n dX11_isRepeated_33 rfl ?_
  refine wp_iload_n dX11_isRepeated_34 rfl ?_
  refine wp_icmp_ge 50 dX11_isRepeated_35 (by decide) (fun q1 => ?_) (fun q2 => ?_)
  · have hp3 : ¬ t < w := (fun z => q1 (nlt_ (b := w) z (by omega)))
    refine wp_iconst (1 : Int32) dX11_isRepeated_50 (by decide) ?_
    refine wp_istore_n dX11_isRepeated_51 (by decide) rfl ?_
    refine wp_iconst (0 : Int32) dX11_isRepeated_52 (by decide) ?_
    refine wp_istore dX11_isRepeated_53 (by decide) rfl ?_
    refine wp_forget [.ref (gB G + 293), lvU, .int x, .int (1 : Int32), .int (0 : Int32)] ⟨Or.inl rfl, Or.inr rfl, Or.inl rfl, Or.inl rfl, Or.inl rfl, trivial⟩ ?_
    exact e1 hp3
  · have hp4 : t < w := (nlt q2 (by omega) (by omega))
    refine wp_aload_n dX11_isRepeated_38 rfl ?_
    refine wp_callV (As := []) (S := []) (b' := (0, 0)) (b := (0, 0)) dX11_isRepeated_39 MX11_182 (ka hF 293 (by decide)) rfl rfl rfl rfl (Nat.le_of_ble_eq_true rfl) ?_
    exact e2 hp4

theorem gM_ir {G : Cx} {d : Nat} {m : Mm} {Q : Option Value → Mm → Prop} {w t : Nat} {l2 : Int32} {r : Int32} (hF : Full G m) (hw : w ≤ 4000) (ht : t < w)
    (e1 : WP G (d + 8) (0, 0) μX11_isRepeated 33 [.ref (gB G + 293), .int (nI w), .int l2, .int (nI (t + 1)), lvU] [] m Q) :
    WP G (d + 8) (0, 0) μX11_isRepeated 42 [.ref (gB G + 293), .int (nI w), .int l2, .int (nI t), lvU] [.int r] m Q := by
  refine wp_istore dX11_isRepeated_42 (by decide) rfl ?_
  refine wp_iinc (nI (t + 1)) dX11_isRepeated_44 rfl (by decide) (nadd (a := t) (b := 1) (by omega)) rfl ?_
  refine wp_goto 33 dX11_isRepeated_47 (by decide) ?_
  refine wp_forget [.ref (gB G + 293), .int (nI w), .int l2, .int (nI (t + 1)), lvU] ⟨Or.inl rfl, Or.inl rfl, Or.inl rfl, Or.inl rfl, Or.inr rfl, trivial⟩ ?_
  exact e1

theorem h0M_ir {G : Cx} {d : Nat} {m : Mm} {Q : Option Value → Mm → Prop} {i n : Nat} {x : Int32} (hF : Full G m) (hn : ai m (gB G + 294) 12 = nI n) (hm : n ≤ 12) (hi : i ≤ n)
    (e1 : ¬ i < n → Q (some (.int (0 : Int32))) m)
    (e2 : i < n → WP G (d + 8) (0, 0) μX11_isRepeated 55 [.ref (gB G + 293), lvU, .int x, .int (0 : Int32), .int (nI (i + 1))] [] m Q) :
    WP G (d + 8) (0, 0) μX11_isRepeated 55 [.ref (gB G + 293), lvU, .int x, .int (0 : Int32), .int (nI i)] [] m Q := by
  refine wp_iload dX11_isRepeated_55 rfl ?_
  refine wp_aload_n dX11_isRepeated_57 rfl ?_
  refine wp_getr (gB G + 294) dX11_isRepeated_58 fX11_7 (ka hF 293 (by decide)) (hF.2 _ _) (rra 1 (isK_le (ka hF 293 (by decide))) (fun _ => rfl)) ?_
  refine wp_bipush (12 : Int32) dX11_isRepeated_61 (by decide) ?_
  refine wp_ialdk (n := 1486) 12 (nI n) dX11_isRepeated_63 (ka hF 294 (by decide)) (la 294) (vinl (by decide)) rfl hn ?_
  refine wp_icmp_ge 105 dX11_isRepeated_64 (by decide) (fun q1 => ?_) (fun q2 => ?_)
  · have hp3 : ¬ i < n := (fun z => q1 (nlt_ (b := n) z (by omega)))
    refine wp_iload_n dX11_isRepeated_105 rfl ?_
    exact wp_zret dX11_isRepeated_106 rfl rfl (e1 hp3)
  · have hp4 : i < n := (nlt q2 (by omega) (by omega))
    refine wp_iload_n dX11_isRepeated_67 rfl ?_
    refine wp_if_eq 97 dX11_isRepeated_68 (by decide) (fun _ => ?_) (fun q => absurd (by decide) q)
    refine wp_iconst (0 : Int32) dX11_isRepeated_97 (by decide) ?_
    refine wp_istore_n dX11_isRepeated_98 (by decide) rfl ?_
    refine wp_iinc (nI (i + 1)) dX11_isRepeated_99 rfl (by decide) (nadd (a := i) (b := 1) (by omega)) rfl ?_
    refine wp_goto 55 dX11_isRepeated_102 (by decide) ?_
    refine wp_forget [.ref (gB G + 293), lvU, .int x, .int (0 : Int32), .int (nI (i + 1))] ⟨Or.inl rfl, Or.inr rfl, Or.inl rfl, Or.inl rfl, Or.inl rfl, trivial⟩ ?_
    exact e2 hp4

theorem h1M_ir {G : Cx} {d : Nat} {m : Mm} {Q : Option Value → Mm → Prop} {i n : Nat} {x : Int32} (hF : Full G m) (hn : ai m (gB G + 294) 12 = nI n) (hm : n ≤ 12) (hi : i ≤ n)
    (e1 : ¬ i < n → Q (some (.int (1 : Int32))) m)
    (e2 : i < n → x < (iabs ((ai m (gB G + 294) (11 * i + 21)) - (ai m (gB G + 302) i))) → WP G (d + 8) (0, 0) μX11_isRepeated 55 [.ref (gB G + 293), lvU, .int x, .int (0 : Int32), .int (nI (i + 1))] [] m Q)
    (e3 : i < n → ¬ x < (iabs ((ai m (gB G + 294) (11 * i + 21)) - (ai m (gB G + 302) i))) → WP G (d + 8) (0, 0) μX11_isRepeated 55 [.ref (gB G + 293), lvU, .int x, .int (1 : Int32), .int (nI (i + 1))] [] m Q) :
    WP G (d + 8) (0, 0) μX11_isRepeated 55 [.ref (gB G + 293), lvU, .int x, .int (1 : Int32), .int (nI i)] [] m Q := by
  refine wp_iload dX11_isRepeated_55 rfl ?_
  refine wp_aload_n dX11_isRepeated_57 rfl ?_
  refine wp_getr (gB G + 294) dX11_isRepeated_58 fX11_7 (ka hF 293 (by decide)) (hF.2 _ _) (rra 1 (isK_le (ka hF 293 (by decide))) (fun _ => rfl)) ?_
  refine wp_bipush (12 : Int32) dX11_isRepeated_61 (by decide) ?_
  refine wp_ialdk (n := 1486) 12 (nI n) dX11_isRepeated_63 (ka hF 294 (by decide)) (la 294) (vinl (by decide)) rfl hn ?_
  refine wp_icmp_ge 105 dX11_isRepeated_64 (by decide) (fun q1 => ?_) (fun q2 => ?_)
  · have hp3 : ¬ i < n := (fun z => q1 (nlt_ (b := n) z (by omega)))
    refine wp_iload_n dX11_isRepeated_105 rfl ?_
    exact wp_zret dX11_isRepeated_106 rfl rfl (e1 hp3)
  · have hp4 : i < n := (nlt q2 (by omega) (by omega))
    refine wp_iload_n dX11_isRepeated_67 rfl ?_
    refine wp_if_eq 97 dX11_isRepeated_68 (by decide) (fun q => absurd q (by decide)) (fun _ => ?_)
    refine wp_aload_n dX11_isRepeated_71 rfl ?_
    refine wp_iload dX11_isRepeated_72 rfl ?_
    refine wp_iconst (1 : Int32) dX11_isRepeated_74 (by decide) ?_
    refine wp_callV (As := [.int (nI i), .int (1 : Int32)]) (S := []) (b' := (0, 0)) (b := (0, 0)) dX11_isRepeated_75 MX11_89 (ka hF 293 (by decide)) rfl rfl rfl rfl (Nat.le_of_ble_eq_true rfl) ?_
    refine WPM.of pX11 (Nat.le_of_ble_eq_true rfl) rfl ?_
    refine wp_aload_n dX11_node_0 rfl ?_
    refine wp_getr (gB G + 294) dX11_node_1 fX11_7 (ka hF 293 (by decide)) (hF.2 _ _) (rra 1 (isK_le (ka hF 293 (by decide))) (fun _ => rfl)) ?_
    refine wp_bipush (20 : Int32) dX11_node_4 (by decide) ?_
    refine wp_bipush (11 : Int32) dX11_node_6 (by decide) ?_
    refine wp_iload_n dX11_node_8 rfl ?_
    refine wp_imulv (nI (11 * i)) dX11_node_9 (nmul (a := 11) (b := i) (by omega)) ?_
    refine wp_iaddv (nI (11 * i + 20)) dX11_node_10 (nadd (a := 20) (b := 11 * i) (by omega)) ?_
    refine wp_iload_n dX11_node_11 rfl ?_
    refine wp_iaddv (nI (11 * i + 21)) dX11_node_12 (nadd (a := 11 * i + 20) (b := 1) (by omega)) ?_
    refine wp_ialdk (n := 1486) (11 * i + 21) (ai m (gB G + 294) (11 * i + 21)) dX11_node_13 (ka hF 294 (by decide)) (la 294) (vin (by omega) (by decide)) (nIc (by omega)) rfl ?_
    refine wp_iret dX11_node_14 rfl ?_
    show WP G (d + 8) (0, 0) μX11_isRepeated 78 [.ref (gB G + 293), lvU, .int x, .int (1 : Int32), .int (nI i)] [.int (ai m (gB G + 294) (11 * i + 21))] m _
    refine wp_aload_n dX11_isRepeated_78 rfl ?_
    refine wp_getr (gB G + 302) dX11_isRepeated_79 fX11_36 (ka hF 293 (by decide)) (hF.2 _ _) (rra 9 (isK_le (ka hF 293 (by decide))) (fun _ => rfl)) ?_
    refine wp_iload dX11_isRepeated_82 rfl ?_
    refine wp_ialdk (n := 12) i (ai m (gB G + 302) i) dX11_isRepeated_84 (ka hF 302 (by decide)) (la 302) (vin (by omega) (by decide)) (nIc (by omega)) rfl ?_
    refine wp_isubv ((ai m (gB G + 294) (11 * i + 21)) - (ai m (gB G + 302) i)) dX11_isRepeated_85 rfl ?_
    refine wp_absI dX11_isRepeated_86 AX11_211 (Nat.le_of_ble_eq_true rfl) ?_
    refine wp_iload_n dX11_isRepeated_89 rfl ?_
    refine wp_icmp_gt 97 dX11_isRepeated_90 (by decide) (fun q5 => ?_) (fun q6 => ?_)
    · skip
      refine wp_iconst (0 : Int32) dX11_isRepeated_97 (by decide) ?_
      refine wp_istore_n dX11_isRepeated_98 (by decide) rfl ?_
      refine wp_iinc (nI (i + 1)) dX11_isRepeated_99 rfl (by decide) (nadd (a := i) (b := 1) (by omega)) rfl ?_
      refine wp_goto 55 dX11_isRepeated_102 (by decide) ?_
      refine wp_forget [.ref (gB G + 293), lvU, .int x, .int (0 : Int32), .int (nI (i + 1))] ⟨Or.inl rfl, Or.inr rfl, Or.inl rfl, Or.inl rfl, Or.inl rfl, trivial⟩ ?_
      exact e2 hp4 q5
    · skip
      refine wp_iconst (1 : Int32) dX11_isRepeated_93 (by decide) ?_
      refine wp_goto 98 dX11_isRepeated_94 (by decide) ?_
      refine wp_istore_n dX11_isRepeated_98 (by decide) rfl ?_
      refine wp_iinc (nI (i + 1)) dX11_isRepeated_99 rfl (by decide) (nadd (a := i) (b := 1) (by omega)) rfl ?_
      refine wp_goto 55 dX11_isRepeated_102 (by decide) ?_
      refine wp_forget [.ref (gB G + 293), lvU, .int x, .int (1 : Int32), .int (nI (i + 1))] ⟨Or.inl rfl, Or.inr rfl, Or.inl rfl, Or.inl rfl, Or.inl rfl, trivial⟩ ?_
      exact e3 hp4 q6
