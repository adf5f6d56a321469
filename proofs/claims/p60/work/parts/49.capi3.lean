theorem iC_addHeater {G : Cx} {d : Nat} {m : Mm} {Q : Option Value → Mm → Prop} {y z w u : Int32} {i n : Nat} {q : Nat}  (hF : Full G m) (hn : fi m 5 (gB G + 1) = nI (n + 1)) (hm : n + 1 ≤ 12) (hi : i < n + 1) (hnl : fi m 8 (gB G + 1) = nI q) (hml : q ≤ 8) 
    (e1 : y < (0 : Int32) → Q (some (.int (-1000000002 : Int32))) m)
    (e2 : ¬ y < (0 : Int32) → (100000 : Int32) < y → Q (some (.int (-1000000002 : Int32))) m)
    (e3 : ¬ y < (0 : Int32) → ¬ (100000 : Int32) < y → w < (-200000 : Int32) → Q (some (.int (-1000000002 : Int32))) m)
    (e4 : ¬ y < (0 : Int32) → ¬ (100000 : Int32) < y → ¬ w < (-200000 : Int32) → (200000 : Int32) < w → Q (some (.int (-1000000002 : Int32))) m)
    (e5 : ¬ y < (0 : Int32) → ¬ (100000 : Int32) < y → ¬ w < (-200000 : Int32) → ¬ (200000 : Int32) < w → z < (-200000 : Int32) → Q (some (.int (-1000000002 : Int32))) m)
    (e6 : ¬ y < (0 : Int32) → ¬ (100000 : Int32) < y → ¬ w < (-200000 : Int32) → ¬ (200000 : Int32) < w → ¬ z < (-200000 : Int32) → w < z → Q (some (.int (-1000000002 : Int32))) m)
    (e7 : ¬ y < (0 : Int32) → ¬ (100000 : Int32) < y → ¬ w < (-200000 : Int32) → ¬ (200000 : Int32) < w → ¬ z < (-200000 : Int32) → ¬ w < z → u < (0 : Int32) → Q (some (.int (-1000000002 : Int32))) m)
    (e8 : ¬ y < (0 : Int32) → ¬ (100000 : Int32) < y → ¬ w < (-200000 : Int32) → ¬ (200000 : Int32) < w → ¬ z < (-200000 : Int32) → ¬ w < z → ¬ u < (0 : Int32) → (9 : Int32) < u → Q (some (.int (-1000000002 : Int32))) m)
    (e9 : ¬ y < (0 : Int32) → ¬ (100000 : Int32) < y → ¬ w < (-200000 : Int32) → ¬ (200000 : Int32) < w → ¬ z < (-200000 : Int32) → ¬ w < z → ¬ u < (0 : Int32) → ¬ (9 : Int32) < u → q < 8 → WPM G (d + 5) (0, 0) μX0_rankHeater [.ref (gB G + 1), .int (nI q)] (wfi (wfi (wfi (wfi (wfi (wfi (wfi (wfi (wfi m 100 (ht (gB G + 1) q) (nI i)) 101 (ht (gB G + 1) q) y) 102 (ht (gB G + 1) q) z) 103 (ht (gB G + 1) q) w) 104 (ht (gB G + 1) q) u) 105 (ht (gB G + 1) q) (0 : Int32)) 106 (ht (gB G + 1) q) (0 : Int32)) 107 (ht (gB G + 1) q) (0 : Int32)) 8 (gB G + 1) (nI (q + 1))) (fun r' m' => WP G (d + 6) (0, 0) μX10_addHeater 120 [lvU, lvU, lvU, lvU, lvU, lvU, .int (nI q)] (r'.toList ++ []) m' Q))
    (e10 : ¬ y < (0 : Int32) → ¬ (100000 : Int32) < y → ¬ w < (-200000 : Int32) → ¬ (200000 : Int32) < w → ¬ z < (-200000 : Int32) → ¬ w < z → ¬ u < (0 : Int32) → ¬ (9 : Int32) < u → ¬ q < 8 → Q (some (.int (-1000000003 : Int32))) m) :
    WPM G (d + 6) (0, 0) μX10_addHeater [.ref (gB G), .int (nI i), .int y, .int z, .int w, .int u] m Q := by
  refine WPM.of pX10 (Nat.le_of_ble_eq_true rfl) rfl ?_
  refine wp_aload_n dX10_addHeater_0 rfl ?_
  refine wp_getr (gB G + 1) dX10_addHeater_1 fX10_10 (ka0 hF) (hF.2 _ _) (rra 1 (isK_le (ka0 hF)) (fun _ => rfl)) ?_
  refine wp_iload_n dX10_addHeater_4 rfl ?_
  refine wp_callV (As := [.int (nI i)]) (S := []) (b' := (0, 0)) (b := (0, 0)) dX10_addHeater_5 MX10_58 (kc0 hF (isC1 G)) rfl rfl rfl rfl (Nat.le_of_ble_eq_true rfl) ?_
  refine WPM.of pX0 (Nat.le_of_ble_eq_true rfl) rfl ?_
  refine wp_iload_n dX0_hasNode_0 rfl ?_
  refine wp_if_lt 16 dX0_hasNode_1 (by decide) (fun q => absurd q (nI_pos (by omega))) (fun _ => ?_)
  refine wp_iload_n dX0_hasNode_4 rfl ?_
  refine wp_aload_n dX0_hasNode_5 rfl ?_
  refine wp_geti (nI (n + 1)) dX0_hasNode_6 fX0_75 (Or.inl rfl) (kc0 hF (isC1 G)) hn ?_
  refine wp_icmp_ge 16 dX0_hasNode_9 (by decide) (fun q => absurd (nlt_ (a := i) (b := n + 1) hi (by omega)) q) (fun _ => ?_)
  refine wp_iconst (1 : Int32) dX0_hasNode_12 (by decide) ?_
  refine wp_goto 17 dX0_hasNode_13 (by decide) ?_
  refine wp_zret dX0_hasNode_17 rfl rfl ?_
  show WP G (d + 6) (0, 0) μX10_addHeater 8 [.ref (gB G), .int (nI i), .int y, .int z, .int w, .int u, lvU] [.int (1 : Int32)] m _
  refine wp_if_ne 14 dX10_addHeater_8 (by decide) (fun _ => ?_) (fun q => absurd q (by decide))
  refine wp_iload_n dX10_addHeater_14 rfl ?_
  refine wp_iconst (0 : Int32) dX10_addHeater_15 (by decide) ?_
  refine wp_ldc dX10_addHeater_16 kX10_34 ?_
  refine wp_callS (As := [.int y, .int (0 : Int32), .int (100000 : Int32)]) (S := []) (b' := (0, 0)) (b := (0, 0)) dX10_addHeater_18 MX10_35 rfl rfl (Nat.le_of_ble_eq_true rfl) ?_
  refine WPM.of pX10 (Nat.le_of_ble_eq_true rfl) rfl ?_
  refine wp_iload_n dX10_within_0 rfl ?_
  refine wp_iload_n dX10_within_1 rfl ?_
  refine wp_icmp_lt 14 dX10_within_2 (by decide) (fun q1 => ?_) (fun q2 => ?_)
  · skip
    refine wp_iconst (0 : Int32) dX10_within_14 (by decide) ?_
    refine wp_zret dX10_within_15 rfl rfl ?_
    show WP G (d + 6) (0, 0) μX10_addHeater 21 [.ref (gB G), .int (nI i), .int y, .int z, .int w, .int u, lvU] [.int (0 : Int32)] m _
    refine wp_if_eq 58 dX10_addHeater_21 (by decide) (fun _ => ?_) (fun q => absurd (by decide) q)
    refine wp_ldc dX10_addHeater_58 kX10_42 ?_
    exact wp_iret dX10_addHeater_60 rfl (e1 q1)
  · skip
    refine wp_iload_n dX10_within_5 rfl ?_
    refine wp_iload_n dX10_within_6 rfl ?_
    refine wp_icmp_gt 14 dX10_within_7 (by decide) (fun q3 => ?_) (fun q4 => ?_)
    · skip
      refine wp_iconst (0 : Int32) dX10_within_14 (by decide) ?_
      refine wp_zret dX10_within_15 rfl rfl ?_
      show WP G (d + 6) (0, 0) μX10_addHeater 21 [.ref (gB G), .int (nI i), .int y, .int z, .int w, .int u, lvU] [.int (0 : Int32)] m _
      refine wp_if_eq 58 dX10_addHeater_21 (by decide) (fun _ => ?_) (fun q => absurd (by decide) q)
      refine wp_ldc dX10_addHeater_58 kX10_42 ?_
      exact wp_iret dX10_addHeater_60 rfl (e2 q2 q3)
    · skip
      refine wp_iconst (1 : Int32) dX10_within_10 (by decide) ?_
      refine wp_goto 15 dX10_within_11 (by decide) ?_
      refine wp_zret dX10_within_15 rfl rfl ?_
      show WP G (d + 6) (0, 0) μX10_addHeater 21 [.ref (gB G), .int (nI i), .int y, .int z, .int w, .int u, lvU] [.int (1 : Int32)] m _
      refine wp_if_eq 58 dX10_addHeater_21 (by decide) (fun q => absurd q (by decide)) (fun _ => ?_)
      refine wp_iload dX10_addHeater_24 rfl ?_
      refine wp_ldc dX10_addHeater_26 kX10_39 ?_
      refine wp_ldc dX10_addHeater_28 kX10_40 ?_
      refine wp_callS (As := [.int w, .int (-200000 : Int32), .int (200000 : Int32)]) (S := []) (b' := (0, 0)) (b := (0, 0)) dX10_addHeater_30 MX10_35 rfl rfl (Nat.le_of_ble_eq_true rfl) ?_
      refine WPM.of pX10 (Nat.le_of_ble_eq_true rfl) rfl ?_
      refine wp_iload_n dX10_within_0 rfl ?_
      refine wp_iload_n dX10_within_1 rfl ?_
      refine wp_icmp_lt 14 dX10_within_2 (by decide) (fun q5 => ?_) (fun q6 => ?_)
      · skip
        refine wp_iconst (0 : Int32) dX10_within_14 (by decide) ?_
        refine wp_zret dX10_within_15 rfl rfl ?_
        show WP G (d + 6) (0, 0) μX10_addHeater 33 [.ref (gB G), .int (nI i), .int y, .int z, .int w, .int u, lvU] [.int (0 : Int32)] m _
        refine wp_if_eq 58 dX10_addHeater_33 (by decide) (fun _ => ?_) (fun q => absurd (by decide) q)
        refine wp_ldc dX10_addHeater_58 kX10_42 ?_
        exact wp_iret dX10_addHeater_60 rfl (e3 q2 q4 q5)
      · skip
        refine wp_iload_n dX10_within_5 rfl ?_
        refine wp_iload_n dX10_within_6 rfl ?_
        refine wp_icmp_gt 14 dX10_within_7 (by decide) (fun q7 => ?_) (fun q8 => ?_)
        · skip
          refine wp_iconst (0 : Int32) dX10_within_14 (by decide) ?_
          refine wp_zret dX10_within_15 rfl rfl ?_
          show WP G (d + 6) (0, 0) μX10_addHeater 33 [.ref (gB G), .int (nI i), .int y, .int z, .int w, .int u, lvU] [.int (0 : Int32)] m _
          refine wp_if_eq 58 dX10_addHeater_33 (by decide) (fun _ => ?_) (fun q => absurd (by decide) q)
          refine wp_ldc dX10_addHeater_58 kX10_42 ?_
          exact wp_iret dX10_addHeater_60 rfl (e4 q2 q4 q6 q7)
        · skip
          refine wp_iconst (1 : Int32) dX10_within_10 (by decide) ?_
          refine wp_goto 15 dX10_within_11 (by decide) ?_
          refine wp_zret dX10_within_15 rfl rfl ?_
          show WP G (d + 6) (0, 0) μX10_addHeater 33 [.ref (gB G), .int (nI i), .int y, .int z, .int w, .int u, lvU] [.int (1 : Int32)] m _
          refine wp_if_eq 58 dX10_addHeater_33 (by decide) (fun q => absurd q (by decide)) (fun _ => ?_)
          refine wp_iload_n dX10_addHeater_36 rfl ?_
          refine wp_ldc dX10_addHeater_37 kX10_39 ?_
          refine wp_iload dX10_addHeater_39 rfl ?_
          refine wp_callS (As := [.int z, .int (-200000 : Int32), .int w]) (S := []) (b' := (0, 0)) (b := (0, 0)) dX10_addHeater_41 MX10_35 rfl rfl (Nat.le_of_ble_eq_true rfl) ?_
          refine WPM.of pX10 (Nat.le_of_ble_eq_true rfl) rfl ?_
          refine wp_iload_n dX10_within_0 rfl ?_
          refine wp_iload_n dX10_within_1 rfl ?_
          refine wp_icmp_lt 14 dX10_within_2 (by decide) (fun q9 => ?_) (fun q10 => ?_)
          · skip
            refine wp_iconst (0 : Int32) dX10_within_14 (by decide) ?_
            refine wp_zret dX10_within_15 rfl rfl ?_
            show WP G (d + 6) (0, 0) μX10_addHeater 44 [.ref (gB G), .int (nI i), .int y, .int z, .int w, .int u, lvU] [.int (0 : Int32)] m _
            refine wp_if_eq 58 dX10_addHeater_44 (by decide) (fun _ => ?_) (fun q => absurd (by decide) q)
            refine wp_ldc dX10_addHeater_58 kX10_42 ?_
            exact wp_iret dX10_addHeater_60 rfl (e5 q2 q4 q6 q8 q9)
          · skip
            refine wp_iload_n dX10_within_5 rfl ?_
            refine wp_iload_n dX10_within_6 rfl ?_
            refine wp_icmp_gt 14 dX10_within_7 (by decide) (fun q11 => ?_) (fun q12 => ?_)
            · skip
              refine wp_iconst (0 : Int32) dX10_within_14 (by decide) ?_
              refine wp_zret dX10_within_15 rfl rfl ?_
              show WP G (d + 6) (0, 0) μX10_addHeater 44 [.ref (gB G), .int (nI i), .int y, .int z, .int w, .int u, lvU] [.int (0 : Int32)] m _
              refine wp_if_eq 58 dX10_addHeater_44 (by decide) (fun _ => ?_) (fun q => absurd (by decide) q)
              refine wp_ldc dX10_addHeater_58 kX10_42 ?_
              exact wp_iret dX10_addHeater_60 rfl (e6 q2 q4 q6 q8 q10 q11)
            · skip
              refine wp_iconst (1 : Int32) dX10_within_10 (by decide) ?_
              refine wp_goto 15 dX10_within_11 (by decide) ?_
              refine wp_zret dX10_within_15 rfl rfl ?_
              show WP G (d + 6) (0, 0) μX10_addHeater 44 [.ref (gB G), .int (nI i), .int y, .int z, .int w, .int u, lvU] [.int (1 : Int32)] m _
              refine wp_if_eq 58 dX10_addHeater_44 (by decide) (fun q => absurd q (by decide)) (fun _ => ?_)
              refine wp_iload dX10_addHeater_47 rfl ?_
              refine wp_iconst (0 : Int32) dX10_addHeater_49 (by decide) ?_
              refine wp_bipush (9 : Int32) dX10_addHeater_50 (by decide) ?_
              refine wp_callS (As := [.int u, .int (0 : Int32), .int (9 : Int32)]) (S := []) (b' := (0, 0)) (b := (0, 0)) dX10_addHeater_52 MX10_35 rfl rfl (Nat.le_of_ble_eq_true rfl) ?_
              refine WPM.of pX10 (Nat.le_of_ble_eq_true rfl) rfl ?_
              refine wp_iload_n dX10_within_0 rfl ?_
              refine wp_iload_n dX10_within_1 rfl ?_
              refine wp_icmp_lt 14 dX10_within_2 (by decide) (fun q13 => ?_) (fun q14 => ?_)
              · skip
                refine wp_iconst (0 : Int32) dX10_within_14 (by decide) ?_
                refine wp_zret dX10_within_15 rfl rfl ?_
                show WP G (d + 6) (0, 0) μX10_addHeater 55 [.ref (gB G), .int (nI i), .int y, .int z, .int w, .int u, lvU] [.int (0 : Int32)] m _
                refine wp_if_ne 61 dX10_addHeater_55 (by decide) (fun q => absurd (by decide) q) (fun _ => ?_)
                refine wp_ldc dX10_addHeater_58 kX10_42 ?_
                exact wp_iret dX10_addHeater_60 rfl (e7 q2 q4 q6 q8 q10 q12 q13)
              · skip
                refine wp_iload_n dX10_within_5 rfl ?_
                refine wp_iload_n dX10_within_6 rfl ?_
                refine wp_icmp_gt 14 dX10_within_7 (by decide) (fun q15 => ?_) (fun q16 => ?_)
                · skip
                  refine wp_iconst (0 : Int32) dX10_within_14 (by decide) ?_
                  refine wp_zret dX10_within_15 rfl rfl ?_
                  show WP G (d + 6) (0, 0) μX10_addHeater 55 [.ref (gB G), .int (nI i), .int y, .int z, .int w, .int u, lvU] [.int (0 : Int32)] m _
                  refine wp_if_ne 61 dX10_addHeater_55 (by decide) (fun q => absurd (by decide) q) (fun _ => ?_)
                  refine wp_ldc dX10_addHeater_58 kX10_42 ?_
                  exact wp_iret dX10_addHeater_60 rfl (e8 q2 q4 q6 q8 q10 q12 q14 q15)
                · skip
                  refine wp_iconst (1 : Int32) dX10_within_10 (by decide) ?_
                  refine wp_goto 15 dX10_within_11 (by decide) ?_
                  refine wp_zret dX10_within_15 rfl rfl ?_
                  show WP G (d + 6) (0, 0) μX10_addHeater 55 [.ref (gB G), .int (nI i), .int y, .int z, .int w, .int u, lvU] [.int (1 : Int32)] m _
                  refine wp_if_ne 61 dX10_addHeater_55 (by decide) (fun _ => ?_) (fun q => absurd q (by decide))
                  refine wp_aload_n dX10_addHeater_61 rfl ?_
                  refine wp_getr (gB G + 1) dX10_addHeater_62 fX10_10 (ka0 hF) (hF.2 _ _) (rra 1 (isK_le (ka0 hF)) (fun _ => rfl)) ?_
                  refine wp_geti (nI q) dX10_addHeater_65 fX10_110 (Or.inl rfl) (kc0 hF (isC1 G)) hnl ?_
                  refine wp_istore dX10_addHeater_68 (by decide) rfl ?_
                  refine wp_iload dX10_addHeater_70 rfl ?_
                  refine wp_bipush (8 : Int32) dX10_addHeater_72 (by decide) ?_
                  refine wp_icmp_lt 80 dX10_addHeater_74 (by decide) (fun q17 => ?_) (fun q18 => ?_)
                  · have hp19 : q < 8 := (nlt q17 (by omega) (by omega))
                    refine wp_aload_n dX10_addHeater_80 rfl ?_
                    refine wp_getr (gB G + 1) dX10_addHeater_81 fX10_10 (ka0 hF) (hF.2 _ _) (rra 1 (isK_le (ka0 hF)) (fun _ => rfl)) ?_
                    refine wp_getr ((gB G + 1) + 4) dX10_addHeater_84 fX10_113 (kc0 hF (isC1 G)) (hF.2 _ _) (rra 4 (isK_le (kc0 hF (isC1 G))) (fun _ => rfl)) ?_
                    refine wp_iload dX10_addHeater_87 rfl ?_
                    refine wp_raldk (n := 8) q (ht (gB G + 1) q) dX10_addHeater_89 (kc hF (isC1 G) 4 (by decide)) (by decide) (by decide) (lc (isC1 G) 4 (by decide)) (vin (by omega) (by decide)) (nIc (by omega)) (hF.2 _ _) (rht hF (isC1 G)) ?_
                    refine wp_iload_n dX10_addHeater_90 rfl ?_
                    refine wp_iload_n dX10_addHeater_91 rfl ?_
                    refine wp_iload_n dX10_addHeater_92 rfl ?_
                    refine wp_iload dX10_addHeater_93 rfl ?_
                    refine wp_iload dX10_addHeater_95 rfl ?_
                    refine wp_callV (As := [.int (nI i), .int y, .int z, .int w, .int u]) (S := []) (b' := (0, 0)) (b := (0, 0)) dX10_addHeater_97 MX10_117 (kht hF (isC1 G) (by omega)) rfl rfl rfl rfl (Nat.le_of_ble_eq_true rfl) ?_
                    refine WPM.of pX1 (Nat.le_of_ble_eq_true rfl) rfl ?_
                    refine wp_aload_n dX1_begin_0 rfl ?_
                    refine wp_iload_n dX1_begin_1 rfl ?_
                    refine wp_puti dX1_begin_2 pX1_9 (kht hF (isC1 G) (by omega)) ?_
                    have hF20 := Full_wfi 100 (ht (gB G + 1) q) (nI i) hF
                    refine wp_aload_n dX1_begin_5 rfl ?_
                    refine wp_iload_n dX1_begin_6 rfl ?_
                    refine wp_puti dX1_begin_7 pX1_15 (kht hF20 (isC1 G) (by omega)) ?_
                    have hF21 := Full_wfi 101 (ht (gB G + 1) q) y hF20
                    refine wp_aload_n dX1_begin_10 rfl ?_
                    refine wp_iload_n dX1_begin_11 rfl ?_
                    refine wp_puti dX1_begin_12 pX1_18 (kht hF21 (isC1 G) (by omega)) ?_
                    have hF22 := Full_wfi 102 (ht (gB G + 1) q) z hF21
                    refine wp_aload_n dX1_begin_15 rfl ?_
                    refine wp_iload dX1_begin_16 rfl ?_
                    refine wp_puti dX1_begin_18 pX1_21 (kht hF22 (isC1 G) (by omega)) ?_
                    have hF23 := Full_wfi 103 (ht (gB G + 1) q) w hF22
                    refine wp_aload_n dX1_begin_21 rfl ?_
                    refine wp_iload dX1_begin_22 rfl ?_
                    refine wp_puti dX1_begin_24 pX1_24 (kht hF23 (isC1 G) (by omega)) ?_
                    have hF24 := Full_wfi 104 (ht (gB G + 1) q) u hF23
                    refine wp_aload_n dX1_begin_27 rfl ?_
                    refine wp_iconst (0 : Int32) dX1_begin_28 (by decide) ?_
                    refine wp_puti dX1_begin_29 pX1_27 (kht hF24 (isC1 G) (by omega)) ?_
                    have hF25 := Full_wfi 105 (ht (gB G + 1) q) (0 : Int32) hF24
                    refine wp_aload_n dX1_begin_32 rfl ?_
                    refine wp_iconst (0 : Int32) dX1_begin_33 (by decide) ?_
                    refine wp_putz dX1_begin_34 pX1_30 (kht hF25 (isC1 G) (by omega)) (Or.inl rfl) ?_
                    have hF26 := Full_wfi 106 (ht (gB G + 1) q) (0 : Int32) hF25
                    refine wp_aload_n dX1_begin_37 rfl ?_
                    refine wp_iconst (0 : Int32) dX1_begin_38 (by decide) ?_
                    refine wp_puti dX1_begin_39 pX1_34 (kht hF26 (isC1 G) (by omega)) ?_
                    have hF27 := Full_wfi 107 (ht (gB G + 1) q) (0 : Int32) hF26
                    refine wp_vret dX1_begin_42 rfl ?_
                    show WP G (d + 6) (0, 0) μX10_addHeater 100 [.ref (gB G), .int (nI i), .int y, .int z, .int w, .int u, .int (nI q)] [] (wfi (wfi (wfi (wfi (wfi (wfi (wfi (wfi m 100 (ht (gB G + 1) q) (nI i)) 101 (ht (gB G + 1) q) y) 102 (ht (gB G + 1) q) z) 103 (ht (gB G + 1) q) w) 104 (ht (gB G + 1) q) u) 105 (ht (gB G + 1) q) (0 : Int32)) 106 (ht (gB G + 1) q) (0 : Int32)) 107 (ht (gB G + 1) q) (0 : Int32)) _
                    refine wp_aload_n dX10_addHeater_100 rfl ?_
                    refine wp_getr (gB G + 1) dX10_addHeater_101 fX10_10 (ka0 hF27) (hF27.2 _ _) (rra 1 (isK_le (ka0 hF27)) (fun _ => rfl)) ?_
                    refine wp_iload dX10_addHeater_104 rfl ?_
                    refine wp_iconst (1 : Int32) dX10_addHeater_106 (by decide) ?_
                    refine wp_iaddv (nI (q + 1)) dX10_addHeater_107 (nadd (a := q) (b := 1) (by omega)) ?_
                    refine wp_puti dX10_addHeater_108 pX10_110 (kc0 hF27 (isC1 G)) ?_
                    have hF28 := Full_wfi 8 (gB G + 1) (nI (q + 1)) hF27
                    refine wp_aload_n dX10_addHeater_111 rfl ?_
                    refine wp_getr (gB G + 1) dX10_addHeater_112 fX10_10 (ka0 hF28) (hF28.2 _ _) (rra 1 (isK_le (ka0 hF28)) (fun _ => rfl)) ?_
                    refine wp_iload dX10_addHeater_115 rfl ?_
                    refine wp_forget [lvU, lvU, lvU, lvU, lvU, lvU, .int (nI q)] ⟨Or.inr rfl, Or.inr rfl, Or.inr rfl, Or.inr rfl, Or.inr rfl, Or.inr rfl, Or.inl rfl, trivial⟩ ?_
                    refine wp_callV (As := [.int (nI q)]) (S := []) (b' := (0, 0)) (b := (0, 0)) dX10_addHeater_117 MX10_120 (kc0 hF28 (isC1 G)) rfl rfl rfl rfl (Nat.le_of_ble_eq_true rfl) ?_
                    exact e9 q2 q4 q6 q8 q10 q12 q14 q16 hp19
                  · have hp29 : ¬ q < 8 := (fun z => q18 (nlt_ (b := 8) z (by omega)))
                    refine wp_ldc dX10_addHeater_77 kX10_47 ?_
                    exact wp_iret dX10_addHeater_79 rfl (e10 q2 q4 q6 q8 q10 q12 q14 q16 hp29)

theorem jC_addHeater {G : Cx} {d : Nat} {m : Mm} {Q : Option Value → Mm → Prop} {q : Nat} (hF : Full G m) 
    (e1 : Q (some (.int (nI q))) m) :
    WP G (d + 6) (0, 0) μX10_addHeater 120 [lvU, lvU, lvU, lvU, lvU, lvU, .int (nI q)] [] m Q := by
  refine wp_iload dX10_addHeater_120 rfl ?_
  exact wp_iret dX10_addHeater_122 rfl (e1)

theorem aC_addHeater {G : Cx} {d : Nat} {m : Mm} {Q : Option Value → Mm → Prop} {x y z w u : Int32} {n : Nat}  (hF : Full G m) (hn : fi m 5 (gB G + 1) = nI n) (hm : n ≤ 12) (hx : x < 0) 
    (e1 : Q (some (.int (-1000000001 : Int32))) m) :
    WPM G (d + 6) (0, 0) μX10_addHeater [.ref (gB G), .int x, .int y, .int z, .int w, .int u] m Q := by
  refine WPM.of pX10 (Nat.le_of_ble_eq_true rfl) rfl ?_
  refine wp_aload_n dX10_addHeater_0 rfl ?_
  refine wp_getr (gB G + 1) dX10_addHeater_1 fX10_10 (ka0 hF) (hF.2 _ _) (rra 1 (isK_le (ka0 hF)) (fun _ => rfl)) ?_
  refine wp_iload_n dX10_addHeater_4 rfl ?_
  refine wp_callV (As := [.int x]) (S := []) (b' := (0, 0)) (b := (0, 0)) dX10_addHeater_5 MX10_58 (kc0 hF (isC1 G)) rfl rfl rfl rfl (Nat.le_of_ble_eq_true rfl) ?_
  refine WPM.of pX0 (Nat.le_of_ble_eq_true rfl) rfl ?_
  refine wp_iload_n dX0_hasNode_0 rfl ?_
  refine wp_if_lt 16 dX0_hasNode_1 (by decide) (fun _ => ?_) (fun q => absurd hx q)
  refine wp_iconst (0 : Int32) dX0_hasNode_16 (by decide) ?_
  refine wp_zret dX0_hasNode_17 rfl rfl ?_
  show WP G (d + 6) (0, 0) μX10_addHeater 8 [.ref (gB G), .int x, .int y, .int z, .int w, .int u, lvU] [.int (0 : Int32)] m _
  refine wp_if_ne 14 dX10_addHeater_8 (by decide) (fun q => absurd (by decide) q) (fun _ => ?_)
  refine wp_ldc dX10_addHeater_11 kX10_62 ?_
  exact wp_iret dX10_addHeater_13 rfl (e1)

theorem bC_addHeater {G : Cx} {d : Nat} {m : Mm} {Q : Option Value → Mm → Prop} {x y z w u : Int32} {n : Nat}  (hF : Full G m) (hn : fi m 5 (gB G + 1) = nI n) (hm : n ≤ 12) (hxa : ¬ x < 0) (hxb : ¬ x < nI n) 
    (e1 : Q (some (.int (-1000000001 : Int32))) m) :
    WPM G (d + 6) (0, 0) μX10_addHeater [.ref (gB G), .int x, .int y, .int z, .int w, .int u] m Q := by
  refine WPM.of pX10 (Nat.le_of_ble_eq_true rfl) rfl ?_
  refine wp_aload_n dX10_addHeater_0 rfl ?_
  refine wp_getr (gB G + 1) dX10_addHeater_1 fX10_10 (ka0 hF) (hF.2 _ _) (rra 1 (isK_le (ka0 hF)) (fun _ => rfl)) ?_
  refine wp_iload_n dX10_addHeater_4 rfl ?_
  refine wp_callV (As := [.int x]) (S := []) (b' := (0, 0)) (b := (0, 0)) dX10_addHeater_5 MX10_58 (kc0 hF (isC1 G)) rfl rfl rfl rfl (Nat.le_of_ble_eq_true rfl) ?_
  refine WPM.of pX0 (Nat.le_of_ble_eq_true rfl) rfl ?_
  refine wp_iload_n dX0_hasNode_0 rfl ?_
  refine wp_if_lt 16 dX0_hasNode_1 (by decide) (fun q => absurd q hxa) (fun _ => ?_)
  refine wp_iload_n dX0_hasNode_4 rfl ?_
  refine wp_aload_n dX0_hasNode_5 rfl ?_
  refine wp_geti (nI n) dX0_hasNode_6 fX0_75 (Or.inl rfl) (kc0 hF (isC1 G)) hn ?_
  refine wp_icmp_ge 16 dX0_hasNode_9 (by decide) (fun _ => ?_) (fun q => absurd q hxb)
  refine wp_iconst (0 : Int32) dX0_hasNode_16 (by decide) ?_
  refine wp_zret dX0_hasNode_17 rfl rfl ?_
  show WP G (d + 6) (0, 0) μX10_addHeater 8 [.ref (gB G), .int x, .int y, .int z, .int w, .int u, lvU] [.int (0 : Int32)] m _
  refine wp_if_ne 14 dX10_addHeater_8 (by decide) (fun q => absurd (by decide) q) (fun _ => ?_)
  refine wp_ldc dX10_addHeater_11 kX10_62 ?_
  exact wp_iret dX10_addHeater_13 rfl (e1)

theorem eC_rk {G : Cx} {d : Nat} {m : Mm} {Q : Option Value → Mm → Prop} {c n : Nat}  (hF : Full G m) (hc : IsC G c) (hn : n < 8) 
    (e1 : WP G (d + 2) (0, 0) μX0_rankHeater 4 [.ref c, .int (nI n), .int (0 : Int32), .int (0 : Int32)] [] m Q) :
    WPM G (d + 2) (0, 0) μX0_rankHeater [.ref c, .int (nI n)] m Q := by
  refine WPM.of pX0 (Nat.le_of_ble_eq_true rfl) rfl ?_
  refine wp_iconst (0 : Int32) dX0_rankHeater_0 (by decide) ?_
  refine wp_istore_n dX0_rankHeater_1 (by decide) rfl ?_
  refine wp_iconst (0 : Int32) dX0_rankHeater_2 (by decide) ?_
  refine wp_istore_n dX0_rankHeater_3 (by decide) rfl ?_
  refine wp_forget [.ref c, .int (nI n), .int (0 : Int32), .int (0 : Int32)] ⟨Or.inl rfl, Or.inl rfl, Or.inl rfl, Or.inl rfl, trivial⟩ ?_
  exact e1

theorem bC_rk {G : Cx} {d : Nat} {m : Mm} {Q : Option Value → Mm → Prop} {c n p j : Nat}  (hF : Full G m) (hc : IsC G c) (hn : n < 8) (hj : j < n) (hp : p ≤ j) 
    (e1 : (fi m 104 (ht c j)) < (fi m 104 (ht c n)) → WP G (d + 2) (0, 0) μX0_rankHeater 4 [.ref c, .int (nI n), .int (nI p), .int (nI (j + 1))] [] m Q)
    (e2 : ¬ (fi m 104 (ht c j)) < (fi m 104 (ht c n)) → WP G (d + 2) (0, 0) μX0_rankHeater 4 [.ref c, .int (nI n), .int (nI (p + 1)), .int (nI (j + 1))] [] m Q) :
    WP G (d + 2) (0, 0) μX0_rankHeater 4 [.ref c, .int (nI n), .int (nI p), .int (nI j)] [] m Q := by
  refine wp_iload_n dX0_rankHeater_4 rfl ?_
  refine wp_iload_n dX0_rankHeater_5 rfl ?_
  refine wp_icmp_ge 39 dX0_rankHeater_6 (by decide) (fun q => absurd (nlt_ (a := j) (b := n) hj (by omega)) q) (fun _ => ?_)
  refine wp_aload_n dX0_rankHeater_9 rfl ?_
  refine wp_getr (c + 4) dX0_rankHeater_10 fX0_31 (kc0 hF hc) (hF.2 _ _) (rra 4 (isK_le (kc0 hF hc)) (fun _ => rfl)) ?_
  refine wp_iload_n dX0_rankHeater_13 rfl ?_
  refine wp_raldk (n := 8) j (ht c j) dX0_rankHeater_14 (kc hF hc 4 (by decide)) (by decide) (by decide) (lc hc 4 (by decide)) (vin (by omega) (by decide)) (nIc (by omega)) (hF.2 _ _) (rht hF hc) ?_
  refine wp_geti (fi m 104 (ht c j)) dX0_rankHeater_15 fX0_126 (Or.inl rfl) (kht hF hc (by omega)) rfl ?_
  refine wp_aload_n dX0_rankHeater_18 rfl ?_
  refine wp_getr (c + 4) dX0_rankHeater_19 fX0_31 (kc0 hF hc) (hF.2 _ _) (rra 4 (isK_le (kc0 hF hc)) (fun _ => rfl)) ?_
  refine wp_iload_n dX0_rankHeater_22 rfl ?_
  refine wp_raldk (n := 8) n (ht c n) dX0_rankHeater_23 (kc hF hc 4 (by decide)) (by decide) (by decide) (lc hc 4 (by decide)) (vin (by omega) (by decide)) (nIc (by omega)) (hF.2 _ _) (rht hF hc) ?_
  refine wp_geti (fi m 104 (ht c n)) dX0_rankHeater_24 fX0_126 (Or.inl rfl) (kht hF hc (by omega)) rfl ?_
  refine wp_icmp_lt 33 dX0_rankHeater_27 (by decide) (fun q1 => ?_) (fun q2 => ?_)
  · skip
    refine wp_iinc (nI (j + 1)) dX0_rankHeater_33 rfl (by decide) (nadd (a := j) (b := 1) (by omega)) rfl ?_
    refine wp_goto 4 dX0_rankHeater_36 (by decide) ?_
    refine wp_forget [.ref c, .int (nI n), .int (nI p), .int (nI (j + 1))] ⟨Or.inl rfl, Or.inl rfl, Or.inl rfl, Or.inl rfl, trivial⟩ ?_
    exact e1 q1
  · skip
    refine wp_iinc (nI (p + 1)) dX0_rankHeater_30 rfl (by decide) (nadd (a := p) (b := 1) (by omega)) rfl ?_
    refine wp_iinc (nI (j + 1)) dX0_rankHeater_33 rfl (by decide) (nadd (a := j) (b := 1) (by omega)) rfl ?_
    refine wp_goto 4 dX0_rankHeater_36 (by decide) ?_
    refine wp_forget [.ref c, .int (nI n), .int (nI (p + 1)), .int (nI (j + 1))] ⟨Or.inl rfl, Or.inl rfl, Or.inl rfl, Or.inl rfl, trivial⟩ ?_
    exact e2 q2

theorem bC_rkx {G : Cx} {d : Nat} {m : Mm} {Q : Option Value → Mm → Prop} {c p r : Nat}  (hF : Full G m) (hc : IsC G c) (hn : p + r < 8) 
    (e1 : ∀ mc1 : Mm, Cpy m mc1 (c + 5) (c + 5) p (p + 1) r → Q none (wai mc1 (c + 5) p (nI (p + r)))) :
    WP G (d + 2) (0, 0) μX0_rankHeater 4 [.ref c, .int (nI (p + r)), .int (nI p), .int (nI (p + r))] [] m Q := by
  refine wp_iload_n dX0_rankHeater_4 rfl ?_
  refine wp_iload_n dX0_rankHeater_5 rfl ?_
  refine wp_icmp_ge 39 dX0_rankHeater_6 (by decide) (fun _ => ?_) (fun q => absurd q (nnlt (Nat.le_refl _) (by omega)))
  refine wp_aload_n dX0_rankHeater_39 rfl ?_
  refine wp_getr (c + 5) dX0_rankHeater_40 fX0_35 (kc0 hF hc) (hF.2 _ _) (rra 5 (isK_le (kc0 hF hc)) (fun _ => rfl)) ?_
  refine wp_iload_n dX0_rankHeater_43 rfl ?_
  refine wp_aload_n dX0_rankHeater_44 rfl ?_
  refine wp_getr (c + 5) dX0_rankHeater_45 fX0_35 (kc0 hF hc) (hF.2 _ _) (rra 5 (isK_le (kc0 hF hc)) (fun _ => rfl)) ?_
  refine wp_iload_n dX0_rankHeater_48 rfl ?_
  refine wp_iconst (1 : Int32) dX0_rankHeater_49 (by decide) ?_
  refine wp_iaddv (nI (p + 1)) dX0_rankHeater_50 (nadd (a := p) (b := 1) (by omega)) ?_
  refine wp_iload_n dX0_rankHeater_51 rfl ?_
  refine wp_iload_n dX0_rankHeater_52 rfl ?_
  refine wp_isubv (nI r) dX0_rankHeater_53 (nsub (a := p + r) (b := p) (by omega)) ?_
  refine wp_cpy (n0 := 8) (n1 := 8) p (p + 1) r dX0_rankHeater_54 YX0_129 (kc hF hc 5 (by decide)) (kc hF hc 5 (by decide)) (lc hc 5 (by decide)) (lc hc 5 (by decide)) (nI_pos (by omega)) (nI_pos (by omega)) (nI_pos (by omega)) (nIc (by omega)) (nIc (by omega)) (nIc (by omega)) (by omega) (by omega) (Nat.le_of_ble_eq_true rfl) ?_
  intro mc1 hm2
  have hF3 := hm2.full hF
  refine wp_aload_n dX0_rankHeater_57 rfl ?_
  refine wp_getr (c + 5) dX0_rankHeater_58 fX0_35 (kc0 hF3 hc) (hF3.2 _ _) (rra 5 (isK_le (kc0 hF3 hc)) (fun _ => rfl)) ?_
  refine wp_iload_n dX0_rankHeater_61 rfl ?_
  refine wp_iload_n dX0_rankHeater_62 rfl ?_
  refine wp_iastk (n := 8) p dX0_rankHeater_63 (kc hF3 hc 5 (by decide)) (lc hc 5 (by decide)) (vin (by omega) (by decide))  (nIc (by omega)) ?_
  have hF4 := Full_wai (c + 5) p (nI (p + r)) hF3
  exact wp_vret dX0_rankHeater_64 rfl (e1 mc1 hm2)

theorem eC_rr {G : Cx} {d : Nat} {m : Mm} {Q : Option Value → Mm → Prop}  (hF : Full G m) 
    (e1 : WP G (d + 3) (0, 0) μX10_resetRecords 23 [.ref (gB G), .int (fi m 601 ((gB G + 1) + 8)), .int (0 : Int32)] [] (wfl (wfl (wfl (wfi (wfi m 601 ((gB G + 1) + 8) (0 : Int32)) 602 ((gB G + 1) + 8) (0 : Int32)) 603 ((gB G + 1) + 8) (0 : Int64)) 604 ((gB G + 1) + 8) (0 : Int64)) 605 ((gB G + 1) + 8) (0 : Int64)) Q) :
    WPM G (d + 3) (0, 0) μX10_resetRecords [.ref (gB G)] m Q := by
  refine WPM.of pX10 (Nat.le_of_ble_eq_true rfl) rfl ?_
  refine wp_aload_n dX10_resetRecords_0 rfl ?_
  refine wp_getr (gB G + 1) dX10_resetRecords_1 fX10_10 (ka0 hF) (hF.2 _ _) (rra 1 (isK_le (ka0 hF)) (fun _ => rfl)) ?_
  refine wp_getr ((gB G + 1) + 8) dX10_resetRecords_4 fX10_213 (kc0 hF (isC1 G)) (hF.2 _ _) (rra 8 (isK_le (kc0 hF (isC1 G))) (fun _ => rfl)) ?_
  refine wp_geti (fi m 601 ((gB G + 1) + 8)) dX10_resetRecords_7 fX10_217 (Or.inl rfl) (kc hF (isC1 G) 8 (by decide)) rfl ?_
  refine wp_istore_n dX10_resetRecords_10 (by decide) rfl ?_
  refine wp_aload_n dX10_resetRecords_11 rfl ?_
  refine wp_getr (gB G + 1) dX10_resetRecords_12 fX10_10 (ka0 hF) (hF.2 _ _) (rra 1 (isK_le (ka0 hF)) (fun _ => rfl)) ?_
  refine wp_getr ((gB G + 1) + 8) dX10_resetRecords_15 fX10_213 (kc0 hF (isC1 G)) (hF.2 _ _) (rra 8 (isK_le (kc0 hF (isC1 G))) (fun _ => rfl)) ?_
  refine wp_callV (As := []) (S := []) (b' := (0, 0)) (b := (0, 0)) dX10_resetRecords_18 MX10_222 (kc hF (isC1 G) 8 (by decide)) rfl rfl rfl rfl (Nat.le_of_ble_eq_true rfl) ?_
  refine WPM.of pX6 (Nat.le_of_ble_eq_true rfl) rfl ?_
  refine wp_aload_n dX6_clear_0 rfl ?_
  refine wp_iconst (0 : Int32) dX6_clear_1 (by decide) ?_
  refine wp_puti dX6_clear_2 pX6_15 (kc hF (isC1 G) 8 (by decide)) ?_
  have hF1 := Full_wfi 601 ((gB G + 1) + 8) (0 : Int32) hF
  refine wp_aload_n dX6_clear_5 rfl ?_
  refine wp_iconst (0 : Int32) dX6_clear_6 (by decide) ?_
  refine wp_puti dX6_clear_7 pX6_19 (kc hF1 (isC1 G) 8 (by decide)) ?_
  have hF2 := Full_wfi 602 ((gB G + 1) + 8) (0 : Int32) hF1
  refine wp_aload_n dX6_clear_10 rfl ?_
  refine wp_lconst (0 : Int64) dX6_clear_11 (by decide) ?_
  refine wp_putl dX6_clear_12 pX6_22 (kc hF2 (isC1 G) 8 (by decide)) ?_
  have hF3 := Full_wfl 603 ((gB G + 1) + 8) (0 : Int64) hF2
  refine wp_aload_n dX6_clear_15 rfl ?_
  refine wp_lconst (0 : Int64) dX6_clear_16 (by decide) ?_
  refine wp_putl dX6_clear_17 pX6_26 (kc hF3 (isC1 G) 8 (by decide)) ?_
  have hF4 := Full_wfl 604 ((gB G + 1) + 8) (0 : Int64) hF3
  refine wp_aload_n dX6_clear_20 rfl ?_
  refine wp_lconst (0 : Int64) dX6_clear_21 (by decide) ?_
  refine wp_putl dX6_clear_22 pX6_29 (kc hF4 (isC1 G) 8 (by decide)) ?_
  have hF5 := Full_wfl 605 ((gB G + 1) + 8) (0 : Int64) hF4
  refine wp_vret dX6_clear_25 rfl ?_
  show WP G (d + 3) (0, 0) μX10_resetRecords 21 [.ref (gB G), .int (fi m 601 ((gB G + 1) + 8)), lvU] [] (wfl (wfl (wfl (wfi (wfi m 601 ((gB G + 1) + 8) (0 : Int32)) 602 ((gB G + 1) + 8) (0 : Int32)) 603 ((gB G + 1) + 8) (0 : Int64)) 604 ((gB G + 1) + 8) (0 : Int64)) 605 ((gB G + 1) + 8) (0 : Int64)) _
  refine wp_iconst (0 : Int32) dX10_resetRecords_21 (by decide) ?_
  refine wp_istore_n dX10_resetRecords_22 (by decide) rfl ?_
  refine wp_forget [.ref (gB G), .int (fi m 601 ((gB G + 1) + 8)), .int (0 : Int32)] ⟨Or.inl rfl, Or.inl rfl, Or.inl rfl, trivial⟩ ?_
  exact e1

theorem bC_rr {G : Cx} {d : Nat} {m : Mm} {Q : Option Value → Mm → Prop} {r : Int32} {j n : Nat}  (hF : Full G m) (hn : fi m 5 (gB G + 1) = nI n) (hm : n ≤ 12) (hj : j ≤ n) 
    (e1 : ¬ j < n → Q (some (.int r)) m)
    (e2 : j < n → WP G (d + 3) (0, 0) μX10_resetRecords 23 [.ref (gB G), .int r, .int (nI (j + 1))] [] (wfi (wfi (wfi (wfi m 407 (nd (gB G + 1) j) (fi m 401 (nd (gB G + 1) j))) 408 (nd (gB G + 1) j) (fi m 401 (nd (gB G + 1) j))) 409 (nd (gB G + 1) j) (0 : Int32)) 410 (nd (gB G + 1) j) (-1 : Int32)) Q) :
    WP G (d + 3) (0, 0) μX10_resetRecords 23 [.ref (gB G), .int r, .int (nI j)] [] m Q := by
  refine wp_iload_n dX10_resetRecords_23 rfl ?_
  refine wp_aload_n dX10_resetRecords_24 rfl ?_
  refine wp_getr (gB G + 1) dX10_resetRecords_25 fX10_10 (ka0 hF) (hF.2 _ _) (rra 1 (isK_le (ka0 hF)) (fun _ => rfl)) ?_
  refine wp_geti (nI n) dX10_resetRecords_28 fX10_43 (Or.inl rfl) (kc0 hF (isC1 G)) hn ?_
  refine wp_icmp_ge 52 dX10_resetRecords_31 (by decide) (fun q1 => ?_) (fun q2 => ?_)
  · have hp3 : ¬ j < n := (fun z => q1 (nlt_ (b := n) z (by omega)))
    refine wp_iload_n dX10_resetRecords_52 rfl ?_
    exact wp_iret dX10_resetRecords_53 rfl (e1 hp3)
  · have hp4 : j < n := (nlt q2 (by omega) (by omega))
    refine wp_aload_n dX10_resetRecords_34 rfl ?_
    refine wp_getr (gB G + 1) dX10_resetRecords_35 fX10_10 (ka0 hF) (hF.2 _ _) (rra 1 (isK_le (ka0 hF)) (fun _ => rfl)) ?_
    refine wp_getr ((gB G + 1) + 1) dX10_resetRecords_38 fX10_48 (kc0 hF (isC1 G)) (hF.2 _ _) (rra 1 (isK_le (kc0 hF (isC1 G))) (fun _ => rfl)) ?_
    refine wp_iload_n dX10_resetRecords_41 rfl ?_
    refine wp_raldk (n := 12) j (nd (gB G + 1) j) dX10_resetRecords_42 (kc hF (isC1 G) 1 (by decide)) (by decide) (by decide) (lc (isC1 G) 1 (by decide)) (vin (by omega) (by decide)) (nIc (by omega)) (hF.2 _ _) (rnd hF (isC1 G)) ?_
    refine wp_callV (As := []) (S := []) (b' := (0, 0)) (b := (0, 0)) dX10_resetRecords_43 MX10_225 (knd hF (isC1 G) (by omega)) rfl rfl rfl rfl (Nat.le_of_ble_eq_true rfl) ?_
    refine WPM.of pX4 (Nat.le_of_ble_eq_true rfl) rfl ?_
    refine wp_aload_n dX4_beginRecords_0 rfl ?_
    refine wp_aload_n dX4_beginRecords_1 rfl ?_
    refine wp_geti (fi m 401 (nd (gB G + 1) j)) dX4_beginRecords_2 fX4_15 (Or.inl rfl) (knd hF (isC1 G) (by omega)) rfl ?_
    refine wp_puti dX4_beginRecords_5 pX4_38 (knd hF (isC1 G) (by omega)) ?_
    have hF5 := Full_wfi 407 (nd (gB G + 1) j) (fi m 401 (nd (gB G + 1) j)) hF
    refine wp_aload_n dX4_beginRecords_8 rfl ?_
    refine wp_aload_n dX4_beginRecords_9 rfl ?_
    refine wp_geti (fi m 401 (nd (gB G + 1) j)) dX4_beginRecords_10 fX4_15 (Or.inl rfl) (knd hF5 (isC1 G) (by omega)) (fi_ne (by decide)) ?_
    refine wp_puti dX4_beginRecords_13 pX4_41 (knd hF5 (isC1 G) (by omega)) ?_
    have hF6 := Full_wfi 408 (nd (gB G + 1) j) (fi m 401 (nd (gB G + 1) j)) hF5
    refine wp_aload_n dX4_beginRecords_16 rfl ?_
    refine wp_iconst (0 : Int32) dX4_beginRecords_17 (by decide) ?_
    refine wp_puti dX4_beginRecords_18 pX4_44 (knd hF6 (isC1 G) (by omega)) ?_
    have hF7 := Full_wfi 409 (nd (gB G + 1) j) (0 : Int32) hF6
    refine wp_aload_n dX4_beginRecords_21 rfl ?_
    refine wp_iconst (-1 : Int32) dX4_beginRecords_22 (by decide) ?_
    refine wp_puti dX4_beginRecords_23 pX4_47 (knd hF7 (isC1 G) (by omega)) ?_
    have hF8 := Full_wfi 410 (nd (gB G + 1) j) (-1 : Int32) hF7
    refine wp_vret dX4_beginRecords_26 rfl ?_
    show WP G (d + 3) (0, 0) μX10_resetRecords 46 [.ref (gB G), .int r, .int (nI j)] [] (wfi (wfi (wfi (wfi m 407 (nd (gB G + 1) j) (fi m 401 (nd (gB G + 1) j))) 408 (nd (gB G + 1) j) (fi m 401 (nd (gB G + 1) j))) 409 (nd (gB G + 1) j) (0 : Int32)) 410 (nd (gB G + 1) j) (-1 : Int32)) _
    refine wp_iinc (nI (j + 1)) dX10_resetRecords_46 rfl (by decide) (nadd (a := j) (b := 1) (by omega)) rfl ?_
    refine wp_goto 23 dX10_resetRecords_49 (by decide) ?_
    refine wp_forget [.ref (gB G), .int r, .int (nI (j + 1))] ⟨Or.inl rfl, Or.inl rfl, Or.inl rfl, trivial⟩ ?_
    exact e2 hp4

theorem eC_at {G : Cx} {d : Nat} {m : Mm} {Q : Option Value → Mm → Prop} {x : Int32} {n : Nat}  (hF : Full G m) (hn : fi m 701 (gB G + 279) = nI n) (hm : n ≤ 500) 
    (e1 : ¬ 500 < n + 4 → WP G (d + 1) (0, 0) μX10_appendText 21 [.ref (gB G), .int x, .int (24 : Int32)] [] m Q)
    (e2 : 500 < n + 4 → Q (some (.int (-1000000003 : Int32))) m) :
    WPM G (d + 1) (0, 0) μX10_appendText [.ref (gB G), .int x] m Q := by
  refine WPM.of pX10 (Nat.le_of_ble_eq_true rfl) rfl ?_
  refine wp_aload_n dX10_appendText_0 rfl ?_
  refine wp_getr (gB G + 279) dX10_appendText_1 fX10_30 (ka0 hF) (hF.2 _ _) (rra 279 (isK_le (ka0 hF)) (fun _ => rfl)) ?_
  refine wp_geti (nI n) dX10_appendText_4 fX10_282 (Or.inl rfl) (ka hF 279 (by decide)) hn ?_
  refine wp_iconst (4 : Int32) dX10_appendText_7 (by decide) ?_
  refine wp_iaddv (nI (n + 4)) dX10_appendText_8 (nadd (a := n) (b := 4) (by omega)) ?_
  refine wp_sipush (500 : Int32) dX10_appendText_9 (by decide) ?_
  refine wp_icmp_le 18 dX10_appendText_12 (by decide) (fun q1 => ?_) (fun q2 => ?_)
  · have hp3 : ¬ 500 < n + 4 := (fun z => q1 (nlt_ (b := n + 4) z (by omega)))
    refine wp_bipush (24 : Int32) dX10_appendText_18 (by decide) ?_
    refine wp_istore_n dX10_appendText_20 (by decide) rfl ?_
    refine wp_forget [.ref (gB G), .int x, .int (24 : Int32)] ⟨Or.inl rfl, Or.inl rfl, Or.inl rfl, trivial⟩ ?_
    exact e1 hp3
  · have hp4 : 500 < n + 4 := (nlt q2 (by omega) (by omega))
    refine wp_ldc dX10_appendText_15 kX10_47 ?_
    exact wp_iret dX10_appendText_17 rfl (e2 hp4)

theorem bC_at32 {G : Cx} {d : Nat} {m : Mm} {Q : Option Value → Mm → Prop} {x : Int32} {n : Nat}  (hF : Full G m) (hn : fi m 701 (gB G + 279) = nI n) (hm : n < 500) 
    (e1 : WP G (d + 1) (0, 0) μX10_appendText 21 [.ref (gB G), .int x, .int (16 : Int32)] [] (wfi (wai m (gB G + 280) n (Int8.toInt32 (Int32.toInt8 (Int8.toInt32 (Int32.toInt8 (x >>> ((24 : Int32) &&& 31))))))) 701 (gB G + 279) (nI (n + 1))) Q) :
    WP G (d + 1) (0, 0) μX10_appendText 21 [.ref (gB G), .int x, .int (24 : Int32)] [] m Q := by
  refine wp_iload_n dX10_appendText_21 rfl ?_
  refine wp_if_lt 63 dX10_appendText_22 (by decide) (fun q => absurd q (by decide)) (fun _ => ?_)
  refine wp_aload_n dX10_appendText_25 rfl ?_
  refine wp_getr (gB G + 279) dX10_appendText_26 fX10_30 (ka0 hF) (hF.2 _ _) (rra 279 (isK_le (ka0 hF)) (fun _ => rfl)) ?_
  refine wp_getr (gB G + 280) dX10_appendText_29 fX10_285 (ka hF 279 (by decide)) (hF.2 _ _) (rra 1 (isK_le (ka hF 279 (by decide))) (fun _ => rfl)) ?_
  refine wp_aload_n dX10_appendText_32 rfl ?_
  refine wp_getr (gB G + 279) dX10_appendText_33 fX10_30 (ka0 hF) (hF.2 _ _) (rra 279 (isK_le (ka0 hF)) (fun _ => rfl)) ?_
  refine wp_geti (nI n) dX10_appendText_36 fX10_282 (Or.inl rfl) (ka hF 279 (by decide)) hn ?_
  refine wp_iload_n dX10_appendText_39 rfl ?_
  refine wp_iload_n dX10_appendText_40 rfl ?_
  refine wp_ishr dX10_appendText_41 ?_
  refine wp_i2b dX10_appendText_42 ?_
  refine wp_bastk (n := 500) n dX10_appendText_43 (ka hF 280 (by decide)) (la 280) (vin (by omega) (by decide))  (nIc (by omega)) ?_
  have hF1 := Full_wai (gB G + 280) n (Int8.toInt32 (Int32.toInt8 (Int8.toInt32 (Int32.toInt8 (x >>> ((24 : Int32) &&& 31)))))) hF
  refine wp_aload_n dX10_appendText_44 rfl ?_
  refine wp_getr (gB G + 279) dX10_appendText_45 fX10_30 (ka0 hF1) (hF1.2 _ _) (rra 279 (isK_le (ka0 hF1)) (fun _ => rfl)) ?_
  refine wp_dup dX10_appendText_48 rfl ?_
  refine wp_geti (nI n) dX10_appendText_49 fX10_282 (Or.inl rfl) (ka hF1 279 (by decide)) (fi_wai.trans hn) ?_
  refine wp_iconst (1 : Int32) dX10_appendText_52 (by decide) ?_
  refine wp_iaddv (nI (n + 1)) dX10_appendText_53 (nadd (a := n) (b := 1) (by omega)) ?_
  refine wp_puti dX10_appendText_54 pX10_282 (ka hF1 279 (by decide)) ?_
  have hF2 := Full_wfi 701 (gB G + 279) (nI (n + 1)) hF1
  refine wp_iinc (16 : Int32) dX10_appendText_57 rfl (by decide) (by decide) rfl ?_
  refine wp_goto 21 dX10_appendText_60 (by decide) ?_
  refine wp_forget [.ref (gB G), .int x, .int (16 : Int32)] ⟨Or.inl rfl, Or.inl rfl, Or.inl rfl, trivial⟩ ?_
  exact e1

theorem bC_at24 {G : Cx} {d : Nat} {m : Mm} {Q : Option Value → Mm → Prop} {x : Int32} {n : Nat}  (hF : Full G m) (hn : fi m 701 (gB G + 279) = nI n) (hm : n < 500) 
    (e1 : WP G (d + 1) (0, 0) μX10_appendText 21 [.ref (gB G), .int x, .int (8 : Int32)] [] (wfi (wai m (gB G + 280) n (Int8.toInt32 (Int32.toInt8 (Int8.toInt32 (Int32.toInt8 (x >>> ((16 : Int32) &&& 31))))))) 701 (gB G + 279) (nI (n + 1))) Q) :
    WP G (d + 1) (0, 0) μX10_appendText 21 [.ref (gB G), .int x, .int (16 : Int32)] [] m Q := by
  refine wp_iload_n dX10_appendText_21 rfl ?_
  refine wp_if_lt 63 dX10_appendText_22 (by decide) (fun q => absurd q (by decide)) (fun _ => ?_)
  refine wp_aload_n dX10_appendText_25 rfl ?_
  refine wp_getr (gB G + 279) dX10_appendText_26 fX10_30 (ka0 hF) (hF.2 _ _) (rra 279 (isK_le (ka0 hF)) (fun _ => rfl)) ?_
  refine wp_getr (gB G + 280) dX10_appendText_29 fX10_285 (ka hF 279 (by decide)) (hF.2 _ _) (rra 1 (isK_le (ka hF 279 (by decide))) (fun _ => rfl)) ?_
  refine wp_aload_n dX10_appendText_32 rfl ?_
  refine wp_getr (gB G + 279) dX10_appendText_33 fX10_30 (ka0 hF) (hF.2 _ _) (rra 279 (isK_le (ka0 hF)) (fun _ => rfl)) ?_
  refine wp_geti (nI n) dX10_appendText_36 fX10_282 (Or.inl rfl) (ka hF 279 (by decide)) hn ?_
  refine wp_iload_n dX10_appendText_39 rfl ?_
  refine wp_iload_n dX10_appendText_40 rfl ?_
  refine wp_ishr dX10_appendText_41 ?_
  refine wp_i2b dX10_appendText_42 ?_
  refine wp_bastk (n := 500) n dX10_appendText_43 (ka hF 280 (by decide)) (la 280) (vin (by omega) (by decide))  (nIc (by omega)) ?_
  have hF1 := Full_wai (gB G + 280) n (Int8.toInt32 (Int32.toInt8 (Int8.toInt32 (Int32.toInt8 (x >>> ((16 : Int32) &&& 31)))))) hF
  refine wp_aload_n dX10_appendText_44 rfl ?_
  refine wp_getr (gB G + 279) dX10_appendText_45 fX10_30 (ka0 hF1) (hF1.2 _ _) (rra 279 (isK_le (ka0 hF1)) (fun _ => rfl)) ?_
  refine wp_dup dX10_appendText_48 rfl ?_
  refine wp_geti (nI n) dX10_appendText_49 fX10_282 (Or.inl rfl) (ka hF1 279 (by decide)) (fi_wai.trans hn) ?_
  refine wp_iconst (1 : Int32) dX10_appendText_52 (by decide) ?_
  refine wp_iaddv (nI (n + 1)) dX10_appendText_53 (nadd (a := n) (b := 1) (by omega)) ?_
  refine wp_puti dX10_appendText_54 pX10_282 (ka hF1 279 (by decide)) ?_
  have hF2 := Full_wfi 701 (gB G + 279) (nI (n + 1)) hF1
  refine wp_iinc (8 : Int32) dX10_appendText_57 rfl (by decide) (by decide) rfl ?_
  refine wp_goto 21 dX10_appendText_60 (by decide) ?_
  refine wp_forget [.ref (gB G), .int x, .int (8 : Int32)] ⟨Or.inl rfl, Or.inl rfl, Or.inl rfl, trivial⟩ ?_
  exact e1

theorem bC_at16 {G : Cx} {d : Nat} {m : Mm} {Q : Option Value → Mm → Prop} {x : Int32} {n : Nat}  (hF : Full G m) (hn : fi m 701 (gB G + 279) = nI n) (hm : n < 500) 
    (e1 : WP G (d + 1) (0, 0) μX10_appendText 21 [.ref (gB G), .int x, .int (0 : Int32)] [] (wfi (wai m (gB G + 280) n (Int8.toInt32 (Int32.toInt8 (Int8.toInt32 (Int32.toInt8 (x >>> ((8 : Int32) &&& 31))))))) 701 (gB G + 279) (nI (n + 1))) Q) :
    WP G (d + 1) (0, 0) μX10_appendText 21 [.ref (gB G), .int x, .int (8 : Int32)] [] m Q := by
  refine wp_iload_n dX10_appendText_21 rfl ?_
  refine wp_if_lt 63 dX10_appendText_22 (by decide) (fun q => absurd q (by decide)) (fun _ => ?_)
  refine wp_aload_n dX10_appendText_25 rfl ?_
  refine wp_getr (gB G + 279) dX10_appendText_26 fX10_30 (ka0 hF) (hF.2 _ _) (rra 279 (isK_le (ka0 hF)) (fun _ => rfl)) ?_
  refine wp_getr (gB G + 280) dX10_appendText_29 fX10_285 (ka hF 279 (by decide)) (hF.2 _ _) (rra 1 (isK_le (ka hF 279 (by decide))) (fun _ => rfl)) ?_
  refine wp_aload_n dX10_appendText_32 rfl ?_
  refine wp_getr (gB G + 279) dX10_appendText_33 fX10_30 (ka0 hF) (hF.2 _ _) (rra 279 (isK_le (ka0 hF)) (fun _ => rfl)) ?_
  refine wp_geti (nI n) dX10_appendText_36 fX10_282 (Or.inl rfl) (ka hF 279 (by decide)) hn ?_
  refine wp_iload_n dX10_appendText_39 rfl ?_
  refine wp_iload_n dX10_appendText_40 rfl ?_
  refine wp_ishr dX10_appendText_41 ?_
  refine wp_i2b dX10_appendText_42 ?_
  refine wp_bastk (n := 500) n dX10_appendText_43 (ka hF 280 (by decide)) (la 280) (vin (by omega) (by decide))  (nIc (by omega)) ?_
  have hF1 := Full_wai (gB G + 280) n (Int8.toInt32 (Int32.toInt8 (Int8.toInt32 (Int32.toInt8 (x >>> ((8 : Int32) &&& 31)))))) hF
  refine wp_aload_n dX10_appendText_44 rfl ?_
  refine wp_getr (gB G + 279) dX10_appendText_45 fX10_30 (ka0 hF1) (hF1.2 _ _) (rra 279 (isK_le (ka0 hF1)) (fun _ => rfl)) ?_
  refine wp_dup dX10_appendText_48 rfl ?_
  refine wp_geti (nI n) dX10_appendText_49 fX10_282 (Or.inl rfl) (ka hF1 279 (by decide)) (fi_wai.trans hn) ?_
  refine wp_iconst (1 : Int32) dX10_appendText_52 (by decide) ?_
  refine wp_iaddv (nI (n + 1)) dX10_appendText_53 (nadd (a := n) (b := 1) (by omega)) ?_
  refine wp_puti dX10_appendText_54 pX10_282 (ka hF1 279 (by decide)) ?_
  have hF2 := Full_wfi 701 (gB G + 279) (nI (n + 1)) hF1
  refine wp_iinc (0 : Int32) dX10_appendText_57 rfl (by decide) (by decide) rfl ?_
  refine wp_goto 21 dX10_appendText_60 (by decide) ?_
  refine wp_forget [.ref (gB G), .int x, .int (0 : Int32)] ⟨Or.inl rfl, Or.inl rfl, Or.inl rfl, trivial⟩ ?_
  exact e1

theorem bC_at8 {G : Cx} {d : Nat} {m : Mm} {Q : Option Value → Mm → Prop} {x : Int32} {n : Nat}  (hF : Full G m) (hn : fi m 701 (gB G + 279) = nI n) (hm : n < 500) 
    (e1 : WP G (d + 1) (0, 0) μX10_appendText 21 [.ref (gB G), .int x, .int (-8 : Int32)] [] (wfi (wai m (gB G + 280) n (Int8.toInt32 (Int32.toInt8 (Int8.toInt32 (Int32.toInt8 (x >>> ((0 : Int32) &&& 31))))))) 701 (gB G + 279) (nI (n + 1))) Q) :
    WP G (d + 1) (0, 0) μX10_appendText 21 [.ref (gB G), .int x, .int (0 : Int32)] [] m Q := by
  refine wp_iload_n dX10_appendText_21 rfl ?_
  refine wp_if_lt 63 dX10_appendText_22 (by decide) (fun q => absurd q (by decide)) (fun _ => ?_)
  refine wp_aload_n dX10_appendText_25 rfl ?_
  refine wp_getr (gB G + 279) dX10_appendText_26 fX10_30 (ka0 hF) (hF.2 _ _) (rra 279 (isK_le (ka0 hF)) (fun _ => rfl)) ?_
  refine wp_getr (gB G + 280) dX10_appendText_29 fX10_285 (ka hF 279 (by decide)) (hF.2 _ _) (rra 1 (isK_le (ka hF 279 (by decide))) (fun _ => rfl)) ?_
  refine wp_aload_n dX10_appendText_32 rfl ?_
  refine wp_getr (gB G + 279) dX10_appendText_33 fX10_30 (ka0 hF) (hF.2 _ _) (rra 279 (isK_le (ka0 hF)) (fun _ => rfl)) ?_
  refine wp_geti (nI n) dX10_appendText_36 fX10_282 (Or.inl rfl) (ka hF 279 (by decide)) hn ?_
  refine wp_iload_n dX10_appendText_39 rfl ?_
  refine wp_iload_n dX10_appendText_40 rfl ?_
  refine wp_ishr dX10_appendText_41 ?_
  refine wp_i2b dX10_appendText_42 ?_
  refine wp_bastk (n := 500) n dX10_appendText_43 (ka hF 280 (by decide)) (la 280) (vin (by omega) (by decide))  (nIc (by omega)) ?_
  have hF1 := Full_wai (gB G + 280) n (Int8.toInt32 (Int32.toInt8 (Int8.toInt32 (Int32.toInt8 (x >>> ((0 : Int32) &&& 31)))))) hF
  refine wp_aload_n dX10_appendText_44 rfl ?_
  refine wp_getr (gB G + 279) dX10_appendText_45 fX10_30 (ka0 hF1) (hF1.2 _ _) (rra 279 (isK_le (ka0 hF1)) (fun _ => rfl)) ?_
  refine wp_dup dX10_appendText_48 rfl ?_
  refine wp_geti (nI n) dX10_appendText_49 fX10_282 (Or.inl rfl) (ka hF1 279 (by decide)) (fi_wai.trans hn) ?_
  refine wp_iconst (1 : Int32) dX10_appendText_52 (by decide) ?_
  refine wp_iaddv (nI (n + 1)) dX10_appendText_53 (nadd (a := n) (b := 1) (by omega)) ?_
  refine wp_puti dX10_appendText_54 pX10_282 (ka hF1 279 (by decide)) ?_
  have hF2 := Full_wfi 701 (gB G + 279) (nI (n + 1)) hF1
  refine wp_iinc (-8 : Int32) dX10_appendText_57 rfl (by decide) (by decide) rfl ?_
  refine wp_goto 21 dX10_appendText_60 (by decide) ?_
  refine wp_forget [.ref (gB G), .int x, .int (-8 : Int32)] ⟨Or.inl rfl, Or.inl rfl, Or.inl rfl, trivial⟩ ?_
  exact e1

theorem bC_at0 {G : Cx} {d : Nat} {m : Mm} {Q : Option Value → Mm → Prop} {x : Int32} {n : Nat}  (hF : Full G m) (hn : fi m 701 (gB G + 279) = nI n) 
    (e1 : Q (some (.int (nI n))) m) :
    WP G (d + 1) (0, 0) μX10_appendText 21 [.ref (gB G), .int x, .int (-8 : Int32)] [] m Q := by
  refine wp_iload_n dX10_appendText_21 rfl ?_
  refine wp_if_lt 63 dX10_appendText_22 (by decide) (fun _ => ?_) (fun q => absurd (by decide) q)
  refine wp_aload_n dX10_appendText_63 rfl ?_
  refine wp_getr (gB G + 279) dX10_appendText_64 fX10_30 (ka0 hF) (hF.2 _ _) (rra 279 (isK_le (ka0 hF)) (fun _ => rfl)) ?_
  refine wp_geti (nI n) dX10_appendText_67 fX10_282 (Or.inl rfl) (ka hF 279 (by decide)) hn ?_
  exact wp_iret dX10_appendText_70 rfl (e1)

theorem iC_tr {G : Cx} {d : Nat} {m : Mm} {Q : Option Value → Mm → Prop} {i n : Nat}  (hF : Full G m) (hn : fi m 701 (gB G + 279) = nI n) (hm : n ≤ 500) (hi : i ≤ n) 
    (e1 : Q (some (.int (nI i))) (wfi m 701 (gB G + 279) (nI i))) :
    WPM G (d + 3) (0, 0) μX10_truncateText [.ref (gB G), .int (nI i)] m Q := by
  refine WPM.of pX10 (Nat.le_of_ble_eq_true rfl) rfl ?_
  refine wp_iload_n dX10_truncateText_0 rfl ?_
  refine wp_iconst (0 : Int32) dX10_truncateText_1 (by decide) ?_
  refine wp_aload_n dX10_truncateText_2 rfl ?_
  refine wp_getr (gB G + 279) dX10_truncateText_3 fX10_30 (ka0 hF) (hF.2 _ _) (rra 279 (isK_le (ka0 hF)) (fun _ => rfl)) ?_
  refine wp_geti (nI n) dX10_truncateText_6 fX10_282 (Or.inl rfl) (ka hF 279 (by decide)) hn ?_
  refine wp_callS (As := [.int (nI i), .int (0 : Int32), .int (nI n)]) (S := []) (b' := (0, 0)) (b := (0, 0)) dX10_truncateText_9 MX10_35 rfl rfl (Nat.le_of_ble_eq_true rfl) ?_
  refine WPM.of pX10 (Nat.le_of_ble_eq_true rfl) rfl ?_
  refine wp_iload_n dX10_within_0 rfl ?_
  refine wp_iload_n dX10_within_1 rfl ?_
  refine wp_icmp_lt 14 dX10_within_2 (by decide) (fun q => absurd q (nI_pos (by omega))) (fun _ => ?_)
  refine wp_iload_n dX10_within_5 rfl ?_
  refine wp_iload_n dX10_within_6 rfl ?_
  refine wp_icmp_gt 14 dX10_within_7 (by decide) (fun q => absurd q (fun z => (show ¬ n < i by omega) (nlt (a := n) (b := i) z (by omega) (by omega)))) (fun _ => ?_)
  refine wp_iconst (1 : Int32) dX10_within_10 (by decide) ?_
  refine wp_goto 15 dX10_within_11 (by decide) ?_
  refine wp_zret dX10_within_15 rfl rfl ?_
  show WP G (d + 3) (0, 0) μX10_truncateText 12 [.ref (gB G), .int (nI i)] [.int (1 : Int32)] m _
  refine wp_if_ne 18 dX10_truncateText_12 (by decide) (fun _ => ?_) (fun q => absurd q (by decide))
  refine wp_aload_n dX10_truncateText_18 rfl ?_
  refine wp_getr (gB G + 279) dX10_truncateText_19 fX10_30 (ka0 hF) (hF.2 _ _) (rra 279 (isK_le (ka0 hF)) (fun _ => rfl)) ?_
  refine wp_iload_n dX10_truncateText_22 rfl ?_
  refine wp_puti dX10_truncateText_23 pX10_282 (ka hF 279 (by decide)) ?_
  have hF1 := Full_wfi 701 (gB G + 279) (nI i) hF
  refine wp_iload_n dX10_truncateText_26 rfl ?_
  exact wp_iret dX10_truncateText_27 rfl (e1)

theorem aC_tr {G : Cx} {d : Nat} {m : Mm} {Q : Option Value → Mm → Prop} {x : Int32} {n : Nat}  (hF : Full G m) (hn : fi m 701 (gB G + 279) = nI n) (hm : n ≤ 500) (hx : x < 0) 
    (e1 : Q (some (.int (-1000000002 : Int32))) m) :
    WPM G (d + 3) (0, 0) μX10_truncateText [.ref (gB G), .int x] m Q := by
  refine WPM.of pX10 (Nat.le_of_ble_eq_true rfl) rfl ?_
  refine wp_iload_n dX10_truncateText_0 rfl ?_
  refine wp_iconst (0 : Int32) dX10_truncateText_1 (by decide) ?_
  refine wp_aload_n dX10_truncateText_2 rfl ?_
  refine wp_getr (gB G + 279) dX10_truncateText_3 fX10_30 (ka0 hF) (hF.2 _ _) (rra 279 (isK_le (ka0 hF)) (fun _ => rfl)) ?_
  refine wp_geti (nI n) dX10_truncateText_6 fX10_282 (Or.inl rfl) (ka hF 279 (by decide)) hn ?_
  refine wp_callS (As := [.int x, .int (0 : Int32), .int (nI n)]) (S := []) (b' := (0, 0)) (b := (0, 0)) dX10_truncateText_9 MX10_35 rfl rfl (Nat.le_of_ble_eq_true rfl) ?_
  refine WPM.of pX10 (Nat.le_of_ble_eq_true rfl) rfl ?_
  refine wp_iload_n dX10_within_0 rfl ?_
  refine wp_iload_n dX10_within_1 rfl ?_
  refine wp_icmp_lt 14 dX10_within_2 (by decide) (fun _ => ?_) (fun q => absurd hx q)
  refine wp_iconst (0 : Int32) dX10_within_14 (by decide) ?_
  refine wp_zret dX10_within_15 rfl rfl ?_
  show WP G (d + 3) (0, 0) μX10_truncateText 12 [.ref (gB G), .int x] [.int (0 : Int32)] m _
  refine wp_if_ne 18 dX10_truncateText_12 (by decide) (fun q => absurd (by decide) q) (fun _ => ?_)
  refine wp_ldc dX10_truncateText_15 kX10_42 ?_
  exact wp_iret dX10_truncateText_17 rfl (e1)

theorem bC_tr {G : Cx} {d : Nat} {m : Mm} {Q : Option Value → Mm → Prop} {x : Int32} {n : Nat}  (hF : Full G m) (hn : fi m 701 (gB G + 279) = nI n) (hm : n ≤ 500) (hx : ¬ x < 0) (hy : nI n < x) 
    (e1 : Q (some (.int (-1000000002 : Int32))) m) :
    WPM G (d + 3) (0, 0) μX10_truncateText [.ref (gB G), .int x] m Q := by
  refine WPM.of pX10 (Nat.le_of_ble_eq_true rfl) rfl ?_
  refine wp_iload_n dX10_truncateText_0 rfl ?_
  refine wp_iconst (0 : Int32) dX10_truncateText_1 (by decide) ?_
  refine wp_aload_n dX10_truncateText_2 rfl ?_
  refine wp_getr (gB G + 279) dX10_truncateText_3 fX10_30 (ka0 hF) (hF.2 _ _) (rra 279 (isK_le (ka0 hF)) (fun _ => rfl)) ?_
  refine wp_geti (nI n) dX10_truncateText_6 fX10_282 (Or.inl rfl) (ka hF 279 (by decide)) hn ?_
  refine wp_callS (As := [.int x, .int (0 : Int32), .int (nI n)]) (S := []) (b' := (0, 0)) (b := (0, 0)) dX10_truncateText_9 MX10_35 rfl rfl (Nat.le_of_ble_eq_true rfl) ?_
  refine WPM.of pX10 (Nat.le_of_ble_eq_true rfl) rfl ?_
  refine wp_iload_n dX10_within_0 rfl ?_
  refine wp_iload_n dX10_within_1 rfl ?_
  refine wp_icmp_lt 14 dX10_within_2 (by decide) (fun q => absurd q hx) (fun _ => ?_)
  refine wp_iload_n dX10_within_5 rfl ?_
  refine wp_iload_n dX10_within_6 rfl ?_
  refine wp_icmp_gt 14 dX10_within_7 (by decide) (fun _ => ?_) (fun q => absurd hy q)
  refine wp_iconst (0 : Int32) dX10_within_14 (by decide) ?_
  refine wp_zret dX10_within_15 rfl rfl ?_
  show WP G (d + 3) (0, 0) μX10_truncateText 12 [.ref (gB G), .int x] [.int (0 : Int32)] m _
  refine wp_if_ne 18 dX10_truncateText_12 (by decide) (fun q => absurd (by decide) q) (fun _ => ?_)
  refine wp_ldc dX10_truncateText_15 kX10_42 ?_
  exact wp_iret dX10_truncateText_17 rfl (e1)

theorem eC_sv0 {G : Cx} {d : Nat} {m : Mm} {Q : Option Value → Mm → Prop}  (hF : Full G m) 
    (e1 : WPM G (d + 4) (0, 0) μX0_copyFrom [.ref (gB G + 140), .ref (gB G + 1)] m (fun r' m' => WP G (d + 5) (0, 0) μX10_save 24 [.ref (gB G), .int (0 : Int32)] (r'.toList ++ []) m' Q)) :
    WPM G (d + 5) (0, 0) μX10_save [.ref (gB G), .int (0 : Int32)] m Q := by
  refine WPM.of pX10 (Nat.le_of_ble_eq_true rfl) rfl ?_
  refine wp_iload_n dX10_save_0 rfl ?_
  refine wp_iconst (0 : Int32) dX10_save_1 (by decide) ?_
  refine wp_iconst (1 : Int32) dX10_save_2 (by decide) ?_
  refine wp_callS (As := [.int (0 : Int32), .int (0 : Int32), .int (1 : Int32)]) (S := []) (b' := (0, 0)) (b := (0, 0)) dX10_save_3 MX10_35 rfl rfl (Nat.le_of_ble_eq_true rfl) ?_
  refine WPM.of pX10 (Nat.le_of_ble_eq_true rfl) rfl ?_
  refine wp_iload_n dX10_within_0 rfl ?_
  refine wp_iload_n dX10_within_1 rfl ?_
  refine wp_icmp_lt 14 dX10_within_2 (by decide) (fun q => absurd q (by decide)) (fun _ => ?_)
  refine wp_iload_n dX10_within_5 rfl ?_
  refine wp_iload_n dX10_within_6 rfl ?_
  refine wp_icmp_gt 14 dX10_within_7 (by decide) (fun q => absurd q (by decide)) (fun _ => ?_)
  refine wp_iconst (1 : Int32) dX10_within_10 (by decide) ?_
  refine wp_goto 15 dX10_within_11 (by decide) ?_
  refine wp_zret dX10_within_15 rfl rfl ?_
  show WP G (d + 5) (0, 0) μX10_save 6 [.ref (gB G), .int (0 : Int32)] [.int (1 : Int32)] m _
  refine wp_if_ne 11 dX10_save_6 (by decide) (fun _ => ?_) (fun q => absurd q (by decide))
  refine wp_aload_n dX10_save_11 rfl ?_
  refine wp_getr (gB G + 139) dX10_save_12 fX10_19 (ka0 hF) (hF.2 _ _) (rra 139 (isK_le (ka0 hF)) (fun _ => rfl)) ?_
  refine wp_iload_n dX10_save_15 rfl ?_
  refine wp_raldk (n := 2) 0 (gB G + 140) dX10_save_16 (ka hF 139 (by decide)) (by decide) (by decide) (la 139) (vinl (by decide)) rfl (hF.2 _ _) (rsv (0 : Int32) hF (Or.inl rfl)) ?_
  refine wp_aload_n dX10_save_17 rfl ?_
  refine wp_getr (gB G + 1) dX10_save_18 fX10_10 (ka0 hF) (hF.2 _ _) (rra 1 (isK_le (ka0 hF)) (fun _ => rfl)) ?_
  refine wp_callV (As := [.ref (gB G + 1)]) (S := []) (b' := (0, 0)) (b := (0, 0)) dX10_save_21 MX10_254 (kc0 hF (isC3 G)) rfl rfl rfl rfl (Nat.le_of_ble_eq_true rfl) ?_
  exact e1

theorem bC_sv0 {G : Cx} {d : Nat} {m : Mm} {Q : Option Value → Mm → Prop}  (hF : Full G m) 
    (e1 : Q (some (.int (1 : Int32))) (wai m (gB G + 278) 0 (1 : Int32))) :
    WP G (d + 5) (0, 0) μX10_save 24 [.ref (gB G), .int (0 : Int32)] [] m Q := by
  refine wp_aload_n dX10_save_24 rfl ?_
  refine wp_getr (gB G + 278) dX10_save_25 fX10_23 (ka0 hF) (hF.2 _ _) (rra 278 (isK_le (ka0 hF)) (fun _ => rfl)) ?_
  refine wp_iload_n dX10_save_28 rfl ?_
  refine wp_iconst (1 : Int32) dX10_save_29 (by decide) ?_
  refine wp_zastk (n := 2) 0 dX10_save_30 (ka hF 278 (by decide)) (la 278) (vinl (by decide)) (Or.inr rfl) rfl ?_
  have hF1 := Full_wai (gB G + 278) 0 (1 : Int32) hF
  refine wp_iconst (1 : Int32) dX10_save_31 (by decide) ?_
  exact wp_zret dX10_save_32 rfl rfl (e1)

theorem eC_rs00 {G : Cx} {d : Nat} {m : Mm} {Q : Option Value → Mm → Prop}  (hF : Full G m) (hs : ai m (gB G + 278) 0 = (0 : Int32)) 
    (e1 : Q (some (.int (0 : Int32))) m) :
    WPM G (d + 5) (0, 0) μX10_restore [.ref (gB G), .int (0 : Int32)] m Q := by
  refine WPM.of pX10 (Nat.le_of_ble_eq_true rfl) rfl ?_
  refine wp_iload_n dX10_restore_0 rfl ?_
  refine wp_iconst (0 : Int32) dX10_restore_1 (by decide) ?_
  refine wp_iconst (1 : Int32) dX10_restore_2 (by decide) ?_
  refine wp_callS (As := [.int (0 : Int32), .int (0 : Int32), .int (1 : Int32)]) (S := []) (b' := (0, 0)) (b := (0, 0)) dX10_restore_3 MX10_35 rfl rfl (Nat.le_of_ble_eq_true rfl) ?_
  refine WPM.of pX10 (Nat.le_of_ble_eq_true rfl) rfl ?_
  refine wp_iload_n dX10_within_0 rfl ?_
  refine wp_iload_n dX10_within_1 rfl ?_
  refine wp_icmp_lt 14 dX10_within_2 (by decide) (fun q => absurd q (by decide)) (fun _ => ?_)
  refine wp_iload_n dX10_within_5 rfl ?_
  refine wp_iload_n dX10_within_6 rfl ?_
  refine wp_icmp_gt 14 dX10_within_7 (by decide) (fun q => absurd q (by decide)) (fun _ => ?_)
  refine wp_iconst (1 : Int32) dX10_within_10 (by decide) ?_
  refine wp_goto 15 dX10_within_11 (by decide) ?_
  refine wp_zret dX10_within_15 rfl rfl ?_
  show WP G (d + 5) (0, 0) μX10_restore 6 [.ref (gB G), .int (0 : Int32)] [.int (1 : Int32)] m _
  refine wp_if_eq 18 dX10_restore_6 (by decide) (fun q => absurd q (by decide)) (fun _ => ?_)
  refine wp_aload_n dX10_restore_9 rfl ?_
  refine wp_getr (gB G + 278) dX10_restore_10 fX10_23 (ka0 hF) (hF.2 _ _) (rra 278 (isK_le (ka0 hF)) (fun _ => rfl)) ?_
  refine wp_iload_n dX10_restore_13 rfl ?_
  refine wp_zaldk (n := 2) 0 (0 : Int32) dX10_restore_14 (ka hF 278 (by decide)) (la 278) (vinl (by decide)) rfl hs ?_
  refine wp_if_ne 20 dX10_restore_15 (by decide) (fun q => absurd (by decide) q) (fun _ => ?_)
  refine wp_iconst (0 : Int32) dX10_restore_18 (by decide) ?_
  exact wp_zret dX10_restore_19 rfl rfl (e1)

theorem eC_rs01 {G : Cx} {d : Nat} {m : Mm} {Q : Option Value → Mm → Prop}  (hF : Full G m) (hs : ai m (gB G + 278) 0 = (1 : Int32)) 
    (e1 : WPM G (d + 4) (0, 0) μX0_copyFrom [.ref (gB G + 1), .ref (gB G + 140)] m (fun r' m' => WP G (d + 5) (0, 0) μX10_restore 33 [lvU, lvU] (r'.toList ++ []) m' Q)) :
    WPM G (d + 5) (0, 0) μX10_restore [.ref (gB G), .int (0 : Int32)] m Q := by
  refine WPM.of pX10 (Nat.le_of_ble_eq_true rfl) rfl ?_
  refine wp_iload_n dX10_restore_0 rfl ?_
  refine wp_iconst (0 : Int32) dX10_restore_1 (by decide) ?_
  refine wp_iconst (1 : Int32) dX10_restore_2 (by decide) ?_
  refine wp_callS (As := [.int (0 : Int32), .int (0 : Int32), .int (1 : Int32)]) (S := []) (b' := (0, 0)) (b := (0, 0)) dX10_restore_3 MX10_35 rfl rfl (Nat.le_of_ble_eq_true rfl) ?_
  refine WPM.of pX10 (Nat.le_of_ble_eq_true rfl) rfl ?_
  refine wp_iload_n dX10_within_0 rfl ?_
  refine wp_iload_n dX10_within_1 rfl ?_
  refine wp_icmp_lt 14 dX10_within_2 (by decide) (fun q => absurd q (by decide)) (fun _ => ?_)
  refine wp_iload_n dX10_within_5 rfl ?_
  refine wp_iload_n dX10_within_6 rfl ?_
  refine wp_icmp_gt 14 dX10_within_7 (by decide) (fun q => absurd q (by decide)) (fun _ => ?_)
  refine wp_iconst (1 : Int32) dX10_within_10 (by decide) ?_
  refine wp_goto 15 dX10_within_11 (by decide) ?_
  refine wp_zret dX10_within_15 rfl rfl ?_
  show WP G (d + 5) (0, 0) μX10_restore 6 [.ref (gB G), .int (0 : Int32)] [.int (1 : Int32)] m _
  refine wp_if_eq 18 dX10_restore_6 (by decide) (fun q => absurd q (by decide)) (fun _ => ?_)
  refine wp_aload_n dX10_restore_9 rfl ?_
  refine wp_getr (gB G + 278) dX10_restore_10 fX10_23 (ka0 hF) (hF.2 _ _) (rra 278 (isK_le (ka0 hF)) (fun _ => rfl)) ?_
  refine wp_iload_n dX10_restore_13 rfl ?_
  refine wp_zaldk (n := 2) 0 (1 : Int32) dX10_restore_14 (ka hF 278 (by decide)) (la 278) (vinl (by decide)) rfl hs ?_
  refine wp_if_ne 20 dX10_restore_15 (by decide) (fun _ => ?_) (fun q => absurd q (by decide))
  refine wp_aload_n dX10_restore_20 rfl ?_
  refine wp_getr (gB G + 1) dX10_restore_21 fX10_10 (ka0 hF) (hF.2 _ _) (rra 1 (isK_le (ka0 hF)) (fun _ => rfl)) ?_
  refine wp_aload_n dX10_restore_24 rfl ?_
  refine wp_getr (gB G + 139) dX10_restore_25 fX10_19 (ka0 hF) (hF.2 _ _) (rra 139 (isK_le (ka0 hF)) (fun _ => rfl)) ?_
  refine wp_iload_n dX10_restore_28 rfl ?_
  refine wp_raldk (n := 2) 0 (gB G + 140) dX10_restore_29 (ka hF 139 (by decide)) (by decide) (by decide) (la 139) (vinl (by decide)) rfl (hF.2 _ _) (rsv (0 : Int32) hF (Or.inl rfl)) ?_
  refine wp_forget [lvU, lvU] ⟨Or.inr rfl, Or.inr rfl, trivial⟩ ?_
  refine wp_callV (As := [.ref (gB G + 140)]) (S := []) (b' := (0, 0)) (b := (0, 0)) dX10_restore_30 MX10_254 (kc0 hF (isC1 G)) rfl rfl rfl rfl (Nat.le_of_ble_eq_true rfl) ?_
  exact e1

theorem bC_rs0 {G : Cx} {d : Nat} {m : Mm} {Q : Option Value → Mm → Prop}  (hF : Full G m) 
    (e1 : Q (some (.int (1 : Int32))) m) :
    WP G (d + 5) (0, 0) μX10_restore 33 [lvU, lvU] [] m Q := by
  refine wp_iconst (1 : Int32) dX10_restore_33 (by decide) ?_
  exact wp_zret dX10_restore_34 rfl rfl (e1)

theorem eC_sv1 {G : Cx} {d : Nat} {m : Mm} {Q : Option Value → Mm → Prop}  (hF : Full G m) 
    (e1 : WPM G (d + 4) (0, 0) μX0_copyFrom [.ref (gB G + 209), .ref (gB G + 1)] m (fun r' m' => WP G (d + 5) (0, 0) μX10_save 24 [.ref (gB G), .int (1 : Int32)] (r'.toList ++ []) m' Q)) :
    WPM G (d + 5) (0, 0) μX10_save [.ref (gB G), .int (1 : Int32)] m Q := by
  refine WPM.of pX10 (Nat.le_of_ble_eq_true rfl) rfl ?_
  refine wp_iload_n dX10_save_0 rfl ?_
  refine wp_iconst (0 : Int32) dX10_save_1 (by decide) ?_
  refine wp_iconst (1 : Int32) dX10_save_2 (by decide) ?_
  refine wp_callS (As := [.int (1 : Int32), .int (0 : Int32), .int (1 : Int32)]) (S := []) (b' := (0, 0)) (b := (0, 0)) dX10_save_3 MX10_35 rfl rfl (Nat.le_of_ble_eq_true rfl) ?_
  refine WPM.of pX10 (Nat.le_of_ble_eq_true rfl) rfl ?_
  refine wp_iload_n dX10_within_0 rfl ?_
  refine wp_iload_n dX10_within_1 rfl ?_
  refine wp_icmp_lt 14 dX10_within_2 (by decide) (fun q => absurd q (by decide)) (fun _ => ?_)
  refine wp_iload_n dX10_within_5 rfl ?_
  refine wp_iload_n dX10_within_6 rfl ?_
  refine wp_icmp_gt 14 dX10_within_7 (by decide) (fun q => absurd q (by decide)) (fun _ => ?_)
  refine wp_iconst (1 : Int32) dX10_within_10 (by decide) ?_
  refine wp_goto 15 dX10_within_11 (by decide) ?_
  refine wp_zret dX10_within_15 rfl rfl ?_
  show WP G (d + 5) (0, 0) μX10_save 6 [.ref (gB G), .int (1 : Int32)] [.int (1 : Int32)] m _
  refine wp_if_ne 11 dX10_save_6 (by decide) (fun _ => ?_) (fun q => absurd q (by decide))
  refine wp_aload_n dX10_save_11 rfl ?_
  refine wp_getr (gB G + 139) dX10_save_12 fX10_19 (ka0 hF) (hF.2 _ _) (rra 139 (isK_le (ka0 hF)) (fun _ => rfl)) ?_
  refine wp_iload_n dX10_save_15 rfl ?_
  refine wp_raldk (n := 2) 1 (gB G + 209) dX10_save_16 (ka hF 139 (by decide)) (by decide) (by decide) (la 139) (vinl (by decide)) rfl (hF.2 _ _) (rsv (1 : Int32) hF (Or.inr rfl)) ?_
  refine wp_aload_n dX10_save_17 rfl ?_
  refine wp_getr (gB G + 1) dX10_save_18 fX10_10 (ka0 hF) (hF.2 _ _) (rra 1 (isK_le (ka0 hF)) (fun _ => rfl)) ?_
  refine wp_callV (As := [.ref (gB G + 1)]) (S := []) (b' := (0, 0)) (b := (0, 0)) dX10_save_21 MX10_254 (kc0 hF (isC4 G)) rfl rfl rfl rfl (Nat.le_of_ble_eq_true rfl) ?_
  exact e1

theorem bC_sv1 {G : Cx} {d : Nat} {m : Mm} {Q : Option Value → Mm → Prop}  (hF : Full G m) 
    (e1 : Q (some (.int (1 : Int32))) (wai m (gB G + 278) 1 (1 : Int32))) :
    WP G (d + 5) (0, 0) μX10_save 24 [.ref (gB G), .int (1 : Int32)] [] m Q := by
  refine wp_aload_n dX10_save_24 rfl ?_
  refine wp_getr (gB G + 278) dX10_save_25 fX10_23 (ka0 hF) (hF.2 _ _) (rra 278 (isK_le (ka0 hF)) (fun _ => rfl)) ?_
  refine wp_iload_n dX10_save_28 rfl ?_
  refine wp_iconst (1 : Int32) dX10_save_29 (by decide) ?_
  refine wp_zastk (n := 2) 1 dX10_save_30 (ka hF 278 (by decide)) (la 278) (vinl (by decide)) (Or.inr rfl) rfl ?_
  have hF1 := Full_wai (gB G + 278) 1 (1 : Int32) hF
  refine wp_iconst (1 : Int32) dX10_save_31 (by decide) ?_
  exact wp_zret dX10_save_32 rfl rfl (e1)

theorem eC_rs10 {G : Cx} {d : Nat} {m : Mm} {Q : Option Value → Mm → Prop}  (hF : Full G m) (hs : ai m (gB G + 278) 1 = (0 : Int32)) 
    (e1 : Q (some (.int (0 : Int32))) m) :
    WPM G (d + 5) (0, 0) μX10_restore [.ref (gB G), .int (1 : Int32)] m Q := by
  refine WPM.of pX10 (Nat.le_of_ble_eq_true rfl) rfl ?_
  refine wp_iload_n dX10_restore_0 rfl ?_
  refine wp_iconst (0 : Int32) dX10_restore_1 (by decide) ?_
  refine wp_iconst (1 : Int32) dX10_restore_2 (by decide) ?_
  refine wp_callS (As := [.int (1 : Int32), .int (0 : Int32), .int (1 : Int32)]) (S := []) (b' := (0, 0)) (b := (0, 0)) dX10_restore_3 MX10_35 rfl rfl (Nat.le_of_ble_eq_true rfl) ?_
  refine WPM.of pX10 (Nat.le_of_ble_eq_true rfl) rfl ?_
  refine wp_iload_n dX10_within_0 rfl ?_
  refine wp_iload_n dX10_within_1 rfl ?_
  refine wp_icmp_lt 14 dX10_within_2 (by decide) (fun q => absurd q (by decide)) (fun _ => ?_)
  refine wp_iload_n dX10_within_5 rfl ?_
  refine wp_iload_n dX10_within_6 rfl ?_
  refine wp_icmp_gt 14 dX10_within_7 (by decide) (fun q => absurd q (by decide)) (fun _ => ?_)
  refine wp_iconst (1 : Int32) dX10_within_10 (by decide) ?_
  refine wp_goto 15 dX10_within_11 (by decide) ?_
  refine wp_zret dX10_within_15 rfl rfl ?_
  show WP G (d + 5) (0, 0) μX10_restore 6 [.ref (gB G), .int (1 : Int32)] [.int (1 : Int32)] m _
  refine wp_if_eq 18 dX10_restore_6 (by decide) (fun q => absurd q (by decide)) (fun _ => ?_)
  refine wp_aload_n dX10_restore_9 rfl ?_
  refine wp_getr (gB G + 278) dX10_restore_10 fX10_23 (ka0 hF) (hF.2 _ _) (rra 278 (isK_le (ka0 hF)) (fun _ => rfl)) ?_
  refine wp_iload_n dX10_restore_13 rfl ?_
  refine wp_zaldk (n := 2) 1 (0 : Int32) dX10_restore_14 (ka hF 278 (by decide)) (la 278) (vinl (by decide)) rfl hs ?_
  refine wp_if_ne 20 dX10_restore_15 (by decide) (fun q => absurd (by decide) q) (fun _ => ?_)
  refine wp_iconst (0 : Int32) dX10_restore_18 (by decide) ?_
  exact wp_zret dX10_restore_19 rfl rfl (e1)

theorem eC_rs11 {G : Cx} {d : Nat} {m : Mm} {Q : Option Value → Mm → Prop}  (hF : Full G m) (hs : ai m (gB G + 278) 1 = (1 : Int32)) 
    (e1 : WPM G (d + 4) (0, 0) μX0_copyFrom [.ref (gB G + 1), .ref (gB G + 209)] m (fun r' m' => WP G (d + 5) (0, 0) μX10_restore 33 [lvU, lvU] (r'.toList ++ []) m' Q)) :
    WPM G (d + 5) (0, 0) μX10_restore [.ref (gB G), .int (1 : Int32)] m Q := by
  refine WPM.of pX10 (Nat.le_of_ble_eq_true rfl) rfl ?_
  refine wp_iload_n dX10_restore_0 rfl ?_
  refine wp_iconst (0 : Int32) dX10_restore_1 (by decide) ?_
  refine wp_iconst (1 : Int32) dX10_restore_2 (by decide) ?_
  refine wp_callS (As := [.int (1 : Int32), .int (0 : Int32), .int (1 : Int32)]) (S := []) (b' := (0, 0)) (b := (0, 0)) dX10_restore_3 MX10_35 rfl rfl (Nat.le_of_ble_eq_true rfl) ?_
  refine WPM.of pX10 (Nat.le_of_ble_eq_true rfl) rfl ?_
  refine wp_iload_n dX10_within_0 rfl ?_
  refine wp_iload_n dX10_within_1 rfl ?_
  refine wp_icmp_lt 14 dX10_within_2 (by decide) (fun q => absurd q (by decide)) (fun _ => ?_)
  refine wp_iload_n dX10_within_5 rfl ?_
  refine wp_iload_n dX10_within_6 rfl ?_
  refine wp_icmp_gt 14 dX10_within_7 (by decide) (fun q => absurd q (by decide)) (fun _ => ?_)
  refine wp_iconst (1 : Int32) dX10_within_10 (by decide) ?_
  refine wp_goto 15 dX10_within_11 (by decide) ?_
  refine wp_zret dX10_within_15 rfl rfl ?_
  show WP G (d + 5) (0, 0) μX10_restore 6 [.ref (gB G), .int (1 : Int32)] [.int (1 : Int32)] m _
  refine wp_if_eq 18 dX10_restore_6 (by decide) (fun q => absurd q (by decide)) (fun _ => ?_)
  refine wp_aload_n dX10_restore_9 rfl ?_
  refine wp_getr (gB G + 278) dX10_restore_10 fX10_23 (ka0 hF) (hF.2 _ _) (rra 278 (isK_le (ka0 hF)) (fun _ => rfl)) ?_
  refine wp_iload_n dX10_restore_13 rfl ?_
  refine wp_zaldk (n := 2) 1 (1 : Int32) dX10_restore_14 (ka hF 278 (by decide)) (la 278) (vinl (by decide)) rfl hs ?_
  refine wp_if_ne 20 dX10_restore_15 (by decide) (fun _ => ?_) (fun q => absurd q (by decide))
  refine wp_aload_n dX10_restore_20 rfl ?_
  refine wp_getr (gB G + 1) dX10_restore_21 fX10_10 (ka0 hF) (hF.2 _ _) (rra 1 (isK_le (ka0 hF)) (fun _ => rfl)) ?_
  refine wp_aload_n dX10_restore_24 rfl ?_
  refine wp_getr (gB G + 139) dX10_restore_25 fX10_19 (ka0 hF) (hF.2 _ _) (rra 139 (isK_le (ka0 hF)) (fun _ => rfl)) ?_
  refine wp_iload_n dX10_restore_28 rfl ?_
  refine wp_raldk (n := 2) 1 (gB G + 209) dX10_restore_29 (ka hF 139 (by decide)) (by decide) (by decide) (la 139) (vinl (by decide)) rfl (hF.2 _ _) (rsv (1 : Int32) hF (Or.inr rfl)) ?_
  refine wp_forget [lvU, lvU] ⟨Or.inr rfl, Or.inr rfl, trivial⟩ ?_
  refine wp_callV (As := [.ref (gB G + 209)]) (S := []) (b' := (0, 0)) (b := (0, 0)) dX10_restore_30 MX10_254 (kc0 hF (isC1 G)) rfl rfl rfl rfl (Nat.le_of_ble_eq_true rfl) ?_
  exact e1

theorem bC_rs1 {G : Cx} {d : Nat} {m : Mm} {Q : Option Value → Mm → Prop}  (hF : Full G m) 
    (e1 : Q (some (.int (1 : Int32))) m) :
    WP G (d + 5) (0, 0) μX10_restore 33 [lvU, lvU] [] m Q := by
  refine wp_iconst (1 : Int32) dX10_restore_33 (by decide) ?_
  exact wp_zret dX10_restore_34 rfl rfl (e1)

theorem aC_save {G : Cx} {d : Nat} {m : Mm} {Q : Option Value → Mm → Prop} {x : Int32}  (hF : Full G m) (hx : x < 0) 
    (e1 : Q (some (.int (0 : Int32))) m) :
    WPM G (d + 5) (0, 0) μX10_save [.ref (gB G), .int x] m Q := by
  refine WPM.of pX10 (Nat.le_of_ble_eq_true rfl) rfl ?_
  refine wp_iload_n dX10_save_0 rfl ?_
  refine wp_iconst (0 : Int32) dX10_save_1 (by decide) ?_
  refine wp_iconst (1 : Int32) dX10_save_2 (by decide) ?_
  refine wp_callS (As := [.int x, .int (0 : Int32), .int (1 : Int32)]) (S := []) (b' := (0, 0)) (b := (0, 0)) dX10_save_3 MX10_35 rfl rfl (Nat.le_of_ble_eq_true rfl) ?_
  refine WPM.of pX10 (Nat.le_of_ble_eq_true rfl) rfl ?_
  refine wp_iload_n dX10_within_0 rfl ?_
  refine wp_iload_n dX10_within_1 rfl ?_
  refine wp_icmp_lt 14 dX10_within_2 (by decide) (fun _ => ?_) (fun q => absurd hx q)
  refine wp_iconst (0 : Int32) dX10_within_14 (by decide) ?_
  refine wp_zret dX10_within_15 rfl rfl ?_
  show WP G (d + 5) (0, 0) μX10_save 6 [.ref (gB G), .int x] [.int (0 : Int32)] m _
  refine wp_if_ne 11 dX10_save_6 (by decide) (fun q => absurd (by decide) q) (fun _ => ?_)
  refine wp_iconst (0 : Int32) dX10_save_9 (by decide) ?_
  exact wp_zret dX10_save_10 rfl rfl (e1)

theorem bC_save {G : Cx} {d : Nat} {m : Mm} {Q : Option Value → Mm → Prop} {x : Int32}  (hF : Full G m) (hx : ¬ x < 0) (hy : (1 : Int32) < x) 
    (e1 : Q (some (.int (0 : Int32))) m) :
    WPM G (d + 5) (0, 0) μX10_save [.ref (gB G), .int x] m Q := by
  refine WPM.of pX10 (Nat.le_of_ble_eq_true rfl) rfl ?_
  refine wp_iload_n dX10_save_0 rfl ?_
  refine wp_iconst (0 : Int32) dX10_save_1 (by decide) ?_
  refine wp_iconst (1 : Int32) dX10_save_2 (by decide) ?_
  refine wp_callS (As := [.int x, .int (0 : Int32), .int (1 : Int32)]) (S := []) (b' := (0, 0)) (b := (0, 0)) dX10_save_3 MX10_35 rfl rfl (Nat.le_of_ble_eq_true rfl) ?_
  refine WPM.of pX10 (Nat.le_of_ble_eq_true rfl) rfl ?_
  refine wp_iload_n dX10_within_0 rfl ?_
  refine wp_iload_n dX10_within_1 rfl ?_
  refine wp_icmp_lt 14 dX10_within_2 (by decide) (fun q => absurd q hx) (fun _ => ?_)
  refine wp_iload_n dX10_within_5 rfl ?_
  refine wp_iload_n dX10_within_6 rfl ?_
  refine wp_icmp_gt 14 dX10_within_7 (by decide) (fun _ => ?_) (fun q => absurd hy q)
  refine wp_iconst (0 : Int32) dX10_within_14 (by decide) ?_
  refine wp_zret dX10_within_15 rfl rfl ?_
  show WP G (d + 5) (0, 0) μX10_save 6 [.ref (gB G), .int x] [.int (0 : Int32)] m _
  refine wp_if_ne 11 dX10_save_6 (by decide) (fun q => absurd (by decide) q) (fun _ => ?_)
  refine wp_iconst (0 : Int32) dX10_save_9 (by decide) ?_
  exact wp_zret dX10_save_10 rfl rfl (e1)

theorem aC_restore {G : Cx} {d : Nat} {m : Mm} {Q : Option Value → Mm → Prop} {x : Int32}  (hF : Full G m) (hx : x < 0) 
    (e1 : Q (some (.int (0 : Int32))) m) :
    WPM G (d + 5) (0, 0) μX10_restore [.ref (gB G), .int x] m Q := by
  refine WPM.of pX10 (Nat.le_of_ble_eq_true rfl) rfl ?_
  refine wp_iload_n dX10_restore_0 rfl ?_
  refine wp_iconst (0 : Int32) dX10_restore_1 (by decide) ?_
  refine wp_iconst (1 : Int32) dX10_restore_2 (by decide) ?_
  refine wp_callS (As := [.int x, .int (0 : Int32), .int (1 : Int32)]) (S := []) (b' := (0, 0)) (b := (0, 0)) dX10_restore_3 MX10_35 rfl rfl (Nat.le_of_ble_eq_true rfl) ?_
  refine WPM.of pX10 (Nat.le_of_ble_eq_true rfl) rfl ?_
  refine wp_iload_n dX10_within_0 rfl ?_
  refine wp_iload_n dX10_within_1 rfl ?_
  refine wp_icmp_lt 14 dX10_within_2 (by decide) (fun _ => ?_) (fun q => absurd hx q)
  refine wp_iconst (0 : Int32) dX10_within_14 (by decide) ?_
  refine wp_zret dX10_within_15 rfl rfl ?_
  show WP G (d + 5) (0, 0) μX10_restore 6 [.ref (gB G), .int x] [.int (0 : Int32)] m _
  refine wp_if_eq 18 dX10_restore_6 (by decide) (fun _ => ?_) (fun q => absurd (by decide) q)
  refine wp_iconst (0 : Int32) dX10_restore_18 (by decide) ?_
  exact wp_zret dX10_restore_19 rfl rfl (e1)

theorem bC_restore {G : Cx} {d : Nat} {m : Mm} {Q : Option Value → Mm → Prop} {x : Int32}  (hF : Full G m) (hx : ¬ x < 0) (hy : (1 : Int32) < x) 
    (e1 : Q (some (.int (0 : Int32))) m) :
    WPM G (d + 5) (0, 0) μX10_restore [.ref (gB G), .int x] m Q := by
  refine WPM.of pX10 (Nat.le_of_ble_eq_true rfl) rfl ?_
  refine wp_iload_n dX10_restore_0 rfl ?_
  refine wp_iconst (0 : Int32) dX10_restore_1 (by decide) ?_
  refine wp_iconst (1 : Int32) dX10_restore_2 (by decide) ?_
  refine wp_callS (As := [.int x, .int (0 : Int32), .int (1 : Int32)]) (S := []) (b' := (0, 0)) (b := (0, 0)) dX10_restore_3 MX10_35 rfl rfl (Nat.le_of_ble_eq_true rfl) ?_
  refine WPM.of pX10 (Nat.le_of_ble_eq_true rfl) rfl ?_
  refine wp_iload_n dX10_within_0 rfl ?_
  refine wp_iload_n dX10_within_1 rfl ?_
  refine wp_icmp_lt 14 dX10_within_2 (by decide) (fun q => absurd q hx) (fun _ => ?_)
  refine wp_iload_n dX10_within_5 rfl ?_
  refine wp_iload_n dX10_within_6 rfl ?_
  refine wp_icmp_gt 14 dX10_within_7 (by decide) (fun _ => ?_) (fun q => absurd hy q)
  refine wp_iconst (0 : Int32) dX10_within_14 (by decide) ?_
  refine wp_zret dX10_within_15 rfl rfl ?_
  show WP G (d + 5) (0, 0) μX10_restore 6 [.ref (gB G), .int x] [.int (0 : Int32)] m _
  refine wp_if_eq 18 dX10_restore_6 (by decide) (fun _ => ?_) (fun q => absurd (by decide) q)
  refine wp_iconst (0 : Int32) dX10_restore_18 (by decide) ?_
  exact wp_zret dX10_restore_19 rfl rfl (e1)
