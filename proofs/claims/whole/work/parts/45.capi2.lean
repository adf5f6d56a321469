theorem iC_target {G : Cx} {d : Nat} {m : Mm} {Q : Option Value → Mm → Prop} {i n : Nat} {k o : Nat}  (hF : Full G m) (hn : fi m 7 (gB G + 1) = nI (n + 1)) (hm : n + 1 ≤ 6) (hi : i < n + 1) (hk : fi m 5 (gB G + 1) = nI k) (hk12 : k ≤ 12) (ho : fi m 300 (lv (gB G + 1) i) = nI o) (hok : o < k) 
    (e1 : Q (some (.int (Int64.toInt32 (limF (quoF ((Int32.toInt64 ((fi m 401 (nd (gB G + 1) o)) - (fi m 302 (lv (gB G + 1) i)))) * (1000 : Int64)) (Int32.toInt64 ((fi m 303 (lv (gB G + 1) i)) - (fi m 302 (lv (gB G + 1) i))))) (0 : Int64) (1000 : Int64))))) m) :
    WPM G (d + 4) (0, 0) μX10_target [.ref (gB G), .int (nI i)] m Q := by
  refine WPM.of pX10 (Nat.le_of_ble_eq_true rfl) rfl ?_
  refine wp_aload_n dX10_target_0 rfl ?_
  refine wp_getr (gB G + 1) dX10_target_1 fX10_10 (ka0 hF) (hF.2 _ _) (rra 1 (isK_le (ka0 hF)) (fun _ => rfl)) ?_
  refine wp_iload_n dX10_target_4 rfl ?_
  refine wp_callV (As := [.int (nI i)]) (S := []) (b' := (0, 0)) (b := (0, 0)) dX10_target_5 MX10_123 (kc0 hF (isC1 G)) rfl rfl rfl rfl (Nat.le_of_ble_eq_true rfl) ?_
  refine WPM.of pX0 (Nat.le_of_ble_eq_true rfl) rfl ?_
  refine wp_iload_n dX0_hasLouvre_0 rfl ?_
  refine wp_if_lt 16 dX0_hasLouvre_1 (by decide) (fun q => absurd q (nI_pos (by omega))) (fun _ => ?_)
  refine wp_iload_n dX0_hasLouvre_4 rfl ?_
  refine wp_aload_n dX0_hasLouvre_5 rfl ?_
  refine wp_geti (nI (n + 1)) dX0_hasLouvre_6 fX0_88 (Or.inl rfl) (kc0 hF (isC1 G)) hn ?_
  refine wp_icmp_ge 16 dX0_hasLouvre_9 (by decide) (fun q => absurd (nlt_ (a := i) (b := n + 1) hi (by omega)) q) (fun _ => ?_)
  refine wp_iconst (1 : Int32) dX0_hasLouvre_12 (by decide) ?_
  refine wp_goto 17 dX0_hasLouvre_13 (by decide) ?_
  refine wp_zret dX0_hasLouvre_17 rfl rfl ?_
  show WP G (d + 4) (0, 0) μX10_target 8 [.ref (gB G), .int (nI i)] [.int (1 : Int32)] m _
  refine wp_if_eq 30 dX10_target_8 (by decide) (fun q => absurd q (by decide)) (fun _ => ?_)
  refine wp_aload_n dX10_target_11 rfl ?_
  refine wp_getr (gB G + 1) dX10_target_12 fX10_10 (ka0 hF) (hF.2 _ _) (rra 1 (isK_le (ka0 hF)) (fun _ => rfl)) ?_
  refine wp_aload_n dX10_target_15 rfl ?_
  refine wp_getr (gB G + 1) dX10_target_16 fX10_10 (ka0 hF) (hF.2 _ _) (rra 1 (isK_le (ka0 hF)) (fun _ => rfl)) ?_
  refine wp_getr ((gB G + 1) + 3) dX10_target_19 fX10_103 (kc0 hF (isC1 G)) (hF.2 _ _) (rra 3 (isK_le (kc0 hF (isC1 G))) (fun _ => rfl)) ?_
  refine wp_iload_n dX10_target_22 rfl ?_
  refine wp_raldk (n := 6) i (lv (gB G + 1) i) dX10_target_23 (kc hF (isC1 G) 3 (by decide)) (by decide) (by decide) (lc (isC1 G) 3 (by decide)) (vin (by omega) (by decide)) (nIc (by omega)) (hF.2 _ _) (rlv hF (isC1 G)) ?_
  refine wp_callV (As := [.ref (lv (gB G + 1) i)]) (S := []) (b' := (0, 0)) (b := (0, 0)) dX10_target_24 MX10_129 (kc0 hF (isC1 G)) rfl rfl rfl rfl (Nat.le_of_ble_eq_true rfl) ?_
  refine WPM.of pX0 (Nat.le_of_ble_eq_true rfl) rfl ?_
  refine wp_aload_n dX0_targetOf_0 rfl ?_
  refine wp_aload_n dX0_targetOf_1 rfl ?_
  refine wp_geti (nI o) dX0_targetOf_2 fX0_159 (Or.inl rfl) (klv hF (isC1 G) (by omega)) ho ?_
  refine wp_callV (As := [.int (nI o)]) (S := []) (b' := (0, 0)) (b := (0, 0)) dX0_targetOf_5 MX0_162 (kc0 hF (isC1 G)) rfl rfl rfl rfl (Nat.le_of_ble_eq_true rfl) ?_
  refine WPM.of pX0 (Nat.le_of_ble_eq_true rfl) rfl ?_
  refine wp_aload_n dX0_temperatureAt_0 rfl ?_
  refine wp_iload_n dX0_temperatureAt_1 rfl ?_
  refine wp_callV (As := [.int (nI o)]) (S := []) (b' := (0, 0)) (b := (0, 0)) dX0_temperatureAt_2 MX0_152 (kc0 hF (isC1 G)) rfl rfl rfl rfl (Nat.le_of_ble_eq_true rfl) ?_
  refine WPM.of pX0 (Nat.le_of_ble_eq_true rfl) rfl ?_
  refine wp_iload_n dX0_hasNode_0 rfl ?_
  refine wp_if_lt 16 dX0_hasNode_1 (by decide) (fun q => absurd q (nI_pos (by omega))) (fun _ => ?_)
  refine wp_iload_n dX0_hasNode_4 rfl ?_
  refine wp_aload_n dX0_hasNode_5 rfl ?_
  refine wp_geti (nI k) dX0_hasNode_6 fX0_75 (Or.inl rfl) (kc0 hF (isC1 G)) hk ?_
  refine wp_icmp_ge 16 dX0_hasNode_9 (by decide) (fun q => absurd (nlt_ (a := o) (b := k) hok (by omega)) q) (fun _ => ?_)
  refine wp_iconst (1 : Int32) dX0_hasNode_12 (by decide) ?_
  refine wp_goto 17 dX0_hasNode_13 (by decide) ?_
  refine wp_zret dX0_hasNode_17 rfl rfl ?_
  show WP G (d + 2) (0, 0) μX0_temperatureAt 5 [.ref (gB G + 1), .int (nI o)] [.int (1 : Int32)] m _
  refine wp_if_eq 20 dX0_temperatureAt_5 (by decide) (fun q => absurd q (by decide)) (fun _ => ?_)
  refine wp_aload_n dX0_temperatureAt_8 rfl ?_
  refine wp_getr ((gB G + 1) + 1) dX0_temperatureAt_9 fX0_11 (kc0 hF (isC1 G)) (hF.2 _ _) (rra 1 (isK_le (kc0 hF (isC1 G))) (fun _ => rfl)) ?_
  refine wp_iload_n dX0_temperatureAt_12 rfl ?_
  refine wp_raldk (n := 12) o (nd (gB G + 1) o) dX0_temperatureAt_13 (kc hF (isC1 G) 1 (by decide)) (by decide) (by decide) (lc (isC1 G) 1 (by decide)) (vin (by omega) (by decide)) (nIc (by omega)) (hF.2 _ _) (rnd hF (isC1 G)) ?_
  refine wp_geti (fi m 401 (nd (gB G + 1) o)) dX0_temperatureAt_14 fX0_156 (Or.inl rfl) (knd hF (isC1 G) (by omega)) rfl ?_
  refine wp_goto 21 dX0_temperatureAt_17 (by decide) ?_
  refine wp_iret dX0_temperatureAt_21 rfl ?_
  show WP G (d + 3) (0, 0) μX0_targetOf 8 [.ref (gB G + 1), .ref (lv (gB G + 1) i), lvU, lvU] [.int (fi m 401 (nd (gB G + 1) o))] m _
  refine wp_aload_n dX0_targetOf_8 rfl ?_
  refine wp_geti (fi m 302 (lv (gB G + 1) i)) dX0_targetOf_9 fX0_166 (Or.inl rfl) (klv hF (isC1 G) (by omega)) rfl ?_
  refine wp_isubv ((fi m 401 (nd (gB G + 1) o)) - (fi m 302 (lv (gB G + 1) i))) dX0_targetOf_12 rfl ?_
  refine wp_i2l dX0_targetOf_13 ?_
  refine wp_lstore_n dX0_targetOf_14 (by decide) rfl ?_
  refine wp_lload_n dX0_targetOf_15 rfl ?_
  refine wp_ldc2 dX0_targetOf_16 kX0_169 ?_
  refine wp_lmul dX0_targetOf_19 ?_
  refine wp_aload_n dX0_targetOf_20 rfl ?_
  refine wp_geti (fi m 303 (lv (gB G + 1) i)) dX0_targetOf_21 fX0_171 (Or.inl rfl) (klv hF (isC1 G) (by omega)) rfl ?_
  refine wp_aload_n dX0_targetOf_24 rfl ?_
  refine wp_geti (fi m 302 (lv (gB G + 1) i)) dX0_targetOf_25 fX0_166 (Or.inl rfl) (klv hF (isC1 G) (by omega)) rfl ?_
  refine wp_isubv ((fi m 303 (lv (gB G + 1) i)) - (fi m 302 (lv (gB G + 1) i))) dX0_targetOf_28 rfl ?_
  refine wp_i2l dX0_targetOf_29 ?_
  refine wp_quoFN dX0_targetOf_30 MX0_148 (Nat.le_of_ble_eq_true rfl) ?_
  refine wp_lconst (0 : Int64) dX0_targetOf_33 (by decide) ?_
  refine wp_ldc2 dX0_targetOf_34 kX0_169 ?_
  refine wp_limFN dX0_targetOf_37 MX0_174 (Nat.le_of_ble_eq_true rfl) ?_
  refine wp_l2i dX0_targetOf_40 ?_
  refine wp_iret dX0_targetOf_41 rfl ?_
  show WP G (d + 4) (0, 0) μX10_target 27 [.ref (gB G), .int (nI i)] [.int (Int64.toInt32 (limF (quoF ((Int32.toInt64 ((fi m 401 (nd (gB G + 1) o)) - (fi m 302 (lv (gB G + 1) i)))) * (1000 : Int64)) (Int32.toInt64 ((fi m 303 (lv (gB G + 1) i)) - (fi m 302 (lv (gB G + 1) i))))) (0 : Int64) (1000 : Int64)))] m _
  refine wp_goto 32 dX10_target_27 (by decide) ?_
  exact wp_iret dX10_target_32 rfl (e1)

theorem iM_target {G : Cx} {d : Nat} {m : Mm} {Q : Option Value → Mm → Prop} {i n : Nat} {o : Nat}  (hF : Full G m) (hn : ai m (gB G + 294) 13 = nI (n + 1)) (hm : n + 1 ≤ 6) (hi : i < n + 1) (ho : ai m (gB G + 294) (7 * i + 296) = nI o) (h12 : o < 12) 
    (g1 : ¬ (Int32.toInt64 ((ai m (gB G + 294) (7 * i + 299)) - (ai m (gB G + 294) (7 * i + 298)))) = 0)
    (e1 : Q (some (.int (Int64.toInt32 (lmax (0 : Int64) (lmin (1000 : Int64) (((Int32.toInt64 ((ai m (gB G + 294) (11 * o + 21)) - (ai m (gB G + 294) (7 * i + 298)))) * (1000 : Int64)) / (Int32.toInt64 ((ai m (gB G + 294) (7 * i + 299)) - (ai m (gB G + 294) (7 * i + 298)))))))))) m) :
    WPM G (d + 4) (0, 0) μX11_target [.ref (gB G + 293), .int (nI i)] m Q := by
  refine WPM.of pX11 (Nat.le_of_ble_eq_true rfl) rfl ?_
  refine wp_aload_n dX11_target_0 rfl ?_
  refine wp_iload_n dX11_target_1 rfl ?_
  refine wp_callV (As := [.int (nI i)]) (S := []) (b' := (0, 0)) (b := (0, 0)) dX11_target_2 MX11_109 (ka hF 293 (by decide)) rfl rfl rfl rfl (Nat.le_of_ble_eq_true rfl) ?_
  refine WPM.of pX11 (Nat.le_of_ble_eq_true rfl) rfl ?_
  refine wp_iload_n dX11_isLouvre_0 rfl ?_
  refine wp_iconst (0 : Int32) dX11_isLouvre_1 (by decide) ?_
  refine wp_aload_n dX11_isLouvre_2 rfl ?_
  refine wp_getr (gB G + 294) dX11_isLouvre_3 fX11_7 (ka hF 293 (by decide)) (hF.2 _ _) (rra 1 (isK_le (ka hF 293 (by decide))) (fun _ => rfl)) ?_
  refine wp_bipush (13 : Int32) dX11_isLouvre_6 (by decide) ?_
  refine wp_ialdk (n := 1486) 13 (nI (n + 1)) dX11_isLouvre_8 (ka hF 294 (by decide)) (la 294) (vinl (by decide)) rfl hn ?_
  refine wp_iconst (1 : Int32) dX11_isLouvre_9 (by decide) ?_
  refine wp_isubv (nI n) dX11_isLouvre_10 (nsub (a := n + 1) (b := 1) (by omega)) ?_
  refine wp_callS (As := [.int (nI i), .int (0 : Int32), .int (nI n)]) (S := []) (b' := (0, 0)) (b := (0, 0)) dX11_isLouvre_11 MX11_67 rfl rfl (Nat.le_of_ble_eq_true rfl) ?_
  refine WPM.of pX11 (Nat.le_of_ble_eq_true rfl) rfl ?_
  refine wp_iload_n dX11_isBetween_0 rfl ?_
  refine wp_iload_n dX11_isBetween_1 rfl ?_
  refine wp_icmp_lt 14 dX11_isBetween_2 (by decide) (fun q => absurd q (nI_pos (by omega))) (fun _ => ?_)
  refine wp_iload_n dX11_isBetween_5 rfl ?_
  refine wp_iload_n dX11_isBetween_6 rfl ?_
  refine wp_icmp_gt 14 dX11_isBetween_7 (by decide) (fun q => absurd q (fun z => (show ¬ n < i by omega) (nlt (a := n) (b := i) z (by omega) (by omega)))) (fun _ => ?_)
  refine wp_iconst (1 : Int32) dX11_isBetween_10 (by decide) ?_
  refine wp_goto 15 dX11_isBetween_11 (by decide) ?_
  refine wp_zret dX11_isBetween_15 rfl rfl ?_
  show WP G (d + 3) (0, 0) μX11_isLouvre 14 [.ref (gB G + 293), .int (nI i)] [.int (1 : Int32)] m _
  refine wp_zret dX11_isLouvre_14 rfl rfl ?_
  show WP G (d + 4) (0, 0) μX11_target 5 [.ref (gB G + 293), .int (nI i)] [.int (1 : Int32)] m _
  refine wp_if_eq 16 dX11_target_5 (by decide) (fun q => absurd q (by decide)) (fun _ => ?_)
  refine wp_aload_n dX11_target_8 rfl ?_
  refine wp_iload_n dX11_target_9 rfl ?_
  refine wp_callV (As := [.int (nI i)]) (S := []) (b' := (0, 0)) (b := (0, 0)) dX11_target_10 MX11_121 (ka hF 293 (by decide)) rfl rfl rfl rfl (Nat.le_of_ble_eq_true rfl) ?_
  refine WPM.of pX11 (Nat.le_of_ble_eq_true rfl) rfl ?_
  refine wp_aload_n dX11_targetOf_0 rfl ?_
  refine wp_aload_n dX11_targetOf_1 rfl ?_
  refine wp_iload_n dX11_targetOf_2 rfl ?_
  refine wp_iconst (0 : Int32) dX11_targetOf_3 (by decide) ?_
  refine wp_callV (As := [.int (nI i), .int (0 : Int32)]) (S := [.ref (gB G + 293)]) (b' := (0, 0)) (b := (0, 0)) dX11_targetOf_4 MX11_112 (ka hF 293 (by decide)) rfl rfl rfl rfl (Nat.le_of_ble_eq_true rfl) ?_
  refine WPM.of pX11 (Nat.le_of_ble_eq_true rfl) rfl ?_
  refine wp_aload_n dX11_louvre_0 rfl ?_
  refine wp_getr (gB G + 294) dX11_louvre_1 fX11_7 (ka hF 293 (by decide)) (hF.2 _ _) (rra 1 (isK_le (ka hF 293 (by decide))) (fun _ => rfl)) ?_
  refine wp_sipush (296 : Int32) dX11_louvre_4 (by decide) ?_
  refine wp_bipush (7 : Int32) dX11_louvre_7 (by decide) ?_
  refine wp_iload_n dX11_louvre_9 rfl ?_
  refine wp_imulv (nI (7 * i)) dX11_louvre_10 (nmul (a := 7) (b := i) (by omega)) ?_
  refine wp_iaddv (nI (7 * i + 296)) dX11_louvre_11 (nadd (a := 296) (b := 7 * i) (by omega)) ?_
  refine wp_iload_n dX11_louvre_12 rfl ?_
  refine wp_iaddv (nI (7 * i + 296)) dX11_louvre_13 (nadd (a := 7 * i + 296) (b := 0) (by omega)) ?_
  refine wp_ialdk (n := 1486) (7 * i + 296) (nI o) dX11_louvre_14 (ka hF 294 (by decide)) (la 294) (vin (by omega) (by decide)) (nIc (by omega)) ho ?_
  refine wp_iret dX11_louvre_15 rfl ?_
  show WP G (d + 3) (0, 0) μX11_targetOf 7 [.ref (gB G + 293), .int (nI i), lvU, lvU] [.int (nI o), .ref (gB G + 293)] m _
  refine wp_iconst (1 : Int32) dX11_targetOf_7 (by decide) ?_
  refine wp_callV (As := [.int (nI o), .int (1 : Int32)]) (S := []) (b' := (0, 0)) (b := (0, 0)) dX11_targetOf_8 MX11_89 (ka hF 293 (by decide)) rfl rfl rfl rfl (Nat.le_of_ble_eq_true rfl) ?_
  refine WPM.of pX11 (Nat.le_of_ble_eq_true rfl) rfl ?_
  refine wp_aload_n dX11_node_0 rfl ?_
  refine wp_getr (gB G + 294) dX11_node_1 fX11_7 (ka hF 293 (by decide)) (hF.2 _ _) (rra 1 (isK_le (ka hF 293 (by decide))) (fun _ => rfl)) ?_
  refine wp_bipush (20 : Int32) dX11_node_4 (by decide) ?_
  refine wp_bipush (11 : Int32) dX11_node_6 (by decide) ?_
  refine wp_iload_n dX11_node_8 rfl ?_
  refine wp_imulv (nI (11 * o)) dX11_node_9 (nmul (a := 11) (b := o) (by omega)) ?_
  refine wp_iaddv (nI (11 * o + 20)) dX11_node_10 (nadd (a := 20) (b := 11 * o) (by omega)) ?_
  refine wp_iload_n dX11_node_11 rfl ?_
  refine wp_iaddv (nI (11 * o + 21)) dX11_node_12 (nadd (a := 11 * o + 20) (b := 1) (by omega)) ?_
  refine wp_ialdk (n := 1486) (11 * o + 21) (ai m (gB G + 294) (11 * o + 21)) dX11_node_13 (ka hF 294 (by decide)) (la 294) (vin (by omega) (by decide)) (nIc (by omega)) rfl ?_
  refine wp_iret dX11_node_14 rfl ?_
  show WP G (d + 3) (0, 0) μX11_targetOf 11 [.ref (gB G + 293), .int (nI i), lvU, lvU] [.int (ai m (gB G + 294) (11 * o + 21))] m _
  refine wp_aload_n dX11_targetOf_11 rfl ?_
  refine wp_iload_n dX11_targetOf_12 rfl ?_
  refine wp_iconst (2 : Int32) dX11_targetOf_13 (by decide) ?_
  refine wp_callV (As := [.int (nI i), .int (2 : Int32)]) (S := [.int (ai m (gB G + 294) (11 * o + 21))]) (b' := (0, 0)) (b := (0, 0)) dX11_targetOf_14 MX11_112 (ka hF 293 (by decide)) rfl rfl rfl rfl (Nat.le_of_ble_eq_true rfl) ?_
  refine WPM.of pX11 (Nat.le_of_ble_eq_true rfl) rfl ?_
  refine wp_aload_n dX11_louvre_0 rfl ?_
  refine wp_getr (gB G + 294) dX11_louvre_1 fX11_7 (ka hF 293 (by decide)) (hF.2 _ _) (rra 1 (isK_le (ka hF 293 (by decide))) (fun _ => rfl)) ?_
  refine wp_sipush (296 : Int32) dX11_louvre_4 (by decide) ?_
  refine wp_bipush (7 : Int32) dX11_louvre_7 (by decide) ?_
  refine wp_iload_n dX11_louvre_9 rfl ?_
  refine wp_imulv (nI (7 * i)) dX11_louvre_10 (nmul (a := 7) (b := i) (by omega)) ?_
  refine wp_iaddv (nI (7 * i + 296)) dX11_louvre_11 (nadd (a := 296) (b := 7 * i) (by omega)) ?_
  refine wp_iload_n dX11_louvre_12 rfl ?_
  refine wp_iaddv (nI (7 * i + 298)) dX11_louvre_13 (nadd (a := 7 * i + 296) (b := 2) (by omega)) ?_
  refine wp_ialdk (n := 1486) (7 * i + 298) (ai m (gB G + 294) (7 * i + 298)) dX11_louvre_14 (ka hF 294 (by decide)) (la 294) (vin (by omega) (by decide)) (nIc (by omega)) rfl ?_
  refine wp_iret dX11_louvre_15 rfl ?_
  show WP G (d + 3) (0, 0) μX11_targetOf 17 [.ref (gB G + 293), .int (nI i), lvU, lvU] [.int (ai m (gB G + 294) (7 * i + 298)), .int (ai m (gB G + 294) (11 * o + 21))] m _
  refine wp_isubv ((ai m (gB G + 294) (11 * o + 21)) - (ai m (gB G + 294) (7 * i + 298))) dX11_targetOf_17 rfl ?_
  refine wp_i2l dX11_targetOf_18 ?_
  refine wp_lstore_n dX11_targetOf_19 (by decide) rfl ?_
  refine wp_lload_n dX11_targetOf_20 rfl ?_
  refine wp_ldc2 dX11_targetOf_21 kX11_115 ?_
  refine wp_lmul dX11_targetOf_24 ?_
  refine wp_aload_n dX11_targetOf_25 rfl ?_
  refine wp_iload_n dX11_targetOf_26 rfl ?_
  refine wp_iconst (3 : Int32) dX11_targetOf_27 (by decide) ?_
  refine wp_callV (As := [.int (nI i), .int (3 : Int32)]) (S := [.long ((Int32.toInt64 ((ai m (gB G + 294) (11 * o + 21)) - (ai m (gB G + 294) (7 * i + 298)))) * (1000 : Int64))]) (b' := (0, 0)) (b := (0, 0)) dX11_targetOf_28 MX11_112 (ka hF 293 (by decide)) rfl rfl rfl rfl (Nat.le_of_ble_eq_true rfl) ?_
  refine WPM.of pX11 (Nat.le_of_ble_eq_true rfl) rfl ?_
  refine wp_aload_n dX11_louvre_0 rfl ?_
  refine wp_getr (gB G + 294) dX11_louvre_1 fX11_7 (ka hF 293 (by decide)) (hF.2 _ _) (rra 1 (isK_le (ka hF 293 (by decide))) (fun _ => rfl)) ?_
  refine wp_sipush (296 : Int32) dX11_louvre_4 (by decide) ?_
  refine wp_bipush (7 : Int32) dX11_louvre_7 (by decide) ?_
  refine wp_iload_n dX11_louvre_9 rfl ?_
  refine wp_imulv (nI (7 * i)) dX11_louvre_10 (nmul (a := 7) (b := i) (by omega)) ?_
  refine wp_iaddv (nI (7 * i + 296)) dX11_louvre_11 (nadd (a := 296) (b := 7 * i) (by omega)) ?_
  refine wp_iload_n dX11_louvre_12 rfl ?_
  refine wp_iaddv (nI (7 * i + 299)) dX11_louvre_13 (nadd (a := 7 * i + 296) (b := 3) (by omega)) ?_
  refine wp_ialdk (n := 1486) (7 * i + 299) (ai m (gB G + 294) (7 * i + 299)) dX11_louvre_14 (ka hF 294 (by decide)) (la 294) (vin (by omega) (by decide)) (nIc (by omega)) rfl ?_
  refine wp_iret dX11_louvre_15 rfl ?_
  show WP G (d + 3) (0, 0) μX11_targetOf 31 [.ref (gB G + 293), .int (nI i), .long (Int32.toInt64 ((ai m (gB G + 294) (11 * o + 21)) - (ai m (gB G + 294) (7 * i + 298)))), lvU] [.int (ai m (gB G + 294) (7 * i + 299)), .long ((Int32.toInt64 ((ai m (gB G + 294) (11 * o + 21)) - (ai m (gB G + 294) (7 * i + 298)))) * (1000 : Int64))] m _
  refine wp_aload_n dX11_targetOf_31 rfl ?_
  refine wp_iload_n dX11_targetOf_32 rfl ?_
  refine wp_iconst (2 : Int32) dX11_targetOf_33 (by decide) ?_
  refine wp_callV (As := [.int (nI i), .int (2 : Int32)]) (S := [.int (ai m (gB G + 294) (7 * i + 299)), .long ((Int32.toInt64 ((ai m (gB G + 294) (11 * o + 21)) - (ai m (gB G + 294) (7 * i + 298)))) * (1000 : Int64))]) (b' := (0, 0)) (b := (0, 0)) dX11_targetOf_34 MX11_112 (ka hF 293 (by decide)) rfl rfl rfl rfl (Nat.le_of_ble_eq_true rfl) ?_
  refine WPM.of pX11 (Nat.le_of_ble_eq_true rfl) rfl ?_
  refine wp_aload_n dX11_louvre_0 rfl ?_
  refine wp_getr (gB G + 294) dX11_louvre_1 fX11_7 (ka hF 293 (by decide)) (hF.2 _ _) (rra 1 (isK_le (ka hF 293 (by decide))) (fun _ => rfl)) ?_
  refine wp_sipush (296 : Int32) dX11_louvre_4 (by decide) ?_
  refine wp_bipush (7 : Int32) dX11_louvre_7 (by decide) ?_
  refine wp_iload_n dX11_louvre_9 rfl ?_
  refine wp_imulv (nI (7 * i)) dX11_louvre_10 (nmul (a := 7) (b := i) (by omega)) ?_
  refine wp_iaddv (nI (7 * i + 296)) dX11_louvre_11 (nadd (a := 296) (b := 7 * i) (by omega)) ?_
  refine wp_iload_n dX11_louvre_12 rfl ?_
  refine wp_iaddv (nI (7 * i + 298)) dX11_louvre_13 (nadd (a := 7 * i + 296) (b := 2) (by omega)) ?_
  refine wp_ialdk (n := 1486) (7 * i + 298) (ai m (gB G + 294) (7 * i + 298)) dX11_louvre_14 (ka hF 294 (by decide)) (la 294) (vin (by omega) (by decide)) (nIc (by omega)) rfl ?_
  refine wp_iret dX11_louvre_15 rfl ?_
  show WP G (d + 3) (0, 0) μX11_targetOf 37 [.ref (gB G + 293), .int (nI i), .long (Int32.toInt64 ((ai m (gB G + 294) (11 * o + 21)) - (ai m (gB G + 294) (7 * i + 298)))), lvU] [.int (ai m (gB G + 294) (7 * i + 298)), .int (ai m (gB G + 294) (7 * i + 299)), .long ((Int32.toInt64 ((ai m (gB G + 294) (11 * o + 21)) - (ai m (gB G + 294) (7 * i + 298)))) * (1000 : Int64))] m _
  refine wp_isubv ((ai m (gB G + 294) (7 * i + 299)) - (ai m (gB G + 294) (7 * i + 298))) dX11_targetOf_37 rfl ?_
  refine wp_i2l dX11_targetOf_38 ?_
  refine wp_ldiv dX11_targetOf_39 g1 ?_
  refine wp_lconst (0 : Int64) dX11_targetOf_40 (by decide) ?_
  refine wp_ldc2 dX11_targetOf_41 kX11_115 ?_
  refine wp_callS (As := [.long (((Int32.toInt64 ((ai m (gB G + 294) (11 * o + 21)) - (ai m (gB G + 294) (7 * i + 298)))) * (1000 : Int64)) / (Int32.toInt64 ((ai m (gB G + 294) (7 * i + 299)) - (ai m (gB G + 294) (7 * i + 298))))), .long (0 : Int64), .long (1000 : Int64)]) (S := []) (b' := (0, 0)) (b := (0, 0)) dX11_targetOf_44 MX11_117 rfl rfl (Nat.le_of_ble_eq_true rfl) ?_
  refine WPM.of pX11 (Nat.le_of_ble_eq_true rfl) rfl ?_
  refine wp_lload_n dX11_nearest_0 rfl ?_
  refine wp_lload dX11_nearest_1 rfl ?_
  refine wp_lload_n dX11_nearest_3 rfl ?_
  refine wp_minL dX11_nearest_4 AX11_58 (Nat.le_of_ble_eq_true rfl) ?_
  refine wp_maxL dX11_nearest_7 AX11_64 (Nat.le_of_ble_eq_true rfl) ?_
  refine wp_lret dX11_nearest_10 rfl ?_
  show WP G (d + 3) (0, 0) μX11_targetOf 47 [.ref (gB G + 293), .int (nI i), .long (Int32.toInt64 ((ai m (gB G + 294) (11 * o + 21)) - (ai m (gB G + 294) (7 * i + 298)))), lvU] [.long (lmax (0 : Int64) (lmin (1000 : Int64) (((Int32.toInt64 ((ai m (gB G + 294) (11 * o + 21)) - (ai m (gB G + 294) (7 * i + 298)))) * (1000 : Int64)) / (Int32.toInt64 ((ai m (gB G + 294) (7 * i + 299)) - (ai m (gB G + 294) (7 * i + 298)))))))] m _
  refine wp_l2i dX11_targetOf_47 ?_
  refine wp_iret dX11_targetOf_48 rfl ?_
  show WP G (d + 4) (0, 0) μX11_target 13 [.ref (gB G + 293), .int (nI i)] [.int (Int64.toInt32 (lmax (0 : Int64) (lmin (1000 : Int64) (((Int32.toInt64 ((ai m (gB G + 294) (11 * o + 21)) - (ai m (gB G + 294) (7 * i + 298)))) * (1000 : Int64)) / (Int32.toInt64 ((ai m (gB G + 294) (7 * i + 299)) - (ai m (gB G + 294) (7 * i + 298))))))))] m _
  refine wp_goto 18 dX11_target_13 (by decide) ?_
  exact wp_iret dX11_target_18 rfl (e1)

theorem aC_target {G : Cx} {d : Nat} {m : Mm} {Q : Option Value → Mm → Prop} {x : Int32} {n : Nat}  (hF : Full G m) (hn : fi m 7 (gB G + 1) = nI n) (hm : n ≤ 6) (hx : x < 0) 
    (e1 : Q (some (.int (-1000000001 : Int32))) m) :
    WPM G (d + 4) (0, 0) μX10_target [.ref (gB G), .int x] m Q := by
  refine WPM.of pX10 (Nat.le_of_ble_eq_true rfl) rfl ?_
  refine wp_aload_n dX10_target_0 rfl ?_
  refine wp_getr (gB G + 1) dX10_target_1 fX10_10 (ka0 hF) (hF.2 _ _) (rra 1 (isK_le (ka0 hF)) (fun _ => rfl)) ?_
  refine wp_iload_n dX10_target_4 rfl ?_
  refine wp_callV (As := [.int x]) (S := []) (b' := (0, 0)) (b := (0, 0)) dX10_target_5 MX10_123 (kc0 hF (isC1 G)) rfl rfl rfl rfl (Nat.le_of_ble_eq_true rfl) ?_
  refine WPM.of pX0 (Nat.le_of_ble_eq_true rfl) rfl ?_
  refine wp_iload_n dX0_hasLouvre_0 rfl ?_
  refine wp_if_lt 16 dX0_hasLouvre_1 (by decide) (fun _ => ?_) (fun q => absurd hx q)
  refine wp_iconst (0 : Int32) dX0_hasLouvre_16 (by decide) ?_
  refine wp_zret dX0_hasLouvre_17 rfl rfl ?_
  show WP G (d + 4) (0, 0) μX10_target 8 [.ref (gB G), .int x] [.int (0 : Int32)] m _
  refine wp_if_eq 30 dX10_target_8 (by decide) (fun _ => ?_) (fun q => absurd (by decide) q)
  refine wp_ldc dX10_target_30 kX10_62 ?_
  exact wp_iret dX10_target_32 rfl (e1)

theorem aM_target {G : Cx} {d : Nat} {m : Mm} {Q : Option Value → Mm → Prop} {x : Int32} {n : Nat}  (hF : Full G m) (hn : ai m (gB G + 294) 13 = nI n) (hm : n ≤ 6) (hx : x < 0) 
    (e1 : Q (some (.int (-1000000001 : Int32))) m) :
    WPM G (d + 4) (0, 0) μX11_target [.ref (gB G + 293), .int x] m Q := by
  refine WPM.of pX11 (Nat.le_of_ble_eq_true rfl) rfl ?_
  refine wp_aload_n dX11_target_0 rfl ?_
  refine wp_iload_n dX11_target_1 rfl ?_
  refine wp_callV (As := [.int x]) (S := []) (b' := (0, 0)) (b := (0, 0)) dX11_target_2 MX11_109 (ka hF 293 (by decide)) rfl rfl rfl rfl (Nat.le_of_ble_eq_true rfl) ?_
  refine WPM.of pX11 (Nat.le_of_ble_eq_true rfl) rfl ?_
  refine wp_iload_n dX11_isLouvre_0 rfl ?_
  refine wp_iconst (0 : Int32) dX11_isLouvre_1 (by decide) ?_
  refine wp_aload_n dX11_isLouvre_2 rfl ?_
  refine wp_getr (gB G + 294) dX11_isLouvre_3 fX11_7 (ka hF 293 (by decide)) (hF.2 _ _) (rra 1 (isK_le (ka hF 293 (by decide))) (fun _ => rfl)) ?_
  refine wp_bipush (13 : Int32) dX11_isLouvre_6 (by decide) ?_
  refine wp_ialdk (n := 1486) 13 (nI n) dX11_isLouvre_8 (ka hF 294 (by decide)) (la 294) (vinl (by decide)) rfl hn ?_
  refine wp_iconst (1 : Int32) dX11_isLouvre_9 (by decide) ?_
  refine wp_isubv ((nI n) - (1 : Int32)) dX11_isLouvre_10 rfl ?_
  refine wp_callS (As := [.int x, .int (0 : Int32), .int ((nI n) - (1 : Int32))]) (S := []) (b' := (0, 0)) (b := (0, 0)) dX11_isLouvre_11 MX11_67 rfl rfl (Nat.le_of_ble_eq_true rfl) ?_
  refine WPM.of pX11 (Nat.le_of_ble_eq_true rfl) rfl ?_
  refine wp_iload_n dX11_isBetween_0 rfl ?_
  refine wp_iload_n dX11_isBetween_1 rfl ?_
  refine wp_icmp_lt 14 dX11_isBetween_2 (by decide) (fun _ => ?_) (fun q => absurd hx q)
  refine wp_iconst (0 : Int32) dX11_isBetween_14 (by decide) ?_
  refine wp_zret dX11_isBetween_15 rfl rfl ?_
  show WP G (d + 3) (0, 0) μX11_isLouvre 14 [.ref (gB G + 293), .int x] [.int (0 : Int32)] m _
  refine wp_zret dX11_isLouvre_14 rfl rfl ?_
  show WP G (d + 4) (0, 0) μX11_target 5 [.ref (gB G + 293), .int x] [.int (0 : Int32)] m _
  refine wp_if_eq 16 dX11_target_5 (by decide) (fun _ => ?_) (fun q => absurd (by decide) q)
  refine wp_ldc dX11_target_16 kX11_96 ?_
  exact wp_iret dX11_target_18 rfl (e1)

theorem bC_target {G : Cx} {d : Nat} {m : Mm} {Q : Option Value → Mm → Prop} {x : Int32} {n : Nat}  (hF : Full G m) (hn : fi m 7 (gB G + 1) = nI n) (hm : n ≤ 6) (hxa : ¬ x < 0) (hxb : ¬ x < nI n) 
    (e1 : Q (some (.int (-1000000001 : Int32))) m) :
    WPM G (d + 4) (0, 0) μX10_target [.ref (gB G), .int x] m Q := by
  refine WPM.of pX10 (Nat.le_of_ble_eq_true rfl) rfl ?_
  refine wp_aload_n dX10_target_0 rfl ?_
  refine wp_getr (gB G + 1) dX10_target_1 fX10_10 (ka0 hF) (hF.2 _ _) (rra 1 (isK_le (ka0 hF)) (fun _ => rfl)) ?_
  refine wp_iload_n dX10_target_4 rfl ?_
  refine wp_callV (As := [.int x]) (S := []) (b' := (0, 0)) (b := (0, 0)) dX10_target_5 MX10_123 (kc0 hF (isC1 G)) rfl rfl rfl rfl (Nat.le_of_ble_eq_true rfl) ?_
  refine WPM.of pX0 (Nat.le_of_ble_eq_true rfl) rfl ?_
  refine wp_iload_n dX0_hasLouvre_0 rfl ?_
  refine wp_if_lt 16 dX0_hasLouvre_1 (by decide) (fun q => absurd q hxa) (fun _ => ?_)
  refine wp_iload_n dX0_hasLouvre_4 rfl ?_
  refine wp_aload_n dX0_hasLouvre_5 rfl ?_
  refine wp_geti (nI n) dX0_hasLouvre_6 fX0_88 (Or.inl rfl) (kc0 hF (isC1 G)) hn ?_
  refine wp_icmp_ge 16 dX0_hasLouvre_9 (by decide) (fun _ => ?_) (fun q => absurd q hxb)
  refine wp_iconst (0 : Int32) dX0_hasLouvre_16 (by decide) ?_
  refine wp_zret dX0_hasLouvre_17 rfl rfl ?_
  show WP G (d + 4) (0, 0) μX10_target 8 [.ref (gB G), .int x] [.int (0 : Int32)] m _
  refine wp_if_eq 30 dX10_target_8 (by decide) (fun _ => ?_) (fun q => absurd (by decide) q)
  refine wp_ldc dX10_target_30 kX10_62 ?_
  exact wp_iret dX10_target_32 rfl (e1)

theorem bM_target {G : Cx} {d : Nat} {m : Mm} {Q : Option Value → Mm → Prop} {x : Int32} {n : Nat}  (hF : Full G m) (hn : ai m (gB G + 294) 13 = nI n) (hm : n ≤ 6) (hxa : ¬ x < 0) (hxb : ¬ x < nI n) 
    (e1 : Q (some (.int (-1000000001 : Int32))) m) :
    WPM G (d + 4) (0, 0) μX11_target [.ref (gB G + 293), .int x] m Q := by
  refine WPM.of pX11 (Nat.le_of_ble_eq_true rfl) rfl ?_
  refine wp_aload_n dX11_target_0 rfl ?_
  refine wp_iload_n dX11_target_1 rfl ?_
  refine wp_callV (As := [.int x]) (S := []) (b' := (0, 0)) (b := (0, 0)) dX11_target_2 MX11_109 (ka hF 293 (by decide)) rfl rfl rfl rfl (Nat.le_of_ble_eq_true rfl) ?_
  refine WPM.of pX11 (Nat.le_of_ble_eq_true rfl) rfl ?_
  refine wp_iload_n dX11_isLouvre_0 rfl ?_
  refine wp_iconst (0 : Int32) dX11_isLouvre_1 (by decide) ?_
  refine wp_aload_n dX11_isLouvre_2 rfl ?_
  refine wp_getr (gB G + 294) dX11_isLouvre_3 fX11_7 (ka hF 293 (by decide)) (hF.2 _ _) (rra 1 (isK_le (ka hF 293 (by decide))) (fun _ => rfl)) ?_
  refine wp_bipush (13 : Int32) dX11_isLouvre_6 (by decide) ?_
  refine wp_ialdk (n := 1486) 13 (nI n) dX11_isLouvre_8 (ka hF 294 (by decide)) (la 294) (vinl (by decide)) rfl hn ?_
  refine wp_iconst (1 : Int32) dX11_isLouvre_9 (by decide) ?_
  refine wp_isubv ((nI n) - (1 : Int32)) dX11_isLouvre_10 rfl ?_
  refine wp_callS (As := [.int x, .int (0 : Int32), .int ((nI n) - (1 : Int32))]) (S := []) (b' := (0, 0)) (b := (0, 0)) dX11_isLouvre_11 MX11_67 rfl rfl (Nat.le_of_ble_eq_true rfl) ?_
  refine WPM.of pX11 (Nat.le_of_ble_eq_true rfl) rfl ?_
  refine wp_iload_n dX11_isBetween_0 rfl ?_
  refine wp_iload_n dX11_isBetween_1 rfl ?_
  refine wp_icmp_lt 14 dX11_isBetween_2 (by decide) (fun q => absurd q hxa) (fun _ => ?_)
  refine wp_iload_n dX11_isBetween_5 rfl ?_
  refine wp_iload_n dX11_isBetween_6 rfl ?_
  refine wp_icmp_gt 14 dX11_isBetween_7 (by decide) (fun _ => ?_) (fun q => absurd (sub_lt (by omega) hxa hxb) q)
  refine wp_iconst (0 : Int32) dX11_isBetween_14 (by decide) ?_
  refine wp_zret dX11_isBetween_15 rfl rfl ?_
  show WP G (d + 3) (0, 0) μX11_isLouvre 14 [.ref (gB G + 293), .int x] [.int (0 : Int32)] m _
  refine wp_zret dX11_isLouvre_14 rfl rfl ?_
  show WP G (d + 4) (0, 0) μX11_target 5 [.ref (gB G + 293), .int x] [.int (0 : Int32)] m _
  refine wp_if_eq 16 dX11_target_5 (by decide) (fun _ => ?_) (fun q => absurd (by decide) q)
  refine wp_ldc dX11_target_16 kX11_96 ?_
  exact wp_iret dX11_target_18 rfl (e1)

theorem eC_phase {G : Cx} {d : Nat} {m : Mm} {Q : Option Value → Mm → Prop}  (hF : Full G m) 
    (e1 : WPM G (d + 4) (0, 0) μX0_phaseNow [.ref (gB G + 1)] m (fun r' m' => WP G (d + 5) (0, 0) μX10_phase 7 [lvU] (r'.toList ++ []) m' Q)) :
    WPM G (d + 5) (0, 0) μX10_phase [.ref (gB G)] m Q := by
  refine WPM.of pX10 (Nat.le_of_ble_eq_true rfl) rfl ?_
  refine wp_aload_n dX10_phase_0 rfl ?_
  refine wp_getr (gB G + 1) dX10_phase_1 fX10_10 (ka0 hF) (hF.2 _ _) (rra 1 (isK_le (ka0 hF)) (fun _ => rfl)) ?_
  refine wp_forget [lvU] ⟨Or.inr rfl, trivial⟩ ?_
  refine wp_callV (As := []) (S := []) (b' := (0, 0)) (b := (0, 0)) dX10_phase_4 MX10_176 (kc0 hF (isC1 G)) rfl rfl rfl rfl (Nat.le_of_ble_eq_true rfl) ?_
  exact e1

theorem bC_phase {G : Cx} {d : Nat} {m : Mm} {Q : Option Value → Mm → Prop} {r : Int32} (hF : Full G m) 
    (e1 : Q (some (.int r)) m) :
    WP G (d + 5) (0, 0) μX10_phase 7 [lvU] [.int r] m Q := by
  exact wp_iret dX10_phase_7 rfl (e1)

theorem eC_isSunlit {G : Cx} {d : Nat} {m : Mm} {Q : Option Value → Mm → Prop}  (hF : Full G m) 
    (e1 : WPM G (d + 4) (0, 0) μX0_hasSun [.ref (gB G + 1)] m (fun r' m' => WP G (d + 5) (0, 0) μX10_isSunlit 7 [lvU] (r'.toList ++ []) m' Q)) :
    WPM G (d + 5) (0, 0) μX10_isSunlit [.ref (gB G)] m Q := by
  refine WPM.of pX10 (Nat.le_of_ble_eq_true rfl) rfl ?_
  refine wp_aload_n dX10_isSunlit_0 rfl ?_
  refine wp_getr (gB G + 1) dX10_isSunlit_1 fX10_10 (ka0 hF) (hF.2 _ _) (rra 1 (isK_le (ka0 hF)) (fun _ => rfl)) ?_
  refine wp_forget [lvU] ⟨Or.inr rfl, trivial⟩ ?_
  refine wp_callV (As := []) (S := []) (b' := (0, 0)) (b := (0, 0)) dX10_isSunlit_4 MX10_180 (kc0 hF (isC1 G)) rfl rfl rfl rfl (Nat.le_of_ble_eq_true rfl) ?_
  exact e1

theorem bC_isSunlit {G : Cx} {d : Nat} {m : Mm} {Q : Option Value → Mm → Prop} {r : Int32} (hF : Full G m) 
    (g1 : r = 0 ∨ r = 1)
    (e1 : Q (some (.int r)) m) :
    WP G (d + 5) (0, 0) μX10_isSunlit 7 [lvU] [.int r] m Q := by
  exact wp_zret dX10_isSunlit_7 rfl (narz g1) (e1)

theorem eC_usedPower {G : Cx} {d : Nat} {m : Mm} {Q : Option Value → Mm → Prop}  (hF : Full G m) 
    (e1 : WPM G (d + 4) (0, 0) μX0_powerInUse [.ref (gB G + 1)] m (fun r' m' => WP G (d + 5) (0, 0) μX10_usedPower 7 [lvU] (r'.toList ++ []) m' Q)) :
    WPM G (d + 5) (0, 0) μX10_usedPower [.ref (gB G)] m Q := by
  refine WPM.of pX10 (Nat.le_of_ble_eq_true rfl) rfl ?_
  refine wp_aload_n dX10_usedPower_0 rfl ?_
  refine wp_getr (gB G + 1) dX10_usedPower_1 fX10_10 (ka0 hF) (hF.2 _ _) (rra 1 (isK_le (ka0 hF)) (fun _ => rfl)) ?_
  refine wp_forget [lvU] ⟨Or.inr rfl, trivial⟩ ?_
  refine wp_callV (As := []) (S := []) (b' := (0, 0)) (b := (0, 0)) dX10_usedPower_4 MX10_186 (kc0 hF (isC1 G)) rfl rfl rfl rfl (Nat.le_of_ble_eq_true rfl) ?_
  exact e1

theorem bC_usedPower {G : Cx} {d : Nat} {m : Mm} {Q : Option Value → Mm → Prop} {r : Int32} (hF : Full G m) 
    (e1 : Q (some (.int r)) m) :
    WP G (d + 5) (0, 0) μX10_usedPower 7 [lvU] [.int r] m Q := by
  exact wp_iret dX10_usedPower_7 rfl (e1)

theorem sM_phase {G : Cx} {d : Nat} {m : Mm} {Q : Option Value → Mm → Prop}  (hF : Full G m) 
    (g1 : ¬ (ai m (gB G + 294) 2) = 0)
    (e1 : Q (some (.int ((ai m (gB G + 294) 0) - (ai m (gB G + 294) 0) / (ai m (gB G + 294) 2) * (ai m (gB G + 294) 2)))) m) :
    WPM G (d + 3) (0, 0) μX11_phase [.ref (gB G + 293)] m Q := by
  refine WPM.of pX11 (Nat.le_of_ble_eq_true rfl) rfl ?_
  refine wp_aload_n dX11_phase_0 rfl ?_
  refine wp_getr (gB G + 294) dX11_phase_1 fX11_7 (ka hF 293 (by decide)) (hF.2 _ _) (rra 1 (isK_le (ka hF 293 (by decide))) (fun _ => rfl)) ?_
  refine wp_iconst (0 : Int32) dX11_phase_4 (by decide) ?_
  refine wp_ialdk (n := 1486) 0 (ai m (gB G + 294) 0) dX11_phase_5 (ka hF 294 (by decide)) (la 294) (vinl (by decide)) rfl rfl ?_
  refine wp_aload_n dX11_phase_6 rfl ?_
  refine wp_getr (gB G + 294) dX11_phase_7 fX11_7 (ka hF 293 (by decide)) (hF.2 _ _) (rra 1 (isK_le (ka hF 293 (by decide))) (fun _ => rfl)) ?_
  refine wp_iconst (2 : Int32) dX11_phase_10 (by decide) ?_
  refine wp_ialdk (n := 1486) 2 (ai m (gB G + 294) 2) dX11_phase_11 (ka hF 294 (by decide)) (la 294) (vinl (by decide)) rfl rfl ?_
  refine wp_irem dX11_phase_12 g1 ?_
  exact wp_iret dX11_phase_13 rfl (e1)

theorem iC_violator {G : Cx} {d : Nat} {m : Mm} {Q : Option Value → Mm → Prop} {i n : Nat} (hF : Full G m) (hn : fi m 601 (gB G + 1 + 8) = nI (n + 1)) (hm : n + 1 ≤ 12) (hi : i < n + 1)
    (e1 : Q (some (.int (ai m ((gB G + 1) + 9) i))) m) :
    WPM G (d + 3) (0, 0) μX10_violator [.ref (gB G), .int (nI i)] m Q := by
  refine WPM.of pX10 (Nat.le_of_ble_eq_true rfl) rfl ?_
  refine wp_iload_n dX10_violator_0 rfl ?_
  refine wp_iconst (0 : Int32) dX10_violator_1 (by decide) ?_
  refine wp_aload_n dX10_violator_2 rfl ?_
  refine wp_getr (gB G + 1) dX10_violator_3 fX10_10 (ka0 hF) (hF.2 _ _) (rra 1 (isK_le (ka0 hF)) (fun _ => rfl)) ?_
  refine wp_getr ((gB G + 1) + 8) dX10_violator_6 fX10_213 (kc0 hF (isC1 G)) (hF.2 _ _) (rra 8 (isK_le (kc0 hF (isC1 G))) (fun _ => rfl)) ?_
  refine wp_geti (nI (n + 1)) dX10_violator_9 fX10_217 (Or.inl rfl) (kc hF (isC1 G) 8 (by decide)) hn ?_
  refine wp_iconst (1 : Int32) dX10_violator_12 (by decide) ?_
  refine wp_isubv (nI n) dX10_violator_13 (nsub (a := n + 1) (b := 1) (by omega)) ?_
  refine wp_callS (As := [.int (nI i), .int (0 : Int32), .int (nI n)]) (S := []) (b' := (0, 0)) (b := (0, 0)) dX10_violator_14 MX10_35 rfl rfl (Nat.le_of_ble_eq_true rfl) ?_
  refine WPM.of pX10 (Nat.le_of_ble_eq_true rfl) rfl ?_
  refine wp_iload_n dX10_within_0 rfl ?_
  refine wp_iload_n dX10_within_1 rfl ?_
  refine wp_icmp_lt 14 dX10_within_2 (by decide) (fun q => absurd q (nI_pos (by omega))) (fun _ => ?_)
  refine wp_iload_n dX10_within_5 rfl ?_
  refine wp_iload_n dX10_within_6 rfl ?_
  refine wp_icmp_gt 14 dX10_within_7 (by decide) (fun q => absurd q (fun z => (show ¬ n < i by omega) (nlt (a := n) (b := i) z (by omega) (by omega)))) (fun _ => ?_)
  refine wp_iconst (1 : Int32) dX10_within_10 (by decide) ?_
  refine wp_goto 15 dX10_within_11 (by decide) ?_
  refine wp_zret dX10_within_15 rfl rfl ?_
  show WP G (d + 3) (0, 0) μX10_violator 17 [.ref (gB G), .int (nI i)] [.int (1 : Int32)] m _
  refine wp_if_ne 23 dX10_violator_17 (by decide) (fun _ => ?_) (fun q => absurd q (by decide))
  refine wp_aload_n dX10_violator_23 rfl ?_
  refine wp_getr (gB G + 1) dX10_violator_24 fX10_10 (ka0 hF) (hF.2 _ _) (rra 1 (isK_le (ka0 hF)) (fun _ => rfl)) ?_
  refine wp_getr ((gB G + 1) + 8) dX10_violator_27 fX10_213 (kc0 hF (isC1 G)) (hF.2 _ _) (rra 8 (isK_le (kc0 hF (isC1 G))) (fun _ => rfl)) ?_
  refine wp_getr ((gB G + 1) + 9) dX10_violator_30 fX10_240 (kc hF (isC1 G) 8 (by decide)) (hF.2 _ _) (rra 1 (isK_le (kc hF (isC1 G) 8 (by decide))) (fun _ => rfl)) ?_
  refine wp_iload_n dX10_violator_33 rfl ?_
  refine wp_ialdk (n := 12) i (ai m ((gB G + 1) + 9) i) dX10_violator_34 (kc hF (isC1 G) 9 (by decide)) (lc (isC1 G) 9 (by decide)) (vin (by omega) (by decide)) (nIc (by omega)) rfl ?_
  exact wp_iret dX10_violator_35 rfl (e1)

theorem iM_violator {G : Cx} {d : Nat} {m : Mm} {Q : Option Value → Mm → Prop} {i n : Nat} (hF : Full G m) (hn : ai m (gB G + 294) 16 = nI (n + 1)) (hm : n + 1 ≤ 12) (hi : i < n + 1)
    (e1 : Q (some (.int (ai m (gB G + 294) (i + 402)))) m) :
    WPM G (d + 3) (0, 0) μX11_violator [.ref (gB G + 293), .int (nI i)] m Q := by
  refine WPM.of pX11 (Nat.le_of_ble_eq_true rfl) rfl ?_
  refine wp_iload_n dX11_violator_0 rfl ?_
  refine wp_iconst (0 : Int32) dX11_violator_1 (by decide) ?_
  refine wp_aload_n dX11_violator_2 rfl ?_
  refine wp_getr (gB G + 294) dX11_violator_3 fX11_7 (ka hF 293 (by decide)) (hF.2 _ _) (rra 1 (isK_le (ka hF 293 (by decide))) (fun _ => rfl)) ?_
  refine wp_bipush (16 : Int32) dX11_violator_6 (by decide) ?_
  refine wp_ialdk (n := 1486) 16 (nI (n + 1)) dX11_violator_8 (ka hF 294 (by decide)) (la 294) (vinl (by decide)) rfl hn ?_
  refine wp_iconst (1 : Int32) dX11_violator_9 (by decide) ?_
  refine wp_isubv (nI n) dX11_violator_10 (nsub (a := n + 1) (b := 1) (by omega)) ?_
  refine wp_callS (As := [.int (nI i), .int (0 : Int32), .int (nI n)]) (S := []) (b' := (0, 0)) (b := (0, 0)) dX11_violator_11 MX11_67 rfl rfl (Nat.le_of_ble_eq_true rfl) ?_
  refine WPM.of pX11 (Nat.le_of_ble_eq_true rfl) rfl ?_
  refine wp_iload_n dX11_isBetween_0 rfl ?_
  refine wp_iload_n dX11_isBetween_1 rfl ?_
  refine wp_icmp_lt 14 dX11_isBetween_2 (by decide) (fun q => absurd q (nI_pos (by omega))) (fun _ => ?_)
  refine wp_iload_n dX11_isBetween_5 rfl ?_
  refine wp_iload_n dX11_isBetween_6 rfl ?_
  refine wp_icmp_gt 14 dX11_isBetween_7 (by decide) (fun q => absurd q (fun z => (show ¬ n < i by omega) (nlt (a := n) (b := i) z (by omega) (by omega)))) (fun _ => ?_)
  refine wp_iconst (1 : Int32) dX11_isBetween_10 (by decide) ?_
  refine wp_goto 15 dX11_isBetween_11 (by decide) ?_
  refine wp_zret dX11_isBetween_15 rfl rfl ?_
  show WP G (d + 3) (0, 0) μX11_violator 14 [.ref (gB G + 293), .int (nI i)] [.int (1 : Int32)] m _
  refine wp_if_eq 30 dX11_violator_14 (by decide) (fun q => absurd q (by decide)) (fun _ => ?_)
  refine wp_aload_n dX11_violator_17 rfl ?_
  refine wp_getr (gB G + 294) dX11_violator_18 fX11_7 (ka hF 293 (by decide)) (hF.2 _ _) (rra 1 (isK_le (ka hF 293 (by decide))) (fun _ => rfl)) ?_
  refine wp_sipush (402 : Int32) dX11_violator_21 (by decide) ?_
  refine wp_iload_n dX11_violator_24 rfl ?_
  refine wp_iaddv (nI (i + 402)) dX11_violator_25 (nadd (a := 402) (b := i) (by omega)) ?_
  refine wp_ialdk (n := 1486) (i + 402) (ai m (gB G + 294) (i + 402)) dX11_violator_26 (ka hF 294 (by decide)) (la 294) (vin (by omega) (by decide)) (nIc (by omega)) rfl ?_
  refine wp_goto 32 dX11_violator_27 (by decide) ?_
  exact wp_iret dX11_violator_32 rfl (e1)

theorem aC_violator {G : Cx} {d : Nat} {m : Mm} {Q : Option Value → Mm → Prop} {x : Int32} (hF : Full G m) (hx : x < 0)
    (e1 : Q (some (.int (-1000000002 : Int32))) m) :
    WPM G (d + 3) (0, 0) μX10_violator [.ref (gB G), .int x] m Q := by
  refine WPM.of pX10 (Nat.le_of_ble_eq_true rfl) rfl ?_
  refine wp_iload_n dX10_violator_0 rfl ?_
  refine wp_iconst (0 : Int32) dX10_violator_1 (by decide) ?_
  refine wp_aload_n dX10_violator_2 rfl ?_
  refine wp_getr (gB G + 1) dX10_violator_3 fX10_10 (ka0 hF) (hF.2 _ _) (rra 1 (isK_le (ka0 hF)) (fun _ => rfl)) ?_
  refine wp_getr ((gB G + 1) + 8) dX10_violator_6 fX10_213 (kc0 hF (isC1 G)) (hF.2 _ _) (rra 8 (isK_le (kc0 hF (isC1 G))) (fun _ => rfl)) ?_
  refine wp_geti (fi m 601 ((gB G + 1) + 8)) dX10_violator_9 fX10_217 (Or.inl rfl) (kc hF (isC1 G) 8 (by decide)) rfl ?_
  refine wp_iconst (1 : Int32) dX10_violator_12 (by decide) ?_
  refine wp_isubv ((fi m 601 ((gB G + 1) + 8)) - (1 : Int32)) dX10_violator_13 rfl ?_
  refine wp_callS (As := [.int x, .int (0 : Int32), .int ((fi m 601 ((gB G + 1) + 8)) - (1 : Int32))]) (S := []) (b' := (0, 0)) (b := (0, 0)) dX10_violator_14 MX10_35 rfl rfl (Nat.le_of_ble_eq_true rfl) ?_
  refine WPM.of pX10 (Nat.le_of_ble_eq_true rfl) rfl ?_
  refine wp_iload_n dX10_within_0 rfl ?_
  refine wp_iload_n dX10_within_1 rfl ?_
  refine wp_icmp_lt 14 dX10_within_2 (by decide) (fun _ => ?_) (fun q => absurd hx q)
  refine wp_iconst (0 : Int32) dX10_within_14 (by decide) ?_
  refine wp_zret dX10_within_15 rfl rfl ?_
  show WP G (d + 3) (0, 0) μX10_violator 17 [.ref (gB G), .int x] [.int (0 : Int32)] m _
  refine wp_if_ne 23 dX10_violator_17 (by decide) (fun q => absurd (by decide) q) (fun _ => ?_)
  refine wp_ldc dX10_violator_20 kX10_42 ?_
  exact wp_iret dX10_violator_22 rfl (e1)

theorem aM_violator {G : Cx} {d : Nat} {m : Mm} {Q : Option Value → Mm → Prop} {x : Int32} (hF : Full G m) (hx : x < 0)
    (e1 : Q (some (.int (-1000000002 : Int32))) m) :
    WPM G (d + 3) (0, 0) μX11_violator [.ref (gB G + 293), .int x] m Q := by
  refine WPM.of pX11 (Nat.le_of_ble_eq_true rfl) rfl ?_
  refine wp_iload_n dX11_violator_0 rfl ?_
  refine wp_iconst (0 : Int32) dX11_violator_1 (by decide) ?_
  refine wp_aload_n dX11_violator_2 rfl ?_
  refine wp_getr (gB G + 294) dX11_violator_3 fX11_7 (ka hF 293 (by decide)) (hF.2 _ _) (rra 1 (isK_le (ka hF 293 (by decide))) (fun _ => rfl)) ?_
  refine wp_bipush (16 : Int32) dX11_violator_6 (by decide) ?_
  refine wp_ialdk (n := 1486) 16 (ai m (gB G + 294) 16) dX11_violator_8 (ka hF 294 (by decide)) (la 294) (vinl (by decide)) rfl rfl ?_
  refine wp_iconst (1 : Int32) dX11_violator_9 (by decide) ?_
  refine wp_isubv ((ai m (gB G + 294) 16) - (1 : Int32)) dX11_violator_10 rfl ?_
  refine wp_callS (As := [.int x, .int (0 : Int32), .int ((ai m (gB G + 294) 16) - (1 : Int32))]) (S := []) (b' := (0, 0)) (b := (0, 0)) dX11_violator_11 MX11_67 rfl rfl (Nat.le_of_ble_eq_true rfl) ?_
  refine WPM.of pX11 (Nat.le_of_ble_eq_true rfl) rfl ?_
  refine wp_iload_n dX11_isBetween_0 rfl ?_
  refine wp_iload_n dX11_isBetween_1 rfl ?_
  refine wp_icmp_lt 14 dX11_isBetween_2 (by decide) (fun _ => ?_) (fun q => absurd hx q)
  refine wp_iconst (0 : Int32) dX11_isBetween_14 (by decide) ?_
  refine wp_zret dX11_isBetween_15 rfl rfl ?_
  show WP G (d + 3) (0, 0) μX11_violator 14 [.ref (gB G + 293), .int x] [.int (0 : Int32)] m _
  refine wp_if_eq 30 dX11_violator_14 (by decide) (fun _ => ?_) (fun q => absurd (by decide) q)
  refine wp_ldc dX11_violator_30 kX11_79 ?_
  exact wp_iret dX11_violator_32 rfl (e1)

theorem bC_violator {G : Cx} {d : Nat} {m : Mm} {Q : Option Value → Mm → Prop} {x : Int32} {n : Nat} (hF : Full G m) (hn : fi m 601 (gB G + 1 + 8) = nI n) (hm : n ≤ 12) (hx : ¬ x < 0) (hy : ¬ x < nI n)
    (e1 : Q (some (.int (-1000000002 : Int32))) m) :
    WPM G (d + 3) (0, 0) μX10_violator [.ref (gB G), .int x] m Q := by
  refine WPM.of pX10 (Nat.le_of_ble_eq_true rfl) rfl ?_
  refine wp_iload_n dX10_violator_0 rfl ?_
  refine wp_iconst (0 : Int32) dX10_violator_1 (by decide) ?_
  refine wp_aload_n dX10_violator_2 rfl ?_
  refine wp_getr (gB G + 1) dX10_violator_3 fX10_10 (ka0 hF) (hF.2 _ _) (rra 1 (isK_le (ka0 hF)) (fun _ => rfl)) ?_
  refine wp_getr ((gB G + 1) + 8) dX10_violator_6 fX10_213 (kc0 hF (isC1 G)) (hF.2 _ _) (rra 8 (isK_le (kc0 hF (isC1 G))) (fun _ => rfl)) ?_
  refine wp_geti (nI n) dX10_violator_9 fX10_217 (Or.inl rfl) (kc hF (isC1 G) 8 (by decide)) hn ?_
  refine wp_iconst (1 : Int32) dX10_violator_12 (by decide) ?_
  refine wp_isubv ((nI n) - (1 : Int32)) dX10_violator_13 rfl ?_
  refine wp_callS (As := [.int x, .int (0 : Int32), .int ((nI n) - (1 : Int32))]) (S := []) (b' := (0, 0)) (b := (0, 0)) dX10_violator_14 MX10_35 rfl rfl (Nat.le_of_ble_eq_true rfl) ?_
  refine WPM.of pX10 (Nat.le_of_ble_eq_true rfl) rfl ?_
  refine wp_iload_n dX10_within_0 rfl ?_
  refine wp_iload_n dX10_within_1 rfl ?_
  refine wp_icmp_lt 14 dX10_within_2 (by decide) (fun q => absurd q hx) (fun _ => ?_)
  refine wp_iload_n dX10_within_5 rfl ?_
  refine wp_iload_n dX10_within_6 rfl ?_
  refine wp_icmp_gt 14 dX10_within_7 (by decide) (fun _ => ?_) (fun q => absurd (sub_lt (by omega) hx hy) q)
  refine wp_iconst (0 : Int32) dX10_within_14 (by decide) ?_
  refine wp_zret dX10_within_15 rfl rfl ?_
  show WP G (d + 3) (0, 0) μX10_violator 17 [.ref (gB G), .int x] [.int (0 : Int32)] m _
  refine wp_if_ne 23 dX10_violator_17 (by decide) (fun q => absurd (by decide) q) (fun _ => ?_)
  refine wp_ldc dX10_violator_20 kX10_42 ?_
  exact wp_iret dX10_violator_22 rfl (e1)

theorem bM_violator {G : Cx} {d : Nat} {m : Mm} {Q : Option Value → Mm → Prop} {x : Int32} {n : Nat} (hF : Full G m) (hn : ai m (gB G + 294) 16 = nI n) (hm : n ≤ 12) (hx : ¬ x < 0) (hy : ¬ x < nI n)
    (e1 : Q (some (.int (-1000000002 : Int32))) m) :
    WPM G (d + 3) (0, 0) μX11_violator [.ref (gB G + 293), .int x] m Q := by
  refine WPM.of pX11 (Nat.le_of_ble_eq_true rfl) rfl ?_
  refine wp_iload_n dX11_violator_0 rfl ?_
  refine wp_iconst (0 : Int32) dX11_violator_1 (by decide) ?_
  refine wp_aload_n dX11_violator_2 rfl ?_
  refine wp_getr (gB G + 294) dX11_violator_3 fX11_7 (ka hF 293 (by decide)) (hF.2 _ _) (rra 1 (isK_le (ka hF 293 (by decide))) (fun _ => rfl)) ?_
  refine wp_bipush (16 : Int32) dX11_violator_6 (by decide) ?_
  refine wp_ialdk (n := 1486) 16 (nI n) dX11_violator_8 (ka hF 294 (by decide)) (la 294) (vinl (by decide)) rfl hn ?_
  refine wp_iconst (1 : Int32) dX11_violator_9 (by decide) ?_
  refine wp_isubv ((nI n) - (1 : Int32)) dX11_violator_10 rfl ?_
  refine wp_callS (As := [.int x, .int (0 : Int32), .int ((nI n) - (1 : Int32))]) (S := []) (b' := (0, 0)) (b := (0, 0)) dX11_violator_11 MX11_67 rfl rfl (Nat.le_of_ble_eq_true rfl) ?_
  refine WPM.of pX11 (Nat.le_of_ble_eq_true rfl) rfl ?_
  refine wp_iload_n dX11_isBetween_0 rfl ?_
  refine wp_iload_n dX11_isBetween_1 rfl ?_
  refine wp_icmp_lt 14 dX11_isBetween_2 (by decide) (fun q => absurd q hx) (fun _ => ?_)
  refine wp_iload_n dX11_isBetween_5 rfl ?_
  refine wp_iload_n dX11_isBetween_6 rfl ?_
  refine wp_icmp_gt 14 dX11_isBetween_7 (by decide) (fun _ => ?_) (fun q => absurd (sub_lt (by omega) hx hy) q)
  refine wp_iconst (0 : Int32) dX11_isBetween_14 (by decide) ?_
  refine wp_zret dX11_isBetween_15 rfl rfl ?_
  show WP G (d + 3) (0, 0) μX11_violator 14 [.ref (gB G + 293), .int x] [.int (0 : Int32)] m _
  refine wp_if_eq 30 dX11_violator_14 (by decide) (fun _ => ?_) (fun q => absurd (by decide) q)
  refine wp_ldc dX11_violator_30 kX11_79 ?_
  exact wp_iret dX11_violator_32 rfl (e1)

theorem iC_absorbedHeat {G : Cx} {d : Nat} {m : Mm} {Q : Option Value → Mm → Prop} {i n : Nat}  (hF : Full G m) (hn : fi m 5 (gB G + 1) = nI (n + 1)) (hm : n + 1 ≤ 12) (hi : i < n + 1) 
    (e1 : WPM G (d + 5) (0, 0) μX0_balanceHeat [.ref (gB G + 1)] m (fun r' m' => WP G (d + 6) (0, 0) μX10_absorbedHeat 22 [.ref (gB G), .int (nI i)] (r'.toList ++ []) m' Q)) :
    WPM G (d + 6) (0, 0) μX10_absorbedHeat [.ref (gB G), .int (nI i)] m Q := by
  refine WPM.of pX10 (Nat.le_of_ble_eq_true rfl) rfl ?_
  refine wp_aload_n dX10_absorbedHeat_0 rfl ?_
  refine wp_getr (gB G + 1) dX10_absorbedHeat_1 fX10_10 (ka0 hF) (hF.2 _ _) (rra 1 (isK_le (ka0 hF)) (fun _ => rfl)) ?_
  refine wp_iload_n dX10_absorbedHeat_4 rfl ?_
  refine wp_callV (As := [.int (nI i)]) (S := []) (b' := (0, 0)) (b := (0, 0)) dX10_absorbedHeat_5 MX10_58 (kc0 hF (isC1 G)) rfl rfl rfl rfl (Nat.le_of_ble_eq_true rfl) ?_
  refine WPM.of pX0 (Nat.le_of_ble_eq_true rfl) rfl ?_
  refine wp_iload_n dX0_hasNode_0 rfl ?_
  refine wp_if_lt 16 dX0_hasNode_1 (by decide) (fun q => absurd q (nI_pos (by omega))) (fun _ => ?_)
  refine wp_iload_n dX0_hasNode_4 rfl ?_
  refine wp_aload_n dX0_hasNode_5 rfl ?_
  refine wp_geti (nI (n + 1)) dX0_hasNode_6 fX0_75 (Or.inl rfl) (kc0 hF (isC1 G)) hn ?_
  refine wp_icmp_ge 16 dX0_hasNode_9 (by decide) (fun q => absurd (nlt_ (a := i) (b := n + 1) hi (by omega)) q) (fun _ => ?_)
  refine wp_iconst (1 : Int32) dX0_hasNode_12 (by decide) ?_
  refine wp_goto 17 dX0_hasNode_13 (by decide) ?_
  refine wp_zret dX0_hasNode_17 rfl rfl ?_
  show WP G (d + 6) (0, 0) μX10_absorbedHeat 8 [.ref (gB G), .int (nI i)] [.int (1 : Int32)] m _
  refine wp_if_ne 15 dX10_absorbedHeat_8 (by decide) (fun _ => ?_) (fun q => absurd q (by decide))
  refine wp_aload_n dX10_absorbedHeat_15 rfl ?_
  refine wp_getr (gB G + 1) dX10_absorbedHeat_16 fX10_10 (ka0 hF) (hF.2 _ _) (rra 1 (isK_le (ka0 hF)) (fun _ => rfl)) ?_
  refine wp_callV (As := []) (S := []) (b' := (0, 0)) (b := (0, 0)) dX10_absorbedHeat_19 MX10_191 (kc0 hF (isC1 G)) rfl rfl rfl rfl (Nat.le_of_ble_eq_true rfl) ?_
  exact e1

theorem jC_absorbedHeat {G : Cx} {d : Nat} {m : Mm} {Q : Option Value → Mm → Prop} {i : Nat} (hF : Full G m) (hi : i < 12)
    (e1 : Q (some (.long (fl m 412 (nd (gB G + 1) i)))) m) :
    WP G (d + 6) (0, 0) μX10_absorbedHeat 22 [.ref (gB G), .int (nI i)] [] m Q := by
  refine wp_aload_n dX10_absorbedHeat_22 rfl ?_
  refine wp_getr (gB G + 1) dX10_absorbedHeat_23 fX10_10 (ka0 hF) (hF.2 _ _) (rra 1 (isK_le (ka0 hF)) (fun _ => rfl)) ?_
  refine wp_getr ((gB G + 1) + 1) dX10_absorbedHeat_26 fX10_48 (kc0 hF (isC1 G)) (hF.2 _ _) (rra 1 (isK_le (kc0 hF (isC1 G))) (fun _ => rfl)) ?_
  refine wp_iload_n dX10_absorbedHeat_29 rfl ?_
  refine wp_raldk (n := 12) i (nd (gB G + 1) i) dX10_absorbedHeat_30 (kc hF (isC1 G) 1 (by decide)) (by decide) (by decide) (lc (isC1 G) 1 (by decide)) (vin (by omega) (by decide)) (nIc (by omega)) (hF.2 _ _) (rnd hF (isC1 G)) ?_
  refine wp_getl (fl m 412 (nd (gB G + 1) i)) dX10_absorbedHeat_31 fX10_194 (knd hF (isC1 G) (by omega)) rfl ?_
  exact wp_lret dX10_absorbedHeat_34 rfl (e1)

theorem iM_absorbedHeat {G : Cx} {d : Nat} {m : Mm} {Q : Option Value → Mm → Prop} {i n : Nat}  (hF : Full G m) (hn : ai m (gB G + 294) 12 = nI (n + 1)) (hm : n + 1 ≤ 12) (hi : i < n + 1) 
    (e1 : WPM G (d + 5) (0, 0) μX11_absorbedBy [.ref (gB G + 293), .int (nI i)] m (fun r' m' => WP G (d + 6) (0, 0) μX11_absorbedHeat 13 [lvU, lvU] (r'.toList ++ []) m' Q)) :
    WPM G (d + 6) (0, 0) μX11_absorbedHeat [.ref (gB G + 293), .int (nI i)] m Q := by
  refine WPM.of pX11 (Nat.le_of_ble_eq_true rfl) rfl ?_
  refine wp_aload_n dX11_absorbedHeat_0 rfl ?_
  refine wp_iload_n dX11_absorbedHeat_1 rfl ?_
  refine wp_callV (As := [.int (nI i)]) (S := []) (b' := (0, 0)) (b := (0, 0)) dX11_absorbedHeat_2 MX11_93 (ka hF 293 (by decide)) rfl rfl rfl rfl (Nat.le_of_ble_eq_true rfl) ?_
  refine WPM.of pX11 (Nat.le_of_ble_eq_true rfl) rfl ?_
  refine wp_iload_n dX11_isNode_0 rfl ?_
  refine wp_iconst (0 : Int32) dX11_isNode_1 (by decide) ?_
  refine wp_aload_n dX11_isNode_2 rfl ?_
  refine wp_getr (gB G + 294) dX11_isNode_3 fX11_7 (ka hF 293 (by decide)) (hF.2 _ _) (rra 1 (isK_le (ka hF 293 (by decide))) (fun _ => rfl)) ?_
  refine wp_bipush (12 : Int32) dX11_isNode_6 (by decide) ?_
  refine wp_ialdk (n := 1486) 12 (nI (n + 1)) dX11_isNode_8 (ka hF 294 (by decide)) (la 294) (vinl (by decide)) rfl hn ?_
  refine wp_iconst (1 : Int32) dX11_isNode_9 (by decide) ?_
  refine wp_isubv (nI n) dX11_isNode_10 (nsub (a := n + 1) (b := 1) (by omega)) ?_
  refine wp_callS (As := [.int (nI i), .int (0 : Int32), .int (nI n)]) (S := []) (b' := (0, 0)) (b := (0, 0)) dX11_isNode_11 MX11_67 rfl rfl (Nat.le_of_ble_eq_true rfl) ?_
  refine WPM.of pX11 (Nat.le_of_ble_eq_true rfl) rfl ?_
  refine wp_iload_n dX11_isBetween_0 rfl ?_
  refine wp_iload_n dX11_isBetween_1 rfl ?_
  refine wp_icmp_lt 14 dX11_isBetween_2 (by decide) (fun q => absurd q (nI_pos (by omega))) (fun _ => ?_)
  refine wp_iload_n dX11_isBetween_5 rfl ?_
  refine wp_iload_n dX11_isBetween_6 rfl ?_
  refine wp_icmp_gt 14 dX11_isBetween_7 (by decide) (fun q => absurd q (fun z => (show ¬ n < i by omega) (nlt (a := n) (b := i) z (by omega) (by omega)))) (fun _ => ?_)
  refine wp_iconst (1 : Int32) dX11_isBetween_10 (by decide) ?_
  refine wp_goto 15 dX11_isBetween_11 (by decide) ?_
  refine wp_zret dX11_isBetween_15 rfl rfl ?_
  show WP G (d + 5) (0, 0) μX11_isNode 14 [.ref (gB G + 293), .int (nI i)] [.int (1 : Int32)] m _
  refine wp_zret dX11_isNode_14 rfl rfl ?_
  show WP G (d + 6) (0, 0) μX11_absorbedHeat 5 [.ref (gB G + 293), .int (nI i)] [.int (1 : Int32)] m _
  refine wp_if_eq 16 dX11_absorbedHeat_5 (by decide) (fun q => absurd q (by decide)) (fun _ => ?_)
  refine wp_aload_n dX11_absorbedHeat_8 rfl ?_
  refine wp_iload_n dX11_absorbedHeat_9 rfl ?_
  refine wp_forget [lvU, lvU] ⟨Or.inr rfl, Or.inr rfl, trivial⟩ ?_
  refine wp_callV (As := [.int (nI i)]) (S := []) (b' := (0, 0)) (b := (0, 0)) dX11_absorbedHeat_10 MX11_152 (ka hF 293 (by decide)) rfl rfl rfl rfl (Nat.le_of_ble_eq_true rfl) ?_
  exact e1

theorem jM_absorbedHeat {G : Cx} {d : Nat} {m : Mm} {Q : Option Value → Mm → Prop} {r : Int64} (hF : Full G m) 
    (e1 : Q (some (.long r)) m) :
    WP G (d + 6) (0, 0) μX11_absorbedHeat 13 [lvU, lvU] [.long r] m Q := by
  refine wp_goto 19 dX11_absorbedHeat_13 (by decide) ?_
  exact wp_lret dX11_absorbedHeat_19 rfl (e1)

theorem aC_absorbedHeat {G : Cx} {d : Nat} {m : Mm} {Q : Option Value → Mm → Prop} {x : Int32} {n : Nat}  (hF : Full G m) (hn : fi m 5 (gB G + 1) = nI n) (hm : n ≤ 12) (hx : x < 0) 
    (e1 : Q (some (.long (-1000000001 : Int64))) m) :
    WPM G (d + 6) (0, 0) μX10_absorbedHeat [.ref (gB G), .int x] m Q := by
  refine WPM.of pX10 (Nat.le_of_ble_eq_true rfl) rfl ?_
  refine wp_aload_n dX10_absorbedHeat_0 rfl ?_
  refine wp_getr (gB G + 1) dX10_absorbedHeat_1 fX10_10 (ka0 hF) (hF.2 _ _) (rra 1 (isK_le (ka0 hF)) (fun _ => rfl)) ?_
  refine wp_iload_n dX10_absorbedHeat_4 rfl ?_
  refine wp_callV (As := [.int x]) (S := []) (b' := (0, 0)) (b := (0, 0)) dX10_absorbedHeat_5 MX10_58 (kc0 hF (isC1 G)) rfl rfl rfl rfl (Nat.le_of_ble_eq_true rfl) ?_
  refine WPM.of pX0 (Nat.le_of_ble_eq_true rfl) rfl ?_
  refine wp_iload_n dX0_hasNode_0 rfl ?_
  refine wp_if_lt 16 dX0_hasNode_1 (by decide) (fun _ => ?_) (fun q => absurd hx q)
  refine wp_iconst (0 : Int32) dX0_hasNode_16 (by decide) ?_
  refine wp_zret dX0_hasNode_17 rfl rfl ?_
  show WP G (d + 6) (0, 0) μX10_absorbedHeat 8 [.ref (gB G), .int x] [.int (0 : Int32)] m _
  refine wp_if_ne 15 dX10_absorbedHeat_8 (by decide) (fun q => absurd (by decide) q) (fun _ => ?_)
  refine wp_ldc2 dX10_absorbedHeat_11 kX10_189 ?_
  exact wp_lret dX10_absorbedHeat_14 rfl (e1)

theorem aM_absorbedHeat {G : Cx} {d : Nat} {m : Mm} {Q : Option Value → Mm → Prop} {x : Int32} {n : Nat}  (hF : Full G m) (hn : ai m (gB G + 294) 12 = nI n) (hm : n ≤ 12) (hx : x < 0) 
    (e1 : Q (some (.long (-1000000001 : Int64))) m) :
    WPM G (d + 6) (0, 0) μX11_absorbedHeat [.ref (gB G + 293), .int x] m Q := by
  refine WPM.of pX11 (Nat.le_of_ble_eq_true rfl) rfl ?_
  refine wp_aload_n dX11_absorbedHeat_0 rfl ?_
  refine wp_iload_n dX11_absorbedHeat_1 rfl ?_
  refine wp_callV (As := [.int x]) (S := []) (b' := (0, 0)) (b := (0, 0)) dX11_absorbedHeat_2 MX11_93 (ka hF 293 (by decide)) rfl rfl rfl rfl (Nat.le_of_ble_eq_true rfl) ?_
  refine WPM.of pX11 (Nat.le_of_ble_eq_true rfl) rfl ?_
  refine wp_iload_n dX11_isNode_0 rfl ?_
  refine wp_iconst (0 : Int32) dX11_isNode_1 (by decide) ?_
  refine wp_aload_n dX11_isNode_2 rfl ?_
  refine wp_getr (gB G + 294) dX11_isNode_3 fX11_7 (ka hF 293 (by decide)) (hF.2 _ _) (rra 1 (isK_le (ka hF 293 (by decide))) (fun _ => rfl)) ?_
  refine wp_bipush (12 : Int32) dX11_isNode_6 (by decide) ?_
  refine wp_ialdk (n := 1486) 12 (nI n) dX11_isNode_8 (ka hF 294 (by decide)) (la 294) (vinl (by decide)) rfl hn ?_
  refine wp_iconst (1 : Int32) dX11_isNode_9 (by decide) ?_
  refine wp_isubv ((nI n) - (1 : Int32)) dX11_isNode_10 rfl ?_
  refine wp_callS (As := [.int x, .int (0 : Int32), .int ((nI n) - (1 : Int32))]) (S := []) (b' := (0, 0)) (b := (0, 0)) dX11_isNode_11 MX11_67 rfl rfl (Nat.le_of_ble_eq_true rfl) ?_
  refine WPM.of pX11 (Nat.le_of_ble_eq_true rfl) rfl ?_
  refine wp_iload_n dX11_isBetween_0 rfl ?_
  refine wp_iload_n dX11_isBetween_1 rfl ?_
  refine wp_icmp_lt 14 dX11_isBetween_2 (by decide) (fun _ => ?_) (fun q => absurd hx q)
  refine wp_iconst (0 : Int32) dX11_isBetween_14 (by decide) ?_
  refine wp_zret dX11_isBetween_15 rfl rfl ?_
  show WP G (d + 5) (0, 0) μX11_isNode 14 [.ref (gB G + 293), .int x] [.int (0 : Int32)] m _
  refine wp_zret dX11_isNode_14 rfl rfl ?_
  show WP G (d + 6) (0, 0) μX11_absorbedHeat 5 [.ref (gB G + 293), .int x] [.int (0 : Int32)] m _
  refine wp_if_eq 16 dX11_absorbedHeat_5 (by decide) (fun _ => ?_) (fun q => absurd (by decide) q)
  refine wp_ldc2 dX11_absorbedHeat_16 kX11_195 ?_
  exact wp_lret dX11_absorbedHeat_19 rfl (e1)

theorem bC_absorbedHeat {G : Cx} {d : Nat} {m : Mm} {Q : Option Value → Mm → Prop} {x : Int32} {n : Nat}  (hF : Full G m) (hn : fi m 5 (gB G + 1) = nI n) (hm : n ≤ 12) (hxa : ¬ x < 0) (hxb : ¬ x < nI n) 
    (e1 : Q (some (.long (-1000000001 : Int64))) m) :
    WPM G (d + 6) (0, 0) μX10_absorbedHeat [.ref (gB G), .int x] m Q := by
  refine WPM.of pX10 (Nat.le_of_ble_eq_true rfl) rfl ?_
  refine wp_aload_n dX10_absorbedHeat_0 rfl ?_
  refine wp_getr (gB G + 1) dX10_absorbedHeat_1 fX10_10 (ka0 hF) (hF.2 _ _) (rra 1 (isK_le (ka0 hF)) (fun _ => rfl)) ?_
  refine wp_iload_n dX10_absorbedHeat_4 rfl ?_
  refine wp_callV (As := [.int x]) (S := []) (b' := (0, 0)) (b := (0, 0)) dX10_absorbedHeat_5 MX10_58 (kc0 hF (isC1 G)) rfl rfl rfl rfl (Nat.le_of_ble_eq_true rfl) ?_
  refine WPM.of pX0 (Nat.le_of_ble_eq_true rfl) rfl ?_
  refine wp_iload_n dX0_hasNode_0 rfl ?_
  refine wp_if_lt 16 dX0_hasNode_1 (by decide) (fun q => absurd q hxa) (fun _ => ?_)
  refine wp_iload_n dX0_hasNode_4 rfl ?_
  refine wp_aload_n dX0_hasNode_5 rfl ?_
  refine wp_geti (nI n) dX0_hasNode_6 fX0_75 (Or.inl rfl) (kc0 hF (isC1 G)) hn ?_
  refine wp_icmp_ge 16 dX0_hasNode_9 (by decide) (fun _ => ?_) (fun q => absurd q hxb)
  refine wp_iconst (0 : Int32) dX0_hasNode_16 (by decide) ?_
  refine wp_zret dX0_hasNode_17 rfl rfl ?_
  show WP G (d + 6) (0, 0) μX10_absorbedHeat 8 [.ref (gB G), .int x] [.int (0 : Int32)] m _
  refine wp_if_ne 15 dX10_absorbedHeat_8 (by decide) (fun q => absurd (by decide) q) (fun _ => ?_)
  refine wp_ldc2 dX10_absorbedHeat_11 kX10_189 ?_
  exact wp_lret dX10_absorbedHeat_14 rfl (e1)

theorem bM_absorbedHeat {G : Cx} {d : Nat} {m : Mm} {Q : Option Value → Mm → Prop} {x : Int32} {n : Nat}  (hF : Full G m) (hn : ai m (gB G + 294) 12 = nI n) (hm : n ≤ 12) (hxa : ¬ x < 0) (hxb : ¬ x < nI n) 
    (e1 : Q (some (.long (-1000000001 : Int64))) m) :
    WPM G (d + 6) (0, 0) μX11_absorbedHeat [.ref (gB G + 293), .int x] m Q := by
  refine WPM.of pX11 (Nat.le_of_ble_eq_true rfl) rfl ?_
  refine wp_aload_n dX11_absorbedHeat_0 rfl ?_
  refine wp_iload_n dX11_absorbedHeat_1 rfl ?_
  refine wp_callV (As := [.int x]) (S := []) (b' := (0, 0)) (b := (0, 0)) dX11_absorbedHeat_2 MX11_93 (ka hF 293 (by decide)) rfl rfl rfl rfl (Nat.le_of_ble_eq_true rfl) ?_
  refine WPM.of pX11 (Nat.le_of_ble_eq_true rfl) rfl ?_
  refine wp_iload_n dX11_isNode_0 rfl ?_
  refine wp_iconst (0 : Int32) dX11_isNode_1 (by decide) ?_
  refine wp_aload_n dX11_isNode_2 rfl ?_
  refine wp_getr (gB G + 294) dX11_isNode_3 fX11_7 (ka hF 293 (by decide)) (hF.2 _ _) (rra 1 (isK_le (ka hF 293 (by decide))) (fun _ => rfl)) ?_
  refine wp_bipush (12 : Int32) dX11_isNode_6 (by decide) ?_
  refine wp_ialdk (n := 1486) 12 (nI n) dX11_isNode_8 (ka hF 294 (by decide)) (la 294) (vinl (by decide)) rfl hn ?_
  refine wp_iconst (1 : Int32) dX11_isNode_9 (by decide) ?_
  refine wp_isubv ((nI n) - (1 : Int32)) dX11_isNode_10 rfl ?_
  refine wp_callS (As := [.int x, .int (0 : Int32), .int ((nI n) - (1 : Int32))]) (S := []) (b' := (0, 0)) (b := (0, 0)) dX11_isNode_11 MX11_67 rfl rfl (Nat.le_of_ble_eq_true rfl) ?_
  refine WPM.of pX11 (Nat.le_of_ble_eq_true rfl) rfl ?_
  refine wp_iload_n dX11_isBetween_0 rfl ?_
  refine wp_iload_n dX11_isBetween_1 rfl ?_
  refine wp_icmp_lt 14 dX11_isBetween_2 (by decide) (fun q => absurd q hxa) (fun _ => ?_)
  refine wp_iload_n dX11_isBetween_5 rfl ?_
  refine wp_iload_n dX11_isBetween_6 rfl ?_
  refine wp_icmp_gt 14 dX11_isBetween_7 (by decide) (fun _ => ?_) (fun q => absurd (sub_lt (by omega) hxa hxb) q)
  refine wp_iconst (0 : Int32) dX11_isBetween_14 (by decide) ?_
  refine wp_zret dX11_isBetween_15 rfl rfl ?_
  show WP G (d + 5) (0, 0) μX11_isNode 14 [.ref (gB G + 293), .int x] [.int (0 : Int32)] m _
  refine wp_zret dX11_isNode_14 rfl rfl ?_
  show WP G (d + 6) (0, 0) μX11_absorbedHeat 5 [.ref (gB G + 293), .int x] [.int (0 : Int32)] m _
  refine wp_if_eq 16 dX11_absorbedHeat_5 (by decide) (fun _ => ?_) (fun q => absurd (by decide) q)
  refine wp_ldc2 dX11_absorbedHeat_16 kX11_195 ?_
  exact wp_lret dX11_absorbedHeat_19 rfl (e1)

theorem iC_emittedHeat {G : Cx} {d : Nat} {m : Mm} {Q : Option Value → Mm → Prop} {i n : Nat}  (hF : Full G m) (hn : fi m 5 (gB G + 1) = nI (n + 1)) (hm : n + 1 ≤ 12) (hi : i < n + 1) 
    (e1 : WPM G (d + 5) (0, 0) μX0_balanceHeat [.ref (gB G + 1)] m (fun r' m' => WP G (d + 6) (0, 0) μX10_emittedHeat 22 [.ref (gB G), .int (nI i)] (r'.toList ++ []) m' Q)) :
    WPM G (d + 6) (0, 0) μX10_emittedHeat [.ref (gB G), .int (nI i)] m Q := by
  refine WPM.of pX10 (Nat.le_of_ble_eq_true rfl) rfl ?_
  refine wp_aload_n dX10_emittedHeat_0 rfl ?_
  refine wp_getr (gB G + 1) dX10_emittedHeat_1 fX10_10 (ka0 hF) (hF.2 _ _) (rra 1 (isK_le (ka0 hF)) (fun _ => rfl)) ?_
  refine wp_iload_n dX10_emittedHeat_4 rfl ?_
  refine wp_callV (As := [.int (nI i)]) (S := []) (b' := (0, 0)) (b := (0, 0)) dX10_emittedHeat_5 MX10_58 (kc0 hF (isC1 G)) rfl rfl rfl rfl (Nat.le_of_ble_eq_true rfl) ?_
  refine WPM.of pX0 (Nat.le_of_ble_eq_true rfl) rfl ?_
  refine wp_iload_n dX0_hasNode_0 rfl ?_
  refine wp_if_lt 16 dX0_hasNode_1 (by decide) (fun q => absurd q (nI_pos (by omega))) (fun _ => ?_)
  refine wp_iload_n dX0_hasNode_4 rfl ?_
  refine wp_aload_n dX0_hasNode_5 rfl ?_
  refine wp_geti (nI (n + 1)) dX0_hasNode_6 fX0_75 (Or.inl rfl) (kc0 hF (isC1 G)) hn ?_
  refine wp_icmp_ge 16 dX0_hasNode_9 (by decide) (fun q => absurd (nlt_ (a := i) (b := n + 1) hi (by omega)) q) (fun _ => ?_)
  refine wp_iconst (1 : Int32) dX0_hasNode_12 (by decide) ?_
  refine wp_goto 17 dX0_hasNode_13 (by decide) ?_
  refine wp_zret dX0_hasNode_17 rfl rfl ?_
  show WP G (d + 6) (0, 0) μX10_emittedHeat 8 [.ref (gB G), .int (nI i)] [.int (1 : Int32)] m _
  refine wp_if_ne 15 dX10_emittedHeat_8 (by decide) (fun _ => ?_) (fun q => absurd q (by decide))
  refine wp_aload_n dX10_emittedHeat_15 rfl ?_
  refine wp_getr (gB G + 1) dX10_emittedHeat_16 fX10_10 (ka0 hF) (hF.2 _ _) (rra 1 (isK_le (ka0 hF)) (fun _ => rfl)) ?_
  refine wp_callV (As := []) (S := []) (b' := (0, 0)) (b := (0, 0)) dX10_emittedHeat_19 MX10_191 (kc0 hF (isC1 G)) rfl rfl rfl rfl (Nat.le_of_ble_eq_true rfl) ?_
  exact e1

theorem jC_emittedHeat {G : Cx} {d : Nat} {m : Mm} {Q : Option Value → Mm → Prop} {i : Nat} (hF : Full G m) (hi : i < 12)
    (e1 : Q (some (.long (fl m 413 (nd (gB G + 1) i)))) m) :
    WP G (d + 6) (0, 0) μX10_emittedHeat 22 [.ref (gB G), .int (nI i)] [] m Q := by
  refine wp_aload_n dX10_emittedHeat_22 rfl ?_
  refine wp_getr (gB G + 1) dX10_emittedHeat_23 fX10_10 (ka0 hF) (hF.2 _ _) (rra 1 (isK_le (ka0 hF)) (fun _ => rfl)) ?_
  refine wp_getr ((gB G + 1) + 1) dX10_emittedHeat_26 fX10_48 (kc0 hF (isC1 G)) (hF.2 _ _) (rra 1 (isK_le (kc0 hF (isC1 G))) (fun _ => rfl)) ?_
  refine wp_iload_n dX10_emittedHeat_29 rfl ?_
  refine wp_raldk (n := 12) i (nd (gB G + 1) i) dX10_emittedHeat_30 (kc hF (isC1 G) 1 (by decide)) (by decide) (by decide) (lc (isC1 G) 1 (by decide)) (vin (by omega) (by decide)) (nIc (by omega)) (hF.2 _ _) (rnd hF (isC1 G)) ?_
  refine wp_getl (fl m 413 (nd (gB G + 1) i)) dX10_emittedHeat_31 fX10_198 (knd hF (isC1 G) (by omega)) rfl ?_
  exact wp_lret dX10_emittedHeat_34 rfl (e1)

theorem iM_emittedHeat {G : Cx} {d : Nat} {m : Mm} {Q : Option Value → Mm → Prop} {i n : Nat}  (hF : Full G m) (hn : ai m (gB G + 294) 12 = nI (n + 1)) (hm : n + 1 ≤ 12) (hi : i < n + 1) 
    (e1 : WPM G (d + 5) (0, 0) μX11_emittedBy [.ref (gB G + 293), .int (nI i)] m (fun r' m' => WP G (d + 6) (0, 0) μX11_emittedHeat 13 [lvU, lvU] (r'.toList ++ []) m' Q)) :
    WPM G (d + 6) (0, 0) μX11_emittedHeat [.ref (gB G + 293), .int (nI i)] m Q := by
  refine WPM.of pX11 (Nat.le_of_ble_eq_true rfl) rfl ?_
  refine wp_aload_n dX11_emittedHeat_0 rfl ?_
  refine wp_iload_n dX11_emittedHeat_1 rfl ?_
  refine wp_callV (As := [.int (nI i)]) (S := []) (b' := (0, 0)) (b := (0, 0)) dX11_emittedHeat_2 MX11_93 (ka hF 293 (by decide)) rfl rfl rfl rfl (Nat.le_of_ble_eq_true rfl) ?_
  refine WPM.of pX11 (Nat.le_of_ble_eq_true rfl) rfl ?_
  refine wp_iload_n dX11_isNode_0 rfl ?_
  refine wp_iconst (0 : Int32) dX11_isNode_1 (by decide) ?_
  refine wp_aload_n dX11_isNode_2 rfl ?_
  refine wp_getr (gB G + 294) dX11_isNode_3 fX11_7 (ka hF 293 (by decide)) (hF.2 _ _) (rra 1 (isK_le (ka hF 293 (by decide))) (fun _ => rfl)) ?_
  refine wp_bipush (12 : Int32) dX11_isNode_6 (by decide) ?_
  refine wp_ialdk (n := 1486) 12 (nI (n + 1)) dX11_isNode_8 (ka hF 294 (by decide)) (la 294) (vinl (by decide)) rfl hn ?_
  refine wp_iconst (1 : Int32) dX11_isNode_9 (by decide) ?_
  refine wp_isubv (nI n) dX11_isNode_10 (nsub (a := n + 1) (b := 1) (by omega)) ?_
  refine wp_callS (As := [.int (nI i), .int (0 : Int32), .int (nI n)]) (S := []) (b' := (0, 0)) (b := (0, 0)) dX11_isNode_11 MX11_67 rfl rfl (Nat.le_of_ble_eq_true rfl) ?_
  refine WPM.of pX11 (Nat.le_of_ble_eq_true rfl) rfl ?_
  refine wp_iload_n dX11_isBetween_0 rfl ?_
  refine wp_iload_n dX11_isBetween_1 rfl ?_
  refine wp_icmp_lt 14 dX11_isBetween_2 (by decide) (fun q => absurd q (nI_pos (by omega))) (fun _ => ?_)
  refine wp_iload_n dX11_isBetween_5 rfl ?_
  refine wp_iload_n dX11_isBetween_6 rfl ?_
  refine wp_icmp_gt 14 dX11_isBetween_7 (by decide) (fun q => absurd q (fun z => (show ¬ n < i by omega) (nlt (a := n) (b := i) z (by omega) (by omega)))) (fun _ => ?_)
  refine wp_iconst (1 : Int32) dX11_isBetween_10 (by decide) ?_
  refine wp_goto 15 dX11_isBetween_11 (by decide) ?_
  refine wp_zret dX11_isBetween_15 rfl rfl ?_
  show WP G (d + 5) (0, 0) μX11_isNode 14 [.ref (gB G + 293), .int (nI i)] [.int (1 : Int32)] m _
  refine wp_zret dX11_isNode_14 rfl rfl ?_
  show WP G (d + 6) (0, 0) μX11_emittedHeat 5 [.ref (gB G + 293), .int (nI i)] [.int (1 : Int32)] m _
  refine wp_if_eq 16 dX11_emittedHeat_5 (by decide) (fun q => absurd q (by decide)) (fun _ => ?_)
  refine wp_aload_n dX11_emittedHeat_8 rfl ?_
  refine wp_iload_n dX11_emittedHeat_9 rfl ?_
  refine wp_forget [lvU, lvU] ⟨Or.inr rfl, Or.inr rfl, trivial⟩ ?_
  refine wp_callV (As := [.int (nI i)]) (S := []) (b' := (0, 0)) (b := (0, 0)) dX11_emittedHeat_10 MX11_149 (ka hF 293 (by decide)) rfl rfl rfl rfl (Nat.le_of_ble_eq_true rfl) ?_
  exact e1

theorem jM_emittedHeat {G : Cx} {d : Nat} {m : Mm} {Q : Option Value → Mm → Prop} {r : Int64} (hF : Full G m) 
    (e1 : Q (some (.long r)) m) :
    WP G (d + 6) (0, 0) μX11_emittedHeat 13 [lvU, lvU] [.long r] m Q := by
  refine wp_goto 19 dX11_emittedHeat_13 (by decide) ?_
  exact wp_lret dX11_emittedHeat_19 rfl (e1)

theorem aC_emittedHeat {G : Cx} {d : Nat} {m : Mm} {Q : Option Value → Mm → Prop} {x : Int32} {n : Nat}  (hF : Full G m) (hn : fi m 5 (gB G + 1) = nI n) (hm : n ≤ 12) (hx : x < 0) 
    (e1 : Q (some (.long (-1000000001 : Int64))) m) :
    WPM G (d + 6) (0, 0) μX10_emittedHeat [.ref (gB G), .int x] m Q := by
  refine WPM.of pX10 (Nat.le_of_ble_eq_true rfl) rfl ?_
  refine wp_aload_n dX10_emittedHeat_0 rfl ?_
  refine wp_getr (gB G + 1) dX10_emittedHeat_1 fX10_10 (ka0 hF) (hF.2 _ _) (rra 1 (isK_le (ka0 hF)) (fun _ => rfl)) ?_
  refine wp_iload_n dX10_emittedHeat_4 rfl ?_
  refine wp_callV (As := [.int x]) (S := []) (b' := (0, 0)) (b := (0, 0)) dX10_emittedHeat_5 MX10_58 (kc0 hF (isC1 G)) rfl rfl rfl rfl (Nat.le_of_ble_eq_true rfl) ?_
  refine WPM.of pX0 (Nat.le_of_ble_eq_true rfl) rfl ?_
  refine wp_iload_n dX0_hasNode_0 rfl ?_
  refine wp_if_lt 16 dX0_hasNode_1 (by decide) (fun _ => ?_) (fun q => absurd hx q)
  refine wp_iconst (0 : Int32) dX0_hasNode_16 (by decide) ?_
  refine wp_zret dX0_hasNode_17 rfl rfl ?_
  show WP G (d + 6) (0, 0) μX10_emittedHeat 8 [.ref (gB G), .int x] [.int (0 : Int32)] m _
  refine wp_if_ne 15 dX10_emittedHeat_8 (by decide) (fun q => absurd (by decide) q) (fun _ => ?_)
  refine wp_ldc2 dX10_emittedHeat_11 kX10_189 ?_
  exact wp_lret dX10_emittedHeat_14 rfl (e1)

theorem aM_emittedHeat {G : Cx} {d : Nat} {m : Mm} {Q : Option Value → Mm → Prop} {x : Int32} {n : Nat}  (hF : Full G m) (hn : ai m (gB G + 294) 12 = nI n) (hm : n ≤ 12) (hx : x < 0) 
    (e1 : Q (some (.long (-1000000001 : Int64))) m) :
    WPM G (d + 6) (0, 0) μX11_emittedHeat [.ref (gB G + 293), .int x] m Q := by
  refine WPM.of pX11 (Nat.le_of_ble_eq_true rfl) rfl ?_
  refine wp_aload_n dX11_emittedHeat_0 rfl ?_
  refine wp_iload_n dX11_emittedHeat_1 rfl ?_
  refine wp_callV (As := [.int x]) (S := []) (b' := (0, 0)) (b := (0, 0)) dX11_emittedHeat_2 MX11_93 (ka hF 293 (by decide)) rfl rfl rfl rfl (Nat.le_of_ble_eq_true rfl) ?_
  refine WPM.of pX11 (Nat.le_of_ble_eq_true rfl) rfl ?_
  refine wp_iload_n dX11_isNode_0 rfl ?_
  refine wp_iconst (0 : Int32) dX11_isNode_1 (by decide) ?_
  refine wp_aload_n dX11_isNode_2 rfl ?_
  refine wp_getr (gB G + 294) dX11_isNode_3 fX11_7 (ka hF 293 (by decide)) (hF.2 _ _) (rra 1 (isK_le (ka hF 293 (by decide))) (fun _ => rfl)) ?_
  refine wp_bipush (12 : Int32) dX11_isNode_6 (by decide) ?_
  refine wp_ialdk (n := 1486) 12 (nI n) dX11_isNode_8 (ka hF 294 (by decide)) (la 294) (vinl (by decide)) rfl hn ?_
  refine wp_iconst (1 : Int32) dX11_isNode_9 (by decide) ?_
  refine wp_isubv ((nI n) - (1 : Int32)) dX11_isNode_10 rfl ?_
  refine wp_callS (As := [.int x, .int (0 : Int32), .int ((nI n) - (1 : Int32))]) (S := []) (b' := (0, 0)) (b := (0, 0)) dX11_isNode_11 MX11_67 rfl rfl (Nat.le_of_ble_eq_true rfl) ?_
  refine WPM.of pX11 (Nat.le_of_ble_eq_true rfl) rfl ?_
  refine wp_iload_n dX11_isBetween_0 rfl ?_
  refine wp_iload_n dX11_isBetween_1 rfl ?_
  refine wp_icmp_lt 14 dX11_isBetween_2 (by decide) (fun _ => ?_) (fun q => absurd hx q)
  refine wp_iconst (0 : Int32) dX11_isBetween_14 (by decide) ?_
  refine wp_zret dX11_isBetween_15 rfl rfl ?_
  show WP G (d + 5) (0, 0) μX11_isNode 14 [.ref (gB G + 293), .int x] [.int (0 : Int32)] m _
  refine wp_zret dX11_isNode_14 rfl rfl ?_
  show WP G (d + 6) (0, 0) μX11_emittedHeat 5 [.ref (gB G + 293), .int x] [.int (0 : Int32)] m _
  refine wp_if_eq 16 dX11_emittedHeat_5 (by decide) (fun _ => ?_) (fun q => absurd (by decide) q)
  refine wp_ldc2 dX11_emittedHeat_16 kX11_195 ?_
  exact wp_lret dX11_emittedHeat_19 rfl (e1)

theorem bC_emittedHeat {G : Cx} {d : Nat} {m : Mm} {Q : Option Value → Mm → Prop} {x : Int32} {n : Nat}  (hF : Full G m) (hn : fi m 5 (gB G + 1) = nI n) (hm : n ≤ 12) (hxa : ¬ x < 0) (hxb : ¬ x < nI n) 
    (e1 : Q (some (.long (-1000000001 : Int64))) m) :
    WPM G (d + 6) (0, 0) μX10_emittedHeat [.ref (gB G), .int x] m Q := by
  refine WPM.of pX10 (Nat.le_of_ble_eq_true rfl) rfl ?_
  refine wp_aload_n dX10_emittedHeat_0 rfl ?_
  refine wp_getr (gB G + 1) dX10_emittedHeat_1 fX10_10 (ka0 hF) (hF.2 _ _) (rra 1 (isK_le (ka0 hF)) (fun _ => rfl)) ?_
  refine wp_iload_n dX10_emittedHeat_4 rfl ?_
  refine wp_callV (As := [.int x]) (S := []) (b' := (0, 0)) (b := (0, 0)) dX10_emittedHeat_5 MX10_58 (kc0 hF (isC1 G)) rfl rfl rfl rfl (Nat.le_of_ble_eq_true rfl) ?_
  refine WPM.of pX0 (Nat.le_of_ble_eq_true rfl) rfl ?_
  refine wp_iload_n dX0_hasNode_0 rfl ?_
  refine wp_if_lt 16 dX0_hasNode_1 (by decide) (fun q => absurd q hxa) (fun _ => ?_)
  refine wp_iload_n dX0_hasNode_4 rfl ?_
  refine wp_aload_n dX0_hasNode_5 rfl ?_
  refine wp_geti (nI n) dX0_hasNode_6 fX0_75 (Or.inl rfl) (kc0 hF (isC1 G)) hn ?_
  refine wp_icmp_ge 16 dX0_hasNode_9 (by decide) (fun _ => ?_) (fun q => absurd q hxb)
  refine wp_iconst (0 : Int32) dX0_hasNode_16 (by decide) ?_
  refine wp_zret dX0_hasNode_17 rfl rfl ?_
  show WP G (d + 6) (0, 0) μX10_emittedHeat 8 [.ref (gB G), .int x] [.int (0 : Int32)] m _
  refine wp_if_ne 15 dX10_emittedHeat_8 (by decide) (fun q => absurd (by decide) q) (fun _ => ?_)
  refine wp_ldc2 dX10_emittedHeat_11 kX10_189 ?_
  exact wp_lret dX10_emittedHeat_14 rfl (e1)

theorem bM_emittedHeat {G : Cx} {d : Nat} {m : Mm} {Q : Option Value → Mm → Prop} {x : Int32} {n : Nat}  (hF : Full G m) (hn : ai m (gB G + 294) 12 = nI n) (hm : n ≤ 12) (hxa : ¬ x < 0) (hxb : ¬ x < nI n) 
    (e1 : Q (some (.long (-1000000001 : Int64))) m) :
    WPM G (d + 6) (0, 0) μX11_emittedHeat [.ref (gB G + 293), .int x] m Q := by
  refine WPM.of pX11 (Nat.le_of_ble_eq_true rfl) rfl ?_
  refine wp_aload_n dX11_emittedHeat_0 rfl ?_
  refine wp_iload_n dX11_emittedHeat_1 rfl ?_
  refine wp_callV (As := [.int x]) (S := []) (b' := (0, 0)) (b := (0, 0)) dX11_emittedHeat_2 MX11_93 (ka hF 293 (by decide)) rfl rfl rfl rfl (Nat.le_of_ble_eq_true rfl) ?_
  refine WPM.of pX11 (Nat.le_of_ble_eq_true rfl) rfl ?_
  refine wp_iload_n dX11_isNode_0 rfl ?_
  refine wp_iconst (0 : Int32) dX11_isNode_1 (by decide) ?_
  refine wp_aload_n dX11_isNode_2 rfl ?_
  refine wp_getr (gB G + 294) dX11_isNode_3 fX11_7 (ka hF 293 (by decide)) (hF.2 _ _) (rra 1 (isK_le (ka hF 293 (by decide))) (fun _ => rfl)) ?_
  refine wp_bipush (12 : Int32) dX11_isNode_6 (by decide) ?_
  refine wp_ialdk (n := 1486) 12 (nI n) dX11_isNode_8 (ka hF 294 (by decide)) (la 294) (vinl (by decide)) rfl hn ?_
  refine wp_iconst (1 : Int32) dX11_isNode_9 (by decide) ?_
  refine wp_isubv ((nI n) - (1 : Int32)) dX11_isNode_10 rfl ?_
  refine wp_callS (As := [.int x, .int (0 : Int32), .int ((nI n) - (1 : Int32))]) (S := []) (b' := (0, 0)) (b := (0, 0)) dX11_isNode_11 MX11_67 rfl rfl (Nat.le_of_ble_eq_true rfl) ?_
  refine WPM.of pX11 (Nat.le_of_ble_eq_true rfl) rfl ?_
  refine wp_iload_n dX11_isBetween_0 rfl ?_
  refine wp_iload_n dX11_isBetween_1 rfl ?_
  refine wp_icmp_lt 14 dX11_isBetween_2 (by decide) (fun q => absurd q hxa) (fun _ => ?_)
  refine wp_iload_n dX11_isBetween_5 rfl ?_
  refine wp_iload_n dX11_isBetween_6 rfl ?_
  refine wp_icmp_gt 14 dX11_isBetween_7 (by decide) (fun _ => ?_) (fun q => absurd (sub_lt (by omega) hxa hxb) q)
  refine wp_iconst (0 : Int32) dX11_isBetween_14 (by decide) ?_
  refine wp_zret dX11_isBetween_15 rfl rfl ?_
  show WP G (d + 5) (0, 0) μX11_isNode 14 [.ref (gB G + 293), .int x] [.int (0 : Int32)] m _
  refine wp_zret dX11_isNode_14 rfl rfl ?_
  show WP G (d + 6) (0, 0) μX11_emittedHeat 5 [.ref (gB G + 293), .int x] [.int (0 : Int32)] m _
  refine wp_if_eq 16 dX11_emittedHeat_5 (by decide) (fun _ => ?_) (fun q => absurd (by decide) q)
  refine wp_ldc2 dX11_emittedHeat_16 kX11_195 ?_
  exact wp_lret dX11_emittedHeat_19 rfl (e1)

theorem iC_conductedHeat {G : Cx} {d : Nat} {m : Mm} {Q : Option Value → Mm → Prop} {i n : Nat}  (hF : Full G m) (hn : fi m 5 (gB G + 1) = nI (n + 1)) (hm : n + 1 ≤ 12) (hi : i < n + 1) 
    (e1 : WPM G (d + 5) (0, 0) μX0_balanceHeat [.ref (gB G + 1)] m (fun r' m' => WP G (d + 6) (0, 0) μX10_conductedHeat 22 [.ref (gB G), .int (nI i)] (r'.toList ++ []) m' Q)) :
    WPM G (d + 6) (0, 0) μX10_conductedHeat [.ref (gB G), .int (nI i)] m Q := by
  refine WPM.of pX10 (Nat.le_of_ble_eq_true rfl) rfl ?_
  refine wp_aload_n dX10_conductedHeat_0 rfl ?_
  refine wp_getr (gB G + 1) dX10_conductedHeat_1 fX10_10 (ka0 hF) (hF.2 _ _) (rra 1 (isK_le (ka0 hF)) (fun _ => rfl)) ?_
  refine wp_iload_n dX10_conductedHeat_4 rfl ?_
  refine wp_callV (As := [.int (nI i)]) (S := []) (b' := (0, 0)) (b := (0, 0)) dX10_conductedHeat_5 MX10_58 (kc0 hF (isC1 G)) rfl rfl rfl rfl (Nat.le_of_ble_eq_true rfl) ?_
  refine WPM.of pX0 (Nat.le_of_ble_eq_true rfl) rfl ?_
  refine wp_iload_n dX0_hasNode_0 rfl ?_
  refine wp_if_lt 16 dX0_hasNode_1 (by decide) (fun q => absurd q (nI_pos (by omega))) (fun _ => ?_)
  refine wp_iload_n dX0_hasNode_4 rfl ?_
  refine wp_aload_n dX0_hasNode_5 rfl ?_
  refine wp_geti (nI (n + 1)) dX0_hasNode_6 fX0_75 (Or.inl rfl) (kc0 hF (isC1 G)) hn ?_
  refine wp_icmp_ge 16 dX0_hasNode_9 (by decide) (fun q => absurd (nlt_ (a := i) (b := n + 1) hi (by omega)) q) (fun _ => ?_)
  refine wp_iconst (1 : Int32) dX0_hasNode_12 (by decide) ?_
  refine wp_goto 17 dX0_hasNode_13 (by decide) ?_
  refine wp_zret dX0_hasNode_17 rfl rfl ?_
  show WP G (d + 6) (0, 0) μX10_conductedHeat 8 [.ref (gB G), .int (nI i)] [.int (1 : Int32)] m _
  refine wp_if_ne 15 dX10_conductedHeat_8 (by decide) (fun _ => ?_) (fun q => absurd q (by decide))
  refine wp_aload_n dX10_conductedHeat_15 rfl ?_
  refine wp_getr (gB G + 1) dX10_conductedHeat_16 fX10_10 (ka0 hF) (hF.2 _ _) (rra 1 (isK_le (ka0 hF)) (fun _ => rfl)) ?_
  refine wp_callV (As := []) (S := []) (b' := (0, 0)) (b := (0, 0)) dX10_conductedHeat_19 MX10_191 (kc0 hF (isC1 G)) rfl rfl rfl rfl (Nat.le_of_ble_eq_true rfl) ?_
  exact e1

theorem jC_conductedHeat {G : Cx} {d : Nat} {m : Mm} {Q : Option Value → Mm → Prop} {i : Nat} (hF : Full G m) (hi : i < 12)
    (e1 : Q (some (.long (fl m 414 (nd (gB G + 1) i)))) m) :
    WP G (d + 6) (0, 0) μX10_conductedHeat 22 [.ref (gB G), .int (nI i)] [] m Q := by
  refine wp_aload_n dX10_conductedHeat_22 rfl ?_
  refine wp_getr (gB G + 1) dX10_conductedHeat_23 fX10_10 (ka0 hF) (hF.2 _ _) (rra 1 (isK_le (ka0 hF)) (fun _ => rfl)) ?_
  refine wp_getr ((gB G + 1) + 1) dX10_conductedHeat_26 fX10_48 (kc0 hF (isC1 G)) (hF.2 _ _) (rra 1 (isK_le (kc0 hF (isC1 G))) (fun _ => rfl)) ?_
  refine wp_iload_n dX10_conductedHeat_29 rfl ?_
  refine wp_raldk (n := 12) i (nd (gB G + 1) i) dX10_conductedHeat_30 (kc hF (isC1 G) 1 (by decide)) (by decide) (by decide) (lc (isC1 G) 1 (by decide)) (vin (by omega) (by decide)) (nIc (by omega)) (hF.2 _ _) (rnd hF (isC1 G)) ?_
  refine wp_getl (fl m 414 (nd (gB G + 1) i)) dX10_conductedHeat_31 fX10_201 (knd hF (isC1 G) (by omega)) rfl ?_
  exact wp_lret dX10_conductedHeat_34 rfl (e1)

theorem iM_conductedHeat {G : Cx} {d : Nat} {m : Mm} {Q : Option Value → Mm → Prop} {i n : Nat}  (hF : Full G m) (hn : ai m (gB G + 294) 12 = nI (n + 1)) (hm : n + 1 ≤ 12) (hi : i < n + 1) 
    (e1 : WPM G (d + 5) (0, 0) μX11_conductedTo [.ref (gB G + 293), .int (nI i)] m (fun r' m' => WP G (d + 6) (0, 0) μX11_conductedHeat 13 [lvU, lvU] (r'.toList ++ []) m' Q)) :
    WPM G (d + 6) (0, 0) μX11_conductedHeat [.ref (gB G + 293), .int (nI i)] m Q := by
  refine WPM.of pX11 (Nat.le_of_ble_eq_true rfl) rfl ?_
  refine wp_aload_n dX11_conductedHeat_0 rfl ?_
  refine wp_iload_n dX11_conductedHeat_1 rfl ?_
  refine wp_callV (As := [.int (nI i)]) (S := []) (b' := (0, 0)) (b := (0, 0)) dX11_conductedHeat_2 MX11_93 (ka hF 293 (by decide)) rfl rfl rfl rfl (Nat.le_of_ble_eq_true rfl) ?_
  refine WPM.of pX11 (Nat.le_of_ble_eq_true rfl) rfl ?_
  refine wp_iload_n dX11_isNode_0 rfl ?_
  refine wp_iconst (0 : Int32) dX11_isNode_1 (by decide) ?_
  refine wp_aload_n dX11_isNode_2 rfl ?_
  refine wp_getr (gB G + 294) dX11_isNode_3 fX11_7 (ka hF 293 (by decide)) (hF.2 _ _) (rra 1 (isK_le (ka hF 293 (by decide))) (fun _ => rfl)) ?_
  refine wp_bipush (12 : Int32) dX11_isNode_6 (by decide) ?_
  refine wp_ialdk (n := 1486) 12 (nI (n + 1)) dX11_isNode_8 (ka hF 294 (by decide)) (la 294) (vinl (by decide)) rfl hn ?_
  refine wp_iconst (1 : Int32) dX11_isNode_9 (by decide) ?_
  refine wp_isubv (nI n) dX11_isNode_10 (nsub (a := n + 1) (b := 1) (by omega)) ?_
  refine wp_callS (As := [.int (nI i), .int (0 : Int32), .int (nI n)]) (S := []) (b' := (0, 0)) (b := (0, 0)) dX11_isNode_11 MX11_67 rfl rfl (Nat.le_of_ble_eq_true rfl) ?_
  refine WPM.of pX11 (Nat.le_of_ble_eq_true rfl) rfl ?_
  refine wp_iload_n dX11_isBetween_0 rfl ?_
  refine wp_iload_n dX11_isBetween_1 rfl ?_
  refine wp_icmp_lt 14 dX11_isBetween_2 (by decide) (fun q => absurd q (nI_pos (by omega))) (fun _ => ?_)
  refine wp_iload_n dX11_isBetween_5 rfl ?_
  refine wp_iload_n dX11_isBetween_6 rfl ?_
  refine wp_icmp_gt 14 dX11_isBetween_7 (by decide) (fun q => absurd q (fun z => (show ¬ n < i by omega) (nlt (a := n) (b := i) z (by omega) (by omega)))) (fun _ => ?_)
  refine wp_iconst (1 : Int32) dX11_isBetween_10 (by decide) ?_
  refine wp_goto 15 dX11_isBetween_11 (by decide) ?_
  refine wp_zret dX11_isBetween_15 rfl rfl ?_
  show WP G (d + 5) (0, 0) μX11_isNode 14 [.ref (gB G + 293), .int (nI i)] [.int (1 : Int32)] m _
  refine wp_zret dX11_isNode_14 rfl rfl ?_
  show WP G (d + 6) (0, 0) μX11_conductedHeat 5 [.ref (gB G + 293), .int (nI i)] [.int (1 : Int32)] m _
  refine wp_if_eq 16 dX11_conductedHeat_5 (by decide) (fun q => absurd q (by decide)) (fun _ => ?_)
  refine wp_aload_n dX11_conductedHeat_8 rfl ?_
  refine wp_iload_n dX11_conductedHeat_9 rfl ?_
  refine wp_forget [lvU, lvU] ⟨Or.inr rfl, Or.inr rfl, trivial⟩ ?_
  refine wp_callV (As := [.int (nI i)]) (S := []) (b' := (0, 0)) (b := (0, 0)) dX11_conductedHeat_10 MX11_192 (ka hF 293 (by decide)) rfl rfl rfl rfl (Nat.le_of_ble_eq_true rfl) ?_
  exact e1

theorem jM_conductedHeat {G : Cx} {d : Nat} {m : Mm} {Q : Option Value → Mm → Prop} {r : Int64} (hF : Full G m) 
    (e1 : Q (some (.long r)) m) :
    WP G (d + 6) (0, 0) μX11_conductedHeat 13 [lvU, lvU] [.long r] m Q := by
  refine wp_goto 19 dX11_conductedHeat_13 (by decide) ?_
  exact wp_lret dX11_conductedHeat_19 rfl (e1)

theorem aC_conductedHeat {G : Cx} {d : Nat} {m : Mm} {Q : Option Value → Mm → Prop} {x : Int32} {n : Nat}  (hF : Full G m) (hn : fi m 5 (gB G + 1) = nI n) (hm : n ≤ 12) (hx : x < 0) 
    (e1 : Q (some (.long (-1000000001 : Int64))) m) :
    WPM G (d + 6) (0, 0) μX10_conductedHeat [.ref (gB G), .int x] m Q := by
  refine WPM.of pX10 (Nat.le_of_ble_eq_true rfl) rfl ?_
  refine wp_aload_n dX10_conductedHeat_0 rfl ?_
  refine wp_getr (gB G + 1) dX10_conductedHeat_1 fX10_10 (ka0 hF) (hF.2 _ _) (rra 1 (isK_le (ka0 hF)) (fun _ => rfl)) ?_
  refine wp_iload_n dX10_conductedHeat_4 rfl ?_
  refine wp_callV (As := [.int x]) (S := []) (b' := (0, 0)) (b := (0, 0)) dX10_conductedHeat_5 MX10_58 (kc0 hF (isC1 G)) rfl rfl rfl rfl (Nat.le_of_ble_eq_true rfl) ?_
  refine WPM.of pX0 (Nat.le_of_ble_eq_true rfl) rfl ?_
  refine wp_iload_n dX0_hasNode_0 rfl ?_
  refine wp_if_lt 16 dX0_hasNode_1 (by decide) (fun _ => ?_) (fun q => absurd hx q)
  refine wp_iconst (0 : Int32) dX0_hasNode_16 (by decide) ?_
  refine wp_zret dX0_hasNode_17 rfl rfl ?_
  show WP G (d + 6) (0, 0) μX10_conductedHeat 8 [.ref (gB G), .int x] [.int (0 : Int32)] m _
  refine wp_if_ne 15 dX10_conductedHeat_8 (by decide) (fun q => absurd (by decide) q) (fun _ => ?_)
  refine wp_ldc2 dX10_conductedHeat_11 kX10_189 ?_
  exact wp_lret dX10_conductedHeat_14 rfl (e1)

theorem aM_conductedHeat {G : Cx} {d : Nat} {m : Mm} {Q : Option Value → Mm → Prop} {x : Int32} {n : Nat}  (hF : Full G m) (hn : ai m (gB G + 294) 12 = nI n) (hm : n ≤ 12) (hx : x < 0) 
    (e1 : Q (some (.long (-1000000001 : Int64))) m) :
    WPM G (d + 6) (0, 0) μX11_conductedHeat [.ref (gB G + 293), .int x] m Q := by
  refine WPM.of pX11 (Nat.le_of_ble_eq_true rfl) rfl ?_
  refine wp_aload_n dX11_conductedHeat_0 rfl ?_
  refine wp_iload_n dX11_conductedHeat_1 rfl ?_
  refine wp_callV (As := [.int x]) (S := []) (b' := (0, 0)) (b := (0, 0)) dX11_conductedHeat_2 MX11_93 (ka hF 293 (by decide)) rfl rfl rfl rfl (Nat.le_of_ble_eq_true rfl) ?_
  refine WPM.of pX11 (Nat.le_of_ble_eq_true rfl) rfl ?_
  refine wp_iload_n dX11_isNode_0 rfl ?_
  refine wp_iconst (0 : Int32) dX11_isNode_1 (by decide) ?_
  refine wp_aload_n dX11_isNode_2 rfl ?_
  refine wp_getr (gB G + 294) dX11_isNode_3 fX11_7 (ka hF 293 (by decide)) (hF.2 _ _) (rra 1 (isK_le (ka hF 293 (by decide))) (fun _ => rfl)) ?_
  refine wp_bipush (12 : Int32) dX11_isNode_6 (by decide) ?_
  refine wp_ialdk (n := 1486) 12 (nI n) dX11_isNode_8 (ka hF 294 (by decide)) (la 294) (vinl (by decide)) rfl hn ?_
  refine wp_iconst (1 : Int32) dX11_isNode_9 (by decide) ?_
  refine wp_isubv ((nI n) - (1 : Int32)) dX11_isNode_10 rfl ?_
  refine wp_callS (As := [.int x, .int (0 : Int32), .int ((nI n) - (1 : Int32))]) (S := []) (b' := (0, 0)) (b := (0, 0)) dX11_isNode_11 MX11_67 rfl rfl (Nat.le_of_ble_eq_true rfl) ?_
  refine WPM.of pX11 (Nat.le_of_ble_eq_true rfl) rfl ?_
  refine wp_iload_n dX11_isBetween_0 rfl ?_
  refine wp_iload_n dX11_isBetween_1 rfl ?_
  refine wp_icmp_lt 14 dX11_isBetween_2 (by decide) (fun _ => ?_) (fun q => absurd hx q)
  refine wp_iconst (0 : Int32) dX11_isBetween_14 (by decide) ?_
  refine wp_zret dX11_isBetween_15 rfl rfl ?_
  show WP G (d + 5) (0, 0) μX11_isNode 14 [.ref (gB G + 293), .int x] [.int (0 : Int32)] m _
  refine wp_zret dX11_isNode_14 rfl rfl ?_
  show WP G (d + 6) (0, 0) μX11_conductedHeat 5 [.ref (gB G + 293), .int x] [.int (0 : Int32)] m _
  refine wp_if_eq 16 dX11_conductedHeat_5 (by decide) (fun _ => ?_) (fun q => absurd (by decide) q)
  refine wp_ldc2 dX11_conductedHeat_16 kX11_195 ?_
  exact wp_lret dX11_conductedHeat_19 rfl (e1)

theorem bC_conductedHeat {G : Cx} {d : Nat} {m : Mm} {Q : Option Value → Mm → Prop} {x : Int32} {n : Nat}  (hF : Full G m) (hn : fi m 5 (gB G + 1) = nI n) (hm : n ≤ 12) (hxa : ¬ x < 0) (hxb : ¬ x < nI n) 
    (e1 : Q (some (.long (-1000000001 : Int64))) m) :
    WPM G (d + 6) (0, 0) μX10_conductedHeat [.ref (gB G), .int x] m Q := by
  refine WPM.of pX10 (Nat.le_of_ble_eq_true rfl) rfl ?_
  refine wp_aload_n dX10_conductedHeat_0 rfl ?_
  refine wp_getr (gB G + 1) dX10_conductedHeat_1 fX10_10 (ka0 hF) (hF.2 _ _) (rra 1 (isK_le (ka0 hF)) (fun _ => rfl)) ?_
  refine wp_iload_n dX10_conductedHeat_4 rfl ?_
  refine wp_callV (As := [.int x]) (S := []) (b' := (0, 0)) (b := (0, 0)) dX10_conductedHeat_5 MX10_58 (kc0 hF (isC1 G)) rfl rfl rfl rfl (Nat.le_of_ble_eq_true rfl) ?_
  refine WPM.of pX0 (Nat.le_of_ble_eq_true rfl) rfl ?_
  refine wp_iload_n dX0_hasNode_0 rfl ?_
  refine wp_if_lt 16 dX0_hasNode_1 (by decide) (fun q => absurd q hxa) (fun _ => ?_)
  refine wp_iload_n dX0_hasNode_4 rfl ?_
  refine wp_aload_n dX0_hasNode_5 rfl ?_
  refine wp_geti (nI n) dX0_hasNode_6 fX0_75 (Or.inl rfl) (kc0 hF (isC1 G)) hn ?_
  refine wp_icmp_ge 16 dX0_hasNode_9 (by decide) (fun _ => ?_) (fun q => absurd q hxb)
  refine wp_iconst (0 : Int32) dX0_hasNode_16 (by decide) ?_
  refine wp_zret dX0_hasNode_17 rfl rfl ?_
  show WP G (d + 6) (0, 0) μX10_conductedHeat 8 [.ref (gB G), .int x] [.int (0 : Int32)] m _
  refine wp_if_ne 15 dX10_conductedHeat_8 (by decide) (fun q => absurd (by decide) q) (fun _ => ?_)
  refine wp_ldc2 dX10_conductedHeat_11 kX10_189 ?_
  exact wp_lret dX10_conductedHeat_14 rfl (e1)

theorem bM_conductedHeat {G : Cx} {d : Nat} {m : Mm} {Q : Option Value → Mm → Prop} {x : Int32} {n : Nat}  (hF : Full G m) (hn : ai m (gB G + 294) 12 = nI n) (hm : n ≤ 12) (hxa : ¬ x < 0) (hxb : ¬ x < nI n) 
    (e1 : Q (some (.long (-1000000001 : Int64))) m) :
    WPM G (d + 6) (0, 0) μX11_conductedHeat [.ref (gB G + 293), .int x] m Q := by
  refine WPM.of pX11 (Nat.le_of_ble_eq_true rfl) rfl ?_
  refine wp_aload_n dX11_conductedHeat_0 rfl ?_
  refine wp_iload_n dX11_conductedHeat_1 rfl ?_
  refine wp_callV (As := [.int x]) (S := []) (b' := (0, 0)) (b := (0, 0)) dX11_conductedHeat_2 MX11_93 (ka hF 293 (by decide)) rfl rfl rfl rfl (Nat.le_of_ble_eq_true rfl) ?_
  refine WPM.of pX11 (Nat.le_of_ble_eq_true rfl) rfl ?_
  refine wp_iload_n dX11_isNode_0 rfl ?_
  refine wp_iconst (0 : Int32) dX11_isNode_1 (by decide) ?_
  refine wp_aload_n dX11_isNode_2 rfl ?_
  refine wp_getr (gB G + 294) dX11_isNode_3 fX11_7 (ka hF 293 (by decide)) (hF.2 _ _) (rra 1 (isK_le (ka hF 293 (by decide))) (fun _ => rfl)) ?_
  refine wp_bipush (12 : Int32) dX11_isNode_6 (by decide) ?_
  refine wp_ialdk (n := 1486) 12 (nI n) dX11_isNode_8 (ka hF 294 (by decide)) (la 294) (vinl (by decide)) rfl hn ?_
  refine wp_iconst (1 : Int32) dX11_isNode_9 (by decide) ?_
  refine wp_isubv ((nI n) - (1 : Int32)) dX11_isNode_10 rfl ?_
  refine wp_callS (As := [.int x, .int (0 : Int32), .int ((nI n) - (1 : Int32))]) (S := []) (b' := (0, 0)) (b := (0, 0)) dX11_isNode_11 MX11_67 rfl rfl (Nat.le_of_ble_eq_true rfl) ?_
  refine WPM.of pX11 (Nat.le_of_ble_eq_true rfl) rfl ?_
  refine wp_iload_n dX11_isBetween_0 rfl ?_
  refine wp_iload_n dX11_isBetween_1 rfl ?_
  refine wp_icmp_lt 14 dX11_isBetween_2 (by decide) (fun q => absurd q hxa) (fun _ => ?_)
  refine wp_iload_n dX11_isBetween_5 rfl ?_
  refine wp_iload_n dX11_isBetween_6 rfl ?_
  refine wp_icmp_gt 14 dX11_isBetween_7 (by decide) (fun _ => ?_) (fun q => absurd (sub_lt (by omega) hxa hxb) q)
  refine wp_iconst (0 : Int32) dX11_isBetween_14 (by decide) ?_
  refine wp_zret dX11_isBetween_15 rfl rfl ?_
  show WP G (d + 5) (0, 0) μX11_isNode 14 [.ref (gB G + 293), .int x] [.int (0 : Int32)] m _
  refine wp_zret dX11_isNode_14 rfl rfl ?_
  show WP G (d + 6) (0, 0) μX11_conductedHeat 5 [.ref (gB G + 293), .int x] [.int (0 : Int32)] m _
  refine wp_if_eq 16 dX11_conductedHeat_5 (by decide) (fun _ => ?_) (fun q => absurd (by decide) q)
  refine wp_ldc2 dX11_conductedHeat_16 kX11_195 ?_
  exact wp_lret dX11_conductedHeat_19 rfl (e1)

theorem iC_netHeat {G : Cx} {d : Nat} {m : Mm} {Q : Option Value → Mm → Prop} {i n : Nat}  (hF : Full G m) (hn : fi m 5 (gB G + 1) = nI (n + 1)) (hm : n + 1 ≤ 12) (hi : i < n + 1) 
    (e1 : WPM G (d + 5) (0, 0) μX0_balanceHeat [.ref (gB G + 1)] m (fun r' m' => WP G (d + 6) (0, 0) μX10_netHeat 22 [.ref (gB G), .int (nI i)] (r'.toList ++ []) m' Q)) :
    WPM G (d + 6) (0, 0) μX10_netHeat [.ref (gB G), .int (nI i)] m Q := by
  refine WPM.of pX10 (Nat.le_of_ble_eq_true rfl) rfl ?_
  refine wp_aload_n dX10_netHeat_0 rfl ?_
  refine wp_getr (gB G + 1) dX10_netHeat_1 fX10_10 (ka0 hF) (hF.2 _ _) (rra 1 (isK_le (ka0 hF)) (fun _ => rfl)) ?_
  refine wp_iload_n dX10_netHeat_4 rfl ?_
  refine wp_callV (As := [.int (nI i)]) (S := []) (b' := (0, 0)) (b := (0, 0)) dX10_netHeat_5 MX10_58 (kc0 hF (isC1 G)) rfl rfl rfl rfl (Nat.le_of_ble_eq_true rfl) ?_
  refine WPM.of pX0 (Nat.le_of_ble_eq_true rfl) rfl ?_
  refine wp_iload_n dX0_hasNode_0 rfl ?_
  refine wp_if_lt 16 dX0_hasNode_1 (by decide) (fun q => absurd q (nI_pos (by omega))) (fun _ => ?_)
  refine wp_iload_n dX0_hasNode_4 rfl ?_
  refine wp_aload_n dX0_hasNode_5 rfl ?_
  refine wp_geti (nI (n + 1)) dX0_hasNode_6 fX0_75 (Or.inl rfl) (kc0 hF (isC1 G)) hn ?_
  refine wp_icmp_ge 16 dX0_hasNode_9 (by decide) (fun q => absurd (nlt_ (a := i) (b := n + 1) hi (by omega)) q) (fun _ => ?_)
  refine wp_iconst (1 : Int32) dX0_hasNode_12 (by decide) ?_
  refine wp_goto 17 dX0_hasNode_13 (by decide) ?_
  refine wp_zret dX0_hasNode_17 rfl rfl ?_
  show WP G (d + 6) (0, 0) μX10_netHeat 8 [.ref (gB G), .int (nI i)] [.int (1 : Int32)] m _
  refine wp_if_ne 15 dX10_netHeat_8 (by decide) (fun _ => ?_) (fun q => absurd q (by decide))
  refine wp_aload_n dX10_netHeat_15 rfl ?_
  refine wp_getr (gB G + 1) dX10_netHeat_16 fX10_10 (ka0 hF) (hF.2 _ _) (rra 1 (isK_le (ka0 hF)) (fun _ => rfl)) ?_
  refine wp_callV (As := []) (S := []) (b' := (0, 0)) (b := (0, 0)) dX10_netHeat_19 MX10_191 (kc0 hF (isC1 G)) rfl rfl rfl rfl (Nat.le_of_ble_eq_true rfl) ?_
  exact e1

theorem jC_netHeat {G : Cx} {d : Nat} {m : Mm} {Q : Option Value → Mm → Prop} {i : Nat} (hF : Full G m) (hi : i < 12)
    (e1 : Q (some (.long (((((Int32.toInt64 (fi m 404 (nd (gB G + 1) i))) + (fl m 415 (nd (gB G + 1) i))) + (fl m 412 (nd (gB G + 1) i))) + (fl m 414 (nd (gB G + 1) i))) - (fl m 413 (nd (gB G + 1) i))))) m) :
    WP G (d + 6) (0, 0) μX10_netHeat 22 [.ref (gB G), .int (nI i)] [] m Q := by
  refine wp_aload_n dX10_netHeat_22 rfl ?_
  refine wp_getr (gB G + 1) dX10_netHeat_23 fX10_10 (ka0 hF) (hF.2 _ _) (rra 1 (isK_le (ka0 hF)) (fun _ => rfl)) ?_
  refine wp_getr ((gB G + 1) + 1) dX10_netHeat_26 fX10_48 (kc0 hF (isC1 G)) (hF.2 _ _) (rra 1 (isK_le (kc0 hF (isC1 G))) (fun _ => rfl)) ?_
  refine wp_iload_n dX10_netHeat_29 rfl ?_
  refine wp_raldk (n := 12) i (nd (gB G + 1) i) dX10_netHeat_30 (kc hF (isC1 G) 1 (by decide)) (by decide) (by decide) (lc (isC1 G) 1 (by decide)) (vin (by omega) (by decide)) (nIc (by omega)) (hF.2 _ _) (rnd hF (isC1 G)) ?_
  refine wp_callV (As := []) (S := []) (b' := (0, 0)) (b := (0, 0)) dX10_netHeat_31 MX10_204 (knd hF (isC1 G) (by omega)) rfl rfl rfl rfl (Nat.le_of_ble_eq_true rfl) ?_
  refine WPM.of pX4 (Nat.le_of_ble_eq_true rfl) rfl ?_
  refine wp_aload_n dX4_gain_0 rfl ?_
  refine wp_geti (fi m 404 (nd (gB G + 1) i)) dX4_gain_1 fX4_24 (Or.inl rfl) (knd hF (isC1 G) (by omega)) rfl ?_
  refine wp_i2l dX4_gain_4 ?_
  refine wp_aload_n dX4_gain_5 rfl ?_
  refine wp_getl (fl m 415 (nd (gB G + 1) i)) dX4_gain_6 fX4_62 (knd hF (isC1 G) (by omega)) rfl ?_
  refine wp_ladd dX4_gain_9 ?_
  refine wp_aload_n dX4_gain_10 rfl ?_
  refine wp_getl (fl m 412 (nd (gB G + 1) i)) dX4_gain_11 fX4_65 (knd hF (isC1 G) (by omega)) rfl ?_
  refine wp_ladd dX4_gain_14 ?_
  refine wp_aload_n dX4_gain_15 rfl ?_
  refine wp_getl (fl m 414 (nd (gB G + 1) i)) dX4_gain_16 fX4_68 (knd hF (isC1 G) (by omega)) rfl ?_
  refine wp_ladd dX4_gain_19 ?_
  refine wp_aload_n dX4_gain_20 rfl ?_
  refine wp_getl (fl m 413 (nd (gB G + 1) i)) dX4_gain_21 fX4_59 (knd hF (isC1 G) (by omega)) rfl ?_
  refine wp_lsub dX4_gain_24 ?_
  refine wp_lret dX4_gain_25 rfl ?_
  show WP G (d + 6) (0, 0) μX10_netHeat 34 [.ref (gB G), .int (nI i)] [.long (((((Int32.toInt64 (fi m 404 (nd (gB G + 1) i))) + (fl m 415 (nd (gB G + 1) i))) + (fl m 412 (nd (gB G + 1) i))) + (fl m 414 (nd (gB G + 1) i))) - (fl m 413 (nd (gB G + 1) i)))] m _
  exact wp_lret dX10_netHeat_34 rfl (e1)

theorem iM_netHeat {G : Cx} {d : Nat} {m : Mm} {Q : Option Value → Mm → Prop} {i n : Nat}  (hF : Full G m) (hn : ai m (gB G + 294) 12 = nI (n + 1)) (hm : n + 1 ≤ 12) (hi : i < n + 1) 
    (e1 : WPM G (d + 5) (0, 0) μX11_netOf [.ref (gB G + 293), .int (nI i)] m (fun r' m' => WP G (d + 6) (0, 0) μX11_netHeat 13 [lvU, lvU] (r'.toList ++ []) m' Q)) :
    WPM G (d + 6) (0, 0) μX11_netHeat [.ref (gB G + 293), .int (nI i)] m Q := by
  refine WPM.of pX11 (Nat.le_of_ble_eq_true rfl) rfl ?_
  refine wp_aload_n dX11_netHeat_0 rfl ?_
  refine wp_iload_n dX11_netHeat_1 rfl ?_
  refine wp_callV (As := [.int (nI i)]) (S := []) (b' := (0, 0)) (b := (0, 0)) dX11_netHeat_2 MX11_93 (ka hF 293 (by decide)) rfl rfl rfl rfl (Nat.le_of_ble_eq_true rfl) ?_
  refine WPM.of pX11 (Nat.le_of_ble_eq_true rfl) rfl ?_
  refine wp_iload_n dX11_isNode_0 rfl ?_
  refine wp_iconst (0 : Int32) dX11_isNode_1 (by decide) ?_
  refine wp_aload_n dX11_isNode_2 rfl ?_
  refine wp_getr (gB G + 294) dX11_isNode_3 fX11_7 (ka hF 293 (by decide)) (hF.2 _ _) (rra 1 (isK_le (ka hF 293 (by decide))) (fun _ => rfl)) ?_
  refine wp_bipush (12 : Int32) dX11_isNode_6 (by decide) ?_
  refine wp_ialdk (n := 1486) 12 (nI (n + 1)) dX11_isNode_8 (ka hF 294 (by decide)) (la 294) (vinl (by decide)) rfl hn ?_
  refine wp_iconst (1 : Int32) dX11_isNode_9 (by decide) ?_
  refine wp_isubv (nI n) dX11_isNode_10 (nsub (a := n + 1) (b := 1) (by omega)) ?_
  refine wp_callS (As := [.int (nI i), .int (0 : Int32), .int (nI n)]) (S := []) (b' := (0, 0)) (b := (0, 0)) dX11_isNode_11 MX11_67 rfl rfl (Nat.le_of_ble_eq_true rfl) ?_
  refine WPM.of pX11 (Nat.le_of_ble_eq_true rfl) rfl ?_
  refine wp_iload_n dX11_isBetween_0 rfl ?_
  refine wp_iload_n dX11_isBetween_1 rfl ?_
  refine wp_icmp_lt 14 dX11_isBetween_2 (by decide) (fun q => absurd q (nI_pos (by omega))) (fun _ => ?_)
  refine wp_iload_n dX11_isBetween_5 rfl ?_
  refine wp_iload_n dX11_isBetween_6 rfl ?_
  refine wp_icmp_gt 14 dX11_isBetween_7 (by decide) (fun q => absurd q (fun z => (show ¬ n < i by omega) (nlt (a := n) (b := i) z (by omega) (by omega)))) (fun _ => ?_)
  refine wp_iconst (1 : Int32) dX11_isBetween_10 (by decide) ?_
  refine wp_goto 15 dX11_isBetween_11 (by decide) ?_
  refine wp_zret dX11_isBetween_15 rfl rfl ?_
  show WP G (d + 5) (0, 0) μX11_isNode 14 [.ref (gB G + 293), .int (nI i)] [.int (1 : Int32)] m _
  refine wp_zret dX11_isNode_14 rfl rfl ?_
  show WP G (d + 6) (0, 0) μX11_netHeat 5 [.ref (gB G + 293), .int (nI i)] [.int (1 : Int32)] m _
  refine wp_if_eq 16 dX11_netHeat_5 (by decide) (fun q => absurd q (by decide)) (fun _ => ?_)
  refine wp_aload_n dX11_netHeat_8 rfl ?_
  refine wp_iload_n dX11_netHeat_9 rfl ?_
  refine wp_forget [lvU, lvU] ⟨Or.inr rfl, Or.inr rfl, trivial⟩ ?_
  refine wp_callV (As := [.int (nI i)]) (S := []) (b' := (0, 0)) (b := (0, 0)) dX11_netHeat_10 MX11_145 (ka hF 293 (by decide)) rfl rfl rfl rfl (Nat.le_of_ble_eq_true rfl) ?_
  exact e1

theorem jM_netHeat {G : Cx} {d : Nat} {m : Mm} {Q : Option Value → Mm → Prop} {r : Int64} (hF : Full G m) 
    (e1 : Q (some (.long r)) m) :
    WP G (d + 6) (0, 0) μX11_netHeat 13 [lvU, lvU] [.long r] m Q := by
  refine wp_goto 19 dX11_netHeat_13 (by decide) ?_
  exact wp_lret dX11_netHeat_19 rfl (e1)

theorem aC_netHeat {G : Cx} {d : Nat} {m : Mm} {Q : Option Value → Mm → Prop} {x : Int32} {n : Nat}  (hF : Full G m) (hn : fi m 5 (gB G + 1) = nI n) (hm : n ≤ 12) (hx : x < 0) 
    (e1 : Q (some (.long (-1000000001 : Int64))) m) :
    WPM G (d + 6) (0, 0) μX10_netHeat [.ref (gB G), .int x] m Q := by
  refine WPM.of pX10 (Nat.le_of_ble_eq_true rfl) rfl ?_
  refine wp_aload_n dX10_netHeat_0 rfl ?_
  refine wp_getr (gB G + 1) dX10_netHeat_1 fX10_10 (ka0 hF) (hF.2 _ _) (rra 1 (isK_le (ka0 hF)) (fun _ => rfl)) ?_
  refine wp_iload_n dX10_netHeat_4 rfl ?_
  refine wp_callV (As := [.int x]) (S := []) (b' := (0, 0)) (b := (0, 0)) dX10_netHeat_5 MX10_58 (kc0 hF (isC1 G)) rfl rfl rfl rfl (Nat.le_of_ble_eq_true rfl) ?_
  refine WPM.of pX0 (Nat.le_of_ble_eq_true rfl) rfl ?_
  refine wp_iload_n dX0_hasNode_0 rfl ?_
  refine wp_if_lt 16 dX0_hasNode_1 (by decide) (fun _ => ?_) (fun q => absurd hx q)
  refine wp_iconst (0 : Int32) dX0_hasNode_16 (by decide) ?_
  refine wp_zret dX0_hasNode_17 rfl rfl ?_
  show WP G (d + 6) (0, 0) μX10_netHeat 8 [.ref (gB G), .int x] [.int (0 : Int32)] m _
  refine wp_if_ne 15 dX10_netHeat_8 (by decide) (fun q => absurd (by decide) q) (fun _ => ?_)
  refine wp_ldc2 dX10_netHeat_11 kX10_189 ?_
  exact wp_lret dX10_netHeat_14 rfl (e1)

theorem aM_netHeat {G : Cx} {d : Nat} {m : Mm} {Q : Option Value → Mm → Prop} {x : Int32} {n : Nat}  (hF : Full G m) (hn : ai m (gB G + 294) 12 = nI n) (hm : n ≤ 12) (hx : x < 0) 
    (e1 : Q (some (.long (-1000000001 : Int64))) m) :
    WPM G (d + 6) (0, 0) μX11_netHeat [.ref (gB G + 293), .int x] m Q := by
  refine WPM.of pX11 (Nat.le_of_ble_eq_true rfl) rfl ?_
  refine wp_aload_n dX11_netHeat_0 rfl ?_
  refine wp_iload_n dX11_netHeat_1 rfl ?_
  refine wp_callV (As := [.int x]) (S := []) (b' := (0, 0)) (b := (0, 0)) dX11_netHeat_2 MX11_93 (ka hF 293 (by decide)) rfl rfl rfl rfl (Nat.le_of_ble_eq_true rfl) ?_
  refine WPM.of pX11 (Nat.le_of_ble_eq_true rfl) rfl ?_
  refine wp_iload_n dX11_isNode_0 rfl ?_
  refine wp_iconst (0 : Int32) dX11_isNode_1 (by decide) ?_
  refine wp_aload_n dX11_isNode_2 rfl ?_
  refine wp_getr (gB G + 294) dX11_isNode_3 fX11_7 (ka hF 293 (by decide)) (hF.2 _ _) (rra 1 (isK_le (ka hF 293 (by decide))) (fun _ => rfl)) ?_
  refine wp_bipush (12 : Int32) dX11_isNode_6 (by decide) ?_
  refine wp_ialdk (n := 1486) 12 (nI n) dX11_isNode_8 (ka hF 294 (by decide)) (la 294) (vinl (by decide)) rfl hn ?_
  refine wp_iconst (1 : Int32) dX11_isNode_9 (by decide) ?_
  refine wp_isubv ((nI n) - (1 : Int32)) dX11_isNode_10 rfl ?_
  refine wp_callS (As := [.int x, .int (0 : Int32), .int ((nI n) - (1 : Int32))]) (S := []) (b' := (0, 0)) (b := (0, 0)) dX11_isNode_11 MX11_67 rfl rfl (Nat.le_of_ble_eq_true rfl) ?_
  refine WPM.of pX11 (Nat.le_of_ble_eq_true rfl) rfl ?_
  refine wp_iload_n dX11_isBetween_0 rfl ?_
  refine wp_iload_n dX11_isBetween_1 rfl ?_
  refine wp_icmp_lt 14 dX11_isBetween_2 (by decide) (fun _ => ?_) (fun q => absurd hx q)
  refine wp_iconst (0 : Int32) dX11_isBetween_14 (by decide) ?_
  refine wp_zret dX11_isBetween_15 rfl rfl ?_
  show WP G (d + 5) (0, 0) μX11_isNode 14 [.ref (gB G + 293), .int x] [.int (0 : Int32)] m _
  refine wp_zret dX11_isNode_14 rfl rfl ?_
  show WP G (d + 6) (0, 0) μX11_netHeat 5 [.ref (gB G + 293), .int x] [.int (0 : Int32)] m _
  refine wp_if_eq 16 dX11_netHeat_5 (by decide) (fun _ => ?_) (fun q => absurd (by decide) q)
  refine wp_ldc2 dX11_netHeat_16 kX11_195 ?_
  exact wp_lret dX11_netHeat_19 rfl (e1)

theorem bC_netHeat {G : Cx} {d : Nat} {m : Mm} {Q : Option Value → Mm → Prop} {x : Int32} {n : Nat}  (hF : Full G m) (hn : fi m 5 (gB G + 1) = nI n) (hm : n ≤ 12) (hxa : ¬ x < 0) (hxb : ¬ x < nI n) 
    (e1 : Q (some (.long (-1000000001 : Int64))) m) :
    WPM G (d + 6) (0, 0) μX10_netHeat [.ref (gB G), .int x] m Q := by
  refine WPM.of pX10 (Nat.le_of_ble_eq_true rfl) rfl ?_
  refine wp_aload_n dX10_netHeat_0 rfl ?_
  refine wp_getr (gB G + 1) dX10_netHeat_1 fX10_10 (ka0 hF) (hF.2 _ _) (rra 1 (isK_le (ka0 hF)) (fun _ => rfl)) ?_
  refine wp_iload_n dX10_netHeat_4 rfl ?_
  refine wp_callV (As := [.int x]) (S := []) (b' := (0, 0)) (b := (0, 0)) dX10_netHeat_5 MX10_58 (kc0 hF (isC1 G)) rfl rfl rfl rfl (Nat.le_of_ble_eq_true rfl) ?_
  refine WPM.of pX0 (Nat.le_of_ble_eq_true rfl) rfl ?_
  refine wp_iload_n dX0_hasNode_0 rfl ?_
  refine wp_if_lt 16 dX0_hasNode_1 (by decide) (fun q => absurd q hxa) (fun _ => ?_)
  refine wp_iload_n dX0_hasNode_4 rfl ?_
  refine wp_aload_n dX0_hasNode_5 rfl ?_
  refine wp_geti (nI n) dX0_hasNode_6 fX0_75 (Or.inl rfl) (kc0 hF (isC1 G)) hn ?_
  refine wp_icmp_ge 16 dX0_hasNode_9 (by decide) (fun _ => ?_) (fun q => absurd q hxb)
  refine wp_iconst (0 : Int32) dX0_hasNode_16 (by decide) ?_
  refine wp_zret dX0_hasNode_17 rfl rfl ?_
  show WP G (d + 6) (0, 0) μX10_netHeat 8 [.ref (gB G), .int x] [.int (0 : Int32)] m _
  refine wp_if_ne 15 dX10_netHeat_8 (by decide) (fun q => absurd (by decide) q) (fun _ => ?_)
  refine wp_ldc2 dX10_netHeat_11 kX10_189 ?_
  exact wp_lret dX10_netHeat_14 rfl (e1)

theorem bM_netHeat {G : Cx} {d : Nat} {m : Mm} {Q : Option Value → Mm → Prop} {x : Int32} {n : Nat}  (hF : Full G m) (hn : ai m (gB G + 294) 12 = nI n) (hm : n ≤ 12) (hxa : ¬ x < 0) (hxb : ¬ x < nI n) 
    (e1 : Q (some (.long (-1000000001 : Int64))) m) :
    WPM G (d + 6) (0, 0) μX11_netHeat [.ref (gB G + 293), .int x] m Q := by
  refine WPM.of pX11 (Nat.le_of_ble_eq_true rfl) rfl ?_
  refine wp_aload_n dX11_netHeat_0 rfl ?_
  refine wp_iload_n dX11_netHeat_1 rfl ?_
  refine wp_callV (As := [.int x]) (S := []) (b' := (0, 0)) (b := (0, 0)) dX11_netHeat_2 MX11_93 (ka hF 293 (by decide)) rfl rfl rfl rfl (Nat.le_of_ble_eq_true rfl) ?_
  refine WPM.of pX11 (Nat.le_of_ble_eq_true rfl) rfl ?_
  refine wp_iload_n dX11_isNode_0 rfl ?_
  refine wp_iconst (0 : Int32) dX11_isNode_1 (by decide) ?_
  refine wp_aload_n dX11_isNode_2 rfl ?_
  refine wp_getr (gB G + 294) dX11_isNode_3 fX11_7 (ka hF 293 (by decide)) (hF.2 _ _) (rra 1 (isK_le (ka hF 293 (by decide))) (fun _ => rfl)) ?_
  refine wp_bipush (12 : Int32) dX11_isNode_6 (by decide) ?_
  refine wp_ialdk (n := 1486) 12 (nI n) dX11_isNode_8 (ka hF 294 (by decide)) (la 294) (vinl (by decide)) rfl hn ?_
  refine wp_iconst (1 : Int32) dX11_isNode_9 (by decide) ?_
  refine wp_isubv ((nI n) - (1 : Int32)) dX11_isNode_10 rfl ?_
  refine wp_callS (As := [.int x, .int (0 : Int32), .int ((nI n) - (1 : Int32))]) (S := []) (b' := (0, 0)) (b := (0, 0)) dX11_isNode_11 MX11_67 rfl rfl (Nat.le_of_ble_eq_true rfl) ?_
  refine WPM.of pX11 (Nat.le_of_ble_eq_true rfl) rfl ?_
  refine wp_iload_n dX11_isBetween_0 rfl ?_
  refine wp_iload_n dX11_isBetween_1 rfl ?_
  refine wp_icmp_lt 14 dX11_isBetween_2 (by decide) (fun q => absurd q hxa) (fun _ => ?_)
  refine wp_iload_n dX11_isBetween_5 rfl ?_
  refine wp_iload_n dX11_isBetween_6 rfl ?_
  refine wp_icmp_gt 14 dX11_isBetween_7 (by decide) (fun _ => ?_) (fun q => absurd (sub_lt (by omega) hxa hxb) q)
  refine wp_iconst (0 : Int32) dX11_isBetween_14 (by decide) ?_
  refine wp_zret dX11_isBetween_15 rfl rfl ?_
  show WP G (d + 5) (0, 0) μX11_isNode 14 [.ref (gB G + 293), .int x] [.int (0 : Int32)] m _
  refine wp_zret dX11_isNode_14 rfl rfl ?_
  show WP G (d + 6) (0, 0) μX11_netHeat 5 [.ref (gB G + 293), .int x] [.int (0 : Int32)] m _
  refine wp_if_eq 16 dX11_netHeat_5 (by decide) (fun _ => ?_) (fun q => absurd (by decide) q)
  refine wp_ldc2 dX11_netHeat_16 kX11_195 ?_
  exact wp_lret dX11_netHeat_19 rfl (e1)

theorem iiC_conductance {G : Cx} {d : Nat} {m : Mm} {Q : Option Value → Mm → Prop} {i j n : Nat}  (hF : Full G m) (hn : fi m 5 (gB G + 1) = nI (n + 1)) (hm : n + 1 ≤ 12) (hi : i < n + 1) (hj : j < n + 1) 
    (e1 : WPM G (d + 5) (0, 0) μX0_placeOfLink [.ref (gB G + 1), .int (nI i), .int (nI j)] m (fun r' m' => WP G (d + 6) (0, 0) μX10_conductance 34 [.ref (gB G), lvU, lvU, lvU] (r'.toList ++ []) m' Q)) :
    WPM G (d + 6) (0, 0) μX10_conductance [.ref (gB G), .int (nI i), .int (nI j)] m Q := by
  refine WPM.of pX10 (Nat.le_of_ble_eq_true rfl) rfl ?_
  refine wp_aload_n dX10_conductance_0 rfl ?_
  refine wp_getr (gB G + 1) dX10_conductance_1 fX10_10 (ka0 hF) (hF.2 _ _) (rra 1 (isK_le (ka0 hF)) (fun _ => rfl)) ?_
  refine wp_iload_n dX10_conductance_4 rfl ?_
  refine wp_callV (As := [.int (nI i)]) (S := []) (b' := (0, 0)) (b := (0, 0)) dX10_conductance_5 MX10_58 (kc0 hF (isC1 G)) rfl rfl rfl rfl (Nat.le_of_ble_eq_true rfl) ?_
  refine WPM.of pX0 (Nat.le_of_ble_eq_true rfl) rfl ?_
  refine wp_iload_n dX0_hasNode_0 rfl ?_
  refine wp_if_lt 16 dX0_hasNode_1 (by decide) (fun q => absurd q (nI_pos (by omega))) (fun _ => ?_)
  refine wp_iload_n dX0_hasNode_4 rfl ?_
  refine wp_aload_n dX0_hasNode_5 rfl ?_
  refine wp_geti (nI (n + 1)) dX0_hasNode_6 fX0_75 (Or.inl rfl) (kc0 hF (isC1 G)) hn ?_
  refine wp_icmp_ge 16 dX0_hasNode_9 (by decide) (fun q => absurd (nlt_ (a := i) (b := n + 1) hi (by omega)) q) (fun _ => ?_)
  refine wp_iconst (1 : Int32) dX0_hasNode_12 (by decide) ?_
  refine wp_goto 17 dX0_hasNode_13 (by decide) ?_
  refine wp_zret dX0_hasNode_17 rfl rfl ?_
  show WP G (d + 6) (0, 0) μX10_conductance 8 [.ref (gB G), .int (nI i), .int (nI j), lvU] [.int (1 : Int32)] m _
  refine wp_if_eq 22 dX10_conductance_8 (by decide) (fun q => absurd q (by decide)) (fun _ => ?_)
  refine wp_aload_n dX10_conductance_11 rfl ?_
  refine wp_getr (gB G + 1) dX10_conductance_12 fX10_10 (ka0 hF) (hF.2 _ _) (rra 1 (isK_le (ka0 hF)) (fun _ => rfl)) ?_
  refine wp_iload_n dX10_conductance_15 rfl ?_
  refine wp_callV (As := [.int (nI j)]) (S := []) (b' := (0, 0)) (b := (0, 0)) dX10_conductance_16 MX10_58 (kc0 hF (isC1 G)) rfl rfl rfl rfl (Nat.le_of_ble_eq_true rfl) ?_
  refine WPM.of pX0 (Nat.le_of_ble_eq_true rfl) rfl ?_
  refine wp_iload_n dX0_hasNode_0 rfl ?_
  refine wp_if_lt 16 dX0_hasNode_1 (by decide) (fun q => absurd q (nI_pos (by omega))) (fun _ => ?_)
  refine wp_iload_n dX0_hasNode_4 rfl ?_
  refine wp_aload_n dX0_hasNode_5 rfl ?_
  refine wp_geti (nI (n + 1)) dX0_hasNode_6 fX0_75 (Or.inl rfl) (kc0 hF (isC1 G)) hn ?_
  refine wp_icmp_ge 16 dX0_hasNode_9 (by decide) (fun q => absurd (nlt_ (a := j) (b := n + 1) hj (by omega)) q) (fun _ => ?_)
  refine wp_iconst (1 : Int32) dX0_hasNode_12 (by decide) ?_
  refine wp_goto 17 dX0_hasNode_13 (by decide) ?_
  refine wp_zret dX0_hasNode_17 rfl rfl ?_
  show WP G (d + 6) (0, 0) μX10_conductance 19 [.ref (gB G), .int (nI i), .int (nI j), lvU] [.int (1 : Int32)] m _
  refine wp_if_ne 25 dX10_conductance_19 (by decide) (fun _ => ?_) (fun q => absurd q (by decide))
  refine wp_aload_n dX10_conductance_25 rfl ?_
  refine wp_getr (gB G + 1) dX10_conductance_26 fX10_10 (ka0 hF) (hF.2 _ _) (rra 1 (isK_le (ka0 hF)) (fun _ => rfl)) ?_
  refine wp_iload_n dX10_conductance_29 rfl ?_
  refine wp_iload_n dX10_conductance_30 rfl ?_
  refine wp_forget [.ref (gB G), lvU, lvU, lvU] ⟨Or.inl rfl, Or.inr rfl, Or.inr rfl, Or.inr rfl, trivial⟩ ?_
  refine wp_callV (As := [.int (nI i), .int (nI j)]) (S := []) (b' := (0, 0)) (b := (0, 0)) dX10_conductance_31 MX10_75 (kc0 hF (isC1 G)) rfl rfl rfl rfl (Nat.le_of_ble_eq_true rfl) ?_
  exact e1

theorem jC_conductance0 {G : Cx} {d : Nat} {m : Mm} {Q : Option Value → Mm → Prop}  (hF : Full G m) 
    (e1 : Q (some (.int (0 : Int32))) m) :
    WP G (d + 6) (0, 0) μX10_conductance 34 [.ref (gB G), lvU, lvU, lvU] [.int (-1 : Int32)] m Q := by
  refine wp_istore_n dX10_conductance_34 (by decide) rfl ?_
  refine wp_iload_n dX10_conductance_35 rfl ?_
  refine wp_iconst (-1 : Int32) dX10_conductance_36 (by decide) ?_
  refine wp_icmp_ne 44 dX10_conductance_37 (by decide) (fun q => absurd (by decide) q) (fun _ => ?_)
  refine wp_iconst (0 : Int32) dX10_conductance_40 (by decide) ?_
  refine wp_goto 56 dX10_conductance_41 (by decide) ?_
  exact wp_iret dX10_conductance_56 rfl (e1)

theorem jC_conductance1 {G : Cx} {d : Nat} {m : Mm} {Q : Option Value → Mm → Prop} {p : Nat} (hF : Full G m) (hp : p < 24)
    (e1 : ¬ (nI p) = (-1 : Int32) → Q (some (.int (fi m 202 (lk (gB G + 1) p)))) m)
    (e2 : (nI p) = (-1 : Int32) → Q (some (.int (0 : Int32))) m) :
    WP G (d + 6) (0, 0) μX10_conductance 34 [.ref (gB G), lvU, lvU, lvU] [.int (nI p)] m Q := by
  refine wp_istore_n dX10_conductance_34 (by decide) rfl ?_
  refine wp_iload_n dX10_conductance_35 rfl ?_
  refine wp_iconst (-1 : Int32) dX10_conductance_36 (by decide) ?_
  refine wp_icmp_ne 44 dX10_conductance_37 (by decide) (fun q1 => ?_) (fun q2 => ?_)
  · skip
    refine wp_aload_n dX10_conductance_44 rfl ?_
    refine wp_getr (gB G + 1) dX10_conductance_45 fX10_10 (ka0 hF) (hF.2 _ _) (rra 1 (isK_le (ka0 hF)) (fun _ => rfl)) ?_
    refine wp_getr ((gB G + 1) + 2) dX10_conductance_48 fX10_83 (kc0 hF (isC1 G)) (hF.2 _ _) (rra 2 (isK_le (kc0 hF (isC1 G))) (fun _ => rfl)) ?_
    refine wp_iload_n dX10_conductance_51 rfl ?_
    refine wp_raldk (n := 24) p (lk (gB G + 1) p) dX10_conductance_52 (kc hF (isC1 G) 2 (by decide)) (by decide) (by decide) (lc (isC1 G) 2 (by decide)) (vin (by omega) (by decide)) (nIc (by omega)) (hF.2 _ _) (rlk hF (isC1 G)) ?_
    refine wp_geti (fi m 202 (lk (gB G + 1) p)) dX10_conductance_53 fX10_87 (Or.inl rfl) (klk hF (isC1 G) (by omega)) rfl ?_
    exact wp_iret dX10_conductance_56 rfl (e1 q1)
  · skip
    refine wp_iconst (0 : Int32) dX10_conductance_40 (by decide) ?_
    refine wp_goto 56 dX10_conductance_41 (by decide) ?_
    exact wp_iret dX10_conductance_56 rfl (e2 q2)

theorem iiM_conductance {G : Cx} {d : Nat} {m : Mm} {Q : Option Value → Mm → Prop} {i j n : Nat}  (hF : Full G m) (hn : ai m (gB G + 294) 12 = nI (n + 1)) (hm : n + 1 ≤ 12) (hi : i < n + 1) (hj : j < n + 1) 
    (e1 : Q (some (.int (ai m (gB G + 294) (12 * i + j + 152)))) m) :
    WPM G (d + 6) (0, 0) μX11_conductance [.ref (gB G + 293), .int (nI i), .int (nI j)] m Q := by
  refine WPM.of pX11 (Nat.le_of_ble_eq_true rfl) rfl ?_
  refine wp_aload_n dX11_conductance_0 rfl ?_
  refine wp_iload_n dX11_conductance_1 rfl ?_
  refine wp_callV (As := [.int (nI i)]) (S := []) (b' := (0, 0)) (b := (0, 0)) dX11_conductance_2 MX11_93 (ka hF 293 (by decide)) rfl rfl rfl rfl (Nat.le_of_ble_eq_true rfl) ?_
  refine WPM.of pX11 (Nat.le_of_ble_eq_true rfl) rfl ?_
  refine wp_iload_n dX11_isNode_0 rfl ?_
  refine wp_iconst (0 : Int32) dX11_isNode_1 (by decide) ?_
  refine wp_aload_n dX11_isNode_2 rfl ?_
  refine wp_getr (gB G + 294) dX11_isNode_3 fX11_7 (ka hF 293 (by decide)) (hF.2 _ _) (rra 1 (isK_le (ka hF 293 (by decide))) (fun _ => rfl)) ?_
  refine wp_bipush (12 : Int32) dX11_isNode_6 (by decide) ?_
  refine wp_ialdk (n := 1486) 12 (nI (n + 1)) dX11_isNode_8 (ka hF 294 (by decide)) (la 294) (vinl (by decide)) rfl hn ?_
  refine wp_iconst (1 : Int32) dX11_isNode_9 (by decide) ?_
  refine wp_isubv (nI n) dX11_isNode_10 (nsub (a := n + 1) (b := 1) (by omega)) ?_
  refine wp_callS (As := [.int (nI i), .int (0 : Int32), .int (nI n)]) (S := []) (b' := (0, 0)) (b := (0, 0)) dX11_isNode_11 MX11_67 rfl rfl (Nat.le_of_ble_eq_true rfl) ?_
  refine WPM.of pX11 (Nat.le_of_ble_eq_true rfl) rfl ?_
  refine wp_iload_n dX11_isBetween_0 rfl ?_
  refine wp_iload_n dX11_isBetween_1 rfl ?_
  refine wp_icmp_lt 14 dX11_isBetween_2 (by decide) (fun q => absurd q (nI_pos (by omega))) (fun _ => ?_)
  refine wp_iload_n dX11_isBetween_5 rfl ?_
  refine wp_iload_n dX11_isBetween_6 rfl ?_
  refine wp_icmp_gt 14 dX11_isBetween_7 (by decide) (fun q => absurd q (fun z => (show ¬ n < i by omega) (nlt (a := n) (b := i) z (by omega) (by omega)))) (fun _ => ?_)
  refine wp_iconst (1 : Int32) dX11_isBetween_10 (by decide) ?_
  refine wp_goto 15 dX11_isBetween_11 (by decide) ?_
  refine wp_zret dX11_isBetween_15 rfl rfl ?_
  show WP G (d + 5) (0, 0) μX11_isNode 14 [.ref (gB G + 293), .int (nI i)] [.int (1 : Int32)] m _
  refine wp_zret dX11_isNode_14 rfl rfl ?_
  show WP G (d + 6) (0, 0) μX11_conductance 5 [.ref (gB G + 293), .int (nI i), .int (nI j)] [.int (1 : Int32)] m _
  refine wp_if_eq 25 dX11_conductance_5 (by decide) (fun q => absurd q (by decide)) (fun _ => ?_)
  refine wp_aload_n dX11_conductance_8 rfl ?_
  refine wp_iload_n dX11_conductance_9 rfl ?_
  refine wp_callV (As := [.int (nI j)]) (S := []) (b' := (0, 0)) (b := (0, 0)) dX11_conductance_10 MX11_93 (ka hF 293 (by decide)) rfl rfl rfl rfl (Nat.le_of_ble_eq_true rfl) ?_
  refine WPM.of pX11 (Nat.le_of_ble_eq_true rfl) rfl ?_
  refine wp_iload_n dX11_isNode_0 rfl ?_
  refine wp_iconst (0 : Int32) dX11_isNode_1 (by decide) ?_
  refine wp_aload_n dX11_isNode_2 rfl ?_
  refine wp_getr (gB G + 294) dX11_isNode_3 fX11_7 (ka hF 293 (by decide)) (hF.2 _ _) (rra 1 (isK_le (ka hF 293 (by decide))) (fun _ => rfl)) ?_
  refine wp_bipush (12 : Int32) dX11_isNode_6 (by decide) ?_
  refine wp_ialdk (n := 1486) 12 (nI (n + 1)) dX11_isNode_8 (ka hF 294 (by decide)) (la 294) (vinl (by decide)) rfl hn ?_
  refine wp_iconst (1 : Int32) dX11_isNode_9 (by decide) ?_
  refine wp_isubv (nI n) dX11_isNode_10 (nsub (a := n + 1) (b := 1) (by omega)) ?_
  refine wp_callS (As := [.int (nI j), .int (0 : Int32), .int (nI n)]) (S := []) (b' := (0, 0)) (b := (0, 0)) dX11_isNode_11 MX11_67 rfl rfl (Nat.le_of_ble_eq_true rfl) ?_
  refine WPM.of pX11 (Nat.le_of_ble_eq_true rfl) rfl ?_
  refine wp_iload_n dX11_isBetween_0 rfl ?_
  refine wp_iload_n dX11_isBetween_1 rfl ?_
  refine wp_icmp_lt 14 dX11_isBetween_2 (by decide) (fun q => absurd q (nI_pos (by omega))) (fun _ => ?_)
  refine wp_iload_n dX11_isBetween_5 rfl ?_
  refine wp_iload_n dX11_isBetween_6 rfl ?_
  refine wp_icmp_gt 14 dX11_isBetween_7 (by decide) (fun q => absurd q (fun z => (show ¬ n < j by omega) (nlt (a := n) (b := j) z (by omega) (by omega)))) (fun _ => ?_)
  refine wp_iconst (1 : Int32) dX11_isBetween_10 (by decide) ?_
  refine wp_goto 15 dX11_isBetween_11 (by decide) ?_
  refine wp_zret dX11_isBetween_15 rfl rfl ?_
  show WP G (d + 5) (0, 0) μX11_isNode 14 [.ref (gB G + 293), .int (nI j)] [.int (1 : Int32)] m _
  refine wp_zret dX11_isNode_14 rfl rfl ?_
  show WP G (d + 6) (0, 0) μX11_conductance 13 [.ref (gB G + 293), .int (nI i), .int (nI j)] [.int (1 : Int32)] m _
  refine wp_if_eq 25 dX11_conductance_13 (by decide) (fun q => absurd q (by decide)) (fun _ => ?_)
  refine wp_aload_n dX11_conductance_16 rfl ?_
  refine wp_iload_n dX11_conductance_17 rfl ?_
  refine wp_iload_n dX11_conductance_18 rfl ?_
  refine wp_callV (As := [.int (nI i), .int (nI j)]) (S := []) (b' := (0, 0)) (b := (0, 0)) dX11_conductance_19 MX11_101 (ka hF 293 (by decide)) rfl rfl rfl rfl (Nat.le_of_ble_eq_true rfl) ?_
  refine WPM.of pX11 (Nat.le_of_ble_eq_true rfl) rfl ?_
  refine wp_aload_n dX11_linkOf_0 rfl ?_
  refine wp_getr (gB G + 294) dX11_linkOf_1 fX11_7 (ka hF 293 (by decide)) (hF.2 _ _) (rra 1 (isK_le (ka hF 293 (by decide))) (fun _ => rfl)) ?_
  refine wp_sipush (152 : Int32) dX11_linkOf_4 (by decide) ?_
  refine wp_bipush (12 : Int32) dX11_linkOf_7 (by decide) ?_
  refine wp_iload_n dX11_linkOf_9 rfl ?_
  refine wp_imulv (nI (12 * i)) dX11_linkOf_10 (nmul (a := 12) (b := i) (by omega)) ?_
  refine wp_iaddv (nI (12 * i + 152)) dX11_linkOf_11 (nadd (a := 152) (b := 12 * i) (by omega)) ?_
  refine wp_iload_n dX11_linkOf_12 rfl ?_
  refine wp_iaddv (nI (12 * i + j + 152)) dX11_linkOf_13 (nadd (a := 12 * i + 152) (b := j) (by omega)) ?_
  refine wp_ialdk (n := 1486) (12 * i + j + 152) (ai m (gB G + 294) (12 * i + j + 152)) dX11_linkOf_14 (ka hF 294 (by decide)) (la 294) (vin (by omega) (by decide)) (nIc (by omega)) rfl ?_
  refine wp_iret dX11_linkOf_15 rfl ?_
  show WP G (d + 6) (0, 0) μX11_conductance 22 [.ref (gB G + 293), .int (nI i), .int (nI j)] [.int (ai m (gB G + 294) (12 * i + j + 152))] m _
  refine wp_goto 27 dX11_conductance_22 (by decide) ?_
  exact wp_iret dX11_conductance_27 rfl (e1)

theorem aC_conductance {G : Cx} {d : Nat} {m : Mm} {Q : Option Value → Mm → Prop} {x y : Int32} {n : Nat}  (hF : Full G m) (hn : fi m 5 (gB G + 1) = nI n) (hm : n ≤ 12) (hx : x < 0) 
    (e1 : Q (some (.int (-1000000001 : Int32))) m) :
    WPM G (d + 6) (0, 0) μX10_conductance [.ref (gB G), .int x, .int y] m Q := by
  refine WPM.of pX10 (Nat.le_of_ble_eq_true rfl) rfl ?_
  refine wp_aload_n dX10_conductance_0 rfl ?_
  refine wp_getr (gB G + 1) dX10_conductance_1 fX10_10 (ka0 hF) (hF.2 _ _) (rra 1 (isK_le (ka0 hF)) (fun _ => rfl)) ?_
  refine wp_iload_n dX10_conductance_4 rfl ?_
  refine wp_callV (As := [.int x]) (S := []) (b' := (0, 0)) (b := (0, 0)) dX10_conductance_5 MX10_58 (kc0 hF (isC1 G)) rfl rfl rfl rfl (Nat.le_of_ble_eq_true rfl) ?_
  refine WPM.of pX0 (Nat.le_of_ble_eq_true rfl) rfl ?_
  refine wp_iload_n dX0_hasNode_0 rfl ?_
  refine wp_if_lt 16 dX0_hasNode_1 (by decide) (fun _ => ?_) (fun q => absurd hx q)
  refine wp_iconst (0 : Int32) dX0_hasNode_16 (by decide) ?_
  refine wp_zret dX0_hasNode_17 rfl rfl ?_
  show WP G (d + 6) (0, 0) μX10_conductance 8 [.ref (gB G), .int x, .int y, lvU] [.int (0 : Int32)] m _
  refine wp_if_eq 22 dX10_conductance_8 (by decide) (fun _ => ?_) (fun q => absurd (by decide) q)
  refine wp_ldc dX10_conductance_22 kX10_62 ?_
  exact wp_iret dX10_conductance_24 rfl (e1)

theorem aM_conductance {G : Cx} {d : Nat} {m : Mm} {Q : Option Value → Mm → Prop} {x y : Int32} {n : Nat}  (hF : Full G m) (hn : ai m (gB G + 294) 12 = nI n) (hm : n ≤ 12) (hx : x < 0) 
    (e1 : Q (some (.int (-1000000001 : Int32))) m) :
    WPM G (d + 6) (0, 0) μX11_conductance [.ref (gB G + 293), .int x, .int y] m Q := by
  refine WPM.of pX11 (Nat.le_of_ble_eq_true rfl) rfl ?_
  refine wp_aload_n dX11_conductance_0 rfl ?_
  refine wp_iload_n dX11_conductance_1 rfl ?_
  refine wp_callV (As := [.int x]) (S := []) (b' := (0, 0)) (b := (0, 0)) dX11_conductance_2 MX11_93 (ka hF 293 (by decide)) rfl rfl rfl rfl (Nat.le_of_ble_eq_true rfl) ?_
  refine WPM.of pX11 (Nat.le_of_ble_eq_true rfl) rfl ?_
  refine wp_iload_n dX11_isNode_0 rfl ?_
  refine wp_iconst (0 : Int32) dX11_isNode_1 (by decide) ?_
  refine wp_aload_n dX11_isNode_2 rfl ?_
  refine wp_getr (gB G + 294) dX11_isNode_3 fX11_7 (ka hF 293 (by decide)) (hF.2 _ _) (rra 1 (isK_le (ka hF 293 (by decide))) (fun _ => rfl)) ?_
  refine wp_bipush (12 : Int32) dX11_isNode_6 (by decide) ?_
  refine wp_ialdk (n := 1486) 12 (nI n) dX11_isNode_8 (ka hF 294 (by decide)) (la 294) (vinl (by decide)) rfl hn ?_
  refine wp_iconst (1 : Int32) dX11_isNode_9 (by decide) ?_
  refine wp_isubv ((nI n) - (1 : Int32)) dX11_isNode_10 rfl ?_
  refine wp_callS (As := [.int x, .int (0 : Int32), .int ((nI n) - (1 : Int32))]) (S := []) (b' := (0, 0)) (b := (0, 0)) dX11_isNode_11 MX11_67 rfl rfl (Nat.le_of_ble_eq_true rfl) ?_
  refine WPM.of pX11 (Nat.le_of_ble_eq_true rfl) rfl ?_
  refine wp_iload_n dX11_isBetween_0 rfl ?_
  refine wp_iload_n dX11_isBetween_1 rfl ?_
  refine wp_icmp_lt 14 dX11_isBetween_2 (by decide) (fun _ => ?_) (fun q => absurd hx q)
  refine wp_iconst (0 : Int32) dX11_isBetween_14 (by decide) ?_
  refine wp_zret dX11_isBetween_15 rfl rfl ?_
  show WP G (d + 5) (0, 0) μX11_isNode 14 [.ref (gB G + 293), .int x] [.int (0 : Int32)] m _
  refine wp_zret dX11_isNode_14 rfl rfl ?_
  show WP G (d + 6) (0, 0) μX11_conductance 5 [.ref (gB G + 293), .int x, .int y] [.int (0 : Int32)] m _
  refine wp_if_eq 25 dX11_conductance_5 (by decide) (fun _ => ?_) (fun q => absurd (by decide) q)
  refine wp_ldc dX11_conductance_25 kX11_96 ?_
  exact wp_iret dX11_conductance_27 rfl (e1)

theorem bC_conductance {G : Cx} {d : Nat} {m : Mm} {Q : Option Value → Mm → Prop} {x y : Int32} {n : Nat}  (hF : Full G m) (hn : fi m 5 (gB G + 1) = nI n) (hm : n ≤ 12) (hxa : ¬ x < 0) (hxb : ¬ x < nI n) 
    (e1 : Q (some (.int (-1000000001 : Int32))) m) :
    WPM G (d + 6) (0, 0) μX10_conductance [.ref (gB G), .int x, .int y] m Q := by
  refine WPM.of pX10 (Nat.le_of_ble_eq_true rfl) rfl ?_
  refine wp_aload_n dX10_conductance_0 rfl ?_
  refine wp_getr (gB G + 1) dX10_conductance_1 fX10_10 (ka0 hF) (hF.2 _ _) (rra 1 (isK_le (ka0 hF)) (fun _ => rfl)) ?_
  refine wp_iload_n dX10_conductance_4 rfl ?_
  refine wp_callV (As := [.int x]) (S := []) (b' := (0, 0)) (b := (0, 0)) dX10_conductance_5 MX10_58 (kc0 hF (isC1 G)) rfl rfl rfl rfl (Nat.le_of_ble_eq_true rfl) ?_
  refine WPM.of pX0 (Nat.le_of_ble_eq_true rfl) rfl ?_
  refine wp_iload_n dX0_hasNode_0 rfl ?_
  refine wp_if_lt 16 dX0_hasNode_1 (by decide) (fun q => absurd q hxa) (fun _ => ?_)
  refine wp_iload_n dX0_hasNode_4 rfl ?_
  refine wp_aload_n dX0_hasNode_5 rfl ?_
  refine wp_geti (nI n) dX0_hasNode_6 fX0_75 (Or.inl rfl) (kc0 hF (isC1 G)) hn ?_
  refine wp_icmp_ge 16 dX0_hasNode_9 (by decide) (fun _ => ?_) (fun q => absurd q hxb)
  refine wp_iconst (0 : Int32) dX0_hasNode_16 (by decide) ?_
  refine wp_zret dX0_hasNode_17 rfl rfl ?_
  show WP G (d + 6) (0, 0) μX10_conductance 8 [.ref (gB G), .int x, .int y, lvU] [.int (0 : Int32)] m _
  refine wp_if_eq 22 dX10_conductance_8 (by decide) (fun _ => ?_) (fun q => absurd (by decide) q)
  refine wp_ldc dX10_conductance_22 kX10_62 ?_
  exact wp_iret dX10_conductance_24 rfl (e1)

theorem bM_conductance {G : Cx} {d : Nat} {m : Mm} {Q : Option Value → Mm → Prop} {x y : Int32} {n : Nat}  (hF : Full G m) (hn : ai m (gB G + 294) 12 = nI n) (hm : n ≤ 12) (hxa : ¬ x < 0) (hxb : ¬ x < nI n) 
    (e1 : Q (some (.int (-1000000001 : Int32))) m) :
    WPM G (d + 6) (0, 0) μX11_conductance [.ref (gB G + 293), .int x, .int y] m Q := by
  refine WPM.of pX11 (Nat.le_of_ble_eq_true rfl) rfl ?_
  refine wp_aload_n dX11_conductance_0 rfl ?_
  refine wp_iload_n dX11_conductance_1 rfl ?_
  refine wp_callV (As := [.int x]) (S := []) (b' := (0, 0)) (b := (0, 0)) dX11_conductance_2 MX11_93 (ka hF 293 (by decide)) rfl rfl rfl rfl (Nat.le_of_ble_eq_true rfl) ?_
  refine WPM.of pX11 (Nat.le_of_ble_eq_true rfl) rfl ?_
  refine wp_iload_n dX11_isNode_0 rfl ?_
  refine wp_iconst (0 : Int32) dX11_isNode_1 (by decide) ?_
  refine wp_aload_n dX11_isNode_2 rfl ?_
  refine wp_getr (gB G + 294) dX11_isNode_3 fX11_7 (ka hF 293 (by decide)) (hF.2 _ _) (rra 1 (isK_le (ka hF 293 (by decide))) (fun _ => rfl)) ?_
  refine wp_bipush (12 : Int32) dX11_isNode_6 (by decide) ?_
  refine wp_ialdk (n := 1486) 12 (nI n) dX11_isNode_8 (ka hF 294 (by decide)) (la 294) (vinl (by decide)) rfl hn ?_
  refine wp_iconst (1 : Int32) dX11_isNode_9 (by decide) ?_
  refine wp_isubv ((nI n) - (1 : Int32)) dX11_isNode_10 rfl ?_
  refine wp_callS (As := [.int x, .int (0 : Int32), .int ((nI n) - (1 : Int32))]) (S := []) (b' := (0, 0)) (b := (0, 0)) dX11_isNode_11 MX11_67 rfl rfl (Nat.le_of_ble_eq_true rfl) ?_
  refine WPM.of pX11 (Nat.le_of_ble_eq_true rfl) rfl ?_
  refine wp_iload_n dX11_isBetween_0 rfl ?_
  refine wp_iload_n dX11_isBetween_1 rfl ?_
  refine wp_icmp_lt 14 dX11_isBetween_2 (by decide) (fun q => absurd q hxa) (fun _ => ?_)
  refine wp_iload_n dX11_isBetween_5 rfl ?_
  refine wp_iload_n dX11_isBetween_6 rfl ?_
  refine wp_icmp_gt 14 dX11_isBetween_7 (by decide) (fun _ => ?_) (fun q => absurd (sub_lt (by omega) hxa hxb) q)
  refine wp_iconst (0 : Int32) dX11_isBetween_14 (by decide) ?_
  refine wp_zret dX11_isBetween_15 rfl rfl ?_
  show WP G (d + 5) (0, 0) μX11_isNode 14 [.ref (gB G + 293), .int x] [.int (0 : Int32)] m _
  refine wp_zret dX11_isNode_14 rfl rfl ?_
  show WP G (d + 6) (0, 0) μX11_conductance 5 [.ref (gB G + 293), .int x, .int y] [.int (0 : Int32)] m _
  refine wp_if_eq 25 dX11_conductance_5 (by decide) (fun _ => ?_) (fun q => absurd (by decide) q)
  refine wp_ldc dX11_conductance_25 kX11_96 ?_
  exact wp_iret dX11_conductance_27 rfl (e1)

theorem iaC_conductance {G : Cx} {d : Nat} {m : Mm} {Q : Option Value → Mm → Prop} {y : Int32} {i n : Nat}  (hF : Full G m) (hn : fi m 5 (gB G + 1) = nI (n + 1)) (hm : n + 1 ≤ 12) (hi : i < n + 1) (hy : y < 0) 
    (e1 : Q (some (.int (-1000000001 : Int32))) m) :
    WPM G (d + 6) (0, 0) μX10_conductance [.ref (gB G), .int (nI i), .int y] m Q := by
  refine WPM.of pX10 (Nat.le_of_ble_eq_true rfl) rfl ?_
  refine wp_aload_n dX10_conductance_0 rfl ?_
  refine wp_getr (gB G + 1) dX10_conductance_1 fX10_10 (ka0 hF) (hF.2 _ _) (rra 1 (isK_le (ka0 hF)) (fun _ => rfl)) ?_
  refine wp_iload_n dX10_conductance_4 rfl ?_
  refine wp_callV (As := [.int (nI i)]) (S := []) (b' := (0, 0)) (b := (0, 0)) dX10_conductance_5 MX10_58 (kc0 hF (isC1 G)) rfl rfl rfl rfl (Nat.le_of_ble_eq_true rfl) ?_
  refine WPM.of pX0 (Nat.le_of_ble_eq_true rfl) rfl ?_
  refine wp_iload_n dX0_hasNode_0 rfl ?_
  refine wp_if_lt 16 dX0_hasNode_1 (by decide) (fun q => absurd q (nI_pos (by omega))) (fun _ => ?_)
  refine wp_iload_n dX0_hasNode_4 rfl ?_
  refine wp_aload_n dX0_hasNode_5 rfl ?_
  refine wp_geti (nI (n + 1)) dX0_hasNode_6 fX0_75 (Or.inl rfl) (kc0 hF (isC1 G)) hn ?_
  refine wp_icmp_ge 16 dX0_hasNode_9 (by decide) (fun q => absurd (nlt_ (a := i) (b := n + 1) hi (by omega)) q) (fun _ => ?_)
  refine wp_iconst (1 : Int32) dX0_hasNode_12 (by decide) ?_
  refine wp_goto 17 dX0_hasNode_13 (by decide) ?_
  refine wp_zret dX0_hasNode_17 rfl rfl ?_
  show WP G (d + 6) (0, 0) μX10_conductance 8 [.ref (gB G), .int (nI i), .int y, lvU] [.int (1 : Int32)] m _
  refine wp_if_eq 22 dX10_conductance_8 (by decide) (fun q => absurd q (by decide)) (fun _ => ?_)
  refine wp_aload_n dX10_conductance_11 rfl ?_
  refine wp_getr (gB G + 1) dX10_conductance_12 fX10_10 (ka0 hF) (hF.2 _ _) (rra 1 (isK_le (ka0 hF)) (fun _ => rfl)) ?_
  refine wp_iload_n dX10_conductance_15 rfl ?_
  refine wp_callV (As := [.int y]) (S := []) (b' := (0, 0)) (b := (0, 0)) dX10_conductance_16 MX10_58 (kc0 hF (isC1 G)) rfl rfl rfl rfl (Nat.le_of_ble_eq_true rfl) ?_
  refine WPM.of pX0 (Nat.le_of_ble_eq_true rfl) rfl ?_
  refine wp_iload_n dX0_hasNode_0 rfl ?_
  refine wp_if_lt 16 dX0_hasNode_1 (by decide) (fun _ => ?_) (fun q => absurd hy q)
  refine wp_iconst (0 : Int32) dX0_hasNode_16 (by decide) ?_
  refine wp_zret dX0_hasNode_17 rfl rfl ?_
  show WP G (d + 6) (0, 0) μX10_conductance 19 [.ref (gB G), .int (nI i), .int y, lvU] [.int (0 : Int32)] m _
  refine wp_if_ne 25 dX10_conductance_19 (by decide) (fun q => absurd (by decide) q) (fun _ => ?_)
  refine wp_ldc dX10_conductance_22 kX10_62 ?_
  exact wp_iret dX10_conductance_24 rfl (e1)

theorem iaM_conductance {G : Cx} {d : Nat} {m : Mm} {Q : Option Value → Mm → Prop} {y : Int32} {i n : Nat}  (hF : Full G m) (hn : ai m (gB G + 294) 12 = nI (n + 1)) (hm : n + 1 ≤ 12) (hi : i < n + 1) (hy : y < 0) 
    (e1 : Q (some (.int (-1000000001 : Int32))) m) :
    WPM G (d + 6) (0, 0) μX11_conductance [.ref (gB G + 293), .int (nI i), .int y] m Q := by
  refine WPM.of pX11 (Nat.le_of_ble_eq_true rfl) rfl ?_
  refine wp_aload_n dX11_conductance_0 rfl ?_
  refine wp_iload_n dX11_conductance_1 rfl ?_
  refine wp_callV (As := [.int (nI i)]) (S := []) (b' := (0, 0)) (b := (0, 0)) dX11_conductance_2 MX11_93 (ka hF 293 (by decide)) rfl rfl rfl rfl (Nat.le_of_ble_eq_true rfl) ?_
  refine WPM.of pX11 (Nat.le_of_ble_eq_true rfl) rfl ?_
  refine wp_iload_n dX11_isNode_0 rfl ?_
  refine wp_iconst (0 : Int32) dX11_isNode_1 (by decide) ?_
  refine wp_aload_n dX11_isNode_2 rfl ?_
  refine wp_getr (gB G + 294) dX11_isNode_3 fX11_7 (ka hF 293 (by decide)) (hF.2 _ _) (rra 1 (isK_le (ka hF 293 (by decide))) (fun _ => rfl)) ?_
  refine wp_bipush (12 : Int32) dX11_isNode_6 (by decide) ?_
  refine wp_ialdk (n := 1486) 12 (nI (n + 1)) dX11_isNode_8 (ka hF 294 (by decide)) (la 294) (vinl (by decide)) rfl hn ?_
  refine wp_iconst (1 : Int32) dX11_isNode_9 (by decide) ?_
  refine wp_isubv (nI n) dX11_isNode_10 (nsub (a := n + 1) (b := 1) (by omega)) ?_
  refine wp_callS (As := [.int (nI i), .int (0 : Int32), .int (nI n)]) (S := []) (b' := (0, 0)) (b := (0, 0)) dX11_isNode_11 MX11_67 rfl rfl (Nat.le_of_ble_eq_true rfl) ?_
  refine WPM.of pX11 (Nat.le_of_ble_eq_true rfl) rfl ?_
  refine wp_iload_n dX11_isBetween_0 rfl ?_
  refine wp_iload_n dX11_isBetween_1 rfl ?_
  refine wp_icmp_lt 14 dX11_isBetween_2 (by decide) (fun q => absurd q (nI_pos (by omega))) (fun _ => ?_)
  refine wp_iload_n dX11_isBetween_5 rfl ?_
  refine wp_iload_n dX11_isBetween_6 rfl ?_
  refine wp_icmp_gt 14 dX11_isBetween_7 (by decide) (fun q => absurd q (fun z => (show ¬ n < i by omega) (nlt (a := n) (b := i) z (by omega) (by omega)))) (fun _ => ?_)
  refine wp_iconst (1 : Int32) dX11_isBetween_10 (by decide) ?_
  refine wp_goto 15 dX11_isBetween_11 (by decide) ?_
  refine wp_zret dX11_isBetween_15 rfl rfl ?_
  show WP G (d + 5) (0, 0) μX11_isNode 14 [.ref (gB G + 293), .int (nI i)] [.int (1 : Int32)] m _
  refine wp_zret dX11_isNode_14 rfl rfl ?_
  show WP G (d + 6) (0, 0) μX11_conductance 5 [.ref (gB G + 293), .int (nI i), .int y] [.int (1 : Int32)] m _
  refine wp_if_eq 25 dX11_conductance_5 (by decide) (fun q => absurd q (by decide)) (fun _ => ?_)
  refine wp_aload_n dX11_conductance_8 rfl ?_
  refine wp_iload_n dX11_conductance_9 rfl ?_
  refine wp_callV (As := [.int y]) (S := []) (b' := (0, 0)) (b := (0, 0)) dX11_conductance_10 MX11_93 (ka hF 293 (by decide)) rfl rfl rfl rfl (Nat.le_of_ble_eq_true rfl) ?_
  refine WPM.of pX11 (Nat.le_of_ble_eq_true rfl) rfl ?_
  refine wp_iload_n dX11_isNode_0 rfl ?_
  refine wp_iconst (0 : Int32) dX11_isNode_1 (by decide) ?_
  refine wp_aload_n dX11_isNode_2 rfl ?_
  refine wp_getr (gB G + 294) dX11_isNode_3 fX11_7 (ka hF 293 (by decide)) (hF.2 _ _) (rra 1 (isK_le (ka hF 293 (by decide))) (fun _ => rfl)) ?_
  refine wp_bipush (12 : Int32) dX11_isNode_6 (by decide) ?_
  refine wp_ialdk (n := 1486) 12 (nI (n + 1)) dX11_isNode_8 (ka hF 294 (by decide)) (la 294) (vinl (by decide)) rfl hn ?_
  refine wp_iconst (1 : Int32) dX11_isNode_9 (by decide) ?_
  refine wp_isubv (nI n) dX11_isNode_10 (nsub (a := n + 1) (b := 1) (by omega)) ?_
  refine wp_callS (As := [.int y, .int (0 : Int32), .int (nI n)]) (S := []) (b' := (0, 0)) (b := (0, 0)) dX11_isNode_11 MX11_67 rfl rfl (Nat.le_of_ble_eq_true rfl) ?_
  refine WPM.of pX11 (Nat.le_of_ble_eq_true rfl) rfl ?_
  refine wp_iload_n dX11_isBetween_0 rfl ?_
  refine wp_iload_n dX11_isBetween_1 rfl ?_
  refine wp_icmp_lt 14 dX11_isBetween_2 (by decide) (fun _ => ?_) (fun q => absurd hy q)
  refine wp_iconst (0 : Int32) dX11_isBetween_14 (by decide) ?_
  refine wp_zret dX11_isBetween_15 rfl rfl ?_
  show WP G (d + 5) (0, 0) μX11_isNode 14 [.ref (gB G + 293), .int y] [.int (0 : Int32)] m _
  refine wp_zret dX11_isNode_14 rfl rfl ?_
  show WP G (d + 6) (0, 0) μX11_conductance 13 [.ref (gB G + 293), .int (nI i), .int y] [.int (0 : Int32)] m _
  refine wp_if_eq 25 dX11_conductance_13 (by decide) (fun _ => ?_) (fun q => absurd (by decide) q)
  refine wp_ldc dX11_conductance_25 kX11_96 ?_
  exact wp_iret dX11_conductance_27 rfl (e1)

theorem ibC_conductance {G : Cx} {d : Nat} {m : Mm} {Q : Option Value → Mm → Prop} {y : Int32} {i n : Nat}  (hF : Full G m) (hn : fi m 5 (gB G + 1) = nI (n + 1)) (hm : n + 1 ≤ 12) (hi : i < n + 1) (hya : ¬ y < 0) (hyb : ¬ y < nI (n + 1)) 
    (e1 : Q (some (.int (-1000000001 : Int32))) m) :
    WPM G (d + 6) (0, 0) μX10_conductance [.ref (gB G), .int (nI i), .int y] m Q := by
  refine WPM.of pX10 (Nat.le_of_ble_eq_true rfl) rfl ?_
  refine wp_aload_n dX10_conductance_0 rfl ?_
  refine wp_getr (gB G + 1) dX10_conductance_1 fX10_10 (ka0 hF) (hF.2 _ _) (rra 1 (isK_le (ka0 hF)) (fun _ => rfl)) ?_
  refine wp_iload_n dX10_conductance_4 rfl ?_
  refine wp_callV (As := [.int (nI i)]) (S := []) (b' := (0, 0)) (b := (0, 0)) dX10_conductance_5 MX10_58 (kc0 hF (isC1 G)) rfl rfl rfl rfl (Nat.le_of_ble_eq_true rfl) ?_
  refine WPM.of pX0 (Nat.le_of_ble_eq_true rfl) rfl ?_
  refine wp_iload_n dX0_hasNode_0 rfl ?_
  refine wp_if_lt 16 dX0_hasNode_1 (by decide) (fun q => absurd q (nI_pos (by omega))) (fun _ => ?_)
  refine wp_iload_n dX0_hasNode_4 rfl ?_
  refine wp_aload_n dX0_hasNode_5 rfl ?_
  refine wp_geti (nI (n + 1)) dX0_hasNode_6 fX0_75 (Or.inl rfl) (kc0 hF (isC1 G)) hn ?_
  refine wp_icmp_ge 16 dX0_hasNode_9 (by decide) (fun q => absurd (nlt_ (a := i) (b := n + 1) hi (by omega)) q) (fun _ => ?_)
  refine wp_iconst (1 : Int32) dX0_hasNode_12 (by decide) ?_
  refine wp_goto 17 dX0_hasNode_13 (by decide) ?_
  refine wp_zret dX0_hasNode_17 rfl rfl ?_
  show WP G (d + 6) (0, 0) μX10_conductance 8 [.ref (gB G), .int (nI i), .int y, lvU] [.int (1 : Int32)] m _
  refine wp_if_eq 22 dX10_conductance_8 (by decide) (fun q => absurd q (by decide)) (fun _ => ?_)
  refine wp_aload_n dX10_conductance_11 rfl ?_
  refine wp_getr (gB G + 1) dX10_conductance_12 fX10_10 (ka0 hF) (hF.2 _ _) (rra 1 (isK_le (ka0 hF)) (fun _ => rfl)) ?_
  refine wp_iload_n dX10_conductance_15 rfl ?_
  refine wp_callV (As := [.int y]) (S := []) (b' := (0, 0)) (b := (0, 0)) dX10_conductance_16 MX10_58 (kc0 hF (isC1 G)) rfl rfl rfl rfl (Nat.le_of_ble_eq_true rfl) ?_
  refine WPM.of pX0 (Nat.le_of_ble_eq_true rfl) rfl ?_
  refine wp_iload_n dX0_hasNode_0 rfl ?_
  refine wp_if_lt 16 dX0_hasNode_1 (by decide) (fun q => absurd q hya) (fun _ => ?_)
  refine wp_iload_n dX0_hasNode_4 rfl ?_
  refine wp_aload_n dX0_hasNode_5 rfl ?_
  refine wp_geti (nI (n + 1)) dX0_hasNode_6 fX0_75 (Or.inl rfl) (kc0 hF (isC1 G)) hn ?_
  refine wp_icmp_ge 16 dX0_hasNode_9 (by decide) (fun _ => ?_) (fun q => absurd q hyb)
  refine wp_iconst (0 : Int32) dX0_hasNode_16 (by decide) ?_
  refine wp_zret dX0_hasNode_17 rfl rfl ?_
  show WP G (d + 6) (0, 0) μX10_conductance 19 [.ref (gB G), .int (nI i), .int y, lvU] [.int (0 : Int32)] m _
  refine wp_if_ne 25 dX10_conductance_19 (by decide) (fun q => absurd (by decide) q) (fun _ => ?_)
  refine wp_ldc dX10_conductance_22 kX10_62 ?_
  exact wp_iret dX10_conductance_24 rfl (e1)

theorem ibM_conductance {G : Cx} {d : Nat} {m : Mm} {Q : Option Value → Mm → Prop} {y : Int32} {i n : Nat}  (hF : Full G m) (hn : ai m (gB G + 294) 12 = nI (n + 1)) (hm : n + 1 ≤ 12) (hi : i < n + 1) (hya : ¬ y < 0) (hyb : ¬ y < nI (n + 1)) 
    (e1 : Q (some (.int (-1000000001 : Int32))) m) :
    WPM G (d + 6) (0, 0) μX11_conductance [.ref (gB G + 293), .int (nI i), .int y] m Q := by
  refine WPM.of pX11 (Nat.le_of_ble_eq_true rfl) rfl ?_
  refine wp_aload_n dX11_conductance_0 rfl ?_
  refine wp_iload_n dX11_conductance_1 rfl ?_
  refine wp_callV (As := [.int (nI i)]) (S := []) (b' := (0, 0)) (b := (0, 0)) dX11_conductance_2 MX11_93 (ka hF 293 (by decide)) rfl rfl rfl rfl (Nat.le_of_ble_eq_true rfl) ?_
  refine WPM.of pX11 (Nat.le_of_ble_eq_true rfl) rfl ?_
  refine wp_iload_n dX11_isNode_0 rfl ?_
  refine wp_iconst (0 : Int32) dX11_isNode_1 (by decide) ?_
  refine wp_aload_n dX11_isNode_2 rfl ?_
  refine wp_getr (gB G + 294) dX11_isNode_3 fX11_7 (ka hF 293 (by decide)) (hF.2 _ _) (rra 1 (isK_le (ka hF 293 (by decide))) (fun _ => rfl)) ?_
  refine wp_bipush (12 : Int32) dX11_isNode_6 (by decide) ?_
  refine wp_ialdk (n := 1486) 12 (nI (n + 1)) dX11_isNode_8 (ka hF 294 (by decide)) (la 294) (vinl (by decide)) rfl hn ?_
  refine wp_iconst (1 : Int32) dX11_isNode_9 (by decide) ?_
  refine wp_isubv (nI n) dX11_isNode_10 (nsub (a := n + 1) (b := 1) (by omega)) ?_
  refine wp_callS (As := [.int (nI i), .int (0 : Int32), .int (nI n)]) (S := []) (b' := (0, 0)) (b := (0, 0)) dX11_isNode_11 MX11_67 rfl rfl (Nat.le_of_ble_eq_true rfl) ?_
  refine WPM.of pX11 (Nat.le_of_ble_eq_true rfl) rfl ?_
  refine wp_iload_n dX11_isBetween_0 rfl ?_
  refine wp_iload_n dX11_isBetween_1 rfl ?_
  refine wp_icmp_lt 14 dX11_isBetween_2 (by decide) (fun q => absurd q (nI_pos (by omega))) (fun _ => ?_)
  refine wp_iload_n dX11_isBetween_5 rfl ?_
  refine wp_iload_n dX11_isBetween_6 rfl ?_
  refine wp_icmp_gt 14 dX11_isBetween_7 (by decide) (fun q => absurd q (fun z => (show ¬ n < i by omega) (nlt (a := n) (b := i) z (by omega) (by omega)))) (fun _ => ?_)
  refine wp_iconst (1 : Int32) dX11_isBetween_10 (by decide) ?_
  refine wp_goto 15 dX11_isBetween_11 (by decide) ?_
  refine wp_zret dX11_isBetween_15 rfl rfl ?_
  show WP G (d + 5) (0, 0) μX11_isNode 14 [.ref (gB G + 293), .int (nI i)] [.int (1 : Int32)] m _
  refine wp_zret dX11_isNode_14 rfl rfl ?_
  show WP G (d + 6) (0, 0) μX11_conductance 5 [.ref (gB G + 293), .int (nI i), .int y] [.int (1 : Int32)] m _
  refine wp_if_eq 25 dX11_conductance_5 (by decide) (fun q => absurd q (by decide)) (fun _ => ?_)
  refine wp_aload_n dX11_conductance_8 rfl ?_
  refine wp_iload_n dX11_conductance_9 rfl ?_
  refine wp_callV (As := [.int y]) (S := []) (b' := (0, 0)) (b := (0, 0)) dX11_conductance_10 MX11_93 (ka hF 293 (by decide)) rfl rfl rfl rfl (Nat.le_of_ble_eq_true rfl) ?_
  refine WPM.of pX11 (Nat.le_of_ble_eq_true rfl) rfl ?_
  refine wp_iload_n dX11_isNode_0 rfl ?_
  refine wp_iconst (0 : Int32) dX11_isNode_1 (by decide) ?_
  refine wp_aload_n dX11_isNode_2 rfl ?_
  refine wp_getr (gB G + 294) dX11_isNode_3 fX11_7 (ka hF 293 (by decide)) (hF.2 _ _) (rra 1 (isK_le (ka hF 293 (by decide))) (fun _ => rfl)) ?_
  refine wp_bipush (12 : Int32) dX11_isNode_6 (by decide) ?_
  refine wp_ialdk (n := 1486) 12 (nI (n + 1)) dX11_isNode_8 (ka hF 294 (by decide)) (la 294) (vinl (by decide)) rfl hn ?_
  refine wp_iconst (1 : Int32) dX11_isNode_9 (by decide) ?_
  refine wp_isubv (nI n) dX11_isNode_10 (nsub (a := n + 1) (b := 1) (by omega)) ?_
  refine wp_callS (As := [.int y, .int (0 : Int32), .int (nI n)]) (S := []) (b' := (0, 0)) (b := (0, 0)) dX11_isNode_11 MX11_67 rfl rfl (Nat.le_of_ble_eq_true rfl) ?_
  refine WPM.of pX11 (Nat.le_of_ble_eq_true rfl) rfl ?_
  refine wp_iload_n dX11_isBetween_0 rfl ?_
  refine wp_iload_n dX11_isBetween_1 rfl ?_
  refine wp_icmp_lt 14 dX11_isBetween_2 (by decide) (fun q => absurd q hya) (fun _ => ?_)
  refine wp_iload_n dX11_isBetween_5 rfl ?_
  refine wp_iload_n dX11_isBetween_6 rfl ?_
  refine wp_icmp_gt 14 dX11_isBetween_7 (by decide) (fun _ => ?_) (fun q => absurd (sub_lt1 (by omega) hya hyb) q)
  refine wp_iconst (0 : Int32) dX11_isBetween_14 (by decide) ?_
  refine wp_zret dX11_isBetween_15 rfl rfl ?_
  show WP G (d + 5) (0, 0) μX11_isNode 14 [.ref (gB G + 293), .int y] [.int (0 : Int32)] m _
  refine wp_zret dX11_isNode_14 rfl rfl ?_
  show WP G (d + 6) (0, 0) μX11_conductance 13 [.ref (gB G + 293), .int (nI i), .int y] [.int (0 : Int32)] m _
  refine wp_if_eq 25 dX11_conductance_13 (by decide) (fun _ => ?_) (fun q => absurd (by decide) q)
  refine wp_ldc dX11_conductance_25 kX11_96 ?_
  exact wp_iret dX11_conductance_27 rfl (e1)

theorem iiC_link {G : Cx} {d : Nat} {m : Mm} {Q : Option Value → Mm → Prop} {z : Int32} {i j n : Nat}  (hF : Full G m) (hn : fi m 5 (gB G + 1) = nI (n + 1)) (hm : n + 1 ≤ 12) (hi : i < n + 1) (hj : j < n + 1) 
    (e1 : i = j → Q (some (.int (-1000000002 : Int32))) m)
    (e2 : ¬ i = j → z < (0 : Int32) → Q (some (.int (-1000000002 : Int32))) m)
    (e3 : ¬ i = j → ¬ z < (0 : Int32) → (100000 : Int32) < z → Q (some (.int (-1000000002 : Int32))) m)
    (e4 : ¬ i = j → ¬ z < (0 : Int32) → ¬ (100000 : Int32) < z → WPM G (d + 5) (0, 0) μX0_placeOfLink [.ref (gB G + 1), .int (nI i), .int (nI j)] m (fun r' m' => WP G (d + 6) (0, 0) μX10_link 52 [.ref (gB G), .int (nI i), .int (nI j), .int z, lvU, lvU] (r'.toList ++ []) m' Q)) :
    WPM G (d + 6) (0, 0) μX10_link [.ref (gB G), .int (nI i), .int (nI j), .int z] m Q := by
  refine WPM.of pX10 (Nat.le_of_ble_eq_true rfl) rfl ?_
  refine wp_aload_n dX10_link_0 rfl ?_
  refine wp_getr (gB G + 1) dX10_link_1 fX10_10 (ka0 hF) (hF.2 _ _) (rra 1 (isK_le (ka0 hF)) (fun _ => rfl)) ?_
  refine wp_iload_n dX10_link_4 rfl ?_
  refine wp_callV (As := [.int (nI i)]) (S := []) (b' := (0, 0)) (b := (0, 0)) dX10_link_5 MX10_58 (kc0 hF (isC1 G)) rfl rfl rfl rfl (Nat.le_of_ble_eq_true rfl) ?_
  refine WPM.of pX0 (Nat.le_of_ble_eq_true rfl) rfl ?_
  refine wp_iload_n dX0_hasNode_0 rfl ?_
  refine wp_if_lt 16 dX0_hasNode_1 (by decide) (fun q => absurd q (nI_pos (by omega))) (fun _ => ?_)
  refine wp_iload_n dX0_hasNode_4 rfl ?_
  refine wp_aload_n dX0_hasNode_5 rfl ?_
  refine wp_geti (nI (n + 1)) dX0_hasNode_6 fX0_75 (Or.inl rfl) (kc0 hF (isC1 G)) hn ?_
  refine wp_icmp_ge 16 dX0_hasNode_9 (by decide) (fun q => absurd (nlt_ (a := i) (b := n + 1) hi (by omega)) q) (fun _ => ?_)
  refine wp_iconst (1 : Int32) dX0_hasNode_12 (by decide) ?_
  refine wp_goto 17 dX0_hasNode_13 (by decide) ?_
  refine wp_zret dX0_hasNode_17 rfl rfl ?_
  show WP G (d + 6) (0, 0) μX10_link 8 [.ref (gB G), .int (nI i), .int (nI j), .int z, lvU, lvU] [.int (1 : Int32)] m _
  refine wp_if_eq 22 dX10_link_8 (by decide) (fun q => absurd q (by decide)) (fun _ => ?_)
  refine wp_aload_n dX10_link_11 rfl ?_
  refine wp_getr (gB G + 1) dX10_link_12 fX10_10 (ka0 hF) (hF.2 _ _) (rra 1 (isK_le (ka0 hF)) (fun _ => rfl)) ?_
  refine wp_iload_n dX10_link_15 rfl ?_
  refine wp_callV (As := [.int (nI j)]) (S := []) (b' := (0, 0)) (b := (0, 0)) dX10_link_16 MX10_58 (kc0 hF (isC1 G)) rfl rfl rfl rfl (Nat.le_of_ble_eq_true rfl) ?_
  refine WPM.of pX0 (Nat.le_of_ble_eq_true rfl) rfl ?_
  refine wp_iload_n dX0_hasNode_0 rfl ?_
  refine wp_if_lt 16 dX0_hasNode_1 (by decide) (fun q => absurd q (nI_pos (by omega))) (fun _ => ?_)
  refine wp_iload_n dX0_hasNode_4 rfl ?_
  refine wp_aload_n dX0_hasNode_5 rfl ?_
  refine wp_geti (nI (n + 1)) dX0_hasNode_6 fX0_75 (Or.inl rfl) (kc0 hF (isC1 G)) hn ?_
  refine wp_icmp_ge 16 dX0_hasNode_9 (by decide) (fun q => absurd (nlt_ (a := j) (b := n + 1) hj (by omega)) q) (fun _ => ?_)
  refine wp_iconst (1 : Int32) dX0_hasNode_12 (by decide) ?_
  refine wp_goto 17 dX0_hasNode_13 (by decide) ?_
  refine wp_zret dX0_hasNode_17 rfl rfl ?_
  show WP G (d + 6) (0, 0) μX10_link 19 [.ref (gB G), .int (nI i), .int (nI j), .int z, lvU, lvU] [.int (1 : Int32)] m _
  refine wp_if_ne 25 dX10_link_19 (by decide) (fun _ => ?_) (fun q => absurd q (by decide))
  refine wp_iload_n dX10_link_25 rfl ?_
  refine wp_iload_n dX10_link_26 rfl ?_
  refine wp_icmp_eq 40 dX10_link_27 (by decide) (fun q1 => ?_) (fun q2 => ?_)
  · have hp3 : i = j := (neq q1 (by omega) (by omega))
    refine wp_ldc dX10_link_40 kX10_42 ?_
    exact wp_iret dX10_link_42 rfl (e1 hp3)
  · have hp4 : ¬ i = j := (fun z => q2 (congrArg nI z))
    refine wp_iload_n dX10_link_30 rfl ?_
    refine wp_iconst (0 : Int32) dX10_link_31 (by decide) ?_
    refine wp_ldc dX10_link_32 kX10_34 ?_
    refine wp_callS (As := [.int z, .int (0 : Int32), .int (100000 : Int32)]) (S := []) (b' := (0, 0)) (b := (0, 0)) dX10_link_34 MX10_35 rfl rfl (Nat.le_of_ble_eq_true rfl) ?_
    refine WPM.of pX10 (Nat.le_of_ble_eq_true rfl) rfl ?_
    refine wp_iload_n dX10_within_0 rfl ?_
    refine wp_iload_n dX10_within_1 rfl ?_
    refine wp_icmp_lt 14 dX10_within_2 (by decide) (fun q5 => ?_) (fun q6 => ?_)
    · skip
      refine wp_iconst (0 : Int32) dX10_within_14 (by decide) ?_
      refine wp_zret dX10_within_15 rfl rfl ?_
      show WP G (d + 6) (0, 0) μX10_link 37 [.ref (gB G), .int (nI i), .int (nI j), .int z, lvU, lvU] [.int (0 : Int32)] m _
      refine wp_if_ne 43 dX10_link_37 (by decide) (fun q => absurd (by decide) q) (fun _ => ?_)
      refine wp_ldc dX10_link_40 kX10_42 ?_
      exact wp_iret dX10_link_42 rfl (e2 hp4 q5)
    · skip
      refine wp_iload_n dX10_within_5 rfl ?_
      refine wp_iload_n dX10_within_6 rfl ?_
      refine wp_icmp_gt 14 dX10_within_7 (by decide) (fun q7 => ?_) (fun q8 => ?_)
      · skip
        refine wp_iconst (0 : Int32) dX10_within_14 (by decide) ?_
        refine wp_zret dX10_within_15 rfl rfl ?_
        show WP G (d + 6) (0, 0) μX10_link 37 [.ref (gB G), .int (nI i), .int (nI j), .int z, lvU, lvU] [.int (0 : Int32)] m _
        refine wp_if_ne 43 dX10_link_37 (by decide) (fun q => absurd (by decide) q) (fun _ => ?_)
        refine wp_ldc dX10_link_40 kX10_42 ?_
        exact wp_iret dX10_link_42 rfl (e3 hp4 q6 q7)
      · skip
        refine wp_iconst (1 : Int32) dX10_within_10 (by decide) ?_
        refine wp_goto 15 dX10_within_11 (by decide) ?_
        refine wp_zret dX10_within_15 rfl rfl ?_
        show WP G (d + 6) (0, 0) μX10_link 37 [.ref (gB G), .int (nI i), .int (nI j), .int z, lvU, lvU] [.int (1 : Int32)] m _
        refine wp_if_ne 43 dX10_link_37 (by decide) (fun _ => ?_) (fun q => absurd q (by decide))
        refine wp_aload_n dX10_link_43 rfl ?_
        refine wp_getr (gB G + 1) dX10_link_44 fX10_10 (ka0 hF) (hF.2 _ _) (rra 1 (isK_le (ka0 hF)) (fun _ => rfl)) ?_
        refine wp_iload_n dX10_link_47 rfl ?_
        refine wp_iload_n dX10_link_48 rfl ?_
        refine wp_callV (As := [.int (nI i), .int (nI j)]) (S := []) (b' := (0, 0)) (b := (0, 0)) dX10_link_49 MX10_75 (kc0 hF (isC1 G)) rfl rfl rfl rfl (Nat.le_of_ble_eq_true rfl) ?_
        exact e4 hp4 q6 q8

theorem jC_link0 {G : Cx} {d : Nat} {m : Mm} {Q : Option Value → Mm → Prop} {i j : Nat} {l3 : Int32} (hF : Full G m) (hi : i < 12) (hj : j < 12)
    (e1 : WPM G (d + 5) (0, 0) μX0_makeLink [.ref (gB G + 1), .int (nI i), .int (nI j), .int l3] m (fun r' m' => WP G (d + 6) (0, 0) μX10_link 70 [lvU, lvU, lvU, lvU, lvU, lvU] (r'.toList ++ []) m' Q)) :
    WP G (d + 6) (0, 0) μX10_link 52 [.ref (gB G), .int (nI i), .int (nI j), .int l3, lvU, lvU] [.int (-1 : Int32)] m Q := by
  refine wp_istore dX10_link_52 (by decide) rfl ?_
  refine wp_iload dX10_link_54 rfl ?_
  refine wp_iconst (-1 : Int32) dX10_link_56 (by decide) ?_
  refine wp_icmp_ne 71 dX10_link_57 (by decide) (fun q => absurd (by decide) q) (fun _ => ?_)
  refine wp_aload_n dX10_link_60 rfl ?_
  refine wp_getr (gB G + 1) dX10_link_61 fX10_10 (ka0 hF) (hF.2 _ _) (rra 1 (isK_le (ka0 hF)) (fun _ => rfl)) ?_
  refine wp_iload_n dX10_link_64 rfl ?_
  refine wp_iload_n dX10_link_65 rfl ?_
  refine wp_iload_n dX10_link_66 rfl ?_
  refine wp_forget [lvU, lvU, lvU, lvU, lvU, lvU] ⟨Or.inr rfl, Or.inr rfl, Or.inr rfl, Or.inr rfl, Or.inr rfl, Or.inr rfl, trivial⟩ ?_
  refine wp_callV (As := [.int (nI i), .int (nI j), .int l3]) (S := []) (b' := (0, 0)) (b := (0, 0)) dX10_link_67 MX10_79 (kc0 hF (isC1 G)) rfl rfl rfl rfl (Nat.le_of_ble_eq_true rfl) ?_
  exact e1

theorem jC_link1 {G : Cx} {d : Nat} {m : Mm} {Q : Option Value → Mm → Prop} {i j p : Nat} {l3 : Int32} (hF : Full G m) (hp : p < 24) (hi : i < 12) (hj : j < 12)
    (e1 : ¬ (nI p) = (-1 : Int32) → ¬ l3 = 0 → Q (some (.int (fi m 202 (lk (gB G + 1) p)))) (wfi m 202 (lk (gB G + 1) p) l3))
    (e2 : ¬ (nI p) = (-1 : Int32) → l3 = 0 → WPM G (d + 5) (0, 0) μX0_dropLink [.ref (gB G + 1), .int (nI p)] m (fun r' m' => WP G (d + 6) (0, 0) μX10_link 99 [lvU, lvU, lvU, lvU, lvU, .int (fi m 202 (lk (gB G + 1) p))] (r'.toList ++ []) m' Q))
    (e3 : (nI p) = (-1 : Int32) → WPM G (d + 5) (0, 0) μX0_makeLink [.ref (gB G + 1), .int (nI i), .int (nI j), .int l3] m (fun r' m' => WP G (d + 6) (0, 0) μX10_link 70 [lvU, lvU, lvU, lvU, lvU, lvU] (r'.toList ++ []) m' Q)) :
    WP G (d + 6) (0, 0) μX10_link 52 [.ref (gB G), .int (nI i), .int (nI j), .int l3, lvU, lvU] [.int (nI p)] m Q := by
  refine wp_istore dX10_link_52 (by decide) rfl ?_
  refine wp_iload dX10_link_54 rfl ?_
  refine wp_iconst (-1 : Int32) dX10_link_56 (by decide) ?_
  refine wp_icmp_ne 71 dX10_link_57 (by decide) (fun q1 => ?_) (fun q2 => ?_)
  · skip
    refine wp_aload_n dX10_link_71 rfl ?_
    refine wp_getr (gB G + 1) dX10_link_72 fX10_10 (ka0 hF) (hF.2 _ _) (rra 1 (isK_le (ka0 hF)) (fun _ => rfl)) ?_
    refine wp_getr ((gB G + 1) + 2) dX10_link_75 fX10_83 (kc0 hF (isC1 G)) (hF.2 _ _) (rra 2 (isK_le (kc0 hF (isC1 G))) (fun _ => rfl)) ?_
    refine wp_iload dX10_link_78 rfl ?_
    refine wp_raldk (n := 24) p (lk (gB G + 1) p) dX10_link_80 (kc hF (isC1 G) 2 (by decide)) (by decide) (by decide) (lc (isC1 G) 2 (by decide)) (vin (by omega) (by decide)) (nIc (by omega)) (hF.2 _ _) (rlk hF (isC1 G)) ?_
    refine wp_geti (fi m 202 (lk (gB G + 1) p)) dX10_link_81 fX10_87 (Or.inl rfl) (klk hF (isC1 G) (by omega)) rfl ?_
    refine wp_istore dX10_link_84 (by decide) rfl ?_
    refine wp_iload_n dX10_link_86 rfl ?_
    refine wp_if_ne 102 dX10_link_87 (by decide) (fun q3 => ?_) (fun q4 => ?_)
    · skip
      refine wp_aload_n dX10_link_102 rfl ?_
      refine wp_getr (gB G + 1) dX10_link_103 fX10_10 (ka0 hF) (hF.2 _ _) (rra 1 (isK_le (ka0 hF)) (fun _ => rfl)) ?_
      refine wp_getr ((gB G + 1) + 2) dX10_link_106 fX10_83 (kc0 hF (isC1 G)) (hF.2 _ _) (rra 2 (isK_le (kc0 hF (isC1 G))) (fun _ => rfl)) ?_
      refine wp_iload dX10_link_109 rfl ?_
      refine wp_raldk (n := 24) p (lk (gB G + 1) p) dX10_link_111 (kc hF (isC1 G) 2 (by decide)) (by decide) (by decide) (lc (isC1 G) 2 (by decide)) (vin (by omega) (by decide)) (nIc (by omega)) (hF.2 _ _) (rlk hF (isC1 G)) ?_
      refine wp_iload_n dX10_link_112 rfl ?_
      refine wp_puti dX10_link_113 pX10_87 (klk hF (isC1 G) (by omega)) ?_
      have hF5 := Full_wfi 202 (lk (gB G + 1) p) l3 hF
      refine wp_iload dX10_link_116 rfl ?_
      exact wp_iret dX10_link_118 rfl (e1 q1 q3)
    · skip
      refine wp_aload_n dX10_link_90 rfl ?_
      refine wp_getr (gB G + 1) dX10_link_91 fX10_10 (ka0 hF) (hF.2 _ _) (rra 1 (isK_le (ka0 hF)) (fun _ => rfl)) ?_
      refine wp_iload dX10_link_94 rfl ?_
      refine wp_forget [lvU, lvU, lvU, lvU, lvU, .int (fi m 202 (lk (gB G + 1) p))] ⟨Or.inr rfl, Or.inr rfl, Or.inr rfl, Or.inr rfl, Or.inr rfl, Or.inl rfl, trivial⟩ ?_
      refine wp_callV (As := [.int (nI p)]) (S := []) (b' := (0, 0)) (b := (0, 0)) dX10_link_96 MX10_92 (kc0 hF (isC1 G)) rfl rfl rfl rfl (Nat.le_of_ble_eq_true rfl) ?_
      exact e2 q1 q4
  · skip
    refine wp_aload_n dX10_link_60 rfl ?_
    refine wp_getr (gB G + 1) dX10_link_61 fX10_10 (ka0 hF) (hF.2 _ _) (rra 1 (isK_le (ka0 hF)) (fun _ => rfl)) ?_
    refine wp_iload_n dX10_link_64 rfl ?_
    refine wp_iload_n dX10_link_65 rfl ?_
    refine wp_iload_n dX10_link_66 rfl ?_
    refine wp_forget [lvU, lvU, lvU, lvU, lvU, lvU] ⟨Or.inr rfl, Or.inr rfl, Or.inr rfl, Or.inr rfl, Or.inr rfl, Or.inr rfl, trivial⟩ ?_
    refine wp_callV (As := [.int (nI i), .int (nI j), .int l3]) (S := []) (b' := (0, 0)) (b := (0, 0)) dX10_link_67 MX10_79 (kc0 hF (isC1 G)) rfl rfl rfl rfl (Nat.le_of_ble_eq_true rfl) ?_
    exact e3 q2

theorem iiM_link {G : Cx} {d : Nat} {m : Mm} {Q : Option Value → Mm → Prop} {z : Int32} {i j n : Nat}  (hF : Full G m) (hn : ai m (gB G + 294) 12 = nI (n + 1)) (hm : n + 1 ≤ 12) (hi : i < n + 1) (hj : j < n + 1) 
    (e1 : i = j → Q (some (.int (-1000000002 : Int32))) m)
    (e2 : ¬ i = j → z < (0 : Int32) → Q (some (.int (-1000000002 : Int32))) m)
    (e3 : ¬ i = j → ¬ z < (0 : Int32) → (100000 : Int32) < z → Q (some (.int (-1000000002 : Int32))) m)
    (e4 : ¬ i = j → ¬ z < (0 : Int32) → ¬ (100000 : Int32) < z → ¬ (ai m (gB G + 294) (12 * i + j + 152)) = 0 → Q (some (.int (ai m (gB G + 294) (12 * i + j + 152)))) (wai (wai m (gB G + 294) (12 * i + j + 152) z) (gB G + 294) (i + 12 * j + 152) z))
    (e5 : ¬ i = j → ¬ z < (0 : Int32) → ¬ (100000 : Int32) < z → (ai m (gB G + 294) (12 * i + j + 152)) = 0 → ¬ 0 < z → Q (some (.int (ai m (gB G + 294) (12 * i + j + 152)))) (wai (wai m (gB G + 294) (12 * i + j + 152) z) (gB G + 294) (i + 12 * j + 152) z))
    (e6 : ¬ i = j → ¬ z < (0 : Int32) → ¬ (100000 : Int32) < z → (ai m (gB G + 294) (12 * i + j + 152)) = 0 → 0 < z → WPM G (d + 5) (0, 0) μX11_linkCount [.ref (gB G + 293)] m (fun r' m' => WP G (d + 6) (0, 0) μX11_link 58 [.ref (gB G + 293), .int (nI i), .int (nI j), .int z, .int (ai m (gB G + 294) (12 * i + j + 152))] (r'.toList ++ []) m' Q)) :
    WPM G (d + 6) (0, 0) μX11_link [.ref (gB G + 293), .int (nI i), .int (nI j), .int z] m Q := by
  refine WPM.of pX11 (Nat.le_of_ble_eq_true rfl) rfl ?_
  refine wp_aload_n dX11_link_0 rfl ?_
  refine wp_iload_n dX11_link_1 rfl ?_
  refine wp_callV (As := [.int (nI i)]) (S := []) (b' := (0, 0)) (b := (0, 0)) dX11_link_2 MX11_93 (ka hF 293 (by decide)) rfl rfl rfl rfl (Nat.le_of_ble_eq_true rfl) ?_
  refine WPM.of pX11 (Nat.le_of_ble_eq_true rfl) rfl ?_
  refine wp_iload_n dX11_isNode_0 rfl ?_
  refine wp_iconst (0 : Int32) dX11_isNode_1 (by decide) ?_
  refine wp_aload_n dX11_isNode_2 rfl ?_
  refine wp_getr (gB G + 294) dX11_isNode_3 fX11_7 (ka hF 293 (by decide)) (hF.2 _ _) (rra 1 (isK_le (ka hF 293 (by decide))) (fun _ => rfl)) ?_
  refine wp_bipush (12 : Int32) dX11_isNode_6 (by decide) ?_
  refine wp_ialdk (n := 1486) 12 (nI (n + 1)) dX11_isNode_8 (ka hF 294 (by decide)) (la 294) (vinl (by decide)) rfl hn ?_
  refine wp_iconst (1 : Int32) dX11_isNode_9 (by decide) ?_
  refine wp_isubv (nI n) dX11_isNode_10 (nsub (a := n + 1) (b := 1) (by omega)) ?_
  refine wp_callS (As := [.int (nI i), .int (0 : Int32), .int (nI n)]) (S := []) (b' := (0, 0)) (b := (0, 0)) dX11_isNode_11 MX11_67 rfl rfl (Nat.le_of_ble_eq_true rfl) ?_
  refine WPM.of pX11 (Nat.le_of_ble_eq_true rfl) rfl ?_
  refine wp_iload_n dX11_isBetween_0 rfl ?_
  refine wp_iload_n dX11_isBetween_1 rfl ?_
  refine wp_icmp_lt 14 dX11_isBetween_2 (by decide) (fun q => absurd q (nI_pos (by omega))) (fun _ => ?_)
  refine wp_iload_n dX11_isBetween_5 rfl ?_
  refine wp_iload_n dX11_isBetween_6 rfl ?_
  refine wp_icmp_gt 14 dX11_isBetween_7 (by decide) (fun q => absurd q (fun z => (show ¬ n < i by omega) (nlt (a := n) (b := i) z (by omega) (by omega)))) (fun _ => ?_)
  refine wp_iconst (1 : Int32) dX11_isBetween_10 (by decide) ?_
  refine wp_goto 15 dX11_isBetween_11 (by decide) ?_
  refine wp_zret dX11_isBetween_15 rfl rfl ?_
  show WP G (d + 5) (0, 0) μX11_isNode 14 [.ref (gB G + 293), .int (nI i)] [.int (1 : Int32)] m _
  refine wp_zret dX11_isNode_14 rfl rfl ?_
  show WP G (d + 6) (0, 0) μX11_link 5 [.ref (gB G + 293), .int (nI i), .int (nI j), .int z, lvU] [.int (1 : Int32)] m _
  refine wp_if_eq 16 dX11_link_5 (by decide) (fun q => absurd q (by decide)) (fun _ => ?_)
  refine wp_aload_n dX11_link_8 rfl ?_
  refine wp_iload_n dX11_link_9 rfl ?_
  refine wp_callV (As := [.int (nI j)]) (S := []) (b' := (0, 0)) (b := (0, 0)) dX11_link_10 MX11_93 (ka hF 293 (by decide)) rfl rfl rfl rfl (Nat.le_of_ble_eq_true rfl) ?_
  refine WPM.of pX11 (Nat.le_of_ble_eq_true rfl) rfl ?_
  refine wp_iload_n dX11_isNode_0 rfl ?_
  refine wp_iconst (0 : Int32) dX11_isNode_1 (by decide) ?_
  refine wp_aload_n dX11_isNode_2 rfl ?_
  refine wp_getr (gB G + 294) dX11_isNode_3 fX11_7 (ka hF 293 (by decide)) (hF.2 _ _) (rra 1 (isK_le (ka hF 293 (by decide))) (fun _ => rfl)) ?_
  refine wp_bipush (12 : Int32) dX11_isNode_6 (by decide) ?_
  refine wp_ialdk (n := 1486) 12 (nI (n + 1)) dX11_isNode_8 (ka hF 294 (by decide)) (la 294) (vinl (by decide)) rfl hn ?_
  refine wp_iconst (1 : Int32) dX11_isNode_9 (by decide) ?_
  refine wp_isubv (nI n) dX11_isNode_10 (nsub (a := n + 1) (b := 1) (by omega)) ?_
  refine wp_callS (As := [.int (nI j), .int (0 : Int32), .int (nI n)]) (S := []) (b' := (0, 0)) (b := (0, 0)) dX11_isNode_11 MX11_67 rfl rfl (Nat.le_of_ble_eq_true rfl) ?_
  refine WPM.of pX11 (Nat.le_of_ble_eq_true rfl) rfl ?_
  refine wp_iload_n dX11_isBetween_0 rfl ?_
  refine wp_iload_n dX11_isBetween_1 rfl ?_
  refine wp_icmp_lt 14 dX11_isBetween_2 (by decide) (fun q => absurd q (nI_pos (by omega))) (fun _ => ?_)
  refine wp_iload_n dX11_isBetween_5 rfl ?_
  refine wp_iload_n dX11_isBetween_6 rfl ?_
  refine wp_icmp_gt 14 dX11_isBetween_7 (by decide) (fun q => absurd q (fun z => (show ¬ n < j by omega) (nlt (a := n) (b := j) z (by omega) (by omega)))) (fun _ => ?_)
  refine wp_iconst (1 : Int32) dX11_isBetween_10 (by decide) ?_
  refine wp_goto 15 dX11_isBetween_11 (by decide) ?_
  refine wp_zret dX11_isBetween_15 rfl rfl ?_
  show WP G (d + 5) (0, 0) μX11_isNode 14 [.ref (gB G + 293), .int (nI j)] [.int (1 : Int32)] m _
  refine wp_zret dX11_isNode_14 rfl rfl ?_
  show WP G (d + 6) (0, 0) μX11_link 13 [.ref (gB G + 293), .int (nI i), .int (nI j), .int z, lvU] [.int (1 : Int32)] m _
  refine wp_if_ne 19 dX11_link_13 (by decide) (fun _ => ?_) (fun q => absurd q (by decide))
  refine wp_iload_n dX11_link_19 rfl ?_
  refine wp_iload_n dX11_link_20 rfl ?_
  refine wp_icmp_eq 34 dX11_link_21 (by decide) (fun q1 => ?_) (fun q2 => ?_)
  · have hp3 : i = j := (neq q1 (by omega) (by omega))
    refine wp_ldc dX11_link_34 kX11_79 ?_
    exact wp_iret dX11_link_36 rfl (e1 hp3)
  · have hp4 : ¬ i = j := (fun z => q2 (congrArg nI z))
    refine wp_iload_n dX11_link_24 rfl ?_
    refine wp_iconst (0 : Int32) dX11_link_25 (by decide) ?_
    refine wp_ldc dX11_link_26 kX11_73 ?_
    refine wp_callS (As := [.int z, .int (0 : Int32), .int (100000 : Int32)]) (S := []) (b' := (0, 0)) (b := (0, 0)) dX11_link_28 MX11_67 rfl rfl (Nat.le_of_ble_eq_true rfl) ?_
    refine WPM.of pX11 (Nat.le_of_ble_eq_true rfl) rfl ?_
    refine wp_iload_n dX11_isBetween_0 rfl ?_
    refine wp_iload_n dX11_isBetween_1 rfl ?_
    refine wp_icmp_lt 14 dX11_isBetween_2 (by decide) (fun q5 => ?_) (fun q6 => ?_)
    · skip
      refine wp_iconst (0 : Int32) dX11_isBetween_14 (by decide) ?_
      refine wp_zret dX11_isBetween_15 rfl rfl ?_
      show WP G (d + 6) (0, 0) μX11_link 31 [.ref (gB G + 293), .int (nI i), .int (nI j), .int z, lvU] [.int (0 : Int32)] m _
      refine wp_if_ne 37 dX11_link_31 (by decide) (fun q => absurd (by decide) q) (fun _ => ?_)
      refine wp_ldc dX11_link_34 kX11_79 ?_
      exact wp_iret dX11_link_36 rfl (e2 hp4 q5)
    · skip
      refine wp_iload_n dX11_isBetween_5 rfl ?_
      refine wp_iload_n dX11_isBetween_6 rfl ?_
      refine wp_icmp_gt 14 dX11_isBetween_7 (by decide) (fun q7 => ?_) (fun q8 => ?_)
      · skip
        refine wp_iconst (0 : Int32) dX11_isBetween_14 (by decide) ?_
        refine wp_zret dX11_isBetween_15 rfl rfl ?_
        show WP G (d + 6) (0, 0) μX11_link 31 [.ref (gB G + 293), .int (nI i), .int (nI j), .int z, lvU] [.int (0 : Int32)] m _
        refine wp_if_ne 37 dX11_link_31 (by decide) (fun q => absurd (by decide) q) (fun _ => ?_)
        refine wp_ldc dX11_link_34 kX11_79 ?_
        exact wp_iret dX11_link_36 rfl (e3 hp4 q6 q7)
      · skip
        refine wp_iconst (1 : Int32) dX11_isBetween_10 (by decide) ?_
        refine wp_goto 15 dX11_isBetween_11 (by decide) ?_
        refine wp_zret dX11_isBetween_15 rfl rfl ?_
        show WP G (d + 6) (0, 0) μX11_link 31 [.ref (gB G + 293), .int (nI i), .int (nI j), .int z, lvU] [.int (1 : Int32)] m _
        refine wp_if_ne 37 dX11_link_31 (by decide) (fun _ => ?_) (fun q => absurd q (by decide))
        refine wp_aload_n dX11_link_37 rfl ?_
        refine wp_iload_n dX11_link_38 rfl ?_
        refine wp_iload_n dX11_link_39 rfl ?_
        refine wp_callV (As := [.int (nI i), .int (nI j)]) (S := []) (b' := (0, 0)) (b := (0, 0)) dX11_link_40 MX11_101 (ka hF 293 (by decide)) rfl rfl rfl rfl (Nat.le_of_ble_eq_true rfl) ?_
        refine WPM.of pX11 (Nat.le_of_ble_eq_true rfl) rfl ?_
        refine wp_aload_n dX11_linkOf_0 rfl ?_
        refine wp_getr (gB G + 294) dX11_linkOf_1 fX11_7 (ka hF 293 (by decide)) (hF.2 _ _) (rra 1 (isK_le (ka hF 293 (by decide))) (fun _ => rfl)) ?_
        refine wp_sipush (152 : Int32) dX11_linkOf_4 (by decide) ?_
        refine wp_bipush (12 : Int32) dX11_linkOf_7 (by decide) ?_
        refine wp_iload_n dX11_linkOf_9 rfl ?_
        refine wp_imulv (nI (12 * i)) dX11_linkOf_10 (nmul (a := 12) (b := i) (by omega)) ?_
        refine wp_iaddv (nI (12 * i + 152)) dX11_linkOf_11 (nadd (a := 152) (b := 12 * i) (by omega)) ?_
        refine wp_iload_n dX11_linkOf_12 rfl ?_
        refine wp_iaddv (nI (12 * i + j + 152)) dX11_linkOf_13 (nadd (a := 12 * i + 152) (b := j) (by omega)) ?_
        refine wp_ialdk (n := 1486) (12 * i + j + 152) (ai m (gB G + 294) (12 * i + j + 152)) dX11_linkOf_14 (ka hF 294 (by decide)) (la 294) (vin (by omega) (by decide)) (nIc (by omega)) rfl ?_
        refine wp_iret dX11_linkOf_15 rfl ?_
        show WP G (d + 6) (0, 0) μX11_link 43 [.ref (gB G + 293), .int (nI i), .int (nI j), .int z, lvU] [.int (ai m (gB G + 294) (12 * i + j + 152))] m _
        refine wp_istore dX11_link_43 (by decide) rfl ?_
        refine wp_iload dX11_link_45 rfl ?_
        refine wp_if_ne 66 dX11_link_47 (by decide) (fun q9 => ?_) (fun q10 => ?_)
        · skip
          refine wp_aload_n dX11_link_66 rfl ?_
          refine wp_getr (gB G + 294) dX11_link_67 fX11_7 (ka hF 293 (by decide)) (hF.2 _ _) (rra 1 (isK_le (ka hF 293 (by decide))) (fun _ => rfl)) ?_
          refine wp_sipush (152 : Int32) dX11_link_70 (by decide) ?_
          refine wp_bipush (12 : Int32) dX11_link_73 (by decide) ?_
          refine wp_iload_n dX11_link_75 rfl ?_
          refine wp_imulv (nI (12 * i)) dX11_link_76 (nmul (a := 12) (b := i) (by omega)) ?_
          refine wp_iaddv (nI (12 * i + 152)) dX11_link_77 (nadd (a := 152) (b := 12 * i) (by omega)) ?_
          refine wp_iload_n dX11_link_78 rfl ?_
          refine wp_iaddv (nI (12 * i + j + 152)) dX11_link_79 (nadd (a := 12 * i + 152) (b := j) (by omega)) ?_
          refine wp_iload_n dX11_link_80 rfl ?_
          refine wp_iastk (n := 1486) (12 * i + j + 152) dX11_link_81 (ka hF 294 (by decide)) (la 294) (vin (by omega) (by decide))  (nIc (by omega)) ?_
          have hF11 := Full_wai (gB G + 294) (12 * i + j + 152) z hF
          refine wp_aload_n dX11_link_82 rfl ?_
          refine wp_getr (gB G + 294) dX11_link_83 fX11_7 (ka hF11 293 (by decide)) (hF11.2 _ _) (rra 1 (isK_le (ka hF11 293 (by decide))) (fun _ => rfl)) ?_
          refine wp_sipush (152 : Int32) dX11_link_86 (by decide) ?_
          refine wp_bipush (12 : Int32) dX11_link_89 (by decide) ?_
          refine wp_iload_n dX11_link_91 rfl ?_
          refine wp_imulv (nI (12 * j)) dX11_link_92 (nmul (a := 12) (b := j) (by omega)) ?_
          refine wp_iaddv (nI (12 * j + 152)) dX11_link_93 (nadd (a := 152) (b := 12 * j) (by omega)) ?_
          refine wp_iload_n dX11_link_94 rfl ?_
          refine wp_iaddv (nI (i + 12 * j + 152)) dX11_link_95 (nadd (a := 12 * j + 152) (b := i) (by omega)) ?_
          refine wp_iload_n dX11_link_96 rfl ?_
          refine wp_iastk (n := 1486) (i + 12 * j + 152) dX11_link_97 (ka hF11 294 (by decide)) (la 294) (vin (by omega) (by decide))  (nIc (by omega)) ?_
          have hF12 := Full_wai (gB G + 294) (i + 12 * j + 152) z hF11
          refine wp_iload dX11_link_98 rfl ?_
          exact wp_iret dX11_link_100 rfl (e4 hp4 q6 q8 q9)
        · skip
          refine wp_iload_n dX11_link_50 rfl ?_
          refine wp_if_le 66 dX11_link_51 (by decide) (fun q13 => ?_) (fun q14 => ?_)
          · skip
            refine wp_aload_n dX11_link_66 rfl ?_
            refine wp_getr (gB G + 294) dX11_link_67 fX11_7 (ka hF 293 (by decide)) (hF.2 _ _) (rra 1 (isK_le (ka hF 293 (by decide))) (fun _ => rfl)) ?_
            refine wp_sipush (152 : Int32) dX11_link_70 (by decide) ?_
            refine wp_bipush (12 : Int32) dX11_link_73 (by decide) ?_
            refine wp_iload_n dX11_link_75 rfl ?_
            refine wp_imulv (nI (12 * i)) dX11_link_76 (nmul (a := 12) (b := i) (by omega)) ?_
            refine wp_iaddv (nI (12 * i + 152)) dX11_link_77 (nadd (a := 152) (b := 12 * i) (by omega)) ?_
            refine wp_iload_n dX11_link_78 rfl ?_
            refine wp_iaddv (nI (12 * i + j + 152)) dX11_link_79 (nadd (a := 12 * i + 152) (b := j) (by omega)) ?_
            refine wp_iload_n dX11_link_80 rfl ?_
            refine wp_iastk (n := 1486) (12 * i + j + 152) dX11_link_81 (ka hF 294 (by decide)) (la 294) (vin (by omega) (by decide))  (nIc (by omega)) ?_
            have hF15 := Full_wai (gB G + 294) (12 * i + j + 152) z hF
            refine wp_aload_n dX11_link_82 rfl ?_
            refine wp_getr (gB G + 294) dX11_link_83 fX11_7 (ka hF15 293 (by decide)) (hF15.2 _ _) (rra 1 (isK_le (ka hF15 293 (by decide))) (fun _ => rfl)) ?_
            refine wp_sipush (152 : Int32) dX11_link_86 (by decide) ?_
            refine wp_bipush (12 : Int32) dX11_link_89 (by decide) ?_
            refine wp_iload_n dX11_link_91 rfl ?_
            refine wp_imulv (nI (12 * j)) dX11_link_92 (nmul (a := 12) (b := j) (by omega)) ?_
            refine wp_iaddv (nI (12 * j + 152)) dX11_link_93 (nadd (a := 152) (b := 12 * j) (by omega)) ?_
            refine wp_iload_n dX11_link_94 rfl ?_
            refine wp_iaddv (nI (i + 12 * j + 152)) dX11_link_95 (nadd (a := 12 * j + 152) (b := i) (by omega)) ?_
            refine wp_iload_n dX11_link_96 rfl ?_
            refine wp_iastk (n := 1486) (i + 12 * j + 152) dX11_link_97 (ka hF15 294 (by decide)) (la 294) (vin (by omega) (by decide))  (nIc (by omega)) ?_
            have hF16 := Full_wai (gB G + 294) (i + 12 * j + 152) z hF15
            refine wp_iload dX11_link_98 rfl ?_
            exact wp_iret dX11_link_100 rfl (e5 hp4 q6 q8 q10 q13)
          · skip
            refine wp_aload_n dX11_link_54 rfl ?_
            refine wp_callV (As := []) (S := []) (b' := (0, 0)) (b := (0, 0)) dX11_link_55 MX11_104 (ka hF 293 (by decide)) rfl rfl rfl rfl (Nat.le_of_ble_eq_true rfl) ?_
            exact e6 hp4 q6 q8 q10 q14

theorem jM_link {G : Cx} {d : Nat} {m : Mm} {Q : Option Value → Mm → Prop} {i j q : Nat} {l3 : Int32} {l4 : Int32} (hF : Full G m) (hi : i < 12) (hj : j < 12) (hq : q < 1000)
    (e1 : ¬ q = 24 → Q (some (.int l4)) (wai (wai m (gB G + 294) (12 * i + j + 152) l3) (gB G + 294) (i + 12 * j + 152) l3))
    (e2 : q = 24 → Q (some (.int (-1000000003 : Int32))) m) :
    WP G (d + 6) (0, 0) μX11_link 58 [.ref (gB G + 293), .int (nI i), .int (nI j), .int l3, .int l4] [.int (nI q)] m Q := by
  refine wp_bipush (24 : Int32) dX11_link_58 (by decide) ?_
  refine wp_icmp_ne 66 dX11_link_60 (by decide) (fun q1 => ?_) (fun q2 => ?_)
  · have hp3 : ¬ q = 24 := (fun z => q1 (congrArg nI z))
    refine wp_aload_n dX11_link_66 rfl ?_
    refine wp_getr (gB G + 294) dX11_link_67 fX11_7 (ka hF 293 (by decide)) (hF.2 _ _) (rra 1 (isK_le (ka hF 293 (by decide))) (fun _ => rfl)) ?_
    refine wp_sipush (152 : Int32) dX11_link_70 (by decide) ?_
    refine wp_bipush (12 : Int32) dX11_link_73 (by decide) ?_
    refine wp_iload_n dX11_link_75 rfl ?_
    refine wp_imulv (nI (12 * i)) dX11_link_76 (nmul (a := 12) (b := i) (by omega)) ?_
    refine wp_iaddv (nI (12 * i + 152)) dX11_link_77 (nadd (a := 152) (b := 12 * i) (by omega)) ?_
    refine wp_iload_n dX11_link_78 rfl ?_
    refine wp_iaddv (nI (12 * i + j + 152)) dX11_link_79 (nadd (a := 12 * i + 152) (b := j) (by omega)) ?_
    refine wp_iload_n dX11_link_80 rfl ?_
    refine wp_iastk (n := 1486) (12 * i + j + 152) dX11_link_81 (ka hF 294 (by decide)) (la 294) (vin (by omega) (by decide))  (nIc (by omega)) ?_
    have hF4 := Full_wai (gB G + 294) (12 * i + j + 152) l3 hF
    refine wp_aload_n dX11_link_82 rfl ?_
    refine wp_getr (gB G + 294) dX11_link_83 fX11_7 (ka hF4 293 (by decide)) (hF4.2 _ _) (rra 1 (isK_le (ka hF4 293 (by decide))) (fun _ => rfl)) ?_
    refine wp_sipush (152 : Int32) dX11_link_86 (by decide) ?_
    refine wp_bipush (12 : Int32) dX11_link_89 (by decide) ?_
    refine wp_iload_n dX11_link_91 rfl ?_
    refine wp_imulv (nI (12 * j)) dX11_link_92 (nmul (a := 12) (b := j) (by omega)) ?_
    refine wp_iaddv (nI (12 * j + 152)) dX11_link_93 (nadd (a := 152) (b := 12 * j) (by omega)) ?_
    refine wp_iload_n dX11_link_94 rfl ?_
    refine wp_iaddv (nI (i + 12 * j + 152)) dX11_link_95 (nadd (a := 12 * j + 152) (b := i) (by omega)) ?_
    refine wp_iload_n dX11_link_96 rfl ?_
    refine wp_iastk (n := 1486) (i + 12 * j + 152) dX11_link_97 (ka hF4 294 (by decide)) (la 294) (vin (by omega) (by decide))  (nIc (by omega)) ?_
    have hF5 := Full_wai (gB G + 294) (i + 12 * j + 152) l3 hF4
    refine wp_iload dX11_link_98 rfl ?_
    exact wp_iret dX11_link_100 rfl (e1 hp3)
  · have hp6 : q = 24 := (neq q2 (by omega) (by omega))
    refine wp_ldc dX11_link_63 kX11_80 ?_
    exact wp_iret dX11_link_65 rfl (e2 hp6)

theorem aC_link {G : Cx} {d : Nat} {m : Mm} {Q : Option Value → Mm → Prop} {x y z : Int32} {n : Nat}  (hF : Full G m) (hn : fi m 5 (gB G + 1) = nI n) (hm : n ≤ 12) (hx : x < 0) 
    (e1 : Q (some (.int (-1000000001 : Int32))) m) :
    WPM G (d + 6) (0, 0) μX10_link [.ref (gB G), .int x, .int y, .int z] m Q := by
  refine WPM.of pX10 (Nat.le_of_ble_eq_true rfl) rfl ?_
  refine wp_aload_n dX10_link_0 rfl ?_
  refine wp_getr (gB G + 1) dX10_link_1 fX10_10 (ka0 hF) (hF.2 _ _) (rra 1 (isK_le (ka0 hF)) (fun _ => rfl)) ?_
  refine wp_iload_n dX10_link_4 rfl ?_
  refine wp_callV (As := [.int x]) (S := []) (b' := (0, 0)) (b := (0, 0)) dX10_link_5 MX10_58 (kc0 hF (isC1 G)) rfl rfl rfl rfl (Nat.le_of_ble_eq_true rfl) ?_
  refine WPM.of pX0 (Nat.le_of_ble_eq_true rfl) rfl ?_
  refine wp_iload_n dX0_hasNode_0 rfl ?_
  refine wp_if_lt 16 dX0_hasNode_1 (by decide) (fun _ => ?_) (fun q => absurd hx q)
  refine wp_iconst (0 : Int32) dX0_hasNode_16 (by decide) ?_
  refine wp_zret dX0_hasNode_17 rfl rfl ?_
  show WP G (d + 6) (0, 0) μX10_link 8 [.ref (gB G), .int x, .int y, .int z, lvU, lvU] [.int (0 : Int32)] m _
  refine wp_if_eq 22 dX10_link_8 (by decide) (fun _ => ?_) (fun q => absurd (by decide) q)
  refine wp_ldc dX10_link_22 kX10_62 ?_
  exact wp_iret dX10_link_24 rfl (e1)

theorem aM_link {G : Cx} {d : Nat} {m : Mm} {Q : Option Value → Mm → Prop} {x y z : Int32} {n : Nat}  (hF : Full G m) (hn : ai m (gB G + 294) 12 = nI n) (hm : n ≤ 12) (hx : x < 0) 
    (e1 : Q (some (.int (-1000000001 : Int32))) m) :
    WPM G (d + 6) (0, 0) μX11_link [.ref (gB G + 293), .int x, .int y, .int z] m Q := by
  refine WPM.of pX11 (Nat.le_of_ble_eq_true rfl) rfl ?_
  refine wp_aload_n dX11_link_0 rfl ?_
  refine wp_iload_n dX11_link_1 rfl ?_
  refine wp_callV (As := [.int x]) (S := []) (b' := (0, 0)) (b := (0, 0)) dX11_link_2 MX11_93 (ka hF 293 (by decide)) rfl rfl rfl rfl (Nat.le_of_ble_eq_true rfl) ?_
  refine WPM.of pX11 (Nat.le_of_ble_eq_true rfl) rfl ?_
  refine wp_iload_n dX11_isNode_0 rfl ?_
  refine wp_iconst (0 : Int32) dX11_isNode_1 (by decide) ?_
  refine wp_aload_n dX11_isNode_2 rfl ?_
  refine wp_getr (gB G + 294) dX11_isNode_3 fX11_7 (ka hF 293 (by decide)) (hF.2 _ _) (rra 1 (isK_le (ka hF 293 (by decide))) (fun _ => rfl)) ?_
  refine wp_bipush (12 : Int32) dX11_isNode_6 (by decide) ?_
  refine wp_ialdk (n := 1486) 12 (nI n) dX11_isNode_8 (ka hF 294 (by decide)) (la 294) (vinl (by decide)) rfl hn ?_
  refine wp_iconst (1 : Int32) dX11_isNode_9 (by decide) ?_
  refine wp_isubv ((nI n) - (1 : Int32)) dX11_isNode_10 rfl ?_
  refine wp_callS (As := [.int x, .int (0 : Int32), .int ((nI n) - (1 : Int32))]) (S := []) (b' := (0, 0)) (b := (0, 0)) dX11_isNode_11 MX11_67 rfl rfl (Nat.le_of_ble_eq_true rfl) ?_
  refine WPM.of pX11 (Nat.le_of_ble_eq_true rfl) rfl ?_
  refine wp_iload_n dX11_isBetween_0 rfl ?_
  refine wp_iload_n dX11_isBetween_1 rfl ?_
  refine wp_icmp_lt 14 dX11_isBetween_2 (by decide) (fun _ => ?_) (fun q => absurd hx q)
  refine wp_iconst (0 : Int32) dX11_isBetween_14 (by decide) ?_
  refine wp_zret dX11_isBetween_15 rfl rfl ?_
  show WP G (d + 5) (0, 0) μX11_isNode 14 [.ref (gB G + 293), .int x] [.int (0 : Int32)] m _
  refine wp_zret dX11_isNode_14 rfl rfl ?_
  show WP G (d + 6) (0, 0) μX11_link 5 [.ref (gB G + 293), .int x, .int y, .int z, lvU] [.int (0 : Int32)] m _
  refine wp_if_eq 16 dX11_link_5 (by decide) (fun _ => ?_) (fun q => absurd (by decide) q)
  refine wp_ldc dX11_link_16 kX11_96 ?_
  exact wp_iret dX11_link_18 rfl (e1)

theorem bC_link {G : Cx} {d : Nat} {m : Mm} {Q : Option Value → Mm → Prop} {x y z : Int32} {n : Nat}  (hF : Full G m) (hn : fi m 5 (gB G + 1) = nI n) (hm : n ≤ 12) (hxa : ¬ x < 0) (hxb : ¬ x < nI n) 
    (e1 : Q (some (.int (-1000000001 : Int32))) m) :
    WPM G (d + 6) (0, 0) μX10_link [.ref (gB G), .int x, .int y, .int z] m Q := by
  refine WPM.of pX10 (Nat.le_of_ble_eq_true rfl) rfl ?_
  refine wp_aload_n dX10_link_0 rfl ?_
  refine wp_getr (gB G + 1) dX10_link_1 fX10_10 (ka0 hF) (hF.2 _ _) (rra 1 (isK_le (ka0 hF)) (fun _ => rfl)) ?_
  refine wp_iload_n dX10_link_4 rfl ?_
  refine wp_callV (As := [.int x]) (S := []) (b' := (0, 0)) (b := (0, 0)) dX10_link_5 MX10_58 (kc0 hF (isC1 G)) rfl rfl rfl rfl (Nat.le_of_ble_eq_true rfl) ?_
  refine WPM.of pX0 (Nat.le_of_ble_eq_true rfl) rfl ?_
  refine wp_iload_n dX0_hasNode_0 rfl ?_
  refine wp_if_lt 16 dX0_hasNode_1 (by decide) (fun q => absurd q hxa) (fun _ => ?_)
  refine wp_iload_n dX0_hasNode_4 rfl ?_
  refine wp_aload_n dX0_hasNode_5 rfl ?_
  refine wp_geti (nI n) dX0_hasNode_6 fX0_75 (Or.inl rfl) (kc0 hF (isC1 G)) hn ?_
  refine wp_icmp_ge 16 dX0_hasNode_9 (by decide) (fun _ => ?_) (fun q => absurd q hxb)
  refine wp_iconst (0 : Int32) dX0_hasNode_16 (by decide) ?_
  refine wp_zret dX0_hasNode_17 rfl rfl ?_
  show WP G (d + 6) (0, 0) μX10_link 8 [.ref (gB G), .int x, .int y, .int z, lvU, lvU] [.int (0 : Int32)] m _
  refine wp_if_eq 22 dX10_link_8 (by decide) (fun _ => ?_) (fun q => absurd (by decide) q)
  refine wp_ldc dX10_link_22 kX10_62 ?_
  exact wp_iret dX10_link_24 rfl (e1)

theorem bM_link {G : Cx} {d : Nat} {m : Mm} {Q : Option Value → Mm → Prop} {x y z : Int32} {n : Nat}  (hF : Full G m) (hn : ai m (gB G + 294) 12 = nI n) (hm : n ≤ 12) (hxa : ¬ x < 0) (hxb : ¬ x < nI n) 
    (e1 : Q (some (.int (-1000000001 : Int32))) m) :
    WPM G (d + 6) (0, 0) μX11_link [.ref (gB G + 293), .int x, .int y, .int z] m Q := by
  refine WPM.of pX11 (Nat.le_of_ble_eq_true rfl) rfl ?_
  refine wp_aload_n dX11_link_0 rfl ?_
  refine wp_iload_n dX11_link_1 rfl ?_
  refine wp_callV (As := [.int x]) (S := []) (b' := (0, 0)) (b := (0, 0)) dX11_link_2 MX11_93 (ka hF 293 (by decide)) rfl rfl rfl rfl (Nat.le_of_ble_eq_true rfl) ?_
  refine WPM.of pX11 (Nat.le_of_ble_eq_true rfl) rfl ?_
  refine wp_iload_n dX11_isNode_0 rfl ?_
  refine wp_iconst (0 : Int32) dX11_isNode_1 (by decide) ?_
  refine wp_aload_n dX11_isNode_2 rfl ?_
  refine wp_getr (gB G + 294) dX11_isNode_3 fX11_7 (ka hF 293 (by decide)) (hF.2 _ _) (rra 1 (isK_le (ka hF 293 (by decide))) (fun _ => rfl)) ?_
  refine wp_bipush (12 : Int32) dX11_isNode_6 (by decide) ?_
  refine wp_ialdk (n := 1486) 12 (nI n) dX11_isNode_8 (ka hF 294 (by decide)) (la 294) (vinl (by decide)) rfl hn ?_
  refine wp_iconst (1 : Int32) dX11_isNode_9 (by decide) ?_
  refine wp_isubv ((nI n) - (1 : Int32)) dX11_isNode_10 rfl ?_
  refine wp_callS (As := [.int x, .int (0 : Int32), .int ((nI n) - (1 : Int32))]) (S := []) (b' := (0, 0)) (b := (0, 0)) dX11_isNode_11 MX11_67 rfl rfl (Nat.le_of_ble_eq_true rfl) ?_
  refine WPM.of pX11 (Nat.le_of_ble_eq_true rfl) rfl ?_
  refine wp_iload_n dX11_isBetween_0 rfl ?_
  refine wp_iload_n dX11_isBetween_1 rfl ?_
  refine wp_icmp_lt 14 dX11_isBetween_2 (by decide) (fun q => absurd q hxa) (fun _ => ?_)
  refine wp_iload_n dX11_isBetween_5 rfl ?_
  refine wp_iload_n dX11_isBetween_6 rfl ?_
  refine wp_icmp_gt 14 dX11_isBetween_7 (by decide) (fun _ => ?_) (fun q => absurd (sub_lt (by omega) hxa hxb) q)
  refine wp_iconst (0 : Int32) dX11_isBetween_14 (by decide) ?_
  refine wp_zret dX11_isBetween_15 rfl rfl ?_
  show WP G (d + 5) (0, 0) μX11_isNode 14 [.ref (gB G + 293), .int x] [.int (0 : Int32)] m _
  refine wp_zret dX11_isNode_14 rfl rfl ?_
  show WP G (d + 6) (0, 0) μX11_link 5 [.ref (gB G + 293), .int x, .int y, .int z, lvU] [.int (0 : Int32)] m _
  refine wp_if_eq 16 dX11_link_5 (by decide) (fun _ => ?_) (fun q => absurd (by decide) q)
  refine wp_ldc dX11_link_16 kX11_96 ?_
  exact wp_iret dX11_link_18 rfl (e1)

theorem iaC_link {G : Cx} {d : Nat} {m : Mm} {Q : Option Value → Mm → Prop} {y z : Int32} {i n : Nat}  (hF : Full G m) (hn : fi m 5 (gB G + 1) = nI (n + 1)) (hm : n + 1 ≤ 12) (hi : i < n + 1) (hy : y < 0) 
    (e1 : Q (some (.int (-1000000001 : Int32))) m) :
    WPM G (d + 6) (0, 0) μX10_link [.ref (gB G), .int (nI i), .int y, .int z] m Q := by
  refine WPM.of pX10 (Nat.le_of_ble_eq_true rfl) rfl ?_
  refine wp_aload_n dX10_link_0 rfl ?_
  refine wp_getr (gB G + 1) dX10_link_1 fX10_10 (ka0 hF) (hF.2 _ _) (rra 1 (isK_le (ka0 hF)) (fun _ => rfl)) ?_
  refine wp_iload_n dX10_link_4 rfl ?_
  refine wp_callV (As := [.int (nI i)]) (S := []) (b' := (0, 0)) (b := (0, 0)) dX10_link_5 MX10_58 (kc0 hF (isC1 G)) rfl rfl rfl rfl (Nat.le_of_ble_eq_true rfl) ?_
  refine WPM.of pX0 (Nat.le_of_ble_eq_true rfl) rfl ?_
  refine wp_iload_n dX0_hasNode_0 rfl ?_
  refine wp_if_lt 16 dX0_hasNode_1 (by decide) (fun q => absurd q (nI_pos (by omega))) (fun _ => ?_)
  refine wp_iload_n dX0_hasNode_4 rfl ?_
  refine wp_aload_n dX0_hasNode_5 rfl ?_
  refine wp_geti (nI (n + 1)) dX0_hasNode_6 fX0_75 (Or.inl rfl) (kc0 hF (isC1 G)) hn ?_
  refine wp_icmp_ge 16 dX0_hasNode_9 (by decide) (fun q => absurd (nlt_ (a := i) (b := n + 1) hi (by omega)) q) (fun _ => ?_)
  refine wp_iconst (1 : Int32) dX0_hasNode_12 (by decide) ?_
  refine wp_goto 17 dX0_hasNode_13 (by decide) ?_
  refine wp_zret dX0_hasNode_17 rfl rfl ?_
  show WP G (d + 6) (0, 0) μX10_link 8 [.ref (gB G), .int (nI i), .int y, .int z, lvU, lvU] [.int (1 : Int32)] m _
  refine wp_if_eq 22 dX10_link_8 (by decide) (fun q => absurd q (by decide)) (fun _ => ?_)
  refine wp_aload_n dX10_link_11 rfl ?_
  refine wp_getr (gB G + 1) dX10_link_12 fX10_10 (ka0 hF) (hF.2 _ _) (rra 1 (isK_le (ka0 hF)) (fun _ => rfl)) ?_
  refine wp_iload_n dX10_link_15 rfl ?_
  refine wp_callV (As := [.int y]) (S := []) (b' := (0, 0)) (b := (0, 0)) dX10_link_16 MX10_58 (kc0 hF (isC1 G)) rfl rfl rfl rfl (Nat.le_of_ble_eq_true rfl) ?_
  refine WPM.of pX0 (Nat.le_of_ble_eq_true rfl) rfl ?_
  refine wp_iload_n dX0_hasNode_0 rfl ?_
  refine wp_if_lt 16 dX0_hasNode_1 (by decide) (fun _ => ?_) (fun q => absurd hy q)
  refine wp_iconst (0 : Int32) dX0_hasNode_16 (by decide) ?_
  refine wp_zret dX0_hasNode_17 rfl rfl ?_
  show WP G (d + 6) (0, 0) μX10_link 19 [.ref (gB G), .int (nI i), .int y, .int z, lvU, lvU] [.int (0 : Int32)] m _
  refine wp_if_ne 25 dX10_link_19 (by decide) (fun q => absurd (by decide) q) (fun _ => ?_)
  refine wp_ldc dX10_link_22 kX10_62 ?_
  exact wp_iret dX10_link_24 rfl (e1)

theorem iaM_link {G : Cx} {d : Nat} {m : Mm} {Q : Option Value → Mm → Prop} {y z : Int32} {i n : Nat}  (hF : Full G m) (hn : ai m (gB G + 294) 12 = nI (n + 1)) (hm : n + 1 ≤ 12) (hi : i < n + 1) (hy : y < 0) 
    (e1 : Q (some (.int (-1000000001 : Int32))) m) :
    WPM G (d + 6) (0, 0) μX11_link [.ref (gB G + 293), .int (nI i), .int y, .int z] m Q := by
  refine WPM.of pX11 (Nat.le_of_ble_eq_true rfl) rfl ?_
  refine wp_aload_n dX11_link_0 rfl ?_
  refine wp_iload_n dX11_link_1 rfl ?_
  refine wp_callV (As := [.int (nI i)]) (S := []) (b' := (0, 0)) (b := (0, 0)) dX11_link_2 MX11_93 (ka hF 293 (by decide)) rfl rfl rfl rfl (Nat.le_of_ble_eq_true rfl) ?_
  refine WPM.of pX11 (Nat.le_of_ble_eq_true rfl) rfl ?_
  refine wp_iload_n dX11_isNode_0 rfl ?_
  refine wp_iconst (0 : Int32) dX11_isNode_1 (by decide) ?_
  refine wp_aload_n dX11_isNode_2 rfl ?_
  refine wp_getr (gB G + 294) dX11_isNode_3 fX11_7 (ka hF 293 (by decide)) (hF.2 _ _) (rra 1 (isK_le (ka hF 293 (by decide))) (fun _ => rfl)) ?_
  refine wp_bipush (12 : Int32) dX11_isNode_6 (by decide) ?_
  refine wp_ialdk (n := 1486) 12 (nI (n + 1)) dX11_isNode_8 (ka hF 294 (by decide)) (la 294) (vinl (by decide)) rfl hn ?_
  refine wp_iconst (1 : Int32) dX11_isNode_9 (by decide) ?_
  refine wp_isubv (nI n) dX11_isNode_10 (nsub (a := n + 1) (b := 1) (by omega)) ?_
  refine wp_callS (As := [.int (nI i), .int (0 : Int32), .int (nI n)]) (S := []) (b' := (0, 0)) (b := (0, 0)) dX11_isNode_11 MX11_67 rfl rfl (Nat.le_of_ble_eq_true rfl) ?_
  refine WPM.of pX11 (Nat.le_of_ble_eq_true rfl) rfl ?_
  refine wp_iload_n dX11_isBetween_0 rfl ?_
  refine wp_iload_n dX11_isBetween_1 rfl ?_
  refine wp_icmp_lt 14 dX11_isBetween_2 (by decide) (fun q => absurd q (nI_pos (by omega))) (fun _ => ?_)
  refine wp_iload_n dX11_isBetween_5 rfl ?_
  refine wp_iload_n dX11_isBetween_6 rfl ?_
  refine wp_icmp_gt 14 dX11_isBetween_7 (by decide) (fun q => absurd q (fun z => (show ¬ n < i by omega) (nlt (a := n) (b := i) z (by omega) (by omega)))) (fun _ => ?_)
  refine wp_iconst (1 : Int32) dX11_isBetween_10 (by decide) ?_
  refine wp_goto 15 dX11_isBetween_11 (by decide) ?_
  refine wp_zret dX11_isBetween_15 rfl rfl ?_
  show WP G (d + 5) (0, 0) μX11_isNode 14 [.ref (gB G + 293), .int (nI i)] [.int (1 : Int32)] m _
  refine wp_zret dX11_isNode_14 rfl rfl ?_
  show WP G (d + 6) (0, 0) μX11_link 5 [.ref (gB G + 293), .int (nI i), .int y, .int z, lvU] [.int (1 : Int32)] m _
  refine wp_if_eq 16 dX11_link_5 (by decide) (fun q => absurd q (by decide)) (fun _ => ?_)
  refine wp_aload_n dX11_link_8 rfl ?_
  refine wp_iload_n dX11_link_9 rfl ?_
  refine wp_callV (As := [.int y]) (S := []) (b' := (0, 0)) (b := (0, 0)) dX11_link_10 MX11_93 (ka hF 293 (by decide)) rfl rfl rfl rfl (Nat.le_of_ble_eq_true rfl) ?_
  refine WPM.of pX11 (Nat.le_of_ble_eq_true rfl) rfl ?_
  refine wp_iload_n dX11_isNode_0 rfl ?_
  refine wp_iconst (0 : Int32) dX11_isNode_1 (by decide) ?_
  refine wp_aload_n dX11_isNode_2 rfl ?_
  refine wp_getr (gB G + 294) dX11_isNode_3 fX11_7 (ka hF 293 (by decide)) (hF.2 _ _) (rra 1 (isK_le (ka hF 293 (by decide))) (fun _ => rfl)) ?_
  refine wp_bipush (12 : Int32) dX11_isNode_6 (by decide) ?_
  refine wp_ialdk (n := 1486) 12 (nI (n + 1)) dX11_isNode_8 (ka hF 294 (by decide)) (la 294) (vinl (by decide)) rfl hn ?_
  refine wp_iconst (1 : Int32) dX11_isNode_9 (by decide) ?_
  refine wp_isubv (nI n) dX11_isNode_10 (nsub (a := n + 1) (b := 1) (by omega)) ?_
  refine wp_callS (As := [.int y, .int (0 : Int32), .int (nI n)]) (S := []) (b' := (0, 0)) (b := (0, 0)) dX11_isNode_11 MX11_67 rfl rfl (Nat.le_of_ble_eq_true rfl) ?_
  refine WPM.of pX11 (Nat.le_of_ble_eq_true rfl) rfl ?_
  refine wp_iload_n dX11_isBetween_0 rfl ?_
  refine wp_iload_n dX11_isBetween_1 rfl ?_
  refine wp_icmp_lt 14 dX11_isBetween_2 (by decide) (fun _ => ?_) (fun q => absurd hy q)
  refine wp_iconst (0 : Int32) dX11_isBetween_14 (by decide) ?_
  refine wp_zret dX11_isBetween_15 rfl rfl ?_
  show WP G (d + 5) (0, 0) μX11_isNode 14 [.ref (gB G + 293), .int y] [.int (0 : Int32)] m _
  refine wp_zret dX11_isNode_14 rfl rfl ?_
  show WP G (d + 6) (0, 0) μX11_link 13 [.ref (gB G + 293), .int (nI i), .int y, .int z, lvU] [.int (0 : Int32)] m _
  refine wp_if_ne 19 dX11_link_13 (by decide) (fun q => absurd (by decide) q) (fun _ => ?_)
  refine wp_ldc dX11_link_16 kX11_96 ?_
  exact wp_iret dX11_link_18 rfl (e1)

theorem ibC_link {G : Cx} {d : Nat} {m : Mm} {Q : Option Value → Mm → Prop} {y z : Int32} {i n : Nat}  (hF : Full G m) (hn : fi m 5 (gB G + 1) = nI (n + 1)) (hm : n + 1 ≤ 12) (hi : i < n + 1) (hya : ¬ y < 0) (hyb : ¬ y < nI (n + 1)) 
    (e1 : Q (some (.int (-1000000001 : Int32))) m) :
    WPM G (d + 6) (0, 0) μX10_link [.ref (gB G), .int (nI i), .int y, .int z] m Q := by
  refine WPM.of pX10 (Nat.le_of_ble_eq_true rfl) rfl ?_
  refine wp_aload_n dX10_link_0 rfl ?_
  refine wp_getr (gB G + 1) dX10_link_1 fX10_10 (ka0 hF) (hF.2 _ _) (rra 1 (isK_le (ka0 hF)) (fun _ => rfl)) ?_
  refine wp_iload_n dX10_link_4 rfl ?_
  refine wp_callV (As := [.int (nI i)]) (S := []) (b' := (0, 0)) (b := (0, 0)) dX10_link_5 MX10_58 (kc0 hF (isC1 G)) rfl rfl rfl rfl (Nat.le_of_ble_eq_true rfl) ?_
  refine WPM.of pX0 (Nat.le_of_ble_eq_true rfl) rfl ?_
  refine wp_iload_n dX0_hasNode_0 rfl ?_
  refine wp_if_lt 16 dX0_hasNode_1 (by decide) (fun q => absurd q (nI_pos (by omega))) (fun _ => ?_)
  refine wp_iload_n dX0_hasNode_4 rfl ?_
  refine wp_aload_n dX0_hasNode_5 rfl ?_
  refine wp_geti (nI (n + 1)) dX0_hasNode_6 fX0_75 (Or.inl rfl) (kc0 hF (isC1 G)) hn ?_
  refine wp_icmp_ge 16 dX0_hasNode_9 (by decide) (fun q => absurd (nlt_ (a := i) (b := n + 1) hi (by omega)) q) (fun _ => ?_)
  refine wp_iconst (1 : Int32) dX0_hasNode_12 (by decide) ?_
  refine wp_goto 17 dX0_hasNode_13 (by decide) ?_
  refine wp_zret dX0_hasNode_17 rfl rfl ?_
  show WP G (d + 6) (0, 0) μX10_link 8 [.ref (gB G), .int (nI i), .int y, .int z, lvU, lvU] [.int (1 : Int32)] m _
  refine wp_if_eq 22 dX10_link_8 (by decide) (fun q => absurd q (by decide)) (fun _ => ?_)
  refine wp_aload_n dX10_link_11 rfl ?_
  refine wp_getr (gB G + 1) dX10_link_12 fX10_10 (ka0 hF) (hF.2 _ _) (rra 1 (isK_le (ka0 hF)) (fun _ => rfl)) ?_
  refine wp_iload_n dX10_link_15 rfl ?_
  refine wp_callV (As := [.int y]) (S := []) (b' := (0, 0)) (b := (0, 0)) dX10_link_16 MX10_58 (kc0 hF (isC1 G)) rfl rfl rfl rfl (Nat.le_of_ble_eq_true rfl) ?_
  refine WPM.of pX0 (Nat.le_of_ble_eq_true rfl) rfl ?_
  refine wp_iload_n dX0_hasNode_0 rfl ?_
  refine wp_if_lt 16 dX0_hasNode_1 (by decide) (fun q => absurd q hya) (fun _ => ?_)
  refine wp_iload_n dX0_hasNode_4 rfl ?_
  refine wp_aload_n dX0_hasNode_5 rfl ?_
  refine wp_geti (nI (n + 1)) dX0_hasNode_6 fX0_75 (Or.inl rfl) (kc0 hF (isC1 G)) hn ?_
  refine wp_icmp_ge 16 dX0_hasNode_9 (by decide) (fun _ => ?_) (fun q => absurd q hyb)
  refine wp_iconst (0 : Int32) dX0_hasNode_16 (by decide) ?_
  refine wp_zret dX0_hasNode_17 rfl rfl ?_
  show WP G (d + 6) (0, 0) μX10_link 19 [.ref (gB G), .int (nI i), .int y, .int z, lvU, lvU] [.int (0 : Int32)] m _
  refine wp_if_ne 25 dX10_link_19 (by decide) (fun q => absurd (by decide) q) (fun _ => ?_)
  refine wp_ldc dX10_link_22 kX10_62 ?_
  exact wp_iret dX10_link_24 rfl (e1)

theorem ibM_link {G : Cx} {d : Nat} {m : Mm} {Q : Option Value → Mm → Prop} {y z : Int32} {i n : Nat}  (hF : Full G m) (hn : ai m (gB G + 294) 12 = nI (n + 1)) (hm : n + 1 ≤ 12) (hi : i < n + 1) (hya : ¬ y < 0) (hyb : ¬ y < nI (n + 1)) 
    (e1 : Q (some (.int (-1000000001 : Int32))) m) :
    WPM G (d + 6) (0, 0) μX11_link [.ref (gB G + 293), .int (nI i), .int y, .int z] m Q := by
  refine WPM.of pX11 (Nat.le_of_ble_eq_true rfl) rfl ?_
  refine wp_aload_n dX11_link_0 rfl ?_
  refine wp_iload_n dX11_link_1 rfl ?_
  refine wp_callV (As := [.int (nI i)]) (S := []) (b' := (0, 0)) (b := (0, 0)) dX11_link_2 MX11_93 (ka hF 293 (by decide)) rfl rfl rfl rfl (Nat.le_of_ble_eq_true rfl) ?_
  refine WPM.of pX11 (Nat.le_of_ble_eq_true rfl) rfl ?_
  refine wp_iload_n dX11_isNode_0 rfl ?_
  refine wp_iconst (0 : Int32) dX11_isNode_1 (by decide) ?_
  refine wp_aload_n dX11_isNode_2 rfl ?_
  refine wp_getr (gB G + 294) dX11_isNode_3 fX11_7 (ka hF 293 (by decide)) (hF.2 _ _) (rra 1 (isK_le (ka hF 293 (by decide))) (fun _ => rfl)) ?_
  refine wp_bipush (12 : Int32) dX11_isNode_6 (by decide) ?_
  refine wp_ialdk (n := 1486) 12 (nI (n + 1)) dX11_isNode_8 (ka hF 294 (by decide)) (la 294) (vinl (by decide)) rfl hn ?_
  refine wp_iconst (1 : Int32) dX11_isNode_9 (by decide) ?_
  refine wp_isubv (nI n) dX11_isNode_10 (nsub (a := n + 1) (b := 1) (by omega)) ?_
  refine wp_callS (As := [.int (nI i), .int (0 : Int32), .int (nI n)]) (S := []) (b' := (0, 0)) (b := (0, 0)) dX11_isNode_11 MX11_67 rfl rfl (Nat.le_of_ble_eq_true rfl) ?_
  refine WPM.of pX11 (Nat.le_of_ble_eq_true rfl) rfl ?_
  refine wp_iload_n dX11_isBetween_0 rfl ?_
  refine wp_iload_n dX11_isBetween_1 rfl ?_
  refine wp_icmp_lt 14 dX11_isBetween_2 (by decide) (fun q => absurd q (nI_pos (by omega))) (fun _ => ?_)
  refine wp_iload_n dX11_isBetween_5 rfl ?_
  refine wp_iload_n dX11_isBetween_6 rfl ?_
  refine wp_icmp_gt 14 dX11_isBetween_7 (by decide) (fun q => absurd q (fun z => (show ¬ n < i by omega) (nlt (a := n) (b := i) z (by omega) (by omega)))) (fun _ => ?_)
  refine wp_iconst (1 : Int32) dX11_isBetween_10 (by decide) ?_
  refine wp_goto 15 dX11_isBetween_11 (by decide) ?_
  refine wp_zret dX11_isBetween_15 rfl rfl ?_
  show WP G (d + 5) (0, 0) μX11_isNode 14 [.ref (gB G + 293), .int (nI i)] [.int (1 : Int32)] m _
  refine wp_zret dX11_isNode_14 rfl rfl ?_
  show WP G (d + 6) (0, 0) μX11_link 5 [.ref (gB G + 293), .int (nI i), .int y, .int z, lvU] [.int (1 : Int32)] m _
  refine wp_if_eq 16 dX11_link_5 (by decide) (fun q => absurd q (by decide)) (fun _ => ?_)
  refine wp_aload_n dX11_link_8 rfl ?_
  refine wp_iload_n dX11_link_9 rfl ?_
  refine wp_callV (As := [.int y]) (S := []) (b' := (0, 0)) (b := (0, 0)) dX11_link_10 MX11_93 (ka hF 293 (by decide)) rfl rfl rfl rfl (Nat.le_of_ble_eq_true rfl) ?_
  refine WPM.of pX11 (Nat.le_of_ble_eq_true rfl) rfl ?_
  refine wp_iload_n dX11_isNode_0 rfl ?_
  refine wp_iconst (0 : Int32) dX11_isNode_1 (by decide) ?_
  refine wp_aload_n dX11_isNode_2 rfl ?_
  refine wp_getr (gB G + 294) dX11_isNode_3 fX11_7 (ka hF 293 (by decide)) (hF.2 _ _) (rra 1 (isK_le (ka hF 293 (by decide))) (fun _ => rfl)) ?_
  refine wp_bipush (12 : Int32) dX11_isNode_6 (by decide) ?_
  refine wp_ialdk (n := 1486) 12 (nI (n + 1)) dX11_isNode_8 (ka hF 294 (by decide)) (la 294) (vinl (by decide)) rfl hn ?_
  refine wp_iconst (1 : Int32) dX11_isNode_9 (by decide) ?_
  refine wp_isubv (nI n) dX11_isNode_10 (nsub (a := n + 1) (b := 1) (by omega)) ?_
  refine wp_callS (As := [.int y, .int (0 : Int32), .int (nI n)]) (S := []) (b' := (0, 0)) (b := (0, 0)) dX11_isNode_11 MX11_67 rfl rfl (Nat.le_of_ble_eq_true rfl) ?_
  refine WPM.of pX11 (Nat.le_of_ble_eq_true rfl) rfl ?_
  refine wp_iload_n dX11_isBetween_0 rfl ?_
  refine wp_iload_n dX11_isBetween_1 rfl ?_
  refine wp_icmp_lt 14 dX11_isBetween_2 (by decide) (fun q => absurd q hya) (fun _ => ?_)
  refine wp_iload_n dX11_isBetween_5 rfl ?_
  refine wp_iload_n dX11_isBetween_6 rfl ?_
  refine wp_icmp_gt 14 dX11_isBetween_7 (by decide) (fun _ => ?_) (fun q => absurd (sub_lt1 (by omega) hya hyb) q)
  refine wp_iconst (0 : Int32) dX11_isBetween_14 (by decide) ?_
  refine wp_zret dX11_isBetween_15 rfl rfl ?_
  show WP G (d + 5) (0, 0) μX11_isNode 14 [.ref (gB G + 293), .int y] [.int (0 : Int32)] m _
  refine wp_zret dX11_isNode_14 rfl rfl ?_
  show WP G (d + 6) (0, 0) μX11_link 13 [.ref (gB G + 293), .int (nI i), .int y, .int z, lvU] [.int (0 : Int32)] m _
  refine wp_if_ne 19 dX11_link_13 (by decide) (fun q => absurd (by decide) q) (fun _ => ?_)
  refine wp_ldc dX11_link_16 kX11_96 ?_
  exact wp_iret dX11_link_18 rfl (e1)

theorem eC_pol {G : Cx} {d : Nat} {m : Mm} {Q : Option Value → Mm → Prop} {c a b : Nat} (hF : Full G m) (hc : IsC G c)
    (e1 : WP G (d + 1) (0, 0) μX0_placeOfLink 2 [.ref c, .int (nI a), .int (nI b), .int (0 : Int32), lvU] [] m Q) :
    WPM G (d + 1) (0, 0) μX0_placeOfLink [.ref c, .int (nI a), .int (nI b)] m Q := by
  refine WPM.of pX0 (Nat.le_of_ble_eq_true rfl) rfl ?_
  refine wp_iconst (0 : Int32) dX0_placeOfLink_0 (by decide) ?_
  refine wp_istore_n dX0_placeOfLink_1 (by decide) rfl ?_
  refine wp_forget [.ref c, .int (nI a), .int (nI b), .int (0 : Int32), lvU] ⟨Or.inl rfl, Or.inl rfl, Or.inl rfl, Or.inl rfl, Or.inr rfl, trivial⟩ ?_
  exact e1

theorem bC_pol {G : Cx} {d : Nat} {m : Mm} {Q : Option Value → Mm → Prop} {c a b p n q r : Nat} (hF : Full G m) (hc : IsC G c) (hn : fi m 6 c = nI n) (h24 : n ≤ 24) (hp : p ≤ n) (h1 : p < n → fi m 200 (lk c p) = nI q) (h2 : p < n → fi m 201 (lk c p) = nI r) (ha : a < 12) (hb : b < 12) (hq : p < n → q < 12) (hr : p < n → r < 12)
    (e1 : ¬ p < n → Q (some (.int (-1 : Int32))) m)
    (e2 : p < n → ¬ q = a → ¬ q = b → WP G (d + 1) (0, 0) μX0_placeOfLink 2 [.ref c, .int (nI a), .int (nI b), .int (nI (p + 1)), lvU] [] m Q)
    (e3 : p < n → ¬ q = a → q = b → ¬ r = a → WP G (d + 1) (0, 0) μX0_placeOfLink 2 [.ref c, .int (nI a), .int (nI b), .int (nI (p + 1)), lvU] [] m Q)
    (e4 : p < n → ¬ q = a → q = b → r = a → Q (some (.int (nI p))) m)
    (e5 : p < n → q = a → r = b → Q (some (.int (nI p))) m)
    (e6 : p < n → q = a → ¬ r = b → ¬ q = b → WP G (d + 1) (0, 0) μX0_placeOfLink 2 [.ref c, .int (nI a), .int (nI b), .int (nI (p + 1)), lvU] [] m Q)
    (e7 : p < n → q = a → ¬ r = b → q = b → ¬ r = a → WP G (d + 1) (0, 0) μX0_placeOfLink 2 [.ref c, .int (nI a), .int (nI b), .int (nI (p + 1)), lvU] [] m Q)
    (e8 : p < n → q = a → ¬ r = b → q = b → r = a → Q (some (.int (nI p))) m) :
    WP G (d + 1) (0, 0) μX0_placeOfLink 2 [.ref c, .int (nI a), .int (nI b), .int (nI p), lvU] [] m Q := by
  refine wp_iload_n dX0_placeOfLink_2 rfl ?_
  refine wp_aload_n dX0_placeOfLink_3 rfl ?_
  refine wp_geti (nI n) dX0_placeOfLink_4 fX0_82 (Or.inl rfl) (kc0 hF hc) hn ?_
  refine wp_icmp_ge 62 dX0_placeOfLink_7 (by decide) (fun q1 => ?_) (fun q2 => ?_)
  · have hp3 : ¬ p < n := (fun z => q1 (nlt_ (b := n) z (by omega)))
    refine wp_iconst (-1 : Int32) dX0_placeOfLink_62 (by decide) ?_
    exact wp_iret dX0_placeOfLink_63 rfl (e1 hp3)
  · have hp4 : p < n := (nlt q2 (by omega) (by omega))
    refine wp_aload_n dX0_placeOfLink_10 rfl ?_
    refine wp_getr (c + 2) dX0_placeOfLink_11 fX0_19 (kc0 hF hc) (hF.2 _ _) (rra 2 (isK_le (kc0 hF hc)) (fun _ => rfl)) ?_
    refine wp_iload_n dX0_placeOfLink_14 rfl ?_
    refine wp_raldk (n := 24) p (lk c p) dX0_placeOfLink_15 (kc hF hc 2 (by decide)) (by decide) (by decide) (lc hc 2 (by decide)) (vin (by omega) (by decide)) (nIc (by omega)) (hF.2 _ _) (rlk hF hc) ?_
    refine wp_astore dX0_placeOfLink_16 (by decide) rfl ?_
    refine wp_aload dX0_placeOfLink_18 rfl ?_
    refine wp_geti (nI q) dX0_placeOfLink_20 fX0_115 (Or.inl rfl) (klk hF hc (by omega)) (h1 (by omega)) ?_
    refine wp_iload_n dX0_placeOfLink_23 rfl ?_
    refine wp_icmp_ne 36 dX0_placeOfLink_24 (by decide) (fun q5 => ?_) (fun q6 => ?_)
    · have hp7 : ¬ q = a := (fun z => q5 (congrArg nI z))
      refine wp_aload dX0_placeOfLink_36 rfl ?_
      refine wp_geti (nI q) dX0_placeOfLink_38 fX0_115 (Or.inl rfl) (klk hF hc (by omega)) (h1 (by omega)) ?_
      refine wp_iload_n dX0_placeOfLink_41 rfl ?_
      refine wp_icmp_ne 56 dX0_placeOfLink_42 (by decide) (fun q8 => ?_) (fun q9 => ?_)
      · have hp10 : ¬ q = b := (fun z => q8 (congrArg nI z))
        refine wp_iinc (nI (p + 1)) dX0_placeOfLink_56 rfl (by decide) (nadd (a := p) (b := 1) (by omega)) rfl ?_
        refine wp_goto 2 dX0_placeOfLink_59 (by decide) ?_
        refine wp_forget [.ref c, .int (nI a), .int (nI b), .int (nI (p + 1)), lvU] ⟨Or.inl rfl, Or.inl rfl, Or.inl rfl, Or.inl rfl, Or.inr rfl, trivial⟩ ?_
        exact e2 hp4 hp7 hp10
      · have hp11 : q = b := (neq q9 (by omega) (by omega))
        refine wp_aload dX0_placeOfLink_45 rfl ?_
        refine wp_geti (nI r) dX0_placeOfLink_47 fX0_118 (Or.inl rfl) (klk hF hc (by omega)) (h2 (by omega)) ?_
        refine wp_iload_n dX0_placeOfLink_50 rfl ?_
        refine wp_icmp_ne 56 dX0_placeOfLink_51 (by decide) (fun q12 => ?_) (fun q13 => ?_)
        · have hp14 : ¬ r = a := (fun z => q12 (congrArg nI z))
          refine wp_iinc (nI (p + 1)) dX0_placeOfLink_56 rfl (by decide) (nadd (a := p) (b := 1) (by omega)) rfl ?_
          refine wp_goto 2 dX0_placeOfLink_59 (by decide) ?_
          refine wp_forget [.ref c, .int (nI a), .int (nI b), .int (nI (p + 1)), lvU] ⟨Or.inl rfl, Or.inl rfl, Or.inl rfl, Or.inl rfl, Or.inr rfl, trivial⟩ ?_
          exact e3 hp4 hp7 hp11 hp14
        · have hp15 : r = a := (neq q13 (by omega) (by omega))
          refine wp_iload_n dX0_placeOfLink_54 rfl ?_
          exact wp_iret dX0_placeOfLink_55 rfl (e4 hp4 hp7 hp11 hp15)
    · have hp16 : q = a := (neq q6 (by omega) (by omega))
      refine wp_aload dX0_placeOfLink_27 rfl ?_
      refine wp_geti (nI r) dX0_placeOfLink_29 fX0_118 (Or.inl rfl) (klk hF hc (by omega)) (h2 (by omega)) ?_
      refine wp_iload_n dX0_placeOfLink_32 rfl ?_
      refine wp_icmp_eq 54 dX0_placeOfLink_33 (by decide) (fun q17 => ?_) (fun q18 => ?_)
      · have hp19 : r = b := (neq q17 (by omega) (by omega))
        refine wp_iload_n dX0_placeOfLink_54 rfl ?_
        exact wp_iret dX0_placeOfLink_55 rfl (e5 hp4 hp16 hp19)
      · have hp20 : ¬ r = b := (fun z => q18 (congrArg nI z))
        refine wp_aload dX0_placeOfLink_36 rfl ?_
        refine wp_geti (nI q) dX0_placeOfLink_38 fX0_115 (Or.inl rfl) (klk hF hc (by omega)) (h1 (by omega)) ?_
        refine wp_iload_n dX0_placeOfLink_41 rfl ?_
        refine wp_icmp_ne 56 dX0_placeOfLink_42 (by decide) (fun q21 => ?_) (fun q22 => ?_)
        · have hp23 : ¬ q = b := (fun z => q21 (congrArg nI z))
          refine wp_iinc (nI (p + 1)) dX0_placeOfLink_56 rfl (by decide) (nadd (a := p) (b := 1) (by omega)) rfl ?_
          refine wp_goto 2 dX0_placeOfLink_59 (by decide) ?_
          refine wp_forget [.ref c, .int (nI a), .int (nI b), .int (nI (p + 1)), lvU] ⟨Or.inl rfl, Or.inl rfl, Or.inl rfl, Or.inl rfl, Or.inr rfl, trivial⟩ ?_
          exact e6 hp4 hp16 hp20 hp23
        · have hp24 : q = b := (neq q22 (by omega) (by omega))
          refine wp_aload dX0_placeOfLink_45 rfl ?_
          refine wp_geti (nI r) dX0_placeOfLink_47 fX0_118 (Or.inl rfl) (klk hF hc (by omega)) (h2 (by omega)) ?_
          refine wp_iload_n dX0_placeOfLink_50 rfl ?_
          refine wp_icmp_ne 56 dX0_placeOfLink_51 (by decide) (fun q25 => ?_) (fun q26 => ?_)
          · have hp27 : ¬ r = a := (fun z => q25 (congrArg nI z))
            refine wp_iinc (nI (p + 1)) dX0_placeOfLink_56 rfl (by decide) (nadd (a := p) (b := 1) (by omega)) rfl ?_
            refine wp_goto 2 dX0_placeOfLink_59 (by decide) ?_
            refine wp_forget [.ref c, .int (nI a), .int (nI b), .int (nI (p + 1)), lvU] ⟨Or.inl rfl, Or.inl rfl, Or.inl rfl, Or.inl rfl, Or.inr rfl, trivial⟩ ?_
            exact e7 hp4 hp16 hp20 hp24 hp27
          · have hp28 : r = a := (neq q26 (by omega) (by omega))
            refine wp_iload_n dX0_placeOfLink_54 rfl ?_
            exact wp_iret dX0_placeOfLink_55 rfl (e8 hp4 hp16 hp20 hp24 hp28)

theorem eM_lc {G : Cx} {d : Nat} {m : Mm} {Q : Option Value → Mm → Prop}  (hF : Full G m) 
    (e1 : WP G (d + 2) (0, 0) μX11_linkCount 4 [.ref (gB G + 293), .int (0 : Int32), .int (0 : Int32), lvU] [] m Q) :
    WPM G (d + 2) (0, 0) μX11_linkCount [.ref (gB G + 293)] m Q := by
  refine WPM.of pX11 (Nat.le_of_ble_eq_true rfl) rfl ?_
  refine wp_iconst (0 : Int32) dX11_linkCount_0 (by decide) ?_
  refine wp_istore_n dX11_linkCount_1 (by decide) rfl ?_
  refine wp_iconst (0 : Int32) dX11_linkCount_2 (by decide) ?_
  refine wp_istore_n dX11_linkCount_3 (by decide) rfl ?_
  refine wp_forget [.ref (gB G + 293), .int (0 : Int32), .int (0 : Int32), lvU] ⟨Or.inl rfl, Or.inl rfl, Or.inl rfl, Or.inr rfl, trivial⟩ ?_
  exact e1

theorem bM_lc1 {G : Cx} {d : Nat} {m : Mm} {Q : Option Value → Mm → Prop} {s : Int32} {a n : Nat} (hF : Full G m) (hn : ai m (gB G + 294) 12 = nI n) (h12 : n ≤ 12) (ha : a ≤ n)
    (e1 : ¬ a < n → Q (some (.int s)) m)
    (e2 : a < n → WP G (d + 2) (0, 0) μX11_linkCount 17 [.ref (gB G + 293), .int s, .int (nI a), .int (0 : Int32)] [] m Q) :
    WP G (d + 2) (0, 0) μX11_linkCount 4 [.ref (gB G + 293), .int s, .int (nI a), lvU] [] m Q := by
  refine wp_iload_n dX11_linkCount_4 rfl ?_
  refine wp_aload_n dX11_linkCount_5 rfl ?_
  refine wp_getr (gB G + 294) dX11_linkCount_6 fX11_7 (ka hF 293 (by decide)) (hF.2 _ _) (rra 1 (isK_le (ka hF 293 (by decide))) (fun _ => rfl)) ?_
  refine wp_bipush (12 : Int32) dX11_linkCount_9 (by decide) ?_
  refine wp_ialdk (n := 1486) 12 (nI n) dX11_linkCount_11 (ka hF 294 (by decide)) (la 294) (vinl (by decide)) rfl hn ?_
  refine wp_icmp_ge 51 dX11_linkCount_12 (by decide) (fun q1 => ?_) (fun q2 => ?_)
  · have hp3 : ¬ a < n := (fun z => q1 (nlt_ (b := n) z (by omega)))
    refine wp_iload_n dX11_linkCount_51 rfl ?_
    exact wp_iret dX11_linkCount_52 rfl (e1 hp3)
  · have hp4 : a < n := (nlt q2 (by omega) (by omega))
    refine wp_iconst (0 : Int32) dX11_linkCount_15 (by decide) ?_
    refine wp_istore_n dX11_linkCount_16 (by decide) rfl ?_
    refine wp_forget [.ref (gB G + 293), .int s, .int (nI a), .int (0 : Int32)] ⟨Or.inl rfl, Or.inl rfl, Or.inl rfl, Or.inl rfl, trivial⟩ ?_
    exact e2 hp4

theorem bM_lc2 {G : Cx} {d : Nat} {m : Mm} {Q : Option Value → Mm → Prop} {s : Int32} {a b : Nat} (hF : Full G m) (ha : a < 12) (hb : b ≤ a)
    (e1 : ¬ b < a → WP G (d + 2) (0, 0) μX11_linkCount 4 [.ref (gB G + 293), .int s, .int (nI (a + 1)), lvU] [] m Q)
    (e2 : b < a → ¬ 0 < (ai m (gB G + 294) (12 * a + b + 152)) → WP G (d + 2) (0, 0) μX11_linkCount 17 [.ref (gB G + 293), .int (s + (0 : Int32)), .int (nI a), .int (nI (b + 1))] [] m Q)
    (e3 : b < a → 0 < (ai m (gB G + 294) (12 * a + b + 152)) → WP G (d + 2) (0, 0) μX11_linkCount 17 [.ref (gB G + 293), .int (s + (1 : Int32)), .int (nI a), .int (nI (b + 1))] [] m Q) :
    WP G (d + 2) (0, 0) μX11_linkCount 17 [.ref (gB G + 293), .int s, .int (nI a), .int (nI b)] [] m Q := by
  refine wp_iload_n dX11_linkCount_17 rfl ?_
  refine wp_iload_n dX11_linkCount_18 rfl ?_
  refine wp_icmp_ge 45 dX11_linkCount_19 (by decide) (fun q1 => ?_) (fun q2 => ?_)
  · have hp3 : ¬ b < a := (fun z => q1 (nlt_ (b := a) z (by omega)))
    refine wp_iinc (nI (a + 1)) dX11_linkCount_45 rfl (by decide) (nadd (a := a) (b := 1) (by omega)) rfl ?_
    refine wp_goto 4 dX11_linkCount_48 (by decide) ?_
    refine wp_forget [.ref (gB G + 293), .int s, .int (nI (a + 1)), lvU] ⟨Or.inl rfl, Or.inl rfl, Or.inl rfl, Or.inr rfl, trivial⟩ ?_
    exact e1 hp3
  · have hp4 : b < a := (nlt q2 (by omega) (by omega))
    refine wp_iload_n dX11_linkCount_22 rfl ?_
    refine wp_aload_n dX11_linkCount_23 rfl ?_
    refine wp_iload_n dX11_linkCount_24 rfl ?_
    refine wp_iload_n dX11_linkCount_25 rfl ?_
    refine wp_callV (As := [.int (nI a), .int (nI b)]) (S := [.int s]) (b' := (0, 0)) (b := (0, 0)) dX11_linkCount_26 MX11_101 (ka hF 293 (by decide)) rfl rfl rfl rfl (Nat.le_of_ble_eq_true rfl) ?_
    refine WPM.of pX11 (Nat.le_of_ble_eq_true rfl) rfl ?_
    refine wp_aload_n dX11_linkOf_0 rfl ?_
    refine wp_getr (gB G + 294) dX11_linkOf_1 fX11_7 (ka hF 293 (by decide)) (hF.2 _ _) (rra 1 (isK_le (ka hF 293 (by decide))) (fun _ => rfl)) ?_
    refine wp_sipush (152 : Int32) dX11_linkOf_4 (by decide) ?_
    refine wp_bipush (12 : Int32) dX11_linkOf_7 (by decide) ?_
    refine wp_iload_n dX11_linkOf_9 rfl ?_
    refine wp_imulv (nI (12 * a)) dX11_linkOf_10 (nmul (a := 12) (b := a) (by omega)) ?_
    refine wp_iaddv (nI (12 * a + 152)) dX11_linkOf_11 (nadd (a := 152) (b := 12 * a) (by omega)) ?_
    refine wp_iload_n dX11_linkOf_12 rfl ?_
    refine wp_iaddv (nI (12 * a + b + 152)) dX11_linkOf_13 (nadd (a := 12 * a + 152) (b := b) (by omega)) ?_
    refine wp_ialdk (n := 1486) (12 * a + b + 152) (ai m (gB G + 294) (12 * a + b + 152)) dX11_linkOf_14 (ka hF 294 (by decide)) (la 294) (vin (by omega) (by decide)) (nIc (by omega)) rfl ?_
    refine wp_iret dX11_linkOf_15 rfl ?_
    show WP G (d + 2) (0, 0) μX11_linkCount 29 [.ref (gB G + 293), .int s, .int (nI a), .int (nI b)] [.int (ai m (gB G + 294) (12 * a + b + 152)), .int s] m _
    refine wp_if_le 36 dX11_linkCount_29 (by decide) (fun q5 => ?_) (fun q6 => ?_)
    · skip
      refine wp_iconst (0 : Int32) dX11_linkCount_36 (by decide) ?_
      refine wp_iaddv (s + (0 : Int32)) dX11_linkCount_37 rfl ?_
      refine wp_istore_n dX11_linkCount_38 (by decide) rfl ?_
      refine wp_iinc (nI (b + 1)) dX11_linkCount_39 rfl (by decide) (nadd (a := b) (b := 1) (by omega)) rfl ?_
      refine wp_goto 17 dX11_linkCount_42 (by decide) ?_
      refine wp_forget [.ref (gB G + 293), .int (s + (0 : Int32)), .int (nI a), .int (nI (b + 1))] ⟨Or.inl rfl, Or.inl rfl, Or.inl rfl, Or.inl rfl, trivial⟩ ?_
      exact e2 hp4 q5
    · skip
      refine wp_iconst (1 : Int32) dX11_linkCount_32 (by decide) ?_
      refine wp_goto 37 dX11_linkCount_33 (by decide) ?_
      refine wp_iaddv (s + (1 : Int32)) dX11_linkCount_37 rfl ?_
      refine wp_istore_n dX11_linkCount_38 (by decide) rfl ?_
      refine wp_iinc (nI (b + 1)) dX11_linkCount_39 rfl (by decide) (nadd (a := b) (b := 1) (by omega)) rfl ?_
      refine wp_goto 17 dX11_linkCount_42 (by decide) ?_
      refine wp_forget [.ref (gB G + 293), .int (s + (1 : Int32)), .int (nI a), .int (nI (b + 1))] ⟨Or.inl rfl, Or.inl rfl, Or.inl rfl, Or.inl rfl, trivial⟩ ?_
      exact e3 hp4 q6

theorem sC_mkl {G : Cx} {d : Nat} {m : Mm} {Q : Option Value → Mm → Prop} {c a b n : Nat} {z : Int32} (hF : Full G m) (hc : IsC G c) (hn : fi m 6 c = nI n) (h24 : n ≤ 24)
    (e1 : ¬ z = 0 → n < 24 → Q (some (.int (0 : Int32))) (wfi (wfi (wfi (wfi m 200 (lk c n) (nI a)) 201 (lk c n) (nI b)) 202 (lk c n) z) 6 c (nI (n + 1))))
    (e2 : ¬ z = 0 → ¬ n < 24 → Q (some (.int (-1000000003 : Int32))) m)
    (e3 : z = 0 → Q (some (.int (0 : Int32))) m) :
    WPM G (d + 2) (0, 0) μX0_makeLink [.ref c, .int (nI a), .int (nI b), .int z] m Q := by
  refine WPM.of pX0 (Nat.le_of_ble_eq_true rfl) rfl ?_
  refine wp_iload_n dX0_makeLink_0 rfl ?_
  refine wp_if_ne 6 dX0_makeLink_1 (by decide) (fun q1 => ?_) (fun q2 => ?_)
  · skip
    refine wp_aload_n dX0_makeLink_6 rfl ?_
    refine wp_geti (nI n) dX0_makeLink_7 fX0_82 (Or.inl rfl) (kc0 hF hc) hn ?_
    refine wp_bipush (24 : Int32) dX0_makeLink_10 (by decide) ?_
    refine wp_icmp_lt 18 dX0_makeLink_12 (by decide) (fun q3 => ?_) (fun q4 => ?_)
    · have hp5 : n < 24 := (nlt q3 (by omega) (by omega))
      refine wp_aload_n dX0_makeLink_18 rfl ?_
      refine wp_getr (c + 2) dX0_makeLink_19 fX0_19 (kc0 hF hc) (hF.2 _ _) (rra 2 (isK_le (kc0 hF hc)) (fun _ => rfl)) ?_
      refine wp_aload_n dX0_makeLink_22 rfl ?_
      refine wp_geti (nI n) dX0_makeLink_23 fX0_82 (Or.inl rfl) (kc0 hF hc) hn ?_
      refine wp_raldk (n := 24) n (lk c n) dX0_makeLink_26 (kc hF hc 2 (by decide)) (by decide) (by decide) (lc hc 2 (by decide)) (vin (by omega) (by decide)) (nIc (by omega)) (hF.2 _ _) (rlk hF hc) ?_
      refine wp_iload_n dX0_makeLink_27 rfl ?_
      refine wp_iload_n dX0_makeLink_28 rfl ?_
      refine wp_iload_n dX0_makeLink_29 rfl ?_
      refine wp_callV (As := [.int (nI a), .int (nI b), .int z]) (S := []) (b' := (0, 0)) (b := (0, 0)) dX0_makeLink_30 MX0_122 (klk hF hc (by omega)) rfl rfl rfl rfl (Nat.le_of_ble_eq_true rfl) ?_
      refine WPM.of pX2 (Nat.le_of_ble_eq_true rfl) rfl ?_
      refine wp_aload_n dX2_begin_0 rfl ?_
      refine wp_iload_n dX2_begin_1 rfl ?_
      refine wp_puti dX2_begin_2 pX2_7 (klk hF hc (by omega)) ?_
      have hF6 := Full_wfi 200 (lk c n) (nI a) hF
      refine wp_aload_n dX2_begin_5 rfl ?_
      refine wp_iload_n dX2_begin_6 rfl ?_
      refine wp_puti dX2_begin_7 pX2_13 (klk hF6 hc (by omega)) ?_
      have hF7 := Full_wfi 201 (lk c n) (nI b) hF6
      refine wp_aload_n dX2_begin_10 rfl ?_
      refine wp_iload_n dX2_begin_11 rfl ?_
      refine wp_puti dX2_begin_12 pX2_16 (klk hF7 hc (by omega)) ?_
      have hF8 := Full_wfi 202 (lk c n) z hF7
      refine wp_vret dX2_begin_15 rfl ?_
      show WP G (d + 2) (0, 0) μX0_makeLink 33 [.ref c, .int (nI a), .int (nI b), .int z] [] (wfi (wfi (wfi m 200 (lk c n) (nI a)) 201 (lk c n) (nI b)) 202 (lk c n) z) _
      refine wp_aload_n dX0_makeLink_33 rfl ?_
      refine wp_dup dX0_makeLink_34 rfl ?_
      refine wp_geti (nI n) dX0_makeLink_35 fX0_82 (Or.inl rfl) (kc0 hF8 hc) ((fi_ne (by decide)).trans ((fi_ne (by decide)).trans ((fi_ne (by decide)).trans hn))) ?_
      refine wp_iconst (1 : Int32) dX0_makeLink_38 (by decide) ?_
      refine wp_iaddv (nI (n + 1)) dX0_makeLink_39 (nadd (a := n) (b := 1) (by omega)) ?_
      refine wp_puti dX0_makeLink_40 pX0_82 (kc0 hF8 hc) ?_
      have hF9 := Full_wfi 6 c (nI (n + 1)) hF8
      refine wp_iconst (0 : Int32) dX0_makeLink_43 (by decide) ?_
      exact wp_iret dX0_makeLink_44 rfl (e1 q1 hp5)
    · have hp10 : ¬ n < 24 := (fun z => q4 (nlt_ (b := 24) z (by omega)))
      refine wp_ldc dX0_makeLink_15 kX0_121 ?_
      exact wp_iret dX0_makeLink_17 rfl (e2 q1 hp10)
  · skip
    refine wp_iconst (0 : Int32) dX0_makeLink_4 (by decide) ?_
    exact wp_iret dX0_makeLink_5 rfl (e3 q2)

theorem sC_drl {G : Cx} {d : Nat} {m : Mm} {Q : Option Value → Mm → Prop} {c p n : Nat} (hF : Full G m) (hc : IsC G c) (hn : fi m 6 c = nI (n + 1)) (h24 : n + 1 ≤ 24) (hp : p < n + 1)
    (e1 : Q none (wfi (wfi (wfi (wfi m 6 c (nI n)) 200 (lk c p) (fi m 200 (lk c n))) 201 (lk c p) (fi m 201 (lk c n))) 202 (lk c p) (fi m 202 (lk c n)))) :
    WPM G (d + 2) (0, 0) μX0_dropLink [.ref c, .int (nI p)] m Q := by
  refine WPM.of pX0 (Nat.le_of_ble_eq_true rfl) rfl ?_
  refine wp_iload_n dX0_dropLink_0 rfl ?_
  refine wp_if_lt 40 dX0_dropLink_1 (by decide) (fun q => absurd q (nI_pos (by omega))) (fun _ => ?_)
  refine wp_iload_n dX0_dropLink_4 rfl ?_
  refine wp_aload_n dX0_dropLink_5 rfl ?_
  refine wp_geti (nI (n + 1)) dX0_dropLink_6 fX0_82 (Or.inl rfl) (kc0 hF hc) hn ?_
  refine wp_icmp_ge 40 dX0_dropLink_9 (by decide) (fun q => absurd (nlt_ (a := p) (b := n + 1) hp (by omega)) q) (fun _ => ?_)
  refine wp_aload_n dX0_dropLink_12 rfl ?_
  refine wp_dup dX0_dropLink_13 rfl ?_
  refine wp_geti (nI (n + 1)) dX0_dropLink_14 fX0_82 (Or.inl rfl) (kc0 hF hc) hn ?_
  refine wp_iconst (1 : Int32) dX0_dropLink_17 (by decide) ?_
  refine wp_isubv (nI n) dX0_dropLink_18 (nsub (a := n + 1) (b := 1) (by omega)) ?_
  refine wp_puti dX0_dropLink_19 pX0_82 (kc0 hF hc) ?_
  have hF1 := Full_wfi 6 c (nI n) hF
  refine wp_aload_n dX0_dropLink_22 rfl ?_
  refine wp_getr (c + 2) dX0_dropLink_23 fX0_19 (kc0 hF1 hc) (hF1.2 _ _) (rra 2 (isK_le (kc0 hF1 hc)) (fun _ => rfl)) ?_
  refine wp_iload_n dX0_dropLink_26 rfl ?_
  refine wp_raldk (n := 24) p (lk c p) dX0_dropLink_27 (kc hF1 hc 2 (by decide)) (by decide) (by decide) (lc hc 2 (by decide)) (vin (by omega) (by decide)) (nIc (by omega)) (hF1.2 _ _) (rlk hF1 hc) ?_
  refine wp_aload_n dX0_dropLink_28 rfl ?_
  refine wp_getr (c + 2) dX0_dropLink_29 fX0_19 (kc0 hF1 hc) (hF1.2 _ _) (rra 2 (isK_le (kc0 hF1 hc)) (fun _ => rfl)) ?_
  refine wp_aload_n dX0_dropLink_32 rfl ?_
  refine wp_geti (nI n) dX0_dropLink_33 fX0_82 (Or.inl rfl) (kc0 hF1 hc) fi_eq ?_
  refine wp_raldk (n := 24) n (lk c n) dX0_dropLink_36 (kc hF1 hc 2 (by decide)) (by decide) (by decide) (lc hc 2 (by decide)) (vin (by omega) (by decide)) (nIc (by omega)) (hF1.2 _ _) (rlk hF1 hc) ?_
  refine wp_callV (As := [.ref (lk c n)]) (S := []) (b' := (0, 0)) (b := (0, 0)) dX0_dropLink_37 MX0_85 (klk hF1 hc (by omega)) rfl rfl rfl rfl (Nat.le_of_ble_eq_true rfl) ?_
  refine WPM.of pX2 (Nat.le_of_ble_eq_true rfl) rfl ?_
  refine wp_aload_n dX2_copyFrom_0 rfl ?_
  refine wp_aload_n dX2_copyFrom_1 rfl ?_
  refine wp_geti (fi m 200 (lk c n)) dX2_copyFrom_2 fX2_7 (Or.inl rfl) (klk hF1 hc (by omega)) (fi_ne (by decide)) ?_
  refine wp_aload_n dX2_copyFrom_5 rfl ?_
  refine wp_geti (fi m 201 (lk c n)) dX2_copyFrom_6 fX2_13 (Or.inl rfl) (klk hF1 hc (by omega)) (fi_ne (by decide)) ?_
  refine wp_aload_n dX2_copyFrom_9 rfl ?_
  refine wp_geti (fi m 202 (lk c n)) dX2_copyFrom_10 fX2_16 (Or.inl rfl) (klk hF1 hc (by omega)) (fi_ne (by decide)) ?_
  refine wp_callV (As := [.int (fi m 200 (lk c n)), .int (fi m 201 (lk c n)), .int (fi m 202 (lk c n))]) (S := []) (b' := (0, 0)) (b := (0, 0)) dX2_copyFrom_13 MX2_19 (klk hF1 hc (by omega)) rfl rfl rfl rfl (Nat.le_of_ble_eq_true rfl) ?_
  refine WPM.of pX2 (Nat.le_of_ble_eq_true rfl) rfl ?_
  refine wp_aload_n dX2_begin_0 rfl ?_
  refine wp_iload_n dX2_begin_1 rfl ?_
  refine wp_puti dX2_begin_2 pX2_7 (klk hF1 hc (by omega)) ?_
  have hF2 := Full_wfi 200 (lk c p) (fi m 200 (lk c n)) hF1
  refine wp_aload_n dX2_begin_5 rfl ?_
  refine wp_iload_n dX2_begin_6 rfl ?_
  refine wp_puti dX2_begin_7 pX2_13 (klk hF2 hc (by omega)) ?_
  have hF3 := Full_wfi 201 (lk c p) (fi m 201 (lk c n)) hF2
  refine wp_aload_n dX2_begin_10 rfl ?_
  refine wp_iload_n dX2_begin_11 rfl ?_
  refine wp_puti dX2_begin_12 pX2_16 (klk hF3 hc (by omega)) ?_
  have hF4 := Full_wfi 202 (lk c p) (fi m 202 (lk c n)) hF3
  refine wp_vret dX2_begin_15 rfl ?_
  show WP G (d + 1) (0, 0) μX2_copyFrom 16 [.ref (lk c p), .ref (lk c n)] [] (wfi (wfi (wfi (wfi m 6 c (nI n)) 200 (lk c p) (fi m 200 (lk c n))) 201 (lk c p) (fi m 201 (lk c n))) 202 (lk c p) (fi m 202 (lk c n))) _
  refine wp_vret dX2_copyFrom_16 rfl ?_
  show WP G (d + 2) (0, 0) μX0_dropLink 40 [.ref c, .int (nI p)] [] (wfi (wfi (wfi (wfi m 6 c (nI n)) 200 (lk c p) (fi m 200 (lk c n))) 201 (lk c p) (fi m 201 (lk c n))) 202 (lk c p) (fi m 202 (lk c n))) _
  exact wp_vret dX0_dropLink_40 rfl (e1)

theorem iC_ruleHolds {G : Cx} {d : Nat} {m : Mm} {Q : Option Value → Mm → Prop} {i n : Nat} (hF : Full G m) (hn : fi m 808 ((gB G + 1) + 10) = nI (n + 1)) (hm : n + 1 ≤ 12) (hi : i < n + 1)
    (e1 : WPM G (d + 6) (0, 0) μX8_isDue [.ref ((gB G + 1) + 10), .int (nI i), .ref (gB G + 1)] m (fun r' m' => WP G (d + 7) (0, 0) μX10_ruleHolds 38 [lvU, lvU] (r'.toList ++ []) m' Q)) :
    WPM G (d + 7) (0, 0) μX10_ruleHolds [.ref (gB G), .int (nI i)] m Q := by
  refine WPM.of pX10 (Nat.le_of_ble_eq_true rfl) rfl ?_
  refine wp_iload_n dX10_ruleHolds_0 rfl ?_
  refine wp_iconst (0 : Int32) dX10_ruleHolds_1 (by decide) ?_
  refine wp_aload_n dX10_ruleHolds_2 rfl ?_
  refine wp_getr (gB G + 1) dX10_ruleHolds_3 fX10_10 (ka0 hF) (hF.2 _ _) (rra 1 (isK_le (ka0 hF)) (fun _ => rfl)) ?_
  refine wp_getr ((gB G + 1) + 10) dX10_ruleHolds_6 fX10_293 (kc0 hF (isC1 G)) (hF.2 _ _) (rra 10 (isK_le (kc0 hF (isC1 G))) (fun _ => rfl)) ?_
  refine wp_geti (nI (n + 1)) dX10_ruleHolds_9 fX10_303 (Or.inl rfl) (kr0 hF (isRc (isC1 G))) hn ?_
  refine wp_iconst (1 : Int32) dX10_ruleHolds_12 (by decide) ?_
  refine wp_isubv (nI n) dX10_ruleHolds_13 (nsub (a := n + 1) (b := 1) (by omega)) ?_
  refine wp_callS (As := [.int (nI i), .int (0 : Int32), .int (nI n)]) (S := []) (b' := (0, 0)) (b := (0, 0)) dX10_ruleHolds_14 MX10_35 rfl rfl (Nat.le_of_ble_eq_true rfl) ?_
  refine WPM.of pX10 (Nat.le_of_ble_eq_true rfl) rfl ?_
  refine wp_iload_n dX10_within_0 rfl ?_
  refine wp_iload_n dX10_within_1 rfl ?_
  refine wp_icmp_lt 14 dX10_within_2 (by decide) (fun q => absurd q (nI_pos (by omega))) (fun _ => ?_)
  refine wp_iload_n dX10_within_5 rfl ?_
  refine wp_iload_n dX10_within_6 rfl ?_
  refine wp_icmp_gt 14 dX10_within_7 (by decide) (fun q => absurd q (fun z => (show ¬ n < i by omega) (nlt (a := n) (b := i) z (by omega) (by omega)))) (fun _ => ?_)
  refine wp_iconst (1 : Int32) dX10_within_10 (by decide) ?_
  refine wp_goto 15 dX10_within_11 (by decide) ?_
  refine wp_zret dX10_within_15 rfl rfl ?_
  show WP G (d + 7) (0, 0) μX10_ruleHolds 17 [.ref (gB G), .int (nI i)] [.int (1 : Int32)] m _
  refine wp_if_ne 23 dX10_ruleHolds_17 (by decide) (fun _ => ?_) (fun q => absurd q (by decide))
  refine wp_aload_n dX10_ruleHolds_23 rfl ?_
  refine wp_getr (gB G + 1) dX10_ruleHolds_24 fX10_10 (ka0 hF) (hF.2 _ _) (rra 1 (isK_le (ka0 hF)) (fun _ => rfl)) ?_
  refine wp_getr ((gB G + 1) + 10) dX10_ruleHolds_27 fX10_293 (kc0 hF (isC1 G)) (hF.2 _ _) (rra 10 (isK_le (kc0 hF (isC1 G))) (fun _ => rfl)) ?_
  refine wp_iload_n dX10_ruleHolds_30 rfl ?_
  refine wp_aload_n dX10_ruleHolds_31 rfl ?_
  refine wp_getr (gB G + 1) dX10_ruleHolds_32 fX10_10 (ka0 hF) (hF.2 _ _) (rra 1 (isK_le (ka0 hF)) (fun _ => rfl)) ?_
  refine wp_forget [lvU, lvU] ⟨Or.inr rfl, Or.inr rfl, trivial⟩ ?_
  refine wp_callV (As := [.int (nI i), .ref (gB G + 1)]) (S := []) (b' := (0, 0)) (b := (0, 0)) dX10_ruleHolds_35 MX10_312 (kr0 hF (isRc (isC1 G))) rfl rfl rfl rfl (Nat.le_of_ble_eq_true rfl) ?_
  exact e1

theorem jC_ruleHolds {G : Cx} {d : Nat} {m : Mm} {Q : Option Value → Mm → Prop} {r : Int32} (hF : Full G m) 
    (e1 : r = 0 → Q (some (.int (0 : Int32))) m)
    (e2 : ¬ r = 0 → Q (some (.int (1 : Int32))) m) :
    WP G (d + 7) (0, 0) μX10_ruleHolds 38 [lvU, lvU] [.int r] m Q := by
  refine wp_if_eq 45 dX10_ruleHolds_38 (by decide) (fun q1 => ?_) (fun q2 => ?_)
  · skip
    refine wp_iconst (0 : Int32) dX10_ruleHolds_45 (by decide) ?_
    exact wp_iret dX10_ruleHolds_46 rfl (e1 q1)
  · skip
    refine wp_iconst (1 : Int32) dX10_ruleHolds_41 (by decide) ?_
    refine wp_goto 46 dX10_ruleHolds_42 (by decide) ?_
    exact wp_iret dX10_ruleHolds_46 rfl (e2 q2)

theorem aC_ruleHolds {G : Cx} {d : Nat} {m : Mm} {Q : Option Value → Mm → Prop} {x : Int32} (hF : Full G m) (hx : x < 0)
    (e1 : Q (some (.int (-1000000002 : Int32))) m) :
    WPM G (d + 7) (0, 0) μX10_ruleHolds [.ref (gB G), .int x] m Q := by
  refine WPM.of pX10 (Nat.le_of_ble_eq_true rfl) rfl ?_
  refine wp_iload_n dX10_ruleHolds_0 rfl ?_
  refine wp_iconst (0 : Int32) dX10_ruleHolds_1 (by decide) ?_
  refine wp_aload_n dX10_ruleHolds_2 rfl ?_
  refine wp_getr (gB G + 1) dX10_ruleHolds_3 fX10_10 (ka0 hF) (hF.2 _ _) (rra 1 (isK_le (ka0 hF)) (fun _ => rfl)) ?_
  refine wp_getr ((gB G + 1) + 10) dX10_ruleHolds_6 fX10_293 (kc0 hF (isC1 G)) (hF.2 _ _) (rra 10 (isK_le (kc0 hF (isC1 G))) (fun _ => rfl)) ?_
  refine wp_geti (fi m 808 ((gB G + 1) + 10)) dX10_ruleHolds_9 fX10_303 (Or.inl rfl) (kr0 hF (isRc (isC1 G))) rfl ?_
  refine wp_iconst (1 : Int32) dX10_ruleHolds_12 (by decide) ?_
  refine wp_isubv ((fi m 808 ((gB G + 1) + 10)) - (1 : Int32)) dX10_ruleHolds_13 rfl ?_
  refine wp_callS (As := [.int x, .int (0 : Int32), .int ((fi m 808 ((gB G + 1) + 10)) - (1 : Int32))]) (S := []) (b' := (0, 0)) (b := (0, 0)) dX10_ruleHolds_14 MX10_35 rfl rfl (Nat.le_of_ble_eq_true rfl) ?_
  refine WPM.of pX10 (Nat.le_of_ble_eq_true rfl) rfl ?_
  refine wp_iload_n dX10_within_0 rfl ?_
  refine wp_iload_n dX10_within_1 rfl ?_
  refine wp_icmp_lt 14 dX10_within_2 (by decide) (fun _ => ?_) (fun q => absurd hx q)
  refine wp_iconst (0 : Int32) dX10_within_14 (by decide) ?_
  refine wp_zret dX10_within_15 rfl rfl ?_
  show WP G (d + 7) (0, 0) μX10_ruleHolds 17 [.ref (gB G), .int x] [.int (0 : Int32)] m _
  refine wp_if_ne 23 dX10_ruleHolds_17 (by decide) (fun q => absurd (by decide) q) (fun _ => ?_)
  refine wp_ldc dX10_ruleHolds_20 kX10_42 ?_
  exact wp_iret dX10_ruleHolds_22 rfl (e1)

theorem bC_ruleHolds {G : Cx} {d : Nat} {m : Mm} {Q : Option Value → Mm → Prop} {x : Int32} {n : Nat} (hF : Full G m) (hn : fi m 808 ((gB G + 1) + 10) = nI n) (hm : n ≤ 12) (hx : ¬ x < 0) (hy : ¬ x < nI n)
    (e1 : Q (some (.int (-1000000002 : Int32))) m) :
    WPM G (d + 7) (0, 0) μX10_ruleHolds [.ref (gB G), .int x] m Q := by
  refine WPM.of pX10 (Nat.le_of_ble_eq_true rfl) rfl ?_
  refine wp_iload_n dX10_ruleHolds_0 rfl ?_
  refine wp_iconst (0 : Int32) dX10_ruleHolds_1 (by decide) ?_
  refine wp_aload_n dX10_ruleHolds_2 rfl ?_
  refine wp_getr (gB G + 1) dX10_ruleHolds_3 fX10_10 (ka0 hF) (hF.2 _ _) (rra 1 (isK_le (ka0 hF)) (fun _ => rfl)) ?_
  refine wp_getr ((gB G + 1) + 10) dX10_ruleHolds_6 fX10_293 (kc0 hF (isC1 G)) (hF.2 _ _) (rra 10 (isK_le (kc0 hF (isC1 G))) (fun _ => rfl)) ?_
  refine wp_geti (nI n) dX10_ruleHolds_9 fX10_303 (Or.inl rfl) (kr0 hF (isRc (isC1 G))) hn ?_
  refine wp_iconst (1 : Int32) dX10_ruleHolds_12 (by decide) ?_
  refine wp_isubv ((nI n) - (1 : Int32)) dX10_ruleHolds_13 rfl ?_
  refine wp_callS (As := [.int x, .int (0 : Int32), .int ((nI n) - (1 : Int32))]) (S := []) (b' := (0, 0)) (b := (0, 0)) dX10_ruleHolds_14 MX10_35 rfl rfl (Nat.le_of_ble_eq_true rfl) ?_
  refine WPM.of pX10 (Nat.le_of_ble_eq_true rfl) rfl ?_
  refine wp_iload_n dX10_within_0 rfl ?_
  refine wp_iload_n dX10_within_1 rfl ?_
  refine wp_icmp_lt 14 dX10_within_2 (by decide) (fun q => absurd q hx) (fun _ => ?_)
  refine wp_iload_n dX10_within_5 rfl ?_
  refine wp_iload_n dX10_within_6 rfl ?_
  refine wp_icmp_gt 14 dX10_within_7 (by decide) (fun _ => ?_) (fun q => absurd (sub_lt (by omega) hx hy) q)
  refine wp_iconst (0 : Int32) dX10_within_14 (by decide) ?_
  refine wp_zret dX10_within_15 rfl rfl ?_
  show WP G (d + 7) (0, 0) μX10_ruleHolds 17 [.ref (gB G), .int x] [.int (0 : Int32)] m _
  refine wp_if_ne 23 dX10_ruleHolds_17 (by decide) (fun q => absurd (by decide) q) (fun _ => ?_)
  refine wp_ldc dX10_ruleHolds_20 kX10_42 ?_
  exact wp_iret dX10_ruleHolds_22 rfl (e1)

theorem iM_ruleHolds {G : Cx} {d : Nat} {m : Mm} {Q : Option Value → Mm → Prop} {i n : Nat} (hF : Full G m) (hn : ai m (gB G + 294) 15 = nI (n + 1)) (hm : n + 1 ≤ 12) (hi : i < n + 1)
    (e1 : WPM G (d + 6) (0, 0) μX11_holds [.ref (gB G + 293), .int (nI i)] m (fun r' m' => WP G (d + 7) (0, 0) μX11_ruleHolds 25 [lvU, lvU] (r'.toList ++ []) m' Q)) :
    WPM G (d + 7) (0, 0) μX11_ruleHolds [.ref (gB G + 293), .int (nI i)] m Q := by
  refine WPM.of pX11 (Nat.le_of_ble_eq_true rfl) rfl ?_
  refine wp_iload_n dX11_ruleHolds_0 rfl ?_
  refine wp_iconst (0 : Int32) dX11_ruleHolds_1 (by decide) ?_
  refine wp_aload_n dX11_ruleHolds_2 rfl ?_
  refine wp_getr (gB G + 294) dX11_ruleHolds_3 fX11_7 (ka hF 293 (by decide)) (hF.2 _ _) (rra 1 (isK_le (ka hF 293 (by decide))) (fun _ => rfl)) ?_
  refine wp_bipush (15 : Int32) dX11_ruleHolds_6 (by decide) ?_
  refine wp_ialdk (n := 1486) 15 (nI (n + 1)) dX11_ruleHolds_8 (ka hF 294 (by decide)) (la 294) (vinl (by decide)) rfl hn ?_
  refine wp_iconst (1 : Int32) dX11_ruleHolds_9 (by decide) ?_
  refine wp_isubv (nI n) dX11_ruleHolds_10 (nsub (a := n + 1) (b := 1) (by omega)) ?_
  refine wp_callS (As := [.int (nI i), .int (0 : Int32), .int (nI n)]) (S := []) (b' := (0, 0)) (b := (0, 0)) dX11_ruleHolds_11 MX11_67 rfl rfl (Nat.le_of_ble_eq_true rfl) ?_
  refine WPM.of pX11 (Nat.le_of_ble_eq_true rfl) rfl ?_
  refine wp_iload_n dX11_isBetween_0 rfl ?_
  refine wp_iload_n dX11_isBetween_1 rfl ?_
  refine wp_icmp_lt 14 dX11_isBetween_2 (by decide) (fun q => absurd q (nI_pos (by omega))) (fun _ => ?_)
  refine wp_iload_n dX11_isBetween_5 rfl ?_
  refine wp_iload_n dX11_isBetween_6 rfl ?_
  refine wp_icmp_gt 14 dX11_isBetween_7 (by decide) (fun q => absurd q (fun z => (show ¬ n < i by omega) (nlt (a := n) (b := i) z (by omega) (by omega)))) (fun _ => ?_)
  refine wp_iconst (1 : Int32) dX11_isBetween_10 (by decide) ?_
  refine wp_goto 15 dX11_isBetween_11 (by decide) ?_
  refine wp_zret dX11_isBetween_15 rfl rfl ?_
  show WP G (d + 7) (0, 0) μX11_ruleHolds 14 [.ref (gB G + 293), .int (nI i)] [.int (1 : Int32)] m _
  refine wp_if_ne 20 dX11_ruleHolds_14 (by decide) (fun _ => ?_) (fun q => absurd q (by decide))
  refine wp_aload_n dX11_ruleHolds_20 rfl ?_
  refine wp_iload_n dX11_ruleHolds_21 rfl ?_
  refine wp_forget [lvU, lvU] ⟨Or.inr rfl, Or.inr rfl, trivial⟩ ?_
  refine wp_callV (As := [.int (nI i)]) (S := []) (b' := (0, 0)) (b := (0, 0)) dX11_ruleHolds_22 MX11_242 (ka hF 293 (by decide)) rfl rfl rfl rfl (Nat.le_of_ble_eq_true rfl) ?_
  exact e1

theorem jM_ruleHolds {G : Cx} {d : Nat} {m : Mm} {Q : Option Value → Mm → Prop} {r : Int32} (hF : Full G m) 
    (e1 : r = 0 → Q (some (.int (0 : Int32))) m)
    (e2 : ¬ r = 0 → Q (some (.int (1 : Int32))) m) :
    WP G (d + 7) (0, 0) μX11_ruleHolds 25 [lvU, lvU] [.int r] m Q := by
  refine wp_if_eq 32 dX11_ruleHolds_25 (by decide) (fun q1 => ?_) (fun q2 => ?_)
  · skip
    refine wp_iconst (0 : Int32) dX11_ruleHolds_32 (by decide) ?_
    exact wp_iret dX11_ruleHolds_33 rfl (e1 q1)
  · skip
    refine wp_iconst (1 : Int32) dX11_ruleHolds_28 (by decide) ?_
    refine wp_goto 33 dX11_ruleHolds_29 (by decide) ?_
    exact wp_iret dX11_ruleHolds_33 rfl (e2 q2)

theorem aM_ruleHolds {G : Cx} {d : Nat} {m : Mm} {Q : Option Value → Mm → Prop} {x : Int32} (hF : Full G m) (hx : x < 0)
    (e1 : Q (some (.int (-1000000002 : Int32))) m) :
    WPM G (d + 7) (0, 0) μX11_ruleHolds [.ref (gB G + 293), .int x] m Q := by
  refine WPM.of pX11 (Nat.le_of_ble_eq_true rfl) rfl ?_
  refine wp_iload_n dX11_ruleHolds_0 rfl ?_
  refine wp_iconst (0 : Int32) dX11_ruleHolds_1 (by decide) ?_
  refine wp_aload_n dX11_ruleHolds_2 rfl ?_
  refine wp_getr (gB G + 294) dX11_ruleHolds_3 fX11_7 (ka hF 293 (by decide)) (hF.2 _ _) (rra 1 (isK_le (ka hF 293 (by decide))) (fun _ => rfl)) ?_
  refine wp_bipush (15 : Int32) dX11_ruleHolds_6 (by decide) ?_
  refine wp_ialdk (n := 1486) 15 (ai m (gB G + 294) 15) dX11_ruleHolds_8 (ka hF 294 (by decide)) (la 294) (vinl (by decide)) rfl rfl ?_
  refine wp_iconst (1 : Int32) dX11_ruleHolds_9 (by decide) ?_
  refine wp_isubv ((ai m (gB G + 294) 15) - (1 : Int32)) dX11_ruleHolds_10 rfl ?_
  refine wp_callS (As := [.int x, .int (0 : Int32), .int ((ai m (gB G + 294) 15) - (1 : Int32))]) (S := []) (b' := (0, 0)) (b := (0, 0)) dX11_ruleHolds_11 MX11_67 rfl rfl (Nat.le_of_ble_eq_true rfl) ?_
  refine WPM.of pX11 (Nat.le_of_ble_eq_true rfl) rfl ?_
  refine wp_iload_n dX11_isBetween_0 rfl ?_
  refine wp_iload_n dX11_isBetween_1 rfl ?_
  refine wp_icmp_lt 14 dX11_isBetween_2 (by decide) (fun _ => ?_) (fun q => absurd hx q)
  refine wp_iconst (0 : Int32) dX11_isBetween_14 (by decide) ?_
  refine wp_zret dX11_isBetween_15 rfl rfl ?_
  show WP G (d + 7) (0, 0) μX11_ruleHolds 14 [.ref (gB G + 293), .int x] [.int (0 : Int32)] m _
  refine wp_if_ne 20 dX11_ruleHolds_14 (by decide) (fun q => absurd (by decide) q) (fun _ => ?_)
  refine wp_ldc dX11_ruleHolds_17 kX11_79 ?_
  exact wp_iret dX11_ruleHolds_19 rfl (e1)

theorem bM_ruleHolds {G : Cx} {d : Nat} {m : Mm} {Q : Option Value → Mm → Prop} {x : Int32} {n : Nat} (hF : Full G m) (hn : ai m (gB G + 294) 15 = nI n) (hm : n ≤ 12) (hx : ¬ x < 0) (hy : ¬ x < nI n)
    (e1 : Q (some (.int (-1000000002 : Int32))) m) :
    WPM G (d + 7) (0, 0) μX11_ruleHolds [.ref (gB G + 293), .int x] m Q := by
  refine WPM.of pX11 (Nat.le_of_ble_eq_true rfl) rfl ?_
  refine wp_iload_n dX11_ruleHolds_0 rfl ?_
  refine wp_iconst (0 : Int32) dX11_ruleHolds_1 (by decide) ?_
  refine wp_aload_n dX11_ruleHolds_2 rfl ?_
  refine wp_getr (gB G + 294) dX11_ruleHolds_3 fX11_7 (ka hF 293 (by decide)) (hF.2 _ _) (rra 1 (isK_le (ka hF 293 (by decide))) (fun _ => rfl)) ?_
  refine wp_bipush (15 : Int32) dX11_ruleHolds_6 (by decide) ?_
  refine wp_ialdk (n := 1486) 15 (nI n) dX11_ruleHolds_8 (ka hF 294 (by decide)) (la 294) (vinl (by decide)) rfl hn ?_
  refine wp_iconst (1 : Int32) dX11_ruleHolds_9 (by decide) ?_
  refine wp_isubv ((nI n) - (1 : Int32)) dX11_ruleHolds_10 rfl ?_
  refine wp_callS (As := [.int x, .int (0 : Int32), .int ((nI n) - (1 : Int32))]) (S := []) (b' := (0, 0)) (b := (0, 0)) dX11_ruleHolds_11 MX11_67 rfl rfl (Nat.le_of_ble_eq_true rfl) ?_
  refine WPM.of pX11 (Nat.le_of_ble_eq_true rfl) rfl ?_
  refine wp_iload_n dX11_isBetween_0 rfl ?_
  refine wp_iload_n dX11_isBetween_1 rfl ?_
  refine wp_icmp_lt 14 dX11_isBetween_2 (by decide) (fun q => absurd q hx) (fun _ => ?_)
  refine wp_iload_n dX11_isBetween_5 rfl ?_
  refine wp_iload_n dX11_isBetween_6 rfl ?_
  refine wp_icmp_gt 14 dX11_isBetween_7 (by decide) (fun _ => ?_) (fun q => absurd (sub_lt (by omega) hx hy) q)
  refine wp_iconst (0 : Int32) dX11_isBetween_14 (by decide) ?_
  refine wp_zret dX11_isBetween_15 rfl rfl ?_
  show WP G (d + 7) (0, 0) μX11_ruleHolds 14 [.ref (gB G + 293), .int x] [.int (0 : Int32)] m _
  refine wp_if_ne 20 dX11_ruleHolds_14 (by decide) (fun q => absurd (by decide) q) (fun _ => ?_)
  refine wp_ldc dX11_ruleHolds_17 kX11_79 ?_
  exact wp_iret dX11_ruleHolds_19 rfl (e1)
