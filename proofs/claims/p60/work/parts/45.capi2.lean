theorem iC_target {G : Cx} {d : Nat} {m : Mm} {Q : Option Value → Mm → Prop} {i n : Nat} {k o : Nat}  (hF : Full G m) (hn : fi m 7 (gB G + 1) = nI (n + 1)) (hm : n + 1 ≤ 6) (hi : i < n + 1) (hk : fi m 5 (gB G + 1) = nI k) (hk12 : k ≤ 12) (ho : fi m 300 (lv (gB G + 1) i) = nI o) (hok : o < k) 
    (e1 : Q (some (.int (Int64.toInt32 (limF (quoF ((Int32.toInt64 ((fi m 401 (nd (gB G + 1) o)) - (fi m 302 (lv (gB G + 1) i)))) * (1000 : Int64)) (Int32.toInt64 ((fi m 303 (lv (gB G + 1) i)) - (fi m 302 (lv (gB G + 1) i))))) (0 : Int64) (1000 : Int64))))) m) :
    WPM G (d + 4) (0, 0) μX10_target [.ref (gB G), .int (nI i)] m Q := by
  refine WPM.of pX10 (Nat.le_of_ble_eq_true rfl) rfl ?_
  refine wp_aload_n dX10_target_0 rfl ?_
  refine wp_getr (gB G + 1) dX10_target_1 fX10_10 (ka0 hF) (hF.2 _ _) (rra 1 (isK_le (ka0 hF)) (fun _ => rfl)) ?_
  refine wp_iload_n dX10_target_4 rfl ?_
  refine wp_callV (As := [.int (nI i)]) (S := []) (b' := (0, 0)) (b := (0, 0)) dX10_target_5 MX10_123 (kc0 hF (isC1 G)) rfl rfl rfl rfl (Nat.le_of_ble_eq_true rfl) ?_
  refine WPM.of pX0 (Nat.le_of_ble_eq_true rfl) rfl ?_
  refine wp_iload_n dX0_hasLouvre_0 rfl ?_
  refine wp_if_lt 16 dX0_hasLouvre_1 (by decide) (fun q => absurd q (nI_pos (by omega))) (fun _ => ?_)
  refine wp_iload_n dX0_hasLouvre_4 rfl ?_
  refine wp_aload_n dX0_hasLouvre_5 rfl ?_
  refine wp_geti (nI (n + 1)) dX0_hasLouvre_6 fX0_88 (Or.inl rfl) (kc0 hF (isC1 G)) hn ?_
  refine wp_icmp_ge 16 dX0_hasLouvre_9 (by decide) (fun q => absurd (nlt_ (a := i) (b := n + 1) hi (by omega)) q) (fun _ => ?_)
  refine wp_iconst (1 : Int32) dX0_hasLouvre_12 (by decide) ?_
  refine wp_goto 17 dX0_hasLouvre_13 (by decide) ?_
  refine wp_zret dX0_hasLouvre_17 rfl rfl ?_
  show WP G (d + 4) (0, 0) μX10_target 8 [.ref (gB G), .int (nI i)] [.int (1 : Int32)] m _
  refine wp_if_eq 30 dX10_target_8 (by decide) (fun q => absurd q (by decide)) (fun _ => ?_)
  refine wp_aload_n dX10_target_11 rfl ?_
  refine wp_getr (gB G + 1) dX10_target_12 fX10_10 (ka0 hF) (hF.2 _ _) (rra 1 (isK_le (ka0 hF)) (fun _ => rfl)) ?_
  refine wp_aload_n dX10_target_15 rfl ?_
  refine wp_getr (gB G + 1) dX10_target_16 fX10_10 (ka0 hF) (hF.2 _ _) (rra 1 (isK_le (ka0 hF)) (fun _ => rfl)) ?_
  refine wp_getr ((gB G + 1) + 3) dX10_target_19 fX10_103 (kc0 hF (isC1 G)) (hF.2 _ _) (rra 3 (isK_le (kc0 hF (isC1 G))) (fun _ => rfl)) ?_
  refine wp_iload_n dX10_target_22 rfl ?_
  refine wp_raldk (n := 6) i (lv (gB G + 1) i) dX10_target_23 (kc hF (isC1 G) 3 (by decide)) (by decide) (by decide) (lc (isC1 G) 3 (by decide)) (vin (by omega) (by decide)) (nIc (by omega)) (hF.2 _ _) (rlv hF (isC1 G)) ?_
  refine wp_callV (As := [.ref (lv (gB G + 1) i)]) (S := []) (b' := (0, 0)) (b := (0, 0)) dX10_target_24 MX10_129 (kc0 hF (isC1 G)) rfl rfl rfl rfl (Nat.le_of_ble_eq_true rfl) ?_
  refine WPM.of pX0 (Nat.le_of_ble_eq_true rfl) rfl ?_
  refine wp_aload_n dX0_targetOf_0 rfl ?_
  refine wp_aload_n dX0_targetOf_1 rfl ?_
  refine wp_geti (nI o) dX0_targetOf_2 fX0_159 (Or.inl rfl) (klv hF (isC1 G) (by omega)) ho ?_
  refine wp_callV (As := [.int (nI o)]) (S := []) (b' := (0, 0)) (b := (0, 0)) dX0_targetOf_5 MX0_162 (kc0 hF (isC1 G)) rfl rfl rfl rfl (Nat.le_of_ble_eq_true rfl) ?_
  refine WPM.of pX0 (Nat.le_of_ble_eq_true rfl) rfl ?_
  refine wp_aload_n dX0_temperatureAt_0 rfl ?_
  refine wp_iload_n dX0_temperatureAt_1 rfl ?_
  refine wp_callV (As := [.int (nI o)]) (S := []) (b' := (0, 0)) (b := (0, 0)) dX0_temperatureAt_2 MX0_152 (kc0 hF (isC1 G)) rfl rfl rfl rfl (Nat.le_of_ble_eq_true rfl) ?_
  refine WPM.of pX0 (Nat.le_of_ble_eq_true rfl) rfl ?_
  refine wp_iload_n dX0_hasNode_0 rfl ?_
  refine wp_if_lt 16 dX0_hasNode_1 (by decide) (fun q => absurd q (nI_pos (by omega))) (fun _ => ?_)
  refine wp_iload_n dX0_hasNode_4 rfl ?_
  refine wp_aload_n dX0_hasNode_5 rfl ?_
  refine wp_geti (nI k) dX0_hasNode_6 fX0_75 (Or.inl rfl) (kc0 hF (isC1 G)) hk ?_
  refine wp_icmp_ge 16 dX0_hasNode_9 (by decide) (fun q => absurd (nlt_ (a := o) (b := k) hok (by omega)) q) (fun _ => ?_)
  refine wp_iconst (1 : Int32) dX0_hasNode_12 (by decide) ?_
  refine wp_goto 17 dX0_hasNode_13 (by decide) ?_
  refine wp_zret dX0_hasNode_17 rfl rfl ?_
  show WP G (d + 2) (0, 0) μX0_temperatureAt 5 [.ref (gB G + 1), .int (nI o)] [.int (1 : Int32)] m _
  refine wp_if_eq 20 dX0_temperatureAt_5 (by decide) (fun q => absurd q (by decide)) (fun _ => ?_)
  refine wp_aload_n dX0_temperatureAt_8 rfl ?_
  refine wp_getr ((gB G + 1) + 1) dX0_temperatureAt_9 fX0_11 (kc0 hF (isC1 G)) (hF.2 _ _) (rra 1 (isK_le (kc0 hF (isC1 G))) (fun _ => rfl)) ?_
  refine wp_iload_n dX0_temperatureAt_12 rfl ?_
  refine wp_raldk (n := 12) o (nd (gB G + 1) o) dX0_temperatureAt_13 (kc hF (isC1 G) 1 (by decide)) (by decide) (by decide) (lc (isC1 G) 1 (by decide)) (vin (by omega) (by decide)) (nIc (by omega)) (hF.2 _ _) (rnd hF (isC1 G)) ?_
  refine wp_geti (fi m 401 (nd (gB G + 1) o)) dX0_temperatureAt_14 fX0_156 (Or.inl rfl) (knd hF (isC1 G) (by omega)) rfl ?_
  refine wp_goto 21 dX0_temperatureAt_17 (by decide) ?_
  refine wp_iret dX0_temperatureAt_21 rfl ?_
  show WP G (d + 3) (0, 0) μX0_targetOf 8 [.ref (gB G + 1), .ref (lv (gB G + 1) i), lvU, lvU] [.int (fi m 401 (nd (gB G + 1) o))] m _
  refine wp_aload_n dX0_targetOf_8 rfl ?_
  refine wp_geti (fi m 302 (lv (gB G + 1) i)) dX0_targetOf_9 fX0_166 (Or.inl rfl) (klv hF (isC1 G) (by omega)) rfl ?_
  refine wp_isubv ((fi m 401 (nd (gB G + 1) o)) - (fi m 302 (lv (gB G + 1) i))) dX0_targetOf_12 rfl ?_
  refine wp_i2l dX0_targetOf_13 ?_
  refine wp_lstore_n dX0_targetOf_14 (by decide) rfl ?_
  refine wp_lload_n dX0_targetOf_15 rfl ?_
  refine wp_ldc2 dX0_targetOf_16 kX0_169 ?_
  refine wp_lmul dX0_targetOf_19 ?_
  refine wp_aload_n dX0_targetOf_20 rfl ?_
  refine wp_geti (fi m 303 (lv (gB G + 1) i)) dX0_targetOf_21 fX0_171 (Or.inl rfl) (klv hF (isC1 G) (by omega)) rfl ?_
  refine wp_aload_n dX0_targetOf_24 rfl ?_
  refine wp_geti (fi m 302 (lv (gB G + 1) i)) dX0_targetOf_25 fX0_166 (Or.inl rfl) (klv hF (isC1 G) (by omega)) rfl ?_
  refine wp_isubv ((fi m 303 (lv (gB G + 1) i)) - (fi m 302 (lv (gB G + 1) i))) dX0_targetOf_28 rfl ?_
  refine wp_i2l dX0_targetOf_29 ?_
  refine wp_quoFN dX0_targetOf_30 MX0_148 (Nat.le_of_ble_eq_true rfl) ?_
  refine wp_lconst (0 : Int64) dX0_targetOf_33 (by decide) ?_
  refine wp_ldc2 dX0_targetOf_34 kX0_169 ?_
  refine wp_limFN dX0_targetOf_37 MX0_174 (Nat.le_of_ble_eq_true rfl) ?_
  refine wp_l2i dX0_targetOf_40 ?_
  refine wp_iret dX0_targetOf_41 rfl ?_
  show WP G (d + 4) (0, 0) μX10_target 27 [.ref (gB G), .int (nI i)] [.int (Int64.toInt32 (limF (quoF ((Int32.toInt64 ((fi m 401 (nd (gB G + 1) o)) - (fi m 302 (lv (gB G + 1) i)))) * (1000 : Int64)) (Int32.toInt64 ((fi m 303 (lv (gB G + 1) i)) - (fi m 302 (lv (gB G + 1) i))))) (0 : Int64) (1000 : Int64)))] m _
  refine wp_goto 32 dX10_target_27 (by decide) ?_
  exact wp_iret dX10_target_32 rfl (e1)

theorem aC_target {G : Cx} {d : Nat} {m : Mm} {Q : Option Value → Mm → Prop} {x : Int32} {n : Nat}  (hF : Full G m) (hn : fi m 7 (gB G + 1) = nI n) (hm : n ≤ 6) (hx : x < 0) 
    (e1 : Q (some (.int (-1000000001 : Int32))) m) :
    WPM G (d + 4) (0, 0) μX10_target [.ref (gB G), .int x] m Q := by
  refine WPM.of pX10 (Nat.le_of_ble_eq_true rfl) rfl ?_
  refine wp_aload_n dX10_target_0 rfl ?_
  refine wp_getr (gB G + 1) dX10_target_1 fX10_10 (ka0 hF) (hF.2 _ _) (rra 1 (isK_le (ka0 hF)) (fun _ => rfl)) ?_
  refine wp_iload_n dX10_target_4 rfl ?_
  refine wp_callV (As := [.int x]) (S := []) (b' := (0, 0)) (b := (0, 0)) dX10_target_5 MX10_123 (kc0 hF (isC1 G)) rfl rfl rfl rfl (Nat.le_of_ble_eq_true rfl) ?_
  refine WPM.of pX0 (Nat.le_of_ble_eq_true rfl) rfl ?_
  refine wp_iload_n dX0_hasLouvre_0 rfl ?_
  refine wp_if_lt 16 dX0_hasLouvre_1 (by decide) (fun _ => ?_) (fun q => absurd hx q)
  refine wp_iconst (0 : Int32) dX0_hasLouvre_16 (by decide) ?_
  refine wp_zret dX0_hasLouvre_17 rfl rfl ?_
  show WP G (d + 4) (0, 0) μX10_target 8 [.ref (gB G), .int x] [.int (0 : Int32)] m _
  refine wp_if_eq 30 dX10_target_8 (by decide) (fun _ => ?_) (fun q => absurd (by decide) q)
  refine wp_ldc dX10_target_30 kX10_62 ?_
  exact wp_iret dX10_target_32 rfl (e1)

theorem bC_target {G : Cx} {d : Nat} {m : Mm} {Q : Option Value → Mm → Prop} {x : Int32} {n : Nat}  (hF : Full G m) (hn : fi m 7 (gB G + 1) = nI n) (hm : n ≤ 6) (hxa : ¬ x < 0) (hxb : ¬ x < nI n) 
    (e1 : Q (some (.int (-1000000001 : Int32))) m) :
    WPM G (d + 4) (0, 0) μX10_target [.ref (gB G), .int x] m Q := by
  refine WPM.of pX10 (Nat.le_of_ble_eq_true rfl) rfl ?_
  refine wp_aload_n dX10_target_0 rfl ?_
  refine wp_getr (gB G + 1) dX10_target_1 fX10_10 (ka0 hF) (hF.2 _ _) (rra 1 (isK_le (ka0 hF)) (fun _ => rfl)) ?_
  refine wp_iload_n dX10_target_4 rfl ?_
  refine wp_callV (As := [.int x]) (S := []) (b' := (0, 0)) (b := (0, 0)) dX10_target_5 MX10_123 (kc0 hF (isC1 G)) rfl rfl rfl rfl (Nat.le_of_ble_eq_true rfl) ?_
  refine WPM.of pX0 (Nat.le_of_ble_eq_true rfl) rfl ?_
  refine wp_iload_n dX0_hasLouvre_0 rfl ?_
  refine wp_if_lt 16 dX0_hasLouvre_1 (by decide) (fun q => absurd q hxa) (fun _ => ?_)
  refine wp_iload_n dX0_hasLouvre_4 rfl ?_
  refine wp_aload_n dX0_hasLouvre_5 rfl ?_
  refine wp_geti (nI n) dX0_hasLouvre_6 fX0_88 (Or.inl rfl) (kc0 hF (isC1 G)) hn ?_
  refine wp_icmp_ge 16 dX0_hasLouvre_9 (by decide) (fun _ => ?_) (fun q => absurd q hxb)
  refine wp_iconst (0 : Int32) dX0_hasLouvre_16 (by decide) ?_
  refine wp_zret dX0_hasLouvre_17 rfl rfl ?_
  show WP G (d + 4) (0, 0) μX10_target 8 [.ref (gB G), .int x] [.int (0 : Int32)] m _
  refine wp_if_eq 30 dX10_target_8 (by decide) (fun _ => ?_) (fun q => absurd (by decide) q)
  refine wp_ldc dX10_target_30 kX10_62 ?_
  exact wp_iret dX10_target_32 rfl (e1)

theorem eC_usedPower {G : Cx} {d : Nat} {m : Mm} {Q : Option Value → Mm → Prop}  (hF : Full G m) 
    (e1 : WPM G (d + 4) (0, 0) μX0_powerInUse [.ref (gB G + 1)] m (fun r' m' => WP G (d + 5) (0, 0) μX10_usedPower 7 [lvU] (r'.toList ++ []) m' Q)) :
    WPM G (d + 5) (0, 0) μX10_usedPower [.ref (gB G)] m Q := by
  refine WPM.of pX10 (Nat.le_of_ble_eq_true rfl) rfl ?_
  refine wp_aload_n dX10_usedPower_0 rfl ?_
  refine wp_getr (gB G + 1) dX10_usedPower_1 fX10_10 (ka0 hF) (hF.2 _ _) (rra 1 (isK_le (ka0 hF)) (fun _ => rfl)) ?_
  refine wp_forget [lvU] ⟨Or.inr rfl, trivial⟩ ?_
  refine wp_callV (As := []) (S := []) (b' := (0, 0)) (b := (0, 0)) dX10_usedPower_4 MX10_186 (kc0 hF (isC1 G)) rfl rfl rfl rfl (Nat.le_of_ble_eq_true rfl) ?_
  exact e1

theorem bC_usedPower {G : Cx} {d : Nat} {m : Mm} {Q : Option Value → Mm → Prop} {r : Int32} (hF : Full G m) 
    (e1 : Q (some (.int r)) m) :
    WP G (d + 5) (0, 0) μX10_usedPower 7 [lvU] [.int r] m Q := by
  exact wp_iret dX10_usedPower_7 rfl (e1)

theorem iC_absorbedHeat {G : Cx} {d : Nat} {m : Mm} {Q : Option Value → Mm → Prop} {i n : Nat}  (hF : Full G m) (hn : fi m 5 (gB G + 1) = nI (n + 1)) (hm : n + 1 ≤ 12) (hi : i < n + 1) 
    (e1 : WPM G (d + 5) (0, 0) μX0_balanceHeat [.ref (gB G + 1)] m (fun r' m' => WP G (d + 6) (0, 0) μX10_absorbedHeat 22 [.ref (gB G), .int (nI i)] (r'.toList ++ []) m' Q)) :
    WPM G (d + 6) (0, 0) μX10_absorbedHeat [.ref (gB G), .int (nI i)] m Q := by
  refine WPM.of pX10 (Nat.le_of_ble_eq_true rfl) rfl ?_
  refine wp_aload_n dX10_absorbedHeat_0 rfl ?_
  refine wp_getr (gB G + 1) dX10_absorbedHeat_1 fX10_10 (ka0 hF) (hF.2 _ _) (rra 1 (isK_le (ka0 hF)) (fun _ => rfl)) ?_
  refine wp_iload_n dX10_absorbedHeat_4 rfl ?_
  refine wp_callV (As := [.int (nI i)]) (S := []) (b' := (0, 0)) (b := (0, 0)) dX10_absorbedHeat_5 MX10_58 (kc0 hF (isC1 G)) rfl rfl rfl rfl (Nat.le_of_ble_eq_true rfl) ?_
  refine WPM.of pX0 (Nat.le_of_ble_eq_true rfl) rfl ?_
  refine wp_iload_n dX0_hasNode_0 rfl ?_
  refine wp_if_lt 16 dX0_hasNode_1 (by decide) (fun q => absurd q (nI_pos (by omega))) (fun _ => ?_)
  refine wp_iload_n dX0_hasNode_4 rfl ?_
  refine wp_aload_n dX0_hasNode_5 rfl ?_
  refine wp_geti (nI (n + 1)) dX0_hasNode_6 fX0_75 (Or.inl rfl) (kc0 hF (isC1 G)) hn ?_
  refine wp_icmp_ge 16 dX0_hasNode_9 (by decide) (fun q => absurd (nlt_ (a := i) (b := n + 1) hi (by omega)) q) (fun _ => ?_)
  refine wp_iconst (1 : Int32) dX0_hasNode_12 (by decide) ?_
  refine wp_goto 17 dX0_hasNode_13 (by decide) ?_
  refine wp_zret dX0_hasNode_17 rfl rfl ?_
  show WP G (d + 6) (0, 0) μX10_absorbedHeat 8 [.ref (gB G), .int (nI i)] [.int (1 : Int32)] m _
  refine wp_if_ne 15 dX10_absorbedHeat_8 (by decide) (fun _ => ?_) (fun q => absurd q (by decide))
  refine wp_aload_n dX10_absorbedHeat_15 rfl ?_
  refine wp_getr (gB G + 1) dX10_absorbedHeat_16 fX10_10 (ka0 hF) (hF.2 _ _) (rra 1 (isK_le (ka0 hF)) (fun _ => rfl)) ?_
  refine wp_callV (As := []) (S := []) (b' := (0, 0)) (b := (0, 0)) dX10_absorbedHeat_19 MX10_191 (kc0 hF (isC1 G)) rfl rfl rfl rfl (Nat.le_of_ble_eq_true rfl) ?_
  exact e1

theorem jC_absorbedHeat {G : Cx} {d : Nat} {m : Mm} {Q : Option Value → Mm → Prop} {i : Nat} (hF : Full G m) (hi : i < 12)
    (e1 : Q (some (.long (fl m 412 (nd (gB G + 1) i)))) m) :
    WP G (d + 6) (0, 0) μX10_absorbedHeat 22 [.ref (gB G), .int (nI i)] [] m Q := by
  refine wp_aload_n dX10_absorbedHeat_22 rfl ?_
  refine wp_getr (gB G + 1) dX10_absorbedHeat_23 fX10_10 (ka0 hF) (hF.2 _ _) (rra 1 (isK_le (ka0 hF)) (fun _ => rfl)) ?_
  refine wp_getr ((gB G + 1) + 1) dX10_absorbedHeat_26 fX10_48 (kc0 hF (isC1 G)) (hF.2 _ _) (rra 1 (isK_le (kc0 hF (isC1 G))) (fun _ => rfl)) ?_
  refine wp_iload_n dX10_absorbedHeat_29 rfl ?_
  refine wp_raldk (n := 12) i (nd (gB G + 1) i) dX10_absorbedHeat_30 (kc hF (isC1 G) 1 (by decide)) (by decide) (by decide) (lc (isC1 G) 1 (by decide)) (vin (by omega) (by decide)) (nIc (by omega)) (hF.2 _ _) (rnd hF (isC1 G)) ?_
  refine wp_getl (fl m 412 (nd (gB G + 1) i)) dX10_absorbedHeat_31 fX10_194 (knd hF (isC1 G) (by omega)) rfl ?_
  exact wp_lret dX10_absorbedHeat_34 rfl (e1)

theorem aC_absorbedHeat {G : Cx} {d : Nat} {m : Mm} {Q : Option Value → Mm → Prop} {x : Int32} {n : Nat}  (hF : Full G m) (hn : fi m 5 (gB G + 1) = nI n) (hm : n ≤ 12) (hx : x < 0) 
    (e1 : Q (some (.long (-1000000001 : Int64))) m) :
    WPM G (d + 6) (0, 0) μX10_absorbedHeat [.ref (gB G), .int x] m Q := by
  refine WPM.of pX10 (Nat.le_of_ble_eq_true rfl) rfl ?_
  refine wp_aload_n dX10_absorbedHeat_0 rfl ?_
  refine wp_getr (gB G + 1) dX10_absorbedHeat_1 fX10_10 (ka0 hF) (hF.2 _ _) (rra 1 (isK_le (ka0 hF)) (fun _ => rfl)) ?_
  refine wp_iload_n dX10_absorbedHeat_4 rfl ?_
  refine wp_callV (As := [.int x]) (S := []) (b' := (0, 0)) (b := (0, 0)) dX10_absorbedHeat_5 MX10_58 (kc0 hF (isC1 G)) rfl rfl rfl rfl (Nat.le_of_ble_eq_true rfl) ?_
  refine WPM.of pX0 (Nat.le_of_ble_eq_true rfl) rfl ?_
  refine wp_iload_n dX0_hasNode_0 rfl ?_
  refine wp_if_lt 16 dX0_hasNode_1 (by decide) (fun _ => ?_) (fun q => absurd hx q)
  refine wp_iconst (0 : Int32) dX0_hasNode_16 (by decide) ?_
  refine wp_zret dX0_hasNode_17 rfl rfl ?_
  show WP G (d + 6) (0, 0) μX10_absorbedHeat 8 [.ref (gB G), .int x] [.int (0 : Int32)] m _
  refine wp_if_ne 15 dX10_absorbedHeat_8 (by decide) (fun q => absurd (by decide) q) (fun _ => ?_)
  refine wp_ldc2 dX10_absorbedHeat_11 kX10_189 ?_
  exact wp_lret dX10_absorbedHeat_14 rfl (e1)

theorem bC_absorbedHeat {G : Cx} {d : Nat} {m : Mm} {Q : Option Value → Mm → Prop} {x : Int32} {n : Nat}  (hF : Full G m) (hn : fi m 5 (gB G + 1) = nI n) (hm : n ≤ 12) (hxa : ¬ x < 0) (hxb : ¬ x < nI n) 
    (e1 : Q (some (.long (-1000000001 : Int64))) m) :
    WPM G (d + 6) (0, 0) μX10_absorbedHeat [.ref (gB G), .int x] m Q := by
  refine WPM.of pX10 (Nat.le_of_ble_eq_true rfl) rfl ?_
  refine wp_aload_n dX10_absorbedHeat_0 rfl ?_
  refine wp_getr (gB G + 1) dX10_absorbedHeat_1 fX10_10 (ka0 hF) (hF.2 _ _) (rra 1 (isK_le (ka0 hF)) (fun _ => rfl)) ?_
  refine wp_iload_n dX10_absorbedHeat_4 rfl ?_
  refine wp_callV (As := [.int x]) (S := []) (b' := (0, 0)) (b := (0, 0)) dX10_absorbedHeat_5 MX10_58 (kc0 hF (isC1 G)) rfl rfl rfl rfl (Nat.le_of_ble_eq_true rfl) ?_
  refine WPM.of pX0 (Nat.le_of_ble_eq_true rfl) rfl ?_
  refine wp_iload_n dX0_hasNode_0 rfl ?_
  refine wp_if_lt 16 dX0_hasNode_1 (by decide) (fun q => absurd q hxa) (fun _ => ?_)
  refine wp_iload_n dX0_hasNode_4 rfl ?_
  refine wp_aload_n dX0_hasNode_5 rfl ?_
  refine wp_geti (nI n) dX0_hasNode_6 fX0_75 (Or.inl rfl) (kc0 hF (isC1 G)) hn ?_
  refine wp_icmp_ge 16 dX0_hasNode_9 (by decide) (fun _ => ?_) (fun q => absurd q hxb)
  refine wp_iconst (0 : Int32) dX0_hasNode_16 (by decide) ?_
  refine wp_zret dX0_hasNode_17 rfl rfl ?_
  show WP G (d + 6) (0, 0) μX10_absorbedHeat 8 [.ref (gB G), .int x] [.int (0 : Int32)] m _
  refine wp_if_ne 15 dX10_absorbedHeat_8 (by decide) (fun q => absurd (by decide) q) (fun _ => ?_)
  refine wp_ldc2 dX10_absorbedHeat_11 kX10_189 ?_
  exact wp_lret dX10_absorbedHeat_14 rfl (e1)

theorem iC_emittedHeat {G : Cx} {d : Nat} {m : Mm} {Q : Option Value → Mm → Prop} {i n : Nat}  (hF : Full G m) (hn : fi m 5 (gB G + 1) = nI (n + 1)) (hm : n + 1 ≤ 12) (hi : i < n + 1) 
    (e1 : WPM G (d + 5) (0, 0) μX0_balanceHeat [.ref (gB G + 1)] m (fun r' m' => WP G (d + 6) (0, 0) μX10_emittedHeat 22 [.ref (gB G), .int (nI i)] (r'.toList ++ []) m' Q)) :
    WPM G (d + 6) (0, 0) μX10_emittedHeat [.ref (gB G), .int (nI i)] m Q := by
  refine WPM.of pX10 (Nat.le_of_ble_eq_true rfl) rfl ?_
  refine wp_aload_n dX10_emittedHeat_0 rfl ?_
  refine wp_getr (gB G + 1) dX10_emittedHeat_1 fX10_10 (ka0 hF) (hF.2 _ _) (rra 1 (isK_le (ka0 hF)) (fun _ => rfl)) ?_
  refine wp_iload_n dX10_emittedHeat_4 rfl ?_
  refine wp_callV (As := [.int (nI i)]) (S := []) (b' := (0, 0)) (b := (0, 0)) dX10_emittedHeat_5 MX10_58 (kc0 hF (isC1 G)) rfl rfl rfl rfl (Nat.le_of_ble_eq_true rfl) ?_
  refine WPM.of pX0 (Nat.le_of_ble_eq_true rfl) rfl ?_
  refine wp_iload_n dX0_hasNode_0 rfl ?_
  refine wp_if_lt 16 dX0_hasNode_1 (by decide) (fun q => absurd q (nI_pos (by omega))) (fun _ => ?_)
  refine wp_iload_n dX0_hasNode_4 rfl ?_
  refine wp_aload_n dX0_hasNode_5 rfl ?_
  refine wp_geti (nI (n + 1)) dX0_hasNode_6 fX0_75 (Or.inl rfl) (kc0 hF (isC1 G)) hn ?_
  refine wp_icmp_ge 16 dX0_hasNode_9 (by decide) (fun q => absurd (nlt_ (a := i) (b := n + 1) hi (by omega)) q) (fun _ => ?_)
  refine wp_iconst (1 : Int32) dX0_hasNode_12 (by decide) ?_
  refine wp_goto 17 dX0_hasNode_13 (by decide) ?_
  refine wp_zret dX0_hasNode_17 rfl rfl ?_
  show WP G (d + 6) (0, 0) μX10_emittedHeat 8 [.ref (gB G), .int (nI i)] [.int (1 : Int32)] m _
  refine wp_if_ne 15 dX10_emittedHeat_8 (by decide) (fun _ => ?_) (fun q => absurd q (by decide))
  refine wp_aload_n dX10_emittedHeat_15 rfl ?_
  refine wp_getr (gB G + 1) dX10_emittedHeat_16 fX10_10 (ka0 hF) (hF.2 _ _) (rra 1 (isK_le (ka0 hF)) (fun _ => rfl)) ?_
  refine wp_callV (As := []) (S := []) (b' := (0, 0)) (b := (0, 0)) dX10_emittedHeat_19 MX10_191 (kc0 hF (isC1 G)) rfl rfl rfl rfl (Nat.le_of_ble_eq_true rfl) ?_
  exact e1

theorem jC_emittedHeat {G : Cx} {d : Nat} {m : Mm} {Q : Option Value → Mm → Prop} {i : Nat} (hF : Full G m) (hi : i < 12)
    (e1 : Q (some (.long (fl m 413 (nd (gB G + 1) i)))) m) :
    WP G (d + 6) (0, 0) μX10_emittedHeat 22 [.ref (gB G), .int (nI i)] [] m Q := by
  refine wp_aload_n dX10_emittedHeat_22 rfl ?_
  refine wp_getr (gB G + 1) dX10_emittedHeat_23 fX10_10 (ka0 hF) (hF.2 _ _) (rra 1 (isK_le (ka0 hF)) (fun _ => rfl)) ?_
  refine wp_getr ((gB G + 1) + 1) dX10_emittedHeat_26 fX10_48 (kc0 hF (isC1 G)) (hF.2 _ _) (rra 1 (isK_le (kc0 hF (isC1 G))) (fun _ => rfl)) ?_
  refine wp_iload_n dX10_emittedHeat_29 rfl ?_
  refine wp_raldk (n := 12) i (nd (gB G + 1) i) dX10_emittedHeat_30 (kc hF (isC1 G) 1 (by decide)) (by decide) (by decide) (lc (isC1 G) 1 (by decide)) (vin (by omega) (by decide)) (nIc (by omega)) (hF.2 _ _) (rnd hF (isC1 G)) ?_
  refine wp_getl (fl m 413 (nd (gB G + 1) i)) dX10_emittedHeat_31 fX10_198 (knd hF (isC1 G) (by omega)) rfl ?_
  exact wp_lret dX10_emittedHeat_34 rfl (e1)

theorem aC_emittedHeat {G : Cx} {d : Nat} {m : Mm} {Q : Option Value → Mm → Prop} {x : Int32} {n : Nat}  (hF : Full G m) (hn : fi m 5 (gB G + 1) = nI n) (hm : n ≤ 12) (hx : x < 0) 
    (e1 : Q (some (.long (-1000000001 : Int64))) m) :
    WPM G (d + 6) (0, 0) μX10_emittedHeat [.ref (gB G), .int x] m Q := by
  refine WPM.of pX10 (Nat.le_of_ble_eq_true rfl) rfl ?_
  refine wp_aload_n dX10_emittedHeat_0 rfl ?_
  refine wp_getr (gB G + 1) dX10_emittedHeat_1 fX10_10 (ka0 hF) (hF.2 _ _) (rra 1 (isK_le (ka0 hF)) (fun _ => rfl)) ?_
  refine wp_iload_n dX10_emittedHeat_4 rfl ?_
  refine wp_callV (As := [.int x]) (S := []) (b' := (0, 0)) (b := (0, 0)) dX10_emittedHeat_5 MX10_58 (kc0 hF (isC1 G)) rfl rfl rfl rfl (Nat.le_of_ble_eq_true rfl) ?_
  refine WPM.of pX0 (Nat.le_of_ble_eq_true rfl) rfl ?_
  refine wp_iload_n dX0_hasNode_0 rfl ?_
  refine wp_if_lt 16 dX0_hasNode_1 (by decide) (fun _ => ?_) (fun q => absurd hx q)
  refine wp_iconst (0 : Int32) dX0_hasNode_16 (by decide) ?_
  refine wp_zret dX0_hasNode_17 rfl rfl ?_
  show WP G (d + 6) (0, 0) μX10_emittedHeat 8 [.ref (gB G), .int x] [.int (0 : Int32)] m _
  refine wp_if_ne 15 dX10_emittedHeat_8 (by decide) (fun q => absurd (by decide) q) (fun _ => ?_)
  refine wp_ldc2 dX10_emittedHeat_11 kX10_189 ?_
  exact wp_lret dX10_emittedHeat_14 rfl (e1)

theorem bC_emittedHeat {G : Cx} {d : Nat} {m : Mm} {Q : Option Value → Mm → Prop} {x : Int32} {n : Nat}  (hF : Full G m) (hn : fi m 5 (gB G + 1) = nI n) (hm : n ≤ 12) (hxa : ¬ x < 0) (hxb : ¬ x < nI n) 
    (e1 : Q (some (.long (-1000000001 : Int64))) m) :
    WPM G (d + 6) (0, 0) μX10_emittedHeat [.ref (gB G), .int x] m Q := by
  refine WPM.of pX10 (Nat.le_of_ble_eq_true rfl) rfl ?_
  refine wp_aload_n dX10_emittedHeat_0 rfl ?_
  refine wp_getr (gB G + 1) dX10_emittedHeat_1 fX10_10 (ka0 hF) (hF.2 _ _) (rra 1 (isK_le (ka0 hF)) (fun _ => rfl)) ?_
  refine wp_iload_n dX10_emittedHeat_4 rfl ?_
  refine wp_callV (As := [.int x]) (S := []) (b' := (0, 0)) (b := (0, 0)) dX10_emittedHeat_5 MX10_58 (kc0 hF (isC1 G)) rfl rfl rfl rfl (Nat.le_of_ble_eq_true rfl) ?_
  refine WPM.of pX0 (Nat.le_of_ble_eq_true rfl) rfl ?_
  refine wp_iload_n dX0_hasNode_0 rfl ?_
  refine wp_if_lt 16 dX0_hasNode_1 (by decide) (fun q => absurd q hxa) (fun _ => ?_)
  refine wp_iload_n dX0_hasNode_4 rfl ?_
  refine wp_aload_n dX0_hasNode_5 rfl ?_
  refine wp_geti (nI n) dX0_hasNode_6 fX0_75 (Or.inl rfl) (kc0 hF (isC1 G)) hn ?_
  refine wp_icmp_ge 16 dX0_hasNode_9 (by decide) (fun _ => ?_) (fun q => absurd q hxb)
  refine wp_iconst (0 : Int32) dX0_hasNode_16 (by decide) ?_
  refine wp_zret dX0_hasNode_17 rfl rfl ?_
  show WP G (d + 6) (0, 0) μX10_emittedHeat 8 [.ref (gB G), .int x] [.int (0 : Int32)] m _
  refine wp_if_ne 15 dX10_emittedHeat_8 (by decide) (fun q => absurd (by decide) q) (fun _ => ?_)
  refine wp_ldc2 dX10_emittedHeat_11 kX10_189 ?_
  exact wp_lret dX10_emittedHeat_14 rfl (e1)

theorem iC_conductedHeat {G : Cx} {d : Nat} {m : Mm} {Q : Option Value → Mm → Prop} {i n : Nat}  (hF : Full G m) (hn : fi m 5 (gB G + 1) = nI (n + 1)) (hm : n + 1 ≤ 12) (hi : i < n + 1) 
    (e1 : WPM G (d + 5) (0, 0) μX0_balanceHeat [.ref (gB G + 1)] m (fun r' m' => WP G (d + 6) (0, 0) μX10_conductedHeat 22 [.ref (gB G), .int (nI i)] (r'.toList ++ []) m' Q)) :
    WPM G (d + 6) (0, 0) μX10_conductedHeat [.ref (gB G), .int (nI i)] m Q := by
  refine WPM.of pX10 (Nat.le_of_ble_eq_true rfl) rfl ?_
  refine wp_aload_n dX10_conductedHeat_0 rfl ?_
  refine wp_getr (gB G + 1) dX10_conductedHeat_1 fX10_10 (ka0 hF) (hF.2 _ _) (rra 1 (isK_le (ka0 hF)) (fun _ => rfl)) ?_
  refine wp_iload_n dX10_conductedHeat_4 rfl ?_
  refine wp_callV (As := [.int (nI i)]) (S := []) (b' := (0, 0)) (b := (0, 0)) dX10_conductedHeat_5 MX10_58 (kc0 hF (isC1 G)) rfl rfl rfl rfl (Nat.le_of_ble_eq_true rfl) ?_
  refine WPM.of pX0 (Nat.le_of_ble_eq_true rfl) rfl ?_
  refine wp_iload_n dX0_hasNode_0 rfl ?_
  refine wp_if_lt 16 dX0_hasNode_1 (by decide) (fun q => absurd q (nI_pos (by omega))) (fun _ => ?_)
  refine wp_iload_n dX0_hasNode_4 rfl ?_
  refine wp_aload_n dX0_hasNode_5 rfl ?_
  refine wp_geti (nI (n + 1)) dX0_hasNode_6 fX0_75 (Or.inl rfl) (kc0 hF (isC1 G)) hn ?_
  refine wp_icmp_ge 16 dX0_hasNode_9 (by decide) (fun q => absurd (nlt_ (a := i) (b := n + 1) hi (by omega)) q) (fun _ => ?_)
  refine wp_iconst (1 : Int32) dX0_hasNode_12 (by decide) ?_
  refine wp_goto 17 dX0_hasNode_13 (by decide) ?_
  refine wp_zret dX0_hasNode_17 rfl rfl ?_
  show WP G (d + 6) (0, 0) μX10_conductedHeat 8 [.ref (gB G), .int (nI i)] [.int (1 : Int32)] m _
  refine wp_if_ne 15 dX10_conductedHeat_8 (by decide) (fun _ => ?_) (fun q => absurd q (by decide))
  refine wp_aload_n dX10_conductedHeat_15 rfl ?_
  refine wp_getr (gB G + 1) dX10_conductedHeat_16 fX10_10 (ka0 hF) (hF.2 _ _) (rra 1 (isK_le (ka0 hF)) (fun _ => rfl)) ?_
  refine wp_callV (As := []) (S := []) (b' := (0, 0)) (b := (0, 0)) dX10_conductedHeat_19 MX10_191 (kc0 hF (isC1 G)) rfl rfl rfl rfl (Nat.le_of_ble_eq_true rfl) ?_
  exact e1

theorem jC_conductedHeat {G : Cx} {d : Nat} {m : Mm} {Q : Option Value → Mm → Prop} {i : Nat} (hF : Full G m) (hi : i < 12)
    (e1 : Q (some (.long (fl m 414 (nd (gB G + 1) i)))) m) :
    WP G (d + 6) (0, 0) μX10_conductedHeat 22 [.ref (gB G), .int (nI i)] [] m Q := by
  refine wp_aload_n dX10_conductedHeat_22 rfl ?_
  refine wp_getr (gB G + 1) dX10_conductedHeat_23 fX10_10 (ka0 hF) (hF.2 _ _) (rra 1 (isK_le (ka0 hF)) (fun _ => rfl)) ?_
  refine wp_getr ((gB G + 1) + 1) dX10_conductedHeat_26 fX10_48 (kc0 hF (isC1 G)) (hF.2 _ _) (rra 1 (isK_le (kc0 hF (isC1 G))) (fun _ => rfl)) ?_
  refine wp_iload_n dX10_conductedHeat_29 rfl ?_
  refine wp_raldk (n := 12) i (nd (gB G + 1) i) dX10_conductedHeat_30 (kc hF (isC1 G) 1 (by decide)) (by decide) (by decide) (lc (isC1 G) 1 (by decide)) (vin (by omega) (by decide)) (nIc (by omega)) (hF.2 _ _) (rnd hF (isC1 G)) ?_
  refine wp_getl (fl m 414 (nd (gB G + 1) i)) dX10_conductedHeat_31 fX10_201 (knd hF (isC1 G) (by omega)) rfl ?_
  exact wp_lret dX10_conductedHeat_34 rfl (e1)

theorem aC_conductedHeat {G : Cx} {d : Nat} {m : Mm} {Q : Option Value → Mm → Prop} {x : Int32} {n : Nat}  (hF : Full G m) (hn : fi m 5 (gB G + 1) = nI n) (hm : n ≤ 12) (hx : x < 0) 
    (e1 : Q (some (.long (-1000000001 : Int64))) m) :
    WPM G (d + 6) (0, 0) μX10_conductedHeat [.ref (gB G), .int x] m Q := by
  refine WPM.of pX10 (Nat.le_of_ble_eq_true rfl) rfl ?_
  refine wp_aload_n dX10_conductedHeat_0 rfl ?_
  refine wp_getr (gB G + 1) dX10_conductedHeat_1 fX10_10 (ka0 hF) (hF.2 _ _) (rra 1 (isK_le (ka0 hF)) (fun _ => rfl)) ?_
  refine wp_iload_n dX10_conductedHeat_4 rfl ?_
  refine wp_callV (As := [.int x]) (S := []) (b' := (0, 0)) (b := (0, 0)) dX10_conductedHeat_5 MX10_58 (kc0 hF (isC1 G)) rfl rfl rfl rfl (Nat.le_of_ble_eq_true rfl) ?_
  refine WPM.of pX0 (Nat.le_of_ble_eq_true rfl) rfl ?_
  refine wp_iload_n dX0_hasNode_0 rfl ?_
  refine wp_if_lt 16 dX0_hasNode_1 (by decide) (fun _ => ?_) (fun q => absurd hx q)
  refine wp_iconst (0 : Int32) dX0_hasNode_16 (by decide) ?_
  refine wp_zret dX0_hasNode_17 rfl rfl ?_
  show WP G (d + 6) (0, 0) μX10_conductedHeat 8 [.ref (gB G), .int x] [.int (0 : Int32)] m _
  refine wp_if_ne 15 dX10_conductedHeat_8 (by decide) (fun q => absurd (by decide) q) (fun _ => ?_)
  refine wp_ldc2 dX10_conductedHeat_11 kX10_189 ?_
  exact wp_lret dX10_conductedHeat_14 rfl (e1)

theorem bC_conductedHeat {G : Cx} {d : Nat} {m : Mm} {Q : Option Value → Mm → Prop} {x : Int32} {n : Nat}  (hF : Full G m) (hn : fi m 5 (gB G + 1) = nI n) (hm : n ≤ 12) (hxa : ¬ x < 0) (hxb : ¬ x < nI n) 
    (e1 : Q (some (.long (-1000000001 : Int64))) m) :
    WPM G (d + 6) (0, 0) μX10_conductedHeat [.ref (gB G), .int x] m Q := by
  refine WPM.of pX10 (Nat.le_of_ble_eq_true rfl) rfl ?_
  refine wp_aload_n dX10_conductedHeat_0 rfl ?_
  refine wp_getr (gB G + 1) dX10_conductedHeat_1 fX10_10 (ka0 hF) (hF.2 _ _) (rra 1 (isK_le (ka0 hF)) (fun _ => rfl)) ?_
  refine wp_iload_n dX10_conductedHeat_4 rfl ?_
  refine wp_callV (As := [.int x]) (S := []) (b' := (0, 0)) (b := (0, 0)) dX10_conductedHeat_5 MX10_58 (kc0 hF (isC1 G)) rfl rfl rfl rfl (Nat.le_of_ble_eq_true rfl) ?_
  refine WPM.of pX0 (Nat.le_of_ble_eq_true rfl) rfl ?_
  refine wp_iload_n dX0_hasNode_0 rfl ?_
  refine wp_if_lt 16 dX0_hasNode_1 (by decide) (fun q => absurd q hxa) (fun _ => ?_)
  refine wp_iload_n dX0_hasNode_4 rfl ?_
  refine wp_aload_n dX0_hasNode_5 rfl ?_
  refine wp_geti (nI n) dX0_hasNode_6 fX0_75 (Or.inl rfl) (kc0 hF (isC1 G)) hn ?_
  refine wp_icmp_ge 16 dX0_hasNode_9 (by decide) (fun _ => ?_) (fun q => absurd q hxb)
  refine wp_iconst (0 : Int32) dX0_hasNode_16 (by decide) ?_
  refine wp_zret dX0_hasNode_17 rfl rfl ?_
  show WP G (d + 6) (0, 0) μX10_conductedHeat 8 [.ref (gB G), .int x] [.int (0 : Int32)] m _
  refine wp_if_ne 15 dX10_conductedHeat_8 (by decide) (fun q => absurd (by decide) q) (fun _ => ?_)
  refine wp_ldc2 dX10_conductedHeat_11 kX10_189 ?_
  exact wp_lret dX10_conductedHeat_14 rfl (e1)

theorem iC_netHeat {G : Cx} {d : Nat} {m : Mm} {Q : Option Value → Mm → Prop} {i n : Nat}  (hF : Full G m) (hn : fi m 5 (gB G + 1) = nI (n + 1)) (hm : n + 1 ≤ 12) (hi : i < n + 1) 
    (e1 : WPM G (d + 5) (0, 0) μX0_balanceHeat [.ref (gB G + 1)] m (fun r' m' => WP G (d + 6) (0, 0) μX10_netHeat 22 [.ref (gB G), .int (nI i)] (r'.toList ++ []) m' Q)) :
    WPM G (d + 6) (0, 0) μX10_netHeat [.ref (gB G), .int (nI i)] m Q := by
  refine WPM.of pX10 (Nat.le_of_ble_eq_true rfl) rfl ?_
  refine wp_aload_n dX10_netHeat_0 rfl ?_
  refine wp_getr (gB G + 1) dX10_netHeat_1 fX10_10 (ka0 hF) (hF.2 _ _) (rra 1 (isK_le (ka0 hF)) (fun _ => rfl)) ?_
  refine wp_iload_n dX10_netHeat_4 rfl ?_
  refine wp_callV (As := [.int (nI i)]) (S := []) (b' := (0, 0)) (b := (0, 0)) dX10_netHeat_5 MX10_58 (kc0 hF (isC1 G)) rfl rfl rfl rfl (Nat.le_of_ble_eq_true rfl) ?_
  refine WPM.of pX0 (Nat.le_of_ble_eq_true rfl) rfl ?_
  refine wp_iload_n dX0_hasNode_0 rfl ?_
  refine wp_if_lt 16 dX0_hasNode_1 (by decide) (fun q => absurd q (nI_pos (by omega))) (fun _ => ?_)
  refine wp_iload_n dX0_hasNode_4 rfl ?_
  refine wp_aload_n dX0_hasNode_5 rfl ?_
  refine wp_geti (nI (n + 1)) dX0_hasNode_6 fX0_75 (Or.inl rfl) (kc0 hF (isC1 G)) hn ?_
  refine wp_icmp_ge 16 dX0_hasNode_9 (by decide) (fun q => absurd (nlt_ (a := i) (b := n + 1) hi (by omega)) q) (fun _ => ?_)
  refine wp_iconst (1 : Int32) dX0_hasNode_12 (by decide) ?_
  refine wp_goto 17 dX0_hasNode_13 (by decide) ?_
  refine wp_zret dX0_hasNode_17 rfl rfl ?_
  show WP G (d + 6) (0, 0) μX10_netHeat 8 [.ref (gB G), .int (nI i)] [.int (1 : Int32)] m _
  refine wp_if_ne 15 dX10_netHeat_8 (by decide) (fun _ => ?_) (fun q => absurd q (by decide))
  refine wp_aload_n dX10_netHeat_15 rfl ?_
  refine wp_getr (gB G + 1) dX10_netHeat_16 fX10_10 (ka0 hF) (hF.2 _ _) (rra 1 (isK_le (ka0 hF)) (fun _ => rfl)) ?_
  refine wp_callV (As := []) (S := []) (b' := (0, 0)) (b := (0, 0)) dX10_netHeat_19 MX10_191 (kc0 hF (isC1 G)) rfl rfl rfl rfl (Nat.le_of_ble_eq_true rfl) ?_
  exact e1

theorem jC_netHeat {G : Cx} {d : Nat} {m : Mm} {Q : Option Value → Mm → Prop} {i : Nat} (hF : Full G m) (hi : i < 12)
    (e1 : Q (some (.long (((((Int32.toInt64 (fi m 404 (nd (gB G + 1) i))) + (fl m 415 (nd (gB G + 1) i))) + (fl m 412 (nd (gB G + 1) i))) + (fl m 414 (nd (gB G + 1) i))) - (fl m 413 (nd (gB G + 1) i))))) m) :
    WP G (d + 6) (0, 0) μX10_netHeat 22 [.ref (gB G), .int (nI i)] [] m Q := by
  refine wp_aload_n dX10_netHeat_22 rfl ?_
  refine wp_getr (gB G + 1) dX10_netHeat_23 fX10_10 (ka0 hF) (hF.2 _ _) (rra 1 (isK_le (ka0 hF)) (fun _ => rfl)) ?_
  refine wp_getr ((gB G + 1) + 1) dX10_netHeat_26 fX10_48 (kc0 hF (isC1 G)) (hF.2 _ _) (rra 1 (isK_le (kc0 hF (isC1 G))) (fun _ => rfl)) ?_
  refine wp_iload_n dX10_netHeat_29 rfl ?_
  refine wp_raldk (n := 12) i (nd (gB G + 1) i) dX10_netHeat_30 (kc hF (isC1 G) 1 (by decide)) (by decide) (by decide) (lc (isC1 G) 1 (by decide)) (vin (by omega) (by decide)) (nIc (by omega)) (hF.2 _ _) (rnd hF (isC1 G)) ?_
  refine wp_callV (As := []) (S := []) (b' := (0, 0)) (b := (0, 0)) dX10_netHeat_31 MX10_204 (knd hF (isC1 G) (by omega)) rfl rfl rfl rfl (Nat.le_of_ble_eq_true rfl) ?_
  refine WPM.of pX4 (Nat.le_of_ble_eq_true rfl) rfl ?_
  refine wp_aload_n dX4_gain_0 rfl ?_
  refine wp_geti (fi m 404 (nd (gB G + 1) i)) dX4_gain_1 fX4_24 (Or.inl rfl) (knd hF (isC1 G) (by omega)) rfl ?_
  refine wp_i2l dX4_gain_4 ?_
  refine wp_aload_n dX4_gain_5 rfl ?_
  refine wp_getl (fl m 415 (nd (gB G + 1) i)) dX4_gain_6 fX4_62 (knd hF (isC1 G) (by omega)) rfl ?_
  refine wp_ladd dX4_gain_9 ?_
  refine wp_aload_n dX4_gain_10 rfl ?_
  refine wp_getl (fl m 412 (nd (gB G + 1) i)) dX4_gain_11 fX4_65 (knd hF (isC1 G) (by omega)) rfl ?_
  refine wp_ladd dX4_gain_14 ?_
  refine wp_aload_n dX4_gain_15 rfl ?_
  refine wp_getl (fl m 414 (nd (gB G + 1) i)) dX4_gain_16 fX4_68 (knd hF (isC1 G) (by omega)) rfl ?_
  refine wp_ladd dX4_gain_19 ?_
  refine wp_aload_n dX4_gain_20 rfl ?_
  refine wp_getl (fl m 413 (nd (gB G + 1) i)) dX4_gain_21 fX4_59 (knd hF (isC1 G) (by omega)) rfl ?_
  refine wp_lsub dX4_gain_24 ?_
  refine wp_lret dX4_gain_25 rfl ?_
  show WP G (d + 6) (0, 0) μX10_netHeat 34 [.ref (gB G), .int (nI i)] [.long (((((Int32.toInt64 (fi m 404 (nd (gB G + 1) i))) + (fl m 415 (nd (gB G + 1) i))) + (fl m 412 (nd (gB G + 1) i))) + (fl m 414 (nd (gB G + 1) i))) - (fl m 413 (nd (gB G + 1) i)))] m _
  exact wp_lret dX10_netHeat_34 rfl (e1)

theorem aC_netHeat {G : Cx} {d : Nat} {m : Mm} {Q : Option Value → Mm → Prop} {x : Int32} {n : Nat}  (hF : Full G m) (hn : fi m 5 (gB G + 1) = nI n) (hm : n ≤ 12) (hx : x < 0) 
    (e1 : Q (some (.long (-1000000001 : Int64))) m) :
    WPM G (d + 6) (0, 0) μX10_netHeat [.ref (gB G), .int x] m Q := by
  refine WPM.of pX10 (Nat.le_of_ble_eq_true rfl) rfl ?_
  refine wp_aload_n dX10_netHeat_0 rfl ?_
  refine wp_getr (gB G + 1) dX10_netHeat_1 fX10_10 (ka0 hF) (hF.2 _ _) (rra 1 (isK_le (ka0 hF)) (fun _ => rfl)) ?_
  refine wp_iload_n dX10_netHeat_4 rfl ?_
  refine wp_callV (As := [.int x]) (S := []) (b' := (0, 0)) (b := (0, 0)) dX10_netHeat_5 MX10_58 (kc0 hF (isC1 G)) rfl rfl rfl rfl (Nat.le_of_ble_eq_true rfl) ?_
  refine WPM.of pX0 (Nat.le_of_ble_eq_true rfl) rfl ?_
  refine wp_iload_n dX0_hasNode_0 rfl ?_
  refine wp_if_lt 16 dX0_hasNode_1 (by decide) (fun _ => ?_) (fun q => absurd hx q)
  refine wp_iconst (0 : Int32) dX0_hasNode_16 (by decide) ?_
  refine wp_zret dX0_hasNode_17 rfl rfl ?_
  show WP G (d + 6) (0, 0) μX10_netHeat 8 [.ref (gB G), .int x] [.int (0 : Int32)] m _
  refine wp_if_ne 15 dX10_netHeat_8 (by decide) (fun q => absurd (by decide) q) (fun _ => ?_)
  refine wp_ldc2 dX10_netHeat_11 kX10_189 ?_
  exact wp_lret dX10_netHeat_14 rfl (e1)

theorem bC_netHeat {G : Cx} {d : Nat} {m : Mm} {Q : Option Value → Mm → Prop} {x : Int32} {n : Nat}  (hF : Full G m) (hn : fi m 5 (gB G + 1) = nI n) (hm : n ≤ 12) (hxa : ¬ x < 0) (hxb : ¬ x < nI n) 
    (e1 : Q (some (.long (-1000000001 : Int64))) m) :
    WPM G (d + 6) (0, 0) μX10_netHeat [.ref (gB G), .int x] m Q := by
  refine WPM.of pX10 (Nat.le_of_ble_eq_true rfl) rfl ?_
  refine wp_aload_n dX10_netHeat_0 rfl ?_
  refine wp_getr (gB G + 1) dX10_netHeat_1 fX10_10 (ka0 hF) (hF.2 _ _) (rra 1 (isK_le (ka0 hF)) (fun _ => rfl)) ?_
  refine wp_iload_n dX10_netHeat_4 rfl ?_
  refine wp_callV (As := [.int x]) (S := []) (b' := (0, 0)) (b := (0, 0)) dX10_netHeat_5 MX10_58 (kc0 hF (isC1 G)) rfl rfl rfl rfl (Nat.le_of_ble_eq_true rfl) ?_
  refine WPM.of pX0 (Nat.le_of_ble_eq_true rfl) rfl ?_
  refine wp_iload_n dX0_hasNode_0 rfl ?_
  refine wp_if_lt 16 dX0_hasNode_1 (by decide) (fun q => absurd q hxa) (fun _ => ?_)
  refine wp_iload_n dX0_hasNode_4 rfl ?_
  refine wp_aload_n dX0_hasNode_5 rfl ?_
  refine wp_geti (nI n) dX0_hasNode_6 fX0_75 (Or.inl rfl) (kc0 hF (isC1 G)) hn ?_
  refine wp_icmp_ge 16 dX0_hasNode_9 (by decide) (fun _ => ?_) (fun q => absurd q hxb)
  refine wp_iconst (0 : Int32) dX0_hasNode_16 (by decide) ?_
  refine wp_zret dX0_hasNode_17 rfl rfl ?_
  show WP G (d + 6) (0, 0) μX10_netHeat 8 [.ref (gB G), .int x] [.int (0 : Int32)] m _
  refine wp_if_ne 15 dX10_netHeat_8 (by decide) (fun q => absurd (by decide) q) (fun _ => ?_)
  refine wp_ldc2 dX10_netHeat_11 kX10_189 ?_
  exact wp_lret dX10_netHeat_14 rfl (e1)

theorem iiC_conductance {G : Cx} {d : Nat} {m : Mm} {Q : Option Value → Mm → Prop} {i j n : Nat}  (hF : Full G m) (hn : fi m 5 (gB G + 1) = nI (n + 1)) (hm : n + 1 ≤ 12) (hi : i < n + 1) (hj : j < n + 1) 
    (e1 : WPM G (d + 5) (0, 0) μX0_placeOfLink [.ref (gB G + 1), .int (nI i), .int (nI j)] m (fun r' m' => WP G (d + 6) (0, 0) μX10_conductance 34 [.ref (gB G), lvU, lvU, lvU] (r'.toList ++ []) m' Q)) :
    WPM G (d + 6) (0, 0) μX10_conductance [.ref (gB G), .int (nI i), .int (nI j)] m Q := by
  refine WPM.of pX10 (Nat.le_of_ble_eq_true rfl) rfl ?_
  refine wp_aload_n dX10_conductance_0 rfl ?_
  refine wp_getr (gB G + 1) dX10_conductance_1 fX10_10 (ka0 hF) (hF.2 _ _) (rra 1 (isK_le (ka0 hF)) (fun _ => rfl)) ?_
  refine wp_iload_n dX10_conductance_4 rfl ?_
  refine wp_callV (As := [.int (nI i)]) (S := []) (b' := (0, 0)) (b := (0, 0)) dX10_conductance_5 MX10_58 (kc0 hF (isC1 G)) rfl rfl rfl rfl (Nat.le_of_ble_eq_true rfl) ?_
  refine WPM.of pX0 (Nat.le_of_ble_eq_true rfl) rfl ?_
  refine wp_iload_n dX0_hasNode_0 rfl ?_
  refine wp_if_lt 16 dX0_hasNode_1 (by decide) (fun q => absurd q (nI_pos (by omega))) (fun _ => ?_)
  refine wp_iload_n dX0_hasNode_4 rfl ?_
  refine wp_aload_n dX0_hasNode_5 rfl ?_
  refine wp_geti (nI (n + 1)) dX0_hasNode_6 fX0_75 (Or.inl rfl) (kc0 hF (isC1 G)) hn ?_
  refine wp_icmp_ge 16 dX0_hasNode_9 (by decide) (fun q => absurd (nlt_ (a := i) (b := n + 1) hi (by omega)) q) (fun _ => ?_)
  refine wp_iconst (1 : Int32) dX0_hasNode_12 (by decide) ?_
  refine wp_goto 17 dX0_hasNode_13 (by decide) ?_
  refine wp_zret dX0_hasNode_17 rfl rfl ?_
  show WP G (d + 6) (0, 0) μX10_conductance 8 [.ref (gB G), .int (nI i), .int (nI j), lvU] [.int (1 : Int32)] m _
  refine wp_if_eq 22 dX10_conductance_8 (by decide) (fun q => absurd q (by decide)) (fun _ => ?_)
  refine wp_aload_n dX10_conductance_11 rfl ?_
  refine wp_getr (gB G + 1) dX10_conductance_12 fX10_10 (ka0 hF) (hF.2 _ _) (rra 1 (isK_le (ka0 hF)) (fun _ => rfl)) ?_
  refine wp_iload_n dX10_conductance_15 rfl ?_
  refine wp_callV (As := [.int (nI j)]) (S := []) (b' := (0, 0)) (b := (0, 0)) dX10_conductance_16 MX10_58 (kc0 hF (isC1 G)) rfl rfl rfl rfl (Nat.le_of_ble_eq_true rfl) ?_
  refine WPM.of pX0 (Nat.le_of_ble_eq_true rfl) rfl ?_
  refine wp_iload_n dX0_hasNode_0 rfl ?_
  refine wp_if_lt 16 dX0_hasNode_1 (by decide) (fun q => absurd q (nI_pos (by omega))) (fun _ => ?_)
  refine wp_iload_n dX0_hasNode_4 rfl ?_
  refine wp_aload_n dX0_hasNode_5 rfl ?_
  refine wp_geti (nI (n + 1)) dX0_hasNode_6 fX0_75 (Or.inl rfl) (kc0 hF (isC1 G)) hn ?_
  refine wp_icmp_ge 16 dX0_hasNode_9 (by decide) (fun q => absurd (nlt_ (a := j) (b := n + 1) hj (by omega)) q) (fun _ => ?_)
  refine wp_iconst (1 : Int32) dX0_hasNode_12 (by decide) ?_
  refine wp_goto 17 dX0_hasNode_13 (by decide) ?_
  refine wp_zret dX0_hasNode_17 rfl rfl ?_
  show WP G (d + 6) (0, 0) μX10_conductance 19 [.ref (gB G), .int (nI i), .int (nI j), lvU] [.int (1 : Int32)] m _
  refine wp_if_ne 25 dX10_conductance_19 (by decide) (fun _ => ?_) (fun q => absurd q (by decide))
  refine wp_aload_n dX10_conductance_25 rfl ?_
  refine wp_getr (gB G + 1) dX10_conductance_26 fX10_10 (ka0 hF) (hF.2 _ _) (rra 1 (isK_le (ka0 hF)) (fun _ => rfl)) ?_
  refine wp_iload_n dX10_conductance_29 rfl ?_
  refine wp_iload_n dX10_conductance_30 rfl ?_
  refine wp_forget [.ref (gB G), lvU, lvU, lvU] ⟨Or.inl rfl, Or.inr rfl, Or.inr rfl, Or.inr rfl, trivial⟩ ?_
  refine wp_callV (As := [.int (nI i), .int (nI j)]) (S := []) (b' := (0, 0)) (b := (0, 0)) dX10_conductance_31 MX10_75 (kc0 hF (isC1 G)) rfl rfl rfl rfl (Nat.le_of_ble_eq_true rfl) ?_
  exact e1

theorem jC_conductance0 {G : Cx} {d : Nat} {m : Mm} {Q : Option Value → Mm → Prop}  (hF : Full G m) 
    (e1 : Q (some (.int (0 : Int32))) m) :
    WP G (d + 6) (0, 0) μX10_conductance 34 [.ref (gB G), lvU, lvU, lvU] [.int (-1 : Int32)] m Q := by
  refine wp_istore_n dX10_conductance_34 (by decide) rfl ?_
  refine wp_iload_n dX10_conductance_35 rfl ?_
  refine wp_iconst (-1 : Int32) dX10_conductance_36 (by decide) ?_
  refine wp_icmp_ne 44 dX10_conductance_37 (by decide) (fun q => absurd (by decide) q) (fun _ => ?_)
  refine wp_iconst (0 : Int32) dX10_conductance_40 (by decide) ?_
  refine wp_goto 56 dX10_conductance_41 (by decide) ?_
  exact wp_iret dX10_conductance_56 rfl (e1)

theorem jC_conductance1 {G : Cx} {d : Nat} {m : Mm} {Q : Option Value → Mm → Prop} {p : Nat} (hF : Full G m) (hp : p < 24)
    (e1 : ¬ (nI p) = (-1 : Int32) → Q (some (.int (fi m 202 (lk (gB G + 1) p)))) m)
    (e2 : (nI p) = (-1 : Int32) → Q (some (.int (0 : Int32))) m) :
    WP G (d + 6) (0, 0) μX10_conductance 34 [.ref (gB G), lvU, lvU, lvU] [.int (nI p)] m Q := by
  refine wp_istore_n dX10_conductance_34 (by decide) rfl ?_
  refine wp_iload_n dX10_conductance_35 rfl ?_
  refine wp_iconst (-1 : Int32) dX10_conductance_36 (by decide) ?_
  refine wp_icmp_ne 44 dX10_conductance_37 (by decide) (fun q1 => ?_) (fun q2 => ?_)
  · skip
    refine wp_aload_n dX10_conductance_44 rfl ?_
    refine wp_getr (gB G + 1) dX10_conductance_45 fX10_10 (ka0 hF) (hF.2 _ _) (rra 1 (isK_le (ka0 hF)) (fun _ => rfl)) ?_
    refine wp_getr ((gB G + 1) + 2) dX10_conductance_48 fX10_83 (kc0 hF (isC1 G)) (hF.2 _ _) (rra 2 (isK_le (kc0 hF (isC1 G))) (fun _ => rfl)) ?_
    refine wp_iload_n dX10_conductance_51 rfl ?_
    refine wp_raldk (n := 24) p (lk (gB G + 1) p) dX10_conductance_52 (kc hF (isC1 G) 2 (by decide)) (by decide) (by decide) (lc (isC1 G) 2 (by decide)) (vin (by omega) (by decide)) (nIc (by omega)) (hF.2 _ _) (rlk hF (isC1 G)) ?_
    refine wp_geti (fi m 202 (lk (gB G + 1) p)) dX10_conductance_53 fX10_87 (Or.inl rfl) (klk hF (isC1 G) (by omega)) rfl ?_
    exact wp_iret dX10_conductance_56 rfl (e1 q1)
  · skip
    refine wp_iconst (0 : Int32) dX10_conductance_40 (by decide) ?_
    refine wp_goto 56 dX10_conductance_41 (by decide) ?_
    exact wp_iret dX10_conductance_56 rfl (e2 q2)

theorem aC_conductance {G : Cx} {d : Nat} {m : Mm} {Q : Option Value → Mm → Prop} {x y : Int32} {n : Nat}  (hF : Full G m) (hn : fi m 5 (gB G + 1) = nI n) (hm : n ≤ 12) (hx : x < 0) 
    (e1 : Q (some (.int (-1000000001 : Int32))) m) :
    WPM G (d + 6) (0, 0) μX10_conductance [.ref (gB G), .int x, .int y] m Q := by
  refine WPM.of pX10 (Nat.le_of_ble_eq_true rfl) rfl ?_
  refine wp_aload_n dX10_conductance_0 rfl ?_
  refine wp_getr (gB G + 1) dX10_conductance_1 fX10_10 (ka0 hF) (hF.2 _ _) (rra 1 (isK_le (ka0 hF)) (fun _ => rfl)) ?_
  refine wp_iload_n dX10_conductance_4 rfl ?_
  refine wp_callV (As := [.int x]) (S := []) (b' := (0, 0)) (b := (0, 0)) dX10_conductance_5 MX10_58 (kc0 hF (isC1 G)) rfl rfl rfl rfl (Nat.le_of_ble_eq_true rfl) ?_
  refine WPM.of pX0 (Nat.le_of_ble_eq_true rfl) rfl ?_
  refine wp_iload_n dX0_hasNode_0 rfl ?_
  refine wp_if_lt 16 dX0_hasNode_1 (by decide) (fun _ => ?_) (fun q => absurd hx q)
  refine wp_iconst (0 : Int32) dX0_hasNode_16 (by decide) ?_
  refine wp_zret dX0_hasNode_17 rfl rfl ?_
  show WP G (d + 6) (0, 0) μX10_conductance 8 [.ref (gB G), .int x, .int y, lvU] [.int (0 : Int32)] m _
  refine wp_if_eq 22 dX10_conductance_8 (by decide) (fun _ => ?_) (fun q => absurd (by decide) q)
  refine wp_ldc dX10_conductance_22 kX10_62 ?_
  exact wp_iret dX10_conductance_24 rfl (e1)

theorem bC_conductance {G : Cx} {d : Nat} {m : Mm} {Q : Option Value → Mm → Prop} {x y : Int32} {n : Nat}  (hF : Full G m) (hn : fi m 5 (gB G + 1) = nI n) (hm : n ≤ 12) (hxa : ¬ x < 0) (hxb : ¬ x < nI n) 
    (e1 : Q (some (.int (-1000000001 : Int32))) m) :
    WPM G (d + 6) (0, 0) μX10_conductance [.ref (gB G), .int x, .int y] m Q := by
  refine WPM.of pX10 (Nat.le_of_ble_eq_true rfl) rfl ?_
  refine wp_aload_n dX10_conductance_0 rfl ?_
  refine wp_getr (gB G + 1) dX10_conductance_1 fX10_10 (ka0 hF) (hF.2 _ _) (rra 1 (isK_le (ka0 hF)) (fun _ => rfl)) ?_
  refine wp_iload_n dX10_conductance_4 rfl ?_
  refine wp_callV (As := [.int x]) (S := []) (b' := (0, 0)) (b := (0, 0)) dX10_conductance_5 MX10_58 (kc0 hF (isC1 G)) rfl rfl rfl rfl (Nat.le_of_ble_eq_true rfl) ?_
  refine WPM.of pX0 (Nat.le_of_ble_eq_true rfl) rfl ?_
  refine wp_iload_n dX0_hasNode_0 rfl ?_
  refine wp_if_lt 16 dX0_hasNode_1 (by decide) (fun q => absurd q hxa) (fun _ => ?_)
  refine wp_iload_n dX0_hasNode_4 rfl ?_
  refine wp_aload_n dX0_hasNode_5 rfl ?_
  refine wp_geti (nI n) dX0_hasNode_6 fX0_75 (Or.inl rfl) (kc0 hF (isC1 G)) hn ?_
  refine wp_icmp_ge 16 dX0_hasNode_9 (by decide) (fun _ => ?_) (fun q => absurd q hxb)
  refine wp_iconst (0 : Int32) dX0_hasNode_16 (by decide) ?_
  refine wp_zret dX0_hasNode_17 rfl rfl ?_
  show WP G (d + 6) (0, 0) μX10_conductance 8 [.ref (gB G), .int x, .int y, lvU] [.int (0 : Int32)] m _
  refine wp_if_eq 22 dX10_conductance_8 (by decide) (fun _ => ?_) (fun q => absurd (by decide) q)
  refine wp_ldc dX10_conductance_22 kX10_62 ?_
  exact wp_iret dX10_conductance_24 rfl (e1)

theorem iaC_conductance {G : Cx} {d : Nat} {m : Mm} {Q : Option Value → Mm → Prop} {y : Int32} {i n : Nat}  (hF : Full G m) (hn : fi m 5 (gB G + 1) = nI (n + 1)) (hm : n + 1 ≤ 12) (hi : i < n + 1) (hy : y < 0) 
    (e1 : Q (some (.int (-1000000001 : Int32))) m) :
    WPM G (d + 6) (0, 0) μX10_conductance [.ref (gB G), .int (nI i), .int y] m Q := by
  refine WPM.of pX10 (Nat.le_of_ble_eq_true rfl) rfl ?_
  refine wp_aload_n dX10_conductance_0 rfl ?_
  refine wp_getr (gB G + 1) dX10_conductance_1 fX10_10 (ka0 hF) (hF.2 _ _) (rra 1 (isK_le (ka0 hF)) (fun _ => rfl)) ?_
  refine wp_iload_n dX10_conductance_4 rfl ?_
  refine wp_callV (As := [.int (nI i)]) (S := []) (b' := (0, 0)) (b := (0, 0)) dX10_conductance_5 MX10_58 (kc0 hF (isC1 G)) rfl rfl rfl rfl (Nat.le_of_ble_eq_true rfl) ?_
  refine WPM.of pX0 (Nat.le_of_ble_eq_true rfl) rfl ?_
  refine wp_iload_n dX0_hasNode_0 rfl ?_
  refine wp_if_lt 16 dX0_hasNode_1 (by decide) (fun q => absurd q (nI_pos (by omega))) (fun _ => ?_)
  refine wp_iload_n dX0_hasNode_4 rfl ?_
  refine wp_aload_n dX0_hasNode_5 rfl ?_
  refine wp_geti (nI (n + 1)) dX0_hasNode_6 fX0_75 (Or.inl rfl) (kc0 hF (isC1 G)) hn ?_
  refine wp_icmp_ge 16 dX0_hasNode_9 (by decide) (fun q => absurd (nlt_ (a := i) (b := n + 1) hi (by omega)) q) (fun _ => ?_)
  refine wp_iconst (1 : Int32) dX0_hasNode_12 (by decide) ?_
  refine wp_goto 17 dX0_hasNode_13 (by decide) ?_
  refine wp_zret dX0_hasNode_17 rfl rfl ?_
  show WP G (d + 6) (0, 0) μX10_conductance 8 [.ref (gB G), .int (nI i), .int y, lvU] [.int (1 : Int32)] m _
  refine wp_if_eq 22 dX10_conductance_8 (by decide) (fun q => absurd q (by decide)) (fun _ => ?_)
  refine wp_aload_n dX10_conductance_11 rfl ?_
  refine wp_getr (gB G + 1) dX10_conductance_12 fX10_10 (ka0 hF) (hF.2 _ _) (rra 1 (isK_le (ka0 hF)) (fun _ => rfl)) ?_
  refine wp_iload_n dX10_conductance_15 rfl ?_
  refine wp_callV (As := [.int y]) (S := []) (b' := (0, 0)) (b := (0, 0)) dX10_conductance_16 MX10_58 (kc0 hF (isC1 G)) rfl rfl rfl rfl (Nat.le_of_ble_eq_true rfl) ?_
  refine WPM.of pX0 (Nat.le_of_ble_eq_true rfl) rfl ?_
  refine wp_iload_n dX0_hasNode_0 rfl ?_
  refine wp_if_lt 16 dX0_hasNode_1 (by decide) (fun _ => ?_) (fun q => absurd hy q)
  refine wp_iconst (0 : Int32) dX0_hasNode_16 (by decide) ?_
  refine wp_zret dX0_hasNode_17 rfl rfl ?_
  show WP G (d + 6) (0, 0) μX10_conductance 19 [.ref (gB G), .int (nI i), .int y, lvU] [.int (0 : Int32)] m _
  refine wp_if_ne 25 dX10_conductance_19 (by decide) (fun q => absurd (by decide) q) (fun _ => ?_)
  refine wp_ldc dX10_conductance_22 kX10_62 ?_
  exact wp_iret dX10_conductance_24 rfl (e1)

theorem ibC_conductance {G : Cx} {d : Nat} {m : Mm} {Q : Option Value → Mm → Prop} {y : Int32} {i n : Nat}  (hF : Full G m) (hn : fi m 5 (gB G + 1) = nI (n + 1)) (hm : n + 1 ≤ 12) (hi : i < n + 1) (hya : ¬ y < 0) (hyb : ¬ y < nI (n + 1)) 
    (e1 : Q (some (.int (-1000000001 : Int32))) m) :
    WPM G (d + 6) (0, 0) μX10_conductance [.ref (gB G), .int (nI i), .int y] m Q := by
  refine WPM.of pX10 (Nat.le_of_ble_eq_true rfl) rfl ?_
  refine wp_aload_n dX10_conductance_0 rfl ?_
  refine wp_getr (gB G + 1) dX10_conductance_1 fX10_10 (ka0 hF) (hF.2 _ _) (rra 1 (isK_le (ka0 hF)) (fun _ => rfl)) ?_
  refine wp_iload_n dX10_conductance_4 rfl ?_
  refine wp_callV (As := [.int (nI i)]) (S := []) (b' := (0, 0)) (b := (0, 0)) dX10_conductance_5 MX10_58 (kc0 hF (isC1 G)) rfl rfl rfl rfl (Nat.le_of_ble_eq_true rfl) ?_
  refine WPM.of pX0 (Nat.le_of_ble_eq_true rfl) rfl ?_
  refine wp_iload_n dX0_hasNode_0 rfl ?_
  refine wp_if_lt 16 dX0_hasNode_1 (by decide) (fun q => absurd q (nI_pos (by omega))) (fun _ => ?_)
  refine wp_iload_n dX0_hasNode_4 rfl ?_
  refine wp_aload_n dX0_hasNode_5 rfl ?_
  refine wp_geti (nI (n + 1)) dX0_hasNode_6 fX0_75 (Or.inl rfl) (kc0 hF (isC1 G)) hn ?_
  refine wp_icmp_ge 16 dX0_hasNode_9 (by decide) (fun q => absurd (nlt_ (a := i) (b := n + 1) hi (by omega)) q) (fun _ => ?_)
  refine wp_iconst (1 : Int32) dX0_hasNode_12 (by decide) ?_
  refine wp_goto 17 dX0_hasNode_13 (by decide) ?_
  refine wp_zret dX0_hasNode_17 rfl rfl ?_
  show WP G (d + 6) (0, 0) μX10_conductance 8 [.ref (gB G), .int (nI i), .int y, lvU] [.int (1 : Int32)] m _
  refine wp_if_eq 22 dX10_conductance_8 (by decide) (fun q => absurd q (by decide)) (fun _ => ?_)
  refine wp_aload_n dX10_conductance_11 rfl ?_
  refine wp_getr (gB G + 1) dX10_conductance_12 fX10_10 (ka0 hF) (hF.2 _ _) (rra 1 (isK_le (ka0 hF)) (fun _ => rfl)) ?_
  refine wp_iload_n dX10_conductance_15 rfl ?_
  refine wp_callV (As := [.int y]) (S := []) (b' := (0, 0)) (b := (0, 0)) dX10_conductance_16 MX10_58 (kc0 hF (isC1 G)) rfl rfl rfl rfl (Nat.le_of_ble_eq_true rfl) ?_
  refine WPM.of pX0 (Nat.le_of_ble_eq_true rfl) rfl ?_
  refine wp_iload_n dX0_hasNode_0 rfl ?_
  refine wp_if_lt 16 dX0_hasNode_1 (by decide) (fun q => absurd q hya) (fun _ => ?_)
  refine wp_iload_n dX0_hasNode_4 rfl ?_
  refine wp_aload_n dX0_hasNode_5 rfl ?_
  refine wp_geti (nI (n + 1)) dX0_hasNode_6 fX0_75 (Or.inl rfl) (kc0 hF (isC1 G)) hn ?_
  refine wp_icmp_ge 16 dX0_hasNode_9 (by decide) (fun _ => ?_) (fun q => absurd q hyb)
  refine wp_iconst (0 : Int32) dX0_hasNode_16 (by decide) ?_
  refine wp_zret dX0_hasNode_17 rfl rfl ?_
  show WP G (d + 6) (0, 0) μX10_conductance 19 [.ref (gB G), .int (nI i), .int y, lvU] [.int (0 : Int32)] m _
  refine wp_if_ne 25 dX10_conductance_19 (by decide) (fun q => absurd (by decide) q) (fun _ => ?_)
  refine wp_ldc dX10_conductance_22 kX10_62 ?_
  exact wp_iret dX10_conductance_24 rfl (e1)

theorem iiC_link {G : Cx} {d : Nat} {m : Mm} {Q : Option Value → Mm → Prop} {z : Int32} {i j n : Nat}  (hF : Full G m) (hn : fi m 5 (gB G + 1) = nI (n + 1)) (hm : n + 1 ≤ 12) (hi : i < n + 1) (hj : j < n + 1) 
    (e1 : i = j → Q (some (.int (-1000000002 : Int32))) m)
    (e2 : ¬ i = j → z < (0 : Int32) → Q (some (.int (-1000000002 : Int32))) m)
    (e3 : ¬ i = j → ¬ z < (0 : Int32) → (100000 : Int32) < z → Q (some (.int (-1000000002 : Int32))) m)
    (e4 : ¬ i = j → ¬ z < (0 : Int32) → ¬ (100000 : Int32) < z → WPM G (d + 5) (0, 0) μX0_placeOfLink [.ref (gB G + 1), .int (nI i), .int (nI j)] m (fun r' m' => WP G (d + 6) (0, 0) μX10_link 52 [.ref (gB G), .int (nI i), .int (nI j), .int z, lvU, lvU] (r'.toList ++ []) m' Q)) :
    WPM G (d + 6) (0, 0) μX10_link [.ref (gB G), .int (nI i), .int (nI j), .int z] m Q := by
  refine WPM.of pX10 (Nat.le_of_ble_eq_true rfl) rfl ?_
  refine wp_aload_n dX10_link_0 rfl ?_
  refine wp_getr (gB G + 1) dX10_link_1 fX10_10 (ka0 hF) (hF.2 _ _) (rra 1 (isK_le (ka0 hF)) (fun _ => rfl)) ?_
  refine wp_iload_n dX10_link_4 rfl ?_
  refine wp_callV (As := [.int (nI i)]) (S := []) (b' := (0, 0)) (b := (0, 0)) dX10_link_5 MX10_58 (kc0 hF (isC1 G)) rfl rfl rfl rfl (Nat.le_of_ble_eq_true rfl) ?_
  refine WPM.of pX0 (Nat.le_of_ble_eq_true rfl) rfl ?_
  refine wp_iload_n dX0_hasNode_0 rfl ?_
  refine wp_if_lt 16 dX0_hasNode_1 (by decide) (fun q => absurd q (nI_pos (by omega))) (fun _ => ?_)
  refine wp_iload_n dX0_hasNode_4 rfl ?_
  refine wp_aload_n dX0_hasNode_5 rfl ?_
  refine wp_geti (nI (n + 1)) dX0_hasNode_6 fX0_75 (Or.inl rfl) (kc0 hF (isC1 G)) hn ?_
  refine wp_icmp_ge 16 dX0_hasNode_9 (by decide) (fun q => absurd (nlt_ (a := i) (b := n + 1) hi (by omega)) q) (fun _ => ?_)
  refine wp_iconst (1 : Int32) dX0_hasNode_12 (by decide) ?_
  refine wp_goto 17 dX0_hasNode_13 (by decide) ?_
  refine wp_zret dX0_hasNode_17 rfl rfl ?_
  show WP G (d + 6) (0, 0) μX10_link 8 [.ref (gB G), .int (nI i), .int (nI j), .int z, lvU, lvU] [.int (1 : Int32)] m _
  refine wp_if_eq 22 dX10_link_8 (by decide) (fun q => absurd q (by decide)) (fun _ => ?_)
  refine wp_aload_n dX10_link_11 rfl ?_
  refine wp_getr (gB G + 1) dX10_link_12 fX10_10 (ka0 hF) (hF.2 _ _) (rra 1 (isK_le (ka0 hF)) (fun _ => rfl)) ?_
  refine wp_iload_n dX10_link_15 rfl ?_
  refine wp_callV (As := [.int (nI j)]) (S := []) (b' := (0, 0)) (b := (0, 0)) dX10_link_16 MX10_58 (kc0 hF (isC1 G)) rfl rfl rfl rfl (Nat.le_of_ble_eq_true rfl) ?_
  refine WPM.of pX0 (Nat.le_of_ble_eq_true rfl) rfl ?_
  refine wp_iload_n dX0_hasNode_0 rfl ?_
  refine wp_if_lt 16 dX0_hasNode_1 (by decide) (fun q => absurd q (nI_pos (by omega))) (fun _ => ?_)
  refine wp_iload_n dX0_hasNode_4 rfl ?_
  refine wp_aload_n dX0_hasNode_5 rfl ?_
  refine wp_geti (nI (n + 1)) dX0_hasNode_6 fX0_75 (Or.inl rfl) (kc0 hF (isC1 G)) hn ?_
  refine wp_icmp_ge 16 dX0_hasNode_9 (by decide) (fun q => absurd (nlt_ (a := j) (b := n + 1) hj (by omega)) q) (fun _ => ?_)
  refine wp_iconst (1 : Int32) dX0_hasNode_12 (by decide) ?_
  refine wp_goto 17 dX0_hasNode_13 (by decide) ?_
  refine wp_zret dX0_hasNode_17 rfl rfl ?_
  show WP G (d + 6) (0, 0) μX10_link 19 [.ref (gB G), .int (nI i), .int (nI j), .int z, lvU, lvU] [.int (1 : Int32)] m _
  refine wp_if_ne 25 dX10_link_19 (by decide) (fun _ => ?_) (fun q => absurd q (by decide))
  refine wp_iload_n dX10_link_25 rfl ?_
  refine wp_iload_n dX10_link_26 rfl ?_
  refine wp_icmp_eq 40 dX10_link_27 (by decide) (fun q1 => ?_) (fun q2 => ?_)
  · have hp3 : i = j := (neq q1 (by omega) (by omega))
    refine wp_ldc dX10_link_40 kX10_42 ?_
    exact wp_iret dX10_link_42 rfl (e1 hp3)
  · have hp4 : ¬ i = j := (fun z => q2 (congrArg nI z))
    refine wp_iload_n dX10_link_30 rfl ?_
    refine wp_iconst (0 : Int32) dX10_link_31 (by decide) ?_
    refine wp_ldc dX10_link_32 kX10_34 ?_
    refine wp_callS (As := [.int z, .int (0 : Int32), .int (100000 : Int32)]) (S := []) (b' := (0, 0)) (b := (0, 0)) dX10_link_34 MX10_35 rfl rfl (Nat.le_of_ble_eq_true rfl) ?_
    refine WPM.of pX10 (Nat.le_of_ble_eq_true rfl) rfl ?_
    refine wp_iload_n dX10_within_0 rfl ?_
    refine wp_iload_n dX10_within_1 rfl ?_
    refine wp_icmp_lt 14 dX10_within_2 (by decide) (fun q5 => ?_) (fun q6 => ?_)
    · skip
      refine wp_iconst (0 : Int32) dX10_within_14 (by decide) ?_
      refine wp_zret dX10_within_15 rfl rfl ?_
      show WP G (d + 6) (0, 0) μX10_link 37 [.ref (gB G), .int (nI i), .int (nI j), .int z, lvU, lvU] [.int (0 : Int32)] m _
      refine wp_if_ne 43 dX10_link_37 (by decide) (fun q => absurd (by decide) q) (fun _ => ?_)
      refine wp_ldc dX10_link_40 kX10_42 ?_
      exact wp_iret dX10_link_42 rfl (e2 hp4 q5)
    · skip
      refine wp_iload_n dX10_within_5 rfl ?_
      refine wp_iload_n dX10_within_6 rfl ?_
      refine wp_icmp_gt 14 dX10_within_7 (by decide) (fun q7 => ?_) (fun q8 => ?_)
      · skip
        refine wp_iconst (0 : Int32) dX10_within_14 (by decide) ?_
        refine wp_zret dX10_within_15 rfl rfl ?_
        show WP G (d + 6) (0, 0) μX10_link 37 [.ref (gB G), .int (nI i), .int (nI j), .int z, lvU, lvU] [.int (0 : Int32)] m _
        refine wp_if_ne 43 dX10_link_37 (by decide) (fun q => absurd (by decide) q) (fun _ => ?_)
        refine wp_ldc dX10_link_40 kX10_42 ?_
        exact wp_iret dX10_link_42 rfl (e3 hp4 q6 q7)
      · skip
        refine wp_iconst (1 : Int32) dX10_within_10 (by decide) ?_
        refine wp_goto 15 dX10_within_11 (by decide) ?_
        refine wp_zret dX10_within_15 rfl rfl ?_
        show WP G (d + 6) (0, 0) μX10_link 37 [.ref (gB G), .int (nI i), .int (nI j), .int z, lvU, lvU] [.int (1 : Int32)] m _
        refine wp_if_ne 43 dX10_link_37 (by decide) (fun _ => ?_) (fun q => absurd q (by decide))
        refine wp_aload_n dX10_link_43 rfl ?_
        refine wp_getr (gB G + 1) dX10_link_44 fX10_10 (ka0 hF) (hF.2 _ _) (rra 1 (isK_le (ka0 hF)) (fun _ => rfl)) ?_
        refine wp_iload_n dX10_link_47 rfl ?_
        refine wp_iload_n dX10_link_48 rfl ?_
        refine wp_callV (As := [.int (nI i), .int (nI j)]) (S := []) (b' := (0, 0)) (b := (0, 0)) dX10_link_49 MX10_75 (kc0 hF (isC1 G)) rfl rfl rfl rfl (Nat.le_of_ble_eq_true rfl) ?_
        exact e4 hp4 q6 q8

theorem jC_link0 {G : Cx} {d : Nat} {m : Mm} {Q : Option Value → Mm → Prop} {i j : Nat} {l3 : Int32} (hF : Full G m) (hi : i < 12) (hj : j < 12)
    (e1 : WPM G (d + 5) (0, 0) μX0_makeLink [.ref (gB G + 1), .int (nI i), .int (nI j), .int l3] m (fun r' m' => WP G (d + 6) (0, 0) μX10_link 70 [lvU, lvU, lvU, lvU, lvU, lvU] (r'.toList ++ []) m' Q)) :
    WP G (d + 6) (0, 0) μX10_link 52 [.ref (gB G), .int (nI i), .int (nI j), .int l3, lvU, lvU] [.int (-1 : Int32)] m Q := by
  refine wp_istore dX10_link_52 (by decide) rfl ?_
  refine wp_iload dX10_link_54 rfl ?_
  refine wp_iconst (-1 : Int32) dX10_link_56 (by decide) ?_
  refine wp_icmp_ne 71 dX10_link_57 (by decide) (fun q => absurd (by decide) q) (fun _ => ?_)
  refine wp_aload_n dX10_link_60 rfl ?_
  refine wp_getr (gB G + 1) dX10_link_61 fX10_10 (ka0 hF) (hF.2 _ _) (rra 1 (isK_le (ka0 hF)) (fun _ => rfl)) ?_
  refine wp_iload_n dX10_link_64 rfl ?_
  refine wp_iload_n dX10_link_65 rfl ?_
  refine wp_iload_n dX10_link_66 rfl ?_
  refine wp_forget [lvU, lvU, lvU, lvU, lvU, lvU] ⟨Or.inr rfl, Or.inr rfl, Or.inr rfl, Or.inr rfl, Or.inr rfl, Or.inr rfl, trivial⟩ ?_
  refine wp_callV (As := [.int (nI i), .int (nI j), .int l3]) (S := []) (b' := (0, 0)) (b := (0, 0)) dX10_link_67 MX10_79 (kc0 hF (isC1 G)) rfl rfl rfl rfl (Nat.le_of_ble_eq_true rfl) ?_
  exact e1

theorem jC_link1 {G : Cx} {d : Nat} {m : Mm} {Q : Option Value → Mm → Prop} {i j p : Nat} {l3 : Int32} (hF : Full G m) (hp : p < 24) (hi : i < 12) (hj : j < 12)
    (e1 : ¬ (nI p) = (-1 : Int32) → ¬ l3 = 0 → Q (some (.int (fi m 202 (lk (gB G + 1) p)))) (wfi m 202 (lk (gB G + 1) p) l3))
    (e2 : ¬ (nI p) = (-1 : Int32) → l3 = 0 → WPM G (d + 5) (0, 0) μX0_dropLink [.ref (gB G + 1), .int (nI p)] m (fun r' m' => WP G (d + 6) (0, 0) μX10_link 99 [lvU, lvU, lvU, lvU, lvU, .int (fi m 202 (lk (gB G + 1) p))] (r'.toList ++ []) m' Q))
    (e3 : (nI p) = (-1 : Int32) → WPM G (d + 5) (0, 0) μX0_makeLink [.ref (gB G + 1), .int (nI i), .int (nI j), .int l3] m (fun r' m' => WP G (d + 6) (0, 0) μX10_link 70 [lvU, lvU, lvU, lvU, lvU, lvU] (r'.toList ++ []) m' Q)) :
    WP G (d + 6) (0, 0) μX10_link 52 [.ref (gB G), .int (nI i), .int (nI j), .int l3, lvU, lvU] [.int (nI p)] m Q := by
  refine wp_istore dX10_link_52 (by decide) rfl ?_
  refine wp_iload dX10_link_54 rfl ?_
  refine wp_iconst (-1 : Int32) dX10_link_56 (by decide) ?_
  refine wp_icmp_ne 71 dX10_link_57 (by decide) (fun q1 => ?_) (fun q2 => ?_)
  · skip
    refine wp_aload_n dX10_link_71 rfl ?_
    refine wp_getr (gB G + 1) dX10_link_72 fX10_10 (ka0 hF) (hF.2 _ _) (rra 1 (isK_le (ka0 hF)) (fun _ => rfl)) ?_
    refine wp_getr ((gB G + 1) + 2) dX10_link_75 fX10_83 (kc0 hF (isC1 G)) (hF.2 _ _) (rra 2 (isK_le (kc0 hF (isC1 G))) (fun _ => rfl)) ?_
    refine wp_iload dX10_link_78 rfl ?_
    refine wp_raldk (n := 24) p (lk (gB G + 1) p) dX10_link_80 (kc hF (isC1 G) 2 (by decide)) (by decide) (by decide) (lc (isC1 G) 2 (by decide)) (vin (by omega) (by decide)) (nIc (by omega)) (hF.2 _ _) (rlk hF (isC1 G)) ?_
    refine wp_geti (fi m 202 (lk (gB G + 1) p)) dX10_link_81 fX10_87 (Or.inl rfl) (klk hF (isC1 G) (by omega)) rfl ?_
    refine wp_istore dX10_link_84 (by decide) rfl ?_
    refine wp_iload_n dX10_link_86 rfl ?_
    refine wp_if_ne 102 dX10_link_87 (by decide) (fun q3 => ?_) (fun q4 => ?_)
    · skip
      refine wp_aload_n dX10_link_102 rfl ?_
      refine wp_getr (gB G + 1) dX10_link_103 fX10_10 (ka0 hF) (hF.2 _ _) (rra 1 (isK_le (ka0 hF)) (fun _ => rfl)) ?_
      refine wp_getr ((gB G + 1) + 2) dX10_link_106 fX10_83 (kc0 hF (isC1 G)) (hF.2 _ _) (rra 2 (isK_le (kc0 hF (isC1 G))) (fun _ => rfl)) ?_
      refine wp_iload dX10_link_109 rfl ?_
      refine wp_raldk (n := 24) p (lk (gB G + 1) p) dX10_link_111 (kc hF (isC1 G) 2 (by decide)) (by decide) (by decide) (lc (isC1 G) 2 (by decide)) (vin (by omega) (by decide)) (nIc (by omega)) (hF.2 _ _) (rlk hF (isC1 G)) ?_
      refine wp_iload_n dX10_link_112 rfl ?_
      refine wp_puti dX10_link_113 pX10_87 (klk hF (isC1 G) (by omega)) ?_
      have hF5 := Full_wfi 202 (lk (gB G + 1) p) l3 hF
      refine wp_iload dX10_link_116 rfl ?_
      exact wp_iret dX10_link_118 rfl (e1 q1 q3)
    · skip
      refine wp_aload_n dX10_link_90 rfl ?_
      refine wp_getr (gB G + 1) dX10_link_91 fX10_10 (ka0 hF) (hF.2 _ _) (rra 1 (isK_le (ka0 hF)) (fun _ => rfl)) ?_
      refine wp_iload dX10_link_94 rfl ?_
      refine wp_forget [lvU, lvU, lvU, lvU, lvU, .int (fi m 202 (lk (gB G + 1) p))] ⟨Or.inr rfl, Or.inr rfl, Or.inr rfl, Or.inr rfl, Or.inr rfl, Or.inl rfl, trivial⟩ ?_
      refine wp_callV (As := [.int (nI p)]) (S := []) (b' := (0, 0)) (b := (0, 0)) dX10_link_96 MX10_92 (kc0 hF (isC1 G)) rfl rfl rfl rfl (Nat.le_of_ble_eq_true rfl) ?_
      exact e2 q1 q4
  · skip
    refine wp_aload_n dX10_link_60 rfl ?_
    refine wp_getr (gB G + 1) dX10_link_61 fX10_10 (ka0 hF) (hF.2 _ _) (rra 1 (isK_le (ka0 hF)) (fun _ => rfl)) ?_
    refine wp_iload_n dX10_link_64 rfl ?_
    refine wp_iload_n dX10_link_65 rfl ?_
    refine wp_iload_n dX10_link_66 rfl ?_
    refine wp_forget [lvU, lvU, lvU, lvU, lvU, lvU] ⟨Or.inr rfl, Or.inr rfl, Or.inr rfl, Or.inr rfl, Or.inr rfl, Or.inr rfl, trivial⟩ ?_
    refine wp_callV (As := [.int (nI i), .int (nI j), .int l3]) (S := []) (b' := (0, 0)) (b := (0, 0)) dX10_link_67 MX10_79 (kc0 hF (isC1 G)) rfl rfl rfl rfl (Nat.le_of_ble_eq_true rfl) ?_
    exact e3 q2

theorem aC_link {G : Cx} {d : Nat} {m : Mm} {Q : Option Value → Mm → Prop} {x y z : Int32} {n : Nat}  (hF : Full G m) (hn : fi m 5 (gB G + 1) = nI n) (hm : n ≤ 12) (hx : x < 0) 
    (e1 : Q (some (.int (-1000000001 : Int32))) m) :
    WPM G (d + 6) (0, 0) μX10_link [.ref (gB G), .int x, .int y, .int z] m Q := by
  refine WPM.of pX10 (Nat.le_of_ble_eq_true rfl) rfl ?_
  refine wp_aload_n dX10_link_0 rfl ?_
  refine wp_getr (gB G + 1) dX10_link_1 fX10_10 (ka0 hF) (hF.2 _ _) (rra 1 (isK_le (ka0 hF)) (fun _ => rfl)) ?_
  refine wp_iload_n dX10_link_4 rfl ?_
  refine wp_callV (As := [.int x]) (S := []) (b' := (0, 0)) (b := (0, 0)) dX10_link_5 MX10_58 (kc0 hF (isC1 G)) rfl rfl rfl rfl (Nat.le_of_ble_eq_true rfl) ?_
  refine WPM.of pX0 (Nat.le_of_ble_eq_true rfl) rfl ?_
  refine wp_iload_n dX0_hasNode_0 rfl ?_
  refine wp_if_lt 16 dX0_hasNode_1 (by decide) (fun _ => ?_) (fun q => absurd hx q)
  refine wp_iconst (0 : Int32) dX0_hasNode_16 (by decide) ?_
  refine wp_zret dX0_hasNode_17 rfl rfl ?_
  show WP G (d + 6) (0, 0) μX10_link 8 [.ref (gB G), .int x, .int y, .int z, lvU, lvU] [.int (0 : Int32)] m _
  refine wp_if_eq 22 dX10_link_8 (by decide) (fun _ => ?_) (fun q => absurd (by decide) q)
  refine wp_ldc dX10_link_22 kX10_62 ?_
  exact wp_iret dX10_link_24 rfl (e1)

theorem bC_link {G : Cx} {d : Nat} {m : Mm} {Q : Option Value → Mm → Prop} {x y z : Int32} {n : Nat}  (hF : Full G m) (hn : fi m 5 (gB G + 1) = nI n) (hm : n ≤ 12) (hxa : ¬ x < 0) (hxb : ¬ x < nI n) 
    (e1 : Q (some (.int (-1000000001 : Int32))) m) :
    WPM G (d + 6) (0, 0) μX10_link [.ref (gB G), .int x, .int y, .int z] m Q := by
  refine WPM.of pX10 (Nat.le_of_ble_eq_true rfl) rfl ?_
  refine wp_aload_n dX10_link_0 rfl ?_
  refine wp_getr (gB G + 1) dX10_link_1 fX10_10 (ka0 hF) (hF.2 _ _) (rra 1 (isK_le (ka0 hF)) (fun _ => rfl)) ?_
  refine wp_iload_n dX10_link_4 rfl ?_
  refine wp_callV (As := [.int x]) (S := []) (b' := (0, 0)) (b := (0, 0)) dX10_link_5 MX10_58 (kc0 hF (isC1 G)) rfl rfl rfl rfl (Nat.le_of_ble_eq_true rfl) ?_
  refine WPM.of pX0 (Nat.le_of_ble_eq_true rfl) rfl ?_
  refine wp_iload_n dX0_hasNode_0 rfl ?_
  refine wp_if_lt 16 dX0_hasNode_1 (by decide) (fun q => absurd q hxa) (fun _ => ?_)
  refine wp_iload_n dX0_hasNode_4 rfl ?_
  refine wp_aload_n dX0_hasNode_5 rfl ?_
  refine wp_geti (nI n) dX0_hasNode_6 fX0_75 (Or.inl rfl) (kc0 hF (isC1 G)) hn ?_
  refine wp_icmp_ge 16 dX0_hasNode_9 (by decide) (fun _ => ?_) (fun q => absurd q hxb)
  refine wp_iconst (0 : Int32) dX0_hasNode_16 (by decide) ?_
  refine wp_zret dX0_hasNode_17 rfl rfl ?_
  show WP G (d + 6) (0, 0) μX10_link 8 [.ref (gB G), .int x, .int y, .int z, lvU, lvU] [.int (0 : Int32)] m _
  refine wp_if_eq 22 dX10_link_8 (by decide) (fun _ => ?_) (fun q => absurd (by decide) q)
  refine wp_ldc dX10_link_22 kX10_62 ?_
  exact wp_iret dX10_link_24 rfl (e1)

theorem iaC_link {G : Cx} {d : Nat} {m : Mm} {Q : Option Value → Mm → Prop} {y z : Int32} {i n : Nat}  (hF : Full G m) (hn : fi m 5 (gB G + 1) = nI (n + 1)) (hm : n + 1 ≤ 12) (hi : i < n + 1) (hy : y < 0) 
    (e1 : Q (some (.int (-1000000001 : Int32))) m) :
    WPM G (d + 6) (0, 0) μX10_link [.ref (gB G), .int (nI i), .int y, .int z] m Q := by
  refine WPM.of pX10 (Nat.le_of_ble_eq_true rfl) rfl ?_
  refine wp_aload_n dX10_link_0 rfl ?_
  refine wp_getr (gB G + 1) dX10_link_1 fX10_10 (ka0 hF) (hF.2 _ _) (rra 1 (isK_le (ka0 hF)) (fun _ => rfl)) ?_
  refine wp_iload_n dX10_link_4 rfl ?_
  refine wp_callV (As := [.int (nI i)]) (S := []) (b' := (0, 0)) (b := (0, 0)) dX10_link_5 MX10_58 (kc0 hF (isC1 G)) rfl rfl rfl rfl (Nat.le_of_ble_eq_true rfl) ?_
  refine WPM.of pX0 (Nat.le_of_ble_eq_true rfl) rfl ?_
  refine wp_iload_n dX0_hasNode_0 rfl ?_
  refine wp_if_lt 16 dX0_hasNode_1 (by decide) (fun q => absurd q (nI_pos (by omega))) (fun _ => ?_)
  refine wp_iload_n dX0_hasNode_4 rfl ?_
  refine wp_aload_n dX0_hasNode_5 rfl ?_
  refine wp_geti (nI (n + 1)) dX0_hasNode_6 fX0_75 (Or.inl rfl) (kc0 hF (isC1 G)) hn ?_
  refine wp_icmp_ge 16 dX0_hasNode_9 (by decide) (fun q => absurd (nlt_ (a := i) (b := n + 1) hi (by omega)) q) (fun _ => ?_)
  refine wp_iconst (1 : Int32) dX0_hasNode_12 (by decide) ?_
  refine wp_goto 17 dX0_hasNode_13 (by decide) ?_
  refine wp_zret dX0_hasNode_17 rfl rfl ?_
  show WP G (d + 6) (0, 0) μX10_link 8 [.ref (gB G), .int (nI i), .int y, .int z, lvU, lvU] [.int (1 : Int32)] m _
  refine wp_if_eq 22 dX10_link_8 (by decide) (fun q => absurd q (by decide)) (fun _ => ?_)
  refine wp_aload_n dX10_link_11 rfl ?_
  refine wp_getr (gB G + 1) dX10_link_12 fX10_10 (ka0 hF) (hF.2 _ _) (rra 1 (isK_le (ka0 hF)) (fun _ => rfl)) ?_
  refine wp_iload_n dX10_link_15 rfl ?_
  refine wp_callV (As := [.int y]) (S := []) (b' := (0, 0)) (b := (0, 0)) dX10_link_16 MX10_58 (kc0 hF (isC1 G)) rfl rfl rfl rfl (Nat.le_of_ble_eq_true rfl) ?_
  refine WPM.of pX0 (Nat.le_of_ble_eq_true rfl) rfl ?_
  refine wp_iload_n dX0_hasNode_0 rfl ?_
  refine wp_if_lt 16 dX0_hasNode_1 (by decide) (fun _ => ?_) (fun q => absurd hy q)
  refine wp_iconst (0 : Int32) dX0_hasNode_16 (by decide) ?_
  refine wp_zret dX0_hasNode_17 rfl rfl ?_
  show WP G (d + 6) (0, 0) μX10_link 19 [.ref (gB G), .int (nI i), .int y, .int z, lvU, lvU] [.int (0 : Int32)] m _
  refine wp_if_ne 25 dX10_link_19 (by decide) (fun q => absurd (by decide) q) (fun _ => ?_)
  refine wp_ldc dX10_link_22 kX10_62 ?_
  exact wp_iret dX10_link_24 rfl (e1)

theorem ibC_link {G : Cx} {d : Nat} {m : Mm} {Q : Option Value → Mm → Prop} {y z : Int32} {i n : Nat}  (hF : Full G m) (hn : fi m 5 (gB G + 1) = nI (n + 1)) (hm : n + 1 ≤ 12) (hi : i < n + 1) (hya : ¬ y < 0) (hyb : ¬ y < nI (n + 1)) 
    (e1 : Q (some (.int (-1000000001 : Int32))) m) :
    WPM G (d + 6) (0, 0) μX10_link [.ref (gB G), .int (nI i), .int y, .int z] m Q := by
  refine WPM.of pX10 (Nat.le_of_ble_eq_true rfl) rfl ?_
  refine wp_aload_n dX10_link_0 rfl ?_
  refine wp_getr (gB G + 1) dX10_link_1 fX10_10 (ka0 hF) (hF.2 _ _) (rra 1 (isK_le (ka0 hF)) (fun _ => rfl)) ?_
  refine wp_iload_n dX10_link_4 rfl ?_
  refine wp_callV (As := [.int (nI i)]) (S := []) (b' := (0, 0)) (b := (0, 0)) dX10_link_5 MX10_58 (kc0 hF (isC1 G)) rfl rfl rfl rfl (Nat.le_of_ble_eq_true rfl) ?_
  refine WPM.of pX0 (Nat.le_of_ble_eq_true rfl) rfl ?_
  refine wp_iload_n dX0_hasNode_0 rfl ?_
  refine wp_if_lt 16 dX0_hasNode_1 (by decide) (fun q => absurd q (nI_pos (by omega))) (fun _ => ?_)
  refine wp_iload_n dX0_hasNode_4 rfl ?_
  refine wp_aload_n dX0_hasNode_5 rfl ?_
  refine wp_geti (nI (n + 1)) dX0_hasNode_6 fX0_75 (Or.inl rfl) (kc0 hF (isC1 G)) hn ?_
  refine wp_icmp_ge 16 dX0_hasNode_9 (by decide) (fun q => absurd (nlt_ (a := i) (b := n + 1) hi (by omega)) q) (fun _ => ?_)
  refine wp_iconst (1 : Int32) dX0_hasNode_12 (by decide) ?_
  refine wp_goto 17 dX0_hasNode_13 (by decide) ?_
  refine wp_zret dX0_hasNode_17 rfl rfl ?_
  show WP G (d + 6) (0, 0) μX10_link 8 [.ref (gB G), .int (nI i), .int y, .int z, lvU, lvU] [.int (1 : Int32)] m _
  refine wp_if_eq 22 dX10_link_8 (by decide) (fun q => absurd q (by decide)) (fun _ => ?_)
  refine wp_aload_n dX10_link_11 rfl ?_
  refine wp_getr (gB G + 1) dX10_link_12 fX10_10 (ka0 hF) (hF.2 _ _) (rra 1 (isK_le (ka0 hF)) (fun _ => rfl)) ?_
  refine wp_iload_n dX10_link_15 rfl ?_
  refine wp_callV (As := [.int y]) (S := []) (b' := (0, 0)) (b := (0, 0)) dX10_link_16 MX10_58 (kc0 hF (isC1 G)) rfl rfl rfl rfl (Nat.le_of_ble_eq_true rfl) ?_
  refine WPM.of pX0 (Nat.le_of_ble_eq_true rfl) rfl ?_
  refine wp_iload_n dX0_hasNode_0 rfl ?_
  refine wp_if_lt 16 dX0_hasNode_1 (by decide) (fun q => absurd q hya) (fun _ => ?_)
  refine wp_iload_n dX0_hasNode_4 rfl ?_
  refine wp_aload_n dX0_hasNode_5 rfl ?_
  refine wp_geti (nI (n + 1)) dX0_hasNode_6 fX0_75 (Or.inl rfl) (kc0 hF (isC1 G)) hn ?_
  refine wp_icmp_ge 16 dX0_hasNode_9 (by decide) (fun _ => ?_) (fun q => absurd q hyb)
  refine wp_iconst (0 : Int32) dX0_hasNode_16 (by decide) ?_
  refine wp_zret dX0_hasNode_17 rfl rfl ?_
  show WP G (d + 6) (0, 0) μX10_link 19 [.ref (gB G), .int (nI i), .int y, .int z, lvU, lvU] [.int (0 : Int32)] m _
  refine wp_if_ne 25 dX10_link_19 (by decide) (fun q => absurd (by decide) q) (fun _ => ?_)
  refine wp_ldc dX10_link_22 kX10_62 ?_
  exact wp_iret dX10_link_24 rfl (e1)

theorem eC_pol {G : Cx} {d : Nat} {m : Mm} {Q : Option Value → Mm → Prop} {c a b : Nat} (hF : Full G m) (hc : IsC G c)
    (e1 : WP G (d + 1) (0, 0) μX0_placeOfLink 2 [.ref c, .int (nI a), .int (nI b), .int (0 : Int32), lvU] [] m Q) :
    WPM G (d + 1) (0, 0) μX0_placeOfLink [.ref c, .int (nI a), .int (nI b)] m Q := by
  refine WPM.of pX0 (Nat.le_of_ble_eq_true rfl) rfl ?_
  refine wp_iconst (0 : Int32) dX0_placeOfLink_0 (by decide) ?_
  refine wp_istore_n dX0_placeOfLink_1 (by decide) rfl ?_
  refine wp_forget [.ref c, .int (nI a), .int (nI b), .int (0 : Int32), lvU] ⟨Or.inl rfl, Or.inl rfl, Or.inl rfl, Or.inl rfl, Or.inr rfl, trivial⟩ ?_
  exact e1

theorem bC_pol {G : Cx} {d : Nat} {m : Mm} {Q : Option Value → Mm → Prop} {c a b p n q r : Nat} (hF : Full G m) (hc : IsC G c) (hn : fi m 6 c = nI n) (h24 : n ≤ 24) (hp : p ≤ n) (h1 : p < n → fi m 200 (lk c p) = nI q) (h2 : p < n → fi m 201 (lk c p) = nI r) (ha : a < 12) (hb : b < 12) (hq : p < n → q < 12) (hr : p < n → r < 12)
    (e1 : ¬ p < n → Q (some (.int (-1 : Int32))) m)
    (e2 : p < n → ¬ q = a → ¬ q = b → WP G (d + 1) (0, 0) μX0_placeOfLink 2 [.ref c, .int (nI a), .int (nI b), .int (nI (p + 1)), lvU] [] m Q)
    (e3 : p < n → ¬ q = a → q = b → ¬ r = a → WP G (d + 1) (0, 0) μX0_placeOfLink 2 [.ref c, .int (nI a), .int (nI b), .int (nI (p + 1)), lvU] [] m Q)
    (e4 : p < n → ¬ q = a → q = b → r = a → Q (some (.int (nI p))) m)
    (e5 : p < n → q = a → r = b → Q (some (.int (nI p))) m)
    (e6 : p < n → q = a → ¬ r = b → ¬ q = b → WP G (d + 1) (0, 0) μX0_placeOfLink 2 [.ref c, .int (nI a), .int (nI b), .int (nI (p + 1)), lvU] [] m Q)
    (e7 : p < n → q = a → ¬ r = b → q = b → ¬ r = a → WP G (d + 1) (0, 0) μX0_placeOfLink 2 [.ref c, .int (nI a), .int (nI b), .int (nI (p + 1)), lvU] [] m Q)
    (e8 : p < n → q = a → ¬ r = b → q = b → r = a → Q (some (.int (nI p))) m) :
    WP G (d + 1) (0, 0) μX0_placeOfLink 2 [.ref c, .int (nI a), .int (nI b), .int (nI p), lvU] [] m Q := by
  refine wp_iload_n dX0_placeOfLink_2 rfl ?_
  refine wp_aload_n dX0_placeOfLink_3 rfl ?_
  refine wp_geti (nI n) dX0_placeOfLink_4 fX0_82 (Or.inl rfl) (kc0 hF hc) hn ?_
  refine wp_icmp_ge 62 dX0_placeOfLink_7 (by decide) (fun q1 => ?_) (fun q2 => ?_)
  · have hp3 : ¬ p < n := (fun z => q1 (nlt_ (b := n) z (by omega)))
    refine wp_iconst (-1 : Int32) dX0_placeOfLink_62 (by decide) ?_
    exact wp_iret dX0_placeOfLink_63 rfl (e1 hp3)
  · have hp4 : p < n := (nlt q2 (by omega) (by omega))
    refine wp_aload_n dX0_placeOfLink_10 rfl ?_
    refine wp_getr (c + 2) dX0_placeOfLink_11 fX0_19 (kc0 hF hc) (hF.2 _ _) (rra 2 (isK_le (kc0 hF hc)) (fun _ => rfl)) ?_
    refine wp_iload_n dX0_placeOfLink_14 rfl ?_
    refine wp_raldk (n := 24) p (lk c p) dX0_placeOfLink_15 (kc hF hc 2 (by decide)) (by decide) (by decide) (lc hc 2 (by decide)) (vin (by omega) (by decide)) (nIc (by omega)) (hF.2 _ _) (rlk hF hc) ?_
    refine wp_astore dX0_placeOfLink_16 (by decide) rfl ?_
    refine wp_aload dX0_placeOfLink_18 rfl ?_
    refine wp_geti (nI q) dX0_placeOfLink_20 fX0_115 (Or.inl rfl) (klk hF hc (by omega)) (h1 (by omega)) ?_
    refine wp_iload_n dX0_placeOfLink_23 rfl ?_
    refine wp_icmp_ne 36 dX0_placeOfLink_24 (by decide) (fun q5 => ?_) (fun q6 => ?_)
    · have hp7 : ¬ q = a := (fun z => q5 (congrArg nI z))
      refine wp_aload dX0_placeOfLink_36 rfl ?_
      refine wp_geti (nI q) dX0_placeOfLink_38 fX0_115 (Or.inl rfl) (klk hF hc (by omega)) (h1 (by omega)) ?_
      refine wp_iload_n dX0_placeOfLink_41 rfl ?_
      refine wp_icmp_ne 56 dX0_placeOfLink_42 (by decide) (fun q8 => ?_) (fun q9 => ?_)
      · have hp10 : ¬ q = b := (fun z => q8 (congrArg nI z))
        refine wp_iinc (nI (p + 1)) dX0_placeOfLink_56 rfl (by decide) (nadd (a := p) (b := 1) (by omega)) rfl ?_
        refine wp_goto 2 dX0_placeOfLink_59 (by decide) ?_
        refine wp_forget [.ref c, .int (nI a), .int (nI b), .int (nI (p + 1)), lvU] ⟨Or.inl rfl, Or.inl rfl, Or.inl rfl, Or.inl rfl, Or.inr rfl, trivial⟩ ?_
        exact e2 hp4 hp7 hp10
      · have hp11 : q = b := (neq q9 (by omega) (by omega))
        refine wp_aload dX0_placeOfLink_45 rfl ?_
        refine wp_geti (nI r) dX0_placeOfLink_47 fX0_118 (Or.inl rfl) (klk hF hc (by omega)) (h2 (by omega)) ?_
        refine wp_iload_n dX0_placeOfLink_50 rfl ?_
        refine wp_icmp_ne 56 dX0_placeOfLink_51 (by decide) (fun q12 => ?_) (fun q13 => ?_)
        · have hp14 : ¬ r = a := (fun z => q12 (congrArg nI z))
          refine wp_iinc (nI (p + 1)) dX0_placeOfLink_56 rfl (by decide) (nadd (a := p) (b := 1) (by omega)) rfl ?_
          refine wp_goto 2 dX0_placeOfLink_59 (by decide) ?_
          refine wp_forget [.ref c, .int (nI a), .int (nI b), .int (nI (p + 1)), lvU] ⟨Or.inl rfl, Or.inl rfl, Or.inl rfl, Or.inl rfl, Or.inr rfl, trivial⟩ ?_
          exact e3 hp4 hp7 hp11 hp14
        · have hp15 : r = a := (neq q13 (by omega) (by omega))
          refine wp_iload_n dX0_placeOfLink_54 rfl ?_
          exact wp_iret dX0_placeOfLink_55 rfl (e4 hp4 hp7 hp11 hp15)
    · have hp16 : q = a := (neq q6 (by omega) (by omega))
      refine wp_aload dX0_placeOfLink_27 rfl ?_
      refine wp_geti (nI r) dX0_placeOfLink_29 fX0_118 (Or.inl rfl) (klk hF hc (by omega)) (h2 (by omega)) ?_
      refine wp_iload_n dX0_placeOfLink_32 rfl ?_
      refine wp_icmp_eq 54 dX0_placeOfLink_33 (by decide) (fun q17 => ?_) (fun q18 => ?_)
      · have hp19 : r = b := (neq q17 (by omega) (by omega))
        refine wp_iload_n dX0_placeOfLink_54 rfl ?_
        exact wp_iret dX0_placeOfLink_55 rfl (e5 hp4 hp16 hp19)
      · have hp20 : ¬ r = b := (fun z => q18 (congrArg nI z))
        refine wp_aload dX0_placeOfLink_36 rfl ?_
        refine wp_geti (nI q) dX0_placeOfLink_38 fX0_115 (Or.inl rfl) (klk hF hc (by omega)) (h1 (by omega)) ?_
        refine wp_iload_n dX0_placeOfLink_41 rfl ?_
        refine wp_icmp_ne 56 dX0_placeOfLink_42 (by decide) (fun q21 => ?_) (fun q22 => ?_)
        · have hp23 : ¬ q = b := (fun z => q21 (congrArg nI z))
          refine wp_iinc (nI (p + 1)) dX0_placeOfLink_56 rfl (by decide) (nadd (a := p) (b := 1) (by omega)) rfl ?_
          refine wp_goto 2 dX0_placeOfLink_59 (by decide) ?_
          refine wp_forget [.ref c, .int (nI a), .int (nI b), .int (nI (p + 1)), lvU] ⟨Or.inl rfl, Or.inl rfl, Or.inl rfl, Or.inl rfl, Or.inr rfl, trivial⟩ ?_
          exact e6 hp4 hp16 hp20 hp23
        · have hp24 : q = b := (neq q22 (by omega) (by omega))
          refine wp_aload dX0_placeOfLink_45 rfl ?_
          refine wp_geti (nI r) dX0_placeOfLink_47 fX0_118 (Or.inl rfl) (klk hF hc (by omega)) (h2 (by omega)) ?_
          refine wp_iload_n dX0_placeOfLink_50 rfl ?_
          refine wp_icmp_ne 56 dX0_placeOfLink_51 (by decide) (fun q25 => ?_) (fun q26 => ?_)
          · have hp27 : ¬ r = a := (fun z => q25 (congrArg nI z))
            refine wp_iinc (nI (p + 1)) dX0_placeOfLink_56 rfl (by decide) (nadd (a := p) (b := 1) (by omega)) rfl ?_
            refine wp_goto 2 dX0_placeOfLink_59 (by decide) ?_
            refine wp_forget [.ref c, .int (nI a), .int (nI b), .int (nI (p + 1)), lvU] ⟨Or.inl rfl, Or.inl rfl, Or.inl rfl, Or.inl rfl, Or.inr rfl, trivial⟩ ?_
            exact e7 hp4 hp16 hp20 hp24 hp27
          · have hp28 : r = a := (neq q26 (by omega) (by omega))
            refine wp_iload_n dX0_placeOfLink_54 rfl ?_
            exact wp_iret dX0_placeOfLink_55 rfl (e8 hp4 hp16 hp20 hp24 hp28)

theorem sC_mkl {G : Cx} {d : Nat} {m : Mm} {Q : Option Value → Mm → Prop} {c a b n : Nat} {z : Int32} (hF : Full G m) (hc : IsC G c) (hn : fi m 6 c = nI n) (h24 : n ≤ 24)
    (e1 : ¬ z = 0 → n < 24 → Q (some (.int (0 : Int32))) (wfi (wfi (wfi (wfi m 200 (lk c n) (nI a)) 201 (lk c n) (nI b)) 202 (lk c n) z) 6 c (nI (n + 1))))
    (e2 : ¬ z = 0 → ¬ n < 24 → Q (some (.int (-1000000003 : Int32))) m)
    (e3 : z = 0 → Q (some (.int (0 : Int32))) m) :
    WPM G (d + 2) (0, 0) μX0_makeLink [.ref c, .int (nI a), .int (nI b), .int z] m Q := by
  refine WPM.of pX0 (Nat.le_of_ble_eq_true rfl) rfl ?_
  refine wp_iload_n dX0_makeLink_0 rfl ?_
  refine wp_if_ne 6 dX0_makeLink_1 (by decide) (fun q1 => ?_) (fun q2 => ?_)
  · skip
    refine wp_aload_n dX0_makeLink_6 rfl ?_
    refine wp_geti (nI n) dX0_makeLink_7 fX0_82 (Or.inl rfl) (kc0 hF hc) hn ?_
    refine wp_bipush (24 : Int32) dX0_makeLink_10 (by decide) ?_
    refine wp_icmp_lt 18 dX0_makeLink_12 (by decide) (fun q3 => ?_) (fun q4 => ?_)
    · have hp5 : n < 24 := (nlt q3 (by omega) (by omega))
      refine wp_aload_n dX0_makeLink_18 rfl ?_
      refine wp_getr (c + 2) dX0_makeLink_19 fX0_19 (kc0 hF hc) (hF.2 _ _) (rra 2 (isK_le (kc0 hF hc)) (fun _ => rfl)) ?_
      refine wp_aload_n dX0_makeLink_22 rfl ?_
      refine wp_geti (nI n) dX0_makeLink_23 fX0_82 (Or.inl rfl) (kc0 hF hc) hn ?_
      refine wp_raldk (n := 24) n (lk c n) dX0_makeLink_26 (kc hF hc 2 (by decide)) (by decide) (by decide) (lc hc 2 (by decide)) (vin (by omega) (by decide)) (nIc (by omega)) (hF.2 _ _) (rlk hF hc) ?_
      refine wp_iload_n dX0_makeLink_27 rfl ?_
      refine wp_iload_n dX0_makeLink_28 rfl ?_
      refine wp_iload_n dX0_makeLink_29 rfl ?_
      refine wp_callV (As := [.int (nI a), .int (nI b), .int z]) (S := []) (b' := (0, 0)) (b := (0, 0)) dX0_makeLink_30 MX0_122 (klk hF hc (by omega)) rfl rfl rfl rfl (Nat.le_of_ble_eq_true rfl) ?_
      refine WPM.of pX2 (Nat.le_of_ble_eq_true rfl) rfl ?_
      refine wp_aload_n dX2_begin_0 rfl ?_
      refine wp_iload_n dX2_begin_1 rfl ?_
      refine wp_puti dX2_begin_2 pX2_7 (klk hF hc (by omega)) ?_
      have hF6 := Full_wfi 200 (lk c n) (nI a) hF
      refine wp_aload_n dX2_begin_5 rfl ?_
      refine wp_iload_n dX2_begin_6 rfl ?_
      refine wp_puti dX2_begin_7 pX2_13 (klk hF6 hc (by omega)) ?_
      have hF7 := Full_wfi 201 (lk c n) (nI b) hF6
      refine wp_aload_n dX2_begin_10 rfl ?_
      refine wp_iload_n dX2_begin_11 rfl ?_
      refine wp_puti dX2_begin_12 pX2_16 (klk hF7 hc (by omega)) ?_
      have hF8 := Full_wfi 202 (lk c n) z hF7
      refine wp_vret dX2_begin_15 rfl ?_
      show WP G (d + 2) (0, 0) μX0_makeLink 33 [.ref c, .int (nI a), .int (nI b), .int z] [] (wfi (wfi (wfi m 200 (lk c n) (nI a)) 201 (lk c n) (nI b)) 202 (lk c n) z) _
      refine wp_aload_n dX0_makeLink_33 rfl ?_
      refine wp_dup dX0_makeLink_34 rfl ?_
      refine wp_geti (nI n) dX0_makeLink_35 fX0_82 (Or.inl rfl) (kc0 hF8 hc) ((fi_ne (by decide)).trans ((fi_ne (by decide)).trans ((fi_ne (by decide)).trans hn))) ?_
      refine wp_iconst (1 : Int32) dX0_makeLink_38 (by decide) ?_
      refine wp_iaddv (nI (n + 1)) dX0_makeLink_39 (nadd (a := n) (b := 1) (by omega)) ?_
      refine wp_puti dX0_makeLink_40 pX0_82 (kc0 hF8 hc) ?_
      have hF9 := Full_wfi 6 c (nI (n + 1)) hF8
      refine wp_iconst (0 : Int32) dX0_makeLink_43 (by decide) ?_
      exact wp_iret dX0_makeLink_44 rfl (e1 q1 hp5)
    · have hp10 : ¬ n < 24 := (fun z => q4 (nlt_ (b := 24) z (by omega)))
      refine wp_ldc dX0_makeLink_15 kX0_121 ?_
      exact wp_iret dX0_makeLink_17 rfl (e2 q1 hp10)
  · skip
    refine wp_iconst (0 : Int32) dX0_makeLink_4 (by decide) ?_
    exact wp_iret dX0_makeLink_5 rfl (e3 q2)

theorem sC_drl {G : Cx} {d : Nat} {m : Mm} {Q : Option Value → Mm → Prop} {c p n : Nat} (hF : Full G m) (hc : IsC G c) (hn : fi m 6 c = nI (n + 1)) (h24 : n + 1 ≤ 24) (hp : p < n + 1)
    (e1 : Q none (wfi (wfi (wfi (wfi m 6 c (nI n)) 200 (lk c p) (fi m 200 (lk c n))) 201 (lk c p) (fi m 201 (lk c n))) 202 (lk c p) (fi m 202 (lk c n)))) :
    WPM G (d + 2) (0, 0) μX0_dropLink [.ref c, .int (nI p)] m Q := by
  refine WPM.of pX0 (Nat.le_of_ble_eq_true rfl) rfl ?_
  refine wp_iload_n dX0_dropLink_0 rfl ?_
  refine wp_if_lt 40 dX0_dropLink_1 (by decide) (fun q => absurd q (nI_pos (by omega))) (fun _ => ?_)
  refine wp_iload_n dX0_dropLink_4 rfl ?_
  refine wp_aload_n dX0_dropLink_5 rfl ?_
  refine wp_geti (nI (n + 1)) dX0_dropLink_6 fX0_82 (Or.inl rfl) (kc0 hF hc) hn ?_
  refine wp_icmp_ge 40 dX0_dropLink_9 (by decide) (fun q => absurd (nlt_ (a := p) (b := n + 1) hp (by omega)) q) (fun _ => ?_)
  refine wp_aload_n dX0_dropLink_12 rfl ?_
  refine wp_dup dX0_dropLink_13 rfl ?_
  refine wp_geti (nI (n + 1)) dX0_dropLink_14 fX0_82 (Or.inl rfl) (kc0 hF hc) hn ?_
  refine wp_iconst (1 : Int32) dX0_dropLink_17 (by decide) ?_
  refine wp_isubv (nI n) dX0_dropLink_18 (nsub (a := n + 1) (b := 1) (by omega)) ?_
  refine wp_puti dX0_dropLink_19 pX0_82 (kc0 hF hc) ?_
  have hF1 := Full_wfi 6 c (nI n) hF
  refine wp_aload_n dX0_dropLink_22 rfl ?_
  refine wp_getr (c + 2) dX0_dropLink_23 fX0_19 (kc0 hF1 hc) (hF1.2 _ _) (rra 2 (isK_le (kc0 hF1 hc)) (fun _ => rfl)) ?_
  refine wp_iload_n dX0_dropLink_26 rfl ?_
  refine wp_raldk (n := 24) p (lk c p) dX0_dropLink_27 (kc hF1 hc 2 (by decide)) (by decide) (by decide) (lc hc 2 (by decide)) (vin (by omega) (by decide)) (nIc (by omega)) (hF1.2 _ _) (rlk hF1 hc) ?_
  refine wp_aload_n dX0_dropLink_28 rfl ?_
  refine wp_getr (c + 2) dX0_dropLink_29 fX0_19 (kc0 hF1 hc) (hF1.2 _ _) (rra 2 (isK_le (kc0 hF1 hc)) (fun _ => rfl)) ?_
  refine wp_aload_n dX0_dropLink_32 rfl ?_
  refine wp_geti (nI n) dX0_dropLink_33 fX0_82 (Or.inl rfl) (kc0 hF1 hc) fi_eq ?_
  refine wp_raldk (n := 24) n (lk c n) dX0_dropLink_36 (kc hF1 hc 2 (by decide)) (by decide) (by decide) (lc hc 2 (by decide)) (vin (by omega) (by decide)) (nIc (by omega)) (hF1.2 _ _) (rlk hF1 hc) ?_
  refine wp_callV (As := [.ref (lk c n)]) (S := []) (b' := (0, 0)) (b := (0, 0)) dX0_dropLink_37 MX0_85 (klk hF1 hc (by omega)) rfl rfl rfl rfl (Nat.le_of_ble_eq_true rfl) ?_
  refine WPM.of pX2 (Nat.le_of_ble_eq_true rfl) rfl ?_
  refine wp_aload_n dX2_copyFrom_0 rfl ?_
  refine wp_aload_n dX2_copyFrom_1 rfl ?_
  refine wp_geti (fi m 200 (lk c n)) dX2_copyFrom_2 fX2_7 (Or.inl rfl) (klk hF1 hc (by omega)) (fi_ne (by decide)) ?_
  refine wp_aload_n dX2_copyFrom_5 rfl ?_
  refine wp_geti (fi m 201 (lk c n)) dX2_copyFrom_6 fX2_13 (Or.inl rfl) (klk hF1 hc (by omega)) (fi_ne (by decide)) ?_
  refine wp_aload_n dX2_copyFrom_9 rfl ?_
  refine wp_geti (fi m 202 (lk c n)) dX2_copyFrom_10 fX2_16 (Or.inl rfl) (klk hF1 hc (by omega)) (fi_ne (by decide)) ?_
  refine wp_callV (As := [.int (fi m 200 (lk c n)), .int (fi m 201 (lk c n)), .int (fi m 202 (lk c n))]) (S := []) (b' := (0, 0)) (b := (0, 0)) dX2_copyFrom_13 MX2_19 (klk hF1 hc (by omega)) rfl rfl rfl rfl (Nat.le_of_ble_eq_true rfl) ?_
  refine WPM.of pX2 (Nat.le_of_ble_eq_true rfl) rfl ?_
  refine wp_aload_n dX2_begin_0 rfl ?_
  refine wp_iload_n dX2_begin_1 rfl ?_
  refine wp_puti dX2_begin_2 pX2_7 (klk hF1 hc (by omega)) ?_
  have hF2 := Full_wfi 200 (lk c p) (fi m 200 (lk c n)) hF1
  refine wp_aload_n dX2_begin_5 rfl ?_
  refine wp_iload_n dX2_begin_6 rfl ?_
  refine wp_puti dX2_begin_7 pX2_13 (klk hF2 hc (by omega)) ?_
  have hF3 := Full_wfi 201 (lk c p) (fi m 201 (lk c n)) hF2
  refine wp_aload_n dX2_begin_10 rfl ?_
  refine wp_iload_n dX2_begin_11 rfl ?_
  refine wp_puti dX2_begin_12 pX2_16 (klk hF3 hc (by omega)) ?_
  have hF4 := Full_wfi 202 (lk c p) (fi m 202 (lk c n)) hF3
  refine wp_vret dX2_begin_15 rfl ?_
  show WP G (d + 1) (0, 0) μX2_copyFrom 16 [.ref (lk c p), .ref (lk c n)] [] (wfi (wfi (wfi (wfi m 6 c (nI n)) 200 (lk c p) (fi m 200 (lk c n))) 201 (lk c p) (fi m 201 (lk c n))) 202 (lk c p) (fi m 202 (lk c n))) _
  refine wp_vret dX2_copyFrom_16 rfl ?_
  show WP G (d + 2) (0, 0) μX0_dropLink 40 [.ref c, .int (nI p)] [] (wfi (wfi (wfi (wfi m 6 c (nI n)) 200 (lk c p) (fi m 200 (lk c n))) 201 (lk c p) (fi m 201 (lk c n))) 202 (lk c p) (fi m 202 (lk c n))) _
  exact wp_vret dX0_dropLink_40 rfl (e1)
