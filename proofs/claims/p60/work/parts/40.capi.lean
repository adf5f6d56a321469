theorem sC_nodeCount {G : Cx} {d : Nat} {m : Mm} {Q : Option Value → Mm → Prop}  (hF : Full G m) 
    (e1 : Q (some (.int (fi m 5 (gB G + 1)))) m) :
    WPM G (d + 1) (0, 0) μX10_nodeCount [.ref (gB G)] m Q := by
  refine WPM.of pX10 (Nat.le_of_ble_eq_true rfl) rfl ?_
  refine wp_aload_n dX10_nodeCount_0 rfl ?_
  refine wp_getr (gB G + 1) dX10_nodeCount_1 fX10_10 (ka0 hF) (hF.2 _ _) (rra 1 (isK_le (ka0 hF)) (fun _ => rfl)) ?_
  refine wp_geti (fi m 5 (gB G + 1)) dX10_nodeCount_4 fX10_43 (Or.inl rfl) (kc0 hF (isC1 G)) rfl ?_
  exact wp_iret dX10_nodeCount_7 rfl (e1)

theorem sC_louvreCount {G : Cx} {d : Nat} {m : Mm} {Q : Option Value → Mm → Prop}  (hF : Full G m) 
    (e1 : Q (some (.int (fi m 7 (gB G + 1)))) m) :
    WPM G (d + 1) (0, 0) μX10_louvreCount [.ref (gB G)] m Q := by
  refine WPM.of pX10 (Nat.le_of_ble_eq_true rfl) rfl ?_
  refine wp_aload_n dX10_louvreCount_0 rfl ?_
  refine wp_getr (gB G + 1) dX10_louvreCount_1 fX10_10 (ka0 hF) (hF.2 _ _) (rra 1 (isK_le (ka0 hF)) (fun _ => rfl)) ?_
  refine wp_geti (fi m 7 (gB G + 1)) dX10_louvreCount_4 fX10_100 (Or.inl rfl) (kc0 hF (isC1 G)) rfl ?_
  exact wp_iret dX10_louvreCount_7 rfl (e1)

theorem sC_heaterCount {G : Cx} {d : Nat} {m : Mm} {Q : Option Value → Mm → Prop}  (hF : Full G m) 
    (e1 : Q (some (.int (fi m 8 (gB G + 1)))) m) :
    WPM G (d + 1) (0, 0) μX10_heaterCount [.ref (gB G)] m Q := by
  refine WPM.of pX10 (Nat.le_of_ble_eq_true rfl) rfl ?_
  refine wp_aload_n dX10_heaterCount_0 rfl ?_
  refine wp_getr (gB G + 1) dX10_heaterCount_1 fX10_10 (ka0 hF) (hF.2 _ _) (rra 1 (isK_le (ka0 hF)) (fun _ => rfl)) ?_
  refine wp_geti (fi m 8 (gB G + 1)) dX10_heaterCount_4 fX10_110 (Or.inl rfl) (kc0 hF (isC1 G)) rfl ?_
  exact wp_iret dX10_heaterCount_7 rfl (e1)

theorem sC_time {G : Cx} {d : Nat} {m : Mm} {Q : Option Value → Mm → Prop}  (hF : Full G m) 
    (e1 : Q (some (.int (fi m 14 (gB G + 1)))) m) :
    WPM G (d + 1) (0, 0) μX10_time [.ref (gB G)] m Q := by
  refine WPM.of pX10 (Nat.le_of_ble_eq_true rfl) rfl ?_
  refine wp_aload_n dX10_time_0 rfl ?_
  refine wp_getr (gB G + 1) dX10_time_1 fX10_10 (ka0 hF) (hF.2 _ _) (rra 1 (isK_le (ka0 hF)) (fun _ => rfl)) ?_
  refine wp_geti (fi m 14 (gB G + 1)) dX10_time_4 fX10_168 (Or.inl rfl) (kc0 hF (isC1 G)) rfl ?_
  exact wp_iret dX10_time_7 rfl (e1)

theorem sC_charge {G : Cx} {d : Nat} {m : Mm} {Q : Option Value → Mm → Prop}  (hF : Full G m) 
    (e1 : Q (some (.int (fi m 903 ((gB G + 1) + 7)))) m) :
    WPM G (d + 1) (0, 0) μX10_charge [.ref (gB G)] m Q := by
  refine WPM.of pX10 (Nat.le_of_ble_eq_true rfl) rfl ?_
  refine wp_aload_n dX10_charge_0 rfl ?_
  refine wp_getr (gB G + 1) dX10_charge_1 fX10_10 (ka0 hF) (hF.2 _ _) (rra 1 (isK_le (ka0 hF)) (fun _ => rfl)) ?_
  refine wp_getr ((gB G + 1) + 7) dX10_charge_4 fX10_156 (kc0 hF (isC1 G)) (hF.2 _ _) (rra 7 (isK_le (kc0 hF (isC1 G))) (fun _ => rfl)) ?_
  refine wp_geti (fi m 903 ((gB G + 1) + 7)) dX10_charge_7 fX10_183 (Or.inl rfl) (kc hF (isC1 G) 7 (by decide)) rfl ?_
  exact wp_iret dX10_charge_10 rfl (e1)

theorem sC_violatorCount {G : Cx} {d : Nat} {m : Mm} {Q : Option Value → Mm → Prop}  (hF : Full G m) 
    (e1 : Q (some (.int (fi m 601 ((gB G + 1) + 8)))) m) :
    WPM G (d + 1) (0, 0) μX10_violatorCount [.ref (gB G)] m Q := by
  refine WPM.of pX10 (Nat.le_of_ble_eq_true rfl) rfl ?_
  refine wp_aload_n dX10_violatorCount_0 rfl ?_
  refine wp_getr (gB G + 1) dX10_violatorCount_1 fX10_10 (ka0 hF) (hF.2 _ _) (rra 1 (isK_le (ka0 hF)) (fun _ => rfl)) ?_
  refine wp_getr ((gB G + 1) + 8) dX10_violatorCount_4 fX10_213 (kc0 hF (isC1 G)) (hF.2 _ _) (rra 8 (isK_le (kc0 hF (isC1 G))) (fun _ => rfl)) ?_
  refine wp_geti (fi m 601 ((gB G + 1) + 8)) dX10_violatorCount_7 fX10_217 (Or.inl rfl) (kc hF (isC1 G) 8 (by decide)) rfl ?_
  exact wp_iret dX10_violatorCount_10 rfl (e1)

theorem sC_shedCount {G : Cx} {d : Nat} {m : Mm} {Q : Option Value → Mm → Prop}  (hF : Full G m) 
    (e1 : Q (some (.int (fi m 602 ((gB G + 1) + 8)))) m) :
    WPM G (d + 1) (0, 0) μX10_shedCount [.ref (gB G)] m Q := by
  refine WPM.of pX10 (Nat.le_of_ble_eq_true rfl) rfl ?_
  refine wp_aload_n dX10_shedCount_0 rfl ?_
  refine wp_getr (gB G + 1) dX10_shedCount_1 fX10_10 (ka0 hF) (hF.2 _ _) (rra 1 (isK_le (ka0 hF)) (fun _ => rfl)) ?_
  refine wp_getr ((gB G + 1) + 8) dX10_shedCount_4 fX10_213 (kc0 hF (isC1 G)) (hF.2 _ _) (rra 8 (isK_le (kc0 hF (isC1 G))) (fun _ => rfl)) ?_
  refine wp_geti (fi m 602 ((gB G + 1) + 8)) dX10_shedCount_7 fX10_244 (Or.inl rfl) (kc hF (isC1 G) 8 (by decide)) rfl ?_
  exact wp_iret dX10_shedCount_10 rfl (e1)

theorem sC_energy {G : Cx} {d : Nat} {m : Mm} {Q : Option Value → Mm → Prop} {x : Int32}  (hF : Full G m) 
    (e1 : x = (0 : Int32) → Q (some (.long (fl m 603 ((gB G + 1) + 8)))) m)
    (e2 : x = (1 : Int32) → Q (some (.long (fl m 604 ((gB G + 1) + 8)))) m)
    (e3 : x = (2 : Int32) → Q (some (.long (fl m 605 ((gB G + 1) + 8)))) m)
    (e4 : ¬ x = (0 : Int32) → ¬ x = (1 : Int32) → ¬ x = (2 : Int32) → Q (some (.long (-1000000002 : Int64))) m) :
    WPM G (d + 1) (0, 0) μX10_energy [.ref (gB G), .int x] m Q := by
  refine WPM.of pX10 (Nat.le_of_ble_eq_true rfl) rfl ?_
  refine wp_iload_n dX10_energy_0 rfl ?_
  by_cases sw1 : x = (0 : Int32)
  · refine wp_tableIn (off := 27) 28 dX10_energy_1 (by rw [sw1]; decide) (by rw [sw1]; decide) (by rw [sw1]; rfl) (by decide) ?_
    refine wp_aload_n dX10_energy_28 rfl ?_
    refine wp_getr (gB G + 1) dX10_energy_29 fX10_10 (ka0 hF) (hF.2 _ _) (rra 1 (isK_le (ka0 hF)) (fun _ => rfl)) ?_
    refine wp_getr ((gB G + 1) + 8) dX10_energy_32 fX10_213 (kc0 hF (isC1 G)) (hF.2 _ _) (rra 8 (isK_le (kc0 hF (isC1 G))) (fun _ => rfl)) ?_
    refine wp_getl (fl m 603 ((gB G + 1) + 8)) dX10_energy_35 fX10_247 (kc hF (isC1 G) 8 (by decide)) rfl ?_
    exact wp_lret dX10_energy_38 rfl (e1 sw1)
  by_cases sw2 : x = (1 : Int32)
  · refine wp_tableIn (off := 38) 39 dX10_energy_1 (by rw [sw2]; decide) (by rw [sw2]; decide) (by rw [sw2]; rfl) (by decide) ?_
    refine wp_aload_n dX10_energy_39 rfl ?_
    refine wp_getr (gB G + 1) dX10_energy_40 fX10_10 (ka0 hF) (hF.2 _ _) (rra 1 (isK_le (ka0 hF)) (fun _ => rfl)) ?_
    refine wp_getr ((gB G + 1) + 8) dX10_energy_43 fX10_213 (kc0 hF (isC1 G)) (hF.2 _ _) (rra 8 (isK_le (kc0 hF (isC1 G))) (fun _ => rfl)) ?_
    refine wp_getl (fl m 604 ((gB G + 1) + 8)) dX10_energy_46 fX10_248 (kc hF (isC1 G) 8 (by decide)) rfl ?_
    exact wp_lret dX10_energy_49 rfl (e2 sw2)
  by_cases sw3 : x = (2 : Int32)
  · refine wp_tableIn (off := 49) 50 dX10_energy_1 (by rw [sw3]; decide) (by rw [sw3]; decide) (by rw [sw3]; rfl) (by decide) ?_
    refine wp_aload_n dX10_energy_50 rfl ?_
    refine wp_getr (gB G + 1) dX10_energy_51 fX10_10 (ka0 hF) (hF.2 _ _) (rra 1 (isK_le (ka0 hF)) (fun _ => rfl)) ?_
    refine wp_getr ((gB G + 1) + 8) dX10_energy_54 fX10_213 (kc0 hF (isC1 G)) (hF.2 _ _) (rra 8 (isK_le (kc0 hF (isC1 G))) (fun _ => rfl)) ?_
    refine wp_getl (fl m 605 ((gB G + 1) + 8)) dX10_energy_57 fX10_249 (kc hF (isC1 G) 8 (by decide)) rfl ?_
    exact wp_lret dX10_energy_60 rfl (e3 sw3)
  refine wp_tableD (js := [0, 1, 2]) 61 dX10_energy_1 (List.forall_mem_cons.mpr ⟨sw1, List.forall_mem_cons.mpr ⟨sw2, List.forall_mem_cons.mpr ⟨sw3, fun _ h => absurd h List.not_mem_nil⟩⟩⟩) (by decide +kernel) (by decide) (by decide) ?_
  refine wp_ldc2 dX10_energy_61 kX10_252 ?_
  exact wp_lret dX10_energy_64 rfl (e4 sw1 sw2 sw3)

theorem iC_temperature {G : Cx} {d : Nat} {m : Mm} {Q : Option Value → Mm → Prop} {i n : Nat}  (hF : Full G m) (hn : fi m 5 (gB G + 1) = nI (n + 1)) (hm : n + 1 ≤ 12) (hi : i < n + 1) 
    (e1 : Q (some (.int (fi m 401 (nd (gB G + 1) i)))) m) :
    WPM G (d + 2) (0, 0) μX10_temperature [.ref (gB G), .int (nI i)] m Q := by
  refine WPM.of pX10 (Nat.le_of_ble_eq_true rfl) rfl ?_
  refine wp_aload_n dX10_temperature_0 rfl ?_
  refine wp_getr (gB G + 1) dX10_temperature_1 fX10_10 (ka0 hF) (hF.2 _ _) (rra 1 (isK_le (ka0 hF)) (fun _ => rfl)) ?_
  refine wp_iload_n dX10_temperature_4 rfl ?_
  refine wp_callV (As := [.int (nI i)]) (S := []) (b' := (0, 0)) (b := (0, 0)) dX10_temperature_5 MX10_58 (kc0 hF (isC1 G)) rfl rfl rfl rfl (Nat.le_of_ble_eq_true rfl) ?_
  refine WPM.of pX0 (Nat.le_of_ble_eq_true rfl) rfl ?_
  refine wp_iload_n dX0_hasNode_0 rfl ?_
  refine wp_if_lt 16 dX0_hasNode_1 (by decide) (fun q => absurd q (nI_pos (by omega))) (fun _ => ?_)
  refine wp_iload_n dX0_hasNode_4 rfl ?_
  refine wp_aload_n dX0_hasNode_5 rfl ?_
  refine wp_geti (nI (n + 1)) dX0_hasNode_6 fX0_75 (Or.inl rfl) (kc0 hF (isC1 G)) hn ?_
  refine wp_icmp_ge 16 dX0_hasNode_9 (by decide) (fun q => absurd (nlt_ (a := i) (b := n + 1) hi (by omega)) q) (fun _ => ?_)
  refine wp_iconst (1 : Int32) dX0_hasNode_12 (by decide) ?_
  refine wp_goto 17 dX0_hasNode_13 (by decide) ?_
  refine wp_zret dX0_hasNode_17 rfl rfl ?_
  show WP G (d + 2) (0, 0) μX10_temperature 8 [.ref (gB G), .int (nI i)] [.int (1 : Int32)] m _
  refine wp_if_eq 26 dX10_temperature_8 (by decide) (fun q => absurd q (by decide)) (fun _ => ?_)
  refine wp_aload_n dX10_temperature_11 rfl ?_
  refine wp_getr (gB G + 1) dX10_temperature_12 fX10_10 (ka0 hF) (hF.2 _ _) (rra 1 (isK_le (ka0 hF)) (fun _ => rfl)) ?_
  refine wp_getr ((gB G + 1) + 1) dX10_temperature_15 fX10_48 (kc0 hF (isC1 G)) (hF.2 _ _) (rra 1 (isK_le (kc0 hF (isC1 G))) (fun _ => rfl)) ?_
  refine wp_iload_n dX10_temperature_18 rfl ?_
  refine wp_raldk (n := 12) i (nd (gB G + 1) i) dX10_temperature_19 (kc hF (isC1 G) 1 (by decide)) (by decide) (by decide) (lc (isC1 G) 1 (by decide)) (vin (by omega) (by decide)) (nIc (by omega)) (hF.2 _ _) (rnd hF (isC1 G)) ?_
  refine wp_geti (fi m 401 (nd (gB G + 1) i)) dX10_temperature_20 fX10_69 (Or.inl rfl) (knd hF (isC1 G) (by omega)) rfl ?_
  refine wp_goto 28 dX10_temperature_23 (by decide) ?_
  exact wp_iret dX10_temperature_28 rfl (e1)

theorem aC_temperature {G : Cx} {d : Nat} {m : Mm} {Q : Option Value → Mm → Prop} {x : Int32} {n : Nat}  (hF : Full G m) (hn : fi m 5 (gB G + 1) = nI n) (hm : n ≤ 12) (hx : x < 0) 
    (e1 : Q (some (.int (-1000000001 : Int32))) m) :
    WPM G (d + 2) (0, 0) μX10_temperature [.ref (gB G), .int x] m Q := by
  refine WPM.of pX10 (Nat.le_of_ble_eq_true rfl) rfl ?_
  refine wp_aload_n dX10_temperature_0 rfl ?_
  refine wp_getr (gB G + 1) dX10_temperature_1 fX10_10 (ka0 hF) (hF.2 _ _) (rra 1 (isK_le (ka0 hF)) (fun _ => rfl)) ?_
  refine wp_iload_n dX10_temperature_4 rfl ?_
  refine wp_callV (As := [.int x]) (S := []) (b' := (0, 0)) (b := (0, 0)) dX10_temperature_5 MX10_58 (kc0 hF (isC1 G)) rfl rfl rfl rfl (Nat.le_of_ble_eq_true rfl) ?_
  refine WPM.of pX0 (Nat.le_of_ble_eq_true rfl) rfl ?_
  refine wp_iload_n dX0_hasNode_0 rfl ?_
  refine wp_if_lt 16 dX0_hasNode_1 (by decide) (fun _ => ?_) (fun q => absurd hx q)
  refine wp_iconst (0 : Int32) dX0_hasNode_16 (by decide) ?_
  refine wp_zret dX0_hasNode_17 rfl rfl ?_
  show WP G (d + 2) (0, 0) μX10_temperature 8 [.ref (gB G), .int x] [.int (0 : Int32)] m _
  refine wp_if_eq 26 dX10_temperature_8 (by decide) (fun _ => ?_) (fun q => absurd (by decide) q)
  refine wp_ldc dX10_temperature_26 kX10_62 ?_
  exact wp_iret dX10_temperature_28 rfl (e1)

theorem bC_temperature {G : Cx} {d : Nat} {m : Mm} {Q : Option Value → Mm → Prop} {x : Int32} {n : Nat}  (hF : Full G m) (hn : fi m 5 (gB G + 1) = nI n) (hm : n ≤ 12) (hx : ¬ x < 0) (hy : ¬ x < nI n) 
    (e1 : Q (some (.int (-1000000001 : Int32))) m) :
    WPM G (d + 2) (0, 0) μX10_temperature [.ref (gB G), .int x] m Q := by
  refine WPM.of pX10 (Nat.le_of_ble_eq_true rfl) rfl ?_
  refine wp_aload_n dX10_temperature_0 rfl ?_
  refine wp_getr (gB G + 1) dX10_temperature_1 fX10_10 (ka0 hF) (hF.2 _ _) (rra 1 (isK_le (ka0 hF)) (fun _ => rfl)) ?_
  refine wp_iload_n dX10_temperature_4 rfl ?_
  refine wp_callV (As := [.int x]) (S := []) (b' := (0, 0)) (b := (0, 0)) dX10_temperature_5 MX10_58 (kc0 hF (isC1 G)) rfl rfl rfl rfl (Nat.le_of_ble_eq_true rfl) ?_
  refine WPM.of pX0 (Nat.le_of_ble_eq_true rfl) rfl ?_
  refine wp_iload_n dX0_hasNode_0 rfl ?_
  refine wp_if_lt 16 dX0_hasNode_1 (by decide) (fun q => absurd q hx) (fun _ => ?_)
  refine wp_iload_n dX0_hasNode_4 rfl ?_
  refine wp_aload_n dX0_hasNode_5 rfl ?_
  refine wp_geti (nI n) dX0_hasNode_6 fX0_75 (Or.inl rfl) (kc0 hF (isC1 G)) hn ?_
  refine wp_icmp_ge 16 dX0_hasNode_9 (by decide) (fun _ => ?_) (fun q => absurd q hy)
  refine wp_iconst (0 : Int32) dX0_hasNode_16 (by decide) ?_
  refine wp_zret dX0_hasNode_17 rfl rfl ?_
  show WP G (d + 2) (0, 0) μX10_temperature 8 [.ref (gB G), .int x] [.int (0 : Int32)] m _
  refine wp_if_eq 26 dX10_temperature_8 (by decide) (fun _ => ?_) (fun q => absurd (by decide) q)
  refine wp_ldc dX10_temperature_26 kX10_62 ?_
  exact wp_iret dX10_temperature_28 rfl (e1)

theorem iC_load {G : Cx} {d : Nat} {m : Mm} {Q : Option Value → Mm → Prop} {i n : Nat}  (hF : Full G m) (hn : fi m 5 (gB G + 1) = nI (n + 1)) (hm : n + 1 ≤ 12) (hi : i < n + 1) 
    (e1 : Q (some (.int (fi m 404 (nd (gB G + 1) i)))) m) :
    WPM G (d + 2) (0, 0) μX10_load [.ref (gB G), .int (nI i)] m Q := by
  refine WPM.of pX10 (Nat.le_of_ble_eq_true rfl) rfl ?_
  refine wp_aload_n dX10_load_0 rfl ?_
  refine wp_getr (gB G + 1) dX10_load_1 fX10_10 (ka0 hF) (hF.2 _ _) (rra 1 (isK_le (ka0 hF)) (fun _ => rfl)) ?_
  refine wp_iload_n dX10_load_4 rfl ?_
  refine wp_callV (As := [.int (nI i)]) (S := []) (b' := (0, 0)) (b := (0, 0)) dX10_load_5 MX10_58 (kc0 hF (isC1 G)) rfl rfl rfl rfl (Nat.le_of_ble_eq_true rfl) ?_
  refine WPM.of pX0 (Nat.le_of_ble_eq_true rfl) rfl ?_
  refine wp_iload_n dX0_hasNode_0 rfl ?_
  refine wp_if_lt 16 dX0_hasNode_1 (by decide) (fun q => absurd q (nI_pos (by omega))) (fun _ => ?_)
  refine wp_iload_n dX0_hasNode_4 rfl ?_
  refine wp_aload_n dX0_hasNode_5 rfl ?_
  refine wp_geti (nI (n + 1)) dX0_hasNode_6 fX0_75 (Or.inl rfl) (kc0 hF (isC1 G)) hn ?_
  refine wp_icmp_ge 16 dX0_hasNode_9 (by decide) (fun q => absurd (nlt_ (a := i) (b := n + 1) hi (by omega)) q) (fun _ => ?_)
  refine wp_iconst (1 : Int32) dX0_hasNode_12 (by decide) ?_
  refine wp_goto 17 dX0_hasNode_13 (by decide) ?_
  refine wp_zret dX0_hasNode_17 rfl rfl ?_
  show WP G (d + 2) (0, 0) μX10_load 8 [.ref (gB G), .int (nI i)] [.int (1 : Int32)] m _
  refine wp_if_eq 26 dX10_load_8 (by decide) (fun q => absurd q (by decide)) (fun _ => ?_)
  refine wp_aload_n dX10_load_11 rfl ?_
  refine wp_getr (gB G + 1) dX10_load_12 fX10_10 (ka0 hF) (hF.2 _ _) (rra 1 (isK_le (ka0 hF)) (fun _ => rfl)) ?_
  refine wp_getr ((gB G + 1) + 1) dX10_load_15 fX10_48 (kc0 hF (isC1 G)) (hF.2 _ _) (rra 1 (isK_le (kc0 hF (isC1 G))) (fun _ => rfl)) ?_
  refine wp_iload_n dX10_load_18 rfl ?_
  refine wp_raldk (n := 12) i (nd (gB G + 1) i) dX10_load_19 (kc hF (isC1 G) 1 (by decide)) (by decide) (by decide) (lc (isC1 G) 1 (by decide)) (vin (by omega) (by decide)) (nIc (by omega)) (hF.2 _ _) (rnd hF (isC1 G)) ?_
  refine wp_geti (fi m 404 (nd (gB G + 1) i)) dX10_load_20 fX10_72 (Or.inl rfl) (knd hF (isC1 G) (by omega)) rfl ?_
  refine wp_goto 28 dX10_load_23 (by decide) ?_
  exact wp_iret dX10_load_28 rfl (e1)

theorem aC_load {G : Cx} {d : Nat} {m : Mm} {Q : Option Value → Mm → Prop} {x : Int32} {n : Nat}  (hF : Full G m) (hn : fi m 5 (gB G + 1) = nI n) (hm : n ≤ 12) (hx : x < 0) 
    (e1 : Q (some (.int (-1000000001 : Int32))) m) :
    WPM G (d + 2) (0, 0) μX10_load [.ref (gB G), .int x] m Q := by
  refine WPM.of pX10 (Nat.le_of_ble_eq_true rfl) rfl ?_
  refine wp_aload_n dX10_load_0 rfl ?_
  refine wp_getr (gB G + 1) dX10_load_1 fX10_10 (ka0 hF) (hF.2 _ _) (rra 1 (isK_le (ka0 hF)) (fun _ => rfl)) ?_
  refine wp_iload_n dX10_load_4 rfl ?_
  refine wp_callV (As := [.int x]) (S := []) (b' := (0, 0)) (b := (0, 0)) dX10_load_5 MX10_58 (kc0 hF (isC1 G)) rfl rfl rfl rfl (Nat.le_of_ble_eq_true rfl) ?_
  refine WPM.of pX0 (Nat.le_of_ble_eq_true rfl) rfl ?_
  refine wp_iload_n dX0_hasNode_0 rfl ?_
  refine wp_if_lt 16 dX0_hasNode_1 (by decide) (fun _ => ?_) (fun q => absurd hx q)
  refine wp_iconst (0 : Int32) dX0_hasNode_16 (by decide) ?_
  refine wp_zret dX0_hasNode_17 rfl rfl ?_
  show WP G (d + 2) (0, 0) μX10_load 8 [.ref (gB G), .int x] [.int (0 : Int32)] m _
  refine wp_if_eq 26 dX10_load_8 (by decide) (fun _ => ?_) (fun q => absurd (by decide) q)
  refine wp_ldc dX10_load_26 kX10_62 ?_
  exact wp_iret dX10_load_28 rfl (e1)

theorem bC_load {G : Cx} {d : Nat} {m : Mm} {Q : Option Value → Mm → Prop} {x : Int32} {n : Nat}  (hF : Full G m) (hn : fi m 5 (gB G + 1) = nI n) (hm : n ≤ 12) (hx : ¬ x < 0) (hy : ¬ x < nI n) 
    (e1 : Q (some (.int (-1000000001 : Int32))) m) :
    WPM G (d + 2) (0, 0) μX10_load [.ref (gB G), .int x] m Q := by
  refine WPM.of pX10 (Nat.le_of_ble_eq_true rfl) rfl ?_
  refine wp_aload_n dX10_load_0 rfl ?_
  refine wp_getr (gB G + 1) dX10_load_1 fX10_10 (ka0 hF) (hF.2 _ _) (rra 1 (isK_le (ka0 hF)) (fun _ => rfl)) ?_
  refine wp_iload_n dX10_load_4 rfl ?_
  refine wp_callV (As := [.int x]) (S := []) (b' := (0, 0)) (b := (0, 0)) dX10_load_5 MX10_58 (kc0 hF (isC1 G)) rfl rfl rfl rfl (Nat.le_of_ble_eq_true rfl) ?_
  refine WPM.of pX0 (Nat.le_of_ble_eq_true rfl) rfl ?_
  refine wp_iload_n dX0_hasNode_0 rfl ?_
  refine wp_if_lt 16 dX0_hasNode_1 (by decide) (fun q => absurd q hx) (fun _ => ?_)
  refine wp_iload_n dX0_hasNode_4 rfl ?_
  refine wp_aload_n dX0_hasNode_5 rfl ?_
  refine wp_geti (nI n) dX0_hasNode_6 fX0_75 (Or.inl rfl) (kc0 hF (isC1 G)) hn ?_
  refine wp_icmp_ge 16 dX0_hasNode_9 (by decide) (fun _ => ?_) (fun q => absurd q hy)
  refine wp_iconst (0 : Int32) dX0_hasNode_16 (by decide) ?_
  refine wp_zret dX0_hasNode_17 rfl rfl ?_
  show WP G (d + 2) (0, 0) μX10_load 8 [.ref (gB G), .int x] [.int (0 : Int32)] m _
  refine wp_if_eq 26 dX10_load_8 (by decide) (fun _ => ?_) (fun q => absurd (by decide) q)
  refine wp_ldc dX10_load_26 kX10_62 ?_
  exact wp_iret dX10_load_28 rfl (e1)

theorem iC_margin {G : Cx} {d : Nat} {m : Mm} {Q : Option Value → Mm → Prop} {i n : Nat}  (hF : Full G m) (hn : fi m 5 (gB G + 1) = nI (n + 1)) (hm : n + 1 ≤ 12) (hi : i < n + 1) 
    (e1 : Q (some (.int (imin ((fi m 401 (nd (gB G + 1) i)) - (fi m 405 (nd (gB G + 1) i))) ((fi m 406 (nd (gB G + 1) i)) - (fi m 401 (nd (gB G + 1) i)))))) m) :
    WPM G (d + 2) (0, 0) μX10_margin [.ref (gB G), .int (nI i)] m Q := by
  refine WPM.of pX10 (Nat.le_of_ble_eq_true rfl) rfl ?_
  refine wp_aload_n dX10_margin_0 rfl ?_
  refine wp_getr (gB G + 1) dX10_margin_1 fX10_10 (ka0 hF) (hF.2 _ _) (rra 1 (isK_le (ka0 hF)) (fun _ => rfl)) ?_
  refine wp_iload_n dX10_margin_4 rfl ?_
  refine wp_callV (As := [.int (nI i)]) (S := []) (b' := (0, 0)) (b := (0, 0)) dX10_margin_5 MX10_58 (kc0 hF (isC1 G)) rfl rfl rfl rfl (Nat.le_of_ble_eq_true rfl) ?_
  refine WPM.of pX0 (Nat.le_of_ble_eq_true rfl) rfl ?_
  refine wp_iload_n dX0_hasNode_0 rfl ?_
  refine wp_if_lt 16 dX0_hasNode_1 (by decide) (fun q => absurd q (nI_pos (by omega))) (fun _ => ?_)
  refine wp_iload_n dX0_hasNode_4 rfl ?_
  refine wp_aload_n dX0_hasNode_5 rfl ?_
  refine wp_geti (nI (n + 1)) dX0_hasNode_6 fX0_75 (Or.inl rfl) (kc0 hF (isC1 G)) hn ?_
  refine wp_icmp_ge 16 dX0_hasNode_9 (by decide) (fun q => absurd (nlt_ (a := i) (b := n + 1) hi (by omega)) q) (fun _ => ?_)
  refine wp_iconst (1 : Int32) dX0_hasNode_12 (by decide) ?_
  refine wp_goto 17 dX0_hasNode_13 (by decide) ?_
  refine wp_zret dX0_hasNode_17 rfl rfl ?_
  show WP G (d + 2) (0, 0) μX10_margin 8 [.ref (gB G), .int (nI i), lvU] [.int (1 : Int32)] m _
  refine wp_if_ne 14 dX10_margin_8 (by decide) (fun _ => ?_) (fun q => absurd q (by decide))
  refine wp_aload_n dX10_margin_14 rfl ?_
  refine wp_getr (gB G + 1) dX10_margin_15 fX10_10 (ka0 hF) (hF.2 _ _) (rra 1 (isK_le (ka0 hF)) (fun _ => rfl)) ?_
  refine wp_getr ((gB G + 1) + 1) dX10_margin_18 fX10_48 (kc0 hF (isC1 G)) (hF.2 _ _) (rra 1 (isK_le (kc0 hF (isC1 G))) (fun _ => rfl)) ?_
  refine wp_iload_n dX10_margin_21 rfl ?_
  refine wp_raldk (n := 12) i (nd (gB G + 1) i) dX10_margin_22 (kc hF (isC1 G) 1 (by decide)) (by decide) (by decide) (lc (isC1 G) 1 (by decide)) (vin (by omega) (by decide)) (nIc (by omega)) (hF.2 _ _) (rnd hF (isC1 G)) ?_
  refine wp_astore_n dX10_margin_23 (by decide) rfl ?_
  refine wp_aload_n dX10_margin_24 rfl ?_
  refine wp_geti (fi m 401 (nd (gB G + 1) i)) dX10_margin_25 fX10_69 (Or.inl rfl) (knd hF (isC1 G) (by omega)) rfl ?_
  refine wp_aload_n dX10_margin_28 rfl ?_
  refine wp_geti (fi m 405 (nd (gB G + 1) i)) dX10_margin_29 fX10_63 (Or.inl rfl) (knd hF (isC1 G) (by omega)) rfl ?_
  refine wp_isubv ((fi m 401 (nd (gB G + 1) i)) - (fi m 405 (nd (gB G + 1) i))) dX10_margin_32 rfl ?_
  refine wp_aload_n dX10_margin_33 rfl ?_
  refine wp_geti (fi m 406 (nd (gB G + 1) i)) dX10_margin_34 fX10_66 (Or.inl rfl) (knd hF (isC1 G) (by omega)) rfl ?_
  refine wp_aload_n dX10_margin_37 rfl ?_
  refine wp_geti (fi m 401 (nd (gB G + 1) i)) dX10_margin_38 fX10_69 (Or.inl rfl) (knd hF (isC1 G) (by omega)) rfl ?_
  refine wp_isubv ((fi m 406 (nd (gB G + 1) i)) - (fi m 401 (nd (gB G + 1) i))) dX10_margin_41 rfl ?_
  refine wp_minI dX10_margin_42 AX10_208 (Nat.le_of_ble_eq_true rfl) ?_
  exact wp_iret dX10_margin_45 rfl (e1)

theorem aC_margin {G : Cx} {d : Nat} {m : Mm} {Q : Option Value → Mm → Prop} {x : Int32} {n : Nat}  (hF : Full G m) (hn : fi m 5 (gB G + 1) = nI n) (hm : n ≤ 12) (hx : x < 0) 
    (e1 : Q (some (.int (-1000000001 : Int32))) m) :
    WPM G (d + 2) (0, 0) μX10_margin [.ref (gB G), .int x] m Q := by
  refine WPM.of pX10 (Nat.le_of_ble_eq_true rfl) rfl ?_
  refine wp_aload_n dX10_margin_0 rfl ?_
  refine wp_getr (gB G + 1) dX10_margin_1 fX10_10 (ka0 hF) (hF.2 _ _) (rra 1 (isK_le (ka0 hF)) (fun _ => rfl)) ?_
  refine wp_iload_n dX10_margin_4 rfl ?_
  refine wp_callV (As := [.int x]) (S := []) (b' := (0, 0)) (b := (0, 0)) dX10_margin_5 MX10_58 (kc0 hF (isC1 G)) rfl rfl rfl rfl (Nat.le_of_ble_eq_true rfl) ?_
  refine WPM.of pX0 (Nat.le_of_ble_eq_true rfl) rfl ?_
  refine wp_iload_n dX0_hasNode_0 rfl ?_
  refine wp_if_lt 16 dX0_hasNode_1 (by decide) (fun _ => ?_) (fun q => absurd hx q)
  refine wp_iconst (0 : Int32) dX0_hasNode_16 (by decide) ?_
  refine wp_zret dX0_hasNode_17 rfl rfl ?_
  show WP G (d + 2) (0, 0) μX10_margin 8 [.ref (gB G), .int x, lvU] [.int (0 : Int32)] m _
  refine wp_if_ne 14 dX10_margin_8 (by decide) (fun q => absurd (by decide) q) (fun _ => ?_)
  refine wp_ldc dX10_margin_11 kX10_62 ?_
  exact wp_iret dX10_margin_13 rfl (e1)

theorem bC_margin {G : Cx} {d : Nat} {m : Mm} {Q : Option Value → Mm → Prop} {x : Int32} {n : Nat}  (hF : Full G m) (hn : fi m 5 (gB G + 1) = nI n) (hm : n ≤ 12) (hx : ¬ x < 0) (hy : ¬ x < nI n) 
    (e1 : Q (some (.int (-1000000001 : Int32))) m) :
    WPM G (d + 2) (0, 0) μX10_margin [.ref (gB G), .int x] m Q := by
  refine WPM.of pX10 (Nat.le_of_ble_eq_true rfl) rfl ?_
  refine wp_aload_n dX10_margin_0 rfl ?_
  refine wp_getr (gB G + 1) dX10_margin_1 fX10_10 (ka0 hF) (hF.2 _ _) (rra 1 (isK_le (ka0 hF)) (fun _ => rfl)) ?_
  refine wp_iload_n dX10_margin_4 rfl ?_
  refine wp_callV (As := [.int x]) (S := []) (b' := (0, 0)) (b := (0, 0)) dX10_margin_5 MX10_58 (kc0 hF (isC1 G)) rfl rfl rfl rfl (Nat.le_of_ble_eq_true rfl) ?_
  refine WPM.of pX0 (Nat.le_of_ble_eq_true rfl) rfl ?_
  refine wp_iload_n dX0_hasNode_0 rfl ?_
  refine wp_if_lt 16 dX0_hasNode_1 (by decide) (fun q => absurd q hx) (fun _ => ?_)
  refine wp_iload_n dX0_hasNode_4 rfl ?_
  refine wp_aload_n dX0_hasNode_5 rfl ?_
  refine wp_geti (nI n) dX0_hasNode_6 fX0_75 (Or.inl rfl) (kc0 hF (isC1 G)) hn ?_
  refine wp_icmp_ge 16 dX0_hasNode_9 (by decide) (fun _ => ?_) (fun q => absurd q hy)
  refine wp_iconst (0 : Int32) dX0_hasNode_16 (by decide) ?_
  refine wp_zret dX0_hasNode_17 rfl rfl ?_
  show WP G (d + 2) (0, 0) μX10_margin 8 [.ref (gB G), .int x, lvU] [.int (0 : Int32)] m _
  refine wp_if_ne 14 dX10_margin_8 (by decide) (fun q => absurd (by decide) q) (fun _ => ?_)
  refine wp_ldc dX10_margin_11 kX10_62 ?_
  exact wp_iret dX10_margin_13 rfl (e1)

theorem iC_lowest {G : Cx} {d : Nat} {m : Mm} {Q : Option Value → Mm → Prop} {i n : Nat}  (hF : Full G m) (hn : fi m 5 (gB G + 1) = nI (n + 1)) (hm : n + 1 ≤ 12) (hi : i < n + 1) 
    (e1 : Q (some (.int (fi m 407 (nd (gB G + 1) i)))) m) :
    WPM G (d + 2) (0, 0) μX10_lowest [.ref (gB G), .int (nI i)] m Q := by
  refine WPM.of pX10 (Nat.le_of_ble_eq_true rfl) rfl ?_
  refine wp_aload_n dX10_lowest_0 rfl ?_
  refine wp_getr (gB G + 1) dX10_lowest_1 fX10_10 (ka0 hF) (hF.2 _ _) (rra 1 (isK_le (ka0 hF)) (fun _ => rfl)) ?_
  refine wp_iload_n dX10_lowest_4 rfl ?_
  refine wp_callV (As := [.int (nI i)]) (S := []) (b' := (0, 0)) (b := (0, 0)) dX10_lowest_5 MX10_58 (kc0 hF (isC1 G)) rfl rfl rfl rfl (Nat.le_of_ble_eq_true rfl) ?_
  refine WPM.of pX0 (Nat.le_of_ble_eq_true rfl) rfl ?_
  refine wp_iload_n dX0_hasNode_0 rfl ?_
  refine wp_if_lt 16 dX0_hasNode_1 (by decide) (fun q => absurd q (nI_pos (by omega))) (fun _ => ?_)
  refine wp_iload_n dX0_hasNode_4 rfl ?_
  refine wp_aload_n dX0_hasNode_5 rfl ?_
  refine wp_geti (nI (n + 1)) dX0_hasNode_6 fX0_75 (Or.inl rfl) (kc0 hF (isC1 G)) hn ?_
  refine wp_icmp_ge 16 dX0_hasNode_9 (by decide) (fun q => absurd (nlt_ (a := i) (b := n + 1) hi (by omega)) q) (fun _ => ?_)
  refine wp_iconst (1 : Int32) dX0_hasNode_12 (by decide) ?_
  refine wp_goto 17 dX0_hasNode_13 (by decide) ?_
  refine wp_zret dX0_hasNode_17 rfl rfl ?_
  show WP G (d + 2) (0, 0) μX10_lowest 8 [.ref (gB G), .int (nI i)] [.int (1 : Int32)] m _
  refine wp_if_eq 26 dX10_lowest_8 (by decide) (fun q => absurd q (by decide)) (fun _ => ?_)
  refine wp_aload_n dX10_lowest_11 rfl ?_
  refine wp_getr (gB G + 1) dX10_lowest_12 fX10_10 (ka0 hF) (hF.2 _ _) (rra 1 (isK_le (ka0 hF)) (fun _ => rfl)) ?_
  refine wp_getr ((gB G + 1) + 1) dX10_lowest_15 fX10_48 (kc0 hF (isC1 G)) (hF.2 _ _) (rra 1 (isK_le (kc0 hF (isC1 G))) (fun _ => rfl)) ?_
  refine wp_iload_n dX10_lowest_18 rfl ?_
  refine wp_raldk (n := 12) i (nd (gB G + 1) i) dX10_lowest_19 (kc hF (isC1 G) 1 (by decide)) (by decide) (by decide) (lc (isC1 G) 1 (by decide)) (vin (by omega) (by decide)) (nIc (by omega)) (hF.2 _ _) (rnd hF (isC1 G)) ?_
  refine wp_geti (fi m 407 (nd (gB G + 1) i)) dX10_lowest_20 fX10_228 (Or.inl rfl) (knd hF (isC1 G) (by omega)) rfl ?_
  refine wp_goto 28 dX10_lowest_23 (by decide) ?_
  exact wp_iret dX10_lowest_28 rfl (e1)

theorem aC_lowest {G : Cx} {d : Nat} {m : Mm} {Q : Option Value → Mm → Prop} {x : Int32} {n : Nat}  (hF : Full G m) (hn : fi m 5 (gB G + 1) = nI n) (hm : n ≤ 12) (hx : x < 0) 
    (e1 : Q (some (.int (-1000000001 : Int32))) m) :
    WPM G (d + 2) (0, 0) μX10_lowest [.ref (gB G), .int x] m Q := by
  refine WPM.of pX10 (Nat.le_of_ble_eq_true rfl) rfl ?_
  refine wp_aload_n dX10_lowest_0 rfl ?_
  refine wp_getr (gB G + 1) dX10_lowest_1 fX10_10 (ka0 hF) (hF.2 _ _) (rra 1 (isK_le (ka0 hF)) (fun _ => rfl)) ?_
  refine wp_iload_n dX10_lowest_4 rfl ?_
  refine wp_callV (As := [.int x]) (S := []) (b' := (0, 0)) (b := (0, 0)) dX10_lowest_5 MX10_58 (kc0 hF (isC1 G)) rfl rfl rfl rfl (Nat.le_of_ble_eq_true rfl) ?_
  refine WPM.of pX0 (Nat.le_of_ble_eq_true rfl) rfl ?_
  refine wp_iload_n dX0_hasNode_0 rfl ?_
  refine wp_if_lt 16 dX0_hasNode_1 (by decide) (fun _ => ?_) (fun q => absurd hx q)
  refine wp_iconst (0 : Int32) dX0_hasNode_16 (by decide) ?_
  refine wp_zret dX0_hasNode_17 rfl rfl ?_
  show WP G (d + 2) (0, 0) μX10_lowest 8 [.ref (gB G), .int x] [.int (0 : Int32)] m _
  refine wp_if_eq 26 dX10_lowest_8 (by decide) (fun _ => ?_) (fun q => absurd (by decide) q)
  refine wp_ldc dX10_lowest_26 kX10_62 ?_
  exact wp_iret dX10_lowest_28 rfl (e1)

theorem bC_lowest {G : Cx} {d : Nat} {m : Mm} {Q : Option Value → Mm → Prop} {x : Int32} {n : Nat}  (hF : Full G m) (hn : fi m 5 (gB G + 1) = nI n) (hm : n ≤ 12) (hx : ¬ x < 0) (hy : ¬ x < nI n) 
    (e1 : Q (some (.int (-1000000001 : Int32))) m) :
    WPM G (d + 2) (0, 0) μX10_lowest [.ref (gB G), .int x] m Q := by
  refine WPM.of pX10 (Nat.le_of_ble_eq_true rfl) rfl ?_
  refine wp_aload_n dX10_lowest_0 rfl ?_
  refine wp_getr (gB G + 1) dX10_lowest_1 fX10_10 (ka0 hF) (hF.2 _ _) (rra 1 (isK_le (ka0 hF)) (fun _ => rfl)) ?_
  refine wp_iload_n dX10_lowest_4 rfl ?_
  refine wp_callV (As := [.int x]) (S := []) (b' := (0, 0)) (b := (0, 0)) dX10_lowest_5 MX10_58 (kc0 hF (isC1 G)) rfl rfl rfl rfl (Nat.le_of_ble_eq_true rfl) ?_
  refine WPM.of pX0 (Nat.le_of_ble_eq_true rfl) rfl ?_
  refine wp_iload_n dX0_hasNode_0 rfl ?_
  refine wp_if_lt 16 dX0_hasNode_1 (by decide) (fun q => absurd q hx) (fun _ => ?_)
  refine wp_iload_n dX0_hasNode_4 rfl ?_
  refine wp_aload_n dX0_hasNode_5 rfl ?_
  refine wp_geti (nI n) dX0_hasNode_6 fX0_75 (Or.inl rfl) (kc0 hF (isC1 G)) hn ?_
  refine wp_icmp_ge 16 dX0_hasNode_9 (by decide) (fun _ => ?_) (fun q => absurd q hy)
  refine wp_iconst (0 : Int32) dX0_hasNode_16 (by decide) ?_
  refine wp_zret dX0_hasNode_17 rfl rfl ?_
  show WP G (d + 2) (0, 0) μX10_lowest 8 [.ref (gB G), .int x] [.int (0 : Int32)] m _
  refine wp_if_eq 26 dX10_lowest_8 (by decide) (fun _ => ?_) (fun q => absurd (by decide) q)
  refine wp_ldc dX10_lowest_26 kX10_62 ?_
  exact wp_iret dX10_lowest_28 rfl (e1)

theorem iC_highest {G : Cx} {d : Nat} {m : Mm} {Q : Option Value → Mm → Prop} {i n : Nat}  (hF : Full G m) (hn : fi m 5 (gB G + 1) = nI (n + 1)) (hm : n + 1 ≤ 12) (hi : i < n + 1) 
    (e1 : Q (some (.int (fi m 408 (nd (gB G + 1) i)))) m) :
    WPM G (d + 2) (0, 0) μX10_highest [.ref (gB G), .int (nI i)] m Q := by
  refine WPM.of pX10 (Nat.le_of_ble_eq_true rfl) rfl ?_
  refine wp_aload_n dX10_highest_0 rfl ?_
  refine wp_getr (gB G + 1) dX10_highest_1 fX10_10 (ka0 hF) (hF.2 _ _) (rra 1 (isK_le (ka0 hF)) (fun _ => rfl)) ?_
  refine wp_iload_n dX10_highest_4 rfl ?_
  refine wp_callV (As := [.int (nI i)]) (S := []) (b' := (0, 0)) (b := (0, 0)) dX10_highest_5 MX10_58 (kc0 hF (isC1 G)) rfl rfl rfl rfl (Nat.le_of_ble_eq_true rfl) ?_
  refine WPM.of pX0 (Nat.le_of_ble_eq_true rfl) rfl ?_
  refine wp_iload_n dX0_hasNode_0 rfl ?_
  refine wp_if_lt 16 dX0_hasNode_1 (by decide) (fun q => absurd q (nI_pos (by omega))) (fun _ => ?_)
  refine wp_iload_n dX0_hasNode_4 rfl ?_
  refine wp_aload_n dX0_hasNode_5 rfl ?_
  refine wp_geti (nI (n + 1)) dX0_hasNode_6 fX0_75 (Or.inl rfl) (kc0 hF (isC1 G)) hn ?_
  refine wp_icmp_ge 16 dX0_hasNode_9 (by decide) (fun q => absurd (nlt_ (a := i) (b := n + 1) hi (by omega)) q) (fun _ => ?_)
  refine wp_iconst (1 : Int32) dX0_hasNode_12 (by decide) ?_
  refine wp_goto 17 dX0_hasNode_13 (by decide) ?_
  refine wp_zret dX0_hasNode_17 rfl rfl ?_
  show WP G (d + 2) (0, 0) μX10_highest 8 [.ref (gB G), .int (nI i)] [.int (1 : Int32)] m _
  refine wp_if_eq 26 dX10_highest_8 (by decide) (fun q => absurd q (by decide)) (fun _ => ?_)
  refine wp_aload_n dX10_highest_11 rfl ?_
  refine wp_getr (gB G + 1) dX10_highest_12 fX10_10 (ka0 hF) (hF.2 _ _) (rra 1 (isK_le (ka0 hF)) (fun _ => rfl)) ?_
  refine wp_getr ((gB G + 1) + 1) dX10_highest_15 fX10_48 (kc0 hF (isC1 G)) (hF.2 _ _) (rra 1 (isK_le (kc0 hF (isC1 G))) (fun _ => rfl)) ?_
  refine wp_iload_n dX10_highest_18 rfl ?_
  refine wp_raldk (n := 12) i (nd (gB G + 1) i) dX10_highest_19 (kc hF (isC1 G) 1 (by decide)) (by decide) (by decide) (lc (isC1 G) 1 (by decide)) (vin (by omega) (by decide)) (nIc (by omega)) (hF.2 _ _) (rnd hF (isC1 G)) ?_
  refine wp_geti (fi m 408 (nd (gB G + 1) i)) dX10_highest_20 fX10_231 (Or.inl rfl) (knd hF (isC1 G) (by omega)) rfl ?_
  refine wp_goto 28 dX10_highest_23 (by decide) ?_
  exact wp_iret dX10_highest_28 rfl (e1)

theorem aC_highest {G : Cx} {d : Nat} {m : Mm} {Q : Option Value → Mm → Prop} {x : Int32} {n : Nat}  (hF : Full G m) (hn : fi m 5 (gB G + 1) = nI n) (hm : n ≤ 12) (hx : x < 0) 
    (e1 : Q (some (.int (-1000000001 : Int32))) m) :
    WPM G (d + 2) (0, 0) μX10_highest [.ref (gB G), .int x] m Q := by
  refine WPM.of pX10 (Nat.le_of_ble_eq_true rfl) rfl ?_
  refine wp_aload_n dX10_highest_0 rfl ?_
  refine wp_getr (gB G + 1) dX10_highest_1 fX10_10 (ka0 hF) (hF.2 _ _) (rra 1 (isK_le (ka0 hF)) (fun _ => rfl)) ?_
  refine wp_iload_n dX10_highest_4 rfl ?_
  refine wp_callV (As := [.int x]) (S := []) (b' := (0, 0)) (b := (0, 0)) dX10_highest_5 MX10_58 (kc0 hF (isC1 G)) rfl rfl rfl rfl (Nat.le_of_ble_eq_true rfl) ?_
  refine WPM.of pX0 (Nat.le_of_ble_eq_true rfl) rfl ?_
  refine wp_iload_n dX0_hasNode_0 rfl ?_
  refine wp_if_lt 16 dX0_hasNode_1 (by decide) (fun _ => ?_) (fun q => absurd hx q)
  refine wp_iconst (0 : Int32) dX0_hasNode_16 (by decide) ?_
  refine wp_zret dX0_hasNode_17 rfl rfl ?_
  show WP G (d + 2) (0, 0) μX10_highest 8 [.ref (gB G), .int x] [.int (0 : Int32)] m _
  refine wp_if_eq 26 dX10_highest_8 (by decide) (fun _ => ?_) (fun q => absurd (by decide) q)
  refine wp_ldc dX10_highest_26 kX10_62 ?_
  exact wp_iret dX10_highest_28 rfl (e1)

theorem bC_highest {G : Cx} {d : Nat} {m : Mm} {Q : Option Value → Mm → Prop} {x : Int32} {n : Nat}  (hF : Full G m) (hn : fi m 5 (gB G + 1) = nI n) (hm : n ≤ 12) (hx : ¬ x < 0) (hy : ¬ x < nI n) 
    (e1 : Q (some (.int (-1000000001 : Int32))) m) :
    WPM G (d + 2) (0, 0) μX10_highest [.ref (gB G), .int x] m Q := by
  refine WPM.of pX10 (Nat.le_of_ble_eq_true rfl) rfl ?_
  refine wp_aload_n dX10_highest_0 rfl ?_
  refine wp_getr (gB G + 1) dX10_highest_1 fX10_10 (ka0 hF) (hF.2 _ _) (rra 1 (isK_le (ka0 hF)) (fun _ => rfl)) ?_
  refine wp_iload_n dX10_highest_4 rfl ?_
  refine wp_callV (As := [.int x]) (S := []) (b' := (0, 0)) (b := (0, 0)) dX10_highest_5 MX10_58 (kc0 hF (isC1 G)) rfl rfl rfl rfl (Nat.le_of_ble_eq_true rfl) ?_
  refine WPM.of pX0 (Nat.le_of_ble_eq_true rfl) rfl ?_
  refine wp_iload_n dX0_hasNode_0 rfl ?_
  refine wp_if_lt 16 dX0_hasNode_1 (by decide) (fun q => absurd q hx) (fun _ => ?_)
  refine wp_iload_n dX0_hasNode_4 rfl ?_
  refine wp_aload_n dX0_hasNode_5 rfl ?_
  refine wp_geti (nI n) dX0_hasNode_6 fX0_75 (Or.inl rfl) (kc0 hF (isC1 G)) hn ?_
  refine wp_icmp_ge 16 dX0_hasNode_9 (by decide) (fun _ => ?_) (fun q => absurd q hy)
  refine wp_iconst (0 : Int32) dX0_hasNode_16 (by decide) ?_
  refine wp_zret dX0_hasNode_17 rfl rfl ?_
  show WP G (d + 2) (0, 0) μX10_highest 8 [.ref (gB G), .int x] [.int (0 : Int32)] m _
  refine wp_if_eq 26 dX10_highest_8 (by decide) (fun _ => ?_) (fun q => absurd (by decide) q)
  refine wp_ldc dX10_highest_26 kX10_62 ?_
  exact wp_iret dX10_highest_28 rfl (e1)

theorem iC_violations {G : Cx} {d : Nat} {m : Mm} {Q : Option Value → Mm → Prop} {i n : Nat}  (hF : Full G m) (hn : fi m 5 (gB G + 1) = nI (n + 1)) (hm : n + 1 ≤ 12) (hi : i < n + 1) 
    (e1 : Q (some (.int (fi m 409 (nd (gB G + 1) i)))) m) :
    WPM G (d + 2) (0, 0) μX10_violations [.ref (gB G), .int (nI i)] m Q := by
  refine WPM.of pX10 (Nat.le_of_ble_eq_true rfl) rfl ?_
  refine wp_aload_n dX10_violations_0 rfl ?_
  refine wp_getr (gB G + 1) dX10_violations_1 fX10_10 (ka0 hF) (hF.2 _ _) (rra 1 (isK_le (ka0 hF)) (fun _ => rfl)) ?_
  refine wp_iload_n dX10_violations_4 rfl ?_
  refine wp_callV (As := [.int (nI i)]) (S := []) (b' := (0, 0)) (b := (0, 0)) dX10_violations_5 MX10_58 (kc0 hF (isC1 G)) rfl rfl rfl rfl (Nat.le_of_ble_eq_true rfl) ?_
  refine WPM.of pX0 (Nat.le_of_ble_eq_true rfl) rfl ?_
  refine wp_iload_n dX0_hasNode_0 rfl ?_
  refine wp_if_lt 16 dX0_hasNode_1 (by decide) (fun q => absurd q (nI_pos (by omega))) (fun _ => ?_)
  refine wp_iload_n dX0_hasNode_4 rfl ?_
  refine wp_aload_n dX0_hasNode_5 rfl ?_
  refine wp_geti (nI (n + 1)) dX0_hasNode_6 fX0_75 (Or.inl rfl) (kc0 hF (isC1 G)) hn ?_
  refine wp_icmp_ge 16 dX0_hasNode_9 (by decide) (fun q => absurd (nlt_ (a := i) (b := n + 1) hi (by omega)) q) (fun _ => ?_)
  refine wp_iconst (1 : Int32) dX0_hasNode_12 (by decide) ?_
  refine wp_goto 17 dX0_hasNode_13 (by decide) ?_
  refine wp_zret dX0_hasNode_17 rfl rfl ?_
  show WP G (d + 2) (0, 0) μX10_violations 8 [.ref (gB G), .int (nI i)] [.int (1 : Int32)] m _
  refine wp_if_eq 26 dX10_violations_8 (by decide) (fun q => absurd q (by decide)) (fun _ => ?_)
  refine wp_aload_n dX10_violations_11 rfl ?_
  refine wp_getr (gB G + 1) dX10_violations_12 fX10_10 (ka0 hF) (hF.2 _ _) (rra 1 (isK_le (ka0 hF)) (fun _ => rfl)) ?_
  refine wp_getr ((gB G + 1) + 1) dX10_violations_15 fX10_48 (kc0 hF (isC1 G)) (hF.2 _ _) (rra 1 (isK_le (kc0 hF (isC1 G))) (fun _ => rfl)) ?_
  refine wp_iload_n dX10_violations_18 rfl ?_
  refine wp_raldk (n := 12) i (nd (gB G + 1) i) dX10_violations_19 (kc hF (isC1 G) 1 (by decide)) (by decide) (by decide) (lc (isC1 G) 1 (by decide)) (vin (by omega) (by decide)) (nIc (by omega)) (hF.2 _ _) (rnd hF (isC1 G)) ?_
  refine wp_geti (fi m 409 (nd (gB G + 1) i)) dX10_violations_20 fX10_234 (Or.inl rfl) (knd hF (isC1 G) (by omega)) rfl ?_
  refine wp_goto 28 dX10_violations_23 (by decide) ?_
  exact wp_iret dX10_violations_28 rfl (e1)

theorem aC_violations {G : Cx} {d : Nat} {m : Mm} {Q : Option Value → Mm → Prop} {x : Int32} {n : Nat}  (hF : Full G m) (hn : fi m 5 (gB G + 1) = nI n) (hm : n ≤ 12) (hx : x < 0) 
    (e1 : Q (some (.int (-1000000001 : Int32))) m) :
    WPM G (d + 2) (0, 0) μX10_violations [.ref (gB G), .int x] m Q := by
  refine WPM.of pX10 (Nat.le_of_ble_eq_true rfl) rfl ?_
  refine wp_aload_n dX10_violations_0 rfl ?_
  refine wp_getr (gB G + 1) dX10_violations_1 fX10_10 (ka0 hF) (hF.2 _ _) (rra 1 (isK_le (ka0 hF)) (fun _ => rfl)) ?_
  refine wp_iload_n dX10_violations_4 rfl ?_
  refine wp_callV (As := [.int x]) (S := []) (b' := (0, 0)) (b := (0, 0)) dX10_violations_5 MX10_58 (kc0 hF (isC1 G)) rfl rfl rfl rfl (Nat.le_of_ble_eq_true rfl) ?_
  refine WPM.of pX0 (Nat.le_of_ble_eq_true rfl) rfl ?_
  refine wp_iload_n dX0_hasNode_0 rfl ?_
  refine wp_if_lt 16 dX0_hasNode_1 (by decide) (fun _ => ?_) (fun q => absurd hx q)
  refine wp_iconst (0 : Int32) dX0_hasNode_16 (by decide) ?_
  refine wp_zret dX0_hasNode_17 rfl rfl ?_
  show WP G (d + 2) (0, 0) μX10_violations 8 [.ref (gB G), .int x] [.int (0 : Int32)] m _
  refine wp_if_eq 26 dX10_violations_8 (by decide) (fun _ => ?_) (fun q => absurd (by decide) q)
  refine wp_ldc dX10_violations_26 kX10_62 ?_
  exact wp_iret dX10_violations_28 rfl (e1)

theorem bC_violations {G : Cx} {d : Nat} {m : Mm} {Q : Option Value → Mm → Prop} {x : Int32} {n : Nat}  (hF : Full G m) (hn : fi m 5 (gB G + 1) = nI n) (hm : n ≤ 12) (hx : ¬ x < 0) (hy : ¬ x < nI n) 
    (e1 : Q (some (.int (-1000000001 : Int32))) m) :
    WPM G (d + 2) (0, 0) μX10_violations [.ref (gB G), .int x] m Q := by
  refine WPM.of pX10 (Nat.le_of_ble_eq_true rfl) rfl ?_
  refine wp_aload_n dX10_violations_0 rfl ?_
  refine wp_getr (gB G + 1) dX10_violations_1 fX10_10 (ka0 hF) (hF.2 _ _) (rra 1 (isK_le (ka0 hF)) (fun _ => rfl)) ?_
  refine wp_iload_n dX10_violations_4 rfl ?_
  refine wp_callV (As := [.int x]) (S := []) (b' := (0, 0)) (b := (0, 0)) dX10_violations_5 MX10_58 (kc0 hF (isC1 G)) rfl rfl rfl rfl (Nat.le_of_ble_eq_true rfl) ?_
  refine WPM.of pX0 (Nat.le_of_ble_eq_true rfl) rfl ?_
  refine wp_iload_n dX0_hasNode_0 rfl ?_
  refine wp_if_lt 16 dX0_hasNode_1 (by decide) (fun q => absurd q hx) (fun _ => ?_)
  refine wp_iload_n dX0_hasNode_4 rfl ?_
  refine wp_aload_n dX0_hasNode_5 rfl ?_
  refine wp_geti (nI n) dX0_hasNode_6 fX0_75 (Or.inl rfl) (kc0 hF (isC1 G)) hn ?_
  refine wp_icmp_ge 16 dX0_hasNode_9 (by decide) (fun _ => ?_) (fun q => absurd q hy)
  refine wp_iconst (0 : Int32) dX0_hasNode_16 (by decide) ?_
  refine wp_zret dX0_hasNode_17 rfl rfl ?_
  show WP G (d + 2) (0, 0) μX10_violations 8 [.ref (gB G), .int x] [.int (0 : Int32)] m _
  refine wp_if_eq 26 dX10_violations_8 (by decide) (fun _ => ?_) (fun q => absurd (by decide) q)
  refine wp_ldc dX10_violations_26 kX10_62 ?_
  exact wp_iret dX10_violations_28 rfl (e1)

theorem iC_firstViolation {G : Cx} {d : Nat} {m : Mm} {Q : Option Value → Mm → Prop} {i n : Nat}  (hF : Full G m) (hn : fi m 5 (gB G + 1) = nI (n + 1)) (hm : n + 1 ≤ 12) (hi : i < n + 1) 
    (e1 : Q (some (.int (fi m 410 (nd (gB G + 1) i)))) m) :
    WPM G (d + 2) (0, 0) μX10_firstViolation [.ref (gB G), .int (nI i)] m Q := by
  refine WPM.of pX10 (Nat.le_of_ble_eq_true rfl) rfl ?_
  refine wp_aload_n dX10_firstViolation_0 rfl ?_
  refine wp_getr (gB G + 1) dX10_firstViolation_1 fX10_10 (ka0 hF) (hF.2 _ _) (rra 1 (isK_le (ka0 hF)) (fun _ => rfl)) ?_
  refine wp_iload_n dX10_firstViolation_4 rfl ?_
  refine wp_callV (As := [.int (nI i)]) (S := []) (b' := (0, 0)) (b := (0, 0)) dX10_firstViolation_5 MX10_58 (kc0 hF (isC1 G)) rfl rfl rfl rfl (Nat.le_of_ble_eq_true rfl) ?_
  refine WPM.of pX0 (Nat.le_of_ble_eq_true rfl) rfl ?_
  refine wp_iload_n dX0_hasNode_0 rfl ?_
  refine wp_if_lt 16 dX0_hasNode_1 (by decide) (fun q => absurd q (nI_pos (by omega))) (fun _ => ?_)
  refine wp_iload_n dX0_hasNode_4 rfl ?_
  refine wp_aload_n dX0_hasNode_5 rfl ?_
  refine wp_geti (nI (n + 1)) dX0_hasNode_6 fX0_75 (Or.inl rfl) (kc0 hF (isC1 G)) hn ?_
  refine wp_icmp_ge 16 dX0_hasNode_9 (by decide) (fun q => absurd (nlt_ (a := i) (b := n + 1) hi (by omega)) q) (fun _ => ?_)
  refine wp_iconst (1 : Int32) dX0_hasNode_12 (by decide) ?_
  refine wp_goto 17 dX0_hasNode_13 (by decide) ?_
  refine wp_zret dX0_hasNode_17 rfl rfl ?_
  show WP G (d + 2) (0, 0) μX10_firstViolation 8 [.ref (gB G), .int (nI i)] [.int (1 : Int32)] m _
  refine wp_if_eq 26 dX10_firstViolation_8 (by decide) (fun q => absurd q (by decide)) (fun _ => ?_)
  refine wp_aload_n dX10_firstViolation_11 rfl ?_
  refine wp_getr (gB G + 1) dX10_firstViolation_12 fX10_10 (ka0 hF) (hF.2 _ _) (rra 1 (isK_le (ka0 hF)) (fun _ => rfl)) ?_
  refine wp_getr ((gB G + 1) + 1) dX10_firstViolation_15 fX10_48 (kc0 hF (isC1 G)) (hF.2 _ _) (rra 1 (isK_le (kc0 hF (isC1 G))) (fun _ => rfl)) ?_
  refine wp_iload_n dX10_firstViolation_18 rfl ?_
  refine wp_raldk (n := 12) i (nd (gB G + 1) i) dX10_firstViolation_19 (kc hF (isC1 G) 1 (by decide)) (by decide) (by decide) (lc (isC1 G) 1 (by decide)) (vin (by omega) (by decide)) (nIc (by omega)) (hF.2 _ _) (rnd hF (isC1 G)) ?_
  refine wp_geti (fi m 410 (nd (gB G + 1) i)) dX10_firstViolation_20 fX10_237 (Or.inl rfl) (knd hF (isC1 G) (by omega)) rfl ?_
  refine wp_goto 28 dX10_firstViolation_23 (by decide) ?_
  exact wp_iret dX10_firstViolation_28 rfl (e1)

theorem aC_firstViolation {G : Cx} {d : Nat} {m : Mm} {Q : Option Value → Mm → Prop} {x : Int32} {n : Nat}  (hF : Full G m) (hn : fi m 5 (gB G + 1) = nI n) (hm : n ≤ 12) (hx : x < 0) 
    (e1 : Q (some (.int (-1000000001 : Int32))) m) :
    WPM G (d + 2) (0, 0) μX10_firstViolation [.ref (gB G), .int x] m Q := by
  refine WPM.of pX10 (Nat.le_of_ble_eq_true rfl) rfl ?_
  refine wp_aload_n dX10_firstViolation_0 rfl ?_
  refine wp_getr (gB G + 1) dX10_firstViolation_1 fX10_10 (ka0 hF) (hF.2 _ _) (rra 1 (isK_le (ka0 hF)) (fun _ => rfl)) ?_
  refine wp_iload_n dX10_firstViolation_4 rfl ?_
  refine wp_callV (As := [.int x]) (S := []) (b' := (0, 0)) (b := (0, 0)) dX10_firstViolation_5 MX10_58 (kc0 hF (isC1 G)) rfl rfl rfl rfl (Nat.le_of_ble_eq_true rfl) ?_
  refine WPM.of pX0 (Nat.le_of_ble_eq_true rfl) rfl ?_
  refine wp_iload_n dX0_hasNode_0 rfl ?_
  refine wp_if_lt 16 dX0_hasNode_1 (by decide) (fun _ => ?_) (fun q => absurd hx q)
  refine wp_iconst (0 : Int32) dX0_hasNode_16 (by decide) ?_
  refine wp_zret dX0_hasNode_17 rfl rfl ?_
  show WP G (d + 2) (0, 0) μX10_firstViolation 8 [.ref (gB G), .int x] [.int (0 : Int32)] m _
  refine wp_if_eq 26 dX10_firstViolation_8 (by decide) (fun _ => ?_) (fun q => absurd (by decide) q)
  refine wp_ldc dX10_firstViolation_26 kX10_62 ?_
  exact wp_iret dX10_firstViolation_28 rfl (e1)

theorem bC_firstViolation {G : Cx} {d : Nat} {m : Mm} {Q : Option Value → Mm → Prop} {x : Int32} {n : Nat}  (hF : Full G m) (hn : fi m 5 (gB G + 1) = nI n) (hm : n ≤ 12) (hx : ¬ x < 0) (hy : ¬ x < nI n) 
    (e1 : Q (some (.int (-1000000001 : Int32))) m) :
    WPM G (d + 2) (0, 0) μX10_firstViolation [.ref (gB G), .int x] m Q := by
  refine WPM.of pX10 (Nat.le_of_ble_eq_true rfl) rfl ?_
  refine wp_aload_n dX10_firstViolation_0 rfl ?_
  refine wp_getr (gB G + 1) dX10_firstViolation_1 fX10_10 (ka0 hF) (hF.2 _ _) (rra 1 (isK_le (ka0 hF)) (fun _ => rfl)) ?_
  refine wp_iload_n dX10_firstViolation_4 rfl ?_
  refine wp_callV (As := [.int x]) (S := []) (b' := (0, 0)) (b := (0, 0)) dX10_firstViolation_5 MX10_58 (kc0 hF (isC1 G)) rfl rfl rfl rfl (Nat.le_of_ble_eq_true rfl) ?_
  refine WPM.of pX0 (Nat.le_of_ble_eq_true rfl) rfl ?_
  refine wp_iload_n dX0_hasNode_0 rfl ?_
  refine wp_if_lt 16 dX0_hasNode_1 (by decide) (fun q => absurd q hx) (fun _ => ?_)
  refine wp_iload_n dX0_hasNode_4 rfl ?_
  refine wp_aload_n dX0_hasNode_5 rfl ?_
  refine wp_geti (nI n) dX0_hasNode_6 fX0_75 (Or.inl rfl) (kc0 hF (isC1 G)) hn ?_
  refine wp_icmp_ge 16 dX0_hasNode_9 (by decide) (fun _ => ?_) (fun q => absurd q hy)
  refine wp_iconst (0 : Int32) dX0_hasNode_16 (by decide) ?_
  refine wp_zret dX0_hasNode_17 rfl rfl ?_
  show WP G (d + 2) (0, 0) μX10_firstViolation 8 [.ref (gB G), .int x] [.int (0 : Int32)] m _
  refine wp_if_eq 26 dX10_firstViolation_8 (by decide) (fun _ => ?_) (fun q => absurd (by decide) q)
  refine wp_ldc dX10_firstViolation_26 kX10_62 ?_
  exact wp_iret dX10_firstViolation_28 rfl (e1)

theorem iC_setLimits {G : Cx} {d : Nat} {m : Mm} {Q : Option Value → Mm → Prop} {y z : Int32} {i n : Nat}  (hF : Full G m) (hn : fi m 5 (gB G + 1) = nI (n + 1)) (hm : n + 1 ≤ 12) (hi : i < n + 1) 
    (e1 : z < (-200000 : Int32) → Q (some (.int (-1000000002 : Int32))) m)
    (e2 : ¬ z < (-200000 : Int32) → (200000 : Int32) < z → Q (some (.int (-1000000002 : Int32))) m)
    (e3 : ¬ z < (-200000 : Int32) → ¬ (200000 : Int32) < z → y < (-200000 : Int32) → Q (some (.int (-1000000002 : Int32))) m)
    (e4 : ¬ z < (-200000 : Int32) → ¬ (200000 : Int32) < z → ¬ y < (-200000 : Int32) → z < y → Q (some (.int (-1000000002 : Int32))) m)
    (e5 : ¬ z < (-200000 : Int32) → ¬ (200000 : Int32) < z → ¬ y < (-200000 : Int32) → ¬ z < y → Q (some (.int (0 : Int32))) (wfi (wfi m 405 (nd (gB G + 1) i) y) 406 (nd (gB G + 1) i) z)) :
    WPM G (d + 2) (0, 0) μX10_setLimits [.ref (gB G), .int (nI i), .int y, .int z] m Q := by
  refine WPM.of pX10 (Nat.le_of_ble_eq_true rfl) rfl ?_
  refine wp_aload_n dX10_setLimits_0 rfl ?_
  refine wp_getr (gB G + 1) dX10_setLimits_1 fX10_10 (ka0 hF) (hF.2 _ _) (rra 1 (isK_le (ka0 hF)) (fun _ => rfl)) ?_
  refine wp_iload_n dX10_setLimits_4 rfl ?_
  refine wp_callV (As := [.int (nI i)]) (S := []) (b' := (0, 0)) (b := (0, 0)) dX10_setLimits_5 MX10_58 (kc0 hF (isC1 G)) rfl rfl rfl rfl (Nat.le_of_ble_eq_true rfl) ?_
  refine WPM.of pX0 (Nat.le_of_ble_eq_true rfl) rfl ?_
  refine wp_iload_n dX0_hasNode_0 rfl ?_
  refine wp_if_lt 16 dX0_hasNode_1 (by decide) (fun q => absurd q (nI_pos (by omega))) (fun _ => ?_)
  refine wp_iload_n dX0_hasNode_4 rfl ?_
  refine wp_aload_n dX0_hasNode_5 rfl ?_
  refine wp_geti (nI (n + 1)) dX0_hasNode_6 fX0_75 (Or.inl rfl) (kc0 hF (isC1 G)) hn ?_
  refine wp_icmp_ge 16 dX0_hasNode_9 (by decide) (fun q => absurd (nlt_ (a := i) (b := n + 1) hi (by omega)) q) (fun _ => ?_)
  refine wp_iconst (1 : Int32) dX0_hasNode_12 (by decide) ?_
  refine wp_goto 17 dX0_hasNode_13 (by decide) ?_
  refine wp_zret dX0_hasNode_17 rfl rfl ?_
  show WP G (d + 2) (0, 0) μX10_setLimits 8 [.ref (gB G), .int (nI i), .int y, .int z] [.int (1 : Int32)] m _
  refine wp_if_ne 14 dX10_setLimits_8 (by decide) (fun _ => ?_) (fun q => absurd q (by decide))
  refine wp_iload_n dX10_setLimits_14 rfl ?_
  refine wp_ldc dX10_setLimits_15 kX10_39 ?_
  refine wp_ldc dX10_setLimits_17 kX10_40 ?_
  refine wp_callS (As := [.int z, .int (-200000 : Int32), .int (200000 : Int32)]) (S := []) (b' := (0, 0)) (b := (0, 0)) dX10_setLimits_19 MX10_35 rfl rfl (Nat.le_of_ble_eq_true rfl) ?_
  refine WPM.of pX10 (Nat.le_of_ble_eq_true rfl) rfl ?_
  refine wp_iload_n dX10_within_0 rfl ?_
  refine wp_iload_n dX10_within_1 rfl ?_
  refine wp_icmp_lt 14 dX10_within_2 (by decide) (fun q1 => ?_) (fun q2 => ?_)
  · skip
    refine wp_iconst (0 : Int32) dX10_within_14 (by decide) ?_
    refine wp_zret dX10_within_15 rfl rfl ?_
    show WP G (d + 2) (0, 0) μX10_setLimits 22 [.ref (gB G), .int (nI i), .int y, .int z] [.int (0 : Int32)] m _
    refine wp_if_eq 35 dX10_setLimits_22 (by decide) (fun _ => ?_) (fun q => absurd (by decide) q)
    refine wp_ldc dX10_setLimits_35 kX10_42 ?_
    exact wp_iret dX10_setLimits_37 rfl (e1 q1)
  · skip
    refine wp_iload_n dX10_within_5 rfl ?_
    refine wp_iload_n dX10_within_6 rfl ?_
    refine wp_icmp_gt 14 dX10_within_7 (by decide) (fun q3 => ?_) (fun q4 => ?_)
    · skip
      refine wp_iconst (0 : Int32) dX10_within_14 (by decide) ?_
      refine wp_zret dX10_within_15 rfl rfl ?_
      show WP G (d + 2) (0, 0) μX10_setLimits 22 [.ref (gB G), .int (nI i), .int y, .int z] [.int (0 : Int32)] m _
      refine wp_if_eq 35 dX10_setLimits_22 (by decide) (fun _ => ?_) (fun q => absurd (by decide) q)
      refine wp_ldc dX10_setLimits_35 kX10_42 ?_
      exact wp_iret dX10_setLimits_37 rfl (e2 q2 q3)
    · skip
      refine wp_iconst (1 : Int32) dX10_within_10 (by decide) ?_
      refine wp_goto 15 dX10_within_11 (by decide) ?_
      refine wp_zret dX10_within_15 rfl rfl ?_
      show WP G (d + 2) (0, 0) μX10_setLimits 22 [.ref (gB G), .int (nI i), .int y, .int z] [.int (1 : Int32)] m _
      refine wp_if_eq 35 dX10_setLimits_22 (by decide) (fun q => absurd q (by decide)) (fun _ => ?_)
      refine wp_iload_n dX10_setLimits_25 rfl ?_
      refine wp_ldc dX10_setLimits_26 kX10_39 ?_
      refine wp_iload_n dX10_setLimits_28 rfl ?_
      refine wp_callS (As := [.int y, .int (-200000 : Int32), .int z]) (S := []) (b' := (0, 0)) (b := (0, 0)) dX10_setLimits_29 MX10_35 rfl rfl (Nat.le_of_ble_eq_true rfl) ?_
      refine WPM.of pX10 (Nat.le_of_ble_eq_true rfl) rfl ?_
      refine wp_iload_n dX10_within_0 rfl ?_
      refine wp_iload_n dX10_within_1 rfl ?_
      refine wp_icmp_lt 14 dX10_within_2 (by decide) (fun q5 => ?_) (fun q6 => ?_)
      · skip
        refine wp_iconst (0 : Int32) dX10_within_14 (by decide) ?_
        refine wp_zret dX10_within_15 rfl rfl ?_
        show WP G (d + 2) (0, 0) μX10_setLimits 32 [.ref (gB G), .int (nI i), .int y, .int z] [.int (0 : Int32)] m _
        refine wp_if_ne 38 dX10_setLimits_32 (by decide) (fun q => absurd (by decide) q) (fun _ => ?_)
        refine wp_ldc dX10_setLimits_35 kX10_42 ?_
        exact wp_iret dX10_setLimits_37 rfl (e3 q2 q4 q5)
      · skip
        refine wp_iload_n dX10_within_5 rfl ?_
        refine wp_iload_n dX10_within_6 rfl ?_
        refine wp_icmp_gt 14 dX10_within_7 (by decide) (fun q7 => ?_) (fun q8 => ?_)
        · skip
          refine wp_iconst (0 : Int32) dX10_within_14 (by decide) ?_
          refine wp_zret dX10_within_15 rfl rfl ?_
          show WP G (d + 2) (0, 0) μX10_setLimits 32 [.ref (gB G), .int (nI i), .int y, .int z] [.int (0 : Int32)] m _
          refine wp_if_ne 38 dX10_setLimits_32 (by decide) (fun q => absurd (by decide) q) (fun _ => ?_)
          refine wp_ldc dX10_setLimits_35 kX10_42 ?_
          exact wp_iret dX10_setLimits_37 rfl (e4 q2 q4 q6 q7)
        · skip
          refine wp_iconst (1 : Int32) dX10_within_10 (by decide) ?_
          refine wp_goto 15 dX10_within_11 (by decide) ?_
          refine wp_zret dX10_within_15 rfl rfl ?_
          show WP G (d + 2) (0, 0) μX10_setLimits 32 [.ref (gB G), .int (nI i), .int y, .int z] [.int (1 : Int32)] m _
          refine wp_if_ne 38 dX10_setLimits_32 (by decide) (fun _ => ?_) (fun q => absurd q (by decide))
          refine wp_aload_n dX10_setLimits_38 rfl ?_
          refine wp_getr (gB G + 1) dX10_setLimits_39 fX10_10 (ka0 hF) (hF.2 _ _) (rra 1 (isK_le (ka0 hF)) (fun _ => rfl)) ?_
          refine wp_getr ((gB G + 1) + 1) dX10_setLimits_42 fX10_48 (kc0 hF (isC1 G)) (hF.2 _ _) (rra 1 (isK_le (kc0 hF (isC1 G))) (fun _ => rfl)) ?_
          refine wp_iload_n dX10_setLimits_45 rfl ?_
          refine wp_raldk (n := 12) i (nd (gB G + 1) i) dX10_setLimits_46 (kc hF (isC1 G) 1 (by decide)) (by decide) (by decide) (lc (isC1 G) 1 (by decide)) (vin (by omega) (by decide)) (nIc (by omega)) (hF.2 _ _) (rnd hF (isC1 G)) ?_
          refine wp_iload_n dX10_setLimits_47 rfl ?_
          refine wp_puti dX10_setLimits_48 pX10_63 (knd hF (isC1 G) (by omega)) ?_
          have hF9 := Full_wfi 405 (nd (gB G + 1) i) y hF
          refine wp_aload_n dX10_setLimits_51 rfl ?_
          refine wp_getr (gB G + 1) dX10_setLimits_52 fX10_10 (ka0 hF9) (hF9.2 _ _) (rra 1 (isK_le (ka0 hF9)) (fun _ => rfl)) ?_
          refine wp_getr ((gB G + 1) + 1) dX10_setLimits_55 fX10_48 (kc0 hF9 (isC1 G)) (hF9.2 _ _) (rra 1 (isK_le (kc0 hF9 (isC1 G))) (fun _ => rfl)) ?_
          refine wp_iload_n dX10_setLimits_58 rfl ?_
          refine wp_raldk (n := 12) i (nd (gB G + 1) i) dX10_setLimits_59 (kc hF9 (isC1 G) 1 (by decide)) (by decide) (by decide) (lc (isC1 G) 1 (by decide)) (vin (by omega) (by decide)) (nIc (by omega)) (hF9.2 _ _) (rnd hF9 (isC1 G)) ?_
          refine wp_iload_n dX10_setLimits_60 rfl ?_
          refine wp_puti dX10_setLimits_61 pX10_66 (knd hF9 (isC1 G) (by omega)) ?_
          have hF10 := Full_wfi 406 (nd (gB G + 1) i) z hF9
          refine wp_iconst (0 : Int32) dX10_setLimits_64 (by decide) ?_
          exact wp_iret dX10_setLimits_65 rfl (e5 q2 q4 q6 q8)

theorem aC_setLimits {G : Cx} {d : Nat} {m : Mm} {Q : Option Value → Mm → Prop} {x y z : Int32} {n : Nat}  (hF : Full G m) (hn : fi m 5 (gB G + 1) = nI n) (hm : n ≤ 12) (hx : x < 0) 
    (e1 : Q (some (.int (-1000000001 : Int32))) m) :
    WPM G (d + 2) (0, 0) μX10_setLimits [.ref (gB G), .int x, .int y, .int z] m Q := by
  refine WPM.of pX10 (Nat.le_of_ble_eq_true rfl) rfl ?_
  refine wp_aload_n dX10_setLimits_0 rfl ?_
  refine wp_getr (gB G + 1) dX10_setLimits_1 fX10_10 (ka0 hF) (hF.2 _ _) (rra 1 (isK_le (ka0 hF)) (fun _ => rfl)) ?_
  refine wp_iload_n dX10_setLimits_4 rfl ?_
  refine wp_callV (As := [.int x]) (S := []) (b' := (0, 0)) (b := (0, 0)) dX10_setLimits_5 MX10_58 (kc0 hF (isC1 G)) rfl rfl rfl rfl (Nat.le_of_ble_eq_true rfl) ?_
  refine WPM.of pX0 (Nat.le_of_ble_eq_true rfl) rfl ?_
  refine wp_iload_n dX0_hasNode_0 rfl ?_
  refine wp_if_lt 16 dX0_hasNode_1 (by decide) (fun _ => ?_) (fun q => absurd hx q)
  refine wp_iconst (0 : Int32) dX0_hasNode_16 (by decide) ?_
  refine wp_zret dX0_hasNode_17 rfl rfl ?_
  show WP G (d + 2) (0, 0) μX10_setLimits 8 [.ref (gB G), .int x, .int y, .int z] [.int (0 : Int32)] m _
  refine wp_if_ne 14 dX10_setLimits_8 (by decide) (fun q => absurd (by decide) q) (fun _ => ?_)
  refine wp_ldc dX10_setLimits_11 kX10_62 ?_
  exact wp_iret dX10_setLimits_13 rfl (e1)

theorem bC_setLimits {G : Cx} {d : Nat} {m : Mm} {Q : Option Value → Mm → Prop} {x y z : Int32} {n : Nat}  (hF : Full G m) (hn : fi m 5 (gB G + 1) = nI n) (hm : n ≤ 12) (hx : ¬ x < 0) (hy : ¬ x < nI n) 
    (e1 : Q (some (.int (-1000000001 : Int32))) m) :
    WPM G (d + 2) (0, 0) μX10_setLimits [.ref (gB G), .int x, .int y, .int z] m Q := by
  refine WPM.of pX10 (Nat.le_of_ble_eq_true rfl) rfl ?_
  refine wp_aload_n dX10_setLimits_0 rfl ?_
  refine wp_getr (gB G + 1) dX10_setLimits_1 fX10_10 (ka0 hF) (hF.2 _ _) (rra 1 (isK_le (ka0 hF)) (fun _ => rfl)) ?_
  refine wp_iload_n dX10_setLimits_4 rfl ?_
  refine wp_callV (As := [.int x]) (S := []) (b' := (0, 0)) (b := (0, 0)) dX10_setLimits_5 MX10_58 (kc0 hF (isC1 G)) rfl rfl rfl rfl (Nat.le_of_ble_eq_true rfl) ?_
  refine WPM.of pX0 (Nat.le_of_ble_eq_true rfl) rfl ?_
  refine wp_iload_n dX0_hasNode_0 rfl ?_
  refine wp_if_lt 16 dX0_hasNode_1 (by decide) (fun q => absurd q hx) (fun _ => ?_)
  refine wp_iload_n dX0_hasNode_4 rfl ?_
  refine wp_aload_n dX0_hasNode_5 rfl ?_
  refine wp_geti (nI n) dX0_hasNode_6 fX0_75 (Or.inl rfl) (kc0 hF (isC1 G)) hn ?_
  refine wp_icmp_ge 16 dX0_hasNode_9 (by decide) (fun _ => ?_) (fun q => absurd q hy)
  refine wp_iconst (0 : Int32) dX0_hasNode_16 (by decide) ?_
  refine wp_zret dX0_hasNode_17 rfl rfl ?_
  show WP G (d + 2) (0, 0) μX10_setLimits 8 [.ref (gB G), .int x, .int y, .int z] [.int (0 : Int32)] m _
  refine wp_if_ne 14 dX10_setLimits_8 (by decide) (fun q => absurd (by decide) q) (fun _ => ?_)
  refine wp_ldc dX10_setLimits_11 kX10_62 ?_
  exact wp_iret dX10_setLimits_13 rfl (e1)

theorem iC_addLouvre {G : Cx} {d : Nat} {m : Mm} {Q : Option Value → Mm → Prop} {y z w u : Int32} {i n : Nat} {q : Nat}  (hF : Full G m) (hn : fi m 5 (gB G + 1) = nI (n + 1)) (hm : n + 1 ≤ 12) (hi : i < n + 1) (hnl : fi m 7 (gB G + 1) = nI q) (hml : q ≤ 6) 
    (e1 : y < (0 : Int32) → Q (some (.int (-1000000002 : Int32))) m)
    (e2 : ¬ y < (0 : Int32) → (10000 : Int32) < y → Q (some (.int (-1000000002 : Int32))) m)
    (e3 : ¬ y < (0 : Int32) → ¬ (10000 : Int32) < y → z < (-200000 : Int32) → Q (some (.int (-1000000002 : Int32))) m)
    (e4 : ¬ y < (0 : Int32) → ¬ (10000 : Int32) < y → ¬ z < (-200000 : Int32) → (199999 : Int32) < z → Q (some (.int (-1000000002 : Int32))) m)
    (e5 : ¬ y < (0 : Int32) → ¬ (10000 : Int32) < y → ¬ z < (-200000 : Int32) → ¬ (199999 : Int32) < z → w < (z + (1 : Int32)) → Q (some (.int (-1000000002 : Int32))) m)
    (e6 : ¬ y < (0 : Int32) → ¬ (10000 : Int32) < y → ¬ z < (-200000 : Int32) → ¬ (199999 : Int32) < z → ¬ w < (z + (1 : Int32)) → (200000 : Int32) < w → Q (some (.int (-1000000002 : Int32))) m)
    (e7 : ¬ y < (0 : Int32) → ¬ (10000 : Int32) < y → ¬ z < (-200000 : Int32) → ¬ (199999 : Int32) < z → ¬ w < (z + (1 : Int32)) → ¬ (200000 : Int32) < w → u < (1 : Int32) → Q (some (.int (-1000000002 : Int32))) m)
    (e8 : ¬ y < (0 : Int32) → ¬ (10000 : Int32) < y → ¬ z < (-200000 : Int32) → ¬ (199999 : Int32) < z → ¬ w < (z + (1 : Int32)) → ¬ (200000 : Int32) < w → ¬ u < (1 : Int32) → (1000 : Int32) < u → Q (some (.int (-1000000002 : Int32))) m)
    (e9 : ¬ y < (0 : Int32) → ¬ (10000 : Int32) < y → ¬ z < (-200000 : Int32) → ¬ (199999 : Int32) < z → ¬ w < (z + (1 : Int32)) → ¬ (200000 : Int32) < w → ¬ u < (1 : Int32) → ¬ (1000 : Int32) < u → q < 6 → Q (some (.int (nI q))) (wfi (wfi (wfi (wfi (wfi (wfi (wfi (wfi m 300 (lv (gB G + 1) q) (nI i)) 301 (lv (gB G + 1) q) y) 302 (lv (gB G + 1) q) z) 303 (lv (gB G + 1) q) w) 304 (lv (gB G + 1) q) u) 305 (lv (gB G + 1) q) (0 : Int32)) 306 (lv (gB G + 1) q) (0 : Int32)) 7 (gB G + 1) (nI (q + 1))))
    (e10 : ¬ y < (0 : Int32) → ¬ (10000 : Int32) < y → ¬ z < (-200000 : Int32) → ¬ (199999 : Int32) < z → ¬ w < (z + (1 : Int32)) → ¬ (200000 : Int32) < w → ¬ u < (1 : Int32) → ¬ (1000 : Int32) < u → ¬ q < 6 → Q (some (.int (-1000000003 : Int32))) m) :
    WPM G (d + 2) (0, 0) μX10_addLouvre [.ref (gB G), .int (nI i), .int y, .int z, .int w, .int u] m Q := by
  refine WPM.of pX10 (Nat.le_of_ble_eq_true rfl) rfl ?_
  refine wp_aload_n dX10_addLouvre_0 rfl ?_
  refine wp_getr (gB G + 1) dX10_addLouvre_1 fX10_10 (ka0 hF) (hF.2 _ _) (rra 1 (isK_le (ka0 hF)) (fun _ => rfl)) ?_
  refine wp_iload_n dX10_addLouvre_4 rfl ?_
  refine wp_callV (As := [.int (nI i)]) (S := []) (b' := (0, 0)) (b := (0, 0)) dX10_addLouvre_5 MX10_58 (kc0 hF (isC1 G)) rfl rfl rfl rfl (Nat.le_of_ble_eq_true rfl) ?_
  refine WPM.of pX0 (Nat.le_of_ble_eq_true rfl) rfl ?_
  refine wp_iload_n dX0_hasNode_0 rfl ?_
  refine wp_if_lt 16 dX0_hasNode_1 (by decide) (fun q => absurd q (nI_pos (by omega))) (fun _ => ?_)
  refine wp_iload_n dX0_hasNode_4 rfl ?_
  refine wp_aload_n dX0_hasNode_5 rfl ?_
  refine wp_geti (nI (n + 1)) dX0_hasNode_6 fX0_75 (Or.inl rfl) (kc0 hF (isC1 G)) hn ?_
  refine wp_icmp_ge 16 dX0_hasNode_9 (by decide) (fun q => absurd (nlt_ (a := i) (b := n + 1) hi (by omega)) q) (fun _ => ?_)
  refine wp_iconst (1 : Int32) dX0_hasNode_12 (by decide) ?_
  refine wp_goto 17 dX0_hasNode_13 (by decide) ?_
  refine wp_zret dX0_hasNode_17 rfl rfl ?_
  show WP G (d + 2) (0, 0) μX10_addLouvre 8 [.ref (gB G), .int (nI i), .int y, .int z, .int w, .int u, lvU] [.int (1 : Int32)] m _
  refine wp_if_ne 14 dX10_addLouvre_8 (by decide) (fun _ => ?_) (fun q => absurd q (by decide))
  refine wp_iload_n dX10_addLouvre_14 rfl ?_
  refine wp_iconst (0 : Int32) dX10_addLouvre_15 (by decide) ?_
  refine wp_sipush (10000 : Int32) dX10_addLouvre_16 (by decide) ?_
  refine wp_callS (As := [.int y, .int (0 : Int32), .int (10000 : Int32)]) (S := []) (b' := (0, 0)) (b := (0, 0)) dX10_addLouvre_19 MX10_35 rfl rfl (Nat.le_of_ble_eq_true rfl) ?_
  refine WPM.of pX10 (Nat.le_of_ble_eq_true rfl) rfl ?_
  refine wp_iload_n dX10_within_0 rfl ?_
  refine wp_iload_n dX10_within_1 rfl ?_
  refine wp_icmp_lt 14 dX10_within_2 (by decide) (fun q1 => ?_) (fun q2 => ?_)
  · skip
    refine wp_iconst (0 : Int32) dX10_within_14 (by decide) ?_
    refine wp_zret dX10_within_15 rfl rfl ?_
    show WP G (d + 2) (0, 0) μX10_addLouvre 22 [.ref (gB G), .int (nI i), .int y, .int z, .int w, .int u, lvU] [.int (0 : Int32)] m _
    refine wp_if_eq 61 dX10_addLouvre_22 (by decide) (fun _ => ?_) (fun q => absurd (by decide) q)
    refine wp_ldc dX10_addLouvre_61 kX10_42 ?_
    exact wp_iret dX10_addLouvre_63 rfl (e1 q1)
  · skip
    refine wp_iload_n dX10_within_5 rfl ?_
    refine wp_iload_n dX10_within_6 rfl ?_
    refine wp_icmp_gt 14 dX10_within_7 (by decide) (fun q3 => ?_) (fun q4 => ?_)
    · skip
      refine wp_iconst (0 : Int32) dX10_within_14 (by decide) ?_
      refine wp_zret dX10_within_15 rfl rfl ?_
      show WP G (d + 2) (0, 0) μX10_addLouvre 22 [.ref (gB G), .int (nI i), .int y, .int z, .int w, .int u, lvU] [.int (0 : Int32)] m _
      refine wp_if_eq 61 dX10_addLouvre_22 (by decide) (fun _ => ?_) (fun q => absurd (by decide) q)
      refine wp_ldc dX10_addLouvre_61 kX10_42 ?_
      exact wp_iret dX10_addLouvre_63 rfl (e2 q2 q3)
    · skip
      refine wp_iconst (1 : Int32) dX10_within_10 (by decide) ?_
      refine wp_goto 15 dX10_within_11 (by decide) ?_
      refine wp_zret dX10_within_15 rfl rfl ?_
      show WP G (d + 2) (0, 0) μX10_addLouvre 22 [.ref (gB G), .int (nI i), .int y, .int z, .int w, .int u, lvU] [.int (1 : Int32)] m _
      refine wp_if_eq 61 dX10_addLouvre_22 (by decide) (fun q => absurd q (by decide)) (fun _ => ?_)
      refine wp_iload_n dX10_addLouvre_25 rfl ?_
      refine wp_ldc dX10_addLouvre_26 kX10_39 ?_
      refine wp_ldc dX10_addLouvre_28 kX10_99 ?_
      refine wp_callS (As := [.int z, .int (-200000 : Int32), .int (199999 : Int32)]) (S := []) (b' := (0, 0)) (b := (0, 0)) dX10_addLouvre_30 MX10_35 rfl rfl (Nat.le_of_ble_eq_true rfl) ?_
      refine WPM.of pX10 (Nat.le_of_ble_eq_true rfl) rfl ?_
      refine wp_iload_n dX10_within_0 rfl ?_
      refine wp_iload_n dX10_within_1 rfl ?_
      refine wp_icmp_lt 14 dX10_within_2 (by decide) (fun q5 => ?_) (fun q6 => ?_)
      · skip
        refine wp_iconst (0 : Int32) dX10_within_14 (by decide) ?_
        refine wp_zret dX10_within_15 rfl rfl ?_
        show WP G (d + 2) (0, 0) μX10_addLouvre 33 [.ref (gB G), .int (nI i), .int y, .int z, .int w, .int u, lvU] [.int (0 : Int32)] m _
        refine wp_if_eq 61 dX10_addLouvre_33 (by decide) (fun _ => ?_) (fun q => absurd (by decide) q)
        refine wp_ldc dX10_addLouvre_61 kX10_42 ?_
        exact wp_iret dX10_addLouvre_63 rfl (e3 q2 q4 q5)
      · skip
        refine wp_iload_n dX10_within_5 rfl ?_
        refine wp_iload_n dX10_within_6 rfl ?_
        refine wp_icmp_gt 14 dX10_within_7 (by decide) (fun q7 => ?_) (fun q8 => ?_)
        · skip
          refine wp_iconst (0 : Int32) dX10_within_14 (by decide) ?_
          refine wp_zret dX10_within_15 rfl rfl ?_
          show WP G (d + 2) (0, 0) μX10_addLouvre 33 [.ref (gB G), .int (nI i), .int y, .int z, .int w, .int u, lvU] [.int (0 : Int32)] m _
          refine wp_if_eq 61 dX10_addLouvre_33 (by decide) (fun _ => ?_) (fun q => absurd (by decide) q)
          refine wp_ldc dX10_addLouvre_61 kX10_42 ?_
          exact wp_iret dX10_addLouvre_63 rfl (e4 q2 q4 q6 q7)
        · skip
          refine wp_iconst (1 : Int32) dX10_within_10 (by decide) ?_
          refine wp_goto 15 dX10_within_11 (by decide) ?_
          refine wp_zret dX10_within_15 rfl rfl ?_
          show WP G (d + 2) (0, 0) μX10_addLouvre 33 [.ref (gB G), .int (nI i), .int y, .int z, .int w, .int u, lvU] [.int (1 : Int32)] m _
          refine wp_if_eq 61 dX10_addLouvre_33 (by decide) (fun q => absurd q (by decide)) (fun _ => ?_)
          refine wp_iload dX10_addLouvre_36 rfl ?_
          refine wp_iload_n dX10_addLouvre_38 rfl ?_
          refine wp_iconst (1 : Int32) dX10_addLouvre_39 (by decide) ?_
          refine wp_iaddv (z + (1 : Int32)) dX10_addLouvre_40 rfl ?_
          refine wp_ldc dX10_addLouvre_41 kX10_40 ?_
          refine wp_callS (As := [.int w, .int (z + (1 : Int32)), .int (200000 : Int32)]) (S := []) (b' := (0, 0)) (b := (0, 0)) dX10_addLouvre_43 MX10_35 rfl rfl (Nat.le_of_ble_eq_true rfl) ?_
          refine WPM.of pX10 (Nat.le_of_ble_eq_true rfl) rfl ?_
          refine wp_iload_n dX10_within_0 rfl ?_
          refine wp_iload_n dX10_within_1 rfl ?_
          refine wp_icmp_lt 14 dX10_within_2 (by decide) (fun q9 => ?_) (fun q10 => ?_)
          · skip
            refine wp_iconst (0 : Int32) dX10_within_14 (by decide) ?_
            refine wp_zret dX10_within_15 rfl rfl ?_
            show WP G (d + 2) (0, 0) μX10_addLouvre 46 [.ref (gB G), .int (nI i), .int y, .int z, .int w, .int u, lvU] [.int (0 : Int32)] m _
            refine wp_if_eq 61 dX10_addLouvre_46 (by decide) (fun _ => ?_) (fun q => absurd (by decide) q)
            refine wp_ldc dX10_addLouvre_61 kX10_42 ?_
            exact wp_iret dX10_addLouvre_63 rfl (e5 q2 q4 q6 q8 q9)
          · skip
            refine wp_iload_n dX10_within_5 rfl ?_
            refine wp_iload_n dX10_within_6 rfl ?_
            refine wp_icmp_gt 14 dX10_within_7 (by decide) (fun q11 => ?_) (fun q12 => ?_)
            · skip
              refine wp_iconst (0 : Int32) dX10_within_14 (by decide) ?_
              refine wp_zret dX10_within_15 rfl rfl ?_
              show WP G (d + 2) (0, 0) μX10_addLouvre 46 [.ref (gB G), .int (nI i), .int y, .int z, .int w, .int u, lvU] [.int (0 : Int32)] m _
              refine wp_if_eq 61 dX10_addLouvre_46 (by decide) (fun _ => ?_) (fun q => absurd (by decide) q)
              refine wp_ldc dX10_addLouvre_61 kX10_42 ?_
              exact wp_iret dX10_addLouvre_63 rfl (e6 q2 q4 q6 q8 q10 q11)
            · skip
              refine wp_iconst (1 : Int32) dX10_within_10 (by decide) ?_
              refine wp_goto 15 dX10_within_11 (by decide) ?_
              refine wp_zret dX10_within_15 rfl rfl ?_
              show WP G (d + 2) (0, 0) μX10_addLouvre 46 [.ref (gB G), .int (nI i), .int y, .int z, .int w, .int u, lvU] [.int (1 : Int32)] m _
              refine wp_if_eq 61 dX10_addLouvre_46 (by decide) (fun q => absurd q (by decide)) (fun _ => ?_)
              refine wp_iload dX10_addLouvre_49 rfl ?_
              refine wp_iconst (1 : Int32) dX10_addLouvre_51 (by decide) ?_
              refine wp_sipush (1000 : Int32) dX10_addLouvre_52 (by decide) ?_
              refine wp_callS (As := [.int u, .int (1 : Int32), .int (1000 : Int32)]) (S := []) (b' := (0, 0)) (b := (0, 0)) dX10_addLouvre_55 MX10_35 rfl rfl (Nat.le_of_ble_eq_true rfl) ?_
              refine WPM.of pX10 (Nat.le_of_ble_eq_true rfl) rfl ?_
              refine wp_iload_n dX10_within_0 rfl ?_
              refine wp_iload_n dX10_within_1 rfl ?_
              refine wp_icmp_lt 14 dX10_within_2 (by decide) (fun q13 => ?_) (fun q14 => ?_)
              · skip
                refine wp_iconst (0 : Int32) dX10_within_14 (by decide) ?_
                refine wp_zret dX10_within_15 rfl rfl ?_
                show WP G (d + 2) (0, 0) μX10_addLouvre 58 [.ref (gB G), .int (nI i), .int y, .int z, .int w, .int u, lvU] [.int (0 : Int32)] m _
                refine wp_if_ne 64 dX10_addLouvre_58 (by decide) (fun q => absurd (by decide) q) (fun _ => ?_)
                refine wp_ldc dX10_addLouvre_61 kX10_42 ?_
                exact wp_iret dX10_addLouvre_63 rfl (e7 q2 q4 q6 q8 q10 q12 q13)
              · skip
                refine wp_iload_n dX10_within_5 rfl ?_
                refine wp_iload_n dX10_within_6 rfl ?_
                refine wp_icmp_gt 14 dX10_within_7 (by decide) (fun q15 => ?_) (fun q16 => ?_)
                · skip
                  refine wp_iconst (0 : Int32) dX10_within_14 (by decide) ?_
                  refine wp_zret dX10_within_15 rfl rfl ?_
                  show WP G (d + 2) (0, 0) μX10_addLouvre 58 [.ref (gB G), .int (nI i), .int y, .int z, .int w, .int u, lvU] [.int (0 : Int32)] m _
                  refine wp_if_ne 64 dX10_addLouvre_58 (by decide) (fun q => absurd (by decide) q) (fun _ => ?_)
                  refine wp_ldc dX10_addLouvre_61 kX10_42 ?_
                  exact wp_iret dX10_addLouvre_63 rfl (e8 q2 q4 q6 q8 q10 q12 q14 q15)
                · skip
                  refine wp_iconst (1 : Int32) dX10_within_10 (by decide) ?_
                  refine wp_goto 15 dX10_within_11 (by decide) ?_
                  refine wp_zret dX10_within_15 rfl rfl ?_
                  show WP G (d + 2) (0, 0) μX10_addLouvre 58 [.ref (gB G), .int (nI i), .int y, .int z, .int w, .int u, lvU] [.int (1 : Int32)] m _
                  refine wp_if_ne 64 dX10_addLouvre_58 (by decide) (fun _ => ?_) (fun q => absurd q (by decide))
                  refine wp_aload_n dX10_addLouvre_64 rfl ?_
                  refine wp_getr (gB G + 1) dX10_addLouvre_65 fX10_10 (ka0 hF) (hF.2 _ _) (rra 1 (isK_le (ka0 hF)) (fun _ => rfl)) ?_
                  refine wp_geti (nI q) dX10_addLouvre_68 fX10_100 (Or.inl rfl) (kc0 hF (isC1 G)) hnl ?_
                  refine wp_istore dX10_addLouvre_71 (by decide) rfl ?_
                  refine wp_iload dX10_addLouvre_73 rfl ?_
                  refine wp_bipush (6 : Int32) dX10_addLouvre_75 (by decide) ?_
                  refine wp_icmp_lt 83 dX10_addLouvre_77 (by decide) (fun q17 => ?_) (fun q18 => ?_)
                  · have hp19 : q < 6 := (nlt q17 (by omega) (by omega))
                    refine wp_aload_n dX10_addLouvre_83 rfl ?_
                    refine wp_getr (gB G + 1) dX10_addLouvre_84 fX10_10 (ka0 hF) (hF.2 _ _) (rra 1 (isK_le (ka0 hF)) (fun _ => rfl)) ?_
                    refine wp_getr ((gB G + 1) + 3) dX10_addLouvre_87 fX10_103 (kc0 hF (isC1 G)) (hF.2 _ _) (rra 3 (isK_le (kc0 hF (isC1 G))) (fun _ => rfl)) ?_
                    refine wp_iload dX10_addLouvre_90 rfl ?_
                    refine wp_raldk (n := 6) q (lv (gB G + 1) q) dX10_addLouvre_92 (kc hF (isC1 G) 3 (by decide)) (by decide) (by decide) (lc (isC1 G) 3 (by decide)) (vin (by omega) (by decide)) (nIc (by omega)) (hF.2 _ _) (rlv hF (isC1 G)) ?_
                    refine wp_iload_n dX10_addLouvre_93 rfl ?_
                    refine wp_iload_n dX10_addLouvre_94 rfl ?_
                    refine wp_iload_n dX10_addLouvre_95 rfl ?_
                    refine wp_iload dX10_addLouvre_96 rfl ?_
                    refine wp_iload dX10_addLouvre_98 rfl ?_
                    refine wp_callV (As := [.int (nI i), .int y, .int z, .int w, .int u]) (S := []) (b' := (0, 0)) (b := (0, 0)) dX10_addLouvre_100 MX10_107 (klv hF (isC1 G) (by omega)) rfl rfl rfl rfl (Nat.le_of_ble_eq_true rfl) ?_
                    refine WPM.of pX3 (Nat.le_of_ble_eq_true rfl) rfl ?_
                    refine wp_aload_n dX3_begin_0 rfl ?_
                    refine wp_iload_n dX3_begin_1 rfl ?_
                    refine wp_puti dX3_begin_2 pX3_7 (klv hF (isC1 G) (by omega)) ?_
                    have hF20 := Full_wfi 300 (lv (gB G + 1) q) (nI i) hF
                    refine wp_aload_n dX3_begin_5 rfl ?_
                    refine wp_iload_n dX3_begin_6 rfl ?_
                    refine wp_puti dX3_begin_7 pX3_13 (klv hF20 (isC1 G) (by omega)) ?_
                    have hF21 := Full_wfi 301 (lv (gB G + 1) q) y hF20
                    refine wp_aload_n dX3_begin_10 rfl ?_
                    refine wp_iload_n dX3_begin_11 rfl ?_
                    refine wp_puti dX3_begin_12 pX3_16 (klv hF21 (isC1 G) (by omega)) ?_
                    have hF22 := Full_wfi 302 (lv (gB G + 1) q) z hF21
                    refine wp_aload_n dX3_begin_15 rfl ?_
                    refine wp_iload dX3_begin_16 rfl ?_
                    refine wp_puti dX3_begin_18 pX3_19 (klv hF22 (isC1 G) (by omega)) ?_
                    have hF23 := Full_wfi 303 (lv (gB G + 1) q) w hF22
                    refine wp_aload_n dX3_begin_21 rfl ?_
                    refine wp_iload dX3_begin_22 rfl ?_
                    refine wp_puti dX3_begin_24 pX3_22 (klv hF23 (isC1 G) (by omega)) ?_
                    have hF24 := Full_wfi 304 (lv (gB G + 1) q) u hF23
                    refine wp_aload_n dX3_begin_27 rfl ?_
                    refine wp_iconst (0 : Int32) dX3_begin_28 (by decide) ?_
                    refine wp_puti dX3_begin_29 pX3_25 (klv hF24 (isC1 G) (by omega)) ?_
                    have hF25 := Full_wfi 305 (lv (gB G + 1) q) (0 : Int32) hF24
                    refine wp_aload_n dX3_begin_32 rfl ?_
                    refine wp_iconst (0 : Int32) dX3_begin_33 (by decide) ?_
                    refine wp_putz dX3_begin_34 pX3_28 (klv hF25 (isC1 G) (by omega)) (Or.inl rfl) ?_
                    have hF26 := Full_wfi 306 (lv (gB G + 1) q) (0 : Int32) hF25
                    refine wp_vret dX3_begin_37 rfl ?_
                    show WP G (d + 2) (0, 0) μX10_addLouvre 103 [.ref (gB G), .int (nI i), .int y, .int z, .int w, .int u, .int (nI q)] [] (wfi (wfi (wfi (wfi (wfi (wfi (wfi m 300 (lv (gB G + 1) q) (nI i)) 301 (lv (gB G + 1) q) y) 302 (lv (gB G + 1) q) z) 303 (lv (gB G + 1) q) w) 304 (lv (gB G + 1) q) u) 305 (lv (gB G + 1) q) (0 : Int32)) 306 (lv (gB G + 1) q) (0 : Int32)) _
                    refine wp_aload_n dX10_addLouvre_103 rfl ?_
                    refine wp_getr (gB G + 1) dX10_addLouvre_104 fX10_10 (ka0 hF26) (hF26.2 _ _) (rra 1 (isK_le (ka0 hF26)) (fun _ => rfl)) ?_
                    refine wp_iload dX10_addLouvre_107 rfl ?_
                    refine wp_iconst (1 : Int32) dX10_addLouvre_109 (by decide) ?_
                    refine wp_iaddv (nI (q + 1)) dX10_addLouvre_110 (nadd (a := q) (b := 1) (by omega)) ?_
                    refine wp_puti dX10_addLouvre_111 pX10_100 (kc0 hF26 (isC1 G)) ?_
                    have hF27 := Full_wfi 7 (gB G + 1) (nI (q + 1)) hF26
                    refine wp_iload dX10_addLouvre_114 rfl ?_
                    exact wp_iret dX10_addLouvre_116 rfl (e9 q2 q4 q6 q8 q10 q12 q14 q16 hp19)
                  · have hp28 : ¬ q < 6 := (fun z => q18 (nlt_ (b := 6) z (by omega)))
                    refine wp_ldc dX10_addLouvre_80 kX10_47 ?_
                    exact wp_iret dX10_addLouvre_82 rfl (e10 q2 q4 q6 q8 q10 q12 q14 q16 hp28)

theorem aC_addLouvre {G : Cx} {d : Nat} {m : Mm} {Q : Option Value → Mm → Prop} {x y z w u : Int32} {n : Nat}  (hF : Full G m) (hn : fi m 5 (gB G + 1) = nI n) (hm : n ≤ 12) (hx : x < 0) 
    (e1 : Q (some (.int (-1000000001 : Int32))) m) :
    WPM G (d + 2) (0, 0) μX10_addLouvre [.ref (gB G), .int x, .int y, .int z, .int w, .int u] m Q := by
  refine WPM.of pX10 (Nat.le_of_ble_eq_true rfl) rfl ?_
  refine wp_aload_n dX10_addLouvre_0 rfl ?_
  refine wp_getr (gB G + 1) dX10_addLouvre_1 fX10_10 (ka0 hF) (hF.2 _ _) (rra 1 (isK_le (ka0 hF)) (fun _ => rfl)) ?_
  refine wp_iload_n dX10_addLouvre_4 rfl ?_
  refine wp_callV (As := [.int x]) (S := []) (b' := (0, 0)) (b := (0, 0)) dX10_addLouvre_5 MX10_58 (kc0 hF (isC1 G)) rfl rfl rfl rfl (Nat.le_of_ble_eq_true rfl) ?_
  refine WPM.of pX0 (Nat.le_of_ble_eq_true rfl) rfl ?_
  refine wp_iload_n dX0_hasNode_0 rfl ?_
  refine wp_if_lt 16 dX0_hasNode_1 (by decide) (fun _ => ?_) (fun q => absurd hx q)
  refine wp_iconst (0 : Int32) dX0_hasNode_16 (by decide) ?_
  refine wp_zret dX0_hasNode_17 rfl rfl ?_
  show WP G (d + 2) (0, 0) μX10_addLouvre 8 [.ref (gB G), .int x, .int y, .int z, .int w, .int u, lvU] [.int (0 : Int32)] m _
  refine wp_if_ne 14 dX10_addLouvre_8 (by decide) (fun q => absurd (by decide) q) (fun _ => ?_)
  refine wp_ldc dX10_addLouvre_11 kX10_62 ?_
  exact wp_iret dX10_addLouvre_13 rfl (e1)

theorem bC_addLouvre {G : Cx} {d : Nat} {m : Mm} {Q : Option Value → Mm → Prop} {x y z w u : Int32} {n : Nat}  (hF : Full G m) (hn : fi m 5 (gB G + 1) = nI n) (hm : n ≤ 12) (hx : ¬ x < 0) (hy : ¬ x < nI n) 
    (e1 : Q (some (.int (-1000000001 : Int32))) m) :
    WPM G (d + 2) (0, 0) μX10_addLouvre [.ref (gB G), .int x, .int y, .int z, .int w, .int u] m Q := by
  refine WPM.of pX10 (Nat.le_of_ble_eq_true rfl) rfl ?_
  refine wp_aload_n dX10_addLouvre_0 rfl ?_
  refine wp_getr (gB G + 1) dX10_addLouvre_1 fX10_10 (ka0 hF) (hF.2 _ _) (rra 1 (isK_le (ka0 hF)) (fun _ => rfl)) ?_
  refine wp_iload_n dX10_addLouvre_4 rfl ?_
  refine wp_callV (As := [.int x]) (S := []) (b' := (0, 0)) (b := (0, 0)) dX10_addLouvre_5 MX10_58 (kc0 hF (isC1 G)) rfl rfl rfl rfl (Nat.le_of_ble_eq_true rfl) ?_
  refine WPM.of pX0 (Nat.le_of_ble_eq_true rfl) rfl ?_
  refine wp_iload_n dX0_hasNode_0 rfl ?_
  refine wp_if_lt 16 dX0_hasNode_1 (by decide) (fun q => absurd q hx) (fun _ => ?_)
  refine wp_iload_n dX0_hasNode_4 rfl ?_
  refine wp_aload_n dX0_hasNode_5 rfl ?_
  refine wp_geti (nI n) dX0_hasNode_6 fX0_75 (Or.inl rfl) (kc0 hF (isC1 G)) hn ?_
  refine wp_icmp_ge 16 dX0_hasNode_9 (by decide) (fun _ => ?_) (fun q => absurd q hy)
  refine wp_iconst (0 : Int32) dX0_hasNode_16 (by decide) ?_
  refine wp_zret dX0_hasNode_17 rfl rfl ?_
  show WP G (d + 2) (0, 0) μX10_addLouvre 8 [.ref (gB G), .int x, .int y, .int z, .int w, .int u, lvU] [.int (0 : Int32)] m _
  refine wp_if_ne 14 dX10_addLouvre_8 (by decide) (fun q => absurd (by decide) q) (fun _ => ?_)
  refine wp_ldc dX10_addLouvre_11 kX10_62 ?_
  exact wp_iret dX10_addLouvre_13 rfl (e1)

theorem iC_opening {G : Cx} {d : Nat} {m : Mm} {Q : Option Value → Mm → Prop} {i n : Nat}  (hF : Full G m) (hn : fi m 7 (gB G + 1) = nI (n + 1)) (hm : n + 1 ≤ 6) (hi : i < n + 1) 
    (e1 : Q (some (.int (fi m 305 (lv (gB G + 1) i)))) m) :
    WPM G (d + 2) (0, 0) μX10_opening [.ref (gB G), .int (nI i)] m Q := by
  refine WPM.of pX10 (Nat.le_of_ble_eq_true rfl) rfl ?_
  refine wp_aload_n dX10_opening_0 rfl ?_
  refine wp_getr (gB G + 1) dX10_opening_1 fX10_10 (ka0 hF) (hF.2 _ _) (rra 1 (isK_le (ka0 hF)) (fun _ => rfl)) ?_
  refine wp_iload_n dX10_opening_4 rfl ?_
  refine wp_callV (As := [.int (nI i)]) (S := []) (b' := (0, 0)) (b := (0, 0)) dX10_opening_5 MX10_123 (kc0 hF (isC1 G)) rfl rfl rfl rfl (Nat.le_of_ble_eq_true rfl) ?_
  refine WPM.of pX0 (Nat.le_of_ble_eq_true rfl) rfl ?_
  refine wp_iload_n dX0_hasLouvre_0 rfl ?_
  refine wp_if_lt 16 dX0_hasLouvre_1 (by decide) (fun q => absurd q (nI_pos (by omega))) (fun _ => ?_)
  refine wp_iload_n dX0_hasLouvre_4 rfl ?_
  refine wp_aload_n dX0_hasLouvre_5 rfl ?_
  refine wp_geti (nI (n + 1)) dX0_hasLouvre_6 fX0_88 (Or.inl rfl) (kc0 hF (isC1 G)) hn ?_
  refine wp_icmp_ge 16 dX0_hasLouvre_9 (by decide) (fun q => absurd (nlt_ (a := i) (b := n + 1) hi (by omega)) q) (fun _ => ?_)
  refine wp_iconst (1 : Int32) dX0_hasLouvre_12 (by decide) ?_
  refine wp_goto 17 dX0_hasLouvre_13 (by decide) ?_
  refine wp_zret dX0_hasLouvre_17 rfl rfl ?_
  show WP G (d + 2) (0, 0) μX10_opening 8 [.ref (gB G), .int (nI i)] [.int (1 : Int32)] m _
  refine wp_if_eq 26 dX10_opening_8 (by decide) (fun q => absurd q (by decide)) (fun _ => ?_)
  refine wp_aload_n dX10_opening_11 rfl ?_
  refine wp_getr (gB G + 1) dX10_opening_12 fX10_10 (ka0 hF) (hF.2 _ _) (rra 1 (isK_le (ka0 hF)) (fun _ => rfl)) ?_
  refine wp_getr ((gB G + 1) + 3) dX10_opening_15 fX10_103 (kc0 hF (isC1 G)) (hF.2 _ _) (rra 3 (isK_le (kc0 hF (isC1 G))) (fun _ => rfl)) ?_
  refine wp_iload_n dX10_opening_18 rfl ?_
  refine wp_raldk (n := 6) i (lv (gB G + 1) i) dX10_opening_19 (kc hF (isC1 G) 3 (by decide)) (by decide) (by decide) (lc (isC1 G) 3 (by decide)) (vin (by omega) (by decide)) (nIc (by omega)) (hF.2 _ _) (rlv hF (isC1 G)) ?_
  refine wp_geti (fi m 305 (lv (gB G + 1) i)) dX10_opening_20 fX10_126 (Or.inl rfl) (klv hF (isC1 G) (by omega)) rfl ?_
  refine wp_goto 28 dX10_opening_23 (by decide) ?_
  exact wp_iret dX10_opening_28 rfl (e1)

theorem aC_opening {G : Cx} {d : Nat} {m : Mm} {Q : Option Value → Mm → Prop} {x : Int32} {n : Nat}  (hF : Full G m) (hn : fi m 7 (gB G + 1) = nI n) (hm : n ≤ 6) (hx : x < 0) 
    (e1 : Q (some (.int (-1000000001 : Int32))) m) :
    WPM G (d + 2) (0, 0) μX10_opening [.ref (gB G), .int x] m Q := by
  refine WPM.of pX10 (Nat.le_of_ble_eq_true rfl) rfl ?_
  refine wp_aload_n dX10_opening_0 rfl ?_
  refine wp_getr (gB G + 1) dX10_opening_1 fX10_10 (ka0 hF) (hF.2 _ _) (rra 1 (isK_le (ka0 hF)) (fun _ => rfl)) ?_
  refine wp_iload_n dX10_opening_4 rfl ?_
  refine wp_callV (As := [.int x]) (S := []) (b' := (0, 0)) (b := (0, 0)) dX10_opening_5 MX10_123 (kc0 hF (isC1 G)) rfl rfl rfl rfl (Nat.le_of_ble_eq_true rfl) ?_
  refine WPM.of pX0 (Nat.le_of_ble_eq_true rfl) rfl ?_
  refine wp_iload_n dX0_hasLouvre_0 rfl ?_
  refine wp_if_lt 16 dX0_hasLouvre_1 (by decide) (fun _ => ?_) (fun q => absurd hx q)
  refine wp_iconst (0 : Int32) dX0_hasLouvre_16 (by decide) ?_
  refine wp_zret dX0_hasLouvre_17 rfl rfl ?_
  show WP G (d + 2) (0, 0) μX10_opening 8 [.ref (gB G), .int x] [.int (0 : Int32)] m _
  refine wp_if_eq 26 dX10_opening_8 (by decide) (fun _ => ?_) (fun q => absurd (by decide) q)
  refine wp_ldc dX10_opening_26 kX10_62 ?_
  exact wp_iret dX10_opening_28 rfl (e1)

theorem bC_opening {G : Cx} {d : Nat} {m : Mm} {Q : Option Value → Mm → Prop} {x : Int32} {n : Nat}  (hF : Full G m) (hn : fi m 7 (gB G + 1) = nI n) (hm : n ≤ 6) (hx : ¬ x < 0) (hy : ¬ x < nI n) 
    (e1 : Q (some (.int (-1000000001 : Int32))) m) :
    WPM G (d + 2) (0, 0) μX10_opening [.ref (gB G), .int x] m Q := by
  refine WPM.of pX10 (Nat.le_of_ble_eq_true rfl) rfl ?_
  refine wp_aload_n dX10_opening_0 rfl ?_
  refine wp_getr (gB G + 1) dX10_opening_1 fX10_10 (ka0 hF) (hF.2 _ _) (rra 1 (isK_le (ka0 hF)) (fun _ => rfl)) ?_
  refine wp_iload_n dX10_opening_4 rfl ?_
  refine wp_callV (As := [.int x]) (S := []) (b' := (0, 0)) (b := (0, 0)) dX10_opening_5 MX10_123 (kc0 hF (isC1 G)) rfl rfl rfl rfl (Nat.le_of_ble_eq_true rfl) ?_
  refine WPM.of pX0 (Nat.le_of_ble_eq_true rfl) rfl ?_
  refine wp_iload_n dX0_hasLouvre_0 rfl ?_
  refine wp_if_lt 16 dX0_hasLouvre_1 (by decide) (fun q => absurd q hx) (fun _ => ?_)
  refine wp_iload_n dX0_hasLouvre_4 rfl ?_
  refine wp_aload_n dX0_hasLouvre_5 rfl ?_
  refine wp_geti (nI n) dX0_hasLouvre_6 fX0_88 (Or.inl rfl) (kc0 hF (isC1 G)) hn ?_
  refine wp_icmp_ge 16 dX0_hasLouvre_9 (by decide) (fun _ => ?_) (fun q => absurd q hy)
  refine wp_iconst (0 : Int32) dX0_hasLouvre_16 (by decide) ?_
  refine wp_zret dX0_hasLouvre_17 rfl rfl ?_
  show WP G (d + 2) (0, 0) μX10_opening 8 [.ref (gB G), .int x] [.int (0 : Int32)] m _
  refine wp_if_eq 26 dX10_opening_8 (by decide) (fun _ => ?_) (fun q => absurd (by decide) q)
  refine wp_ldc dX10_opening_26 kX10_62 ?_
  exact wp_iret dX10_opening_28 rfl (e1)

theorem iC_isHeld {G : Cx} {d : Nat} {m : Mm} {Q : Option Value → Mm → Prop} {i n : Nat}  (hF : Full G m) (hn : fi m 7 (gB G + 1) = nI (n + 1)) (hm : n + 1 ≤ 6) (hi : i < n + 1) 
    (e1 : (fi m 306 (lv (gB G + 1) i)) = 0 → Q (some (.int (0 : Int32))) m)
    (e2 : ¬ (fi m 306 (lv (gB G + 1) i)) = 0 → Q (some (.int (1 : Int32))) m) :
    WPM G (d + 2) (0, 0) μX10_isHeld [.ref (gB G), .int (nI i)] m Q := by
  refine WPM.of pX10 (Nat.le_of_ble_eq_true rfl) rfl ?_
  refine wp_aload_n dX10_isHeld_0 rfl ?_
  refine wp_getr (gB G + 1) dX10_isHeld_1 fX10_10 (ka0 hF) (hF.2 _ _) (rra 1 (isK_le (ka0 hF)) (fun _ => rfl)) ?_
  refine wp_iload_n dX10_isHeld_4 rfl ?_
  refine wp_callV (As := [.int (nI i)]) (S := []) (b' := (0, 0)) (b := (0, 0)) dX10_isHeld_5 MX10_123 (kc0 hF (isC1 G)) rfl rfl rfl rfl (Nat.le_of_ble_eq_true rfl) ?_
  refine WPM.of pX0 (Nat.le_of_ble_eq_true rfl) rfl ?_
  refine wp_iload_n dX0_hasLouvre_0 rfl ?_
  refine wp_if_lt 16 dX0_hasLouvre_1 (by decide) (fun q => absurd q (nI_pos (by omega))) (fun _ => ?_)
  refine wp_iload_n dX0_hasLouvre_4 rfl ?_
  refine wp_aload_n dX0_hasLouvre_5 rfl ?_
  refine wp_geti (nI (n + 1)) dX0_hasLouvre_6 fX0_88 (Or.inl rfl) (kc0 hF (isC1 G)) hn ?_
  refine wp_icmp_ge 16 dX0_hasLouvre_9 (by decide) (fun q => absurd (nlt_ (a := i) (b := n + 1) hi (by omega)) q) (fun _ => ?_)
  refine wp_iconst (1 : Int32) dX0_hasLouvre_12 (by decide) ?_
  refine wp_goto 17 dX0_hasLouvre_13 (by decide) ?_
  refine wp_zret dX0_hasLouvre_17 rfl rfl ?_
  show WP G (d + 2) (0, 0) μX10_isHeld 8 [.ref (gB G), .int (nI i)] [.int (1 : Int32)] m _
  refine wp_if_ne 14 dX10_isHeld_8 (by decide) (fun _ => ?_) (fun q => absurd q (by decide))
  refine wp_aload_n dX10_isHeld_14 rfl ?_
  refine wp_getr (gB G + 1) dX10_isHeld_15 fX10_10 (ka0 hF) (hF.2 _ _) (rra 1 (isK_le (ka0 hF)) (fun _ => rfl)) ?_
  refine wp_getr ((gB G + 1) + 3) dX10_isHeld_18 fX10_103 (kc0 hF (isC1 G)) (hF.2 _ _) (rra 3 (isK_le (kc0 hF (isC1 G))) (fun _ => rfl)) ?_
  refine wp_iload_n dX10_isHeld_21 rfl ?_
  refine wp_raldk (n := 6) i (lv (gB G + 1) i) dX10_isHeld_22 (kc hF (isC1 G) 3 (by decide)) (by decide) (by decide) (lc (isC1 G) 3 (by decide)) (vin (by omega) (by decide)) (nIc (by omega)) (hF.2 _ _) (rlv hF (isC1 G)) ?_
  refine wp_geti (fi m 306 (lv (gB G + 1) i)) dX10_isHeld_23 fX10_133 (Or.inr rfl) (klv hF (isC1 G) (by omega)) rfl ?_
  refine wp_if_eq 33 dX10_isHeld_26 (by decide) (fun q1 => ?_) (fun q2 => ?_)
  · skip
    refine wp_iconst (0 : Int32) dX10_isHeld_33 (by decide) ?_
    exact wp_iret dX10_isHeld_34 rfl (e1 q1)
  · skip
    refine wp_iconst (1 : Int32) dX10_isHeld_29 (by decide) ?_
    refine wp_goto 34 dX10_isHeld_30 (by decide) ?_
    exact wp_iret dX10_isHeld_34 rfl (e2 q2)

theorem aC_isHeld {G : Cx} {d : Nat} {m : Mm} {Q : Option Value → Mm → Prop} {x : Int32} {n : Nat}  (hF : Full G m) (hn : fi m 7 (gB G + 1) = nI n) (hm : n ≤ 6) (hx : x < 0) 
    (e1 : Q (some (.int (-1000000001 : Int32))) m) :
    WPM G (d + 2) (0, 0) μX10_isHeld [.ref (gB G), .int x] m Q := by
  refine WPM.of pX10 (Nat.le_of_ble_eq_true rfl) rfl ?_
  refine wp_aload_n dX10_isHeld_0 rfl ?_
  refine wp_getr (gB G + 1) dX10_isHeld_1 fX10_10 (ka0 hF) (hF.2 _ _) (rra 1 (isK_le (ka0 hF)) (fun _ => rfl)) ?_
  refine wp_iload_n dX10_isHeld_4 rfl ?_
  refine wp_callV (As := [.int x]) (S := []) (b' := (0, 0)) (b := (0, 0)) dX10_isHeld_5 MX10_123 (kc0 hF (isC1 G)) rfl rfl rfl rfl (Nat.le_of_ble_eq_true rfl) ?_
  refine WPM.of pX0 (Nat.le_of_ble_eq_true rfl) rfl ?_
  refine wp_iload_n dX0_hasLouvre_0 rfl ?_
  refine wp_if_lt 16 dX0_hasLouvre_1 (by decide) (fun _ => ?_) (fun q => absurd hx q)
  refine wp_iconst (0 : Int32) dX0_hasLouvre_16 (by decide) ?_
  refine wp_zret dX0_hasLouvre_17 rfl rfl ?_
  show WP G (d + 2) (0, 0) μX10_isHeld 8 [.ref (gB G), .int x] [.int (0 : Int32)] m _
  refine wp_if_ne 14 dX10_isHeld_8 (by decide) (fun q => absurd (by decide) q) (fun _ => ?_)
  refine wp_ldc dX10_isHeld_11 kX10_62 ?_
  exact wp_iret dX10_isHeld_13 rfl (e1)

theorem bC_isHeld {G : Cx} {d : Nat} {m : Mm} {Q : Option Value → Mm → Prop} {x : Int32} {n : Nat}  (hF : Full G m) (hn : fi m 7 (gB G + 1) = nI n) (hm : n ≤ 6) (hx : ¬ x < 0) (hy : ¬ x < nI n) 
    (e1 : Q (some (.int (-1000000001 : Int32))) m) :
    WPM G (d + 2) (0, 0) μX10_isHeld [.ref (gB G), .int x] m Q := by
  refine WPM.of pX10 (Nat.le_of_ble_eq_true rfl) rfl ?_
  refine wp_aload_n dX10_isHeld_0 rfl ?_
  refine wp_getr (gB G + 1) dX10_isHeld_1 fX10_10 (ka0 hF) (hF.2 _ _) (rra 1 (isK_le (ka0 hF)) (fun _ => rfl)) ?_
  refine wp_iload_n dX10_isHeld_4 rfl ?_
  refine wp_callV (As := [.int x]) (S := []) (b' := (0, 0)) (b := (0, 0)) dX10_isHeld_5 MX10_123 (kc0 hF (isC1 G)) rfl rfl rfl rfl (Nat.le_of_ble_eq_true rfl) ?_
  refine WPM.of pX0 (Nat.le_of_ble_eq_true rfl) rfl ?_
  refine wp_iload_n dX0_hasLouvre_0 rfl ?_
  refine wp_if_lt 16 dX0_hasLouvre_1 (by decide) (fun q => absurd q hx) (fun _ => ?_)
  refine wp_iload_n dX0_hasLouvre_4 rfl ?_
  refine wp_aload_n dX0_hasLouvre_5 rfl ?_
  refine wp_geti (nI n) dX0_hasLouvre_6 fX0_88 (Or.inl rfl) (kc0 hF (isC1 G)) hn ?_
  refine wp_icmp_ge 16 dX0_hasLouvre_9 (by decide) (fun _ => ?_) (fun q => absurd q hy)
  refine wp_iconst (0 : Int32) dX0_hasLouvre_16 (by decide) ?_
  refine wp_zret dX0_hasLouvre_17 rfl rfl ?_
  show WP G (d + 2) (0, 0) μX10_isHeld 8 [.ref (gB G), .int x] [.int (0 : Int32)] m _
  refine wp_if_ne 14 dX10_isHeld_8 (by decide) (fun q => absurd (by decide) q) (fun _ => ?_)
  refine wp_ldc dX10_isHeld_11 kX10_62 ?_
  exact wp_iret dX10_isHeld_13 rfl (e1)

theorem iC_heaterState {G : Cx} {d : Nat} {m : Mm} {Q : Option Value → Mm → Prop} {i n : Nat}  (hF : Full G m) (hn : fi m 8 (gB G + 1) = nI (n + 1)) (hm : n + 1 ≤ 8) (hi : i < n + 1) 
    (e1 : Q (some (.int (fi m 107 (ht (gB G + 1) i)))) m) :
    WPM G (d + 2) (0, 0) μX10_heaterState [.ref (gB G), .int (nI i)] m Q := by
  refine WPM.of pX10 (Nat.le_of_ble_eq_true rfl) rfl ?_
  refine wp_aload_n dX10_heaterState_0 rfl ?_
  refine wp_getr (gB G + 1) dX10_heaterState_1 fX10_10 (ka0 hF) (hF.2 _ _) (rra 1 (isK_le (ka0 hF)) (fun _ => rfl)) ?_
  refine wp_iload_n dX10_heaterState_4 rfl ?_
  refine wp_callV (As := [.int (nI i)]) (S := []) (b' := (0, 0)) (b := (0, 0)) dX10_heaterState_5 MX10_137 (kc0 hF (isC1 G)) rfl rfl rfl rfl (Nat.le_of_ble_eq_true rfl) ?_
  refine WPM.of pX0 (Nat.le_of_ble_eq_true rfl) rfl ?_
  refine wp_iload_n dX0_hasHeater_0 rfl ?_
  refine wp_if_lt 16 dX0_hasHeater_1 (by decide) (fun q => absurd q (nI_pos (by omega))) (fun _ => ?_)
  refine wp_iload_n dX0_hasHeater_4 rfl ?_
  refine wp_aload_n dX0_hasHeater_5 rfl ?_
  refine wp_geti (nI (n + 1)) dX0_hasHeater_6 fX0_94 (Or.inl rfl) (kc0 hF (isC1 G)) hn ?_
  refine wp_icmp_ge 16 dX0_hasHeater_9 (by decide) (fun q => absurd (nlt_ (a := i) (b := n + 1) hi (by omega)) q) (fun _ => ?_)
  refine wp_iconst (1 : Int32) dX0_hasHeater_12 (by decide) ?_
  refine wp_goto 17 dX0_hasHeater_13 (by decide) ?_
  refine wp_zret dX0_hasHeater_17 rfl rfl ?_
  show WP G (d + 2) (0, 0) μX10_heaterState 8 [.ref (gB G), .int (nI i)] [.int (1 : Int32)] m _
  refine wp_if_eq 26 dX10_heaterState_8 (by decide) (fun q => absurd q (by decide)) (fun _ => ?_)
  refine wp_aload_n dX10_heaterState_11 rfl ?_
  refine wp_getr (gB G + 1) dX10_heaterState_12 fX10_10 (ka0 hF) (hF.2 _ _) (rra 1 (isK_le (ka0 hF)) (fun _ => rfl)) ?_
  refine wp_getr ((gB G + 1) + 4) dX10_heaterState_15 fX10_113 (kc0 hF (isC1 G)) (hF.2 _ _) (rra 4 (isK_le (kc0 hF (isC1 G))) (fun _ => rfl)) ?_
  refine wp_iload_n dX10_heaterState_18 rfl ?_
  refine wp_raldk (n := 8) i (ht (gB G + 1) i) dX10_heaterState_19 (kc hF (isC1 G) 4 (by decide)) (by decide) (by decide) (lc (isC1 G) 4 (by decide)) (vin (by omega) (by decide)) (nIc (by omega)) (hF.2 _ _) (rht hF (isC1 G)) ?_
  refine wp_geti (fi m 107 (ht (gB G + 1) i)) dX10_heaterState_20 fX10_140 (Or.inl rfl) (kht hF (isC1 G) (by omega)) rfl ?_
  refine wp_goto 28 dX10_heaterState_23 (by decide) ?_
  exact wp_iret dX10_heaterState_28 rfl (e1)

theorem aC_heaterState {G : Cx} {d : Nat} {m : Mm} {Q : Option Value → Mm → Prop} {x : Int32} {n : Nat}  (hF : Full G m) (hn : fi m 8 (gB G + 1) = nI n) (hm : n ≤ 8) (hx : x < 0) 
    (e1 : Q (some (.int (-1000000001 : Int32))) m) :
    WPM G (d + 2) (0, 0) μX10_heaterState [.ref (gB G), .int x] m Q := by
  refine WPM.of pX10 (Nat.le_of_ble_eq_true rfl) rfl ?_
  refine wp_aload_n dX10_heaterState_0 rfl ?_
  refine wp_getr (gB G + 1) dX10_heaterState_1 fX10_10 (ka0 hF) (hF.2 _ _) (rra 1 (isK_le (ka0 hF)) (fun _ => rfl)) ?_
  refine wp_iload_n dX10_heaterState_4 rfl ?_
  refine wp_callV (As := [.int x]) (S := []) (b' := (0, 0)) (b := (0, 0)) dX10_heaterState_5 MX10_137 (kc0 hF (isC1 G)) rfl rfl rfl rfl (Nat.le_of_ble_eq_true rfl) ?_
  refine WPM.of pX0 (Nat.le_of_ble_eq_true rfl) rfl ?_
  refine wp_iload_n dX0_hasHeater_0 rfl ?_
  refine wp_if_lt 16 dX0_hasHeater_1 (by decide) (fun _ => ?_) (fun q => absurd hx q)
  refine wp_iconst (0 : Int32) dX0_hasHeater_16 (by decide) ?_
  refine wp_zret dX0_hasHeater_17 rfl rfl ?_
  show WP G (d + 2) (0, 0) μX10_heaterState 8 [.ref (gB G), .int x] [.int (0 : Int32)] m _
  refine wp_if_eq 26 dX10_heaterState_8 (by decide) (fun _ => ?_) (fun q => absurd (by decide) q)
  refine wp_ldc dX10_heaterState_26 kX10_62 ?_
  exact wp_iret dX10_heaterState_28 rfl (e1)

theorem bC_heaterState {G : Cx} {d : Nat} {m : Mm} {Q : Option Value → Mm → Prop} {x : Int32} {n : Nat}  (hF : Full G m) (hn : fi m 8 (gB G + 1) = nI n) (hm : n ≤ 8) (hx : ¬ x < 0) (hy : ¬ x < nI n) 
    (e1 : Q (some (.int (-1000000001 : Int32))) m) :
    WPM G (d + 2) (0, 0) μX10_heaterState [.ref (gB G), .int x] m Q := by
  refine WPM.of pX10 (Nat.le_of_ble_eq_true rfl) rfl ?_
  refine wp_aload_n dX10_heaterState_0 rfl ?_
  refine wp_getr (gB G + 1) dX10_heaterState_1 fX10_10 (ka0 hF) (hF.2 _ _) (rra 1 (isK_le (ka0 hF)) (fun _ => rfl)) ?_
  refine wp_iload_n dX10_heaterState_4 rfl ?_
  refine wp_callV (As := [.int x]) (S := []) (b' := (0, 0)) (b := (0, 0)) dX10_heaterState_5 MX10_137 (kc0 hF (isC1 G)) rfl rfl rfl rfl (Nat.le_of_ble_eq_true rfl) ?_
  refine WPM.of pX0 (Nat.le_of_ble_eq_true rfl) rfl ?_
  refine wp_iload_n dX0_hasHeater_0 rfl ?_
  refine wp_if_lt 16 dX0_hasHeater_1 (by decide) (fun q => absurd q hx) (fun _ => ?_)
  refine wp_iload_n dX0_hasHeater_4 rfl ?_
  refine wp_aload_n dX0_hasHeater_5 rfl ?_
  refine wp_geti (nI n) dX0_hasHeater_6 fX0_94 (Or.inl rfl) (kc0 hF (isC1 G)) hn ?_
  refine wp_icmp_ge 16 dX0_hasHeater_9 (by decide) (fun _ => ?_) (fun q => absurd q hy)
  refine wp_iconst (0 : Int32) dX0_hasHeater_16 (by decide) ?_
  refine wp_zret dX0_hasHeater_17 rfl rfl ?_
  show WP G (d + 2) (0, 0) μX10_heaterState 8 [.ref (gB G), .int x] [.int (0 : Int32)] m _
  refine wp_if_eq 26 dX10_heaterState_8 (by decide) (fun _ => ?_) (fun q => absurd (by decide) q)
  refine wp_ldc dX10_heaterState_26 kX10_62 ?_
  exact wp_iret dX10_heaterState_28 rfl (e1)

theorem iC_heaterMode {G : Cx} {d : Nat} {m : Mm} {Q : Option Value → Mm → Prop} {i n : Nat}  (hF : Full G m) (hn : fi m 8 (gB G + 1) = nI (n + 1)) (hm : n + 1 ≤ 8) (hi : i < n + 1) 
    (e1 : Q (some (.int (fi m 105 (ht (gB G + 1) i)))) m) :
    WPM G (d + 2) (0, 0) μX10_heaterMode [.ref (gB G), .int (nI i)] m Q := by
  refine WPM.of pX10 (Nat.le_of_ble_eq_true rfl) rfl ?_
  refine wp_aload_n dX10_heaterMode_0 rfl ?_
  refine wp_getr (gB G + 1) dX10_heaterMode_1 fX10_10 (ka0 hF) (hF.2 _ _) (rra 1 (isK_le (ka0 hF)) (fun _ => rfl)) ?_
  refine wp_iload_n dX10_heaterMode_4 rfl ?_
  refine wp_callV (As := [.int (nI i)]) (S := []) (b' := (0, 0)) (b := (0, 0)) dX10_heaterMode_5 MX10_137 (kc0 hF (isC1 G)) rfl rfl rfl rfl (Nat.le_of_ble_eq_true rfl) ?_
  refine WPM.of pX0 (Nat.le_of_ble_eq_true rfl) rfl ?_
  refine wp_iload_n dX0_hasHeater_0 rfl ?_
  refine wp_if_lt 16 dX0_hasHeater_1 (by decide) (fun q => absurd q (nI_pos (by omega))) (fun _ => ?_)
  refine wp_iload_n dX0_hasHeater_4 rfl ?_
  refine wp_aload_n dX0_hasHeater_5 rfl ?_
  refine wp_geti (nI (n + 1)) dX0_hasHeater_6 fX0_94 (Or.inl rfl) (kc0 hF (isC1 G)) hn ?_
  refine wp_icmp_ge 16 dX0_hasHeater_9 (by decide) (fun q => absurd (nlt_ (a := i) (b := n + 1) hi (by omega)) q) (fun _ => ?_)
  refine wp_iconst (1 : Int32) dX0_hasHeater_12 (by decide) ?_
  refine wp_goto 17 dX0_hasHeater_13 (by decide) ?_
  refine wp_zret dX0_hasHeater_17 rfl rfl ?_
  show WP G (d + 2) (0, 0) μX10_heaterMode 8 [.ref (gB G), .int (nI i)] [.int (1 : Int32)] m _
  refine wp_if_eq 26 dX10_heaterMode_8 (by decide) (fun q => absurd q (by decide)) (fun _ => ?_)
  refine wp_aload_n dX10_heaterMode_11 rfl ?_
  refine wp_getr (gB G + 1) dX10_heaterMode_12 fX10_10 (ka0 hF) (hF.2 _ _) (rra 1 (isK_le (ka0 hF)) (fun _ => rfl)) ?_
  refine wp_getr ((gB G + 1) + 4) dX10_heaterMode_15 fX10_113 (kc0 hF (isC1 G)) (hF.2 _ _) (rra 4 (isK_le (kc0 hF (isC1 G))) (fun _ => rfl)) ?_
  refine wp_iload_n dX10_heaterMode_18 rfl ?_
  refine wp_raldk (n := 8) i (ht (gB G + 1) i) dX10_heaterMode_19 (kc hF (isC1 G) 4 (by decide)) (by decide) (by decide) (lc (isC1 G) 4 (by decide)) (vin (by omega) (by decide)) (nIc (by omega)) (hF.2 _ _) (rht hF (isC1 G)) ?_
  refine wp_geti (fi m 105 (ht (gB G + 1) i)) dX10_heaterMode_20 fX10_143 (Or.inl rfl) (kht hF (isC1 G) (by omega)) rfl ?_
  refine wp_goto 28 dX10_heaterMode_23 (by decide) ?_
  exact wp_iret dX10_heaterMode_28 rfl (e1)

theorem aC_heaterMode {G : Cx} {d : Nat} {m : Mm} {Q : Option Value → Mm → Prop} {x : Int32} {n : Nat}  (hF : Full G m) (hn : fi m 8 (gB G + 1) = nI n) (hm : n ≤ 8) (hx : x < 0) 
    (e1 : Q (some (.int (-1000000001 : Int32))) m) :
    WPM G (d + 2) (0, 0) μX10_heaterMode [.ref (gB G), .int x] m Q := by
  refine WPM.of pX10 (Nat.le_of_ble_eq_true rfl) rfl ?_
  refine wp_aload_n dX10_heaterMode_0 rfl ?_
  refine wp_getr (gB G + 1) dX10_heaterMode_1 fX10_10 (ka0 hF) (hF.2 _ _) (rra 1 (isK_le (ka0 hF)) (fun _ => rfl)) ?_
  refine wp_iload_n dX10_heaterMode_4 rfl ?_
  refine wp_callV (As := [.int x]) (S := []) (b' := (0, 0)) (b := (0, 0)) dX10_heaterMode_5 MX10_137 (kc0 hF (isC1 G)) rfl rfl rfl rfl (Nat.le_of_ble_eq_true rfl) ?_
  refine WPM.of pX0 (Nat.le_of_ble_eq_true rfl) rfl ?_
  refine wp_iload_n dX0_hasHeater_0 rfl ?_
  refine wp_if_lt 16 dX0_hasHeater_1 (by decide) (fun _ => ?_) (fun q => absurd hx q)
  refine wp_iconst (0 : Int32) dX0_hasHeater_16 (by decide) ?_
  refine wp_zret dX0_hasHeater_17 rfl rfl ?_
  show WP G (d + 2) (0, 0) μX10_heaterMode 8 [.ref (gB G), .int x] [.int (0 : Int32)] m _
  refine wp_if_eq 26 dX10_heaterMode_8 (by decide) (fun _ => ?_) (fun q => absurd (by decide) q)
  refine wp_ldc dX10_heaterMode_26 kX10_62 ?_
  exact wp_iret dX10_heaterMode_28 rfl (e1)

theorem bC_heaterMode {G : Cx} {d : Nat} {m : Mm} {Q : Option Value → Mm → Prop} {x : Int32} {n : Nat}  (hF : Full G m) (hn : fi m 8 (gB G + 1) = nI n) (hm : n ≤ 8) (hx : ¬ x < 0) (hy : ¬ x < nI n) 
    (e1 : Q (some (.int (-1000000001 : Int32))) m) :
    WPM G (d + 2) (0, 0) μX10_heaterMode [.ref (gB G), .int x] m Q := by
  refine WPM.of pX10 (Nat.le_of_ble_eq_true rfl) rfl ?_
  refine wp_aload_n dX10_heaterMode_0 rfl ?_
  refine wp_getr (gB G + 1) dX10_heaterMode_1 fX10_10 (ka0 hF) (hF.2 _ _) (rra 1 (isK_le (ka0 hF)) (fun _ => rfl)) ?_
  refine wp_iload_n dX10_heaterMode_4 rfl ?_
  refine wp_callV (As := [.int x]) (S := []) (b' := (0, 0)) (b := (0, 0)) dX10_heaterMode_5 MX10_137 (kc0 hF (isC1 G)) rfl rfl rfl rfl (Nat.le_of_ble_eq_true rfl) ?_
  refine WPM.of pX0 (Nat.le_of_ble_eq_true rfl) rfl ?_
  refine wp_iload_n dX0_hasHeater_0 rfl ?_
  refine wp_if_lt 16 dX0_hasHeater_1 (by decide) (fun q => absurd q hx) (fun _ => ?_)
  refine wp_iload_n dX0_hasHeater_4 rfl ?_
  refine wp_aload_n dX0_hasHeater_5 rfl ?_
  refine wp_geti (nI n) dX0_hasHeater_6 fX0_94 (Or.inl rfl) (kc0 hF (isC1 G)) hn ?_
  refine wp_icmp_ge 16 dX0_hasHeater_9 (by decide) (fun _ => ?_) (fun q => absurd q hy)
  refine wp_iconst (0 : Int32) dX0_hasHeater_16 (by decide) ?_
  refine wp_zret dX0_hasHeater_17 rfl rfl ?_
  show WP G (d + 2) (0, 0) μX10_heaterMode 8 [.ref (gB G), .int x] [.int (0 : Int32)] m _
  refine wp_if_eq 26 dX10_heaterMode_8 (by decide) (fun _ => ?_) (fun q => absurd (by decide) q)
  refine wp_ldc dX10_heaterMode_26 kX10_62 ?_
  exact wp_iret dX10_heaterMode_28 rfl (e1)

theorem iC_setMode {G : Cx} {d : Nat} {m : Mm} {Q : Option Value → Mm → Prop} {y : Int32} {i n : Nat}  (hF : Full G m) (hn : fi m 8 (gB G + 1) = nI (n + 1)) (hm : n + 1 ≤ 8) (hi : i < n + 1) 
    (e1 : y < (0 : Int32) → Q (some (.int (-1000000002 : Int32))) m)
    (e2 : ¬ y < (0 : Int32) → (2 : Int32) < y → Q (some (.int (-1000000002 : Int32))) m)
    (e3 : ¬ y < (0 : Int32) → ¬ (2 : Int32) < y → Q (some (.int (fi m 105 (ht (gB G + 1) i)))) (wfi m 105 (ht (gB G + 1) i) y)) :
    WPM G (d + 2) (0, 0) μX10_setMode [.ref (gB G), .int (nI i), .int y] m Q := by
  refine WPM.of pX10 (Nat.le_of_ble_eq_true rfl) rfl ?_
  refine wp_aload_n dX10_setMode_0 rfl ?_
  refine wp_getr (gB G + 1) dX10_setMode_1 fX10_10 (ka0 hF) (hF.2 _ _) (rra 1 (isK_le (ka0 hF)) (fun _ => rfl)) ?_
  refine wp_iload_n dX10_setMode_4 rfl ?_
  refine wp_callV (As := [.int (nI i)]) (S := []) (b' := (0, 0)) (b := (0, 0)) dX10_setMode_5 MX10_137 (kc0 hF (isC1 G)) rfl rfl rfl rfl (Nat.le_of_ble_eq_true rfl) ?_
  refine WPM.of pX0 (Nat.le_of_ble_eq_true rfl) rfl ?_
  refine wp_iload_n dX0_hasHeater_0 rfl ?_
  refine wp_if_lt 16 dX0_hasHeater_1 (by decide) (fun q => absurd q (nI_pos (by omega))) (fun _ => ?_)
  refine wp_iload_n dX0_hasHeater_4 rfl ?_
  refine wp_aload_n dX0_hasHeater_5 rfl ?_
  refine wp_geti (nI (n + 1)) dX0_hasHeater_6 fX0_94 (Or.inl rfl) (kc0 hF (isC1 G)) hn ?_
  refine wp_icmp_ge 16 dX0_hasHeater_9 (by decide) (fun q => absurd (nlt_ (a := i) (b := n + 1) hi (by omega)) q) (fun _ => ?_)
  refine wp_iconst (1 : Int32) dX0_hasHeater_12 (by decide) ?_
  refine wp_goto 17 dX0_hasHeater_13 (by decide) ?_
  refine wp_zret dX0_hasHeater_17 rfl rfl ?_
  show WP G (d + 2) (0, 0) μX10_setMode 8 [.ref (gB G), .int (nI i), .int y, lvU] [.int (1 : Int32)] m _
  refine wp_if_ne 14 dX10_setMode_8 (by decide) (fun _ => ?_) (fun q => absurd q (by decide))
  refine wp_iload_n dX10_setMode_14 rfl ?_
  refine wp_iconst (0 : Int32) dX10_setMode_15 (by decide) ?_
  refine wp_iconst (2 : Int32) dX10_setMode_16 (by decide) ?_
  refine wp_callS (As := [.int y, .int (0 : Int32), .int (2 : Int32)]) (S := []) (b' := (0, 0)) (b := (0, 0)) dX10_setMode_17 MX10_35 rfl rfl (Nat.le_of_ble_eq_true rfl) ?_
  refine WPM.of pX10 (Nat.le_of_ble_eq_true rfl) rfl ?_
  refine wp_iload_n dX10_within_0 rfl ?_
  refine wp_iload_n dX10_within_1 rfl ?_
  refine wp_icmp_lt 14 dX10_within_2 (by decide) (fun q1 => ?_) (fun q2 => ?_)
  · skip
    refine wp_iconst (0 : Int32) dX10_within_14 (by decide) ?_
    refine wp_zret dX10_within_15 rfl rfl ?_
    show WP G (d + 2) (0, 0) μX10_setMode 20 [.ref (gB G), .int (nI i), .int y, lvU] [.int (0 : Int32)] m _
    refine wp_if_ne 26 dX10_setMode_20 (by decide) (fun q => absurd (by decide) q) (fun _ => ?_)
    refine wp_ldc dX10_setMode_23 kX10_42 ?_
    exact wp_iret dX10_setMode_25 rfl (e1 q1)
  · skip
    refine wp_iload_n dX10_within_5 rfl ?_
    refine wp_iload_n dX10_within_6 rfl ?_
    refine wp_icmp_gt 14 dX10_within_7 (by decide) (fun q3 => ?_) (fun q4 => ?_)
    · skip
      refine wp_iconst (0 : Int32) dX10_within_14 (by decide) ?_
      refine wp_zret dX10_within_15 rfl rfl ?_
      show WP G (d + 2) (0, 0) μX10_setMode 20 [.ref (gB G), .int (nI i), .int y, lvU] [.int (0 : Int32)] m _
      refine wp_if_ne 26 dX10_setMode_20 (by decide) (fun q => absurd (by decide) q) (fun _ => ?_)
      refine wp_ldc dX10_setMode_23 kX10_42 ?_
      exact wp_iret dX10_setMode_25 rfl (e2 q2 q3)
    · skip
      refine wp_iconst (1 : Int32) dX10_within_10 (by decide) ?_
      refine wp_goto 15 dX10_within_11 (by decide) ?_
      refine wp_zret dX10_within_15 rfl rfl ?_
      show WP G (d + 2) (0, 0) μX10_setMode 20 [.ref (gB G), .int (nI i), .int y, lvU] [.int (1 : Int32)] m _
      refine wp_if_ne 26 dX10_setMode_20 (by decide) (fun _ => ?_) (fun q => absurd q (by decide))
      refine wp_aload_n dX10_setMode_26 rfl ?_
      refine wp_getr (gB G + 1) dX10_setMode_27 fX10_10 (ka0 hF) (hF.2 _ _) (rra 1 (isK_le (ka0 hF)) (fun _ => rfl)) ?_
      refine wp_getr ((gB G + 1) + 4) dX10_setMode_30 fX10_113 (kc0 hF (isC1 G)) (hF.2 _ _) (rra 4 (isK_le (kc0 hF (isC1 G))) (fun _ => rfl)) ?_
      refine wp_iload_n dX10_setMode_33 rfl ?_
      refine wp_raldk (n := 8) i (ht (gB G + 1) i) dX10_setMode_34 (kc hF (isC1 G) 4 (by decide)) (by decide) (by decide) (lc (isC1 G) 4 (by decide)) (vin (by omega) (by decide)) (nIc (by omega)) (hF.2 _ _) (rht hF (isC1 G)) ?_
      refine wp_geti (fi m 105 (ht (gB G + 1) i)) dX10_setMode_35 fX10_143 (Or.inl rfl) (kht hF (isC1 G) (by omega)) rfl ?_
      refine wp_istore_n dX10_setMode_38 (by decide) rfl ?_
      refine wp_aload_n dX10_setMode_39 rfl ?_
      refine wp_getr (gB G + 1) dX10_setMode_40 fX10_10 (ka0 hF) (hF.2 _ _) (rra 1 (isK_le (ka0 hF)) (fun _ => rfl)) ?_
      refine wp_getr ((gB G + 1) + 4) dX10_setMode_43 fX10_113 (kc0 hF (isC1 G)) (hF.2 _ _) (rra 4 (isK_le (kc0 hF (isC1 G))) (fun _ => rfl)) ?_
      refine wp_iload_n dX10_setMode_46 rfl ?_
      refine wp_raldk (n := 8) i (ht (gB G + 1) i) dX10_setMode_47 (kc hF (isC1 G) 4 (by decide)) (by decide) (by decide) (lc (isC1 G) 4 (by decide)) (vin (by omega) (by decide)) (nIc (by omega)) (hF.2 _ _) (rht hF (isC1 G)) ?_
      refine wp_iload_n dX10_setMode_48 rfl ?_
      refine wp_puti dX10_setMode_49 pX10_143 (kht hF (isC1 G) (by omega)) ?_
      have hF5 := Full_wfi 105 (ht (gB G + 1) i) y hF
      refine wp_iload_n dX10_setMode_52 rfl ?_
      exact wp_iret dX10_setMode_53 rfl (e3 q2 q4)

theorem aC_setMode {G : Cx} {d : Nat} {m : Mm} {Q : Option Value → Mm → Prop} {x y : Int32} {n : Nat}  (hF : Full G m) (hn : fi m 8 (gB G + 1) = nI n) (hm : n ≤ 8) (hx : x < 0) 
    (e1 : Q (some (.int (-1000000001 : Int32))) m) :
    WPM G (d + 2) (0, 0) μX10_setMode [.ref (gB G), .int x, .int y] m Q := by
  refine WPM.of pX10 (Nat.le_of_ble_eq_true rfl) rfl ?_
  refine wp_aload_n dX10_setMode_0 rfl ?_
  refine wp_getr (gB G + 1) dX10_setMode_1 fX10_10 (ka0 hF) (hF.2 _ _) (rra 1 (isK_le (ka0 hF)) (fun _ => rfl)) ?_
  refine wp_iload_n dX10_setMode_4 rfl ?_
  refine wp_callV (As := [.int x]) (S := []) (b' := (0, 0)) (b := (0, 0)) dX10_setMode_5 MX10_137 (kc0 hF (isC1 G)) rfl rfl rfl rfl (Nat.le_of_ble_eq_true rfl) ?_
  refine WPM.of pX0 (Nat.le_of_ble_eq_true rfl) rfl ?_
  refine wp_iload_n dX0_hasHeater_0 rfl ?_
  refine wp_if_lt 16 dX0_hasHeater_1 (by decide) (fun _ => ?_) (fun q => absurd hx q)
  refine wp_iconst (0 : Int32) dX0_hasHeater_16 (by decide) ?_
  refine wp_zret dX0_hasHeater_17 rfl rfl ?_
  show WP G (d + 2) (0, 0) μX10_setMode 8 [.ref (gB G), .int x, .int y, lvU] [.int (0 : Int32)] m _
  refine wp_if_ne 14 dX10_setMode_8 (by decide) (fun q => absurd (by decide) q) (fun _ => ?_)
  refine wp_ldc dX10_setMode_11 kX10_62 ?_
  exact wp_iret dX10_setMode_13 rfl (e1)

theorem bC_setMode {G : Cx} {d : Nat} {m : Mm} {Q : Option Value → Mm → Prop} {x y : Int32} {n : Nat}  (hF : Full G m) (hn : fi m 8 (gB G + 1) = nI n) (hm : n ≤ 8) (hx : ¬ x < 0) (hy : ¬ x < nI n) 
    (e1 : Q (some (.int (-1000000001 : Int32))) m) :
    WPM G (d + 2) (0, 0) μX10_setMode [.ref (gB G), .int x, .int y] m Q := by
  refine WPM.of pX10 (Nat.le_of_ble_eq_true rfl) rfl ?_
  refine wp_aload_n dX10_setMode_0 rfl ?_
  refine wp_getr (gB G + 1) dX10_setMode_1 fX10_10 (ka0 hF) (hF.2 _ _) (rra 1 (isK_le (ka0 hF)) (fun _ => rfl)) ?_
  refine wp_iload_n dX10_setMode_4 rfl ?_
  refine wp_callV (As := [.int x]) (S := []) (b' := (0, 0)) (b := (0, 0)) dX10_setMode_5 MX10_137 (kc0 hF (isC1 G)) rfl rfl rfl rfl (Nat.le_of_ble_eq_true rfl) ?_
  refine WPM.of pX0 (Nat.le_of_ble_eq_true rfl) rfl ?_
  refine wp_iload_n dX0_hasHeater_0 rfl ?_
  refine wp_if_lt 16 dX0_hasHeater_1 (by decide) (fun q => absurd q hx) (fun _ => ?_)
  refine wp_iload_n dX0_hasHeater_4 rfl ?_
  refine wp_aload_n dX0_hasHeater_5 rfl ?_
  refine wp_geti (nI n) dX0_hasHeater_6 fX0_94 (Or.inl rfl) (kc0 hF (isC1 G)) hn ?_
  refine wp_icmp_ge 16 dX0_hasHeater_9 (by decide) (fun _ => ?_) (fun q => absurd q hy)
  refine wp_iconst (0 : Int32) dX0_hasHeater_16 (by decide) ?_
  refine wp_zret dX0_hasHeater_17 rfl rfl ?_
  show WP G (d + 2) (0, 0) μX10_setMode 8 [.ref (gB G), .int x, .int y, lvU] [.int (0 : Int32)] m _
  refine wp_if_ne 14 dX10_setMode_8 (by decide) (fun q => absurd (by decide) q) (fun _ => ?_)
  refine wp_ldc dX10_setMode_11 kX10_62 ?_
  exact wp_iret dX10_setMode_13 rfl (e1)

theorem sC_setOrbit {G : Cx} {d : Nat} {m : Mm} {Q : Option Value → Mm → Prop} {x y z w u v : Int32}  (hF : Full G m) 
    (e1 : x < (1 : Int32) → Q (some (.int (-1000000002 : Int32))) m)
    (e2 : ¬ x < (1 : Int32) → (100000 : Int32) < x → Q (some (.int (-1000000002 : Int32))) m)
    (e3 : ¬ x < (1 : Int32) → ¬ (100000 : Int32) < x → y < (0 : Int32) → Q (some (.int (-1000000002 : Int32))) m)
    (e4 : ¬ x < (1 : Int32) → ¬ (100000 : Int32) < x → ¬ y < (0 : Int32) → x < y → Q (some (.int (-1000000002 : Int32))) m)
    (e5 : ¬ x < (1 : Int32) → ¬ (100000 : Int32) < x → ¬ y < (0 : Int32) → ¬ x < y → z < y → Q (some (.int (-1000000002 : Int32))) m)
    (e6 : ¬ x < (1 : Int32) → ¬ (100000 : Int32) < x → ¬ y < (0 : Int32) → ¬ x < y → ¬ z < y → x < z → Q (some (.int (-1000000002 : Int32))) m)
    (e7 : ¬ x < (1 : Int32) → ¬ (100000 : Int32) < x → ¬ y < (0 : Int32) → ¬ x < y → ¬ z < y → ¬ x < z → w < (0 : Int32) → Q (some (.int (-1000000002 : Int32))) m)
    (e8 : ¬ x < (1 : Int32) → ¬ (100000 : Int32) < x → ¬ y < (0 : Int32) → ¬ x < y → ¬ z < y → ¬ x < z → ¬ w < (0 : Int32) → (10000 : Int32) < w → Q (some (.int (-1000000002 : Int32))) m)
    (e9 : ¬ x < (1 : Int32) → ¬ (100000 : Int32) < x → ¬ y < (0 : Int32) → ¬ x < y → ¬ z < y → ¬ x < z → ¬ w < (0 : Int32) → ¬ (10000 : Int32) < w → u < (0 : Int32) → Q (some (.int (-1000000002 : Int32))) m)
    (e10 : ¬ x < (1 : Int32) → ¬ (100000 : Int32) < x → ¬ y < (0 : Int32) → ¬ x < y → ¬ z < y → ¬ x < z → ¬ w < (0 : Int32) → ¬ (10000 : Int32) < w → ¬ u < (0 : Int32) → (100 : Int32) < u → Q (some (.int (-1000000002 : Int32))) m)
    (e11 : ¬ x < (1 : Int32) → ¬ (100000 : Int32) < x → ¬ y < (0 : Int32) → ¬ x < y → ¬ z < y → ¬ x < z → ¬ w < (0 : Int32) → ¬ (10000 : Int32) < w → ¬ u < (0 : Int32) → ¬ (100 : Int32) < u → v < (0 : Int32) → Q (some (.int (-1000000002 : Int32))) m)
    (e12 : ¬ x < (1 : Int32) → ¬ (100000 : Int32) < x → ¬ y < (0 : Int32) → ¬ x < y → ¬ z < y → ¬ x < z → ¬ w < (0 : Int32) → ¬ (10000 : Int32) < w → ¬ u < (0 : Int32) → ¬ (100 : Int32) < u → ¬ v < (0 : Int32) → (10000 : Int32) < v → Q (some (.int (-1000000002 : Int32))) m)
    (e13 : ¬ x < (1 : Int32) → ¬ (100000 : Int32) < x → ¬ y < (0 : Int32) → ¬ x < y → ¬ z < y → ¬ x < z → ¬ w < (0 : Int32) → ¬ (10000 : Int32) < w → ¬ u < (0 : Int32) → ¬ (100 : Int32) < u → ¬ v < (0 : Int32) → ¬ (10000 : Int32) < v → Q (some (.int (0 : Int32))) (wfi (wfi (wfi (wfi (wfi (wfi m 500 ((gB G + 1) + 6) x) 501 ((gB G + 1) + 6) y) 502 ((gB G + 1) + 6) z) 503 ((gB G + 1) + 6) w) 504 ((gB G + 1) + 6) u) 505 ((gB G + 1) + 6) v)) :
    WPM G (d + 2) (0, 0) μX10_setOrbit [.ref (gB G), .int x, .int y, .int z, .int w, .int u, .int v] m Q := by
  refine WPM.of pX10 (Nat.le_of_ble_eq_true rfl) rfl ?_
  refine wp_iload_n dX10_setOrbit_0 rfl ?_
  refine wp_iconst (1 : Int32) dX10_setOrbit_1 (by decide) ?_
  refine wp_ldc dX10_setOrbit_2 kX10_34 ?_
  refine wp_callS (As := [.int x, .int (1 : Int32), .int (100000 : Int32)]) (S := []) (b' := (0, 0)) (b := (0, 0)) dX10_setOrbit_4 MX10_35 rfl rfl (Nat.le_of_ble_eq_true rfl) ?_
  refine WPM.of pX10 (Nat.le_of_ble_eq_true rfl) rfl ?_
  refine wp_iload_n dX10_within_0 rfl ?_
  refine wp_iload_n dX10_within_1 rfl ?_
  refine wp_icmp_lt 14 dX10_within_2 (by decide) (fun q1 => ?_) (fun q2 => ?_)
  · skip
    refine wp_iconst (0 : Int32) dX10_within_14 (by decide) ?_
    refine wp_zret dX10_within_15 rfl rfl ?_
    show WP G (d + 2) (0, 0) μX10_setOrbit 7 [.ref (gB G), .int x, .int y, .int z, .int w, .int u, .int v] [.int (0 : Int32)] m _
    refine wp_if_eq 63 dX10_setOrbit_7 (by decide) (fun _ => ?_) (fun q => absurd (by decide) q)
    refine wp_ldc dX10_setOrbit_63 kX10_42 ?_
    exact wp_iret dX10_setOrbit_65 rfl (e1 q1)
  · skip
    refine wp_iload_n dX10_within_5 rfl ?_
    refine wp_iload_n dX10_within_6 rfl ?_
    refine wp_icmp_gt 14 dX10_within_7 (by decide) (fun q3 => ?_) (fun q4 => ?_)
    · skip
      refine wp_iconst (0 : Int32) dX10_within_14 (by decide) ?_
      refine wp_zret dX10_within_15 rfl rfl ?_
      show WP G (d + 2) (0, 0) μX10_setOrbit 7 [.ref (gB G), .int x, .int y, .int z, .int w, .int u, .int v] [.int (0 : Int32)] m _
      refine wp_if_eq 63 dX10_setOrbit_7 (by decide) (fun _ => ?_) (fun q => absurd (by decide) q)
      refine wp_ldc dX10_setOrbit_63 kX10_42 ?_
      exact wp_iret dX10_setOrbit_65 rfl (e2 q2 q3)
    · skip
      refine wp_iconst (1 : Int32) dX10_within_10 (by decide) ?_
      refine wp_goto 15 dX10_within_11 (by decide) ?_
      refine wp_zret dX10_within_15 rfl rfl ?_
      show WP G (d + 2) (0, 0) μX10_setOrbit 7 [.ref (gB G), .int x, .int y, .int z, .int w, .int u, .int v] [.int (1 : Int32)] m _
      refine wp_if_eq 63 dX10_setOrbit_7 (by decide) (fun q => absurd q (by decide)) (fun _ => ?_)
      refine wp_iload_n dX10_setOrbit_10 rfl ?_
      refine wp_iconst (0 : Int32) dX10_setOrbit_11 (by decide) ?_
      refine wp_iload_n dX10_setOrbit_12 rfl ?_
      refine wp_callS (As := [.int y, .int (0 : Int32), .int x]) (S := []) (b' := (0, 0)) (b := (0, 0)) dX10_setOrbit_13 MX10_35 rfl rfl (Nat.le_of_ble_eq_true rfl) ?_
      refine WPM.of pX10 (Nat.le_of_ble_eq_true rfl) rfl ?_
      refine wp_iload_n dX10_within_0 rfl ?_
      refine wp_iload_n dX10_within_1 rfl ?_
      refine wp_icmp_lt 14 dX10_within_2 (by decide) (fun q5 => ?_) (fun q6 => ?_)
      · skip
        refine wp_iconst (0 : Int32) dX10_within_14 (by decide) ?_
        refine wp_zret dX10_within_15 rfl rfl ?_
        show WP G (d + 2) (0, 0) μX10_setOrbit 16 [.ref (gB G), .int x, .int y, .int z, .int w, .int u, .int v] [.int (0 : Int32)] m _
        refine wp_if_eq 63 dX10_setOrbit_16 (by decide) (fun _ => ?_) (fun q => absurd (by decide) q)
        refine wp_ldc dX10_setOrbit_63 kX10_42 ?_
        exact wp_iret dX10_setOrbit_65 rfl (e3 q2 q4 q5)
      · skip
        refine wp_iload_n dX10_within_5 rfl ?_
        refine wp_iload_n dX10_within_6 rfl ?_
        refine wp_icmp_gt 14 dX10_within_7 (by decide) (fun q7 => ?_) (fun q8 => ?_)
        · skip
          refine wp_iconst (0 : Int32) dX10_within_14 (by decide) ?_
          refine wp_zret dX10_within_15 rfl rfl ?_
          show WP G (d + 2) (0, 0) μX10_setOrbit 16 [.ref (gB G), .int x, .int y, .int z, .int w, .int u, .int v] [.int (0 : Int32)] m _
          refine wp_if_eq 63 dX10_setOrbit_16 (by decide) (fun _ => ?_) (fun q => absurd (by decide) q)
          refine wp_ldc dX10_setOrbit_63 kX10_42 ?_
          exact wp_iret dX10_setOrbit_65 rfl (e4 q2 q4 q6 q7)
        · skip
          refine wp_iconst (1 : Int32) dX10_within_10 (by decide) ?_
          refine wp_goto 15 dX10_within_11 (by decide) ?_
          refine wp_zret dX10_within_15 rfl rfl ?_
          show WP G (d + 2) (0, 0) μX10_setOrbit 16 [.ref (gB G), .int x, .int y, .int z, .int w, .int u, .int v] [.int (1 : Int32)] m _
          refine wp_if_eq 63 dX10_setOrbit_16 (by decide) (fun q => absurd q (by decide)) (fun _ => ?_)
          refine wp_iload_n dX10_setOrbit_19 rfl ?_
          refine wp_iload_n dX10_setOrbit_20 rfl ?_
          refine wp_iload_n dX10_setOrbit_21 rfl ?_
          refine wp_callS (As := [.int z, .int y, .int x]) (S := []) (b' := (0, 0)) (b := (0, 0)) dX10_setOrbit_22 MX10_35 rfl rfl (Nat.le_of_ble_eq_true rfl) ?_
          refine WPM.of pX10 (Nat.le_of_ble_eq_true rfl) rfl ?_
          refine wp_iload_n dX10_within_0 rfl ?_
          refine wp_iload_n dX10_within_1 rfl ?_
          refine wp_icmp_lt 14 dX10_within_2 (by decide) (fun q9 => ?_) (fun q10 => ?_)
          · skip
            refine wp_iconst (0 : Int32) dX10_within_14 (by decide) ?_
            refine wp_zret dX10_within_15 rfl rfl ?_
            show WP G (d + 2) (0, 0) μX10_setOrbit 25 [.ref (gB G), .int x, .int y, .int z, .int w, .int u, .int v] [.int (0 : Int32)] m _
            refine wp_if_eq 63 dX10_setOrbit_25 (by decide) (fun _ => ?_) (fun q => absurd (by decide) q)
            refine wp_ldc dX10_setOrbit_63 kX10_42 ?_
            exact wp_iret dX10_setOrbit_65 rfl (e5 q2 q4 q6 q8 q9)
          · skip
            refine wp_iload_n dX10_within_5 rfl ?_
            refine wp_iload_n dX10_within_6 rfl ?_
            refine wp_icmp_gt 14 dX10_within_7 (by decide) (fun q11 => ?_) (fun q12 => ?_)
            · skip
              refine wp_iconst (0 : Int32) dX10_within_14 (by decide) ?_
              refine wp_zret dX10_within_15 rfl rfl ?_
              show WP G (d + 2) (0, 0) μX10_setOrbit 25 [.ref (gB G), .int x, .int y, .int z, .int w, .int u, .int v] [.int (0 : Int32)] m _
              refine wp_if_eq 63 dX10_setOrbit_25 (by decide) (fun _ => ?_) (fun q => absurd (by decide) q)
              refine wp_ldc dX10_setOrbit_63 kX10_42 ?_
              exact wp_iret dX10_setOrbit_65 rfl (e6 q2 q4 q6 q8 q10 q11)
            · skip
              refine wp_iconst (1 : Int32) dX10_within_10 (by decide) ?_
              refine wp_goto 15 dX10_within_11 (by decide) ?_
              refine wp_zret dX10_within_15 rfl rfl ?_
              show WP G (d + 2) (0, 0) μX10_setOrbit 25 [.ref (gB G), .int x, .int y, .int z, .int w, .int u, .int v] [.int (1 : Int32)] m _
              refine wp_if_eq 63 dX10_setOrbit_25 (by decide) (fun q => absurd q (by decide)) (fun _ => ?_)
              refine wp_iload dX10_setOrbit_28 rfl ?_
              refine wp_iconst (0 : Int32) dX10_setOrbit_30 (by decide) ?_
              refine wp_sipush (10000 : Int32) dX10_setOrbit_31 (by decide) ?_
              refine wp_callS (As := [.int w, .int (0 : Int32), .int (10000 : Int32)]) (S := []) (b' := (0, 0)) (b := (0, 0)) dX10_setOrbit_34 MX10_35 rfl rfl (Nat.le_of_ble_eq_true rfl) ?_
              refine WPM.of pX10 (Nat.le_of_ble_eq_true rfl) rfl ?_
              refine wp_iload_n dX10_within_0 rfl ?_
              refine wp_iload_n dX10_within_1 rfl ?_
              refine wp_icmp_lt 14 dX10_within_2 (by decide) (fun q13 => ?_) (fun q14 => ?_)
              · skip
                refine wp_iconst (0 : Int32) dX10_within_14 (by decide) ?_
                refine wp_zret dX10_within_15 rfl rfl ?_
                show WP G (d + 2) (0, 0) μX10_setOrbit 37 [.ref (gB G), .int x, .int y, .int z, .int w, .int u, .int v] [.int (0 : Int32)] m _
                refine wp_if_eq 63 dX10_setOrbit_37 (by decide) (fun _ => ?_) (fun q => absurd (by decide) q)
                refine wp_ldc dX10_setOrbit_63 kX10_42 ?_
                exact wp_iret dX10_setOrbit_65 rfl (e7 q2 q4 q6 q8 q10 q12 q13)
              · skip
                refine wp_iload_n dX10_within_5 rfl ?_
                refine wp_iload_n dX10_within_6 rfl ?_
                refine wp_icmp_gt 14 dX10_within_7 (by decide) (fun q15 => ?_) (fun q16 => ?_)
                · skip
                  refine wp_iconst (0 : Int32) dX10_within_14 (by decide) ?_
                  refine wp_zret dX10_within_15 rfl rfl ?_
                  show WP G (d + 2) (0, 0) μX10_setOrbit 37 [.ref (gB G), .int x, .int y, .int z, .int w, .int u, .int v] [.int (0 : Int32)] m _
                  refine wp_if_eq 63 dX10_setOrbit_37 (by decide) (fun _ => ?_) (fun q => absurd (by decide) q)
                  refine wp_ldc dX10_setOrbit_63 kX10_42 ?_
                  exact wp_iret dX10_setOrbit_65 rfl (e8 q2 q4 q6 q8 q10 q12 q14 q15)
                · skip
                  refine wp_iconst (1 : Int32) dX10_within_10 (by decide) ?_
                  refine wp_goto 15 dX10_within_11 (by decide) ?_
                  refine wp_zret dX10_within_15 rfl rfl ?_
                  show WP G (d + 2) (0, 0) μX10_setOrbit 37 [.ref (gB G), .int x, .int y, .int z, .int w, .int u, .int v] [.int (1 : Int32)] m _
                  refine wp_if_eq 63 dX10_setOrbit_37 (by decide) (fun q => absurd q (by decide)) (fun _ => ?_)
                  refine wp_iload dX10_setOrbit_40 rfl ?_
                  refine wp_iconst (0 : Int32) dX10_setOrbit_42 (by decide) ?_
                  refine wp_bipush (100 : Int32) dX10_setOrbit_43 (by decide) ?_
                  refine wp_callS (As := [.int u, .int (0 : Int32), .int (100 : Int32)]) (S := []) (b' := (0, 0)) (b := (0, 0)) dX10_setOrbit_45 MX10_35 rfl rfl (Nat.le_of_ble_eq_true rfl) ?_
                  refine WPM.of pX10 (Nat.le_of_ble_eq_true rfl) rfl ?_
                  refine wp_iload_n dX10_within_0 rfl ?_
                  refine wp_iload_n dX10_within_1 rfl ?_
                  refine wp_icmp_lt 14 dX10_within_2 (by decide) (fun q17 => ?_) (fun q18 => ?_)
                  · skip
                    refine wp_iconst (0 : Int32) dX10_within_14 (by decide) ?_
                    refine wp_zret dX10_within_15 rfl rfl ?_
                    show WP G (d + 2) (0, 0) μX10_setOrbit 48 [.ref (gB G), .int x, .int y, .int z, .int w, .int u, .int v] [.int (0 : Int32)] m _
                    refine wp_if_eq 63 dX10_setOrbit_48 (by decide) (fun _ => ?_) (fun q => absurd (by decide) q)
                    refine wp_ldc dX10_setOrbit_63 kX10_42 ?_
                    exact wp_iret dX10_setOrbit_65 rfl (e9 q2 q4 q6 q8 q10 q12 q14 q16 q17)
                  · skip
                    refine wp_iload_n dX10_within_5 rfl ?_
                    refine wp_iload_n dX10_within_6 rfl ?_
                    refine wp_icmp_gt 14 dX10_within_7 (by decide) (fun q19 => ?_) (fun q20 => ?_)
                    · skip
                      refine wp_iconst (0 : Int32) dX10_within_14 (by decide) ?_
                      refine wp_zret dX10_within_15 rfl rfl ?_
                      show WP G (d + 2) (0, 0) μX10_setOrbit 48 [.ref (gB G), .int x, .int y, .int z, .int w, .int u, .int v] [.int (0 : Int32)] m _
                      refine wp_if_eq 63 dX10_setOrbit_48 (by decide) (fun _ => ?_) (fun q => absurd (by decide) q)
                      refine wp_ldc dX10_setOrbit_63 kX10_42 ?_
                      exact wp_iret dX10_setOrbit_65 rfl (e10 q2 q4 q6 q8 q10 q12 q14 q16 q18 q19)
                    · skip
                      refine wp_iconst (1 : Int32) dX10_within_10 (by decide) ?_
                      refine wp_goto 15 dX10_within_11 (by decide) ?_
                      refine wp_zret dX10_within_15 rfl rfl ?_
                      show WP G (d + 2) (0, 0) μX10_setOrbit 48 [.ref (gB G), .int x, .int y, .int z, .int w, .int u, .int v] [.int (1 : Int32)] m _
                      refine wp_if_eq 63 dX10_setOrbit_48 (by decide) (fun q => absurd q (by decide)) (fun _ => ?_)
                      refine wp_iload dX10_setOrbit_51 rfl ?_
                      refine wp_iconst (0 : Int32) dX10_setOrbit_53 (by decide) ?_
                      refine wp_sipush (10000 : Int32) dX10_setOrbit_54 (by decide) ?_
                      refine wp_callS (As := [.int v, .int (0 : Int32), .int (10000 : Int32)]) (S := []) (b' := (0, 0)) (b := (0, 0)) dX10_setOrbit_57 MX10_35 rfl rfl (Nat.le_of_ble_eq_true rfl) ?_
                      refine WPM.of pX10 (Nat.le_of_ble_eq_true rfl) rfl ?_
                      refine wp_iload_n dX10_within_0 rfl ?_
                      refine wp_iload_n dX10_within_1 rfl ?_
                      refine wp_icmp_lt 14 dX10_within_2 (by decide) (fun q21 => ?_) (fun q22 => ?_)
                      · skip
                        refine wp_iconst (0 : Int32) dX10_within_14 (by decide) ?_
                        refine wp_zret dX10_within_15 rfl rfl ?_
                        show WP G (d + 2) (0, 0) μX10_setOrbit 60 [.ref (gB G), .int x, .int y, .int z, .int w, .int u, .int v] [.int (0 : Int32)] m _
                        refine wp_if_ne 66 dX10_setOrbit_60 (by decide) (fun q => absurd (by decide) q) (fun _ => ?_)
                        refine wp_ldc dX10_setOrbit_63 kX10_42 ?_
                        exact wp_iret dX10_setOrbit_65 rfl (e11 q2 q4 q6 q8 q10 q12 q14 q16 q18 q20 q21)
                      · skip
                        refine wp_iload_n dX10_within_5 rfl ?_
                        refine wp_iload_n dX10_within_6 rfl ?_
                        refine wp_icmp_gt 14 dX10_within_7 (by decide) (fun q23 => ?_) (fun q24 => ?_)
                        · skip
                          refine wp_iconst (0 : Int32) dX10_within_14 (by decide) ?_
                          refine wp_zret dX10_within_15 rfl rfl ?_
                          show WP G (d + 2) (0, 0) μX10_setOrbit 60 [.ref (gB G), .int x, .int y, .int z, .int w, .int u, .int v] [.int (0 : Int32)] m _
                          refine wp_if_ne 66 dX10_setOrbit_60 (by decide) (fun q => absurd (by decide) q) (fun _ => ?_)
                          refine wp_ldc dX10_setOrbit_63 kX10_42 ?_
                          exact wp_iret dX10_setOrbit_65 rfl (e12 q2 q4 q6 q8 q10 q12 q14 q16 q18 q20 q22 q23)
                        · skip
                          refine wp_iconst (1 : Int32) dX10_within_10 (by decide) ?_
                          refine wp_goto 15 dX10_within_11 (by decide) ?_
                          refine wp_zret dX10_within_15 rfl rfl ?_
                          show WP G (d + 2) (0, 0) μX10_setOrbit 60 [.ref (gB G), .int x, .int y, .int z, .int w, .int u, .int v] [.int (1 : Int32)] m _
                          refine wp_if_ne 66 dX10_setOrbit_60 (by decide) (fun _ => ?_) (fun q => absurd q (by decide))
                          refine wp_aload_n dX10_setOrbit_66 rfl ?_
                          refine wp_getr (gB G + 1) dX10_setOrbit_67 fX10_10 (ka0 hF) (hF.2 _ _) (rra 1 (isK_le (ka0 hF)) (fun _ => rfl)) ?_
                          refine wp_getr ((gB G + 1) + 6) dX10_setOrbit_70 fX10_146 (kc0 hF (isC1 G)) (hF.2 _ _) (rra 6 (isK_le (kc0 hF (isC1 G))) (fun _ => rfl)) ?_
                          refine wp_iload_n dX10_setOrbit_73 rfl ?_
                          refine wp_iload_n dX10_setOrbit_74 rfl ?_
                          refine wp_iload_n dX10_setOrbit_75 rfl ?_
                          refine wp_iload dX10_setOrbit_76 rfl ?_
                          refine wp_iload dX10_setOrbit_78 rfl ?_
                          refine wp_iload dX10_setOrbit_80 rfl ?_
                          refine wp_callV (As := [.int x, .int y, .int z, .int w, .int u, .int v]) (S := []) (b' := (0, 0)) (b := (0, 0)) dX10_setOrbit_82 MX10_150 (kc hF (isC1 G) 6 (by decide)) rfl rfl rfl rfl (Nat.le_of_ble_eq_true rfl) ?_
                          refine WPM.of pX5 (Nat.le_of_ble_eq_true rfl) rfl ?_
                          refine wp_aload_n dX5_begin_0 rfl ?_
                          refine wp_iload_n dX5_begin_1 rfl ?_
                          refine wp_puti dX5_begin_2 pX5_7 (kc hF (isC1 G) 6 (by decide)) ?_
                          have hF25 := Full_wfi 500 ((gB G + 1) + 6) x hF
                          refine wp_aload_n dX5_begin_5 rfl ?_
                          refine wp_iload_n dX5_begin_6 rfl ?_
                          refine wp_puti dX5_begin_7 pX5_16 (kc hF25 (isC1 G) 6 (by decide)) ?_
                          have hF26 := Full_wfi 501 ((gB G + 1) + 6) y hF25
                          refine wp_aload_n dX5_begin_10 rfl ?_
                          refine wp_iload_n dX5_begin_11 rfl ?_
                          refine wp_puti dX5_begin_12 pX5_19 (kc hF26 (isC1 G) 6 (by decide)) ?_
                          have hF27 := Full_wfi 502 ((gB G + 1) + 6) z hF26
                          refine wp_aload_n dX5_begin_15 rfl ?_
                          refine wp_iload dX5_begin_16 rfl ?_
                          refine wp_puti dX5_begin_18 pX5_13 (kc hF27 (isC1 G) 6 (by decide)) ?_
                          have hF28 := Full_wfi 503 ((gB G + 1) + 6) w hF27
                          refine wp_aload_n dX5_begin_21 rfl ?_
                          refine wp_iload dX5_begin_22 rfl ?_
                          refine wp_puti dX5_begin_24 pX5_22 (kc hF28 (isC1 G) 6 (by decide)) ?_
                          have hF29 := Full_wfi 504 ((gB G + 1) + 6) u hF28
                          refine wp_aload_n dX5_begin_27 rfl ?_
                          refine wp_iload dX5_begin_28 rfl ?_
                          refine wp_puti dX5_begin_30 pX5_25 (kc hF29 (isC1 G) 6 (by decide)) ?_
                          have hF30 := Full_wfi 505 ((gB G + 1) + 6) v hF29
                          refine wp_vret dX5_begin_33 rfl ?_
                          show WP G (d + 2) (0, 0) μX10_setOrbit 85 [.ref (gB G), .int x, .int y, .int z, .int w, .int u, .int v] [] (wfi (wfi (wfi (wfi (wfi (wfi m 500 ((gB G + 1) + 6) x) 501 ((gB G + 1) + 6) y) 502 ((gB G + 1) + 6) z) 503 ((gB G + 1) + 6) w) 504 ((gB G + 1) + 6) u) 505 ((gB G + 1) + 6) v) _
                          refine wp_iconst (0 : Int32) dX10_setOrbit_85 (by decide) ?_
                          exact wp_iret dX10_setOrbit_86 rfl (e13 q2 q4 q6 q8 q10 q12 q14 q16 q18 q20 q22 q24)

theorem sC_setPower {G : Cx} {d : Nat} {m : Mm} {Q : Option Value → Mm → Prop} {x y z w : Int32}  (hF : Full G m) 
    (e1 : x < (0 : Int32) → Q (some (.int (-1000000002 : Int32))) m)
    (e2 : ¬ x < (0 : Int32) → (1000000 : Int32) < x → Q (some (.int (-1000000002 : Int32))) m)
    (e3 : ¬ x < (0 : Int32) → ¬ (1000000 : Int32) < x → y < (0 : Int32) → Q (some (.int (-1000000002 : Int32))) m)
    (e4 : ¬ x < (0 : Int32) → ¬ (1000000 : Int32) < x → ¬ y < (0 : Int32) → (1000000 : Int32) < y → Q (some (.int (-1000000002 : Int32))) m)
    (e5 : ¬ x < (0 : Int32) → ¬ (1000000 : Int32) < x → ¬ y < (0 : Int32) → ¬ (1000000 : Int32) < y → z < (0 : Int32) → Q (some (.int (-1000000002 : Int32))) m)
    (e6 : ¬ x < (0 : Int32) → ¬ (1000000 : Int32) < x → ¬ y < (0 : Int32) → ¬ (1000000 : Int32) < y → ¬ z < (0 : Int32) → (1000000000 : Int32) < z → Q (some (.int (-1000000002 : Int32))) m)
    (e7 : ¬ x < (0 : Int32) → ¬ (1000000 : Int32) < x → ¬ y < (0 : Int32) → ¬ (1000000 : Int32) < y → ¬ z < (0 : Int32) → ¬ (1000000000 : Int32) < z → w < (0 : Int32) → Q (some (.int (-1000000002 : Int32))) m)
    (e8 : ¬ x < (0 : Int32) → ¬ (1000000 : Int32) < x → ¬ y < (0 : Int32) → ¬ (1000000 : Int32) < y → ¬ z < (0 : Int32) → ¬ (1000000000 : Int32) < z → ¬ w < (0 : Int32) → z < w → Q (some (.int (-1000000002 : Int32))) m)
    (e9 : ¬ x < (0 : Int32) → ¬ (1000000 : Int32) < x → ¬ y < (0 : Int32) → ¬ (1000000 : Int32) < y → ¬ z < (0 : Int32) → ¬ (1000000000 : Int32) < z → ¬ w < (0 : Int32) → ¬ z < w → Q (some (.int (0 : Int32))) (wfi (wfi (wfi (wfi m 900 ((gB G + 1) + 7) x) 901 ((gB G + 1) + 7) y) 902 ((gB G + 1) + 7) z) 903 ((gB G + 1) + 7) w)) :
    WPM G (d + 2) (0, 0) μX10_setPower [.ref (gB G), .int x, .int y, .int z, .int w] m Q := by
  refine WPM.of pX10 (Nat.le_of_ble_eq_true rfl) rfl ?_
  refine wp_iload_n dX10_setPower_0 rfl ?_
  refine wp_iconst (0 : Int32) dX10_setPower_1 (by decide) ?_
  refine wp_ldc dX10_setPower_2 kX10_41 ?_
  refine wp_callS (As := [.int x, .int (0 : Int32), .int (1000000 : Int32)]) (S := []) (b' := (0, 0)) (b := (0, 0)) dX10_setPower_4 MX10_35 rfl rfl (Nat.le_of_ble_eq_true rfl) ?_
  refine WPM.of pX10 (Nat.le_of_ble_eq_true rfl) rfl ?_
  refine wp_iload_n dX10_within_0 rfl ?_
  refine wp_iload_n dX10_within_1 rfl ?_
  refine wp_icmp_lt 14 dX10_within_2 (by decide) (fun q1 => ?_) (fun q2 => ?_)
  · skip
    refine wp_iconst (0 : Int32) dX10_within_14 (by decide) ?_
    refine wp_zret dX10_within_15 rfl rfl ?_
    show WP G (d + 2) (0, 0) μX10_setPower 7 [.ref (gB G), .int x, .int y, .int z, .int w] [.int (0 : Int32)] m _
    refine wp_if_eq 40 dX10_setPower_7 (by decide) (fun _ => ?_) (fun q => absurd (by decide) q)
    refine wp_ldc dX10_setPower_40 kX10_42 ?_
    exact wp_iret dX10_setPower_42 rfl (e1 q1)
  · skip
    refine wp_iload_n dX10_within_5 rfl ?_
    refine wp_iload_n dX10_within_6 rfl ?_
    refine wp_icmp_gt 14 dX10_within_7 (by decide) (fun q3 => ?_) (fun q4 => ?_)
    · skip
      refine wp_iconst (0 : Int32) dX10_within_14 (by decide) ?_
      refine wp_zret dX10_within_15 rfl rfl ?_
      show WP G (d + 2) (0, 0) μX10_setPower 7 [.ref (gB G), .int x, .int y, .int z, .int w] [.int (0 : Int32)] m _
      refine wp_if_eq 40 dX10_setPower_7 (by decide) (fun _ => ?_) (fun q => absurd (by decide) q)
      refine wp_ldc dX10_setPower_40 kX10_42 ?_
      exact wp_iret dX10_setPower_42 rfl (e2 q2 q3)
    · skip
      refine wp_iconst (1 : Int32) dX10_within_10 (by decide) ?_
      refine wp_goto 15 dX10_within_11 (by decide) ?_
      refine wp_zret dX10_within_15 rfl rfl ?_
      show WP G (d + 2) (0, 0) μX10_setPower 7 [.ref (gB G), .int x, .int y, .int z, .int w] [.int (1 : Int32)] m _
      refine wp_if_eq 40 dX10_setPower_7 (by decide) (fun q => absurd q (by decide)) (fun _ => ?_)
      refine wp_iload_n dX10_setPower_10 rfl ?_
      refine wp_iconst (0 : Int32) dX10_setPower_11 (by decide) ?_
      refine wp_ldc dX10_setPower_12 kX10_41 ?_
      refine wp_callS (As := [.int y, .int (0 : Int32), .int (1000000 : Int32)]) (S := []) (b' := (0, 0)) (b := (0, 0)) dX10_setPower_14 MX10_35 rfl rfl (Nat.le_of_ble_eq_true rfl) ?_
      refine WPM.of pX10 (Nat.le_of_ble_eq_true rfl) rfl ?_
      refine wp_iload_n dX10_within_0 rfl ?_
      refine wp_iload_n dX10_within_1 rfl ?_
      refine wp_icmp_lt 14 dX10_within_2 (by decide) (fun q5 => ?_) (fun q6 => ?_)
      · skip
        refine wp_iconst (0 : Int32) dX10_within_14 (by decide) ?_
        refine wp_zret dX10_within_15 rfl rfl ?_
        show WP G (d + 2) (0, 0) μX10_setPower 17 [.ref (gB G), .int x, .int y, .int z, .int w] [.int (0 : Int32)] m _
        refine wp_if_eq 40 dX10_setPower_17 (by decide) (fun _ => ?_) (fun q => absurd (by decide) q)
        refine wp_ldc dX10_setPower_40 kX10_42 ?_
        exact wp_iret dX10_setPower_42 rfl (e3 q2 q4 q5)
      · skip
        refine wp_iload_n dX10_within_5 rfl ?_
        refine wp_iload_n dX10_within_6 rfl ?_
        refine wp_icmp_gt 14 dX10_within_7 (by decide) (fun q7 => ?_) (fun q8 => ?_)
        · skip
          refine wp_iconst (0 : Int32) dX10_within_14 (by decide) ?_
          refine wp_zret dX10_within_15 rfl rfl ?_
          show WP G (d + 2) (0, 0) μX10_setPower 17 [.ref (gB G), .int x, .int y, .int z, .int w] [.int (0 : Int32)] m _
          refine wp_if_eq 40 dX10_setPower_17 (by decide) (fun _ => ?_) (fun q => absurd (by decide) q)
          refine wp_ldc dX10_setPower_40 kX10_42 ?_
          exact wp_iret dX10_setPower_42 rfl (e4 q2 q4 q6 q7)
        · skip
          refine wp_iconst (1 : Int32) dX10_within_10 (by decide) ?_
          refine wp_goto 15 dX10_within_11 (by decide) ?_
          refine wp_zret dX10_within_15 rfl rfl ?_
          show WP G (d + 2) (0, 0) μX10_setPower 17 [.ref (gB G), .int x, .int y, .int z, .int w] [.int (1 : Int32)] m _
          refine wp_if_eq 40 dX10_setPower_17 (by decide) (fun q => absurd q (by decide)) (fun _ => ?_)
          refine wp_iload_n dX10_setPower_20 rfl ?_
          refine wp_iconst (0 : Int32) dX10_setPower_21 (by decide) ?_
          refine wp_ldc dX10_setPower_22 kX10_155 ?_
          refine wp_callS (As := [.int z, .int (0 : Int32), .int (1000000000 : Int32)]) (S := []) (b' := (0, 0)) (b := (0, 0)) dX10_setPower_24 MX10_35 rfl rfl (Nat.le_of_ble_eq_true rfl) ?_
          refine WPM.of pX10 (Nat.le_of_ble_eq_true rfl) rfl ?_
          refine wp_iload_n dX10_within_0 rfl ?_
          refine wp_iload_n dX10_within_1 rfl ?_
          refine wp_icmp_lt 14 dX10_within_2 (by decide) (fun q9 => ?_) (fun q10 => ?_)
          · skip
            refine wp_iconst (0 : Int32) dX10_within_14 (by decide) ?_
            refine wp_zret dX10_within_15 rfl rfl ?_
            show WP G (d + 2) (0, 0) μX10_setPower 27 [.ref (gB G), .int x, .int y, .int z, .int w] [.int (0 : Int32)] m _
            refine wp_if_eq 40 dX10_setPower_27 (by decide) (fun _ => ?_) (fun q => absurd (by decide) q)
            refine wp_ldc dX10_setPower_40 kX10_42 ?_
            exact wp_iret dX10_setPower_42 rfl (e5 q2 q4 q6 q8 q9)
          · skip
            refine wp_iload_n dX10_within_5 rfl ?_
            refine wp_iload_n dX10_within_6 rfl ?_
            refine wp_icmp_gt 14 dX10_within_7 (by decide) (fun q11 => ?_) (fun q12 => ?_)
            · skip
              refine wp_iconst (0 : Int32) dX10_within_14 (by decide) ?_
              refine wp_zret dX10_within_15 rfl rfl ?_
              show WP G (d + 2) (0, 0) μX10_setPower 27 [.ref (gB G), .int x, .int y, .int z, .int w] [.int (0 : Int32)] m _
              refine wp_if_eq 40 dX10_setPower_27 (by decide) (fun _ => ?_) (fun q => absurd (by decide) q)
              refine wp_ldc dX10_setPower_40 kX10_42 ?_
              exact wp_iret dX10_setPower_42 rfl (e6 q2 q4 q6 q8 q10 q11)
            · skip
              refine wp_iconst (1 : Int32) dX10_within_10 (by decide) ?_
              refine wp_goto 15 dX10_within_11 (by decide) ?_
              refine wp_zret dX10_within_15 rfl rfl ?_
              show WP G (d + 2) (0, 0) μX10_setPower 27 [.ref (gB G), .int x, .int y, .int z, .int w] [.int (1 : Int32)] m _
              refine wp_if_eq 40 dX10_setPower_27 (by decide) (fun q => absurd q (by decide)) (fun _ => ?_)
              refine wp_iload dX10_setPower_30 rfl ?_
              refine wp_iconst (0 : Int32) dX10_setPower_32 (by decide) ?_
              refine wp_iload_n dX10_setPower_33 rfl ?_
              refine wp_callS (As := [.int w, .int (0 : Int32), .int z]) (S := []) (b' := (0, 0)) (b := (0, 0)) dX10_setPower_34 MX10_35 rfl rfl (Nat.le_of_ble_eq_true rfl) ?_
              refine WPM.of pX10 (Nat.le_of_ble_eq_true rfl) rfl ?_
              refine wp_iload_n dX10_within_0 rfl ?_
              refine wp_iload_n dX10_within_1 rfl ?_
              refine wp_icmp_lt 14 dX10_within_2 (by decide) (fun q13 => ?_) (fun q14 => ?_)
              · skip
                refine wp_iconst (0 : Int32) dX10_within_14 (by decide) ?_
                refine wp_zret dX10_within_15 rfl rfl ?_
                show WP G (d + 2) (0, 0) μX10_setPower 37 [.ref (gB G), .int x, .int y, .int z, .int w] [.int (0 : Int32)] m _
                refine wp_if_ne 43 dX10_setPower_37 (by decide) (fun q => absurd (by decide) q) (fun _ => ?_)
                refine wp_ldc dX10_setPower_40 kX10_42 ?_
                exact wp_iret dX10_setPower_42 rfl (e7 q2 q4 q6 q8 q10 q12 q13)
              · skip
                refine wp_iload_n dX10_within_5 rfl ?_
                refine wp_iload_n dX10_within_6 rfl ?_
                refine wp_icmp_gt 14 dX10_within_7 (by decide) (fun q15 => ?_) (fun q16 => ?_)
                · skip
                  refine wp_iconst (0 : Int32) dX10_within_14 (by decide) ?_
                  refine wp_zret dX10_within_15 rfl rfl ?_
                  show WP G (d + 2) (0, 0) μX10_setPower 37 [.ref (gB G), .int x, .int y, .int z, .int w] [.int (0 : Int32)] m _
                  refine wp_if_ne 43 dX10_setPower_37 (by decide) (fun q => absurd (by decide) q) (fun _ => ?_)
                  refine wp_ldc dX10_setPower_40 kX10_42 ?_
                  exact wp_iret dX10_setPower_42 rfl (e8 q2 q4 q6 q8 q10 q12 q14 q15)
                · skip
                  refine wp_iconst (1 : Int32) dX10_within_10 (by decide) ?_
                  refine wp_goto 15 dX10_within_11 (by decide) ?_
                  refine wp_zret dX10_within_15 rfl rfl ?_
                  show WP G (d + 2) (0, 0) μX10_setPower 37 [.ref (gB G), .int x, .int y, .int z, .int w] [.int (1 : Int32)] m _
                  refine wp_if_ne 43 dX10_setPower_37 (by decide) (fun _ => ?_) (fun q => absurd q (by decide))
                  refine wp_aload_n dX10_setPower_43 rfl ?_
                  refine wp_getr (gB G + 1) dX10_setPower_44 fX10_10 (ka0 hF) (hF.2 _ _) (rra 1 (isK_le (ka0 hF)) (fun _ => rfl)) ?_
                  refine wp_getr ((gB G + 1) + 7) dX10_setPower_47 fX10_156 (kc0 hF (isC1 G)) (hF.2 _ _) (rra 7 (isK_le (kc0 hF (isC1 G))) (fun _ => rfl)) ?_
                  refine wp_iload_n dX10_setPower_50 rfl ?_
                  refine wp_iload_n dX10_setPower_51 rfl ?_
                  refine wp_iload_n dX10_setPower_52 rfl ?_
                  refine wp_iload dX10_setPower_53 rfl ?_
                  refine wp_callV (As := [.int x, .int y, .int z, .int w]) (S := []) (b' := (0, 0)) (b := (0, 0)) dX10_setPower_55 MX10_160 (kc hF (isC1 G) 7 (by decide)) rfl rfl rfl rfl (Nat.le_of_ble_eq_true rfl) ?_
                  refine WPM.of pX9 (Nat.le_of_ble_eq_true rfl) rfl ?_
                  refine wp_aload_n dX9_begin_0 rfl ?_
                  refine wp_iload_n dX9_begin_1 rfl ?_
                  refine wp_puti dX9_begin_2 pX9_7 (kc hF (isC1 G) 7 (by decide)) ?_
                  have hF17 := Full_wfi 900 ((gB G + 1) + 7) x hF
                  refine wp_aload_n dX9_begin_5 rfl ?_
                  refine wp_iload_n dX9_begin_6 rfl ?_
                  refine wp_puti dX9_begin_7 pX9_13 (kc hF17 (isC1 G) 7 (by decide)) ?_
                  have hF18 := Full_wfi 901 ((gB G + 1) + 7) y hF17
                  refine wp_aload_n dX9_begin_10 rfl ?_
                  refine wp_iload_n dX9_begin_11 rfl ?_
                  refine wp_puti dX9_begin_12 pX9_16 (kc hF18 (isC1 G) 7 (by decide)) ?_
                  have hF19 := Full_wfi 902 ((gB G + 1) + 7) z hF18
                  refine wp_aload_n dX9_begin_15 rfl ?_
                  refine wp_iload dX9_begin_16 rfl ?_
                  refine wp_puti dX9_begin_18 pX9_19 (kc hF19 (isC1 G) 7 (by decide)) ?_
                  have hF20 := Full_wfi 903 ((gB G + 1) + 7) w hF19
                  refine wp_vret dX9_begin_21 rfl ?_
                  show WP G (d + 2) (0, 0) μX10_setPower 58 [.ref (gB G), .int x, .int y, .int z, .int w] [] (wfi (wfi (wfi (wfi m 900 ((gB G + 1) + 7) x) 901 ((gB G + 1) + 7) y) 902 ((gB G + 1) + 7) z) 903 ((gB G + 1) + 7) w) _
                  refine wp_iconst (0 : Int32) dX10_setPower_58 (by decide) ?_
                  exact wp_iret dX10_setPower_59 rfl (e9 q2 q4 q6 q8 q10 q12 q14 q16)

theorem sC_setStepLength {G : Cx} {d : Nat} {m : Mm} {Q : Option Value → Mm → Prop} {x : Int32}  (hF : Full G m) 
    (e1 : x < (1 : Int32) → Q (some (.int (-1000000002 : Int32))) m)
    (e2 : ¬ x < (1 : Int32) → (60 : Int32) < x → Q (some (.int (-1000000002 : Int32))) m)
    (e3 : ¬ x < (1 : Int32) → ¬ (60 : Int32) < x → Q (some (.int (fi m 13 (gB G + 1)))) (wfi m 13 (gB G + 1) x)) :
    WPM G (d + 2) (0, 0) μX10_setStepLength [.ref (gB G), .int x] m Q := by
  refine WPM.of pX10 (Nat.le_of_ble_eq_true rfl) rfl ?_
  refine wp_iload_n dX10_setStepLength_0 rfl ?_
  refine wp_iconst (1 : Int32) dX10_setStepLength_1 (by decide) ?_
  refine wp_bipush (60 : Int32) dX10_setStepLength_2 (by decide) ?_
  refine wp_callS (As := [.int x, .int (1 : Int32), .int (60 : Int32)]) (S := []) (b' := (0, 0)) (b := (0, 0)) dX10_setStepLength_4 MX10_35 rfl rfl (Nat.le_of_ble_eq_true rfl) ?_
  refine WPM.of pX10 (Nat.le_of_ble_eq_true rfl) rfl ?_
  refine wp_iload_n dX10_within_0 rfl ?_
  refine wp_iload_n dX10_within_1 rfl ?_
  refine wp_icmp_lt 14 dX10_within_2 (by decide) (fun q1 => ?_) (fun q2 => ?_)
  · skip
    refine wp_iconst (0 : Int32) dX10_within_14 (by decide) ?_
    refine wp_zret dX10_within_15 rfl rfl ?_
    show WP G (d + 2) (0, 0) μX10_setStepLength 7 [.ref (gB G), .int x, lvU] [.int (0 : Int32)] m _
    refine wp_if_ne 13 dX10_setStepLength_7 (by decide) (fun q => absurd (by decide) q) (fun _ => ?_)
    refine wp_ldc dX10_setStepLength_10 kX10_42 ?_
    exact wp_iret dX10_setStepLength_12 rfl (e1 q1)
  · skip
    refine wp_iload_n dX10_within_5 rfl ?_
    refine wp_iload_n dX10_within_6 rfl ?_
    refine wp_icmp_gt 14 dX10_within_7 (by decide) (fun q3 => ?_) (fun q4 => ?_)
    · skip
      refine wp_iconst (0 : Int32) dX10_within_14 (by decide) ?_
      refine wp_zret dX10_within_15 rfl rfl ?_
      show WP G (d + 2) (0, 0) μX10_setStepLength 7 [.ref (gB G), .int x, lvU] [.int (0 : Int32)] m _
      refine wp_if_ne 13 dX10_setStepLength_7 (by decide) (fun q => absurd (by decide) q) (fun _ => ?_)
      refine wp_ldc dX10_setStepLength_10 kX10_42 ?_
      exact wp_iret dX10_setStepLength_12 rfl (e2 q2 q3)
    · skip
      refine wp_iconst (1 : Int32) dX10_within_10 (by decide) ?_
      refine wp_goto 15 dX10_within_11 (by decide) ?_
      refine wp_zret dX10_within_15 rfl rfl ?_
      show WP G (d + 2) (0, 0) μX10_setStepLength 7 [.ref (gB G), .int x, lvU] [.int (1 : Int32)] m _
      refine wp_if_ne 13 dX10_setStepLength_7 (by decide) (fun _ => ?_) (fun q => absurd q (by decide))
      refine wp_aload_n dX10_setStepLength_13 rfl ?_
      refine wp_getr (gB G + 1) dX10_setStepLength_14 fX10_10 (ka0 hF) (hF.2 _ _) (rra 1 (isK_le (ka0 hF)) (fun _ => rfl)) ?_
      refine wp_geti (fi m 13 (gB G + 1)) dX10_setStepLength_17 fX10_165 (Or.inl rfl) (kc0 hF (isC1 G)) rfl ?_
      refine wp_istore_n dX10_setStepLength_20 (by decide) rfl ?_
      refine wp_aload_n dX10_setStepLength_21 rfl ?_
      refine wp_getr (gB G + 1) dX10_setStepLength_22 fX10_10 (ka0 hF) (hF.2 _ _) (rra 1 (isK_le (ka0 hF)) (fun _ => rfl)) ?_
      refine wp_iload_n dX10_setStepLength_25 rfl ?_
      refine wp_puti dX10_setStepLength_26 pX10_165 (kc0 hF (isC1 G)) ?_
      have hF5 := Full_wfi 13 (gB G + 1) x hF
      refine wp_iload_n dX10_setStepLength_29 rfl ?_
      exact wp_iret dX10_setStepLength_30 rfl (e3 q2 q4)

theorem sC_linkCount {G : Cx} {d : Nat} {m : Mm} {Q : Option Value → Mm → Prop}  (hF : Full G m) 
    (e1 : Q (some (.int (fi m 6 (gB G + 1)))) m) :
    WPM G (d + 1) (0, 0) μX10_linkCount [.ref (gB G)] m Q := by
  refine WPM.of pX10 (Nat.le_of_ble_eq_true rfl) rfl ?_
  refine wp_aload_n dX10_linkCount_0 rfl ?_
  refine wp_getr (gB G + 1) dX10_linkCount_1 fX10_10 (ka0 hF) (hF.2 _ _) (rra 1 (isK_le (ka0 hF)) (fun _ => rfl)) ?_
  refine wp_geti (fi m 6 (gB G + 1)) dX10_linkCount_4 fX10_96 (Or.inl rfl) (kc0 hF (isC1 G)) rfl ?_
  exact wp_iret dX10_linkCount_7 rfl (e1)

theorem sC_addNode {G : Cx} {d : Nat} {m : Mm} {Q : Option Value → Mm → Prop} {x y z w u : Int32} {n : Nat} (hF : Full G m) (hn : fi m 5 (gB G + 1) = nI n) (hm : n ≤ 12)
    (e1 : x < (1 : Int32) → Q (some (.int (-1000000002 : Int32))) m)
    (e2 : ¬ x < (1 : Int32) → (100000 : Int32) < x → Q (some (.int (-1000000002 : Int32))) m)
    (e3 : ¬ x < (1 : Int32) → ¬ (100000 : Int32) < x → y < (-200000 : Int32) → Q (some (.int (-1000000002 : Int32))) m)
    (e4 : ¬ x < (1 : Int32) → ¬ (100000 : Int32) < x → ¬ y < (-200000 : Int32) → (200000 : Int32) < y → Q (some (.int (-1000000002 : Int32))) m)
    (e5 : ¬ x < (1 : Int32) → ¬ (100000 : Int32) < x → ¬ y < (-200000 : Int32) → ¬ (200000 : Int32) < y → z < (0 : Int32) → Q (some (.int (-1000000002 : Int32))) m)
    (e6 : ¬ x < (1 : Int32) → ¬ (100000 : Int32) < x → ¬ y < (-200000 : Int32) → ¬ (200000 : Int32) < y → ¬ z < (0 : Int32) → (10000 : Int32) < z → Q (some (.int (-1000000002 : Int32))) m)
    (e7 : ¬ x < (1 : Int32) → ¬ (100000 : Int32) < x → ¬ y < (-200000 : Int32) → ¬ (200000 : Int32) < y → ¬ z < (0 : Int32) → ¬ (10000 : Int32) < z → w < (0 : Int32) → Q (some (.int (-1000000002 : Int32))) m)
    (e8 : ¬ x < (1 : Int32) → ¬ (100000 : Int32) < x → ¬ y < (-200000 : Int32) → ¬ (200000 : Int32) < y → ¬ z < (0 : Int32) → ¬ (10000 : Int32) < z → ¬ w < (0 : Int32) → (10000 : Int32) < w → Q (some (.int (-1000000002 : Int32))) m)
    (e9 : ¬ x < (1 : Int32) → ¬ (100000 : Int32) < x → ¬ y < (-200000 : Int32) → ¬ (200000 : Int32) < y → ¬ z < (0 : Int32) → ¬ (10000 : Int32) < z → ¬ w < (0 : Int32) → ¬ (10000 : Int32) < w → u < (0 : Int32) → Q (some (.int (-1000000002 : Int32))) m)
    (e10 : ¬ x < (1 : Int32) → ¬ (100000 : Int32) < x → ¬ y < (-200000 : Int32) → ¬ (200000 : Int32) < y → ¬ z < (0 : Int32) → ¬ (10000 : Int32) < z → ¬ w < (0 : Int32) → ¬ (10000 : Int32) < w → ¬ u < (0 : Int32) → (1000000 : Int32) < u → Q (some (.int (-1000000002 : Int32))) m)
    (e11 : ¬ x < (1 : Int32) → ¬ (100000 : Int32) < x → ¬ y < (-200000 : Int32) → ¬ (200000 : Int32) < y → ¬ z < (0 : Int32) → ¬ (10000 : Int32) < z → ¬ w < (0 : Int32) → ¬ (10000 : Int32) < w → ¬ u < (0 : Int32) → ¬ (1000000 : Int32) < u → n < 12 → Q (some (.int (nI n))) (wfi (wfi (wfi (wfi (wfi (wfi (wfi (wfi (wfi (wfi (wfi (wfi m 400 (nd (gB G + 1) n) x) 401 (nd (gB G + 1) n) y) 402 (nd (gB G + 1) n) z) 403 (nd (gB G + 1) n) w) 404 (nd (gB G + 1) n) u) 405 (nd (gB G + 1) n) (-200000 : Int32)) 406 (nd (gB G + 1) n) (200000 : Int32)) 407 (nd (gB G + 1) n) y) 408 (nd (gB G + 1) n) y) 409 (nd (gB G + 1) n) (0 : Int32)) 410 (nd (gB G + 1) n) (-1 : Int32)) 5 (gB G + 1) (nI (n + 1))))
    (e12 : ¬ x < (1 : Int32) → ¬ (100000 : Int32) < x → ¬ y < (-200000 : Int32) → ¬ (200000 : Int32) < y → ¬ z < (0 : Int32) → ¬ (10000 : Int32) < z → ¬ w < (0 : Int32) → ¬ (10000 : Int32) < w → ¬ u < (0 : Int32) → ¬ (1000000 : Int32) < u → ¬ n < 12 → Q (some (.int (-1000000003 : Int32))) m) :
    WPM G (d + 3) (0, 0) μX10_addNode [.ref (gB G), .int x, .int y, .int z, .int w, .int u] m Q := by
  refine WPM.of pX10 (Nat.le_of_ble_eq_true rfl) rfl ?_
  refine wp_iload_n dX10_addNode_0 rfl ?_
  refine wp_iconst (1 : Int32) dX10_addNode_1 (by decide) ?_
  refine wp_ldc dX10_addNode_2 kX10_34 ?_
  refine wp_callS (As := [.int x, .int (1 : Int32), .int (100000 : Int32)]) (S := []) (b' := (0, 0)) (b := (0, 0)) dX10_addNode_4 MX10_35 rfl rfl (Nat.le_of_ble_eq_true rfl) ?_
  refine WPM.of pX10 (Nat.le_of_ble_eq_true rfl) rfl ?_
  refine wp_iload_n dX10_within_0 rfl ?_
  refine wp_iload_n dX10_within_1 rfl ?_
  refine wp_icmp_lt 14 dX10_within_2 (by decide) (fun q1 => ?_) (fun q2 => ?_)
  · skip
    refine wp_iconst (0 : Int32) dX10_within_14 (by decide) ?_
    refine wp_zret dX10_within_15 rfl rfl ?_
    show WP G (d + 3) (0, 0) μX10_addNode 7 [.ref (gB G), .int x, .int y, .int z, .int w, .int u, lvU] [.int (0 : Int32)] m _
    refine wp_if_eq 55 dX10_addNode_7 (by decide) (fun _ => ?_) (fun q => absurd (by decide) q)
    refine wp_ldc dX10_addNode_55 kX10_42 ?_
    exact wp_iret dX10_addNode_57 rfl (e1 q1)
  · skip
    refine wp_iload_n dX10_within_5 rfl ?_
    refine wp_iload_n dX10_within_6 rfl ?_
    refine wp_icmp_gt 14 dX10_within_7 (by decide) (fun q3 => ?_) (fun q4 => ?_)
    · skip
      refine wp_iconst (0 : Int32) dX10_within_14 (by decide) ?_
      refine wp_zret dX10_within_15 rfl rfl ?_
      show WP G (d + 3) (0, 0) μX10_addNode 7 [.ref (gB G), .int x, .int y, .int z, .int w, .int u, lvU] [.int (0 : Int32)] m _
      refine wp_if_eq 55 dX10_addNode_7 (by decide) (fun _ => ?_) (fun q => absurd (by decide) q)
      refine wp_ldc dX10_addNode_55 kX10_42 ?_
      exact wp_iret dX10_addNode_57 rfl (e2 q2 q3)
    · skip
      refine wp_iconst (1 : Int32) dX10_within_10 (by decide) ?_
      refine wp_goto 15 dX10_within_11 (by decide) ?_
      refine wp_zret dX10_within_15 rfl rfl ?_
      show WP G (d + 3) (0, 0) μX10_addNode 7 [.ref (gB G), .int x, .int y, .int z, .int w, .int u, lvU] [.int (1 : Int32)] m _
      refine wp_if_eq 55 dX10_addNode_7 (by decide) (fun q => absurd q (by decide)) (fun _ => ?_)
      refine wp_iload_n dX10_addNode_10 rfl ?_
      refine wp_ldc dX10_addNode_11 kX10_39 ?_
      refine wp_ldc dX10_addNode_13 kX10_40 ?_
      refine wp_callS (As := [.int y, .int (-200000 : Int32), .int (200000 : Int32)]) (S := []) (b' := (0, 0)) (b := (0, 0)) dX10_addNode_15 MX10_35 rfl rfl (Nat.le_of_ble_eq_true rfl) ?_
      refine WPM.of pX10 (Nat.le_of_ble_eq_true rfl) rfl ?_
      refine wp_iload_n dX10_within_0 rfl ?_
      refine wp_iload_n dX10_within_1 rfl ?_
      refine wp_icmp_lt 14 dX10_within_2 (by decide) (fun q5 => ?_) (fun q6 => ?_)
      · skip
        refine wp_iconst (0 : Int32) dX10_within_14 (by decide) ?_
        refine wp_zret dX10_within_15 rfl rfl ?_
        show WP G (d + 3) (0, 0) μX10_addNode 18 [.ref (gB G), .int x, .int y, .int z, .int w, .int u, lvU] [.int (0 : Int32)] m _
        refine wp_if_eq 55 dX10_addNode_18 (by decide) (fun _ => ?_) (fun q => absurd (by decide) q)
        refine wp_ldc dX10_addNode_55 kX10_42 ?_
        exact wp_iret dX10_addNode_57 rfl (e3 q2 q4 q5)
      · skip
        refine wp_iload_n dX10_within_5 rfl ?_
        refine wp_iload_n dX10_within_6 rfl ?_
        refine wp_icmp_gt 14 dX10_within_7 (by decide) (fun q7 => ?_) (fun q8 => ?_)
        · skip
          refine wp_iconst (0 : Int32) dX10_within_14 (by decide) ?_
          refine wp_zret dX10_within_15 rfl rfl ?_
          show WP G (d + 3) (0, 0) μX10_addNode 18 [.ref (gB G), .int x, .int y, .int z, .int w, .int u, lvU] [.int (0 : Int32)] m _
          refine wp_if_eq 55 dX10_addNode_18 (by decide) (fun _ => ?_) (fun q => absurd (by decide) q)
          refine wp_ldc dX10_addNode_55 kX10_42 ?_
          exact wp_iret dX10_addNode_57 rfl (e4 q2 q4 q6 q7)
        · skip
          refine wp_iconst (1 : Int32) dX10_within_10 (by decide) ?_
          refine wp_goto 15 dX10_within_11 (by decide) ?_
          refine wp_zret dX10_within_15 rfl rfl ?_
          show WP G (d + 3) (0, 0) μX10_addNode 18 [.ref (gB G), .int x, .int y, .int z, .int w, .int u, lvU] [.int (1 : Int32)] m _
          refine wp_if_eq 55 dX10_addNode_18 (by decide) (fun q => absurd q (by decide)) (fun _ => ?_)
          refine wp_iload_n dX10_addNode_21 rfl ?_
          refine wp_iconst (0 : Int32) dX10_addNode_22 (by decide) ?_
          refine wp_sipush (10000 : Int32) dX10_addNode_23 (by decide) ?_
          refine wp_callS (As := [.int z, .int (0 : Int32), .int (10000 : Int32)]) (S := []) (b' := (0, 0)) (b := (0, 0)) dX10_addNode_26 MX10_35 rfl rfl (Nat.le_of_ble_eq_true rfl) ?_
          refine WPM.of pX10 (Nat.le_of_ble_eq_true rfl) rfl ?_
          refine wp_iload_n dX10_within_0 rfl ?_
          refine wp_iload_n dX10_within_1 rfl ?_
          refine wp_icmp_lt 14 dX10_within_2 (by decide) (fun q9 => ?_) (fun q10 => ?_)
          · skip
            refine wp_iconst (0 : Int32) dX10_within_14 (by decide) ?_
            refine wp_zret dX10_within_15 rfl rfl ?_
            show WP G (d + 3) (0, 0) μX10_addNode 29 [.ref (gB G), .int x, .int y, .int z, .int w, .int u, lvU] [.int (0 : Int32)] m _
            refine wp_if_eq 55 dX10_addNode_29 (by decide) (fun _ => ?_) (fun q => absurd (by decide) q)
            refine wp_ldc dX10_addNode_55 kX10_42 ?_
            exact wp_iret dX10_addNode_57 rfl (e5 q2 q4 q6 q8 q9)
          · skip
            refine wp_iload_n dX10_within_5 rfl ?_
            refine wp_iload_n dX10_within_6 rfl ?_
            refine wp_icmp_gt 14 dX10_within_7 (by decide) (fun q11 => ?_) (fun q12 => ?_)
            · skip
              refine wp_iconst (0 : Int32) dX10_within_14 (by decide) ?_
              refine wp_zret dX10_within_15 rfl rfl ?_
              show WP G (d + 3) (0, 0) μX10_addNode 29 [.ref (gB G), .int x, .int y, .int z, .int w, .int u, lvU] [.int (0 : Int32)] m _
              refine wp_if_eq 55 dX10_addNode_29 (by decide) (fun _ => ?_) (fun q => absurd (by decide) q)
              refine wp_ldc dX10_addNode_55 kX10_42 ?_
              exact wp_iret dX10_addNode_57 rfl (e6 q2 q4 q6 q8 q10 q11)
            · skip
              refine wp_iconst (1 : Int32) dX10_within_10 (by decide) ?_
              refine wp_goto 15 dX10_within_11 (by decide) ?_
              refine wp_zret dX10_within_15 rfl rfl ?_
              show WP G (d + 3) (0, 0) μX10_addNode 29 [.ref (gB G), .int x, .int y, .int z, .int w, .int u, lvU] [.int (1 : Int32)] m _
              refine wp_if_eq 55 dX10_addNode_29 (by decide) (fun q => absurd q (by decide)) (fun _ => ?_)
              refine wp_iload dX10_addNode_32 rfl ?_
              refine wp_iconst (0 : Int32) dX10_addNode_34 (by decide) ?_
              refine wp_sipush (10000 : Int32) dX10_addNode_35 (by decide) ?_
              refine wp_callS (As := [.int w, .int (0 : Int32), .int (10000 : Int32)]) (S := []) (b' := (0, 0)) (b := (0, 0)) dX10_addNode_38 MX10_35 rfl rfl (Nat.le_of_ble_eq_true rfl) ?_
              refine WPM.of pX10 (Nat.le_of_ble_eq_true rfl) rfl ?_
              refine wp_iload_n dX10_within_0 rfl ?_
              refine wp_iload_n dX10_within_1 rfl ?_
              refine wp_icmp_lt 14 dX10_within_2 (by decide) (fun q13 => ?_) (fun q14 => ?_)
              · skip
                refine wp_iconst (0 : Int32) dX10_within_14 (by decide) ?_
                refine wp_zret dX10_within_15 rfl rfl ?_
                show WP G (d + 3) (0, 0) μX10_addNode 41 [.ref (gB G), .int x, .int y, .int z, .int w, .int u, lvU] [.int (0 : Int32)] m _
                refine wp_if_eq 55 dX10_addNode_41 (by decide) (fun _ => ?_) (fun q => absurd (by decide) q)
                refine wp_ldc dX10_addNode_55 kX10_42 ?_
                exact wp_iret dX10_addNode_57 rfl (e7 q2 q4 q6 q8 q10 q12 q13)
              · skip
                refine wp_iload_n dX10_within_5 rfl ?_
                refine wp_iload_n dX10_within_6 rfl ?_
                refine wp_icmp_gt 14 dX10_within_7 (by decide) (fun q15 => ?_) (fun q16 => ?_)
                · skip
                  refine wp_iconst (0 : Int32) dX10_within_14 (by decide) ?_
                  refine wp_zret dX10_within_15 rfl rfl ?_
                  show WP G (d + 3) (0, 0) μX10_addNode 41 [.ref (gB G), .int x, .int y, .int z, .int w, .int u, lvU] [.int (0 : Int32)] m _
                  refine wp_if_eq 55 dX10_addNode_41 (by decide) (fun _ => ?_) (fun q => absurd (by decide) q)
                  refine wp_ldc dX10_addNode_55 kX10_42 ?_
                  exact wp_iret dX10_addNode_57 rfl (e8 q2 q4 q6 q8 q10 q12 q14 q15)
                · skip
                  refine wp_iconst (1 : Int32) dX10_within_10 (by decide) ?_
                  refine wp_goto 15 dX10_within_11 (by decide) ?_
                  refine wp_zret dX10_within_15 rfl rfl ?_
                  show WP G (d + 3) (0, 0) μX10_addNode 41 [.ref (gB G), .int x, .int y, .int z, .int w, .int u, lvU] [.int (1 : Int32)] m _
                  refine wp_if_eq 55 dX10_addNode_41 (by decide) (fun q => absurd q (by decide)) (fun _ => ?_)
                  refine wp_iload dX10_addNode_44 rfl ?_
                  refine wp_iconst (0 : Int32) dX10_addNode_46 (by decide) ?_
                  refine wp_ldc dX10_addNode_47 kX10_41 ?_
                  refine wp_callS (As := [.int u, .int (0 : Int32), .int (1000000 : Int32)]) (S := []) (b' := (0, 0)) (b := (0, 0)) dX10_addNode_49 MX10_35 rfl rfl (Nat.le_of_ble_eq_true rfl) ?_
                  refine WPM.of pX10 (Nat.le_of_ble_eq_true rfl) rfl ?_
                  refine wp_iload_n dX10_within_0 rfl ?_
                  refine wp_iload_n dX10_within_1 rfl ?_
                  refine wp_icmp_lt 14 dX10_within_2 (by decide) (fun q17 => ?_) (fun q18 => ?_)
                  · skip
                    refine wp_iconst (0 : Int32) dX10_within_14 (by decide) ?_
                    refine wp_zret dX10_within_15 rfl rfl ?_
                    show WP G (d + 3) (0, 0) μX10_addNode 52 [.ref (gB G), .int x, .int y, .int z, .int w, .int u, lvU] [.int (0 : Int32)] m _
                    refine wp_if_ne 58 dX10_addNode_52 (by decide) (fun q => absurd (by decide) q) (fun _ => ?_)
                    refine wp_ldc dX10_addNode_55 kX10_42 ?_
                    exact wp_iret dX10_addNode_57 rfl (e9 q2 q4 q6 q8 q10 q12 q14 q16 q17)
                  · skip
                    refine wp_iload_n dX10_within_5 rfl ?_
                    refine wp_iload_n dX10_within_6 rfl ?_
                    refine wp_icmp_gt 14 dX10_within_7 (by decide) (fun q19 => ?_) (fun q20 => ?_)
                    · skip
                      refine wp_iconst (0 : Int32) dX10_within_14 (by decide) ?_
                      refine wp_zret dX10_within_15 rfl rfl ?_
                      show WP G (d + 3) (0, 0) μX10_addNode 52 [.ref (gB G), .int x, .int y, .int z, .int w, .int u, lvU] [.int (0 : Int32)] m _
                      refine wp_if_ne 58 dX10_addNode_52 (by decide) (fun q => absurd (by decide) q) (fun _ => ?_)
                      refine wp_ldc dX10_addNode_55 kX10_42 ?_
                      exact wp_iret dX10_addNode_57 rfl (e10 q2 q4 q6 q8 q10 q12 q14 q16 q18 q19)
                    · skip
                      refine wp_iconst (1 : Int32) dX10_within_10 (by decide) ?_
                      refine wp_goto 15 dX10_within_11 (by decide) ?_
                      refine wp_zret dX10_within_15 rfl rfl ?_
                      show WP G (d + 3) (0, 0) μX10_addNode 52 [.ref (gB G), .int x, .int y, .int z, .int w, .int u, lvU] [.int (1 : Int32)] m _
                      refine wp_if_ne 58 dX10_addNode_52 (by decide) (fun _ => ?_) (fun q => absurd q (by decide))
                      refine wp_aload_n dX10_addNode_58 rfl ?_
                      refine wp_getr (gB G + 1) dX10_addNode_59 fX10_10 (ka0 hF) (hF.2 _ _) (rra 1 (isK_le (ka0 hF)) (fun _ => rfl)) ?_
                      refine wp_geti (nI n) dX10_addNode_62 fX10_43 (Or.inl rfl) (kc0 hF (isC1 G)) hn ?_
                      refine wp_istore dX10_addNode_65 (by decide) rfl ?_
                      refine wp_iload dX10_addNode_67 rfl ?_
                      refine wp_bipush (12 : Int32) dX10_addNode_69 (by decide) ?_
                      refine wp_icmp_lt 77 dX10_addNode_71 (by decide) (fun q21 => ?_) (fun q22 => ?_)
                      · have hp23 : n < 12 := (nlt q21 (by omega) (by omega))
                        refine wp_aload_n dX10_addNode_77 rfl ?_
                        refine wp_getr (gB G + 1) dX10_addNode_78 fX10_10 (ka0 hF) (hF.2 _ _) (rra 1 (isK_le (ka0 hF)) (fun _ => rfl)) ?_
                        refine wp_getr ((gB G + 1) + 1) dX10_addNode_81 fX10_48 (kc0 hF (isC1 G)) (hF.2 _ _) (rra 1 (isK_le (kc0 hF (isC1 G))) (fun _ => rfl)) ?_
                        refine wp_iload dX10_addNode_84 rfl ?_
                        refine wp_raldk (n := 12) n (nd (gB G + 1) n) dX10_addNode_86 (kc hF (isC1 G) 1 (by decide)) (by decide) (by decide) (lc (isC1 G) 1 (by decide)) (vin (by omega) (by decide)) (nIc (by omega)) (hF.2 _ _) (rnd hF (isC1 G)) ?_
                        refine wp_iload_n dX10_addNode_87 rfl ?_
                        refine wp_iload_n dX10_addNode_88 rfl ?_
                        refine wp_iload_n dX10_addNode_89 rfl ?_
                        refine wp_iload dX10_addNode_90 rfl ?_
                        refine wp_iload dX10_addNode_92 rfl ?_
                        refine wp_callV (As := [.int x, .int y, .int z, .int w, .int u]) (S := []) (b' := (0, 0)) (b := (0, 0)) dX10_addNode_94 MX10_52 (knd hF (isC1 G) (by omega)) rfl rfl rfl rfl (Nat.le_of_ble_eq_true rfl) ?_
                        refine WPM.of pX4 (Nat.le_of_ble_eq_true rfl) rfl ?_
                        refine wp_aload_n dX4_begin_0 rfl ?_
                        refine wp_iload_n dX4_begin_1 rfl ?_
                        refine wp_puti dX4_begin_2 pX4_9 (knd hF (isC1 G) (by omega)) ?_
                        have hF24 := Full_wfi 400 (nd (gB G + 1) n) x hF
                        refine wp_aload_n dX4_begin_5 rfl ?_
                        refine wp_iload_n dX4_begin_6 rfl ?_
                        refine wp_puti dX4_begin_7 pX4_15 (knd hF24 (isC1 G) (by omega)) ?_
                        have hF25 := Full_wfi 401 (nd (gB G + 1) n) y hF24
                        refine wp_aload_n dX4_begin_10 rfl ?_
                        refine wp_iload_n dX4_begin_11 rfl ?_
                        refine wp_puti dX4_begin_12 pX4_18 (knd hF25 (isC1 G) (by omega)) ?_
                        have hF26 := Full_wfi 402 (nd (gB G + 1) n) z hF25
                        refine wp_aload_n dX4_begin_15 rfl ?_
                        refine wp_iload dX4_begin_16 rfl ?_
                        refine wp_puti dX4_begin_18 pX4_21 (knd hF26 (isC1 G) (by omega)) ?_
                        have hF27 := Full_wfi 403 (nd (gB G + 1) n) w hF26
                        refine wp_aload_n dX4_begin_21 rfl ?_
                        refine wp_iload dX4_begin_22 rfl ?_
                        refine wp_puti dX4_begin_24 pX4_24 (knd hF27 (isC1 G) (by omega)) ?_
                        have hF28 := Full_wfi 404 (nd (gB G + 1) n) u hF27
                        refine wp_aload_n dX4_begin_27 rfl ?_
                        refine wp_ldc dX4_begin_28 kX4_27 ?_
                        refine wp_puti dX4_begin_30 pX4_28 (knd hF28 (isC1 G) (by omega)) ?_
                        have hF29 := Full_wfi 405 (nd (gB G + 1) n) (-200000 : Int32) hF28
                        refine wp_aload_n dX4_begin_33 rfl ?_
                        refine wp_ldc dX4_begin_34 kX4_31 ?_
                        refine wp_puti dX4_begin_36 pX4_32 (knd hF29 (isC1 G) (by omega)) ?_
                        have hF30 := Full_wfi 406 (nd (gB G + 1) n) (200000 : Int32) hF29
                        refine wp_aload_n dX4_begin_39 rfl ?_
                        refine wp_callV (As := []) (S := []) (b' := (0, 0)) (b := (0, 0)) dX4_begin_40 MX4_35 (knd hF30 (isC1 G) (by omega)) rfl rfl rfl rfl (Nat.le_of_ble_eq_true rfl) ?_
                        refine WPM.of pX4 (Nat.le_of_ble_eq_true rfl) rfl ?_
                        refine wp_aload_n dX4_beginRecords_0 rfl ?_
                        refine wp_aload_n dX4_beginRecords_1 rfl ?_
                        refine wp_geti y dX4_beginRecords_2 fX4_15 (Or.inl rfl) (knd hF30 (isC1 G) (by omega)) ((fi_ne (by decide)).trans ((fi_ne (by decide)).trans ((fi_ne (by decide)).trans ((fi_ne (by decide)).trans ((fi_ne (by decide)).trans fi_eq))))) ?_
                        refine wp_puti dX4_beginRecords_5 pX4_38 (knd hF30 (isC1 G) (by omega)) ?_
                        have hF31 := Full_wfi 407 (nd (gB G + 1) n) y hF30
                        refine wp_aload_n dX4_beginRecords_8 rfl ?_
                        refine wp_aload_n dX4_beginRecords_9 rfl ?_
                        refine wp_geti y dX4_beginRecords_10 fX4_15 (Or.inl rfl) (knd hF31 (isC1 G) (by omega)) ((fi_ne (by decide)).trans ((fi_ne (by decide)).trans ((fi_ne (by decide)).trans ((fi_ne (by decide)).trans ((fi_ne (by decide)).trans ((fi_ne (by decide)).trans fi_eq)))))) ?_
                        refine wp_puti dX4_beginRecords_13 pX4_41 (knd hF31 (isC1 G) (by omega)) ?_
                        have hF32 := Full_wfi 408 (nd (gB G + 1) n) y hF31
                        refine wp_aload_n dX4_beginRecords_16 rfl ?_
                        refine wp_iconst (0 : Int32) dX4_beginRecords_17 (by decide) ?_
                        refine wp_puti dX4_beginRecords_18 pX4_44 (knd hF32 (isC1 G) (by omega)) ?_
                        have hF33 := Full_wfi 409 (nd (gB G + 1) n) (0 : Int32) hF32
                        refine wp_aload_n dX4_beginRecords_21 rfl ?_
                        refine wp_iconst (-1 : Int32) dX4_beginRecords_22 (by decide) ?_
                        refine wp_puti dX4_beginRecords_23 pX4_47 (knd hF33 (isC1 G) (by omega)) ?_
                        have hF34 := Full_wfi 410 (nd (gB G + 1) n) (-1 : Int32) hF33
                        refine wp_vret dX4_beginRecords_26 rfl ?_
                        show WP G (d + 2) (0, 0) μX4_begin 43 [.ref (nd (gB G + 1) n), .int x, .int y, .int z, .int w, .int u] [] (wfi (wfi (wfi (wfi (wfi (wfi (wfi (wfi (wfi (wfi (wfi m 400 (nd (gB G + 1) n) x) 401 (nd (gB G + 1) n) y) 402 (nd (gB G + 1) n) z) 403 (nd (gB G + 1) n) w) 404 (nd (gB G + 1) n) u) 405 (nd (gB G + 1) n) (-200000 : Int32)) 406 (nd (gB G + 1) n) (200000 : Int32)) 407 (nd (gB G + 1) n) y) 408 (nd (gB G + 1) n) y) 409 (nd (gB G + 1) n) (0 : Int32)) 410 (nd (gB G + 1) n) (-1 : Int32)) _
                        refine wp_vret dX4_begin_43 rfl ?_
                        show WP G (d + 3) (0, 0) μX10_addNode 97 [.ref (gB G), .int x, .int y, .int z, .int w, .int u, .int (nI n)] [] (wfi (wfi (wfi (wfi (wfi (wfi (wfi (wfi (wfi (wfi (wfi m 400 (nd (gB G + 1) n) x) 401 (nd (gB G + 1) n) y) 402 (nd (gB G + 1) n) z) 403 (nd (gB G + 1) n) w) 404 (nd (gB G + 1) n) u) 405 (nd (gB G + 1) n) (-200000 : Int32)) 406 (nd (gB G + 1) n) (200000 : Int32)) 407 (nd (gB G + 1) n) y) 408 (nd (gB G + 1) n) y) 409 (nd (gB G + 1) n) (0 : Int32)) 410 (nd (gB G + 1) n) (-1 : Int32)) _
                        refine wp_aload_n dX10_addNode_97 rfl ?_
                        refine wp_getr (gB G + 1) dX10_addNode_98 fX10_10 (ka0 hF34) (hF34.2 _ _) (rra 1 (isK_le (ka0 hF34)) (fun _ => rfl)) ?_
                        refine wp_iload dX10_addNode_101 rfl ?_
                        refine wp_iconst (1 : Int32) dX10_addNode_103 (by decide) ?_
                        refine wp_iaddv (nI (n + 1)) dX10_addNode_104 (nadd (a := n) (b := 1) (by omega)) ?_
                        refine wp_puti dX10_addNode_105 pX10_43 (kc0 hF34 (isC1 G)) ?_
                        have hF35 := Full_wfi 5 (gB G + 1) (nI (n + 1)) hF34
                        refine wp_iload dX10_addNode_108 rfl ?_
                        exact wp_iret dX10_addNode_110 rfl (e11 q2 q4 q6 q8 q10 q12 q14 q16 q18 q20 hp23)
                      · have hp36 : ¬ n < 12 := (fun z => q22 (nlt_ (b := 12) z (by omega)))
                        refine wp_ldc dX10_addNode_74 kX10_47 ?_
                        exact wp_iret dX10_addNode_76 rfl (e12 q2 q4 q6 q8 q10 q12 q14 q16 q18 q20 hp36)
