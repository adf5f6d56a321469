theorem sM_nodeCount {G : Cx} {d : Nat} {m : Mm} {Q : Option Value → Mm → Prop}  (hF : Full G m) 
    (e1 : Q (some (.int (ai m (gB G + 294) 12))) m) :
    WPM G (d + 1) (0, 0) μX11_nodeCount [.ref (gB G + 293)] m Q := by
  refine WPM.of pX11 (Nat.le_of_ble_eq_true rfl) rfl ?_
  refine wp_aload_n dX11_nodeCount_0 rfl ?_
  refine wp_getr (gB G + 294) dX11_nodeCount_1 fX11_7 (ka hF 293 (by decide)) (hF.2 _ _) (rra 1 (isK_le (ka hF 293 (by decide))) (fun _ => rfl)) ?_
  refine wp_bipush (12 : Int32) dX11_nodeCount_4 (by decide) ?_
  refine wp_ialdk (n := 1486) 12 (ai m (gB G + 294) 12) dX11_nodeCount_6 (ka hF 294 (by decide)) (la 294) (vinl (by decide)) rfl rfl ?_
  exact wp_iret dX11_nodeCount_7 rfl (e1)

theorem sM_louvreCount {G : Cx} {d : Nat} {m : Mm} {Q : Option Value → Mm → Prop}  (hF : Full G m) 
    (e1 : Q (some (.int (ai m (gB G + 294) 13))) m) :
    WPM G (d + 1) (0, 0) μX11_louvreCount [.ref (gB G + 293)] m Q := by
  refine WPM.of pX11 (Nat.le_of_ble_eq_true rfl) rfl ?_
  refine wp_aload_n dX11_louvreCount_0 rfl ?_
  refine wp_getr (gB G + 294) dX11_louvreCount_1 fX11_7 (ka hF 293 (by decide)) (hF.2 _ _) (rra 1 (isK_le (ka hF 293 (by decide))) (fun _ => rfl)) ?_
  refine wp_bipush (13 : Int32) dX11_louvreCount_4 (by decide) ?_
  refine wp_ialdk (n := 1486) 13 (ai m (gB G + 294) 13) dX11_louvreCount_6 (ka hF 294 (by decide)) (la 294) (vinl (by decide)) rfl rfl ?_
  exact wp_iret dX11_louvreCount_7 rfl (e1)

theorem sM_heaterCount {G : Cx} {d : Nat} {m : Mm} {Q : Option Value → Mm → Prop}  (hF : Full G m) 
    (e1 : Q (some (.int (ai m (gB G + 294) 14))) m) :
    WPM G (d + 1) (0, 0) μX11_heaterCount [.ref (gB G + 293)] m Q := by
  refine WPM.of pX11 (Nat.le_of_ble_eq_true rfl) rfl ?_
  refine wp_aload_n dX11_heaterCount_0 rfl ?_
  refine wp_getr (gB G + 294) dX11_heaterCount_1 fX11_7 (ka hF 293 (by decide)) (hF.2 _ _) (rra 1 (isK_le (ka hF 293 (by decide))) (fun _ => rfl)) ?_
  refine wp_bipush (14 : Int32) dX11_heaterCount_4 (by decide) ?_
  refine wp_ialdk (n := 1486) 14 (ai m (gB G + 294) 14) dX11_heaterCount_6 (ka hF 294 (by decide)) (la 294) (vinl (by decide)) rfl rfl ?_
  exact wp_iret dX11_heaterCount_7 rfl (e1)

theorem sM_time {G : Cx} {d : Nat} {m : Mm} {Q : Option Value → Mm → Prop}  (hF : Full G m) 
    (e1 : Q (some (.int (ai m (gB G + 294) 0))) m) :
    WPM G (d + 1) (0, 0) μX11_time [.ref (gB G + 293)] m Q := by
  refine WPM.of pX11 (Nat.le_of_ble_eq_true rfl) rfl ?_
  refine wp_aload_n dX11_time_0 rfl ?_
  refine wp_getr (gB G + 294) dX11_time_1 fX11_7 (ka hF 293 (by decide)) (hF.2 _ _) (rra 1 (isK_le (ka hF 293 (by decide))) (fun _ => rfl)) ?_
  refine wp_iconst (0 : Int32) dX11_time_4 (by decide) ?_
  refine wp_ialdk (n := 1486) 0 (ai m (gB G + 294) 0) dX11_time_5 (ka hF 294 (by decide)) (la 294) (vinl (by decide)) rfl rfl ?_
  exact wp_iret dX11_time_6 rfl (e1)

theorem sM_charge {G : Cx} {d : Nat} {m : Mm} {Q : Option Value → Mm → Prop}  (hF : Full G m) 
    (e1 : Q (some (.int (ai m (gB G + 294) 11))) m) :
    WPM G (d + 1) (0, 0) μX11_charge [.ref (gB G + 293)] m Q := by
  refine WPM.of pX11 (Nat.le_of_ble_eq_true rfl) rfl ?_
  refine wp_aload_n dX11_charge_0 rfl ?_
  refine wp_getr (gB G + 294) dX11_charge_1 fX11_7 (ka hF 293 (by decide)) (hF.2 _ _) (rra 1 (isK_le (ka hF 293 (by decide))) (fun _ => rfl)) ?_
  refine wp_bipush (11 : Int32) dX11_charge_4 (by decide) ?_
  refine wp_ialdk (n := 1486) 11 (ai m (gB G + 294) 11) dX11_charge_6 (ka hF 294 (by decide)) (la 294) (vinl (by decide)) rfl rfl ?_
  exact wp_iret dX11_charge_7 rfl (e1)

theorem sM_violatorCount {G : Cx} {d : Nat} {m : Mm} {Q : Option Value → Mm → Prop}  (hF : Full G m) 
    (e1 : Q (some (.int (ai m (gB G + 294) 16))) m) :
    WPM G (d + 1) (0, 0) μX11_violatorCount [.ref (gB G + 293)] m Q := by
  refine WPM.of pX11 (Nat.le_of_ble_eq_true rfl) rfl ?_
  refine wp_aload_n dX11_violatorCount_0 rfl ?_
  refine wp_getr (gB G + 294) dX11_violatorCount_1 fX11_7 (ka hF 293 (by decide)) (hF.2 _ _) (rra 1 (isK_le (ka hF 293 (by decide))) (fun _ => rfl)) ?_
  refine wp_bipush (16 : Int32) dX11_violatorCount_4 (by decide) ?_
  refine wp_ialdk (n := 1486) 16 (ai m (gB G + 294) 16) dX11_violatorCount_6 (ka hF 294 (by decide)) (la 294) (vinl (by decide)) rfl rfl ?_
  exact wp_iret dX11_violatorCount_7 rfl (e1)

theorem sM_shedCount {G : Cx} {d : Nat} {m : Mm} {Q : Option Value → Mm → Prop}  (hF : Full G m) 
    (e1 : Q (some (.int (ai m (gB G + 294) 17))) m) :
    WPM G (d + 1) (0, 0) μX11_shedCount [.ref (gB G + 293)] m Q := by
  refine WPM.of pX11 (Nat.le_of_ble_eq_true rfl) rfl ?_
  refine wp_aload_n dX11_shedCount_0 rfl ?_
  refine wp_getr (gB G + 294) dX11_shedCount_1 fX11_7 (ka hF 293 (by decide)) (hF.2 _ _) (rra 1 (isK_le (ka hF 293 (by decide))) (fun _ => rfl)) ?_
  refine wp_bipush (17 : Int32) dX11_shedCount_4 (by decide) ?_
  refine wp_ialdk (n := 1486) 17 (ai m (gB G + 294) 17) dX11_shedCount_6 (ka hF 294 (by decide)) (la 294) (vinl (by decide)) rfl rfl ?_
  exact wp_iret dX11_shedCount_7 rfl (e1)

theorem sM_ruleCount {G : Cx} {d : Nat} {m : Mm} {Q : Option Value → Mm → Prop}  (hF : Full G m) 
    (e1 : Q (some (.int (ai m (gB G + 294) 15))) m) :
    WPM G (d + 1) (0, 0) μX11_ruleCount [.ref (gB G + 293)] m Q := by
  refine WPM.of pX11 (Nat.le_of_ble_eq_true rfl) rfl ?_
  refine wp_aload_n dX11_ruleCount_0 rfl ?_
  refine wp_getr (gB G + 294) dX11_ruleCount_1 fX11_7 (ka hF 293 (by decide)) (hF.2 _ _) (rra 1 (isK_le (ka hF 293 (by decide))) (fun _ => rfl)) ?_
  refine wp_bipush (15 : Int32) dX11_ruleCount_4 (by decide) ?_
  refine wp_ialdk (n := 1486) 15 (ai m (gB G + 294) 15) dX11_ruleCount_6 (ka hF 294 (by decide)) (la 294) (vinl (by decide)) rfl rfl ?_
  exact wp_iret dX11_ruleCount_7 rfl (e1)

theorem sM_errorCode {G : Cx} {d : Nat} {m : Mm} {Q : Option Value → Mm → Prop}  (hF : Full G m) 
    (e1 : Q (some (.int (fi m 1118 (gB G + 293)))) m) :
    WPM G (d + 1) (0, 0) μX11_errorCode [.ref (gB G + 293)] m Q := by
  refine WPM.of pX11 (Nat.le_of_ble_eq_true rfl) rfl ?_
  refine wp_aload_n dX11_errorCode_0 rfl ?_
  refine wp_geti (fi m 1118 (gB G + 293)) dX11_errorCode_1 fX11_298 (Or.inl rfl) (ka hF 293 (by decide)) rfl ?_
  exact wp_iret dX11_errorCode_4 rfl (e1)

theorem sM_errorPosition {G : Cx} {d : Nat} {m : Mm} {Q : Option Value → Mm → Prop}  (hF : Full G m) 
    (e1 : Q (some (.int (fi m 1119 (gB G + 293)))) m) :
    WPM G (d + 1) (0, 0) μX11_errorPosition [.ref (gB G + 293)] m Q := by
  refine WPM.of pX11 (Nat.le_of_ble_eq_true rfl) rfl ?_
  refine wp_aload_n dX11_errorPosition_0 rfl ?_
  refine wp_geti (fi m 1119 (gB G + 293)) dX11_errorPosition_1 fX11_45 (Or.inl rfl) (ka hF 293 (by decide)) rfl ?_
  exact wp_iret dX11_errorPosition_4 rfl (e1)

theorem sM_energy {G : Cx} {d : Nat} {m : Mm} {Q : Option Value → Mm → Prop} {x : Int32}  (hF : Full G m) 
    (g1 : ¬ x < (0 : Int32) → ¬ (2 : Int32) < x → vp_in x 3)
    (e1 : x < (0 : Int32) → Q (some (.long (-1000000002 : Int64))) m)
    (e2 : ¬ x < (0 : Int32) → (2 : Int32) < x → Q (some (.long (-1000000002 : Int64))) m)
    (e3 : ¬ x < (0 : Int32) → ¬ (2 : Int32) < x → Q (some (.long (al m (gB G + 297) x.toNatClampNeg))) m) :
    WPM G (d + 2) (0, 0) μX11_energy [.ref (gB G + 293), .int x] m Q := by
  refine WPM.of pX11 (Nat.le_of_ble_eq_true rfl) rfl ?_
  refine wp_iload_n dX11_energy_0 rfl ?_
  refine wp_iconst (0 : Int32) dX11_energy_1 (by decide) ?_
  refine wp_iconst (2 : Int32) dX11_energy_2 (by decide) ?_
  refine wp_callS (As := [.int x, .int (0 : Int32), .int (2 : Int32)]) (S := []) (b' := (0, 0)) (b := (0, 0)) dX11_energy_3 MX11_67 rfl rfl (Nat.le_of_ble_eq_true rfl) ?_
  refine WPM.of pX11 (Nat.le_of_ble_eq_true rfl) rfl ?_
  refine wp_iload_n dX11_isBetween_0 rfl ?_
  refine wp_iload_n dX11_isBetween_1 rfl ?_
  refine wp_icmp_lt 14 dX11_isBetween_2 (by decide) (fun q1 => ?_) (fun q2 => ?_)
  · skip
    refine wp_iconst (0 : Int32) dX11_isBetween_14 (by decide) ?_
    refine wp_zret dX11_isBetween_15 rfl rfl ?_
    show WP G (d + 2) (0, 0) μX11_energy 6 [.ref (gB G + 293), .int x] [.int (0 : Int32)] m _
    refine wp_if_eq 18 dX11_energy_6 (by decide) (fun _ => ?_) (fun q => absurd (by decide) q)
    refine wp_ldc2 dX11_energy_18 kX11_197 ?_
    exact wp_lret dX11_energy_21 rfl (e1 q1)
  · skip
    refine wp_iload_n dX11_isBetween_5 rfl ?_
    refine wp_iload_n dX11_isBetween_6 rfl ?_
    refine wp_icmp_gt 14 dX11_isBetween_7 (by decide) (fun q3 => ?_) (fun q4 => ?_)
    · skip
      refine wp_iconst (0 : Int32) dX11_isBetween_14 (by decide) ?_
      refine wp_zret dX11_isBetween_15 rfl rfl ?_
      show WP G (d + 2) (0, 0) μX11_energy 6 [.ref (gB G + 293), .int x] [.int (0 : Int32)] m _
      refine wp_if_eq 18 dX11_energy_6 (by decide) (fun _ => ?_) (fun q => absurd (by decide) q)
      refine wp_ldc2 dX11_energy_18 kX11_197 ?_
      exact wp_lret dX11_energy_21 rfl (e2 q2 q3)
    · skip
      refine wp_iconst (1 : Int32) dX11_isBetween_10 (by decide) ?_
      refine wp_goto 15 dX11_isBetween_11 (by decide) ?_
      refine wp_zret dX11_isBetween_15 rfl rfl ?_
      show WP G (d + 2) (0, 0) μX11_energy 6 [.ref (gB G + 293), .int x] [.int (1 : Int32)] m _
      refine wp_if_eq 18 dX11_energy_6 (by decide) (fun q => absurd q (by decide)) (fun _ => ?_)
      refine wp_aload_n dX11_energy_9 rfl ?_
      refine wp_getr (gB G + 297) dX11_energy_10 fX11_19 (ka hF 293 (by decide)) (hF.2 _ _) (rra 4 (isK_le (ka hF 293 (by decide))) (fun _ => rfl)) ?_
      refine wp_iload_n dX11_energy_13 rfl ?_
      refine wp_laldk (n := 3) x.toNatClampNeg (al m (gB G + 297) x.toNatClampNeg) dX11_energy_14 (ka hF 297 (by decide)) (la 297) (g1 q2 q4) rfl rfl ?_
      refine wp_goto 21 dX11_energy_15 (by decide) ?_
      exact wp_lret dX11_energy_21 rfl (e3 q2 q4)

theorem iM_temperature {G : Cx} {d : Nat} {m : Mm} {Q : Option Value → Mm → Prop} {i n : Nat}  (hF : Full G m) (hn : ai m (gB G + 294) 12 = nI (n + 1)) (hm : n + 1 ≤ 12) (hi : i < n + 1) 
    (e1 : Q (some (.int (ai m (gB G + 294) (11 * i + 21)))) m) :
    WPM G (d + 3) (0, 0) μX11_temperature [.ref (gB G + 293), .int (nI i)] m Q := by
  refine WPM.of pX11 (Nat.le_of_ble_eq_true rfl) rfl ?_
  refine wp_aload_n dX11_temperature_0 rfl ?_
  refine wp_iload_n dX11_temperature_1 rfl ?_
  refine wp_callV (As := [.int (nI i)]) (S := []) (b' := (0, 0)) (b := (0, 0)) dX11_temperature_2 MX11_93 (ka hF 293 (by decide)) rfl rfl rfl rfl (Nat.le_of_ble_eq_true rfl) ?_
  refine WPM.of pX11 (Nat.le_of_ble_eq_true rfl) rfl ?_
  refine wp_iload_n dX11_isNode_0 rfl ?_
  refine wp_iconst (0 : Int32) dX11_isNode_1 (by decide) ?_
  refine wp_aload_n dX11_isNode_2 rfl ?_
  refine wp_getr (gB G + 294) dX11_isNode_3 fX11_7 (ka hF 293 (by decide)) (hF.2 _ _) (rra 1 (isK_le (ka hF 293 (by decide))) (fun _ => rfl)) ?_
  refine wp_bipush (12 : Int32) dX11_isNode_6 (by decide) ?_
  refine wp_ialdk (n := 1486) 12 (nI (n + 1)) dX11_isNode_8 (ka hF 294 (by decide)) (la 294) (vinl (by decide)) rfl hn ?_
  refine wp_iconst (1 : Int32) dX11_isNode_9 (by decide) ?_
  refine wp_isubv (nI n) dX11_isNode_10 (nsub (a := n + 1) (b := 1) (by omega)) ?_
  refine wp_callS (As := [.int (nI i), .int (0 : Int32), .int (nI n)]) (S := []) (b' := (0, 0)) (b := (0, 0)) dX11_isNode_11 MX11_67 rfl rfl (Nat.le_of_ble_eq_true rfl) ?_
  refine WPM.of pX11 (Nat.le_of_ble_eq_true rfl) rfl ?_
  refine wp_iload_n dX11_isBetween_0 rfl ?_
  refine wp_iload_n dX11_isBetween_1 rfl ?_
  refine wp_icmp_lt 14 dX11_isBetween_2 (by decide) (fun q => absurd q (nI_pos (by omega))) (fun _ => ?_)
  refine wp_iload_n dX11_isBetween_5 rfl ?_
  refine wp_iload_n dX11_isBetween_6 rfl ?_
  refine wp_icmp_gt 14 dX11_isBetween_7 (by decide) (fun q => absurd q (fun z => (show ¬ n < i by omega) (nlt (a := n) (b := i) z (by omega) (by omega)))) (fun _ => ?_)
  refine wp_iconst (1 : Int32) dX11_isBetween_10 (by decide) ?_
  refine wp_goto 15 dX11_isBetween_11 (by decide) ?_
  refine wp_zret dX11_isBetween_15 rfl rfl ?_
  show WP G (d + 2) (0, 0) μX11_isNode 14 [.ref (gB G + 293), .int (nI i)] [.int (1 : Int32)] m _
  refine wp_zret dX11_isNode_14 rfl rfl ?_
  show WP G (d + 3) (0, 0) μX11_temperature 5 [.ref (gB G + 293), .int (nI i)] [.int (1 : Int32)] m _
  refine wp_if_eq 17 dX11_temperature_5 (by decide) (fun q => absurd q (by decide)) (fun _ => ?_)
  refine wp_aload_n dX11_temperature_8 rfl ?_
  refine wp_iload_n dX11_temperature_9 rfl ?_
  refine wp_iconst (1 : Int32) dX11_temperature_10 (by decide) ?_
  refine wp_callV (As := [.int (nI i), .int (1 : Int32)]) (S := []) (b' := (0, 0)) (b := (0, 0)) dX11_temperature_11 MX11_89 (ka hF 293 (by decide)) rfl rfl rfl rfl (Nat.le_of_ble_eq_true rfl) ?_
  refine WPM.of pX11 (Nat.le_of_ble_eq_true rfl) rfl ?_
  refine wp_aload_n dX11_node_0 rfl ?_
  refine wp_getr (gB G + 294) dX11_node_1 fX11_7 (ka hF 293 (by decide)) (hF.2 _ _) (rra 1 (isK_le (ka hF 293 (by decide))) (fun _ => rfl)) ?_
  refine wp_bipush (20 : Int32) dX11_node_4 (by decide) ?_
  refine wp_bipush (11 : Int32) dX11_node_6 (by decide) ?_
  refine wp_iload_n dX11_node_8 rfl ?_
  refine wp_imulv (nI (11 * i)) dX11_node_9 (nmul (a := 11) (b := i) (by omega)) ?_
  refine wp_iaddv (nI (11 * i + 20)) dX11_node_10 (nadd (a := 20) (b := 11 * i) (by omega)) ?_
  refine wp_iload_n dX11_node_11 rfl ?_
  refine wp_iaddv (nI (11 * i + 21)) dX11_node_12 (nadd (a := 11 * i + 20) (b := 1) (by omega)) ?_
  refine wp_ialdk (n := 1486) (11 * i + 21) (ai m (gB G + 294) (11 * i + 21)) dX11_node_13 (ka hF 294 (by decide)) (la 294) (vin (by omega) (by decide)) (nIc (by omega)) rfl ?_
  refine wp_iret dX11_node_14 rfl ?_
  show WP G (d + 3) (0, 0) μX11_temperature 14 [.ref (gB G + 293), .int (nI i)] [.int (ai m (gB G + 294) (11 * i + 21))] m _
  refine wp_goto 19 dX11_temperature_14 (by decide) ?_
  exact wp_iret dX11_temperature_19 rfl (e1)

theorem aM_temperature {G : Cx} {d : Nat} {m : Mm} {Q : Option Value → Mm → Prop} {x : Int32} {n : Nat}  (hF : Full G m) (hn : ai m (gB G + 294) 12 = nI n) (hm : n ≤ 12) (hx : x < 0) 
    (e1 : Q (some (.int (-1000000001 : Int32))) m) :
    WPM G (d + 3) (0, 0) μX11_temperature [.ref (gB G + 293), .int x] m Q := by
  refine WPM.of pX11 (Nat.le_of_ble_eq_true rfl) rfl ?_
  refine wp_aload_n dX11_temperature_0 rfl ?_
  refine wp_iload_n dX11_temperature_1 rfl ?_
  refine wp_callV (As := [.int x]) (S := []) (b' := (0, 0)) (b := (0, 0)) dX11_temperature_2 MX11_93 (ka hF 293 (by decide)) rfl rfl rfl rfl (Nat.le_of_ble_eq_true rfl) ?_
  refine WPM.of pX11 (Nat.le_of_ble_eq_true rfl) rfl ?_
  refine wp_iload_n dX11_isNode_0 rfl ?_
  refine wp_iconst (0 : Int32) dX11_isNode_1 (by decide) ?_
  refine wp_aload_n dX11_isNode_2 rfl ?_
  refine wp_getr (gB G + 294) dX11_isNode_3 fX11_7 (ka hF 293 (by decide)) (hF.2 _ _) (rra 1 (isK_le (ka hF 293 (by decide))) (fun _ => rfl)) ?_
  refine wp_bipush (12 : Int32) dX11_isNode_6 (by decide) ?_
  refine wp_ialdk (n := 1486) 12 (nI n) dX11_isNode_8 (ka hF 294 (by decide)) (la 294) (vinl (by decide)) rfl hn ?_
  refine wp_iconst (1 : Int32) dX11_isNode_9 (by decide) ?_
  refine wp_isubv ((nI n) - (1 : Int32)) dX11_isNode_10 rfl ?_
  refine wp_callS (As := [.int x, .int (0 : Int32), .int ((nI n) - (1 : Int32))]) (S := []) (b' := (0, 0)) (b := (0, 0)) dX11_isNode_11 MX11_67 rfl rfl (Nat.le_of_ble_eq_true rfl) ?_
  refine WPM.of pX11 (Nat.le_of_ble_eq_true rfl) rfl ?_
  refine wp_iload_n dX11_isBetween_0 rfl ?_
  refine wp_iload_n dX11_isBetween_1 rfl ?_
  refine wp_icmp_lt 14 dX11_isBetween_2 (by decide) (fun _ => ?_) (fun q => absurd hx q)
  refine wp_iconst (0 : Int32) dX11_isBetween_14 (by decide) ?_
  refine wp_zret dX11_isBetween_15 rfl rfl ?_
  show WP G (d + 2) (0, 0) μX11_isNode 14 [.ref (gB G + 293), .int x] [.int (0 : Int32)] m _
  refine wp_zret dX11_isNode_14 rfl rfl ?_
  show WP G (d + 3) (0, 0) μX11_temperature 5 [.ref (gB G + 293), .int x] [.int (0 : Int32)] m _
  refine wp_if_eq 17 dX11_temperature_5 (by decide) (fun _ => ?_) (fun q => absurd (by decide) q)
  refine wp_ldc dX11_temperature_17 kX11_96 ?_
  exact wp_iret dX11_temperature_19 rfl (e1)

theorem bM_temperature {G : Cx} {d : Nat} {m : Mm} {Q : Option Value → Mm → Prop} {x : Int32} {n : Nat}  (hF : Full G m) (hn : ai m (gB G + 294) 12 = nI n) (hm : n ≤ 12) (hx : ¬ x < 0) (hy : ¬ x < nI n) 
    (e1 : Q (some (.int (-1000000001 : Int32))) m) :
    WPM G (d + 3) (0, 0) μX11_temperature [.ref (gB G + 293), .int x] m Q := by
  refine WPM.of pX11 (Nat.le_of_ble_eq_true rfl) rfl ?_
  refine wp_aload_n dX11_temperature_0 rfl ?_
  refine wp_iload_n dX11_temperature_1 rfl ?_
  refine wp_callV (As := [.int x]) (S := []) (b' := (0, 0)) (b := (0, 0)) dX11_temperature_2 MX11_93 (ka hF 293 (by decide)) rfl rfl rfl rfl (Nat.le_of_ble_eq_true rfl) ?_
  refine WPM.of pX11 (Nat.le_of_ble_eq_true rfl) rfl ?_
  refine wp_iload_n dX11_isNode_0 rfl ?_
  refine wp_iconst (0 : Int32) dX11_isNode_1 (by decide) ?_
  refine wp_aload_n dX11_isNode_2 rfl ?_
  refine wp_getr (gB G + 294) dX11_isNode_3 fX11_7 (ka hF 293 (by decide)) (hF.2 _ _) (rra 1 (isK_le (ka hF 293 (by decide))) (fun _ => rfl)) ?_
  refine wp_bipush (12 : Int32) dX11_isNode_6 (by decide) ?_
  refine wp_ialdk (n := 1486) 12 (nI n) dX11_isNode_8 (ka hF 294 (by decide)) (la 294) (vinl (by decide)) rfl hn ?_
  refine wp_iconst (1 : Int32) dX11_isNode_9 (by decide) ?_
  refine wp_isubv ((nI n) - (1 : Int32)) dX11_isNode_10 rfl ?_
  refine wp_callS (As := [.int x, .int (0 : Int32), .int ((nI n) - (1 : Int32))]) (S := []) (b' := (0, 0)) (b := (0, 0)) dX11_isNode_11 MX11_67 rfl rfl (Nat.le_of_ble_eq_true rfl) ?_
  refine WPM.of pX11 (Nat.le_of_ble_eq_true rfl) rfl ?_
  refine wp_iload_n dX11_isBetween_0 rfl ?_
  refine wp_iload_n dX11_isBetween_1 rfl ?_
  refine wp_icmp_lt 14 dX11_isBetween_2 (by decide) (fun q => absurd q hx) (fun _ => ?_)
  refine wp_iload_n dX11_isBetween_5 rfl ?_
  refine wp_iload_n dX11_isBetween_6 rfl ?_
  refine wp_icmp_gt 14 dX11_isBetween_7 (by decide) (fun _ => ?_) (fun q => absurd (sub_lt (by omega) hx hy) q)
  refine wp_iconst (0 : Int32) dX11_isBetween_14 (by decide) ?_
  refine wp_zret dX11_isBetween_15 rfl rfl ?_
  show WP G (d + 2) (0, 0) μX11_isNode 14 [.ref (gB G + 293), .int x] [.int (0 : Int32)] m _
  refine wp_zret dX11_isNode_14 rfl rfl ?_
  show WP G (d + 3) (0, 0) μX11_temperature 5 [.ref (gB G + 293), .int x] [.int (0 : Int32)] m _
  refine wp_if_eq 17 dX11_temperature_5 (by decide) (fun _ => ?_) (fun q => absurd (by decide) q)
  refine wp_ldc dX11_temperature_17 kX11_96 ?_
  exact wp_iret dX11_temperature_19 rfl (e1)

theorem iM_load {G : Cx} {d : Nat} {m : Mm} {Q : Option Value → Mm → Prop} {i n : Nat}  (hF : Full G m) (hn : ai m (gB G + 294) 12 = nI (n + 1)) (hm : n + 1 ≤ 12) (hi : i < n + 1) 
    (e1 : Q (some (.int (ai m (gB G + 294) (11 * i + 24)))) m) :
    WPM G (d + 3) (0, 0) μX11_load [.ref (gB G + 293), .int (nI i)] m Q := by
  refine WPM.of pX11 (Nat.le_of_ble_eq_true rfl) rfl ?_
  refine wp_aload_n dX11_load_0 rfl ?_
  refine wp_iload_n dX11_load_1 rfl ?_
  refine wp_callV (As := [.int (nI i)]) (S := []) (b' := (0, 0)) (b := (0, 0)) dX11_load_2 MX11_93 (ka hF 293 (by decide)) rfl rfl rfl rfl (Nat.le_of_ble_eq_true rfl) ?_
  refine WPM.of pX11 (Nat.le_of_ble_eq_true rfl) rfl ?_
  refine wp_iload_n dX11_isNode_0 rfl ?_
  refine wp_iconst (0 : Int32) dX11_isNode_1 (by decide) ?_
  refine wp_aload_n dX11_isNode_2 rfl ?_
  refine wp_getr (gB G + 294) dX11_isNode_3 fX11_7 (ka hF 293 (by decide)) (hF.2 _ _) (rra 1 (isK_le (ka hF 293 (by decide))) (fun _ => rfl)) ?_
  refine wp_bipush (12 : Int32) dX11_isNode_6 (by decide) ?_
  refine wp_ialdk (n := 1486) 12 (nI (n + 1)) dX11_isNode_8 (ka hF 294 (by decide)) (la 294) (vinl (by decide)) rfl hn ?_
  refine wp_iconst (1 : Int32) dX11_isNode_9 (by decide) ?_
  refine wp_isubv (nI n) dX11_isNode_10 (nsub (a := n + 1) (b := 1) (by omega)) ?_
  refine wp_callS (As := [.int (nI i), .int (0 : Int32), .int (nI n)]) (S := []) (b' := (0, 0)) (b := (0, 0)) dX11_isNode_11 MX11_67 rfl rfl (Nat.le_of_ble_eq_true rfl) ?_
  refine WPM.of pX11 (Nat.le_of_ble_eq_true rfl) rfl ?_
  refine wp_iload_n dX11_isBetween_0 rfl ?_
  refine wp_iload_n dX11_isBetween_1 rfl ?_
  refine wp_icmp_lt 14 dX11_isBetween_2 (by decide) (fun q => absurd q (nI_pos (by omega))) (fun _ => ?_)
  refine wp_iload_n dX11_isBetween_5 rfl ?_
  refine wp_iload_n dX11_isBetween_6 rfl ?_
  refine wp_icmp_gt 14 dX11_isBetween_7 (by decide) (fun q => absurd q (fun z => (show ¬ n < i by omega) (nlt (a := n) (b := i) z (by omega) (by omega)))) (fun _ => ?_)
  refine wp_iconst (1 : Int32) dX11_isBetween_10 (by decide) ?_
  refine wp_goto 15 dX11_isBetween_11 (by decide) ?_
  refine wp_zret dX11_isBetween_15 rfl rfl ?_
  show WP G (d + 2) (0, 0) μX11_isNode 14 [.ref (gB G + 293), .int (nI i)] [.int (1 : Int32)] m _
  refine wp_zret dX11_isNode_14 rfl rfl ?_
  show WP G (d + 3) (0, 0) μX11_load 5 [.ref (gB G + 293), .int (nI i)] [.int (1 : Int32)] m _
  refine wp_if_eq 17 dX11_load_5 (by decide) (fun q => absurd q (by decide)) (fun _ => ?_)
  refine wp_aload_n dX11_load_8 rfl ?_
  refine wp_iload_n dX11_load_9 rfl ?_
  refine wp_iconst (4 : Int32) dX11_load_10 (by decide) ?_
  refine wp_callV (As := [.int (nI i), .int (4 : Int32)]) (S := []) (b' := (0, 0)) (b := (0, 0)) dX11_load_11 MX11_89 (ka hF 293 (by decide)) rfl rfl rfl rfl (Nat.le_of_ble_eq_true rfl) ?_
  refine WPM.of pX11 (Nat.le_of_ble_eq_true rfl) rfl ?_
  refine wp_aload_n dX11_node_0 rfl ?_
  refine wp_getr (gB G + 294) dX11_node_1 fX11_7 (ka hF 293 (by decide)) (hF.2 _ _) (rra 1 (isK_le (ka hF 293 (by decide))) (fun _ => rfl)) ?_
  refine wp_bipush (20 : Int32) dX11_node_4 (by decide) ?_
  refine wp_bipush (11 : Int32) dX11_node_6 (by decide) ?_
  refine wp_iload_n dX11_node_8 rfl ?_
  refine wp_imulv (nI (11 * i)) dX11_node_9 (nmul (a := 11) (b := i) (by omega)) ?_
  refine wp_iaddv (nI (11 * i + 20)) dX11_node_10 (nadd (a := 20) (b := 11 * i) (by omega)) ?_
  refine wp_iload_n dX11_node_11 rfl ?_
  refine wp_iaddv (nI (11 * i + 24)) dX11_node_12 (nadd (a := 11 * i + 20) (b := 4) (by omega)) ?_
  refine wp_ialdk (n := 1486) (11 * i + 24) (ai m (gB G + 294) (11 * i + 24)) dX11_node_13 (ka hF 294 (by decide)) (la 294) (vin (by omega) (by decide)) (nIc (by omega)) rfl ?_
  refine wp_iret dX11_node_14 rfl ?_
  show WP G (d + 3) (0, 0) μX11_load 14 [.ref (gB G + 293), .int (nI i)] [.int (ai m (gB G + 294) (11 * i + 24))] m _
  refine wp_goto 19 dX11_load_14 (by decide) ?_
  exact wp_iret dX11_load_19 rfl (e1)

theorem aM_load {G : Cx} {d : Nat} {m : Mm} {Q : Option Value → Mm → Prop} {x : Int32} {n : Nat}  (hF : Full G m) (hn : ai m (gB G + 294) 12 = nI n) (hm : n ≤ 12) (hx : x < 0) 
    (e1 : Q (some (.int (-1000000001 : Int32))) m) :
    WPM G (d + 3) (0, 0) μX11_load [.ref (gB G + 293), .int x] m Q := by
  refine WPM.of pX11 (Nat.le_of_ble_eq_true rfl) rfl ?_
  refine wp_aload_n dX11_load_0 rfl ?_
  refine wp_iload_n dX11_load_1 rfl ?_
  refine wp_callV (As := [.int x]) (S := []) (b' := (0, 0)) (b := (0, 0)) dX11_load_2 MX11_93 (ka hF 293 (by decide)) rfl rfl rfl rfl (Nat.le_of_ble_eq_true rfl) ?_
  refine WPM.of pX11 (Nat.le_of_ble_eq_true rfl) rfl ?_
  refine wp_iload_n dX11_isNode_0 rfl ?_
  refine wp_iconst (0 : Int32) dX11_isNode_1 (by decide) ?_
  refine wp_aload_n dX11_isNode_2 rfl ?_
  refine wp_getr (gB G + 294) dX11_isNode_3 fX11_7 (ka hF 293 (by decide)) (hF.2 _ _) (rra 1 (isK_le (ka hF 293 (by decide))) (fun _ => rfl)) ?_
  refine wp_bipush (12 : Int32) dX11_isNode_6 (by decide) ?_
  refine wp_ialdk (n := 1486) 12 (nI n) dX11_isNode_8 (ka hF 294 (by decide)) (la 294) (vinl (by decide)) rfl hn ?_
  refine wp_iconst (1 : Int32) dX11_isNode_9 (by decide) ?_
  refine wp_isubv ((nI n) - (1 : Int32)) dX11_isNode_10 rfl ?_
  refine wp_callS (As := [.int x, .int (0 : Int32), .int ((nI n) - (1 : Int32))]) (S := []) (b' := (0, 0)) (b := (0, 0)) dX11_isNode_11 MX11_67 rfl rfl (Nat.le_of_ble_eq_true rfl) ?_
  refine WPM.of pX11 (Nat.le_of_ble_eq_true rfl) rfl ?_
  refine wp_iload_n dX11_isBetween_0 rfl ?_
  refine wp_iload_n dX11_isBetween_1 rfl ?_
  refine wp_icmp_lt 14 dX11_isBetween_2 (by decide) (fun _ => ?_) (fun q => absurd hx q)
  refine wp_iconst (0 : Int32) dX11_isBetween_14 (by decide) ?_
  refine wp_zret dX11_isBetween_15 rfl rfl ?_
  show WP G (d + 2) (0, 0) μX11_isNode 14 [.ref (gB G + 293), .int x] [.int (0 : Int32)] m _
  refine wp_zret dX11_isNode_14 rfl rfl ?_
  show WP G (d + 3) (0, 0) μX11_load 5 [.ref (gB G + 293), .int x] [.int (0 : Int32)] m _
  refine wp_if_eq 17 dX11_load_5 (by decide) (fun _ => ?_) (fun q => absurd (by decide) q)
  refine wp_ldc dX11_load_17 kX11_96 ?_
  exact wp_iret dX11_load_19 rfl (e1)

theorem bM_load {G : Cx} {d : Nat} {m : Mm} {Q : Option Value → Mm → Prop} {x : Int32} {n : Nat}  (hF : Full G m) (hn : ai m (gB G + 294) 12 = nI n) (hm : n ≤ 12) (hx : ¬ x < 0) (hy : ¬ x < nI n) 
    (e1 : Q (some (.int (-1000000001 : Int32))) m) :
    WPM G (d + 3) (0, 0) μX11_load [.ref (gB G + 293), .int x] m Q := by
  refine WPM.of pX11 (Nat.le_of_ble_eq_true rfl) rfl ?_
  refine wp_aload_n dX11_load_0 rfl ?_
  refine wp_iload_n dX11_load_1 rfl ?_
  refine wp_callV (As := [.int x]) (S := []) (b' := (0, 0)) (b := (0, 0)) dX11_load_2 MX11_93 (ka hF 293 (by decide)) rfl rfl rfl rfl (Nat.le_of_ble_eq_true rfl) ?_
  refine WPM.of pX11 (Nat.le_of_ble_eq_true rfl) rfl ?_
  refine wp_iload_n dX11_isNode_0 rfl ?_
  refine wp_iconst (0 : Int32) dX11_isNode_1 (by decide) ?_
  refine wp_aload_n dX11_isNode_2 rfl ?_
  refine wp_getr (gB G + 294) dX11_isNode_3 fX11_7 (ka hF 293 (by decide)) (hF.2 _ _) (rra 1 (isK_le (ka hF 293 (by decide))) (fun _ => rfl)) ?_
  refine wp_bipush (12 : Int32) dX11_isNode_6 (by decide) ?_
  refine wp_ialdk (n := 1486) 12 (nI n) dX11_isNode_8 (ka hF 294 (by decide)) (la 294) (vinl (by decide)) rfl hn ?_
  refine wp_iconst (1 : Int32) dX11_isNode_9 (by decide) ?_
  refine wp_isubv ((nI n) - (1 : Int32)) dX11_isNode_10 rfl ?_
  refine wp_callS (As := [.int x, .int (0 : Int32), .int ((nI n) - (1 : Int32))]) (S := []) (b' := (0, 0)) (b := (0, 0)) dX11_isNode_11 MX11_67 rfl rfl (Nat.le_of_ble_eq_true rfl) ?_
  refine WPM.of pX11 (Nat.le_of_ble_eq_true rfl) rfl ?_
  refine wp_iload_n dX11_isBetween_0 rfl ?_
  refine wp_iload_n dX11_isBetween_1 rfl ?_
  refine wp_icmp_lt 14 dX11_isBetween_2 (by decide) (fun q => absurd q hx) (fun _ => ?_)
  refine wp_iload_n dX11_isBetween_5 rfl ?_
  refine wp_iload_n dX11_isBetween_6 rfl ?_
  refine wp_icmp_gt 14 dX11_isBetween_7 (by decide) (fun _ => ?_) (fun q => absurd (sub_lt (by omega) hx hy) q)
  refine wp_iconst (0 : Int32) dX11_isBetween_14 (by decide) ?_
  refine wp_zret dX11_isBetween_15 rfl rfl ?_
  show WP G (d + 2) (0, 0) μX11_isNode 14 [.ref (gB G + 293), .int x] [.int (0 : Int32)] m _
  refine wp_zret dX11_isNode_14 rfl rfl ?_
  show WP G (d + 3) (0, 0) μX11_load 5 [.ref (gB G + 293), .int x] [.int (0 : Int32)] m _
  refine wp_if_eq 17 dX11_load_5 (by decide) (fun _ => ?_) (fun q => absurd (by decide) q)
  refine wp_ldc dX11_load_17 kX11_96 ?_
  exact wp_iret dX11_load_19 rfl (e1)

theorem iM_margin {G : Cx} {d : Nat} {m : Mm} {Q : Option Value → Mm → Prop} {i n : Nat}  (hF : Full G m) (hn : ai m (gB G + 294) 12 = nI (n + 1)) (hm : n + 1 ≤ 12) (hi : i < n + 1) 
    (e1 : Q (some (.int (imin ((ai m (gB G + 294) (11 * i + 21)) - (ai m (gB G + 294) (11 * i + 25))) ((ai m (gB G + 294) (11 * i + 26)) - (ai m (gB G + 294) (11 * i + 21)))))) m) :
    WPM G (d + 3) (0, 0) μX11_margin [.ref (gB G + 293), .int (nI i)] m Q := by
  refine WPM.of pX11 (Nat.le_of_ble_eq_true rfl) rfl ?_
  refine wp_aload_n dX11_margin_0 rfl ?_
  refine wp_iload_n dX11_margin_1 rfl ?_
  refine wp_callV (As := [.int (nI i)]) (S := []) (b' := (0, 0)) (b := (0, 0)) dX11_margin_2 MX11_93 (ka hF 293 (by decide)) rfl rfl rfl rfl (Nat.le_of_ble_eq_true rfl) ?_
  refine WPM.of pX11 (Nat.le_of_ble_eq_true rfl) rfl ?_
  refine wp_iload_n dX11_isNode_0 rfl ?_
  refine wp_iconst (0 : Int32) dX11_isNode_1 (by decide) ?_
  refine wp_aload_n dX11_isNode_2 rfl ?_
  refine wp_getr (gB G + 294) dX11_isNode_3 fX11_7 (ka hF 293 (by decide)) (hF.2 _ _) (rra 1 (isK_le (ka hF 293 (by decide))) (fun _ => rfl)) ?_
  refine wp_bipush (12 : Int32) dX11_isNode_6 (by decide) ?_
  refine wp_ialdk (n := 1486) 12 (nI (n + 1)) dX11_isNode_8 (ka hF 294 (by decide)) (la 294) (vinl (by decide)) rfl hn ?_
  refine wp_iconst (1 : Int32) dX11_isNode_9 (by decide) ?_
  refine wp_isubv (nI n) dX11_isNode_10 (nsub (a := n + 1) (b := 1) (by omega)) ?_
  refine wp_callS (As := [.int (nI i), .int (0 : Int32), .int (nI n)]) (S := []) (b' := (0, 0)) (b := (0, 0)) dX11_isNode_11 MX11_67 rfl rfl (Nat.le_of_ble_eq_true rfl) ?_
  refine WPM.of pX11 (Nat.le_of_ble_eq_true rfl) rfl ?_
  refine wp_iload_n dX11_isBetween_0 rfl ?_
  refine wp_iload_n dX11_isBetween_1 rfl ?_
  refine wp_icmp_lt 14 dX11_isBetween_2 (by decide) (fun q => absurd q (nI_pos (by omega))) (fun _ => ?_)
  refine wp_iload_n dX11_isBetween_5 rfl ?_
  refine wp_iload_n dX11_isBetween_6 rfl ?_
  refine wp_icmp_gt 14 dX11_isBetween_7 (by decide) (fun q => absurd q (fun z => (show ¬ n < i by omega) (nlt (a := n) (b := i) z (by omega) (by omega)))) (fun _ => ?_)
  refine wp_iconst (1 : Int32) dX11_isBetween_10 (by decide) ?_
  refine wp_goto 15 dX11_isBetween_11 (by decide) ?_
  refine wp_zret dX11_isBetween_15 rfl rfl ?_
  show WP G (d + 2) (0, 0) μX11_isNode 14 [.ref (gB G + 293), .int (nI i)] [.int (1 : Int32)] m _
  refine wp_zret dX11_isNode_14 rfl rfl ?_
  show WP G (d + 3) (0, 0) μX11_margin 5 [.ref (gB G + 293), .int (nI i)] [.int (1 : Int32)] m _
  refine wp_if_ne 11 dX11_margin_5 (by decide) (fun _ => ?_) (fun q => absurd q (by decide))
  refine wp_aload_n dX11_margin_11 rfl ?_
  refine wp_iload_n dX11_margin_12 rfl ?_
  refine wp_iconst (1 : Int32) dX11_margin_13 (by decide) ?_
  refine wp_callV (As := [.int (nI i), .int (1 : Int32)]) (S := []) (b' := (0, 0)) (b := (0, 0)) dX11_margin_14 MX11_89 (ka hF 293 (by decide)) rfl rfl rfl rfl (Nat.le_of_ble_eq_true rfl) ?_
  refine WPM.of pX11 (Nat.le_of_ble_eq_true rfl) rfl ?_
  refine wp_aload_n dX11_node_0 rfl ?_
  refine wp_getr (gB G + 294) dX11_node_1 fX11_7 (ka hF 293 (by decide)) (hF.2 _ _) (rra 1 (isK_le (ka hF 293 (by decide))) (fun _ => rfl)) ?_
  refine wp_bipush (20 : Int32) dX11_node_4 (by decide) ?_
  refine wp_bipush (11 : Int32) dX11_node_6 (by decide) ?_
  refine wp_iload_n dX11_node_8 rfl ?_
  refine wp_imulv (nI (11 * i)) dX11_node_9 (nmul (a := 11) (b := i) (by omega)) ?_
  refine wp_iaddv (nI (11 * i + 20)) dX11_node_10 (nadd (a := 20) (b := 11 * i) (by omega)) ?_
  refine wp_iload_n dX11_node_11 rfl ?_
  refine wp_iaddv (nI (11 * i + 21)) dX11_node_12 (nadd (a := 11 * i + 20) (b := 1) (by omega)) ?_
  refine wp_ialdk (n := 1486) (11 * i + 21) (ai m (gB G + 294) (11 * i + 21)) dX11_node_13 (ka hF 294 (by decide)) (la 294) (vin (by omega) (by decide)) (nIc (by omega)) rfl ?_
  refine wp_iret dX11_node_14 rfl ?_
  show WP G (d + 3) (0, 0) μX11_margin 17 [.ref (gB G + 293), .int (nI i)] [.int (ai m (gB G + 294) (11 * i + 21))] m _
  refine wp_aload_n dX11_margin_17 rfl ?_
  refine wp_iload_n dX11_margin_18 rfl ?_
  refine wp_iconst (5 : Int32) dX11_margin_19 (by decide) ?_
  refine wp_callV (As := [.int (nI i), .int (5 : Int32)]) (S := [.int (ai m (gB G + 294) (11 * i + 21))]) (b' := (0, 0)) (b := (0, 0)) dX11_margin_20 MX11_89 (ka hF 293 (by decide)) rfl rfl rfl rfl (Nat.le_of_ble_eq_true rfl) ?_
  refine WPM.of pX11 (Nat.le_of_ble_eq_true rfl) rfl ?_
  refine wp_aload_n dX11_node_0 rfl ?_
  refine wp_getr (gB G + 294) dX11_node_1 fX11_7 (ka hF 293 (by decide)) (hF.2 _ _) (rra 1 (isK_le (ka hF 293 (by decide))) (fun _ => rfl)) ?_
  refine wp_bipush (20 : Int32) dX11_node_4 (by decide) ?_
  refine wp_bipush (11 : Int32) dX11_node_6 (by decide) ?_
  refine wp_iload_n dX11_node_8 rfl ?_
  refine wp_imulv (nI (11 * i)) dX11_node_9 (nmul (a := 11) (b := i) (by omega)) ?_
  refine wp_iaddv (nI (11 * i + 20)) dX11_node_10 (nadd (a := 20) (b := 11 * i) (by omega)) ?_
  refine wp_iload_n dX11_node_11 rfl ?_
  refine wp_iaddv (nI (11 * i + 25)) dX11_node_12 (nadd (a := 11 * i + 20) (b := 5) (by omega)) ?_
  refine wp_ialdk (n := 1486) (11 * i + 25) (ai m (gB G + 294) (11 * i + 25)) dX11_node_13 (ka hF 294 (by decide)) (la 294) (vin (by omega) (by decide)) (nIc (by omega)) rfl ?_
  refine wp_iret dX11_node_14 rfl ?_
  show WP G (d + 3) (0, 0) μX11_margin 23 [.ref (gB G + 293), .int (nI i)] [.int (ai m (gB G + 294) (11 * i + 25)), .int (ai m (gB G + 294) (11 * i + 21))] m _
  refine wp_isubv ((ai m (gB G + 294) (11 * i + 21)) - (ai m (gB G + 294) (11 * i + 25))) dX11_margin_23 rfl ?_
  refine wp_aload_n dX11_margin_24 rfl ?_
  refine wp_iload_n dX11_margin_25 rfl ?_
  refine wp_bipush (6 : Int32) dX11_margin_26 (by decide) ?_
  refine wp_callV (As := [.int (nI i), .int (6 : Int32)]) (S := [.int ((ai m (gB G + 294) (11 * i + 21)) - (ai m (gB G + 294) (11 * i + 25)))]) (b' := (0, 0)) (b := (0, 0)) dX11_margin_28 MX11_89 (ka hF 293 (by decide)) rfl rfl rfl rfl (Nat.le_of_ble_eq_true rfl) ?_
  refine WPM.of pX11 (Nat.le_of_ble_eq_true rfl) rfl ?_
  refine wp_aload_n dX11_node_0 rfl ?_
  refine wp_getr (gB G + 294) dX11_node_1 fX11_7 (ka hF 293 (by decide)) (hF.2 _ _) (rra 1 (isK_le (ka hF 293 (by decide))) (fun _ => rfl)) ?_
  refine wp_bipush (20 : Int32) dX11_node_4 (by decide) ?_
  refine wp_bipush (11 : Int32) dX11_node_6 (by decide) ?_
  refine wp_iload_n dX11_node_8 rfl ?_
  refine wp_imulv (nI (11 * i)) dX11_node_9 (nmul (a := 11) (b := i) (by omega)) ?_
  refine wp_iaddv (nI (11 * i + 20)) dX11_node_10 (nadd (a := 20) (b := 11 * i) (by omega)) ?_
  refine wp_iload_n dX11_node_11 rfl ?_
  refine wp_iaddv (nI (11 * i + 26)) dX11_node_12 (nadd (a := 11 * i + 20) (b := 6) (by omega)) ?_
  refine wp_ialdk (n := 1486) (11 * i + 26) (ai m (gB G + 294) (11 * i + 26)) dX11_node_13 (ka hF 294 (by decide)) (la 294) (vin (by omega) (by decide)) (nIc (by omega)) rfl ?_
  refine wp_iret dX11_node_14 rfl ?_
  show WP G (d + 3) (0, 0) μX11_margin 31 [.ref (gB G + 293), .int (nI i)] [.int (ai m (gB G + 294) (11 * i + 26)), .int ((ai m (gB G + 294) (11 * i + 21)) - (ai m (gB G + 294) (11 * i + 25)))] m _
  refine wp_aload_n dX11_margin_31 rfl ?_
  refine wp_iload_n dX11_margin_32 rfl ?_
  refine wp_iconst (1 : Int32) dX11_margin_33 (by decide) ?_
  refine wp_callV (As := [.int (nI i), .int (1 : Int32)]) (S := [.int (ai m (gB G + 294) (11 * i + 26)), .int ((ai m (gB G + 294) (11 * i + 21)) - (ai m (gB G + 294) (11 * i + 25)))]) (b' := (0, 0)) (b := (0, 0)) dX11_margin_34 MX11_89 (ka hF 293 (by decide)) rfl rfl rfl rfl (Nat.le_of_ble_eq_true rfl) ?_
  refine WPM.of pX11 (Nat.le_of_ble_eq_true rfl) rfl ?_
  refine wp_aload_n dX11_node_0 rfl ?_
  refine wp_getr (gB G + 294) dX11_node_1 fX11_7 (ka hF 293 (by decide)) (hF.2 _ _) (rra 1 (isK_le (ka hF 293 (by decide))) (fun _ => rfl)) ?_
  refine wp_bipush (20 : Int32) dX11_node_4 (by decide) ?_
  refine wp_bipush (11 : Int32) dX11_node_6 (by decide) ?_
  refine wp_iload_n dX11_node_8 rfl ?_
  refine wp_imulv (nI (11 * i)) dX11_node_9 (nmul (a := 11) (b := i) (by omega)) ?_
  refine wp_iaddv (nI (11 * i + 20)) dX11_node_10 (nadd (a := 20) (b := 11 * i) (by omega)) ?_
  refine wp_iload_n dX11_node_11 rfl ?_
  refine wp_iaddv (nI (11 * i + 21)) dX11_node_12 (nadd (a := 11 * i + 20) (b := 1) (by omega)) ?_
  refine wp_ialdk (n := 1486) (11 * i + 21) (ai m (gB G + 294) (11 * i + 21)) dX11_node_13 (ka hF 294 (by decide)) (la 294) (vin (by omega) (by decide)) (nIc (by omega)) rfl ?_
  refine wp_iret dX11_node_14 rfl ?_
  show WP G (d + 3) (0, 0) μX11_margin 37 [.ref (gB G + 293), .int (nI i)] [.int (ai m (gB G + 294) (11 * i + 21)), .int (ai m (gB G + 294) (11 * i + 26)), .int ((ai m (gB G + 294) (11 * i + 21)) - (ai m (gB G + 294) (11 * i + 25)))] m _
  refine wp_isubv ((ai m (gB G + 294) (11 * i + 26)) - (ai m (gB G + 294) (11 * i + 21))) dX11_margin_37 rfl ?_
  refine wp_minI dX11_margin_38 AX11_159 (Nat.le_of_ble_eq_true rfl) ?_
  exact wp_iret dX11_margin_41 rfl (e1)

theorem aM_margin {G : Cx} {d : Nat} {m : Mm} {Q : Option Value → Mm → Prop} {x : Int32} {n : Nat}  (hF : Full G m) (hn : ai m (gB G + 294) 12 = nI n) (hm : n ≤ 12) (hx : x < 0) 
    (e1 : Q (some (.int (-1000000001 : Int32))) m) :
    WPM G (d + 3) (0, 0) μX11_margin [.ref (gB G + 293), .int x] m Q := by
  refine WPM.of pX11 (Nat.le_of_ble_eq_true rfl) rfl ?_
  refine wp_aload_n dX11_margin_0 rfl ?_
  refine wp_iload_n dX11_margin_1 rfl ?_
  refine wp_callV (As := [.int x]) (S := []) (b' := (0, 0)) (b := (0, 0)) dX11_margin_2 MX11_93 (ka hF 293 (by decide)) rfl rfl rfl rfl (Nat.le_of_ble_eq_true rfl) ?_
  refine WPM.of pX11 (Nat.le_of_ble_eq_true rfl) rfl ?_
  refine wp_iload_n dX11_isNode_0 rfl ?_
  refine wp_iconst (0 : Int32) dX11_isNode_1 (by decide) ?_
  refine wp_aload_n dX11_isNode_2 rfl ?_
  refine wp_getr (gB G + 294) dX11_isNode_3 fX11_7 (ka hF 293 (by decide)) (hF.2 _ _) (rra 1 (isK_le (ka hF 293 (by decide))) (fun _ => rfl)) ?_
  refine wp_bipush (12 : Int32) dX11_isNode_6 (by decide) ?_
  refine wp_ialdk (n := 1486) 12 (nI n) dX11_isNode_8 (ka hF 294 (by decide)) (la 294) (vinl (by decide)) rfl hn ?_
  refine wp_iconst (1 : Int32) dX11_isNode_9 (by decide) ?_
  refine wp_isubv ((nI n) - (1 : Int32)) dX11_isNode_10 rfl ?_
  refine wp_callS (As := [.int x, .int (0 : Int32), .int ((nI n) - (1 : Int32))]) (S := []) (b' := (0, 0)) (b := (0, 0)) dX11_isNode_11 MX11_67 rfl rfl (Nat.le_of_ble_eq_true rfl) ?_
  refine WPM.of pX11 (Nat.le_of_ble_eq_true rfl) rfl ?_
  refine wp_iload_n dX11_isBetween_0 rfl ?_
  refine wp_iload_n dX11_isBetween_1 rfl ?_
  refine wp_icmp_lt 14 dX11_isBetween_2 (by decide) (fun _ => ?_) (fun q => absurd hx q)
  refine wp_iconst (0 : Int32) dX11_isBetween_14 (by decide) ?_
  refine wp_zret dX11_isBetween_15 rfl rfl ?_
  show WP G (d + 2) (0, 0) μX11_isNode 14 [.ref (gB G + 293), .int x] [.int (0 : Int32)] m _
  refine wp_zret dX11_isNode_14 rfl rfl ?_
  show WP G (d + 3) (0, 0) μX11_margin 5 [.ref (gB G + 293), .int x] [.int (0 : Int32)] m _
  refine wp_if_ne 11 dX11_margin_5 (by decide) (fun q => absurd (by decide) q) (fun _ => ?_)
  refine wp_ldc dX11_margin_8 kX11_96 ?_
  exact wp_iret dX11_margin_10 rfl (e1)

theorem bM_margin {G : Cx} {d : Nat} {m : Mm} {Q : Option Value → Mm → Prop} {x : Int32} {n : Nat}  (hF : Full G m) (hn : ai m (gB G + 294) 12 = nI n) (hm : n ≤ 12) (hx : ¬ x < 0) (hy : ¬ x < nI n) 
    (e1 : Q (some (.int (-1000000001 : Int32))) m) :
    WPM G (d + 3) (0, 0) μX11_margin [.ref (gB G + 293), .int x] m Q := by
  refine WPM.of pX11 (Nat.le_of_ble_eq_true rfl) rfl ?_
  refine wp_aload_n dX11_margin_0 rfl ?_
  refine wp_iload_n dX11_margin_1 rfl ?_
  refine wp_callV (As := [.int x]) (S := []) (b' := (0, 0)) (b := (0, 0)) dX11_margin_2 MX11_93 (ka hF 293 (by decide)) rfl rfl rfl rfl (Nat.le_of_ble_eq_true rfl) ?_
  refine WPM.of pX11 (Nat.le_of_ble_eq_true rfl) rfl ?_
  refine wp_iload_n dX11_isNode_0 rfl ?_
  refine wp_iconst (0 : Int32) dX11_isNode_1 (by decide) ?_
  refine wp_aload_n dX11_isNode_2 rfl ?_
  refine wp_getr (gB G + 294) dX11_isNode_3 fX11_7 (ka hF 293 (by decide)) (hF.2 _ _) (rra 1 (isK_le (ka hF 293 (by decide))) (fun _ => rfl)) ?_
  refine wp_bipush (12 : Int32) dX11_isNode_6 (by decide) ?_
  refine wp_ialdk (n := 1486) 12 (nI n) dX11_isNode_8 (ka hF 294 (by decide)) (la 294) (vinl (by decide)) rfl hn ?_
  refine wp_iconst (1 : Int32) dX11_isNode_9 (by decide) ?_
  refine wp_isubv ((nI n) - (1 : Int32)) dX11_isNode_10 rfl ?_
  refine wp_callS (As := [.int x, .int (0 : Int32), .int ((nI n) - (1 : Int32))]) (S := []) (b' := (0, 0)) (b := (0, 0)) dX11_isNode_11 MX11_67 rfl rfl (Nat.le_of_ble_eq_true rfl) ?_
  refine WPM.of pX11 (Nat.le_of_ble_eq_true rfl) rfl ?_
  refine wp_iload_n dX11_isBetween_0 rfl ?_
  refine wp_iload_n dX11_isBetween_1 rfl ?_
  refine wp_icmp_lt 14 dX11_isBetween_2 (by decide) (fun q => absurd q hx) (fun _ => ?_)
  refine wp_iload_n dX11_isBetween_5 rfl ?_
  refine wp_iload_n dX11_isBetween_6 rfl ?_
  refine wp_icmp_gt 14 dX11_isBetween_7 (by decide) (fun _ => ?_) (fun q => absurd (sub_lt (by omega) hx hy) q)
  refine wp_iconst (0 : Int32) dX11_isBetween_14 (by decide) ?_
  refine wp_zret dX11_isBetween_15 rfl rfl ?_
  show WP G (d + 2) (0, 0) μX11_isNode 14 [.ref (gB G + 293), .int x] [.int (0 : Int32)] m _
  refine wp_zret dX11_isNode_14 rfl rfl ?_
  show WP G (d + 3) (0, 0) μX11_margin 5 [.ref (gB G + 293), .int x] [.int (0 : Int32)] m _
  refine wp_if_ne 11 dX11_margin_5 (by decide) (fun q => absurd (by decide) q) (fun _ => ?_)
  refine wp_ldc dX11_margin_8 kX11_96 ?_
  exact wp_iret dX11_margin_10 rfl (e1)

theorem iM_lowest {G : Cx} {d : Nat} {m : Mm} {Q : Option Value → Mm → Prop} {i n : Nat}  (hF : Full G m) (hn : ai m (gB G + 294) 12 = nI (n + 1)) (hm : n + 1 ≤ 12) (hi : i < n + 1) 
    (e1 : Q (some (.int (ai m (gB G + 294) (11 * i + 27)))) m) :
    WPM G (d + 3) (0, 0) μX11_lowest [.ref (gB G + 293), .int (nI i)] m Q := by
  refine WPM.of pX11 (Nat.le_of_ble_eq_true rfl) rfl ?_
  refine wp_aload_n dX11_lowest_0 rfl ?_
  refine wp_iload_n dX11_lowest_1 rfl ?_
  refine wp_callV (As := [.int (nI i)]) (S := []) (b' := (0, 0)) (b := (0, 0)) dX11_lowest_2 MX11_93 (ka hF 293 (by decide)) rfl rfl rfl rfl (Nat.le_of_ble_eq_true rfl) ?_
  refine WPM.of pX11 (Nat.le_of_ble_eq_true rfl) rfl ?_
  refine wp_iload_n dX11_isNode_0 rfl ?_
  refine wp_iconst (0 : Int32) dX11_isNode_1 (by decide) ?_
  refine wp_aload_n dX11_isNode_2 rfl ?_
  refine wp_getr (gB G + 294) dX11_isNode_3 fX11_7 (ka hF 293 (by decide)) (hF.2 _ _) (rra 1 (isK_le (ka hF 293 (by decide))) (fun _ => rfl)) ?_
  refine wp_bipush (12 : Int32) dX11_isNode_6 (by decide) ?_
  refine wp_ialdk (n := 1486) 12 (nI (n + 1)) dX11_isNode_8 (ka hF 294 (by decide)) (la 294) (vinl (by decide)) rfl hn ?_
  refine wp_iconst (1 : Int32) dX11_isNode_9 (by decide) ?_
  refine wp_isubv (nI n) dX11_isNode_10 (nsub (a := n + 1) (b := 1) (by omega)) ?_
  refine wp_callS (As := [.int (nI i), .int (0 : Int32), .int (nI n)]) (S := []) (b' := (0, 0)) (b := (0, 0)) dX11_isNode_11 MX11_67 rfl rfl (Nat.le_of_ble_eq_true rfl) ?_
  refine WPM.of pX11 (Nat.le_of_ble_eq_true rfl) rfl ?_
  refine wp_iload_n dX11_isBetween_0 rfl ?_
  refine wp_iload_n dX11_isBetween_1 rfl ?_
  refine wp_icmp_lt 14 dX11_isBetween_2 (by decide) (fun q => absurd q (nI_pos (by omega))) (fun _ => ?_)
  refine wp_iload_n dX11_isBetween_5 rfl ?_
  refine wp_iload_n dX11_isBetween_6 rfl ?_
  refine wp_icmp_gt 14 dX11_isBetween_7 (by decide) (fun q => absurd q (fun z => (show ¬ n < i by omega) (nlt (a := n) (b := i) z (by omega) (by omega)))) (fun _ => ?_)
  refine wp_iconst (1 : Int32) dX11_isBetween_10 (by decide) ?_
  refine wp_goto 15 dX11_isBetween_11 (by decide) ?_
  refine wp_zret dX11_isBetween_15 rfl rfl ?_
  show WP G (d + 2) (0, 0) μX11_isNode 14 [.ref (gB G + 293), .int (nI i)] [.int (1 : Int32)] m _
  refine wp_zret dX11_isNode_14 rfl rfl ?_
  show WP G (d + 3) (0, 0) μX11_lowest 5 [.ref (gB G + 293), .int (nI i)] [.int (1 : Int32)] m _
  refine wp_if_eq 18 dX11_lowest_5 (by decide) (fun q => absurd q (by decide)) (fun _ => ?_)
  refine wp_aload_n dX11_lowest_8 rfl ?_
  refine wp_iload_n dX11_lowest_9 rfl ?_
  refine wp_bipush (7 : Int32) dX11_lowest_10 (by decide) ?_
  refine wp_callV (As := [.int (nI i), .int (7 : Int32)]) (S := []) (b' := (0, 0)) (b := (0, 0)) dX11_lowest_12 MX11_89 (ka hF 293 (by decide)) rfl rfl rfl rfl (Nat.le_of_ble_eq_true rfl) ?_
  refine WPM.of pX11 (Nat.le_of_ble_eq_true rfl) rfl ?_
  refine wp_aload_n dX11_node_0 rfl ?_
  refine wp_getr (gB G + 294) dX11_node_1 fX11_7 (ka hF 293 (by decide)) (hF.2 _ _) (rra 1 (isK_le (ka hF 293 (by decide))) (fun _ => rfl)) ?_
  refine wp_bipush (20 : Int32) dX11_node_4 (by decide) ?_
  refine wp_bipush (11 : Int32) dX11_node_6 (by decide) ?_
  refine wp_iload_n dX11_node_8 rfl ?_
  refine wp_imulv (nI (11 * i)) dX11_node_9 (nmul (a := 11) (b := i) (by omega)) ?_
  refine wp_iaddv (nI (11 * i + 20)) dX11_node_10 (nadd (a := 20) (b := 11 * i) (by omega)) ?_
  refine wp_iload_n dX11_node_11 rfl ?_
  refine wp_iaddv (nI (11 * i + 27)) dX11_node_12 (nadd (a := 11 * i + 20) (b := 7) (by omega)) ?_
  refine wp_ialdk (n := 1486) (11 * i + 27) (ai m (gB G + 294) (11 * i + 27)) dX11_node_13 (ka hF 294 (by decide)) (la 294) (vin (by omega) (by decide)) (nIc (by omega)) rfl ?_
  refine wp_iret dX11_node_14 rfl ?_
  show WP G (d + 3) (0, 0) μX11_lowest 15 [.ref (gB G + 293), .int (nI i)] [.int (ai m (gB G + 294) (11 * i + 27))] m _
  refine wp_goto 20 dX11_lowest_15 (by decide) ?_
  exact wp_iret dX11_lowest_20 rfl (e1)

theorem aM_lowest {G : Cx} {d : Nat} {m : Mm} {Q : Option Value → Mm → Prop} {x : Int32} {n : Nat}  (hF : Full G m) (hn : ai m (gB G + 294) 12 = nI n) (hm : n ≤ 12) (hx : x < 0) 
    (e1 : Q (some (.int (-1000000001 : Int32))) m) :
    WPM G (d + 3) (0, 0) μX11_lowest [.ref (gB G + 293), .int x] m Q := by
  refine WPM.of pX11 (Nat.le_of_ble_eq_true rfl) rfl ?_
  refine wp_aload_n dX11_lowest_0 rfl ?_
  refine wp_iload_n dX11_lowest_1 rfl ?_
  refine wp_callV (As := [.int x]) (S := []) (b' := (0, 0)) (b := (0, 0)) dX11_lowest_2 MX11_93 (ka hF 293 (by decide)) rfl rfl rfl rfl (Nat.le_of_ble_eq_true rfl) ?_
  refine WPM.of pX11 (Nat.le_of_ble_eq_true rfl) rfl ?_
  refine wp_iload_n dX11_isNode_0 rfl ?_
  refine wp_iconst (0 : Int32) dX11_isNode_1 (by decide) ?_
  refine wp_aload_n dX11_isNode_2 rfl ?_
  refine wp_getr (gB G + 294) dX11_isNode_3 fX11_7 (ka hF 293 (by decide)) (hF.2 _ _) (rra 1 (isK_le (ka hF 293 (by decide))) (fun _ => rfl)) ?_
  refine wp_bipush (12 : Int32) dX11_isNode_6 (by decide) ?_
  refine wp_ialdk (n := 1486) 12 (nI n) dX11_isNode_8 (ka hF 294 (by decide)) (la 294) (vinl (by decide)) rfl hn ?_
  refine wp_iconst (1 : Int32) dX11_isNode_9 (by decide) ?_
  refine wp_isubv ((nI n) - (1 : Int32)) dX11_isNode_10 rfl ?_
  refine wp_callS (As := [.int x, .int (0 : Int32), .int ((nI n) - (1 : Int32))]) (S := []) (b' := (0, 0)) (b := (0, 0)) dX11_isNode_11 MX11_67 rfl rfl (Nat.le_of_ble_eq_true rfl) ?_
  refine WPM.of pX11 (Nat.le_of_ble_eq_true rfl) rfl ?_
  refine wp_iload_n dX11_isBetween_0 rfl ?_
  refine wp_iload_n dX11_isBetween_1 rfl ?_
  refine wp_icmp_lt 14 dX11_isBetween_2 (by decide) (fun _ => ?_) (fun q => absurd hx q)
  refine wp_iconst (0 : Int32) dX11_isBetween_14 (by decide) ?_
  refine wp_zret dX11_isBetween_15 rfl rfl ?_
  show WP G (d + 2) (0, 0) μX11_isNode 14 [.ref (gB G + 293), .int x] [.int (0 : Int32)] m _
  refine wp_zret dX11_isNode_14 rfl rfl ?_
  show WP G (d + 3) (0, 0) μX11_lowest 5 [.ref (gB G + 293), .int x] [.int (0 : Int32)] m _
  refine wp_if_eq 18 dX11_lowest_5 (by decide) (fun _ => ?_) (fun q => absurd (by decide) q)
  refine wp_ldc dX11_lowest_18 kX11_96 ?_
  exact wp_iret dX11_lowest_20 rfl (e1)

theorem bM_lowest {G : Cx} {d : Nat} {m : Mm} {Q : Option Value → Mm → Prop} {x : Int32} {n : Nat}  (hF : Full G m) (hn : ai m (gB G + 294) 12 = nI n) (hm : n ≤ 12) (hx : ¬ x < 0) (hy : ¬ x < nI n) 
    (e1 : Q (some (.int (-1000000001 : Int32))) m) :
    WPM G (d + 3) (0, 0) μX11_lowest [.ref (gB G + 293), .int x] m Q := by
  refine WPM.of pX11 (Nat.le_of_ble_eq_true rfl) rfl ?_
  refine wp_aload_n dX11_lowest_0 rfl ?_
  refine wp_iload_n dX11_lowest_1 rfl ?_
  refine wp_callV (As := [.int x]) (S := []) (b' := (0, 0)) (b := (0, 0)) dX11_lowest_2 MX11_93 (ka hF 293 (by decide)) rfl rfl rfl rfl (Nat.le_of_ble_eq_true rfl) ?_
  refine WPM.of pX11 (Nat.le_of_ble_eq_true rfl) rfl ?_
  refine wp_iload_n dX11_isNode_0 rfl ?_
  refine wp_iconst (0 : Int32) dX11_isNode_1 (by decide) ?_
  refine wp_aload_n dX11_isNode_2 rfl ?_
  refine wp_getr (gB G + 294) dX11_isNode_3 fX11_7 (ka hF 293 (by decide)) (hF.2 _ _) (rra 1 (isK_le (ka hF 293 (by decide))) (fun _ => rfl)) ?_
  refine wp_bipush (12 : Int32) dX11_isNode_6 (by decide) ?_
  refine wp_ialdk (n := 1486) 12 (nI n) dX11_isNode_8 (ka hF 294 (by decide)) (la 294) (vinl (by decide)) rfl hn ?_
  refine wp_iconst (1 : Int32) dX11_isNode_9 (by decide) ?_
  refine wp_isubv ((nI n) - (1 : Int32)) dX11_isNode_10 rfl ?_
  refine wp_callS (As := [.int x, .int (0 : Int32), .int ((nI n) - (1 : Int32))]) (S := []) (b' := (0, 0)) (b := (0, 0)) dX11_isNode_11 MX11_67 rfl rfl (Nat.le_of_ble_eq_true rfl) ?_
  refine WPM.of pX11 (Nat.le_of_ble_eq_true rfl) rfl ?_
  refine wp_iload_n dX11_isBetween_0 rfl ?_
  refine wp_iload_n dX11_isBetween_1 rfl ?_
  refine wp_icmp_lt 14 dX11_isBetween_2 (by decide) (fun q => absurd q hx) (fun _ => ?_)
  refine wp_iload_n dX11_isBetween_5 rfl ?_
  refine wp_iload_n dX11_isBetween_6 rfl ?_
  refine wp_icmp_gt 14 dX11_isBetween_7 (by decide) (fun _ => ?_) (fun q => absurd (sub_lt (by omega) hx hy) q)
  refine wp_iconst (0 : Int32) dX11_isBetween_14 (by decide) ?_
  refine wp_zret dX11_isBetween_15 rfl rfl ?_
  show WP G (d + 2) (0, 0) μX11_isNode 14 [.ref (gB G + 293), .int x] [.int (0 : Int32)] m _
  refine wp_zret dX11_isNode_14 rfl rfl ?_
  show WP G (d + 3) (0, 0) μX11_lowest 5 [.ref (gB G + 293), .int x] [.int (0 : Int32)] m _
  refine wp_if_eq 18 dX11_lowest_5 (by decide) (fun _ => ?_) (fun q => absurd (by decide) q)
  refine wp_ldc dX11_lowest_18 kX11_96 ?_
  exact wp_iret dX11_lowest_20 rfl (e1)

theorem iM_highest {G : Cx} {d : Nat} {m : Mm} {Q : Option Value → Mm → Prop} {i n : Nat}  (hF : Full G m) (hn : ai m (gB G + 294) 12 = nI (n + 1)) (hm : n + 1 ≤ 12) (hi : i < n + 1) 
    (e1 : Q (some (.int (ai m (gB G + 294) (11 * i + 28)))) m) :
    WPM G (d + 3) (0, 0) μX11_highest [.ref (gB G + 293), .int (nI i)] m Q := by
  refine WPM.of pX11 (Nat.le_of_ble_eq_true rfl) rfl ?_
  refine wp_aload_n dX11_highest_0 rfl ?_
  refine wp_iload_n dX11_highest_1 rfl ?_
  refine wp_callV (As := [.int (nI i)]) (S := []) (b' := (0, 0)) (b := (0, 0)) dX11_highest_2 MX11_93 (ka hF 293 (by decide)) rfl rfl rfl rfl (Nat.le_of_ble_eq_true rfl) ?_
  refine WPM.of pX11 (Nat.le_of_ble_eq_true rfl) rfl ?_
  refine wp_iload_n dX11_isNode_0 rfl ?_
  refine wp_iconst (0 : Int32) dX11_isNode_1 (by decide) ?_
  refine wp_aload_n dX11_isNode_2 rfl ?_
  refine wp_getr (gB G + 294) dX11_isNode_3 fX11_7 (ka hF 293 (by decide)) (hF.2 _ _) (rra 1 (isK_le (ka hF 293 (by decide))) (fun _ => rfl)) ?_
  refine wp_bipush (12 : Int32) dX11_isNode_6 (by decide) ?_
  refine wp_ialdk (n := 1486) 12 (nI (n + 1)) dX11_isNode_8 (ka hF 294 (by decide)) (la 294) (vinl (by decide)) rfl hn ?_
  refine wp_iconst (1 : Int32) dX11_isNode_9 (by decide) ?_
  refine wp_isubv (nI n) dX11_isNode_10 (nsub (a := n + 1) (b := 1) (by omega)) ?_
  refine wp_callS (As := [.int (nI i), .int (0 : Int32), .int (nI n)]) (S := []) (b' := (0, 0)) (b := (0, 0)) dX11_isNode_11 MX11_67 rfl rfl (Nat.le_of_ble_eq_true rfl) ?_
  refine WPM.of pX11 (Nat.le_of_ble_eq_true rfl) rfl ?_
  refine wp_iload_n dX11_isBetween_0 rfl ?_
  refine wp_iload_n dX11_isBetween_1 rfl ?_
  refine wp_icmp_lt 14 dX11_isBetween_2 (by decide) (fun q => absurd q (nI_pos (by omega))) (fun _ => ?_)
  refine wp_iload_n dX11_isBetween_5 rfl ?_
  refine wp_iload_n dX11_isBetween_6 rfl ?_
  refine wp_icmp_gt 14 dX11_isBetween_7 (by decide) (fun q => absurd q (fun z => (show ¬ n < i by omega) (nlt (a := n) (b := i) z (by omega) (by omega)))) (fun _ => ?_)
  refine wp_iconst (1 : Int32) dX11_isBetween_10 (by decide) ?_
  refine wp_goto 15 dX11_isBetween_11 (by decide) ?_
  refine wp_zret dX11_isBetween_15 rfl rfl ?_
  show WP G (d + 2) (0, 0) μX11_isNode 14 [.ref (gB G + 293), .int (nI i)] [.int (1 : Int32)] m _
  refine wp_zret dX11_isNode_14 rfl rfl ?_
  show WP G (d + 3) (0, 0) μX11_highest 5 [.ref (gB G + 293), .int (nI i)] [.int (1 : Int32)] m _
  refine wp_if_eq 18 dX11_highest_5 (by decide) (fun q => absurd q (by decide)) (fun _ => ?_)
  refine wp_aload_n dX11_highest_8 rfl ?_
  refine wp_iload_n dX11_highest_9 rfl ?_
  refine wp_bipush (8 : Int32) dX11_highest_10 (by decide) ?_
  refine wp_callV (As := [.int (nI i), .int (8 : Int32)]) (S := []) (b' := (0, 0)) (b := (0, 0)) dX11_highest_12 MX11_89 (ka hF 293 (by decide)) rfl rfl rfl rfl (Nat.le_of_ble_eq_true rfl) ?_
  refine WPM.of pX11 (Nat.le_of_ble_eq_true rfl) rfl ?_
  refine wp_aload_n dX11_node_0 rfl ?_
  refine wp_getr (gB G + 294) dX11_node_1 fX11_7 (ka hF 293 (by decide)) (hF.2 _ _) (rra 1 (isK_le (ka hF 293 (by decide))) (fun _ => rfl)) ?_
  refine wp_bipush (20 : Int32) dX11_node_4 (by decide) ?_
  refine wp_bipush (11 : Int32) dX11_node_6 (by decide) ?_
  refine wp_iload_n dX11_node_8 rfl ?_
  refine wp_imulv (nI (11 * i)) dX11_node_9 (nmul (a := 11) (b := i) (by omega)) ?_
  refine wp_iaddv (nI (11 * i + 20)) dX11_node_10 (nadd (a := 20) (b := 11 * i) (by omega)) ?_
  refine wp_iload_n dX11_node_11 rfl ?_
  refine wp_iaddv (nI (11 * i + 28)) dX11_node_12 (nadd (a := 11 * i + 20) (b := 8) (by omega)) ?_
  refine wp_ialdk (n := 1486) (11 * i + 28) (ai m (gB G + 294) (11 * i + 28)) dX11_node_13 (ka hF 294 (by decide)) (la 294) (vin (by omega) (by decide)) (nIc (by omega)) rfl ?_
  refine wp_iret dX11_node_14 rfl ?_
  show WP G (d + 3) (0, 0) μX11_highest 15 [.ref (gB G + 293), .int (nI i)] [.int (ai m (gB G + 294) (11 * i + 28))] m _
  refine wp_goto 20 dX11_highest_15 (by decide) ?_
  exact wp_iret dX11_highest_20 rfl (e1)

theorem aM_highest {G : Cx} {d : Nat} {m : Mm} {Q : Option Value → Mm → Prop} {x : Int32} {n : Nat}  (hF : Full G m) (hn : ai m (gB G + 294) 12 = nI n) (hm : n ≤ 12) (hx : x < 0) 
    (e1 : Q (some (.int (-1000000001 : Int32))) m) :
    WPM G (d + 3) (0, 0) μX11_highest [.ref (gB G + 293), .int x] m Q := by
  refine WPM.of pX11 (Nat.le_of_ble_eq_true rfl) rfl ?_
  refine wp_aload_n dX11_highest_0 rfl ?_
  refine wp_iload_n dX11_highest_1 rfl ?_
  refine wp_callV (As := [.int x]) (S := []) (b' := (0, 0)) (b := (0, 0)) dX11_highest_2 MX11_93 (ka hF 293 (by decide)) rfl rfl rfl rfl (Nat.le_of_ble_eq_true rfl) ?_
  refine WPM.of pX11 (Nat.le_of_ble_eq_true rfl) rfl ?_
  refine wp_iload_n dX11_isNode_0 rfl ?_
  refine wp_iconst (0 : Int32) dX11_isNode_1 (by decide) ?_
  refine wp_aload_n dX11_isNode_2 rfl ?_
  refine wp_getr (gB G + 294) dX11_isNode_3 fX11_7 (ka hF 293 (by decide)) (hF.2 _ _) (rra 1 (isK_le (ka hF 293 (by decide))) (fun _ => rfl)) ?_
  refine wp_bipush (12 : Int32) dX11_isNode_6 (by decide) ?_
  refine wp_ialdk (n := 1486) 12 (nI n) dX11_isNode_8 (ka hF 294 (by decide)) (la 294) (vinl (by decide)) rfl hn ?_
  refine wp_iconst (1 : Int32) dX11_isNode_9 (by decide) ?_
  refine wp_isubv ((nI n) - (1 : Int32)) dX11_isNode_10 rfl ?_
  refine wp_callS (As := [.int x, .int (0 : Int32), .int ((nI n) - (1 : Int32))]) (S := []) (b' := (0, 0)) (b := (0, 0)) dX11_isNode_11 MX11_67 rfl rfl (Nat.le_of_ble_eq_true rfl) ?_
  refine WPM.of pX11 (Nat.le_of_ble_eq_true rfl) rfl ?_
  refine wp_iload_n dX11_isBetween_0 rfl ?_
  refine wp_iload_n dX11_isBetween_1 rfl ?_
  refine wp_icmp_lt 14 dX11_isBetween_2 (by decide) (fun _ => ?_) (fun q => absurd hx q)
  refine wp_iconst (0 : Int32) dX11_isBetween_14 (by decide) ?_
  refine wp_zret dX11_isBetween_15 rfl rfl ?_
  show WP G (d + 2) (0, 0) μX11_isNode 14 [.ref (gB G + 293), .int x] [.int (0 : Int32)] m _
  refine wp_zret dX11_isNode_14 rfl rfl ?_
  show WP G (d + 3) (0, 0) μX11_highest 5 [.ref (gB G + 293), .int x] [.int (0 : Int32)] m _
  refine wp_if_eq 18 dX11_highest_5 (by decide) (fun _ => ?_) (fun q => absurd (by decide) q)
  refine wp_ldc dX11_highest_18 kX11_96 ?_
  exact wp_iret dX11_highest_20 rfl (e1)

theorem bM_highest {G : Cx} {d : Nat} {m : Mm} {Q : Option Value → Mm → Prop} {x : Int32} {n : Nat}  (hF : Full G m) (hn : ai m (gB G + 294) 12 = nI n) (hm : n ≤ 12) (hx : ¬ x < 0) (hy : ¬ x < nI n) 
    (e1 : Q (some (.int (-1000000001 : Int32))) m) :
    WPM G (d + 3) (0, 0) μX11_highest [.ref (gB G + 293), .int x] m Q := by
  refine WPM.of pX11 (Nat.le_of_ble_eq_true rfl) rfl ?_
  refine wp_aload_n dX11_highest_0 rfl ?_
  refine wp_iload_n dX11_highest_1 rfl ?_
  refine wp_callV (As := [.int x]) (S := []) (b' := (0, 0)) (b := (0, 0)) dX11_highest_2 MX11_93 (ka hF 293 (by decide)) rfl rfl rfl rfl (Nat.le_of_ble_eq_true rfl) ?_
  refine WPM.of pX11 (Nat.le_of_ble_eq_true rfl) rfl ?_
  refine wp_iload_n dX11_isNode_0 rfl ?_
  refine wp_iconst (0 : Int32) dX11_isNode_1 (by decide) ?_
  refine wp_aload_n dX11_isNode_2 rfl ?_
  refine wp_getr (gB G + 294) dX11_isNode_3 fX11_7 (ka hF 293 (by decide)) (hF.2 _ _) (rra 1 (isK_le (ka hF 293 (by decide))) (fun _ => rfl)) ?_
  refine wp_bipush (12 : Int32) dX11_isNode_6 (by decide) ?_
  refine wp_ialdk (n := 1486) 12 (nI n) dX11_isNode_8 (ka hF 294 (by decide)) (la 294) (vinl (by decide)) rfl hn ?_
  refine wp_iconst (1 : Int32) dX11_isNode_9 (by decide) ?_
  refine wp_isubv ((nI n) - (1 : Int32)) dX11_isNode_10 rfl ?_
  refine wp_callS (As := [.int x, .int (0 : Int32), .int ((nI n) - (1 : Int32))]) (S := []) (b' := (0, 0)) (b := (0, 0)) dX11_isNode_11 MX11_67 rfl rfl (Nat.le_of_ble_eq_true rfl) ?_
  refine WPM.of pX11 (Nat.le_of_ble_eq_true rfl) rfl ?_
  refine wp_iload_n dX11_isBetween_0 rfl ?_
  refine wp_iload_n dX11_isBetween_1 rfl ?_
  refine wp_icmp_lt 14 dX11_isBetween_2 (by decide) (fun q => absurd q hx) (fun _ => ?_)
  refine wp_iload_n dX11_isBetween_5 rfl ?_
  refine wp_iload_n dX11_isBetween_6 rfl ?_
  refine wp_icmp_gt 14 dX11_isBetween_7 (by decide) (fun _ => ?_) (fun q => absurd (sub_lt (by omega) hx hy) q)
  refine wp_iconst (0 : Int32) dX11_isBetween_14 (by decide) ?_
  refine wp_zret dX11_isBetween_15 rfl rfl ?_
  show WP G (d + 2) (0, 0) μX11_isNode 14 [.ref (gB G + 293), .int x] [.int (0 : Int32)] m _
  refine wp_zret dX11_isNode_14 rfl rfl ?_
  show WP G (d + 3) (0, 0) μX11_highest 5 [.ref (gB G + 293), .int x] [.int (0 : Int32)] m _
  refine wp_if_eq 18 dX11_highest_5 (by decide) (fun _ => ?_) (fun q => absurd (by decide) q)
  refine wp_ldc dX11_highest_18 kX11_96 ?_
  exact wp_iret dX11_highest_20 rfl (e1)

theorem iM_violations {G : Cx} {d : Nat} {m : Mm} {Q : Option Value → Mm → Prop} {i n : Nat}  (hF : Full G m) (hn : ai m (gB G + 294) 12 = nI (n + 1)) (hm : n + 1 ≤ 12) (hi : i < n + 1) 
    (e1 : Q (some (.int (ai m (gB G + 294) (11 * i + 29)))) m) :
    WPM G (d + 3) (0, 0) μX11_violations [.ref (gB G + 293), .int (nI i)] m Q := by
  refine WPM.of pX11 (Nat.le_of_ble_eq_true rfl) rfl ?_
  refine wp_aload_n dX11_violations_0 rfl ?_
  refine wp_iload_n dX11_violations_1 rfl ?_
  refine wp_callV (As := [.int (nI i)]) (S := []) (b' := (0, 0)) (b := (0, 0)) dX11_violations_2 MX11_93 (ka hF 293 (by decide)) rfl rfl rfl rfl (Nat.le_of_ble_eq_true rfl) ?_
  refine WPM.of pX11 (Nat.le_of_ble_eq_true rfl) rfl ?_
  refine wp_iload_n dX11_isNode_0 rfl ?_
  refine wp_iconst (0 : Int32) dX11_isNode_1 (by decide) ?_
  refine wp_aload_n dX11_isNode_2 rfl ?_
  refine wp_getr (gB G + 294) dX11_isNode_3 fX11_7 (ka hF 293 (by decide)) (hF.2 _ _) (rra 1 (isK_le (ka hF 293 (by decide))) (fun _ => rfl)) ?_
  refine wp_bipush (12 : Int32) dX11_isNode_6 (by decide) ?_
  refine wp_ialdk (n := 1486) 12 (nI (n + 1)) dX11_isNode_8 (ka hF 294 (by decide)) (la 294) (vinl (by decide)) rfl hn ?_
  refine wp_iconst (1 : Int32) dX11_isNode_9 (by decide) ?_
  refine wp_isubv (nI n) dX11_isNode_10 (nsub (a := n + 1) (b := 1) (by omega)) ?_
  refine wp_callS (As := [.int (nI i), .int (0 : Int32), .int (nI n)]) (S := []) (b' := (0, 0)) (b := (0, 0)) dX11_isNode_11 MX11_67 rfl rfl (Nat.le_of_ble_eq_true rfl) ?_
  refine WPM.of pX11 (Nat.le_of_ble_eq_true rfl) rfl ?_
  refine wp_iload_n dX11_isBetween_0 rfl ?_
  refine wp_iload_n dX11_isBetween_1 rfl ?_
  refine wp_icmp_lt 14 dX11_isBetween_2 (by decide) (fun q => absurd q (nI_pos (by omega))) (fun _ => ?_)
  refine wp_iload_n dX11_isBetween_5 rfl ?_
  refine wp_iload_n dX11_isBetween_6 rfl ?_
  refine wp_icmp_gt 14 dX11_isBetween_7 (by decide) (fun q => absurd q (fun z => (show ¬ n < i by omega) (nlt (a := n) (b := i) z (by omega) (by omega)))) (fun _ => ?_)
  refine wp_iconst (1 : Int32) dX11_isBetween_10 (by decide) ?_
  refine wp_goto 15 dX11_isBetween_11 (by decide) ?_
  refine wp_zret dX11_isBetween_15 rfl rfl ?_
  show WP G (d + 2) (0, 0) μX11_isNode 14 [.ref (gB G + 293), .int (nI i)] [.int (1 : Int32)] m _
  refine wp_zret dX11_isNode_14 rfl rfl ?_
  show WP G (d + 3) (0, 0) μX11_violations 5 [.ref (gB G + 293), .int (nI i)] [.int (1 : Int32)] m _
  refine wp_if_eq 18 dX11_violations_5 (by decide) (fun q => absurd q (by decide)) (fun _ => ?_)
  refine wp_aload_n dX11_violations_8 rfl ?_
  refine wp_iload_n dX11_violations_9 rfl ?_
  refine wp_bipush (9 : Int32) dX11_violations_10 (by decide) ?_
  refine wp_callV (As := [.int (nI i), .int (9 : Int32)]) (S := []) (b' := (0, 0)) (b := (0, 0)) dX11_violations_12 MX11_89 (ka hF 293 (by decide)) rfl rfl rfl rfl (Nat.le_of_ble_eq_true rfl) ?_
  refine WPM.of pX11 (Nat.le_of_ble_eq_true rfl) rfl ?_
  refine wp_aload_n dX11_node_0 rfl ?_
  refine wp_getr (gB G + 294) dX11_node_1 fX11_7 (ka hF 293 (by decide)) (hF.2 _ _) (rra 1 (isK_le (ka hF 293 (by decide))) (fun _ => rfl)) ?_
  refine wp_bipush (20 : Int32) dX11_node_4 (by decide) ?_
  refine wp_bipush (11 : Int32) dX11_node_6 (by decide) ?_
  refine wp_iload_n dX11_node_8 rfl ?_
  refine wp_imulv (nI (11 * i)) dX11_node_9 (nmul (a := 11) (b := i) (by omega)) ?_
  refine wp_iaddv (nI (11 * i + 20)) dX11_node_10 (nadd (a := 20) (b := 11 * i) (by omega)) ?_
  refine wp_iload_n dX11_node_11 rfl ?_
  refine wp_iaddv (nI (11 * i + 29)) dX11_node_12 (nadd (a := 11 * i + 20) (b := 9) (by omega)) ?_
  refine wp_ialdk (n := 1486) (11 * i + 29) (ai m (gB G + 294) (11 * i + 29)) dX11_node_13 (ka hF 294 (by decide)) (la 294) (vin (by omega) (by decide)) (nIc (by omega)) rfl ?_
  refine wp_iret dX11_node_14 rfl ?_
  show WP G (d + 3) (0, 0) μX11_violations 15 [.ref (gB G + 293), .int (nI i)] [.int (ai m (gB G + 294) (11 * i + 29))] m _
  refine wp_goto 20 dX11_violations_15 (by decide) ?_
  exact wp_iret dX11_violations_20 rfl (e1)

theorem aM_violations {G : Cx} {d : Nat} {m : Mm} {Q : Option Value → Mm → Prop} {x : Int32} {n : Nat}  (hF : Full G m) (hn : ai m (gB G + 294) 12 = nI n) (hm : n ≤ 12) (hx : x < 0) 
    (e1 : Q (some (.int (-1000000001 : Int32))) m) :
    WPM G (d + 3) (0, 0) μX11_violations [.ref (gB G + 293), .int x] m Q := by
  refine WPM.of pX11 (Nat.le_of_ble_eq_true rfl) rfl ?_
  refine wp_aload_n dX11_violations_0 rfl ?_
  refine wp_iload_n dX11_violations_1 rfl ?_
  refine wp_callV (As := [.int x]) (S := []) (b' := (0, 0)) (b := (0, 0)) dX11_violations_2 MX11_93 (ka hF 293 (by decide)) rfl rfl rfl rfl (Nat.le_of_ble_eq_true rfl) ?_
  refine WPM.of pX11 (Nat.le_of_ble_eq_true rfl) rfl ?_
  refine wp_iload_n dX11_isNode_0 rfl ?_
  refine wp_iconst (0 : Int32) dX11_isNode_1 (by decide) ?_
  refine wp_aload_n dX11_isNode_2 rfl ?_
  refine wp_getr (gB G + 294) dX11_isNode_3 fX11_7 (ka hF 293 (by decide)) (hF.2 _ _) (rra 1 (isK_le (ka hF 293 (by decide))) (fun _ => rfl)) ?_
  refine wp_bipush (12 : Int32) dX11_isNode_6 (by decide) ?_
  refine wp_ialdk (n := 1486) 12 (nI n) dX11_isNode_8 (ka hF 294 (by decide)) (la 294) (vinl (by decide)) rfl hn ?_
  refine wp_iconst (1 : Int32) dX11_isNode_9 (by decide) ?_
  refine wp_isubv ((nI n) - (1 : Int32)) dX11_isNode_10 rfl ?_
  refine wp_callS (As := [.int x, .int (0 : Int32), .int ((nI n) - (1 : Int32))]) (S := []) (b' := (0, 0)) (b := (0, 0)) dX11_isNode_11 MX11_67 rfl rfl (Nat.le_of_ble_eq_true rfl) ?_
  refine WPM.of pX11 (Nat.le_of_ble_eq_true rfl) rfl ?_
  refine wp_iload_n dX11_isBetween_0 rfl ?_
  refine wp_iload_n dX11_isBetween_1 rfl ?_
  refine wp_icmp_lt 14 dX11_isBetween_2 (by decide) (fun _ => ?_) (fun q => absurd hx q)
  refine wp_iconst (0 : Int32) dX11_isBetween_14 (by decide) ?_
  refine wp_zret dX11_isBetween_15 rfl rfl ?_
  show WP G (d + 2) (0, 0) μX11_isNode 14 [.ref (gB G + 293), .int x] [.int (0 : Int32)] m _
  refine wp_zret dX11_isNode_14 rfl rfl ?_
  show WP G (d + 3) (0, 0) μX11_violations 5 [.ref (gB G + 293), .int x] [.int (0 : Int32)] m _
  refine wp_if_eq 18 dX11_violations_5 (by decide) (fun _ => ?_) (fun q => absurd (by decide) q)
  refine wp_ldc dX11_violations_18 kX11_96 ?_
  exact wp_iret dX11_violations_20 rfl (e1)

theorem bM_violations {G : Cx} {d : Nat} {m : Mm} {Q : Option Value → Mm → Prop} {x : Int32} {n : Nat}  (hF : Full G m) (hn : ai m (gB G + 294) 12 = nI n) (hm : n ≤ 12) (hx : ¬ x < 0) (hy : ¬ x < nI n) 
    (e1 : Q (some (.int (-1000000001 : Int32))) m) :
    WPM G (d + 3) (0, 0) μX11_violations [.ref (gB G + 293), .int x] m Q := by
  refine WPM.of pX11 (Nat.le_of_ble_eq_true rfl) rfl ?_
  refine wp_aload_n dX11_violations_0 rfl ?_
  refine wp_iload_n dX11_violations_1 rfl ?_
  refine wp_callV (As := [.int x]) (S := []) (b' := (0, 0)) (b := (0, 0)) dX11_violations_2 MX11_93 (ka hF 293 (by decide)) rfl rfl rfl rfl (Nat.le_of_ble_eq_true rfl) ?_
  refine WPM.of pX11 (Nat.le_of_ble_eq_true rfl) rfl ?_
  refine wp_iload_n dX11_isNode_0 rfl ?_
  refine wp_iconst (0 : Int32) dX11_isNode_1 (by decide) ?_
  refine wp_aload_n dX11_isNode_2 rfl ?_
  refine wp_getr (gB G + 294) dX11_isNode_3 fX11_7 (ka hF 293 (by decide)) (hF.2 _ _) (rra 1 (isK_le (ka hF 293 (by decide))) (fun _ => rfl)) ?_
  refine wp_bipush (12 : Int32) dX11_isNode_6 (by decide) ?_
  refine wp_ialdk (n := 1486) 12 (nI n) dX11_isNode_8 (ka hF 294 (by decide)) (la 294) (vinl (by decide)) rfl hn ?_
  refine wp_iconst (1 : Int32) dX11_isNode_9 (by decide) ?_
  refine wp_isubv ((nI n) - (1 : Int32)) dX11_isNode_10 rfl ?_
  refine wp_callS (As := [.int x, .int (0 : Int32), .int ((nI n) - (1 : Int32))]) (S := []) (b' := (0, 0)) (b := (0, 0)) dX11_isNode_11 MX11_67 rfl rfl (Nat.le_of_ble_eq_true rfl) ?_
  refine WPM.of pX11 (Nat.le_of_ble_eq_true rfl) rfl ?_
  refine wp_iload_n dX11_isBetween_0 rfl ?_
  refine wp_iload_n dX11_isBetween_1 rfl ?_
  refine wp_icmp_lt 14 dX11_isBetween_2 (by decide) (fun q => absurd q hx) (fun _ => ?_)
  refine wp_iload_n dX11_isBetween_5 rfl ?_
  refine wp_iload_n dX11_isBetween_6 rfl ?_
  refine wp_icmp_gt 14 dX11_isBetween_7 (by decide) (fun _ => ?_) (fun q => absurd (sub_lt (by omega) hx hy) q)
  refine wp_iconst (0 : Int32) dX11_isBetween_14 (by decide) ?_
  refine wp_zret dX11_isBetween_15 rfl rfl ?_
  show WP G (d + 2) (0, 0) μX11_isNode 14 [.ref (gB G + 293), .int x] [.int (0 : Int32)] m _
  refine wp_zret dX11_isNode_14 rfl rfl ?_
  show WP G (d + 3) (0, 0) μX11_violations 5 [.ref (gB G + 293), .int x] [.int (0 : Int32)] m _
  refine wp_if_eq 18 dX11_violations_5 (by decide) (fun _ => ?_) (fun q => absurd (by decide) q)
  refine wp_ldc dX11_violations_18 kX11_96 ?_
  exact wp_iret dX11_violations_20 rfl (e1)

theorem iM_firstViolation {G : Cx} {d : Nat} {m : Mm} {Q : Option Value → Mm → Prop} {i n : Nat}  (hF : Full G m) (hn : ai m (gB G + 294) 12 = nI (n + 1)) (hm : n + 1 ≤ 12) (hi : i < n + 1) 
    (e1 : Q (some (.int (ai m (gB G + 294) (11 * i + 30)))) m) :
    WPM G (d + 3) (0, 0) μX11_firstViolation [.ref (gB G + 293), .int (nI i)] m Q := by
  refine WPM.of pX11 (Nat.le_of_ble_eq_true rfl) rfl ?_
  refine wp_aload_n dX11_firstViolation_0 rfl ?_
  refine wp_iload_n dX11_firstViolation_1 rfl ?_
  refine wp_callV (As := [.int (nI i)]) (S := []) (b' := (0, 0)) (b := (0, 0)) dX11_firstViolation_2 MX11_93 (ka hF 293 (by decide)) rfl rfl rfl rfl (Nat.le_of_ble_eq_true rfl) ?_
  refine WPM.of pX11 (Nat.le_of_ble_eq_true rfl) rfl ?_
  refine wp_iload_n dX11_isNode_0 rfl ?_
  refine wp_iconst (0 : Int32) dX11_isNode_1 (by decide) ?_
  refine wp_aload_n dX11_isNode_2 rfl ?_
  refine wp_getr (gB G + 294) dX11_isNode_3 fX11_7 (ka hF 293 (by decide)) (hF.2 _ _) (rra 1 (isK_le (ka hF 293 (by decide))) (fun _ => rfl)) ?_
  refine wp_bipush (12 : Int32) dX11_isNode_6 (by decide) ?_
  refine wp_ialdk (n := 1486) 12 (nI (n + 1)) dX11_isNode_8 (ka hF 294 (by decide)) (la 294) (vinl (by decide)) rfl hn ?_
  refine wp_iconst (1 : Int32) dX11_isNode_9 (by decide) ?_
  refine wp_isubv (nI n) dX11_isNode_10 (nsub (a := n + 1) (b := 1) (by omega)) ?_
  refine wp_callS (As := [.int (nI i), .int (0 : Int32), .int (nI n)]) (S := []) (b' := (0, 0)) (b := (0, 0)) dX11_isNode_11 MX11_67 rfl rfl (Nat.le_of_ble_eq_true rfl) ?_
  refine WPM.of pX11 (Nat.le_of_ble_eq_true rfl) rfl ?_
  refine wp_iload_n dX11_isBetween_0 rfl ?_
  refine wp_iload_n dX11_isBetween_1 rfl ?_
  refine wp_icmp_lt 14 dX11_isBetween_2 (by decide) (fun q => absurd q (nI_pos (by omega))) (fun _ => ?_)
  refine wp_iload_n dX11_isBetween_5 rfl ?_
  refine wp_iload_n dX11_isBetween_6 rfl ?_
  refine wp_icmp_gt 14 dX11_isBetween_7 (by decide) (fun q => absurd q (fun z => (show ¬ n < i by omega) (nlt (a := n) (b := i) z (by omega) (by omega)))) (fun _ => ?_)
  refine wp_iconst (1 : Int32) dX11_isBetween_10 (by decide) ?_
  refine wp_goto 15 dX11_isBetween_11 (by decide) ?_
  refine wp_zret dX11_isBetween_15 rfl rfl ?_
  show WP G (d + 2) (0, 0) μX11_isNode 14 [.ref (gB G + 293), .int (nI i)] [.int (1 : Int32)] m _
  refine wp_zret dX11_isNode_14 rfl rfl ?_
  show WP G (d + 3) (0, 0) μX11_firstViolation 5 [.ref (gB G + 293), .int (nI i)] [.int (1 : Int32)] m _
  refine wp_if_eq 18 dX11_firstViolation_5 (by decide) (fun q => absurd q (by decide)) (fun _ => ?_)
  refine wp_aload_n dX11_firstViolation_8 rfl ?_
  refine wp_iload_n dX11_firstViolation_9 rfl ?_
  refine wp_bipush (10 : Int32) dX11_firstViolation_10 (by decide) ?_
  refine wp_callV (As := [.int (nI i), .int (10 : Int32)]) (S := []) (b' := (0, 0)) (b := (0, 0)) dX11_firstViolation_12 MX11_89 (ka hF 293 (by decide)) rfl rfl rfl rfl (Nat.le_of_ble_eq_true rfl) ?_
  refine WPM.of pX11 (Nat.le_of_ble_eq_true rfl) rfl ?_
  refine wp_aload_n dX11_node_0 rfl ?_
  refine wp_getr (gB G + 294) dX11_node_1 fX11_7 (ka hF 293 (by decide)) (hF.2 _ _) (rra 1 (isK_le (ka hF 293 (by decide))) (fun _ => rfl)) ?_
  refine wp_bipush (20 : Int32) dX11_node_4 (by decide) ?_
  refine wp_bipush (11 : Int32) dX11_node_6 (by decide) ?_
  refine wp_iload_n dX11_node_8 rfl ?_
  refine wp_imulv (nI (11 * i)) dX11_node_9 (nmul (a := 11) (b := i) (by omega)) ?_
  refine wp_iaddv (nI (11 * i + 20)) dX11_node_10 (nadd (a := 20) (b := 11 * i) (by omega)) ?_
  refine wp_iload_n dX11_node_11 rfl ?_
  refine wp_iaddv (nI (11 * i + 30)) dX11_node_12 (nadd (a := 11 * i + 20) (b := 10) (by omega)) ?_
  refine wp_ialdk (n := 1486) (11 * i + 30) (ai m (gB G + 294) (11 * i + 30)) dX11_node_13 (ka hF 294 (by decide)) (la 294) (vin (by omega) (by decide)) (nIc (by omega)) rfl ?_
  refine wp_iret dX11_node_14 rfl ?_
  show WP G (d + 3) (0, 0) μX11_firstViolation 15 [.ref (gB G + 293), .int (nI i)] [.int (ai m (gB G + 294) (11 * i + 30))] m _
  refine wp_goto 20 dX11_firstViolation_15 (by decide) ?_
  exact wp_iret dX11_firstViolation_20 rfl (e1)

theorem aM_firstViolation {G : Cx} {d : Nat} {m : Mm} {Q : Option Value → Mm → Prop} {x : Int32} {n : Nat}  (hF : Full G m) (hn : ai m (gB G + 294) 12 = nI n) (hm : n ≤ 12) (hx : x < 0) 
    (e1 : Q (some (.int (-1000000001 : Int32))) m) :
    WPM G (d + 3) (0, 0) μX11_firstViolation [.ref (gB G + 293), .int x] m Q := by
  refine WPM.of pX11 (Nat.le_of_ble_eq_true rfl) rfl ?_
  refine wp_aload_n dX11_firstViolation_0 rfl ?_
  refine wp_iload_n dX11_firstViolation_1 rfl ?_
  refine wp_callV (As := [.int x]) (S := []) (b' := (0, 0)) (b := (0, 0)) dX11_firstViolation_2 MX11_93 (ka hF 293 (by decide)) rfl rfl rfl rfl (Nat.le_of_ble_eq_true rfl) ?_
  refine WPM.of pX11 (Nat.le_of_ble_eq_true rfl) rfl ?_
  refine wp_iload_n dX11_isNode_0 rfl ?_
  refine wp_iconst (0 : Int32) dX11_isNode_1 (by decide) ?_
  refine wp_aload_n dX11_isNode_2 rfl ?_
  refine wp_getr (gB G + 294) dX11_isNode_3 fX11_7 (ka hF 293 (by decide)) (hF.2 _ _) (rra 1 (isK_le (ka hF 293 (by decide))) (fun _ => rfl)) ?_
  refine wp_bipush (12 : Int32) dX11_isNode_6 (by decide) ?_
  refine wp_ialdk (n := 1486) 12 (nI n) dX11_isNode_8 (ka hF 294 (by decide)) (la 294) (vinl (by decide)) rfl hn ?_
  refine wp_iconst (1 : Int32) dX11_isNode_9 (by decide) ?_
  refine wp_isubv ((nI n) - (1 : Int32)) dX11_isNode_10 rfl ?_
  refine wp_callS (As := [.int x, .int (0 : Int32), .int ((nI n) - (1 : Int32))]) (S := []) (b' := (0, 0)) (b := (0, 0)) dX11_isNode_11 MX11_67 rfl rfl (Nat.le_of_ble_eq_true rfl) ?_
  refine WPM.of pX11 (Nat.le_of_ble_eq_true rfl) rfl ?_
  refine wp_iload_n dX11_isBetween_0 rfl ?_
  refine wp_iload_n dX11_isBetween_1 rfl ?_
  refine wp_icmp_lt 14 dX11_isBetween_2 (by decide) (fun _ => ?_) (fun q => absurd hx q)
  refine wp_iconst (0 : Int32) dX11_isBetween_14 (by decide) ?_
  refine wp_zret dX11_isBetween_15 rfl rfl ?_
  show WP G (d + 2) (0, 0) μX11_isNode 14 [.ref (gB G + 293), .int x] [.int (0 : Int32)] m _
  refine wp_zret dX11_isNode_14 rfl rfl ?_
  show WP G (d + 3) (0, 0) μX11_firstViolation 5 [.ref (gB G + 293), .int x] [.int (0 : Int32)] m _
  refine wp_if_eq 18 dX11_firstViolation_5 (by decide) (fun _ => ?_) (fun q => absurd (by decide) q)
  refine wp_ldc dX11_firstViolation_18 kX11_96 ?_
  exact wp_iret dX11_firstViolation_20 rfl (e1)

theorem bM_firstViolation {G : Cx} {d : Nat} {m : Mm} {Q : Option Value → Mm → Prop} {x : Int32} {n : Nat}  (hF : Full G m) (hn : ai m (gB G + 294) 12 = nI n) (hm : n ≤ 12) (hx : ¬ x < 0) (hy : ¬ x < nI n) 
    (e1 : Q (some (.int (-1000000001 : Int32))) m) :
    WPM G (d + 3) (0, 0) μX11_firstViolation [.ref (gB G + 293), .int x] m Q := by
  refine WPM.of pX11 (Nat.le_of_ble_eq_true rfl) rfl ?_
  refine wp_aload_n dX11_firstViolation_0 rfl ?_
  refine wp_iload_n dX11_firstViolation_1 rfl ?_
  refine wp_callV (As := [.int x]) (S := []) (b' := (0, 0)) (b := (0, 0)) dX11_firstViolation_2 MX11_93 (ka hF 293 (by decide)) rfl rfl rfl rfl (Nat.le_of_ble_eq_true rfl) ?_
  refine WPM.of pX11 (Nat.le_of_ble_eq_true rfl) rfl ?_
  refine wp_iload_n dX11_isNode_0 rfl ?_
  refine wp_iconst (0 : Int32) dX11_isNode_1 (by decide) ?_
  refine wp_aload_n dX11_isNode_2 rfl ?_
  refine wp_getr (gB G + 294) dX11_isNode_3 fX11_7 (ka hF 293 (by decide)) (hF.2 _ _) (rra 1 (isK_le (ka hF 293 (by decide))) (fun _ => rfl)) ?_
  refine wp_bipush (12 : Int32) dX11_isNode_6 (by decide) ?_
  refine wp_ialdk (n := 1486) 12 (nI n) dX11_isNode_8 (ka hF 294 (by decide)) (la 294) (vinl (by decide)) rfl hn ?_
  refine wp_iconst (1 : Int32) dX11_isNode_9 (by decide) ?_
  refine wp_isubv ((nI n) - (1 : Int32)) dX11_isNode_10 rfl ?_
  refine wp_callS (As := [.int x, .int (0 : Int32), .int ((nI n) - (1 : Int32))]) (S := []) (b' := (0, 0)) (b := (0, 0)) dX11_isNode_11 MX11_67 rfl rfl (Nat.le_of_ble_eq_true rfl) ?_
  refine WPM.of pX11 (Nat.le_of_ble_eq_true rfl) rfl ?_
  refine wp_iload_n dX11_isBetween_0 rfl ?_
  refine wp_iload_n dX11_isBetween_1 rfl ?_
  refine wp_icmp_lt 14 dX11_isBetween_2 (by decide) (fun q => absurd q hx) (fun _ => ?_)
  refine wp_iload_n dX11_isBetween_5 rfl ?_
  refine wp_iload_n dX11_isBetween_6 rfl ?_
  refine wp_icmp_gt 14 dX11_isBetween_7 (by decide) (fun _ => ?_) (fun q => absurd (sub_lt (by omega) hx hy) q)
  refine wp_iconst (0 : Int32) dX11_isBetween_14 (by decide) ?_
  refine wp_zret dX11_isBetween_15 rfl rfl ?_
  show WP G (d + 2) (0, 0) μX11_isNode 14 [.ref (gB G + 293), .int x] [.int (0 : Int32)] m _
  refine wp_zret dX11_isNode_14 rfl rfl ?_
  show WP G (d + 3) (0, 0) μX11_firstViolation 5 [.ref (gB G + 293), .int x] [.int (0 : Int32)] m _
  refine wp_if_eq 18 dX11_firstViolation_5 (by decide) (fun _ => ?_) (fun q => absurd (by decide) q)
  refine wp_ldc dX11_firstViolation_18 kX11_96 ?_
  exact wp_iret dX11_firstViolation_20 rfl (e1)

theorem iM_setLimits {G : Cx} {d : Nat} {m : Mm} {Q : Option Value → Mm → Prop} {y z : Int32} {i n : Nat}  (hF : Full G m) (hn : ai m (gB G + 294) 12 = nI (n + 1)) (hm : n + 1 ≤ 12) (hi : i < n + 1) 
    (e1 : z < (-200000 : Int32) → Q (some (.int (-1000000002 : Int32))) m)
    (e2 : ¬ z < (-200000 : Int32) → (200000 : Int32) < z → Q (some (.int (-1000000002 : Int32))) m)
    (e3 : ¬ z < (-200000 : Int32) → ¬ (200000 : Int32) < z → y < (-200000 : Int32) → Q (some (.int (-1000000002 : Int32))) m)
    (e4 : ¬ z < (-200000 : Int32) → ¬ (200000 : Int32) < z → ¬ y < (-200000 : Int32) → z < y → Q (some (.int (-1000000002 : Int32))) m)
    (e5 : ¬ z < (-200000 : Int32) → ¬ (200000 : Int32) < z → ¬ y < (-200000 : Int32) → ¬ z < y → Q (some (.int (0 : Int32))) (wai (wai m (gB G + 294) (11 * i + 25) y) (gB G + 294) (11 * i + 26) z)) :
    WPM G (d + 3) (0, 0) μX11_setLimits [.ref (gB G + 293), .int (nI i), .int y, .int z] m Q := by
  refine WPM.of pX11 (Nat.le_of_ble_eq_true rfl) rfl ?_
  refine wp_aload_n dX11_setLimits_0 rfl ?_
  refine wp_iload_n dX11_setLimits_1 rfl ?_
  refine wp_callV (As := [.int (nI i)]) (S := []) (b' := (0, 0)) (b := (0, 0)) dX11_setLimits_2 MX11_93 (ka hF 293 (by decide)) rfl rfl rfl rfl (Nat.le_of_ble_eq_true rfl) ?_
  refine WPM.of pX11 (Nat.le_of_ble_eq_true rfl) rfl ?_
  refine wp_iload_n dX11_isNode_0 rfl ?_
  refine wp_iconst (0 : Int32) dX11_isNode_1 (by decide) ?_
  refine wp_aload_n dX11_isNode_2 rfl ?_
  refine wp_getr (gB G + 294) dX11_isNode_3 fX11_7 (ka hF 293 (by decide)) (hF.2 _ _) (rra 1 (isK_le (ka hF 293 (by decide))) (fun _ => rfl)) ?_
  refine wp_bipush (12 : Int32) dX11_isNode_6 (by decide) ?_
  refine wp_ialdk (n := 1486) 12 (nI (n + 1)) dX11_isNode_8 (ka hF 294 (by decide)) (la 294) (vinl (by decide)) rfl hn ?_
  refine wp_iconst (1 : Int32) dX11_isNode_9 (by decide) ?_
  refine wp_isubv (nI n) dX11_isNode_10 (nsub (a := n + 1) (b := 1) (by omega)) ?_
  refine wp_callS (As := [.int (nI i), .int (0 : Int32), .int (nI n)]) (S := []) (b' := (0, 0)) (b := (0, 0)) dX11_isNode_11 MX11_67 rfl rfl (Nat.le_of_ble_eq_true rfl) ?_
  refine WPM.of pX11 (Nat.le_of_ble_eq_true rfl) rfl ?_
  refine wp_iload_n dX11_isBetween_0 rfl ?_
  refine wp_iload_n dX11_isBetween_1 rfl ?_
  refine wp_icmp_lt 14 dX11_isBetween_2 (by decide) (fun q => absurd q (nI_pos (by omega))) (fun _ => ?_)
  refine wp_iload_n dX11_isBetween_5 rfl ?_
  refine wp_iload_n dX11_isBetween_6 rfl ?_
  refine wp_icmp_gt 14 dX11_isBetween_7 (by decide) (fun q => absurd q (fun z => (show ¬ n < i by omega) (nlt (a := n) (b := i) z (by omega) (by omega)))) (fun _ => ?_)
  refine wp_iconst (1 : Int32) dX11_isBetween_10 (by decide) ?_
  refine wp_goto 15 dX11_isBetween_11 (by decide) ?_
  refine wp_zret dX11_isBetween_15 rfl rfl ?_
  show WP G (d + 2) (0, 0) μX11_isNode 14 [.ref (gB G + 293), .int (nI i)] [.int (1 : Int32)] m _
  refine wp_zret dX11_isNode_14 rfl rfl ?_
  show WP G (d + 3) (0, 0) μX11_setLimits 5 [.ref (gB G + 293), .int (nI i), .int y, .int z] [.int (1 : Int32)] m _
  refine wp_if_ne 11 dX11_setLimits_5 (by decide) (fun _ => ?_) (fun q => absurd q (by decide))
  refine wp_iload_n dX11_setLimits_11 rfl ?_
  refine wp_callS (As := [.int z]) (S := []) (b' := (0, 0)) (b := (0, 0)) dX11_setLimits_12 MX11_74 rfl rfl (Nat.le_of_ble_eq_true rfl) ?_
  refine WPM.of pX11 (Nat.le_of_ble_eq_true rfl) rfl ?_
  refine wp_iload_n dX11_isTemperature_0 rfl ?_
  refine wp_ldc dX11_isTemperature_1 kX11_71 ?_
  refine wp_ldc dX11_isTemperature_3 kX11_72 ?_
  refine wp_callS (As := [.int z, .int (-200000 : Int32), .int (200000 : Int32)]) (S := []) (b' := (0, 0)) (b := (0, 0)) dX11_isTemperature_5 MX11_67 rfl rfl (Nat.le_of_ble_eq_true rfl) ?_
  refine WPM.of pX11 (Nat.le_of_ble_eq_true rfl) rfl ?_
  refine wp_iload_n dX11_isBetween_0 rfl ?_
  refine wp_iload_n dX11_isBetween_1 rfl ?_
  refine wp_icmp_lt 14 dX11_isBetween_2 (by decide) (fun q1 => ?_) (fun q2 => ?_)
  · skip
    refine wp_iconst (0 : Int32) dX11_isBetween_14 (by decide) ?_
    refine wp_zret dX11_isBetween_15 rfl rfl ?_
    show WP G (d + 2) (0, 0) μX11_isTemperature 8 [.int z] [.int (0 : Int32)] m _
    refine wp_zret dX11_isTemperature_8 rfl rfl ?_
    show WP G (d + 3) (0, 0) μX11_setLimits 15 [.ref (gB G + 293), .int (nI i), .int y, .int z] [.int (0 : Int32)] m _
    refine wp_if_eq 28 dX11_setLimits_15 (by decide) (fun _ => ?_) (fun q => absurd (by decide) q)
    refine wp_ldc dX11_setLimits_28 kX11_79 ?_
    exact wp_iret dX11_setLimits_30 rfl (e1 q1)
  · skip
    refine wp_iload_n dX11_isBetween_5 rfl ?_
    refine wp_iload_n dX11_isBetween_6 rfl ?_
    refine wp_icmp_gt 14 dX11_isBetween_7 (by decide) (fun q3 => ?_) (fun q4 => ?_)
    · skip
      refine wp_iconst (0 : Int32) dX11_isBetween_14 (by decide) ?_
      refine wp_zret dX11_isBetween_15 rfl rfl ?_
      show WP G (d + 2) (0, 0) μX11_isTemperature 8 [.int z] [.int (0 : Int32)] m _
      refine wp_zret dX11_isTemperature_8 rfl rfl ?_
      show WP G (d + 3) (0, 0) μX11_setLimits 15 [.ref (gB G + 293), .int (nI i), .int y, .int z] [.int (0 : Int32)] m _
      refine wp_if_eq 28 dX11_setLimits_15 (by decide) (fun _ => ?_) (fun q => absurd (by decide) q)
      refine wp_ldc dX11_setLimits_28 kX11_79 ?_
      exact wp_iret dX11_setLimits_30 rfl (e2 q2 q3)
    · skip
      refine wp_iconst (1 : Int32) dX11_isBetween_10 (by decide) ?_
      refine wp_goto 15 dX11_isBetween_11 (by decide) ?_
      refine wp_zret dX11_isBetween_15 rfl rfl ?_
      show WP G (d + 2) (0, 0) μX11_isTemperature 8 [.int z] [.int (1 : Int32)] m _
      refine wp_zret dX11_isTemperature_8 rfl rfl ?_
      show WP G (d + 3) (0, 0) μX11_setLimits 15 [.ref (gB G + 293), .int (nI i), .int y, .int z] [.int (1 : Int32)] m _
      refine wp_if_eq 28 dX11_setLimits_15 (by decide) (fun q => absurd q (by decide)) (fun _ => ?_)
      refine wp_iload_n dX11_setLimits_18 rfl ?_
      refine wp_ldc dX11_setLimits_19 kX11_71 ?_
      refine wp_iload_n dX11_setLimits_21 rfl ?_
      refine wp_callS (As := [.int y, .int (-200000 : Int32), .int z]) (S := []) (b' := (0, 0)) (b := (0, 0)) dX11_setLimits_22 MX11_67 rfl rfl (Nat.le_of_ble_eq_true rfl) ?_
      refine WPM.of pX11 (Nat.le_of_ble_eq_true rfl) rfl ?_
      refine wp_iload_n dX11_isBetween_0 rfl ?_
      refine wp_iload_n dX11_isBetween_1 rfl ?_
      refine wp_icmp_lt 14 dX11_isBetween_2 (by decide) (fun q5 => ?_) (fun q6 => ?_)
      · skip
        refine wp_iconst (0 : Int32) dX11_isBetween_14 (by decide) ?_
        refine wp_zret dX11_isBetween_15 rfl rfl ?_
        show WP G (d + 3) (0, 0) μX11_setLimits 25 [.ref (gB G + 293), .int (nI i), .int y, .int z] [.int (0 : Int32)] m _
        refine wp_if_ne 31 dX11_setLimits_25 (by decide) (fun q => absurd (by decide) q) (fun _ => ?_)
        refine wp_ldc dX11_setLimits_28 kX11_79 ?_
        exact wp_iret dX11_setLimits_30 rfl (e3 q2 q4 q5)
      · skip
        refine wp_iload_n dX11_isBetween_5 rfl ?_
        refine wp_iload_n dX11_isBetween_6 rfl ?_
        refine wp_icmp_gt 14 dX11_isBetween_7 (by decide) (fun q7 => ?_) (fun q8 => ?_)
        · skip
          refine wp_iconst (0 : Int32) dX11_isBetween_14 (by decide) ?_
          refine wp_zret dX11_isBetween_15 rfl rfl ?_
          show WP G (d + 3) (0, 0) μX11_setLimits 25 [.ref (gB G + 293), .int (nI i), .int y, .int z] [.int (0 : Int32)] m _
          refine wp_if_ne 31 dX11_setLimits_25 (by decide) (fun q => absurd (by decide) q) (fun _ => ?_)
          refine wp_ldc dX11_setLimits_28 kX11_79 ?_
          exact wp_iret dX11_setLimits_30 rfl (e4 q2 q4 q6 q7)
        · skip
          refine wp_iconst (1 : Int32) dX11_isBetween_10 (by decide) ?_
          refine wp_goto 15 dX11_isBetween_11 (by decide) ?_
          refine wp_zret dX11_isBetween_15 rfl rfl ?_
          show WP G (d + 3) (0, 0) μX11_setLimits 25 [.ref (gB G + 293), .int (nI i), .int y, .int z] [.int (1 : Int32)] m _
          refine wp_if_ne 31 dX11_setLimits_25 (by decide) (fun _ => ?_) (fun q => absurd q (by decide))
          refine wp_aload_n dX11_setLimits_31 rfl ?_
          refine wp_iload_n dX11_setLimits_32 rfl ?_
          refine wp_iconst (5 : Int32) dX11_setLimits_33 (by decide) ?_
          refine wp_iload_n dX11_setLimits_34 rfl ?_
          refine wp_callV (As := [.int (nI i), .int (5 : Int32), .int y]) (S := []) (b' := (0, 0)) (b := (0, 0)) dX11_setLimits_35 MX11_81 (ka hF 293 (by decide)) rfl rfl rfl rfl (Nat.le_of_ble_eq_true rfl) ?_
          refine WPM.of pX11 (Nat.le_of_ble_eq_true rfl) rfl ?_
          refine wp_aload_n dX11_setNode_0 rfl ?_
          refine wp_getr (gB G + 294) dX11_setNode_1 fX11_7 (ka hF 293 (by decide)) (hF.2 _ _) (rra 1 (isK_le (ka hF 293 (by decide))) (fun _ => rfl)) ?_
          refine wp_bipush (20 : Int32) dX11_setNode_4 (by decide) ?_
          refine wp_bipush (11 : Int32) dX11_setNode_6 (by decide) ?_
          refine wp_iload_n dX11_setNode_8 rfl ?_
          refine wp_imulv (nI (11 * i)) dX11_setNode_9 (nmul (a := 11) (b := i) (by omega)) ?_
          refine wp_iaddv (nI (11 * i + 20)) dX11_setNode_10 (nadd (a := 20) (b := 11 * i) (by omega)) ?_
          refine wp_iload_n dX11_setNode_11 rfl ?_
          refine wp_iaddv (nI (11 * i + 25)) dX11_setNode_12 (nadd (a := 11 * i + 20) (b := 5) (by omega)) ?_
          refine wp_iload_n dX11_setNode_13 rfl ?_
          refine wp_iastk (n := 1486) (11 * i + 25) dX11_setNode_14 (ka hF 294 (by decide)) (la 294) (vin (by omega) (by decide))  (nIc (by omega)) ?_
          have hF9 := Full_wai (gB G + 294) (11 * i + 25) y hF
          refine wp_vret dX11_setNode_15 rfl ?_
          show WP G (d + 3) (0, 0) μX11_setLimits 38 [.ref (gB G + 293), .int (nI i), .int y, .int z] [] (wai m (gB G + 294) (11 * i + 25) y) _
          refine wp_aload_n dX11_setLimits_38 rfl ?_
          refine wp_iload_n dX11_setLimits_39 rfl ?_
          refine wp_bipush (6 : Int32) dX11_setLimits_40 (by decide) ?_
          refine wp_iload_n dX11_setLimits_42 rfl ?_
          refine wp_callV (As := [.int (nI i), .int (6 : Int32), .int z]) (S := []) (b' := (0, 0)) (b := (0, 0)) dX11_setLimits_43 MX11_81 (ka hF9 293 (by decide)) rfl rfl rfl rfl (Nat.le_of_ble_eq_true rfl) ?_
          refine WPM.of pX11 (Nat.le_of_ble_eq_true rfl) rfl ?_
          refine wp_aload_n dX11_setNode_0 rfl ?_
          refine wp_getr (gB G + 294) dX11_setNode_1 fX11_7 (ka hF9 293 (by decide)) (hF9.2 _ _) (rra 1 (isK_le (ka hF9 293 (by decide))) (fun _ => rfl)) ?_
          refine wp_bipush (20 : Int32) dX11_setNode_4 (by decide) ?_
          refine wp_bipush (11 : Int32) dX11_setNode_6 (by decide) ?_
          refine wp_iload_n dX11_setNode_8 rfl ?_
          refine wp_imulv (nI (11 * i)) dX11_setNode_9 (nmul (a := 11) (b := i) (by omega)) ?_
          refine wp_iaddv (nI (11 * i + 20)) dX11_setNode_10 (nadd (a := 20) (b := 11 * i) (by omega)) ?_
          refine wp_iload_n dX11_setNode_11 rfl ?_
          refine wp_iaddv (nI (11 * i + 26)) dX11_setNode_12 (nadd (a := 11 * i + 20) (b := 6) (by omega)) ?_
          refine wp_iload_n dX11_setNode_13 rfl ?_
          refine wp_iastk (n := 1486) (11 * i + 26) dX11_setNode_14 (ka hF9 294 (by decide)) (la 294) (vin (by omega) (by decide))  (nIc (by omega)) ?_
          have hF10 := Full_wai (gB G + 294) (11 * i + 26) z hF9
          refine wp_vret dX11_setNode_15 rfl ?_
          show WP G (d + 3) (0, 0) μX11_setLimits 46 [.ref (gB G + 293), .int (nI i), .int y, .int z] [] (wai (wai m (gB G + 294) (11 * i + 25) y) (gB G + 294) (11 * i + 26) z) _
          refine wp_iconst (0 : Int32) dX11_setLimits_46 (by decide) ?_
          exact wp_iret dX11_setLimits_47 rfl (e5 q2 q4 q6 q8)

theorem aM_setLimits {G : Cx} {d : Nat} {m : Mm} {Q : Option Value → Mm → Prop} {x y z : Int32} {n : Nat}  (hF : Full G m) (hn : ai m (gB G + 294) 12 = nI n) (hm : n ≤ 12) (hx : x < 0) 
    (e1 : Q (some (.int (-1000000001 : Int32))) m) :
    WPM G (d + 3) (0, 0) μX11_setLimits [.ref (gB G + 293), .int x, .int y, .int z] m Q := by
  refine WPM.of pX11 (Nat.le_of_ble_eq_true rfl) rfl ?_
  refine wp_aload_n dX11_setLimits_0 rfl ?_
  refine wp_iload_n dX11_setLimits_1 rfl ?_
  refine wp_callV (As := [.int x]) (S := []) (b' := (0, 0)) (b := (0, 0)) dX11_setLimits_2 MX11_93 (ka hF 293 (by decide)) rfl rfl rfl rfl (Nat.le_of_ble_eq_true rfl) ?_
  refine WPM.of pX11 (Nat.le_of_ble_eq_true rfl) rfl ?_
  refine wp_iload_n dX11_isNode_0 rfl ?_
  refine wp_iconst (0 : Int32) dX11_isNode_1 (by decide) ?_
  refine wp_aload_n dX11_isNode_2 rfl ?_
  refine wp_getr (gB G + 294) dX11_isNode_3 fX11_7 (ka hF 293 (by decide)) (hF.2 _ _) (rra 1 (isK_le (ka hF 293 (by decide))) (fun _ => rfl)) ?_
  refine wp_bipush (12 : Int32) dX11_isNode_6 (by decide) ?_
  refine wp_ialdk (n := 1486) 12 (nI n) dX11_isNode_8 (ka hF 294 (by decide)) (la 294) (vinl (by decide)) rfl hn ?_
  refine wp_iconst (1 : Int32) dX11_isNode_9 (by decide) ?_
  refine wp_isubv ((nI n) - (1 : Int32)) dX11_isNode_10 rfl ?_
  refine wp_callS (As := [.int x, .int (0 : Int32), .int ((nI n) - (1 : Int32))]) (S := []) (b' := (0, 0)) (b := (0, 0)) dX11_isNode_11 MX11_67 rfl rfl (Nat.le_of_ble_eq_true rfl) ?_
  refine WPM.of pX11 (Nat.le_of_ble_eq_true rfl) rfl ?_
  refine wp_iload_n dX11_isBetween_0 rfl ?_
  refine wp_iload_n dX11_isBetween_1 rfl ?_
  refine wp_icmp_lt 14 dX11_isBetween_2 (by decide) (fun _ => ?_) (fun q => absurd hx q)
  refine wp_iconst (0 : Int32) dX11_isBetween_14 (by decide) ?_
  refine wp_zret dX11_isBetween_15 rfl rfl ?_
  show WP G (d + 2) (0, 0) μX11_isNode 14 [.ref (gB G + 293), .int x] [.int (0 : Int32)] m _
  refine wp_zret dX11_isNode_14 rfl rfl ?_
  show WP G (d + 3) (0, 0) μX11_setLimits 5 [.ref (gB G + 293), .int x, .int y, .int z] [.int (0 : Int32)] m _
  refine wp_if_ne 11 dX11_setLimits_5 (by decide) (fun q => absurd (by decide) q) (fun _ => ?_)
  refine wp_ldc dX11_setLimits_8 kX11_96 ?_
  exact wp_iret dX11_setLimits_10 rfl (e1)

theorem bM_setLimits {G : Cx} {d : Nat} {m : Mm} {Q : Option Value → Mm → Prop} {x y z : Int32} {n : Nat}  (hF : Full G m) (hn : ai m (gB G + 294) 12 = nI n) (hm : n ≤ 12) (hx : ¬ x < 0) (hy : ¬ x < nI n) 
    (e1 : Q (some (.int (-1000000001 : Int32))) m) :
    WPM G (d + 3) (0, 0) μX11_setLimits [.ref (gB G + 293), .int x, .int y, .int z] m Q := by
  refine WPM.of pX11 (Nat.le_of_ble_eq_true rfl) rfl ?_
  refine wp_aload_n dX11_setLimits_0 rfl ?_
  refine wp_iload_n dX11_setLimits_1 rfl ?_
  refine wp_callV (As := [.int x]) (S := []) (b' := (0, 0)) (b := (0, 0)) dX11_setLimits_2 MX11_93 (ka hF 293 (by decide)) rfl rfl rfl rfl (Nat.le_of_ble_eq_true rfl) ?_
  refine WPM.of pX11 (Nat.le_of_ble_eq_true rfl) rfl ?_
  refine wp_iload_n dX11_isNode_0 rfl ?_
  refine wp_iconst (0 : Int32) dX11_isNode_1 (by decide) ?_
  refine wp_aload_n dX11_isNode_2 rfl ?_
  refine wp_getr (gB G + 294) dX11_isNode_3 fX11_7 (ka hF 293 (by decide)) (hF.2 _ _) (rra 1 (isK_le (ka hF 293 (by decide))) (fun _ => rfl)) ?_
  refine wp_bipush (12 : Int32) dX11_isNode_6 (by decide) ?_
  refine wp_ialdk (n := 1486) 12 (nI n) dX11_isNode_8 (ka hF 294 (by decide)) (la 294) (vinl (by decide)) rfl hn ?_
  refine wp_iconst (1 : Int32) dX11_isNode_9 (by decide) ?_
  refine wp_isubv ((nI n) - (1 : Int32)) dX11_isNode_10 rfl ?_
  refine wp_callS (As := [.int x, .int (0 : Int32), .int ((nI n) - (1 : Int32))]) (S := []) (b' := (0, 0)) (b := (0, 0)) dX11_isNode_11 MX11_67 rfl rfl (Nat.le_of_ble_eq_true rfl) ?_
  refine WPM.of pX11 (Nat.le_of_ble_eq_true rfl) rfl ?_
  refine wp_iload_n dX11_isBetween_0 rfl ?_
  refine wp_iload_n dX11_isBetween_1 rfl ?_
  refine wp_icmp_lt 14 dX11_isBetween_2 (by decide) (fun q => absurd q hx) (fun _ => ?_)
  refine wp_iload_n dX11_isBetween_5 rfl ?_
  refine wp_iload_n dX11_isBetween_6 rfl ?_
  refine wp_icmp_gt 14 dX11_isBetween_7 (by decide) (fun _ => ?_) (fun q => absurd (sub_lt (by omega) hx hy) q)
  refine wp_iconst (0 : Int32) dX11_isBetween_14 (by decide) ?_
  refine wp_zret dX11_isBetween_15 rfl rfl ?_
  show WP G (d + 2) (0, 0) μX11_isNode 14 [.ref (gB G + 293), .int x] [.int (0 : Int32)] m _
  refine wp_zret dX11_isNode_14 rfl rfl ?_
  show WP G (d + 3) (0, 0) μX11_setLimits 5 [.ref (gB G + 293), .int x, .int y, .int z] [.int (0 : Int32)] m _
  refine wp_if_ne 11 dX11_setLimits_5 (by decide) (fun q => absurd (by decide) q) (fun _ => ?_)
  refine wp_ldc dX11_setLimits_8 kX11_96 ?_
  exact wp_iret dX11_setLimits_10 rfl (e1)

theorem iM_setTemperature {G : Cx} {d : Nat} {m : Mm} {Q : Option Value → Mm → Prop} {y : Int32} {i n : Nat}  (hF : Full G m) (hn : ai m (gB G + 294) 12 = nI (n + 1)) (hm : n + 1 ≤ 12) (hi : i < n + 1) 
    (e1 : y < (-200000 : Int32) → Q (some (.int (-1000000002 : Int32))) m)
    (e2 : ¬ y < (-200000 : Int32) → (200000 : Int32) < y → Q (some (.int (-1000000002 : Int32))) m)
    (e3 : ¬ y < (-200000 : Int32) → ¬ (200000 : Int32) < y → Q (some (.int (ai m (gB G + 294) (11 * i + 21)))) (wai m (gB G + 294) (11 * i + 21) y)) :
    WPM G (d + 3) (0, 0) μX11_setTemperature [.ref (gB G + 293), .int (nI i), .int y] m Q := by
  refine WPM.of pX11 (Nat.le_of_ble_eq_true rfl) rfl ?_
  refine wp_aload_n dX11_setTemperature_0 rfl ?_
  refine wp_iload_n dX11_setTemperature_1 rfl ?_
  refine wp_callV (As := [.int (nI i)]) (S := []) (b' := (0, 0)) (b := (0, 0)) dX11_setTemperature_2 MX11_93 (ka hF 293 (by decide)) rfl rfl rfl rfl (Nat.le_of_ble_eq_true rfl) ?_
  refine WPM.of pX11 (Nat.le_of_ble_eq_true rfl) rfl ?_
  refine wp_iload_n dX11_isNode_0 rfl ?_
  refine wp_iconst (0 : Int32) dX11_isNode_1 (by decide) ?_
  refine wp_aload_n dX11_isNode_2 rfl ?_
  refine wp_getr (gB G + 294) dX11_isNode_3 fX11_7 (ka hF 293 (by decide)) (hF.2 _ _) (rra 1 (isK_le (ka hF 293 (by decide))) (fun _ => rfl)) ?_
  refine wp_bipush (12 : Int32) dX11_isNode_6 (by decide) ?_
  refine wp_ialdk (n := 1486) 12 (nI (n + 1)) dX11_isNode_8 (ka hF 294 (by decide)) (la 294) (vinl (by decide)) rfl hn ?_
  refine wp_iconst (1 : Int32) dX11_isNode_9 (by decide) ?_
  refine wp_isubv (nI n) dX11_isNode_10 (nsub (a := n + 1) (b := 1) (by omega)) ?_
  refine wp_callS (As := [.int (nI i), .int (0 : Int32), .int (nI n)]) (S := []) (b' := (0, 0)) (b := (0, 0)) dX11_isNode_11 MX11_67 rfl rfl (Nat.le_of_ble_eq_true rfl) ?_
  refine WPM.of pX11 (Nat.le_of_ble_eq_true rfl) rfl ?_
  refine wp_iload_n dX11_isBetween_0 rfl ?_
  refine wp_iload_n dX11_isBetween_1 rfl ?_
  refine wp_icmp_lt 14 dX11_isBetween_2 (by decide) (fun q => absurd q (nI_pos (by omega))) (fun _ => ?_)
  refine wp_iload_n dX11_isBetween_5 rfl ?_
  refine wp_iload_n dX11_isBetween_6 rfl ?_
  refine wp_icmp_gt 14 dX11_isBetween_7 (by decide) (fun q => absurd q (fun z => (show ¬ n < i by omega) (nlt (a := n) (b := i) z (by omega) (by omega)))) (fun _ => ?_)
  refine wp_iconst (1 : Int32) dX11_isBetween_10 (by decide) ?_
  refine wp_goto 15 dX11_isBetween_11 (by decide) ?_
  refine wp_zret dX11_isBetween_15 rfl rfl ?_
  show WP G (d + 2) (0, 0) μX11_isNode 14 [.ref (gB G + 293), .int (nI i)] [.int (1 : Int32)] m _
  refine wp_zret dX11_isNode_14 rfl rfl ?_
  show WP G (d + 3) (0, 0) μX11_setTemperature 5 [.ref (gB G + 293), .int (nI i), .int y] [.int (1 : Int32)] m _
  refine wp_if_ne 11 dX11_setTemperature_5 (by decide) (fun _ => ?_) (fun q => absurd q (by decide))
  refine wp_iload_n dX11_setTemperature_11 rfl ?_
  refine wp_callS (As := [.int y]) (S := []) (b' := (0, 0)) (b := (0, 0)) dX11_setTemperature_12 MX11_74 rfl rfl (Nat.le_of_ble_eq_true rfl) ?_
  refine WPM.of pX11 (Nat.le_of_ble_eq_true rfl) rfl ?_
  refine wp_iload_n dX11_isTemperature_0 rfl ?_
  refine wp_ldc dX11_isTemperature_1 kX11_71 ?_
  refine wp_ldc dX11_isTemperature_3 kX11_72 ?_
  refine wp_callS (As := [.int y, .int (-200000 : Int32), .int (200000 : Int32)]) (S := []) (b' := (0, 0)) (b := (0, 0)) dX11_isTemperature_5 MX11_67 rfl rfl (Nat.le_of_ble_eq_true rfl) ?_
  refine WPM.of pX11 (Nat.le_of_ble_eq_true rfl) rfl ?_
  refine wp_iload_n dX11_isBetween_0 rfl ?_
  refine wp_iload_n dX11_isBetween_1 rfl ?_
  refine wp_icmp_lt 14 dX11_isBetween_2 (by decide) (fun q1 => ?_) (fun q2 => ?_)
  · skip
    refine wp_iconst (0 : Int32) dX11_isBetween_14 (by decide) ?_
    refine wp_zret dX11_isBetween_15 rfl rfl ?_
    show WP G (d + 2) (0, 0) μX11_isTemperature 8 [.int y] [.int (0 : Int32)] m _
    refine wp_zret dX11_isTemperature_8 rfl rfl ?_
    show WP G (d + 3) (0, 0) μX11_setTemperature 15 [.ref (gB G + 293), .int (nI i), .int y] [.int (0 : Int32)] m _
    refine wp_if_eq 28 dX11_setTemperature_15 (by decide) (fun _ => ?_) (fun q => absurd (by decide) q)
    refine wp_ldc dX11_setTemperature_28 kX11_79 ?_
    exact wp_iret dX11_setTemperature_30 rfl (e1 q1)
  · skip
    refine wp_iload_n dX11_isBetween_5 rfl ?_
    refine wp_iload_n dX11_isBetween_6 rfl ?_
    refine wp_icmp_gt 14 dX11_isBetween_7 (by decide) (fun q3 => ?_) (fun q4 => ?_)
    · skip
      refine wp_iconst (0 : Int32) dX11_isBetween_14 (by decide) ?_
      refine wp_zret dX11_isBetween_15 rfl rfl ?_
      show WP G (d + 2) (0, 0) μX11_isTemperature 8 [.int y] [.int (0 : Int32)] m _
      refine wp_zret dX11_isTemperature_8 rfl rfl ?_
      show WP G (d + 3) (0, 0) μX11_setTemperature 15 [.ref (gB G + 293), .int (nI i), .int y] [.int (0 : Int32)] m _
      refine wp_if_eq 28 dX11_setTemperature_15 (by decide) (fun _ => ?_) (fun q => absurd (by decide) q)
      refine wp_ldc dX11_setTemperature_28 kX11_79 ?_
      exact wp_iret dX11_setTemperature_30 rfl (e2 q2 q3)
    · skip
      refine wp_iconst (1 : Int32) dX11_isBetween_10 (by decide) ?_
      refine wp_goto 15 dX11_isBetween_11 (by decide) ?_
      refine wp_zret dX11_isBetween_15 rfl rfl ?_
      show WP G (d + 2) (0, 0) μX11_isTemperature 8 [.int y] [.int (1 : Int32)] m _
      refine wp_zret dX11_isTemperature_8 rfl rfl ?_
      show WP G (d + 3) (0, 0) μX11_setTemperature 15 [.ref (gB G + 293), .int (nI i), .int y] [.int (1 : Int32)] m _
      refine wp_if_eq 28 dX11_setTemperature_15 (by decide) (fun q => absurd q (by decide)) (fun _ => ?_)
      refine wp_aload_n dX11_setTemperature_18 rfl ?_
      refine wp_iload_n dX11_setTemperature_19 rfl ?_
      refine wp_iconst (1 : Int32) dX11_setTemperature_20 (by decide) ?_
      refine wp_iload_n dX11_setTemperature_21 rfl ?_
      refine wp_callV (As := [.int (nI i), .int (1 : Int32), .int y]) (S := []) (b' := (0, 0)) (b := (0, 0)) dX11_setTemperature_22 MX11_97 (ka hF 293 (by decide)) rfl rfl rfl rfl (Nat.le_of_ble_eq_true rfl) ?_
      refine WPM.of pX11 (Nat.le_of_ble_eq_true rfl) rfl ?_
      refine wp_aload_n dX11_replaceField_0 rfl ?_
      refine wp_iload_n dX11_replaceField_1 rfl ?_
      refine wp_iload_n dX11_replaceField_2 rfl ?_
      refine wp_callV (As := [.int (nI i), .int (1 : Int32)]) (S := []) (b' := (0, 0)) (b := (0, 0)) dX11_replaceField_3 MX11_89 (ka hF 293 (by decide)) rfl rfl rfl rfl (Nat.le_of_ble_eq_true rfl) ?_
      refine WPM.of pX11 (Nat.le_of_ble_eq_true rfl) rfl ?_
      refine wp_aload_n dX11_node_0 rfl ?_
      refine wp_getr (gB G + 294) dX11_node_1 fX11_7 (ka hF 293 (by decide)) (hF.2 _ _) (rra 1 (isK_le (ka hF 293 (by decide))) (fun _ => rfl)) ?_
      refine wp_bipush (20 : Int32) dX11_node_4 (by decide) ?_
      refine wp_bipush (11 : Int32) dX11_node_6 (by decide) ?_
      refine wp_iload_n dX11_node_8 rfl ?_
      refine wp_imulv (nI (11 * i)) dX11_node_9 (nmul (a := 11) (b := i) (by omega)) ?_
      refine wp_iaddv (nI (11 * i + 20)) dX11_node_10 (nadd (a := 20) (b := 11 * i) (by omega)) ?_
      refine wp_iload_n dX11_node_11 rfl ?_
      refine wp_iaddv (nI (11 * i + 21)) dX11_node_12 (nadd (a := 11 * i + 20) (b := 1) (by omega)) ?_
      refine wp_ialdk (n := 1486) (11 * i + 21) (ai m (gB G + 294) (11 * i + 21)) dX11_node_13 (ka hF 294 (by decide)) (la 294) (vin (by omega) (by decide)) (nIc (by omega)) rfl ?_
      refine wp_iret dX11_node_14 rfl ?_
      show WP G (d + 2) (0, 0) μX11_replaceField 6 [.ref (gB G + 293), .int (nI i), .int (1 : Int32), .int y, lvU] [.int (ai m (gB G + 294) (11 * i + 21))] m _
      refine wp_istore dX11_replaceField_6 (by decide) rfl ?_
      refine wp_aload_n dX11_replaceField_8 rfl ?_
      refine wp_iload_n dX11_replaceField_9 rfl ?_
      refine wp_iload_n dX11_replaceField_10 rfl ?_
      refine wp_iload_n dX11_replaceField_11 rfl ?_
      refine wp_callV (As := [.int (nI i), .int (1 : Int32), .int y]) (S := []) (b' := (0, 0)) (b := (0, 0)) dX11_replaceField_12 MX11_81 (ka hF 293 (by decide)) rfl rfl rfl rfl (Nat.le_of_ble_eq_true rfl) ?_
      refine WPM.of pX11 (Nat.le_of_ble_eq_true rfl) rfl ?_
      refine wp_aload_n dX11_setNode_0 rfl ?_
      refine wp_getr (gB G + 294) dX11_setNode_1 fX11_7 (ka hF 293 (by decide)) (hF.2 _ _) (rra 1 (isK_le (ka hF 293 (by decide))) (fun _ => rfl)) ?_
      refine wp_bipush (20 : Int32) dX11_setNode_4 (by decide) ?_
      refine wp_bipush (11 : Int32) dX11_setNode_6 (by decide) ?_
      refine wp_iload_n dX11_setNode_8 rfl ?_
      refine wp_imulv (nI (11 * i)) dX11_setNode_9 (nmul (a := 11) (b := i) (by omega)) ?_
      refine wp_iaddv (nI (11 * i + 20)) dX11_setNode_10 (nadd (a := 20) (b := 11 * i) (by omega)) ?_
      refine wp_iload_n dX11_setNode_11 rfl ?_
      refine wp_iaddv (nI (11 * i + 21)) dX11_setNode_12 (nadd (a := 11 * i + 20) (b := 1) (by omega)) ?_
      refine wp_iload_n dX11_setNode_13 rfl ?_
      refine wp_iastk (n := 1486) (11 * i + 21) dX11_setNode_14 (ka hF 294 (by decide)) (la 294) (vin (by omega) (by decide))  (nIc (by omega)) ?_
      have hF5 := Full_wai (gB G + 294) (11 * i + 21) y hF
      refine wp_vret dX11_setNode_15 rfl ?_
      show WP G (d + 2) (0, 0) μX11_replaceField 15 [.ref (gB G + 293), .int (nI i), .int (1 : Int32), .int y, .int (ai m (gB G + 294) (11 * i + 21))] [] (wai m (gB G + 294) (11 * i + 21) y) _
      refine wp_iload dX11_replaceField_15 rfl ?_
      refine wp_iret dX11_replaceField_17 rfl ?_
      show WP G (d + 3) (0, 0) μX11_setTemperature 25 [.ref (gB G + 293), .int (nI i), .int y] [.int (ai m (gB G + 294) (11 * i + 21))] (wai m (gB G + 294) (11 * i + 21) y) _
      refine wp_goto 30 dX11_setTemperature_25 (by decide) ?_
      exact wp_iret dX11_setTemperature_30 rfl (e3 q2 q4)

theorem aM_setTemperature {G : Cx} {d : Nat} {m : Mm} {Q : Option Value → Mm → Prop} {x y : Int32} {n : Nat}  (hF : Full G m) (hn : ai m (gB G + 294) 12 = nI n) (hm : n ≤ 12) (hx : x < 0) 
    (e1 : Q (some (.int (-1000000001 : Int32))) m) :
    WPM G (d + 3) (0, 0) μX11_setTemperature [.ref (gB G + 293), .int x, .int y] m Q := by
  refine WPM.of pX11 (Nat.le_of_ble_eq_true rfl) rfl ?_
  refine wp_aload_n dX11_setTemperature_0 rfl ?_
  refine wp_iload_n dX11_setTemperature_1 rfl ?_
  refine wp_callV (As := [.int x]) (S := []) (b' := (0, 0)) (b := (0, 0)) dX11_setTemperature_2 MX11_93 (ka hF 293 (by decide)) rfl rfl rfl rfl (Nat.le_of_ble_eq_true rfl) ?_
  refine WPM.of pX11 (Nat.le_of_ble_eq_true rfl) rfl ?_
  refine wp_iload_n dX11_isNode_0 rfl ?_
  refine wp_iconst (0 : Int32) dX11_isNode_1 (by decide) ?_
  refine wp_aload_n dX11_isNode_2 rfl ?_
  refine wp_getr (gB G + 294) dX11_isNode_3 fX11_7 (ka hF 293 (by decide)) (hF.2 _ _) (rra 1 (isK_le (ka hF 293 (by decide))) (fun _ => rfl)) ?_
  refine wp_bipush (12 : Int32) dX11_isNode_6 (by decide) ?_
  refine wp_ialdk (n := 1486) 12 (nI n) dX11_isNode_8 (ka hF 294 (by decide)) (la 294) (vinl (by decide)) rfl hn ?_
  refine wp_iconst (1 : Int32) dX11_isNode_9 (by decide) ?_
  refine wp_isubv ((nI n) - (1 : Int32)) dX11_isNode_10 rfl ?_
  refine wp_callS (As := [.int x, .int (0 : Int32), .int ((nI n) - (1 : Int32))]) (S := []) (b' := (0, 0)) (b := (0, 0)) dX11_isNode_11 MX11_67 rfl rfl (Nat.le_of_ble_eq_true rfl) ?_
  refine WPM.of pX11 (Nat.le_of_ble_eq_true rfl) rfl ?_
  refine wp_iload_n dX11_isBetween_0 rfl ?_
  refine wp_iload_n dX11_isBetween_1 rfl ?_
  refine wp_icmp_lt 14 dX11_isBetween_2 (by decide) (fun _ => ?_) (fun q => absurd hx q)
  refine wp_iconst (0 : Int32) dX11_isBetween_14 (by decide) ?_
  refine wp_zret dX11_isBetween_15 rfl rfl ?_
  show WP G (d + 2) (0, 0) μX11_isNode 14 [.ref (gB G + 293), .int x] [.int (0 : Int32)] m _
  refine wp_zret dX11_isNode_14 rfl rfl ?_
  show WP G (d + 3) (0, 0) μX11_setTemperature 5 [.ref (gB G + 293), .int x, .int y] [.int (0 : Int32)] m _
  refine wp_if_ne 11 dX11_setTemperature_5 (by decide) (fun q => absurd (by decide) q) (fun _ => ?_)
  refine wp_ldc dX11_setTemperature_8 kX11_96 ?_
  exact wp_iret dX11_setTemperature_10 rfl (e1)

theorem bM_setTemperature {G : Cx} {d : Nat} {m : Mm} {Q : Option Value → Mm → Prop} {x y : Int32} {n : Nat}  (hF : Full G m) (hn : ai m (gB G + 294) 12 = nI n) (hm : n ≤ 12) (hx : ¬ x < 0) (hy : ¬ x < nI n) 
    (e1 : Q (some (.int (-1000000001 : Int32))) m) :
    WPM G (d + 3) (0, 0) μX11_setTemperature [.ref (gB G + 293), .int x, .int y] m Q := by
  refine WPM.of pX11 (Nat.le_of_ble_eq_true rfl) rfl ?_
  refine wp_aload_n dX11_setTemperature_0 rfl ?_
  refine wp_iload_n dX11_setTemperature_1 rfl ?_
  refine wp_callV (As := [.int x]) (S := []) (b' := (0, 0)) (b := (0, 0)) dX11_setTemperature_2 MX11_93 (ka hF 293 (by decide)) rfl rfl rfl rfl (Nat.le_of_ble_eq_true rfl) ?_
  refine WPM.of pX11 (Nat.le_of_ble_eq_true rfl) rfl ?_
  refine wp_iload_n dX11_isNode_0 rfl ?_
  refine wp_iconst (0 : Int32) dX11_isNode_1 (by decide) ?_
  refine wp_aload_n dX11_isNode_2 rfl ?_
  refine wp_getr (gB G + 294) dX11_isNode_3 fX11_7 (ka hF 293 (by decide)) (hF.2 _ _) (rra 1 (isK_le (ka hF 293 (by decide))) (fun _ => rfl)) ?_
  refine wp_bipush (12 : Int32) dX11_isNode_6 (by decide) ?_
  refine wp_ialdk (n := 1486) 12 (nI n) dX11_isNode_8 (ka hF 294 (by decide)) (la 294) (vinl (by decide)) rfl hn ?_
  refine wp_iconst (1 : Int32) dX11_isNode_9 (by decide) ?_
  refine wp_isubv ((nI n) - (1 : Int32)) dX11_isNode_10 rfl ?_
  refine wp_callS (As := [.int x, .int (0 : Int32), .int ((nI n) - (1 : Int32))]) (S := []) (b' := (0, 0)) (b := (0, 0)) dX11_isNode_11 MX11_67 rfl rfl (Nat.le_of_ble_eq_true rfl) ?_
  refine WPM.of pX11 (Nat.le_of_ble_eq_true rfl) rfl ?_
  refine wp_iload_n dX11_isBetween_0 rfl ?_
  refine wp_iload_n dX11_isBetween_1 rfl ?_
  refine wp_icmp_lt 14 dX11_isBetween_2 (by decide) (fun q => absurd q hx) (fun _ => ?_)
  refine wp_iload_n dX11_isBetween_5 rfl ?_
  refine wp_iload_n dX11_isBetween_6 rfl ?_
  refine wp_icmp_gt 14 dX11_isBetween_7 (by decide) (fun _ => ?_) (fun q => absurd (sub_lt (by omega) hx hy) q)
  refine wp_iconst (0 : Int32) dX11_isBetween_14 (by decide) ?_
  refine wp_zret dX11_isBetween_15 rfl rfl ?_
  show WP G (d + 2) (0, 0) μX11_isNode 14 [.ref (gB G + 293), .int x] [.int (0 : Int32)] m _
  refine wp_zret dX11_isNode_14 rfl rfl ?_
  show WP G (d + 3) (0, 0) μX11_setTemperature 5 [.ref (gB G + 293), .int x, .int y] [.int (0 : Int32)] m _
  refine wp_if_ne 11 dX11_setTemperature_5 (by decide) (fun q => absurd (by decide) q) (fun _ => ?_)
  refine wp_ldc dX11_setTemperature_8 kX11_96 ?_
  exact wp_iret dX11_setTemperature_10 rfl (e1)

theorem iM_setLoad {G : Cx} {d : Nat} {m : Mm} {Q : Option Value → Mm → Prop} {y : Int32} {i n : Nat}  (hF : Full G m) (hn : ai m (gB G + 294) 12 = nI (n + 1)) (hm : n + 1 ≤ 12) (hi : i < n + 1) 
    (e1 : y < (0 : Int32) → Q (some (.int (-1000000002 : Int32))) m)
    (e2 : ¬ y < (0 : Int32) → (1000000 : Int32) < y → Q (some (.int (-1000000002 : Int32))) m)
    (e3 : ¬ y < (0 : Int32) → ¬ (1000000 : Int32) < y → Q (some (.int (ai m (gB G + 294) (11 * i + 24)))) (wai m (gB G + 294) (11 * i + 24) y)) :
    WPM G (d + 3) (0, 0) μX11_setLoad [.ref (gB G + 293), .int (nI i), .int y] m Q := by
  refine WPM.of pX11 (Nat.le_of_ble_eq_true rfl) rfl ?_
  refine wp_aload_n dX11_setLoad_0 rfl ?_
  refine wp_iload_n dX11_setLoad_1 rfl ?_
  refine wp_callV (As := [.int (nI i)]) (S := []) (b' := (0, 0)) (b := (0, 0)) dX11_setLoad_2 MX11_93 (ka hF 293 (by decide)) rfl rfl rfl rfl (Nat.le_of_ble_eq_true rfl) ?_
  refine WPM.of pX11 (Nat.le_of_ble_eq_true rfl) rfl ?_
  refine wp_iload_n dX11_isNode_0 rfl ?_
  refine wp_iconst (0 : Int32) dX11_isNode_1 (by decide) ?_
  refine wp_aload_n dX11_isNode_2 rfl ?_
  refine wp_getr (gB G + 294) dX11_isNode_3 fX11_7 (ka hF 293 (by decide)) (hF.2 _ _) (rra 1 (isK_le (ka hF 293 (by decide))) (fun _ => rfl)) ?_
  refine wp_bipush (12 : Int32) dX11_isNode_6 (by decide) ?_
  refine wp_ialdk (n := 1486) 12 (nI (n + 1)) dX11_isNode_8 (ka hF 294 (by decide)) (la 294) (vinl (by decide)) rfl hn ?_
  refine wp_iconst (1 : Int32) dX11_isNode_9 (by decide) ?_
  refine wp_isubv (nI n) dX11_isNode_10 (nsub (a := n + 1) (b := 1) (by omega)) ?_
  refine wp_callS (As := [.int (nI i), .int (0 : Int32), .int (nI n)]) (S := []) (b' := (0, 0)) (b := (0, 0)) dX11_isNode_11 MX11_67 rfl rfl (Nat.le_of_ble_eq_true rfl) ?_
  refine WPM.of pX11 (Nat.le_of_ble_eq_true rfl) rfl ?_
  refine wp_iload_n dX11_isBetween_0 rfl ?_
  refine wp_iload_n dX11_isBetween_1 rfl ?_
  refine wp_icmp_lt 14 dX11_isBetween_2 (by decide) (fun q => absurd q (nI_pos (by omega))) (fun _ => ?_)
  refine wp_iload_n dX11_isBetween_5 rfl ?_
  refine wp_iload_n dX11_isBetween_6 rfl ?_
  refine wp_icmp_gt 14 dX11_isBetween_7 (by decide) (fun q => absurd q (fun z => (show ¬ n < i by omega) (nlt (a := n) (b := i) z (by omega) (by omega)))) (fun _ => ?_)
  refine wp_iconst (1 : Int32) dX11_isBetween_10 (by decide) ?_
  refine wp_goto 15 dX11_isBetween_11 (by decide) ?_
  refine wp_zret dX11_isBetween_15 rfl rfl ?_
  show WP G (d + 2) (0, 0) μX11_isNode 14 [.ref (gB G + 293), .int (nI i)] [.int (1 : Int32)] m _
  refine wp_zret dX11_isNode_14 rfl rfl ?_
  show WP G (d + 3) (0, 0) μX11_setLoad 5 [.ref (gB G + 293), .int (nI i), .int y] [.int (1 : Int32)] m _
  refine wp_if_ne 11 dX11_setLoad_5 (by decide) (fun _ => ?_) (fun q => absurd q (by decide))
  refine wp_iload_n dX11_setLoad_11 rfl ?_
  refine wp_iconst (0 : Int32) dX11_setLoad_12 (by decide) ?_
  refine wp_ldc dX11_setLoad_13 kX11_78 ?_
  refine wp_callS (As := [.int y, .int (0 : Int32), .int (1000000 : Int32)]) (S := []) (b' := (0, 0)) (b := (0, 0)) dX11_setLoad_15 MX11_67 rfl rfl (Nat.le_of_ble_eq_true rfl) ?_
  refine WPM.of pX11 (Nat.le_of_ble_eq_true rfl) rfl ?_
  refine wp_iload_n dX11_isBetween_0 rfl ?_
  refine wp_iload_n dX11_isBetween_1 rfl ?_
  refine wp_icmp_lt 14 dX11_isBetween_2 (by decide) (fun q1 => ?_) (fun q2 => ?_)
  · skip
    refine wp_iconst (0 : Int32) dX11_isBetween_14 (by decide) ?_
    refine wp_zret dX11_isBetween_15 rfl rfl ?_
    show WP G (d + 3) (0, 0) μX11_setLoad 18 [.ref (gB G + 293), .int (nI i), .int y] [.int (0 : Int32)] m _
    refine wp_if_eq 31 dX11_setLoad_18 (by decide) (fun _ => ?_) (fun q => absurd (by decide) q)
    refine wp_ldc dX11_setLoad_31 kX11_79 ?_
    exact wp_iret dX11_setLoad_33 rfl (e1 q1)
  · skip
    refine wp_iload_n dX11_isBetween_5 rfl ?_
    refine wp_iload_n dX11_isBetween_6 rfl ?_
    refine wp_icmp_gt 14 dX11_isBetween_7 (by decide) (fun q3 => ?_) (fun q4 => ?_)
    · skip
      refine wp_iconst (0 : Int32) dX11_isBetween_14 (by decide) ?_
      refine wp_zret dX11_isBetween_15 rfl rfl ?_
      show WP G (d + 3) (0, 0) μX11_setLoad 18 [.ref (gB G + 293), .int (nI i), .int y] [.int (0 : Int32)] m _
      refine wp_if_eq 31 dX11_setLoad_18 (by decide) (fun _ => ?_) (fun q => absurd (by decide) q)
      refine wp_ldc dX11_setLoad_31 kX11_79 ?_
      exact wp_iret dX11_setLoad_33 rfl (e2 q2 q3)
    · skip
      refine wp_iconst (1 : Int32) dX11_isBetween_10 (by decide) ?_
      refine wp_goto 15 dX11_isBetween_11 (by decide) ?_
      refine wp_zret dX11_isBetween_15 rfl rfl ?_
      show WP G (d + 3) (0, 0) μX11_setLoad 18 [.ref (gB G + 293), .int (nI i), .int y] [.int (1 : Int32)] m _
      refine wp_if_eq 31 dX11_setLoad_18 (by decide) (fun q => absurd q (by decide)) (fun _ => ?_)
      refine wp_aload_n dX11_setLoad_21 rfl ?_
      refine wp_iload_n dX11_setLoad_22 rfl ?_
      refine wp_iconst (4 : Int32) dX11_setLoad_23 (by decide) ?_
      refine wp_iload_n dX11_setLoad_24 rfl ?_
      refine wp_callV (As := [.int (nI i), .int (4 : Int32), .int y]) (S := []) (b' := (0, 0)) (b := (0, 0)) dX11_setLoad_25 MX11_97 (ka hF 293 (by decide)) rfl rfl rfl rfl (Nat.le_of_ble_eq_true rfl) ?_
      refine WPM.of pX11 (Nat.le_of_ble_eq_true rfl) rfl ?_
      refine wp_aload_n dX11_replaceField_0 rfl ?_
      refine wp_iload_n dX11_replaceField_1 rfl ?_
      refine wp_iload_n dX11_replaceField_2 rfl ?_
      refine wp_callV (As := [.int (nI i), .int (4 : Int32)]) (S := []) (b' := (0, 0)) (b := (0, 0)) dX11_replaceField_3 MX11_89 (ka hF 293 (by decide)) rfl rfl rfl rfl (Nat.le_of_ble_eq_true rfl) ?_
      refine WPM.of pX11 (Nat.le_of_ble_eq_true rfl) rfl ?_
      refine wp_aload_n dX11_node_0 rfl ?_
      refine wp_getr (gB G + 294) dX11_node_1 fX11_7 (ka hF 293 (by decide)) (hF.2 _ _) (rra 1 (isK_le (ka hF 293 (by decide))) (fun _ => rfl)) ?_
      refine wp_bipush (20 : Int32) dX11_node_4 (by decide) ?_
      refine wp_bipush (11 : Int32) dX11_node_6 (by decide) ?_
      refine wp_iload_n dX11_node_8 rfl ?_
      refine wp_imulv (nI (11 * i)) dX11_node_9 (nmul (a := 11) (b := i) (by omega)) ?_
      refine wp_iaddv (nI (11 * i + 20)) dX11_node_10 (nadd (a := 20) (b := 11 * i) (by omega)) ?_
      refine wp_iload_n dX11_node_11 rfl ?_
      refine wp_iaddv (nI (11 * i + 24)) dX11_node_12 (nadd (a := 11 * i + 20) (b := 4) (by omega)) ?_
      refine wp_ialdk (n := 1486) (11 * i + 24) (ai m (gB G + 294) (11 * i + 24)) dX11_node_13 (ka hF 294 (by decide)) (la 294) (vin (by omega) (by decide)) (nIc (by omega)) rfl ?_
      refine wp_iret dX11_node_14 rfl ?_
      show WP G (d + 2) (0, 0) μX11_replaceField 6 [.ref (gB G + 293), .int (nI i), .int (4 : Int32), .int y, lvU] [.int (ai m (gB G + 294) (11 * i + 24))] m _
      refine wp_istore dX11_replaceField_6 (by decide) rfl ?_
      refine wp_aload_n dX11_replaceField_8 rfl ?_
      refine wp_iload_n dX11_replaceField_9 rfl ?_
      refine wp_iload_n dX11_replaceField_10 rfl ?_
      refine wp_iload_n dX11_replaceField_11 rfl ?_
      refine wp_callV (As := [.int (nI i), .int (4 : Int32), .int y]) (S := []) (b' := (0, 0)) (b := (0, 0)) dX11_replaceField_12 MX11_81 (ka hF 293 (by decide)) rfl rfl rfl rfl (Nat.le_of_ble_eq_true rfl) ?_
      refine WPM.of pX11 (Nat.le_of_ble_eq_true rfl) rfl ?_
      refine wp_aload_n dX11_setNode_0 rfl ?_
      refine wp_getr (gB G + 294) dX11_setNode_1 fX11_7 (ka hF 293 (by decide)) (hF.2 _ _) (rra 1 (isK_le (ka hF 293 (by decide))) (fun _ => rfl)) ?_
      refine wp_bipush (20 : Int32) dX11_setNode_4 (by decide) ?_
      refine wp_bipush (11 : Int32) dX11_setNode_6 (by decide) ?_
      refine wp_iload_n dX11_setNode_8 rfl ?_
      refine wp_imulv (nI (11 * i)) dX11_setNode_9 (nmul (a := 11) (b := i) (by omega)) ?_
      refine wp_iaddv (nI (11 * i + 20)) dX11_setNode_10 (nadd (a := 20) (b := 11 * i) (by omega)) ?_
      refine wp_iload_n dX11_setNode_11 rfl ?_
      refine wp_iaddv (nI (11 * i + 24)) dX11_setNode_12 (nadd (a := 11 * i + 20) (b := 4) (by omega)) ?_
      refine wp_iload_n dX11_setNode_13 rfl ?_
      refine wp_iastk (n := 1486) (11 * i + 24) dX11_setNode_14 (ka hF 294 (by decide)) (la 294) (vin (by omega) (by decide))  (nIc (by omega)) ?_
      have hF5 := Full_wai (gB G + 294) (11 * i + 24) y hF
      refine wp_vret dX11_setNode_15 rfl ?_
      show WP G (d + 2) (0, 0) μX11_replaceField 15 [.ref (gB G + 293), .int (nI i), .int (4 : Int32), .int y, .int (ai m (gB G + 294) (11 * i + 24))] [] (wai m (gB G + 294) (11 * i + 24) y) _
      refine wp_iload dX11_replaceField_15 rfl ?_
      refine wp_iret dX11_replaceField_17 rfl ?_
      show WP G (d + 3) (0, 0) μX11_setLoad 28 [.ref (gB G + 293), .int (nI i), .int y] [.int (ai m (gB G + 294) (11 * i + 24))] (wai m (gB G + 294) (11 * i + 24) y) _
      refine wp_goto 33 dX11_setLoad_28 (by decide) ?_
      exact wp_iret dX11_setLoad_33 rfl (e3 q2 q4)

theorem aM_setLoad {G : Cx} {d : Nat} {m : Mm} {Q : Option Value → Mm → Prop} {x y : Int32} {n : Nat}  (hF : Full G m) (hn : ai m (gB G + 294) 12 = nI n) (hm : n ≤ 12) (hx : x < 0) 
    (e1 : Q (some (.int (-1000000001 : Int32))) m) :
    WPM G (d + 3) (0, 0) μX11_setLoad [.ref (gB G + 293), .int x, .int y] m Q := by
  refine WPM.of pX11 (Nat.le_of_ble_eq_true rfl) rfl ?_
  refine wp_aload_n dX11_setLoad_0 rfl ?_
  refine wp_iload_n dX11_setLoad_1 rfl ?_
  refine wp_callV (As := [.int x]) (S := []) (b' := (0, 0)) (b := (0, 0)) dX11_setLoad_2 MX11_93 (ka hF 293 (by decide)) rfl rfl rfl rfl (Nat.le_of_ble_eq_true rfl) ?_
  refine WPM.of pX11 (Nat.le_of_ble_eq_true rfl) rfl ?_
  refine wp_iload_n dX11_isNode_0 rfl ?_
  refine wp_iconst (0 : Int32) dX11_isNode_1 (by decide) ?_
  refine wp_aload_n dX11_isNode_2 rfl ?_
  refine wp_getr (gB G + 294) dX11_isNode_3 fX11_7 (ka hF 293 (by decide)) (hF.2 _ _) (rra 1 (isK_le (ka hF 293 (by decide))) (fun _ => rfl)) ?_
  refine wp_bipush (12 : Int32) dX11_isNode_6 (by decide) ?_
  refine wp_ialdk (n := 1486) 12 (nI n) dX11_isNode_8 (ka hF 294 (by decide)) (la 294) (vinl (by decide)) rfl hn ?_
  refine wp_iconst (1 : Int32) dX11_isNode_9 (by decide) ?_
  refine wp_isubv ((nI n) - (1 : Int32)) dX11_isNode_10 rfl ?_
  refine wp_callS (As := [.int x, .int (0 : Int32), .int ((nI n) - (1 : Int32))]) (S := []) (b' := (0, 0)) (b := (0, 0)) dX11_isNode_11 MX11_67 rfl rfl (Nat.le_of_ble_eq_true rfl) ?_
  refine WPM.of pX11 (Nat.le_of_ble_eq_true rfl) rfl ?_
  refine wp_iload_n dX11_isBetween_0 rfl ?_
  refine wp_iload_n dX11_isBetween_1 rfl ?_
  refine wp_icmp_lt 14 dX11_isBetween_2 (by decide) (fun _ => ?_) (fun q => absurd hx q)
  refine wp_iconst (0 : Int32) dX11_isBetween_14 (by decide) ?_
  refine wp_zret dX11_isBetween_15 rfl rfl ?_
  show WP G (d + 2) (0, 0) μX11_isNode 14 [.ref (gB G + 293), .int x] [.int (0 : Int32)] m _
  refine wp_zret dX11_isNode_14 rfl rfl ?_
  show WP G (d + 3) (0, 0) μX11_setLoad 5 [.ref (gB G + 293), .int x, .int y] [.int (0 : Int32)] m _
  refine wp_if_ne 11 dX11_setLoad_5 (by decide) (fun q => absurd (by decide) q) (fun _ => ?_)
  refine wp_ldc dX11_setLoad_8 kX11_96 ?_
  exact wp_iret dX11_setLoad_10 rfl (e1)

theorem bM_setLoad {G : Cx} {d : Nat} {m : Mm} {Q : Option Value → Mm → Prop} {x y : Int32} {n : Nat}  (hF : Full G m) (hn : ai m (gB G + 294) 12 = nI n) (hm : n ≤ 12) (hx : ¬ x < 0) (hy : ¬ x < nI n) 
    (e1 : Q (some (.int (-1000000001 : Int32))) m) :
    WPM G (d + 3) (0, 0) μX11_setLoad [.ref (gB G + 293), .int x, .int y] m Q := by
  refine WPM.of pX11 (Nat.le_of_ble_eq_true rfl) rfl ?_
  refine wp_aload_n dX11_setLoad_0 rfl ?_
  refine wp_iload_n dX11_setLoad_1 rfl ?_
  refine wp_callV (As := [.int x]) (S := []) (b' := (0, 0)) (b := (0, 0)) dX11_setLoad_2 MX11_93 (ka hF 293 (by decide)) rfl rfl rfl rfl (Nat.le_of_ble_eq_true rfl) ?_
  refine WPM.of pX11 (Nat.le_of_ble_eq_true rfl) rfl ?_
  refine wp_iload_n dX11_isNode_0 rfl ?_
  refine wp_iconst (0 : Int32) dX11_isNode_1 (by decide) ?_
  refine wp_aload_n dX11_isNode_2 rfl ?_
  refine wp_getr (gB G + 294) dX11_isNode_3 fX11_7 (ka hF 293 (by decide)) (hF.2 _ _) (rra 1 (isK_le (ka hF 293 (by decide))) (fun _ => rfl)) ?_
  refine wp_bipush (12 : Int32) dX11_isNode_6 (by decide) ?_
  refine wp_ialdk (n := 1486) 12 (nI n) dX11_isNode_8 (ka hF 294 (by decide)) (la 294) (vinl (by decide)) rfl hn ?_
  refine wp_iconst (1 : Int32) dX11_isNode_9 (by decide) ?_
  refine wp_isubv ((nI n) - (1 : Int32)) dX11_isNode_10 rfl ?_
  refine wp_callS (As := [.int x, .int (0 : Int32), .int ((nI n) - (1 : Int32))]) (S := []) (b' := (0, 0)) (b := (0, 0)) dX11_isNode_11 MX11_67 rfl rfl (Nat.le_of_ble_eq_true rfl) ?_
  refine WPM.of pX11 (Nat.le_of_ble_eq_true rfl) rfl ?_
  refine wp_iload_n dX11_isBetween_0 rfl ?_
  refine wp_iload_n dX11_isBetween_1 rfl ?_
  refine wp_icmp_lt 14 dX11_isBetween_2 (by decide) (fun q => absurd q hx) (fun _ => ?_)
  refine wp_iload_n dX11_isBetween_5 rfl ?_
  refine wp_iload_n dX11_isBetween_6 rfl ?_
  refine wp_icmp_gt 14 dX11_isBetween_7 (by decide) (fun _ => ?_) (fun q => absurd (sub_lt (by omega) hx hy) q)
  refine wp_iconst (0 : Int32) dX11_isBetween_14 (by decide) ?_
  refine wp_zret dX11_isBetween_15 rfl rfl ?_
  show WP G (d + 2) (0, 0) μX11_isNode 14 [.ref (gB G + 293), .int x] [.int (0 : Int32)] m _
  refine wp_zret dX11_isNode_14 rfl rfl ?_
  show WP G (d + 3) (0, 0) μX11_setLoad 5 [.ref (gB G + 293), .int x, .int y] [.int (0 : Int32)] m _
  refine wp_if_ne 11 dX11_setLoad_5 (by decide) (fun q => absurd (by decide) q) (fun _ => ?_)
  refine wp_ldc dX11_setLoad_8 kX11_96 ?_
  exact wp_iret dX11_setLoad_10 rfl (e1)

theorem iM_addLouvre {G : Cx} {d : Nat} {m : Mm} {Q : Option Value → Mm → Prop} {y z w u : Int32} {i n : Nat} {q : Nat}  (hF : Full G m) (hn : ai m (gB G + 294) 12 = nI (n + 1)) (hm : n + 1 ≤ 12) (hi : i < n + 1) (hnl : ai m (gB G + 294) 13 = nI q) (hml : q ≤ 6) 
    (e1 : y < (0 : Int32) → Q (some (.int (-1000000002 : Int32))) m)
    (e2 : ¬ y < (0 : Int32) → (10000 : Int32) < y → Q (some (.int (-1000000002 : Int32))) m)
    (e3 : ¬ y < (0 : Int32) → ¬ (10000 : Int32) < y → z < (-200000 : Int32) → Q (some (.int (-1000000002 : Int32))) m)
    (e4 : ¬ y < (0 : Int32) → ¬ (10000 : Int32) < y → ¬ z < (-200000 : Int32) → (199999 : Int32) < z → Q (some (.int (-1000000002 : Int32))) m)
    (e5 : ¬ y < (0 : Int32) → ¬ (10000 : Int32) < y → ¬ z < (-200000 : Int32) → ¬ (199999 : Int32) < z → w < (z + (1 : Int32)) → Q (some (.int (-1000000002 : Int32))) m)
    (e6 : ¬ y < (0 : Int32) → ¬ (10000 : Int32) < y → ¬ z < (-200000 : Int32) → ¬ (199999 : Int32) < z → ¬ w < (z + (1 : Int32)) → (200000 : Int32) < w → Q (some (.int (-1000000002 : Int32))) m)
    (e7 : ¬ y < (0 : Int32) → ¬ (10000 : Int32) < y → ¬ z < (-200000 : Int32) → ¬ (199999 : Int32) < z → ¬ w < (z + (1 : Int32)) → ¬ (200000 : Int32) < w → u < (1 : Int32) → Q (some (.int (-1000000002 : Int32))) m)
    (e8 : ¬ y < (0 : Int32) → ¬ (10000 : Int32) < y → ¬ z < (-200000 : Int32) → ¬ (199999 : Int32) < z → ¬ w < (z + (1 : Int32)) → ¬ (200000 : Int32) < w → ¬ u < (1 : Int32) → (1000 : Int32) < u → Q (some (.int (-1000000002 : Int32))) m)
    (e9 : ¬ y < (0 : Int32) → ¬ (10000 : Int32) < y → ¬ z < (-200000 : Int32) → ¬ (199999 : Int32) < z → ¬ w < (z + (1 : Int32)) → ¬ (200000 : Int32) < w → ¬ u < (1 : Int32) → ¬ (1000 : Int32) < u → ¬ q = 6 → Q (some (.int (nI q))) (wai (wai (wai (wai (wai (wai (wai (wai m (gB G + 294) (7 * q + 296) (nI i)) (gB G + 294) (7 * q + 297) y) (gB G + 294) (7 * q + 298) z) (gB G + 294) (7 * q + 299) w) (gB G + 294) (7 * q + 300) u) (gB G + 294) (7 * q + 301) (0 : Int32)) (gB G + 294) (7 * q + 302) (0 : Int32)) (gB G + 294) 13 (nI (q + 1))))
    (e10 : ¬ y < (0 : Int32) → ¬ (10000 : Int32) < y → ¬ z < (-200000 : Int32) → ¬ (199999 : Int32) < z → ¬ w < (z + (1 : Int32)) → ¬ (200000 : Int32) < w → ¬ u < (1 : Int32) → ¬ (1000 : Int32) < u → q = 6 → Q (some (.int (-1000000003 : Int32))) m) :
    WPM G (d + 3) (0, 0) μX11_addLouvre [.ref (gB G + 293), .int (nI i), .int y, .int z, .int w, .int u] m Q := by
  refine WPM.of pX11 (Nat.le_of_ble_eq_true rfl) rfl ?_
  refine wp_aload_n dX11_addLouvre_0 rfl ?_
  refine wp_iload_n dX11_addLouvre_1 rfl ?_
  refine wp_callV (As := [.int (nI i)]) (S := []) (b' := (0, 0)) (b := (0, 0)) dX11_addLouvre_2 MX11_93 (ka hF 293 (by decide)) rfl rfl rfl rfl (Nat.le_of_ble_eq_true rfl) ?_
  refine WPM.of pX11 (Nat.le_of_ble_eq_true rfl) rfl ?_
  refine wp_iload_n dX11_isNode_0 rfl ?_
  refine wp_iconst (0 : Int32) dX11_isNode_1 (by decide) ?_
  refine wp_aload_n dX11_isNode_2 rfl ?_
  refine wp_getr (gB G + 294) dX11_isNode_3 fX11_7 (ka hF 293 (by decide)) (hF.2 _ _) (rra 1 (isK_le (ka hF 293 (by decide))) (fun _ => rfl)) ?_
  refine wp_bipush (12 : Int32) dX11_isNode_6 (by decide) ?_
  refine wp_ialdk (n := 1486) 12 (nI (n + 1)) dX11_isNode_8 (ka hF 294 (by decide)) (la 294) (vinl (by decide)) rfl hn ?_
  refine wp_iconst (1 : Int32) dX11_isNode_9 (by decide) ?_
  refine wp_isubv (nI n) dX11_isNode_10 (nsub (a := n + 1) (b := 1) (by omega)) ?_
  refine wp_callS (As := [.int (nI i), .int (0 : Int32), .int (nI n)]) (S := []) (b' := (0, 0)) (b := (0, 0)) dX11_isNode_11 MX11_67 rfl rfl (Nat.le_of_ble_eq_true rfl) ?_
  refine WPM.of pX11 (Nat.le_of_ble_eq_true rfl) rfl ?_
  refine wp_iload_n dX11_isBetween_0 rfl ?_
  refine wp_iload_n dX11_isBetween_1 rfl ?_
  refine wp_icmp_lt 14 dX11_isBetween_2 (by decide) (fun q => absurd q (nI_pos (by omega))) (fun _ => ?_)
  refine wp_iload_n dX11_isBetween_5 rfl ?_
  refine wp_iload_n dX11_isBetween_6 rfl ?_
  refine wp_icmp_gt 14 dX11_isBetween_7 (by decide) (fun q => absurd q (fun z => (show ¬ n < i by omega) (nlt (a := n) (b := i) z (by omega) (by omega)))) (fun _ => ?_)
  refine wp_iconst (1 : Int32) dX11_isBetween_10 (by decide) ?_
  refine wp_goto 15 dX11_isBetween_11 (by decide) ?_
  refine wp_zret dX11_isBetween_15 rfl rfl ?_
  show WP G (d + 2) (0, 0) μX11_isNode 14 [.ref (gB G + 293), .int (nI i)] [.int (1 : Int32)] m _
  refine wp_zret dX11_isNode_14 rfl rfl ?_
  show WP G (d + 3) (0, 0) μX11_addLouvre 5 [.ref (gB G + 293), .int (nI i), .int y, .int z, .int w, .int u, lvU, lvU, lvU] [.int (1 : Int32)] m _
  refine wp_if_ne 11 dX11_addLouvre_5 (by decide) (fun _ => ?_) (fun q => absurd q (by decide))
  refine wp_iload_n dX11_addLouvre_11 rfl ?_
  refine wp_iconst (0 : Int32) dX11_addLouvre_12 (by decide) ?_
  refine wp_sipush (10000 : Int32) dX11_addLouvre_13 (by decide) ?_
  refine wp_callS (As := [.int y, .int (0 : Int32), .int (10000 : Int32)]) (S := []) (b' := (0, 0)) (b := (0, 0)) dX11_addLouvre_16 MX11_67 rfl rfl (Nat.le_of_ble_eq_true rfl) ?_
  refine WPM.of pX11 (Nat.le_of_ble_eq_true rfl) rfl ?_
  refine wp_iload_n dX11_isBetween_0 rfl ?_
  refine wp_iload_n dX11_isBetween_1 rfl ?_
  refine wp_icmp_lt 14 dX11_isBetween_2 (by decide) (fun q1 => ?_) (fun q2 => ?_)
  · skip
    refine wp_iconst (0 : Int32) dX11_isBetween_14 (by decide) ?_
    refine wp_zret dX11_isBetween_15 rfl rfl ?_
    show WP G (d + 3) (0, 0) μX11_addLouvre 19 [.ref (gB G + 293), .int (nI i), .int y, .int z, .int w, .int u, lvU, lvU, lvU] [.int (0 : Int32)] m _
    refine wp_if_eq 62 dX11_addLouvre_19 (by decide) (fun _ => ?_) (fun q => absurd (by decide) q)
    refine wp_iconst (0 : Int32) dX11_addLouvre_62 (by decide) ?_
    refine wp_istore dX11_addLouvre_63 (by decide) rfl ?_
    refine wp_iload dX11_addLouvre_65 rfl ?_
    refine wp_if_ne 73 dX11_addLouvre_67 (by decide) (fun q => absurd (by decide) q) (fun _ => ?_)
    refine wp_ldc dX11_addLouvre_70 kX11_79 ?_
    exact wp_iret dX11_addLouvre_72 rfl (e1 q1)
  · skip
    refine wp_iload_n dX11_isBetween_5 rfl ?_
    refine wp_iload_n dX11_isBetween_6 rfl ?_
    refine wp_icmp_gt 14 dX11_isBetween_7 (by decide) (fun q3 => ?_) (fun q4 => ?_)
    · skip
      refine wp_iconst (0 : Int32) dX11_isBetween_14 (by decide) ?_
      refine wp_zret dX11_isBetween_15 rfl rfl ?_
      show WP G (d + 3) (0, 0) μX11_addLouvre 19 [.ref (gB G + 293), .int (nI i), .int y, .int z, .int w, .int u, lvU, lvU, lvU] [.int (0 : Int32)] m _
      refine wp_if_eq 62 dX11_addLouvre_19 (by decide) (fun _ => ?_) (fun q => absurd (by decide) q)
      refine wp_iconst (0 : Int32) dX11_addLouvre_62 (by decide) ?_
      refine wp_istore dX11_addLouvre_63 (by decide) rfl ?_
      refine wp_iload dX11_addLouvre_65 rfl ?_
      refine wp_if_ne 73 dX11_addLouvre_67 (by decide) (fun q => absurd (by decide) q) (fun _ => ?_)
      refine wp_ldc dX11_addLouvre_70 kX11_79 ?_
      exact wp_iret dX11_addLouvre_72 rfl (e2 q2 q3)
    · skip
      refine wp_iconst (1 : Int32) dX11_isBetween_10 (by decide) ?_
      refine wp_goto 15 dX11_isBetween_11 (by decide) ?_
      refine wp_zret dX11_isBetween_15 rfl rfl ?_
      show WP G (d + 3) (0, 0) μX11_addLouvre 19 [.ref (gB G + 293), .int (nI i), .int y, .int z, .int w, .int u, lvU, lvU, lvU] [.int (1 : Int32)] m _
      refine wp_if_eq 62 dX11_addLouvre_19 (by decide) (fun q => absurd q (by decide)) (fun _ => ?_)
      refine wp_iload_n dX11_addLouvre_22 rfl ?_
      refine wp_ldc dX11_addLouvre_23 kX11_71 ?_
      refine wp_ldc dX11_addLouvre_25 kX11_108 ?_
      refine wp_callS (As := [.int z, .int (-200000 : Int32), .int (199999 : Int32)]) (S := []) (b' := (0, 0)) (b := (0, 0)) dX11_addLouvre_27 MX11_67 rfl rfl (Nat.le_of_ble_eq_true rfl) ?_
      refine WPM.of pX11 (Nat.le_of_ble_eq_true rfl) rfl ?_
      refine wp_iload_n dX11_isBetween_0 rfl ?_
      refine wp_iload_n dX11_isBetween_1 rfl ?_
      refine wp_icmp_lt 14 dX11_isBetween_2 (by decide) (fun q5 => ?_) (fun q6 => ?_)
      · skip
        refine wp_iconst (0 : Int32) dX11_isBetween_14 (by decide) ?_
        refine wp_zret dX11_isBetween_15 rfl rfl ?_
        show WP G (d + 3) (0, 0) μX11_addLouvre 30 [.ref (gB G + 293), .int (nI i), .int y, .int z, .int w, .int u, lvU, lvU, lvU] [.int (0 : Int32)] m _
        refine wp_if_eq 62 dX11_addLouvre_30 (by decide) (fun _ => ?_) (fun q => absurd (by decide) q)
        refine wp_iconst (0 : Int32) dX11_addLouvre_62 (by decide) ?_
        refine wp_istore dX11_addLouvre_63 (by decide) rfl ?_
        refine wp_iload dX11_addLouvre_65 rfl ?_
        refine wp_if_ne 73 dX11_addLouvre_67 (by decide) (fun q => absurd (by decide) q) (fun _ => ?_)
        refine wp_ldc dX11_addLouvre_70 kX11_79 ?_
        exact wp_iret dX11_addLouvre_72 rfl (e3 q2 q4 q5)
      · skip
        refine wp_iload_n dX11_isBetween_5 rfl ?_
        refine wp_iload_n dX11_isBetween_6 rfl ?_
        refine wp_icmp_gt 14 dX11_isBetween_7 (by decide) (fun q7 => ?_) (fun q8 => ?_)
        · skip
          refine wp_iconst (0 : Int32) dX11_isBetween_14 (by decide) ?_
          refine wp_zret dX11_isBetween_15 rfl rfl ?_
          show WP G (d + 3) (0, 0) μX11_addLouvre 30 [.ref (gB G + 293), .int (nI i), .int y, .int z, .int w, .int u, lvU, lvU, lvU] [.int (0 : Int32)] m _
          refine wp_if_eq 62 dX11_addLouvre_30 (by decide) (fun _ => ?_) (fun q => absurd (by decide) q)
          refine wp_iconst (0 : Int32) dX11_addLouvre_62 (by decide) ?_
          refine wp_istore dX11_addLouvre_63 (by decide) rfl ?_
          refine wp_iload dX11_addLouvre_65 rfl ?_
          refine wp_if_ne 73 dX11_addLouvre_67 (by decide) (fun q => absurd (by decide) q) (fun _ => ?_)
          refine wp_ldc dX11_addLouvre_70 kX11_79 ?_
          exact wp_iret dX11_addLouvre_72 rfl (e4 q2 q4 q6 q7)
        · skip
          refine wp_iconst (1 : Int32) dX11_isBetween_10 (by decide) ?_
          refine wp_goto 15 dX11_isBetween_11 (by decide) ?_
          refine wp_zret dX11_isBetween_15 rfl rfl ?_
          show WP G (d + 3) (0, 0) μX11_addLouvre 30 [.ref (gB G + 293), .int (nI i), .int y, .int z, .int w, .int u, lvU, lvU, lvU] [.int (1 : Int32)] m _
          refine wp_if_eq 62 dX11_addLouvre_30 (by decide) (fun q => absurd q (by decide)) (fun _ => ?_)
          refine wp_iload dX11_addLouvre_33 rfl ?_
          refine wp_iload_n dX11_addLouvre_35 rfl ?_
          refine wp_iconst (1 : Int32) dX11_addLouvre_36 (by decide) ?_
          refine wp_iaddv (z + (1 : Int32)) dX11_addLouvre_37 rfl ?_
          refine wp_ldc dX11_addLouvre_38 kX11_72 ?_
          refine wp_callS (As := [.int w, .int (z + (1 : Int32)), .int (200000 : Int32)]) (S := []) (b' := (0, 0)) (b := (0, 0)) dX11_addLouvre_40 MX11_67 rfl rfl (Nat.le_of_ble_eq_true rfl) ?_
          refine WPM.of pX11 (Nat.le_of_ble_eq_true rfl) rfl ?_
          refine wp_iload_n dX11_isBetween_0 rfl ?_
          refine wp_iload_n dX11_isBetween_1 rfl ?_
          refine wp_icmp_lt 14 dX11_isBetween_2 (by decide) (fun q9 => ?_) (fun q10 => ?_)
          · skip
            refine wp_iconst (0 : Int32) dX11_isBetween_14 (by decide) ?_
            refine wp_zret dX11_isBetween_15 rfl rfl ?_
            show WP G (d + 3) (0, 0) μX11_addLouvre 43 [.ref (gB G + 293), .int (nI i), .int y, .int z, .int w, .int u, lvU, lvU, lvU] [.int (0 : Int32)] m _
            refine wp_if_eq 62 dX11_addLouvre_43 (by decide) (fun _ => ?_) (fun q => absurd (by decide) q)
            refine wp_iconst (0 : Int32) dX11_addLouvre_62 (by decide) ?_
            refine wp_istore dX11_addLouvre_63 (by decide) rfl ?_
            refine wp_iload dX11_addLouvre_65 rfl ?_
            refine wp_if_ne 73 dX11_addLouvre_67 (by decide) (fun q => absurd (by decide) q) (fun _ => ?_)
            refine wp_ldc dX11_addLouvre_70 kX11_79 ?_
            exact wp_iret dX11_addLouvre_72 rfl (e5 q2 q4 q6 q8 q9)
          · skip
            refine wp_iload_n dX11_isBetween_5 rfl ?_
            refine wp_iload_n dX11_isBetween_6 rfl ?_
            refine wp_icmp_gt 14 dX11_isBetween_7 (by decide) (fun q11 => ?_) (fun q12 => ?_)
            · skip
              refine wp_iconst (0 : Int32) dX11_isBetween_14 (by decide) ?_
              refine wp_zret dX11_isBetween_15 rfl rfl ?_
              show WP G (d + 3) (0, 0) μX11_addLouvre 43 [.ref (gB G + 293), .int (nI i), .int y, .int z, .int w, .int u, lvU, lvU, lvU] [.int (0 : Int32)] m _
              refine wp_if_eq 62 dX11_addLouvre_43 (by decide) (fun _ => ?_) (fun q => absurd (by decide) q)
              refine wp_iconst (0 : Int32) dX11_addLouvre_62 (by decide) ?_
              refine wp_istore dX11_addLouvre_63 (by decide) rfl ?_
              refine wp_iload dX11_addLouvre_65 rfl ?_
              refine wp_if_ne 73 dX11_addLouvre_67 (by decide) (fun q => absurd (by decide) q) (fun _ => ?_)
              refine wp_ldc dX11_addLouvre_70 kX11_79 ?_
              exact wp_iret dX11_addLouvre_72 rfl (e6 q2 q4 q6 q8 q10 q11)
            · skip
              refine wp_iconst (1 : Int32) dX11_isBetween_10 (by decide) ?_
              refine wp_goto 15 dX11_isBetween_11 (by decide) ?_
              refine wp_zret dX11_isBetween_15 rfl rfl ?_
              show WP G (d + 3) (0, 0) μX11_addLouvre 43 [.ref (gB G + 293), .int (nI i), .int y, .int z, .int w, .int u, lvU, lvU, lvU] [.int (1 : Int32)] m _
              refine wp_if_eq 62 dX11_addLouvre_43 (by decide) (fun q => absurd q (by decide)) (fun _ => ?_)
              refine wp_iload dX11_addLouvre_46 rfl ?_
              refine wp_iconst (1 : Int32) dX11_addLouvre_48 (by decide) ?_
              refine wp_sipush (1000 : Int32) dX11_addLouvre_49 (by decide) ?_
              refine wp_callS (As := [.int u, .int (1 : Int32), .int (1000 : Int32)]) (S := []) (b' := (0, 0)) (b := (0, 0)) dX11_addLouvre_52 MX11_67 rfl rfl (Nat.le_of_ble_eq_true rfl) ?_
              refine WPM.of pX11 (Nat.le_of_ble_eq_true rfl) rfl ?_
              refine wp_iload_n dX11_isBetween_0 rfl ?_
              refine wp_iload_n dX11_isBetween_1 rfl ?_
              refine wp_icmp_lt 14 dX11_isBetween_2 (by decide) (fun q13 => ?_) (fun q14 => ?_)
              · skip
                refine wp_iconst (0 : Int32) dX11_isBetween_14 (by decide) ?_
                refine wp_zret dX11_isBetween_15 rfl rfl ?_
                show WP G (d + 3) (0, 0) μX11_addLouvre 55 [.ref (gB G + 293), .int (nI i), .int y, .int z, .int w, .int u, lvU, lvU, lvU] [.int (0 : Int32)] m _
                refine wp_if_eq 62 dX11_addLouvre_55 (by decide) (fun _ => ?_) (fun q => absurd (by decide) q)
                refine wp_iconst (0 : Int32) dX11_addLouvre_62 (by decide) ?_
                refine wp_istore dX11_addLouvre_63 (by decide) rfl ?_
                refine wp_iload dX11_addLouvre_65 rfl ?_
                refine wp_if_ne 73 dX11_addLouvre_67 (by decide) (fun q => absurd (by decide) q) (fun _ => ?_)
                refine wp_ldc dX11_addLouvre_70 kX11_79 ?_
                exact wp_iret dX11_addLouvre_72 rfl (e7 q2 q4 q6 q8 q10 q12 q13)
              · skip
                refine wp_iload_n dX11_isBetween_5 rfl ?_
                refine wp_iload_n dX11_isBetween_6 rfl ?_
                refine wp_icmp_gt 14 dX11_isBetween_7 (by decide) (fun q15 => ?_) (fun q16 => ?_)
                · skip
                  refine wp_iconst (0 : Int32) dX11_isBetween_14 (by decide) ?_
                  refine wp_zret dX11_isBetween_15 rfl rfl ?_
                  show WP G (d + 3) (0, 0) μX11_addLouvre 55 [.ref (gB G + 293), .int (nI i), .int y, .int z, .int w, .int u, lvU, lvU, lvU] [.int (0 : Int32)] m _
                  refine wp_if_eq 62 dX11_addLouvre_55 (by decide) (fun _ => ?_) (fun q => absurd (by decide) q)
                  refine wp_iconst (0 : Int32) dX11_addLouvre_62 (by decide) ?_
                  refine wp_istore dX11_addLouvre_63 (by decide) rfl ?_
                  refine wp_iload dX11_addLouvre_65 rfl ?_
                  refine wp_if_ne 73 dX11_addLouvre_67 (by decide) (fun q => absurd (by decide) q) (fun _ => ?_)
                  refine wp_ldc dX11_addLouvre_70 kX11_79 ?_
                  exact wp_iret dX11_addLouvre_72 rfl (e8 q2 q4 q6 q8 q10 q12 q14 q15)
                · skip
                  refine wp_iconst (1 : Int32) dX11_isBetween_10 (by decide) ?_
                  refine wp_goto 15 dX11_isBetween_11 (by decide) ?_
                  refine wp_zret dX11_isBetween_15 rfl rfl ?_
                  show WP G (d + 3) (0, 0) μX11_addLouvre 55 [.ref (gB G + 293), .int (nI i), .int y, .int z, .int w, .int u, lvU, lvU, lvU] [.int (1 : Int32)] m _
                  refine wp_if_eq 62 dX11_addLouvre_55 (by decide) (fun q => absurd q (by decide)) (fun _ => ?_)
                  refine wp_iconst (1 : Int32) dX11_addLouvre_58 (by decide) ?_
                  refine wp_goto 63 dX11_addLouvre_59 (by decide) ?_
                  refine wp_istore dX11_addLouvre_63 (by decide) rfl ?_
                  refine wp_iload dX11_addLouvre_65 rfl ?_
                  refine wp_if_ne 73 dX11_addLouvre_67 (by decide) (fun _ => ?_) (fun q => absurd q (by decide))
                  refine wp_aload_n dX11_addLouvre_73 rfl ?_
                  refine wp_getr (gB G + 294) dX11_addLouvre_74 fX11_7 (ka hF 293 (by decide)) (hF.2 _ _) (rra 1 (isK_le (ka hF 293 (by decide))) (fun _ => rfl)) ?_
                  refine wp_bipush (13 : Int32) dX11_addLouvre_77 (by decide) ?_
                  refine wp_ialdk (n := 1486) 13 (nI q) dX11_addLouvre_79 (ka hF 294 (by decide)) (la 294) (vinl (by decide)) rfl hnl ?_
                  refine wp_istore dX11_addLouvre_80 (by decide) rfl ?_
                  refine wp_iload dX11_addLouvre_82 rfl ?_
                  refine wp_bipush (6 : Int32) dX11_addLouvre_84 (by decide) ?_
                  refine wp_icmp_ne 92 dX11_addLouvre_86 (by decide) (fun q17 => ?_) (fun q18 => ?_)
                  · have hp19 : ¬ q = 6 := (fun z => q17 (congrArg nI z))
                    refine wp_sipush (296 : Int32) dX11_addLouvre_92 (by decide) ?_
                    refine wp_bipush (7 : Int32) dX11_addLouvre_95 (by decide) ?_
                    refine wp_iload dX11_addLouvre_97 rfl ?_
                    refine wp_imulv (nI (7 * q)) dX11_addLouvre_99 (nmul (a := 7) (b := q) (by omega)) ?_
                    refine wp_iaddv (nI (7 * q + 296)) dX11_addLouvre_100 (nadd (a := 296) (b := 7 * q) (by omega)) ?_
                    refine wp_istore dX11_addLouvre_101 (by decide) rfl ?_
                    refine wp_aload_n dX11_addLouvre_103 rfl ?_
                    refine wp_getr (gB G + 294) dX11_addLouvre_104 fX11_7 (ka hF 293 (by decide)) (hF.2 _ _) (rra 1 (isK_le (ka hF 293 (by decide))) (fun _ => rfl)) ?_
                    refine wp_iload dX11_addLouvre_107 rfl ?_
                    refine wp_iconst (0 : Int32) dX11_addLouvre_109 (by decide) ?_
                    refine wp_iaddv (nI (7 * q + 296)) dX11_addLouvre_110 (nadd (a := 7 * q + 296) (b := 0) (by omega)) ?_
                    refine wp_iload_n dX11_addLouvre_111 rfl ?_
                    refine wp_iastk (n := 1486) (7 * q + 296) dX11_addLouvre_112 (ka hF 294 (by decide)) (la 294) (vin (by omega) (by decide))  (nIc (by omega)) ?_
                    have hF20 := Full_wai (gB G + 294) (7 * q + 296) (nI i) hF
                    refine wp_aload_n dX11_addLouvre_113 rfl ?_
                    refine wp_getr (gB G + 294) dX11_addLouvre_114 fX11_7 (ka hF20 293 (by decide)) (hF20.2 _ _) (rra 1 (isK_le (ka hF20 293 (by decide))) (fun _ => rfl)) ?_
                    refine wp_iload dX11_addLouvre_117 rfl ?_
                    refine wp_iconst (1 : Int32) dX11_addLouvre_119 (by decide) ?_
                    refine wp_iaddv (nI (7 * q + 297)) dX11_addLouvre_120 (nadd (a := 7 * q + 296) (b := 1) (by omega)) ?_
                    refine wp_iload_n dX11_addLouvre_121 rfl ?_
                    refine wp_iastk (n := 1486) (7 * q + 297) dX11_addLouvre_122 (ka hF20 294 (by decide)) (la 294) (vin (by omega) (by decide))  (nIc (by omega)) ?_
                    have hF21 := Full_wai (gB G + 294) (7 * q + 297) y hF20
                    refine wp_aload_n dX11_addLouvre_123 rfl ?_
                    refine wp_getr (gB G + 294) dX11_addLouvre_124 fX11_7 (ka hF21 293 (by decide)) (hF21.2 _ _) (rra 1 (isK_le (ka hF21 293 (by decide))) (fun _ => rfl)) ?_
                    refine wp_iload dX11_addLouvre_127 rfl ?_
                    refine wp_iconst (2 : Int32) dX11_addLouvre_129 (by decide) ?_
                    refine wp_iaddv (nI (7 * q + 298)) dX11_addLouvre_130 (nadd (a := 7 * q + 296) (b := 2) (by omega)) ?_
                    refine wp_iload_n dX11_addLouvre_131 rfl ?_
                    refine wp_iastk (n := 1486) (7 * q + 298) dX11_addLouvre_132 (ka hF21 294 (by decide)) (la 294) (vin (by omega) (by decide))  (nIc (by omega)) ?_
                    have hF22 := Full_wai (gB G + 294) (7 * q + 298) z hF21
                    refine wp_aload_n dX11_addLouvre_133 rfl ?_
                    refine wp_getr (gB G + 294) dX11_addLouvre_134 fX11_7 (ka hF22 293 (by decide)) (hF22.2 _ _) (rra 1 (isK_le (ka hF22 293 (by decide))) (fun _ => rfl)) ?_
                    refine wp_iload dX11_addLouvre_137 rfl ?_
                    refine wp_iconst (3 : Int32) dX11_addLouvre_139 (by decide) ?_
                    refine wp_iaddv (nI (7 * q + 299)) dX11_addLouvre_140 (nadd (a := 7 * q + 296) (b := 3) (by omega)) ?_
                    refine wp_iload dX11_addLouvre_141 rfl ?_
                    refine wp_iastk (n := 1486) (7 * q + 299) dX11_addLouvre_143 (ka hF22 294 (by decide)) (la 294) (vin (by omega) (by decide))  (nIc (by omega)) ?_
                    have hF23 := Full_wai (gB G + 294) (7 * q + 299) w hF22
                    refine wp_aload_n dX11_addLouvre_144 rfl ?_
                    refine wp_getr (gB G + 294) dX11_addLouvre_145 fX11_7 (ka hF23 293 (by decide)) (hF23.2 _ _) (rra 1 (isK_le (ka hF23 293 (by decide))) (fun _ => rfl)) ?_
                    refine wp_iload dX11_addLouvre_148 rfl ?_
                    refine wp_iconst (4 : Int32) dX11_addLouvre_150 (by decide) ?_
                    refine wp_iaddv (nI (7 * q + 300)) dX11_addLouvre_151 (nadd (a := 7 * q + 296) (b := 4) (by omega)) ?_
                    refine wp_iload dX11_addLouvre_152 rfl ?_
                    refine wp_iastk (n := 1486) (7 * q + 300) dX11_addLouvre_154 (ka hF23 294 (by decide)) (la 294) (vin (by omega) (by decide))  (nIc (by omega)) ?_
                    have hF24 := Full_wai (gB G + 294) (7 * q + 300) u hF23
                    refine wp_aload_n dX11_addLouvre_155 rfl ?_
                    refine wp_getr (gB G + 294) dX11_addLouvre_156 fX11_7 (ka hF24 293 (by decide)) (hF24.2 _ _) (rra 1 (isK_le (ka hF24 293 (by decide))) (fun _ => rfl)) ?_
                    refine wp_iload dX11_addLouvre_159 rfl ?_
                    refine wp_iconst (5 : Int32) dX11_addLouvre_161 (by decide) ?_
                    refine wp_iaddv (nI (7 * q + 301)) dX11_addLouvre_162 (nadd (a := 7 * q + 296) (b := 5) (by omega)) ?_
                    refine wp_iconst (0 : Int32) dX11_addLouvre_163 (by decide) ?_
                    refine wp_iastk (n := 1486) (7 * q + 301) dX11_addLouvre_164 (ka hF24 294 (by decide)) (la 294) (vin (by omega) (by decide))  (nIc (by omega)) ?_
                    have hF25 := Full_wai (gB G + 294) (7 * q + 301) (0 : Int32) hF24
                    refine wp_aload_n dX11_addLouvre_165 rfl ?_
                    refine wp_getr (gB G + 294) dX11_addLouvre_166 fX11_7 (ka hF25 293 (by decide)) (hF25.2 _ _) (rra 1 (isK_le (ka hF25 293 (by decide))) (fun _ => rfl)) ?_
                    refine wp_iload dX11_addLouvre_169 rfl ?_
                    refine wp_bipush (6 : Int32) dX11_addLouvre_171 (by decide) ?_
                    refine wp_iaddv (nI (7 * q + 302)) dX11_addLouvre_173 (nadd (a := 7 * q + 296) (b := 6) (by omega)) ?_
                    refine wp_iconst (0 : Int32) dX11_addLouvre_174 (by decide) ?_
                    refine wp_iastk (n := 1486) (7 * q + 302) dX11_addLouvre_175 (ka hF25 294 (by decide)) (la 294) (vin (by omega) (by decide))  (nIc (by omega)) ?_
                    have hF26 := Full_wai (gB G + 294) (7 * q + 302) (0 : Int32) hF25
                    refine wp_aload_n dX11_addLouvre_176 rfl ?_
                    refine wp_getr (gB G + 294) dX11_addLouvre_177 fX11_7 (ka hF26 293 (by decide)) (hF26.2 _ _) (rra 1 (isK_le (ka hF26 293 (by decide))) (fun _ => rfl)) ?_
                    refine wp_bipush (13 : Int32) dX11_addLouvre_180 (by decide) ?_
                    refine wp_dup2 dX11_addLouvre_182 rfl rfl ?_
                    refine wp_ialdk (n := 1486) 13 (nI q) dX11_addLouvre_183 (ka hF26 294 (by decide)) (la 294) (vinl (by decide)) rfl ((ai_nk (by omega)).trans ((ai_nk (by omega)).trans ((ai_nk (by omega)).trans ((ai_nk (by omega)).trans ((ai_nk (by omega)).trans ((ai_nk (by omega)).trans ((ai_nk (by omega)).trans hnl))))))) ?_
                    refine wp_iconst (1 : Int32) dX11_addLouvre_184 (by decide) ?_
                    refine wp_iaddv (nI (q + 1)) dX11_addLouvre_185 (nadd (a := q) (b := 1) (by omega)) ?_
                    refine wp_iastk (n := 1486) 13 dX11_addLouvre_186 (ka hF26 294 (by decide)) (la 294) (vinl (by decide))  rfl ?_
                    have hF27 := Full_wai (gB G + 294) 13 (nI (q + 1)) hF26
                    refine wp_iload dX11_addLouvre_187 rfl ?_
                    exact wp_iret dX11_addLouvre_189 rfl (e9 q2 q4 q6 q8 q10 q12 q14 q16 hp19)
                  · have hp28 : q = 6 := (neq q18 (by omega) (by omega))
                    refine wp_ldc dX11_addLouvre_89 kX11_80 ?_
                    exact wp_iret dX11_addLouvre_91 rfl (e10 q2 q4 q6 q8 q10 q12 q14 q16 hp28)

theorem aM_addLouvre {G : Cx} {d : Nat} {m : Mm} {Q : Option Value → Mm → Prop} {x y z w u : Int32} {n : Nat}  (hF : Full G m) (hn : ai m (gB G + 294) 12 = nI n) (hm : n ≤ 12) (hx : x < 0) 
    (e1 : Q (some (.int (-1000000001 : Int32))) m) :
    WPM G (d + 3) (0, 0) μX11_addLouvre [.ref (gB G + 293), .int x, .int y, .int z, .int w, .int u] m Q := by
  refine WPM.of pX11 (Nat.le_of_ble_eq_true rfl) rfl ?_
  refine wp_aload_n dX11_addLouvre_0 rfl ?_
  refine wp_iload_n dX11_addLouvre_1 rfl ?_
  refine wp_callV (As := [.int x]) (S := []) (b' := (0, 0)) (b := (0, 0)) dX11_addLouvre_2 MX11_93 (ka hF 293 (by decide)) rfl rfl rfl rfl (Nat.le_of_ble_eq_true rfl) ?_
  refine WPM.of pX11 (Nat.le_of_ble_eq_true rfl) rfl ?_
  refine wp_iload_n dX11_isNode_0 rfl ?_
  refine wp_iconst (0 : Int32) dX11_isNode_1 (by decide) ?_
  refine wp_aload_n dX11_isNode_2 rfl ?_
  refine wp_getr (gB G + 294) dX11_isNode_3 fX11_7 (ka hF 293 (by decide)) (hF.2 _ _) (rra 1 (isK_le (ka hF 293 (by decide))) (fun _ => rfl)) ?_
  refine wp_bipush (12 : Int32) dX11_isNode_6 (by decide) ?_
  refine wp_ialdk (n := 1486) 12 (nI n) dX11_isNode_8 (ka hF 294 (by decide)) (la 294) (vinl (by decide)) rfl hn ?_
  refine wp_iconst (1 : Int32) dX11_isNode_9 (by decide) ?_
  refine wp_isubv ((nI n) - (1 : Int32)) dX11_isNode_10 rfl ?_
  refine wp_callS (As := [.int x, .int (0 : Int32), .int ((nI n) - (1 : Int32))]) (S := []) (b' := (0, 0)) (b := (0, 0)) dX11_isNode_11 MX11_67 rfl rfl (Nat.le_of_ble_eq_true rfl) ?_
  refine WPM.of pX11 (Nat.le_of_ble_eq_true rfl) rfl ?_
  refine wp_iload_n dX11_isBetween_0 rfl ?_
  refine wp_iload_n dX11_isBetween_1 rfl ?_
  refine wp_icmp_lt 14 dX11_isBetween_2 (by decide) (fun _ => ?_) (fun q => absurd hx q)
  refine wp_iconst (0 : Int32) dX11_isBetween_14 (by decide) ?_
  refine wp_zret dX11_isBetween_15 rfl rfl ?_
  show WP G (d + 2) (0, 0) μX11_isNode 14 [.ref (gB G + 293), .int x] [.int (0 : Int32)] m _
  refine wp_zret dX11_isNode_14 rfl rfl ?_
  show WP G (d + 3) (0, 0) μX11_addLouvre 5 [.ref (gB G + 293), .int x, .int y, .int z, .int w, .int u, lvU, lvU, lvU] [.int (0 : Int32)] m _
  refine wp_if_ne 11 dX11_addLouvre_5 (by decide) (fun q => absurd (by decide) q) (fun _ => ?_)
  refine wp_ldc dX11_addLouvre_8 kX11_96 ?_
  exact wp_iret dX11_addLouvre_10 rfl (e1)

theorem bM_addLouvre {G : Cx} {d : Nat} {m : Mm} {Q : Option Value → Mm → Prop} {x y z w u : Int32} {n : Nat}  (hF : Full G m) (hn : ai m (gB G + 294) 12 = nI n) (hm : n ≤ 12) (hx : ¬ x < 0) (hy : ¬ x < nI n) 
    (e1 : Q (some (.int (-1000000001 : Int32))) m) :
    WPM G (d + 3) (0, 0) μX11_addLouvre [.ref (gB G + 293), .int x, .int y, .int z, .int w, .int u] m Q := by
  refine WPM.of pX11 (Nat.le_of_ble_eq_true rfl) rfl ?_
  refine wp_aload_n dX11_addLouvre_0 rfl ?_
  refine wp_iload_n dX11_addLouvre_1 rfl ?_
  refine wp_callV (As := [.int x]) (S := []) (b' := (0, 0)) (b := (0, 0)) dX11_addLouvre_2 MX11_93 (ka hF 293 (by decide)) rfl rfl rfl rfl (Nat.le_of_ble_eq_true rfl) ?_
  refine WPM.of pX11 (Nat.le_of_ble_eq_true rfl) rfl ?_
  refine wp_iload_n dX11_isNode_0 rfl ?_
  refine wp_iconst (0 : Int32) dX11_isNode_1 (by decide) ?_
  refine wp_aload_n dX11_isNode_2 rfl ?_
  refine wp_getr (gB G + 294) dX11_isNode_3 fX11_7 (ka hF 293 (by decide)) (hF.2 _ _) (rra 1 (isK_le (ka hF 293 (by decide))) (fun _ => rfl)) ?_
  refine wp_bipush (12 : Int32) dX11_isNode_6 (by decide) ?_
  refine wp_ialdk (n := 1486) 12 (nI n) dX11_isNode_8 (ka hF 294 (by decide)) (la 294) (vinl (by decide)) rfl hn ?_
  refine wp_iconst (1 : Int32) dX11_isNode_9 (by decide) ?_
  refine wp_isubv ((nI n) - (1 : Int32)) dX11_isNode_10 rfl ?_
  refine wp_callS (As := [.int x, .int (0 : Int32), .int ((nI n) - (1 : Int32))]) (S := []) (b' := (0, 0)) (b := (0, 0)) dX11_isNode_11 MX11_67 rfl rfl (Nat.le_of_ble_eq_true rfl) ?_
  refine WPM.of pX11 (Nat.le_of_ble_eq_true rfl) rfl ?_
  refine wp_iload_n dX11_isBetween_0 rfl ?_
  refine wp_iload_n dX11_isBetween_1 rfl ?_
  refine wp_icmp_lt 14 dX11_isBetween_2 (by decide) (fun q => absurd q hx) (fun _ => ?_)
  refine wp_iload_n dX11_isBetween_5 rfl ?_
  refine wp_iload_n dX11_isBetween_6 rfl ?_
  refine wp_icmp_gt 14 dX11_isBetween_7 (by decide) (fun _ => ?_) (fun q => absurd (sub_lt (by omega) hx hy) q)
  refine wp_iconst (0 : Int32) dX11_isBetween_14 (by decide) ?_
  refine wp_zret dX11_isBetween_15 rfl rfl ?_
  show WP G (d + 2) (0, 0) μX11_isNode 14 [.ref (gB G + 293), .int x] [.int (0 : Int32)] m _
  refine wp_zret dX11_isNode_14 rfl rfl ?_
  show WP G (d + 3) (0, 0) μX11_addLouvre 5 [.ref (gB G + 293), .int x, .int y, .int z, .int w, .int u, lvU, lvU, lvU] [.int (0 : Int32)] m _
  refine wp_if_ne 11 dX11_addLouvre_5 (by decide) (fun q => absurd (by decide) q) (fun _ => ?_)
  refine wp_ldc dX11_addLouvre_8 kX11_96 ?_
  exact wp_iret dX11_addLouvre_10 rfl (e1)

theorem iM_opening {G : Cx} {d : Nat} {m : Mm} {Q : Option Value → Mm → Prop} {i n : Nat}  (hF : Full G m) (hn : ai m (gB G + 294) 13 = nI (n + 1)) (hm : n + 1 ≤ 6) (hi : i < n + 1) 
    (e1 : Q (some (.int (ai m (gB G + 294) (7 * i + 301)))) m) :
    WPM G (d + 3) (0, 0) μX11_opening [.ref (gB G + 293), .int (nI i)] m Q := by
  refine WPM.of pX11 (Nat.le_of_ble_eq_true rfl) rfl ?_
  refine wp_aload_n dX11_opening_0 rfl ?_
  refine wp_iload_n dX11_opening_1 rfl ?_
  refine wp_callV (As := [.int (nI i)]) (S := []) (b' := (0, 0)) (b := (0, 0)) dX11_opening_2 MX11_109 (ka hF 293 (by decide)) rfl rfl rfl rfl (Nat.le_of_ble_eq_true rfl) ?_
  refine WPM.of pX11 (Nat.le_of_ble_eq_true rfl) rfl ?_
  refine wp_iload_n dX11_isLouvre_0 rfl ?_
  refine wp_iconst (0 : Int32) dX11_isLouvre_1 (by decide) ?_
  refine wp_aload_n dX11_isLouvre_2 rfl ?_
  refine wp_getr (gB G + 294) dX11_isLouvre_3 fX11_7 (ka hF 293 (by decide)) (hF.2 _ _) (rra 1 (isK_le (ka hF 293 (by decide))) (fun _ => rfl)) ?_
  refine wp_bipush (13 : Int32) dX11_isLouvre_6 (by decide) ?_
  refine wp_ialdk (n := 1486) 13 (nI (n + 1)) dX11_isLouvre_8 (ka hF 294 (by decide)) (la 294) (vinl (by decide)) rfl hn ?_
  refine wp_iconst (1 : Int32) dX11_isLouvre_9 (by decide) ?_
  refine wp_isubv (nI n) dX11_isLouvre_10 (nsub (a := n + 1) (b := 1) (by omega)) ?_
  refine wp_callS (As := [.int (nI i), .int (0 : Int32), .int (nI n)]) (S := []) (b' := (0, 0)) (b := (0, 0)) dX11_isLouvre_11 MX11_67 rfl rfl (Nat.le_of_ble_eq_true rfl) ?_
  refine WPM.of pX11 (Nat.le_of_ble_eq_true rfl) rfl ?_
  refine wp_iload_n dX11_isBetween_0 rfl ?_
  refine wp_iload_n dX11_isBetween_1 rfl ?_
  refine wp_icmp_lt 14 dX11_isBetween_2 (by decide) (fun q => absurd q (nI_pos (by omega))) (fun _ => ?_)
  refine wp_iload_n dX11_isBetween_5 rfl ?_
  refine wp_iload_n dX11_isBetween_6 rfl ?_
  refine wp_icmp_gt 14 dX11_isBetween_7 (by decide) (fun q => absurd q (fun z => (show ¬ n < i by omega) (nlt (a := n) (b := i) z (by omega) (by omega)))) (fun _ => ?_)
  refine wp_iconst (1 : Int32) dX11_isBetween_10 (by decide) ?_
  refine wp_goto 15 dX11_isBetween_11 (by decide) ?_
  refine wp_zret dX11_isBetween_15 rfl rfl ?_
  show WP G (d + 2) (0, 0) μX11_isLouvre 14 [.ref (gB G + 293), .int (nI i)] [.int (1 : Int32)] m _
  refine wp_zret dX11_isLouvre_14 rfl rfl ?_
  show WP G (d + 3) (0, 0) μX11_opening 5 [.ref (gB G + 293), .int (nI i)] [.int (1 : Int32)] m _
  refine wp_if_eq 17 dX11_opening_5 (by decide) (fun q => absurd q (by decide)) (fun _ => ?_)
  refine wp_aload_n dX11_opening_8 rfl ?_
  refine wp_iload_n dX11_opening_9 rfl ?_
  refine wp_iconst (5 : Int32) dX11_opening_10 (by decide) ?_
  refine wp_callV (As := [.int (nI i), .int (5 : Int32)]) (S := []) (b' := (0, 0)) (b := (0, 0)) dX11_opening_11 MX11_112 (ka hF 293 (by decide)) rfl rfl rfl rfl (Nat.le_of_ble_eq_true rfl) ?_
  refine WPM.of pX11 (Nat.le_of_ble_eq_true rfl) rfl ?_
  refine wp_aload_n dX11_louvre_0 rfl ?_
  refine wp_getr (gB G + 294) dX11_louvre_1 fX11_7 (ka hF 293 (by decide)) (hF.2 _ _) (rra 1 (isK_le (ka hF 293 (by decide))) (fun _ => rfl)) ?_
  refine wp_sipush (296 : Int32) dX11_louvre_4 (by decide) ?_
  refine wp_bipush (7 : Int32) dX11_louvre_7 (by decide) ?_
  refine wp_iload_n dX11_louvre_9 rfl ?_
  refine wp_imulv (nI (7 * i)) dX11_louvre_10 (nmul (a := 7) (b := i) (by omega)) ?_
  refine wp_iaddv (nI (7 * i + 296)) dX11_louvre_11 (nadd (a := 296) (b := 7 * i) (by omega)) ?_
  refine wp_iload_n dX11_louvre_12 rfl ?_
  refine wp_iaddv (nI (7 * i + 301)) dX11_louvre_13 (nadd (a := 7 * i + 296) (b := 5) (by omega)) ?_
  refine wp_ialdk (n := 1486) (7 * i + 301) (ai m (gB G + 294) (7 * i + 301)) dX11_louvre_14 (ka hF 294 (by decide)) (la 294) (vin (by omega) (by decide)) (nIc (by omega)) rfl ?_
  refine wp_iret dX11_louvre_15 rfl ?_
  show WP G (d + 3) (0, 0) μX11_opening 14 [.ref (gB G + 293), .int (nI i)] [.int (ai m (gB G + 294) (7 * i + 301))] m _
  refine wp_goto 19 dX11_opening_14 (by decide) ?_
  exact wp_iret dX11_opening_19 rfl (e1)

theorem aM_opening {G : Cx} {d : Nat} {m : Mm} {Q : Option Value → Mm → Prop} {x : Int32} {n : Nat}  (hF : Full G m) (hn : ai m (gB G + 294) 13 = nI n) (hm : n ≤ 6) (hx : x < 0) 
    (e1 : Q (some (.int (-1000000001 : Int32))) m) :
    WPM G (d + 3) (0, 0) μX11_opening [.ref (gB G + 293), .int x] m Q := by
  refine WPM.of pX11 (Nat.le_of_ble_eq_true rfl) rfl ?_
  refine wp_aload_n dX11_opening_0 rfl ?_
  refine wp_iload_n dX11_opening_1 rfl ?_
  refine wp_callV (As := [.int x]) (S := []) (b' := (0, 0)) (b := (0, 0)) dX11_opening_2 MX11_109 (ka hF 293 (by decide)) rfl rfl rfl rfl (Nat.le_of_ble_eq_true rfl) ?_
  refine WPM.of pX11 (Nat.le_of_ble_eq_true rfl) rfl ?_
  refine wp_iload_n dX11_isLouvre_0 rfl ?_
  refine wp_iconst (0 : Int32) dX11_isLouvre_1 (by decide) ?_
  refine wp_aload_n dX11_isLouvre_2 rfl ?_
  refine wp_getr (gB G + 294) dX11_isLouvre_3 fX11_7 (ka hF 293 (by decide)) (hF.2 _ _) (rra 1 (isK_le (ka hF 293 (by decide))) (fun _ => rfl)) ?_
  refine wp_bipush (13 : Int32) dX11_isLouvre_6 (by decide) ?_
  refine wp_ialdk (n := 1486) 13 (nI n) dX11_isLouvre_8 (ka hF 294 (by decide)) (la 294) (vinl (by decide)) rfl hn ?_
  refine wp_iconst (1 : Int32) dX11_isLouvre_9 (by decide) ?_
  refine wp_isubv ((nI n) - (1 : Int32)) dX11_isLouvre_10 rfl ?_
  refine wp_callS (As := [.int x, .int (0 : Int32), .int ((nI n) - (1 : Int32))]) (S := []) (b' := (0, 0)) (b := (0, 0)) dX11_isLouvre_11 MX11_67 rfl rfl (Nat.le_of_ble_eq_true rfl) ?_
  refine WPM.of pX11 (Nat.le_of_ble_eq_true rfl) rfl ?_
  refine wp_iload_n dX11_isBetween_0 rfl ?_
  refine wp_iload_n dX11_isBetween_1 rfl ?_
  refine wp_icmp_lt 14 dX11_isBetween_2 (by decide) (fun _ => ?_) (fun q => absurd hx q)
  refine wp_iconst (0 : Int32) dX11_isBetween_14 (by decide) ?_
  refine wp_zret dX11_isBetween_15 rfl rfl ?_
  show WP G (d + 2) (0, 0) μX11_isLouvre 14 [.ref (gB G + 293), .int x] [.int (0 : Int32)] m _
  refine wp_zret dX11_isLouvre_14 rfl rfl ?_
  show WP G (d + 3) (0, 0) μX11_opening 5 [.ref (gB G + 293), .int x] [.int (0 : Int32)] m _
  refine wp_if_eq 17 dX11_opening_5 (by decide) (fun _ => ?_) (fun q => absurd (by decide) q)
  refine wp_ldc dX11_opening_17 kX11_96 ?_
  exact wp_iret dX11_opening_19 rfl (e1)

theorem bM_opening {G : Cx} {d : Nat} {m : Mm} {Q : Option Value → Mm → Prop} {x : Int32} {n : Nat}  (hF : Full G m) (hn : ai m (gB G + 294) 13 = nI n) (hm : n ≤ 6) (hx : ¬ x < 0) (hy : ¬ x < nI n) 
    (e1 : Q (some (.int (-1000000001 : Int32))) m) :
    WPM G (d + 3) (0, 0) μX11_opening [.ref (gB G + 293), .int x] m Q := by
  refine WPM.of pX11 (Nat.le_of_ble_eq_true rfl) rfl ?_
  refine wp_aload_n dX11_opening_0 rfl ?_
  refine wp_iload_n dX11_opening_1 rfl ?_
  refine wp_callV (As := [.int x]) (S := []) (b' := (0, 0)) (b := (0, 0)) dX11_opening_2 MX11_109 (ka hF 293 (by decide)) rfl rfl rfl rfl (Nat.le_of_ble_eq_true rfl) ?_
  refine WPM.of pX11 (Nat.le_of_ble_eq_true rfl) rfl ?_
  refine wp_iload_n dX11_isLouvre_0 rfl ?_
  refine wp_iconst (0 : Int32) dX11_isLouvre_1 (by decide) ?_
  refine wp_aload_n dX11_isLouvre_2 rfl ?_
  refine wp_getr (gB G + 294) dX11_isLouvre_3 fX11_7 (ka hF 293 (by decide)) (hF.2 _ _) (rra 1 (isK_le (ka hF 293 (by decide))) (fun _ => rfl)) ?_
  refine wp_bipush (13 : Int32) dX11_isLouvre_6 (by decide) ?_
  refine wp_ialdk (n := 1486) 13 (nI n) dX11_isLouvre_8 (ka hF 294 (by decide)) (la 294) (vinl (by decide)) rfl hn ?_
  refine wp_iconst (1 : Int32) dX11_isLouvre_9 (by decide) ?_
  refine wp_isubv ((nI n) - (1 : Int32)) dX11_isLouvre_10 rfl ?_
  refine wp_callS (As := [.int x, .int (0 : Int32), .int ((nI n) - (1 : Int32))]) (S := []) (b' := (0, 0)) (b := (0, 0)) dX11_isLouvre_11 MX11_67 rfl rfl (Nat.le_of_ble_eq_true rfl) ?_
  refine WPM.of pX11 (Nat.le_of_ble_eq_true rfl) rfl ?_
  refine wp_iload_n dX11_isBetween_0 rfl ?_
  refine wp_iload_n dX11_isBetween_1 rfl ?_
  refine wp_icmp_lt 14 dX11_isBetween_2 (by decide) (fun q => absurd q hx) (fun _ => ?_)
  refine wp_iload_n dX11_isBetween_5 rfl ?_
  refine wp_iload_n dX11_isBetween_6 rfl ?_
  refine wp_icmp_gt 14 dX11_isBetween_7 (by decide) (fun _ => ?_) (fun q => absurd (sub_lt (by omega) hx hy) q)
  refine wp_iconst (0 : Int32) dX11_isBetween_14 (by decide) ?_
  refine wp_zret dX11_isBetween_15 rfl rfl ?_
  show WP G (d + 2) (0, 0) μX11_isLouvre 14 [.ref (gB G + 293), .int x] [.int (0 : Int32)] m _
  refine wp_zret dX11_isLouvre_14 rfl rfl ?_
  show WP G (d + 3) (0, 0) μX11_opening 5 [.ref (gB G + 293), .int x] [.int (0 : Int32)] m _
  refine wp_if_eq 17 dX11_opening_5 (by decide) (fun _ => ?_) (fun q => absurd (by decide) q)
  refine wp_ldc dX11_opening_17 kX11_96 ?_
  exact wp_iret dX11_opening_19 rfl (e1)

theorem iM_isHeld {G : Cx} {d : Nat} {m : Mm} {Q : Option Value → Mm → Prop} {i n : Nat}  (hF : Full G m) (hn : ai m (gB G + 294) 13 = nI (n + 1)) (hm : n + 1 ≤ 6) (hi : i < n + 1) 
    (e1 : Q (some (.int (ai m (gB G + 294) (7 * i + 302)))) m) :
    WPM G (d + 3) (0, 0) μX11_isHeld [.ref (gB G + 293), .int (nI i)] m Q := by
  refine WPM.of pX11 (Nat.le_of_ble_eq_true rfl) rfl ?_
  refine wp_aload_n dX11_isHeld_0 rfl ?_
  refine wp_iload_n dX11_isHeld_1 rfl ?_
  refine wp_callV (As := [.int (nI i)]) (S := []) (b' := (0, 0)) (b := (0, 0)) dX11_isHeld_2 MX11_109 (ka hF 293 (by decide)) rfl rfl rfl rfl (Nat.le_of_ble_eq_true rfl) ?_
  refine WPM.of pX11 (Nat.le_of_ble_eq_true rfl) rfl ?_
  refine wp_iload_n dX11_isLouvre_0 rfl ?_
  refine wp_iconst (0 : Int32) dX11_isLouvre_1 (by decide) ?_
  refine wp_aload_n dX11_isLouvre_2 rfl ?_
  refine wp_getr (gB G + 294) dX11_isLouvre_3 fX11_7 (ka hF 293 (by decide)) (hF.2 _ _) (rra 1 (isK_le (ka hF 293 (by decide))) (fun _ => rfl)) ?_
  refine wp_bipush (13 : Int32) dX11_isLouvre_6 (by decide) ?_
  refine wp_ialdk (n := 1486) 13 (nI (n + 1)) dX11_isLouvre_8 (ka hF 294 (by decide)) (la 294) (vinl (by decide)) rfl hn ?_
  refine wp_iconst (1 : Int32) dX11_isLouvre_9 (by decide) ?_
  refine wp_isubv (nI n) dX11_isLouvre_10 (nsub (a := n + 1) (b := 1) (by omega)) ?_
  refine wp_callS (As := [.int (nI i), .int (0 : Int32), .int (nI n)]) (S := []) (b' := (0, 0)) (b := (0, 0)) dX11_isLouvre_11 MX11_67 rfl rfl (Nat.le_of_ble_eq_true rfl) ?_
  refine WPM.of pX11 (Nat.le_of_ble_eq_true rfl) rfl ?_
  refine wp_iload_n dX11_isBetween_0 rfl ?_
  refine wp_iload_n dX11_isBetween_1 rfl ?_
  refine wp_icmp_lt 14 dX11_isBetween_2 (by decide) (fun q => absurd q (nI_pos (by omega))) (fun _ => ?_)
  refine wp_iload_n dX11_isBetween_5 rfl ?_
  refine wp_iload_n dX11_isBetween_6 rfl ?_
  refine wp_icmp_gt 14 dX11_isBetween_7 (by decide) (fun q => absurd q (fun z => (show ¬ n < i by omega) (nlt (a := n) (b := i) z (by omega) (by omega)))) (fun _ => ?_)
  refine wp_iconst (1 : Int32) dX11_isBetween_10 (by decide) ?_
  refine wp_goto 15 dX11_isBetween_11 (by decide) ?_
  refine wp_zret dX11_isBetween_15 rfl rfl ?_
  show WP G (d + 2) (0, 0) μX11_isLouvre 14 [.ref (gB G + 293), .int (nI i)] [.int (1 : Int32)] m _
  refine wp_zret dX11_isLouvre_14 rfl rfl ?_
  show WP G (d + 3) (0, 0) μX11_isHeld 5 [.ref (gB G + 293), .int (nI i)] [.int (1 : Int32)] m _
  refine wp_if_eq 18 dX11_isHeld_5 (by decide) (fun q => absurd q (by decide)) (fun _ => ?_)
  refine wp_aload_n dX11_isHeld_8 rfl ?_
  refine wp_iload_n dX11_isHeld_9 rfl ?_
  refine wp_bipush (6 : Int32) dX11_isHeld_10 (by decide) ?_
  refine wp_callV (As := [.int (nI i), .int (6 : Int32)]) (S := []) (b' := (0, 0)) (b := (0, 0)) dX11_isHeld_12 MX11_112 (ka hF 293 (by decide)) rfl rfl rfl rfl (Nat.le_of_ble_eq_true rfl) ?_
  refine WPM.of pX11 (Nat.le_of_ble_eq_true rfl) rfl ?_
  refine wp_aload_n dX11_louvre_0 rfl ?_
  refine wp_getr (gB G + 294) dX11_louvre_1 fX11_7 (ka hF 293 (by decide)) (hF.2 _ _) (rra 1 (isK_le (ka hF 293 (by decide))) (fun _ => rfl)) ?_
  refine wp_sipush (296 : Int32) dX11_louvre_4 (by decide) ?_
  refine wp_bipush (7 : Int32) dX11_louvre_7 (by decide) ?_
  refine wp_iload_n dX11_louvre_9 rfl ?_
  refine wp_imulv (nI (7 * i)) dX11_louvre_10 (nmul (a := 7) (b := i) (by omega)) ?_
  refine wp_iaddv (nI (7 * i + 296)) dX11_louvre_11 (nadd (a := 296) (b := 7 * i) (by omega)) ?_
  refine wp_iload_n dX11_louvre_12 rfl ?_
  refine wp_iaddv (nI (7 * i + 302)) dX11_louvre_13 (nadd (a := 7 * i + 296) (b := 6) (by omega)) ?_
  refine wp_ialdk (n := 1486) (7 * i + 302) (ai m (gB G + 294) (7 * i + 302)) dX11_louvre_14 (ka hF 294 (by decide)) (la 294) (vin (by omega) (by decide)) (nIc (by omega)) rfl ?_
  refine wp_iret dX11_louvre_15 rfl ?_
  show WP G (d + 3) (0, 0) μX11_isHeld 15 [.ref (gB G + 293), .int (nI i)] [.int (ai m (gB G + 294) (7 * i + 302))] m _
  refine wp_goto 20 dX11_isHeld_15 (by decide) ?_
  exact wp_iret dX11_isHeld_20 rfl (e1)

theorem aM_isHeld {G : Cx} {d : Nat} {m : Mm} {Q : Option Value → Mm → Prop} {x : Int32} {n : Nat}  (hF : Full G m) (hn : ai m (gB G + 294) 13 = nI n) (hm : n ≤ 6) (hx : x < 0) 
    (e1 : Q (some (.int (-1000000001 : Int32))) m) :
    WPM G (d + 3) (0, 0) μX11_isHeld [.ref (gB G + 293), .int x] m Q := by
  refine WPM.of pX11 (Nat.le_of_ble_eq_true rfl) rfl ?_
  refine wp_aload_n dX11_isHeld_0 rfl ?_
  refine wp_iload_n dX11_isHeld_1 rfl ?_
  refine wp_callV (As := [.int x]) (S := []) (b' := (0, 0)) (b := (0, 0)) dX11_isHeld_2 MX11_109 (ka hF 293 (by decide)) rfl rfl rfl rfl (Nat.le_of_ble_eq_true rfl) ?_
  refine WPM.of pX11 (Nat.le_of_ble_eq_true rfl) rfl ?_
  refine wp_iload_n dX11_isLouvre_0 rfl ?_
  refine wp_iconst (0 : Int32) dX11_isLouvre_1 (by decide) ?_
  refine wp_aload_n dX11_isLouvre_2 rfl ?_
  refine wp_getr (gB G + 294) dX11_isLouvre_3 fX11_7 (ka hF 293 (by decide)) (hF.2 _ _) (rra 1 (isK_le (ka hF 293 (by decide))) (fun _ => rfl)) ?_
  refine wp_bipush (13 : Int32) dX11_isLouvre_6 (by decide) ?_
  refine wp_ialdk (n := 1486) 13 (nI n) dX11_isLouvre_8 (ka hF 294 (by decide)) (la 294) (vinl (by decide)) rfl hn ?_
  refine wp_iconst (1 : Int32) dX11_isLouvre_9 (by decide) ?_
  refine wp_isubv ((nI n) - (1 : Int32)) dX11_isLouvre_10 rfl ?_
  refine wp_callS (As := [.int x, .int (0 : Int32), .int ((nI n) - (1 : Int32))]) (S := []) (b' := (0, 0)) (b := (0, 0)) dX11_isLouvre_11 MX11_67 rfl rfl (Nat.le_of_ble_eq_true rfl) ?_
  refine WPM.of pX11 (Nat.le_of_ble_eq_true rfl) rfl ?_
  refine wp_iload_n dX11_isBetween_0 rfl ?_
  refine wp_iload_n dX11_isBetween_1 rfl ?_
  refine wp_icmp_lt 14 dX11_isBetween_2 (by decide) (fun _ => ?_) (fun q => absurd hx q)
  refine wp_iconst (0 : Int32) dX11_isBetween_14 (by decide) ?_
  refine wp_zret dX11_isBetween_15 rfl rfl ?_
  show WP G (d + 2) (0, 0) μX11_isLouvre 14 [.ref (gB G + 293), .int x] [.int (0 : Int32)] m _
  refine wp_zret dX11_isLouvre_14 rfl rfl ?_
  show WP G (d + 3) (0, 0) μX11_isHeld 5 [.ref (gB G + 293), .int x] [.int (0 : Int32)] m _
  refine wp_if_eq 18 dX11_isHeld_5 (by decide) (fun _ => ?_) (fun q => absurd (by decide) q)
  refine wp_ldc dX11_isHeld_18 kX11_96 ?_
  exact wp_iret dX11_isHeld_20 rfl (e1)

theorem bM_isHeld {G : Cx} {d : Nat} {m : Mm} {Q : Option Value → Mm → Prop} {x : Int32} {n : Nat}  (hF : Full G m) (hn : ai m (gB G + 294) 13 = nI n) (hm : n ≤ 6) (hx : ¬ x < 0) (hy : ¬ x < nI n) 
    (e1 : Q (some (.int (-1000000001 : Int32))) m) :
    WPM G (d + 3) (0, 0) μX11_isHeld [.ref (gB G + 293), .int x] m Q := by
  refine WPM.of pX11 (Nat.le_of_ble_eq_true rfl) rfl ?_
  refine wp_aload_n dX11_isHeld_0 rfl ?_
  refine wp_iload_n dX11_isHeld_1 rfl ?_
  refine wp_callV (As := [.int x]) (S := []) (b' := (0, 0)) (b := (0, 0)) dX11_isHeld_2 MX11_109 (ka hF 293 (by decide)) rfl rfl rfl rfl (Nat.le_of_ble_eq_true rfl) ?_
  refine WPM.of pX11 (Nat.le_of_ble_eq_true rfl) rfl ?_
  refine wp_iload_n dX11_isLouvre_0 rfl ?_
  refine wp_iconst (0 : Int32) dX11_isLouvre_1 (by decide) ?_
  refine wp_aload_n dX11_isLouvre_2 rfl ?_
  refine wp_getr (gB G + 294) dX11_isLouvre_3 fX11_7 (ka hF 293 (by decide)) (hF.2 _ _) (rra 1 (isK_le (ka hF 293 (by decide))) (fun _ => rfl)) ?_
  refine wp_bipush (13 : Int32) dX11_isLouvre_6 (by decide) ?_
  refine wp_ialdk (n := 1486) 13 (nI n) dX11_isLouvre_8 (ka hF 294 (by decide)) (la 294) (vinl (by decide)) rfl hn ?_
  refine wp_iconst (1 : Int32) dX11_isLouvre_9 (by decide) ?_
  refine wp_isubv ((nI n) - (1 : Int32)) dX11_isLouvre_10 rfl ?_
  refine wp_callS (As := [.int x, .int (0 : Int32), .int ((nI n) - (1 : Int32))]) (S := []) (b' := (0, 0)) (b := (0, 0)) dX11_isLouvre_11 MX11_67 rfl rfl (Nat.le_of_ble_eq_true rfl) ?_
  refine WPM.of pX11 (Nat.le_of_ble_eq_true rfl) rfl ?_
  refine wp_iload_n dX11_isBetween_0 rfl ?_
  refine wp_iload_n dX11_isBetween_1 rfl ?_
  refine wp_icmp_lt 14 dX11_isBetween_2 (by decide) (fun q => absurd q hx) (fun _ => ?_)
  refine wp_iload_n dX11_isBetween_5 rfl ?_
  refine wp_iload_n dX11_isBetween_6 rfl ?_
  refine wp_icmp_gt 14 dX11_isBetween_7 (by decide) (fun _ => ?_) (fun q => absurd (sub_lt (by omega) hx hy) q)
  refine wp_iconst (0 : Int32) dX11_isBetween_14 (by decide) ?_
  refine wp_zret dX11_isBetween_15 rfl rfl ?_
  show WP G (d + 2) (0, 0) μX11_isLouvre 14 [.ref (gB G + 293), .int x] [.int (0 : Int32)] m _
  refine wp_zret dX11_isLouvre_14 rfl rfl ?_
  show WP G (d + 3) (0, 0) μX11_isHeld 5 [.ref (gB G + 293), .int x] [.int (0 : Int32)] m _
  refine wp_if_eq 18 dX11_isHeld_5 (by decide) (fun _ => ?_) (fun q => absurd (by decide) q)
  refine wp_ldc dX11_isHeld_18 kX11_96 ?_
  exact wp_iret dX11_isHeld_20 rfl (e1)

theorem iM_heaterState {G : Cx} {d : Nat} {m : Mm} {Q : Option Value → Mm → Prop} {i n : Nat}  (hF : Full G m) (hn : ai m (gB G + 294) 14 = nI (n + 1)) (hm : n + 1 ≤ 8) (hi : i < n + 1) 
    (e1 : Q (some (.int (ai m (gB G + 294) (8 * i + 345)))) m) :
    WPM G (d + 3) (0, 0) μX11_heaterState [.ref (gB G + 293), .int (nI i)] m Q := by
  refine WPM.of pX11 (Nat.le_of_ble_eq_true rfl) rfl ?_
  refine wp_aload_n dX11_heaterState_0 rfl ?_
  refine wp_iload_n dX11_heaterState_1 rfl ?_
  refine wp_callV (As := [.int (nI i)]) (S := []) (b' := (0, 0)) (b := (0, 0)) dX11_heaterState_2 MX11_125 (ka hF 293 (by decide)) rfl rfl rfl rfl (Nat.le_of_ble_eq_true rfl) ?_
  refine WPM.of pX11 (Nat.le_of_ble_eq_true rfl) rfl ?_
  refine wp_iload_n dX11_isHeater_0 rfl ?_
  refine wp_iconst (0 : Int32) dX11_isHeater_1 (by decide) ?_
  refine wp_aload_n dX11_isHeater_2 rfl ?_
  refine wp_getr (gB G + 294) dX11_isHeater_3 fX11_7 (ka hF 293 (by decide)) (hF.2 _ _) (rra 1 (isK_le (ka hF 293 (by decide))) (fun _ => rfl)) ?_
  refine wp_bipush (14 : Int32) dX11_isHeater_6 (by decide) ?_
  refine wp_ialdk (n := 1486) 14 (nI (n + 1)) dX11_isHeater_8 (ka hF 294 (by decide)) (la 294) (vinl (by decide)) rfl hn ?_
  refine wp_iconst (1 : Int32) dX11_isHeater_9 (by decide) ?_
  refine wp_isubv (nI n) dX11_isHeater_10 (nsub (a := n + 1) (b := 1) (by omega)) ?_
  refine wp_callS (As := [.int (nI i), .int (0 : Int32), .int (nI n)]) (S := []) (b' := (0, 0)) (b := (0, 0)) dX11_isHeater_11 MX11_67 rfl rfl (Nat.le_of_ble_eq_true rfl) ?_
  refine WPM.of pX11 (Nat.le_of_ble_eq_true rfl) rfl ?_
  refine wp_iload_n dX11_isBetween_0 rfl ?_
  refine wp_iload_n dX11_isBetween_1 rfl ?_
  refine wp_icmp_lt 14 dX11_isBetween_2 (by decide) (fun q => absurd q (nI_pos (by omega))) (fun _ => ?_)
  refine wp_iload_n dX11_isBetween_5 rfl ?_
  refine wp_iload_n dX11_isBetween_6 rfl ?_
  refine wp_icmp_gt 14 dX11_isBetween_7 (by decide) (fun q => absurd q (fun z => (show ¬ n < i by omega) (nlt (a := n) (b := i) z (by omega) (by omega)))) (fun _ => ?_)
  refine wp_iconst (1 : Int32) dX11_isBetween_10 (by decide) ?_
  refine wp_goto 15 dX11_isBetween_11 (by decide) ?_
  refine wp_zret dX11_isBetween_15 rfl rfl ?_
  show WP G (d + 2) (0, 0) μX11_isHeater 14 [.ref (gB G + 293), .int (nI i)] [.int (1 : Int32)] m _
  refine wp_zret dX11_isHeater_14 rfl rfl ?_
  show WP G (d + 3) (0, 0) μX11_heaterState 5 [.ref (gB G + 293), .int (nI i)] [.int (1 : Int32)] m _
  refine wp_if_eq 18 dX11_heaterState_5 (by decide) (fun q => absurd q (by decide)) (fun _ => ?_)
  refine wp_aload_n dX11_heaterState_8 rfl ?_
  refine wp_iload_n dX11_heaterState_9 rfl ?_
  refine wp_bipush (7 : Int32) dX11_heaterState_10 (by decide) ?_
  refine wp_callV (As := [.int (nI i), .int (7 : Int32)]) (S := []) (b' := (0, 0)) (b := (0, 0)) dX11_heaterState_12 MX11_128 (ka hF 293 (by decide)) rfl rfl rfl rfl (Nat.le_of_ble_eq_true rfl) ?_
  refine WPM.of pX11 (Nat.le_of_ble_eq_true rfl) rfl ?_
  refine wp_aload_n dX11_heater_0 rfl ?_
  refine wp_getr (gB G + 294) dX11_heater_1 fX11_7 (ka hF 293 (by decide)) (hF.2 _ _) (rra 1 (isK_le (ka hF 293 (by decide))) (fun _ => rfl)) ?_
  refine wp_sipush (338 : Int32) dX11_heater_4 (by decide) ?_
  refine wp_bipush (8 : Int32) dX11_heater_7 (by decide) ?_
  refine wp_iload_n dX11_heater_9 rfl ?_
  refine wp_imulv (nI (8 * i)) dX11_heater_10 (nmul (a := 8) (b := i) (by omega)) ?_
  refine wp_iaddv (nI (8 * i + 338)) dX11_heater_11 (nadd (a := 338) (b := 8 * i) (by omega)) ?_
  refine wp_iload_n dX11_heater_12 rfl ?_
  refine wp_iaddv (nI (8 * i + 345)) dX11_heater_13 (nadd (a := 8 * i + 338) (b := 7) (by omega)) ?_
  refine wp_ialdk (n := 1486) (8 * i + 345) (ai m (gB G + 294) (8 * i + 345)) dX11_heater_14 (ka hF 294 (by decide)) (la 294) (vin (by omega) (by decide)) (nIc (by omega)) rfl ?_
  refine wp_iret dX11_heater_15 rfl ?_
  show WP G (d + 3) (0, 0) μX11_heaterState 15 [.ref (gB G + 293), .int (nI i)] [.int (ai m (gB G + 294) (8 * i + 345))] m _
  refine wp_goto 20 dX11_heaterState_15 (by decide) ?_
  exact wp_iret dX11_heaterState_20 rfl (e1)

theorem aM_heaterState {G : Cx} {d : Nat} {m : Mm} {Q : Option Value → Mm → Prop} {x : Int32} {n : Nat}  (hF : Full G m) (hn : ai m (gB G + 294) 14 = nI n) (hm : n ≤ 8) (hx : x < 0) 
    (e1 : Q (some (.int (-1000000001 : Int32))) m) :
    WPM G (d + 3) (0, 0) μX11_heaterState [.ref (gB G + 293), .int x] m Q := by
  refine WPM.of pX11 (Nat.le_of_ble_eq_true rfl) rfl ?_
  refine wp_aload_n dX11_heaterState_0 rfl ?_
  refine wp_iload_n dX11_heaterState_1 rfl ?_
  refine wp_callV (As := [.int x]) (S := []) (b' := (0, 0)) (b := (0, 0)) dX11_heaterState_2 MX11_125 (ka hF 293 (by decide)) rfl rfl rfl rfl (Nat.le_of_ble_eq_true rfl) ?_
  refine WPM.of pX11 (Nat.le_of_ble_eq_true rfl) rfl ?_
  refine wp_iload_n dX11_isHeater_0 rfl ?_
  refine wp_iconst (0 : Int32) dX11_isHeater_1 (by decide) ?_
  refine wp_aload_n dX11_isHeater_2 rfl ?_
  refine wp_getr (gB G + 294) dX11_isHeater_3 fX11_7 (ka hF 293 (by decide)) (hF.2 _ _) (rra 1 (isK_le (ka hF 293 (by decide))) (fun _ => rfl)) ?_
  refine wp_bipush (14 : Int32) dX11_isHeater_6 (by decide) ?_
  refine wp_ialdk (n := 1486) 14 (nI n) dX11_isHeater_8 (ka hF 294 (by decide)) (la 294) (vinl (by decide)) rfl hn ?_
  refine wp_iconst (1 : Int32) dX11_isHeater_9 (by decide) ?_
  refine wp_isubv ((nI n) - (1 : Int32)) dX11_isHeater_10 rfl ?_
  refine wp_callS (As := [.int x, .int (0 : Int32), .int ((nI n) - (1 : Int32))]) (S := []) (b' := (0, 0)) (b := (0, 0)) dX11_isHeater_11 MX11_67 rfl rfl (Nat.le_of_ble_eq_true rfl) ?_
  refine WPM.of pX11 (Nat.le_of_ble_eq_true rfl) rfl ?_
  refine wp_iload_n dX11_isBetween_0 rfl ?_
  refine wp_iload_n dX11_isBetween_1 rfl ?_
  refine wp_icmp_lt 14 dX11_isBetween_2 (by decide) (fun _ => ?_) (fun q => absurd hx q)
  refine wp_iconst (0 : Int32) dX11_isBetween_14 (by decide) ?_
  refine wp_zret dX11_isBetween_15 rfl rfl ?_
  show WP G (d + 2) (0, 0) μX11_isHeater 14 [.ref (gB G + 293), .int x] [.int (0 : Int32)] m _
  refine wp_zret dX11_isHeater_14 rfl rfl ?_
  show WP G (d + 3) (0, 0) μX11_heaterState 5 [.ref (gB G + 293), .int x] [.int (0 : Int32)] m _
  refine wp_if_eq 18 dX11_heaterState_5 (by decide) (fun _ => ?_) (fun q => absurd (by decide) q)
  refine wp_ldc dX11_heaterState_18 kX11_96 ?_
  exact wp_iret dX11_heaterState_20 rfl (e1)

theorem bM_heaterState {G : Cx} {d : Nat} {m : Mm} {Q : Option Value → Mm → Prop} {x : Int32} {n : Nat}  (hF : Full G m) (hn : ai m (gB G + 294) 14 = nI n) (hm : n ≤ 8) (hx : ¬ x < 0) (hy : ¬ x < nI n) 
    (e1 : Q (some (.int (-1000000001 : Int32))) m) :
    WPM G (d + 3) (0, 0) μX11_heaterState [.ref (gB G + 293), .int x] m Q := by
  refine WPM.of pX11 (Nat.le_of_ble_eq_true rfl) rfl ?_
  refine wp_aload_n dX11_heaterState_0 rfl ?_
  refine wp_iload_n dX11_heaterState_1 rfl ?_
  refine wp_callV (As := [.int x]) (S := []) (b' := (0, 0)) (b := (0, 0)) dX11_heaterState_2 MX11_125 (ka hF 293 (by decide)) rfl rfl rfl rfl (Nat.le_of_ble_eq_true rfl) ?_
  refine WPM.of pX11 (Nat.le_of_ble_eq_true rfl) rfl ?_
  refine wp_iload_n dX11_isHeater_0 rfl ?_
  refine wp_iconst (0 : Int32) dX11_isHeater_1 (by decide) ?_
  refine wp_aload_n dX11_isHeater_2 rfl ?_
  refine wp_getr (gB G + 294) dX11_isHeater_3 fX11_7 (ka hF 293 (by decide)) (hF.2 _ _) (rra 1 (isK_le (ka hF 293 (by decide))) (fun _ => rfl)) ?_
  refine wp_bipush (14 : Int32) dX11_isHeater_6 (by decide) ?_
  refine wp_ialdk (n := 1486) 14 (nI n) dX11_isHeater_8 (ka hF 294 (by decide)) (la 294) (vinl (by decide)) rfl hn ?_
  refine wp_iconst (1 : Int32) dX11_isHeater_9 (by decide) ?_
  refine wp_isubv ((nI n) - (1 : Int32)) dX11_isHeater_10 rfl ?_
  refine wp_callS (As := [.int x, .int (0 : Int32), .int ((nI n) - (1 : Int32))]) (S := []) (b' := (0, 0)) (b := (0, 0)) dX11_isHeater_11 MX11_67 rfl rfl (Nat.le_of_ble_eq_true rfl) ?_
  refine WPM.of pX11 (Nat.le_of_ble_eq_true rfl) rfl ?_
  refine wp_iload_n dX11_isBetween_0 rfl ?_
  refine wp_iload_n dX11_isBetween_1 rfl ?_
  refine wp_icmp_lt 14 dX11_isBetween_2 (by decide) (fun q => absurd q hx) (fun _ => ?_)
  refine wp_iload_n dX11_isBetween_5 rfl ?_
  refine wp_iload_n dX11_isBetween_6 rfl ?_
  refine wp_icmp_gt 14 dX11_isBetween_7 (by decide) (fun _ => ?_) (fun q => absurd (sub_lt (by omega) hx hy) q)
  refine wp_iconst (0 : Int32) dX11_isBetween_14 (by decide) ?_
  refine wp_zret dX11_isBetween_15 rfl rfl ?_
  show WP G (d + 2) (0, 0) μX11_isHeater 14 [.ref (gB G + 293), .int x] [.int (0 : Int32)] m _
  refine wp_zret dX11_isHeater_14 rfl rfl ?_
  show WP G (d + 3) (0, 0) μX11_heaterState 5 [.ref (gB G + 293), .int x] [.int (0 : Int32)] m _
  refine wp_if_eq 18 dX11_heaterState_5 (by decide) (fun _ => ?_) (fun q => absurd (by decide) q)
  refine wp_ldc dX11_heaterState_18 kX11_96 ?_
  exact wp_iret dX11_heaterState_20 rfl (e1)

theorem iM_heaterMode {G : Cx} {d : Nat} {m : Mm} {Q : Option Value → Mm → Prop} {i n : Nat}  (hF : Full G m) (hn : ai m (gB G + 294) 14 = nI (n + 1)) (hm : n + 1 ≤ 8) (hi : i < n + 1) 
    (e1 : Q (some (.int (ai m (gB G + 294) (8 * i + 343)))) m) :
    WPM G (d + 3) (0, 0) μX11_heaterMode [.ref (gB G + 293), .int (nI i)] m Q := by
  refine WPM.of pX11 (Nat.le_of_ble_eq_true rfl) rfl ?_
  refine wp_aload_n dX11_heaterMode_0 rfl ?_
  refine wp_iload_n dX11_heaterMode_1 rfl ?_
  refine wp_callV (As := [.int (nI i)]) (S := []) (b' := (0, 0)) (b := (0, 0)) dX11_heaterMode_2 MX11_125 (ka hF 293 (by decide)) rfl rfl rfl rfl (Nat.le_of_ble_eq_true rfl) ?_
  refine WPM.of pX11 (Nat.le_of_ble_eq_true rfl) rfl ?_
  refine wp_iload_n dX11_isHeater_0 rfl ?_
  refine wp_iconst (0 : Int32) dX11_isHeater_1 (by decide) ?_
  refine wp_aload_n dX11_isHeater_2 rfl ?_
  refine wp_getr (gB G + 294) dX11_isHeater_3 fX11_7 (ka hF 293 (by decide)) (hF.2 _ _) (rra 1 (isK_le (ka hF 293 (by decide))) (fun _ => rfl)) ?_
  refine wp_bipush (14 : Int32) dX11_isHeater_6 (by decide) ?_
  refine wp_ialdk (n := 1486) 14 (nI (n + 1)) dX11_isHeater_8 (ka hF 294 (by decide)) (la 294) (vinl (by decide)) rfl hn ?_
  refine wp_iconst (1 : Int32) dX11_isHeater_9 (by decide) ?_
  refine wp_isubv (nI n) dX11_isHeater_10 (nsub (a := n + 1) (b := 1) (by omega)) ?_
  refine wp_callS (As := [.int (nI i), .int (0 : Int32), .int (nI n)]) (S := []) (b' := (0, 0)) (b := (0, 0)) dX11_isHeater_11 MX11_67 rfl rfl (Nat.le_of_ble_eq_true rfl) ?_
  refine WPM.of pX11 (Nat.le_of_ble_eq_true rfl) rfl ?_
  refine wp_iload_n dX11_isBetween_0 rfl ?_
  refine wp_iload_n dX11_isBetween_1 rfl ?_
  refine wp_icmp_lt 14 dX11_isBetween_2 (by decide) (fun q => absurd q (nI_pos (by omega))) (fun _ => ?_)
  refine wp_iload_n dX11_isBetween_5 rfl ?_
  refine wp_iload_n dX11_isBetween_6 rfl ?_
  refine wp_icmp_gt 14 dX11_isBetween_7 (by decide) (fun q => absurd q (fun z => (show ¬ n < i by omega) (nlt (a := n) (b := i) z (by omega) (by omega)))) (fun _ => ?_)
  refine wp_iconst (1 : Int32) dX11_isBetween_10 (by decide) ?_
  refine wp_goto 15 dX11_isBetween_11 (by decide) ?_
  refine wp_zret dX11_isBetween_15 rfl rfl ?_
  show WP G (d + 2) (0, 0) μX11_isHeater 14 [.ref (gB G + 293), .int (nI i)] [.int (1 : Int32)] m _
  refine wp_zret dX11_isHeater_14 rfl rfl ?_
  show WP G (d + 3) (0, 0) μX11_heaterMode 5 [.ref (gB G + 293), .int (nI i)] [.int (1 : Int32)] m _
  refine wp_if_eq 17 dX11_heaterMode_5 (by decide) (fun q => absurd q (by decide)) (fun _ => ?_)
  refine wp_aload_n dX11_heaterMode_8 rfl ?_
  refine wp_iload_n dX11_heaterMode_9 rfl ?_
  refine wp_iconst (5 : Int32) dX11_heaterMode_10 (by decide) ?_
  refine wp_callV (As := [.int (nI i), .int (5 : Int32)]) (S := []) (b' := (0, 0)) (b := (0, 0)) dX11_heaterMode_11 MX11_128 (ka hF 293 (by decide)) rfl rfl rfl rfl (Nat.le_of_ble_eq_true rfl) ?_
  refine WPM.of pX11 (Nat.le_of_ble_eq_true rfl) rfl ?_
  refine wp_aload_n dX11_heater_0 rfl ?_
  refine wp_getr (gB G + 294) dX11_heater_1 fX11_7 (ka hF 293 (by decide)) (hF.2 _ _) (rra 1 (isK_le (ka hF 293 (by decide))) (fun _ => rfl)) ?_
  refine wp_sipush (338 : Int32) dX11_heater_4 (by decide) ?_
  refine wp_bipush (8 : Int32) dX11_heater_7 (by decide) ?_
  refine wp_iload_n dX11_heater_9 rfl ?_
  refine wp_imulv (nI (8 * i)) dX11_heater_10 (nmul (a := 8) (b := i) (by omega)) ?_
  refine wp_iaddv (nI (8 * i + 338)) dX11_heater_11 (nadd (a := 338) (b := 8 * i) (by omega)) ?_
  refine wp_iload_n dX11_heater_12 rfl ?_
  refine wp_iaddv (nI (8 * i + 343)) dX11_heater_13 (nadd (a := 8 * i + 338) (b := 5) (by omega)) ?_
  refine wp_ialdk (n := 1486) (8 * i + 343) (ai m (gB G + 294) (8 * i + 343)) dX11_heater_14 (ka hF 294 (by decide)) (la 294) (vin (by omega) (by decide)) (nIc (by omega)) rfl ?_
  refine wp_iret dX11_heater_15 rfl ?_
  show WP G (d + 3) (0, 0) μX11_heaterMode 14 [.ref (gB G + 293), .int (nI i)] [.int (ai m (gB G + 294) (8 * i + 343))] m _
  refine wp_goto 19 dX11_heaterMode_14 (by decide) ?_
  exact wp_iret dX11_heaterMode_19 rfl (e1)

theorem aM_heaterMode {G : Cx} {d : Nat} {m : Mm} {Q : Option Value → Mm → Prop} {x : Int32} {n : Nat}  (hF : Full G m) (hn : ai m (gB G + 294) 14 = nI n) (hm : n ≤ 8) (hx : x < 0) 
    (e1 : Q (some (.int (-1000000001 : Int32))) m) :
    WPM G (d + 3) (0, 0) μX11_heaterMode [.ref (gB G + 293), .int x] m Q := by
  refine WPM.of pX11 (Nat.le_of_ble_eq_true rfl) rfl ?_
  refine wp_aload_n dX11_heaterMode_0 rfl ?_
  refine wp_iload_n dX11_heaterMode_1 rfl ?_
  refine wp_callV (As := [.int x]) (S := []) (b' := (0, 0)) (b := (0, 0)) dX11_heaterMode_2 MX11_125 (ka hF 293 (by decide)) rfl rfl rfl rfl (Nat.le_of_ble_eq_true rfl) ?_
  refine WPM.of pX11 (Nat.le_of_ble_eq_true rfl) rfl ?_
  refine wp_iload_n dX11_isHeater_0 rfl ?_
  refine wp_iconst (0 : Int32) dX11_isHeater_1 (by decide) ?_
  refine wp_aload_n dX11_isHeater_2 rfl ?_
  refine wp_getr (gB G + 294) dX11_isHeater_3 fX11_7 (ka hF 293 (by decide)) (hF.2 _ _) (rra 1 (isK_le (ka hF 293 (by decide))) (fun _ => rfl)) ?_
  refine wp_bipush (14 : Int32) dX11_isHeater_6 (by decide) ?_
  refine wp_ialdk (n := 1486) 14 (nI n) dX11_isHeater_8 (ka hF 294 (by decide)) (la 294) (vinl (by decide)) rfl hn ?_
  refine wp_iconst (1 : Int32) dX11_isHeater_9 (by decide) ?_
  refine wp_isubv ((nI n) - (1 : Int32)) dX11_isHeater_10 rfl ?_
  refine wp_callS (As := [.int x, .int (0 : Int32), .int ((nI n) - (1 : Int32))]) (S := []) (b' := (0, 0)) (b := (0, 0)) dX11_isHeater_11 MX11_67 rfl rfl (Nat.le_of_ble_eq_true rfl) ?_
  refine WPM.of pX11 (Nat.le_of_ble_eq_true rfl) rfl ?_
  refine wp_iload_n dX11_isBetween_0 rfl ?_
  refine wp_iload_n dX11_isBetween_1 rfl ?_
  refine wp_icmp_lt 14 dX11_isBetween_2 (by decide) (fun _ => ?_) (fun q => absurd hx q)
  refine wp_iconst (0 : Int32) dX11_isBetween_14 (by decide) ?_
  refine wp_zret dX11_isBetween_15 rfl rfl ?_
  show WP G (d + 2) (0, 0) μX11_isHeater 14 [.ref (gB G + 293), .int x] [.int (0 : Int32)] m _
  refine wp_zret dX11_isHeater_14 rfl rfl ?_
  show WP G (d + 3) (0, 0) μX11_heaterMode 5 [.ref (gB G + 293), .int x] [.int (0 : Int32)] m _
  refine wp_if_eq 17 dX11_heaterMode_5 (by decide) (fun _ => ?_) (fun q => absurd (by decide) q)
  refine wp_ldc dX11_heaterMode_17 kX11_96 ?_
  exact wp_iret dX11_heaterMode_19 rfl (e1)

theorem bM_heaterMode {G : Cx} {d : Nat} {m : Mm} {Q : Option Value → Mm → Prop} {x : Int32} {n : Nat}  (hF : Full G m) (hn : ai m (gB G + 294) 14 = nI n) (hm : n ≤ 8) (hx : ¬ x < 0) (hy : ¬ x < nI n) 
    (e1 : Q (some (.int (-1000000001 : Int32))) m) :
    WPM G (d + 3) (0, 0) μX11_heaterMode [.ref (gB G + 293), .int x] m Q := by
  refine WPM.of pX11 (Nat.le_of_ble_eq_true rfl) rfl ?_
  refine wp_aload_n dX11_heaterMode_0 rfl ?_
  refine wp_iload_n dX11_heaterMode_1 rfl ?_
  refine wp_callV (As := [.int x]) (S := []) (b' := (0, 0)) (b := (0, 0)) dX11_heaterMode_2 MX11_125 (ka hF 293 (by decide)) rfl rfl rfl rfl (Nat.le_of_ble_eq_true rfl) ?_
  refine WPM.of pX11 (Nat.le_of_ble_eq_true rfl) rfl ?_
  refine wp_iload_n dX11_isHeater_0 rfl ?_
  refine wp_iconst (0 : Int32) dX11_isHeater_1 (by decide) ?_
  refine wp_aload_n dX11_isHeater_2 rfl ?_
  refine wp_getr (gB G + 294) dX11_isHeater_3 fX11_7 (ka hF 293 (by decide)) (hF.2 _ _) (rra 1 (isK_le (ka hF 293 (by decide))) (fun _ => rfl)) ?_
  refine wp_bipush (14 : Int32) dX11_isHeater_6 (by decide) ?_
  refine wp_ialdk (n := 1486) 14 (nI n) dX11_isHeater_8 (ka hF 294 (by decide)) (la 294) (vinl (by decide)) rfl hn ?_
  refine wp_iconst (1 : Int32) dX11_isHeater_9 (by decide) ?_
  refine wp_isubv ((nI n) - (1 : Int32)) dX11_isHeater_10 rfl ?_
  refine wp_callS (As := [.int x, .int (0 : Int32), .int ((nI n) - (1 : Int32))]) (S := []) (b' := (0, 0)) (b := (0, 0)) dX11_isHeater_11 MX11_67 rfl rfl (Nat.le_of_ble_eq_true rfl) ?_
  refine WPM.of pX11 (Nat.le_of_ble_eq_true rfl) rfl ?_
  refine wp_iload_n dX11_isBetween_0 rfl ?_
  refine wp_iload_n dX11_isBetween_1 rfl ?_
  refine wp_icmp_lt 14 dX11_isBetween_2 (by decide) (fun q => absurd q hx) (fun _ => ?_)
  refine wp_iload_n dX11_isBetween_5 rfl ?_
  refine wp_iload_n dX11_isBetween_6 rfl ?_
  refine wp_icmp_gt 14 dX11_isBetween_7 (by decide) (fun _ => ?_) (fun q => absurd (sub_lt (by omega) hx hy) q)
  refine wp_iconst (0 : Int32) dX11_isBetween_14 (by decide) ?_
  refine wp_zret dX11_isBetween_15 rfl rfl ?_
  show WP G (d + 2) (0, 0) μX11_isHeater 14 [.ref (gB G + 293), .int x] [.int (0 : Int32)] m _
  refine wp_zret dX11_isHeater_14 rfl rfl ?_
  show WP G (d + 3) (0, 0) μX11_heaterMode 5 [.ref (gB G + 293), .int x] [.int (0 : Int32)] m _
  refine wp_if_eq 17 dX11_heaterMode_5 (by decide) (fun _ => ?_) (fun q => absurd (by decide) q)
  refine wp_ldc dX11_heaterMode_17 kX11_96 ?_
  exact wp_iret dX11_heaterMode_19 rfl (e1)

theorem iM_setMode {G : Cx} {d : Nat} {m : Mm} {Q : Option Value → Mm → Prop} {y : Int32} {i n : Nat}  (hF : Full G m) (hn : ai m (gB G + 294) 14 = nI (n + 1)) (hm : n + 1 ≤ 8) (hi : i < n + 1) 
    (e1 : y < (0 : Int32) → Q (some (.int (-1000000002 : Int32))) m)
    (e2 : ¬ y < (0 : Int32) → (2 : Int32) < y → Q (some (.int (-1000000002 : Int32))) m)
    (e3 : ¬ y < (0 : Int32) → ¬ (2 : Int32) < y → Q (some (.int (ai m (gB G + 294) (8 * i + 343)))) (wai m (gB G + 294) (8 * i + 343) y)) :
    WPM G (d + 3) (0, 0) μX11_setMode [.ref (gB G + 293), .int (nI i), .int y] m Q := by
  refine WPM.of pX11 (Nat.le_of_ble_eq_true rfl) rfl ?_
  refine wp_aload_n dX11_setMode_0 rfl ?_
  refine wp_iload_n dX11_setMode_1 rfl ?_
  refine wp_callV (As := [.int (nI i)]) (S := []) (b' := (0, 0)) (b := (0, 0)) dX11_setMode_2 MX11_125 (ka hF 293 (by decide)) rfl rfl rfl rfl (Nat.le_of_ble_eq_true rfl) ?_
  refine WPM.of pX11 (Nat.le_of_ble_eq_true rfl) rfl ?_
  refine wp_iload_n dX11_isHeater_0 rfl ?_
  refine wp_iconst (0 : Int32) dX11_isHeater_1 (by decide) ?_
  refine wp_aload_n dX11_isHeater_2 rfl ?_
  refine wp_getr (gB G + 294) dX11_isHeater_3 fX11_7 (ka hF 293 (by decide)) (hF.2 _ _) (rra 1 (isK_le (ka hF 293 (by decide))) (fun _ => rfl)) ?_
  refine wp_bipush (14 : Int32) dX11_isHeater_6 (by decide) ?_
  refine wp_ialdk (n := 1486) 14 (nI (n + 1)) dX11_isHeater_8 (ka hF 294 (by decide)) (la 294) (vinl (by decide)) rfl hn ?_
  refine wp_iconst (1 : Int32) dX11_isHeater_9 (by decide) ?_
  refine wp_isubv (nI n) dX11_isHeater_10 (nsub (a := n + 1) (b := 1) (by omega)) ?_
  refine wp_callS (As := [.int (nI i), .int (0 : Int32), .int (nI n)]) (S := []) (b' := (0, 0)) (b := (0, 0)) dX11_isHeater_11 MX11_67 rfl rfl (Nat.le_of_ble_eq_true rfl) ?_
  refine WPM.of pX11 (Nat.le_of_ble_eq_true rfl) rfl ?_
  refine wp_iload_n dX11_isBetween_0 rfl ?_
  refine wp_iload_n dX11_isBetween_1 rfl ?_
  refine wp_icmp_lt 14 dX11_isBetween_2 (by decide) (fun q => absurd q (nI_pos (by omega))) (fun _ => ?_)
  refine wp_iload_n dX11_isBetween_5 rfl ?_
  refine wp_iload_n dX11_isBetween_6 rfl ?_
  refine wp_icmp_gt 14 dX11_isBetween_7 (by decide) (fun q => absurd q (fun z => (show ¬ n < i by omega) (nlt (a := n) (b := i) z (by omega) (by omega)))) (fun _ => ?_)
  refine wp_iconst (1 : Int32) dX11_isBetween_10 (by decide) ?_
  refine wp_goto 15 dX11_isBetween_11 (by decide) ?_
  refine wp_zret dX11_isBetween_15 rfl rfl ?_
  show WP G (d + 2) (0, 0) μX11_isHeater 14 [.ref (gB G + 293), .int (nI i)] [.int (1 : Int32)] m _
  refine wp_zret dX11_isHeater_14 rfl rfl ?_
  show WP G (d + 3) (0, 0) μX11_setMode 5 [.ref (gB G + 293), .int (nI i), .int y, lvU] [.int (1 : Int32)] m _
  refine wp_if_ne 11 dX11_setMode_5 (by decide) (fun _ => ?_) (fun q => absurd q (by decide))
  refine wp_iload_n dX11_setMode_11 rfl ?_
  refine wp_iconst (0 : Int32) dX11_setMode_12 (by decide) ?_
  refine wp_iconst (2 : Int32) dX11_setMode_13 (by decide) ?_
  refine wp_callS (As := [.int y, .int (0 : Int32), .int (2 : Int32)]) (S := []) (b' := (0, 0)) (b := (0, 0)) dX11_setMode_14 MX11_67 rfl rfl (Nat.le_of_ble_eq_true rfl) ?_
  refine WPM.of pX11 (Nat.le_of_ble_eq_true rfl) rfl ?_
  refine wp_iload_n dX11_isBetween_0 rfl ?_
  refine wp_iload_n dX11_isBetween_1 rfl ?_
  refine wp_icmp_lt 14 dX11_isBetween_2 (by decide) (fun q1 => ?_) (fun q2 => ?_)
  · skip
    refine wp_iconst (0 : Int32) dX11_isBetween_14 (by decide) ?_
    refine wp_zret dX11_isBetween_15 rfl rfl ?_
    show WP G (d + 3) (0, 0) μX11_setMode 17 [.ref (gB G + 293), .int (nI i), .int y, lvU] [.int (0 : Int32)] m _
    refine wp_if_ne 23 dX11_setMode_17 (by decide) (fun q => absurd (by decide) q) (fun _ => ?_)
    refine wp_ldc dX11_setMode_20 kX11_79 ?_
    exact wp_iret dX11_setMode_22 rfl (e1 q1)
  · skip
    refine wp_iload_n dX11_isBetween_5 rfl ?_
    refine wp_iload_n dX11_isBetween_6 rfl ?_
    refine wp_icmp_gt 14 dX11_isBetween_7 (by decide) (fun q3 => ?_) (fun q4 => ?_)
    · skip
      refine wp_iconst (0 : Int32) dX11_isBetween_14 (by decide) ?_
      refine wp_zret dX11_isBetween_15 rfl rfl ?_
      show WP G (d + 3) (0, 0) μX11_setMode 17 [.ref (gB G + 293), .int (nI i), .int y, lvU] [.int (0 : Int32)] m _
      refine wp_if_ne 23 dX11_setMode_17 (by decide) (fun q => absurd (by decide) q) (fun _ => ?_)
      refine wp_ldc dX11_setMode_20 kX11_79 ?_
      exact wp_iret dX11_setMode_22 rfl (e2 q2 q3)
    · skip
      refine wp_iconst (1 : Int32) dX11_isBetween_10 (by decide) ?_
      refine wp_goto 15 dX11_isBetween_11 (by decide) ?_
      refine wp_zret dX11_isBetween_15 rfl rfl ?_
      show WP G (d + 3) (0, 0) μX11_setMode 17 [.ref (gB G + 293), .int (nI i), .int y, lvU] [.int (1 : Int32)] m _
      refine wp_if_ne 23 dX11_setMode_17 (by decide) (fun _ => ?_) (fun q => absurd q (by decide))
      refine wp_aload_n dX11_setMode_23 rfl ?_
      refine wp_iload_n dX11_setMode_24 rfl ?_
      refine wp_iconst (5 : Int32) dX11_setMode_25 (by decide) ?_
      refine wp_callV (As := [.int (nI i), .int (5 : Int32)]) (S := []) (b' := (0, 0)) (b := (0, 0)) dX11_setMode_26 MX11_128 (ka hF 293 (by decide)) rfl rfl rfl rfl (Nat.le_of_ble_eq_true rfl) ?_
      refine WPM.of pX11 (Nat.le_of_ble_eq_true rfl) rfl ?_
      refine wp_aload_n dX11_heater_0 rfl ?_
      refine wp_getr (gB G + 294) dX11_heater_1 fX11_7 (ka hF 293 (by decide)) (hF.2 _ _) (rra 1 (isK_le (ka hF 293 (by decide))) (fun _ => rfl)) ?_
      refine wp_sipush (338 : Int32) dX11_heater_4 (by decide) ?_
      refine wp_bipush (8 : Int32) dX11_heater_7 (by decide) ?_
      refine wp_iload_n dX11_heater_9 rfl ?_
      refine wp_imulv (nI (8 * i)) dX11_heater_10 (nmul (a := 8) (b := i) (by omega)) ?_
      refine wp_iaddv (nI (8 * i + 338)) dX11_heater_11 (nadd (a := 338) (b := 8 * i) (by omega)) ?_
      refine wp_iload_n dX11_heater_12 rfl ?_
      refine wp_iaddv (nI (8 * i + 343)) dX11_heater_13 (nadd (a := 8 * i + 338) (b := 5) (by omega)) ?_
      refine wp_ialdk (n := 1486) (8 * i + 343) (ai m (gB G + 294) (8 * i + 343)) dX11_heater_14 (ka hF 294 (by decide)) (la 294) (vin (by omega) (by decide)) (nIc (by omega)) rfl ?_
      refine wp_iret dX11_heater_15 rfl ?_
      show WP G (d + 3) (0, 0) μX11_setMode 29 [.ref (gB G + 293), .int (nI i), .int y, lvU] [.int (ai m (gB G + 294) (8 * i + 343))] m _
      refine wp_istore_n dX11_setMode_29 (by decide) rfl ?_
      refine wp_aload_n dX11_setMode_30 rfl ?_
      refine wp_getr (gB G + 294) dX11_setMode_31 fX11_7 (ka hF 293 (by decide)) (hF.2 _ _) (rra 1 (isK_le (ka hF 293 (by decide))) (fun _ => rfl)) ?_
      refine wp_sipush (338 : Int32) dX11_setMode_34 (by decide) ?_
      refine wp_bipush (8 : Int32) dX11_setMode_37 (by decide) ?_
      refine wp_iload_n dX11_setMode_39 rfl ?_
      refine wp_imulv (nI (8 * i)) dX11_setMode_40 (nmul (a := 8) (b := i) (by omega)) ?_
      refine wp_iaddv (nI (8 * i + 338)) dX11_setMode_41 (nadd (a := 338) (b := 8 * i) (by omega)) ?_
      refine wp_iconst (5 : Int32) dX11_setMode_42 (by decide) ?_
      refine wp_iaddv (nI (8 * i + 343)) dX11_setMode_43 (nadd (a := 8 * i + 338) (b := 5) (by omega)) ?_
      refine wp_iload_n dX11_setMode_44 rfl ?_
      refine wp_iastk (n := 1486) (8 * i + 343) dX11_setMode_45 (ka hF 294 (by decide)) (la 294) (vin (by omega) (by decide))  (nIc (by omega)) ?_
      have hF5 := Full_wai (gB G + 294) (8 * i + 343) y hF
      refine wp_iload_n dX11_setMode_46 rfl ?_
      exact wp_iret dX11_setMode_47 rfl (e3 q2 q4)

theorem aM_setMode {G : Cx} {d : Nat} {m : Mm} {Q : Option Value → Mm → Prop} {x y : Int32} {n : Nat}  (hF : Full G m) (hn : ai m (gB G + 294) 14 = nI n) (hm : n ≤ 8) (hx : x < 0) 
    (e1 : Q (some (.int (-1000000001 : Int32))) m) :
    WPM G (d + 3) (0, 0) μX11_setMode [.ref (gB G + 293), .int x, .int y] m Q := by
  refine WPM.of pX11 (Nat.le_of_ble_eq_true rfl) rfl ?_
  refine wp_aload_n dX11_setMode_0 rfl ?_
  refine wp_iload_n dX11_setMode_1 rfl ?_
  refine wp_callV (As := [.int x]) (S := []) (b' := (0, 0)) (b := (0, 0)) dX11_setMode_2 MX11_125 (ka hF 293 (by decide)) rfl rfl rfl rfl (Nat.le_of_ble_eq_true rfl) ?_
  refine WPM.of pX11 (Nat.le_of_ble_eq_true rfl) rfl ?_
  refine wp_iload_n dX11_isHeater_0 rfl ?_
  refine wp_iconst (0 : Int32) dX11_isHeater_1 (by decide) ?_
  refine wp_aload_n dX11_isHeater_2 rfl ?_
  refine wp_getr (gB G + 294) dX11_isHeater_3 fX11_7 (ka hF 293 (by decide)) (hF.2 _ _) (rra 1 (isK_le (ka hF 293 (by decide))) (fun _ => rfl)) ?_
  refine wp_bipush (14 : Int32) dX11_isHeater_6 (by decide) ?_
  refine wp_ialdk (n := 1486) 14 (nI n) dX11_isHeater_8 (ka hF 294 (by decide)) (la 294) (vinl (by decide)) rfl hn ?_
  refine wp_iconst (1 : Int32) dX11_isHeater_9 (by decide) ?_
  refine wp_isubv ((nI n) - (1 : Int32)) dX11_isHeater_10 rfl ?_
  refine wp_callS (As := [.int x, .int (0 : Int32), .int ((nI n) - (1 : Int32))]) (S := []) (b' := (0, 0)) (b := (0, 0)) dX11_isHeater_11 MX11_67 rfl rfl (Nat.le_of_ble_eq_true rfl) ?_
  refine WPM.of pX11 (Nat.le_of_ble_eq_true rfl) rfl ?_
  refine wp_iload_n dX11_isBetween_0 rfl ?_
  refine wp_iload_n dX11_isBetween_1 rfl ?_
  refine wp_icmp_lt 14 dX11_isBetween_2 (by decide) (fun _ => ?_) (fun q => absurd hx q)
  refine wp_iconst (0 : Int32) dX11_isBetween_14 (by decide) ?_
  refine wp_zret dX11_isBetween_15 rfl rfl ?_
  show WP G (d + 2) (0, 0) μX11_isHeater 14 [.ref (gB G + 293), .int x] [.int (0 : Int32)] m _
  refine wp_zret dX11_isHeater_14 rfl rfl ?_
  show WP G (d + 3) (0, 0) μX11_setMode 5 [.ref (gB G + 293), .int x, .int y, lvU] [.int (0 : Int32)] m _
  refine wp_if_ne 11 dX11_setMode_5 (by decide) (fun q => absurd (by decide) q) (fun _ => ?_)
  refine wp_ldc dX11_setMode_8 kX11_96 ?_
  exact wp_iret dX11_setMode_10 rfl (e1)

theorem bM_setMode {G : Cx} {d : Nat} {m : Mm} {Q : Option Value → Mm → Prop} {x y : Int32} {n : Nat}  (hF : Full G m) (hn : ai m (gB G + 294) 14 = nI n) (hm : n ≤ 8) (hx : ¬ x < 0) (hy : ¬ x < nI n) 
    (e1 : Q (some (.int (-1000000001 : Int32))) m) :
    WPM G (d + 3) (0, 0) μX11_setMode [.ref (gB G + 293), .int x, .int y] m Q := by
  refine WPM.of pX11 (Nat.le_of_ble_eq_true rfl) rfl ?_
  refine wp_aload_n dX11_setMode_0 rfl ?_
  refine wp_iload_n dX11_setMode_1 rfl ?_
  refine wp_callV (As := [.int x]) (S := []) (b' := (0, 0)) (b := (0, 0)) dX11_setMode_2 MX11_125 (ka hF 293 (by decide)) rfl rfl rfl rfl (Nat.le_of_ble_eq_true rfl) ?_
  refine WPM.of pX11 (Nat.le_of_ble_eq_true rfl) rfl ?_
  refine wp_iload_n dX11_isHeater_0 rfl ?_
  refine wp_iconst (0 : Int32) dX11_isHeater_1 (by decide) ?_
  refine wp_aload_n dX11_isHeater_2 rfl ?_
  refine wp_getr (gB G + 294) dX11_isHeater_3 fX11_7 (ka hF 293 (by decide)) (hF.2 _ _) (rra 1 (isK_le (ka hF 293 (by decide))) (fun _ => rfl)) ?_
  refine wp_bipush (14 : Int32) dX11_isHeater_6 (by decide) ?_
  refine wp_ialdk (n := 1486) 14 (nI n) dX11_isHeater_8 (ka hF 294 (by decide)) (la 294) (vinl (by decide)) rfl hn ?_
  refine wp_iconst (1 : Int32) dX11_isHeater_9 (by decide) ?_
  refine wp_isubv ((nI n) - (1 : Int32)) dX11_isHeater_10 rfl ?_
  refine wp_callS (As := [.int x, .int (0 : Int32), .int ((nI n) - (1 : Int32))]) (S := []) (b' := (0, 0)) (b := (0, 0)) dX11_isHeater_11 MX11_67 rfl rfl (Nat.le_of_ble_eq_true rfl) ?_
  refine WPM.of pX11 (Nat.le_of_ble_eq_true rfl) rfl ?_
  refine wp_iload_n dX11_isBetween_0 rfl ?_
  refine wp_iload_n dX11_isBetween_1 rfl ?_
  refine wp_icmp_lt 14 dX11_isBetween_2 (by decide) (fun q => absurd q hx) (fun _ => ?_)
  refine wp_iload_n dX11_isBetween_5 rfl ?_
  refine wp_iload_n dX11_isBetween_6 rfl ?_
  refine wp_icmp_gt 14 dX11_isBetween_7 (by decide) (fun _ => ?_) (fun q => absurd (sub_lt (by omega) hx hy) q)
  refine wp_iconst (0 : Int32) dX11_isBetween_14 (by decide) ?_
  refine wp_zret dX11_isBetween_15 rfl rfl ?_
  show WP G (d + 2) (0, 0) μX11_isHeater 14 [.ref (gB G + 293), .int x] [.int (0 : Int32)] m _
  refine wp_zret dX11_isHeater_14 rfl rfl ?_
  show WP G (d + 3) (0, 0) μX11_setMode 5 [.ref (gB G + 293), .int x, .int y, lvU] [.int (0 : Int32)] m _
  refine wp_if_ne 11 dX11_setMode_5 (by decide) (fun q => absurd (by decide) q) (fun _ => ?_)
  refine wp_ldc dX11_setMode_8 kX11_96 ?_
  exact wp_iret dX11_setMode_10 rfl (e1)

theorem sM_setOrbit {G : Cx} {d : Nat} {m : Mm} {Q : Option Value → Mm → Prop} {x y z w u v : Int32}  (hF : Full G m) 
    (e1 : x < (1 : Int32) → Q (some (.int (-1000000002 : Int32))) m)
    (e2 : ¬ x < (1 : Int32) → (100000 : Int32) < x → Q (some (.int (-1000000002 : Int32))) m)
    (e3 : ¬ x < (1 : Int32) → ¬ (100000 : Int32) < x → y < (0 : Int32) → Q (some (.int (-1000000002 : Int32))) m)
    (e4 : ¬ x < (1 : Int32) → ¬ (100000 : Int32) < x → ¬ y < (0 : Int32) → x < y → Q (some (.int (-1000000002 : Int32))) m)
    (e5 : ¬ x < (1 : Int32) → ¬ (100000 : Int32) < x → ¬ y < (0 : Int32) → ¬ x < y → z < y → Q (some (.int (-1000000002 : Int32))) m)
    (e6 : ¬ x < (1 : Int32) → ¬ (100000 : Int32) < x → ¬ y < (0 : Int32) → ¬ x < y → ¬ z < y → x < z → Q (some (.int (-1000000002 : Int32))) m)
    (e7 : ¬ x < (1 : Int32) → ¬ (100000 : Int32) < x → ¬ y < (0 : Int32) → ¬ x < y → ¬ z < y → ¬ x < z → w < (0 : Int32) → Q (some (.int (-1000000002 : Int32))) m)
    (e8 : ¬ x < (1 : Int32) → ¬ (100000 : Int32) < x → ¬ y < (0 : Int32) → ¬ x < y → ¬ z < y → ¬ x < z → ¬ w < (0 : Int32) → (10000 : Int32) < w → Q (some (.int (-1000000002 : Int32))) m)
    (e9 : ¬ x < (1 : Int32) → ¬ (100000 : Int32) < x → ¬ y < (0 : Int32) → ¬ x < y → ¬ z < y → ¬ x < z → ¬ w < (0 : Int32) → ¬ (10000 : Int32) < w → u < (0 : Int32) → Q (some (.int (-1000000002 : Int32))) m)
    (e10 : ¬ x < (1 : Int32) → ¬ (100000 : Int32) < x → ¬ y < (0 : Int32) → ¬ x < y → ¬ z < y → ¬ x < z → ¬ w < (0 : Int32) → ¬ (10000 : Int32) < w → ¬ u < (0 : Int32) → (100 : Int32) < u → Q (some (.int (-1000000002 : Int32))) m)
    (e11 : ¬ x < (1 : Int32) → ¬ (100000 : Int32) < x → ¬ y < (0 : Int32) → ¬ x < y → ¬ z < y → ¬ x < z → ¬ w < (0 : Int32) → ¬ (10000 : Int32) < w → ¬ u < (0 : Int32) → ¬ (100 : Int32) < u → v < (0 : Int32) → Q (some (.int (-1000000002 : Int32))) m)
    (e12 : ¬ x < (1 : Int32) → ¬ (100000 : Int32) < x → ¬ y < (0 : Int32) → ¬ x < y → ¬ z < y → ¬ x < z → ¬ w < (0 : Int32) → ¬ (10000 : Int32) < w → ¬ u < (0 : Int32) → ¬ (100 : Int32) < u → ¬ v < (0 : Int32) → (10000 : Int32) < v → Q (some (.int (-1000000002 : Int32))) m)
    (e13 : ¬ x < (1 : Int32) → ¬ (100000 : Int32) < x → ¬ y < (0 : Int32) → ¬ x < y → ¬ z < y → ¬ x < z → ¬ w < (0 : Int32) → ¬ (10000 : Int32) < w → ¬ u < (0 : Int32) → ¬ (100 : Int32) < u → ¬ v < (0 : Int32) → ¬ (10000 : Int32) < v → Q (some (.int (0 : Int32))) (wai (wai (wai (wai (wai (wai m (gB G + 294) 2 x) (gB G + 294) 3 y) (gB G + 294) 4 z) (gB G + 294) 5 w) (gB G + 294) 6 u) (gB G + 294) 7 v)) :
    WPM G (d + 2) (0, 0) μX11_setOrbit [.ref (gB G + 293), .int x, .int y, .int z, .int w, .int u, .int v] m Q := by
  refine WPM.of pX11 (Nat.le_of_ble_eq_true rfl) rfl ?_
  refine wp_iload_n dX11_setOrbit_0 rfl ?_
  refine wp_iconst (1 : Int32) dX11_setOrbit_1 (by decide) ?_
  refine wp_ldc dX11_setOrbit_2 kX11_73 ?_
  refine wp_callS (As := [.int x, .int (1 : Int32), .int (100000 : Int32)]) (S := []) (b' := (0, 0)) (b := (0, 0)) dX11_setOrbit_4 MX11_67 rfl rfl (Nat.le_of_ble_eq_true rfl) ?_
  refine WPM.of pX11 (Nat.le_of_ble_eq_true rfl) rfl ?_
  refine wp_iload_n dX11_isBetween_0 rfl ?_
  refine wp_iload_n dX11_isBetween_1 rfl ?_
  refine wp_icmp_lt 14 dX11_isBetween_2 (by decide) (fun q1 => ?_) (fun q2 => ?_)
  · skip
    refine wp_iconst (0 : Int32) dX11_isBetween_14 (by decide) ?_
    refine wp_zret dX11_isBetween_15 rfl rfl ?_
    show WP G (d + 2) (0, 0) μX11_setOrbit 7 [.ref (gB G + 293), .int x, .int y, .int z, .int w, .int u, .int v, lvU] [.int (0 : Int32)] m _
    refine wp_if_eq 67 dX11_setOrbit_7 (by decide) (fun _ => ?_) (fun q => absurd (by decide) q)
    refine wp_iconst (0 : Int32) dX11_setOrbit_67 (by decide) ?_
    refine wp_istore dX11_setOrbit_68 (by decide) rfl ?_
    refine wp_iload dX11_setOrbit_70 rfl ?_
    refine wp_if_ne 78 dX11_setOrbit_72 (by decide) (fun q => absurd (by decide) q) (fun _ => ?_)
    refine wp_ldc dX11_setOrbit_75 kX11_79 ?_
    exact wp_iret dX11_setOrbit_77 rfl (e1 q1)
  · skip
    refine wp_iload_n dX11_isBetween_5 rfl ?_
    refine wp_iload_n dX11_isBetween_6 rfl ?_
    refine wp_icmp_gt 14 dX11_isBetween_7 (by decide) (fun q3 => ?_) (fun q4 => ?_)
    · skip
      refine wp_iconst (0 : Int32) dX11_isBetween_14 (by decide) ?_
      refine wp_zret dX11_isBetween_15 rfl rfl ?_
      show WP G (d + 2) (0, 0) μX11_setOrbit 7 [.ref (gB G + 293), .int x, .int y, .int z, .int w, .int u, .int v, lvU] [.int (0 : Int32)] m _
      refine wp_if_eq 67 dX11_setOrbit_7 (by decide) (fun _ => ?_) (fun q => absurd (by decide) q)
      refine wp_iconst (0 : Int32) dX11_setOrbit_67 (by decide) ?_
      refine wp_istore dX11_setOrbit_68 (by decide) rfl ?_
      refine wp_iload dX11_setOrbit_70 rfl ?_
      refine wp_if_ne 78 dX11_setOrbit_72 (by decide) (fun q => absurd (by decide) q) (fun _ => ?_)
      refine wp_ldc dX11_setOrbit_75 kX11_79 ?_
      exact wp_iret dX11_setOrbit_77 rfl (e2 q2 q3)
    · skip
      refine wp_iconst (1 : Int32) dX11_isBetween_10 (by decide) ?_
      refine wp_goto 15 dX11_isBetween_11 (by decide) ?_
      refine wp_zret dX11_isBetween_15 rfl rfl ?_
      show WP G (d + 2) (0, 0) μX11_setOrbit 7 [.ref (gB G + 293), .int x, .int y, .int z, .int w, .int u, .int v, lvU] [.int (1 : Int32)] m _
      refine wp_if_eq 67 dX11_setOrbit_7 (by decide) (fun q => absurd q (by decide)) (fun _ => ?_)
      refine wp_iload_n dX11_setOrbit_10 rfl ?_
      refine wp_iconst (0 : Int32) dX11_setOrbit_11 (by decide) ?_
      refine wp_iload_n dX11_setOrbit_12 rfl ?_
      refine wp_callS (As := [.int y, .int (0 : Int32), .int x]) (S := []) (b' := (0, 0)) (b := (0, 0)) dX11_setOrbit_13 MX11_67 rfl rfl (Nat.le_of_ble_eq_true rfl) ?_
      refine WPM.of pX11 (Nat.le_of_ble_eq_true rfl) rfl ?_
      refine wp_iload_n dX11_isBetween_0 rfl ?_
      refine wp_iload_n dX11_isBetween_1 rfl ?_
      refine wp_icmp_lt 14 dX11_isBetween_2 (by decide) (fun q5 => ?_) (fun q6 => ?_)
      · skip
        refine wp_iconst (0 : Int32) dX11_isBetween_14 (by decide) ?_
        refine wp_zret dX11_isBetween_15 rfl rfl ?_
        show WP G (d + 2) (0, 0) μX11_setOrbit 16 [.ref (gB G + 293), .int x, .int y, .int z, .int w, .int u, .int v, lvU] [.int (0 : Int32)] m _
        refine wp_if_eq 67 dX11_setOrbit_16 (by decide) (fun _ => ?_) (fun q => absurd (by decide) q)
        refine wp_iconst (0 : Int32) dX11_setOrbit_67 (by decide) ?_
        refine wp_istore dX11_setOrbit_68 (by decide) rfl ?_
        refine wp_iload dX11_setOrbit_70 rfl ?_
        refine wp_if_ne 78 dX11_setOrbit_72 (by decide) (fun q => absurd (by decide) q) (fun _ => ?_)
        refine wp_ldc dX11_setOrbit_75 kX11_79 ?_
        exact wp_iret dX11_setOrbit_77 rfl (e3 q2 q4 q5)
      · skip
        refine wp_iload_n dX11_isBetween_5 rfl ?_
        refine wp_iload_n dX11_isBetween_6 rfl ?_
        refine wp_icmp_gt 14 dX11_isBetween_7 (by decide) (fun q7 => ?_) (fun q8 => ?_)
        · skip
          refine wp_iconst (0 : Int32) dX11_isBetween_14 (by decide) ?_
          refine wp_zret dX11_isBetween_15 rfl rfl ?_
          show WP G (d + 2) (0, 0) μX11_setOrbit 16 [.ref (gB G + 293), .int x, .int y, .int z, .int w, .int u, .int v, lvU] [.int (0 : Int32)] m _
          refine wp_if_eq 67 dX11_setOrbit_16 (by decide) (fun _ => ?_) (fun q => absurd (by decide) q)
          refine wp_iconst (0 : Int32) dX11_setOrbit_67 (by decide) ?_
          refine wp_istore dX11_setOrbit_68 (by decide) rfl ?_
          refine wp_iload dX11_setOrbit_70 rfl ?_
          refine wp_if_ne 78 dX11_setOrbit_72 (by decide) (fun q => absurd (by decide) q) (fun _ => ?_)
          refine wp_ldc dX11_setOrbit_75 kX11_79 ?_
          exact wp_iret dX11_setOrbit_77 rfl (e4 q2 q4 q6 q7)
        · skip
          refine wp_iconst (1 : Int32) dX11_isBetween_10 (by decide) ?_
          refine wp_goto 15 dX11_isBetween_11 (by decide) ?_
          refine wp_zret dX11_isBetween_15 rfl rfl ?_
          show WP G (d + 2) (0, 0) μX11_setOrbit 16 [.ref (gB G + 293), .int x, .int y, .int z, .int w, .int u, .int v, lvU] [.int (1 : Int32)] m _
          refine wp_if_eq 67 dX11_setOrbit_16 (by decide) (fun q => absurd q (by decide)) (fun _ => ?_)
          refine wp_iload_n dX11_setOrbit_19 rfl ?_
          refine wp_iload_n dX11_setOrbit_20 rfl ?_
          refine wp_iload_n dX11_setOrbit_21 rfl ?_
          refine wp_callS (As := [.int z, .int y, .int x]) (S := []) (b' := (0, 0)) (b := (0, 0)) dX11_setOrbit_22 MX11_67 rfl rfl (Nat.le_of_ble_eq_true rfl) ?_
          refine WPM.of pX11 (Nat.le_of_ble_eq_true rfl) rfl ?_
          refine wp_iload_n dX11_isBetween_0 rfl ?_
          refine wp_iload_n dX11_isBetween_1 rfl ?_
          refine wp_icmp_lt 14 dX11_isBetween_2 (by decide) (fun q9 => ?_) (fun q10 => ?_)
          · skip
            refine wp_iconst (0 : Int32) dX11_isBetween_14 (by decide) ?_
            refine wp_zret dX11_isBetween_15 rfl rfl ?_
            show WP G (d + 2) (0, 0) μX11_setOrbit 25 [.ref (gB G + 293), .int x, .int y, .int z, .int w, .int u, .int v, lvU] [.int (0 : Int32)] m _
            refine wp_if_eq 67 dX11_setOrbit_25 (by decide) (fun _ => ?_) (fun q => absurd (by decide) q)
            refine wp_iconst (0 : Int32) dX11_setOrbit_67 (by decide) ?_
            refine wp_istore dX11_setOrbit_68 (by decide) rfl ?_
            refine wp_iload dX11_setOrbit_70 rfl ?_
            refine wp_if_ne 78 dX11_setOrbit_72 (by decide) (fun q => absurd (by decide) q) (fun _ => ?_)
            refine wp_ldc dX11_setOrbit_75 kX11_79 ?_
            exact wp_iret dX11_setOrbit_77 rfl (e5 q2 q4 q6 q8 q9)
          · skip
            refine wp_iload_n dX11_isBetween_5 rfl ?_
            refine wp_iload_n dX11_isBetween_6 rfl ?_
            refine wp_icmp_gt 14 dX11_isBetween_7 (by decide) (fun q11 => ?_) (fun q12 => ?_)
            · skip
              refine wp_iconst (0 : Int32) dX11_isBetween_14 (by decide) ?_
              refine wp_zret dX11_isBetween_15 rfl rfl ?_
              show WP G (d + 2) (0, 0) μX11_setOrbit 25 [.ref (gB G + 293), .int x, .int y, .int z, .int w, .int u, .int v, lvU] [.int (0 : Int32)] m _
              refine wp_if_eq 67 dX11_setOrbit_25 (by decide) (fun _ => ?_) (fun q => absurd (by decide) q)
              refine wp_iconst (0 : Int32) dX11_setOrbit_67 (by decide) ?_
              refine wp_istore dX11_setOrbit_68 (by decide) rfl ?_
              refine wp_iload dX11_setOrbit_70 rfl ?_
              refine wp_if_ne 78 dX11_setOrbit_72 (by decide) (fun q => absurd (by decide) q) (fun _ => ?_)
              refine wp_ldc dX11_setOrbit_75 kX11_79 ?_
              exact wp_iret dX11_setOrbit_77 rfl (e6 q2 q4 q6 q8 q10 q11)
            · skip
              refine wp_iconst (1 : Int32) dX11_isBetween_10 (by decide) ?_
              refine wp_goto 15 dX11_isBetween_11 (by decide) ?_
              refine wp_zret dX11_isBetween_15 rfl rfl ?_
              show WP G (d + 2) (0, 0) μX11_setOrbit 25 [.ref (gB G + 293), .int x, .int y, .int z, .int w, .int u, .int v, lvU] [.int (1 : Int32)] m _
              refine wp_if_eq 67 dX11_setOrbit_25 (by decide) (fun q => absurd q (by decide)) (fun _ => ?_)
              refine wp_iload dX11_setOrbit_28 rfl ?_
              refine wp_iconst (0 : Int32) dX11_setOrbit_30 (by decide) ?_
              refine wp_sipush (10000 : Int32) dX11_setOrbit_31 (by decide) ?_
              refine wp_callS (As := [.int w, .int (0 : Int32), .int (10000 : Int32)]) (S := []) (b' := (0, 0)) (b := (0, 0)) dX11_setOrbit_34 MX11_67 rfl rfl (Nat.le_of_ble_eq_true rfl) ?_
              refine WPM.of pX11 (Nat.le_of_ble_eq_true rfl) rfl ?_
              refine wp_iload_n dX11_isBetween_0 rfl ?_
              refine wp_iload_n dX11_isBetween_1 rfl ?_
              refine wp_icmp_lt 14 dX11_isBetween_2 (by decide) (fun q13 => ?_) (fun q14 => ?_)
              · skip
                refine wp_iconst (0 : Int32) dX11_isBetween_14 (by decide) ?_
                refine wp_zret dX11_isBetween_15 rfl rfl ?_
                show WP G (d + 2) (0, 0) μX11_setOrbit 37 [.ref (gB G + 293), .int x, .int y, .int z, .int w, .int u, .int v, lvU] [.int (0 : Int32)] m _
                refine wp_if_eq 67 dX11_setOrbit_37 (by decide) (fun _ => ?_) (fun q => absurd (by decide) q)
                refine wp_iconst (0 : Int32) dX11_setOrbit_67 (by decide) ?_
                refine wp_istore dX11_setOrbit_68 (by decide) rfl ?_
                refine wp_iload dX11_setOrbit_70 rfl ?_
                refine wp_if_ne 78 dX11_setOrbit_72 (by decide) (fun q => absurd (by decide) q) (fun _ => ?_)
                refine wp_ldc dX11_setOrbit_75 kX11_79 ?_
                exact wp_iret dX11_setOrbit_77 rfl (e7 q2 q4 q6 q8 q10 q12 q13)
              · skip
                refine wp_iload_n dX11_isBetween_5 rfl ?_
                refine wp_iload_n dX11_isBetween_6 rfl ?_
                refine wp_icmp_gt 14 dX11_isBetween_7 (by decide) (fun q15 => ?_) (fun q16 => ?_)
                · skip
                  refine wp_iconst (0 : Int32) dX11_isBetween_14 (by decide) ?_
                  refine wp_zret dX11_isBetween_15 rfl rfl ?_
                  show WP G (d + 2) (0, 0) μX11_setOrbit 37 [.ref (gB G + 293), .int x, .int y, .int z, .int w, .int u, .int v, lvU] [.int (0 : Int32)] m _
                  refine wp_if_eq 67 dX11_setOrbit_37 (by decide) (fun _ => ?_) (fun q => absurd (by decide) q)
                  refine wp_iconst (0 : Int32) dX11_setOrbit_67 (by decide) ?_
                  refine wp_istore dX11_setOrbit_68 (by decide) rfl ?_
                  refine wp_iload dX11_setOrbit_70 rfl ?_
                  refine wp_if_ne 78 dX11_setOrbit_72 (by decide) (fun q => absurd (by decide) q) (fun _ => ?_)
                  refine wp_ldc dX11_setOrbit_75 kX11_79 ?_
                  exact wp_iret dX11_setOrbit_77 rfl (e8 q2 q4 q6 q8 q10 q12 q14 q15)
                · skip
                  refine wp_iconst (1 : Int32) dX11_isBetween_10 (by decide) ?_
                  refine wp_goto 15 dX11_isBetween_11 (by decide) ?_
                  refine wp_zret dX11_isBetween_15 rfl rfl ?_
                  show WP G (d + 2) (0, 0) μX11_setOrbit 37 [.ref (gB G + 293), .int x, .int y, .int z, .int w, .int u, .int v, lvU] [.int (1 : Int32)] m _
                  refine wp_if_eq 67 dX11_setOrbit_37 (by decide) (fun q => absurd q (by decide)) (fun _ => ?_)
                  refine wp_iload dX11_setOrbit_40 rfl ?_
                  refine wp_iconst (0 : Int32) dX11_setOrbit_42 (by decide) ?_
                  refine wp_bipush (100 : Int32) dX11_setOrbit_43 (by decide) ?_
                  refine wp_callS (As := [.int u, .int (0 : Int32), .int (100 : Int32)]) (S := []) (b' := (0, 0)) (b := (0, 0)) dX11_setOrbit_45 MX11_67 rfl rfl (Nat.le_of_ble_eq_true rfl) ?_
                  refine WPM.of pX11 (Nat.le_of_ble_eq_true rfl) rfl ?_
                  refine wp_iload_n dX11_isBetween_0 rfl ?_
                  refine wp_iload_n dX11_isBetween_1 rfl ?_
                  refine wp_icmp_lt 14 dX11_isBetween_2 (by decide) (fun q17 => ?_) (fun q18 => ?_)
                  · skip
                    refine wp_iconst (0 : Int32) dX11_isBetween_14 (by decide) ?_
                    refine wp_zret dX11_isBetween_15 rfl rfl ?_
                    show WP G (d + 2) (0, 0) μX11_setOrbit 48 [.ref (gB G + 293), .int x, .int y, .int z, .int w, .int u, .int v, lvU] [.int (0 : Int32)] m _
                    refine wp_if_eq 67 dX11_setOrbit_48 (by decide) (fun _ => ?_) (fun q => absurd (by decide) q)
                    refine wp_iconst (0 : Int32) dX11_setOrbit_67 (by decide) ?_
                    refine wp_istore dX11_setOrbit_68 (by decide) rfl ?_
                    refine wp_iload dX11_setOrbit_70 rfl ?_
                    refine wp_if_ne 78 dX11_setOrbit_72 (by decide) (fun q => absurd (by decide) q) (fun _ => ?_)
                    refine wp_ldc dX11_setOrbit_75 kX11_79 ?_
                    exact wp_iret dX11_setOrbit_77 rfl (e9 q2 q4 q6 q8 q10 q12 q14 q16 q17)
                  · skip
                    refine wp_iload_n dX11_isBetween_5 rfl ?_
                    refine wp_iload_n dX11_isBetween_6 rfl ?_
                    refine wp_icmp_gt 14 dX11_isBetween_7 (by decide) (fun q19 => ?_) (fun q20 => ?_)
                    · skip
                      refine wp_iconst (0 : Int32) dX11_isBetween_14 (by decide) ?_
                      refine wp_zret dX11_isBetween_15 rfl rfl ?_
                      show WP G (d + 2) (0, 0) μX11_setOrbit 48 [.ref (gB G + 293), .int x, .int y, .int z, .int w, .int u, .int v, lvU] [.int (0 : Int32)] m _
                      refine wp_if_eq 67 dX11_setOrbit_48 (by decide) (fun _ => ?_) (fun q => absurd (by decide) q)
                      refine wp_iconst (0 : Int32) dX11_setOrbit_67 (by decide) ?_
                      refine wp_istore dX11_setOrbit_68 (by decide) rfl ?_
                      refine wp_iload dX11_setOrbit_70 rfl ?_
                      refine wp_if_ne 78 dX11_setOrbit_72 (by decide) (fun q => absurd (by decide) q) (fun _ => ?_)
                      refine wp_ldc dX11_setOrbit_75 kX11_79 ?_
                      exact wp_iret dX11_setOrbit_77 rfl (e10 q2 q4 q6 q8 q10 q12 q14 q16 q18 q19)
                    · skip
                      refine wp_iconst (1 : Int32) dX11_isBetween_10 (by decide) ?_
                      refine wp_goto 15 dX11_isBetween_11 (by decide) ?_
                      refine wp_zret dX11_isBetween_15 rfl rfl ?_
                      show WP G (d + 2) (0, 0) μX11_setOrbit 48 [.ref (gB G + 293), .int x, .int y, .int z, .int w, .int u, .int v, lvU] [.int (1 : Int32)] m _
                      refine wp_if_eq 67 dX11_setOrbit_48 (by decide) (fun q => absurd q (by decide)) (fun _ => ?_)
                      refine wp_iload dX11_setOrbit_51 rfl ?_
                      refine wp_iconst (0 : Int32) dX11_setOrbit_53 (by decide) ?_
                      refine wp_sipush (10000 : Int32) dX11_setOrbit_54 (by decide) ?_
                      refine wp_callS (As := [.int v, .int (0 : Int32), .int (10000 : Int32)]) (S := []) (b' := (0, 0)) (b := (0, 0)) dX11_setOrbit_57 MX11_67 rfl rfl (Nat.le_of_ble_eq_true rfl) ?_
                      refine WPM.of pX11 (Nat.le_of_ble_eq_true rfl) rfl ?_
                      refine wp_iload_n dX11_isBetween_0 rfl ?_
                      refine wp_iload_n dX11_isBetween_1 rfl ?_
                      refine wp_icmp_lt 14 dX11_isBetween_2 (by decide) (fun q21 => ?_) (fun q22 => ?_)
                      · skip
                        refine wp_iconst (0 : Int32) dX11_isBetween_14 (by decide) ?_
                        refine wp_zret dX11_isBetween_15 rfl rfl ?_
                        show WP G (d + 2) (0, 0) μX11_setOrbit 60 [.ref (gB G + 293), .int x, .int y, .int z, .int w, .int u, .int v, lvU] [.int (0 : Int32)] m _
                        refine wp_if_eq 67 dX11_setOrbit_60 (by decide) (fun _ => ?_) (fun q => absurd (by decide) q)
                        refine wp_iconst (0 : Int32) dX11_setOrbit_67 (by decide) ?_
                        refine wp_istore dX11_setOrbit_68 (by decide) rfl ?_
                        refine wp_iload dX11_setOrbit_70 rfl ?_
                        refine wp_if_ne 78 dX11_setOrbit_72 (by decide) (fun q => absurd (by decide) q) (fun _ => ?_)
                        refine wp_ldc dX11_setOrbit_75 kX11_79 ?_
                        exact wp_iret dX11_setOrbit_77 rfl (e11 q2 q4 q6 q8 q10 q12 q14 q16 q18 q20 q21)
                      · skip
                        refine wp_iload_n dX11_isBetween_5 rfl ?_
                        refine wp_iload_n dX11_isBetween_6 rfl ?_
                        refine wp_icmp_gt 14 dX11_isBetween_7 (by decide) (fun q23 => ?_) (fun q24 => ?_)
                        · skip
                          refine wp_iconst (0 : Int32) dX11_isBetween_14 (by decide) ?_
                          refine wp_zret dX11_isBetween_15 rfl rfl ?_
                          show WP G (d + 2) (0, 0) μX11_setOrbit 60 [.ref (gB G + 293), .int x, .int y, .int z, .int w, .int u, .int v, lvU] [.int (0 : Int32)] m _
                          refine wp_if_eq 67 dX11_setOrbit_60 (by decide) (fun _ => ?_) (fun q => absurd (by decide) q)
                          refine wp_iconst (0 : Int32) dX11_setOrbit_67 (by decide) ?_
                          refine wp_istore dX11_setOrbit_68 (by decide) rfl ?_
                          refine wp_iload dX11_setOrbit_70 rfl ?_
                          refine wp_if_ne 78 dX11_setOrbit_72 (by decide) (fun q => absurd (by decide) q) (fun _ => ?_)
                          refine wp_ldc dX11_setOrbit_75 kX11_79 ?_
                          exact wp_iret dX11_setOrbit_77 rfl (e12 q2 q4 q6 q8 q10 q12 q14 q16 q18 q20 q22 q23)
                        · skip
                          refine wp_iconst (1 : Int32) dX11_isBetween_10 (by decide) ?_
                          refine wp_goto 15 dX11_isBetween_11 (by decide) ?_
                          refine wp_zret dX11_isBetween_15 rfl rfl ?_
                          show WP G (d + 2) (0, 0) μX11_setOrbit 60 [.ref (gB G + 293), .int x, .int y, .int z, .int w, .int u, .int v, lvU] [.int (1 : Int32)] m _
                          refine wp_if_eq 67 dX11_setOrbit_60 (by decide) (fun q => absurd q (by decide)) (fun _ => ?_)
                          refine wp_iconst (1 : Int32) dX11_setOrbit_63 (by decide) ?_
                          refine wp_goto 68 dX11_setOrbit_64 (by decide) ?_
                          refine wp_istore dX11_setOrbit_68 (by decide) rfl ?_
                          refine wp_iload dX11_setOrbit_70 rfl ?_
                          refine wp_if_ne 78 dX11_setOrbit_72 (by decide) (fun _ => ?_) (fun q => absurd q (by decide))
                          refine wp_aload_n dX11_setOrbit_78 rfl ?_
                          refine wp_getr (gB G + 294) dX11_setOrbit_79 fX11_7 (ka hF 293 (by decide)) (hF.2 _ _) (rra 1 (isK_le (ka hF 293 (by decide))) (fun _ => rfl)) ?_
                          refine wp_iconst (2 : Int32) dX11_setOrbit_82 (by decide) ?_
                          refine wp_iload_n dX11_setOrbit_83 rfl ?_
                          refine wp_iastk (n := 1486) 2 dX11_setOrbit_84 (ka hF 294 (by decide)) (la 294) (vinl (by decide))  rfl ?_
                          have hF25 := Full_wai (gB G + 294) 2 x hF
                          refine wp_aload_n dX11_setOrbit_85 rfl ?_
                          refine wp_getr (gB G + 294) dX11_setOrbit_86 fX11_7 (ka hF25 293 (by decide)) (hF25.2 _ _) (rra 1 (isK_le (ka hF25 293 (by decide))) (fun _ => rfl)) ?_
                          refine wp_iconst (3 : Int32) dX11_setOrbit_89 (by decide) ?_
                          refine wp_iload_n dX11_setOrbit_90 rfl ?_
                          refine wp_iastk (n := 1486) 3 dX11_setOrbit_91 (ka hF25 294 (by decide)) (la 294) (vinl (by decide))  rfl ?_
                          have hF26 := Full_wai (gB G + 294) 3 y hF25
                          refine wp_aload_n dX11_setOrbit_92 rfl ?_
                          refine wp_getr (gB G + 294) dX11_setOrbit_93 fX11_7 (ka hF26 293 (by decide)) (hF26.2 _ _) (rra 1 (isK_le (ka hF26 293 (by decide))) (fun _ => rfl)) ?_
                          refine wp_iconst (4 : Int32) dX11_setOrbit_96 (by decide) ?_
                          refine wp_iload_n dX11_setOrbit_97 rfl ?_
                          refine wp_iastk (n := 1486) 4 dX11_setOrbit_98 (ka hF26 294 (by decide)) (la 294) (vinl (by decide))  rfl ?_
                          have hF27 := Full_wai (gB G + 294) 4 z hF26
                          refine wp_aload_n dX11_setOrbit_99 rfl ?_
                          refine wp_getr (gB G + 294) dX11_setOrbit_100 fX11_7 (ka hF27 293 (by decide)) (hF27.2 _ _) (rra 1 (isK_le (ka hF27 293 (by decide))) (fun _ => rfl)) ?_
                          refine wp_iconst (5 : Int32) dX11_setOrbit_103 (by decide) ?_
                          refine wp_iload dX11_setOrbit_104 rfl ?_
                          refine wp_iastk (n := 1486) 5 dX11_setOrbit_106 (ka hF27 294 (by decide)) (la 294) (vinl (by decide))  rfl ?_
                          have hF28 := Full_wai (gB G + 294) 5 w hF27
                          refine wp_aload_n dX11_setOrbit_107 rfl ?_
                          refine wp_getr (gB G + 294) dX11_setOrbit_108 fX11_7 (ka hF28 293 (by decide)) (hF28.2 _ _) (rra 1 (isK_le (ka hF28 293 (by decide))) (fun _ => rfl)) ?_
                          refine wp_bipush (6 : Int32) dX11_setOrbit_111 (by decide) ?_
                          refine wp_iload dX11_setOrbit_113 rfl ?_
                          refine wp_iastk (n := 1486) 6 dX11_setOrbit_115 (ka hF28 294 (by decide)) (la 294) (vinl (by decide))  rfl ?_
                          have hF29 := Full_wai (gB G + 294) 6 u hF28
                          refine wp_aload_n dX11_setOrbit_116 rfl ?_
                          refine wp_getr (gB G + 294) dX11_setOrbit_117 fX11_7 (ka hF29 293 (by decide)) (hF29.2 _ _) (rra 1 (isK_le (ka hF29 293 (by decide))) (fun _ => rfl)) ?_
                          refine wp_bipush (7 : Int32) dX11_setOrbit_120 (by decide) ?_
                          refine wp_iload dX11_setOrbit_122 rfl ?_
                          refine wp_iastk (n := 1486) 7 dX11_setOrbit_124 (ka hF29 294 (by decide)) (la 294) (vinl (by decide))  rfl ?_
                          have hF30 := Full_wai (gB G + 294) 7 v hF29
                          refine wp_iconst (0 : Int32) dX11_setOrbit_125 (by decide) ?_
                          exact wp_iret dX11_setOrbit_126 rfl (e13 q2 q4 q6 q8 q10 q12 q14 q16 q18 q20 q22 q24)

theorem sM_setPower {G : Cx} {d : Nat} {m : Mm} {Q : Option Value → Mm → Prop} {x y z w : Int32}  (hF : Full G m) 
    (e1 : x < (0 : Int32) → Q (some (.int (-1000000002 : Int32))) m)
    (e2 : ¬ x < (0 : Int32) → (1000000 : Int32) < x → Q (some (.int (-1000000002 : Int32))) m)
    (e3 : ¬ x < (0 : Int32) → ¬ (1000000 : Int32) < x → y < (0 : Int32) → Q (some (.int (-1000000002 : Int32))) m)
    (e4 : ¬ x < (0 : Int32) → ¬ (1000000 : Int32) < x → ¬ y < (0 : Int32) → (1000000 : Int32) < y → Q (some (.int (-1000000002 : Int32))) m)
    (e5 : ¬ x < (0 : Int32) → ¬ (1000000 : Int32) < x → ¬ y < (0 : Int32) → ¬ (1000000 : Int32) < y → z < (0 : Int32) → Q (some (.int (-1000000002 : Int32))) m)
    (e6 : ¬ x < (0 : Int32) → ¬ (1000000 : Int32) < x → ¬ y < (0 : Int32) → ¬ (1000000 : Int32) < y → ¬ z < (0 : Int32) → (1000000000 : Int32) < z → Q (some (.int (-1000000002 : Int32))) m)
    (e7 : ¬ x < (0 : Int32) → ¬ (1000000 : Int32) < x → ¬ y < (0 : Int32) → ¬ (1000000 : Int32) < y → ¬ z < (0 : Int32) → ¬ (1000000000 : Int32) < z → w < (0 : Int32) → Q (some (.int (-1000000002 : Int32))) m)
    (e8 : ¬ x < (0 : Int32) → ¬ (1000000 : Int32) < x → ¬ y < (0 : Int32) → ¬ (1000000 : Int32) < y → ¬ z < (0 : Int32) → ¬ (1000000000 : Int32) < z → ¬ w < (0 : Int32) → z < w → Q (some (.int (-1000000002 : Int32))) m)
    (e9 : ¬ x < (0 : Int32) → ¬ (1000000 : Int32) < x → ¬ y < (0 : Int32) → ¬ (1000000 : Int32) < y → ¬ z < (0 : Int32) → ¬ (1000000000 : Int32) < z → ¬ w < (0 : Int32) → ¬ z < w → Q (some (.int (0 : Int32))) (wai (wai (wai (wai m (gB G + 294) 8 x) (gB G + 294) 9 y) (gB G + 294) 10 z) (gB G + 294) 11 w)) :
    WPM G (d + 2) (0, 0) μX11_setPower [.ref (gB G + 293), .int x, .int y, .int z, .int w] m Q := by
  refine WPM.of pX11 (Nat.le_of_ble_eq_true rfl) rfl ?_
  refine wp_iload_n dX11_setPower_0 rfl ?_
  refine wp_iconst (0 : Int32) dX11_setPower_1 (by decide) ?_
  refine wp_ldc dX11_setPower_2 kX11_78 ?_
  refine wp_callS (As := [.int x, .int (0 : Int32), .int (1000000 : Int32)]) (S := []) (b' := (0, 0)) (b := (0, 0)) dX11_setPower_4 MX11_67 rfl rfl (Nat.le_of_ble_eq_true rfl) ?_
  refine WPM.of pX11 (Nat.le_of_ble_eq_true rfl) rfl ?_
  refine wp_iload_n dX11_isBetween_0 rfl ?_
  refine wp_iload_n dX11_isBetween_1 rfl ?_
  refine wp_icmp_lt 14 dX11_isBetween_2 (by decide) (fun q1 => ?_) (fun q2 => ?_)
  · skip
    refine wp_iconst (0 : Int32) dX11_isBetween_14 (by decide) ?_
    refine wp_zret dX11_isBetween_15 rfl rfl ?_
    show WP G (d + 2) (0, 0) μX11_setPower 7 [.ref (gB G + 293), .int x, .int y, .int z, .int w] [.int (0 : Int32)] m _
    refine wp_if_eq 40 dX11_setPower_7 (by decide) (fun _ => ?_) (fun q => absurd (by decide) q)
    refine wp_ldc dX11_setPower_40 kX11_79 ?_
    exact wp_iret dX11_setPower_42 rfl (e1 q1)
  · skip
    refine wp_iload_n dX11_isBetween_5 rfl ?_
    refine wp_iload_n dX11_isBetween_6 rfl ?_
    refine wp_icmp_gt 14 dX11_isBetween_7 (by decide) (fun q3 => ?_) (fun q4 => ?_)
    · skip
      refine wp_iconst (0 : Int32) dX11_isBetween_14 (by decide) ?_
      refine wp_zret dX11_isBetween_15 rfl rfl ?_
      show WP G (d + 2) (0, 0) μX11_setPower 7 [.ref (gB G + 293), .int x, .int y, .int z, .int w] [.int (0 : Int32)] m _
      refine wp_if_eq 40 dX11_setPower_7 (by decide) (fun _ => ?_) (fun q => absurd (by decide) q)
      refine wp_ldc dX11_setPower_40 kX11_79 ?_
      exact wp_iret dX11_setPower_42 rfl (e2 q2 q3)
    · skip
      refine wp_iconst (1 : Int32) dX11_isBetween_10 (by decide) ?_
      refine wp_goto 15 dX11_isBetween_11 (by decide) ?_
      refine wp_zret dX11_isBetween_15 rfl rfl ?_
      show WP G (d + 2) (0, 0) μX11_setPower 7 [.ref (gB G + 293), .int x, .int y, .int z, .int w] [.int (1 : Int32)] m _
      refine wp_if_eq 40 dX11_setPower_7 (by decide) (fun q => absurd q (by decide)) (fun _ => ?_)
      refine wp_iload_n dX11_setPower_10 rfl ?_
      refine wp_iconst (0 : Int32) dX11_setPower_11 (by decide) ?_
      refine wp_ldc dX11_setPower_12 kX11_78 ?_
      refine wp_callS (As := [.int y, .int (0 : Int32), .int (1000000 : Int32)]) (S := []) (b' := (0, 0)) (b := (0, 0)) dX11_setPower_14 MX11_67 rfl rfl (Nat.le_of_ble_eq_true rfl) ?_
      refine WPM.of pX11 (Nat.le_of_ble_eq_true rfl) rfl ?_
      refine wp_iload_n dX11_isBetween_0 rfl ?_
      refine wp_iload_n dX11_isBetween_1 rfl ?_
      refine wp_icmp_lt 14 dX11_isBetween_2 (by decide) (fun q5 => ?_) (fun q6 => ?_)
      · skip
        refine wp_iconst (0 : Int32) dX11_isBetween_14 (by decide) ?_
        refine wp_zret dX11_isBetween_15 rfl rfl ?_
        show WP G (d + 2) (0, 0) μX11_setPower 17 [.ref (gB G + 293), .int x, .int y, .int z, .int w] [.int (0 : Int32)] m _
        refine wp_if_eq 40 dX11_setPower_17 (by decide) (fun _ => ?_) (fun q => absurd (by decide) q)
        refine wp_ldc dX11_setPower_40 kX11_79 ?_
        exact wp_iret dX11_setPower_42 rfl (e3 q2 q4 q5)
      · skip
        refine wp_iload_n dX11_isBetween_5 rfl ?_
        refine wp_iload_n dX11_isBetween_6 rfl ?_
        refine wp_icmp_gt 14 dX11_isBetween_7 (by decide) (fun q7 => ?_) (fun q8 => ?_)
        · skip
          refine wp_iconst (0 : Int32) dX11_isBetween_14 (by decide) ?_
          refine wp_zret dX11_isBetween_15 rfl rfl ?_
          show WP G (d + 2) (0, 0) μX11_setPower 17 [.ref (gB G + 293), .int x, .int y, .int z, .int w] [.int (0 : Int32)] m _
          refine wp_if_eq 40 dX11_setPower_17 (by decide) (fun _ => ?_) (fun q => absurd (by decide) q)
          refine wp_ldc dX11_setPower_40 kX11_79 ?_
          exact wp_iret dX11_setPower_42 rfl (e4 q2 q4 q6 q7)
        · skip
          refine wp_iconst (1 : Int32) dX11_isBetween_10 (by decide) ?_
          refine wp_goto 15 dX11_isBetween_11 (by decide) ?_
          refine wp_zret dX11_isBetween_15 rfl rfl ?_
          show WP G (d + 2) (0, 0) μX11_setPower 17 [.ref (gB G + 293), .int x, .int y, .int z, .int w] [.int (1 : Int32)] m _
          refine wp_if_eq 40 dX11_setPower_17 (by decide) (fun q => absurd q (by decide)) (fun _ => ?_)
          refine wp_iload_n dX11_setPower_20 rfl ?_
          refine wp_iconst (0 : Int32) dX11_setPower_21 (by decide) ?_
          refine wp_ldc dX11_setPower_22 kX11_131 ?_
          refine wp_callS (As := [.int z, .int (0 : Int32), .int (1000000000 : Int32)]) (S := []) (b' := (0, 0)) (b := (0, 0)) dX11_setPower_24 MX11_67 rfl rfl (Nat.le_of_ble_eq_true rfl) ?_
          refine WPM.of pX11 (Nat.le_of_ble_eq_true rfl) rfl ?_
          refine wp_iload_n dX11_isBetween_0 rfl ?_
          refine wp_iload_n dX11_isBetween_1 rfl ?_
          refine wp_icmp_lt 14 dX11_isBetween_2 (by decide) (fun q9 => ?_) (fun q10 => ?_)
          · skip
            refine wp_iconst (0 : Int32) dX11_isBetween_14 (by decide) ?_
            refine wp_zret dX11_isBetween_15 rfl rfl ?_
            show WP G (d + 2) (0, 0) μX11_setPower 27 [.ref (gB G + 293), .int x, .int y, .int z, .int w] [.int (0 : Int32)] m _
            refine wp_if_eq 40 dX11_setPower_27 (by decide) (fun _ => ?_) (fun q => absurd (by decide) q)
            refine wp_ldc dX11_setPower_40 kX11_79 ?_
            exact wp_iret dX11_setPower_42 rfl (e5 q2 q4 q6 q8 q9)
          · skip
            refine wp_iload_n dX11_isBetween_5 rfl ?_
            refine wp_iload_n dX11_isBetween_6 rfl ?_
            refine wp_icmp_gt 14 dX11_isBetween_7 (by decide) (fun q11 => ?_) (fun q12 => ?_)
            · skip
              refine wp_iconst (0 : Int32) dX11_isBetween_14 (by decide) ?_
              refine wp_zret dX11_isBetween_15 rfl rfl ?_
              show WP G (d + 2) (0, 0) μX11_setPower 27 [.ref (gB G + 293), .int x, .int y, .int z, .int w] [.int (0 : Int32)] m _
              refine wp_if_eq 40 dX11_setPower_27 (by decide) (fun _ => ?_) (fun q => absurd (by decide) q)
              refine wp_ldc dX11_setPower_40 kX11_79 ?_
              exact wp_iret dX11_setPower_42 rfl (e6 q2 q4 q6 q8 q10 q11)
            · skip
              refine wp_iconst (1 : Int32) dX11_isBetween_10 (by decide) ?_
              refine wp_goto 15 dX11_isBetween_11 (by decide) ?_
              refine wp_zret dX11_isBetween_15 rfl rfl ?_
              show WP G (d + 2) (0, 0) μX11_setPower 27 [.ref (gB G + 293), .int x, .int y, .int z, .int w] [.int (1 : Int32)] m _
              refine wp_if_eq 40 dX11_setPower_27 (by decide) (fun q => absurd q (by decide)) (fun _ => ?_)
              refine wp_iload dX11_setPower_30 rfl ?_
              refine wp_iconst (0 : Int32) dX11_setPower_32 (by decide) ?_
              refine wp_iload_n dX11_setPower_33 rfl ?_
              refine wp_callS (As := [.int w, .int (0 : Int32), .int z]) (S := []) (b' := (0, 0)) (b := (0, 0)) dX11_setPower_34 MX11_67 rfl rfl (Nat.le_of_ble_eq_true rfl) ?_
              refine WPM.of pX11 (Nat.le_of_ble_eq_true rfl) rfl ?_
              refine wp_iload_n dX11_isBetween_0 rfl ?_
              refine wp_iload_n dX11_isBetween_1 rfl ?_
              refine wp_icmp_lt 14 dX11_isBetween_2 (by decide) (fun q13 => ?_) (fun q14 => ?_)
              · skip
                refine wp_iconst (0 : Int32) dX11_isBetween_14 (by decide) ?_
                refine wp_zret dX11_isBetween_15 rfl rfl ?_
                show WP G (d + 2) (0, 0) μX11_setPower 37 [.ref (gB G + 293), .int x, .int y, .int z, .int w] [.int (0 : Int32)] m _
                refine wp_if_ne 43 dX11_setPower_37 (by decide) (fun q => absurd (by decide) q) (fun _ => ?_)
                refine wp_ldc dX11_setPower_40 kX11_79 ?_
                exact wp_iret dX11_setPower_42 rfl (e7 q2 q4 q6 q8 q10 q12 q13)
              · skip
                refine wp_iload_n dX11_isBetween_5 rfl ?_
                refine wp_iload_n dX11_isBetween_6 rfl ?_
                refine wp_icmp_gt 14 dX11_isBetween_7 (by decide) (fun q15 => ?_) (fun q16 => ?_)
                · skip
                  refine wp_iconst (0 : Int32) dX11_isBetween_14 (by decide) ?_
                  refine wp_zret dX11_isBetween_15 rfl rfl ?_
                  show WP G (d + 2) (0, 0) μX11_setPower 37 [.ref (gB G + 293), .int x, .int y, .int z, .int w] [.int (0 : Int32)] m _
                  refine wp_if_ne 43 dX11_setPower_37 (by decide) (fun q => absurd (by decide) q) (fun _ => ?_)
                  refine wp_ldc dX11_setPower_40 kX11_79 ?_
                  exact wp_iret dX11_setPower_42 rfl (e8 q2 q4 q6 q8 q10 q12 q14 q15)
                · skip
                  refine wp_iconst (1 : Int32) dX11_isBetween_10 (by decide) ?_
                  refine wp_goto 15 dX11_isBetween_11 (by decide) ?_
                  refine wp_zret dX11_isBetween_15 rfl rfl ?_
                  show WP G (d + 2) (0, 0) μX11_setPower 37 [.ref (gB G + 293), .int x, .int y, .int z, .int w] [.int (1 : Int32)] m _
                  refine wp_if_ne 43 dX11_setPower_37 (by decide) (fun _ => ?_) (fun q => absurd q (by decide))
                  refine wp_aload_n dX11_setPower_43 rfl ?_
                  refine wp_getr (gB G + 294) dX11_setPower_44 fX11_7 (ka hF 293 (by decide)) (hF.2 _ _) (rra 1 (isK_le (ka hF 293 (by decide))) (fun _ => rfl)) ?_
                  refine wp_bipush (8 : Int32) dX11_setPower_47 (by decide) ?_
                  refine wp_iload_n dX11_setPower_49 rfl ?_
                  refine wp_iastk (n := 1486) 8 dX11_setPower_50 (ka hF 294 (by decide)) (la 294) (vinl (by decide))  rfl ?_
                  have hF17 := Full_wai (gB G + 294) 8 x hF
                  refine wp_aload_n dX11_setPower_51 rfl ?_
                  refine wp_getr (gB G + 294) dX11_setPower_52 fX11_7 (ka hF17 293 (by decide)) (hF17.2 _ _) (rra 1 (isK_le (ka hF17 293 (by decide))) (fun _ => rfl)) ?_
                  refine wp_bipush (9 : Int32) dX11_setPower_55 (by decide) ?_
                  refine wp_iload_n dX11_setPower_57 rfl ?_
                  refine wp_iastk (n := 1486) 9 dX11_setPower_58 (ka hF17 294 (by decide)) (la 294) (vinl (by decide))  rfl ?_
                  have hF18 := Full_wai (gB G + 294) 9 y hF17
                  refine wp_aload_n dX11_setPower_59 rfl ?_
                  refine wp_getr (gB G + 294) dX11_setPower_60 fX11_7 (ka hF18 293 (by decide)) (hF18.2 _ _) (rra 1 (isK_le (ka hF18 293 (by decide))) (fun _ => rfl)) ?_
                  refine wp_bipush (10 : Int32) dX11_setPower_63 (by decide) ?_
                  refine wp_iload_n dX11_setPower_65 rfl ?_
                  refine wp_iastk (n := 1486) 10 dX11_setPower_66 (ka hF18 294 (by decide)) (la 294) (vinl (by decide))  rfl ?_
                  have hF19 := Full_wai (gB G + 294) 10 z hF18
                  refine wp_aload_n dX11_setPower_67 rfl ?_
                  refine wp_getr (gB G + 294) dX11_setPower_68 fX11_7 (ka hF19 293 (by decide)) (hF19.2 _ _) (rra 1 (isK_le (ka hF19 293 (by decide))) (fun _ => rfl)) ?_
                  refine wp_bipush (11 : Int32) dX11_setPower_71 (by decide) ?_
                  refine wp_iload dX11_setPower_73 rfl ?_
                  refine wp_iastk (n := 1486) 11 dX11_setPower_75 (ka hF19 294 (by decide)) (la 294) (vinl (by decide))  rfl ?_
                  have hF20 := Full_wai (gB G + 294) 11 w hF19
                  refine wp_iconst (0 : Int32) dX11_setPower_76 (by decide) ?_
                  exact wp_iret dX11_setPower_77 rfl (e9 q2 q4 q6 q8 q10 q12 q14 q16)

theorem sM_setStepLength {G : Cx} {d : Nat} {m : Mm} {Q : Option Value → Mm → Prop} {x : Int32}  (hF : Full G m) 
    (e1 : x < (1 : Int32) → Q (some (.int (-1000000002 : Int32))) m)
    (e2 : ¬ x < (1 : Int32) → (60 : Int32) < x → Q (some (.int (-1000000002 : Int32))) m)
    (e3 : ¬ x < (1 : Int32) → ¬ (60 : Int32) < x → Q (some (.int (ai m (gB G + 294) 1))) (wai m (gB G + 294) 1 x)) :
    WPM G (d + 2) (0, 0) μX11_setStepLength [.ref (gB G + 293), .int x] m Q := by
  refine WPM.of pX11 (Nat.le_of_ble_eq_true rfl) rfl ?_
  refine wp_iload_n dX11_setStepLength_0 rfl ?_
  refine wp_iconst (1 : Int32) dX11_setStepLength_1 (by decide) ?_
  refine wp_bipush (60 : Int32) dX11_setStepLength_2 (by decide) ?_
  refine wp_callS (As := [.int x, .int (1 : Int32), .int (60 : Int32)]) (S := []) (b' := (0, 0)) (b := (0, 0)) dX11_setStepLength_4 MX11_67 rfl rfl (Nat.le_of_ble_eq_true rfl) ?_
  refine WPM.of pX11 (Nat.le_of_ble_eq_true rfl) rfl ?_
  refine wp_iload_n dX11_isBetween_0 rfl ?_
  refine wp_iload_n dX11_isBetween_1 rfl ?_
  refine wp_icmp_lt 14 dX11_isBetween_2 (by decide) (fun q1 => ?_) (fun q2 => ?_)
  · skip
    refine wp_iconst (0 : Int32) dX11_isBetween_14 (by decide) ?_
    refine wp_zret dX11_isBetween_15 rfl rfl ?_
    show WP G (d + 2) (0, 0) μX11_setStepLength 7 [.ref (gB G + 293), .int x, lvU] [.int (0 : Int32)] m _
    refine wp_if_ne 13 dX11_setStepLength_7 (by decide) (fun q => absurd (by decide) q) (fun _ => ?_)
    refine wp_ldc dX11_setStepLength_10 kX11_79 ?_
    exact wp_iret dX11_setStepLength_12 rfl (e1 q1)
  · skip
    refine wp_iload_n dX11_isBetween_5 rfl ?_
    refine wp_iload_n dX11_isBetween_6 rfl ?_
    refine wp_icmp_gt 14 dX11_isBetween_7 (by decide) (fun q3 => ?_) (fun q4 => ?_)
    · skip
      refine wp_iconst (0 : Int32) dX11_isBetween_14 (by decide) ?_
      refine wp_zret dX11_isBetween_15 rfl rfl ?_
      show WP G (d + 2) (0, 0) μX11_setStepLength 7 [.ref (gB G + 293), .int x, lvU] [.int (0 : Int32)] m _
      refine wp_if_ne 13 dX11_setStepLength_7 (by decide) (fun q => absurd (by decide) q) (fun _ => ?_)
      refine wp_ldc dX11_setStepLength_10 kX11_79 ?_
      exact wp_iret dX11_setStepLength_12 rfl (e2 q2 q3)
    · skip
      refine wp_iconst (1 : Int32) dX11_isBetween_10 (by decide) ?_
      refine wp_goto 15 dX11_isBetween_11 (by decide) ?_
      refine wp_zret dX11_isBetween_15 rfl rfl ?_
      show WP G (d + 2) (0, 0) μX11_setStepLength 7 [.ref (gB G + 293), .int x, lvU] [.int (1 : Int32)] m _
      refine wp_if_ne 13 dX11_setStepLength_7 (by decide) (fun _ => ?_) (fun q => absurd q (by decide))
      refine wp_aload_n dX11_setStepLength_13 rfl ?_
      refine wp_getr (gB G + 294) dX11_setStepLength_14 fX11_7 (ka hF 293 (by decide)) (hF.2 _ _) (rra 1 (isK_le (ka hF 293 (by decide))) (fun _ => rfl)) ?_
      refine wp_iconst (1 : Int32) dX11_setStepLength_17 (by decide) ?_
      refine wp_ialdk (n := 1486) 1 (ai m (gB G + 294) 1) dX11_setStepLength_18 (ka hF 294 (by decide)) (la 294) (vinl (by decide)) rfl rfl ?_
      refine wp_istore_n dX11_setStepLength_19 (by decide) rfl ?_
      refine wp_aload_n dX11_setStepLength_20 rfl ?_
      refine wp_getr (gB G + 294) dX11_setStepLength_21 fX11_7 (ka hF 293 (by decide)) (hF.2 _ _) (rra 1 (isK_le (ka hF 293 (by decide))) (fun _ => rfl)) ?_
      refine wp_iconst (1 : Int32) dX11_setStepLength_24 (by decide) ?_
      refine wp_iload_n dX11_setStepLength_25 rfl ?_
      refine wp_iastk (n := 1486) 1 dX11_setStepLength_26 (ka hF 294 (by decide)) (la 294) (vinl (by decide))  rfl ?_
      have hF5 := Full_wai (gB G + 294) 1 x hF
      refine wp_iload_n dX11_setStepLength_27 rfl ?_
      exact wp_iret dX11_setStepLength_28 rfl (e3 q2 q4)
