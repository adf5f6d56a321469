theorem sM_sun {G : Cx} {d : Nat} {m : Mm} {Q : Option Value → Mm → Prop}  (hF : Full G m) 
    (g1 : ¬ (ai m (gB G + 294) 2) = 0)
    (g2 : ¬ ((ai m (gB G + 294) 0) - (ai m (gB G + 294) 0) / (ai m (gB G + 294) 2) * (ai m (gB G + 294) 2)) < (ai m (gB G + 294) 3) → ¬ (ai m (gB G + 294) 2) = 0)
    (e1 : ((ai m (gB G + 294) 0) - (ai m (gB G + 294) 0) / (ai m (gB G + 294) 2) * (ai m (gB G + 294) 2)) < (ai m (gB G + 294) 3) → Q (some (.int (1 : Int32))) m)
    (e2 : ¬ ((ai m (gB G + 294) 0) - (ai m (gB G + 294) 0) / (ai m (gB G + 294) 2) * (ai m (gB G + 294) 2)) < (ai m (gB G + 294) 3) → ((ai m (gB G + 294) 0) - (ai m (gB G + 294) 0) / (ai m (gB G + 294) 2) * (ai m (gB G + 294) 2)) < (ai m (gB G + 294) 4) → Q (some (.int (0 : Int32))) m)
    (e3 : ¬ ((ai m (gB G + 294) 0) - (ai m (gB G + 294) 0) / (ai m (gB G + 294) 2) * (ai m (gB G + 294) 2)) < (ai m (gB G + 294) 3) → ¬ ((ai m (gB G + 294) 0) - (ai m (gB G + 294) 0) / (ai m (gB G + 294) 2) * (ai m (gB G + 294) 2)) < (ai m (gB G + 294) 4) → Q (some (.int (1 : Int32))) m) :
    WPM G (d + 2) (0, 0) μX11_isSunlit [.ref (gB G + 293)] m Q := by
  refine WPM.of pX11 (Nat.le_of_ble_eq_true rfl) rfl ?_
  refine wp_aload_n dX11_isSunlit_0 rfl ?_
  refine wp_callV (As := []) (S := []) (b' := (0, 0)) (b := (0, 0)) dX11_isSunlit_1 MX11_132 (ka hF 293 (by decide)) rfl rfl rfl rfl (Nat.le_of_ble_eq_true rfl) ?_
  refine WPM.of pX11 (Nat.le_of_ble_eq_true rfl) rfl ?_
  refine wp_aload_n dX11_phase_0 rfl ?_
  refine wp_getr (gB G + 294) dX11_phase_1 fX11_7 (ka hF 293 (by decide)) (hF.2 _ _) (rra 1 (isK_le (ka hF 293 (by decide))) (fun _ => rfl)) ?_
  refine wp_iconst (0 : Int32) dX11_phase_4 (by decide) ?_
  refine wp_ialdk (n := 1486) 0 (ai m (gB G + 294) 0) dX11_phase_5 (ka hF 294 (by decide)) (la 294) (vinl (by decide)) rfl rfl ?_
  refine wp_aload_n dX11_phase_6 rfl ?_
  refine wp_getr (gB G + 294) dX11_phase_7 fX11_7 (ka hF 293 (by decide)) (hF.2 _ _) (rra 1 (isK_le (ka hF 293 (by decide))) (fun _ => rfl)) ?_
  refine wp_iconst (2 : Int32) dX11_phase_10 (by decide) ?_
  refine wp_ialdk (n := 1486) 2 (ai m (gB G + 294) 2) dX11_phase_11 (ka hF 294 (by decide)) (la 294) (vinl (by decide)) rfl rfl ?_
  refine wp_irem dX11_phase_12 g1 ?_
  refine wp_iret dX11_phase_13 rfl ?_
  show WP G (d + 2) (0, 0) μX11_isSunlit 4 [.ref (gB G + 293)] [.int ((ai m (gB G + 294) 0) - (ai m (gB G + 294) 0) / (ai m (gB G + 294) 2) * (ai m (gB G + 294) 2))] m _
  refine wp_aload_n dX11_isSunlit_4 rfl ?_
  refine wp_getr (gB G + 294) dX11_isSunlit_5 fX11_7 (ka hF 293 (by decide)) (hF.2 _ _) (rra 1 (isK_le (ka hF 293 (by decide))) (fun _ => rfl)) ?_
  refine wp_iconst (3 : Int32) dX11_isSunlit_8 (by decide) ?_
  refine wp_ialdk (n := 1486) 3 (ai m (gB G + 294) 3) dX11_isSunlit_9 (ka hF 294 (by decide)) (la 294) (vinl (by decide)) rfl rfl ?_
  refine wp_icmp_lt 26 dX11_isSunlit_10 (by decide) (fun q1 => ?_) (fun q2 => ?_)
  · skip
    refine wp_iconst (1 : Int32) dX11_isSunlit_26 (by decide) ?_
    refine wp_goto 31 dX11_isSunlit_27 (by decide) ?_
    exact wp_zret dX11_isSunlit_31 rfl rfl (e1 q1)
  · skip
    refine wp_aload_n dX11_isSunlit_13 rfl ?_
    refine wp_callV (As := []) (S := []) (b' := (0, 0)) (b := (0, 0)) dX11_isSunlit_14 MX11_132 (ka hF 293 (by decide)) rfl rfl rfl rfl (Nat.le_of_ble_eq_true rfl) ?_
    refine WPM.of pX11 (Nat.le_of_ble_eq_true rfl) rfl ?_
    refine wp_aload_n dX11_phase_0 rfl ?_
    refine wp_getr (gB G + 294) dX11_phase_1 fX11_7 (ka hF 293 (by decide)) (hF.2 _ _) (rra 1 (isK_le (ka hF 293 (by decide))) (fun _ => rfl)) ?_
    refine wp_iconst (0 : Int32) dX11_phase_4 (by decide) ?_
    refine wp_ialdk (n := 1486) 0 (ai m (gB G + 294) 0) dX11_phase_5 (ka hF 294 (by decide)) (la 294) (vinl (by decide)) rfl rfl ?_
    refine wp_aload_n dX11_phase_6 rfl ?_
    refine wp_getr (gB G + 294) dX11_phase_7 fX11_7 (ka hF 293 (by decide)) (hF.2 _ _) (rra 1 (isK_le (ka hF 293 (by decide))) (fun _ => rfl)) ?_
    refine wp_iconst (2 : Int32) dX11_phase_10 (by decide) ?_
    refine wp_ialdk (n := 1486) 2 (ai m (gB G + 294) 2) dX11_phase_11 (ka hF 294 (by decide)) (la 294) (vinl (by decide)) rfl rfl ?_
    refine wp_irem dX11_phase_12 (g2 q2) ?_
    refine wp_iret dX11_phase_13 rfl ?_
    show WP G (d + 2) (0, 0) μX11_isSunlit 17 [.ref (gB G + 293)] [.int ((ai m (gB G + 294) 0) - (ai m (gB G + 294) 0) / (ai m (gB G + 294) 2) * (ai m (gB G + 294) 2))] m _
    refine wp_aload_n dX11_isSunlit_17 rfl ?_
    refine wp_getr (gB G + 294) dX11_isSunlit_18 fX11_7 (ka hF 293 (by decide)) (hF.2 _ _) (rra 1 (isK_le (ka hF 293 (by decide))) (fun _ => rfl)) ?_
    refine wp_iconst (4 : Int32) dX11_isSunlit_21 (by decide) ?_
    refine wp_ialdk (n := 1486) 4 (ai m (gB G + 294) 4) dX11_isSunlit_22 (ka hF 294 (by decide)) (la 294) (vinl (by decide)) rfl rfl ?_
    refine wp_icmp_lt 30 dX11_isSunlit_23 (by decide) (fun q3 => ?_) (fun q4 => ?_)
    · skip
      refine wp_iconst (0 : Int32) dX11_isSunlit_30 (by decide) ?_
      exact wp_zret dX11_isSunlit_31 rfl rfl (e2 q2 q3)
    · skip
      refine wp_iconst (1 : Int32) dX11_isSunlit_26 (by decide) ?_
      refine wp_goto 31 dX11_isSunlit_27 (by decide) ?_
      exact wp_zret dX11_isSunlit_31 rfl rfl (e3 q2 q4)

theorem eM_up {G : Cx} {d : Nat} {m : Mm} {Q : Option Value → Mm → Prop}  (hF : Full G m) 
    (e1 : WP G (d + 1) (0, 0) μX11_usedPower 4 [.ref (gB G + 293), .int (0 : Int32), .int (0 : Int32)] [] m Q) :
    WPM G (d + 1) (0, 0) μX11_usedPower [.ref (gB G + 293)] m Q := by
  refine WPM.of pX11 (Nat.le_of_ble_eq_true rfl) rfl ?_
  refine wp_iconst (0 : Int32) dX11_usedPower_0 (by decide) ?_
  refine wp_istore_n dX11_usedPower_1 (by decide) rfl ?_
  refine wp_iconst (0 : Int32) dX11_usedPower_2 (by decide) ?_
  refine wp_istore_n dX11_usedPower_3 (by decide) rfl ?_
  refine wp_forget [.ref (gB G + 293), .int (0 : Int32), .int (0 : Int32)] ⟨Or.inl rfl, Or.inl rfl, Or.inl rfl, trivial⟩ ?_
  exact e1

theorem bM_up {G : Cx} {d : Nat} {m : Mm} {Q : Option Value → Mm → Prop} {p : Int32} {h n : Nat} (hF : Full G m) (hn : ai m (gB G + 294) 14 = nI n) (h8 : n ≤ 8) (hh : h ≤ n)
    (e1 : ¬ h < n → Q (some (.int p)) m)
    (e2 : h < n → ¬ (ai m (gB G + 294) (8 * h + 345)) = (1 : Int32) → WP G (d + 1) (0, 0) μX11_usedPower 4 [.ref (gB G + 293), .int (p + (0 : Int32)), .int (nI (h + 1))] [] m Q)
    (e3 : h < n → (ai m (gB G + 294) (8 * h + 345)) = (1 : Int32) → WP G (d + 1) (0, 0) μX11_usedPower 4 [.ref (gB G + 293), .int (p + (ai m (gB G + 294) (8 * h + 339))), .int (nI (h + 1))] [] m Q) :
    WP G (d + 1) (0, 0) μX11_usedPower 4 [.ref (gB G + 293), .int p, .int (nI h)] [] m Q := by
  refine wp_iload_n dX11_usedPower_4 rfl ?_
  refine wp_aload_n dX11_usedPower_5 rfl ?_
  refine wp_getr (gB G + 294) dX11_usedPower_6 fX11_7 (ka hF 293 (by decide)) (hF.2 _ _) (rra 1 (isK_le (ka hF 293 (by decide))) (fun _ => rfl)) ?_
  refine wp_bipush (14 : Int32) dX11_usedPower_9 (by decide) ?_
  refine wp_ialdk (n := 1486) 14 (nI n) dX11_usedPower_11 (ka hF 294 (by decide)) (la 294) (vinl (by decide)) rfl hn ?_
  refine wp_icmp_ge 45 dX11_usedPower_12 (by decide) (fun q1 => ?_) (fun q2 => ?_)
  · have hp3 : ¬ h < n := (fun z => q1 (nlt_ z (by omega)))
    refine wp_iload_n dX11_usedPower_45 rfl ?_
    exact wp_iret dX11_usedPower_46 rfl (e1 hp3)
  · have hp4 : h < n := (nlt q2 (by omega) (by omega))
    refine wp_iload_n dX11_usedPower_15 rfl ?_
    refine wp_aload_n dX11_usedPower_16 rfl ?_
    refine wp_iload_n dX11_usedPower_17 rfl ?_
    refine wp_bipush (7 : Int32) dX11_usedPower_18 (by decide) ?_
    refine wp_callV (As := [.int (nI h), .int (7 : Int32)]) (S := [.int p]) (b' := (0, 0)) (b := (0, 0)) dX11_usedPower_20 MX11_128 (ka hF 293 (by decide)) rfl rfl rfl rfl (Nat.le_of_ble_eq_true rfl) ?_
    refine WPM.of pX11 (Nat.le_of_ble_eq_true rfl) rfl ?_
    refine wp_aload_n dX11_heater_0 rfl ?_
    refine wp_getr (gB G + 294) dX11_heater_1 fX11_7 (ka hF 293 (by decide)) (hF.2 _ _) (rra 1 (isK_le (ka hF 293 (by decide))) (fun _ => rfl)) ?_
    refine wp_sipush (338 : Int32) dX11_heater_4 (by decide) ?_
    refine wp_bipush (8 : Int32) dX11_heater_7 (by decide) ?_
    refine wp_iload_n dX11_heater_9 rfl ?_
    refine wp_imulv (nI (8 * h)) dX11_heater_10 (nmul (a := 8) (b := h) (by omega)) ?_
    refine wp_iaddv (nI (8 * h + 338)) dX11_heater_11 (nadd (a := 338) (b := 8 * h) (by omega)) ?_
    refine wp_iload_n dX11_heater_12 rfl ?_
    refine wp_iaddv (nI (8 * h + 345)) dX11_heater_13 (nadd (a := 8 * h + 338) (b := 7) (by omega)) ?_
    refine wp_ialdk (n := 1486) (8 * h + 345) (ai m (gB G + 294) (8 * h + 345)) dX11_heater_14 (ka hF 294 (by decide)) (la 294) (vin (by omega) (by decide)) (nIc (by omega)) rfl ?_
    refine wp_iret dX11_heater_15 rfl ?_
    show WP G (d + 1) (0, 0) μX11_usedPower 23 [.ref (gB G + 293), .int p, .int (nI h)] [.int (ai m (gB G + 294) (8 * h + 345)), .int p] m _
    refine wp_iconst (1 : Int32) dX11_usedPower_23 (by decide) ?_
    refine wp_icmp_ne 36 dX11_usedPower_24 (by decide) (fun q5 => ?_) (fun q6 => ?_)
    · skip
      refine wp_iconst (0 : Int32) dX11_usedPower_36 (by decide) ?_
      refine wp_iaddv (p + (0 : Int32)) dX11_usedPower_37 rfl ?_
      refine wp_istore_n dX11_usedPower_38 (by decide) rfl ?_
      refine wp_iinc (nI (h + 1)) dX11_usedPower_39 rfl (by decide) (nadd (a := h) (b := 1) (by omega)) rfl ?_
      refine wp_goto 4 dX11_usedPower_42 (by decide) ?_
      refine wp_forget [.ref (gB G + 293), .int (p + (0 : Int32)), .int (nI (h + 1))] ⟨Or.inl rfl, Or.inl rfl, Or.inl rfl, trivial⟩ ?_
      exact e2 hp4 q5
    · skip
      refine wp_aload_n dX11_usedPower_27 rfl ?_
      refine wp_iload_n dX11_usedPower_28 rfl ?_
      refine wp_iconst (1 : Int32) dX11_usedPower_29 (by decide) ?_
      refine wp_callV (As := [.int (nI h), .int (1 : Int32)]) (S := [.int p]) (b' := (0, 0)) (b := (0, 0)) dX11_usedPower_30 MX11_128 (ka hF 293 (by decide)) rfl rfl rfl rfl (Nat.le_of_ble_eq_true rfl) ?_
      refine WPM.of pX11 (Nat.le_of_ble_eq_true rfl) rfl ?_
      refine wp_aload_n dX11_heater_0 rfl ?_
      refine wp_getr (gB G + 294) dX11_heater_1 fX11_7 (ka hF 293 (by decide)) (hF.2 _ _) (rra 1 (isK_le (ka hF 293 (by decide))) (fun _ => rfl)) ?_
      refine wp_sipush (338 : Int32) dX11_heater_4 (by decide) ?_
      refine wp_bipush (8 : Int32) dX11_heater_7 (by decide) ?_
      refine wp_iload_n dX11_heater_9 rfl ?_
      refine wp_imulv (nI (8 * h)) dX11_heater_10 (nmul (a := 8) (b := h) (by omega)) ?_
      refine wp_iaddv (nI (8 * h + 338)) dX11_heater_11 (nadd (a := 338) (b := 8 * h) (by omega)) ?_
      refine wp_iload_n dX11_heater_12 rfl ?_
      refine wp_iaddv (nI (8 * h + 339)) dX11_heater_13 (nadd (a := 8 * h + 338) (b := 1) (by omega)) ?_
      refine wp_ialdk (n := 1486) (8 * h + 339) (ai m (gB G + 294) (8 * h + 339)) dX11_heater_14 (ka hF 294 (by decide)) (la 294) (vin (by omega) (by decide)) (nIc (by omega)) rfl ?_
      refine wp_iret dX11_heater_15 rfl ?_
      show WP G (d + 1) (0, 0) μX11_usedPower 33 [.ref (gB G + 293), .int p, .int (nI h)] [.int (ai m (gB G + 294) (8 * h + 339)), .int p] m _
      refine wp_goto 37 dX11_usedPower_33 (by decide) ?_
      refine wp_iaddv (p + (ai m (gB G + 294) (8 * h + 339))) dX11_usedPower_37 rfl ?_
      refine wp_istore_n dX11_usedPower_38 (by decide) rfl ?_
      refine wp_iinc (nI (h + 1)) dX11_usedPower_39 rfl (by decide) (nadd (a := h) (b := 1) (by omega)) rfl ?_
      refine wp_goto 4 dX11_usedPower_42 (by decide) ?_
      refine wp_forget [.ref (gB G + 293), .int (p + (ai m (gB G + 294) (8 * h + 339))), .int (nI (h + 1))] ⟨Or.inl rfl, Or.inl rfl, Or.inl rfl, trivial⟩ ?_
      exact e3 hp4 q6

theorem eM_em {G : Cx} {d : Nat} {m : Mm} {Q : Option Value → Mm → Prop} {i : Nat} (hF : Full G m) (hi : i < 12)
    (e1 : WP G (d + 1) (0, 0) μX11_emittedBy 11 [.ref (gB G + 293), .int (nI i), .long (Int32.toInt64 (ai m (gB G + 294) (11 * i + 22))), lvU, .int (0 : Int32), lvU] [] m Q) :
    WPM G (d + 1) (0, 0) μX11_emittedBy [.ref (gB G + 293), .int (nI i)] m Q := by
  refine WPM.of pX11 (Nat.le_of_ble_eq_true rfl) rfl ?_
  refine wp_aload_n dX11_emittedBy_0 rfl ?_
  refine wp_iload_n dX11_emittedBy_1 rfl ?_
  refine wp_iconst (2 : Int32) dX11_emittedBy_2 (by decide) ?_
  refine wp_callV (As := [.int (nI i), .int (2 : Int32)]) (S := []) (b' := (0, 0)) (b := (0, 0)) dX11_emittedBy_3 MX11_89 (ka hF 293 (by decide)) rfl rfl rfl rfl (Nat.le_of_ble_eq_true rfl) ?_
  refine WPM.of pX11 (Nat.le_of_ble_eq_true rfl) rfl ?_
  refine wp_aload_n dX11_node_0 rfl ?_
  refine wp_getr (gB G + 294) dX11_node_1 fX11_7 (ka hF 293 (by decide)) (hF.2 _ _) (rra 1 (isK_le (ka hF 293 (by decide))) (fun _ => rfl)) ?_
  refine wp_bipush (20 : Int32) dX11_node_4 (by decide) ?_
  refine wp_bipush (11 : Int32) dX11_node_6 (by decide) ?_
  refine wp_iload_n dX11_node_8 rfl ?_
  refine wp_imulv (nI (11 * i)) dX11_node_9 (nmul (a := 11) (b := i) (by omega)) ?_
  refine wp_iaddv (nI (11 * i + 20)) dX11_node_10 (nadd (a := 20) (b := 11 * i) (by omega)) ?_
  refine wp_iload_n dX11_node_11 rfl ?_
  refine wp_iaddv (nI (11 * i + 22)) dX11_node_12 (nadd (a := 11 * i + 20) (b := 2) (by omega)) ?_
  refine wp_ialdk (n := 1486) (11 * i + 22) (ai m (gB G + 294) (11 * i + 22)) dX11_node_13 (ka hF 294 (by decide)) (la 294) (vin (by omega) (by decide)) (nIc (by omega)) rfl ?_
  refine wp_iret dX11_node_14 rfl ?_
  show WP G (d + 1) (0, 0) μX11_emittedBy 6 [.ref (gB G + 293), .int (nI i), lvU, lvU, lvU, lvU] [.int (ai m (gB G + 294) (11 * i + 22))] m _
  refine wp_i2l dX11_emittedBy_6 ?_
  refine wp_lstore_n dX11_emittedBy_7 (by decide) rfl ?_
  refine wp_iconst (0 : Int32) dX11_emittedBy_8 (by decide) ?_
  refine wp_istore dX11_emittedBy_9 (by decide) rfl ?_
  refine wp_forget [.ref (gB G + 293), .int (nI i), .long (Int32.toInt64 (ai m (gB G + 294) (11 * i + 22))), lvU, .int (0 : Int32), lvU] ⟨Or.inl rfl, Or.inl rfl, Or.inl rfl, Or.inr rfl, Or.inl rfl, Or.inr rfl, trivial⟩ ?_
  exact e1

theorem bM_em {G : Cx} {d : Nat} {m : Mm} {Q : Option Value → Mm → Prop} {a : Int64} {i l n o : Nat} (hF : Full G m) (hi : i < 12) (hn : ai m (gB G + 294) 13 = nI n) (h6 : n ≤ 6) (hl : l ≤ n) (ho : l < n → ai m (gB G + 294) (7 * l + 296) = nI o) (h12 : o < 12)
    (e1 : ¬ l < n → Q (some (.long ((((((a * (Int32.toInt64 (((ai m (gB G + 294) (11 * i + 21)) + (273150 : Int32)) / (1000 : Int32)))) * (Int32.toInt64 (((ai m (gB G + 294) (11 * i + 21)) + (273150 : Int32)) / (1000 : Int32)))) * (Int32.toInt64 (((ai m (gB G + 294) (11 * i + 21)) + (273150 : Int32)) / (1000 : Int32)))) * (Int32.toInt64 (((ai m (gB G + 294) (11 * i + 21)) + (273150 : Int32)) / (1000 : Int32)))) * (567 : Int64)) / (100000000000 : Int64)))) m)
    (e2 : l < n → ¬ o = i → WP G (d + 1) (0, 0) μX11_emittedBy 11 [.ref (gB G + 293), .int (nI i), .long (a + (0 : Int64)), lvU, .int (nI (l + 1)), lvU] [] m Q)
    (e3 : l < n → o = i → WP G (d + 1) (0, 0) μX11_emittedBy 11 [.ref (gB G + 293), .int (nI i), .long (a + (Int32.toInt64 (((ai m (gB G + 294) (7 * l + 297)) * (ai m (gB G + 294) (7 * l + 301))) / (1000 : Int32)))), lvU, .int (nI (l + 1)), lvU] [] m Q) :
    WP G (d + 1) (0, 0) μX11_emittedBy 11 [.ref (gB G + 293), .int (nI i), .long a, lvU, .int (nI l), lvU] [] m Q := by
  refine wp_iload dX11_emittedBy_11 rfl ?_
  refine wp_aload_n dX11_emittedBy_13 rfl ?_
  refine wp_getr (gB G + 294) dX11_emittedBy_14 fX11_7 (ka hF 293 (by decide)) (hF.2 _ _) (rra 1 (isK_le (ka hF 293 (by decide))) (fun _ => rfl)) ?_
  refine wp_bipush (13 : Int32) dX11_emittedBy_17 (by decide) ?_
  refine wp_ialdk (n := 1486) 13 (nI n) dX11_emittedBy_19 (ka hF 294 (by decide)) (la 294) (vinl (by decide)) rfl hn ?_
  refine wp_icmp_ge 67 dX11_emittedBy_20 (by decide) (fun q1 => ?_) (fun q2 => ?_)
  · have hp3 : ¬ l < n := (fun z => q1 (nlt_ z (by omega)))
    refine wp_aload_n dX11_emittedBy_67 rfl ?_
    refine wp_iload_n dX11_emittedBy_68 rfl ?_
    refine wp_iconst (1 : Int32) dX11_emittedBy_69 (by decide) ?_
    refine wp_callV (As := [.int (nI i), .int (1 : Int32)]) (S := []) (b' := (0, 0)) (b := (0, 0)) dX11_emittedBy_70 MX11_89 (ka hF 293 (by decide)) rfl rfl rfl rfl (Nat.le_of_ble_eq_true rfl) ?_
    refine WPM.of pX11 (Nat.le_of_ble_eq_true rfl) rfl ?_
    refine wp_aload_n dX11_node_0 rfl ?_
    refine wp_getr (gB G + 294) dX11_node_1 fX11_7 (ka hF 293 (by decide)) (hF.2 _ _) (rra 1 (isK_le (ka hF 293 (by decide))) (fun _ => rfl)) ?_
    refine wp_bipush (20 : Int32) dX11_node_4 (by decide) ?_
    refine wp_bipush (11 : Int32) dX11_node_6 (by decide) ?_
    refine wp_iload_n dX11_node_8 rfl ?_
    refine wp_imulv (nI (11 * i)) dX11_node_9 (nmul (a := 11) (b := i) (by omega)) ?_
    refine wp_iaddv (nI (11 * i + 20)) dX11_node_10 (nadd (a := 20) (b := 11 * i) (by omega)) ?_
    refine wp_iload_n dX11_node_11 rfl ?_
    refine wp_iaddv (nI (11 * i + 21)) dX11_node_12 (nadd (a := 11 * i + 20) (b := 1) (by omega)) ?_
    refine wp_ialdk (n := 1486) (11 * i + 21) (ai m (gB G + 294) (11 * i + 21)) dX11_node_13 (ka hF 294 (by decide)) (la 294) (vin (by omega) (by decide)) (nIc (by omega)) rfl ?_
    refine wp_iret dX11_node_14 rfl ?_
    show WP G (d + 1) (0, 0) μX11_emittedBy 73 [.ref (gB G + 293), .int (nI i), .long a, lvU, .int (nI l), lvU] [.int (ai m (gB G + 294) (11 * i + 21))] m _
    refine wp_ldc dX11_emittedBy_73 kX11_187 ?_
    refine wp_iaddv ((ai m (gB G + 294) (11 * i + 21)) + (273150 : Int32)) dX11_emittedBy_75 rfl ?_
    refine wp_sipush (1000 : Int32) dX11_emittedBy_76 (by decide) ?_
    refine wp_idiv dX11_emittedBy_79 (by decide) ?_
    refine wp_i2l dX11_emittedBy_80 ?_
    refine wp_lstore dX11_emittedBy_81 (by decide) rfl ?_
    refine wp_lload_n dX11_emittedBy_83 rfl ?_
    refine wp_lload dX11_emittedBy_84 rfl ?_
    refine wp_lmul dX11_emittedBy_86 ?_
    refine wp_lload dX11_emittedBy_87 rfl ?_
    refine wp_lmul dX11_emittedBy_89 ?_
    refine wp_lload dX11_emittedBy_90 rfl ?_
    refine wp_lmul dX11_emittedBy_92 ?_
    refine wp_lload dX11_emittedBy_93 rfl ?_
    refine wp_lmul dX11_emittedBy_95 ?_
    refine wp_ldc2 dX11_emittedBy_96 kX11_188 ?_
    refine wp_lmul dX11_emittedBy_99 ?_
    refine wp_ldc2 dX11_emittedBy_100 kX11_190 ?_
    refine wp_ldiv dX11_emittedBy_103 (by decide) ?_
    exact wp_lret dX11_emittedBy_104 rfl (e1 hp3)
  · have hp4 : l < n := (nlt q2 (by omega) (by omega))
    refine wp_lload_n dX11_emittedBy_23 rfl ?_
    refine wp_aload_n dX11_emittedBy_24 rfl ?_
    refine wp_iload dX11_emittedBy_25 rfl ?_
    refine wp_iconst (0 : Int32) dX11_emittedBy_27 (by decide) ?_
    refine wp_callV (As := [.int (nI l), .int (0 : Int32)]) (S := [.long a]) (b' := (0, 0)) (b := (0, 0)) dX11_emittedBy_28 MX11_112 (ka hF 293 (by decide)) rfl rfl rfl rfl (Nat.le_of_ble_eq_true rfl) ?_
    refine WPM.of pX11 (Nat.le_of_ble_eq_true rfl) rfl ?_
    refine wp_aload_n dX11_louvre_0 rfl ?_
    refine wp_getr (gB G + 294) dX11_louvre_1 fX11_7 (ka hF 293 (by decide)) (hF.2 _ _) (rra 1 (isK_le (ka hF 293 (by decide))) (fun _ => rfl)) ?_
    refine wp_sipush (296 : Int32) dX11_louvre_4 (by decide) ?_
    refine wp_bipush (7 : Int32) dX11_louvre_7 (by decide) ?_
    refine wp_iload_n dX11_louvre_9 rfl ?_
    refine wp_imulv (nI (7 * l)) dX11_louvre_10 (nmul (a := 7) (b := l) (by omega)) ?_
    refine wp_iaddv (nI (7 * l + 296)) dX11_louvre_11 (nadd (a := 296) (b := 7 * l) (by omega)) ?_
    refine wp_iload_n dX11_louvre_12 rfl ?_
    refine wp_iaddv (nI (7 * l + 296)) dX11_louvre_13 (nadd (a := 7 * l + 296) (b := 0) (by omega)) ?_
    refine wp_ialdk (n := 1486) (7 * l + 296) (nI o) dX11_louvre_14 (ka hF 294 (by decide)) (la 294) (vin (by omega) (by decide)) (nIc (by omega)) (ho (by omega)) ?_
    refine wp_iret dX11_louvre_15 rfl ?_
    show WP G (d + 1) (0, 0) μX11_emittedBy 31 [.ref (gB G + 293), .int (nI i), .long a, lvU, .int (nI l), lvU] [.int (nI o), .long a] m _
    refine wp_iload_n dX11_emittedBy_31 rfl ?_
    refine wp_icmp_ne 58 dX11_emittedBy_32 (by decide) (fun q5 => ?_) (fun q6 => ?_)
    · have hp7 : ¬ o = i := (fun z => q5 (congrArg nI z))
      refine wp_lconst (0 : Int64) dX11_emittedBy_58 (by decide) ?_
      refine wp_ladd dX11_emittedBy_59 ?_
      refine wp_lstore_n dX11_emittedBy_60 (by decide) rfl ?_
      refine wp_iinc (nI (l + 1)) dX11_emittedBy_61 rfl (by decide) (nadd (a := l) (b := 1) (by omega)) rfl ?_
      refine wp_goto 11 dX11_emittedBy_64 (by decide) ?_
      refine wp_forget [.ref (gB G + 293), .int (nI i), .long (a + (0 : Int64)), lvU, .int (nI (l + 1)), lvU] ⟨Or.inl rfl, Or.inl rfl, Or.inl rfl, Or.inr rfl, Or.inl rfl, Or.inr rfl, trivial⟩ ?_
      exact e2 hp4 hp7
    · have hp8 : o = i := (neq q6 (by omega) (by omega))
      refine wp_aload_n dX11_emittedBy_35 rfl ?_
      refine wp_iload dX11_emittedBy_36 rfl ?_
      refine wp_iconst (1 : Int32) dX11_emittedBy_38 (by decide) ?_
      refine wp_callV (As := [.int (nI l), .int (1 : Int32)]) (S := [.long a]) (b' := (0, 0)) (b := (0, 0)) dX11_emittedBy_39 MX11_112 (ka hF 293 (by decide)) rfl rfl rfl rfl (Nat.le_of_ble_eq_true rfl) ?_
      refine WPM.of pX11 (Nat.le_of_ble_eq_true rfl) rfl ?_
      refine wp_aload_n dX11_louvre_0 rfl ?_
      refine wp_getr (gB G + 294) dX11_louvre_1 fX11_7 (ka hF 293 (by decide)) (hF.2 _ _) (rra 1 (isK_le (ka hF 293 (by decide))) (fun _ => rfl)) ?_
      refine wp_sipush (296 : Int32) dX11_louvre_4 (by decide) ?_
      refine wp_bipush (7 : Int32) dX11_louvre_7 (by decide) ?_
      refine wp_iload_n dX11_louvre_9 rfl ?_
      refine wp_imulv (nI (7 * l)) dX11_louvre_10 (nmul (a := 7) (b := l) (by omega)) ?_
      refine wp_iaddv (nI (7 * l + 296)) dX11_louvre_11 (nadd (a := 296) (b := 7 * l) (by omega)) ?_
      refine wp_iload_n dX11_louvre_12 rfl ?_
      refine wp_iaddv (nI (7 * l + 297)) dX11_louvre_13 (nadd (a := 7 * l + 296) (b := 1) (by omega)) ?_
      refine wp_ialdk (n := 1486) (7 * l + 297) (ai m (gB G + 294) (7 * l + 297)) dX11_louvre_14 (ka hF 294 (by decide)) (la 294) (vin (by omega) (by decide)) (nIc (by omega)) rfl ?_
      refine wp_iret dX11_louvre_15 rfl ?_
      show WP G (d + 1) (0, 0) μX11_emittedBy 42 [.ref (gB G + 293), .int (nI i), .long a, lvU, .int (nI l), lvU] [.int (ai m (gB G + 294) (7 * l + 297)), .long a] m _
      refine wp_aload_n dX11_emittedBy_42 rfl ?_
      refine wp_iload dX11_emittedBy_43 rfl ?_
      refine wp_iconst (5 : Int32) dX11_emittedBy_45 (by decide) ?_
      refine wp_callV (As := [.int (nI l), .int (5 : Int32)]) (S := [.int (ai m (gB G + 294) (7 * l + 297)), .long a]) (b' := (0, 0)) (b := (0, 0)) dX11_emittedBy_46 MX11_112 (ka hF 293 (by decide)) rfl rfl rfl rfl (Nat.le_of_ble_eq_true rfl) ?_
      refine WPM.of pX11 (Nat.le_of_ble_eq_true rfl) rfl ?_
      refine wp_aload_n dX11_louvre_0 rfl ?_
      refine wp_getr (gB G + 294) dX11_louvre_1 fX11_7 (ka hF 293 (by decide)) (hF.2 _ _) (rra 1 (isK_le (ka hF 293 (by decide))) (fun _ => rfl)) ?_
      refine wp_sipush (296 : Int32) dX11_louvre_4 (by decide) ?_
      refine wp_bipush (7 : Int32) dX11_louvre_7 (by decide) ?_
      refine wp_iload_n dX11_louvre_9 rfl ?_
      refine wp_imulv (nI (7 * l)) dX11_louvre_10 (nmul (a := 7) (b := l) (by omega)) ?_
      refine wp_iaddv (nI (7 * l + 296)) dX11_louvre_11 (nadd (a := 296) (b := 7 * l) (by omega)) ?_
      refine wp_iload_n dX11_louvre_12 rfl ?_
      refine wp_iaddv (nI (7 * l + 301)) dX11_louvre_13 (nadd (a := 7 * l + 296) (b := 5) (by omega)) ?_
      refine wp_ialdk (n := 1486) (7 * l + 301) (ai m (gB G + 294) (7 * l + 301)) dX11_louvre_14 (ka hF 294 (by decide)) (la 294) (vin (by omega) (by decide)) (nIc (by omega)) rfl ?_
      refine wp_iret dX11_louvre_15 rfl ?_
      show WP G (d + 1) (0, 0) μX11_emittedBy 49 [.ref (gB G + 293), .int (nI i), .long a, lvU, .int (nI l), lvU] [.int (ai m (gB G + 294) (7 * l + 301)), .int (ai m (gB G + 294) (7 * l + 297)), .long a] m _
      refine wp_imulv ((ai m (gB G + 294) (7 * l + 297)) * (ai m (gB G + 294) (7 * l + 301))) dX11_emittedBy_49 rfl ?_
      refine wp_sipush (1000 : Int32) dX11_emittedBy_50 (by decide) ?_
      refine wp_idiv dX11_emittedBy_53 (by decide) ?_
      refine wp_i2l dX11_emittedBy_54 ?_
      refine wp_goto 59 dX11_emittedBy_55 (by decide) ?_
      refine wp_ladd dX11_emittedBy_59 ?_
      refine wp_lstore_n dX11_emittedBy_60 (by decide) rfl ?_
      refine wp_iinc (nI (l + 1)) dX11_emittedBy_61 rfl (by decide) (nadd (a := l) (b := 1) (by omega)) rfl ?_
      refine wp_goto 11 dX11_emittedBy_64 (by decide) ?_
      refine wp_forget [.ref (gB G + 293), .int (nI i), .long (a + (Int32.toInt64 (((ai m (gB G + 294) (7 * l + 297)) * (ai m (gB G + 294) (7 * l + 301))) / (1000 : Int32)))), lvU, .int (nI (l + 1)), lvU] ⟨Or.inl rfl, Or.inl rfl, Or.inl rfl, Or.inr rfl, Or.inl rfl, Or.inr rfl, trivial⟩ ?_
      exact e3 hp4 hp8

theorem eM_cd {G : Cx} {d : Nat} {m : Mm} {Q : Option Value → Mm → Prop} {i : Nat} (hF : Full G m) (hi : i < 12)
    (e1 : WP G (d + 1) (0, 0) μX11_conductedTo 5 [.ref (gB G + 293), .int (nI i), .long (0 : Int64), lvU, .int (0 : Int32), lvU, lvU] [] m Q) :
    WPM G (d + 1) (0, 0) μX11_conductedTo [.ref (gB G + 293), .int (nI i)] m Q := by
  refine WPM.of pX11 (Nat.le_of_ble_eq_true rfl) rfl ?_
  refine wp_lconst (0 : Int64) dX11_conductedTo_0 (by decide) ?_
  refine wp_lstore_n dX11_conductedTo_1 (by decide) rfl ?_
  refine wp_iconst (0 : Int32) dX11_conductedTo_2 (by decide) ?_
  refine wp_istore dX11_conductedTo_3 (by decide) rfl ?_
  refine wp_forget [.ref (gB G + 293), .int (nI i), .long (0 : Int64), lvU, .int (0 : Int32), lvU, lvU] ⟨Or.inl rfl, Or.inl rfl, Or.inl rfl, Or.inr rfl, Or.inl rfl, Or.inr rfl, Or.inr rfl, trivial⟩ ?_
  exact e1

theorem bM_cd {G : Cx} {d : Nat} {m : Mm} {Q : Option Value → Mm → Prop} {a : Int64} {i j n : Nat} (hF : Full G m) (hi : i < 12) (hn : ai m (gB G + 294) 12 = nI n) (h12 : n ≤ 12) (hj : j ≤ n)
    (e1 : ¬ j < n → Q (some (.long a)) m)
    (e2 : j < n → WP G (d + 1) (0, 0) μX11_conductedTo 5 [.ref (gB G + 293), .int (nI i), .long (a + (((Int32.toInt64 (ai m (gB G + 294) (12 * i + j + 152))) * (Int32.toInt64 ((ai m (gB G + 294) (11 * j + 21)) - (ai m (gB G + 294) (11 * i + 21))))) / (1000 : Int64))), lvU, .int (nI (j + 1)), lvU, lvU] [] m Q) :
    WP G (d + 1) (0, 0) μX11_conductedTo 5 [.ref (gB G + 293), .int (nI i), .long a, lvU, .int (nI j), lvU, lvU] [] m Q := by
  refine wp_iload dX11_conductedTo_5 rfl ?_
  refine wp_aload_n dX11_conductedTo_7 rfl ?_
  refine wp_getr (gB G + 294) dX11_conductedTo_8 fX11_7 (ka hF 293 (by decide)) (hF.2 _ _) (rra 1 (isK_le (ka hF 293 (by decide))) (fun _ => rfl)) ?_
  refine wp_bipush (12 : Int32) dX11_conductedTo_11 (by decide) ?_
  refine wp_ialdk (n := 1486) 12 (nI n) dX11_conductedTo_13 (ka hF 294 (by decide)) (la 294) (vinl (by decide)) rfl hn ?_
  refine wp_icmp_ge 58 dX11_conductedTo_14 (by decide) (fun q1 => ?_) (fun q2 => ?_)
  · have hp3 : ¬ j < n := (fun z => q1 (nlt_ z (by omega)))
    refine wp_lload_n dX11_conductedTo_58 rfl ?_
    exact wp_lret dX11_conductedTo_59 rfl (e1 hp3)
  · have hp4 : j < n := (nlt q2 (by omega) (by omega))
    refine wp_aload_n dX11_conductedTo_17 rfl ?_
    refine wp_iload dX11_conductedTo_18 rfl ?_
    refine wp_iconst (1 : Int32) dX11_conductedTo_20 (by decide) ?_
    refine wp_callV (As := [.int (nI j), .int (1 : Int32)]) (S := []) (b' := (0, 0)) (b := (0, 0)) dX11_conductedTo_21 MX11_89 (ka hF 293 (by decide)) rfl rfl rfl rfl (Nat.le_of_ble_eq_true rfl) ?_
    refine WPM.of pX11 (Nat.le_of_ble_eq_true rfl) rfl ?_
    refine wp_aload_n dX11_node_0 rfl ?_
    refine wp_getr (gB G + 294) dX11_node_1 fX11_7 (ka hF 293 (by decide)) (hF.2 _ _) (rra 1 (isK_le (ka hF 293 (by decide))) (fun _ => rfl)) ?_
    refine wp_bipush (20 : Int32) dX11_node_4 (by decide) ?_
    refine wp_bipush (11 : Int32) dX11_node_6 (by decide) ?_
    refine wp_iload_n dX11_node_8 rfl ?_
    refine wp_imulv (nI (11 * j)) dX11_node_9 (nmul (a := 11) (b := j) (by omega)) ?_
    refine wp_iaddv (nI (11 * j + 20)) dX11_node_10 (nadd (a := 20) (b := 11 * j) (by omega)) ?_
    refine wp_iload_n dX11_node_11 rfl ?_
    refine wp_iaddv (nI (11 * j + 21)) dX11_node_12 (nadd (a := 11 * j + 20) (b := 1) (by omega)) ?_
    refine wp_ialdk (n := 1486) (11 * j + 21) (ai m (gB G + 294) (11 * j + 21)) dX11_node_13 (ka hF 294 (by decide)) (la 294) (vin (by omega) (by decide)) (nIc (by omega)) rfl ?_
    refine wp_iret dX11_node_14 rfl ?_
    show WP G (d + 1) (0, 0) μX11_conductedTo 24 [.ref (gB G + 293), .int (nI i), .long a, lvU, .int (nI j), lvU, lvU] [.int (ai m (gB G + 294) (11 * j + 21))] m _
    refine wp_aload_n dX11_conductedTo_24 rfl ?_
    refine wp_iload_n dX11_conductedTo_25 rfl ?_
    refine wp_iconst (1 : Int32) dX11_conductedTo_26 (by decide) ?_
    refine wp_callV (As := [.int (nI i), .int (1 : Int32)]) (S := [.int (ai m (gB G + 294) (11 * j + 21))]) (b' := (0, 0)) (b := (0, 0)) dX11_conductedTo_27 MX11_89 (ka hF 293 (by decide)) rfl rfl rfl rfl (Nat.le_of_ble_eq_true rfl) ?_
    refine WPM.of pX11 (Nat.le_of_ble_eq_true rfl) rfl ?_
    refine wp_aload_n dX11_node_0 rfl ?_
    refine wp_getr (gB G + 294) dX11_node_1 fX11_7 (ka hF 293 (by decide)) (hF.2 _ _) (rra 1 (isK_le (ka hF 293 (by decide))) (fun _ => rfl)) ?_
    refine wp_bipush (20 : Int32) dX11_node_4 (by decide) ?_
    refine wp_bipush (11 : Int32) dX11_node_6 (by decide) ?_
    refine wp_iload_n dX11_node_8 rfl ?_
    refine wp_imulv (nI (11 * i)) dX11_node_9 (nmul (a := 11) (b := i) (by omega)) ?_
    refine wp_iaddv (nI (11 * i + 20)) dX11_node_10 (nadd (a := 20) (b := 11 * i) (by omega)) ?_
    refine wp_iload_n dX11_node_11 rfl ?_
    refine wp_iaddv (nI (11 * i + 21)) dX11_node_12 (nadd (a := 11 * i + 20) (b := 1) (by omega)) ?_
    refine wp_ialdk (n := 1486) (11 * i + 21) (ai m (gB G + 294) (11 * i + 21)) dX11_node_13 (ka hF 294 (by decide)) (la 294) (vin (by omega) (by decide)) (nIc (by omega)) rfl ?_
    refine wp_iret dX11_node_14 rfl ?_
    show WP G (d + 1) (0, 0) μX11_conductedTo 30 [.ref (gB G + 293), .int (nI i), .long a, lvU, .int (nI j), lvU, lvU] [.int (ai m (gB G + 294) (11 * i + 21)), .int (ai m (gB G + 294) (11 * j + 21))] m _
    refine wp_isubv ((ai m (gB G + 294) (11 * j + 21)) - (ai m (gB G + 294) (11 * i + 21))) dX11_conductedTo_30 rfl ?_
    refine wp_i2l dX11_conductedTo_31 ?_
    refine wp_lstore dX11_conductedTo_32 (by decide) rfl ?_
    refine wp_lload_n dX11_conductedTo_34 rfl ?_
    refine wp_aload_n dX11_conductedTo_35 rfl ?_
    refine wp_iload_n dX11_conductedTo_36 rfl ?_
    refine wp_iload dX11_conductedTo_37 rfl ?_
    refine wp_callV (As := [.int (nI i), .int (nI j)]) (S := [.long a]) (b' := (0, 0)) (b := (0, 0)) dX11_conductedTo_39 MX11_101 (ka hF 293 (by decide)) rfl rfl rfl rfl (Nat.le_of_ble_eq_true rfl) ?_
    refine WPM.of pX11 (Nat.le_of_ble_eq_true rfl) rfl ?_
    refine wp_aload_n dX11_linkOf_0 rfl ?_
    refine wp_getr (gB G + 294) dX11_linkOf_1 fX11_7 (ka hF 293 (by decide)) (hF.2 _ _) (rra 1 (isK_le (ka hF 293 (by decide))) (fun _ => rfl)) ?_
    refine wp_sipush (152 : Int32) dX11_linkOf_4 (by decide) ?_
    refine wp_bipush (12 : Int32) dX11_linkOf_7 (by decide) ?_
    refine wp_iload_n dX11_linkOf_9 rfl ?_
    refine wp_imulv (nI (12 * i)) dX11_linkOf_10 (nmul (a := 12) (b := i) (by omega)) ?_
    refine wp_iaddv (nI (12 * i + 152)) dX11_linkOf_11 (nadd (a := 152) (b := 12 * i) (by omega)) ?_
    refine wp_iload_n dX11_linkOf_12 rfl ?_
    refine wp_iaddv (nI (12 * i + j + 152)) dX11_linkOf_13 (nadd (a := 12 * i + 152) (b := j) (by omega)) ?_
    refine wp_ialdk (n := 1486) (12 * i + j + 152) (ai m (gB G + 294) (12 * i + j + 152)) dX11_linkOf_14 (ka hF 294 (by decide)) (la 294) (vin (by omega) (by decide)) (nIc (by omega)) rfl ?_
    refine wp_iret dX11_linkOf_15 rfl ?_
    show WP G (d + 1) (0, 0) μX11_conductedTo 42 [.ref (gB G + 293), .int (nI i), .long a, lvU, .int (nI j), .long (Int32.toInt64 ((ai m (gB G + 294) (11 * j + 21)) - (ai m (gB G + 294) (11 * i + 21)))), lvU] [.int (ai m (gB G + 294) (12 * i + j + 152)), .long a] m _
    refine wp_i2l dX11_conductedTo_42 ?_
    refine wp_lload dX11_conductedTo_43 rfl ?_
    refine wp_lmul dX11_conductedTo_45 ?_
    refine wp_ldc2 dX11_conductedTo_46 kX11_115 ?_
    refine wp_ldiv dX11_conductedTo_49 (by decide) ?_
    refine wp_ladd dX11_conductedTo_50 ?_
    refine wp_lstore_n dX11_conductedTo_51 (by decide) rfl ?_
    refine wp_iinc (nI (j + 1)) dX11_conductedTo_52 rfl (by decide) (nadd (a := j) (b := 1) (by omega)) rfl ?_
    refine wp_goto 5 dX11_conductedTo_55 (by decide) ?_
    refine wp_forget [.ref (gB G + 293), .int (nI i), .long (a + (((Int32.toInt64 (ai m (gB G + 294) (12 * i + j + 152))) * (Int32.toInt64 ((ai m (gB G + 294) (11 * j + 21)) - (ai m (gB G + 294) (11 * i + 21))))) / (1000 : Int64))), lvU, .int (nI (j + 1)), lvU, lvU] ⟨Or.inl rfl, Or.inl rfl, Or.inl rfl, Or.inr rfl, Or.inl rfl, Or.inr rfl, Or.inr rfl, trivial⟩ ?_
    exact e2 hp4

theorem eM_ab {G : Cx} {d : Nat} {m : Mm} {Q : Option Value → Mm → Prop} {i : Nat} (hF : Full G m) (hi : i < 12)
    (e1 : WPM G (d + 2) (0, 0) μX11_isSunlit [.ref (gB G + 293)] m (fun r' m' => WP G (d + 3) (0, 0) μX11_absorbedBy 25 [.ref (gB G + 293), .int (nI i), .long (((Int32.toInt64 (ai m (gB G + 294) (11 * i + 22))) * (Int32.toInt64 (ai m (gB G + 294) 7))) / (10 : Int64)), lvU, lvU, lvU] (r'.toList ++ []) m' Q)) :
    WPM G (d + 3) (0, 0) μX11_absorbedBy [.ref (gB G + 293), .int (nI i)] m Q := by
  refine WPM.of pX11 (Nat.le_of_ble_eq_true rfl) rfl ?_
  refine wp_aload_n dX11_absorbedBy_0 rfl ?_
  refine wp_iload_n dX11_absorbedBy_1 rfl ?_
  refine wp_iconst (2 : Int32) dX11_absorbedBy_2 (by decide) ?_
  refine wp_callV (As := [.int (nI i), .int (2 : Int32)]) (S := []) (b' := (0, 0)) (b := (0, 0)) dX11_absorbedBy_3 MX11_89 (ka hF 293 (by decide)) rfl rfl rfl rfl (Nat.le_of_ble_eq_true rfl) ?_
  refine WPM.of pX11 (Nat.le_of_ble_eq_true rfl) rfl ?_
  refine wp_aload_n dX11_node_0 rfl ?_
  refine wp_getr (gB G + 294) dX11_node_1 fX11_7 (ka hF 293 (by decide)) (hF.2 _ _) (rra 1 (isK_le (ka hF 293 (by decide))) (fun _ => rfl)) ?_
  refine wp_bipush (20 : Int32) dX11_node_4 (by decide) ?_
  refine wp_bipush (11 : Int32) dX11_node_6 (by decide) ?_
  refine wp_iload_n dX11_node_8 rfl ?_
  refine wp_imulv (nI (11 * i)) dX11_node_9 (nmul (a := 11) (b := i) (by omega)) ?_
  refine wp_iaddv (nI (11 * i + 20)) dX11_node_10 (nadd (a := 20) (b := 11 * i) (by omega)) ?_
  refine wp_iload_n dX11_node_11 rfl ?_
  refine wp_iaddv (nI (11 * i + 22)) dX11_node_12 (nadd (a := 11 * i + 20) (b := 2) (by omega)) ?_
  refine wp_ialdk (n := 1486) (11 * i + 22) (ai m (gB G + 294) (11 * i + 22)) dX11_node_13 (ka hF 294 (by decide)) (la 294) (vin (by omega) (by decide)) (nIc (by omega)) rfl ?_
  refine wp_iret dX11_node_14 rfl ?_
  show WP G (d + 3) (0, 0) μX11_absorbedBy 6 [.ref (gB G + 293), .int (nI i), lvU, lvU, lvU, lvU] [.int (ai m (gB G + 294) (11 * i + 22))] m _
  refine wp_i2l dX11_absorbedBy_6 ?_
  refine wp_aload_n dX11_absorbedBy_7 rfl ?_
  refine wp_getr (gB G + 294) dX11_absorbedBy_8 fX11_7 (ka hF 293 (by decide)) (hF.2 _ _) (rra 1 (isK_le (ka hF 293 (by decide))) (fun _ => rfl)) ?_
  refine wp_bipush (7 : Int32) dX11_absorbedBy_11 (by decide) ?_
  refine wp_ialdk (n := 1486) 7 (ai m (gB G + 294) 7) dX11_absorbedBy_13 (ka hF 294 (by decide)) (la 294) (vinl (by decide)) rfl rfl ?_
  refine wp_i2l dX11_absorbedBy_14 ?_
  refine wp_lmul dX11_absorbedBy_15 ?_
  refine wp_ldc2 dX11_absorbedBy_16 kX11_185 ?_
  refine wp_ldiv dX11_absorbedBy_19 (by decide) ?_
  refine wp_lstore_n dX11_absorbedBy_20 (by decide) rfl ?_
  refine wp_aload_n dX11_absorbedBy_21 rfl ?_
  refine wp_callV (As := []) (S := []) (b' := (0, 0)) (b := (0, 0)) dX11_absorbedBy_22 MX11_135 (ka hF 293 (by decide)) rfl rfl rfl rfl (Nat.le_of_ble_eq_true rfl) ?_
  exact e1

theorem bM_ab {G : Cx} {d : Nat} {m : Mm} {Q : Option Value → Mm → Prop} {i : Nat} {l2 : Int64} {r : Int32} (hF : Full G m) (hi : i < 12)
    (e1 : r = 0 → Q (some (.long l2)) m)
    (e2 : ¬ r = 0 → Q (some (.long (l2 + ((((Int32.toInt64 (ai m (gB G + 294) (11 * i + 23))) * (Int32.toInt64 (ai m (gB G + 294) 5))) / (10 : Int64)) + ((((Int32.toInt64 (ai m (gB G + 294) (11 * i + 23))) * (Int32.toInt64 (ai m (gB G + 294) 5))) * (Int32.toInt64 (ai m (gB G + 294) 6))) / (1000 : Int64)))))) m) :
    WP G (d + 3) (0, 0) μX11_absorbedBy 25 [.ref (gB G + 293), .int (nI i), .long l2, lvU, lvU, lvU] [.int r] m Q := by
  refine wp_if_eq 70 dX11_absorbedBy_25 (by decide) (fun q1 => ?_) (fun q2 => ?_)
  · skip
    refine wp_lload_n dX11_absorbedBy_70 rfl ?_
    exact wp_lret dX11_absorbedBy_71 rfl (e1 q1)
  · skip
    refine wp_aload_n dX11_absorbedBy_28 rfl ?_
    refine wp_iload_n dX11_absorbedBy_29 rfl ?_
    refine wp_iconst (3 : Int32) dX11_absorbedBy_30 (by decide) ?_
    refine wp_callV (As := [.int (nI i), .int (3 : Int32)]) (S := []) (b' := (0, 0)) (b := (0, 0)) dX11_absorbedBy_31 MX11_89 (ka hF 293 (by decide)) rfl rfl rfl rfl (Nat.le_of_ble_eq_true rfl) ?_
    refine WPM.of pX11 (Nat.le_of_ble_eq_true rfl) rfl ?_
    refine wp_aload_n dX11_node_0 rfl ?_
    refine wp_getr (gB G + 294) dX11_node_1 fX11_7 (ka hF 293 (by decide)) (hF.2 _ _) (rra 1 (isK_le (ka hF 293 (by decide))) (fun _ => rfl)) ?_
    refine wp_bipush (20 : Int32) dX11_node_4 (by decide) ?_
    refine wp_bipush (11 : Int32) dX11_node_6 (by decide) ?_
    refine wp_iload_n dX11_node_8 rfl ?_
    refine wp_imulv (nI (11 * i)) dX11_node_9 (nmul (a := 11) (b := i) (by omega)) ?_
    refine wp_iaddv (nI (11 * i + 20)) dX11_node_10 (nadd (a := 20) (b := 11 * i) (by omega)) ?_
    refine wp_iload_n dX11_node_11 rfl ?_
    refine wp_iaddv (nI (11 * i + 23)) dX11_node_12 (nadd (a := 11 * i + 20) (b := 3) (by omega)) ?_
    refine wp_ialdk (n := 1486) (11 * i + 23) (ai m (gB G + 294) (11 * i + 23)) dX11_node_13 (ka hF 294 (by decide)) (la 294) (vin (by omega) (by decide)) (nIc (by omega)) rfl ?_
    refine wp_iret dX11_node_14 rfl ?_
    show WP G (d + 3) (0, 0) μX11_absorbedBy 34 [.ref (gB G + 293), .int (nI i), .long l2, lvU, lvU, lvU] [.int (ai m (gB G + 294) (11 * i + 23))] m _
    refine wp_i2l dX11_absorbedBy_34 ?_
    refine wp_aload_n dX11_absorbedBy_35 rfl ?_
    refine wp_getr (gB G + 294) dX11_absorbedBy_36 fX11_7 (ka hF 293 (by decide)) (hF.2 _ _) (rra 1 (isK_le (ka hF 293 (by decide))) (fun _ => rfl)) ?_
    refine wp_iconst (5 : Int32) dX11_absorbedBy_39 (by decide) ?_
    refine wp_ialdk (n := 1486) 5 (ai m (gB G + 294) 5) dX11_absorbedBy_40 (ka hF 294 (by decide)) (la 294) (vinl (by decide)) rfl rfl ?_
    refine wp_i2l dX11_absorbedBy_41 ?_
    refine wp_lmul dX11_absorbedBy_42 ?_
    refine wp_lstore dX11_absorbedBy_43 (by decide) rfl ?_
    refine wp_lload_n dX11_absorbedBy_45 rfl ?_
    refine wp_lload dX11_absorbedBy_46 rfl ?_
    refine wp_ldc2 dX11_absorbedBy_48 kX11_185 ?_
    refine wp_ldiv dX11_absorbedBy_51 (by decide) ?_
    refine wp_lload dX11_absorbedBy_52 rfl ?_
    refine wp_aload_n dX11_absorbedBy_54 rfl ?_
    refine wp_getr (gB G + 294) dX11_absorbedBy_55 fX11_7 (ka hF 293 (by decide)) (hF.2 _ _) (rra 1 (isK_le (ka hF 293 (by decide))) (fun _ => rfl)) ?_
    refine wp_bipush (6 : Int32) dX11_absorbedBy_58 (by decide) ?_
    refine wp_ialdk (n := 1486) 6 (ai m (gB G + 294) 6) dX11_absorbedBy_60 (ka hF 294 (by decide)) (la 294) (vinl (by decide)) rfl rfl ?_
    refine wp_i2l dX11_absorbedBy_61 ?_
    refine wp_lmul dX11_absorbedBy_62 ?_
    refine wp_ldc2 dX11_absorbedBy_63 kX11_115 ?_
    refine wp_ldiv dX11_absorbedBy_66 (by decide) ?_
    refine wp_ladd dX11_absorbedBy_67 ?_
    refine wp_ladd dX11_absorbedBy_68 ?_
    refine wp_lstore_n dX11_absorbedBy_69 (by decide) rfl ?_
    refine wp_lload_n dX11_absorbedBy_70 rfl ?_
    exact wp_lret dX11_absorbedBy_71 rfl (e2 q2)

theorem eM_nt {G : Cx} {d : Nat} {m : Mm} {Q : Option Value → Mm → Prop} {i : Nat} (hF : Full G m) (hi : i < 12)
    (e1 : WPM G (d + 3) (0, 0) μX11_absorbedBy [.ref (gB G + 293), .int (nI i)] m (fun r' m' => WP G (d + 4) (0, 0) μX11_netOf 12 [.ref (gB G + 293), .int (nI i), lvU, lvU, lvU, lvU] (r'.toList ++ [.long (Int32.toInt64 (ai m (gB G + 294) (11 * i + 24)))]) m' Q)) :
    WPM G (d + 4) (0, 0) μX11_netOf [.ref (gB G + 293), .int (nI i)] m Q := by
  refine WPM.of pX11 (Nat.le_of_ble_eq_true rfl) rfl ?_
  refine wp_aload_n dX11_netOf_0 rfl ?_
  refine wp_iload_n dX11_netOf_1 rfl ?_
  refine wp_iconst (4 : Int32) dX11_netOf_2 (by decide) ?_
  refine wp_callV (As := [.int (nI i), .int (4 : Int32)]) (S := []) (b' := (0, 0)) (b := (0, 0)) dX11_netOf_3 MX11_89 (ka hF 293 (by decide)) rfl rfl rfl rfl (Nat.le_of_ble_eq_true rfl) ?_
  refine WPM.of pX11 (Nat.le_of_ble_eq_true rfl) rfl ?_
  refine wp_aload_n dX11_node_0 rfl ?_
  refine wp_getr (gB G + 294) dX11_node_1 fX11_7 (ka hF 293 (by decide)) (hF.2 _ _) (rra 1 (isK_le (ka hF 293 (by decide))) (fun _ => rfl)) ?_
  refine wp_bipush (20 : Int32) dX11_node_4 (by decide) ?_
  refine wp_bipush (11 : Int32) dX11_node_6 (by decide) ?_
  refine wp_iload_n dX11_node_8 rfl ?_
  refine wp_imulv (nI (11 * i)) dX11_node_9 (nmul (a := 11) (b := i) (by omega)) ?_
  refine wp_iaddv (nI (11 * i + 20)) dX11_node_10 (nadd (a := 20) (b := 11 * i) (by omega)) ?_
  refine wp_iload_n dX11_node_11 rfl ?_
  refine wp_iaddv (nI (11 * i + 24)) dX11_node_12 (nadd (a := 11 * i + 20) (b := 4) (by omega)) ?_
  refine wp_ialdk (n := 1486) (11 * i + 24) (ai m (gB G + 294) (11 * i + 24)) dX11_node_13 (ka hF 294 (by decide)) (la 294) (vin (by omega) (by decide)) (nIc (by omega)) rfl ?_
  refine wp_iret dX11_node_14 rfl ?_
  show WP G (d + 4) (0, 0) μX11_netOf 6 [.ref (gB G + 293), .int (nI i), lvU, lvU, lvU, lvU] [.int (ai m (gB G + 294) (11 * i + 24))] m _
  refine wp_i2l dX11_netOf_6 ?_
  refine wp_aload_n dX11_netOf_7 rfl ?_
  refine wp_iload_n dX11_netOf_8 rfl ?_
  refine wp_callV (As := [.int (nI i)]) (S := [.long (Int32.toInt64 (ai m (gB G + 294) (11 * i + 24)))]) (b' := (0, 0)) (b := (0, 0)) dX11_netOf_9 MX11_152 (ka hF 293 (by decide)) rfl rfl rfl rfl (Nat.le_of_ble_eq_true rfl) ?_
  exact e1

theorem bM_nt1 {G : Cx} {d : Nat} {m : Mm} {Q : Option Value → Mm → Prop} {i : Nat} {s0 : Int64} {r : Int64} (hF : Full G m) (hi : i < 12)
    (e1 : WPM G (d + 3) (0, 0) μX11_conductedTo [.ref (gB G + 293), .int (nI i)] m (fun r' m' => WP G (d + 4) (0, 0) μX11_netOf 18 [.ref (gB G + 293), .int (nI i), lvU, lvU, lvU, lvU] (r'.toList ++ [.long (s0 + r)]) m' Q)) :
    WP G (d + 4) (0, 0) μX11_netOf 12 [.ref (gB G + 293), .int (nI i), lvU, lvU, lvU, lvU] [.long r, .long s0] m Q := by
  refine wp_ladd dX11_netOf_12 ?_
  refine wp_aload_n dX11_netOf_13 rfl ?_
  refine wp_iload_n dX11_netOf_14 rfl ?_
  refine wp_callV (As := [.int (nI i)]) (S := [.long (s0 + r)]) (b' := (0, 0)) (b := (0, 0)) dX11_netOf_15 MX11_192 (ka hF 293 (by decide)) rfl rfl rfl rfl (Nat.le_of_ble_eq_true rfl) ?_
  exact e1

theorem bM_nt2 {G : Cx} {d : Nat} {m : Mm} {Q : Option Value → Mm → Prop} {i : Nat} {s0 : Int64} {r : Int64} (hF : Full G m) (hi : i < 12)
    (e1 : WPM G (d + 3) (0, 0) μX11_emittedBy [.ref (gB G + 293), .int (nI i)] m (fun r' m' => WP G (d + 4) (0, 0) μX11_netOf 24 [.ref (gB G + 293), .int (nI i), lvU, lvU, lvU, lvU] (r'.toList ++ [.long (s0 + r)]) m' Q)) :
    WP G (d + 4) (0, 0) μX11_netOf 18 [.ref (gB G + 293), .int (nI i), lvU, lvU, lvU, lvU] [.long r, .long s0] m Q := by
  refine wp_ladd dX11_netOf_18 ?_
  refine wp_aload_n dX11_netOf_19 rfl ?_
  refine wp_iload_n dX11_netOf_20 rfl ?_
  refine wp_callV (As := [.int (nI i)]) (S := [.long (s0 + r)]) (b' := (0, 0)) (b := (0, 0)) dX11_netOf_21 MX11_149 (ka hF 293 (by decide)) rfl rfl rfl rfl (Nat.le_of_ble_eq_true rfl) ?_
  exact e1

theorem bM_nt3 {G : Cx} {d : Nat} {m : Mm} {Q : Option Value → Mm → Prop} {i : Nat} {s0 : Int64} {r : Int64} (hF : Full G m) (hi : i < 12)
    (e1 : WP G (d + 4) (0, 0) μX11_netOf 29 [.ref (gB G + 293), .int (nI i), .long (s0 - r), lvU, .int (0 : Int32), lvU] [] m Q) :
    WP G (d + 4) (0, 0) μX11_netOf 24 [.ref (gB G + 293), .int (nI i), lvU, lvU, lvU, lvU] [.long r, .long s0] m Q := by
  refine wp_lsub dX11_netOf_24 ?_
  refine wp_lstore_n dX11_netOf_25 (by decide) rfl ?_
  refine wp_iconst (0 : Int32) dX11_netOf_26 (by decide) ?_
  refine wp_istore dX11_netOf_27 (by decide) rfl ?_
  refine wp_forget [.ref (gB G + 293), .int (nI i), .long (s0 - r), lvU, .int (0 : Int32), lvU] ⟨Or.inl rfl, Or.inl rfl, Or.inl rfl, Or.inr rfl, Or.inl rfl, Or.inr rfl, trivial⟩ ?_
  exact e1

theorem bM_nt {G : Cx} {d : Nat} {m : Mm} {Q : Option Value → Mm → Prop} {a : Int64} {i h n o : Nat} (hF : Full G m) (hi : i < 12) (hn : ai m (gB G + 294) 14 = nI n) (h8 : n ≤ 8) (hh : h ≤ n) (ho : h < n → ai m (gB G + 294) (8 * h + 338) = nI o) (h12 : o < 12)
    (e1 : ¬ h < n → Q (some (.long a)) m)
    (e2 : h < n → ¬ o = i → WP G (d + 4) (0, 0) μX11_netOf 29 [.ref (gB G + 293), .int (nI i), .long (a + (0 : Int64)), lvU, .int (nI (h + 1)), lvU] [] m Q)
    (e3 : h < n → o = i → ¬ (ai m (gB G + 294) (8 * h + 345)) = (1 : Int32) → WP G (d + 4) (0, 0) μX11_netOf 29 [.ref (gB G + 293), .int (nI i), .long (a + (0 : Int64)), lvU, .int (nI (h + 1)), lvU] [] m Q)
    (e4 : h < n → o = i → (ai m (gB G + 294) (8 * h + 345)) = (1 : Int32) → WP G (d + 4) (0, 0) μX11_netOf 29 [.ref (gB G + 293), .int (nI i), .long (a + (Int32.toInt64 (ai m (gB G + 294) (8 * h + 339)))), lvU, .int (nI (h + 1)), lvU] [] m Q) :
    WP G (d + 4) (0, 0) μX11_netOf 29 [.ref (gB G + 293), .int (nI i), .long a, lvU, .int (nI h), lvU] [] m Q := by
  refine wp_iload dX11_netOf_29 rfl ?_
  refine wp_aload_n dX11_netOf_31 rfl ?_
  refine wp_getr (gB G + 294) dX11_netOf_32 fX11_7 (ka hF 293 (by decide)) (hF.2 _ _) (rra 1 (isK_le (ka hF 293 (by decide))) (fun _ => rfl)) ?_
  refine wp_bipush (14 : Int32) dX11_netOf_35 (by decide) ?_
  refine wp_ialdk (n := 1486) 14 (nI n) dX11_netOf_37 (ka hF 294 (by decide)) (la 294) (vinl (by decide)) rfl hn ?_
  refine wp_icmp_ge 97 dX11_netOf_38 (by decide) (fun q1 => ?_) (fun q2 => ?_)
  · have hp3 : ¬ h < n := (fun z => q1 (nlt_ z (by omega)))
    refine wp_lload_n dX11_netOf_97 rfl ?_
    exact wp_lret dX11_netOf_98 rfl (e1 hp3)
  · have hp4 : h < n := (nlt q2 (by omega) (by omega))
    refine wp_aload_n dX11_netOf_41 rfl ?_
    refine wp_iload dX11_netOf_42 rfl ?_
    refine wp_iconst (0 : Int32) dX11_netOf_44 (by decide) ?_
    refine wp_callV (As := [.int (nI h), .int (0 : Int32)]) (S := []) (b' := (0, 0)) (b := (0, 0)) dX11_netOf_45 MX11_128 (ka hF 293 (by decide)) rfl rfl rfl rfl (Nat.le_of_ble_eq_true rfl) ?_
    refine WPM.of pX11 (Nat.le_of_ble_eq_true rfl) rfl ?_
    refine wp_aload_n dX11_heater_0 rfl ?_
    refine wp_getr (gB G + 294) dX11_heater_1 fX11_7 (ka hF 293 (by decide)) (hF.2 _ _) (rra 1 (isK_le (ka hF 293 (by decide))) (fun _ => rfl)) ?_
    refine wp_sipush (338 : Int32) dX11_heater_4 (by decide) ?_
    refine wp_bipush (8 : Int32) dX11_heater_7 (by decide) ?_
    refine wp_iload_n dX11_heater_9 rfl ?_
    refine wp_imulv (nI (8 * h)) dX11_heater_10 (nmul (a := 8) (b := h) (by omega)) ?_
    refine wp_iaddv (nI (8 * h + 338)) dX11_heater_11 (nadd (a := 338) (b := 8 * h) (by omega)) ?_
    refine wp_iload_n dX11_heater_12 rfl ?_
    refine wp_iaddv (nI (8 * h + 338)) dX11_heater_13 (nadd (a := 8 * h + 338) (b := 0) (by omega)) ?_
    refine wp_ialdk (n := 1486) (8 * h + 338) (nI o) dX11_heater_14 (ka hF 294 (by decide)) (la 294) (vin (by omega) (by decide)) (nIc (by omega)) (ho (by omega)) ?_
    refine wp_iret dX11_heater_15 rfl ?_
    show WP G (d + 4) (0, 0) μX11_netOf 48 [.ref (gB G + 293), .int (nI i), .long a, lvU, .int (nI h), lvU] [.int (nI o)] m _
    refine wp_iload_n dX11_netOf_48 rfl ?_
    refine wp_icmp_ne 68 dX11_netOf_49 (by decide) (fun q5 => ?_) (fun q6 => ?_)
    · have hp7 : ¬ o = i := (fun z => q5 (congrArg nI z))
      refine wp_iconst (0 : Int32) dX11_netOf_68 (by decide) ?_
      refine wp_istore dX11_netOf_69 (by decide) rfl ?_
      refine wp_lload_n dX11_netOf_71 rfl ?_
      refine wp_iload dX11_netOf_72 rfl ?_
      refine wp_if_eq 88 dX11_netOf_74 (by decide) (fun _ => ?_) (fun q => absurd (by decide) q)
      refine wp_lconst (0 : Int64) dX11_netOf_88 (by decide) ?_
      refine wp_ladd dX11_netOf_89 ?_
      refine wp_lstore_n dX11_netOf_90 (by decide) rfl ?_
      refine wp_iinc (nI (h + 1)) dX11_netOf_91 rfl (by decide) (nadd (a := h) (b := 1) (by omega)) rfl ?_
      refine wp_goto 29 dX11_netOf_94 (by decide) ?_
      refine wp_forget [.ref (gB G + 293), .int (nI i), .long (a + (0 : Int64)), lvU, .int (nI (h + 1)), lvU] ⟨Or.inl rfl, Or.inl rfl, Or.inl rfl, Or.inr rfl, Or.inl rfl, Or.inr rfl, trivial⟩ ?_
      exact e2 hp4 hp7
    · have hp8 : o = i := (neq q6 (by omega) (by omega))
      refine wp_aload_n dX11_netOf_52 rfl ?_
      refine wp_iload dX11_netOf_53 rfl ?_
      refine wp_bipush (7 : Int32) dX11_netOf_55 (by decide) ?_
      refine wp_callV (As := [.int (nI h), .int (7 : Int32)]) (S := []) (b' := (0, 0)) (b := (0, 0)) dX11_netOf_57 MX11_128 (ka hF 293 (by decide)) rfl rfl rfl rfl (Nat.le_of_ble_eq_true rfl) ?_
      refine WPM.of pX11 (Nat.le_of_ble_eq_true rfl) rfl ?_
      refine wp_aload_n dX11_heater_0 rfl ?_
      refine wp_getr (gB G + 294) dX11_heater_1 fX11_7 (ka hF 293 (by decide)) (hF.2 _ _) (rra 1 (isK_le (ka hF 293 (by decide))) (fun _ => rfl)) ?_
      refine wp_sipush (338 : Int32) dX11_heater_4 (by decide) ?_
      refine wp_bipush (8 : Int32) dX11_heater_7 (by decide) ?_
      refine wp_iload_n dX11_heater_9 rfl ?_
      refine wp_imulv (nI (8 * h)) dX11_heater_10 (nmul (a := 8) (b := h) (by omega)) ?_
      refine wp_iaddv (nI (8 * h + 338)) dX11_heater_11 (nadd (a := 338) (b := 8 * h) (by omega)) ?_
      refine wp_iload_n dX11_heater_12 rfl ?_
      refine wp_iaddv (nI (8 * h + 345)) dX11_heater_13 (nadd (a := 8 * h + 338) (b := 7) (by omega)) ?_
      refine wp_ialdk (n := 1486) (8 * h + 345) (ai m (gB G + 294) (8 * h + 345)) dX11_heater_14 (ka hF 294 (by decide)) (la 294) (vin (by omega) (by decide)) (nIc (by omega)) rfl ?_
      refine wp_iret dX11_heater_15 rfl ?_
      show WP G (d + 4) (0, 0) μX11_netOf 60 [.ref (gB G + 293), .int (nI i), .long a, lvU, .int (nI h), lvU] [.int (ai m (gB G + 294) (8 * h + 345))] m _
      refine wp_iconst (1 : Int32) dX11_netOf_60 (by decide) ?_
      refine wp_icmp_ne 68 dX11_netOf_61 (by decide) (fun q9 => ?_) (fun q10 => ?_)
      · skip
        refine wp_iconst (0 : Int32) dX11_netOf_68 (by decide) ?_
        refine wp_istore dX11_netOf_69 (by decide) rfl ?_
        refine wp_lload_n dX11_netOf_71 rfl ?_
        refine wp_iload dX11_netOf_72 rfl ?_
        refine wp_if_eq 88 dX11_netOf_74 (by decide) (fun _ => ?_) (fun q => absurd (by decide) q)
        refine wp_lconst (0 : Int64) dX11_netOf_88 (by decide) ?_
        refine wp_ladd dX11_netOf_89 ?_
        refine wp_lstore_n dX11_netOf_90 (by decide) rfl ?_
        refine wp_iinc (nI (h + 1)) dX11_netOf_91 rfl (by decide) (nadd (a := h) (b := 1) (by omega)) rfl ?_
        refine wp_goto 29 dX11_netOf_94 (by decide) ?_
        refine wp_forget [.ref (gB G + 293), .int (nI i), .long (a + (0 : Int64)), lvU, .int (nI (h + 1)), lvU] ⟨Or.inl rfl, Or.inl rfl, Or.inl rfl, Or.inr rfl, Or.inl rfl, Or.inr rfl, trivial⟩ ?_
        exact e3 hp4 hp8 q9
      · skip
        refine wp_iconst (1 : Int32) dX11_netOf_64 (by decide) ?_
        refine wp_goto 69 dX11_netOf_65 (by decide) ?_
        refine wp_istore dX11_netOf_69 (by decide) rfl ?_
        refine wp_lload_n dX11_netOf_71 rfl ?_
        refine wp_iload dX11_netOf_72 rfl ?_
        refine wp_if_eq 88 dX11_netOf_74 (by decide) (fun q => absurd q (by decide)) (fun _ => ?_)
        refine wp_aload_n dX11_netOf_77 rfl ?_
        refine wp_iload dX11_netOf_78 rfl ?_
        refine wp_iconst (1 : Int32) dX11_netOf_80 (by decide) ?_
        refine wp_callV (As := [.int (nI h), .int (1 : Int32)]) (S := [.long a]) (b' := (0, 0)) (b := (0, 0)) dX11_netOf_81 MX11_128 (ka hF 293 (by decide)) rfl rfl rfl rfl (Nat.le_of_ble_eq_true rfl) ?_
        refine WPM.of pX11 (Nat.le_of_ble_eq_true rfl) rfl ?_
        refine wp_aload_n dX11_heater_0 rfl ?_
        refine wp_getr (gB G + 294) dX11_heater_1 fX11_7 (ka hF 293 (by decide)) (hF.2 _ _) (rra 1 (isK_le (ka hF 293 (by decide))) (fun _ => rfl)) ?_
        refine wp_sipush (338 : Int32) dX11_heater_4 (by decide) ?_
        refine wp_bipush (8 : Int32) dX11_heater_7 (by decide) ?_
        refine wp_iload_n dX11_heater_9 rfl ?_
        refine wp_imulv (nI (8 * h)) dX11_heater_10 (nmul (a := 8) (b := h) (by omega)) ?_
        refine wp_iaddv (nI (8 * h + 338)) dX11_heater_11 (nadd (a := 338) (b := 8 * h) (by omega)) ?_
        refine wp_iload_n dX11_heater_12 rfl ?_
        refine wp_iaddv (nI (8 * h + 339)) dX11_heater_13 (nadd (a := 8 * h + 338) (b := 1) (by omega)) ?_
        refine wp_ialdk (n := 1486) (8 * h + 339) (ai m (gB G + 294) (8 * h + 339)) dX11_heater_14 (ka hF 294 (by decide)) (la 294) (vin (by omega) (by decide)) (nIc (by omega)) rfl ?_
        refine wp_iret dX11_heater_15 rfl ?_
        show WP G (d + 4) (0, 0) μX11_netOf 84 [.ref (gB G + 293), .int (nI i), .long a, lvU, .int (nI h), .int (1 : Int32)] [.int (ai m (gB G + 294) (8 * h + 339)), .long a] m _
        refine wp_i2l dX11_netOf_84 ?_
        refine wp_goto 89 dX11_netOf_85 (by decide) ?_
        refine wp_ladd dX11_netOf_89 ?_
        refine wp_lstore_n dX11_netOf_90 (by decide) rfl ?_
        refine wp_iinc (nI (h + 1)) dX11_netOf_91 rfl (by decide) (nadd (a := h) (b := 1) (by omega)) rfl ?_
        refine wp_goto 29 dX11_netOf_94 (by decide) ?_
        refine wp_forget [.ref (gB G + 293), .int (nI i), .long (a + (Int32.toInt64 (ai m (gB G + 294) (8 * h + 339)))), lvU, .int (nI (h + 1)), lvU] ⟨Or.inl rfl, Or.inl rfl, Or.inl rfl, Or.inr rfl, Or.inl rfl, Or.inr rfl, trivial⟩ ?_
        exact e4 hp4 hp8 q10

theorem eM_mv {G : Cx} {d : Nat} {m : Mm} {Q : Option Value → Mm → Prop}  (hF : Full G m) 
    (e1 : WP G (d + 3) (0, 0) μX11_moveLouvres 2 [.ref (gB G + 293), .int (0 : Int32), lvU, lvU] [] m Q) :
    WPM G (d + 3) (0, 0) μX11_moveLouvres [.ref (gB G + 293)] m Q := by
  refine WPM.of pX11 (Nat.le_of_ble_eq_true rfl) rfl ?_
  refine wp_iconst (0 : Int32) dX11_moveLouvres_0 (by decide) ?_
  refine wp_istore_n dX11_moveLouvres_1 (by decide) rfl ?_
  refine wp_forget [.ref (gB G + 293), .int (0 : Int32), lvU, lvU] ⟨Or.inl rfl, Or.inl rfl, Or.inr rfl, Or.inr rfl, trivial⟩ ?_
  exact e1

theorem bM_mv {G : Cx} {d : Nat} {m : Mm} {Q : Option Value → Mm → Prop} {i n o : Nat} (hF : Full G m) (hn : ai m (gB G + 294) 13 = nI n) (h6 : n ≤ 6) (hi : i ≤ n) (ho : i < n → ai m (gB G + 294) (7 * i + 296) = nI o) (h12 : o < 12)
    (g1 : i < n → ¬ (ai m (gB G + 294) (7 * i + 302)) = (1 : Int32) → ¬ (Int32.toInt64 ((ai m (gB G + 294) (7 * i + 299)) - (ai m (gB G + 294) (7 * i + 298)))) = 0)
    (e1 : ¬ i < n → Q none m)
    (e2 : i < n → ¬ (ai m (gB G + 294) (7 * i + 302)) = (1 : Int32) → WP G (d + 3) (0, 0) μX11_moveLouvres 2 [.ref (gB G + 293), .int (nI (i + 1)), lvU, lvU] [] (wai m (gB G + 294) (7 * i + 301) ((ai m (gB G + 294) (7 * i + 301)) + (Int64.toInt32 (lmax (Int32.toInt64 (-(ai m (gB G + 294) (7 * i + 300)))) (lmin (Int32.toInt64 (ai m (gB G + 294) (7 * i + 300))) (Int32.toInt64 ((Int64.toInt32 (lmax (0 : Int64) (lmin (1000 : Int64) (((Int32.toInt64 ((ai m (gB G + 294) (11 * o + 21)) - (ai m (gB G + 294) (7 * i + 298)))) * (1000 : Int64)) / (Int32.toInt64 ((ai m (gB G + 294) (7 * i + 299)) - (ai m (gB G + 294) (7 * i + 298)))))))) - (ai m (gB G + 294) (7 * i + 301))))))))) Q)
    (e3 : i < n → (ai m (gB G + 294) (7 * i + 302)) = (1 : Int32) → WP G (d + 3) (0, 0) μX11_moveLouvres 2 [.ref (gB G + 293), .int (nI (i + 1)), lvU, lvU] [] m Q) :
    WP G (d + 3) (0, 0) μX11_moveLouvres 2 [.ref (gB G + 293), .int (nI i), lvU, lvU] [] m Q := by
  refine wp_iload_n dX11_moveLouvres_2 rfl ?_
  refine wp_aload_n dX11_moveLouvres_3 rfl ?_
  refine wp_getr (gB G + 294) dX11_moveLouvres_4 fX11_7 (ka hF 293 (by decide)) (hF.2 _ _) (rra 1 (isK_le (ka hF 293 (by decide))) (fun _ => rfl)) ?_
  refine wp_bipush (13 : Int32) dX11_moveLouvres_7 (by decide) ?_
  refine wp_ialdk (n := 1486) 13 (nI n) dX11_moveLouvres_9 (ka hF 294 (by decide)) (la 294) (vinl (by decide)) rfl hn ?_
  refine wp_icmp_ge 82 dX11_moveLouvres_10 (by decide) (fun q1 => ?_) (fun q2 => ?_)
  · have hp3 : ¬ i < n := (fun z => q1 (nlt_ z (by omega)))
    exact wp_vret dX11_moveLouvres_82 rfl (e1 hp3)
  · have hp4 : i < n := (nlt q2 (by omega) (by omega))
    refine wp_aload_n dX11_moveLouvres_13 rfl ?_
    refine wp_iload_n dX11_moveLouvres_14 rfl ?_
    refine wp_bipush (6 : Int32) dX11_moveLouvres_15 (by decide) ?_
    refine wp_callV (As := [.int (nI i), .int (6 : Int32)]) (S := []) (b' := (0, 0)) (b := (0, 0)) dX11_moveLouvres_17 MX11_112 (ka hF 293 (by decide)) rfl rfl rfl rfl (Nat.le_of_ble_eq_true rfl) ?_
    refine WPM.of pX11 (Nat.le_of_ble_eq_true rfl) rfl ?_
    refine wp_aload_n dX11_louvre_0 rfl ?_
    refine wp_getr (gB G + 294) dX11_louvre_1 fX11_7 (ka hF 293 (by decide)) (hF.2 _ _) (rra 1 (isK_le (ka hF 293 (by decide))) (fun _ => rfl)) ?_
    refine wp_sipush (296 : Int32) dX11_louvre_4 (by decide) ?_
    refine wp_bipush (7 : Int32) dX11_louvre_7 (by decide) ?_
    refine wp_iload_n dX11_louvre_9 rfl ?_
    refine wp_imulv (nI (7 * i)) dX11_louvre_10 (nmul (a := 7) (b := i) (by omega)) ?_
    refine wp_iaddv (nI (7 * i + 296)) dX11_louvre_11 (nadd (a := 296) (b := 7 * i) (by omega)) ?_
    refine wp_iload_n dX11_louvre_12 rfl ?_
    refine wp_iaddv (nI (7 * i + 302)) dX11_louvre_13 (nadd (a := 7 * i + 296) (b := 6) (by omega)) ?_
    refine wp_ialdk (n := 1486) (7 * i + 302) (ai m (gB G + 294) (7 * i + 302)) dX11_louvre_14 (ka hF 294 (by decide)) (la 294) (vin (by omega) (by decide)) (nIc (by omega)) rfl ?_
    refine wp_iret dX11_louvre_15 rfl ?_
    show WP G (d + 3) (0, 0) μX11_moveLouvres 20 [.ref (gB G + 293), .int (nI i), lvU, lvU] [.int (ai m (gB G + 294) (7 * i + 302))] m _
    refine wp_iconst (1 : Int32) dX11_moveLouvres_20 (by decide) ?_
    refine wp_icmp_ne 27 dX11_moveLouvres_21 (by decide) (fun q5 => ?_) (fun q6 => ?_)
    · skip
      refine wp_aload_n dX11_moveLouvres_27 rfl ?_
      refine wp_iload_n dX11_moveLouvres_28 rfl ?_
      refine wp_callV (As := [.int (nI i)]) (S := []) (b' := (0, 0)) (b := (0, 0)) dX11_moveLouvres_29 MX11_121 (ka hF 293 (by decide)) rfl rfl rfl rfl (Nat.le_of_ble_eq_true rfl) ?_
      refine WPM.of pX11 (Nat.le_of_ble_eq_true rfl) rfl ?_
      refine wp_aload_n dX11_targetOf_0 rfl ?_
      refine wp_aload_n dX11_targetOf_1 rfl ?_
      refine wp_iload_n dX11_targetOf_2 rfl ?_
      refine wp_iconst (0 : Int32) dX11_targetOf_3 (by decide) ?_
      refine wp_callV (As := [.int (nI i), .int (0 : Int32)]) (S := [.ref (gB G + 293)]) (b' := (0, 0)) (b := (0, 0)) dX11_targetOf_4 MX11_112 (ka hF 293 (by decide)) rfl rfl rfl rfl (Nat.le_of_ble_eq_true rfl) ?_
      refine WPM.of pX11 (Nat.le_of_ble_eq_true rfl) rfl ?_
      refine wp_aload_n dX11_louvre_0 rfl ?_
      refine wp_getr (gB G + 294) dX11_louvre_1 fX11_7 (ka hF 293 (by decide)) (hF.2 _ _) (rra 1 (isK_le (ka hF 293 (by decide))) (fun _ => rfl)) ?_
      refine wp_sipush (296 : Int32) dX11_louvre_4 (by decide) ?_
      refine wp_bipush (7 : Int32) dX11_louvre_7 (by decide) ?_
      refine wp_iload_n dX11_louvre_9 rfl ?_
      refine wp_imulv (nI (7 * i)) dX11_louvre_10 (nmul (a := 7) (b := i) (by omega)) ?_
      refine wp_iaddv (nI (7 * i + 296)) dX11_louvre_11 (nadd (a := 296) (b := 7 * i) (by omega)) ?_
      refine wp_iload_n dX11_louvre_12 rfl ?_
      refine wp_iaddv (nI (7 * i + 296)) dX11_louvre_13 (nadd (a := 7 * i + 296) (b := 0) (by omega)) ?_
      refine wp_ialdk (n := 1486) (7 * i + 296) (nI o) dX11_louvre_14 (ka hF 294 (by decide)) (la 294) (vin (by omega) (by decide)) (nIc (by omega)) (ho (by omega)) ?_
      refine wp_iret dX11_louvre_15 rfl ?_
      show WP G (d + 2) (0, 0) μX11_targetOf 7 [.ref (gB G + 293), .int (nI i), lvU, lvU] [.int (nI o), .ref (gB G + 293)] m _
      refine wp_iconst (1 : Int32) dX11_targetOf_7 (by decide) ?_
      refine wp_callV (As := [.int (nI o), .int (1 : Int32)]) (S := []) (b' := (0, 0)) (b := (0, 0)) dX11_targetOf_8 MX11_89 (ka hF 293 (by decide)) rfl rfl rfl rfl (Nat.le_of_ble_eq_true rfl) ?_
      refine WPM.of pX11 (Nat.le_of_ble_eq_true rfl) rfl ?_
      refine wp_aload_n dX11_node_0 rfl ?_
      refine wp_getr (gB G + 294) dX11_node_1 fX11_7 (ka hF 293 (by decide)) (hF.2 _ _) (rra 1 (isK_le (ka hF 293 (by decide))) (fun _ => rfl)) ?_
      refine wp_bipush (20 : Int32) dX11_node_4 (by decide) ?_
      refine wp_bipush (11 : Int32) dX11_node_6 (by decide) ?_
      refine wp_iload_n dX11_node_8 rfl ?_
      refine wp_imulv (nI (11 * o)) dX11_node_9 (nmul (a := 11) (b := o) (by omega)) ?_
      refine wp_iaddv (nI (11 * o + 20)) dX11_node_10 (nadd (a := 20) (b := 11 * o) (by omega)) ?_
      refine wp_iload_n dX11_node_11 rfl ?_
      refine wp_iaddv (nI (11 * o + 21)) dX11_node_12 (nadd (a := 11 * o + 20) (b := 1) (by omega)) ?_
      refine wp_ialdk (n := 1486) (11 * o + 21) (ai m (gB G + 294) (11 * o + 21)) dX11_node_13 (ka hF 294 (by decide)) (la 294) (vin (by omega) (by decide)) (nIc (by omega)) rfl ?_
      refine wp_iret dX11_node_14 rfl ?_
      show WP G (d + 2) (0, 0) μX11_targetOf 11 [.ref (gB G + 293), .int (nI i), lvU, lvU] [.int (ai m (gB G + 294) (11 * o + 21))] m _
      refine wp_aload_n dX11_targetOf_11 rfl ?_
      refine wp_iload_n dX11_targetOf_12 rfl ?_
      refine wp_iconst (2 : Int32) dX11_targetOf_13 (by decide) ?_
      refine wp_callV (As := [.int (nI i), .int (2 : Int32)]) (S := [.int (ai m (gB G + 294) (11 * o + 21))]) (b' := (0, 0)) (b := (0, 0)) dX11_targetOf_14 MX11_112 (ka hF 293 (by decide)) rfl rfl rfl rfl (Nat.le_of_ble_eq_true rfl) ?_
      refine WPM.of pX11 (Nat.le_of_ble_eq_true rfl) rfl ?_
      refine wp_aload_n dX11_louvre_0 rfl ?_
      refine wp_getr (gB G + 294) dX11_louvre_1 fX11_7 (ka hF 293 (by decide)) (hF.2 _ _) (rra 1 (isK_le (ka hF 293 (by decide))) (fun _ => rfl)) ?_
      refine wp_sipush (296 : Int32) dX11_louvre_4 (by decide) ?_
      refine wp_bipush (7 : Int32) dX11_louvre_7 (by decide) ?_
      refine wp_iload_n dX11_louvre_9 rfl ?_
      refine wp_imulv (nI (7 * i)) dX11_louvre_10 (nmul (a := 7) (b := i) (by omega)) ?_
      refine wp_iaddv (nI (7 * i + 296)) dX11_louvre_11 (nadd (a := 296) (b := 7 * i) (by omega)) ?_
      refine wp_iload_n dX11_louvre_12 rfl ?_
      refine wp_iaddv (nI (7 * i + 298)) dX11_louvre_13 (nadd (a := 7 * i + 296) (b := 2) (by omega)) ?_
      refine wp_ialdk (n := 1486) (7 * i + 298) (ai m (gB G + 294) (7 * i + 298)) dX11_louvre_14 (ka hF 294 (by decide)) (la 294) (vin (by omega) (by decide)) (nIc (by omega)) rfl ?_
      refine wp_iret dX11_louvre_15 rfl ?_
      show WP G (d + 2) (0, 0) μX11_targetOf 17 [.ref (gB G + 293), .int (nI i), lvU, lvU] [.int (ai m (gB G + 294) (7 * i + 298)), .int (ai m (gB G + 294) (11 * o + 21))] m _
      refine wp_isubv ((ai m (gB G + 294) (11 * o + 21)) - (ai m (gB G + 294) (7 * i + 298))) dX11_targetOf_17 rfl ?_
      refine wp_i2l dX11_targetOf_18 ?_
      refine wp_lstore_n dX11_targetOf_19 (by decide) rfl ?_
      refine wp_lload_n dX11_targetOf_20 rfl ?_
      refine wp_ldc2 dX11_targetOf_21 kX11_115 ?_
      refine wp_lmul dX11_targetOf_24 ?_
      refine wp_aload_n dX11_targetOf_25 rfl ?_
      refine wp_iload_n dX11_targetOf_26 rfl ?_
      refine wp_iconst (3 : Int32) dX11_targetOf_27 (by decide) ?_
      refine wp_callV (As := [.int (nI i), .int (3 : Int32)]) (S := [.long ((Int32.toInt64 ((ai m (gB G + 294) (11 * o + 21)) - (ai m (gB G + 294) (7 * i + 298)))) * (1000 : Int64))]) (b' := (0, 0)) (b := (0, 0)) dX11_targetOf_28 MX11_112 (ka hF 293 (by decide)) rfl rfl rfl rfl (Nat.le_of_ble_eq_true rfl) ?_
      refine WPM.of pX11 (Nat.le_of_ble_eq_true rfl) rfl ?_
      refine wp_aload_n dX11_louvre_0 rfl ?_
      refine wp_getr (gB G + 294) dX11_louvre_1 fX11_7 (ka hF 293 (by decide)) (hF.2 _ _) (rra 1 (isK_le (ka hF 293 (by decide))) (fun _ => rfl)) ?_
      refine wp_sipush (296 : Int32) dX11_louvre_4 (by decide) ?_
      refine wp_bipush (7 : Int32) dX11_louvre_7 (by decide) ?_
      refine wp_iload_n dX11_louvre_9 rfl ?_
      refine wp_imulv (nI (7 * i)) dX11_louvre_10 (nmul (a := 7) (b := i) (by omega)) ?_
      refine wp_iaddv (nI (7 * i + 296)) dX11_louvre_11 (nadd (a := 296) (b := 7 * i) (by omega)) ?_
      refine wp_iload_n dX11_louvre_12 rfl ?_
      refine wp_iaddv (nI (7 * i + 299)) dX11_louvre_13 (nadd (a := 7 * i + 296) (b := 3) (by omega)) ?_
      refine wp_ialdk (n := 1486) (7 * i + 299) (ai m (gB G + 294) (7 * i + 299)) dX11_louvre_14 (ka hF 294 (by decide)) (la 294) (vin (by omega) (by decide)) (nIc (by omega)) rfl ?_
      refine wp_iret dX11_louvre_15 rfl ?_
      show WP G (d + 2) (0, 0) μX11_targetOf 31 [.ref (gB G + 293), .int (nI i), .long (Int32.toInt64 ((ai m (gB G + 294) (11 * o + 21)) - (ai m (gB G + 294) (7 * i + 298)))), lvU] [.int (ai m (gB G + 294) (7 * i + 299)), .long ((Int32.toInt64 ((ai m (gB G + 294) (11 * o + 21)) - (ai m (gB G + 294) (7 * i + 298)))) * (1000 : Int64))] m _
      refine wp_aload_n dX11_targetOf_31 rfl ?_
      refine wp_iload_n dX11_targetOf_32 rfl ?_
      refine wp_iconst (2 : Int32) dX11_targetOf_33 (by decide) ?_
      refine wp_callV (As := [.int (nI i), .int (2 : Int32)]) (S := [.int (ai m (gB G + 294) (7 * i + 299)), .long ((Int32.toInt64 ((ai m (gB G + 294) (11 * o + 21)) - (ai m (gB G + 294) (7 * i + 298)))) * (1000 : Int64))]) (b' := (0, 0)) (b := (0, 0)) dX11_targetOf_34 MX11_112 (ka hF 293 (by decide)) rfl rfl rfl rfl (Nat.le_of_ble_eq_true rfl) ?_
      refine WPM.of pX11 (Nat.le_of_ble_eq_true rfl) rfl ?_
      refine wp_aload_n dX11_louvre_0 rfl ?_
      refine wp_getr (gB G + 294) dX11_louvre_1 fX11_7 (ka hF 293 (by decide)) (hF.2 _ _) (rra 1 (isK_le (ka hF 293 (by decide))) (fun _ => rfl)) ?_
      refine wp_sipush (296 : Int32) dX11_louvre_4 (by decide) ?_
      refine wp_bipush (7 : Int32) dX11_louvre_7 (by decide) ?_
      refine wp_iload_n dX11_louvre_9 rfl ?_
      refine wp_imulv (nI (7 * i)) dX11_louvre_10 (nmul (a := 7) (b := i) (by omega)) ?_
      refine wp_iaddv (nI (7 * i + 296)) dX11_louvre_11 (nadd (a := 296) (b := 7 * i) (by omega)) ?_
      refine wp_iload_n dX11_louvre_12 rfl ?_
      refine wp_iaddv (nI (7 * i + 298)) dX11_louvre_13 (nadd (a := 7 * i + 296) (b := 2) (by omega)) ?_
      refine wp_ialdk (n := 1486) (7 * i + 298) (ai m (gB G + 294) (7 * i + 298)) dX11_louvre_14 (ka hF 294 (by decide)) (la 294) (vin (by omega) (by decide)) (nIc (by omega)) rfl ?_
      refine wp_iret dX11_louvre_15 rfl ?_
      show WP G (d + 2) (0, 0) μX11_targetOf 37 [.ref (gB G + 293), .int (nI i), .long (Int32.toInt64 ((ai m (gB G + 294) (11 * o + 21)) - (ai m (gB G + 294) (7 * i + 298)))), lvU] [.int (ai m (gB G + 294) (7 * i + 298)), .int (ai m (gB G + 294) (7 * i + 299)), .long ((Int32.toInt64 ((ai m (gB G + 294) (11 * o + 21)) - (ai m (gB G + 294) (7 * i + 298)))) * (1000 : Int64))] m _
      refine wp_isubv ((ai m (gB G + 294) (7 * i + 299)) - (ai m (gB G + 294) (7 * i + 298))) dX11_targetOf_37 rfl ?_
      refine wp_i2l dX11_targetOf_38 ?_
      refine wp_ldiv dX11_targetOf_39 (g1 hp4 q5) ?_
      refine wp_lconst (0 : Int64) dX11_targetOf_40 (by decide) ?_
      refine wp_ldc2 dX11_targetOf_41 kX11_115 ?_
      refine wp_callS (As := [.long (((Int32.toInt64 ((ai m (gB G + 294) (11 * o + 21)) - (ai m (gB G + 294) (7 * i + 298)))) * (1000 : Int64)) / (Int32.toInt64 ((ai m (gB G + 294) (7 * i + 299)) - (ai m (gB G + 294) (7 * i + 298))))), .long (0 : Int64), .long (1000 : Int64)]) (S := []) (b' := (0, 0)) (b := (0, 0)) dX11_targetOf_44 MX11_117 rfl rfl (Nat.le_of_ble_eq_true rfl) ?_
      refine WPM.of pX11 (Nat.le_of_ble_eq_true rfl) rfl ?_
      refine wp_lload_n dX11_nearest_0 rfl ?_
      refine wp_lload dX11_nearest_1 rfl ?_
      refine wp_lload_n dX11_nearest_3 rfl ?_
      refine wp_minL dX11_nearest_4 AX11_58 (Nat.le_of_ble_eq_true rfl) ?_
      refine wp_maxL dX11_nearest_7 AX11_64 (Nat.le_of_ble_eq_true rfl) ?_
      refine wp_lret dX11_nearest_10 rfl ?_
      show WP G (d + 2) (0, 0) μX11_targetOf 47 [.ref (gB G + 293), .int (nI i), .long (Int32.toInt64 ((ai m (gB G + 294) (11 * o + 21)) - (ai m (gB G + 294) (7 * i + 298)))), lvU] [.long (lmax (0 : Int64) (lmin (1000 : Int64) (((Int32.toInt64 ((ai m (gB G + 294) (11 * o + 21)) - (ai m (gB G + 294) (7 * i + 298)))) * (1000 : Int64)) / (Int32.toInt64 ((ai m (gB G + 294) (7 * i + 299)) - (ai m (gB G + 294) (7 * i + 298)))))))] m _
      refine wp_l2i dX11_targetOf_47 ?_
      refine wp_iret dX11_targetOf_48 rfl ?_
      show WP G (d + 3) (0, 0) μX11_moveLouvres 32 [.ref (gB G + 293), .int (nI i), lvU, lvU] [.int (Int64.toInt32 (lmax (0 : Int64) (lmin (1000 : Int64) (((Int32.toInt64 ((ai m (gB G + 294) (11 * o + 21)) - (ai m (gB G + 294) (7 * i + 298)))) * (1000 : Int64)) / (Int32.toInt64 ((ai m (gB G + 294) (7 * i + 299)) - (ai m (gB G + 294) (7 * i + 298))))))))] m _
      refine wp_aload_n dX11_moveLouvres_32 rfl ?_
      refine wp_iload_n dX11_moveLouvres_33 rfl ?_
      refine wp_iconst (5 : Int32) dX11_moveLouvres_34 (by decide) ?_
      refine wp_callV (As := [.int (nI i), .int (5 : Int32)]) (S := [.int (Int64.toInt32 (lmax (0 : Int64) (lmin (1000 : Int64) (((Int32.toInt64 ((ai m (gB G + 294) (11 * o + 21)) - (ai m (gB G + 294) (7 * i + 298)))) * (1000 : Int64)) / (Int32.toInt64 ((ai m (gB G + 294) (7 * i + 299)) - (ai m (gB G + 294) (7 * i + 298))))))))]) (b' := (0, 0)) (b := (0, 0)) dX11_moveLouvres_35 MX11_112 (ka hF 293 (by decide)) rfl rfl rfl rfl (Nat.le_of_ble_eq_true rfl) ?_
      refine WPM.of pX11 (Nat.le_of_ble_eq_true rfl) rfl ?_
      refine wp_aload_n dX11_louvre_0 rfl ?_
      refine wp_getr (gB G + 294) dX11_louvre_1 fX11_7 (ka hF 293 (by decide)) (hF.2 _ _) (rra 1 (isK_le (ka hF 293 (by decide))) (fun _ => rfl)) ?_
      refine wp_sipush (296 : Int32) dX11_louvre_4 (by decide) ?_
      refine wp_bipush (7 : Int32) dX11_louvre_7 (by decide) ?_
      refine wp_iload_n dX11_louvre_9 rfl ?_
      refine wp_imulv (nI (7 * i)) dX11_louvre_10 (nmul (a := 7) (b := i) (by omega)) ?_
      refine wp_iaddv (nI (7 * i + 296)) dX11_louvre_11 (nadd (a := 296) (b := 7 * i) (by omega)) ?_
      refine wp_iload_n dX11_louvre_12 rfl ?_
      refine wp_iaddv (nI (7 * i + 301)) dX11_louvre_13 (nadd (a := 7 * i + 296) (b := 5) (by omega)) ?_
      refine wp_ialdk (n := 1486) (7 * i + 301) (ai m (gB G + 294) (7 * i + 301)) dX11_louvre_14 (ka hF 294 (by decide)) (la 294) (vin (by omega) (by decide)) (nIc (by omega)) rfl ?_
      refine wp_iret dX11_louvre_15 rfl ?_
      show WP G (d + 3) (0, 0) μX11_moveLouvres 38 [.ref (gB G + 293), .int (nI i), lvU, lvU] [.int (ai m (gB G + 294) (7 * i + 301)), .int (Int64.toInt32 (lmax (0 : Int64) (lmin (1000 : Int64) (((Int32.toInt64 ((ai m (gB G + 294) (11 * o + 21)) - (ai m (gB G + 294) (7 * i + 298)))) * (1000 : Int64)) / (Int32.toInt64 ((ai m (gB G + 294) (7 * i + 299)) - (ai m (gB G + 294) (7 * i + 298))))))))] m _
      refine wp_isubv ((Int64.toInt32 (lmax (0 : Int64) (lmin (1000 : Int64) (((Int32.toInt64 ((ai m (gB G + 294) (11 * o + 21)) - (ai m (gB G + 294) (7 * i + 298)))) * (1000 : Int64)) / (Int32.toInt64 ((ai m (gB G + 294) (7 * i + 299)) - (ai m (gB G + 294) (7 * i + 298)))))))) - (ai m (gB G + 294) (7 * i + 301))) dX11_moveLouvres_38 rfl ?_
      refine wp_istore_n dX11_moveLouvres_39 (by decide) rfl ?_
      refine wp_aload_n dX11_moveLouvres_40 rfl ?_
      refine wp_iload_n dX11_moveLouvres_41 rfl ?_
      refine wp_iconst (4 : Int32) dX11_moveLouvres_42 (by decide) ?_
      refine wp_callV (As := [.int (nI i), .int (4 : Int32)]) (S := []) (b' := (0, 0)) (b := (0, 0)) dX11_moveLouvres_43 MX11_112 (ka hF 293 (by decide)) rfl rfl rfl rfl (Nat.le_of_ble_eq_true rfl) ?_
      refine WPM.of pX11 (Nat.le_of_ble_eq_true rfl) rfl ?_
      refine wp_aload_n dX11_louvre_0 rfl ?_
      refine wp_getr (gB G + 294) dX11_louvre_1 fX11_7 (ka hF 293 (by decide)) (hF.2 _ _) (rra 1 (isK_le (ka hF 293 (by decide))) (fun _ => rfl)) ?_
      refine wp_sipush (296 : Int32) dX11_louvre_4 (by decide) ?_
      refine wp_bipush (7 : Int32) dX11_louvre_7 (by decide) ?_
      refine wp_iload_n dX11_louvre_9 rfl ?_
      refine wp_imulv (nI (7 * i)) dX11_louvre_10 (nmul (a := 7) (b := i) (by omega)) ?_
      refine wp_iaddv (nI (7 * i + 296)) dX11_louvre_11 (nadd (a := 296) (b := 7 * i) (by omega)) ?_
      refine wp_iload_n dX11_louvre_12 rfl ?_
      refine wp_iaddv (nI (7 * i + 300)) dX11_louvre_13 (nadd (a := 7 * i + 296) (b := 4) (by omega)) ?_
      refine wp_ialdk (n := 1486) (7 * i + 300) (ai m (gB G + 294) (7 * i + 300)) dX11_louvre_14 (ka hF 294 (by decide)) (la 294) (vin (by omega) (by decide)) (nIc (by omega)) rfl ?_
      refine wp_iret dX11_louvre_15 rfl ?_
      show WP G (d + 3) (0, 0) μX11_moveLouvres 46 [.ref (gB G + 293), .int (nI i), .int ((Int64.toInt32 (lmax (0 : Int64) (lmin (1000 : Int64) (((Int32.toInt64 ((ai m (gB G + 294) (11 * o + 21)) - (ai m (gB G + 294) (7 * i + 298)))) * (1000 : Int64)) / (Int32.toInt64 ((ai m (gB G + 294) (7 * i + 299)) - (ai m (gB G + 294) (7 * i + 298)))))))) - (ai m (gB G + 294) (7 * i + 301))), lvU] [.int (ai m (gB G + 294) (7 * i + 300))] m _
      refine wp_istore_n dX11_moveLouvres_46 (by decide) rfl ?_
      refine wp_aload_n dX11_moveLouvres_47 rfl ?_
      refine wp_getr (gB G + 294) dX11_moveLouvres_48 fX11_7 (ka hF 293 (by decide)) (hF.2 _ _) (rra 1 (isK_le (ka hF 293 (by decide))) (fun _ => rfl)) ?_
      refine wp_sipush (296 : Int32) dX11_moveLouvres_51 (by decide) ?_
      refine wp_bipush (7 : Int32) dX11_moveLouvres_54 (by decide) ?_
      refine wp_iload_n dX11_moveLouvres_56 rfl ?_
      refine wp_imulv (nI (7 * i)) dX11_moveLouvres_57 (nmul (a := 7) (b := i) (by omega)) ?_
      refine wp_iaddv (nI (7 * i + 296)) dX11_moveLouvres_58 (nadd (a := 296) (b := 7 * i) (by omega)) ?_
      refine wp_iconst (5 : Int32) dX11_moveLouvres_59 (by decide) ?_
      refine wp_iaddv (nI (7 * i + 301)) dX11_moveLouvres_60 (nadd (a := 7 * i + 296) (b := 5) (by omega)) ?_
      refine wp_dup2 dX11_moveLouvres_61 rfl rfl ?_
      refine wp_ialdk (n := 1486) (7 * i + 301) (ai m (gB G + 294) (7 * i + 301)) dX11_moveLouvres_62 (ka hF 294 (by decide)) (la 294) (vin (by omega) (by decide)) (nIc (by omega)) rfl ?_
      refine wp_iload_n dX11_moveLouvres_63 rfl ?_
      refine wp_i2l dX11_moveLouvres_64 ?_
      refine wp_iload_n dX11_moveLouvres_65 rfl ?_
      refine wp_ineg dX11_moveLouvres_66 ?_
      refine wp_i2l dX11_moveLouvres_67 ?_
      refine wp_iload_n dX11_moveLouvres_68 rfl ?_
      refine wp_i2l dX11_moveLouvres_69 ?_
      refine wp_callS (As := [.long (Int32.toInt64 ((Int64.toInt32 (lmax (0 : Int64) (lmin (1000 : Int64) (((Int32.toInt64 ((ai m (gB G + 294) (11 * o + 21)) - (ai m (gB G + 294) (7 * i + 298)))) * (1000 : Int64)) / (Int32.toInt64 ((ai m (gB G + 294) (7 * i + 299)) - (ai m (gB G + 294) (7 * i + 298)))))))) - (ai m (gB G + 294) (7 * i + 301)))), .long (Int32.toInt64 (-(ai m (gB G + 294) (7 * i + 300)))), .long (Int32.toInt64 (ai m (gB G + 294) (7 * i + 300)))]) (S := [.int (ai m (gB G + 294) (7 * i + 301)), .int (nI (7 * i + 301)), .ref (gB G + 294)]) (b' := (0, 0)) (b := (0, 0)) dX11_moveLouvres_70 MX11_117 rfl rfl (Nat.le_of_ble_eq_true rfl) ?_
      refine WPM.of pX11 (Nat.le_of_ble_eq_true rfl) rfl ?_
      refine wp_lload_n dX11_nearest_0 rfl ?_
      refine wp_lload dX11_nearest_1 rfl ?_
      refine wp_lload_n dX11_nearest_3 rfl ?_
      refine wp_minL dX11_nearest_4 AX11_58 (Nat.le_of_ble_eq_true rfl) ?_
      refine wp_maxL dX11_nearest_7 AX11_64 (Nat.le_of_ble_eq_true rfl) ?_
      refine wp_lret dX11_nearest_10 rfl ?_
      show WP G (d + 3) (0, 0) μX11_moveLouvres 73 [.ref (gB G + 293), .int (nI i), .int ((Int64.toInt32 (lmax (0 : Int64) (lmin (1000 : Int64) (((Int32.toInt64 ((ai m (gB G + 294) (11 * o + 21)) - (ai m (gB G + 294) (7 * i + 298)))) * (1000 : Int64)) / (Int32.toInt64 ((ai m (gB G + 294) (7 * i + 299)) - (ai m (gB G + 294) (7 * i + 298)))))))) - (ai m (gB G + 294) (7 * i + 301))), .int (ai m (gB G + 294) (7 * i + 300))] [.long (lmax (Int32.toInt64 (-(ai m (gB G + 294) (7 * i + 300)))) (lmin (Int32.toInt64 (ai m (gB G + 294) (7 * i + 300))) (Int32.toInt64 ((Int64.toInt32 (lmax (0 : Int64) (lmin (1000 : Int64) (((Int32.toInt64 ((ai m (gB G + 294) (11 * o + 21)) - (ai m (gB G + 294) (7 * i + 298)))) * (1000 : Int64)) / (Int32.toInt64 ((ai m (gB G + 294) (7 * i + 299)) - (ai m (gB G + 294) (7 * i + 298)))))))) - (ai m (gB G + 294) (7 * i + 301)))))), .int (ai m (gB G + 294) (7 * i + 301)), .int (nI (7 * i + 301)), .ref (gB G + 294)] m _
      refine wp_l2i dX11_moveLouvres_73 ?_
      refine wp_iaddv ((ai m (gB G + 294) (7 * i + 301)) + (Int64.toInt32 (lmax (Int32.toInt64 (-(ai m (gB G + 294) (7 * i + 300)))) (lmin (Int32.toInt64 (ai m (gB G + 294) (7 * i + 300))) (Int32.toInt64 ((Int64.toInt32 (lmax (0 : Int64) (lmin (1000 : Int64) (((Int32.toInt64 ((ai m (gB G + 294) (11 * o + 21)) - (ai m (gB G + 294) (7 * i + 298)))) * (1000 : Int64)) / (Int32.toInt64 ((ai m (gB G + 294) (7 * i + 299)) - (ai m (gB G + 294) (7 * i + 298)))))))) - (ai m (gB G + 294) (7 * i + 301)))))))) dX11_moveLouvres_74 rfl ?_
      refine wp_iastk (n := 1486) (7 * i + 301) dX11_moveLouvres_75 (ka hF 294 (by decide)) (la 294) (vin (by omega) (by decide))  (nIc (by omega)) ?_
      have hF7 := Full_wai (gB G + 294) (7 * i + 301) ((ai m (gB G + 294) (7 * i + 301)) + (Int64.toInt32 (lmax (Int32.toInt64 (-(ai m (gB G + 294) (7 * i + 300)))) (lmin (Int32.toInt64 (ai m (gB G + 294) (7 * i + 300))) (Int32.toInt64 ((Int64.toInt32 (lmax (0 : Int64) (lmin (1000 : Int64) (((Int32.toInt64 ((ai m (gB G + 294) (11 * o + 21)) - (ai m (gB G + 294) (7 * i + 298)))) * (1000 : Int64)) / (Int32.toInt64 ((ai m (gB G + 294) (7 * i + 299)) - (ai m (gB G + 294) (7 * i + 298)))))))) - (ai m (gB G + 294) (7 * i + 301)))))))) hF
      refine wp_iinc (nI (i + 1)) dX11_moveLouvres_76 rfl (by decide) (nadd (a := i) (b := 1) (by omega)) rfl ?_
      refine wp_goto 2 dX11_moveLouvres_79 (by decide) ?_
      refine wp_forget [.ref (gB G + 293), .int (nI (i + 1)), lvU, lvU] ⟨Or.inl rfl, Or.inl rfl, Or.inr rfl, Or.inr rfl, trivial⟩ ?_
      exact e2 hp4 q5
    · skip
      refine wp_goto 76 dX11_moveLouvres_24 (by decide) ?_
      refine wp_iinc (nI (i + 1)) dX11_moveLouvres_76 rfl (by decide) (nadd (a := i) (b := 1) (by omega)) rfl ?_
      refine wp_goto 2 dX11_moveLouvres_79 (by decide) ?_
      refine wp_forget [.ref (gB G + 293), .int (nI (i + 1)), lvU, lvU] ⟨Or.inl rfl, Or.inl rfl, Or.inr rfl, Or.inr rfl, trivial⟩ ?_
      exact e3 hp4 q6

theorem eM_sw {G : Cx} {d : Nat} {m : Mm} {Q : Option Value → Mm → Prop}  (hF : Full G m) 
    (e1 : WPM G (d + 2) (0, 0) μX11_isSunlit [.ref (gB G + 293)] m (fun r' m' => WP G (d + 3) (0, 0) μX11_switchHeaters 4 [.ref (gB G + 293), lvU, lvU, lvU, lvU, lvU, lvU, lvU] (r'.toList ++ []) m' Q)) :
    WPM G (d + 3) (0, 0) μX11_switchHeaters [.ref (gB G + 293)] m Q := by
  refine WPM.of pX11 (Nat.le_of_ble_eq_true rfl) rfl ?_
  refine wp_aload_n dX11_switchHeaters_0 rfl ?_
  refine wp_callV (As := []) (S := []) (b' := (0, 0)) (b := (0, 0)) dX11_switchHeaters_1 MX11_135 (ka hF 293 (by decide)) rfl rfl rfl rfl (Nat.le_of_ble_eq_true rfl) ?_
  exact e1

theorem bM_sw0 {G : Cx} {d : Nat} {m : Mm} {Q : Option Value → Mm → Prop} {r : Int32} (hF : Full G m) 
    (g1 : r = 0 → ¬ (ai m (gB G + 294) 1) = 0)
    (g2 : ¬ r = 0 → ¬ (ai m (gB G + 294) 1) = 0)
    (e1 : r = 0 → WP G (d + 3) (0, 0) μX11_switchHeaters 54 [.ref (gB G + 293), .long (0 : Int64), lvU, .long (lmax (0 : Int64) (((Int32.toInt64 ((ai m (gB G + 294) 11) / (ai m (gB G + 294) 1))) - (Int32.toInt64 (ai m (gB G + 294) 9))) + (0 : Int64))), lvU, .int (0 : Int32), lvU, lvU] [] m Q)
    (e2 : ¬ r = 0 → WP G (d + 3) (0, 0) μX11_switchHeaters 54 [.ref (gB G + 293), .long (Int32.toInt64 (ai m (gB G + 294) 8)), lvU, .long (lmax (0 : Int64) (((Int32.toInt64 ((ai m (gB G + 294) 11) / (ai m (gB G + 294) 1))) - (Int32.toInt64 (ai m (gB G + 294) 9))) + (Int32.toInt64 (ai m (gB G + 294) 8)))), lvU, .int (0 : Int32), lvU, lvU] [] m Q) :
    WP G (d + 3) (0, 0) μX11_switchHeaters 4 [.ref (gB G + 293), lvU, lvU, lvU, lvU, lvU, lvU, lvU] [.int r] m Q := by
  refine wp_if_eq 18 dX11_switchHeaters_4 (by decide) (fun q1 => ?_) (fun q2 => ?_)
  · skip
    refine wp_lconst (0 : Int64) dX11_switchHeaters_18 (by decide) ?_
    refine wp_lstore_n dX11_switchHeaters_19 (by decide) rfl ?_
    refine wp_lconst (0 : Int64) dX11_switchHeaters_20 (by decide) ?_
    refine wp_aload_n dX11_switchHeaters_21 rfl ?_
    refine wp_getr (gB G + 294) dX11_switchHeaters_22 fX11_7 (ka hF 293 (by decide)) (hF.2 _ _) (rra 1 (isK_le (ka hF 293 (by decide))) (fun _ => rfl)) ?_
    refine wp_bipush (11 : Int32) dX11_switchHeaters_25 (by decide) ?_
    refine wp_ialdk (n := 1486) 11 (ai m (gB G + 294) 11) dX11_switchHeaters_27 (ka hF 294 (by decide)) (la 294) (vinl (by decide)) rfl rfl ?_
    refine wp_aload_n dX11_switchHeaters_28 rfl ?_
    refine wp_getr (gB G + 294) dX11_switchHeaters_29 fX11_7 (ka hF 293 (by decide)) (hF.2 _ _) (rra 1 (isK_le (ka hF 293 (by decide))) (fun _ => rfl)) ?_
    refine wp_iconst (1 : Int32) dX11_switchHeaters_32 (by decide) ?_
    refine wp_ialdk (n := 1486) 1 (ai m (gB G + 294) 1) dX11_switchHeaters_33 (ka hF 294 (by decide)) (la 294) (vinl (by decide)) rfl rfl ?_
    refine wp_idiv dX11_switchHeaters_34 (g1 q1) ?_
    refine wp_i2l dX11_switchHeaters_35 ?_
    refine wp_aload_n dX11_switchHeaters_36 rfl ?_
    refine wp_getr (gB G + 294) dX11_switchHeaters_37 fX11_7 (ka hF 293 (by decide)) (hF.2 _ _) (rra 1 (isK_le (ka hF 293 (by decide))) (fun _ => rfl)) ?_
    refine wp_bipush (9 : Int32) dX11_switchHeaters_40 (by decide) ?_
    refine wp_ialdk (n := 1486) 9 (ai m (gB G + 294) 9) dX11_switchHeaters_42 (ka hF 294 (by decide)) (la 294) (vinl (by decide)) rfl rfl ?_
    refine wp_i2l dX11_switchHeaters_43 ?_
    refine wp_lsub dX11_switchHeaters_44 ?_
    refine wp_lload_n dX11_switchHeaters_45 rfl ?_
    refine wp_ladd dX11_switchHeaters_46 ?_
    refine wp_maxL dX11_switchHeaters_47 AX11_64 (Nat.le_of_ble_eq_true rfl) ?_
    refine wp_lstore_n dX11_switchHeaters_50 (by decide) rfl ?_
    refine wp_iconst (0 : Int32) dX11_switchHeaters_51 (by decide) ?_
    refine wp_istore dX11_switchHeaters_52 (by decide) rfl ?_
    refine wp_forget [.ref (gB G + 293), .long (0 : Int64), lvU, .long (lmax (0 : Int64) (((Int32.toInt64 ((ai m (gB G + 294) 11) / (ai m (gB G + 294) 1))) - (Int32.toInt64 (ai m (gB G + 294) 9))) + (0 : Int64))), lvU, .int (0 : Int32), lvU, lvU] ⟨Or.inl rfl, Or.inl rfl, Or.inr rfl, Or.inl rfl, Or.inr rfl, Or.inl rfl, Or.inr rfl, Or.inr rfl, trivial⟩ ?_
    exact e1 q1
  · skip
    refine wp_aload_n dX11_switchHeaters_7 rfl ?_
    refine wp_getr (gB G + 294) dX11_switchHeaters_8 fX11_7 (ka hF 293 (by decide)) (hF.2 _ _) (rra 1 (isK_le (ka hF 293 (by decide))) (fun _ => rfl)) ?_
    refine wp_bipush (8 : Int32) dX11_switchHeaters_11 (by decide) ?_
    refine wp_ialdk (n := 1486) 8 (ai m (gB G + 294) 8) dX11_switchHeaters_13 (ka hF 294 (by decide)) (la 294) (vinl (by decide)) rfl rfl ?_
    refine wp_i2l dX11_switchHeaters_14 ?_
    refine wp_goto 19 dX11_switchHeaters_15 (by decide) ?_
    refine wp_lstore_n dX11_switchHeaters_19 (by decide) rfl ?_
    refine wp_lconst (0 : Int64) dX11_switchHeaters_20 (by decide) ?_
    refine wp_aload_n dX11_switchHeaters_21 rfl ?_
    refine wp_getr (gB G + 294) dX11_switchHeaters_22 fX11_7 (ka hF 293 (by decide)) (hF.2 _ _) (rra 1 (isK_le (ka hF 293 (by decide))) (fun _ => rfl)) ?_
    refine wp_bipush (11 : Int32) dX11_switchHeaters_25 (by decide) ?_
    refine wp_ialdk (n := 1486) 11 (ai m (gB G + 294) 11) dX11_switchHeaters_27 (ka hF 294 (by decide)) (la 294) (vinl (by decide)) rfl rfl ?_
    refine wp_aload_n dX11_switchHeaters_28 rfl ?_
    refine wp_getr (gB G + 294) dX11_switchHeaters_29 fX11_7 (ka hF 293 (by decide)) (hF.2 _ _) (rra 1 (isK_le (ka hF 293 (by decide))) (fun _ => rfl)) ?_
    refine wp_iconst (1 : Int32) dX11_switchHeaters_32 (by decide) ?_
    refine wp_ialdk (n := 1486) 1 (ai m (gB G + 294) 1) dX11_switchHeaters_33 (ka hF 294 (by decide)) (la 294) (vinl (by decide)) rfl rfl ?_
    refine wp_idiv dX11_switchHeaters_34 (g2 q2) ?_
    refine wp_i2l dX11_switchHeaters_35 ?_
    refine wp_aload_n dX11_switchHeaters_36 rfl ?_
    refine wp_getr (gB G + 294) dX11_switchHeaters_37 fX11_7 (ka hF 293 (by decide)) (hF.2 _ _) (rra 1 (isK_le (ka hF 293 (by decide))) (fun _ => rfl)) ?_
    refine wp_bipush (9 : Int32) dX11_switchHeaters_40 (by decide) ?_
    refine wp_ialdk (n := 1486) 9 (ai m (gB G + 294) 9) dX11_switchHeaters_42 (ka hF 294 (by decide)) (la 294) (vinl (by decide)) rfl rfl ?_
    refine wp_i2l dX11_switchHeaters_43 ?_
    refine wp_lsub dX11_switchHeaters_44 ?_
    refine wp_lload_n dX11_switchHeaters_45 rfl ?_
    refine wp_ladd dX11_switchHeaters_46 ?_
    refine wp_maxL dX11_switchHeaters_47 AX11_64 (Nat.le_of_ble_eq_true rfl) ?_
    refine wp_lstore_n dX11_switchHeaters_50 (by decide) rfl ?_
    refine wp_iconst (0 : Int32) dX11_switchHeaters_51 (by decide) ?_
    refine wp_istore dX11_switchHeaters_52 (by decide) rfl ?_
    refine wp_forget [.ref (gB G + 293), .long (Int32.toInt64 (ai m (gB G + 294) 8)), lvU, .long (lmax (0 : Int64) (((Int32.toInt64 ((ai m (gB G + 294) 11) / (ai m (gB G + 294) 1))) - (Int32.toInt64 (ai m (gB G + 294) 9))) + (Int32.toInt64 (ai m (gB G + 294) 8)))), lvU, .int (0 : Int32), lvU, lvU] ⟨Or.inl rfl, Or.inl rfl, Or.inr rfl, Or.inl rfl, Or.inr rfl, Or.inl rfl, Or.inr rfl, Or.inr rfl, trivial⟩ ?_
    exact e2 q2

theorem bM_sw1 {G : Cx} {d : Nat} {m : Mm} {Q : Option Value → Mm → Prop} {a v : Int64} {h n o : Nat} (hF : Full G m) (hn : ai m (gB G + 294) 14 = nI n) (h8 : n ≤ 8) (hh : h ≤ n) (ho : h < n → ai m (gB G + 294) (8 * h + 338) = nI o) (h12 : o < 12)
    (e1 : ¬ h < n → WP G (d + 3) (0, 0) μX11_switchHeaters 117 [.ref (gB G + 293), .long a, lvU, .long v, lvU, .int (9 : Int32), lvU, lvU] [] m Q)
    (e2 : h < n → (ai m (gB G + 294) (8 * h + 343)) = 0 → ¬ (ai m (gB G + 294) (11 * o + 21)) < (ai m (gB G + 294) (8 * h + 340)) → ¬ (ai m (gB G + 294) (8 * h + 341)) < (ai m (gB G + 294) (11 * o + 21)) → WP G (d + 3) (0, 0) μX11_switchHeaters 54 [.ref (gB G + 293), .long a, lvU, .long v, lvU, .int (nI (h + 1)), lvU, lvU] [] (wai (wai m (gB G + 294) (8 * h + 344) (ai m (gB G + 294) (8 * h + 344))) (gB G + 294) (8 * h + 345) (0 : Int32)) Q)
    (e3 : h < n → (ai m (gB G + 294) (8 * h + 343)) = 0 → ¬ (ai m (gB G + 294) (11 * o + 21)) < (ai m (gB G + 294) (8 * h + 340)) → (ai m (gB G + 294) (8 * h + 341)) < (ai m (gB G + 294) (11 * o + 21)) → WP G (d + 3) (0, 0) μX11_switchHeaters 54 [.ref (gB G + 293), .long a, lvU, .long v, lvU, .int (nI (h + 1)), lvU, lvU] [] (wai (wai m (gB G + 294) (8 * h + 344) (0 : Int32)) (gB G + 294) (8 * h + 345) (0 : Int32)) Q)
    (e4 : h < n → (ai m (gB G + 294) (8 * h + 343)) = 0 → (ai m (gB G + 294) (11 * o + 21)) < (ai m (gB G + 294) (8 * h + 340)) → WP G (d + 3) (0, 0) μX11_switchHeaters 54 [.ref (gB G + 293), .long a, lvU, .long v, lvU, .int (nI (h + 1)), lvU, lvU] [] (wai (wai m (gB G + 294) (8 * h + 344) (1 : Int32)) (gB G + 294) (8 * h + 345) (0 : Int32)) Q)
    (e5 : h < n → ¬ (ai m (gB G + 294) (8 * h + 343)) = 0 → ¬ (ai m (gB G + 294) (8 * h + 343)) = (1 : Int32) → WP G (d + 3) (0, 0) μX11_switchHeaters 54 [.ref (gB G + 293), .long a, lvU, .long v, lvU, .int (nI (h + 1)), lvU, lvU] [] (wai (wai m (gB G + 294) (8 * h + 344) (0 : Int32)) (gB G + 294) (8 * h + 345) (0 : Int32)) Q)
    (e6 : h < n → ¬ (ai m (gB G + 294) (8 * h + 343)) = 0 → (ai m (gB G + 294) (8 * h + 343)) = (1 : Int32) → WP G (d + 3) (0, 0) μX11_switchHeaters 54 [.ref (gB G + 293), .long a, lvU, .long v, lvU, .int (nI (h + 1)), lvU, lvU] [] (wai (wai m (gB G + 294) (8 * h + 344) (1 : Int32)) (gB G + 294) (8 * h + 345) (0 : Int32)) Q) :
    WP G (d + 3) (0, 0) μX11_switchHeaters 54 [.ref (gB G + 293), .long a, lvU, .long v, lvU, .int (nI h), lvU, lvU] [] m Q := by
  refine wp_iload dX11_switchHeaters_54 rfl ?_
  refine wp_aload_n dX11_switchHeaters_56 rfl ?_
  refine wp_getr (gB G + 294) dX11_switchHeaters_57 fX11_7 (ka hF 293 (by decide)) (hF.2 _ _) (rra 1 (isK_le (ka hF 293 (by decide))) (fun _ => rfl)) ?_
  refine wp_bipush (14 : Int32) dX11_switchHeaters_60 (by decide) ?_
  refine wp_ialdk (n := 1486) 14 (nI n) dX11_switchHeaters_62 (ka hF 294 (by decide)) (la 294) (vinl (by decide)) rfl hn ?_
  refine wp_icmp_ge 113 dX11_switchHeaters_63 (by decide) (fun q1 => ?_) (fun q2 => ?_)
  · have hp3 : ¬ h < n := (fun z => q1 (nlt_ z (by omega)))
    refine wp_bipush (9 : Int32) dX11_switchHeaters_113 (by decide) ?_
    refine wp_istore dX11_switchHeaters_115 (by decide) rfl ?_
    refine wp_forget [.ref (gB G + 293), .long a, lvU, .long v, lvU, .int (9 : Int32), lvU, lvU] ⟨Or.inl rfl, Or.inl rfl, Or.inr rfl, Or.inl rfl, Or.inr rfl, Or.inl rfl, Or.inr rfl, Or.inr rfl, trivial⟩ ?_
    exact e1 hp3
  · have hp4 : h < n := (nlt q2 (by omega) (by omega))
    refine wp_aload_n dX11_switchHeaters_66 rfl ?_
    refine wp_getr (gB G + 294) dX11_switchHeaters_67 fX11_7 (ka hF 293 (by decide)) (hF.2 _ _) (rra 1 (isK_le (ka hF 293 (by decide))) (fun _ => rfl)) ?_
    refine wp_sipush (338 : Int32) dX11_switchHeaters_70 (by decide) ?_
    refine wp_bipush (8 : Int32) dX11_switchHeaters_73 (by decide) ?_
    refine wp_iload dX11_switchHeaters_75 rfl ?_
    refine wp_imulv (nI (8 * h)) dX11_switchHeaters_77 (nmul (a := 8) (b := h) (by omega)) ?_
    refine wp_iaddv (nI (8 * h + 338)) dX11_switchHeaters_78 (nadd (a := 338) (b := 8 * h) (by omega)) ?_
    refine wp_bipush (6 : Int32) dX11_switchHeaters_79 (by decide) ?_
    refine wp_iaddv (nI (8 * h + 344)) dX11_switchHeaters_81 (nadd (a := 8 * h + 338) (b := 6) (by omega)) ?_
    refine wp_aload_n dX11_switchHeaters_82 rfl ?_
    refine wp_iload dX11_switchHeaters_83 rfl ?_
    refine wp_callV (As := [.int (nI h)]) (S := [.int (nI (8 * h + 344)), .ref (gB G + 294)]) (b' := (0, 0)) (b := (0, 0)) dX11_switchHeaters_85 MX11_139 (ka hF 293 (by decide)) rfl rfl rfl rfl (Nat.le_of_ble_eq_true rfl) ?_
    refine WPM.of pX11 (Nat.le_of_ble_eq_true rfl) rfl ?_
    refine wp_aload_n dX11_wishOf_0 rfl ?_
    refine wp_iload_n dX11_wishOf_1 rfl ?_
    refine wp_iconst (5 : Int32) dX11_wishOf_2 (by decide) ?_
    refine wp_callV (As := [.int (nI h), .int (5 : Int32)]) (S := []) (b' := (0, 0)) (b := (0, 0)) dX11_wishOf_3 MX11_128 (ka hF 293 (by decide)) rfl rfl rfl rfl (Nat.le_of_ble_eq_true rfl) ?_
    refine WPM.of pX11 (Nat.le_of_ble_eq_true rfl) rfl ?_
    refine wp_aload_n dX11_heater_0 rfl ?_
    refine wp_getr (gB G + 294) dX11_heater_1 fX11_7 (ka hF 293 (by decide)) (hF.2 _ _) (rra 1 (isK_le (ka hF 293 (by decide))) (fun _ => rfl)) ?_
    refine wp_sipush (338 : Int32) dX11_heater_4 (by decide) ?_
    refine wp_bipush (8 : Int32) dX11_heater_7 (by decide) ?_
    refine wp_iload_n dX11_heater_9 rfl ?_
    refine wp_imulv (nI (8 * h)) dX11_heater_10 (nmul (a := 8) (b := h) (by omega)) ?_
    refine wp_iaddv (nI (8 * h + 338)) dX11_heater_11 (nadd (a := 338) (b := 8 * h) (by omega)) ?_
    refine wp_iload_n dX11_heater_12 rfl ?_
    refine wp_iaddv (nI (8 * h + 343)) dX11_heater_13 (nadd (a := 8 * h + 338) (b := 5) (by omega)) ?_
    refine wp_ialdk (n := 1486) (8 * h + 343) (ai m (gB G + 294) (8 * h + 343)) dX11_heater_14 (ka hF 294 (by decide)) (la 294) (vin (by omega) (by decide)) (nIc (by omega)) rfl ?_
    refine wp_iret dX11_heater_15 rfl ?_
    show WP G (d + 2) (0, 0) μX11_wishOf 6 [.ref (gB G + 293), .int (nI h), lvU, lvU] [.int (ai m (gB G + 294) (8 * h + 343))] m _
    refine wp_istore_n dX11_wishOf_6 (by decide) rfl ?_
    refine wp_iload_n dX11_wishOf_7 rfl ?_
    refine wp_if_eq 22 dX11_wishOf_8 (by decide) (fun q5 => ?_) (fun q6 => ?_)
    · skip
      refine wp_aload_n dX11_wishOf_22 rfl ?_
      refine wp_aload_n dX11_wishOf_23 rfl ?_
      refine wp_iload_n dX11_wishOf_24 rfl ?_
      refine wp_iconst (0 : Int32) dX11_wishOf_25 (by decide) ?_
      refine wp_callV (As := [.int (nI h), .int (0 : Int32)]) (S := [.ref (gB G + 293)]) (b' := (0, 0)) (b := (0, 0)) dX11_wishOf_26 MX11_128 (ka hF 293 (by decide)) rfl rfl rfl rfl (Nat.le_of_ble_eq_true rfl) ?_
      refine WPM.of pX11 (Nat.le_of_ble_eq_true rfl) rfl ?_
      refine wp_aload_n dX11_heater_0 rfl ?_
      refine wp_getr (gB G + 294) dX11_heater_1 fX11_7 (ka hF 293 (by decide)) (hF.2 _ _) (rra 1 (isK_le (ka hF 293 (by decide))) (fun _ => rfl)) ?_
      refine wp_sipush (338 : Int32) dX11_heater_4 (by decide) ?_
      refine wp_bipush (8 : Int32) dX11_heater_7 (by decide) ?_
      refine wp_iload_n dX11_heater_9 rfl ?_
      refine wp_imulv (nI (8 * h)) dX11_heater_10 (nmul (a := 8) (b := h) (by omega)) ?_
      refine wp_iaddv (nI (8 * h + 338)) dX11_heater_11 (nadd (a := 338) (b := 8 * h) (by omega)) ?_
      refine wp_iload_n dX11_heater_12 rfl ?_
      refine wp_iaddv (nI (8 * h + 338)) dX11_heater_13 (nadd (a := 8 * h + 338) (b := 0) (by omega)) ?_
      refine wp_ialdk (n := 1486) (8 * h + 338) (nI o) dX11_heater_14 (ka hF 294 (by decide)) (la 294) (vin (by omega) (by decide)) (nIc (by omega)) (ho (by omega)) ?_
      refine wp_iret dX11_heater_15 rfl ?_
      show WP G (d + 2) (0, 0) μX11_wishOf 29 [.ref (gB G + 293), .int (nI h), .int (ai m (gB G + 294) (8 * h + 343)), lvU] [.int (nI o), .ref (gB G + 293)] m _
      refine wp_iconst (1 : Int32) dX11_wishOf_29 (by decide) ?_
      refine wp_callV (As := [.int (nI o), .int (1 : Int32)]) (S := []) (b' := (0, 0)) (b := (0, 0)) dX11_wishOf_30 MX11_89 (ka hF 293 (by decide)) rfl rfl rfl rfl (Nat.le_of_ble_eq_true rfl) ?_
      refine WPM.of pX11 (Nat.le_of_ble_eq_true rfl) rfl ?_
      refine wp_aload_n dX11_node_0 rfl ?_
      refine wp_getr (gB G + 294) dX11_node_1 fX11_7 (ka hF 293 (by decide)) (hF.2 _ _) (rra 1 (isK_le (ka hF 293 (by decide))) (fun _ => rfl)) ?_
      refine wp_bipush (20 : Int32) dX11_node_4 (by decide) ?_
      refine wp_bipush (11 : Int32) dX11_node_6 (by decide) ?_
      refine wp_iload_n dX11_node_8 rfl ?_
      refine wp_imulv (nI (11 * o)) dX11_node_9 (nmul (a := 11) (b := o) (by omega)) ?_
      refine wp_iaddv (nI (11 * o + 20)) dX11_node_10 (nadd (a := 20) (b := 11 * o) (by omega)) ?_
      refine wp_iload_n dX11_node_11 rfl ?_
      refine wp_iaddv (nI (11 * o + 21)) dX11_node_12 (nadd (a := 11 * o + 20) (b := 1) (by omega)) ?_
      refine wp_ialdk (n := 1486) (11 * o + 21) (ai m (gB G + 294) (11 * o + 21)) dX11_node_13 (ka hF 294 (by decide)) (la 294) (vin (by omega) (by decide)) (nIc (by omega)) rfl ?_
      refine wp_iret dX11_node_14 rfl ?_
      show WP G (d + 2) (0, 0) μX11_wishOf 33 [.ref (gB G + 293), .int (nI h), .int (ai m (gB G + 294) (8 * h + 343)), lvU] [.int (ai m (gB G + 294) (11 * o + 21))] m _
      refine wp_istore_n dX11_wishOf_33 (by decide) rfl ?_
      refine wp_iload_n dX11_wishOf_34 rfl ?_
      refine wp_aload_n dX11_wishOf_35 rfl ?_
      refine wp_iload_n dX11_wishOf_36 rfl ?_
      refine wp_iconst (2 : Int32) dX11_wishOf_37 (by decide) ?_
      refine wp_callV (As := [.int (nI h), .int (2 : Int32)]) (S := [.int (ai m (gB G + 294) (11 * o + 21))]) (b' := (0, 0)) (b := (0, 0)) dX11_wishOf_38 MX11_128 (ka hF 293 (by decide)) rfl rfl rfl rfl (Nat.le_of_ble_eq_true rfl) ?_
      refine WPM.of pX11 (Nat.le_of_ble_eq_true rfl) rfl ?_
      refine wp_aload_n dX11_heater_0 rfl ?_
      refine wp_getr (gB G + 294) dX11_heater_1 fX11_7 (ka hF 293 (by decide)) (hF.2 _ _) (rra 1 (isK_le (ka hF 293 (by decide))) (fun _ => rfl)) ?_
      refine wp_sipush (338 : Int32) dX11_heater_4 (by decide) ?_
      refine wp_bipush (8 : Int32) dX11_heater_7 (by decide) ?_
      refine wp_iload_n dX11_heater_9 rfl ?_
      refine wp_imulv (nI (8 * h)) dX11_heater_10 (nmul (a := 8) (b := h) (by omega)) ?_
      refine wp_iaddv (nI (8 * h + 338)) dX11_heater_11 (nadd (a := 338) (b := 8 * h) (by omega)) ?_
      refine wp_iload_n dX11_heater_12 rfl ?_
      refine wp_iaddv (nI (8 * h + 340)) dX11_heater_13 (nadd (a := 8 * h + 338) (b := 2) (by omega)) ?_
      refine wp_ialdk (n := 1486) (8 * h + 340) (ai m (gB G + 294) (8 * h + 340)) dX11_heater_14 (ka hF 294 (by decide)) (la 294) (vin (by omega) (by decide)) (nIc (by omega)) rfl ?_
      refine wp_iret dX11_heater_15 rfl ?_
      show WP G (d + 2) (0, 0) μX11_wishOf 41 [.ref (gB G + 293), .int (nI h), .int (ai m (gB G + 294) (8 * h + 343)), .int (ai m (gB G + 294) (11 * o + 21))] [.int (ai m (gB G + 294) (8 * h + 340)), .int (ai m (gB G + 294) (11 * o + 21))] m _
      refine wp_icmp_ge 46 dX11_wishOf_41 (by decide) (fun q7 => ?_) (fun q8 => ?_)
      · skip
        refine wp_iload_n dX11_wishOf_46 rfl ?_
        refine wp_aload_n dX11_wishOf_47 rfl ?_
        refine wp_iload_n dX11_wishOf_48 rfl ?_
        refine wp_iconst (3 : Int32) dX11_wishOf_49 (by decide) ?_
        refine wp_callV (As := [.int (nI h), .int (3 : Int32)]) (S := [.int (ai m (gB G + 294) (11 * o + 21))]) (b' := (0, 0)) (b := (0, 0)) dX11_wishOf_50 MX11_128 (ka hF 293 (by decide)) rfl rfl rfl rfl (Nat.le_of_ble_eq_true rfl) ?_
        refine WPM.of pX11 (Nat.le_of_ble_eq_true rfl) rfl ?_
        refine wp_aload_n dX11_heater_0 rfl ?_
        refine wp_getr (gB G + 294) dX11_heater_1 fX11_7 (ka hF 293 (by decide)) (hF.2 _ _) (rra 1 (isK_le (ka hF 293 (by decide))) (fun _ => rfl)) ?_
        refine wp_sipush (338 : Int32) dX11_heater_4 (by decide) ?_
        refine wp_bipush (8 : Int32) dX11_heater_7 (by decide) ?_
        refine wp_iload_n dX11_heater_9 rfl ?_
        refine wp_imulv (nI (8 * h)) dX11_heater_10 (nmul (a := 8) (b := h) (by omega)) ?_
        refine wp_iaddv (nI (8 * h + 338)) dX11_heater_11 (nadd (a := 338) (b := 8 * h) (by omega)) ?_
        refine wp_iload_n dX11_heater_12 rfl ?_
        refine wp_iaddv (nI (8 * h + 341)) dX11_heater_13 (nadd (a := 8 * h + 338) (b := 3) (by omega)) ?_
        refine wp_ialdk (n := 1486) (8 * h + 341) (ai m (gB G + 294) (8 * h + 341)) dX11_heater_14 (ka hF 294 (by decide)) (la 294) (vin (by omega) (by decide)) (nIc (by omega)) rfl ?_
        refine wp_iret dX11_heater_15 rfl ?_
        show WP G (d + 2) (0, 0) μX11_wishOf 53 [.ref (gB G + 293), .int (nI h), .int (ai m (gB G + 294) (8 * h + 343)), .int (ai m (gB G + 294) (11 * o + 21))] [.int (ai m (gB G + 294) (8 * h + 341)), .int (ai m (gB G + 294) (11 * o + 21))] m _
        refine wp_icmp_le 60 dX11_wishOf_53 (by decide) (fun q9 => ?_) (fun q10 => ?_)
        · skip
          refine wp_aload_n dX11_wishOf_60 rfl ?_
          refine wp_iload_n dX11_wishOf_61 rfl ?_
          refine wp_bipush (6 : Int32) dX11_wishOf_62 (by decide) ?_
          refine wp_callV (As := [.int (nI h), .int (6 : Int32)]) (S := []) (b' := (0, 0)) (b := (0, 0)) dX11_wishOf_64 MX11_128 (ka hF 293 (by decide)) rfl rfl rfl rfl (Nat.le_of_ble_eq_true rfl) ?_
          refine WPM.of pX11 (Nat.le_of_ble_eq_true rfl) rfl ?_
          refine wp_aload_n dX11_heater_0 rfl ?_
          refine wp_getr (gB G + 294) dX11_heater_1 fX11_7 (ka hF 293 (by decide)) (hF.2 _ _) (rra 1 (isK_le (ka hF 293 (by decide))) (fun _ => rfl)) ?_
          refine wp_sipush (338 : Int32) dX11_heater_4 (by decide) ?_
          refine wp_bipush (8 : Int32) dX11_heater_7 (by decide) ?_
          refine wp_iload_n dX11_heater_9 rfl ?_
          refine wp_imulv (nI (8 * h)) dX11_heater_10 (nmul (a := 8) (b := h) (by omega)) ?_
          refine wp_iaddv (nI (8 * h + 338)) dX11_heater_11 (nadd (a := 338) (b := 8 * h) (by omega)) ?_
          refine wp_iload_n dX11_heater_12 rfl ?_
          refine wp_iaddv (nI (8 * h + 344)) dX11_heater_13 (nadd (a := 8 * h + 338) (b := 6) (by omega)) ?_
          refine wp_ialdk (n := 1486) (8 * h + 344) (ai m (gB G + 294) (8 * h + 344)) dX11_heater_14 (ka hF 294 (by decide)) (la 294) (vin (by omega) (by decide)) (nIc (by omega)) rfl ?_
          refine wp_iret dX11_heater_15 rfl ?_
          show WP G (d + 2) (0, 0) μX11_wishOf 67 [.ref (gB G + 293), .int (nI h), .int (ai m (gB G + 294) (8 * h + 343)), .int (ai m (gB G + 294) (11 * o + 21))] [.int (ai m (gB G + 294) (8 * h + 344))] m _
          refine wp_iret dX11_wishOf_67 rfl ?_
          show WP G (d + 3) (0, 0) μX11_switchHeaters 88 [.ref (gB G + 293), .long a, lvU, .long v, lvU, .int (nI h), lvU, lvU] [.int (ai m (gB G + 294) (8 * h + 344)), .int (nI (8 * h + 344)), .ref (gB G + 294)] m _
          refine wp_iastk (n := 1486) (8 * h + 344) dX11_switchHeaters_88 (ka hF 294 (by decide)) (la 294) (vin (by omega) (by decide))  (nIc (by omega)) ?_
          have hF11 := Full_wai (gB G + 294) (8 * h + 344) (ai m (gB G + 294) (8 * h + 344)) hF
          refine wp_aload_n dX11_switchHeaters_89 rfl ?_
          refine wp_getr (gB G + 294) dX11_switchHeaters_90 fX11_7 (ka hF11 293 (by decide)) (hF11.2 _ _) (rra 1 (isK_le (ka hF11 293 (by decide))) (fun _ => rfl)) ?_
          refine wp_sipush (338 : Int32) dX11_switchHeaters_93 (by decide) ?_
          refine wp_bipush (8 : Int32) dX11_switchHeaters_96 (by decide) ?_
          refine wp_iload dX11_switchHeaters_98 rfl ?_
          refine wp_imulv (nI (8 * h)) dX11_switchHeaters_100 (nmul (a := 8) (b := h) (by omega)) ?_
          refine wp_iaddv (nI (8 * h + 338)) dX11_switchHeaters_101 (nadd (a := 338) (b := 8 * h) (by omega)) ?_
          refine wp_bipush (7 : Int32) dX11_switchHeaters_102 (by decide) ?_
          refine wp_iaddv (nI (8 * h + 345)) dX11_switchHeaters_104 (nadd (a := 8 * h + 338) (b := 7) (by omega)) ?_
          refine wp_iconst (0 : Int32) dX11_switchHeaters_105 (by decide) ?_
          refine wp_iastk (n := 1486) (8 * h + 345) dX11_switchHeaters_106 (ka hF11 294 (by decide)) (la 294) (vin (by omega) (by decide))  (nIc (by omega)) ?_
          have hF12 := Full_wai (gB G + 294) (8 * h + 345) (0 : Int32) hF11
          refine wp_iinc (nI (h + 1)) dX11_switchHeaters_107 rfl (by decide) (nadd (a := h) (b := 1) (by omega)) rfl ?_
          refine wp_goto 54 dX11_switchHeaters_110 (by decide) ?_
          refine wp_forget [.ref (gB G + 293), .long a, lvU, .long v, lvU, .int (nI (h + 1)), lvU, lvU] ⟨Or.inl rfl, Or.inl rfl, Or.inr rfl, Or.inl rfl, Or.inr rfl, Or.inl rfl, Or.inr rfl, Or.inr rfl, trivial⟩ ?_
          exact e2 hp4 q5 q7 q9
        · skip
          refine wp_iconst (0 : Int32) dX11_wishOf_56 (by decide) ?_
          refine wp_goto 67 dX11_wishOf_57 (by decide) ?_
          refine wp_iret dX11_wishOf_67 rfl ?_
          show WP G (d + 3) (0, 0) μX11_switchHeaters 88 [.ref (gB G + 293), .long a, lvU, .long v, lvU, .int (nI h), lvU, lvU] [.int (0 : Int32), .int (nI (8 * h + 344)), .ref (gB G + 294)] m _
          refine wp_iastk (n := 1486) (8 * h + 344) dX11_switchHeaters_88 (ka hF 294 (by decide)) (la 294) (vin (by omega) (by decide))  (nIc (by omega)) ?_
          have hF13 := Full_wai (gB G + 294) (8 * h + 344) (0 : Int32) hF
          refine wp_aload_n dX11_switchHeaters_89 rfl ?_
          refine wp_getr (gB G + 294) dX11_switchHeaters_90 fX11_7 (ka hF13 293 (by decide)) (hF13.2 _ _) (rra 1 (isK_le (ka hF13 293 (by decide))) (fun _ => rfl)) ?_
          refine wp_sipush (338 : Int32) dX11_switchHeaters_93 (by decide) ?_
          refine wp_bipush (8 : Int32) dX11_switchHeaters_96 (by decide) ?_
          refine wp_iload dX11_switchHeaters_98 rfl ?_
          refine wp_imulv (nI (8 * h)) dX11_switchHeaters_100 (nmul (a := 8) (b := h) (by omega)) ?_
          refine wp_iaddv (nI (8 * h + 338)) dX11_switchHeaters_101 (nadd (a := 338) (b := 8 * h) (by omega)) ?_
          refine wp_bipush (7 : Int32) dX11_switchHeaters_102 (by decide) ?_
          refine wp_iaddv (nI (8 * h + 345)) dX11_switchHeaters_104 (nadd (a := 8 * h + 338) (b := 7) (by omega)) ?_
          refine wp_iconst (0 : Int32) dX11_switchHeaters_105 (by decide) ?_
          refine wp_iastk (n := 1486) (8 * h + 345) dX11_switchHeaters_106 (ka hF13 294 (by decide)) (la 294) (vin (by omega) (by decide))  (nIc (by omega)) ?_
          have hF14 := Full_wai (gB G + 294) (8 * h + 345) (0 : Int32) hF13
          refine wp_iinc (nI (h + 1)) dX11_switchHeaters_107 rfl (by decide) (nadd (a := h) (b := 1) (by omega)) rfl ?_
          refine wp_goto 54 dX11_switchHeaters_110 (by decide) ?_
          refine wp_forget [.ref (gB G + 293), .long a, lvU, .long v, lvU, .int (nI (h + 1)), lvU, lvU] ⟨Or.inl rfl, Or.inl rfl, Or.inr rfl, Or.inl rfl, Or.inr rfl, Or.inl rfl, Or.inr rfl, Or.inr rfl, trivial⟩ ?_
          exact e3 hp4 q5 q7 q10
      · skip
        refine wp_iconst (1 : Int32) dX11_wishOf_44 (by decide) ?_
        refine wp_iret dX11_wishOf_45 rfl ?_
        show WP G (d + 3) (0, 0) μX11_switchHeaters 88 [.ref (gB G + 293), .long a, lvU, .long v, lvU, .int (nI h), lvU, lvU] [.int (1 : Int32), .int (nI (8 * h + 344)), .ref (gB G + 294)] m _
        refine wp_iastk (n := 1486) (8 * h + 344) dX11_switchHeaters_88 (ka hF 294 (by decide)) (la 294) (vin (by omega) (by decide))  (nIc (by omega)) ?_
        have hF15 := Full_wai (gB G + 294) (8 * h + 344) (1 : Int32) hF
        refine wp_aload_n dX11_switchHeaters_89 rfl ?_
        refine wp_getr (gB G + 294) dX11_switchHeaters_90 fX11_7 (ka hF15 293 (by decide)) (hF15.2 _ _) (rra 1 (isK_le (ka hF15 293 (by decide))) (fun _ => rfl)) ?_
        refine wp_sipush (338 : Int32) dX11_switchHeaters_93 (by decide) ?_
        refine wp_bipush (8 : Int32) dX11_switchHeaters_96 (by decide) ?_
        refine wp_iload dX11_switchHeaters_98 rfl ?_
        refine wp_imulv (nI (8 * h)) dX11_switchHeaters_100 (nmul (a := 8) (b := h) (by omega)) ?_
        refine wp_iaddv (nI (8 * h + 338)) dX11_switchHeaters_101 (nadd (a := 338) (b := 8 * h) (by omega)) ?_
        refine wp_bipush (7 : Int32) dX11_switchHeaters_102 (by decide) ?_
        refine wp_iaddv (nI (8 * h + 345)) dX11_switchHeaters_104 (nadd (a := 8 * h + 338) (b := 7) (by omega)) ?_
        refine wp_iconst (0 : Int32) dX11_switchHeaters_105 (by decide) ?_
        refine wp_iastk (n := 1486) (8 * h + 345) dX11_switchHeaters_106 (ka hF15 294 (by decide)) (la 294) (vin (by omega) (by decide))  (nIc (by omega)) ?_
        have hF16 := Full_wai (gB G + 294) (8 * h + 345) (0 : Int32) hF15
        refine wp_iinc (nI (h + 1)) dX11_switchHeaters_107 rfl (by decide) (nadd (a := h) (b := 1) (by omega)) rfl ?_
        refine wp_goto 54 dX11_switchHeaters_110 (by decide) ?_
        refine wp_forget [.ref (gB G + 293), .long a, lvU, .long v, lvU, .int (nI (h + 1)), lvU, lvU] ⟨Or.inl rfl, Or.inl rfl, Or.inr rfl, Or.inl rfl, Or.inr rfl, Or.inl rfl, Or.inr rfl, Or.inr rfl, trivial⟩ ?_
        exact e4 hp4 q5 q8
    · skip
      refine wp_iload_n dX11_wishOf_11 rfl ?_
      refine wp_iconst (1 : Int32) dX11_wishOf_12 (by decide) ?_
      refine wp_icmp_ne 20 dX11_wishOf_13 (by decide) (fun q17 => ?_) (fun q18 => ?_)
      · skip
        refine wp_iconst (0 : Int32) dX11_wishOf_20 (by decide) ?_
        refine wp_iret dX11_wishOf_21 rfl ?_
        show WP G (d + 3) (0, 0) μX11_switchHeaters 88 [.ref (gB G + 293), .long a, lvU, .long v, lvU, .int (nI h), lvU, lvU] [.int (0 : Int32), .int (nI (8 * h + 344)), .ref (gB G + 294)] m _
        refine wp_iastk (n := 1486) (8 * h + 344) dX11_switchHeaters_88 (ka hF 294 (by decide)) (la 294) (vin (by omega) (by decide))  (nIc (by omega)) ?_
        have hF19 := Full_wai (gB G + 294) (8 * h + 344) (0 : Int32) hF
        refine wp_aload_n dX11_switchHeaters_89 rfl ?_
        refine wp_getr (gB G + 294) dX11_switchHeaters_90 fX11_7 (ka hF19 293 (by decide)) (hF19.2 _ _) (rra 1 (isK_le (ka hF19 293 (by decide))) (fun _ => rfl)) ?_
        refine wp_sipush (338 : Int32) dX11_switchHeaters_93 (by decide) ?_
        refine wp_bipush (8 : Int32) dX11_switchHeaters_96 (by decide) ?_
        refine wp_iload dX11_switchHeaters_98 rfl ?_
        refine wp_imulv (nI (8 * h)) dX11_switchHeaters_100 (nmul (a := 8) (b := h) (by omega)) ?_
        refine wp_iaddv (nI (8 * h + 338)) dX11_switchHeaters_101 (nadd (a := 338) (b := 8 * h) (by omega)) ?_
        refine wp_bipush (7 : Int32) dX11_switchHeaters_102 (by decide) ?_
        refine wp_iaddv (nI (8 * h + 345)) dX11_switchHeaters_104 (nadd (a := 8 * h + 338) (b := 7) (by omega)) ?_
        refine wp_iconst (0 : Int32) dX11_switchHeaters_105 (by decide) ?_
        refine wp_iastk (n := 1486) (8 * h + 345) dX11_switchHeaters_106 (ka hF19 294 (by decide)) (la 294) (vin (by omega) (by decide))  (nIc (by omega)) ?_
        have hF20 := Full_wai (gB G + 294) (8 * h + 345) (0 : Int32) hF19
        refine wp_iinc (nI (h + 1)) dX11_switchHeaters_107 rfl (by decide) (nadd (a := h) (b := 1) (by omega)) rfl ?_
        refine wp_goto 54 dX11_switchHeaters_110 (by decide) ?_
        refine wp_forget [.ref (gB G + 293), .long a, lvU, .long v, lvU, .int (nI (h + 1)), lvU, lvU] ⟨Or.inl rfl, Or.inl rfl, Or.inr rfl, Or.inl rfl, Or.inr rfl, Or.inl rfl, Or.inr rfl, Or.inr rfl, trivial⟩ ?_
        exact e5 hp4 q6 q17
      · skip
        refine wp_iconst (1 : Int32) dX11_wishOf_16 (by decide) ?_
        refine wp_goto 21 dX11_wishOf_17 (by decide) ?_
        refine wp_iret dX11_wishOf_21 rfl ?_
        show WP G (d + 3) (0, 0) μX11_switchHeaters 88 [.ref (gB G + 293), .long a, lvU, .long v, lvU, .int (nI h), lvU, lvU] [.int (1 : Int32), .int (nI (8 * h + 344)), .ref (gB G + 294)] m _
        refine wp_iastk (n := 1486) (8 * h + 344) dX11_switchHeaters_88 (ka hF 294 (by decide)) (la 294) (vin (by omega) (by decide))  (nIc (by omega)) ?_
        have hF21 := Full_wai (gB G + 294) (8 * h + 344) (1 : Int32) hF
        refine wp_aload_n dX11_switchHeaters_89 rfl ?_
        refine wp_getr (gB G + 294) dX11_switchHeaters_90 fX11_7 (ka hF21 293 (by decide)) (hF21.2 _ _) (rra 1 (isK_le (ka hF21 293 (by decide))) (fun _ => rfl)) ?_
        refine wp_sipush (338 : Int32) dX11_switchHeaters_93 (by decide) ?_
        refine wp_bipush (8 : Int32) dX11_switchHeaters_96 (by decide) ?_
        refine wp_iload dX11_switchHeaters_98 rfl ?_
        refine wp_imulv (nI (8 * h)) dX11_switchHeaters_100 (nmul (a := 8) (b := h) (by omega)) ?_
        refine wp_iaddv (nI (8 * h + 338)) dX11_switchHeaters_101 (nadd (a := 338) (b := 8 * h) (by omega)) ?_
        refine wp_bipush (7 : Int32) dX11_switchHeaters_102 (by decide) ?_
        refine wp_iaddv (nI (8 * h + 345)) dX11_switchHeaters_104 (nadd (a := 8 * h + 338) (b := 7) (by omega)) ?_
        refine wp_iconst (0 : Int32) dX11_switchHeaters_105 (by decide) ?_
        refine wp_iastk (n := 1486) (8 * h + 345) dX11_switchHeaters_106 (ka hF21 294 (by decide)) (la 294) (vin (by omega) (by decide))  (nIc (by omega)) ?_
        have hF22 := Full_wai (gB G + 294) (8 * h + 345) (0 : Int32) hF21
        refine wp_iinc (nI (h + 1)) dX11_switchHeaters_107 rfl (by decide) (nadd (a := h) (b := 1) (by omega)) rfl ?_
        refine wp_goto 54 dX11_switchHeaters_110 (by decide) ?_
        refine wp_forget [.ref (gB G + 293), .long a, lvU, .long v, lvU, .int (nI (h + 1)), lvU, lvU] ⟨Or.inl rfl, Or.inl rfl, Or.inr rfl, Or.inl rfl, Or.inr rfl, Or.inl rfl, Or.inr rfl, Or.inr rfl, trivial⟩ ?_
        exact e6 hp4 q6 q18

theorem bM_sw2 {G : Cx} {d : Nat} {m : Mm} {Q : Option Value → Mm → Prop} {a v : Int64} {p : Int32} (hF : Full G m) 
    (e1 : p < 0 → WPM G (d + 2) (0, 0) μX11_usedPower [.ref (gB G + 293)] m (fun r' m' => WP G (d + 3) (0, 0) μX11_switchHeaters 291 [.ref (gB G + 293), lvU, lvU, lvU, lvU, lvU, lvU, lvU] (r'.toList ++ [.long (a - (Int32.toInt64 (ai m (gB G + 294) 9))), .long (Int32.toInt64 (ai m (gB G + 294) 1)), .long (Int32.toInt64 (ai m (gB G + 294) 11))]) m' Q))
    (e2 : ¬ p < 0 → WP G (d + 3) (0, 0) μX11_switchHeaters 125 [.ref (gB G + 293), .long a, lvU, .long v, lvU, .int p, .int (0 : Int32), lvU] [] m Q) :
    WP G (d + 3) (0, 0) μX11_switchHeaters 117 [.ref (gB G + 293), .long a, lvU, .long v, lvU, .int p, lvU, lvU] [] m Q := by
  refine wp_iload dX11_switchHeaters_117 rfl ?_
  refine wp_if_lt 262 dX11_switchHeaters_119 (by decide) (fun q1 => ?_) (fun q2 => ?_)
  · skip
    refine wp_aload_n dX11_switchHeaters_262 rfl ?_
    refine wp_getr (gB G + 294) dX11_switchHeaters_263 fX11_7 (ka hF 293 (by decide)) (hF.2 _ _) (rra 1 (isK_le (ka hF 293 (by decide))) (fun _ => rfl)) ?_
    refine wp_bipush (11 : Int32) dX11_switchHeaters_266 (by decide) ?_
    refine wp_ialdk (n := 1486) 11 (ai m (gB G + 294) 11) dX11_switchHeaters_268 (ka hF 294 (by decide)) (la 294) (vinl (by decide)) rfl rfl ?_
    refine wp_i2l dX11_switchHeaters_269 ?_
    refine wp_aload_n dX11_switchHeaters_270 rfl ?_
    refine wp_getr (gB G + 294) dX11_switchHeaters_271 fX11_7 (ka hF 293 (by decide)) (hF.2 _ _) (rra 1 (isK_le (ka hF 293 (by decide))) (fun _ => rfl)) ?_
    refine wp_iconst (1 : Int32) dX11_switchHeaters_274 (by decide) ?_
    refine wp_ialdk (n := 1486) 1 (ai m (gB G + 294) 1) dX11_switchHeaters_275 (ka hF 294 (by decide)) (la 294) (vinl (by decide)) rfl rfl ?_
    refine wp_i2l dX11_switchHeaters_276 ?_
    refine wp_lload_n dX11_switchHeaters_277 rfl ?_
    refine wp_aload_n dX11_switchHeaters_278 rfl ?_
    refine wp_getr (gB G + 294) dX11_switchHeaters_279 fX11_7 (ka hF 293 (by decide)) (hF.2 _ _) (rra 1 (isK_le (ka hF 293 (by decide))) (fun _ => rfl)) ?_
    refine wp_bipush (9 : Int32) dX11_switchHeaters_282 (by decide) ?_
    refine wp_ialdk (n := 1486) 9 (ai m (gB G + 294) 9) dX11_switchHeaters_284 (ka hF 294 (by decide)) (la 294) (vinl (by decide)) rfl rfl ?_
    refine wp_i2l dX11_switchHeaters_285 ?_
    refine wp_lsub dX11_switchHeaters_286 ?_
    refine wp_aload_n dX11_switchHeaters_287 rfl ?_
    refine wp_forget [.ref (gB G + 293), lvU, lvU, lvU, lvU, lvU, lvU, lvU] ⟨Or.inl rfl, Or.inr rfl, Or.inr rfl, Or.inr rfl, Or.inr rfl, Or.inr rfl, Or.inr rfl, Or.inr rfl, trivial⟩ ?_
    refine wp_callV (As := []) (S := [.long (a - (Int32.toInt64 (ai m (gB G + 294) 9))), .long (Int32.toInt64 (ai m (gB G + 294) 1)), .long (Int32.toInt64 (ai m (gB G + 294) 11))]) (b' := (0, 0)) (b := (0, 0)) dX11_switchHeaters_288 MX11_142 (ka hF 293 (by decide)) rfl rfl rfl rfl (Nat.le_of_ble_eq_true rfl) ?_
    exact e1 q1
  · skip
    refine wp_iconst (0 : Int32) dX11_switchHeaters_122 (by decide) ?_
    refine wp_istore dX11_switchHeaters_123 (by decide) rfl ?_
    refine wp_forget [.ref (gB G + 293), .long a, lvU, .long v, lvU, .int p, .int (0 : Int32), lvU] ⟨Or.inl rfl, Or.inl rfl, Or.inr rfl, Or.inl rfl, Or.inr rfl, Or.inl rfl, Or.inl rfl, Or.inr rfl, trivial⟩ ?_
    exact e2 q2

theorem bM_sw3 {G : Cx} {d : Nat} {m : Mm} {Q : Option Value → Mm → Prop} {a v : Int64} {p : Int32} {h n : Nat} (hF : Full G m) (hn : ai m (gB G + 294) 14 = nI n) (h8 : n ≤ 8) (hh : h ≤ n)
    (e1 : ¬ h < n → WP G (d + 3) (0, 0) μX11_switchHeaters 117 [.ref (gB G + 293), .long a, lvU, .long v, lvU, .int (p + (-1 : Int32)), lvU, lvU] [] m Q)
    (e2 : h < n → ¬ (ai m (gB G + 294) (8 * h + 342)) = p → WP G (d + 3) (0, 0) μX11_switchHeaters 125 [.ref (gB G + 293), .long a, lvU, .long v, lvU, .int p, .int (nI (h + 1)), lvU] [] m Q)
    (e3 : h < n → (ai m (gB G + 294) (8 * h + 342)) = p → ¬ (ai m (gB G + 294) (8 * h + 344)) = 0 → v < (Int32.toInt64 (ai m (gB G + 294) (8 * h + 339))) → WP G (d + 3) (0, 0) μX11_switchHeaters 125 [.ref (gB G + 293), .long a, lvU, .long (v - (0 : Int64)), lvU, .int p, .int (nI (h + 1)), lvU] [] (wai (wai m (gB G + 294) (8 * h + 345) (2 : Int32)) (gB G + 294) 17 ((ai m (gB G + 294) 17) + (1 : Int32))) Q)
    (e4 : h < n → (ai m (gB G + 294) (8 * h + 342)) = p → ¬ (ai m (gB G + 294) (8 * h + 344)) = 0 → ¬ v < (Int32.toInt64 (ai m (gB G + 294) (8 * h + 339))) → WP G (d + 3) (0, 0) μX11_switchHeaters 125 [.ref (gB G + 293), .long a, lvU, .long (v - (Int32.toInt64 (ai m (gB G + 294) (8 * h + 339)))), lvU, .int p, .int (nI (h + 1)), lvU] [] (wai (wai m (gB G + 294) (8 * h + 345) (1 : Int32)) (gB G + 294) 17 ((ai m (gB G + 294) 17) + (0 : Int32))) Q)
    (e5 : h < n → (ai m (gB G + 294) (8 * h + 342)) = p → (ai m (gB G + 294) (8 * h + 344)) = 0 → WP G (d + 3) (0, 0) μX11_switchHeaters 125 [.ref (gB G + 293), .long a, lvU, .long v, lvU, .int p, .int (nI (h + 1)), lvU] [] m Q) :
    WP G (d + 3) (0, 0) μX11_switchHeaters 125 [.ref (gB G + 293), .long a, lvU, .long v, lvU, .int p, .int (nI h), lvU] [] m Q := by
  refine wp_iload dX11_switchHeaters_125 rfl ?_
  refine wp_aload_n dX11_switchHeaters_127 rfl ?_
  refine wp_getr (gB G + 294) dX11_switchHeaters_128 fX11_7 (ka hF 293 (by decide)) (hF.2 _ _) (rra 1 (isK_le (ka hF 293 (by decide))) (fun _ => rfl)) ?_
  refine wp_bipush (14 : Int32) dX11_switchHeaters_131 (by decide) ?_
  refine wp_ialdk (n := 1486) 14 (nI n) dX11_switchHeaters_133 (ka hF 294 (by decide)) (la 294) (vinl (by decide)) rfl hn ?_
  refine wp_icmp_ge 256 dX11_switchHeaters_134 (by decide) (fun q1 => ?_) (fun q2 => ?_)
  · have hp3 : ¬ h < n := (fun z => q1 (nlt_ z (by omega)))
    refine wp_iinc (p + (-1 : Int32)) dX11_switchHeaters_256 rfl (by decide) rfl rfl ?_
    refine wp_goto 117 dX11_switchHeaters_259 (by decide) ?_
    refine wp_forget [.ref (gB G + 293), .long a, lvU, .long v, lvU, .int (p + (-1 : Int32)), lvU, lvU] ⟨Or.inl rfl, Or.inl rfl, Or.inr rfl, Or.inl rfl, Or.inr rfl, Or.inl rfl, Or.inr rfl, Or.inr rfl, trivial⟩ ?_
    exact e1 hp3
  · have hp4 : h < n := (nlt q2 (by omega) (by omega))
    refine wp_aload_n dX11_switchHeaters_137 rfl ?_
    refine wp_iload dX11_switchHeaters_138 rfl ?_
    refine wp_iconst (4 : Int32) dX11_switchHeaters_140 (by decide) ?_
    refine wp_callV (As := [.int (nI h), .int (4 : Int32)]) (S := []) (b' := (0, 0)) (b := (0, 0)) dX11_switchHeaters_141 MX11_128 (ka hF 293 (by decide)) rfl rfl rfl rfl (Nat.le_of_ble_eq_true rfl) ?_
    refine WPM.of pX11 (Nat.le_of_ble_eq_true rfl) rfl ?_
    refine wp_aload_n dX11_heater_0 rfl ?_
    refine wp_getr (gB G + 294) dX11_heater_1 fX11_7 (ka hF 293 (by decide)) (hF.2 _ _) (rra 1 (isK_le (ka hF 293 (by decide))) (fun _ => rfl)) ?_
    refine wp_sipush (338 : Int32) dX11_heater_4 (by decide) ?_
    refine wp_bipush (8 : Int32) dX11_heater_7 (by decide) ?_
    refine wp_iload_n dX11_heater_9 rfl ?_
    refine wp_imulv (nI (8 * h)) dX11_heater_10 (nmul (a := 8) (b := h) (by omega)) ?_
    refine wp_iaddv (nI (8 * h + 338)) dX11_heater_11 (nadd (a := 338) (b := 8 * h) (by omega)) ?_
    refine wp_iload_n dX11_heater_12 rfl ?_
    refine wp_iaddv (nI (8 * h + 342)) dX11_heater_13 (nadd (a := 8 * h + 338) (b := 4) (by omega)) ?_
    refine wp_ialdk (n := 1486) (8 * h + 342) (ai m (gB G + 294) (8 * h + 342)) dX11_heater_14 (ka hF 294 (by decide)) (la 294) (vin (by omega) (by decide)) (nIc (by omega)) rfl ?_
    refine wp_iret dX11_heater_15 rfl ?_
    show WP G (d + 3) (0, 0) μX11_switchHeaters 144 [.ref (gB G + 293), .long a, lvU, .long v, lvU, .int p, .int (nI h), lvU] [.int (ai m (gB G + 294) (8 * h + 342))] m _
    refine wp_iload dX11_switchHeaters_144 rfl ?_
    refine wp_icmp_ne 250 dX11_switchHeaters_146 (by decide) (fun q5 => ?_) (fun q6 => ?_)
    · skip
      refine wp_iinc (nI (h + 1)) dX11_switchHeaters_250 rfl (by decide) (nadd (a := h) (b := 1) (by omega)) rfl ?_
      refine wp_goto 125 dX11_switchHeaters_253 (by decide) ?_
      refine wp_forget [.ref (gB G + 293), .long a, lvU, .long v, lvU, .int p, .int (nI (h + 1)), lvU] ⟨Or.inl rfl, Or.inl rfl, Or.inr rfl, Or.inl rfl, Or.inr rfl, Or.inl rfl, Or.inl rfl, Or.inr rfl, trivial⟩ ?_
      exact e2 hp4 q5
    · skip
      refine wp_aload_n dX11_switchHeaters_149 rfl ?_
      refine wp_iload dX11_switchHeaters_150 rfl ?_
      refine wp_bipush (6 : Int32) dX11_switchHeaters_152 (by decide) ?_
      refine wp_callV (As := [.int (nI h), .int (6 : Int32)]) (S := []) (b' := (0, 0)) (b := (0, 0)) dX11_switchHeaters_154 MX11_128 (ka hF 293 (by decide)) rfl rfl rfl rfl (Nat.le_of_ble_eq_true rfl) ?_
      refine WPM.of pX11 (Nat.le_of_ble_eq_true rfl) rfl ?_
      refine wp_aload_n dX11_heater_0 rfl ?_
      refine wp_getr (gB G + 294) dX11_heater_1 fX11_7 (ka hF 293 (by decide)) (hF.2 _ _) (rra 1 (isK_le (ka hF 293 (by decide))) (fun _ => rfl)) ?_
      refine wp_sipush (338 : Int32) dX11_heater_4 (by decide) ?_
      refine wp_bipush (8 : Int32) dX11_heater_7 (by decide) ?_
      refine wp_iload_n dX11_heater_9 rfl ?_
      refine wp_imulv (nI (8 * h)) dX11_heater_10 (nmul (a := 8) (b := h) (by omega)) ?_
      refine wp_iaddv (nI (8 * h + 338)) dX11_heater_11 (nadd (a := 338) (b := 8 * h) (by omega)) ?_
      refine wp_iload_n dX11_heater_12 rfl ?_
      refine wp_iaddv (nI (8 * h + 344)) dX11_heater_13 (nadd (a := 8 * h + 338) (b := 6) (by omega)) ?_
      refine wp_ialdk (n := 1486) (8 * h + 344) (ai m (gB G + 294) (8 * h + 344)) dX11_heater_14 (ka hF 294 (by decide)) (la 294) (vin (by omega) (by decide)) (nIc (by omega)) rfl ?_
      refine wp_iret dX11_heater_15 rfl ?_
      show WP G (d + 3) (0, 0) μX11_switchHeaters 157 [.ref (gB G + 293), .long a, lvU, .long v, lvU, .int p, .int (nI h), lvU] [.int (ai m (gB G + 294) (8 * h + 344))] m _
      refine wp_if_ne 163 dX11_switchHeaters_157 (by decide) (fun q7 => ?_) (fun q8 => ?_)
      · skip
        refine wp_aload_n dX11_switchHeaters_163 rfl ?_
        refine wp_iload dX11_switchHeaters_164 rfl ?_
        refine wp_iconst (1 : Int32) dX11_switchHeaters_166 (by decide) ?_
        refine wp_callV (As := [.int (nI h), .int (1 : Int32)]) (S := []) (b' := (0, 0)) (b := (0, 0)) dX11_switchHeaters_167 MX11_128 (ka hF 293 (by decide)) rfl rfl rfl rfl (Nat.le_of_ble_eq_true rfl) ?_
        refine WPM.of pX11 (Nat.le_of_ble_eq_true rfl) rfl ?_
        refine wp_aload_n dX11_heater_0 rfl ?_
        refine wp_getr (gB G + 294) dX11_heater_1 fX11_7 (ka hF 293 (by decide)) (hF.2 _ _) (rra 1 (isK_le (ka hF 293 (by decide))) (fun _ => rfl)) ?_
        refine wp_sipush (338 : Int32) dX11_heater_4 (by decide) ?_
        refine wp_bipush (8 : Int32) dX11_heater_7 (by decide) ?_
        refine wp_iload_n dX11_heater_9 rfl ?_
        refine wp_imulv (nI (8 * h)) dX11_heater_10 (nmul (a := 8) (b := h) (by omega)) ?_
        refine wp_iaddv (nI (8 * h + 338)) dX11_heater_11 (nadd (a := 338) (b := 8 * h) (by omega)) ?_
        refine wp_iload_n dX11_heater_12 rfl ?_
        refine wp_iaddv (nI (8 * h + 339)) dX11_heater_13 (nadd (a := 8 * h + 338) (b := 1) (by omega)) ?_
        refine wp_ialdk (n := 1486) (8 * h + 339) (ai m (gB G + 294) (8 * h + 339)) dX11_heater_14 (ka hF 294 (by decide)) (la 294) (vin (by omega) (by decide)) (nIc (by omega)) rfl ?_
        refine wp_iret dX11_heater_15 rfl ?_
        show WP G (d + 3) (0, 0) μX11_switchHeaters 170 [.ref (gB G + 293), .long a, lvU, .long v, lvU, .int p, .int (nI h), lvU] [.int (ai m (gB G + 294) (8 * h + 339))] m _
        refine wp_i2l dX11_switchHeaters_170 ?_
        refine wp_lload_n dX11_switchHeaters_171 rfl ?_
        refine wp_lc_gt 180 dX11_switchHeaters_172 dX11_switchHeaters_173 (by decide) (fun q9 => ?_) (fun q10 => ?_)
        · skip
          refine wp_iconst (0 : Int32) dX11_switchHeaters_180 (by decide) ?_
          refine wp_istore dX11_switchHeaters_181 (by decide) rfl ?_
          refine wp_lload_n dX11_switchHeaters_183 rfl ?_
          refine wp_iload dX11_switchHeaters_184 rfl ?_
          refine wp_if_eq 200 dX11_switchHeaters_186 (by decide) (fun _ => ?_) (fun q => absurd (by decide) q)
          refine wp_lconst (0 : Int64) dX11_switchHeaters_200 (by decide) ?_
          refine wp_lsub dX11_switchHeaters_201 ?_
          refine wp_lstore_n dX11_switchHeaters_202 (by decide) rfl ?_
          refine wp_aload_n dX11_switchHeaters_203 rfl ?_
          refine wp_getr (gB G + 294) dX11_switchHeaters_204 fX11_7 (ka hF 293 (by decide)) (hF.2 _ _) (rra 1 (isK_le (ka hF 293 (by decide))) (fun _ => rfl)) ?_
          refine wp_sipush (338 : Int32) dX11_switchHeaters_207 (by decide) ?_
          refine wp_bipush (8 : Int32) dX11_switchHeaters_210 (by decide) ?_
          refine wp_iload dX11_switchHeaters_212 rfl ?_
          refine wp_imulv (nI (8 * h)) dX11_switchHeaters_214 (nmul (a := 8) (b := h) (by omega)) ?_
          refine wp_iaddv (nI (8 * h + 338)) dX11_switchHeaters_215 (nadd (a := 338) (b := 8 * h) (by omega)) ?_
          refine wp_bipush (7 : Int32) dX11_switchHeaters_216 (by decide) ?_
          refine wp_iaddv (nI (8 * h + 345)) dX11_switchHeaters_218 (nadd (a := 8 * h + 338) (b := 7) (by omega)) ?_
          refine wp_iload dX11_switchHeaters_219 rfl ?_
          refine wp_if_eq 228 dX11_switchHeaters_221 (by decide) (fun _ => ?_) (fun q => absurd (by decide) q)
          refine wp_iconst (2 : Int32) dX11_switchHeaters_228 (by decide) ?_
          refine wp_iastk (n := 1486) (8 * h + 345) dX11_switchHeaters_229 (ka hF 294 (by decide)) (la 294) (vin (by omega) (by decide))  (nIc (by omega)) ?_
          have hF11 := Full_wai (gB G + 294) (8 * h + 345) (2 : Int32) hF
          refine wp_aload_n dX11_switchHeaters_230 rfl ?_
          refine wp_getr (gB G + 294) dX11_switchHeaters_231 fX11_7 (ka hF11 293 (by decide)) (hF11.2 _ _) (rra 1 (isK_le (ka hF11 293 (by decide))) (fun _ => rfl)) ?_
          refine wp_bipush (17 : Int32) dX11_switchHeaters_234 (by decide) ?_
          refine wp_dup2 dX11_switchHeaters_236 rfl rfl ?_
          refine wp_ialdk (n := 1486) 17 (ai m (gB G + 294) 17) dX11_switchHeaters_237 (ka hF11 294 (by decide)) (la 294) (vinl (by decide)) rfl (ai_nk (by omega)) ?_
          refine wp_iload dX11_switchHeaters_238 rfl ?_
          refine wp_if_eq 247 dX11_switchHeaters_240 (by decide) (fun _ => ?_) (fun q => absurd (by decide) q)
          refine wp_iconst (1 : Int32) dX11_switchHeaters_247 (by decide) ?_
          refine wp_iaddv ((ai m (gB G + 294) 17) + (1 : Int32)) dX11_switchHeaters_248 rfl ?_
          refine wp_iastk (n := 1486) 17 dX11_switchHeaters_249 (ka hF11 294 (by decide)) (la 294) (vinl (by decide))  rfl ?_
          have hF12 := Full_wai (gB G + 294) 17 ((ai m (gB G + 294) 17) + (1 : Int32)) hF11
          refine wp_iinc (nI (h + 1)) dX11_switchHeaters_250 rfl (by decide) (nadd (a := h) (b := 1) (by omega)) rfl ?_
          refine wp_goto 125 dX11_switchHeaters_253 (by decide) ?_
          refine wp_forget [.ref (gB G + 293), .long a, lvU, .long (v - (0 : Int64)), lvU, .int p, .int (nI (h + 1)), lvU] ⟨Or.inl rfl, Or.inl rfl, Or.inr rfl, Or.inl rfl, Or.inr rfl, Or.inl rfl, Or.inl rfl, Or.inr rfl, trivial⟩ ?_
          exact e3 hp4 q6 q7 q9
        · skip
          refine wp_iconst (1 : Int32) dX11_switchHeaters_176 (by decide) ?_
          refine wp_goto 181 dX11_switchHeaters_177 (by decide) ?_
          refine wp_istore dX11_switchHeaters_181 (by decide) rfl ?_
          refine wp_lload_n dX11_switchHeaters_183 rfl ?_
          refine wp_iload dX11_switchHeaters_184 rfl ?_
          refine wp_if_eq 200 dX11_switchHeaters_186 (by decide) (fun q => absurd q (by decide)) (fun _ => ?_)
          refine wp_aload_n dX11_switchHeaters_189 rfl ?_
          refine wp_iload dX11_switchHeaters_190 rfl ?_
          refine wp_iconst (1 : Int32) dX11_switchHeaters_192 (by decide) ?_
          refine wp_callV (As := [.int (nI h), .int (1 : Int32)]) (S := [.long v]) (b' := (0, 0)) (b := (0, 0)) dX11_switchHeaters_193 MX11_128 (ka hF 293 (by decide)) rfl rfl rfl rfl (Nat.le_of_ble_eq_true rfl) ?_
          refine WPM.of pX11 (Nat.le_of_ble_eq_true rfl) rfl ?_
          refine wp_aload_n dX11_heater_0 rfl ?_
          refine wp_getr (gB G + 294) dX11_heater_1 fX11_7 (ka hF 293 (by decide)) (hF.2 _ _) (rra 1 (isK_le (ka hF 293 (by decide))) (fun _ => rfl)) ?_
          refine wp_sipush (338 : Int32) dX11_heater_4 (by decide) ?_
          refine wp_bipush (8 : Int32) dX11_heater_7 (by decide) ?_
          refine wp_iload_n dX11_heater_9 rfl ?_
          refine wp_imulv (nI (8 * h)) dX11_heater_10 (nmul (a := 8) (b := h) (by omega)) ?_
          refine wp_iaddv (nI (8 * h + 338)) dX11_heater_11 (nadd (a := 338) (b := 8 * h) (by omega)) ?_
          refine wp_iload_n dX11_heater_12 rfl ?_
          refine wp_iaddv (nI (8 * h + 339)) dX11_heater_13 (nadd (a := 8 * h + 338) (b := 1) (by omega)) ?_
          refine wp_ialdk (n := 1486) (8 * h + 339) (ai m (gB G + 294) (8 * h + 339)) dX11_heater_14 (ka hF 294 (by decide)) (la 294) (vin (by omega) (by decide)) (nIc (by omega)) rfl ?_
          refine wp_iret dX11_heater_15 rfl ?_
          show WP G (d + 3) (0, 0) μX11_switchHeaters 196 [.ref (gB G + 293), .long a, lvU, .long v, lvU, .int p, .int (nI h), .int (1 : Int32)] [.int (ai m (gB G + 294) (8 * h + 339)), .long v] m _
          refine wp_i2l dX11_switchHeaters_196 ?_
          refine wp_goto 201 dX11_switchHeaters_197 (by decide) ?_
          refine wp_lsub dX11_switchHeaters_201 ?_
          refine wp_lstore_n dX11_switchHeaters_202 (by decide) rfl ?_
          refine wp_aload_n dX11_switchHeaters_203 rfl ?_
          refine wp_getr (gB G + 294) dX11_switchHeaters_204 fX11_7 (ka hF 293 (by decide)) (hF.2 _ _) (rra 1 (isK_le (ka hF 293 (by decide))) (fun _ => rfl)) ?_
          refine wp_sipush (338 : Int32) dX11_switchHeaters_207 (by decide) ?_
          refine wp_bipush (8 : Int32) dX11_switchHeaters_210 (by decide) ?_
          refine wp_iload dX11_switchHeaters_212 rfl ?_
          refine wp_imulv (nI (8 * h)) dX11_switchHeaters_214 (nmul (a := 8) (b := h) (by omega)) ?_
          refine wp_iaddv (nI (8 * h + 338)) dX11_switchHeaters_215 (nadd (a := 338) (b := 8 * h) (by omega)) ?_
          refine wp_bipush (7 : Int32) dX11_switchHeaters_216 (by decide) ?_
          refine wp_iaddv (nI (8 * h + 345)) dX11_switchHeaters_218 (nadd (a := 8 * h + 338) (b := 7) (by omega)) ?_
          refine wp_iload dX11_switchHeaters_219 rfl ?_
          refine wp_if_eq 228 dX11_switchHeaters_221 (by decide) (fun q => absurd q (by decide)) (fun _ => ?_)
          refine wp_iconst (1 : Int32) dX11_switchHeaters_224 (by decide) ?_
          refine wp_goto 229 dX11_switchHeaters_225 (by decide) ?_
          refine wp_iastk (n := 1486) (8 * h + 345) dX11_switchHeaters_229 (ka hF 294 (by decide)) (la 294) (vin (by omega) (by decide))  (nIc (by omega)) ?_
          have hF13 := Full_wai (gB G + 294) (8 * h + 345) (1 : Int32) hF
          refine wp_aload_n dX11_switchHeaters_230 rfl ?_
          refine wp_getr (gB G + 294) dX11_switchHeaters_231 fX11_7 (ka hF13 293 (by decide)) (hF13.2 _ _) (rra 1 (isK_le (ka hF13 293 (by decide))) (fun _ => rfl)) ?_
          refine wp_bipush (17 : Int32) dX11_switchHeaters_234 (by decide) ?_
          refine wp_dup2 dX11_switchHeaters_236 rfl rfl ?_
          refine wp_ialdk (n := 1486) 17 (ai m (gB G + 294) 17) dX11_switchHeaters_237 (ka hF13 294 (by decide)) (la 294) (vinl (by decide)) rfl (ai_nk (by omega)) ?_
          refine wp_iload dX11_switchHeaters_238 rfl ?_
          refine wp_if_eq 247 dX11_switchHeaters_240 (by decide) (fun q => absurd q (by decide)) (fun _ => ?_)
          refine wp_iconst (0 : Int32) dX11_switchHeaters_243 (by decide) ?_
          refine wp_goto 248 dX11_switchHeaters_244 (by decide) ?_
          refine wp_iaddv ((ai m (gB G + 294) 17) + (0 : Int32)) dX11_switchHeaters_248 rfl ?_
          refine wp_iastk (n := 1486) 17 dX11_switchHeaters_249 (ka hF13 294 (by decide)) (la 294) (vinl (by decide))  rfl ?_
          have hF14 := Full_wai (gB G + 294) 17 ((ai m (gB G + 294) 17) + (0 : Int32)) hF13
          refine wp_iinc (nI (h + 1)) dX11_switchHeaters_250 rfl (by decide) (nadd (a := h) (b := 1) (by omega)) rfl ?_
          refine wp_goto 125 dX11_switchHeaters_253 (by decide) ?_
          refine wp_forget [.ref (gB G + 293), .long a, lvU, .long (v - (Int32.toInt64 (ai m (gB G + 294) (8 * h + 339)))), lvU, .int p, .int (nI (h + 1)), lvU] ⟨Or.inl rfl, Or.inl rfl, Or.inr rfl, Or.inl rfl, Or.inr rfl, Or.inl rfl, Or.inl rfl, Or.inr rfl, trivial⟩ ?_
          exact e4 hp4 q6 q7 q10
      · skip
        refine wp_goto 250 dX11_switchHeaters_160 (by decide) ?_
        refine wp_iinc (nI (h + 1)) dX11_switchHeaters_250 rfl (by decide) (nadd (a := h) (b := 1) (by omega)) rfl ?_
        refine wp_goto 125 dX11_switchHeaters_253 (by decide) ?_
        refine wp_forget [.ref (gB G + 293), .long a, lvU, .long v, lvU, .int p, .int (nI (h + 1)), lvU] ⟨Or.inl rfl, Or.inl rfl, Or.inr rfl, Or.inl rfl, Or.inr rfl, Or.inl rfl, Or.inl rfl, Or.inr rfl, trivial⟩ ?_
        exact e5 hp4 q6 q8

theorem eM_ex {G : Cx} {d : Nat} {m : Mm} {Q : Option Value → Mm → Prop}  (hF : Full G m) 
    (e1 : WP G (d + 5) (0, 0) μX11_exchangeHeat 7 [.ref (gB G + 293), .long (0 : Int64), lvU, .long (0 : Int64), lvU, .int (0 : Int32), lvU, lvU] [] m Q) :
    WPM G (d + 5) (0, 0) μX11_exchangeHeat [.ref (gB G + 293)] m Q := by
  refine WPM.of pX11 (Nat.le_of_ble_eq_true rfl) rfl ?_
  refine wp_lconst (0 : Int64) dX11_exchangeHeat_0 (by decide) ?_
  refine wp_lstore_n dX11_exchangeHeat_1 (by decide) rfl ?_
  refine wp_lconst (0 : Int64) dX11_exchangeHeat_2 (by decide) ?_
  refine wp_lstore_n dX11_exchangeHeat_3 (by decide) rfl ?_
  refine wp_iconst (0 : Int32) dX11_exchangeHeat_4 (by decide) ?_
  refine wp_istore dX11_exchangeHeat_5 (by decide) rfl ?_
  refine wp_forget [.ref (gB G + 293), .long (0 : Int64), lvU, .long (0 : Int64), lvU, .int (0 : Int32), lvU, lvU] ⟨Or.inl rfl, Or.inl rfl, Or.inr rfl, Or.inl rfl, Or.inr rfl, Or.inl rfl, Or.inr rfl, Or.inr rfl, trivial⟩ ?_
  exact e1

theorem bM_ex1 {G : Cx} {d : Nat} {m : Mm} {Q : Option Value → Mm → Prop} {a c : Int64} {i n : Nat} (hF : Full G m) (hn : ai m (gB G + 294) 12 = nI n) (h12 : n ≤ 12) (hi : i ≤ n)
    (e1 : ¬ i < n → WPM G (d + 4) (0, 0) μX11_usedPower [.ref (gB G + 293)] (wal (wal m (gB G + 297) 0 ((al m (gB G + 297) 0) + ((Int32.toInt64 (ai m (gB G + 294) 1)) * a))) (gB G + 297) 1 ((al m (gB G + 297) 1) + ((Int32.toInt64 (ai m (gB G + 294) 1)) * c))) (fun r' m' => WP G (d + 5) (0, 0) μX11_exchangeHeat 110 [.ref (gB G + 293), lvU, lvU, lvU, lvU, lvU, lvU, lvU] (r'.toList ++ [.long (Int32.toInt64 (ai m (gB G + 294) 1)), .long (al m (gB G + 297) 2), .int (2 : Int32), .ref (gB G + 297)]) m' Q))
    (e2 : i < n → WPM G (d + 4) (0, 0) μX11_netOf [.ref (gB G + 293), .int (nI i)] m (fun r' m' => WP G (d + 5) (0, 0) μX11_exchangeHeat 31 [.ref (gB G + 293), .long a, lvU, .long c, lvU, .int (nI i), lvU, lvU] (r'.toList ++ [.int (nI i), .ref (gB G + 301)]) m' Q)) :
    WP G (d + 5) (0, 0) μX11_exchangeHeat 7 [.ref (gB G + 293), .long a, lvU, .long c, lvU, .int (nI i), lvU, lvU] [] m Q := by
  refine wp_iload dX11_exchangeHeat_7 rfl ?_
  refine wp_aload_n dX11_exchangeHeat_9 rfl ?_
  refine wp_getr (gB G + 294) dX11_exchangeHeat_10 fX11_7 (ka hF 293 (by decide)) (hF.2 _ _) (rra 1 (isK_le (ka hF 293 (by decide))) (fun _ => rfl)) ?_
  refine wp_bipush (12 : Int32) dX11_exchangeHeat_13 (by decide) ?_
  refine wp_ialdk (n := 1486) 12 (nI n) dX11_exchangeHeat_15 (ka hF 294 (by decide)) (la 294) (vinl (by decide)) rfl hn ?_
  refine wp_icmp_ge 56 dX11_exchangeHeat_16 (by decide) (fun q1 => ?_) (fun q2 => ?_)
  · have hp3 : ¬ i < n := (fun z => q1 (nlt_ z (by omega)))
    refine wp_aload_n dX11_exchangeHeat_56 rfl ?_
    refine wp_getr (gB G + 297) dX11_exchangeHeat_57 fX11_19 (ka hF 293 (by decide)) (hF.2 _ _) (rra 4 (isK_le (ka hF 293 (by decide))) (fun _ => rfl)) ?_
    refine wp_iconst (0 : Int32) dX11_exchangeHeat_60 (by decide) ?_
    refine wp_dup2 dX11_exchangeHeat_61 rfl rfl ?_
    refine wp_laldk (n := 3) 0 (al m (gB G + 297) 0) dX11_exchangeHeat_62 (ka hF 297 (by decide)) (la 297) (vinl (by decide)) rfl rfl ?_
    refine wp_aload_n dX11_exchangeHeat_63 rfl ?_
    refine wp_getr (gB G + 294) dX11_exchangeHeat_64 fX11_7 (ka hF 293 (by decide)) (hF.2 _ _) (rra 1 (isK_le (ka hF 293 (by decide))) (fun _ => rfl)) ?_
    refine wp_iconst (1 : Int32) dX11_exchangeHeat_67 (by decide) ?_
    refine wp_ialdk (n := 1486) 1 (ai m (gB G + 294) 1) dX11_exchangeHeat_68 (ka hF 294 (by decide)) (la 294) (vinl (by decide)) rfl rfl ?_
    refine wp_i2l dX11_exchangeHeat_69 ?_
    refine wp_lload_n dX11_exchangeHeat_70 rfl ?_
    refine wp_lmul dX11_exchangeHeat_71 ?_
    refine wp_ladd dX11_exchangeHeat_72 ?_
    refine wp_lastk (n := 3) 0 dX11_exchangeHeat_73 (ka hF 297 (by decide)) (la 297) (vinl (by decide))  rfl ?_
    have hF4 := Full_wal (gB G + 297) 0 ((al m (gB G + 297) 0) + ((Int32.toInt64 (ai m (gB G + 294) 1)) * a)) hF
    refine wp_aload_n dX11_exchangeHeat_74 rfl ?_
    refine wp_getr (gB G + 297) dX11_exchangeHeat_75 fX11_19 (ka hF4 293 (by decide)) (hF4.2 _ _) (rra 4 (isK_le (ka hF4 293 (by decide))) (fun _ => rfl)) ?_
    refine wp_iconst (1 : Int32) dX11_exchangeHeat_78 (by decide) ?_
    refine wp_dup2 dX11_exchangeHeat_79 rfl rfl ?_
    refine wp_laldk (n := 3) 1 (al m (gB G + 297) 1) dX11_exchangeHeat_80 (ka hF4 297 (by decide)) (la 297) (vinl (by decide)) rfl (al_nk (by omega)) ?_
    refine wp_aload_n dX11_exchangeHeat_81 rfl ?_
    refine wp_getr (gB G + 294) dX11_exchangeHeat_82 fX11_7 (ka hF4 293 (by decide)) (hF4.2 _ _) (rra 1 (isK_le (ka hF4 293 (by decide))) (fun _ => rfl)) ?_
    refine wp_iconst (1 : Int32) dX11_exchangeHeat_85 (by decide) ?_
    refine wp_ialdk (n := 1486) 1 (ai m (gB G + 294) 1) dX11_exchangeHeat_86 (ka hF4 294 (by decide)) (la 294) (vinl (by decide)) rfl ai_wal ?_
    refine wp_i2l dX11_exchangeHeat_87 ?_
    refine wp_lload_n dX11_exchangeHeat_88 rfl ?_
    refine wp_lmul dX11_exchangeHeat_89 ?_
    refine wp_ladd dX11_exchangeHeat_90 ?_
    refine wp_lastk (n := 3) 1 dX11_exchangeHeat_91 (ka hF4 297 (by decide)) (la 297) (vinl (by decide))  rfl ?_
    have hF5 := Full_wal (gB G + 297) 1 ((al m (gB G + 297) 1) + ((Int32.toInt64 (ai m (gB G + 294) 1)) * c)) hF4
    refine wp_aload_n dX11_exchangeHeat_92 rfl ?_
    refine wp_getr (gB G + 297) dX11_exchangeHeat_93 fX11_19 (ka hF5 293 (by decide)) (hF5.2 _ _) (rra 4 (isK_le (ka hF5 293 (by decide))) (fun _ => rfl)) ?_
    refine wp_iconst (2 : Int32) dX11_exchangeHeat_96 (by decide) ?_
    refine wp_dup2 dX11_exchangeHeat_97 rfl rfl ?_
    refine wp_laldk (n := 3) 2 (al m (gB G + 297) 2) dX11_exchangeHeat_98 (ka hF5 297 (by decide)) (la 297) (vinl (by decide)) rfl ((al_nk (by omega)).trans (al_nk (by omega))) ?_
    refine wp_aload_n dX11_exchangeHeat_99 rfl ?_
    refine wp_getr (gB G + 294) dX11_exchangeHeat_100 fX11_7 (ka hF5 293 (by decide)) (hF5.2 _ _) (rra 1 (isK_le (ka hF5 293 (by decide))) (fun _ => rfl)) ?_
    refine wp_iconst (1 : Int32) dX11_exchangeHeat_103 (by decide) ?_
    refine wp_ialdk (n := 1486) 1 (ai m (gB G + 294) 1) dX11_exchangeHeat_104 (ka hF5 294 (by decide)) (la 294) (vinl (by decide)) rfl (ai_wal.trans ai_wal) ?_
    refine wp_i2l dX11_exchangeHeat_105 ?_
    refine wp_aload_n dX11_exchangeHeat_106 rfl ?_
    refine wp_forget [.ref (gB G + 293), lvU, lvU, lvU, lvU, lvU, lvU, lvU] ⟨Or.inl rfl, Or.inr rfl, Or.inr rfl, Or.inr rfl, Or.inr rfl, Or.inr rfl, Or.inr rfl, Or.inr rfl, trivial⟩ ?_
    refine wp_callV (As := []) (S := [.long (Int32.toInt64 (ai m (gB G + 294) 1)), .long (al m (gB G + 297) 2), .int (2 : Int32), .ref (gB G + 297)]) (b' := (0, 0)) (b := (0, 0)) dX11_exchangeHeat_107 MX11_142 (ka hF5 293 (by decide)) rfl rfl rfl rfl (Nat.le_of_ble_eq_true rfl) ?_
    exact e1 hp3
  · have hp6 : i < n := (nlt q2 (by omega) (by omega))
    refine wp_aload_n dX11_exchangeHeat_19 rfl ?_
    refine wp_getr (gB G + 301) dX11_exchangeHeat_20 fX11_33 (ka hF 293 (by decide)) (hF.2 _ _) (rra 8 (isK_le (ka hF 293 (by decide))) (fun _ => rfl)) ?_
    refine wp_iload dX11_exchangeHeat_23 rfl ?_
    refine wp_aload_n dX11_exchangeHeat_25 rfl ?_
    refine wp_iload dX11_exchangeHeat_26 rfl ?_
    refine wp_callV (As := [.int (nI i)]) (S := [.int (nI i), .ref (gB G + 301)]) (b' := (0, 0)) (b := (0, 0)) dX11_exchangeHeat_28 MX11_145 (ka hF 293 (by decide)) rfl rfl rfl rfl (Nat.le_of_ble_eq_true rfl) ?_
    exact e2 hp6

theorem bM_ex2 {G : Cx} {d : Nat} {m : Mm} {Q : Option Value → Mm → Prop} {i : Nat} {l1 : Int64} {l3 : Int64} {r : Int64} (hF : Full G m) (hi : i < 12)
    (e1 : WPM G (d + 4) (0, 0) μX11_emittedBy [.ref (gB G + 293), .int (nI i)] (wal m (gB G + 301) i r) (fun r' m' => WP G (d + 5) (0, 0) μX11_exchangeHeat 39 [.ref (gB G + 293), lvU, lvU, .long l3, lvU, .int (nI i), lvU, lvU] (r'.toList ++ [.long l1]) m' Q)) :
    WP G (d + 5) (0, 0) μX11_exchangeHeat 31 [.ref (gB G + 293), .long l1, lvU, .long l3, lvU, .int (nI i), lvU, lvU] [.long r, .int (nI i), .ref (gB G + 301)] m Q := by
  refine wp_lastk (n := 12) i dX11_exchangeHeat_31 (ka hF 301 (by decide)) (la 301) (vin (by omega) (by decide))  (nIc (by omega)) ?_
  have hF1 := Full_wal (gB G + 301) i r hF
  refine wp_lload_n dX11_exchangeHeat_32 rfl ?_
  refine wp_aload_n dX11_exchangeHeat_33 rfl ?_
  refine wp_iload dX11_exchangeHeat_34 rfl ?_
  refine wp_forget [.ref (gB G + 293), lvU, lvU, .long l3, lvU, .int (nI i), lvU, lvU] ⟨Or.inl rfl, Or.inr rfl, Or.inr rfl, Or.inl rfl, Or.inr rfl, Or.inl rfl, Or.inr rfl, Or.inr rfl, trivial⟩ ?_
  refine wp_callV (As := [.int (nI i)]) (S := [.long l1]) (b' := (0, 0)) (b := (0, 0)) dX11_exchangeHeat_36 MX11_149 (ka hF1 293 (by decide)) rfl rfl rfl rfl (Nat.le_of_ble_eq_true rfl) ?_
  exact e1

theorem bM_ex3 {G : Cx} {d : Nat} {m : Mm} {Q : Option Value → Mm → Prop} {i : Nat} {l3 : Int64} {s0 : Int64} {r : Int64} (hF : Full G m) (hi : i < 12)
    (e1 : WPM G (d + 4) (0, 0) μX11_absorbedBy [.ref (gB G + 293), .int (nI i)] m (fun r' m' => WP G (d + 5) (0, 0) μX11_exchangeHeat 48 [.ref (gB G + 293), .long (s0 + r), lvU, lvU, lvU, .int (nI i), lvU, lvU] (r'.toList ++ [.long l3]) m' Q)) :
    WP G (d + 5) (0, 0) μX11_exchangeHeat 39 [.ref (gB G + 293), lvU, lvU, .long l3, lvU, .int (nI i), lvU, lvU] [.long r, .long s0] m Q := by
  refine wp_ladd dX11_exchangeHeat_39 ?_
  refine wp_lstore_n dX11_exchangeHeat_40 (by decide) rfl ?_
  refine wp_lload_n dX11_exchangeHeat_41 rfl ?_
  refine wp_aload_n dX11_exchangeHeat_42 rfl ?_
  refine wp_iload dX11_exchangeHeat_43 rfl ?_
  refine wp_forget [.ref (gB G + 293), .long (s0 + r), lvU, lvU, lvU, .int (nI i), lvU, lvU] ⟨Or.inl rfl, Or.inl rfl, Or.inr rfl, Or.inr rfl, Or.inr rfl, Or.inl rfl, Or.inr rfl, Or.inr rfl, trivial⟩ ?_
  refine wp_callV (As := [.int (nI i)]) (S := [.long l3]) (b' := (0, 0)) (b := (0, 0)) dX11_exchangeHeat_45 MX11_152 (ka hF 293 (by decide)) rfl rfl rfl rfl (Nat.le_of_ble_eq_true rfl) ?_
  exact e1

theorem bM_ex4 {G : Cx} {d : Nat} {m : Mm} {Q : Option Value → Mm → Prop} {i : Nat} {l1 : Int64} {s0 : Int64} {r : Int64} (hF : Full G m) (hi : i < 12)
    (e1 : WP G (d + 5) (0, 0) μX11_exchangeHeat 7 [.ref (gB G + 293), .long l1, lvU, .long (s0 + r), lvU, .int (nI (i + 1)), lvU, lvU] [] m Q) :
    WP G (d + 5) (0, 0) μX11_exchangeHeat 48 [.ref (gB G + 293), .long l1, lvU, lvU, lvU, .int (nI i), lvU, lvU] [.long r, .long s0] m Q := by
  refine wp_ladd dX11_exchangeHeat_48 ?_
  refine wp_lstore_n dX11_exchangeHeat_49 (by decide) rfl ?_
  refine wp_iinc (nI (i + 1)) dX11_exchangeHeat_50 rfl (by decide) (nadd (a := i) (b := 1) (by omega)) rfl ?_
  refine wp_goto 7 dX11_exchangeHeat_53 (by decide) ?_
  refine wp_forget [.ref (gB G + 293), .long l1, lvU, .long (s0 + r), lvU, .int (nI (i + 1)), lvU, lvU] ⟨Or.inl rfl, Or.inl rfl, Or.inr rfl, Or.inl rfl, Or.inr rfl, Or.inl rfl, Or.inr rfl, Or.inr rfl, trivial⟩ ?_
  exact e1

theorem bM_ex5 {G : Cx} {d : Nat} {m : Mm} {Q : Option Value → Mm → Prop} {s0 : Int64} {s1 : Int64} {r : Int32} (hF : Full G m) 
    (e1 : WP G (d + 5) (0, 0) μX11_exchangeHeat 117 [.ref (gB G + 293), lvU, lvU, lvU, lvU, .int (0 : Int32), lvU, lvU] [] (wal m (gB G + 297) 2 (s1 + (s0 * (Int32.toInt64 r)))) Q) :
    WP G (d + 5) (0, 0) μX11_exchangeHeat 110 [.ref (gB G + 293), lvU, lvU, lvU, lvU, lvU, lvU, lvU] [.int r, .long s0, .long s1, .int (2 : Int32), .ref (gB G + 297)] m Q := by
  refine wp_i2l dX11_exchangeHeat_110 ?_
  refine wp_lmul dX11_exchangeHeat_111 ?_
  refine wp_ladd dX11_exchangeHeat_112 ?_
  refine wp_lastk (n := 3) 2 dX11_exchangeHeat_113 (ka hF 297 (by decide)) (la 297) (vinl (by decide))  rfl ?_
  have hF1 := Full_wal (gB G + 297) 2 (s1 + (s0 * (Int32.toInt64 r))) hF
  refine wp_iconst (0 : Int32) dX11_exchangeHeat_114 (by decide) ?_
  refine wp_istore dX11_exchangeHeat_115 (by decide) rfl ?_
  refine wp_forget [.ref (gB G + 293), lvU, lvU, lvU, lvU, .int (0 : Int32), lvU, lvU] ⟨Or.inl rfl, Or.inr rfl, Or.inr rfl, Or.inr rfl, Or.inr rfl, Or.inl rfl, Or.inr rfl, Or.inr rfl, trivial⟩ ?_
  exact e1

theorem bM_ex6 {G : Cx} {d : Nat} {m : Mm} {Q : Option Value → Mm → Prop} {i n : Nat} (hF : Full G m) (hn : ai m (gB G + 294) 12 = nI n) (h12 : n ≤ 12) (hi : i ≤ n)
    (g1 : i < n → ¬ (Int32.toInt64 (ai m (gB G + 294) (11 * i + 20))) = 0)
    (e1 : ¬ i < n → Q none m)
    (e2 : i < n → WP G (d + 5) (0, 0) μX11_exchangeHeat 117 [.ref (gB G + 293), lvU, lvU, lvU, lvU, .int (nI (i + 1)), lvU, lvU] [] (wai m (gB G + 294) (11 * i + 21) (Int64.toInt32 (lmax (-200000 : Int64) (lmin (200000 : Int64) ((Int32.toInt64 (ai m (gB G + 294) (11 * i + 21))) + (((al m (gB G + 301) i) * (Int32.toInt64 (ai m (gB G + 294) 1))) / (Int32.toInt64 (ai m (gB G + 294) (11 * i + 20))))))))) Q) :
    WP G (d + 5) (0, 0) μX11_exchangeHeat 117 [.ref (gB G + 293), lvU, lvU, lvU, lvU, .int (nI i), lvU, lvU] [] m Q := by
  refine wp_iload dX11_exchangeHeat_117 rfl ?_
  refine wp_aload_n dX11_exchangeHeat_119 rfl ?_
  refine wp_getr (gB G + 294) dX11_exchangeHeat_120 fX11_7 (ka hF 293 (by decide)) (hF.2 _ _) (rra 1 (isK_le (ka hF 293 (by decide))) (fun _ => rfl)) ?_
  refine wp_bipush (12 : Int32) dX11_exchangeHeat_123 (by decide) ?_
  refine wp_ialdk (n := 1486) 12 (nI n) dX11_exchangeHeat_125 (ka hF 294 (by decide)) (la 294) (vinl (by decide)) rfl hn ?_
  refine wp_icmp_ge 189 dX11_exchangeHeat_126 (by decide) (fun q1 => ?_) (fun q2 => ?_)
  · have hp3 : ¬ i < n := (fun z => q1 (nlt_ z (by omega)))
    exact wp_vret dX11_exchangeHeat_189 rfl (e1 hp3)
  · have hp4 : i < n := (nlt q2 (by omega) (by omega))
    refine wp_aload_n dX11_exchangeHeat_129 rfl ?_
    refine wp_iload dX11_exchangeHeat_130 rfl ?_
    refine wp_iconst (1 : Int32) dX11_exchangeHeat_132 (by decide) ?_
    refine wp_callV (As := [.int (nI i), .int (1 : Int32)]) (S := []) (b' := (0, 0)) (b := (0, 0)) dX11_exchangeHeat_133 MX11_89 (ka hF 293 (by decide)) rfl rfl rfl rfl (Nat.le_of_ble_eq_true rfl) ?_
    refine WPM.of pX11 (Nat.le_of_ble_eq_true rfl) rfl ?_
    refine wp_aload_n dX11_node_0 rfl ?_
    refine wp_getr (gB G + 294) dX11_node_1 fX11_7 (ka hF 293 (by decide)) (hF.2 _ _) (rra 1 (isK_le (ka hF 293 (by decide))) (fun _ => rfl)) ?_
    refine wp_bipush (20 : Int32) dX11_node_4 (by decide) ?_
    refine wp_bipush (11 : Int32) dX11_node_6 (by decide) ?_
    refine wp_iload_n dX11_node_8 rfl ?_
    refine wp_imulv (nI (11 * i)) dX11_node_9 (nmul (a := 11) (b := i) (by omega)) ?_
    refine wp_iaddv (nI (11 * i + 20)) dX11_node_10 (nadd (a := 20) (b := 11 * i) (by omega)) ?_
    refine wp_iload_n dX11_node_11 rfl ?_
    refine wp_iaddv (nI (11 * i + 21)) dX11_node_12 (nadd (a := 11 * i + 20) (b := 1) (by omega)) ?_
    refine wp_ialdk (n := 1486) (11 * i + 21) (ai m (gB G + 294) (11 * i + 21)) dX11_node_13 (ka hF 294 (by decide)) (la 294) (vin (by omega) (by decide)) (nIc (by omega)) rfl ?_
    refine wp_iret dX11_node_14 rfl ?_
    show WP G (d + 5) (0, 0) μX11_exchangeHeat 136 [.ref (gB G + 293), lvU, lvU, lvU, lvU, .int (nI i), lvU, lvU] [.int (ai m (gB G + 294) (11 * i + 21))] m _
    refine wp_i2l dX11_exchangeHeat_136 ?_
    refine wp_aload_n dX11_exchangeHeat_137 rfl ?_
    refine wp_getr (gB G + 301) dX11_exchangeHeat_138 fX11_33 (ka hF 293 (by decide)) (hF.2 _ _) (rra 8 (isK_le (ka hF 293 (by decide))) (fun _ => rfl)) ?_
    refine wp_iload dX11_exchangeHeat_141 rfl ?_
    refine wp_laldk (n := 12) i (al m (gB G + 301) i) dX11_exchangeHeat_143 (ka hF 301 (by decide)) (la 301) (vin (by omega) (by decide)) (nIc (by omega)) rfl ?_
    refine wp_aload_n dX11_exchangeHeat_144 rfl ?_
    refine wp_getr (gB G + 294) dX11_exchangeHeat_145 fX11_7 (ka hF 293 (by decide)) (hF.2 _ _) (rra 1 (isK_le (ka hF 293 (by decide))) (fun _ => rfl)) ?_
    refine wp_iconst (1 : Int32) dX11_exchangeHeat_148 (by decide) ?_
    refine wp_ialdk (n := 1486) 1 (ai m (gB G + 294) 1) dX11_exchangeHeat_149 (ka hF 294 (by decide)) (la 294) (vinl (by decide)) rfl rfl ?_
    refine wp_i2l dX11_exchangeHeat_150 ?_
    refine wp_lmul dX11_exchangeHeat_151 ?_
    refine wp_aload_n dX11_exchangeHeat_152 rfl ?_
    refine wp_iload dX11_exchangeHeat_153 rfl ?_
    refine wp_iconst (0 : Int32) dX11_exchangeHeat_155 (by decide) ?_
    refine wp_callV (As := [.int (nI i), .int (0 : Int32)]) (S := [.long ((al m (gB G + 301) i) * (Int32.toInt64 (ai m (gB G + 294) 1))), .long (Int32.toInt64 (ai m (gB G + 294) (11 * i + 21)))]) (b' := (0, 0)) (b := (0, 0)) dX11_exchangeHeat_156 MX11_89 (ka hF 293 (by decide)) rfl rfl rfl rfl (Nat.le_of_ble_eq_true rfl) ?_
    refine WPM.of pX11 (Nat.le_of_ble_eq_true rfl) rfl ?_
    refine wp_aload_n dX11_node_0 rfl ?_
    refine wp_getr (gB G + 294) dX11_node_1 fX11_7 (ka hF 293 (by decide)) (hF.2 _ _) (rra 1 (isK_le (ka hF 293 (by decide))) (fun _ => rfl)) ?_
    refine wp_bipush (20 : Int32) dX11_node_4 (by decide) ?_
    refine wp_bipush (11 : Int32) dX11_node_6 (by decide) ?_
    refine wp_iload_n dX11_node_8 rfl ?_
    refine wp_imulv (nI (11 * i)) dX11_node_9 (nmul (a := 11) (b := i) (by omega)) ?_
    refine wp_iaddv (nI (11 * i + 20)) dX11_node_10 (nadd (a := 20) (b := 11 * i) (by omega)) ?_
    refine wp_iload_n dX11_node_11 rfl ?_
    refine wp_iaddv (nI (11 * i + 20)) dX11_node_12 (nadd (a := 11 * i + 20) (b := 0) (by omega)) ?_
    refine wp_ialdk (n := 1486) (11 * i + 20) (ai m (gB G + 294) (11 * i + 20)) dX11_node_13 (ka hF 294 (by decide)) (la 294) (vin (by omega) (by decide)) (nIc (by omega)) rfl ?_
    refine wp_iret dX11_node_14 rfl ?_
    show WP G (d + 5) (0, 0) μX11_exchangeHeat 159 [.ref (gB G + 293), lvU, lvU, lvU, lvU, .int (nI i), lvU, lvU] [.int (ai m (gB G + 294) (11 * i + 20)), .long ((al m (gB G + 301) i) * (Int32.toInt64 (ai m (gB G + 294) 1))), .long (Int32.toInt64 (ai m (gB G + 294) (11 * i + 21)))] m _
    refine wp_i2l dX11_exchangeHeat_159 ?_
    refine wp_ldiv dX11_exchangeHeat_160 (g1 hp4) ?_
    refine wp_ladd dX11_exchangeHeat_161 ?_
    refine wp_lstore dX11_exchangeHeat_162 (by decide) rfl ?_
    refine wp_aload_n dX11_exchangeHeat_164 rfl ?_
    refine wp_iload dX11_exchangeHeat_165 rfl ?_
    refine wp_iconst (1 : Int32) dX11_exchangeHeat_167 (by decide) ?_
    refine wp_lload dX11_exchangeHeat_168 rfl ?_
    refine wp_ldc2 dX11_exchangeHeat_170 kX11_155 ?_
    refine wp_ldc2 dX11_exchangeHeat_173 kX11_157 ?_
    refine wp_callS (As := [.long ((Int32.toInt64 (ai m (gB G + 294) (11 * i + 21))) + (((al m (gB G + 301) i) * (Int32.toInt64 (ai m (gB G + 294) 1))) / (Int32.toInt64 (ai m (gB G + 294) (11 * i + 20))))), .long (-200000 : Int64), .long (200000 : Int64)]) (S := [.int (1 : Int32), .int (nI i), .ref (gB G + 293)]) (b' := (0, 0)) (b := (0, 0)) dX11_exchangeHeat_176 MX11_117 rfl rfl (Nat.le_of_ble_eq_true rfl) ?_
    refine WPM.of pX11 (Nat.le_of_ble_eq_true rfl) rfl ?_
    refine wp_lload_n dX11_nearest_0 rfl ?_
    refine wp_lload dX11_nearest_1 rfl ?_
    refine wp_lload_n dX11_nearest_3 rfl ?_
    refine wp_minL dX11_nearest_4 AX11_58 (Nat.le_of_ble_eq_true rfl) ?_
    refine wp_maxL dX11_nearest_7 AX11_64 (Nat.le_of_ble_eq_true rfl) ?_
    refine wp_lret dX11_nearest_10 rfl ?_
    show WP G (d + 5) (0, 0) μX11_exchangeHeat 179 [.ref (gB G + 293), lvU, lvU, lvU, lvU, .int (nI i), .long ((Int32.toInt64 (ai m (gB G + 294) (11 * i + 21))) + (((al m (gB G + 301) i) * (Int32.toInt64 (ai m (gB G + 294) 1))) / (Int32.toInt64 (ai m (gB G + 294) (11 * i + 20))))), lvU] [.long (lmax (-200000 : Int64) (lmin (200000 : Int64) ((Int32.toInt64 (ai m (gB G + 294) (11 * i + 21))) + (((al m (gB G + 301) i) * (Int32.toInt64 (ai m (gB G + 294) 1))) / (Int32.toInt64 (ai m (gB G + 294) (11 * i + 20))))))), .int (1 : Int32), .int (nI i), .ref (gB G + 293)] m _
    refine wp_l2i dX11_exchangeHeat_179 ?_
    refine wp_callV (As := [.int (nI i), .int (1 : Int32), .int (Int64.toInt32 (lmax (-200000 : Int64) (lmin (200000 : Int64) ((Int32.toInt64 (ai m (gB G + 294) (11 * i + 21))) + (((al m (gB G + 301) i) * (Int32.toInt64 (ai m (gB G + 294) 1))) / (Int32.toInt64 (ai m (gB G + 294) (11 * i + 20))))))))]) (S := []) (b' := (0, 0)) (b := (0, 0)) dX11_exchangeHeat_180 MX11_81 (ka hF 293 (by decide)) rfl rfl rfl rfl (Nat.le_of_ble_eq_true rfl) ?_
    refine WPM.of pX11 (Nat.le_of_ble_eq_true rfl) rfl ?_
    refine wp_aload_n dX11_setNode_0 rfl ?_
    refine wp_getr (gB G + 294) dX11_setNode_1 fX11_7 (ka hF 293 (by decide)) (hF.2 _ _) (rra 1 (isK_le (ka hF 293 (by decide))) (fun _ => rfl)) ?_
    refine wp_bipush (20 : Int32) dX11_setNode_4 (by decide) ?_
    refine wp_bipush (11 : Int32) dX11_setNode_6 (by decide) ?_
    refine wp_iload_n dX11_setNode_8 rfl ?_
    refine wp_imulv (nI (11 * i)) dX11_setNode_9 (nmul (a := 11) (b := i) (by omega)) ?_
    refine wp_iaddv (nI (11 * i + 20)) dX11_setNode_10 (nadd (a := 20) (b := 11 * i) (by omega)) ?_
    refine wp_iload_n dX11_setNode_11 rfl ?_
    refine wp_iaddv (nI (11 * i + 21)) dX11_setNode_12 (nadd (a := 11 * i + 20) (b := 1) (by omega)) ?_
    refine wp_iload_n dX11_setNode_13 rfl ?_
    refine wp_iastk (n := 1486) (11 * i + 21) dX11_setNode_14 (ka hF 294 (by decide)) (la 294) (vin (by omega) (by decide))  (nIc (by omega)) ?_
    have hF5 := Full_wai (gB G + 294) (11 * i + 21) (Int64.toInt32 (lmax (-200000 : Int64) (lmin (200000 : Int64) ((Int32.toInt64 (ai m (gB G + 294) (11 * i + 21))) + (((al m (gB G + 301) i) * (Int32.toInt64 (ai m (gB G + 294) 1))) / (Int32.toInt64 (ai m (gB G + 294) (11 * i + 20)))))))) hF
    refine wp_vret dX11_setNode_15 rfl ?_
    show WP G (d + 5) (0, 0) μX11_exchangeHeat 183 [.ref (gB G + 293), lvU, lvU, lvU, lvU, .int (nI i), .long ((Int32.toInt64 (ai m (gB G + 294) (11 * i + 21))) + (((al m (gB G + 301) i) * (Int32.toInt64 (ai m (gB G + 294) 1))) / (Int32.toInt64 (ai m (gB G + 294) (11 * i + 20))))), lvU] [] (wai m (gB G + 294) (11 * i + 21) (Int64.toInt32 (lmax (-200000 : Int64) (lmin (200000 : Int64) ((Int32.toInt64 (ai m (gB G + 294) (11 * i + 21))) + (((al m (gB G + 301) i) * (Int32.toInt64 (ai m (gB G + 294) 1))) / (Int32.toInt64 (ai m (gB G + 294) (11 * i + 20))))))))) _
    refine wp_iinc (nI (i + 1)) dX11_exchangeHeat_183 rfl (by decide) (nadd (a := i) (b := 1) (by omega)) rfl ?_
    refine wp_goto 117 dX11_exchangeHeat_186 (by decide) ?_
    refine wp_forget [.ref (gB G + 293), lvU, lvU, lvU, lvU, .int (nI (i + 1)), lvU, lvU] ⟨Or.inl rfl, Or.inr rfl, Or.inr rfl, Or.inr rfl, Or.inr rfl, Or.inl rfl, Or.inr rfl, Or.inr rfl, trivial⟩ ?_
    exact e2 hp4

theorem eM_ur {G : Cx} {d : Nat} {m : Mm} {Q : Option Value → Mm → Prop}  (hF : Full G m) 
    (e1 : WP G (d + 2) (0, 0) μX11_updateRecords 4 [.ref (gB G + 293), .int (0 : Int32), .int (0 : Int32), lvU] [] m Q) :
    WPM G (d + 2) (0, 0) μX11_updateRecords [.ref (gB G + 293)] m Q := by
  refine WPM.of pX11 (Nat.le_of_ble_eq_true rfl) rfl ?_
  refine wp_iconst (0 : Int32) dX11_updateRecords_0 (by decide) ?_
  refine wp_istore_n dX11_updateRecords_1 (by decide) rfl ?_
  refine wp_iconst (0 : Int32) dX11_updateRecords_2 (by decide) ?_
  refine wp_istore_n dX11_updateRecords_3 (by decide) rfl ?_
  refine wp_forget [.ref (gB G + 293), .int (0 : Int32), .int (0 : Int32), lvU] ⟨Or.inl rfl, Or.inl rfl, Or.inl rfl, Or.inr rfl, trivial⟩ ?_
  exact e1

theorem bM_ur {G : Cx} {d : Nat} {m : Mm} {Q : Option Value → Mm → Prop} {z : Int32} {i n v : Nat} (hF : Full G m) (hn : ai m (gB G + 294) 12 = nI n) (h12 : n ≤ 12) (hi : i ≤ n) (hv : ai m (gB G + 294) 16 = nI v) (hv12 : v ≤ 12)
    (g1 : ¬ i < n → z = 0 ∨ z = 1)
    (e1 : ¬ i < n → Q (some (.int z)) m)
    (e2 : i < n → (ai m (gB G + 294) (11 * i + 21)) < (ai m (gB G + 294) (11 * i + 25)) → ¬ (ai m (gB G + 294) (11 * i + 30)) = (-1 : Int32) → WP G (d + 2) (0, 0) μX11_updateRecords 4 [.ref (gB G + 293), .int (1 : Int32), .int (nI (i + 1)), lvU] [] (wai (wai (wai m (gB G + 294) (11 * i + 27) (imin (ai m (gB G + 294) (11 * i + 21)) (ai m (gB G + 294) (11 * i + 27)))) (gB G + 294) (11 * i + 28) (imax (ai m (gB G + 294) (11 * i + 21)) (ai m (gB G + 294) (11 * i + 28)))) (gB G + 294) (11 * i + 29) ((ai m (gB G + 294) (11 * i + 29)) + (1 : Int32))) Q)
    (e3 : i < n → (ai m (gB G + 294) (11 * i + 21)) < (ai m (gB G + 294) (11 * i + 25)) → (ai m (gB G + 294) (11 * i + 30)) = (-1 : Int32) → WP G (d + 2) (0, 0) μX11_updateRecords 4 [.ref (gB G + 293), .int (1 : Int32), .int (nI (i + 1)), lvU] [] (wai (wai (wai (wai (wai (wai m (gB G + 294) (11 * i + 27) (imin (ai m (gB G + 294) (11 * i + 21)) (ai m (gB G + 294) (11 * i + 27)))) (gB G + 294) (11 * i + 28) (imax (ai m (gB G + 294) (11 * i + 21)) (ai m (gB G + 294) (11 * i + 28)))) (gB G + 294) (11 * i + 29) ((ai m (gB G + 294) (11 * i + 29)) + (1 : Int32))) (gB G + 294) (11 * i + 30) (ai m (gB G + 294) 0)) (gB G + 294) (v + 402) (nI i)) (gB G + 294) 16 (nI (v + 1))) Q)
    (e4 : i < n → ¬ (ai m (gB G + 294) (11 * i + 21)) < (ai m (gB G + 294) (11 * i + 25)) → ¬ (ai m (gB G + 294) (11 * i + 26)) < (ai m (gB G + 294) (11 * i + 21)) → WP G (d + 2) (0, 0) μX11_updateRecords 4 [.ref (gB G + 293), .int z, .int (nI (i + 1)), lvU] [] (wai (wai m (gB G + 294) (11 * i + 27) (imin (ai m (gB G + 294) (11 * i + 21)) (ai m (gB G + 294) (11 * i + 27)))) (gB G + 294) (11 * i + 28) (imax (ai m (gB G + 294) (11 * i + 21)) (ai m (gB G + 294) (11 * i + 28)))) Q)
    (e5 : i < n → ¬ (ai m (gB G + 294) (11 * i + 21)) < (ai m (gB G + 294) (11 * i + 25)) → (ai m (gB G + 294) (11 * i + 26)) < (ai m (gB G + 294) (11 * i + 21)) → ¬ (ai m (gB G + 294) (11 * i + 30)) = (-1 : Int32) → WP G (d + 2) (0, 0) μX11_updateRecords 4 [.ref (gB G + 293), .int (1 : Int32), .int (nI (i + 1)), lvU] [] (wai (wai (wai m (gB G + 294) (11 * i + 27) (imin (ai m (gB G + 294) (11 * i + 21)) (ai m (gB G + 294) (11 * i + 27)))) (gB G + 294) (11 * i + 28) (imax (ai m (gB G + 294) (11 * i + 21)) (ai m (gB G + 294) (11 * i + 28)))) (gB G + 294) (11 * i + 29) ((ai m (gB G + 294) (11 * i + 29)) + (1 : Int32))) Q)
    (e6 : i < n → ¬ (ai m (gB G + 294) (11 * i + 21)) < (ai m (gB G + 294) (11 * i + 25)) → (ai m (gB G + 294) (11 * i + 26)) < (ai m (gB G + 294) (11 * i + 21)) → (ai m (gB G + 294) (11 * i + 30)) = (-1 : Int32) → WP G (d + 2) (0, 0) μX11_updateRecords 4 [.ref (gB G + 293), .int (1 : Int32), .int (nI (i + 1)), lvU] [] (wai (wai (wai (wai (wai (wai m (gB G + 294) (11 * i + 27) (imin (ai m (gB G + 294) (11 * i + 21)) (ai m (gB G + 294) (11 * i + 27)))) (gB G + 294) (11 * i + 28) (imax (ai m (gB G + 294) (11 * i + 21)) (ai m (gB G + 294) (11 * i + 28)))) (gB G + 294) (11 * i + 29) ((ai m (gB G + 294) (11 * i + 29)) + (1 : Int32))) (gB G + 294) (11 * i + 30) (ai m (gB G + 294) 0)) (gB G + 294) (v + 402) (nI i)) (gB G + 294) 16 (nI (v + 1))) Q) :
    WP G (d + 2) (0, 0) μX11_updateRecords 4 [.ref (gB G + 293), .int z, .int (nI i), lvU] [] m Q := by
  refine wp_iload_n dX11_updateRecords_4 rfl ?_
  refine wp_aload_n dX11_updateRecords_5 rfl ?_
  refine wp_getr (gB G + 294) dX11_updateRecords_6 fX11_7 (ka hF 293 (by decide)) (hF.2 _ _) (rra 1 (isK_le (ka hF 293 (by decide))) (fun _ => rfl)) ?_
  refine wp_bipush (12 : Int32) dX11_updateRecords_9 (by decide) ?_
  refine wp_ialdk (n := 1486) 12 (nI n) dX11_updateRecords_11 (ka hF 294 (by decide)) (la 294) (vinl (by decide)) rfl hn ?_
  refine wp_icmp_ge 145 dX11_updateRecords_12 (by decide) (fun q1 => ?_) (fun q2 => ?_)
  · have hp3 : ¬ i < n := (fun z => q1 (nlt_ z (by omega)))
    refine wp_iload_n dX11_updateRecords_145 rfl ?_
    exact wp_zret dX11_updateRecords_146 rfl (narz (g1 hp3)) (e1 hp3)
  · have hp4 : i < n := (nlt q2 (by omega) (by omega))
    refine wp_aload_n dX11_updateRecords_15 rfl ?_
    refine wp_iload_n dX11_updateRecords_16 rfl ?_
    refine wp_iconst (1 : Int32) dX11_updateRecords_17 (by decide) ?_
    refine wp_callV (As := [.int (nI i), .int (1 : Int32)]) (S := []) (b' := (0, 0)) (b := (0, 0)) dX11_updateRecords_18 MX11_89 (ka hF 293 (by decide)) rfl rfl rfl rfl (Nat.le_of_ble_eq_true rfl) ?_
    refine WPM.of pX11 (Nat.le_of_ble_eq_true rfl) rfl ?_
    refine wp_aload_n dX11_node_0 rfl ?_
    refine wp_getr (gB G + 294) dX11_node_1 fX11_7 (ka hF 293 (by decide)) (hF.2 _ _) (rra 1 (isK_le (ka hF 293 (by decide))) (fun _ => rfl)) ?_
    refine wp_bipush (20 : Int32) dX11_node_4 (by decide) ?_
    refine wp_bipush (11 : Int32) dX11_node_6 (by decide) ?_
    refine wp_iload_n dX11_node_8 rfl ?_
    refine wp_imulv (nI (11 * i)) dX11_node_9 (nmul (a := 11) (b := i) (by omega)) ?_
    refine wp_iaddv (nI (11 * i + 20)) dX11_node_10 (nadd (a := 20) (b := 11 * i) (by omega)) ?_
    refine wp_iload_n dX11_node_11 rfl ?_
    refine wp_iaddv (nI (11 * i + 21)) dX11_node_12 (nadd (a := 11 * i + 20) (b := 1) (by omega)) ?_
    refine wp_ialdk (n := 1486) (11 * i + 21) (ai m (gB G + 294) (11 * i + 21)) dX11_node_13 (ka hF 294 (by decide)) (la 294) (vin (by omega) (by decide)) (nIc (by omega)) rfl ?_
    refine wp_iret dX11_node_14 rfl ?_
    show WP G (d + 2) (0, 0) μX11_updateRecords 21 [.ref (gB G + 293), .int z, .int (nI i), lvU] [.int (ai m (gB G + 294) (11 * i + 21))] m _
    refine wp_istore_n dX11_updateRecords_21 (by decide) rfl ?_
    refine wp_aload_n dX11_updateRecords_22 rfl ?_
    refine wp_iload_n dX11_updateRecords_23 rfl ?_
    refine wp_bipush (7 : Int32) dX11_updateRecords_24 (by decide) ?_
    refine wp_iload_n dX11_updateRecords_26 rfl ?_
    refine wp_aload_n dX11_updateRecords_27 rfl ?_
    refine wp_iload_n dX11_updateRecords_28 rfl ?_
    refine wp_bipush (7 : Int32) dX11_updateRecords_29 (by decide) ?_
    refine wp_callV (As := [.int (nI i), .int (7 : Int32)]) (S := [.int (ai m (gB G + 294) (11 * i + 21)), .int (7 : Int32), .int (nI i), .ref (gB G + 293)]) (b' := (0, 0)) (b := (0, 0)) dX11_updateRecords_31 MX11_89 (ka hF 293 (by decide)) rfl rfl rfl rfl (Nat.le_of_ble_eq_true rfl) ?_
    refine WPM.of pX11 (Nat.le_of_ble_eq_true rfl) rfl ?_
    refine wp_aload_n dX11_node_0 rfl ?_
    refine wp_getr (gB G + 294) dX11_node_1 fX11_7 (ka hF 293 (by decide)) (hF.2 _ _) (rra 1 (isK_le (ka hF 293 (by decide))) (fun _ => rfl)) ?_
    refine wp_bipush (20 : Int32) dX11_node_4 (by decide) ?_
    refine wp_bipush (11 : Int32) dX11_node_6 (by decide) ?_
    refine wp_iload_n dX11_node_8 rfl ?_
    refine wp_imulv (nI (11 * i)) dX11_node_9 (nmul (a := 11) (b := i) (by omega)) ?_
    refine wp_iaddv (nI (11 * i + 20)) dX11_node_10 (nadd (a := 20) (b := 11 * i) (by omega)) ?_
    refine wp_iload_n dX11_node_11 rfl ?_
    refine wp_iaddv (nI (11 * i + 27)) dX11_node_12 (nadd (a := 11 * i + 20) (b := 7) (by omega)) ?_
    refine wp_ialdk (n := 1486) (11 * i + 27) (ai m (gB G + 294) (11 * i + 27)) dX11_node_13 (ka hF 294 (by decide)) (la 294) (vin (by omega) (by decide)) (nIc (by omega)) rfl ?_
    refine wp_iret dX11_node_14 rfl ?_
    show WP G (d + 2) (0, 0) μX11_updateRecords 34 [.ref (gB G + 293), .int z, .int (nI i), .int (ai m (gB G + 294) (11 * i + 21))] [.int (ai m (gB G + 294) (11 * i + 27)), .int (ai m (gB G + 294) (11 * i + 21)), .int (7 : Int32), .int (nI i), .ref (gB G + 293)] m _
    refine wp_minI dX11_updateRecords_34 AX11_159 (Nat.le_of_ble_eq_true rfl) ?_
    refine wp_callV (As := [.int (nI i), .int (7 : Int32), .int (imin (ai m (gB G + 294) (11 * i + 21)) (ai m (gB G + 294) (11 * i + 27)))]) (S := []) (b' := (0, 0)) (b := (0, 0)) dX11_updateRecords_37 MX11_81 (ka hF 293 (by decide)) rfl rfl rfl rfl (Nat.le_of_ble_eq_true rfl) ?_
    refine WPM.of pX11 (Nat.le_of_ble_eq_true rfl) rfl ?_
    refine wp_aload_n dX11_setNode_0 rfl ?_
    refine wp_getr (gB G + 294) dX11_setNode_1 fX11_7 (ka hF 293 (by decide)) (hF.2 _ _) (rra 1 (isK_le (ka hF 293 (by decide))) (fun _ => rfl)) ?_
    refine wp_bipush (20 : Int32) dX11_setNode_4 (by decide) ?_
    refine wp_bipush (11 : Int32) dX11_setNode_6 (by decide) ?_
    refine wp_iload_n dX11_setNode_8 rfl ?_
    refine wp_imulv (nI (11 * i)) dX11_setNode_9 (nmul (a := 11) (b := i) (by omega)) ?_
    refine wp_iaddv (nI (11 * i + 20)) dX11_setNode_10 (nadd (a := 20) (b := 11 * i) (by omega)) ?_
    refine wp_iload_n dX11_setNode_11 rfl ?_
    refine wp_iaddv (nI (11 * i + 27)) dX11_setNode_12 (nadd (a := 11 * i + 20) (b := 7) (by omega)) ?_
    refine wp_iload_n dX11_setNode_13 rfl ?_
    refine wp_iastk (n := 1486) (11 * i + 27) dX11_setNode_14 (ka hF 294 (by decide)) (la 294) (vin (by omega) (by decide))  (nIc (by omega)) ?_
    have hF5 := Full_wai (gB G + 294) (11 * i + 27) (imin (ai m (gB G + 294) (11 * i + 21)) (ai m (gB G + 294) (11 * i + 27))) hF
    refine wp_vret dX11_setNode_15 rfl ?_
    show WP G (d + 2) (0, 0) μX11_updateRecords 40 [.ref (gB G + 293), .int z, .int (nI i), .int (ai m (gB G + 294) (11 * i + 21))] [] (wai m (gB G + 294) (11 * i + 27) (imin (ai m (gB G + 294) (11 * i + 21)) (ai m (gB G + 294) (11 * i + 27)))) _
    refine wp_aload_n dX11_updateRecords_40 rfl ?_
    refine wp_iload_n dX11_updateRecords_41 rfl ?_
    refine wp_bipush (8 : Int32) dX11_updateRecords_42 (by decide) ?_
    refine wp_iload_n dX11_updateRecords_44 rfl ?_
    refine wp_aload_n dX11_updateRecords_45 rfl ?_
    refine wp_iload_n dX11_updateRecords_46 rfl ?_
    refine wp_bipush (8 : Int32) dX11_updateRecords_47 (by decide) ?_
    refine wp_callV (As := [.int (nI i), .int (8 : Int32)]) (S := [.int (ai m (gB G + 294) (11 * i + 21)), .int (8 : Int32), .int (nI i), .ref (gB G + 293)]) (b' := (0, 0)) (b := (0, 0)) dX11_updateRecords_49 MX11_89 (ka hF5 293 (by decide)) rfl rfl rfl rfl (Nat.le_of_ble_eq_true rfl) ?_
    refine WPM.of pX11 (Nat.le_of_ble_eq_true rfl) rfl ?_
    refine wp_aload_n dX11_node_0 rfl ?_
    refine wp_getr (gB G + 294) dX11_node_1 fX11_7 (ka hF5 293 (by decide)) (hF5.2 _ _) (rra 1 (isK_le (ka hF5 293 (by decide))) (fun _ => rfl)) ?_
    refine wp_bipush (20 : Int32) dX11_node_4 (by decide) ?_
    refine wp_bipush (11 : Int32) dX11_node_6 (by decide) ?_
    refine wp_iload_n dX11_node_8 rfl ?_
    refine wp_imulv (nI (11 * i)) dX11_node_9 (nmul (a := 11) (b := i) (by omega)) ?_
    refine wp_iaddv (nI (11 * i + 20)) dX11_node_10 (nadd (a := 20) (b := 11 * i) (by omega)) ?_
    refine wp_iload_n dX11_node_11 rfl ?_
    refine wp_iaddv (nI (11 * i + 28)) dX11_node_12 (nadd (a := 11 * i + 20) (b := 8) (by omega)) ?_
    refine wp_ialdk (n := 1486) (11 * i + 28) (ai m (gB G + 294) (11 * i + 28)) dX11_node_13 (ka hF5 294 (by decide)) (la 294) (vin (by omega) (by decide)) (nIc (by omega)) (ai_nk (by omega)) ?_
    refine wp_iret dX11_node_14 rfl ?_
    show WP G (d + 2) (0, 0) μX11_updateRecords 52 [.ref (gB G + 293), .int z, .int (nI i), .int (ai m (gB G + 294) (11 * i + 21))] [.int (ai m (gB G + 294) (11 * i + 28)), .int (ai m (gB G + 294) (11 * i + 21)), .int (8 : Int32), .int (nI i), .ref (gB G + 293)] (wai m (gB G + 294) (11 * i + 27) (imin (ai m (gB G + 294) (11 * i + 21)) (ai m (gB G + 294) (11 * i + 27)))) _
    refine wp_maxI dX11_updateRecords_52 AX11_161 (Nat.le_of_ble_eq_true rfl) ?_
    refine wp_callV (As := [.int (nI i), .int (8 : Int32), .int (imax (ai m (gB G + 294) (11 * i + 21)) (ai m (gB G + 294) (11 * i + 28)))]) (S := []) (b' := (0, 0)) (b := (0, 0)) dX11_updateRecords_55 MX11_81 (ka hF5 293 (by decide)) rfl rfl rfl rfl (Nat.le_of_ble_eq_true rfl) ?_
    refine WPM.of pX11 (Nat.le_of_ble_eq_true rfl) rfl ?_
    refine wp_aload_n dX11_setNode_0 rfl ?_
    refine wp_getr (gB G + 294) dX11_setNode_1 fX11_7 (ka hF5 293 (by decide)) (hF5.2 _ _) (rra 1 (isK_le (ka hF5 293 (by decide))) (fun _ => rfl)) ?_
    refine wp_bipush (20 : Int32) dX11_setNode_4 (by decide) ?_
    refine wp_bipush (11 : Int32) dX11_setNode_6 (by decide) ?_
    refine wp_iload_n dX11_setNode_8 rfl ?_
    refine wp_imulv (nI (11 * i)) dX11_setNode_9 (nmul (a := 11) (b := i) (by omega)) ?_
    refine wp_iaddv (nI (11 * i + 20)) dX11_setNode_10 (nadd (a := 20) (b := 11 * i) (by omega)) ?_
    refine wp_iload_n dX11_setNode_11 rfl ?_
    refine wp_iaddv (nI (11 * i + 28)) dX11_setNode_12 (nadd (a := 11 * i + 20) (b := 8) (by omega)) ?_
    refine wp_iload_n dX11_setNode_13 rfl ?_
    refine wp_iastk (n := 1486) (11 * i + 28) dX11_setNode_14 (ka hF5 294 (by decide)) (la 294) (vin (by omega) (by decide))  (nIc (by omega)) ?_
    have hF6 := Full_wai (gB G + 294) (11 * i + 28) (imax (ai m (gB G + 294) (11 * i + 21)) (ai m (gB G + 294) (11 * i + 28))) hF5
    refine wp_vret dX11_setNode_15 rfl ?_
    show WP G (d + 2) (0, 0) μX11_updateRecords 58 [.ref (gB G + 293), .int z, .int (nI i), .int (ai m (gB G + 294) (11 * i + 21))] [] (wai (wai m (gB G + 294) (11 * i + 27) (imin (ai m (gB G + 294) (11 * i + 21)) (ai m (gB G + 294) (11 * i + 27)))) (gB G + 294) (11 * i + 28) (imax (ai m (gB G + 294) (11 * i + 21)) (ai m (gB G + 294) (11 * i + 28)))) _
    refine wp_aload_n dX11_updateRecords_58 rfl ?_
    refine wp_iload_n dX11_updateRecords_59 rfl ?_
    refine wp_callV (As := [.int (nI i)]) (S := []) (b' := (0, 0)) (b := (0, 0)) dX11_updateRecords_60 MX11_163 (ka hF6 293 (by decide)) rfl rfl rfl rfl (Nat.le_of_ble_eq_true rfl) ?_
    refine WPM.of pX11 (Nat.le_of_ble_eq_true rfl) rfl ?_
    refine wp_aload_n dX11_isOutside_0 rfl ?_
    refine wp_iload_n dX11_isOutside_1 rfl ?_
    refine wp_iconst (1 : Int32) dX11_isOutside_2 (by decide) ?_
    refine wp_callV (As := [.int (nI i), .int (1 : Int32)]) (S := []) (b' := (0, 0)) (b := (0, 0)) dX11_isOutside_3 MX11_89 (ka hF6 293 (by decide)) rfl rfl rfl rfl (Nat.le_of_ble_eq_true rfl) ?_
    refine WPM.of pX11 (Nat.le_of_ble_eq_true rfl) rfl ?_
    refine wp_aload_n dX11_node_0 rfl ?_
    refine wp_getr (gB G + 294) dX11_node_1 fX11_7 (ka hF6 293 (by decide)) (hF6.2 _ _) (rra 1 (isK_le (ka hF6 293 (by decide))) (fun _ => rfl)) ?_
    refine wp_bipush (20 : Int32) dX11_node_4 (by decide) ?_
    refine wp_bipush (11 : Int32) dX11_node_6 (by decide) ?_
    refine wp_iload_n dX11_node_8 rfl ?_
    refine wp_imulv (nI (11 * i)) dX11_node_9 (nmul (a := 11) (b := i) (by omega)) ?_
    refine wp_iaddv (nI (11 * i + 20)) dX11_node_10 (nadd (a := 20) (b := 11 * i) (by omega)) ?_
    refine wp_iload_n dX11_node_11 rfl ?_
    refine wp_iaddv (nI (11 * i + 21)) dX11_node_12 (nadd (a := 11 * i + 20) (b := 1) (by omega)) ?_
    refine wp_ialdk (n := 1486) (11 * i + 21) (ai m (gB G + 294) (11 * i + 21)) dX11_node_13 (ka hF6 294 (by decide)) (la 294) (vin (by omega) (by decide)) (nIc (by omega)) ((ai_nk (by omega)).trans (ai_nk (by omega))) ?_
    refine wp_iret dX11_node_14 rfl ?_
    show WP G (d + 1) (0, 0) μX11_isOutside 6 [.ref (gB G + 293), .int (nI i)] [.int (ai m (gB G + 294) (11 * i + 21))] (wai (wai m (gB G + 294) (11 * i + 27) (imin (ai m (gB G + 294) (11 * i + 21)) (ai m (gB G + 294) (11 * i + 27)))) (gB G + 294) (11 * i + 28) (imax (ai m (gB G + 294) (11 * i + 21)) (ai m (gB G + 294) (11 * i + 28)))) _
    refine wp_aload_n dX11_isOutside_6 rfl ?_
    refine wp_iload_n dX11_isOutside_7 rfl ?_
    refine wp_iconst (5 : Int32) dX11_isOutside_8 (by decide) ?_
    refine wp_callV (As := [.int (nI i), .int (5 : Int32)]) (S := [.int (ai m (gB G + 294) (11 * i + 21))]) (b' := (0, 0)) (b := (0, 0)) dX11_isOutside_9 MX11_89 (ka hF6 293 (by decide)) rfl rfl rfl rfl (Nat.le_of_ble_eq_true rfl) ?_
    refine WPM.of pX11 (Nat.le_of_ble_eq_true rfl) rfl ?_
    refine wp_aload_n dX11_node_0 rfl ?_
    refine wp_getr (gB G + 294) dX11_node_1 fX11_7 (ka hF6 293 (by decide)) (hF6.2 _ _) (rra 1 (isK_le (ka hF6 293 (by decide))) (fun _ => rfl)) ?_
    refine wp_bipush (20 : Int32) dX11_node_4 (by decide) ?_
    refine wp_bipush (11 : Int32) dX11_node_6 (by decide) ?_
    refine wp_iload_n dX11_node_8 rfl ?_
    refine wp_imulv (nI (11 * i)) dX11_node_9 (nmul (a := 11) (b := i) (by omega)) ?_
    refine wp_iaddv (nI (11 * i + 20)) dX11_node_10 (nadd (a := 20) (b := 11 * i) (by omega)) ?_
    refine wp_iload_n dX11_node_11 rfl ?_
    refine wp_iaddv (nI (11 * i + 25)) dX11_node_12 (nadd (a := 11 * i + 20) (b := 5) (by omega)) ?_
    refine wp_ialdk (n := 1486) (11 * i + 25) (ai m (gB G + 294) (11 * i + 25)) dX11_node_13 (ka hF6 294 (by decide)) (la 294) (vin (by omega) (by decide)) (nIc (by omega)) ((ai_nk (by omega)).trans (ai_nk (by omega))) ?_
    refine wp_iret dX11_node_14 rfl ?_
    show WP G (d + 1) (0, 0) μX11_isOutside 12 [.ref (gB G + 293), .int (nI i)] [.int (ai m (gB G + 294) (11 * i + 25)), .int (ai m (gB G + 294) (11 * i + 21))] (wai (wai m (gB G + 294) (11 * i + 27) (imin (ai m (gB G + 294) (11 * i + 21)) (ai m (gB G + 294) (11 * i + 27)))) (gB G + 294) (11 * i + 28) (imax (ai m (gB G + 294) (11 * i + 21)) (ai m (gB G + 294) (11 * i + 28)))) _
    refine wp_icmp_lt 31 dX11_isOutside_12 (by decide) (fun q7 => ?_) (fun q8 => ?_)
    · skip
      refine wp_iconst (1 : Int32) dX11_isOutside_31 (by decide) ?_
      refine wp_goto 36 dX11_isOutside_32 (by decide) ?_
      refine wp_zret dX11_isOutside_36 rfl rfl ?_
      show WP G (d + 2) (0, 0) μX11_updateRecords 63 [.ref (gB G + 293), .int z, .int (nI i), .int (ai m (gB G + 294) (11 * i + 21))] [.int (1 : Int32)] (wai (wai m (gB G + 294) (11 * i + 27) (imin (ai m (gB G + 294) (11 * i + 21)) (ai m (gB G + 294) (11 * i + 27)))) (gB G + 294) (11 * i + 28) (imax (ai m (gB G + 294) (11 * i + 21)) (ai m (gB G + 294) (11 * i + 28)))) _
      refine wp_if_ne 69 dX11_updateRecords_63 (by decide) (fun _ => ?_) (fun q => absurd q (by decide))
      refine wp_iconst (1 : Int32) dX11_updateRecords_69 (by decide) ?_
      refine wp_istore_n dX11_updateRecords_70 (by decide) rfl ?_
      refine wp_aload_n dX11_updateRecords_71 rfl ?_
      refine wp_iload_n dX11_updateRecords_72 rfl ?_
      refine wp_bipush (9 : Int32) dX11_updateRecords_73 (by decide) ?_
      refine wp_aload_n dX11_updateRecords_75 rfl ?_
      refine wp_iload_n dX11_updateRecords_76 rfl ?_
      refine wp_bipush (9 : Int32) dX11_updateRecords_77 (by decide) ?_
      refine wp_callV (As := [.int (nI i), .int (9 : Int32)]) (S := [.int (9 : Int32), .int (nI i), .ref (gB G + 293)]) (b' := (0, 0)) (b := (0, 0)) dX11_updateRecords_79 MX11_89 (ka hF6 293 (by decide)) rfl rfl rfl rfl (Nat.le_of_ble_eq_true rfl) ?_
      refine WPM.of pX11 (Nat.le_of_ble_eq_true rfl) rfl ?_
      refine wp_aload_n dX11_node_0 rfl ?_
      refine wp_getr (gB G + 294) dX11_node_1 fX11_7 (ka hF6 293 (by decide)) (hF6.2 _ _) (rra 1 (isK_le (ka hF6 293 (by decide))) (fun _ => rfl)) ?_
      refine wp_bipush (20 : Int32) dX11_node_4 (by decide) ?_
      refine wp_bipush (11 : Int32) dX11_node_6 (by decide) ?_
      refine wp_iload_n dX11_node_8 rfl ?_
      refine wp_imulv (nI (11 * i)) dX11_node_9 (nmul (a := 11) (b := i) (by omega)) ?_
      refine wp_iaddv (nI (11 * i + 20)) dX11_node_10 (nadd (a := 20) (b := 11 * i) (by omega)) ?_
      refine wp_iload_n dX11_node_11 rfl ?_
      refine wp_iaddv (nI (11 * i + 29)) dX11_node_12 (nadd (a := 11 * i + 20) (b := 9) (by omega)) ?_
      refine wp_ialdk (n := 1486) (11 * i + 29) (ai m (gB G + 294) (11 * i + 29)) dX11_node_13 (ka hF6 294 (by decide)) (la 294) (vin (by omega) (by decide)) (nIc (by omega)) ((ai_nk (by omega)).trans (ai_nk (by omega))) ?_
      refine wp_iret dX11_node_14 rfl ?_
      show WP G (d + 2) (0, 0) μX11_updateRecords 82 [.ref (gB G + 293), .int (1 : Int32), .int (nI i), .int (ai m (gB G + 294) (11 * i + 21))] [.int (ai m (gB G + 294) (11 * i + 29)), .int (9 : Int32), .int (nI i), .ref (gB G + 293)] (wai (wai m (gB G + 294) (11 * i + 27) (imin (ai m (gB G + 294) (11 * i + 21)) (ai m (gB G + 294) (11 * i + 27)))) (gB G + 294) (11 * i + 28) (imax (ai m (gB G + 294) (11 * i + 21)) (ai m (gB G + 294) (11 * i + 28)))) _
      refine wp_iconst (1 : Int32) dX11_updateRecords_82 (by decide) ?_
      refine wp_iaddv ((ai m (gB G + 294) (11 * i + 29)) + (1 : Int32)) dX11_updateRecords_83 rfl ?_
      refine wp_callV (As := [.int (nI i), .int (9 : Int32), .int ((ai m (gB G + 294) (11 * i + 29)) + (1 : Int32))]) (S := []) (b' := (0, 0)) (b := (0, 0)) dX11_updateRecords_84 MX11_81 (ka hF6 293 (by decide)) rfl rfl rfl rfl (Nat.le_of_ble_eq_true rfl) ?_
      refine WPM.of pX11 (Nat.le_of_ble_eq_true rfl) rfl ?_
      refine wp_aload_n dX11_setNode_0 rfl ?_
      refine wp_getr (gB G + 294) dX11_setNode_1 fX11_7 (ka hF6 293 (by decide)) (hF6.2 _ _) (rra 1 (isK_le (ka hF6 293 (by decide))) (fun _ => rfl)) ?_
      refine wp_bipush (20 : Int32) dX11_setNode_4 (by decide) ?_
      refine wp_bipush (11 : Int32) dX11_setNode_6 (by decide) ?_
      refine wp_iload_n dX11_setNode_8 rfl ?_
      refine wp_imulv (nI (11 * i)) dX11_setNode_9 (nmul (a := 11) (b := i) (by omega)) ?_
      refine wp_iaddv (nI (11 * i + 20)) dX11_setNode_10 (nadd (a := 20) (b := 11 * i) (by omega)) ?_
      refine wp_iload_n dX11_setNode_11 rfl ?_
      refine wp_iaddv (nI (11 * i + 29)) dX11_setNode_12 (nadd (a := 11 * i + 20) (b := 9) (by omega)) ?_
      refine wp_iload_n dX11_setNode_13 rfl ?_
      refine wp_iastk (n := 1486) (11 * i + 29) dX11_setNode_14 (ka hF6 294 (by decide)) (la 294) (vin (by omega) (by decide))  (nIc (by omega)) ?_
      have hF9 := Full_wai (gB G + 294) (11 * i + 29) ((ai m (gB G + 294) (11 * i + 29)) + (1 : Int32)) hF6
      refine wp_vret dX11_setNode_15 rfl ?_
      show WP G (d + 2) (0, 0) μX11_updateRecords 87 [.ref (gB G + 293), .int (1 : Int32), .int (nI i), .int (ai m (gB G + 294) (11 * i + 21))] [] (wai (wai (wai m (gB G + 294) (11 * i + 27) (imin (ai m (gB G + 294) (11 * i + 21)) (ai m (gB G + 294) (11 * i + 27)))) (gB G + 294) (11 * i + 28) (imax (ai m (gB G + 294) (11 * i + 21)) (ai m (gB G + 294) (11 * i + 28)))) (gB G + 294) (11 * i + 29) ((ai m (gB G + 294) (11 * i + 29)) + (1 : Int32))) _
      refine wp_aload_n dX11_updateRecords_87 rfl ?_
      refine wp_iload_n dX11_updateRecords_88 rfl ?_
      refine wp_bipush (10 : Int32) dX11_updateRecords_89 (by decide) ?_
      refine wp_callV (As := [.int (nI i), .int (10 : Int32)]) (S := []) (b' := (0, 0)) (b := (0, 0)) dX11_updateRecords_91 MX11_89 (ka hF9 293 (by decide)) rfl rfl rfl rfl (Nat.le_of_ble_eq_true rfl) ?_
      refine WPM.of pX11 (Nat.le_of_ble_eq_true rfl) rfl ?_
      refine wp_aload_n dX11_node_0 rfl ?_
      refine wp_getr (gB G + 294) dX11_node_1 fX11_7 (ka hF9 293 (by decide)) (hF9.2 _ _) (rra 1 (isK_le (ka hF9 293 (by decide))) (fun _ => rfl)) ?_
      refine wp_bipush (20 : Int32) dX11_node_4 (by decide) ?_
      refine wp_bipush (11 : Int32) dX11_node_6 (by decide) ?_
      refine wp_iload_n dX11_node_8 rfl ?_
      refine wp_imulv (nI (11 * i)) dX11_node_9 (nmul (a := 11) (b := i) (by omega)) ?_
      refine wp_iaddv (nI (11 * i + 20)) dX11_node_10 (nadd (a := 20) (b := 11 * i) (by omega)) ?_
      refine wp_iload_n dX11_node_11 rfl ?_
      refine wp_iaddv (nI (11 * i + 30)) dX11_node_12 (nadd (a := 11 * i + 20) (b := 10) (by omega)) ?_
      refine wp_ialdk (n := 1486) (11 * i + 30) (ai m (gB G + 294) (11 * i + 30)) dX11_node_13 (ka hF9 294 (by decide)) (la 294) (vin (by omega) (by decide)) (nIc (by omega)) ((ai_nk (by omega)).trans ((ai_nk (by omega)).trans (ai_nk (by omega)))) ?_
      refine wp_iret dX11_node_14 rfl ?_
      show WP G (d + 2) (0, 0) μX11_updateRecords 94 [.ref (gB G + 293), .int (1 : Int32), .int (nI i), .int (ai m (gB G + 294) (11 * i + 21))] [.int (ai m (gB G + 294) (11 * i + 30))] (wai (wai (wai m (gB G + 294) (11 * i + 27) (imin (ai m (gB G + 294) (11 * i + 21)) (ai m (gB G + 294) (11 * i + 27)))) (gB G + 294) (11 * i + 28) (imax (ai m (gB G + 294) (11 * i + 21)) (ai m (gB G + 294) (11 * i + 28)))) (gB G + 294) (11 * i + 29) ((ai m (gB G + 294) (11 * i + 29)) + (1 : Int32))) _
      refine wp_iconst (-1 : Int32) dX11_updateRecords_94 (by decide) ?_
      refine wp_icmp_ne 139 dX11_updateRecords_95 (by decide) (fun q10 => ?_) (fun q11 => ?_)
      · skip
        refine wp_iinc (nI (i + 1)) dX11_updateRecords_139 rfl (by decide) (nadd (a := i) (b := 1) (by omega)) rfl ?_
        refine wp_goto 4 dX11_updateRecords_142 (by decide) ?_
        refine wp_forget [.ref (gB G + 293), .int (1 : Int32), .int (nI (i + 1)), lvU] ⟨Or.inl rfl, Or.inl rfl, Or.inl rfl, Or.inr rfl, trivial⟩ ?_
        exact e2 hp4 q7 q10
      · skip
        refine wp_aload_n dX11_updateRecords_98 rfl ?_
        refine wp_iload_n dX11_updateRecords_99 rfl ?_
        refine wp_bipush (10 : Int32) dX11_updateRecords_100 (by decide) ?_
        refine wp_aload_n dX11_updateRecords_102 rfl ?_
        refine wp_getr (gB G + 294) dX11_updateRecords_103 fX11_7 (ka hF9 293 (by decide)) (hF9.2 _ _) (rra 1 (isK_le (ka hF9 293 (by decide))) (fun _ => rfl)) ?_
        refine wp_iconst (0 : Int32) dX11_updateRecords_106 (by decide) ?_
        refine wp_ialdk (n := 1486) 0 (ai m (gB G + 294) 0) dX11_updateRecords_107 (ka hF9 294 (by decide)) (la 294) (vinl (by decide)) rfl ((ai_nk (by omega)).trans ((ai_nk (by omega)).trans (ai_nk (by omega)))) ?_
        refine wp_callV (As := [.int (nI i), .int (10 : Int32), .int (ai m (gB G + 294) 0)]) (S := []) (b' := (0, 0)) (b := (0, 0)) dX11_updateRecords_108 MX11_81 (ka hF9 293 (by decide)) rfl rfl rfl rfl (Nat.le_of_ble_eq_true rfl) ?_
        refine WPM.of pX11 (Nat.le_of_ble_eq_true rfl) rfl ?_
        refine wp_aload_n dX11_setNode_0 rfl ?_
        refine wp_getr (gB G + 294) dX11_setNode_1 fX11_7 (ka hF9 293 (by decide)) (hF9.2 _ _) (rra 1 (isK_le (ka hF9 293 (by decide))) (fun _ => rfl)) ?_
        refine wp_bipush (20 : Int32) dX11_setNode_4 (by decide) ?_
        refine wp_bipush (11 : Int32) dX11_setNode_6 (by decide) ?_
        refine wp_iload_n dX11_setNode_8 rfl ?_
        refine wp_imulv (nI (11 * i)) dX11_setNode_9 (nmul (a := 11) (b := i) (by omega)) ?_
        refine wp_iaddv (nI (11 * i + 20)) dX11_setNode_10 (nadd (a := 20) (b := 11 * i) (by omega)) ?_
        refine wp_iload_n dX11_setNode_11 rfl ?_
        refine wp_iaddv (nI (11 * i + 30)) dX11_setNode_12 (nadd (a := 11 * i + 20) (b := 10) (by omega)) ?_
        refine wp_iload_n dX11_setNode_13 rfl ?_
        refine wp_iastk (n := 1486) (11 * i + 30) dX11_setNode_14 (ka hF9 294 (by decide)) (la 294) (vin (by omega) (by decide))  (nIc (by omega)) ?_
        have hF12 := Full_wai (gB G + 294) (11 * i + 30) (ai m (gB G + 294) 0) hF9
        refine wp_vret dX11_setNode_15 rfl ?_
        show WP G (d + 2) (0, 0) μX11_updateRecords 111 [.ref (gB G + 293), .int (1 : Int32), .int (nI i), .int (ai m (gB G + 294) (11 * i + 21))] [] (wai (wai (wai (wai m (gB G + 294) (11 * i + 27) (imin (ai m (gB G + 294) (11 * i + 21)) (ai m (gB G + 294) (11 * i + 27)))) (gB G + 294) (11 * i + 28) (imax (ai m (gB G + 294) (11 * i + 21)) (ai m (gB G + 294) (11 * i + 28)))) (gB G + 294) (11 * i + 29) ((ai m (gB G + 294) (11 * i + 29)) + (1 : Int32))) (gB G + 294) (11 * i + 30) (ai m (gB G + 294) 0)) _
        refine wp_aload_n dX11_updateRecords_111 rfl ?_
        refine wp_getr (gB G + 294) dX11_updateRecords_112 fX11_7 (ka hF12 293 (by decide)) (hF12.2 _ _) (rra 1 (isK_le (ka hF12 293 (by decide))) (fun _ => rfl)) ?_
        refine wp_sipush (402 : Int32) dX11_updateRecords_115 (by decide) ?_
        refine wp_aload_n dX11_updateRecords_118 rfl ?_
        refine wp_getr (gB G + 294) dX11_updateRecords_119 fX11_7 (ka hF12 293 (by decide)) (hF12.2 _ _) (rra 1 (isK_le (ka hF12 293 (by decide))) (fun _ => rfl)) ?_
        refine wp_bipush (16 : Int32) dX11_updateRecords_122 (by decide) ?_
        refine wp_ialdk (n := 1486) 16 (nI v) dX11_updateRecords_124 (ka hF12 294 (by decide)) (la 294) (vinl (by decide)) rfl ((ai_nk (by omega)).trans ((ai_nk (by omega)).trans ((ai_nk (by omega)).trans ((ai_nk (by omega)).trans hv)))) ?_
        refine wp_iaddv (nI (v + 402)) dX11_updateRecords_125 (nadd (a := 402) (b := v) (by omega)) ?_
        refine wp_iload_n dX11_updateRecords_126 rfl ?_
        refine wp_iastk (n := 1486) (v + 402) dX11_updateRecords_127 (ka hF12 294 (by decide)) (la 294) (vin (by omega) (by decide))  (nIc (by omega)) ?_
        have hF13 := Full_wai (gB G + 294) (v + 402) (nI i) hF12
        refine wp_aload_n dX11_updateRecords_128 rfl ?_
        refine wp_getr (gB G + 294) dX11_updateRecords_129 fX11_7 (ka hF13 293 (by decide)) (hF13.2 _ _) (rra 1 (isK_le (ka hF13 293 (by decide))) (fun _ => rfl)) ?_
        refine wp_bipush (16 : Int32) dX11_updateRecords_132 (by decide) ?_
        refine wp_dup2 dX11_updateRecords_134 rfl rfl ?_
        refine wp_ialdk (n := 1486) 16 (nI v) dX11_updateRecords_135 (ka hF13 294 (by decide)) (la 294) (vinl (by decide)) rfl ((ai_nk (by omega)).trans ((ai_nk (by omega)).trans ((ai_nk (by omega)).trans ((ai_nk (by omega)).trans ((ai_nk (by omega)).trans hv))))) ?_
        refine wp_iconst (1 : Int32) dX11_updateRecords_136 (by decide) ?_
        refine wp_iaddv (nI (v + 1)) dX11_updateRecords_137 (nadd (a := v) (b := 1) (by omega)) ?_
        refine wp_iastk (n := 1486) 16 dX11_updateRecords_138 (ka hF13 294 (by decide)) (la 294) (vinl (by decide))  rfl ?_
        have hF14 := Full_wai (gB G + 294) 16 (nI (v + 1)) hF13
        refine wp_iinc (nI (i + 1)) dX11_updateRecords_139 rfl (by decide) (nadd (a := i) (b := 1) (by omega)) rfl ?_
        refine wp_goto 4 dX11_updateRecords_142 (by decide) ?_
        refine wp_forget [.ref (gB G + 293), .int (1 : Int32), .int (nI (i + 1)), lvU] ⟨Or.inl rfl, Or.inl rfl, Or.inl rfl, Or.inr rfl, trivial⟩ ?_
        exact e3 hp4 q7 q11
    · skip
      refine wp_aload_n dX11_isOutside_15 rfl ?_
      refine wp_iload_n dX11_isOutside_16 rfl ?_
      refine wp_iconst (1 : Int32) dX11_isOutside_17 (by decide) ?_
      refine wp_callV (As := [.int (nI i), .int (1 : Int32)]) (S := []) (b' := (0, 0)) (b := (0, 0)) dX11_isOutside_18 MX11_89 (ka hF6 293 (by decide)) rfl rfl rfl rfl (Nat.le_of_ble_eq_true rfl) ?_
      refine WPM.of pX11 (Nat.le_of_ble_eq_true rfl) rfl ?_
      refine wp_aload_n dX11_node_0 rfl ?_
      refine wp_getr (gB G + 294) dX11_node_1 fX11_7 (ka hF6 293 (by decide)) (hF6.2 _ _) (rra 1 (isK_le (ka hF6 293 (by decide))) (fun _ => rfl)) ?_
      refine wp_bipush (20 : Int32) dX11_node_4 (by decide) ?_
      refine wp_bipush (11 : Int32) dX11_node_6 (by decide) ?_
      refine wp_iload_n dX11_node_8 rfl ?_
      refine wp_imulv (nI (11 * i)) dX11_node_9 (nmul (a := 11) (b := i) (by omega)) ?_
      refine wp_iaddv (nI (11 * i + 20)) dX11_node_10 (nadd (a := 20) (b := 11 * i) (by omega)) ?_
      refine wp_iload_n dX11_node_11 rfl ?_
      refine wp_iaddv (nI (11 * i + 21)) dX11_node_12 (nadd (a := 11 * i + 20) (b := 1) (by omega)) ?_
      refine wp_ialdk (n := 1486) (11 * i + 21) (ai m (gB G + 294) (11 * i + 21)) dX11_node_13 (ka hF6 294 (by decide)) (la 294) (vin (by omega) (by decide)) (nIc (by omega)) ((ai_nk (by omega)).trans (ai_nk (by omega))) ?_
      refine wp_iret dX11_node_14 rfl ?_
      show WP G (d + 1) (0, 0) μX11_isOutside 21 [.ref (gB G + 293), .int (nI i)] [.int (ai m (gB G + 294) (11 * i + 21))] (wai (wai m (gB G + 294) (11 * i + 27) (imin (ai m (gB G + 294) (11 * i + 21)) (ai m (gB G + 294) (11 * i + 27)))) (gB G + 294) (11 * i + 28) (imax (ai m (gB G + 294) (11 * i + 21)) (ai m (gB G + 294) (11 * i + 28)))) _
      refine wp_aload_n dX11_isOutside_21 rfl ?_
      refine wp_iload_n dX11_isOutside_22 rfl ?_
      refine wp_bipush (6 : Int32) dX11_isOutside_23 (by decide) ?_
      refine wp_callV (As := [.int (nI i), .int (6 : Int32)]) (S := [.int (ai m (gB G + 294) (11 * i + 21))]) (b' := (0, 0)) (b := (0, 0)) dX11_isOutside_25 MX11_89 (ka hF6 293 (by decide)) rfl rfl rfl rfl (Nat.le_of_ble_eq_true rfl) ?_
      refine WPM.of pX11 (Nat.le_of_ble_eq_true rfl) rfl ?_
      refine wp_aload_n dX11_node_0 rfl ?_
      refine wp_getr (gB G + 294) dX11_node_1 fX11_7 (ka hF6 293 (by decide)) (hF6.2 _ _) (rra 1 (isK_le (ka hF6 293 (by decide))) (fun _ => rfl)) ?_
      refine wp_bipush (20 : Int32) dX11_node_4 (by decide) ?_
      refine wp_bipush (11 : Int32) dX11_node_6 (by decide) ?_
      refine wp_iload_n dX11_node_8 rfl ?_
      refine wp_imulv (nI (11 * i)) dX11_node_9 (nmul (a := 11) (b := i) (by omega)) ?_
      refine wp_iaddv (nI (11 * i + 20)) dX11_node_10 (nadd (a := 20) (b := 11 * i) (by omega)) ?_
      refine wp_iload_n dX11_node_11 rfl ?_
      refine wp_iaddv (nI (11 * i + 26)) dX11_node_12 (nadd (a := 11 * i + 20) (b := 6) (by omega)) ?_
      refine wp_ialdk (n := 1486) (11 * i + 26) (ai m (gB G + 294) (11 * i + 26)) dX11_node_13 (ka hF6 294 (by decide)) (la 294) (vin (by omega) (by decide)) (nIc (by omega)) ((ai_nk (by omega)).trans (ai_nk (by omega))) ?_
      refine wp_iret dX11_node_14 rfl ?_
      show WP G (d + 1) (0, 0) μX11_isOutside 28 [.ref (gB G + 293), .int (nI i)] [.int (ai m (gB G + 294) (11 * i + 26)), .int (ai m (gB G + 294) (11 * i + 21))] (wai (wai m (gB G + 294) (11 * i + 27) (imin (ai m (gB G + 294) (11 * i + 21)) (ai m (gB G + 294) (11 * i + 27)))) (gB G + 294) (11 * i + 28) (imax (ai m (gB G + 294) (11 * i + 21)) (ai m (gB G + 294) (11 * i + 28)))) _
      refine wp_icmp_le 35 dX11_isOutside_28 (by decide) (fun q15 => ?_) (fun q16 => ?_)
      · skip
        refine wp_iconst (0 : Int32) dX11_isOutside_35 (by decide) ?_
        refine wp_zret dX11_isOutside_36 rfl rfl ?_
        show WP G (d + 2) (0, 0) μX11_updateRecords 63 [.ref (gB G + 293), .int z, .int (nI i), .int (ai m (gB G + 294) (11 * i + 21))] [.int (0 : Int32)] (wai (wai m (gB G + 294) (11 * i + 27) (imin (ai m (gB G + 294) (11 * i + 21)) (ai m (gB G + 294) (11 * i + 27)))) (gB G + 294) (11 * i + 28) (imax (ai m (gB G + 294) (11 * i + 21)) (ai m (gB G + 294) (11 * i + 28)))) _
        refine wp_if_ne 69 dX11_updateRecords_63 (by decide) (fun q => absurd (by decide) q) (fun _ => ?_)
        refine wp_goto 139 dX11_updateRecords_66 (by decide) ?_
        refine wp_iinc (nI (i + 1)) dX11_updateRecords_139 rfl (by decide) (nadd (a := i) (b := 1) (by omega)) rfl ?_
        refine wp_goto 4 dX11_updateRecords_142 (by decide) ?_
        refine wp_forget [.ref (gB G + 293), .int z, .int (nI (i + 1)), lvU] ⟨Or.inl rfl, Or.inl rfl, Or.inl rfl, Or.inr rfl, trivial⟩ ?_
        exact e4 hp4 q8 q15
      · skip
        refine wp_iconst (1 : Int32) dX11_isOutside_31 (by decide) ?_
        refine wp_goto 36 dX11_isOutside_32 (by decide) ?_
        refine wp_zret dX11_isOutside_36 rfl rfl ?_
        show WP G (d + 2) (0, 0) μX11_updateRecords 63 [.ref (gB G + 293), .int z, .int (nI i), .int (ai m (gB G + 294) (11 * i + 21))] [.int (1 : Int32)] (wai (wai m (gB G + 294) (11 * i + 27) (imin (ai m (gB G + 294) (11 * i + 21)) (ai m (gB G + 294) (11 * i + 27)))) (gB G + 294) (11 * i + 28) (imax (ai m (gB G + 294) (11 * i + 21)) (ai m (gB G + 294) (11 * i + 28)))) _
        refine wp_if_ne 69 dX11_updateRecords_63 (by decide) (fun _ => ?_) (fun q => absurd q (by decide))
        refine wp_iconst (1 : Int32) dX11_updateRecords_69 (by decide) ?_
        refine wp_istore_n dX11_updateRecords_70 (by decide) rfl ?_
        refine wp_aload_n dX11_updateRecords_71 rfl ?_
        refine wp_iload_n dX11_updateRecords_72 rfl ?_
        refine wp_bipush (9 : Int32) dX11_updateRecords_73 (by decide) ?_
        refine wp_aload_n dX11_updateRecords_75 rfl ?_
        refine wp_iload_n dX11_updateRecords_76 rfl ?_
        refine wp_bipush (9 : Int32) dX11_updateRecords_77 (by decide) ?_
        refine wp_callV (As := [.int (nI i), .int (9 : Int32)]) (S := [.int (9 : Int32), .int (nI i), .ref (gB G + 293)]) (b' := (0, 0)) (b := (0, 0)) dX11_updateRecords_79 MX11_89 (ka hF6 293 (by decide)) rfl rfl rfl rfl (Nat.le_of_ble_eq_true rfl) ?_
        refine WPM.of pX11 (Nat.le_of_ble_eq_true rfl) rfl ?_
        refine wp_aload_n dX11_node_0 rfl ?_
        refine wp_getr (gB G + 294) dX11_node_1 fX11_7 (ka hF6 293 (by decide)) (hF6.2 _ _) (rra 1 (isK_le (ka hF6 293 (by decide))) (fun _ => rfl)) ?_
        refine wp_bipush (20 : Int32) dX11_node_4 (by decide) ?_
        refine wp_bipush (11 : Int32) dX11_node_6 (by decide) ?_
        refine wp_iload_n dX11_node_8 rfl ?_
        refine wp_imulv (nI (11 * i)) dX11_node_9 (nmul (a := 11) (b := i) (by omega)) ?_
        refine wp_iaddv (nI (11 * i + 20)) dX11_node_10 (nadd (a := 20) (b := 11 * i) (by omega)) ?_
        refine wp_iload_n dX11_node_11 rfl ?_
        refine wp_iaddv (nI (11 * i + 29)) dX11_node_12 (nadd (a := 11 * i + 20) (b := 9) (by omega)) ?_
        refine wp_ialdk (n := 1486) (11 * i + 29) (ai m (gB G + 294) (11 * i + 29)) dX11_node_13 (ka hF6 294 (by decide)) (la 294) (vin (by omega) (by decide)) (nIc (by omega)) ((ai_nk (by omega)).trans (ai_nk (by omega))) ?_
        refine wp_iret dX11_node_14 rfl ?_
        show WP G (d + 2) (0, 0) μX11_updateRecords 82 [.ref (gB G + 293), .int (1 : Int32), .int (nI i), .int (ai m (gB G + 294) (11 * i + 21))] [.int (ai m (gB G + 294) (11 * i + 29)), .int (9 : Int32), .int (nI i), .ref (gB G + 293)] (wai (wai m (gB G + 294) (11 * i + 27) (imin (ai m (gB G + 294) (11 * i + 21)) (ai m (gB G + 294) (11 * i + 27)))) (gB G + 294) (11 * i + 28) (imax (ai m (gB G + 294) (11 * i + 21)) (ai m (gB G + 294) (11 * i + 28)))) _
        refine wp_iconst (1 : Int32) dX11_updateRecords_82 (by decide) ?_
        refine wp_iaddv ((ai m (gB G + 294) (11 * i + 29)) + (1 : Int32)) dX11_updateRecords_83 rfl ?_
        refine wp_callV (As := [.int (nI i), .int (9 : Int32), .int ((ai m (gB G + 294) (11 * i + 29)) + (1 : Int32))]) (S := []) (b' := (0, 0)) (b := (0, 0)) dX11_updateRecords_84 MX11_81 (ka hF6 293 (by decide)) rfl rfl rfl rfl (Nat.le_of_ble_eq_true rfl) ?_
        refine WPM.of pX11 (Nat.le_of_ble_eq_true rfl) rfl ?_
        refine wp_aload_n dX11_setNode_0 rfl ?_
        refine wp_getr (gB G + 294) dX11_setNode_1 fX11_7 (ka hF6 293 (by decide)) (hF6.2 _ _) (rra 1 (isK_le (ka hF6 293 (by decide))) (fun _ => rfl)) ?_
        refine wp_bipush (20 : Int32) dX11_setNode_4 (by decide) ?_
        refine wp_bipush (11 : Int32) dX11_setNode_6 (by decide) ?_
        refine wp_iload_n dX11_setNode_8 rfl ?_
        refine wp_imulv (nI (11 * i)) dX11_setNode_9 (nmul (a := 11) (b := i) (by omega)) ?_
        refine wp_iaddv (nI (11 * i + 20)) dX11_setNode_10 (nadd (a := 20) (b := 11 * i) (by omega)) ?_
        refine wp_iload_n dX11_setNode_11 rfl ?_
        refine wp_iaddv (nI (11 * i + 29)) dX11_setNode_12 (nadd (a := 11 * i + 20) (b := 9) (by omega)) ?_
        refine wp_iload_n dX11_setNode_13 rfl ?_
        refine wp_iastk (n := 1486) (11 * i + 29) dX11_setNode_14 (ka hF6 294 (by decide)) (la 294) (vin (by omega) (by decide))  (nIc (by omega)) ?_
        have hF17 := Full_wai (gB G + 294) (11 * i + 29) ((ai m (gB G + 294) (11 * i + 29)) + (1 : Int32)) hF6
        refine wp_vret dX11_setNode_15 rfl ?_
        show WP G (d + 2) (0, 0) μX11_updateRecords 87 [.ref (gB G + 293), .int (1 : Int32), .int (nI i), .int (ai m (gB G + 294) (11 * i + 21))] [] (wai (wai (wai m (gB G + 294) (11 * i + 27) (imin (ai m (gB G + 294) (11 * i + 21)) (ai m (gB G + 294) (11 * i + 27)))) (gB G + 294) (11 * i + 28) (imax (ai m (gB G + 294) (11 * i + 21)) (ai m (gB G + 294) (11 * i + 28)))) (gB G + 294) (11 * i + 29) ((ai m (gB G + 294) (11 * i + 29)) + (1 : Int32))) _
        refine wp_aload_n dX11_updateRecords_87 rfl ?_
        refine wp_iload_n dX11_updateRecords_88 rfl ?_
        refine wp_bipush (10 : Int32) dX11_updateRecords_89 (by decide) ?_
        refine wp_callV (As := [.int (nI i), .int (10 : Int32)]) (S := []) (b' := (0, 0)) (b := (0, 0)) dX11_updateRecords_91 MX11_89 (ka hF17 293 (by decide)) rfl rfl rfl rfl (Nat.le_of_ble_eq_true rfl) ?_
        refine WPM.of pX11 (Nat.le_of_ble_eq_true rfl) rfl ?_
        refine wp_aload_n dX11_node_0 rfl ?_
        refine wp_getr (gB G + 294) dX11_node_1 fX11_7 (ka hF17 293 (by decide)) (hF17.2 _ _) (rra 1 (isK_le (ka hF17 293 (by decide))) (fun _ => rfl)) ?_
        refine wp_bipush (20 : Int32) dX11_node_4 (by decide) ?_
        refine wp_bipush (11 : Int32) dX11_node_6 (by decide) ?_
        refine wp_iload_n dX11_node_8 rfl ?_
        refine wp_imulv (nI (11 * i)) dX11_node_9 (nmul (a := 11) (b := i) (by omega)) ?_
        refine wp_iaddv (nI (11 * i + 20)) dX11_node_10 (nadd (a := 20) (b := 11 * i) (by omega)) ?_
        refine wp_iload_n dX11_node_11 rfl ?_
        refine wp_iaddv (nI (11 * i + 30)) dX11_node_12 (nadd (a := 11 * i + 20) (b := 10) (by omega)) ?_
        refine wp_ialdk (n := 1486) (11 * i + 30) (ai m (gB G + 294) (11 * i + 30)) dX11_node_13 (ka hF17 294 (by decide)) (la 294) (vin (by omega) (by decide)) (nIc (by omega)) ((ai_nk (by omega)).trans ((ai_nk (by omega)).trans (ai_nk (by omega)))) ?_
        refine wp_iret dX11_node_14 rfl ?_
        show WP G (d + 2) (0, 0) μX11_updateRecords 94 [.ref (gB G + 293), .int (1 : Int32), .int (nI i), .int (ai m (gB G + 294) (11 * i + 21))] [.int (ai m (gB G + 294) (11 * i + 30))] (wai (wai (wai m (gB G + 294) (11 * i + 27) (imin (ai m (gB G + 294) (11 * i + 21)) (ai m (gB G + 294) (11 * i + 27)))) (gB G + 294) (11 * i + 28) (imax (ai m (gB G + 294) (11 * i + 21)) (ai m (gB G + 294) (11 * i + 28)))) (gB G + 294) (11 * i + 29) ((ai m (gB G + 294) (11 * i + 29)) + (1 : Int32))) _
        refine wp_iconst (-1 : Int32) dX11_updateRecords_94 (by decide) ?_
        refine wp_icmp_ne 139 dX11_updateRecords_95 (by decide) (fun q18 => ?_) (fun q19 => ?_)
        · skip
          refine wp_iinc (nI (i + 1)) dX11_updateRecords_139 rfl (by decide) (nadd (a := i) (b := 1) (by omega)) rfl ?_
          refine wp_goto 4 dX11_updateRecords_142 (by decide) ?_
          refine wp_forget [.ref (gB G + 293), .int (1 : Int32), .int (nI (i + 1)), lvU] ⟨Or.inl rfl, Or.inl rfl, Or.inl rfl, Or.inr rfl, trivial⟩ ?_
          exact e5 hp4 q8 q16 q18
        · skip
          refine wp_aload_n dX11_updateRecords_98 rfl ?_
          refine wp_iload_n dX11_updateRecords_99 rfl ?_
          refine wp_bipush (10 : Int32) dX11_updateRecords_100 (by decide) ?_
          refine wp_aload_n dX11_updateRecords_102 rfl ?_
          refine wp_getr (gB G + 294) dX11_updateRecords_103 fX11_7 (ka hF17 293 (by decide)) (hF17.2 _ _) (rra 1 (isK_le (ka hF17 293 (by decide))) (fun _ => rfl)) ?_
          refine wp_iconst (0 : Int32) dX11_updateRecords_106 (by decide) ?_
          refine wp_ialdk (n := 1486) 0 (ai m (gB G + 294) 0) dX11_updateRecords_107 (ka hF17 294 (by decide)) (la 294) (vinl (by decide)) rfl ((ai_nk (by omega)).trans ((ai_nk (by omega)).trans (ai_nk (by omega)))) ?_
          refine wp_callV (As := [.int (nI i), .int (10 : Int32), .int (ai m (gB G + 294) 0)]) (S := []) (b' := (0, 0)) (b := (0, 0)) dX11_updateRecords_108 MX11_81 (ka hF17 293 (by decide)) rfl rfl rfl rfl (Nat.le_of_ble_eq_true rfl) ?_
          refine WPM.of pX11 (Nat.le_of_ble_eq_true rfl) rfl ?_
          refine wp_aload_n dX11_setNode_0 rfl ?_
          refine wp_getr (gB G + 294) dX11_setNode_1 fX11_7 (ka hF17 293 (by decide)) (hF17.2 _ _) (rra 1 (isK_le (ka hF17 293 (by decide))) (fun _ => rfl)) ?_
          refine wp_bipush (20 : Int32) dX11_setNode_4 (by decide) ?_
          refine wp_bipush (11 : Int32) dX11_setNode_6 (by decide) ?_
          refine wp_iload_n dX11_setNode_8 rfl ?_
          refine wp_imulv (nI (11 * i)) dX11_setNode_9 (nmul (a := 11) (b := i) (by omega)) ?_
          refine wp_iaddv (nI (11 * i + 20)) dX11_setNode_10 (nadd (a := 20) (b := 11 * i) (by omega)) ?_
          refine wp_iload_n dX11_setNode_11 rfl ?_
          refine wp_iaddv (nI (11 * i + 30)) dX11_setNode_12 (nadd (a := 11 * i + 20) (b := 10) (by omega)) ?_
          refine wp_iload_n dX11_setNode_13 rfl ?_
          refine wp_iastk (n := 1486) (11 * i + 30) dX11_setNode_14 (ka hF17 294 (by decide)) (la 294) (vin (by omega) (by decide))  (nIc (by omega)) ?_
          have hF20 := Full_wai (gB G + 294) (11 * i + 30) (ai m (gB G + 294) 0) hF17
          refine wp_vret dX11_setNode_15 rfl ?_
          show WP G (d + 2) (0, 0) μX11_updateRecords 111 [.ref (gB G + 293), .int (1 : Int32), .int (nI i), .int (ai m (gB G + 294) (11 * i + 21))] [] (wai (wai (wai (wai m (gB G + 294) (11 * i + 27) (imin (ai m (gB G + 294) (11 * i + 21)) (ai m (gB G + 294) (11 * i + 27)))) (gB G + 294) (11 * i + 28) (imax (ai m (gB G + 294) (11 * i + 21)) (ai m (gB G + 294) (11 * i + 28)))) (gB G + 294) (11 * i + 29) ((ai m (gB G + 294) (11 * i + 29)) + (1 : Int32))) (gB G + 294) (11 * i + 30) (ai m (gB G + 294) 0)) _
          refine wp_aload_n dX11_updateRecords_111 rfl ?_
          refine wp_getr (gB G + 294) dX11_updateRecords_112 fX11_7 (ka hF20 293 (by decide)) (hF20.2 _ _) (rra 1 (isK_le (ka hF20 293 (by decide))) (fun _ => rfl)) ?_
          refine wp_sipush (402 : Int32) dX11_updateRecords_115 (by decide) ?_
          refine wp_aload_n dX11_updateRecords_118 rfl ?_
          refine wp_getr (gB G + 294) dX11_updateRecords_119 fX11_7 (ka hF20 293 (by decide)) (hF20.2 _ _) (rra 1 (isK_le (ka hF20 293 (by decide))) (fun _ => rfl)) ?_
          refine wp_bipush (16 : Int32) dX11_updateRecords_122 (by decide) ?_
          refine wp_ialdk (n := 1486) 16 (nI v) dX11_updateRecords_124 (ka hF20 294 (by decide)) (la 294) (vinl (by decide)) rfl ((ai_nk (by omega)).trans ((ai_nk (by omega)).trans ((ai_nk (by omega)).trans ((ai_nk (by omega)).trans hv)))) ?_
          refine wp_iaddv (nI (v + 402)) dX11_updateRecords_125 (nadd (a := 402) (b := v) (by omega)) ?_
          refine wp_iload_n dX11_updateRecords_126 rfl ?_
          refine wp_iastk (n := 1486) (v + 402) dX11_updateRecords_127 (ka hF20 294 (by decide)) (la 294) (vin (by omega) (by decide))  (nIc (by omega)) ?_
          have hF21 := Full_wai (gB G + 294) (v + 402) (nI i) hF20
          refine wp_aload_n dX11_updateRecords_128 rfl ?_
          refine wp_getr (gB G + 294) dX11_updateRecords_129 fX11_7 (ka hF21 293 (by decide)) (hF21.2 _ _) (rra 1 (isK_le (ka hF21 293 (by decide))) (fun _ => rfl)) ?_
          refine wp_bipush (16 : Int32) dX11_updateRecords_132 (by decide) ?_
          refine wp_dup2 dX11_updateRecords_134 rfl rfl ?_
          refine wp_ialdk (n := 1486) 16 (nI v) dX11_updateRecords_135 (ka hF21 294 (by decide)) (la 294) (vinl (by decide)) rfl ((ai_nk (by omega)).trans ((ai_nk (by omega)).trans ((ai_nk (by omega)).trans ((ai_nk (by omega)).trans ((ai_nk (by omega)).trans hv))))) ?_
          refine wp_iconst (1 : Int32) dX11_updateRecords_136 (by decide) ?_
          refine wp_iaddv (nI (v + 1)) dX11_updateRecords_137 (nadd (a := v) (b := 1) (by omega)) ?_
          refine wp_iastk (n := 1486) 16 dX11_updateRecords_138 (ka hF21 294 (by decide)) (la 294) (vinl (by decide))  rfl ?_
          have hF22 := Full_wai (gB G + 294) 16 (nI (v + 1)) hF21
          refine wp_iinc (nI (i + 1)) dX11_updateRecords_139 rfl (by decide) (nadd (a := i) (b := 1) (by omega)) rfl ?_
          refine wp_goto 4 dX11_updateRecords_142 (by decide) ?_
          refine wp_forget [.ref (gB G + 293), .int (1 : Int32), .int (nI (i + 1)), lvU] ⟨Or.inl rfl, Or.inl rfl, Or.inl rfl, Or.inr rfl, trivial⟩ ?_
          exact e6 hp4 q8 q16 q19

theorem bM_sw4 {G : Cx} {d : Nat} {m : Mm} {Q : Option Value → Mm → Prop} {s0 : Int64} {s1 : Int64} {s2 : Int64} {r : Int32} (hF : Full G m) 
    (e1 : Q none (wai m (gB G + 294) 11 (Int64.toInt32 (lmax (0 : Int64) (lmin (Int32.toInt64 (ai m (gB G + 294) 10)) (s2 + (s1 * (s0 - (Int32.toInt64 r))))))))) :
    WP G (d + 3) (0, 0) μX11_switchHeaters 291 [.ref (gB G + 293), lvU, lvU, lvU, lvU, lvU, lvU, lvU] [.int r, .long s0, .long s1, .long s2] m Q := by
  refine wp_i2l dX11_switchHeaters_291 ?_
  refine wp_lsub dX11_switchHeaters_292 ?_
  refine wp_lmul dX11_switchHeaters_293 ?_
  refine wp_ladd dX11_switchHeaters_294 ?_
  refine wp_lstore dX11_switchHeaters_295 (by decide) rfl ?_
  refine wp_aload_n dX11_switchHeaters_297 rfl ?_
  refine wp_getr (gB G + 294) dX11_switchHeaters_298 fX11_7 (ka hF 293 (by decide)) (hF.2 _ _) (rra 1 (isK_le (ka hF 293 (by decide))) (fun _ => rfl)) ?_
  refine wp_bipush (11 : Int32) dX11_switchHeaters_301 (by decide) ?_
  refine wp_lload dX11_switchHeaters_303 rfl ?_
  refine wp_lconst (0 : Int64) dX11_switchHeaters_305 (by decide) ?_
  refine wp_aload_n dX11_switchHeaters_306 rfl ?_
  refine wp_getr (gB G + 294) dX11_switchHeaters_307 fX11_7 (ka hF 293 (by decide)) (hF.2 _ _) (rra 1 (isK_le (ka hF 293 (by decide))) (fun _ => rfl)) ?_
  refine wp_bipush (10 : Int32) dX11_switchHeaters_310 (by decide) ?_
  refine wp_ialdk (n := 1486) 10 (ai m (gB G + 294) 10) dX11_switchHeaters_312 (ka hF 294 (by decide)) (la 294) (vinl (by decide)) rfl rfl ?_
  refine wp_i2l dX11_switchHeaters_313 ?_
  refine wp_callS (As := [.long (s2 + (s1 * (s0 - (Int32.toInt64 r)))), .long (0 : Int64), .long (Int32.toInt64 (ai m (gB G + 294) 10))]) (S := [.int (11 : Int32), .ref (gB G + 294)]) (b' := (0, 0)) (b := (0, 0)) dX11_switchHeaters_314 MX11_117 rfl rfl (Nat.le_of_ble_eq_true rfl) ?_
  refine WPM.of pX11 (Nat.le_of_ble_eq_true rfl) rfl ?_
  refine wp_lload_n dX11_nearest_0 rfl ?_
  refine wp_lload dX11_nearest_1 rfl ?_
  refine wp_lload_n dX11_nearest_3 rfl ?_
  refine wp_minL dX11_nearest_4 AX11_58 (Nat.le_of_ble_eq_true rfl) ?_
  refine wp_maxL dX11_nearest_7 AX11_64 (Nat.le_of_ble_eq_true rfl) ?_
  refine wp_lret dX11_nearest_10 rfl ?_
  show WP G (d + 3) (0, 0) μX11_switchHeaters 317 [.ref (gB G + 293), lvU, lvU, lvU, lvU, .long (s2 + (s1 * (s0 - (Int32.toInt64 r)))), lvU, lvU] [.long (lmax (0 : Int64) (lmin (Int32.toInt64 (ai m (gB G + 294) 10)) (s2 + (s1 * (s0 - (Int32.toInt64 r)))))), .int (11 : Int32), .ref (gB G + 294)] m _
  refine wp_l2i dX11_switchHeaters_317 ?_
  refine wp_iastk (n := 1486) 11 dX11_switchHeaters_318 (ka hF 294 (by decide)) (la 294) (vinl (by decide))  rfl ?_
  have hF1 := Full_wai (gB G + 294) 11 (Int64.toInt32 (lmax (0 : Int64) (lmin (Int32.toInt64 (ai m (gB G + 294) 10)) (s2 + (s1 * (s0 - (Int32.toInt64 r))))))) hF
  exact wp_vret dX11_switchHeaters_319 rfl (e1)
