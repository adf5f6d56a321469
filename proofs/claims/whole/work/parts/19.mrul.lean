theorem sM_read4 {G : Cx} {d : Nat} {m : Mm} {Q : Option Value → Mm → Prop} {p : Nat} (hF : Full G m) 
    (e1 : WPM G (d + 2) (0, 0) μX11_isSunlit [.ref (gB G + 293)] m (fun r' m' => WP G (d + 3) (0, 0) μX11_read 76 [lvU, lvU, lvU] (r'.toList ++ []) m' Q)) :
    WPM G (d + 3) (0, 0) μX11_read [.ref (gB G + 293), .int (4 : Int32), .int (nI p)] m Q := by
  refine WPM.of pX11 (Nat.le_of_ble_eq_true rfl) rfl ?_
  refine wp_iload_n dX11_read_0 rfl ?_
  refine wp_tableIn (off := 71) 72 dX11_read_1 (by decide) (by decide) rfl (by decide) ?_
  refine wp_aload_n dX11_read_72 rfl ?_
  refine wp_forget [lvU, lvU, lvU] ⟨Or.inr rfl, Or.inr rfl, Or.inr rfl, trivial⟩ ?_
  refine wp_callV (As := []) (S := []) (b' := (0, 0)) (b := (0, 0)) dX11_read_73 MX11_135 (ka hF 293 (by decide)) rfl rfl rfl rfl (Nat.le_of_ble_eq_true rfl) ?_
  exact e1

theorem bM_read4 {G : Cx} {d : Nat} {m : Mm} {Q : Option Value → Mm → Prop} {r : Int32} (hF : Full G m) 
    (e1 : r = 0 → Q (some (.long (0 : Int64))) m)
    (e2 : ¬ r = 0 → Q (some (.long (1 : Int64))) m) :
    WP G (d + 3) (0, 0) μX11_read 76 [lvU, lvU, lvU] [.int r] m Q := by
  refine wp_if_eq 83 dX11_read_76 (by decide) (fun q1 => ?_) (fun q2 => ?_)
  · skip
    refine wp_lconst (0 : Int64) dX11_read_83 (by decide) ?_
    exact wp_lret dX11_read_84 rfl (e1 q1)
  · skip
    refine wp_lconst (1 : Int64) dX11_read_79 (by decide) ?_
    refine wp_goto 84 dX11_read_80 (by decide) ?_
    exact wp_lret dX11_read_84 rfl (e2 q2)

theorem sM_read7 {G : Cx} {d : Nat} {m : Mm} {Q : Option Value → Mm → Prop} {p : Nat} (hF : Full G m) 
    (e1 : WPM G (d + 2) (0, 0) μX11_usedPower [.ref (gB G + 293)] m (fun r' m' => WP G (d + 3) (0, 0) μX11_read 104 [lvU, lvU, lvU] (r'.toList ++ []) m' Q)) :
    WPM G (d + 3) (0, 0) μX11_read [.ref (gB G + 293), .int (7 : Int32), .int (nI p)] m Q := by
  refine WPM.of pX11 (Nat.le_of_ble_eq_true rfl) rfl ?_
  refine wp_iload_n dX11_read_0 rfl ?_
  refine wp_tableOut 100 dX11_read_1 (by decide) (by decide) ?_
  refine wp_aload_n dX11_read_100 rfl ?_
  refine wp_forget [lvU, lvU, lvU] ⟨Or.inr rfl, Or.inr rfl, Or.inr rfl, trivial⟩ ?_
  refine wp_callV (As := []) (S := []) (b' := (0, 0)) (b := (0, 0)) dX11_read_101 MX11_142 (ka hF 293 (by decide)) rfl rfl rfl rfl (Nat.le_of_ble_eq_true rfl) ?_
  exact e1

theorem bM_read7 {G : Cx} {d : Nat} {m : Mm} {Q : Option Value → Mm → Prop} {r : Int32} (hF : Full G m) 
    (e1 : Q (some (.long (Int32.toInt64 r))) m) :
    WP G (d + 3) (0, 0) μX11_read 104 [lvU, lvU, lvU] [.int r] m Q := by
  refine wp_i2l dX11_read_104 ?_
  exact wp_lret dX11_read_105 rfl (e1)

theorem bM_ev0 {G : Cx} {d : Nat} {m : Mm} {Q : Option Value → Mm → Prop} {i s e p : Nat} (hF : Full G m) (hi : i < 500) (hie : i < e) (he : e ≤ 500) (ho : ai m (gB G + 294) (2 * i + 486) = (0 : Int32)) (hp : ai m (gB G + 294) (2 * i + 487) = nI p) (hs : s < 300) (hb : p < 1000000)
    (e1 : WP G (d + 4) (0, 0) μX11_evaluate 5 [.ref (gB G + 293), lvU, .int (nI e), .int (nI (s + 1)), .int (nI (i + 1)), lvU] [] (wal m (gB G + 303) s (Int32.toInt64 (nI p))) Q) :
    WP G (d + 4) (0, 0) μX11_evaluate 5 [.ref (gB G + 293), lvU, .int (nI e), .int (nI s), .int (nI i), lvU] [] m Q := by
  refine wp_iload dX11_evaluate_5 rfl ?_
  refine wp_iload_n dX11_evaluate_7 rfl ?_
  refine wp_icmp_ge 167 dX11_evaluate_8 (by decide) (fun q => absurd (nlt_ hie (by omega)) q) (fun _ => ?_)
  refine wp_aload_n dX11_evaluate_11 rfl ?_
  refine wp_getr (gB G + 294) dX11_evaluate_12 fX11_7 (ka hF 293 (by decide)) (hF.2 _ _) (rra 1 (isK_le (ka hF 293 (by decide))) (fun _ => rfl)) ?_
  refine wp_sipush (486 : Int32) dX11_evaluate_15 (by decide) ?_
  refine wp_iconst (2 : Int32) dX11_evaluate_18 (by decide) ?_
  refine wp_iload dX11_evaluate_19 rfl ?_
  refine wp_imulv (nI (2 * i)) dX11_evaluate_21 (nmul (a := 2) (b := i) (by omega)) ?_
  refine wp_iaddv (nI (2 * i + 486)) dX11_evaluate_22 (nadd (a := 486) (b := 2 * i) (by omega)) ?_
  refine wp_ialdk (n := 1486) (2 * i + 486) (0 : Int32) dX11_evaluate_23 (ka hF 294 (by decide)) (la 294) (vin (by omega) (by decide)) (nIc (by omega)) ho ?_
  refine wp_istore dX11_evaluate_24 (by decide) rfl ?_
  refine wp_iload dX11_evaluate_26 rfl ?_
  refine wp_bipush (8 : Int32) dX11_evaluate_28 (by decide) ?_
  refine wp_icmp_ge 66 dX11_evaluate_30 (by decide) (fun q => absurd (by decide) q) (fun _ => ?_)
  refine wp_aload_n dX11_evaluate_33 rfl ?_
  refine wp_getr (gB G + 303) dX11_evaluate_34 fX11_39 (ka hF 293 (by decide)) (hF.2 _ _) (rra 10 (isK_le (ka hF 293 (by decide))) (fun _ => rfl)) ?_
  refine wp_iload_n dX11_evaluate_37 rfl ?_
  refine wp_aload_n dX11_evaluate_38 rfl ?_
  refine wp_iload dX11_evaluate_39 rfl ?_
  refine wp_aload_n dX11_evaluate_41 rfl ?_
  refine wp_getr (gB G + 294) dX11_evaluate_42 fX11_7 (ka hF 293 (by decide)) (hF.2 _ _) (rra 1 (isK_le (ka hF 293 (by decide))) (fun _ => rfl)) ?_
  refine wp_sipush (486 : Int32) dX11_evaluate_45 (by decide) ?_
  refine wp_iconst (2 : Int32) dX11_evaluate_48 (by decide) ?_
  refine wp_iload dX11_evaluate_49 rfl ?_
  refine wp_imulv (nI (2 * i)) dX11_evaluate_51 (nmul (a := 2) (b := i) (by omega)) ?_
  refine wp_iaddv (nI (2 * i + 486)) dX11_evaluate_52 (nadd (a := 486) (b := 2 * i) (by omega)) ?_
  refine wp_iconst (1 : Int32) dX11_evaluate_53 (by decide) ?_
  refine wp_iaddv (nI (2 * i + 487)) dX11_evaluate_54 (nadd (a := 2 * i + 486) (b := 1) (by omega)) ?_
  refine wp_ialdk (n := 1486) (2 * i + 487) (nI p) dX11_evaluate_55 (ka hF 294 (by decide)) (la 294) (vin (by omega) (by decide)) (nIc (by omega)) hp ?_
  refine wp_callV (As := [.int (0 : Int32), .int (nI p)]) (S := [.int (nI s), .ref (gB G + 303)]) (b' := (0, 0)) (b := (0, 0)) dX11_evaluate_56 MX11_228 (ka hF 293 (by decide)) rfl rfl rfl rfl (Nat.le_of_ble_eq_true rfl) ?_
  refine WPM.of pX11 (Nat.le_of_ble_eq_true rfl) rfl ?_
  refine wp_iload_n dX11_read_0 rfl ?_
  refine wp_tableIn (off := 43) 44 dX11_read_1 (by decide) (by decide) rfl (by decide) ?_
  refine wp_iload_n dX11_read_44 rfl ?_
  refine wp_i2l dX11_read_45 ?_
  refine wp_lret dX11_read_46 rfl ?_
  show WP G (d + 4) (0, 0) μX11_evaluate 59 [.ref (gB G + 293), lvU, .int (nI e), .int (nI s), .int (nI i), .int (0 : Int32)] [.long (Int32.toInt64 (nI p)), .int (nI s), .ref (gB G + 303)] m _
  refine wp_lastk (n := 300) s dX11_evaluate_59 (ka hF 303 (by decide)) (la 303) (vin (by omega) (by decide))  (nIc (by omega)) ?_
  have hF1 := Full_wal (gB G + 303) s (Int32.toInt64 (nI p)) hF
  refine wp_iinc (nI (s + 1)) dX11_evaluate_60 rfl (by decide) (nadd (a := s) (b := 1) (by omega)) rfl ?_
  refine wp_goto 161 dX11_evaluate_63 (by decide) ?_
  refine wp_iinc (nI (i + 1)) dX11_evaluate_161 rfl (by decide) (nadd (a := i) (b := 1) (by omega)) rfl ?_
  refine wp_goto 5 dX11_evaluate_164 (by decide) ?_
  refine wp_forget [.ref (gB G + 293), lvU, .int (nI e), .int (nI (s + 1)), .int (nI (i + 1)), lvU] ⟨Or.inl rfl, Or.inr rfl, Or.inl rfl, Or.inl rfl, Or.inl rfl, Or.inr rfl, trivial⟩ ?_
  exact e1

theorem bM_ev1 {G : Cx} {d : Nat} {m : Mm} {Q : Option Value → Mm → Prop} {i s e p : Nat} (hF : Full G m) (hi : i < 500) (hie : i < e) (he : e ≤ 500) (ho : ai m (gB G + 294) (2 * i + 486) = (1 : Int32)) (hp : ai m (gB G + 294) (2 * i + 487) = nI p) (hs : s < 300) (hb : p < 12)
    (e1 : WP G (d + 4) (0, 0) μX11_evaluate 5 [.ref (gB G + 293), lvU, .int (nI e), .int (nI (s + 1)), .int (nI (i + 1)), lvU] [] (wal m (gB G + 303) s (Int32.toInt64 (ai m (gB G + 294) (11 * p + 21)))) Q) :
    WP G (d + 4) (0, 0) μX11_evaluate 5 [.ref (gB G + 293), lvU, .int (nI e), .int (nI s), .int (nI i), lvU] [] m Q := by
  refine wp_iload dX11_evaluate_5 rfl ?_
  refine wp_iload_n dX11_evaluate_7 rfl ?_
  refine wp_icmp_ge 167 dX11_evaluate_8 (by decide) (fun q => absurd (nlt_ hie (by omega)) q) (fun _ => ?_)
  refine wp_aload_n dX11_evaluate_11 rfl ?_
  refine wp_getr (gB G + 294) dX11_evaluate_12 fX11_7 (ka hF 293 (by decide)) (hF.2 _ _) (rra 1 (isK_le (ka hF 293 (by decide))) (fun _ => rfl)) ?_
  refine wp_sipush (486 : Int32) dX11_evaluate_15 (by decide) ?_
  refine wp_iconst (2 : Int32) dX11_evaluate_18 (by decide) ?_
  refine wp_iload dX11_evaluate_19 rfl ?_
  refine wp_imulv (nI (2 * i)) dX11_evaluate_21 (nmul (a := 2) (b := i) (by omega)) ?_
  refine wp_iaddv (nI (2 * i + 486)) dX11_evaluate_22 (nadd (a := 486) (b := 2 * i) (by omega)) ?_
  refine wp_ialdk (n := 1486) (2 * i + 486) (1 : Int32) dX11_evaluate_23 (ka hF 294 (by decide)) (la 294) (vin (by omega) (by decide)) (nIc (by omega)) ho ?_
  refine wp_istore dX11_evaluate_24 (by decide) rfl ?_
  refine wp_iload dX11_evaluate_26 rfl ?_
  refine wp_bipush (8 : Int32) dX11_evaluate_28 (by decide) ?_
  refine wp_icmp_ge 66 dX11_evaluate_30 (by decide) (fun q => absurd (by decide) q) (fun _ => ?_)
  refine wp_aload_n dX11_evaluate_33 rfl ?_
  refine wp_getr (gB G + 303) dX11_evaluate_34 fX11_39 (ka hF 293 (by decide)) (hF.2 _ _) (rra 10 (isK_le (ka hF 293 (by decide))) (fun _ => rfl)) ?_
  refine wp_iload_n dX11_evaluate_37 rfl ?_
  refine wp_aload_n dX11_evaluate_38 rfl ?_
  refine wp_iload dX11_evaluate_39 rfl ?_
  refine wp_aload_n dX11_evaluate_41 rfl ?_
  refine wp_getr (gB G + 294) dX11_evaluate_42 fX11_7 (ka hF 293 (by decide)) (hF.2 _ _) (rra 1 (isK_le (ka hF 293 (by decide))) (fun _ => rfl)) ?_
  refine wp_sipush (486 : Int32) dX11_evaluate_45 (by decide) ?_
  refine wp_iconst (2 : Int32) dX11_evaluate_48 (by decide) ?_
  refine wp_iload dX11_evaluate_49 rfl ?_
  refine wp_imulv (nI (2 * i)) dX11_evaluate_51 (nmul (a := 2) (b := i) (by omega)) ?_
  refine wp_iaddv (nI (2 * i + 486)) dX11_evaluate_52 (nadd (a := 486) (b := 2 * i) (by omega)) ?_
  refine wp_iconst (1 : Int32) dX11_evaluate_53 (by decide) ?_
  refine wp_iaddv (nI (2 * i + 487)) dX11_evaluate_54 (nadd (a := 2 * i + 486) (b := 1) (by omega)) ?_
  refine wp_ialdk (n := 1486) (2 * i + 487) (nI p) dX11_evaluate_55 (ka hF 294 (by decide)) (la 294) (vin (by omega) (by decide)) (nIc (by omega)) hp ?_
  refine wp_callV (As := [.int (1 : Int32), .int (nI p)]) (S := [.int (nI s), .ref (gB G + 303)]) (b' := (0, 0)) (b := (0, 0)) dX11_evaluate_56 MX11_228 (ka hF 293 (by decide)) rfl rfl rfl rfl (Nat.le_of_ble_eq_true rfl) ?_
  refine WPM.of pX11 (Nat.le_of_ble_eq_true rfl) rfl ?_
  refine wp_iload_n dX11_read_0 rfl ?_
  refine wp_tableIn (off := 46) 47 dX11_read_1 (by decide) (by decide) rfl (by decide) ?_
  refine wp_aload_n dX11_read_47 rfl ?_
  refine wp_iload_n dX11_read_48 rfl ?_
  refine wp_iconst (1 : Int32) dX11_read_49 (by decide) ?_
  refine wp_callV (As := [.int (nI p), .int (1 : Int32)]) (S := []) (b' := (0, 0)) (b := (0, 0)) dX11_read_50 MX11_89 (ka hF 293 (by decide)) rfl rfl rfl rfl (Nat.le_of_ble_eq_true rfl) ?_
  refine WPM.of pX11 (Nat.le_of_ble_eq_true rfl) rfl ?_
  refine wp_aload_n dX11_node_0 rfl ?_
  refine wp_getr (gB G + 294) dX11_node_1 fX11_7 (ka hF 293 (by decide)) (hF.2 _ _) (rra 1 (isK_le (ka hF 293 (by decide))) (fun _ => rfl)) ?_
  refine wp_bipush (20 : Int32) dX11_node_4 (by decide) ?_
  refine wp_bipush (11 : Int32) dX11_node_6 (by decide) ?_
  refine wp_iload_n dX11_node_8 rfl ?_
  refine wp_imulv (nI (11 * p)) dX11_node_9 (nmul (a := 11) (b := p) (by omega)) ?_
  refine wp_iaddv (nI (11 * p + 20)) dX11_node_10 (nadd (a := 20) (b := 11 * p) (by omega)) ?_
  refine wp_iload_n dX11_node_11 rfl ?_
  refine wp_iaddv (nI (11 * p + 21)) dX11_node_12 (nadd (a := 11 * p + 20) (b := 1) (by omega)) ?_
  refine wp_ialdk (n := 1486) (11 * p + 21) (ai m (gB G + 294) (11 * p + 21)) dX11_node_13 (ka hF 294 (by decide)) (la 294) (vin (by omega) (by decide)) (nIc (by omega)) rfl ?_
  refine wp_iret dX11_node_14 rfl ?_
  show WP G (d + 3) (0, 0) μX11_read 53 [.ref (gB G + 293), .int (1 : Int32), .int (nI p)] [.int (ai m (gB G + 294) (11 * p + 21))] m _
  refine wp_i2l dX11_read_53 ?_
  refine wp_lret dX11_read_54 rfl ?_
  show WP G (d + 4) (0, 0) μX11_evaluate 59 [.ref (gB G + 293), lvU, .int (nI e), .int (nI s), .int (nI i), .int (1 : Int32)] [.long (Int32.toInt64 (ai m (gB G + 294) (11 * p + 21))), .int (nI s), .ref (gB G + 303)] m _
  refine wp_lastk (n := 300) s dX11_evaluate_59 (ka hF 303 (by decide)) (la 303) (vin (by omega) (by decide))  (nIc (by omega)) ?_
  have hF1 := Full_wal (gB G + 303) s (Int32.toInt64 (ai m (gB G + 294) (11 * p + 21))) hF
  refine wp_iinc (nI (s + 1)) dX11_evaluate_60 rfl (by decide) (nadd (a := s) (b := 1) (by omega)) rfl ?_
  refine wp_goto 161 dX11_evaluate_63 (by decide) ?_
  refine wp_iinc (nI (i + 1)) dX11_evaluate_161 rfl (by decide) (nadd (a := i) (b := 1) (by omega)) rfl ?_
  refine wp_goto 5 dX11_evaluate_164 (by decide) ?_
  refine wp_forget [.ref (gB G + 293), lvU, .int (nI e), .int (nI (s + 1)), .int (nI (i + 1)), lvU] ⟨Or.inl rfl, Or.inr rfl, Or.inl rfl, Or.inl rfl, Or.inl rfl, Or.inr rfl, trivial⟩ ?_
  exact e1

theorem bM_ev2 {G : Cx} {d : Nat} {m : Mm} {Q : Option Value → Mm → Prop} {i s e p : Nat} (hF : Full G m) (hi : i < 500) (hie : i < e) (he : e ≤ 500) (ho : ai m (gB G + 294) (2 * i + 486) = (2 : Int32)) (hp : ai m (gB G + 294) (2 * i + 487) = nI p) (hs : s < 300) (hb : p < 6)
    (e1 : WP G (d + 4) (0, 0) μX11_evaluate 5 [.ref (gB G + 293), lvU, .int (nI e), .int (nI (s + 1)), .int (nI (i + 1)), lvU] [] (wal m (gB G + 303) s (Int32.toInt64 (ai m (gB G + 294) (7 * p + 301)))) Q) :
    WP G (d + 4) (0, 0) μX11_evaluate 5 [.ref (gB G + 293), lvU, .int (nI e), .int (nI s), .int (nI i), lvU] [] m Q := by
  refine wp_iload dX11_evaluate_5 rfl ?_
  refine wp_iload_n dX11_evaluate_7 rfl ?_
  refine wp_icmp_ge 167 dX11_evaluate_8 (by decide) (fun q => absurd (nlt_ hie (by omega)) q) (fun _ => ?_)
  refine wp_aload_n dX11_evaluate_11 rfl ?_
  refine wp_getr (gB G + 294) dX11_evaluate_12 fX11_7 (ka hF 293 (by decide)) (hF.2 _ _) (rra 1 (isK_le (ka hF 293 (by decide))) (fun _ => rfl)) ?_
  refine wp_sipush (486 : Int32) dX11_evaluate_15 (by decide) ?_
  refine wp_iconst (2 : Int32) dX11_evaluate_18 (by decide) ?_
  refine wp_iload dX11_evaluate_19 rfl ?_
  refine wp_imulv (nI (2 * i)) dX11_evaluate_21 (nmul (a := 2) (b := i) (by omega)) ?_
  refine wp_iaddv (nI (2 * i + 486)) dX11_evaluate_22 (nadd (a := 486) (b := 2 * i) (by omega)) ?_
  refine wp_ialdk (n := 1486) (2 * i + 486) (2 : Int32) dX11_evaluate_23 (ka hF 294 (by decide)) (la 294) (vin (by omega) (by decide)) (nIc (by omega)) ho ?_
  refine wp_istore dX11_evaluate_24 (by decide) rfl ?_
  refine wp_iload dX11_evaluate_26 rfl ?_
  refine wp_bipush (8 : Int32) dX11_evaluate_28 (by decide) ?_
  refine wp_icmp_ge 66 dX11_evaluate_30 (by decide) (fun q => absurd (by decide) q) (fun _ => ?_)
  refine wp_aload_n dX11_evaluate_33 rfl ?_
  refine wp_getr (gB G + 303) dX11_evaluate_34 fX11_39 (ka hF 293 (by decide)) (hF.2 _ _) (rra 10 (isK_le (ka hF 293 (by decide))) (fun _ => rfl)) ?_
  refine wp_iload_n dX11_evaluate_37 rfl ?_
  refine wp_aload_n dX11_evaluate_38 rfl ?_
  refine wp_iload dX11_evaluate_39 rfl ?_
  refine wp_aload_n dX11_evaluate_41 rfl ?_
  refine wp_getr (gB G + 294) dX11_evaluate_42 fX11_7 (ka hF 293 (by decide)) (hF.2 _ _) (rra 1 (isK_le (ka hF 293 (by decide))) (fun _ => rfl)) ?_
  refine wp_sipush (486 : Int32) dX11_evaluate_45 (by decide) ?_
  refine wp_iconst (2 : Int32) dX11_evaluate_48 (by decide) ?_
  refine wp_iload dX11_evaluate_49 rfl ?_
  refine wp_imulv (nI (2 * i)) dX11_evaluate_51 (nmul (a := 2) (b := i) (by omega)) ?_
  refine wp_iaddv (nI (2 * i + 486)) dX11_evaluate_52 (nadd (a := 486) (b := 2 * i) (by omega)) ?_
  refine wp_iconst (1 : Int32) dX11_evaluate_53 (by decide) ?_
  refine wp_iaddv (nI (2 * i + 487)) dX11_evaluate_54 (nadd (a := 2 * i + 486) (b := 1) (by omega)) ?_
  refine wp_ialdk (n := 1486) (2 * i + 487) (nI p) dX11_evaluate_55 (ka hF 294 (by decide)) (la 294) (vin (by omega) (by decide)) (nIc (by omega)) hp ?_
  refine wp_callV (As := [.int (2 : Int32), .int (nI p)]) (S := [.int (nI s), .ref (gB G + 303)]) (b' := (0, 0)) (b := (0, 0)) dX11_evaluate_56 MX11_228 (ka hF 293 (by decide)) rfl rfl rfl rfl (Nat.le_of_ble_eq_true rfl) ?_
  refine WPM.of pX11 (Nat.le_of_ble_eq_true rfl) rfl ?_
  refine wp_iload_n dX11_read_0 rfl ?_
  refine wp_tableIn (off := 54) 55 dX11_read_1 (by decide) (by decide) rfl (by decide) ?_
  refine wp_aload_n dX11_read_55 rfl ?_
  refine wp_iload_n dX11_read_56 rfl ?_
  refine wp_iconst (5 : Int32) dX11_read_57 (by decide) ?_
  refine wp_callV (As := [.int (nI p), .int (5 : Int32)]) (S := []) (b' := (0, 0)) (b := (0, 0)) dX11_read_58 MX11_112 (ka hF 293 (by decide)) rfl rfl rfl rfl (Nat.le_of_ble_eq_true rfl) ?_
  refine WPM.of pX11 (Nat.le_of_ble_eq_true rfl) rfl ?_
  refine wp_aload_n dX11_louvre_0 rfl ?_
  refine wp_getr (gB G + 294) dX11_louvre_1 fX11_7 (ka hF 293 (by decide)) (hF.2 _ _) (rra 1 (isK_le (ka hF 293 (by decide))) (fun _ => rfl)) ?_
  refine wp_sipush (296 : Int32) dX11_louvre_4 (by decide) ?_
  refine wp_bipush (7 : Int32) dX11_louvre_7 (by decide) ?_
  refine wp_iload_n dX11_louvre_9 rfl ?_
  refine wp_imulv (nI (7 * p)) dX11_louvre_10 (nmul (a := 7) (b := p) (by omega)) ?_
  refine wp_iaddv (nI (7 * p + 296)) dX11_louvre_11 (nadd (a := 296) (b := 7 * p) (by omega)) ?_
  refine wp_iload_n dX11_louvre_12 rfl ?_
  refine wp_iaddv (nI (7 * p + 301)) dX11_louvre_13 (nadd (a := 7 * p + 296) (b := 5) (by omega)) ?_
  refine wp_ialdk (n := 1486) (7 * p + 301) (ai m (gB G + 294) (7 * p + 301)) dX11_louvre_14 (ka hF 294 (by decide)) (la 294) (vin (by omega) (by decide)) (nIc (by omega)) rfl ?_
  refine wp_iret dX11_louvre_15 rfl ?_
  show WP G (d + 3) (0, 0) μX11_read 61 [.ref (gB G + 293), .int (2 : Int32), .int (nI p)] [.int (ai m (gB G + 294) (7 * p + 301))] m _
  refine wp_i2l dX11_read_61 ?_
  refine wp_lret dX11_read_62 rfl ?_
  show WP G (d + 4) (0, 0) μX11_evaluate 59 [.ref (gB G + 293), lvU, .int (nI e), .int (nI s), .int (nI i), .int (2 : Int32)] [.long (Int32.toInt64 (ai m (gB G + 294) (7 * p + 301))), .int (nI s), .ref (gB G + 303)] m _
  refine wp_lastk (n := 300) s dX11_evaluate_59 (ka hF 303 (by decide)) (la 303) (vin (by omega) (by decide))  (nIc (by omega)) ?_
  have hF1 := Full_wal (gB G + 303) s (Int32.toInt64 (ai m (gB G + 294) (7 * p + 301))) hF
  refine wp_iinc (nI (s + 1)) dX11_evaluate_60 rfl (by decide) (nadd (a := s) (b := 1) (by omega)) rfl ?_
  refine wp_goto 161 dX11_evaluate_63 (by decide) ?_
  refine wp_iinc (nI (i + 1)) dX11_evaluate_161 rfl (by decide) (nadd (a := i) (b := 1) (by omega)) rfl ?_
  refine wp_goto 5 dX11_evaluate_164 (by decide) ?_
  refine wp_forget [.ref (gB G + 293), lvU, .int (nI e), .int (nI (s + 1)), .int (nI (i + 1)), lvU] ⟨Or.inl rfl, Or.inr rfl, Or.inl rfl, Or.inl rfl, Or.inl rfl, Or.inr rfl, trivial⟩ ?_
  exact e1

theorem bM_ev3 {G : Cx} {d : Nat} {m : Mm} {Q : Option Value → Mm → Prop} {i s e p : Nat} (hF : Full G m) (hi : i < 500) (hie : i < e) (he : e ≤ 500) (ho : ai m (gB G + 294) (2 * i + 486) = (3 : Int32)) (hp : ai m (gB G + 294) (2 * i + 487) = nI p) (hs : s < 300) (hb : p < 8)
    (e1 : WP G (d + 4) (0, 0) μX11_evaluate 5 [.ref (gB G + 293), lvU, .int (nI e), .int (nI (s + 1)), .int (nI (i + 1)), lvU] [] (wal m (gB G + 303) s (Int32.toInt64 (ai m (gB G + 294) (8 * p + 345)))) Q) :
    WP G (d + 4) (0, 0) μX11_evaluate 5 [.ref (gB G + 293), lvU, .int (nI e), .int (nI s), .int (nI i), lvU] [] m Q := by
  refine wp_iload dX11_evaluate_5 rfl ?_
  refine wp_iload_n dX11_evaluate_7 rfl ?_
  refine wp_icmp_ge 167 dX11_evaluate_8 (by decide) (fun q => absurd (nlt_ hie (by omega)) q) (fun _ => ?_)
  refine wp_aload_n dX11_evaluate_11 rfl ?_
  refine wp_getr (gB G + 294) dX11_evaluate_12 fX11_7 (ka hF 293 (by decide)) (hF.2 _ _) (rra 1 (isK_le (ka hF 293 (by decide))) (fun _ => rfl)) ?_
  refine wp_sipush (486 : Int32) dX11_evaluate_15 (by decide) ?_
  refine wp_iconst (2 : Int32) dX11_evaluate_18 (by decide) ?_
  refine wp_iload dX11_evaluate_19 rfl ?_
  refine wp_imulv (nI (2 * i)) dX11_evaluate_21 (nmul (a := 2) (b := i) (by omega)) ?_
  refine wp_iaddv (nI (2 * i + 486)) dX11_evaluate_22 (nadd (a := 486) (b := 2 * i) (by omega)) ?_
  refine wp_ialdk (n := 1486) (2 * i + 486) (3 : Int32) dX11_evaluate_23 (ka hF 294 (by decide)) (la 294) (vin (by omega) (by decide)) (nIc (by omega)) ho ?_
  refine wp_istore dX11_evaluate_24 (by decide) rfl ?_
  refine wp_iload dX11_evaluate_26 rfl ?_
  refine wp_bipush (8 : Int32) dX11_evaluate_28 (by decide) ?_
  refine wp_icmp_ge 66 dX11_evaluate_30 (by decide) (fun q => absurd (by decide) q) (fun _ => ?_)
  refine wp_aload_n dX11_evaluate_33 rfl ?_
  refine wp_getr (gB G + 303) dX11_evaluate_34 fX11_39 (ka hF 293 (by decide)) (hF.2 _ _) (rra 10 (isK_le (ka hF 293 (by decide))) (fun _ => rfl)) ?_
  refine wp_iload_n dX11_evaluate_37 rfl ?_
  refine wp_aload_n dX11_evaluate_38 rfl ?_
  refine wp_iload dX11_evaluate_39 rfl ?_
  refine wp_aload_n dX11_evaluate_41 rfl ?_
  refine wp_getr (gB G + 294) dX11_evaluate_42 fX11_7 (ka hF 293 (by decide)) (hF.2 _ _) (rra 1 (isK_le (ka hF 293 (by decide))) (fun _ => rfl)) ?_
  refine wp_sipush (486 : Int32) dX11_evaluate_45 (by decide) ?_
  refine wp_iconst (2 : Int32) dX11_evaluate_48 (by decide) ?_
  refine wp_iload dX11_evaluate_49 rfl ?_
  refine wp_imulv (nI (2 * i)) dX11_evaluate_51 (nmul (a := 2) (b := i) (by omega)) ?_
  refine wp_iaddv (nI (2 * i + 486)) dX11_evaluate_52 (nadd (a := 486) (b := 2 * i) (by omega)) ?_
  refine wp_iconst (1 : Int32) dX11_evaluate_53 (by decide) ?_
  refine wp_iaddv (nI (2 * i + 487)) dX11_evaluate_54 (nadd (a := 2 * i + 486) (b := 1) (by omega)) ?_
  refine wp_ialdk (n := 1486) (2 * i + 487) (nI p) dX11_evaluate_55 (ka hF 294 (by decide)) (la 294) (vin (by omega) (by decide)) (nIc (by omega)) hp ?_
  refine wp_callV (As := [.int (3 : Int32), .int (nI p)]) (S := [.int (nI s), .ref (gB G + 303)]) (b' := (0, 0)) (b := (0, 0)) dX11_evaluate_56 MX11_228 (ka hF 293 (by decide)) rfl rfl rfl rfl (Nat.le_of_ble_eq_true rfl) ?_
  refine WPM.of pX11 (Nat.le_of_ble_eq_true rfl) rfl ?_
  refine wp_iload_n dX11_read_0 rfl ?_
  refine wp_tableIn (off := 62) 63 dX11_read_1 (by decide) (by decide) rfl (by decide) ?_
  refine wp_aload_n dX11_read_63 rfl ?_
  refine wp_iload_n dX11_read_64 rfl ?_
  refine wp_bipush (7 : Int32) dX11_read_65 (by decide) ?_
  refine wp_callV (As := [.int (nI p), .int (7 : Int32)]) (S := []) (b' := (0, 0)) (b := (0, 0)) dX11_read_67 MX11_128 (ka hF 293 (by decide)) rfl rfl rfl rfl (Nat.le_of_ble_eq_true rfl) ?_
  refine WPM.of pX11 (Nat.le_of_ble_eq_true rfl) rfl ?_
  refine wp_aload_n dX11_heater_0 rfl ?_
  refine wp_getr (gB G + 294) dX11_heater_1 fX11_7 (ka hF 293 (by decide)) (hF.2 _ _) (rra 1 (isK_le (ka hF 293 (by decide))) (fun _ => rfl)) ?_
  refine wp_sipush (338 : Int32) dX11_heater_4 (by decide) ?_
  refine wp_bipush (8 : Int32) dX11_heater_7 (by decide) ?_
  refine wp_iload_n dX11_heater_9 rfl ?_
  refine wp_imulv (nI (8 * p)) dX11_heater_10 (nmul (a := 8) (b := p) (by omega)) ?_
  refine wp_iaddv (nI (8 * p + 338)) dX11_heater_11 (nadd (a := 338) (b := 8 * p) (by omega)) ?_
  refine wp_iload_n dX11_heater_12 rfl ?_
  refine wp_iaddv (nI (8 * p + 345)) dX11_heater_13 (nadd (a := 8 * p + 338) (b := 7) (by omega)) ?_
  refine wp_ialdk (n := 1486) (8 * p + 345) (ai m (gB G + 294) (8 * p + 345)) dX11_heater_14 (ka hF 294 (by decide)) (la 294) (vin (by omega) (by decide)) (nIc (by omega)) rfl ?_
  refine wp_iret dX11_heater_15 rfl ?_
  show WP G (d + 3) (0, 0) μX11_read 70 [.ref (gB G + 293), .int (3 : Int32), .int (nI p)] [.int (ai m (gB G + 294) (8 * p + 345))] m _
  refine wp_i2l dX11_read_70 ?_
  refine wp_lret dX11_read_71 rfl ?_
  show WP G (d + 4) (0, 0) μX11_evaluate 59 [.ref (gB G + 293), lvU, .int (nI e), .int (nI s), .int (nI i), .int (3 : Int32)] [.long (Int32.toInt64 (ai m (gB G + 294) (8 * p + 345))), .int (nI s), .ref (gB G + 303)] m _
  refine wp_lastk (n := 300) s dX11_evaluate_59 (ka hF 303 (by decide)) (la 303) (vin (by omega) (by decide))  (nIc (by omega)) ?_
  have hF1 := Full_wal (gB G + 303) s (Int32.toInt64 (ai m (gB G + 294) (8 * p + 345))) hF
  refine wp_iinc (nI (s + 1)) dX11_evaluate_60 rfl (by decide) (nadd (a := s) (b := 1) (by omega)) rfl ?_
  refine wp_goto 161 dX11_evaluate_63 (by decide) ?_
  refine wp_iinc (nI (i + 1)) dX11_evaluate_161 rfl (by decide) (nadd (a := i) (b := 1) (by omega)) rfl ?_
  refine wp_goto 5 dX11_evaluate_164 (by decide) ?_
  refine wp_forget [.ref (gB G + 293), lvU, .int (nI e), .int (nI (s + 1)), .int (nI (i + 1)), lvU] ⟨Or.inl rfl, Or.inr rfl, Or.inl rfl, Or.inl rfl, Or.inl rfl, Or.inr rfl, trivial⟩ ?_
  exact e1

theorem bM_ev4 {G : Cx} {d : Nat} {m : Mm} {Q : Option Value → Mm → Prop} {i s e p : Nat} (hF : Full G m) (hi : i < 500) (hie : i < e) (he : e ≤ 500) (ho : ai m (gB G + 294) (2 * i + 486) = (4 : Int32)) (hp : ai m (gB G + 294) (2 * i + 487) = nI p) (hs : s < 300) (hb : p < 1000000)
    (e1 : WPM G (d + 3) (0, 0) μX11_read [.ref (gB G + 293), .int (4 : Int32), .int (nI p)] m (fun r' m' => WP G (d + 4) (0, 0) μX11_evaluate 59 [.ref (gB G + 293), lvU, .int (nI e), .int (nI s), .int (nI i), lvU] (r'.toList ++ [.int (nI s), .ref (gB G + 303)]) m' Q)) :
    WP G (d + 4) (0, 0) μX11_evaluate 5 [.ref (gB G + 293), lvU, .int (nI e), .int (nI s), .int (nI i), lvU] [] m Q := by
  refine wp_iload dX11_evaluate_5 rfl ?_
  refine wp_iload_n dX11_evaluate_7 rfl ?_
  refine wp_icmp_ge 167 dX11_evaluate_8 (by decide) (fun q => absurd (nlt_ hie (by omega)) q) (fun _ => ?_)
  refine wp_aload_n dX11_evaluate_11 rfl ?_
  refine wp_getr (gB G + 294) dX11_evaluate_12 fX11_7 (ka hF 293 (by decide)) (hF.2 _ _) (rra 1 (isK_le (ka hF 293 (by decide))) (fun _ => rfl)) ?_
  refine wp_sipush (486 : Int32) dX11_evaluate_15 (by decide) ?_
  refine wp_iconst (2 : Int32) dX11_evaluate_18 (by decide) ?_
  refine wp_iload dX11_evaluate_19 rfl ?_
  refine wp_imulv (nI (2 * i)) dX11_evaluate_21 (nmul (a := 2) (b := i) (by omega)) ?_
  refine wp_iaddv (nI (2 * i + 486)) dX11_evaluate_22 (nadd (a := 486) (b := 2 * i) (by omega)) ?_
  refine wp_ialdk (n := 1486) (2 * i + 486) (4 : Int32) dX11_evaluate_23 (ka hF 294 (by decide)) (la 294) (vin (by omega) (by decide)) (nIc (by omega)) ho ?_
  refine wp_istore dX11_evaluate_24 (by decide) rfl ?_
  refine wp_iload dX11_evaluate_26 rfl ?_
  refine wp_bipush (8 : Int32) dX11_evaluate_28 (by decide) ?_
  refine wp_icmp_ge 66 dX11_evaluate_30 (by decide) (fun q => absurd (by decide) q) (fun _ => ?_)
  refine wp_aload_n dX11_evaluate_33 rfl ?_
  refine wp_getr (gB G + 303) dX11_evaluate_34 fX11_39 (ka hF 293 (by decide)) (hF.2 _ _) (rra 10 (isK_le (ka hF 293 (by decide))) (fun _ => rfl)) ?_
  refine wp_iload_n dX11_evaluate_37 rfl ?_
  refine wp_aload_n dX11_evaluate_38 rfl ?_
  refine wp_iload dX11_evaluate_39 rfl ?_
  refine wp_aload_n dX11_evaluate_41 rfl ?_
  refine wp_getr (gB G + 294) dX11_evaluate_42 fX11_7 (ka hF 293 (by decide)) (hF.2 _ _) (rra 1 (isK_le (ka hF 293 (by decide))) (fun _ => rfl)) ?_
  refine wp_sipush (486 : Int32) dX11_evaluate_45 (by decide) ?_
  refine wp_iconst (2 : Int32) dX11_evaluate_48 (by decide) ?_
  refine wp_iload dX11_evaluate_49 rfl ?_
  refine wp_imulv (nI (2 * i)) dX11_evaluate_51 (nmul (a := 2) (b := i) (by omega)) ?_
  refine wp_iaddv (nI (2 * i + 486)) dX11_evaluate_52 (nadd (a := 486) (b := 2 * i) (by omega)) ?_
  refine wp_iconst (1 : Int32) dX11_evaluate_53 (by decide) ?_
  refine wp_iaddv (nI (2 * i + 487)) dX11_evaluate_54 (nadd (a := 2 * i + 486) (b := 1) (by omega)) ?_
  refine wp_ialdk (n := 1486) (2 * i + 487) (nI p) dX11_evaluate_55 (ka hF 294 (by decide)) (la 294) (vin (by omega) (by decide)) (nIc (by omega)) hp ?_
  refine wp_forget [.ref (gB G + 293), lvU, .int (nI e), .int (nI s), .int (nI i), lvU] ⟨Or.inl rfl, Or.inr rfl, Or.inl rfl, Or.inl rfl, Or.inl rfl, Or.inr rfl, trivial⟩ ?_
  refine wp_callV (As := [.int (4 : Int32), .int (nI p)]) (S := [.int (nI s), .ref (gB G + 303)]) (b' := (0, 0)) (b := (0, 0)) dX11_evaluate_56 MX11_228 (ka hF 293 (by decide)) rfl rfl rfl rfl (Nat.le_of_ble_eq_true rfl) ?_
  exact e1

theorem bM_ev4r {G : Cx} {d : Nat} {m : Mm} {Q : Option Value → Mm → Prop} {i s e : Nat} {r : Int64} (hF : Full G m) (hi : i < 500) (hs : s < 300)
    (e1 : WP G (d + 4) (0, 0) μX11_evaluate 5 [.ref (gB G + 293), lvU, .int (nI e), .int (nI (s + 1)), .int (nI (i + 1)), lvU] [] (wal m (gB G + 303) s r) Q) :
    WP G (d + 4) (0, 0) μX11_evaluate 59 [.ref (gB G + 293), lvU, .int (nI e), .int (nI s), .int (nI i), lvU] [.long r, .int (nI s), .ref (gB G + 303)] m Q := by
  refine wp_lastk (n := 300) s dX11_evaluate_59 (ka hF 303 (by decide)) (la 303) (vin (by omega) (by decide))  (nIc (by omega)) ?_
  have hF1 := Full_wal (gB G + 303) s r hF
  refine wp_iinc (nI (s + 1)) dX11_evaluate_60 rfl (by decide) (nadd (a := s) (b := 1) (by omega)) rfl ?_
  refine wp_goto 161 dX11_evaluate_63 (by decide) ?_
  refine wp_iinc (nI (i + 1)) dX11_evaluate_161 rfl (by decide) (nadd (a := i) (b := 1) (by omega)) rfl ?_
  refine wp_goto 5 dX11_evaluate_164 (by decide) ?_
  refine wp_forget [.ref (gB G + 293), lvU, .int (nI e), .int (nI (s + 1)), .int (nI (i + 1)), lvU] ⟨Or.inl rfl, Or.inr rfl, Or.inl rfl, Or.inl rfl, Or.inl rfl, Or.inr rfl, trivial⟩ ?_
  exact e1

theorem bM_ev5 {G : Cx} {d : Nat} {m : Mm} {Q : Option Value → Mm → Prop} {i s e p : Nat} (hF : Full G m) (hi : i < 500) (hie : i < e) (he : e ≤ 500) (ho : ai m (gB G + 294) (2 * i + 486) = (5 : Int32)) (hp : ai m (gB G + 294) (2 * i + 487) = nI p) (hs : s < 300) (hb : p < 1000000)
    (g1 : ¬ (ai m (gB G + 294) 2) = 0)
    (e1 : WP G (d + 4) (0, 0) μX11_evaluate 5 [.ref (gB G + 293), lvU, .int (nI e), .int (nI (s + 1)), .int (nI (i + 1)), lvU] [] (wal m (gB G + 303) s (Int32.toInt64 ((ai m (gB G + 294) 0) - (ai m (gB G + 294) 0) / (ai m (gB G + 294) 2) * (ai m (gB G + 294) 2)))) Q) :
    WP G (d + 4) (0, 0) μX11_evaluate 5 [.ref (gB G + 293), lvU, .int (nI e), .int (nI s), .int (nI i), lvU] [] m Q := by
  refine wp_iload dX11_evaluate_5 rfl ?_
  refine wp_iload_n dX11_evaluate_7 rfl ?_
  refine wp_icmp_ge 167 dX11_evaluate_8 (by decide) (fun q => absurd (nlt_ hie (by omega)) q) (fun _ => ?_)
  refine wp_aload_n dX11_evaluate_11 rfl ?_
  refine wp_getr (gB G + 294) dX11_evaluate_12 fX11_7 (ka hF 293 (by decide)) (hF.2 _ _) (rra 1 (isK_le (ka hF 293 (by decide))) (fun _ => rfl)) ?_
  refine wp_sipush (486 : Int32) dX11_evaluate_15 (by decide) ?_
  refine wp_iconst (2 : Int32) dX11_evaluate_18 (by decide) ?_
  refine wp_iload dX11_evaluate_19 rfl ?_
  refine wp_imulv (nI (2 * i)) dX11_evaluate_21 (nmul (a := 2) (b := i) (by omega)) ?_
  refine wp_iaddv (nI (2 * i + 486)) dX11_evaluate_22 (nadd (a := 486) (b := 2 * i) (by omega)) ?_
  refine wp_ialdk (n := 1486) (2 * i + 486) (5 : Int32) dX11_evaluate_23 (ka hF 294 (by decide)) (la 294) (vin (by omega) (by decide)) (nIc (by omega)) ho ?_
  refine wp_istore dX11_evaluate_24 (by decide) rfl ?_
  refine wp_iload dX11_evaluate_26 rfl ?_
  refine wp_bipush (8 : Int32) dX11_evaluate_28 (by decide) ?_
  refine wp_icmp_ge 66 dX11_evaluate_30 (by decide) (fun q => absurd (by decide) q) (fun _ => ?_)
  refine wp_aload_n dX11_evaluate_33 rfl ?_
  refine wp_getr (gB G + 303) dX11_evaluate_34 fX11_39 (ka hF 293 (by decide)) (hF.2 _ _) (rra 10 (isK_le (ka hF 293 (by decide))) (fun _ => rfl)) ?_
  refine wp_iload_n dX11_evaluate_37 rfl ?_
  refine wp_aload_n dX11_evaluate_38 rfl ?_
  refine wp_iload dX11_evaluate_39 rfl ?_
  refine wp_aload_n dX11_evaluate_41 rfl ?_
  refine wp_getr (gB G + 294) dX11_evaluate_42 fX11_7 (ka hF 293 (by decide)) (hF.2 _ _) (rra 1 (isK_le (ka hF 293 (by decide))) (fun _ => rfl)) ?_
  refine wp_sipush (486 : Int32) dX11_evaluate_45 (by decide) ?_
  refine wp_iconst (2 : Int32) dX11_evaluate_48 (by decide) ?_
  refine wp_iload dX11_evaluate_49 rfl ?_
  refine wp_imulv (nI (2 * i)) dX11_evaluate_51 (nmul (a := 2) (b := i) (by omega)) ?_
  refine wp_iaddv (nI (2 * i + 486)) dX11_evaluate_52 (nadd (a := 486) (b := 2 * i) (by omega)) ?_
  refine wp_iconst (1 : Int32) dX11_evaluate_53 (by decide) ?_
  refine wp_iaddv (nI (2 * i + 487)) dX11_evaluate_54 (nadd (a := 2 * i + 486) (b := 1) (by omega)) ?_
  refine wp_ialdk (n := 1486) (2 * i + 487) (nI p) dX11_evaluate_55 (ka hF 294 (by decide)) (la 294) (vin (by omega) (by decide)) (nIc (by omega)) hp ?_
  refine wp_callV (As := [.int (5 : Int32), .int (nI p)]) (S := [.int (nI s), .ref (gB G + 303)]) (b' := (0, 0)) (b := (0, 0)) dX11_evaluate_56 MX11_228 (ka hF 293 (by decide)) rfl rfl rfl rfl (Nat.le_of_ble_eq_true rfl) ?_
  refine WPM.of pX11 (Nat.le_of_ble_eq_true rfl) rfl ?_
  refine wp_iload_n dX11_read_0 rfl ?_
  refine wp_tableIn (off := 84) 85 dX11_read_1 (by decide) (by decide) rfl (by decide) ?_
  refine wp_aload_n dX11_read_85 rfl ?_
  refine wp_callV (As := []) (S := []) (b' := (0, 0)) (b := (0, 0)) dX11_read_86 MX11_132 (ka hF 293 (by decide)) rfl rfl rfl rfl (Nat.le_of_ble_eq_true rfl) ?_
  refine WPM.of pX11 (Nat.le_of_ble_eq_true rfl) rfl ?_
  refine wp_aload_n dX11_phase_0 rfl ?_
  refine wp_getr (gB G + 294) dX11_phase_1 fX11_7 (ka hF 293 (by decide)) (hF.2 _ _) (rra 1 (isK_le (ka hF 293 (by decide))) (fun _ => rfl)) ?_
  refine wp_iconst (0 : Int32) dX11_phase_4 (by decide) ?_
  refine wp_ialdk (n := 1486) 0 (ai m (gB G + 294) 0) dX11_phase_5 (ka hF 294 (by decide)) (la 294) (vinl (by decide)) rfl rfl ?_
  refine wp_aload_n dX11_phase_6 rfl ?_
  refine wp_getr (gB G + 294) dX11_phase_7 fX11_7 (ka hF 293 (by decide)) (hF.2 _ _) (rra 1 (isK_le (ka hF 293 (by decide))) (fun _ => rfl)) ?_
  refine wp_iconst (2 : Int32) dX11_phase_10 (by decide) ?_
  refine wp_ialdk (n := 1486) 2 (ai m (gB G + 294) 2) dX11_phase_11 (ka hF 294 (by decide)) (la 294) (vinl (by decide)) rfl rfl ?_
  refine wp_irem dX11_phase_12 g1 ?_
  refine wp_iret dX11_phase_13 rfl ?_
  show WP G (d + 3) (0, 0) μX11_read 89 [.ref (gB G + 293), .int (5 : Int32), .int (nI p)] [.int ((ai m (gB G + 294) 0) - (ai m (gB G + 294) 0) / (ai m (gB G + 294) 2) * (ai m (gB G + 294) 2))] m _
  refine wp_i2l dX11_read_89 ?_
  refine wp_lret dX11_read_90 rfl ?_
  show WP G (d + 4) (0, 0) μX11_evaluate 59 [.ref (gB G + 293), lvU, .int (nI e), .int (nI s), .int (nI i), .int (5 : Int32)] [.long (Int32.toInt64 ((ai m (gB G + 294) 0) - (ai m (gB G + 294) 0) / (ai m (gB G + 294) 2) * (ai m (gB G + 294) 2))), .int (nI s), .ref (gB G + 303)] m _
  refine wp_lastk (n := 300) s dX11_evaluate_59 (ka hF 303 (by decide)) (la 303) (vin (by omega) (by decide))  (nIc (by omega)) ?_
  have hF1 := Full_wal (gB G + 303) s (Int32.toInt64 ((ai m (gB G + 294) 0) - (ai m (gB G + 294) 0) / (ai m (gB G + 294) 2) * (ai m (gB G + 294) 2))) hF
  refine wp_iinc (nI (s + 1)) dX11_evaluate_60 rfl (by decide) (nadd (a := s) (b := 1) (by omega)) rfl ?_
  refine wp_goto 161 dX11_evaluate_63 (by decide) ?_
  refine wp_iinc (nI (i + 1)) dX11_evaluate_161 rfl (by decide) (nadd (a := i) (b := 1) (by omega)) rfl ?_
  refine wp_goto 5 dX11_evaluate_164 (by decide) ?_
  refine wp_forget [.ref (gB G + 293), lvU, .int (nI e), .int (nI (s + 1)), .int (nI (i + 1)), lvU] ⟨Or.inl rfl, Or.inr rfl, Or.inl rfl, Or.inl rfl, Or.inl rfl, Or.inr rfl, trivial⟩ ?_
  exact e1

theorem bM_ev6 {G : Cx} {d : Nat} {m : Mm} {Q : Option Value → Mm → Prop} {i s e p : Nat} (hF : Full G m) (hi : i < 500) (hie : i < e) (he : e ≤ 500) (ho : ai m (gB G + 294) (2 * i + 486) = (6 : Int32)) (hp : ai m (gB G + 294) (2 * i + 487) = nI p) (hs : s < 300) (hb : p < 1000000)
    (e1 : WP G (d + 4) (0, 0) μX11_evaluate 5 [.ref (gB G + 293), lvU, .int (nI e), .int (nI (s + 1)), .int (nI (i + 1)), lvU] [] (wal m (gB G + 303) s (Int32.toInt64 (ai m (gB G + 294) 11))) Q) :
    WP G (d + 4) (0, 0) μX11_evaluate 5 [.ref (gB G + 293), lvU, .int (nI e), .int (nI s), .int (nI i), lvU] [] m Q := by
  refine wp_iload dX11_evaluate_5 rfl ?_
  refine wp_iload_n dX11_evaluate_7 rfl ?_
  refine wp_icmp_ge 167 dX11_evaluate_8 (by decide) (fun q => absurd (nlt_ hie (by omega)) q) (fun _ => ?_)
  refine wp_aload_n dX11_evaluate_11 rfl ?_
  refine wp_getr (gB G + 294) dX11_evaluate_12 fX11_7 (ka hF 293 (by decide)) (hF.2 _ _) (rra 1 (isK_le (ka hF 293 (by decide))) (fun _ => rfl)) ?_
  refine wp_sipush (486 : Int32) dX11_evaluate_15 (by decide) ?_
  refine wp_iconst (2 : Int32) dX11_evaluate_18 (by decide) ?_
  refine wp_iload dX11_evaluate_19 rfl ?_
  refine wp_imulv (nI (2 * i)) dX11_evaluate_21 (nmul (a := 2) (b := i) (by omega)) ?_
  refine wp_iaddv (nI (2 * i + 486)) dX11_evaluate_22 (nadd (a := 486) (b := 2 * i) (by omega)) ?_
  refine wp_ialdk (n := 1486) (2 * i + 486) (6 : Int32) dX11_evaluate_23 (ka hF 294 (by decide)) (la 294) (vin (by omega) (by decide)) (nIc (by omega)) ho ?_
  refine wp_istore dX11_evaluate_24 (by decide) rfl ?_
  refine wp_iload dX11_evaluate_26 rfl ?_
  refine wp_bipush (8 : Int32) dX11_evaluate_28 (by decide) ?_
  refine wp_icmp_ge 66 dX11_evaluate_30 (by decide) (fun q => absurd (by decide) q) (fun _ => ?_)
  refine wp_aload_n dX11_evaluate_33 rfl ?_
  refine wp_getr (gB G + 303) dX11_evaluate_34 fX11_39 (ka hF 293 (by decide)) (hF.2 _ _) (rra 10 (isK_le (ka hF 293 (by decide))) (fun _ => rfl)) ?_
  refine wp_iload_n dX11_evaluate_37 rfl ?_
  refine wp_aload_n dX11_evaluate_38 rfl ?_
  refine wp_iload dX11_evaluate_39 rfl ?_
  refine wp_aload_n dX11_evaluate_41 rfl ?_
  refine wp_getr (gB G + 294) dX11_evaluate_42 fX11_7 (ka hF 293 (by decide)) (hF.2 _ _) (rra 1 (isK_le (ka hF 293 (by decide))) (fun _ => rfl)) ?_
  refine wp_sipush (486 : Int32) dX11_evaluate_45 (by decide) ?_
  refine wp_iconst (2 : Int32) dX11_evaluate_48 (by decide) ?_
  refine wp_iload dX11_evaluate_49 rfl ?_
  refine wp_imulv (nI (2 * i)) dX11_evaluate_51 (nmul (a := 2) (b := i) (by omega)) ?_
  refine wp_iaddv (nI (2 * i + 486)) dX11_evaluate_52 (nadd (a := 486) (b := 2 * i) (by omega)) ?_
  refine wp_iconst (1 : Int32) dX11_evaluate_53 (by decide) ?_
  refine wp_iaddv (nI (2 * i + 487)) dX11_evaluate_54 (nadd (a := 2 * i + 486) (b := 1) (by omega)) ?_
  refine wp_ialdk (n := 1486) (2 * i + 487) (nI p) dX11_evaluate_55 (ka hF 294 (by decide)) (la 294) (vin (by omega) (by decide)) (nIc (by omega)) hp ?_
  refine wp_callV (As := [.int (6 : Int32), .int (nI p)]) (S := [.int (nI s), .ref (gB G + 303)]) (b' := (0, 0)) (b := (0, 0)) dX11_evaluate_56 MX11_228 (ka hF 293 (by decide)) rfl rfl rfl rfl (Nat.le_of_ble_eq_true rfl) ?_
  refine WPM.of pX11 (Nat.le_of_ble_eq_true rfl) rfl ?_
  refine wp_iload_n dX11_read_0 rfl ?_
  refine wp_tableIn (off := 90) 91 dX11_read_1 (by decide) (by decide) rfl (by decide) ?_
  refine wp_aload_n dX11_read_91 rfl ?_
  refine wp_getr (gB G + 294) dX11_read_92 fX11_7 (ka hF 293 (by decide)) (hF.2 _ _) (rra 1 (isK_le (ka hF 293 (by decide))) (fun _ => rfl)) ?_
  refine wp_bipush (11 : Int32) dX11_read_95 (by decide) ?_
  refine wp_ialdk (n := 1486) 11 (ai m (gB G + 294) 11) dX11_read_97 (ka hF 294 (by decide)) (la 294) (vinl (by decide)) rfl rfl ?_
  refine wp_i2l dX11_read_98 ?_
  refine wp_lret dX11_read_99 rfl ?_
  show WP G (d + 4) (0, 0) μX11_evaluate 59 [.ref (gB G + 293), lvU, .int (nI e), .int (nI s), .int (nI i), .int (6 : Int32)] [.long (Int32.toInt64 (ai m (gB G + 294) 11)), .int (nI s), .ref (gB G + 303)] m _
  refine wp_lastk (n := 300) s dX11_evaluate_59 (ka hF 303 (by decide)) (la 303) (vin (by omega) (by decide))  (nIc (by omega)) ?_
  have hF1 := Full_wal (gB G + 303) s (Int32.toInt64 (ai m (gB G + 294) 11)) hF
  refine wp_iinc (nI (s + 1)) dX11_evaluate_60 rfl (by decide) (nadd (a := s) (b := 1) (by omega)) rfl ?_
  refine wp_goto 161 dX11_evaluate_63 (by decide) ?_
  refine wp_iinc (nI (i + 1)) dX11_evaluate_161 rfl (by decide) (nadd (a := i) (b := 1) (by omega)) rfl ?_
  refine wp_goto 5 dX11_evaluate_164 (by decide) ?_
  refine wp_forget [.ref (gB G + 293), lvU, .int (nI e), .int (nI (s + 1)), .int (nI (i + 1)), lvU] ⟨Or.inl rfl, Or.inr rfl, Or.inl rfl, Or.inl rfl, Or.inl rfl, Or.inr rfl, trivial⟩ ?_
  exact e1

theorem bM_ev7 {G : Cx} {d : Nat} {m : Mm} {Q : Option Value → Mm → Prop} {i s e p : Nat} (hF : Full G m) (hi : i < 500) (hie : i < e) (he : e ≤ 500) (ho : ai m (gB G + 294) (2 * i + 486) = (7 : Int32)) (hp : ai m (gB G + 294) (2 * i + 487) = nI p) (hs : s < 300) (hb : p < 1000000)
    (e1 : WPM G (d + 3) (0, 0) μX11_read [.ref (gB G + 293), .int (7 : Int32), .int (nI p)] m (fun r' m' => WP G (d + 4) (0, 0) μX11_evaluate 59 [.ref (gB G + 293), lvU, .int (nI e), .int (nI s), .int (nI i), lvU] (r'.toList ++ [.int (nI s), .ref (gB G + 303)]) m' Q)) :
    WP G (d + 4) (0, 0) μX11_evaluate 5 [.ref (gB G + 293), lvU, .int (nI e), .int (nI s), .int (nI i), lvU] [] m Q := by
  refine wp_iload dX11_evaluate_5 rfl ?_
  refine wp_iload_n dX11_evaluate_7 rfl ?_
  refine wp_icmp_ge 167 dX11_evaluate_8 (by decide) (fun q => absurd (nlt_ hie (by omega)) q) (fun _ => ?_)
  refine wp_aload_n dX11_evaluate_11 rfl ?_
  refine wp_getr (gB G + 294) dX11_evaluate_12 fX11_7 (ka hF 293 (by decide)) (hF.2 _ _) (rra 1 (isK_le (ka hF 293 (by decide))) (fun _ => rfl)) ?_
  refine wp_sipush (486 : Int32) dX11_evaluate_15 (by decide) ?_
  refine wp_iconst (2 : Int32) dX11_evaluate_18 (by decide) ?_
  refine wp_iload dX11_evaluate_19 rfl ?_
  refine wp_imulv (nI (2 * i)) dX11_evaluate_21 (nmul (a := 2) (b := i) (by omega)) ?_
  refine wp_iaddv (nI (2 * i + 486)) dX11_evaluate_22 (nadd (a := 486) (b := 2 * i) (by omega)) ?_
  refine wp_ialdk (n := 1486) (2 * i + 486) (7 : Int32) dX11_evaluate_23 (ka hF 294 (by decide)) (la 294) (vin (by omega) (by decide)) (nIc (by omega)) ho ?_
  refine wp_istore dX11_evaluate_24 (by decide) rfl ?_
  refine wp_iload dX11_evaluate_26 rfl ?_
  refine wp_bipush (8 : Int32) dX11_evaluate_28 (by decide) ?_
  refine wp_icmp_ge 66 dX11_evaluate_30 (by decide) (fun q => absurd (by decide) q) (fun _ => ?_)
  refine wp_aload_n dX11_evaluate_33 rfl ?_
  refine wp_getr (gB G + 303) dX11_evaluate_34 fX11_39 (ka hF 293 (by decide)) (hF.2 _ _) (rra 10 (isK_le (ka hF 293 (by decide))) (fun _ => rfl)) ?_
  refine wp_iload_n dX11_evaluate_37 rfl ?_
  refine wp_aload_n dX11_evaluate_38 rfl ?_
  refine wp_iload dX11_evaluate_39 rfl ?_
  refine wp_aload_n dX11_evaluate_41 rfl ?_
  refine wp_getr (gB G + 294) dX11_evaluate_42 fX11_7 (ka hF 293 (by decide)) (hF.2 _ _) (rra 1 (isK_le (ka hF 293 (by decide))) (fun _ => rfl)) ?_
  refine wp_sipush (486 : Int32) dX11_evaluate_45 (by decide) ?_
  refine wp_iconst (2 : Int32) dX11_evaluate_48 (by decide) ?_
  refine wp_iload dX11_evaluate_49 rfl ?_
  refine wp_imulv (nI (2 * i)) dX11_evaluate_51 (nmul (a := 2) (b := i) (by omega)) ?_
  refine wp_iaddv (nI (2 * i + 486)) dX11_evaluate_52 (nadd (a := 486) (b := 2 * i) (by omega)) ?_
  refine wp_iconst (1 : Int32) dX11_evaluate_53 (by decide) ?_
  refine wp_iaddv (nI (2 * i + 487)) dX11_evaluate_54 (nadd (a := 2 * i + 486) (b := 1) (by omega)) ?_
  refine wp_ialdk (n := 1486) (2 * i + 487) (nI p) dX11_evaluate_55 (ka hF 294 (by decide)) (la 294) (vin (by omega) (by decide)) (nIc (by omega)) hp ?_
  refine wp_forget [.ref (gB G + 293), lvU, .int (nI e), .int (nI s), .int (nI i), lvU] ⟨Or.inl rfl, Or.inr rfl, Or.inl rfl, Or.inl rfl, Or.inl rfl, Or.inr rfl, trivial⟩ ?_
  refine wp_callV (As := [.int (7 : Int32), .int (nI p)]) (S := [.int (nI s), .ref (gB G + 303)]) (b' := (0, 0)) (b := (0, 0)) dX11_evaluate_56 MX11_228 (ka hF 293 (by decide)) rfl rfl rfl rfl (Nat.le_of_ble_eq_true rfl) ?_
  exact e1

theorem bM_ev7r {G : Cx} {d : Nat} {m : Mm} {Q : Option Value → Mm → Prop} {i s e : Nat} {r : Int64} (hF : Full G m) (hi : i < 500) (hs : s < 300)
    (e1 : WP G (d + 4) (0, 0) μX11_evaluate 5 [.ref (gB G + 293), lvU, .int (nI e), .int (nI (s + 1)), .int (nI (i + 1)), lvU] [] (wal m (gB G + 303) s r) Q) :
    WP G (d + 4) (0, 0) μX11_evaluate 59 [.ref (gB G + 293), lvU, .int (nI e), .int (nI s), .int (nI i), lvU] [.long r, .int (nI s), .ref (gB G + 303)] m Q := by
  refine wp_lastk (n := 300) s dX11_evaluate_59 (ka hF 303 (by decide)) (la 303) (vin (by omega) (by decide))  (nIc (by omega)) ?_
  have hF1 := Full_wal (gB G + 303) s r hF
  refine wp_iinc (nI (s + 1)) dX11_evaluate_60 rfl (by decide) (nadd (a := s) (b := 1) (by omega)) rfl ?_
  refine wp_goto 161 dX11_evaluate_63 (by decide) ?_
  refine wp_iinc (nI (i + 1)) dX11_evaluate_161 rfl (by decide) (nadd (a := i) (b := 1) (by omega)) rfl ?_
  refine wp_goto 5 dX11_evaluate_164 (by decide) ?_
  refine wp_forget [.ref (gB G + 293), lvU, .int (nI e), .int (nI (s + 1)), .int (nI (i + 1)), lvU] ⟨Or.inl rfl, Or.inr rfl, Or.inl rfl, Or.inl rfl, Or.inl rfl, Or.inr rfl, trivial⟩ ?_
  exact e1

theorem bM_ev8 {G : Cx} {d : Nat} {m : Mm} {Q : Option Value → Mm → Prop} {i s e p : Nat} (hF : Full G m) (hi : i < 500) (hie : i < e) (he : e ≤ 500) (ho : ai m (gB G + 294) (2 * i + 486) = (8 : Int32)) (hs : s + 1 < 300)
    (e1 : WP G (d + 4) (0, 0) μX11_evaluate 5 [.ref (gB G + 293), lvU, .int (nI e), .int (nI (s + 1)), .int (nI (i + 1)), lvU] [] (wal m (gB G + 303) s (-(al m (gB G + 303) s))) Q) :
    WP G (d + 4) (0, 0) μX11_evaluate 5 [.ref (gB G + 293), lvU, .int (nI e), .int (nI (s + 1)), .int (nI i), lvU] [] m Q := by
  refine wp_iload dX11_evaluate_5 rfl ?_
  refine wp_iload_n dX11_evaluate_7 rfl ?_
  refine wp_icmp_ge 167 dX11_evaluate_8 (by decide) (fun q => absurd (nlt_ hie (by omega)) q) (fun _ => ?_)
  refine wp_aload_n dX11_evaluate_11 rfl ?_
  refine wp_getr (gB G + 294) dX11_evaluate_12 fX11_7 (ka hF 293 (by decide)) (hF.2 _ _) (rra 1 (isK_le (ka hF 293 (by decide))) (fun _ => rfl)) ?_
  refine wp_sipush (486 : Int32) dX11_evaluate_15 (by decide) ?_
  refine wp_iconst (2 : Int32) dX11_evaluate_18 (by decide) ?_
  refine wp_iload dX11_evaluate_19 rfl ?_
  refine wp_imulv (nI (2 * i)) dX11_evaluate_21 (nmul (a := 2) (b := i) (by omega)) ?_
  refine wp_iaddv (nI (2 * i + 486)) dX11_evaluate_22 (nadd (a := 486) (b := 2 * i) (by omega)) ?_
  refine wp_ialdk (n := 1486) (2 * i + 486) (8 : Int32) dX11_evaluate_23 (ka hF 294 (by decide)) (la 294) (vin (by omega) (by decide)) (nIc (by omega)) ho ?_
  refine wp_istore dX11_evaluate_24 (by decide) rfl ?_
  refine wp_iload dX11_evaluate_26 rfl ?_
  refine wp_bipush (8 : Int32) dX11_evaluate_28 (by decide) ?_
  refine wp_icmp_ge 66 dX11_evaluate_30 (by decide) (fun _ => ?_) (fun q => absurd q (by decide))
  refine wp_iload dX11_evaluate_66 rfl ?_
  refine wp_bipush (8 : Int32) dX11_evaluate_68 (by decide) ?_
  refine wp_icmp_ne 93 dX11_evaluate_70 (by decide) (fun q => absurd (by decide) q) (fun _ => ?_)
  refine wp_aload_n dX11_evaluate_73 rfl ?_
  refine wp_getr (gB G + 303) dX11_evaluate_74 fX11_39 (ka hF 293 (by decide)) (hF.2 _ _) (rra 10 (isK_le (ka hF 293 (by decide))) (fun _ => rfl)) ?_
  refine wp_iload_n dX11_evaluate_77 rfl ?_
  refine wp_iconst (1 : Int32) dX11_evaluate_78 (by decide) ?_
  refine wp_isubv (nI s) dX11_evaluate_79 (nsub (a := s + 1) (b := 1) (by omega)) ?_
  refine wp_aload_n dX11_evaluate_80 rfl ?_
  refine wp_getr (gB G + 303) dX11_evaluate_81 fX11_39 (ka hF 293 (by decide)) (hF.2 _ _) (rra 10 (isK_le (ka hF 293 (by decide))) (fun _ => rfl)) ?_
  refine wp_iload_n dX11_evaluate_84 rfl ?_
  refine wp_iconst (1 : Int32) dX11_evaluate_85 (by decide) ?_
  refine wp_isubv (nI s) dX11_evaluate_86 (nsub (a := s + 1) (b := 1) (by omega)) ?_
  refine wp_laldk (n := 300) s (al m (gB G + 303) s) dX11_evaluate_87 (ka hF 303 (by decide)) (la 303) (vin (by omega) (by decide)) (nIc (by omega)) rfl ?_
  refine wp_lneg dX11_evaluate_88 ?_
  refine wp_lastk (n := 300) s dX11_evaluate_89 (ka hF 303 (by decide)) (la 303) (vin (by omega) (by decide))  (nIc (by omega)) ?_
  have hF1 := Full_wal (gB G + 303) s (-(al m (gB G + 303) s)) hF
  refine wp_goto 161 dX11_evaluate_90 (by decide) ?_
  refine wp_iinc (nI (i + 1)) dX11_evaluate_161 rfl (by decide) (nadd (a := i) (b := 1) (by omega)) rfl ?_
  refine wp_goto 5 dX11_evaluate_164 (by decide) ?_
  refine wp_forget [.ref (gB G + 293), lvU, .int (nI e), .int (nI (s + 1)), .int (nI (i + 1)), lvU] ⟨Or.inl rfl, Or.inr rfl, Or.inl rfl, Or.inl rfl, Or.inl rfl, Or.inr rfl, trivial⟩ ?_
  exact e1

theorem bM_ev16 {G : Cx} {d : Nat} {m : Mm} {Q : Option Value → Mm → Prop} {i s e p : Nat} (hF : Full G m) (hi : i < 500) (hie : i < e) (he : e ≤ 500) (ho : ai m (gB G + 294) (2 * i + 486) = (16 : Int32)) (hs : s + 1 < 300)
    (e1 : WP G (d + 4) (0, 0) μX11_evaluate 5 [.ref (gB G + 293), lvU, .int (nI e), .int (nI (s + 1)), .int (nI (i + 1)), lvU] [] (wal m (gB G + 303) s ((1 : Int64) - (al m (gB G + 303) s))) Q) :
    WP G (d + 4) (0, 0) μX11_evaluate 5 [.ref (gB G + 293), lvU, .int (nI e), .int (nI (s + 1)), .int (nI i), lvU] [] m Q := by
  refine wp_iload dX11_evaluate_5 rfl ?_
  refine wp_iload_n dX11_evaluate_7 rfl ?_
  refine wp_icmp_ge 167 dX11_evaluate_8 (by decide) (fun q => absurd (nlt_ hie (by omega)) q) (fun _ => ?_)
  refine wp_aload_n dX11_evaluate_11 rfl ?_
  refine wp_getr (gB G + 294) dX11_evaluate_12 fX11_7 (ka hF 293 (by decide)) (hF.2 _ _) (rra 1 (isK_le (ka hF 293 (by decide))) (fun _ => rfl)) ?_
  refine wp_sipush (486 : Int32) dX11_evaluate_15 (by decide) ?_
  refine wp_iconst (2 : Int32) dX11_evaluate_18 (by decide) ?_
  refine wp_iload dX11_evaluate_19 rfl ?_
  refine wp_imulv (nI (2 * i)) dX11_evaluate_21 (nmul (a := 2) (b := i) (by omega)) ?_
  refine wp_iaddv (nI (2 * i + 486)) dX11_evaluate_22 (nadd (a := 486) (b := 2 * i) (by omega)) ?_
  refine wp_ialdk (n := 1486) (2 * i + 486) (16 : Int32) dX11_evaluate_23 (ka hF 294 (by decide)) (la 294) (vin (by omega) (by decide)) (nIc (by omega)) ho ?_
  refine wp_istore dX11_evaluate_24 (by decide) rfl ?_
  refine wp_iload dX11_evaluate_26 rfl ?_
  refine wp_bipush (8 : Int32) dX11_evaluate_28 (by decide) ?_
  refine wp_icmp_ge 66 dX11_evaluate_30 (by decide) (fun _ => ?_) (fun q => absurd q (by decide))
  refine wp_iload dX11_evaluate_66 rfl ?_
  refine wp_bipush (8 : Int32) dX11_evaluate_68 (by decide) ?_
  refine wp_icmp_ne 93 dX11_evaluate_70 (by decide) (fun _ => ?_) (fun q => absurd q (by decide))
  refine wp_iload dX11_evaluate_93 rfl ?_
  refine wp_bipush (16 : Int32) dX11_evaluate_95 (by decide) ?_
  refine wp_icmp_ne 121 dX11_evaluate_97 (by decide) (fun q => absurd (by decide) q) (fun _ => ?_)
  refine wp_aload_n dX11_evaluate_100 rfl ?_
  refine wp_getr (gB G + 303) dX11_evaluate_101 fX11_39 (ka hF 293 (by decide)) (hF.2 _ _) (rra 10 (isK_le (ka hF 293 (by decide))) (fun _ => rfl)) ?_
  refine wp_iload_n dX11_evaluate_104 rfl ?_
  refine wp_iconst (1 : Int32) dX11_evaluate_105 (by decide) ?_
  refine wp_isubv (nI s) dX11_evaluate_106 (nsub (a := s + 1) (b := 1) (by omega)) ?_
  refine wp_lconst (1 : Int64) dX11_evaluate_107 (by decide) ?_
  refine wp_aload_n dX11_evaluate_108 rfl ?_
  refine wp_getr (gB G + 303) dX11_evaluate_109 fX11_39 (ka hF 293 (by decide)) (hF.2 _ _) (rra 10 (isK_le (ka hF 293 (by decide))) (fun _ => rfl)) ?_
  refine wp_iload_n dX11_evaluate_112 rfl ?_
  refine wp_iconst (1 : Int32) dX11_evaluate_113 (by decide) ?_
  refine wp_isubv (nI s) dX11_evaluate_114 (nsub (a := s + 1) (b := 1) (by omega)) ?_
  refine wp_laldk (n := 300) s (al m (gB G + 303) s) dX11_evaluate_115 (ka hF 303 (by decide)) (la 303) (vin (by omega) (by decide)) (nIc (by omega)) rfl ?_
  refine wp_lsub dX11_evaluate_116 ?_
  refine wp_lastk (n := 300) s dX11_evaluate_117 (ka hF 303 (by decide)) (la 303) (vin (by omega) (by decide))  (nIc (by omega)) ?_
  have hF1 := Full_wal (gB G + 303) s ((1 : Int64) - (al m (gB G + 303) s)) hF
  refine wp_goto 161 dX11_evaluate_118 (by decide) ?_
  refine wp_iinc (nI (i + 1)) dX11_evaluate_161 rfl (by decide) (nadd (a := i) (b := 1) (by omega)) rfl ?_
  refine wp_goto 5 dX11_evaluate_164 (by decide) ?_
  refine wp_forget [.ref (gB G + 293), lvU, .int (nI e), .int (nI (s + 1)), .int (nI (i + 1)), lvU] ⟨Or.inl rfl, Or.inr rfl, Or.inl rfl, Or.inl rfl, Or.inl rfl, Or.inr rfl, trivial⟩ ?_
  exact e1

theorem bM_ev9 {G : Cx} {d : Nat} {m : Mm} {Q : Option Value → Mm → Prop} {i s e p : Nat} (hF : Full G m) (hi : i < 500) (hie : i < e) (he : e ≤ 500) (ho : ai m (gB G + 294) (2 * i + 486) = (9 : Int32)) (hs : s + 2 < 300)
    (e1 : WP G (d + 4) (0, 0) μX11_evaluate 5 [.ref (gB G + 293), lvU, .int (nI e), .int (nI (s + 1)), .int (nI (i + 1)), lvU] [] (wal m (gB G + 303) s (lmax (-1000000000000 : Int64) (lmin (1000000000000 : Int64) ((al m (gB G + 303) s) + (al m (gB G + 303) (s + 1)))))) Q) :
    WP G (d + 4) (0, 0) μX11_evaluate 5 [.ref (gB G + 293), lvU, .int (nI e), .int (nI (s + 2)), .int (nI i), lvU] [] m Q := by
  refine wp_iload dX11_evaluate_5 rfl ?_
  refine wp_iload_n dX11_evaluate_7 rfl ?_
  refine wp_icmp_ge 167 dX11_evaluate_8 (by decide) (fun q => absurd (nlt_ hie (by omega)) q) (fun _ => ?_)
  refine wp_aload_n dX11_evaluate_11 rfl ?_
  refine wp_getr (gB G + 294) dX11_evaluate_12 fX11_7 (ka hF 293 (by decide)) (hF.2 _ _) (rra 1 (isK_le (ka hF 293 (by decide))) (fun _ => rfl)) ?_
  refine wp_sipush (486 : Int32) dX11_evaluate_15 (by decide) ?_
  refine wp_iconst (2 : Int32) dX11_evaluate_18 (by decide) ?_
  refine wp_iload dX11_evaluate_19 rfl ?_
  refine wp_imulv (nI (2 * i)) dX11_evaluate_21 (nmul (a := 2) (b := i) (by omega)) ?_
  refine wp_iaddv (nI (2 * i + 486)) dX11_evaluate_22 (nadd (a := 486) (b := 2 * i) (by omega)) ?_
  refine wp_ialdk (n := 1486) (2 * i + 486) (9 : Int32) dX11_evaluate_23 (ka hF 294 (by decide)) (la 294) (vin (by omega) (by decide)) (nIc (by omega)) ho ?_
  refine wp_istore dX11_evaluate_24 (by decide) rfl ?_
  refine wp_iload dX11_evaluate_26 rfl ?_
  refine wp_bipush (8 : Int32) dX11_evaluate_28 (by decide) ?_
  refine wp_icmp_ge 66 dX11_evaluate_30 (by decide) (fun _ => ?_) (fun q => absurd q (by decide))
  refine wp_iload dX11_evaluate_66 rfl ?_
  refine wp_bipush (8 : Int32) dX11_evaluate_68 (by decide) ?_
  refine wp_icmp_ne 93 dX11_evaluate_70 (by decide) (fun _ => ?_) (fun q => absurd q (by decide))
  refine wp_iload dX11_evaluate_93 rfl ?_
  refine wp_bipush (16 : Int32) dX11_evaluate_95 (by decide) ?_
  refine wp_icmp_ne 121 dX11_evaluate_97 (by decide) (fun _ => ?_) (fun q => absurd q (by decide))
  refine wp_iinc (nI (s + 1)) dX11_evaluate_121 rfl (by decide) (ndec (by omega)) rfl ?_
  refine wp_aload_n dX11_evaluate_124 rfl ?_
  refine wp_getr (gB G + 303) dX11_evaluate_125 fX11_39 (ka hF 293 (by decide)) (hF.2 _ _) (rra 10 (isK_le (ka hF 293 (by decide))) (fun _ => rfl)) ?_
  refine wp_iload_n dX11_evaluate_128 rfl ?_
  refine wp_iconst (1 : Int32) dX11_evaluate_129 (by decide) ?_
  refine wp_isubv (nI s) dX11_evaluate_130 (nsub (a := s + 1) (b := 1) (by omega)) ?_
  refine wp_aload_n dX11_evaluate_131 rfl ?_
  refine wp_iload dX11_evaluate_132 rfl ?_
  refine wp_aload_n dX11_evaluate_134 rfl ?_
  refine wp_getr (gB G + 303) dX11_evaluate_135 fX11_39 (ka hF 293 (by decide)) (hF.2 _ _) (rra 10 (isK_le (ka hF 293 (by decide))) (fun _ => rfl)) ?_
  refine wp_iload_n dX11_evaluate_138 rfl ?_
  refine wp_iconst (1 : Int32) dX11_evaluate_139 (by decide) ?_
  refine wp_isubv (nI s) dX11_evaluate_140 (nsub (a := s + 1) (b := 1) (by omega)) ?_
  refine wp_laldk (n := 300) s (al m (gB G + 303) s) dX11_evaluate_141 (ka hF 303 (by decide)) (la 303) (vin (by omega) (by decide)) (nIc (by omega)) rfl ?_
  refine wp_aload_n dX11_evaluate_142 rfl ?_
  refine wp_getr (gB G + 303) dX11_evaluate_143 fX11_39 (ka hF 293 (by decide)) (hF.2 _ _) (rra 10 (isK_le (ka hF 293 (by decide))) (fun _ => rfl)) ?_
  refine wp_iload_n dX11_evaluate_146 rfl ?_
  refine wp_laldk (n := 300) (s + 1) (al m (gB G + 303) (s + 1)) dX11_evaluate_147 (ka hF 303 (by decide)) (la 303) (vin (by omega) (by decide)) (nIc (by omega)) rfl ?_
  refine wp_callV (As := [.int (9 : Int32), .long (al m (gB G + 303) s), .long (al m (gB G + 303) (s + 1))]) (S := [.int (nI s), .ref (gB G + 303)]) (b' := (0, 0)) (b := (0, 0)) dX11_evaluate_148 MX11_232 (ka hF 293 (by decide)) rfl rfl rfl rfl (Nat.le_of_ble_eq_true rfl) ?_
  refine WPM.of pX11 (Nat.le_of_ble_eq_true rfl) rfl ?_
  refine wp_iload_n dX11_operate_0 rfl ?_
  refine wp_tableIn (off := 51) 52 dX11_operate_1 (by decide) (by decide) rfl (by decide) ?_
  refine wp_lload_n dX11_operate_52 rfl ?_
  refine wp_lload dX11_operate_53 rfl ?_
  refine wp_ladd dX11_operate_55 ?_
  refine wp_lret dX11_operate_56 rfl ?_
  show WP G (d + 4) (0, 0) μX11_evaluate 151 [.ref (gB G + 293), lvU, .int (nI e), .int (nI (s + 1)), .int (nI i), .int (9 : Int32)] [.long ((al m (gB G + 303) s) + (al m (gB G + 303) (s + 1))), .int (nI s), .ref (gB G + 303)] m _
  refine wp_ldc2 dX11_evaluate_151 kX11_223 ?_
  refine wp_ldc2 dX11_evaluate_154 kX11_221 ?_
  refine wp_callS (As := [.long ((al m (gB G + 303) s) + (al m (gB G + 303) (s + 1))), .long (-1000000000000 : Int64), .long (1000000000000 : Int64)]) (S := [.int (nI s), .ref (gB G + 303)]) (b' := (0, 0)) (b := (0, 0)) dX11_evaluate_157 MX11_117 rfl rfl (Nat.le_of_ble_eq_true rfl) ?_
  refine WPM.of pX11 (Nat.le_of_ble_eq_true rfl) rfl ?_
  refine wp_lload_n dX11_nearest_0 rfl ?_
  refine wp_lload dX11_nearest_1 rfl ?_
  refine wp_lload_n dX11_nearest_3 rfl ?_
  refine wp_minL dX11_nearest_4 AX11_58 (Nat.le_of_ble_eq_true rfl) ?_
  refine wp_maxL dX11_nearest_7 AX11_64 (Nat.le_of_ble_eq_true rfl) ?_
  refine wp_lret dX11_nearest_10 rfl ?_
  show WP G (d + 4) (0, 0) μX11_evaluate 160 [.ref (gB G + 293), lvU, .int (nI e), .int (nI (s + 1)), .int (nI i), .int (9 : Int32)] [.long (lmax (-1000000000000 : Int64) (lmin (1000000000000 : Int64) ((al m (gB G + 303) s) + (al m (gB G + 303) (s + 1))))), .int (nI s), .ref (gB G + 303)] m _
  refine wp_lastk (n := 300) s dX11_evaluate_160 (ka hF 303 (by decide)) (la 303) (vin (by omega) (by decide))  (nIc (by omega)) ?_
  have hF1 := Full_wal (gB G + 303) s (lmax (-1000000000000 : Int64) (lmin (1000000000000 : Int64) ((al m (gB G + 303) s) + (al m (gB G + 303) (s + 1))))) hF
  refine wp_iinc (nI (i + 1)) dX11_evaluate_161 rfl (by decide) (nadd (a := i) (b := 1) (by omega)) rfl ?_
  refine wp_goto 5 dX11_evaluate_164 (by decide) ?_
  refine wp_forget [.ref (gB G + 293), lvU, .int (nI e), .int (nI (s + 1)), .int (nI (i + 1)), lvU] ⟨Or.inl rfl, Or.inr rfl, Or.inl rfl, Or.inl rfl, Or.inl rfl, Or.inr rfl, trivial⟩ ?_
  exact e1

theorem bM_ev10 {G : Cx} {d : Nat} {m : Mm} {Q : Option Value → Mm → Prop} {i s e p : Nat} (hF : Full G m) (hi : i < 500) (hie : i < e) (he : e ≤ 500) (ho : ai m (gB G + 294) (2 * i + 486) = (10 : Int32)) (hs : s + 2 < 300)
    (e1 : WP G (d + 4) (0, 0) μX11_evaluate 5 [.ref (gB G + 293), lvU, .int (nI e), .int (nI (s + 1)), .int (nI (i + 1)), lvU] [] (wal m (gB G + 303) s (lmax (-1000000000000 : Int64) (lmin (1000000000000 : Int64) ((al m (gB G + 303) s) - (al m (gB G + 303) (s + 1)))))) Q) :
    WP G (d + 4) (0, 0) μX11_evaluate 5 [.ref (gB G + 293), lvU, .int (nI e), .int (nI (s + 2)), .int (nI i), lvU] [] m Q := by
  refine wp_iload dX11_evaluate_5 rfl ?_
  refine wp_iload_n dX11_evaluate_7 rfl ?_
  refine wp_icmp_ge 167 dX11_evaluate_8 (by decide) (fun q => absurd (nlt_ hie (by omega)) q) (fun _ => ?_)
  refine wp_aload_n dX11_evaluate_11 rfl ?_
  refine wp_getr (gB G + 294) dX11_evaluate_12 fX11_7 (ka hF 293 (by decide)) (hF.2 _ _) (rra 1 (isK_le (ka hF 293 (by decide))) (fun _ => rfl)) ?_
  refine wp_sipush (486 : Int32) dX11_evaluate_15 (by decide) ?_
  refine wp_iconst (2 : Int32) dX11_evaluate_18 (by decide) ?_
  refine wp_iload dX11_evaluate_19 rfl ?_
  refine wp_imulv (nI (2 * i)) dX11_evaluate_21 (nmul (a := 2) (b := i) (by omega)) ?_
  refine wp_iaddv (nI (2 * i + 486)) dX11_evaluate_22 (nadd (a := 486) (b := 2 * i) (by omega)) ?_
  refine wp_ialdk (n := 1486) (2 * i + 486) (10 : Int32) dX11_evaluate_23 (ka hF 294 (by decide)) (la 294) (vin (by omega) (by decide)) (nIc (by omega)) ho ?_
  refine wp_istore dX11_evaluate_24 (by decide) rfl ?_
  refine wp_iload dX11_evaluate_26 rfl ?_
  refine wp_bipush (8 : Int32) dX11_evaluate_28 (by decide) ?_
  refine wp_icmp_ge 66 dX11_evaluate_30 (by decide) (fun _ => ?_) (fun q => absurd q (by decide))
  refine wp_iload dX11_evaluate_66 rfl ?_
  refine wp_bipush (8 : Int32) dX11_evaluate_68 (by decide) ?_
  refine wp_icmp_ne 93 dX11_evaluate_70 (by decide) (fun _ => ?_) (fun q => absurd q (by decide))
  refine wp_iload dX11_evaluate_93 rfl ?_
  refine wp_bipush (16 : Int32) dX11_evaluate_95 (by decide) ?_
  refine wp_icmp_ne 121 dX11_evaluate_97 (by decide) (fun _ => ?_) (fun q => absurd q (by decide))
  refine wp_iinc (nI (s + 1)) dX11_evaluate_121 rfl (by decide) (ndec (by omega)) rfl ?_
  refine wp_aload_n dX11_evaluate_124 rfl ?_
  refine wp_getr (gB G + 303) dX11_evaluate_125 fX11_39 (ka hF 293 (by decide)) (hF.2 _ _) (rra 10 (isK_le (ka hF 293 (by decide))) (fun _ => rfl)) ?_
  refine wp_iload_n dX11_evaluate_128 rfl ?_
  refine wp_iconst (1 : Int32) dX11_evaluate_129 (by decide) ?_
  refine wp_isubv (nI s) dX11_evaluate_130 (nsub (a := s + 1) (b := 1) (by omega)) ?_
  refine wp_aload_n dX11_evaluate_131 rfl ?_
  refine wp_iload dX11_evaluate_132 rfl ?_
  refine wp_aload_n dX11_evaluate_134 rfl ?_
  refine wp_getr (gB G + 303) dX11_evaluate_135 fX11_39 (ka hF 293 (by decide)) (hF.2 _ _) (rra 10 (isK_le (ka hF 293 (by decide))) (fun _ => rfl)) ?_
  refine wp_iload_n dX11_evaluate_138 rfl ?_
  refine wp_iconst (1 : Int32) dX11_evaluate_139 (by decide) ?_
  refine wp_isubv (nI s) dX11_evaluate_140 (nsub (a := s + 1) (b := 1) (by omega)) ?_
  refine wp_laldk (n := 300) s (al m (gB G + 303) s) dX11_evaluate_141 (ka hF 303 (by decide)) (la 303) (vin (by omega) (by decide)) (nIc (by omega)) rfl ?_
  refine wp_aload_n dX11_evaluate_142 rfl ?_
  refine wp_getr (gB G + 303) dX11_evaluate_143 fX11_39 (ka hF 293 (by decide)) (hF.2 _ _) (rra 10 (isK_le (ka hF 293 (by decide))) (fun _ => rfl)) ?_
  refine wp_iload_n dX11_evaluate_146 rfl ?_
  refine wp_laldk (n := 300) (s + 1) (al m (gB G + 303) (s + 1)) dX11_evaluate_147 (ka hF 303 (by decide)) (la 303) (vin (by omega) (by decide)) (nIc (by omega)) rfl ?_
  refine wp_callV (As := [.int (10 : Int32), .long (al m (gB G + 303) s), .long (al m (gB G + 303) (s + 1))]) (S := [.int (nI s), .ref (gB G + 303)]) (b' := (0, 0)) (b := (0, 0)) dX11_evaluate_148 MX11_232 (ka hF 293 (by decide)) rfl rfl rfl rfl (Nat.le_of_ble_eq_true rfl) ?_
  refine WPM.of pX11 (Nat.le_of_ble_eq_true rfl) rfl ?_
  refine wp_iload_n dX11_operate_0 rfl ?_
  refine wp_tableIn (off := 56) 57 dX11_operate_1 (by decide) (by decide) rfl (by decide) ?_
  refine wp_lload_n dX11_operate_57 rfl ?_
  refine wp_lload dX11_operate_58 rfl ?_
  refine wp_lsub dX11_operate_60 ?_
  refine wp_lret dX11_operate_61 rfl ?_
  show WP G (d + 4) (0, 0) μX11_evaluate 151 [.ref (gB G + 293), lvU, .int (nI e), .int (nI (s + 1)), .int (nI i), .int (10 : Int32)] [.long ((al m (gB G + 303) s) - (al m (gB G + 303) (s + 1))), .int (nI s), .ref (gB G + 303)] m _
  refine wp_ldc2 dX11_evaluate_151 kX11_223 ?_
  refine wp_ldc2 dX11_evaluate_154 kX11_221 ?_
  refine wp_callS (As := [.long ((al m (gB G + 303) s) - (al m (gB G + 303) (s + 1))), .long (-1000000000000 : Int64), .long (1000000000000 : Int64)]) (S := [.int (nI s), .ref (gB G + 303)]) (b' := (0, 0)) (b := (0, 0)) dX11_evaluate_157 MX11_117 rfl rfl (Nat.le_of_ble_eq_true rfl) ?_
  refine WPM.of pX11 (Nat.le_of_ble_eq_true rfl) rfl ?_
  refine wp_lload_n dX11_nearest_0 rfl ?_
  refine wp_lload dX11_nearest_1 rfl ?_
  refine wp_lload_n dX11_nearest_3 rfl ?_
  refine wp_minL dX11_nearest_4 AX11_58 (Nat.le_of_ble_eq_true rfl) ?_
  refine wp_maxL dX11_nearest_7 AX11_64 (Nat.le_of_ble_eq_true rfl) ?_
  refine wp_lret dX11_nearest_10 rfl ?_
  show WP G (d + 4) (0, 0) μX11_evaluate 160 [.ref (gB G + 293), lvU, .int (nI e), .int (nI (s + 1)), .int (nI i), .int (10 : Int32)] [.long (lmax (-1000000000000 : Int64) (lmin (1000000000000 : Int64) ((al m (gB G + 303) s) - (al m (gB G + 303) (s + 1))))), .int (nI s), .ref (gB G + 303)] m _
  refine wp_lastk (n := 300) s dX11_evaluate_160 (ka hF 303 (by decide)) (la 303) (vin (by omega) (by decide))  (nIc (by omega)) ?_
  have hF1 := Full_wal (gB G + 303) s (lmax (-1000000000000 : Int64) (lmin (1000000000000 : Int64) ((al m (gB G + 303) s) - (al m (gB G + 303) (s + 1))))) hF
  refine wp_iinc (nI (i + 1)) dX11_evaluate_161 rfl (by decide) (nadd (a := i) (b := 1) (by omega)) rfl ?_
  refine wp_goto 5 dX11_evaluate_164 (by decide) ?_
  refine wp_forget [.ref (gB G + 293), lvU, .int (nI e), .int (nI (s + 1)), .int (nI (i + 1)), lvU] ⟨Or.inl rfl, Or.inr rfl, Or.inl rfl, Or.inl rfl, Or.inl rfl, Or.inr rfl, trivial⟩ ?_
  exact e1

theorem bM_ev11 {G : Cx} {d : Nat} {m : Mm} {Q : Option Value → Mm → Prop} {i s e p : Nat} (hF : Full G m) (hi : i < 500) (hie : i < e) (he : e ≤ 500) (ho : ai m (gB G + 294) (2 * i + 486) = (11 : Int32)) (hs : s + 2 < 300)
    (g1 : ¬ (al m (gB G + 303) s) = (0 : Int64) → ¬ (labs (al m (gB G + 303) s)) = 0)
    (e1 : (al m (gB G + 303) s) = (0 : Int64) → WP G (d + 4) (0, 0) μX11_evaluate 5 [.ref (gB G + 293), lvU, .int (nI e), .int (nI (s + 1)), .int (nI (i + 1)), lvU] [] (wal m (gB G + 303) s (lmax (-1000000000000 : Int64) (lmin (1000000000000 : Int64) ((al m (gB G + 303) s) * (al m (gB G + 303) (s + 1)))))) Q)
    (e2 : ¬ (al m (gB G + 303) s) = (0 : Int64) → ¬ ((1000000000000 : Int64) / (labs (al m (gB G + 303) s))) < (labs (al m (gB G + 303) (s + 1))) → WP G (d + 4) (0, 0) μX11_evaluate 5 [.ref (gB G + 293), lvU, .int (nI e), .int (nI (s + 1)), .int (nI (i + 1)), lvU] [] (wal m (gB G + 303) s (lmax (-1000000000000 : Int64) (lmin (1000000000000 : Int64) ((al m (gB G + 303) s) * (al m (gB G + 303) (s + 1)))))) Q)
    (e3 : ¬ (al m (gB G + 303) s) = (0 : Int64) → ((1000000000000 : Int64) / (labs (al m (gB G + 303) s))) < (labs (al m (gB G + 303) (s + 1))) → ¬ (al m (gB G + 303) s) < (0 : Int64) → ¬ (al m (gB G + 303) (s + 1)) < (0 : Int64) → WP G (d + 4) (0, 0) μX11_evaluate 5 [.ref (gB G + 293), lvU, .int (nI e), .int (nI (s + 1)), .int (nI (i + 1)), lvU] [] (wal m (gB G + 303) s (lmax (-1000000000000 : Int64) (lmin (1000000000000 : Int64) (1000000000000 : Int64)))) Q)
    (e4 : ¬ (al m (gB G + 303) s) = (0 : Int64) → ((1000000000000 : Int64) / (labs (al m (gB G + 303) s))) < (labs (al m (gB G + 303) (s + 1))) → ¬ (al m (gB G + 303) s) < (0 : Int64) → (al m (gB G + 303) (s + 1)) < (0 : Int64) → WP G (d + 4) (0, 0) μX11_evaluate 5 [.ref (gB G + 293), lvU, .int (nI e), .int (nI (s + 1)), .int (nI (i + 1)), lvU] [] (wal m (gB G + 303) s (lmax (-1000000000000 : Int64) (lmin (1000000000000 : Int64) (-1000000000000 : Int64)))) Q)
    (e5 : ¬ (al m (gB G + 303) s) = (0 : Int64) → ((1000000000000 : Int64) / (labs (al m (gB G + 303) s))) < (labs (al m (gB G + 303) (s + 1))) → (al m (gB G + 303) s) < (0 : Int64) → ¬ (al m (gB G + 303) (s + 1)) < (0 : Int64) → WP G (d + 4) (0, 0) μX11_evaluate 5 [.ref (gB G + 293), lvU, .int (nI e), .int (nI (s + 1)), .int (nI (i + 1)), lvU] [] (wal m (gB G + 303) s (lmax (-1000000000000 : Int64) (lmin (1000000000000 : Int64) (-1000000000000 : Int64)))) Q)
    (e6 : ¬ (al m (gB G + 303) s) = (0 : Int64) → ((1000000000000 : Int64) / (labs (al m (gB G + 303) s))) < (labs (al m (gB G + 303) (s + 1))) → (al m (gB G + 303) s) < (0 : Int64) → (al m (gB G + 303) (s + 1)) < (0 : Int64) → WP G (d + 4) (0, 0) μX11_evaluate 5 [.ref (gB G + 293), lvU, .int (nI e), .int (nI (s + 1)), .int (nI (i + 1)), lvU] [] (wal m (gB G + 303) s (lmax (-1000000000000 : Int64) (lmin (1000000000000 : Int64) (1000000000000 : Int64)))) Q) :
    WP G (d + 4) (0, 0) μX11_evaluate 5 [.ref (gB G + 293), lvU, .int (nI e), .int (nI (s + 2)), .int (nI i), lvU] [] m Q := by
  refine wp_iload dX11_evaluate_5 rfl ?_
  refine wp_iload_n dX11_evaluate_7 rfl ?_
  refine wp_icmp_ge 167 dX11_evaluate_8 (by decide) (fun q => absurd (nlt_ hie (by omega)) q) (fun _ => ?_)
  refine wp_aload_n dX11_evaluate_11 rfl ?_
  refine wp_getr (gB G + 294) dX11_evaluate_12 fX11_7 (ka hF 293 (by decide)) (hF.2 _ _) (rra 1 (isK_le (ka hF 293 (by decide))) (fun _ => rfl)) ?_
  refine wp_sipush (486 : Int32) dX11_evaluate_15 (by decide) ?_
  refine wp_iconst (2 : Int32) dX11_evaluate_18 (by decide) ?_
  refine wp_iload dX11_evaluate_19 rfl ?_
  refine wp_imulv (nI (2 * i)) dX11_evaluate_21 (nmul (a := 2) (b := i) (by omega)) ?_
  refine wp_iaddv (nI (2 * i + 486)) dX11_evaluate_22 (nadd (a := 486) (b := 2 * i) (by omega)) ?_
  refine wp_ialdk (n := 1486) (2 * i + 486) (11 : Int32) dX11_evaluate_23 (ka hF 294 (by decide)) (la 294) (vin (by omega) (by decide)) (nIc (by omega)) ho ?_
  refine wp_istore dX11_evaluate_24 (by decide) rfl ?_
  refine wp_iload dX11_evaluate_26 rfl ?_
  refine wp_bipush (8 : Int32) dX11_evaluate_28 (by decide) ?_
  refine wp_icmp_ge 66 dX11_evaluate_30 (by decide) (fun _ => ?_) (fun q => absurd q (by decide))
  refine wp_iload dX11_evaluate_66 rfl ?_
  refine wp_bipush (8 : Int32) dX11_evaluate_68 (by decide) ?_
  refine wp_icmp_ne 93 dX11_evaluate_70 (by decide) (fun _ => ?_) (fun q => absurd q (by decide))
  refine wp_iload dX11_evaluate_93 rfl ?_
  refine wp_bipush (16 : Int32) dX11_evaluate_95 (by decide) ?_
  refine wp_icmp_ne 121 dX11_evaluate_97 (by decide) (fun _ => ?_) (fun q => absurd q (by decide))
  refine wp_iinc (nI (s + 1)) dX11_evaluate_121 rfl (by decide) (ndec (by omega)) rfl ?_
  refine wp_aload_n dX11_evaluate_124 rfl ?_
  refine wp_getr (gB G + 303) dX11_evaluate_125 fX11_39 (ka hF 293 (by decide)) (hF.2 _ _) (rra 10 (isK_le (ka hF 293 (by decide))) (fun _ => rfl)) ?_
  refine wp_iload_n dX11_evaluate_128 rfl ?_
  refine wp_iconst (1 : Int32) dX11_evaluate_129 (by decide) ?_
  refine wp_isubv (nI s) dX11_evaluate_130 (nsub (a := s + 1) (b := 1) (by omega)) ?_
  refine wp_aload_n dX11_evaluate_131 rfl ?_
  refine wp_iload dX11_evaluate_132 rfl ?_
  refine wp_aload_n dX11_evaluate_134 rfl ?_
  refine wp_getr (gB G + 303) dX11_evaluate_135 fX11_39 (ka hF 293 (by decide)) (hF.2 _ _) (rra 10 (isK_le (ka hF 293 (by decide))) (fun _ => rfl)) ?_
  refine wp_iload_n dX11_evaluate_138 rfl ?_
  refine wp_iconst (1 : Int32) dX11_evaluate_139 (by decide) ?_
  refine wp_isubv (nI s) dX11_evaluate_140 (nsub (a := s + 1) (b := 1) (by omega)) ?_
  refine wp_laldk (n := 300) s (al m (gB G + 303) s) dX11_evaluate_141 (ka hF 303 (by decide)) (la 303) (vin (by omega) (by decide)) (nIc (by omega)) rfl ?_
  refine wp_aload_n dX11_evaluate_142 rfl ?_
  refine wp_getr (gB G + 303) dX11_evaluate_143 fX11_39 (ka hF 293 (by decide)) (hF.2 _ _) (rra 10 (isK_le (ka hF 293 (by decide))) (fun _ => rfl)) ?_
  refine wp_iload_n dX11_evaluate_146 rfl ?_
  refine wp_laldk (n := 300) (s + 1) (al m (gB G + 303) (s + 1)) dX11_evaluate_147 (ka hF 303 (by decide)) (la 303) (vin (by omega) (by decide)) (nIc (by omega)) rfl ?_
  refine wp_callV (As := [.int (11 : Int32), .long (al m (gB G + 303) s), .long (al m (gB G + 303) (s + 1))]) (S := [.int (nI s), .ref (gB G + 303)]) (b' := (0, 0)) (b := (0, 0)) dX11_evaluate_148 MX11_232 (ka hF 293 (by decide)) rfl rfl rfl rfl (Nat.le_of_ble_eq_true rfl) ?_
  refine WPM.of pX11 (Nat.le_of_ble_eq_true rfl) rfl ?_
  refine wp_iload_n dX11_operate_0 rfl ?_
  refine wp_tableIn (off := 61) 62 dX11_operate_1 (by decide) (by decide) rfl (by decide) ?_
  refine wp_aload_n dX11_operate_62 rfl ?_
  refine wp_lload_n dX11_operate_63 rfl ?_
  refine wp_lload dX11_operate_64 rfl ?_
  refine wp_callV (As := [.long (al m (gB G + 303) s), .long (al m (gB G + 303) (s + 1))]) (S := []) (b' := (0, 0)) (b := (0, 0)) dX11_operate_66 MX11_225 (ka hF 293 (by decide)) rfl rfl rfl rfl (Nat.le_of_ble_eq_true rfl) ?_
  refine WPM.of pX11 (Nat.le_of_ble_eq_true rfl) rfl ?_
  refine wp_lload_n dX11_product_0 rfl ?_
  refine wp_lconst (0 : Int64) dX11_product_1 (by decide) ?_
  refine wp_lc_eq 57 dX11_product_2 dX11_product_3 (by decide) (fun q1 => ?_) (fun q2 => ?_)
  · skip
    refine wp_lload_n dX11_product_57 rfl ?_
    refine wp_lload_n dX11_product_58 rfl ?_
    refine wp_lmul dX11_product_59 ?_
    refine wp_lret dX11_product_60 rfl ?_
    show WP G (d + 3) (0, 0) μX11_operate 69 [.ref (gB G + 293), .int (11 : Int32), .long (al m (gB G + 303) s), lvU, .long (al m (gB G + 303) (s + 1)), lvU] [.long ((al m (gB G + 303) s) * (al m (gB G + 303) (s + 1)))] m _
    refine wp_lret dX11_operate_69 rfl ?_
    show WP G (d + 4) (0, 0) μX11_evaluate 151 [.ref (gB G + 293), lvU, .int (nI e), .int (nI (s + 1)), .int (nI i), .int (11 : Int32)] [.long ((al m (gB G + 303) s) * (al m (gB G + 303) (s + 1))), .int (nI s), .ref (gB G + 303)] m _
    refine wp_ldc2 dX11_evaluate_151 kX11_223 ?_
    refine wp_ldc2 dX11_evaluate_154 kX11_221 ?_
    refine wp_callS (As := [.long ((al m (gB G + 303) s) * (al m (gB G + 303) (s + 1))), .long (-1000000000000 : Int64), .long (1000000000000 : Int64)]) (S := [.int (nI s), .ref (gB G + 303)]) (b' := (0, 0)) (b := (0, 0)) dX11_evaluate_157 MX11_117 rfl rfl (Nat.le_of_ble_eq_true rfl) ?_
    refine WPM.of pX11 (Nat.le_of_ble_eq_true rfl) rfl ?_
    refine wp_lload_n dX11_nearest_0 rfl ?_
    refine wp_lload dX11_nearest_1 rfl ?_
    refine wp_lload_n dX11_nearest_3 rfl ?_
    refine wp_minL dX11_nearest_4 AX11_58 (Nat.le_of_ble_eq_true rfl) ?_
    refine wp_maxL dX11_nearest_7 AX11_64 (Nat.le_of_ble_eq_true rfl) ?_
    refine wp_lret dX11_nearest_10 rfl ?_
    show WP G (d + 4) (0, 0) μX11_evaluate 160 [.ref (gB G + 293), lvU, .int (nI e), .int (nI (s + 1)), .int (nI i), .int (11 : Int32)] [.long (lmax (-1000000000000 : Int64) (lmin (1000000000000 : Int64) ((al m (gB G + 303) s) * (al m (gB G + 303) (s + 1))))), .int (nI s), .ref (gB G + 303)] m _
    refine wp_lastk (n := 300) s dX11_evaluate_160 (ka hF 303 (by decide)) (la 303) (vin (by omega) (by decide))  (nIc (by omega)) ?_
    have hF3 := Full_wal (gB G + 303) s (lmax (-1000000000000 : Int64) (lmin (1000000000000 : Int64) ((al m (gB G + 303) s) * (al m (gB G + 303) (s + 1))))) hF
    refine wp_iinc (nI (i + 1)) dX11_evaluate_161 rfl (by decide) (nadd (a := i) (b := 1) (by omega)) rfl ?_
    refine wp_goto 5 dX11_evaluate_164 (by decide) ?_
    refine wp_forget [.ref (gB G + 293), lvU, .int (nI e), .int (nI (s + 1)), .int (nI (i + 1)), lvU] ⟨Or.inl rfl, Or.inr rfl, Or.inl rfl, Or.inl rfl, Or.inl rfl, Or.inr rfl, trivial⟩ ?_
    exact e1 q1
  · skip
    refine wp_lload_n dX11_product_6 rfl ?_
    refine wp_absL dX11_product_7 AX11_218 (Nat.le_of_ble_eq_true rfl) ?_
    refine wp_ldc2 dX11_product_10 kX11_221 ?_
    refine wp_lload_n dX11_product_13 rfl ?_
    refine wp_absL dX11_product_14 AX11_218 (Nat.le_of_ble_eq_true rfl) ?_
    refine wp_ldiv dX11_product_17 (g1 q2) ?_
    refine wp_lc_le 57 dX11_product_18 dX11_product_19 (by decide) (fun q4 => ?_) (fun q5 => ?_)
    · skip
      refine wp_lload_n dX11_product_57 rfl ?_
      refine wp_lload_n dX11_product_58 rfl ?_
      refine wp_lmul dX11_product_59 ?_
      refine wp_lret dX11_product_60 rfl ?_
      show WP G (d + 3) (0, 0) μX11_operate 69 [.ref (gB G + 293), .int (11 : Int32), .long (al m (gB G + 303) s), lvU, .long (al m (gB G + 303) (s + 1)), lvU] [.long ((al m (gB G + 303) s) * (al m (gB G + 303) (s + 1)))] m _
      refine wp_lret dX11_operate_69 rfl ?_
      show WP G (d + 4) (0, 0) μX11_evaluate 151 [.ref (gB G + 293), lvU, .int (nI e), .int (nI (s + 1)), .int (nI i), .int (11 : Int32)] [.long ((al m (gB G + 303) s) * (al m (gB G + 303) (s + 1))), .int (nI s), .ref (gB G + 303)] m _
      refine wp_ldc2 dX11_evaluate_151 kX11_223 ?_
      refine wp_ldc2 dX11_evaluate_154 kX11_221 ?_
      refine wp_callS (As := [.long ((al m (gB G + 303) s) * (al m (gB G + 303) (s + 1))), .long (-1000000000000 : Int64), .long (1000000000000 : Int64)]) (S := [.int (nI s), .ref (gB G + 303)]) (b' := (0, 0)) (b := (0, 0)) dX11_evaluate_157 MX11_117 rfl rfl (Nat.le_of_ble_eq_true rfl) ?_
      refine WPM.of pX11 (Nat.le_of_ble_eq_true rfl) rfl ?_
      refine wp_lload_n dX11_nearest_0 rfl ?_
      refine wp_lload dX11_nearest_1 rfl ?_
      refine wp_lload_n dX11_nearest_3 rfl ?_
      refine wp_minL dX11_nearest_4 AX11_58 (Nat.le_of_ble_eq_true rfl) ?_
      refine wp_maxL dX11_nearest_7 AX11_64 (Nat.le_of_ble_eq_true rfl) ?_
      refine wp_lret dX11_nearest_10 rfl ?_
      show WP G (d + 4) (0, 0) μX11_evaluate 160 [.ref (gB G + 293), lvU, .int (nI e), .int (nI (s + 1)), .int (nI i), .int (11 : Int32)] [.long (lmax (-1000000000000 : Int64) (lmin (1000000000000 : Int64) ((al m (gB G + 303) s) * (al m (gB G + 303) (s + 1))))), .int (nI s), .ref (gB G + 303)] m _
      refine wp_lastk (n := 300) s dX11_evaluate_160 (ka hF 303 (by decide)) (la 303) (vin (by omega) (by decide))  (nIc (by omega)) ?_
      have hF6 := Full_wal (gB G + 303) s (lmax (-1000000000000 : Int64) (lmin (1000000000000 : Int64) ((al m (gB G + 303) s) * (al m (gB G + 303) (s + 1))))) hF
      refine wp_iinc (nI (i + 1)) dX11_evaluate_161 rfl (by decide) (nadd (a := i) (b := 1) (by omega)) rfl ?_
      refine wp_goto 5 dX11_evaluate_164 (by decide) ?_
      refine wp_forget [.ref (gB G + 293), lvU, .int (nI e), .int (nI (s + 1)), .int (nI (i + 1)), lvU] ⟨Or.inl rfl, Or.inr rfl, Or.inl rfl, Or.inl rfl, Or.inl rfl, Or.inr rfl, trivial⟩ ?_
      exact e2 q2 q4
    · skip
      refine wp_lload_n dX11_product_22 rfl ?_
      refine wp_lconst (0 : Int64) dX11_product_23 (by decide) ?_
      refine wp_lc_ge 32 dX11_product_24 dX11_product_25 (by decide) (fun q7 => ?_) (fun q8 => ?_)
      · skip
        refine wp_iconst (0 : Int32) dX11_product_32 (by decide) ?_
        refine wp_lload_n dX11_product_33 rfl ?_
        refine wp_lconst (0 : Int64) dX11_product_34 (by decide) ?_
        refine wp_lc_ge 43 dX11_product_35 dX11_product_36 (by decide) (fun q9 => ?_) (fun q10 => ?_)
        · skip
          refine wp_iconst (0 : Int32) dX11_product_43 (by decide) ?_
          refine wp_icmp_ne 53 dX11_product_44 (by decide) (fun q => absurd (by decide) q) (fun _ => ?_)
          refine wp_ldc2 dX11_product_47 kX11_221 ?_
          refine wp_goto 56 dX11_product_50 (by decide) ?_
          refine wp_lret dX11_product_56 rfl ?_
          show WP G (d + 3) (0, 0) μX11_operate 69 [.ref (gB G + 293), .int (11 : Int32), .long (al m (gB G + 303) s), lvU, .long (al m (gB G + 303) (s + 1)), lvU] [.long (1000000000000 : Int64)] m _
          refine wp_lret dX11_operate_69 rfl ?_
          show WP G (d + 4) (0, 0) μX11_evaluate 151 [.ref (gB G + 293), lvU, .int (nI e), .int (nI (s + 1)), .int (nI i), .int (11 : Int32)] [.long (1000000000000 : Int64), .int (nI s), .ref (gB G + 303)] m _
          refine wp_ldc2 dX11_evaluate_151 kX11_223 ?_
          refine wp_ldc2 dX11_evaluate_154 kX11_221 ?_
          refine wp_callS (As := [.long (1000000000000 : Int64), .long (-1000000000000 : Int64), .long (1000000000000 : Int64)]) (S := [.int (nI s), .ref (gB G + 303)]) (b' := (0, 0)) (b := (0, 0)) dX11_evaluate_157 MX11_117 rfl rfl (Nat.le_of_ble_eq_true rfl) ?_
          refine WPM.of pX11 (Nat.le_of_ble_eq_true rfl) rfl ?_
          refine wp_lload_n dX11_nearest_0 rfl ?_
          refine wp_lload dX11_nearest_1 rfl ?_
          refine wp_lload_n dX11_nearest_3 rfl ?_
          refine wp_minL dX11_nearest_4 AX11_58 (Nat.le_of_ble_eq_true rfl) ?_
          refine wp_maxL dX11_nearest_7 AX11_64 (Nat.le_of_ble_eq_true rfl) ?_
          refine wp_lret dX11_nearest_10 rfl ?_
          show WP G (d + 4) (0, 0) μX11_evaluate 160 [.ref (gB G + 293), lvU, .int (nI e), .int (nI (s + 1)), .int (nI i), .int (11 : Int32)] [.long (lmax (-1000000000000 : Int64) (lmin (1000000000000 : Int64) (1000000000000 : Int64))), .int (nI s), .ref (gB G + 303)] m _
          refine wp_lastk (n := 300) s dX11_evaluate_160 (ka hF 303 (by decide)) (la 303) (vin (by omega) (by decide))  (nIc (by omega)) ?_
          have hF11 := Full_wal (gB G + 303) s (lmax (-1000000000000 : Int64) (lmin (1000000000000 : Int64) (1000000000000 : Int64))) hF
          refine wp_iinc (nI (i + 1)) dX11_evaluate_161 rfl (by decide) (nadd (a := i) (b := 1) (by omega)) rfl ?_
          refine wp_goto 5 dX11_evaluate_164 (by decide) ?_
          refine wp_forget [.ref (gB G + 293), lvU, .int (nI e), .int (nI (s + 1)), .int (nI (i + 1)), lvU] ⟨Or.inl rfl, Or.inr rfl, Or.inl rfl, Or.inl rfl, Or.inl rfl, Or.inr rfl, trivial⟩ ?_
          exact e3 q2 q5 q7 q9
        · skip
          refine wp_iconst (1 : Int32) dX11_product_39 (by decide) ?_
          refine wp_goto 44 dX11_product_40 (by decide) ?_
          refine wp_icmp_ne 53 dX11_product_44 (by decide) (fun _ => ?_) (fun q => absurd q (by decide))
          refine wp_ldc2 dX11_product_53 kX11_223 ?_
          refine wp_lret dX11_product_56 rfl ?_
          show WP G (d + 3) (0, 0) μX11_operate 69 [.ref (gB G + 293), .int (11 : Int32), .long (al m (gB G + 303) s), lvU, .long (al m (gB G + 303) (s + 1)), lvU] [.long (-1000000000000 : Int64)] m _
          refine wp_lret dX11_operate_69 rfl ?_
          show WP G (d + 4) (0, 0) μX11_evaluate 151 [.ref (gB G + 293), lvU, .int (nI e), .int (nI (s + 1)), .int (nI i), .int (11 : Int32)] [.long (-1000000000000 : Int64), .int (nI s), .ref (gB G + 303)] m _
          refine wp_ldc2 dX11_evaluate_151 kX11_223 ?_
          refine wp_ldc2 dX11_evaluate_154 kX11_221 ?_
          refine wp_callS (As := [.long (-1000000000000 : Int64), .long (-1000000000000 : Int64), .long (1000000000000 : Int64)]) (S := [.int (nI s), .ref (gB G + 303)]) (b' := (0, 0)) (b := (0, 0)) dX11_evaluate_157 MX11_117 rfl rfl (Nat.le_of_ble_eq_true rfl) ?_
          refine WPM.of pX11 (Nat.le_of_ble_eq_true rfl) rfl ?_
          refine wp_lload_n dX11_nearest_0 rfl ?_
          refine wp_lload dX11_nearest_1 rfl ?_
          refine wp_lload_n dX11_nearest_3 rfl ?_
          refine wp_minL dX11_nearest_4 AX11_58 (Nat.le_of_ble_eq_true rfl) ?_
          refine wp_maxL dX11_nearest_7 AX11_64 (Nat.le_of_ble_eq_true rfl) ?_
          refine wp_lret dX11_nearest_10 rfl ?_
          show WP G (d + 4) (0, 0) μX11_evaluate 160 [.ref (gB G + 293), lvU, .int (nI e), .int (nI (s + 1)), .int (nI i), .int (11 : Int32)] [.long (lmax (-1000000000000 : Int64) (lmin (1000000000000 : Int64) (-1000000000000 : Int64))), .int (nI s), .ref (gB G + 303)] m _
          refine wp_lastk (n := 300) s dX11_evaluate_160 (ka hF 303 (by decide)) (la 303) (vin (by omega) (by decide))  (nIc (by omega)) ?_
          have hF12 := Full_wal (gB G + 303) s (lmax (-1000000000000 : Int64) (lmin (1000000000000 : Int64) (-1000000000000 : Int64))) hF
          refine wp_iinc (nI (i + 1)) dX11_evaluate_161 rfl (by decide) (nadd (a := i) (b := 1) (by omega)) rfl ?_
          refine wp_goto 5 dX11_evaluate_164 (by decide) ?_
          refine wp_forget [.ref (gB G + 293), lvU, .int (nI e), .int (nI (s + 1)), .int (nI (i + 1)), lvU] ⟨Or.inl rfl, Or.inr rfl, Or.inl rfl, Or.inl rfl, Or.inl rfl, Or.inr rfl, trivial⟩ ?_
          exact e4 q2 q5 q7 q10
      · skip
        refine wp_iconst (1 : Int32) dX11_product_28 (by decide) ?_
        refine wp_goto 33 dX11_product_29 (by decide) ?_
        refine wp_lload_n dX11_product_33 rfl ?_
        refine wp_lconst (0 : Int64) dX11_product_34 (by decide) ?_
        refine wp_lc_ge 43 dX11_product_35 dX11_product_36 (by decide) (fun q13 => ?_) (fun q14 => ?_)
        · skip
          refine wp_iconst (0 : Int32) dX11_product_43 (by decide) ?_
          refine wp_icmp_ne 53 dX11_product_44 (by decide) (fun _ => ?_) (fun q => absurd q (by decide))
          refine wp_ldc2 dX11_product_53 kX11_223 ?_
          refine wp_lret dX11_product_56 rfl ?_
          show WP G (d + 3) (0, 0) μX11_operate 69 [.ref (gB G + 293), .int (11 : Int32), .long (al m (gB G + 303) s), lvU, .long (al m (gB G + 303) (s + 1)), lvU] [.long (-1000000000000 : Int64)] m _
          refine wp_lret dX11_operate_69 rfl ?_
          show WP G (d + 4) (0, 0) μX11_evaluate 151 [.ref (gB G + 293), lvU, .int (nI e), .int (nI (s + 1)), .int (nI i), .int (11 : Int32)] [.long (-1000000000000 : Int64), .int (nI s), .ref (gB G + 303)] m _
          refine wp_ldc2 dX11_evaluate_151 kX11_223 ?_
          refine wp_ldc2 dX11_evaluate_154 kX11_221 ?_
          refine wp_callS (As := [.long (-1000000000000 : Int64), .long (-1000000000000 : Int64), .long (1000000000000 : Int64)]) (S := [.int (nI s), .ref (gB G + 303)]) (b' := (0, 0)) (b := (0, 0)) dX11_evaluate_157 MX11_117 rfl rfl (Nat.le_of_ble_eq_true rfl) ?_
          refine WPM.of pX11 (Nat.le_of_ble_eq_true rfl) rfl ?_
          refine wp_lload_n dX11_nearest_0 rfl ?_
          refine wp_lload dX11_nearest_1 rfl ?_
          refine wp_lload_n dX11_nearest_3 rfl ?_
          refine wp_minL dX11_nearest_4 AX11_58 (Nat.le_of_ble_eq_true rfl) ?_
          refine wp_maxL dX11_nearest_7 AX11_64 (Nat.le_of_ble_eq_true rfl) ?_
          refine wp_lret dX11_nearest_10 rfl ?_
          show WP G (d + 4) (0, 0) μX11_evaluate 160 [.ref (gB G + 293), lvU, .int (nI e), .int (nI (s + 1)), .int (nI i), .int (11 : Int32)] [.long (lmax (-1000000000000 : Int64) (lmin (1000000000000 : Int64) (-1000000000000 : Int64))), .int (nI s), .ref (gB G + 303)] m _
          refine wp_lastk (n := 300) s dX11_evaluate_160 (ka hF 303 (by decide)) (la 303) (vin (by omega) (by decide))  (nIc (by omega)) ?_
          have hF15 := Full_wal (gB G + 303) s (lmax (-1000000000000 : Int64) (lmin (1000000000000 : Int64) (-1000000000000 : Int64))) hF
          refine wp_iinc (nI (i + 1)) dX11_evaluate_161 rfl (by decide) (nadd (a := i) (b := 1) (by omega)) rfl ?_
          refine wp_goto 5 dX11_evaluate_164 (by decide) ?_
          refine wp_forget [.ref (gB G + 293), lvU, .int (nI e), .int (nI (s + 1)), .int (nI (i + 1)), lvU] ⟨Or.inl rfl, Or.inr rfl, Or.inl rfl, Or.inl rfl, Or.inl rfl, Or.inr rfl, trivial⟩ ?_
          exact e5 q2 q5 q8 q13
        · skip
          refine wp_iconst (1 : Int32) dX11_product_39 (by decide) ?_
          refine wp_goto 44 dX11_product_40 (by decide) ?_
          refine wp_icmp_ne 53 dX11_product_44 (by decide) (fun q => absurd (by decide) q) (fun _ => ?_)
          refine wp_ldc2 dX11_product_47 kX11_221 ?_
          refine wp_goto 56 dX11_product_50 (by decide) ?_
          refine wp_lret dX11_product_56 rfl ?_
          show WP G (d + 3) (0, 0) μX11_operate 69 [.ref (gB G + 293), .int (11 : Int32), .long (al m (gB G + 303) s), lvU, .long (al m (gB G + 303) (s + 1)), lvU] [.long (1000000000000 : Int64)] m _
          refine wp_lret dX11_operate_69 rfl ?_
          show WP G (d + 4) (0, 0) μX11_evaluate 151 [.ref (gB G + 293), lvU, .int (nI e), .int (nI (s + 1)), .int (nI i), .int (11 : Int32)] [.long (1000000000000 : Int64), .int (nI s), .ref (gB G + 303)] m _
          refine wp_ldc2 dX11_evaluate_151 kX11_223 ?_
          refine wp_ldc2 dX11_evaluate_154 kX11_221 ?_
          refine wp_callS (As := [.long (1000000000000 : Int64), .long (-1000000000000 : Int64), .long (1000000000000 : Int64)]) (S := [.int (nI s), .ref (gB G + 303)]) (b' := (0, 0)) (b := (0, 0)) dX11_evaluate_157 MX11_117 rfl rfl (Nat.le_of_ble_eq_true rfl) ?_
          refine WPM.of pX11 (Nat.le_of_ble_eq_true rfl) rfl ?_
          refine wp_lload_n dX11_nearest_0 rfl ?_
          refine wp_lload dX11_nearest_1 rfl ?_
          refine wp_lload_n dX11_nearest_3 rfl ?_
          refine wp_minL dX11_nearest_4 AX11_58 (Nat.le_of_ble_eq_true rfl) ?_
          refine wp_maxL dX11_nearest_7 AX11_64 (Nat.le_of_ble_eq_true rfl) ?_
          refine wp_lret dX11_nearest_10 rfl ?_
          show WP G (d + 4) (0, 0) μX11_evaluate 160 [.ref (gB G + 293), lvU, .int (nI e), .int (nI (s + 1)), .int (nI i), .int (11 : Int32)] [.long (lmax (-1000000000000 : Int64) (lmin (1000000000000 : Int64) (1000000000000 : Int64))), .int (nI s), .ref (gB G + 303)] m _
          refine wp_lastk (n := 300) s dX11_evaluate_160 (ka hF 303 (by decide)) (la 303) (vin (by omega) (by decide))  (nIc (by omega)) ?_
          have hF16 := Full_wal (gB G + 303) s (lmax (-1000000000000 : Int64) (lmin (1000000000000 : Int64) (1000000000000 : Int64))) hF
          refine wp_iinc (nI (i + 1)) dX11_evaluate_161 rfl (by decide) (nadd (a := i) (b := 1) (by omega)) rfl ?_
          refine wp_goto 5 dX11_evaluate_164 (by decide) ?_
          refine wp_forget [.ref (gB G + 293), lvU, .int (nI e), .int (nI (s + 1)), .int (nI (i + 1)), lvU] ⟨Or.inl rfl, Or.inr rfl, Or.inl rfl, Or.inl rfl, Or.inl rfl, Or.inr rfl, trivial⟩ ?_
          exact e6 q2 q5 q8 q14

theorem bM_ev12 {G : Cx} {d : Nat} {m : Mm} {Q : Option Value → Mm → Prop} {i s e p : Nat} (hF : Full G m) (hi : i < 500) (hie : i < e) (he : e ≤ 500) (ho : ai m (gB G + 294) (2 * i + 486) = (12 : Int32)) (hs : s + 2 < 300)
    (g1 : ¬ (al m (gB G + 303) (s + 1)) = (0 : Int64) → ¬ (al m (gB G + 303) (s + 1)) = 0)
    (e1 : ¬ (al m (gB G + 303) (s + 1)) = (0 : Int64) → WP G (d + 4) (0, 0) μX11_evaluate 5 [.ref (gB G + 293), lvU, .int (nI e), .int (nI (s + 1)), .int (nI (i + 1)), lvU] [] (wal m (gB G + 303) s (lmax (-1000000000000 : Int64) (lmin (1000000000000 : Int64) ((al m (gB G + 303) s) / (al m (gB G + 303) (s + 1)))))) Q)
    (e2 : (al m (gB G + 303) (s + 1)) = (0 : Int64) → WP G (d + 4) (0, 0) μX11_evaluate 5 [.ref (gB G + 293), lvU, .int (nI e), .int (nI (s + 1)), .int (nI (i + 1)), lvU] [] (wal m (gB G + 303) s (lmax (-1000000000000 : Int64) (lmin (1000000000000 : Int64) (0 : Int64)))) Q) :
    WP G (d + 4) (0, 0) μX11_evaluate 5 [.ref (gB G + 293), lvU, .int (nI e), .int (nI (s + 2)), .int (nI i), lvU] [] m Q := by
  refine wp_iload dX11_evaluate_5 rfl ?_
  refine wp_iload_n dX11_evaluate_7 rfl ?_
  refine wp_icmp_ge 167 dX11_evaluate_8 (by decide) (fun q => absurd (nlt_ hie (by omega)) q) (fun _ => ?_)
  refine wp_aload_n dX11_evaluate_11 rfl ?_
  refine wp_getr (gB G + 294) dX11_evaluate_12 fX11_7 (ka hF 293 (by decide)) (hF.2 _ _) (rra 1 (isK_le (ka hF 293 (by decide))) (fun _ => rfl)) ?_
  refine wp_sipush (486 : Int32) dX11_evaluate_15 (by decide) ?_
  refine wp_iconst (2 : Int32) dX11_evaluate_18 (by decide) ?_
  refine wp_iload dX11_evaluate_19 rfl ?_
  refine wp_imulv (nI (2 * i)) dX11_evaluate_21 (nmul (a := 2) (b := i) (by omega)) ?_
  refine wp_iaddv (nI (2 * i + 486)) dX11_evaluate_22 (nadd (a := 486) (b := 2 * i) (by omega)) ?_
  refine wp_ialdk (n := 1486) (2 * i + 486) (12 : Int32) dX11_evaluate_23 (ka hF 294 (by decide)) (la 294) (vin (by omega) (by decide)) (nIc (by omega)) ho ?_
  refine wp_istore dX11_evaluate_24 (by decide) rfl ?_
  refine wp_iload dX11_evaluate_26 rfl ?_
  refine wp_bipush (8 : Int32) dX11_evaluate_28 (by decide) ?_
  refine wp_icmp_ge 66 dX11_evaluate_30 (by decide) (fun _ => ?_) (fun q => absurd q (by decide))
  refine wp_iload dX11_evaluate_66 rfl ?_
  refine wp_bipush (8 : Int32) dX11_evaluate_68 (by decide) ?_
  refine wp_icmp_ne 93 dX11_evaluate_70 (by decide) (fun _ => ?_) (fun q => absurd q (by decide))
  refine wp_iload dX11_evaluate_93 rfl ?_
  refine wp_bipush (16 : Int32) dX11_evaluate_95 (by decide) ?_
  refine wp_icmp_ne 121 dX11_evaluate_97 (by decide) (fun _ => ?_) (fun q => absurd q (by decide))
  refine wp_iinc (nI (s + 1)) dX11_evaluate_121 rfl (by decide) (ndec (by omega)) rfl ?_
  refine wp_aload_n dX11_evaluate_124 rfl ?_
  refine wp_getr (gB G + 303) dX11_evaluate_125 fX11_39 (ka hF 293 (by decide)) (hF.2 _ _) (rra 10 (isK_le (ka hF 293 (by decide))) (fun _ => rfl)) ?_
  refine wp_iload_n dX11_evaluate_128 rfl ?_
  refine wp_iconst (1 : Int32) dX11_evaluate_129 (by decide) ?_
  refine wp_isubv (nI s) dX11_evaluate_130 (nsub (a := s + 1) (b := 1) (by omega)) ?_
  refine wp_aload_n dX11_evaluate_131 rfl ?_
  refine wp_iload dX11_evaluate_132 rfl ?_
  refine wp_aload_n dX11_evaluate_134 rfl ?_
  refine wp_getr (gB G + 303) dX11_evaluate_135 fX11_39 (ka hF 293 (by decide)) (hF.2 _ _) (rra 10 (isK_le (ka hF 293 (by decide))) (fun _ => rfl)) ?_
  refine wp_iload_n dX11_evaluate_138 rfl ?_
  refine wp_iconst (1 : Int32) dX11_evaluate_139 (by decide) ?_
  refine wp_isubv (nI s) dX11_evaluate_140 (nsub (a := s + 1) (b := 1) (by omega)) ?_
  refine wp_laldk (n := 300) s (al m (gB G + 303) s) dX11_evaluate_141 (ka hF 303 (by decide)) (la 303) (vin (by omega) (by decide)) (nIc (by omega)) rfl ?_
  refine wp_aload_n dX11_evaluate_142 rfl ?_
  refine wp_getr (gB G + 303) dX11_evaluate_143 fX11_39 (ka hF 293 (by decide)) (hF.2 _ _) (rra 10 (isK_le (ka hF 293 (by decide))) (fun _ => rfl)) ?_
  refine wp_iload_n dX11_evaluate_146 rfl ?_
  refine wp_laldk (n := 300) (s + 1) (al m (gB G + 303) (s + 1)) dX11_evaluate_147 (ka hF 303 (by decide)) (la 303) (vin (by omega) (by decide)) (nIc (by omega)) rfl ?_
  refine wp_callV (As := [.int (12 : Int32), .long (al m (gB G + 303) s), .long (al m (gB G + 303) (s + 1))]) (S := [.int (nI s), .ref (gB G + 303)]) (b' := (0, 0)) (b := (0, 0)) dX11_evaluate_148 MX11_232 (ka hF 293 (by decide)) rfl rfl rfl rfl (Nat.le_of_ble_eq_true rfl) ?_
  refine WPM.of pX11 (Nat.le_of_ble_eq_true rfl) rfl ?_
  refine wp_iload_n dX11_operate_0 rfl ?_
  refine wp_tableIn (off := 69) 70 dX11_operate_1 (by decide) (by decide) rfl (by decide) ?_
  refine wp_lload dX11_operate_70 rfl ?_
  refine wp_lconst (0 : Int64) dX11_operate_72 (by decide) ?_
  refine wp_lc_ne 81 dX11_operate_73 dX11_operate_74 (by decide) (fun q1 => ?_) (fun q2 => ?_)
  · skip
    refine wp_lload_n dX11_operate_81 rfl ?_
    refine wp_lload dX11_operate_82 rfl ?_
    refine wp_ldiv dX11_operate_84 (g1 q1) ?_
    refine wp_lret dX11_operate_85 rfl ?_
    show WP G (d + 4) (0, 0) μX11_evaluate 151 [.ref (gB G + 293), lvU, .int (nI e), .int (nI (s + 1)), .int (nI i), .int (12 : Int32)] [.long ((al m (gB G + 303) s) / (al m (gB G + 303) (s + 1))), .int (nI s), .ref (gB G + 303)] m _
    refine wp_ldc2 dX11_evaluate_151 kX11_223 ?_
    refine wp_ldc2 dX11_evaluate_154 kX11_221 ?_
    refine wp_callS (As := [.long ((al m (gB G + 303) s) / (al m (gB G + 303) (s + 1))), .long (-1000000000000 : Int64), .long (1000000000000 : Int64)]) (S := [.int (nI s), .ref (gB G + 303)]) (b' := (0, 0)) (b := (0, 0)) dX11_evaluate_157 MX11_117 rfl rfl (Nat.le_of_ble_eq_true rfl) ?_
    refine WPM.of pX11 (Nat.le_of_ble_eq_true rfl) rfl ?_
    refine wp_lload_n dX11_nearest_0 rfl ?_
    refine wp_lload dX11_nearest_1 rfl ?_
    refine wp_lload_n dX11_nearest_3 rfl ?_
    refine wp_minL dX11_nearest_4 AX11_58 (Nat.le_of_ble_eq_true rfl) ?_
    refine wp_maxL dX11_nearest_7 AX11_64 (Nat.le_of_ble_eq_true rfl) ?_
    refine wp_lret dX11_nearest_10 rfl ?_
    show WP G (d + 4) (0, 0) μX11_evaluate 160 [.ref (gB G + 293), lvU, .int (nI e), .int (nI (s + 1)), .int (nI i), .int (12 : Int32)] [.long (lmax (-1000000000000 : Int64) (lmin (1000000000000 : Int64) ((al m (gB G + 303) s) / (al m (gB G + 303) (s + 1))))), .int (nI s), .ref (gB G + 303)] m _
    refine wp_lastk (n := 300) s dX11_evaluate_160 (ka hF 303 (by decide)) (la 303) (vin (by omega) (by decide))  (nIc (by omega)) ?_
    have hF3 := Full_wal (gB G + 303) s (lmax (-1000000000000 : Int64) (lmin (1000000000000 : Int64) ((al m (gB G + 303) s) / (al m (gB G + 303) (s + 1))))) hF
    refine wp_iinc (nI (i + 1)) dX11_evaluate_161 rfl (by decide) (nadd (a := i) (b := 1) (by omega)) rfl ?_
    refine wp_goto 5 dX11_evaluate_164 (by decide) ?_
    refine wp_forget [.ref (gB G + 293), lvU, .int (nI e), .int (nI (s + 1)), .int (nI (i + 1)), lvU] ⟨Or.inl rfl, Or.inr rfl, Or.inl rfl, Or.inl rfl, Or.inl rfl, Or.inr rfl, trivial⟩ ?_
    exact e1 q1
  · skip
    refine wp_lconst (0 : Int64) dX11_operate_77 (by decide) ?_
    refine wp_goto 85 dX11_operate_78 (by decide) ?_
    refine wp_lret dX11_operate_85 rfl ?_
    show WP G (d + 4) (0, 0) μX11_evaluate 151 [.ref (gB G + 293), lvU, .int (nI e), .int (nI (s + 1)), .int (nI i), .int (12 : Int32)] [.long (0 : Int64), .int (nI s), .ref (gB G + 303)] m _
    refine wp_ldc2 dX11_evaluate_151 kX11_223 ?_
    refine wp_ldc2 dX11_evaluate_154 kX11_221 ?_
    refine wp_callS (As := [.long (0 : Int64), .long (-1000000000000 : Int64), .long (1000000000000 : Int64)]) (S := [.int (nI s), .ref (gB G + 303)]) (b' := (0, 0)) (b := (0, 0)) dX11_evaluate_157 MX11_117 rfl rfl (Nat.le_of_ble_eq_true rfl) ?_
    refine WPM.of pX11 (Nat.le_of_ble_eq_true rfl) rfl ?_
    refine wp_lload_n dX11_nearest_0 rfl ?_
    refine wp_lload dX11_nearest_1 rfl ?_
    refine wp_lload_n dX11_nearest_3 rfl ?_
    refine wp_minL dX11_nearest_4 AX11_58 (Nat.le_of_ble_eq_true rfl) ?_
    refine wp_maxL dX11_nearest_7 AX11_64 (Nat.le_of_ble_eq_true rfl) ?_
    refine wp_lret dX11_nearest_10 rfl ?_
    show WP G (d + 4) (0, 0) μX11_evaluate 160 [.ref (gB G + 293), lvU, .int (nI e), .int (nI (s + 1)), .int (nI i), .int (12 : Int32)] [.long (lmax (-1000000000000 : Int64) (lmin (1000000000000 : Int64) (0 : Int64))), .int (nI s), .ref (gB G + 303)] m _
    refine wp_lastk (n := 300) s dX11_evaluate_160 (ka hF 303 (by decide)) (la 303) (vin (by omega) (by decide))  (nIc (by omega)) ?_
    have hF4 := Full_wal (gB G + 303) s (lmax (-1000000000000 : Int64) (lmin (1000000000000 : Int64) (0 : Int64))) hF
    refine wp_iinc (nI (i + 1)) dX11_evaluate_161 rfl (by decide) (nadd (a := i) (b := 1) (by omega)) rfl ?_
    refine wp_goto 5 dX11_evaluate_164 (by decide) ?_
    refine wp_forget [.ref (gB G + 293), lvU, .int (nI e), .int (nI (s + 1)), .int (nI (i + 1)), lvU] ⟨Or.inl rfl, Or.inr rfl, Or.inl rfl, Or.inl rfl, Or.inl rfl, Or.inr rfl, trivial⟩ ?_
    exact e2 q2

theorem bM_ev13 {G : Cx} {d : Nat} {m : Mm} {Q : Option Value → Mm → Prop} {i s e p : Nat} (hF : Full G m) (hi : i < 500) (hie : i < e) (he : e ≤ 500) (ho : ai m (gB G + 294) (2 * i + 486) = (13 : Int32)) (hs : s + 2 < 300)
    (e1 : ¬ (al m (gB G + 303) s) < (al m (gB G + 303) (s + 1)) → WP G (d + 4) (0, 0) μX11_evaluate 5 [.ref (gB G + 293), lvU, .int (nI e), .int (nI (s + 1)), .int (nI (i + 1)), lvU] [] (wal m (gB G + 303) s (lmax (-1000000000000 : Int64) (lmin (1000000000000 : Int64) (0 : Int64)))) Q)
    (e2 : (al m (gB G + 303) s) < (al m (gB G + 303) (s + 1)) → WP G (d + 4) (0, 0) μX11_evaluate 5 [.ref (gB G + 293), lvU, .int (nI e), .int (nI (s + 1)), .int (nI (i + 1)), lvU] [] (wal m (gB G + 303) s (lmax (-1000000000000 : Int64) (lmin (1000000000000 : Int64) (1 : Int64)))) Q) :
    WP G (d + 4) (0, 0) μX11_evaluate 5 [.ref (gB G + 293), lvU, .int (nI e), .int (nI (s + 2)), .int (nI i), lvU] [] m Q := by
  refine wp_iload dX11_evaluate_5 rfl ?_
  refine wp_iload_n dX11_evaluate_7 rfl ?_
  refine wp_icmp_ge 167 dX11_evaluate_8 (by decide) (fun q => absurd (nlt_ hie (by omega)) q) (fun _ => ?_)
  refine wp_aload_n dX11_evaluate_11 rfl ?_
  refine wp_getr (gB G + 294) dX11_evaluate_12 fX11_7 (ka hF 293 (by decide)) (hF.2 _ _) (rra 1 (isK_le (ka hF 293 (by decide))) (fun _ => rfl)) ?_
  refine wp_sipush (486 : Int32) dX11_evaluate_15 (by decide) ?_
  refine wp_iconst (2 : Int32) dX11_evaluate_18 (by decide) ?_
  refine wp_iload dX11_evaluate_19 rfl ?_
  refine wp_imulv (nI (2 * i)) dX11_evaluate_21 (nmul (a := 2) (b := i) (by omega)) ?_
  refine wp_iaddv (nI (2 * i + 486)) dX11_evaluate_22 (nadd (a := 486) (b := 2 * i) (by omega)) ?_
  refine wp_ialdk (n := 1486) (2 * i + 486) (13 : Int32) dX11_evaluate_23 (ka hF 294 (by decide)) (la 294) (vin (by omega) (by decide)) (nIc (by omega)) ho ?_
  refine wp_istore dX11_evaluate_24 (by decide) rfl ?_
  refine wp_iload dX11_evaluate_26 rfl ?_
  refine wp_bipush (8 : Int32) dX11_evaluate_28 (by decide) ?_
  refine wp_icmp_ge 66 dX11_evaluate_30 (by decide) (fun _ => ?_) (fun q => absurd q (by decide))
  refine wp_iload dX11_evaluate_66 rfl ?_
  refine wp_bipush (8 : Int32) dX11_evaluate_68 (by decide) ?_
  refine wp_icmp_ne 93 dX11_evaluate_70 (by decide) (fun _ => ?_) (fun q => absurd q (by decide))
  refine wp_iload dX11_evaluate_93 rfl ?_
  refine wp_bipush (16 : Int32) dX11_evaluate_95 (by decide) ?_
  refine wp_icmp_ne 121 dX11_evaluate_97 (by decide) (fun _ => ?_) (fun q => absurd q (by decide))
  refine wp_iinc (nI (s + 1)) dX11_evaluate_121 rfl (by decide) (ndec (by omega)) rfl ?_
  refine wp_aload_n dX11_evaluate_124 rfl ?_
  refine wp_getr (gB G + 303) dX11_evaluate_125 fX11_39 (ka hF 293 (by decide)) (hF.2 _ _) (rra 10 (isK_le (ka hF 293 (by decide))) (fun _ => rfl)) ?_
  refine wp_iload_n dX11_evaluate_128 rfl ?_
  refine wp_iconst (1 : Int32) dX11_evaluate_129 (by decide) ?_
  refine wp_isubv (nI s) dX11_evaluate_130 (nsub (a := s + 1) (b := 1) (by omega)) ?_
  refine wp_aload_n dX11_evaluate_131 rfl ?_
  refine wp_iload dX11_evaluate_132 rfl ?_
  refine wp_aload_n dX11_evaluate_134 rfl ?_
  refine wp_getr (gB G + 303) dX11_evaluate_135 fX11_39 (ka hF 293 (by decide)) (hF.2 _ _) (rra 10 (isK_le (ka hF 293 (by decide))) (fun _ => rfl)) ?_
  refine wp_iload_n dX11_evaluate_138 rfl ?_
  refine wp_iconst (1 : Int32) dX11_evaluate_139 (by decide) ?_
  refine wp_isubv (nI s) dX11_evaluate_140 (nsub (a := s + 1) (b := 1) (by omega)) ?_
  refine wp_laldk (n := 300) s (al m (gB G + 303) s) dX11_evaluate_141 (ka hF 303 (by decide)) (la 303) (vin (by omega) (by decide)) (nIc (by omega)) rfl ?_
  refine wp_aload_n dX11_evaluate_142 rfl ?_
  refine wp_getr (gB G + 303) dX11_evaluate_143 fX11_39 (ka hF 293 (by decide)) (hF.2 _ _) (rra 10 (isK_le (ka hF 293 (by decide))) (fun _ => rfl)) ?_
  refine wp_iload_n dX11_evaluate_146 rfl ?_
  refine wp_laldk (n := 300) (s + 1) (al m (gB G + 303) (s + 1)) dX11_evaluate_147 (ka hF 303 (by decide)) (la 303) (vin (by omega) (by decide)) (nIc (by omega)) rfl ?_
  refine wp_callV (As := [.int (13 : Int32), .long (al m (gB G + 303) s), .long (al m (gB G + 303) (s + 1))]) (S := [.int (nI s), .ref (gB G + 303)]) (b' := (0, 0)) (b := (0, 0)) dX11_evaluate_148 MX11_232 (ka hF 293 (by decide)) rfl rfl rfl rfl (Nat.le_of_ble_eq_true rfl) ?_
  refine WPM.of pX11 (Nat.le_of_ble_eq_true rfl) rfl ?_
  refine wp_iload_n dX11_operate_0 rfl ?_
  refine wp_tableIn (off := 85) 86 dX11_operate_1 (by decide) (by decide) rfl (by decide) ?_
  refine wp_lload_n dX11_operate_86 rfl ?_
  refine wp_lload dX11_operate_87 rfl ?_
  refine wp_lc_ge 97 dX11_operate_89 dX11_operate_90 (by decide) (fun q1 => ?_) (fun q2 => ?_)
  · skip
    refine wp_lconst (0 : Int64) dX11_operate_97 (by decide) ?_
    refine wp_lret dX11_operate_98 rfl ?_
    show WP G (d + 4) (0, 0) μX11_evaluate 151 [.ref (gB G + 293), lvU, .int (nI e), .int (nI (s + 1)), .int (nI i), .int (13 : Int32)] [.long (0 : Int64), .int (nI s), .ref (gB G + 303)] m _
    refine wp_ldc2 dX11_evaluate_151 kX11_223 ?_
    refine wp_ldc2 dX11_evaluate_154 kX11_221 ?_
    refine wp_callS (As := [.long (0 : Int64), .long (-1000000000000 : Int64), .long (1000000000000 : Int64)]) (S := [.int (nI s), .ref (gB G + 303)]) (b' := (0, 0)) (b := (0, 0)) dX11_evaluate_157 MX11_117 rfl rfl (Nat.le_of_ble_eq_true rfl) ?_
    refine WPM.of pX11 (Nat.le_of_ble_eq_true rfl) rfl ?_
    refine wp_lload_n dX11_nearest_0 rfl ?_
    refine wp_lload dX11_nearest_1 rfl ?_
    refine wp_lload_n dX11_nearest_3 rfl ?_
    refine wp_minL dX11_nearest_4 AX11_58 (Nat.le_of_ble_eq_true rfl) ?_
    refine wp_maxL dX11_nearest_7 AX11_64 (Nat.le_of_ble_eq_true rfl) ?_
    refine wp_lret dX11_nearest_10 rfl ?_
    show WP G (d + 4) (0, 0) μX11_evaluate 160 [.ref (gB G + 293), lvU, .int (nI e), .int (nI (s + 1)), .int (nI i), .int (13 : Int32)] [.long (lmax (-1000000000000 : Int64) (lmin (1000000000000 : Int64) (0 : Int64))), .int (nI s), .ref (gB G + 303)] m _
    refine wp_lastk (n := 300) s dX11_evaluate_160 (ka hF 303 (by decide)) (la 303) (vin (by omega) (by decide))  (nIc (by omega)) ?_
    have hF3 := Full_wal (gB G + 303) s (lmax (-1000000000000 : Int64) (lmin (1000000000000 : Int64) (0 : Int64))) hF
    refine wp_iinc (nI (i + 1)) dX11_evaluate_161 rfl (by decide) (nadd (a := i) (b := 1) (by omega)) rfl ?_
    refine wp_goto 5 dX11_evaluate_164 (by decide) ?_
    refine wp_forget [.ref (gB G + 293), lvU, .int (nI e), .int (nI (s + 1)), .int (nI (i + 1)), lvU] ⟨Or.inl rfl, Or.inr rfl, Or.inl rfl, Or.inl rfl, Or.inl rfl, Or.inr rfl, trivial⟩ ?_
    exact e1 q1
  · skip
    refine wp_lconst (1 : Int64) dX11_operate_93 (by decide) ?_
    refine wp_goto 98 dX11_operate_94 (by decide) ?_
    refine wp_lret dX11_operate_98 rfl ?_
    show WP G (d + 4) (0, 0) μX11_evaluate 151 [.ref (gB G + 293), lvU, .int (nI e), .int (nI (s + 1)), .int (nI i), .int (13 : Int32)] [.long (1 : Int64), .int (nI s), .ref (gB G + 303)] m _
    refine wp_ldc2 dX11_evaluate_151 kX11_223 ?_
    refine wp_ldc2 dX11_evaluate_154 kX11_221 ?_
    refine wp_callS (As := [.long (1 : Int64), .long (-1000000000000 : Int64), .long (1000000000000 : Int64)]) (S := [.int (nI s), .ref (gB G + 303)]) (b' := (0, 0)) (b := (0, 0)) dX11_evaluate_157 MX11_117 rfl rfl (Nat.le_of_ble_eq_true rfl) ?_
    refine WPM.of pX11 (Nat.le_of_ble_eq_true rfl) rfl ?_
    refine wp_lload_n dX11_nearest_0 rfl ?_
    refine wp_lload dX11_nearest_1 rfl ?_
    refine wp_lload_n dX11_nearest_3 rfl ?_
    refine wp_minL dX11_nearest_4 AX11_58 (Nat.le_of_ble_eq_true rfl) ?_
    refine wp_maxL dX11_nearest_7 AX11_64 (Nat.le_of_ble_eq_true rfl) ?_
    refine wp_lret dX11_nearest_10 rfl ?_
    show WP G (d + 4) (0, 0) μX11_evaluate 160 [.ref (gB G + 293), lvU, .int (nI e), .int (nI (s + 1)), .int (nI i), .int (13 : Int32)] [.long (lmax (-1000000000000 : Int64) (lmin (1000000000000 : Int64) (1 : Int64))), .int (nI s), .ref (gB G + 303)] m _
    refine wp_lastk (n := 300) s dX11_evaluate_160 (ka hF 303 (by decide)) (la 303) (vin (by omega) (by decide))  (nIc (by omega)) ?_
    have hF4 := Full_wal (gB G + 303) s (lmax (-1000000000000 : Int64) (lmin (1000000000000 : Int64) (1 : Int64))) hF
    refine wp_iinc (nI (i + 1)) dX11_evaluate_161 rfl (by decide) (nadd (a := i) (b := 1) (by omega)) rfl ?_
    refine wp_goto 5 dX11_evaluate_164 (by decide) ?_
    refine wp_forget [.ref (gB G + 293), lvU, .int (nI e), .int (nI (s + 1)), .int (nI (i + 1)), lvU] ⟨Or.inl rfl, Or.inr rfl, Or.inl rfl, Or.inl rfl, Or.inl rfl, Or.inr rfl, trivial⟩ ?_
    exact e2 q2

theorem bM_ev14 {G : Cx} {d : Nat} {m : Mm} {Q : Option Value → Mm → Prop} {i s e p : Nat} (hF : Full G m) (hi : i < 500) (hie : i < e) (he : e ≤ 500) (ho : ai m (gB G + 294) (2 * i + 486) = (14 : Int32)) (hs : s + 2 < 300)
    (e1 : ¬ (al m (gB G + 303) (s + 1)) < (al m (gB G + 303) s) → WP G (d + 4) (0, 0) μX11_evaluate 5 [.ref (gB G + 293), lvU, .int (nI e), .int (nI (s + 1)), .int (nI (i + 1)), lvU] [] (wal m (gB G + 303) s (lmax (-1000000000000 : Int64) (lmin (1000000000000 : Int64) (0 : Int64)))) Q)
    (e2 : (al m (gB G + 303) (s + 1)) < (al m (gB G + 303) s) → WP G (d + 4) (0, 0) μX11_evaluate 5 [.ref (gB G + 293), lvU, .int (nI e), .int (nI (s + 1)), .int (nI (i + 1)), lvU] [] (wal m (gB G + 303) s (lmax (-1000000000000 : Int64) (lmin (1000000000000 : Int64) (1 : Int64)))) Q) :
    WP G (d + 4) (0, 0) μX11_evaluate 5 [.ref (gB G + 293), lvU, .int (nI e), .int (nI (s + 2)), .int (nI i), lvU] [] m Q := by
  refine wp_iload dX11_evaluate_5 rfl ?_
  refine wp_iload_n dX11_evaluate_7 rfl ?_
  refine wp_icmp_ge 167 dX11_evaluate_8 (by decide) (fun q => absurd (nlt_ hie (by omega)) q) (fun _ => ?_)
  refine wp_aload_n dX11_evaluate_11 rfl ?_
  refine wp_getr (gB G + 294) dX11_evaluate_12 fX11_7 (ka hF 293 (by decide)) (hF.2 _ _) (rra 1 (isK_le (ka hF 293 (by decide))) (fun _ => rfl)) ?_
  refine wp_sipush (486 : Int32) dX11_evaluate_15 (by decide) ?_
  refine wp_iconst (2 : Int32) dX11_evaluate_18 (by decide) ?_
  refine wp_iload dX11_evaluate_19 rfl ?_
  refine wp_imulv (nI (2 * i)) dX11_evaluate_21 (nmul (a := 2) (b := i) (by omega)) ?_
  refine wp_iaddv (nI (2 * i + 486)) dX11_evaluate_22 (nadd (a := 486) (b := 2 * i) (by omega)) ?_
  refine wp_ialdk (n := 1486) (2 * i + 486) (14 : Int32) dX11_evaluate_23 (ka hF 294 (by decide)) (la 294) (vin (by omega) (by decide)) (nIc (by omega)) ho ?_
  refine wp_istore dX11_evaluate_24 (by decide) rfl ?_
  refine wp_iload dX11_evaluate_26 rfl ?_
  refine wp_bipush (8 : Int32) dX11_evaluate_28 (by decide) ?_
  refine wp_icmp_ge 66 dX11_evaluate_30 (by decide) (fun _ => ?_) (fun q => absurd q (by decide))
  refine wp_iload dX11_evaluate_66 rfl ?_
  refine wp_bipush (8 : Int32) dX11_evaluate_68 (by decide) ?_
  refine wp_icmp_ne 93 dX11_evaluate_70 (by decide) (fun _ => ?_) (fun q => absurd q (by decide))
  refine wp_iload dX11_evaluate_93 rfl ?_
  refine wp_bipush (16 : Int32) dX11_evaluate_95 (by decide) ?_
  refine wp_icmp_ne 121 dX11_evaluate_97 (by decide) (fun _ => ?_) (fun q => absurd q (by decide))
  refine wp_iinc (nI (s + 1)) dX11_evaluate_121 rfl (by decide) (ndec (by omega)) rfl ?_
  refine wp_aload_n dX11_evaluate_124 rfl ?_
  refine wp_getr (gB G + 303) dX11_evaluate_125 fX11_39 (ka hF 293 (by decide)) (hF.2 _ _) (rra 10 (isK_le (ka hF 293 (by decide))) (fun _ => rfl)) ?_
  refine wp_iload_n dX11_evaluate_128 rfl ?_
  refine wp_iconst (1 : Int32) dX11_evaluate_129 (by decide) ?_
  refine wp_isubv (nI s) dX11_evaluate_130 (nsub (a := s + 1) (b := 1) (by omega)) ?_
  refine wp_aload_n dX11_evaluate_131 rfl ?_
  refine wp_iload dX11_evaluate_132 rfl ?_
  refine wp_aload_n dX11_evaluate_134 rfl ?_
  refine wp_getr (gB G + 303) dX11_evaluate_135 fX11_39 (ka hF 293 (by decide)) (hF.2 _ _) (rra 10 (isK_le (ka hF 293 (by decide))) (fun _ => rfl)) ?_
  refine wp_iload_n dX11_evaluate_138 rfl ?_
  refine wp_iconst (1 : Int32) dX11_evaluate_139 (by decide) ?_
  refine wp_isubv (nI s) dX11_evaluate_140 (nsub (a := s + 1) (b := 1) (by omega)) ?_
  refine wp_laldk (n := 300) s (al m (gB G + 303) s) dX11_evaluate_141 (ka hF 303 (by decide)) (la 303) (vin (by omega) (by decide)) (nIc (by omega)) rfl ?_
  refine wp_aload_n dX11_evaluate_142 rfl ?_
  refine wp_getr (gB G + 303) dX11_evaluate_143 fX11_39 (ka hF 293 (by decide)) (hF.2 _ _) (rra 10 (isK_le (ka hF 293 (by decide))) (fun _ => rfl)) ?_
  refine wp_iload_n dX11_evaluate_146 rfl ?_
  refine wp_laldk (n := 300) (s + 1) (al m (gB G + 303) (s + 1)) dX11_evaluate_147 (ka hF 303 (by decide)) (la 303) (vin (by omega) (by decide)) (nIc (by omega)) rfl ?_
  refine wp_callV (As := [.int (14 : Int32), .long (al m (gB G + 303) s), .long (al m (gB G + 303) (s + 1))]) (S := [.int (nI s), .ref (gB G + 303)]) (b' := (0, 0)) (b := (0, 0)) dX11_evaluate_148 MX11_232 (ka hF 293 (by decide)) rfl rfl rfl rfl (Nat.le_of_ble_eq_true rfl) ?_
  refine WPM.of pX11 (Nat.le_of_ble_eq_true rfl) rfl ?_
  refine wp_iload_n dX11_operate_0 rfl ?_
  refine wp_tableIn (off := 98) 99 dX11_operate_1 (by decide) (by decide) rfl (by decide) ?_
  refine wp_lload_n dX11_operate_99 rfl ?_
  refine wp_lload dX11_operate_100 rfl ?_
  refine wp_lc_le 110 dX11_operate_102 dX11_operate_103 (by decide) (fun q1 => ?_) (fun q2 => ?_)
  · skip
    refine wp_lconst (0 : Int64) dX11_operate_110 (by decide) ?_
    refine wp_lret dX11_operate_111 rfl ?_
    show WP G (d + 4) (0, 0) μX11_evaluate 151 [.ref (gB G + 293), lvU, .int (nI e), .int (nI (s + 1)), .int (nI i), .int (14 : Int32)] [.long (0 : Int64), .int (nI s), .ref (gB G + 303)] m _
    refine wp_ldc2 dX11_evaluate_151 kX11_223 ?_
    refine wp_ldc2 dX11_evaluate_154 kX11_221 ?_
    refine wp_callS (As := [.long (0 : Int64), .long (-1000000000000 : Int64), .long (1000000000000 : Int64)]) (S := [.int (nI s), .ref (gB G + 303)]) (b' := (0, 0)) (b := (0, 0)) dX11_evaluate_157 MX11_117 rfl rfl (Nat.le_of_ble_eq_true rfl) ?_
    refine WPM.of pX11 (Nat.le_of_ble_eq_true rfl) rfl ?_
    refine wp_lload_n dX11_nearest_0 rfl ?_
    refine wp_lload dX11_nearest_1 rfl ?_
    refine wp_lload_n dX11_nearest_3 rfl ?_
    refine wp_minL dX11_nearest_4 AX11_58 (Nat.le_of_ble_eq_true rfl) ?_
    refine wp_maxL dX11_nearest_7 AX11_64 (Nat.le_of_ble_eq_true rfl) ?_
    refine wp_lret dX11_nearest_10 rfl ?_
    show WP G (d + 4) (0, 0) μX11_evaluate 160 [.ref (gB G + 293), lvU, .int (nI e), .int (nI (s + 1)), .int (nI i), .int (14 : Int32)] [.long (lmax (-1000000000000 : Int64) (lmin (1000000000000 : Int64) (0 : Int64))), .int (nI s), .ref (gB G + 303)] m _
    refine wp_lastk (n := 300) s dX11_evaluate_160 (ka hF 303 (by decide)) (la 303) (vin (by omega) (by decide))  (nIc (by omega)) ?_
    have hF3 := Full_wal (gB G + 303) s (lmax (-1000000000000 : Int64) (lmin (1000000000000 : Int64) (0 : Int64))) hF
    refine wp_iinc (nI (i + 1)) dX11_evaluate_161 rfl (by decide) (nadd (a := i) (b := 1) (by omega)) rfl ?_
    refine wp_goto 5 dX11_evaluate_164 (by decide) ?_
    refine wp_forget [.ref (gB G + 293), lvU, .int (nI e), .int (nI (s + 1)), .int (nI (i + 1)), lvU] ⟨Or.inl rfl, Or.inr rfl, Or.inl rfl, Or.inl rfl, Or.inl rfl, Or.inr rfl, trivial⟩ ?_
    exact e1 q1
  · skip
    refine wp_lconst (1 : Int64) dX11_operate_106 (by decide) ?_
    refine wp_goto 111 dX11_operate_107 (by decide) ?_
    refine wp_lret dX11_operate_111 rfl ?_
    show WP G (d + 4) (0, 0) μX11_evaluate 151 [.ref (gB G + 293), lvU, .int (nI e), .int (nI (s + 1)), .int (nI i), .int (14 : Int32)] [.long (1 : Int64), .int (nI s), .ref (gB G + 303)] m _
    refine wp_ldc2 dX11_evaluate_151 kX11_223 ?_
    refine wp_ldc2 dX11_evaluate_154 kX11_221 ?_
    refine wp_callS (As := [.long (1 : Int64), .long (-1000000000000 : Int64), .long (1000000000000 : Int64)]) (S := [.int (nI s), .ref (gB G + 303)]) (b' := (0, 0)) (b := (0, 0)) dX11_evaluate_157 MX11_117 rfl rfl (Nat.le_of_ble_eq_true rfl) ?_
    refine WPM.of pX11 (Nat.le_of_ble_eq_true rfl) rfl ?_
    refine wp_lload_n dX11_nearest_0 rfl ?_
    refine wp_lload dX11_nearest_1 rfl ?_
    refine wp_lload_n dX11_nearest_3 rfl ?_
    refine wp_minL dX11_nearest_4 AX11_58 (Nat.le_of_ble_eq_true rfl) ?_
    refine wp_maxL dX11_nearest_7 AX11_64 (Nat.le_of_ble_eq_true rfl) ?_
    refine wp_lret dX11_nearest_10 rfl ?_
    show WP G (d + 4) (0, 0) μX11_evaluate 160 [.ref (gB G + 293), lvU, .int (nI e), .int (nI (s + 1)), .int (nI i), .int (14 : Int32)] [.long (lmax (-1000000000000 : Int64) (lmin (1000000000000 : Int64) (1 : Int64))), .int (nI s), .ref (gB G + 303)] m _
    refine wp_lastk (n := 300) s dX11_evaluate_160 (ka hF 303 (by decide)) (la 303) (vin (by omega) (by decide))  (nIc (by omega)) ?_
    have hF4 := Full_wal (gB G + 303) s (lmax (-1000000000000 : Int64) (lmin (1000000000000 : Int64) (1 : Int64))) hF
    refine wp_iinc (nI (i + 1)) dX11_evaluate_161 rfl (by decide) (nadd (a := i) (b := 1) (by omega)) rfl ?_
    refine wp_goto 5 dX11_evaluate_164 (by decide) ?_
    refine wp_forget [.ref (gB G + 293), lvU, .int (nI e), .int (nI (s + 1)), .int (nI (i + 1)), lvU] ⟨Or.inl rfl, Or.inr rfl, Or.inl rfl, Or.inl rfl, Or.inl rfl, Or.inr rfl, trivial⟩ ?_
    exact e2 q2

theorem bM_ev15 {G : Cx} {d : Nat} {m : Mm} {Q : Option Value → Mm → Prop} {i s e p : Nat} (hF : Full G m) (hi : i < 500) (hie : i < e) (he : e ≤ 500) (ho : ai m (gB G + 294) (2 * i + 486) = (15 : Int32)) (hs : s + 2 < 300)
    (e1 : ¬ (al m (gB G + 303) s) = (al m (gB G + 303) (s + 1)) → WP G (d + 4) (0, 0) μX11_evaluate 5 [.ref (gB G + 293), lvU, .int (nI e), .int (nI (s + 1)), .int (nI (i + 1)), lvU] [] (wal m (gB G + 303) s (lmax (-1000000000000 : Int64) (lmin (1000000000000 : Int64) (0 : Int64)))) Q)
    (e2 : (al m (gB G + 303) s) = (al m (gB G + 303) (s + 1)) → WP G (d + 4) (0, 0) μX11_evaluate 5 [.ref (gB G + 293), lvU, .int (nI e), .int (nI (s + 1)), .int (nI (i + 1)), lvU] [] (wal m (gB G + 303) s (lmax (-1000000000000 : Int64) (lmin (1000000000000 : Int64) (1 : Int64)))) Q) :
    WP G (d + 4) (0, 0) μX11_evaluate 5 [.ref (gB G + 293), lvU, .int (nI e), .int (nI (s + 2)), .int (nI i), lvU] [] m Q := by
  refine wp_iload dX11_evaluate_5 rfl ?_
  refine wp_iload_n dX11_evaluate_7 rfl ?_
  refine wp_icmp_ge 167 dX11_evaluate_8 (by decide) (fun q => absurd (nlt_ hie (by omega)) q) (fun _ => ?_)
  refine wp_aload_n dX11_evaluate_11 rfl ?_
  refine wp_getr (gB G + 294) dX11_evaluate_12 fX11_7 (ka hF 293 (by decide)) (hF.2 _ _) (rra 1 (isK_le (ka hF 293 (by decide))) (fun _ => rfl)) ?_
  refine wp_sipush (486 : Int32) dX11_evaluate_15 (by decide) ?_
  refine wp_iconst (2 : Int32) dX11_evaluate_18 (by decide) ?_
  refine wp_iload dX11_evaluate_19 rfl ?_
  refine wp_imulv (nI (2 * i)) dX11_evaluate_21 (nmul (a := 2) (b := i) (by omega)) ?_
  refine wp_iaddv (nI (2 * i + 486)) dX11_evaluate_22 (nadd (a := 486) (b := 2 * i) (by omega)) ?_
  refine wp_ialdk (n := 1486) (2 * i + 486) (15 : Int32) dX11_evaluate_23 (ka hF 294 (by decide)) (la 294) (vin (by omega) (by decide)) (nIc (by omega)) ho ?_
  refine wp_istore dX11_evaluate_24 (by decide) rfl ?_
  refine wp_iload dX11_evaluate_26 rfl ?_
  refine wp_bipush (8 : Int32) dX11_evaluate_28 (by decide) ?_
  refine wp_icmp_ge 66 dX11_evaluate_30 (by decide) (fun _ => ?_) (fun q => absurd q (by decide))
  refine wp_iload dX11_evaluate_66 rfl ?_
  refine wp_bipush (8 : Int32) dX11_evaluate_68 (by decide) ?_
  refine wp_icmp_ne 93 dX11_evaluate_70 (by decide) (fun _ => ?_) (fun q => absurd q (by decide))
  refine wp_iload dX11_evaluate_93 rfl ?_
  refine wp_bipush (16 : Int32) dX11_evaluate_95 (by decide) ?_
  refine wp_icmp_ne 121 dX11_evaluate_97 (by decide) (fun _ => ?_) (fun q => absurd q (by decide))
  refine wp_iinc (nI (s + 1)) dX11_evaluate_121 rfl (by decide) (ndec (by omega)) rfl ?_
  refine wp_aload_n dX11_evaluate_124 rfl ?_
  refine wp_getr (gB G + 303) dX11_evaluate_125 fX11_39 (ka hF 293 (by decide)) (hF.2 _ _) (rra 10 (isK_le (ka hF 293 (by decide))) (fun _ => rfl)) ?_
  refine wp_iload_n dX11_evaluate_128 rfl ?_
  refine wp_iconst (1 : Int32) dX11_evaluate_129 (by decide) ?_
  refine wp_isubv (nI s) dX11_evaluate_130 (nsub (a := s + 1) (b := 1) (by omega)) ?_
  refine wp_aload_n dX11_evaluate_131 rfl ?_
  refine wp_iload dX11_evaluate_132 rfl ?_
  refine wp_aload_n dX11_evaluate_134 rfl ?_
  refine wp_getr (gB G + 303) dX11_evaluate_135 fX11_39 (ka hF 293 (by decide)) (hF.2 _ _) (rra 10 (isK_le (ka hF 293 (by decide))) (fun _ => rfl)) ?_
  refine wp_iload_n dX11_evaluate_138 rfl ?_
  refine wp_iconst (1 : Int32) dX11_evaluate_139 (by decide) ?_
  refine wp_isubv (nI s) dX11_evaluate_140 (nsub (a := s + 1) (b := 1) (by omega)) ?_
  refine wp_laldk (n := 300) s (al m (gB G + 303) s) dX11_evaluate_141 (ka hF 303 (by decide)) (la 303) (vin (by omega) (by decide)) (nIc (by omega)) rfl ?_
  refine wp_aload_n dX11_evaluate_142 rfl ?_
  refine wp_getr (gB G + 303) dX11_evaluate_143 fX11_39 (ka hF 293 (by decide)) (hF.2 _ _) (rra 10 (isK_le (ka hF 293 (by decide))) (fun _ => rfl)) ?_
  refine wp_iload_n dX11_evaluate_146 rfl ?_
  refine wp_laldk (n := 300) (s + 1) (al m (gB G + 303) (s + 1)) dX11_evaluate_147 (ka hF 303 (by decide)) (la 303) (vin (by omega) (by decide)) (nIc (by omega)) rfl ?_
  refine wp_callV (As := [.int (15 : Int32), .long (al m (gB G + 303) s), .long (al m (gB G + 303) (s + 1))]) (S := [.int (nI s), .ref (gB G + 303)]) (b' := (0, 0)) (b := (0, 0)) dX11_evaluate_148 MX11_232 (ka hF 293 (by decide)) rfl rfl rfl rfl (Nat.le_of_ble_eq_true rfl) ?_
  refine WPM.of pX11 (Nat.le_of_ble_eq_true rfl) rfl ?_
  refine wp_iload_n dX11_operate_0 rfl ?_
  refine wp_tableIn (off := 111) 112 dX11_operate_1 (by decide) (by decide) rfl (by decide) ?_
  refine wp_lload_n dX11_operate_112 rfl ?_
  refine wp_lload dX11_operate_113 rfl ?_
  refine wp_lc_ne 123 dX11_operate_115 dX11_operate_116 (by decide) (fun q1 => ?_) (fun q2 => ?_)
  · skip
    refine wp_lconst (0 : Int64) dX11_operate_123 (by decide) ?_
    refine wp_lret dX11_operate_124 rfl ?_
    show WP G (d + 4) (0, 0) μX11_evaluate 151 [.ref (gB G + 293), lvU, .int (nI e), .int (nI (s + 1)), .int (nI i), .int (15 : Int32)] [.long (0 : Int64), .int (nI s), .ref (gB G + 303)] m _
    refine wp_ldc2 dX11_evaluate_151 kX11_223 ?_
    refine wp_ldc2 dX11_evaluate_154 kX11_221 ?_
    refine wp_callS (As := [.long (0 : Int64), .long (-1000000000000 : Int64), .long (1000000000000 : Int64)]) (S := [.int (nI s), .ref (gB G + 303)]) (b' := (0, 0)) (b := (0, 0)) dX11_evaluate_157 MX11_117 rfl rfl (Nat.le_of_ble_eq_true rfl) ?_
    refine WPM.of pX11 (Nat.le_of_ble_eq_true rfl) rfl ?_
    refine wp_lload_n dX11_nearest_0 rfl ?_
    refine wp_lload dX11_nearest_1 rfl ?_
    refine wp_lload_n dX11_nearest_3 rfl ?_
    refine wp_minL dX11_nearest_4 AX11_58 (Nat.le_of_ble_eq_true rfl) ?_
    refine wp_maxL dX11_nearest_7 AX11_64 (Nat.le_of_ble_eq_true rfl) ?_
    refine wp_lret dX11_nearest_10 rfl ?_
    show WP G (d + 4) (0, 0) μX11_evaluate 160 [.ref (gB G + 293), lvU, .int (nI e), .int (nI (s + 1)), .int (nI i), .int (15 : Int32)] [.long (lmax (-1000000000000 : Int64) (lmin (1000000000000 : Int64) (0 : Int64))), .int (nI s), .ref (gB G + 303)] m _
    refine wp_lastk (n := 300) s dX11_evaluate_160 (ka hF 303 (by decide)) (la 303) (vin (by omega) (by decide))  (nIc (by omega)) ?_
    have hF3 := Full_wal (gB G + 303) s (lmax (-1000000000000 : Int64) (lmin (1000000000000 : Int64) (0 : Int64))) hF
    refine wp_iinc (nI (i + 1)) dX11_evaluate_161 rfl (by decide) (nadd (a := i) (b := 1) (by omega)) rfl ?_
    refine wp_goto 5 dX11_evaluate_164 (by decide) ?_
    refine wp_forget [.ref (gB G + 293), lvU, .int (nI e), .int (nI (s + 1)), .int (nI (i + 1)), lvU] ⟨Or.inl rfl, Or.inr rfl, Or.inl rfl, Or.inl rfl, Or.inl rfl, Or.inr rfl, trivial⟩ ?_
    exact e1 q1
  · skip
    refine wp_lconst (1 : Int64) dX11_operate_119 (by decide) ?_
    refine wp_goto 124 dX11_operate_120 (by decide) ?_
    refine wp_lret dX11_operate_124 rfl ?_
    show WP G (d + 4) (0, 0) μX11_evaluate 151 [.ref (gB G + 293), lvU, .int (nI e), .int (nI (s + 1)), .int (nI i), .int (15 : Int32)] [.long (1 : Int64), .int (nI s), .ref (gB G + 303)] m _
    refine wp_ldc2 dX11_evaluate_151 kX11_223 ?_
    refine wp_ldc2 dX11_evaluate_154 kX11_221 ?_
    refine wp_callS (As := [.long (1 : Int64), .long (-1000000000000 : Int64), .long (1000000000000 : Int64)]) (S := [.int (nI s), .ref (gB G + 303)]) (b' := (0, 0)) (b := (0, 0)) dX11_evaluate_157 MX11_117 rfl rfl (Nat.le_of_ble_eq_true rfl) ?_
    refine WPM.of pX11 (Nat.le_of_ble_eq_true rfl) rfl ?_
    refine wp_lload_n dX11_nearest_0 rfl ?_
    refine wp_lload dX11_nearest_1 rfl ?_
    refine wp_lload_n dX11_nearest_3 rfl ?_
    refine wp_minL dX11_nearest_4 AX11_58 (Nat.le_of_ble_eq_true rfl) ?_
    refine wp_maxL dX11_nearest_7 AX11_64 (Nat.le_of_ble_eq_true rfl) ?_
    refine wp_lret dX11_nearest_10 rfl ?_
    show WP G (d + 4) (0, 0) μX11_evaluate 160 [.ref (gB G + 293), lvU, .int (nI e), .int (nI (s + 1)), .int (nI i), .int (15 : Int32)] [.long (lmax (-1000000000000 : Int64) (lmin (1000000000000 : Int64) (1 : Int64))), .int (nI s), .ref (gB G + 303)] m _
    refine wp_lastk (n := 300) s dX11_evaluate_160 (ka hF 303 (by decide)) (la 303) (vin (by omega) (by decide))  (nIc (by omega)) ?_
    have hF4 := Full_wal (gB G + 303) s (lmax (-1000000000000 : Int64) (lmin (1000000000000 : Int64) (1 : Int64))) hF
    refine wp_iinc (nI (i + 1)) dX11_evaluate_161 rfl (by decide) (nadd (a := i) (b := 1) (by omega)) rfl ?_
    refine wp_goto 5 dX11_evaluate_164 (by decide) ?_
    refine wp_forget [.ref (gB G + 293), lvU, .int (nI e), .int (nI (s + 1)), .int (nI (i + 1)), lvU] ⟨Or.inl rfl, Or.inr rfl, Or.inl rfl, Or.inl rfl, Or.inl rfl, Or.inr rfl, trivial⟩ ?_
    exact e2 q2

theorem bM_ev17 {G : Cx} {d : Nat} {m : Mm} {Q : Option Value → Mm → Prop} {i s e p : Nat} (hF : Full G m) (hi : i < 500) (hie : i < e) (he : e ≤ 500) (ho : ai m (gB G + 294) (2 * i + 486) = (17 : Int32)) (hs : s + 2 < 300)
    (e1 : WP G (d + 4) (0, 0) μX11_evaluate 5 [.ref (gB G + 293), lvU, .int (nI e), .int (nI (s + 1)), .int (nI (i + 1)), lvU] [] (wal m (gB G + 303) s (lmax (-1000000000000 : Int64) (lmin (1000000000000 : Int64) ((al m (gB G + 303) s) * (al m (gB G + 303) (s + 1)))))) Q) :
    WP G (d + 4) (0, 0) μX11_evaluate 5 [.ref (gB G + 293), lvU, .int (nI e), .int (nI (s + 2)), .int (nI i), lvU] [] m Q := by
  refine wp_iload dX11_evaluate_5 rfl ?_
  refine wp_iload_n dX11_evaluate_7 rfl ?_
  refine wp_icmp_ge 167 dX11_evaluate_8 (by decide) (fun q => absurd (nlt_ hie (by omega)) q) (fun _ => ?_)
  refine wp_aload_n dX11_evaluate_11 rfl ?_
  refine wp_getr (gB G + 294) dX11_evaluate_12 fX11_7 (ka hF 293 (by decide)) (hF.2 _ _) (rra 1 (isK_le (ka hF 293 (by decide))) (fun _ => rfl)) ?_
  refine wp_sipush (486 : Int32) dX11_evaluate_15 (by decide) ?_
  refine wp_iconst (2 : Int32) dX11_evaluate_18 (by decide) ?_
  refine wp_iload dX11_evaluate_19 rfl ?_
  refine wp_imulv (nI (2 * i)) dX11_evaluate_21 (nmul (a := 2) (b := i) (by omega)) ?_
  refine wp_iaddv (nI (2 * i + 486)) dX11_evaluate_22 (nadd (a := 486) (b := 2 * i) (by omega)) ?_
  refine wp_ialdk (n := 1486) (2 * i + 486) (17 : Int32) dX11_evaluate_23 (ka hF 294 (by decide)) (la 294) (vin (by omega) (by decide)) (nIc (by omega)) ho ?_
  refine wp_istore dX11_evaluate_24 (by decide) rfl ?_
  refine wp_iload dX11_evaluate_26 rfl ?_
  refine wp_bipush (8 : Int32) dX11_evaluate_28 (by decide) ?_
  refine wp_icmp_ge 66 dX11_evaluate_30 (by decide) (fun _ => ?_) (fun q => absurd q (by decide))
  refine wp_iload dX11_evaluate_66 rfl ?_
  refine wp_bipush (8 : Int32) dX11_evaluate_68 (by decide) ?_
  refine wp_icmp_ne 93 dX11_evaluate_70 (by decide) (fun _ => ?_) (fun q => absurd q (by decide))
  refine wp_iload dX11_evaluate_93 rfl ?_
  refine wp_bipush (16 : Int32) dX11_evaluate_95 (by decide) ?_
  refine wp_icmp_ne 121 dX11_evaluate_97 (by decide) (fun _ => ?_) (fun q => absurd q (by decide))
  refine wp_iinc (nI (s + 1)) dX11_evaluate_121 rfl (by decide) (ndec (by omega)) rfl ?_
  refine wp_aload_n dX11_evaluate_124 rfl ?_
  refine wp_getr (gB G + 303) dX11_evaluate_125 fX11_39 (ka hF 293 (by decide)) (hF.2 _ _) (rra 10 (isK_le (ka hF 293 (by decide))) (fun _ => rfl)) ?_
  refine wp_iload_n dX11_evaluate_128 rfl ?_
  refine wp_iconst (1 : Int32) dX11_evaluate_129 (by decide) ?_
  refine wp_isubv (nI s) dX11_evaluate_130 (nsub (a := s + 1) (b := 1) (by omega)) ?_
  refine wp_aload_n dX11_evaluate_131 rfl ?_
  refine wp_iload dX11_evaluate_132 rfl ?_
  refine wp_aload_n dX11_evaluate_134 rfl ?_
  refine wp_getr (gB G + 303) dX11_evaluate_135 fX11_39 (ka hF 293 (by decide)) (hF.2 _ _) (rra 10 (isK_le (ka hF 293 (by decide))) (fun _ => rfl)) ?_
  refine wp_iload_n dX11_evaluate_138 rfl ?_
  refine wp_iconst (1 : Int32) dX11_evaluate_139 (by decide) ?_
  refine wp_isubv (nI s) dX11_evaluate_140 (nsub (a := s + 1) (b := 1) (by omega)) ?_
  refine wp_laldk (n := 300) s (al m (gB G + 303) s) dX11_evaluate_141 (ka hF 303 (by decide)) (la 303) (vin (by omega) (by decide)) (nIc (by omega)) rfl ?_
  refine wp_aload_n dX11_evaluate_142 rfl ?_
  refine wp_getr (gB G + 303) dX11_evaluate_143 fX11_39 (ka hF 293 (by decide)) (hF.2 _ _) (rra 10 (isK_le (ka hF 293 (by decide))) (fun _ => rfl)) ?_
  refine wp_iload_n dX11_evaluate_146 rfl ?_
  refine wp_laldk (n := 300) (s + 1) (al m (gB G + 303) (s + 1)) dX11_evaluate_147 (ka hF 303 (by decide)) (la 303) (vin (by omega) (by decide)) (nIc (by omega)) rfl ?_
  refine wp_callV (As := [.int (17 : Int32), .long (al m (gB G + 303) s), .long (al m (gB G + 303) (s + 1))]) (S := [.int (nI s), .ref (gB G + 303)]) (b' := (0, 0)) (b := (0, 0)) dX11_evaluate_148 MX11_232 (ka hF 293 (by decide)) rfl rfl rfl rfl (Nat.le_of_ble_eq_true rfl) ?_
  refine WPM.of pX11 (Nat.le_of_ble_eq_true rfl) rfl ?_
  refine wp_iload_n dX11_operate_0 rfl ?_
  refine wp_tableIn (off := 124) 125 dX11_operate_1 (by decide) (by decide) rfl (by decide) ?_
  refine wp_lload_n dX11_operate_125 rfl ?_
  refine wp_lload dX11_operate_126 rfl ?_
  refine wp_lmul dX11_operate_128 ?_
  refine wp_lret dX11_operate_129 rfl ?_
  show WP G (d + 4) (0, 0) μX11_evaluate 151 [.ref (gB G + 293), lvU, .int (nI e), .int (nI (s + 1)), .int (nI i), .int (17 : Int32)] [.long ((al m (gB G + 303) s) * (al m (gB G + 303) (s + 1))), .int (nI s), .ref (gB G + 303)] m _
  refine wp_ldc2 dX11_evaluate_151 kX11_223 ?_
  refine wp_ldc2 dX11_evaluate_154 kX11_221 ?_
  refine wp_callS (As := [.long ((al m (gB G + 303) s) * (al m (gB G + 303) (s + 1))), .long (-1000000000000 : Int64), .long (1000000000000 : Int64)]) (S := [.int (nI s), .ref (gB G + 303)]) (b' := (0, 0)) (b := (0, 0)) dX11_evaluate_157 MX11_117 rfl rfl (Nat.le_of_ble_eq_true rfl) ?_
  refine WPM.of pX11 (Nat.le_of_ble_eq_true rfl) rfl ?_
  refine wp_lload_n dX11_nearest_0 rfl ?_
  refine wp_lload dX11_nearest_1 rfl ?_
  refine wp_lload_n dX11_nearest_3 rfl ?_
  refine wp_minL dX11_nearest_4 AX11_58 (Nat.le_of_ble_eq_true rfl) ?_
  refine wp_maxL dX11_nearest_7 AX11_64 (Nat.le_of_ble_eq_true rfl) ?_
  refine wp_lret dX11_nearest_10 rfl ?_
  show WP G (d + 4) (0, 0) μX11_evaluate 160 [.ref (gB G + 293), lvU, .int (nI e), .int (nI (s + 1)), .int (nI i), .int (17 : Int32)] [.long (lmax (-1000000000000 : Int64) (lmin (1000000000000 : Int64) ((al m (gB G + 303) s) * (al m (gB G + 303) (s + 1))))), .int (nI s), .ref (gB G + 303)] m _
  refine wp_lastk (n := 300) s dX11_evaluate_160 (ka hF 303 (by decide)) (la 303) (vin (by omega) (by decide))  (nIc (by omega)) ?_
  have hF1 := Full_wal (gB G + 303) s (lmax (-1000000000000 : Int64) (lmin (1000000000000 : Int64) ((al m (gB G + 303) s) * (al m (gB G + 303) (s + 1))))) hF
  refine wp_iinc (nI (i + 1)) dX11_evaluate_161 rfl (by decide) (nadd (a := i) (b := 1) (by omega)) rfl ?_
  refine wp_goto 5 dX11_evaluate_164 (by decide) ?_
  refine wp_forget [.ref (gB G + 293), lvU, .int (nI e), .int (nI (s + 1)), .int (nI (i + 1)), lvU] ⟨Or.inl rfl, Or.inr rfl, Or.inl rfl, Or.inl rfl, Or.inl rfl, Or.inr rfl, trivial⟩ ?_
  exact e1

theorem bM_ev18 {G : Cx} {d : Nat} {m : Mm} {Q : Option Value → Mm → Prop} {i s e p : Nat} (hF : Full G m) (hi : i < 500) (hie : i < e) (he : e ≤ 500) (ho : ai m (gB G + 294) (2 * i + 486) = (18 : Int32)) (hs : s + 2 < 300)
    (e1 : WP G (d + 4) (0, 0) μX11_evaluate 5 [.ref (gB G + 293), lvU, .int (nI e), .int (nI (s + 1)), .int (nI (i + 1)), lvU] [] (wal m (gB G + 303) s (lmax (-1000000000000 : Int64) (lmin (1000000000000 : Int64) (lmax (al m (gB G + 303) s) (al m (gB G + 303) (s + 1)))))) Q) :
    WP G (d + 4) (0, 0) μX11_evaluate 5 [.ref (gB G + 293), lvU, .int (nI e), .int (nI (s + 2)), .int (nI i), lvU] [] m Q := by
  refine wp_iload dX11_evaluate_5 rfl ?_
  refine wp_iload_n dX11_evaluate_7 rfl ?_
  refine wp_icmp_ge 167 dX11_evaluate_8 (by decide) (fun q => absurd (nlt_ hie (by omega)) q) (fun _ => ?_)
  refine wp_aload_n dX11_evaluate_11 rfl ?_
  refine wp_getr (gB G + 294) dX11_evaluate_12 fX11_7 (ka hF 293 (by decide)) (hF.2 _ _) (rra 1 (isK_le (ka hF 293 (by decide))) (fun _ => rfl)) ?_
  refine wp_sipush (486 : Int32) dX11_evaluate_15 (by decide) ?_
  refine wp_iconst (2 : Int32) dX11_evaluate_18 (by decide) ?_
  refine wp_iload dX11_evaluate_19 rfl ?_
  refine wp_imulv (nI (2 * i)) dX11_evaluate_21 (nmul (a := 2) (b := i) (by omega)) ?_
  refine wp_iaddv (nI (2 * i + 486)) dX11_evaluate_22 (nadd (a := 486) (b := 2 * i) (by omega)) ?_
  refine wp_ialdk (n := 1486) (2 * i + 486) (18 : Int32) dX11_evaluate_23 (ka hF 294 (by decide)) (la 294) (vin (by omega) (by decide)) (nIc (by omega)) ho ?_
  refine wp_istore dX11_evaluate_24 (by decide) rfl ?_
  refine wp_iload dX11_evaluate_26 rfl ?_
  refine wp_bipush (8 : Int32) dX11_evaluate_28 (by decide) ?_
  refine wp_icmp_ge 66 dX11_evaluate_30 (by decide) (fun _ => ?_) (fun q => absurd q (by decide))
  refine wp_iload dX11_evaluate_66 rfl ?_
  refine wp_bipush (8 : Int32) dX11_evaluate_68 (by decide) ?_
  refine wp_icmp_ne 93 dX11_evaluate_70 (by decide) (fun _ => ?_) (fun q => absurd q (by decide))
  refine wp_iload dX11_evaluate_93 rfl ?_
  refine wp_bipush (16 : Int32) dX11_evaluate_95 (by decide) ?_
  refine wp_icmp_ne 121 dX11_evaluate_97 (by decide) (fun _ => ?_) (fun q => absurd q (by decide))
  refine wp_iinc (nI (s + 1)) dX11_evaluate_121 rfl (by decide) (ndec (by omega)) rfl ?_
  refine wp_aload_n dX11_evaluate_124 rfl ?_
  refine wp_getr (gB G + 303) dX11_evaluate_125 fX11_39 (ka hF 293 (by decide)) (hF.2 _ _) (rra 10 (isK_le (ka hF 293 (by decide))) (fun _ => rfl)) ?_
  refine wp_iload_n dX11_evaluate_128 rfl ?_
  refine wp_iconst (1 : Int32) dX11_evaluate_129 (by decide) ?_
  refine wp_isubv (nI s) dX11_evaluate_130 (nsub (a := s + 1) (b := 1) (by omega)) ?_
  refine wp_aload_n dX11_evaluate_131 rfl ?_
  refine wp_iload dX11_evaluate_132 rfl ?_
  refine wp_aload_n dX11_evaluate_134 rfl ?_
  refine wp_getr (gB G + 303) dX11_evaluate_135 fX11_39 (ka hF 293 (by decide)) (hF.2 _ _) (rra 10 (isK_le (ka hF 293 (by decide))) (fun _ => rfl)) ?_
  refine wp_iload_n dX11_evaluate_138 rfl ?_
  refine wp_iconst (1 : Int32) dX11_evaluate_139 (by decide) ?_
  refine wp_isubv (nI s) dX11_evaluate_140 (nsub (a := s + 1) (b := 1) (by omega)) ?_
  refine wp_laldk (n := 300) s (al m (gB G + 303) s) dX11_evaluate_141 (ka hF 303 (by decide)) (la 303) (vin (by omega) (by decide)) (nIc (by omega)) rfl ?_
  refine wp_aload_n dX11_evaluate_142 rfl ?_
  refine wp_getr (gB G + 303) dX11_evaluate_143 fX11_39 (ka hF 293 (by decide)) (hF.2 _ _) (rra 10 (isK_le (ka hF 293 (by decide))) (fun _ => rfl)) ?_
  refine wp_iload_n dX11_evaluate_146 rfl ?_
  refine wp_laldk (n := 300) (s + 1) (al m (gB G + 303) (s + 1)) dX11_evaluate_147 (ka hF 303 (by decide)) (la 303) (vin (by omega) (by decide)) (nIc (by omega)) rfl ?_
  refine wp_callV (As := [.int (18 : Int32), .long (al m (gB G + 303) s), .long (al m (gB G + 303) (s + 1))]) (S := [.int (nI s), .ref (gB G + 303)]) (b' := (0, 0)) (b := (0, 0)) dX11_evaluate_148 MX11_232 (ka hF 293 (by decide)) rfl rfl rfl rfl (Nat.le_of_ble_eq_true rfl) ?_
  refine WPM.of pX11 (Nat.le_of_ble_eq_true rfl) rfl ?_
  refine wp_iload_n dX11_operate_0 rfl ?_
  refine wp_tableOut 130 dX11_operate_1 (by decide) (by decide) ?_
  refine wp_lload_n dX11_operate_130 rfl ?_
  refine wp_lload dX11_operate_131 rfl ?_
  refine wp_maxL dX11_operate_133 AX11_64 (Nat.le_of_ble_eq_true rfl) ?_
  refine wp_lret dX11_operate_136 rfl ?_
  show WP G (d + 4) (0, 0) μX11_evaluate 151 [.ref (gB G + 293), lvU, .int (nI e), .int (nI (s + 1)), .int (nI i), .int (18 : Int32)] [.long (lmax (al m (gB G + 303) s) (al m (gB G + 303) (s + 1))), .int (nI s), .ref (gB G + 303)] m _
  refine wp_ldc2 dX11_evaluate_151 kX11_223 ?_
  refine wp_ldc2 dX11_evaluate_154 kX11_221 ?_
  refine wp_callS (As := [.long (lmax (al m (gB G + 303) s) (al m (gB G + 303) (s + 1))), .long (-1000000000000 : Int64), .long (1000000000000 : Int64)]) (S := [.int (nI s), .ref (gB G + 303)]) (b' := (0, 0)) (b := (0, 0)) dX11_evaluate_157 MX11_117 rfl rfl (Nat.le_of_ble_eq_true rfl) ?_
  refine WPM.of pX11 (Nat.le_of_ble_eq_true rfl) rfl ?_
  refine wp_lload_n dX11_nearest_0 rfl ?_
  refine wp_lload dX11_nearest_1 rfl ?_
  refine wp_lload_n dX11_nearest_3 rfl ?_
  refine wp_minL dX11_nearest_4 AX11_58 (Nat.le_of_ble_eq_true rfl) ?_
  refine wp_maxL dX11_nearest_7 AX11_64 (Nat.le_of_ble_eq_true rfl) ?_
  refine wp_lret dX11_nearest_10 rfl ?_
  show WP G (d + 4) (0, 0) μX11_evaluate 160 [.ref (gB G + 293), lvU, .int (nI e), .int (nI (s + 1)), .int (nI i), .int (18 : Int32)] [.long (lmax (-1000000000000 : Int64) (lmin (1000000000000 : Int64) (lmax (al m (gB G + 303) s) (al m (gB G + 303) (s + 1))))), .int (nI s), .ref (gB G + 303)] m _
  refine wp_lastk (n := 300) s dX11_evaluate_160 (ka hF 303 (by decide)) (la 303) (vin (by omega) (by decide))  (nIc (by omega)) ?_
  have hF1 := Full_wal (gB G + 303) s (lmax (-1000000000000 : Int64) (lmin (1000000000000 : Int64) (lmax (al m (gB G + 303) s) (al m (gB G + 303) (s + 1))))) hF
  refine wp_iinc (nI (i + 1)) dX11_evaluate_161 rfl (by decide) (nadd (a := i) (b := 1) (by omega)) rfl ?_
  refine wp_goto 5 dX11_evaluate_164 (by decide) ?_
  refine wp_forget [.ref (gB G + 293), lvU, .int (nI e), .int (nI (s + 1)), .int (nI (i + 1)), lvU] ⟨Or.inl rfl, Or.inr rfl, Or.inl rfl, Or.inl rfl, Or.inl rfl, Or.inr rfl, trivial⟩ ?_
  exact e1

theorem eM_ev {G : Cx} {d : Nat} {m : Mm} {Q : Option Value → Mm → Prop} {i e : Nat} (hF : Full G m) 
    (e1 : WP G (d + 4) (0, 0) μX11_evaluate 5 [.ref (gB G + 293), lvU, .int (nI e), .int (0 : Int32), .int (nI i), lvU] [] m Q) :
    WPM G (d + 4) (0, 0) μX11_evaluate [.ref (gB G + 293), .int (nI i), .int (nI e)] m Q := by
  refine WPM.of pX11 (Nat.le_of_ble_eq_true rfl) rfl ?_
  refine wp_iconst (0 : Int32) dX11_evaluate_0 (by decide) ?_
  refine wp_istore_n dX11_evaluate_1 (by decide) rfl ?_
  refine wp_iload_n dX11_evaluate_2 rfl ?_
  refine wp_istore dX11_evaluate_3 (by decide) rfl ?_
  refine wp_forget [.ref (gB G + 293), lvU, .int (nI e), .int (0 : Int32), .int (nI i), lvU] ⟨Or.inl rfl, Or.inr rfl, Or.inl rfl, Or.inl rfl, Or.inl rfl, Or.inr rfl, trivial⟩ ?_
  exact e1

theorem bM_evx {G : Cx} {d : Nat} {m : Mm} {Q : Option Value → Mm → Prop} {e : Nat} {s : Int32} (hF : Full G m) (he : e ≤ 500)
    (e1 : Q (some (.long (al m (gB G + 303) 0))) m) :
    WP G (d + 4) (0, 0) μX11_evaluate 5 [.ref (gB G + 293), lvU, .int (nI e), .int s, .int (nI e), lvU] [] m Q := by
  refine wp_iload dX11_evaluate_5 rfl ?_
  refine wp_iload_n dX11_evaluate_7 rfl ?_
  refine wp_icmp_ge 167 dX11_evaluate_8 (by decide) (fun _ => ?_) (fun q => absurd q (nnlt (Nat.le_refl _) (by omega)))
  refine wp_aload_n dX11_evaluate_167 rfl ?_
  refine wp_getr (gB G + 303) dX11_evaluate_168 fX11_39 (ka hF 293 (by decide)) (hF.2 _ _) (rra 10 (isK_le (ka hF 293 (by decide))) (fun _ => rfl)) ?_
  refine wp_iconst (0 : Int32) dX11_evaluate_171 (by decide) ?_
  refine wp_laldk (n := 300) 0 (al m (gB G + 303) 0) dX11_evaluate_172 (ka hF 303 (by decide)) (la 303) (vinl (by decide)) rfl rfl ?_
  exact wp_lret dX11_evaluate_173 rfl (e1)
