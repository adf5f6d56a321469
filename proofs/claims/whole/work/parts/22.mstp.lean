theorem eM_ho {G : Cx} {d : Nat} {m : Mm} {Q : Option Value → Mm → Prop} {r i e : Nat} (hF : Full G m) (hr : r < 12) (h1 : ai m (gB G + 294) (6 * r + 414) = nI i) (h2 : ai m (gB G + 294) (6 * r + 415) = nI e) (hi : i ≤ 500) (he : e ≤ 500)
    (e1 : i = e → Q (some (.int (1 : Int32))) m)
    (e2 : ¬ i = e → WPM G (d + 4) (0, 0) μX11_evaluate [.ref (gB G + 293), .int (nI i), .int (nI e)] m (fun r' m' => WP G (d + 5) (0, 0) μX11_holds 31 [lvU, lvU] (r'.toList ++ []) m' Q)) :
    WPM G (d + 5) (0, 0) μX11_holds [.ref (gB G + 293), .int (nI r)] m Q := by
  refine WPM.of pX11 (Nat.le_of_ble_eq_true rfl) rfl ?_
  refine wp_aload_n dX11_holds_0 rfl ?_
  refine wp_iload_n dX11_holds_1 rfl ?_
  refine wp_iconst (0 : Int32) dX11_holds_2 (by decide) ?_
  refine wp_callV (As := [.int (nI r), .int (0 : Int32)]) (S := []) (b' := (0, 0)) (b := (0, 0)) dX11_holds_3 MX11_236 (ka hF 293 (by decide)) rfl rfl rfl rfl (Nat.le_of_ble_eq_true rfl) ?_
  refine WPM.of pX11 (Nat.le_of_ble_eq_true rfl) rfl ?_
  refine wp_aload_n dX11_rule_0 rfl ?_
  refine wp_getr (gB G + 294) dX11_rule_1 fX11_7 (ka hF 293 (by decide)) (hF.2 _ _) (rra 1 (isK_le (ka hF 293 (by decide))) (fun _ => rfl)) ?_
  refine wp_sipush (414 : Int32) dX11_rule_4 (by decide) ?_
  refine wp_bipush (6 : Int32) dX11_rule_7 (by decide) ?_
  refine wp_iload_n dX11_rule_9 rfl ?_
  refine wp_imulv (nI (6 * r)) dX11_rule_10 (nmul (a := 6) (b := r) (by omega)) ?_
  refine wp_iaddv (nI (6 * r + 414)) dX11_rule_11 (nadd (a := 414) (b := 6 * r) (by omega)) ?_
  refine wp_iload_n dX11_rule_12 rfl ?_
  refine wp_iaddv (nI (6 * r + 414)) dX11_rule_13 (nadd (a := 6 * r + 414) (b := 0) (by omega)) ?_
  refine wp_ialdk (n := 1486) (6 * r + 414) (nI i) dX11_rule_14 (ka hF 294 (by decide)) (la 294) (vin (by omega) (by decide)) (nIc (by omega)) h1 ?_
  refine wp_iret dX11_rule_15 rfl ?_
  show WP G (d + 5) (0, 0) μX11_holds 6 [.ref (gB G + 293), .int (nI r)] [.int (nI i)] m _
  refine wp_aload_n dX11_holds_6 rfl ?_
  refine wp_iload_n dX11_holds_7 rfl ?_
  refine wp_iconst (1 : Int32) dX11_holds_8 (by decide) ?_
  refine wp_callV (As := [.int (nI r), .int (1 : Int32)]) (S := [.int (nI i)]) (b' := (0, 0)) (b := (0, 0)) dX11_holds_9 MX11_236 (ka hF 293 (by decide)) rfl rfl rfl rfl (Nat.le_of_ble_eq_true rfl) ?_
  refine WPM.of pX11 (Nat.le_of_ble_eq_true rfl) rfl ?_
  refine wp_aload_n dX11_rule_0 rfl ?_
  refine wp_getr (gB G + 294) dX11_rule_1 fX11_7 (ka hF 293 (by decide)) (hF.2 _ _) (rra 1 (isK_le (ka hF 293 (by decide))) (fun _ => rfl)) ?_
  refine wp_sipush (414 : Int32) dX11_rule_4 (by decide) ?_
  refine wp_bipush (6 : Int32) dX11_rule_7 (by decide) ?_
  refine wp_iload_n dX11_rule_9 rfl ?_
  refine wp_imulv (nI (6 * r)) dX11_rule_10 (nmul (a := 6) (b := r) (by omega)) ?_
  refine wp_iaddv (nI (6 * r + 414)) dX11_rule_11 (nadd (a := 414) (b := 6 * r) (by omega)) ?_
  refine wp_iload_n dX11_rule_12 rfl ?_
  refine wp_iaddv (nI (6 * r + 415)) dX11_rule_13 (nadd (a := 6 * r + 414) (b := 1) (by omega)) ?_
  refine wp_ialdk (n := 1486) (6 * r + 415) (nI e) dX11_rule_14 (ka hF 294 (by decide)) (la 294) (vin (by omega) (by decide)) (nIc (by omega)) h2 ?_
  refine wp_iret dX11_rule_15 rfl ?_
  show WP G (d + 5) (0, 0) μX11_holds 12 [.ref (gB G + 293), .int (nI r)] [.int (nI e), .int (nI i)] m _
  refine wp_icmp_eq 36 dX11_holds_12 (by decide) (fun q1 => ?_) (fun q2 => ?_)
  · have hp3 : i = e := (neq q1 (by omega) (by omega))
    refine wp_iconst (1 : Int32) dX11_holds_36 (by decide) ?_
    refine wp_goto 41 dX11_holds_37 (by decide) ?_
    exact wp_zret dX11_holds_41 rfl rfl (e1 hp3)
  · have hp4 : ¬ i = e := (fun z => q2 (congrArg nI z))
    refine wp_aload_n dX11_holds_15 rfl ?_
    refine wp_aload_n dX11_holds_16 rfl ?_
    refine wp_iload_n dX11_holds_17 rfl ?_
    refine wp_iconst (0 : Int32) dX11_holds_18 (by decide) ?_
    refine wp_callV (As := [.int (nI r), .int (0 : Int32)]) (S := [.ref (gB G + 293)]) (b' := (0, 0)) (b := (0, 0)) dX11_holds_19 MX11_236 (ka hF 293 (by decide)) rfl rfl rfl rfl (Nat.le_of_ble_eq_true rfl) ?_
    refine WPM.of pX11 (Nat.le_of_ble_eq_true rfl) rfl ?_
    refine wp_aload_n dX11_rule_0 rfl ?_
    refine wp_getr (gB G + 294) dX11_rule_1 fX11_7 (ka hF 293 (by decide)) (hF.2 _ _) (rra 1 (isK_le (ka hF 293 (by decide))) (fun _ => rfl)) ?_
    refine wp_sipush (414 : Int32) dX11_rule_4 (by decide) ?_
    refine wp_bipush (6 : Int32) dX11_rule_7 (by decide) ?_
    refine wp_iload_n dX11_rule_9 rfl ?_
    refine wp_imulv (nI (6 * r)) dX11_rule_10 (nmul (a := 6) (b := r) (by omega)) ?_
    refine wp_iaddv (nI (6 * r + 414)) dX11_rule_11 (nadd (a := 414) (b := 6 * r) (by omega)) ?_
    refine wp_iload_n dX11_rule_12 rfl ?_
    refine wp_iaddv (nI (6 * r + 414)) dX11_rule_13 (nadd (a := 6 * r + 414) (b := 0) (by omega)) ?_
    refine wp_ialdk (n := 1486) (6 * r + 414) (nI i) dX11_rule_14 (ka hF 294 (by decide)) (la 294) (vin (by omega) (by decide)) (nIc (by omega)) h1 ?_
    refine wp_iret dX11_rule_15 rfl ?_
    show WP G (d + 5) (0, 0) μX11_holds 22 [.ref (gB G + 293), .int (nI r)] [.int (nI i), .ref (gB G + 293)] m _
    refine wp_aload_n dX11_holds_22 rfl ?_
    refine wp_iload_n dX11_holds_23 rfl ?_
    refine wp_iconst (1 : Int32) dX11_holds_24 (by decide) ?_
    refine wp_callV (As := [.int (nI r), .int (1 : Int32)]) (S := [.int (nI i), .ref (gB G + 293)]) (b' := (0, 0)) (b := (0, 0)) dX11_holds_25 MX11_236 (ka hF 293 (by decide)) rfl rfl rfl rfl (Nat.le_of_ble_eq_true rfl) ?_
    refine WPM.of pX11 (Nat.le_of_ble_eq_true rfl) rfl ?_
    refine wp_aload_n dX11_rule_0 rfl ?_
    refine wp_getr (gB G + 294) dX11_rule_1 fX11_7 (ka hF 293 (by decide)) (hF.2 _ _) (rra 1 (isK_le (ka hF 293 (by decide))) (fun _ => rfl)) ?_
    refine wp_sipush (414 : Int32) dX11_rule_4 (by decide) ?_
    refine wp_bipush (6 : Int32) dX11_rule_7 (by decide) ?_
    refine wp_iload_n dX11_rule_9 rfl ?_
    refine wp_imulv (nI (6 * r)) dX11_rule_10 (nmul (a := 6) (b := r) (by omega)) ?_
    refine wp_iaddv (nI (6 * r + 414)) dX11_rule_11 (nadd (a := 414) (b := 6 * r) (by omega)) ?_
    refine wp_iload_n dX11_rule_12 rfl ?_
    refine wp_iaddv (nI (6 * r + 415)) dX11_rule_13 (nadd (a := 6 * r + 414) (b := 1) (by omega)) ?_
    refine wp_ialdk (n := 1486) (6 * r + 415) (nI e) dX11_rule_14 (ka hF 294 (by decide)) (la 294) (vin (by omega) (by decide)) (nIc (by omega)) h2 ?_
    refine wp_iret dX11_rule_15 rfl ?_
    show WP G (d + 5) (0, 0) μX11_holds 28 [.ref (gB G + 293), .int (nI r)] [.int (nI e), .int (nI i), .ref (gB G + 293)] m _
    refine wp_forget [lvU, lvU] ⟨Or.inr rfl, Or.inr rfl, trivial⟩ ?_
    refine wp_callV (As := [.int (nI i), .int (nI e)]) (S := []) (b' := (0, 0)) (b := (0, 0)) dX11_holds_28 MX11_239 (ka hF 293 (by decide)) rfl rfl rfl rfl (Nat.le_of_ble_eq_true rfl) ?_
    exact e2 hp4

theorem bM_ho {G : Cx} {d : Nat} {m : Mm} {Q : Option Value → Mm → Prop} {z : Int64} (hF : Full G m) 
    (e1 : ¬ z = (1 : Int64) → Q (some (.int (0 : Int32))) m)
    (e2 : z = (1 : Int64) → Q (some (.int (1 : Int32))) m) :
    WP G (d + 5) (0, 0) μX11_holds 31 [lvU, lvU] [.long z] m Q := by
  refine wp_lconst (1 : Int64) dX11_holds_31 (by decide) ?_
  refine wp_lc_ne 40 dX11_holds_32 dX11_holds_33 (by decide) (fun q1 => ?_) (fun q2 => ?_)
  · skip
    refine wp_iconst (0 : Int32) dX11_holds_40 (by decide) ?_
    exact wp_zret dX11_holds_41 rfl rfl (e1 q1)
  · skip
    refine wp_iconst (1 : Int32) dX11_holds_36 (by decide) ?_
    refine wp_goto 41 dX11_holds_37 (by decide) ?_
    exact wp_zret dX11_holds_41 rfl rfl (e2 q2)

theorem eM_co {G : Cx} {d : Nat} {m : Mm} {Q : Option Value → Mm → Prop} {r : Nat} (hF : Full G m) (hr : r < 12) 
    (e1 : WPM G (d + 5) (0, 0) μX11_holds [.ref (gB G + 293), .int (nI r)] m (fun r' m' => WP G (d + 6) (0, 0) μX11_carryOut 5 [.ref (gB G + 293), .int (nI r), lvU, lvU] (r'.toList ++ []) m' Q)) :
    WPM G (d + 6) (0, 0) μX11_carryOut [.ref (gB G + 293), .int (nI r)] m Q := by
  refine WPM.of pX11 (Nat.le_of_ble_eq_true rfl) rfl ?_
  refine wp_aload_n dX11_carryOut_0 rfl ?_
  refine wp_iload_n dX11_carryOut_1 rfl ?_
  refine wp_callV (As := [.int (nI r)]) (S := []) (b' := (0, 0)) (b := (0, 0)) dX11_carryOut_2 MX11_242 (ka hF 293 (by decide)) rfl rfl rfl rfl (Nat.le_of_ble_eq_true rfl) ?_
  exact e1

theorem bM_co0 {G : Cx} {d : Nat} {m : Mm} {Q : Option Value → Mm → Prop} {r p i e : Nat} (hF : Full G m) (hr : r < 12) (h1 : ai m (gB G + 294) (6 * r + 416) = (0 : Int32)) (h2 : ai m (gB G + 294) (6 * r + 417) = nI p) (hp : p < 8) 
    (e1 : Q none (wai m (gB G + 294) (8 * p + 343) (0 : Int32))) :
    WP G (d + 6) (0, 0) μX11_carryOut 5 [.ref (gB G + 293), .int (nI r), lvU, lvU] [.int (1 : Int32)] m Q := by
  refine wp_if_ne 9 dX11_carryOut_5 (by decide) (fun _ => ?_) (fun q => absurd q (by decide))
  refine wp_aload_n dX11_carryOut_9 rfl ?_
  refine wp_iload_n dX11_carryOut_10 rfl ?_
  refine wp_iconst (2 : Int32) dX11_carryOut_11 (by decide) ?_
  refine wp_callV (As := [.int (nI r), .int (2 : Int32)]) (S := []) (b' := (0, 0)) (b := (0, 0)) dX11_carryOut_12 MX11_236 (ka hF 293 (by decide)) rfl rfl rfl rfl (Nat.le_of_ble_eq_true rfl) ?_
  refine WPM.of pX11 (Nat.le_of_ble_eq_true rfl) rfl ?_
  refine wp_aload_n dX11_rule_0 rfl ?_
  refine wp_getr (gB G + 294) dX11_rule_1 fX11_7 (ka hF 293 (by decide)) (hF.2 _ _) (rra 1 (isK_le (ka hF 293 (by decide))) (fun _ => rfl)) ?_
  refine wp_sipush (414 : Int32) dX11_rule_4 (by decide) ?_
  refine wp_bipush (6 : Int32) dX11_rule_7 (by decide) ?_
  refine wp_iload_n dX11_rule_9 rfl ?_
  refine wp_imulv (nI (6 * r)) dX11_rule_10 (nmul (a := 6) (b := r) (by omega)) ?_
  refine wp_iaddv (nI (6 * r + 414)) dX11_rule_11 (nadd (a := 414) (b := 6 * r) (by omega)) ?_
  refine wp_iload_n dX11_rule_12 rfl ?_
  refine wp_iaddv (nI (6 * r + 416)) dX11_rule_13 (nadd (a := 6 * r + 414) (b := 2) (by omega)) ?_
  refine wp_ialdk (n := 1486) (6 * r + 416) (0 : Int32) dX11_rule_14 (ka hF 294 (by decide)) (la 294) (vin (by omega) (by decide)) (nIc (by omega)) h1 ?_
  refine wp_iret dX11_rule_15 rfl ?_
  show WP G (d + 6) (0, 0) μX11_carryOut 15 [.ref (gB G + 293), .int (nI r), lvU, lvU] [.int (0 : Int32)] m _
  refine wp_istore_n dX11_carryOut_15 (by decide) rfl ?_
  refine wp_aload_n dX11_carryOut_16 rfl ?_
  refine wp_iload_n dX11_carryOut_17 rfl ?_
  refine wp_iconst (3 : Int32) dX11_carryOut_18 (by decide) ?_
  refine wp_callV (As := [.int (nI r), .int (3 : Int32)]) (S := []) (b' := (0, 0)) (b := (0, 0)) dX11_carryOut_19 MX11_236 (ka hF 293 (by decide)) rfl rfl rfl rfl (Nat.le_of_ble_eq_true rfl) ?_
  refine WPM.of pX11 (Nat.le_of_ble_eq_true rfl) rfl ?_
  refine wp_aload_n dX11_rule_0 rfl ?_
  refine wp_getr (gB G + 294) dX11_rule_1 fX11_7 (ka hF 293 (by decide)) (hF.2 _ _) (rra 1 (isK_le (ka hF 293 (by decide))) (fun _ => rfl)) ?_
  refine wp_sipush (414 : Int32) dX11_rule_4 (by decide) ?_
  refine wp_bipush (6 : Int32) dX11_rule_7 (by decide) ?_
  refine wp_iload_n dX11_rule_9 rfl ?_
  refine wp_imulv (nI (6 * r)) dX11_rule_10 (nmul (a := 6) (b := r) (by omega)) ?_
  refine wp_iaddv (nI (6 * r + 414)) dX11_rule_11 (nadd (a := 414) (b := 6 * r) (by omega)) ?_
  refine wp_iload_n dX11_rule_12 rfl ?_
  refine wp_iaddv (nI (6 * r + 417)) dX11_rule_13 (nadd (a := 6 * r + 414) (b := 3) (by omega)) ?_
  refine wp_ialdk (n := 1486) (6 * r + 417) (nI p) dX11_rule_14 (ka hF 294 (by decide)) (la 294) (vin (by omega) (by decide)) (nIc (by omega)) h2 ?_
  refine wp_iret dX11_rule_15 rfl ?_
  show WP G (d + 6) (0, 0) μX11_carryOut 22 [.ref (gB G + 293), .int (nI r), .int (0 : Int32), lvU] [.int (nI p)] m _
  refine wp_istore_n dX11_carryOut_22 (by decide) rfl ?_
  refine wp_iload_n dX11_carryOut_23 rfl ?_
  refine wp_iconst (5 : Int32) dX11_carryOut_24 (by decide) ?_
  refine wp_icmp_ne 61 dX11_carryOut_25 (by decide) (fun _ => ?_) (fun q => absurd q (by decide))
  refine wp_iload_n dX11_carryOut_61 rfl ?_
  refine wp_iconst (3 : Int32) dX11_carryOut_62 (by decide) ?_
  refine wp_icmp_lt 95 dX11_carryOut_63 (by decide) (fun _ => ?_) (fun q => absurd (by decide) q)
  refine wp_aload_n dX11_carryOut_95 rfl ?_
  refine wp_getr (gB G + 294) dX11_carryOut_96 fX11_7 (ka hF 293 (by decide)) (hF.2 _ _) (rra 1 (isK_le (ka hF 293 (by decide))) (fun _ => rfl)) ?_
  refine wp_sipush (338 : Int32) dX11_carryOut_99 (by decide) ?_
  refine wp_bipush (8 : Int32) dX11_carryOut_102 (by decide) ?_
  refine wp_iload_n dX11_carryOut_104 rfl ?_
  refine wp_imulv (nI (8 * p)) dX11_carryOut_105 (nmul (a := 8) (b := p) (by omega)) ?_
  refine wp_iaddv (nI (8 * p + 338)) dX11_carryOut_106 (nadd (a := 338) (b := 8 * p) (by omega)) ?_
  refine wp_iconst (5 : Int32) dX11_carryOut_107 (by decide) ?_
  refine wp_iaddv (nI (8 * p + 343)) dX11_carryOut_108 (nadd (a := 8 * p + 338) (b := 5) (by omega)) ?_
  refine wp_iload_n dX11_carryOut_109 rfl ?_
  refine wp_iastk (n := 1486) (8 * p + 343) dX11_carryOut_110 (ka hF 294 (by decide)) (la 294) (vin (by omega) (by decide))  (nIc (by omega)) ?_
  have hF1 := Full_wai (gB G + 294) (8 * p + 343) (0 : Int32) hF
  exact wp_vret dX11_carryOut_111 rfl (e1)

theorem bM_co1 {G : Cx} {d : Nat} {m : Mm} {Q : Option Value → Mm → Prop} {r p i e : Nat} (hF : Full G m) (hr : r < 12) (h1 : ai m (gB G + 294) (6 * r + 416) = (1 : Int32)) (h2 : ai m (gB G + 294) (6 * r + 417) = nI p) (hp : p < 8) 
    (e1 : Q none (wai m (gB G + 294) (8 * p + 343) (1 : Int32))) :
    WP G (d + 6) (0, 0) μX11_carryOut 5 [.ref (gB G + 293), .int (nI r), lvU, lvU] [.int (1 : Int32)] m Q := by
  refine wp_if_ne 9 dX11_carryOut_5 (by decide) (fun _ => ?_) (fun q => absurd q (by decide))
  refine wp_aload_n dX11_carryOut_9 rfl ?_
  refine wp_iload_n dX11_carryOut_10 rfl ?_
  refine wp_iconst (2 : Int32) dX11_carryOut_11 (by decide) ?_
  refine wp_callV (As := [.int (nI r), .int (2 : Int32)]) (S := []) (b' := (0, 0)) (b := (0, 0)) dX11_carryOut_12 MX11_236 (ka hF 293 (by decide)) rfl rfl rfl rfl (Nat.le_of_ble_eq_true rfl) ?_
  refine WPM.of pX11 (Nat.le_of_ble_eq_true rfl) rfl ?_
  refine wp_aload_n dX11_rule_0 rfl ?_
  refine wp_getr (gB G + 294) dX11_rule_1 fX11_7 (ka hF 293 (by decide)) (hF.2 _ _) (rra 1 (isK_le (ka hF 293 (by decide))) (fun _ => rfl)) ?_
  refine wp_sipush (414 : Int32) dX11_rule_4 (by decide) ?_
  refine wp_bipush (6 : Int32) dX11_rule_7 (by decide) ?_
  refine wp_iload_n dX11_rule_9 rfl ?_
  refine wp_imulv (nI (6 * r)) dX11_rule_10 (nmul (a := 6) (b := r) (by omega)) ?_
  refine wp_iaddv (nI (6 * r + 414)) dX11_rule_11 (nadd (a := 414) (b := 6 * r) (by omega)) ?_
  refine wp_iload_n dX11_rule_12 rfl ?_
  refine wp_iaddv (nI (6 * r + 416)) dX11_rule_13 (nadd (a := 6 * r + 414) (b := 2) (by omega)) ?_
  refine wp_ialdk (n := 1486) (6 * r + 416) (1 : Int32) dX11_rule_14 (ka hF 294 (by decide)) (la 294) (vin (by omega) (by decide)) (nIc (by omega)) h1 ?_
  refine wp_iret dX11_rule_15 rfl ?_
  show WP G (d + 6) (0, 0) μX11_carryOut 15 [.ref (gB G + 293), .int (nI r), lvU, lvU] [.int (1 : Int32)] m _
  refine wp_istore_n dX11_carryOut_15 (by decide) rfl ?_
  refine wp_aload_n dX11_carryOut_16 rfl ?_
  refine wp_iload_n dX11_carryOut_17 rfl ?_
  refine wp_iconst (3 : Int32) dX11_carryOut_18 (by decide) ?_
  refine wp_callV (As := [.int (nI r), .int (3 : Int32)]) (S := []) (b' := (0, 0)) (b := (0, 0)) dX11_carryOut_19 MX11_236 (ka hF 293 (by decide)) rfl rfl rfl rfl (Nat.le_of_ble_eq_true rfl) ?_
  refine WPM.of pX11 (Nat.le_of_ble_eq_true rfl) rfl ?_
  refine wp_aload_n dX11_rule_0 rfl ?_
  refine wp_getr (gB G + 294) dX11_rule_1 fX11_7 (ka hF 293 (by decide)) (hF.2 _ _) (rra 1 (isK_le (ka hF 293 (by decide))) (fun _ => rfl)) ?_
  refine wp_sipush (414 : Int32) dX11_rule_4 (by decide) ?_
  refine wp_bipush (6 : Int32) dX11_rule_7 (by decide) ?_
  refine wp_iload_n dX11_rule_9 rfl ?_
  refine wp_imulv (nI (6 * r)) dX11_rule_10 (nmul (a := 6) (b := r) (by omega)) ?_
  refine wp_iaddv (nI (6 * r + 414)) dX11_rule_11 (nadd (a := 414) (b := 6 * r) (by omega)) ?_
  refine wp_iload_n dX11_rule_12 rfl ?_
  refine wp_iaddv (nI (6 * r + 417)) dX11_rule_13 (nadd (a := 6 * r + 414) (b := 3) (by omega)) ?_
  refine wp_ialdk (n := 1486) (6 * r + 417) (nI p) dX11_rule_14 (ka hF 294 (by decide)) (la 294) (vin (by omega) (by decide)) (nIc (by omega)) h2 ?_
  refine wp_iret dX11_rule_15 rfl ?_
  show WP G (d + 6) (0, 0) μX11_carryOut 22 [.ref (gB G + 293), .int (nI r), .int (1 : Int32), lvU] [.int (nI p)] m _
  refine wp_istore_n dX11_carryOut_22 (by decide) rfl ?_
  refine wp_iload_n dX11_carryOut_23 rfl ?_
  refine wp_iconst (5 : Int32) dX11_carryOut_24 (by decide) ?_
  refine wp_icmp_ne 61 dX11_carryOut_25 (by decide) (fun _ => ?_) (fun q => absurd q (by decide))
  refine wp_iload_n dX11_carryOut_61 rfl ?_
  refine wp_iconst (3 : Int32) dX11_carryOut_62 (by decide) ?_
  refine wp_icmp_lt 95 dX11_carryOut_63 (by decide) (fun _ => ?_) (fun q => absurd (by decide) q)
  refine wp_aload_n dX11_carryOut_95 rfl ?_
  refine wp_getr (gB G + 294) dX11_carryOut_96 fX11_7 (ka hF 293 (by decide)) (hF.2 _ _) (rra 1 (isK_le (ka hF 293 (by decide))) (fun _ => rfl)) ?_
  refine wp_sipush (338 : Int32) dX11_carryOut_99 (by decide) ?_
  refine wp_bipush (8 : Int32) dX11_carryOut_102 (by decide) ?_
  refine wp_iload_n dX11_carryOut_104 rfl ?_
  refine wp_imulv (nI (8 * p)) dX11_carryOut_105 (nmul (a := 8) (b := p) (by omega)) ?_
  refine wp_iaddv (nI (8 * p + 338)) dX11_carryOut_106 (nadd (a := 338) (b := 8 * p) (by omega)) ?_
  refine wp_iconst (5 : Int32) dX11_carryOut_107 (by decide) ?_
  refine wp_iaddv (nI (8 * p + 343)) dX11_carryOut_108 (nadd (a := 8 * p + 338) (b := 5) (by omega)) ?_
  refine wp_iload_n dX11_carryOut_109 rfl ?_
  refine wp_iastk (n := 1486) (8 * p + 343) dX11_carryOut_110 (ka hF 294 (by decide)) (la 294) (vin (by omega) (by decide))  (nIc (by omega)) ?_
  have hF1 := Full_wai (gB G + 294) (8 * p + 343) (1 : Int32) hF
  exact wp_vret dX11_carryOut_111 rfl (e1)

theorem bM_co2 {G : Cx} {d : Nat} {m : Mm} {Q : Option Value → Mm → Prop} {r p i e : Nat} (hF : Full G m) (hr : r < 12) (h1 : ai m (gB G + 294) (6 * r + 416) = (2 : Int32)) (h2 : ai m (gB G + 294) (6 * r + 417) = nI p) (hp : p < 8) 
    (e1 : Q none (wai m (gB G + 294) (8 * p + 343) (2 : Int32))) :
    WP G (d + 6) (0, 0) μX11_carryOut 5 [.ref (gB G + 293), .int (nI r), lvU, lvU] [.int (1 : Int32)] m Q := by
  refine wp_if_ne 9 dX11_carryOut_5 (by decide) (fun _ => ?_) (fun q => absurd q (by decide))
  refine wp_aload_n dX11_carryOut_9 rfl ?_
  refine wp_iload_n dX11_carryOut_10 rfl ?_
  refine wp_iconst (2 : Int32) dX11_carryOut_11 (by decide) ?_
  refine wp_callV (As := [.int (nI r), .int (2 : Int32)]) (S := []) (b' := (0, 0)) (b := (0, 0)) dX11_carryOut_12 MX11_236 (ka hF 293 (by decide)) rfl rfl rfl rfl (Nat.le_of_ble_eq_true rfl) ?_
  refine WPM.of pX11 (Nat.le_of_ble_eq_true rfl) rfl ?_
  refine wp_aload_n dX11_rule_0 rfl ?_
  refine wp_getr (gB G + 294) dX11_rule_1 fX11_7 (ka hF 293 (by decide)) (hF.2 _ _) (rra 1 (isK_le (ka hF 293 (by decide))) (fun _ => rfl)) ?_
  refine wp_sipush (414 : Int32) dX11_rule_4 (by decide) ?_
  refine wp_bipush (6 : Int32) dX11_rule_7 (by decide) ?_
  refine wp_iload_n dX11_rule_9 rfl ?_
  refine wp_imulv (nI (6 * r)) dX11_rule_10 (nmul (a := 6) (b := r) (by omega)) ?_
  refine wp_iaddv (nI (6 * r + 414)) dX11_rule_11 (nadd (a := 414) (b := 6 * r) (by omega)) ?_
  refine wp_iload_n dX11_rule_12 rfl ?_
  refine wp_iaddv (nI (6 * r + 416)) dX11_rule_13 (nadd (a := 6 * r + 414) (b := 2) (by omega)) ?_
  refine wp_ialdk (n := 1486) (6 * r + 416) (2 : Int32) dX11_rule_14 (ka hF 294 (by decide)) (la 294) (vin (by omega) (by decide)) (nIc (by omega)) h1 ?_
  refine wp_iret dX11_rule_15 rfl ?_
  show WP G (d + 6) (0, 0) μX11_carryOut 15 [.ref (gB G + 293), .int (nI r), lvU, lvU] [.int (2 : Int32)] m _
  refine wp_istore_n dX11_carryOut_15 (by decide) rfl ?_
  refine wp_aload_n dX11_carryOut_16 rfl ?_
  refine wp_iload_n dX11_carryOut_17 rfl ?_
  refine wp_iconst (3 : Int32) dX11_carryOut_18 (by decide) ?_
  refine wp_callV (As := [.int (nI r), .int (3 : Int32)]) (S := []) (b' := (0, 0)) (b := (0, 0)) dX11_carryOut_19 MX11_236 (ka hF 293 (by decide)) rfl rfl rfl rfl (Nat.le_of_ble_eq_true rfl) ?_
  refine WPM.of pX11 (Nat.le_of_ble_eq_true rfl) rfl ?_
  refine wp_aload_n dX11_rule_0 rfl ?_
  refine wp_getr (gB G + 294) dX11_rule_1 fX11_7 (ka hF 293 (by decide)) (hF.2 _ _) (rra 1 (isK_le (ka hF 293 (by decide))) (fun _ => rfl)) ?_
  refine wp_sipush (414 : Int32) dX11_rule_4 (by decide) ?_
  refine wp_bipush (6 : Int32) dX11_rule_7 (by decide) ?_
  refine wp_iload_n dX11_rule_9 rfl ?_
  refine wp_imulv (nI (6 * r)) dX11_rule_10 (nmul (a := 6) (b := r) (by omega)) ?_
  refine wp_iaddv (nI (6 * r + 414)) dX11_rule_11 (nadd (a := 414) (b := 6 * r) (by omega)) ?_
  refine wp_iload_n dX11_rule_12 rfl ?_
  refine wp_iaddv (nI (6 * r + 417)) dX11_rule_13 (nadd (a := 6 * r + 414) (b := 3) (by omega)) ?_
  refine wp_ialdk (n := 1486) (6 * r + 417) (nI p) dX11_rule_14 (ka hF 294 (by decide)) (la 294) (vin (by omega) (by decide)) (nIc (by omega)) h2 ?_
  refine wp_iret dX11_rule_15 rfl ?_
  show WP G (d + 6) (0, 0) μX11_carryOut 22 [.ref (gB G + 293), .int (nI r), .int (2 : Int32), lvU] [.int (nI p)] m _
  refine wp_istore_n dX11_carryOut_22 (by decide) rfl ?_
  refine wp_iload_n dX11_carryOut_23 rfl ?_
  refine wp_iconst (5 : Int32) dX11_carryOut_24 (by decide) ?_
  refine wp_icmp_ne 61 dX11_carryOut_25 (by decide) (fun _ => ?_) (fun q => absurd q (by decide))
  refine wp_iload_n dX11_carryOut_61 rfl ?_
  refine wp_iconst (3 : Int32) dX11_carryOut_62 (by decide) ?_
  refine wp_icmp_lt 95 dX11_carryOut_63 (by decide) (fun _ => ?_) (fun q => absurd (by decide) q)
  refine wp_aload_n dX11_carryOut_95 rfl ?_
  refine wp_getr (gB G + 294) dX11_carryOut_96 fX11_7 (ka hF 293 (by decide)) (hF.2 _ _) (rra 1 (isK_le (ka hF 293 (by decide))) (fun _ => rfl)) ?_
  refine wp_sipush (338 : Int32) dX11_carryOut_99 (by decide) ?_
  refine wp_bipush (8 : Int32) dX11_carryOut_102 (by decide) ?_
  refine wp_iload_n dX11_carryOut_104 rfl ?_
  refine wp_imulv (nI (8 * p)) dX11_carryOut_105 (nmul (a := 8) (b := p) (by omega)) ?_
  refine wp_iaddv (nI (8 * p + 338)) dX11_carryOut_106 (nadd (a := 338) (b := 8 * p) (by omega)) ?_
  refine wp_iconst (5 : Int32) dX11_carryOut_107 (by decide) ?_
  refine wp_iaddv (nI (8 * p + 343)) dX11_carryOut_108 (nadd (a := 8 * p + 338) (b := 5) (by omega)) ?_
  refine wp_iload_n dX11_carryOut_109 rfl ?_
  refine wp_iastk (n := 1486) (8 * p + 343) dX11_carryOut_110 (ka hF 294 (by decide)) (la 294) (vin (by omega) (by decide))  (nIc (by omega)) ?_
  have hF1 := Full_wai (gB G + 294) (8 * p + 343) (2 : Int32) hF
  exact wp_vret dX11_carryOut_111 rfl (e1)

theorem bM_co3 {G : Cx} {d : Nat} {m : Mm} {Q : Option Value → Mm → Prop} {r p i e : Nat} (hF : Full G m) (hr : r < 12) (h1 : ai m (gB G + 294) (6 * r + 416) = (3 : Int32)) (h2 : ai m (gB G + 294) (6 * r + 417) = nI p) (hp : p < 6) 
    (e1 : Q none (wai m (gB G + 294) (7 * p + 302) (1 : Int32))) :
    WP G (d + 6) (0, 0) μX11_carryOut 5 [.ref (gB G + 293), .int (nI r), lvU, lvU] [.int (1 : Int32)] m Q := by
  refine wp_if_ne 9 dX11_carryOut_5 (by decide) (fun _ => ?_) (fun q => absurd q (by decide))
  refine wp_aload_n dX11_carryOut_9 rfl ?_
  refine wp_iload_n dX11_carryOut_10 rfl ?_
  refine wp_iconst (2 : Int32) dX11_carryOut_11 (by decide) ?_
  refine wp_callV (As := [.int (nI r), .int (2 : Int32)]) (S := []) (b' := (0, 0)) (b := (0, 0)) dX11_carryOut_12 MX11_236 (ka hF 293 (by decide)) rfl rfl rfl rfl (Nat.le_of_ble_eq_true rfl) ?_
  refine WPM.of pX11 (Nat.le_of_ble_eq_true rfl) rfl ?_
  refine wp_aload_n dX11_rule_0 rfl ?_
  refine wp_getr (gB G + 294) dX11_rule_1 fX11_7 (ka hF 293 (by decide)) (hF.2 _ _) (rra 1 (isK_le (ka hF 293 (by decide))) (fun _ => rfl)) ?_
  refine wp_sipush (414 : Int32) dX11_rule_4 (by decide) ?_
  refine wp_bipush (6 : Int32) dX11_rule_7 (by decide) ?_
  refine wp_iload_n dX11_rule_9 rfl ?_
  refine wp_imulv (nI (6 * r)) dX11_rule_10 (nmul (a := 6) (b := r) (by omega)) ?_
  refine wp_iaddv (nI (6 * r + 414)) dX11_rule_11 (nadd (a := 414) (b := 6 * r) (by omega)) ?_
  refine wp_iload_n dX11_rule_12 rfl ?_
  refine wp_iaddv (nI (6 * r + 416)) dX11_rule_13 (nadd (a := 6 * r + 414) (b := 2) (by omega)) ?_
  refine wp_ialdk (n := 1486) (6 * r + 416) (3 : Int32) dX11_rule_14 (ka hF 294 (by decide)) (la 294) (vin (by omega) (by decide)) (nIc (by omega)) h1 ?_
  refine wp_iret dX11_rule_15 rfl ?_
  show WP G (d + 6) (0, 0) μX11_carryOut 15 [.ref (gB G + 293), .int (nI r), lvU, lvU] [.int (3 : Int32)] m _
  refine wp_istore_n dX11_carryOut_15 (by decide) rfl ?_
  refine wp_aload_n dX11_carryOut_16 rfl ?_
  refine wp_iload_n dX11_carryOut_17 rfl ?_
  refine wp_iconst (3 : Int32) dX11_carryOut_18 (by decide) ?_
  refine wp_callV (As := [.int (nI r), .int (3 : Int32)]) (S := []) (b' := (0, 0)) (b := (0, 0)) dX11_carryOut_19 MX11_236 (ka hF 293 (by decide)) rfl rfl rfl rfl (Nat.le_of_ble_eq_true rfl) ?_
  refine WPM.of pX11 (Nat.le_of_ble_eq_true rfl) rfl ?_
  refine wp_aload_n dX11_rule_0 rfl ?_
  refine wp_getr (gB G + 294) dX11_rule_1 fX11_7 (ka hF 293 (by decide)) (hF.2 _ _) (rra 1 (isK_le (ka hF 293 (by decide))) (fun _ => rfl)) ?_
  refine wp_sipush (414 : Int32) dX11_rule_4 (by decide) ?_
  refine wp_bipush (6 : Int32) dX11_rule_7 (by decide) ?_
  refine wp_iload_n dX11_rule_9 rfl ?_
  refine wp_imulv (nI (6 * r)) dX11_rule_10 (nmul (a := 6) (b := r) (by omega)) ?_
  refine wp_iaddv (nI (6 * r + 414)) dX11_rule_11 (nadd (a := 414) (b := 6 * r) (by omega)) ?_
  refine wp_iload_n dX11_rule_12 rfl ?_
  refine wp_iaddv (nI (6 * r + 417)) dX11_rule_13 (nadd (a := 6 * r + 414) (b := 3) (by omega)) ?_
  refine wp_ialdk (n := 1486) (6 * r + 417) (nI p) dX11_rule_14 (ka hF 294 (by decide)) (la 294) (vin (by omega) (by decide)) (nIc (by omega)) h2 ?_
  refine wp_iret dX11_rule_15 rfl ?_
  show WP G (d + 6) (0, 0) μX11_carryOut 22 [.ref (gB G + 293), .int (nI r), .int (3 : Int32), lvU] [.int (nI p)] m _
  refine wp_istore_n dX11_carryOut_22 (by decide) rfl ?_
  refine wp_iload_n dX11_carryOut_23 rfl ?_
  refine wp_iconst (5 : Int32) dX11_carryOut_24 (by decide) ?_
  refine wp_icmp_ne 61 dX11_carryOut_25 (by decide) (fun _ => ?_) (fun q => absurd q (by decide))
  refine wp_iload_n dX11_carryOut_61 rfl ?_
  refine wp_iconst (3 : Int32) dX11_carryOut_62 (by decide) ?_
  refine wp_icmp_lt 95 dX11_carryOut_63 (by decide) (fun q => absurd q (by decide)) (fun _ => ?_)
  refine wp_aload_n dX11_carryOut_66 rfl ?_
  refine wp_getr (gB G + 294) dX11_carryOut_67 fX11_7 (ka hF 293 (by decide)) (hF.2 _ _) (rra 1 (isK_le (ka hF 293 (by decide))) (fun _ => rfl)) ?_
  refine wp_sipush (296 : Int32) dX11_carryOut_70 (by decide) ?_
  refine wp_bipush (7 : Int32) dX11_carryOut_73 (by decide) ?_
  refine wp_iload_n dX11_carryOut_75 rfl ?_
  refine wp_imulv (nI (7 * p)) dX11_carryOut_76 (nmul (a := 7) (b := p) (by omega)) ?_
  refine wp_iaddv (nI (7 * p + 296)) dX11_carryOut_77 (nadd (a := 296) (b := 7 * p) (by omega)) ?_
  refine wp_bipush (6 : Int32) dX11_carryOut_78 (by decide) ?_
  refine wp_iaddv (nI (7 * p + 302)) dX11_carryOut_80 (nadd (a := 7 * p + 296) (b := 6) (by omega)) ?_
  refine wp_iload_n dX11_carryOut_81 rfl ?_
  refine wp_iconst (3 : Int32) dX11_carryOut_82 (by decide) ?_
  refine wp_icmp_ne 90 dX11_carryOut_83 (by decide) (fun q => absurd (by decide) q) (fun _ => ?_)
  refine wp_iconst (1 : Int32) dX11_carryOut_86 (by decide) ?_
  refine wp_goto 91 dX11_carryOut_87 (by decide) ?_
  refine wp_iastk (n := 1486) (7 * p + 302) dX11_carryOut_91 (ka hF 294 (by decide)) (la 294) (vin (by omega) (by decide))  (nIc (by omega)) ?_
  have hF1 := Full_wai (gB G + 294) (7 * p + 302) (1 : Int32) hF
  refine wp_goto 111 dX11_carryOut_92 (by decide) ?_
  exact wp_vret dX11_carryOut_111 rfl (e1)

theorem bM_co4 {G : Cx} {d : Nat} {m : Mm} {Q : Option Value → Mm → Prop} {r p i e : Nat} (hF : Full G m) (hr : r < 12) (h1 : ai m (gB G + 294) (6 * r + 416) = (4 : Int32)) (h2 : ai m (gB G + 294) (6 * r + 417) = nI p) (hp : p < 6) 
    (e1 : Q none (wai m (gB G + 294) (7 * p + 302) (0 : Int32))) :
    WP G (d + 6) (0, 0) μX11_carryOut 5 [.ref (gB G + 293), .int (nI r), lvU, lvU] [.int (1 : Int32)] m Q := by
  refine wp_if_ne 9 dX11_carryOut_5 (by decide) (fun _ => ?_) (fun q => absurd q (by decide))
  refine wp_aload_n dX11_carryOut_9 rfl ?_
  refine wp_iload_n dX11_carryOut_10 rfl ?_
  refine wp_iconst (2 : Int32) dX11_carryOut_11 (by decide) ?_
  refine wp_callV (As := [.int (nI r), .int (2 : Int32)]) (S := []) (b' := (0, 0)) (b := (0, 0)) dX11_carryOut_12 MX11_236 (ka hF 293 (by decide)) rfl rfl rfl rfl (Nat.le_of_ble_eq_true rfl) ?_
  refine WPM.of pX11 (Nat.le_of_ble_eq_true rfl) rfl ?_
  refine wp_aload_n dX11_rule_0 rfl ?_
  refine wp_getr (gB G + 294) dX11_rule_1 fX11_7 (ka hF 293 (by decide)) (hF.2 _ _) (rra 1 (isK_le (ka hF 293 (by decide))) (fun _ => rfl)) ?_
  refine wp_sipush (414 : Int32) dX11_rule_4 (by decide) ?_
  refine wp_bipush (6 : Int32) dX11_rule_7 (by decide) ?_
  refine wp_iload_n dX11_rule_9 rfl ?_
  refine wp_imulv (nI (6 * r)) dX11_rule_10 (nmul (a := 6) (b := r) (by omega)) ?_
  refine wp_iaddv (nI (6 * r + 414)) dX11_rule_11 (nadd (a := 414) (b := 6 * r) (by omega)) ?_
  refine wp_iload_n dX11_rule_12 rfl ?_
  refine wp_iaddv (nI (6 * r + 416)) dX11_rule_13 (nadd (a := 6 * r + 414) (b := 2) (by omega)) ?_
  refine wp_ialdk (n := 1486) (6 * r + 416) (4 : Int32) dX11_rule_14 (ka hF 294 (by decide)) (la 294) (vin (by omega) (by decide)) (nIc (by omega)) h1 ?_
  refine wp_iret dX11_rule_15 rfl ?_
  show WP G (d + 6) (0, 0) μX11_carryOut 15 [.ref (gB G + 293), .int (nI r), lvU, lvU] [.int (4 : Int32)] m _
  refine wp_istore_n dX11_carryOut_15 (by decide) rfl ?_
  refine wp_aload_n dX11_carryOut_16 rfl ?_
  refine wp_iload_n dX11_carryOut_17 rfl ?_
  refine wp_iconst (3 : Int32) dX11_carryOut_18 (by decide) ?_
  refine wp_callV (As := [.int (nI r), .int (3 : Int32)]) (S := []) (b' := (0, 0)) (b := (0, 0)) dX11_carryOut_19 MX11_236 (ka hF 293 (by decide)) rfl rfl rfl rfl (Nat.le_of_ble_eq_true rfl) ?_
  refine WPM.of pX11 (Nat.le_of_ble_eq_true rfl) rfl ?_
  refine wp_aload_n dX11_rule_0 rfl ?_
  refine wp_getr (gB G + 294) dX11_rule_1 fX11_7 (ka hF 293 (by decide)) (hF.2 _ _) (rra 1 (isK_le (ka hF 293 (by decide))) (fun _ => rfl)) ?_
  refine wp_sipush (414 : Int32) dX11_rule_4 (by decide) ?_
  refine wp_bipush (6 : Int32) dX11_rule_7 (by decide) ?_
  refine wp_iload_n dX11_rule_9 rfl ?_
  refine wp_imulv (nI (6 * r)) dX11_rule_10 (nmul (a := 6) (b := r) (by omega)) ?_
  refine wp_iaddv (nI (6 * r + 414)) dX11_rule_11 (nadd (a := 414) (b := 6 * r) (by omega)) ?_
  refine wp_iload_n dX11_rule_12 rfl ?_
  refine wp_iaddv (nI (6 * r + 417)) dX11_rule_13 (nadd (a := 6 * r + 414) (b := 3) (by omega)) ?_
  refine wp_ialdk (n := 1486) (6 * r + 417) (nI p) dX11_rule_14 (ka hF 294 (by decide)) (la 294) (vin (by omega) (by decide)) (nIc (by omega)) h2 ?_
  refine wp_iret dX11_rule_15 rfl ?_
  show WP G (d + 6) (0, 0) μX11_carryOut 22 [.ref (gB G + 293), .int (nI r), .int (4 : Int32), lvU] [.int (nI p)] m _
  refine wp_istore_n dX11_carryOut_22 (by decide) rfl ?_
  refine wp_iload_n dX11_carryOut_23 rfl ?_
  refine wp_iconst (5 : Int32) dX11_carryOut_24 (by decide) ?_
  refine wp_icmp_ne 61 dX11_carryOut_25 (by decide) (fun _ => ?_) (fun q => absurd q (by decide))
  refine wp_iload_n dX11_carryOut_61 rfl ?_
  refine wp_iconst (3 : Int32) dX11_carryOut_62 (by decide) ?_
  refine wp_icmp_lt 95 dX11_carryOut_63 (by decide) (fun q => absurd q (by decide)) (fun _ => ?_)
  refine wp_aload_n dX11_carryOut_66 rfl ?_
  refine wp_getr (gB G + 294) dX11_carryOut_67 fX11_7 (ka hF 293 (by decide)) (hF.2 _ _) (rra 1 (isK_le (ka hF 293 (by decide))) (fun _ => rfl)) ?_
  refine wp_sipush (296 : Int32) dX11_carryOut_70 (by decide) ?_
  refine wp_bipush (7 : Int32) dX11_carryOut_73 (by decide) ?_
  refine wp_iload_n dX11_carryOut_75 rfl ?_
  refine wp_imulv (nI (7 * p)) dX11_carryOut_76 (nmul (a := 7) (b := p) (by omega)) ?_
  refine wp_iaddv (nI (7 * p + 296)) dX11_carryOut_77 (nadd (a := 296) (b := 7 * p) (by omega)) ?_
  refine wp_bipush (6 : Int32) dX11_carryOut_78 (by decide) ?_
  refine wp_iaddv (nI (7 * p + 302)) dX11_carryOut_80 (nadd (a := 7 * p + 296) (b := 6) (by omega)) ?_
  refine wp_iload_n dX11_carryOut_81 rfl ?_
  refine wp_iconst (3 : Int32) dX11_carryOut_82 (by decide) ?_
  refine wp_icmp_ne 90 dX11_carryOut_83 (by decide) (fun _ => ?_) (fun q => absurd q (by decide))
  refine wp_iconst (0 : Int32) dX11_carryOut_90 (by decide) ?_
  refine wp_iastk (n := 1486) (7 * p + 302) dX11_carryOut_91 (ka hF 294 (by decide)) (la 294) (vin (by omega) (by decide))  (nIc (by omega)) ?_
  have hF1 := Full_wai (gB G + 294) (7 * p + 302) (0 : Int32) hF
  refine wp_goto 111 dX11_carryOut_92 (by decide) ?_
  exact wp_vret dX11_carryOut_111 rfl (e1)

theorem bM_co5 {G : Cx} {d : Nat} {m : Mm} {Q : Option Value → Mm → Prop} {r p i e : Nat} (hF : Full G m) (hr : r < 12) (h1 : ai m (gB G + 294) (6 * r + 416) = (5 : Int32)) (h2 : ai m (gB G + 294) (6 * r + 417) = nI p) (hp : p < 12) (h3 : ai m (gB G + 294) (6 * r + 418) = nI i) (h4 : ai m (gB G + 294) (6 * r + 419) = nI e) (hi : i ≤ 500) (he : e ≤ 500)
    (e1 : WPM G (d + 5) (0, 0) μX11_evaluate [.ref (gB G + 293), .int (nI i), .int (nI e)] m (fun r' m' => WP G (d + 6) (0, 0) μX11_carryOut 47 [lvU, lvU, lvU, lvU] (r'.toList ++ [.int (4 : Int32), .int (nI p), .ref (gB G + 293)]) m' Q)) :
    WP G (d + 6) (0, 0) μX11_carryOut 5 [.ref (gB G + 293), .int (nI r), lvU, lvU] [.int (1 : Int32)] m Q := by
  refine wp_if_ne 9 dX11_carryOut_5 (by decide) (fun _ => ?_) (fun q => absurd q (by decide))
  refine wp_aload_n dX11_carryOut_9 rfl ?_
  refine wp_iload_n dX11_carryOut_10 rfl ?_
  refine wp_iconst (2 : Int32) dX11_carryOut_11 (by decide) ?_
  refine wp_callV (As := [.int (nI r), .int (2 : Int32)]) (S := []) (b' := (0, 0)) (b := (0, 0)) dX11_carryOut_12 MX11_236 (ka hF 293 (by decide)) rfl rfl rfl rfl (Nat.le_of_ble_eq_true rfl) ?_
  refine WPM.of pX11 (Nat.le_of_ble_eq_true rfl) rfl ?_
  refine wp_aload_n dX11_rule_0 rfl ?_
  refine wp_getr (gB G + 294) dX11_rule_1 fX11_7 (ka hF 293 (by decide)) (hF.2 _ _) (rra 1 (isK_le (ka hF 293 (by decide))) (fun _ => rfl)) ?_
  refine wp_sipush (414 : Int32) dX11_rule_4 (by decide) ?_
  refine wp_bipush (6 : Int32) dX11_rule_7 (by decide) ?_
  refine wp_iload_n dX11_rule_9 rfl ?_
  refine wp_imulv (nI (6 * r)) dX11_rule_10 (nmul (a := 6) (b := r) (by omega)) ?_
  refine wp_iaddv (nI (6 * r + 414)) dX11_rule_11 (nadd (a := 414) (b := 6 * r) (by omega)) ?_
  refine wp_iload_n dX11_rule_12 rfl ?_
  refine wp_iaddv (nI (6 * r + 416)) dX11_rule_13 (nadd (a := 6 * r + 414) (b := 2) (by omega)) ?_
  refine wp_ialdk (n := 1486) (6 * r + 416) (5 : Int32) dX11_rule_14 (ka hF 294 (by decide)) (la 294) (vin (by omega) (by decide)) (nIc (by omega)) h1 ?_
  refine wp_iret dX11_rule_15 rfl ?_
  show WP G (d + 6) (0, 0) μX11_carryOut 15 [.ref (gB G + 293), .int (nI r), lvU, lvU] [.int (5 : Int32)] m _
  refine wp_istore_n dX11_carryOut_15 (by decide) rfl ?_
  refine wp_aload_n dX11_carryOut_16 rfl ?_
  refine wp_iload_n dX11_carryOut_17 rfl ?_
  refine wp_iconst (3 : Int32) dX11_carryOut_18 (by decide) ?_
  refine wp_callV (As := [.int (nI r), .int (3 : Int32)]) (S := []) (b' := (0, 0)) (b := (0, 0)) dX11_carryOut_19 MX11_236 (ka hF 293 (by decide)) rfl rfl rfl rfl (Nat.le_of_ble_eq_true rfl) ?_
  refine WPM.of pX11 (Nat.le_of_ble_eq_true rfl) rfl ?_
  refine wp_aload_n dX11_rule_0 rfl ?_
  refine wp_getr (gB G + 294) dX11_rule_1 fX11_7 (ka hF 293 (by decide)) (hF.2 _ _) (rra 1 (isK_le (ka hF 293 (by decide))) (fun _ => rfl)) ?_
  refine wp_sipush (414 : Int32) dX11_rule_4 (by decide) ?_
  refine wp_bipush (6 : Int32) dX11_rule_7 (by decide) ?_
  refine wp_iload_n dX11_rule_9 rfl ?_
  refine wp_imulv (nI (6 * r)) dX11_rule_10 (nmul (a := 6) (b := r) (by omega)) ?_
  refine wp_iaddv (nI (6 * r + 414)) dX11_rule_11 (nadd (a := 414) (b := 6 * r) (by omega)) ?_
  refine wp_iload_n dX11_rule_12 rfl ?_
  refine wp_iaddv (nI (6 * r + 417)) dX11_rule_13 (nadd (a := 6 * r + 414) (b := 3) (by omega)) ?_
  refine wp_ialdk (n := 1486) (6 * r + 417) (nI p) dX11_rule_14 (ka hF 294 (by decide)) (la 294) (vin (by omega) (by decide)) (nIc (by omega)) h2 ?_
  refine wp_iret dX11_rule_15 rfl ?_
  show WP G (d + 6) (0, 0) μX11_carryOut 22 [.ref (gB G + 293), .int (nI r), .int (5 : Int32), lvU] [.int (nI p)] m _
  refine wp_istore_n dX11_carryOut_22 (by decide) rfl ?_
  refine wp_iload_n dX11_carryOut_23 rfl ?_
  refine wp_iconst (5 : Int32) dX11_carryOut_24 (by decide) ?_
  refine wp_icmp_ne 61 dX11_carryOut_25 (by decide) (fun q => absurd (by decide) q) (fun _ => ?_)
  refine wp_aload_n dX11_carryOut_28 rfl ?_
  refine wp_iload_n dX11_carryOut_29 rfl ?_
  refine wp_iconst (4 : Int32) dX11_carryOut_30 (by decide) ?_
  refine wp_aload_n dX11_carryOut_31 rfl ?_
  refine wp_aload_n dX11_carryOut_32 rfl ?_
  refine wp_iload_n dX11_carryOut_33 rfl ?_
  refine wp_iconst (4 : Int32) dX11_carryOut_34 (by decide) ?_
  refine wp_callV (As := [.int (nI r), .int (4 : Int32)]) (S := [.ref (gB G + 293), .int (4 : Int32), .int (nI p), .ref (gB G + 293)]) (b' := (0, 0)) (b := (0, 0)) dX11_carryOut_35 MX11_236 (ka hF 293 (by decide)) rfl rfl rfl rfl (Nat.le_of_ble_eq_true rfl) ?_
  refine WPM.of pX11 (Nat.le_of_ble_eq_true rfl) rfl ?_
  refine wp_aload_n dX11_rule_0 rfl ?_
  refine wp_getr (gB G + 294) dX11_rule_1 fX11_7 (ka hF 293 (by decide)) (hF.2 _ _) (rra 1 (isK_le (ka hF 293 (by decide))) (fun _ => rfl)) ?_
  refine wp_sipush (414 : Int32) dX11_rule_4 (by decide) ?_
  refine wp_bipush (6 : Int32) dX11_rule_7 (by decide) ?_
  refine wp_iload_n dX11_rule_9 rfl ?_
  refine wp_imulv (nI (6 * r)) dX11_rule_10 (nmul (a := 6) (b := r) (by omega)) ?_
  refine wp_iaddv (nI (6 * r + 414)) dX11_rule_11 (nadd (a := 414) (b := 6 * r) (by omega)) ?_
  refine wp_iload_n dX11_rule_12 rfl ?_
  refine wp_iaddv (nI (6 * r + 418)) dX11_rule_13 (nadd (a := 6 * r + 414) (b := 4) (by omega)) ?_
  refine wp_ialdk (n := 1486) (6 * r + 418) (nI i) dX11_rule_14 (ka hF 294 (by decide)) (la 294) (vin (by omega) (by decide)) (nIc (by omega)) h3 ?_
  refine wp_iret dX11_rule_15 rfl ?_
  show WP G (d + 6) (0, 0) μX11_carryOut 38 [.ref (gB G + 293), .int (nI r), .int (5 : Int32), .int (nI p)] [.int (nI i), .ref (gB G + 293), .int (4 : Int32), .int (nI p), .ref (gB G + 293)] m _
  refine wp_aload_n dX11_carryOut_38 rfl ?_
  refine wp_iload_n dX11_carryOut_39 rfl ?_
  refine wp_iconst (5 : Int32) dX11_carryOut_40 (by decide) ?_
  refine wp_callV (As := [.int (nI r), .int (5 : Int32)]) (S := [.int (nI i), .ref (gB G + 293), .int (4 : Int32), .int (nI p), .ref (gB G + 293)]) (b' := (0, 0)) (b := (0, 0)) dX11_carryOut_41 MX11_236 (ka hF 293 (by decide)) rfl rfl rfl rfl (Nat.le_of_ble_eq_true rfl) ?_
  refine WPM.of pX11 (Nat.le_of_ble_eq_true rfl) rfl ?_
  refine wp_aload_n dX11_rule_0 rfl ?_
  refine wp_getr (gB G + 294) dX11_rule_1 fX11_7 (ka hF 293 (by decide)) (hF.2 _ _) (rra 1 (isK_le (ka hF 293 (by decide))) (fun _ => rfl)) ?_
  refine wp_sipush (414 : Int32) dX11_rule_4 (by decide) ?_
  refine wp_bipush (6 : Int32) dX11_rule_7 (by decide) ?_
  refine wp_iload_n dX11_rule_9 rfl ?_
  refine wp_imulv (nI (6 * r)) dX11_rule_10 (nmul (a := 6) (b := r) (by omega)) ?_
  refine wp_iaddv (nI (6 * r + 414)) dX11_rule_11 (nadd (a := 414) (b := 6 * r) (by omega)) ?_
  refine wp_iload_n dX11_rule_12 rfl ?_
  refine wp_iaddv (nI (6 * r + 419)) dX11_rule_13 (nadd (a := 6 * r + 414) (b := 5) (by omega)) ?_
  refine wp_ialdk (n := 1486) (6 * r + 419) (nI e) dX11_rule_14 (ka hF 294 (by decide)) (la 294) (vin (by omega) (by decide)) (nIc (by omega)) h4 ?_
  refine wp_iret dX11_rule_15 rfl ?_
  show WP G (d + 6) (0, 0) μX11_carryOut 44 [.ref (gB G + 293), .int (nI r), .int (5 : Int32), .int (nI p)] [.int (nI e), .int (nI i), .ref (gB G + 293), .int (4 : Int32), .int (nI p), .ref (gB G + 293)] m _
  refine wp_forget [lvU, lvU, lvU, lvU] ⟨Or.inr rfl, Or.inr rfl, Or.inr rfl, Or.inr rfl, trivial⟩ ?_
  refine wp_callV (As := [.int (nI i), .int (nI e)]) (S := [.int (4 : Int32), .int (nI p), .ref (gB G + 293)]) (b' := (0, 0)) (b := (0, 0)) dX11_carryOut_44 MX11_239 (ka hF 293 (by decide)) rfl rfl rfl rfl (Nat.le_of_ble_eq_true rfl) ?_
  exact e1

theorem bM_co5r {G : Cx} {d : Nat} {m : Mm} {Q : Option Value → Mm → Prop} {p : Nat} {z : Int64} (hF : Full G m) (hp : p < 12)
    (e1 : Q none (wai m (gB G + 294) (11 * p + 24) (Int64.toInt32 (lmax (0 : Int64) (lmin (1000000 : Int64) z))))) :
    WP G (d + 6) (0, 0) μX11_carryOut 47 [lvU, lvU, lvU, lvU] [.long z, .int (4 : Int32), .int (nI p), .ref (gB G + 293)] m Q := by
  refine wp_lconst (0 : Int64) dX11_carryOut_47 (by decide) ?_
  refine wp_ldc2 dX11_carryOut_48 kX11_245 ?_
  refine wp_callS (As := [.long z, .long (0 : Int64), .long (1000000 : Int64)]) (S := [.int (4 : Int32), .int (nI p), .ref (gB G + 293)]) (b' := (0, 0)) (b := (0, 0)) dX11_carryOut_51 MX11_117 rfl rfl (Nat.le_of_ble_eq_true rfl) ?_
  refine WPM.of pX11 (Nat.le_of_ble_eq_true rfl) rfl ?_
  refine wp_lload_n dX11_nearest_0 rfl ?_
  refine wp_lload dX11_nearest_1 rfl ?_
  refine wp_lload_n dX11_nearest_3 rfl ?_
  refine wp_minL dX11_nearest_4 AX11_58 (Nat.le_of_ble_eq_true rfl) ?_
  refine wp_maxL dX11_nearest_7 AX11_64 (Nat.le_of_ble_eq_true rfl) ?_
  refine wp_lret dX11_nearest_10 rfl ?_
  show WP G (d + 6) (0, 0) μX11_carryOut 54 [lvU, lvU, lvU, lvU] [.long (lmax (0 : Int64) (lmin (1000000 : Int64) z)), .int (4 : Int32), .int (nI p), .ref (gB G + 293)] m _
  refine wp_l2i dX11_carryOut_54 ?_
  refine wp_callV (As := [.int (nI p), .int (4 : Int32), .int (Int64.toInt32 (lmax (0 : Int64) (lmin (1000000 : Int64) z)))]) (S := []) (b' := (0, 0)) (b := (0, 0)) dX11_carryOut_55 MX11_81 (ka hF 293 (by decide)) rfl rfl rfl rfl (Nat.le_of_ble_eq_true rfl) ?_
  refine WPM.of pX11 (Nat.le_of_ble_eq_true rfl) rfl ?_
  refine wp_aload_n dX11_setNode_0 rfl ?_
  refine wp_getr (gB G + 294) dX11_setNode_1 fX11_7 (ka hF 293 (by decide)) (hF.2 _ _) (rra 1 (isK_le (ka hF 293 (by decide))) (fun _ => rfl)) ?_
  refine wp_bipush (20 : Int32) dX11_setNode_4 (by decide) ?_
  refine wp_bipush (11 : Int32) dX11_setNode_6 (by decide) ?_
  refine wp_iload_n dX11_setNode_8 rfl ?_
  refine wp_imulv (nI (11 * p)) dX11_setNode_9 (nmul (a := 11) (b := p) (by omega)) ?_
  refine wp_iaddv (nI (11 * p + 20)) dX11_setNode_10 (nadd (a := 20) (b := 11 * p) (by omega)) ?_
  refine wp_iload_n dX11_setNode_11 rfl ?_
  refine wp_iaddv (nI (11 * p + 24)) dX11_setNode_12 (nadd (a := 11 * p + 20) (b := 4) (by omega)) ?_
  refine wp_iload_n dX11_setNode_13 rfl ?_
  refine wp_iastk (n := 1486) (11 * p + 24) dX11_setNode_14 (ka hF 294 (by decide)) (la 294) (vin (by omega) (by decide))  (nIc (by omega)) ?_
  have hF1 := Full_wai (gB G + 294) (11 * p + 24) (Int64.toInt32 (lmax (0 : Int64) (lmin (1000000 : Int64) z))) hF
  refine wp_vret dX11_setNode_15 rfl ?_
  show WP G (d + 6) (0, 0) μX11_carryOut 58 [lvU, lvU, lvU, lvU] [] (wai m (gB G + 294) (11 * p + 24) (Int64.toInt32 (lmax (0 : Int64) (lmin (1000000 : Int64) z)))) _
  refine wp_goto 111 dX11_carryOut_58 (by decide) ?_
  exact wp_vret dX11_carryOut_111 rfl (e1)

theorem bM_cox {G : Cx} {d : Nat} {m : Mm} {Q : Option Value → Mm → Prop} {r : Nat} (hF : Full G m) 
    (e1 : Q none m) :
    WP G (d + 6) (0, 0) μX11_carryOut 5 [.ref (gB G + 293), .int (nI r), lvU, lvU] [.int (0 : Int32)] m Q := by
  refine wp_if_ne 9 dX11_carryOut_5 (by decide) (fun q => absurd (by decide) q) (fun _ => ?_)
  exact wp_vret dX11_carryOut_8 rfl (e1)

theorem eM_st {G : Cx} {d : Nat} {m : Mm} {Q : Option Value → Mm → Prop}  (hF : Full G m) 
    (e1 : WP G (d + 7) (0, 0) μX11_step 2 [.ref (gB G + 293), .int (0 : Int32)] [] m Q) :
    WPM G (d + 7) (0, 0) μX11_step [.ref (gB G + 293)] m Q := by
  refine WPM.of pX11 (Nat.le_of_ble_eq_true rfl) rfl ?_
  refine wp_iconst (0 : Int32) dX11_step_0 (by decide) ?_
  refine wp_istore_n dX11_step_1 (by decide) rfl ?_
  refine wp_forget [.ref (gB G + 293), .int (0 : Int32)] ⟨Or.inl rfl, Or.inl rfl, trivial⟩ ?_
  exact e1

theorem bM_st {G : Cx} {d : Nat} {m : Mm} {Q : Option Value → Mm → Prop} {r n : Nat} (hF : Full G m) (hn : ai m (gB G + 294) 15 = nI n) (h12 : n ≤ 12) (hr : r ≤ n)
    (e1 : ¬ r < n → WPM G (d + 6) (0, 0) μX11_moveLouvres [.ref (gB G + 293)] m (fun r' m' => WP G (d + 7) (0, 0) μX11_step 28 [.ref (gB G + 293), lvU] (r'.toList ++ []) m' Q))
    (e2 : r < n → WPM G (d + 6) (0, 0) μX11_carryOut [.ref (gB G + 293), .int (nI r)] m (fun r' m' => WP G (d + 7) (0, 0) μX11_step 18 [.ref (gB G + 293), .int (nI r)] (r'.toList ++ []) m' Q)) :
    WP G (d + 7) (0, 0) μX11_step 2 [.ref (gB G + 293), .int (nI r)] [] m Q := by
  refine wp_iload_n dX11_step_2 rfl ?_
  refine wp_aload_n dX11_step_3 rfl ?_
  refine wp_getr (gB G + 294) dX11_step_4 fX11_7 (ka hF 293 (by decide)) (hF.2 _ _) (rra 1 (isK_le (ka hF 293 (by decide))) (fun _ => rfl)) ?_
  refine wp_bipush (15 : Int32) dX11_step_7 (by decide) ?_
  refine wp_ialdk (n := 1486) 15 (nI n) dX11_step_9 (ka hF 294 (by decide)) (la 294) (vinl (by decide)) rfl hn ?_
  refine wp_icmp_ge 24 dX11_step_10 (by decide) (fun q1 => ?_) (fun q2 => ?_)
  · have hp3 : ¬ r < n := (fun z => q1 (nlt_ z (by omega)))
    refine wp_aload_n dX11_step_24 rfl ?_
    refine wp_forget [.ref (gB G + 293), lvU] ⟨Or.inl rfl, Or.inr rfl, trivial⟩ ?_
    refine wp_callV (As := []) (S := []) (b' := (0, 0)) (b := (0, 0)) dX11_step_25 MX11_169 (ka hF 293 (by decide)) rfl rfl rfl rfl (Nat.le_of_ble_eq_true rfl) ?_
    exact e1 hp3
  · have hp4 : r < n := (nlt q2 (by omega) (by omega))
    refine wp_aload_n dX11_step_13 rfl ?_
    refine wp_iload_n dX11_step_14 rfl ?_
    refine wp_callV (As := [.int (nI r)]) (S := []) (b' := (0, 0)) (b := (0, 0)) dX11_step_15 MX11_166 (ka hF 293 (by decide)) rfl rfl rfl rfl (Nat.le_of_ble_eq_true rfl) ?_
    exact e2 hp4

theorem bM_st1 {G : Cx} {d : Nat} {m : Mm} {Q : Option Value → Mm → Prop} {r : Nat} (hF : Full G m) 
    (e1 : WP G (d + 7) (0, 0) μX11_step 2 [.ref (gB G + 293), .int (nI (r + 1))] [] m Q) :
    WP G (d + 7) (0, 0) μX11_step 18 [.ref (gB G + 293), .int (nI r)] [] m Q := by
  refine wp_iinc (nI (r + 1)) dX11_step_18 rfl (by decide) (nadd (a := r) (b := 1) (by omega)) rfl ?_
  refine wp_goto 2 dX11_step_21 (by decide) ?_
  refine wp_forget [.ref (gB G + 293), .int (nI (r + 1))] ⟨Or.inl rfl, Or.inl rfl, trivial⟩ ?_
  exact e1

theorem bM_st2 {G : Cx} {d : Nat} {m : Mm} {Q : Option Value → Mm → Prop}  (hF : Full G m) 
    (e1 : WPM G (d + 6) (0, 0) μX11_switchHeaters [.ref (gB G + 293)] m (fun r' m' => WP G (d + 7) (0, 0) μX11_step 32 [.ref (gB G + 293), lvU] (r'.toList ++ []) m' Q)) :
    WP G (d + 7) (0, 0) μX11_step 28 [.ref (gB G + 293), lvU] [] m Q := by
  refine wp_aload_n dX11_step_28 rfl ?_
  refine wp_callV (As := []) (S := []) (b' := (0, 0)) (b := (0, 0)) dX11_step_29 MX11_172 (ka hF 293 (by decide)) rfl rfl rfl rfl (Nat.le_of_ble_eq_true rfl) ?_
  exact e1

theorem bM_st3 {G : Cx} {d : Nat} {m : Mm} {Q : Option Value → Mm → Prop}  (hF : Full G m) 
    (e1 : WPM G (d + 6) (0, 0) μX11_exchangeHeat [.ref (gB G + 293)] m (fun r' m' => WP G (d + 7) (0, 0) μX11_step 36 [.ref (gB G + 293), lvU] (r'.toList ++ []) m' Q)) :
    WP G (d + 7) (0, 0) μX11_step 32 [.ref (gB G + 293), lvU] [] m Q := by
  refine wp_aload_n dX11_step_32 rfl ?_
  refine wp_callV (As := []) (S := []) (b' := (0, 0)) (b := (0, 0)) dX11_step_33 MX11_175 (ka hF 293 (by decide)) rfl rfl rfl rfl (Nat.le_of_ble_eq_true rfl) ?_
  exact e1

theorem bM_st4 {G : Cx} {d : Nat} {m : Mm} {Q : Option Value → Mm → Prop}  (hF : Full G m) 
    (e1 : WPM G (d + 6) (0, 0) μX11_updateRecords [.ref (gB G + 293)] (wai m (gB G + 294) 0 ((ai m (gB G + 294) 0) + (ai m (gB G + 294) 1))) (fun r' m' => WP G (d + 7) (0, 0) μX11_step 55 [lvU, lvU] (r'.toList ++ []) m' Q)) :
    WP G (d + 7) (0, 0) μX11_step 36 [.ref (gB G + 293), lvU] [] m Q := by
  refine wp_aload_n dX11_step_36 rfl ?_
  refine wp_getr (gB G + 294) dX11_step_37 fX11_7 (ka hF 293 (by decide)) (hF.2 _ _) (rra 1 (isK_le (ka hF 293 (by decide))) (fun _ => rfl)) ?_
  refine wp_iconst (0 : Int32) dX11_step_40 (by decide) ?_
  refine wp_dup2 dX11_step_41 rfl rfl ?_
  refine wp_ialdk (n := 1486) 0 (ai m (gB G + 294) 0) dX11_step_42 (ka hF 294 (by decide)) (la 294) (vinl (by decide)) rfl rfl ?_
  refine wp_aload_n dX11_step_43 rfl ?_
  refine wp_getr (gB G + 294) dX11_step_44 fX11_7 (ka hF 293 (by decide)) (hF.2 _ _) (rra 1 (isK_le (ka hF 293 (by decide))) (fun _ => rfl)) ?_
  refine wp_iconst (1 : Int32) dX11_step_47 (by decide) ?_
  refine wp_ialdk (n := 1486) 1 (ai m (gB G + 294) 1) dX11_step_48 (ka hF 294 (by decide)) (la 294) (vinl (by decide)) rfl rfl ?_
  refine wp_iaddv ((ai m (gB G + 294) 0) + (ai m (gB G + 294) 1)) dX11_step_49 rfl ?_
  refine wp_iastk (n := 1486) 0 dX11_step_50 (ka hF 294 (by decide)) (la 294) (vinl (by decide))  rfl ?_
  have hF1 := Full_wai (gB G + 294) 0 ((ai m (gB G + 294) 0) + (ai m (gB G + 294) 1)) hF
  refine wp_aload_n dX11_step_51 rfl ?_
  refine wp_forget [lvU, lvU] ⟨Or.inr rfl, Or.inr rfl, trivial⟩ ?_
  refine wp_callV (As := []) (S := []) (b' := (0, 0)) (b := (0, 0)) dX11_step_52 MX11_178 (ka hF1 293 (by decide)) rfl rfl rfl rfl (Nat.le_of_ble_eq_true rfl) ?_
  exact e1

theorem bM_st5 {G : Cx} {d : Nat} {m : Mm} {Q : Option Value → Mm → Prop} {r : Int32} (hF : Full G m) 
    (g1 : r = 0 ∨ r = 1)
    (e1 : Q (some (.int r)) m) :
    WP G (d + 7) (0, 0) μX11_step 55 [lvU, lvU] [.int r] m Q := by
  exact wp_zret dX11_step_55 rfl (narz g1) (e1)
