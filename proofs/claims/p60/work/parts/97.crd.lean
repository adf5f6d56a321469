/-! THE CLASS'S READER: blocks -/

theorem bC_tk {G : Cx} {d : Nat} {m : Mm} {Q : Option Value → Mm → Prop} {a n k st w : Nat} (hF : Full G m) (ha : fi m 709 (gB G + 279) = nI a) (hn : fi m 708 (gB G + 279) = nI n) (han : a < n) (hn5 : n ≤ 501) (hk : ai m (gB G + 290) a = nI k) (hk9 : k < 1000) (hst : ai m (gB G + 291) a = nI st) (hw : w < 1000) 
    (e1 : k = w → Q (some (.int (1 : Int32))) (wfi m 709 (gB G + 279) (nI (a + 1))))
    (e2 : ¬ k = w → Q (some (.int (0 : Int32))) (wfi (wfi m 702 (gB G + 279) (1 : Int32)) 703 (gB G + 279) (nI st))) :
    WPM G (d + 2) (0, 0) μX7_take [.ref (gB G + 279), .int (nI w)] m Q := by
  refine WPM.of pX7 (Nat.le_of_ble_eq_true rfl) rfl ?_
  refine wp_aload_n dX7_take_0 rfl ?_
  refine wp_callV (As := []) (S := []) (b' := (0, 0)) (b := (0, 0)) dX7_take_1 MX7_60 (ka hF 279 (by decide)) rfl rfl rfl rfl (Nat.le_of_ble_eq_true rfl) ?_
  refine WPM.of pX7 (Nat.le_of_ble_eq_true rfl) rfl ?_
  refine wp_aload_n dX7_kind_0 rfl ?_
  refine wp_geti (nI a) dX7_kind_1 fX7_57 (Or.inl rfl) (ka hF 279 (by decide)) ha ?_
  refine wp_aload_n dX7_kind_4 rfl ?_
  refine wp_geti (nI n) dX7_kind_5 fX7_77 (Or.inl rfl) (ka hF 279 (by decide)) hn ?_
  refine wp_icmp_ge 23 dX7_kind_8 (by decide) (fun q => absurd (nlt_ (a := a) (b := n) han (by omega)) q) (fun _ => ?_)
  refine wp_aload_n dX7_kind_11 rfl ?_
  refine wp_getr (gB G + 290) dX7_kind_12 fX7_26 (ka hF 279 (by decide)) (hF.2 _ _) (rra 11 (isK_le (ka hF 279 (by decide))) (fun _ => rfl)) ?_
  refine wp_aload_n dX7_kind_15 rfl ?_
  refine wp_geti (nI a) dX7_kind_16 fX7_57 (Or.inl rfl) (ka hF 279 (by decide)) ha ?_
  refine wp_ialdk (n := 501) a (nI k) dX7_kind_19 (ka hF 290 (by decide)) (la 290) (vin (by omega) (by decide)) (nIc (by omega)) hk ?_
  refine wp_goto 24 dX7_kind_20 (by decide) ?_
  refine wp_iret dX7_kind_24 rfl ?_
  show WP G (d + 2) (0, 0) μX7_take 4 [.ref (gB G + 279), .int (nI w)] [.int (nI k)] m _
  refine wp_iload_n dX7_take_4 rfl ?_
  refine wp_icmp_eq 14 dX7_take_5 (by decide) (fun q1 => ?_) (fun q2 => ?_)
  · have hp3 : k = w := (neq q1 (by omega) (by omega))
    refine wp_aload_n dX7_take_14 rfl ?_
    refine wp_dup dX7_take_15 rfl ?_
    refine wp_geti (nI a) dX7_take_16 fX7_57 (Or.inl rfl) (ka hF 279 (by decide)) ha ?_
    refine wp_iconst (1 : Int32) dX7_take_19 (by decide) ?_
    refine wp_iaddv (nI (a + 1)) dX7_take_20 (nadd (a := a) (b := 1) (by omega)) ?_
    refine wp_puti dX7_take_21 pX7_57 (ka hF 279 (by decide)) ?_
    have hF4 := Full_wfi 709 (gB G + 279) (nI (a + 1)) hF
    refine wp_iconst (1 : Int32) dX7_take_24 (by decide) ?_
    exact wp_zret dX7_take_25 rfl rfl (e1 hp3)
  · have hp5 : ¬ k = w := (fun z => q2 (congrArg nI z))
    refine wp_aload_n dX7_take_8 rfl ?_
    refine wp_iconst (1 : Int32) dX7_take_9 (by decide) ?_
    refine wp_callV (As := [.int (1 : Int32)]) (S := []) (b' := (0, 0)) (b := (0, 0)) dX7_take_10 MX7_74 (ka hF 279 (by decide)) rfl rfl rfl rfl (Nat.le_of_ble_eq_true rfl) ?_
    refine WPM.of pX7 (Nat.le_of_ble_eq_true rfl) rfl ?_
    refine wp_aload_n dX7_fail_0 rfl ?_
    refine wp_iload_n dX7_fail_1 rfl ?_
    refine wp_puti dX7_fail_2 pX7_45 (ka hF 279 (by decide)) ?_
    have hF6 := Full_wfi 702 (gB G + 279) (1 : Int32) hF
    refine wp_aload_n dX7_fail_5 rfl ?_
    refine wp_aload_n dX7_fail_6 rfl ?_
    refine wp_geti (nI a) dX7_fail_7 fX7_57 (Or.inl rfl) (ka hF6 279 (by decide)) ((fi_ne (by decide)).trans ha) ?_
    refine wp_aload_n dX7_fail_10 rfl ?_
    refine wp_geti (nI n) dX7_fail_11 fX7_77 (Or.inl rfl) (ka hF6 279 (by decide)) ((fi_ne (by decide)).trans hn) ?_
    refine wp_icmp_ge 29 dX7_fail_14 (by decide) (fun q => absurd (nlt_ (a := a) (b := n) han (by omega)) q) (fun _ => ?_)
    refine wp_aload_n dX7_fail_17 rfl ?_
    refine wp_getr (gB G + 291) dX7_fail_18 fX7_30 (ka hF6 279 (by decide)) (hF6.2 _ _) (rra 12 (isK_le (ka hF6 279 (by decide))) (fun _ => rfl)) ?_
    refine wp_aload_n dX7_fail_21 rfl ?_
    refine wp_geti (nI a) dX7_fail_22 fX7_57 (Or.inl rfl) (ka hF6 279 (by decide)) ((fi_ne (by decide)).trans ha) ?_
    refine wp_ialdk (n := 501) a (nI st) dX7_fail_25 (ka hF6 291 (by decide)) (la 291) (vin (by omega) (by decide)) (nIc (by omega)) (ai_wfi.trans hst) ?_
    refine wp_goto 33 dX7_fail_26 (by decide) ?_
    refine wp_puti dX7_fail_33 pX7_15 (ka hF6 279 (by decide)) ?_
    have hF7 := Full_wfi 703 (gB G + 279) (nI st) hF6
    refine wp_iconst (0 : Int32) dX7_fail_36 (by decide) ?_
    refine wp_zret dX7_fail_37 rfl rfl ?_
    show WP G (d + 2) (0, 0) μX7_take 13 [.ref (gB G + 279), .int (nI w)] [.int (0 : Int32)] (wfi (wfi m 702 (gB G + 279) (1 : Int32)) 703 (gB G + 279) (nI st)) _
    exact wp_zret dX7_take_13 rfl rfl (e2 hp5)

theorem bC_tc {G : Cx} {d : Nat} {m : Mm} {Q : Option Value → Mm → Prop} {a n k st : Nat} (hF : Full G m) (ha : fi m 709 (gB G + 279) = nI a) (hn : fi m 708 (gB G + 279) = nI n) (han : a < n) (hn5 : n ≤ 501) (hk : ai m (gB G + 290) a = nI k) (hk9 : k < 1000) (hst : ai m (gB G + 291) a = nI st) 
    (e1 : k = 60 → Q (some (.int (1 : Int32))) (wfi m 709 (gB G + 279) (nI (a + 1))))
    (e2 : ¬ k = 60 → k = 62 → Q (some (.int (1 : Int32))) (wfi m 709 (gB G + 279) (nI (a + 1))))
    (e3 : ¬ k = 60 → ¬ k = 62 → k = 61 → Q (some (.int (1 : Int32))) (wfi m 709 (gB G + 279) (nI (a + 1))))
    (e4 : ¬ k = 60 → ¬ k = 62 → ¬ k = 61 → Q (some (.int (0 : Int32))) (wfi (wfi m 702 (gB G + 279) (1 : Int32)) 703 (gB G + 279) (nI st))) :
    WPM G (d + 2) (0, 0) μX7_takeComparison [.ref (gB G + 279)] m Q := by
  refine WPM.of pX7 (Nat.le_of_ble_eq_true rfl) rfl ?_
  refine wp_aload_n dX7_takeComparison_0 rfl ?_
  refine wp_callV (As := []) (S := []) (b' := (0, 0)) (b := (0, 0)) dX7_takeComparison_1 MX7_60 (ka hF 279 (by decide)) rfl rfl rfl rfl (Nat.le_of_ble_eq_true rfl) ?_
  refine WPM.of pX7 (Nat.le_of_ble_eq_true rfl) rfl ?_
  refine wp_aload_n dX7_kind_0 rfl ?_
  refine wp_geti (nI a) dX7_kind_1 fX7_57 (Or.inl rfl) (ka hF 279 (by decide)) ha ?_
  refine wp_aload_n dX7_kind_4 rfl ?_
  refine wp_geti (nI n) dX7_kind_5 fX7_77 (Or.inl rfl) (ka hF 279 (by decide)) hn ?_
  refine wp_icmp_ge 23 dX7_kind_8 (by decide) (fun q => absurd (nlt_ (a := a) (b := n) han (by omega)) q) (fun _ => ?_)
  refine wp_aload_n dX7_kind_11 rfl ?_
  refine wp_getr (gB G + 290) dX7_kind_12 fX7_26 (ka hF 279 (by decide)) (hF.2 _ _) (rra 11 (isK_le (ka hF 279 (by decide))) (fun _ => rfl)) ?_
  refine wp_aload_n dX7_kind_15 rfl ?_
  refine wp_geti (nI a) dX7_kind_16 fX7_57 (Or.inl rfl) (ka hF 279 (by decide)) ha ?_
  refine wp_ialdk (n := 501) a (nI k) dX7_kind_19 (ka hF 290 (by decide)) (la 290) (vin (by omega) (by decide)) (nIc (by omega)) hk ?_
  refine wp_goto 24 dX7_kind_20 (by decide) ?_
  refine wp_iret dX7_kind_24 rfl ?_
  show WP G (d + 2) (0, 0) μX7_takeComparison 4 [.ref (gB G + 279)] [.int (nI k)] m _
  refine wp_bipush (60 : Int32) dX7_takeComparison_4 (by decide) ?_
  refine wp_icmp_eq 33 dX7_takeComparison_6 (by decide) (fun q1 => ?_) (fun q2 => ?_)
  · have hp3 : k = 60 := (neq q1 (by omega) (by omega))
    refine wp_aload_n dX7_takeComparison_33 rfl ?_
    refine wp_dup dX7_takeComparison_34 rfl ?_
    refine wp_geti (nI a) dX7_takeComparison_35 fX7_57 (Or.inl rfl) (ka hF 279 (by decide)) ha ?_
    refine wp_iconst (1 : Int32) dX7_takeComparison_38 (by decide) ?_
    refine wp_iaddv (nI (a + 1)) dX7_takeComparison_39 (nadd (a := a) (b := 1) (by omega)) ?_
    refine wp_puti dX7_takeComparison_40 pX7_57 (ka hF 279 (by decide)) ?_
    have hF4 := Full_wfi 709 (gB G + 279) (nI (a + 1)) hF
    refine wp_iconst (1 : Int32) dX7_takeComparison_43 (by decide) ?_
    exact wp_zret dX7_takeComparison_44 rfl rfl (e1 hp3)
  · have hp5 : ¬ k = 60 := (fun z => q2 (congrArg nI z))
    refine wp_aload_n dX7_takeComparison_9 rfl ?_
    refine wp_callV (As := []) (S := []) (b' := (0, 0)) (b := (0, 0)) dX7_takeComparison_10 MX7_60 (ka hF 279 (by decide)) rfl rfl rfl rfl (Nat.le_of_ble_eq_true rfl) ?_
    refine WPM.of pX7 (Nat.le_of_ble_eq_true rfl) rfl ?_
    refine wp_aload_n dX7_kind_0 rfl ?_
    refine wp_geti (nI a) dX7_kind_1 fX7_57 (Or.inl rfl) (ka hF 279 (by decide)) ha ?_
    refine wp_aload_n dX7_kind_4 rfl ?_
    refine wp_geti (nI n) dX7_kind_5 fX7_77 (Or.inl rfl) (ka hF 279 (by decide)) hn ?_
    refine wp_icmp_ge 23 dX7_kind_8 (by decide) (fun q => absurd (nlt_ (a := a) (b := n) han (by omega)) q) (fun _ => ?_)
    refine wp_aload_n dX7_kind_11 rfl ?_
    refine wp_getr (gB G + 290) dX7_kind_12 fX7_26 (ka hF 279 (by decide)) (hF.2 _ _) (rra 11 (isK_le (ka hF 279 (by decide))) (fun _ => rfl)) ?_
    refine wp_aload_n dX7_kind_15 rfl ?_
    refine wp_geti (nI a) dX7_kind_16 fX7_57 (Or.inl rfl) (ka hF 279 (by decide)) ha ?_
    refine wp_ialdk (n := 501) a (nI k) dX7_kind_19 (ka hF 290 (by decide)) (la 290) (vin (by omega) (by decide)) (nIc (by omega)) hk ?_
    refine wp_goto 24 dX7_kind_20 (by decide) ?_
    refine wp_iret dX7_kind_24 rfl ?_
    show WP G (d + 2) (0, 0) μX7_takeComparison 13 [.ref (gB G + 279)] [.int (nI k)] m _
    refine wp_bipush (62 : Int32) dX7_takeComparison_13 (by decide) ?_
    refine wp_icmp_eq 33 dX7_takeComparison_15 (by decide) (fun q6 => ?_) (fun q7 => ?_)
    · have hp8 : k = 62 := (neq q6 (by omega) (by omega))
      refine wp_aload_n dX7_takeComparison_33 rfl ?_
      refine wp_dup dX7_takeComparison_34 rfl ?_
      refine wp_geti (nI a) dX7_takeComparison_35 fX7_57 (Or.inl rfl) (ka hF 279 (by decide)) ha ?_
      refine wp_iconst (1 : Int32) dX7_takeComparison_38 (by decide) ?_
      refine wp_iaddv (nI (a + 1)) dX7_takeComparison_39 (nadd (a := a) (b := 1) (by omega)) ?_
      refine wp_puti dX7_takeComparison_40 pX7_57 (ka hF 279 (by decide)) ?_
      have hF9 := Full_wfi 709 (gB G + 279) (nI (a + 1)) hF
      refine wp_iconst (1 : Int32) dX7_takeComparison_43 (by decide) ?_
      exact wp_zret dX7_takeComparison_44 rfl rfl (e2 hp5 hp8)
    · have hp10 : ¬ k = 62 := (fun z => q7 (congrArg nI z))
      refine wp_aload_n dX7_takeComparison_18 rfl ?_
      refine wp_callV (As := []) (S := []) (b' := (0, 0)) (b := (0, 0)) dX7_takeComparison_19 MX7_60 (ka hF 279 (by decide)) rfl rfl rfl rfl (Nat.le_of_ble_eq_true rfl) ?_
      refine WPM.of pX7 (Nat.le_of_ble_eq_true rfl) rfl ?_
      refine wp_aload_n dX7_kind_0 rfl ?_
      refine wp_geti (nI a) dX7_kind_1 fX7_57 (Or.inl rfl) (ka hF 279 (by decide)) ha ?_
      refine wp_aload_n dX7_kind_4 rfl ?_
      refine wp_geti (nI n) dX7_kind_5 fX7_77 (Or.inl rfl) (ka hF 279 (by decide)) hn ?_
      refine wp_icmp_ge 23 dX7_kind_8 (by decide) (fun q => absurd (nlt_ (a := a) (b := n) han (by omega)) q) (fun _ => ?_)
      refine wp_aload_n dX7_kind_11 rfl ?_
      refine wp_getr (gB G + 290) dX7_kind_12 fX7_26 (ka hF 279 (by decide)) (hF.2 _ _) (rra 11 (isK_le (ka hF 279 (by decide))) (fun _ => rfl)) ?_
      refine wp_aload_n dX7_kind_15 rfl ?_
      refine wp_geti (nI a) dX7_kind_16 fX7_57 (Or.inl rfl) (ka hF 279 (by decide)) ha ?_
      refine wp_ialdk (n := 501) a (nI k) dX7_kind_19 (ka hF 290 (by decide)) (la 290) (vin (by omega) (by decide)) (nIc (by omega)) hk ?_
      refine wp_goto 24 dX7_kind_20 (by decide) ?_
      refine wp_iret dX7_kind_24 rfl ?_
      show WP G (d + 2) (0, 0) μX7_takeComparison 22 [.ref (gB G + 279)] [.int (nI k)] m _
      refine wp_bipush (61 : Int32) dX7_takeComparison_22 (by decide) ?_
      refine wp_icmp_eq 33 dX7_takeComparison_24 (by decide) (fun q11 => ?_) (fun q12 => ?_)
      · have hp13 : k = 61 := (neq q11 (by omega) (by omega))
        refine wp_aload_n dX7_takeComparison_33 rfl ?_
        refine wp_dup dX7_takeComparison_34 rfl ?_
        refine wp_geti (nI a) dX7_takeComparison_35 fX7_57 (Or.inl rfl) (ka hF 279 (by decide)) ha ?_
        refine wp_iconst (1 : Int32) dX7_takeComparison_38 (by decide) ?_
        refine wp_iaddv (nI (a + 1)) dX7_takeComparison_39 (nadd (a := a) (b := 1) (by omega)) ?_
        refine wp_puti dX7_takeComparison_40 pX7_57 (ka hF 279 (by decide)) ?_
        have hF14 := Full_wfi 709 (gB G + 279) (nI (a + 1)) hF
        refine wp_iconst (1 : Int32) dX7_takeComparison_43 (by decide) ?_
        exact wp_zret dX7_takeComparison_44 rfl rfl (e3 hp5 hp10 hp13)
      · have hp15 : ¬ k = 61 := (fun z => q12 (congrArg nI z))
        refine wp_aload_n dX7_takeComparison_27 rfl ?_
        refine wp_iconst (1 : Int32) dX7_takeComparison_28 (by decide) ?_
        refine wp_callV (As := [.int (1 : Int32)]) (S := []) (b' := (0, 0)) (b := (0, 0)) dX7_takeComparison_29 MX7_74 (ka hF 279 (by decide)) rfl rfl rfl rfl (Nat.le_of_ble_eq_true rfl) ?_
        refine WPM.of pX7 (Nat.le_of_ble_eq_true rfl) rfl ?_
        refine wp_aload_n dX7_fail_0 rfl ?_
        refine wp_iload_n dX7_fail_1 rfl ?_
        refine wp_puti dX7_fail_2 pX7_45 (ka hF 279 (by decide)) ?_
        have hF16 := Full_wfi 702 (gB G + 279) (1 : Int32) hF
        refine wp_aload_n dX7_fail_5 rfl ?_
        refine wp_aload_n dX7_fail_6 rfl ?_
        refine wp_geti (nI a) dX7_fail_7 fX7_57 (Or.inl rfl) (ka hF16 279 (by decide)) ((fi_ne (by decide)).trans ha) ?_
        refine wp_aload_n dX7_fail_10 rfl ?_
        refine wp_geti (nI n) dX7_fail_11 fX7_77 (Or.inl rfl) (ka hF16 279 (by decide)) ((fi_ne (by decide)).trans hn) ?_
        refine wp_icmp_ge 29 dX7_fail_14 (by decide) (fun q => absurd (nlt_ (a := a) (b := n) han (by omega)) q) (fun _ => ?_)
        refine wp_aload_n dX7_fail_17 rfl ?_
        refine wp_getr (gB G + 291) dX7_fail_18 fX7_30 (ka hF16 279 (by decide)) (hF16.2 _ _) (rra 12 (isK_le (ka hF16 279 (by decide))) (fun _ => rfl)) ?_
        refine wp_aload_n dX7_fail_21 rfl ?_
        refine wp_geti (nI a) dX7_fail_22 fX7_57 (Or.inl rfl) (ka hF16 279 (by decide)) ((fi_ne (by decide)).trans ha) ?_
        refine wp_ialdk (n := 501) a (nI st) dX7_fail_25 (ka hF16 291 (by decide)) (la 291) (vin (by omega) (by decide)) (nIc (by omega)) (ai_wfi.trans hst) ?_
        refine wp_goto 33 dX7_fail_26 (by decide) ?_
        refine wp_puti dX7_fail_33 pX7_15 (ka hF16 279 (by decide)) ?_
        have hF17 := Full_wfi 703 (gB G + 279) (nI st) hF16
        refine wp_iconst (0 : Int32) dX7_fail_36 (by decide) ?_
        refine wp_zret dX7_fail_37 rfl rfl ?_
        show WP G (d + 2) (0, 0) μX7_takeComparison 32 [.ref (gB G + 279)] [.int (0 : Int32)] (wfi (wfi m 702 (gB G + 279) (1 : Int32)) 703 (gB G + 279) (nI st)) _
        exact wp_zret dX7_takeComparison_32 rfl rfl (e4 hp5 hp10 hp15)

theorem bC_tw {G : Cx} {d : Nat} {m : Mm} {Q : Option Value → Mm → Prop} {a n k st x y : Nat} (hF : Full G m) (ha : fi m 709 (gB G + 279) = nI a) (hn : fi m 708 (gB G + 279) = nI n) (han : a < n) (hn5 : n ≤ 501) (hk : ai m (gB G + 290) a = nI k) (hk9 : k < 1000) (hst : ai m (gB G + 291) a = nI st) (hx : x < 1000) (hy : y < 1000) 
    (e1 : k < x → Q (some (.int (0 : Int32))) (wfi (wfi m 702 (gB G + 279) (1 : Int32)) 703 (gB G + 279) (nI st)))
    (e2 : ¬ k < x → y < k → Q (some (.int (0 : Int32))) (wfi (wfi m 702 (gB G + 279) (1 : Int32)) 703 (gB G + 279) (nI st)))
    (e3 : ¬ k < x → ¬ y < k → Q (some (.int (1 : Int32))) (wfi m 709 (gB G + 279) (nI (a + 1)))) :
    WPM G (d + 2) (0, 0) μX7_takeWord [.ref (gB G + 279), .int (nI x), .int (nI y)] m Q := by
  refine WPM.of pX7 (Nat.le_of_ble_eq_true rfl) rfl ?_
  refine wp_aload_n dX7_takeWord_0 rfl ?_
  refine wp_callV (As := []) (S := []) (b' := (0, 0)) (b := (0, 0)) dX7_takeWord_1 MX7_60 (ka hF 279 (by decide)) rfl rfl rfl rfl (Nat.le_of_ble_eq_true rfl) ?_
  refine WPM.of pX7 (Nat.le_of_ble_eq_true rfl) rfl ?_
  refine wp_aload_n dX7_kind_0 rfl ?_
  refine wp_geti (nI a) dX7_kind_1 fX7_57 (Or.inl rfl) (ka hF 279 (by decide)) ha ?_
  refine wp_aload_n dX7_kind_4 rfl ?_
  refine wp_geti (nI n) dX7_kind_5 fX7_77 (Or.inl rfl) (ka hF 279 (by decide)) hn ?_
  refine wp_icmp_ge 23 dX7_kind_8 (by decide) (fun q => absurd (nlt_ (a := a) (b := n) han (by omega)) q) (fun _ => ?_)
  refine wp_aload_n dX7_kind_11 rfl ?_
  refine wp_getr (gB G + 290) dX7_kind_12 fX7_26 (ka hF 279 (by decide)) (hF.2 _ _) (rra 11 (isK_le (ka hF 279 (by decide))) (fun _ => rfl)) ?_
  refine wp_aload_n dX7_kind_15 rfl ?_
  refine wp_geti (nI a) dX7_kind_16 fX7_57 (Or.inl rfl) (ka hF 279 (by decide)) ha ?_
  refine wp_ialdk (n := 501) a (nI k) dX7_kind_19 (ka hF 290 (by decide)) (la 290) (vin (by omega) (by decide)) (nIc (by omega)) hk ?_
  refine wp_goto 24 dX7_kind_20 (by decide) ?_
  refine wp_iret dX7_kind_24 rfl ?_
  show WP G (d + 2) (0, 0) μX7_takeWord 4 [.ref (gB G + 279), .int (nI x), .int (nI y)] [.int (nI k)] m _
  refine wp_iload_n dX7_takeWord_4 rfl ?_
  refine wp_iload_n dX7_takeWord_5 rfl ?_
  refine wp_callSN (As := [.int (nI k), .int (nI x), .int (nI y)]) (S := []) (b' := (0, 0)) (b := (0, 0)) dX7_takeWord_6 MX7_174 rfl rfl (Nat.le_of_ble_eq_true rfl) ?_
  refine WPM.of pX10 (Nat.le_of_ble_eq_true rfl) rfl ?_
  refine wp_iload_n dX10_within_0 rfl ?_
  refine wp_iload_n dX10_within_1 rfl ?_
  refine wp_icmp_lt 14 dX10_within_2 (by decide) (fun q1 => ?_) (fun q2 => ?_)
  · have hp3 : k < x := (nlt q1 (by omega) (by omega))
    refine wp_iconst (0 : Int32) dX10_within_14 (by decide) ?_
    refine wp_zret dX10_within_15 rfl rfl ?_
    show WP G (d + 2) (0, 0) μX7_takeWord 9 [.ref (gB G + 279), .int (nI x), .int (nI y)] [.int (0 : Int32)] m _
    refine wp_if_ne 18 dX7_takeWord_9 (by decide) (fun q => absurd (by decide) q) (fun _ => ?_)
    refine wp_aload_n dX7_takeWord_12 rfl ?_
    refine wp_iconst (1 : Int32) dX7_takeWord_13 (by decide) ?_
    refine wp_callV (As := [.int (1 : Int32)]) (S := []) (b' := (0, 0)) (b := (0, 0)) dX7_takeWord_14 MX7_74 (ka hF 279 (by decide)) rfl rfl rfl rfl (Nat.le_of_ble_eq_true rfl) ?_
    refine WPM.of pX7 (Nat.le_of_ble_eq_true rfl) rfl ?_
    refine wp_aload_n dX7_fail_0 rfl ?_
    refine wp_iload_n dX7_fail_1 rfl ?_
    refine wp_puti dX7_fail_2 pX7_45 (ka hF 279 (by decide)) ?_
    have hF4 := Full_wfi 702 (gB G + 279) (1 : Int32) hF
    refine wp_aload_n dX7_fail_5 rfl ?_
    refine wp_aload_n dX7_fail_6 rfl ?_
    refine wp_geti (nI a) dX7_fail_7 fX7_57 (Or.inl rfl) (ka hF4 279 (by decide)) ((fi_ne (by decide)).trans ha) ?_
    refine wp_aload_n dX7_fail_10 rfl ?_
    refine wp_geti (nI n) dX7_fail_11 fX7_77 (Or.inl rfl) (ka hF4 279 (by decide)) ((fi_ne (by decide)).trans hn) ?_
    refine wp_icmp_ge 29 dX7_fail_14 (by decide) (fun q => absurd (nlt_ (a := a) (b := n) han (by omega)) q) (fun _ => ?_)
    refine wp_aload_n dX7_fail_17 rfl ?_
    refine wp_getr (gB G + 291) dX7_fail_18 fX7_30 (ka hF4 279 (by decide)) (hF4.2 _ _) (rra 12 (isK_le (ka hF4 279 (by decide))) (fun _ => rfl)) ?_
    refine wp_aload_n dX7_fail_21 rfl ?_
    refine wp_geti (nI a) dX7_fail_22 fX7_57 (Or.inl rfl) (ka hF4 279 (by decide)) ((fi_ne (by decide)).trans ha) ?_
    refine wp_ialdk (n := 501) a (nI st) dX7_fail_25 (ka hF4 291 (by decide)) (la 291) (vin (by omega) (by decide)) (nIc (by omega)) (ai_wfi.trans hst) ?_
    refine wp_goto 33 dX7_fail_26 (by decide) ?_
    refine wp_puti dX7_fail_33 pX7_15 (ka hF4 279 (by decide)) ?_
    have hF5 := Full_wfi 703 (gB G + 279) (nI st) hF4
    refine wp_iconst (0 : Int32) dX7_fail_36 (by decide) ?_
    refine wp_zret dX7_fail_37 rfl rfl ?_
    show WP G (d + 2) (0, 0) μX7_takeWord 17 [.ref (gB G + 279), .int (nI x), .int (nI y)] [.int (0 : Int32)] (wfi (wfi m 702 (gB G + 279) (1 : Int32)) 703 (gB G + 279) (nI st)) _
    exact wp_zret dX7_takeWord_17 rfl rfl (e1 hp3)
  · have hp6 : ¬ k < x := (fun z => q2 (nlt_ (b := x) z (by omega)))
    refine wp_iload_n dX10_within_5 rfl ?_
    refine wp_iload_n dX10_within_6 rfl ?_
    refine wp_icmp_gt 14 dX10_within_7 (by decide) (fun q7 => ?_) (fun q8 => ?_)
    · have hp9 : y < k := (nlt q7 (by omega) (by omega))
      refine wp_iconst (0 : Int32) dX10_within_14 (by decide) ?_
      refine wp_zret dX10_within_15 rfl rfl ?_
      show WP G (d + 2) (0, 0) μX7_takeWord 9 [.ref (gB G + 279), .int (nI x), .int (nI y)] [.int (0 : Int32)] m _
      refine wp_if_ne 18 dX7_takeWord_9 (by decide) (fun q => absurd (by decide) q) (fun _ => ?_)
      refine wp_aload_n dX7_takeWord_12 rfl ?_
      refine wp_iconst (1 : Int32) dX7_takeWord_13 (by decide) ?_
      refine wp_callV (As := [.int (1 : Int32)]) (S := []) (b' := (0, 0)) (b := (0, 0)) dX7_takeWord_14 MX7_74 (ka hF 279 (by decide)) rfl rfl rfl rfl (Nat.le_of_ble_eq_true rfl) ?_
      refine WPM.of pX7 (Nat.le_of_ble_eq_true rfl) rfl ?_
      refine wp_aload_n dX7_fail_0 rfl ?_
      refine wp_iload_n dX7_fail_1 rfl ?_
      refine wp_puti dX7_fail_2 pX7_45 (ka hF 279 (by decide)) ?_
      have hF10 := Full_wfi 702 (gB G + 279) (1 : Int32) hF
      refine wp_aload_n dX7_fail_5 rfl ?_
      refine wp_aload_n dX7_fail_6 rfl ?_
      refine wp_geti (nI a) dX7_fail_7 fX7_57 (Or.inl rfl) (ka hF10 279 (by decide)) ((fi_ne (by decide)).trans ha) ?_
      refine wp_aload_n dX7_fail_10 rfl ?_
      refine wp_geti (nI n) dX7_fail_11 fX7_77 (Or.inl rfl) (ka hF10 279 (by decide)) ((fi_ne (by decide)).trans hn) ?_
      refine wp_icmp_ge 29 dX7_fail_14 (by decide) (fun q => absurd (nlt_ (a := a) (b := n) han (by omega)) q) (fun _ => ?_)
      refine wp_aload_n dX7_fail_17 rfl ?_
      refine wp_getr (gB G + 291) dX7_fail_18 fX7_30 (ka hF10 279 (by decide)) (hF10.2 _ _) (rra 12 (isK_le (ka hF10 279 (by decide))) (fun _ => rfl)) ?_
      refine wp_aload_n dX7_fail_21 rfl ?_
      refine wp_geti (nI a) dX7_fail_22 fX7_57 (Or.inl rfl) (ka hF10 279 (by decide)) ((fi_ne (by decide)).trans ha) ?_
      refine wp_ialdk (n := 501) a (nI st) dX7_fail_25 (ka hF10 291 (by decide)) (la 291) (vin (by omega) (by decide)) (nIc (by omega)) (ai_wfi.trans hst) ?_
      refine wp_goto 33 dX7_fail_26 (by decide) ?_
      refine wp_puti dX7_fail_33 pX7_15 (ka hF10 279 (by decide)) ?_
      have hF11 := Full_wfi 703 (gB G + 279) (nI st) hF10
      refine wp_iconst (0 : Int32) dX7_fail_36 (by decide) ?_
      refine wp_zret dX7_fail_37 rfl rfl ?_
      show WP G (d + 2) (0, 0) μX7_takeWord 17 [.ref (gB G + 279), .int (nI x), .int (nI y)] [.int (0 : Int32)] (wfi (wfi m 702 (gB G + 279) (1 : Int32)) 703 (gB G + 279) (nI st)) _
      exact wp_zret dX7_takeWord_17 rfl rfl (e2 hp6 hp9)
    · have hp12 : ¬ y < k := (fun z => q8 (nlt_ (b := k) z (by omega)))
      refine wp_iconst (1 : Int32) dX10_within_10 (by decide) ?_
      refine wp_goto 15 dX10_within_11 (by decide) ?_
      refine wp_zret dX10_within_15 rfl rfl ?_
      show WP G (d + 2) (0, 0) μX7_takeWord 9 [.ref (gB G + 279), .int (nI x), .int (nI y)] [.int (1 : Int32)] m _
      refine wp_if_ne 18 dX7_takeWord_9 (by decide) (fun _ => ?_) (fun q => absurd q (by decide))
      refine wp_aload_n dX7_takeWord_18 rfl ?_
      refine wp_dup dX7_takeWord_19 rfl ?_
      refine wp_geti (nI a) dX7_takeWord_20 fX7_57 (Or.inl rfl) (ka hF 279 (by decide)) ha ?_
      refine wp_iconst (1 : Int32) dX7_takeWord_23 (by decide) ?_
      refine wp_iaddv (nI (a + 1)) dX7_takeWord_24 (nadd (a := a) (b := 1) (by omega)) ?_
      refine wp_puti dX7_takeWord_25 pX7_57 (ka hF 279 (by decide)) ?_
      have hF13 := Full_wfi 709 (gB G + 279) (nI (a + 1)) hF
      refine wp_iconst (1 : Int32) dX7_takeWord_28 (by decide) ?_
      exact wp_zret dX7_takeWord_29 rfl rfl (e3 hp6 hp12)

theorem bC_tn {G : Cx} {d : Nat} {m : Mm} {Q : Option Value → Mm → Prop} {a n k st v c : Nat} (hF : Full G m) (ha : fi m 709 (gB G + 279) = nI a) (hn : fi m 708 (gB G + 279) = nI n) (han : a < n) (hn5 : n ≤ 501) (hk : ai m (gB G + 290) a = nI k) (hk9 : k < 1000) (hst : ai m (gB G + 291) a = nI st) (hv : ai m (gB G + 292) a = nI v) (hv9 : v ≤ 1000000) (hc : c ≤ 1000000) 
    (e1 : k = 200 → v < c → Q (some (.int (1 : Int32))) (wfi (wfi m 713 (gB G + 279) (nI v)) 709 (gB G + 279) (nI (a + 1))))
    (e2 : k = 200 → ¬ v < c → Q (some (.int (0 : Int32))) (wfi (wfi (wfi m 713 (gB G + 279) (nI v)) 702 (gB G + 279) (2 : Int32)) 703 (gB G + 279) (nI st)))
    (e3 : ¬ k = 200 → Q (some (.int (0 : Int32))) (wfi (wfi m 702 (gB G + 279) (1 : Int32)) 703 (gB G + 279) (nI st))) :
    WPM G (d + 2) (0, 0) μX7_takeNumber [.ref (gB G + 279), .int (nI c)] m Q := by
  refine WPM.of pX7 (Nat.le_of_ble_eq_true rfl) rfl ?_
  refine wp_aload_n dX7_takeNumber_0 rfl ?_
  refine wp_callV (As := []) (S := []) (b' := (0, 0)) (b := (0, 0)) dX7_takeNumber_1 MX7_60 (ka hF 279 (by decide)) rfl rfl rfl rfl (Nat.le_of_ble_eq_true rfl) ?_
  refine WPM.of pX7 (Nat.le_of_ble_eq_true rfl) rfl ?_
  refine wp_aload_n dX7_kind_0 rfl ?_
  refine wp_geti (nI a) dX7_kind_1 fX7_57 (Or.inl rfl) (ka hF 279 (by decide)) ha ?_
  refine wp_aload_n dX7_kind_4 rfl ?_
  refine wp_geti (nI n) dX7_kind_5 fX7_77 (Or.inl rfl) (ka hF 279 (by decide)) hn ?_
  refine wp_icmp_ge 23 dX7_kind_8 (by decide) (fun q => absurd (nlt_ (a := a) (b := n) han (by omega)) q) (fun _ => ?_)
  refine wp_aload_n dX7_kind_11 rfl ?_
  refine wp_getr (gB G + 290) dX7_kind_12 fX7_26 (ka hF 279 (by decide)) (hF.2 _ _) (rra 11 (isK_le (ka hF 279 (by decide))) (fun _ => rfl)) ?_
  refine wp_aload_n dX7_kind_15 rfl ?_
  refine wp_geti (nI a) dX7_kind_16 fX7_57 (Or.inl rfl) (ka hF 279 (by decide)) ha ?_
  refine wp_ialdk (n := 501) a (nI k) dX7_kind_19 (ka hF 290 (by decide)) (la 290) (vin (by omega) (by decide)) (nIc (by omega)) hk ?_
  refine wp_goto 24 dX7_kind_20 (by decide) ?_
  refine wp_iret dX7_kind_24 rfl ?_
  show WP G (d + 2) (0, 0) μX7_takeNumber 4 [.ref (gB G + 279), .int (nI c)] [.int (nI k)] m _
  refine wp_sipush (200 : Int32) dX7_takeNumber_4 (by decide) ?_
  refine wp_icmp_eq 16 dX7_takeNumber_7 (by decide) (fun q1 => ?_) (fun q2 => ?_)
  · have hp3 : k = 200 := (neq q1 (by omega) (by omega))
    refine wp_aload_n dX7_takeNumber_16 rfl ?_
    refine wp_aload_n dX7_takeNumber_17 rfl ?_
    refine wp_getr (gB G + 292) dX7_takeNumber_18 fX7_33 (ka hF 279 (by decide)) (hF.2 _ _) (rra 13 (isK_le (ka hF 279 (by decide))) (fun _ => rfl)) ?_
    refine wp_aload_n dX7_takeNumber_21 rfl ?_
    refine wp_geti (nI a) dX7_takeNumber_22 fX7_57 (Or.inl rfl) (ka hF 279 (by decide)) ha ?_
    refine wp_ialdk (n := 501) a (nI v) dX7_takeNumber_25 (ka hF 292 (by decide)) (la 292) (vin (by omega) (by decide)) (nIc (by omega)) hv ?_
    refine wp_puti dX7_takeNumber_26 pX7_155 (ka hF 279 (by decide)) ?_
    have hF4 := Full_wfi 713 (gB G + 279) (nI v) hF
    refine wp_aload_n dX7_takeNumber_29 rfl ?_
    refine wp_geti (nI v) dX7_takeNumber_30 fX7_155 (Or.inl rfl) (ka hF4 279 (by decide)) fi_eq ?_
    refine wp_iload_n dX7_takeNumber_33 rfl ?_
    refine wp_icmp_lt 43 dX7_takeNumber_34 (by decide) (fun q5 => ?_) (fun q6 => ?_)
    · have hp7 : v < c := (nlt q5 (by omega) (by omega))
      refine wp_aload_n dX7_takeNumber_43 rfl ?_
      refine wp_dup dX7_takeNumber_44 rfl ?_
      refine wp_geti (nI a) dX7_takeNumber_45 fX7_57 (Or.inl rfl) (ka hF4 279 (by decide)) ((fi_ne (by decide)).trans ha) ?_
      refine wp_iconst (1 : Int32) dX7_takeNumber_48 (by decide) ?_
      refine wp_iaddv (nI (a + 1)) dX7_takeNumber_49 (nadd (a := a) (b := 1) (by omega)) ?_
      refine wp_puti dX7_takeNumber_50 pX7_57 (ka hF4 279 (by decide)) ?_
      have hF8 := Full_wfi 709 (gB G + 279) (nI (a + 1)) hF4
      refine wp_iconst (1 : Int32) dX7_takeNumber_53 (by decide) ?_
      exact wp_zret dX7_takeNumber_54 rfl rfl (e1 hp3 hp7)
    · have hp9 : ¬ v < c := (fun z => q6 (nlt_ (b := c) z (by omega)))
      refine wp_aload_n dX7_takeNumber_37 rfl ?_
      refine wp_iconst (2 : Int32) dX7_takeNumber_38 (by decide) ?_
      refine wp_callV (As := [.int (2 : Int32)]) (S := []) (b' := (0, 0)) (b := (0, 0)) dX7_takeNumber_39 MX7_74 (ka hF4 279 (by decide)) rfl rfl rfl rfl (Nat.le_of_ble_eq_true rfl) ?_
      refine WPM.of pX7 (Nat.le_of_ble_eq_true rfl) rfl ?_
      refine wp_aload_n dX7_fail_0 rfl ?_
      refine wp_iload_n dX7_fail_1 rfl ?_
      refine wp_puti dX7_fail_2 pX7_45 (ka hF4 279 (by decide)) ?_
      have hF10 := Full_wfi 702 (gB G + 279) (2 : Int32) hF4
      refine wp_aload_n dX7_fail_5 rfl ?_
      refine wp_aload_n dX7_fail_6 rfl ?_
      refine wp_geti (nI a) dX7_fail_7 fX7_57 (Or.inl rfl) (ka hF10 279 (by decide)) ((fi_ne (by decide)).trans ((fi_ne (by decide)).trans ha)) ?_
      refine wp_aload_n dX7_fail_10 rfl ?_
      refine wp_geti (nI n) dX7_fail_11 fX7_77 (Or.inl rfl) (ka hF10 279 (by decide)) ((fi_ne (by decide)).trans ((fi_ne (by decide)).trans hn)) ?_
      refine wp_icmp_ge 29 dX7_fail_14 (by decide) (fun q => absurd (nlt_ (a := a) (b := n) han (by omega)) q) (fun _ => ?_)
      refine wp_aload_n dX7_fail_17 rfl ?_
      refine wp_getr (gB G + 291) dX7_fail_18 fX7_30 (ka hF10 279 (by decide)) (hF10.2 _ _) (rra 12 (isK_le (ka hF10 279 (by decide))) (fun _ => rfl)) ?_
      refine wp_aload_n dX7_fail_21 rfl ?_
      refine wp_geti (nI a) dX7_fail_22 fX7_57 (Or.inl rfl) (ka hF10 279 (by decide)) ((fi_ne (by decide)).trans ((fi_ne (by decide)).trans ha)) ?_
      refine wp_ialdk (n := 501) a (nI st) dX7_fail_25 (ka hF10 291 (by decide)) (la 291) (vin (by omega) (by decide)) (nIc (by omega)) (ai_wfi.trans (ai_wfi.trans hst)) ?_
      refine wp_goto 33 dX7_fail_26 (by decide) ?_
      refine wp_puti dX7_fail_33 pX7_15 (ka hF10 279 (by decide)) ?_
      have hF11 := Full_wfi 703 (gB G + 279) (nI st) hF10
      refine wp_iconst (0 : Int32) dX7_fail_36 (by decide) ?_
      refine wp_zret dX7_fail_37 rfl rfl ?_
      show WP G (d + 2) (0, 0) μX7_takeNumber 42 [.ref (gB G + 279), .int (nI c)] [.int (0 : Int32)] (wfi (wfi (wfi m 713 (gB G + 279) (nI v)) 702 (gB G + 279) (2 : Int32)) 703 (gB G + 279) (nI st)) _
      exact wp_zret dX7_takeNumber_42 rfl rfl (e2 hp3 hp9)
  · have hp12 : ¬ k = 200 := (fun z => q2 (congrArg nI z))
    refine wp_aload_n dX7_takeNumber_10 rfl ?_
    refine wp_iconst (1 : Int32) dX7_takeNumber_11 (by decide) ?_
    refine wp_callV (As := [.int (1 : Int32)]) (S := []) (b' := (0, 0)) (b := (0, 0)) dX7_takeNumber_12 MX7_74 (ka hF 279 (by decide)) rfl rfl rfl rfl (Nat.le_of_ble_eq_true rfl) ?_
    refine WPM.of pX7 (Nat.le_of_ble_eq_true rfl) rfl ?_
    refine wp_aload_n dX7_fail_0 rfl ?_
    refine wp_iload_n dX7_fail_1 rfl ?_
    refine wp_puti dX7_fail_2 pX7_45 (ka hF 279 (by decide)) ?_
    have hF13 := Full_wfi 702 (gB G + 279) (1 : Int32) hF
    refine wp_aload_n dX7_fail_5 rfl ?_
    refine wp_aload_n dX7_fail_6 rfl ?_
    refine wp_geti (nI a) dX7_fail_7 fX7_57 (Or.inl rfl) (ka hF13 279 (by decide)) ((fi_ne (by decide)).trans ha) ?_
    refine wp_aload_n dX7_fail_10 rfl ?_
    refine wp_geti (nI n) dX7_fail_11 fX7_77 (Or.inl rfl) (ka hF13 279 (by decide)) ((fi_ne (by decide)).trans hn) ?_
    refine wp_icmp_ge 29 dX7_fail_14 (by decide) (fun q => absurd (nlt_ (a := a) (b := n) han (by omega)) q) (fun _ => ?_)
    refine wp_aload_n dX7_fail_17 rfl ?_
    refine wp_getr (gB G + 291) dX7_fail_18 fX7_30 (ka hF13 279 (by decide)) (hF13.2 _ _) (rra 12 (isK_le (ka hF13 279 (by decide))) (fun _ => rfl)) ?_
    refine wp_aload_n dX7_fail_21 rfl ?_
    refine wp_geti (nI a) dX7_fail_22 fX7_57 (Or.inl rfl) (ka hF13 279 (by decide)) ((fi_ne (by decide)).trans ha) ?_
    refine wp_ialdk (n := 501) a (nI st) dX7_fail_25 (ka hF13 291 (by decide)) (la 291) (vin (by omega) (by decide)) (nIc (by omega)) (ai_wfi.trans hst) ?_
    refine wp_goto 33 dX7_fail_26 (by decide) ?_
    refine wp_puti dX7_fail_33 pX7_15 (ka hF13 279 (by decide)) ?_
    have hF14 := Full_wfi 703 (gB G + 279) (nI st) hF13
    refine wp_iconst (0 : Int32) dX7_fail_36 (by decide) ?_
    refine wp_zret dX7_fail_37 rfl rfl ?_
    show WP G (d + 2) (0, 0) μX7_takeNumber 15 [.ref (gB G + 279), .int (nI c)] [.int (0 : Int32)] (wfi (wfi m 702 (gB G + 279) (1 : Int32)) 703 (gB G + 279) (nI st)) _
    exact wp_zret dX7_takeNumber_15 rfl rfl (e3 hp12)

theorem bC_em {G : Cx} {d : Nat} {m : Mm} {Q : Option Value → Mm → Prop} {s : Nat} {x y : Int32} (hF : Full G m) (hs : fi m 807 (gB G + 281) = nI s) (hs5 : s ≤ 500) 
    (e1 : ¬ s < 500 → Q none m)
    (e2 : s < 500 → Q none (wfi (wai (wai m ((gB G + 281) + 1) s x) ((gB G + 281) + 2) s y) 807 (gB G + 281) (nI (s + 1)))) :
    WPM G (d + 0) (0, 0) μX8_emitCode [.ref (gB G + 281), .int x, .int y] m Q := by
  refine WPM.of pX8 (Nat.le_of_ble_eq_true rfl) rfl ?_
  refine wp_aload_n dX8_emitCode_0 rfl ?_
  refine wp_geti (nI s) dX8_emitCode_1 fX8_37 (Or.inl rfl) (kr0 hF (isRr G)) hs ?_
  refine wp_sipush (500 : Int32) dX8_emitCode_4 (by decide) ?_
  refine wp_icmp_ge 40 dX8_emitCode_7 (by decide) (fun q1 => ?_) (fun q2 => ?_)
  · have hp3 : ¬ s < 500 := (fun z => q1 (nlt_ (b := 500) z (by omega)))
    exact wp_vret dX8_emitCode_40 rfl (e1 hp3)
  · have hp4 : s < 500 := (nlt q2 (by omega) (by omega))
    refine wp_aload_n dX8_emitCode_10 rfl ?_
    refine wp_getr ((gB G + 281) + 1) dX8_emitCode_11 fX8_9 (kr0 hF (isRr G)) (hF.2 _ _) (rra 1 (isK_le (kr0 hF (isRr G))) (fun _ => rfl)) ?_
    refine wp_aload_n dX8_emitCode_14 rfl ?_
    refine wp_geti (nI s) dX8_emitCode_15 fX8_37 (Or.inl rfl) (kr0 hF (isRr G)) hs ?_
    refine wp_iload_n dX8_emitCode_18 rfl ?_
    refine wp_iastk (n := 500) s dX8_emitCode_19 (kr hF (isRr G) 1 (by decide)) (lr (isRr G) 1 (by decide) (by decide)) (vin (by omega) (by decide))  (nIc (by omega)) ?_
    have hF5 := Full_wai ((gB G + 281) + 1) s x hF
    refine wp_aload_n dX8_emitCode_20 rfl ?_
    refine wp_getr ((gB G + 281) + 2) dX8_emitCode_21 fX8_15 (kr0 hF5 (isRr G)) (hF5.2 _ _) (rra 2 (isK_le (kr0 hF5 (isRr G))) (fun _ => rfl)) ?_
    refine wp_aload_n dX8_emitCode_24 rfl ?_
    refine wp_geti (nI s) dX8_emitCode_25 fX8_37 (Or.inl rfl) (kr0 hF5 (isRr G)) (fi_wai.trans hs) ?_
    refine wp_iload_n dX8_emitCode_28 rfl ?_
    refine wp_iastk (n := 500) s dX8_emitCode_29 (kr hF5 (isRr G) 2 (by decide)) (lr (isRr G) 2 (by decide) (by decide)) (vin (by omega) (by decide))  (nIc (by omega)) ?_
    have hF6 := Full_wai ((gB G + 281) + 2) s y hF5
    refine wp_aload_n dX8_emitCode_30 rfl ?_
    refine wp_dup dX8_emitCode_31 rfl ?_
    refine wp_geti (nI s) dX8_emitCode_32 fX8_37 (Or.inl rfl) (kr0 hF6 (isRr G)) (fi_wai.trans (fi_wai.trans hs)) ?_
    refine wp_iconst (1 : Int32) dX8_emitCode_35 (by decide) ?_
    refine wp_iaddv (nI (s + 1)) dX8_emitCode_36 (nadd (a := s) (b := 1) (by omega)) ?_
    refine wp_puti dX8_emitCode_37 pX8_37 (kr0 hF6 (isRr G)) ?_
    have hF7 := Full_wfi 807 (gB G + 281) (nI (s + 1)) hF6
    exact wp_vret dX8_emitCode_40 rfl (e2 hp4)

theorem eC_P {G : Cx} {d : Nat} {m : Mm} {Q : Option Value → Mm → Prop} {l : Nat} (hF : Full G m) 
    (e1 : WPM G (d + 3) (0, 0) μX7_readFactor [.ref (gB G + 279), .int (nI l)] m (fun r' m' => WP G (d + 4) (0, 0) μX7_readProduct 5 [.ref (gB G + 279), .int (nI l), lvU, lvU, lvU] (r'.toList ++ []) m' Q)) :
    WPM G (d + 4) (0, 0) μX7_readProduct [.ref (gB G + 279), .int (nI l)] m Q := by
  refine WPM.of pX7 (Nat.le_of_ble_eq_true rfl) rfl ?_
  refine wp_aload_n dX7_readProduct_0 rfl ?_
  refine wp_iload_n dX7_readProduct_1 rfl ?_
  refine wp_callV (As := [.int (nI l)]) (S := []) (b' := (0, 0)) (b := (0, 0)) dX7_readProduct_2 MX7_152 (ka hF 279 (by decide)) rfl rfl rfl rfl (Nat.le_of_ble_eq_true rfl) ?_
  exact e1

theorem fC_P0 {G : Cx} {d : Nat} {m : Mm} {Q : Option Value → Mm → Prop} {l : Nat} (hF : Full G m) 
    (e1 : WP G (d + 4) (0, 0) μX7_readProduct 8 [.ref (gB G + 279), .int (nI l), .int (0 : Int32), .int (0 : Int32), lvU] [] m Q) :
    WP G (d + 4) (0, 0) μX7_readProduct 5 [.ref (gB G + 279), .int (nI l), lvU, lvU, lvU] [.int (0 : Int32)] m Q := by
  refine wp_istore_n dX7_readProduct_5 (by decide) rfl ?_
  refine wp_iconst (0 : Int32) dX7_readProduct_6 (by decide) ?_
  refine wp_istore_n dX7_readProduct_7 (by decide) rfl ?_
  refine wp_forget [.ref (gB G + 279), .int (nI l), .int (0 : Int32), .int (0 : Int32), lvU] ⟨Or.inl rfl, Or.inl rfl, Or.inl rfl, Or.inl rfl, Or.inr rfl, trivial⟩ ?_
  exact e1

theorem fC_P1 {G : Cx} {d : Nat} {m : Mm} {Q : Option Value → Mm → Prop} {l : Nat} (hF : Full G m) 
    (e1 : WP G (d + 4) (0, 0) μX7_readProduct 8 [.ref (gB G + 279), .int (nI l), .int (1 : Int32), .int (0 : Int32), lvU] [] m Q) :
    WP G (d + 4) (0, 0) μX7_readProduct 5 [.ref (gB G + 279), .int (nI l), lvU, lvU, lvU] [.int (1 : Int32)] m Q := by
  refine wp_istore_n dX7_readProduct_5 (by decide) rfl ?_
  refine wp_iconst (0 : Int32) dX7_readProduct_6 (by decide) ?_
  refine wp_istore_n dX7_readProduct_7 (by decide) rfl ?_
  refine wp_forget [.ref (gB G + 279), .int (nI l), .int (1 : Int32), .int (0 : Int32), lvU] ⟨Or.inl rfl, Or.inl rfl, Or.inl rfl, Or.inl rfl, Or.inr rfl, trivial⟩ ?_
  exact e1

theorem zC_P {G : Cx} {d : Nat} {m : Mm} {Q : Option Value → Mm → Prop} {l i : Nat} (hF : Full G m) 
    (e1 : Q (some (.int (0 : Int32))) m) :
    WP G (d + 4) (0, 0) μX7_readProduct 8 [.ref (gB G + 279), .int (nI l), .int (0 : Int32), .int (nI i), lvU] [] m Q := by
  refine wp_iload_n dX7_readProduct_8 rfl ?_
  refine wp_if_eq 75 dX7_readProduct_9 (by decide) (fun _ => ?_) (fun q => absurd (by decide) q)
  refine wp_iload_n dX7_readProduct_75 rfl ?_
  exact wp_zret dX7_readProduct_76 rfl rfl (e1)

theorem bC_P {G : Cx} {d : Nat} {m : Mm} {Q : Option Value → Mm → Prop} {a n k l i : Nat} (hF : Full G m) (ha : fi m 709 (gB G + 279) = nI a) (hn : fi m 708 (gB G + 279) = nI n) (han : a < n) (hn5 : n ≤ 501) (hk : ai m (gB G + 290) a = nI k) (hk9 : k < 1000) (hi : i < 500) 
    (e1 : k = 42 → WPM G (d + 3) (0, 0) μX7_readFactor [.ref (gB G + 279), .int (nI l)] (wfi m 709 (gB G + 279) (nI (a + 1))) (fun r' m' => WP G (d + 4) (0, 0) μX7_readProduct 58 [.ref (gB G + 279), .int (nI l), lvU, .int (nI i), .int (nI k)] (r'.toList ++ []) m' Q))
    (e2 : ¬ k = 42 → ¬ k = 47 → Q (some (.int (1 : Int32))) m)
    (e3 : ¬ k = 42 → k = 47 → WPM G (d + 3) (0, 0) μX7_readFactor [.ref (gB G + 279), .int (nI l)] (wfi m 709 (gB G + 279) (nI (a + 1))) (fun r' m' => WP G (d + 4) (0, 0) μX7_readProduct 58 [.ref (gB G + 279), .int (nI l), lvU, .int (nI i), .int (nI k)] (r'.toList ++ []) m' Q)) :
    WP G (d + 4) (0, 0) μX7_readProduct 8 [.ref (gB G + 279), .int (nI l), .int (1 : Int32), .int (nI i), lvU] [] m Q := by
  refine wp_iload_n dX7_readProduct_8 rfl ?_
  refine wp_if_eq 75 dX7_readProduct_9 (by decide) (fun q => absurd q (by decide)) (fun _ => ?_)
  refine wp_iload_n dX7_readProduct_12 rfl ?_
  refine wp_sipush (500 : Int32) dX7_readProduct_13 (by decide) ?_
  refine wp_icmp_ge 75 dX7_readProduct_16 (by decide) (fun q => absurd (nlt_ (a := i) (b := 500) hi (by omega)) q) (fun _ => ?_)
  refine wp_aload_n dX7_readProduct_19 rfl ?_
  refine wp_callV (As := []) (S := []) (b' := (0, 0)) (b := (0, 0)) dX7_readProduct_20 MX7_60 (ka hF 279 (by decide)) rfl rfl rfl rfl (Nat.le_of_ble_eq_true rfl) ?_
  refine WPM.of pX7 (Nat.le_of_ble_eq_true rfl) rfl ?_
  refine wp_aload_n dX7_kind_0 rfl ?_
  refine wp_geti (nI a) dX7_kind_1 fX7_57 (Or.inl rfl) (ka hF 279 (by decide)) ha ?_
  refine wp_aload_n dX7_kind_4 rfl ?_
  refine wp_geti (nI n) dX7_kind_5 fX7_77 (Or.inl rfl) (ka hF 279 (by decide)) hn ?_
  refine wp_icmp_ge 23 dX7_kind_8 (by decide) (fun q => absurd (nlt_ (a := a) (b := n) han (by omega)) q) (fun _ => ?_)
  refine wp_aload_n dX7_kind_11 rfl ?_
  refine wp_getr (gB G + 290) dX7_kind_12 fX7_26 (ka hF 279 (by decide)) (hF.2 _ _) (rra 11 (isK_le (ka hF 279 (by decide))) (fun _ => rfl)) ?_
  refine wp_aload_n dX7_kind_15 rfl ?_
  refine wp_geti (nI a) dX7_kind_16 fX7_57 (Or.inl rfl) (ka hF 279 (by decide)) ha ?_
  refine wp_ialdk (n := 501) a (nI k) dX7_kind_19 (ka hF 290 (by decide)) (la 290) (vin (by omega) (by decide)) (nIc (by omega)) hk ?_
  refine wp_goto 24 dX7_kind_20 (by decide) ?_
  refine wp_iret dX7_kind_24 rfl ?_
  show WP G (d + 4) (0, 0) μX7_readProduct 23 [.ref (gB G + 279), .int (nI l), .int (1 : Int32), .int (nI i), lvU] [.int (nI k)] m _
  refine wp_bipush (42 : Int32) dX7_readProduct_23 (by decide) ?_
  refine wp_icmp_eq 37 dX7_readProduct_25 (by decide) (fun q1 => ?_) (fun q2 => ?_)
  · have hp3 : k = 42 := (neq q1 (by omega) (by omega))
    refine wp_aload_n dX7_readProduct_37 rfl ?_
    refine wp_callV (As := []) (S := []) (b' := (0, 0)) (b := (0, 0)) dX7_readProduct_38 MX7_60 (ka hF 279 (by decide)) rfl rfl rfl rfl (Nat.le_of_ble_eq_true rfl) ?_
    refine WPM.of pX7 (Nat.le_of_ble_eq_true rfl) rfl ?_
    refine wp_aload_n dX7_kind_0 rfl ?_
    refine wp_geti (nI a) dX7_kind_1 fX7_57 (Or.inl rfl) (ka hF 279 (by decide)) ha ?_
    refine wp_aload_n dX7_kind_4 rfl ?_
    refine wp_geti (nI n) dX7_kind_5 fX7_77 (Or.inl rfl) (ka hF 279 (by decide)) hn ?_
    refine wp_icmp_ge 23 dX7_kind_8 (by decide) (fun q => absurd (nlt_ (a := a) (b := n) han (by omega)) q) (fun _ => ?_)
    refine wp_aload_n dX7_kind_11 rfl ?_
    refine wp_getr (gB G + 290) dX7_kind_12 fX7_26 (ka hF 279 (by decide)) (hF.2 _ _) (rra 11 (isK_le (ka hF 279 (by decide))) (fun _ => rfl)) ?_
    refine wp_aload_n dX7_kind_15 rfl ?_
    refine wp_geti (nI a) dX7_kind_16 fX7_57 (Or.inl rfl) (ka hF 279 (by decide)) ha ?_
    refine wp_ialdk (n := 501) a (nI k) dX7_kind_19 (ka hF 290 (by decide)) (la 290) (vin (by omega) (by decide)) (nIc (by omega)) hk ?_
    refine wp_goto 24 dX7_kind_20 (by decide) ?_
    refine wp_iret dX7_kind_24 rfl ?_
    show WP G (d + 4) (0, 0) μX7_readProduct 41 [.ref (gB G + 279), .int (nI l), .int (1 : Int32), .int (nI i), lvU] [.int (nI k)] m _
    refine wp_istore dX7_readProduct_41 (by decide) rfl ?_
    refine wp_aload_n dX7_readProduct_43 rfl ?_
    refine wp_dup dX7_readProduct_44 rfl ?_
    refine wp_geti (nI a) dX7_readProduct_45 fX7_57 (Or.inl rfl) (ka hF 279 (by decide)) ha ?_
    refine wp_iconst (1 : Int32) dX7_readProduct_48 (by decide) ?_
    refine wp_iaddv (nI (a + 1)) dX7_readProduct_49 (nadd (a := a) (b := 1) (by omega)) ?_
    refine wp_puti dX7_readProduct_50 pX7_57 (ka hF 279 (by decide)) ?_
    have hF4 := Full_wfi 709 (gB G + 279) (nI (a + 1)) hF
    refine wp_aload_n dX7_readProduct_53 rfl ?_
    refine wp_iload_n dX7_readProduct_54 rfl ?_
    refine wp_forget [.ref (gB G + 279), .int (nI l), lvU, .int (nI i), .int (nI k)] ⟨Or.inl rfl, Or.inl rfl, Or.inr rfl, Or.inl rfl, Or.inl rfl, trivial⟩ ?_
    refine wp_callV (As := [.int (nI l)]) (S := []) (b' := (0, 0)) (b := (0, 0)) dX7_readProduct_55 MX7_152 (ka hF4 279 (by decide)) rfl rfl rfl rfl (Nat.le_of_ble_eq_true rfl) ?_
    exact e1 hp3
  · have hp5 : ¬ k = 42 := (fun z => q2 (congrArg nI z))
    refine wp_aload_n dX7_readProduct_28 rfl ?_
    refine wp_callV (As := []) (S := []) (b' := (0, 0)) (b := (0, 0)) dX7_readProduct_29 MX7_60 (ka hF 279 (by decide)) rfl rfl rfl rfl (Nat.le_of_ble_eq_true rfl) ?_
    refine WPM.of pX7 (Nat.le_of_ble_eq_true rfl) rfl ?_
    refine wp_aload_n dX7_kind_0 rfl ?_
    refine wp_geti (nI a) dX7_kind_1 fX7_57 (Or.inl rfl) (ka hF 279 (by decide)) ha ?_
    refine wp_aload_n dX7_kind_4 rfl ?_
    refine wp_geti (nI n) dX7_kind_5 fX7_77 (Or.inl rfl) (ka hF 279 (by decide)) hn ?_
    refine wp_icmp_ge 23 dX7_kind_8 (by decide) (fun q => absurd (nlt_ (a := a) (b := n) han (by omega)) q) (fun _ => ?_)
    refine wp_aload_n dX7_kind_11 rfl ?_
    refine wp_getr (gB G + 290) dX7_kind_12 fX7_26 (ka hF 279 (by decide)) (hF.2 _ _) (rra 11 (isK_le (ka hF 279 (by decide))) (fun _ => rfl)) ?_
    refine wp_aload_n dX7_kind_15 rfl ?_
    refine wp_geti (nI a) dX7_kind_16 fX7_57 (Or.inl rfl) (ka hF 279 (by decide)) ha ?_
    refine wp_ialdk (n := 501) a (nI k) dX7_kind_19 (ka hF 290 (by decide)) (la 290) (vin (by omega) (by decide)) (nIc (by omega)) hk ?_
    refine wp_goto 24 dX7_kind_20 (by decide) ?_
    refine wp_iret dX7_kind_24 rfl ?_
    show WP G (d + 4) (0, 0) μX7_readProduct 32 [.ref (gB G + 279), .int (nI l), .int (1 : Int32), .int (nI i), lvU] [.int (nI k)] m _
    refine wp_bipush (47 : Int32) dX7_readProduct_32 (by decide) ?_
    refine wp_icmp_ne 75 dX7_readProduct_34 (by decide) (fun q6 => ?_) (fun q7 => ?_)
    · have hp8 : ¬ k = 47 := (fun z => q6 (congrArg nI z))
      refine wp_iload_n dX7_readProduct_75 rfl ?_
      exact wp_zret dX7_readProduct_76 rfl rfl (e2 hp5 hp8)
    · have hp9 : k = 47 := (neq q7 (by omega) (by omega))
      refine wp_aload_n dX7_readProduct_37 rfl ?_
      refine wp_callV (As := []) (S := []) (b' := (0, 0)) (b := (0, 0)) dX7_readProduct_38 MX7_60 (ka hF 279 (by decide)) rfl rfl rfl rfl (Nat.le_of_ble_eq_true rfl) ?_
      refine WPM.of pX7 (Nat.le_of_ble_eq_true rfl) rfl ?_
      refine wp_aload_n dX7_kind_0 rfl ?_
      refine wp_geti (nI a) dX7_kind_1 fX7_57 (Or.inl rfl) (ka hF 279 (by decide)) ha ?_
      refine wp_aload_n dX7_kind_4 rfl ?_
      refine wp_geti (nI n) dX7_kind_5 fX7_77 (Or.inl rfl) (ka hF 279 (by decide)) hn ?_
      refine wp_icmp_ge 23 dX7_kind_8 (by decide) (fun q => absurd (nlt_ (a := a) (b := n) han (by omega)) q) (fun _ => ?_)
      refine wp_aload_n dX7_kind_11 rfl ?_
      refine wp_getr (gB G + 290) dX7_kind_12 fX7_26 (ka hF 279 (by decide)) (hF.2 _ _) (rra 11 (isK_le (ka hF 279 (by decide))) (fun _ => rfl)) ?_
      refine wp_aload_n dX7_kind_15 rfl ?_
      refine wp_geti (nI a) dX7_kind_16 fX7_57 (Or.inl rfl) (ka hF 279 (by decide)) ha ?_
      refine wp_ialdk (n := 501) a (nI k) dX7_kind_19 (ka hF 290 (by decide)) (la 290) (vin (by omega) (by decide)) (nIc (by omega)) hk ?_
      refine wp_goto 24 dX7_kind_20 (by decide) ?_
      refine wp_iret dX7_kind_24 rfl ?_
      show WP G (d + 4) (0, 0) μX7_readProduct 41 [.ref (gB G + 279), .int (nI l), .int (1 : Int32), .int (nI i), lvU] [.int (nI k)] m _
      refine wp_istore dX7_readProduct_41 (by decide) rfl ?_
      refine wp_aload_n dX7_readProduct_43 rfl ?_
      refine wp_dup dX7_readProduct_44 rfl ?_
      refine wp_geti (nI a) dX7_readProduct_45 fX7_57 (Or.inl rfl) (ka hF 279 (by decide)) ha ?_
      refine wp_iconst (1 : Int32) dX7_readProduct_48 (by decide) ?_
      refine wp_iaddv (nI (a + 1)) dX7_readProduct_49 (nadd (a := a) (b := 1) (by omega)) ?_
      refine wp_puti dX7_readProduct_50 pX7_57 (ka hF 279 (by decide)) ?_
      have hF10 := Full_wfi 709 (gB G + 279) (nI (a + 1)) hF
      refine wp_aload_n dX7_readProduct_53 rfl ?_
      refine wp_iload_n dX7_readProduct_54 rfl ?_
      refine wp_forget [.ref (gB G + 279), .int (nI l), lvU, .int (nI i), .int (nI k)] ⟨Or.inl rfl, Or.inl rfl, Or.inr rfl, Or.inl rfl, Or.inl rfl, trivial⟩ ?_
      refine wp_callV (As := [.int (nI l)]) (S := []) (b' := (0, 0)) (b := (0, 0)) dX7_readProduct_55 MX7_152 (ka hF10 279 (by decide)) rfl rfl rfl rfl (Nat.le_of_ble_eq_true rfl) ?_
      exact e3 hp5 hp9

theorem cC_P0 {G : Cx} {d : Nat} {m : Mm} {Q : Option Value → Mm → Prop} {k l i : Nat} (hF : Full G m) (hi : i < 500) (hk9 : k < 1000) 
    (e1 : WPM G (d + 3) (0, 0) μX8_emitCode [.ref (gB G + 281), .int (nI k), .int (0 : Int32)] m (fun r' m' => WP G (d + 4) (0, 0) μX7_readProduct 69 [.ref (gB G + 279), .int (nI l), .int (0 : Int32), .int (nI i), lvU] (r'.toList ++ []) m' Q)) :
    WP G (d + 4) (0, 0) μX7_readProduct 58 [.ref (gB G + 279), .int (nI l), lvU, .int (nI i), .int (nI k)] [.int (0 : Int32)] m Q := by
  refine wp_istore_n dX7_readProduct_58 (by decide) rfl ?_
  refine wp_aload_n dX7_readProduct_59 rfl ?_
  refine wp_getr (gB G + 281) dX7_readProduct_60 fX7_22 (ka hF 279 (by decide)) (hF.2 _ _) (rra 2 (isK_le (ka hF 279 (by decide))) (fun _ => rfl)) ?_
  refine wp_iload dX7_readProduct_63 rfl ?_
  refine wp_iconst (0 : Int32) dX7_readProduct_65 (by decide) ?_
  refine wp_forget [.ref (gB G + 279), .int (nI l), .int (0 : Int32), .int (nI i), lvU] ⟨Or.inl rfl, Or.inl rfl, Or.inl rfl, Or.inl rfl, Or.inr rfl, trivial⟩ ?_
  refine wp_callV (As := [.int (nI k), .int (0 : Int32)]) (S := []) (b' := (0, 0)) (b := (0, 0)) dX7_readProduct_66 MX7_142 (kr0 hF (isRr G)) rfl rfl rfl rfl (Nat.le_of_ble_eq_true rfl) ?_
  exact e1

theorem dC_P0 {G : Cx} {d : Nat} {m : Mm} {Q : Option Value → Mm → Prop} {l i : Nat} (hF : Full G m) (hi : i < 500) 
    (e1 : WP G (d + 4) (0, 0) μX7_readProduct 8 [.ref (gB G + 279), .int (nI l), .int (0 : Int32), .int (nI (i + 1)), lvU] [] m Q) :
    WP G (d + 4) (0, 0) μX7_readProduct 69 [.ref (gB G + 279), .int (nI l), .int (0 : Int32), .int (nI i), lvU] [] m Q := by
  refine wp_iinc (nI (i + 1)) dX7_readProduct_69 rfl (by decide) (nadd (a := i) (b := 1) (by omega)) rfl ?_
  refine wp_goto 8 dX7_readProduct_72 (by decide) ?_
  refine wp_forget [.ref (gB G + 279), .int (nI l), .int (0 : Int32), .int (nI (i + 1)), lvU] ⟨Or.inl rfl, Or.inl rfl, Or.inl rfl, Or.inl rfl, Or.inr rfl, trivial⟩ ?_
  exact e1

theorem cC_P1 {G : Cx} {d : Nat} {m : Mm} {Q : Option Value → Mm → Prop} {k l i : Nat} (hF : Full G m) (hi : i < 500) (hk9 : k < 1000) 
    (e1 : WPM G (d + 3) (0, 0) μX8_emitCode [.ref (gB G + 281), .int (nI k), .int (0 : Int32)] m (fun r' m' => WP G (d + 4) (0, 0) μX7_readProduct 69 [.ref (gB G + 279), .int (nI l), .int (1 : Int32), .int (nI i), lvU] (r'.toList ++ []) m' Q)) :
    WP G (d + 4) (0, 0) μX7_readProduct 58 [.ref (gB G + 279), .int (nI l), lvU, .int (nI i), .int (nI k)] [.int (1 : Int32)] m Q := by
  refine wp_istore_n dX7_readProduct_58 (by decide) rfl ?_
  refine wp_aload_n dX7_readProduct_59 rfl ?_
  refine wp_getr (gB G + 281) dX7_readProduct_60 fX7_22 (ka hF 279 (by decide)) (hF.2 _ _) (rra 2 (isK_le (ka hF 279 (by decide))) (fun _ => rfl)) ?_
  refine wp_iload dX7_readProduct_63 rfl ?_
  refine wp_iconst (0 : Int32) dX7_readProduct_65 (by decide) ?_
  refine wp_forget [.ref (gB G + 279), .int (nI l), .int (1 : Int32), .int (nI i), lvU] ⟨Or.inl rfl, Or.inl rfl, Or.inl rfl, Or.inl rfl, Or.inr rfl, trivial⟩ ?_
  refine wp_callV (As := [.int (nI k), .int (0 : Int32)]) (S := []) (b' := (0, 0)) (b := (0, 0)) dX7_readProduct_66 MX7_142 (kr0 hF (isRr G)) rfl rfl rfl rfl (Nat.le_of_ble_eq_true rfl) ?_
  exact e1

theorem dC_P1 {G : Cx} {d : Nat} {m : Mm} {Q : Option Value → Mm → Prop} {l i : Nat} (hF : Full G m) (hi : i < 500) 
    (e1 : WP G (d + 4) (0, 0) μX7_readProduct 8 [.ref (gB G + 279), .int (nI l), .int (1 : Int32), .int (nI (i + 1)), lvU] [] m Q) :
    WP G (d + 4) (0, 0) μX7_readProduct 69 [.ref (gB G + 279), .int (nI l), .int (1 : Int32), .int (nI i), lvU] [] m Q := by
  refine wp_iinc (nI (i + 1)) dX7_readProduct_69 rfl (by decide) (nadd (a := i) (b := 1) (by omega)) rfl ?_
  refine wp_goto 8 dX7_readProduct_72 (by decide) ?_
  refine wp_forget [.ref (gB G + 279), .int (nI l), .int (1 : Int32), .int (nI (i + 1)), lvU] ⟨Or.inl rfl, Or.inl rfl, Or.inl rfl, Or.inl rfl, Or.inr rfl, trivial⟩ ?_
  exact e1

theorem eC_S {G : Cx} {d : Nat} {m : Mm} {Q : Option Value → Mm → Prop} {l : Nat} (hF : Full G m) 
    (e1 : WPM G (d + 3) (0, 0) μX7_readProduct [.ref (gB G + 279), .int (nI l)] m (fun r' m' => WP G (d + 4) (0, 0) μX7_readSum 5 [.ref (gB G + 279), .int (nI l), lvU, lvU, lvU] (r'.toList ++ []) m' Q)) :
    WPM G (d + 4) (0, 0) μX7_readSum [.ref (gB G + 279), .int (nI l)] m Q := by
  refine WPM.of pX7 (Nat.le_of_ble_eq_true rfl) rfl ?_
  refine wp_aload_n dX7_readSum_0 rfl ?_
  refine wp_iload_n dX7_readSum_1 rfl ?_
  refine wp_callV (As := [.int (nI l)]) (S := []) (b' := (0, 0)) (b := (0, 0)) dX7_readSum_2 MX7_149 (ka hF 279 (by decide)) rfl rfl rfl rfl (Nat.le_of_ble_eq_true rfl) ?_
  exact e1

theorem fC_S0 {G : Cx} {d : Nat} {m : Mm} {Q : Option Value → Mm → Prop} {l : Nat} (hF : Full G m) 
    (e1 : WP G (d + 4) (0, 0) μX7_readSum 8 [.ref (gB G + 279), .int (nI l), .int (0 : Int32), .int (0 : Int32), lvU] [] m Q) :
    WP G (d + 4) (0, 0) μX7_readSum 5 [.ref (gB G + 279), .int (nI l), lvU, lvU, lvU] [.int (0 : Int32)] m Q := by
  refine wp_istore_n dX7_readSum_5 (by decide) rfl ?_
  refine wp_iconst (0 : Int32) dX7_readSum_6 (by decide) ?_
  refine wp_istore_n dX7_readSum_7 (by decide) rfl ?_
  refine wp_forget [.ref (gB G + 279), .int (nI l), .int (0 : Int32), .int (0 : Int32), lvU] ⟨Or.inl rfl, Or.inl rfl, Or.inl rfl, Or.inl rfl, Or.inr rfl, trivial⟩ ?_
  exact e1

theorem fC_S1 {G : Cx} {d : Nat} {m : Mm} {Q : Option Value → Mm → Prop} {l : Nat} (hF : Full G m) 
    (e1 : WP G (d + 4) (0, 0) μX7_readSum 8 [.ref (gB G + 279), .int (nI l), .int (1 : Int32), .int (0 : Int32), lvU] [] m Q) :
    WP G (d + 4) (0, 0) μX7_readSum 5 [.ref (gB G + 279), .int (nI l), lvU, lvU, lvU] [.int (1 : Int32)] m Q := by
  refine wp_istore_n dX7_readSum_5 (by decide) rfl ?_
  refine wp_iconst (0 : Int32) dX7_readSum_6 (by decide) ?_
  refine wp_istore_n dX7_readSum_7 (by decide) rfl ?_
  refine wp_forget [.ref (gB G + 279), .int (nI l), .int (1 : Int32), .int (0 : Int32), lvU] ⟨Or.inl rfl, Or.inl rfl, Or.inl rfl, Or.inl rfl, Or.inr rfl, trivial⟩ ?_
  exact e1

theorem zC_S {G : Cx} {d : Nat} {m : Mm} {Q : Option Value → Mm → Prop} {l i : Nat} (hF : Full G m) 
    (e1 : Q (some (.int (0 : Int32))) m) :
    WP G (d + 4) (0, 0) μX7_readSum 8 [.ref (gB G + 279), .int (nI l), .int (0 : Int32), .int (nI i), lvU] [] m Q := by
  refine wp_iload_n dX7_readSum_8 rfl ?_
  refine wp_if_eq 75 dX7_readSum_9 (by decide) (fun _ => ?_) (fun q => absurd (by decide) q)
  refine wp_iload_n dX7_readSum_75 rfl ?_
  exact wp_zret dX7_readSum_76 rfl rfl (e1)

theorem bC_S {G : Cx} {d : Nat} {m : Mm} {Q : Option Value → Mm → Prop} {a n k l i : Nat} (hF : Full G m) (ha : fi m 709 (gB G + 279) = nI a) (hn : fi m 708 (gB G + 279) = nI n) (han : a < n) (hn5 : n ≤ 501) (hk : ai m (gB G + 290) a = nI k) (hk9 : k < 1000) (hi : i < 500) 
    (e1 : k = 43 → WPM G (d + 3) (0, 0) μX7_readProduct [.ref (gB G + 279), .int (nI l)] (wfi m 709 (gB G + 279) (nI (a + 1))) (fun r' m' => WP G (d + 4) (0, 0) μX7_readSum 58 [.ref (gB G + 279), .int (nI l), lvU, .int (nI i), .int (nI k)] (r'.toList ++ []) m' Q))
    (e2 : ¬ k = 43 → ¬ k = 45 → Q (some (.int (1 : Int32))) m)
    (e3 : ¬ k = 43 → k = 45 → WPM G (d + 3) (0, 0) μX7_readProduct [.ref (gB G + 279), .int (nI l)] (wfi m 709 (gB G + 279) (nI (a + 1))) (fun r' m' => WP G (d + 4) (0, 0) μX7_readSum 58 [.ref (gB G + 279), .int (nI l), lvU, .int (nI i), .int (nI k)] (r'.toList ++ []) m' Q)) :
    WP G (d + 4) (0, 0) μX7_readSum 8 [.ref (gB G + 279), .int (nI l), .int (1 : Int32), .int (nI i), lvU] [] m Q := by
  refine wp_iload_n dX7_readSum_8 rfl ?_
  refine wp_if_eq 75 dX7_readSum_9 (by decide) (fun q => absurd q (by decide)) (fun _ => ?_)
  refine wp_iload_n dX7_readSum_12 rfl ?_
  refine wp_sipush (500 : Int32) dX7_readSum_13 (by decide) ?_
  refine wp_icmp_ge 75 dX7_readSum_16 (by decide) (fun q => absurd (nlt_ (a := i) (b := 500) hi (by omega)) q) (fun _ => ?_)
  refine wp_aload_n dX7_readSum_19 rfl ?_
  refine wp_callV (As := []) (S := []) (b' := (0, 0)) (b := (0, 0)) dX7_readSum_20 MX7_60 (ka hF 279 (by decide)) rfl rfl rfl rfl (Nat.le_of_ble_eq_true rfl) ?_
  refine WPM.of pX7 (Nat.le_of_ble_eq_true rfl) rfl ?_
  refine wp_aload_n dX7_kind_0 rfl ?_
  refine wp_geti (nI a) dX7_kind_1 fX7_57 (Or.inl rfl) (ka hF 279 (by decide)) ha ?_
  refine wp_aload_n dX7_kind_4 rfl ?_
  refine wp_geti (nI n) dX7_kind_5 fX7_77 (Or.inl rfl) (ka hF 279 (by decide)) hn ?_
  refine wp_icmp_ge 23 dX7_kind_8 (by decide) (fun q => absurd (nlt_ (a := a) (b := n) han (by omega)) q) (fun _ => ?_)
  refine wp_aload_n dX7_kind_11 rfl ?_
  refine wp_getr (gB G + 290) dX7_kind_12 fX7_26 (ka hF 279 (by decide)) (hF.2 _ _) (rra 11 (isK_le (ka hF 279 (by decide))) (fun _ => rfl)) ?_
  refine wp_aload_n dX7_kind_15 rfl ?_
  refine wp_geti (nI a) dX7_kind_16 fX7_57 (Or.inl rfl) (ka hF 279 (by decide)) ha ?_
  refine wp_ialdk (n := 501) a (nI k) dX7_kind_19 (ka hF 290 (by decide)) (la 290) (vin (by omega) (by decide)) (nIc (by omega)) hk ?_
  refine wp_goto 24 dX7_kind_20 (by decide) ?_
  refine wp_iret dX7_kind_24 rfl ?_
  show WP G (d + 4) (0, 0) μX7_readSum 23 [.ref (gB G + 279), .int (nI l), .int (1 : Int32), .int (nI i), lvU] [.int (nI k)] m _
  refine wp_bipush (43 : Int32) dX7_readSum_23 (by decide) ?_
  refine wp_icmp_eq 37 dX7_readSum_25 (by decide) (fun q1 => ?_) (fun q2 => ?_)
  · have hp3 : k = 43 := (neq q1 (by omega) (by omega))
    refine wp_aload_n dX7_readSum_37 rfl ?_
    refine wp_callV (As := []) (S := []) (b' := (0, 0)) (b := (0, 0)) dX7_readSum_38 MX7_60 (ka hF 279 (by decide)) rfl rfl rfl rfl (Nat.le_of_ble_eq_true rfl) ?_
    refine WPM.of pX7 (Nat.le_of_ble_eq_true rfl) rfl ?_
    refine wp_aload_n dX7_kind_0 rfl ?_
    refine wp_geti (nI a) dX7_kind_1 fX7_57 (Or.inl rfl) (ka hF 279 (by decide)) ha ?_
    refine wp_aload_n dX7_kind_4 rfl ?_
    refine wp_geti (nI n) dX7_kind_5 fX7_77 (Or.inl rfl) (ka hF 279 (by decide)) hn ?_
    refine wp_icmp_ge 23 dX7_kind_8 (by decide) (fun q => absurd (nlt_ (a := a) (b := n) han (by omega)) q) (fun _ => ?_)
    refine wp_aload_n dX7_kind_11 rfl ?_
    refine wp_getr (gB G + 290) dX7_kind_12 fX7_26 (ka hF 279 (by decide)) (hF.2 _ _) (rra 11 (isK_le (ka hF 279 (by decide))) (fun _ => rfl)) ?_
    refine wp_aload_n dX7_kind_15 rfl ?_
    refine wp_geti (nI a) dX7_kind_16 fX7_57 (Or.inl rfl) (ka hF 279 (by decide)) ha ?_
    refine wp_ialdk (n := 501) a (nI k) dX7_kind_19 (ka hF 290 (by decide)) (la 290) (vin (by omega) (by decide)) (nIc (by omega)) hk ?_
    refine wp_goto 24 dX7_kind_20 (by decide) ?_
    refine wp_iret dX7_kind_24 rfl ?_
    show WP G (d + 4) (0, 0) μX7_readSum 41 [.ref (gB G + 279), .int (nI l), .int (1 : Int32), .int (nI i), lvU] [.int (nI k)] m _
    refine wp_istore dX7_readSum_41 (by decide) rfl ?_
    refine wp_aload_n dX7_readSum_43 rfl ?_
    refine wp_dup dX7_readSum_44 rfl ?_
    refine wp_geti (nI a) dX7_readSum_45 fX7_57 (Or.inl rfl) (ka hF 279 (by decide)) ha ?_
    refine wp_iconst (1 : Int32) dX7_readSum_48 (by decide) ?_
    refine wp_iaddv (nI (a + 1)) dX7_readSum_49 (nadd (a := a) (b := 1) (by omega)) ?_
    refine wp_puti dX7_readSum_50 pX7_57 (ka hF 279 (by decide)) ?_
    have hF4 := Full_wfi 709 (gB G + 279) (nI (a + 1)) hF
    refine wp_aload_n dX7_readSum_53 rfl ?_
    refine wp_iload_n dX7_readSum_54 rfl ?_
    refine wp_forget [.ref (gB G + 279), .int (nI l), lvU, .int (nI i), .int (nI k)] ⟨Or.inl rfl, Or.inl rfl, Or.inr rfl, Or.inl rfl, Or.inl rfl, trivial⟩ ?_
    refine wp_callV (As := [.int (nI l)]) (S := []) (b' := (0, 0)) (b := (0, 0)) dX7_readSum_55 MX7_149 (ka hF4 279 (by decide)) rfl rfl rfl rfl (Nat.le_of_ble_eq_true rfl) ?_
    exact e1 hp3
  · have hp5 : ¬ k = 43 := (fun z => q2 (congrArg nI z))
    refine wp_aload_n dX7_readSum_28 rfl ?_
    refine wp_callV (As := []) (S := []) (b' := (0, 0)) (b := (0, 0)) dX7_readSum_29 MX7_60 (ka hF 279 (by decide)) rfl rfl rfl rfl (Nat.le_of_ble_eq_true rfl) ?_
    refine WPM.of pX7 (Nat.le_of_ble_eq_true rfl) rfl ?_
    refine wp_aload_n dX7_kind_0 rfl ?_
    refine wp_geti (nI a) dX7_kind_1 fX7_57 (Or.inl rfl) (ka hF 279 (by decide)) ha ?_
    refine wp_aload_n dX7_kind_4 rfl ?_
    refine wp_geti (nI n) dX7_kind_5 fX7_77 (Or.inl rfl) (ka hF 279 (by decide)) hn ?_
    refine wp_icmp_ge 23 dX7_kind_8 (by decide) (fun q => absurd (nlt_ (a := a) (b := n) han (by omega)) q) (fun _ => ?_)
    refine wp_aload_n dX7_kind_11 rfl ?_
    refine wp_getr (gB G + 290) dX7_kind_12 fX7_26 (ka hF 279 (by decide)) (hF.2 _ _) (rra 11 (isK_le (ka hF 279 (by decide))) (fun _ => rfl)) ?_
    refine wp_aload_n dX7_kind_15 rfl ?_
    refine wp_geti (nI a) dX7_kind_16 fX7_57 (Or.inl rfl) (ka hF 279 (by decide)) ha ?_
    refine wp_ialdk (n := 501) a (nI k) dX7_kind_19 (ka hF 290 (by decide)) (la 290) (vin (by omega) (by decide)) (nIc (by omega)) hk ?_
    refine wp_goto 24 dX7_kind_20 (by decide) ?_
    refine wp_iret dX7_kind_24 rfl ?_
    show WP G (d + 4) (0, 0) μX7_readSum 32 [.ref (gB G + 279), .int (nI l), .int (1 : Int32), .int (nI i), lvU] [.int (nI k)] m _
    refine wp_bipush (45 : Int32) dX7_readSum_32 (by decide) ?_
    refine wp_icmp_ne 75 dX7_readSum_34 (by decide) (fun q6 => ?_) (fun q7 => ?_)
    · have hp8 : ¬ k = 45 := (fun z => q6 (congrArg nI z))
      refine wp_iload_n dX7_readSum_75 rfl ?_
      exact wp_zret dX7_readSum_76 rfl rfl (e2 hp5 hp8)
    · have hp9 : k = 45 := (neq q7 (by omega) (by omega))
      refine wp_aload_n dX7_readSum_37 rfl ?_
      refine wp_callV (As := []) (S := []) (b' := (0, 0)) (b := (0, 0)) dX7_readSum_38 MX7_60 (ka hF 279 (by decide)) rfl rfl rfl rfl (Nat.le_of_ble_eq_true rfl) ?_
      refine WPM.of pX7 (Nat.le_of_ble_eq_true rfl) rfl ?_
      refine wp_aload_n dX7_kind_0 rfl ?_
      refine wp_geti (nI a) dX7_kind_1 fX7_57 (Or.inl rfl) (ka hF 279 (by decide)) ha ?_
      refine wp_aload_n dX7_kind_4 rfl ?_
      refine wp_geti (nI n) dX7_kind_5 fX7_77 (Or.inl rfl) (ka hF 279 (by decide)) hn ?_
      refine wp_icmp_ge 23 dX7_kind_8 (by decide) (fun q => absurd (nlt_ (a := a) (b := n) han (by omega)) q) (fun _ => ?_)
      refine wp_aload_n dX7_kind_11 rfl ?_
      refine wp_getr (gB G + 290) dX7_kind_12 fX7_26 (ka hF 279 (by decide)) (hF.2 _ _) (rra 11 (isK_le (ka hF 279 (by decide))) (fun _ => rfl)) ?_
      refine wp_aload_n dX7_kind_15 rfl ?_
      refine wp_geti (nI a) dX7_kind_16 fX7_57 (Or.inl rfl) (ka hF 279 (by decide)) ha ?_
      refine wp_ialdk (n := 501) a (nI k) dX7_kind_19 (ka hF 290 (by decide)) (la 290) (vin (by omega) (by decide)) (nIc (by omega)) hk ?_
      refine wp_goto 24 dX7_kind_20 (by decide) ?_
      refine wp_iret dX7_kind_24 rfl ?_
      show WP G (d + 4) (0, 0) μX7_readSum 41 [.ref (gB G + 279), .int (nI l), .int (1 : Int32), .int (nI i), lvU] [.int (nI k)] m _
      refine wp_istore dX7_readSum_41 (by decide) rfl ?_
      refine wp_aload_n dX7_readSum_43 rfl ?_
      refine wp_dup dX7_readSum_44 rfl ?_
      refine wp_geti (nI a) dX7_readSum_45 fX7_57 (Or.inl rfl) (ka hF 279 (by decide)) ha ?_
      refine wp_iconst (1 : Int32) dX7_readSum_48 (by decide) ?_
      refine wp_iaddv (nI (a + 1)) dX7_readSum_49 (nadd (a := a) (b := 1) (by omega)) ?_
      refine wp_puti dX7_readSum_50 pX7_57 (ka hF 279 (by decide)) ?_
      have hF10 := Full_wfi 709 (gB G + 279) (nI (a + 1)) hF
      refine wp_aload_n dX7_readSum_53 rfl ?_
      refine wp_iload_n dX7_readSum_54 rfl ?_
      refine wp_forget [.ref (gB G + 279), .int (nI l), lvU, .int (nI i), .int (nI k)] ⟨Or.inl rfl, Or.inl rfl, Or.inr rfl, Or.inl rfl, Or.inl rfl, trivial⟩ ?_
      refine wp_callV (As := [.int (nI l)]) (S := []) (b' := (0, 0)) (b := (0, 0)) dX7_readSum_55 MX7_149 (ka hF10 279 (by decide)) rfl rfl rfl rfl (Nat.le_of_ble_eq_true rfl) ?_
      exact e3 hp5 hp9

theorem cC_S0 {G : Cx} {d : Nat} {m : Mm} {Q : Option Value → Mm → Prop} {k l i : Nat} (hF : Full G m) (hi : i < 500) (hk9 : k < 1000) 
    (e1 : WPM G (d + 3) (0, 0) μX8_emitCode [.ref (gB G + 281), .int (nI k), .int (0 : Int32)] m (fun r' m' => WP G (d + 4) (0, 0) μX7_readSum 69 [.ref (gB G + 279), .int (nI l), .int (0 : Int32), .int (nI i), lvU] (r'.toList ++ []) m' Q)) :
    WP G (d + 4) (0, 0) μX7_readSum 58 [.ref (gB G + 279), .int (nI l), lvU, .int (nI i), .int (nI k)] [.int (0 : Int32)] m Q := by
  refine wp_istore_n dX7_readSum_58 (by decide) rfl ?_
  refine wp_aload_n dX7_readSum_59 rfl ?_
  refine wp_getr (gB G + 281) dX7_readSum_60 fX7_22 (ka hF 279 (by decide)) (hF.2 _ _) (rra 2 (isK_le (ka hF 279 (by decide))) (fun _ => rfl)) ?_
  refine wp_iload dX7_readSum_63 rfl ?_
  refine wp_iconst (0 : Int32) dX7_readSum_65 (by decide) ?_
  refine wp_forget [.ref (gB G + 279), .int (nI l), .int (0 : Int32), .int (nI i), lvU] ⟨Or.inl rfl, Or.inl rfl, Or.inl rfl, Or.inl rfl, Or.inr rfl, trivial⟩ ?_
  refine wp_callV (As := [.int (nI k), .int (0 : Int32)]) (S := []) (b' := (0, 0)) (b := (0, 0)) dX7_readSum_66 MX7_142 (kr0 hF (isRr G)) rfl rfl rfl rfl (Nat.le_of_ble_eq_true rfl) ?_
  exact e1

theorem dC_S0 {G : Cx} {d : Nat} {m : Mm} {Q : Option Value → Mm → Prop} {l i : Nat} (hF : Full G m) (hi : i < 500) 
    (e1 : WP G (d + 4) (0, 0) μX7_readSum 8 [.ref (gB G + 279), .int (nI l), .int (0 : Int32), .int (nI (i + 1)), lvU] [] m Q) :
    WP G (d + 4) (0, 0) μX7_readSum 69 [.ref (gB G + 279), .int (nI l), .int (0 : Int32), .int (nI i), lvU] [] m Q := by
  refine wp_iinc (nI (i + 1)) dX7_readSum_69 rfl (by decide) (nadd (a := i) (b := 1) (by omega)) rfl ?_
  refine wp_goto 8 dX7_readSum_72 (by decide) ?_
  refine wp_forget [.ref (gB G + 279), .int (nI l), .int (0 : Int32), .int (nI (i + 1)), lvU] ⟨Or.inl rfl, Or.inl rfl, Or.inl rfl, Or.inl rfl, Or.inr rfl, trivial⟩ ?_
  exact e1

theorem cC_S1 {G : Cx} {d : Nat} {m : Mm} {Q : Option Value → Mm → Prop} {k l i : Nat} (hF : Full G m) (hi : i < 500) (hk9 : k < 1000) 
    (e1 : WPM G (d + 3) (0, 0) μX8_emitCode [.ref (gB G + 281), .int (nI k), .int (0 : Int32)] m (fun r' m' => WP G (d + 4) (0, 0) μX7_readSum 69 [.ref (gB G + 279), .int (nI l), .int (1 : Int32), .int (nI i), lvU] (r'.toList ++ []) m' Q)) :
    WP G (d + 4) (0, 0) μX7_readSum 58 [.ref (gB G + 279), .int (nI l), lvU, .int (nI i), .int (nI k)] [.int (1 : Int32)] m Q := by
  refine wp_istore_n dX7_readSum_58 (by decide) rfl ?_
  refine wp_aload_n dX7_readSum_59 rfl ?_
  refine wp_getr (gB G + 281) dX7_readSum_60 fX7_22 (ka hF 279 (by decide)) (hF.2 _ _) (rra 2 (isK_le (ka hF 279 (by decide))) (fun _ => rfl)) ?_
  refine wp_iload dX7_readSum_63 rfl ?_
  refine wp_iconst (0 : Int32) dX7_readSum_65 (by decide) ?_
  refine wp_forget [.ref (gB G + 279), .int (nI l), .int (1 : Int32), .int (nI i), lvU] ⟨Or.inl rfl, Or.inl rfl, Or.inl rfl, Or.inl rfl, Or.inr rfl, trivial⟩ ?_
  refine wp_callV (As := [.int (nI k), .int (0 : Int32)]) (S := []) (b' := (0, 0)) (b := (0, 0)) dX7_readSum_66 MX7_142 (kr0 hF (isRr G)) rfl rfl rfl rfl (Nat.le_of_ble_eq_true rfl) ?_
  exact e1

theorem dC_S1 {G : Cx} {d : Nat} {m : Mm} {Q : Option Value → Mm → Prop} {l i : Nat} (hF : Full G m) (hi : i < 500) 
    (e1 : WP G (d + 4) (0, 0) μX7_readSum 8 [.ref (gB G + 279), .int (nI l), .int (1 : Int32), .int (nI (i + 1)), lvU] [] m Q) :
    WP G (d + 4) (0, 0) μX7_readSum 69 [.ref (gB G + 279), .int (nI l), .int (1 : Int32), .int (nI i), lvU] [] m Q := by
  refine wp_iinc (nI (i + 1)) dX7_readSum_69 rfl (by decide) (nadd (a := i) (b := 1) (by omega)) rfl ?_
  refine wp_goto 8 dX7_readSum_72 (by decide) ?_
  refine wp_forget [.ref (gB G + 279), .int (nI l), .int (1 : Int32), .int (nI (i + 1)), lvU] ⟨Or.inl rfl, Or.inl rfl, Or.inl rfl, Or.inl rfl, Or.inr rfl, trivial⟩ ?_
  exact e1

theorem bC_F45 {G : Cx} {d : Nat} {m : Mm} {Q : Option Value → Mm → Prop} {a n st l : Nat} (hF : Full G m) (ha : fi m 709 (gB G + 279) = nI a) (hn : fi m 708 (gB G + 279) = nI n) (han : a < n) (hn5 : n ≤ 501) (hk : ai m (gB G + 290) a = (45 : Int32)) (hst : ai m (gB G + 291) a = nI st) (hl : l ≤ 20) 
    (e1 : l < 20 → WPM G (d + 3) (0, 0) μX7_readFactor [.ref (gB G + 279), .int (nI (l + 1))] (wfi m 709 (gB G + 279) (nI (a + 1))) (fun r' m' => WP G (d + 4) (0, 0) μX7_readFactor 77 [.ref (gB G + 279), lvU, lvU, lvU] (r'.toList ++ []) m' Q))
    (e2 : ¬ l < 20 → Q (some (.int (0 : Int32))) (wfi (wfi m 702 (gB G + 279) (4 : Int32)) 703 (gB G + 279) (nI st))) :
    WPM G (d + 4) (0, 0) μX7_readFactor [.ref (gB G + 279), .int (nI l)] m Q := by
  refine WPM.of pX7 (Nat.le_of_ble_eq_true rfl) rfl ?_
  refine wp_aload_n dX7_readFactor_0 rfl ?_
  refine wp_callV (As := []) (S := []) (b' := (0, 0)) (b := (0, 0)) dX7_readFactor_1 MX7_60 (ka hF 279 (by decide)) rfl rfl rfl rfl (Nat.le_of_ble_eq_true rfl) ?_
  refine WPM.of pX7 (Nat.le_of_ble_eq_true rfl) rfl ?_
  refine wp_aload_n dX7_kind_0 rfl ?_
  refine wp_geti (nI a) dX7_kind_1 fX7_57 (Or.inl rfl) (ka hF 279 (by decide)) ha ?_
  refine wp_aload_n dX7_kind_4 rfl ?_
  refine wp_geti (nI n) dX7_kind_5 fX7_77 (Or.inl rfl) (ka hF 279 (by decide)) hn ?_
  refine wp_icmp_ge 23 dX7_kind_8 (by decide) (fun q => absurd (nlt_ (a := a) (b := n) han (by omega)) q) (fun _ => ?_)
  refine wp_aload_n dX7_kind_11 rfl ?_
  refine wp_getr (gB G + 290) dX7_kind_12 fX7_26 (ka hF 279 (by decide)) (hF.2 _ _) (rra 11 (isK_le (ka hF 279 (by decide))) (fun _ => rfl)) ?_
  refine wp_aload_n dX7_kind_15 rfl ?_
  refine wp_geti (nI a) dX7_kind_16 fX7_57 (Or.inl rfl) (ka hF 279 (by decide)) ha ?_
  refine wp_ialdk (n := 501) a (45 : Int32) dX7_kind_19 (ka hF 290 (by decide)) (la 290) (vin (by omega) (by decide)) (nIc (by omega)) hk ?_
  refine wp_goto 24 dX7_kind_20 (by decide) ?_
  refine wp_iret dX7_kind_24 rfl ?_
  show WP G (d + 4) (0, 0) μX7_readFactor 4 [.ref (gB G + 279), .int (nI l), lvU, lvU] [.int (45 : Int32)] m _
  refine wp_istore_n dX7_readFactor_4 (by decide) rfl ?_
  refine wp_iload_n dX7_readFactor_5 rfl ?_
  refine wp_bipush (45 : Int32) dX7_readFactor_6 (by decide) ?_
  refine wp_icmp_eq 17 dX7_readFactor_8 (by decide) (fun _ => ?_) (fun q => absurd (by decide) q)
  refine wp_iload_n dX7_readFactor_17 rfl ?_
  refine wp_bipush (20 : Int32) dX7_readFactor_18 (by decide) ?_
  refine wp_icmp_lt 29 dX7_readFactor_20 (by decide) (fun q1 => ?_) (fun q2 => ?_)
  · have hp3 : l < 20 := (nlt q1 (by omega) (by omega))
    refine wp_aload_n dX7_readFactor_29 rfl ?_
    refine wp_dup dX7_readFactor_30 rfl ?_
    refine wp_geti (nI a) dX7_readFactor_31 fX7_57 (Or.inl rfl) (ka hF 279 (by decide)) ha ?_
    refine wp_iconst (1 : Int32) dX7_readFactor_34 (by decide) ?_
    refine wp_iaddv (nI (a + 1)) dX7_readFactor_35 (nadd (a := a) (b := 1) (by omega)) ?_
    refine wp_puti dX7_readFactor_36 pX7_57 (ka hF 279 (by decide)) ?_
    have hF4 := Full_wfi 709 (gB G + 279) (nI (a + 1)) hF
    refine wp_iload_n dX7_readFactor_39 rfl ?_
    refine wp_bipush (40 : Int32) dX7_readFactor_40 (by decide) ?_
    refine wp_icmp_ne 70 dX7_readFactor_42 (by decide) (fun _ => ?_) (fun q => absurd q (by decide))
    refine wp_aload_n dX7_readFactor_70 rfl ?_
    refine wp_iload_n dX7_readFactor_71 rfl ?_
    refine wp_iconst (1 : Int32) dX7_readFactor_72 (by decide) ?_
    refine wp_iaddv (nI (l + 1)) dX7_readFactor_73 (nadd (a := l) (b := 1) (by omega)) ?_
    refine wp_forget [.ref (gB G + 279), lvU, lvU, lvU] ⟨Or.inl rfl, Or.inr rfl, Or.inr rfl, Or.inr rfl, trivial⟩ ?_
    refine wp_callV (As := [.int (nI (l + 1))]) (S := []) (b' := (0, 0)) (b := (0, 0)) dX7_readFactor_74 MX7_152 (ka hF4 279 (by decide)) rfl rfl rfl rfl (Nat.le_of_ble_eq_true rfl) ?_
    exact e1 hp3
  · have hp5 : ¬ l < 20 := (fun z => q2 (nlt_ (b := 20) z (by omega)))
    refine wp_aload_n dX7_readFactor_23 rfl ?_
    refine wp_iconst (4 : Int32) dX7_readFactor_24 (by decide) ?_
    refine wp_callV (As := [.int (4 : Int32)]) (S := []) (b' := (0, 0)) (b := (0, 0)) dX7_readFactor_25 MX7_74 (ka hF 279 (by decide)) rfl rfl rfl rfl (Nat.le_of_ble_eq_true rfl) ?_
    refine WPM.of pX7 (Nat.le_of_ble_eq_true rfl) rfl ?_
    refine wp_aload_n dX7_fail_0 rfl ?_
    refine wp_iload_n dX7_fail_1 rfl ?_
    refine wp_puti dX7_fail_2 pX7_45 (ka hF 279 (by decide)) ?_
    have hF6 := Full_wfi 702 (gB G + 279) (4 : Int32) hF
    refine wp_aload_n dX7_fail_5 rfl ?_
    refine wp_aload_n dX7_fail_6 rfl ?_
    refine wp_geti (nI a) dX7_fail_7 fX7_57 (Or.inl rfl) (ka hF6 279 (by decide)) ((fi_ne (by decide)).trans ha) ?_
    refine wp_aload_n dX7_fail_10 rfl ?_
    refine wp_geti (nI n) dX7_fail_11 fX7_77 (Or.inl rfl) (ka hF6 279 (by decide)) ((fi_ne (by decide)).trans hn) ?_
    refine wp_icmp_ge 29 dX7_fail_14 (by decide) (fun q => absurd (nlt_ (a := a) (b := n) han (by omega)) q) (fun _ => ?_)
    refine wp_aload_n dX7_fail_17 rfl ?_
    refine wp_getr (gB G + 291) dX7_fail_18 fX7_30 (ka hF6 279 (by decide)) (hF6.2 _ _) (rra 12 (isK_le (ka hF6 279 (by decide))) (fun _ => rfl)) ?_
    refine wp_aload_n dX7_fail_21 rfl ?_
    refine wp_geti (nI a) dX7_fail_22 fX7_57 (Or.inl rfl) (ka hF6 279 (by decide)) ((fi_ne (by decide)).trans ha) ?_
    refine wp_ialdk (n := 501) a (nI st) dX7_fail_25 (ka hF6 291 (by decide)) (la 291) (vin (by omega) (by decide)) (nIc (by omega)) (ai_wfi.trans hst) ?_
    refine wp_goto 33 dX7_fail_26 (by decide) ?_
    refine wp_puti dX7_fail_33 pX7_15 (ka hF6 279 (by decide)) ?_
    have hF7 := Full_wfi 703 (gB G + 279) (nI st) hF6
    refine wp_iconst (0 : Int32) dX7_fail_36 (by decide) ?_
    refine wp_zret dX7_fail_37 rfl rfl ?_
    show WP G (d + 4) (0, 0) μX7_readFactor 28 [.ref (gB G + 279), .int (nI l), .int (45 : Int32), lvU] [.int (0 : Int32)] (wfi (wfi m 702 (gB G + 279) (4 : Int32)) 703 (gB G + 279) (nI st)) _
    exact wp_zret dX7_readFactor_28 rfl rfl (e2 hp5)

theorem cC_F450 {G : Cx} {d : Nat} {m : Mm} {Q : Option Value → Mm → Prop}  (hF : Full G m) 
    (e1 : WPM G (d + 3) (0, 0) μX8_emitCode [.ref (gB G + 281), .int (220 : Int32), .int (0 : Int32)] m (fun r' m' => WP G (d + 4) (0, 0) μX7_readFactor 89 [lvU, lvU, lvU, .int (0 : Int32)] (r'.toList ++ []) m' Q)) :
    WP G (d + 4) (0, 0) μX7_readFactor 77 [.ref (gB G + 279), lvU, lvU, lvU] [.int (0 : Int32)] m Q := by
  refine wp_istore_n dX7_readFactor_77 (by decide) rfl ?_
  refine wp_aload_n dX7_readFactor_78 rfl ?_
  refine wp_getr (gB G + 281) dX7_readFactor_79 fX7_22 (ka hF 279 (by decide)) (hF.2 _ _) (rra 2 (isK_le (ka hF 279 (by decide))) (fun _ => rfl)) ?_
  refine wp_sipush (220 : Int32) dX7_readFactor_82 (by decide) ?_
  refine wp_iconst (0 : Int32) dX7_readFactor_85 (by decide) ?_
  refine wp_forget [lvU, lvU, lvU, .int (0 : Int32)] ⟨Or.inr rfl, Or.inr rfl, Or.inr rfl, Or.inl rfl, trivial⟩ ?_
  refine wp_callV (As := [.int (220 : Int32), .int (0 : Int32)]) (S := []) (b' := (0, 0)) (b := (0, 0)) dX7_readFactor_86 MX7_142 (kr0 hF (isRr G)) rfl rfl rfl rfl (Nat.le_of_ble_eq_true rfl) ?_
  exact e1

theorem dC_F450 {G : Cx} {d : Nat} {m : Mm} {Q : Option Value → Mm → Prop}  (hF : Full G m) 
    (e1 : Q (some (.int (0 : Int32))) m) :
    WP G (d + 4) (0, 0) μX7_readFactor 89 [lvU, lvU, lvU, .int (0 : Int32)] [] m Q := by
  refine wp_iload_n dX7_readFactor_89 rfl ?_
  exact wp_zret dX7_readFactor_90 rfl rfl (e1)

theorem cC_F451 {G : Cx} {d : Nat} {m : Mm} {Q : Option Value → Mm → Prop}  (hF : Full G m) 
    (e1 : WPM G (d + 3) (0, 0) μX8_emitCode [.ref (gB G + 281), .int (220 : Int32), .int (0 : Int32)] m (fun r' m' => WP G (d + 4) (0, 0) μX7_readFactor 89 [lvU, lvU, lvU, .int (1 : Int32)] (r'.toList ++ []) m' Q)) :
    WP G (d + 4) (0, 0) μX7_readFactor 77 [.ref (gB G + 279), lvU, lvU, lvU] [.int (1 : Int32)] m Q := by
  refine wp_istore_n dX7_readFactor_77 (by decide) rfl ?_
  refine wp_aload_n dX7_readFactor_78 rfl ?_
  refine wp_getr (gB G + 281) dX7_readFactor_79 fX7_22 (ka hF 279 (by decide)) (hF.2 _ _) (rra 2 (isK_le (ka hF 279 (by decide))) (fun _ => rfl)) ?_
  refine wp_sipush (220 : Int32) dX7_readFactor_82 (by decide) ?_
  refine wp_iconst (0 : Int32) dX7_readFactor_85 (by decide) ?_
  refine wp_forget [lvU, lvU, lvU, .int (1 : Int32)] ⟨Or.inr rfl, Or.inr rfl, Or.inr rfl, Or.inl rfl, trivial⟩ ?_
  refine wp_callV (As := [.int (220 : Int32), .int (0 : Int32)]) (S := []) (b' := (0, 0)) (b := (0, 0)) dX7_readFactor_86 MX7_142 (kr0 hF (isRr G)) rfl rfl rfl rfl (Nat.le_of_ble_eq_true rfl) ?_
  exact e1

theorem dC_F451 {G : Cx} {d : Nat} {m : Mm} {Q : Option Value → Mm → Prop}  (hF : Full G m) 
    (e1 : Q (some (.int (1 : Int32))) m) :
    WP G (d + 4) (0, 0) μX7_readFactor 89 [lvU, lvU, lvU, .int (1 : Int32)] [] m Q := by
  refine wp_iload_n dX7_readFactor_89 rfl ?_
  exact wp_zret dX7_readFactor_90 rfl rfl (e1)

theorem bC_F40 {G : Cx} {d : Nat} {m : Mm} {Q : Option Value → Mm → Prop} {a n st l : Nat} (hF : Full G m) (ha : fi m 709 (gB G + 279) = nI a) (hn : fi m 708 (gB G + 279) = nI n) (han : a < n) (hn5 : n ≤ 501) (hk : ai m (gB G + 290) a = (40 : Int32)) (hst : ai m (gB G + 291) a = nI st) (hl : l ≤ 20) 
    (e1 : l < 20 → WPM G (d + 3) (0, 0) μX7_readSum [.ref (gB G + 279), .int (nI (l + 1))] (wfi m 709 (gB G + 279) (nI (a + 1))) (fun r' m' => WP G (d + 4) (0, 0) μX7_readFactor 52 [.ref (gB G + 279), lvU, lvU, lvU] (r'.toList ++ []) m' Q))
    (e2 : ¬ l < 20 → Q (some (.int (0 : Int32))) (wfi (wfi m 702 (gB G + 279) (4 : Int32)) 703 (gB G + 279) (nI st))) :
    WPM G (d + 4) (0, 0) μX7_readFactor [.ref (gB G + 279), .int (nI l)] m Q := by
  refine WPM.of pX7 (Nat.le_of_ble_eq_true rfl) rfl ?_
  refine wp_aload_n dX7_readFactor_0 rfl ?_
  refine wp_callV (As := []) (S := []) (b' := (0, 0)) (b := (0, 0)) dX7_readFactor_1 MX7_60 (ka hF 279 (by decide)) rfl rfl rfl rfl (Nat.le_of_ble_eq_true rfl) ?_
  refine WPM.of pX7 (Nat.le_of_ble_eq_true rfl) rfl ?_
  refine wp_aload_n dX7_kind_0 rfl ?_
  refine wp_geti (nI a) dX7_kind_1 fX7_57 (Or.inl rfl) (ka hF 279 (by decide)) ha ?_
  refine wp_aload_n dX7_kind_4 rfl ?_
  refine wp_geti (nI n) dX7_kind_5 fX7_77 (Or.inl rfl) (ka hF 279 (by decide)) hn ?_
  refine wp_icmp_ge 23 dX7_kind_8 (by decide) (fun q => absurd (nlt_ (a := a) (b := n) han (by omega)) q) (fun _ => ?_)
  refine wp_aload_n dX7_kind_11 rfl ?_
  refine wp_getr (gB G + 290) dX7_kind_12 fX7_26 (ka hF 279 (by decide)) (hF.2 _ _) (rra 11 (isK_le (ka hF 279 (by decide))) (fun _ => rfl)) ?_
  refine wp_aload_n dX7_kind_15 rfl ?_
  refine wp_geti (nI a) dX7_kind_16 fX7_57 (Or.inl rfl) (ka hF 279 (by decide)) ha ?_
  refine wp_ialdk (n := 501) a (40 : Int32) dX7_kind_19 (ka hF 290 (by decide)) (la 290) (vin (by omega) (by decide)) (nIc (by omega)) hk ?_
  refine wp_goto 24 dX7_kind_20 (by decide) ?_
  refine wp_iret dX7_kind_24 rfl ?_
  show WP G (d + 4) (0, 0) μX7_readFactor 4 [.ref (gB G + 279), .int (nI l), lvU, lvU] [.int (40 : Int32)] m _
  refine wp_istore_n dX7_readFactor_4 (by decide) rfl ?_
  refine wp_iload_n dX7_readFactor_5 rfl ?_
  refine wp_bipush (45 : Int32) dX7_readFactor_6 (by decide) ?_
  refine wp_icmp_eq 17 dX7_readFactor_8 (by decide) (fun q => absurd q (by decide)) (fun _ => ?_)
  refine wp_iload_n dX7_readFactor_11 rfl ?_
  refine wp_bipush (40 : Int32) dX7_readFactor_12 (by decide) ?_
  refine wp_icmp_ne 91 dX7_readFactor_14 (by decide) (fun q => absurd (by decide) q) (fun _ => ?_)
  refine wp_iload_n dX7_readFactor_17 rfl ?_
  refine wp_bipush (20 : Int32) dX7_readFactor_18 (by decide) ?_
  refine wp_icmp_lt 29 dX7_readFactor_20 (by decide) (fun q1 => ?_) (fun q2 => ?_)
  · have hp3 : l < 20 := (nlt q1 (by omega) (by omega))
    refine wp_aload_n dX7_readFactor_29 rfl ?_
    refine wp_dup dX7_readFactor_30 rfl ?_
    refine wp_geti (nI a) dX7_readFactor_31 fX7_57 (Or.inl rfl) (ka hF 279 (by decide)) ha ?_
    refine wp_iconst (1 : Int32) dX7_readFactor_34 (by decide) ?_
    refine wp_iaddv (nI (a + 1)) dX7_readFactor_35 (nadd (a := a) (b := 1) (by omega)) ?_
    refine wp_puti dX7_readFactor_36 pX7_57 (ka hF 279 (by decide)) ?_
    have hF4 := Full_wfi 709 (gB G + 279) (nI (a + 1)) hF
    refine wp_iload_n dX7_readFactor_39 rfl ?_
    refine wp_bipush (40 : Int32) dX7_readFactor_40 (by decide) ?_
    refine wp_icmp_ne 70 dX7_readFactor_42 (by decide) (fun q => absurd (by decide) q) (fun _ => ?_)
    refine wp_aload_n dX7_readFactor_45 rfl ?_
    refine wp_iload_n dX7_readFactor_46 rfl ?_
    refine wp_iconst (1 : Int32) dX7_readFactor_47 (by decide) ?_
    refine wp_iaddv (nI (l + 1)) dX7_readFactor_48 (nadd (a := l) (b := 1) (by omega)) ?_
    refine wp_forget [.ref (gB G + 279), lvU, lvU, lvU] ⟨Or.inl rfl, Or.inr rfl, Or.inr rfl, Or.inr rfl, trivial⟩ ?_
    refine wp_callV (As := [.int (nI (l + 1))]) (S := []) (b' := (0, 0)) (b := (0, 0)) dX7_readFactor_49 MX7_135 (ka hF4 279 (by decide)) rfl rfl rfl rfl (Nat.le_of_ble_eq_true rfl) ?_
    exact e1 hp3
  · have hp5 : ¬ l < 20 := (fun z => q2 (nlt_ (b := 20) z (by omega)))
    refine wp_aload_n dX7_readFactor_23 rfl ?_
    refine wp_iconst (4 : Int32) dX7_readFactor_24 (by decide) ?_
    refine wp_callV (As := [.int (4 : Int32)]) (S := []) (b' := (0, 0)) (b := (0, 0)) dX7_readFactor_25 MX7_74 (ka hF 279 (by decide)) rfl rfl rfl rfl (Nat.le_of_ble_eq_true rfl) ?_
    refine WPM.of pX7 (Nat.le_of_ble_eq_true rfl) rfl ?_
    refine wp_aload_n dX7_fail_0 rfl ?_
    refine wp_iload_n dX7_fail_1 rfl ?_
    refine wp_puti dX7_fail_2 pX7_45 (ka hF 279 (by decide)) ?_
    have hF6 := Full_wfi 702 (gB G + 279) (4 : Int32) hF
    refine wp_aload_n dX7_fail_5 rfl ?_
    refine wp_aload_n dX7_fail_6 rfl ?_
    refine wp_geti (nI a) dX7_fail_7 fX7_57 (Or.inl rfl) (ka hF6 279 (by decide)) ((fi_ne (by decide)).trans ha) ?_
    refine wp_aload_n dX7_fail_10 rfl ?_
    refine wp_geti (nI n) dX7_fail_11 fX7_77 (Or.inl rfl) (ka hF6 279 (by decide)) ((fi_ne (by decide)).trans hn) ?_
    refine wp_icmp_ge 29 dX7_fail_14 (by decide) (fun q => absurd (nlt_ (a := a) (b := n) han (by omega)) q) (fun _ => ?_)
    refine wp_aload_n dX7_fail_17 rfl ?_
    refine wp_getr (gB G + 291) dX7_fail_18 fX7_30 (ka hF6 279 (by decide)) (hF6.2 _ _) (rra 12 (isK_le (ka hF6 279 (by decide))) (fun _ => rfl)) ?_
    refine wp_aload_n dX7_fail_21 rfl ?_
    refine wp_geti (nI a) dX7_fail_22 fX7_57 (Or.inl rfl) (ka hF6 279 (by decide)) ((fi_ne (by decide)).trans ha) ?_
    refine wp_ialdk (n := 501) a (nI st) dX7_fail_25 (ka hF6 291 (by decide)) (la 291) (vin (by omega) (by decide)) (nIc (by omega)) (ai_wfi.trans hst) ?_
    refine wp_goto 33 dX7_fail_26 (by decide) ?_
    refine wp_puti dX7_fail_33 pX7_15 (ka hF6 279 (by decide)) ?_
    have hF7 := Full_wfi 703 (gB G + 279) (nI st) hF6
    refine wp_iconst (0 : Int32) dX7_fail_36 (by decide) ?_
    refine wp_zret dX7_fail_37 rfl rfl ?_
    show WP G (d + 4) (0, 0) μX7_readFactor 28 [.ref (gB G + 279), .int (nI l), .int (40 : Int32), lvU] [.int (0 : Int32)] (wfi (wfi m 702 (gB G + 279) (4 : Int32)) 703 (gB G + 279) (nI st)) _
    exact wp_zret dX7_readFactor_28 rfl rfl (e2 hp5)

theorem cC_F400 {G : Cx} {d : Nat} {m : Mm} {Q : Option Value → Mm → Prop}  (hF : Full G m) 
    (e1 : Q (some (.int (0 : Int32))) m) :
    WP G (d + 4) (0, 0) μX7_readFactor 52 [.ref (gB G + 279), lvU, lvU, lvU] [.int (0 : Int32)] m Q := by
  refine wp_if_eq 68 dX7_readFactor_52 (by decide) (fun _ => ?_) (fun q => absurd (by decide) q)
  refine wp_iconst (0 : Int32) dX7_readFactor_68 (by decide) ?_
  exact wp_zret dX7_readFactor_69 rfl rfl (e1)

theorem cC_F401 {G : Cx} {d : Nat} {m : Mm} {Q : Option Value → Mm → Prop}  (hF : Full G m) 
    (e1 : WPM G (d + 3) (0, 0) μX7_take [.ref (gB G + 279), .int (41 : Int32)] m (fun r' m' => WP G (d + 4) (0, 0) μX7_readFactor 61 [lvU, lvU, lvU, lvU] (r'.toList ++ []) m' Q)) :
    WP G (d + 4) (0, 0) μX7_readFactor 52 [.ref (gB G + 279), lvU, lvU, lvU] [.int (1 : Int32)] m Q := by
  refine wp_if_eq 68 dX7_readFactor_52 (by decide) (fun q => absurd q (by decide)) (fun _ => ?_)
  refine wp_aload_n dX7_readFactor_55 rfl ?_
  refine wp_bipush (41 : Int32) dX7_readFactor_56 (by decide) ?_
  refine wp_forget [lvU, lvU, lvU, lvU] ⟨Or.inr rfl, Or.inr rfl, Or.inr rfl, Or.inr rfl, trivial⟩ ?_
  refine wp_callV (As := [.int (41 : Int32)]) (S := []) (b' := (0, 0)) (b := (0, 0)) dX7_readFactor_58 MX7_71 (ka hF 279 (by decide)) rfl rfl rfl rfl (Nat.le_of_ble_eq_true rfl) ?_
  exact e1

theorem dC_F400 {G : Cx} {d : Nat} {m : Mm} {Q : Option Value → Mm → Prop}  (hF : Full G m) 
    (e1 : Q (some (.int (0 : Int32))) m) :
    WP G (d + 4) (0, 0) μX7_readFactor 61 [lvU, lvU, lvU, lvU] [.int (0 : Int32)] m Q := by
  refine wp_if_eq 68 dX7_readFactor_61 (by decide) (fun _ => ?_) (fun q => absurd (by decide) q)
  refine wp_iconst (0 : Int32) dX7_readFactor_68 (by decide) ?_
  exact wp_zret dX7_readFactor_69 rfl rfl (e1)

theorem dC_F401 {G : Cx} {d : Nat} {m : Mm} {Q : Option Value → Mm → Prop}  (hF : Full G m) 
    (e1 : Q (some (.int (1 : Int32))) m) :
    WP G (d + 4) (0, 0) μX7_readFactor 61 [lvU, lvU, lvU, lvU] [.int (1 : Int32)] m Q := by
  refine wp_if_eq 68 dX7_readFactor_61 (by decide) (fun q => absurd q (by decide)) (fun _ => ?_)
  refine wp_iconst (1 : Int32) dX7_readFactor_64 (by decide) ?_
  refine wp_goto 69 dX7_readFactor_65 (by decide) ?_
  exact wp_zret dX7_readFactor_69 rfl rfl (e1)

theorem bC_F200 {G : Cx} {d : Nat} {m : Mm} {Q : Option Value → Mm → Prop} {a n st l : Nat} (hF : Full G m) (ha : fi m 709 (gB G + 279) = nI a) (hn : fi m 708 (gB G + 279) = nI n) (han : a < n) (hn5 : n ≤ 501) (hk : ai m (gB G + 290) a = (200 : Int32)) (hst : ai m (gB G + 291) a = nI st) (hl : l ≤ 20) 
    (e1 : WPM G (d + 3) (0, 0) μX7_takeNumber [.ref (gB G + 279), .int (1000000 : Int32)] (wfi m 713 (gB G + 279) (0 : Int32)) (fun r' m' => WP G (d + 4) (0, 0) μX7_readFactor 166 [.ref (gB G + 279), lvU, .int (200 : Int32), lvU] (r'.toList ++ []) m' Q)) :
    WPM G (d + 4) (0, 0) μX7_readFactor [.ref (gB G + 279), .int (nI l)] m Q := by
  refine WPM.of pX7 (Nat.le_of_ble_eq_true rfl) rfl ?_
  refine wp_aload_n dX7_readFactor_0 rfl ?_
  refine wp_callV (As := []) (S := []) (b' := (0, 0)) (b := (0, 0)) dX7_readFactor_1 MX7_60 (ka hF 279 (by decide)) rfl rfl rfl rfl (Nat.le_of_ble_eq_true rfl) ?_
  refine WPM.of pX7 (Nat.le_of_ble_eq_true rfl) rfl ?_
  refine wp_aload_n dX7_kind_0 rfl ?_
  refine wp_geti (nI a) dX7_kind_1 fX7_57 (Or.inl rfl) (ka hF 279 (by decide)) ha ?_
  refine wp_aload_n dX7_kind_4 rfl ?_
  refine wp_geti (nI n) dX7_kind_5 fX7_77 (Or.inl rfl) (ka hF 279 (by decide)) hn ?_
  refine wp_icmp_ge 23 dX7_kind_8 (by decide) (fun q => absurd (nlt_ (a := a) (b := n) han (by omega)) q) (fun _ => ?_)
  refine wp_aload_n dX7_kind_11 rfl ?_
  refine wp_getr (gB G + 290) dX7_kind_12 fX7_26 (ka hF 279 (by decide)) (hF.2 _ _) (rra 11 (isK_le (ka hF 279 (by decide))) (fun _ => rfl)) ?_
  refine wp_aload_n dX7_kind_15 rfl ?_
  refine wp_geti (nI a) dX7_kind_16 fX7_57 (Or.inl rfl) (ka hF 279 (by decide)) ha ?_
  refine wp_ialdk (n := 501) a (200 : Int32) dX7_kind_19 (ka hF 290 (by decide)) (la 290) (vin (by omega) (by decide)) (nIc (by omega)) hk ?_
  refine wp_goto 24 dX7_kind_20 (by decide) ?_
  refine wp_iret dX7_kind_24 rfl ?_
  show WP G (d + 4) (0, 0) μX7_readFactor 4 [.ref (gB G + 279), .int (nI l), lvU, lvU] [.int (200 : Int32)] m _
  refine wp_istore_n dX7_readFactor_4 (by decide) rfl ?_
  refine wp_iload_n dX7_readFactor_5 rfl ?_
  refine wp_bipush (45 : Int32) dX7_readFactor_6 (by decide) ?_
  refine wp_icmp_eq 17 dX7_readFactor_8 (by decide) (fun q => absurd q (by decide)) (fun _ => ?_)
  refine wp_iload_n dX7_readFactor_11 rfl ?_
  refine wp_bipush (40 : Int32) dX7_readFactor_12 (by decide) ?_
  refine wp_icmp_ne 91 dX7_readFactor_14 (by decide) (fun _ => ?_) (fun q => absurd q (by decide))
  refine wp_iconst (1 : Int32) dX7_readFactor_91 (by decide) ?_
  refine wp_istore_n dX7_readFactor_92 (by decide) rfl ?_
  refine wp_aload_n dX7_readFactor_93 rfl ?_
  refine wp_iconst (0 : Int32) dX7_readFactor_94 (by decide) ?_
  refine wp_puti dX7_readFactor_95 pX7_155 (ka hF 279 (by decide)) ?_
  have hF1 := Full_wfi 713 (gB G + 279) (0 : Int32) hF
  refine wp_iload_n dX7_readFactor_98 rfl ?_
  refine wp_tableIn (off := 61) 160 dX7_readFactor_99 (by decide) (by decide) rfl (by decide) ?_
  refine wp_aload_n dX7_readFactor_160 rfl ?_
  refine wp_ldc dX7_readFactor_161 kX7_126 ?_
  refine wp_forget [.ref (gB G + 279), lvU, .int (200 : Int32), lvU] ⟨Or.inl rfl, Or.inr rfl, Or.inl rfl, Or.inr rfl, trivial⟩ ?_
  refine wp_callV (As := [.int (1000000 : Int32)]) (S := []) (b' := (0, 0)) (b := (0, 0)) dX7_readFactor_163 MX7_158 (ka hF1 279 (by decide)) rfl rfl rfl rfl (Nat.le_of_ble_eq_true rfl) ?_
  exact e1

theorem cC_F2000 {G : Cx} {d : Nat} {m : Mm} {Q : Option Value → Mm → Prop} {v : Nat} (hF : Full G m) (hv : fi m 713 (gB G + 279) = nI v) 
    (e1 : WPM G (d + 3) (0, 0) μX8_emitCode [.ref (gB G + 281), .int (200 : Int32), .int (nI v)] m (fun r' m' => WP G (d + 4) (0, 0) μX7_readFactor 267 [lvU, lvU, lvU, .int (0 : Int32)] (r'.toList ++ []) m' Q)) :
    WP G (d + 4) (0, 0) μX7_readFactor 166 [.ref (gB G + 279), lvU, .int (200 : Int32), lvU] [.int (0 : Int32)] m Q := by
  refine wp_istore_n dX7_readFactor_166 (by decide) rfl ?_
  refine wp_goto 255 dX7_readFactor_167 (by decide) ?_
  refine wp_aload_n dX7_readFactor_255 rfl ?_
  refine wp_getr (gB G + 281) dX7_readFactor_256 fX7_22 (ka hF 279 (by decide)) (hF.2 _ _) (rra 2 (isK_le (ka hF 279 (by decide))) (fun _ => rfl)) ?_
  refine wp_iload_n dX7_readFactor_259 rfl ?_
  refine wp_aload_n dX7_readFactor_260 rfl ?_
  refine wp_geti (nI v) dX7_readFactor_261 fX7_155 (Or.inl rfl) (ka hF 279 (by decide)) hv ?_
  refine wp_forget [lvU, lvU, lvU, .int (0 : Int32)] ⟨Or.inr rfl, Or.inr rfl, Or.inr rfl, Or.inl rfl, trivial⟩ ?_
  refine wp_callV (As := [.int (200 : Int32), .int (nI v)]) (S := []) (b' := (0, 0)) (b := (0, 0)) dX7_readFactor_264 MX7_142 (kr0 hF (isRr G)) rfl rfl rfl rfl (Nat.le_of_ble_eq_true rfl) ?_
  exact e1

theorem dC_F2000 {G : Cx} {d : Nat} {m : Mm} {Q : Option Value → Mm → Prop}  (hF : Full G m) 
    (e1 : Q (some (.int (0 : Int32))) m) :
    WP G (d + 4) (0, 0) μX7_readFactor 267 [lvU, lvU, lvU, .int (0 : Int32)] [] m Q := by
  refine wp_iload_n dX7_readFactor_267 rfl ?_
  exact wp_zret dX7_readFactor_268 rfl rfl (e1)

theorem cC_F2001 {G : Cx} {d : Nat} {m : Mm} {Q : Option Value → Mm → Prop} {v : Nat} (hF : Full G m) (hv : fi m 713 (gB G + 279) = nI v) 
    (e1 : WPM G (d + 3) (0, 0) μX8_emitCode [.ref (gB G + 281), .int (200 : Int32), .int (nI v)] m (fun r' m' => WP G (d + 4) (0, 0) μX7_readFactor 267 [lvU, lvU, lvU, .int (1 : Int32)] (r'.toList ++ []) m' Q)) :
    WP G (d + 4) (0, 0) μX7_readFactor 166 [.ref (gB G + 279), lvU, .int (200 : Int32), lvU] [.int (1 : Int32)] m Q := by
  refine wp_istore_n dX7_readFactor_166 (by decide) rfl ?_
  refine wp_goto 255 dX7_readFactor_167 (by decide) ?_
  refine wp_aload_n dX7_readFactor_255 rfl ?_
  refine wp_getr (gB G + 281) dX7_readFactor_256 fX7_22 (ka hF 279 (by decide)) (hF.2 _ _) (rra 2 (isK_le (ka hF 279 (by decide))) (fun _ => rfl)) ?_
  refine wp_iload_n dX7_readFactor_259 rfl ?_
  refine wp_aload_n dX7_readFactor_260 rfl ?_
  refine wp_geti (nI v) dX7_readFactor_261 fX7_155 (Or.inl rfl) (ka hF 279 (by decide)) hv ?_
  refine wp_forget [lvU, lvU, lvU, .int (1 : Int32)] ⟨Or.inr rfl, Or.inr rfl, Or.inr rfl, Or.inl rfl, trivial⟩ ?_
  refine wp_callV (As := [.int (200 : Int32), .int (nI v)]) (S := []) (b' := (0, 0)) (b := (0, 0)) dX7_readFactor_264 MX7_142 (kr0 hF (isRr G)) rfl rfl rfl rfl (Nat.le_of_ble_eq_true rfl) ?_
  exact e1

theorem dC_F2001 {G : Cx} {d : Nat} {m : Mm} {Q : Option Value → Mm → Prop}  (hF : Full G m) 
    (e1 : Q (some (.int (1 : Int32))) m) :
    WP G (d + 4) (0, 0) μX7_readFactor 267 [lvU, lvU, lvU, .int (1 : Int32)] [] m Q := by
  refine wp_iload_n dX7_readFactor_267 rfl ?_
  exact wp_zret dX7_readFactor_268 rfl rfl (e1)

theorem bC_F205 {G : Cx} {d : Nat} {m : Mm} {Q : Option Value → Mm → Prop} {a n st l : Nat} {c : Nat} (hF : Full G m) (ha : fi m 709 (gB G + 279) = nI a) (hn : fi m 708 (gB G + 279) = nI n) (han : a < n) (hn5 : n ≤ 501) (hk : ai m (gB G + 290) a = (205 : Int32)) (hst : ai m (gB G + 291) a = nI st) (hc : fi m 710 (gB G + 279) = nI c) (hc9 : c ≤ 12) (hl : l ≤ 20) 
    (e1 : WPM G (d + 3) (0, 0) μX7_takeNumber [.ref (gB G + 279), .int (nI c)] (wfi (wfi m 713 (gB G + 279) (0 : Int32)) 709 (gB G + 279) (nI (a + 1))) (fun r' m' => WP G (d + 4) (0, 0) μX7_readFactor 188 [.ref (gB G + 279), lvU, .int (205 : Int32), lvU] (r'.toList ++ []) m' Q)) :
    WPM G (d + 4) (0, 0) μX7_readFactor [.ref (gB G + 279), .int (nI l)] m Q := by
  refine WPM.of pX7 (Nat.le_of_ble_eq_true rfl) rfl ?_
  refine wp_aload_n dX7_readFactor_0 rfl ?_
  refine wp_callV (As := []) (S := []) (b' := (0, 0)) (b := (0, 0)) dX7_readFactor_1 MX7_60 (ka hF 279 (by decide)) rfl rfl rfl rfl (Nat.le_of_ble_eq_true rfl) ?_
  refine WPM.of pX7 (Nat.le_of_ble_eq_true rfl) rfl ?_
  refine wp_aload_n dX7_kind_0 rfl ?_
  refine wp_geti (nI a) dX7_kind_1 fX7_57 (Or.inl rfl) (ka hF 279 (by decide)) ha ?_
  refine wp_aload_n dX7_kind_4 rfl ?_
  refine wp_geti (nI n) dX7_kind_5 fX7_77 (Or.inl rfl) (ka hF 279 (by decide)) hn ?_
  refine wp_icmp_ge 23 dX7_kind_8 (by decide) (fun q => absurd (nlt_ (a := a) (b := n) han (by omega)) q) (fun _ => ?_)
  refine wp_aload_n dX7_kind_11 rfl ?_
  refine wp_getr (gB G + 290) dX7_kind_12 fX7_26 (ka hF 279 (by decide)) (hF.2 _ _) (rra 11 (isK_le (ka hF 279 (by decide))) (fun _ => rfl)) ?_
  refine wp_aload_n dX7_kind_15 rfl ?_
  refine wp_geti (nI a) dX7_kind_16 fX7_57 (Or.inl rfl) (ka hF 279 (by decide)) ha ?_
  refine wp_ialdk (n := 501) a (205 : Int32) dX7_kind_19 (ka hF 290 (by decide)) (la 290) (vin (by omega) (by decide)) (nIc (by omega)) hk ?_
  refine wp_goto 24 dX7_kind_20 (by decide) ?_
  refine wp_iret dX7_kind_24 rfl ?_
  show WP G (d + 4) (0, 0) μX7_readFactor 4 [.ref (gB G + 279), .int (nI l), lvU, lvU] [.int (205 : Int32)] m _
  refine wp_istore_n dX7_readFactor_4 (by decide) rfl ?_
  refine wp_iload_n dX7_readFactor_5 rfl ?_
  refine wp_bipush (45 : Int32) dX7_readFactor_6 (by decide) ?_
  refine wp_icmp_eq 17 dX7_readFactor_8 (by decide) (fun q => absurd q (by decide)) (fun _ => ?_)
  refine wp_iload_n dX7_readFactor_11 rfl ?_
  refine wp_bipush (40 : Int32) dX7_readFactor_12 (by decide) ?_
  refine wp_icmp_ne 91 dX7_readFactor_14 (by decide) (fun _ => ?_) (fun q => absurd q (by decide))
  refine wp_iconst (1 : Int32) dX7_readFactor_91 (by decide) ?_
  refine wp_istore_n dX7_readFactor_92 (by decide) rfl ?_
  refine wp_aload_n dX7_readFactor_93 rfl ?_
  refine wp_iconst (0 : Int32) dX7_readFactor_94 (by decide) ?_
  refine wp_puti dX7_readFactor_95 pX7_155 (ka hF 279 (by decide)) ?_
  have hF1 := Full_wfi 713 (gB G + 279) (0 : Int32) hF
  refine wp_iload_n dX7_readFactor_98 rfl ?_
  refine wp_tableIn (off := 71) 170 dX7_readFactor_99 (by decide) (by decide) rfl (by decide) ?_
  refine wp_aload_n dX7_readFactor_170 rfl ?_
  refine wp_dup dX7_readFactor_171 rfl ?_
  refine wp_geti (nI a) dX7_readFactor_172 fX7_57 (Or.inl rfl) (ka hF1 279 (by decide)) ((fi_ne (by decide)).trans ha) ?_
  refine wp_iconst (1 : Int32) dX7_readFactor_175 (by decide) ?_
  refine wp_iaddv (nI (a + 1)) dX7_readFactor_176 (nadd (a := a) (b := 1) (by omega)) ?_
  refine wp_puti dX7_readFactor_177 pX7_57 (ka hF1 279 (by decide)) ?_
  have hF2 := Full_wfi 709 (gB G + 279) (nI (a + 1)) hF1
  refine wp_aload_n dX7_readFactor_180 rfl ?_
  refine wp_aload_n dX7_readFactor_181 rfl ?_
  refine wp_geti (nI c) dX7_readFactor_182 fX7_36 (Or.inl rfl) (ka hF2 279 (by decide)) ((fi_ne (by decide)).trans ((fi_ne (by decide)).trans hc)) ?_
  refine wp_forget [.ref (gB G + 279), lvU, .int (205 : Int32), lvU] ⟨Or.inl rfl, Or.inr rfl, Or.inl rfl, Or.inr rfl, trivial⟩ ?_
  refine wp_callV (As := [.int (nI c)]) (S := []) (b' := (0, 0)) (b := (0, 0)) dX7_readFactor_185 MX7_158 (ka hF2 279 (by decide)) rfl rfl rfl rfl (Nat.le_of_ble_eq_true rfl) ?_
  exact e1

theorem cC_F2050 {G : Cx} {d : Nat} {m : Mm} {Q : Option Value → Mm → Prop} {v : Nat} (hF : Full G m) (hv : fi m 713 (gB G + 279) = nI v) 
    (e1 : WPM G (d + 3) (0, 0) μX8_emitCode [.ref (gB G + 281), .int (205 : Int32), .int (nI v)] m (fun r' m' => WP G (d + 4) (0, 0) μX7_readFactor 267 [lvU, lvU, lvU, .int (0 : Int32)] (r'.toList ++ []) m' Q)) :
    WP G (d + 4) (0, 0) μX7_readFactor 188 [.ref (gB G + 279), lvU, .int (205 : Int32), lvU] [.int (0 : Int32)] m Q := by
  refine wp_istore_n dX7_readFactor_188 (by decide) rfl ?_
  refine wp_goto 255 dX7_readFactor_189 (by decide) ?_
  refine wp_aload_n dX7_readFactor_255 rfl ?_
  refine wp_getr (gB G + 281) dX7_readFactor_256 fX7_22 (ka hF 279 (by decide)) (hF.2 _ _) (rra 2 (isK_le (ka hF 279 (by decide))) (fun _ => rfl)) ?_
  refine wp_iload_n dX7_readFactor_259 rfl ?_
  refine wp_aload_n dX7_readFactor_260 rfl ?_
  refine wp_geti (nI v) dX7_readFactor_261 fX7_155 (Or.inl rfl) (ka hF 279 (by decide)) hv ?_
  refine wp_forget [lvU, lvU, lvU, .int (0 : Int32)] ⟨Or.inr rfl, Or.inr rfl, Or.inr rfl, Or.inl rfl, trivial⟩ ?_
  refine wp_callV (As := [.int (205 : Int32), .int (nI v)]) (S := []) (b' := (0, 0)) (b := (0, 0)) dX7_readFactor_264 MX7_142 (kr0 hF (isRr G)) rfl rfl rfl rfl (Nat.le_of_ble_eq_true rfl) ?_
  exact e1

theorem dC_F2050 {G : Cx} {d : Nat} {m : Mm} {Q : Option Value → Mm → Prop}  (hF : Full G m) 
    (e1 : Q (some (.int (0 : Int32))) m) :
    WP G (d + 4) (0, 0) μX7_readFactor 267 [lvU, lvU, lvU, .int (0 : Int32)] [] m Q := by
  refine wp_iload_n dX7_readFactor_267 rfl ?_
  exact wp_zret dX7_readFactor_268 rfl rfl (e1)

theorem cC_F2051 {G : Cx} {d : Nat} {m : Mm} {Q : Option Value → Mm → Prop} {v : Nat} (hF : Full G m) (hv : fi m 713 (gB G + 279) = nI v) 
    (e1 : WPM G (d + 3) (0, 0) μX8_emitCode [.ref (gB G + 281), .int (205 : Int32), .int (nI v)] m (fun r' m' => WP G (d + 4) (0, 0) μX7_readFactor 267 [lvU, lvU, lvU, .int (1 : Int32)] (r'.toList ++ []) m' Q)) :
    WP G (d + 4) (0, 0) μX7_readFactor 188 [.ref (gB G + 279), lvU, .int (205 : Int32), lvU] [.int (1 : Int32)] m Q := by
  refine wp_istore_n dX7_readFactor_188 (by decide) rfl ?_
  refine wp_goto 255 dX7_readFactor_189 (by decide) ?_
  refine wp_aload_n dX7_readFactor_255 rfl ?_
  refine wp_getr (gB G + 281) dX7_readFactor_256 fX7_22 (ka hF 279 (by decide)) (hF.2 _ _) (rra 2 (isK_le (ka hF 279 (by decide))) (fun _ => rfl)) ?_
  refine wp_iload_n dX7_readFactor_259 rfl ?_
  refine wp_aload_n dX7_readFactor_260 rfl ?_
  refine wp_geti (nI v) dX7_readFactor_261 fX7_155 (Or.inl rfl) (ka hF 279 (by decide)) hv ?_
  refine wp_forget [lvU, lvU, lvU, .int (1 : Int32)] ⟨Or.inr rfl, Or.inr rfl, Or.inr rfl, Or.inl rfl, trivial⟩ ?_
  refine wp_callV (As := [.int (205 : Int32), .int (nI v)]) (S := []) (b' := (0, 0)) (b := (0, 0)) dX7_readFactor_264 MX7_142 (kr0 hF (isRr G)) rfl rfl rfl rfl (Nat.le_of_ble_eq_true rfl) ?_
  exact e1

theorem dC_F2051 {G : Cx} {d : Nat} {m : Mm} {Q : Option Value → Mm → Prop}  (hF : Full G m) 
    (e1 : Q (some (.int (1 : Int32))) m) :
    WP G (d + 4) (0, 0) μX7_readFactor 267 [lvU, lvU, lvU, .int (1 : Int32)] [] m Q := by
  refine wp_iload_n dX7_readFactor_267 rfl ?_
  exact wp_zret dX7_readFactor_268 rfl rfl (e1)

theorem bC_F206 {G : Cx} {d : Nat} {m : Mm} {Q : Option Value → Mm → Prop} {a n st l : Nat} {c : Nat} (hF : Full G m) (ha : fi m 709 (gB G + 279) = nI a) (hn : fi m 708 (gB G + 279) = nI n) (han : a < n) (hn5 : n ≤ 501) (hk : ai m (gB G + 290) a = (206 : Int32)) (hst : ai m (gB G + 291) a = nI st) (hc : fi m 711 (gB G + 279) = nI c) (hc9 : c ≤ 12) (hl : l ≤ 20) 
    (e1 : WPM G (d + 3) (0, 0) μX7_takeNumber [.ref (gB G + 279), .int (nI c)] (wfi (wfi m 713 (gB G + 279) (0 : Int32)) 709 (gB G + 279) (nI (a + 1))) (fun r' m' => WP G (d + 4) (0, 0) μX7_readFactor 210 [.ref (gB G + 279), lvU, .int (206 : Int32), lvU] (r'.toList ++ []) m' Q)) :
    WPM G (d + 4) (0, 0) μX7_readFactor [.ref (gB G + 279), .int (nI l)] m Q := by
  refine WPM.of pX7 (Nat.le_of_ble_eq_true rfl) rfl ?_
  refine wp_aload_n dX7_readFactor_0 rfl ?_
  refine wp_callV (As := []) (S := []) (b' := (0, 0)) (b := (0, 0)) dX7_readFactor_1 MX7_60 (ka hF 279 (by decide)) rfl rfl rfl rfl (Nat.le_of_ble_eq_true rfl) ?_
  refine WPM.of pX7 (Nat.le_of_ble_eq_true rfl) rfl ?_
  refine wp_aload_n dX7_kind_0 rfl ?_
  refine wp_geti (nI a) dX7_kind_1 fX7_57 (Or.inl rfl) (ka hF 279 (by decide)) ha ?_
  refine wp_aload_n dX7_kind_4 rfl ?_
  refine wp_geti (nI n) dX7_kind_5 fX7_77 (Or.inl rfl) (ka hF 279 (by decide)) hn ?_
  refine wp_icmp_ge 23 dX7_kind_8 (by decide) (fun q => absurd (nlt_ (a := a) (b := n) han (by omega)) q) (fun _ => ?_)
  refine wp_aload_n dX7_kind_11 rfl ?_
  refine wp_getr (gB G + 290) dX7_kind_12 fX7_26 (ka hF 279 (by decide)) (hF.2 _ _) (rra 11 (isK_le (ka hF 279 (by decide))) (fun _ => rfl)) ?_
  refine wp_aload_n dX7_kind_15 rfl ?_
  refine wp_geti (nI a) dX7_kind_16 fX7_57 (Or.inl rfl) (ka hF 279 (by decide)) ha ?_
  refine wp_ialdk (n := 501) a (206 : Int32) dX7_kind_19 (ka hF 290 (by decide)) (la 290) (vin (by omega) (by decide)) (nIc (by omega)) hk ?_
  refine wp_goto 24 dX7_kind_20 (by decide) ?_
  refine wp_iret dX7_kind_24 rfl ?_
  show WP G (d + 4) (0, 0) μX7_readFactor 4 [.ref (gB G + 279), .int (nI l), lvU, lvU] [.int (206 : Int32)] m _
  refine wp_istore_n dX7_readFactor_4 (by decide) rfl ?_
  refine wp_iload_n dX7_readFactor_5 rfl ?_
  refine wp_bipush (45 : Int32) dX7_readFactor_6 (by decide) ?_
  refine wp_icmp_eq 17 dX7_readFactor_8 (by decide) (fun q => absurd q (by decide)) (fun _ => ?_)
  refine wp_iload_n dX7_readFactor_11 rfl ?_
  refine wp_bipush (40 : Int32) dX7_readFactor_12 (by decide) ?_
  refine wp_icmp_ne 91 dX7_readFactor_14 (by decide) (fun _ => ?_) (fun q => absurd q (by decide))
  refine wp_iconst (1 : Int32) dX7_readFactor_91 (by decide) ?_
  refine wp_istore_n dX7_readFactor_92 (by decide) rfl ?_
  refine wp_aload_n dX7_readFactor_93 rfl ?_
  refine wp_iconst (0 : Int32) dX7_readFactor_94 (by decide) ?_
  refine wp_puti dX7_readFactor_95 pX7_155 (ka hF 279 (by decide)) ?_
  have hF1 := Full_wfi 713 (gB G + 279) (0 : Int32) hF
  refine wp_iload_n dX7_readFactor_98 rfl ?_
  refine wp_tableIn (off := 93) 192 dX7_readFactor_99 (by decide) (by decide) rfl (by decide) ?_
  refine wp_aload_n dX7_readFactor_192 rfl ?_
  refine wp_dup dX7_readFactor_193 rfl ?_
  refine wp_geti (nI a) dX7_readFactor_194 fX7_57 (Or.inl rfl) (ka hF1 279 (by decide)) ((fi_ne (by decide)).trans ha) ?_
  refine wp_iconst (1 : Int32) dX7_readFactor_197 (by decide) ?_
  refine wp_iaddv (nI (a + 1)) dX7_readFactor_198 (nadd (a := a) (b := 1) (by omega)) ?_
  refine wp_puti dX7_readFactor_199 pX7_57 (ka hF1 279 (by decide)) ?_
  have hF2 := Full_wfi 709 (gB G + 279) (nI (a + 1)) hF1
  refine wp_aload_n dX7_readFactor_202 rfl ?_
  refine wp_aload_n dX7_readFactor_203 rfl ?_
  refine wp_geti (nI c) dX7_readFactor_204 fX7_39 (Or.inl rfl) (ka hF2 279 (by decide)) ((fi_ne (by decide)).trans ((fi_ne (by decide)).trans hc)) ?_
  refine wp_forget [.ref (gB G + 279), lvU, .int (206 : Int32), lvU] ⟨Or.inl rfl, Or.inr rfl, Or.inl rfl, Or.inr rfl, trivial⟩ ?_
  refine wp_callV (As := [.int (nI c)]) (S := []) (b' := (0, 0)) (b := (0, 0)) dX7_readFactor_207 MX7_158 (ka hF2 279 (by decide)) rfl rfl rfl rfl (Nat.le_of_ble_eq_true rfl) ?_
  exact e1

theorem cC_F2060 {G : Cx} {d : Nat} {m : Mm} {Q : Option Value → Mm → Prop} {v : Nat} (hF : Full G m) (hv : fi m 713 (gB G + 279) = nI v) 
    (e1 : WPM G (d + 3) (0, 0) μX8_emitCode [.ref (gB G + 281), .int (206 : Int32), .int (nI v)] m (fun r' m' => WP G (d + 4) (0, 0) μX7_readFactor 267 [lvU, lvU, lvU, .int (0 : Int32)] (r'.toList ++ []) m' Q)) :
    WP G (d + 4) (0, 0) μX7_readFactor 210 [.ref (gB G + 279), lvU, .int (206 : Int32), lvU] [.int (0 : Int32)] m Q := by
  refine wp_istore_n dX7_readFactor_210 (by decide) rfl ?_
  refine wp_goto 255 dX7_readFactor_211 (by decide) ?_
  refine wp_aload_n dX7_readFactor_255 rfl ?_
  refine wp_getr (gB G + 281) dX7_readFactor_256 fX7_22 (ka hF 279 (by decide)) (hF.2 _ _) (rra 2 (isK_le (ka hF 279 (by decide))) (fun _ => rfl)) ?_
  refine wp_iload_n dX7_readFactor_259 rfl ?_
  refine wp_aload_n dX7_readFactor_260 rfl ?_
  refine wp_geti (nI v) dX7_readFactor_261 fX7_155 (Or.inl rfl) (ka hF 279 (by decide)) hv ?_
  refine wp_forget [lvU, lvU, lvU, .int (0 : Int32)] ⟨Or.inr rfl, Or.inr rfl, Or.inr rfl, Or.inl rfl, trivial⟩ ?_
  refine wp_callV (As := [.int (206 : Int32), .int (nI v)]) (S := []) (b' := (0, 0)) (b := (0, 0)) dX7_readFactor_264 MX7_142 (kr0 hF (isRr G)) rfl rfl rfl rfl (Nat.le_of_ble_eq_true rfl) ?_
  exact e1

theorem dC_F2060 {G : Cx} {d : Nat} {m : Mm} {Q : Option Value → Mm → Prop}  (hF : Full G m) 
    (e1 : Q (some (.int (0 : Int32))) m) :
    WP G (d + 4) (0, 0) μX7_readFactor 267 [lvU, lvU, lvU, .int (0 : Int32)] [] m Q := by
  refine wp_iload_n dX7_readFactor_267 rfl ?_
  exact wp_zret dX7_readFactor_268 rfl rfl (e1)

theorem cC_F2061 {G : Cx} {d : Nat} {m : Mm} {Q : Option Value → Mm → Prop} {v : Nat} (hF : Full G m) (hv : fi m 713 (gB G + 279) = nI v) 
    (e1 : WPM G (d + 3) (0, 0) μX8_emitCode [.ref (gB G + 281), .int (206 : Int32), .int (nI v)] m (fun r' m' => WP G (d + 4) (0, 0) μX7_readFactor 267 [lvU, lvU, lvU, .int (1 : Int32)] (r'.toList ++ []) m' Q)) :
    WP G (d + 4) (0, 0) μX7_readFactor 210 [.ref (gB G + 279), lvU, .int (206 : Int32), lvU] [.int (1 : Int32)] m Q := by
  refine wp_istore_n dX7_readFactor_210 (by decide) rfl ?_
  refine wp_goto 255 dX7_readFactor_211 (by decide) ?_
  refine wp_aload_n dX7_readFactor_255 rfl ?_
  refine wp_getr (gB G + 281) dX7_readFactor_256 fX7_22 (ka hF 279 (by decide)) (hF.2 _ _) (rra 2 (isK_le (ka hF 279 (by decide))) (fun _ => rfl)) ?_
  refine wp_iload_n dX7_readFactor_259 rfl ?_
  refine wp_aload_n dX7_readFactor_260 rfl ?_
  refine wp_geti (nI v) dX7_readFactor_261 fX7_155 (Or.inl rfl) (ka hF 279 (by decide)) hv ?_
  refine wp_forget [lvU, lvU, lvU, .int (1 : Int32)] ⟨Or.inr rfl, Or.inr rfl, Or.inr rfl, Or.inl rfl, trivial⟩ ?_
  refine wp_callV (As := [.int (206 : Int32), .int (nI v)]) (S := []) (b' := (0, 0)) (b := (0, 0)) dX7_readFactor_264 MX7_142 (kr0 hF (isRr G)) rfl rfl rfl rfl (Nat.le_of_ble_eq_true rfl) ?_
  exact e1

theorem dC_F2061 {G : Cx} {d : Nat} {m : Mm} {Q : Option Value → Mm → Prop}  (hF : Full G m) 
    (e1 : Q (some (.int (1 : Int32))) m) :
    WP G (d + 4) (0, 0) μX7_readFactor 267 [lvU, lvU, lvU, .int (1 : Int32)] [] m Q := by
  refine wp_iload_n dX7_readFactor_267 rfl ?_
  exact wp_zret dX7_readFactor_268 rfl rfl (e1)

theorem bC_F207 {G : Cx} {d : Nat} {m : Mm} {Q : Option Value → Mm → Prop} {a n st l : Nat} {c : Nat} (hF : Full G m) (ha : fi m 709 (gB G + 279) = nI a) (hn : fi m 708 (gB G + 279) = nI n) (han : a < n) (hn5 : n ≤ 501) (hk : ai m (gB G + 290) a = (207 : Int32)) (hst : ai m (gB G + 291) a = nI st) (hc : fi m 712 (gB G + 279) = nI c) (hc9 : c ≤ 12) (hl : l ≤ 20) 
    (e1 : WPM G (d + 3) (0, 0) μX7_takeNumber [.ref (gB G + 279), .int (nI c)] (wfi (wfi m 713 (gB G + 279) (0 : Int32)) 709 (gB G + 279) (nI (a + 1))) (fun r' m' => WP G (d + 4) (0, 0) μX7_readFactor 232 [.ref (gB G + 279), lvU, .int (207 : Int32), lvU] (r'.toList ++ []) m' Q)) :
    WPM G (d + 4) (0, 0) μX7_readFactor [.ref (gB G + 279), .int (nI l)] m Q := by
  refine WPM.of pX7 (Nat.le_of_ble_eq_true rfl) rfl ?_
  refine wp_aload_n dX7_readFactor_0 rfl ?_
  refine wp_callV (As := []) (S := []) (b' := (0, 0)) (b := (0, 0)) dX7_readFactor_1 MX7_60 (ka hF 279 (by decide)) rfl rfl rfl rfl (Nat.le_of_ble_eq_true rfl) ?_
  refine WPM.of pX7 (Nat.le_of_ble_eq_true rfl) rfl ?_
  refine wp_aload_n dX7_kind_0 rfl ?_
  refine wp_geti (nI a) dX7_kind_1 fX7_57 (Or.inl rfl) (ka hF 279 (by decide)) ha ?_
  refine wp_aload_n dX7_kind_4 rfl ?_
  refine wp_geti (nI n) dX7_kind_5 fX7_77 (Or.inl rfl) (ka hF 279 (by decide)) hn ?_
  refine wp_icmp_ge 23 dX7_kind_8 (by decide) (fun q => absurd (nlt_ (a := a) (b := n) han (by omega)) q) (fun _ => ?_)
  refine wp_aload_n dX7_kind_11 rfl ?_
  refine wp_getr (gB G + 290) dX7_kind_12 fX7_26 (ka hF 279 (by decide)) (hF.2 _ _) (rra 11 (isK_le (ka hF 279 (by decide))) (fun _ => rfl)) ?_
  refine wp_aload_n dX7_kind_15 rfl ?_
  refine wp_geti (nI a) dX7_kind_16 fX7_57 (Or.inl rfl) (ka hF 279 (by decide)) ha ?_
  refine wp_ialdk (n := 501) a (207 : Int32) dX7_kind_19 (ka hF 290 (by decide)) (la 290) (vin (by omega) (by decide)) (nIc (by omega)) hk ?_
  refine wp_goto 24 dX7_kind_20 (by decide) ?_
  refine wp_iret dX7_kind_24 rfl ?_
  show WP G (d + 4) (0, 0) μX7_readFactor 4 [.ref (gB G + 279), .int (nI l), lvU, lvU] [.int (207 : Int32)] m _
  refine wp_istore_n dX7_readFactor_4 (by decide) rfl ?_
  refine wp_iload_n dX7_readFactor_5 rfl ?_
  refine wp_bipush (45 : Int32) dX7_readFactor_6 (by decide) ?_
  refine wp_icmp_eq 17 dX7_readFactor_8 (by decide) (fun q => absurd q (by decide)) (fun _ => ?_)
  refine wp_iload_n dX7_readFactor_11 rfl ?_
  refine wp_bipush (40 : Int32) dX7_readFactor_12 (by decide) ?_
  refine wp_icmp_ne 91 dX7_readFactor_14 (by decide) (fun _ => ?_) (fun q => absurd q (by decide))
  refine wp_iconst (1 : Int32) dX7_readFactor_91 (by decide) ?_
  refine wp_istore_n dX7_readFactor_92 (by decide) rfl ?_
  refine wp_aload_n dX7_readFactor_93 rfl ?_
  refine wp_iconst (0 : Int32) dX7_readFactor_94 (by decide) ?_
  refine wp_puti dX7_readFactor_95 pX7_155 (ka hF 279 (by decide)) ?_
  have hF1 := Full_wfi 713 (gB G + 279) (0 : Int32) hF
  refine wp_iload_n dX7_readFactor_98 rfl ?_
  refine wp_tableIn (off := 115) 214 dX7_readFactor_99 (by decide) (by decide) rfl (by decide) ?_
  refine wp_aload_n dX7_readFactor_214 rfl ?_
  refine wp_dup dX7_readFactor_215 rfl ?_
  refine wp_geti (nI a) dX7_readFactor_216 fX7_57 (Or.inl rfl) (ka hF1 279 (by decide)) ((fi_ne (by decide)).trans ha) ?_
  refine wp_iconst (1 : Int32) dX7_readFactor_219 (by decide) ?_
  refine wp_iaddv (nI (a + 1)) dX7_readFactor_220 (nadd (a := a) (b := 1) (by omega)) ?_
  refine wp_puti dX7_readFactor_221 pX7_57 (ka hF1 279 (by decide)) ?_
  have hF2 := Full_wfi 709 (gB G + 279) (nI (a + 1)) hF1
  refine wp_aload_n dX7_readFactor_224 rfl ?_
  refine wp_aload_n dX7_readFactor_225 rfl ?_
  refine wp_geti (nI c) dX7_readFactor_226 fX7_42 (Or.inl rfl) (ka hF2 279 (by decide)) ((fi_ne (by decide)).trans ((fi_ne (by decide)).trans hc)) ?_
  refine wp_forget [.ref (gB G + 279), lvU, .int (207 : Int32), lvU] ⟨Or.inl rfl, Or.inr rfl, Or.inl rfl, Or.inr rfl, trivial⟩ ?_
  refine wp_callV (As := [.int (nI c)]) (S := []) (b' := (0, 0)) (b := (0, 0)) dX7_readFactor_229 MX7_158 (ka hF2 279 (by decide)) rfl rfl rfl rfl (Nat.le_of_ble_eq_true rfl) ?_
  exact e1

theorem cC_F2070 {G : Cx} {d : Nat} {m : Mm} {Q : Option Value → Mm → Prop} {v : Nat} (hF : Full G m) (hv : fi m 713 (gB G + 279) = nI v) 
    (e1 : WPM G (d + 3) (0, 0) μX8_emitCode [.ref (gB G + 281), .int (207 : Int32), .int (nI v)] m (fun r' m' => WP G (d + 4) (0, 0) μX7_readFactor 267 [lvU, lvU, lvU, .int (0 : Int32)] (r'.toList ++ []) m' Q)) :
    WP G (d + 4) (0, 0) μX7_readFactor 232 [.ref (gB G + 279), lvU, .int (207 : Int32), lvU] [.int (0 : Int32)] m Q := by
  refine wp_istore_n dX7_readFactor_232 (by decide) rfl ?_
  refine wp_goto 255 dX7_readFactor_233 (by decide) ?_
  refine wp_aload_n dX7_readFactor_255 rfl ?_
  refine wp_getr (gB G + 281) dX7_readFactor_256 fX7_22 (ka hF 279 (by decide)) (hF.2 _ _) (rra 2 (isK_le (ka hF 279 (by decide))) (fun _ => rfl)) ?_
  refine wp_iload_n dX7_readFactor_259 rfl ?_
  refine wp_aload_n dX7_readFactor_260 rfl ?_
  refine wp_geti (nI v) dX7_readFactor_261 fX7_155 (Or.inl rfl) (ka hF 279 (by decide)) hv ?_
  refine wp_forget [lvU, lvU, lvU, .int (0 : Int32)] ⟨Or.inr rfl, Or.inr rfl, Or.inr rfl, Or.inl rfl, trivial⟩ ?_
  refine wp_callV (As := [.int (207 : Int32), .int (nI v)]) (S := []) (b' := (0, 0)) (b := (0, 0)) dX7_readFactor_264 MX7_142 (kr0 hF (isRr G)) rfl rfl rfl rfl (Nat.le_of_ble_eq_true rfl) ?_
  exact e1

theorem dC_F2070 {G : Cx} {d : Nat} {m : Mm} {Q : Option Value → Mm → Prop}  (hF : Full G m) 
    (e1 : Q (some (.int (0 : Int32))) m) :
    WP G (d + 4) (0, 0) μX7_readFactor 267 [lvU, lvU, lvU, .int (0 : Int32)] [] m Q := by
  refine wp_iload_n dX7_readFactor_267 rfl ?_
  exact wp_zret dX7_readFactor_268 rfl rfl (e1)

theorem cC_F2071 {G : Cx} {d : Nat} {m : Mm} {Q : Option Value → Mm → Prop} {v : Nat} (hF : Full G m) (hv : fi m 713 (gB G + 279) = nI v) 
    (e1 : WPM G (d + 3) (0, 0) μX8_emitCode [.ref (gB G + 281), .int (207 : Int32), .int (nI v)] m (fun r' m' => WP G (d + 4) (0, 0) μX7_readFactor 267 [lvU, lvU, lvU, .int (1 : Int32)] (r'.toList ++ []) m' Q)) :
    WP G (d + 4) (0, 0) μX7_readFactor 232 [.ref (gB G + 279), lvU, .int (207 : Int32), lvU] [.int (1 : Int32)] m Q := by
  refine wp_istore_n dX7_readFactor_232 (by decide) rfl ?_
  refine wp_goto 255 dX7_readFactor_233 (by decide) ?_
  refine wp_aload_n dX7_readFactor_255 rfl ?_
  refine wp_getr (gB G + 281) dX7_readFactor_256 fX7_22 (ka hF 279 (by decide)) (hF.2 _ _) (rra 2 (isK_le (ka hF 279 (by decide))) (fun _ => rfl)) ?_
  refine wp_iload_n dX7_readFactor_259 rfl ?_
  refine wp_aload_n dX7_readFactor_260 rfl ?_
  refine wp_geti (nI v) dX7_readFactor_261 fX7_155 (Or.inl rfl) (ka hF 279 (by decide)) hv ?_
  refine wp_forget [lvU, lvU, lvU, .int (1 : Int32)] ⟨Or.inr rfl, Or.inr rfl, Or.inr rfl, Or.inl rfl, trivial⟩ ?_
  refine wp_callV (As := [.int (207 : Int32), .int (nI v)]) (S := []) (b' := (0, 0)) (b := (0, 0)) dX7_readFactor_264 MX7_142 (kr0 hF (isRr G)) rfl rfl rfl rfl (Nat.le_of_ble_eq_true rfl) ?_
  exact e1

theorem dC_F2071 {G : Cx} {d : Nat} {m : Mm} {Q : Option Value → Mm → Prop}  (hF : Full G m) 
    (e1 : Q (some (.int (1 : Int32))) m) :
    WP G (d + 4) (0, 0) μX7_readFactor 267 [lvU, lvU, lvU, .int (1 : Int32)] [] m Q := by
  refine wp_iload_n dX7_readFactor_267 rfl ?_
  exact wp_zret dX7_readFactor_268 rfl rfl (e1)

theorem bC_F208 {G : Cx} {d : Nat} {m : Mm} {Q : Option Value → Mm → Prop} {a n st l : Nat} (hF : Full G m) (ha : fi m 709 (gB G + 279) = nI a) (hn : fi m 708 (gB G + 279) = nI n) (han : a < n) (hn5 : n ≤ 501) (hk : ai m (gB G + 290) a = (208 : Int32)) (hst : ai m (gB G + 291) a = nI st) (hl : l ≤ 20) 
    (e1 : WPM G (d + 3) (0, 0) μX8_emitCode [.ref (gB G + 281), .int (208 : Int32), .int (0 : Int32)] (wfi (wfi m 713 (gB G + 279) (0 : Int32)) 709 (gB G + 279) (nI (a + 1))) (fun r' m' => WP G (d + 4) (0, 0) μX7_readFactor 267 [lvU, lvU, lvU, .int (1 : Int32)] (r'.toList ++ []) m' Q)) :
    WPM G (d + 4) (0, 0) μX7_readFactor [.ref (gB G + 279), .int (nI l)] m Q := by
  refine WPM.of pX7 (Nat.le_of_ble_eq_true rfl) rfl ?_
  refine wp_aload_n dX7_readFactor_0 rfl ?_
  refine wp_callV (As := []) (S := []) (b' := (0, 0)) (b := (0, 0)) dX7_readFactor_1 MX7_60 (ka hF 279 (by decide)) rfl rfl rfl rfl (Nat.le_of_ble_eq_true rfl) ?_
  refine WPM.of pX7 (Nat.le_of_ble_eq_true rfl) rfl ?_
  refine wp_aload_n dX7_kind_0 rfl ?_
  refine wp_geti (nI a) dX7_kind_1 fX7_57 (Or.inl rfl) (ka hF 279 (by decide)) ha ?_
  refine wp_aload_n dX7_kind_4 rfl ?_
  refine wp_geti (nI n) dX7_kind_5 fX7_77 (Or.inl rfl) (ka hF 279 (by decide)) hn ?_
  refine wp_icmp_ge 23 dX7_kind_8 (by decide) (fun q => absurd (nlt_ (a := a) (b := n) han (by omega)) q) (fun _ => ?_)
  refine wp_aload_n dX7_kind_11 rfl ?_
  refine wp_getr (gB G + 290) dX7_kind_12 fX7_26 (ka hF 279 (by decide)) (hF.2 _ _) (rra 11 (isK_le (ka hF 279 (by decide))) (fun _ => rfl)) ?_
  refine wp_aload_n dX7_kind_15 rfl ?_
  refine wp_geti (nI a) dX7_kind_16 fX7_57 (Or.inl rfl) (ka hF 279 (by decide)) ha ?_
  refine wp_ialdk (n := 501) a (208 : Int32) dX7_kind_19 (ka hF 290 (by decide)) (la 290) (vin (by omega) (by decide)) (nIc (by omega)) hk ?_
  refine wp_goto 24 dX7_kind_20 (by decide) ?_
  refine wp_iret dX7_kind_24 rfl ?_
  show WP G (d + 4) (0, 0) μX7_readFactor 4 [.ref (gB G + 279), .int (nI l), lvU, lvU] [.int (208 : Int32)] m _
  refine wp_istore_n dX7_readFactor_4 (by decide) rfl ?_
  refine wp_iload_n dX7_readFactor_5 rfl ?_
  refine wp_bipush (45 : Int32) dX7_readFactor_6 (by decide) ?_
  refine wp_icmp_eq 17 dX7_readFactor_8 (by decide) (fun q => absurd q (by decide)) (fun _ => ?_)
  refine wp_iload_n dX7_readFactor_11 rfl ?_
  refine wp_bipush (40 : Int32) dX7_readFactor_12 (by decide) ?_
  refine wp_icmp_ne 91 dX7_readFactor_14 (by decide) (fun _ => ?_) (fun q => absurd q (by decide))
  refine wp_iconst (1 : Int32) dX7_readFactor_91 (by decide) ?_
  refine wp_istore_n dX7_readFactor_92 (by decide) rfl ?_
  refine wp_aload_n dX7_readFactor_93 rfl ?_
  refine wp_iconst (0 : Int32) dX7_readFactor_94 (by decide) ?_
  refine wp_puti dX7_readFactor_95 pX7_155 (ka hF 279 (by decide)) ?_
  have hF1 := Full_wfi 713 (gB G + 279) (0 : Int32) hF
  refine wp_iload_n dX7_readFactor_98 rfl ?_
  refine wp_tableIn (off := 137) 236 dX7_readFactor_99 (by decide) (by decide) rfl (by decide) ?_
  refine wp_aload_n dX7_readFactor_236 rfl ?_
  refine wp_dup dX7_readFactor_237 rfl ?_
  refine wp_geti (nI a) dX7_readFactor_238 fX7_57 (Or.inl rfl) (ka hF1 279 (by decide)) ((fi_ne (by decide)).trans ha) ?_
  refine wp_iconst (1 : Int32) dX7_readFactor_241 (by decide) ?_
  refine wp_iaddv (nI (a + 1)) dX7_readFactor_242 (nadd (a := a) (b := 1) (by omega)) ?_
  refine wp_puti dX7_readFactor_243 pX7_57 (ka hF1 279 (by decide)) ?_
  have hF2 := Full_wfi 709 (gB G + 279) (nI (a + 1)) hF1
  refine wp_goto 255 dX7_readFactor_246 (by decide) ?_
  refine wp_aload_n dX7_readFactor_255 rfl ?_
  refine wp_getr (gB G + 281) dX7_readFactor_256 fX7_22 (ka hF2 279 (by decide)) (hF2.2 _ _) (rra 2 (isK_le (ka hF2 279 (by decide))) (fun _ => rfl)) ?_
  refine wp_iload_n dX7_readFactor_259 rfl ?_
  refine wp_aload_n dX7_readFactor_260 rfl ?_
  refine wp_geti (0 : Int32) dX7_readFactor_261 fX7_155 (Or.inl rfl) (ka hF2 279 (by decide)) ((fi_ne (by decide)).trans fi_eq) ?_
  refine wp_forget [lvU, lvU, lvU, .int (1 : Int32)] ⟨Or.inr rfl, Or.inr rfl, Or.inr rfl, Or.inl rfl, trivial⟩ ?_
  refine wp_callV (As := [.int (208 : Int32), .int (0 : Int32)]) (S := []) (b' := (0, 0)) (b := (0, 0)) dX7_readFactor_264 MX7_142 (kr0 hF2 (isRr G)) rfl rfl rfl rfl (Nat.le_of_ble_eq_true rfl) ?_
  exact e1

theorem dC_F2081 {G : Cx} {d : Nat} {m : Mm} {Q : Option Value → Mm → Prop}  (hF : Full G m) 
    (e1 : Q (some (.int (1 : Int32))) m) :
    WP G (d + 4) (0, 0) μX7_readFactor 267 [lvU, lvU, lvU, .int (1 : Int32)] [] m Q := by
  refine wp_iload_n dX7_readFactor_267 rfl ?_
  exact wp_zret dX7_readFactor_268 rfl rfl (e1)

theorem bC_F209 {G : Cx} {d : Nat} {m : Mm} {Q : Option Value → Mm → Prop} {a n st l : Nat} (hF : Full G m) (ha : fi m 709 (gB G + 279) = nI a) (hn : fi m 708 (gB G + 279) = nI n) (han : a < n) (hn5 : n ≤ 501) (hk : ai m (gB G + 290) a = (209 : Int32)) (hst : ai m (gB G + 291) a = nI st) (hl : l ≤ 20) 
    (e1 : WPM G (d + 3) (0, 0) μX8_emitCode [.ref (gB G + 281), .int (209 : Int32), .int (0 : Int32)] (wfi (wfi m 713 (gB G + 279) (0 : Int32)) 709 (gB G + 279) (nI (a + 1))) (fun r' m' => WP G (d + 4) (0, 0) μX7_readFactor 267 [lvU, lvU, lvU, .int (1 : Int32)] (r'.toList ++ []) m' Q)) :
    WPM G (d + 4) (0, 0) μX7_readFactor [.ref (gB G + 279), .int (nI l)] m Q := by
  refine WPM.of pX7 (Nat.le_of_ble_eq_true rfl) rfl ?_
  refine wp_aload_n dX7_readFactor_0 rfl ?_
  refine wp_callV (As := []) (S := []) (b' := (0, 0)) (b := (0, 0)) dX7_readFactor_1 MX7_60 (ka hF 279 (by decide)) rfl rfl rfl rfl (Nat.le_of_ble_eq_true rfl) ?_
  refine WPM.of pX7 (Nat.le_of_ble_eq_true rfl) rfl ?_
  refine wp_aload_n dX7_kind_0 rfl ?_
  refine wp_geti (nI a) dX7_kind_1 fX7_57 (Or.inl rfl) (ka hF 279 (by decide)) ha ?_
  refine wp_aload_n dX7_kind_4 rfl ?_
  refine wp_geti (nI n) dX7_kind_5 fX7_77 (Or.inl rfl) (ka hF 279 (by decide)) hn ?_
  refine wp_icmp_ge 23 dX7_kind_8 (by decide) (fun q => absurd (nlt_ (a := a) (b := n) han (by omega)) q) (fun _ => ?_)
  refine wp_aload_n dX7_kind_11 rfl ?_
  refine wp_getr (gB G + 290) dX7_kind_12 fX7_26 (ka hF 279 (by decide)) (hF.2 _ _) (rra 11 (isK_le (ka hF 279 (by decide))) (fun _ => rfl)) ?_
  refine wp_aload_n dX7_kind_15 rfl ?_
  refine wp_geti (nI a) dX7_kind_16 fX7_57 (Or.inl rfl) (ka hF 279 (by decide)) ha ?_
  refine wp_ialdk (n := 501) a (209 : Int32) dX7_kind_19 (ka hF 290 (by decide)) (la 290) (vin (by omega) (by decide)) (nIc (by omega)) hk ?_
  refine wp_goto 24 dX7_kind_20 (by decide) ?_
  refine wp_iret dX7_kind_24 rfl ?_
  show WP G (d + 4) (0, 0) μX7_readFactor 4 [.ref (gB G + 279), .int (nI l), lvU, lvU] [.int (209 : Int32)] m _
  refine wp_istore_n dX7_readFactor_4 (by decide) rfl ?_
  refine wp_iload_n dX7_readFactor_5 rfl ?_
  refine wp_bipush (45 : Int32) dX7_readFactor_6 (by decide) ?_
  refine wp_icmp_eq 17 dX7_readFactor_8 (by decide) (fun q => absurd q (by decide)) (fun _ => ?_)
  refine wp_iload_n dX7_readFactor_11 rfl ?_
  refine wp_bipush (40 : Int32) dX7_readFactor_12 (by decide) ?_
  refine wp_icmp_ne 91 dX7_readFactor_14 (by decide) (fun _ => ?_) (fun q => absurd q (by decide))
  refine wp_iconst (1 : Int32) dX7_readFactor_91 (by decide) ?_
  refine wp_istore_n dX7_readFactor_92 (by decide) rfl ?_
  refine wp_aload_n dX7_readFactor_93 rfl ?_
  refine wp_iconst (0 : Int32) dX7_readFactor_94 (by decide) ?_
  refine wp_puti dX7_readFactor_95 pX7_155 (ka hF 279 (by decide)) ?_
  have hF1 := Full_wfi 713 (gB G + 279) (0 : Int32) hF
  refine wp_iload_n dX7_readFactor_98 rfl ?_
  refine wp_tableIn (off := 137) 236 dX7_readFactor_99 (by decide) (by decide) rfl (by decide) ?_
  refine wp_aload_n dX7_readFactor_236 rfl ?_
  refine wp_dup dX7_readFactor_237 rfl ?_
  refine wp_geti (nI a) dX7_readFactor_238 fX7_57 (Or.inl rfl) (ka hF1 279 (by decide)) ((fi_ne (by decide)).trans ha) ?_
  refine wp_iconst (1 : Int32) dX7_readFactor_241 (by decide) ?_
  refine wp_iaddv (nI (a + 1)) dX7_readFactor_242 (nadd (a := a) (b := 1) (by omega)) ?_
  refine wp_puti dX7_readFactor_243 pX7_57 (ka hF1 279 (by decide)) ?_
  have hF2 := Full_wfi 709 (gB G + 279) (nI (a + 1)) hF1
  refine wp_goto 255 dX7_readFactor_246 (by decide) ?_
  refine wp_aload_n dX7_readFactor_255 rfl ?_
  refine wp_getr (gB G + 281) dX7_readFactor_256 fX7_22 (ka hF2 279 (by decide)) (hF2.2 _ _) (rra 2 (isK_le (ka hF2 279 (by decide))) (fun _ => rfl)) ?_
  refine wp_iload_n dX7_readFactor_259 rfl ?_
  refine wp_aload_n dX7_readFactor_260 rfl ?_
  refine wp_geti (0 : Int32) dX7_readFactor_261 fX7_155 (Or.inl rfl) (ka hF2 279 (by decide)) ((fi_ne (by decide)).trans fi_eq) ?_
  refine wp_forget [lvU, lvU, lvU, .int (1 : Int32)] ⟨Or.inr rfl, Or.inr rfl, Or.inr rfl, Or.inl rfl, trivial⟩ ?_
  refine wp_callV (As := [.int (209 : Int32), .int (0 : Int32)]) (S := []) (b' := (0, 0)) (b := (0, 0)) dX7_readFactor_264 MX7_142 (kr0 hF2 (isRr G)) rfl rfl rfl rfl (Nat.le_of_ble_eq_true rfl) ?_
  exact e1

theorem dC_F2091 {G : Cx} {d : Nat} {m : Mm} {Q : Option Value → Mm → Prop}  (hF : Full G m) 
    (e1 : Q (some (.int (1 : Int32))) m) :
    WP G (d + 4) (0, 0) μX7_readFactor 267 [lvU, lvU, lvU, .int (1 : Int32)] [] m Q := by
  refine wp_iload_n dX7_readFactor_267 rfl ?_
  exact wp_zret dX7_readFactor_268 rfl rfl (e1)

theorem bC_F210 {G : Cx} {d : Nat} {m : Mm} {Q : Option Value → Mm → Prop} {a n st l : Nat} (hF : Full G m) (ha : fi m 709 (gB G + 279) = nI a) (hn : fi m 708 (gB G + 279) = nI n) (han : a < n) (hn5 : n ≤ 501) (hk : ai m (gB G + 290) a = (210 : Int32)) (hst : ai m (gB G + 291) a = nI st) (hl : l ≤ 20) 
    (e1 : WPM G (d + 3) (0, 0) μX8_emitCode [.ref (gB G + 281), .int (210 : Int32), .int (0 : Int32)] (wfi (wfi m 713 (gB G + 279) (0 : Int32)) 709 (gB G + 279) (nI (a + 1))) (fun r' m' => WP G (d + 4) (0, 0) μX7_readFactor 267 [lvU, lvU, lvU, .int (1 : Int32)] (r'.toList ++ []) m' Q)) :
    WPM G (d + 4) (0, 0) μX7_readFactor [.ref (gB G + 279), .int (nI l)] m Q := by
  refine WPM.of pX7 (Nat.le_of_ble_eq_true rfl) rfl ?_
  refine wp_aload_n dX7_readFactor_0 rfl ?_
  refine wp_callV (As := []) (S := []) (b' := (0, 0)) (b := (0, 0)) dX7_readFactor_1 MX7_60 (ka hF 279 (by decide)) rfl rfl rfl rfl (Nat.le_of_ble_eq_true rfl) ?_
  refine WPM.of pX7 (Nat.le_of_ble_eq_true rfl) rfl ?_
  refine wp_aload_n dX7_kind_0 rfl ?_
  refine wp_geti (nI a) dX7_kind_1 fX7_57 (Or.inl rfl) (ka hF 279 (by decide)) ha ?_
  refine wp_aload_n dX7_kind_4 rfl ?_
  refine wp_geti (nI n) dX7_kind_5 fX7_77 (Or.inl rfl) (ka hF 279 (by decide)) hn ?_
  refine wp_icmp_ge 23 dX7_kind_8 (by decide) (fun q => absurd (nlt_ (a := a) (b := n) han (by omega)) q) (fun _ => ?_)
  refine wp_aload_n dX7_kind_11 rfl ?_
  refine wp_getr (gB G + 290) dX7_kind_12 fX7_26 (ka hF 279 (by decide)) (hF.2 _ _) (rra 11 (isK_le (ka hF 279 (by decide))) (fun _ => rfl)) ?_
  refine wp_aload_n dX7_kind_15 rfl ?_
  refine wp_geti (nI a) dX7_kind_16 fX7_57 (Or.inl rfl) (ka hF 279 (by decide)) ha ?_
  refine wp_ialdk (n := 501) a (210 : Int32) dX7_kind_19 (ka hF 290 (by decide)) (la 290) (vin (by omega) (by decide)) (nIc (by omega)) hk ?_
  refine wp_goto 24 dX7_kind_20 (by decide) ?_
  refine wp_iret dX7_kind_24 rfl ?_
  show WP G (d + 4) (0, 0) μX7_readFactor 4 [.ref (gB G + 279), .int (nI l), lvU, lvU] [.int (210 : Int32)] m _
  refine wp_istore_n dX7_readFactor_4 (by decide) rfl ?_
  refine wp_iload_n dX7_readFactor_5 rfl ?_
  refine wp_bipush (45 : Int32) dX7_readFactor_6 (by decide) ?_
  refine wp_icmp_eq 17 dX7_readFactor_8 (by decide) (fun q => absurd q (by decide)) (fun _ => ?_)
  refine wp_iload_n dX7_readFactor_11 rfl ?_
  refine wp_bipush (40 : Int32) dX7_readFactor_12 (by decide) ?_
  refine wp_icmp_ne 91 dX7_readFactor_14 (by decide) (fun _ => ?_) (fun q => absurd q (by decide))
  refine wp_iconst (1 : Int32) dX7_readFactor_91 (by decide) ?_
  refine wp_istore_n dX7_readFactor_92 (by decide) rfl ?_
  refine wp_aload_n dX7_readFactor_93 rfl ?_
  refine wp_iconst (0 : Int32) dX7_readFactor_94 (by decide) ?_
  refine wp_puti dX7_readFactor_95 pX7_155 (ka hF 279 (by decide)) ?_
  have hF1 := Full_wfi 713 (gB G + 279) (0 : Int32) hF
  refine wp_iload_n dX7_readFactor_98 rfl ?_
  refine wp_tableIn (off := 137) 236 dX7_readFactor_99 (by decide) (by decide) rfl (by decide) ?_
  refine wp_aload_n dX7_readFactor_236 rfl ?_
  refine wp_dup dX7_readFactor_237 rfl ?_
  refine wp_geti (nI a) dX7_readFactor_238 fX7_57 (Or.inl rfl) (ka hF1 279 (by decide)) ((fi_ne (by decide)).trans ha) ?_
  refine wp_iconst (1 : Int32) dX7_readFactor_241 (by decide) ?_
  refine wp_iaddv (nI (a + 1)) dX7_readFactor_242 (nadd (a := a) (b := 1) (by omega)) ?_
  refine wp_puti dX7_readFactor_243 pX7_57 (ka hF1 279 (by decide)) ?_
  have hF2 := Full_wfi 709 (gB G + 279) (nI (a + 1)) hF1
  refine wp_goto 255 dX7_readFactor_246 (by decide) ?_
  refine wp_aload_n dX7_readFactor_255 rfl ?_
  refine wp_getr (gB G + 281) dX7_readFactor_256 fX7_22 (ka hF2 279 (by decide)) (hF2.2 _ _) (rra 2 (isK_le (ka hF2 279 (by decide))) (fun _ => rfl)) ?_
  refine wp_iload_n dX7_readFactor_259 rfl ?_
  refine wp_aload_n dX7_readFactor_260 rfl ?_
  refine wp_geti (0 : Int32) dX7_readFactor_261 fX7_155 (Or.inl rfl) (ka hF2 279 (by decide)) ((fi_ne (by decide)).trans fi_eq) ?_
  refine wp_forget [lvU, lvU, lvU, .int (1 : Int32)] ⟨Or.inr rfl, Or.inr rfl, Or.inr rfl, Or.inl rfl, trivial⟩ ?_
  refine wp_callV (As := [.int (210 : Int32), .int (0 : Int32)]) (S := []) (b' := (0, 0)) (b := (0, 0)) dX7_readFactor_264 MX7_142 (kr0 hF2 (isRr G)) rfl rfl rfl rfl (Nat.le_of_ble_eq_true rfl) ?_
  exact e1

theorem dC_F2101 {G : Cx} {d : Nat} {m : Mm} {Q : Option Value → Mm → Prop}  (hF : Full G m) 
    (e1 : Q (some (.int (1 : Int32))) m) :
    WP G (d + 4) (0, 0) μX7_readFactor 267 [lvU, lvU, lvU, .int (1 : Int32)] [] m Q := by
  refine wp_iload_n dX7_readFactor_267 rfl ?_
  exact wp_zret dX7_readFactor_268 rfl rfl (e1)

theorem bC_F211 {G : Cx} {d : Nat} {m : Mm} {Q : Option Value → Mm → Prop} {a n st l : Nat} (hF : Full G m) (ha : fi m 709 (gB G + 279) = nI a) (hn : fi m 708 (gB G + 279) = nI n) (han : a < n) (hn5 : n ≤ 501) (hk : ai m (gB G + 290) a = (211 : Int32)) (hst : ai m (gB G + 291) a = nI st) (hl : l ≤ 20) 
    (e1 : WPM G (d + 3) (0, 0) μX8_emitCode [.ref (gB G + 281), .int (211 : Int32), .int (0 : Int32)] (wfi (wfi m 713 (gB G + 279) (0 : Int32)) 709 (gB G + 279) (nI (a + 1))) (fun r' m' => WP G (d + 4) (0, 0) μX7_readFactor 267 [lvU, lvU, lvU, .int (1 : Int32)] (r'.toList ++ []) m' Q)) :
    WPM G (d + 4) (0, 0) μX7_readFactor [.ref (gB G + 279), .int (nI l)] m Q := by
  refine WPM.of pX7 (Nat.le_of_ble_eq_true rfl) rfl ?_
  refine wp_aload_n dX7_readFactor_0 rfl ?_
  refine wp_callV (As := []) (S := []) (b' := (0, 0)) (b := (0, 0)) dX7_readFactor_1 MX7_60 (ka hF 279 (by decide)) rfl rfl rfl rfl (Nat.le_of_ble_eq_true rfl) ?_
  refine WPM.of pX7 (Nat.le_of_ble_eq_true rfl) rfl ?_
  refine wp_aload_n dX7_kind_0 rfl ?_
  refine wp_geti (nI a) dX7_kind_1 fX7_57 (Or.inl rfl) (ka hF 279 (by decide)) ha ?_
  refine wp_aload_n dX7_kind_4 rfl ?_
  refine wp_geti (nI n) dX7_kind_5 fX7_77 (Or.inl rfl) (ka hF 279 (by decide)) hn ?_
  refine wp_icmp_ge 23 dX7_kind_8 (by decide) (fun q => absurd (nlt_ (a := a) (b := n) han (by omega)) q) (fun _ => ?_)
  refine wp_aload_n dX7_kind_11 rfl ?_
  refine wp_getr (gB G + 290) dX7_kind_12 fX7_26 (ka hF 279 (by decide)) (hF.2 _ _) (rra 11 (isK_le (ka hF 279 (by decide))) (fun _ => rfl)) ?_
  refine wp_aload_n dX7_kind_15 rfl ?_
  refine wp_geti (nI a) dX7_kind_16 fX7_57 (Or.inl rfl) (ka hF 279 (by decide)) ha ?_
  refine wp_ialdk (n := 501) a (211 : Int32) dX7_kind_19 (ka hF 290 (by decide)) (la 290) (vin (by omega) (by decide)) (nIc (by omega)) hk ?_
  refine wp_goto 24 dX7_kind_20 (by decide) ?_
  refine wp_iret dX7_kind_24 rfl ?_
  show WP G (d + 4) (0, 0) μX7_readFactor 4 [.ref (gB G + 279), .int (nI l), lvU, lvU] [.int (211 : Int32)] m _
  refine wp_istore_n dX7_readFactor_4 (by decide) rfl ?_
  refine wp_iload_n dX7_readFactor_5 rfl ?_
  refine wp_bipush (45 : Int32) dX7_readFactor_6 (by decide) ?_
  refine wp_icmp_eq 17 dX7_readFactor_8 (by decide) (fun q => absurd q (by decide)) (fun _ => ?_)
  refine wp_iload_n dX7_readFactor_11 rfl ?_
  refine wp_bipush (40 : Int32) dX7_readFactor_12 (by decide) ?_
  refine wp_icmp_ne 91 dX7_readFactor_14 (by decide) (fun _ => ?_) (fun q => absurd q (by decide))
  refine wp_iconst (1 : Int32) dX7_readFactor_91 (by decide) ?_
  refine wp_istore_n dX7_readFactor_92 (by decide) rfl ?_
  refine wp_aload_n dX7_readFactor_93 rfl ?_
  refine wp_iconst (0 : Int32) dX7_readFactor_94 (by decide) ?_
  refine wp_puti dX7_readFactor_95 pX7_155 (ka hF 279 (by decide)) ?_
  have hF1 := Full_wfi 713 (gB G + 279) (0 : Int32) hF
  refine wp_iload_n dX7_readFactor_98 rfl ?_
  refine wp_tableIn (off := 137) 236 dX7_readFactor_99 (by decide) (by decide) rfl (by decide) ?_
  refine wp_aload_n dX7_readFactor_236 rfl ?_
  refine wp_dup dX7_readFactor_237 rfl ?_
  refine wp_geti (nI a) dX7_readFactor_238 fX7_57 (Or.inl rfl) (ka hF1 279 (by decide)) ((fi_ne (by decide)).trans ha) ?_
  refine wp_iconst (1 : Int32) dX7_readFactor_241 (by decide) ?_
  refine wp_iaddv (nI (a + 1)) dX7_readFactor_242 (nadd (a := a) (b := 1) (by omega)) ?_
  refine wp_puti dX7_readFactor_243 pX7_57 (ka hF1 279 (by decide)) ?_
  have hF2 := Full_wfi 709 (gB G + 279) (nI (a + 1)) hF1
  refine wp_goto 255 dX7_readFactor_246 (by decide) ?_
  refine wp_aload_n dX7_readFactor_255 rfl ?_
  refine wp_getr (gB G + 281) dX7_readFactor_256 fX7_22 (ka hF2 279 (by decide)) (hF2.2 _ _) (rra 2 (isK_le (ka hF2 279 (by decide))) (fun _ => rfl)) ?_
  refine wp_iload_n dX7_readFactor_259 rfl ?_
  refine wp_aload_n dX7_readFactor_260 rfl ?_
  refine wp_geti (0 : Int32) dX7_readFactor_261 fX7_155 (Or.inl rfl) (ka hF2 279 (by decide)) ((fi_ne (by decide)).trans fi_eq) ?_
  refine wp_forget [lvU, lvU, lvU, .int (1 : Int32)] ⟨Or.inr rfl, Or.inr rfl, Or.inr rfl, Or.inl rfl, trivial⟩ ?_
  refine wp_callV (As := [.int (211 : Int32), .int (0 : Int32)]) (S := []) (b' := (0, 0)) (b := (0, 0)) dX7_readFactor_264 MX7_142 (kr0 hF2 (isRr G)) rfl rfl rfl rfl (Nat.le_of_ble_eq_true rfl) ?_
  exact e1

theorem dC_F2111 {G : Cx} {d : Nat} {m : Mm} {Q : Option Value → Mm → Prop}  (hF : Full G m) 
    (e1 : Q (some (.int (1 : Int32))) m) :
    WP G (d + 4) (0, 0) μX7_readFactor 267 [lvU, lvU, lvU, .int (1 : Int32)] [] m Q := by
  refine wp_iload_n dX7_readFactor_267 rfl ?_
  exact wp_zret dX7_readFactor_268 rfl rfl (e1)

theorem bC_Fx {G : Cx} {d : Nat} {m : Mm} {Q : Option Value → Mm → Prop} {a n k st l : Nat} (hF : Full G m) (ha : fi m 709 (gB G + 279) = nI a) (hn : fi m 708 (gB G + 279) = nI n) (han : a < n) (hn5 : n ≤ 501) (hk : ai m (gB G + 290) a = nI k) (hk9 : k < 1000) (hst : ai m (gB G + 291) a = nI st) (hb : ¬ leafK k) (hl : l ≤ 20) 
    (e1 : ¬ (nI k) = (200 : Int32) → ¬ (nI k) = (205 : Int32) → ¬ (nI k) = (206 : Int32) → ¬ (nI k) = (207 : Int32) → ¬ (nI k) = (208 : Int32) → ¬ (nI k) = (209 : Int32) → ¬ (nI k) = (210 : Int32) → ¬ (nI k) = (211 : Int32) → Q (some (.int (0 : Int32))) (wfi (wfi (wfi m 713 (gB G + 279) (0 : Int32)) 702 (gB G + 279) (1 : Int32)) 703 (gB G + 279) (nI st))) :
    WPM G (d + 4) (0, 0) μX7_readFactor [.ref (gB G + 279), .int (nI l)] m Q := by
  refine WPM.of pX7 (Nat.le_of_ble_eq_true rfl) rfl ?_
  refine wp_aload_n dX7_readFactor_0 rfl ?_
  refine wp_callV (As := []) (S := []) (b' := (0, 0)) (b := (0, 0)) dX7_readFactor_1 MX7_60 (ka hF 279 (by decide)) rfl rfl rfl rfl (Nat.le_of_ble_eq_true rfl) ?_
  refine WPM.of pX7 (Nat.le_of_ble_eq_true rfl) rfl ?_
  refine wp_aload_n dX7_kind_0 rfl ?_
  refine wp_geti (nI a) dX7_kind_1 fX7_57 (Or.inl rfl) (ka hF 279 (by decide)) ha ?_
  refine wp_aload_n dX7_kind_4 rfl ?_
  refine wp_geti (nI n) dX7_kind_5 fX7_77 (Or.inl rfl) (ka hF 279 (by decide)) hn ?_
  refine wp_icmp_ge 23 dX7_kind_8 (by decide) (fun q => absurd (nlt_ (a := a) (b := n) han (by omega)) q) (fun _ => ?_)
  refine wp_aload_n dX7_kind_11 rfl ?_
  refine wp_getr (gB G + 290) dX7_kind_12 fX7_26 (ka hF 279 (by decide)) (hF.2 _ _) (rra 11 (isK_le (ka hF 279 (by decide))) (fun _ => rfl)) ?_
  refine wp_aload_n dX7_kind_15 rfl ?_
  refine wp_geti (nI a) dX7_kind_16 fX7_57 (Or.inl rfl) (ka hF 279 (by decide)) ha ?_
  refine wp_ialdk (n := 501) a (nI k) dX7_kind_19 (ka hF 290 (by decide)) (la 290) (vin (by omega) (by decide)) (nIc (by omega)) hk ?_
  refine wp_goto 24 dX7_kind_20 (by decide) ?_
  refine wp_iret dX7_kind_24 rfl ?_
  show WP G (d + 4) (0, 0) μX7_readFactor 4 [.ref (gB G + 279), .int (nI l), lvU, lvU] [.int (nI k)] m _
  refine wp_istore_n dX7_readFactor_4 (by decide) rfl ?_
  refine wp_iload_n dX7_readFactor_5 rfl ?_
  refine wp_bipush (45 : Int32) dX7_readFactor_6 (by decide) ?_
  refine wp_icmp_eq 17 dX7_readFactor_8 (by decide) (fun q => absurd q (fun z => (fun z => hb (Or.inl z)) (neq z (by omega) (by omega)))) (fun _ => ?_)
  refine wp_iload_n dX7_readFactor_11 rfl ?_
  refine wp_bipush (40 : Int32) dX7_readFactor_12 (by decide) ?_
  refine wp_icmp_ne 91 dX7_readFactor_14 (by decide) (fun _ => ?_) (fun q => absurd q (fun z => (fun z => hb (Or.inr (Or.inl z))) (neq z (by omega) (by omega))))
  refine wp_iconst (1 : Int32) dX7_readFactor_91 (by decide) ?_
  refine wp_istore_n dX7_readFactor_92 (by decide) rfl ?_
  refine wp_aload_n dX7_readFactor_93 rfl ?_
  refine wp_iconst (0 : Int32) dX7_readFactor_94 (by decide) ?_
  refine wp_puti dX7_readFactor_95 pX7_155 (ka hF 279 (by decide)) ?_
  have hF1 := Full_wfi 713 (gB G + 279) (0 : Int32) hF
  refine wp_iload_n dX7_readFactor_98 rfl ?_
  have sw2 : ¬ (nI k) = (200 : Int32) := (fun z => hb (Or.inr (Or.inr (Or.inl (neq z (by omega) (by omega))))))
  have sw3 : ¬ (nI k) = (205 : Int32) := (fun z => hb (Or.inr (Or.inr (Or.inr (Or.inl (neq z (by omega) (by omega)))))))
  have sw4 : ¬ (nI k) = (206 : Int32) := (fun z => hb (Or.inr (Or.inr (Or.inr (Or.inr (Or.inl (neq z (by omega) (by omega))))))))
  have sw5 : ¬ (nI k) = (207 : Int32) := (fun z => hb (Or.inr (Or.inr (Or.inr (Or.inr (Or.inr (Or.inl (neq z (by omega) (by omega)))))))))
  have sw6 : ¬ (nI k) = (208 : Int32) := (fun z => hb (Or.inr (Or.inr (Or.inr (Or.inr (Or.inr (Or.inr (Or.inl (neq z (by omega) (by omega))))))))))
  have sw7 : ¬ (nI k) = (209 : Int32) := (fun z => hb (Or.inr (Or.inr (Or.inr (Or.inr (Or.inr (Or.inr (Or.inr (Or.inl (neq z (by omega) (by omega)))))))))))
  have sw8 : ¬ (nI k) = (210 : Int32) := (fun z => hb (Or.inr (Or.inr (Or.inr (Or.inr (Or.inr (Or.inr (Or.inr (Or.inr (Or.inl (neq z (by omega) (by omega))))))))))))
  have sw9 : ¬ (nI k) = (211 : Int32) := (fun z => hb (Or.inr (Or.inr (Or.inr (Or.inr (Or.inr (Or.inr (Or.inr (Or.inr (Or.inr (neq z (by omega) (by omega))))))))))))
  refine wp_tableD (js := [200, 205, 206, 207, 208, 209, 210, 211]) 249 dX7_readFactor_99 (List.forall_mem_cons.mpr ⟨sw2, List.forall_mem_cons.mpr ⟨sw3, List.forall_mem_cons.mpr ⟨sw4, List.forall_mem_cons.mpr ⟨sw5, List.forall_mem_cons.mpr ⟨sw6, List.forall_mem_cons.mpr ⟨sw7, List.forall_mem_cons.mpr ⟨sw8, List.forall_mem_cons.mpr ⟨sw9, fun _ h => absurd h List.not_mem_nil⟩⟩⟩⟩⟩⟩⟩⟩) (by decide +kernel) (by decide) (by decide) ?_
  refine wp_aload_n dX7_readFactor_249 rfl ?_
  refine wp_iconst (1 : Int32) dX7_readFactor_250 (by decide) ?_
  refine wp_callV (As := [.int (1 : Int32)]) (S := []) (b' := (0, 0)) (b := (0, 0)) dX7_readFactor_251 MX7_74 (ka hF1 279 (by decide)) rfl rfl rfl rfl (Nat.le_of_ble_eq_true rfl) ?_
  refine WPM.of pX7 (Nat.le_of_ble_eq_true rfl) rfl ?_
  refine wp_aload_n dX7_fail_0 rfl ?_
  refine wp_iload_n dX7_fail_1 rfl ?_
  refine wp_puti dX7_fail_2 pX7_45 (ka hF1 279 (by decide)) ?_
  have hF10 := Full_wfi 702 (gB G + 279) (1 : Int32) hF1
  refine wp_aload_n dX7_fail_5 rfl ?_
  refine wp_aload_n dX7_fail_6 rfl ?_
  refine wp_geti (nI a) dX7_fail_7 fX7_57 (Or.inl rfl) (ka hF10 279 (by decide)) ((fi_ne (by decide)).trans ((fi_ne (by decide)).trans ha)) ?_
  refine wp_aload_n dX7_fail_10 rfl ?_
  refine wp_geti (nI n) dX7_fail_11 fX7_77 (Or.inl rfl) (ka hF10 279 (by decide)) ((fi_ne (by decide)).trans ((fi_ne (by decide)).trans hn)) ?_
  refine wp_icmp_ge 29 dX7_fail_14 (by decide) (fun q => absurd (nlt_ (a := a) (b := n) han (by omega)) q) (fun _ => ?_)
  refine wp_aload_n dX7_fail_17 rfl ?_
  refine wp_getr (gB G + 291) dX7_fail_18 fX7_30 (ka hF10 279 (by decide)) (hF10.2 _ _) (rra 12 (isK_le (ka hF10 279 (by decide))) (fun _ => rfl)) ?_
  refine wp_aload_n dX7_fail_21 rfl ?_
  refine wp_geti (nI a) dX7_fail_22 fX7_57 (Or.inl rfl) (ka hF10 279 (by decide)) ((fi_ne (by decide)).trans ((fi_ne (by decide)).trans ha)) ?_
  refine wp_ialdk (n := 501) a (nI st) dX7_fail_25 (ka hF10 291 (by decide)) (la 291) (vin (by omega) (by decide)) (nIc (by omega)) (ai_wfi.trans (ai_wfi.trans hst)) ?_
  refine wp_goto 33 dX7_fail_26 (by decide) ?_
  refine wp_puti dX7_fail_33 pX7_15 (ka hF10 279 (by decide)) ?_
  have hF11 := Full_wfi 703 (gB G + 279) (nI st) hF10
  refine wp_iconst (0 : Int32) dX7_fail_36 (by decide) ?_
  refine wp_zret dX7_fail_37 rfl rfl ?_
  show WP G (d + 4) (0, 0) μX7_readFactor 254 [.ref (gB G + 279), .int (nI l), .int (nI k), .int (1 : Int32)] [.int (0 : Int32)] (wfi (wfi (wfi m 713 (gB G + 279) (0 : Int32)) 702 (gB G + 279) (1 : Int32)) 703 (gB G + 279) (nI st)) _
  exact wp_zret dX7_readFactor_254 rfl rfl (e1 sw2 sw3 sw4 sw5 sw6 sw7 sw8 sw9)
