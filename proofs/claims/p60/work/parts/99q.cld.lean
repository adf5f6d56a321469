theorem lcA {G : Cx} {d : Nat} {m : Mm} {Q : Option Value → Mm → Prop} {nn nl nh : Nat} (hF : Full G m) (h5 : fi m 5 (gB G + 1) = nI nn) (h7 : fi m 7 (gB G + 1) = nI nl) (h8 : fi m 8 (gB G + 1) = nI nh) 
    (e1 : WPM G (d + 98) (0, 0) μX7_readRules [.ref (gB G + 279), .int (nI nn), .int (nI nl), .int (nI nh)] m (fun r' m' => WP G (d + 99) (0, 0) μX10_loadRules 28 [.ref (gB G), lvU] (r'.toList ++ []) m' Q)) :
    WPM G (d + 99) (0, 0) μX10_loadRules [.ref (gB G)] m Q := by
  refine WPM.of pX10 (Nat.le_of_ble_eq_true rfl) rfl ?_
  refine wp_aload_n dX10_loadRules_0 rfl ?_
  refine wp_getr (gB G + 279) dX10_loadRules_1 fX10_30 (ka0 hF) (hF.2 _ _) (rra 279 (isK_le (ka0 hF)) (fun _ => rfl)) ?_
  refine wp_aload_n dX10_loadRules_4 rfl ?_
  refine wp_getr (gB G + 1) dX10_loadRules_5 fX10_10 (ka0 hF) (hF.2 _ _) (rra 1 (isK_le (ka0 hF)) (fun _ => rfl)) ?_
  refine wp_geti (nI nn) dX10_loadRules_8 fX10_43 (Or.inl rfl) (kc0 hF (isC1 G)) h5 ?_
  refine wp_aload_n dX10_loadRules_11 rfl ?_
  refine wp_getr (gB G + 1) dX10_loadRules_12 fX10_10 (ka0 hF) (hF.2 _ _) (rra 1 (isK_le (ka0 hF)) (fun _ => rfl)) ?_
  refine wp_geti (nI nl) dX10_loadRules_15 fX10_100 (Or.inl rfl) (kc0 hF (isC1 G)) h7 ?_
  refine wp_aload_n dX10_loadRules_18 rfl ?_
  refine wp_getr (gB G + 1) dX10_loadRules_19 fX10_10 (ka0 hF) (hF.2 _ _) (rra 1 (isK_le (ka0 hF)) (fun _ => rfl)) ?_
  refine wp_geti (nI nh) dX10_loadRules_22 fX10_110 (Or.inl rfl) (kc0 hF (isC1 G)) h8 ?_
  refine wp_callV (As := [.int (nI nn), .int (nI nl), .int (nI nh)]) (S := []) (b' := (0, 0)) (b := (0, 0)) dX10_loadRules_25 MX10_289 (ka hF 279 (by decide)) rfl rfl rfl rfl (Nat.le_of_ble_eq_true rfl) ?_
  exact e1

theorem lcB0 {G : Cx} {d : Nat} {m : Mm} {Q : Option Value → Mm → Prop}  (hF : Full G m) 
    (e1 : Q (some (.int (-1000000004 : Int32))) (wfi m 701 (gB G + 279) (0 : Int32))) :
    WP G (d + 99) (0, 0) μX10_loadRules 28 [.ref (gB G), lvU] [.int (0 : Int32)] m Q := by
  refine wp_istore_n dX10_loadRules_28 (by decide) rfl ?_
  refine wp_aload_n dX10_loadRules_29 rfl ?_
  refine wp_getr (gB G + 279) dX10_loadRules_30 fX10_30 (ka0 hF) (hF.2 _ _) (rra 279 (isK_le (ka0 hF)) (fun _ => rfl)) ?_
  refine wp_iconst (0 : Int32) dX10_loadRules_33 (by decide) ?_
  refine wp_puti dX10_loadRules_34 pX10_282 (ka hF 279 (by decide)) ?_
  have hF1 := Full_wfi 701 (gB G + 279) (0 : Int32) hF
  refine wp_iload_n dX10_loadRules_37 rfl ?_
  refine wp_if_ne 45 dX10_loadRules_38 (by decide) (fun q => absurd (by decide) q) (fun _ => ?_)
  refine wp_ldcw dX10_loadRules_41 kX10_292 ?_
  exact wp_iret dX10_loadRules_44 rfl (e1)

theorem lcB1 {G : Cx} {d : Nat} {m : Mm} {Q : Option Value → Mm → Prop}  (hF : Full G m) 
    (e1 : WPM G (d + 98) (0, 0) μX8_copyFrom [.ref ((gB G + 1) + 10), .ref (gB G + 281)] (wfi m 701 (gB G + 279) (0 : Int32)) (fun r' m' => WP G (d + 99) (0, 0) μX10_loadRules 62 [.ref (gB G), lvU] (r'.toList ++ []) m' Q)) :
    WP G (d + 99) (0, 0) μX10_loadRules 28 [.ref (gB G), lvU] [.int (1 : Int32)] m Q := by
  refine wp_istore_n dX10_loadRules_28 (by decide) rfl ?_
  refine wp_aload_n dX10_loadRules_29 rfl ?_
  refine wp_getr (gB G + 279) dX10_loadRules_30 fX10_30 (ka0 hF) (hF.2 _ _) (rra 279 (isK_le (ka0 hF)) (fun _ => rfl)) ?_
  refine wp_iconst (0 : Int32) dX10_loadRules_33 (by decide) ?_
  refine wp_puti dX10_loadRules_34 pX10_282 (ka hF 279 (by decide)) ?_
  have hF1 := Full_wfi 701 (gB G + 279) (0 : Int32) hF
  refine wp_iload_n dX10_loadRules_37 rfl ?_
  refine wp_if_ne 45 dX10_loadRules_38 (by decide) (fun _ => ?_) (fun q => absurd q (by decide))
  refine wp_aload_n dX10_loadRules_45 rfl ?_
  refine wp_getr (gB G + 1) dX10_loadRules_46 fX10_10 (ka0 hF1) (hF1.2 _ _) (rra 1 (isK_le (ka0 hF1)) (fun _ => rfl)) ?_
  refine wp_getr ((gB G + 1) + 10) dX10_loadRules_49 fX10_293 (kc0 hF1 (isC1 G)) (hF1.2 _ _) (rra 10 (isK_le (kc0 hF1 (isC1 G))) (fun _ => rfl)) ?_
  refine wp_aload_n dX10_loadRules_52 rfl ?_
  refine wp_getr (gB G + 279) dX10_loadRules_53 fX10_30 (ka0 hF1) (hF1.2 _ _) (rra 279 (isK_le (ka0 hF1)) (fun _ => rfl)) ?_
  refine wp_getr (gB G + 281) dX10_loadRules_56 fX10_297 (ka hF1 279 (by decide)) (hF1.2 _ _) (rra 2 (isK_le (ka hF1 279 (by decide))) (fun _ => rfl)) ?_
  refine wp_forget [.ref (gB G), lvU] ⟨Or.inl rfl, Or.inr rfl, trivial⟩ ?_
  refine wp_callV (As := [.ref (gB G + 281)]) (S := []) (b' := (0, 0)) (b := (0, 0)) dX10_loadRules_59 MX10_298 (kr0 hF1 (isRc (isC1 G))) rfl rfl rfl rfl (Nat.le_of_ble_eq_true rfl) ?_
  exact e1

theorem lcC {G : Cx} {d : Nat} {m : Mm} {Q : Option Value → Mm → Prop} {c : Nat} (hF : Full G m) (hc : fi m 808 ((gB G + 1) + 10) = nI c) 
    (e1 : Q (some (.int (nI c))) m) :
    WP G (d + 99) (0, 0) μX10_loadRules 62 [.ref (gB G), lvU] [] m Q := by
  refine wp_aload_n dX10_loadRules_62 rfl ?_
  refine wp_getr (gB G + 1) dX10_loadRules_63 fX10_10 (ka0 hF) (hF.2 _ _) (rra 1 (isK_le (ka0 hF)) (fun _ => rfl)) ?_
  refine wp_getr ((gB G + 1) + 10) dX10_loadRules_66 fX10_293 (kc0 hF (isC1 G)) (hF.2 _ _) (rra 10 (isK_le (kc0 hF (isC1 G))) (fun _ => rfl)) ?_
  refine wp_geti (nI c) dX10_loadRules_69 fX10_303 (Or.inl rfl) (kr0 hF (isRc (isC1 G))) hc ?_
  exact wp_iret dX10_loadRules_72 rfl (e1)
