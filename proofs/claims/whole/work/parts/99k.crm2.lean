/-! THE REFERENCE'S READER: blocks, second part -/

theorem lfN {G : Cx} {d : Nat} {m : Mm} {Q : Option Value → Mm → Prop} {v s : Nat} (hF : Full G m) (he : fi m 1118 (gB G + 293) = (0 : Int32)) (ht : fi m 1114 (gB G + 293) = (3 : Int32)) (hv : fi m 1117 (gB G + 293) = nI v) (hz : fi m 1124 (gB G + 293) = nI s) (hs5 : s < 500) (hv9 : v ≤ 999999) 
    (e1 : WPM G (d + 9) (0, 0) μX11_advance [.ref (gB G + 293)] (wfi (wai (wai m (gB G + 306) (2 * s) (0 : Int32)) (gB G + 306) (2 * s + 1) (nI v)) 1124 (gB G + 293) (nI (s + 1))) (fun r' m' => WP G (d + 10) (0, 0) μX11_parseLeaf 41 [lvU, lvU, lvU] (r'.toList ++ []) m' Q)) :
    WPM G (d + 10) (0, 0) μX11_parseLeaf [.ref (gB G + 293)] m Q := by
  refine WPM.of pX11 (Nat.le_of_ble_eq_true rfl) rfl ?_
  refine wp_aload_n dX11_parseLeaf_0 rfl ?_
  refine wp_geti (3 : Int32) dX11_parseLeaf_1 fX11_272 (Or.inl rfl) (ka hF 293 (by decide)) ht ?_
  refine wp_iconst (3 : Int32) dX11_parseLeaf_4 (by decide) ?_
  refine wp_icmp_ne 42 dX11_parseLeaf_5 (by decide) (fun q => absurd (by decide) q) (fun _ => ?_)
  refine wp_aload_n dX11_parseLeaf_8 rfl ?_
  refine wp_aload_n dX11_parseLeaf_9 rfl ?_
  refine wp_geti (nI v) dX11_parseLeaf_10 fX11_266 (Or.inl rfl) (ka hF 293 (by decide)) hv ?_
  refine wp_ldcw dX11_parseLeaf_13 kX11_285 ?_
  refine wp_icmp_gt 23 dX11_parseLeaf_16 (by decide) (fun q => absurd q (fun z => (by omega : ¬ 999999 < v) (nlt (a := 999999) (b := v) z (by omega) (by omega)))) (fun _ => ?_)
  refine wp_iconst (1 : Int32) dX11_parseLeaf_19 (by decide) ?_
  refine wp_goto 24 dX11_parseLeaf_20 (by decide) ?_
  refine wp_iconst (2 : Int32) dX11_parseLeaf_24 (by decide) ?_
  refine wp_callV (As := [.int (1 : Int32), .int (2 : Int32)]) (S := []) (b' := (0, 0)) (b := (0, 0)) dX11_parseLeaf_25 MX11_304 (ka hF 293 (by decide)) rfl rfl rfl rfl (Nat.le_of_ble_eq_true rfl) ?_
  refine WPM.of pX11 (Nat.le_of_ble_eq_true rfl) rfl ?_
  refine wp_iload_n dX11_require_0 rfl ?_
  refine wp_if_ne 24 dX11_require_1 (by decide) (fun _ => ?_) (fun q => absurd q (by decide))
  refine wp_vret dX11_require_24 rfl ?_
  show WP G (d + 10) (0, 0) μX11_parseLeaf 28 [.ref (gB G + 293), lvU, lvU] [] m _
  refine wp_aload_n dX11_parseLeaf_28 rfl ?_
  refine wp_iconst (0 : Int32) dX11_parseLeaf_29 (by decide) ?_
  refine wp_aload_n dX11_parseLeaf_30 rfl ?_
  refine wp_geti (nI v) dX11_parseLeaf_31 fX11_266 (Or.inl rfl) (ka hF 293 (by decide)) hv ?_
  refine wp_callV (As := [.int (0 : Int32), .int (nI v)]) (S := []) (b' := (0, 0)) (b := (0, 0)) dX11_parseLeaf_34 MX11_330 (ka hF 293 (by decide)) rfl rfl rfl rfl (Nat.le_of_ble_eq_true rfl) ?_
  refine WPM.of pX11 (Nat.le_of_ble_eq_true rfl) rfl ?_
  refine wp_aload_n dX11_emit_0 rfl ?_
  refine wp_geti (0 : Int32) dX11_emit_1 fX11_298 (Or.inl rfl) (ka hF 293 (by decide)) he ?_
  refine wp_if_ne 43 dX11_emit_4 (by decide) (fun q => absurd (by decide) q) (fun _ => ?_)
  refine wp_aload_n dX11_emit_7 rfl ?_
  refine wp_getr (gB G + 306) dX11_emit_8 fX11_52 (ka hF 293 (by decide)) (hF.2 _ _) (rra 13 (isK_le (ka hF 293 (by decide))) (fun _ => rfl)) ?_
  refine wp_iconst (2 : Int32) dX11_emit_11 (by decide) ?_
  refine wp_aload_n dX11_emit_12 rfl ?_
  refine wp_geti (nI s) dX11_emit_13 fX11_311 (Or.inl rfl) (ka hF 293 (by decide)) hz ?_
  refine wp_imulv (nI (2 * s)) dX11_emit_16 (nmul (a := 2) (b := s) (by omega)) ?_
  refine wp_iload_n dX11_emit_17 rfl ?_
  refine wp_iastk (n := 1000) (2 * s) dX11_emit_18 (ka hF 306 (by decide)) (la 306) (vin (by omega) (by decide))  (nIc (by omega)) ?_
  have hF1 := Full_wai (gB G + 306) (2 * s) (0 : Int32) hF
  refine wp_aload_n dX11_emit_19 rfl ?_
  refine wp_getr (gB G + 306) dX11_emit_20 fX11_52 (ka hF1 293 (by decide)) (hF1.2 _ _) (rra 13 (isK_le (ka hF1 293 (by decide))) (fun _ => rfl)) ?_
  refine wp_iconst (2 : Int32) dX11_emit_23 (by decide) ?_
  refine wp_aload_n dX11_emit_24 rfl ?_
  refine wp_geti (nI s) dX11_emit_25 fX11_311 (Or.inl rfl) (ka hF1 293 (by decide)) (fi_wai.trans hz) ?_
  refine wp_imulv (nI (2 * s)) dX11_emit_28 (nmul (a := 2) (b := s) (by omega)) ?_
  refine wp_iconst (1 : Int32) dX11_emit_29 (by decide) ?_
  refine wp_iaddv (nI (2 * s + 1)) dX11_emit_30 (nadd (a := 2 * s) (b := 1) (by omega)) ?_
  refine wp_iload_n dX11_emit_31 rfl ?_
  refine wp_iastk (n := 1000) (2 * s + 1) dX11_emit_32 (ka hF1 306 (by decide)) (la 306) (vin (by omega) (by decide))  (nIc (by omega)) ?_
  have hF2 := Full_wai (gB G + 306) (2 * s + 1) (nI v) hF1
  refine wp_aload_n dX11_emit_33 rfl ?_
  refine wp_dup dX11_emit_34 rfl ?_
  refine wp_geti (nI s) dX11_emit_35 fX11_311 (Or.inl rfl) (ka hF2 293 (by decide)) (fi_wai.trans (fi_wai.trans hz)) ?_
  refine wp_iconst (1 : Int32) dX11_emit_38 (by decide) ?_
  refine wp_iaddv (nI (s + 1)) dX11_emit_39 (nadd (a := s) (b := 1) (by omega)) ?_
  refine wp_puti dX11_emit_40 pX11_311 (ka hF2 293 (by decide)) ?_
  have hF3 := Full_wfi 1124 (gB G + 293) (nI (s + 1)) hF2
  refine wp_vret dX11_emit_43 rfl ?_
  show WP G (d + 10) (0, 0) μX11_parseLeaf 37 [.ref (gB G + 293), lvU, lvU] [] (wfi (wai (wai m (gB G + 306) (2 * s) (0 : Int32)) (gB G + 306) (2 * s + 1) (nI v)) 1124 (gB G + 293) (nI (s + 1))) _
  refine wp_aload_n dX11_parseLeaf_37 rfl ?_
  refine wp_forget [lvU, lvU, lvU] ⟨Or.inr rfl, Or.inr rfl, Or.inr rfl, trivial⟩ ?_
  refine wp_callV (As := []) (S := []) (b' := (0, 0)) (b := (0, 0)) dX11_parseLeaf_38 MX11_308 (ka hF3 293 (by decide)) rfl rfl rfl rfl (Nat.le_of_ble_eq_true rfl) ?_
  exact e1

theorem lfNz {G : Cx} {d : Nat} {m : Mm} {Q : Option Value → Mm → Prop}  (hF : Full G m) 
    (e1 : Q none m) :
    WP G (d + 10) (0, 0) μX11_parseLeaf 41 [lvU, lvU, lvU] [] m Q := by
  exact wp_vret dX11_parseLeaf_41 rfl (e1)

theorem lfNx {G : Cx} {d : Nat} {m : Mm} {Q : Option Value → Mm → Prop} {y : Int32} {st : Nat} (hF : Full G m) (he : fi m 1118 (gB G + 293) = (0 : Int32)) (ht : fi m 1114 (gB G + 293) = (3 : Int32)) (hy : fi m 1117 (gB G + 293) = y) (hst : fi m 1113 (gB G + 293) = nI st) (hy9 : (999999 : Int32) < y) 
    (e1 : WPM G (d + 9) (0, 0) μX11_advance [.ref (gB G + 293)] (wfi (wfi m 1118 (gB G + 293) (2 : Int32)) 1119 (gB G + 293) (nI st)) (fun r' m' => WP G (d + 10) (0, 0) μX11_parseLeaf 41 [lvU, lvU, lvU] (r'.toList ++ []) m' Q)) :
    WPM G (d + 10) (0, 0) μX11_parseLeaf [.ref (gB G + 293)] m Q := by
  refine WPM.of pX11 (Nat.le_of_ble_eq_true rfl) rfl ?_
  refine wp_aload_n dX11_parseLeaf_0 rfl ?_
  refine wp_geti (3 : Int32) dX11_parseLeaf_1 fX11_272 (Or.inl rfl) (ka hF 293 (by decide)) ht ?_
  refine wp_iconst (3 : Int32) dX11_parseLeaf_4 (by decide) ?_
  refine wp_icmp_ne 42 dX11_parseLeaf_5 (by decide) (fun q => absurd (by decide) q) (fun _ => ?_)
  refine wp_aload_n dX11_parseLeaf_8 rfl ?_
  refine wp_aload_n dX11_parseLeaf_9 rfl ?_
  refine wp_geti y dX11_parseLeaf_10 fX11_266 (Or.inl rfl) (ka hF 293 (by decide)) hy ?_
  refine wp_ldcw dX11_parseLeaf_13 kX11_285 ?_
  refine wp_icmp_gt 23 dX11_parseLeaf_16 (by decide) (fun _ => ?_) (fun q => absurd hy9 q)
  refine wp_iconst (0 : Int32) dX11_parseLeaf_23 (by decide) ?_
  refine wp_iconst (2 : Int32) dX11_parseLeaf_24 (by decide) ?_
  refine wp_callV (As := [.int (0 : Int32), .int (2 : Int32)]) (S := []) (b' := (0, 0)) (b := (0, 0)) dX11_parseLeaf_25 MX11_304 (ka hF 293 (by decide)) rfl rfl rfl rfl (Nat.le_of_ble_eq_true rfl) ?_
  refine WPM.of pX11 (Nat.le_of_ble_eq_true rfl) rfl ?_
  refine wp_iload_n dX11_require_0 rfl ?_
  refine wp_if_ne 24 dX11_require_1 (by decide) (fun q => absurd (by decide) q) (fun _ => ?_)
  refine wp_aload_n dX11_require_4 rfl ?_
  refine wp_geti (0 : Int32) dX11_require_5 fX11_298 (Or.inl rfl) (ka hF 293 (by decide)) he ?_
  refine wp_if_ne 24 dX11_require_8 (by decide) (fun q => absurd (by decide) q) (fun _ => ?_)
  refine wp_aload_n dX11_require_11 rfl ?_
  refine wp_iload_n dX11_require_12 rfl ?_
  refine wp_puti dX11_require_13 pX11_298 (ka hF 293 (by decide)) ?_
  have hF1 := Full_wfi 1118 (gB G + 293) (2 : Int32) hF
  refine wp_aload_n dX11_require_16 rfl ?_
  refine wp_aload_n dX11_require_17 rfl ?_
  refine wp_geti (nI st) dX11_require_18 fX11_256 (Or.inl rfl) (ka hF1 293 (by decide)) ((fi_ne (by decide)).trans hst) ?_
  refine wp_puti dX11_require_21 pX11_45 (ka hF1 293 (by decide)) ?_
  have hF2 := Full_wfi 1119 (gB G + 293) (nI st) hF1
  refine wp_vret dX11_require_24 rfl ?_
  show WP G (d + 10) (0, 0) μX11_parseLeaf 28 [.ref (gB G + 293), lvU, lvU] [] (wfi (wfi m 1118 (gB G + 293) (2 : Int32)) 1119 (gB G + 293) (nI st)) _
  refine wp_aload_n dX11_parseLeaf_28 rfl ?_
  refine wp_iconst (0 : Int32) dX11_parseLeaf_29 (by decide) ?_
  refine wp_aload_n dX11_parseLeaf_30 rfl ?_
  refine wp_geti y dX11_parseLeaf_31 fX11_266 (Or.inl rfl) (ka hF2 293 (by decide)) ((fi_ne (by decide)).trans ((fi_ne (by decide)).trans hy)) ?_
  refine wp_callV (As := [.int (0 : Int32), .int y]) (S := []) (b' := (0, 0)) (b := (0, 0)) dX11_parseLeaf_34 MX11_330 (ka hF2 293 (by decide)) rfl rfl rfl rfl (Nat.le_of_ble_eq_true rfl) ?_
  refine WPM.of pX11 (Nat.le_of_ble_eq_true rfl) rfl ?_
  refine wp_aload_n dX11_emit_0 rfl ?_
  refine wp_geti (2 : Int32) dX11_emit_1 fX11_298 (Or.inl rfl) (ka hF2 293 (by decide)) ((fi_ne (by decide)).trans fi_eq) ?_
  refine wp_if_ne 43 dX11_emit_4 (by decide) (fun _ => ?_) (fun q => absurd q (by decide))
  refine wp_vret dX11_emit_43 rfl ?_
  show WP G (d + 10) (0, 0) μX11_parseLeaf 37 [.ref (gB G + 293), lvU, lvU] [] (wfi (wfi m 1118 (gB G + 293) (2 : Int32)) 1119 (gB G + 293) (nI st)) _
  refine wp_aload_n dX11_parseLeaf_37 rfl ?_
  refine wp_forget [lvU, lvU, lvU] ⟨Or.inr rfl, Or.inr rfl, Or.inr rfl, trivial⟩ ?_
  refine wp_callV (As := []) (S := []) (b' := (0, 0)) (b := (0, 0)) dX11_parseLeaf_38 MX11_308 (ka hF2 293 (by decide)) rfl rfl rfl rfl (Nat.le_of_ble_eq_true rfl) ?_
  exact e1

theorem lfA {G : Cx} {d : Nat} {m : Mm} {Q : Option Value → Mm → Prop} {tk : Int32} (hF : Full G m) (ht : fi m 1114 (gB G + 293) = tk) (htk : ¬ tk = 3) 
    (e1 : WPM G (d + 9) (0, 0) μX11_readerOfWord [.ref (gB G + 293)] m (fun r' m' => WP G (d + 10) (0, 0) μX11_parseLeaf 46 [.ref (gB G + 293), lvU, lvU] (r'.toList ++ []) m' Q)) :
    WPM G (d + 10) (0, 0) μX11_parseLeaf [.ref (gB G + 293)] m Q := by
  refine WPM.of pX11 (Nat.le_of_ble_eq_true rfl) rfl ?_
  refine wp_aload_n dX11_parseLeaf_0 rfl ?_
  refine wp_geti tk dX11_parseLeaf_1 fX11_272 (Or.inl rfl) (ka hF 293 (by decide)) ht ?_
  refine wp_iconst (3 : Int32) dX11_parseLeaf_4 (by decide) ?_
  refine wp_icmp_ne 42 dX11_parseLeaf_5 (by decide) (fun _ => ?_) (fun q => absurd q htk)
  refine wp_aload_n dX11_parseLeaf_42 rfl ?_
  refine wp_callV (As := []) (S := []) (b' := (0, 0)) (b := (0, 0)) dX11_parseLeaf_43 MX11_334 (ka hF 293 (by decide)) rfl rfl rfl rfl (Nat.le_of_ble_eq_true rfl) ?_
  exact e1

theorem lfBx {G : Cx} {d : Nat} {m : Mm} {Q : Option Value → Mm → Prop} {st : Nat} (hF : Full G m) (he : fi m 1118 (gB G + 293) = (0 : Int32)) (hst : fi m 1113 (gB G + 293) = nI st) 
    (e1 : WPM G (d + 9) (0, 0) μX11_advance [.ref (gB G + 293)] (wfi (wfi m 1118 (gB G + 293) (1 : Int32)) 1119 (gB G + 293) (nI st)) (fun r' m' => WP G (d + 10) (0, 0) μX11_parseLeaf 66 [.ref (gB G + 293), .int (-1 : Int32), lvU] (r'.toList ++ []) m' Q)) :
    WP G (d + 10) (0, 0) μX11_parseLeaf 46 [.ref (gB G + 293), lvU, lvU] [.int (-1 : Int32)] m Q := by
  refine wp_istore_n dX11_parseLeaf_46 (by decide) rfl ?_
  refine wp_aload_n dX11_parseLeaf_47 rfl ?_
  refine wp_iload_n dX11_parseLeaf_48 rfl ?_
  refine wp_iconst (-1 : Int32) dX11_parseLeaf_49 (by decide) ?_
  refine wp_icmp_eq 57 dX11_parseLeaf_50 (by decide) (fun _ => ?_) (fun q => absurd (by decide) q)
  refine wp_iconst (0 : Int32) dX11_parseLeaf_57 (by decide) ?_
  refine wp_iconst (1 : Int32) dX11_parseLeaf_58 (by decide) ?_
  refine wp_callV (As := [.int (0 : Int32), .int (1 : Int32)]) (S := []) (b' := (0, 0)) (b := (0, 0)) dX11_parseLeaf_59 MX11_304 (ka hF 293 (by decide)) rfl rfl rfl rfl (Nat.le_of_ble_eq_true rfl) ?_
  refine WPM.of pX11 (Nat.le_of_ble_eq_true rfl) rfl ?_
  refine wp_iload_n dX11_require_0 rfl ?_
  refine wp_if_ne 24 dX11_require_1 (by decide) (fun q => absurd (by decide) q) (fun _ => ?_)
  refine wp_aload_n dX11_require_4 rfl ?_
  refine wp_geti (0 : Int32) dX11_require_5 fX11_298 (Or.inl rfl) (ka hF 293 (by decide)) he ?_
  refine wp_if_ne 24 dX11_require_8 (by decide) (fun q => absurd (by decide) q) (fun _ => ?_)
  refine wp_aload_n dX11_require_11 rfl ?_
  refine wp_iload_n dX11_require_12 rfl ?_
  refine wp_puti dX11_require_13 pX11_298 (ka hF 293 (by decide)) ?_
  have hF1 := Full_wfi 1118 (gB G + 293) (1 : Int32) hF
  refine wp_aload_n dX11_require_16 rfl ?_
  refine wp_aload_n dX11_require_17 rfl ?_
  refine wp_geti (nI st) dX11_require_18 fX11_256 (Or.inl rfl) (ka hF1 293 (by decide)) ((fi_ne (by decide)).trans hst) ?_
  refine wp_puti dX11_require_21 pX11_45 (ka hF1 293 (by decide)) ?_
  have hF2 := Full_wfi 1119 (gB G + 293) (nI st) hF1
  refine wp_vret dX11_require_24 rfl ?_
  show WP G (d + 10) (0, 0) μX11_parseLeaf 62 [.ref (gB G + 293), .int (-1 : Int32), lvU] [] (wfi (wfi m 1118 (gB G + 293) (1 : Int32)) 1119 (gB G + 293) (nI st)) _
  refine wp_aload_n dX11_parseLeaf_62 rfl ?_
  refine wp_callV (As := []) (S := []) (b' := (0, 0)) (b := (0, 0)) dX11_parseLeaf_63 MX11_308 (ka hF2 293 (by decide)) rfl rfl rfl rfl (Nat.le_of_ble_eq_true rfl) ?_
  exact e1

theorem lfCx {G : Cx} {d : Nat} {m : Mm} {Q : Option Value → Mm → Prop} {c : Int32} (hF : Full G m) (he : fi m 1118 (gB G + 293) = c) (hc : ¬ c = 0) 
    (e1 : Q none m) :
    WP G (d + 10) (0, 0) μX11_parseLeaf 66 [.ref (gB G + 293), .int (-1 : Int32), lvU] [] m Q := by
  refine wp_iconst (0 : Int32) dX11_parseLeaf_66 (by decide) ?_
  refine wp_istore_n dX11_parseLeaf_67 (by decide) rfl ?_
  refine wp_aload_n dX11_parseLeaf_68 rfl ?_
  refine wp_geti c dX11_parseLeaf_69 fX11_298 (Or.inl rfl) (ka hF 293 (by decide)) he ?_
  refine wp_if_ne 112 dX11_parseLeaf_72 (by decide) (fun _ => ?_) (fun q => absurd q hc)
  refine wp_aload_n dX11_parseLeaf_112 rfl ?_
  refine wp_iload_n dX11_parseLeaf_113 rfl ?_
  refine wp_iload_n dX11_parseLeaf_114 rfl ?_
  refine wp_callV (As := [.int (-1 : Int32), .int (0 : Int32)]) (S := []) (b' := (0, 0)) (b := (0, 0)) dX11_parseLeaf_115 MX11_330 (ka hF 293 (by decide)) rfl rfl rfl rfl (Nat.le_of_ble_eq_true rfl) ?_
  refine WPM.of pX11 (Nat.le_of_ble_eq_true rfl) rfl ?_
  refine wp_aload_n dX11_emit_0 rfl ?_
  refine wp_geti c dX11_emit_1 fX11_298 (Or.inl rfl) (ka hF 293 (by decide)) he ?_
  refine wp_if_ne 43 dX11_emit_4 (by decide) (fun _ => ?_) (fun q => absurd q hc)
  refine wp_vret dX11_emit_43 rfl ?_
  show WP G (d + 10) (0, 0) μX11_parseLeaf 118 [.ref (gB G + 293), .int (-1 : Int32), .int (0 : Int32)] [] m _
  exact wp_vret dX11_parseLeaf_118 rfl (e1)

theorem lfB1 {G : Cx} {d : Nat} {m : Mm} {Q : Option Value → Mm → Prop}  (hF : Full G m) (he : fi m 1118 (gB G + 293) = (0 : Int32)) 
    (e1 : WPM G (d + 9) (0, 0) μX11_advance [.ref (gB G + 293)] m (fun r' m' => WP G (d + 10) (0, 0) μX11_parseLeaf 66 [.ref (gB G + 293), .int (1 : Int32), lvU] (r'.toList ++ []) m' Q)) :
    WP G (d + 10) (0, 0) μX11_parseLeaf 46 [.ref (gB G + 293), lvU, lvU] [.int (1 : Int32)] m Q := by
  refine wp_istore_n dX11_parseLeaf_46 (by decide) rfl ?_
  refine wp_aload_n dX11_parseLeaf_47 rfl ?_
  refine wp_iload_n dX11_parseLeaf_48 rfl ?_
  refine wp_iconst (-1 : Int32) dX11_parseLeaf_49 (by decide) ?_
  refine wp_icmp_eq 57 dX11_parseLeaf_50 (by decide) (fun q => absurd q (by decide)) (fun _ => ?_)
  refine wp_iconst (1 : Int32) dX11_parseLeaf_53 (by decide) ?_
  refine wp_goto 58 dX11_parseLeaf_54 (by decide) ?_
  refine wp_iconst (1 : Int32) dX11_parseLeaf_58 (by decide) ?_
  refine wp_callV (As := [.int (1 : Int32), .int (1 : Int32)]) (S := []) (b' := (0, 0)) (b := (0, 0)) dX11_parseLeaf_59 MX11_304 (ka hF 293 (by decide)) rfl rfl rfl rfl (Nat.le_of_ble_eq_true rfl) ?_
  refine WPM.of pX11 (Nat.le_of_ble_eq_true rfl) rfl ?_
  refine wp_iload_n dX11_require_0 rfl ?_
  refine wp_if_ne 24 dX11_require_1 (by decide) (fun _ => ?_) (fun q => absurd q (by decide))
  refine wp_vret dX11_require_24 rfl ?_
  show WP G (d + 10) (0, 0) μX11_parseLeaf 62 [.ref (gB G + 293), .int (1 : Int32), lvU] [] m _
  refine wp_aload_n dX11_parseLeaf_62 rfl ?_
  refine wp_callV (As := []) (S := []) (b' := (0, 0)) (b := (0, 0)) dX11_parseLeaf_63 MX11_308 (ka hF 293 (by decide)) rfl rfl rfl rfl (Nat.le_of_ble_eq_true rfl) ?_
  exact e1

theorem lfC1 {G : Cx} {d : Nat} {m : Mm} {Q : Option Value → Mm → Prop} {c : Nat} (hF : Full G m) (he : fi m 1118 (gB G + 293) = (0 : Int32)) (hc : ai m (gB G + 294) 12 = nI c) 
    (e1 : WPM G (d + 9) (0, 0) μX11_parsePart [.ref (gB G + 293), .int (nI c)] m (fun r' m' => WP G (d + 10) (0, 0) μX11_parseLeaf 111 [.ref (gB G + 293), .int (1 : Int32), lvU] (r'.toList ++ []) m' Q)) :
    WP G (d + 10) (0, 0) μX11_parseLeaf 66 [.ref (gB G + 293), .int (1 : Int32), lvU] [] m Q := by
  refine wp_iconst (0 : Int32) dX11_parseLeaf_66 (by decide) ?_
  refine wp_istore_n dX11_parseLeaf_67 (by decide) rfl ?_
  refine wp_aload_n dX11_parseLeaf_68 rfl ?_
  refine wp_geti (0 : Int32) dX11_parseLeaf_69 fX11_298 (Or.inl rfl) (ka hF 293 (by decide)) he ?_
  refine wp_if_ne 112 dX11_parseLeaf_72 (by decide) (fun q => absurd (by decide) q) (fun _ => ?_)
  refine wp_iload_n dX11_parseLeaf_75 rfl ?_
  refine wp_iconst (3 : Int32) dX11_parseLeaf_76 (by decide) ?_
  refine wp_icmp_gt 112 dX11_parseLeaf_77 (by decide) (fun q => absurd q (by decide)) (fun _ => ?_)
  refine wp_aload_n dX11_parseLeaf_80 rfl ?_
  refine wp_aload_n dX11_parseLeaf_81 rfl ?_
  refine wp_getr (gB G + 294) dX11_parseLeaf_82 fX11_7 (ka hF 293 (by decide)) (hF.2 _ _) (rra 1 (isK_le (ka hF 293 (by decide))) (fun _ => rfl)) ?_
  refine wp_iload_n dX11_parseLeaf_85 rfl ?_
  refine wp_iconst (1 : Int32) dX11_parseLeaf_86 (by decide) ?_
  refine wp_icmp_ne 95 dX11_parseLeaf_87 (by decide) (fun q => absurd (by decide) q) (fun _ => ?_)
  refine wp_bipush (12 : Int32) dX11_parseLeaf_90 (by decide) ?_
  refine wp_goto 107 dX11_parseLeaf_92 (by decide) ?_
  refine wp_ialdk (n := 1486) 12 (nI c) dX11_parseLeaf_107 (ka hF 294 (by decide)) (la 294) (vinl (by decide)) rfl hc ?_
  refine wp_forget [.ref (gB G + 293), .int (1 : Int32), lvU] ⟨Or.inl rfl, Or.inl rfl, Or.inr rfl, trivial⟩ ?_
  refine wp_callV (As := [.int (nI c)]) (S := []) (b' := (0, 0)) (b := (0, 0)) dX11_parseLeaf_108 MX11_337 (ka hF 293 (by decide)) rfl rfl rfl rfl (Nat.le_of_ble_eq_true rfl) ?_
  exact e1

theorem lfD1 {G : Cx} {d : Nat} {m : Mm} {Q : Option Value → Mm → Prop} {v s : Nat} (hF : Full G m) (he : fi m 1118 (gB G + 293) = (0 : Int32)) (hz : fi m 1124 (gB G + 293) = nI s) (hs5 : s < 500) 
    (e1 : Q none (wfi (wai (wai m (gB G + 306) (2 * s) (1 : Int32)) (gB G + 306) (2 * s + 1) (nI v)) 1124 (gB G + 293) (nI (s + 1)))) :
    WP G (d + 10) (0, 0) μX11_parseLeaf 111 [.ref (gB G + 293), .int (1 : Int32), lvU] [.int (nI v)] m Q := by
  refine wp_istore_n dX11_parseLeaf_111 (by decide) rfl ?_
  refine wp_aload_n dX11_parseLeaf_112 rfl ?_
  refine wp_iload_n dX11_parseLeaf_113 rfl ?_
  refine wp_iload_n dX11_parseLeaf_114 rfl ?_
  refine wp_callV (As := [.int (1 : Int32), .int (nI v)]) (S := []) (b' := (0, 0)) (b := (0, 0)) dX11_parseLeaf_115 MX11_330 (ka hF 293 (by decide)) rfl rfl rfl rfl (Nat.le_of_ble_eq_true rfl) ?_
  refine WPM.of pX11 (Nat.le_of_ble_eq_true rfl) rfl ?_
  refine wp_aload_n dX11_emit_0 rfl ?_
  refine wp_geti (0 : Int32) dX11_emit_1 fX11_298 (Or.inl rfl) (ka hF 293 (by decide)) he ?_
  refine wp_if_ne 43 dX11_emit_4 (by decide) (fun q => absurd (by decide) q) (fun _ => ?_)
  refine wp_aload_n dX11_emit_7 rfl ?_
  refine wp_getr (gB G + 306) dX11_emit_8 fX11_52 (ka hF 293 (by decide)) (hF.2 _ _) (rra 13 (isK_le (ka hF 293 (by decide))) (fun _ => rfl)) ?_
  refine wp_iconst (2 : Int32) dX11_emit_11 (by decide) ?_
  refine wp_aload_n dX11_emit_12 rfl ?_
  refine wp_geti (nI s) dX11_emit_13 fX11_311 (Or.inl rfl) (ka hF 293 (by decide)) hz ?_
  refine wp_imulv (nI (2 * s)) dX11_emit_16 (nmul (a := 2) (b := s) (by omega)) ?_
  refine wp_iload_n dX11_emit_17 rfl ?_
  refine wp_iastk (n := 1000) (2 * s) dX11_emit_18 (ka hF 306 (by decide)) (la 306) (vin (by omega) (by decide))  (nIc (by omega)) ?_
  have hF1 := Full_wai (gB G + 306) (2 * s) (1 : Int32) hF
  refine wp_aload_n dX11_emit_19 rfl ?_
  refine wp_getr (gB G + 306) dX11_emit_20 fX11_52 (ka hF1 293 (by decide)) (hF1.2 _ _) (rra 13 (isK_le (ka hF1 293 (by decide))) (fun _ => rfl)) ?_
  refine wp_iconst (2 : Int32) dX11_emit_23 (by decide) ?_
  refine wp_aload_n dX11_emit_24 rfl ?_
  refine wp_geti (nI s) dX11_emit_25 fX11_311 (Or.inl rfl) (ka hF1 293 (by decide)) (fi_wai.trans hz) ?_
  refine wp_imulv (nI (2 * s)) dX11_emit_28 (nmul (a := 2) (b := s) (by omega)) ?_
  refine wp_iconst (1 : Int32) dX11_emit_29 (by decide) ?_
  refine wp_iaddv (nI (2 * s + 1)) dX11_emit_30 (nadd (a := 2 * s) (b := 1) (by omega)) ?_
  refine wp_iload_n dX11_emit_31 rfl ?_
  refine wp_iastk (n := 1000) (2 * s + 1) dX11_emit_32 (ka hF1 306 (by decide)) (la 306) (vin (by omega) (by decide))  (nIc (by omega)) ?_
  have hF2 := Full_wai (gB G + 306) (2 * s + 1) (nI v) hF1
  refine wp_aload_n dX11_emit_33 rfl ?_
  refine wp_dup dX11_emit_34 rfl ?_
  refine wp_geti (nI s) dX11_emit_35 fX11_311 (Or.inl rfl) (ka hF2 293 (by decide)) (fi_wai.trans (fi_wai.trans hz)) ?_
  refine wp_iconst (1 : Int32) dX11_emit_38 (by decide) ?_
  refine wp_iaddv (nI (s + 1)) dX11_emit_39 (nadd (a := s) (b := 1) (by omega)) ?_
  refine wp_puti dX11_emit_40 pX11_311 (ka hF2 293 (by decide)) ?_
  have hF3 := Full_wfi 1124 (gB G + 293) (nI (s + 1)) hF2
  refine wp_vret dX11_emit_43 rfl ?_
  show WP G (d + 10) (0, 0) μX11_parseLeaf 118 [.ref (gB G + 293), .int (1 : Int32), .int (nI v)] [] (wfi (wai (wai m (gB G + 306) (2 * s) (1 : Int32)) (gB G + 306) (2 * s + 1) (nI v)) 1124 (gB G + 293) (nI (s + 1))) _
  exact wp_vret dX11_parseLeaf_118 rfl (e1)

theorem lfE1 {G : Cx} {d : Nat} {m : Mm} {Q : Option Value → Mm → Prop} {c v : Int32} (hF : Full G m) (he : fi m 1118 (gB G + 293) = c) (hc : ¬ c = 0) 
    (e1 : Q none m) :
    WP G (d + 10) (0, 0) μX11_parseLeaf 111 [.ref (gB G + 293), .int (1 : Int32), lvU] [.int v] m Q := by
  refine wp_istore_n dX11_parseLeaf_111 (by decide) rfl ?_
  refine wp_aload_n dX11_parseLeaf_112 rfl ?_
  refine wp_iload_n dX11_parseLeaf_113 rfl ?_
  refine wp_iload_n dX11_parseLeaf_114 rfl ?_
  refine wp_callV (As := [.int (1 : Int32), .int v]) (S := []) (b' := (0, 0)) (b := (0, 0)) dX11_parseLeaf_115 MX11_330 (ka hF 293 (by decide)) rfl rfl rfl rfl (Nat.le_of_ble_eq_true rfl) ?_
  refine WPM.of pX11 (Nat.le_of_ble_eq_true rfl) rfl ?_
  refine wp_aload_n dX11_emit_0 rfl ?_
  refine wp_geti c dX11_emit_1 fX11_298 (Or.inl rfl) (ka hF 293 (by decide)) he ?_
  refine wp_if_ne 43 dX11_emit_4 (by decide) (fun _ => ?_) (fun q => absurd q hc)
  refine wp_vret dX11_emit_43 rfl ?_
  show WP G (d + 10) (0, 0) μX11_parseLeaf 118 [.ref (gB G + 293), .int (1 : Int32), .int v] [] m _
  exact wp_vret dX11_parseLeaf_118 rfl (e1)

theorem lfB2 {G : Cx} {d : Nat} {m : Mm} {Q : Option Value → Mm → Prop}  (hF : Full G m) (he : fi m 1118 (gB G + 293) = (0 : Int32)) 
    (e1 : WPM G (d + 9) (0, 0) μX11_advance [.ref (gB G + 293)] m (fun r' m' => WP G (d + 10) (0, 0) μX11_parseLeaf 66 [.ref (gB G + 293), .int (2 : Int32), lvU] (r'.toList ++ []) m' Q)) :
    WP G (d + 10) (0, 0) μX11_parseLeaf 46 [.ref (gB G + 293), lvU, lvU] [.int (2 : Int32)] m Q := by
  refine wp_istore_n dX11_parseLeaf_46 (by decide) rfl ?_
  refine wp_aload_n dX11_parseLeaf_47 rfl ?_
  refine wp_iload_n dX11_parseLeaf_48 rfl ?_
  refine wp_iconst (-1 : Int32) dX11_parseLeaf_49 (by decide) ?_
  refine wp_icmp_eq 57 dX11_parseLeaf_50 (by decide) (fun q => absurd q (by decide)) (fun _ => ?_)
  refine wp_iconst (1 : Int32) dX11_parseLeaf_53 (by decide) ?_
  refine wp_goto 58 dX11_parseLeaf_54 (by decide) ?_
  refine wp_iconst (1 : Int32) dX11_parseLeaf_58 (by decide) ?_
  refine wp_callV (As := [.int (1 : Int32), .int (1 : Int32)]) (S := []) (b' := (0, 0)) (b := (0, 0)) dX11_parseLeaf_59 MX11_304 (ka hF 293 (by decide)) rfl rfl rfl rfl (Nat.le_of_ble_eq_true rfl) ?_
  refine WPM.of pX11 (Nat.le_of_ble_eq_true rfl) rfl ?_
  refine wp_iload_n dX11_require_0 rfl ?_
  refine wp_if_ne 24 dX11_require_1 (by decide) (fun _ => ?_) (fun q => absurd q (by decide))
  refine wp_vret dX11_require_24 rfl ?_
  show WP G (d + 10) (0, 0) μX11_parseLeaf 62 [.ref (gB G + 293), .int (2 : Int32), lvU] [] m _
  refine wp_aload_n dX11_parseLeaf_62 rfl ?_
  refine wp_callV (As := []) (S := []) (b' := (0, 0)) (b := (0, 0)) dX11_parseLeaf_63 MX11_308 (ka hF 293 (by decide)) rfl rfl rfl rfl (Nat.le_of_ble_eq_true rfl) ?_
  exact e1

theorem lfC2 {G : Cx} {d : Nat} {m : Mm} {Q : Option Value → Mm → Prop} {c : Nat} (hF : Full G m) (he : fi m 1118 (gB G + 293) = (0 : Int32)) (hc : ai m (gB G + 294) 13 = nI c) 
    (e1 : WPM G (d + 9) (0, 0) μX11_parsePart [.ref (gB G + 293), .int (nI c)] m (fun r' m' => WP G (d + 10) (0, 0) μX11_parseLeaf 111 [.ref (gB G + 293), .int (2 : Int32), lvU] (r'.toList ++ []) m' Q)) :
    WP G (d + 10) (0, 0) μX11_parseLeaf 66 [.ref (gB G + 293), .int (2 : Int32), lvU] [] m Q := by
  refine wp_iconst (0 : Int32) dX11_parseLeaf_66 (by decide) ?_
  refine wp_istore_n dX11_parseLeaf_67 (by decide) rfl ?_
  refine wp_aload_n dX11_parseLeaf_68 rfl ?_
  refine wp_geti (0 : Int32) dX11_parseLeaf_69 fX11_298 (Or.inl rfl) (ka hF 293 (by decide)) he ?_
  refine wp_if_ne 112 dX11_parseLeaf_72 (by decide) (fun q => absurd (by decide) q) (fun _ => ?_)
  refine wp_iload_n dX11_parseLeaf_75 rfl ?_
  refine wp_iconst (3 : Int32) dX11_parseLeaf_76 (by decide) ?_
  refine wp_icmp_gt 112 dX11_parseLeaf_77 (by decide) (fun q => absurd q (by decide)) (fun _ => ?_)
  refine wp_aload_n dX11_parseLeaf_80 rfl ?_
  refine wp_aload_n dX11_parseLeaf_81 rfl ?_
  refine wp_getr (gB G + 294) dX11_parseLeaf_82 fX11_7 (ka hF 293 (by decide)) (hF.2 _ _) (rra 1 (isK_le (ka hF 293 (by decide))) (fun _ => rfl)) ?_
  refine wp_iload_n dX11_parseLeaf_85 rfl ?_
  refine wp_iconst (1 : Int32) dX11_parseLeaf_86 (by decide) ?_
  refine wp_icmp_ne 95 dX11_parseLeaf_87 (by decide) (fun _ => ?_) (fun q => absurd q (by decide))
  refine wp_iload_n dX11_parseLeaf_95 rfl ?_
  refine wp_iconst (2 : Int32) dX11_parseLeaf_96 (by decide) ?_
  refine wp_icmp_ne 105 dX11_parseLeaf_97 (by decide) (fun q => absurd (by decide) q) (fun _ => ?_)
  refine wp_bipush (13 : Int32) dX11_parseLeaf_100 (by decide) ?_
  refine wp_goto 107 dX11_parseLeaf_102 (by decide) ?_
  refine wp_ialdk (n := 1486) 13 (nI c) dX11_parseLeaf_107 (ka hF 294 (by decide)) (la 294) (vinl (by decide)) rfl hc ?_
  refine wp_forget [.ref (gB G + 293), .int (2 : Int32), lvU] ⟨Or.inl rfl, Or.inl rfl, Or.inr rfl, trivial⟩ ?_
  refine wp_callV (As := [.int (nI c)]) (S := []) (b' := (0, 0)) (b := (0, 0)) dX11_parseLeaf_108 MX11_337 (ka hF 293 (by decide)) rfl rfl rfl rfl (Nat.le_of_ble_eq_true rfl) ?_
  exact e1

theorem lfD2 {G : Cx} {d : Nat} {m : Mm} {Q : Option Value → Mm → Prop} {v s : Nat} (hF : Full G m) (he : fi m 1118 (gB G + 293) = (0 : Int32)) (hz : fi m 1124 (gB G + 293) = nI s) (hs5 : s < 500) 
    (e1 : Q none (wfi (wai (wai m (gB G + 306) (2 * s) (2 : Int32)) (gB G + 306) (2 * s + 1) (nI v)) 1124 (gB G + 293) (nI (s + 1)))) :
    WP G (d + 10) (0, 0) μX11_parseLeaf 111 [.ref (gB G + 293), .int (2 : Int32), lvU] [.int (nI v)] m Q := by
  refine wp_istore_n dX11_parseLeaf_111 (by decide) rfl ?_
  refine wp_aload_n dX11_parseLeaf_112 rfl ?_
  refine wp_iload_n dX11_parseLeaf_113 rfl ?_
  refine wp_iload_n dX11_parseLeaf_114 rfl ?_
  refine wp_callV (As := [.int (2 : Int32), .int (nI v)]) (S := []) (b' := (0, 0)) (b := (0, 0)) dX11_parseLeaf_115 MX11_330 (ka hF 293 (by decide)) rfl rfl rfl rfl (Nat.le_of_ble_eq_true rfl) ?_
  refine WPM.of pX11 (Nat.le_of_ble_eq_true rfl) rfl ?_
  refine wp_aload_n dX11_emit_0 rfl ?_
  refine wp_geti (0 : Int32) dX11_emit_1 fX11_298 (Or.inl rfl) (ka hF 293 (by decide)) he ?_
  refine wp_if_ne 43 dX11_emit_4 (by decide) (fun q => absurd (by decide) q) (fun _ => ?_)
  refine wp_aload_n dX11_emit_7 rfl ?_
  refine wp_getr (gB G + 306) dX11_emit_8 fX11_52 (ka hF 293 (by decide)) (hF.2 _ _) (rra 13 (isK_le (ka hF 293 (by decide))) (fun _ => rfl)) ?_
  refine wp_iconst (2 : Int32) dX11_emit_11 (by decide) ?_
  refine wp_aload_n dX11_emit_12 rfl ?_
  refine wp_geti (nI s) dX11_emit_13 fX11_311 (Or.inl rfl) (ka hF 293 (by decide)) hz ?_
  refine wp_imulv (nI (2 * s)) dX11_emit_16 (nmul (a := 2) (b := s) (by omega)) ?_
  refine wp_iload_n dX11_emit_17 rfl ?_
  refine wp_iastk (n := 1000) (2 * s) dX11_emit_18 (ka hF 306 (by decide)) (la 306) (vin (by omega) (by decide))  (nIc (by omega)) ?_
  have hF1 := Full_wai (gB G + 306) (2 * s) (2 : Int32) hF
  refine wp_aload_n dX11_emit_19 rfl ?_
  refine wp_getr (gB G + 306) dX11_emit_20 fX11_52 (ka hF1 293 (by decide)) (hF1.2 _ _) (rra 13 (isK_le (ka hF1 293 (by decide))) (fun _ => rfl)) ?_
  refine wp_iconst (2 : Int32) dX11_emit_23 (by decide) ?_
  refine wp_aload_n dX11_emit_24 rfl ?_
  refine wp_geti (nI s) dX11_emit_25 fX11_311 (Or.inl rfl) (ka hF1 293 (by decide)) (fi_wai.trans hz) ?_
  refine wp_imulv (nI (2 * s)) dX11_emit_28 (nmul (a := 2) (b := s) (by omega)) ?_
  refine wp_iconst (1 : Int32) dX11_emit_29 (by decide) ?_
  refine wp_iaddv (nI (2 * s + 1)) dX11_emit_30 (nadd (a := 2 * s) (b := 1) (by omega)) ?_
  refine wp_iload_n dX11_emit_31 rfl ?_
  refine wp_iastk (n := 1000) (2 * s + 1) dX11_emit_32 (ka hF1 306 (by decide)) (la 306) (vin (by omega) (by decide))  (nIc (by omega)) ?_
  have hF2 := Full_wai (gB G + 306) (2 * s + 1) (nI v) hF1
  refine wp_aload_n dX11_emit_33 rfl ?_
  refine wp_dup dX11_emit_34 rfl ?_
  refine wp_geti (nI s) dX11_emit_35 fX11_311 (Or.inl rfl) (ka hF2 293 (by decide)) (fi_wai.trans (fi_wai.trans hz)) ?_
  refine wp_iconst (1 : Int32) dX11_emit_38 (by decide) ?_
  refine wp_iaddv (nI (s + 1)) dX11_emit_39 (nadd (a := s) (b := 1) (by omega)) ?_
  refine wp_puti dX11_emit_40 pX11_311 (ka hF2 293 (by decide)) ?_
  have hF3 := Full_wfi 1124 (gB G + 293) (nI (s + 1)) hF2
  refine wp_vret dX11_emit_43 rfl ?_
  show WP G (d + 10) (0, 0) μX11_parseLeaf 118 [.ref (gB G + 293), .int (2 : Int32), .int (nI v)] [] (wfi (wai (wai m (gB G + 306) (2 * s) (2 : Int32)) (gB G + 306) (2 * s + 1) (nI v)) 1124 (gB G + 293) (nI (s + 1))) _
  exact wp_vret dX11_parseLeaf_118 rfl (e1)

theorem lfE2 {G : Cx} {d : Nat} {m : Mm} {Q : Option Value → Mm → Prop} {c v : Int32} (hF : Full G m) (he : fi m 1118 (gB G + 293) = c) (hc : ¬ c = 0) 
    (e1 : Q none m) :
    WP G (d + 10) (0, 0) μX11_parseLeaf 111 [.ref (gB G + 293), .int (2 : Int32), lvU] [.int v] m Q := by
  refine wp_istore_n dX11_parseLeaf_111 (by decide) rfl ?_
  refine wp_aload_n dX11_parseLeaf_112 rfl ?_
  refine wp_iload_n dX11_parseLeaf_113 rfl ?_
  refine wp_iload_n dX11_parseLeaf_114 rfl ?_
  refine wp_callV (As := [.int (2 : Int32), .int v]) (S := []) (b' := (0, 0)) (b := (0, 0)) dX11_parseLeaf_115 MX11_330 (ka hF 293 (by decide)) rfl rfl rfl rfl (Nat.le_of_ble_eq_true rfl) ?_
  refine WPM.of pX11 (Nat.le_of_ble_eq_true rfl) rfl ?_
  refine wp_aload_n dX11_emit_0 rfl ?_
  refine wp_geti c dX11_emit_1 fX11_298 (Or.inl rfl) (ka hF 293 (by decide)) he ?_
  refine wp_if_ne 43 dX11_emit_4 (by decide) (fun _ => ?_) (fun q => absurd q hc)
  refine wp_vret dX11_emit_43 rfl ?_
  show WP G (d + 10) (0, 0) μX11_parseLeaf 118 [.ref (gB G + 293), .int (2 : Int32), .int v] [] m _
  exact wp_vret dX11_parseLeaf_118 rfl (e1)

theorem lfB3 {G : Cx} {d : Nat} {m : Mm} {Q : Option Value → Mm → Prop}  (hF : Full G m) (he : fi m 1118 (gB G + 293) = (0 : Int32)) 
    (e1 : WPM G (d + 9) (0, 0) μX11_advance [.ref (gB G + 293)] m (fun r' m' => WP G (d + 10) (0, 0) μX11_parseLeaf 66 [.ref (gB G + 293), .int (3 : Int32), lvU] (r'.toList ++ []) m' Q)) :
    WP G (d + 10) (0, 0) μX11_parseLeaf 46 [.ref (gB G + 293), lvU, lvU] [.int (3 : Int32)] m Q := by
  refine wp_istore_n dX11_parseLeaf_46 (by decide) rfl ?_
  refine wp_aload_n dX11_parseLeaf_47 rfl ?_
  refine wp_iload_n dX11_parseLeaf_48 rfl ?_
  refine wp_iconst (-1 : Int32) dX11_parseLeaf_49 (by decide) ?_
  refine wp_icmp_eq 57 dX11_parseLeaf_50 (by decide) (fun q => absurd q (by decide)) (fun _ => ?_)
  refine wp_iconst (1 : Int32) dX11_parseLeaf_53 (by decide) ?_
  refine wp_goto 58 dX11_parseLeaf_54 (by decide) ?_
  refine wp_iconst (1 : Int32) dX11_parseLeaf_58 (by decide) ?_
  refine wp_callV (As := [.int (1 : Int32), .int (1 : Int32)]) (S := []) (b' := (0, 0)) (b := (0, 0)) dX11_parseLeaf_59 MX11_304 (ka hF 293 (by decide)) rfl rfl rfl rfl (Nat.le_of_ble_eq_true rfl) ?_
  refine WPM.of pX11 (Nat.le_of_ble_eq_true rfl) rfl ?_
  refine wp_iload_n dX11_require_0 rfl ?_
  refine wp_if_ne 24 dX11_require_1 (by decide) (fun _ => ?_) (fun q => absurd q (by decide))
  refine wp_vret dX11_require_24 rfl ?_
  show WP G (d + 10) (0, 0) μX11_parseLeaf 62 [.ref (gB G + 293), .int (3 : Int32), lvU] [] m _
  refine wp_aload_n dX11_parseLeaf_62 rfl ?_
  refine wp_callV (As := []) (S := []) (b' := (0, 0)) (b := (0, 0)) dX11_parseLeaf_63 MX11_308 (ka hF 293 (by decide)) rfl rfl rfl rfl (Nat.le_of_ble_eq_true rfl) ?_
  exact e1

theorem lfC3 {G : Cx} {d : Nat} {m : Mm} {Q : Option Value → Mm → Prop} {c : Nat} (hF : Full G m) (he : fi m 1118 (gB G + 293) = (0 : Int32)) (hc : ai m (gB G + 294) 14 = nI c) 
    (e1 : WPM G (d + 9) (0, 0) μX11_parsePart [.ref (gB G + 293), .int (nI c)] m (fun r' m' => WP G (d + 10) (0, 0) μX11_parseLeaf 111 [.ref (gB G + 293), .int (3 : Int32), lvU] (r'.toList ++ []) m' Q)) :
    WP G (d + 10) (0, 0) μX11_parseLeaf 66 [.ref (gB G + 293), .int (3 : Int32), lvU] [] m Q := by
  refine wp_iconst (0 : Int32) dX11_parseLeaf_66 (by decide) ?_
  refine wp_istore_n dX11_parseLeaf_67 (by decide) rfl ?_
  refine wp_aload_n dX11_parseLeaf_68 rfl ?_
  refine wp_geti (0 : Int32) dX11_parseLeaf_69 fX11_298 (Or.inl rfl) (ka hF 293 (by decide)) he ?_
  refine wp_if_ne 112 dX11_parseLeaf_72 (by decide) (fun q => absurd (by decide) q) (fun _ => ?_)
  refine wp_iload_n dX11_parseLeaf_75 rfl ?_
  refine wp_iconst (3 : Int32) dX11_parseLeaf_76 (by decide) ?_
  refine wp_icmp_gt 112 dX11_parseLeaf_77 (by decide) (fun q => absurd q (by decide)) (fun _ => ?_)
  refine wp_aload_n dX11_parseLeaf_80 rfl ?_
  refine wp_aload_n dX11_parseLeaf_81 rfl ?_
  refine wp_getr (gB G + 294) dX11_parseLeaf_82 fX11_7 (ka hF 293 (by decide)) (hF.2 _ _) (rra 1 (isK_le (ka hF 293 (by decide))) (fun _ => rfl)) ?_
  refine wp_iload_n dX11_parseLeaf_85 rfl ?_
  refine wp_iconst (1 : Int32) dX11_parseLeaf_86 (by decide) ?_
  refine wp_icmp_ne 95 dX11_parseLeaf_87 (by decide) (fun _ => ?_) (fun q => absurd q (by decide))
  refine wp_iload_n dX11_parseLeaf_95 rfl ?_
  refine wp_iconst (2 : Int32) dX11_parseLeaf_96 (by decide) ?_
  refine wp_icmp_ne 105 dX11_parseLeaf_97 (by decide) (fun _ => ?_) (fun q => absurd q (by decide))
  refine wp_bipush (14 : Int32) dX11_parseLeaf_105 (by decide) ?_
  refine wp_ialdk (n := 1486) 14 (nI c) dX11_parseLeaf_107 (ka hF 294 (by decide)) (la 294) (vinl (by decide)) rfl hc ?_
  refine wp_forget [.ref (gB G + 293), .int (3 : Int32), lvU] ⟨Or.inl rfl, Or.inl rfl, Or.inr rfl, trivial⟩ ?_
  refine wp_callV (As := [.int (nI c)]) (S := []) (b' := (0, 0)) (b := (0, 0)) dX11_parseLeaf_108 MX11_337 (ka hF 293 (by decide)) rfl rfl rfl rfl (Nat.le_of_ble_eq_true rfl) ?_
  exact e1

theorem lfD3 {G : Cx} {d : Nat} {m : Mm} {Q : Option Value → Mm → Prop} {v s : Nat} (hF : Full G m) (he : fi m 1118 (gB G + 293) = (0 : Int32)) (hz : fi m 1124 (gB G + 293) = nI s) (hs5 : s < 500) 
    (e1 : Q none (wfi (wai (wai m (gB G + 306) (2 * s) (3 : Int32)) (gB G + 306) (2 * s + 1) (nI v)) 1124 (gB G + 293) (nI (s + 1)))) :
    WP G (d + 10) (0, 0) μX11_parseLeaf 111 [.ref (gB G + 293), .int (3 : Int32), lvU] [.int (nI v)] m Q := by
  refine wp_istore_n dX11_parseLeaf_111 (by decide) rfl ?_
  refine wp_aload_n dX11_parseLeaf_112 rfl ?_
  refine wp_iload_n dX11_parseLeaf_113 rfl ?_
  refine wp_iload_n dX11_parseLeaf_114 rfl ?_
  refine wp_callV (As := [.int (3 : Int32), .int (nI v)]) (S := []) (b' := (0, 0)) (b := (0, 0)) dX11_parseLeaf_115 MX11_330 (ka hF 293 (by decide)) rfl rfl rfl rfl (Nat.le_of_ble_eq_true rfl) ?_
  refine WPM.of pX11 (Nat.le_of_ble_eq_true rfl) rfl ?_
  refine wp_aload_n dX11_emit_0 rfl ?_
  refine wp_geti (0 : Int32) dX11_emit_1 fX11_298 (Or.inl rfl) (ka hF 293 (by decide)) he ?_
  refine wp_if_ne 43 dX11_emit_4 (by decide) (fun q => absurd (by decide) q) (fun _ => ?_)
  refine wp_aload_n dX11_emit_7 rfl ?_
  refine wp_getr (gB G + 306) dX11_emit_8 fX11_52 (ka hF 293 (by decide)) (hF.2 _ _) (rra 13 (isK_le (ka hF 293 (by decide))) (fun _ => rfl)) ?_
  refine wp_iconst (2 : Int32) dX11_emit_11 (by decide) ?_
  refine wp_aload_n dX11_emit_12 rfl ?_
  refine wp_geti (nI s) dX11_emit_13 fX11_311 (Or.inl rfl) (ka hF 293 (by decide)) hz ?_
  refine wp_imulv (nI (2 * s)) dX11_emit_16 (nmul (a := 2) (b := s) (by omega)) ?_
  refine wp_iload_n dX11_emit_17 rfl ?_
  refine wp_iastk (n := 1000) (2 * s) dX11_emit_18 (ka hF 306 (by decide)) (la 306) (vin (by omega) (by decide))  (nIc (by omega)) ?_
  have hF1 := Full_wai (gB G + 306) (2 * s) (3 : Int32) hF
  refine wp_aload_n dX11_emit_19 rfl ?_
  refine wp_getr (gB G + 306) dX11_emit_20 fX11_52 (ka hF1 293 (by decide)) (hF1.2 _ _) (rra 13 (isK_le (ka hF1 293 (by decide))) (fun _ => rfl)) ?_
  refine wp_iconst (2 : Int32) dX11_emit_23 (by decide) ?_
  refine wp_aload_n dX11_emit_24 rfl ?_
  refine wp_geti (nI s) dX11_emit_25 fX11_311 (Or.inl rfl) (ka hF1 293 (by decide)) (fi_wai.trans hz) ?_
  refine wp_imulv (nI (2 * s)) dX11_emit_28 (nmul (a := 2) (b := s) (by omega)) ?_
  refine wp_iconst (1 : Int32) dX11_emit_29 (by decide) ?_
  refine wp_iaddv (nI (2 * s + 1)) dX11_emit_30 (nadd (a := 2 * s) (b := 1) (by omega)) ?_
  refine wp_iload_n dX11_emit_31 rfl ?_
  refine wp_iastk (n := 1000) (2 * s + 1) dX11_emit_32 (ka hF1 306 (by decide)) (la 306) (vin (by omega) (by decide))  (nIc (by omega)) ?_
  have hF2 := Full_wai (gB G + 306) (2 * s + 1) (nI v) hF1
  refine wp_aload_n dX11_emit_33 rfl ?_
  refine wp_dup dX11_emit_34 rfl ?_
  refine wp_geti (nI s) dX11_emit_35 fX11_311 (Or.inl rfl) (ka hF2 293 (by decide)) (fi_wai.trans (fi_wai.trans hz)) ?_
  refine wp_iconst (1 : Int32) dX11_emit_38 (by decide) ?_
  refine wp_iaddv (nI (s + 1)) dX11_emit_39 (nadd (a := s) (b := 1) (by omega)) ?_
  refine wp_puti dX11_emit_40 pX11_311 (ka hF2 293 (by decide)) ?_
  have hF3 := Full_wfi 1124 (gB G + 293) (nI (s + 1)) hF2
  refine wp_vret dX11_emit_43 rfl ?_
  show WP G (d + 10) (0, 0) μX11_parseLeaf 118 [.ref (gB G + 293), .int (3 : Int32), .int (nI v)] [] (wfi (wai (wai m (gB G + 306) (2 * s) (3 : Int32)) (gB G + 306) (2 * s + 1) (nI v)) 1124 (gB G + 293) (nI (s + 1))) _
  exact wp_vret dX11_parseLeaf_118 rfl (e1)

theorem lfE3 {G : Cx} {d : Nat} {m : Mm} {Q : Option Value → Mm → Prop} {c v : Int32} (hF : Full G m) (he : fi m 1118 (gB G + 293) = c) (hc : ¬ c = 0) 
    (e1 : Q none m) :
    WP G (d + 10) (0, 0) μX11_parseLeaf 111 [.ref (gB G + 293), .int (3 : Int32), lvU] [.int v] m Q := by
  refine wp_istore_n dX11_parseLeaf_111 (by decide) rfl ?_
  refine wp_aload_n dX11_parseLeaf_112 rfl ?_
  refine wp_iload_n dX11_parseLeaf_113 rfl ?_
  refine wp_iload_n dX11_parseLeaf_114 rfl ?_
  refine wp_callV (As := [.int (3 : Int32), .int v]) (S := []) (b' := (0, 0)) (b := (0, 0)) dX11_parseLeaf_115 MX11_330 (ka hF 293 (by decide)) rfl rfl rfl rfl (Nat.le_of_ble_eq_true rfl) ?_
  refine WPM.of pX11 (Nat.le_of_ble_eq_true rfl) rfl ?_
  refine wp_aload_n dX11_emit_0 rfl ?_
  refine wp_geti c dX11_emit_1 fX11_298 (Or.inl rfl) (ka hF 293 (by decide)) he ?_
  refine wp_if_ne 43 dX11_emit_4 (by decide) (fun _ => ?_) (fun q => absurd q hc)
  refine wp_vret dX11_emit_43 rfl ?_
  show WP G (d + 10) (0, 0) μX11_parseLeaf 118 [.ref (gB G + 293), .int (3 : Int32), .int v] [] m _
  exact wp_vret dX11_parseLeaf_118 rfl (e1)

theorem lfB4 {G : Cx} {d : Nat} {m : Mm} {Q : Option Value → Mm → Prop}  (hF : Full G m) (he : fi m 1118 (gB G + 293) = (0 : Int32)) 
    (e1 : WPM G (d + 9) (0, 0) μX11_advance [.ref (gB G + 293)] m (fun r' m' => WP G (d + 10) (0, 0) μX11_parseLeaf 66 [.ref (gB G + 293), .int (4 : Int32), lvU] (r'.toList ++ []) m' Q)) :
    WP G (d + 10) (0, 0) μX11_parseLeaf 46 [.ref (gB G + 293), lvU, lvU] [.int (4 : Int32)] m Q := by
  refine wp_istore_n dX11_parseLeaf_46 (by decide) rfl ?_
  refine wp_aload_n dX11_parseLeaf_47 rfl ?_
  refine wp_iload_n dX11_parseLeaf_48 rfl ?_
  refine wp_iconst (-1 : Int32) dX11_parseLeaf_49 (by decide) ?_
  refine wp_icmp_eq 57 dX11_parseLeaf_50 (by decide) (fun q => absurd q (by decide)) (fun _ => ?_)
  refine wp_iconst (1 : Int32) dX11_parseLeaf_53 (by decide) ?_
  refine wp_goto 58 dX11_parseLeaf_54 (by decide) ?_
  refine wp_iconst (1 : Int32) dX11_parseLeaf_58 (by decide) ?_
  refine wp_callV (As := [.int (1 : Int32), .int (1 : Int32)]) (S := []) (b' := (0, 0)) (b := (0, 0)) dX11_parseLeaf_59 MX11_304 (ka hF 293 (by decide)) rfl rfl rfl rfl (Nat.le_of_ble_eq_true rfl) ?_
  refine WPM.of pX11 (Nat.le_of_ble_eq_true rfl) rfl ?_
  refine wp_iload_n dX11_require_0 rfl ?_
  refine wp_if_ne 24 dX11_require_1 (by decide) (fun _ => ?_) (fun q => absurd q (by decide))
  refine wp_vret dX11_require_24 rfl ?_
  show WP G (d + 10) (0, 0) μX11_parseLeaf 62 [.ref (gB G + 293), .int (4 : Int32), lvU] [] m _
  refine wp_aload_n dX11_parseLeaf_62 rfl ?_
  refine wp_callV (As := []) (S := []) (b' := (0, 0)) (b := (0, 0)) dX11_parseLeaf_63 MX11_308 (ka hF 293 (by decide)) rfl rfl rfl rfl (Nat.le_of_ble_eq_true rfl) ?_
  exact e1

theorem lfC4 {G : Cx} {d : Nat} {m : Mm} {Q : Option Value → Mm → Prop} {s : Nat} (hF : Full G m) (he : fi m 1118 (gB G + 293) = (0 : Int32)) (hz : fi m 1124 (gB G + 293) = nI s) (hs5 : s < 500) 
    (e1 : Q none (wfi (wai (wai m (gB G + 306) (2 * s) (4 : Int32)) (gB G + 306) (2 * s + 1) (0 : Int32)) 1124 (gB G + 293) (nI (s + 1)))) :
    WP G (d + 10) (0, 0) μX11_parseLeaf 66 [.ref (gB G + 293), .int (4 : Int32), lvU] [] m Q := by
  refine wp_iconst (0 : Int32) dX11_parseLeaf_66 (by decide) ?_
  refine wp_istore_n dX11_parseLeaf_67 (by decide) rfl ?_
  refine wp_aload_n dX11_parseLeaf_68 rfl ?_
  refine wp_geti (0 : Int32) dX11_parseLeaf_69 fX11_298 (Or.inl rfl) (ka hF 293 (by decide)) he ?_
  refine wp_if_ne 112 dX11_parseLeaf_72 (by decide) (fun q => absurd (by decide) q) (fun _ => ?_)
  refine wp_iload_n dX11_parseLeaf_75 rfl ?_
  refine wp_iconst (3 : Int32) dX11_parseLeaf_76 (by decide) ?_
  refine wp_icmp_gt 112 dX11_parseLeaf_77 (by decide) (fun _ => ?_) (fun q => absurd (by decide) q)
  refine wp_aload_n dX11_parseLeaf_112 rfl ?_
  refine wp_iload_n dX11_parseLeaf_113 rfl ?_
  refine wp_iload_n dX11_parseLeaf_114 rfl ?_
  refine wp_callV (As := [.int (4 : Int32), .int (0 : Int32)]) (S := []) (b' := (0, 0)) (b := (0, 0)) dX11_parseLeaf_115 MX11_330 (ka hF 293 (by decide)) rfl rfl rfl rfl (Nat.le_of_ble_eq_true rfl) ?_
  refine WPM.of pX11 (Nat.le_of_ble_eq_true rfl) rfl ?_
  refine wp_aload_n dX11_emit_0 rfl ?_
  refine wp_geti (0 : Int32) dX11_emit_1 fX11_298 (Or.inl rfl) (ka hF 293 (by decide)) he ?_
  refine wp_if_ne 43 dX11_emit_4 (by decide) (fun q => absurd (by decide) q) (fun _ => ?_)
  refine wp_aload_n dX11_emit_7 rfl ?_
  refine wp_getr (gB G + 306) dX11_emit_8 fX11_52 (ka hF 293 (by decide)) (hF.2 _ _) (rra 13 (isK_le (ka hF 293 (by decide))) (fun _ => rfl)) ?_
  refine wp_iconst (2 : Int32) dX11_emit_11 (by decide) ?_
  refine wp_aload_n dX11_emit_12 rfl ?_
  refine wp_geti (nI s) dX11_emit_13 fX11_311 (Or.inl rfl) (ka hF 293 (by decide)) hz ?_
  refine wp_imulv (nI (2 * s)) dX11_emit_16 (nmul (a := 2) (b := s) (by omega)) ?_
  refine wp_iload_n dX11_emit_17 rfl ?_
  refine wp_iastk (n := 1000) (2 * s) dX11_emit_18 (ka hF 306 (by decide)) (la 306) (vin (by omega) (by decide))  (nIc (by omega)) ?_
  have hF1 := Full_wai (gB G + 306) (2 * s) (4 : Int32) hF
  refine wp_aload_n dX11_emit_19 rfl ?_
  refine wp_getr (gB G + 306) dX11_emit_20 fX11_52 (ka hF1 293 (by decide)) (hF1.2 _ _) (rra 13 (isK_le (ka hF1 293 (by decide))) (fun _ => rfl)) ?_
  refine wp_iconst (2 : Int32) dX11_emit_23 (by decide) ?_
  refine wp_aload_n dX11_emit_24 rfl ?_
  refine wp_geti (nI s) dX11_emit_25 fX11_311 (Or.inl rfl) (ka hF1 293 (by decide)) (fi_wai.trans hz) ?_
  refine wp_imulv (nI (2 * s)) dX11_emit_28 (nmul (a := 2) (b := s) (by omega)) ?_
  refine wp_iconst (1 : Int32) dX11_emit_29 (by decide) ?_
  refine wp_iaddv (nI (2 * s + 1)) dX11_emit_30 (nadd (a := 2 * s) (b := 1) (by omega)) ?_
  refine wp_iload_n dX11_emit_31 rfl ?_
  refine wp_iastk (n := 1000) (2 * s + 1) dX11_emit_32 (ka hF1 306 (by decide)) (la 306) (vin (by omega) (by decide))  (nIc (by omega)) ?_
  have hF2 := Full_wai (gB G + 306) (2 * s + 1) (0 : Int32) hF1
  refine wp_aload_n dX11_emit_33 rfl ?_
  refine wp_dup dX11_emit_34 rfl ?_
  refine wp_geti (nI s) dX11_emit_35 fX11_311 (Or.inl rfl) (ka hF2 293 (by decide)) (fi_wai.trans (fi_wai.trans hz)) ?_
  refine wp_iconst (1 : Int32) dX11_emit_38 (by decide) ?_
  refine wp_iaddv (nI (s + 1)) dX11_emit_39 (nadd (a := s) (b := 1) (by omega)) ?_
  refine wp_puti dX11_emit_40 pX11_311 (ka hF2 293 (by decide)) ?_
  have hF3 := Full_wfi 1124 (gB G + 293) (nI (s + 1)) hF2
  refine wp_vret dX11_emit_43 rfl ?_
  show WP G (d + 10) (0, 0) μX11_parseLeaf 118 [.ref (gB G + 293), .int (4 : Int32), .int (0 : Int32)] [] (wfi (wai (wai m (gB G + 306) (2 * s) (4 : Int32)) (gB G + 306) (2 * s + 1) (0 : Int32)) 1124 (gB G + 293) (nI (s + 1))) _
  exact wp_vret dX11_parseLeaf_118 rfl (e1)

theorem lfB5 {G : Cx} {d : Nat} {m : Mm} {Q : Option Value → Mm → Prop}  (hF : Full G m) (he : fi m 1118 (gB G + 293) = (0 : Int32)) 
    (e1 : WPM G (d + 9) (0, 0) μX11_advance [.ref (gB G + 293)] m (fun r' m' => WP G (d + 10) (0, 0) μX11_parseLeaf 66 [.ref (gB G + 293), .int (5 : Int32), lvU] (r'.toList ++ []) m' Q)) :
    WP G (d + 10) (0, 0) μX11_parseLeaf 46 [.ref (gB G + 293), lvU, lvU] [.int (5 : Int32)] m Q := by
  refine wp_istore_n dX11_parseLeaf_46 (by decide) rfl ?_
  refine wp_aload_n dX11_parseLeaf_47 rfl ?_
  refine wp_iload_n dX11_parseLeaf_48 rfl ?_
  refine wp_iconst (-1 : Int32) dX11_parseLeaf_49 (by decide) ?_
  refine wp_icmp_eq 57 dX11_parseLeaf_50 (by decide) (fun q => absurd q (by decide)) (fun _ => ?_)
  refine wp_iconst (1 : Int32) dX11_parseLeaf_53 (by decide) ?_
  refine wp_goto 58 dX11_parseLeaf_54 (by decide) ?_
  refine wp_iconst (1 : Int32) dX11_parseLeaf_58 (by decide) ?_
  refine wp_callV (As := [.int (1 : Int32), .int (1 : Int32)]) (S := []) (b' := (0, 0)) (b := (0, 0)) dX11_parseLeaf_59 MX11_304 (ka hF 293 (by decide)) rfl rfl rfl rfl (Nat.le_of_ble_eq_true rfl) ?_
  refine WPM.of pX11 (Nat.le_of_ble_eq_true rfl) rfl ?_
  refine wp_iload_n dX11_require_0 rfl ?_
  refine wp_if_ne 24 dX11_require_1 (by decide) (fun _ => ?_) (fun q => absurd q (by decide))
  refine wp_vret dX11_require_24 rfl ?_
  show WP G (d + 10) (0, 0) μX11_parseLeaf 62 [.ref (gB G + 293), .int (5 : Int32), lvU] [] m _
  refine wp_aload_n dX11_parseLeaf_62 rfl ?_
  refine wp_callV (As := []) (S := []) (b' := (0, 0)) (b := (0, 0)) dX11_parseLeaf_63 MX11_308 (ka hF 293 (by decide)) rfl rfl rfl rfl (Nat.le_of_ble_eq_true rfl) ?_
  exact e1

theorem lfC5 {G : Cx} {d : Nat} {m : Mm} {Q : Option Value → Mm → Prop} {s : Nat} (hF : Full G m) (he : fi m 1118 (gB G + 293) = (0 : Int32)) (hz : fi m 1124 (gB G + 293) = nI s) (hs5 : s < 500) 
    (e1 : Q none (wfi (wai (wai m (gB G + 306) (2 * s) (5 : Int32)) (gB G + 306) (2 * s + 1) (0 : Int32)) 1124 (gB G + 293) (nI (s + 1)))) :
    WP G (d + 10) (0, 0) μX11_parseLeaf 66 [.ref (gB G + 293), .int (5 : Int32), lvU] [] m Q := by
  refine wp_iconst (0 : Int32) dX11_parseLeaf_66 (by decide) ?_
  refine wp_istore_n dX11_parseLeaf_67 (by decide) rfl ?_
  refine wp_aload_n dX11_parseLeaf_68 rfl ?_
  refine wp_geti (0 : Int32) dX11_parseLeaf_69 fX11_298 (Or.inl rfl) (ka hF 293 (by decide)) he ?_
  refine wp_if_ne 112 dX11_parseLeaf_72 (by decide) (fun q => absurd (by decide) q) (fun _ => ?_)
  refine wp_iload_n dX11_parseLeaf_75 rfl ?_
  refine wp_iconst (3 : Int32) dX11_parseLeaf_76 (by decide) ?_
  refine wp_icmp_gt 112 dX11_parseLeaf_77 (by decide) (fun _ => ?_) (fun q => absurd (by decide) q)
  refine wp_aload_n dX11_parseLeaf_112 rfl ?_
  refine wp_iload_n dX11_parseLeaf_113 rfl ?_
  refine wp_iload_n dX11_parseLeaf_114 rfl ?_
  refine wp_callV (As := [.int (5 : Int32), .int (0 : Int32)]) (S := []) (b' := (0, 0)) (b := (0, 0)) dX11_parseLeaf_115 MX11_330 (ka hF 293 (by decide)) rfl rfl rfl rfl (Nat.le_of_ble_eq_true rfl) ?_
  refine WPM.of pX11 (Nat.le_of_ble_eq_true rfl) rfl ?_
  refine wp_aload_n dX11_emit_0 rfl ?_
  refine wp_geti (0 : Int32) dX11_emit_1 fX11_298 (Or.inl rfl) (ka hF 293 (by decide)) he ?_
  refine wp_if_ne 43 dX11_emit_4 (by decide) (fun q => absurd (by decide) q) (fun _ => ?_)
  refine wp_aload_n dX11_emit_7 rfl ?_
  refine wp_getr (gB G + 306) dX11_emit_8 fX11_52 (ka hF 293 (by decide)) (hF.2 _ _) (rra 13 (isK_le (ka hF 293 (by decide))) (fun _ => rfl)) ?_
  refine wp_iconst (2 : Int32) dX11_emit_11 (by decide) ?_
  refine wp_aload_n dX11_emit_12 rfl ?_
  refine wp_geti (nI s) dX11_emit_13 fX11_311 (Or.inl rfl) (ka hF 293 (by decide)) hz ?_
  refine wp_imulv (nI (2 * s)) dX11_emit_16 (nmul (a := 2) (b := s) (by omega)) ?_
  refine wp_iload_n dX11_emit_17 rfl ?_
  refine wp_iastk (n := 1000) (2 * s) dX11_emit_18 (ka hF 306 (by decide)) (la 306) (vin (by omega) (by decide))  (nIc (by omega)) ?_
  have hF1 := Full_wai (gB G + 306) (2 * s) (5 : Int32) hF
  refine wp_aload_n dX11_emit_19 rfl ?_
  refine wp_getr (gB G + 306) dX11_emit_20 fX11_52 (ka hF1 293 (by decide)) (hF1.2 _ _) (rra 13 (isK_le (ka hF1 293 (by decide))) (fun _ => rfl)) ?_
  refine wp_iconst (2 : Int32) dX11_emit_23 (by decide) ?_
  refine wp_aload_n dX11_emit_24 rfl ?_
  refine wp_geti (nI s) dX11_emit_25 fX11_311 (Or.inl rfl) (ka hF1 293 (by decide)) (fi_wai.trans hz) ?_
  refine wp_imulv (nI (2 * s)) dX11_emit_28 (nmul (a := 2) (b := s) (by omega)) ?_
  refine wp_iconst (1 : Int32) dX11_emit_29 (by decide) ?_
  refine wp_iaddv (nI (2 * s + 1)) dX11_emit_30 (nadd (a := 2 * s) (b := 1) (by omega)) ?_
  refine wp_iload_n dX11_emit_31 rfl ?_
  refine wp_iastk (n := 1000) (2 * s + 1) dX11_emit_32 (ka hF1 306 (by decide)) (la 306) (vin (by omega) (by decide))  (nIc (by omega)) ?_
  have hF2 := Full_wai (gB G + 306) (2 * s + 1) (0 : Int32) hF1
  refine wp_aload_n dX11_emit_33 rfl ?_
  refine wp_dup dX11_emit_34 rfl ?_
  refine wp_geti (nI s) dX11_emit_35 fX11_311 (Or.inl rfl) (ka hF2 293 (by decide)) (fi_wai.trans (fi_wai.trans hz)) ?_
  refine wp_iconst (1 : Int32) dX11_emit_38 (by decide) ?_
  refine wp_iaddv (nI (s + 1)) dX11_emit_39 (nadd (a := s) (b := 1) (by omega)) ?_
  refine wp_puti dX11_emit_40 pX11_311 (ka hF2 293 (by decide)) ?_
  have hF3 := Full_wfi 1124 (gB G + 293) (nI (s + 1)) hF2
  refine wp_vret dX11_emit_43 rfl ?_
  show WP G (d + 10) (0, 0) μX11_parseLeaf 118 [.ref (gB G + 293), .int (5 : Int32), .int (0 : Int32)] [] (wfi (wai (wai m (gB G + 306) (2 * s) (5 : Int32)) (gB G + 306) (2 * s + 1) (0 : Int32)) 1124 (gB G + 293) (nI (s + 1))) _
  exact wp_vret dX11_parseLeaf_118 rfl (e1)

theorem lfB6 {G : Cx} {d : Nat} {m : Mm} {Q : Option Value → Mm → Prop}  (hF : Full G m) (he : fi m 1118 (gB G + 293) = (0 : Int32)) 
    (e1 : WPM G (d + 9) (0, 0) μX11_advance [.ref (gB G + 293)] m (fun r' m' => WP G (d + 10) (0, 0) μX11_parseLeaf 66 [.ref (gB G + 293), .int (6 : Int32), lvU] (r'.toList ++ []) m' Q)) :
    WP G (d + 10) (0, 0) μX11_parseLeaf 46 [.ref (gB G + 293), lvU, lvU] [.int (6 : Int32)] m Q := by
  refine wp_istore_n dX11_parseLeaf_46 (by decide) rfl ?_
  refine wp_aload_n dX11_parseLeaf_47 rfl ?_
  refine wp_iload_n dX11_parseLeaf_48 rfl ?_
  refine wp_iconst (-1 : Int32) dX11_parseLeaf_49 (by decide) ?_
  refine wp_icmp_eq 57 dX11_parseLeaf_50 (by decide) (fun q => absurd q (by decide)) (fun _ => ?_)
  refine wp_iconst (1 : Int32) dX11_parseLeaf_53 (by decide) ?_
  refine wp_goto 58 dX11_parseLeaf_54 (by decide) ?_
  refine wp_iconst (1 : Int32) dX11_parseLeaf_58 (by decide) ?_
  refine wp_callV (As := [.int (1 : Int32), .int (1 : Int32)]) (S := []) (b' := (0, 0)) (b := (0, 0)) dX11_parseLeaf_59 MX11_304 (ka hF 293 (by decide)) rfl rfl rfl rfl (Nat.le_of_ble_eq_true rfl) ?_
  refine WPM.of pX11 (Nat.le_of_ble_eq_true rfl) rfl ?_
  refine wp_iload_n dX11_require_0 rfl ?_
  refine wp_if_ne 24 dX11_require_1 (by decide) (fun _ => ?_) (fun q => absurd q (by decide))
  refine wp_vret dX11_require_24 rfl ?_
  show WP G (d + 10) (0, 0) μX11_parseLeaf 62 [.ref (gB G + 293), .int (6 : Int32), lvU] [] m _
  refine wp_aload_n dX11_parseLeaf_62 rfl ?_
  refine wp_callV (As := []) (S := []) (b' := (0, 0)) (b := (0, 0)) dX11_parseLeaf_63 MX11_308 (ka hF 293 (by decide)) rfl rfl rfl rfl (Nat.le_of_ble_eq_true rfl) ?_
  exact e1

theorem lfC6 {G : Cx} {d : Nat} {m : Mm} {Q : Option Value → Mm → Prop} {s : Nat} (hF : Full G m) (he : fi m 1118 (gB G + 293) = (0 : Int32)) (hz : fi m 1124 (gB G + 293) = nI s) (hs5 : s < 500) 
    (e1 : Q none (wfi (wai (wai m (gB G + 306) (2 * s) (6 : Int32)) (gB G + 306) (2 * s + 1) (0 : Int32)) 1124 (gB G + 293) (nI (s + 1)))) :
    WP G (d + 10) (0, 0) μX11_parseLeaf 66 [.ref (gB G + 293), .int (6 : Int32), lvU] [] m Q := by
  refine wp_iconst (0 : Int32) dX11_parseLeaf_66 (by decide) ?_
  refine wp_istore_n dX11_parseLeaf_67 (by decide) rfl ?_
  refine wp_aload_n dX11_parseLeaf_68 rfl ?_
  refine wp_geti (0 : Int32) dX11_parseLeaf_69 fX11_298 (Or.inl rfl) (ka hF 293 (by decide)) he ?_
  refine wp_if_ne 112 dX11_parseLeaf_72 (by decide) (fun q => absurd (by decide) q) (fun _ => ?_)
  refine wp_iload_n dX11_parseLeaf_75 rfl ?_
  refine wp_iconst (3 : Int32) dX11_parseLeaf_76 (by decide) ?_
  refine wp_icmp_gt 112 dX11_parseLeaf_77 (by decide) (fun _ => ?_) (fun q => absurd (by decide) q)
  refine wp_aload_n dX11_parseLeaf_112 rfl ?_
  refine wp_iload_n dX11_parseLeaf_113 rfl ?_
  refine wp_iload_n dX11_parseLeaf_114 rfl ?_
  refine wp_callV (As := [.int (6 : Int32), .int (0 : Int32)]) (S := []) (b' := (0, 0)) (b := (0, 0)) dX11_parseLeaf_115 MX11_330 (ka hF 293 (by decide)) rfl rfl rfl rfl (Nat.le_of_ble_eq_true rfl) ?_
  refine WPM.of pX11 (Nat.le_of_ble_eq_true rfl) rfl ?_
  refine wp_aload_n dX11_emit_0 rfl ?_
  refine wp_geti (0 : Int32) dX11_emit_1 fX11_298 (Or.inl rfl) (ka hF 293 (by decide)) he ?_
  refine wp_if_ne 43 dX11_emit_4 (by decide) (fun q => absurd (by decide) q) (fun _ => ?_)
  refine wp_aload_n dX11_emit_7 rfl ?_
  refine wp_getr (gB G + 306) dX11_emit_8 fX11_52 (ka hF 293 (by decide)) (hF.2 _ _) (rra 13 (isK_le (ka hF 293 (by decide))) (fun _ => rfl)) ?_
  refine wp_iconst (2 : Int32) dX11_emit_11 (by decide) ?_
  refine wp_aload_n dX11_emit_12 rfl ?_
  refine wp_geti (nI s) dX11_emit_13 fX11_311 (Or.inl rfl) (ka hF 293 (by decide)) hz ?_
  refine wp_imulv (nI (2 * s)) dX11_emit_16 (nmul (a := 2) (b := s) (by omega)) ?_
  refine wp_iload_n dX11_emit_17 rfl ?_
  refine wp_iastk (n := 1000) (2 * s) dX11_emit_18 (ka hF 306 (by decide)) (la 306) (vin (by omega) (by decide))  (nIc (by omega)) ?_
  have hF1 := Full_wai (gB G + 306) (2 * s) (6 : Int32) hF
  refine wp_aload_n dX11_emit_19 rfl ?_
  refine wp_getr (gB G + 306) dX11_emit_20 fX11_52 (ka hF1 293 (by decide)) (hF1.2 _ _) (rra 13 (isK_le (ka hF1 293 (by decide))) (fun _ => rfl)) ?_
  refine wp_iconst (2 : Int32) dX11_emit_23 (by decide) ?_
  refine wp_aload_n dX11_emit_24 rfl ?_
  refine wp_geti (nI s) dX11_emit_25 fX11_311 (Or.inl rfl) (ka hF1 293 (by decide)) (fi_wai.trans hz) ?_
  refine wp_imulv (nI (2 * s)) dX11_emit_28 (nmul (a := 2) (b := s) (by omega)) ?_
  refine wp_iconst (1 : Int32) dX11_emit_29 (by decide) ?_
  refine wp_iaddv (nI (2 * s + 1)) dX11_emit_30 (nadd (a := 2 * s) (b := 1) (by omega)) ?_
  refine wp_iload_n dX11_emit_31 rfl ?_
  refine wp_iastk (n := 1000) (2 * s + 1) dX11_emit_32 (ka hF1 306 (by decide)) (la 306) (vin (by omega) (by decide))  (nIc (by omega)) ?_
  have hF2 := Full_wai (gB G + 306) (2 * s + 1) (0 : Int32) hF1
  refine wp_aload_n dX11_emit_33 rfl ?_
  refine wp_dup dX11_emit_34 rfl ?_
  refine wp_geti (nI s) dX11_emit_35 fX11_311 (Or.inl rfl) (ka hF2 293 (by decide)) (fi_wai.trans (fi_wai.trans hz)) ?_
  refine wp_iconst (1 : Int32) dX11_emit_38 (by decide) ?_
  refine wp_iaddv (nI (s + 1)) dX11_emit_39 (nadd (a := s) (b := 1) (by omega)) ?_
  refine wp_puti dX11_emit_40 pX11_311 (ka hF2 293 (by decide)) ?_
  have hF3 := Full_wfi 1124 (gB G + 293) (nI (s + 1)) hF2
  refine wp_vret dX11_emit_43 rfl ?_
  show WP G (d + 10) (0, 0) μX11_parseLeaf 118 [.ref (gB G + 293), .int (6 : Int32), .int (0 : Int32)] [] (wfi (wai (wai m (gB G + 306) (2 * s) (6 : Int32)) (gB G + 306) (2 * s + 1) (0 : Int32)) 1124 (gB G + 293) (nI (s + 1))) _
  exact wp_vret dX11_parseLeaf_118 rfl (e1)

theorem lfB7 {G : Cx} {d : Nat} {m : Mm} {Q : Option Value → Mm → Prop}  (hF : Full G m) (he : fi m 1118 (gB G + 293) = (0 : Int32)) 
    (e1 : WPM G (d + 9) (0, 0) μX11_advance [.ref (gB G + 293)] m (fun r' m' => WP G (d + 10) (0, 0) μX11_parseLeaf 66 [.ref (gB G + 293), .int (7 : Int32), lvU] (r'.toList ++ []) m' Q)) :
    WP G (d + 10) (0, 0) μX11_parseLeaf 46 [.ref (gB G + 293), lvU, lvU] [.int (7 : Int32)] m Q := by
  refine wp_istore_n dX11_parseLeaf_46 (by decide) rfl ?_
  refine wp_aload_n dX11_parseLeaf_47 rfl ?_
  refine wp_iload_n dX11_parseLeaf_48 rfl ?_
  refine wp_iconst (-1 : Int32) dX11_parseLeaf_49 (by decide) ?_
  refine wp_icmp_eq 57 dX11_parseLeaf_50 (by decide) (fun q => absurd q (by decide)) (fun _ => ?_)
  refine wp_iconst (1 : Int32) dX11_parseLeaf_53 (by decide) ?_
  refine wp_goto 58 dX11_parseLeaf_54 (by decide) ?_
  refine wp_iconst (1 : Int32) dX11_parseLeaf_58 (by decide) ?_
  refine wp_callV (As := [.int (1 : Int32), .int (1 : Int32)]) (S := []) (b' := (0, 0)) (b := (0, 0)) dX11_parseLeaf_59 MX11_304 (ka hF 293 (by decide)) rfl rfl rfl rfl (Nat.le_of_ble_eq_true rfl) ?_
  refine WPM.of pX11 (Nat.le_of_ble_eq_true rfl) rfl ?_
  refine wp_iload_n dX11_require_0 rfl ?_
  refine wp_if_ne 24 dX11_require_1 (by decide) (fun _ => ?_) (fun q => absurd q (by decide))
  refine wp_vret dX11_require_24 rfl ?_
  show WP G (d + 10) (0, 0) μX11_parseLeaf 62 [.ref (gB G + 293), .int (7 : Int32), lvU] [] m _
  refine wp_aload_n dX11_parseLeaf_62 rfl ?_
  refine wp_callV (As := []) (S := []) (b' := (0, 0)) (b := (0, 0)) dX11_parseLeaf_63 MX11_308 (ka hF 293 (by decide)) rfl rfl rfl rfl (Nat.le_of_ble_eq_true rfl) ?_
  exact e1

theorem lfC7 {G : Cx} {d : Nat} {m : Mm} {Q : Option Value → Mm → Prop} {s : Nat} (hF : Full G m) (he : fi m 1118 (gB G + 293) = (0 : Int32)) (hz : fi m 1124 (gB G + 293) = nI s) (hs5 : s < 500) 
    (e1 : Q none (wfi (wai (wai m (gB G + 306) (2 * s) (7 : Int32)) (gB G + 306) (2 * s + 1) (0 : Int32)) 1124 (gB G + 293) (nI (s + 1)))) :
    WP G (d + 10) (0, 0) μX11_parseLeaf 66 [.ref (gB G + 293), .int (7 : Int32), lvU] [] m Q := by
  refine wp_iconst (0 : Int32) dX11_parseLeaf_66 (by decide) ?_
  refine wp_istore_n dX11_parseLeaf_67 (by decide) rfl ?_
  refine wp_aload_n dX11_parseLeaf_68 rfl ?_
  refine wp_geti (0 : Int32) dX11_parseLeaf_69 fX11_298 (Or.inl rfl) (ka hF 293 (by decide)) he ?_
  refine wp_if_ne 112 dX11_parseLeaf_72 (by decide) (fun q => absurd (by decide) q) (fun _ => ?_)
  refine wp_iload_n dX11_parseLeaf_75 rfl ?_
  refine wp_iconst (3 : Int32) dX11_parseLeaf_76 (by decide) ?_
  refine wp_icmp_gt 112 dX11_parseLeaf_77 (by decide) (fun _ => ?_) (fun q => absurd (by decide) q)
  refine wp_aload_n dX11_parseLeaf_112 rfl ?_
  refine wp_iload_n dX11_parseLeaf_113 rfl ?_
  refine wp_iload_n dX11_parseLeaf_114 rfl ?_
  refine wp_callV (As := [.int (7 : Int32), .int (0 : Int32)]) (S := []) (b' := (0, 0)) (b := (0, 0)) dX11_parseLeaf_115 MX11_330 (ka hF 293 (by decide)) rfl rfl rfl rfl (Nat.le_of_ble_eq_true rfl) ?_
  refine WPM.of pX11 (Nat.le_of_ble_eq_true rfl) rfl ?_
  refine wp_aload_n dX11_emit_0 rfl ?_
  refine wp_geti (0 : Int32) dX11_emit_1 fX11_298 (Or.inl rfl) (ka hF 293 (by decide)) he ?_
  refine wp_if_ne 43 dX11_emit_4 (by decide) (fun q => absurd (by decide) q) (fun _ => ?_)
  refine wp_aload_n dX11_emit_7 rfl ?_
  refine wp_getr (gB G + 306) dX11_emit_8 fX11_52 (ka hF 293 (by decide)) (hF.2 _ _) (rra 13 (isK_le (ka hF 293 (by decide))) (fun _ => rfl)) ?_
  refine wp_iconst (2 : Int32) dX11_emit_11 (by decide) ?_
  refine wp_aload_n dX11_emit_12 rfl ?_
  refine wp_geti (nI s) dX11_emit_13 fX11_311 (Or.inl rfl) (ka hF 293 (by decide)) hz ?_
  refine wp_imulv (nI (2 * s)) dX11_emit_16 (nmul (a := 2) (b := s) (by omega)) ?_
  refine wp_iload_n dX11_emit_17 rfl ?_
  refine wp_iastk (n := 1000) (2 * s) dX11_emit_18 (ka hF 306 (by decide)) (la 306) (vin (by omega) (by decide))  (nIc (by omega)) ?_
  have hF1 := Full_wai (gB G + 306) (2 * s) (7 : Int32) hF
  refine wp_aload_n dX11_emit_19 rfl ?_
  refine wp_getr (gB G + 306) dX11_emit_20 fX11_52 (ka hF1 293 (by decide)) (hF1.2 _ _) (rra 13 (isK_le (ka hF1 293 (by decide))) (fun _ => rfl)) ?_
  refine wp_iconst (2 : Int32) dX11_emit_23 (by decide) ?_
  refine wp_aload_n dX11_emit_24 rfl ?_
  refine wp_geti (nI s) dX11_emit_25 fX11_311 (Or.inl rfl) (ka hF1 293 (by decide)) (fi_wai.trans hz) ?_
  refine wp_imulv (nI (2 * s)) dX11_emit_28 (nmul (a := 2) (b := s) (by omega)) ?_
  refine wp_iconst (1 : Int32) dX11_emit_29 (by decide) ?_
  refine wp_iaddv (nI (2 * s + 1)) dX11_emit_30 (nadd (a := 2 * s) (b := 1) (by omega)) ?_
  refine wp_iload_n dX11_emit_31 rfl ?_
  refine wp_iastk (n := 1000) (2 * s + 1) dX11_emit_32 (ka hF1 306 (by decide)) (la 306) (vin (by omega) (by decide))  (nIc (by omega)) ?_
  have hF2 := Full_wai (gB G + 306) (2 * s + 1) (0 : Int32) hF1
  refine wp_aload_n dX11_emit_33 rfl ?_
  refine wp_dup dX11_emit_34 rfl ?_
  refine wp_geti (nI s) dX11_emit_35 fX11_311 (Or.inl rfl) (ka hF2 293 (by decide)) (fi_wai.trans (fi_wai.trans hz)) ?_
  refine wp_iconst (1 : Int32) dX11_emit_38 (by decide) ?_
  refine wp_iaddv (nI (s + 1)) dX11_emit_39 (nadd (a := s) (b := 1) (by omega)) ?_
  refine wp_puti dX11_emit_40 pX11_311 (ka hF2 293 (by decide)) ?_
  have hF3 := Full_wfi 1124 (gB G + 293) (nI (s + 1)) hF2
  refine wp_vret dX11_emit_43 rfl ?_
  show WP G (d + 10) (0, 0) μX11_parseLeaf 118 [.ref (gB G + 293), .int (7 : Int32), .int (0 : Int32)] [] (wfi (wai (wai m (gB G + 306) (2 * s) (7 : Int32)) (gB G + 306) (2 * s + 1) (0 : Int32)) 1124 (gB G + 293) (nI (s + 1))) _
  exact wp_vret dX11_parseLeaf_118 rfl (e1)

theorem fL {G : Cx} {d : Nat} {m : Mm} {Q : Option Value → Mm → Prop} {y : Nat} (hF : Full G m) (hy : fi m 1115 (gB G + 293) = nI y) (hy9 : y < 1000) (h45 : ¬ y = 45) (h40 : ¬ y = 40) 
    (e1 : WPM G (d + 11) (0, 0) μX11_parseLeaf [.ref (gB G + 293)] m (fun r' m' => WP G (d + 12) (0, 0) μX11_parseFactorStart 22 [.ref (gB G + 293)] (r'.toList ++ []) m' Q)) :
    WPM G (d + 12) (0, 0) μX11_parseFactorStart [.ref (gB G + 293)] m Q := by
  refine WPM.of pX11 (Nat.le_of_ble_eq_true rfl) rfl ?_
  refine wp_aload_n dX11_parseFactorStart_0 rfl ?_
  refine wp_geti (nI y) dX11_parseFactorStart_1 fX11_269 (Or.inl rfl) (ka hF 293 (by decide)) hy ?_
  refine wp_bipush (45 : Int32) dX11_parseFactorStart_4 (by decide) ?_
  refine wp_icmp_eq 28 dX11_parseFactorStart_6 (by decide) (fun q => absurd q (fun z => h45 (neq z (by omega) (by omega)))) (fun _ => ?_)
  refine wp_aload_n dX11_parseFactorStart_9 rfl ?_
  refine wp_geti (nI y) dX11_parseFactorStart_10 fX11_269 (Or.inl rfl) (ka hF 293 (by decide)) hy ?_
  refine wp_bipush (40 : Int32) dX11_parseFactorStart_13 (by decide) ?_
  refine wp_icmp_eq 28 dX11_parseFactorStart_15 (by decide) (fun q => absurd q (fun z => h40 (neq z (by omega) (by omega)))) (fun _ => ?_)
  refine wp_aload_n dX11_parseFactorStart_18 rfl ?_
  refine wp_callV (As := []) (S := []) (b' := (0, 0)) (b := (0, 0)) dX11_parseFactorStart_19 MX11_355 (ka hF 293 (by decide)) rfl rfl rfl rfl (Nat.le_of_ble_eq_true rfl) ?_
  exact e1

theorem fM {G : Cx} {d : Nat} {m : Mm} {Q : Option Value → Mm → Prop}  (hF : Full G m) 
    (e1 : WPM G (d + 11) (0, 0) μX11_endFactor [.ref (gB G + 293)] m (fun r' m' => WP G (d + 12) (0, 0) μX11_parseFactorStart 26 [lvU] (r'.toList ++ []) m' Q)) :
    WP G (d + 12) (0, 0) μX11_parseFactorStart 22 [.ref (gB G + 293)] [] m Q := by
  refine wp_aload_n dX11_parseFactorStart_22 rfl ?_
  refine wp_forget [lvU] ⟨Or.inr rfl, trivial⟩ ?_
  refine wp_callV (As := []) (S := []) (b' := (0, 0)) (b := (0, 0)) dX11_parseFactorStart_23 MX11_358 (ka hF 293 (by decide)) rfl rfl rfl rfl (Nat.le_of_ble_eq_true rfl) ?_
  exact e1

theorem fN {G : Cx} {d : Nat} {m : Mm} {Q : Option Value → Mm → Prop}  (hF : Full G m) 
    (e1 : Q (some (.int (1 : Int32))) m) :
    WP G (d + 12) (0, 0) μX11_parseFactorStart 26 [lvU] [] m Q := by
  refine wp_iconst (1 : Int32) dX11_parseFactorStart_26 (by decide) ?_
  exact wp_zret dX11_parseFactorStart_27 rfl rfl (e1)

theorem fP45 {G : Cx} {d : Nat} {m : Mm} {Q : Option Value → Mm → Prop} {dp u st : Nat} (hF : Full G m) (he : fi m 1118 (gB G + 293) = (0 : Int32)) (hy : fi m 1115 (gB G + 293) = (45 : Int32)) (hd : fi m 1127 (gB G + 293) = nI dp) (hw : fi m 1126 (gB G + 293) = nI u) (hst : fi m 1113 (gB G + 293) = nI st) (hu5 : u < 500) (hd2 : dp ≤ 20) 
    (e1 : ¬ dp < 20 → WPM G (d + 11) (0, 0) μX11_advance [.ref (gB G + 293)] (wfi (wfi (wai (wfi (wfi m 1118 (gB G + 293) (4 : Int32)) 1119 (gB G + 293) (nI st)) (gB G + 307) u (8 : Int32)) 1126 (gB G + 293) (nI (u + 1))) 1127 (gB G + 293) (nI (dp + 1))) (fun r' m' => WP G (d + 12) (0, 0) μX11_parseFactorStart 81 [lvU] (r'.toList ++ []) m' Q))
    (e2 : dp < 20 → WPM G (d + 11) (0, 0) μX11_advance [.ref (gB G + 293)] (wfi (wfi (wai m (gB G + 307) u (8 : Int32)) 1126 (gB G + 293) (nI (u + 1))) 1127 (gB G + 293) (nI (dp + 1))) (fun r' m' => WP G (d + 12) (0, 0) μX11_parseFactorStart 81 [lvU] (r'.toList ++ []) m' Q)) :
    WPM G (d + 12) (0, 0) μX11_parseFactorStart [.ref (gB G + 293)] m Q := by
  refine WPM.of pX11 (Nat.le_of_ble_eq_true rfl) rfl ?_
  refine wp_aload_n dX11_parseFactorStart_0 rfl ?_
  refine wp_geti (45 : Int32) dX11_parseFactorStart_1 fX11_269 (Or.inl rfl) (ka hF 293 (by decide)) hy ?_
  refine wp_bipush (45 : Int32) dX11_parseFactorStart_4 (by decide) ?_
  refine wp_icmp_eq 28 dX11_parseFactorStart_6 (by decide) (fun _ => ?_) (fun q => absurd (by decide) q)
  refine wp_aload_n dX11_parseFactorStart_28 rfl ?_
  refine wp_aload_n dX11_parseFactorStart_29 rfl ?_
  refine wp_geti (nI dp) dX11_parseFactorStart_30 fX11_349 (Or.inl rfl) (ka hF 293 (by decide)) hd ?_
  refine wp_bipush (20 : Int32) dX11_parseFactorStart_33 (by decide) ?_
  refine wp_icmp_ge 42 dX11_parseFactorStart_35 (by decide) (fun q1 => ?_) (fun q2 => ?_)
  · have hp3 : ¬ dp < 20 := (fun z => q1 (nlt_ (b := 20) z (by omega)))
    refine wp_iconst (0 : Int32) dX11_parseFactorStart_42 (by decide) ?_
    refine wp_iconst (4 : Int32) dX11_parseFactorStart_43 (by decide) ?_
    refine wp_callV (As := [.int (0 : Int32), .int (4 : Int32)]) (S := []) (b' := (0, 0)) (b := (0, 0)) dX11_parseFactorStart_44 MX11_304 (ka hF 293 (by decide)) rfl rfl rfl rfl (Nat.le_of_ble_eq_true rfl) ?_
    refine WPM.of pX11 (Nat.le_of_ble_eq_true rfl) rfl ?_
    refine wp_iload_n dX11_require_0 rfl ?_
    refine wp_if_ne 24 dX11_require_1 (by decide) (fun q => absurd (by decide) q) (fun _ => ?_)
    refine wp_aload_n dX11_require_4 rfl ?_
    refine wp_geti (0 : Int32) dX11_require_5 fX11_298 (Or.inl rfl) (ka hF 293 (by decide)) he ?_
    refine wp_if_ne 24 dX11_require_8 (by decide) (fun q => absurd (by decide) q) (fun _ => ?_)
    refine wp_aload_n dX11_require_11 rfl ?_
    refine wp_iload_n dX11_require_12 rfl ?_
    refine wp_puti dX11_require_13 pX11_298 (ka hF 293 (by decide)) ?_
    have hF4 := Full_wfi 1118 (gB G + 293) (4 : Int32) hF
    refine wp_aload_n dX11_require_16 rfl ?_
    refine wp_aload_n dX11_require_17 rfl ?_
    refine wp_geti (nI st) dX11_require_18 fX11_256 (Or.inl rfl) (ka hF4 293 (by decide)) ((fi_ne (by decide)).trans hst) ?_
    refine wp_puti dX11_require_21 pX11_45 (ka hF4 293 (by decide)) ?_
    have hF5 := Full_wfi 1119 (gB G + 293) (nI st) hF4
    refine wp_vret dX11_require_24 rfl ?_
    show WP G (d + 12) (0, 0) μX11_parseFactorStart 47 [.ref (gB G + 293)] [] (wfi (wfi m 1118 (gB G + 293) (4 : Int32)) 1119 (gB G + 293) (nI st)) _
    refine wp_aload_n dX11_parseFactorStart_47 rfl ?_
    refine wp_aload_n dX11_parseFactorStart_48 rfl ?_
    refine wp_geti (45 : Int32) dX11_parseFactorStart_49 fX11_269 (Or.inl rfl) (ka hF5 293 (by decide)) ((fi_ne (by decide)).trans ((fi_ne (by decide)).trans hy)) ?_
    refine wp_bipush (45 : Int32) dX11_parseFactorStart_52 (by decide) ?_
    refine wp_icmp_ne 62 dX11_parseFactorStart_54 (by decide) (fun q => absurd (by decide) q) (fun _ => ?_)
    refine wp_bipush (8 : Int32) dX11_parseFactorStart_57 (by decide) ?_
    refine wp_goto 64 dX11_parseFactorStart_59 (by decide) ?_
    refine wp_callV (As := [.int (8 : Int32)]) (S := []) (b' := (0, 0)) (b := (0, 0)) dX11_parseFactorStart_64 MX11_361 (ka hF5 293 (by decide)) rfl rfl rfl rfl (Nat.le_of_ble_eq_true rfl) ?_
    refine WPM.of pX11 (Nat.le_of_ble_eq_true rfl) rfl ?_
    refine wp_aload_n dX11_push_0 rfl ?_
    refine wp_getr (gB G + 307) dX11_push_1 fX11_55 (ka hF5 293 (by decide)) (hF5.2 _ _) (rra 14 (isK_le (ka hF5 293 (by decide))) (fun _ => rfl)) ?_
    refine wp_aload_n dX11_push_4 rfl ?_
    refine wp_geti (nI u) dX11_push_5 fX11_340 (Or.inl rfl) (ka hF5 293 (by decide)) ((fi_ne (by decide)).trans ((fi_ne (by decide)).trans hw)) ?_
    refine wp_iload_n dX11_push_8 rfl ?_
    refine wp_iastk (n := 500) u dX11_push_9 (ka hF5 307 (by decide)) (la 307) (vin (by omega) (by decide))  (nIc (by omega)) ?_
    have hF6 := Full_wai (gB G + 307) u (8 : Int32) hF5
    refine wp_aload_n dX11_push_10 rfl ?_
    refine wp_dup dX11_push_11 rfl ?_
    refine wp_geti (nI u) dX11_push_12 fX11_340 (Or.inl rfl) (ka hF6 293 (by decide)) (fi_wai.trans ((fi_ne (by decide)).trans ((fi_ne (by decide)).trans hw))) ?_
    refine wp_iconst (1 : Int32) dX11_push_15 (by decide) ?_
    refine wp_iaddv (nI (u + 1)) dX11_push_16 (nadd (a := u) (b := 1) (by omega)) ?_
    refine wp_puti dX11_push_17 pX11_340 (ka hF6 293 (by decide)) ?_
    have hF7 := Full_wfi 1126 (gB G + 293) (nI (u + 1)) hF6
    refine wp_vret dX11_push_20 rfl ?_
    show WP G (d + 12) (0, 0) μX11_parseFactorStart 67 [.ref (gB G + 293)] [] (wfi (wai (wfi (wfi m 1118 (gB G + 293) (4 : Int32)) 1119 (gB G + 293) (nI st)) (gB G + 307) u (8 : Int32)) 1126 (gB G + 293) (nI (u + 1))) _
    refine wp_aload_n dX11_parseFactorStart_67 rfl ?_
    refine wp_dup dX11_parseFactorStart_68 rfl ?_
    refine wp_geti (nI dp) dX11_parseFactorStart_69 fX11_349 (Or.inl rfl) (ka hF7 293 (by decide)) ((fi_ne (by decide)).trans (fi_wai.trans ((fi_ne (by decide)).trans ((fi_ne (by decide)).trans hd)))) ?_
    refine wp_iconst (1 : Int32) dX11_parseFactorStart_72 (by decide) ?_
    refine wp_iaddv (nI (dp + 1)) dX11_parseFactorStart_73 (nadd (a := dp) (b := 1) (by omega)) ?_
    refine wp_puti dX11_parseFactorStart_74 pX11_349 (ka hF7 293 (by decide)) ?_
    have hF8 := Full_wfi 1127 (gB G + 293) (nI (dp + 1)) hF7
    refine wp_aload_n dX11_parseFactorStart_77 rfl ?_
    refine wp_forget [lvU] ⟨Or.inr rfl, trivial⟩ ?_
    refine wp_callV (As := []) (S := []) (b' := (0, 0)) (b := (0, 0)) dX11_parseFactorStart_78 MX11_308 (ka hF8 293 (by decide)) rfl rfl rfl rfl (Nat.le_of_ble_eq_true rfl) ?_
    exact e1 hp3
  · have hp9 : dp < 20 := (nlt q2 (by omega) (by omega))
    refine wp_iconst (1 : Int32) dX11_parseFactorStart_38 (by decide) ?_
    refine wp_goto 43 dX11_parseFactorStart_39 (by decide) ?_
    refine wp_iconst (4 : Int32) dX11_parseFactorStart_43 (by decide) ?_
    refine wp_callV (As := [.int (1 : Int32), .int (4 : Int32)]) (S := []) (b' := (0, 0)) (b := (0, 0)) dX11_parseFactorStart_44 MX11_304 (ka hF 293 (by decide)) rfl rfl rfl rfl (Nat.le_of_ble_eq_true rfl) ?_
    refine WPM.of pX11 (Nat.le_of_ble_eq_true rfl) rfl ?_
    refine wp_iload_n dX11_require_0 rfl ?_
    refine wp_if_ne 24 dX11_require_1 (by decide) (fun _ => ?_) (fun q => absurd q (by decide))
    refine wp_vret dX11_require_24 rfl ?_
    show WP G (d + 12) (0, 0) μX11_parseFactorStart 47 [.ref (gB G + 293)] [] m _
    refine wp_aload_n dX11_parseFactorStart_47 rfl ?_
    refine wp_aload_n dX11_parseFactorStart_48 rfl ?_
    refine wp_geti (45 : Int32) dX11_parseFactorStart_49 fX11_269 (Or.inl rfl) (ka hF 293 (by decide)) hy ?_
    refine wp_bipush (45 : Int32) dX11_parseFactorStart_52 (by decide) ?_
    refine wp_icmp_ne 62 dX11_parseFactorStart_54 (by decide) (fun q => absurd (by decide) q) (fun _ => ?_)
    refine wp_bipush (8 : Int32) dX11_parseFactorStart_57 (by decide) ?_
    refine wp_goto 64 dX11_parseFactorStart_59 (by decide) ?_
    refine wp_callV (As := [.int (8 : Int32)]) (S := []) (b' := (0, 0)) (b := (0, 0)) dX11_parseFactorStart_64 MX11_361 (ka hF 293 (by decide)) rfl rfl rfl rfl (Nat.le_of_ble_eq_true rfl) ?_
    refine WPM.of pX11 (Nat.le_of_ble_eq_true rfl) rfl ?_
    refine wp_aload_n dX11_push_0 rfl ?_
    refine wp_getr (gB G + 307) dX11_push_1 fX11_55 (ka hF 293 (by decide)) (hF.2 _ _) (rra 14 (isK_le (ka hF 293 (by decide))) (fun _ => rfl)) ?_
    refine wp_aload_n dX11_push_4 rfl ?_
    refine wp_geti (nI u) dX11_push_5 fX11_340 (Or.inl rfl) (ka hF 293 (by decide)) hw ?_
    refine wp_iload_n dX11_push_8 rfl ?_
    refine wp_iastk (n := 500) u dX11_push_9 (ka hF 307 (by decide)) (la 307) (vin (by omega) (by decide))  (nIc (by omega)) ?_
    have hF10 := Full_wai (gB G + 307) u (8 : Int32) hF
    refine wp_aload_n dX11_push_10 rfl ?_
    refine wp_dup dX11_push_11 rfl ?_
    refine wp_geti (nI u) dX11_push_12 fX11_340 (Or.inl rfl) (ka hF10 293 (by decide)) (fi_wai.trans hw) ?_
    refine wp_iconst (1 : Int32) dX11_push_15 (by decide) ?_
    refine wp_iaddv (nI (u + 1)) dX11_push_16 (nadd (a := u) (b := 1) (by omega)) ?_
    refine wp_puti dX11_push_17 pX11_340 (ka hF10 293 (by decide)) ?_
    have hF11 := Full_wfi 1126 (gB G + 293) (nI (u + 1)) hF10
    refine wp_vret dX11_push_20 rfl ?_
    show WP G (d + 12) (0, 0) μX11_parseFactorStart 67 [.ref (gB G + 293)] [] (wfi (wai m (gB G + 307) u (8 : Int32)) 1126 (gB G + 293) (nI (u + 1))) _
    refine wp_aload_n dX11_parseFactorStart_67 rfl ?_
    refine wp_dup dX11_parseFactorStart_68 rfl ?_
    refine wp_geti (nI dp) dX11_parseFactorStart_69 fX11_349 (Or.inl rfl) (ka hF11 293 (by decide)) ((fi_ne (by decide)).trans (fi_wai.trans hd)) ?_
    refine wp_iconst (1 : Int32) dX11_parseFactorStart_72 (by decide) ?_
    refine wp_iaddv (nI (dp + 1)) dX11_parseFactorStart_73 (nadd (a := dp) (b := 1) (by omega)) ?_
    refine wp_puti dX11_parseFactorStart_74 pX11_349 (ka hF11 293 (by decide)) ?_
    have hF12 := Full_wfi 1127 (gB G + 293) (nI (dp + 1)) hF11
    refine wp_aload_n dX11_parseFactorStart_77 rfl ?_
    refine wp_forget [lvU] ⟨Or.inr rfl, trivial⟩ ?_
    refine wp_callV (As := []) (S := []) (b' := (0, 0)) (b := (0, 0)) dX11_parseFactorStart_78 MX11_308 (ka hF12 293 (by decide)) rfl rfl rfl rfl (Nat.le_of_ble_eq_true rfl) ?_
    exact e2 hp9

theorem fQ45 {G : Cx} {d : Nat} {m : Mm} {Q : Option Value → Mm → Prop}  (hF : Full G m) 
    (e1 : Q (some (.int (0 : Int32))) m) :
    WP G (d + 12) (0, 0) μX11_parseFactorStart 81 [lvU] [] m Q := by
  refine wp_iconst (0 : Int32) dX11_parseFactorStart_81 (by decide) ?_
  exact wp_zret dX11_parseFactorStart_82 rfl rfl (e1)

theorem fP40 {G : Cx} {d : Nat} {m : Mm} {Q : Option Value → Mm → Prop} {dp u st : Nat} (hF : Full G m) (he : fi m 1118 (gB G + 293) = (0 : Int32)) (hy : fi m 1115 (gB G + 293) = (40 : Int32)) (hd : fi m 1127 (gB G + 293) = nI dp) (hw : fi m 1126 (gB G + 293) = nI u) (hst : fi m 1113 (gB G + 293) = nI st) (hu5 : u < 500) (hd2 : dp ≤ 20) 
    (e1 : ¬ dp < 20 → WPM G (d + 11) (0, 0) μX11_advance [.ref (gB G + 293)] (wfi (wfi (wai (wfi (wfi m 1118 (gB G + 293) (4 : Int32)) 1119 (gB G + 293) (nI st)) (gB G + 307) u (19 : Int32)) 1126 (gB G + 293) (nI (u + 1))) 1127 (gB G + 293) (nI (dp + 1))) (fun r' m' => WP G (d + 12) (0, 0) μX11_parseFactorStart 81 [lvU] (r'.toList ++ []) m' Q))
    (e2 : dp < 20 → WPM G (d + 11) (0, 0) μX11_advance [.ref (gB G + 293)] (wfi (wfi (wai m (gB G + 307) u (19 : Int32)) 1126 (gB G + 293) (nI (u + 1))) 1127 (gB G + 293) (nI (dp + 1))) (fun r' m' => WP G (d + 12) (0, 0) μX11_parseFactorStart 81 [lvU] (r'.toList ++ []) m' Q)) :
    WPM G (d + 12) (0, 0) μX11_parseFactorStart [.ref (gB G + 293)] m Q := by
  refine WPM.of pX11 (Nat.le_of_ble_eq_true rfl) rfl ?_
  refine wp_aload_n dX11_parseFactorStart_0 rfl ?_
  refine wp_geti (40 : Int32) dX11_parseFactorStart_1 fX11_269 (Or.inl rfl) (ka hF 293 (by decide)) hy ?_
  refine wp_bipush (45 : Int32) dX11_parseFactorStart_4 (by decide) ?_
  refine wp_icmp_eq 28 dX11_parseFactorStart_6 (by decide) (fun q => absurd q (by decide)) (fun _ => ?_)
  refine wp_aload_n dX11_parseFactorStart_9 rfl ?_
  refine wp_geti (40 : Int32) dX11_parseFactorStart_10 fX11_269 (Or.inl rfl) (ka hF 293 (by decide)) hy ?_
  refine wp_bipush (40 : Int32) dX11_parseFactorStart_13 (by decide) ?_
  refine wp_icmp_eq 28 dX11_parseFactorStart_15 (by decide) (fun _ => ?_) (fun q => absurd (by decide) q)
  refine wp_aload_n dX11_parseFactorStart_28 rfl ?_
  refine wp_aload_n dX11_parseFactorStart_29 rfl ?_
  refine wp_geti (nI dp) dX11_parseFactorStart_30 fX11_349 (Or.inl rfl) (ka hF 293 (by decide)) hd ?_
  refine wp_bipush (20 : Int32) dX11_parseFactorStart_33 (by decide) ?_
  refine wp_icmp_ge 42 dX11_parseFactorStart_35 (by decide) (fun q1 => ?_) (fun q2 => ?_)
  · have hp3 : ¬ dp < 20 := (fun z => q1 (nlt_ (b := 20) z (by omega)))
    refine wp_iconst (0 : Int32) dX11_parseFactorStart_42 (by decide) ?_
    refine wp_iconst (4 : Int32) dX11_parseFactorStart_43 (by decide) ?_
    refine wp_callV (As := [.int (0 : Int32), .int (4 : Int32)]) (S := []) (b' := (0, 0)) (b := (0, 0)) dX11_parseFactorStart_44 MX11_304 (ka hF 293 (by decide)) rfl rfl rfl rfl (Nat.le_of_ble_eq_true rfl) ?_
    refine WPM.of pX11 (Nat.le_of_ble_eq_true rfl) rfl ?_
    refine wp_iload_n dX11_require_0 rfl ?_
    refine wp_if_ne 24 dX11_require_1 (by decide) (fun q => absurd (by decide) q) (fun _ => ?_)
    refine wp_aload_n dX11_require_4 rfl ?_
    refine wp_geti (0 : Int32) dX11_require_5 fX11_298 (Or.inl rfl) (ka hF 293 (by decide)) he ?_
    refine wp_if_ne 24 dX11_require_8 (by decide) (fun q => absurd (by decide) q) (fun _ => ?_)
    refine wp_aload_n dX11_require_11 rfl ?_
    refine wp_iload_n dX11_require_12 rfl ?_
    refine wp_puti dX11_require_13 pX11_298 (ka hF 293 (by decide)) ?_
    have hF4 := Full_wfi 1118 (gB G + 293) (4 : Int32) hF
    refine wp_aload_n dX11_require_16 rfl ?_
    refine wp_aload_n dX11_require_17 rfl ?_
    refine wp_geti (nI st) dX11_require_18 fX11_256 (Or.inl rfl) (ka hF4 293 (by decide)) ((fi_ne (by decide)).trans hst) ?_
    refine wp_puti dX11_require_21 pX11_45 (ka hF4 293 (by decide)) ?_
    have hF5 := Full_wfi 1119 (gB G + 293) (nI st) hF4
    refine wp_vret dX11_require_24 rfl ?_
    show WP G (d + 12) (0, 0) μX11_parseFactorStart 47 [.ref (gB G + 293)] [] (wfi (wfi m 1118 (gB G + 293) (4 : Int32)) 1119 (gB G + 293) (nI st)) _
    refine wp_aload_n dX11_parseFactorStart_47 rfl ?_
    refine wp_aload_n dX11_parseFactorStart_48 rfl ?_
    refine wp_geti (40 : Int32) dX11_parseFactorStart_49 fX11_269 (Or.inl rfl) (ka hF5 293 (by decide)) ((fi_ne (by decide)).trans ((fi_ne (by decide)).trans hy)) ?_
    refine wp_bipush (45 : Int32) dX11_parseFactorStart_52 (by decide) ?_
    refine wp_icmp_ne 62 dX11_parseFactorStart_54 (by decide) (fun _ => ?_) (fun q => absurd q (by decide))
    refine wp_bipush (19 : Int32) dX11_parseFactorStart_62 (by decide) ?_
    refine wp_callV (As := [.int (19 : Int32)]) (S := []) (b' := (0, 0)) (b := (0, 0)) dX11_parseFactorStart_64 MX11_361 (ka hF5 293 (by decide)) rfl rfl rfl rfl (Nat.le_of_ble_eq_true rfl) ?_
    refine WPM.of pX11 (Nat.le_of_ble_eq_true rfl) rfl ?_
    refine wp_aload_n dX11_push_0 rfl ?_
    refine wp_getr (gB G + 307) dX11_push_1 fX11_55 (ka hF5 293 (by decide)) (hF5.2 _ _) (rra 14 (isK_le (ka hF5 293 (by decide))) (fun _ => rfl)) ?_
    refine wp_aload_n dX11_push_4 rfl ?_
    refine wp_geti (nI u) dX11_push_5 fX11_340 (Or.inl rfl) (ka hF5 293 (by decide)) ((fi_ne (by decide)).trans ((fi_ne (by decide)).trans hw)) ?_
    refine wp_iload_n dX11_push_8 rfl ?_
    refine wp_iastk (n := 500) u dX11_push_9 (ka hF5 307 (by decide)) (la 307) (vin (by omega) (by decide))  (nIc (by omega)) ?_
    have hF6 := Full_wai (gB G + 307) u (19 : Int32) hF5
    refine wp_aload_n dX11_push_10 rfl ?_
    refine wp_dup dX11_push_11 rfl ?_
    refine wp_geti (nI u) dX11_push_12 fX11_340 (Or.inl rfl) (ka hF6 293 (by decide)) (fi_wai.trans ((fi_ne (by decide)).trans ((fi_ne (by decide)).trans hw))) ?_
    refine wp_iconst (1 : Int32) dX11_push_15 (by decide) ?_
    refine wp_iaddv (nI (u + 1)) dX11_push_16 (nadd (a := u) (b := 1) (by omega)) ?_
    refine wp_puti dX11_push_17 pX11_340 (ka hF6 293 (by decide)) ?_
    have hF7 := Full_wfi 1126 (gB G + 293) (nI (u + 1)) hF6
    refine wp_vret dX11_push_20 rfl ?_
    show WP G (d + 12) (0, 0) μX11_parseFactorStart 67 [.ref (gB G + 293)] [] (wfi (wai (wfi (wfi m 1118 (gB G + 293) (4 : Int32)) 1119 (gB G + 293) (nI st)) (gB G + 307) u (19 : Int32)) 1126 (gB G + 293) (nI (u + 1))) _
    refine wp_aload_n dX11_parseFactorStart_67 rfl ?_
    refine wp_dup dX11_parseFactorStart_68 rfl ?_
    refine wp_geti (nI dp) dX11_parseFactorStart_69 fX11_349 (Or.inl rfl) (ka hF7 293 (by decide)) ((fi_ne (by decide)).trans (fi_wai.trans ((fi_ne (by decide)).trans ((fi_ne (by decide)).trans hd)))) ?_
    refine wp_iconst (1 : Int32) dX11_parseFactorStart_72 (by decide) ?_
    refine wp_iaddv (nI (dp + 1)) dX11_parseFactorStart_73 (nadd (a := dp) (b := 1) (by omega)) ?_
    refine wp_puti dX11_parseFactorStart_74 pX11_349 (ka hF7 293 (by decide)) ?_
    have hF8 := Full_wfi 1127 (gB G + 293) (nI (dp + 1)) hF7
    refine wp_aload_n dX11_parseFactorStart_77 rfl ?_
    refine wp_forget [lvU] ⟨Or.inr rfl, trivial⟩ ?_
    refine wp_callV (As := []) (S := []) (b' := (0, 0)) (b := (0, 0)) dX11_parseFactorStart_78 MX11_308 (ka hF8 293 (by decide)) rfl rfl rfl rfl (Nat.le_of_ble_eq_true rfl) ?_
    exact e1 hp3
  · have hp9 : dp < 20 := (nlt q2 (by omega) (by omega))
    refine wp_iconst (1 : Int32) dX11_parseFactorStart_38 (by decide) ?_
    refine wp_goto 43 dX11_parseFactorStart_39 (by decide) ?_
    refine wp_iconst (4 : Int32) dX11_parseFactorStart_43 (by decide) ?_
    refine wp_callV (As := [.int (1 : Int32), .int (4 : Int32)]) (S := []) (b' := (0, 0)) (b := (0, 0)) dX11_parseFactorStart_44 MX11_304 (ka hF 293 (by decide)) rfl rfl rfl rfl (Nat.le_of_ble_eq_true rfl) ?_
    refine WPM.of pX11 (Nat.le_of_ble_eq_true rfl) rfl ?_
    refine wp_iload_n dX11_require_0 rfl ?_
    refine wp_if_ne 24 dX11_require_1 (by decide) (fun _ => ?_) (fun q => absurd q (by decide))
    refine wp_vret dX11_require_24 rfl ?_
    show WP G (d + 12) (0, 0) μX11_parseFactorStart 47 [.ref (gB G + 293)] [] m _
    refine wp_aload_n dX11_parseFactorStart_47 rfl ?_
    refine wp_aload_n dX11_parseFactorStart_48 rfl ?_
    refine wp_geti (40 : Int32) dX11_parseFactorStart_49 fX11_269 (Or.inl rfl) (ka hF 293 (by decide)) hy ?_
    refine wp_bipush (45 : Int32) dX11_parseFactorStart_52 (by decide) ?_
    refine wp_icmp_ne 62 dX11_parseFactorStart_54 (by decide) (fun _ => ?_) (fun q => absurd q (by decide))
    refine wp_bipush (19 : Int32) dX11_parseFactorStart_62 (by decide) ?_
    refine wp_callV (As := [.int (19 : Int32)]) (S := []) (b' := (0, 0)) (b := (0, 0)) dX11_parseFactorStart_64 MX11_361 (ka hF 293 (by decide)) rfl rfl rfl rfl (Nat.le_of_ble_eq_true rfl) ?_
    refine WPM.of pX11 (Nat.le_of_ble_eq_true rfl) rfl ?_
    refine wp_aload_n dX11_push_0 rfl ?_
    refine wp_getr (gB G + 307) dX11_push_1 fX11_55 (ka hF 293 (by decide)) (hF.2 _ _) (rra 14 (isK_le (ka hF 293 (by decide))) (fun _ => rfl)) ?_
    refine wp_aload_n dX11_push_4 rfl ?_
    refine wp_geti (nI u) dX11_push_5 fX11_340 (Or.inl rfl) (ka hF 293 (by decide)) hw ?_
    refine wp_iload_n dX11_push_8 rfl ?_
    refine wp_iastk (n := 500) u dX11_push_9 (ka hF 307 (by decide)) (la 307) (vin (by omega) (by decide))  (nIc (by omega)) ?_
    have hF10 := Full_wai (gB G + 307) u (19 : Int32) hF
    refine wp_aload_n dX11_push_10 rfl ?_
    refine wp_dup dX11_push_11 rfl ?_
    refine wp_geti (nI u) dX11_push_12 fX11_340 (Or.inl rfl) (ka hF10 293 (by decide)) (fi_wai.trans hw) ?_
    refine wp_iconst (1 : Int32) dX11_push_15 (by decide) ?_
    refine wp_iaddv (nI (u + 1)) dX11_push_16 (nadd (a := u) (b := 1) (by omega)) ?_
    refine wp_puti dX11_push_17 pX11_340 (ka hF10 293 (by decide)) ?_
    have hF11 := Full_wfi 1126 (gB G + 293) (nI (u + 1)) hF10
    refine wp_vret dX11_push_20 rfl ?_
    show WP G (d + 12) (0, 0) μX11_parseFactorStart 67 [.ref (gB G + 293)] [] (wfi (wai m (gB G + 307) u (19 : Int32)) 1126 (gB G + 293) (nI (u + 1))) _
    refine wp_aload_n dX11_parseFactorStart_67 rfl ?_
    refine wp_dup dX11_parseFactorStart_68 rfl ?_
    refine wp_geti (nI dp) dX11_parseFactorStart_69 fX11_349 (Or.inl rfl) (ka hF11 293 (by decide)) ((fi_ne (by decide)).trans (fi_wai.trans hd)) ?_
    refine wp_iconst (1 : Int32) dX11_parseFactorStart_72 (by decide) ?_
    refine wp_iaddv (nI (dp + 1)) dX11_parseFactorStart_73 (nadd (a := dp) (b := 1) (by omega)) ?_
    refine wp_puti dX11_parseFactorStart_74 pX11_349 (ka hF11 293 (by decide)) ?_
    have hF12 := Full_wfi 1127 (gB G + 293) (nI (dp + 1)) hF11
    refine wp_aload_n dX11_parseFactorStart_77 rfl ?_
    refine wp_forget [lvU] ⟨Or.inr rfl, trivial⟩ ?_
    refine wp_callV (As := []) (S := []) (b' := (0, 0)) (b := (0, 0)) dX11_parseFactorStart_78 MX11_308 (ka hF12 293 (by decide)) rfl rfl rfl rfl (Nat.le_of_ble_eq_true rfl) ?_
    exact e2 hp9

theorem fQ40 {G : Cx} {d : Nat} {m : Mm} {Q : Option Value → Mm → Prop}  (hF : Full G m) 
    (e1 : Q (some (.int (0 : Int32))) m) :
    WP G (d + 12) (0, 0) μX11_parseFactorStart 81 [lvU] [] m Q := by
  refine wp_iconst (0 : Int32) dX11_parseFactorStart_81 (by decide) ?_
  exact wp_zret dX11_parseFactorStart_82 rfl rfl (e1)

theorem suA {G : Cx} {d : Nat} {m : Mm} {Q : Option Value → Mm → Prop}  (hF : Full G m) 
    (e1 : WP G (d + 14) (0, 0) μX11_parseSum 14 [.ref (gB G + 293), .int (0 : Int32), .int (0 : Int32), lvU] [] (wfi (wfi m 1126 (gB G + 293) (0 : Int32)) 1127 (gB G + 293) (0 : Int32)) Q) :
    WPM G (d + 14) (0, 0) μX11_parseSum [.ref (gB G + 293)] m Q := by
  refine WPM.of pX11 (Nat.le_of_ble_eq_true rfl) rfl ?_
  refine wp_aload_n dX11_parseSum_0 rfl ?_
  refine wp_iconst (0 : Int32) dX11_parseSum_1 (by decide) ?_
  refine wp_puti dX11_parseSum_2 pX11_340 (ka hF 293 (by decide)) ?_
  have hF1 := Full_wfi 1126 (gB G + 293) (0 : Int32) hF
  refine wp_aload_n dX11_parseSum_5 rfl ?_
  refine wp_iconst (0 : Int32) dX11_parseSum_6 (by decide) ?_
  refine wp_puti dX11_parseSum_7 pX11_349 (ka hF1 293 (by decide)) ?_
  have hF2 := Full_wfi 1127 (gB G + 293) (0 : Int32) hF1
  refine wp_iconst (0 : Int32) dX11_parseSum_10 (by decide) ?_
  refine wp_istore_n dX11_parseSum_11 (by decide) rfl ?_
  refine wp_iconst (0 : Int32) dX11_parseSum_12 (by decide) ?_
  refine wp_istore_n dX11_parseSum_13 (by decide) rfl ?_
  refine wp_forget [.ref (gB G + 293), .int (0 : Int32), .int (0 : Int32), lvU] ⟨Or.inl rfl, Or.inl rfl, Or.inl rfl, Or.inr rfl, trivial⟩ ?_
  exact e1

theorem suZ0 {G : Cx} {d : Nat} {m : Mm} {Q : Option Value → Mm → Prop} {op : Nat} {c : Int32} (hF : Full G m) (he : fi m 1118 (gB G + 293) = c) (hc : ¬ c = 0) 
    (e1 : Q none m) :
    WP G (d + 14) (0, 0) μX11_parseSum 14 [.ref (gB G + 293), .int (nI op), .int (0 : Int32), lvU] [] m Q := by
  refine wp_aload_n dX11_parseSum_14 rfl ?_
  refine wp_geti c dX11_parseSum_15 fX11_298 (Or.inl rfl) (ka hF 293 (by decide)) he ?_
  refine wp_if_ne 157 dX11_parseSum_18 (by decide) (fun _ => ?_) (fun q => absurd q hc)
  exact wp_vret dX11_parseSum_157 rfl (e1)

theorem suB0 {G : Cx} {d : Nat} {m : Mm} {Q : Option Value → Mm → Prop} {op : Nat} (hF : Full G m) (he : fi m 1118 (gB G + 293) = (0 : Int32)) 
    (e1 : WPM G (d + 13) (0, 0) μX11_binaryOperation [.ref (gB G + 293)] m (fun r' m' => WP G (d + 14) (0, 0) μX11_parseSum 25 [.ref (gB G + 293), .int (nI op), .int (0 : Int32), lvU] (r'.toList ++ []) m' Q)) :
    WP G (d + 14) (0, 0) μX11_parseSum 14 [.ref (gB G + 293), .int (nI op), .int (0 : Int32), lvU] [] m Q := by
  refine wp_aload_n dX11_parseSum_14 rfl ?_
  refine wp_geti (0 : Int32) dX11_parseSum_15 fX11_298 (Or.inl rfl) (ka hF 293 (by decide)) he ?_
  refine wp_if_ne 157 dX11_parseSum_18 (by decide) (fun q => absurd (by decide) q) (fun _ => ?_)
  refine wp_aload_n dX11_parseSum_21 rfl ?_
  refine wp_callV (As := []) (S := []) (b' := (0, 0)) (b := (0, 0)) dX11_parseSum_22 MX11_364 (ka hF 293 (by decide)) rfl rfl rfl rfl (Nat.le_of_ble_eq_true rfl) ?_
  exact e1

theorem suI {G : Cx} {d : Nat} {m : Mm} {Q : Option Value → Mm → Prop} {op y : Nat} {o : Int32} (hF : Full G m) (hy : fi m 1115 (gB G + 293) = nI y) (hy9 : y < 1000) (ho5 : op < 600) 
    (e1 : ¬ y = 40 → WPM G (d + 13) (0, 0) μX11_parseFactorStart [.ref (gB G + 293)] m (fun r' m' => WP G (d + 14) (0, 0) μX11_parseSum 51 [.ref (gB G + 293), .int (nI op), lvU, lvU] (r'.toList ++ []) m' Q))
    (e2 : y = 40 → WPM G (d + 13) (0, 0) μX11_parseFactorStart [.ref (gB G + 293)] m (fun r' m' => WP G (d + 14) (0, 0) μX11_parseSum 51 [.ref (gB G + 293), .int (nI (op + 1)), lvU, lvU] (r'.toList ++ []) m' Q)) :
    WP G (d + 14) (0, 0) μX11_parseSum 25 [.ref (gB G + 293), .int (nI op), .int (0 : Int32), lvU] [.int o] m Q := by
  refine wp_istore_n dX11_parseSum_25 (by decide) rfl ?_
  refine wp_iload_n dX11_parseSum_26 rfl ?_
  refine wp_if_ne 55 dX11_parseSum_27 (by decide) (fun q => absurd (by decide) q) (fun _ => ?_)
  refine wp_iload_n dX11_parseSum_30 rfl ?_
  refine wp_aload_n dX11_parseSum_31 rfl ?_
  refine wp_geti (nI y) dX11_parseSum_32 fX11_269 (Or.inl rfl) (ka hF 293 (by decide)) hy ?_
  refine wp_bipush (40 : Int32) dX11_parseSum_35 (by decide) ?_
  refine wp_icmp_ne 44 dX11_parseSum_37 (by decide) (fun q1 => ?_) (fun q2 => ?_)
  · have hp3 : ¬ y = 40 := (fun z => q1 (congrArg nI z))
    refine wp_iconst (0 : Int32) dX11_parseSum_44 (by decide) ?_
    refine wp_iaddv (nI op) dX11_parseSum_45 (nadd (a := op) (b := 0) (by omega)) ?_
    refine wp_istore_n dX11_parseSum_46 (by decide) rfl ?_
    refine wp_aload_n dX11_parseSum_47 rfl ?_
    refine wp_forget [.ref (gB G + 293), .int (nI op), lvU, lvU] ⟨Or.inl rfl, Or.inl rfl, Or.inr rfl, Or.inr rfl, trivial⟩ ?_
    refine wp_callV (As := []) (S := []) (b' := (0, 0)) (b := (0, 0)) dX11_parseSum_48 MX11_367 (ka hF 293 (by decide)) rfl rfl rfl rfl (Nat.le_of_ble_eq_true rfl) ?_
    exact e1 hp3
  · have hp4 : y = 40 := (neq q2 (by omega) (by omega))
    refine wp_iconst (1 : Int32) dX11_parseSum_40 (by decide) ?_
    refine wp_goto 45 dX11_parseSum_41 (by decide) ?_
    refine wp_iaddv (nI (op + 1)) dX11_parseSum_45 (nadd (a := op) (b := 1) (by omega)) ?_
    refine wp_istore_n dX11_parseSum_46 (by decide) rfl ?_
    refine wp_aload_n dX11_parseSum_47 rfl ?_
    refine wp_forget [.ref (gB G + 293), .int (nI (op + 1)), lvU, lvU] ⟨Or.inl rfl, Or.inl rfl, Or.inr rfl, Or.inr rfl, trivial⟩ ?_
    refine wp_callV (As := []) (S := []) (b' := (0, 0)) (b := (0, 0)) dX11_parseSum_48 MX11_367 (ka hF 293 (by decide)) rfl rfl rfl rfl (Nat.le_of_ble_eq_true rfl) ?_
    exact e2 hp4

theorem suJ0 {G : Cx} {d : Nat} {m : Mm} {Q : Option Value → Mm → Prop} {op : Nat} (hF : Full G m) 
    (e1 : WP G (d + 14) (0, 0) μX11_parseSum 14 [.ref (gB G + 293), .int (nI op), .int (0 : Int32), lvU] [] m Q) :
    WP G (d + 14) (0, 0) μX11_parseSum 51 [.ref (gB G + 293), .int (nI op), lvU, lvU] [.int (0 : Int32)] m Q := by
  refine wp_istore_n dX11_parseSum_51 (by decide) rfl ?_
  refine wp_goto 154 dX11_parseSum_52 (by decide) ?_
  refine wp_goto 14 dX11_parseSum_154 (by decide) ?_
  refine wp_forget [.ref (gB G + 293), .int (nI op), .int (0 : Int32), lvU] ⟨Or.inl rfl, Or.inl rfl, Or.inl rfl, Or.inr rfl, trivial⟩ ?_
  exact e1

theorem suJ1 {G : Cx} {d : Nat} {m : Mm} {Q : Option Value → Mm → Prop} {op : Nat} (hF : Full G m) 
    (e1 : WP G (d + 14) (0, 0) μX11_parseSum 14 [.ref (gB G + 293), .int (nI op), .int (1 : Int32), lvU] [] m Q) :
    WP G (d + 14) (0, 0) μX11_parseSum 51 [.ref (gB G + 293), .int (nI op), lvU, lvU] [.int (1 : Int32)] m Q := by
  refine wp_istore_n dX11_parseSum_51 (by decide) rfl ?_
  refine wp_goto 154 dX11_parseSum_52 (by decide) ?_
  refine wp_goto 14 dX11_parseSum_154 (by decide) ?_
  refine wp_forget [.ref (gB G + 293), .int (nI op), .int (1 : Int32), lvU] ⟨Or.inl rfl, Or.inl rfl, Or.inl rfl, Or.inr rfl, trivial⟩ ?_
  exact e1

theorem suZ1 {G : Cx} {d : Nat} {m : Mm} {Q : Option Value → Mm → Prop} {op : Nat} {c : Int32} (hF : Full G m) (he : fi m 1118 (gB G + 293) = c) (hc : ¬ c = 0) 
    (e1 : Q none m) :
    WP G (d + 14) (0, 0) μX11_parseSum 14 [.ref (gB G + 293), .int (nI op), .int (1 : Int32), lvU] [] m Q := by
  refine wp_aload_n dX11_parseSum_14 rfl ?_
  refine wp_geti c dX11_parseSum_15 fX11_298 (Or.inl rfl) (ka hF 293 (by decide)) he ?_
  refine wp_if_ne 157 dX11_parseSum_18 (by decide) (fun _ => ?_) (fun q => absurd q hc)
  exact wp_vret dX11_parseSum_157 rfl (e1)

theorem suB1 {G : Cx} {d : Nat} {m : Mm} {Q : Option Value → Mm → Prop} {op : Nat} (hF : Full G m) (he : fi m 1118 (gB G + 293) = (0 : Int32)) 
    (e1 : WPM G (d + 13) (0, 0) μX11_binaryOperation [.ref (gB G + 293)] m (fun r' m' => WP G (d + 14) (0, 0) μX11_parseSum 25 [.ref (gB G + 293), .int (nI op), .int (1 : Int32), lvU] (r'.toList ++ []) m' Q)) :
    WP G (d + 14) (0, 0) μX11_parseSum 14 [.ref (gB G + 293), .int (nI op), .int (1 : Int32), lvU] [] m Q := by
  refine wp_aload_n dX11_parseSum_14 rfl ?_
  refine wp_geti (0 : Int32) dX11_parseSum_15 fX11_298 (Or.inl rfl) (ka hF 293 (by decide)) he ?_
  refine wp_if_ne 157 dX11_parseSum_18 (by decide) (fun q => absurd (by decide) q) (fun _ => ?_)
  refine wp_aload_n dX11_parseSum_21 rfl ?_
  refine wp_callV (As := []) (S := []) (b' := (0, 0)) (b := (0, 0)) dX11_parseSum_22 MX11_364 (ka hF 293 (by decide)) rfl rfl rfl rfl (Nat.le_of_ble_eq_true rfl) ?_
  exact e1

theorem suK {G : Cx} {d : Nat} {m : Mm} {Q : Option Value → Mm → Prop} {op : Nat} {o : Int32} (hF : Full G m) (ho : ¬ o = -1) 
    (e1 : WPM G (d + 13) (0, 0) μX11_popFromRank [.ref (gB G + 293), .int (rkM o)] m (fun r' m' => WP G (d + 14) (0, 0) μX11_parseSum 68 [.ref (gB G + 293), .int (nI op), lvU, .int o] (r'.toList ++ []) m' Q)) :
    WP G (d + 14) (0, 0) μX11_parseSum 25 [.ref (gB G + 293), .int (nI op), .int (1 : Int32), lvU] [.int o] m Q := by
  refine wp_istore_n dX11_parseSum_25 (by decide) rfl ?_
  refine wp_iload_n dX11_parseSum_26 rfl ?_
  refine wp_if_ne 55 dX11_parseSum_27 (by decide) (fun _ => ?_) (fun q => absurd q (by decide))
  refine wp_iload_n dX11_parseSum_55 rfl ?_
  refine wp_iconst (-1 : Int32) dX11_parseSum_56 (by decide) ?_
  refine wp_icmp_eq 82 dX11_parseSum_57 (by decide) (fun q => absurd q ho) (fun _ => ?_)
  refine wp_aload_n dX11_parseSum_60 rfl ?_
  refine wp_iload_n dX11_parseSum_61 rfl ?_
  refine wp_rkMS dX11_parseSum_62 MX11_352 (Nat.le_of_ble_eq_true rfl) ?_
  refine wp_forget [.ref (gB G + 293), .int (nI op), lvU, .int o] ⟨Or.inl rfl, Or.inl rfl, Or.inr rfl, Or.inl rfl, trivial⟩ ?_
  refine wp_callV (As := [.int (rkM o)]) (S := []) (b' := (0, 0)) (b := (0, 0)) dX11_parseSum_65 MX11_370 (ka hF 293 (by decide)) rfl rfl rfl rfl (Nat.le_of_ble_eq_true rfl) ?_
  exact e1

theorem suL {G : Cx} {d : Nat} {m : Mm} {Q : Option Value → Mm → Prop} {op u : Nat} {o : Int32} (hF : Full G m) (hw : fi m 1126 (gB G + 293) = nI u) (hu5 : u < 500) 
    (e1 : WPM G (d + 13) (0, 0) μX11_advance [.ref (gB G + 293)] (wfi (wai m (gB G + 307) u o) 1126 (gB G + 293) (nI (u + 1))) (fun r' m' => WP G (d + 14) (0, 0) μX11_parseSum 77 [.ref (gB G + 293), .int (nI op), lvU, lvU] (r'.toList ++ []) m' Q)) :
    WP G (d + 14) (0, 0) μX11_parseSum 68 [.ref (gB G + 293), .int (nI op), lvU, .int o] [] m Q := by
  refine wp_aload_n dX11_parseSum_68 rfl ?_
  refine wp_iload_n dX11_parseSum_69 rfl ?_
  refine wp_callV (As := [.int o]) (S := []) (b' := (0, 0)) (b := (0, 0)) dX11_parseSum_70 MX11_361 (ka hF 293 (by decide)) rfl rfl rfl rfl (Nat.le_of_ble_eq_true rfl) ?_
  refine WPM.of pX11 (Nat.le_of_ble_eq_true rfl) rfl ?_
  refine wp_aload_n dX11_push_0 rfl ?_
  refine wp_getr (gB G + 307) dX11_push_1 fX11_55 (ka hF 293 (by decide)) (hF.2 _ _) (rra 14 (isK_le (ka hF 293 (by decide))) (fun _ => rfl)) ?_
  refine wp_aload_n dX11_push_4 rfl ?_
  refine wp_geti (nI u) dX11_push_5 fX11_340 (Or.inl rfl) (ka hF 293 (by decide)) hw ?_
  refine wp_iload_n dX11_push_8 rfl ?_
  refine wp_iastk (n := 500) u dX11_push_9 (ka hF 307 (by decide)) (la 307) (vin (by omega) (by decide))  (nIc (by omega)) ?_
  have hF1 := Full_wai (gB G + 307) u o hF
  refine wp_aload_n dX11_push_10 rfl ?_
  refine wp_dup dX11_push_11 rfl ?_
  refine wp_geti (nI u) dX11_push_12 fX11_340 (Or.inl rfl) (ka hF1 293 (by decide)) (fi_wai.trans hw) ?_
  refine wp_iconst (1 : Int32) dX11_push_15 (by decide) ?_
  refine wp_iaddv (nI (u + 1)) dX11_push_16 (nadd (a := u) (b := 1) (by omega)) ?_
  refine wp_puti dX11_push_17 pX11_340 (ka hF1 293 (by decide)) ?_
  have hF2 := Full_wfi 1126 (gB G + 293) (nI (u + 1)) hF1
  refine wp_vret dX11_push_20 rfl ?_
  show WP G (d + 14) (0, 0) μX11_parseSum 73 [.ref (gB G + 293), .int (nI op), lvU, .int o] [] (wfi (wai m (gB G + 307) u o) 1126 (gB G + 293) (nI (u + 1))) _
  refine wp_aload_n dX11_parseSum_73 rfl ?_
  refine wp_forget [.ref (gB G + 293), .int (nI op), lvU, lvU] ⟨Or.inl rfl, Or.inl rfl, Or.inr rfl, Or.inr rfl, trivial⟩ ?_
  refine wp_callV (As := []) (S := []) (b' := (0, 0)) (b := (0, 0)) dX11_parseSum_74 MX11_308 (ka hF2 293 (by decide)) rfl rfl rfl rfl (Nat.le_of_ble_eq_true rfl) ?_
  exact e1

theorem suM {G : Cx} {d : Nat} {m : Mm} {Q : Option Value → Mm → Prop} {op : Nat} (hF : Full G m) 
    (e1 : WP G (d + 14) (0, 0) μX11_parseSum 14 [.ref (gB G + 293), .int (nI op), .int (0 : Int32), lvU] [] m Q) :
    WP G (d + 14) (0, 0) μX11_parseSum 77 [.ref (gB G + 293), .int (nI op), lvU, lvU] [] m Q := by
  refine wp_iconst (0 : Int32) dX11_parseSum_77 (by decide) ?_
  refine wp_istore_n dX11_parseSum_78 (by decide) rfl ?_
  refine wp_goto 154 dX11_parseSum_79 (by decide) ?_
  refine wp_goto 14 dX11_parseSum_154 (by decide) ?_
  refine wp_forget [.ref (gB G + 293), .int (nI op), .int (0 : Int32), lvU] ⟨Or.inl rfl, Or.inl rfl, Or.inl rfl, Or.inr rfl, trivial⟩ ?_
  exact e1

theorem suC {G : Cx} {d : Nat} {m : Mm} {Q : Option Value → Mm → Prop} {op : Nat} (hF : Full G m) (hy : fi m 1115 (gB G + 293) = (41 : Int32)) (ho5 : op + 1 < 600) 
    (e1 : WPM G (d + 13) (0, 0) μX11_popFromRank [.ref (gB G + 293), .int (1 : Int32)] m (fun r' m' => WP G (d + 14) (0, 0) μX11_parseSum 100 [.ref (gB G + 293), .int (nI (op + 1)), .int (1 : Int32), lvU] (r'.toList ++ []) m' Q)) :
    WP G (d + 14) (0, 0) μX11_parseSum 25 [.ref (gB G + 293), .int (nI (op + 1)), .int (1 : Int32), lvU] [.int (-1 : Int32)] m Q := by
  refine wp_istore_n dX11_parseSum_25 (by decide) rfl ?_
  refine wp_iload_n dX11_parseSum_26 rfl ?_
  refine wp_if_ne 55 dX11_parseSum_27 (by decide) (fun _ => ?_) (fun q => absurd q (by decide))
  refine wp_iload_n dX11_parseSum_55 rfl ?_
  refine wp_iconst (-1 : Int32) dX11_parseSum_56 (by decide) ?_
  refine wp_icmp_eq 82 dX11_parseSum_57 (by decide) (fun _ => ?_) (fun q => absurd (by decide) q)
  refine wp_aload_n dX11_parseSum_82 rfl ?_
  refine wp_geti (41 : Int32) dX11_parseSum_83 fX11_269 (Or.inl rfl) (ka hF 293 (by decide)) hy ?_
  refine wp_bipush (41 : Int32) dX11_parseSum_86 (by decide) ?_
  refine wp_icmp_ne 134 dX11_parseSum_88 (by decide) (fun q => absurd (by decide) q) (fun _ => ?_)
  refine wp_iload_n dX11_parseSum_91 rfl ?_
  refine wp_if_le 134 dX11_parseSum_92 (by decide) (fun q => absurd (nlt_ (a := 0) (b := op + 1) (by omega : 0 < op + 1) (by omega)) q) (fun _ => ?_)
  refine wp_aload_n dX11_parseSum_95 rfl ?_
  refine wp_iconst (1 : Int32) dX11_parseSum_96 (by decide) ?_
  refine wp_forget [.ref (gB G + 293), .int (nI (op + 1)), .int (1 : Int32), lvU] ⟨Or.inl rfl, Or.inl rfl, Or.inl rfl, Or.inr rfl, trivial⟩ ?_
  refine wp_callV (As := [.int (1 : Int32)]) (S := []) (b' := (0, 0)) (b := (0, 0)) dX11_parseSum_97 MX11_370 (ka hF 293 (by decide)) rfl rfl rfl rfl (Nat.le_of_ble_eq_true rfl) ?_
  exact e1

theorem suD {G : Cx} {d : Nat} {m : Mm} {Q : Option Value → Mm → Prop} {op u dp : Nat} (hF : Full G m) (hw : fi m 1126 (gB G + 293) = nI (u + 1)) (hd : fi m 1127 (gB G + 293) = nI (dp + 1)) 
    (e1 : WPM G (d + 13) (0, 0) μX11_advance [.ref (gB G + 293)] (wfi (wfi m 1126 (gB G + 293) (nI u)) 1127 (gB G + 293) (nI dp)) (fun r' m' => WP G (d + 14) (0, 0) μX11_parseSum 127 [.ref (gB G + 293), .int (nI op), .int (1 : Int32), lvU] (r'.toList ++ []) m' Q)) :
    WP G (d + 14) (0, 0) μX11_parseSum 100 [.ref (gB G + 293), .int (nI (op + 1)), .int (1 : Int32), lvU] [] m Q := by
  refine wp_aload_n dX11_parseSum_100 rfl ?_
  refine wp_dup dX11_parseSum_101 rfl ?_
  refine wp_geti (nI (u + 1)) dX11_parseSum_102 fX11_340 (Or.inl rfl) (ka hF 293 (by decide)) hw ?_
  refine wp_iconst (1 : Int32) dX11_parseSum_105 (by decide) ?_
  refine wp_isubv (nI u) dX11_parseSum_106 (nsub (a := u + 1) (b := 1) (by omega)) ?_
  refine wp_puti dX11_parseSum_107 pX11_340 (ka hF 293 (by decide)) ?_
  have hF1 := Full_wfi 1126 (gB G + 293) (nI u) hF
  refine wp_aload_n dX11_parseSum_110 rfl ?_
  refine wp_dup dX11_parseSum_111 rfl ?_
  refine wp_geti (nI (dp + 1)) dX11_parseSum_112 fX11_349 (Or.inl rfl) (ka hF1 293 (by decide)) ((fi_ne (by decide)).trans hd) ?_
  refine wp_iconst (1 : Int32) dX11_parseSum_115 (by decide) ?_
  refine wp_isubv (nI dp) dX11_parseSum_116 (nsub (a := dp + 1) (b := 1) (by omega)) ?_
  refine wp_puti dX11_parseSum_117 pX11_349 (ka hF1 293 (by decide)) ?_
  have hF2 := Full_wfi 1127 (gB G + 293) (nI dp) hF1
  refine wp_iinc (nI op) dX11_parseSum_120 rfl (by decide) (ndec (by omega)) rfl ?_
  refine wp_aload_n dX11_parseSum_123 rfl ?_
  refine wp_callV (As := []) (S := []) (b' := (0, 0)) (b := (0, 0)) dX11_parseSum_124 MX11_308 (ka hF2 293 (by decide)) rfl rfl rfl rfl (Nat.le_of_ble_eq_true rfl) ?_
  exact e1

theorem suE {G : Cx} {d : Nat} {m : Mm} {Q : Option Value → Mm → Prop} {op : Nat} (hF : Full G m) 
    (e1 : WPM G (d + 13) (0, 0) μX11_endFactor [.ref (gB G + 293)] m (fun r' m' => WP G (d + 14) (0, 0) μX11_parseSum 131 [.ref (gB G + 293), .int (nI op), .int (1 : Int32), lvU] (r'.toList ++ []) m' Q)) :
    WP G (d + 14) (0, 0) μX11_parseSum 127 [.ref (gB G + 293), .int (nI op), .int (1 : Int32), lvU] [] m Q := by
  refine wp_aload_n dX11_parseSum_127 rfl ?_
  refine wp_callV (As := []) (S := []) (b' := (0, 0)) (b := (0, 0)) dX11_parseSum_128 MX11_358 (ka hF 293 (by decide)) rfl rfl rfl rfl (Nat.le_of_ble_eq_true rfl) ?_
  exact e1

theorem suF {G : Cx} {d : Nat} {m : Mm} {Q : Option Value → Mm → Prop} {op : Nat} (hF : Full G m) 
    (e1 : WP G (d + 14) (0, 0) μX11_parseSum 14 [.ref (gB G + 293), .int (nI op), .int (1 : Int32), lvU] [] m Q) :
    WP G (d + 14) (0, 0) μX11_parseSum 131 [.ref (gB G + 293), .int (nI op), .int (1 : Int32), lvU] [] m Q := by
  refine wp_goto 154 dX11_parseSum_131 (by decide) ?_
  refine wp_goto 14 dX11_parseSum_154 (by decide) ?_
  refine wp_forget [.ref (gB G + 293), .int (nI op), .int (1 : Int32), lvU] ⟨Or.inl rfl, Or.inl rfl, Or.inl rfl, Or.inr rfl, trivial⟩ ?_
  exact e1

theorem suG {G : Cx} {d : Nat} {m : Mm} {Q : Option Value → Mm → Prop} {y st : Nat} (hF : Full G m) (he : fi m 1118 (gB G + 293) = (0 : Int32)) (hy : fi m 1115 (gB G + 293) = nI y) (hst : fi m 1113 (gB G + 293) = nI st) (hy9 : y < 1000) 
    (e1 : ¬ y = 41 → WPM G (d + 13) (0, 0) μX11_popFromRank [.ref (gB G + 293), .int (1 : Int32)] m (fun r' m' => WP G (d + 14) (0, 0) μX11_parseSum 153 [lvU, lvU, lvU, lvU] (r'.toList ++ []) m' Q))
    (e2 : y = 41 → WPM G (d + 13) (0, 0) μX11_popFromRank [.ref (gB G + 293), .int (1 : Int32)] m (fun r' m' => WP G (d + 14) (0, 0) μX11_parseSum 153 [lvU, lvU, lvU, lvU] (r'.toList ++ []) m' Q)) :
    WP G (d + 14) (0, 0) μX11_parseSum 25 [.ref (gB G + 293), .int (0 : Int32), .int (1 : Int32), lvU] [.int (-1 : Int32)] m Q := by
  refine wp_istore_n dX11_parseSum_25 (by decide) rfl ?_
  refine wp_iload_n dX11_parseSum_26 rfl ?_
  refine wp_if_ne 55 dX11_parseSum_27 (by decide) (fun _ => ?_) (fun q => absurd q (by decide))
  refine wp_iload_n dX11_parseSum_55 rfl ?_
  refine wp_iconst (-1 : Int32) dX11_parseSum_56 (by decide) ?_
  refine wp_icmp_eq 82 dX11_parseSum_57 (by decide) (fun _ => ?_) (fun q => absurd (by decide) q)
  refine wp_aload_n dX11_parseSum_82 rfl ?_
  refine wp_geti (nI y) dX11_parseSum_83 fX11_269 (Or.inl rfl) (ka hF 293 (by decide)) hy ?_
  refine wp_bipush (41 : Int32) dX11_parseSum_86 (by decide) ?_
  refine wp_icmp_ne 134 dX11_parseSum_88 (by decide) (fun q1 => ?_) (fun q2 => ?_)
  · have hp3 : ¬ y = 41 := (fun z => q1 (congrArg nI z))
    refine wp_aload_n dX11_parseSum_134 rfl ?_
    refine wp_iload_n dX11_parseSum_135 rfl ?_
    refine wp_if_ne 143 dX11_parseSum_136 (by decide) (fun q => absurd (by decide) q) (fun _ => ?_)
    refine wp_iconst (1 : Int32) dX11_parseSum_139 (by decide) ?_
    refine wp_goto 144 dX11_parseSum_140 (by decide) ?_
    refine wp_iconst (1 : Int32) dX11_parseSum_144 (by decide) ?_
    refine wp_callV (As := [.int (1 : Int32), .int (1 : Int32)]) (S := []) (b' := (0, 0)) (b := (0, 0)) dX11_parseSum_145 MX11_304 (ka hF 293 (by decide)) rfl rfl rfl rfl (Nat.le_of_ble_eq_true rfl) ?_
    refine WPM.of pX11 (Nat.le_of_ble_eq_true rfl) rfl ?_
    refine wp_iload_n dX11_require_0 rfl ?_
    refine wp_if_ne 24 dX11_require_1 (by decide) (fun _ => ?_) (fun q => absurd q (by decide))
    refine wp_vret dX11_require_24 rfl ?_
    show WP G (d + 14) (0, 0) μX11_parseSum 148 [.ref (gB G + 293), .int (0 : Int32), .int (1 : Int32), .int (-1 : Int32)] [] m _
    refine wp_aload_n dX11_parseSum_148 rfl ?_
    refine wp_iconst (1 : Int32) dX11_parseSum_149 (by decide) ?_
    refine wp_forget [lvU, lvU, lvU, lvU] ⟨Or.inr rfl, Or.inr rfl, Or.inr rfl, Or.inr rfl, trivial⟩ ?_
    refine wp_callV (As := [.int (1 : Int32)]) (S := []) (b' := (0, 0)) (b := (0, 0)) dX11_parseSum_150 MX11_370 (ka hF 293 (by decide)) rfl rfl rfl rfl (Nat.le_of_ble_eq_true rfl) ?_
    exact e1 hp3
  · have hp4 : y = 41 := (neq q2 (by omega) (by omega))
    refine wp_iload_n dX11_parseSum_91 rfl ?_
    refine wp_if_le 134 dX11_parseSum_92 (by decide) (fun _ => ?_) (fun q => absurd q (by decide))
    refine wp_aload_n dX11_parseSum_134 rfl ?_
    refine wp_iload_n dX11_parseSum_135 rfl ?_
    refine wp_if_ne 143 dX11_parseSum_136 (by decide) (fun q => absurd (by decide) q) (fun _ => ?_)
    refine wp_iconst (1 : Int32) dX11_parseSum_139 (by decide) ?_
    refine wp_goto 144 dX11_parseSum_140 (by decide) ?_
    refine wp_iconst (1 : Int32) dX11_parseSum_144 (by decide) ?_
    refine wp_callV (As := [.int (1 : Int32), .int (1 : Int32)]) (S := []) (b' := (0, 0)) (b := (0, 0)) dX11_parseSum_145 MX11_304 (ka hF 293 (by decide)) rfl rfl rfl rfl (Nat.le_of_ble_eq_true rfl) ?_
    refine WPM.of pX11 (Nat.le_of_ble_eq_true rfl) rfl ?_
    refine wp_iload_n dX11_require_0 rfl ?_
    refine wp_if_ne 24 dX11_require_1 (by decide) (fun _ => ?_) (fun q => absurd q (by decide))
    refine wp_vret dX11_require_24 rfl ?_
    show WP G (d + 14) (0, 0) μX11_parseSum 148 [.ref (gB G + 293), .int (0 : Int32), .int (1 : Int32), .int (-1 : Int32)] [] m _
    refine wp_aload_n dX11_parseSum_148 rfl ?_
    refine wp_iconst (1 : Int32) dX11_parseSum_149 (by decide) ?_
    refine wp_forget [lvU, lvU, lvU, lvU] ⟨Or.inr rfl, Or.inr rfl, Or.inr rfl, Or.inr rfl, trivial⟩ ?_
    refine wp_callV (As := [.int (1 : Int32)]) (S := []) (b' := (0, 0)) (b := (0, 0)) dX11_parseSum_150 MX11_370 (ka hF 293 (by decide)) rfl rfl rfl rfl (Nat.le_of_ble_eq_true rfl) ?_
    exact e2 hp4

theorem suGx {G : Cx} {d : Nat} {m : Mm} {Q : Option Value → Mm → Prop} {op y st : Nat} (hF : Full G m) (he : fi m 1118 (gB G + 293) = (0 : Int32)) (hy : fi m 1115 (gB G + 293) = nI y) (hst : fi m 1113 (gB G + 293) = nI st) (hy9 : y < 1000) (h41 : ¬ y = 41) (ho5 : op + 1 < 600) 
    (e1 : WPM G (d + 13) (0, 0) μX11_popFromRank [.ref (gB G + 293), .int (1 : Int32)] (wfi (wfi m 1118 (gB G + 293) (1 : Int32)) 1119 (gB G + 293) (nI st)) (fun r' m' => WP G (d + 14) (0, 0) μX11_parseSum 153 [lvU, lvU, lvU, lvU] (r'.toList ++ []) m' Q)) :
    WP G (d + 14) (0, 0) μX11_parseSum 25 [.ref (gB G + 293), .int (nI (op + 1)), .int (1 : Int32), lvU] [.int (-1 : Int32)] m Q := by
  refine wp_istore_n dX11_parseSum_25 (by decide) rfl ?_
  refine wp_iload_n dX11_parseSum_26 rfl ?_
  refine wp_if_ne 55 dX11_parseSum_27 (by decide) (fun _ => ?_) (fun q => absurd q (by decide))
  refine wp_iload_n dX11_parseSum_55 rfl ?_
  refine wp_iconst (-1 : Int32) dX11_parseSum_56 (by decide) ?_
  refine wp_icmp_eq 82 dX11_parseSum_57 (by decide) (fun _ => ?_) (fun q => absurd (by decide) q)
  refine wp_aload_n dX11_parseSum_82 rfl ?_
  refine wp_geti (nI y) dX11_parseSum_83 fX11_269 (Or.inl rfl) (ka hF 293 (by decide)) hy ?_
  refine wp_bipush (41 : Int32) dX11_parseSum_86 (by decide) ?_
  refine wp_icmp_ne 134 dX11_parseSum_88 (by decide) (fun _ => ?_) (fun q => absurd q (fun z => h41 (neq z (by omega) (by omega))))
  refine wp_aload_n dX11_parseSum_134 rfl ?_
  refine wp_iload_n dX11_parseSum_135 rfl ?_
  refine wp_if_ne 143 dX11_parseSum_136 (by decide) (fun _ => ?_) (fun q => absurd q (fun z => (by omega : ¬ op + 1 = 0) (neq z (by omega) (by omega))))
  refine wp_iconst (0 : Int32) dX11_parseSum_143 (by decide) ?_
  refine wp_iconst (1 : Int32) dX11_parseSum_144 (by decide) ?_
  refine wp_callV (As := [.int (0 : Int32), .int (1 : Int32)]) (S := []) (b' := (0, 0)) (b := (0, 0)) dX11_parseSum_145 MX11_304 (ka hF 293 (by decide)) rfl rfl rfl rfl (Nat.le_of_ble_eq_true rfl) ?_
  refine WPM.of pX11 (Nat.le_of_ble_eq_true rfl) rfl ?_
  refine wp_iload_n dX11_require_0 rfl ?_
  refine wp_if_ne 24 dX11_require_1 (by decide) (fun q => absurd (by decide) q) (fun _ => ?_)
  refine wp_aload_n dX11_require_4 rfl ?_
  refine wp_geti (0 : Int32) dX11_require_5 fX11_298 (Or.inl rfl) (ka hF 293 (by decide)) he ?_
  refine wp_if_ne 24 dX11_require_8 (by decide) (fun q => absurd (by decide) q) (fun _ => ?_)
  refine wp_aload_n dX11_require_11 rfl ?_
  refine wp_iload_n dX11_require_12 rfl ?_
  refine wp_puti dX11_require_13 pX11_298 (ka hF 293 (by decide)) ?_
  have hF1 := Full_wfi 1118 (gB G + 293) (1 : Int32) hF
  refine wp_aload_n dX11_require_16 rfl ?_
  refine wp_aload_n dX11_require_17 rfl ?_
  refine wp_geti (nI st) dX11_require_18 fX11_256 (Or.inl rfl) (ka hF1 293 (by decide)) ((fi_ne (by decide)).trans hst) ?_
  refine wp_puti dX11_require_21 pX11_45 (ka hF1 293 (by decide)) ?_
  have hF2 := Full_wfi 1119 (gB G + 293) (nI st) hF1
  refine wp_vret dX11_require_24 rfl ?_
  show WP G (d + 14) (0, 0) μX11_parseSum 148 [.ref (gB G + 293), .int (nI (op + 1)), .int (1 : Int32), .int (-1 : Int32)] [] (wfi (wfi m 1118 (gB G + 293) (1 : Int32)) 1119 (gB G + 293) (nI st)) _
  refine wp_aload_n dX11_parseSum_148 rfl ?_
  refine wp_iconst (1 : Int32) dX11_parseSum_149 (by decide) ?_
  refine wp_forget [lvU, lvU, lvU, lvU] ⟨Or.inr rfl, Or.inr rfl, Or.inr rfl, Or.inr rfl, trivial⟩ ?_
  refine wp_callV (As := [.int (1 : Int32)]) (S := []) (b' := (0, 0)) (b := (0, 0)) dX11_parseSum_150 MX11_370 (ka hF2 293 (by decide)) rfl rfl rfl rfl (Nat.le_of_ble_eq_true rfl) ?_
  exact e1

theorem suH {G : Cx} {d : Nat} {m : Mm} {Q : Option Value → Mm → Prop}  (hF : Full G m) 
    (e1 : Q none m) :
    WP G (d + 14) (0, 0) μX11_parseSum 153 [lvU, lvU, lvU, lvU] [] m Q := by
  exact wp_vret dX11_parseSum_153 rfl (e1)

theorem cA {G : Cx} {d : Nat} {m : Mm} {Q : Option Value → Mm → Prop}  (hF : Full G m) 
    (e1 : WPM G (d + 15) (0, 0) μX11_isWord [.ref (gB G + 293), .ref (gK G 9)] m (fun r' m' => WP G (d + 16) (0, 0) μX11_parseComparison 7 [.ref (gB G + 293), lvU, lvU] (r'.toList ++ []) m' Q)) :
    WPM G (d + 16) (0, 0) μX11_parseComparison [.ref (gB G + 293)] m Q := by
  refine WPM.of pX11 (Nat.le_of_ble_eq_true rfl) rfl ?_
  refine wp_aload_n dX11_parseComparison_0 rfl ?_
  refine wp_ldcwS (j := 9) dX11_parseComparison_1 (by decide) rfl ?_
  refine wp_callV (As := [.ref (gK G 9)]) (S := []) (b' := (0, 0)) (b := (0, 0)) dX11_parseComparison_4 MX11_316 (ka hF 293 (by decide)) rfl rfl rfl rfl (Nat.le_of_ble_eq_true rfl) ?_
  exact e1

theorem cB1 {G : Cx} {d : Nat} {m : Mm} {Q : Option Value → Mm → Prop}  (hF : Full G m) 
    (e1 : WPM G (d + 15) (0, 0) μX11_advance [.ref (gB G + 293)] m (fun r' m' => WP G (d + 16) (0, 0) μX11_parseComparison 16 [.ref (gB G + 293), .int (1 : Int32), lvU] (r'.toList ++ []) m' Q)) :
    WP G (d + 16) (0, 0) μX11_parseComparison 7 [.ref (gB G + 293), lvU, lvU] [.int (1 : Int32)] m Q := by
  refine wp_istore_n dX11_parseComparison_7 (by decide) rfl ?_
  refine wp_iload_n dX11_parseComparison_8 rfl ?_
  refine wp_if_eq 16 dX11_parseComparison_9 (by decide) (fun q => absurd q (by decide)) (fun _ => ?_)
  refine wp_aload_n dX11_parseComparison_12 rfl ?_
  refine wp_callV (As := []) (S := []) (b' := (0, 0)) (b := (0, 0)) dX11_parseComparison_13 MX11_308 (ka hF 293 (by decide)) rfl rfl rfl rfl (Nat.le_of_ble_eq_true rfl) ?_
  exact e1

theorem cC1 {G : Cx} {d : Nat} {m : Mm} {Q : Option Value → Mm → Prop}  (hF : Full G m) 
    (e1 : WPM G (d + 15) (0, 0) μX11_parseSum [.ref (gB G + 293)] m (fun r' m' => WP G (d + 16) (0, 0) μX11_parseComparison 20 [.ref (gB G + 293), .int (1 : Int32), lvU] (r'.toList ++ []) m' Q)) :
    WP G (d + 16) (0, 0) μX11_parseComparison 16 [.ref (gB G + 293), .int (1 : Int32), lvU] [] m Q := by
  refine wp_aload_n dX11_parseComparison_16 rfl ?_
  refine wp_callV (As := []) (S := []) (b' := (0, 0)) (b := (0, 0)) dX11_parseComparison_17 MX11_375 (ka hF 293 (by decide)) rfl rfl rfl rfl (Nat.le_of_ble_eq_true rfl) ?_
  exact e1

theorem cB0 {G : Cx} {d : Nat} {m : Mm} {Q : Option Value → Mm → Prop}  (hF : Full G m) 
    (e1 : WPM G (d + 15) (0, 0) μX11_parseSum [.ref (gB G + 293)] m (fun r' m' => WP G (d + 16) (0, 0) μX11_parseComparison 20 [.ref (gB G + 293), .int (0 : Int32), lvU] (r'.toList ++ []) m' Q)) :
    WP G (d + 16) (0, 0) μX11_parseComparison 7 [.ref (gB G + 293), lvU, lvU] [.int (0 : Int32)] m Q := by
  refine wp_istore_n dX11_parseComparison_7 (by decide) rfl ?_
  refine wp_iload_n dX11_parseComparison_8 rfl ?_
  refine wp_if_eq 16 dX11_parseComparison_9 (by decide) (fun _ => ?_) (fun q => absurd (by decide) q)
  refine wp_aload_n dX11_parseComparison_16 rfl ?_
  refine wp_callV (As := []) (S := []) (b' := (0, 0)) (b := (0, 0)) dX11_parseComparison_17 MX11_375 (ka hF 293 (by decide)) rfl rfl rfl rfl (Nat.le_of_ble_eq_true rfl) ?_
  exact e1

theorem cD160 {G : Cx} {d : Nat} {m : Mm} {Q : Option Value → Mm → Prop}  (hF : Full G m) (he : fi m 1118 (gB G + 293) = (0 : Int32)) (hy : fi m 1115 (gB G + 293) = (60 : Int32)) 
    (e1 : WPM G (d + 15) (0, 0) μX11_advance [.ref (gB G + 293)] m (fun r' m' => WP G (d + 16) (0, 0) μX11_parseComparison 83 [.ref (gB G + 293), .int (1 : Int32), .int (13 : Int32)] (r'.toList ++ []) m' Q)) :
    WP G (d + 16) (0, 0) μX11_parseComparison 20 [.ref (gB G + 293), .int (1 : Int32), lvU] [] m Q := by
  refine wp_aload_n dX11_parseComparison_20 rfl ?_
  refine wp_geti (60 : Int32) dX11_parseComparison_21 fX11_269 (Or.inl rfl) (ka hF 293 (by decide)) hy ?_
  refine wp_bipush (60 : Int32) dX11_parseComparison_24 (by decide) ?_
  refine wp_icmp_ne 34 dX11_parseComparison_26 (by decide) (fun q => absurd (by decide) q) (fun _ => ?_)
  refine wp_bipush (13 : Int32) dX11_parseComparison_29 (by decide) ?_
  refine wp_goto 63 dX11_parseComparison_31 (by decide) ?_
  refine wp_istore_n dX11_parseComparison_63 (by decide) rfl ?_
  refine wp_aload_n dX11_parseComparison_64 rfl ?_
  refine wp_iload_n dX11_parseComparison_65 rfl ?_
  refine wp_iconst (-1 : Int32) dX11_parseComparison_66 (by decide) ?_
  refine wp_icmp_eq 74 dX11_parseComparison_67 (by decide) (fun q => absurd q (by decide)) (fun _ => ?_)
  refine wp_iconst (1 : Int32) dX11_parseComparison_70 (by decide) ?_
  refine wp_goto 75 dX11_parseComparison_71 (by decide) ?_
  refine wp_iconst (1 : Int32) dX11_parseComparison_75 (by decide) ?_
  refine wp_callV (As := [.int (1 : Int32), .int (1 : Int32)]) (S := []) (b' := (0, 0)) (b := (0, 0)) dX11_parseComparison_76 MX11_304 (ka hF 293 (by decide)) rfl rfl rfl rfl (Nat.le_of_ble_eq_true rfl) ?_
  refine WPM.of pX11 (Nat.le_of_ble_eq_true rfl) rfl ?_
  refine wp_iload_n dX11_require_0 rfl ?_
  refine wp_if_ne 24 dX11_require_1 (by decide) (fun _ => ?_) (fun q => absurd q (by decide))
  refine wp_vret dX11_require_24 rfl ?_
  show WP G (d + 16) (0, 0) μX11_parseComparison 79 [.ref (gB G + 293), .int (1 : Int32), .int (13 : Int32)] [] m _
  refine wp_aload_n dX11_parseComparison_79 rfl ?_
  refine wp_callV (As := []) (S := []) (b' := (0, 0)) (b := (0, 0)) dX11_parseComparison_80 MX11_308 (ka hF 293 (by decide)) rfl rfl rfl rfl (Nat.le_of_ble_eq_true rfl) ?_
  exact e1

theorem cE160 {G : Cx} {d : Nat} {m : Mm} {Q : Option Value → Mm → Prop}  (hF : Full G m) (he : fi m 1118 (gB G + 293) = (0 : Int32)) 
    (e1 : WPM G (d + 15) (0, 0) μX11_parseSum [.ref (gB G + 293)] m (fun r' m' => WP G (d + 16) (0, 0) μX11_parseComparison 94 [.ref (gB G + 293), .int (1 : Int32), .int (13 : Int32)] (r'.toList ++ []) m' Q)) :
    WP G (d + 16) (0, 0) μX11_parseComparison 83 [.ref (gB G + 293), .int (1 : Int32), .int (13 : Int32)] [] m Q := by
  refine wp_aload_n dX11_parseComparison_83 rfl ?_
  refine wp_geti (0 : Int32) dX11_parseComparison_84 fX11_298 (Or.inl rfl) (ka hF 293 (by decide)) he ?_
  refine wp_if_ne 94 dX11_parseComparison_87 (by decide) (fun q => absurd (by decide) q) (fun _ => ?_)
  refine wp_aload_n dX11_parseComparison_90 rfl ?_
  refine wp_callV (As := []) (S := []) (b' := (0, 0)) (b := (0, 0)) dX11_parseComparison_91 MX11_375 (ka hF 293 (by decide)) rfl rfl rfl rfl (Nat.le_of_ble_eq_true rfl) ?_
  exact e1

theorem cF160 {G : Cx} {d : Nat} {m : Mm} {Q : Option Value → Mm → Prop} {s : Nat} (hF : Full G m) (he : fi m 1118 (gB G + 293) = (0 : Int32)) (hz : fi m 1124 (gB G + 293) = nI s) (hs5 : s + 1 < 500) 
    (e1 : Q none (wfi (wai (wai (wfi (wai (wai m (gB G + 306) (2 * s) (13 : Int32)) (gB G + 306) (2 * s + 1) (0 : Int32)) 1124 (gB G + 293) (nI (s + 1))) (gB G + 306) (2 * s + 2) (16 : Int32)) (gB G + 306) (2 * s + 3) (0 : Int32)) 1124 (gB G + 293) (nI (s + 2)))) :
    WP G (d + 16) (0, 0) μX11_parseComparison 94 [.ref (gB G + 293), .int (1 : Int32), .int (13 : Int32)] [] m Q := by
  refine wp_aload_n dX11_parseComparison_94 rfl ?_
  refine wp_iload_n dX11_parseComparison_95 rfl ?_
  refine wp_iconst (0 : Int32) dX11_parseComparison_96 (by decide) ?_
  refine wp_callV (As := [.int (13 : Int32), .int (0 : Int32)]) (S := []) (b' := (0, 0)) (b := (0, 0)) dX11_parseComparison_97 MX11_330 (ka hF 293 (by decide)) rfl rfl rfl rfl (Nat.le_of_ble_eq_true rfl) ?_
  refine WPM.of pX11 (Nat.le_of_ble_eq_true rfl) rfl ?_
  refine wp_aload_n dX11_emit_0 rfl ?_
  refine wp_geti (0 : Int32) dX11_emit_1 fX11_298 (Or.inl rfl) (ka hF 293 (by decide)) he ?_
  refine wp_if_ne 43 dX11_emit_4 (by decide) (fun q => absurd (by decide) q) (fun _ => ?_)
  refine wp_aload_n dX11_emit_7 rfl ?_
  refine wp_getr (gB G + 306) dX11_emit_8 fX11_52 (ka hF 293 (by decide)) (hF.2 _ _) (rra 13 (isK_le (ka hF 293 (by decide))) (fun _ => rfl)) ?_
  refine wp_iconst (2 : Int32) dX11_emit_11 (by decide) ?_
  refine wp_aload_n dX11_emit_12 rfl ?_
  refine wp_geti (nI s) dX11_emit_13 fX11_311 (Or.inl rfl) (ka hF 293 (by decide)) hz ?_
  refine wp_imulv (nI (2 * s)) dX11_emit_16 (nmul (a := 2) (b := s) (by omega)) ?_
  refine wp_iload_n dX11_emit_17 rfl ?_
  refine wp_iastk (n := 1000) (2 * s) dX11_emit_18 (ka hF 306 (by decide)) (la 306) (vin (by omega) (by decide))  (nIc (by omega)) ?_
  have hF1 := Full_wai (gB G + 306) (2 * s) (13 : Int32) hF
  refine wp_aload_n dX11_emit_19 rfl ?_
  refine wp_getr (gB G + 306) dX11_emit_20 fX11_52 (ka hF1 293 (by decide)) (hF1.2 _ _) (rra 13 (isK_le (ka hF1 293 (by decide))) (fun _ => rfl)) ?_
  refine wp_iconst (2 : Int32) dX11_emit_23 (by decide) ?_
  refine wp_aload_n dX11_emit_24 rfl ?_
  refine wp_geti (nI s) dX11_emit_25 fX11_311 (Or.inl rfl) (ka hF1 293 (by decide)) (fi_wai.trans hz) ?_
  refine wp_imulv (nI (2 * s)) dX11_emit_28 (nmul (a := 2) (b := s) (by omega)) ?_
  refine wp_iconst (1 : Int32) dX11_emit_29 (by decide) ?_
  refine wp_iaddv (nI (2 * s + 1)) dX11_emit_30 (nadd (a := 2 * s) (b := 1) (by omega)) ?_
  refine wp_iload_n dX11_emit_31 rfl ?_
  refine wp_iastk (n := 1000) (2 * s + 1) dX11_emit_32 (ka hF1 306 (by decide)) (la 306) (vin (by omega) (by decide))  (nIc (by omega)) ?_
  have hF2 := Full_wai (gB G + 306) (2 * s + 1) (0 : Int32) hF1
  refine wp_aload_n dX11_emit_33 rfl ?_
  refine wp_dup dX11_emit_34 rfl ?_
  refine wp_geti (nI s) dX11_emit_35 fX11_311 (Or.inl rfl) (ka hF2 293 (by decide)) (fi_wai.trans (fi_wai.trans hz)) ?_
  refine wp_iconst (1 : Int32) dX11_emit_38 (by decide) ?_
  refine wp_iaddv (nI (s + 1)) dX11_emit_39 (nadd (a := s) (b := 1) (by omega)) ?_
  refine wp_puti dX11_emit_40 pX11_311 (ka hF2 293 (by decide)) ?_
  have hF3 := Full_wfi 1124 (gB G + 293) (nI (s + 1)) hF2
  refine wp_vret dX11_emit_43 rfl ?_
  show WP G (d + 16) (0, 0) μX11_parseComparison 100 [.ref (gB G + 293), .int (1 : Int32), .int (13 : Int32)] [] (wfi (wai (wai m (gB G + 306) (2 * s) (13 : Int32)) (gB G + 306) (2 * s + 1) (0 : Int32)) 1124 (gB G + 293) (nI (s + 1))) _
  refine wp_iload_n dX11_parseComparison_100 rfl ?_
  refine wp_if_eq 111 dX11_parseComparison_101 (by decide) (fun q => absurd q (by decide)) (fun _ => ?_)
  refine wp_aload_n dX11_parseComparison_104 rfl ?_
  refine wp_bipush (16 : Int32) dX11_parseComparison_105 (by decide) ?_
  refine wp_iconst (0 : Int32) dX11_parseComparison_107 (by decide) ?_
  refine wp_callV (As := [.int (16 : Int32), .int (0 : Int32)]) (S := []) (b' := (0, 0)) (b := (0, 0)) dX11_parseComparison_108 MX11_330 (ka hF3 293 (by decide)) rfl rfl rfl rfl (Nat.le_of_ble_eq_true rfl) ?_
  refine WPM.of pX11 (Nat.le_of_ble_eq_true rfl) rfl ?_
  refine wp_aload_n dX11_emit_0 rfl ?_
  refine wp_geti (0 : Int32) dX11_emit_1 fX11_298 (Or.inl rfl) (ka hF3 293 (by decide)) ((fi_ne (by decide)).trans (fi_wai.trans (fi_wai.trans he))) ?_
  refine wp_if_ne 43 dX11_emit_4 (by decide) (fun q => absurd (by decide) q) (fun _ => ?_)
  refine wp_aload_n dX11_emit_7 rfl ?_
  refine wp_getr (gB G + 306) dX11_emit_8 fX11_52 (ka hF3 293 (by decide)) (hF3.2 _ _) (rra 13 (isK_le (ka hF3 293 (by decide))) (fun _ => rfl)) ?_
  refine wp_iconst (2 : Int32) dX11_emit_11 (by decide) ?_
  refine wp_aload_n dX11_emit_12 rfl ?_
  refine wp_geti (nI (s + 1)) dX11_emit_13 fX11_311 (Or.inl rfl) (ka hF3 293 (by decide)) fi_eq ?_
  refine wp_imulv (nI (2 * s + 2)) dX11_emit_16 (nmul (a := 2) (b := s + 1) (by omega)) ?_
  refine wp_iload_n dX11_emit_17 rfl ?_
  refine wp_iastk (n := 1000) (2 * s + 2) dX11_emit_18 (ka hF3 306 (by decide)) (la 306) (vin (by omega) (by decide))  (nIc (by omega)) ?_
  have hF4 := Full_wai (gB G + 306) (2 * s + 2) (16 : Int32) hF3
  refine wp_aload_n dX11_emit_19 rfl ?_
  refine wp_getr (gB G + 306) dX11_emit_20 fX11_52 (ka hF4 293 (by decide)) (hF4.2 _ _) (rra 13 (isK_le (ka hF4 293 (by decide))) (fun _ => rfl)) ?_
  refine wp_iconst (2 : Int32) dX11_emit_23 (by decide) ?_
  refine wp_aload_n dX11_emit_24 rfl ?_
  refine wp_geti (nI (s + 1)) dX11_emit_25 fX11_311 (Or.inl rfl) (ka hF4 293 (by decide)) (fi_wai.trans fi_eq) ?_
  refine wp_imulv (nI (2 * s + 2)) dX11_emit_28 (nmul (a := 2) (b := s + 1) (by omega)) ?_
  refine wp_iconst (1 : Int32) dX11_emit_29 (by decide) ?_
  refine wp_iaddv (nI (2 * s + 3)) dX11_emit_30 (nadd (a := 2 * s + 2) (b := 1) (by omega)) ?_
  refine wp_iload_n dX11_emit_31 rfl ?_
  refine wp_iastk (n := 1000) (2 * s + 3) dX11_emit_32 (ka hF4 306 (by decide)) (la 306) (vin (by omega) (by decide))  (nIc (by omega)) ?_
  have hF5 := Full_wai (gB G + 306) (2 * s + 3) (0 : Int32) hF4
  refine wp_aload_n dX11_emit_33 rfl ?_
  refine wp_dup dX11_emit_34 rfl ?_
  refine wp_geti (nI (s + 1)) dX11_emit_35 fX11_311 (Or.inl rfl) (ka hF5 293 (by decide)) (fi_wai.trans (fi_wai.trans fi_eq)) ?_
  refine wp_iconst (1 : Int32) dX11_emit_38 (by decide) ?_
  refine wp_iaddv (nI (s + 2)) dX11_emit_39 (nadd (a := s + 1) (b := 1) (by omega)) ?_
  refine wp_puti dX11_emit_40 pX11_311 (ka hF5 293 (by decide)) ?_
  have hF6 := Full_wfi 1124 (gB G + 293) (nI (s + 2)) hF5
  refine wp_vret dX11_emit_43 rfl ?_
  show WP G (d + 16) (0, 0) μX11_parseComparison 111 [.ref (gB G + 293), .int (1 : Int32), .int (13 : Int32)] [] (wfi (wai (wai (wfi (wai (wai m (gB G + 306) (2 * s) (13 : Int32)) (gB G + 306) (2 * s + 1) (0 : Int32)) 1124 (gB G + 293) (nI (s + 1))) (gB G + 306) (2 * s + 2) (16 : Int32)) (gB G + 306) (2 * s + 3) (0 : Int32)) 1124 (gB G + 293) (nI (s + 2))) _
  exact wp_vret dX11_parseComparison_111 rfl (e1)

theorem cG160 {G : Cx} {d : Nat} {m : Mm} {Q : Option Value → Mm → Prop} {c : Int32} (hF : Full G m) (he : fi m 1118 (gB G + 293) = c) (hc : ¬ c = 0) 
    (e1 : Q none m) :
    WP G (d + 16) (0, 0) μX11_parseComparison 94 [.ref (gB G + 293), .int (1 : Int32), .int (13 : Int32)] [] m Q := by
  refine wp_aload_n dX11_parseComparison_94 rfl ?_
  refine wp_iload_n dX11_parseComparison_95 rfl ?_
  refine wp_iconst (0 : Int32) dX11_parseComparison_96 (by decide) ?_
  refine wp_callV (As := [.int (13 : Int32), .int (0 : Int32)]) (S := []) (b' := (0, 0)) (b := (0, 0)) dX11_parseComparison_97 MX11_330 (ka hF 293 (by decide)) rfl rfl rfl rfl (Nat.le_of_ble_eq_true rfl) ?_
  refine WPM.of pX11 (Nat.le_of_ble_eq_true rfl) rfl ?_
  refine wp_aload_n dX11_emit_0 rfl ?_
  refine wp_geti c dX11_emit_1 fX11_298 (Or.inl rfl) (ka hF 293 (by decide)) he ?_
  refine wp_if_ne 43 dX11_emit_4 (by decide) (fun _ => ?_) (fun q => absurd q hc)
  refine wp_vret dX11_emit_43 rfl ?_
  show WP G (d + 16) (0, 0) μX11_parseComparison 100 [.ref (gB G + 293), .int (1 : Int32), .int (13 : Int32)] [] m _
  refine wp_iload_n dX11_parseComparison_100 rfl ?_
  refine wp_if_eq 111 dX11_parseComparison_101 (by decide) (fun q => absurd q (by decide)) (fun _ => ?_)
  refine wp_aload_n dX11_parseComparison_104 rfl ?_
  refine wp_bipush (16 : Int32) dX11_parseComparison_105 (by decide) ?_
  refine wp_iconst (0 : Int32) dX11_parseComparison_107 (by decide) ?_
  refine wp_callV (As := [.int (16 : Int32), .int (0 : Int32)]) (S := []) (b' := (0, 0)) (b := (0, 0)) dX11_parseComparison_108 MX11_330 (ka hF 293 (by decide)) rfl rfl rfl rfl (Nat.le_of_ble_eq_true rfl) ?_
  refine WPM.of pX11 (Nat.le_of_ble_eq_true rfl) rfl ?_
  refine wp_aload_n dX11_emit_0 rfl ?_
  refine wp_geti c dX11_emit_1 fX11_298 (Or.inl rfl) (ka hF 293 (by decide)) he ?_
  refine wp_if_ne 43 dX11_emit_4 (by decide) (fun _ => ?_) (fun q => absurd q hc)
  refine wp_vret dX11_emit_43 rfl ?_
  show WP G (d + 16) (0, 0) μX11_parseComparison 111 [.ref (gB G + 293), .int (1 : Int32), .int (13 : Int32)] [] m _
  exact wp_vret dX11_parseComparison_111 rfl (e1)

theorem cD162 {G : Cx} {d : Nat} {m : Mm} {Q : Option Value → Mm → Prop}  (hF : Full G m) (he : fi m 1118 (gB G + 293) = (0 : Int32)) (hy : fi m 1115 (gB G + 293) = (62 : Int32)) 
    (e1 : WPM G (d + 15) (0, 0) μX11_advance [.ref (gB G + 293)] m (fun r' m' => WP G (d + 16) (0, 0) μX11_parseComparison 83 [.ref (gB G + 293), .int (1 : Int32), .int (14 : Int32)] (r'.toList ++ []) m' Q)) :
    WP G (d + 16) (0, 0) μX11_parseComparison 20 [.ref (gB G + 293), .int (1 : Int32), lvU] [] m Q := by
  refine wp_aload_n dX11_parseComparison_20 rfl ?_
  refine wp_geti (62 : Int32) dX11_parseComparison_21 fX11_269 (Or.inl rfl) (ka hF 293 (by decide)) hy ?_
  refine wp_bipush (60 : Int32) dX11_parseComparison_24 (by decide) ?_
  refine wp_icmp_ne 34 dX11_parseComparison_26 (by decide) (fun _ => ?_) (fun q => absurd q (by decide))
  refine wp_aload_n dX11_parseComparison_34 rfl ?_
  refine wp_geti (62 : Int32) dX11_parseComparison_35 fX11_269 (Or.inl rfl) (ka hF 293 (by decide)) hy ?_
  refine wp_bipush (62 : Int32) dX11_parseComparison_38 (by decide) ?_
  refine wp_icmp_ne 48 dX11_parseComparison_40 (by decide) (fun q => absurd (by decide) q) (fun _ => ?_)
  refine wp_bipush (14 : Int32) dX11_parseComparison_43 (by decide) ?_
  refine wp_goto 63 dX11_parseComparison_45 (by decide) ?_
  refine wp_istore_n dX11_parseComparison_63 (by decide) rfl ?_
  refine wp_aload_n dX11_parseComparison_64 rfl ?_
  refine wp_iload_n dX11_parseComparison_65 rfl ?_
  refine wp_iconst (-1 : Int32) dX11_parseComparison_66 (by decide) ?_
  refine wp_icmp_eq 74 dX11_parseComparison_67 (by decide) (fun q => absurd q (by decide)) (fun _ => ?_)
  refine wp_iconst (1 : Int32) dX11_parseComparison_70 (by decide) ?_
  refine wp_goto 75 dX11_parseComparison_71 (by decide) ?_
  refine wp_iconst (1 : Int32) dX11_parseComparison_75 (by decide) ?_
  refine wp_callV (As := [.int (1 : Int32), .int (1 : Int32)]) (S := []) (b' := (0, 0)) (b := (0, 0)) dX11_parseComparison_76 MX11_304 (ka hF 293 (by decide)) rfl rfl rfl rfl (Nat.le_of_ble_eq_true rfl) ?_
  refine WPM.of pX11 (Nat.le_of_ble_eq_true rfl) rfl ?_
  refine wp_iload_n dX11_require_0 rfl ?_
  refine wp_if_ne 24 dX11_require_1 (by decide) (fun _ => ?_) (fun q => absurd q (by decide))
  refine wp_vret dX11_require_24 rfl ?_
  show WP G (d + 16) (0, 0) μX11_parseComparison 79 [.ref (gB G + 293), .int (1 : Int32), .int (14 : Int32)] [] m _
  refine wp_aload_n dX11_parseComparison_79 rfl ?_
  refine wp_callV (As := []) (S := []) (b' := (0, 0)) (b := (0, 0)) dX11_parseComparison_80 MX11_308 (ka hF 293 (by decide)) rfl rfl rfl rfl (Nat.le_of_ble_eq_true rfl) ?_
  exact e1

theorem cE162 {G : Cx} {d : Nat} {m : Mm} {Q : Option Value → Mm → Prop}  (hF : Full G m) (he : fi m 1118 (gB G + 293) = (0 : Int32)) 
    (e1 : WPM G (d + 15) (0, 0) μX11_parseSum [.ref (gB G + 293)] m (fun r' m' => WP G (d + 16) (0, 0) μX11_parseComparison 94 [.ref (gB G + 293), .int (1 : Int32), .int (14 : Int32)] (r'.toList ++ []) m' Q)) :
    WP G (d + 16) (0, 0) μX11_parseComparison 83 [.ref (gB G + 293), .int (1 : Int32), .int (14 : Int32)] [] m Q := by
  refine wp_aload_n dX11_parseComparison_83 rfl ?_
  refine wp_geti (0 : Int32) dX11_parseComparison_84 fX11_298 (Or.inl rfl) (ka hF 293 (by decide)) he ?_
  refine wp_if_ne 94 dX11_parseComparison_87 (by decide) (fun q => absurd (by decide) q) (fun _ => ?_)
  refine wp_aload_n dX11_parseComparison_90 rfl ?_
  refine wp_callV (As := []) (S := []) (b' := (0, 0)) (b := (0, 0)) dX11_parseComparison_91 MX11_375 (ka hF 293 (by decide)) rfl rfl rfl rfl (Nat.le_of_ble_eq_true rfl) ?_
  exact e1

theorem cF162 {G : Cx} {d : Nat} {m : Mm} {Q : Option Value → Mm → Prop} {s : Nat} (hF : Full G m) (he : fi m 1118 (gB G + 293) = (0 : Int32)) (hz : fi m 1124 (gB G + 293) = nI s) (hs5 : s + 1 < 500) 
    (e1 : Q none (wfi (wai (wai (wfi (wai (wai m (gB G + 306) (2 * s) (14 : Int32)) (gB G + 306) (2 * s + 1) (0 : Int32)) 1124 (gB G + 293) (nI (s + 1))) (gB G + 306) (2 * s + 2) (16 : Int32)) (gB G + 306) (2 * s + 3) (0 : Int32)) 1124 (gB G + 293) (nI (s + 2)))) :
    WP G (d + 16) (0, 0) μX11_parseComparison 94 [.ref (gB G + 293), .int (1 : Int32), .int (14 : Int32)] [] m Q := by
  refine wp_aload_n dX11_parseComparison_94 rfl ?_
  refine wp_iload_n dX11_parseComparison_95 rfl ?_
  refine wp_iconst (0 : Int32) dX11_parseComparison_96 (by decide) ?_
  refine wp_callV (As := [.int (14 : Int32), .int (0 : Int32)]) (S := []) (b' := (0, 0)) (b := (0, 0)) dX11_parseComparison_97 MX11_330 (ka hF 293 (by decide)) rfl rfl rfl rfl (Nat.le_of_ble_eq_true rfl) ?_
  refine WPM.of pX11 (Nat.le_of_ble_eq_true rfl) rfl ?_
  refine wp_aload_n dX11_emit_0 rfl ?_
  refine wp_geti (0 : Int32) dX11_emit_1 fX11_298 (Or.inl rfl) (ka hF 293 (by decide)) he ?_
  refine wp_if_ne 43 dX11_emit_4 (by decide) (fun q => absurd (by decide) q) (fun _ => ?_)
  refine wp_aload_n dX11_emit_7 rfl ?_
  refine wp_getr (gB G + 306) dX11_emit_8 fX11_52 (ka hF 293 (by decide)) (hF.2 _ _) (rra 13 (isK_le (ka hF 293 (by decide))) (fun _ => rfl)) ?_
  refine wp_iconst (2 : Int32) dX11_emit_11 (by decide) ?_
  refine wp_aload_n dX11_emit_12 rfl ?_
  refine wp_geti (nI s) dX11_emit_13 fX11_311 (Or.inl rfl) (ka hF 293 (by decide)) hz ?_
  refine wp_imulv (nI (2 * s)) dX11_emit_16 (nmul (a := 2) (b := s) (by omega)) ?_
  refine wp_iload_n dX11_emit_17 rfl ?_
  refine wp_iastk (n := 1000) (2 * s) dX11_emit_18 (ka hF 306 (by decide)) (la 306) (vin (by omega) (by decide))  (nIc (by omega)) ?_
  have hF1 := Full_wai (gB G + 306) (2 * s) (14 : Int32) hF
  refine wp_aload_n dX11_emit_19 rfl ?_
  refine wp_getr (gB G + 306) dX11_emit_20 fX11_52 (ka hF1 293 (by decide)) (hF1.2 _ _) (rra 13 (isK_le (ka hF1 293 (by decide))) (fun _ => rfl)) ?_
  refine wp_iconst (2 : Int32) dX11_emit_23 (by decide) ?_
  refine wp_aload_n dX11_emit_24 rfl ?_
  refine wp_geti (nI s) dX11_emit_25 fX11_311 (Or.inl rfl) (ka hF1 293 (by decide)) (fi_wai.trans hz) ?_
  refine wp_imulv (nI (2 * s)) dX11_emit_28 (nmul (a := 2) (b := s) (by omega)) ?_
  refine wp_iconst (1 : Int32) dX11_emit_29 (by decide) ?_
  refine wp_iaddv (nI (2 * s + 1)) dX11_emit_30 (nadd (a := 2 * s) (b := 1) (by omega)) ?_
  refine wp_iload_n dX11_emit_31 rfl ?_
  refine wp_iastk (n := 1000) (2 * s + 1) dX11_emit_32 (ka hF1 306 (by decide)) (la 306) (vin (by omega) (by decide))  (nIc (by omega)) ?_
  have hF2 := Full_wai (gB G + 306) (2 * s + 1) (0 : Int32) hF1
  refine wp_aload_n dX11_emit_33 rfl ?_
  refine wp_dup dX11_emit_34 rfl ?_
  refine wp_geti (nI s) dX11_emit_35 fX11_311 (Or.inl rfl) (ka hF2 293 (by decide)) (fi_wai.trans (fi_wai.trans hz)) ?_
  refine wp_iconst (1 : Int32) dX11_emit_38 (by decide) ?_
  refine wp_iaddv (nI (s + 1)) dX11_emit_39 (nadd (a := s) (b := 1) (by omega)) ?_
  refine wp_puti dX11_emit_40 pX11_311 (ka hF2 293 (by decide)) ?_
  have hF3 := Full_wfi 1124 (gB G + 293) (nI (s + 1)) hF2
  refine wp_vret dX11_emit_43 rfl ?_
  show WP G (d + 16) (0, 0) μX11_parseComparison 100 [.ref (gB G + 293), .int (1 : Int32), .int (14 : Int32)] [] (wfi (wai (wai m (gB G + 306) (2 * s) (14 : Int32)) (gB G + 306) (2 * s + 1) (0 : Int32)) 1124 (gB G + 293) (nI (s + 1))) _
  refine wp_iload_n dX11_parseComparison_100 rfl ?_
  refine wp_if_eq 111 dX11_parseComparison_101 (by decide) (fun q => absurd q (by decide)) (fun _ => ?_)
  refine wp_aload_n dX11_parseComparison_104 rfl ?_
  refine wp_bipush (16 : Int32) dX11_parseComparison_105 (by decide) ?_
  refine wp_iconst (0 : Int32) dX11_parseComparison_107 (by decide) ?_
  refine wp_callV (As := [.int (16 : Int32), .int (0 : Int32)]) (S := []) (b' := (0, 0)) (b := (0, 0)) dX11_parseComparison_108 MX11_330 (ka hF3 293 (by decide)) rfl rfl rfl rfl (Nat.le_of_ble_eq_true rfl) ?_
  refine WPM.of pX11 (Nat.le_of_ble_eq_true rfl) rfl ?_
  refine wp_aload_n dX11_emit_0 rfl ?_
  refine wp_geti (0 : Int32) dX11_emit_1 fX11_298 (Or.inl rfl) (ka hF3 293 (by decide)) ((fi_ne (by decide)).trans (fi_wai.trans (fi_wai.trans he))) ?_
  refine wp_if_ne 43 dX11_emit_4 (by decide) (fun q => absurd (by decide) q) (fun _ => ?_)
  refine wp_aload_n dX11_emit_7 rfl ?_
  refine wp_getr (gB G + 306) dX11_emit_8 fX11_52 (ka hF3 293 (by decide)) (hF3.2 _ _) (rra 13 (isK_le (ka hF3 293 (by decide))) (fun _ => rfl)) ?_
  refine wp_iconst (2 : Int32) dX11_emit_11 (by decide) ?_
  refine wp_aload_n dX11_emit_12 rfl ?_
  refine wp_geti (nI (s + 1)) dX11_emit_13 fX11_311 (Or.inl rfl) (ka hF3 293 (by decide)) fi_eq ?_
  refine wp_imulv (nI (2 * s + 2)) dX11_emit_16 (nmul (a := 2) (b := s + 1) (by omega)) ?_
  refine wp_iload_n dX11_emit_17 rfl ?_
  refine wp_iastk (n := 1000) (2 * s + 2) dX11_emit_18 (ka hF3 306 (by decide)) (la 306) (vin (by omega) (by decide))  (nIc (by omega)) ?_
  have hF4 := Full_wai (gB G + 306) (2 * s + 2) (16 : Int32) hF3
  refine wp_aload_n dX11_emit_19 rfl ?_
  refine wp_getr (gB G + 306) dX11_emit_20 fX11_52 (ka hF4 293 (by decide)) (hF4.2 _ _) (rra 13 (isK_le (ka hF4 293 (by decide))) (fun _ => rfl)) ?_
  refine wp_iconst (2 : Int32) dX11_emit_23 (by decide) ?_
  refine wp_aload_n dX11_emit_24 rfl ?_
  refine wp_geti (nI (s + 1)) dX11_emit_25 fX11_311 (Or.inl rfl) (ka hF4 293 (by decide)) (fi_wai.trans fi_eq) ?_
  refine wp_imulv (nI (2 * s + 2)) dX11_emit_28 (nmul (a := 2) (b := s + 1) (by omega)) ?_
  refine wp_iconst (1 : Int32) dX11_emit_29 (by decide) ?_
  refine wp_iaddv (nI (2 * s + 3)) dX11_emit_30 (nadd (a := 2 * s + 2) (b := 1) (by omega)) ?_
  refine wp_iload_n dX11_emit_31 rfl ?_
  refine wp_iastk (n := 1000) (2 * s + 3) dX11_emit_32 (ka hF4 306 (by decide)) (la 306) (vin (by omega) (by decide))  (nIc (by omega)) ?_
  have hF5 := Full_wai (gB G + 306) (2 * s + 3) (0 : Int32) hF4
  refine wp_aload_n dX11_emit_33 rfl ?_
  refine wp_dup dX11_emit_34 rfl ?_
  refine wp_geti (nI (s + 1)) dX11_emit_35 fX11_311 (Or.inl rfl) (ka hF5 293 (by decide)) (fi_wai.trans (fi_wai.trans fi_eq)) ?_
  refine wp_iconst (1 : Int32) dX11_emit_38 (by decide) ?_
  refine wp_iaddv (nI (s + 2)) dX11_emit_39 (nadd (a := s + 1) (b := 1) (by omega)) ?_
  refine wp_puti dX11_emit_40 pX11_311 (ka hF5 293 (by decide)) ?_
  have hF6 := Full_wfi 1124 (gB G + 293) (nI (s + 2)) hF5
  refine wp_vret dX11_emit_43 rfl ?_
  show WP G (d + 16) (0, 0) μX11_parseComparison 111 [.ref (gB G + 293), .int (1 : Int32), .int (14 : Int32)] [] (wfi (wai (wai (wfi (wai (wai m (gB G + 306) (2 * s) (14 : Int32)) (gB G + 306) (2 * s + 1) (0 : Int32)) 1124 (gB G + 293) (nI (s + 1))) (gB G + 306) (2 * s + 2) (16 : Int32)) (gB G + 306) (2 * s + 3) (0 : Int32)) 1124 (gB G + 293) (nI (s + 2))) _
  exact wp_vret dX11_parseComparison_111 rfl (e1)

theorem cG162 {G : Cx} {d : Nat} {m : Mm} {Q : Option Value → Mm → Prop} {c : Int32} (hF : Full G m) (he : fi m 1118 (gB G + 293) = c) (hc : ¬ c = 0) 
    (e1 : Q none m) :
    WP G (d + 16) (0, 0) μX11_parseComparison 94 [.ref (gB G + 293), .int (1 : Int32), .int (14 : Int32)] [] m Q := by
  refine wp_aload_n dX11_parseComparison_94 rfl ?_
  refine wp_iload_n dX11_parseComparison_95 rfl ?_
  refine wp_iconst (0 : Int32) dX11_parseComparison_96 (by decide) ?_
  refine wp_callV (As := [.int (14 : Int32), .int (0 : Int32)]) (S := []) (b' := (0, 0)) (b := (0, 0)) dX11_parseComparison_97 MX11_330 (ka hF 293 (by decide)) rfl rfl rfl rfl (Nat.le_of_ble_eq_true rfl) ?_
  refine WPM.of pX11 (Nat.le_of_ble_eq_true rfl) rfl ?_
  refine wp_aload_n dX11_emit_0 rfl ?_
  refine wp_geti c dX11_emit_1 fX11_298 (Or.inl rfl) (ka hF 293 (by decide)) he ?_
  refine wp_if_ne 43 dX11_emit_4 (by decide) (fun _ => ?_) (fun q => absurd q hc)
  refine wp_vret dX11_emit_43 rfl ?_
  show WP G (d + 16) (0, 0) μX11_parseComparison 100 [.ref (gB G + 293), .int (1 : Int32), .int (14 : Int32)] [] m _
  refine wp_iload_n dX11_parseComparison_100 rfl ?_
  refine wp_if_eq 111 dX11_parseComparison_101 (by decide) (fun q => absurd q (by decide)) (fun _ => ?_)
  refine wp_aload_n dX11_parseComparison_104 rfl ?_
  refine wp_bipush (16 : Int32) dX11_parseComparison_105 (by decide) ?_
  refine wp_iconst (0 : Int32) dX11_parseComparison_107 (by decide) ?_
  refine wp_callV (As := [.int (16 : Int32), .int (0 : Int32)]) (S := []) (b' := (0, 0)) (b := (0, 0)) dX11_parseComparison_108 MX11_330 (ka hF 293 (by decide)) rfl rfl rfl rfl (Nat.le_of_ble_eq_true rfl) ?_
  refine WPM.of pX11 (Nat.le_of_ble_eq_true rfl) rfl ?_
  refine wp_aload_n dX11_emit_0 rfl ?_
  refine wp_geti c dX11_emit_1 fX11_298 (Or.inl rfl) (ka hF 293 (by decide)) he ?_
  refine wp_if_ne 43 dX11_emit_4 (by decide) (fun _ => ?_) (fun q => absurd q hc)
  refine wp_vret dX11_emit_43 rfl ?_
  show WP G (d + 16) (0, 0) μX11_parseComparison 111 [.ref (gB G + 293), .int (1 : Int32), .int (14 : Int32)] [] m _
  exact wp_vret dX11_parseComparison_111 rfl (e1)

theorem cD161 {G : Cx} {d : Nat} {m : Mm} {Q : Option Value → Mm → Prop}  (hF : Full G m) (he : fi m 1118 (gB G + 293) = (0 : Int32)) (hy : fi m 1115 (gB G + 293) = (61 : Int32)) 
    (e1 : WPM G (d + 15) (0, 0) μX11_advance [.ref (gB G + 293)] m (fun r' m' => WP G (d + 16) (0, 0) μX11_parseComparison 83 [.ref (gB G + 293), .int (1 : Int32), .int (15 : Int32)] (r'.toList ++ []) m' Q)) :
    WP G (d + 16) (0, 0) μX11_parseComparison 20 [.ref (gB G + 293), .int (1 : Int32), lvU] [] m Q := by
  refine wp_aload_n dX11_parseComparison_20 rfl ?_
  refine wp_geti (61 : Int32) dX11_parseComparison_21 fX11_269 (Or.inl rfl) (ka hF 293 (by decide)) hy ?_
  refine wp_bipush (60 : Int32) dX11_parseComparison_24 (by decide) ?_
  refine wp_icmp_ne 34 dX11_parseComparison_26 (by decide) (fun _ => ?_) (fun q => absurd q (by decide))
  refine wp_aload_n dX11_parseComparison_34 rfl ?_
  refine wp_geti (61 : Int32) dX11_parseComparison_35 fX11_269 (Or.inl rfl) (ka hF 293 (by decide)) hy ?_
  refine wp_bipush (62 : Int32) dX11_parseComparison_38 (by decide) ?_
  refine wp_icmp_ne 48 dX11_parseComparison_40 (by decide) (fun _ => ?_) (fun q => absurd q (by decide))
  refine wp_aload_n dX11_parseComparison_48 rfl ?_
  refine wp_geti (61 : Int32) dX11_parseComparison_49 fX11_269 (Or.inl rfl) (ka hF 293 (by decide)) hy ?_
  refine wp_bipush (61 : Int32) dX11_parseComparison_52 (by decide) ?_
  refine wp_icmp_ne 62 dX11_parseComparison_54 (by decide) (fun q => absurd (by decide) q) (fun _ => ?_)
  refine wp_bipush (15 : Int32) dX11_parseComparison_57 (by decide) ?_
  refine wp_goto 63 dX11_parseComparison_59 (by decide) ?_
  refine wp_istore_n dX11_parseComparison_63 (by decide) rfl ?_
  refine wp_aload_n dX11_parseComparison_64 rfl ?_
  refine wp_iload_n dX11_parseComparison_65 rfl ?_
  refine wp_iconst (-1 : Int32) dX11_parseComparison_66 (by decide) ?_
  refine wp_icmp_eq 74 dX11_parseComparison_67 (by decide) (fun q => absurd q (by decide)) (fun _ => ?_)
  refine wp_iconst (1 : Int32) dX11_parseComparison_70 (by decide) ?_
  refine wp_goto 75 dX11_parseComparison_71 (by decide) ?_
  refine wp_iconst (1 : Int32) dX11_parseComparison_75 (by decide) ?_
  refine wp_callV (As := [.int (1 : Int32), .int (1 : Int32)]) (S := []) (b' := (0, 0)) (b := (0, 0)) dX11_parseComparison_76 MX11_304 (ka hF 293 (by decide)) rfl rfl rfl rfl (Nat.le_of_ble_eq_true rfl) ?_
  refine WPM.of pX11 (Nat.le_of_ble_eq_true rfl) rfl ?_
  refine wp_iload_n dX11_require_0 rfl ?_
  refine wp_if_ne 24 dX11_require_1 (by decide) (fun _ => ?_) (fun q => absurd q (by decide))
  refine wp_vret dX11_require_24 rfl ?_
  show WP G (d + 16) (0, 0) μX11_parseComparison 79 [.ref (gB G + 293), .int (1 : Int32), .int (15 : Int32)] [] m _
  refine wp_aload_n dX11_parseComparison_79 rfl ?_
  refine wp_callV (As := []) (S := []) (b' := (0, 0)) (b := (0, 0)) dX11_parseComparison_80 MX11_308 (ka hF 293 (by decide)) rfl rfl rfl rfl (Nat.le_of_ble_eq_true rfl) ?_
  exact e1

theorem cE161 {G : Cx} {d : Nat} {m : Mm} {Q : Option Value → Mm → Prop}  (hF : Full G m) (he : fi m 1118 (gB G + 293) = (0 : Int32)) 
    (e1 : WPM G (d + 15) (0, 0) μX11_parseSum [.ref (gB G + 293)] m (fun r' m' => WP G (d + 16) (0, 0) μX11_parseComparison 94 [.ref (gB G + 293), .int (1 : Int32), .int (15 : Int32)] (r'.toList ++ []) m' Q)) :
    WP G (d + 16) (0, 0) μX11_parseComparison 83 [.ref (gB G + 293), .int (1 : Int32), .int (15 : Int32)] [] m Q := by
  refine wp_aload_n dX11_parseComparison_83 rfl ?_
  refine wp_geti (0 : Int32) dX11_parseComparison_84 fX11_298 (Or.inl rfl) (ka hF 293 (by decide)) he ?_
  refine wp_if_ne 94 dX11_parseComparison_87 (by decide) (fun q => absurd (by decide) q) (fun _ => ?_)
  refine wp_aload_n dX11_parseComparison_90 rfl ?_
  refine wp_callV (As := []) (S := []) (b' := (0, 0)) (b := (0, 0)) dX11_parseComparison_91 MX11_375 (ka hF 293 (by decide)) rfl rfl rfl rfl (Nat.le_of_ble_eq_true rfl) ?_
  exact e1

theorem cF161 {G : Cx} {d : Nat} {m : Mm} {Q : Option Value → Mm → Prop} {s : Nat} (hF : Full G m) (he : fi m 1118 (gB G + 293) = (0 : Int32)) (hz : fi m 1124 (gB G + 293) = nI s) (hs5 : s + 1 < 500) 
    (e1 : Q none (wfi (wai (wai (wfi (wai (wai m (gB G + 306) (2 * s) (15 : Int32)) (gB G + 306) (2 * s + 1) (0 : Int32)) 1124 (gB G + 293) (nI (s + 1))) (gB G + 306) (2 * s + 2) (16 : Int32)) (gB G + 306) (2 * s + 3) (0 : Int32)) 1124 (gB G + 293) (nI (s + 2)))) :
    WP G (d + 16) (0, 0) μX11_parseComparison 94 [.ref (gB G + 293), .int (1 : Int32), .int (15 : Int32)] [] m Q := by
  refine wp_aload_n dX11_parseComparison_94 rfl ?_
  refine wp_iload_n dX11_parseComparison_95 rfl ?_
  refine wp_iconst (0 : Int32) dX11_parseComparison_96 (by decide) ?_
  refine wp_callV (As := [.int (15 : Int32), .int (0 : Int32)]) (S := []) (b' := (0, 0)) (b := (0, 0)) dX11_parseComparison_97 MX11_330 (ka hF 293 (by decide)) rfl rfl rfl rfl (Nat.le_of_ble_eq_true rfl) ?_
  refine WPM.of pX11 (Nat.le_of_ble_eq_true rfl) rfl ?_
  refine wp_aload_n dX11_emit_0 rfl ?_
  refine wp_geti (0 : Int32) dX11_emit_1 fX11_298 (Or.inl rfl) (ka hF 293 (by decide)) he ?_
  refine wp_if_ne 43 dX11_emit_4 (by decide) (fun q => absurd (by decide) q) (fun _ => ?_)
  refine wp_aload_n dX11_emit_7 rfl ?_
  refine wp_getr (gB G + 306) dX11_emit_8 fX11_52 (ka hF 293 (by decide)) (hF.2 _ _) (rra 13 (isK_le (ka hF 293 (by decide))) (fun _ => rfl)) ?_
  refine wp_iconst (2 : Int32) dX11_emit_11 (by decide) ?_
  refine wp_aload_n dX11_emit_12 rfl ?_
  refine wp_geti (nI s) dX11_emit_13 fX11_311 (Or.inl rfl) (ka hF 293 (by decide)) hz ?_
  refine wp_imulv (nI (2 * s)) dX11_emit_16 (nmul (a := 2) (b := s) (by omega)) ?_
  refine wp_iload_n dX11_emit_17 rfl ?_
  refine wp_iastk (n := 1000) (2 * s) dX11_emit_18 (ka hF 306 (by decide)) (la 306) (vin (by omega) (by decide))  (nIc (by omega)) ?_
  have hF1 := Full_wai (gB G + 306) (2 * s) (15 : Int32) hF
  refine wp_aload_n dX11_emit_19 rfl ?_
  refine wp_getr (gB G + 306) dX11_emit_20 fX11_52 (ka hF1 293 (by decide)) (hF1.2 _ _) (rra 13 (isK_le (ka hF1 293 (by decide))) (fun _ => rfl)) ?_
  refine wp_iconst (2 : Int32) dX11_emit_23 (by decide) ?_
  refine wp_aload_n dX11_emit_24 rfl ?_
  refine wp_geti (nI s) dX11_emit_25 fX11_311 (Or.inl rfl) (ka hF1 293 (by decide)) (fi_wai.trans hz) ?_
  refine wp_imulv (nI (2 * s)) dX11_emit_28 (nmul (a := 2) (b := s) (by omega)) ?_
  refine wp_iconst (1 : Int32) dX11_emit_29 (by decide) ?_
  refine wp_iaddv (nI (2 * s + 1)) dX11_emit_30 (nadd (a := 2 * s) (b := 1) (by omega)) ?_
  refine wp_iload_n dX11_emit_31 rfl ?_
  refine wp_iastk (n := 1000) (2 * s + 1) dX11_emit_32 (ka hF1 306 (by decide)) (la 306) (vin (by omega) (by decide))  (nIc (by omega)) ?_
  have hF2 := Full_wai (gB G + 306) (2 * s + 1) (0 : Int32) hF1
  refine wp_aload_n dX11_emit_33 rfl ?_
  refine wp_dup dX11_emit_34 rfl ?_
  refine wp_geti (nI s) dX11_emit_35 fX11_311 (Or.inl rfl) (ka hF2 293 (by decide)) (fi_wai.trans (fi_wai.trans hz)) ?_
  refine wp_iconst (1 : Int32) dX11_emit_38 (by decide) ?_
  refine wp_iaddv (nI (s + 1)) dX11_emit_39 (nadd (a := s) (b := 1) (by omega)) ?_
  refine wp_puti dX11_emit_40 pX11_311 (ka hF2 293 (by decide)) ?_
  have hF3 := Full_wfi 1124 (gB G + 293) (nI (s + 1)) hF2
  refine wp_vret dX11_emit_43 rfl ?_
  show WP G (d + 16) (0, 0) μX11_parseComparison 100 [.ref (gB G + 293), .int (1 : Int32), .int (15 : Int32)] [] (wfi (wai (wai m (gB G + 306) (2 * s) (15 : Int32)) (gB G + 306) (2 * s + 1) (0 : Int32)) 1124 (gB G + 293) (nI (s + 1))) _
  refine wp_iload_n dX11_parseComparison_100 rfl ?_
  refine wp_if_eq 111 dX11_parseComparison_101 (by decide) (fun q => absurd q (by decide)) (fun _ => ?_)
  refine wp_aload_n dX11_parseComparison_104 rfl ?_
  refine wp_bipush (16 : Int32) dX11_parseComparison_105 (by decide) ?_
  refine wp_iconst (0 : Int32) dX11_parseComparison_107 (by decide) ?_
  refine wp_callV (As := [.int (16 : Int32), .int (0 : Int32)]) (S := []) (b' := (0, 0)) (b := (0, 0)) dX11_parseComparison_108 MX11_330 (ka hF3 293 (by decide)) rfl rfl rfl rfl (Nat.le_of_ble_eq_true rfl) ?_
  refine WPM.of pX11 (Nat.le_of_ble_eq_true rfl) rfl ?_
  refine wp_aload_n dX11_emit_0 rfl ?_
  refine wp_geti (0 : Int32) dX11_emit_1 fX11_298 (Or.inl rfl) (ka hF3 293 (by decide)) ((fi_ne (by decide)).trans (fi_wai.trans (fi_wai.trans he))) ?_
  refine wp_if_ne 43 dX11_emit_4 (by decide) (fun q => absurd (by decide) q) (fun _ => ?_)
  refine wp_aload_n dX11_emit_7 rfl ?_
  refine wp_getr (gB G + 306) dX11_emit_8 fX11_52 (ka hF3 293 (by decide)) (hF3.2 _ _) (rra 13 (isK_le (ka hF3 293 (by decide))) (fun _ => rfl)) ?_
  refine wp_iconst (2 : Int32) dX11_emit_11 (by decide) ?_
  refine wp_aload_n dX11_emit_12 rfl ?_
  refine wp_geti (nI (s + 1)) dX11_emit_13 fX11_311 (Or.inl rfl) (ka hF3 293 (by decide)) fi_eq ?_
  refine wp_imulv (nI (2 * s + 2)) dX11_emit_16 (nmul (a := 2) (b := s + 1) (by omega)) ?_
  refine wp_iload_n dX11_emit_17 rfl ?_
  refine wp_iastk (n := 1000) (2 * s + 2) dX11_emit_18 (ka hF3 306 (by decide)) (la 306) (vin (by omega) (by decide))  (nIc (by omega)) ?_
  have hF4 := Full_wai (gB G + 306) (2 * s + 2) (16 : Int32) hF3
  refine wp_aload_n dX11_emit_19 rfl ?_
  refine wp_getr (gB G + 306) dX11_emit_20 fX11_52 (ka hF4 293 (by decide)) (hF4.2 _ _) (rra 13 (isK_le (ka hF4 293 (by decide))) (fun _ => rfl)) ?_
  refine wp_iconst (2 : Int32) dX11_emit_23 (by decide) ?_
  refine wp_aload_n dX11_emit_24 rfl ?_
  refine wp_geti (nI (s + 1)) dX11_emit_25 fX11_311 (Or.inl rfl) (ka hF4 293 (by decide)) (fi_wai.trans fi_eq) ?_
  refine wp_imulv (nI (2 * s + 2)) dX11_emit_28 (nmul (a := 2) (b := s + 1) (by omega)) ?_
  refine wp_iconst (1 : Int32) dX11_emit_29 (by decide) ?_
  refine wp_iaddv (nI (2 * s + 3)) dX11_emit_30 (nadd (a := 2 * s + 2) (b := 1) (by omega)) ?_
  refine wp_iload_n dX11_emit_31 rfl ?_
  refine wp_iastk (n := 1000) (2 * s + 3) dX11_emit_32 (ka hF4 306 (by decide)) (la 306) (vin (by omega) (by decide))  (nIc (by omega)) ?_
  have hF5 := Full_wai (gB G + 306) (2 * s + 3) (0 : Int32) hF4
  refine wp_aload_n dX11_emit_33 rfl ?_
  refine wp_dup dX11_emit_34 rfl ?_
  refine wp_geti (nI (s + 1)) dX11_emit_35 fX11_311 (Or.inl rfl) (ka hF5 293 (by decide)) (fi_wai.trans (fi_wai.trans fi_eq)) ?_
  refine wp_iconst (1 : Int32) dX11_emit_38 (by decide) ?_
  refine wp_iaddv (nI (s + 2)) dX11_emit_39 (nadd (a := s + 1) (b := 1) (by omega)) ?_
  refine wp_puti dX11_emit_40 pX11_311 (ka hF5 293 (by decide)) ?_
  have hF6 := Full_wfi 1124 (gB G + 293) (nI (s + 2)) hF5
  refine wp_vret dX11_emit_43 rfl ?_
  show WP G (d + 16) (0, 0) μX11_parseComparison 111 [.ref (gB G + 293), .int (1 : Int32), .int (15 : Int32)] [] (wfi (wai (wai (wfi (wai (wai m (gB G + 306) (2 * s) (15 : Int32)) (gB G + 306) (2 * s + 1) (0 : Int32)) 1124 (gB G + 293) (nI (s + 1))) (gB G + 306) (2 * s + 2) (16 : Int32)) (gB G + 306) (2 * s + 3) (0 : Int32)) 1124 (gB G + 293) (nI (s + 2))) _
  exact wp_vret dX11_parseComparison_111 rfl (e1)

theorem cG161 {G : Cx} {d : Nat} {m : Mm} {Q : Option Value → Mm → Prop} {c : Int32} (hF : Full G m) (he : fi m 1118 (gB G + 293) = c) (hc : ¬ c = 0) 
    (e1 : Q none m) :
    WP G (d + 16) (0, 0) μX11_parseComparison 94 [.ref (gB G + 293), .int (1 : Int32), .int (15 : Int32)] [] m Q := by
  refine wp_aload_n dX11_parseComparison_94 rfl ?_
  refine wp_iload_n dX11_parseComparison_95 rfl ?_
  refine wp_iconst (0 : Int32) dX11_parseComparison_96 (by decide) ?_
  refine wp_callV (As := [.int (15 : Int32), .int (0 : Int32)]) (S := []) (b' := (0, 0)) (b := (0, 0)) dX11_parseComparison_97 MX11_330 (ka hF 293 (by decide)) rfl rfl rfl rfl (Nat.le_of_ble_eq_true rfl) ?_
  refine WPM.of pX11 (Nat.le_of_ble_eq_true rfl) rfl ?_
  refine wp_aload_n dX11_emit_0 rfl ?_
  refine wp_geti c dX11_emit_1 fX11_298 (Or.inl rfl) (ka hF 293 (by decide)) he ?_
  refine wp_if_ne 43 dX11_emit_4 (by decide) (fun _ => ?_) (fun q => absurd q hc)
  refine wp_vret dX11_emit_43 rfl ?_
  show WP G (d + 16) (0, 0) μX11_parseComparison 100 [.ref (gB G + 293), .int (1 : Int32), .int (15 : Int32)] [] m _
  refine wp_iload_n dX11_parseComparison_100 rfl ?_
  refine wp_if_eq 111 dX11_parseComparison_101 (by decide) (fun q => absurd q (by decide)) (fun _ => ?_)
  refine wp_aload_n dX11_parseComparison_104 rfl ?_
  refine wp_bipush (16 : Int32) dX11_parseComparison_105 (by decide) ?_
  refine wp_iconst (0 : Int32) dX11_parseComparison_107 (by decide) ?_
  refine wp_callV (As := [.int (16 : Int32), .int (0 : Int32)]) (S := []) (b' := (0, 0)) (b := (0, 0)) dX11_parseComparison_108 MX11_330 (ka hF 293 (by decide)) rfl rfl rfl rfl (Nat.le_of_ble_eq_true rfl) ?_
  refine WPM.of pX11 (Nat.le_of_ble_eq_true rfl) rfl ?_
  refine wp_aload_n dX11_emit_0 rfl ?_
  refine wp_geti c dX11_emit_1 fX11_298 (Or.inl rfl) (ka hF 293 (by decide)) he ?_
  refine wp_if_ne 43 dX11_emit_4 (by decide) (fun _ => ?_) (fun q => absurd q hc)
  refine wp_vret dX11_emit_43 rfl ?_
  show WP G (d + 16) (0, 0) μX11_parseComparison 111 [.ref (gB G + 293), .int (1 : Int32), .int (15 : Int32)] [] m _
  exact wp_vret dX11_parseComparison_111 rfl (e1)

theorem cX1 {G : Cx} {d : Nat} {m : Mm} {Q : Option Value → Mm → Prop} {y st : Nat} (hF : Full G m) (he : fi m 1118 (gB G + 293) = (0 : Int32)) (hy : fi m 1115 (gB G + 293) = nI y) (hst : fi m 1113 (gB G + 293) = nI st) (hy9 : y < 1000) (h60 : ¬ y = 60) (h62 : ¬ y = 62) (h61 : ¬ y = 61) 
    (e1 : WPM G (d + 15) (0, 0) μX11_advance [.ref (gB G + 293)] (wfi (wfi m 1118 (gB G + 293) (1 : Int32)) 1119 (gB G + 293) (nI st)) (fun r' m' => WP G (d + 16) (0, 0) μX11_parseComparison 83 [.ref (gB G + 293), .int (1 : Int32), .int (-1 : Int32)] (r'.toList ++ []) m' Q)) :
    WP G (d + 16) (0, 0) μX11_parseComparison 20 [.ref (gB G + 293), .int (1 : Int32), lvU] [] m Q := by
  refine wp_aload_n dX11_parseComparison_20 rfl ?_
  refine wp_geti (nI y) dX11_parseComparison_21 fX11_269 (Or.inl rfl) (ka hF 293 (by decide)) hy ?_
  refine wp_bipush (60 : Int32) dX11_parseComparison_24 (by decide) ?_
  refine wp_icmp_ne 34 dX11_parseComparison_26 (by decide) (fun _ => ?_) (fun q => absurd q (fun z => h60 (neq z (by omega) (by omega))))
  refine wp_aload_n dX11_parseComparison_34 rfl ?_
  refine wp_geti (nI y) dX11_parseComparison_35 fX11_269 (Or.inl rfl) (ka hF 293 (by decide)) hy ?_
  refine wp_bipush (62 : Int32) dX11_parseComparison_38 (by decide) ?_
  refine wp_icmp_ne 48 dX11_parseComparison_40 (by decide) (fun _ => ?_) (fun q => absurd q (fun z => h62 (neq z (by omega) (by omega))))
  refine wp_aload_n dX11_parseComparison_48 rfl ?_
  refine wp_geti (nI y) dX11_parseComparison_49 fX11_269 (Or.inl rfl) (ka hF 293 (by decide)) hy ?_
  refine wp_bipush (61 : Int32) dX11_parseComparison_52 (by decide) ?_
  refine wp_icmp_ne 62 dX11_parseComparison_54 (by decide) (fun _ => ?_) (fun q => absurd q (fun z => h61 (neq z (by omega) (by omega))))
  refine wp_iconst (-1 : Int32) dX11_parseComparison_62 (by decide) ?_
  refine wp_istore_n dX11_parseComparison_63 (by decide) rfl ?_
  refine wp_aload_n dX11_parseComparison_64 rfl ?_
  refine wp_iload_n dX11_parseComparison_65 rfl ?_
  refine wp_iconst (-1 : Int32) dX11_parseComparison_66 (by decide) ?_
  refine wp_icmp_eq 74 dX11_parseComparison_67 (by decide) (fun _ => ?_) (fun q => absurd (by decide) q)
  refine wp_iconst (0 : Int32) dX11_parseComparison_74 (by decide) ?_
  refine wp_iconst (1 : Int32) dX11_parseComparison_75 (by decide) ?_
  refine wp_callV (As := [.int (0 : Int32), .int (1 : Int32)]) (S := []) (b' := (0, 0)) (b := (0, 0)) dX11_parseComparison_76 MX11_304 (ka hF 293 (by decide)) rfl rfl rfl rfl (Nat.le_of_ble_eq_true rfl) ?_
  refine WPM.of pX11 (Nat.le_of_ble_eq_true rfl) rfl ?_
  refine wp_iload_n dX11_require_0 rfl ?_
  refine wp_if_ne 24 dX11_require_1 (by decide) (fun q => absurd (by decide) q) (fun _ => ?_)
  refine wp_aload_n dX11_require_4 rfl ?_
  refine wp_geti (0 : Int32) dX11_require_5 fX11_298 (Or.inl rfl) (ka hF 293 (by decide)) he ?_
  refine wp_if_ne 24 dX11_require_8 (by decide) (fun q => absurd (by decide) q) (fun _ => ?_)
  refine wp_aload_n dX11_require_11 rfl ?_
  refine wp_iload_n dX11_require_12 rfl ?_
  refine wp_puti dX11_require_13 pX11_298 (ka hF 293 (by decide)) ?_
  have hF1 := Full_wfi 1118 (gB G + 293) (1 : Int32) hF
  refine wp_aload_n dX11_require_16 rfl ?_
  refine wp_aload_n dX11_require_17 rfl ?_
  refine wp_geti (nI st) dX11_require_18 fX11_256 (Or.inl rfl) (ka hF1 293 (by decide)) ((fi_ne (by decide)).trans hst) ?_
  refine wp_puti dX11_require_21 pX11_45 (ka hF1 293 (by decide)) ?_
  have hF2 := Full_wfi 1119 (gB G + 293) (nI st) hF1
  refine wp_vret dX11_require_24 rfl ?_
  show WP G (d + 16) (0, 0) μX11_parseComparison 79 [.ref (gB G + 293), .int (1 : Int32), .int (-1 : Int32)] [] (wfi (wfi m 1118 (gB G + 293) (1 : Int32)) 1119 (gB G + 293) (nI st)) _
  refine wp_aload_n dX11_parseComparison_79 rfl ?_
  refine wp_callV (As := []) (S := []) (b' := (0, 0)) (b := (0, 0)) dX11_parseComparison_80 MX11_308 (ka hF2 293 (by decide)) rfl rfl rfl rfl (Nat.le_of_ble_eq_true rfl) ?_
  exact e1

theorem cY1 {G : Cx} {d : Nat} {m : Mm} {Q : Option Value → Mm → Prop} {c : Int32} (hF : Full G m) (he : fi m 1118 (gB G + 293) = c) (hc : ¬ c = 0) 
    (e1 : ¬ (fi m 1115 (gB G + 293)) = (60 : Int32) → ¬ (fi m 1115 (gB G + 293)) = (62 : Int32) → ¬ (fi m 1115 (gB G + 293)) = (61 : Int32) → WPM G (d + 15) (0, 0) μX11_advance [.ref (gB G + 293)] m (fun r' m' => WP G (d + 16) (0, 0) μX11_parseComparison 83 [.ref (gB G + 293), .int (1 : Int32), .int (-1 : Int32)] (r'.toList ++ []) m' Q))
    (e2 : ¬ (fi m 1115 (gB G + 293)) = (60 : Int32) → ¬ (fi m 1115 (gB G + 293)) = (62 : Int32) → (fi m 1115 (gB G + 293)) = (61 : Int32) → WPM G (d + 15) (0, 0) μX11_advance [.ref (gB G + 293)] m (fun r' m' => WP G (d + 16) (0, 0) μX11_parseComparison 83 [.ref (gB G + 293), .int (1 : Int32), .int (15 : Int32)] (r'.toList ++ []) m' Q))
    (e3 : ¬ (fi m 1115 (gB G + 293)) = (60 : Int32) → (fi m 1115 (gB G + 293)) = (62 : Int32) → WPM G (d + 15) (0, 0) μX11_advance [.ref (gB G + 293)] m (fun r' m' => WP G (d + 16) (0, 0) μX11_parseComparison 83 [.ref (gB G + 293), .int (1 : Int32), .int (14 : Int32)] (r'.toList ++ []) m' Q))
    (e4 : (fi m 1115 (gB G + 293)) = (60 : Int32) → WPM G (d + 15) (0, 0) μX11_advance [.ref (gB G + 293)] m (fun r' m' => WP G (d + 16) (0, 0) μX11_parseComparison 83 [.ref (gB G + 293), .int (1 : Int32), .int (13 : Int32)] (r'.toList ++ []) m' Q)) :
    WP G (d + 16) (0, 0) μX11_parseComparison 20 [.ref (gB G + 293), .int (1 : Int32), lvU] [] m Q := by
  refine wp_aload_n dX11_parseComparison_20 rfl ?_
  refine wp_geti (fi m 1115 (gB G + 293)) dX11_parseComparison_21 fX11_269 (Or.inl rfl) (ka hF 293 (by decide)) rfl ?_
  refine wp_bipush (60 : Int32) dX11_parseComparison_24 (by decide) ?_
  refine wp_icmp_ne 34 dX11_parseComparison_26 (by decide) (fun q1 => ?_) (fun q2 => ?_)
  · skip
    refine wp_aload_n dX11_parseComparison_34 rfl ?_
    refine wp_geti (fi m 1115 (gB G + 293)) dX11_parseComparison_35 fX11_269 (Or.inl rfl) (ka hF 293 (by decide)) rfl ?_
    refine wp_bipush (62 : Int32) dX11_parseComparison_38 (by decide) ?_
    refine wp_icmp_ne 48 dX11_parseComparison_40 (by decide) (fun q3 => ?_) (fun q4 => ?_)
    · skip
      refine wp_aload_n dX11_parseComparison_48 rfl ?_
      refine wp_geti (fi m 1115 (gB G + 293)) dX11_parseComparison_49 fX11_269 (Or.inl rfl) (ka hF 293 (by decide)) rfl ?_
      refine wp_bipush (61 : Int32) dX11_parseComparison_52 (by decide) ?_
      refine wp_icmp_ne 62 dX11_parseComparison_54 (by decide) (fun q5 => ?_) (fun q6 => ?_)
      · skip
        refine wp_iconst (-1 : Int32) dX11_parseComparison_62 (by decide) ?_
        refine wp_istore_n dX11_parseComparison_63 (by decide) rfl ?_
        refine wp_aload_n dX11_parseComparison_64 rfl ?_
        refine wp_iload_n dX11_parseComparison_65 rfl ?_
        refine wp_iconst (-1 : Int32) dX11_parseComparison_66 (by decide) ?_
        refine wp_icmp_eq 74 dX11_parseComparison_67 (by decide) (fun _ => ?_) (fun q => absurd (by decide) q)
        refine wp_iconst (0 : Int32) dX11_parseComparison_74 (by decide) ?_
        refine wp_iconst (1 : Int32) dX11_parseComparison_75 (by decide) ?_
        refine wp_callV (As := [.int (0 : Int32), .int (1 : Int32)]) (S := []) (b' := (0, 0)) (b := (0, 0)) dX11_parseComparison_76 MX11_304 (ka hF 293 (by decide)) rfl rfl rfl rfl (Nat.le_of_ble_eq_true rfl) ?_
        refine WPM.of pX11 (Nat.le_of_ble_eq_true rfl) rfl ?_
        refine wp_iload_n dX11_require_0 rfl ?_
        refine wp_if_ne 24 dX11_require_1 (by decide) (fun q => absurd (by decide) q) (fun _ => ?_)
        refine wp_aload_n dX11_require_4 rfl ?_
        refine wp_geti c dX11_require_5 fX11_298 (Or.inl rfl) (ka hF 293 (by decide)) he ?_
        refine wp_if_ne 24 dX11_require_8 (by decide) (fun _ => ?_) (fun q => absurd q hc)
        refine wp_vret dX11_require_24 rfl ?_
        show WP G (d + 16) (0, 0) μX11_parseComparison 79 [.ref (gB G + 293), .int (1 : Int32), .int (-1 : Int32)] [] m _
        refine wp_aload_n dX11_parseComparison_79 rfl ?_
        refine wp_callV (As := []) (S := []) (b' := (0, 0)) (b := (0, 0)) dX11_parseComparison_80 MX11_308 (ka hF 293 (by decide)) rfl rfl rfl rfl (Nat.le_of_ble_eq_true rfl) ?_
        exact e1 q1 q3 q5
      · skip
        refine wp_bipush (15 : Int32) dX11_parseComparison_57 (by decide) ?_
        refine wp_goto 63 dX11_parseComparison_59 (by decide) ?_
        refine wp_istore_n dX11_parseComparison_63 (by decide) rfl ?_
        refine wp_aload_n dX11_parseComparison_64 rfl ?_
        refine wp_iload_n dX11_parseComparison_65 rfl ?_
        refine wp_iconst (-1 : Int32) dX11_parseComparison_66 (by decide) ?_
        refine wp_icmp_eq 74 dX11_parseComparison_67 (by decide) (fun q => absurd q (by decide)) (fun _ => ?_)
        refine wp_iconst (1 : Int32) dX11_parseComparison_70 (by decide) ?_
        refine wp_goto 75 dX11_parseComparison_71 (by decide) ?_
        refine wp_iconst (1 : Int32) dX11_parseComparison_75 (by decide) ?_
        refine wp_callV (As := [.int (1 : Int32), .int (1 : Int32)]) (S := []) (b' := (0, 0)) (b := (0, 0)) dX11_parseComparison_76 MX11_304 (ka hF 293 (by decide)) rfl rfl rfl rfl (Nat.le_of_ble_eq_true rfl) ?_
        refine WPM.of pX11 (Nat.le_of_ble_eq_true rfl) rfl ?_
        refine wp_iload_n dX11_require_0 rfl ?_
        refine wp_if_ne 24 dX11_require_1 (by decide) (fun _ => ?_) (fun q => absurd q (by decide))
        refine wp_vret dX11_require_24 rfl ?_
        show WP G (d + 16) (0, 0) μX11_parseComparison 79 [.ref (gB G + 293), .int (1 : Int32), .int (15 : Int32)] [] m _
        refine wp_aload_n dX11_parseComparison_79 rfl ?_
        refine wp_callV (As := []) (S := []) (b' := (0, 0)) (b := (0, 0)) dX11_parseComparison_80 MX11_308 (ka hF 293 (by decide)) rfl rfl rfl rfl (Nat.le_of_ble_eq_true rfl) ?_
        exact e2 q1 q3 q6
    · skip
      refine wp_bipush (14 : Int32) dX11_parseComparison_43 (by decide) ?_
      refine wp_goto 63 dX11_parseComparison_45 (by decide) ?_
      refine wp_istore_n dX11_parseComparison_63 (by decide) rfl ?_
      refine wp_aload_n dX11_parseComparison_64 rfl ?_
      refine wp_iload_n dX11_parseComparison_65 rfl ?_
      refine wp_iconst (-1 : Int32) dX11_parseComparison_66 (by decide) ?_
      refine wp_icmp_eq 74 dX11_parseComparison_67 (by decide) (fun q => absurd q (by decide)) (fun _ => ?_)
      refine wp_iconst (1 : Int32) dX11_parseComparison_70 (by decide) ?_
      refine wp_goto 75 dX11_parseComparison_71 (by decide) ?_
      refine wp_iconst (1 : Int32) dX11_parseComparison_75 (by decide) ?_
      refine wp_callV (As := [.int (1 : Int32), .int (1 : Int32)]) (S := []) (b' := (0, 0)) (b := (0, 0)) dX11_parseComparison_76 MX11_304 (ka hF 293 (by decide)) rfl rfl rfl rfl (Nat.le_of_ble_eq_true rfl) ?_
      refine WPM.of pX11 (Nat.le_of_ble_eq_true rfl) rfl ?_
      refine wp_iload_n dX11_require_0 rfl ?_
      refine wp_if_ne 24 dX11_require_1 (by decide) (fun _ => ?_) (fun q => absurd q (by decide))
      refine wp_vret dX11_require_24 rfl ?_
      show WP G (d + 16) (0, 0) μX11_parseComparison 79 [.ref (gB G + 293), .int (1 : Int32), .int (14 : Int32)] [] m _
      refine wp_aload_n dX11_parseComparison_79 rfl ?_
      refine wp_callV (As := []) (S := []) (b' := (0, 0)) (b := (0, 0)) dX11_parseComparison_80 MX11_308 (ka hF 293 (by decide)) rfl rfl rfl rfl (Nat.le_of_ble_eq_true rfl) ?_
      exact e3 q1 q4
  · skip
    refine wp_bipush (13 : Int32) dX11_parseComparison_29 (by decide) ?_
    refine wp_goto 63 dX11_parseComparison_31 (by decide) ?_
    refine wp_istore_n dX11_parseComparison_63 (by decide) rfl ?_
    refine wp_aload_n dX11_parseComparison_64 rfl ?_
    refine wp_iload_n dX11_parseComparison_65 rfl ?_
    refine wp_iconst (-1 : Int32) dX11_parseComparison_66 (by decide) ?_
    refine wp_icmp_eq 74 dX11_parseComparison_67 (by decide) (fun q => absurd q (by decide)) (fun _ => ?_)
    refine wp_iconst (1 : Int32) dX11_parseComparison_70 (by decide) ?_
    refine wp_goto 75 dX11_parseComparison_71 (by decide) ?_
    refine wp_iconst (1 : Int32) dX11_parseComparison_75 (by decide) ?_
    refine wp_callV (As := [.int (1 : Int32), .int (1 : Int32)]) (S := []) (b' := (0, 0)) (b := (0, 0)) dX11_parseComparison_76 MX11_304 (ka hF 293 (by decide)) rfl rfl rfl rfl (Nat.le_of_ble_eq_true rfl) ?_
    refine WPM.of pX11 (Nat.le_of_ble_eq_true rfl) rfl ?_
    refine wp_iload_n dX11_require_0 rfl ?_
    refine wp_if_ne 24 dX11_require_1 (by decide) (fun _ => ?_) (fun q => absurd q (by decide))
    refine wp_vret dX11_require_24 rfl ?_
    show WP G (d + 16) (0, 0) μX11_parseComparison 79 [.ref (gB G + 293), .int (1 : Int32), .int (13 : Int32)] [] m _
    refine wp_aload_n dX11_parseComparison_79 rfl ?_
    refine wp_callV (As := []) (S := []) (b' := (0, 0)) (b := (0, 0)) dX11_parseComparison_80 MX11_308 (ka hF 293 (by decide)) rfl rfl rfl rfl (Nat.le_of_ble_eq_true rfl) ?_
    exact e4 q2

theorem cZ1 {G : Cx} {d : Nat} {m : Mm} {Q : Option Value → Mm → Prop} {c o : Int32} (hF : Full G m) (he : fi m 1118 (gB G + 293) = c) (hc : ¬ c = 0) 
    (e1 : Q none m) :
    WP G (d + 16) (0, 0) μX11_parseComparison 83 [.ref (gB G + 293), .int (1 : Int32), .int o] [] m Q := by
  refine wp_aload_n dX11_parseComparison_83 rfl ?_
  refine wp_geti c dX11_parseComparison_84 fX11_298 (Or.inl rfl) (ka hF 293 (by decide)) he ?_
  refine wp_if_ne 94 dX11_parseComparison_87 (by decide) (fun _ => ?_) (fun q => absurd q hc)
  refine wp_aload_n dX11_parseComparison_94 rfl ?_
  refine wp_iload_n dX11_parseComparison_95 rfl ?_
  refine wp_iconst (0 : Int32) dX11_parseComparison_96 (by decide) ?_
  refine wp_callV (As := [.int o, .int (0 : Int32)]) (S := []) (b' := (0, 0)) (b := (0, 0)) dX11_parseComparison_97 MX11_330 (ka hF 293 (by decide)) rfl rfl rfl rfl (Nat.le_of_ble_eq_true rfl) ?_
  refine WPM.of pX11 (Nat.le_of_ble_eq_true rfl) rfl ?_
  refine wp_aload_n dX11_emit_0 rfl ?_
  refine wp_geti c dX11_emit_1 fX11_298 (Or.inl rfl) (ka hF 293 (by decide)) he ?_
  refine wp_if_ne 43 dX11_emit_4 (by decide) (fun _ => ?_) (fun q => absurd q hc)
  refine wp_vret dX11_emit_43 rfl ?_
  show WP G (d + 16) (0, 0) μX11_parseComparison 100 [.ref (gB G + 293), .int (1 : Int32), .int o] [] m _
  refine wp_iload_n dX11_parseComparison_100 rfl ?_
  refine wp_if_eq 111 dX11_parseComparison_101 (by decide) (fun q => absurd q (by decide)) (fun _ => ?_)
  refine wp_aload_n dX11_parseComparison_104 rfl ?_
  refine wp_bipush (16 : Int32) dX11_parseComparison_105 (by decide) ?_
  refine wp_iconst (0 : Int32) dX11_parseComparison_107 (by decide) ?_
  refine wp_callV (As := [.int (16 : Int32), .int (0 : Int32)]) (S := []) (b' := (0, 0)) (b := (0, 0)) dX11_parseComparison_108 MX11_330 (ka hF 293 (by decide)) rfl rfl rfl rfl (Nat.le_of_ble_eq_true rfl) ?_
  refine WPM.of pX11 (Nat.le_of_ble_eq_true rfl) rfl ?_
  refine wp_aload_n dX11_emit_0 rfl ?_
  refine wp_geti c dX11_emit_1 fX11_298 (Or.inl rfl) (ka hF 293 (by decide)) he ?_
  refine wp_if_ne 43 dX11_emit_4 (by decide) (fun _ => ?_) (fun q => absurd q hc)
  refine wp_vret dX11_emit_43 rfl ?_
  show WP G (d + 16) (0, 0) μX11_parseComparison 111 [.ref (gB G + 293), .int (1 : Int32), .int o] [] m _
  exact wp_vret dX11_parseComparison_111 rfl (e1)

theorem cD060 {G : Cx} {d : Nat} {m : Mm} {Q : Option Value → Mm → Prop}  (hF : Full G m) (he : fi m 1118 (gB G + 293) = (0 : Int32)) (hy : fi m 1115 (gB G + 293) = (60 : Int32)) 
    (e1 : WPM G (d + 15) (0, 0) μX11_advance [.ref (gB G + 293)] m (fun r' m' => WP G (d + 16) (0, 0) μX11_parseComparison 83 [.ref (gB G + 293), .int (0 : Int32), .int (13 : Int32)] (r'.toList ++ []) m' Q)) :
    WP G (d + 16) (0, 0) μX11_parseComparison 20 [.ref (gB G + 293), .int (0 : Int32), lvU] [] m Q := by
  refine wp_aload_n dX11_parseComparison_20 rfl ?_
  refine wp_geti (60 : Int32) dX11_parseComparison_21 fX11_269 (Or.inl rfl) (ka hF 293 (by decide)) hy ?_
  refine wp_bipush (60 : Int32) dX11_parseComparison_24 (by decide) ?_
  refine wp_icmp_ne 34 dX11_parseComparison_26 (by decide) (fun q => absurd (by decide) q) (fun _ => ?_)
  refine wp_bipush (13 : Int32) dX11_parseComparison_29 (by decide) ?_
  refine wp_goto 63 dX11_parseComparison_31 (by decide) ?_
  refine wp_istore_n dX11_parseComparison_63 (by decide) rfl ?_
  refine wp_aload_n dX11_parseComparison_64 rfl ?_
  refine wp_iload_n dX11_parseComparison_65 rfl ?_
  refine wp_iconst (-1 : Int32) dX11_parseComparison_66 (by decide) ?_
  refine wp_icmp_eq 74 dX11_parseComparison_67 (by decide) (fun q => absurd q (by decide)) (fun _ => ?_)
  refine wp_iconst (1 : Int32) dX11_parseComparison_70 (by decide) ?_
  refine wp_goto 75 dX11_parseComparison_71 (by decide) ?_
  refine wp_iconst (1 : Int32) dX11_parseComparison_75 (by decide) ?_
  refine wp_callV (As := [.int (1 : Int32), .int (1 : Int32)]) (S := []) (b' := (0, 0)) (b := (0, 0)) dX11_parseComparison_76 MX11_304 (ka hF 293 (by decide)) rfl rfl rfl rfl (Nat.le_of_ble_eq_true rfl) ?_
  refine WPM.of pX11 (Nat.le_of_ble_eq_true rfl) rfl ?_
  refine wp_iload_n dX11_require_0 rfl ?_
  refine wp_if_ne 24 dX11_require_1 (by decide) (fun _ => ?_) (fun q => absurd q (by decide))
  refine wp_vret dX11_require_24 rfl ?_
  show WP G (d + 16) (0, 0) μX11_parseComparison 79 [.ref (gB G + 293), .int (0 : Int32), .int (13 : Int32)] [] m _
  refine wp_aload_n dX11_parseComparison_79 rfl ?_
  refine wp_callV (As := []) (S := []) (b' := (0, 0)) (b := (0, 0)) dX11_parseComparison_80 MX11_308 (ka hF 293 (by decide)) rfl rfl rfl rfl (Nat.le_of_ble_eq_true rfl) ?_
  exact e1

theorem cE060 {G : Cx} {d : Nat} {m : Mm} {Q : Option Value → Mm → Prop}  (hF : Full G m) (he : fi m 1118 (gB G + 293) = (0 : Int32)) 
    (e1 : WPM G (d + 15) (0, 0) μX11_parseSum [.ref (gB G + 293)] m (fun r' m' => WP G (d + 16) (0, 0) μX11_parseComparison 94 [.ref (gB G + 293), .int (0 : Int32), .int (13 : Int32)] (r'.toList ++ []) m' Q)) :
    WP G (d + 16) (0, 0) μX11_parseComparison 83 [.ref (gB G + 293), .int (0 : Int32), .int (13 : Int32)] [] m Q := by
  refine wp_aload_n dX11_parseComparison_83 rfl ?_
  refine wp_geti (0 : Int32) dX11_parseComparison_84 fX11_298 (Or.inl rfl) (ka hF 293 (by decide)) he ?_
  refine wp_if_ne 94 dX11_parseComparison_87 (by decide) (fun q => absurd (by decide) q) (fun _ => ?_)
  refine wp_aload_n dX11_parseComparison_90 rfl ?_
  refine wp_callV (As := []) (S := []) (b' := (0, 0)) (b := (0, 0)) dX11_parseComparison_91 MX11_375 (ka hF 293 (by decide)) rfl rfl rfl rfl (Nat.le_of_ble_eq_true rfl) ?_
  exact e1

theorem cF060 {G : Cx} {d : Nat} {m : Mm} {Q : Option Value → Mm → Prop} {s : Nat} (hF : Full G m) (he : fi m 1118 (gB G + 293) = (0 : Int32)) (hz : fi m 1124 (gB G + 293) = nI s) (hs5 : s < 500) 
    (e1 : Q none (wfi (wai (wai m (gB G + 306) (2 * s) (13 : Int32)) (gB G + 306) (2 * s + 1) (0 : Int32)) 1124 (gB G + 293) (nI (s + 1)))) :
    WP G (d + 16) (0, 0) μX11_parseComparison 94 [.ref (gB G + 293), .int (0 : Int32), .int (13 : Int32)] [] m Q := by
  refine wp_aload_n dX11_parseComparison_94 rfl ?_
  refine wp_iload_n dX11_parseComparison_95 rfl ?_
  refine wp_iconst (0 : Int32) dX11_parseComparison_96 (by decide) ?_
  refine wp_callV (As := [.int (13 : Int32), .int (0 : Int32)]) (S := []) (b' := (0, 0)) (b := (0, 0)) dX11_parseComparison_97 MX11_330 (ka hF 293 (by decide)) rfl rfl rfl rfl (Nat.le_of_ble_eq_true rfl) ?_
  refine WPM.of pX11 (Nat.le_of_ble_eq_true rfl) rfl ?_
  refine wp_aload_n dX11_emit_0 rfl ?_
  refine wp_geti (0 : Int32) dX11_emit_1 fX11_298 (Or.inl rfl) (ka hF 293 (by decide)) he ?_
  refine wp_if_ne 43 dX11_emit_4 (by decide) (fun q => absurd (by decide) q) (fun _ => ?_)
  refine wp_aload_n dX11_emit_7 rfl ?_
  refine wp_getr (gB G + 306) dX11_emit_8 fX11_52 (ka hF 293 (by decide)) (hF.2 _ _) (rra 13 (isK_le (ka hF 293 (by decide))) (fun _ => rfl)) ?_
  refine wp_iconst (2 : Int32) dX11_emit_11 (by decide) ?_
  refine wp_aload_n dX11_emit_12 rfl ?_
  refine wp_geti (nI s) dX11_emit_13 fX11_311 (Or.inl rfl) (ka hF 293 (by decide)) hz ?_
  refine wp_imulv (nI (2 * s)) dX11_emit_16 (nmul (a := 2) (b := s) (by omega)) ?_
  refine wp_iload_n dX11_emit_17 rfl ?_
  refine wp_iastk (n := 1000) (2 * s) dX11_emit_18 (ka hF 306 (by decide)) (la 306) (vin (by omega) (by decide))  (nIc (by omega)) ?_
  have hF1 := Full_wai (gB G + 306) (2 * s) (13 : Int32) hF
  refine wp_aload_n dX11_emit_19 rfl ?_
  refine wp_getr (gB G + 306) dX11_emit_20 fX11_52 (ka hF1 293 (by decide)) (hF1.2 _ _) (rra 13 (isK_le (ka hF1 293 (by decide))) (fun _ => rfl)) ?_
  refine wp_iconst (2 : Int32) dX11_emit_23 (by decide) ?_
  refine wp_aload_n dX11_emit_24 rfl ?_
  refine wp_geti (nI s) dX11_emit_25 fX11_311 (Or.inl rfl) (ka hF1 293 (by decide)) (fi_wai.trans hz) ?_
  refine wp_imulv (nI (2 * s)) dX11_emit_28 (nmul (a := 2) (b := s) (by omega)) ?_
  refine wp_iconst (1 : Int32) dX11_emit_29 (by decide) ?_
  refine wp_iaddv (nI (2 * s + 1)) dX11_emit_30 (nadd (a := 2 * s) (b := 1) (by omega)) ?_
  refine wp_iload_n dX11_emit_31 rfl ?_
  refine wp_iastk (n := 1000) (2 * s + 1) dX11_emit_32 (ka hF1 306 (by decide)) (la 306) (vin (by omega) (by decide))  (nIc (by omega)) ?_
  have hF2 := Full_wai (gB G + 306) (2 * s + 1) (0 : Int32) hF1
  refine wp_aload_n dX11_emit_33 rfl ?_
  refine wp_dup dX11_emit_34 rfl ?_
  refine wp_geti (nI s) dX11_emit_35 fX11_311 (Or.inl rfl) (ka hF2 293 (by decide)) (fi_wai.trans (fi_wai.trans hz)) ?_
  refine wp_iconst (1 : Int32) dX11_emit_38 (by decide) ?_
  refine wp_iaddv (nI (s + 1)) dX11_emit_39 (nadd (a := s) (b := 1) (by omega)) ?_
  refine wp_puti dX11_emit_40 pX11_311 (ka hF2 293 (by decide)) ?_
  have hF3 := Full_wfi 1124 (gB G + 293) (nI (s + 1)) hF2
  refine wp_vret dX11_emit_43 rfl ?_
  show WP G (d + 16) (0, 0) μX11_parseComparison 100 [.ref (gB G + 293), .int (0 : Int32), .int (13 : Int32)] [] (wfi (wai (wai m (gB G + 306) (2 * s) (13 : Int32)) (gB G + 306) (2 * s + 1) (0 : Int32)) 1124 (gB G + 293) (nI (s + 1))) _
  refine wp_iload_n dX11_parseComparison_100 rfl ?_
  refine wp_if_eq 111 dX11_parseComparison_101 (by decide) (fun _ => ?_) (fun q => absurd (by decide) q)
  exact wp_vret dX11_parseComparison_111 rfl (e1)

theorem cG060 {G : Cx} {d : Nat} {m : Mm} {Q : Option Value → Mm → Prop} {c : Int32} (hF : Full G m) (he : fi m 1118 (gB G + 293) = c) (hc : ¬ c = 0) 
    (e1 : Q none m) :
    WP G (d + 16) (0, 0) μX11_parseComparison 94 [.ref (gB G + 293), .int (0 : Int32), .int (13 : Int32)] [] m Q := by
  refine wp_aload_n dX11_parseComparison_94 rfl ?_
  refine wp_iload_n dX11_parseComparison_95 rfl ?_
  refine wp_iconst (0 : Int32) dX11_parseComparison_96 (by decide) ?_
  refine wp_callV (As := [.int (13 : Int32), .int (0 : Int32)]) (S := []) (b' := (0, 0)) (b := (0, 0)) dX11_parseComparison_97 MX11_330 (ka hF 293 (by decide)) rfl rfl rfl rfl (Nat.le_of_ble_eq_true rfl) ?_
  refine WPM.of pX11 (Nat.le_of_ble_eq_true rfl) rfl ?_
  refine wp_aload_n dX11_emit_0 rfl ?_
  refine wp_geti c dX11_emit_1 fX11_298 (Or.inl rfl) (ka hF 293 (by decide)) he ?_
  refine wp_if_ne 43 dX11_emit_4 (by decide) (fun _ => ?_) (fun q => absurd q hc)
  refine wp_vret dX11_emit_43 rfl ?_
  show WP G (d + 16) (0, 0) μX11_parseComparison 100 [.ref (gB G + 293), .int (0 : Int32), .int (13 : Int32)] [] m _
  refine wp_iload_n dX11_parseComparison_100 rfl ?_
  refine wp_if_eq 111 dX11_parseComparison_101 (by decide) (fun _ => ?_) (fun q => absurd (by decide) q)
  exact wp_vret dX11_parseComparison_111 rfl (e1)

theorem cD062 {G : Cx} {d : Nat} {m : Mm} {Q : Option Value → Mm → Prop}  (hF : Full G m) (he : fi m 1118 (gB G + 293) = (0 : Int32)) (hy : fi m 1115 (gB G + 293) = (62 : Int32)) 
    (e1 : WPM G (d + 15) (0, 0) μX11_advance [.ref (gB G + 293)] m (fun r' m' => WP G (d + 16) (0, 0) μX11_parseComparison 83 [.ref (gB G + 293), .int (0 : Int32), .int (14 : Int32)] (r'.toList ++ []) m' Q)) :
    WP G (d + 16) (0, 0) μX11_parseComparison 20 [.ref (gB G + 293), .int (0 : Int32), lvU] [] m Q := by
  refine wp_aload_n dX11_parseComparison_20 rfl ?_
  refine wp_geti (62 : Int32) dX11_parseComparison_21 fX11_269 (Or.inl rfl) (ka hF 293 (by decide)) hy ?_
  refine wp_bipush (60 : Int32) dX11_parseComparison_24 (by decide) ?_
  refine wp_icmp_ne 34 dX11_parseComparison_26 (by decide) (fun _ => ?_) (fun q => absurd q (by decide))
  refine wp_aload_n dX11_parseComparison_34 rfl ?_
  refine wp_geti (62 : Int32) dX11_parseComparison_35 fX11_269 (Or.inl rfl) (ka hF 293 (by decide)) hy ?_
  refine wp_bipush (62 : Int32) dX11_parseComparison_38 (by decide) ?_
  refine wp_icmp_ne 48 dX11_parseComparison_40 (by decide) (fun q => absurd (by decide) q) (fun _ => ?_)
  refine wp_bipush (14 : Int32) dX11_parseComparison_43 (by decide) ?_
  refine wp_goto 63 dX11_parseComparison_45 (by decide) ?_
  refine wp_istore_n dX11_parseComparison_63 (by decide) rfl ?_
  refine wp_aload_n dX11_parseComparison_64 rfl ?_
  refine wp_iload_n dX11_parseComparison_65 rfl ?_
  refine wp_iconst (-1 : Int32) dX11_parseComparison_66 (by decide) ?_
  refine wp_icmp_eq 74 dX11_parseComparison_67 (by decide) (fun q => absurd q (by decide)) (fun _ => ?_)
  refine wp_iconst (1 : Int32) dX11_parseComparison_70 (by decide) ?_
  refine wp_goto 75 dX11_parseComparison_71 (by decide) ?_
  refine wp_iconst (1 : Int32) dX11_parseComparison_75 (by decide) ?_
  refine wp_callV (As := [.int (1 : Int32), .int (1 : Int32)]) (S := []) (b' := (0, 0)) (b := (0, 0)) dX11_parseComparison_76 MX11_304 (ka hF 293 (by decide)) rfl rfl rfl rfl (Nat.le_of_ble_eq_true rfl) ?_
  refine WPM.of pX11 (Nat.le_of_ble_eq_true rfl) rfl ?_
  refine wp_iload_n dX11_require_0 rfl ?_
  refine wp_if_ne 24 dX11_require_1 (by decide) (fun _ => ?_) (fun q => absurd q (by decide))
  refine wp_vret dX11_require_24 rfl ?_
  show WP G (d + 16) (0, 0) μX11_parseComparison 79 [.ref (gB G + 293), .int (0 : Int32), .int (14 : Int32)] [] m _
  refine wp_aload_n dX11_parseComparison_79 rfl ?_
  refine wp_callV (As := []) (S := []) (b' := (0, 0)) (b := (0, 0)) dX11_parseComparison_80 MX11_308 (ka hF 293 (by decide)) rfl rfl rfl rfl (Nat.le_of_ble_eq_true rfl) ?_
  exact e1

theorem cE062 {G : Cx} {d : Nat} {m : Mm} {Q : Option Value → Mm → Prop}  (hF : Full G m) (he : fi m 1118 (gB G + 293) = (0 : Int32)) 
    (e1 : WPM G (d + 15) (0, 0) μX11_parseSum [.ref (gB G + 293)] m (fun r' m' => WP G (d + 16) (0, 0) μX11_parseComparison 94 [.ref (gB G + 293), .int (0 : Int32), .int (14 : Int32)] (r'.toList ++ []) m' Q)) :
    WP G (d + 16) (0, 0) μX11_parseComparison 83 [.ref (gB G + 293), .int (0 : Int32), .int (14 : Int32)] [] m Q := by
  refine wp_aload_n dX11_parseComparison_83 rfl ?_
  refine wp_geti (0 : Int32) dX11_parseComparison_84 fX11_298 (Or.inl rfl) (ka hF 293 (by decide)) he ?_
  refine wp_if_ne 94 dX11_parseComparison_87 (by decide) (fun q => absurd (by decide) q) (fun _ => ?_)
  refine wp_aload_n dX11_parseComparison_90 rfl ?_
  refine wp_callV (As := []) (S := []) (b' := (0, 0)) (b := (0, 0)) dX11_parseComparison_91 MX11_375 (ka hF 293 (by decide)) rfl rfl rfl rfl (Nat.le_of_ble_eq_true rfl) ?_
  exact e1

theorem cF062 {G : Cx} {d : Nat} {m : Mm} {Q : Option Value → Mm → Prop} {s : Nat} (hF : Full G m) (he : fi m 1118 (gB G + 293) = (0 : Int32)) (hz : fi m 1124 (gB G + 293) = nI s) (hs5 : s < 500) 
    (e1 : Q none (wfi (wai (wai m (gB G + 306) (2 * s) (14 : Int32)) (gB G + 306) (2 * s + 1) (0 : Int32)) 1124 (gB G + 293) (nI (s + 1)))) :
    WP G (d + 16) (0, 0) μX11_parseComparison 94 [.ref (gB G + 293), .int (0 : Int32), .int (14 : Int32)] [] m Q := by
  refine wp_aload_n dX11_parseComparison_94 rfl ?_
  refine wp_iload_n dX11_parseComparison_95 rfl ?_
  refine wp_iconst (0 : Int32) dX11_parseComparison_96 (by decide) ?_
  refine wp_callV (As := [.int (14 : Int32), .int (0 : Int32)]) (S := []) (b' := (0, 0)) (b := (0, 0)) dX11_parseComparison_97 MX11_330 (ka hF 293 (by decide)) rfl rfl rfl rfl (Nat.le_of_ble_eq_true rfl) ?_
  refine WPM.of pX11 (Nat.le_of_ble_eq_true rfl) rfl ?_
  refine wp_aload_n dX11_emit_0 rfl ?_
  refine wp_geti (0 : Int32) dX11_emit_1 fX11_298 (Or.inl rfl) (ka hF 293 (by decide)) he ?_
  refine wp_if_ne 43 dX11_emit_4 (by decide) (fun q => absurd (by decide) q) (fun _ => ?_)
  refine wp_aload_n dX11_emit_7 rfl ?_
  refine wp_getr (gB G + 306) dX11_emit_8 fX11_52 (ka hF 293 (by decide)) (hF.2 _ _) (rra 13 (isK_le (ka hF 293 (by decide))) (fun _ => rfl)) ?_
  refine wp_iconst (2 : Int32) dX11_emit_11 (by decide) ?_
  refine wp_aload_n dX11_emit_12 rfl ?_
  refine wp_geti (nI s) dX11_emit_13 fX11_311 (Or.inl rfl) (ka hF 293 (by decide)) hz ?_
  refine wp_imulv (nI (2 * s)) dX11_emit_16 (nmul (a := 2) (b := s) (by omega)) ?_
  refine wp_iload_n dX11_emit_17 rfl ?_
  refine wp_iastk (n := 1000) (2 * s) dX11_emit_18 (ka hF 306 (by decide)) (la 306) (vin (by omega) (by decide))  (nIc (by omega)) ?_
  have hF1 := Full_wai (gB G + 306) (2 * s) (14 : Int32) hF
  refine wp_aload_n dX11_emit_19 rfl ?_
  refine wp_getr (gB G + 306) dX11_emit_20 fX11_52 (ka hF1 293 (by decide)) (hF1.2 _ _) (rra 13 (isK_le (ka hF1 293 (by decide))) (fun _ => rfl)) ?_
  refine wp_iconst (2 : Int32) dX11_emit_23 (by decide) ?_
  refine wp_aload_n dX11_emit_24 rfl ?_
  refine wp_geti (nI s) dX11_emit_25 fX11_311 (Or.inl rfl) (ka hF1 293 (by decide)) (fi_wai.trans hz) ?_
  refine wp_imulv (nI (2 * s)) dX11_emit_28 (nmul (a := 2) (b := s) (by omega)) ?_
  refine wp_iconst (1 : Int32) dX11_emit_29 (by decide) ?_
  refine wp_iaddv (nI (2 * s + 1)) dX11_emit_30 (nadd (a := 2 * s) (b := 1) (by omega)) ?_
  refine wp_iload_n dX11_emit_31 rfl ?_
  refine wp_iastk (n := 1000) (2 * s + 1) dX11_emit_32 (ka hF1 306 (by decide)) (la 306) (vin (by omega) (by decide))  (nIc (by omega)) ?_
  have hF2 := Full_wai (gB G + 306) (2 * s + 1) (0 : Int32) hF1
  refine wp_aload_n dX11_emit_33 rfl ?_
  refine wp_dup dX11_emit_34 rfl ?_
  refine wp_geti (nI s) dX11_emit_35 fX11_311 (Or.inl rfl) (ka hF2 293 (by decide)) (fi_wai.trans (fi_wai.trans hz)) ?_
  refine wp_iconst (1 : Int32) dX11_emit_38 (by decide) ?_
  refine wp_iaddv (nI (s + 1)) dX11_emit_39 (nadd (a := s) (b := 1) (by omega)) ?_
  refine wp_puti dX11_emit_40 pX11_311 (ka hF2 293 (by decide)) ?_
  have hF3 := Full_wfi 1124 (gB G + 293) (nI (s + 1)) hF2
  refine wp_vret dX11_emit_43 rfl ?_
  show WP G (d + 16) (0, 0) μX11_parseComparison 100 [.ref (gB G + 293), .int (0 : Int32), .int (14 : Int32)] [] (wfi (wai (wai m (gB G + 306) (2 * s) (14 : Int32)) (gB G + 306) (2 * s + 1) (0 : Int32)) 1124 (gB G + 293) (nI (s + 1))) _
  refine wp_iload_n dX11_parseComparison_100 rfl ?_
  refine wp_if_eq 111 dX11_parseComparison_101 (by decide) (fun _ => ?_) (fun q => absurd (by decide) q)
  exact wp_vret dX11_parseComparison_111 rfl (e1)

theorem cG062 {G : Cx} {d : Nat} {m : Mm} {Q : Option Value → Mm → Prop} {c : Int32} (hF : Full G m) (he : fi m 1118 (gB G + 293) = c) (hc : ¬ c = 0) 
    (e1 : Q none m) :
    WP G (d + 16) (0, 0) μX11_parseComparison 94 [.ref (gB G + 293), .int (0 : Int32), .int (14 : Int32)] [] m Q := by
  refine wp_aload_n dX11_parseComparison_94 rfl ?_
  refine wp_iload_n dX11_parseComparison_95 rfl ?_
  refine wp_iconst (0 : Int32) dX11_parseComparison_96 (by decide) ?_
  refine wp_callV (As := [.int (14 : Int32), .int (0 : Int32)]) (S := []) (b' := (0, 0)) (b := (0, 0)) dX11_parseComparison_97 MX11_330 (ka hF 293 (by decide)) rfl rfl rfl rfl (Nat.le_of_ble_eq_true rfl) ?_
  refine WPM.of pX11 (Nat.le_of_ble_eq_true rfl) rfl ?_
  refine wp_aload_n dX11_emit_0 rfl ?_
  refine wp_geti c dX11_emit_1 fX11_298 (Or.inl rfl) (ka hF 293 (by decide)) he ?_
  refine wp_if_ne 43 dX11_emit_4 (by decide) (fun _ => ?_) (fun q => absurd q hc)
  refine wp_vret dX11_emit_43 rfl ?_
  show WP G (d + 16) (0, 0) μX11_parseComparison 100 [.ref (gB G + 293), .int (0 : Int32), .int (14 : Int32)] [] m _
  refine wp_iload_n dX11_parseComparison_100 rfl ?_
  refine wp_if_eq 111 dX11_parseComparison_101 (by decide) (fun _ => ?_) (fun q => absurd (by decide) q)
  exact wp_vret dX11_parseComparison_111 rfl (e1)

theorem cD061 {G : Cx} {d : Nat} {m : Mm} {Q : Option Value → Mm → Prop}  (hF : Full G m) (he : fi m 1118 (gB G + 293) = (0 : Int32)) (hy : fi m 1115 (gB G + 293) = (61 : Int32)) 
    (e1 : WPM G (d + 15) (0, 0) μX11_advance [.ref (gB G + 293)] m (fun r' m' => WP G (d + 16) (0, 0) μX11_parseComparison 83 [.ref (gB G + 293), .int (0 : Int32), .int (15 : Int32)] (r'.toList ++ []) m' Q)) :
    WP G (d + 16) (0, 0) μX11_parseComparison 20 [.ref (gB G + 293), .int (0 : Int32), lvU] [] m Q := by
  refine wp_aload_n dX11_parseComparison_20 rfl ?_
  refine wp_geti (61 : Int32) dX11_parseComparison_21 fX11_269 (Or.inl rfl) (ka hF 293 (by decide)) hy ?_
  refine wp_bipush (60 : Int32) dX11_parseComparison_24 (by decide) ?_
  refine wp_icmp_ne 34 dX11_parseComparison_26 (by decide) (fun _ => ?_) (fun q => absurd q (by decide))
  refine wp_aload_n dX11_parseComparison_34 rfl ?_
  refine wp_geti (61 : Int32) dX11_parseComparison_35 fX11_269 (Or.inl rfl) (ka hF 293 (by decide)) hy ?_
  refine wp_bipush (62 : Int32) dX11_parseComparison_38 (by decide) ?_
  refine wp_icmp_ne 48 dX11_parseComparison_40 (by decide) (fun _ => ?_) (fun q => absurd q (by decide))
  refine wp_aload_n dX11_parseComparison_48 rfl ?_
  refine wp_geti (61 : Int32) dX11_parseComparison_49 fX11_269 (Or.inl rfl) (ka hF 293 (by decide)) hy ?_
  refine wp_bipush (61 : Int32) dX11_parseComparison_52 (by decide) ?_
  refine wp_icmp_ne 62 dX11_parseComparison_54 (by decide) (fun q => absurd (by decide) q) (fun _ => ?_)
  refine wp_bipush (15 : Int32) dX11_parseComparison_57 (by decide) ?_
  refine wp_goto 63 dX11_parseComparison_59 (by decide) ?_
  refine wp_istore_n dX11_parseComparison_63 (by decide) rfl ?_
  refine wp_aload_n dX11_parseComparison_64 rfl ?_
  refine wp_iload_n dX11_parseComparison_65 rfl ?_
  refine wp_iconst (-1 : Int32) dX11_parseComparison_66 (by decide) ?_
  refine wp_icmp_eq 74 dX11_parseComparison_67 (by decide) (fun q => absurd q (by decide)) (fun _ => ?_)
  refine wp_iconst (1 : Int32) dX11_parseComparison_70 (by decide) ?_
  refine wp_goto 75 dX11_parseComparison_71 (by decide) ?_
  refine wp_iconst (1 : Int32) dX11_parseComparison_75 (by decide) ?_
  refine wp_callV (As := [.int (1 : Int32), .int (1 : Int32)]) (S := []) (b' := (0, 0)) (b := (0, 0)) dX11_parseComparison_76 MX11_304 (ka hF 293 (by decide)) rfl rfl rfl rfl (Nat.le_of_ble_eq_true rfl) ?_
  refine WPM.of pX11 (Nat.le_of_ble_eq_true rfl) rfl ?_
  refine wp_iload_n dX11_require_0 rfl ?_
  refine wp_if_ne 24 dX11_require_1 (by decide) (fun _ => ?_) (fun q => absurd q (by decide))
  refine wp_vret dX11_require_24 rfl ?_
  show WP G (d + 16) (0, 0) μX11_parseComparison 79 [.ref (gB G + 293), .int (0 : Int32), .int (15 : Int32)] [] m _
  refine wp_aload_n dX11_parseComparison_79 rfl ?_
  refine wp_callV (As := []) (S := []) (b' := (0, 0)) (b := (0, 0)) dX11_parseComparison_80 MX11_308 (ka hF 293 (by decide)) rfl rfl rfl rfl (Nat.le_of_ble_eq_true rfl) ?_
  exact e1

theorem cE061 {G : Cx} {d : Nat} {m : Mm} {Q : Option Value → Mm → Prop}  (hF : Full G m) (he : fi m 1118 (gB G + 293) = (0 : Int32)) 
    (e1 : WPM G (d + 15) (0, 0) μX11_parseSum [.ref (gB G + 293)] m (fun r' m' => WP G (d + 16) (0, 0) μX11_parseComparison 94 [.ref (gB G + 293), .int (0 : Int32), .int (15 : Int32)] (r'.toList ++ []) m' Q)) :
    WP G (d + 16) (0, 0) μX11_parseComparison 83 [.ref (gB G + 293), .int (0 : Int32), .int (15 : Int32)] [] m Q := by
  refine wp_aload_n dX11_parseComparison_83 rfl ?_
  refine wp_geti (0 : Int32) dX11_parseComparison_84 fX11_298 (Or.inl rfl) (ka hF 293 (by decide)) he ?_
  refine wp_if_ne 94 dX11_parseComparison_87 (by decide) (fun q => absurd (by decide) q) (fun _ => ?_)
  refine wp_aload_n dX11_parseComparison_90 rfl ?_
  refine wp_callV (As := []) (S := []) (b' := (0, 0)) (b := (0, 0)) dX11_parseComparison_91 MX11_375 (ka hF 293 (by decide)) rfl rfl rfl rfl (Nat.le_of_ble_eq_true rfl) ?_
  exact e1

theorem cF061 {G : Cx} {d : Nat} {m : Mm} {Q : Option Value → Mm → Prop} {s : Nat} (hF : Full G m) (he : fi m 1118 (gB G + 293) = (0 : Int32)) (hz : fi m 1124 (gB G + 293) = nI s) (hs5 : s < 500) 
    (e1 : Q none (wfi (wai (wai m (gB G + 306) (2 * s) (15 : Int32)) (gB G + 306) (2 * s + 1) (0 : Int32)) 1124 (gB G + 293) (nI (s + 1)))) :
    WP G (d + 16) (0, 0) μX11_parseComparison 94 [.ref (gB G + 293), .int (0 : Int32), .int (15 : Int32)] [] m Q := by
  refine wp_aload_n dX11_parseComparison_94 rfl ?_
  refine wp_iload_n dX11_parseComparison_95 rfl ?_
  refine wp_iconst (0 : Int32) dX11_parseComparison_96 (by decide) ?_
  refine wp_callV (As := [.int (15 : Int32), .int (0 : Int32)]) (S := []) (b' := (0, 0)) (b := (0, 0)) dX11_parseComparison_97 MX11_330 (ka hF 293 (by decide)) rfl rfl rfl rfl (Nat.le_of_ble_eq_true rfl) ?_
  refine WPM.of pX11 (Nat.le_of_ble_eq_true rfl) rfl ?_
  refine wp_aload_n dX11_emit_0 rfl ?_
  refine wp_geti (0 : Int32) dX11_emit_1 fX11_298 (Or.inl rfl) (ka hF 293 (by decide)) he ?_
  refine wp_if_ne 43 dX11_emit_4 (by decide) (fun q => absurd (by decide) q) (fun _ => ?_)
  refine wp_aload_n dX11_emit_7 rfl ?_
  refine wp_getr (gB G + 306) dX11_emit_8 fX11_52 (ka hF 293 (by decide)) (hF.2 _ _) (rra 13 (isK_le (ka hF 293 (by decide))) (fun _ => rfl)) ?_
  refine wp_iconst (2 : Int32) dX11_emit_11 (by decide) ?_
  refine wp_aload_n dX11_emit_12 rfl ?_
  refine wp_geti (nI s) dX11_emit_13 fX11_311 (Or.inl rfl) (ka hF 293 (by decide)) hz ?_
  refine wp_imulv (nI (2 * s)) dX11_emit_16 (nmul (a := 2) (b := s) (by omega)) ?_
  refine wp_iload_n dX11_emit_17 rfl ?_
  refine wp_iastk (n := 1000) (2 * s) dX11_emit_18 (ka hF 306 (by decide)) (la 306) (vin (by omega) (by decide))  (nIc (by omega)) ?_
  have hF1 := Full_wai (gB G + 306) (2 * s) (15 : Int32) hF
  refine wp_aload_n dX11_emit_19 rfl ?_
  refine wp_getr (gB G + 306) dX11_emit_20 fX11_52 (ka hF1 293 (by decide)) (hF1.2 _ _) (rra 13 (isK_le (ka hF1 293 (by decide))) (fun _ => rfl)) ?_
  refine wp_iconst (2 : Int32) dX11_emit_23 (by decide) ?_
  refine wp_aload_n dX11_emit_24 rfl ?_
  refine wp_geti (nI s) dX11_emit_25 fX11_311 (Or.inl rfl) (ka hF1 293 (by decide)) (fi_wai.trans hz) ?_
  refine wp_imulv (nI (2 * s)) dX11_emit_28 (nmul (a := 2) (b := s) (by omega)) ?_
  refine wp_iconst (1 : Int32) dX11_emit_29 (by decide) ?_
  refine wp_iaddv (nI (2 * s + 1)) dX11_emit_30 (nadd (a := 2 * s) (b := 1) (by omega)) ?_
  refine wp_iload_n dX11_emit_31 rfl ?_
  refine wp_iastk (n := 1000) (2 * s + 1) dX11_emit_32 (ka hF1 306 (by decide)) (la 306) (vin (by omega) (by decide))  (nIc (by omega)) ?_
  have hF2 := Full_wai (gB G + 306) (2 * s + 1) (0 : Int32) hF1
  refine wp_aload_n dX11_emit_33 rfl ?_
  refine wp_dup dX11_emit_34 rfl ?_
  refine wp_geti (nI s) dX11_emit_35 fX11_311 (Or.inl rfl) (ka hF2 293 (by decide)) (fi_wai.trans (fi_wai.trans hz)) ?_
  refine wp_iconst (1 : Int32) dX11_emit_38 (by decide) ?_
  refine wp_iaddv (nI (s + 1)) dX11_emit_39 (nadd (a := s) (b := 1) (by omega)) ?_
  refine wp_puti dX11_emit_40 pX11_311 (ka hF2 293 (by decide)) ?_
  have hF3 := Full_wfi 1124 (gB G + 293) (nI (s + 1)) hF2
  refine wp_vret dX11_emit_43 rfl ?_
  show WP G (d + 16) (0, 0) μX11_parseComparison 100 [.ref (gB G + 293), .int (0 : Int32), .int (15 : Int32)] [] (wfi (wai (wai m (gB G + 306) (2 * s) (15 : Int32)) (gB G + 306) (2 * s + 1) (0 : Int32)) 1124 (gB G + 293) (nI (s + 1))) _
  refine wp_iload_n dX11_parseComparison_100 rfl ?_
  refine wp_if_eq 111 dX11_parseComparison_101 (by decide) (fun _ => ?_) (fun q => absurd (by decide) q)
  exact wp_vret dX11_parseComparison_111 rfl (e1)

theorem cG061 {G : Cx} {d : Nat} {m : Mm} {Q : Option Value → Mm → Prop} {c : Int32} (hF : Full G m) (he : fi m 1118 (gB G + 293) = c) (hc : ¬ c = 0) 
    (e1 : Q none m) :
    WP G (d + 16) (0, 0) μX11_parseComparison 94 [.ref (gB G + 293), .int (0 : Int32), .int (15 : Int32)] [] m Q := by
  refine wp_aload_n dX11_parseComparison_94 rfl ?_
  refine wp_iload_n dX11_parseComparison_95 rfl ?_
  refine wp_iconst (0 : Int32) dX11_parseComparison_96 (by decide) ?_
  refine wp_callV (As := [.int (15 : Int32), .int (0 : Int32)]) (S := []) (b' := (0, 0)) (b := (0, 0)) dX11_parseComparison_97 MX11_330 (ka hF 293 (by decide)) rfl rfl rfl rfl (Nat.le_of_ble_eq_true rfl) ?_
  refine WPM.of pX11 (Nat.le_of_ble_eq_true rfl) rfl ?_
  refine wp_aload_n dX11_emit_0 rfl ?_
  refine wp_geti c dX11_emit_1 fX11_298 (Or.inl rfl) (ka hF 293 (by decide)) he ?_
  refine wp_if_ne 43 dX11_emit_4 (by decide) (fun _ => ?_) (fun q => absurd q hc)
  refine wp_vret dX11_emit_43 rfl ?_
  show WP G (d + 16) (0, 0) μX11_parseComparison 100 [.ref (gB G + 293), .int (0 : Int32), .int (15 : Int32)] [] m _
  refine wp_iload_n dX11_parseComparison_100 rfl ?_
  refine wp_if_eq 111 dX11_parseComparison_101 (by decide) (fun _ => ?_) (fun q => absurd (by decide) q)
  exact wp_vret dX11_parseComparison_111 rfl (e1)

theorem cX0 {G : Cx} {d : Nat} {m : Mm} {Q : Option Value → Mm → Prop} {y st : Nat} (hF : Full G m) (he : fi m 1118 (gB G + 293) = (0 : Int32)) (hy : fi m 1115 (gB G + 293) = nI y) (hst : fi m 1113 (gB G + 293) = nI st) (hy9 : y < 1000) (h60 : ¬ y = 60) (h62 : ¬ y = 62) (h61 : ¬ y = 61) 
    (e1 : WPM G (d + 15) (0, 0) μX11_advance [.ref (gB G + 293)] (wfi (wfi m 1118 (gB G + 293) (1 : Int32)) 1119 (gB G + 293) (nI st)) (fun r' m' => WP G (d + 16) (0, 0) μX11_parseComparison 83 [.ref (gB G + 293), .int (0 : Int32), .int (-1 : Int32)] (r'.toList ++ []) m' Q)) :
    WP G (d + 16) (0, 0) μX11_parseComparison 20 [.ref (gB G + 293), .int (0 : Int32), lvU] [] m Q := by
  refine wp_aload_n dX11_parseComparison_20 rfl ?_
  refine wp_geti (nI y) dX11_parseComparison_21 fX11_269 (Or.inl rfl) (ka hF 293 (by decide)) hy ?_
  refine wp_bipush (60 : Int32) dX11_parseComparison_24 (by decide) ?_
  refine wp_icmp_ne 34 dX11_parseComparison_26 (by decide) (fun _ => ?_) (fun q => absurd q (fun z => h60 (neq z (by omega) (by omega))))
  refine wp_aload_n dX11_parseComparison_34 rfl ?_
  refine wp_geti (nI y) dX11_parseComparison_35 fX11_269 (Or.inl rfl) (ka hF 293 (by decide)) hy ?_
  refine wp_bipush (62 : Int32) dX11_parseComparison_38 (by decide) ?_
  refine wp_icmp_ne 48 dX11_parseComparison_40 (by decide) (fun _ => ?_) (fun q => absurd q (fun z => h62 (neq z (by omega) (by omega))))
  refine wp_aload_n dX11_parseComparison_48 rfl ?_
  refine wp_geti (nI y) dX11_parseComparison_49 fX11_269 (Or.inl rfl) (ka hF 293 (by decide)) hy ?_
  refine wp_bipush (61 : Int32) dX11_parseComparison_52 (by decide) ?_
  refine wp_icmp_ne 62 dX11_parseComparison_54 (by decide) (fun _ => ?_) (fun q => absurd q (fun z => h61 (neq z (by omega) (by omega))))
  refine wp_iconst (-1 : Int32) dX11_parseComparison_62 (by decide) ?_
  refine wp_istore_n dX11_parseComparison_63 (by decide) rfl ?_
  refine wp_aload_n dX11_parseComparison_64 rfl ?_
  refine wp_iload_n dX11_parseComparison_65 rfl ?_
  refine wp_iconst (-1 : Int32) dX11_parseComparison_66 (by decide) ?_
  refine wp_icmp_eq 74 dX11_parseComparison_67 (by decide) (fun _ => ?_) (fun q => absurd (by decide) q)
  refine wp_iconst (0 : Int32) dX11_parseComparison_74 (by decide) ?_
  refine wp_iconst (1 : Int32) dX11_parseComparison_75 (by decide) ?_
  refine wp_callV (As := [.int (0 : Int32), .int (1 : Int32)]) (S := []) (b' := (0, 0)) (b := (0, 0)) dX11_parseComparison_76 MX11_304 (ka hF 293 (by decide)) rfl rfl rfl rfl (Nat.le_of_ble_eq_true rfl) ?_
  refine WPM.of pX11 (Nat.le_of_ble_eq_true rfl) rfl ?_
  refine wp_iload_n dX11_require_0 rfl ?_
  refine wp_if_ne 24 dX11_require_1 (by decide) (fun q => absurd (by decide) q) (fun _ => ?_)
  refine wp_aload_n dX11_require_4 rfl ?_
  refine wp_geti (0 : Int32) dX11_require_5 fX11_298 (Or.inl rfl) (ka hF 293 (by decide)) he ?_
  refine wp_if_ne 24 dX11_require_8 (by decide) (fun q => absurd (by decide) q) (fun _ => ?_)
  refine wp_aload_n dX11_require_11 rfl ?_
  refine wp_iload_n dX11_require_12 rfl ?_
  refine wp_puti dX11_require_13 pX11_298 (ka hF 293 (by decide)) ?_
  have hF1 := Full_wfi 1118 (gB G + 293) (1 : Int32) hF
  refine wp_aload_n dX11_require_16 rfl ?_
  refine wp_aload_n dX11_require_17 rfl ?_
  refine wp_geti (nI st) dX11_require_18 fX11_256 (Or.inl rfl) (ka hF1 293 (by decide)) ((fi_ne (by decide)).trans hst) ?_
  refine wp_puti dX11_require_21 pX11_45 (ka hF1 293 (by decide)) ?_
  have hF2 := Full_wfi 1119 (gB G + 293) (nI st) hF1
  refine wp_vret dX11_require_24 rfl ?_
  show WP G (d + 16) (0, 0) μX11_parseComparison 79 [.ref (gB G + 293), .int (0 : Int32), .int (-1 : Int32)] [] (wfi (wfi m 1118 (gB G + 293) (1 : Int32)) 1119 (gB G + 293) (nI st)) _
  refine wp_aload_n dX11_parseComparison_79 rfl ?_
  refine wp_callV (As := []) (S := []) (b' := (0, 0)) (b := (0, 0)) dX11_parseComparison_80 MX11_308 (ka hF2 293 (by decide)) rfl rfl rfl rfl (Nat.le_of_ble_eq_true rfl) ?_
  exact e1

theorem cY0 {G : Cx} {d : Nat} {m : Mm} {Q : Option Value → Mm → Prop} {c : Int32} (hF : Full G m) (he : fi m 1118 (gB G + 293) = c) (hc : ¬ c = 0) 
    (e1 : ¬ (fi m 1115 (gB G + 293)) = (60 : Int32) → ¬ (fi m 1115 (gB G + 293)) = (62 : Int32) → ¬ (fi m 1115 (gB G + 293)) = (61 : Int32) → WPM G (d + 15) (0, 0) μX11_advance [.ref (gB G + 293)] m (fun r' m' => WP G (d + 16) (0, 0) μX11_parseComparison 83 [.ref (gB G + 293), .int (0 : Int32), .int (-1 : Int32)] (r'.toList ++ []) m' Q))
    (e2 : ¬ (fi m 1115 (gB G + 293)) = (60 : Int32) → ¬ (fi m 1115 (gB G + 293)) = (62 : Int32) → (fi m 1115 (gB G + 293)) = (61 : Int32) → WPM G (d + 15) (0, 0) μX11_advance [.ref (gB G + 293)] m (fun r' m' => WP G (d + 16) (0, 0) μX11_parseComparison 83 [.ref (gB G + 293), .int (0 : Int32), .int (15 : Int32)] (r'.toList ++ []) m' Q))
    (e3 : ¬ (fi m 1115 (gB G + 293)) = (60 : Int32) → (fi m 1115 (gB G + 293)) = (62 : Int32) → WPM G (d + 15) (0, 0) μX11_advance [.ref (gB G + 293)] m (fun r' m' => WP G (d + 16) (0, 0) μX11_parseComparison 83 [.ref (gB G + 293), .int (0 : Int32), .int (14 : Int32)] (r'.toList ++ []) m' Q))
    (e4 : (fi m 1115 (gB G + 293)) = (60 : Int32) → WPM G (d + 15) (0, 0) μX11_advance [.ref (gB G + 293)] m (fun r' m' => WP G (d + 16) (0, 0) μX11_parseComparison 83 [.ref (gB G + 293), .int (0 : Int32), .int (13 : Int32)] (r'.toList ++ []) m' Q)) :
    WP G (d + 16) (0, 0) μX11_parseComparison 20 [.ref (gB G + 293), .int (0 : Int32), lvU] [] m Q := by
  refine wp_aload_n dX11_parseComparison_20 rfl ?_
  refine wp_geti (fi m 1115 (gB G + 293)) dX11_parseComparison_21 fX11_269 (Or.inl rfl) (ka hF 293 (by decide)) rfl ?_
  refine wp_bipush (60 : Int32) dX11_parseComparison_24 (by decide) ?_
  refine wp_icmp_ne 34 dX11_parseComparison_26 (by decide) (fun q1 => ?_) (fun q2 => ?_)
  · skip
    refine wp_aload_n dX11_parseComparison_34 rfl ?_
    refine wp_geti (fi m 1115 (gB G + 293)) dX11_parseComparison_35 fX11_269 (Or.inl rfl) (ka hF 293 (by decide)) rfl ?_
    refine wp_bipush (62 : Int32) dX11_parseComparison_38 (by decide) ?_
    refine wp_icmp_ne 48 dX11_parseComparison_40 (by decide) (fun q3 => ?_) (fun q4 => ?_)
    · skip
      refine wp_aload_n dX11_parseComparison_48 rfl ?_
      refine wp_geti (fi m 1115 (gB G + 293)) dX11_parseComparison_49 fX11_269 (Or.inl rfl) (ka hF 293 (by decide)) rfl ?_
      refine wp_bipush (61 : Int32) dX11_parseComparison_52 (by decide) ?_
      refine wp_icmp_ne 62 dX11_parseComparison_54 (by decide) (fun q5 => ?_) (fun q6 => ?_)
      · skip
        refine wp_iconst (-1 : Int32) dX11_parseComparison_62 (by decide) ?_
        refine wp_istore_n dX11_parseComparison_63 (by decide) rfl ?_
        refine wp_aload_n dX11_parseComparison_64 rfl ?_
        refine wp_iload_n dX11_parseComparison_65 rfl ?_
        refine wp_iconst (-1 : Int32) dX11_parseComparison_66 (by decide) ?_
        refine wp_icmp_eq 74 dX11_parseComparison_67 (by decide) (fun _ => ?_) (fun q => absurd (by decide) q)
        refine wp_iconst (0 : Int32) dX11_parseComparison_74 (by decide) ?_
        refine wp_iconst (1 : Int32) dX11_parseComparison_75 (by decide) ?_
        refine wp_callV (As := [.int (0 : Int32), .int (1 : Int32)]) (S := []) (b' := (0, 0)) (b := (0, 0)) dX11_parseComparison_76 MX11_304 (ka hF 293 (by decide)) rfl rfl rfl rfl (Nat.le_of_ble_eq_true rfl) ?_
        refine WPM.of pX11 (Nat.le_of_ble_eq_true rfl) rfl ?_
        refine wp_iload_n dX11_require_0 rfl ?_
        refine wp_if_ne 24 dX11_require_1 (by decide) (fun q => absurd (by decide) q) (fun _ => ?_)
        refine wp_aload_n dX11_require_4 rfl ?_
        refine wp_geti c dX11_require_5 fX11_298 (Or.inl rfl) (ka hF 293 (by decide)) he ?_
        refine wp_if_ne 24 dX11_require_8 (by decide) (fun _ => ?_) (fun q => absurd q hc)
        refine wp_vret dX11_require_24 rfl ?_
        show WP G (d + 16) (0, 0) μX11_parseComparison 79 [.ref (gB G + 293), .int (0 : Int32), .int (-1 : Int32)] [] m _
        refine wp_aload_n dX11_parseComparison_79 rfl ?_
        refine wp_callV (As := []) (S := []) (b' := (0, 0)) (b := (0, 0)) dX11_parseComparison_80 MX11_308 (ka hF 293 (by decide)) rfl rfl rfl rfl (Nat.le_of_ble_eq_true rfl) ?_
        exact e1 q1 q3 q5
      · skip
        refine wp_bipush (15 : Int32) dX11_parseComparison_57 (by decide) ?_
        refine wp_goto 63 dX11_parseComparison_59 (by decide) ?_
        refine wp_istore_n dX11_parseComparison_63 (by decide) rfl ?_
        refine wp_aload_n dX11_parseComparison_64 rfl ?_
        refine wp_iload_n dX11_parseComparison_65 rfl ?_
        refine wp_iconst (-1 : Int32) dX11_parseComparison_66 (by decide) ?_
        refine wp_icmp_eq 74 dX11_parseComparison_67 (by decide) (fun q => absurd q (by decide)) (fun _ => ?_)
        refine wp_iconst (1 : Int32) dX11_parseComparison_70 (by decide) ?_
        refine wp_goto 75 dX11_parseComparison_71 (by decide) ?_
        refine wp_iconst (1 : Int32) dX11_parseComparison_75 (by decide) ?_
        refine wp_callV (As := [.int (1 : Int32), .int (1 : Int32)]) (S := []) (b' := (0, 0)) (b := (0, 0)) dX11_parseComparison_76 MX11_304 (ka hF 293 (by decide)) rfl rfl rfl rfl (Nat.le_of_ble_eq_true rfl) ?_
        refine WPM.of pX11 (Nat.le_of_ble_eq_true rfl) rfl ?_
        refine wp_iload_n dX11_require_0 rfl ?_
        refine wp_if_ne 24 dX11_require_1 (by decide) (fun _ => ?_) (fun q => absurd q (by decide))
        refine wp_vret dX11_require_24 rfl ?_
        show WP G (d + 16) (0, 0) μX11_parseComparison 79 [.ref (gB G + 293), .int (0 : Int32), .int (15 : Int32)] [] m _
        refine wp_aload_n dX11_parseComparison_79 rfl ?_
        refine wp_callV (As := []) (S := []) (b' := (0, 0)) (b := (0, 0)) dX11_parseComparison_80 MX11_308 (ka hF 293 (by decide)) rfl rfl rfl rfl (Nat.le_of_ble_eq_true rfl) ?_
        exact e2 q1 q3 q6
    · skip
      refine wp_bipush (14 : Int32) dX11_parseComparison_43 (by decide) ?_
      refine wp_goto 63 dX11_parseComparison_45 (by decide) ?_
      refine wp_istore_n dX11_parseComparison_63 (by decide) rfl ?_
      refine wp_aload_n dX11_parseComparison_64 rfl ?_
      refine wp_iload_n dX11_parseComparison_65 rfl ?_
      refine wp_iconst (-1 : Int32) dX11_parseComparison_66 (by decide) ?_
      refine wp_icmp_eq 74 dX11_parseComparison_67 (by decide) (fun q => absurd q (by decide)) (fun _ => ?_)
      refine wp_iconst (1 : Int32) dX11_parseComparison_70 (by decide) ?_
      refine wp_goto 75 dX11_parseComparison_71 (by decide) ?_
      refine wp_iconst (1 : Int32) dX11_parseComparison_75 (by decide) ?_
      refine wp_callV (As := [.int (1 : Int32), .int (1 : Int32)]) (S := []) (b' := (0, 0)) (b := (0, 0)) dX11_parseComparison_76 MX11_304 (ka hF 293 (by decide)) rfl rfl rfl rfl (Nat.le_of_ble_eq_true rfl) ?_
      refine WPM.of pX11 (Nat.le_of_ble_eq_true rfl) rfl ?_
      refine wp_iload_n dX11_require_0 rfl ?_
      refine wp_if_ne 24 dX11_require_1 (by decide) (fun _ => ?_) (fun q => absurd q (by decide))
      refine wp_vret dX11_require_24 rfl ?_
      show WP G (d + 16) (0, 0) μX11_parseComparison 79 [.ref (gB G + 293), .int (0 : Int32), .int (14 : Int32)] [] m _
      refine wp_aload_n dX11_parseComparison_79 rfl ?_
      refine wp_callV (As := []) (S := []) (b' := (0, 0)) (b := (0, 0)) dX11_parseComparison_80 MX11_308 (ka hF 293 (by decide)) rfl rfl rfl rfl (Nat.le_of_ble_eq_true rfl) ?_
      exact e3 q1 q4
  · skip
    refine wp_bipush (13 : Int32) dX11_parseComparison_29 (by decide) ?_
    refine wp_goto 63 dX11_parseComparison_31 (by decide) ?_
    refine wp_istore_n dX11_parseComparison_63 (by decide) rfl ?_
    refine wp_aload_n dX11_parseComparison_64 rfl ?_
    refine wp_iload_n dX11_parseComparison_65 rfl ?_
    refine wp_iconst (-1 : Int32) dX11_parseComparison_66 (by decide) ?_
    refine wp_icmp_eq 74 dX11_parseComparison_67 (by decide) (fun q => absurd q (by decide)) (fun _ => ?_)
    refine wp_iconst (1 : Int32) dX11_parseComparison_70 (by decide) ?_
    refine wp_goto 75 dX11_parseComparison_71 (by decide) ?_
    refine wp_iconst (1 : Int32) dX11_parseComparison_75 (by decide) ?_
    refine wp_callV (As := [.int (1 : Int32), .int (1 : Int32)]) (S := []) (b' := (0, 0)) (b := (0, 0)) dX11_parseComparison_76 MX11_304 (ka hF 293 (by decide)) rfl rfl rfl rfl (Nat.le_of_ble_eq_true rfl) ?_
    refine WPM.of pX11 (Nat.le_of_ble_eq_true rfl) rfl ?_
    refine wp_iload_n dX11_require_0 rfl ?_
    refine wp_if_ne 24 dX11_require_1 (by decide) (fun _ => ?_) (fun q => absurd q (by decide))
    refine wp_vret dX11_require_24 rfl ?_
    show WP G (d + 16) (0, 0) μX11_parseComparison 79 [.ref (gB G + 293), .int (0 : Int32), .int (13 : Int32)] [] m _
    refine wp_aload_n dX11_parseComparison_79 rfl ?_
    refine wp_callV (As := []) (S := []) (b' := (0, 0)) (b := (0, 0)) dX11_parseComparison_80 MX11_308 (ka hF 293 (by decide)) rfl rfl rfl rfl (Nat.le_of_ble_eq_true rfl) ?_
    exact e4 q2

theorem cZ0 {G : Cx} {d : Nat} {m : Mm} {Q : Option Value → Mm → Prop} {c o : Int32} (hF : Full G m) (he : fi m 1118 (gB G + 293) = c) (hc : ¬ c = 0) 
    (e1 : Q none m) :
    WP G (d + 16) (0, 0) μX11_parseComparison 83 [.ref (gB G + 293), .int (0 : Int32), .int o] [] m Q := by
  refine wp_aload_n dX11_parseComparison_83 rfl ?_
  refine wp_geti c dX11_parseComparison_84 fX11_298 (Or.inl rfl) (ka hF 293 (by decide)) he ?_
  refine wp_if_ne 94 dX11_parseComparison_87 (by decide) (fun _ => ?_) (fun q => absurd q hc)
  refine wp_aload_n dX11_parseComparison_94 rfl ?_
  refine wp_iload_n dX11_parseComparison_95 rfl ?_
  refine wp_iconst (0 : Int32) dX11_parseComparison_96 (by decide) ?_
  refine wp_callV (As := [.int o, .int (0 : Int32)]) (S := []) (b' := (0, 0)) (b := (0, 0)) dX11_parseComparison_97 MX11_330 (ka hF 293 (by decide)) rfl rfl rfl rfl (Nat.le_of_ble_eq_true rfl) ?_
  refine WPM.of pX11 (Nat.le_of_ble_eq_true rfl) rfl ?_
  refine wp_aload_n dX11_emit_0 rfl ?_
  refine wp_geti c dX11_emit_1 fX11_298 (Or.inl rfl) (ka hF 293 (by decide)) he ?_
  refine wp_if_ne 43 dX11_emit_4 (by decide) (fun _ => ?_) (fun q => absurd q hc)
  refine wp_vret dX11_emit_43 rfl ?_
  show WP G (d + 16) (0, 0) μX11_parseComparison 100 [.ref (gB G + 293), .int (0 : Int32), .int o] [] m _
  refine wp_iload_n dX11_parseComparison_100 rfl ?_
  refine wp_if_eq 111 dX11_parseComparison_101 (by decide) (fun _ => ?_) (fun q => absurd (by decide) q)
  exact wp_vret dX11_parseComparison_111 rfl (e1)

theorem bA {G : Cx} {d : Nat} {m : Mm} {Q : Option Value → Mm → Prop}  (hF : Full G m) 
    (e1 : WPM G (d + 17) (0, 0) μX11_parseComparison [.ref (gB G + 293)] m (fun r' m' => WP G (d + 18) (0, 0) μX11_parseBoth 4 [.ref (gB G + 293)] (r'.toList ++ []) m' Q)) :
    WPM G (d + 18) (0, 0) μX11_parseBoth [.ref (gB G + 293)] m Q := by
  refine WPM.of pX11 (Nat.le_of_ble_eq_true rfl) rfl ?_
  refine wp_aload_n dX11_parseBoth_0 rfl ?_
  refine wp_callV (As := []) (S := []) (b' := (0, 0)) (b := (0, 0)) dX11_parseBoth_1 MX11_378 (ka hF 293 (by decide)) rfl rfl rfl rfl (Nat.le_of_ble_eq_true rfl) ?_
  exact e1

theorem bE {G : Cx} {d : Nat} {m : Mm} {Q : Option Value → Mm → Prop} {c : Int32} (hF : Full G m) (he : fi m 1118 (gB G + 293) = c) (hc : ¬ c = 0) 
    (e1 : Q none m) :
    WP G (d + 18) (0, 0) μX11_parseBoth 4 [.ref (gB G + 293)] [] m Q := by
  refine wp_aload_n dX11_parseBoth_4 rfl ?_
  refine wp_geti c dX11_parseBoth_5 fX11_298 (Or.inl rfl) (ka hF 293 (by decide)) he ?_
  refine wp_if_ne 39 dX11_parseBoth_8 (by decide) (fun _ => ?_) (fun q => absurd q hc)
  exact wp_vret dX11_parseBoth_39 rfl (e1)

theorem bC {G : Cx} {d : Nat} {m : Mm} {Q : Option Value → Mm → Prop}  (hF : Full G m) (he : fi m 1118 (gB G + 293) = (0 : Int32)) 
    (e1 : WPM G (d + 17) (0, 0) μX11_isWord [.ref (gB G + 293), .ref (gK G 10)] m (fun r' m' => WP G (d + 18) (0, 0) μX11_parseBoth 18 [.ref (gB G + 293)] (r'.toList ++ []) m' Q)) :
    WP G (d + 18) (0, 0) μX11_parseBoth 4 [.ref (gB G + 293)] [] m Q := by
  refine wp_aload_n dX11_parseBoth_4 rfl ?_
  refine wp_geti (0 : Int32) dX11_parseBoth_5 fX11_298 (Or.inl rfl) (ka hF 293 (by decide)) he ?_
  refine wp_if_ne 39 dX11_parseBoth_8 (by decide) (fun q => absurd (by decide) q) (fun _ => ?_)
  refine wp_aload_n dX11_parseBoth_11 rfl ?_
  refine wp_ldcwS (j := 10) dX11_parseBoth_12 (by decide) rfl ?_
  refine wp_callV (As := [.ref (gK G 10)]) (S := []) (b' := (0, 0)) (b := (0, 0)) dX11_parseBoth_15 MX11_316 (ka hF 293 (by decide)) rfl rfl rfl rfl (Nat.le_of_ble_eq_true rfl) ?_
  exact e1

theorem bD0 {G : Cx} {d : Nat} {m : Mm} {Q : Option Value → Mm → Prop}  (hF : Full G m) 
    (e1 : Q none m) :
    WP G (d + 18) (0, 0) μX11_parseBoth 18 [.ref (gB G + 293)] [.int (0 : Int32)] m Q := by
  refine wp_if_eq 39 dX11_parseBoth_18 (by decide) (fun _ => ?_) (fun q => absurd (by decide) q)
  exact wp_vret dX11_parseBoth_39 rfl (e1)

theorem bD1 {G : Cx} {d : Nat} {m : Mm} {Q : Option Value → Mm → Prop}  (hF : Full G m) 
    (e1 : WPM G (d + 17) (0, 0) μX11_advance [.ref (gB G + 293)] m (fun r' m' => WP G (d + 18) (0, 0) μX11_parseBoth 25 [.ref (gB G + 293)] (r'.toList ++ []) m' Q)) :
    WP G (d + 18) (0, 0) μX11_parseBoth 18 [.ref (gB G + 293)] [.int (1 : Int32)] m Q := by
  refine wp_if_eq 39 dX11_parseBoth_18 (by decide) (fun q => absurd q (by decide)) (fun _ => ?_)
  refine wp_aload_n dX11_parseBoth_21 rfl ?_
  refine wp_callV (As := []) (S := []) (b' := (0, 0)) (b := (0, 0)) dX11_parseBoth_22 MX11_308 (ka hF 293 (by decide)) rfl rfl rfl rfl (Nat.le_of_ble_eq_true rfl) ?_
  exact e1

theorem bF {G : Cx} {d : Nat} {m : Mm} {Q : Option Value → Mm → Prop}  (hF : Full G m) 
    (e1 : WPM G (d + 17) (0, 0) μX11_parseComparison [.ref (gB G + 293)] m (fun r' m' => WP G (d + 18) (0, 0) μX11_parseBoth 29 [.ref (gB G + 293)] (r'.toList ++ []) m' Q)) :
    WP G (d + 18) (0, 0) μX11_parseBoth 25 [.ref (gB G + 293)] [] m Q := by
  refine wp_aload_n dX11_parseBoth_25 rfl ?_
  refine wp_callV (As := []) (S := []) (b' := (0, 0)) (b := (0, 0)) dX11_parseBoth_26 MX11_378 (ka hF 293 (by decide)) rfl rfl rfl rfl (Nat.le_of_ble_eq_true rfl) ?_
  exact e1

theorem bG {G : Cx} {d : Nat} {m : Mm} {Q : Option Value → Mm → Prop} {s : Nat} (hF : Full G m) (he : fi m 1118 (gB G + 293) = (0 : Int32)) (hz : fi m 1124 (gB G + 293) = nI s) (hs5 : s < 500) 
    (e1 : WP G (d + 18) (0, 0) μX11_parseBoth 4 [.ref (gB G + 293)] [] (wfi (wai (wai m (gB G + 306) (2 * s) (17 : Int32)) (gB G + 306) (2 * s + 1) (0 : Int32)) 1124 (gB G + 293) (nI (s + 1))) Q) :
    WP G (d + 18) (0, 0) μX11_parseBoth 29 [.ref (gB G + 293)] [] m Q := by
  refine wp_aload_n dX11_parseBoth_29 rfl ?_
  refine wp_bipush (17 : Int32) dX11_parseBoth_30 (by decide) ?_
  refine wp_iconst (0 : Int32) dX11_parseBoth_32 (by decide) ?_
  refine wp_callV (As := [.int (17 : Int32), .int (0 : Int32)]) (S := []) (b' := (0, 0)) (b := (0, 0)) dX11_parseBoth_33 MX11_330 (ka hF 293 (by decide)) rfl rfl rfl rfl (Nat.le_of_ble_eq_true rfl) ?_
  refine WPM.of pX11 (Nat.le_of_ble_eq_true rfl) rfl ?_
  refine wp_aload_n dX11_emit_0 rfl ?_
  refine wp_geti (0 : Int32) dX11_emit_1 fX11_298 (Or.inl rfl) (ka hF 293 (by decide)) he ?_
  refine wp_if_ne 43 dX11_emit_4 (by decide) (fun q => absurd (by decide) q) (fun _ => ?_)
  refine wp_aload_n dX11_emit_7 rfl ?_
  refine wp_getr (gB G + 306) dX11_emit_8 fX11_52 (ka hF 293 (by decide)) (hF.2 _ _) (rra 13 (isK_le (ka hF 293 (by decide))) (fun _ => rfl)) ?_
  refine wp_iconst (2 : Int32) dX11_emit_11 (by decide) ?_
  refine wp_aload_n dX11_emit_12 rfl ?_
  refine wp_geti (nI s) dX11_emit_13 fX11_311 (Or.inl rfl) (ka hF 293 (by decide)) hz ?_
  refine wp_imulv (nI (2 * s)) dX11_emit_16 (nmul (a := 2) (b := s) (by omega)) ?_
  refine wp_iload_n dX11_emit_17 rfl ?_
  refine wp_iastk (n := 1000) (2 * s) dX11_emit_18 (ka hF 306 (by decide)) (la 306) (vin (by omega) (by decide))  (nIc (by omega)) ?_
  have hF1 := Full_wai (gB G + 306) (2 * s) (17 : Int32) hF
  refine wp_aload_n dX11_emit_19 rfl ?_
  refine wp_getr (gB G + 306) dX11_emit_20 fX11_52 (ka hF1 293 (by decide)) (hF1.2 _ _) (rra 13 (isK_le (ka hF1 293 (by decide))) (fun _ => rfl)) ?_
  refine wp_iconst (2 : Int32) dX11_emit_23 (by decide) ?_
  refine wp_aload_n dX11_emit_24 rfl ?_
  refine wp_geti (nI s) dX11_emit_25 fX11_311 (Or.inl rfl) (ka hF1 293 (by decide)) (fi_wai.trans hz) ?_
  refine wp_imulv (nI (2 * s)) dX11_emit_28 (nmul (a := 2) (b := s) (by omega)) ?_
  refine wp_iconst (1 : Int32) dX11_emit_29 (by decide) ?_
  refine wp_iaddv (nI (2 * s + 1)) dX11_emit_30 (nadd (a := 2 * s) (b := 1) (by omega)) ?_
  refine wp_iload_n dX11_emit_31 rfl ?_
  refine wp_iastk (n := 1000) (2 * s + 1) dX11_emit_32 (ka hF1 306 (by decide)) (la 306) (vin (by omega) (by decide))  (nIc (by omega)) ?_
  have hF2 := Full_wai (gB G + 306) (2 * s + 1) (0 : Int32) hF1
  refine wp_aload_n dX11_emit_33 rfl ?_
  refine wp_dup dX11_emit_34 rfl ?_
  refine wp_geti (nI s) dX11_emit_35 fX11_311 (Or.inl rfl) (ka hF2 293 (by decide)) (fi_wai.trans (fi_wai.trans hz)) ?_
  refine wp_iconst (1 : Int32) dX11_emit_38 (by decide) ?_
  refine wp_iaddv (nI (s + 1)) dX11_emit_39 (nadd (a := s) (b := 1) (by omega)) ?_
  refine wp_puti dX11_emit_40 pX11_311 (ka hF2 293 (by decide)) ?_
  have hF3 := Full_wfi 1124 (gB G + 293) (nI (s + 1)) hF2
  refine wp_vret dX11_emit_43 rfl ?_
  show WP G (d + 18) (0, 0) μX11_parseBoth 36 [.ref (gB G + 293)] [] (wfi (wai (wai m (gB G + 306) (2 * s) (17 : Int32)) (gB G + 306) (2 * s + 1) (0 : Int32)) 1124 (gB G + 293) (nI (s + 1))) _
  refine wp_goto 4 dX11_parseBoth_36 (by decide) ?_
  refine wp_forget [.ref (gB G + 293)] ⟨Or.inl rfl, trivial⟩ ?_
  exact e1

theorem bH {G : Cx} {d : Nat} {m : Mm} {Q : Option Value → Mm → Prop} {c : Int32} (hF : Full G m) (he : fi m 1118 (gB G + 293) = c) (hc : ¬ c = 0) 
    (e1 : WP G (d + 18) (0, 0) μX11_parseBoth 4 [.ref (gB G + 293)] [] m Q) :
    WP G (d + 18) (0, 0) μX11_parseBoth 29 [.ref (gB G + 293)] [] m Q := by
  refine wp_aload_n dX11_parseBoth_29 rfl ?_
  refine wp_bipush (17 : Int32) dX11_parseBoth_30 (by decide) ?_
  refine wp_iconst (0 : Int32) dX11_parseBoth_32 (by decide) ?_
  refine wp_callV (As := [.int (17 : Int32), .int (0 : Int32)]) (S := []) (b' := (0, 0)) (b := (0, 0)) dX11_parseBoth_33 MX11_330 (ka hF 293 (by decide)) rfl rfl rfl rfl (Nat.le_of_ble_eq_true rfl) ?_
  refine WPM.of pX11 (Nat.le_of_ble_eq_true rfl) rfl ?_
  refine wp_aload_n dX11_emit_0 rfl ?_
  refine wp_geti c dX11_emit_1 fX11_298 (Or.inl rfl) (ka hF 293 (by decide)) he ?_
  refine wp_if_ne 43 dX11_emit_4 (by decide) (fun _ => ?_) (fun q => absurd q hc)
  refine wp_vret dX11_emit_43 rfl ?_
  show WP G (d + 18) (0, 0) μX11_parseBoth 36 [.ref (gB G + 293)] [] m _
  refine wp_goto 4 dX11_parseBoth_36 (by decide) ?_
  refine wp_forget [.ref (gB G + 293)] ⟨Or.inl rfl, trivial⟩ ?_
  exact e1

theorem t_A {G : Cx} {d : Nat} {m : Mm} {Q : Option Value → Mm → Prop}  (hF : Full G m) 
    (e1 : WPM G (d + 19) (0, 0) μX11_parseBoth [.ref (gB G + 293)] m (fun r' m' => WP G (d + 20) (0, 0) μX11_parseTest 4 [.ref (gB G + 293)] (r'.toList ++ []) m' Q)) :
    WPM G (d + 20) (0, 0) μX11_parseTest [.ref (gB G + 293)] m Q := by
  refine WPM.of pX11 (Nat.le_of_ble_eq_true rfl) rfl ?_
  refine wp_aload_n dX11_parseTest_0 rfl ?_
  refine wp_callV (As := []) (S := []) (b' := (0, 0)) (b := (0, 0)) dX11_parseTest_1 MX11_383 (ka hF 293 (by decide)) rfl rfl rfl rfl (Nat.le_of_ble_eq_true rfl) ?_
  exact e1

theorem t_E {G : Cx} {d : Nat} {m : Mm} {Q : Option Value → Mm → Prop} {c : Int32} (hF : Full G m) (he : fi m 1118 (gB G + 293) = c) (hc : ¬ c = 0) 
    (e1 : Q none m) :
    WP G (d + 20) (0, 0) μX11_parseTest 4 [.ref (gB G + 293)] [] m Q := by
  refine wp_aload_n dX11_parseTest_4 rfl ?_
  refine wp_geti c dX11_parseTest_5 fX11_298 (Or.inl rfl) (ka hF 293 (by decide)) he ?_
  refine wp_if_ne 39 dX11_parseTest_8 (by decide) (fun _ => ?_) (fun q => absurd q hc)
  exact wp_vret dX11_parseTest_39 rfl (e1)

theorem t_C {G : Cx} {d : Nat} {m : Mm} {Q : Option Value → Mm → Prop}  (hF : Full G m) (he : fi m 1118 (gB G + 293) = (0 : Int32)) 
    (e1 : WPM G (d + 19) (0, 0) μX11_isWord [.ref (gB G + 293), .ref (gK G 11)] m (fun r' m' => WP G (d + 20) (0, 0) μX11_parseTest 18 [.ref (gB G + 293)] (r'.toList ++ []) m' Q)) :
    WP G (d + 20) (0, 0) μX11_parseTest 4 [.ref (gB G + 293)] [] m Q := by
  refine wp_aload_n dX11_parseTest_4 rfl ?_
  refine wp_geti (0 : Int32) dX11_parseTest_5 fX11_298 (Or.inl rfl) (ka hF 293 (by decide)) he ?_
  refine wp_if_ne 39 dX11_parseTest_8 (by decide) (fun q => absurd (by decide) q) (fun _ => ?_)
  refine wp_aload_n dX11_parseTest_11 rfl ?_
  refine wp_ldcwS (j := 11) dX11_parseTest_12 (by decide) rfl ?_
  refine wp_callV (As := [.ref (gK G 11)]) (S := []) (b' := (0, 0)) (b := (0, 0)) dX11_parseTest_15 MX11_316 (ka hF 293 (by decide)) rfl rfl rfl rfl (Nat.le_of_ble_eq_true rfl) ?_
  exact e1

theorem t_D0 {G : Cx} {d : Nat} {m : Mm} {Q : Option Value → Mm → Prop}  (hF : Full G m) 
    (e1 : Q none m) :
    WP G (d + 20) (0, 0) μX11_parseTest 18 [.ref (gB G + 293)] [.int (0 : Int32)] m Q := by
  refine wp_if_eq 39 dX11_parseTest_18 (by decide) (fun _ => ?_) (fun q => absurd (by decide) q)
  exact wp_vret dX11_parseTest_39 rfl (e1)

theorem t_D1 {G : Cx} {d : Nat} {m : Mm} {Q : Option Value → Mm → Prop}  (hF : Full G m) 
    (e1 : WPM G (d + 19) (0, 0) μX11_advance [.ref (gB G + 293)] m (fun r' m' => WP G (d + 20) (0, 0) μX11_parseTest 25 [.ref (gB G + 293)] (r'.toList ++ []) m' Q)) :
    WP G (d + 20) (0, 0) μX11_parseTest 18 [.ref (gB G + 293)] [.int (1 : Int32)] m Q := by
  refine wp_if_eq 39 dX11_parseTest_18 (by decide) (fun q => absurd q (by decide)) (fun _ => ?_)
  refine wp_aload_n dX11_parseTest_21 rfl ?_
  refine wp_callV (As := []) (S := []) (b' := (0, 0)) (b := (0, 0)) dX11_parseTest_22 MX11_308 (ka hF 293 (by decide)) rfl rfl rfl rfl (Nat.le_of_ble_eq_true rfl) ?_
  exact e1

theorem t_F {G : Cx} {d : Nat} {m : Mm} {Q : Option Value → Mm → Prop}  (hF : Full G m) 
    (e1 : WPM G (d + 19) (0, 0) μX11_parseBoth [.ref (gB G + 293)] m (fun r' m' => WP G (d + 20) (0, 0) μX11_parseTest 29 [.ref (gB G + 293)] (r'.toList ++ []) m' Q)) :
    WP G (d + 20) (0, 0) μX11_parseTest 25 [.ref (gB G + 293)] [] m Q := by
  refine wp_aload_n dX11_parseTest_25 rfl ?_
  refine wp_callV (As := []) (S := []) (b' := (0, 0)) (b := (0, 0)) dX11_parseTest_26 MX11_383 (ka hF 293 (by decide)) rfl rfl rfl rfl (Nat.le_of_ble_eq_true rfl) ?_
  exact e1

theorem t_G {G : Cx} {d : Nat} {m : Mm} {Q : Option Value → Mm → Prop} {s : Nat} (hF : Full G m) (he : fi m 1118 (gB G + 293) = (0 : Int32)) (hz : fi m 1124 (gB G + 293) = nI s) (hs5 : s < 500) 
    (e1 : WP G (d + 20) (0, 0) μX11_parseTest 4 [.ref (gB G + 293)] [] (wfi (wai (wai m (gB G + 306) (2 * s) (18 : Int32)) (gB G + 306) (2 * s + 1) (0 : Int32)) 1124 (gB G + 293) (nI (s + 1))) Q) :
    WP G (d + 20) (0, 0) μX11_parseTest 29 [.ref (gB G + 293)] [] m Q := by
  refine wp_aload_n dX11_parseTest_29 rfl ?_
  refine wp_bipush (18 : Int32) dX11_parseTest_30 (by decide) ?_
  refine wp_iconst (0 : Int32) dX11_parseTest_32 (by decide) ?_
  refine wp_callV (As := [.int (18 : Int32), .int (0 : Int32)]) (S := []) (b' := (0, 0)) (b := (0, 0)) dX11_parseTest_33 MX11_330 (ka hF 293 (by decide)) rfl rfl rfl rfl (Nat.le_of_ble_eq_true rfl) ?_
  refine WPM.of pX11 (Nat.le_of_ble_eq_true rfl) rfl ?_
  refine wp_aload_n dX11_emit_0 rfl ?_
  refine wp_geti (0 : Int32) dX11_emit_1 fX11_298 (Or.inl rfl) (ka hF 293 (by decide)) he ?_
  refine wp_if_ne 43 dX11_emit_4 (by decide) (fun q => absurd (by decide) q) (fun _ => ?_)
  refine wp_aload_n dX11_emit_7 rfl ?_
  refine wp_getr (gB G + 306) dX11_emit_8 fX11_52 (ka hF 293 (by decide)) (hF.2 _ _) (rra 13 (isK_le (ka hF 293 (by decide))) (fun _ => rfl)) ?_
  refine wp_iconst (2 : Int32) dX11_emit_11 (by decide) ?_
  refine wp_aload_n dX11_emit_12 rfl ?_
  refine wp_geti (nI s) dX11_emit_13 fX11_311 (Or.inl rfl) (ka hF 293 (by decide)) hz ?_
  refine wp_imulv (nI (2 * s)) dX11_emit_16 (nmul (a := 2) (b := s) (by omega)) ?_
  refine wp_iload_n dX11_emit_17 rfl ?_
  refine wp_iastk (n := 1000) (2 * s) dX11_emit_18 (ka hF 306 (by decide)) (la 306) (vin (by omega) (by decide))  (nIc (by omega)) ?_
  have hF1 := Full_wai (gB G + 306) (2 * s) (18 : Int32) hF
  refine wp_aload_n dX11_emit_19 rfl ?_
  refine wp_getr (gB G + 306) dX11_emit_20 fX11_52 (ka hF1 293 (by decide)) (hF1.2 _ _) (rra 13 (isK_le (ka hF1 293 (by decide))) (fun _ => rfl)) ?_
  refine wp_iconst (2 : Int32) dX11_emit_23 (by decide) ?_
  refine wp_aload_n dX11_emit_24 rfl ?_
  refine wp_geti (nI s) dX11_emit_25 fX11_311 (Or.inl rfl) (ka hF1 293 (by decide)) (fi_wai.trans hz) ?_
  refine wp_imulv (nI (2 * s)) dX11_emit_28 (nmul (a := 2) (b := s) (by omega)) ?_
  refine wp_iconst (1 : Int32) dX11_emit_29 (by decide) ?_
  refine wp_iaddv (nI (2 * s + 1)) dX11_emit_30 (nadd (a := 2 * s) (b := 1) (by omega)) ?_
  refine wp_iload_n dX11_emit_31 rfl ?_
  refine wp_iastk (n := 1000) (2 * s + 1) dX11_emit_32 (ka hF1 306 (by decide)) (la 306) (vin (by omega) (by decide))  (nIc (by omega)) ?_
  have hF2 := Full_wai (gB G + 306) (2 * s + 1) (0 : Int32) hF1
  refine wp_aload_n dX11_emit_33 rfl ?_
  refine wp_dup dX11_emit_34 rfl ?_
  refine wp_geti (nI s) dX11_emit_35 fX11_311 (Or.inl rfl) (ka hF2 293 (by decide)) (fi_wai.trans (fi_wai.trans hz)) ?_
  refine wp_iconst (1 : Int32) dX11_emit_38 (by decide) ?_
  refine wp_iaddv (nI (s + 1)) dX11_emit_39 (nadd (a := s) (b := 1) (by omega)) ?_
  refine wp_puti dX11_emit_40 pX11_311 (ka hF2 293 (by decide)) ?_
  have hF3 := Full_wfi 1124 (gB G + 293) (nI (s + 1)) hF2
  refine wp_vret dX11_emit_43 rfl ?_
  show WP G (d + 20) (0, 0) μX11_parseTest 36 [.ref (gB G + 293)] [] (wfi (wai (wai m (gB G + 306) (2 * s) (18 : Int32)) (gB G + 306) (2 * s + 1) (0 : Int32)) 1124 (gB G + 293) (nI (s + 1))) _
  refine wp_goto 4 dX11_parseTest_36 (by decide) ?_
  refine wp_forget [.ref (gB G + 293)] ⟨Or.inl rfl, trivial⟩ ?_
  exact e1

theorem t_H {G : Cx} {d : Nat} {m : Mm} {Q : Option Value → Mm → Prop} {c : Int32} (hF : Full G m) (he : fi m 1118 (gB G + 293) = c) (hc : ¬ c = 0) 
    (e1 : WP G (d + 20) (0, 0) μX11_parseTest 4 [.ref (gB G + 293)] [] m Q) :
    WP G (d + 20) (0, 0) μX11_parseTest 29 [.ref (gB G + 293)] [] m Q := by
  refine wp_aload_n dX11_parseTest_29 rfl ?_
  refine wp_bipush (18 : Int32) dX11_parseTest_30 (by decide) ?_
  refine wp_iconst (0 : Int32) dX11_parseTest_32 (by decide) ?_
  refine wp_callV (As := [.int (18 : Int32), .int (0 : Int32)]) (S := []) (b' := (0, 0)) (b := (0, 0)) dX11_parseTest_33 MX11_330 (ka hF 293 (by decide)) rfl rfl rfl rfl (Nat.le_of_ble_eq_true rfl) ?_
  refine WPM.of pX11 (Nat.le_of_ble_eq_true rfl) rfl ?_
  refine wp_aload_n dX11_emit_0 rfl ?_
  refine wp_geti c dX11_emit_1 fX11_298 (Or.inl rfl) (ka hF 293 (by decide)) he ?_
  refine wp_if_ne 43 dX11_emit_4 (by decide) (fun _ => ?_) (fun q => absurd q hc)
  refine wp_vret dX11_emit_43 rfl ?_
  show WP G (d + 20) (0, 0) μX11_parseTest 36 [.ref (gB G + 293)] [] m _
  refine wp_goto 4 dX11_parseTest_36 (by decide) ?_
  refine wp_forget [.ref (gB G + 293)] ⟨Or.inl rfl, trivial⟩ ?_
  exact e1

theorem haA {G : Cx} {d : Nat} {m : Mm} {Q : Option Value → Mm → Prop}  (hF : Full G m) 
    (e1 : WPM G (d + 15) (0, 0) μX11_isWord [.ref (gB G + 293), .ref (gK G 12)] m (fun r' m' => WP G (d + 16) (0, 0) μX11_heaterAction 7 [.ref (gB G + 293), lvU] (r'.toList ++ []) m' Q)) :
    WPM G (d + 16) (0, 0) μX11_heaterAction [.ref (gB G + 293)] m Q := by
  refine WPM.of pX11 (Nat.le_of_ble_eq_true rfl) rfl ?_
  refine wp_aload_n dX11_heaterAction_0 rfl ?_
  refine wp_ldcwS (j := 12) dX11_heaterAction_1 (by decide) rfl ?_
  refine wp_callV (As := [.ref (gK G 12)]) (S := []) (b' := (0, 0)) (b := (0, 0)) dX11_heaterAction_4 MX11_316 (ka hF 293 (by decide)) rfl rfl rfl rfl (Nat.le_of_ble_eq_true rfl) ?_
  exact e1

theorem haY0 {G : Cx} {d : Nat} {m : Mm} {Q : Option Value → Mm → Prop}  (hF : Full G m) (he : fi m 1118 (gB G + 293) = (0 : Int32)) 
    (e1 : WPM G (d + 15) (0, 0) μX11_advance [.ref (gB G + 293)] m (fun r' m' => WP G (d + 16) (0, 0) μX11_heaterAction 63 [lvU, .int (1 : Int32)] (r'.toList ++ []) m' Q)) :
    WP G (d + 16) (0, 0) μX11_heaterAction 7 [.ref (gB G + 293), lvU] [.int (1 : Int32)] m Q := by
  refine wp_if_eq 14 dX11_heaterAction_7 (by decide) (fun q => absurd q (by decide)) (fun _ => ?_)
  refine wp_iconst (1 : Int32) dX11_heaterAction_10 (by decide) ?_
  refine wp_goto 43 dX11_heaterAction_11 (by decide) ?_
  refine wp_istore_n dX11_heaterAction_43 (by decide) rfl ?_
  refine wp_aload_n dX11_heaterAction_44 rfl ?_
  refine wp_iload_n dX11_heaterAction_45 rfl ?_
  refine wp_iconst (-1 : Int32) dX11_heaterAction_46 (by decide) ?_
  refine wp_icmp_eq 54 dX11_heaterAction_47 (by decide) (fun q => absurd q (by decide)) (fun _ => ?_)
  refine wp_iconst (1 : Int32) dX11_heaterAction_50 (by decide) ?_
  refine wp_goto 55 dX11_heaterAction_51 (by decide) ?_
  refine wp_iconst (1 : Int32) dX11_heaterAction_55 (by decide) ?_
  refine wp_callV (As := [.int (1 : Int32), .int (1 : Int32)]) (S := []) (b' := (0, 0)) (b := (0, 0)) dX11_heaterAction_56 MX11_304 (ka hF 293 (by decide)) rfl rfl rfl rfl (Nat.le_of_ble_eq_true rfl) ?_
  refine WPM.of pX11 (Nat.le_of_ble_eq_true rfl) rfl ?_
  refine wp_iload_n dX11_require_0 rfl ?_
  refine wp_if_ne 24 dX11_require_1 (by decide) (fun _ => ?_) (fun q => absurd q (by decide))
  refine wp_vret dX11_require_24 rfl ?_
  show WP G (d + 16) (0, 0) μX11_heaterAction 59 [.ref (gB G + 293), .int (1 : Int32)] [] m _
  refine wp_aload_n dX11_heaterAction_59 rfl ?_
  refine wp_forget [lvU, .int (1 : Int32)] ⟨Or.inr rfl, Or.inl rfl, trivial⟩ ?_
  refine wp_callV (As := []) (S := []) (b' := (0, 0)) (b := (0, 0)) dX11_heaterAction_60 MX11_308 (ka hF 293 (by decide)) rfl rfl rfl rfl (Nat.le_of_ble_eq_true rfl) ?_
  exact e1

theorem haZ0 {G : Cx} {d : Nat} {m : Mm} {Q : Option Value → Mm → Prop}  (hF : Full G m) 
    (e1 : Q (some (.int (1 : Int32))) m) :
    WP G (d + 16) (0, 0) μX11_heaterAction 63 [lvU, .int (1 : Int32)] [] m Q := by
  refine wp_iload_n dX11_heaterAction_63 rfl ?_
  exact wp_iret dX11_heaterAction_64 rfl (e1)

theorem haN0 {G : Cx} {d : Nat} {m : Mm} {Q : Option Value → Mm → Prop}  (hF : Full G m) 
    (e1 : WPM G (d + 15) (0, 0) μX11_isWord [.ref (gB G + 293), .ref (gK G 13)] m (fun r' m' => WP G (d + 16) (0, 0) μX11_heaterAction 21 [.ref (gB G + 293), lvU] (r'.toList ++ []) m' Q)) :
    WP G (d + 16) (0, 0) μX11_heaterAction 7 [.ref (gB G + 293), lvU] [.int (0 : Int32)] m Q := by
  refine wp_if_eq 14 dX11_heaterAction_7 (by decide) (fun _ => ?_) (fun q => absurd (by decide) q)
  refine wp_aload_n dX11_heaterAction_14 rfl ?_
  refine wp_ldcwS (j := 13) dX11_heaterAction_15 (by decide) rfl ?_
  refine wp_callV (As := [.ref (gK G 13)]) (S := []) (b' := (0, 0)) (b := (0, 0)) dX11_heaterAction_18 MX11_316 (ka hF 293 (by decide)) rfl rfl rfl rfl (Nat.le_of_ble_eq_true rfl) ?_
  exact e1

theorem haY1 {G : Cx} {d : Nat} {m : Mm} {Q : Option Value → Mm → Prop}  (hF : Full G m) (he : fi m 1118 (gB G + 293) = (0 : Int32)) 
    (e1 : WPM G (d + 15) (0, 0) μX11_advance [.ref (gB G + 293)] m (fun r' m' => WP G (d + 16) (0, 0) μX11_heaterAction 63 [lvU, .int (2 : Int32)] (r'.toList ++ []) m' Q)) :
    WP G (d + 16) (0, 0) μX11_heaterAction 21 [.ref (gB G + 293), lvU] [.int (1 : Int32)] m Q := by
  refine wp_if_eq 28 dX11_heaterAction_21 (by decide) (fun q => absurd q (by decide)) (fun _ => ?_)
  refine wp_iconst (2 : Int32) dX11_heaterAction_24 (by decide) ?_
  refine wp_goto 43 dX11_heaterAction_25 (by decide) ?_
  refine wp_istore_n dX11_heaterAction_43 (by decide) rfl ?_
  refine wp_aload_n dX11_heaterAction_44 rfl ?_
  refine wp_iload_n dX11_heaterAction_45 rfl ?_
  refine wp_iconst (-1 : Int32) dX11_heaterAction_46 (by decide) ?_
  refine wp_icmp_eq 54 dX11_heaterAction_47 (by decide) (fun q => absurd q (by decide)) (fun _ => ?_)
  refine wp_iconst (1 : Int32) dX11_heaterAction_50 (by decide) ?_
  refine wp_goto 55 dX11_heaterAction_51 (by decide) ?_
  refine wp_iconst (1 : Int32) dX11_heaterAction_55 (by decide) ?_
  refine wp_callV (As := [.int (1 : Int32), .int (1 : Int32)]) (S := []) (b' := (0, 0)) (b := (0, 0)) dX11_heaterAction_56 MX11_304 (ka hF 293 (by decide)) rfl rfl rfl rfl (Nat.le_of_ble_eq_true rfl) ?_
  refine WPM.of pX11 (Nat.le_of_ble_eq_true rfl) rfl ?_
  refine wp_iload_n dX11_require_0 rfl ?_
  refine wp_if_ne 24 dX11_require_1 (by decide) (fun _ => ?_) (fun q => absurd q (by decide))
  refine wp_vret dX11_require_24 rfl ?_
  show WP G (d + 16) (0, 0) μX11_heaterAction 59 [.ref (gB G + 293), .int (2 : Int32)] [] m _
  refine wp_aload_n dX11_heaterAction_59 rfl ?_
  refine wp_forget [lvU, .int (2 : Int32)] ⟨Or.inr rfl, Or.inl rfl, trivial⟩ ?_
  refine wp_callV (As := []) (S := []) (b' := (0, 0)) (b := (0, 0)) dX11_heaterAction_60 MX11_308 (ka hF 293 (by decide)) rfl rfl rfl rfl (Nat.le_of_ble_eq_true rfl) ?_
  exact e1

theorem haZ1 {G : Cx} {d : Nat} {m : Mm} {Q : Option Value → Mm → Prop}  (hF : Full G m) 
    (e1 : Q (some (.int (2 : Int32))) m) :
    WP G (d + 16) (0, 0) μX11_heaterAction 63 [lvU, .int (2 : Int32)] [] m Q := by
  refine wp_iload_n dX11_heaterAction_63 rfl ?_
  exact wp_iret dX11_heaterAction_64 rfl (e1)

theorem haN1 {G : Cx} {d : Nat} {m : Mm} {Q : Option Value → Mm → Prop}  (hF : Full G m) 
    (e1 : WPM G (d + 15) (0, 0) μX11_isWord [.ref (gB G + 293), .ref (gK G 14)] m (fun r' m' => WP G (d + 16) (0, 0) μX11_heaterAction 35 [.ref (gB G + 293), lvU] (r'.toList ++ []) m' Q)) :
    WP G (d + 16) (0, 0) μX11_heaterAction 21 [.ref (gB G + 293), lvU] [.int (0 : Int32)] m Q := by
  refine wp_if_eq 28 dX11_heaterAction_21 (by decide) (fun _ => ?_) (fun q => absurd (by decide) q)
  refine wp_aload_n dX11_heaterAction_28 rfl ?_
  refine wp_ldcwS (j := 14) dX11_heaterAction_29 (by decide) rfl ?_
  refine wp_callV (As := [.ref (gK G 14)]) (S := []) (b' := (0, 0)) (b := (0, 0)) dX11_heaterAction_32 MX11_316 (ka hF 293 (by decide)) rfl rfl rfl rfl (Nat.le_of_ble_eq_true rfl) ?_
  exact e1

theorem haY2 {G : Cx} {d : Nat} {m : Mm} {Q : Option Value → Mm → Prop}  (hF : Full G m) (he : fi m 1118 (gB G + 293) = (0 : Int32)) 
    (e1 : WPM G (d + 15) (0, 0) μX11_advance [.ref (gB G + 293)] m (fun r' m' => WP G (d + 16) (0, 0) μX11_heaterAction 63 [lvU, .int (0 : Int32)] (r'.toList ++ []) m' Q)) :
    WP G (d + 16) (0, 0) μX11_heaterAction 35 [.ref (gB G + 293), lvU] [.int (1 : Int32)] m Q := by
  refine wp_if_eq 42 dX11_heaterAction_35 (by decide) (fun q => absurd q (by decide)) (fun _ => ?_)
  refine wp_iconst (0 : Int32) dX11_heaterAction_38 (by decide) ?_
  refine wp_goto 43 dX11_heaterAction_39 (by decide) ?_
  refine wp_istore_n dX11_heaterAction_43 (by decide) rfl ?_
  refine wp_aload_n dX11_heaterAction_44 rfl ?_
  refine wp_iload_n dX11_heaterAction_45 rfl ?_
  refine wp_iconst (-1 : Int32) dX11_heaterAction_46 (by decide) ?_
  refine wp_icmp_eq 54 dX11_heaterAction_47 (by decide) (fun q => absurd q (by decide)) (fun _ => ?_)
  refine wp_iconst (1 : Int32) dX11_heaterAction_50 (by decide) ?_
  refine wp_goto 55 dX11_heaterAction_51 (by decide) ?_
  refine wp_iconst (1 : Int32) dX11_heaterAction_55 (by decide) ?_
  refine wp_callV (As := [.int (1 : Int32), .int (1 : Int32)]) (S := []) (b' := (0, 0)) (b := (0, 0)) dX11_heaterAction_56 MX11_304 (ka hF 293 (by decide)) rfl rfl rfl rfl (Nat.le_of_ble_eq_true rfl) ?_
  refine WPM.of pX11 (Nat.le_of_ble_eq_true rfl) rfl ?_
  refine wp_iload_n dX11_require_0 rfl ?_
  refine wp_if_ne 24 dX11_require_1 (by decide) (fun _ => ?_) (fun q => absurd q (by decide))
  refine wp_vret dX11_require_24 rfl ?_
  show WP G (d + 16) (0, 0) μX11_heaterAction 59 [.ref (gB G + 293), .int (0 : Int32)] [] m _
  refine wp_aload_n dX11_heaterAction_59 rfl ?_
  refine wp_forget [lvU, .int (0 : Int32)] ⟨Or.inr rfl, Or.inl rfl, trivial⟩ ?_
  refine wp_callV (As := []) (S := []) (b' := (0, 0)) (b := (0, 0)) dX11_heaterAction_60 MX11_308 (ka hF 293 (by decide)) rfl rfl rfl rfl (Nat.le_of_ble_eq_true rfl) ?_
  exact e1

theorem haZ2 {G : Cx} {d : Nat} {m : Mm} {Q : Option Value → Mm → Prop}  (hF : Full G m) 
    (e1 : Q (some (.int (0 : Int32))) m) :
    WP G (d + 16) (0, 0) μX11_heaterAction 63 [lvU, .int (0 : Int32)] [] m Q := by
  refine wp_iload_n dX11_heaterAction_63 rfl ?_
  exact wp_iret dX11_heaterAction_64 rfl (e1)

theorem haX {G : Cx} {d : Nat} {m : Mm} {Q : Option Value → Mm → Prop} {st : Nat} (hF : Full G m) (he : fi m 1118 (gB G + 293) = (0 : Int32)) (hst : fi m 1113 (gB G + 293) = nI st) 
    (e1 : WPM G (d + 15) (0, 0) μX11_advance [.ref (gB G + 293)] (wfi (wfi m 1118 (gB G + 293) (1 : Int32)) 1119 (gB G + 293) (nI st)) (fun r' m' => WP G (d + 16) (0, 0) μX11_heaterAction 63 [lvU, .int (-1 : Int32)] (r'.toList ++ []) m' Q)) :
    WP G (d + 16) (0, 0) μX11_heaterAction 35 [.ref (gB G + 293), lvU] [.int (0 : Int32)] m Q := by
  refine wp_if_eq 42 dX11_heaterAction_35 (by decide) (fun _ => ?_) (fun q => absurd (by decide) q)
  refine wp_iconst (-1 : Int32) dX11_heaterAction_42 (by decide) ?_
  refine wp_istore_n dX11_heaterAction_43 (by decide) rfl ?_
  refine wp_aload_n dX11_heaterAction_44 rfl ?_
  refine wp_iload_n dX11_heaterAction_45 rfl ?_
  refine wp_iconst (-1 : Int32) dX11_heaterAction_46 (by decide) ?_
  refine wp_icmp_eq 54 dX11_heaterAction_47 (by decide) (fun _ => ?_) (fun q => absurd (by decide) q)
  refine wp_iconst (0 : Int32) dX11_heaterAction_54 (by decide) ?_
  refine wp_iconst (1 : Int32) dX11_heaterAction_55 (by decide) ?_
  refine wp_callV (As := [.int (0 : Int32), .int (1 : Int32)]) (S := []) (b' := (0, 0)) (b := (0, 0)) dX11_heaterAction_56 MX11_304 (ka hF 293 (by decide)) rfl rfl rfl rfl (Nat.le_of_ble_eq_true rfl) ?_
  refine WPM.of pX11 (Nat.le_of_ble_eq_true rfl) rfl ?_
  refine wp_iload_n dX11_require_0 rfl ?_
  refine wp_if_ne 24 dX11_require_1 (by decide) (fun q => absurd (by decide) q) (fun _ => ?_)
  refine wp_aload_n dX11_require_4 rfl ?_
  refine wp_geti (0 : Int32) dX11_require_5 fX11_298 (Or.inl rfl) (ka hF 293 (by decide)) he ?_
  refine wp_if_ne 24 dX11_require_8 (by decide) (fun q => absurd (by decide) q) (fun _ => ?_)
  refine wp_aload_n dX11_require_11 rfl ?_
  refine wp_iload_n dX11_require_12 rfl ?_
  refine wp_puti dX11_require_13 pX11_298 (ka hF 293 (by decide)) ?_
  have hF1 := Full_wfi 1118 (gB G + 293) (1 : Int32) hF
  refine wp_aload_n dX11_require_16 rfl ?_
  refine wp_aload_n dX11_require_17 rfl ?_
  refine wp_geti (nI st) dX11_require_18 fX11_256 (Or.inl rfl) (ka hF1 293 (by decide)) ((fi_ne (by decide)).trans hst) ?_
  refine wp_puti dX11_require_21 pX11_45 (ka hF1 293 (by decide)) ?_
  have hF2 := Full_wfi 1119 (gB G + 293) (nI st) hF1
  refine wp_vret dX11_require_24 rfl ?_
  show WP G (d + 16) (0, 0) μX11_heaterAction 59 [.ref (gB G + 293), .int (-1 : Int32)] [] (wfi (wfi m 1118 (gB G + 293) (1 : Int32)) 1119 (gB G + 293) (nI st)) _
  refine wp_aload_n dX11_heaterAction_59 rfl ?_
  refine wp_forget [lvU, .int (-1 : Int32)] ⟨Or.inr rfl, Or.inl rfl, trivial⟩ ?_
  refine wp_callV (As := []) (S := []) (b' := (0, 0)) (b := (0, 0)) dX11_heaterAction_60 MX11_308 (ka hF2 293 (by decide)) rfl rfl rfl rfl (Nat.le_of_ble_eq_true rfl) ?_
  exact e1

theorem haXz {G : Cx} {d : Nat} {m : Mm} {Q : Option Value → Mm → Prop}  (hF : Full G m) 
    (e1 : Q (some (.int (-1 : Int32))) m) :
    WP G (d + 16) (0, 0) μX11_heaterAction 63 [lvU, .int (-1 : Int32)] [] m Q := by
  refine wp_iload_n dX11_heaterAction_63 rfl ?_
  exact wp_iret dX11_heaterAction_64 rfl (e1)

theorem laA {G : Cx} {d : Nat} {m : Mm} {Q : Option Value → Mm → Prop}  (hF : Full G m) 
    (e1 : WPM G (d + 15) (0, 0) μX11_isWord [.ref (gB G + 293), .ref (gK G 15)] m (fun r' m' => WP G (d + 16) (0, 0) μX11_louvreAction 7 [.ref (gB G + 293), lvU] (r'.toList ++ []) m' Q)) :
    WPM G (d + 16) (0, 0) μX11_louvreAction [.ref (gB G + 293)] m Q := by
  refine WPM.of pX11 (Nat.le_of_ble_eq_true rfl) rfl ?_
  refine wp_aload_n dX11_louvreAction_0 rfl ?_
  refine wp_ldcwS (j := 15) dX11_louvreAction_1 (by decide) rfl ?_
  refine wp_callV (As := [.ref (gK G 15)]) (S := []) (b' := (0, 0)) (b := (0, 0)) dX11_louvreAction_4 MX11_316 (ka hF 293 (by decide)) rfl rfl rfl rfl (Nat.le_of_ble_eq_true rfl) ?_
  exact e1

theorem laY0 {G : Cx} {d : Nat} {m : Mm} {Q : Option Value → Mm → Prop}  (hF : Full G m) (he : fi m 1118 (gB G + 293) = (0 : Int32)) 
    (e1 : WPM G (d + 15) (0, 0) μX11_advance [.ref (gB G + 293)] m (fun r' m' => WP G (d + 16) (0, 0) μX11_louvreAction 49 [lvU, .int (3 : Int32)] (r'.toList ++ []) m' Q)) :
    WP G (d + 16) (0, 0) μX11_louvreAction 7 [.ref (gB G + 293), lvU] [.int (1 : Int32)] m Q := by
  refine wp_if_eq 14 dX11_louvreAction_7 (by decide) (fun q => absurd q (by decide)) (fun _ => ?_)
  refine wp_iconst (3 : Int32) dX11_louvreAction_10 (by decide) ?_
  refine wp_goto 29 dX11_louvreAction_11 (by decide) ?_
  refine wp_istore_n dX11_louvreAction_29 (by decide) rfl ?_
  refine wp_aload_n dX11_louvreAction_30 rfl ?_
  refine wp_iload_n dX11_louvreAction_31 rfl ?_
  refine wp_iconst (-1 : Int32) dX11_louvreAction_32 (by decide) ?_
  refine wp_icmp_eq 40 dX11_louvreAction_33 (by decide) (fun q => absurd q (by decide)) (fun _ => ?_)
  refine wp_iconst (1 : Int32) dX11_louvreAction_36 (by decide) ?_
  refine wp_goto 41 dX11_louvreAction_37 (by decide) ?_
  refine wp_iconst (1 : Int32) dX11_louvreAction_41 (by decide) ?_
  refine wp_callV (As := [.int (1 : Int32), .int (1 : Int32)]) (S := []) (b' := (0, 0)) (b := (0, 0)) dX11_louvreAction_42 MX11_304 (ka hF 293 (by decide)) rfl rfl rfl rfl (Nat.le_of_ble_eq_true rfl) ?_
  refine WPM.of pX11 (Nat.le_of_ble_eq_true rfl) rfl ?_
  refine wp_iload_n dX11_require_0 rfl ?_
  refine wp_if_ne 24 dX11_require_1 (by decide) (fun _ => ?_) (fun q => absurd q (by decide))
  refine wp_vret dX11_require_24 rfl ?_
  show WP G (d + 16) (0, 0) μX11_louvreAction 45 [.ref (gB G + 293), .int (3 : Int32)] [] m _
  refine wp_aload_n dX11_louvreAction_45 rfl ?_
  refine wp_forget [lvU, .int (3 : Int32)] ⟨Or.inr rfl, Or.inl rfl, trivial⟩ ?_
  refine wp_callV (As := []) (S := []) (b' := (0, 0)) (b := (0, 0)) dX11_louvreAction_46 MX11_308 (ka hF 293 (by decide)) rfl rfl rfl rfl (Nat.le_of_ble_eq_true rfl) ?_
  exact e1

theorem laZ0 {G : Cx} {d : Nat} {m : Mm} {Q : Option Value → Mm → Prop}  (hF : Full G m) 
    (e1 : Q (some (.int (3 : Int32))) m) :
    WP G (d + 16) (0, 0) μX11_louvreAction 49 [lvU, .int (3 : Int32)] [] m Q := by
  refine wp_iload_n dX11_louvreAction_49 rfl ?_
  exact wp_iret dX11_louvreAction_50 rfl (e1)

theorem laN0 {G : Cx} {d : Nat} {m : Mm} {Q : Option Value → Mm → Prop}  (hF : Full G m) 
    (e1 : WPM G (d + 15) (0, 0) μX11_isWord [.ref (gB G + 293), .ref (gK G 16)] m (fun r' m' => WP G (d + 16) (0, 0) μX11_louvreAction 21 [.ref (gB G + 293), lvU] (r'.toList ++ []) m' Q)) :
    WP G (d + 16) (0, 0) μX11_louvreAction 7 [.ref (gB G + 293), lvU] [.int (0 : Int32)] m Q := by
  refine wp_if_eq 14 dX11_louvreAction_7 (by decide) (fun _ => ?_) (fun q => absurd (by decide) q)
  refine wp_aload_n dX11_louvreAction_14 rfl ?_
  refine wp_ldcwS (j := 16) dX11_louvreAction_15 (by decide) rfl ?_
  refine wp_callV (As := [.ref (gK G 16)]) (S := []) (b' := (0, 0)) (b := (0, 0)) dX11_louvreAction_18 MX11_316 (ka hF 293 (by decide)) rfl rfl rfl rfl (Nat.le_of_ble_eq_true rfl) ?_
  exact e1

theorem laY1 {G : Cx} {d : Nat} {m : Mm} {Q : Option Value → Mm → Prop}  (hF : Full G m) (he : fi m 1118 (gB G + 293) = (0 : Int32)) 
    (e1 : WPM G (d + 15) (0, 0) μX11_advance [.ref (gB G + 293)] m (fun r' m' => WP G (d + 16) (0, 0) μX11_louvreAction 49 [lvU, .int (4 : Int32)] (r'.toList ++ []) m' Q)) :
    WP G (d + 16) (0, 0) μX11_louvreAction 21 [.ref (gB G + 293), lvU] [.int (1 : Int32)] m Q := by
  refine wp_if_eq 28 dX11_louvreAction_21 (by decide) (fun q => absurd q (by decide)) (fun _ => ?_)
  refine wp_iconst (4 : Int32) dX11_louvreAction_24 (by decide) ?_
  refine wp_goto 29 dX11_louvreAction_25 (by decide) ?_
  refine wp_istore_n dX11_louvreAction_29 (by decide) rfl ?_
  refine wp_aload_n dX11_louvreAction_30 rfl ?_
  refine wp_iload_n dX11_louvreAction_31 rfl ?_
  refine wp_iconst (-1 : Int32) dX11_louvreAction_32 (by decide) ?_
  refine wp_icmp_eq 40 dX11_louvreAction_33 (by decide) (fun q => absurd q (by decide)) (fun _ => ?_)
  refine wp_iconst (1 : Int32) dX11_louvreAction_36 (by decide) ?_
  refine wp_goto 41 dX11_louvreAction_37 (by decide) ?_
  refine wp_iconst (1 : Int32) dX11_louvreAction_41 (by decide) ?_
  refine wp_callV (As := [.int (1 : Int32), .int (1 : Int32)]) (S := []) (b' := (0, 0)) (b := (0, 0)) dX11_louvreAction_42 MX11_304 (ka hF 293 (by decide)) rfl rfl rfl rfl (Nat.le_of_ble_eq_true rfl) ?_
  refine WPM.of pX11 (Nat.le_of_ble_eq_true rfl) rfl ?_
  refine wp_iload_n dX11_require_0 rfl ?_
  refine wp_if_ne 24 dX11_require_1 (by decide) (fun _ => ?_) (fun q => absurd q (by decide))
  refine wp_vret dX11_require_24 rfl ?_
  show WP G (d + 16) (0, 0) μX11_louvreAction 45 [.ref (gB G + 293), .int (4 : Int32)] [] m _
  refine wp_aload_n dX11_louvreAction_45 rfl ?_
  refine wp_forget [lvU, .int (4 : Int32)] ⟨Or.inr rfl, Or.inl rfl, trivial⟩ ?_
  refine wp_callV (As := []) (S := []) (b' := (0, 0)) (b := (0, 0)) dX11_louvreAction_46 MX11_308 (ka hF 293 (by decide)) rfl rfl rfl rfl (Nat.le_of_ble_eq_true rfl) ?_
  exact e1

theorem laZ1 {G : Cx} {d : Nat} {m : Mm} {Q : Option Value → Mm → Prop}  (hF : Full G m) 
    (e1 : Q (some (.int (4 : Int32))) m) :
    WP G (d + 16) (0, 0) μX11_louvreAction 49 [lvU, .int (4 : Int32)] [] m Q := by
  refine wp_iload_n dX11_louvreAction_49 rfl ?_
  exact wp_iret dX11_louvreAction_50 rfl (e1)

theorem laX {G : Cx} {d : Nat} {m : Mm} {Q : Option Value → Mm → Prop} {st : Nat} (hF : Full G m) (he : fi m 1118 (gB G + 293) = (0 : Int32)) (hst : fi m 1113 (gB G + 293) = nI st) 
    (e1 : WPM G (d + 15) (0, 0) μX11_advance [.ref (gB G + 293)] (wfi (wfi m 1118 (gB G + 293) (1 : Int32)) 1119 (gB G + 293) (nI st)) (fun r' m' => WP G (d + 16) (0, 0) μX11_louvreAction 49 [lvU, .int (-1 : Int32)] (r'.toList ++ []) m' Q)) :
    WP G (d + 16) (0, 0) μX11_louvreAction 21 [.ref (gB G + 293), lvU] [.int (0 : Int32)] m Q := by
  refine wp_if_eq 28 dX11_louvreAction_21 (by decide) (fun _ => ?_) (fun q => absurd (by decide) q)
  refine wp_iconst (-1 : Int32) dX11_louvreAction_28 (by decide) ?_
  refine wp_istore_n dX11_louvreAction_29 (by decide) rfl ?_
  refine wp_aload_n dX11_louvreAction_30 rfl ?_
  refine wp_iload_n dX11_louvreAction_31 rfl ?_
  refine wp_iconst (-1 : Int32) dX11_louvreAction_32 (by decide) ?_
  refine wp_icmp_eq 40 dX11_louvreAction_33 (by decide) (fun _ => ?_) (fun q => absurd (by decide) q)
  refine wp_iconst (0 : Int32) dX11_louvreAction_40 (by decide) ?_
  refine wp_iconst (1 : Int32) dX11_louvreAction_41 (by decide) ?_
  refine wp_callV (As := [.int (0 : Int32), .int (1 : Int32)]) (S := []) (b' := (0, 0)) (b := (0, 0)) dX11_louvreAction_42 MX11_304 (ka hF 293 (by decide)) rfl rfl rfl rfl (Nat.le_of_ble_eq_true rfl) ?_
  refine WPM.of pX11 (Nat.le_of_ble_eq_true rfl) rfl ?_
  refine wp_iload_n dX11_require_0 rfl ?_
  refine wp_if_ne 24 dX11_require_1 (by decide) (fun q => absurd (by decide) q) (fun _ => ?_)
  refine wp_aload_n dX11_require_4 rfl ?_
  refine wp_geti (0 : Int32) dX11_require_5 fX11_298 (Or.inl rfl) (ka hF 293 (by decide)) he ?_
  refine wp_if_ne 24 dX11_require_8 (by decide) (fun q => absurd (by decide) q) (fun _ => ?_)
  refine wp_aload_n dX11_require_11 rfl ?_
  refine wp_iload_n dX11_require_12 rfl ?_
  refine wp_puti dX11_require_13 pX11_298 (ka hF 293 (by decide)) ?_
  have hF1 := Full_wfi 1118 (gB G + 293) (1 : Int32) hF
  refine wp_aload_n dX11_require_16 rfl ?_
  refine wp_aload_n dX11_require_17 rfl ?_
  refine wp_geti (nI st) dX11_require_18 fX11_256 (Or.inl rfl) (ka hF1 293 (by decide)) ((fi_ne (by decide)).trans hst) ?_
  refine wp_puti dX11_require_21 pX11_45 (ka hF1 293 (by decide)) ?_
  have hF2 := Full_wfi 1119 (gB G + 293) (nI st) hF1
  refine wp_vret dX11_require_24 rfl ?_
  show WP G (d + 16) (0, 0) μX11_louvreAction 45 [.ref (gB G + 293), .int (-1 : Int32)] [] (wfi (wfi m 1118 (gB G + 293) (1 : Int32)) 1119 (gB G + 293) (nI st)) _
  refine wp_aload_n dX11_louvreAction_45 rfl ?_
  refine wp_forget [lvU, .int (-1 : Int32)] ⟨Or.inr rfl, Or.inl rfl, trivial⟩ ?_
  refine wp_callV (As := []) (S := []) (b' := (0, 0)) (b := (0, 0)) dX11_louvreAction_46 MX11_308 (ka hF2 293 (by decide)) rfl rfl rfl rfl (Nat.le_of_ble_eq_true rfl) ?_
  exact e1

theorem laXz {G : Cx} {d : Nat} {m : Mm} {Q : Option Value → Mm → Prop}  (hF : Full G m) 
    (e1 : Q (some (.int (-1 : Int32))) m) :
    WP G (d + 16) (0, 0) μX11_louvreAction 49 [lvU, .int (-1 : Int32)] [] m Q := by
  refine wp_iload_n dX11_louvreAction_49 rfl ?_
  exact wp_iret dX11_louvreAction_50 rfl (e1)

theorem acA {G : Cx} {d : Nat} {m : Mm} {Q : Option Value → Mm → Prop} {b : Nat} (hF : Full G m) 
    (e1 : WPM G (d + 17) (0, 0) μX11_isWord [.ref (gB G + 293), .ref (gK G 17)] m (fun r' m' => WP G (d + 18) (0, 0) μX11_parseAction 7 [.ref (gB G + 293), .int (nI b), lvU, lvU] (r'.toList ++ []) m' Q)) :
    WPM G (d + 18) (0, 0) μX11_parseAction [.ref (gB G + 293), .int (nI b)] m Q := by
  refine WPM.of pX11 (Nat.le_of_ble_eq_true rfl) rfl ?_
  refine wp_aload_n dX11_parseAction_0 rfl ?_
  refine wp_ldcwS (j := 17) dX11_parseAction_1 (by decide) rfl ?_
  refine wp_callV (As := [.ref (gK G 17)]) (S := []) (b' := (0, 0)) (b := (0, 0)) dX11_parseAction_4 MX11_316 (ka hF 293 (by decide)) rfl rfl rfl rfl (Nat.le_of_ble_eq_true rfl) ?_
  exact e1

theorem acB1 {G : Cx} {d : Nat} {m : Mm} {Q : Option Value → Mm → Prop} {b : Nat} (hF : Full G m) 
    (e1 : WPM G (d + 17) (0, 0) μX11_isWord [.ref (gB G + 293), .ref (gK G 18)] m (fun r' m' => WP G (d + 18) (0, 0) μX11_parseAction 15 [.ref (gB G + 293), .int (nI b), .int (1 : Int32), lvU] (r'.toList ++ []) m' Q)) :
    WP G (d + 18) (0, 0) μX11_parseAction 7 [.ref (gB G + 293), .int (nI b), lvU, lvU] [.int (1 : Int32)] m Q := by
  refine wp_istore_n dX11_parseAction_7 (by decide) rfl ?_
  refine wp_aload_n dX11_parseAction_8 rfl ?_
  refine wp_ldcwS (j := 18) dX11_parseAction_9 (by decide) rfl ?_
  refine wp_callV (As := [.ref (gK G 18)]) (S := []) (b' := (0, 0)) (b := (0, 0)) dX11_parseAction_12 MX11_316 (ka hF 293 (by decide)) rfl rfl rfl rfl (Nat.le_of_ble_eq_true rfl) ?_
  exact e1

theorem acC10 {G : Cx} {d : Nat} {m : Mm} {Q : Option Value → Mm → Prop} {b : Nat} (hF : Full G m) (he : fi m 1118 (gB G + 293) = (0 : Int32)) 
    (e1 : WPM G (d + 17) (0, 0) μX11_advance [.ref (gB G + 293)] m (fun r' m' => WP G (d + 18) (0, 0) μX11_parseAction 48 [.ref (gB G + 293), .int (nI b), .int (1 : Int32), .int (0 : Int32)] (r'.toList ++ []) m' Q)) :
    WP G (d + 18) (0, 0) μX11_parseAction 15 [.ref (gB G + 293), .int (nI b), .int (1 : Int32), lvU] [.int (0 : Int32)] m Q := by
  refine wp_istore_n dX11_parseAction_15 (by decide) rfl ?_
  refine wp_aload_n dX11_parseAction_16 rfl ?_
  refine wp_iload_n dX11_parseAction_17 rfl ?_
  refine wp_if_ne 35 dX11_parseAction_18 (by decide) (fun _ => ?_) (fun q => absurd q (by decide))
  refine wp_iconst (1 : Int32) dX11_parseAction_35 (by decide) ?_
  refine wp_goto 40 dX11_parseAction_36 (by decide) ?_
  refine wp_iconst (1 : Int32) dX11_parseAction_40 (by decide) ?_
  refine wp_callV (As := [.int (1 : Int32), .int (1 : Int32)]) (S := []) (b' := (0, 0)) (b := (0, 0)) dX11_parseAction_41 MX11_304 (ka hF 293 (by decide)) rfl rfl rfl rfl (Nat.le_of_ble_eq_true rfl) ?_
  refine WPM.of pX11 (Nat.le_of_ble_eq_true rfl) rfl ?_
  refine wp_iload_n dX11_require_0 rfl ?_
  refine wp_if_ne 24 dX11_require_1 (by decide) (fun _ => ?_) (fun q => absurd q (by decide))
  refine wp_vret dX11_require_24 rfl ?_
  show WP G (d + 18) (0, 0) μX11_parseAction 44 [.ref (gB G + 293), .int (nI b), .int (1 : Int32), .int (0 : Int32)] [] m _
  refine wp_aload_n dX11_parseAction_44 rfl ?_
  refine wp_callV (As := []) (S := []) (b' := (0, 0)) (b := (0, 0)) dX11_parseAction_45 MX11_308 (ka hF 293 (by decide)) rfl rfl rfl rfl (Nat.le_of_ble_eq_true rfl) ?_
  exact e1

theorem acE10 {G : Cx} {d : Nat} {m : Mm} {Q : Option Value → Mm → Prop} {b c : Nat} (hF : Full G m) (hb : b ≤ 66) (he : fi m 1118 (gB G + 293) = (0 : Int32)) (hcn : ai m (gB G + 294) 14 = nI c) 
    (e1 : WPM G (d + 17) (0, 0) μX11_parsePart [.ref (gB G + 293), .int (nI c)] m (fun r' m' => WP G (d + 18) (0, 0) μX11_parseAction 92 [.ref (gB G + 293), .int (nI b), .int (1 : Int32), .int (0 : Int32)] (r'.toList ++ [.int (nI (b + 3)), .ref (gB G + 305)]) m' Q)) :
    WP G (d + 18) (0, 0) μX11_parseAction 48 [.ref (gB G + 293), .int (nI b), .int (1 : Int32), .int (0 : Int32)] [] m Q := by
  refine wp_aload_n dX11_parseAction_48 rfl ?_
  refine wp_geti (0 : Int32) dX11_parseAction_49 fX11_298 (Or.inl rfl) (ka hF 293 (by decide)) he ?_
  refine wp_if_eq 56 dX11_parseAction_52 (by decide) (fun _ => ?_) (fun q => absurd (by decide) q)
  refine wp_aload_n dX11_parseAction_56 rfl ?_
  refine wp_getr (gB G + 305) dX11_parseAction_57 fX11_49 (ka hF 293 (by decide)) (hF.2 _ _) (rra 12 (isK_le (ka hF 293 (by decide))) (fun _ => rfl)) ?_
  refine wp_iload_n dX11_parseAction_60 rfl ?_
  refine wp_iconst (3 : Int32) dX11_parseAction_61 (by decide) ?_
  refine wp_iaddv (nI (b + 3)) dX11_parseAction_62 (nadd (a := b) (b := 3) (by omega)) ?_
  refine wp_aload_n dX11_parseAction_63 rfl ?_
  refine wp_aload_n dX11_parseAction_64 rfl ?_
  refine wp_getr (gB G + 294) dX11_parseAction_65 fX11_7 (ka hF 293 (by decide)) (hF.2 _ _) (rra 1 (isK_le (ka hF 293 (by decide))) (fun _ => rfl)) ?_
  refine wp_iload_n dX11_parseAction_68 rfl ?_
  refine wp_if_eq 77 dX11_parseAction_69 (by decide) (fun q => absurd q (by decide)) (fun _ => ?_)
  refine wp_bipush (14 : Int32) dX11_parseAction_72 (by decide) ?_
  refine wp_goto 88 dX11_parseAction_74 (by decide) ?_
  refine wp_ialdk (n := 1486) 14 (nI c) dX11_parseAction_88 (ka hF 294 (by decide)) (la 294) (vinl (by decide)) rfl hcn ?_
  refine wp_callV (As := [.int (nI c)]) (S := [.int (nI (b + 3)), .ref (gB G + 305)]) (b' := (0, 0)) (b := (0, 0)) dX11_parseAction_89 MX11_337 (ka hF 293 (by decide)) rfl rfl rfl rfl (Nat.le_of_ble_eq_true rfl) ?_
  exact e1

theorem acFx10 {G : Cx} {d : Nat} {m : Mm} {Q : Option Value → Mm → Prop} {b : Nat} {c v : Int32} (hF : Full G m) (hb : b ≤ 66) (he : fi m 1118 (gB G + 293) = c) (hc : ¬ c = 0) 
    (e1 : Q none (wai m (gB G + 305) (b + 3) v)) :
    WP G (d + 18) (0, 0) μX11_parseAction 92 [.ref (gB G + 293), .int (nI b), .int (1 : Int32), .int (0 : Int32)] [.int v, .int (nI (b + 3)), .ref (gB G + 305)] m Q := by
  refine wp_iastk (n := 72) (b + 3) dX11_parseAction_92 (ka hF 305 (by decide)) (la 305) (vin (by omega) (by decide))  (nIc (by omega)) ?_
  have hF1 := Full_wai (gB G + 305) (b + 3) v hF
  refine wp_aload_n dX11_parseAction_93 rfl ?_
  refine wp_geti c dX11_parseAction_94 fX11_298 (Or.inl rfl) (ka hF1 293 (by decide)) (fi_wai.trans he) ?_
  refine wp_if_eq 101 dX11_parseAction_97 (by decide) (fun q => absurd q hc) (fun _ => ?_)
  exact wp_vret dX11_parseAction_100 rfl (e1)

theorem acF10 {G : Cx} {d : Nat} {m : Mm} {Q : Option Value → Mm → Prop} {b : Nat} {v : Int32} (hF : Full G m) (hb : b ≤ 66) (he : fi m 1118 (gB G + 293) = (0 : Int32)) 
    (e1 : WPM G (d + 17) (0, 0) μX11_heaterAction [.ref (gB G + 293)] (wai m (gB G + 305) (b + 3) v) (fun r' m' => WP G (d + 18) (0, 0) μX11_parseAction 124 [lvU, lvU, lvU, lvU] (r'.toList ++ [.int (nI (b + 2)), .ref (gB G + 305)]) m' Q)) :
    WP G (d + 18) (0, 0) μX11_parseAction 92 [.ref (gB G + 293), .int (nI b), .int (1 : Int32), .int (0 : Int32)] [.int v, .int (nI (b + 3)), .ref (gB G + 305)] m Q := by
  refine wp_iastk (n := 72) (b + 3) dX11_parseAction_92 (ka hF 305 (by decide)) (la 305) (vin (by omega) (by decide))  (nIc (by omega)) ?_
  have hF1 := Full_wai (gB G + 305) (b + 3) v hF
  refine wp_aload_n dX11_parseAction_93 rfl ?_
  refine wp_geti (0 : Int32) dX11_parseAction_94 fX11_298 (Or.inl rfl) (ka hF1 293 (by decide)) (fi_wai.trans he) ?_
  refine wp_if_eq 101 dX11_parseAction_97 (by decide) (fun _ => ?_) (fun q => absurd (by decide) q)
  refine wp_iload_n dX11_parseAction_101 rfl ?_
  refine wp_if_ne 109 dX11_parseAction_102 (by decide) (fun _ => ?_) (fun q => absurd q (by decide))
  refine wp_aload_n dX11_parseAction_109 rfl ?_
  refine wp_getr (gB G + 305) dX11_parseAction_110 fX11_49 (ka hF1 293 (by decide)) (hF1.2 _ _) (rra 12 (isK_le (ka hF1 293 (by decide))) (fun _ => rfl)) ?_
  refine wp_iload_n dX11_parseAction_113 rfl ?_
  refine wp_iconst (2 : Int32) dX11_parseAction_114 (by decide) ?_
  refine wp_iaddv (nI (b + 2)) dX11_parseAction_115 (nadd (a := b) (b := 2) (by omega)) ?_
  refine wp_iload_n dX11_parseAction_116 rfl ?_
  refine wp_if_eq 127 dX11_parseAction_117 (by decide) (fun q => absurd q (by decide)) (fun _ => ?_)
  refine wp_aload_n dX11_parseAction_120 rfl ?_
  refine wp_forget [lvU, lvU, lvU, lvU] ⟨Or.inr rfl, Or.inr rfl, Or.inr rfl, Or.inr rfl, trivial⟩ ?_
  refine wp_callV (As := []) (S := [.int (nI (b + 2)), .ref (gB G + 305)]) (b' := (0, 0)) (b := (0, 0)) dX11_parseAction_121 MX11_402 (ka hF1 293 (by decide)) rfl rfl rfl rfl (Nat.le_of_ble_eq_true rfl) ?_
  exact e1

theorem acG10 {G : Cx} {d : Nat} {m : Mm} {Q : Option Value → Mm → Prop} {b : Nat} {v : Int32} (hF : Full G m) (hb : b ≤ 66) 
    (e1 : Q none (wai m (gB G + 305) (b + 2) v)) :
    WP G (d + 18) (0, 0) μX11_parseAction 124 [lvU, lvU, lvU, lvU] [.int v, .int (nI (b + 2)), .ref (gB G + 305)] m Q := by
  refine wp_goto 131 dX11_parseAction_124 (by decide) ?_
  refine wp_iastk (n := 72) (b + 2) dX11_parseAction_131 (ka hF 305 (by decide)) (la 305) (vin (by omega) (by decide))  (nIc (by omega)) ?_
  have hF1 := Full_wai (gB G + 305) (b + 2) v hF
  exact wp_vret dX11_parseAction_132 rfl (e1)

theorem acB0 {G : Cx} {d : Nat} {m : Mm} {Q : Option Value → Mm → Prop} {b : Nat} (hF : Full G m) 
    (e1 : WPM G (d + 17) (0, 0) μX11_isWord [.ref (gB G + 293), .ref (gK G 18)] m (fun r' m' => WP G (d + 18) (0, 0) μX11_parseAction 15 [.ref (gB G + 293), .int (nI b), .int (0 : Int32), lvU] (r'.toList ++ []) m' Q)) :
    WP G (d + 18) (0, 0) μX11_parseAction 7 [.ref (gB G + 293), .int (nI b), lvU, lvU] [.int (0 : Int32)] m Q := by
  refine wp_istore_n dX11_parseAction_7 (by decide) rfl ?_
  refine wp_aload_n dX11_parseAction_8 rfl ?_
  refine wp_ldcwS (j := 18) dX11_parseAction_9 (by decide) rfl ?_
  refine wp_callV (As := [.ref (gK G 18)]) (S := []) (b' := (0, 0)) (b := (0, 0)) dX11_parseAction_12 MX11_316 (ka hF 293 (by decide)) rfl rfl rfl rfl (Nat.le_of_ble_eq_true rfl) ?_
  exact e1

theorem acC01 {G : Cx} {d : Nat} {m : Mm} {Q : Option Value → Mm → Prop} {b : Nat} (hF : Full G m) (he : fi m 1118 (gB G + 293) = (0 : Int32)) 
    (e1 : WPM G (d + 17) (0, 0) μX11_advance [.ref (gB G + 293)] m (fun r' m' => WP G (d + 18) (0, 0) μX11_parseAction 48 [.ref (gB G + 293), .int (nI b), .int (0 : Int32), .int (1 : Int32)] (r'.toList ++ []) m' Q)) :
    WP G (d + 18) (0, 0) μX11_parseAction 15 [.ref (gB G + 293), .int (nI b), .int (0 : Int32), lvU] [.int (1 : Int32)] m Q := by
  refine wp_istore_n dX11_parseAction_15 (by decide) rfl ?_
  refine wp_aload_n dX11_parseAction_16 rfl ?_
  refine wp_iload_n dX11_parseAction_17 rfl ?_
  refine wp_if_ne 35 dX11_parseAction_18 (by decide) (fun q => absurd (by decide) q) (fun _ => ?_)
  refine wp_iload_n dX11_parseAction_21 rfl ?_
  refine wp_if_ne 35 dX11_parseAction_22 (by decide) (fun _ => ?_) (fun q => absurd q (by decide))
  refine wp_iconst (1 : Int32) dX11_parseAction_35 (by decide) ?_
  refine wp_goto 40 dX11_parseAction_36 (by decide) ?_
  refine wp_iconst (1 : Int32) dX11_parseAction_40 (by decide) ?_
  refine wp_callV (As := [.int (1 : Int32), .int (1 : Int32)]) (S := []) (b' := (0, 0)) (b := (0, 0)) dX11_parseAction_41 MX11_304 (ka hF 293 (by decide)) rfl rfl rfl rfl (Nat.le_of_ble_eq_true rfl) ?_
  refine WPM.of pX11 (Nat.le_of_ble_eq_true rfl) rfl ?_
  refine wp_iload_n dX11_require_0 rfl ?_
  refine wp_if_ne 24 dX11_require_1 (by decide) (fun _ => ?_) (fun q => absurd q (by decide))
  refine wp_vret dX11_require_24 rfl ?_
  show WP G (d + 18) (0, 0) μX11_parseAction 44 [.ref (gB G + 293), .int (nI b), .int (0 : Int32), .int (1 : Int32)] [] m _
  refine wp_aload_n dX11_parseAction_44 rfl ?_
  refine wp_callV (As := []) (S := []) (b' := (0, 0)) (b := (0, 0)) dX11_parseAction_45 MX11_308 (ka hF 293 (by decide)) rfl rfl rfl rfl (Nat.le_of_ble_eq_true rfl) ?_
  exact e1

theorem acE01 {G : Cx} {d : Nat} {m : Mm} {Q : Option Value → Mm → Prop} {b c : Nat} (hF : Full G m) (hb : b ≤ 66) (he : fi m 1118 (gB G + 293) = (0 : Int32)) (hcn : ai m (gB G + 294) 13 = nI c) 
    (e1 : WPM G (d + 17) (0, 0) μX11_parsePart [.ref (gB G + 293), .int (nI c)] m (fun r' m' => WP G (d + 18) (0, 0) μX11_parseAction 92 [.ref (gB G + 293), .int (nI b), .int (0 : Int32), .int (1 : Int32)] (r'.toList ++ [.int (nI (b + 3)), .ref (gB G + 305)]) m' Q)) :
    WP G (d + 18) (0, 0) μX11_parseAction 48 [.ref (gB G + 293), .int (nI b), .int (0 : Int32), .int (1 : Int32)] [] m Q := by
  refine wp_aload_n dX11_parseAction_48 rfl ?_
  refine wp_geti (0 : Int32) dX11_parseAction_49 fX11_298 (Or.inl rfl) (ka hF 293 (by decide)) he ?_
  refine wp_if_eq 56 dX11_parseAction_52 (by decide) (fun _ => ?_) (fun q => absurd (by decide) q)
  refine wp_aload_n dX11_parseAction_56 rfl ?_
  refine wp_getr (gB G + 305) dX11_parseAction_57 fX11_49 (ka hF 293 (by decide)) (hF.2 _ _) (rra 12 (isK_le (ka hF 293 (by decide))) (fun _ => rfl)) ?_
  refine wp_iload_n dX11_parseAction_60 rfl ?_
  refine wp_iconst (3 : Int32) dX11_parseAction_61 (by decide) ?_
  refine wp_iaddv (nI (b + 3)) dX11_parseAction_62 (nadd (a := b) (b := 3) (by omega)) ?_
  refine wp_aload_n dX11_parseAction_63 rfl ?_
  refine wp_aload_n dX11_parseAction_64 rfl ?_
  refine wp_getr (gB G + 294) dX11_parseAction_65 fX11_7 (ka hF 293 (by decide)) (hF.2 _ _) (rra 1 (isK_le (ka hF 293 (by decide))) (fun _ => rfl)) ?_
  refine wp_iload_n dX11_parseAction_68 rfl ?_
  refine wp_if_eq 77 dX11_parseAction_69 (by decide) (fun _ => ?_) (fun q => absurd (by decide) q)
  refine wp_iload_n dX11_parseAction_77 rfl ?_
  refine wp_if_eq 86 dX11_parseAction_78 (by decide) (fun q => absurd q (by decide)) (fun _ => ?_)
  refine wp_bipush (13 : Int32) dX11_parseAction_81 (by decide) ?_
  refine wp_goto 88 dX11_parseAction_83 (by decide) ?_
  refine wp_ialdk (n := 1486) 13 (nI c) dX11_parseAction_88 (ka hF 294 (by decide)) (la 294) (vinl (by decide)) rfl hcn ?_
  refine wp_callV (As := [.int (nI c)]) (S := [.int (nI (b + 3)), .ref (gB G + 305)]) (b' := (0, 0)) (b := (0, 0)) dX11_parseAction_89 MX11_337 (ka hF 293 (by decide)) rfl rfl rfl rfl (Nat.le_of_ble_eq_true rfl) ?_
  exact e1

theorem acFx01 {G : Cx} {d : Nat} {m : Mm} {Q : Option Value → Mm → Prop} {b : Nat} {c v : Int32} (hF : Full G m) (hb : b ≤ 66) (he : fi m 1118 (gB G + 293) = c) (hc : ¬ c = 0) 
    (e1 : Q none (wai m (gB G + 305) (b + 3) v)) :
    WP G (d + 18) (0, 0) μX11_parseAction 92 [.ref (gB G + 293), .int (nI b), .int (0 : Int32), .int (1 : Int32)] [.int v, .int (nI (b + 3)), .ref (gB G + 305)] m Q := by
  refine wp_iastk (n := 72) (b + 3) dX11_parseAction_92 (ka hF 305 (by decide)) (la 305) (vin (by omega) (by decide))  (nIc (by omega)) ?_
  have hF1 := Full_wai (gB G + 305) (b + 3) v hF
  refine wp_aload_n dX11_parseAction_93 rfl ?_
  refine wp_geti c dX11_parseAction_94 fX11_298 (Or.inl rfl) (ka hF1 293 (by decide)) (fi_wai.trans he) ?_
  refine wp_if_eq 101 dX11_parseAction_97 (by decide) (fun q => absurd q hc) (fun _ => ?_)
  exact wp_vret dX11_parseAction_100 rfl (e1)

theorem acF01 {G : Cx} {d : Nat} {m : Mm} {Q : Option Value → Mm → Prop} {b : Nat} {v : Int32} (hF : Full G m) (hb : b ≤ 66) (he : fi m 1118 (gB G + 293) = (0 : Int32)) 
    (e1 : WPM G (d + 17) (0, 0) μX11_louvreAction [.ref (gB G + 293)] (wai m (gB G + 305) (b + 3) v) (fun r' m' => WP G (d + 18) (0, 0) μX11_parseAction 131 [lvU, lvU, lvU, lvU] (r'.toList ++ [.int (nI (b + 2)), .ref (gB G + 305)]) m' Q)) :
    WP G (d + 18) (0, 0) μX11_parseAction 92 [.ref (gB G + 293), .int (nI b), .int (0 : Int32), .int (1 : Int32)] [.int v, .int (nI (b + 3)), .ref (gB G + 305)] m Q := by
  refine wp_iastk (n := 72) (b + 3) dX11_parseAction_92 (ka hF 305 (by decide)) (la 305) (vin (by omega) (by decide))  (nIc (by omega)) ?_
  have hF1 := Full_wai (gB G + 305) (b + 3) v hF
  refine wp_aload_n dX11_parseAction_93 rfl ?_
  refine wp_geti (0 : Int32) dX11_parseAction_94 fX11_298 (Or.inl rfl) (ka hF1 293 (by decide)) (fi_wai.trans he) ?_
  refine wp_if_eq 101 dX11_parseAction_97 (by decide) (fun _ => ?_) (fun q => absurd (by decide) q)
  refine wp_iload_n dX11_parseAction_101 rfl ?_
  refine wp_if_ne 109 dX11_parseAction_102 (by decide) (fun q => absurd (by decide) q) (fun _ => ?_)
  refine wp_iload_n dX11_parseAction_105 rfl ?_
  refine wp_if_eq 133 dX11_parseAction_106 (by decide) (fun q => absurd q (by decide)) (fun _ => ?_)
  refine wp_aload_n dX11_parseAction_109 rfl ?_
  refine wp_getr (gB G + 305) dX11_parseAction_110 fX11_49 (ka hF1 293 (by decide)) (hF1.2 _ _) (rra 12 (isK_le (ka hF1 293 (by decide))) (fun _ => rfl)) ?_
  refine wp_iload_n dX11_parseAction_113 rfl ?_
  refine wp_iconst (2 : Int32) dX11_parseAction_114 (by decide) ?_
  refine wp_iaddv (nI (b + 2)) dX11_parseAction_115 (nadd (a := b) (b := 2) (by omega)) ?_
  refine wp_iload_n dX11_parseAction_116 rfl ?_
  refine wp_if_eq 127 dX11_parseAction_117 (by decide) (fun _ => ?_) (fun q => absurd (by decide) q)
  refine wp_aload_n dX11_parseAction_127 rfl ?_
  refine wp_forget [lvU, lvU, lvU, lvU] ⟨Or.inr rfl, Or.inr rfl, Or.inr rfl, Or.inr rfl, trivial⟩ ?_
  refine wp_callV (As := []) (S := [.int (nI (b + 2)), .ref (gB G + 305)]) (b' := (0, 0)) (b := (0, 0)) dX11_parseAction_128 MX11_405 (ka hF1 293 (by decide)) rfl rfl rfl rfl (Nat.le_of_ble_eq_true rfl) ?_
  exact e1

theorem acG01 {G : Cx} {d : Nat} {m : Mm} {Q : Option Value → Mm → Prop} {b : Nat} {v : Int32} (hF : Full G m) (hb : b ≤ 66) 
    (e1 : Q none (wai m (gB G + 305) (b + 2) v)) :
    WP G (d + 18) (0, 0) μX11_parseAction 131 [lvU, lvU, lvU, lvU] [.int v, .int (nI (b + 2)), .ref (gB G + 305)] m Q := by
  refine wp_iastk (n := 72) (b + 2) dX11_parseAction_131 (ka hF 305 (by decide)) (la 305) (vin (by omega) (by decide))  (nIc (by omega)) ?_
  have hF1 := Full_wai (gB G + 305) (b + 2) v hF
  exact wp_vret dX11_parseAction_132 rfl (e1)

theorem acC00 {G : Cx} {d : Nat} {m : Mm} {Q : Option Value → Mm → Prop} {b : Nat} (hF : Full G m) 
    (e1 : WPM G (d + 17) (0, 0) μX11_isWord [.ref (gB G + 293), .ref (gK G 19)] m (fun r' m' => WP G (d + 18) (0, 0) μX11_parseAction 32 [.ref (gB G + 293), .int (nI b), .int (0 : Int32), .int (0 : Int32)] (r'.toList ++ [.ref (gB G + 293)]) m' Q)) :
    WP G (d + 18) (0, 0) μX11_parseAction 15 [.ref (gB G + 293), .int (nI b), .int (0 : Int32), lvU] [.int (0 : Int32)] m Q := by
  refine wp_istore_n dX11_parseAction_15 (by decide) rfl ?_
  refine wp_aload_n dX11_parseAction_16 rfl ?_
  refine wp_iload_n dX11_parseAction_17 rfl ?_
  refine wp_if_ne 35 dX11_parseAction_18 (by decide) (fun q => absurd (by decide) q) (fun _ => ?_)
  refine wp_iload_n dX11_parseAction_21 rfl ?_
  refine wp_if_ne 35 dX11_parseAction_22 (by decide) (fun q => absurd (by decide) q) (fun _ => ?_)
  refine wp_aload_n dX11_parseAction_25 rfl ?_
  refine wp_ldcwS (j := 19) dX11_parseAction_26 (by decide) rfl ?_
  refine wp_callV (As := [.ref (gK G 19)]) (S := [.ref (gB G + 293)]) (b' := (0, 0)) (b := (0, 0)) dX11_parseAction_29 MX11_316 (ka hF 293 (by decide)) rfl rfl rfl rfl (Nat.le_of_ble_eq_true rfl) ?_
  exact e1

theorem acD0 {G : Cx} {d : Nat} {m : Mm} {Q : Option Value → Mm → Prop} {b st : Nat} (hF : Full G m) (he : fi m 1118 (gB G + 293) = (0 : Int32)) (hst : fi m 1113 (gB G + 293) = nI st) 
    (e1 : WPM G (d + 17) (0, 0) μX11_advance [.ref (gB G + 293)] (wfi (wfi m 1118 (gB G + 293) (1 : Int32)) 1119 (gB G + 293) (nI st)) (fun r' m' => WP G (d + 18) (0, 0) μX11_parseAction 48 [.ref (gB G + 293), .int (nI b), .int (0 : Int32), .int (0 : Int32)] (r'.toList ++ []) m' Q)) :
    WP G (d + 18) (0, 0) μX11_parseAction 32 [.ref (gB G + 293), .int (nI b), .int (0 : Int32), .int (0 : Int32)] [.int (0 : Int32), .ref (gB G + 293)] m Q := by
  refine wp_if_eq 39 dX11_parseAction_32 (by decide) (fun _ => ?_) (fun q => absurd (by decide) q)
  refine wp_iconst (0 : Int32) dX11_parseAction_39 (by decide) ?_
  refine wp_iconst (1 : Int32) dX11_parseAction_40 (by decide) ?_
  refine wp_callV (As := [.int (0 : Int32), .int (1 : Int32)]) (S := []) (b' := (0, 0)) (b := (0, 0)) dX11_parseAction_41 MX11_304 (ka hF 293 (by decide)) rfl rfl rfl rfl (Nat.le_of_ble_eq_true rfl) ?_
  refine WPM.of pX11 (Nat.le_of_ble_eq_true rfl) rfl ?_
  refine wp_iload_n dX11_require_0 rfl ?_
  refine wp_if_ne 24 dX11_require_1 (by decide) (fun q => absurd (by decide) q) (fun _ => ?_)
  refine wp_aload_n dX11_require_4 rfl ?_
  refine wp_geti (0 : Int32) dX11_require_5 fX11_298 (Or.inl rfl) (ka hF 293 (by decide)) he ?_
  refine wp_if_ne 24 dX11_require_8 (by decide) (fun q => absurd (by decide) q) (fun _ => ?_)
  refine wp_aload_n dX11_require_11 rfl ?_
  refine wp_iload_n dX11_require_12 rfl ?_
  refine wp_puti dX11_require_13 pX11_298 (ka hF 293 (by decide)) ?_
  have hF1 := Full_wfi 1118 (gB G + 293) (1 : Int32) hF
  refine wp_aload_n dX11_require_16 rfl ?_
  refine wp_aload_n dX11_require_17 rfl ?_
  refine wp_geti (nI st) dX11_require_18 fX11_256 (Or.inl rfl) (ka hF1 293 (by decide)) ((fi_ne (by decide)).trans hst) ?_
  refine wp_puti dX11_require_21 pX11_45 (ka hF1 293 (by decide)) ?_
  have hF2 := Full_wfi 1119 (gB G + 293) (nI st) hF1
  refine wp_vret dX11_require_24 rfl ?_
  show WP G (d + 18) (0, 0) μX11_parseAction 44 [.ref (gB G + 293), .int (nI b), .int (0 : Int32), .int (0 : Int32)] [] (wfi (wfi m 1118 (gB G + 293) (1 : Int32)) 1119 (gB G + 293) (nI st)) _
  refine wp_aload_n dX11_parseAction_44 rfl ?_
  refine wp_callV (As := []) (S := []) (b' := (0, 0)) (b := (0, 0)) dX11_parseAction_45 MX11_308 (ka hF2 293 (by decide)) rfl rfl rfl rfl (Nat.le_of_ble_eq_true rfl) ?_
  exact e1

theorem acEx {G : Cx} {d : Nat} {m : Mm} {Q : Option Value → Mm → Prop} {b : Nat} {c : Int32} (hF : Full G m) (he : fi m 1118 (gB G + 293) = c) (hc : ¬ c = 0) 
    (e1 : Q none m) :
    WP G (d + 18) (0, 0) μX11_parseAction 48 [.ref (gB G + 293), .int (nI b), .int (0 : Int32), .int (0 : Int32)] [] m Q := by
  refine wp_aload_n dX11_parseAction_48 rfl ?_
  refine wp_geti c dX11_parseAction_49 fX11_298 (Or.inl rfl) (ka hF 293 (by decide)) he ?_
  refine wp_if_eq 56 dX11_parseAction_52 (by decide) (fun q => absurd q hc) (fun _ => ?_)
  exact wp_vret dX11_parseAction_55 rfl (e1)

theorem acD1 {G : Cx} {d : Nat} {m : Mm} {Q : Option Value → Mm → Prop} {b : Nat} (hF : Full G m) (he : fi m 1118 (gB G + 293) = (0 : Int32)) 
    (e1 : WPM G (d + 17) (0, 0) μX11_advance [.ref (gB G + 293)] m (fun r' m' => WP G (d + 18) (0, 0) μX11_parseAction 48 [.ref (gB G + 293), .int (nI b), .int (0 : Int32), .int (0 : Int32)] (r'.toList ++ []) m' Q)) :
    WP G (d + 18) (0, 0) μX11_parseAction 32 [.ref (gB G + 293), .int (nI b), .int (0 : Int32), .int (0 : Int32)] [.int (1 : Int32), .ref (gB G + 293)] m Q := by
  refine wp_if_eq 39 dX11_parseAction_32 (by decide) (fun q => absurd q (by decide)) (fun _ => ?_)
  refine wp_iconst (1 : Int32) dX11_parseAction_35 (by decide) ?_
  refine wp_goto 40 dX11_parseAction_36 (by decide) ?_
  refine wp_iconst (1 : Int32) dX11_parseAction_40 (by decide) ?_
  refine wp_callV (As := [.int (1 : Int32), .int (1 : Int32)]) (S := []) (b' := (0, 0)) (b := (0, 0)) dX11_parseAction_41 MX11_304 (ka hF 293 (by decide)) rfl rfl rfl rfl (Nat.le_of_ble_eq_true rfl) ?_
  refine WPM.of pX11 (Nat.le_of_ble_eq_true rfl) rfl ?_
  refine wp_iload_n dX11_require_0 rfl ?_
  refine wp_if_ne 24 dX11_require_1 (by decide) (fun _ => ?_) (fun q => absurd q (by decide))
  refine wp_vret dX11_require_24 rfl ?_
  show WP G (d + 18) (0, 0) μX11_parseAction 44 [.ref (gB G + 293), .int (nI b), .int (0 : Int32), .int (0 : Int32)] [] m _
  refine wp_aload_n dX11_parseAction_44 rfl ?_
  refine wp_callV (As := []) (S := []) (b' := (0, 0)) (b := (0, 0)) dX11_parseAction_45 MX11_308 (ka hF 293 (by decide)) rfl rfl rfl rfl (Nat.le_of_ble_eq_true rfl) ?_
  exact e1

theorem acE00 {G : Cx} {d : Nat} {m : Mm} {Q : Option Value → Mm → Prop} {b c : Nat} (hF : Full G m) (hb : b ≤ 66) (he : fi m 1118 (gB G + 293) = (0 : Int32)) (hcn : ai m (gB G + 294) 12 = nI c) 
    (e1 : WPM G (d + 17) (0, 0) μX11_parsePart [.ref (gB G + 293), .int (nI c)] m (fun r' m' => WP G (d + 18) (0, 0) μX11_parseAction 92 [.ref (gB G + 293), .int (nI b), .int (0 : Int32), .int (0 : Int32)] (r'.toList ++ [.int (nI (b + 3)), .ref (gB G + 305)]) m' Q)) :
    WP G (d + 18) (0, 0) μX11_parseAction 48 [.ref (gB G + 293), .int (nI b), .int (0 : Int32), .int (0 : Int32)] [] m Q := by
  refine wp_aload_n dX11_parseAction_48 rfl ?_
  refine wp_geti (0 : Int32) dX11_parseAction_49 fX11_298 (Or.inl rfl) (ka hF 293 (by decide)) he ?_
  refine wp_if_eq 56 dX11_parseAction_52 (by decide) (fun _ => ?_) (fun q => absurd (by decide) q)
  refine wp_aload_n dX11_parseAction_56 rfl ?_
  refine wp_getr (gB G + 305) dX11_parseAction_57 fX11_49 (ka hF 293 (by decide)) (hF.2 _ _) (rra 12 (isK_le (ka hF 293 (by decide))) (fun _ => rfl)) ?_
  refine wp_iload_n dX11_parseAction_60 rfl ?_
  refine wp_iconst (3 : Int32) dX11_parseAction_61 (by decide) ?_
  refine wp_iaddv (nI (b + 3)) dX11_parseAction_62 (nadd (a := b) (b := 3) (by omega)) ?_
  refine wp_aload_n dX11_parseAction_63 rfl ?_
  refine wp_aload_n dX11_parseAction_64 rfl ?_
  refine wp_getr (gB G + 294) dX11_parseAction_65 fX11_7 (ka hF 293 (by decide)) (hF.2 _ _) (rra 1 (isK_le (ka hF 293 (by decide))) (fun _ => rfl)) ?_
  refine wp_iload_n dX11_parseAction_68 rfl ?_
  refine wp_if_eq 77 dX11_parseAction_69 (by decide) (fun _ => ?_) (fun q => absurd (by decide) q)
  refine wp_iload_n dX11_parseAction_77 rfl ?_
  refine wp_if_eq 86 dX11_parseAction_78 (by decide) (fun _ => ?_) (fun q => absurd (by decide) q)
  refine wp_bipush (12 : Int32) dX11_parseAction_86 (by decide) ?_
  refine wp_ialdk (n := 1486) 12 (nI c) dX11_parseAction_88 (ka hF 294 (by decide)) (la 294) (vinl (by decide)) rfl hcn ?_
  refine wp_callV (As := [.int (nI c)]) (S := [.int (nI (b + 3)), .ref (gB G + 305)]) (b' := (0, 0)) (b := (0, 0)) dX11_parseAction_89 MX11_337 (ka hF 293 (by decide)) rfl rfl rfl rfl (Nat.le_of_ble_eq_true rfl) ?_
  exact e1

theorem acFx00 {G : Cx} {d : Nat} {m : Mm} {Q : Option Value → Mm → Prop} {b : Nat} {c v : Int32} (hF : Full G m) (hb : b ≤ 66) (he : fi m 1118 (gB G + 293) = c) (hc : ¬ c = 0) 
    (e1 : Q none (wai m (gB G + 305) (b + 3) v)) :
    WP G (d + 18) (0, 0) μX11_parseAction 92 [.ref (gB G + 293), .int (nI b), .int (0 : Int32), .int (0 : Int32)] [.int v, .int (nI (b + 3)), .ref (gB G + 305)] m Q := by
  refine wp_iastk (n := 72) (b + 3) dX11_parseAction_92 (ka hF 305 (by decide)) (la 305) (vin (by omega) (by decide))  (nIc (by omega)) ?_
  have hF1 := Full_wai (gB G + 305) (b + 3) v hF
  refine wp_aload_n dX11_parseAction_93 rfl ?_
  refine wp_geti c dX11_parseAction_94 fX11_298 (Or.inl rfl) (ka hF1 293 (by decide)) (fi_wai.trans he) ?_
  refine wp_if_eq 101 dX11_parseAction_97 (by decide) (fun q => absurd q hc) (fun _ => ?_)
  exact wp_vret dX11_parseAction_100 rfl (e1)

theorem acF00 {G : Cx} {d : Nat} {m : Mm} {Q : Option Value → Mm → Prop} {b : Nat} {v : Int32} (hF : Full G m) (hb : b ≤ 66) (he : fi m 1118 (gB G + 293) = (0 : Int32)) 
    (e1 : WPM G (d + 17) (0, 0) μX11_requireSymbol [.ref (gB G + 293), .int (61 : Int32)] (wai m (gB G + 305) (b + 3) v) (fun r' m' => WP G (d + 18) (0, 0) μX11_parseAction 139 [.ref (gB G + 293), .int (nI b), lvU, lvU] (r'.toList ++ []) m' Q)) :
    WP G (d + 18) (0, 0) μX11_parseAction 92 [.ref (gB G + 293), .int (nI b), .int (0 : Int32), .int (0 : Int32)] [.int v, .int (nI (b + 3)), .ref (gB G + 305)] m Q := by
  refine wp_iastk (n := 72) (b + 3) dX11_parseAction_92 (ka hF 305 (by decide)) (la 305) (vin (by omega) (by decide))  (nIc (by omega)) ?_
  have hF1 := Full_wai (gB G + 305) (b + 3) v hF
  refine wp_aload_n dX11_parseAction_93 rfl ?_
  refine wp_geti (0 : Int32) dX11_parseAction_94 fX11_298 (Or.inl rfl) (ka hF1 293 (by decide)) (fi_wai.trans he) ?_
  refine wp_if_eq 101 dX11_parseAction_97 (by decide) (fun _ => ?_) (fun q => absurd (by decide) q)
  refine wp_iload_n dX11_parseAction_101 rfl ?_
  refine wp_if_ne 109 dX11_parseAction_102 (by decide) (fun q => absurd (by decide) q) (fun _ => ?_)
  refine wp_iload_n dX11_parseAction_105 rfl ?_
  refine wp_if_eq 133 dX11_parseAction_106 (by decide) (fun _ => ?_) (fun q => absurd (by decide) q)
  refine wp_aload_n dX11_parseAction_133 rfl ?_
  refine wp_bipush (61 : Int32) dX11_parseAction_134 (by decide) ?_
  refine wp_forget [.ref (gB G + 293), .int (nI b), lvU, lvU] ⟨Or.inl rfl, Or.inl rfl, Or.inr rfl, Or.inr rfl, trivial⟩ ?_
  refine wp_callV (As := [.int (61 : Int32)]) (S := []) (b' := (0, 0)) (b := (0, 0)) dX11_parseAction_136 MX11_408 (ka hF1 293 (by decide)) rfl rfl rfl rfl (Nat.le_of_ble_eq_true rfl) ?_
  exact e1

theorem acH {G : Cx} {d : Nat} {m : Mm} {Q : Option Value → Mm → Prop} {b : Nat} {s : Int32} (hF : Full G m) (hb : b ≤ 66) (he : fi m 1118 (gB G + 293) = (0 : Int32)) (hz : fi m 1124 (gB G + 293) = s) 
    (e1 : WPM G (d + 17) (0, 0) μX11_parseSum [.ref (gB G + 293)] (wai (wai m (gB G + 305) (b + 2) (5 : Int32)) (gB G + 305) (b + 4) s) (fun r' m' => WP G (d + 18) (0, 0) μX11_parseAction 171 [.ref (gB G + 293), .int (nI b), lvU, lvU] (r'.toList ++ []) m' Q)) :
    WP G (d + 18) (0, 0) μX11_parseAction 139 [.ref (gB G + 293), .int (nI b), lvU, lvU] [] m Q := by
  refine wp_aload_n dX11_parseAction_139 rfl ?_
  refine wp_getr (gB G + 305) dX11_parseAction_140 fX11_49 (ka hF 293 (by decide)) (hF.2 _ _) (rra 12 (isK_le (ka hF 293 (by decide))) (fun _ => rfl)) ?_
  refine wp_iload_n dX11_parseAction_143 rfl ?_
  refine wp_iconst (2 : Int32) dX11_parseAction_144 (by decide) ?_
  refine wp_iaddv (nI (b + 2)) dX11_parseAction_145 (nadd (a := b) (b := 2) (by omega)) ?_
  refine wp_iconst (5 : Int32) dX11_parseAction_146 (by decide) ?_
  refine wp_iastk (n := 72) (b + 2) dX11_parseAction_147 (ka hF 305 (by decide)) (la 305) (vin (by omega) (by decide))  (nIc (by omega)) ?_
  have hF1 := Full_wai (gB G + 305) (b + 2) (5 : Int32) hF
  refine wp_aload_n dX11_parseAction_148 rfl ?_
  refine wp_getr (gB G + 305) dX11_parseAction_149 fX11_49 (ka hF1 293 (by decide)) (hF1.2 _ _) (rra 12 (isK_le (ka hF1 293 (by decide))) (fun _ => rfl)) ?_
  refine wp_iload_n dX11_parseAction_152 rfl ?_
  refine wp_iconst (4 : Int32) dX11_parseAction_153 (by decide) ?_
  refine wp_iaddv (nI (b + 4)) dX11_parseAction_154 (nadd (a := b) (b := 4) (by omega)) ?_
  refine wp_aload_n dX11_parseAction_155 rfl ?_
  refine wp_geti s dX11_parseAction_156 fX11_311 (Or.inl rfl) (ka hF1 293 (by decide)) (fi_wai.trans hz) ?_
  refine wp_iastk (n := 72) (b + 4) dX11_parseAction_159 (ka hF1 305 (by decide)) (la 305) (vin (by omega) (by decide))  (nIc (by omega)) ?_
  have hF2 := Full_wai (gB G + 305) (b + 4) s hF1
  refine wp_aload_n dX11_parseAction_160 rfl ?_
  refine wp_geti (0 : Int32) dX11_parseAction_161 fX11_298 (Or.inl rfl) (ka hF2 293 (by decide)) (fi_wai.trans (fi_wai.trans he)) ?_
  refine wp_if_ne 171 dX11_parseAction_164 (by decide) (fun q => absurd (by decide) q) (fun _ => ?_)
  refine wp_aload_n dX11_parseAction_167 rfl ?_
  refine wp_callV (As := []) (S := []) (b' := (0, 0)) (b := (0, 0)) dX11_parseAction_168 MX11_375 (ka hF2 293 (by decide)) rfl rfl rfl rfl (Nat.le_of_ble_eq_true rfl) ?_
  exact e1

theorem acHx {G : Cx} {d : Nat} {m : Mm} {Q : Option Value → Mm → Prop} {b : Nat} {c s : Int32} (hF : Full G m) (hb : b ≤ 66) (he : fi m 1118 (gB G + 293) = c) (hc : ¬ c = 0) (hz : fi m 1124 (gB G + 293) = s) 
    (e1 : Q none (wai (wai (wai m (gB G + 305) (b + 2) (5 : Int32)) (gB G + 305) (b + 4) s) (gB G + 305) (b + 5) s)) :
    WP G (d + 18) (0, 0) μX11_parseAction 139 [.ref (gB G + 293), .int (nI b), lvU, lvU] [] m Q := by
  refine wp_aload_n dX11_parseAction_139 rfl ?_
  refine wp_getr (gB G + 305) dX11_parseAction_140 fX11_49 (ka hF 293 (by decide)) (hF.2 _ _) (rra 12 (isK_le (ka hF 293 (by decide))) (fun _ => rfl)) ?_
  refine wp_iload_n dX11_parseAction_143 rfl ?_
  refine wp_iconst (2 : Int32) dX11_parseAction_144 (by decide) ?_
  refine wp_iaddv (nI (b + 2)) dX11_parseAction_145 (nadd (a := b) (b := 2) (by omega)) ?_
  refine wp_iconst (5 : Int32) dX11_parseAction_146 (by decide) ?_
  refine wp_iastk (n := 72) (b + 2) dX11_parseAction_147 (ka hF 305 (by decide)) (la 305) (vin (by omega) (by decide))  (nIc (by omega)) ?_
  have hF1 := Full_wai (gB G + 305) (b + 2) (5 : Int32) hF
  refine wp_aload_n dX11_parseAction_148 rfl ?_
  refine wp_getr (gB G + 305) dX11_parseAction_149 fX11_49 (ka hF1 293 (by decide)) (hF1.2 _ _) (rra 12 (isK_le (ka hF1 293 (by decide))) (fun _ => rfl)) ?_
  refine wp_iload_n dX11_parseAction_152 rfl ?_
  refine wp_iconst (4 : Int32) dX11_parseAction_153 (by decide) ?_
  refine wp_iaddv (nI (b + 4)) dX11_parseAction_154 (nadd (a := b) (b := 4) (by omega)) ?_
  refine wp_aload_n dX11_parseAction_155 rfl ?_
  refine wp_geti s dX11_parseAction_156 fX11_311 (Or.inl rfl) (ka hF1 293 (by decide)) (fi_wai.trans hz) ?_
  refine wp_iastk (n := 72) (b + 4) dX11_parseAction_159 (ka hF1 305 (by decide)) (la 305) (vin (by omega) (by decide))  (nIc (by omega)) ?_
  have hF2 := Full_wai (gB G + 305) (b + 4) s hF1
  refine wp_aload_n dX11_parseAction_160 rfl ?_
  refine wp_geti c dX11_parseAction_161 fX11_298 (Or.inl rfl) (ka hF2 293 (by decide)) (fi_wai.trans (fi_wai.trans he)) ?_
  refine wp_if_ne 171 dX11_parseAction_164 (by decide) (fun _ => ?_) (fun q => absurd q hc)
  refine wp_aload_n dX11_parseAction_171 rfl ?_
  refine wp_getr (gB G + 305) dX11_parseAction_172 fX11_49 (ka hF2 293 (by decide)) (hF2.2 _ _) (rra 12 (isK_le (ka hF2 293 (by decide))) (fun _ => rfl)) ?_
  refine wp_iload_n dX11_parseAction_175 rfl ?_
  refine wp_iconst (5 : Int32) dX11_parseAction_176 (by decide) ?_
  refine wp_iaddv (nI (b + 5)) dX11_parseAction_177 (nadd (a := b) (b := 5) (by omega)) ?_
  refine wp_aload_n dX11_parseAction_178 rfl ?_
  refine wp_geti s dX11_parseAction_179 fX11_311 (Or.inl rfl) (ka hF2 293 (by decide)) (fi_wai.trans (fi_wai.trans hz)) ?_
  refine wp_iastk (n := 72) (b + 5) dX11_parseAction_182 (ka hF2 305 (by decide)) (la 305) (vin (by omega) (by decide))  (nIc (by omega)) ?_
  have hF3 := Full_wai (gB G + 305) (b + 5) s hF2
  exact wp_vret dX11_parseAction_183 rfl (e1)

theorem acI {G : Cx} {d : Nat} {m : Mm} {Q : Option Value → Mm → Prop} {b : Nat} {s : Int32} (hF : Full G m) (hb : b ≤ 66) (hz : fi m 1124 (gB G + 293) = s) 
    (e1 : Q none (wai m (gB G + 305) (b + 5) s)) :
    WP G (d + 18) (0, 0) μX11_parseAction 171 [.ref (gB G + 293), .int (nI b), lvU, lvU] [] m Q := by
  refine wp_aload_n dX11_parseAction_171 rfl ?_
  refine wp_getr (gB G + 305) dX11_parseAction_172 fX11_49 (ka hF 293 (by decide)) (hF.2 _ _) (rra 12 (isK_le (ka hF 293 (by decide))) (fun _ => rfl)) ?_
  refine wp_iload_n dX11_parseAction_175 rfl ?_
  refine wp_iconst (5 : Int32) dX11_parseAction_176 (by decide) ?_
  refine wp_iaddv (nI (b + 5)) dX11_parseAction_177 (nadd (a := b) (b := 5) (by omega)) ?_
  refine wp_aload_n dX11_parseAction_178 rfl ?_
  refine wp_geti s dX11_parseAction_179 fX11_311 (Or.inl rfl) (ka hF 293 (by decide)) hz ?_
  refine wp_iastk (n := 72) (b + 5) dX11_parseAction_182 (ka hF 305 (by decide)) (la 305) (vin (by omega) (by decide))  (nIc (by omega)) ?_
  have hF1 := Full_wai (gB G + 305) (b + 5) s hF
  exact wp_vret dX11_parseAction_183 rfl (e1)

theorem ruA {G : Cx} {d : Nat} {m : Mm} {Q : Option Value → Mm → Prop}  (hF : Full G m) 
    (e1 : WPM G (d + 21) (0, 0) μX11_isWord [.ref (gB G + 293), .ref (gK G 20)] m (fun r' m' => WP G (d + 22) (0, 0) μX11_parseRule 7 [.ref (gB G + 293), lvU, lvU] (r'.toList ++ []) m' Q)) :
    WPM G (d + 22) (0, 0) μX11_parseRule [.ref (gB G + 293)] m Q := by
  refine WPM.of pX11 (Nat.le_of_ble_eq_true rfl) rfl ?_
  refine wp_aload_n dX11_parseRule_0 rfl ?_
  refine wp_ldcwS (j := 20) dX11_parseRule_1 (by decide) rfl ?_
  refine wp_callV (As := [.ref (gK G 20)]) (S := []) (b' := (0, 0)) (b := (0, 0)) dX11_parseRule_4 MX11_316 (ka hF 293 (by decide)) rfl rfl rfl rfl (Nat.le_of_ble_eq_true rfl) ?_
  exact e1

theorem ruW {G : Cx} {d : Nat} {m : Mm} {Q : Option Value → Mm → Prop} {c : Nat} {s : Int32} (hF : Full G m) (he : fi m 1118 (gB G + 293) = (0 : Int32)) (hrc : fi m 1123 (gB G + 293) = nI c) (hz : fi m 1124 (gB G + 293) = s) (hr9 : c < 12) 
    (e1 : WPM G (d + 21) (0, 0) μX11_advance [.ref (gB G + 293)] (wai m (gB G + 305) (6 * c) s) (fun r' m' => WP G (d + 22) (0, 0) μX11_parseRule 107 [.ref (gB G + 293), lvU, .int (nI (6 * c))] (r'.toList ++ []) m' Q)) :
    WP G (d + 22) (0, 0) μX11_parseRule 7 [.ref (gB G + 293), lvU, lvU] [.int (1 : Int32)] m Q := by
  refine wp_istore_n dX11_parseRule_7 (by decide) rfl ?_
  refine wp_aload_n dX11_parseRule_8 rfl ?_
  refine wp_iload_n dX11_parseRule_9 rfl ?_
  refine wp_if_ne 43 dX11_parseRule_10 (by decide) (fun _ => ?_) (fun q => absurd q (by decide))
  refine wp_iconst (1 : Int32) dX11_parseRule_43 (by decide) ?_
  refine wp_goto 48 dX11_parseRule_44 (by decide) ?_
  refine wp_iconst (1 : Int32) dX11_parseRule_48 (by decide) ?_
  refine wp_callV (As := [.int (1 : Int32), .int (1 : Int32)]) (S := []) (b' := (0, 0)) (b := (0, 0)) dX11_parseRule_49 MX11_304 (ka hF 293 (by decide)) rfl rfl rfl rfl (Nat.le_of_ble_eq_true rfl) ?_
  refine WPM.of pX11 (Nat.le_of_ble_eq_true rfl) rfl ?_
  refine wp_iload_n dX11_require_0 rfl ?_
  refine wp_if_ne 24 dX11_require_1 (by decide) (fun _ => ?_) (fun q => absurd q (by decide))
  refine wp_vret dX11_require_24 rfl ?_
  show WP G (d + 22) (0, 0) μX11_parseRule 52 [.ref (gB G + 293), .int (1 : Int32), lvU] [] m _
  refine wp_aload_n dX11_parseRule_52 rfl ?_
  refine wp_aload_n dX11_parseRule_53 rfl ?_
  refine wp_geti (nI c) dX11_parseRule_54 fX11_413 (Or.inl rfl) (ka hF 293 (by decide)) hrc ?_
  refine wp_bipush (12 : Int32) dX11_parseRule_57 (by decide) ?_
  refine wp_icmp_ge 66 dX11_parseRule_59 (by decide) (fun q => absurd (nlt_ (a := c) (b := 12) hr9 (by omega)) q) (fun _ => ?_)
  refine wp_iconst (1 : Int32) dX11_parseRule_62 (by decide) ?_
  refine wp_goto 67 dX11_parseRule_63 (by decide) ?_
  refine wp_iconst (3 : Int32) dX11_parseRule_67 (by decide) ?_
  refine wp_callV (As := [.int (1 : Int32), .int (3 : Int32)]) (S := []) (b' := (0, 0)) (b := (0, 0)) dX11_parseRule_68 MX11_304 (ka hF 293 (by decide)) rfl rfl rfl rfl (Nat.le_of_ble_eq_true rfl) ?_
  refine WPM.of pX11 (Nat.le_of_ble_eq_true rfl) rfl ?_
  refine wp_iload_n dX11_require_0 rfl ?_
  refine wp_if_ne 24 dX11_require_1 (by decide) (fun _ => ?_) (fun q => absurd q (by decide))
  refine wp_vret dX11_require_24 rfl ?_
  show WP G (d + 22) (0, 0) μX11_parseRule 71 [.ref (gB G + 293), .int (1 : Int32), lvU] [] m _
  refine wp_aload_n dX11_parseRule_71 rfl ?_
  refine wp_geti (0 : Int32) dX11_parseRule_72 fX11_298 (Or.inl rfl) (ka hF 293 (by decide)) he ?_
  refine wp_if_eq 79 dX11_parseRule_75 (by decide) (fun _ => ?_) (fun q => absurd (by decide) q)
  refine wp_bipush (6 : Int32) dX11_parseRule_79 (by decide) ?_
  refine wp_aload_n dX11_parseRule_81 rfl ?_
  refine wp_geti (nI c) dX11_parseRule_82 fX11_413 (Or.inl rfl) (ka hF 293 (by decide)) hrc ?_
  refine wp_imulv (nI (6 * c)) dX11_parseRule_85 (nmul (a := 6) (b := c) (by omega)) ?_
  refine wp_istore_n dX11_parseRule_86 (by decide) rfl ?_
  refine wp_aload_n dX11_parseRule_87 rfl ?_
  refine wp_getr (gB G + 305) dX11_parseRule_88 fX11_49 (ka hF 293 (by decide)) (hF.2 _ _) (rra 12 (isK_le (ka hF 293 (by decide))) (fun _ => rfl)) ?_
  refine wp_iload_n dX11_parseRule_91 rfl ?_
  refine wp_iconst (0 : Int32) dX11_parseRule_92 (by decide) ?_
  refine wp_iaddv (nI (6 * c)) dX11_parseRule_93 (nadd (a := 6 * c) (b := 0) (by omega)) ?_
  refine wp_aload_n dX11_parseRule_94 rfl ?_
  refine wp_geti s dX11_parseRule_95 fX11_311 (Or.inl rfl) (ka hF 293 (by decide)) hz ?_
  refine wp_iastk (n := 72) (6 * c) dX11_parseRule_98 (ka hF 305 (by decide)) (la 305) (vin (by omega) (by decide))  (nIc (by omega)) ?_
  have hF1 := Full_wai (gB G + 305) (6 * c) s hF
  refine wp_iload_n dX11_parseRule_99 rfl ?_
  refine wp_if_eq 117 dX11_parseRule_100 (by decide) (fun q => absurd q (by decide)) (fun _ => ?_)
  refine wp_aload_n dX11_parseRule_103 rfl ?_
  refine wp_forget [.ref (gB G + 293), lvU, .int (nI (6 * c))] ⟨Or.inl rfl, Or.inr rfl, Or.inl rfl, trivial⟩ ?_
  refine wp_callV (As := []) (S := []) (b' := (0, 0)) (b := (0, 0)) dX11_parseRule_104 MX11_308 (ka hF1 293 (by decide)) rfl rfl rfl rfl (Nat.le_of_ble_eq_true rfl) ?_
  exact e1

theorem ruWx {G : Cx} {d : Nat} {m : Mm} {Q : Option Value → Mm → Prop} {st : Nat} (hF : Full G m) (he : fi m 1118 (gB G + 293) = (0 : Int32)) (hrc : fi m 1123 (gB G + 293) = (12 : Int32)) (hst : fi m 1113 (gB G + 293) = nI st) 
    (e1 : Q none (wfi (wfi m 1118 (gB G + 293) (3 : Int32)) 1119 (gB G + 293) (nI st))) :
    WP G (d + 22) (0, 0) μX11_parseRule 7 [.ref (gB G + 293), lvU, lvU] [.int (1 : Int32)] m Q := by
  refine wp_istore_n dX11_parseRule_7 (by decide) rfl ?_
  refine wp_aload_n dX11_parseRule_8 rfl ?_
  refine wp_iload_n dX11_parseRule_9 rfl ?_
  refine wp_if_ne 43 dX11_parseRule_10 (by decide) (fun _ => ?_) (fun q => absurd q (by decide))
  refine wp_iconst (1 : Int32) dX11_parseRule_43 (by decide) ?_
  refine wp_goto 48 dX11_parseRule_44 (by decide) ?_
  refine wp_iconst (1 : Int32) dX11_parseRule_48 (by decide) ?_
  refine wp_callV (As := [.int (1 : Int32), .int (1 : Int32)]) (S := []) (b' := (0, 0)) (b := (0, 0)) dX11_parseRule_49 MX11_304 (ka hF 293 (by decide)) rfl rfl rfl rfl (Nat.le_of_ble_eq_true rfl) ?_
  refine WPM.of pX11 (Nat.le_of_ble_eq_true rfl) rfl ?_
  refine wp_iload_n dX11_require_0 rfl ?_
  refine wp_if_ne 24 dX11_require_1 (by decide) (fun _ => ?_) (fun q => absurd q (by decide))
  refine wp_vret dX11_require_24 rfl ?_
  show WP G (d + 22) (0, 0) μX11_parseRule 52 [.ref (gB G + 293), .int (1 : Int32), lvU] [] m _
  refine wp_aload_n dX11_parseRule_52 rfl ?_
  refine wp_aload_n dX11_parseRule_53 rfl ?_
  refine wp_geti (12 : Int32) dX11_parseRule_54 fX11_413 (Or.inl rfl) (ka hF 293 (by decide)) hrc ?_
  refine wp_bipush (12 : Int32) dX11_parseRule_57 (by decide) ?_
  refine wp_icmp_ge 66 dX11_parseRule_59 (by decide) (fun _ => ?_) (fun q => absurd q (by decide))
  refine wp_iconst (0 : Int32) dX11_parseRule_66 (by decide) ?_
  refine wp_iconst (3 : Int32) dX11_parseRule_67 (by decide) ?_
  refine wp_callV (As := [.int (0 : Int32), .int (3 : Int32)]) (S := []) (b' := (0, 0)) (b := (0, 0)) dX11_parseRule_68 MX11_304 (ka hF 293 (by decide)) rfl rfl rfl rfl (Nat.le_of_ble_eq_true rfl) ?_
  refine WPM.of pX11 (Nat.le_of_ble_eq_true rfl) rfl ?_
  refine wp_iload_n dX11_require_0 rfl ?_
  refine wp_if_ne 24 dX11_require_1 (by decide) (fun q => absurd (by decide) q) (fun _ => ?_)
  refine wp_aload_n dX11_require_4 rfl ?_
  refine wp_geti (0 : Int32) dX11_require_5 fX11_298 (Or.inl rfl) (ka hF 293 (by decide)) he ?_
  refine wp_if_ne 24 dX11_require_8 (by decide) (fun q => absurd (by decide) q) (fun _ => ?_)
  refine wp_aload_n dX11_require_11 rfl ?_
  refine wp_iload_n dX11_require_12 rfl ?_
  refine wp_puti dX11_require_13 pX11_298 (ka hF 293 (by decide)) ?_
  have hF1 := Full_wfi 1118 (gB G + 293) (3 : Int32) hF
  refine wp_aload_n dX11_require_16 rfl ?_
  refine wp_aload_n dX11_require_17 rfl ?_
  refine wp_geti (nI st) dX11_require_18 fX11_256 (Or.inl rfl) (ka hF1 293 (by decide)) ((fi_ne (by decide)).trans hst) ?_
  refine wp_puti dX11_require_21 pX11_45 (ka hF1 293 (by decide)) ?_
  have hF2 := Full_wfi 1119 (gB G + 293) (nI st) hF1
  refine wp_vret dX11_require_24 rfl ?_
  show WP G (d + 22) (0, 0) μX11_parseRule 71 [.ref (gB G + 293), .int (1 : Int32), lvU] [] (wfi (wfi m 1118 (gB G + 293) (3 : Int32)) 1119 (gB G + 293) (nI st)) _
  refine wp_aload_n dX11_parseRule_71 rfl ?_
  refine wp_geti (3 : Int32) dX11_parseRule_72 fX11_298 (Or.inl rfl) (ka hF2 293 (by decide)) ((fi_ne (by decide)).trans fi_eq) ?_
  refine wp_if_eq 79 dX11_parseRule_75 (by decide) (fun q => absurd q (by decide)) (fun _ => ?_)
  exact wp_vret dX11_parseRule_78 rfl (e1)

theorem ruWa {G : Cx} {d : Nat} {m : Mm} {Q : Option Value → Mm → Prop} {b : Nat} (hF : Full G m) 
    (e1 : WPM G (d + 21) (0, 0) μX11_parseTest [.ref (gB G + 293)] m (fun r' m' => WP G (d + 22) (0, 0) μX11_parseRule 111 [.ref (gB G + 293), lvU, .int (nI b)] (r'.toList ++ []) m' Q)) :
    WP G (d + 22) (0, 0) μX11_parseRule 107 [.ref (gB G + 293), lvU, .int (nI b)] [] m Q := by
  refine wp_aload_n dX11_parseRule_107 rfl ?_
  refine wp_callV (As := []) (S := []) (b' := (0, 0)) (b := (0, 0)) dX11_parseRule_108 MX11_416 (ka hF 293 (by decide)) rfl rfl rfl rfl (Nat.le_of_ble_eq_true rfl) ?_
  exact e1

theorem ruWb {G : Cx} {d : Nat} {m : Mm} {Q : Option Value → Mm → Prop} {b : Nat} (hF : Full G m) 
    (e1 : WPM G (d + 21) (0, 0) μX11_requireSymbol [.ref (gB G + 293), .int (58 : Int32)] m (fun r' m' => WP G (d + 22) (0, 0) μX11_parseRule 117 [.ref (gB G + 293), lvU, .int (nI b)] (r'.toList ++ []) m' Q)) :
    WP G (d + 22) (0, 0) μX11_parseRule 111 [.ref (gB G + 293), lvU, .int (nI b)] [] m Q := by
  refine wp_aload_n dX11_parseRule_111 rfl ?_
  refine wp_bipush (58 : Int32) dX11_parseRule_112 (by decide) ?_
  refine wp_callV (As := [.int (58 : Int32)]) (S := []) (b' := (0, 0)) (b := (0, 0)) dX11_parseRule_114 MX11_408 (ka hF 293 (by decide)) rfl rfl rfl rfl (Nat.le_of_ble_eq_true rfl) ?_
  exact e1

theorem ruWc {G : Cx} {d : Nat} {m : Mm} {Q : Option Value → Mm → Prop} {b : Nat} {s : Int32} (hF : Full G m) (hb : b ≤ 66) (he : fi m 1118 (gB G + 293) = (0 : Int32)) (hz : fi m 1124 (gB G + 293) = s) 
    (e1 : WPM G (d + 21) (0, 0) μX11_parseAction [.ref (gB G + 293), .int (nI b)] (wai (wai (wai m (gB G + 305) (b + 1) s) (gB G + 305) (b + 4) s) (gB G + 305) (b + 5) s) (fun r' m' => WP G (d + 22) (0, 0) μX11_parseRule 165 [.ref (gB G + 293), lvU, lvU] (r'.toList ++ []) m' Q)) :
    WP G (d + 22) (0, 0) μX11_parseRule 117 [.ref (gB G + 293), lvU, .int (nI b)] [] m Q := by
  refine wp_aload_n dX11_parseRule_117 rfl ?_
  refine wp_getr (gB G + 305) dX11_parseRule_118 fX11_49 (ka hF 293 (by decide)) (hF.2 _ _) (rra 12 (isK_le (ka hF 293 (by decide))) (fun _ => rfl)) ?_
  refine wp_iload_n dX11_parseRule_121 rfl ?_
  refine wp_iconst (1 : Int32) dX11_parseRule_122 (by decide) ?_
  refine wp_iaddv (nI (b + 1)) dX11_parseRule_123 (nadd (a := b) (b := 1) (by omega)) ?_
  refine wp_aload_n dX11_parseRule_124 rfl ?_
  refine wp_geti s dX11_parseRule_125 fX11_311 (Or.inl rfl) (ka hF 293 (by decide)) hz ?_
  refine wp_iastk (n := 72) (b + 1) dX11_parseRule_128 (ka hF 305 (by decide)) (la 305) (vin (by omega) (by decide))  (nIc (by omega)) ?_
  have hF1 := Full_wai (gB G + 305) (b + 1) s hF
  refine wp_aload_n dX11_parseRule_129 rfl ?_
  refine wp_getr (gB G + 305) dX11_parseRule_130 fX11_49 (ka hF1 293 (by decide)) (hF1.2 _ _) (rra 12 (isK_le (ka hF1 293 (by decide))) (fun _ => rfl)) ?_
  refine wp_iload_n dX11_parseRule_133 rfl ?_
  refine wp_iconst (4 : Int32) dX11_parseRule_134 (by decide) ?_
  refine wp_iaddv (nI (b + 4)) dX11_parseRule_135 (nadd (a := b) (b := 4) (by omega)) ?_
  refine wp_aload_n dX11_parseRule_136 rfl ?_
  refine wp_geti s dX11_parseRule_137 fX11_311 (Or.inl rfl) (ka hF1 293 (by decide)) (fi_wai.trans hz) ?_
  refine wp_iastk (n := 72) (b + 4) dX11_parseRule_140 (ka hF1 305 (by decide)) (la 305) (vin (by omega) (by decide))  (nIc (by omega)) ?_
  have hF2 := Full_wai (gB G + 305) (b + 4) s hF1
  refine wp_aload_n dX11_parseRule_141 rfl ?_
  refine wp_getr (gB G + 305) dX11_parseRule_142 fX11_49 (ka hF2 293 (by decide)) (hF2.2 _ _) (rra 12 (isK_le (ka hF2 293 (by decide))) (fun _ => rfl)) ?_
  refine wp_iload_n dX11_parseRule_145 rfl ?_
  refine wp_iconst (5 : Int32) dX11_parseRule_146 (by decide) ?_
  refine wp_iaddv (nI (b + 5)) dX11_parseRule_147 (nadd (a := b) (b := 5) (by omega)) ?_
  refine wp_aload_n dX11_parseRule_148 rfl ?_
  refine wp_geti s dX11_parseRule_149 fX11_311 (Or.inl rfl) (ka hF2 293 (by decide)) (fi_wai.trans (fi_wai.trans hz)) ?_
  refine wp_iastk (n := 72) (b + 5) dX11_parseRule_152 (ka hF2 305 (by decide)) (la 305) (vin (by omega) (by decide))  (nIc (by omega)) ?_
  have hF3 := Full_wai (gB G + 305) (b + 5) s hF2
  refine wp_aload_n dX11_parseRule_153 rfl ?_
  refine wp_geti (0 : Int32) dX11_parseRule_154 fX11_298 (Or.inl rfl) (ka hF3 293 (by decide)) (fi_wai.trans (fi_wai.trans (fi_wai.trans he))) ?_
  refine wp_if_ne 165 dX11_parseRule_157 (by decide) (fun q => absurd (by decide) q) (fun _ => ?_)
  refine wp_aload_n dX11_parseRule_160 rfl ?_
  refine wp_iload_n dX11_parseRule_161 rfl ?_
  refine wp_forget [.ref (gB G + 293), lvU, lvU] ⟨Or.inl rfl, Or.inr rfl, Or.inr rfl, trivial⟩ ?_
  refine wp_callV (As := [.int (nI b)]) (S := []) (b' := (0, 0)) (b := (0, 0)) dX11_parseRule_162 MX11_419 (ka hF3 293 (by decide)) rfl rfl rfl rfl (Nat.le_of_ble_eq_true rfl) ?_
  exact e1

theorem ruWd {G : Cx} {d : Nat} {m : Mm} {Q : Option Value → Mm → Prop} {b : Nat} {c s : Int32} (hF : Full G m) (hb : b ≤ 66) (he : fi m 1118 (gB G + 293) = c) (hc : ¬ c = 0) (hz : fi m 1124 (gB G + 293) = s) 
    (e1 : WPM G (d + 21) (0, 0) μX11_requireSymbol [.ref (gB G + 293), .int (59 : Int32)] (wai (wai (wai m (gB G + 305) (b + 1) s) (gB G + 305) (b + 4) s) (gB G + 305) (b + 5) s) (fun r' m' => WP G (d + 22) (0, 0) μX11_parseRule 171 [.ref (gB G + 293), lvU, lvU] (r'.toList ++ []) m' Q)) :
    WP G (d + 22) (0, 0) μX11_parseRule 117 [.ref (gB G + 293), lvU, .int (nI b)] [] m Q := by
  refine wp_aload_n dX11_parseRule_117 rfl ?_
  refine wp_getr (gB G + 305) dX11_parseRule_118 fX11_49 (ka hF 293 (by decide)) (hF.2 _ _) (rra 12 (isK_le (ka hF 293 (by decide))) (fun _ => rfl)) ?_
  refine wp_iload_n dX11_parseRule_121 rfl ?_
  refine wp_iconst (1 : Int32) dX11_parseRule_122 (by decide) ?_
  refine wp_iaddv (nI (b + 1)) dX11_parseRule_123 (nadd (a := b) (b := 1) (by omega)) ?_
  refine wp_aload_n dX11_parseRule_124 rfl ?_
  refine wp_geti s dX11_parseRule_125 fX11_311 (Or.inl rfl) (ka hF 293 (by decide)) hz ?_
  refine wp_iastk (n := 72) (b + 1) dX11_parseRule_128 (ka hF 305 (by decide)) (la 305) (vin (by omega) (by decide))  (nIc (by omega)) ?_
  have hF1 := Full_wai (gB G + 305) (b + 1) s hF
  refine wp_aload_n dX11_parseRule_129 rfl ?_
  refine wp_getr (gB G + 305) dX11_parseRule_130 fX11_49 (ka hF1 293 (by decide)) (hF1.2 _ _) (rra 12 (isK_le (ka hF1 293 (by decide))) (fun _ => rfl)) ?_
  refine wp_iload_n dX11_parseRule_133 rfl ?_
  refine wp_iconst (4 : Int32) dX11_parseRule_134 (by decide) ?_
  refine wp_iaddv (nI (b + 4)) dX11_parseRule_135 (nadd (a := b) (b := 4) (by omega)) ?_
  refine wp_aload_n dX11_parseRule_136 rfl ?_
  refine wp_geti s dX11_parseRule_137 fX11_311 (Or.inl rfl) (ka hF1 293 (by decide)) (fi_wai.trans hz) ?_
  refine wp_iastk (n := 72) (b + 4) dX11_parseRule_140 (ka hF1 305 (by decide)) (la 305) (vin (by omega) (by decide))  (nIc (by omega)) ?_
  have hF2 := Full_wai (gB G + 305) (b + 4) s hF1
  refine wp_aload_n dX11_parseRule_141 rfl ?_
  refine wp_getr (gB G + 305) dX11_parseRule_142 fX11_49 (ka hF2 293 (by decide)) (hF2.2 _ _) (rra 12 (isK_le (ka hF2 293 (by decide))) (fun _ => rfl)) ?_
  refine wp_iload_n dX11_parseRule_145 rfl ?_
  refine wp_iconst (5 : Int32) dX11_parseRule_146 (by decide) ?_
  refine wp_iaddv (nI (b + 5)) dX11_parseRule_147 (nadd (a := b) (b := 5) (by omega)) ?_
  refine wp_aload_n dX11_parseRule_148 rfl ?_
  refine wp_geti s dX11_parseRule_149 fX11_311 (Or.inl rfl) (ka hF2 293 (by decide)) (fi_wai.trans (fi_wai.trans hz)) ?_
  refine wp_iastk (n := 72) (b + 5) dX11_parseRule_152 (ka hF2 305 (by decide)) (la 305) (vin (by omega) (by decide))  (nIc (by omega)) ?_
  have hF3 := Full_wai (gB G + 305) (b + 5) s hF2
  refine wp_aload_n dX11_parseRule_153 rfl ?_
  refine wp_geti c dX11_parseRule_154 fX11_298 (Or.inl rfl) (ka hF3 293 (by decide)) (fi_wai.trans (fi_wai.trans (fi_wai.trans he))) ?_
  refine wp_if_ne 165 dX11_parseRule_157 (by decide) (fun _ => ?_) (fun q => absurd q hc)
  refine wp_aload_n dX11_parseRule_165 rfl ?_
  refine wp_bipush (59 : Int32) dX11_parseRule_166 (by decide) ?_
  refine wp_forget [.ref (gB G + 293), lvU, lvU] ⟨Or.inl rfl, Or.inr rfl, Or.inr rfl, trivial⟩ ?_
  refine wp_callV (As := [.int (59 : Int32)]) (S := []) (b' := (0, 0)) (b := (0, 0)) dX11_parseRule_168 MX11_408 (ka hF3 293 (by decide)) rfl rfl rfl rfl (Nat.le_of_ble_eq_true rfl) ?_
  exact e1

theorem ruN1 {G : Cx} {d : Nat} {m : Mm} {Q : Option Value → Mm → Prop}  (hF : Full G m) 
    (e1 : WPM G (d + 21) (0, 0) μX11_isWord [.ref (gB G + 293), .ref (gK G 17)] m (fun r' m' => WP G (d + 22) (0, 0) μX11_parseRule 20 [.ref (gB G + 293), .int (0 : Int32), lvU] (r'.toList ++ [.ref (gB G + 293)]) m' Q)) :
    WP G (d + 22) (0, 0) μX11_parseRule 7 [.ref (gB G + 293), lvU, lvU] [.int (0 : Int32)] m Q := by
  refine wp_istore_n dX11_parseRule_7 (by decide) rfl ?_
  refine wp_aload_n dX11_parseRule_8 rfl ?_
  refine wp_iload_n dX11_parseRule_9 rfl ?_
  refine wp_if_ne 43 dX11_parseRule_10 (by decide) (fun q => absurd (by decide) q) (fun _ => ?_)
  refine wp_aload_n dX11_parseRule_13 rfl ?_
  refine wp_ldcwS (j := 17) dX11_parseRule_14 (by decide) rfl ?_
  refine wp_callV (As := [.ref (gK G 17)]) (S := [.ref (gB G + 293)]) (b' := (0, 0)) (b := (0, 0)) dX11_parseRule_17 MX11_316 (ka hF 293 (by decide)) rfl rfl rfl rfl (Nat.le_of_ble_eq_true rfl) ?_
  exact e1

theorem ruN2 {G : Cx} {d : Nat} {m : Mm} {Q : Option Value → Mm → Prop}  (hF : Full G m) 
    (e1 : WPM G (d + 21) (0, 0) μX11_isWord [.ref (gB G + 293), .ref (gK G 18)] m (fun r' m' => WP G (d + 22) (0, 0) μX11_parseRule 30 [.ref (gB G + 293), .int (0 : Int32), lvU] (r'.toList ++ [.ref (gB G + 293)]) m' Q)) :
    WP G (d + 22) (0, 0) μX11_parseRule 20 [.ref (gB G + 293), .int (0 : Int32), lvU] [.int (0 : Int32), .ref (gB G + 293)] m Q := by
  refine wp_if_ne 43 dX11_parseRule_20 (by decide) (fun q => absurd (by decide) q) (fun _ => ?_)
  refine wp_aload_n dX11_parseRule_23 rfl ?_
  refine wp_ldcwS (j := 18) dX11_parseRule_24 (by decide) rfl ?_
  refine wp_callV (As := [.ref (gK G 18)]) (S := [.ref (gB G + 293)]) (b' := (0, 0)) (b := (0, 0)) dX11_parseRule_27 MX11_316 (ka hF 293 (by decide)) rfl rfl rfl rfl (Nat.le_of_ble_eq_true rfl) ?_
  exact e1

theorem ruN3 {G : Cx} {d : Nat} {m : Mm} {Q : Option Value → Mm → Prop}  (hF : Full G m) 
    (e1 : WPM G (d + 21) (0, 0) μX11_isWord [.ref (gB G + 293), .ref (gK G 19)] m (fun r' m' => WP G (d + 22) (0, 0) μX11_parseRule 40 [.ref (gB G + 293), .int (0 : Int32), lvU] (r'.toList ++ [.ref (gB G + 293)]) m' Q)) :
    WP G (d + 22) (0, 0) μX11_parseRule 30 [.ref (gB G + 293), .int (0 : Int32), lvU] [.int (0 : Int32), .ref (gB G + 293)] m Q := by
  refine wp_if_ne 43 dX11_parseRule_30 (by decide) (fun q => absurd (by decide) q) (fun _ => ?_)
  refine wp_aload_n dX11_parseRule_33 rfl ?_
  refine wp_ldcwS (j := 19) dX11_parseRule_34 (by decide) rfl ?_
  refine wp_callV (As := [.ref (gK G 19)]) (S := [.ref (gB G + 293)]) (b' := (0, 0)) (b := (0, 0)) dX11_parseRule_37 MX11_316 (ka hF 293 (by decide)) rfl rfl rfl rfl (Nat.le_of_ble_eq_true rfl) ?_
  exact e1

theorem ruY1 {G : Cx} {d : Nat} {m : Mm} {Q : Option Value → Mm → Prop} {c : Nat} {s : Int32} (hF : Full G m) (he : fi m 1118 (gB G + 293) = (0 : Int32)) (hrc : fi m 1123 (gB G + 293) = nI c) (hz : fi m 1124 (gB G + 293) = s) (hr9 : c < 12) 
    (e1 : WPM G (d + 21) (0, 0) μX11_parseAction [.ref (gB G + 293), .int (nI (6 * c))] (wai (wai (wai (wai m (gB G + 305) (6 * c) s) (gB G + 305) (6 * c + 1) s) (gB G + 305) (6 * c + 4) s) (gB G + 305) (6 * c + 5) s) (fun r' m' => WP G (d + 22) (0, 0) μX11_parseRule 165 [.ref (gB G + 293), lvU, lvU] (r'.toList ++ []) m' Q)) :
    WP G (d + 22) (0, 0) μX11_parseRule 20 [.ref (gB G + 293), .int (0 : Int32), lvU] [.int (1 : Int32), .ref (gB G + 293)] m Q := by
  refine wp_if_ne 43 dX11_parseRule_20 (by decide) (fun _ => ?_) (fun q => absurd q (by decide))
  refine wp_iconst (1 : Int32) dX11_parseRule_43 (by decide) ?_
  refine wp_goto 48 dX11_parseRule_44 (by decide) ?_
  refine wp_iconst (1 : Int32) dX11_parseRule_48 (by decide) ?_
  refine wp_callV (As := [.int (1 : Int32), .int (1 : Int32)]) (S := []) (b' := (0, 0)) (b := (0, 0)) dX11_parseRule_49 MX11_304 (ka hF 293 (by decide)) rfl rfl rfl rfl (Nat.le_of_ble_eq_true rfl) ?_
  refine WPM.of pX11 (Nat.le_of_ble_eq_true rfl) rfl ?_
  refine wp_iload_n dX11_require_0 rfl ?_
  refine wp_if_ne 24 dX11_require_1 (by decide) (fun _ => ?_) (fun q => absurd q (by decide))
  refine wp_vret dX11_require_24 rfl ?_
  show WP G (d + 22) (0, 0) μX11_parseRule 52 [.ref (gB G + 293), .int (0 : Int32), lvU] [] m _
  refine wp_aload_n dX11_parseRule_52 rfl ?_
  refine wp_aload_n dX11_parseRule_53 rfl ?_
  refine wp_geti (nI c) dX11_parseRule_54 fX11_413 (Or.inl rfl) (ka hF 293 (by decide)) hrc ?_
  refine wp_bipush (12 : Int32) dX11_parseRule_57 (by decide) ?_
  refine wp_icmp_ge 66 dX11_parseRule_59 (by decide) (fun q => absurd (nlt_ (a := c) (b := 12) hr9 (by omega)) q) (fun _ => ?_)
  refine wp_iconst (1 : Int32) dX11_parseRule_62 (by decide) ?_
  refine wp_goto 67 dX11_parseRule_63 (by decide) ?_
  refine wp_iconst (3 : Int32) dX11_parseRule_67 (by decide) ?_
  refine wp_callV (As := [.int (1 : Int32), .int (3 : Int32)]) (S := []) (b' := (0, 0)) (b := (0, 0)) dX11_parseRule_68 MX11_304 (ka hF 293 (by decide)) rfl rfl rfl rfl (Nat.le_of_ble_eq_true rfl) ?_
  refine WPM.of pX11 (Nat.le_of_ble_eq_true rfl) rfl ?_
  refine wp_iload_n dX11_require_0 rfl ?_
  refine wp_if_ne 24 dX11_require_1 (by decide) (fun _ => ?_) (fun q => absurd q (by decide))
  refine wp_vret dX11_require_24 rfl ?_
  show WP G (d + 22) (0, 0) μX11_parseRule 71 [.ref (gB G + 293), .int (0 : Int32), lvU] [] m _
  refine wp_aload_n dX11_parseRule_71 rfl ?_
  refine wp_geti (0 : Int32) dX11_parseRule_72 fX11_298 (Or.inl rfl) (ka hF 293 (by decide)) he ?_
  refine wp_if_eq 79 dX11_parseRule_75 (by decide) (fun _ => ?_) (fun q => absurd (by decide) q)
  refine wp_bipush (6 : Int32) dX11_parseRule_79 (by decide) ?_
  refine wp_aload_n dX11_parseRule_81 rfl ?_
  refine wp_geti (nI c) dX11_parseRule_82 fX11_413 (Or.inl rfl) (ka hF 293 (by decide)) hrc ?_
  refine wp_imulv (nI (6 * c)) dX11_parseRule_85 (nmul (a := 6) (b := c) (by omega)) ?_
  refine wp_istore_n dX11_parseRule_86 (by decide) rfl ?_
  refine wp_aload_n dX11_parseRule_87 rfl ?_
  refine wp_getr (gB G + 305) dX11_parseRule_88 fX11_49 (ka hF 293 (by decide)) (hF.2 _ _) (rra 12 (isK_le (ka hF 293 (by decide))) (fun _ => rfl)) ?_
  refine wp_iload_n dX11_parseRule_91 rfl ?_
  refine wp_iconst (0 : Int32) dX11_parseRule_92 (by decide) ?_
  refine wp_iaddv (nI (6 * c)) dX11_parseRule_93 (nadd (a := 6 * c) (b := 0) (by omega)) ?_
  refine wp_aload_n dX11_parseRule_94 rfl ?_
  refine wp_geti s dX11_parseRule_95 fX11_311 (Or.inl rfl) (ka hF 293 (by decide)) hz ?_
  refine wp_iastk (n := 72) (6 * c) dX11_parseRule_98 (ka hF 305 (by decide)) (la 305) (vin (by omega) (by decide))  (nIc (by omega)) ?_
  have hF1 := Full_wai (gB G + 305) (6 * c) s hF
  refine wp_iload_n dX11_parseRule_99 rfl ?_
  refine wp_if_eq 117 dX11_parseRule_100 (by decide) (fun _ => ?_) (fun q => absurd (by decide) q)
  refine wp_aload_n dX11_parseRule_117 rfl ?_
  refine wp_getr (gB G + 305) dX11_parseRule_118 fX11_49 (ka hF1 293 (by decide)) (hF1.2 _ _) (rra 12 (isK_le (ka hF1 293 (by decide))) (fun _ => rfl)) ?_
  refine wp_iload_n dX11_parseRule_121 rfl ?_
  refine wp_iconst (1 : Int32) dX11_parseRule_122 (by decide) ?_
  refine wp_iaddv (nI (6 * c + 1)) dX11_parseRule_123 (nadd (a := 6 * c) (b := 1) (by omega)) ?_
  refine wp_aload_n dX11_parseRule_124 rfl ?_
  refine wp_geti s dX11_parseRule_125 fX11_311 (Or.inl rfl) (ka hF1 293 (by decide)) (fi_wai.trans hz) ?_
  refine wp_iastk (n := 72) (6 * c + 1) dX11_parseRule_128 (ka hF1 305 (by decide)) (la 305) (vin (by omega) (by decide))  (nIc (by omega)) ?_
  have hF2 := Full_wai (gB G + 305) (6 * c + 1) s hF1
  refine wp_aload_n dX11_parseRule_129 rfl ?_
  refine wp_getr (gB G + 305) dX11_parseRule_130 fX11_49 (ka hF2 293 (by decide)) (hF2.2 _ _) (rra 12 (isK_le (ka hF2 293 (by decide))) (fun _ => rfl)) ?_
  refine wp_iload_n dX11_parseRule_133 rfl ?_
  refine wp_iconst (4 : Int32) dX11_parseRule_134 (by decide) ?_
  refine wp_iaddv (nI (6 * c + 4)) dX11_parseRule_135 (nadd (a := 6 * c) (b := 4) (by omega)) ?_
  refine wp_aload_n dX11_parseRule_136 rfl ?_
  refine wp_geti s dX11_parseRule_137 fX11_311 (Or.inl rfl) (ka hF2 293 (by decide)) (fi_wai.trans (fi_wai.trans hz)) ?_
  refine wp_iastk (n := 72) (6 * c + 4) dX11_parseRule_140 (ka hF2 305 (by decide)) (la 305) (vin (by omega) (by decide))  (nIc (by omega)) ?_
  have hF3 := Full_wai (gB G + 305) (6 * c + 4) s hF2
  refine wp_aload_n dX11_parseRule_141 rfl ?_
  refine wp_getr (gB G + 305) dX11_parseRule_142 fX11_49 (ka hF3 293 (by decide)) (hF3.2 _ _) (rra 12 (isK_le (ka hF3 293 (by decide))) (fun _ => rfl)) ?_
  refine wp_iload_n dX11_parseRule_145 rfl ?_
  refine wp_iconst (5 : Int32) dX11_parseRule_146 (by decide) ?_
  refine wp_iaddv (nI (6 * c + 5)) dX11_parseRule_147 (nadd (a := 6 * c) (b := 5) (by omega)) ?_
  refine wp_aload_n dX11_parseRule_148 rfl ?_
  refine wp_geti s dX11_parseRule_149 fX11_311 (Or.inl rfl) (ka hF3 293 (by decide)) (fi_wai.trans (fi_wai.trans (fi_wai.trans hz))) ?_
  refine wp_iastk (n := 72) (6 * c + 5) dX11_parseRule_152 (ka hF3 305 (by decide)) (la 305) (vin (by omega) (by decide))  (nIc (by omega)) ?_
  have hF4 := Full_wai (gB G + 305) (6 * c + 5) s hF3
  refine wp_aload_n dX11_parseRule_153 rfl ?_
  refine wp_geti (0 : Int32) dX11_parseRule_154 fX11_298 (Or.inl rfl) (ka hF4 293 (by decide)) (fi_wai.trans (fi_wai.trans (fi_wai.trans (fi_wai.trans he)))) ?_
  refine wp_if_ne 165 dX11_parseRule_157 (by decide) (fun q => absurd (by decide) q) (fun _ => ?_)
  refine wp_aload_n dX11_parseRule_160 rfl ?_
  refine wp_iload_n dX11_parseRule_161 rfl ?_
  refine wp_forget [.ref (gB G + 293), lvU, lvU] ⟨Or.inl rfl, Or.inr rfl, Or.inr rfl, trivial⟩ ?_
  refine wp_callV (As := [.int (nI (6 * c))]) (S := []) (b' := (0, 0)) (b := (0, 0)) dX11_parseRule_162 MX11_419 (ka hF4 293 (by decide)) rfl rfl rfl rfl (Nat.le_of_ble_eq_true rfl) ?_
  exact e1

theorem ruYx1 {G : Cx} {d : Nat} {m : Mm} {Q : Option Value → Mm → Prop} {st : Nat} (hF : Full G m) (he : fi m 1118 (gB G + 293) = (0 : Int32)) (hrc : fi m 1123 (gB G + 293) = (12 : Int32)) (hst : fi m 1113 (gB G + 293) = nI st) 
    (e1 : Q none (wfi (wfi m 1118 (gB G + 293) (3 : Int32)) 1119 (gB G + 293) (nI st))) :
    WP G (d + 22) (0, 0) μX11_parseRule 20 [.ref (gB G + 293), .int (0 : Int32), lvU] [.int (1 : Int32), .ref (gB G + 293)] m Q := by
  refine wp_if_ne 43 dX11_parseRule_20 (by decide) (fun _ => ?_) (fun q => absurd q (by decide))
  refine wp_iconst (1 : Int32) dX11_parseRule_43 (by decide) ?_
  refine wp_goto 48 dX11_parseRule_44 (by decide) ?_
  refine wp_iconst (1 : Int32) dX11_parseRule_48 (by decide) ?_
  refine wp_callV (As := [.int (1 : Int32), .int (1 : Int32)]) (S := []) (b' := (0, 0)) (b := (0, 0)) dX11_parseRule_49 MX11_304 (ka hF 293 (by decide)) rfl rfl rfl rfl (Nat.le_of_ble_eq_true rfl) ?_
  refine WPM.of pX11 (Nat.le_of_ble_eq_true rfl) rfl ?_
  refine wp_iload_n dX11_require_0 rfl ?_
  refine wp_if_ne 24 dX11_require_1 (by decide) (fun _ => ?_) (fun q => absurd q (by decide))
  refine wp_vret dX11_require_24 rfl ?_
  show WP G (d + 22) (0, 0) μX11_parseRule 52 [.ref (gB G + 293), .int (0 : Int32), lvU] [] m _
  refine wp_aload_n dX11_parseRule_52 rfl ?_
  refine wp_aload_n dX11_parseRule_53 rfl ?_
  refine wp_geti (12 : Int32) dX11_parseRule_54 fX11_413 (Or.inl rfl) (ka hF 293 (by decide)) hrc ?_
  refine wp_bipush (12 : Int32) dX11_parseRule_57 (by decide) ?_
  refine wp_icmp_ge 66 dX11_parseRule_59 (by decide) (fun _ => ?_) (fun q => absurd q (by decide))
  refine wp_iconst (0 : Int32) dX11_parseRule_66 (by decide) ?_
  refine wp_iconst (3 : Int32) dX11_parseRule_67 (by decide) ?_
  refine wp_callV (As := [.int (0 : Int32), .int (3 : Int32)]) (S := []) (b' := (0, 0)) (b := (0, 0)) dX11_parseRule_68 MX11_304 (ka hF 293 (by decide)) rfl rfl rfl rfl (Nat.le_of_ble_eq_true rfl) ?_
  refine WPM.of pX11 (Nat.le_of_ble_eq_true rfl) rfl ?_
  refine wp_iload_n dX11_require_0 rfl ?_
  refine wp_if_ne 24 dX11_require_1 (by decide) (fun q => absurd (by decide) q) (fun _ => ?_)
  refine wp_aload_n dX11_require_4 rfl ?_
  refine wp_geti (0 : Int32) dX11_require_5 fX11_298 (Or.inl rfl) (ka hF 293 (by decide)) he ?_
  refine wp_if_ne 24 dX11_require_8 (by decide) (fun q => absurd (by decide) q) (fun _ => ?_)
  refine wp_aload_n dX11_require_11 rfl ?_
  refine wp_iload_n dX11_require_12 rfl ?_
  refine wp_puti dX11_require_13 pX11_298 (ka hF 293 (by decide)) ?_
  have hF1 := Full_wfi 1118 (gB G + 293) (3 : Int32) hF
  refine wp_aload_n dX11_require_16 rfl ?_
  refine wp_aload_n dX11_require_17 rfl ?_
  refine wp_geti (nI st) dX11_require_18 fX11_256 (Or.inl rfl) (ka hF1 293 (by decide)) ((fi_ne (by decide)).trans hst) ?_
  refine wp_puti dX11_require_21 pX11_45 (ka hF1 293 (by decide)) ?_
  have hF2 := Full_wfi 1119 (gB G + 293) (nI st) hF1
  refine wp_vret dX11_require_24 rfl ?_
  show WP G (d + 22) (0, 0) μX11_parseRule 71 [.ref (gB G + 293), .int (0 : Int32), lvU] [] (wfi (wfi m 1118 (gB G + 293) (3 : Int32)) 1119 (gB G + 293) (nI st)) _
  refine wp_aload_n dX11_parseRule_71 rfl ?_
  refine wp_geti (3 : Int32) dX11_parseRule_72 fX11_298 (Or.inl rfl) (ka hF2 293 (by decide)) ((fi_ne (by decide)).trans fi_eq) ?_
  refine wp_if_eq 79 dX11_parseRule_75 (by decide) (fun q => absurd q (by decide)) (fun _ => ?_)
  exact wp_vret dX11_parseRule_78 rfl (e1)

theorem ruY2 {G : Cx} {d : Nat} {m : Mm} {Q : Option Value → Mm → Prop} {c : Nat} {s : Int32} (hF : Full G m) (he : fi m 1118 (gB G + 293) = (0 : Int32)) (hrc : fi m 1123 (gB G + 293) = nI c) (hz : fi m 1124 (gB G + 293) = s) (hr9 : c < 12) 
    (e1 : WPM G (d + 21) (0, 0) μX11_parseAction [.ref (gB G + 293), .int (nI (6 * c))] (wai (wai (wai (wai m (gB G + 305) (6 * c) s) (gB G + 305) (6 * c + 1) s) (gB G + 305) (6 * c + 4) s) (gB G + 305) (6 * c + 5) s) (fun r' m' => WP G (d + 22) (0, 0) μX11_parseRule 165 [.ref (gB G + 293), lvU, lvU] (r'.toList ++ []) m' Q)) :
    WP G (d + 22) (0, 0) μX11_parseRule 30 [.ref (gB G + 293), .int (0 : Int32), lvU] [.int (1 : Int32), .ref (gB G + 293)] m Q := by
  refine wp_if_ne 43 dX11_parseRule_30 (by decide) (fun _ => ?_) (fun q => absurd q (by decide))
  refine wp_iconst (1 : Int32) dX11_parseRule_43 (by decide) ?_
  refine wp_goto 48 dX11_parseRule_44 (by decide) ?_
  refine wp_iconst (1 : Int32) dX11_parseRule_48 (by decide) ?_
  refine wp_callV (As := [.int (1 : Int32), .int (1 : Int32)]) (S := []) (b' := (0, 0)) (b := (0, 0)) dX11_parseRule_49 MX11_304 (ka hF 293 (by decide)) rfl rfl rfl rfl (Nat.le_of_ble_eq_true rfl) ?_
  refine WPM.of pX11 (Nat.le_of_ble_eq_true rfl) rfl ?_
  refine wp_iload_n dX11_require_0 rfl ?_
  refine wp_if_ne 24 dX11_require_1 (by decide) (fun _ => ?_) (fun q => absurd q (by decide))
  refine wp_vret dX11_require_24 rfl ?_
  show WP G (d + 22) (0, 0) μX11_parseRule 52 [.ref (gB G + 293), .int (0 : Int32), lvU] [] m _
  refine wp_aload_n dX11_parseRule_52 rfl ?_
  refine wp_aload_n dX11_parseRule_53 rfl ?_
  refine wp_geti (nI c) dX11_parseRule_54 fX11_413 (Or.inl rfl) (ka hF 293 (by decide)) hrc ?_
  refine wp_bipush (12 : Int32) dX11_parseRule_57 (by decide) ?_
  refine wp_icmp_ge 66 dX11_parseRule_59 (by decide) (fun q => absurd (nlt_ (a := c) (b := 12) hr9 (by omega)) q) (fun _ => ?_)
  refine wp_iconst (1 : Int32) dX11_parseRule_62 (by decide) ?_
  refine wp_goto 67 dX11_parseRule_63 (by decide) ?_
  refine wp_iconst (3 : Int32) dX11_parseRule_67 (by decide) ?_
  refine wp_callV (As := [.int (1 : Int32), .int (3 : Int32)]) (S := []) (b' := (0, 0)) (b := (0, 0)) dX11_parseRule_68 MX11_304 (ka hF 293 (by decide)) rfl rfl rfl rfl (Nat.le_of_ble_eq_true rfl) ?_
  refine WPM.of pX11 (Nat.le_of_ble_eq_true rfl) rfl ?_
  refine wp_iload_n dX11_require_0 rfl ?_
  refine wp_if_ne 24 dX11_require_1 (by decide) (fun _ => ?_) (fun q => absurd q (by decide))
  refine wp_vret dX11_require_24 rfl ?_
  show WP G (d + 22) (0, 0) μX11_parseRule 71 [.ref (gB G + 293), .int (0 : Int32), lvU] [] m _
  refine wp_aload_n dX11_parseRule_71 rfl ?_
  refine wp_geti (0 : Int32) dX11_parseRule_72 fX11_298 (Or.inl rfl) (ka hF 293 (by decide)) he ?_
  refine wp_if_eq 79 dX11_parseRule_75 (by decide) (fun _ => ?_) (fun q => absurd (by decide) q)
  refine wp_bipush (6 : Int32) dX11_parseRule_79 (by decide) ?_
  refine wp_aload_n dX11_parseRule_81 rfl ?_
  refine wp_geti (nI c) dX11_parseRule_82 fX11_413 (Or.inl rfl) (ka hF 293 (by decide)) hrc ?_
  refine wp_imulv (nI (6 * c)) dX11_parseRule_85 (nmul (a := 6) (b := c) (by omega)) ?_
  refine wp_istore_n dX11_parseRule_86 (by decide) rfl ?_
  refine wp_aload_n dX11_parseRule_87 rfl ?_
  refine wp_getr (gB G + 305) dX11_parseRule_88 fX11_49 (ka hF 293 (by decide)) (hF.2 _ _) (rra 12 (isK_le (ka hF 293 (by decide))) (fun _ => rfl)) ?_
  refine wp_iload_n dX11_parseRule_91 rfl ?_
  refine wp_iconst (0 : Int32) dX11_parseRule_92 (by decide) ?_
  refine wp_iaddv (nI (6 * c)) dX11_parseRule_93 (nadd (a := 6 * c) (b := 0) (by omega)) ?_
  refine wp_aload_n dX11_parseRule_94 rfl ?_
  refine wp_geti s dX11_parseRule_95 fX11_311 (Or.inl rfl) (ka hF 293 (by decide)) hz ?_
  refine wp_iastk (n := 72) (6 * c) dX11_parseRule_98 (ka hF 305 (by decide)) (la 305) (vin (by omega) (by decide))  (nIc (by omega)) ?_
  have hF1 := Full_wai (gB G + 305) (6 * c) s hF
  refine wp_iload_n dX11_parseRule_99 rfl ?_
  refine wp_if_eq 117 dX11_parseRule_100 (by decide) (fun _ => ?_) (fun q => absurd (by decide) q)
  refine wp_aload_n dX11_parseRule_117 rfl ?_
  refine wp_getr (gB G + 305) dX11_parseRule_118 fX11_49 (ka hF1 293 (by decide)) (hF1.2 _ _) (rra 12 (isK_le (ka hF1 293 (by decide))) (fun _ => rfl)) ?_
  refine wp_iload_n dX11_parseRule_121 rfl ?_
  refine wp_iconst (1 : Int32) dX11_parseRule_122 (by decide) ?_
  refine wp_iaddv (nI (6 * c + 1)) dX11_parseRule_123 (nadd (a := 6 * c) (b := 1) (by omega)) ?_
  refine wp_aload_n dX11_parseRule_124 rfl ?_
  refine wp_geti s dX11_parseRule_125 fX11_311 (Or.inl rfl) (ka hF1 293 (by decide)) (fi_wai.trans hz) ?_
  refine wp_iastk (n := 72) (6 * c + 1) dX11_parseRule_128 (ka hF1 305 (by decide)) (la 305) (vin (by omega) (by decide))  (nIc (by omega)) ?_
  have hF2 := Full_wai (gB G + 305) (6 * c + 1) s hF1
  refine wp_aload_n dX11_parseRule_129 rfl ?_
  refine wp_getr (gB G + 305) dX11_parseRule_130 fX11_49 (ka hF2 293 (by decide)) (hF2.2 _ _) (rra 12 (isK_le (ka hF2 293 (by decide))) (fun _ => rfl)) ?_
  refine wp_iload_n dX11_parseRule_133 rfl ?_
  refine wp_iconst (4 : Int32) dX11_parseRule_134 (by decide) ?_
  refine wp_iaddv (nI (6 * c + 4)) dX11_parseRule_135 (nadd (a := 6 * c) (b := 4) (by omega)) ?_
  refine wp_aload_n dX11_parseRule_136 rfl ?_
  refine wp_geti s dX11_parseRule_137 fX11_311 (Or.inl rfl) (ka hF2 293 (by decide)) (fi_wai.trans (fi_wai.trans hz)) ?_
  refine wp_iastk (n := 72) (6 * c + 4) dX11_parseRule_140 (ka hF2 305 (by decide)) (la 305) (vin (by omega) (by decide))  (nIc (by omega)) ?_
  have hF3 := Full_wai (gB G + 305) (6 * c + 4) s hF2
  refine wp_aload_n dX11_parseRule_141 rfl ?_
  refine wp_getr (gB G + 305) dX11_parseRule_142 fX11_49 (ka hF3 293 (by decide)) (hF3.2 _ _) (rra 12 (isK_le (ka hF3 293 (by decide))) (fun _ => rfl)) ?_
  refine wp_iload_n dX11_parseRule_145 rfl ?_
  refine wp_iconst (5 : Int32) dX11_parseRule_146 (by decide) ?_
  refine wp_iaddv (nI (6 * c + 5)) dX11_parseRule_147 (nadd (a := 6 * c) (b := 5) (by omega)) ?_
  refine wp_aload_n dX11_parseRule_148 rfl ?_
  refine wp_geti s dX11_parseRule_149 fX11_311 (Or.inl rfl) (ka hF3 293 (by decide)) (fi_wai.trans (fi_wai.trans (fi_wai.trans hz))) ?_
  refine wp_iastk (n := 72) (6 * c + 5) dX11_parseRule_152 (ka hF3 305 (by decide)) (la 305) (vin (by omega) (by decide))  (nIc (by omega)) ?_
  have hF4 := Full_wai (gB G + 305) (6 * c + 5) s hF3
  refine wp_aload_n dX11_parseRule_153 rfl ?_
  refine wp_geti (0 : Int32) dX11_parseRule_154 fX11_298 (Or.inl rfl) (ka hF4 293 (by decide)) (fi_wai.trans (fi_wai.trans (fi_wai.trans (fi_wai.trans he)))) ?_
  refine wp_if_ne 165 dX11_parseRule_157 (by decide) (fun q => absurd (by decide) q) (fun _ => ?_)
  refine wp_aload_n dX11_parseRule_160 rfl ?_
  refine wp_iload_n dX11_parseRule_161 rfl ?_
  refine wp_forget [.ref (gB G + 293), lvU, lvU] ⟨Or.inl rfl, Or.inr rfl, Or.inr rfl, trivial⟩ ?_
  refine wp_callV (As := [.int (nI (6 * c))]) (S := []) (b' := (0, 0)) (b := (0, 0)) dX11_parseRule_162 MX11_419 (ka hF4 293 (by decide)) rfl rfl rfl rfl (Nat.le_of_ble_eq_true rfl) ?_
  exact e1

theorem ruYx2 {G : Cx} {d : Nat} {m : Mm} {Q : Option Value → Mm → Prop} {st : Nat} (hF : Full G m) (he : fi m 1118 (gB G + 293) = (0 : Int32)) (hrc : fi m 1123 (gB G + 293) = (12 : Int32)) (hst : fi m 1113 (gB G + 293) = nI st) 
    (e1 : Q none (wfi (wfi m 1118 (gB G + 293) (3 : Int32)) 1119 (gB G + 293) (nI st))) :
    WP G (d + 22) (0, 0) μX11_parseRule 30 [.ref (gB G + 293), .int (0 : Int32), lvU] [.int (1 : Int32), .ref (gB G + 293)] m Q := by
  refine wp_if_ne 43 dX11_parseRule_30 (by decide) (fun _ => ?_) (fun q => absurd q (by decide))
  refine wp_iconst (1 : Int32) dX11_parseRule_43 (by decide) ?_
  refine wp_goto 48 dX11_parseRule_44 (by decide) ?_
  refine wp_iconst (1 : Int32) dX11_parseRule_48 (by decide) ?_
  refine wp_callV (As := [.int (1 : Int32), .int (1 : Int32)]) (S := []) (b' := (0, 0)) (b := (0, 0)) dX11_parseRule_49 MX11_304 (ka hF 293 (by decide)) rfl rfl rfl rfl (Nat.le_of_ble_eq_true rfl) ?_
  refine WPM.of pX11 (Nat.le_of_ble_eq_true rfl) rfl ?_
  refine wp_iload_n dX11_require_0 rfl ?_
  refine wp_if_ne 24 dX11_require_1 (by decide) (fun _ => ?_) (fun q => absurd q (by decide))
  refine wp_vret dX11_require_24 rfl ?_
  show WP G (d + 22) (0, 0) μX11_parseRule 52 [.ref (gB G + 293), .int (0 : Int32), lvU] [] m _
  refine wp_aload_n dX11_parseRule_52 rfl ?_
  refine wp_aload_n dX11_parseRule_53 rfl ?_
  refine wp_geti (12 : Int32) dX11_parseRule_54 fX11_413 (Or.inl rfl) (ka hF 293 (by decide)) hrc ?_
  refine wp_bipush (12 : Int32) dX11_parseRule_57 (by decide) ?_
  refine wp_icmp_ge 66 dX11_parseRule_59 (by decide) (fun _ => ?_) (fun q => absurd q (by decide))
  refine wp_iconst (0 : Int32) dX11_parseRule_66 (by decide) ?_
  refine wp_iconst (3 : Int32) dX11_parseRule_67 (by decide) ?_
  refine wp_callV (As := [.int (0 : Int32), .int (3 : Int32)]) (S := []) (b' := (0, 0)) (b := (0, 0)) dX11_parseRule_68 MX11_304 (ka hF 293 (by decide)) rfl rfl rfl rfl (Nat.le_of_ble_eq_true rfl) ?_
  refine WPM.of pX11 (Nat.le_of_ble_eq_true rfl) rfl ?_
  refine wp_iload_n dX11_require_0 rfl ?_
  refine wp_if_ne 24 dX11_require_1 (by decide) (fun q => absurd (by decide) q) (fun _ => ?_)
  refine wp_aload_n dX11_require_4 rfl ?_
  refine wp_geti (0 : Int32) dX11_require_5 fX11_298 (Or.inl rfl) (ka hF 293 (by decide)) he ?_
  refine wp_if_ne 24 dX11_require_8 (by decide) (fun q => absurd (by decide) q) (fun _ => ?_)
  refine wp_aload_n dX11_require_11 rfl ?_
  refine wp_iload_n dX11_require_12 rfl ?_
  refine wp_puti dX11_require_13 pX11_298 (ka hF 293 (by decide)) ?_
  have hF1 := Full_wfi 1118 (gB G + 293) (3 : Int32) hF
  refine wp_aload_n dX11_require_16 rfl ?_
  refine wp_aload_n dX11_require_17 rfl ?_
  refine wp_geti (nI st) dX11_require_18 fX11_256 (Or.inl rfl) (ka hF1 293 (by decide)) ((fi_ne (by decide)).trans hst) ?_
  refine wp_puti dX11_require_21 pX11_45 (ka hF1 293 (by decide)) ?_
  have hF2 := Full_wfi 1119 (gB G + 293) (nI st) hF1
  refine wp_vret dX11_require_24 rfl ?_
  show WP G (d + 22) (0, 0) μX11_parseRule 71 [.ref (gB G + 293), .int (0 : Int32), lvU] [] (wfi (wfi m 1118 (gB G + 293) (3 : Int32)) 1119 (gB G + 293) (nI st)) _
  refine wp_aload_n dX11_parseRule_71 rfl ?_
  refine wp_geti (3 : Int32) dX11_parseRule_72 fX11_298 (Or.inl rfl) (ka hF2 293 (by decide)) ((fi_ne (by decide)).trans fi_eq) ?_
  refine wp_if_eq 79 dX11_parseRule_75 (by decide) (fun q => absurd q (by decide)) (fun _ => ?_)
  exact wp_vret dX11_parseRule_78 rfl (e1)

theorem ruY3 {G : Cx} {d : Nat} {m : Mm} {Q : Option Value → Mm → Prop} {c : Nat} {s : Int32} (hF : Full G m) (he : fi m 1118 (gB G + 293) = (0 : Int32)) (hrc : fi m 1123 (gB G + 293) = nI c) (hz : fi m 1124 (gB G + 293) = s) (hr9 : c < 12) 
    (e1 : WPM G (d + 21) (0, 0) μX11_parseAction [.ref (gB G + 293), .int (nI (6 * c))] (wai (wai (wai (wai m (gB G + 305) (6 * c) s) (gB G + 305) (6 * c + 1) s) (gB G + 305) (6 * c + 4) s) (gB G + 305) (6 * c + 5) s) (fun r' m' => WP G (d + 22) (0, 0) μX11_parseRule 165 [.ref (gB G + 293), lvU, lvU] (r'.toList ++ []) m' Q)) :
    WP G (d + 22) (0, 0) μX11_parseRule 40 [.ref (gB G + 293), .int (0 : Int32), lvU] [.int (1 : Int32), .ref (gB G + 293)] m Q := by
  refine wp_if_eq 47 dX11_parseRule_40 (by decide) (fun q => absurd q (by decide)) (fun _ => ?_)
  refine wp_iconst (1 : Int32) dX11_parseRule_43 (by decide) ?_
  refine wp_goto 48 dX11_parseRule_44 (by decide) ?_
  refine wp_iconst (1 : Int32) dX11_parseRule_48 (by decide) ?_
  refine wp_callV (As := [.int (1 : Int32), .int (1 : Int32)]) (S := []) (b' := (0, 0)) (b := (0, 0)) dX11_parseRule_49 MX11_304 (ka hF 293 (by decide)) rfl rfl rfl rfl (Nat.le_of_ble_eq_true rfl) ?_
  refine WPM.of pX11 (Nat.le_of_ble_eq_true rfl) rfl ?_
  refine wp_iload_n dX11_require_0 rfl ?_
  refine wp_if_ne 24 dX11_require_1 (by decide) (fun _ => ?_) (fun q => absurd q (by decide))
  refine wp_vret dX11_require_24 rfl ?_
  show WP G (d + 22) (0, 0) μX11_parseRule 52 [.ref (gB G + 293), .int (0 : Int32), lvU] [] m _
  refine wp_aload_n dX11_parseRule_52 rfl ?_
  refine wp_aload_n dX11_parseRule_53 rfl ?_
  refine wp_geti (nI c) dX11_parseRule_54 fX11_413 (Or.inl rfl) (ka hF 293 (by decide)) hrc ?_
  refine wp_bipush (12 : Int32) dX11_parseRule_57 (by decide) ?_
  refine wp_icmp_ge 66 dX11_parseRule_59 (by decide) (fun q => absurd (nlt_ (a := c) (b := 12) hr9 (by omega)) q) (fun _ => ?_)
  refine wp_iconst (1 : Int32) dX11_parseRule_62 (by decide) ?_
  refine wp_goto 67 dX11_parseRule_63 (by decide) ?_
  refine wp_iconst (3 : Int32) dX11_parseRule_67 (by decide) ?_
  refine wp_callV (As := [.int (1 : Int32), .int (3 : Int32)]) (S := []) (b' := (0, 0)) (b := (0, 0)) dX11_parseRule_68 MX11_304 (ka hF 293 (by decide)) rfl rfl rfl rfl (Nat.le_of_ble_eq_true rfl) ?_
  refine WPM.of pX11 (Nat.le_of_ble_eq_true rfl) rfl ?_
  refine wp_iload_n dX11_require_0 rfl ?_
  refine wp_if_ne 24 dX11_require_1 (by decide) (fun _ => ?_) (fun q => absurd q (by decide))
  refine wp_vret dX11_require_24 rfl ?_
  show WP G (d + 22) (0, 0) μX11_parseRule 71 [.ref (gB G + 293), .int (0 : Int32), lvU] [] m _
  refine wp_aload_n dX11_parseRule_71 rfl ?_
  refine wp_geti (0 : Int32) dX11_parseRule_72 fX11_298 (Or.inl rfl) (ka hF 293 (by decide)) he ?_
  refine wp_if_eq 79 dX11_parseRule_75 (by decide) (fun _ => ?_) (fun q => absurd (by decide) q)
  refine wp_bipush (6 : Int32) dX11_parseRule_79 (by decide) ?_
  refine wp_aload_n dX11_parseRule_81 rfl ?_
  refine wp_geti (nI c) dX11_parseRule_82 fX11_413 (Or.inl rfl) (ka hF 293 (by decide)) hrc ?_
  refine wp_imulv (nI (6 * c)) dX11_parseRule_85 (nmul (a := 6) (b := c) (by omega)) ?_
  refine wp_istore_n dX11_parseRule_86 (by decide) rfl ?_
  refine wp_aload_n dX11_parseRule_87 rfl ?_
  refine wp_getr (gB G + 305) dX11_parseRule_88 fX11_49 (ka hF 293 (by decide)) (hF.2 _ _) (rra 12 (isK_le (ka hF 293 (by decide))) (fun _ => rfl)) ?_
  refine wp_iload_n dX11_parseRule_91 rfl ?_
  refine wp_iconst (0 : Int32) dX11_parseRule_92 (by decide) ?_
  refine wp_iaddv (nI (6 * c)) dX11_parseRule_93 (nadd (a := 6 * c) (b := 0) (by omega)) ?_
  refine wp_aload_n dX11_parseRule_94 rfl ?_
  refine wp_geti s dX11_parseRule_95 fX11_311 (Or.inl rfl) (ka hF 293 (by decide)) hz ?_
  refine wp_iastk (n := 72) (6 * c) dX11_parseRule_98 (ka hF 305 (by decide)) (la 305) (vin (by omega) (by decide))  (nIc (by omega)) ?_
  have hF1 := Full_wai (gB G + 305) (6 * c) s hF
  refine wp_iload_n dX11_parseRule_99 rfl ?_
  refine wp_if_eq 117 dX11_parseRule_100 (by decide) (fun _ => ?_) (fun q => absurd (by decide) q)
  refine wp_aload_n dX11_parseRule_117 rfl ?_
  refine wp_getr (gB G + 305) dX11_parseRule_118 fX11_49 (ka hF1 293 (by decide)) (hF1.2 _ _) (rra 12 (isK_le (ka hF1 293 (by decide))) (fun _ => rfl)) ?_
  refine wp_iload_n dX11_parseRule_121 rfl ?_
  refine wp_iconst (1 : Int32) dX11_parseRule_122 (by decide) ?_
  refine wp_iaddv (nI (6 * c + 1)) dX11_parseRule_123 (nadd (a := 6 * c) (b := 1) (by omega)) ?_
  refine wp_aload_n dX11_parseRule_124 rfl ?_
  refine wp_geti s dX11_parseRule_125 fX11_311 (Or.inl rfl) (ka hF1 293 (by decide)) (fi_wai.trans hz) ?_
  refine wp_iastk (n := 72) (6 * c + 1) dX11_parseRule_128 (ka hF1 305 (by decide)) (la 305) (vin (by omega) (by decide))  (nIc (by omega)) ?_
  have hF2 := Full_wai (gB G + 305) (6 * c + 1) s hF1
  refine wp_aload_n dX11_parseRule_129 rfl ?_
  refine wp_getr (gB G + 305) dX11_parseRule_130 fX11_49 (ka hF2 293 (by decide)) (hF2.2 _ _) (rra 12 (isK_le (ka hF2 293 (by decide))) (fun _ => rfl)) ?_
  refine wp_iload_n dX11_parseRule_133 rfl ?_
  refine wp_iconst (4 : Int32) dX11_parseRule_134 (by decide) ?_
  refine wp_iaddv (nI (6 * c + 4)) dX11_parseRule_135 (nadd (a := 6 * c) (b := 4) (by omega)) ?_
  refine wp_aload_n dX11_parseRule_136 rfl ?_
  refine wp_geti s dX11_parseRule_137 fX11_311 (Or.inl rfl) (ka hF2 293 (by decide)) (fi_wai.trans (fi_wai.trans hz)) ?_
  refine wp_iastk (n := 72) (6 * c + 4) dX11_parseRule_140 (ka hF2 305 (by decide)) (la 305) (vin (by omega) (by decide))  (nIc (by omega)) ?_
  have hF3 := Full_wai (gB G + 305) (6 * c + 4) s hF2
  refine wp_aload_n dX11_parseRule_141 rfl ?_
  refine wp_getr (gB G + 305) dX11_parseRule_142 fX11_49 (ka hF3 293 (by decide)) (hF3.2 _ _) (rra 12 (isK_le (ka hF3 293 (by decide))) (fun _ => rfl)) ?_
  refine wp_iload_n dX11_parseRule_145 rfl ?_
  refine wp_iconst (5 : Int32) dX11_parseRule_146 (by decide) ?_
  refine wp_iaddv (nI (6 * c + 5)) dX11_parseRule_147 (nadd (a := 6 * c) (b := 5) (by omega)) ?_
  refine wp_aload_n dX11_parseRule_148 rfl ?_
  refine wp_geti s dX11_parseRule_149 fX11_311 (Or.inl rfl) (ka hF3 293 (by decide)) (fi_wai.trans (fi_wai.trans (fi_wai.trans hz))) ?_
  refine wp_iastk (n := 72) (6 * c + 5) dX11_parseRule_152 (ka hF3 305 (by decide)) (la 305) (vin (by omega) (by decide))  (nIc (by omega)) ?_
  have hF4 := Full_wai (gB G + 305) (6 * c + 5) s hF3
  refine wp_aload_n dX11_parseRule_153 rfl ?_
  refine wp_geti (0 : Int32) dX11_parseRule_154 fX11_298 (Or.inl rfl) (ka hF4 293 (by decide)) (fi_wai.trans (fi_wai.trans (fi_wai.trans (fi_wai.trans he)))) ?_
  refine wp_if_ne 165 dX11_parseRule_157 (by decide) (fun q => absurd (by decide) q) (fun _ => ?_)
  refine wp_aload_n dX11_parseRule_160 rfl ?_
  refine wp_iload_n dX11_parseRule_161 rfl ?_
  refine wp_forget [.ref (gB G + 293), lvU, lvU] ⟨Or.inl rfl, Or.inr rfl, Or.inr rfl, trivial⟩ ?_
  refine wp_callV (As := [.int (nI (6 * c))]) (S := []) (b' := (0, 0)) (b := (0, 0)) dX11_parseRule_162 MX11_419 (ka hF4 293 (by decide)) rfl rfl rfl rfl (Nat.le_of_ble_eq_true rfl) ?_
  exact e1

theorem ruYx3 {G : Cx} {d : Nat} {m : Mm} {Q : Option Value → Mm → Prop} {st : Nat} (hF : Full G m) (he : fi m 1118 (gB G + 293) = (0 : Int32)) (hrc : fi m 1123 (gB G + 293) = (12 : Int32)) (hst : fi m 1113 (gB G + 293) = nI st) 
    (e1 : Q none (wfi (wfi m 1118 (gB G + 293) (3 : Int32)) 1119 (gB G + 293) (nI st))) :
    WP G (d + 22) (0, 0) μX11_parseRule 40 [.ref (gB G + 293), .int (0 : Int32), lvU] [.int (1 : Int32), .ref (gB G + 293)] m Q := by
  refine wp_if_eq 47 dX11_parseRule_40 (by decide) (fun q => absurd q (by decide)) (fun _ => ?_)
  refine wp_iconst (1 : Int32) dX11_parseRule_43 (by decide) ?_
  refine wp_goto 48 dX11_parseRule_44 (by decide) ?_
  refine wp_iconst (1 : Int32) dX11_parseRule_48 (by decide) ?_
  refine wp_callV (As := [.int (1 : Int32), .int (1 : Int32)]) (S := []) (b' := (0, 0)) (b := (0, 0)) dX11_parseRule_49 MX11_304 (ka hF 293 (by decide)) rfl rfl rfl rfl (Nat.le_of_ble_eq_true rfl) ?_
  refine WPM.of pX11 (Nat.le_of_ble_eq_true rfl) rfl ?_
  refine wp_iload_n dX11_require_0 rfl ?_
  refine wp_if_ne 24 dX11_require_1 (by decide) (fun _ => ?_) (fun q => absurd q (by decide))
  refine wp_vret dX11_require_24 rfl ?_
  show WP G (d + 22) (0, 0) μX11_parseRule 52 [.ref (gB G + 293), .int (0 : Int32), lvU] [] m _
  refine wp_aload_n dX11_parseRule_52 rfl ?_
  refine wp_aload_n dX11_parseRule_53 rfl ?_
  refine wp_geti (12 : Int32) dX11_parseRule_54 fX11_413 (Or.inl rfl) (ka hF 293 (by decide)) hrc ?_
  refine wp_bipush (12 : Int32) dX11_parseRule_57 (by decide) ?_
  refine wp_icmp_ge 66 dX11_parseRule_59 (by decide) (fun _ => ?_) (fun q => absurd q (by decide))
  refine wp_iconst (0 : Int32) dX11_parseRule_66 (by decide) ?_
  refine wp_iconst (3 : Int32) dX11_parseRule_67 (by decide) ?_
  refine wp_callV (As := [.int (0 : Int32), .int (3 : Int32)]) (S := []) (b' := (0, 0)) (b := (0, 0)) dX11_parseRule_68 MX11_304 (ka hF 293 (by decide)) rfl rfl rfl rfl (Nat.le_of_ble_eq_true rfl) ?_
  refine WPM.of pX11 (Nat.le_of_ble_eq_true rfl) rfl ?_
  refine wp_iload_n dX11_require_0 rfl ?_
  refine wp_if_ne 24 dX11_require_1 (by decide) (fun q => absurd (by decide) q) (fun _ => ?_)
  refine wp_aload_n dX11_require_4 rfl ?_
  refine wp_geti (0 : Int32) dX11_require_5 fX11_298 (Or.inl rfl) (ka hF 293 (by decide)) he ?_
  refine wp_if_ne 24 dX11_require_8 (by decide) (fun q => absurd (by decide) q) (fun _ => ?_)
  refine wp_aload_n dX11_require_11 rfl ?_
  refine wp_iload_n dX11_require_12 rfl ?_
  refine wp_puti dX11_require_13 pX11_298 (ka hF 293 (by decide)) ?_
  have hF1 := Full_wfi 1118 (gB G + 293) (3 : Int32) hF
  refine wp_aload_n dX11_require_16 rfl ?_
  refine wp_aload_n dX11_require_17 rfl ?_
  refine wp_geti (nI st) dX11_require_18 fX11_256 (Or.inl rfl) (ka hF1 293 (by decide)) ((fi_ne (by decide)).trans hst) ?_
  refine wp_puti dX11_require_21 pX11_45 (ka hF1 293 (by decide)) ?_
  have hF2 := Full_wfi 1119 (gB G + 293) (nI st) hF1
  refine wp_vret dX11_require_24 rfl ?_
  show WP G (d + 22) (0, 0) μX11_parseRule 71 [.ref (gB G + 293), .int (0 : Int32), lvU] [] (wfi (wfi m 1118 (gB G + 293) (3 : Int32)) 1119 (gB G + 293) (nI st)) _
  refine wp_aload_n dX11_parseRule_71 rfl ?_
  refine wp_geti (3 : Int32) dX11_parseRule_72 fX11_298 (Or.inl rfl) (ka hF2 293 (by decide)) ((fi_ne (by decide)).trans fi_eq) ?_
  refine wp_if_eq 79 dX11_parseRule_75 (by decide) (fun q => absurd q (by decide)) (fun _ => ?_)
  exact wp_vret dX11_parseRule_78 rfl (e1)

theorem ruX {G : Cx} {d : Nat} {m : Mm} {Q : Option Value → Mm → Prop} {c st : Nat} (hF : Full G m) (he : fi m 1118 (gB G + 293) = (0 : Int32)) (hrc : fi m 1123 (gB G + 293) = nI c) (hst : fi m 1113 (gB G + 293) = nI st) (hr9 : c ≤ 12) 
    (e1 : ¬ c < 12 → Q none (wfi (wfi m 1118 (gB G + 293) (1 : Int32)) 1119 (gB G + 293) (nI st)))
    (e2 : c < 12 → Q none (wfi (wfi m 1118 (gB G + 293) (1 : Int32)) 1119 (gB G + 293) (nI st))) :
    WP G (d + 22) (0, 0) μX11_parseRule 40 [.ref (gB G + 293), .int (0 : Int32), lvU] [.int (0 : Int32), .ref (gB G + 293)] m Q := by
  refine wp_if_eq 47 dX11_parseRule_40 (by decide) (fun _ => ?_) (fun q => absurd (by decide) q)
  refine wp_iconst (0 : Int32) dX11_parseRule_47 (by decide) ?_
  refine wp_iconst (1 : Int32) dX11_parseRule_48 (by decide) ?_
  refine wp_callV (As := [.int (0 : Int32), .int (1 : Int32)]) (S := []) (b' := (0, 0)) (b := (0, 0)) dX11_parseRule_49 MX11_304 (ka hF 293 (by decide)) rfl rfl rfl rfl (Nat.le_of_ble_eq_true rfl) ?_
  refine WPM.of pX11 (Nat.le_of_ble_eq_true rfl) rfl ?_
  refine wp_iload_n dX11_require_0 rfl ?_
  refine wp_if_ne 24 dX11_require_1 (by decide) (fun q => absurd (by decide) q) (fun _ => ?_)
  refine wp_aload_n dX11_require_4 rfl ?_
  refine wp_geti (0 : Int32) dX11_require_5 fX11_298 (Or.inl rfl) (ka hF 293 (by decide)) he ?_
  refine wp_if_ne 24 dX11_require_8 (by decide) (fun q => absurd (by decide) q) (fun _ => ?_)
  refine wp_aload_n dX11_require_11 rfl ?_
  refine wp_iload_n dX11_require_12 rfl ?_
  refine wp_puti dX11_require_13 pX11_298 (ka hF 293 (by decide)) ?_
  have hF1 := Full_wfi 1118 (gB G + 293) (1 : Int32) hF
  refine wp_aload_n dX11_require_16 rfl ?_
  refine wp_aload_n dX11_require_17 rfl ?_
  refine wp_geti (nI st) dX11_require_18 fX11_256 (Or.inl rfl) (ka hF1 293 (by decide)) ((fi_ne (by decide)).trans hst) ?_
  refine wp_puti dX11_require_21 pX11_45 (ka hF1 293 (by decide)) ?_
  have hF2 := Full_wfi 1119 (gB G + 293) (nI st) hF1
  refine wp_vret dX11_require_24 rfl ?_
  show WP G (d + 22) (0, 0) μX11_parseRule 52 [.ref (gB G + 293), .int (0 : Int32), lvU] [] (wfi (wfi m 1118 (gB G + 293) (1 : Int32)) 1119 (gB G + 293) (nI st)) _
  refine wp_aload_n dX11_parseRule_52 rfl ?_
  refine wp_aload_n dX11_parseRule_53 rfl ?_
  refine wp_geti (nI c) dX11_parseRule_54 fX11_413 (Or.inl rfl) (ka hF2 293 (by decide)) ((fi_ne (by decide)).trans ((fi_ne (by decide)).trans hrc)) ?_
  refine wp_bipush (12 : Int32) dX11_parseRule_57 (by decide) ?_
  refine wp_icmp_ge 66 dX11_parseRule_59 (by decide) (fun q3 => ?_) (fun q4 => ?_)
  · have hp5 : ¬ c < 12 := (fun z => q3 (nlt_ (b := 12) z (by omega)))
    refine wp_iconst (0 : Int32) dX11_parseRule_66 (by decide) ?_
    refine wp_iconst (3 : Int32) dX11_parseRule_67 (by decide) ?_
    refine wp_callV (As := [.int (0 : Int32), .int (3 : Int32)]) (S := []) (b' := (0, 0)) (b := (0, 0)) dX11_parseRule_68 MX11_304 (ka hF2 293 (by decide)) rfl rfl rfl rfl (Nat.le_of_ble_eq_true rfl) ?_
    refine WPM.of pX11 (Nat.le_of_ble_eq_true rfl) rfl ?_
    refine wp_iload_n dX11_require_0 rfl ?_
    refine wp_if_ne 24 dX11_require_1 (by decide) (fun q => absurd (by decide) q) (fun _ => ?_)
    refine wp_aload_n dX11_require_4 rfl ?_
    refine wp_geti (1 : Int32) dX11_require_5 fX11_298 (Or.inl rfl) (ka hF2 293 (by decide)) ((fi_ne (by decide)).trans fi_eq) ?_
    refine wp_if_ne 24 dX11_require_8 (by decide) (fun _ => ?_) (fun q => absurd q (by decide))
    refine wp_vret dX11_require_24 rfl ?_
    show WP G (d + 22) (0, 0) μX11_parseRule 71 [.ref (gB G + 293), .int (0 : Int32), lvU] [] (wfi (wfi m 1118 (gB G + 293) (1 : Int32)) 1119 (gB G + 293) (nI st)) _
    refine wp_aload_n dX11_parseRule_71 rfl ?_
    refine wp_geti (1 : Int32) dX11_parseRule_72 fX11_298 (Or.inl rfl) (ka hF2 293 (by decide)) ((fi_ne (by decide)).trans fi_eq) ?_
    refine wp_if_eq 79 dX11_parseRule_75 (by decide) (fun q => absurd q (by decide)) (fun _ => ?_)
    exact wp_vret dX11_parseRule_78 rfl (e1 hp5)
  · have hp6 : c < 12 := (nlt q4 (by omega) (by omega))
    refine wp_iconst (1 : Int32) dX11_parseRule_62 (by decide) ?_
    refine wp_goto 67 dX11_parseRule_63 (by decide) ?_
    refine wp_iconst (3 : Int32) dX11_parseRule_67 (by decide) ?_
    refine wp_callV (As := [.int (1 : Int32), .int (3 : Int32)]) (S := []) (b' := (0, 0)) (b := (0, 0)) dX11_parseRule_68 MX11_304 (ka hF2 293 (by decide)) rfl rfl rfl rfl (Nat.le_of_ble_eq_true rfl) ?_
    refine WPM.of pX11 (Nat.le_of_ble_eq_true rfl) rfl ?_
    refine wp_iload_n dX11_require_0 rfl ?_
    refine wp_if_ne 24 dX11_require_1 (by decide) (fun _ => ?_) (fun q => absurd q (by decide))
    refine wp_vret dX11_require_24 rfl ?_
    show WP G (d + 22) (0, 0) μX11_parseRule 71 [.ref (gB G + 293), .int (0 : Int32), lvU] [] (wfi (wfi m 1118 (gB G + 293) (1 : Int32)) 1119 (gB G + 293) (nI st)) _
    refine wp_aload_n dX11_parseRule_71 rfl ?_
    refine wp_geti (1 : Int32) dX11_parseRule_72 fX11_298 (Or.inl rfl) (ka hF2 293 (by decide)) ((fi_ne (by decide)).trans fi_eq) ?_
    refine wp_if_eq 79 dX11_parseRule_75 (by decide) (fun q => absurd q (by decide)) (fun _ => ?_)
    exact wp_vret dX11_parseRule_78 rfl (e2 hp6)

theorem ruP {G : Cx} {d : Nat} {m : Mm} {Q : Option Value → Mm → Prop}  (hF : Full G m) 
    (e1 : WPM G (d + 21) (0, 0) μX11_requireSymbol [.ref (gB G + 293), .int (59 : Int32)] m (fun r' m' => WP G (d + 22) (0, 0) μX11_parseRule 171 [.ref (gB G + 293), lvU, lvU] (r'.toList ++ []) m' Q)) :
    WP G (d + 22) (0, 0) μX11_parseRule 165 [.ref (gB G + 293), lvU, lvU] [] m Q := by
  refine wp_aload_n dX11_parseRule_165 rfl ?_
  refine wp_bipush (59 : Int32) dX11_parseRule_166 (by decide) ?_
  refine wp_callV (As := [.int (59 : Int32)]) (S := []) (b' := (0, 0)) (b := (0, 0)) dX11_parseRule_168 MX11_408 (ka hF 293 (by decide)) rfl rfl rfl rfl (Nat.le_of_ble_eq_true rfl) ?_
  exact e1

theorem ruZ {G : Cx} {d : Nat} {m : Mm} {Q : Option Value → Mm → Prop} {c : Nat} (hF : Full G m) (hrc : fi m 1123 (gB G + 293) = nI c) (hr9 : c ≤ 12) 
    (e1 : Q none (wfi m 1123 (gB G + 293) (nI (c + 1)))) :
    WP G (d + 22) (0, 0) μX11_parseRule 171 [.ref (gB G + 293), lvU, lvU] [] m Q := by
  refine wp_aload_n dX11_parseRule_171 rfl ?_
  refine wp_dup dX11_parseRule_172 rfl ?_
  refine wp_geti (nI c) dX11_parseRule_173 fX11_413 (Or.inl rfl) (ka hF 293 (by decide)) hrc ?_
  refine wp_iconst (1 : Int32) dX11_parseRule_176 (by decide) ?_
  refine wp_iaddv (nI (c + 1)) dX11_parseRule_177 (nadd (a := c) (b := 1) (by omega)) ?_
  refine wp_puti dX11_parseRule_178 pX11_413 (ka hF 293 (by decide)) ?_
  have hF1 := Full_wfi 1123 (gB G + 293) (nI (c + 1)) hF
  exact wp_vret dX11_parseRule_181 rfl (e1)

theorem ldA {G : Cx} {d : Nat} {m : Mm} {Q : Option Value → Mm → Prop}  (hF : Full G m) 
    (e1 : WPM G (d + 23) (0, 0) μX11_nextToken [.ref (gB G + 293)] (wfi (wfi (wfi (wfi (wfi m 1118 (gB G + 293) (0 : Int32)) 1119 (gB G + 293) (-1 : Int32)) 1123 (gB G + 293) (0 : Int32)) 1124 (gB G + 293) (0 : Int32)) 1112 (gB G + 293) (0 : Int32)) (fun r' m' => WP G (d + 24) (0, 0) μX11_loadRules 29 [.ref (gB G + 293), lvU] (r'.toList ++ []) m' Q)) :
    WPM G (d + 24) (0, 0) μX11_loadRules [.ref (gB G + 293)] m Q := by
  refine WPM.of pX11 (Nat.le_of_ble_eq_true rfl) rfl ?_
  refine wp_aload_n dX11_loadRules_0 rfl ?_
  refine wp_iconst (0 : Int32) dX11_loadRules_1 (by decide) ?_
  refine wp_puti dX11_loadRules_2 pX11_298 (ka hF 293 (by decide)) ?_
  have hF1 := Full_wfi 1118 (gB G + 293) (0 : Int32) hF
  refine wp_aload_n dX11_loadRules_5 rfl ?_
  refine wp_iconst (-1 : Int32) dX11_loadRules_6 (by decide) ?_
  refine wp_puti dX11_loadRules_7 pX11_45 (ka hF1 293 (by decide)) ?_
  have hF2 := Full_wfi 1119 (gB G + 293) (-1 : Int32) hF1
  refine wp_aload_n dX11_loadRules_10 rfl ?_
  refine wp_iconst (0 : Int32) dX11_loadRules_11 (by decide) ?_
  refine wp_puti dX11_loadRules_12 pX11_413 (ka hF2 293 (by decide)) ?_
  have hF3 := Full_wfi 1123 (gB G + 293) (0 : Int32) hF2
  refine wp_aload_n dX11_loadRules_15 rfl ?_
  refine wp_iconst (0 : Int32) dX11_loadRules_16 (by decide) ?_
  refine wp_puti dX11_loadRules_17 pX11_311 (ka hF3 293 (by decide)) ?_
  have hF4 := Full_wfi 1124 (gB G + 293) (0 : Int32) hF3
  refine wp_aload_n dX11_loadRules_20 rfl ?_
  refine wp_iconst (0 : Int32) dX11_loadRules_21 (by decide) ?_
  refine wp_puti dX11_loadRules_22 pX11_250 (ka hF4 293 (by decide)) ?_
  have hF5 := Full_wfi 1112 (gB G + 293) (0 : Int32) hF4
  refine wp_aload_n dX11_loadRules_25 rfl ?_
  refine wp_callV (As := []) (S := []) (b' := (0, 0)) (b := (0, 0)) dX11_loadRules_26 MX11_301 (ka hF5 293 (by decide)) rfl rfl rfl rfl (Nat.le_of_ble_eq_true rfl) ?_
  exact e1

theorem ldB {G : Cx} {d : Nat} {m : Mm} {Q : Option Value → Mm → Prop} {tk : Int32} (hF : Full G m) (he : fi m 1118 (gB G + 293) = (0 : Int32)) (ht : fi m 1114 (gB G + 293) = tk) 
    (e1 : tk = 0 → WP G (d + 24) (0, 0) μX11_loadRules 50 [.ref (gB G + 293), lvU] [] m Q)
    (e2 : ¬ tk = 0 → WPM G (d + 23) (0, 0) μX11_parseRule [.ref (gB G + 293)] m (fun r' m' => WP G (d + 24) (0, 0) μX11_loadRules 47 [.ref (gB G + 293), lvU] (r'.toList ++ []) m' Q)) :
    WP G (d + 24) (0, 0) μX11_loadRules 29 [.ref (gB G + 293), lvU] [] m Q := by
  refine wp_aload_n dX11_loadRules_29 rfl ?_
  refine wp_geti (0 : Int32) dX11_loadRules_30 fX11_298 (Or.inl rfl) (ka hF 293 (by decide)) he ?_
  refine wp_if_ne 50 dX11_loadRules_33 (by decide) (fun q => absurd (by decide) q) (fun _ => ?_)
  refine wp_aload_n dX11_loadRules_36 rfl ?_
  refine wp_geti tk dX11_loadRules_37 fX11_272 (Or.inl rfl) (ka hF 293 (by decide)) ht ?_
  refine wp_if_eq 50 dX11_loadRules_40 (by decide) (fun q1 => ?_) (fun q2 => ?_)
  · skip
    refine wp_forget [.ref (gB G + 293), lvU] ⟨Or.inl rfl, Or.inr rfl, trivial⟩ ?_
    exact e1 q1
  · skip
    refine wp_aload_n dX11_loadRules_43 rfl ?_
    refine wp_callV (As := []) (S := []) (b' := (0, 0)) (b := (0, 0)) dX11_loadRules_44 MX11_422 (ka hF 293 (by decide)) rfl rfl rfl rfl (Nat.le_of_ble_eq_true rfl) ?_
    exact e2 q2

theorem ldBa {G : Cx} {d : Nat} {m : Mm} {Q : Option Value → Mm → Prop}  (hF : Full G m) 
    (e1 : WP G (d + 24) (0, 0) μX11_loadRules 29 [.ref (gB G + 293), lvU] [] m Q) :
    WP G (d + 24) (0, 0) μX11_loadRules 47 [.ref (gB G + 293), lvU] [] m Q := by
  refine wp_goto 29 dX11_loadRules_47 (by decide) ?_
  refine wp_forget [.ref (gB G + 293), lvU] ⟨Or.inl rfl, Or.inr rfl, trivial⟩ ?_
  exact e1

theorem ldBx {G : Cx} {d : Nat} {m : Mm} {Q : Option Value → Mm → Prop} {c : Int32} (hF : Full G m) (he : fi m 1118 (gB G + 293) = c) (hc : ¬ c = 0) 
    (e1 : WP G (d + 24) (0, 0) μX11_loadRules 50 [.ref (gB G + 293), lvU] [] m Q) :
    WP G (d + 24) (0, 0) μX11_loadRules 29 [.ref (gB G + 293), lvU] [] m Q := by
  refine wp_aload_n dX11_loadRules_29 rfl ?_
  refine wp_geti c dX11_loadRules_30 fX11_298 (Or.inl rfl) (ka hF 293 (by decide)) he ?_
  refine wp_if_ne 50 dX11_loadRules_33 (by decide) (fun _ => ?_) (fun q => absurd q hc)
  refine wp_forget [.ref (gB G + 293), lvU] ⟨Or.inl rfl, Or.inr rfl, trivial⟩ ?_
  exact e1

theorem ldCx {G : Cx} {d : Nat} {m : Mm} {Q : Option Value → Mm → Prop} {c : Int32} (hF : Full G m) (he : fi m 1118 (gB G + 293) = c) (hc : ¬ c = 0) 
    (e1 : Q (some (.int (-1000000004 : Int32))) (wfi m 1111 (gB G + 293) (0 : Int32))) :
    WP G (d + 24) (0, 0) μX11_loadRules 50 [.ref (gB G + 293), lvU] [] m Q := by
  refine wp_aload_n dX11_loadRules_50 rfl ?_
  refine wp_iconst (0 : Int32) dX11_loadRules_51 (by decide) ?_
  refine wp_puti dX11_loadRules_52 pX11_247 (ka hF 293 (by decide)) ?_
  have hF1 := Full_wfi 1111 (gB G + 293) (0 : Int32) hF
  refine wp_aload_n dX11_loadRules_55 rfl ?_
  refine wp_geti c dX11_loadRules_56 fX11_298 (Or.inl rfl) (ka hF1 293 (by decide)) ((fi_ne (by decide)).trans he) ?_
  refine wp_if_eq 66 dX11_loadRules_59 (by decide) (fun q => absurd q hc) (fun _ => ?_)
  refine wp_ldcw dX11_loadRules_62 kX11_425 ?_
  exact wp_iret dX11_loadRules_65 rfl (e1)

theorem ldC {G : Cx} {d : Nat} {m : Mm} {Q : Option Value → Mm → Prop}  (hF : Full G m) (he : fi m 1118 (gB G + 293) = (0 : Int32)) 
    (e1 : WP G (d + 24) (0, 0) μX11_loadRules 68 [.ref (gB G + 293), .int (0 : Int32)] [] (wfi m 1111 (gB G + 293) (0 : Int32)) Q) :
    WP G (d + 24) (0, 0) μX11_loadRules 50 [.ref (gB G + 293), lvU] [] m Q := by
  refine wp_aload_n dX11_loadRules_50 rfl ?_
  refine wp_iconst (0 : Int32) dX11_loadRules_51 (by decide) ?_
  refine wp_puti dX11_loadRules_52 pX11_247 (ka hF 293 (by decide)) ?_
  have hF1 := Full_wfi 1111 (gB G + 293) (0 : Int32) hF
  refine wp_aload_n dX11_loadRules_55 rfl ?_
  refine wp_geti (0 : Int32) dX11_loadRules_56 fX11_298 (Or.inl rfl) (ka hF1 293 (by decide)) ((fi_ne (by decide)).trans he) ?_
  refine wp_if_eq 66 dX11_loadRules_59 (by decide) (fun _ => ?_) (fun q => absurd (by decide) q)
  refine wp_iconst (0 : Int32) dX11_loadRules_66 (by decide) ?_
  refine wp_istore_n dX11_loadRules_67 (by decide) rfl ?_
  refine wp_forget [.ref (gB G + 293), .int (0 : Int32)] ⟨Or.inl rfl, Or.inl rfl, trivial⟩ ?_
  exact e1

theorem ldD {G : Cx} {d : Nat} {m : Mm} {Q : Option Value → Mm → Prop} {c i : Nat} {x : Int32} (hF : Full G m) (hrc : fi m 1123 (gB G + 293) = nI c) (hc9 : c ≤ 12) (hi : i ≤ 72) (hx : ai m (gB G + 305) i = x) 
    (e1 : ¬ i < 6 * c → WP G (d + 24) (0, 0) μX11_loadRules 103 [.ref (gB G + 293), .int (0 : Int32)] [] m Q)
    (e2 : i < 6 * c → WP G (d + 24) (0, 0) μX11_loadRules 68 [.ref (gB G + 293), .int (nI (i + 1))] [] (wai m (gB G + 294) (i + 414) x) Q) :
    WP G (d + 24) (0, 0) μX11_loadRules 68 [.ref (gB G + 293), .int (nI i)] [] m Q := by
  refine wp_iload_n dX11_loadRules_68 rfl ?_
  refine wp_bipush (6 : Int32) dX11_loadRules_69 (by decide) ?_
  refine wp_aload_n dX11_loadRules_71 rfl ?_
  refine wp_geti (nI c) dX11_loadRules_72 fX11_413 (Or.inl rfl) (ka hF 293 (by decide)) hrc ?_
  refine wp_imulv (nI (6 * c)) dX11_loadRules_75 (nmul (a := 6) (b := c) (by omega)) ?_
  refine wp_icmp_ge 101 dX11_loadRules_76 (by decide) (fun q1 => ?_) (fun q2 => ?_)
  · have hp3 : ¬ i < 6 * c := (fun z => q1 (nlt_ (b := 6 * c) z (by omega)))
    refine wp_iconst (0 : Int32) dX11_loadRules_101 (by decide) ?_
    refine wp_istore_n dX11_loadRules_102 (by decide) rfl ?_
    refine wp_forget [.ref (gB G + 293), .int (0 : Int32)] ⟨Or.inl rfl, Or.inl rfl, trivial⟩ ?_
    exact e1 hp3
  · have hp4 : i < 6 * c := (nlt q2 (by omega) (by omega))
    refine wp_aload_n dX11_loadRules_79 rfl ?_
    refine wp_getr (gB G + 294) dX11_loadRules_80 fX11_7 (ka hF 293 (by decide)) (hF.2 _ _) (rra 1 (isK_le (ka hF 293 (by decide))) (fun _ => rfl)) ?_
    refine wp_sipush (414 : Int32) dX11_loadRules_83 (by decide) ?_
    refine wp_iload_n dX11_loadRules_86 rfl ?_
    refine wp_iaddv (nI (i + 414)) dX11_loadRules_87 (nadd (a := 414) (b := i) (by omega)) ?_
    refine wp_aload_n dX11_loadRules_88 rfl ?_
    refine wp_getr (gB G + 305) dX11_loadRules_89 fX11_49 (ka hF 293 (by decide)) (hF.2 _ _) (rra 12 (isK_le (ka hF 293 (by decide))) (fun _ => rfl)) ?_
    refine wp_iload_n dX11_loadRules_92 rfl ?_
    refine wp_ialdk (n := 72) i x dX11_loadRules_93 (ka hF 305 (by decide)) (la 305) (vin (by omega) (by decide)) (nIc (by omega)) hx ?_
    refine wp_iastk (n := 1486) (i + 414) dX11_loadRules_94 (ka hF 294 (by decide)) (la 294) (vin (by omega) (by decide))  (nIc (by omega)) ?_
    have hF5 := Full_wai (gB G + 294) (i + 414) x hF
    refine wp_iinc (nI (i + 1)) dX11_loadRules_95 rfl (by decide) (nadd (a := i) (b := 1) (by omega)) rfl ?_
    refine wp_goto 68 dX11_loadRules_98 (by decide) ?_
    refine wp_forget [.ref (gB G + 293), .int (nI (i + 1))] ⟨Or.inl rfl, Or.inl rfl, trivial⟩ ?_
    exact e2 hp4

theorem ldE {G : Cx} {d : Nat} {m : Mm} {Q : Option Value → Mm → Prop} {c s i : Nat} {x : Int32} (hF : Full G m) (hz : fi m 1124 (gB G + 293) = nI s) (hrc : fi m 1123 (gB G + 293) = nI c) (hs5 : s ≤ 500) (hi : i ≤ 1000) (hx : ai m (gB G + 306) i = x) 
    (e1 : ¬ i < 2 * s → Q (some (.int (nI c))) (wai m (gB G + 294) 15 (nI c)))
    (e2 : i < 2 * s → WP G (d + 24) (0, 0) μX11_loadRules 103 [.ref (gB G + 293), .int (nI (i + 1))] [] (wai m (gB G + 294) (i + 486) x) Q) :
    WP G (d + 24) (0, 0) μX11_loadRules 103 [.ref (gB G + 293), .int (nI i)] [] m Q := by
  refine wp_iload_n dX11_loadRules_103 rfl ?_
  refine wp_iconst (2 : Int32) dX11_loadRules_104 (by decide) ?_
  refine wp_aload_n dX11_loadRules_105 rfl ?_
  refine wp_geti (nI s) dX11_loadRules_106 fX11_311 (Or.inl rfl) (ka hF 293 (by decide)) hz ?_
  refine wp_imulv (nI (2 * s)) dX11_loadRules_109 (nmul (a := 2) (b := s) (by omega)) ?_
  refine wp_icmp_ge 135 dX11_loadRules_110 (by decide) (fun q1 => ?_) (fun q2 => ?_)
  · have hp3 : ¬ i < 2 * s := (fun z => q1 (nlt_ (b := 2 * s) z (by omega)))
    refine wp_aload_n dX11_loadRules_135 rfl ?_
    refine wp_getr (gB G + 294) dX11_loadRules_136 fX11_7 (ka hF 293 (by decide)) (hF.2 _ _) (rra 1 (isK_le (ka hF 293 (by decide))) (fun _ => rfl)) ?_
    refine wp_bipush (15 : Int32) dX11_loadRules_139 (by decide) ?_
    refine wp_aload_n dX11_loadRules_141 rfl ?_
    refine wp_geti (nI c) dX11_loadRules_142 fX11_413 (Or.inl rfl) (ka hF 293 (by decide)) hrc ?_
    refine wp_iastk (n := 1486) 15 dX11_loadRules_145 (ka hF 294 (by decide)) (la 294) (vinl (by decide))  rfl ?_
    have hF4 := Full_wai (gB G + 294) 15 (nI c) hF
    refine wp_aload_n dX11_loadRules_146 rfl ?_
    refine wp_geti (nI c) dX11_loadRules_147 fX11_413 (Or.inl rfl) (ka hF4 293 (by decide)) (fi_wai.trans hrc) ?_
    exact wp_iret dX11_loadRules_150 rfl (e1 hp3)
  · have hp5 : i < 2 * s := (nlt q2 (by omega) (by omega))
    refine wp_aload_n dX11_loadRules_113 rfl ?_
    refine wp_getr (gB G + 294) dX11_loadRules_114 fX11_7 (ka hF 293 (by decide)) (hF.2 _ _) (rra 1 (isK_le (ka hF 293 (by decide))) (fun _ => rfl)) ?_
    refine wp_sipush (486 : Int32) dX11_loadRules_117 (by decide) ?_
    refine wp_iload_n dX11_loadRules_120 rfl ?_
    refine wp_iaddv (nI (i + 486)) dX11_loadRules_121 (nadd (a := 486) (b := i) (by omega)) ?_
    refine wp_aload_n dX11_loadRules_122 rfl ?_
    refine wp_getr (gB G + 306) dX11_loadRules_123 fX11_52 (ka hF 293 (by decide)) (hF.2 _ _) (rra 13 (isK_le (ka hF 293 (by decide))) (fun _ => rfl)) ?_
    refine wp_iload_n dX11_loadRules_126 rfl ?_
    refine wp_ialdk (n := 1000) i x dX11_loadRules_127 (ka hF 306 (by decide)) (la 306) (vin (by omega) (by decide)) (nIc (by omega)) hx ?_
    refine wp_iastk (n := 1486) (i + 486) dX11_loadRules_128 (ka hF 294 (by decide)) (la 294) (vin (by omega) (by decide))  (nIc (by omega)) ?_
    have hF6 := Full_wai (gB G + 294) (i + 486) x hF
    refine wp_iinc (nI (i + 1)) dX11_loadRules_129 rfl (by decide) (nadd (a := i) (b := 1) (by omega)) rfl ?_
    refine wp_goto 103 dX11_loadRules_132 (by decide) ?_
    refine wp_forget [.ref (gB G + 293), .int (nI (i + 1))] ⟨Or.inl rfl, Or.inl rfl, trivial⟩ ?_
    exact e2 hp5
