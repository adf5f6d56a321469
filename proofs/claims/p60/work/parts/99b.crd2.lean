/-! THE CLASS'S READER: blocks of tests, actions, rules -/

theorem tA {G : Cx} {d : Nat} {m : Mm} {Q : Option Value → Mm → Prop} {a n k s q : Nat} (hF : Full G m) (hq : q < 12) (ha : fi m 709 (gB G + 279) = nI a) (hn : fi m 708 (gB G + 279) = nI n) (han : a < n) (hn5 : n ≤ 501) (hk : ai m (gB G + 290) a = nI k) (hk9 : k < 1000) (hs : fi m 807 (gB G + 281) = nI s) (hs5 : s ≤ 500) 
    (e1 : ¬ k = 201 → WP G (d + 80) (0, 0) μX7_readTest 40 [.ref (gB G + 279), .int (nI q), .int (0 : Int32), .int (1 : Int32), .int (0 : Int32), .int (0 : Int32), lvU, lvU] [] (wai m ((gB G + 281) + 3) q (nI s)) Q)
    (e2 : k = 201 → WP G (d + 80) (0, 0) μX7_readTest 40 [.ref (gB G + 279), .int (nI q), .int (1 : Int32), .int (1 : Int32), .int (1 : Int32), .int (0 : Int32), lvU, lvU] [] (wai m ((gB G + 281) + 3) q (nI s)) Q) :
    WPM G (d + 80) (0, 0) μX7_readTest [.ref (gB G + 279), .int (nI q)] m Q := by
  refine WPM.of pX7 (Nat.le_of_ble_eq_true rfl) rfl ?_
  refine wp_aload_n dX7_readTest_0 rfl ?_
  refine wp_getr (gB G + 281) dX7_readTest_1 fX7_22 (ka hF 279 (by decide)) (hF.2 _ _) (rra 2 (isK_le (ka hF 279 (by decide))) (fun _ => rfl)) ?_
  refine wp_getr ((gB G + 281) + 3) dX7_readTest_4 fX7_132 (kr0 hF (isRr G)) (hF.2 _ _) (rra 3 (isK_le (kr0 hF (isRr G))) (fun _ => rfl)) ?_
  refine wp_iload_n dX7_readTest_7 rfl ?_
  refine wp_aload_n dX7_readTest_8 rfl ?_
  refine wp_getr (gB G + 281) dX7_readTest_9 fX7_22 (ka hF 279 (by decide)) (hF.2 _ _) (rra 2 (isK_le (ka hF 279 (by decide))) (fun _ => rfl)) ?_
  refine wp_geti (nI s) dX7_readTest_12 fX7_48 (Or.inl rfl) (kr0 hF (isRr G)) hs ?_
  refine wp_iastk (n := 12) q dX7_readTest_15 (kr hF (isRr G) 3 (by decide)) (lr (isRr G) 3 (by decide) (by decide)) (vin (by omega) (by decide))  (nIc (by omega)) ?_
  have hF1 := Full_wai ((gB G + 281) + 3) q (nI s) hF
  refine wp_aload_n dX7_readTest_16 rfl ?_
  refine wp_callV (As := []) (S := []) (b' := (0, 0)) (b := (0, 0)) dX7_readTest_17 MX7_60 (ka hF1 279 (by decide)) rfl rfl rfl rfl (Nat.le_of_ble_eq_true rfl) ?_
  refine WPM.of pX7 (Nat.le_of_ble_eq_true rfl) rfl ?_
  refine wp_aload_n dX7_kind_0 rfl ?_
  refine wp_geti (nI a) dX7_kind_1 fX7_57 (Or.inl rfl) (ka hF1 279 (by decide)) (fi_wai.trans ha) ?_
  refine wp_aload_n dX7_kind_4 rfl ?_
  refine wp_geti (nI n) dX7_kind_5 fX7_77 (Or.inl rfl) (ka hF1 279 (by decide)) (fi_wai.trans hn) ?_
  refine wp_icmp_ge 23 dX7_kind_8 (by decide) (fun q => absurd (nlt_ (a := a) (b := n) han (by omega)) q) (fun _ => ?_)
  refine wp_aload_n dX7_kind_11 rfl ?_
  refine wp_getr (gB G + 290) dX7_kind_12 fX7_26 (ka hF1 279 (by decide)) (hF1.2 _ _) (rra 11 (isK_le (ka hF1 279 (by decide))) (fun _ => rfl)) ?_
  refine wp_aload_n dX7_kind_15 rfl ?_
  refine wp_geti (nI a) dX7_kind_16 fX7_57 (Or.inl rfl) (ka hF1 279 (by decide)) (fi_wai.trans ha) ?_
  refine wp_ialdk (n := 501) a (nI k) dX7_kind_19 (ka hF1 290 (by decide)) (la 290) (vin (by omega) (by decide)) (nIc (by omega)) ((ai_na (by omega)).trans hk) ?_
  refine wp_goto 24 dX7_kind_20 (by decide) ?_
  refine wp_iret dX7_kind_24 rfl ?_
  show WP G (d + 80) (0, 0) μX7_readTest 20 [.ref (gB G + 279), .int (nI q), lvU, lvU, lvU, lvU, lvU, lvU] [.int (nI k)] (wai m ((gB G + 281) + 3) q (nI s)) _
  refine wp_sipush (201 : Int32) dX7_readTest_20 (by decide) ?_
  refine wp_icmp_ne 30 dX7_readTest_23 (by decide) (fun q2 => ?_) (fun q3 => ?_)
  · have hp4 : ¬ k = 201 := (fun z => q2 (congrArg nI z))
    refine wp_iconst (0 : Int32) dX7_readTest_30 (by decide) ?_
    refine wp_istore_n dX7_readTest_31 (by decide) rfl ?_
    refine wp_iconst (1 : Int32) dX7_readTest_32 (by decide) ?_
    refine wp_istore_n dX7_readTest_33 (by decide) rfl ?_
    refine wp_iload_n dX7_readTest_34 rfl ?_
    refine wp_istore dX7_readTest_35 (by decide) rfl ?_
    refine wp_iconst (0 : Int32) dX7_readTest_37 (by decide) ?_
    refine wp_istore dX7_readTest_38 (by decide) rfl ?_
    refine wp_forget [.ref (gB G + 279), .int (nI q), .int (0 : Int32), .int (1 : Int32), .int (0 : Int32), .int (0 : Int32), lvU, lvU] ⟨Or.inl rfl, Or.inl rfl, Or.inl rfl, Or.inl rfl, Or.inl rfl, Or.inl rfl, Or.inr rfl, Or.inr rfl, trivial⟩ ?_
    exact e1 hp4
  · have hp5 : k = 201 := (neq q3 (by omega) (by omega))
    refine wp_iconst (1 : Int32) dX7_readTest_26 (by decide) ?_
    refine wp_goto 31 dX7_readTest_27 (by decide) ?_
    refine wp_istore_n dX7_readTest_31 (by decide) rfl ?_
    refine wp_iconst (1 : Int32) dX7_readTest_32 (by decide) ?_
    refine wp_istore_n dX7_readTest_33 (by decide) rfl ?_
    refine wp_iload_n dX7_readTest_34 rfl ?_
    refine wp_istore dX7_readTest_35 (by decide) rfl ?_
    refine wp_iconst (0 : Int32) dX7_readTest_37 (by decide) ?_
    refine wp_istore dX7_readTest_38 (by decide) rfl ?_
    refine wp_forget [.ref (gB G + 279), .int (nI q), .int (1 : Int32), .int (1 : Int32), .int (1 : Int32), .int (0 : Int32), lvU, lvU] ⟨Or.inl rfl, Or.inl rfl, Or.inl rfl, Or.inl rfl, Or.inl rfl, Or.inl rfl, Or.inr rfl, Or.inr rfl, trivial⟩ ?_
    exact e2 hp5

theorem tB00 {G : Cx} {d : Nat} {m : Mm} {Q : Option Value → Mm → Prop} {q i : Nat} (hF : Full G m) 
    (e1 : WP G (d + 80) (0, 0) μX7_readTest 212 [.ref (gB G + 279), .int (nI q), .int (0 : Int32), .int (1 : Int32), lvU, lvU, lvU, lvU] [] m Q) :
    WP G (d + 80) (0, 0) μX7_readTest 40 [.ref (gB G + 279), .int (nI q), .int (0 : Int32), .int (1 : Int32), .int (0 : Int32), .int (nI i), lvU, lvU] [] m Q := by
  refine wp_iload_n dX7_readTest_40 rfl ?_
  refine wp_if_eq 212 dX7_readTest_41 (by decide) (fun q => absurd q (by decide)) (fun _ => ?_)
  refine wp_iload dX7_readTest_44 rfl ?_
  refine wp_if_eq 212 dX7_readTest_46 (by decide) (fun _ => ?_) (fun q => absurd (by decide) q)
  refine wp_forget [.ref (gB G + 279), .int (nI q), .int (0 : Int32), .int (1 : Int32), lvU, lvU, lvU, lvU] ⟨Or.inl rfl, Or.inl rfl, Or.inl rfl, Or.inl rfl, Or.inr rfl, Or.inr rfl, Or.inr rfl, Or.inr rfl, trivial⟩ ?_
  exact e1

theorem tB01 {G : Cx} {d : Nat} {m : Mm} {Q : Option Value → Mm → Prop} {q i : Nat} (hF : Full G m) 
    (e1 : WP G (d + 80) (0, 0) μX7_readTest 212 [.ref (gB G + 279), .int (nI q), .int (1 : Int32), .int (1 : Int32), lvU, lvU, lvU, lvU] [] m Q) :
    WP G (d + 80) (0, 0) μX7_readTest 40 [.ref (gB G + 279), .int (nI q), .int (1 : Int32), .int (1 : Int32), .int (0 : Int32), .int (nI i), lvU, lvU] [] m Q := by
  refine wp_iload_n dX7_readTest_40 rfl ?_
  refine wp_if_eq 212 dX7_readTest_41 (by decide) (fun q => absurd q (by decide)) (fun _ => ?_)
  refine wp_iload dX7_readTest_44 rfl ?_
  refine wp_if_eq 212 dX7_readTest_46 (by decide) (fun _ => ?_) (fun q => absurd (by decide) q)
  refine wp_forget [.ref (gB G + 279), .int (nI q), .int (1 : Int32), .int (1 : Int32), lvU, lvU, lvU, lvU] ⟨Or.inl rfl, Or.inl rfl, Or.inl rfl, Or.inl rfl, Or.inr rfl, Or.inr rfl, Or.inr rfl, Or.inr rfl, trivial⟩ ?_
  exact e1

theorem tB0f {G : Cx} {d : Nat} {m : Mm} {Q : Option Value → Mm → Prop} {q i : Nat} {z : Int32} (hF : Full G m) 
    (e1 : WP G (d + 80) (0, 0) μX7_readTest 212 [.ref (gB G + 279), .int (nI q), .int (1 : Int32), .int (0 : Int32), lvU, lvU, lvU, lvU] [] m Q) :
    WP G (d + 80) (0, 0) μX7_readTest 40 [.ref (gB G + 279), .int (nI q), .int (1 : Int32), .int (0 : Int32), .int z, .int (nI i), lvU, lvU] [] m Q := by
  refine wp_iload_n dX7_readTest_40 rfl ?_
  refine wp_if_eq 212 dX7_readTest_41 (by decide) (fun _ => ?_) (fun q => absurd (by decide) q)
  refine wp_forget [.ref (gB G + 279), .int (nI q), .int (1 : Int32), .int (0 : Int32), lvU, lvU, lvU, lvU] ⟨Or.inl rfl, Or.inl rfl, Or.inl rfl, Or.inl rfl, Or.inr rfl, Or.inr rfl, Or.inr rfl, Or.inr rfl, trivial⟩ ?_
  exact e1

theorem tB1 {G : Cx} {d : Nat} {m : Mm} {Q : Option Value → Mm → Prop} {a n k q i : Nat} (hF : Full G m) (ha : fi m 709 (gB G + 279) = nI a) (hn : fi m 708 (gB G + 279) = nI n) (han : a + 1 < n) (hn5 : n ≤ 501) (hk : ai m (gB G + 290) (a + 1) = nI k) (hk9 : k < 1000) (hi : i < 500) 
    (e1 : ¬ k = 204 → WPM G (d + 79) (0, 0) μX7_readSum [.ref (gB G + 279), .int (0 : Int32)] (wfi m 709 (gB G + 279) (nI (a + 1))) (fun r' m' => WP G (d + 80) (0, 0) μX7_readTest 104 [.ref (gB G + 279), .int (nI q), .int (1 : Int32), lvU, lvU, .int (nI i), .int (0 : Int32), lvU] (r'.toList ++ []) m' Q))
    (e2 : k = 204 → WPM G (d + 79) (0, 0) μX7_readSum [.ref (gB G + 279), .int (0 : Int32)] (wfi (wfi m 709 (gB G + 279) (nI (a + 1))) 709 (gB G + 279) (nI (a + 2))) (fun r' m' => WP G (d + 80) (0, 0) μX7_readTest 104 [.ref (gB G + 279), .int (nI q), .int (1 : Int32), lvU, lvU, .int (nI i), .int (1 : Int32), lvU] (r'.toList ++ []) m' Q)) :
    WP G (d + 80) (0, 0) μX7_readTest 40 [.ref (gB G + 279), .int (nI q), .int (1 : Int32), .int (1 : Int32), .int (1 : Int32), .int (nI i), lvU, lvU] [] m Q := by
  refine wp_iload_n dX7_readTest_40 rfl ?_
  refine wp_if_eq 212 dX7_readTest_41 (by decide) (fun q => absurd q (by decide)) (fun _ => ?_)
  refine wp_iload dX7_readTest_44 rfl ?_
  refine wp_if_eq 212 dX7_readTest_46 (by decide) (fun q => absurd q (by decide)) (fun _ => ?_)
  refine wp_iload dX7_readTest_49 rfl ?_
  refine wp_sipush (500 : Int32) dX7_readTest_51 (by decide) ?_
  refine wp_icmp_ge 212 dX7_readTest_54 (by decide) (fun q => absurd (nlt_ (a := i) (b := 500) hi (by omega)) q) (fun _ => ?_)
  refine wp_aload_n dX7_readTest_57 rfl ?_
  refine wp_dup dX7_readTest_58 rfl ?_
  refine wp_geti (nI a) dX7_readTest_59 fX7_57 (Or.inl rfl) (ka hF 279 (by decide)) ha ?_
  refine wp_iconst (1 : Int32) dX7_readTest_62 (by decide) ?_
  refine wp_iaddv (nI (a + 1)) dX7_readTest_63 (nadd (a := a) (b := 1) (by omega)) ?_
  refine wp_puti dX7_readTest_64 pX7_57 (ka hF 279 (by decide)) ?_
  have hF1 := Full_wfi 709 (gB G + 279) (nI (a + 1)) hF
  refine wp_aload_n dX7_readTest_67 rfl ?_
  refine wp_callV (As := []) (S := []) (b' := (0, 0)) (b := (0, 0)) dX7_readTest_68 MX7_60 (ka hF1 279 (by decide)) rfl rfl rfl rfl (Nat.le_of_ble_eq_true rfl) ?_
  refine WPM.of pX7 (Nat.le_of_ble_eq_true rfl) rfl ?_
  refine wp_aload_n dX7_kind_0 rfl ?_
  refine wp_geti (nI (a + 1)) dX7_kind_1 fX7_57 (Or.inl rfl) (ka hF1 279 (by decide)) fi_eq ?_
  refine wp_aload_n dX7_kind_4 rfl ?_
  refine wp_geti (nI n) dX7_kind_5 fX7_77 (Or.inl rfl) (ka hF1 279 (by decide)) ((fi_ne (by decide)).trans hn) ?_
  refine wp_icmp_ge 23 dX7_kind_8 (by decide) (fun q => absurd (nlt_ (a := a + 1) (b := n) han (by omega)) q) (fun _ => ?_)
  refine wp_aload_n dX7_kind_11 rfl ?_
  refine wp_getr (gB G + 290) dX7_kind_12 fX7_26 (ka hF1 279 (by decide)) (hF1.2 _ _) (rra 11 (isK_le (ka hF1 279 (by decide))) (fun _ => rfl)) ?_
  refine wp_aload_n dX7_kind_15 rfl ?_
  refine wp_geti (nI (a + 1)) dX7_kind_16 fX7_57 (Or.inl rfl) (ka hF1 279 (by decide)) fi_eq ?_
  refine wp_ialdk (n := 501) (a + 1) (nI k) dX7_kind_19 (ka hF1 290 (by decide)) (la 290) (vin (by omega) (by decide)) (nIc (by omega)) (ai_wfi.trans hk) ?_
  refine wp_goto 24 dX7_kind_20 (by decide) ?_
  refine wp_iret dX7_kind_24 rfl ?_
  show WP G (d + 80) (0, 0) μX7_readTest 71 [.ref (gB G + 279), .int (nI q), .int (1 : Int32), .int (1 : Int32), .int (1 : Int32), .int (nI i), lvU, lvU] [.int (nI k)] (wfi m 709 (gB G + 279) (nI (a + 1))) _
  refine wp_sipush (204 : Int32) dX7_readTest_71 (by decide) ?_
  refine wp_icmp_ne 81 dX7_readTest_74 (by decide) (fun q2 => ?_) (fun q3 => ?_)
  · have hp4 : ¬ k = 204 := (fun z => q2 (congrArg nI z))
    refine wp_iconst (0 : Int32) dX7_readTest_81 (by decide) ?_
    refine wp_istore dX7_readTest_82 (by decide) rfl ?_
    refine wp_iload dX7_readTest_84 rfl ?_
    refine wp_if_eq 99 dX7_readTest_86 (by decide) (fun _ => ?_) (fun q => absurd (by decide) q)
    refine wp_aload_n dX7_readTest_99 rfl ?_
    refine wp_iconst (0 : Int32) dX7_readTest_100 (by decide) ?_
    refine wp_forget [.ref (gB G + 279), .int (nI q), .int (1 : Int32), lvU, lvU, .int (nI i), .int (0 : Int32), lvU] ⟨Or.inl rfl, Or.inl rfl, Or.inl rfl, Or.inr rfl, Or.inr rfl, Or.inl rfl, Or.inl rfl, Or.inr rfl, trivial⟩ ?_
    refine wp_callV (As := [.int (0 : Int32)]) (S := []) (b' := (0, 0)) (b := (0, 0)) dX7_readTest_101 MX7_135 (ka hF1 279 (by decide)) rfl rfl rfl rfl (Nat.le_of_ble_eq_true rfl) ?_
    exact e1 hp4
  · have hp5 : k = 204 := (neq q3 (by omega) (by omega))
    refine wp_iconst (1 : Int32) dX7_readTest_77 (by decide) ?_
    refine wp_goto 82 dX7_readTest_78 (by decide) ?_
    refine wp_istore dX7_readTest_82 (by decide) rfl ?_
    refine wp_iload dX7_readTest_84 rfl ?_
    refine wp_if_eq 99 dX7_readTest_86 (by decide) (fun q => absurd q (by decide)) (fun _ => ?_)
    refine wp_aload_n dX7_readTest_89 rfl ?_
    refine wp_dup dX7_readTest_90 rfl ?_
    refine wp_geti (nI (a + 1)) dX7_readTest_91 fX7_57 (Or.inl rfl) (ka hF1 279 (by decide)) fi_eq ?_
    refine wp_iconst (1 : Int32) dX7_readTest_94 (by decide) ?_
    refine wp_iaddv (nI (a + 2)) dX7_readTest_95 (nadd (a := a + 1) (b := 1) (by omega)) ?_
    refine wp_puti dX7_readTest_96 pX7_57 (ka hF1 279 (by decide)) ?_
    have hF6 := Full_wfi 709 (gB G + 279) (nI (a + 2)) hF1
    refine wp_aload_n dX7_readTest_99 rfl ?_
    refine wp_iconst (0 : Int32) dX7_readTest_100 (by decide) ?_
    refine wp_forget [.ref (gB G + 279), .int (nI q), .int (1 : Int32), lvU, lvU, .int (nI i), .int (1 : Int32), lvU] ⟨Or.inl rfl, Or.inl rfl, Or.inl rfl, Or.inr rfl, Or.inr rfl, Or.inl rfl, Or.inl rfl, Or.inr rfl, trivial⟩ ?_
    refine wp_callV (As := [.int (0 : Int32)]) (S := []) (b' := (0, 0)) (b := (0, 0)) dX7_readTest_101 MX7_135 (ka hF6 279 (by decide)) rfl rfl rfl rfl (Nat.le_of_ble_eq_true rfl) ?_
    exact e2 hp5

theorem tC00 {G : Cx} {d : Nat} {m : Mm} {Q : Option Value → Mm → Prop} {a n k q i : Nat} (hF : Full G m) (ha : fi m 709 (gB G + 279) = nI a) (hn : fi m 708 (gB G + 279) = nI n) (han : a < n) (hn5 : n ≤ 501) (hk : ai m (gB G + 290) a = nI k) (hk9 : k < 1000) 
    (e1 : WPM G (d + 79) (0, 0) μX8_emitCode [.ref (gB G + 281), .int (nI k), .int (0 : Int32)] m (fun r' m' => WP G (d + 80) (0, 0) μX7_readTest 146 [.ref (gB G + 279), .int (nI q), .int (1 : Int32), .int (0 : Int32), lvU, .int (nI i), .int (0 : Int32), lvU] (r'.toList ++ []) m' Q)) :
    WP G (d + 80) (0, 0) μX7_readTest 104 [.ref (gB G + 279), .int (nI q), .int (1 : Int32), lvU, lvU, .int (nI i), .int (0 : Int32), lvU] [.int (0 : Int32)] m Q := by
  refine wp_istore_n dX7_readTest_104 (by decide) rfl ?_
  refine wp_aload_n dX7_readTest_105 rfl ?_
  refine wp_callV (As := []) (S := []) (b' := (0, 0)) (b := (0, 0)) dX7_readTest_106 MX7_60 (ka hF 279 (by decide)) rfl rfl rfl rfl (Nat.le_of_ble_eq_true rfl) ?_
  refine WPM.of pX7 (Nat.le_of_ble_eq_true rfl) rfl ?_
  refine wp_aload_n dX7_kind_0 rfl ?_
  refine wp_geti (nI a) dX7_kind_1 fX7_57 (Or.inl rfl) (ka hF 279 (by decide)) ha ?_
  refine wp_aload_n dX7_kind_4 rfl ?_
  refine wp_geti (nI n) dX7_kind_5 fX7_77 (Or.inl rfl) (ka hF 279 (by decide)) hn ?_
  refine wp_icmp_ge 23 dX7_kind_8 (by decide) (fun q => absurd (nlt_ (a := a) (b := n) han (by omega)) q) (fun _ => ?_)
  refine wp_aload_n dX7_kind_11 rfl ?_
  refine wp_getr (gB G + 290) dX7_kind_12 fX7_26 (ka hF 279 (by decide)) (hF.2 _ _) (rra 11 (isK_le (ka hF 279 (by decide))) (fun _ => rfl)) ?_
  refine wp_aload_n dX7_kind_15 rfl ?_
  refine wp_geti (nI a) dX7_kind_16 fX7_57 (Or.inl rfl) (ka hF 279 (by decide)) ha ?_
  refine wp_ialdk (n := 501) a (nI k) dX7_kind_19 (ka hF 290 (by decide)) (la 290) (vin (by omega) (by decide)) (nIc (by omega)) hk ?_
  refine wp_goto 24 dX7_kind_20 (by decide) ?_
  refine wp_iret dX7_kind_24 rfl ?_
  show WP G (d + 80) (0, 0) μX7_readTest 109 [.ref (gB G + 279), .int (nI q), .int (1 : Int32), .int (0 : Int32), lvU, .int (nI i), .int (0 : Int32), lvU] [.int (nI k)] m _
  refine wp_istore dX7_readTest_109 (by decide) rfl ?_
  refine wp_iload_n dX7_readTest_111 rfl ?_
  refine wp_if_eq 134 dX7_readTest_112 (by decide) (fun _ => ?_) (fun q => absurd (by decide) q)
  refine wp_iconst (0 : Int32) dX7_readTest_134 (by decide) ?_
  refine wp_istore_n dX7_readTest_135 (by decide) rfl ?_
  refine wp_aload_n dX7_readTest_136 rfl ?_
  refine wp_getr (gB G + 281) dX7_readTest_137 fX7_22 (ka hF 279 (by decide)) (hF.2 _ _) (rra 2 (isK_le (ka hF 279 (by decide))) (fun _ => rfl)) ?_
  refine wp_iload dX7_readTest_140 rfl ?_
  refine wp_iconst (0 : Int32) dX7_readTest_142 (by decide) ?_
  refine wp_forget [.ref (gB G + 279), .int (nI q), .int (1 : Int32), .int (0 : Int32), lvU, .int (nI i), .int (0 : Int32), lvU] ⟨Or.inl rfl, Or.inl rfl, Or.inl rfl, Or.inl rfl, Or.inr rfl, Or.inl rfl, Or.inl rfl, Or.inr rfl, trivial⟩ ?_
  refine wp_callV (As := [.int (nI k), .int (0 : Int32)]) (S := []) (b' := (0, 0)) (b := (0, 0)) dX7_readTest_143 MX7_142 (kr0 hF (isRr G)) rfl rfl rfl rfl (Nat.le_of_ble_eq_true rfl) ?_
  exact e1

theorem tC01 {G : Cx} {d : Nat} {m : Mm} {Q : Option Value → Mm → Prop} {a n k q i : Nat} (hF : Full G m) (ha : fi m 709 (gB G + 279) = nI a) (hn : fi m 708 (gB G + 279) = nI n) (han : a < n) (hn5 : n ≤ 501) (hk : ai m (gB G + 290) a = nI k) (hk9 : k < 1000) 
    (e1 : WPM G (d + 79) (0, 0) μX7_takeComparison [.ref (gB G + 279)] m (fun r' m' => WP G (d + 80) (0, 0) μX7_readTest 119 [.ref (gB G + 279), .int (nI q), .int (1 : Int32), lvU, lvU, .int (nI i), .int (0 : Int32), .int (nI k)] (r'.toList ++ []) m' Q)) :
    WP G (d + 80) (0, 0) μX7_readTest 104 [.ref (gB G + 279), .int (nI q), .int (1 : Int32), lvU, lvU, .int (nI i), .int (0 : Int32), lvU] [.int (1 : Int32)] m Q := by
  refine wp_istore_n dX7_readTest_104 (by decide) rfl ?_
  refine wp_aload_n dX7_readTest_105 rfl ?_
  refine wp_callV (As := []) (S := []) (b' := (0, 0)) (b := (0, 0)) dX7_readTest_106 MX7_60 (ka hF 279 (by decide)) rfl rfl rfl rfl (Nat.le_of_ble_eq_true rfl) ?_
  refine WPM.of pX7 (Nat.le_of_ble_eq_true rfl) rfl ?_
  refine wp_aload_n dX7_kind_0 rfl ?_
  refine wp_geti (nI a) dX7_kind_1 fX7_57 (Or.inl rfl) (ka hF 279 (by decide)) ha ?_
  refine wp_aload_n dX7_kind_4 rfl ?_
  refine wp_geti (nI n) dX7_kind_5 fX7_77 (Or.inl rfl) (ka hF 279 (by decide)) hn ?_
  refine wp_icmp_ge 23 dX7_kind_8 (by decide) (fun q => absurd (nlt_ (a := a) (b := n) han (by omega)) q) (fun _ => ?_)
  refine wp_aload_n dX7_kind_11 rfl ?_
  refine wp_getr (gB G + 290) dX7_kind_12 fX7_26 (ka hF 279 (by decide)) (hF.2 _ _) (rra 11 (isK_le (ka hF 279 (by decide))) (fun _ => rfl)) ?_
  refine wp_aload_n dX7_kind_15 rfl ?_
  refine wp_geti (nI a) dX7_kind_16 fX7_57 (Or.inl rfl) (ka hF 279 (by decide)) ha ?_
  refine wp_ialdk (n := 501) a (nI k) dX7_kind_19 (ka hF 290 (by decide)) (la 290) (vin (by omega) (by decide)) (nIc (by omega)) hk ?_
  refine wp_goto 24 dX7_kind_20 (by decide) ?_
  refine wp_iret dX7_kind_24 rfl ?_
  show WP G (d + 80) (0, 0) μX7_readTest 109 [.ref (gB G + 279), .int (nI q), .int (1 : Int32), .int (1 : Int32), lvU, .int (nI i), .int (0 : Int32), lvU] [.int (nI k)] m _
  refine wp_istore dX7_readTest_109 (by decide) rfl ?_
  refine wp_iload_n dX7_readTest_111 rfl ?_
  refine wp_if_eq 134 dX7_readTest_112 (by decide) (fun q => absurd q (by decide)) (fun _ => ?_)
  refine wp_aload_n dX7_readTest_115 rfl ?_
  refine wp_forget [.ref (gB G + 279), .int (nI q), .int (1 : Int32), lvU, lvU, .int (nI i), .int (0 : Int32), .int (nI k)] ⟨Or.inl rfl, Or.inl rfl, Or.inl rfl, Or.inr rfl, Or.inr rfl, Or.inl rfl, Or.inl rfl, Or.inl rfl, trivial⟩ ?_
  refine wp_callV (As := []) (S := []) (b' := (0, 0)) (b := (0, 0)) dX7_readTest_116 MX7_138 (ka hF 279 (by decide)) rfl rfl rfl rfl (Nat.le_of_ble_eq_true rfl) ?_
  exact e1

theorem tD00 {G : Cx} {d : Nat} {m : Mm} {Q : Option Value → Mm → Prop} {k q i : Nat} (hF : Full G m) 
    (e1 : WPM G (d + 79) (0, 0) μX8_emitCode [.ref (gB G + 281), .int (nI k), .int (0 : Int32)] m (fun r' m' => WP G (d + 80) (0, 0) μX7_readTest 146 [.ref (gB G + 279), .int (nI q), .int (1 : Int32), .int (0 : Int32), lvU, .int (nI i), .int (0 : Int32), lvU] (r'.toList ++ []) m' Q)) :
    WP G (d + 80) (0, 0) μX7_readTest 119 [.ref (gB G + 279), .int (nI q), .int (1 : Int32), lvU, lvU, .int (nI i), .int (0 : Int32), .int (nI k)] [.int (0 : Int32)] m Q := by
  refine wp_if_eq 134 dX7_readTest_119 (by decide) (fun _ => ?_) (fun q => absurd (by decide) q)
  refine wp_iconst (0 : Int32) dX7_readTest_134 (by decide) ?_
  refine wp_istore_n dX7_readTest_135 (by decide) rfl ?_
  refine wp_aload_n dX7_readTest_136 rfl ?_
  refine wp_getr (gB G + 281) dX7_readTest_137 fX7_22 (ka hF 279 (by decide)) (hF.2 _ _) (rra 2 (isK_le (ka hF 279 (by decide))) (fun _ => rfl)) ?_
  refine wp_iload dX7_readTest_140 rfl ?_
  refine wp_iconst (0 : Int32) dX7_readTest_142 (by decide) ?_
  refine wp_forget [.ref (gB G + 279), .int (nI q), .int (1 : Int32), .int (0 : Int32), lvU, .int (nI i), .int (0 : Int32), lvU] ⟨Or.inl rfl, Or.inl rfl, Or.inl rfl, Or.inl rfl, Or.inr rfl, Or.inl rfl, Or.inl rfl, Or.inr rfl, trivial⟩ ?_
  refine wp_callV (As := [.int (nI k), .int (0 : Int32)]) (S := []) (b' := (0, 0)) (b := (0, 0)) dX7_readTest_143 MX7_142 (kr0 hF (isRr G)) rfl rfl rfl rfl (Nat.le_of_ble_eq_true rfl) ?_
  exact e1

theorem tD01 {G : Cx} {d : Nat} {m : Mm} {Q : Option Value → Mm → Prop} {k q i : Nat} (hF : Full G m) 
    (e1 : WPM G (d + 79) (0, 0) μX7_readSum [.ref (gB G + 279), .int (0 : Int32)] m (fun r' m' => WP G (d + 80) (0, 0) μX7_readTest 127 [.ref (gB G + 279), .int (nI q), .int (1 : Int32), lvU, lvU, .int (nI i), .int (0 : Int32), .int (nI k)] (r'.toList ++ []) m' Q)) :
    WP G (d + 80) (0, 0) μX7_readTest 119 [.ref (gB G + 279), .int (nI q), .int (1 : Int32), lvU, lvU, .int (nI i), .int (0 : Int32), .int (nI k)] [.int (1 : Int32)] m Q := by
  refine wp_if_eq 134 dX7_readTest_119 (by decide) (fun q => absurd q (by decide)) (fun _ => ?_)
  refine wp_aload_n dX7_readTest_122 rfl ?_
  refine wp_iconst (0 : Int32) dX7_readTest_123 (by decide) ?_
  refine wp_callV (As := [.int (0 : Int32)]) (S := []) (b' := (0, 0)) (b := (0, 0)) dX7_readTest_124 MX7_135 (ka hF 279 (by decide)) rfl rfl rfl rfl (Nat.le_of_ble_eq_true rfl) ?_
  exact e1

theorem tE00 {G : Cx} {d : Nat} {m : Mm} {Q : Option Value → Mm → Prop} {k q i : Nat} (hF : Full G m) 
    (e1 : WPM G (d + 79) (0, 0) μX8_emitCode [.ref (gB G + 281), .int (nI k), .int (0 : Int32)] m (fun r' m' => WP G (d + 80) (0, 0) μX7_readTest 146 [.ref (gB G + 279), .int (nI q), .int (1 : Int32), .int (0 : Int32), lvU, .int (nI i), .int (0 : Int32), lvU] (r'.toList ++ []) m' Q)) :
    WP G (d + 80) (0, 0) μX7_readTest 127 [.ref (gB G + 279), .int (nI q), .int (1 : Int32), lvU, lvU, .int (nI i), .int (0 : Int32), .int (nI k)] [.int (0 : Int32)] m Q := by
  refine wp_if_eq 134 dX7_readTest_127 (by decide) (fun _ => ?_) (fun q => absurd (by decide) q)
  refine wp_iconst (0 : Int32) dX7_readTest_134 (by decide) ?_
  refine wp_istore_n dX7_readTest_135 (by decide) rfl ?_
  refine wp_aload_n dX7_readTest_136 rfl ?_
  refine wp_getr (gB G + 281) dX7_readTest_137 fX7_22 (ka hF 279 (by decide)) (hF.2 _ _) (rra 2 (isK_le (ka hF 279 (by decide))) (fun _ => rfl)) ?_
  refine wp_iload dX7_readTest_140 rfl ?_
  refine wp_iconst (0 : Int32) dX7_readTest_142 (by decide) ?_
  refine wp_forget [.ref (gB G + 279), .int (nI q), .int (1 : Int32), .int (0 : Int32), lvU, .int (nI i), .int (0 : Int32), lvU] ⟨Or.inl rfl, Or.inl rfl, Or.inl rfl, Or.inl rfl, Or.inr rfl, Or.inl rfl, Or.inl rfl, Or.inr rfl, trivial⟩ ?_
  refine wp_callV (As := [.int (nI k), .int (0 : Int32)]) (S := []) (b' := (0, 0)) (b := (0, 0)) dX7_readTest_143 MX7_142 (kr0 hF (isRr G)) rfl rfl rfl rfl (Nat.le_of_ble_eq_true rfl) ?_
  exact e1

theorem tF00 {G : Cx} {d : Nat} {m : Mm} {Q : Option Value → Mm → Prop} {q i : Nat} (hF : Full G m) 
    (e1 : WP G (d + 80) (0, 0) μX7_readTest 162 [.ref (gB G + 279), .int (nI q), .int (1 : Int32), .int (0 : Int32), lvU, .int (nI i), lvU, lvU] [] m Q) :
    WP G (d + 80) (0, 0) μX7_readTest 146 [.ref (gB G + 279), .int (nI q), .int (1 : Int32), .int (0 : Int32), lvU, .int (nI i), .int (0 : Int32), lvU] [] m Q := by
  refine wp_iload dX7_readTest_146 rfl ?_
  refine wp_if_eq 162 dX7_readTest_148 (by decide) (fun _ => ?_) (fun q => absurd (by decide) q)
  refine wp_forget [.ref (gB G + 279), .int (nI q), .int (1 : Int32), .int (0 : Int32), lvU, .int (nI i), lvU, lvU] ⟨Or.inl rfl, Or.inl rfl, Or.inl rfl, Or.inl rfl, Or.inr rfl, Or.inl rfl, Or.inr rfl, Or.inr rfl, trivial⟩ ?_
  exact e1

theorem tE01 {G : Cx} {d : Nat} {m : Mm} {Q : Option Value → Mm → Prop} {k q i : Nat} (hF : Full G m) 
    (e1 : WPM G (d + 79) (0, 0) μX8_emitCode [.ref (gB G + 281), .int (nI k), .int (0 : Int32)] m (fun r' m' => WP G (d + 80) (0, 0) μX7_readTest 146 [.ref (gB G + 279), .int (nI q), .int (1 : Int32), .int (1 : Int32), lvU, .int (nI i), .int (0 : Int32), lvU] (r'.toList ++ []) m' Q)) :
    WP G (d + 80) (0, 0) μX7_readTest 127 [.ref (gB G + 279), .int (nI q), .int (1 : Int32), lvU, lvU, .int (nI i), .int (0 : Int32), .int (nI k)] [.int (1 : Int32)] m Q := by
  refine wp_if_eq 134 dX7_readTest_127 (by decide) (fun q => absurd q (by decide)) (fun _ => ?_)
  refine wp_iconst (1 : Int32) dX7_readTest_130 (by decide) ?_
  refine wp_goto 135 dX7_readTest_131 (by decide) ?_
  refine wp_istore_n dX7_readTest_135 (by decide) rfl ?_
  refine wp_aload_n dX7_readTest_136 rfl ?_
  refine wp_getr (gB G + 281) dX7_readTest_137 fX7_22 (ka hF 279 (by decide)) (hF.2 _ _) (rra 2 (isK_le (ka hF 279 (by decide))) (fun _ => rfl)) ?_
  refine wp_iload dX7_readTest_140 rfl ?_
  refine wp_iconst (0 : Int32) dX7_readTest_142 (by decide) ?_
  refine wp_forget [.ref (gB G + 279), .int (nI q), .int (1 : Int32), .int (1 : Int32), lvU, .int (nI i), .int (0 : Int32), lvU] ⟨Or.inl rfl, Or.inl rfl, Or.inl rfl, Or.inl rfl, Or.inr rfl, Or.inl rfl, Or.inl rfl, Or.inr rfl, trivial⟩ ?_
  refine wp_callV (As := [.int (nI k), .int (0 : Int32)]) (S := []) (b' := (0, 0)) (b := (0, 0)) dX7_readTest_143 MX7_142 (kr0 hF (isRr G)) rfl rfl rfl rfl (Nat.le_of_ble_eq_true rfl) ?_
  exact e1

theorem tF01 {G : Cx} {d : Nat} {m : Mm} {Q : Option Value → Mm → Prop} {q i : Nat} (hF : Full G m) 
    (e1 : WP G (d + 80) (0, 0) μX7_readTest 162 [.ref (gB G + 279), .int (nI q), .int (1 : Int32), .int (1 : Int32), lvU, .int (nI i), lvU, lvU] [] m Q) :
    WP G (d + 80) (0, 0) μX7_readTest 146 [.ref (gB G + 279), .int (nI q), .int (1 : Int32), .int (1 : Int32), lvU, .int (nI i), .int (0 : Int32), lvU] [] m Q := by
  refine wp_iload dX7_readTest_146 rfl ?_
  refine wp_if_eq 162 dX7_readTest_148 (by decide) (fun _ => ?_) (fun q => absurd (by decide) q)
  refine wp_forget [.ref (gB G + 279), .int (nI q), .int (1 : Int32), .int (1 : Int32), lvU, .int (nI i), lvU, lvU] ⟨Or.inl rfl, Or.inl rfl, Or.inl rfl, Or.inl rfl, Or.inr rfl, Or.inl rfl, Or.inr rfl, Or.inr rfl, trivial⟩ ?_
  exact e1

theorem tC10 {G : Cx} {d : Nat} {m : Mm} {Q : Option Value → Mm → Prop} {a n k q i : Nat} (hF : Full G m) (ha : fi m 709 (gB G + 279) = nI a) (hn : fi m 708 (gB G + 279) = nI n) (han : a < n) (hn5 : n ≤ 501) (hk : ai m (gB G + 290) a = nI k) (hk9 : k < 1000) 
    (e1 : WPM G (d + 79) (0, 0) μX8_emitCode [.ref (gB G + 281), .int (nI k), .int (0 : Int32)] m (fun r' m' => WP G (d + 80) (0, 0) μX7_readTest 146 [.ref (gB G + 279), .int (nI q), .int (1 : Int32), .int (0 : Int32), lvU, .int (nI i), .int (1 : Int32), lvU] (r'.toList ++ []) m' Q)) :
    WP G (d + 80) (0, 0) μX7_readTest 104 [.ref (gB G + 279), .int (nI q), .int (1 : Int32), lvU, lvU, .int (nI i), .int (1 : Int32), lvU] [.int (0 : Int32)] m Q := by
  refine wp_istore_n dX7_readTest_104 (by decide) rfl ?_
  refine wp_aload_n dX7_readTest_105 rfl ?_
  refine wp_callV (As := []) (S := []) (b' := (0, 0)) (b := (0, 0)) dX7_readTest_106 MX7_60 (ka hF 279 (by decide)) rfl rfl rfl rfl (Nat.le_of_ble_eq_true rfl) ?_
  refine WPM.of pX7 (Nat.le_of_ble_eq_true rfl) rfl ?_
  refine wp_aload_n dX7_kind_0 rfl ?_
  refine wp_geti (nI a) dX7_kind_1 fX7_57 (Or.inl rfl) (ka hF 279 (by decide)) ha ?_
  refine wp_aload_n dX7_kind_4 rfl ?_
  refine wp_geti (nI n) dX7_kind_5 fX7_77 (Or.inl rfl) (ka hF 279 (by decide)) hn ?_
  refine wp_icmp_ge 23 dX7_kind_8 (by decide) (fun q => absurd (nlt_ (a := a) (b := n) han (by omega)) q) (fun _ => ?_)
  refine wp_aload_n dX7_kind_11 rfl ?_
  refine wp_getr (gB G + 290) dX7_kind_12 fX7_26 (ka hF 279 (by decide)) (hF.2 _ _) (rra 11 (isK_le (ka hF 279 (by decide))) (fun _ => rfl)) ?_
  refine wp_aload_n dX7_kind_15 rfl ?_
  refine wp_geti (nI a) dX7_kind_16 fX7_57 (Or.inl rfl) (ka hF 279 (by decide)) ha ?_
  refine wp_ialdk (n := 501) a (nI k) dX7_kind_19 (ka hF 290 (by decide)) (la 290) (vin (by omega) (by decide)) (nIc (by omega)) hk ?_
  refine wp_goto 24 dX7_kind_20 (by decide) ?_
  refine wp_iret dX7_kind_24 rfl ?_
  show WP G (d + 80) (0, 0) μX7_readTest 109 [.ref (gB G + 279), .int (nI q), .int (1 : Int32), .int (0 : Int32), lvU, .int (nI i), .int (1 : Int32), lvU] [.int (nI k)] m _
  refine wp_istore dX7_readTest_109 (by decide) rfl ?_
  refine wp_iload_n dX7_readTest_111 rfl ?_
  refine wp_if_eq 134 dX7_readTest_112 (by decide) (fun _ => ?_) (fun q => absurd (by decide) q)
  refine wp_iconst (0 : Int32) dX7_readTest_134 (by decide) ?_
  refine wp_istore_n dX7_readTest_135 (by decide) rfl ?_
  refine wp_aload_n dX7_readTest_136 rfl ?_
  refine wp_getr (gB G + 281) dX7_readTest_137 fX7_22 (ka hF 279 (by decide)) (hF.2 _ _) (rra 2 (isK_le (ka hF 279 (by decide))) (fun _ => rfl)) ?_
  refine wp_iload dX7_readTest_140 rfl ?_
  refine wp_iconst (0 : Int32) dX7_readTest_142 (by decide) ?_
  refine wp_forget [.ref (gB G + 279), .int (nI q), .int (1 : Int32), .int (0 : Int32), lvU, .int (nI i), .int (1 : Int32), lvU] ⟨Or.inl rfl, Or.inl rfl, Or.inl rfl, Or.inl rfl, Or.inr rfl, Or.inl rfl, Or.inl rfl, Or.inr rfl, trivial⟩ ?_
  refine wp_callV (As := [.int (nI k), .int (0 : Int32)]) (S := []) (b' := (0, 0)) (b := (0, 0)) dX7_readTest_143 MX7_142 (kr0 hF (isRr G)) rfl rfl rfl rfl (Nat.le_of_ble_eq_true rfl) ?_
  exact e1

theorem tC11 {G : Cx} {d : Nat} {m : Mm} {Q : Option Value → Mm → Prop} {a n k q i : Nat} (hF : Full G m) (ha : fi m 709 (gB G + 279) = nI a) (hn : fi m 708 (gB G + 279) = nI n) (han : a < n) (hn5 : n ≤ 501) (hk : ai m (gB G + 290) a = nI k) (hk9 : k < 1000) 
    (e1 : WPM G (d + 79) (0, 0) μX7_takeComparison [.ref (gB G + 279)] m (fun r' m' => WP G (d + 80) (0, 0) μX7_readTest 119 [.ref (gB G + 279), .int (nI q), .int (1 : Int32), lvU, lvU, .int (nI i), .int (1 : Int32), .int (nI k)] (r'.toList ++ []) m' Q)) :
    WP G (d + 80) (0, 0) μX7_readTest 104 [.ref (gB G + 279), .int (nI q), .int (1 : Int32), lvU, lvU, .int (nI i), .int (1 : Int32), lvU] [.int (1 : Int32)] m Q := by
  refine wp_istore_n dX7_readTest_104 (by decide) rfl ?_
  refine wp_aload_n dX7_readTest_105 rfl ?_
  refine wp_callV (As := []) (S := []) (b' := (0, 0)) (b := (0, 0)) dX7_readTest_106 MX7_60 (ka hF 279 (by decide)) rfl rfl rfl rfl (Nat.le_of_ble_eq_true rfl) ?_
  refine WPM.of pX7 (Nat.le_of_ble_eq_true rfl) rfl ?_
  refine wp_aload_n dX7_kind_0 rfl ?_
  refine wp_geti (nI a) dX7_kind_1 fX7_57 (Or.inl rfl) (ka hF 279 (by decide)) ha ?_
  refine wp_aload_n dX7_kind_4 rfl ?_
  refine wp_geti (nI n) dX7_kind_5 fX7_77 (Or.inl rfl) (ka hF 279 (by decide)) hn ?_
  refine wp_icmp_ge 23 dX7_kind_8 (by decide) (fun q => absurd (nlt_ (a := a) (b := n) han (by omega)) q) (fun _ => ?_)
  refine wp_aload_n dX7_kind_11 rfl ?_
  refine wp_getr (gB G + 290) dX7_kind_12 fX7_26 (ka hF 279 (by decide)) (hF.2 _ _) (rra 11 (isK_le (ka hF 279 (by decide))) (fun _ => rfl)) ?_
  refine wp_aload_n dX7_kind_15 rfl ?_
  refine wp_geti (nI a) dX7_kind_16 fX7_57 (Or.inl rfl) (ka hF 279 (by decide)) ha ?_
  refine wp_ialdk (n := 501) a (nI k) dX7_kind_19 (ka hF 290 (by decide)) (la 290) (vin (by omega) (by decide)) (nIc (by omega)) hk ?_
  refine wp_goto 24 dX7_kind_20 (by decide) ?_
  refine wp_iret dX7_kind_24 rfl ?_
  show WP G (d + 80) (0, 0) μX7_readTest 109 [.ref (gB G + 279), .int (nI q), .int (1 : Int32), .int (1 : Int32), lvU, .int (nI i), .int (1 : Int32), lvU] [.int (nI k)] m _
  refine wp_istore dX7_readTest_109 (by decide) rfl ?_
  refine wp_iload_n dX7_readTest_111 rfl ?_
  refine wp_if_eq 134 dX7_readTest_112 (by decide) (fun q => absurd q (by decide)) (fun _ => ?_)
  refine wp_aload_n dX7_readTest_115 rfl ?_
  refine wp_forget [.ref (gB G + 279), .int (nI q), .int (1 : Int32), lvU, lvU, .int (nI i), .int (1 : Int32), .int (nI k)] ⟨Or.inl rfl, Or.inl rfl, Or.inl rfl, Or.inr rfl, Or.inr rfl, Or.inl rfl, Or.inl rfl, Or.inl rfl, trivial⟩ ?_
  refine wp_callV (As := []) (S := []) (b' := (0, 0)) (b := (0, 0)) dX7_readTest_116 MX7_138 (ka hF 279 (by decide)) rfl rfl rfl rfl (Nat.le_of_ble_eq_true rfl) ?_
  exact e1

theorem tD10 {G : Cx} {d : Nat} {m : Mm} {Q : Option Value → Mm → Prop} {k q i : Nat} (hF : Full G m) 
    (e1 : WPM G (d + 79) (0, 0) μX8_emitCode [.ref (gB G + 281), .int (nI k), .int (0 : Int32)] m (fun r' m' => WP G (d + 80) (0, 0) μX7_readTest 146 [.ref (gB G + 279), .int (nI q), .int (1 : Int32), .int (0 : Int32), lvU, .int (nI i), .int (1 : Int32), lvU] (r'.toList ++ []) m' Q)) :
    WP G (d + 80) (0, 0) μX7_readTest 119 [.ref (gB G + 279), .int (nI q), .int (1 : Int32), lvU, lvU, .int (nI i), .int (1 : Int32), .int (nI k)] [.int (0 : Int32)] m Q := by
  refine wp_if_eq 134 dX7_readTest_119 (by decide) (fun _ => ?_) (fun q => absurd (by decide) q)
  refine wp_iconst (0 : Int32) dX7_readTest_134 (by decide) ?_
  refine wp_istore_n dX7_readTest_135 (by decide) rfl ?_
  refine wp_aload_n dX7_readTest_136 rfl ?_
  refine wp_getr (gB G + 281) dX7_readTest_137 fX7_22 (ka hF 279 (by decide)) (hF.2 _ _) (rra 2 (isK_le (ka hF 279 (by decide))) (fun _ => rfl)) ?_
  refine wp_iload dX7_readTest_140 rfl ?_
  refine wp_iconst (0 : Int32) dX7_readTest_142 (by decide) ?_
  refine wp_forget [.ref (gB G + 279), .int (nI q), .int (1 : Int32), .int (0 : Int32), lvU, .int (nI i), .int (1 : Int32), lvU] ⟨Or.inl rfl, Or.inl rfl, Or.inl rfl, Or.inl rfl, Or.inr rfl, Or.inl rfl, Or.inl rfl, Or.inr rfl, trivial⟩ ?_
  refine wp_callV (As := [.int (nI k), .int (0 : Int32)]) (S := []) (b' := (0, 0)) (b := (0, 0)) dX7_readTest_143 MX7_142 (kr0 hF (isRr G)) rfl rfl rfl rfl (Nat.le_of_ble_eq_true rfl) ?_
  exact e1

theorem tD11 {G : Cx} {d : Nat} {m : Mm} {Q : Option Value → Mm → Prop} {k q i : Nat} (hF : Full G m) 
    (e1 : WPM G (d + 79) (0, 0) μX7_readSum [.ref (gB G + 279), .int (0 : Int32)] m (fun r' m' => WP G (d + 80) (0, 0) μX7_readTest 127 [.ref (gB G + 279), .int (nI q), .int (1 : Int32), lvU, lvU, .int (nI i), .int (1 : Int32), .int (nI k)] (r'.toList ++ []) m' Q)) :
    WP G (d + 80) (0, 0) μX7_readTest 119 [.ref (gB G + 279), .int (nI q), .int (1 : Int32), lvU, lvU, .int (nI i), .int (1 : Int32), .int (nI k)] [.int (1 : Int32)] m Q := by
  refine wp_if_eq 134 dX7_readTest_119 (by decide) (fun q => absurd q (by decide)) (fun _ => ?_)
  refine wp_aload_n dX7_readTest_122 rfl ?_
  refine wp_iconst (0 : Int32) dX7_readTest_123 (by decide) ?_
  refine wp_callV (As := [.int (0 : Int32)]) (S := []) (b' := (0, 0)) (b := (0, 0)) dX7_readTest_124 MX7_135 (ka hF 279 (by decide)) rfl rfl rfl rfl (Nat.le_of_ble_eq_true rfl) ?_
  exact e1

theorem tE10 {G : Cx} {d : Nat} {m : Mm} {Q : Option Value → Mm → Prop} {k q i : Nat} (hF : Full G m) 
    (e1 : WPM G (d + 79) (0, 0) μX8_emitCode [.ref (gB G + 281), .int (nI k), .int (0 : Int32)] m (fun r' m' => WP G (d + 80) (0, 0) μX7_readTest 146 [.ref (gB G + 279), .int (nI q), .int (1 : Int32), .int (0 : Int32), lvU, .int (nI i), .int (1 : Int32), lvU] (r'.toList ++ []) m' Q)) :
    WP G (d + 80) (0, 0) μX7_readTest 127 [.ref (gB G + 279), .int (nI q), .int (1 : Int32), lvU, lvU, .int (nI i), .int (1 : Int32), .int (nI k)] [.int (0 : Int32)] m Q := by
  refine wp_if_eq 134 dX7_readTest_127 (by decide) (fun _ => ?_) (fun q => absurd (by decide) q)
  refine wp_iconst (0 : Int32) dX7_readTest_134 (by decide) ?_
  refine wp_istore_n dX7_readTest_135 (by decide) rfl ?_
  refine wp_aload_n dX7_readTest_136 rfl ?_
  refine wp_getr (gB G + 281) dX7_readTest_137 fX7_22 (ka hF 279 (by decide)) (hF.2 _ _) (rra 2 (isK_le (ka hF 279 (by decide))) (fun _ => rfl)) ?_
  refine wp_iload dX7_readTest_140 rfl ?_
  refine wp_iconst (0 : Int32) dX7_readTest_142 (by decide) ?_
  refine wp_forget [.ref (gB G + 279), .int (nI q), .int (1 : Int32), .int (0 : Int32), lvU, .int (nI i), .int (1 : Int32), lvU] ⟨Or.inl rfl, Or.inl rfl, Or.inl rfl, Or.inl rfl, Or.inr rfl, Or.inl rfl, Or.inl rfl, Or.inr rfl, trivial⟩ ?_
  refine wp_callV (As := [.int (nI k), .int (0 : Int32)]) (S := []) (b' := (0, 0)) (b := (0, 0)) dX7_readTest_143 MX7_142 (kr0 hF (isRr G)) rfl rfl rfl rfl (Nat.le_of_ble_eq_true rfl) ?_
  exact e1

theorem tF10 {G : Cx} {d : Nat} {m : Mm} {Q : Option Value → Mm → Prop} {q i : Nat} (hF : Full G m) 
    (e1 : WPM G (d + 79) (0, 0) μX8_emitCode [.ref (gB G + 281), .int (204 : Int32), .int (0 : Int32)] m (fun r' m' => WP G (d + 80) (0, 0) μX7_readTest 162 [.ref (gB G + 279), .int (nI q), .int (1 : Int32), .int (0 : Int32), lvU, .int (nI i), lvU, lvU] (r'.toList ++ []) m' Q)) :
    WP G (d + 80) (0, 0) μX7_readTest 146 [.ref (gB G + 279), .int (nI q), .int (1 : Int32), .int (0 : Int32), lvU, .int (nI i), .int (1 : Int32), lvU] [] m Q := by
  refine wp_iload dX7_readTest_146 rfl ?_
  refine wp_if_eq 162 dX7_readTest_148 (by decide) (fun q => absurd q (by decide)) (fun _ => ?_)
  refine wp_aload_n dX7_readTest_151 rfl ?_
  refine wp_getr (gB G + 281) dX7_readTest_152 fX7_22 (ka hF 279 (by decide)) (hF.2 _ _) (rra 2 (isK_le (ka hF 279 (by decide))) (fun _ => rfl)) ?_
  refine wp_sipush (204 : Int32) dX7_readTest_155 (by decide) ?_
  refine wp_iconst (0 : Int32) dX7_readTest_158 (by decide) ?_
  refine wp_forget [.ref (gB G + 279), .int (nI q), .int (1 : Int32), .int (0 : Int32), lvU, .int (nI i), lvU, lvU] ⟨Or.inl rfl, Or.inl rfl, Or.inl rfl, Or.inl rfl, Or.inr rfl, Or.inl rfl, Or.inr rfl, Or.inr rfl, trivial⟩ ?_
  refine wp_callV (As := [.int (204 : Int32), .int (0 : Int32)]) (S := []) (b' := (0, 0)) (b := (0, 0)) dX7_readTest_159 MX7_142 (kr0 hF (isRr G)) rfl rfl rfl rfl (Nat.le_of_ble_eq_true rfl) ?_
  exact e1

theorem tE11 {G : Cx} {d : Nat} {m : Mm} {Q : Option Value → Mm → Prop} {k q i : Nat} (hF : Full G m) 
    (e1 : WPM G (d + 79) (0, 0) μX8_emitCode [.ref (gB G + 281), .int (nI k), .int (0 : Int32)] m (fun r' m' => WP G (d + 80) (0, 0) μX7_readTest 146 [.ref (gB G + 279), .int (nI q), .int (1 : Int32), .int (1 : Int32), lvU, .int (nI i), .int (1 : Int32), lvU] (r'.toList ++ []) m' Q)) :
    WP G (d + 80) (0, 0) μX7_readTest 127 [.ref (gB G + 279), .int (nI q), .int (1 : Int32), lvU, lvU, .int (nI i), .int (1 : Int32), .int (nI k)] [.int (1 : Int32)] m Q := by
  refine wp_if_eq 134 dX7_readTest_127 (by decide) (fun q => absurd q (by decide)) (fun _ => ?_)
  refine wp_iconst (1 : Int32) dX7_readTest_130 (by decide) ?_
  refine wp_goto 135 dX7_readTest_131 (by decide) ?_
  refine wp_istore_n dX7_readTest_135 (by decide) rfl ?_
  refine wp_aload_n dX7_readTest_136 rfl ?_
  refine wp_getr (gB G + 281) dX7_readTest_137 fX7_22 (ka hF 279 (by decide)) (hF.2 _ _) (rra 2 (isK_le (ka hF 279 (by decide))) (fun _ => rfl)) ?_
  refine wp_iload dX7_readTest_140 rfl ?_
  refine wp_iconst (0 : Int32) dX7_readTest_142 (by decide) ?_
  refine wp_forget [.ref (gB G + 279), .int (nI q), .int (1 : Int32), .int (1 : Int32), lvU, .int (nI i), .int (1 : Int32), lvU] ⟨Or.inl rfl, Or.inl rfl, Or.inl rfl, Or.inl rfl, Or.inr rfl, Or.inl rfl, Or.inl rfl, Or.inr rfl, trivial⟩ ?_
  refine wp_callV (As := [.int (nI k), .int (0 : Int32)]) (S := []) (b' := (0, 0)) (b := (0, 0)) dX7_readTest_143 MX7_142 (kr0 hF (isRr G)) rfl rfl rfl rfl (Nat.le_of_ble_eq_true rfl) ?_
  exact e1

theorem tF11 {G : Cx} {d : Nat} {m : Mm} {Q : Option Value → Mm → Prop} {q i : Nat} (hF : Full G m) 
    (e1 : WPM G (d + 79) (0, 0) μX8_emitCode [.ref (gB G + 281), .int (204 : Int32), .int (0 : Int32)] m (fun r' m' => WP G (d + 80) (0, 0) μX7_readTest 162 [.ref (gB G + 279), .int (nI q), .int (1 : Int32), .int (1 : Int32), lvU, .int (nI i), lvU, lvU] (r'.toList ++ []) m' Q)) :
    WP G (d + 80) (0, 0) μX7_readTest 146 [.ref (gB G + 279), .int (nI q), .int (1 : Int32), .int (1 : Int32), lvU, .int (nI i), .int (1 : Int32), lvU] [] m Q := by
  refine wp_iload dX7_readTest_146 rfl ?_
  refine wp_if_eq 162 dX7_readTest_148 (by decide) (fun q => absurd q (by decide)) (fun _ => ?_)
  refine wp_aload_n dX7_readTest_151 rfl ?_
  refine wp_getr (gB G + 281) dX7_readTest_152 fX7_22 (ka hF 279 (by decide)) (hF.2 _ _) (rra 2 (isK_le (ka hF 279 (by decide))) (fun _ => rfl)) ?_
  refine wp_sipush (204 : Int32) dX7_readTest_155 (by decide) ?_
  refine wp_iconst (0 : Int32) dX7_readTest_158 (by decide) ?_
  refine wp_forget [.ref (gB G + 279), .int (nI q), .int (1 : Int32), .int (1 : Int32), lvU, .int (nI i), lvU, lvU] ⟨Or.inl rfl, Or.inl rfl, Or.inl rfl, Or.inl rfl, Or.inr rfl, Or.inl rfl, Or.inr rfl, Or.inr rfl, trivial⟩ ?_
  refine wp_callV (As := [.int (204 : Int32), .int (0 : Int32)]) (S := []) (b' := (0, 0)) (b := (0, 0)) dX7_readTest_159 MX7_142 (kr0 hF (isRr G)) rfl rfl rfl rfl (Nat.le_of_ble_eq_true rfl) ?_
  exact e1

theorem tH0 {G : Cx} {d : Nat} {m : Mm} {Q : Option Value → Mm → Prop} {a n k q i : Nat} (hF : Full G m) (ha : fi m 709 (gB G + 279) = nI a) (hn : fi m 708 (gB G + 279) = nI n) (han : a < n) (hn5 : n ≤ 501) (hk : ai m (gB G + 290) a = nI k) (hk9 : k < 1000) (hi : i < 500) 
    (e1 : k = 203 → WPM G (d + 79) (0, 0) μX8_emitCode [.ref (gB G + 281), .int (nI k), .int (0 : Int32)] m (fun r' m' => WP G (d + 80) (0, 0) μX7_readTest 206 [.ref (gB G + 279), .int (nI q), .int (1 : Int32), .int (0 : Int32), .int (1 : Int32), .int (nI i), lvU, lvU] (r'.toList ++ []) m' Q))
    (e2 : ¬ k = 203 → ¬ k = 202 → WP G (d + 80) (0, 0) μX7_readTest 40 [.ref (gB G + 279), .int (nI q), .int (1 : Int32), .int (0 : Int32), .int (0 : Int32), .int (nI (i + 1)), lvU, lvU] [] m Q)
    (e3 : ¬ k = 203 → k = 202 → WPM G (d + 79) (0, 0) μX8_emitCode [.ref (gB G + 281), .int (nI k), .int (0 : Int32)] m (fun r' m' => WP G (d + 80) (0, 0) μX7_readTest 206 [.ref (gB G + 279), .int (nI q), .int (1 : Int32), .int (0 : Int32), .int (1 : Int32), .int (nI i), lvU, lvU] (r'.toList ++ []) m' Q)) :
    WP G (d + 80) (0, 0) μX7_readTest 162 [.ref (gB G + 279), .int (nI q), .int (1 : Int32), .int (0 : Int32), lvU, .int (nI i), lvU, lvU] [] m Q := by
  refine wp_aload_n dX7_readTest_162 rfl ?_
  refine wp_callV (As := []) (S := []) (b' := (0, 0)) (b := (0, 0)) dX7_readTest_163 MX7_60 (ka hF 279 (by decide)) rfl rfl rfl rfl (Nat.le_of_ble_eq_true rfl) ?_
  refine WPM.of pX7 (Nat.le_of_ble_eq_true rfl) rfl ?_
  refine wp_aload_n dX7_kind_0 rfl ?_
  refine wp_geti (nI a) dX7_kind_1 fX7_57 (Or.inl rfl) (ka hF 279 (by decide)) ha ?_
  refine wp_aload_n dX7_kind_4 rfl ?_
  refine wp_geti (nI n) dX7_kind_5 fX7_77 (Or.inl rfl) (ka hF 279 (by decide)) hn ?_
  refine wp_icmp_ge 23 dX7_kind_8 (by decide) (fun q => absurd (nlt_ (a := a) (b := n) han (by omega)) q) (fun _ => ?_)
  refine wp_aload_n dX7_kind_11 rfl ?_
  refine wp_getr (gB G + 290) dX7_kind_12 fX7_26 (ka hF 279 (by decide)) (hF.2 _ _) (rra 11 (isK_le (ka hF 279 (by decide))) (fun _ => rfl)) ?_
  refine wp_aload_n dX7_kind_15 rfl ?_
  refine wp_geti (nI a) dX7_kind_16 fX7_57 (Or.inl rfl) (ka hF 279 (by decide)) ha ?_
  refine wp_ialdk (n := 501) a (nI k) dX7_kind_19 (ka hF 290 (by decide)) (la 290) (vin (by omega) (by decide)) (nIc (by omega)) hk ?_
  refine wp_goto 24 dX7_kind_20 (by decide) ?_
  refine wp_iret dX7_kind_24 rfl ?_
  show WP G (d + 80) (0, 0) μX7_readTest 166 [.ref (gB G + 279), .int (nI q), .int (1 : Int32), .int (0 : Int32), lvU, .int (nI i), lvU, lvU] [.int (nI k)] m _
  refine wp_sipush (203 : Int32) dX7_readTest_166 (by decide) ?_
  refine wp_icmp_eq 182 dX7_readTest_169 (by decide) (fun q1 => ?_) (fun q2 => ?_)
  · have hp3 : k = 203 := (neq q1 (by omega) (by omega))
    refine wp_iconst (1 : Int32) dX7_readTest_182 (by decide) ?_
    refine wp_goto 187 dX7_readTest_183 (by decide) ?_
    refine wp_istore dX7_readTest_187 (by decide) rfl ?_
    refine wp_iload dX7_readTest_189 rfl ?_
    refine wp_if_eq 206 dX7_readTest_191 (by decide) (fun q => absurd q (by decide)) (fun _ => ?_)
    refine wp_aload_n dX7_readTest_194 rfl ?_
    refine wp_getr (gB G + 281) dX7_readTest_195 fX7_22 (ka hF 279 (by decide)) (hF.2 _ _) (rra 2 (isK_le (ka hF 279 (by decide))) (fun _ => rfl)) ?_
    refine wp_aload_n dX7_readTest_198 rfl ?_
    refine wp_callV (As := []) (S := [.ref (gB G + 281)]) (b' := (0, 0)) (b := (0, 0)) dX7_readTest_199 MX7_60 (ka hF 279 (by decide)) rfl rfl rfl rfl (Nat.le_of_ble_eq_true rfl) ?_
    refine WPM.of pX7 (Nat.le_of_ble_eq_true rfl) rfl ?_
    refine wp_aload_n dX7_kind_0 rfl ?_
    refine wp_geti (nI a) dX7_kind_1 fX7_57 (Or.inl rfl) (ka hF 279 (by decide)) ha ?_
    refine wp_aload_n dX7_kind_4 rfl ?_
    refine wp_geti (nI n) dX7_kind_5 fX7_77 (Or.inl rfl) (ka hF 279 (by decide)) hn ?_
    refine wp_icmp_ge 23 dX7_kind_8 (by decide) (fun q => absurd (nlt_ (a := a) (b := n) han (by omega)) q) (fun _ => ?_)
    refine wp_aload_n dX7_kind_11 rfl ?_
    refine wp_getr (gB G + 290) dX7_kind_12 fX7_26 (ka hF 279 (by decide)) (hF.2 _ _) (rra 11 (isK_le (ka hF 279 (by decide))) (fun _ => rfl)) ?_
    refine wp_aload_n dX7_kind_15 rfl ?_
    refine wp_geti (nI a) dX7_kind_16 fX7_57 (Or.inl rfl) (ka hF 279 (by decide)) ha ?_
    refine wp_ialdk (n := 501) a (nI k) dX7_kind_19 (ka hF 290 (by decide)) (la 290) (vin (by omega) (by decide)) (nIc (by omega)) hk ?_
    refine wp_goto 24 dX7_kind_20 (by decide) ?_
    refine wp_iret dX7_kind_24 rfl ?_
    show WP G (d + 80) (0, 0) μX7_readTest 202 [.ref (gB G + 279), .int (nI q), .int (1 : Int32), .int (0 : Int32), .int (1 : Int32), .int (nI i), lvU, lvU] [.int (nI k), .ref (gB G + 281)] m _
    refine wp_iconst (0 : Int32) dX7_readTest_202 (by decide) ?_
    refine wp_callV (As := [.int (nI k), .int (0 : Int32)]) (S := []) (b' := (0, 0)) (b := (0, 0)) dX7_readTest_203 MX7_142 (kr0 hF (isRr G)) rfl rfl rfl rfl (Nat.le_of_ble_eq_true rfl) ?_
    exact e1 hp3
  · have hp4 : ¬ k = 203 := (fun z => q2 (congrArg nI z))
    refine wp_aload_n dX7_readTest_172 rfl ?_
    refine wp_callV (As := []) (S := []) (b' := (0, 0)) (b := (0, 0)) dX7_readTest_173 MX7_60 (ka hF 279 (by decide)) rfl rfl rfl rfl (Nat.le_of_ble_eq_true rfl) ?_
    refine WPM.of pX7 (Nat.le_of_ble_eq_true rfl) rfl ?_
    refine wp_aload_n dX7_kind_0 rfl ?_
    refine wp_geti (nI a) dX7_kind_1 fX7_57 (Or.inl rfl) (ka hF 279 (by decide)) ha ?_
    refine wp_aload_n dX7_kind_4 rfl ?_
    refine wp_geti (nI n) dX7_kind_5 fX7_77 (Or.inl rfl) (ka hF 279 (by decide)) hn ?_
    refine wp_icmp_ge 23 dX7_kind_8 (by decide) (fun q => absurd (nlt_ (a := a) (b := n) han (by omega)) q) (fun _ => ?_)
    refine wp_aload_n dX7_kind_11 rfl ?_
    refine wp_getr (gB G + 290) dX7_kind_12 fX7_26 (ka hF 279 (by decide)) (hF.2 _ _) (rra 11 (isK_le (ka hF 279 (by decide))) (fun _ => rfl)) ?_
    refine wp_aload_n dX7_kind_15 rfl ?_
    refine wp_geti (nI a) dX7_kind_16 fX7_57 (Or.inl rfl) (ka hF 279 (by decide)) ha ?_
    refine wp_ialdk (n := 501) a (nI k) dX7_kind_19 (ka hF 290 (by decide)) (la 290) (vin (by omega) (by decide)) (nIc (by omega)) hk ?_
    refine wp_goto 24 dX7_kind_20 (by decide) ?_
    refine wp_iret dX7_kind_24 rfl ?_
    show WP G (d + 80) (0, 0) μX7_readTest 176 [.ref (gB G + 279), .int (nI q), .int (1 : Int32), .int (0 : Int32), lvU, .int (nI i), lvU, lvU] [.int (nI k)] m _
    refine wp_sipush (202 : Int32) dX7_readTest_176 (by decide) ?_
    refine wp_icmp_ne 186 dX7_readTest_179 (by decide) (fun q5 => ?_) (fun q6 => ?_)
    · have hp7 : ¬ k = 202 := (fun z => q5 (congrArg nI z))
      refine wp_iconst (0 : Int32) dX7_readTest_186 (by decide) ?_
      refine wp_istore dX7_readTest_187 (by decide) rfl ?_
      refine wp_iload dX7_readTest_189 rfl ?_
      refine wp_if_eq 206 dX7_readTest_191 (by decide) (fun _ => ?_) (fun q => absurd (by decide) q)
      refine wp_iinc (nI (i + 1)) dX7_readTest_206 rfl (by decide) (nadd (a := i) (b := 1) (by omega)) rfl ?_
      refine wp_goto 40 dX7_readTest_209 (by decide) ?_
      refine wp_forget [.ref (gB G + 279), .int (nI q), .int (1 : Int32), .int (0 : Int32), .int (0 : Int32), .int (nI (i + 1)), lvU, lvU] ⟨Or.inl rfl, Or.inl rfl, Or.inl rfl, Or.inl rfl, Or.inl rfl, Or.inl rfl, Or.inr rfl, Or.inr rfl, trivial⟩ ?_
      exact e2 hp4 hp7
    · have hp8 : k = 202 := (neq q6 (by omega) (by omega))
      refine wp_iconst (1 : Int32) dX7_readTest_182 (by decide) ?_
      refine wp_goto 187 dX7_readTest_183 (by decide) ?_
      refine wp_istore dX7_readTest_187 (by decide) rfl ?_
      refine wp_iload dX7_readTest_189 rfl ?_
      refine wp_if_eq 206 dX7_readTest_191 (by decide) (fun q => absurd q (by decide)) (fun _ => ?_)
      refine wp_aload_n dX7_readTest_194 rfl ?_
      refine wp_getr (gB G + 281) dX7_readTest_195 fX7_22 (ka hF 279 (by decide)) (hF.2 _ _) (rra 2 (isK_le (ka hF 279 (by decide))) (fun _ => rfl)) ?_
      refine wp_aload_n dX7_readTest_198 rfl ?_
      refine wp_callV (As := []) (S := [.ref (gB G + 281)]) (b' := (0, 0)) (b := (0, 0)) dX7_readTest_199 MX7_60 (ka hF 279 (by decide)) rfl rfl rfl rfl (Nat.le_of_ble_eq_true rfl) ?_
      refine WPM.of pX7 (Nat.le_of_ble_eq_true rfl) rfl ?_
      refine wp_aload_n dX7_kind_0 rfl ?_
      refine wp_geti (nI a) dX7_kind_1 fX7_57 (Or.inl rfl) (ka hF 279 (by decide)) ha ?_
      refine wp_aload_n dX7_kind_4 rfl ?_
      refine wp_geti (nI n) dX7_kind_5 fX7_77 (Or.inl rfl) (ka hF 279 (by decide)) hn ?_
      refine wp_icmp_ge 23 dX7_kind_8 (by decide) (fun q => absurd (nlt_ (a := a) (b := n) han (by omega)) q) (fun _ => ?_)
      refine wp_aload_n dX7_kind_11 rfl ?_
      refine wp_getr (gB G + 290) dX7_kind_12 fX7_26 (ka hF 279 (by decide)) (hF.2 _ _) (rra 11 (isK_le (ka hF 279 (by decide))) (fun _ => rfl)) ?_
      refine wp_aload_n dX7_kind_15 rfl ?_
      refine wp_geti (nI a) dX7_kind_16 fX7_57 (Or.inl rfl) (ka hF 279 (by decide)) ha ?_
      refine wp_ialdk (n := 501) a (nI k) dX7_kind_19 (ka hF 290 (by decide)) (la 290) (vin (by omega) (by decide)) (nIc (by omega)) hk ?_
      refine wp_goto 24 dX7_kind_20 (by decide) ?_
      refine wp_iret dX7_kind_24 rfl ?_
      show WP G (d + 80) (0, 0) μX7_readTest 202 [.ref (gB G + 279), .int (nI q), .int (1 : Int32), .int (0 : Int32), .int (1 : Int32), .int (nI i), lvU, lvU] [.int (nI k), .ref (gB G + 281)] m _
      refine wp_iconst (0 : Int32) dX7_readTest_202 (by decide) ?_
      refine wp_callV (As := [.int (nI k), .int (0 : Int32)]) (S := []) (b' := (0, 0)) (b := (0, 0)) dX7_readTest_203 MX7_142 (kr0 hF (isRr G)) rfl rfl rfl rfl (Nat.le_of_ble_eq_true rfl) ?_
      exact e3 hp4 hp8

theorem tI0 {G : Cx} {d : Nat} {m : Mm} {Q : Option Value → Mm → Prop} {q i : Nat} (hF : Full G m) (hi : i < 500) 
    (e1 : WP G (d + 80) (0, 0) μX7_readTest 40 [.ref (gB G + 279), .int (nI q), .int (1 : Int32), .int (0 : Int32), .int (1 : Int32), .int (nI (i + 1)), lvU, lvU] [] m Q) :
    WP G (d + 80) (0, 0) μX7_readTest 206 [.ref (gB G + 279), .int (nI q), .int (1 : Int32), .int (0 : Int32), .int (1 : Int32), .int (nI i), lvU, lvU] [] m Q := by
  refine wp_iinc (nI (i + 1)) dX7_readTest_206 rfl (by decide) (nadd (a := i) (b := 1) (by omega)) rfl ?_
  refine wp_goto 40 dX7_readTest_209 (by decide) ?_
  refine wp_forget [.ref (gB G + 279), .int (nI q), .int (1 : Int32), .int (0 : Int32), .int (1 : Int32), .int (nI (i + 1)), lvU, lvU] ⟨Or.inl rfl, Or.inl rfl, Or.inl rfl, Or.inl rfl, Or.inl rfl, Or.inl rfl, Or.inr rfl, Or.inr rfl, trivial⟩ ?_
  exact e1

theorem tH1 {G : Cx} {d : Nat} {m : Mm} {Q : Option Value → Mm → Prop} {a n k q i : Nat} (hF : Full G m) (ha : fi m 709 (gB G + 279) = nI a) (hn : fi m 708 (gB G + 279) = nI n) (han : a < n) (hn5 : n ≤ 501) (hk : ai m (gB G + 290) a = nI k) (hk9 : k < 1000) (hi : i < 500) 
    (e1 : k = 203 → WPM G (d + 79) (0, 0) μX8_emitCode [.ref (gB G + 281), .int (nI k), .int (0 : Int32)] m (fun r' m' => WP G (d + 80) (0, 0) μX7_readTest 206 [.ref (gB G + 279), .int (nI q), .int (1 : Int32), .int (1 : Int32), .int (1 : Int32), .int (nI i), lvU, lvU] (r'.toList ++ []) m' Q))
    (e2 : ¬ k = 203 → ¬ k = 202 → WP G (d + 80) (0, 0) μX7_readTest 40 [.ref (gB G + 279), .int (nI q), .int (1 : Int32), .int (1 : Int32), .int (0 : Int32), .int (nI (i + 1)), lvU, lvU] [] m Q)
    (e3 : ¬ k = 203 → k = 202 → WPM G (d + 79) (0, 0) μX8_emitCode [.ref (gB G + 281), .int (nI k), .int (0 : Int32)] m (fun r' m' => WP G (d + 80) (0, 0) μX7_readTest 206 [.ref (gB G + 279), .int (nI q), .int (1 : Int32), .int (1 : Int32), .int (1 : Int32), .int (nI i), lvU, lvU] (r'.toList ++ []) m' Q)) :
    WP G (d + 80) (0, 0) μX7_readTest 162 [.ref (gB G + 279), .int (nI q), .int (1 : Int32), .int (1 : Int32), lvU, .int (nI i), lvU, lvU] [] m Q := by
  refine wp_aload_n dX7_readTest_162 rfl ?_
  refine wp_callV (As := []) (S := []) (b' := (0, 0)) (b := (0, 0)) dX7_readTest_163 MX7_60 (ka hF 279 (by decide)) rfl rfl rfl rfl (Nat.le_of_ble_eq_true rfl) ?_
  refine WPM.of pX7 (Nat.le_of_ble_eq_true rfl) rfl ?_
  refine wp_aload_n dX7_kind_0 rfl ?_
  refine wp_geti (nI a) dX7_kind_1 fX7_57 (Or.inl rfl) (ka hF 279 (by decide)) ha ?_
  refine wp_aload_n dX7_kind_4 rfl ?_
  refine wp_geti (nI n) dX7_kind_5 fX7_77 (Or.inl rfl) (ka hF 279 (by decide)) hn ?_
  refine wp_icmp_ge 23 dX7_kind_8 (by decide) (fun q => absurd (nlt_ (a := a) (b := n) han (by omega)) q) (fun _ => ?_)
  refine wp_aload_n dX7_kind_11 rfl ?_
  refine wp_getr (gB G + 290) dX7_kind_12 fX7_26 (ka hF 279 (by decide)) (hF.2 _ _) (rra 11 (isK_le (ka hF 279 (by decide))) (fun _ => rfl)) ?_
  refine wp_aload_n dX7_kind_15 rfl ?_
  refine wp_geti (nI a) dX7_kind_16 fX7_57 (Or.inl rfl) (ka hF 279 (by decide)) ha ?_
  refine wp_ialdk (n := 501) a (nI k) dX7_kind_19 (ka hF 290 (by decide)) (la 290) (vin (by omega) (by decide)) (nIc (by omega)) hk ?_
  refine wp_goto 24 dX7_kind_20 (by decide) ?_
  refine wp_iret dX7_kind_24 rfl ?_
  show WP G (d + 80) (0, 0) μX7_readTest 166 [.ref (gB G + 279), .int (nI q), .int (1 : Int32), .int (1 : Int32), lvU, .int (nI i), lvU, lvU] [.int (nI k)] m _
  refine wp_sipush (203 : Int32) dX7_readTest_166 (by decide) ?_
  refine wp_icmp_eq 182 dX7_readTest_169 (by decide) (fun q1 => ?_) (fun q2 => ?_)
  · have hp3 : k = 203 := (neq q1 (by omega) (by omega))
    refine wp_iconst (1 : Int32) dX7_readTest_182 (by decide) ?_
    refine wp_goto 187 dX7_readTest_183 (by decide) ?_
    refine wp_istore dX7_readTest_187 (by decide) rfl ?_
    refine wp_iload dX7_readTest_189 rfl ?_
    refine wp_if_eq 206 dX7_readTest_191 (by decide) (fun q => absurd q (by decide)) (fun _ => ?_)
    refine wp_aload_n dX7_readTest_194 rfl ?_
    refine wp_getr (gB G + 281) dX7_readTest_195 fX7_22 (ka hF 279 (by decide)) (hF.2 _ _) (rra 2 (isK_le (ka hF 279 (by decide))) (fun _ => rfl)) ?_
    refine wp_aload_n dX7_readTest_198 rfl ?_
    refine wp_callV (As := []) (S := [.ref (gB G + 281)]) (b' := (0, 0)) (b := (0, 0)) dX7_readTest_199 MX7_60 (ka hF 279 (by decide)) rfl rfl rfl rfl (Nat.le_of_ble_eq_true rfl) ?_
    refine WPM.of pX7 (Nat.le_of_ble_eq_true rfl) rfl ?_
    refine wp_aload_n dX7_kind_0 rfl ?_
    refine wp_geti (nI a) dX7_kind_1 fX7_57 (Or.inl rfl) (ka hF 279 (by decide)) ha ?_
    refine wp_aload_n dX7_kind_4 rfl ?_
    refine wp_geti (nI n) dX7_kind_5 fX7_77 (Or.inl rfl) (ka hF 279 (by decide)) hn ?_
    refine wp_icmp_ge 23 dX7_kind_8 (by decide) (fun q => absurd (nlt_ (a := a) (b := n) han (by omega)) q) (fun _ => ?_)
    refine wp_aload_n dX7_kind_11 rfl ?_
    refine wp_getr (gB G + 290) dX7_kind_12 fX7_26 (ka hF 279 (by decide)) (hF.2 _ _) (rra 11 (isK_le (ka hF 279 (by decide))) (fun _ => rfl)) ?_
    refine wp_aload_n dX7_kind_15 rfl ?_
    refine wp_geti (nI a) dX7_kind_16 fX7_57 (Or.inl rfl) (ka hF 279 (by decide)) ha ?_
    refine wp_ialdk (n := 501) a (nI k) dX7_kind_19 (ka hF 290 (by decide)) (la 290) (vin (by omega) (by decide)) (nIc (by omega)) hk ?_
    refine wp_goto 24 dX7_kind_20 (by decide) ?_
    refine wp_iret dX7_kind_24 rfl ?_
    show WP G (d + 80) (0, 0) μX7_readTest 202 [.ref (gB G + 279), .int (nI q), .int (1 : Int32), .int (1 : Int32), .int (1 : Int32), .int (nI i), lvU, lvU] [.int (nI k), .ref (gB G + 281)] m _
    refine wp_iconst (0 : Int32) dX7_readTest_202 (by decide) ?_
    refine wp_callV (As := [.int (nI k), .int (0 : Int32)]) (S := []) (b' := (0, 0)) (b := (0, 0)) dX7_readTest_203 MX7_142 (kr0 hF (isRr G)) rfl rfl rfl rfl (Nat.le_of_ble_eq_true rfl) ?_
    exact e1 hp3
  · have hp4 : ¬ k = 203 := (fun z => q2 (congrArg nI z))
    refine wp_aload_n dX7_readTest_172 rfl ?_
    refine wp_callV (As := []) (S := []) (b' := (0, 0)) (b := (0, 0)) dX7_readTest_173 MX7_60 (ka hF 279 (by decide)) rfl rfl rfl rfl (Nat.le_of_ble_eq_true rfl) ?_
    refine WPM.of pX7 (Nat.le_of_ble_eq_true rfl) rfl ?_
    refine wp_aload_n dX7_kind_0 rfl ?_
    refine wp_geti (nI a) dX7_kind_1 fX7_57 (Or.inl rfl) (ka hF 279 (by decide)) ha ?_
    refine wp_aload_n dX7_kind_4 rfl ?_
    refine wp_geti (nI n) dX7_kind_5 fX7_77 (Or.inl rfl) (ka hF 279 (by decide)) hn ?_
    refine wp_icmp_ge 23 dX7_kind_8 (by decide) (fun q => absurd (nlt_ (a := a) (b := n) han (by omega)) q) (fun _ => ?_)
    refine wp_aload_n dX7_kind_11 rfl ?_
    refine wp_getr (gB G + 290) dX7_kind_12 fX7_26 (ka hF 279 (by decide)) (hF.2 _ _) (rra 11 (isK_le (ka hF 279 (by decide))) (fun _ => rfl)) ?_
    refine wp_aload_n dX7_kind_15 rfl ?_
    refine wp_geti (nI a) dX7_kind_16 fX7_57 (Or.inl rfl) (ka hF 279 (by decide)) ha ?_
    refine wp_ialdk (n := 501) a (nI k) dX7_kind_19 (ka hF 290 (by decide)) (la 290) (vin (by omega) (by decide)) (nIc (by omega)) hk ?_
    refine wp_goto 24 dX7_kind_20 (by decide) ?_
    refine wp_iret dX7_kind_24 rfl ?_
    show WP G (d + 80) (0, 0) μX7_readTest 176 [.ref (gB G + 279), .int (nI q), .int (1 : Int32), .int (1 : Int32), lvU, .int (nI i), lvU, lvU] [.int (nI k)] m _
    refine wp_sipush (202 : Int32) dX7_readTest_176 (by decide) ?_
    refine wp_icmp_ne 186 dX7_readTest_179 (by decide) (fun q5 => ?_) (fun q6 => ?_)
    · have hp7 : ¬ k = 202 := (fun z => q5 (congrArg nI z))
      refine wp_iconst (0 : Int32) dX7_readTest_186 (by decide) ?_
      refine wp_istore dX7_readTest_187 (by decide) rfl ?_
      refine wp_iload dX7_readTest_189 rfl ?_
      refine wp_if_eq 206 dX7_readTest_191 (by decide) (fun _ => ?_) (fun q => absurd (by decide) q)
      refine wp_iinc (nI (i + 1)) dX7_readTest_206 rfl (by decide) (nadd (a := i) (b := 1) (by omega)) rfl ?_
      refine wp_goto 40 dX7_readTest_209 (by decide) ?_
      refine wp_forget [.ref (gB G + 279), .int (nI q), .int (1 : Int32), .int (1 : Int32), .int (0 : Int32), .int (nI (i + 1)), lvU, lvU] ⟨Or.inl rfl, Or.inl rfl, Or.inl rfl, Or.inl rfl, Or.inl rfl, Or.inl rfl, Or.inr rfl, Or.inr rfl, trivial⟩ ?_
      exact e2 hp4 hp7
    · have hp8 : k = 202 := (neq q6 (by omega) (by omega))
      refine wp_iconst (1 : Int32) dX7_readTest_182 (by decide) ?_
      refine wp_goto 187 dX7_readTest_183 (by decide) ?_
      refine wp_istore dX7_readTest_187 (by decide) rfl ?_
      refine wp_iload dX7_readTest_189 rfl ?_
      refine wp_if_eq 206 dX7_readTest_191 (by decide) (fun q => absurd q (by decide)) (fun _ => ?_)
      refine wp_aload_n dX7_readTest_194 rfl ?_
      refine wp_getr (gB G + 281) dX7_readTest_195 fX7_22 (ka hF 279 (by decide)) (hF.2 _ _) (rra 2 (isK_le (ka hF 279 (by decide))) (fun _ => rfl)) ?_
      refine wp_aload_n dX7_readTest_198 rfl ?_
      refine wp_callV (As := []) (S := [.ref (gB G + 281)]) (b' := (0, 0)) (b := (0, 0)) dX7_readTest_199 MX7_60 (ka hF 279 (by decide)) rfl rfl rfl rfl (Nat.le_of_ble_eq_true rfl) ?_
      refine WPM.of pX7 (Nat.le_of_ble_eq_true rfl) rfl ?_
      refine wp_aload_n dX7_kind_0 rfl ?_
      refine wp_geti (nI a) dX7_kind_1 fX7_57 (Or.inl rfl) (ka hF 279 (by decide)) ha ?_
      refine wp_aload_n dX7_kind_4 rfl ?_
      refine wp_geti (nI n) dX7_kind_5 fX7_77 (Or.inl rfl) (ka hF 279 (by decide)) hn ?_
      refine wp_icmp_ge 23 dX7_kind_8 (by decide) (fun q => absurd (nlt_ (a := a) (b := n) han (by omega)) q) (fun _ => ?_)
      refine wp_aload_n dX7_kind_11 rfl ?_
      refine wp_getr (gB G + 290) dX7_kind_12 fX7_26 (ka hF 279 (by decide)) (hF.2 _ _) (rra 11 (isK_le (ka hF 279 (by decide))) (fun _ => rfl)) ?_
      refine wp_aload_n dX7_kind_15 rfl ?_
      refine wp_geti (nI a) dX7_kind_16 fX7_57 (Or.inl rfl) (ka hF 279 (by decide)) ha ?_
      refine wp_ialdk (n := 501) a (nI k) dX7_kind_19 (ka hF 290 (by decide)) (la 290) (vin (by omega) (by decide)) (nIc (by omega)) hk ?_
      refine wp_goto 24 dX7_kind_20 (by decide) ?_
      refine wp_iret dX7_kind_24 rfl ?_
      show WP G (d + 80) (0, 0) μX7_readTest 202 [.ref (gB G + 279), .int (nI q), .int (1 : Int32), .int (1 : Int32), .int (1 : Int32), .int (nI i), lvU, lvU] [.int (nI k), .ref (gB G + 281)] m _
      refine wp_iconst (0 : Int32) dX7_readTest_202 (by decide) ?_
      refine wp_callV (As := [.int (nI k), .int (0 : Int32)]) (S := []) (b' := (0, 0)) (b := (0, 0)) dX7_readTest_203 MX7_142 (kr0 hF (isRr G)) rfl rfl rfl rfl (Nat.le_of_ble_eq_true rfl) ?_
      exact e3 hp4 hp8

theorem tI1 {G : Cx} {d : Nat} {m : Mm} {Q : Option Value → Mm → Prop} {q i : Nat} (hF : Full G m) (hi : i < 500) 
    (e1 : WP G (d + 80) (0, 0) μX7_readTest 40 [.ref (gB G + 279), .int (nI q), .int (1 : Int32), .int (1 : Int32), .int (1 : Int32), .int (nI (i + 1)), lvU, lvU] [] m Q) :
    WP G (d + 80) (0, 0) μX7_readTest 206 [.ref (gB G + 279), .int (nI q), .int (1 : Int32), .int (1 : Int32), .int (1 : Int32), .int (nI i), lvU, lvU] [] m Q := by
  refine wp_iinc (nI (i + 1)) dX7_readTest_206 rfl (by decide) (nadd (a := i) (b := 1) (by omega)) rfl ?_
  refine wp_goto 40 dX7_readTest_209 (by decide) ?_
  refine wp_forget [.ref (gB G + 279), .int (nI q), .int (1 : Int32), .int (1 : Int32), .int (1 : Int32), .int (nI (i + 1)), lvU, lvU] ⟨Or.inl rfl, Or.inl rfl, Or.inl rfl, Or.inl rfl, Or.inl rfl, Or.inl rfl, Or.inr rfl, Or.inr rfl, trivial⟩ ?_
  exact e1

theorem tJ11 {G : Cx} {d : Nat} {m : Mm} {Q : Option Value → Mm → Prop} {q s : Nat} (hF : Full G m) (hq : q < 12) (hs : fi m 807 (gB G + 281) = nI s) (hs5 : s ≤ 500) 
    (e1 : WPM G (d + 79) (0, 0) μX7_take [.ref (gB G + 279), .int (58 : Int32)] (wai m ((gB G + 281) + 4) q (nI s)) (fun r' m' => WP G (d + 80) (0, 0) μX7_readTest 242 [lvU, lvU, lvU, lvU, lvU, lvU, lvU, lvU] (r'.toList ++ []) m' Q)) :
    WP G (d + 80) (0, 0) μX7_readTest 212 [.ref (gB G + 279), .int (nI q), .int (1 : Int32), .int (1 : Int32), lvU, lvU, lvU, lvU] [] m Q := by
  refine wp_aload_n dX7_readTest_212 rfl ?_
  refine wp_getr (gB G + 281) dX7_readTest_213 fX7_22 (ka hF 279 (by decide)) (hF.2 _ _) (rra 2 (isK_le (ka hF 279 (by decide))) (fun _ => rfl)) ?_
  refine wp_getr ((gB G + 281) + 4) dX7_readTest_216 fX7_146 (kr0 hF (isRr G)) (hF.2 _ _) (rra 4 (isK_le (kr0 hF (isRr G))) (fun _ => rfl)) ?_
  refine wp_iload_n dX7_readTest_219 rfl ?_
  refine wp_aload_n dX7_readTest_220 rfl ?_
  refine wp_getr (gB G + 281) dX7_readTest_221 fX7_22 (ka hF 279 (by decide)) (hF.2 _ _) (rra 2 (isK_le (ka hF 279 (by decide))) (fun _ => rfl)) ?_
  refine wp_geti (nI s) dX7_readTest_224 fX7_48 (Or.inl rfl) (kr0 hF (isRr G)) hs ?_
  refine wp_iastk (n := 12) q dX7_readTest_227 (kr hF (isRr G) 4 (by decide)) (lr (isRr G) 4 (by decide) (by decide)) (vin (by omega) (by decide))  (nIc (by omega)) ?_
  have hF1 := Full_wai ((gB G + 281) + 4) q (nI s) hF
  refine wp_iload_n dX7_readTest_228 rfl ?_
  refine wp_if_eq 249 dX7_readTest_229 (by decide) (fun q => absurd q (by decide)) (fun _ => ?_)
  refine wp_iload_n dX7_readTest_232 rfl ?_
  refine wp_if_eq 245 dX7_readTest_233 (by decide) (fun q => absurd q (by decide)) (fun _ => ?_)
  refine wp_aload_n dX7_readTest_236 rfl ?_
  refine wp_bipush (58 : Int32) dX7_readTest_237 (by decide) ?_
  refine wp_forget [lvU, lvU, lvU, lvU, lvU, lvU, lvU, lvU] ⟨Or.inr rfl, Or.inr rfl, Or.inr rfl, Or.inr rfl, Or.inr rfl, Or.inr rfl, Or.inr rfl, Or.inr rfl, trivial⟩ ?_
  refine wp_callV (As := [.int (58 : Int32)]) (S := []) (b' := (0, 0)) (b := (0, 0)) dX7_readTest_239 MX7_71 (ka hF1 279 (by decide)) rfl rfl rfl rfl (Nat.le_of_ble_eq_true rfl) ?_
  exact e1

theorem tK0 {G : Cx} {d : Nat} {m : Mm} {Q : Option Value → Mm → Prop}  (hF : Full G m) 
    (e1 : Q (some (.int (0 : Int32))) m) :
    WP G (d + 80) (0, 0) μX7_readTest 242 [lvU, lvU, lvU, lvU, lvU, lvU, lvU, lvU] [.int (0 : Int32)] m Q := by
  refine wp_if_eq 249 dX7_readTest_242 (by decide) (fun _ => ?_) (fun q => absurd (by decide) q)
  refine wp_iconst (0 : Int32) dX7_readTest_249 (by decide) ?_
  exact wp_zret dX7_readTest_250 rfl rfl (e1)

theorem tK1 {G : Cx} {d : Nat} {m : Mm} {Q : Option Value → Mm → Prop}  (hF : Full G m) 
    (e1 : Q (some (.int (1 : Int32))) m) :
    WP G (d + 80) (0, 0) μX7_readTest 242 [lvU, lvU, lvU, lvU, lvU, lvU, lvU, lvU] [.int (1 : Int32)] m Q := by
  refine wp_if_eq 249 dX7_readTest_242 (by decide) (fun q => absurd q (by decide)) (fun _ => ?_)
  refine wp_iconst (1 : Int32) dX7_readTest_245 (by decide) ?_
  refine wp_goto 250 dX7_readTest_246 (by decide) ?_
  exact wp_zret dX7_readTest_250 rfl rfl (e1)

theorem tJ01 {G : Cx} {d : Nat} {m : Mm} {Q : Option Value → Mm → Prop} {q s : Nat} (hF : Full G m) (hq : q < 12) (hs : fi m 807 (gB G + 281) = nI s) (hs5 : s ≤ 500) 
    (e1 : Q (some (.int (1 : Int32))) (wai m ((gB G + 281) + 4) q (nI s))) :
    WP G (d + 80) (0, 0) μX7_readTest 212 [.ref (gB G + 279), .int (nI q), .int (0 : Int32), .int (1 : Int32), lvU, lvU, lvU, lvU] [] m Q := by
  refine wp_aload_n dX7_readTest_212 rfl ?_
  refine wp_getr (gB G + 281) dX7_readTest_213 fX7_22 (ka hF 279 (by decide)) (hF.2 _ _) (rra 2 (isK_le (ka hF 279 (by decide))) (fun _ => rfl)) ?_
  refine wp_getr ((gB G + 281) + 4) dX7_readTest_216 fX7_146 (kr0 hF (isRr G)) (hF.2 _ _) (rra 4 (isK_le (kr0 hF (isRr G))) (fun _ => rfl)) ?_
  refine wp_iload_n dX7_readTest_219 rfl ?_
  refine wp_aload_n dX7_readTest_220 rfl ?_
  refine wp_getr (gB G + 281) dX7_readTest_221 fX7_22 (ka hF 279 (by decide)) (hF.2 _ _) (rra 2 (isK_le (ka hF 279 (by decide))) (fun _ => rfl)) ?_
  refine wp_geti (nI s) dX7_readTest_224 fX7_48 (Or.inl rfl) (kr0 hF (isRr G)) hs ?_
  refine wp_iastk (n := 12) q dX7_readTest_227 (kr hF (isRr G) 4 (by decide)) (lr (isRr G) 4 (by decide) (by decide)) (vin (by omega) (by decide))  (nIc (by omega)) ?_
  have hF1 := Full_wai ((gB G + 281) + 4) q (nI s) hF
  refine wp_iload_n dX7_readTest_228 rfl ?_
  refine wp_if_eq 249 dX7_readTest_229 (by decide) (fun q => absurd q (by decide)) (fun _ => ?_)
  refine wp_iload_n dX7_readTest_232 rfl ?_
  refine wp_if_eq 245 dX7_readTest_233 (by decide) (fun _ => ?_) (fun q => absurd (by decide) q)
  refine wp_iconst (1 : Int32) dX7_readTest_245 (by decide) ?_
  refine wp_goto 250 dX7_readTest_246 (by decide) ?_
  exact wp_zret dX7_readTest_250 rfl rfl (e1)

theorem tJ10 {G : Cx} {d : Nat} {m : Mm} {Q : Option Value → Mm → Prop} {q s : Nat} (hF : Full G m) (hq : q < 12) (hs : fi m 807 (gB G + 281) = nI s) (hs5 : s ≤ 500) 
    (e1 : Q (some (.int (0 : Int32))) (wai m ((gB G + 281) + 4) q (nI s))) :
    WP G (d + 80) (0, 0) μX7_readTest 212 [.ref (gB G + 279), .int (nI q), .int (1 : Int32), .int (0 : Int32), lvU, lvU, lvU, lvU] [] m Q := by
  refine wp_aload_n dX7_readTest_212 rfl ?_
  refine wp_getr (gB G + 281) dX7_readTest_213 fX7_22 (ka hF 279 (by decide)) (hF.2 _ _) (rra 2 (isK_le (ka hF 279 (by decide))) (fun _ => rfl)) ?_
  refine wp_getr ((gB G + 281) + 4) dX7_readTest_216 fX7_146 (kr0 hF (isRr G)) (hF.2 _ _) (rra 4 (isK_le (kr0 hF (isRr G))) (fun _ => rfl)) ?_
  refine wp_iload_n dX7_readTest_219 rfl ?_
  refine wp_aload_n dX7_readTest_220 rfl ?_
  refine wp_getr (gB G + 281) dX7_readTest_221 fX7_22 (ka hF 279 (by decide)) (hF.2 _ _) (rra 2 (isK_le (ka hF 279 (by decide))) (fun _ => rfl)) ?_
  refine wp_geti (nI s) dX7_readTest_224 fX7_48 (Or.inl rfl) (kr0 hF (isRr G)) hs ?_
  refine wp_iastk (n := 12) q dX7_readTest_227 (kr hF (isRr G) 4 (by decide)) (lr (isRr G) 4 (by decide) (by decide)) (vin (by omega) (by decide))  (nIc (by omega)) ?_
  have hF1 := Full_wai ((gB G + 281) + 4) q (nI s) hF
  refine wp_iload_n dX7_readTest_228 rfl ?_
  refine wp_if_eq 249 dX7_readTest_229 (by decide) (fun _ => ?_) (fun q => absurd (by decide) q)
  refine wp_iconst (0 : Int32) dX7_readTest_249 (by decide) ?_
  exact wp_zret dX7_readTest_250 rfl rfl (e1)

theorem aAx {G : Cx} {d : Nat} {m : Mm} {Q : Option Value → Mm → Prop} {a n k st q : Nat} (hF : Full G m) (hq : q < 12) (ha : fi m 709 (gB G + 279) = nI a) (hn : fi m 708 (gB G + 279) = nI n) (han : a < n) (hn5 : n ≤ 501) (hk : ai m (gB G + 290) a = nI k) (hk9 : k < 1000) (hst : ai m (gB G + 291) a = nI st) (h1 : ¬ k = 212) (h2 : ¬ k = 213) (h3 : ¬ k = 214) 
    (e1 : Q (some (.int (0 : Int32))) (wfi (wfi m 702 (gB G + 279) (1 : Int32)) 703 (gB G + 279) (nI st))) :
    WPM G (d + 80) (0, 0) μX7_readAction [.ref (gB G + 279), .int (nI q)] m Q := by
  refine WPM.of pX7 (Nat.le_of_ble_eq_true rfl) rfl ?_
  refine wp_aload_n dX7_readAction_0 rfl ?_
  refine wp_callV (As := []) (S := []) (b' := (0, 0)) (b := (0, 0)) dX7_readAction_1 MX7_60 (ka hF 279 (by decide)) rfl rfl rfl rfl (Nat.le_of_ble_eq_true rfl) ?_
  refine WPM.of pX7 (Nat.le_of_ble_eq_true rfl) rfl ?_
  refine wp_aload_n dX7_kind_0 rfl ?_
  refine wp_geti (nI a) dX7_kind_1 fX7_57 (Or.inl rfl) (ka hF 279 (by decide)) ha ?_
  refine wp_aload_n dX7_kind_4 rfl ?_
  refine wp_geti (nI n) dX7_kind_5 fX7_77 (Or.inl rfl) (ka hF 279 (by decide)) hn ?_
  refine wp_icmp_ge 23 dX7_kind_8 (by decide) (fun q => absurd (nlt_ (a := a) (b := n) han (by omega)) q) (fun _ => ?_)
  refine wp_aload_n dX7_kind_11 rfl ?_
  refine wp_getr (gB G + 290) dX7_kind_12 fX7_26 (ka hF 279 (by decide)) (hF.2 _ _) (rra 11 (isK_le (ka hF 279 (by decide))) (fun _ => rfl)) ?_
  refine wp_aload_n dX7_kind_15 rfl ?_
  refine wp_geti (nI a) dX7_kind_16 fX7_57 (Or.inl rfl) (ka hF 279 (by decide)) ha ?_
  refine wp_ialdk (n := 501) a (nI k) dX7_kind_19 (ka hF 290 (by decide)) (la 290) (vin (by omega) (by decide)) (nIc (by omega)) hk ?_
  refine wp_goto 24 dX7_kind_20 (by decide) ?_
  refine wp_iret dX7_kind_24 rfl ?_
  show WP G (d + 80) (0, 0) μX7_readAction 4 [.ref (gB G + 279), .int (nI q), lvU, lvU] [.int (nI k)] m _
  refine wp_istore_n dX7_readAction_4 (by decide) rfl ?_
  refine wp_iload_n dX7_readAction_5 rfl ?_
  refine wp_sipush (212 : Int32) dX7_readAction_6 (by decide) ?_
  refine wp_icmp_eq 32 dX7_readAction_9 (by decide) (fun q => absurd q (fun z => h1 (neq z (by omega) (by omega)))) (fun _ => ?_)
  refine wp_iload_n dX7_readAction_12 rfl ?_
  refine wp_sipush (213 : Int32) dX7_readAction_13 (by decide) ?_
  refine wp_icmp_eq 32 dX7_readAction_16 (by decide) (fun q => absurd q (fun z => h2 (neq z (by omega) (by omega)))) (fun _ => ?_)
  refine wp_iload_n dX7_readAction_19 rfl ?_
  refine wp_sipush (214 : Int32) dX7_readAction_20 (by decide) ?_
  refine wp_icmp_eq 32 dX7_readAction_23 (by decide) (fun q => absurd q (fun z => h3 (neq z (by omega) (by omega)))) (fun _ => ?_)
  refine wp_aload_n dX7_readAction_26 rfl ?_
  refine wp_iconst (1 : Int32) dX7_readAction_27 (by decide) ?_
  refine wp_callV (As := [.int (1 : Int32)]) (S := []) (b' := (0, 0)) (b := (0, 0)) dX7_readAction_28 MX7_74 (ka hF 279 (by decide)) rfl rfl rfl rfl (Nat.le_of_ble_eq_true rfl) ?_
  refine WPM.of pX7 (Nat.le_of_ble_eq_true rfl) rfl ?_
  refine wp_aload_n dX7_fail_0 rfl ?_
  refine wp_iload_n dX7_fail_1 rfl ?_
  refine wp_puti dX7_fail_2 pX7_45 (ka hF 279 (by decide)) ?_
  have hF1 := Full_wfi 702 (gB G + 279) (1 : Int32) hF
  refine wp_aload_n dX7_fail_5 rfl ?_
  refine wp_aload_n dX7_fail_6 rfl ?_
  refine wp_geti (nI a) dX7_fail_7 fX7_57 (Or.inl rfl) (ka hF1 279 (by decide)) ((fi_ne (by decide)).trans ha) ?_
  refine wp_aload_n dX7_fail_10 rfl ?_
  refine wp_geti (nI n) dX7_fail_11 fX7_77 (Or.inl rfl) (ka hF1 279 (by decide)) ((fi_ne (by decide)).trans hn) ?_
  refine wp_icmp_ge 29 dX7_fail_14 (by decide) (fun q => absurd (nlt_ (a := a) (b := n) han (by omega)) q) (fun _ => ?_)
  refine wp_aload_n dX7_fail_17 rfl ?_
  refine wp_getr (gB G + 291) dX7_fail_18 fX7_30 (ka hF1 279 (by decide)) (hF1.2 _ _) (rra 12 (isK_le (ka hF1 279 (by decide))) (fun _ => rfl)) ?_
  refine wp_aload_n dX7_fail_21 rfl ?_
  refine wp_geti (nI a) dX7_fail_22 fX7_57 (Or.inl rfl) (ka hF1 279 (by decide)) ((fi_ne (by decide)).trans ha) ?_
  refine wp_ialdk (n := 501) a (nI st) dX7_fail_25 (ka hF1 291 (by decide)) (la 291) (vin (by omega) (by decide)) (nIc (by omega)) (ai_wfi.trans hst) ?_
  refine wp_goto 33 dX7_fail_26 (by decide) ?_
  refine wp_puti dX7_fail_33 pX7_15 (ka hF1 279 (by decide)) ?_
  have hF2 := Full_wfi 703 (gB G + 279) (nI st) hF1
  refine wp_iconst (0 : Int32) dX7_fail_36 (by decide) ?_
  refine wp_zret dX7_fail_37 rfl rfl ?_
  show WP G (d + 80) (0, 0) μX7_readAction 31 [.ref (gB G + 279), .int (nI q), .int (nI k), lvU] [.int (0 : Int32)] (wfi (wfi m 702 (gB G + 279) (1 : Int32)) 703 (gB G + 279) (nI st)) _
  exact wp_zret dX7_readAction_31 rfl rfl (e1)

theorem aA212 {G : Cx} {d : Nat} {m : Mm} {Q : Option Value → Mm → Prop} {a n c q : Nat} (hF : Full G m) (hq : q < 12) (ha : fi m 709 (gB G + 279) = nI a) (hn : fi m 708 (gB G + 279) = nI n) (han : a < n) (hn5 : n ≤ 501) (hk : ai m (gB G + 290) a = (212 : Int32)) (hc : fi m 712 (gB G + 279) = nI c) 
    (e1 : WPM G (d + 79) (0, 0) μX7_takeNumber [.ref (gB G + 279), .int (nI c)] (wfi m 709 (gB G + 279) (nI (a + 1))) (fun r' m' => WP G (d + 80) (0, 0) μX7_readAction 78 [.ref (gB G + 279), .int (nI q), .int (212 : Int32), lvU] (r'.toList ++ []) m' Q)) :
    WPM G (d + 80) (0, 0) μX7_readAction [.ref (gB G + 279), .int (nI q)] m Q := by
  refine WPM.of pX7 (Nat.le_of_ble_eq_true rfl) rfl ?_
  refine wp_aload_n dX7_readAction_0 rfl ?_
  refine wp_callV (As := []) (S := []) (b' := (0, 0)) (b := (0, 0)) dX7_readAction_1 MX7_60 (ka hF 279 (by decide)) rfl rfl rfl rfl (Nat.le_of_ble_eq_true rfl) ?_
  refine WPM.of pX7 (Nat.le_of_ble_eq_true rfl) rfl ?_
  refine wp_aload_n dX7_kind_0 rfl ?_
  refine wp_geti (nI a) dX7_kind_1 fX7_57 (Or.inl rfl) (ka hF 279 (by decide)) ha ?_
  refine wp_aload_n dX7_kind_4 rfl ?_
  refine wp_geti (nI n) dX7_kind_5 fX7_77 (Or.inl rfl) (ka hF 279 (by decide)) hn ?_
  refine wp_icmp_ge 23 dX7_kind_8 (by decide) (fun q => absurd (nlt_ (a := a) (b := n) han (by omega)) q) (fun _ => ?_)
  refine wp_aload_n dX7_kind_11 rfl ?_
  refine wp_getr (gB G + 290) dX7_kind_12 fX7_26 (ka hF 279 (by decide)) (hF.2 _ _) (rra 11 (isK_le (ka hF 279 (by decide))) (fun _ => rfl)) ?_
  refine wp_aload_n dX7_kind_15 rfl ?_
  refine wp_geti (nI a) dX7_kind_16 fX7_57 (Or.inl rfl) (ka hF 279 (by decide)) ha ?_
  refine wp_ialdk (n := 501) a (212 : Int32) dX7_kind_19 (ka hF 290 (by decide)) (la 290) (vin (by omega) (by decide)) (nIc (by omega)) hk ?_
  refine wp_goto 24 dX7_kind_20 (by decide) ?_
  refine wp_iret dX7_kind_24 rfl ?_
  show WP G (d + 80) (0, 0) μX7_readAction 4 [.ref (gB G + 279), .int (nI q), lvU, lvU] [.int (212 : Int32)] m _
  refine wp_istore_n dX7_readAction_4 (by decide) rfl ?_
  refine wp_iload_n dX7_readAction_5 rfl ?_
  refine wp_sipush (212 : Int32) dX7_readAction_6 (by decide) ?_
  refine wp_icmp_eq 32 dX7_readAction_9 (by decide) (fun _ => ?_) (fun q => absurd (by decide) q)
  refine wp_aload_n dX7_readAction_32 rfl ?_
  refine wp_dup dX7_readAction_33 rfl ?_
  refine wp_geti (nI a) dX7_readAction_34 fX7_57 (Or.inl rfl) (ka hF 279 (by decide)) ha ?_
  refine wp_iconst (1 : Int32) dX7_readAction_37 (by decide) ?_
  refine wp_iaddv (nI (a + 1)) dX7_readAction_38 (nadd (a := a) (b := 1) (by omega)) ?_
  refine wp_puti dX7_readAction_39 pX7_57 (ka hF 279 (by decide)) ?_
  have hF1 := Full_wfi 709 (gB G + 279) (nI (a + 1)) hF
  refine wp_aload_n dX7_readAction_42 rfl ?_
  refine wp_iload_n dX7_readAction_43 rfl ?_
  refine wp_sipush (212 : Int32) dX7_readAction_44 (by decide) ?_
  refine wp_icmp_ne 57 dX7_readAction_47 (by decide) (fun q => absurd (by decide) q) (fun _ => ?_)
  refine wp_aload_n dX7_readAction_50 rfl ?_
  refine wp_geti (nI c) dX7_readAction_51 fX7_42 (Or.inl rfl) (ka hF1 279 (by decide)) ((fi_ne (by decide)).trans hc) ?_
  refine wp_goto 75 dX7_readAction_54 (by decide) ?_
  refine wp_callV (As := [.int (nI c)]) (S := []) (b' := (0, 0)) (b := (0, 0)) dX7_readAction_75 MX7_158 (ka hF1 279 (by decide)) rfl rfl rfl rfl (Nat.le_of_ble_eq_true rfl) ?_
  exact e1

theorem aB2120 {G : Cx} {d : Nat} {m : Mm} {Q : Option Value → Mm → Prop} {q : Nat} (hF : Full G m) 
    (e1 : Q (some (.int (0 : Int32))) m) :
    WP G (d + 80) (0, 0) μX7_readAction 78 [.ref (gB G + 279), .int (nI q), .int (212 : Int32), lvU] [.int (0 : Int32)] m Q := by
  refine wp_if_ne 83 dX7_readAction_78 (by decide) (fun q => absurd (by decide) q) (fun _ => ?_)
  refine wp_iconst (0 : Int32) dX7_readAction_81 (by decide) ?_
  exact wp_zret dX7_readAction_82 rfl rfl (e1)

theorem aB2121 {G : Cx} {d : Nat} {m : Mm} {Q : Option Value → Mm → Prop} {a n k v q : Nat} (hF : Full G m) (hq : q < 12) (ha : fi m 709 (gB G + 279) = nI a) (hn : fi m 708 (gB G + 279) = nI n) (han : a < n) (hn5 : n ≤ 501) (hk : ai m (gB G + 290) a = nI k) (hk9 : k < 1000) (hv : fi m 713 (gB G + 279) = nI v) 
    (e1 : WPM G (d + 79) (0, 0) μX7_takeWord [.ref (gB G + 279), .int (215 : Int32), .int (217 : Int32)] (wai (wai m ((gB G + 281) + 7) q (nI v)) ((gB G + 281) + 6) q (nI k)) (fun r' m' => WP G (d + 80) (0, 0) μX7_readAction 171 [.ref (gB G + 279), .int (nI q), lvU, lvU] (r'.toList ++ []) m' Q)) :
    WP G (d + 80) (0, 0) μX7_readAction 78 [.ref (gB G + 279), .int (nI q), .int (212 : Int32), lvU] [.int (1 : Int32)] m Q := by
  refine wp_if_ne 83 dX7_readAction_78 (by decide) (fun _ => ?_) (fun q => absurd q (by decide))
  refine wp_aload_n dX7_readAction_83 rfl ?_
  refine wp_getr (gB G + 281) dX7_readAction_84 fX7_22 (ka hF 279 (by decide)) (hF.2 _ _) (rra 2 (isK_le (ka hF 279 (by decide))) (fun _ => rfl)) ?_
  refine wp_getr ((gB G + 281) + 7) dX7_readAction_87 fX7_161 (kr0 hF (isRr G)) (hF.2 _ _) (rra 7 (isK_le (kr0 hF (isRr G))) (fun _ => rfl)) ?_
  refine wp_iload_n dX7_readAction_90 rfl ?_
  refine wp_aload_n dX7_readAction_91 rfl ?_
  refine wp_geti (nI v) dX7_readAction_92 fX7_155 (Or.inl rfl) (ka hF 279 (by decide)) hv ?_
  refine wp_iastk (n := 12) q dX7_readAction_95 (kr hF (isRr G) 7 (by decide)) (lr (isRr G) 7 (by decide) (by decide)) (vin (by omega) (by decide))  (nIc (by omega)) ?_
  have hF1 := Full_wai ((gB G + 281) + 7) q (nI v) hF
  refine wp_iload_n dX7_readAction_96 rfl ?_
  refine wp_sipush (214 : Int32) dX7_readAction_97 (by decide) ?_
  refine wp_icmp_ne 141 dX7_readAction_100 (by decide) (fun _ => ?_) (fun q => absurd q (by decide))
  refine wp_aload_n dX7_readAction_141 rfl ?_
  refine wp_getr (gB G + 281) dX7_readAction_142 fX7_22 (ka hF1 279 (by decide)) (hF1.2 _ _) (rra 2 (isK_le (ka hF1 279 (by decide))) (fun _ => rfl)) ?_
  refine wp_getr ((gB G + 281) + 6) dX7_readAction_145 fX7_164 (kr0 hF1 (isRr G)) (hF1.2 _ _) (rra 6 (isK_le (kr0 hF1 (isRr G))) (fun _ => rfl)) ?_
  refine wp_iload_n dX7_readAction_148 rfl ?_
  refine wp_aload_n dX7_readAction_149 rfl ?_
  refine wp_callV (As := []) (S := [.int (nI q), .ref ((gB G + 281) + 6)]) (b' := (0, 0)) (b := (0, 0)) dX7_readAction_150 MX7_60 (ka hF1 279 (by decide)) rfl rfl rfl rfl (Nat.le_of_ble_eq_true rfl) ?_
  refine WPM.of pX7 (Nat.le_of_ble_eq_true rfl) rfl ?_
  refine wp_aload_n dX7_kind_0 rfl ?_
  refine wp_geti (nI a) dX7_kind_1 fX7_57 (Or.inl rfl) (ka hF1 279 (by decide)) (fi_wai.trans ha) ?_
  refine wp_aload_n dX7_kind_4 rfl ?_
  refine wp_geti (nI n) dX7_kind_5 fX7_77 (Or.inl rfl) (ka hF1 279 (by decide)) (fi_wai.trans hn) ?_
  refine wp_icmp_ge 23 dX7_kind_8 (by decide) (fun q => absurd (nlt_ (a := a) (b := n) han (by omega)) q) (fun _ => ?_)
  refine wp_aload_n dX7_kind_11 rfl ?_
  refine wp_getr (gB G + 290) dX7_kind_12 fX7_26 (ka hF1 279 (by decide)) (hF1.2 _ _) (rra 11 (isK_le (ka hF1 279 (by decide))) (fun _ => rfl)) ?_
  refine wp_aload_n dX7_kind_15 rfl ?_
  refine wp_geti (nI a) dX7_kind_16 fX7_57 (Or.inl rfl) (ka hF1 279 (by decide)) (fi_wai.trans ha) ?_
  refine wp_ialdk (n := 501) a (nI k) dX7_kind_19 (ka hF1 290 (by decide)) (la 290) (vin (by omega) (by decide)) (nIc (by omega)) ((ai_na (by omega)).trans hk) ?_
  refine wp_goto 24 dX7_kind_20 (by decide) ?_
  refine wp_iret dX7_kind_24 rfl ?_
  show WP G (d + 80) (0, 0) μX7_readAction 153 [.ref (gB G + 279), .int (nI q), .int (212 : Int32), lvU] [.int (nI k), .int (nI q), .ref ((gB G + 281) + 6)] (wai m ((gB G + 281) + 7) q (nI v)) _
  refine wp_iastk (n := 12) q dX7_readAction_153 (kr hF1 (isRr G) 6 (by decide)) (lr (isRr G) 6 (by decide) (by decide)) (vin (by omega) (by decide))  (nIc (by omega)) ?_
  have hF2 := Full_wai ((gB G + 281) + 6) q (nI k) hF1
  refine wp_iload_n dX7_readAction_154 rfl ?_
  refine wp_sipush (212 : Int32) dX7_readAction_155 (by decide) ?_
  refine wp_icmp_ne 174 dX7_readAction_158 (by decide) (fun q => absurd (by decide) q) (fun _ => ?_)
  refine wp_aload_n dX7_readAction_161 rfl ?_
  refine wp_sipush (215 : Int32) dX7_readAction_162 (by decide) ?_
  refine wp_sipush (217 : Int32) dX7_readAction_165 (by decide) ?_
  refine wp_forget [.ref (gB G + 279), .int (nI q), lvU, lvU] ⟨Or.inl rfl, Or.inl rfl, Or.inr rfl, Or.inr rfl, trivial⟩ ?_
  refine wp_callV (As := [.int (215 : Int32), .int (217 : Int32)]) (S := []) (b' := (0, 0)) (b := (0, 0)) dX7_readAction_168 MX7_167 (ka hF2 279 (by decide)) rfl rfl rfl rfl (Nat.le_of_ble_eq_true rfl) ?_
  exact e1

theorem aC2120 {G : Cx} {d : Nat} {m : Mm} {Q : Option Value → Mm → Prop} {s q : Nat} (hF : Full G m) (hq : q < 12) (hs : fi m 807 (gB G + 281) = nI s) (hs5 : s ≤ 500) 
    (e1 : Q (some (.int (0 : Int32))) (wai m ((gB G + 281) + 5) q (nI s))) :
    WP G (d + 80) (0, 0) μX7_readAction 171 [.ref (gB G + 279), .int (nI q), lvU, lvU] [.int (0 : Int32)] m Q := by
  refine wp_goto 184 dX7_readAction_171 (by decide) ?_
  refine wp_istore_n dX7_readAction_184 (by decide) rfl ?_
  refine wp_aload_n dX7_readAction_185 rfl ?_
  refine wp_getr (gB G + 281) dX7_readAction_186 fX7_22 (ka hF 279 (by decide)) (hF.2 _ _) (rra 2 (isK_le (ka hF 279 (by decide))) (fun _ => rfl)) ?_
  refine wp_getr ((gB G + 281) + 5) dX7_readAction_189 fX7_171 (kr0 hF (isRr G)) (hF.2 _ _) (rra 5 (isK_le (kr0 hF (isRr G))) (fun _ => rfl)) ?_
  refine wp_iload_n dX7_readAction_192 rfl ?_
  refine wp_aload_n dX7_readAction_193 rfl ?_
  refine wp_getr (gB G + 281) dX7_readAction_194 fX7_22 (ka hF 279 (by decide)) (hF.2 _ _) (rra 2 (isK_le (ka hF 279 (by decide))) (fun _ => rfl)) ?_
  refine wp_geti (nI s) dX7_readAction_197 fX7_48 (Or.inl rfl) (kr0 hF (isRr G)) hs ?_
  refine wp_iastk (n := 12) q dX7_readAction_200 (kr hF (isRr G) 5 (by decide)) (lr (isRr G) 5 (by decide) (by decide)) (vin (by omega) (by decide))  (nIc (by omega)) ?_
  have hF1 := Full_wai ((gB G + 281) + 5) q (nI s) hF
  refine wp_iload_n dX7_readAction_201 rfl ?_
  exact wp_zret dX7_readAction_202 rfl rfl (e1)

theorem aC2121 {G : Cx} {d : Nat} {m : Mm} {Q : Option Value → Mm → Prop} {s q : Nat} (hF : Full G m) (hq : q < 12) (hs : fi m 807 (gB G + 281) = nI s) (hs5 : s ≤ 500) 
    (e1 : Q (some (.int (1 : Int32))) (wai m ((gB G + 281) + 5) q (nI s))) :
    WP G (d + 80) (0, 0) μX7_readAction 171 [.ref (gB G + 279), .int (nI q), lvU, lvU] [.int (1 : Int32)] m Q := by
  refine wp_goto 184 dX7_readAction_171 (by decide) ?_
  refine wp_istore_n dX7_readAction_184 (by decide) rfl ?_
  refine wp_aload_n dX7_readAction_185 rfl ?_
  refine wp_getr (gB G + 281) dX7_readAction_186 fX7_22 (ka hF 279 (by decide)) (hF.2 _ _) (rra 2 (isK_le (ka hF 279 (by decide))) (fun _ => rfl)) ?_
  refine wp_getr ((gB G + 281) + 5) dX7_readAction_189 fX7_171 (kr0 hF (isRr G)) (hF.2 _ _) (rra 5 (isK_le (kr0 hF (isRr G))) (fun _ => rfl)) ?_
  refine wp_iload_n dX7_readAction_192 rfl ?_
  refine wp_aload_n dX7_readAction_193 rfl ?_
  refine wp_getr (gB G + 281) dX7_readAction_194 fX7_22 (ka hF 279 (by decide)) (hF.2 _ _) (rra 2 (isK_le (ka hF 279 (by decide))) (fun _ => rfl)) ?_
  refine wp_geti (nI s) dX7_readAction_197 fX7_48 (Or.inl rfl) (kr0 hF (isRr G)) hs ?_
  refine wp_iastk (n := 12) q dX7_readAction_200 (kr hF (isRr G) 5 (by decide)) (lr (isRr G) 5 (by decide) (by decide)) (vin (by omega) (by decide))  (nIc (by omega)) ?_
  have hF1 := Full_wai ((gB G + 281) + 5) q (nI s) hF
  refine wp_iload_n dX7_readAction_201 rfl ?_
  exact wp_zret dX7_readAction_202 rfl rfl (e1)

theorem aA213 {G : Cx} {d : Nat} {m : Mm} {Q : Option Value → Mm → Prop} {a n c q : Nat} (hF : Full G m) (hq : q < 12) (ha : fi m 709 (gB G + 279) = nI a) (hn : fi m 708 (gB G + 279) = nI n) (han : a < n) (hn5 : n ≤ 501) (hk : ai m (gB G + 290) a = (213 : Int32)) (hc : fi m 711 (gB G + 279) = nI c) 
    (e1 : WPM G (d + 79) (0, 0) μX7_takeNumber [.ref (gB G + 279), .int (nI c)] (wfi m 709 (gB G + 279) (nI (a + 1))) (fun r' m' => WP G (d + 80) (0, 0) μX7_readAction 78 [.ref (gB G + 279), .int (nI q), .int (213 : Int32), lvU] (r'.toList ++ []) m' Q)) :
    WPM G (d + 80) (0, 0) μX7_readAction [.ref (gB G + 279), .int (nI q)] m Q := by
  refine WPM.of pX7 (Nat.le_of_ble_eq_true rfl) rfl ?_
  refine wp_aload_n dX7_readAction_0 rfl ?_
  refine wp_callV (As := []) (S := []) (b' := (0, 0)) (b := (0, 0)) dX7_readAction_1 MX7_60 (ka hF 279 (by decide)) rfl rfl rfl rfl (Nat.le_of_ble_eq_true rfl) ?_
  refine WPM.of pX7 (Nat.le_of_ble_eq_true rfl) rfl ?_
  refine wp_aload_n dX7_kind_0 rfl ?_
  refine wp_geti (nI a) dX7_kind_1 fX7_57 (Or.inl rfl) (ka hF 279 (by decide)) ha ?_
  refine wp_aload_n dX7_kind_4 rfl ?_
  refine wp_geti (nI n) dX7_kind_5 fX7_77 (Or.inl rfl) (ka hF 279 (by decide)) hn ?_
  refine wp_icmp_ge 23 dX7_kind_8 (by decide) (fun q => absurd (nlt_ (a := a) (b := n) han (by omega)) q) (fun _ => ?_)
  refine wp_aload_n dX7_kind_11 rfl ?_
  refine wp_getr (gB G + 290) dX7_kind_12 fX7_26 (ka hF 279 (by decide)) (hF.2 _ _) (rra 11 (isK_le (ka hF 279 (by decide))) (fun _ => rfl)) ?_
  refine wp_aload_n dX7_kind_15 rfl ?_
  refine wp_geti (nI a) dX7_kind_16 fX7_57 (Or.inl rfl) (ka hF 279 (by decide)) ha ?_
  refine wp_ialdk (n := 501) a (213 : Int32) dX7_kind_19 (ka hF 290 (by decide)) (la 290) (vin (by omega) (by decide)) (nIc (by omega)) hk ?_
  refine wp_goto 24 dX7_kind_20 (by decide) ?_
  refine wp_iret dX7_kind_24 rfl ?_
  show WP G (d + 80) (0, 0) μX7_readAction 4 [.ref (gB G + 279), .int (nI q), lvU, lvU] [.int (213 : Int32)] m _
  refine wp_istore_n dX7_readAction_4 (by decide) rfl ?_
  refine wp_iload_n dX7_readAction_5 rfl ?_
  refine wp_sipush (212 : Int32) dX7_readAction_6 (by decide) ?_
  refine wp_icmp_eq 32 dX7_readAction_9 (by decide) (fun q => absurd q (by decide)) (fun _ => ?_)
  refine wp_iload_n dX7_readAction_12 rfl ?_
  refine wp_sipush (213 : Int32) dX7_readAction_13 (by decide) ?_
  refine wp_icmp_eq 32 dX7_readAction_16 (by decide) (fun _ => ?_) (fun q => absurd (by decide) q)
  refine wp_aload_n dX7_readAction_32 rfl ?_
  refine wp_dup dX7_readAction_33 rfl ?_
  refine wp_geti (nI a) dX7_readAction_34 fX7_57 (Or.inl rfl) (ka hF 279 (by decide)) ha ?_
  refine wp_iconst (1 : Int32) dX7_readAction_37 (by decide) ?_
  refine wp_iaddv (nI (a + 1)) dX7_readAction_38 (nadd (a := a) (b := 1) (by omega)) ?_
  refine wp_puti dX7_readAction_39 pX7_57 (ka hF 279 (by decide)) ?_
  have hF1 := Full_wfi 709 (gB G + 279) (nI (a + 1)) hF
  refine wp_aload_n dX7_readAction_42 rfl ?_
  refine wp_iload_n dX7_readAction_43 rfl ?_
  refine wp_sipush (212 : Int32) dX7_readAction_44 (by decide) ?_
  refine wp_icmp_ne 57 dX7_readAction_47 (by decide) (fun _ => ?_) (fun q => absurd q (by decide))
  refine wp_iload_n dX7_readAction_57 rfl ?_
  refine wp_sipush (213 : Int32) dX7_readAction_58 (by decide) ?_
  refine wp_icmp_ne 71 dX7_readAction_61 (by decide) (fun q => absurd (by decide) q) (fun _ => ?_)
  refine wp_aload_n dX7_readAction_64 rfl ?_
  refine wp_geti (nI c) dX7_readAction_65 fX7_39 (Or.inl rfl) (ka hF1 279 (by decide)) ((fi_ne (by decide)).trans hc) ?_
  refine wp_goto 75 dX7_readAction_68 (by decide) ?_
  refine wp_callV (As := [.int (nI c)]) (S := []) (b' := (0, 0)) (b := (0, 0)) dX7_readAction_75 MX7_158 (ka hF1 279 (by decide)) rfl rfl rfl rfl (Nat.le_of_ble_eq_true rfl) ?_
  exact e1

theorem aB2130 {G : Cx} {d : Nat} {m : Mm} {Q : Option Value → Mm → Prop} {q : Nat} (hF : Full G m) 
    (e1 : Q (some (.int (0 : Int32))) m) :
    WP G (d + 80) (0, 0) μX7_readAction 78 [.ref (gB G + 279), .int (nI q), .int (213 : Int32), lvU] [.int (0 : Int32)] m Q := by
  refine wp_if_ne 83 dX7_readAction_78 (by decide) (fun q => absurd (by decide) q) (fun _ => ?_)
  refine wp_iconst (0 : Int32) dX7_readAction_81 (by decide) ?_
  exact wp_zret dX7_readAction_82 rfl rfl (e1)

theorem aB2131 {G : Cx} {d : Nat} {m : Mm} {Q : Option Value → Mm → Prop} {a n k v q : Nat} (hF : Full G m) (hq : q < 12) (ha : fi m 709 (gB G + 279) = nI a) (hn : fi m 708 (gB G + 279) = nI n) (han : a < n) (hn5 : n ≤ 501) (hk : ai m (gB G + 290) a = nI k) (hk9 : k < 1000) (hv : fi m 713 (gB G + 279) = nI v) 
    (e1 : WPM G (d + 79) (0, 0) μX7_takeWord [.ref (gB G + 279), .int (218 : Int32), .int (219 : Int32)] (wai (wai m ((gB G + 281) + 7) q (nI v)) ((gB G + 281) + 6) q (nI k)) (fun r' m' => WP G (d + 80) (0, 0) μX7_readAction 184 [.ref (gB G + 279), .int (nI q), lvU, lvU] (r'.toList ++ []) m' Q)) :
    WP G (d + 80) (0, 0) μX7_readAction 78 [.ref (gB G + 279), .int (nI q), .int (213 : Int32), lvU] [.int (1 : Int32)] m Q := by
  refine wp_if_ne 83 dX7_readAction_78 (by decide) (fun _ => ?_) (fun q => absurd q (by decide))
  refine wp_aload_n dX7_readAction_83 rfl ?_
  refine wp_getr (gB G + 281) dX7_readAction_84 fX7_22 (ka hF 279 (by decide)) (hF.2 _ _) (rra 2 (isK_le (ka hF 279 (by decide))) (fun _ => rfl)) ?_
  refine wp_getr ((gB G + 281) + 7) dX7_readAction_87 fX7_161 (kr0 hF (isRr G)) (hF.2 _ _) (rra 7 (isK_le (kr0 hF (isRr G))) (fun _ => rfl)) ?_
  refine wp_iload_n dX7_readAction_90 rfl ?_
  refine wp_aload_n dX7_readAction_91 rfl ?_
  refine wp_geti (nI v) dX7_readAction_92 fX7_155 (Or.inl rfl) (ka hF 279 (by decide)) hv ?_
  refine wp_iastk (n := 12) q dX7_readAction_95 (kr hF (isRr G) 7 (by decide)) (lr (isRr G) 7 (by decide) (by decide)) (vin (by omega) (by decide))  (nIc (by omega)) ?_
  have hF1 := Full_wai ((gB G + 281) + 7) q (nI v) hF
  refine wp_iload_n dX7_readAction_96 rfl ?_
  refine wp_sipush (214 : Int32) dX7_readAction_97 (by decide) ?_
  refine wp_icmp_ne 141 dX7_readAction_100 (by decide) (fun _ => ?_) (fun q => absurd q (by decide))
  refine wp_aload_n dX7_readAction_141 rfl ?_
  refine wp_getr (gB G + 281) dX7_readAction_142 fX7_22 (ka hF1 279 (by decide)) (hF1.2 _ _) (rra 2 (isK_le (ka hF1 279 (by decide))) (fun _ => rfl)) ?_
  refine wp_getr ((gB G + 281) + 6) dX7_readAction_145 fX7_164 (kr0 hF1 (isRr G)) (hF1.2 _ _) (rra 6 (isK_le (kr0 hF1 (isRr G))) (fun _ => rfl)) ?_
  refine wp_iload_n dX7_readAction_148 rfl ?_
  refine wp_aload_n dX7_readAction_149 rfl ?_
  refine wp_callV (As := []) (S := [.int (nI q), .ref ((gB G + 281) + 6)]) (b' := (0, 0)) (b := (0, 0)) dX7_readAction_150 MX7_60 (ka hF1 279 (by decide)) rfl rfl rfl rfl (Nat.le_of_ble_eq_true rfl) ?_
  refine WPM.of pX7 (Nat.le_of_ble_eq_true rfl) rfl ?_
  refine wp_aload_n dX7_kind_0 rfl ?_
  refine wp_geti (nI a) dX7_kind_1 fX7_57 (Or.inl rfl) (ka hF1 279 (by decide)) (fi_wai.trans ha) ?_
  refine wp_aload_n dX7_kind_4 rfl ?_
  refine wp_geti (nI n) dX7_kind_5 fX7_77 (Or.inl rfl) (ka hF1 279 (by decide)) (fi_wai.trans hn) ?_
  refine wp_icmp_ge 23 dX7_kind_8 (by decide) (fun q => absurd (nlt_ (a := a) (b := n) han (by omega)) q) (fun _ => ?_)
  refine wp_aload_n dX7_kind_11 rfl ?_
  refine wp_getr (gB G + 290) dX7_kind_12 fX7_26 (ka hF1 279 (by decide)) (hF1.2 _ _) (rra 11 (isK_le (ka hF1 279 (by decide))) (fun _ => rfl)) ?_
  refine wp_aload_n dX7_kind_15 rfl ?_
  refine wp_geti (nI a) dX7_kind_16 fX7_57 (Or.inl rfl) (ka hF1 279 (by decide)) (fi_wai.trans ha) ?_
  refine wp_ialdk (n := 501) a (nI k) dX7_kind_19 (ka hF1 290 (by decide)) (la 290) (vin (by omega) (by decide)) (nIc (by omega)) ((ai_na (by omega)).trans hk) ?_
  refine wp_goto 24 dX7_kind_20 (by decide) ?_
  refine wp_iret dX7_kind_24 rfl ?_
  show WP G (d + 80) (0, 0) μX7_readAction 153 [.ref (gB G + 279), .int (nI q), .int (213 : Int32), lvU] [.int (nI k), .int (nI q), .ref ((gB G + 281) + 6)] (wai m ((gB G + 281) + 7) q (nI v)) _
  refine wp_iastk (n := 12) q dX7_readAction_153 (kr hF1 (isRr G) 6 (by decide)) (lr (isRr G) 6 (by decide) (by decide)) (vin (by omega) (by decide))  (nIc (by omega)) ?_
  have hF2 := Full_wai ((gB G + 281) + 6) q (nI k) hF1
  refine wp_iload_n dX7_readAction_154 rfl ?_
  refine wp_sipush (212 : Int32) dX7_readAction_155 (by decide) ?_
  refine wp_icmp_ne 174 dX7_readAction_158 (by decide) (fun _ => ?_) (fun q => absurd q (by decide))
  refine wp_aload_n dX7_readAction_174 rfl ?_
  refine wp_sipush (218 : Int32) dX7_readAction_175 (by decide) ?_
  refine wp_sipush (219 : Int32) dX7_readAction_178 (by decide) ?_
  refine wp_forget [.ref (gB G + 279), .int (nI q), lvU, lvU] ⟨Or.inl rfl, Or.inl rfl, Or.inr rfl, Or.inr rfl, trivial⟩ ?_
  refine wp_callV (As := [.int (218 : Int32), .int (219 : Int32)]) (S := []) (b' := (0, 0)) (b := (0, 0)) dX7_readAction_181 MX7_167 (ka hF2 279 (by decide)) rfl rfl rfl rfl (Nat.le_of_ble_eq_true rfl) ?_
  exact e1

theorem aC2130 {G : Cx} {d : Nat} {m : Mm} {Q : Option Value → Mm → Prop} {s q : Nat} (hF : Full G m) (hq : q < 12) (hs : fi m 807 (gB G + 281) = nI s) (hs5 : s ≤ 500) 
    (e1 : Q (some (.int (0 : Int32))) (wai m ((gB G + 281) + 5) q (nI s))) :
    WP G (d + 80) (0, 0) μX7_readAction 184 [.ref (gB G + 279), .int (nI q), lvU, lvU] [.int (0 : Int32)] m Q := by
  refine wp_istore_n dX7_readAction_184 (by decide) rfl ?_
  refine wp_aload_n dX7_readAction_185 rfl ?_
  refine wp_getr (gB G + 281) dX7_readAction_186 fX7_22 (ka hF 279 (by decide)) (hF.2 _ _) (rra 2 (isK_le (ka hF 279 (by decide))) (fun _ => rfl)) ?_
  refine wp_getr ((gB G + 281) + 5) dX7_readAction_189 fX7_171 (kr0 hF (isRr G)) (hF.2 _ _) (rra 5 (isK_le (kr0 hF (isRr G))) (fun _ => rfl)) ?_
  refine wp_iload_n dX7_readAction_192 rfl ?_
  refine wp_aload_n dX7_readAction_193 rfl ?_
  refine wp_getr (gB G + 281) dX7_readAction_194 fX7_22 (ka hF 279 (by decide)) (hF.2 _ _) (rra 2 (isK_le (ka hF 279 (by decide))) (fun _ => rfl)) ?_
  refine wp_geti (nI s) dX7_readAction_197 fX7_48 (Or.inl rfl) (kr0 hF (isRr G)) hs ?_
  refine wp_iastk (n := 12) q dX7_readAction_200 (kr hF (isRr G) 5 (by decide)) (lr (isRr G) 5 (by decide) (by decide)) (vin (by omega) (by decide))  (nIc (by omega)) ?_
  have hF1 := Full_wai ((gB G + 281) + 5) q (nI s) hF
  refine wp_iload_n dX7_readAction_201 rfl ?_
  exact wp_zret dX7_readAction_202 rfl rfl (e1)

theorem aC2131 {G : Cx} {d : Nat} {m : Mm} {Q : Option Value → Mm → Prop} {s q : Nat} (hF : Full G m) (hq : q < 12) (hs : fi m 807 (gB G + 281) = nI s) (hs5 : s ≤ 500) 
    (e1 : Q (some (.int (1 : Int32))) (wai m ((gB G + 281) + 5) q (nI s))) :
    WP G (d + 80) (0, 0) μX7_readAction 184 [.ref (gB G + 279), .int (nI q), lvU, lvU] [.int (1 : Int32)] m Q := by
  refine wp_istore_n dX7_readAction_184 (by decide) rfl ?_
  refine wp_aload_n dX7_readAction_185 rfl ?_
  refine wp_getr (gB G + 281) dX7_readAction_186 fX7_22 (ka hF 279 (by decide)) (hF.2 _ _) (rra 2 (isK_le (ka hF 279 (by decide))) (fun _ => rfl)) ?_
  refine wp_getr ((gB G + 281) + 5) dX7_readAction_189 fX7_171 (kr0 hF (isRr G)) (hF.2 _ _) (rra 5 (isK_le (kr0 hF (isRr G))) (fun _ => rfl)) ?_
  refine wp_iload_n dX7_readAction_192 rfl ?_
  refine wp_aload_n dX7_readAction_193 rfl ?_
  refine wp_getr (gB G + 281) dX7_readAction_194 fX7_22 (ka hF 279 (by decide)) (hF.2 _ _) (rra 2 (isK_le (ka hF 279 (by decide))) (fun _ => rfl)) ?_
  refine wp_geti (nI s) dX7_readAction_197 fX7_48 (Or.inl rfl) (kr0 hF (isRr G)) hs ?_
  refine wp_iastk (n := 12) q dX7_readAction_200 (kr hF (isRr G) 5 (by decide)) (lr (isRr G) 5 (by decide) (by decide)) (vin (by omega) (by decide))  (nIc (by omega)) ?_
  have hF1 := Full_wai ((gB G + 281) + 5) q (nI s) hF
  refine wp_iload_n dX7_readAction_201 rfl ?_
  exact wp_zret dX7_readAction_202 rfl rfl (e1)

theorem aA214 {G : Cx} {d : Nat} {m : Mm} {Q : Option Value → Mm → Prop} {a n c q : Nat} (hF : Full G m) (hq : q < 12) (ha : fi m 709 (gB G + 279) = nI a) (hn : fi m 708 (gB G + 279) = nI n) (han : a < n) (hn5 : n ≤ 501) (hk : ai m (gB G + 290) a = (214 : Int32)) (hc : fi m 710 (gB G + 279) = nI c) 
    (e1 : WPM G (d + 79) (0, 0) μX7_takeNumber [.ref (gB G + 279), .int (nI c)] (wfi m 709 (gB G + 279) (nI (a + 1))) (fun r' m' => WP G (d + 80) (0, 0) μX7_readAction 78 [.ref (gB G + 279), .int (nI q), .int (214 : Int32), lvU] (r'.toList ++ []) m' Q)) :
    WPM G (d + 80) (0, 0) μX7_readAction [.ref (gB G + 279), .int (nI q)] m Q := by
  refine WPM.of pX7 (Nat.le_of_ble_eq_true rfl) rfl ?_
  refine wp_aload_n dX7_readAction_0 rfl ?_
  refine wp_callV (As := []) (S := []) (b' := (0, 0)) (b := (0, 0)) dX7_readAction_1 MX7_60 (ka hF 279 (by decide)) rfl rfl rfl rfl (Nat.le_of_ble_eq_true rfl) ?_
  refine WPM.of pX7 (Nat.le_of_ble_eq_true rfl) rfl ?_
  refine wp_aload_n dX7_kind_0 rfl ?_
  refine wp_geti (nI a) dX7_kind_1 fX7_57 (Or.inl rfl) (ka hF 279 (by decide)) ha ?_
  refine wp_aload_n dX7_kind_4 rfl ?_
  refine wp_geti (nI n) dX7_kind_5 fX7_77 (Or.inl rfl) (ka hF 279 (by decide)) hn ?_
  refine wp_icmp_ge 23 dX7_kind_8 (by decide) (fun q => absurd (nlt_ (a := a) (b := n) han (by omega)) q) (fun _ => ?_)
  refine wp_aload_n dX7_kind_11 rfl ?_
  refine wp_getr (gB G + 290) dX7_kind_12 fX7_26 (ka hF 279 (by decide)) (hF.2 _ _) (rra 11 (isK_le (ka hF 279 (by decide))) (fun _ => rfl)) ?_
  refine wp_aload_n dX7_kind_15 rfl ?_
  refine wp_geti (nI a) dX7_kind_16 fX7_57 (Or.inl rfl) (ka hF 279 (by decide)) ha ?_
  refine wp_ialdk (n := 501) a (214 : Int32) dX7_kind_19 (ka hF 290 (by decide)) (la 290) (vin (by omega) (by decide)) (nIc (by omega)) hk ?_
  refine wp_goto 24 dX7_kind_20 (by decide) ?_
  refine wp_iret dX7_kind_24 rfl ?_
  show WP G (d + 80) (0, 0) μX7_readAction 4 [.ref (gB G + 279), .int (nI q), lvU, lvU] [.int (214 : Int32)] m _
  refine wp_istore_n dX7_readAction_4 (by decide) rfl ?_
  refine wp_iload_n dX7_readAction_5 rfl ?_
  refine wp_sipush (212 : Int32) dX7_readAction_6 (by decide) ?_
  refine wp_icmp_eq 32 dX7_readAction_9 (by decide) (fun q => absurd q (by decide)) (fun _ => ?_)
  refine wp_iload_n dX7_readAction_12 rfl ?_
  refine wp_sipush (213 : Int32) dX7_readAction_13 (by decide) ?_
  refine wp_icmp_eq 32 dX7_readAction_16 (by decide) (fun q => absurd q (by decide)) (fun _ => ?_)
  refine wp_iload_n dX7_readAction_19 rfl ?_
  refine wp_sipush (214 : Int32) dX7_readAction_20 (by decide) ?_
  refine wp_icmp_eq 32 dX7_readAction_23 (by decide) (fun _ => ?_) (fun q => absurd (by decide) q)
  refine wp_aload_n dX7_readAction_32 rfl ?_
  refine wp_dup dX7_readAction_33 rfl ?_
  refine wp_geti (nI a) dX7_readAction_34 fX7_57 (Or.inl rfl) (ka hF 279 (by decide)) ha ?_
  refine wp_iconst (1 : Int32) dX7_readAction_37 (by decide) ?_
  refine wp_iaddv (nI (a + 1)) dX7_readAction_38 (nadd (a := a) (b := 1) (by omega)) ?_
  refine wp_puti dX7_readAction_39 pX7_57 (ka hF 279 (by decide)) ?_
  have hF1 := Full_wfi 709 (gB G + 279) (nI (a + 1)) hF
  refine wp_aload_n dX7_readAction_42 rfl ?_
  refine wp_iload_n dX7_readAction_43 rfl ?_
  refine wp_sipush (212 : Int32) dX7_readAction_44 (by decide) ?_
  refine wp_icmp_ne 57 dX7_readAction_47 (by decide) (fun _ => ?_) (fun q => absurd q (by decide))
  refine wp_iload_n dX7_readAction_57 rfl ?_
  refine wp_sipush (213 : Int32) dX7_readAction_58 (by decide) ?_
  refine wp_icmp_ne 71 dX7_readAction_61 (by decide) (fun _ => ?_) (fun q => absurd q (by decide))
  refine wp_aload_n dX7_readAction_71 rfl ?_
  refine wp_geti (nI c) dX7_readAction_72 fX7_36 (Or.inl rfl) (ka hF1 279 (by decide)) ((fi_ne (by decide)).trans hc) ?_
  refine wp_callV (As := [.int (nI c)]) (S := []) (b' := (0, 0)) (b := (0, 0)) dX7_readAction_75 MX7_158 (ka hF1 279 (by decide)) rfl rfl rfl rfl (Nat.le_of_ble_eq_true rfl) ?_
  exact e1

theorem aB2140 {G : Cx} {d : Nat} {m : Mm} {Q : Option Value → Mm → Prop} {q : Nat} (hF : Full G m) 
    (e1 : Q (some (.int (0 : Int32))) m) :
    WP G (d + 80) (0, 0) μX7_readAction 78 [.ref (gB G + 279), .int (nI q), .int (214 : Int32), lvU] [.int (0 : Int32)] m Q := by
  refine wp_if_ne 83 dX7_readAction_78 (by decide) (fun q => absurd (by decide) q) (fun _ => ?_)
  refine wp_iconst (0 : Int32) dX7_readAction_81 (by decide) ?_
  exact wp_zret dX7_readAction_82 rfl rfl (e1)

theorem aB2141 {G : Cx} {d : Nat} {m : Mm} {Q : Option Value → Mm → Prop} {v q : Nat} (hF : Full G m) (hq : q < 12) (hv : fi m 713 (gB G + 279) = nI v) 
    (e1 : WPM G (d + 79) (0, 0) μX7_take [.ref (gB G + 279), .int (61 : Int32)] (wai (wai m ((gB G + 281) + 7) q (nI v)) ((gB G + 281) + 6) q (214 : Int32)) (fun r' m' => WP G (d + 80) (0, 0) μX7_readAction 121 [.ref (gB G + 279), .int (nI q), lvU, lvU] (r'.toList ++ []) m' Q)) :
    WP G (d + 80) (0, 0) μX7_readAction 78 [.ref (gB G + 279), .int (nI q), .int (214 : Int32), lvU] [.int (1 : Int32)] m Q := by
  refine wp_if_ne 83 dX7_readAction_78 (by decide) (fun _ => ?_) (fun q => absurd q (by decide))
  refine wp_aload_n dX7_readAction_83 rfl ?_
  refine wp_getr (gB G + 281) dX7_readAction_84 fX7_22 (ka hF 279 (by decide)) (hF.2 _ _) (rra 2 (isK_le (ka hF 279 (by decide))) (fun _ => rfl)) ?_
  refine wp_getr ((gB G + 281) + 7) dX7_readAction_87 fX7_161 (kr0 hF (isRr G)) (hF.2 _ _) (rra 7 (isK_le (kr0 hF (isRr G))) (fun _ => rfl)) ?_
  refine wp_iload_n dX7_readAction_90 rfl ?_
  refine wp_aload_n dX7_readAction_91 rfl ?_
  refine wp_geti (nI v) dX7_readAction_92 fX7_155 (Or.inl rfl) (ka hF 279 (by decide)) hv ?_
  refine wp_iastk (n := 12) q dX7_readAction_95 (kr hF (isRr G) 7 (by decide)) (lr (isRr G) 7 (by decide) (by decide)) (vin (by omega) (by decide))  (nIc (by omega)) ?_
  have hF1 := Full_wai ((gB G + 281) + 7) q (nI v) hF
  refine wp_iload_n dX7_readAction_96 rfl ?_
  refine wp_sipush (214 : Int32) dX7_readAction_97 (by decide) ?_
  refine wp_icmp_ne 141 dX7_readAction_100 (by decide) (fun q => absurd (by decide) q) (fun _ => ?_)
  refine wp_aload_n dX7_readAction_103 rfl ?_
  refine wp_getr (gB G + 281) dX7_readAction_104 fX7_22 (ka hF1 279 (by decide)) (hF1.2 _ _) (rra 2 (isK_le (ka hF1 279 (by decide))) (fun _ => rfl)) ?_
  refine wp_getr ((gB G + 281) + 6) dX7_readAction_107 fX7_164 (kr0 hF1 (isRr G)) (hF1.2 _ _) (rra 6 (isK_le (kr0 hF1 (isRr G))) (fun _ => rfl)) ?_
  refine wp_iload_n dX7_readAction_110 rfl ?_
  refine wp_sipush (214 : Int32) dX7_readAction_111 (by decide) ?_
  refine wp_iastk (n := 12) q dX7_readAction_114 (kr hF1 (isRr G) 6 (by decide)) (lr (isRr G) 6 (by decide) (by decide)) (vin (by omega) (by decide))  (nIc (by omega)) ?_
  have hF2 := Full_wai ((gB G + 281) + 6) q (214 : Int32) hF1
  refine wp_aload_n dX7_readAction_115 rfl ?_
  refine wp_bipush (61 : Int32) dX7_readAction_116 (by decide) ?_
  refine wp_forget [.ref (gB G + 279), .int (nI q), lvU, lvU] ⟨Or.inl rfl, Or.inl rfl, Or.inr rfl, Or.inr rfl, trivial⟩ ?_
  refine wp_callV (As := [.int (61 : Int32)]) (S := []) (b' := (0, 0)) (b := (0, 0)) dX7_readAction_118 MX7_71 (ka hF2 279 (by decide)) rfl rfl rfl rfl (Nat.le_of_ble_eq_true rfl) ?_
  exact e1

theorem aD0 {G : Cx} {d : Nat} {m : Mm} {Q : Option Value → Mm → Prop} {s q : Nat} (hF : Full G m) (hq : q < 12) (hs : fi m 807 (gB G + 281) = nI s) (hs5 : s ≤ 500) 
    (e1 : Q (some (.int (0 : Int32))) (wai m ((gB G + 281) + 5) q (nI s))) :
    WP G (d + 80) (0, 0) μX7_readAction 121 [.ref (gB G + 279), .int (nI q), lvU, lvU] [.int (0 : Int32)] m Q := by
  refine wp_if_eq 136 dX7_readAction_121 (by decide) (fun _ => ?_) (fun q => absurd (by decide) q)
  refine wp_iconst (0 : Int32) dX7_readAction_136 (by decide) ?_
  refine wp_istore_n dX7_readAction_137 (by decide) rfl ?_
  refine wp_goto 185 dX7_readAction_138 (by decide) ?_
  refine wp_aload_n dX7_readAction_185 rfl ?_
  refine wp_getr (gB G + 281) dX7_readAction_186 fX7_22 (ka hF 279 (by decide)) (hF.2 _ _) (rra 2 (isK_le (ka hF 279 (by decide))) (fun _ => rfl)) ?_
  refine wp_getr ((gB G + 281) + 5) dX7_readAction_189 fX7_171 (kr0 hF (isRr G)) (hF.2 _ _) (rra 5 (isK_le (kr0 hF (isRr G))) (fun _ => rfl)) ?_
  refine wp_iload_n dX7_readAction_192 rfl ?_
  refine wp_aload_n dX7_readAction_193 rfl ?_
  refine wp_getr (gB G + 281) dX7_readAction_194 fX7_22 (ka hF 279 (by decide)) (hF.2 _ _) (rra 2 (isK_le (ka hF 279 (by decide))) (fun _ => rfl)) ?_
  refine wp_geti (nI s) dX7_readAction_197 fX7_48 (Or.inl rfl) (kr0 hF (isRr G)) hs ?_
  refine wp_iastk (n := 12) q dX7_readAction_200 (kr hF (isRr G) 5 (by decide)) (lr (isRr G) 5 (by decide) (by decide)) (vin (by omega) (by decide))  (nIc (by omega)) ?_
  have hF1 := Full_wai ((gB G + 281) + 5) q (nI s) hF
  refine wp_iload_n dX7_readAction_201 rfl ?_
  exact wp_zret dX7_readAction_202 rfl rfl (e1)

theorem aD1 {G : Cx} {d : Nat} {m : Mm} {Q : Option Value → Mm → Prop} {q : Nat} (hF : Full G m) 
    (e1 : WPM G (d + 79) (0, 0) μX7_readSum [.ref (gB G + 279), .int (0 : Int32)] m (fun r' m' => WP G (d + 80) (0, 0) μX7_readAction 129 [.ref (gB G + 279), .int (nI q), lvU, lvU] (r'.toList ++ []) m' Q)) :
    WP G (d + 80) (0, 0) μX7_readAction 121 [.ref (gB G + 279), .int (nI q), lvU, lvU] [.int (1 : Int32)] m Q := by
  refine wp_if_eq 136 dX7_readAction_121 (by decide) (fun q => absurd q (by decide)) (fun _ => ?_)
  refine wp_aload_n dX7_readAction_124 rfl ?_
  refine wp_iconst (0 : Int32) dX7_readAction_125 (by decide) ?_
  refine wp_callV (As := [.int (0 : Int32)]) (S := []) (b' := (0, 0)) (b := (0, 0)) dX7_readAction_126 MX7_135 (ka hF 279 (by decide)) rfl rfl rfl rfl (Nat.le_of_ble_eq_true rfl) ?_
  exact e1

theorem aE0 {G : Cx} {d : Nat} {m : Mm} {Q : Option Value → Mm → Prop} {s q : Nat} (hF : Full G m) (hq : q < 12) (hs : fi m 807 (gB G + 281) = nI s) (hs5 : s ≤ 500) 
    (e1 : Q (some (.int (0 : Int32))) (wai m ((gB G + 281) + 5) q (nI s))) :
    WP G (d + 80) (0, 0) μX7_readAction 129 [.ref (gB G + 279), .int (nI q), lvU, lvU] [.int (0 : Int32)] m Q := by
  refine wp_if_eq 136 dX7_readAction_129 (by decide) (fun _ => ?_) (fun q => absurd (by decide) q)
  refine wp_iconst (0 : Int32) dX7_readAction_136 (by decide) ?_
  refine wp_istore_n dX7_readAction_137 (by decide) rfl ?_
  refine wp_goto 185 dX7_readAction_138 (by decide) ?_
  refine wp_aload_n dX7_readAction_185 rfl ?_
  refine wp_getr (gB G + 281) dX7_readAction_186 fX7_22 (ka hF 279 (by decide)) (hF.2 _ _) (rra 2 (isK_le (ka hF 279 (by decide))) (fun _ => rfl)) ?_
  refine wp_getr ((gB G + 281) + 5) dX7_readAction_189 fX7_171 (kr0 hF (isRr G)) (hF.2 _ _) (rra 5 (isK_le (kr0 hF (isRr G))) (fun _ => rfl)) ?_
  refine wp_iload_n dX7_readAction_192 rfl ?_
  refine wp_aload_n dX7_readAction_193 rfl ?_
  refine wp_getr (gB G + 281) dX7_readAction_194 fX7_22 (ka hF 279 (by decide)) (hF.2 _ _) (rra 2 (isK_le (ka hF 279 (by decide))) (fun _ => rfl)) ?_
  refine wp_geti (nI s) dX7_readAction_197 fX7_48 (Or.inl rfl) (kr0 hF (isRr G)) hs ?_
  refine wp_iastk (n := 12) q dX7_readAction_200 (kr hF (isRr G) 5 (by decide)) (lr (isRr G) 5 (by decide) (by decide)) (vin (by omega) (by decide))  (nIc (by omega)) ?_
  have hF1 := Full_wai ((gB G + 281) + 5) q (nI s) hF
  refine wp_iload_n dX7_readAction_201 rfl ?_
  exact wp_zret dX7_readAction_202 rfl rfl (e1)

theorem aE1 {G : Cx} {d : Nat} {m : Mm} {Q : Option Value → Mm → Prop} {s q : Nat} (hF : Full G m) (hq : q < 12) (hs : fi m 807 (gB G + 281) = nI s) (hs5 : s ≤ 500) 
    (e1 : Q (some (.int (1 : Int32))) (wai m ((gB G + 281) + 5) q (nI s))) :
    WP G (d + 80) (0, 0) μX7_readAction 129 [.ref (gB G + 279), .int (nI q), lvU, lvU] [.int (1 : Int32)] m Q := by
  refine wp_if_eq 136 dX7_readAction_129 (by decide) (fun q => absurd q (by decide)) (fun _ => ?_)
  refine wp_iconst (1 : Int32) dX7_readAction_132 (by decide) ?_
  refine wp_goto 137 dX7_readAction_133 (by decide) ?_
  refine wp_istore_n dX7_readAction_137 (by decide) rfl ?_
  refine wp_goto 185 dX7_readAction_138 (by decide) ?_
  refine wp_aload_n dX7_readAction_185 rfl ?_
  refine wp_getr (gB G + 281) dX7_readAction_186 fX7_22 (ka hF 279 (by decide)) (hF.2 _ _) (rra 2 (isK_le (ka hF 279 (by decide))) (fun _ => rfl)) ?_
  refine wp_getr ((gB G + 281) + 5) dX7_readAction_189 fX7_171 (kr0 hF (isRr G)) (hF.2 _ _) (rra 5 (isK_le (kr0 hF (isRr G))) (fun _ => rfl)) ?_
  refine wp_iload_n dX7_readAction_192 rfl ?_
  refine wp_aload_n dX7_readAction_193 rfl ?_
  refine wp_getr (gB G + 281) dX7_readAction_194 fX7_22 (ka hF 279 (by decide)) (hF.2 _ _) (rra 2 (isK_le (ka hF 279 (by decide))) (fun _ => rfl)) ?_
  refine wp_geti (nI s) dX7_readAction_197 fX7_48 (Or.inl rfl) (kr0 hF (isRr G)) hs ?_
  refine wp_iastk (n := 12) q dX7_readAction_200 (kr hF (isRr G) 5 (by decide)) (lr (isRr G) 5 (by decide) (by decide)) (vin (by omega) (by decide))  (nIc (by omega)) ?_
  have hF1 := Full_wai ((gB G + 281) + 5) q (nI s) hF
  refine wp_iload_n dX7_readAction_201 rfl ?_
  exact wp_zret dX7_readAction_202 rfl rfl (e1)

theorem rA {G : Cx} {d : Nat} {m : Mm} {Q : Option Value → Mm → Prop} {x y z : Nat} (hF : Full G m) 
    (e1 : WPM G (d + 89) (0, 0) μX7_splitText [.ref (gB G + 279)] (wfi (wfi (wfi (wfi (wfi (wfi (wfi m 710 (gB G + 279) (nI x)) 711 (gB G + 279) (nI y)) 712 (gB G + 279) (nI z)) 702 (gB G + 279) (0 : Int32)) 703 (gB G + 279) (-1 : Int32)) 807 (gB G + 281) (0 : Int32)) 808 (gB G + 281) (0 : Int32)) (fun r' m' => WP G (d + 90) (0, 0) μX7_readRules 45 [.ref (gB G + 279), lvU, lvU, lvU, lvU] (r'.toList ++ []) m' Q)) :
    WPM G (d + 90) (0, 0) μX7_readRules [.ref (gB G + 279), .int (nI x), .int (nI y), .int (nI z)] m Q := by
  refine WPM.of pX7 (Nat.le_of_ble_eq_true rfl) rfl ?_
  refine wp_aload_n dX7_readRules_0 rfl ?_
  refine wp_iload_n dX7_readRules_1 rfl ?_
  refine wp_puti dX7_readRules_2 pX7_36 (ka hF 279 (by decide)) ?_
  have hF1 := Full_wfi 710 (gB G + 279) (nI x) hF
  refine wp_aload_n dX7_readRules_5 rfl ?_
  refine wp_iload_n dX7_readRules_6 rfl ?_
  refine wp_puti dX7_readRules_7 pX7_39 (ka hF1 279 (by decide)) ?_
  have hF2 := Full_wfi 711 (gB G + 279) (nI y) hF1
  refine wp_aload_n dX7_readRules_10 rfl ?_
  refine wp_iload_n dX7_readRules_11 rfl ?_
  refine wp_puti dX7_readRules_12 pX7_42 (ka hF2 279 (by decide)) ?_
  have hF3 := Full_wfi 712 (gB G + 279) (nI z) hF2
  refine wp_aload_n dX7_readRules_15 rfl ?_
  refine wp_iconst (0 : Int32) dX7_readRules_16 (by decide) ?_
  refine wp_puti dX7_readRules_17 pX7_45 (ka hF3 279 (by decide)) ?_
  have hF4 := Full_wfi 702 (gB G + 279) (0 : Int32) hF3
  refine wp_aload_n dX7_readRules_20 rfl ?_
  refine wp_iconst (-1 : Int32) dX7_readRules_21 (by decide) ?_
  refine wp_puti dX7_readRules_22 pX7_15 (ka hF4 279 (by decide)) ?_
  have hF5 := Full_wfi 703 (gB G + 279) (-1 : Int32) hF4
  refine wp_aload_n dX7_readRules_25 rfl ?_
  refine wp_getr (gB G + 281) dX7_readRules_26 fX7_22 (ka hF5 279 (by decide)) (hF5.2 _ _) (rra 2 (isK_le (ka hF5 279 (by decide))) (fun _ => rfl)) ?_
  refine wp_iconst (0 : Int32) dX7_readRules_29 (by decide) ?_
  refine wp_puti dX7_readRules_30 pX7_48 (kr0 hF5 (isRr G)) ?_
  have hF6 := Full_wfi 807 (gB G + 281) (0 : Int32) hF5
  refine wp_aload_n dX7_readRules_33 rfl ?_
  refine wp_getr (gB G + 281) dX7_readRules_34 fX7_22 (ka hF6 279 (by decide)) (hF6.2 _ _) (rra 2 (isK_le (ka hF6 279 (by decide))) (fun _ => rfl)) ?_
  refine wp_iconst (0 : Int32) dX7_readRules_37 (by decide) ?_
  refine wp_puti dX7_readRules_38 pX7_51 (kr0 hF6 (isRr G)) ?_
  have hF7 := Full_wfi 808 (gB G + 281) (0 : Int32) hF6
  refine wp_aload_n dX7_readRules_41 rfl ?_
  refine wp_forget [.ref (gB G + 279), lvU, lvU, lvU, lvU] ⟨Or.inl rfl, Or.inr rfl, Or.inr rfl, Or.inr rfl, Or.inr rfl, trivial⟩ ?_
  refine wp_callV (As := []) (S := []) (b' := (0, 0)) (b := (0, 0)) dX7_readRules_42 MX7_54 (ka hF7 279 (by decide)) rfl rfl rfl rfl (Nat.le_of_ble_eq_true rfl) ?_
  exact e1

theorem rB {G : Cx} {d : Nat} {m : Mm} {Q : Option Value → Mm → Prop}  (hF : Full G m) 
    (e1 : WP G (d + 90) (0, 0) μX7_readRules 53 [.ref (gB G + 279), lvU, lvU, lvU, .int (0 : Int32)] [] (wfi m 709 (gB G + 279) (0 : Int32)) Q) :
    WP G (d + 90) (0, 0) μX7_readRules 45 [.ref (gB G + 279), lvU, lvU, lvU, lvU] [] m Q := by
  refine wp_aload_n dX7_readRules_45 rfl ?_
  refine wp_iconst (0 : Int32) dX7_readRules_46 (by decide) ?_
  refine wp_puti dX7_readRules_47 pX7_57 (ka hF 279 (by decide)) ?_
  have hF1 := Full_wfi 709 (gB G + 279) (0 : Int32) hF
  refine wp_iconst (0 : Int32) dX7_readRules_50 (by decide) ?_
  refine wp_istore dX7_readRules_51 (by decide) rfl ?_
  refine wp_forget [.ref (gB G + 279), lvU, lvU, lvU, .int (0 : Int32)] ⟨Or.inl rfl, Or.inr rfl, Or.inr rfl, Or.inr rfl, Or.inl rfl, trivial⟩ ?_
  exact e1

theorem rC {G : Cx} {d : Nat} {m : Mm} {Q : Option Value → Mm → Prop} {a n k q : Nat} (hF : Full G m) (hq : q ≤ 12) (ha : fi m 709 (gB G + 279) = nI a) (hn : fi m 708 (gB G + 279) = nI n) (han : a < n) (hn5 : n ≤ 501) (hk : ai m (gB G + 290) a = nI k) (hk9 : k < 1000) 
    (e1 : ¬ q < 12 → WP G (d + 90) (0, 0) μX7_readRules 113 [.ref (gB G + 279), lvU, lvU, lvU, lvU] [] m Q)
    (e2 : q < 12 → k = 0 → WP G (d + 90) (0, 0) μX7_readRules 113 [.ref (gB G + 279), lvU, lvU, lvU, lvU] [] m Q)
    (e3 : q < 12 → ¬ k = 0 → WPM G (d + 89) (0, 0) μX7_readTest [.ref (gB G + 279), .int (nI q)] m (fun r' m' => WP G (d + 90) (0, 0) μX7_readRules 73 [.ref (gB G + 279), lvU, lvU, lvU, .int (nI q)] (r'.toList ++ []) m' Q)) :
    WP G (d + 90) (0, 0) μX7_readRules 53 [.ref (gB G + 279), lvU, lvU, lvU, .int (nI q)] [] m Q := by
  refine wp_iload dX7_readRules_53 rfl ?_
  refine wp_bipush (12 : Int32) dX7_readRules_55 (by decide) ?_
  refine wp_icmp_ge 113 dX7_readRules_57 (by decide) (fun q1 => ?_) (fun q2 => ?_)
  · have hp3 : ¬ q < 12 := (fun z => q1 (nlt_ (b := 12) z (by omega)))
    refine wp_forget [.ref (gB G + 279), lvU, lvU, lvU, lvU] ⟨Or.inl rfl, Or.inr rfl, Or.inr rfl, Or.inr rfl, Or.inr rfl, trivial⟩ ?_
    exact e1 hp3
  · have hp4 : q < 12 := (nlt q2 (by omega) (by omega))
    refine wp_aload_n dX7_readRules_60 rfl ?_
    refine wp_callV (As := []) (S := []) (b' := (0, 0)) (b := (0, 0)) dX7_readRules_61 MX7_60 (ka hF 279 (by decide)) rfl rfl rfl rfl (Nat.le_of_ble_eq_true rfl) ?_
    refine WPM.of pX7 (Nat.le_of_ble_eq_true rfl) rfl ?_
    refine wp_aload_n dX7_kind_0 rfl ?_
    refine wp_geti (nI a) dX7_kind_1 fX7_57 (Or.inl rfl) (ka hF 279 (by decide)) ha ?_
    refine wp_aload_n dX7_kind_4 rfl ?_
    refine wp_geti (nI n) dX7_kind_5 fX7_77 (Or.inl rfl) (ka hF 279 (by decide)) hn ?_
    refine wp_icmp_ge 23 dX7_kind_8 (by decide) (fun q => absurd (nlt_ (a := a) (b := n) han (by omega)) q) (fun _ => ?_)
    refine wp_aload_n dX7_kind_11 rfl ?_
    refine wp_getr (gB G + 290) dX7_kind_12 fX7_26 (ka hF 279 (by decide)) (hF.2 _ _) (rra 11 (isK_le (ka hF 279 (by decide))) (fun _ => rfl)) ?_
    refine wp_aload_n dX7_kind_15 rfl ?_
    refine wp_geti (nI a) dX7_kind_16 fX7_57 (Or.inl rfl) (ka hF 279 (by decide)) ha ?_
    refine wp_ialdk (n := 501) a (nI k) dX7_kind_19 (ka hF 290 (by decide)) (la 290) (vin (by omega) (by decide)) (nIc (by omega)) hk ?_
    refine wp_goto 24 dX7_kind_20 (by decide) ?_
    refine wp_iret dX7_kind_24 rfl ?_
    show WP G (d + 90) (0, 0) μX7_readRules 64 [.ref (gB G + 279), lvU, lvU, lvU, .int (nI q)] [.int (nI k)] m _
    refine wp_if_eq 113 dX7_readRules_64 (by decide) (fun q5 => ?_) (fun q6 => ?_)
    · have hp7 : k = 0 := (neq q5 (by omega) (by omega))
      refine wp_forget [.ref (gB G + 279), lvU, lvU, lvU, lvU] ⟨Or.inl rfl, Or.inr rfl, Or.inr rfl, Or.inr rfl, Or.inr rfl, trivial⟩ ?_
      exact e2 hp4 hp7
    · have hp8 : ¬ k = 0 := (fun z => q6 (congrArg nI z))
      refine wp_aload_n dX7_readRules_67 rfl ?_
      refine wp_iload dX7_readRules_68 rfl ?_
      refine wp_callV (As := [.int (nI q)]) (S := []) (b' := (0, 0)) (b := (0, 0)) dX7_readRules_70 MX7_64 (ka hF 279 (by decide)) rfl rfl rfl rfl (Nat.le_of_ble_eq_true rfl) ?_
      exact e3 hp4 hp8

theorem rD0 {G : Cx} {d : Nat} {m : Mm} {Q : Option Value → Mm → Prop} {q : Nat} (hF : Full G m) 
    (e1 : Q (some (.int (0 : Int32))) m) :
    WP G (d + 90) (0, 0) μX7_readRules 73 [.ref (gB G + 279), lvU, lvU, lvU, .int (nI q)] [.int (0 : Int32)] m Q := by
  refine wp_if_eq 94 dX7_readRules_73 (by decide) (fun _ => ?_) (fun q => absurd (by decide) q)
  refine wp_iconst (0 : Int32) dX7_readRules_94 (by decide) ?_
  exact wp_zret dX7_readRules_95 rfl rfl (e1)

theorem rD1 {G : Cx} {d : Nat} {m : Mm} {Q : Option Value → Mm → Prop} {q : Nat} (hF : Full G m) 
    (e1 : WPM G (d + 89) (0, 0) μX7_readAction [.ref (gB G + 279), .int (nI q)] m (fun r' m' => WP G (d + 90) (0, 0) μX7_readRules 82 [.ref (gB G + 279), lvU, lvU, lvU, .int (nI q)] (r'.toList ++ []) m' Q)) :
    WP G (d + 90) (0, 0) μX7_readRules 73 [.ref (gB G + 279), lvU, lvU, lvU, .int (nI q)] [.int (1 : Int32)] m Q := by
  refine wp_if_eq 94 dX7_readRules_73 (by decide) (fun q => absurd q (by decide)) (fun _ => ?_)
  refine wp_aload_n dX7_readRules_76 rfl ?_
  refine wp_iload dX7_readRules_77 rfl ?_
  refine wp_callV (As := [.int (nI q)]) (S := []) (b' := (0, 0)) (b := (0, 0)) dX7_readRules_79 MX7_68 (ka hF 279 (by decide)) rfl rfl rfl rfl (Nat.le_of_ble_eq_true rfl) ?_
  exact e1

theorem rE0 {G : Cx} {d : Nat} {m : Mm} {Q : Option Value → Mm → Prop} {q : Nat} (hF : Full G m) 
    (e1 : Q (some (.int (0 : Int32))) m) :
    WP G (d + 90) (0, 0) μX7_readRules 82 [.ref (gB G + 279), lvU, lvU, lvU, .int (nI q)] [.int (0 : Int32)] m Q := by
  refine wp_if_eq 94 dX7_readRules_82 (by decide) (fun _ => ?_) (fun q => absurd (by decide) q)
  refine wp_iconst (0 : Int32) dX7_readRules_94 (by decide) ?_
  exact wp_zret dX7_readRules_95 rfl rfl (e1)

theorem rE1 {G : Cx} {d : Nat} {m : Mm} {Q : Option Value → Mm → Prop} {q : Nat} (hF : Full G m) 
    (e1 : WPM G (d + 89) (0, 0) μX7_take [.ref (gB G + 279), .int (59 : Int32)] m (fun r' m' => WP G (d + 90) (0, 0) μX7_readRules 91 [.ref (gB G + 279), lvU, lvU, lvU, .int (nI q)] (r'.toList ++ []) m' Q)) :
    WP G (d + 90) (0, 0) μX7_readRules 82 [.ref (gB G + 279), lvU, lvU, lvU, .int (nI q)] [.int (1 : Int32)] m Q := by
  refine wp_if_eq 94 dX7_readRules_82 (by decide) (fun q => absurd q (by decide)) (fun _ => ?_)
  refine wp_aload_n dX7_readRules_85 rfl ?_
  refine wp_bipush (59 : Int32) dX7_readRules_86 (by decide) ?_
  refine wp_callV (As := [.int (59 : Int32)]) (S := []) (b' := (0, 0)) (b := (0, 0)) dX7_readRules_88 MX7_71 (ka hF 279 (by decide)) rfl rfl rfl rfl (Nat.le_of_ble_eq_true rfl) ?_
  exact e1

theorem rF0 {G : Cx} {d : Nat} {m : Mm} {Q : Option Value → Mm → Prop} {q : Nat} (hF : Full G m) 
    (e1 : Q (some (.int (0 : Int32))) m) :
    WP G (d + 90) (0, 0) μX7_readRules 91 [.ref (gB G + 279), lvU, lvU, lvU, .int (nI q)] [.int (0 : Int32)] m Q := by
  refine wp_if_ne 96 dX7_readRules_91 (by decide) (fun q => absurd (by decide) q) (fun _ => ?_)
  refine wp_iconst (0 : Int32) dX7_readRules_94 (by decide) ?_
  exact wp_zret dX7_readRules_95 rfl rfl (e1)

theorem rF1 {G : Cx} {d : Nat} {m : Mm} {Q : Option Value → Mm → Prop} {q : Nat} (hF : Full G m) (hq : q < 12) 
    (e1 : WP G (d + 90) (0, 0) μX7_readRules 53 [.ref (gB G + 279), lvU, lvU, lvU, .int (nI (q + 1))] [] (wfi m 808 (gB G + 281) (nI (q + 1))) Q) :
    WP G (d + 90) (0, 0) μX7_readRules 91 [.ref (gB G + 279), lvU, lvU, lvU, .int (nI q)] [.int (1 : Int32)] m Q := by
  refine wp_if_ne 96 dX7_readRules_91 (by decide) (fun _ => ?_) (fun q => absurd q (by decide))
  refine wp_aload_n dX7_readRules_96 rfl ?_
  refine wp_getr (gB G + 281) dX7_readRules_97 fX7_22 (ka hF 279 (by decide)) (hF.2 _ _) (rra 2 (isK_le (ka hF 279 (by decide))) (fun _ => rfl)) ?_
  refine wp_iload dX7_readRules_100 rfl ?_
  refine wp_iconst (1 : Int32) dX7_readRules_102 (by decide) ?_
  refine wp_iaddv (nI (q + 1)) dX7_readRules_103 (nadd (a := q) (b := 1) (by omega)) ?_
  refine wp_puti dX7_readRules_104 pX7_51 (kr0 hF (isRr G)) ?_
  have hF1 := Full_wfi 808 (gB G + 281) (nI (q + 1)) hF
  refine wp_iinc (nI (q + 1)) dX7_readRules_107 rfl (by decide) (nadd (a := q) (b := 1) (by omega)) rfl ?_
  refine wp_goto 53 dX7_readRules_110 (by decide) ?_
  refine wp_forget [.ref (gB G + 279), lvU, lvU, lvU, .int (nI (q + 1))] ⟨Or.inl rfl, Or.inr rfl, Or.inr rfl, Or.inr rfl, Or.inl rfl, trivial⟩ ?_
  exact e1

theorem rG {G : Cx} {d : Nat} {m : Mm} {Q : Option Value → Mm → Prop} {a n k st : Nat} (hF : Full G m) (ha : fi m 709 (gB G + 279) = nI a) (hn : fi m 708 (gB G + 279) = nI n) (han : a < n) (hn5 : n ≤ 501) (hk : ai m (gB G + 290) a = nI k) (hk9 : k < 1000) (hst : ai m (gB G + 291) a = nI st) 
    (e1 : ¬ k = 0 → k = 201 → Q (some (.int (0 : Int32))) (wfi (wfi m 702 (gB G + 279) (3 : Int32)) 703 (gB G + 279) (nI st)))
    (e2 : ¬ k = 0 → ¬ k = 201 → k = 212 → Q (some (.int (0 : Int32))) (wfi (wfi m 702 (gB G + 279) (3 : Int32)) 703 (gB G + 279) (nI st)))
    (e3 : ¬ k = 0 → ¬ k = 201 → ¬ k = 212 → k = 213 → Q (some (.int (0 : Int32))) (wfi (wfi m 702 (gB G + 279) (3 : Int32)) 703 (gB G + 279) (nI st)))
    (e4 : ¬ k = 0 → ¬ k = 201 → ¬ k = 212 → ¬ k = 213 → ¬ k = 214 → Q (some (.int (0 : Int32))) (wfi (wfi m 702 (gB G + 279) (1 : Int32)) 703 (gB G + 279) (nI st)))
    (e5 : ¬ k = 0 → ¬ k = 201 → ¬ k = 212 → ¬ k = 213 → k = 214 → Q (some (.int (0 : Int32))) (wfi (wfi m 702 (gB G + 279) (3 : Int32)) 703 (gB G + 279) (nI st)))
    (e6 : k = 0 → Q (some (.int (1 : Int32))) m) :
    WP G (d + 90) (0, 0) μX7_readRules 113 [.ref (gB G + 279), lvU, lvU, lvU, lvU] [] m Q := by
  refine wp_aload_n dX7_readRules_113 rfl ?_
  refine wp_callV (As := []) (S := []) (b' := (0, 0)) (b := (0, 0)) dX7_readRules_114 MX7_60 (ka hF 279 (by decide)) rfl rfl rfl rfl (Nat.le_of_ble_eq_true rfl) ?_
  refine WPM.of pX7 (Nat.le_of_ble_eq_true rfl) rfl ?_
  refine wp_aload_n dX7_kind_0 rfl ?_
  refine wp_geti (nI a) dX7_kind_1 fX7_57 (Or.inl rfl) (ka hF 279 (by decide)) ha ?_
  refine wp_aload_n dX7_kind_4 rfl ?_
  refine wp_geti (nI n) dX7_kind_5 fX7_77 (Or.inl rfl) (ka hF 279 (by decide)) hn ?_
  refine wp_icmp_ge 23 dX7_kind_8 (by decide) (fun q => absurd (nlt_ (a := a) (b := n) han (by omega)) q) (fun _ => ?_)
  refine wp_aload_n dX7_kind_11 rfl ?_
  refine wp_getr (gB G + 290) dX7_kind_12 fX7_26 (ka hF 279 (by decide)) (hF.2 _ _) (rra 11 (isK_le (ka hF 279 (by decide))) (fun _ => rfl)) ?_
  refine wp_aload_n dX7_kind_15 rfl ?_
  refine wp_geti (nI a) dX7_kind_16 fX7_57 (Or.inl rfl) (ka hF 279 (by decide)) ha ?_
  refine wp_ialdk (n := 501) a (nI k) dX7_kind_19 (ka hF 290 (by decide)) (la 290) (vin (by omega) (by decide)) (nIc (by omega)) hk ?_
  refine wp_goto 24 dX7_kind_20 (by decide) ?_
  refine wp_iret dX7_kind_24 rfl ?_
  show WP G (d + 90) (0, 0) μX7_readRules 117 [.ref (gB G + 279), lvU, lvU, lvU, lvU] [.int (nI k)] m _
  refine wp_if_ne 122 dX7_readRules_117 (by decide) (fun q1 => ?_) (fun q2 => ?_)
  · have hp3 : ¬ k = 0 := (fun z => q1 (congrArg nI z))
    refine wp_aload_n dX7_readRules_122 rfl ?_
    refine wp_callV (As := []) (S := []) (b' := (0, 0)) (b := (0, 0)) dX7_readRules_123 MX7_60 (ka hF 279 (by decide)) rfl rfl rfl rfl (Nat.le_of_ble_eq_true rfl) ?_
    refine WPM.of pX7 (Nat.le_of_ble_eq_true rfl) rfl ?_
    refine wp_aload_n dX7_kind_0 rfl ?_
    refine wp_geti (nI a) dX7_kind_1 fX7_57 (Or.inl rfl) (ka hF 279 (by decide)) ha ?_
    refine wp_aload_n dX7_kind_4 rfl ?_
    refine wp_geti (nI n) dX7_kind_5 fX7_77 (Or.inl rfl) (ka hF 279 (by decide)) hn ?_
    refine wp_icmp_ge 23 dX7_kind_8 (by decide) (fun q => absurd (nlt_ (a := a) (b := n) han (by omega)) q) (fun _ => ?_)
    refine wp_aload_n dX7_kind_11 rfl ?_
    refine wp_getr (gB G + 290) dX7_kind_12 fX7_26 (ka hF 279 (by decide)) (hF.2 _ _) (rra 11 (isK_le (ka hF 279 (by decide))) (fun _ => rfl)) ?_
    refine wp_aload_n dX7_kind_15 rfl ?_
    refine wp_geti (nI a) dX7_kind_16 fX7_57 (Or.inl rfl) (ka hF 279 (by decide)) ha ?_
    refine wp_ialdk (n := 501) a (nI k) dX7_kind_19 (ka hF 290 (by decide)) (la 290) (vin (by omega) (by decide)) (nIc (by omega)) hk ?_
    refine wp_goto 24 dX7_kind_20 (by decide) ?_
    refine wp_iret dX7_kind_24 rfl ?_
    show WP G (d + 90) (0, 0) μX7_readRules 126 [.ref (gB G + 279), lvU, lvU, lvU, lvU] [.int (nI k)] m _
    refine wp_sipush (201 : Int32) dX7_readRules_126 (by decide) ?_
    refine wp_icmp_eq 162 dX7_readRules_129 (by decide) (fun q4 => ?_) (fun q5 => ?_)
    · have hp6 : k = 201 := (neq q4 (by omega) (by omega))
      refine wp_iconst (1 : Int32) dX7_readRules_162 (by decide) ?_
      refine wp_goto 167 dX7_readRules_163 (by decide) ?_
      refine wp_istore dX7_readRules_167 (by decide) rfl ?_
      refine wp_aload_n dX7_readRules_169 rfl ?_
      refine wp_iload dX7_readRules_170 rfl ?_
      refine wp_if_eq 179 dX7_readRules_172 (by decide) (fun q => absurd q (by decide)) (fun _ => ?_)
      refine wp_iconst (3 : Int32) dX7_readRules_175 (by decide) ?_
      refine wp_goto 180 dX7_readRules_176 (by decide) ?_
      refine wp_callV (As := [.int (3 : Int32)]) (S := []) (b' := (0, 0)) (b := (0, 0)) dX7_readRules_180 MX7_74 (ka hF 279 (by decide)) rfl rfl rfl rfl (Nat.le_of_ble_eq_true rfl) ?_
      refine WPM.of pX7 (Nat.le_of_ble_eq_true rfl) rfl ?_
      refine wp_aload_n dX7_fail_0 rfl ?_
      refine wp_iload_n dX7_fail_1 rfl ?_
      refine wp_puti dX7_fail_2 pX7_45 (ka hF 279 (by decide)) ?_
      have hF7 := Full_wfi 702 (gB G + 279) (3 : Int32) hF
      refine wp_aload_n dX7_fail_5 rfl ?_
      refine wp_aload_n dX7_fail_6 rfl ?_
      refine wp_geti (nI a) dX7_fail_7 fX7_57 (Or.inl rfl) (ka hF7 279 (by decide)) ((fi_ne (by decide)).trans ha) ?_
      refine wp_aload_n dX7_fail_10 rfl ?_
      refine wp_geti (nI n) dX7_fail_11 fX7_77 (Or.inl rfl) (ka hF7 279 (by decide)) ((fi_ne (by decide)).trans hn) ?_
      refine wp_icmp_ge 29 dX7_fail_14 (by decide) (fun q => absurd (nlt_ (a := a) (b := n) han (by omega)) q) (fun _ => ?_)
      refine wp_aload_n dX7_fail_17 rfl ?_
      refine wp_getr (gB G + 291) dX7_fail_18 fX7_30 (ka hF7 279 (by decide)) (hF7.2 _ _) (rra 12 (isK_le (ka hF7 279 (by decide))) (fun _ => rfl)) ?_
      refine wp_aload_n dX7_fail_21 rfl ?_
      refine wp_geti (nI a) dX7_fail_22 fX7_57 (Or.inl rfl) (ka hF7 279 (by decide)) ((fi_ne (by decide)).trans ha) ?_
      refine wp_ialdk (n := 501) a (nI st) dX7_fail_25 (ka hF7 291 (by decide)) (la 291) (vin (by omega) (by decide)) (nIc (by omega)) (ai_wfi.trans hst) ?_
      refine wp_goto 33 dX7_fail_26 (by decide) ?_
      refine wp_puti dX7_fail_33 pX7_15 (ka hF7 279 (by decide)) ?_
      have hF8 := Full_wfi 703 (gB G + 279) (nI st) hF7
      refine wp_iconst (0 : Int32) dX7_fail_36 (by decide) ?_
      refine wp_zret dX7_fail_37 rfl rfl ?_
      show WP G (d + 90) (0, 0) μX7_readRules 183 [.ref (gB G + 279), lvU, lvU, lvU, .int (1 : Int32)] [.int (0 : Int32)] (wfi (wfi m 702 (gB G + 279) (3 : Int32)) 703 (gB G + 279) (nI st)) _
      exact wp_zret dX7_readRules_183 rfl rfl (e1 hp3 hp6)
    · have hp9 : ¬ k = 201 := (fun z => q5 (congrArg nI z))
      refine wp_aload_n dX7_readRules_132 rfl ?_
      refine wp_callV (As := []) (S := []) (b' := (0, 0)) (b := (0, 0)) dX7_readRules_133 MX7_60 (ka hF 279 (by decide)) rfl rfl rfl rfl (Nat.le_of_ble_eq_true rfl) ?_
      refine WPM.of pX7 (Nat.le_of_ble_eq_true rfl) rfl ?_
      refine wp_aload_n dX7_kind_0 rfl ?_
      refine wp_geti (nI a) dX7_kind_1 fX7_57 (Or.inl rfl) (ka hF 279 (by decide)) ha ?_
      refine wp_aload_n dX7_kind_4 rfl ?_
      refine wp_geti (nI n) dX7_kind_5 fX7_77 (Or.inl rfl) (ka hF 279 (by decide)) hn ?_
      refine wp_icmp_ge 23 dX7_kind_8 (by decide) (fun q => absurd (nlt_ (a := a) (b := n) han (by omega)) q) (fun _ => ?_)
      refine wp_aload_n dX7_kind_11 rfl ?_
      refine wp_getr (gB G + 290) dX7_kind_12 fX7_26 (ka hF 279 (by decide)) (hF.2 _ _) (rra 11 (isK_le (ka hF 279 (by decide))) (fun _ => rfl)) ?_
      refine wp_aload_n dX7_kind_15 rfl ?_
      refine wp_geti (nI a) dX7_kind_16 fX7_57 (Or.inl rfl) (ka hF 279 (by decide)) ha ?_
      refine wp_ialdk (n := 501) a (nI k) dX7_kind_19 (ka hF 290 (by decide)) (la 290) (vin (by omega) (by decide)) (nIc (by omega)) hk ?_
      refine wp_goto 24 dX7_kind_20 (by decide) ?_
      refine wp_iret dX7_kind_24 rfl ?_
      show WP G (d + 90) (0, 0) μX7_readRules 136 [.ref (gB G + 279), lvU, lvU, lvU, lvU] [.int (nI k)] m _
      refine wp_sipush (212 : Int32) dX7_readRules_136 (by decide) ?_
      refine wp_icmp_eq 162 dX7_readRules_139 (by decide) (fun q10 => ?_) (fun q11 => ?_)
      · have hp12 : k = 212 := (neq q10 (by omega) (by omega))
        refine wp_iconst (1 : Int32) dX7_readRules_162 (by decide) ?_
        refine wp_goto 167 dX7_readRules_163 (by decide) ?_
        refine wp_istore dX7_readRules_167 (by decide) rfl ?_
        refine wp_aload_n dX7_readRules_169 rfl ?_
        refine wp_iload dX7_readRules_170 rfl ?_
        refine wp_if_eq 179 dX7_readRules_172 (by decide) (fun q => absurd q (by decide)) (fun _ => ?_)
        refine wp_iconst (3 : Int32) dX7_readRules_175 (by decide) ?_
        refine wp_goto 180 dX7_readRules_176 (by decide) ?_
        refine wp_callV (As := [.int (3 : Int32)]) (S := []) (b' := (0, 0)) (b := (0, 0)) dX7_readRules_180 MX7_74 (ka hF 279 (by decide)) rfl rfl rfl rfl (Nat.le_of_ble_eq_true rfl) ?_
        refine WPM.of pX7 (Nat.le_of_ble_eq_true rfl) rfl ?_
        refine wp_aload_n dX7_fail_0 rfl ?_
        refine wp_iload_n dX7_fail_1 rfl ?_
        refine wp_puti dX7_fail_2 pX7_45 (ka hF 279 (by decide)) ?_
        have hF13 := Full_wfi 702 (gB G + 279) (3 : Int32) hF
        refine wp_aload_n dX7_fail_5 rfl ?_
        refine wp_aload_n dX7_fail_6 rfl ?_
        refine wp_geti (nI a) dX7_fail_7 fX7_57 (Or.inl rfl) (ka hF13 279 (by decide)) ((fi_ne (by decide)).trans ha) ?_
        refine wp_aload_n dX7_fail_10 rfl ?_
        refine wp_geti (nI n) dX7_fail_11 fX7_77 (Or.inl rfl) (ka hF13 279 (by decide)) ((fi_ne (by decide)).trans hn) ?_
        refine wp_icmp_ge 29 dX7_fail_14 (by decide) (fun q => absurd (nlt_ (a := a) (b := n) han (by omega)) q) (fun _ => ?_)
        refine wp_aload_n dX7_fail_17 rfl ?_
        refine wp_getr (gB G + 291) dX7_fail_18 fX7_30 (ka hF13 279 (by decide)) (hF13.2 _ _) (rra 12 (isK_le (ka hF13 279 (by decide))) (fun _ => rfl)) ?_
        refine wp_aload_n dX7_fail_21 rfl ?_
        refine wp_geti (nI a) dX7_fail_22 fX7_57 (Or.inl rfl) (ka hF13 279 (by decide)) ((fi_ne (by decide)).trans ha) ?_
        refine wp_ialdk (n := 501) a (nI st) dX7_fail_25 (ka hF13 291 (by decide)) (la 291) (vin (by omega) (by decide)) (nIc (by omega)) (ai_wfi.trans hst) ?_
        refine wp_goto 33 dX7_fail_26 (by decide) ?_
        refine wp_puti dX7_fail_33 pX7_15 (ka hF13 279 (by decide)) ?_
        have hF14 := Full_wfi 703 (gB G + 279) (nI st) hF13
        refine wp_iconst (0 : Int32) dX7_fail_36 (by decide) ?_
        refine wp_zret dX7_fail_37 rfl rfl ?_
        show WP G (d + 90) (0, 0) μX7_readRules 183 [.ref (gB G + 279), lvU, lvU, lvU, .int (1 : Int32)] [.int (0 : Int32)] (wfi (wfi m 702 (gB G + 279) (3 : Int32)) 703 (gB G + 279) (nI st)) _
        exact wp_zret dX7_readRules_183 rfl rfl (e2 hp3 hp9 hp12)
      · have hp15 : ¬ k = 212 := (fun z => q11 (congrArg nI z))
        refine wp_aload_n dX7_readRules_142 rfl ?_
        refine wp_callV (As := []) (S := []) (b' := (0, 0)) (b := (0, 0)) dX7_readRules_143 MX7_60 (ka hF 279 (by decide)) rfl rfl rfl rfl (Nat.le_of_ble_eq_true rfl) ?_
        refine WPM.of pX7 (Nat.le_of_ble_eq_true rfl) rfl ?_
        refine wp_aload_n dX7_kind_0 rfl ?_
        refine wp_geti (nI a) dX7_kind_1 fX7_57 (Or.inl rfl) (ka hF 279 (by decide)) ha ?_
        refine wp_aload_n dX7_kind_4 rfl ?_
        refine wp_geti (nI n) dX7_kind_5 fX7_77 (Or.inl rfl) (ka hF 279 (by decide)) hn ?_
        refine wp_icmp_ge 23 dX7_kind_8 (by decide) (fun q => absurd (nlt_ (a := a) (b := n) han (by omega)) q) (fun _ => ?_)
        refine wp_aload_n dX7_kind_11 rfl ?_
        refine wp_getr (gB G + 290) dX7_kind_12 fX7_26 (ka hF 279 (by decide)) (hF.2 _ _) (rra 11 (isK_le (ka hF 279 (by decide))) (fun _ => rfl)) ?_
        refine wp_aload_n dX7_kind_15 rfl ?_
        refine wp_geti (nI a) dX7_kind_16 fX7_57 (Or.inl rfl) (ka hF 279 (by decide)) ha ?_
        refine wp_ialdk (n := 501) a (nI k) dX7_kind_19 (ka hF 290 (by decide)) (la 290) (vin (by omega) (by decide)) (nIc (by omega)) hk ?_
        refine wp_goto 24 dX7_kind_20 (by decide) ?_
        refine wp_iret dX7_kind_24 rfl ?_
        show WP G (d + 90) (0, 0) μX7_readRules 146 [.ref (gB G + 279), lvU, lvU, lvU, lvU] [.int (nI k)] m _
        refine wp_sipush (213 : Int32) dX7_readRules_146 (by decide) ?_
        refine wp_icmp_eq 162 dX7_readRules_149 (by decide) (fun q16 => ?_) (fun q17 => ?_)
        · have hp18 : k = 213 := (neq q16 (by omega) (by omega))
          refine wp_iconst (1 : Int32) dX7_readRules_162 (by decide) ?_
          refine wp_goto 167 dX7_readRules_163 (by decide) ?_
          refine wp_istore dX7_readRules_167 (by decide) rfl ?_
          refine wp_aload_n dX7_readRules_169 rfl ?_
          refine wp_iload dX7_readRules_170 rfl ?_
          refine wp_if_eq 179 dX7_readRules_172 (by decide) (fun q => absurd q (by decide)) (fun _ => ?_)
          refine wp_iconst (3 : Int32) dX7_readRules_175 (by decide) ?_
          refine wp_goto 180 dX7_readRules_176 (by decide) ?_
          refine wp_callV (As := [.int (3 : Int32)]) (S := []) (b' := (0, 0)) (b := (0, 0)) dX7_readRules_180 MX7_74 (ka hF 279 (by decide)) rfl rfl rfl rfl (Nat.le_of_ble_eq_true rfl) ?_
          refine WPM.of pX7 (Nat.le_of_ble_eq_true rfl) rfl ?_
          refine wp_aload_n dX7_fail_0 rfl ?_
          refine wp_iload_n dX7_fail_1 rfl ?_
          refine wp_puti dX7_fail_2 pX7_45 (ka hF 279 (by decide)) ?_
          have hF19 := Full_wfi 702 (gB G + 279) (3 : Int32) hF
          refine wp_aload_n dX7_fail_5 rfl ?_
          refine wp_aload_n dX7_fail_6 rfl ?_
          refine wp_geti (nI a) dX7_fail_7 fX7_57 (Or.inl rfl) (ka hF19 279 (by decide)) ((fi_ne (by decide)).trans ha) ?_
          refine wp_aload_n dX7_fail_10 rfl ?_
          refine wp_geti (nI n) dX7_fail_11 fX7_77 (Or.inl rfl) (ka hF19 279 (by decide)) ((fi_ne (by decide)).trans hn) ?_
          refine wp_icmp_ge 29 dX7_fail_14 (by decide) (fun q => absurd (nlt_ (a := a) (b := n) han (by omega)) q) (fun _ => ?_)
          refine wp_aload_n dX7_fail_17 rfl ?_
          refine wp_getr (gB G + 291) dX7_fail_18 fX7_30 (ka hF19 279 (by decide)) (hF19.2 _ _) (rra 12 (isK_le (ka hF19 279 (by decide))) (fun _ => rfl)) ?_
          refine wp_aload_n dX7_fail_21 rfl ?_
          refine wp_geti (nI a) dX7_fail_22 fX7_57 (Or.inl rfl) (ka hF19 279 (by decide)) ((fi_ne (by decide)).trans ha) ?_
          refine wp_ialdk (n := 501) a (nI st) dX7_fail_25 (ka hF19 291 (by decide)) (la 291) (vin (by omega) (by decide)) (nIc (by omega)) (ai_wfi.trans hst) ?_
          refine wp_goto 33 dX7_fail_26 (by decide) ?_
          refine wp_puti dX7_fail_33 pX7_15 (ka hF19 279 (by decide)) ?_
          have hF20 := Full_wfi 703 (gB G + 279) (nI st) hF19
          refine wp_iconst (0 : Int32) dX7_fail_36 (by decide) ?_
          refine wp_zret dX7_fail_37 rfl rfl ?_
          show WP G (d + 90) (0, 0) μX7_readRules 183 [.ref (gB G + 279), lvU, lvU, lvU, .int (1 : Int32)] [.int (0 : Int32)] (wfi (wfi m 702 (gB G + 279) (3 : Int32)) 703 (gB G + 279) (nI st)) _
          exact wp_zret dX7_readRules_183 rfl rfl (e3 hp3 hp9 hp15 hp18)
        · have hp21 : ¬ k = 213 := (fun z => q17 (congrArg nI z))
          refine wp_aload_n dX7_readRules_152 rfl ?_
          refine wp_callV (As := []) (S := []) (b' := (0, 0)) (b := (0, 0)) dX7_readRules_153 MX7_60 (ka hF 279 (by decide)) rfl rfl rfl rfl (Nat.le_of_ble_eq_true rfl) ?_
          refine WPM.of pX7 (Nat.le_of_ble_eq_true rfl) rfl ?_
          refine wp_aload_n dX7_kind_0 rfl ?_
          refine wp_geti (nI a) dX7_kind_1 fX7_57 (Or.inl rfl) (ka hF 279 (by decide)) ha ?_
          refine wp_aload_n dX7_kind_4 rfl ?_
          refine wp_geti (nI n) dX7_kind_5 fX7_77 (Or.inl rfl) (ka hF 279 (by decide)) hn ?_
          refine wp_icmp_ge 23 dX7_kind_8 (by decide) (fun q => absurd (nlt_ (a := a) (b := n) han (by omega)) q) (fun _ => ?_)
          refine wp_aload_n dX7_kind_11 rfl ?_
          refine wp_getr (gB G + 290) dX7_kind_12 fX7_26 (ka hF 279 (by decide)) (hF.2 _ _) (rra 11 (isK_le (ka hF 279 (by decide))) (fun _ => rfl)) ?_
          refine wp_aload_n dX7_kind_15 rfl ?_
          refine wp_geti (nI a) dX7_kind_16 fX7_57 (Or.inl rfl) (ka hF 279 (by decide)) ha ?_
          refine wp_ialdk (n := 501) a (nI k) dX7_kind_19 (ka hF 290 (by decide)) (la 290) (vin (by omega) (by decide)) (nIc (by omega)) hk ?_
          refine wp_goto 24 dX7_kind_20 (by decide) ?_
          refine wp_iret dX7_kind_24 rfl ?_
          show WP G (d + 90) (0, 0) μX7_readRules 156 [.ref (gB G + 279), lvU, lvU, lvU, lvU] [.int (nI k)] m _
          refine wp_sipush (214 : Int32) dX7_readRules_156 (by decide) ?_
          refine wp_icmp_ne 166 dX7_readRules_159 (by decide) (fun q22 => ?_) (fun q23 => ?_)
          · have hp24 : ¬ k = 214 := (fun z => q22 (congrArg nI z))
            refine wp_iconst (0 : Int32) dX7_readRules_166 (by decide) ?_
            refine wp_istore dX7_readRules_167 (by decide) rfl ?_
            refine wp_aload_n dX7_readRules_169 rfl ?_
            refine wp_iload dX7_readRules_170 rfl ?_
            refine wp_if_eq 179 dX7_readRules_172 (by decide) (fun _ => ?_) (fun q => absurd (by decide) q)
            refine wp_iconst (1 : Int32) dX7_readRules_179 (by decide) ?_
            refine wp_callV (As := [.int (1 : Int32)]) (S := []) (b' := (0, 0)) (b := (0, 0)) dX7_readRules_180 MX7_74 (ka hF 279 (by decide)) rfl rfl rfl rfl (Nat.le_of_ble_eq_true rfl) ?_
            refine WPM.of pX7 (Nat.le_of_ble_eq_true rfl) rfl ?_
            refine wp_aload_n dX7_fail_0 rfl ?_
            refine wp_iload_n dX7_fail_1 rfl ?_
            refine wp_puti dX7_fail_2 pX7_45 (ka hF 279 (by decide)) ?_
            have hF25 := Full_wfi 702 (gB G + 279) (1 : Int32) hF
            refine wp_aload_n dX7_fail_5 rfl ?_
            refine wp_aload_n dX7_fail_6 rfl ?_
            refine wp_geti (nI a) dX7_fail_7 fX7_57 (Or.inl rfl) (ka hF25 279 (by decide)) ((fi_ne (by decide)).trans ha) ?_
            refine wp_aload_n dX7_fail_10 rfl ?_
            refine wp_geti (nI n) dX7_fail_11 fX7_77 (Or.inl rfl) (ka hF25 279 (by decide)) ((fi_ne (by decide)).trans hn) ?_
            refine wp_icmp_ge 29 dX7_fail_14 (by decide) (fun q => absurd (nlt_ (a := a) (b := n) han (by omega)) q) (fun _ => ?_)
            refine wp_aload_n dX7_fail_17 rfl ?_
            refine wp_getr (gB G + 291) dX7_fail_18 fX7_30 (ka hF25 279 (by decide)) (hF25.2 _ _) (rra 12 (isK_le (ka hF25 279 (by decide))) (fun _ => rfl)) ?_
            refine wp_aload_n dX7_fail_21 rfl ?_
            refine wp_geti (nI a) dX7_fail_22 fX7_57 (Or.inl rfl) (ka hF25 279 (by decide)) ((fi_ne (by decide)).trans ha) ?_
            refine wp_ialdk (n := 501) a (nI st) dX7_fail_25 (ka hF25 291 (by decide)) (la 291) (vin (by omega) (by decide)) (nIc (by omega)) (ai_wfi.trans hst) ?_
            refine wp_goto 33 dX7_fail_26 (by decide) ?_
            refine wp_puti dX7_fail_33 pX7_15 (ka hF25 279 (by decide)) ?_
            have hF26 := Full_wfi 703 (gB G + 279) (nI st) hF25
            refine wp_iconst (0 : Int32) dX7_fail_36 (by decide) ?_
            refine wp_zret dX7_fail_37 rfl rfl ?_
            show WP G (d + 90) (0, 0) μX7_readRules 183 [.ref (gB G + 279), lvU, lvU, lvU, .int (0 : Int32)] [.int (0 : Int32)] (wfi (wfi m 702 (gB G + 279) (1 : Int32)) 703 (gB G + 279) (nI st)) _
            exact wp_zret dX7_readRules_183 rfl rfl (e4 hp3 hp9 hp15 hp21 hp24)
          · have hp27 : k = 214 := (neq q23 (by omega) (by omega))
            refine wp_iconst (1 : Int32) dX7_readRules_162 (by decide) ?_
            refine wp_goto 167 dX7_readRules_163 (by decide) ?_
            refine wp_istore dX7_readRules_167 (by decide) rfl ?_
            refine wp_aload_n dX7_readRules_169 rfl ?_
            refine wp_iload dX7_readRules_170 rfl ?_
            refine wp_if_eq 179 dX7_readRules_172 (by decide) (fun q => absurd q (by decide)) (fun _ => ?_)
            refine wp_iconst (3 : Int32) dX7_readRules_175 (by decide) ?_
            refine wp_goto 180 dX7_readRules_176 (by decide) ?_
            refine wp_callV (As := [.int (3 : Int32)]) (S := []) (b' := (0, 0)) (b := (0, 0)) dX7_readRules_180 MX7_74 (ka hF 279 (by decide)) rfl rfl rfl rfl (Nat.le_of_ble_eq_true rfl) ?_
            refine WPM.of pX7 (Nat.le_of_ble_eq_true rfl) rfl ?_
            refine wp_aload_n dX7_fail_0 rfl ?_
            refine wp_iload_n dX7_fail_1 rfl ?_
            refine wp_puti dX7_fail_2 pX7_45 (ka hF 279 (by decide)) ?_
            have hF28 := Full_wfi 702 (gB G + 279) (3 : Int32) hF
            refine wp_aload_n dX7_fail_5 rfl ?_
            refine wp_aload_n dX7_fail_6 rfl ?_
            refine wp_geti (nI a) dX7_fail_7 fX7_57 (Or.inl rfl) (ka hF28 279 (by decide)) ((fi_ne (by decide)).trans ha) ?_
            refine wp_aload_n dX7_fail_10 rfl ?_
            refine wp_geti (nI n) dX7_fail_11 fX7_77 (Or.inl rfl) (ka hF28 279 (by decide)) ((fi_ne (by decide)).trans hn) ?_
            refine wp_icmp_ge 29 dX7_fail_14 (by decide) (fun q => absurd (nlt_ (a := a) (b := n) han (by omega)) q) (fun _ => ?_)
            refine wp_aload_n dX7_fail_17 rfl ?_
            refine wp_getr (gB G + 291) dX7_fail_18 fX7_30 (ka hF28 279 (by decide)) (hF28.2 _ _) (rra 12 (isK_le (ka hF28 279 (by decide))) (fun _ => rfl)) ?_
            refine wp_aload_n dX7_fail_21 rfl ?_
            refine wp_geti (nI a) dX7_fail_22 fX7_57 (Or.inl rfl) (ka hF28 279 (by decide)) ((fi_ne (by decide)).trans ha) ?_
            refine wp_ialdk (n := 501) a (nI st) dX7_fail_25 (ka hF28 291 (by decide)) (la 291) (vin (by omega) (by decide)) (nIc (by omega)) (ai_wfi.trans hst) ?_
            refine wp_goto 33 dX7_fail_26 (by decide) ?_
            refine wp_puti dX7_fail_33 pX7_15 (ka hF28 279 (by decide)) ?_
            have hF29 := Full_wfi 703 (gB G + 279) (nI st) hF28
            refine wp_iconst (0 : Int32) dX7_fail_36 (by decide) ?_
            refine wp_zret dX7_fail_37 rfl rfl ?_
            show WP G (d + 90) (0, 0) μX7_readRules 183 [.ref (gB G + 279), lvU, lvU, lvU, .int (1 : Int32)] [.int (0 : Int32)] (wfi (wfi m 702 (gB G + 279) (3 : Int32)) 703 (gB G + 279) (nI st)) _
            exact wp_zret dX7_readRules_183 rfl rfl (e5 hp3 hp9 hp15 hp21 hp27)
  · have hp30 : k = 0 := (neq q2 (by omega) (by omega))
    refine wp_iconst (1 : Int32) dX7_readRules_120 (by decide) ?_
    exact wp_zret dX7_readRules_121 rfl rfl (e6 hp30)
