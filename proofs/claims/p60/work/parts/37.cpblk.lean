theorem sC_cpr {G : Cx} {d : Nat} {m : Mm} {Q : Option Value → Mm → Prop} {r q s n : Nat} (hF : Full G m) (hr : IsR G r) (hq : IsR G q) (hs : fi m 807 q = nI s) (hs5 : s ≤ 500) (hn : fi m 808 q = nI n) (hn12 : n ≤ 12) (hne : q ≠ r)
    (e1 : ∀ mc2 : Mm, Cpy (wfi m 807 r (nI s)) mc2 (q + 1) (r + 1) 0 0 s → ∀ mc5 : Mm, Cpy mc2 mc5 (q + 2) (r + 2) 0 0 s → ∀ mc9 : Mm, Cpy (wfi mc5 808 r (nI n)) mc9 (q + 3) (r + 3) 0 0 n → ∀ mc12 : Mm, Cpy mc9 mc12 (q + 4) (r + 4) 0 0 n → ∀ mc15 : Mm, Cpy mc12 mc15 (q + 5) (r + 5) 0 0 n → ∀ mc18 : Mm, Cpy mc15 mc18 (q + 6) (r + 6) 0 0 n → ∀ mc21 : Mm, Cpy mc18 mc21 (q + 7) (r + 7) 0 0 n → Q none mc21) :
    WPM G (d + 1) (0, 0) μX8_copyFrom [.ref r, .ref q] m Q := by
  refine WPM.of pX8 (Nat.le_of_ble_eq_true rfl) rfl ?_
  refine wp_aload_n dX8_copyFrom_0 rfl ?_
  refine wp_aload_n dX8_copyFrom_1 rfl ?_
  refine wp_geti (nI s) dX8_copyFrom_2 fX8_37 (Or.inl rfl) (kr0 hF hq) hs ?_
  refine wp_puti dX8_copyFrom_5 pX8_37 (kr0 hF hr) ?_
  have hF1 := Full_wfi 807 r (nI s) hF
  refine wp_aload_n dX8_copyFrom_8 rfl ?_
  refine wp_getr (q + 1) dX8_copyFrom_9 fX8_9 (kr0 hF1 hq) (hF1.2 _ _) (rra 1 (isK_le (kr0 hF1 hq)) (fun _ => rfl)) ?_
  refine wp_iconst (0 : Int32) dX8_copyFrom_12 (by decide) ?_
  refine wp_aload_n dX8_copyFrom_13 rfl ?_
  refine wp_getr (r + 1) dX8_copyFrom_14 fX8_9 (kr0 hF1 hr) (hF1.2 _ _) (rra 1 (isK_le (kr0 hF1 hr)) (fun _ => rfl)) ?_
  refine wp_iconst (0 : Int32) dX8_copyFrom_17 (by decide) ?_
  refine wp_aload_n dX8_copyFrom_18 rfl ?_
  refine wp_geti (nI s) dX8_copyFrom_19 fX8_37 (Or.inl rfl) (kr0 hF1 hr) fi_eq ?_
  refine wp_cpy (n0 := 500) (n1 := 500) 0 0 s dX8_copyFrom_22 YX8_41 (kr hF1 hq 1 (by decide)) (kr hF1 hr 1 (by decide)) (lr hq 1 (by decide) (by decide)) (lr hr 1 (by decide) (by decide)) (by decide) (by decide) (nI_pos (by omega)) rfl rfl (nIc (by omega)) (by omega) (by omega) (Nat.le_of_ble_eq_true rfl) ?_
  intro mc2 hm3
  have hF4 := hm3.full hF1
  refine wp_aload_n dX8_copyFrom_25 rfl ?_
  refine wp_getr (q + 2) dX8_copyFrom_26 fX8_15 (kr0 hF4 hq) (hF4.2 _ _) (rra 2 (isK_le (kr0 hF4 hq)) (fun _ => rfl)) ?_
  refine wp_iconst (0 : Int32) dX8_copyFrom_29 (by decide) ?_
  refine wp_aload_n dX8_copyFrom_30 rfl ?_
  refine wp_getr (r + 2) dX8_copyFrom_31 fX8_15 (kr0 hF4 hr) (hF4.2 _ _) (rra 2 (isK_le (kr0 hF4 hr)) (fun _ => rfl)) ?_
  refine wp_iconst (0 : Int32) dX8_copyFrom_34 (by decide) ?_
  refine wp_aload_n dX8_copyFrom_35 rfl ?_
  refine wp_geti (nI s) dX8_copyFrom_36 fX8_37 (Or.inl rfl) (kr0 hF4 hr) (hm3.fi.trans fi_eq) ?_
  refine wp_cpy (n0 := 500) (n1 := 500) 0 0 s dX8_copyFrom_39 YX8_41 (kr hF4 hq 2 (by decide)) (kr hF4 hr 2 (by decide)) (lr hq 2 (by decide) (by decide)) (lr hr 2 (by decide) (by decide)) (by decide) (by decide) (nI_pos (by omega)) rfl rfl (nIc (by omega)) (by omega) (by omega) (Nat.le_of_ble_eq_true rfl) ?_
  intro mc5 hm6
  have hF7 := hm6.full hF4
  refine wp_aload_n dX8_copyFrom_42 rfl ?_
  refine wp_aload_n dX8_copyFrom_43 rfl ?_
  refine wp_geti (nI n) dX8_copyFrom_44 fX8_47 (Or.inl rfl) (kr0 hF7 hq) (hm6.fi.trans (hm3.fi.trans ((fi_ne (by decide)).trans hn))) ?_
  refine wp_puti dX8_copyFrom_47 pX8_47 (kr0 hF7 hr) ?_
  have hF8 := Full_wfi 808 r (nI n) hF7
  refine wp_aload_n dX8_copyFrom_50 rfl ?_
  refine wp_getr (q + 3) dX8_copyFrom_51 fX8_18 (kr0 hF8 hq) (hF8.2 _ _) (rra 3 (isK_le (kr0 hF8 hq)) (fun _ => rfl)) ?_
  refine wp_iconst (0 : Int32) dX8_copyFrom_54 (by decide) ?_
  refine wp_aload_n dX8_copyFrom_55 rfl ?_
  refine wp_getr (r + 3) dX8_copyFrom_56 fX8_18 (kr0 hF8 hr) (hF8.2 _ _) (rra 3 (isK_le (kr0 hF8 hr)) (fun _ => rfl)) ?_
  refine wp_iconst (0 : Int32) dX8_copyFrom_59 (by decide) ?_
  refine wp_aload_n dX8_copyFrom_60 rfl ?_
  refine wp_geti (nI n) dX8_copyFrom_61 fX8_47 (Or.inl rfl) (kr0 hF8 hr) fi_eq ?_
  refine wp_cpy (n0 := 12) (n1 := 12) 0 0 n dX8_copyFrom_64 YX8_41 (kr hF8 hq 3 (by decide)) (kr hF8 hr 3 (by decide)) (lr hq 3 (by decide) (by decide)) (lr hr 3 (by decide) (by decide)) (by decide) (by decide) (nI_pos (by omega)) rfl rfl (nIc (by omega)) (by omega) (by omega) (Nat.le_of_ble_eq_true rfl) ?_
  intro mc9 hm10
  have hF11 := hm10.full hF8
  refine wp_aload_n dX8_copyFrom_67 rfl ?_
  refine wp_getr (q + 4) dX8_copyFrom_68 fX8_21 (kr0 hF11 hq) (hF11.2 _ _) (rra 4 (isK_le (kr0 hF11 hq)) (fun _ => rfl)) ?_
  refine wp_iconst (0 : Int32) dX8_copyFrom_71 (by decide) ?_
  refine wp_aload_n dX8_copyFrom_72 rfl ?_
  refine wp_getr (r + 4) dX8_copyFrom_73 fX8_21 (kr0 hF11 hr) (hF11.2 _ _) (rra 4 (isK_le (kr0 hF11 hr)) (fun _ => rfl)) ?_
  refine wp_iconst (0 : Int32) dX8_copyFrom_76 (by decide) ?_
  refine wp_aload_n dX8_copyFrom_77 rfl ?_
  refine wp_geti (nI n) dX8_copyFrom_78 fX8_47 (Or.inl rfl) (kr0 hF11 hr) (hm10.fi.trans fi_eq) ?_
  refine wp_cpy (n0 := 12) (n1 := 12) 0 0 n dX8_copyFrom_81 YX8_41 (kr hF11 hq 4 (by decide)) (kr hF11 hr 4 (by decide)) (lr hq 4 (by decide) (by decide)) (lr hr 4 (by decide) (by decide)) (by decide) (by decide) (nI_pos (by omega)) rfl rfl (nIc (by omega)) (by omega) (by omega) (Nat.le_of_ble_eq_true rfl) ?_
  intro mc12 hm13
  have hF14 := hm13.full hF11
  refine wp_aload_n dX8_copyFrom_84 rfl ?_
  refine wp_getr (q + 5) dX8_copyFrom_85 fX8_24 (kr0 hF14 hq) (hF14.2 _ _) (rra 5 (isK_le (kr0 hF14 hq)) (fun _ => rfl)) ?_
  refine wp_iconst (0 : Int32) dX8_copyFrom_88 (by decide) ?_
  refine wp_aload_n dX8_copyFrom_89 rfl ?_
  refine wp_getr (r + 5) dX8_copyFrom_90 fX8_24 (kr0 hF14 hr) (hF14.2 _ _) (rra 5 (isK_le (kr0 hF14 hr)) (fun _ => rfl)) ?_
  refine wp_iconst (0 : Int32) dX8_copyFrom_93 (by decide) ?_
  refine wp_aload_n dX8_copyFrom_94 rfl ?_
  refine wp_geti (nI n) dX8_copyFrom_95 fX8_47 (Or.inl rfl) (kr0 hF14 hr) (hm13.fi.trans (hm10.fi.trans fi_eq)) ?_
  refine wp_cpy (n0 := 12) (n1 := 12) 0 0 n dX8_copyFrom_98 YX8_41 (kr hF14 hq 5 (by decide)) (kr hF14 hr 5 (by decide)) (lr hq 5 (by decide) (by decide)) (lr hr 5 (by decide) (by decide)) (by decide) (by decide) (nI_pos (by omega)) rfl rfl (nIc (by omega)) (by omega) (by omega) (Nat.le_of_ble_eq_true rfl) ?_
  intro mc15 hm16
  have hF17 := hm16.full hF14
  refine wp_aload_n dX8_copyFrom_101 rfl ?_
  refine wp_getr (q + 6) dX8_copyFrom_102 fX8_27 (kr0 hF17 hq) (hF17.2 _ _) (rra 6 (isK_le (kr0 hF17 hq)) (fun _ => rfl)) ?_
  refine wp_iconst (0 : Int32) dX8_copyFrom_105 (by decide) ?_
  refine wp_aload_n dX8_copyFrom_106 rfl ?_
  refine wp_getr (r + 6) dX8_copyFrom_107 fX8_27 (kr0 hF17 hr) (hF17.2 _ _) (rra 6 (isK_le (kr0 hF17 hr)) (fun _ => rfl)) ?_
  refine wp_iconst (0 : Int32) dX8_copyFrom_110 (by decide) ?_
  refine wp_aload_n dX8_copyFrom_111 rfl ?_
  refine wp_geti (nI n) dX8_copyFrom_112 fX8_47 (Or.inl rfl) (kr0 hF17 hr) (hm16.fi.trans (hm13.fi.trans (hm10.fi.trans fi_eq))) ?_
  refine wp_cpy (n0 := 12) (n1 := 12) 0 0 n dX8_copyFrom_115 YX8_41 (kr hF17 hq 6 (by decide)) (kr hF17 hr 6 (by decide)) (lr hq 6 (by decide) (by decide)) (lr hr 6 (by decide) (by decide)) (by decide) (by decide) (nI_pos (by omega)) rfl rfl (nIc (by omega)) (by omega) (by omega) (Nat.le_of_ble_eq_true rfl) ?_
  intro mc18 hm19
  have hF20 := hm19.full hF17
  refine wp_aload_n dX8_copyFrom_118 rfl ?_
  refine wp_getr (q + 7) dX8_copyFrom_119 fX8_30 (kr0 hF20 hq) (hF20.2 _ _) (rra 7 (isK_le (kr0 hF20 hq)) (fun _ => rfl)) ?_
  refine wp_iconst (0 : Int32) dX8_copyFrom_122 (by decide) ?_
  refine wp_aload_n dX8_copyFrom_123 rfl ?_
  refine wp_getr (r + 7) dX8_copyFrom_124 fX8_30 (kr0 hF20 hr) (hF20.2 _ _) (rra 7 (isK_le (kr0 hF20 hr)) (fun _ => rfl)) ?_
  refine wp_iconst (0 : Int32) dX8_copyFrom_127 (by decide) ?_
  refine wp_aload_n dX8_copyFrom_128 rfl ?_
  refine wp_geti (nI n) dX8_copyFrom_129 fX8_47 (Or.inl rfl) (kr0 hF20 hr) (hm19.fi.trans (hm16.fi.trans (hm13.fi.trans (hm10.fi.trans fi_eq)))) ?_
  refine wp_cpy (n0 := 12) (n1 := 12) 0 0 n dX8_copyFrom_132 YX8_41 (kr hF20 hq 7 (by decide)) (kr hF20 hr 7 (by decide)) (lr hq 7 (by decide) (by decide)) (lr hr 7 (by decide) (by decide)) (by decide) (by decide) (nI_pos (by omega)) rfl rfl (nIc (by omega)) (by omega) (by omega) (Nat.le_of_ble_eq_true rfl) ?_
  intro mc21 hm22
  have hF23 := hm22.full hF20
  exact wp_vret dX8_copyFrom_135 rfl (e1 mc2 hm3 mc5 hm6 mc9 hm10 mc12 hm13 mc15 hm16 mc18 hm19 mc21 hm22)

theorem eC_cp {G : Cx} {d : Nat} {m : Mm} {Q : Option Value → Mm → Prop} {c o : Nat}  (hF : Full G m) (hc : IsC G c) (ho : IsC G o) 
    (e1 : WP G (d + 3) (0, 0) μX0_copyFrom 10 [.ref c, .ref o, .int (0 : Int32)] [] (wfi m 5 c (fi m 5 o)) Q) :
    WPM G (d + 3) (0, 0) μX0_copyFrom [.ref c, .ref o] m Q := by
  refine WPM.of pX0 (Nat.le_of_ble_eq_true rfl) rfl ?_
  refine wp_aload_n dX0_copyFrom_0 rfl ?_
  refine wp_aload_n dX0_copyFrom_1 rfl ?_
  refine wp_geti (fi m 5 o) dX0_copyFrom_2 fX0_75 (Or.inl rfl) (kc0 hF ho) rfl ?_
  refine wp_puti dX0_copyFrom_5 pX0_75 (kc0 hF hc) ?_
  have hF1 := Full_wfi 5 c (fi m 5 o) hF
  refine wp_iconst (0 : Int32) dX0_copyFrom_8 (by decide) ?_
  refine wp_istore_n dX0_copyFrom_9 (by decide) rfl ?_
  refine wp_forget [.ref c, .ref o, .int (0 : Int32)] ⟨Or.inl rfl, Or.inl rfl, Or.inl rfl, trivial⟩ ?_
  exact e1

theorem bC_cp1 {G : Cx} {d : Nat} {m : Mm} {Q : Option Value → Mm → Prop} {c o : Nat} {i n : Nat} (hF : Full G m) (hc : IsC G c) (ho : IsC G o) (hn : fi m 5 c = nI n) (h12 : n ≤ 12) (hi : i ≤ n)
    (e1 : ¬ i < n → WP G (d + 3) (0, 0) μX0_copyFrom 49 [.ref c, .ref o, .int (0 : Int32)] [] (wfi m 6 c (fi m 6 o)) Q)
    (e2 : i < n → WP G (d + 3) (0, 0) μX0_copyFrom 10 [.ref c, .ref o, .int (nI (i + 1))] [] (wfi (wfi (wfi (wfi (wfi (wfi (wfi (wfi (wfi (wfi (wfi m 400 (nd c i) (fi m 400 (nd o i))) 401 (nd c i) (fi m 401 (nd o i))) 402 (nd c i) (fi m 402 (nd o i))) 403 (nd c i) (fi m 403 (nd o i))) 404 (nd c i) (fi m 404 (nd o i))) 405 (nd c i) (fi m 405 (nd o i))) 406 (nd c i) (fi m 406 (nd o i))) 407 (nd c i) (fi m 407 (nd o i))) 408 (nd c i) (fi m 408 (nd o i))) 409 (nd c i) (fi m 409 (nd o i))) 410 (nd c i) (fi m 410 (nd o i))) Q) :
    WP G (d + 3) (0, 0) μX0_copyFrom 10 [.ref c, .ref o, .int (nI i)] [] m Q := by
  refine wp_iload_n dX0_copyFrom_10 rfl ?_
  refine wp_aload_n dX0_copyFrom_11 rfl ?_
  refine wp_geti (nI n) dX0_copyFrom_12 fX0_75 (Or.inl rfl) (kc0 hF hc) hn ?_
  refine wp_icmp_ge 39 dX0_copyFrom_15 (by decide) (fun q1 => ?_) (fun q2 => ?_)
  · have hp3 : ¬ i < n := (fun z => q1 (nlt_ (b := n) z (by omega)))
    refine wp_aload_n dX0_copyFrom_39 rfl ?_
    refine wp_aload_n dX0_copyFrom_40 rfl ?_
    refine wp_geti (fi m 6 o) dX0_copyFrom_41 fX0_82 (Or.inl rfl) (kc0 hF ho) rfl ?_
    refine wp_puti dX0_copyFrom_44 pX0_82 (kc0 hF hc) ?_
    have hF4 := Full_wfi 6 c (fi m 6 o) hF
    refine wp_iconst (0 : Int32) dX0_copyFrom_47 (by decide) ?_
    refine wp_istore_n dX0_copyFrom_48 (by decide) rfl ?_
    refine wp_forget [.ref c, .ref o, .int (0 : Int32)] ⟨Or.inl rfl, Or.inl rfl, Or.inl rfl, trivial⟩ ?_
    exact e1 hp3
  · have hp5 : i < n := (nlt q2 (by omega) (by omega))
    refine wp_aload_n dX0_copyFrom_18 rfl ?_
    refine wp_getr (c + 1) dX0_copyFrom_19 fX0_11 (kc0 hF hc) (hF.2 _ _) (rra 1 (isK_le (kc0 hF hc)) (fun _ => rfl)) ?_
    refine wp_iload_n dX0_copyFrom_22 rfl ?_
    refine wp_raldk (n := 12) i (nd c i) dX0_copyFrom_23 (kc hF hc 1 (by decide)) (by decide) (by decide) (lc hc 1 (by decide)) (vin (by omega) (by decide)) (nIc (by omega)) (hF.2 _ _) (rnd hF hc) ?_
    refine wp_aload_n dX0_copyFrom_24 rfl ?_
    refine wp_getr (o + 1) dX0_copyFrom_25 fX0_11 (kc0 hF ho) (hF.2 _ _) (rra 1 (isK_le (kc0 hF ho)) (fun _ => rfl)) ?_
    refine wp_iload_n dX0_copyFrom_28 rfl ?_
    refine wp_raldk (n := 12) i (nd o i) dX0_copyFrom_29 (kc hF ho 1 (by decide)) (by decide) (by decide) (lc ho 1 (by decide)) (vin (by omega) (by decide)) (nIc (by omega)) (hF.2 _ _) (rnd hF ho) ?_
    refine wp_callV (As := [.ref (nd o i)]) (S := []) (b' := (0, 0)) (b := (0, 0)) dX0_copyFrom_30 MX0_78 (knd hF hc (by omega)) rfl rfl rfl rfl (Nat.le_of_ble_eq_true rfl) ?_
    refine WPM.of pX4 (Nat.le_of_ble_eq_true rfl) rfl ?_
    refine wp_aload_n dX4_copyFrom_0 rfl ?_
    refine wp_aload_n dX4_copyFrom_1 rfl ?_
    refine wp_geti (fi m 400 (nd o i)) dX4_copyFrom_2 fX4_9 (Or.inl rfl) (knd hF ho (by omega)) rfl ?_
    refine wp_puti dX4_copyFrom_5 pX4_9 (knd hF hc (by omega)) ?_
    have hF6 := Full_wfi 400 (nd c i) (fi m 400 (nd o i)) hF
    refine wp_aload_n dX4_copyFrom_8 rfl ?_
    refine wp_aload_n dX4_copyFrom_9 rfl ?_
    refine wp_geti (fi m 401 (nd o i)) dX4_copyFrom_10 fX4_15 (Or.inl rfl) (knd hF6 ho (by omega)) (fi_ne (by decide)) ?_
    refine wp_puti dX4_copyFrom_13 pX4_15 (knd hF6 hc (by omega)) ?_
    have hF7 := Full_wfi 401 (nd c i) (fi m 401 (nd o i)) hF6
    refine wp_aload_n dX4_copyFrom_16 rfl ?_
    refine wp_aload_n dX4_copyFrom_17 rfl ?_
    refine wp_geti (fi m 402 (nd o i)) dX4_copyFrom_18 fX4_18 (Or.inl rfl) (knd hF7 ho (by omega)) ((fi_ne (by decide)).trans (fi_ne (by decide))) ?_
    refine wp_puti dX4_copyFrom_21 pX4_18 (knd hF7 hc (by omega)) ?_
    have hF8 := Full_wfi 402 (nd c i) (fi m 402 (nd o i)) hF7
    refine wp_aload_n dX4_copyFrom_24 rfl ?_
    refine wp_aload_n dX4_copyFrom_25 rfl ?_
    refine wp_geti (fi m 403 (nd o i)) dX4_copyFrom_26 fX4_21 (Or.inl rfl) (knd hF8 ho (by omega)) ((fi_ne (by decide)).trans ((fi_ne (by decide)).trans (fi_ne (by decide)))) ?_
    refine wp_puti dX4_copyFrom_29 pX4_21 (knd hF8 hc (by omega)) ?_
    have hF9 := Full_wfi 403 (nd c i) (fi m 403 (nd o i)) hF8
    refine wp_aload_n dX4_copyFrom_32 rfl ?_
    refine wp_aload_n dX4_copyFrom_33 rfl ?_
    refine wp_geti (fi m 404 (nd o i)) dX4_copyFrom_34 fX4_24 (Or.inl rfl) (knd hF9 ho (by omega)) ((fi_ne (by decide)).trans ((fi_ne (by decide)).trans ((fi_ne (by decide)).trans (fi_ne (by decide))))) ?_
    refine wp_puti dX4_copyFrom_37 pX4_24 (knd hF9 hc (by omega)) ?_
    have hF10 := Full_wfi 404 (nd c i) (fi m 404 (nd o i)) hF9
    refine wp_aload_n dX4_copyFrom_40 rfl ?_
    refine wp_aload_n dX4_copyFrom_41 rfl ?_
    refine wp_geti (fi m 405 (nd o i)) dX4_copyFrom_42 fX4_28 (Or.inl rfl) (knd hF10 ho (by omega)) ((fi_ne (by decide)).trans ((fi_ne (by decide)).trans ((fi_ne (by decide)).trans ((fi_ne (by decide)).trans (fi_ne (by decide)))))) ?_
    refine wp_puti dX4_copyFrom_45 pX4_28 (knd hF10 hc (by omega)) ?_
    have hF11 := Full_wfi 405 (nd c i) (fi m 405 (nd o i)) hF10
    refine wp_aload_n dX4_copyFrom_48 rfl ?_
    refine wp_aload_n dX4_copyFrom_49 rfl ?_
    refine wp_geti (fi m 406 (nd o i)) dX4_copyFrom_50 fX4_32 (Or.inl rfl) (knd hF11 ho (by omega)) ((fi_ne (by decide)).trans ((fi_ne (by decide)).trans ((fi_ne (by decide)).trans ((fi_ne (by decide)).trans ((fi_ne (by decide)).trans (fi_ne (by decide))))))) ?_
    refine wp_puti dX4_copyFrom_53 pX4_32 (knd hF11 hc (by omega)) ?_
    have hF12 := Full_wfi 406 (nd c i) (fi m 406 (nd o i)) hF11
    refine wp_aload_n dX4_copyFrom_56 rfl ?_
    refine wp_aload_n dX4_copyFrom_57 rfl ?_
    refine wp_geti (fi m 407 (nd o i)) dX4_copyFrom_58 fX4_38 (Or.inl rfl) (knd hF12 ho (by omega)) ((fi_ne (by decide)).trans ((fi_ne (by decide)).trans ((fi_ne (by decide)).trans ((fi_ne (by decide)).trans ((fi_ne (by decide)).trans ((fi_ne (by decide)).trans (fi_ne (by decide)))))))) ?_
    refine wp_puti dX4_copyFrom_61 pX4_38 (knd hF12 hc (by omega)) ?_
    have hF13 := Full_wfi 407 (nd c i) (fi m 407 (nd o i)) hF12
    refine wp_aload_n dX4_copyFrom_64 rfl ?_
    refine wp_aload_n dX4_copyFrom_65 rfl ?_
    refine wp_geti (fi m 408 (nd o i)) dX4_copyFrom_66 fX4_41 (Or.inl rfl) (knd hF13 ho (by omega)) ((fi_ne (by decide)).trans ((fi_ne (by decide)).trans ((fi_ne (by decide)).trans ((fi_ne (by decide)).trans ((fi_ne (by decide)).trans ((fi_ne (by decide)).trans ((fi_ne (by decide)).trans (fi_ne (by decide))))))))) ?_
    refine wp_puti dX4_copyFrom_69 pX4_41 (knd hF13 hc (by omega)) ?_
    have hF14 := Full_wfi 408 (nd c i) (fi m 408 (nd o i)) hF13
    refine wp_aload_n dX4_copyFrom_72 rfl ?_
    refine wp_aload_n dX4_copyFrom_73 rfl ?_
    refine wp_geti (fi m 409 (nd o i)) dX4_copyFrom_74 fX4_44 (Or.inl rfl) (knd hF14 ho (by omega)) ((fi_ne (by decide)).trans ((fi_ne (by decide)).trans ((fi_ne (by decide)).trans ((fi_ne (by decide)).trans ((fi_ne (by decide)).trans ((fi_ne (by decide)).trans ((fi_ne (by decide)).trans ((fi_ne (by decide)).trans (fi_ne (by decide)))))))))) ?_
    refine wp_puti dX4_copyFrom_77 pX4_44 (knd hF14 hc (by omega)) ?_
    have hF15 := Full_wfi 409 (nd c i) (fi m 409 (nd o i)) hF14
    refine wp_aload_n dX4_copyFrom_80 rfl ?_
    refine wp_aload_n dX4_copyFrom_81 rfl ?_
    refine wp_geti (fi m 410 (nd o i)) dX4_copyFrom_82 fX4_47 (Or.inl rfl) (knd hF15 ho (by omega)) ((fi_ne (by decide)).trans ((fi_ne (by decide)).trans ((fi_ne (by decide)).trans ((fi_ne (by decide)).trans ((fi_ne (by decide)).trans ((fi_ne (by decide)).trans ((fi_ne (by decide)).trans ((fi_ne (by decide)).trans ((fi_ne (by decide)).trans (fi_ne (by decide))))))))))) ?_
    refine wp_puti dX4_copyFrom_85 pX4_47 (knd hF15 hc (by omega)) ?_
    have hF16 := Full_wfi 410 (nd c i) (fi m 410 (nd o i)) hF15
    refine wp_vret dX4_copyFrom_88 rfl ?_
    show WP G (d + 3) (0, 0) μX0_copyFrom 33 [.ref c, .ref o, .int (nI i)] [] (wfi (wfi (wfi (wfi (wfi (wfi (wfi (wfi (wfi (wfi (wfi m 400 (nd c i) (fi m 400 (nd o i))) 401 (nd c i) (fi m 401 (nd o i))) 402 (nd c i) (fi m 402 (nd o i))) 403 (nd c i) (fi m 403 (nd o i))) 404 (nd c i) (fi m 404 (nd o i))) 405 (nd c i) (fi m 405 (nd o i))) 406 (nd c i) (fi m 406 (nd o i))) 407 (nd c i) (fi m 407 (nd o i))) 408 (nd c i) (fi m 408 (nd o i))) 409 (nd c i) (fi m 409 (nd o i))) 410 (nd c i) (fi m 410 (nd o i))) _
    refine wp_iinc (nI (i + 1)) dX0_copyFrom_33 rfl (by decide) (nadd (a := i) (b := 1) (by omega)) rfl ?_
    refine wp_goto 10 dX0_copyFrom_36 (by decide) ?_
    refine wp_forget [.ref c, .ref o, .int (nI (i + 1))] ⟨Or.inl rfl, Or.inl rfl, Or.inl rfl, trivial⟩ ?_
    exact e2 hp5

theorem bC_cp2 {G : Cx} {d : Nat} {m : Mm} {Q : Option Value → Mm → Prop} {c o : Nat} {i n : Nat} (hF : Full G m) (hc : IsC G c) (ho : IsC G o) (hn : fi m 6 c = nI n) (h24 : n ≤ 24) (hi : i ≤ n)
    (e1 : ¬ i < n → WP G (d + 3) (0, 0) μX0_copyFrom 88 [.ref c, .ref o, .int (0 : Int32)] [] (wfi m 7 c (fi m 7 o)) Q)
    (e2 : i < n → WP G (d + 3) (0, 0) μX0_copyFrom 49 [.ref c, .ref o, .int (nI (i + 1))] [] (wfi (wfi (wfi m 200 (lk c i) (fi m 200 (lk o i))) 201 (lk c i) (fi m 201 (lk o i))) 202 (lk c i) (fi m 202 (lk o i))) Q) :
    WP G (d + 3) (0, 0) μX0_copyFrom 49 [.ref c, .ref o, .int (nI i)] [] m Q := by
  refine wp_iload_n dX0_copyFrom_49 rfl ?_
  refine wp_aload_n dX0_copyFrom_50 rfl ?_
  refine wp_geti (nI n) dX0_copyFrom_51 fX0_82 (Or.inl rfl) (kc0 hF hc) hn ?_
  refine wp_icmp_ge 78 dX0_copyFrom_54 (by decide) (fun q1 => ?_) (fun q2 => ?_)
  · have hp3 : ¬ i < n := (fun z => q1 (nlt_ (b := n) z (by omega)))
    refine wp_aload_n dX0_copyFrom_78 rfl ?_
    refine wp_aload_n dX0_copyFrom_79 rfl ?_
    refine wp_geti (fi m 7 o) dX0_copyFrom_80 fX0_88 (Or.inl rfl) (kc0 hF ho) rfl ?_
    refine wp_puti dX0_copyFrom_83 pX0_88 (kc0 hF hc) ?_
    have hF4 := Full_wfi 7 c (fi m 7 o) hF
    refine wp_iconst (0 : Int32) dX0_copyFrom_86 (by decide) ?_
    refine wp_istore_n dX0_copyFrom_87 (by decide) rfl ?_
    refine wp_forget [.ref c, .ref o, .int (0 : Int32)] ⟨Or.inl rfl, Or.inl rfl, Or.inl rfl, trivial⟩ ?_
    exact e1 hp3
  · have hp5 : i < n := (nlt q2 (by omega) (by omega))
    refine wp_aload_n dX0_copyFrom_57 rfl ?_
    refine wp_getr (c + 2) dX0_copyFrom_58 fX0_19 (kc0 hF hc) (hF.2 _ _) (rra 2 (isK_le (kc0 hF hc)) (fun _ => rfl)) ?_
    refine wp_iload_n dX0_copyFrom_61 rfl ?_
    refine wp_raldk (n := 24) i (lk c i) dX0_copyFrom_62 (kc hF hc 2 (by decide)) (by decide) (by decide) (lc hc 2 (by decide)) (vin (by omega) (by decide)) (nIc (by omega)) (hF.2 _ _) (rlk hF hc) ?_
    refine wp_aload_n dX0_copyFrom_63 rfl ?_
    refine wp_getr (o + 2) dX0_copyFrom_64 fX0_19 (kc0 hF ho) (hF.2 _ _) (rra 2 (isK_le (kc0 hF ho)) (fun _ => rfl)) ?_
    refine wp_iload_n dX0_copyFrom_67 rfl ?_
    refine wp_raldk (n := 24) i (lk o i) dX0_copyFrom_68 (kc hF ho 2 (by decide)) (by decide) (by decide) (lc ho 2 (by decide)) (vin (by omega) (by decide)) (nIc (by omega)) (hF.2 _ _) (rlk hF ho) ?_
    refine wp_callV (As := [.ref (lk o i)]) (S := []) (b' := (0, 0)) (b := (0, 0)) dX0_copyFrom_69 MX0_85 (klk hF hc (by omega)) rfl rfl rfl rfl (Nat.le_of_ble_eq_true rfl) ?_
    refine WPM.of pX2 (Nat.le_of_ble_eq_true rfl) rfl ?_
    refine wp_aload_n dX2_copyFrom_0 rfl ?_
    refine wp_aload_n dX2_copyFrom_1 rfl ?_
    refine wp_geti (fi m 200 (lk o i)) dX2_copyFrom_2 fX2_7 (Or.inl rfl) (klk hF ho (by omega)) rfl ?_
    refine wp_aload_n dX2_copyFrom_5 rfl ?_
    refine wp_geti (fi m 201 (lk o i)) dX2_copyFrom_6 fX2_13 (Or.inl rfl) (klk hF ho (by omega)) rfl ?_
    refine wp_aload_n dX2_copyFrom_9 rfl ?_
    refine wp_geti (fi m 202 (lk o i)) dX2_copyFrom_10 fX2_16 (Or.inl rfl) (klk hF ho (by omega)) rfl ?_
    refine wp_callV (As := [.int (fi m 200 (lk o i)), .int (fi m 201 (lk o i)), .int (fi m 202 (lk o i))]) (S := []) (b' := (0, 0)) (b := (0, 0)) dX2_copyFrom_13 MX2_19 (klk hF hc (by omega)) rfl rfl rfl rfl (Nat.le_of_ble_eq_true rfl) ?_
    refine WPM.of pX2 (Nat.le_of_ble_eq_true rfl) rfl ?_
    refine wp_aload_n dX2_begin_0 rfl ?_
    refine wp_iload_n dX2_begin_1 rfl ?_
    refine wp_puti dX2_begin_2 pX2_7 (klk hF hc (by omega)) ?_
    have hF6 := Full_wfi 200 (lk c i) (fi m 200 (lk o i)) hF
    refine wp_aload_n dX2_begin_5 rfl ?_
    refine wp_iload_n dX2_begin_6 rfl ?_
    refine wp_puti dX2_begin_7 pX2_13 (klk hF6 hc (by omega)) ?_
    have hF7 := Full_wfi 201 (lk c i) (fi m 201 (lk o i)) hF6
    refine wp_aload_n dX2_begin_10 rfl ?_
    refine wp_iload_n dX2_begin_11 rfl ?_
    refine wp_puti dX2_begin_12 pX2_16 (klk hF7 hc (by omega)) ?_
    have hF8 := Full_wfi 202 (lk c i) (fi m 202 (lk o i)) hF7
    refine wp_vret dX2_begin_15 rfl ?_
    show WP G (d + 2) (0, 0) μX2_copyFrom 16 [.ref (lk c i), .ref (lk o i)] [] (wfi (wfi (wfi m 200 (lk c i) (fi m 200 (lk o i))) 201 (lk c i) (fi m 201 (lk o i))) 202 (lk c i) (fi m 202 (lk o i))) _
    refine wp_vret dX2_copyFrom_16 rfl ?_
    show WP G (d + 3) (0, 0) μX0_copyFrom 72 [.ref c, .ref o, .int (nI i)] [] (wfi (wfi (wfi m 200 (lk c i) (fi m 200 (lk o i))) 201 (lk c i) (fi m 201 (lk o i))) 202 (lk c i) (fi m 202 (lk o i))) _
    refine wp_iinc (nI (i + 1)) dX0_copyFrom_72 rfl (by decide) (nadd (a := i) (b := 1) (by omega)) rfl ?_
    refine wp_goto 49 dX0_copyFrom_75 (by decide) ?_
    refine wp_forget [.ref c, .ref o, .int (nI (i + 1))] ⟨Or.inl rfl, Or.inl rfl, Or.inl rfl, trivial⟩ ?_
    exact e2 hp5

theorem bC_cp3 {G : Cx} {d : Nat} {m : Mm} {Q : Option Value → Mm → Prop} {c o : Nat} {i n : Nat} (hF : Full G m) (hc : IsC G c) (ho : IsC G o) (hn : fi m 7 c = nI n) (h6 : n ≤ 6) (hi : i ≤ n) (hv : lv o i ≠ lv c i)
    (g1 : i < n → (fi m 306 (lv o i)) = 0 ∨ (fi m 306 (lv o i)) = 1)
    (e1 : ¬ i < n → WP G (d + 3) (0, 0) μX0_copyFrom 127 [.ref c, .ref o, .int (0 : Int32)] [] (wfi m 8 c (fi m 8 o)) Q)
    (e2 : i < n → WP G (d + 3) (0, 0) μX0_copyFrom 88 [.ref c, .ref o, .int (nI (i + 1))] [] (wfi (wfi (wfi (wfi (wfi (wfi (wfi (wfi (wfi m 300 (lv c i) (fi m 300 (lv o i))) 301 (lv c i) (fi m 301 (lv o i))) 302 (lv c i) (fi m 302 (lv o i))) 303 (lv c i) (fi m 303 (lv o i))) 304 (lv c i) (fi m 304 (lv o i))) 305 (lv c i) (0 : Int32)) 306 (lv c i) (0 : Int32)) 305 (lv c i) (fi m 305 (lv o i))) 306 (lv c i) (fi m 306 (lv o i))) Q) :
    WP G (d + 3) (0, 0) μX0_copyFrom 88 [.ref c, .ref o, .int (nI i)] [] m Q := by
  refine wp_iload_n dX0_copyFrom_88 rfl ?_
  refine wp_aload_n dX0_copyFrom_89 rfl ?_
  refine wp_geti (nI n) dX0_copyFrom_90 fX0_88 (Or.inl rfl) (kc0 hF hc) hn ?_
  refine wp_icmp_ge 117 dX0_copyFrom_93 (by decide) (fun q1 => ?_) (fun q2 => ?_)
  · have hp3 : ¬ i < n := (fun z => q1 (nlt_ (b := n) z (by omega)))
    refine wp_aload_n dX0_copyFrom_117 rfl ?_
    refine wp_aload_n dX0_copyFrom_118 rfl ?_
    refine wp_geti (fi m 8 o) dX0_copyFrom_119 fX0_94 (Or.inl rfl) (kc0 hF ho) rfl ?_
    refine wp_puti dX0_copyFrom_122 pX0_94 (kc0 hF hc) ?_
    have hF4 := Full_wfi 8 c (fi m 8 o) hF
    refine wp_iconst (0 : Int32) dX0_copyFrom_125 (by decide) ?_
    refine wp_istore_n dX0_copyFrom_126 (by decide) rfl ?_
    refine wp_forget [.ref c, .ref o, .int (0 : Int32)] ⟨Or.inl rfl, Or.inl rfl, Or.inl rfl, trivial⟩ ?_
    exact e1 hp3
  · have hp5 : i < n := (nlt q2 (by omega) (by omega))
    refine wp_aload_n dX0_copyFrom_96 rfl ?_
    refine wp_getr (c + 3) dX0_copyFrom_97 fX0_25 (kc0 hF hc) (hF.2 _ _) (rra 3 (isK_le (kc0 hF hc)) (fun _ => rfl)) ?_
    refine wp_iload_n dX0_copyFrom_100 rfl ?_
    refine wp_raldk (n := 6) i (lv c i) dX0_copyFrom_101 (kc hF hc 3 (by decide)) (by decide) (by decide) (lc hc 3 (by decide)) (vin (by omega) (by decide)) (nIc (by omega)) (hF.2 _ _) (rlv hF hc) ?_
    refine wp_aload_n dX0_copyFrom_102 rfl ?_
    refine wp_getr (o + 3) dX0_copyFrom_103 fX0_25 (kc0 hF ho) (hF.2 _ _) (rra 3 (isK_le (kc0 hF ho)) (fun _ => rfl)) ?_
    refine wp_iload_n dX0_copyFrom_106 rfl ?_
    refine wp_raldk (n := 6) i (lv o i) dX0_copyFrom_107 (kc hF ho 3 (by decide)) (by decide) (by decide) (lc ho 3 (by decide)) (vin (by omega) (by decide)) (nIc (by omega)) (hF.2 _ _) (rlv hF ho) ?_
    refine wp_callV (As := [.ref (lv o i)]) (S := []) (b' := (0, 0)) (b := (0, 0)) dX0_copyFrom_108 MX0_91 (klv hF hc (by omega)) rfl rfl rfl rfl (Nat.le_of_ble_eq_true rfl) ?_
    refine WPM.of pX3 (Nat.le_of_ble_eq_true rfl) rfl ?_
    refine wp_aload_n dX3_copyFrom_0 rfl ?_
    refine wp_aload_n dX3_copyFrom_1 rfl ?_
    refine wp_geti (fi m 300 (lv o i)) dX3_copyFrom_2 fX3_7 (Or.inl rfl) (klv hF ho (by omega)) rfl ?_
    refine wp_aload_n dX3_copyFrom_5 rfl ?_
    refine wp_geti (fi m 301 (lv o i)) dX3_copyFrom_6 fX3_13 (Or.inl rfl) (klv hF ho (by omega)) rfl ?_
    refine wp_aload_n dX3_copyFrom_9 rfl ?_
    refine wp_geti (fi m 302 (lv o i)) dX3_copyFrom_10 fX3_16 (Or.inl rfl) (klv hF ho (by omega)) rfl ?_
    refine wp_aload_n dX3_copyFrom_13 rfl ?_
    refine wp_geti (fi m 303 (lv o i)) dX3_copyFrom_14 fX3_19 (Or.inl rfl) (klv hF ho (by omega)) rfl ?_
    refine wp_aload_n dX3_copyFrom_17 rfl ?_
    refine wp_geti (fi m 304 (lv o i)) dX3_copyFrom_18 fX3_22 (Or.inl rfl) (klv hF ho (by omega)) rfl ?_
    refine wp_callV (As := [.int (fi m 300 (lv o i)), .int (fi m 301 (lv o i)), .int (fi m 302 (lv o i)), .int (fi m 303 (lv o i)), .int (fi m 304 (lv o i))]) (S := []) (b' := (0, 0)) (b := (0, 0)) dX3_copyFrom_21 MX3_32 (klv hF hc (by omega)) rfl rfl rfl rfl (Nat.le_of_ble_eq_true rfl) ?_
    refine WPM.of pX3 (Nat.le_of_ble_eq_true rfl) rfl ?_
    refine wp_aload_n dX3_begin_0 rfl ?_
    refine wp_iload_n dX3_begin_1 rfl ?_
    refine wp_puti dX3_begin_2 pX3_7 (klv hF hc (by omega)) ?_
    have hF6 := Full_wfi 300 (lv c i) (fi m 300 (lv o i)) hF
    refine wp_aload_n dX3_begin_5 rfl ?_
    refine wp_iload_n dX3_begin_6 rfl ?_
    refine wp_puti dX3_begin_7 pX3_13 (klv hF6 hc (by omega)) ?_
    have hF7 := Full_wfi 301 (lv c i) (fi m 301 (lv o i)) hF6
    refine wp_aload_n dX3_begin_10 rfl ?_
    refine wp_iload_n dX3_begin_11 rfl ?_
    refine wp_puti dX3_begin_12 pX3_16 (klv hF7 hc (by omega)) ?_
    have hF8 := Full_wfi 302 (lv c i) (fi m 302 (lv o i)) hF7
    refine wp_aload_n dX3_begin_15 rfl ?_
    refine wp_iload dX3_begin_16 rfl ?_
    refine wp_puti dX3_begin_18 pX3_19 (klv hF8 hc (by omega)) ?_
    have hF9 := Full_wfi 303 (lv c i) (fi m 303 (lv o i)) hF8
    refine wp_aload_n dX3_begin_21 rfl ?_
    refine wp_iload dX3_begin_22 rfl ?_
    refine wp_puti dX3_begin_24 pX3_22 (klv hF9 hc (by omega)) ?_
    have hF10 := Full_wfi 304 (lv c i) (fi m 304 (lv o i)) hF9
    refine wp_aload_n dX3_begin_27 rfl ?_
    refine wp_iconst (0 : Int32) dX3_begin_28 (by decide) ?_
    refine wp_puti dX3_begin_29 pX3_25 (klv hF10 hc (by omega)) ?_
    have hF11 := Full_wfi 305 (lv c i) (0 : Int32) hF10
    refine wp_aload_n dX3_begin_32 rfl ?_
    refine wp_iconst (0 : Int32) dX3_begin_33 (by decide) ?_
    refine wp_putz dX3_begin_34 pX3_28 (klv hF11 hc (by omega)) (Or.inl rfl) ?_
    have hF12 := Full_wfi 306 (lv c i) (0 : Int32) hF11
    refine wp_vret dX3_begin_37 rfl ?_
    show WP G (d + 2) (0, 0) μX3_copyFrom 24 [.ref (lv c i), .ref (lv o i)] [] (wfi (wfi (wfi (wfi (wfi (wfi (wfi m 300 (lv c i) (fi m 300 (lv o i))) 301 (lv c i) (fi m 301 (lv o i))) 302 (lv c i) (fi m 302 (lv o i))) 303 (lv c i) (fi m 303 (lv o i))) 304 (lv c i) (fi m 304 (lv o i))) 305 (lv c i) (0 : Int32)) 306 (lv c i) (0 : Int32)) _
    refine wp_aload_n dX3_copyFrom_24 rfl ?_
    refine wp_aload_n dX3_copyFrom_25 rfl ?_
    refine wp_geti (fi m 305 (lv o i)) dX3_copyFrom_26 fX3_25 (Or.inl rfl) (klv hF12 ho (by omega)) ((fi_ne (by decide)).trans ((fi_na hv).trans ((fi_ne (by decide)).trans ((fi_ne (by decide)).trans ((fi_ne (by decide)).trans ((fi_ne (by decide)).trans (fi_ne (by decide)))))))) ?_
    refine wp_puti dX3_copyFrom_29 pX3_25 (klv hF12 hc (by omega)) ?_
    have hF13 := Full_wfi 305 (lv c i) (fi m 305 (lv o i)) hF12
    refine wp_aload_n dX3_copyFrom_32 rfl ?_
    refine wp_aload_n dX3_copyFrom_33 rfl ?_
    refine wp_geti (fi m 306 (lv o i)) dX3_copyFrom_34 fX3_28 (Or.inr rfl) (klv hF13 ho (by omega)) ((fi_ne (by decide)).trans ((fi_na hv).trans ((fi_ne (by decide)).trans ((fi_ne (by decide)).trans ((fi_ne (by decide)).trans ((fi_ne (by decide)).trans ((fi_ne (by decide)).trans (fi_ne (by decide))))))))) ?_
    refine wp_putz dX3_copyFrom_37 pX3_28 (klv hF13 hc (by omega)) (g1 hp5) ?_
    have hF14 := Full_wfi 306 (lv c i) (fi m 306 (lv o i)) hF13
    refine wp_vret dX3_copyFrom_40 rfl ?_
    show WP G (d + 3) (0, 0) μX0_copyFrom 111 [.ref c, .ref o, .int (nI i)] [] (wfi (wfi (wfi (wfi (wfi (wfi (wfi (wfi (wfi m 300 (lv c i) (fi m 300 (lv o i))) 301 (lv c i) (fi m 301 (lv o i))) 302 (lv c i) (fi m 302 (lv o i))) 303 (lv c i) (fi m 303 (lv o i))) 304 (lv c i) (fi m 304 (lv o i))) 305 (lv c i) (0 : Int32)) 306 (lv c i) (0 : Int32)) 305 (lv c i) (fi m 305 (lv o i))) 306 (lv c i) (fi m 306 (lv o i))) _
    refine wp_iinc (nI (i + 1)) dX0_copyFrom_111 rfl (by decide) (nadd (a := i) (b := 1) (by omega)) rfl ?_
    refine wp_goto 88 dX0_copyFrom_114 (by decide) ?_
    refine wp_forget [.ref c, .ref o, .int (nI (i + 1))] ⟨Or.inl rfl, Or.inl rfl, Or.inl rfl, trivial⟩ ?_
    exact e2 hp5

theorem bC_cp4 {G : Cx} {d : Nat} {m : Mm} {Q : Option Value → Mm → Prop} {c o : Nat} {i n : Nat} (hF : Full G m) (hc : IsC G c) (ho : IsC G o) (hn : fi m 8 c = nI n) (h8 : n ≤ 8) (hi : i ≤ n) (hv : ht o i ≠ ht c i)
    (g1 : i < n → (fi m 106 (ht o i)) = 0 ∨ (fi m 106 (ht o i)) = 1)
    (e1 : ¬ i < n → ∀ mc14 : Mm, Cpy (wfi (wfi (wfi (wfi (wfi (wfi (wfi (wfi (wfi (wfi m 500 (c + 6) (fi m 500 (o + 6))) 501 (c + 6) (fi m 501 (o + 6))) 502 (c + 6) (fi m 502 (o + 6))) 503 (c + 6) (fi m 503 (o + 6))) 504 (c + 6) (fi m 504 (o + 6))) 505 (c + 6) (fi m 505 (o + 6))) 900 (c + 7) (fi m 900 (o + 7))) 901 (c + 7) (fi m 901 (o + 7))) 902 (c + 7) (fi m 902 (o + 7))) 903 (c + 7) (fi m 903 (o + 7))) mc14 (o + 9) (c + 9) 0 0 12 → WPM G (d + 2) (0, 0) μX8_copyFrom [.ref (c + 10), .ref (o + 10)] (wfl (wfl (wfl (wfi (wfi mc14 601 (c + 8) (fi m 601 (o + 8))) 602 (c + 8) (fi m 602 (o + 8))) 603 (c + 8) (fl m 603 (o + 8))) 604 (c + 8) (fl m 604 (o + 8))) 605 (c + 8) (fl m 605 (o + 8))) (fun r' m' => WP G (d + 3) (0, 0) μX0_copyFrom 212 [.ref c, .ref o, lvU] (r'.toList ++ []) m' Q))
    (e2 : i < n → WP G (d + 3) (0, 0) μX0_copyFrom 127 [.ref c, .ref o, .int (nI (i + 1))] [] (wai (wfi (wfi (wfi (wfi (wfi (wfi (wfi (wfi (wfi (wfi (wfi m 100 (ht c i) (fi m 100 (ht o i))) 101 (ht c i) (fi m 101 (ht o i))) 102 (ht c i) (fi m 102 (ht o i))) 103 (ht c i) (fi m 103 (ht o i))) 104 (ht c i) (fi m 104 (ht o i))) 105 (ht c i) (0 : Int32)) 106 (ht c i) (0 : Int32)) 107 (ht c i) (0 : Int32)) 105 (ht c i) (fi m 105 (ht o i))) 106 (ht c i) (fi m 106 (ht o i))) 107 (ht c i) (fi m 107 (ht o i))) (c + 5) i (ai m (o + 5) i)) Q) :
    WP G (d + 3) (0, 0) μX0_copyFrom 127 [.ref c, .ref o, .int (nI i)] [] m Q := by
  refine wp_iload_n dX0_copyFrom_127 rfl ?_
  refine wp_aload_n dX0_copyFrom_128 rfl ?_
  refine wp_geti (nI n) dX0_copyFrom_129 fX0_94 (Or.inl rfl) (kc0 hF hc) hn ?_
  refine wp_icmp_ge 168 dX0_copyFrom_132 (by decide) (fun q1 => ?_) (fun q2 => ?_)
  · have hp3 : ¬ i < n := (fun z => q1 (nlt_ (b := n) z (by omega)))
    refine wp_aload_n dX0_copyFrom_168 rfl ?_
    refine wp_getr (c + 6) dX0_copyFrom_169 fX0_42 (kc0 hF hc) (hF.2 _ _) (rra 6 (isK_le (kc0 hF hc)) (fun _ => rfl)) ?_
    refine wp_aload_n dX0_copyFrom_172 rfl ?_
    refine wp_getr (o + 6) dX0_copyFrom_173 fX0_42 (kc0 hF ho) (hF.2 _ _) (rra 6 (isK_le (kc0 hF ho)) (fun _ => rfl)) ?_
    refine wp_callV (As := [.ref (o + 6)]) (S := []) (b' := (0, 0)) (b := (0, 0)) dX0_copyFrom_176 MX0_100 (kc hF hc 6 (by decide)) rfl rfl rfl rfl (Nat.le_of_ble_eq_true rfl) ?_
    refine WPM.of pX5 (Nat.le_of_ble_eq_true rfl) rfl ?_
    refine wp_aload_n dX5_copyFrom_0 rfl ?_
    refine wp_aload_n dX5_copyFrom_1 rfl ?_
    refine wp_geti (fi m 500 (o + 6)) dX5_copyFrom_2 fX5_7 (Or.inl rfl) (kc hF ho 6 (by decide)) rfl ?_
    refine wp_aload_n dX5_copyFrom_5 rfl ?_
    refine wp_geti (fi m 501 (o + 6)) dX5_copyFrom_6 fX5_16 (Or.inl rfl) (kc hF ho 6 (by decide)) rfl ?_
    refine wp_aload_n dX5_copyFrom_9 rfl ?_
    refine wp_geti (fi m 502 (o + 6)) dX5_copyFrom_10 fX5_19 (Or.inl rfl) (kc hF ho 6 (by decide)) rfl ?_
    refine wp_aload_n dX5_copyFrom_13 rfl ?_
    refine wp_geti (fi m 503 (o + 6)) dX5_copyFrom_14 fX5_13 (Or.inl rfl) (kc hF ho 6 (by decide)) rfl ?_
    refine wp_aload_n dX5_copyFrom_17 rfl ?_
    refine wp_geti (fi m 504 (o + 6)) dX5_copyFrom_18 fX5_22 (Or.inl rfl) (kc hF ho 6 (by decide)) rfl ?_
    refine wp_aload_n dX5_copyFrom_21 rfl ?_
    refine wp_geti (fi m 505 (o + 6)) dX5_copyFrom_22 fX5_25 (Or.inl rfl) (kc hF ho 6 (by decide)) rfl ?_
    refine wp_callV (As := [.int (fi m 500 (o + 6)), .int (fi m 501 (o + 6)), .int (fi m 502 (o + 6)), .int (fi m 503 (o + 6)), .int (fi m 504 (o + 6)), .int (fi m 505 (o + 6))]) (S := []) (b' := (0, 0)) (b := (0, 0)) dX5_copyFrom_25 MX5_28 (kc hF hc 6 (by decide)) rfl rfl rfl rfl (Nat.le_of_ble_eq_true rfl) ?_
    refine WPM.of pX5 (Nat.le_of_ble_eq_true rfl) rfl ?_
    refine wp_aload_n dX5_begin_0 rfl ?_
    refine wp_iload_n dX5_begin_1 rfl ?_
    refine wp_puti dX5_begin_2 pX5_7 (kc hF hc 6 (by decide)) ?_
    have hF4 := Full_wfi 500 (c + 6) (fi m 500 (o + 6)) hF
    refine wp_aload_n dX5_begin_5 rfl ?_
    refine wp_iload_n dX5_begin_6 rfl ?_
    refine wp_puti dX5_begin_7 pX5_16 (kc hF4 hc 6 (by decide)) ?_
    have hF5 := Full_wfi 501 (c + 6) (fi m 501 (o + 6)) hF4
    refine wp_aload_n dX5_begin_10 rfl ?_
    refine wp_iload_n dX5_begin_11 rfl ?_
    refine wp_puti dX5_begin_12 pX5_19 (kc hF5 hc 6 (by decide)) ?_
    have hF6 := Full_wfi 502 (c + 6) (fi m 502 (o + 6)) hF5
    refine wp_aload_n dX5_begin_15 rfl ?_
    refine wp_iload dX5_begin_16 rfl ?_
    refine wp_puti dX5_begin_18 pX5_13 (kc hF6 hc 6 (by decide)) ?_
    have hF7 := Full_wfi 503 (c + 6) (fi m 503 (o + 6)) hF6
    refine wp_aload_n dX5_begin_21 rfl ?_
    refine wp_iload dX5_begin_22 rfl ?_
    refine wp_puti dX5_begin_24 pX5_22 (kc hF7 hc 6 (by decide)) ?_
    have hF8 := Full_wfi 504 (c + 6) (fi m 504 (o + 6)) hF7
    refine wp_aload_n dX5_begin_27 rfl ?_
    refine wp_iload dX5_begin_28 rfl ?_
    refine wp_puti dX5_begin_30 pX5_25 (kc hF8 hc 6 (by decide)) ?_
    have hF9 := Full_wfi 505 (c + 6) (fi m 505 (o + 6)) hF8
    refine wp_vret dX5_begin_33 rfl ?_
    show WP G (d + 2) (0, 0) μX5_copyFrom 28 [.ref (c + 6), .ref (o + 6)] [] (wfi (wfi (wfi (wfi (wfi (wfi m 500 (c + 6) (fi m 500 (o + 6))) 501 (c + 6) (fi m 501 (o + 6))) 502 (c + 6) (fi m 502 (o + 6))) 503 (c + 6) (fi m 503 (o + 6))) 504 (c + 6) (fi m 504 (o + 6))) 505 (c + 6) (fi m 505 (o + 6))) _
    refine wp_vret dX5_copyFrom_28 rfl ?_
    show WP G (d + 3) (0, 0) μX0_copyFrom 179 [.ref c, .ref o, .int (nI i)] [] (wfi (wfi (wfi (wfi (wfi (wfi m 500 (c + 6) (fi m 500 (o + 6))) 501 (c + 6) (fi m 501 (o + 6))) 502 (c + 6) (fi m 502 (o + 6))) 503 (c + 6) (fi m 503 (o + 6))) 504 (c + 6) (fi m 504 (o + 6))) 505 (c + 6) (fi m 505 (o + 6))) _
    refine wp_aload_n dX0_copyFrom_179 rfl ?_
    refine wp_getr (c + 7) dX0_copyFrom_180 fX0_49 (kc0 hF9 hc) (hF9.2 _ _) (rra 7 (isK_le (kc0 hF9 hc)) (fun _ => rfl)) ?_
    refine wp_aload_n dX0_copyFrom_183 rfl ?_
    refine wp_getr (o + 7) dX0_copyFrom_184 fX0_49 (kc0 hF9 ho) (hF9.2 _ _) (rra 7 (isK_le (kc0 hF9 ho)) (fun _ => rfl)) ?_
    refine wp_callV (As := [.ref (o + 7)]) (S := []) (b' := (0, 0)) (b := (0, 0)) dX0_copyFrom_187 MX0_103 (kc hF9 hc 7 (by decide)) rfl rfl rfl rfl (Nat.le_of_ble_eq_true rfl) ?_
    refine WPM.of pX9 (Nat.le_of_ble_eq_true rfl) rfl ?_
    refine wp_aload_n dX9_copyFrom_0 rfl ?_
    refine wp_aload_n dX9_copyFrom_1 rfl ?_
    refine wp_geti (fi m 900 (o + 7)) dX9_copyFrom_2 fX9_7 (Or.inl rfl) (kc hF9 ho 7 (by decide)) ((fi_ne (by decide)).trans ((fi_ne (by decide)).trans ((fi_ne (by decide)).trans ((fi_ne (by decide)).trans ((fi_ne (by decide)).trans (fi_ne (by decide))))))) ?_
    refine wp_aload_n dX9_copyFrom_5 rfl ?_
    refine wp_geti (fi m 901 (o + 7)) dX9_copyFrom_6 fX9_13 (Or.inl rfl) (kc hF9 ho 7 (by decide)) ((fi_ne (by decide)).trans ((fi_ne (by decide)).trans ((fi_ne (by decide)).trans ((fi_ne (by decide)).trans ((fi_ne (by decide)).trans (fi_ne (by decide))))))) ?_
    refine wp_aload_n dX9_copyFrom_9 rfl ?_
    refine wp_geti (fi m 902 (o + 7)) dX9_copyFrom_10 fX9_16 (Or.inl rfl) (kc hF9 ho 7 (by decide)) ((fi_ne (by decide)).trans ((fi_ne (by decide)).trans ((fi_ne (by decide)).trans ((fi_ne (by decide)).trans ((fi_ne (by decide)).trans (fi_ne (by decide))))))) ?_
    refine wp_aload_n dX9_copyFrom_13 rfl ?_
    refine wp_geti (fi m 903 (o + 7)) dX9_copyFrom_14 fX9_19 (Or.inl rfl) (kc hF9 ho 7 (by decide)) ((fi_ne (by decide)).trans ((fi_ne (by decide)).trans ((fi_ne (by decide)).trans ((fi_ne (by decide)).trans ((fi_ne (by decide)).trans (fi_ne (by decide))))))) ?_
    refine wp_callV (As := [.int (fi m 900 (o + 7)), .int (fi m 901 (o + 7)), .int (fi m 902 (o + 7)), .int (fi m 903 (o + 7))]) (S := []) (b' := (0, 0)) (b := (0, 0)) dX9_copyFrom_17 MX9_22 (kc hF9 hc 7 (by decide)) rfl rfl rfl rfl (Nat.le_of_ble_eq_true rfl) ?_
    refine WPM.of pX9 (Nat.le_of_ble_eq_true rfl) rfl ?_
    refine wp_aload_n dX9_begin_0 rfl ?_
    refine wp_iload_n dX9_begin_1 rfl ?_
    refine wp_puti dX9_begin_2 pX9_7 (kc hF9 hc 7 (by decide)) ?_
    have hF10 := Full_wfi 900 (c + 7) (fi m 900 (o + 7)) hF9
    refine wp_aload_n dX9_begin_5 rfl ?_
    refine wp_iload_n dX9_begin_6 rfl ?_
    refine wp_puti dX9_begin_7 pX9_13 (kc hF10 hc 7 (by decide)) ?_
    have hF11 := Full_wfi 901 (c + 7) (fi m 901 (o + 7)) hF10
    refine wp_aload_n dX9_begin_10 rfl ?_
    refine wp_iload_n dX9_begin_11 rfl ?_
    refine wp_puti dX9_begin_12 pX9_16 (kc hF11 hc 7 (by decide)) ?_
    have hF12 := Full_wfi 902 (c + 7) (fi m 902 (o + 7)) hF11
    refine wp_aload_n dX9_begin_15 rfl ?_
    refine wp_iload dX9_begin_16 rfl ?_
    refine wp_puti dX9_begin_18 pX9_19 (kc hF12 hc 7 (by decide)) ?_
    have hF13 := Full_wfi 903 (c + 7) (fi m 903 (o + 7)) hF12
    refine wp_vret dX9_begin_21 rfl ?_
    show WP G (d + 2) (0, 0) μX9_copyFrom 20 [.ref (c + 7), .ref (o + 7)] [] (wfi (wfi (wfi (wfi (wfi (wfi (wfi (wfi (wfi (wfi m 500 (c + 6) (fi m 500 (o + 6))) 501 (c + 6) (fi m 501 (o + 6))) 502 (c + 6) (fi m 502 (o + 6))) 503 (c + 6) (fi m 503 (o + 6))) 504 (c + 6) (fi m 504 (o + 6))) 505 (c + 6) (fi m 505 (o + 6))) 900 (c + 7) (fi m 900 (o + 7))) 901 (c + 7) (fi m 901 (o + 7))) 902 (c + 7) (fi m 902 (o + 7))) 903 (c + 7) (fi m 903 (o + 7))) _
    refine wp_vret dX9_copyFrom_20 rfl ?_
    show WP G (d + 3) (0, 0) μX0_copyFrom 190 [.ref c, .ref o, .int (nI i)] [] (wfi (wfi (wfi (wfi (wfi (wfi (wfi (wfi (wfi (wfi m 500 (c + 6) (fi m 500 (o + 6))) 501 (c + 6) (fi m 501 (o + 6))) 502 (c + 6) (fi m 502 (o + 6))) 503 (c + 6) (fi m 503 (o + 6))) 504 (c + 6) (fi m 504 (o + 6))) 505 (c + 6) (fi m 505 (o + 6))) 900 (c + 7) (fi m 900 (o + 7))) 901 (c + 7) (fi m 901 (o + 7))) 902 (c + 7) (fi m 902 (o + 7))) 903 (c + 7) (fi m 903 (o + 7))) _
    refine wp_aload_n dX0_copyFrom_190 rfl ?_
    refine wp_getr (c + 8) dX0_copyFrom_191 fX0_56 (kc0 hF13 hc) (hF13.2 _ _) (rra 8 (isK_le (kc0 hF13 hc)) (fun _ => rfl)) ?_
    refine wp_aload_n dX0_copyFrom_194 rfl ?_
    refine wp_getr (o + 8) dX0_copyFrom_195 fX0_56 (kc0 hF13 ho) (hF13.2 _ _) (rra 8 (isK_le (kc0 hF13 ho)) (fun _ => rfl)) ?_
    refine wp_callV (As := [.ref (o + 8)]) (S := []) (b' := (0, 0)) (b := (0, 0)) dX0_copyFrom_198 MX0_106 (kc hF13 hc 8 (by decide)) rfl rfl rfl rfl (Nat.le_of_ble_eq_true rfl) ?_
    refine WPM.of pX6 (Nat.le_of_ble_eq_true rfl) rfl ?_
    refine wp_aload_n dX6_copyFrom_0 rfl ?_
    refine wp_getr (o + 9) dX6_copyFrom_1 fX6_9 (kc hF13 ho 8 (by decide)) (hF13.2 _ _) (rra 1 (isK_le (kc hF13 ho 8 (by decide))) (fun _ => rfl)) ?_
    refine wp_iconst (0 : Int32) dX6_copyFrom_4 (by decide) ?_
    refine wp_aload_n dX6_copyFrom_5 rfl ?_
    refine wp_getr (c + 9) dX6_copyFrom_6 fX6_9 (kc hF13 hc 8 (by decide)) (hF13.2 _ _) (rra 1 (isK_le (kc hF13 hc 8 (by decide))) (fun _ => rfl)) ?_
    refine wp_iconst (0 : Int32) dX6_copyFrom_9 (by decide) ?_
    refine wp_bipush (12 : Int32) dX6_copyFrom_10 (by decide) ?_
    refine wp_cpy (n0 := 12) (n1 := 12) 0 0 12 dX6_copyFrom_12 YX6_32 (kc hF13 ho 9 (by decide)) (kc hF13 hc 9 (by decide)) (lc ho 9 (by decide)) (lc hc 9 (by decide)) (by decide) (by decide) (by decide) rfl rfl rfl (by omega) (by omega) (Nat.le_of_ble_eq_true rfl) ?_
    intro mc14 hm15
    have hF16 := hm15.full hF13
    refine wp_aload_n dX6_copyFrom_15 rfl ?_
    refine wp_aload_n dX6_copyFrom_16 rfl ?_
    refine wp_geti (fi m 601 (o + 8)) dX6_copyFrom_17 fX6_15 (Or.inl rfl) (kc hF16 ho 8 (by decide)) (hm15.fi.trans ((fi_ne (by decide)).trans ((fi_ne (by decide)).trans ((fi_ne (by decide)).trans ((fi_ne (by decide)).trans ((fi_ne (by decide)).trans ((fi_ne (by decide)).trans ((fi_ne (by decide)).trans ((fi_ne (by decide)).trans ((fi_ne (by decide)).trans (fi_ne (by decide)))))))))))) ?_
    refine wp_puti dX6_copyFrom_20 pX6_15 (kc hF16 hc 8 (by decide)) ?_
    have hF17 := Full_wfi 601 (c + 8) (fi m 601 (o + 8)) hF16
    refine wp_aload_n dX6_copyFrom_23 rfl ?_
    refine wp_aload_n dX6_copyFrom_24 rfl ?_
    refine wp_geti (fi m 602 (o + 8)) dX6_copyFrom_25 fX6_19 (Or.inl rfl) (kc hF17 ho 8 (by decide)) ((fi_ne (by decide)).trans (hm15.fi.trans ((fi_ne (by decide)).trans ((fi_ne (by decide)).trans ((fi_ne (by decide)).trans ((fi_ne (by decide)).trans ((fi_ne (by decide)).trans ((fi_ne (by decide)).trans ((fi_ne (by decide)).trans ((fi_ne (by decide)).trans ((fi_ne (by decide)).trans (fi_ne (by decide))))))))))))) ?_
    refine wp_puti dX6_copyFrom_28 pX6_19 (kc hF17 hc 8 (by decide)) ?_
    have hF18 := Full_wfi 602 (c + 8) (fi m 602 (o + 8)) hF17
    refine wp_aload_n dX6_copyFrom_31 rfl ?_
    refine wp_aload_n dX6_copyFrom_32 rfl ?_
    refine wp_getl (fl m 603 (o + 8)) dX6_copyFrom_33 fX6_22 (kc hF18 ho 8 (by decide)) (fl_wfi.trans (fl_wfi.trans (hm15.fl.trans (fl_wfi.trans (fl_wfi.trans (fl_wfi.trans (fl_wfi.trans (fl_wfi.trans (fl_wfi.trans (fl_wfi.trans (fl_wfi.trans (fl_wfi.trans fl_wfi)))))))))))) ?_
    refine wp_putl dX6_copyFrom_36 pX6_22 (kc hF18 hc 8 (by decide)) ?_
    have hF19 := Full_wfl 603 (c + 8) (fl m 603 (o + 8)) hF18
    refine wp_aload_n dX6_copyFrom_39 rfl ?_
    refine wp_aload_n dX6_copyFrom_40 rfl ?_
    refine wp_getl (fl m 604 (o + 8)) dX6_copyFrom_41 fX6_26 (kc hF19 ho 8 (by decide)) ((fl_ne (by decide)).trans (fl_wfi.trans (fl_wfi.trans (hm15.fl.trans (fl_wfi.trans (fl_wfi.trans (fl_wfi.trans (fl_wfi.trans (fl_wfi.trans (fl_wfi.trans (fl_wfi.trans (fl_wfi.trans (fl_wfi.trans fl_wfi))))))))))))) ?_
    refine wp_putl dX6_copyFrom_44 pX6_26 (kc hF19 hc 8 (by decide)) ?_
    have hF20 := Full_wfl 604 (c + 8) (fl m 604 (o + 8)) hF19
    refine wp_aload_n dX6_copyFrom_47 rfl ?_
    refine wp_aload_n dX6_copyFrom_48 rfl ?_
    refine wp_getl (fl m 605 (o + 8)) dX6_copyFrom_49 fX6_29 (kc hF20 ho 8 (by decide)) ((fl_ne (by decide)).trans ((fl_ne (by decide)).trans (fl_wfi.trans (fl_wfi.trans (hm15.fl.trans (fl_wfi.trans (fl_wfi.trans (fl_wfi.trans (fl_wfi.trans (fl_wfi.trans (fl_wfi.trans (fl_wfi.trans (fl_wfi.trans (fl_wfi.trans fl_wfi)))))))))))))) ?_
    refine wp_putl dX6_copyFrom_52 pX6_29 (kc hF20 hc 8 (by decide)) ?_
    have hF21 := Full_wfl 605 (c + 8) (fl m 605 (o + 8)) hF20
    refine wp_vret dX6_copyFrom_55 rfl ?_
    show WP G (d + 3) (0, 0) μX0_copyFrom 201 [.ref c, .ref o, .int (nI i)] [] (wfl (wfl (wfl (wfi (wfi mc14 601 (c + 8) (fi m 601 (o + 8))) 602 (c + 8) (fi m 602 (o + 8))) 603 (c + 8) (fl m 603 (o + 8))) 604 (c + 8) (fl m 604 (o + 8))) 605 (c + 8) (fl m 605 (o + 8))) _
    refine wp_aload_n dX0_copyFrom_201 rfl ?_
    refine wp_getr (c + 10) dX0_copyFrom_202 fX0_63 (kc0 hF21 hc) (hF21.2 _ _) (rra 10 (isK_le (kc0 hF21 hc)) (fun _ => rfl)) ?_
    refine wp_aload_n dX0_copyFrom_205 rfl ?_
    refine wp_getr (o + 10) dX0_copyFrom_206 fX0_63 (kc0 hF21 ho) (hF21.2 _ _) (rra 10 (isK_le (kc0 hF21 ho)) (fun _ => rfl)) ?_
    refine wp_forget [.ref c, .ref o, lvU] ⟨Or.inl rfl, Or.inl rfl, Or.inr rfl, trivial⟩ ?_
    refine wp_callV (As := [.ref (o + 10)]) (S := []) (b' := (0, 0)) (b := (0, 0)) dX0_copyFrom_209 MX0_109 (kr0 hF21 (isRc hc)) rfl rfl rfl rfl (Nat.le_of_ble_eq_true rfl) ?_
    exact e1 hp3 mc14 hm15
  · have hp22 : i < n := (nlt q2 (by omega) (by omega))
    refine wp_aload_n dX0_copyFrom_135 rfl ?_
    refine wp_getr (c + 4) dX0_copyFrom_136 fX0_31 (kc0 hF hc) (hF.2 _ _) (rra 4 (isK_le (kc0 hF hc)) (fun _ => rfl)) ?_
    refine wp_iload_n dX0_copyFrom_139 rfl ?_
    refine wp_raldk (n := 8) i (ht c i) dX0_copyFrom_140 (kc hF hc 4 (by decide)) (by decide) (by decide) (lc hc 4 (by decide)) (vin (by omega) (by decide)) (nIc (by omega)) (hF.2 _ _) (rht hF hc) ?_
    refine wp_aload_n dX0_copyFrom_141 rfl ?_
    refine wp_getr (o + 4) dX0_copyFrom_142 fX0_31 (kc0 hF ho) (hF.2 _ _) (rra 4 (isK_le (kc0 hF ho)) (fun _ => rfl)) ?_
    refine wp_iload_n dX0_copyFrom_145 rfl ?_
    refine wp_raldk (n := 8) i (ht o i) dX0_copyFrom_146 (kc hF ho 4 (by decide)) (by decide) (by decide) (lc ho 4 (by decide)) (vin (by omega) (by decide)) (nIc (by omega)) (hF.2 _ _) (rht hF ho) ?_
    refine wp_callV (As := [.ref (ht o i)]) (S := []) (b' := (0, 0)) (b := (0, 0)) dX0_copyFrom_147 MX0_97 (kht hF hc (by omega)) rfl rfl rfl rfl (Nat.le_of_ble_eq_true rfl) ?_
    refine WPM.of pX1 (Nat.le_of_ble_eq_true rfl) rfl ?_
    refine wp_aload_n dX1_copyFrom_0 rfl ?_
    refine wp_aload_n dX1_copyFrom_1 rfl ?_
    refine wp_geti (fi m 100 (ht o i)) dX1_copyFrom_2 fX1_9 (Or.inl rfl) (kht hF ho (by omega)) rfl ?_
    refine wp_aload_n dX1_copyFrom_5 rfl ?_
    refine wp_geti (fi m 101 (ht o i)) dX1_copyFrom_6 fX1_15 (Or.inl rfl) (kht hF ho (by omega)) rfl ?_
    refine wp_aload_n dX1_copyFrom_9 rfl ?_
    refine wp_geti (fi m 102 (ht o i)) dX1_copyFrom_10 fX1_18 (Or.inl rfl) (kht hF ho (by omega)) rfl ?_
    refine wp_aload_n dX1_copyFrom_13 rfl ?_
    refine wp_geti (fi m 103 (ht o i)) dX1_copyFrom_14 fX1_21 (Or.inl rfl) (kht hF ho (by omega)) rfl ?_
    refine wp_aload_n dX1_copyFrom_17 rfl ?_
    refine wp_geti (fi m 104 (ht o i)) dX1_copyFrom_18 fX1_24 (Or.inl rfl) (kht hF ho (by omega)) rfl ?_
    refine wp_callV (As := [.int (fi m 100 (ht o i)), .int (fi m 101 (ht o i)), .int (fi m 102 (ht o i)), .int (fi m 103 (ht o i)), .int (fi m 104 (ht o i))]) (S := []) (b' := (0, 0)) (b := (0, 0)) dX1_copyFrom_21 MX1_37 (kht hF hc (by omega)) rfl rfl rfl rfl (Nat.le_of_ble_eq_true rfl) ?_
    refine WPM.of pX1 (Nat.le_of_ble_eq_true rfl) rfl ?_
    refine wp_aload_n dX1_begin_0 rfl ?_
    refine wp_iload_n dX1_begin_1 rfl ?_
    refine wp_puti dX1_begin_2 pX1_9 (kht hF hc (by omega)) ?_
    have hF23 := Full_wfi 100 (ht c i) (fi m 100 (ht o i)) hF
    refine wp_aload_n dX1_begin_5 rfl ?_
    refine wp_iload_n dX1_begin_6 rfl ?_
    refine wp_puti dX1_begin_7 pX1_15 (kht hF23 hc (by omega)) ?_
    have hF24 := Full_wfi 101 (ht c i) (fi m 101 (ht o i)) hF23
    refine wp_aload_n dX1_begin_10 rfl ?_
    refine wp_iload_n dX1_begin_11 rfl ?_
    refine wp_puti dX1_begin_12 pX1_18 (kht hF24 hc (by omega)) ?_
    have hF25 := Full_wfi 102 (ht c i) (fi m 102 (ht o i)) hF24
    refine wp_aload_n dX1_begin_15 rfl ?_
    refine wp_iload dX1_begin_16 rfl ?_
    refine wp_puti dX1_begin_18 pX1_21 (kht hF25 hc (by omega)) ?_
    have hF26 := Full_wfi 103 (ht c i) (fi m 103 (ht o i)) hF25
    refine wp_aload_n dX1_begin_21 rfl ?_
    refine wp_iload dX1_begin_22 rfl ?_
    refine wp_puti dX1_begin_24 pX1_24 (kht hF26 hc (by omega)) ?_
    have hF27 := Full_wfi 104 (ht c i) (fi m 104 (ht o i)) hF26
    refine wp_aload_n dX1_begin_27 rfl ?_
    refine wp_iconst (0 : Int32) dX1_begin_28 (by decide) ?_
    refine wp_puti dX1_begin_29 pX1_27 (kht hF27 hc (by omega)) ?_
    have hF28 := Full_wfi 105 (ht c i) (0 : Int32) hF27
    refine wp_aload_n dX1_begin_32 rfl ?_
    refine wp_iconst (0 : Int32) dX1_begin_33 (by decide) ?_
    refine wp_putz dX1_begin_34 pX1_30 (kht hF28 hc (by omega)) (Or.inl rfl) ?_
    have hF29 := Full_wfi 106 (ht c i) (0 : Int32) hF28
    refine wp_aload_n dX1_begin_37 rfl ?_
    refine wp_iconst (0 : Int32) dX1_begin_38 (by decide) ?_
    refine wp_puti dX1_begin_39 pX1_34 (kht hF29 hc (by omega)) ?_
    have hF30 := Full_wfi 107 (ht c i) (0 : Int32) hF29
    refine wp_vret dX1_begin_42 rfl ?_
    show WP G (d + 2) (0, 0) μX1_copyFrom 24 [.ref (ht c i), .ref (ht o i)] [] (wfi (wfi (wfi (wfi (wfi (wfi (wfi (wfi m 100 (ht c i) (fi m 100 (ht o i))) 101 (ht c i) (fi m 101 (ht o i))) 102 (ht c i) (fi m 102 (ht o i))) 103 (ht c i) (fi m 103 (ht o i))) 104 (ht c i) (fi m 104 (ht o i))) 105 (ht c i) (0 : Int32)) 106 (ht c i) (0 : Int32)) 107 (ht c i) (0 : Int32)) _
    refine wp_aload_n dX1_copyFrom_24 rfl ?_
    refine wp_aload_n dX1_copyFrom_25 rfl ?_
    refine wp_geti (fi m 105 (ht o i)) dX1_copyFrom_26 fX1_27 (Or.inl rfl) (kht hF30 ho (by omega)) ((fi_ne (by decide)).trans ((fi_ne (by decide)).trans ((fi_na hv).trans ((fi_ne (by decide)).trans ((fi_ne (by decide)).trans ((fi_ne (by decide)).trans ((fi_ne (by decide)).trans (fi_ne (by decide))))))))) ?_
    refine wp_puti dX1_copyFrom_29 pX1_27 (kht hF30 hc (by omega)) ?_
    have hF31 := Full_wfi 105 (ht c i) (fi m 105 (ht o i)) hF30
    refine wp_aload_n dX1_copyFrom_32 rfl ?_
    refine wp_aload_n dX1_copyFrom_33 rfl ?_
    refine wp_geti (fi m 106 (ht o i)) dX1_copyFrom_34 fX1_30 (Or.inr rfl) (kht hF31 ho (by omega)) ((fi_ne (by decide)).trans ((fi_ne (by decide)).trans ((fi_na hv).trans ((fi_ne (by decide)).trans ((fi_ne (by decide)).trans ((fi_ne (by decide)).trans ((fi_ne (by decide)).trans ((fi_ne (by decide)).trans (fi_ne (by decide)))))))))) ?_
    refine wp_putz dX1_copyFrom_37 pX1_30 (kht hF31 hc (by omega)) (g1 hp22) ?_
    have hF32 := Full_wfi 106 (ht c i) (fi m 106 (ht o i)) hF31
    refine wp_aload_n dX1_copyFrom_40 rfl ?_
    refine wp_aload_n dX1_copyFrom_41 rfl ?_
    refine wp_geti (fi m 107 (ht o i)) dX1_copyFrom_42 fX1_34 (Or.inl rfl) (kht hF32 ho (by omega)) ((fi_ne (by decide)).trans ((fi_ne (by decide)).trans ((fi_na hv).trans ((fi_ne (by decide)).trans ((fi_ne (by decide)).trans ((fi_ne (by decide)).trans ((fi_ne (by decide)).trans ((fi_ne (by decide)).trans ((fi_ne (by decide)).trans (fi_ne (by decide))))))))))) ?_
    refine wp_puti dX1_copyFrom_45 pX1_34 (kht hF32 hc (by omega)) ?_
    have hF33 := Full_wfi 107 (ht c i) (fi m 107 (ht o i)) hF32
    refine wp_vret dX1_copyFrom_48 rfl ?_
    show WP G (d + 3) (0, 0) μX0_copyFrom 150 [.ref c, .ref o, .int (nI i)] [] (wfi (wfi (wfi (wfi (wfi (wfi (wfi (wfi (wfi (wfi (wfi m 100 (ht c i) (fi m 100 (ht o i))) 101 (ht c i) (fi m 101 (ht o i))) 102 (ht c i) (fi m 102 (ht o i))) 103 (ht c i) (fi m 103 (ht o i))) 104 (ht c i) (fi m 104 (ht o i))) 105 (ht c i) (0 : Int32)) 106 (ht c i) (0 : Int32)) 107 (ht c i) (0 : Int32)) 105 (ht c i) (fi m 105 (ht o i))) 106 (ht c i) (fi m 106 (ht o i))) 107 (ht c i) (fi m 107 (ht o i))) _
    refine wp_aload_n dX0_copyFrom_150 rfl ?_
    refine wp_getr (c + 5) dX0_copyFrom_151 fX0_35 (kc0 hF33 hc) (hF33.2 _ _) (rra 5 (isK_le (kc0 hF33 hc)) (fun _ => rfl)) ?_
    refine wp_iload_n dX0_copyFrom_154 rfl ?_
    refine wp_aload_n dX0_copyFrom_155 rfl ?_
    refine wp_getr (o + 5) dX0_copyFrom_156 fX0_35 (kc0 hF33 ho) (hF33.2 _ _) (rra 5 (isK_le (kc0 hF33 ho)) (fun _ => rfl)) ?_
    refine wp_iload_n dX0_copyFrom_159 rfl ?_
    refine wp_ialdk (n := 8) i (ai m (o + 5) i) dX0_copyFrom_160 (kc hF33 ho 5 (by decide)) (lc ho 5 (by decide)) (vin (by omega) (by decide)) (nIc (by omega)) (ai_wfi.trans (ai_wfi.trans (ai_wfi.trans (ai_wfi.trans (ai_wfi.trans (ai_wfi.trans (ai_wfi.trans (ai_wfi.trans (ai_wfi.trans (ai_wfi.trans ai_wfi)))))))))) ?_
    refine wp_iastk (n := 8) i dX0_copyFrom_161 (kc hF33 hc 5 (by decide)) (lc hc 5 (by decide)) (vin (by omega) (by decide))  (nIc (by omega)) ?_
    have hF34 := Full_wai (c + 5) i (ai m (o + 5) i) hF33
    refine wp_iinc (nI (i + 1)) dX0_copyFrom_162 rfl (by decide) (nadd (a := i) (b := 1) (by omega)) rfl ?_
    refine wp_goto 127 dX0_copyFrom_165 (by decide) ?_
    refine wp_forget [.ref c, .ref o, .int (nI (i + 1))] ⟨Or.inl rfl, Or.inl rfl, Or.inl rfl, trivial⟩ ?_
    exact e2 hp22

theorem bC_cp5 {G : Cx} {d : Nat} {m : Mm} {Q : Option Value → Mm → Prop} {c o : Nat} (hF : Full G m) (hc : IsC G c) (ho : IsC G o) 
    (e1 : Q none (wfi (wfi m 13 c (fi m 13 o)) 14 c (fi m 14 o))) :
    WP G (d + 3) (0, 0) μX0_copyFrom 212 [.ref c, .ref o, lvU] [] m Q := by
  refine wp_aload_n dX0_copyFrom_212 rfl ?_
  refine wp_aload_n dX0_copyFrom_213 rfl ?_
  refine wp_geti (fi m 13 o) dX0_copyFrom_214 fX0_67 (Or.inl rfl) (kc0 hF ho) rfl ?_
  refine wp_puti dX0_copyFrom_217 pX0_67 (kc0 hF hc) ?_
  have hF1 := Full_wfi 13 c (fi m 13 o) hF
  refine wp_aload_n dX0_copyFrom_220 rfl ?_
  refine wp_aload_n dX0_copyFrom_221 rfl ?_
  refine wp_geti (fi m 14 o) dX0_copyFrom_222 fX0_112 (Or.inl rfl) (kc0 hF1 ho) (fi_ne (by decide)) ?_
  refine wp_puti dX0_copyFrom_225 pX0_112 (kc0 hF1 hc) ?_
  have hF2 := Full_wfi 14 c (fi m 14 o) hF1
  exact wp_vret dX0_copyFrom_228 rfl (e1)
