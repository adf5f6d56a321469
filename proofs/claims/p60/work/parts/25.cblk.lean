theorem sC_sun {G : Cx} {d : Nat} {m : Mm} {Q : Option Value → Mm → Prop} {c : Nat}  (hF : Full G m) (hc : IsC G c) (h2 : 0 < fi m 500 (c + 6))
    (g1 : ¬ (fi m 500 (c + 6)) = 0)
    (e1 : ((fi m 14 c) - (fi m 14 c) / (fi m 500 (c + 6)) * (fi m 500 (c + 6))) < (fi m 501 (c + 6)) → Q (some (.int (1 : Int32))) m)
    (e2 : ¬ ((fi m 14 c) - (fi m 14 c) / (fi m 500 (c + 6)) * (fi m 500 (c + 6))) < (fi m 501 (c + 6)) → ((fi m 14 c) - (fi m 14 c) / (fi m 500 (c + 6)) * (fi m 500 (c + 6))) < (fi m 502 (c + 6)) → Q (some (.int (0 : Int32))) m)
    (e3 : ¬ ((fi m 14 c) - (fi m 14 c) / (fi m 500 (c + 6)) * (fi m 500 (c + 6))) < (fi m 501 (c + 6)) → ¬ ((fi m 14 c) - (fi m 14 c) / (fi m 500 (c + 6)) * (fi m 500 (c + 6))) < (fi m 502 (c + 6)) → Q (some (.int (1 : Int32))) m) :
    WPM G (d + 2) (0, 0) μX0_hasSun [.ref c] m Q := by
  refine WPM.of pX0 (Nat.le_of_ble_eq_true rfl) rfl ?_
  refine wp_aload_n dX0_hasSun_0 rfl ?_
  refine wp_callV (As := []) (S := []) (b' := (0, 0)) (b := (0, 0)) dX0_hasSun_1 MX0_138 (kc0 hF hc) rfl rfl rfl rfl (Nat.le_of_ble_eq_true rfl) ?_
  refine WPM.of pX0 (Nat.le_of_ble_eq_true rfl) rfl ?_
  refine wp_aload_n dX0_phaseNow_0 rfl ?_
  refine wp_getr (c + 6) dX0_phaseNow_1 fX0_42 (kc0 hF hc) (hF.2 _ _) (rra 6 (isK_le (kc0 hF hc)) (fun _ => rfl)) ?_
  refine wp_geti (fi m 500 (c + 6)) dX0_phaseNow_4 fX0_135 (Or.inl rfl) (kc hF hc 6 (by decide)) rfl ?_
  refine wp_if_le 25 dX0_phaseNow_7 (by decide) (fun q => absurd h2 q) (fun _ => ?_)
  refine wp_aload_n dX0_phaseNow_10 rfl ?_
  refine wp_geti (fi m 14 c) dX0_phaseNow_11 fX0_112 (Or.inl rfl) (kc0 hF hc) rfl ?_
  refine wp_aload_n dX0_phaseNow_14 rfl ?_
  refine wp_getr (c + 6) dX0_phaseNow_15 fX0_42 (kc0 hF hc) (hF.2 _ _) (rra 6 (isK_le (kc0 hF hc)) (fun _ => rfl)) ?_
  refine wp_geti (fi m 500 (c + 6)) dX0_phaseNow_18 fX0_135 (Or.inl rfl) (kc hF hc 6 (by decide)) rfl ?_
  refine wp_irem dX0_phaseNow_21 g1 ?_
  refine wp_goto 26 dX0_phaseNow_22 (by decide) ?_
  refine wp_iret dX0_phaseNow_26 rfl ?_
  show WP G (d + 2) (0, 0) μX0_hasSun 4 [.ref c, lvU] [.int ((fi m 14 c) - (fi m 14 c) / (fi m 500 (c + 6)) * (fi m 500 (c + 6)))] m _
  refine wp_istore_n dX0_hasSun_4 (by decide) rfl ?_
  refine wp_iload_n dX0_hasSun_5 rfl ?_
  refine wp_aload_n dX0_hasSun_6 rfl ?_
  refine wp_getr (c + 6) dX0_hasSun_7 fX0_42 (kc0 hF hc) (hF.2 _ _) (rra 6 (isK_le (kc0 hF hc)) (fun _ => rfl)) ?_
  refine wp_geti (fi m 501 (c + 6)) dX0_hasSun_10 fX0_142 (Or.inl rfl) (kc hF hc 6 (by decide)) rfl ?_
  refine wp_icmp_lt 27 dX0_hasSun_13 (by decide) (fun q1 => ?_) (fun q2 => ?_)
  · skip
    refine wp_iconst (1 : Int32) dX0_hasSun_27 (by decide) ?_
    refine wp_goto 32 dX0_hasSun_28 (by decide) ?_
    exact wp_zret dX0_hasSun_32 rfl rfl (e1 q1)
  · skip
    refine wp_iload_n dX0_hasSun_16 rfl ?_
    refine wp_aload_n dX0_hasSun_17 rfl ?_
    refine wp_getr (c + 6) dX0_hasSun_18 fX0_42 (kc0 hF hc) (hF.2 _ _) (rra 6 (isK_le (kc0 hF hc)) (fun _ => rfl)) ?_
    refine wp_geti (fi m 502 (c + 6)) dX0_hasSun_21 fX0_145 (Or.inl rfl) (kc hF hc 6 (by decide)) rfl ?_
    refine wp_icmp_lt 31 dX0_hasSun_24 (by decide) (fun q3 => ?_) (fun q4 => ?_)
    · skip
      refine wp_iconst (0 : Int32) dX0_hasSun_31 (by decide) ?_
      exact wp_zret dX0_hasSun_32 rfl rfl (e2 q2 q3)
    · skip
      refine wp_iconst (1 : Int32) dX0_hasSun_27 (by decide) ?_
      refine wp_goto 32 dX0_hasSun_28 (by decide) ?_
      exact wp_zret dX0_hasSun_32 rfl rfl (e3 q2 q4)

theorem sC_pha {G : Cx} {d : Nat} {m : Mm} {Q : Option Value → Mm → Prop} {c : Nat}  (hF : Full G m) (hc : IsC G c) (h2 : 0 < fi m 500 (c + 6))
    (g1 : ¬ (fi m 500 (c + 6)) = 0)
    (e1 : Q (some (.int ((fi m 14 c) - (fi m 14 c) / (fi m 500 (c + 6)) * (fi m 500 (c + 6))))) m) :
    WPM G (d + 2) (0, 0) μX0_phaseNow [.ref c] m Q := by
  refine WPM.of pX0 (Nat.le_of_ble_eq_true rfl) rfl ?_
  refine wp_aload_n dX0_phaseNow_0 rfl ?_
  refine wp_getr (c + 6) dX0_phaseNow_1 fX0_42 (kc0 hF hc) (hF.2 _ _) (rra 6 (isK_le (kc0 hF hc)) (fun _ => rfl)) ?_
  refine wp_geti (fi m 500 (c + 6)) dX0_phaseNow_4 fX0_135 (Or.inl rfl) (kc hF hc 6 (by decide)) rfl ?_
  refine wp_if_le 25 dX0_phaseNow_7 (by decide) (fun q => absurd h2 q) (fun _ => ?_)
  refine wp_aload_n dX0_phaseNow_10 rfl ?_
  refine wp_geti (fi m 14 c) dX0_phaseNow_11 fX0_112 (Or.inl rfl) (kc0 hF hc) rfl ?_
  refine wp_aload_n dX0_phaseNow_14 rfl ?_
  refine wp_getr (c + 6) dX0_phaseNow_15 fX0_42 (kc0 hF hc) (hF.2 _ _) (rra 6 (isK_le (kc0 hF hc)) (fun _ => rfl)) ?_
  refine wp_geti (fi m 500 (c + 6)) dX0_phaseNow_18 fX0_135 (Or.inl rfl) (kc hF hc 6 (by decide)) rfl ?_
  refine wp_irem dX0_phaseNow_21 g1 ?_
  refine wp_goto 26 dX0_phaseNow_22 (by decide) ?_
  exact wp_iret dX0_phaseNow_26 rfl (e1)

theorem eC_up {G : Cx} {d : Nat} {m : Mm} {Q : Option Value → Mm → Prop} {c : Nat}  (hF : Full G m) (hc : IsC G c) 
    (e1 : WP G (d + 1) (0, 0) μX0_powerInUse 4 [.ref c, .int (0 : Int32), .int (0 : Int32)] [] m Q) :
    WPM G (d + 1) (0, 0) μX0_powerInUse [.ref c] m Q := by
  refine WPM.of pX0 (Nat.le_of_ble_eq_true rfl) rfl ?_
  refine wp_iconst (0 : Int32) dX0_powerInUse_0 (by decide) ?_
  refine wp_istore_n dX0_powerInUse_1 (by decide) rfl ?_
  refine wp_iconst (0 : Int32) dX0_powerInUse_2 (by decide) ?_
  refine wp_istore_n dX0_powerInUse_3 (by decide) rfl ?_
  refine wp_forget [.ref c, .int (0 : Int32), .int (0 : Int32)] ⟨Or.inl rfl, Or.inl rfl, Or.inl rfl, trivial⟩ ?_
  exact e1

theorem bC_up {G : Cx} {d : Nat} {m : Mm} {Q : Option Value → Mm → Prop} {c : Nat} {p : Int32} {h n : Nat} (hF : Full G m) (hc : IsC G c) (hn : fi m 8 c = nI n) (h8 : n ≤ 8) (hh : h ≤ n)
    (e1 : ¬ h < n → Q (some (.int p)) m)
    (e2 : h < n → ¬ (fi m 107 (ht c h)) = (1 : Int32) → WP G (d + 1) (0, 0) μX0_powerInUse 4 [.ref c, .int p, .int (nI (h + 1))] [] m Q)
    (e3 : h < n → (fi m 107 (ht c h)) = (1 : Int32) → WP G (d + 1) (0, 0) μX0_powerInUse 4 [.ref c, .int (p + (fi m 101 (ht c h))), .int (nI (h + 1))] [] m Q) :
    WP G (d + 1) (0, 0) μX0_powerInUse 4 [.ref c, .int p, .int (nI h)] [] m Q := by
  refine wp_iload_n dX0_powerInUse_4 rfl ?_
  refine wp_aload_n dX0_powerInUse_5 rfl ?_
  refine wp_geti (nI n) dX0_powerInUse_6 fX0_94 (Or.inl rfl) (kc0 hF hc) hn ?_
  refine wp_icmp_ge 43 dX0_powerInUse_9 (by decide) (fun q1 => ?_) (fun q2 => ?_)
  · have hp3 : ¬ h < n := (fun z => q1 (nlt_ (b := n) z (by omega)))
    refine wp_iload_n dX0_powerInUse_43 rfl ?_
    exact wp_iret dX0_powerInUse_44 rfl (e1 hp3)
  · have hp4 : h < n := (nlt q2 (by omega) (by omega))
    refine wp_aload_n dX0_powerInUse_12 rfl ?_
    refine wp_getr (c + 4) dX0_powerInUse_13 fX0_31 (kc0 hF hc) (hF.2 _ _) (rra 4 (isK_le (kc0 hF hc)) (fun _ => rfl)) ?_
    refine wp_iload_n dX0_powerInUse_16 rfl ?_
    refine wp_raldk (n := 8) h (ht c h) dX0_powerInUse_17 (kc hF hc 4 (by decide)) (by decide) (by decide) (lc hc 4 (by decide)) (vin (by omega) (by decide)) (nIc (by omega)) (hF.2 _ _) (rht hF hc) ?_
    refine wp_geti (fi m 107 (ht c h)) dX0_powerInUse_18 fX0_178 (Or.inl rfl) (kht hF hc (by omega)) rfl ?_
    refine wp_iconst (1 : Int32) dX0_powerInUse_21 (by decide) ?_
    refine wp_icmp_ne 37 dX0_powerInUse_22 (by decide) (fun q5 => ?_) (fun q6 => ?_)
    · skip
      refine wp_iinc (nI (h + 1)) dX0_powerInUse_37 rfl (by decide) (nadd (a := h) (b := 1) (by omega)) rfl ?_
      refine wp_goto 4 dX0_powerInUse_40 (by decide) ?_
      refine wp_forget [.ref c, .int p, .int (nI (h + 1))] ⟨Or.inl rfl, Or.inl rfl, Or.inl rfl, trivial⟩ ?_
      exact e2 hp4 q5
    · skip
      refine wp_iload_n dX0_powerInUse_25 rfl ?_
      refine wp_aload_n dX0_powerInUse_26 rfl ?_
      refine wp_getr (c + 4) dX0_powerInUse_27 fX0_31 (kc0 hF hc) (hF.2 _ _) (rra 4 (isK_le (kc0 hF hc)) (fun _ => rfl)) ?_
      refine wp_iload_n dX0_powerInUse_30 rfl ?_
      refine wp_raldk (n := 8) h (ht c h) dX0_powerInUse_31 (kc hF hc 4 (by decide)) (by decide) (by decide) (lc hc 4 (by decide)) (vin (by omega) (by decide)) (nIc (by omega)) (hF.2 _ _) (rht hF hc) ?_
      refine wp_geti (fi m 101 (ht c h)) dX0_powerInUse_32 fX0_181 (Or.inl rfl) (kht hF hc (by omega)) rfl ?_
      refine wp_iaddv (p + (fi m 101 (ht c h))) dX0_powerInUse_35 rfl ?_
      refine wp_istore_n dX0_powerInUse_36 (by decide) rfl ?_
      refine wp_iinc (nI (h + 1)) dX0_powerInUse_37 rfl (by decide) (nadd (a := h) (b := 1) (by omega)) rfl ?_
      refine wp_goto 4 dX0_powerInUse_40 (by decide) ?_
      refine wp_forget [.ref c, .int (p + (fi m 101 (ht c h))), .int (nI (h + 1))] ⟨Or.inl rfl, Or.inl rfl, Or.inl rfl, trivial⟩ ?_
      exact e3 hp4 q6

theorem eC_mv {G : Cx} {d : Nat} {m : Mm} {Q : Option Value → Mm → Prop} {c : Nat}  (hF : Full G m) (hc : IsC G c) 
    (e1 : WP G (d + 3) (0, 0) μX0_moveLouvres 2 [.ref c, .int (0 : Int32)] [] m Q) :
    WPM G (d + 3) (0, 0) μX0_moveLouvres [.ref c] m Q := by
  refine WPM.of pX0 (Nat.le_of_ble_eq_true rfl) rfl ?_
  refine wp_iconst (0 : Int32) dX0_moveLouvres_0 (by decide) ?_
  refine wp_istore_n dX0_moveLouvres_1 (by decide) rfl ?_
  refine wp_forget [.ref c, .int (0 : Int32)] ⟨Or.inl rfl, Or.inl rfl, trivial⟩ ?_
  exact e1

theorem bC_mv {G : Cx} {d : Nat} {m : Mm} {Q : Option Value → Mm → Prop} {c : Nat} {i n k o : Nat} (hF : Full G m) (hc : IsC G c) (hn : fi m 7 c = nI n) (h6 : n ≤ 6) (hi : i ≤ n) (hk : fi m 5 c = nI k) (hk12 : k ≤ 12) (ho : i < n → fi m 300 (lv c i) = nI o) (hok : i < n → o < k)
    (e1 : ¬ i < n → Q none m)
    (e2 : i < n → ¬ (fi m 306 (lv c i)) = 0 → WP G (d + 3) (0, 0) μX0_moveLouvres 2 [.ref c, .int (nI (i + 1))] [] m Q)
    (e3 : i < n → (fi m 306 (lv c i)) = 0 → WP G (d + 3) (0, 0) μX0_moveLouvres 2 [.ref c, .int (nI (i + 1))] [] (wfi m 305 (lv c i) ((fi m 305 (lv c i)) + (Int64.toInt32 (limF (Int32.toInt64 ((Int64.toInt32 (limF (quoF ((Int32.toInt64 ((fi m 401 (nd c o)) - (fi m 302 (lv c i)))) * (1000 : Int64)) (Int32.toInt64 ((fi m 303 (lv c i)) - (fi m 302 (lv c i))))) (0 : Int64) (1000 : Int64))) - (fi m 305 (lv c i)))) (Int32.toInt64 (-(fi m 304 (lv c i)))) (Int32.toInt64 (fi m 304 (lv c i))))))) Q) :
    WP G (d + 3) (0, 0) μX0_moveLouvres 2 [.ref c, .int (nI i)] [] m Q := by
  refine wp_iload_n dX0_moveLouvres_2 rfl ?_
  refine wp_aload_n dX0_moveLouvres_3 rfl ?_
  refine wp_geti (nI n) dX0_moveLouvres_4 fX0_88 (Or.inl rfl) (kc0 hF hc) hn ?_
  refine wp_icmp_ge 47 dX0_moveLouvres_7 (by decide) (fun q1 => ?_) (fun q2 => ?_)
  · have hp3 : ¬ i < n := (fun z => q1 (nlt_ (b := n) z (by omega)))
    exact wp_vret dX0_moveLouvres_47 rfl (e1 hp3)
  · have hp4 : i < n := (nlt q2 (by omega) (by omega))
    refine wp_aload_n dX0_moveLouvres_10 rfl ?_
    refine wp_getr (c + 3) dX0_moveLouvres_11 fX0_25 (kc0 hF hc) (hF.2 _ _) (rra 3 (isK_le (kc0 hF hc)) (fun _ => rfl)) ?_
    refine wp_iload_n dX0_moveLouvres_14 rfl ?_
    refine wp_raldk (n := 6) i (lv c i) dX0_moveLouvres_15 (kc hF hc 3 (by decide)) (by decide) (by decide) (lc hc 3 (by decide)) (vin (by omega) (by decide)) (nIc (by omega)) (hF.2 _ _) (rlv hF hc) ?_
    refine wp_geti (fi m 306 (lv c i)) dX0_moveLouvres_16 fX0_214 (Or.inr rfl) (klv hF hc (by omega)) rfl ?_
    refine wp_if_ne 41 dX0_moveLouvres_19 (by decide) (fun q5 => ?_) (fun q6 => ?_)
    · skip
      refine wp_iinc (nI (i + 1)) dX0_moveLouvres_41 rfl (by decide) (nadd (a := i) (b := 1) (by omega)) rfl ?_
      refine wp_goto 2 dX0_moveLouvres_44 (by decide) ?_
      refine wp_forget [.ref c, .int (nI (i + 1))] ⟨Or.inl rfl, Or.inl rfl, trivial⟩ ?_
      exact e2 hp4 q5
    · skip
      refine wp_aload_n dX0_moveLouvres_22 rfl ?_
      refine wp_getr (c + 3) dX0_moveLouvres_23 fX0_25 (kc0 hF hc) (hF.2 _ _) (rra 3 (isK_le (kc0 hF hc)) (fun _ => rfl)) ?_
      refine wp_iload_n dX0_moveLouvres_26 rfl ?_
      refine wp_raldk (n := 6) i (lv c i) dX0_moveLouvres_27 (kc hF hc 3 (by decide)) (by decide) (by decide) (lc hc 3 (by decide)) (vin (by omega) (by decide)) (nIc (by omega)) (hF.2 _ _) (rlv hF hc) ?_
      refine wp_aload_n dX0_moveLouvres_28 rfl ?_
      refine wp_aload_n dX0_moveLouvres_29 rfl ?_
      refine wp_getr (c + 3) dX0_moveLouvres_30 fX0_25 (kc0 hF hc) (hF.2 _ _) (rra 3 (isK_le (kc0 hF hc)) (fun _ => rfl)) ?_
      refine wp_iload_n dX0_moveLouvres_33 rfl ?_
      refine wp_raldk (n := 6) i (lv c i) dX0_moveLouvres_34 (kc hF hc 3 (by decide)) (by decide) (by decide) (lc hc 3 (by decide)) (vin (by omega) (by decide)) (nIc (by omega)) (hF.2 _ _) (rlv hF hc) ?_
      refine wp_callV (As := [.ref (lv c i)]) (S := [.ref (lv c i)]) (b' := (0, 0)) (b := (0, 0)) dX0_moveLouvres_35 MX0_218 (kc0 hF hc) rfl rfl rfl rfl (Nat.le_of_ble_eq_true rfl) ?_
      refine WPM.of pX0 (Nat.le_of_ble_eq_true rfl) rfl ?_
      refine wp_aload_n dX0_targetOf_0 rfl ?_
      refine wp_aload_n dX0_targetOf_1 rfl ?_
      refine wp_geti (nI o) dX0_targetOf_2 fX0_159 (Or.inl rfl) (klv hF hc (by omega)) (ho (by omega)) ?_
      refine wp_callV (As := [.int (nI o)]) (S := []) (b' := (0, 0)) (b := (0, 0)) dX0_targetOf_5 MX0_162 (kc0 hF hc) rfl rfl rfl rfl (Nat.le_of_ble_eq_true rfl) ?_
      refine WPM.of pX0 (Nat.le_of_ble_eq_true rfl) rfl ?_
      refine wp_aload_n dX0_temperatureAt_0 rfl ?_
      refine wp_iload_n dX0_temperatureAt_1 rfl ?_
      refine wp_callV (As := [.int (nI o)]) (S := []) (b' := (0, 0)) (b := (0, 0)) dX0_temperatureAt_2 MX0_152 (kc0 hF hc) rfl rfl rfl rfl (Nat.le_of_ble_eq_true rfl) ?_
      refine WPM.of pX0 (Nat.le_of_ble_eq_true rfl) rfl ?_
      refine wp_iload_n dX0_hasNode_0 rfl ?_
      refine wp_if_lt 16 dX0_hasNode_1 (by decide) (fun q => absurd q (nI_pos (by omega))) (fun _ => ?_)
      refine wp_iload_n dX0_hasNode_4 rfl ?_
      refine wp_aload_n dX0_hasNode_5 rfl ?_
      refine wp_geti (nI k) dX0_hasNode_6 fX0_75 (Or.inl rfl) (kc0 hF hc) hk ?_
      refine wp_icmp_ge 16 dX0_hasNode_9 (by decide) (fun q => absurd (nlt_ (hok (by omega)) (by omega)) q) (fun _ => ?_)
      refine wp_iconst (1 : Int32) dX0_hasNode_12 (by decide) ?_
      refine wp_goto 17 dX0_hasNode_13 (by decide) ?_
      refine wp_zret dX0_hasNode_17 rfl rfl ?_
      show WP G (d + 1) (0, 0) μX0_temperatureAt 5 [.ref c, .int (nI o)] [.int (1 : Int32)] m _
      refine wp_if_eq 20 dX0_temperatureAt_5 (by decide) (fun q => absurd q (by decide)) (fun _ => ?_)
      refine wp_aload_n dX0_temperatureAt_8 rfl ?_
      refine wp_getr (c + 1) dX0_temperatureAt_9 fX0_11 (kc0 hF hc) (hF.2 _ _) (rra 1 (isK_le (kc0 hF hc)) (fun _ => rfl)) ?_
      refine wp_iload_n dX0_temperatureAt_12 rfl ?_
      refine wp_raldk (n := 12) o (nd c o) dX0_temperatureAt_13 (kc hF hc 1 (by decide)) (by decide) (by decide) (lc hc 1 (by decide)) (vin (by omega) (by decide)) (nIc (by omega)) (hF.2 _ _) (rnd hF hc) ?_
      refine wp_geti (fi m 401 (nd c o)) dX0_temperatureAt_14 fX0_156 (Or.inl rfl) (knd hF hc (by omega)) rfl ?_
      refine wp_goto 21 dX0_temperatureAt_17 (by decide) ?_
      refine wp_iret dX0_temperatureAt_21 rfl ?_
      show WP G (d + 2) (0, 0) μX0_targetOf 8 [.ref c, .ref (lv c i), lvU, lvU] [.int (fi m 401 (nd c o))] m _
      refine wp_aload_n dX0_targetOf_8 rfl ?_
      refine wp_geti (fi m 302 (lv c i)) dX0_targetOf_9 fX0_166 (Or.inl rfl) (klv hF hc (by omega)) rfl ?_
      refine wp_isubv ((fi m 401 (nd c o)) - (fi m 302 (lv c i))) dX0_targetOf_12 rfl ?_
      refine wp_i2l dX0_targetOf_13 ?_
      refine wp_lstore_n dX0_targetOf_14 (by decide) rfl ?_
      refine wp_lload_n dX0_targetOf_15 rfl ?_
      refine wp_ldc2 dX0_targetOf_16 kX0_169 ?_
      refine wp_lmul dX0_targetOf_19 ?_
      refine wp_aload_n dX0_targetOf_20 rfl ?_
      refine wp_geti (fi m 303 (lv c i)) dX0_targetOf_21 fX0_171 (Or.inl rfl) (klv hF hc (by omega)) rfl ?_
      refine wp_aload_n dX0_targetOf_24 rfl ?_
      refine wp_geti (fi m 302 (lv c i)) dX0_targetOf_25 fX0_166 (Or.inl rfl) (klv hF hc (by omega)) rfl ?_
      refine wp_isubv ((fi m 303 (lv c i)) - (fi m 302 (lv c i))) dX0_targetOf_28 rfl ?_
      refine wp_i2l dX0_targetOf_29 ?_
      refine wp_quoFN dX0_targetOf_30 MX0_148 (Nat.le_of_ble_eq_true rfl) ?_
      refine wp_lconst (0 : Int64) dX0_targetOf_33 (by decide) ?_
      refine wp_ldc2 dX0_targetOf_34 kX0_169 ?_
      refine wp_limFN dX0_targetOf_37 MX0_174 (Nat.le_of_ble_eq_true rfl) ?_
      refine wp_l2i dX0_targetOf_40 ?_
      refine wp_iret dX0_targetOf_41 rfl ?_
      show WP G (d + 3) (0, 0) μX0_moveLouvres 38 [.ref c, .int (nI i)] [.int (Int64.toInt32 (limF (quoF ((Int32.toInt64 ((fi m 401 (nd c o)) - (fi m 302 (lv c i)))) * (1000 : Int64)) (Int32.toInt64 ((fi m 303 (lv c i)) - (fi m 302 (lv c i))))) (0 : Int64) (1000 : Int64))), .ref (lv c i)] m _
      refine wp_callV (As := [.int (Int64.toInt32 (limF (quoF ((Int32.toInt64 ((fi m 401 (nd c o)) - (fi m 302 (lv c i)))) * (1000 : Int64)) (Int32.toInt64 ((fi m 303 (lv c i)) - (fi m 302 (lv c i))))) (0 : Int64) (1000 : Int64)))]) (S := []) (b' := (0, 0)) (b := (0, 0)) dX0_moveLouvres_38 MX0_222 (klv hF hc (by omega)) rfl rfl rfl rfl (Nat.le_of_ble_eq_true rfl) ?_
      refine WPM.of pX3 (Nat.le_of_ble_eq_true rfl) rfl ?_
      refine wp_aload_n dX3_moveTowards_0 rfl ?_
      refine wp_dup dX3_moveTowards_1 rfl ?_
      refine wp_geti (fi m 305 (lv c i)) dX3_moveTowards_2 fX3_25 (Or.inl rfl) (klv hF hc (by omega)) rfl ?_
      refine wp_iload_n dX3_moveTowards_5 rfl ?_
      refine wp_aload_n dX3_moveTowards_6 rfl ?_
      refine wp_geti (fi m 305 (lv c i)) dX3_moveTowards_7 fX3_25 (Or.inl rfl) (klv hF hc (by omega)) rfl ?_
      refine wp_isubv ((Int64.toInt32 (limF (quoF ((Int32.toInt64 ((fi m 401 (nd c o)) - (fi m 302 (lv c i)))) * (1000 : Int64)) (Int32.toInt64 ((fi m 303 (lv c i)) - (fi m 302 (lv c i))))) (0 : Int64) (1000 : Int64))) - (fi m 305 (lv c i))) dX3_moveTowards_10 rfl ?_
      refine wp_i2l dX3_moveTowards_11 ?_
      refine wp_aload_n dX3_moveTowards_12 rfl ?_
      refine wp_geti (fi m 304 (lv c i)) dX3_moveTowards_13 fX3_22 (Or.inl rfl) (klv hF hc (by omega)) rfl ?_
      refine wp_ineg dX3_moveTowards_16 ?_
      refine wp_i2l dX3_moveTowards_17 ?_
      refine wp_aload_n dX3_moveTowards_18 rfl ?_
      refine wp_geti (fi m 304 (lv c i)) dX3_moveTowards_19 fX3_22 (Or.inl rfl) (klv hF hc (by omega)) rfl ?_
      refine wp_i2l dX3_moveTowards_22 ?_
      refine wp_limFN dX3_moveTowards_23 MX3_36 (Nat.le_of_ble_eq_true rfl) ?_
      refine wp_l2i dX3_moveTowards_26 ?_
      refine wp_iaddv ((fi m 305 (lv c i)) + (Int64.toInt32 (limF (Int32.toInt64 ((Int64.toInt32 (limF (quoF ((Int32.toInt64 ((fi m 401 (nd c o)) - (fi m 302 (lv c i)))) * (1000 : Int64)) (Int32.toInt64 ((fi m 303 (lv c i)) - (fi m 302 (lv c i))))) (0 : Int64) (1000 : Int64))) - (fi m 305 (lv c i)))) (Int32.toInt64 (-(fi m 304 (lv c i)))) (Int32.toInt64 (fi m 304 (lv c i)))))) dX3_moveTowards_27 rfl ?_
      refine wp_puti dX3_moveTowards_28 pX3_25 (klv hF hc (by omega)) ?_
      have hF7 := Full_wfi 305 (lv c i) ((fi m 305 (lv c i)) + (Int64.toInt32 (limF (Int32.toInt64 ((Int64.toInt32 (limF (quoF ((Int32.toInt64 ((fi m 401 (nd c o)) - (fi m 302 (lv c i)))) * (1000 : Int64)) (Int32.toInt64 ((fi m 303 (lv c i)) - (fi m 302 (lv c i))))) (0 : Int64) (1000 : Int64))) - (fi m 305 (lv c i)))) (Int32.toInt64 (-(fi m 304 (lv c i)))) (Int32.toInt64 (fi m 304 (lv c i)))))) hF
      refine wp_vret dX3_moveTowards_31 rfl ?_
      show WP G (d + 3) (0, 0) μX0_moveLouvres 41 [.ref c, .int (nI i)] [] (wfi m 305 (lv c i) ((fi m 305 (lv c i)) + (Int64.toInt32 (limF (Int32.toInt64 ((Int64.toInt32 (limF (quoF ((Int32.toInt64 ((fi m 401 (nd c o)) - (fi m 302 (lv c i)))) * (1000 : Int64)) (Int32.toInt64 ((fi m 303 (lv c i)) - (fi m 302 (lv c i))))) (0 : Int64) (1000 : Int64))) - (fi m 305 (lv c i)))) (Int32.toInt64 (-(fi m 304 (lv c i)))) (Int32.toInt64 (fi m 304 (lv c i))))))) _
      refine wp_iinc (nI (i + 1)) dX0_moveLouvres_41 rfl (by decide) (nadd (a := i) (b := 1) (by omega)) rfl ?_
      refine wp_goto 2 dX0_moveLouvres_44 (by decide) ?_
      refine wp_forget [.ref c, .int (nI (i + 1))] ⟨Or.inl rfl, Or.inl rfl, trivial⟩ ?_
      exact e3 hp4 q6

theorem eC_dw {G : Cx} {d : Nat} {m : Mm} {Q : Option Value → Mm → Prop} {c : Nat}  (hF : Full G m) (hc : IsC G c) 
    (e1 : WP G (d + 3) (0, 0) μX0_decideWishes 2 [.ref c, .int (0 : Int32)] [] m Q) :
    WPM G (d + 3) (0, 0) μX0_decideWishes [.ref c] m Q := by
  refine WPM.of pX0 (Nat.le_of_ble_eq_true rfl) rfl ?_
  refine wp_iconst (0 : Int32) dX0_decideWishes_0 (by decide) ?_
  refine wp_istore_n dX0_decideWishes_1 (by decide) rfl ?_
  refine wp_forget [.ref c, .int (0 : Int32)] ⟨Or.inl rfl, Or.inl rfl, trivial⟩ ?_
  exact e1

theorem bC_dw {G : Cx} {d : Nat} {m : Mm} {Q : Option Value → Mm → Prop} {c : Nat} {i n k o : Nat} (hF : Full G m) (hc : IsC G c) (hn : fi m 8 c = nI n) (h8 : n ≤ 8) (hi : i ≤ n) (hk : fi m 5 c = nI k) (hk12 : k ≤ 12) (ho : i < n → fi m 100 (ht c i) = nI o) (hok : i < n → o < k)
    (e1 : ¬ i < n → Q none m)
    (e2 : i < n → ¬ (fi m 105 (ht c i)) = (1 : Int32) → ¬ (fi m 105 (ht c i)) = (2 : Int32) → ¬ (fi m 401 (nd c o)) < (fi m 102 (ht c i)) → ¬ (fi m 103 (ht c i)) < (fi m 401 (nd c o)) → WP G (d + 3) (0, 0) μX0_decideWishes 2 [.ref c, .int (nI (i + 1))] [] m Q)
    (e3 : i < n → ¬ (fi m 105 (ht c i)) = (1 : Int32) → ¬ (fi m 105 (ht c i)) = (2 : Int32) → ¬ (fi m 401 (nd c o)) < (fi m 102 (ht c i)) → (fi m 103 (ht c i)) < (fi m 401 (nd c o)) → WP G (d + 3) (0, 0) μX0_decideWishes 2 [.ref c, .int (nI (i + 1))] [] (wfi m 106 (ht c i) (0 : Int32)) Q)
    (e4 : i < n → ¬ (fi m 105 (ht c i)) = (1 : Int32) → ¬ (fi m 105 (ht c i)) = (2 : Int32) → (fi m 401 (nd c o)) < (fi m 102 (ht c i)) → WP G (d + 3) (0, 0) μX0_decideWishes 2 [.ref c, .int (nI (i + 1))] [] (wfi m 106 (ht c i) (1 : Int32)) Q)
    (e5 : i < n → ¬ (fi m 105 (ht c i)) = (1 : Int32) → (fi m 105 (ht c i)) = (2 : Int32) → WP G (d + 3) (0, 0) μX0_decideWishes 2 [.ref c, .int (nI (i + 1))] [] (wfi m 106 (ht c i) (0 : Int32)) Q)
    (e6 : i < n → (fi m 105 (ht c i)) = (1 : Int32) → WP G (d + 3) (0, 0) μX0_decideWishes 2 [.ref c, .int (nI (i + 1))] [] (wfi m 106 (ht c i) (1 : Int32)) Q) :
    WP G (d + 3) (0, 0) μX0_decideWishes 2 [.ref c, .int (nI i)] [] m Q := by
  refine wp_iload_n dX0_decideWishes_2 rfl ?_
  refine wp_aload_n dX0_decideWishes_3 rfl ?_
  refine wp_geti (nI n) dX0_decideWishes_4 fX0_94 (Or.inl rfl) (kc0 hF hc) hn ?_
  refine wp_icmp_ge 38 dX0_decideWishes_7 (by decide) (fun q1 => ?_) (fun q2 => ?_)
  · have hp3 : ¬ i < n := (fun z => q1 (nlt_ (b := n) z (by omega)))
    exact wp_vret dX0_decideWishes_38 rfl (e1 hp3)
  · have hp4 : i < n := (nlt q2 (by omega) (by omega))
    refine wp_aload_n dX0_decideWishes_10 rfl ?_
    refine wp_getr (c + 4) dX0_decideWishes_11 fX0_31 (kc0 hF hc) (hF.2 _ _) (rra 4 (isK_le (kc0 hF hc)) (fun _ => rfl)) ?_
    refine wp_iload_n dX0_decideWishes_14 rfl ?_
    refine wp_raldk (n := 8) i (ht c i) dX0_decideWishes_15 (kc hF hc 4 (by decide)) (by decide) (by decide) (lc hc 4 (by decide)) (vin (by omega) (by decide)) (nIc (by omega)) (hF.2 _ _) (rht hF hc) ?_
    refine wp_aload_n dX0_decideWishes_16 rfl ?_
    refine wp_aload_n dX0_decideWishes_17 rfl ?_
    refine wp_getr (c + 4) dX0_decideWishes_18 fX0_31 (kc0 hF hc) (hF.2 _ _) (rra 4 (isK_le (kc0 hF hc)) (fun _ => rfl)) ?_
    refine wp_iload_n dX0_decideWishes_21 rfl ?_
    refine wp_raldk (n := 8) i (ht c i) dX0_decideWishes_22 (kc hF hc 4 (by decide)) (by decide) (by decide) (lc hc 4 (by decide)) (vin (by omega) (by decide)) (nIc (by omega)) (hF.2 _ _) (rht hF hc) ?_
    refine wp_geti (nI o) dX0_decideWishes_23 fX0_226 (Or.inl rfl) (kht hF hc (by omega)) (ho (by omega)) ?_
    refine wp_callV (As := [.int (nI o)]) (S := [.ref (ht c i)]) (b' := (0, 0)) (b := (0, 0)) dX0_decideWishes_26 MX0_162 (kc0 hF hc) rfl rfl rfl rfl (Nat.le_of_ble_eq_true rfl) ?_
    refine WPM.of pX0 (Nat.le_of_ble_eq_true rfl) rfl ?_
    refine wp_aload_n dX0_temperatureAt_0 rfl ?_
    refine wp_iload_n dX0_temperatureAt_1 rfl ?_
    refine wp_callV (As := [.int (nI o)]) (S := []) (b' := (0, 0)) (b := (0, 0)) dX0_temperatureAt_2 MX0_152 (kc0 hF hc) rfl rfl rfl rfl (Nat.le_of_ble_eq_true rfl) ?_
    refine WPM.of pX0 (Nat.le_of_ble_eq_true rfl) rfl ?_
    refine wp_iload_n dX0_hasNode_0 rfl ?_
    refine wp_if_lt 16 dX0_hasNode_1 (by decide) (fun q => absurd q (nI_pos (by omega))) (fun _ => ?_)
    refine wp_iload_n dX0_hasNode_4 rfl ?_
    refine wp_aload_n dX0_hasNode_5 rfl ?_
    refine wp_geti (nI k) dX0_hasNode_6 fX0_75 (Or.inl rfl) (kc0 hF hc) hk ?_
    refine wp_icmp_ge 16 dX0_hasNode_9 (by decide) (fun q => absurd (nlt_ (hok (by omega)) (by omega)) q) (fun _ => ?_)
    refine wp_iconst (1 : Int32) dX0_hasNode_12 (by decide) ?_
    refine wp_goto 17 dX0_hasNode_13 (by decide) ?_
    refine wp_zret dX0_hasNode_17 rfl rfl ?_
    show WP G (d + 2) (0, 0) μX0_temperatureAt 5 [.ref c, .int (nI o)] [.int (1 : Int32)] m _
    refine wp_if_eq 20 dX0_temperatureAt_5 (by decide) (fun q => absurd q (by decide)) (fun _ => ?_)
    refine wp_aload_n dX0_temperatureAt_8 rfl ?_
    refine wp_getr (c + 1) dX0_temperatureAt_9 fX0_11 (kc0 hF hc) (hF.2 _ _) (rra 1 (isK_le (kc0 hF hc)) (fun _ => rfl)) ?_
    refine wp_iload_n dX0_temperatureAt_12 rfl ?_
    refine wp_raldk (n := 12) o (nd c o) dX0_temperatureAt_13 (kc hF hc 1 (by decide)) (by decide) (by decide) (lc hc 1 (by decide)) (vin (by omega) (by decide)) (nIc (by omega)) (hF.2 _ _) (rnd hF hc) ?_
    refine wp_geti (fi m 401 (nd c o)) dX0_temperatureAt_14 fX0_156 (Or.inl rfl) (knd hF hc (by omega)) rfl ?_
    refine wp_goto 21 dX0_temperatureAt_17 (by decide) ?_
    refine wp_iret dX0_temperatureAt_21 rfl ?_
    show WP G (d + 3) (0, 0) μX0_decideWishes 29 [.ref c, .int (nI i)] [.int (fi m 401 (nd c o)), .ref (ht c i)] m _
    refine wp_callV (As := [.int (fi m 401 (nd c o))]) (S := []) (b' := (0, 0)) (b := (0, 0)) dX0_decideWishes_29 MX0_227 (kht hF hc (by omega)) rfl rfl rfl rfl (Nat.le_of_ble_eq_true rfl) ?_
    refine WPM.of pX1 (Nat.le_of_ble_eq_true rfl) rfl ?_
    refine wp_aload_n dX1_decideWish_0 rfl ?_
    refine wp_geti (fi m 105 (ht c i)) dX1_decideWish_1 fX1_27 (Or.inl rfl) (kht hF hc (by omega)) rfl ?_
    refine wp_iconst (1 : Int32) dX1_decideWish_4 (by decide) ?_
    refine wp_icmp_ne 16 dX1_decideWish_5 (by decide) (fun q5 => ?_) (fun q6 => ?_)
    · skip
      refine wp_aload_n dX1_decideWish_16 rfl ?_
      refine wp_geti (fi m 105 (ht c i)) dX1_decideWish_17 fX1_27 (Or.inl rfl) (kht hF hc (by omega)) rfl ?_
      refine wp_iconst (2 : Int32) dX1_decideWish_20 (by decide) ?_
      refine wp_icmp_ne 32 dX1_decideWish_21 (by decide) (fun q7 => ?_) (fun q8 => ?_)
      · skip
        refine wp_iload_n dX1_decideWish_32 rfl ?_
        refine wp_aload_n dX1_decideWish_33 rfl ?_
        refine wp_geti (fi m 102 (ht c i)) dX1_decideWish_34 fX1_18 (Or.inl rfl) (kht hF hc (by omega)) rfl ?_
        refine wp_icmp_ge 48 dX1_decideWish_37 (by decide) (fun q9 => ?_) (fun q10 => ?_)
        · skip
          refine wp_iload_n dX1_decideWish_48 rfl ?_
          refine wp_aload_n dX1_decideWish_49 rfl ?_
          refine wp_geti (fi m 103 (ht c i)) dX1_decideWish_50 fX1_21 (Or.inl rfl) (kht hF hc (by omega)) rfl ?_
          refine wp_icmp_le 61 dX1_decideWish_53 (by decide) (fun q11 => ?_) (fun q12 => ?_)
          · skip
            refine wp_vret dX1_decideWish_61 rfl ?_
            show WP G (d + 3) (0, 0) μX0_decideWishes 32 [.ref c, .int (nI i)] [] m _
            refine wp_iinc (nI (i + 1)) dX0_decideWishes_32 rfl (by decide) (nadd (a := i) (b := 1) (by omega)) rfl ?_
            refine wp_goto 2 dX0_decideWishes_35 (by decide) ?_
            refine wp_forget [.ref c, .int (nI (i + 1))] ⟨Or.inl rfl, Or.inl rfl, trivial⟩ ?_
            exact e2 hp4 q5 q7 q9 q11
          · skip
            refine wp_aload_n dX1_decideWish_56 rfl ?_
            refine wp_iconst (0 : Int32) dX1_decideWish_57 (by decide) ?_
            refine wp_putz dX1_decideWish_58 pX1_30 (kht hF hc (by omega)) (Or.inl rfl) ?_
            have hF13 := Full_wfi 106 (ht c i) (0 : Int32) hF
            refine wp_vret dX1_decideWish_61 rfl ?_
            show WP G (d + 3) (0, 0) μX0_decideWishes 32 [.ref c, .int (nI i)] [] (wfi m 106 (ht c i) (0 : Int32)) _
            refine wp_iinc (nI (i + 1)) dX0_decideWishes_32 rfl (by decide) (nadd (a := i) (b := 1) (by omega)) rfl ?_
            refine wp_goto 2 dX0_decideWishes_35 (by decide) ?_
            refine wp_forget [.ref c, .int (nI (i + 1))] ⟨Or.inl rfl, Or.inl rfl, trivial⟩ ?_
            exact e3 hp4 q5 q7 q9 q12
        · skip
          refine wp_aload_n dX1_decideWish_40 rfl ?_
          refine wp_iconst (1 : Int32) dX1_decideWish_41 (by decide) ?_
          refine wp_putz dX1_decideWish_42 pX1_30 (kht hF hc (by omega)) (Or.inr rfl) ?_
          have hF14 := Full_wfi 106 (ht c i) (1 : Int32) hF
          refine wp_goto 61 dX1_decideWish_45 (by decide) ?_
          refine wp_vret dX1_decideWish_61 rfl ?_
          show WP G (d + 3) (0, 0) μX0_decideWishes 32 [.ref c, .int (nI i)] [] (wfi m 106 (ht c i) (1 : Int32)) _
          refine wp_iinc (nI (i + 1)) dX0_decideWishes_32 rfl (by decide) (nadd (a := i) (b := 1) (by omega)) rfl ?_
          refine wp_goto 2 dX0_decideWishes_35 (by decide) ?_
          refine wp_forget [.ref c, .int (nI (i + 1))] ⟨Or.inl rfl, Or.inl rfl, trivial⟩ ?_
          exact e4 hp4 q5 q7 q10
      · skip
        refine wp_aload_n dX1_decideWish_24 rfl ?_
        refine wp_iconst (0 : Int32) dX1_decideWish_25 (by decide) ?_
        refine wp_putz dX1_decideWish_26 pX1_30 (kht hF hc (by omega)) (Or.inl rfl) ?_
        have hF15 := Full_wfi 106 (ht c i) (0 : Int32) hF
        refine wp_goto 61 dX1_decideWish_29 (by decide) ?_
        refine wp_vret dX1_decideWish_61 rfl ?_
        show WP G (d + 3) (0, 0) μX0_decideWishes 32 [.ref c, .int (nI i)] [] (wfi m 106 (ht c i) (0 : Int32)) _
        refine wp_iinc (nI (i + 1)) dX0_decideWishes_32 rfl (by decide) (nadd (a := i) (b := 1) (by omega)) rfl ?_
        refine wp_goto 2 dX0_decideWishes_35 (by decide) ?_
        refine wp_forget [.ref c, .int (nI (i + 1))] ⟨Or.inl rfl, Or.inl rfl, trivial⟩ ?_
        exact e5 hp4 q5 q8
    · skip
      refine wp_aload_n dX1_decideWish_8 rfl ?_
      refine wp_iconst (1 : Int32) dX1_decideWish_9 (by decide) ?_
      refine wp_putz dX1_decideWish_10 pX1_30 (kht hF hc (by omega)) (Or.inr rfl) ?_
      have hF16 := Full_wfi 106 (ht c i) (1 : Int32) hF
      refine wp_goto 61 dX1_decideWish_13 (by decide) ?_
      refine wp_vret dX1_decideWish_61 rfl ?_
      show WP G (d + 3) (0, 0) μX0_decideWishes 32 [.ref c, .int (nI i)] [] (wfi m 106 (ht c i) (1 : Int32)) _
      refine wp_iinc (nI (i + 1)) dX0_decideWishes_32 rfl (by decide) (nadd (a := i) (b := 1) (by omega)) rfl ?_
      refine wp_goto 2 dX0_decideWishes_35 (by decide) ?_
      refine wp_forget [.ref c, .int (nI (i + 1))] ⟨Or.inl rfl, Or.inl rfl, trivial⟩ ?_
      exact e6 hp4 q6

theorem eC_sp {G : Cx} {d : Nat} {m : Mm} {Q : Option Value → Mm → Prop} {c : Nat}  (hF : Full G m) (hc : IsC G c) 
    (e1 : WPM G (d + 2) (0, 0) μX0_hasSun [.ref c] m (fun r' m' => WP G (d + 3) (0, 0) μX0_sharePower 4 [.ref c, lvU, lvU, lvU, lvU, lvU, lvU, lvU, lvU] (r'.toList ++ []) m' Q)) :
    WPM G (d + 3) (0, 0) μX0_sharePower [.ref c] m Q := by
  refine WPM.of pX0 (Nat.le_of_ble_eq_true rfl) rfl ?_
  refine wp_aload_n dX0_sharePower_0 rfl ?_
  refine wp_callV (As := []) (S := []) (b' := (0, 0)) (b := (0, 0)) dX0_sharePower_1 MX0_230 (kc0 hF hc) rfl rfl rfl rfl (Nat.le_of_ble_eq_true rfl) ?_
  exact e1

theorem bC_sp0 {G : Cx} {d : Nat} {m : Mm} {Q : Option Value → Mm → Prop} {c : Nat}  {r : Int32} (hF : Full G m) (hc : IsC G c) 
    (e1 : r = 0 → WP G (d + 3) (0, 0) μX0_sharePower 57 [.ref c, .long (Int32.toInt64 ((0 : Int32) - (fi m 901 (c + 7)))), lvU, .long (lmax (0 : Int64) ((quoF (Int32.toInt64 (fi m 903 (c + 7))) (Int32.toInt64 (fi m 13 c))) + (Int32.toInt64 ((0 : Int32) - (fi m 901 (c + 7)))))), lvU, .long (0 : Int64), lvU, .int (0 : Int32), lvU] [] m Q)
    (e2 : ¬ r = 0 → WP G (d + 3) (0, 0) μX0_sharePower 57 [.ref c, .long (Int32.toInt64 ((fi m 900 (c + 7)) - (fi m 901 (c + 7)))), lvU, .long (lmax (0 : Int64) ((quoF (Int32.toInt64 (fi m 903 (c + 7))) (Int32.toInt64 (fi m 13 c))) + (Int32.toInt64 ((fi m 900 (c + 7)) - (fi m 901 (c + 7)))))), lvU, .long (0 : Int64), lvU, .int (0 : Int32), lvU] [] m Q) :
    WP G (d + 3) (0, 0) μX0_sharePower 4 [.ref c, lvU, lvU, lvU, lvU, lvU, lvU, lvU, lvU] [.int r] m Q := by
  refine wp_if_eq 17 dX0_sharePower_4 (by decide) (fun q1 => ?_) (fun q2 => ?_)
  · skip
    refine wp_iconst (0 : Int32) dX0_sharePower_17 (by decide) ?_
    refine wp_aload_n dX0_sharePower_18 rfl ?_
    refine wp_getr (c + 7) dX0_sharePower_19 fX0_49 (kc0 hF hc) (hF.2 _ _) (rra 7 (isK_le (kc0 hF hc)) (fun _ => rfl)) ?_
    refine wp_geti (fi m 901 (c + 7)) dX0_sharePower_22 fX0_236 (Or.inl rfl) (kc hF hc 7 (by decide)) rfl ?_
    refine wp_isubv ((0 : Int32) - (fi m 901 (c + 7))) dX0_sharePower_25 rfl ?_
    refine wp_i2l dX0_sharePower_26 ?_
    refine wp_lstore_n dX0_sharePower_27 (by decide) rfl ?_
    refine wp_lconst (0 : Int64) dX0_sharePower_28 (by decide) ?_
    refine wp_aload_n dX0_sharePower_29 rfl ?_
    refine wp_getr (c + 7) dX0_sharePower_30 fX0_49 (kc0 hF hc) (hF.2 _ _) (rra 7 (isK_le (kc0 hF hc)) (fun _ => rfl)) ?_
    refine wp_geti (fi m 903 (c + 7)) dX0_sharePower_33 fX0_239 (Or.inl rfl) (kc hF hc 7 (by decide)) rfl ?_
    refine wp_i2l dX0_sharePower_36 ?_
    refine wp_aload_n dX0_sharePower_37 rfl ?_
    refine wp_geti (fi m 13 c) dX0_sharePower_38 fX0_67 (Or.inl rfl) (kc0 hF hc) rfl ?_
    refine wp_i2l dX0_sharePower_41 ?_
    refine wp_quoFN dX0_sharePower_42 MX0_148 (Nat.le_of_ble_eq_true rfl) ?_
    refine wp_lload_n dX0_sharePower_45 rfl ?_
    refine wp_ladd dX0_sharePower_46 ?_
    refine wp_maxL dX0_sharePower_47 AX0_242 (Nat.le_of_ble_eq_true rfl) ?_
    refine wp_lstore_n dX0_sharePower_50 (by decide) rfl ?_
    refine wp_lconst (0 : Int64) dX0_sharePower_51 (by decide) ?_
    refine wp_lstore dX0_sharePower_52 (by decide) rfl ?_
    refine wp_iconst (0 : Int32) dX0_sharePower_54 (by decide) ?_
    refine wp_istore dX0_sharePower_55 (by decide) rfl ?_
    refine wp_forget [.ref c, .long (Int32.toInt64 ((0 : Int32) - (fi m 901 (c + 7)))), lvU, .long (lmax (0 : Int64) ((quoF (Int32.toInt64 (fi m 903 (c + 7))) (Int32.toInt64 (fi m 13 c))) + (Int32.toInt64 ((0 : Int32) - (fi m 901 (c + 7)))))), lvU, .long (0 : Int64), lvU, .int (0 : Int32), lvU] ⟨Or.inl rfl, Or.inl rfl, Or.inr rfl, Or.inl rfl, Or.inr rfl, Or.inl rfl, Or.inr rfl, Or.inl rfl, Or.inr rfl, trivial⟩ ?_
    exact e1 q1
  · skip
    refine wp_aload_n dX0_sharePower_7 rfl ?_
    refine wp_getr (c + 7) dX0_sharePower_8 fX0_49 (kc0 hF hc) (hF.2 _ _) (rra 7 (isK_le (kc0 hF hc)) (fun _ => rfl)) ?_
    refine wp_geti (fi m 900 (c + 7)) dX0_sharePower_11 fX0_233 (Or.inl rfl) (kc hF hc 7 (by decide)) rfl ?_
    refine wp_goto 18 dX0_sharePower_14 (by decide) ?_
    refine wp_aload_n dX0_sharePower_18 rfl ?_
    refine wp_getr (c + 7) dX0_sharePower_19 fX0_49 (kc0 hF hc) (hF.2 _ _) (rra 7 (isK_le (kc0 hF hc)) (fun _ => rfl)) ?_
    refine wp_geti (fi m 901 (c + 7)) dX0_sharePower_22 fX0_236 (Or.inl rfl) (kc hF hc 7 (by decide)) rfl ?_
    refine wp_isubv ((fi m 900 (c + 7)) - (fi m 901 (c + 7))) dX0_sharePower_25 rfl ?_
    refine wp_i2l dX0_sharePower_26 ?_
    refine wp_lstore_n dX0_sharePower_27 (by decide) rfl ?_
    refine wp_lconst (0 : Int64) dX0_sharePower_28 (by decide) ?_
    refine wp_aload_n dX0_sharePower_29 rfl ?_
    refine wp_getr (c + 7) dX0_sharePower_30 fX0_49 (kc0 hF hc) (hF.2 _ _) (rra 7 (isK_le (kc0 hF hc)) (fun _ => rfl)) ?_
    refine wp_geti (fi m 903 (c + 7)) dX0_sharePower_33 fX0_239 (Or.inl rfl) (kc hF hc 7 (by decide)) rfl ?_
    refine wp_i2l dX0_sharePower_36 ?_
    refine wp_aload_n dX0_sharePower_37 rfl ?_
    refine wp_geti (fi m 13 c) dX0_sharePower_38 fX0_67 (Or.inl rfl) (kc0 hF hc) rfl ?_
    refine wp_i2l dX0_sharePower_41 ?_
    refine wp_quoFN dX0_sharePower_42 MX0_148 (Nat.le_of_ble_eq_true rfl) ?_
    refine wp_lload_n dX0_sharePower_45 rfl ?_
    refine wp_ladd dX0_sharePower_46 ?_
    refine wp_maxL dX0_sharePower_47 AX0_242 (Nat.le_of_ble_eq_true rfl) ?_
    refine wp_lstore_n dX0_sharePower_50 (by decide) rfl ?_
    refine wp_lconst (0 : Int64) dX0_sharePower_51 (by decide) ?_
    refine wp_lstore dX0_sharePower_52 (by decide) rfl ?_
    refine wp_iconst (0 : Int32) dX0_sharePower_54 (by decide) ?_
    refine wp_istore dX0_sharePower_55 (by decide) rfl ?_
    refine wp_forget [.ref c, .long (Int32.toInt64 ((fi m 900 (c + 7)) - (fi m 901 (c + 7)))), lvU, .long (lmax (0 : Int64) ((quoF (Int32.toInt64 (fi m 903 (c + 7))) (Int32.toInt64 (fi m 13 c))) + (Int32.toInt64 ((fi m 900 (c + 7)) - (fi m 901 (c + 7)))))), lvU, .long (0 : Int64), lvU, .int (0 : Int32), lvU] ⟨Or.inl rfl, Or.inl rfl, Or.inr rfl, Or.inl rfl, Or.inr rfl, Or.inl rfl, Or.inr rfl, Or.inl rfl, Or.inr rfl, trivial⟩ ?_
    exact e2 q2

theorem bC_sp1 {G : Cx} {d : Nat} {m : Mm} {Q : Option Value → Mm → Prop} {c : Nat} {a v u : Int64} {i n q : Nat} (hF : Full G m) (hc : IsC G c) (hn : fi m 8 c = nI n) (h8 : n ≤ 8) (hi : i ≤ n) (hq : i < n → ai m (c + 5) i = nI q) (hqn : i < n → q < n)
    (e1 : ¬ i < n → Q none (wfi (wfl m 605 (c + 8) ((fl m 605 (c + 8)) + ((Int32.toInt64 (fi m 13 c)) * u))) 903 (c + 7) (Int64.toInt32 (limF ((Int32.toInt64 (fi m 903 (c + 7))) + ((Int32.toInt64 (fi m 13 c)) * (a - u))) (0 : Int64) (Int32.toInt64 (fi m 902 (c + 7)))))))
    (e2 : i < n → ¬ (fi m 106 (ht c q)) = 0 → ¬ (v - u) < (Int32.toInt64 (fi m 101 (ht c q))) → WP G (d + 3) (0, 0) μX0_sharePower 57 [.ref c, .long a, lvU, .long v, lvU, .long (u + (Int32.toInt64 (fi m 101 (ht c q)))), lvU, .int (nI (i + 1)), lvU] [] (wfi m 107 (ht c q) (1 : Int32)) Q)
    (e3 : i < n → ¬ (fi m 106 (ht c q)) = 0 → (v - u) < (Int32.toInt64 (fi m 101 (ht c q))) → WP G (d + 3) (0, 0) μX0_sharePower 57 [.ref c, .long a, lvU, .long v, lvU, .long (u + (Int32.toInt64 (0 : Int32))), lvU, .int (nI (i + 1)), lvU] [] (wfi (wfi m 107 (ht c q) (2 : Int32)) 602 (c + 8) ((fi m 602 (c + 8)) + (1 : Int32))) Q)
    (e4 : i < n → (fi m 106 (ht c q)) = 0 → WP G (d + 3) (0, 0) μX0_sharePower 57 [.ref c, .long a, lvU, .long v, lvU, .long (u + (Int32.toInt64 (0 : Int32))), lvU, .int (nI (i + 1)), lvU] [] (wfi m 107 (ht c q) (0 : Int32)) Q) :
    WP G (d + 3) (0, 0) μX0_sharePower 57 [.ref c, .long a, lvU, .long v, lvU, .long u, lvU, .int (nI i), lvU] [] m Q := by
  refine wp_iload dX0_sharePower_57 rfl ?_
  refine wp_aload_n dX0_sharePower_59 rfl ?_
  refine wp_geti (nI n) dX0_sharePower_60 fX0_94 (Or.inl rfl) (kc0 hF hc) hn ?_
  refine wp_icmp_ge 111 dX0_sharePower_63 (by decide) (fun q1 => ?_) (fun q2 => ?_)
  · have hp3 : ¬ i < n := (fun z => q1 (nlt_ (b := n) z (by omega)))
    refine wp_aload_n dX0_sharePower_111 rfl ?_
    refine wp_getr (c + 8) dX0_sharePower_112 fX0_56 (kc0 hF hc) (hF.2 _ _) (rra 8 (isK_le (kc0 hF hc)) (fun _ => rfl)) ?_
    refine wp_dup dX0_sharePower_115 rfl ?_
    refine wp_getl (fl m 605 (c + 8)) dX0_sharePower_116 fX0_254 (kc hF hc 8 (by decide)) rfl ?_
    refine wp_aload_n dX0_sharePower_119 rfl ?_
    refine wp_geti (fi m 13 c) dX0_sharePower_120 fX0_67 (Or.inl rfl) (kc0 hF hc) rfl ?_
    refine wp_i2l dX0_sharePower_123 ?_
    refine wp_lload dX0_sharePower_124 rfl ?_
    refine wp_lmul dX0_sharePower_126 ?_
    refine wp_ladd dX0_sharePower_127 ?_
    refine wp_putl dX0_sharePower_128 pX0_254 (kc hF hc 8 (by decide)) ?_
    have hF4 := Full_wfl 605 (c + 8) ((fl m 605 (c + 8)) + ((Int32.toInt64 (fi m 13 c)) * u)) hF
    refine wp_aload_n dX0_sharePower_131 rfl ?_
    refine wp_getr (c + 7) dX0_sharePower_132 fX0_49 (kc0 hF4 hc) (hF4.2 _ _) (rra 7 (isK_le (kc0 hF4 hc)) (fun _ => rfl)) ?_
    refine wp_geti (fi m 903 (c + 7)) dX0_sharePower_135 fX0_239 (Or.inl rfl) (kc hF4 hc 7 (by decide)) fi_wfl ?_
    refine wp_i2l dX0_sharePower_138 ?_
    refine wp_aload_n dX0_sharePower_139 rfl ?_
    refine wp_geti (fi m 13 c) dX0_sharePower_140 fX0_67 (Or.inl rfl) (kc0 hF4 hc) fi_wfl ?_
    refine wp_i2l dX0_sharePower_143 ?_
    refine wp_lload_n dX0_sharePower_144 rfl ?_
    refine wp_lload dX0_sharePower_145 rfl ?_
    refine wp_lsub dX0_sharePower_147 ?_
    refine wp_lmul dX0_sharePower_148 ?_
    refine wp_ladd dX0_sharePower_149 ?_
    refine wp_lstore dX0_sharePower_150 (by decide) rfl ?_
    refine wp_aload_n dX0_sharePower_152 rfl ?_
    refine wp_getr (c + 7) dX0_sharePower_153 fX0_49 (kc0 hF4 hc) (hF4.2 _ _) (rra 7 (isK_le (kc0 hF4 hc)) (fun _ => rfl)) ?_
    refine wp_lload dX0_sharePower_156 rfl ?_
    refine wp_lconst (0 : Int64) dX0_sharePower_158 (by decide) ?_
    refine wp_aload_n dX0_sharePower_159 rfl ?_
    refine wp_getr (c + 7) dX0_sharePower_160 fX0_49 (kc0 hF4 hc) (hF4.2 _ _) (rra 7 (isK_le (kc0 hF4 hc)) (fun _ => rfl)) ?_
    refine wp_geti (fi m 902 (c + 7)) dX0_sharePower_163 fX0_258 (Or.inl rfl) (kc hF4 hc 7 (by decide)) fi_wfl ?_
    refine wp_i2l dX0_sharePower_166 ?_
    refine wp_limFN dX0_sharePower_167 MX0_174 (Nat.le_of_ble_eq_true rfl) ?_
    refine wp_l2i dX0_sharePower_170 ?_
    refine wp_puti dX0_sharePower_171 pX0_239 (kc hF4 hc 7 (by decide)) ?_
    have hF5 := Full_wfi 903 (c + 7) (Int64.toInt32 (limF ((Int32.toInt64 (fi m 903 (c + 7))) + ((Int32.toInt64 (fi m 13 c)) * (a - u))) (0 : Int64) (Int32.toInt64 (fi m 902 (c + 7))))) hF4
    exact wp_vret dX0_sharePower_174 rfl (e1 hp3)
  · have hp6 : i < n := (nlt q2 (by omega) (by omega))
    refine wp_aload_n dX0_sharePower_66 rfl ?_
    refine wp_getr (c + 5) dX0_sharePower_67 fX0_35 (kc0 hF hc) (hF.2 _ _) (rra 5 (isK_le (kc0 hF hc)) (fun _ => rfl)) ?_
    refine wp_iload dX0_sharePower_70 rfl ?_
    refine wp_ialdk (n := 8) i (nI q) dX0_sharePower_72 (kc hF hc 5 (by decide)) (lc hc 5 (by decide)) (vin (by omega) (by decide)) (nIc (by omega)) (hq (by omega)) ?_
    refine wp_istore dX0_sharePower_73 (by decide) rfl ?_
    refine wp_aload_n dX0_sharePower_75 rfl ?_
    refine wp_iload dX0_sharePower_76 rfl ?_
    refine wp_callV (As := [.int (nI q)]) (S := []) (b' := (0, 0)) (b := (0, 0)) dX0_sharePower_78 MX0_247 (kc0 hF hc) rfl rfl rfl rfl (Nat.le_of_ble_eq_true rfl) ?_
    refine WPM.of pX0 (Nat.le_of_ble_eq_true rfl) rfl ?_
    refine wp_iload_n dX0_hasHeater_0 rfl ?_
    refine wp_if_lt 16 dX0_hasHeater_1 (by decide) (fun q => absurd q (nI_pos (by omega))) (fun _ => ?_)
    refine wp_iload_n dX0_hasHeater_4 rfl ?_
    refine wp_aload_n dX0_hasHeater_5 rfl ?_
    refine wp_geti (nI n) dX0_hasHeater_6 fX0_94 (Or.inl rfl) (kc0 hF hc) hn ?_
    refine wp_icmp_ge 16 dX0_hasHeater_9 (by decide) (fun q => absurd (nlt_ (hqn (by omega)) (by omega)) q) (fun _ => ?_)
    refine wp_iconst (1 : Int32) dX0_hasHeater_12 (by decide) ?_
    refine wp_goto 17 dX0_hasHeater_13 (by decide) ?_
    refine wp_zret dX0_hasHeater_17 rfl rfl ?_
    show WP G (d + 3) (0, 0) μX0_sharePower 81 [.ref c, .long a, lvU, .long v, lvU, .long u, lvU, .int (nI i), .int (nI q)] [.int (1 : Int32)] m _
    refine wp_if_eq 105 dX0_sharePower_81 (by decide) (fun q => absurd q (by decide)) (fun _ => ?_)
    refine wp_lload dX0_sharePower_84 rfl ?_
    refine wp_aload_n dX0_sharePower_86 rfl ?_
    refine wp_aload_n dX0_sharePower_87 rfl ?_
    refine wp_getr (c + 4) dX0_sharePower_88 fX0_31 (kc0 hF hc) (hF.2 _ _) (rra 4 (isK_le (kc0 hF hc)) (fun _ => rfl)) ?_
    refine wp_iload dX0_sharePower_91 rfl ?_
    refine wp_raldk (n := 8) q (ht c q) dX0_sharePower_93 (kc hF hc 4 (by decide)) (by decide) (by decide) (lc hc 4 (by decide)) (vin (by omega) (by decide)) (nIc (by omega)) (hF.2 _ _) (rht hF hc) ?_
    refine wp_lload_n dX0_sharePower_94 rfl ?_
    refine wp_lload dX0_sharePower_95 rfl ?_
    refine wp_lsub dX0_sharePower_97 ?_
    refine wp_callV (As := [.ref (ht c q), .long (v - u)]) (S := [.long u]) (b' := (0, 0)) (b := (0, 0)) dX0_sharePower_98 MX0_250 (kc0 hF hc) rfl rfl rfl rfl (Nat.le_of_ble_eq_true rfl) ?_
    refine WPM.of pX0 (Nat.le_of_ble_eq_true rfl) rfl ?_
    refine wp_aload_n dX0_switchHeater_0 rfl ?_
    refine wp_geti (fi m 106 (ht c q)) dX0_switchHeater_1 fX0_261 (Or.inr rfl) (kht hF hc (by omega)) rfl ?_
    refine wp_if_ne 14 dX0_switchHeater_4 (by decide) (fun q7 => ?_) (fun q8 => ?_)
    · skip
      refine wp_aload_n dX0_switchHeater_14 rfl ?_
      refine wp_geti (fi m 101 (ht c q)) dX0_switchHeater_15 fX0_181 (Or.inl rfl) (kht hF hc (by omega)) rfl ?_
      refine wp_i2l dX0_switchHeater_18 ?_
      refine wp_lload_n dX0_switchHeater_19 rfl ?_
      refine wp_lc_le 44 dX0_switchHeater_20 dX0_switchHeater_21 (by decide) (fun q9 => ?_) (fun q10 => ?_)
      · skip
        refine wp_aload_n dX0_switchHeater_44 rfl ?_
        refine wp_iconst (1 : Int32) dX0_switchHeater_45 (by decide) ?_
        refine wp_puti dX0_switchHeater_46 pX0_178 (kht hF hc (by omega)) ?_
        have hF11 := Full_wfi 107 (ht c q) (1 : Int32) hF
        refine wp_aload_n dX0_switchHeater_49 rfl ?_
        refine wp_geti (fi m 101 (ht c q)) dX0_switchHeater_50 fX0_181 (Or.inl rfl) (kht hF11 hc (by omega)) (fi_ne (by decide)) ?_
        refine wp_iret dX0_switchHeater_53 rfl ?_
        show WP G (d + 3) (0, 0) μX0_sharePower 101 [.ref c, .long a, lvU, .long v, lvU, .long u, lvU, .int (nI i), .int (nI q)] [.int (fi m 101 (ht c q)), .long u] (wfi m 107 (ht c q) (1 : Int32)) _
        refine wp_i2l dX0_sharePower_101 ?_
        refine wp_ladd dX0_sharePower_102 ?_
        refine wp_lstore dX0_sharePower_103 (by decide) rfl ?_
        refine wp_iinc (nI (i + 1)) dX0_sharePower_105 rfl (by decide) (nadd (a := i) (b := 1) (by omega)) rfl ?_
        refine wp_goto 57 dX0_sharePower_108 (by decide) ?_
        refine wp_forget [.ref c, .long a, lvU, .long v, lvU, .long (u + (Int32.toInt64 (fi m 101 (ht c q)))), lvU, .int (nI (i + 1)), lvU] ⟨Or.inl rfl, Or.inl rfl, Or.inr rfl, Or.inl rfl, Or.inr rfl, Or.inl rfl, Or.inr rfl, Or.inl rfl, Or.inr rfl, trivial⟩ ?_
        exact e2 hp6 q7 q9
      · skip
        refine wp_aload_n dX0_switchHeater_24 rfl ?_
        refine wp_iconst (2 : Int32) dX0_switchHeater_25 (by decide) ?_
        refine wp_puti dX0_switchHeater_26 pX0_178 (kht hF hc (by omega)) ?_
        have hF12 := Full_wfi 107 (ht c q) (2 : Int32) hF
        refine wp_aload_n dX0_switchHeater_29 rfl ?_
        refine wp_getr (c + 8) dX0_switchHeater_30 fX0_56 (kc0 hF12 hc) (hF12.2 _ _) (rra 8 (isK_le (kc0 hF12 hc)) (fun _ => rfl)) ?_
        refine wp_dup dX0_switchHeater_33 rfl ?_
        refine wp_geti (fi m 602 (c + 8)) dX0_switchHeater_34 fX0_264 (Or.inl rfl) (kc hF12 hc 8 (by decide)) (fi_ne (by decide)) ?_
        refine wp_iconst (1 : Int32) dX0_switchHeater_37 (by decide) ?_
        refine wp_iaddv ((fi m 602 (c + 8)) + (1 : Int32)) dX0_switchHeater_38 rfl ?_
        refine wp_puti dX0_switchHeater_39 pX0_264 (kc hF12 hc 8 (by decide)) ?_
        have hF13 := Full_wfi 602 (c + 8) ((fi m 602 (c + 8)) + (1 : Int32)) hF12
        refine wp_iconst (0 : Int32) dX0_switchHeater_42 (by decide) ?_
        refine wp_iret dX0_switchHeater_43 rfl ?_
        show WP G (d + 3) (0, 0) μX0_sharePower 101 [.ref c, .long a, lvU, .long v, lvU, .long u, lvU, .int (nI i), .int (nI q)] [.int (0 : Int32), .long u] (wfi (wfi m 107 (ht c q) (2 : Int32)) 602 (c + 8) ((fi m 602 (c + 8)) + (1 : Int32))) _
        refine wp_i2l dX0_sharePower_101 ?_
        refine wp_ladd dX0_sharePower_102 ?_
        refine wp_lstore dX0_sharePower_103 (by decide) rfl ?_
        refine wp_iinc (nI (i + 1)) dX0_sharePower_105 rfl (by decide) (nadd (a := i) (b := 1) (by omega)) rfl ?_
        refine wp_goto 57 dX0_sharePower_108 (by decide) ?_
        refine wp_forget [.ref c, .long a, lvU, .long v, lvU, .long (u + (Int32.toInt64 (0 : Int32))), lvU, .int (nI (i + 1)), lvU] ⟨Or.inl rfl, Or.inl rfl, Or.inr rfl, Or.inl rfl, Or.inr rfl, Or.inl rfl, Or.inr rfl, Or.inl rfl, Or.inr rfl, trivial⟩ ?_
        exact e3 hp6 q7 q10
    · skip
      refine wp_aload_n dX0_switchHeater_7 rfl ?_
      refine wp_iconst (0 : Int32) dX0_switchHeater_8 (by decide) ?_
      refine wp_puti dX0_switchHeater_9 pX0_178 (kht hF hc (by omega)) ?_
      have hF14 := Full_wfi 107 (ht c q) (0 : Int32) hF
      refine wp_iconst (0 : Int32) dX0_switchHeater_12 (by decide) ?_
      refine wp_iret dX0_switchHeater_13 rfl ?_
      show WP G (d + 3) (0, 0) μX0_sharePower 101 [.ref c, .long a, lvU, .long v, lvU, .long u, lvU, .int (nI i), .int (nI q)] [.int (0 : Int32), .long u] (wfi m 107 (ht c q) (0 : Int32)) _
      refine wp_i2l dX0_sharePower_101 ?_
      refine wp_ladd dX0_sharePower_102 ?_
      refine wp_lstore dX0_sharePower_103 (by decide) rfl ?_
      refine wp_iinc (nI (i + 1)) dX0_sharePower_105 rfl (by decide) (nadd (a := i) (b := 1) (by omega)) rfl ?_
      refine wp_goto 57 dX0_sharePower_108 (by decide) ?_
      refine wp_forget [.ref c, .long a, lvU, .long v, lvU, .long (u + (Int32.toInt64 (0 : Int32))), lvU, .int (nI (i + 1)), lvU] ⟨Or.inl rfl, Or.inl rfl, Or.inr rfl, Or.inl rfl, Or.inr rfl, Or.inl rfl, Or.inr rfl, Or.inl rfl, Or.inr rfl, trivial⟩ ?_
      exact e4 hp6 q8

theorem eC_bh {G : Cx} {d : Nat} {m : Mm} {Q : Option Value → Mm → Prop} {c : Nat}  (hF : Full G m) (hc : IsC G c) 
    (e1 : WPM G (d + 2) (0, 0) μX0_hasSun [.ref c] m (fun r' m' => WP G (d + 3) (0, 0) μX0_balanceHeat 4 [.ref c, lvU, lvU, lvU] (r'.toList ++ []) m' Q)) :
    WPM G (d + 3) (0, 0) μX0_balanceHeat [.ref c] m Q := by
  refine WPM.of pX0 (Nat.le_of_ble_eq_true rfl) rfl ?_
  refine wp_aload_n dX0_balanceHeat_0 rfl ?_
  refine wp_callV (As := []) (S := []) (b' := (0, 0)) (b := (0, 0)) dX0_balanceHeat_1 MX0_230 (kc0 hF hc) rfl rfl rfl rfl (Nat.le_of_ble_eq_true rfl) ?_
  exact e1

theorem bC_bh0 {G : Cx} {d : Nat} {m : Mm} {Q : Option Value → Mm → Prop} {c : Nat}  {r : Int32} (hF : Full G m) (hc : IsC G c) 
    (e1 : WP G (d + 3) (0, 0) μX0_balanceHeat 7 [.ref c, .int r, .int (0 : Int32), lvU] [] m Q) :
    WP G (d + 3) (0, 0) μX0_balanceHeat 4 [.ref c, lvU, lvU, lvU] [.int r] m Q := by
  refine wp_istore_n dX0_balanceHeat_4 (by decide) rfl ?_
  refine wp_iconst (0 : Int32) dX0_balanceHeat_5 (by decide) ?_
  refine wp_istore_n dX0_balanceHeat_6 (by decide) rfl ?_
  refine wp_forget [.ref c, .int r, .int (0 : Int32), lvU] ⟨Or.inl rfl, Or.inl rfl, Or.inl rfl, Or.inr rfl, trivial⟩ ?_
  exact e1

theorem bC_bh1 {G : Cx} {d : Nat} {m : Mm} {Q : Option Value → Mm → Prop} {c : Nat} {z : Int32} {i n : Nat} (hF : Full G m) (hc : IsC G c) (hn : fi m 5 c = nI n) (h12 : n ≤ 12) (hi : i ≤ n) 
    (e1 : ¬ i < n → WP G (d + 3) (0, 0) μX0_balanceHeat 62 [.ref c, lvU, .int (0 : Int32), lvU] [] m Q)
    (e2 : i < n → z = 0 → WP G (d + 3) (0, 0) μX0_balanceHeat 7 [.ref c, .int z, .int (nI (i + 1)), lvU] [] (wfl (wfl (wfl (wfl m 411 (nd c i) (Int32.toInt64 (fi m 402 (nd c i)))) 412 (nd c i) (((Int32.toInt64 (fi m 402 (nd c i))) * (Int32.toInt64 (fi m 505 (c + 6)))) / (10 : Int64))) 414 (nd c i) (0 : Int64)) 415 (nd c i) (0 : Int64)) Q)
    (e3 : i < n → ¬ z = 0 → WP G (d + 3) (0, 0) μX0_balanceHeat 7 [.ref c, .int z, .int (nI (i + 1)), lvU] [] (wfl (wfl (wfl (wfl m 411 (nd c i) (Int32.toInt64 (fi m 402 (nd c i)))) 412 (nd c i) ((((Int32.toInt64 (fi m 402 (nd c i))) * (Int32.toInt64 (fi m 505 (c + 6)))) / (10 : Int64)) + ((((Int32.toInt64 (fi m 403 (nd c i))) * (Int32.toInt64 (fi m 503 (c + 6)))) / (10 : Int64)) + ((((Int32.toInt64 (fi m 403 (nd c i))) * (Int32.toInt64 (fi m 503 (c + 6)))) * (Int32.toInt64 (fi m 504 (c + 6)))) / (1000 : Int64))))) 414 (nd c i) (0 : Int64)) 415 (nd c i) (0 : Int64)) Q) :
    WP G (d + 3) (0, 0) μX0_balanceHeat 7 [.ref c, .int z, .int (nI i), lvU] [] m Q := by
  refine wp_iload_n dX0_balanceHeat_7 rfl ?_
  refine wp_aload_n dX0_balanceHeat_8 rfl ?_
  refine wp_geti (nI n) dX0_balanceHeat_9 fX0_75 (Or.inl rfl) (kc0 hF hc) hn ?_
  refine wp_icmp_ge 60 dX0_balanceHeat_12 (by decide) (fun q1 => ?_) (fun q2 => ?_)
  · have hp3 : ¬ i < n := (fun z => q1 (nlt_ (b := n) z (by omega)))
    refine wp_iconst (0 : Int32) dX0_balanceHeat_60 (by decide) ?_
    refine wp_istore_n dX0_balanceHeat_61 (by decide) rfl ?_
    refine wp_forget [.ref c, lvU, .int (0 : Int32), lvU] ⟨Or.inl rfl, Or.inr rfl, Or.inl rfl, Or.inr rfl, trivial⟩ ?_
    exact e1 hp3
  · have hp4 : i < n := (nlt q2 (by omega) (by omega))
    refine wp_aload_n dX0_balanceHeat_15 rfl ?_
    refine wp_getr (c + 1) dX0_balanceHeat_16 fX0_11 (kc0 hF hc) (hF.2 _ _) (rra 1 (isK_le (kc0 hF hc)) (fun _ => rfl)) ?_
    refine wp_iload_n dX0_balanceHeat_19 rfl ?_
    refine wp_raldk (n := 12) i (nd c i) dX0_balanceHeat_20 (kc hF hc 1 (by decide)) (by decide) (by decide) (lc hc 1 (by decide)) (vin (by omega) (by decide)) (nIc (by omega)) (hF.2 _ _) (rnd hF hc) ?_
    refine wp_astore_n dX0_balanceHeat_21 (by decide) rfl ?_
    refine wp_aload_n dX0_balanceHeat_22 rfl ?_
    refine wp_aload_n dX0_balanceHeat_23 rfl ?_
    refine wp_geti (fi m 402 (nd c i)) dX0_balanceHeat_24 fX0_267 (Or.inl rfl) (knd hF hc (by omega)) rfl ?_
    refine wp_i2l dX0_balanceHeat_27 ?_
    refine wp_putl dX0_balanceHeat_28 pX0_270 (knd hF hc (by omega)) ?_
    have hF5 := Full_wfl 411 (nd c i) (Int32.toInt64 (fi m 402 (nd c i))) hF
    refine wp_aload_n dX0_balanceHeat_31 rfl ?_
    refine wp_aload_n dX0_balanceHeat_32 rfl ?_
    refine wp_getr (c + 6) dX0_balanceHeat_33 fX0_42 (kc0 hF5 hc) (hF5.2 _ _) (rra 6 (isK_le (kc0 hF5 hc)) (fun _ => rfl)) ?_
    refine wp_aload_n dX0_balanceHeat_36 rfl ?_
    refine wp_iload_n dX0_balanceHeat_37 rfl ?_
    refine wp_callV (As := [.ref (nd c i), .int z]) (S := [.ref (nd c i)]) (b' := (0, 0)) (b := (0, 0)) dX0_balanceHeat_38 MX0_273 (kc hF5 hc 6 (by decide)) rfl rfl rfl rfl (Nat.le_of_ble_eq_true rfl) ?_
    refine WPM.of pX5 (Nat.le_of_ble_eq_true rfl) rfl ?_
    refine wp_aload_n dX5_heatInto_0 rfl ?_
    refine wp_geti (fi m 402 (nd c i)) dX5_heatInto_1 fX5_32 (Or.inl rfl) (knd hF5 hc (by omega)) fi_wfl ?_
    refine wp_i2l dX5_heatInto_4 ?_
    refine wp_aload_n dX5_heatInto_5 rfl ?_
    refine wp_geti (fi m 505 (c + 6)) dX5_heatInto_6 fX5_25 (Or.inl rfl) (kc hF5 hc 6 (by decide)) fi_wfl ?_
    refine wp_i2l dX5_heatInto_9 ?_
    refine wp_lmul dX5_heatInto_10 ?_
    refine wp_ldc2 dX5_heatInto_11 kX5_37 ?_
    refine wp_ldiv dX5_heatInto_14 (by decide) ?_
    refine wp_lstore_n dX5_heatInto_15 (by decide) rfl ?_
    refine wp_iload_n dX5_heatInto_16 rfl ?_
    refine wp_if_eq 55 dX5_heatInto_17 (by decide) (fun q6 => ?_) (fun q7 => ?_)
    · skip
      refine wp_lload_n dX5_heatInto_55 rfl ?_
      refine wp_lret dX5_heatInto_56 rfl ?_
      show WP G (d + 3) (0, 0) μX0_balanceHeat 41 [.ref c, .int z, .int (nI i), .ref (nd c i)] [.long (((Int32.toInt64 (fi m 402 (nd c i))) * (Int32.toInt64 (fi m 505 (c + 6)))) / (10 : Int64)), .ref (nd c i)] (wfl m 411 (nd c i) (Int32.toInt64 (fi m 402 (nd c i)))) _
      refine wp_putl dX0_balanceHeat_41 pX0_277 (knd hF5 hc (by omega)) ?_
      have hF8 := Full_wfl 412 (nd c i) (((Int32.toInt64 (fi m 402 (nd c i))) * (Int32.toInt64 (fi m 505 (c + 6)))) / (10 : Int64)) hF5
      refine wp_aload_n dX0_balanceHeat_44 rfl ?_
      refine wp_lconst (0 : Int64) dX0_balanceHeat_45 (by decide) ?_
      refine wp_putl dX0_balanceHeat_46 pX0_280 (knd hF8 hc (by omega)) ?_
      have hF9 := Full_wfl 414 (nd c i) (0 : Int64) hF8
      refine wp_aload_n dX0_balanceHeat_49 rfl ?_
      refine wp_lconst (0 : Int64) dX0_balanceHeat_50 (by decide) ?_
      refine wp_putl dX0_balanceHeat_51 pX0_283 (knd hF9 hc (by omega)) ?_
      have hF10 := Full_wfl 415 (nd c i) (0 : Int64) hF9
      refine wp_iinc (nI (i + 1)) dX0_balanceHeat_54 rfl (by decide) (nadd (a := i) (b := 1) (by omega)) rfl ?_
      refine wp_goto 7 dX0_balanceHeat_57 (by decide) ?_
      refine wp_forget [.ref c, .int z, .int (nI (i + 1)), lvU] ⟨Or.inl rfl, Or.inl rfl, Or.inl rfl, Or.inr rfl, trivial⟩ ?_
      exact e2 hp4 q6
    · skip
      refine wp_aload_n dX5_heatInto_20 rfl ?_
      refine wp_geti (fi m 403 (nd c i)) dX5_heatInto_21 fX5_39 (Or.inl rfl) (knd hF5 hc (by omega)) fi_wfl ?_
      refine wp_i2l dX5_heatInto_24 ?_
      refine wp_aload_n dX5_heatInto_25 rfl ?_
      refine wp_geti (fi m 503 (c + 6)) dX5_heatInto_26 fX5_13 (Or.inl rfl) (kc hF5 hc 6 (by decide)) fi_wfl ?_
      refine wp_i2l dX5_heatInto_29 ?_
      refine wp_lmul dX5_heatInto_30 ?_
      refine wp_lstore dX5_heatInto_31 (by decide) rfl ?_
      refine wp_lload_n dX5_heatInto_33 rfl ?_
      refine wp_lload dX5_heatInto_34 rfl ?_
      refine wp_ldc2 dX5_heatInto_36 kX5_37 ?_
      refine wp_ldiv dX5_heatInto_39 (by decide) ?_
      refine wp_lload dX5_heatInto_40 rfl ?_
      refine wp_aload_n dX5_heatInto_42 rfl ?_
      refine wp_geti (fi m 504 (c + 6)) dX5_heatInto_43 fX5_22 (Or.inl rfl) (kc hF5 hc 6 (by decide)) fi_wfl ?_
      refine wp_i2l dX5_heatInto_46 ?_
      refine wp_lmul dX5_heatInto_47 ?_
      refine wp_ldc2 dX5_heatInto_48 kX5_42 ?_
      refine wp_ldiv dX5_heatInto_51 (by decide) ?_
      refine wp_ladd dX5_heatInto_52 ?_
      refine wp_ladd dX5_heatInto_53 ?_
      refine wp_lstore_n dX5_heatInto_54 (by decide) rfl ?_
      refine wp_lload_n dX5_heatInto_55 rfl ?_
      refine wp_lret dX5_heatInto_56 rfl ?_
      show WP G (d + 3) (0, 0) μX0_balanceHeat 41 [.ref c, .int z, .int (nI i), .ref (nd c i)] [.long ((((Int32.toInt64 (fi m 402 (nd c i))) * (Int32.toInt64 (fi m 505 (c + 6)))) / (10 : Int64)) + ((((Int32.toInt64 (fi m 403 (nd c i))) * (Int32.toInt64 (fi m 503 (c + 6)))) / (10 : Int64)) + ((((Int32.toInt64 (fi m 403 (nd c i))) * (Int32.toInt64 (fi m 503 (c + 6)))) * (Int32.toInt64 (fi m 504 (c + 6)))) / (1000 : Int64)))), .ref (nd c i)] (wfl m 411 (nd c i) (Int32.toInt64 (fi m 402 (nd c i)))) _
      refine wp_putl dX0_balanceHeat_41 pX0_277 (knd hF5 hc (by omega)) ?_
      have hF11 := Full_wfl 412 (nd c i) ((((Int32.toInt64 (fi m 402 (nd c i))) * (Int32.toInt64 (fi m 505 (c + 6)))) / (10 : Int64)) + ((((Int32.toInt64 (fi m 403 (nd c i))) * (Int32.toInt64 (fi m 503 (c + 6)))) / (10 : Int64)) + ((((Int32.toInt64 (fi m 403 (nd c i))) * (Int32.toInt64 (fi m 503 (c + 6)))) * (Int32.toInt64 (fi m 504 (c + 6)))) / (1000 : Int64)))) hF5
      refine wp_aload_n dX0_balanceHeat_44 rfl ?_
      refine wp_lconst (0 : Int64) dX0_balanceHeat_45 (by decide) ?_
      refine wp_putl dX0_balanceHeat_46 pX0_280 (knd hF11 hc (by omega)) ?_
      have hF12 := Full_wfl 414 (nd c i) (0 : Int64) hF11
      refine wp_aload_n dX0_balanceHeat_49 rfl ?_
      refine wp_lconst (0 : Int64) dX0_balanceHeat_50 (by decide) ?_
      refine wp_putl dX0_balanceHeat_51 pX0_283 (knd hF12 hc (by omega)) ?_
      have hF13 := Full_wfl 415 (nd c i) (0 : Int64) hF12
      refine wp_iinc (nI (i + 1)) dX0_balanceHeat_54 rfl (by decide) (nadd (a := i) (b := 1) (by omega)) rfl ?_
      refine wp_goto 7 dX0_balanceHeat_57 (by decide) ?_
      refine wp_forget [.ref c, .int z, .int (nI (i + 1)), lvU] ⟨Or.inl rfl, Or.inl rfl, Or.inl rfl, Or.inr rfl, trivial⟩ ?_
      exact e3 hp4 q7

theorem bC_bh2 {G : Cx} {d : Nat} {m : Mm} {Q : Option Value → Mm → Prop} {c : Nat} {i n k o : Nat} (hF : Full G m) (hc : IsC G c) (hn : fi m 7 c = nI n) (h6 : n ≤ 6) (hi : i ≤ n) (hk : fi m 5 c = nI k) (hk12 : k ≤ 12) (ho : i < n → fi m 300 (lv c i) = nI o) (hok : i < n → o < k)
    (e1 : ¬ i < n → WP G (d + 3) (0, 0) μX0_balanceHeat 127 [.ref c, lvU, .int (0 : Int32), lvU] [] m Q)
    (e2 : i < n → WP G (d + 3) (0, 0) μX0_balanceHeat 62 [.ref c, lvU, .int (nI (i + 1)), lvU] [] (wfl m 411 (nd c o) ((fl m 411 (nd c o)) + (Int32.toInt64 (((fi m 301 (lv c i)) * (fi m 305 (lv c i))) / (1000 : Int32))))) Q) :
    WP G (d + 3) (0, 0) μX0_balanceHeat 62 [.ref c, lvU, .int (nI i), lvU] [] m Q := by
  refine wp_iload_n dX0_balanceHeat_62 rfl ?_
  refine wp_aload_n dX0_balanceHeat_63 rfl ?_
  refine wp_geti (nI n) dX0_balanceHeat_64 fX0_88 (Or.inl rfl) (kc0 hF hc) hn ?_
  refine wp_icmp_ge 125 dX0_balanceHeat_67 (by decide) (fun q1 => ?_) (fun q2 => ?_)
  · have hp3 : ¬ i < n := (fun z => q1 (nlt_ (b := n) z (by omega)))
    refine wp_iconst (0 : Int32) dX0_balanceHeat_125 (by decide) ?_
    refine wp_istore_n dX0_balanceHeat_126 (by decide) rfl ?_
    refine wp_forget [.ref c, lvU, .int (0 : Int32), lvU] ⟨Or.inl rfl, Or.inr rfl, Or.inl rfl, Or.inr rfl, trivial⟩ ?_
    exact e1 hp3
  · have hp4 : i < n := (nlt q2 (by omega) (by omega))
    refine wp_aload_n dX0_balanceHeat_70 rfl ?_
    refine wp_getr (c + 3) dX0_balanceHeat_71 fX0_25 (kc0 hF hc) (hF.2 _ _) (rra 3 (isK_le (kc0 hF hc)) (fun _ => rfl)) ?_
    refine wp_iload_n dX0_balanceHeat_74 rfl ?_
    refine wp_raldk (n := 6) i (lv c i) dX0_balanceHeat_75 (kc hF hc 3 (by decide)) (by decide) (by decide) (lc hc 3 (by decide)) (vin (by omega) (by decide)) (nIc (by omega)) (hF.2 _ _) (rlv hF hc) ?_
    refine wp_astore_n dX0_balanceHeat_76 (by decide) rfl ?_
    refine wp_aload_n dX0_balanceHeat_77 rfl ?_
    refine wp_aload_n dX0_balanceHeat_78 rfl ?_
    refine wp_geti (nI o) dX0_balanceHeat_79 fX0_159 (Or.inl rfl) (klv hF hc (by omega)) (ho (by omega)) ?_
    refine wp_callV (As := [.int (nI o)]) (S := []) (b' := (0, 0)) (b := (0, 0)) dX0_balanceHeat_82 MX0_152 (kc0 hF hc) rfl rfl rfl rfl (Nat.le_of_ble_eq_true rfl) ?_
    refine WPM.of pX0 (Nat.le_of_ble_eq_true rfl) rfl ?_
    refine wp_iload_n dX0_hasNode_0 rfl ?_
    refine wp_if_lt 16 dX0_hasNode_1 (by decide) (fun q => absurd q (nI_pos (by omega))) (fun _ => ?_)
    refine wp_iload_n dX0_hasNode_4 rfl ?_
    refine wp_aload_n dX0_hasNode_5 rfl ?_
    refine wp_geti (nI k) dX0_hasNode_6 fX0_75 (Or.inl rfl) (kc0 hF hc) hk ?_
    refine wp_icmp_ge 16 dX0_hasNode_9 (by decide) (fun q => absurd (nlt_ (hok (by omega)) (by omega)) q) (fun _ => ?_)
    refine wp_iconst (1 : Int32) dX0_hasNode_12 (by decide) ?_
    refine wp_goto 17 dX0_hasNode_13 (by decide) ?_
    refine wp_zret dX0_hasNode_17 rfl rfl ?_
    show WP G (d + 3) (0, 0) μX0_balanceHeat 85 [.ref c, lvU, .int (nI i), .ref (lv c i)] [.int (1 : Int32)] m _
    refine wp_if_eq 119 dX0_balanceHeat_85 (by decide) (fun q => absurd q (by decide)) (fun _ => ?_)
    refine wp_aload_n dX0_balanceHeat_88 rfl ?_
    refine wp_getr (c + 1) dX0_balanceHeat_89 fX0_11 (kc0 hF hc) (hF.2 _ _) (rra 1 (isK_le (kc0 hF hc)) (fun _ => rfl)) ?_
    refine wp_aload_n dX0_balanceHeat_92 rfl ?_
    refine wp_geti (nI o) dX0_balanceHeat_93 fX0_159 (Or.inl rfl) (klv hF hc (by omega)) (ho (by omega)) ?_
    refine wp_raldk (n := 12) o (nd c o) dX0_balanceHeat_96 (kc hF hc 1 (by decide)) (by decide) (by decide) (lc hc 1 (by decide)) (vin (by omega) (by decide)) (nIc (by omega)) (hF.2 _ _) (rnd hF hc) ?_
    refine wp_dup dX0_balanceHeat_97 rfl ?_
    refine wp_getl (fl m 411 (nd c o)) dX0_balanceHeat_98 fX0_270 (knd hF hc (by omega)) rfl ?_
    refine wp_aload_n dX0_balanceHeat_101 rfl ?_
    refine wp_geti (fi m 301 (lv c i)) dX0_balanceHeat_102 fX0_284 (Or.inl rfl) (klv hF hc (by omega)) rfl ?_
    refine wp_aload_n dX0_balanceHeat_105 rfl ?_
    refine wp_geti (fi m 305 (lv c i)) dX0_balanceHeat_106 fX0_286 (Or.inl rfl) (klv hF hc (by omega)) rfl ?_
    refine wp_imulv ((fi m 301 (lv c i)) * (fi m 305 (lv c i))) dX0_balanceHeat_109 rfl ?_
    refine wp_sipush (1000 : Int32) dX0_balanceHeat_110 (by decide) ?_
    refine wp_idiv dX0_balanceHeat_113 (by decide) ?_
    refine wp_i2l dX0_balanceHeat_114 ?_
    refine wp_ladd dX0_balanceHeat_115 ?_
    refine wp_putl dX0_balanceHeat_116 pX0_270 (knd hF hc (by omega)) ?_
    have hF5 := Full_wfl 411 (nd c o) ((fl m 411 (nd c o)) + (Int32.toInt64 (((fi m 301 (lv c i)) * (fi m 305 (lv c i))) / (1000 : Int32)))) hF
    refine wp_iinc (nI (i + 1)) dX0_balanceHeat_119 rfl (by decide) (nadd (a := i) (b := 1) (by omega)) rfl ?_
    refine wp_goto 62 dX0_balanceHeat_122 (by decide) ?_
    refine wp_forget [.ref c, lvU, .int (nI (i + 1)), lvU] ⟨Or.inl rfl, Or.inr rfl, Or.inl rfl, Or.inr rfl, trivial⟩ ?_
    exact e2 hp4

theorem bC_bh3 {G : Cx} {d : Nat} {m : Mm} {Q : Option Value → Mm → Prop} {c : Nat} {i n k o : Nat} (hF : Full G m) (hc : IsC G c) (hn : fi m 8 c = nI n) (h8 : n ≤ 8) (hi : i ≤ n) (hk : fi m 5 c = nI k) (hk12 : k ≤ 12) (ho : i < n → fi m 100 (ht c i) = nI o) (hok : i < n → o < k)
    (e1 : ¬ i < n → WP G (d + 3) (0, 0) μX0_balanceHeat 191 [.ref c, lvU, .int (0 : Int32), lvU] [] m Q)
    (e2 : i < n → ¬ (fi m 107 (ht c i)) = (1 : Int32) → WP G (d + 3) (0, 0) μX0_balanceHeat 127 [.ref c, lvU, .int (nI (i + 1)), lvU] [] m Q)
    (e3 : i < n → (fi m 107 (ht c i)) = (1 : Int32) → WP G (d + 3) (0, 0) μX0_balanceHeat 127 [.ref c, lvU, .int (nI (i + 1)), lvU] [] (wfl m 415 (nd c o) ((fl m 415 (nd c o)) + (Int32.toInt64 (fi m 101 (ht c i))))) Q) :
    WP G (d + 3) (0, 0) μX0_balanceHeat 127 [.ref c, lvU, .int (nI i), lvU] [] m Q := by
  refine wp_iload_n dX0_balanceHeat_127 rfl ?_
  refine wp_aload_n dX0_balanceHeat_128 rfl ?_
  refine wp_geti (nI n) dX0_balanceHeat_129 fX0_94 (Or.inl rfl) (kc0 hF hc) hn ?_
  refine wp_icmp_ge 189 dX0_balanceHeat_132 (by decide) (fun q1 => ?_) (fun q2 => ?_)
  · have hp3 : ¬ i < n := (fun z => q1 (nlt_ (b := n) z (by omega)))
    refine wp_iconst (0 : Int32) dX0_balanceHeat_189 (by decide) ?_
    refine wp_istore_n dX0_balanceHeat_190 (by decide) rfl ?_
    refine wp_forget [.ref c, lvU, .int (0 : Int32), lvU] ⟨Or.inl rfl, Or.inr rfl, Or.inl rfl, Or.inr rfl, trivial⟩ ?_
    exact e1 hp3
  · have hp4 : i < n := (nlt q2 (by omega) (by omega))
    refine wp_aload_n dX0_balanceHeat_135 rfl ?_
    refine wp_getr (c + 4) dX0_balanceHeat_136 fX0_31 (kc0 hF hc) (hF.2 _ _) (rra 4 (isK_le (kc0 hF hc)) (fun _ => rfl)) ?_
    refine wp_iload_n dX0_balanceHeat_139 rfl ?_
    refine wp_raldk (n := 8) i (ht c i) dX0_balanceHeat_140 (kc hF hc 4 (by decide)) (by decide) (by decide) (lc hc 4 (by decide)) (vin (by omega) (by decide)) (nIc (by omega)) (hF.2 _ _) (rht hF hc) ?_
    refine wp_astore_n dX0_balanceHeat_141 (by decide) rfl ?_
    refine wp_aload_n dX0_balanceHeat_142 rfl ?_
    refine wp_geti (fi m 107 (ht c i)) dX0_balanceHeat_143 fX0_178 (Or.inl rfl) (kht hF hc (by omega)) rfl ?_
    refine wp_iconst (1 : Int32) dX0_balanceHeat_146 (by decide) ?_
    refine wp_icmp_ne 183 dX0_balanceHeat_147 (by decide) (fun q5 => ?_) (fun q6 => ?_)
    · skip
      refine wp_iinc (nI (i + 1)) dX0_balanceHeat_183 rfl (by decide) (nadd (a := i) (b := 1) (by omega)) rfl ?_
      refine wp_goto 127 dX0_balanceHeat_186 (by decide) ?_
      refine wp_forget [.ref c, lvU, .int (nI (i + 1)), lvU] ⟨Or.inl rfl, Or.inr rfl, Or.inl rfl, Or.inr rfl, trivial⟩ ?_
      exact e2 hp4 q5
    · skip
      refine wp_aload_n dX0_balanceHeat_150 rfl ?_
      refine wp_aload_n dX0_balanceHeat_151 rfl ?_
      refine wp_geti (nI o) dX0_balanceHeat_152 fX0_226 (Or.inl rfl) (kht hF hc (by omega)) (ho (by omega)) ?_
      refine wp_callV (As := [.int (nI o)]) (S := []) (b' := (0, 0)) (b := (0, 0)) dX0_balanceHeat_155 MX0_152 (kc0 hF hc) rfl rfl rfl rfl (Nat.le_of_ble_eq_true rfl) ?_
      refine WPM.of pX0 (Nat.le_of_ble_eq_true rfl) rfl ?_
      refine wp_iload_n dX0_hasNode_0 rfl ?_
      refine wp_if_lt 16 dX0_hasNode_1 (by decide) (fun q => absurd q (nI_pos (by omega))) (fun _ => ?_)
      refine wp_iload_n dX0_hasNode_4 rfl ?_
      refine wp_aload_n dX0_hasNode_5 rfl ?_
      refine wp_geti (nI k) dX0_hasNode_6 fX0_75 (Or.inl rfl) (kc0 hF hc) hk ?_
      refine wp_icmp_ge 16 dX0_hasNode_9 (by decide) (fun q => absurd (nlt_ (hok (by omega)) (by omega)) q) (fun _ => ?_)
      refine wp_iconst (1 : Int32) dX0_hasNode_12 (by decide) ?_
      refine wp_goto 17 dX0_hasNode_13 (by decide) ?_
      refine wp_zret dX0_hasNode_17 rfl rfl ?_
      show WP G (d + 3) (0, 0) μX0_balanceHeat 158 [.ref c, lvU, .int (nI i), .ref (ht c i)] [.int (1 : Int32)] m _
      refine wp_if_eq 183 dX0_balanceHeat_158 (by decide) (fun q => absurd q (by decide)) (fun _ => ?_)
      refine wp_aload_n dX0_balanceHeat_161 rfl ?_
      refine wp_getr (c + 1) dX0_balanceHeat_162 fX0_11 (kc0 hF hc) (hF.2 _ _) (rra 1 (isK_le (kc0 hF hc)) (fun _ => rfl)) ?_
      refine wp_aload_n dX0_balanceHeat_165 rfl ?_
      refine wp_geti (nI o) dX0_balanceHeat_166 fX0_226 (Or.inl rfl) (kht hF hc (by omega)) (ho (by omega)) ?_
      refine wp_raldk (n := 12) o (nd c o) dX0_balanceHeat_169 (kc hF hc 1 (by decide)) (by decide) (by decide) (lc hc 1 (by decide)) (vin (by omega) (by decide)) (nIc (by omega)) (hF.2 _ _) (rnd hF hc) ?_
      refine wp_dup dX0_balanceHeat_170 rfl ?_
      refine wp_getl (fl m 415 (nd c o)) dX0_balanceHeat_171 fX0_283 (knd hF hc (by omega)) rfl ?_
      refine wp_aload_n dX0_balanceHeat_174 rfl ?_
      refine wp_geti (fi m 101 (ht c i)) dX0_balanceHeat_175 fX0_181 (Or.inl rfl) (kht hF hc (by omega)) rfl ?_
      refine wp_i2l dX0_balanceHeat_178 ?_
      refine wp_ladd dX0_balanceHeat_179 ?_
      refine wp_putl dX0_balanceHeat_180 pX0_283 (knd hF hc (by omega)) ?_
      have hF7 := Full_wfl 415 (nd c o) ((fl m 415 (nd c o)) + (Int32.toInt64 (fi m 101 (ht c i)))) hF
      refine wp_iinc (nI (i + 1)) dX0_balanceHeat_183 rfl (by decide) (nadd (a := i) (b := 1) (by omega)) rfl ?_
      refine wp_goto 127 dX0_balanceHeat_186 (by decide) ?_
      refine wp_forget [.ref c, lvU, .int (nI (i + 1)), lvU] ⟨Or.inl rfl, Or.inr rfl, Or.inl rfl, Or.inr rfl, trivial⟩ ?_
      exact e3 hp4 q6

theorem bC_bh4 {G : Cx} {d : Nat} {m : Mm} {Q : Option Value → Mm → Prop} {c : Nat} {i n k a b : Nat} (hF : Full G m) (hc : IsC G c) (hn : fi m 6 c = nI n) (h24 : n ≤ 24) (hi : i ≤ n) (hk : fi m 5 c = nI k) (hk12 : k ≤ 12) (ha : i < n → fi m 200 (lk c i) = nI a) (hb : i < n → fi m 201 (lk c i) = nI b) (hak : i < n → a < k) (hbk : i < n → b < k)
    (e1 : ¬ i < n → WP G (d + 3) (0, 0) μX0_balanceHeat 217 [.ref c, lvU, .int (0 : Int32), lvU] [] m Q)
    (e2 : i < n → WP G (d + 3) (0, 0) μX0_balanceHeat 191 [.ref c, lvU, .int (nI (i + 1)), lvU] [] (wfl (wfl m 414 (nd c a) ((fl m 414 (nd c a)) + (((Int32.toInt64 (fi m 202 (lk c i))) * (Int32.toInt64 ((fi m 401 (nd c b)) - (fi m 401 (nd c a))))) / (1000 : Int64)))) 414 (nd c b) ((fl (wfl m 414 (nd c a) ((fl m 414 (nd c a)) + (((Int32.toInt64 (fi m 202 (lk c i))) * (Int32.toInt64 ((fi m 401 (nd c b)) - (fi m 401 (nd c a))))) / (1000 : Int64)))) 414 (nd c b)) - (((Int32.toInt64 (fi m 202 (lk c i))) * (Int32.toInt64 ((fi m 401 (nd c b)) - (fi m 401 (nd c a))))) / (1000 : Int64)))) Q) :
    WP G (d + 3) (0, 0) μX0_balanceHeat 191 [.ref c, lvU, .int (nI i), lvU] [] m Q := by
  refine wp_iload_n dX0_balanceHeat_191 rfl ?_
  refine wp_aload_n dX0_balanceHeat_192 rfl ?_
  refine wp_geti (nI n) dX0_balanceHeat_193 fX0_82 (Or.inl rfl) (kc0 hF hc) hn ?_
  refine wp_icmp_ge 215 dX0_balanceHeat_196 (by decide) (fun q1 => ?_) (fun q2 => ?_)
  · have hp3 : ¬ i < n := (fun z => q1 (nlt_ (b := n) z (by omega)))
    refine wp_iconst (0 : Int32) dX0_balanceHeat_215 (by decide) ?_
    refine wp_istore_n dX0_balanceHeat_216 (by decide) rfl ?_
    refine wp_forget [.ref c, lvU, .int (0 : Int32), lvU] ⟨Or.inl rfl, Or.inr rfl, Or.inl rfl, Or.inr rfl, trivial⟩ ?_
    exact e1 hp3
  · have hp4 : i < n := (nlt q2 (by omega) (by omega))
    refine wp_aload_n dX0_balanceHeat_199 rfl ?_
    refine wp_aload_n dX0_balanceHeat_200 rfl ?_
    refine wp_getr (c + 2) dX0_balanceHeat_201 fX0_19 (kc0 hF hc) (hF.2 _ _) (rra 2 (isK_le (kc0 hF hc)) (fun _ => rfl)) ?_
    refine wp_iload_n dX0_balanceHeat_204 rfl ?_
    refine wp_raldk (n := 24) i (lk c i) dX0_balanceHeat_205 (kc hF hc 2 (by decide)) (by decide) (by decide) (lc hc 2 (by decide)) (vin (by omega) (by decide)) (nIc (by omega)) (hF.2 _ _) (rlk hF hc) ?_
    refine wp_callV (As := [.ref (lk c i)]) (S := []) (b' := (0, 0)) (b := (0, 0)) dX0_balanceHeat_206 MX0_289 (kc0 hF hc) rfl rfl rfl rfl (Nat.le_of_ble_eq_true rfl) ?_
    refine WPM.of pX0 (Nat.le_of_ble_eq_true rfl) rfl ?_
    refine wp_aload_n dX0_conductThrough_0 rfl ?_
    refine wp_aload_n dX0_conductThrough_1 rfl ?_
    refine wp_geti (nI a) dX0_conductThrough_2 fX0_115 (Or.inl rfl) (klk hF hc (by omega)) (ha (by omega)) ?_
    refine wp_callV (As := [.int (nI a)]) (S := []) (b' := (0, 0)) (b := (0, 0)) dX0_conductThrough_5 MX0_152 (kc0 hF hc) rfl rfl rfl rfl (Nat.le_of_ble_eq_true rfl) ?_
    refine WPM.of pX0 (Nat.le_of_ble_eq_true rfl) rfl ?_
    refine wp_iload_n dX0_hasNode_0 rfl ?_
    refine wp_if_lt 16 dX0_hasNode_1 (by decide) (fun q => absurd q (nI_pos (by omega))) (fun _ => ?_)
    refine wp_iload_n dX0_hasNode_4 rfl ?_
    refine wp_aload_n dX0_hasNode_5 rfl ?_
    refine wp_geti (nI k) dX0_hasNode_6 fX0_75 (Or.inl rfl) (kc0 hF hc) hk ?_
    refine wp_icmp_ge 16 dX0_hasNode_9 (by decide) (fun q => absurd (nlt_ (hak (by omega)) (by omega)) q) (fun _ => ?_)
    refine wp_iconst (1 : Int32) dX0_hasNode_12 (by decide) ?_
    refine wp_goto 17 dX0_hasNode_13 (by decide) ?_
    refine wp_zret dX0_hasNode_17 rfl rfl ?_
    show WP G (d + 2) (0, 0) μX0_conductThrough 8 [.ref c, .ref (lk c i), lvU, lvU, lvU, lvU] [.int (1 : Int32)] m _
    refine wp_if_eq 86 dX0_conductThrough_8 (by decide) (fun q => absurd q (by decide)) (fun _ => ?_)
    refine wp_aload_n dX0_conductThrough_11 rfl ?_
    refine wp_aload_n dX0_conductThrough_12 rfl ?_
    refine wp_geti (nI b) dX0_conductThrough_13 fX0_118 (Or.inl rfl) (klk hF hc (by omega)) (hb (by omega)) ?_
    refine wp_callV (As := [.int (nI b)]) (S := []) (b' := (0, 0)) (b := (0, 0)) dX0_conductThrough_16 MX0_152 (kc0 hF hc) rfl rfl rfl rfl (Nat.le_of_ble_eq_true rfl) ?_
    refine WPM.of pX0 (Nat.le_of_ble_eq_true rfl) rfl ?_
    refine wp_iload_n dX0_hasNode_0 rfl ?_
    refine wp_if_lt 16 dX0_hasNode_1 (by decide) (fun q => absurd q (nI_pos (by omega))) (fun _ => ?_)
    refine wp_iload_n dX0_hasNode_4 rfl ?_
    refine wp_aload_n dX0_hasNode_5 rfl ?_
    refine wp_geti (nI k) dX0_hasNode_6 fX0_75 (Or.inl rfl) (kc0 hF hc) hk ?_
    refine wp_icmp_ge 16 dX0_hasNode_9 (by decide) (fun q => absurd (nlt_ (hbk (by omega)) (by omega)) q) (fun _ => ?_)
    refine wp_iconst (1 : Int32) dX0_hasNode_12 (by decide) ?_
    refine wp_goto 17 dX0_hasNode_13 (by decide) ?_
    refine wp_zret dX0_hasNode_17 rfl rfl ?_
    show WP G (d + 2) (0, 0) μX0_conductThrough 19 [.ref c, .ref (lk c i), lvU, lvU, lvU, lvU] [.int (1 : Int32)] m _
    refine wp_if_eq 86 dX0_conductThrough_19 (by decide) (fun q => absurd q (by decide)) (fun _ => ?_)
    refine wp_aload_n dX0_conductThrough_22 rfl ?_
    refine wp_getr (c + 1) dX0_conductThrough_23 fX0_11 (kc0 hF hc) (hF.2 _ _) (rra 1 (isK_le (kc0 hF hc)) (fun _ => rfl)) ?_
    refine wp_aload_n dX0_conductThrough_26 rfl ?_
    refine wp_geti (nI a) dX0_conductThrough_27 fX0_115 (Or.inl rfl) (klk hF hc (by omega)) (ha (by omega)) ?_
    refine wp_raldk (n := 12) a (nd c a) dX0_conductThrough_30 (kc hF hc 1 (by decide)) (by decide) (by decide) (lc hc 1 (by decide)) (vin (by omega) (by decide)) (nIc (by omega)) (hF.2 _ _) (rnd hF hc) ?_
    refine wp_astore_n dX0_conductThrough_31 (by decide) rfl ?_
    refine wp_aload_n dX0_conductThrough_32 rfl ?_
    refine wp_getr (c + 1) dX0_conductThrough_33 fX0_11 (kc0 hF hc) (hF.2 _ _) (rra 1 (isK_le (kc0 hF hc)) (fun _ => rfl)) ?_
    refine wp_aload_n dX0_conductThrough_36 rfl ?_
    refine wp_geti (nI b) dX0_conductThrough_37 fX0_118 (Or.inl rfl) (klk hF hc (by omega)) (hb (by omega)) ?_
    refine wp_raldk (n := 12) b (nd c b) dX0_conductThrough_40 (kc hF hc 1 (by decide)) (by decide) (by decide) (lc hc 1 (by decide)) (vin (by omega) (by decide)) (nIc (by omega)) (hF.2 _ _) (rnd hF hc) ?_
    refine wp_astore_n dX0_conductThrough_41 (by decide) rfl ?_
    refine wp_aload_n dX0_conductThrough_42 rfl ?_
    refine wp_geti (fi m 202 (lk c i)) dX0_conductThrough_43 fX0_295 (Or.inl rfl) (klk hF hc (by omega)) rfl ?_
    refine wp_i2l dX0_conductThrough_46 ?_
    refine wp_aload_n dX0_conductThrough_47 rfl ?_
    refine wp_geti (fi m 401 (nd c b)) dX0_conductThrough_48 fX0_156 (Or.inl rfl) (knd hF hc (by omega)) rfl ?_
    refine wp_aload_n dX0_conductThrough_51 rfl ?_
    refine wp_geti (fi m 401 (nd c a)) dX0_conductThrough_52 fX0_156 (Or.inl rfl) (knd hF hc (by omega)) rfl ?_
    refine wp_isubv ((fi m 401 (nd c b)) - (fi m 401 (nd c a))) dX0_conductThrough_55 rfl ?_
    refine wp_i2l dX0_conductThrough_56 ?_
    refine wp_lmul dX0_conductThrough_57 ?_
    refine wp_ldc2 dX0_conductThrough_58 kX0_169 ?_
    refine wp_ldiv dX0_conductThrough_61 (by decide) ?_
    refine wp_lstore dX0_conductThrough_62 (by decide) rfl ?_
    refine wp_aload_n dX0_conductThrough_64 rfl ?_
    refine wp_dup dX0_conductThrough_65 rfl ?_
    refine wp_getl (fl m 414 (nd c a)) dX0_conductThrough_66 fX0_280 (knd hF hc (by omega)) rfl ?_
    refine wp_lload dX0_conductThrough_69 rfl ?_
    refine wp_ladd dX0_conductThrough_71 ?_
    refine wp_putl dX0_conductThrough_72 pX0_280 (knd hF hc (by omega)) ?_
    have hF5 := Full_wfl 414 (nd c a) ((fl m 414 (nd c a)) + (((Int32.toInt64 (fi m 202 (lk c i))) * (Int32.toInt64 ((fi m 401 (nd c b)) - (fi m 401 (nd c a))))) / (1000 : Int64))) hF
    refine wp_aload_n dX0_conductThrough_75 rfl ?_
    refine wp_dup dX0_conductThrough_76 rfl ?_
    refine wp_getl (fl (wfl m 414 (nd c a) ((fl m 414 (nd c a)) + (((Int32.toInt64 (fi m 202 (lk c i))) * (Int32.toInt64 ((fi m 401 (nd c b)) - (fi m 401 (nd c a))))) / (1000 : Int64)))) 414 (nd c b)) dX0_conductThrough_77 fX0_280 (knd hF5 hc (by omega)) rfl ?_
    refine wp_lload dX0_conductThrough_80 rfl ?_
    refine wp_lsub dX0_conductThrough_82 ?_
    refine wp_putl dX0_conductThrough_83 pX0_280 (knd hF5 hc (by omega)) ?_
    have hF6 := Full_wfl 414 (nd c b) ((fl (wfl m 414 (nd c a) ((fl m 414 (nd c a)) + (((Int32.toInt64 (fi m 202 (lk c i))) * (Int32.toInt64 ((fi m 401 (nd c b)) - (fi m 401 (nd c a))))) / (1000 : Int64)))) 414 (nd c b)) - (((Int32.toInt64 (fi m 202 (lk c i))) * (Int32.toInt64 ((fi m 401 (nd c b)) - (fi m 401 (nd c a))))) / (1000 : Int64))) hF5
    refine wp_vret dX0_conductThrough_86 rfl ?_
    show WP G (d + 3) (0, 0) μX0_balanceHeat 209 [.ref c, lvU, .int (nI i), lvU] [] (wfl (wfl m 414 (nd c a) ((fl m 414 (nd c a)) + (((Int32.toInt64 (fi m 202 (lk c i))) * (Int32.toInt64 ((fi m 401 (nd c b)) - (fi m 401 (nd c a))))) / (1000 : Int64)))) 414 (nd c b) ((fl (wfl m 414 (nd c a) ((fl m 414 (nd c a)) + (((Int32.toInt64 (fi m 202 (lk c i))) * (Int32.toInt64 ((fi m 401 (nd c b)) - (fi m 401 (nd c a))))) / (1000 : Int64)))) 414 (nd c b)) - (((Int32.toInt64 (fi m 202 (lk c i))) * (Int32.toInt64 ((fi m 401 (nd c b)) - (fi m 401 (nd c a))))) / (1000 : Int64)))) _
    refine wp_iinc (nI (i + 1)) dX0_balanceHeat_209 rfl (by decide) (nadd (a := i) (b := 1) (by omega)) rfl ?_
    refine wp_goto 191 dX0_balanceHeat_212 (by decide) ?_
    refine wp_forget [.ref c, lvU, .int (nI (i + 1)), lvU] ⟨Or.inl rfl, Or.inr rfl, Or.inl rfl, Or.inr rfl, trivial⟩ ?_
    exact e2 hp4

theorem bC_bh5 {G : Cx} {d : Nat} {m : Mm} {Q : Option Value → Mm → Prop} {c : Nat} {i n : Nat} (hF : Full G m) (hc : IsC G c) (hn : fi m 5 c = nI n) (h12 : n ≤ 12) (hi : i ≤ n) 
    (e1 : ¬ i < n → Q none m)
    (e2 : i < n → WP G (d + 3) (0, 0) μX0_balanceHeat 217 [.ref c, lvU, .int (nI (i + 1)), lvU] [] (wfl m 413 (nd c i) (((((((fl m 411 (nd c i)) * (Int32.toInt64 (((fi m 401 (nd c i)) + (273150 : Int32)) / (1000 : Int32)))) * (Int32.toInt64 (((fi m 401 (nd c i)) + (273150 : Int32)) / (1000 : Int32)))) * (Int32.toInt64 (((fi m 401 (nd c i)) + (273150 : Int32)) / (1000 : Int32)))) * (Int32.toInt64 (((fi m 401 (nd c i)) + (273150 : Int32)) / (1000 : Int32)))) * (567 : Int64)) / (100000000000 : Int64))) Q) :
    WP G (d + 3) (0, 0) μX0_balanceHeat 217 [.ref c, lvU, .int (nI i), lvU] [] m Q := by
  refine wp_iload_n dX0_balanceHeat_217 rfl ?_
  refine wp_aload_n dX0_balanceHeat_218 rfl ?_
  refine wp_geti (nI n) dX0_balanceHeat_219 fX0_75 (Or.inl rfl) (kc0 hF hc) hn ?_
  refine wp_icmp_ge 240 dX0_balanceHeat_222 (by decide) (fun q1 => ?_) (fun q2 => ?_)
  · have hp3 : ¬ i < n := (fun z => q1 (nlt_ (b := n) z (by omega)))
    exact wp_vret dX0_balanceHeat_240 rfl (e1 hp3)
  · have hp4 : i < n := (nlt q2 (by omega) (by omega))
    refine wp_aload_n dX0_balanceHeat_225 rfl ?_
    refine wp_getr (c + 1) dX0_balanceHeat_226 fX0_11 (kc0 hF hc) (hF.2 _ _) (rra 1 (isK_le (kc0 hF hc)) (fun _ => rfl)) ?_
    refine wp_iload_n dX0_balanceHeat_229 rfl ?_
    refine wp_raldk (n := 12) i (nd c i) dX0_balanceHeat_230 (kc hF hc 1 (by decide)) (by decide) (by decide) (lc hc 1 (by decide)) (vin (by omega) (by decide)) (nIc (by omega)) (hF.2 _ _) (rnd hF hc) ?_
    refine wp_callV (As := []) (S := []) (b' := (0, 0)) (b := (0, 0)) dX0_balanceHeat_231 MX0_292 (knd hF hc (by omega)) rfl rfl rfl rfl (Nat.le_of_ble_eq_true rfl) ?_
    refine WPM.of pX4 (Nat.le_of_ble_eq_true rfl) rfl ?_
    refine wp_aload_n dX4_emit_0 rfl ?_
    refine wp_geti (fi m 401 (nd c i)) dX4_emit_1 fX4_15 (Or.inl rfl) (knd hF hc (by omega)) rfl ?_
    refine wp_ldc dX4_emit_4 kX4_50 ?_
    refine wp_iaddv ((fi m 401 (nd c i)) + (273150 : Int32)) dX4_emit_6 rfl ?_
    refine wp_sipush (1000 : Int32) dX4_emit_7 (by decide) ?_
    refine wp_idiv dX4_emit_10 (by decide) ?_
    refine wp_i2l dX4_emit_11 ?_
    refine wp_lstore_n dX4_emit_12 (by decide) rfl ?_
    refine wp_aload_n dX4_emit_13 rfl ?_
    refine wp_aload_n dX4_emit_14 rfl ?_
    refine wp_getl (fl m 411 (nd c i)) dX4_emit_15 fX4_51 (knd hF hc (by omega)) rfl ?_
    refine wp_lload_n dX4_emit_18 rfl ?_
    refine wp_lmul dX4_emit_19 ?_
    refine wp_lload_n dX4_emit_20 rfl ?_
    refine wp_lmul dX4_emit_21 ?_
    refine wp_lload_n dX4_emit_22 rfl ?_
    refine wp_lmul dX4_emit_23 ?_
    refine wp_lload_n dX4_emit_24 rfl ?_
    refine wp_lmul dX4_emit_25 ?_
    refine wp_ldc2 dX4_emit_26 kX4_55 ?_
    refine wp_lmul dX4_emit_29 ?_
    refine wp_ldc2 dX4_emit_30 kX4_57 ?_
    refine wp_ldiv dX4_emit_33 (by decide) ?_
    refine wp_putl dX4_emit_34 pX4_59 (knd hF hc (by omega)) ?_
    have hF5 := Full_wfl 413 (nd c i) (((((((fl m 411 (nd c i)) * (Int32.toInt64 (((fi m 401 (nd c i)) + (273150 : Int32)) / (1000 : Int32)))) * (Int32.toInt64 (((fi m 401 (nd c i)) + (273150 : Int32)) / (1000 : Int32)))) * (Int32.toInt64 (((fi m 401 (nd c i)) + (273150 : Int32)) / (1000 : Int32)))) * (Int32.toInt64 (((fi m 401 (nd c i)) + (273150 : Int32)) / (1000 : Int32)))) * (567 : Int64)) / (100000000000 : Int64)) hF
    refine wp_vret dX4_emit_37 rfl ?_
    show WP G (d + 3) (0, 0) μX0_balanceHeat 234 [.ref c, lvU, .int (nI i), lvU] [] (wfl m 413 (nd c i) (((((((fl m 411 (nd c i)) * (Int32.toInt64 (((fi m 401 (nd c i)) + (273150 : Int32)) / (1000 : Int32)))) * (Int32.toInt64 (((fi m 401 (nd c i)) + (273150 : Int32)) / (1000 : Int32)))) * (Int32.toInt64 (((fi m 401 (nd c i)) + (273150 : Int32)) / (1000 : Int32)))) * (Int32.toInt64 (((fi m 401 (nd c i)) + (273150 : Int32)) / (1000 : Int32)))) * (567 : Int64)) / (100000000000 : Int64))) _
    refine wp_iinc (nI (i + 1)) dX0_balanceHeat_234 rfl (by decide) (nadd (a := i) (b := 1) (by omega)) rfl ?_
    refine wp_goto 217 dX0_balanceHeat_237 (by decide) ?_
    refine wp_forget [.ref c, lvU, .int (nI (i + 1)), lvU] ⟨Or.inl rfl, Or.inr rfl, Or.inl rfl, Or.inr rfl, trivial⟩ ?_
    exact e2 hp4

theorem eC_wn {G : Cx} {d : Nat} {m : Mm} {Q : Option Value → Mm → Prop} {c : Nat}  (hF : Full G m) (hc : IsC G c) 
    (e1 : WP G (d + 3) (0, 0) μX0_warmNodes 2 [.ref c, .int (0 : Int32), lvU] [] m Q) :
    WPM G (d + 3) (0, 0) μX0_warmNodes [.ref c] m Q := by
  refine WPM.of pX0 (Nat.le_of_ble_eq_true rfl) rfl ?_
  refine wp_iconst (0 : Int32) dX0_warmNodes_0 (by decide) ?_
  refine wp_istore_n dX0_warmNodes_1 (by decide) rfl ?_
  refine wp_forget [.ref c, .int (0 : Int32), lvU] ⟨Or.inl rfl, Or.inl rfl, Or.inr rfl, trivial⟩ ?_
  exact e1

theorem bC_wn {G : Cx} {d : Nat} {m : Mm} {Q : Option Value → Mm → Prop} {c : Nat} {i n : Nat} (hF : Full G m) (hc : IsC G c) (hn : fi m 5 c = nI n) (h12 : n ≤ 12) (hi : i ≤ n) 
    (e1 : ¬ i < n → Q none m)
    (e2 : i < n → WP G (d + 3) (0, 0) μX0_warmNodes 2 [.ref c, .int (nI (i + 1)), lvU] [] (wfi (wfl (wfl m 603 (c + 8) ((fl m 603 (c + 8)) + ((Int32.toInt64 (fi m 13 c)) * (fl m 413 (nd c i))))) 604 (c + 8) ((fl m 604 (c + 8)) + ((Int32.toInt64 (fi m 13 c)) * (fl m 412 (nd c i))))) 401 (nd c i) (Int64.toInt32 (limF ((Int32.toInt64 (fi m 401 (nd c i))) + (quoF ((((((Int32.toInt64 (fi m 404 (nd c i))) + (fl m 415 (nd c i))) + (fl m 412 (nd c i))) + (fl m 414 (nd c i))) - (fl m 413 (nd c i))) * (Int32.toInt64 (fi m 13 c))) (Int32.toInt64 (fi m 400 (nd c i))))) (-200000 : Int64) (200000 : Int64)))) Q) :
    WP G (d + 3) (0, 0) μX0_warmNodes 2 [.ref c, .int (nI i), lvU] [] m Q := by
  refine wp_iload_n dX0_warmNodes_2 rfl ?_
  refine wp_aload_n dX0_warmNodes_3 rfl ?_
  refine wp_geti (nI n) dX0_warmNodes_4 fX0_75 (Or.inl rfl) (kc0 hF hc) hn ?_
  refine wp_icmp_ge 75 dX0_warmNodes_7 (by decide) (fun q1 => ?_) (fun q2 => ?_)
  · have hp3 : ¬ i < n := (fun z => q1 (nlt_ (b := n) z (by omega)))
    exact wp_vret dX0_warmNodes_75 rfl (e1 hp3)
  · have hp4 : i < n := (nlt q2 (by omega) (by omega))
    refine wp_aload_n dX0_warmNodes_10 rfl ?_
    refine wp_getr (c + 1) dX0_warmNodes_11 fX0_11 (kc0 hF hc) (hF.2 _ _) (rra 1 (isK_le (kc0 hF hc)) (fun _ => rfl)) ?_
    refine wp_iload_n dX0_warmNodes_14 rfl ?_
    refine wp_raldk (n := 12) i (nd c i) dX0_warmNodes_15 (kc hF hc 1 (by decide)) (by decide) (by decide) (lc hc 1 (by decide)) (vin (by omega) (by decide)) (nIc (by omega)) (hF.2 _ _) (rnd hF hc) ?_
    refine wp_astore_n dX0_warmNodes_16 (by decide) rfl ?_
    refine wp_aload_n dX0_warmNodes_17 rfl ?_
    refine wp_getr (c + 8) dX0_warmNodes_18 fX0_56 (kc0 hF hc) (hF.2 _ _) (rra 8 (isK_le (kc0 hF hc)) (fun _ => rfl)) ?_
    refine wp_dup dX0_warmNodes_21 rfl ?_
    refine wp_getl (fl m 603 (c + 8)) dX0_warmNodes_22 fX0_298 (kc hF hc 8 (by decide)) rfl ?_
    refine wp_aload_n dX0_warmNodes_25 rfl ?_
    refine wp_geti (fi m 13 c) dX0_warmNodes_26 fX0_67 (Or.inl rfl) (kc0 hF hc) rfl ?_
    refine wp_i2l dX0_warmNodes_29 ?_
    refine wp_aload_n dX0_warmNodes_30 rfl ?_
    refine wp_getl (fl m 413 (nd c i)) dX0_warmNodes_31 fX0_301 (knd hF hc (by omega)) rfl ?_
    refine wp_lmul dX0_warmNodes_34 ?_
    refine wp_ladd dX0_warmNodes_35 ?_
    refine wp_putl dX0_warmNodes_36 pX0_298 (kc hF hc 8 (by decide)) ?_
    have hF5 := Full_wfl 603 (c + 8) ((fl m 603 (c + 8)) + ((Int32.toInt64 (fi m 13 c)) * (fl m 413 (nd c i)))) hF
    refine wp_aload_n dX0_warmNodes_39 rfl ?_
    refine wp_getr (c + 8) dX0_warmNodes_40 fX0_56 (kc0 hF5 hc) (hF5.2 _ _) (rra 8 (isK_le (kc0 hF5 hc)) (fun _ => rfl)) ?_
    refine wp_dup dX0_warmNodes_43 rfl ?_
    refine wp_getl (fl m 604 (c + 8)) dX0_warmNodes_44 fX0_302 (kc hF5 hc 8 (by decide)) (fl_ne (by decide)) ?_
    refine wp_aload_n dX0_warmNodes_47 rfl ?_
    refine wp_geti (fi m 13 c) dX0_warmNodes_48 fX0_67 (Or.inl rfl) (kc0 hF5 hc) fi_wfl ?_
    refine wp_i2l dX0_warmNodes_51 ?_
    refine wp_aload_n dX0_warmNodes_52 rfl ?_
    refine wp_getl (fl m 412 (nd c i)) dX0_warmNodes_53 fX0_277 (knd hF5 hc (by omega)) (fl_ne (by decide)) ?_
    refine wp_lmul dX0_warmNodes_56 ?_
    refine wp_ladd dX0_warmNodes_57 ?_
    refine wp_putl dX0_warmNodes_58 pX0_302 (kc hF5 hc 8 (by decide)) ?_
    have hF6 := Full_wfl 604 (c + 8) ((fl m 604 (c + 8)) + ((Int32.toInt64 (fi m 13 c)) * (fl m 412 (nd c i)))) hF5
    refine wp_aload_n dX0_warmNodes_61 rfl ?_
    refine wp_aload_n dX0_warmNodes_62 rfl ?_
    refine wp_geti (fi m 13 c) dX0_warmNodes_63 fX0_67 (Or.inl rfl) (kc0 hF6 hc) (fi_wfl.trans fi_wfl) ?_
    refine wp_callV (As := [.int (fi m 13 c)]) (S := []) (b' := (0, 0)) (b := (0, 0)) dX0_warmNodes_66 MX0_303 (knd hF6 hc (by omega)) rfl rfl rfl rfl (Nat.le_of_ble_eq_true rfl) ?_
    refine WPM.of pX4 (Nat.le_of_ble_eq_true rfl) rfl ?_
    refine wp_aload_n dX4_warm_0 rfl ?_
    refine wp_geti (fi m 401 (nd c i)) dX4_warm_1 fX4_15 (Or.inl rfl) (knd hF6 hc (by omega)) (fi_wfl.trans fi_wfl) ?_
    refine wp_i2l dX4_warm_4 ?_
    refine wp_aload_n dX4_warm_5 rfl ?_
    refine wp_callV (As := []) (S := [.long (Int32.toInt64 (fi m 401 (nd c i)))]) (b' := (0, 0)) (b := (0, 0)) dX4_warm_6 MX4_71 (knd hF6 hc (by omega)) rfl rfl rfl rfl (Nat.le_of_ble_eq_true rfl) ?_
    refine WPM.of pX4 (Nat.le_of_ble_eq_true rfl) rfl ?_
    refine wp_aload_n dX4_gain_0 rfl ?_
    refine wp_geti (fi m 404 (nd c i)) dX4_gain_1 fX4_24 (Or.inl rfl) (knd hF6 hc (by omega)) (fi_wfl.trans fi_wfl) ?_
    refine wp_i2l dX4_gain_4 ?_
    refine wp_aload_n dX4_gain_5 rfl ?_
    refine wp_getl (fl m 415 (nd c i)) dX4_gain_6 fX4_62 (knd hF6 hc (by omega)) ((fl_ne (by decide)).trans (fl_ne (by decide))) ?_
    refine wp_ladd dX4_gain_9 ?_
    refine wp_aload_n dX4_gain_10 rfl ?_
    refine wp_getl (fl m 412 (nd c i)) dX4_gain_11 fX4_65 (knd hF6 hc (by omega)) ((fl_ne (by decide)).trans (fl_ne (by decide))) ?_
    refine wp_ladd dX4_gain_14 ?_
    refine wp_aload_n dX4_gain_15 rfl ?_
    refine wp_getl (fl m 414 (nd c i)) dX4_gain_16 fX4_68 (knd hF6 hc (by omega)) ((fl_ne (by decide)).trans (fl_ne (by decide))) ?_
    refine wp_ladd dX4_gain_19 ?_
    refine wp_aload_n dX4_gain_20 rfl ?_
    refine wp_getl (fl m 413 (nd c i)) dX4_gain_21 fX4_59 (knd hF6 hc (by omega)) ((fl_ne (by decide)).trans (fl_ne (by decide))) ?_
    refine wp_lsub dX4_gain_24 ?_
    refine wp_lret dX4_gain_25 rfl ?_
    show WP G (d + 2) (0, 0) μX4_warm 9 [.ref (nd c i), .int (fi m 13 c), lvU, lvU] [.long (((((Int32.toInt64 (fi m 404 (nd c i))) + (fl m 415 (nd c i))) + (fl m 412 (nd c i))) + (fl m 414 (nd c i))) - (fl m 413 (nd c i))), .long (Int32.toInt64 (fi m 401 (nd c i)))] (wfl (wfl m 603 (c + 8) ((fl m 603 (c + 8)) + ((Int32.toInt64 (fi m 13 c)) * (fl m 413 (nd c i))))) 604 (c + 8) ((fl m 604 (c + 8)) + ((Int32.toInt64 (fi m 13 c)) * (fl m 412 (nd c i))))) _
    refine wp_iload_n dX4_warm_9 rfl ?_
    refine wp_i2l dX4_warm_10 ?_
    refine wp_lmul dX4_warm_11 ?_
    refine wp_aload_n dX4_warm_12 rfl ?_
    refine wp_geti (fi m 400 (nd c i)) dX4_warm_13 fX4_9 (Or.inl rfl) (knd hF6 hc (by omega)) (fi_wfl.trans fi_wfl) ?_
    refine wp_i2l dX4_warm_16 ?_
    refine wp_quoFN dX4_warm_17 MX4_75 (Nat.le_of_ble_eq_true rfl) ?_
    refine wp_ladd dX4_warm_20 ?_
    refine wp_lstore_n dX4_warm_21 (by decide) rfl ?_
    refine wp_aload_n dX4_warm_22 rfl ?_
    refine wp_lload_n dX4_warm_23 rfl ?_
    refine wp_ldc2 dX4_warm_24 kX4_79 ?_
    refine wp_ldc2 dX4_warm_27 kX4_81 ?_
    refine wp_limFN dX4_warm_30 MX4_83 (Nat.le_of_ble_eq_true rfl) ?_
    refine wp_l2i dX4_warm_33 ?_
    refine wp_puti dX4_warm_34 pX4_15 (knd hF6 hc (by omega)) ?_
    have hF7 := Full_wfi 401 (nd c i) (Int64.toInt32 (limF ((Int32.toInt64 (fi m 401 (nd c i))) + (quoF ((((((Int32.toInt64 (fi m 404 (nd c i))) + (fl m 415 (nd c i))) + (fl m 412 (nd c i))) + (fl m 414 (nd c i))) - (fl m 413 (nd c i))) * (Int32.toInt64 (fi m 13 c))) (Int32.toInt64 (fi m 400 (nd c i))))) (-200000 : Int64) (200000 : Int64))) hF6
    refine wp_vret dX4_warm_37 rfl ?_
    show WP G (d + 3) (0, 0) μX0_warmNodes 69 [.ref c, .int (nI i), .ref (nd c i)] [] (wfi (wfl (wfl m 603 (c + 8) ((fl m 603 (c + 8)) + ((Int32.toInt64 (fi m 13 c)) * (fl m 413 (nd c i))))) 604 (c + 8) ((fl m 604 (c + 8)) + ((Int32.toInt64 (fi m 13 c)) * (fl m 412 (nd c i))))) 401 (nd c i) (Int64.toInt32 (limF ((Int32.toInt64 (fi m 401 (nd c i))) + (quoF ((((((Int32.toInt64 (fi m 404 (nd c i))) + (fl m 415 (nd c i))) + (fl m 412 (nd c i))) + (fl m 414 (nd c i))) - (fl m 413 (nd c i))) * (Int32.toInt64 (fi m 13 c))) (Int32.toInt64 (fi m 400 (nd c i))))) (-200000 : Int64) (200000 : Int64)))) _
    refine wp_iinc (nI (i + 1)) dX0_warmNodes_69 rfl (by decide) (nadd (a := i) (b := 1) (by omega)) rfl ?_
    refine wp_goto 2 dX0_warmNodes_72 (by decide) ?_
    refine wp_forget [.ref c, .int (nI (i + 1)), lvU] ⟨Or.inl rfl, Or.inl rfl, Or.inr rfl, trivial⟩ ?_
    exact e2 hp4

theorem eC_rt {G : Cx} {d : Nat} {m : Mm} {Q : Option Value → Mm → Prop} {c : Nat}  (hF : Full G m) (hc : IsC G c) 
    (e1 : WP G (d + 2) (0, 0) μX0_recordTemperatures 4 [.ref c, .int (0 : Int32), .int (0 : Int32), lvU] [] m Q) :
    WPM G (d + 2) (0, 0) μX0_recordTemperatures [.ref c] m Q := by
  refine WPM.of pX0 (Nat.le_of_ble_eq_true rfl) rfl ?_
  refine wp_iconst (0 : Int32) dX0_recordTemperatures_0 (by decide) ?_
  refine wp_istore_n dX0_recordTemperatures_1 (by decide) rfl ?_
  refine wp_iconst (0 : Int32) dX0_recordTemperatures_2 (by decide) ?_
  refine wp_istore_n dX0_recordTemperatures_3 (by decide) rfl ?_
  refine wp_forget [.ref c, .int (0 : Int32), .int (0 : Int32), lvU] ⟨Or.inl rfl, Or.inl rfl, Or.inl rfl, Or.inr rfl, trivial⟩ ?_
  exact e1

theorem bC_rt {G : Cx} {d : Nat} {m : Mm} {Q : Option Value → Mm → Prop} {c : Nat} {z : Int32} {i n v : Nat} (hF : Full G m) (hc : IsC G c) (hn : fi m 5 c = nI n) (h12 : n ≤ 12) (hi : i ≤ n) (hv : fi m 601 (c + 8) = nI v) (hv12 : v ≤ 12)
    (g1 : ¬ i < n → z = 0 ∨ z = 1)
    (e1 : ¬ i < n → Q (some (.int z)) m)
    (e2 : i < n → (fi m 401 (nd c i)) < (fi m 405 (nd c i)) → ¬ (fi m 409 (nd c i)) = 0 → WP G (d + 2) (0, 0) μX0_recordTemperatures 4 [.ref c, .int (1 : Int32), .int (nI (i + 1)), lvU] [] (wfi (wfi (wfi m 407 (nd c i) (imin (fi m 407 (nd c i)) (fi m 401 (nd c i)))) 408 (nd c i) (imax (fi m 408 (nd c i)) (fi m 401 (nd c i)))) 409 (nd c i) ((fi m 409 (nd c i)) + (1 : Int32))) Q)
    (e3 : i < n → (fi m 401 (nd c i)) < (fi m 405 (nd c i)) → (fi m 409 (nd c i)) = 0 → ¬ v < 12 → WP G (d + 2) (0, 0) μX0_recordTemperatures 4 [.ref c, .int (1 : Int32), .int (nI (i + 1)), lvU] [] (wfi (wfi (wfi (wfi m 407 (nd c i) (imin (fi m 407 (nd c i)) (fi m 401 (nd c i)))) 408 (nd c i) (imax (fi m 408 (nd c i)) (fi m 401 (nd c i)))) 410 (nd c i) (fi m 14 c)) 409 (nd c i) ((fi m 409 (nd c i)) + (1 : Int32))) Q)
    (e4 : i < n → (fi m 401 (nd c i)) < (fi m 405 (nd c i)) → (fi m 409 (nd c i)) = 0 → v < 12 → WP G (d + 2) (0, 0) μX0_recordTemperatures 4 [.ref c, .int (1 : Int32), .int (nI (i + 1)), lvU] [] (wfi (wfi (wai (wfi (wfi (wfi m 407 (nd c i) (imin (fi m 407 (nd c i)) (fi m 401 (nd c i)))) 408 (nd c i) (imax (fi m 408 (nd c i)) (fi m 401 (nd c i)))) 410 (nd c i) (fi m 14 c)) (c + 9) v (nI i)) 601 (c + 8) (nI (v + 1))) 409 (nd c i) ((fi m 409 (nd c i)) + (1 : Int32))) Q)
    (e5 : i < n → ¬ (fi m 401 (nd c i)) < (fi m 405 (nd c i)) → ¬ (fi m 406 (nd c i)) < (fi m 401 (nd c i)) → WP G (d + 2) (0, 0) μX0_recordTemperatures 4 [.ref c, .int z, .int (nI (i + 1)), lvU] [] (wfi (wfi m 407 (nd c i) (imin (fi m 407 (nd c i)) (fi m 401 (nd c i)))) 408 (nd c i) (imax (fi m 408 (nd c i)) (fi m 401 (nd c i)))) Q)
    (e6 : i < n → ¬ (fi m 401 (nd c i)) < (fi m 405 (nd c i)) → (fi m 406 (nd c i)) < (fi m 401 (nd c i)) → ¬ (fi m 409 (nd c i)) = 0 → WP G (d + 2) (0, 0) μX0_recordTemperatures 4 [.ref c, .int (1 : Int32), .int (nI (i + 1)), lvU] [] (wfi (wfi (wfi m 407 (nd c i) (imin (fi m 407 (nd c i)) (fi m 401 (nd c i)))) 408 (nd c i) (imax (fi m 408 (nd c i)) (fi m 401 (nd c i)))) 409 (nd c i) ((fi m 409 (nd c i)) + (1 : Int32))) Q)
    (e7 : i < n → ¬ (fi m 401 (nd c i)) < (fi m 405 (nd c i)) → (fi m 406 (nd c i)) < (fi m 401 (nd c i)) → (fi m 409 (nd c i)) = 0 → ¬ v < 12 → WP G (d + 2) (0, 0) μX0_recordTemperatures 4 [.ref c, .int (1 : Int32), .int (nI (i + 1)), lvU] [] (wfi (wfi (wfi (wfi m 407 (nd c i) (imin (fi m 407 (nd c i)) (fi m 401 (nd c i)))) 408 (nd c i) (imax (fi m 408 (nd c i)) (fi m 401 (nd c i)))) 410 (nd c i) (fi m 14 c)) 409 (nd c i) ((fi m 409 (nd c i)) + (1 : Int32))) Q)
    (e8 : i < n → ¬ (fi m 401 (nd c i)) < (fi m 405 (nd c i)) → (fi m 406 (nd c i)) < (fi m 401 (nd c i)) → (fi m 409 (nd c i)) = 0 → v < 12 → WP G (d + 2) (0, 0) μX0_recordTemperatures 4 [.ref c, .int (1 : Int32), .int (nI (i + 1)), lvU] [] (wfi (wfi (wai (wfi (wfi (wfi m 407 (nd c i) (imin (fi m 407 (nd c i)) (fi m 401 (nd c i)))) 408 (nd c i) (imax (fi m 408 (nd c i)) (fi m 401 (nd c i)))) 410 (nd c i) (fi m 14 c)) (c + 9) v (nI i)) 601 (c + 8) (nI (v + 1))) 409 (nd c i) ((fi m 409 (nd c i)) + (1 : Int32))) Q) :
    WP G (d + 2) (0, 0) μX0_recordTemperatures 4 [.ref c, .int z, .int (nI i), lvU] [] m Q := by
  refine wp_iload_n dX0_recordTemperatures_4 rfl ?_
  refine wp_aload_n dX0_recordTemperatures_5 rfl ?_
  refine wp_geti (nI n) dX0_recordTemperatures_6 fX0_75 (Or.inl rfl) (kc0 hF hc) hn ?_
  refine wp_icmp_ge 97 dX0_recordTemperatures_9 (by decide) (fun q1 => ?_) (fun q2 => ?_)
  · have hp3 : ¬ i < n := (fun z => q1 (nlt_ (b := n) z (by omega)))
    refine wp_iload_n dX0_recordTemperatures_97 rfl ?_
    exact wp_zret dX0_recordTemperatures_98 rfl (narz (g1 hp3)) (e1 hp3)
  · have hp4 : i < n := (nlt q2 (by omega) (by omega))
    refine wp_aload_n dX0_recordTemperatures_12 rfl ?_
    refine wp_getr (c + 1) dX0_recordTemperatures_13 fX0_11 (kc0 hF hc) (hF.2 _ _) (rra 1 (isK_le (kc0 hF hc)) (fun _ => rfl)) ?_
    refine wp_iload_n dX0_recordTemperatures_16 rfl ?_
    refine wp_raldk (n := 12) i (nd c i) dX0_recordTemperatures_17 (kc hF hc 1 (by decide)) (by decide) (by decide) (lc hc 1 (by decide)) (vin (by omega) (by decide)) (nIc (by omega)) (hF.2 _ _) (rnd hF hc) ?_
    refine wp_astore_n dX0_recordTemperatures_18 (by decide) rfl ?_
    refine wp_aload_n dX0_recordTemperatures_19 rfl ?_
    refine wp_aload_n dX0_recordTemperatures_20 rfl ?_
    refine wp_geti (fi m 407 (nd c i)) dX0_recordTemperatures_21 fX0_306 (Or.inl rfl) (knd hF hc (by omega)) rfl ?_
    refine wp_aload_n dX0_recordTemperatures_24 rfl ?_
    refine wp_geti (fi m 401 (nd c i)) dX0_recordTemperatures_25 fX0_156 (Or.inl rfl) (knd hF hc (by omega)) rfl ?_
    refine wp_minI dX0_recordTemperatures_28 AX0_309 (Nat.le_of_ble_eq_true rfl) ?_
    refine wp_puti dX0_recordTemperatures_31 pX0_306 (knd hF hc (by omega)) ?_
    have hF5 := Full_wfi 407 (nd c i) (imin (fi m 407 (nd c i)) (fi m 401 (nd c i))) hF
    refine wp_aload_n dX0_recordTemperatures_34 rfl ?_
    refine wp_aload_n dX0_recordTemperatures_35 rfl ?_
    refine wp_geti (fi m 408 (nd c i)) dX0_recordTemperatures_36 fX0_313 (Or.inl rfl) (knd hF5 hc (by omega)) (fi_ne (by decide)) ?_
    refine wp_aload_n dX0_recordTemperatures_39 rfl ?_
    refine wp_geti (fi m 401 (nd c i)) dX0_recordTemperatures_40 fX0_156 (Or.inl rfl) (knd hF5 hc (by omega)) (fi_ne (by decide)) ?_
    refine wp_maxI dX0_recordTemperatures_43 AX0_316 (Nat.le_of_ble_eq_true rfl) ?_
    refine wp_puti dX0_recordTemperatures_46 pX0_313 (knd hF5 hc (by omega)) ?_
    have hF6 := Full_wfi 408 (nd c i) (imax (fi m 408 (nd c i)) (fi m 401 (nd c i))) hF5
    refine wp_aload_n dX0_recordTemperatures_49 rfl ?_
    refine wp_callV (As := []) (S := []) (b' := (0, 0)) (b := (0, 0)) dX0_recordTemperatures_50 MX0_318 (knd hF6 hc (by omega)) rfl rfl rfl rfl (Nat.le_of_ble_eq_true rfl) ?_
    refine WPM.of pX4 (Nat.le_of_ble_eq_true rfl) rfl ?_
    refine wp_aload_n dX4_isOutside_0 rfl ?_
    refine wp_geti (fi m 401 (nd c i)) dX4_isOutside_1 fX4_15 (Or.inl rfl) (knd hF6 hc (by omega)) ((fi_ne (by decide)).trans (fi_ne (by decide))) ?_
    refine wp_aload_n dX4_isOutside_4 rfl ?_
    refine wp_geti (fi m 405 (nd c i)) dX4_isOutside_5 fX4_28 (Or.inl rfl) (knd hF6 hc (by omega)) ((fi_ne (by decide)).trans (fi_ne (by decide))) ?_
    refine wp_icmp_lt 22 dX4_isOutside_8 (by decide) (fun q7 => ?_) (fun q8 => ?_)
    · skip
      refine wp_iconst (1 : Int32) dX4_isOutside_22 (by decide) ?_
      refine wp_goto 27 dX4_isOutside_23 (by decide) ?_
      refine wp_zret dX4_isOutside_27 rfl rfl ?_
      show WP G (d + 2) (0, 0) μX0_recordTemperatures 53 [.ref c, .int z, .int (nI i), .ref (nd c i)] [.int (1 : Int32)] (wfi (wfi m 407 (nd c i) (imin (fi m 407 (nd c i)) (fi m 401 (nd c i)))) 408 (nd c i) (imax (fi m 408 (nd c i)) (fi m 401 (nd c i)))) _
      refine wp_if_eq 91 dX0_recordTemperatures_53 (by decide) (fun q => absurd q (by decide)) (fun _ => ?_)
      refine wp_iconst (1 : Int32) dX0_recordTemperatures_56 (by decide) ?_
      refine wp_istore_n dX0_recordTemperatures_57 (by decide) rfl ?_
      refine wp_aload_n dX0_recordTemperatures_58 rfl ?_
      refine wp_geti (fi m 409 (nd c i)) dX0_recordTemperatures_59 fX0_321 (Or.inl rfl) (knd hF6 hc (by omega)) ((fi_ne (by decide)).trans (fi_ne (by decide))) ?_
      refine wp_if_ne 81 dX0_recordTemperatures_62 (by decide) (fun q9 => ?_) (fun q10 => ?_)
      · skip
        refine wp_aload_n dX0_recordTemperatures_81 rfl ?_
        refine wp_dup dX0_recordTemperatures_82 rfl ?_
        refine wp_geti (fi m 409 (nd c i)) dX0_recordTemperatures_83 fX0_321 (Or.inl rfl) (knd hF6 hc (by omega)) ((fi_ne (by decide)).trans (fi_ne (by decide))) ?_
        refine wp_iconst (1 : Int32) dX0_recordTemperatures_86 (by decide) ?_
        refine wp_iaddv ((fi m 409 (nd c i)) + (1 : Int32)) dX0_recordTemperatures_87 rfl ?_
        refine wp_puti dX0_recordTemperatures_88 pX0_321 (knd hF6 hc (by omega)) ?_
        have hF11 := Full_wfi 409 (nd c i) ((fi m 409 (nd c i)) + (1 : Int32)) hF6
        refine wp_iinc (nI (i + 1)) dX0_recordTemperatures_91 rfl (by decide) (nadd (a := i) (b := 1) (by omega)) rfl ?_
        refine wp_goto 4 dX0_recordTemperatures_94 (by decide) ?_
        refine wp_forget [.ref c, .int (1 : Int32), .int (nI (i + 1)), lvU] ⟨Or.inl rfl, Or.inl rfl, Or.inl rfl, Or.inr rfl, trivial⟩ ?_
        exact e2 hp4 q7 q9
      · skip
        refine wp_aload_n dX0_recordTemperatures_65 rfl ?_
        refine wp_aload_n dX0_recordTemperatures_66 rfl ?_
        refine wp_geti (fi m 14 c) dX0_recordTemperatures_67 fX0_112 (Or.inl rfl) (kc0 hF6 hc) ((fi_ne (by decide)).trans (fi_ne (by decide))) ?_
        refine wp_puti dX0_recordTemperatures_70 pX0_324 (knd hF6 hc (by omega)) ?_
        have hF12 := Full_wfi 410 (nd c i) (fi m 14 c) hF6
        refine wp_aload_n dX0_recordTemperatures_73 rfl ?_
        refine wp_getr (c + 8) dX0_recordTemperatures_74 fX0_56 (kc0 hF12 hc) (hF12.2 _ _) (rra 8 (isK_le (kc0 hF12 hc)) (fun _ => rfl)) ?_
        refine wp_iload_n dX0_recordTemperatures_77 rfl ?_
        refine wp_callV (As := [.int (nI i)]) (S := []) (b' := (0, 0)) (b := (0, 0)) dX0_recordTemperatures_78 MX0_327 (kc hF12 hc 8 (by decide)) rfl rfl rfl rfl (Nat.le_of_ble_eq_true rfl) ?_
        refine WPM.of pX6 (Nat.le_of_ble_eq_true rfl) rfl ?_
        refine wp_aload_n dX6_addViolator_0 rfl ?_
        refine wp_geti (nI v) dX6_addViolator_1 fX6_15 (Or.inl rfl) (kc hF12 hc 8 (by decide)) ((fi_ne (by decide)).trans ((fi_ne (by decide)).trans ((fi_ne (by decide)).trans hv))) ?_
        refine wp_bipush (12 : Int32) dX6_addViolator_4 (by decide) ?_
        refine wp_icmp_ge 29 dX6_addViolator_6 (by decide) (fun q13 => ?_) (fun q14 => ?_)
        · have hp15 : ¬ v < 12 := (fun z => q13 (nlt_ (b := 12) z (by omega)))
          refine wp_vret dX6_addViolator_29 rfl ?_
          show WP G (d + 2) (0, 0) μX0_recordTemperatures 81 [.ref c, .int (1 : Int32), .int (nI i), .ref (nd c i)] [] (wfi (wfi (wfi m 407 (nd c i) (imin (fi m 407 (nd c i)) (fi m 401 (nd c i)))) 408 (nd c i) (imax (fi m 408 (nd c i)) (fi m 401 (nd c i)))) 410 (nd c i) (fi m 14 c)) _
          refine wp_aload_n dX0_recordTemperatures_81 rfl ?_
          refine wp_dup dX0_recordTemperatures_82 rfl ?_
          refine wp_geti (fi m 409 (nd c i)) dX0_recordTemperatures_83 fX0_321 (Or.inl rfl) (knd hF12 hc (by omega)) ((fi_ne (by decide)).trans ((fi_ne (by decide)).trans (fi_ne (by decide)))) ?_
          refine wp_iconst (1 : Int32) dX0_recordTemperatures_86 (by decide) ?_
          refine wp_iaddv ((fi m 409 (nd c i)) + (1 : Int32)) dX0_recordTemperatures_87 rfl ?_
          refine wp_puti dX0_recordTemperatures_88 pX0_321 (knd hF12 hc (by omega)) ?_
          have hF16 := Full_wfi 409 (nd c i) ((fi m 409 (nd c i)) + (1 : Int32)) hF12
          refine wp_iinc (nI (i + 1)) dX0_recordTemperatures_91 rfl (by decide) (nadd (a := i) (b := 1) (by omega)) rfl ?_
          refine wp_goto 4 dX0_recordTemperatures_94 (by decide) ?_
          refine wp_forget [.ref c, .int (1 : Int32), .int (nI (i + 1)), lvU] ⟨Or.inl rfl, Or.inl rfl, Or.inl rfl, Or.inr rfl, trivial⟩ ?_
          exact e3 hp4 q7 q10 hp15
        · have hp17 : v < 12 := (nlt q14 (by omega) (by omega))
          refine wp_aload_n dX6_addViolator_9 rfl ?_
          refine wp_getr (c + 9) dX6_addViolator_10 fX6_9 (kc hF12 hc 8 (by decide)) (hF12.2 _ _) (rra 1 (isK_le (kc hF12 hc 8 (by decide))) (fun _ => rfl)) ?_
          refine wp_aload_n dX6_addViolator_13 rfl ?_
          refine wp_geti (nI v) dX6_addViolator_14 fX6_15 (Or.inl rfl) (kc hF12 hc 8 (by decide)) ((fi_ne (by decide)).trans ((fi_ne (by decide)).trans ((fi_ne (by decide)).trans hv))) ?_
          refine wp_iload_n dX6_addViolator_17 rfl ?_
          refine wp_iastk (n := 12) v dX6_addViolator_18 (kc hF12 hc 9 (by decide)) (lc hc 9 (by decide)) (vin (by omega) (by decide))  (nIc (by omega)) ?_
          have hF18 := Full_wai (c + 9) v (nI i) hF12
          refine wp_aload_n dX6_addViolator_19 rfl ?_
          refine wp_dup dX6_addViolator_20 rfl ?_
          refine wp_geti (nI v) dX6_addViolator_21 fX6_15 (Or.inl rfl) (kc hF18 hc 8 (by decide)) (fi_wai.trans ((fi_ne (by decide)).trans ((fi_ne (by decide)).trans ((fi_ne (by decide)).trans hv)))) ?_
          refine wp_iconst (1 : Int32) dX6_addViolator_24 (by decide) ?_
          refine wp_iaddv (nI (v + 1)) dX6_addViolator_25 (nadd (a := v) (b := 1) (by omega)) ?_
          refine wp_puti dX6_addViolator_26 pX6_15 (kc hF18 hc 8 (by decide)) ?_
          have hF19 := Full_wfi 601 (c + 8) (nI (v + 1)) hF18
          refine wp_vret dX6_addViolator_29 rfl ?_
          show WP G (d + 2) (0, 0) μX0_recordTemperatures 81 [.ref c, .int (1 : Int32), .int (nI i), .ref (nd c i)] [] (wfi (wai (wfi (wfi (wfi m 407 (nd c i) (imin (fi m 407 (nd c i)) (fi m 401 (nd c i)))) 408 (nd c i) (imax (fi m 408 (nd c i)) (fi m 401 (nd c i)))) 410 (nd c i) (fi m 14 c)) (c + 9) v (nI i)) 601 (c + 8) (nI (v + 1))) _
          refine wp_aload_n dX0_recordTemperatures_81 rfl ?_
          refine wp_dup dX0_recordTemperatures_82 rfl ?_
          refine wp_geti (fi m 409 (nd c i)) dX0_recordTemperatures_83 fX0_321 (Or.inl rfl) (knd hF19 hc (by omega)) ((fi_ne (by decide)).trans (fi_wai.trans ((fi_ne (by decide)).trans ((fi_ne (by decide)).trans (fi_ne (by decide)))))) ?_
          refine wp_iconst (1 : Int32) dX0_recordTemperatures_86 (by decide) ?_
          refine wp_iaddv ((fi m 409 (nd c i)) + (1 : Int32)) dX0_recordTemperatures_87 rfl ?_
          refine wp_puti dX0_recordTemperatures_88 pX0_321 (knd hF19 hc (by omega)) ?_
          have hF20 := Full_wfi 409 (nd c i) ((fi m 409 (nd c i)) + (1 : Int32)) hF19
          refine wp_iinc (nI (i + 1)) dX0_recordTemperatures_91 rfl (by decide) (nadd (a := i) (b := 1) (by omega)) rfl ?_
          refine wp_goto 4 dX0_recordTemperatures_94 (by decide) ?_
          refine wp_forget [.ref c, .int (1 : Int32), .int (nI (i + 1)), lvU] ⟨Or.inl rfl, Or.inl rfl, Or.inl rfl, Or.inr rfl, trivial⟩ ?_
          exact e4 hp4 q7 q10 hp17
    · skip
      refine wp_aload_n dX4_isOutside_11 rfl ?_
      refine wp_geti (fi m 401 (nd c i)) dX4_isOutside_12 fX4_15 (Or.inl rfl) (knd hF6 hc (by omega)) ((fi_ne (by decide)).trans (fi_ne (by decide))) ?_
      refine wp_aload_n dX4_isOutside_15 rfl ?_
      refine wp_geti (fi m 406 (nd c i)) dX4_isOutside_16 fX4_32 (Or.inl rfl) (knd hF6 hc (by omega)) ((fi_ne (by decide)).trans (fi_ne (by decide))) ?_
      refine wp_icmp_le 26 dX4_isOutside_19 (by decide) (fun q21 => ?_) (fun q22 => ?_)
      · skip
        refine wp_iconst (0 : Int32) dX4_isOutside_26 (by decide) ?_
        refine wp_zret dX4_isOutside_27 rfl rfl ?_
        show WP G (d + 2) (0, 0) μX0_recordTemperatures 53 [.ref c, .int z, .int (nI i), .ref (nd c i)] [.int (0 : Int32)] (wfi (wfi m 407 (nd c i) (imin (fi m 407 (nd c i)) (fi m 401 (nd c i)))) 408 (nd c i) (imax (fi m 408 (nd c i)) (fi m 401 (nd c i)))) _
        refine wp_if_eq 91 dX0_recordTemperatures_53 (by decide) (fun _ => ?_) (fun q => absurd (by decide) q)
        refine wp_iinc (nI (i + 1)) dX0_recordTemperatures_91 rfl (by decide) (nadd (a := i) (b := 1) (by omega)) rfl ?_
        refine wp_goto 4 dX0_recordTemperatures_94 (by decide) ?_
        refine wp_forget [.ref c, .int z, .int (nI (i + 1)), lvU] ⟨Or.inl rfl, Or.inl rfl, Or.inl rfl, Or.inr rfl, trivial⟩ ?_
        exact e5 hp4 q8 q21
      · skip
        refine wp_iconst (1 : Int32) dX4_isOutside_22 (by decide) ?_
        refine wp_goto 27 dX4_isOutside_23 (by decide) ?_
        refine wp_zret dX4_isOutside_27 rfl rfl ?_
        show WP G (d + 2) (0, 0) μX0_recordTemperatures 53 [.ref c, .int z, .int (nI i), .ref (nd c i)] [.int (1 : Int32)] (wfi (wfi m 407 (nd c i) (imin (fi m 407 (nd c i)) (fi m 401 (nd c i)))) 408 (nd c i) (imax (fi m 408 (nd c i)) (fi m 401 (nd c i)))) _
        refine wp_if_eq 91 dX0_recordTemperatures_53 (by decide) (fun q => absurd q (by decide)) (fun _ => ?_)
        refine wp_iconst (1 : Int32) dX0_recordTemperatures_56 (by decide) ?_
        refine wp_istore_n dX0_recordTemperatures_57 (by decide) rfl ?_
        refine wp_aload_n dX0_recordTemperatures_58 rfl ?_
        refine wp_geti (fi m 409 (nd c i)) dX0_recordTemperatures_59 fX0_321 (Or.inl rfl) (knd hF6 hc (by omega)) ((fi_ne (by decide)).trans (fi_ne (by decide))) ?_
        refine wp_if_ne 81 dX0_recordTemperatures_62 (by decide) (fun q23 => ?_) (fun q24 => ?_)
        · skip
          refine wp_aload_n dX0_recordTemperatures_81 rfl ?_
          refine wp_dup dX0_recordTemperatures_82 rfl ?_
          refine wp_geti (fi m 409 (nd c i)) dX0_recordTemperatures_83 fX0_321 (Or.inl rfl) (knd hF6 hc (by omega)) ((fi_ne (by decide)).trans (fi_ne (by decide))) ?_
          refine wp_iconst (1 : Int32) dX0_recordTemperatures_86 (by decide) ?_
          refine wp_iaddv ((fi m 409 (nd c i)) + (1 : Int32)) dX0_recordTemperatures_87 rfl ?_
          refine wp_puti dX0_recordTemperatures_88 pX0_321 (knd hF6 hc (by omega)) ?_
          have hF25 := Full_wfi 409 (nd c i) ((fi m 409 (nd c i)) + (1 : Int32)) hF6
          refine wp_iinc (nI (i + 1)) dX0_recordTemperatures_91 rfl (by decide) (nadd (a := i) (b := 1) (by omega)) rfl ?_
          refine wp_goto 4 dX0_recordTemperatures_94 (by decide) ?_
          refine wp_forget [.ref c, .int (1 : Int32), .int (nI (i + 1)), lvU] ⟨Or.inl rfl, Or.inl rfl, Or.inl rfl, Or.inr rfl, trivial⟩ ?_
          exact e6 hp4 q8 q22 q23
        · skip
          refine wp_aload_n dX0_recordTemperatures_65 rfl ?_
          refine wp_aload_n dX0_recordTemperatures_66 rfl ?_
          refine wp_geti (fi m 14 c) dX0_recordTemperatures_67 fX0_112 (Or.inl rfl) (kc0 hF6 hc) ((fi_ne (by decide)).trans (fi_ne (by decide))) ?_
          refine wp_puti dX0_recordTemperatures_70 pX0_324 (knd hF6 hc (by omega)) ?_
          have hF26 := Full_wfi 410 (nd c i) (fi m 14 c) hF6
          refine wp_aload_n dX0_recordTemperatures_73 rfl ?_
          refine wp_getr (c + 8) dX0_recordTemperatures_74 fX0_56 (kc0 hF26 hc) (hF26.2 _ _) (rra 8 (isK_le (kc0 hF26 hc)) (fun _ => rfl)) ?_
          refine wp_iload_n dX0_recordTemperatures_77 rfl ?_
          refine wp_callV (As := [.int (nI i)]) (S := []) (b' := (0, 0)) (b := (0, 0)) dX0_recordTemperatures_78 MX0_327 (kc hF26 hc 8 (by decide)) rfl rfl rfl rfl (Nat.le_of_ble_eq_true rfl) ?_
          refine WPM.of pX6 (Nat.le_of_ble_eq_true rfl) rfl ?_
          refine wp_aload_n dX6_addViolator_0 rfl ?_
          refine wp_geti (nI v) dX6_addViolator_1 fX6_15 (Or.inl rfl) (kc hF26 hc 8 (by decide)) ((fi_ne (by decide)).trans ((fi_ne (by decide)).trans ((fi_ne (by decide)).trans hv))) ?_
          refine wp_bipush (12 : Int32) dX6_addViolator_4 (by decide) ?_
          refine wp_icmp_ge 29 dX6_addViolator_6 (by decide) (fun q27 => ?_) (fun q28 => ?_)
          · have hp29 : ¬ v < 12 := (fun z => q27 (nlt_ (b := 12) z (by omega)))
            refine wp_vret dX6_addViolator_29 rfl ?_
            show WP G (d + 2) (0, 0) μX0_recordTemperatures 81 [.ref c, .int (1 : Int32), .int (nI i), .ref (nd c i)] [] (wfi (wfi (wfi m 407 (nd c i) (imin (fi m 407 (nd c i)) (fi m 401 (nd c i)))) 408 (nd c i) (imax (fi m 408 (nd c i)) (fi m 401 (nd c i)))) 410 (nd c i) (fi m 14 c)) _
            refine wp_aload_n dX0_recordTemperatures_81 rfl ?_
            refine wp_dup dX0_recordTemperatures_82 rfl ?_
            refine wp_geti (fi m 409 (nd c i)) dX0_recordTemperatures_83 fX0_321 (Or.inl rfl) (knd hF26 hc (by omega)) ((fi_ne (by decide)).trans ((fi_ne (by decide)).trans (fi_ne (by decide)))) ?_
            refine wp_iconst (1 : Int32) dX0_recordTemperatures_86 (by decide) ?_
            refine wp_iaddv ((fi m 409 (nd c i)) + (1 : Int32)) dX0_recordTemperatures_87 rfl ?_
            refine wp_puti dX0_recordTemperatures_88 pX0_321 (knd hF26 hc (by omega)) ?_
            have hF30 := Full_wfi 409 (nd c i) ((fi m 409 (nd c i)) + (1 : Int32)) hF26
            refine wp_iinc (nI (i + 1)) dX0_recordTemperatures_91 rfl (by decide) (nadd (a := i) (b := 1) (by omega)) rfl ?_
            refine wp_goto 4 dX0_recordTemperatures_94 (by decide) ?_
            refine wp_forget [.ref c, .int (1 : Int32), .int (nI (i + 1)), lvU] ⟨Or.inl rfl, Or.inl rfl, Or.inl rfl, Or.inr rfl, trivial⟩ ?_
            exact e7 hp4 q8 q22 q24 hp29
          · have hp31 : v < 12 := (nlt q28 (by omega) (by omega))
            refine wp_aload_n dX6_addViolator_9 rfl ?_
            refine wp_getr (c + 9) dX6_addViolator_10 fX6_9 (kc hF26 hc 8 (by decide)) (hF26.2 _ _) (rra 1 (isK_le (kc hF26 hc 8 (by decide))) (fun _ => rfl)) ?_
            refine wp_aload_n dX6_addViolator_13 rfl ?_
            refine wp_geti (nI v) dX6_addViolator_14 fX6_15 (Or.inl rfl) (kc hF26 hc 8 (by decide)) ((fi_ne (by decide)).trans ((fi_ne (by decide)).trans ((fi_ne (by decide)).trans hv))) ?_
            refine wp_iload_n dX6_addViolator_17 rfl ?_
            refine wp_iastk (n := 12) v dX6_addViolator_18 (kc hF26 hc 9 (by decide)) (lc hc 9 (by decide)) (vin (by omega) (by decide))  (nIc (by omega)) ?_
            have hF32 := Full_wai (c + 9) v (nI i) hF26
            refine wp_aload_n dX6_addViolator_19 rfl ?_
            refine wp_dup dX6_addViolator_20 rfl ?_
            refine wp_geti (nI v) dX6_addViolator_21 fX6_15 (Or.inl rfl) (kc hF32 hc 8 (by decide)) (fi_wai.trans ((fi_ne (by decide)).trans ((fi_ne (by decide)).trans ((fi_ne (by decide)).trans hv)))) ?_
            refine wp_iconst (1 : Int32) dX6_addViolator_24 (by decide) ?_
            refine wp_iaddv (nI (v + 1)) dX6_addViolator_25 (nadd (a := v) (b := 1) (by omega)) ?_
            refine wp_puti dX6_addViolator_26 pX6_15 (kc hF32 hc 8 (by decide)) ?_
            have hF33 := Full_wfi 601 (c + 8) (nI (v + 1)) hF32
            refine wp_vret dX6_addViolator_29 rfl ?_
            show WP G (d + 2) (0, 0) μX0_recordTemperatures 81 [.ref c, .int (1 : Int32), .int (nI i), .ref (nd c i)] [] (wfi (wai (wfi (wfi (wfi m 407 (nd c i) (imin (fi m 407 (nd c i)) (fi m 401 (nd c i)))) 408 (nd c i) (imax (fi m 408 (nd c i)) (fi m 401 (nd c i)))) 410 (nd c i) (fi m 14 c)) (c + 9) v (nI i)) 601 (c + 8) (nI (v + 1))) _
            refine wp_aload_n dX0_recordTemperatures_81 rfl ?_
            refine wp_dup dX0_recordTemperatures_82 rfl ?_
            refine wp_geti (fi m 409 (nd c i)) dX0_recordTemperatures_83 fX0_321 (Or.inl rfl) (knd hF33 hc (by omega)) ((fi_ne (by decide)).trans (fi_wai.trans ((fi_ne (by decide)).trans ((fi_ne (by decide)).trans (fi_ne (by decide)))))) ?_
            refine wp_iconst (1 : Int32) dX0_recordTemperatures_86 (by decide) ?_
            refine wp_iaddv ((fi m 409 (nd c i)) + (1 : Int32)) dX0_recordTemperatures_87 rfl ?_
            refine wp_puti dX0_recordTemperatures_88 pX0_321 (knd hF33 hc (by omega)) ?_
            have hF34 := Full_wfi 409 (nd c i) ((fi m 409 (nd c i)) + (1 : Int32)) hF33
            refine wp_iinc (nI (i + 1)) dX0_recordTemperatures_91 rfl (by decide) (nadd (a := i) (b := 1) (by omega)) rfl ?_
            refine wp_goto 4 dX0_recordTemperatures_94 (by decide) ?_
            refine wp_forget [.ref c, .int (1 : Int32), .int (nI (i + 1)), lvU] ⟨Or.inl rfl, Or.inl rfl, Or.inl rfl, Or.inr rfl, trivial⟩ ?_
            exact e8 hp4 q8 q22 q24 hp31
