theorem nI_ne1b {p : Nat} (h : p < 100000) : ¬ nI p = (-1 : Int32) := by
  intro e
  have e1 := congrArg Int32.toInt e
  rw [nI_toInt (by omega)] at e1
  have : (-1 : Int32).toInt = -1 := by decide
  omega

theorem eC_run {G : Cx} {d : Nat} {m : Mm} {Q : Option Value → Mm → Prop} {x : Int32} (hF : Full G m) 
    (e1 : x < (1 : Int32) → Q (some (.int (-1000000002 : Int32))) m)
    (e2 : ¬ x < (1 : Int32) → (1000 : Int32) < x → Q (some (.int (-1000000002 : Int32))) m)
    (e3 : ¬ x < (1 : Int32) → ¬ (1000 : Int32) < x → ¬ (100000000 : Int32) < ((fi m 14 (gB G + 1)) + (x * (fi m 13 (gB G + 1)))) → WP G (d + 7) (0, 0) μX10_run 40 [.ref (gB G), .int x, .int (0 : Int32), .int (0 : Int32)] [] m Q)
    (e4 : ¬ x < (1 : Int32) → ¬ (1000 : Int32) < x → (100000000 : Int32) < ((fi m 14 (gB G + 1)) + (x * (fi m 13 (gB G + 1)))) → Q (some (.int (-1000000002 : Int32))) m) :
    WPM G (d + 7) (0, 0) μX10_run [.ref (gB G), .int x] m Q := by
  refine WPM.of pX10 (Nat.le_of_ble_eq_true rfl) rfl ?_
  refine wp_iload_n dX10_run_0 rfl ?_
  refine wp_iconst (1 : Int32) dX10_run_1 (by decide) ?_
  refine wp_sipush (1000 : Int32) dX10_run_2 (by decide) ?_
  refine wp_callS (As := [.int x, .int (1 : Int32), .int (1000 : Int32)]) (S := []) (b' := (0, 0)) (b := (0, 0)) dX10_run_5 MX10_35 rfl rfl (Nat.le_of_ble_eq_true rfl) ?_
  refine WPM.of pX10 (Nat.le_of_ble_eq_true rfl) rfl ?_
  refine wp_iload_n dX10_within_0 rfl ?_
  refine wp_iload_n dX10_within_1 rfl ?_
  refine wp_icmp_lt 14 dX10_within_2 (by decide) (fun q1 => ?_) (fun q2 => ?_)
  · skip
    refine wp_iconst (0 : Int32) dX10_within_14 (by decide) ?_
    refine wp_zret dX10_within_15 rfl rfl ?_
    show WP G (d + 7) (0, 0) μX10_run 8 [.ref (gB G), .int x, lvU, lvU] [.int (0 : Int32)] m _
    refine wp_if_eq 33 dX10_run_8 (by decide) (fun _ => ?_) (fun q => absurd (by decide) q)
    refine wp_ldc dX10_run_33 kX10_42 ?_
    exact wp_iret dX10_run_35 rfl (e1 q1)
  · skip
    refine wp_iload_n dX10_within_5 rfl ?_
    refine wp_iload_n dX10_within_6 rfl ?_
    refine wp_icmp_gt 14 dX10_within_7 (by decide) (fun q3 => ?_) (fun q4 => ?_)
    · skip
      refine wp_iconst (0 : Int32) dX10_within_14 (by decide) ?_
      refine wp_zret dX10_within_15 rfl rfl ?_
      show WP G (d + 7) (0, 0) μX10_run 8 [.ref (gB G), .int x, lvU, lvU] [.int (0 : Int32)] m _
      refine wp_if_eq 33 dX10_run_8 (by decide) (fun _ => ?_) (fun q => absurd (by decide) q)
      refine wp_ldc dX10_run_33 kX10_42 ?_
      exact wp_iret dX10_run_35 rfl (e2 q2 q3)
    · skip
      refine wp_iconst (1 : Int32) dX10_within_10 (by decide) ?_
      refine wp_goto 15 dX10_within_11 (by decide) ?_
      refine wp_zret dX10_within_15 rfl rfl ?_
      show WP G (d + 7) (0, 0) μX10_run 8 [.ref (gB G), .int x, lvU, lvU] [.int (1 : Int32)] m _
      refine wp_if_eq 33 dX10_run_8 (by decide) (fun q => absurd q (by decide)) (fun _ => ?_)
      refine wp_aload_n dX10_run_11 rfl ?_
      refine wp_getr (gB G + 1) dX10_run_12 fX10_10 (ka0 hF) (hF.2 _ _) (rra 1 (isK_le (ka0 hF)) (fun _ => rfl)) ?_
      refine wp_geti (fi m 14 (gB G + 1)) dX10_run_15 fX10_168 (Or.inl rfl) (kc0 hF (isC1 G)) rfl ?_
      refine wp_iload_n dX10_run_18 rfl ?_
      refine wp_aload_n dX10_run_19 rfl ?_
      refine wp_getr (gB G + 1) dX10_run_20 fX10_10 (ka0 hF) (hF.2 _ _) (rra 1 (isK_le (ka0 hF)) (fun _ => rfl)) ?_
      refine wp_geti (fi m 13 (gB G + 1)) dX10_run_23 fX10_165 (Or.inl rfl) (kc0 hF (isC1 G)) rfl ?_
      refine wp_imulv (x * (fi m 13 (gB G + 1))) dX10_run_26 rfl ?_
      refine wp_iaddv ((fi m 14 (gB G + 1)) + (x * (fi m 13 (gB G + 1)))) dX10_run_27 rfl ?_
      refine wp_ldc dX10_run_28 kX10_171 ?_
      refine wp_icmp_le 36 dX10_run_30 (by decide) (fun q5 => ?_) (fun q6 => ?_)
      · skip
        refine wp_iconst (0 : Int32) dX10_run_36 (by decide) ?_
        refine wp_istore_n dX10_run_37 (by decide) rfl ?_
        refine wp_iconst (0 : Int32) dX10_run_38 (by decide) ?_
        refine wp_istore_n dX10_run_39 (by decide) rfl ?_
        refine wp_forget [.ref (gB G), .int x, .int (0 : Int32), .int (0 : Int32)] ⟨Or.inl rfl, Or.inl rfl, Or.inl rfl, Or.inl rfl, trivial⟩ ?_
        exact e3 q2 q4 q5
      · skip
        refine wp_ldc dX10_run_33 kX10_42 ?_
        exact wp_iret dX10_run_35 rfl (e4 q2 q4 q6)

theorem bC_run {G : Cx} {d : Nat} {m : Mm} {Q : Option Value → Mm → Prop} {i j : Nat} {v : Int32} (hF : Full G m) (hi : i ≤ 1000) (hj : j ≤ i)
    (e1 : ¬ j < i → Q (some (.int v)) m)
    (e2 : j < i → WPM G (d + 6) (0, 0) μX0_step [.ref (gB G + 1)] m (fun r' m' => WP G (d + 7) (0, 0) μX10_run 52 [.ref (gB G), .int (nI i), .int v, .int (nI j)] (r'.toList ++ []) m' Q)) :
    WP G (d + 7) (0, 0) μX10_run 40 [.ref (gB G), .int (nI i), .int v, .int (nI j)] [] m Q := by
  refine wp_iload_n dX10_run_40 rfl ?_
  refine wp_iload_n dX10_run_41 rfl ?_
  refine wp_icmp_ge 64 dX10_run_42 (by decide) (fun q1 => ?_) (fun q2 => ?_)
  · have hp3 : ¬ j < i := (fun z => q1 (nlt_ (b := i) z (by omega)))
    refine wp_iload_n dX10_run_64 rfl ?_
    exact wp_iret dX10_run_65 rfl (e1 hp3)
  · have hp4 : j < i := (nlt q2 (by omega) (by omega))
    refine wp_aload_n dX10_run_45 rfl ?_
    refine wp_getr (gB G + 1) dX10_run_46 fX10_10 (ka0 hF) (hF.2 _ _) (rra 1 (isK_le (ka0 hF)) (fun _ => rfl)) ?_
    refine wp_callV (As := []) (S := []) (b' := (0, 0)) (b := (0, 0)) dX10_run_49 MX10_172 (kc0 hF (isC1 G)) rfl rfl rfl rfl (Nat.le_of_ble_eq_true rfl) ?_
    exact e2 hp4

theorem jC_run {G : Cx} {d : Nat} {m : Mm} {Q : Option Value → Mm → Prop} {i j : Nat} {l2 : Int32} {r : Int32} (hF : Full G m) (hi : i ≤ 1000) (hj : j < i)
    (e1 : r = 0 → WP G (d + 7) (0, 0) μX10_run 40 [.ref (gB G), .int (nI i), .int l2, .int (nI (j + 1))] [] m Q)
    (e2 : ¬ r = 0 → WP G (d + 7) (0, 0) μX10_run 40 [.ref (gB G), .int (nI i), .int (l2 + (1 : Int32)), .int (nI (j + 1))] [] m Q) :
    WP G (d + 7) (0, 0) μX10_run 52 [.ref (gB G), .int (nI i), .int l2, .int (nI j)] [.int r] m Q := by
  refine wp_if_eq 58 dX10_run_52 (by decide) (fun q1 => ?_) (fun q2 => ?_)
  · skip
    refine wp_iinc (nI (j + 1)) dX10_run_58 rfl (by decide) (nadd (a := j) (b := 1) (by omega)) rfl ?_
    refine wp_goto 40 dX10_run_61 (by decide) ?_
    refine wp_forget [.ref (gB G), .int (nI i), .int l2, .int (nI (j + 1))] ⟨Or.inl rfl, Or.inl rfl, Or.inl rfl, Or.inl rfl, trivial⟩ ?_
    exact e1 q1
  · skip
    refine wp_iinc (l2 + (1 : Int32)) dX10_run_55 rfl (by decide) rfl rfl ?_
    refine wp_iinc (nI (j + 1)) dX10_run_58 rfl (by decide) (nadd (a := j) (b := 1) (by omega)) rfl ?_
    refine wp_goto 40 dX10_run_61 (by decide) ?_
    refine wp_forget [.ref (gB G), .int (nI i), .int (l2 + (1 : Int32)), .int (nI (j + 1))] ⟨Or.inl rfl, Or.inl rfl, Or.inl rfl, Or.inl rfl, trivial⟩ ?_
    exact e2 q2

theorem eM_run {G : Cx} {d : Nat} {m : Mm} {Q : Option Value → Mm → Prop} {x : Int32} (hF : Full G m) 
    (e1 : x < (1 : Int32) → Q (some (.int (-1000000002 : Int32))) m)
    (e2 : ¬ x < (1 : Int32) → (1000 : Int32) < x → Q (some (.int (-1000000002 : Int32))) m)
    (e3 : ¬ x < (1 : Int32) → ¬ (1000 : Int32) < x → ¬ (100000000 : Int32) < ((ai m (gB G + 294) 0) + (x * (ai m (gB G + 294) 1))) → WP G (d + 8) (0, 0) μX11_run 38 [.ref (gB G + 293), .int x, .int (0 : Int32), .int (0 : Int32)] [] m Q)
    (e4 : ¬ x < (1 : Int32) → ¬ (1000 : Int32) < x → (100000000 : Int32) < ((ai m (gB G + 294) 0) + (x * (ai m (gB G + 294) 1))) → Q (some (.int (-1000000002 : Int32))) m) :
    WPM G (d + 8) (0, 0) μX11_run [.ref (gB G + 293), .int x] m Q := by
  refine WPM.of pX11 (Nat.le_of_ble_eq_true rfl) rfl ?_
  refine wp_iload_n dX11_run_0 rfl ?_
  refine wp_iconst (1 : Int32) dX11_run_1 (by decide) ?_
  refine wp_sipush (1000 : Int32) dX11_run_2 (by decide) ?_
  refine wp_callS (As := [.int x, .int (1 : Int32), .int (1000 : Int32)]) (S := []) (b' := (0, 0)) (b := (0, 0)) dX11_run_5 MX11_67 rfl rfl (Nat.le_of_ble_eq_true rfl) ?_
  refine WPM.of pX11 (Nat.le_of_ble_eq_true rfl) rfl ?_
  refine wp_iload_n dX11_isBetween_0 rfl ?_
  refine wp_iload_n dX11_isBetween_1 rfl ?_
  refine wp_icmp_lt 14 dX11_isBetween_2 (by decide) (fun q1 => ?_) (fun q2 => ?_)
  · skip
    refine wp_iconst (0 : Int32) dX11_isBetween_14 (by decide) ?_
    refine wp_zret dX11_isBetween_15 rfl rfl ?_
    show WP G (d + 8) (0, 0) μX11_run 8 [.ref (gB G + 293), .int x, lvU, lvU] [.int (0 : Int32)] m _
    refine wp_if_eq 31 dX11_run_8 (by decide) (fun _ => ?_) (fun q => absurd (by decide) q)
    refine wp_ldc dX11_run_31 kX11_79 ?_
    exact wp_iret dX11_run_33 rfl (e1 q1)
  · skip
    refine wp_iload_n dX11_isBetween_5 rfl ?_
    refine wp_iload_n dX11_isBetween_6 rfl ?_
    refine wp_icmp_gt 14 dX11_isBetween_7 (by decide) (fun q3 => ?_) (fun q4 => ?_)
    · skip
      refine wp_iconst (0 : Int32) dX11_isBetween_14 (by decide) ?_
      refine wp_zret dX11_isBetween_15 rfl rfl ?_
      show WP G (d + 8) (0, 0) μX11_run 8 [.ref (gB G + 293), .int x, lvU, lvU] [.int (0 : Int32)] m _
      refine wp_if_eq 31 dX11_run_8 (by decide) (fun _ => ?_) (fun q => absurd (by decide) q)
      refine wp_ldc dX11_run_31 kX11_79 ?_
      exact wp_iret dX11_run_33 rfl (e2 q2 q3)
    · skip
      refine wp_iconst (1 : Int32) dX11_isBetween_10 (by decide) ?_
      refine wp_goto 15 dX11_isBetween_11 (by decide) ?_
      refine wp_zret dX11_isBetween_15 rfl rfl ?_
      show WP G (d + 8) (0, 0) μX11_run 8 [.ref (gB G + 293), .int x, lvU, lvU] [.int (1 : Int32)] m _
      refine wp_if_eq 31 dX11_run_8 (by decide) (fun q => absurd q (by decide)) (fun _ => ?_)
      refine wp_aload_n dX11_run_11 rfl ?_
      refine wp_getr (gB G + 294) dX11_run_12 fX11_7 (ka hF 293 (by decide)) (hF.2 _ _) (rra 1 (isK_le (ka hF 293 (by decide))) (fun _ => rfl)) ?_
      refine wp_iconst (0 : Int32) dX11_run_15 (by decide) ?_
      refine wp_ialdk (n := 1486) 0 (ai m (gB G + 294) 0) dX11_run_16 (ka hF 294 (by decide)) (la 294) (vinl (by decide)) rfl rfl ?_
      refine wp_iload_n dX11_run_17 rfl ?_
      refine wp_aload_n dX11_run_18 rfl ?_
      refine wp_getr (gB G + 294) dX11_run_19 fX11_7 (ka hF 293 (by decide)) (hF.2 _ _) (rra 1 (isK_le (ka hF 293 (by decide))) (fun _ => rfl)) ?_
      refine wp_iconst (1 : Int32) dX11_run_22 (by decide) ?_
      refine wp_ialdk (n := 1486) 1 (ai m (gB G + 294) 1) dX11_run_23 (ka hF 294 (by decide)) (la 294) (vinl (by decide)) rfl rfl ?_
      refine wp_imulv (x * (ai m (gB G + 294) 1)) dX11_run_24 rfl ?_
      refine wp_iaddv ((ai m (gB G + 294) 0) + (x * (ai m (gB G + 294) 1))) dX11_run_25 rfl ?_
      refine wp_ldc dX11_run_26 kX11_181 ?_
      refine wp_icmp_le 34 dX11_run_28 (by decide) (fun q5 => ?_) (fun q6 => ?_)
      · skip
        refine wp_iconst (0 : Int32) dX11_run_34 (by decide) ?_
        refine wp_istore_n dX11_run_35 (by decide) rfl ?_
        refine wp_iconst (0 : Int32) dX11_run_36 (by decide) ?_
        refine wp_istore_n dX11_run_37 (by decide) rfl ?_
        refine wp_forget [.ref (gB G + 293), .int x, .int (0 : Int32), .int (0 : Int32)] ⟨Or.inl rfl, Or.inl rfl, Or.inl rfl, Or.inl rfl, trivial⟩ ?_
        exact e3 q2 q4 q5
      · skip
        refine wp_ldc dX11_run_31 kX11_79 ?_
        exact wp_iret dX11_run_33 rfl (e4 q2 q4 q6)

theorem bM_run {G : Cx} {d : Nat} {m : Mm} {Q : Option Value → Mm → Prop} {i j : Nat} {v : Int32} (hF : Full G m) (hi : i ≤ 1000) (hj : j ≤ i)
    (e1 : ¬ j < i → Q (some (.int v)) m)
    (e2 : j < i → WPM G (d + 7) (0, 0) μX11_step [.ref (gB G + 293)] m (fun r' m' => WP G (d + 8) (0, 0) μX11_run 48 [.ref (gB G + 293), .int (nI i), lvU, .int (nI j)] (r'.toList ++ [.int v]) m' Q)) :
    WP G (d + 8) (0, 0) μX11_run 38 [.ref (gB G + 293), .int (nI i), .int v, .int (nI j)] [] m Q := by
  refine wp_iload_n dX11_run_38 rfl ?_
  refine wp_iload_n dX11_run_39 rfl ?_
  refine wp_icmp_ge 64 dX11_run_40 (by decide) (fun q1 => ?_) (fun q2 => ?_)
  · have hp3 : ¬ j < i := (fun z => q1 (nlt_ (b := i) z (by omega)))
    refine wp_iload_n dX11_run_64 rfl ?_
    exact wp_iret dX11_run_65 rfl (e1 hp3)
  · have hp4 : j < i := (nlt q2 (by omega) (by omega))
    refine wp_iload_n dX11_run_43 rfl ?_
    refine wp_aload_n dX11_run_44 rfl ?_
    refine wp_forget [.ref (gB G + 293), .int (nI i), lvU, .int (nI j)] ⟨Or.inl rfl, Or.inl rfl, Or.inr rfl, Or.inl rfl, trivial⟩ ?_
    refine wp_callV (As := []) (S := [.int v]) (b' := (0, 0)) (b := (0, 0)) dX11_run_45 MX11_182 (ka hF 293 (by decide)) rfl rfl rfl rfl (Nat.le_of_ble_eq_true rfl) ?_
    exact e2 hp4

theorem jM_run {G : Cx} {d : Nat} {m : Mm} {Q : Option Value → Mm → Prop} {i j : Nat} {s0 : Int32} {r : Int32} (hF : Full G m) (hi : i ≤ 1000) (hj : j < i)
    (e1 : r = 0 → WP G (d + 8) (0, 0) μX11_run 38 [.ref (gB G + 293), .int (nI i), .int (s0 + (0 : Int32)), .int (nI (j + 1))] [] m Q)
    (e2 : ¬ r = 0 → WP G (d + 8) (0, 0) μX11_run 38 [.ref (gB G + 293), .int (nI i), .int (s0 + (1 : Int32)), .int (nI (j + 1))] [] m Q) :
    WP G (d + 8) (0, 0) μX11_run 48 [.ref (gB G + 293), .int (nI i), lvU, .int (nI j)] [.int r, .int s0] m Q := by
  refine wp_if_eq 55 dX11_run_48 (by decide) (fun q1 => ?_) (fun q2 => ?_)
  · skip
    refine wp_iconst (0 : Int32) dX11_run_55 (by decide) ?_
    refine wp_iaddv (s0 + (0 : Int32)) dX11_run_56 rfl ?_
    refine wp_istore_n dX11_run_57 (by decide) rfl ?_
    refine wp_iinc (nI (j + 1)) dX11_run_58 rfl (by decide) (nadd (a := j) (b := 1) (by omega)) rfl ?_
    refine wp_goto 38 dX11_run_61 (by decide) ?_
    refine wp_forget [.ref (gB G + 293), .int (nI i), .int (s0 + (0 : Int32)), .int (nI (j + 1))] ⟨Or.inl rfl, Or.inl rfl, Or.inl rfl, Or.inl rfl, trivial⟩ ?_
    exact e1 q1
  · skip
    refine wp_iconst (1 : Int32) dX11_run_51 (by decide) ?_
    refine wp_goto 56 dX11_run_52 (by decide) ?_
    refine wp_iaddv (s0 + (1 : Int32)) dX11_run_56 rfl ?_
    refine wp_istore_n dX11_run_57 (by decide) rfl ?_
    refine wp_iinc (nI (j + 1)) dX11_run_58 rfl (by decide) (nadd (a := j) (b := 1) (by omega)) rfl ?_
    refine wp_goto 38 dX11_run_61 (by decide) ?_
    refine wp_forget [.ref (gB G + 293), .int (nI i), .int (s0 + (1 : Int32)), .int (nI (j + 1))] ⟨Or.inl rfl, Or.inl rfl, Or.inl rfl, Or.inl rfl, trivial⟩ ?_
    exact e2 q2

theorem eM_ks {G : Cx} {d : Nat} {m : Mm} {Q : Option Value → Mm → Prop}  (hF : Full G m) 
    (e1 : WP G (d + 1) (0, 0) μX11_keepState 2 [.ref (gB G + 293), .int (0 : Int32)] [] m Q) :
    WPM G (d + 1) (0, 0) μX11_keepState [.ref (gB G + 293)] m Q := by
  refine WPM.of pX11 (Nat.le_of_ble_eq_true rfl) rfl ?_
  refine wp_iconst (0 : Int32) dX11_keepState_0 (by decide) ?_
  refine wp_istore_n dX11_keepState_1 (by decide) rfl ?_
  refine wp_forget [.ref (gB G + 293), .int (0 : Int32)] ⟨Or.inl rfl, Or.inl rfl, trivial⟩ ?_
  exact e1

theorem bM_ks {G : Cx} {d : Nat} {m : Mm} {Q : Option Value → Mm → Prop} {j : Nat} (hF : Full G m) (hj : j ≤ 1486)
    (e1 : ¬ j < 1486 → WP G (d + 1) (0, 0) μX11_keepState 29 [.ref (gB G + 293), .int (0 : Int32)] [] m Q)
    (e2 : j < 1486 → WP G (d + 1) (0, 0) μX11_keepState 2 [.ref (gB G + 293), .int (nI (j + 1))] [] (wai m (gB G + 295) j (ai m (gB G + 294) j)) Q) :
    WP G (d + 1) (0, 0) μX11_keepState 2 [.ref (gB G + 293), .int (nI j)] [] m Q := by
  refine wp_iload_n dX11_keepState_2 rfl ?_
  refine wp_sipush (1486 : Int32) dX11_keepState_3 (by decide) ?_
  refine wp_icmp_ge 27 dX11_keepState_6 (by decide) (fun q1 => ?_) (fun q2 => ?_)
  · have hp3 : ¬ j < 1486 := (fun z => q1 (nlt_ (b := 1486) z (by omega)))
    refine wp_iconst (0 : Int32) dX11_keepState_27 (by decide) ?_
    refine wp_istore_n dX11_keepState_28 (by decide) rfl ?_
    refine wp_forget [.ref (gB G + 293), .int (0 : Int32)] ⟨Or.inl rfl, Or.inl rfl, trivial⟩ ?_
    exact e1 hp3
  · have hp4 : j < 1486 := (nlt q2 (by omega) (by omega))
    refine wp_aload_n dX11_keepState_9 rfl ?_
    refine wp_getr (gB G + 295) dX11_keepState_10 fX11_13 (ka hF 293 (by decide)) (hF.2 _ _) (rra 2 (isK_le (ka hF 293 (by decide))) (fun _ => rfl)) ?_
    refine wp_iload_n dX11_keepState_13 rfl ?_
    refine wp_aload_n dX11_keepState_14 rfl ?_
    refine wp_getr (gB G + 294) dX11_keepState_15 fX11_7 (ka hF 293 (by decide)) (hF.2 _ _) (rra 1 (isK_le (ka hF 293 (by decide))) (fun _ => rfl)) ?_
    refine wp_iload_n dX11_keepState_18 rfl ?_
    refine wp_ialdk (n := 1486) j (ai m (gB G + 294) j) dX11_keepState_19 (ka hF 294 (by decide)) (la 294) (vin (by omega) (by decide)) (nIc (by omega)) rfl ?_
    refine wp_iastk (n := 1486) j dX11_keepState_20 (ka hF 295 (by decide)) (la 295) (vin (by omega) (by decide))  (nIc (by omega)) ?_
    have hF5 := Full_wai (gB G + 295) j (ai m (gB G + 294) j) hF
    refine wp_iinc (nI (j + 1)) dX11_keepState_21 rfl (by decide) (nadd (a := j) (b := 1) (by omega)) rfl ?_
    refine wp_goto 2 dX11_keepState_24 (by decide) ?_
    refine wp_forget [.ref (gB G + 293), .int (nI (j + 1))] ⟨Or.inl rfl, Or.inl rfl, trivial⟩ ?_
    exact e2 hp4

theorem cM_ks {G : Cx} {d : Nat} {m : Mm} {Q : Option Value → Mm → Prop} {j : Nat} (hF : Full G m) (hj : j ≤ 3)
    (e1 : ¬ j < 3 → Q none m)
    (e2 : j < 3 → WP G (d + 1) (0, 0) μX11_keepState 29 [.ref (gB G + 293), .int (nI (j + 1))] [] (wal m (gB G + 298) j (al m (gB G + 297) j)) Q) :
    WP G (d + 1) (0, 0) μX11_keepState 29 [.ref (gB G + 293), .int (nI j)] [] m Q := by
  refine wp_iload_n dX11_keepState_29 rfl ?_
  refine wp_iconst (3 : Int32) dX11_keepState_30 (by decide) ?_
  refine wp_icmp_ge 52 dX11_keepState_31 (by decide) (fun q1 => ?_) (fun q2 => ?_)
  · have hp3 : ¬ j < 3 := (fun z => q1 (nlt_ (b := 3) z (by omega)))
    exact wp_vret dX11_keepState_52 rfl (e1 hp3)
  · have hp4 : j < 3 := (nlt q2 (by omega) (by omega))
    refine wp_aload_n dX11_keepState_34 rfl ?_
    refine wp_getr (gB G + 298) dX11_keepState_35 fX11_23 (ka hF 293 (by decide)) (hF.2 _ _) (rra 5 (isK_le (ka hF 293 (by decide))) (fun _ => rfl)) ?_
    refine wp_iload_n dX11_keepState_38 rfl ?_
    refine wp_aload_n dX11_keepState_39 rfl ?_
    refine wp_getr (gB G + 297) dX11_keepState_40 fX11_19 (ka hF 293 (by decide)) (hF.2 _ _) (rra 4 (isK_le (ka hF 293 (by decide))) (fun _ => rfl)) ?_
    refine wp_iload_n dX11_keepState_43 rfl ?_
    refine wp_laldk (n := 3) j (al m (gB G + 297) j) dX11_keepState_44 (ka hF 297 (by decide)) (la 297) (vin (by omega) (by decide)) (nIc (by omega)) rfl ?_
    refine wp_lastk (n := 3) j dX11_keepState_45 (ka hF 298 (by decide)) (la 298) (vin (by omega) (by decide))  (nIc (by omega)) ?_
    have hF5 := Full_wal (gB G + 298) j (al m (gB G + 297) j) hF
    refine wp_iinc (nI (j + 1)) dX11_keepState_46 rfl (by decide) (nadd (a := j) (b := 1) (by omega)) rfl ?_
    refine wp_goto 29 dX11_keepState_49 (by decide) ?_
    refine wp_forget [.ref (gB G + 293), .int (nI (j + 1))] ⟨Or.inl rfl, Or.inl rfl, trivial⟩ ?_
    exact e2 hp4

theorem eM_pb {G : Cx} {d : Nat} {m : Mm} {Q : Option Value → Mm → Prop}  (hF : Full G m) 
    (e1 : WP G (d + 1) (0, 0) μX11_putBackState 2 [.ref (gB G + 293), .int (0 : Int32)] [] m Q) :
    WPM G (d + 1) (0, 0) μX11_putBackState [.ref (gB G + 293)] m Q := by
  refine WPM.of pX11 (Nat.le_of_ble_eq_true rfl) rfl ?_
  refine wp_iconst (0 : Int32) dX11_putBackState_0 (by decide) ?_
  refine wp_istore_n dX11_putBackState_1 (by decide) rfl ?_
  refine wp_forget [.ref (gB G + 293), .int (0 : Int32)] ⟨Or.inl rfl, Or.inl rfl, trivial⟩ ?_
  exact e1

theorem bM_pb {G : Cx} {d : Nat} {m : Mm} {Q : Option Value → Mm → Prop} {j : Nat} (hF : Full G m) (hj : j ≤ 1486)
    (e1 : ¬ j < 1486 → WP G (d + 1) (0, 0) μX11_putBackState 29 [.ref (gB G + 293), .int (0 : Int32)] [] m Q)
    (e2 : j < 1486 → WP G (d + 1) (0, 0) μX11_putBackState 2 [.ref (gB G + 293), .int (nI (j + 1))] [] (wai m (gB G + 294) j (ai m (gB G + 295) j)) Q) :
    WP G (d + 1) (0, 0) μX11_putBackState 2 [.ref (gB G + 293), .int (nI j)] [] m Q := by
  refine wp_iload_n dX11_putBackState_2 rfl ?_
  refine wp_sipush (1486 : Int32) dX11_putBackState_3 (by decide) ?_
  refine wp_icmp_ge 27 dX11_putBackState_6 (by decide) (fun q1 => ?_) (fun q2 => ?_)
  · have hp3 : ¬ j < 1486 := (fun z => q1 (nlt_ (b := 1486) z (by omega)))
    refine wp_iconst (0 : Int32) dX11_putBackState_27 (by decide) ?_
    refine wp_istore_n dX11_putBackState_28 (by decide) rfl ?_
    refine wp_forget [.ref (gB G + 293), .int (0 : Int32)] ⟨Or.inl rfl, Or.inl rfl, trivial⟩ ?_
    exact e1 hp3
  · have hp4 : j < 1486 := (nlt q2 (by omega) (by omega))
    refine wp_aload_n dX11_putBackState_9 rfl ?_
    refine wp_getr (gB G + 294) dX11_putBackState_10 fX11_7 (ka hF 293 (by decide)) (hF.2 _ _) (rra 1 (isK_le (ka hF 293 (by decide))) (fun _ => rfl)) ?_
    refine wp_iload_n dX11_putBackState_13 rfl ?_
    refine wp_aload_n dX11_putBackState_14 rfl ?_
    refine wp_getr (gB G + 295) dX11_putBackState_15 fX11_13 (ka hF 293 (by decide)) (hF.2 _ _) (rra 2 (isK_le (ka hF 293 (by decide))) (fun _ => rfl)) ?_
    refine wp_iload_n dX11_putBackState_18 rfl ?_
    refine wp_ialdk (n := 1486) j (ai m (gB G + 295) j) dX11_putBackState_19 (ka hF 295 (by decide)) (la 295) (vin (by omega) (by decide)) (nIc (by omega)) rfl ?_
    refine wp_iastk (n := 1486) j dX11_putBackState_20 (ka hF 294 (by decide)) (la 294) (vin (by omega) (by decide))  (nIc (by omega)) ?_
    have hF5 := Full_wai (gB G + 294) j (ai m (gB G + 295) j) hF
    refine wp_iinc (nI (j + 1)) dX11_putBackState_21 rfl (by decide) (nadd (a := j) (b := 1) (by omega)) rfl ?_
    refine wp_goto 2 dX11_putBackState_24 (by decide) ?_
    refine wp_forget [.ref (gB G + 293), .int (nI (j + 1))] ⟨Or.inl rfl, Or.inl rfl, trivial⟩ ?_
    exact e2 hp4

theorem cM_pb {G : Cx} {d : Nat} {m : Mm} {Q : Option Value → Mm → Prop} {j : Nat} (hF : Full G m) (hj : j ≤ 3)
    (e1 : ¬ j < 3 → Q none m)
    (e2 : j < 3 → WP G (d + 1) (0, 0) μX11_putBackState 29 [.ref (gB G + 293), .int (nI (j + 1))] [] (wal m (gB G + 297) j (al m (gB G + 298) j)) Q) :
    WP G (d + 1) (0, 0) μX11_putBackState 29 [.ref (gB G + 293), .int (nI j)] [] m Q := by
  refine wp_iload_n dX11_putBackState_29 rfl ?_
  refine wp_iconst (3 : Int32) dX11_putBackState_30 (by decide) ?_
  refine wp_icmp_ge 52 dX11_putBackState_31 (by decide) (fun q1 => ?_) (fun q2 => ?_)
  · have hp3 : ¬ j < 3 := (fun z => q1 (nlt_ (b := 3) z (by omega)))
    exact wp_vret dX11_putBackState_52 rfl (e1 hp3)
  · have hp4 : j < 3 := (nlt q2 (by omega) (by omega))
    refine wp_aload_n dX11_putBackState_34 rfl ?_
    refine wp_getr (gB G + 297) dX11_putBackState_35 fX11_19 (ka hF 293 (by decide)) (hF.2 _ _) (rra 4 (isK_le (ka hF 293 (by decide))) (fun _ => rfl)) ?_
    refine wp_iload_n dX11_putBackState_38 rfl ?_
    refine wp_aload_n dX11_putBackState_39 rfl ?_
    refine wp_getr (gB G + 298) dX11_putBackState_40 fX11_23 (ka hF 293 (by decide)) (hF.2 _ _) (rra 5 (isK_le (ka hF 293 (by decide))) (fun _ => rfl)) ?_
    refine wp_iload_n dX11_putBackState_43 rfl ?_
    refine wp_laldk (n := 3) j (al m (gB G + 298) j) dX11_putBackState_44 (ka hF 298 (by decide)) (la 298) (vin (by omega) (by decide)) (nIc (by omega)) rfl ?_
    refine wp_lastk (n := 3) j dX11_putBackState_45 (ka hF 297 (by decide)) (la 297) (vin (by omega) (by decide))  (nIc (by omega)) ?_
    have hF5 := Full_wal (gB G + 297) j (al m (gB G + 298) j) hF
    refine wp_iinc (nI (j + 1)) dX11_putBackState_46 rfl (by decide) (nadd (a := j) (b := 1) (by omega)) rfl ?_
    refine wp_goto 29 dX11_putBackState_49 (by decide) ?_
    refine wp_forget [.ref (gB G + 293), .int (nI (j + 1))] ⟨Or.inl rfl, Or.inl rfl, trivial⟩ ?_
    exact e2 hp4

theorem enM_rv {G : Cx} {d : Nat} {m : Mm} {Q : Option Value → Mm → Prop} {k : Nat} (hF : Full G m) (hk : k ≤ 2000)
    (e1 : WP G (d + 8) (0, 0) μX11_runToViolation 2 [.ref (gB G + 293), .int (-1 : Int32), .int (nI k), .int (1 : Int32), lvU] [] m Q) :
    WPM G (d + 8) (0, 0) μX11_runToViolation [.ref (gB G + 293), .int (-1 : Int32), .int (nI k)] m Q := by
  refine WPM.of pX11 (Nat.le_of_ble_eq_true rfl) rfl ?_
  refine wp_iconst (1 : Int32) dX11_runToViolation_0 (by decide) ?_
  refine wp_istore_n dX11_runToViolation_1 (by decide) rfl ?_
  refine wp_forget [.ref (gB G + 293), .int (-1 : Int32), .int (nI k), .int (1 : Int32), lvU] ⟨Or.inl rfl, Or.inl rfl, Or.inl rfl, Or.inl rfl, Or.inr rfl, trivial⟩ ?_
  exact e1

theorem bnM_rv {G : Cx} {d : Nat} {m : Mm} {Q : Option Value → Mm → Prop} {k j : Nat} (hF : Full G m) (hk : k ≤ 2000) (hj : j ≤ k + 1)
    (e1 : k < j → Q (some (.int (-1 : Int32))) m)
    (e2 : ¬ k < j → WPM G (d + 7) (0, 0) μX11_step [.ref (gB G + 293)] m (fun r' m' => WP G (d + 8) (0, 0) μX11_runToViolation 11 [.ref (gB G + 293), .int (-1 : Int32), .int (nI k), .int (nI j), lvU] (r'.toList ++ []) m' Q)) :
    WP G (d + 8) (0, 0) μX11_runToViolation 2 [.ref (gB G + 293), .int (-1 : Int32), .int (nI k), .int (nI j), lvU] [] m Q := by
  refine wp_iload_n dX11_runToViolation_2 rfl ?_
  refine wp_iload_n dX11_runToViolation_3 rfl ?_
  refine wp_icmp_gt 42 dX11_runToViolation_4 (by decide) (fun q1 => ?_) (fun q2 => ?_)
  · have hp3 : k < j := (nlt q1 (by omega) (by omega))
    refine wp_iconst (-1 : Int32) dX11_runToViolation_42 (by decide) ?_
    exact wp_iret dX11_runToViolation_43 rfl (e1 hp3)
  · have hp4 : ¬ k < j := (fun z => q2 (nlt_ (b := j) z (by omega)))
    refine wp_aload_n dX11_runToViolation_7 rfl ?_
    refine wp_callV (As := []) (S := []) (b' := (0, 0)) (b := (0, 0)) dX11_runToViolation_8 MX11_182 (ka hF 293 (by decide)) rfl rfl rfl rfl (Nat.le_of_ble_eq_true rfl) ?_
    exact e2 hp4

theorem jnM_rv {G : Cx} {d : Nat} {m : Mm} {Q : Option Value → Mm → Prop} {k j : Nat} {r : Int32} (hF : Full G m) (hk : k ≤ 2000) (hj : j < k + 1)
    (e1 : r = 0 → WP G (d + 8) (0, 0) μX11_runToViolation 2 [.ref (gB G + 293), .int (-1 : Int32), .int (nI k), .int (nI (j + 1)), lvU] [] m Q)
    (e2 : ¬ r = 0 → Q (some (.int (nI j))) m) :
    WP G (d + 8) (0, 0) μX11_runToViolation 11 [.ref (gB G + 293), .int (-1 : Int32), .int (nI k), .int (nI j), lvU] [.int r] m Q := by
  refine wp_istore dX11_runToViolation_11 (by decide) rfl ?_
  refine wp_iload_n dX11_runToViolation_13 rfl ?_
  refine wp_iconst (-1 : Int32) dX11_runToViolation_14 (by decide) ?_
  refine wp_icmp_ne 26 dX11_runToViolation_15 (by decide) (fun q => absurd (by decide) q) (fun _ => ?_)
  refine wp_iload dX11_runToViolation_18 rfl ?_
  refine wp_if_eq 36 dX11_runToViolation_20 (by decide) (fun q1 => ?_) (fun q2 => ?_)
  · skip
    refine wp_iinc (nI (j + 1)) dX11_runToViolation_36 rfl (by decide) (nadd (a := j) (b := 1) (by omega)) rfl ?_
    refine wp_goto 2 dX11_runToViolation_39 (by decide) ?_
    refine wp_forget [.ref (gB G + 293), .int (-1 : Int32), .int (nI k), .int (nI (j + 1)), lvU] ⟨Or.inl rfl, Or.inl rfl, Or.inl rfl, Or.inl rfl, Or.inr rfl, trivial⟩ ?_
    exact e1 q1
  · skip
    refine wp_goto 34 dX11_runToViolation_23 (by decide) ?_
    refine wp_iload_n dX11_runToViolation_34 rfl ?_
    exact wp_iret dX11_runToViolation_35 rfl (e2 q2)

theorem nC_stv {G : Cx} {d : Nat} {m : Mm} {Q : Option Value → Mm → Prop} {y : Int32} (hF : Full G m) 
    (e1 : y < (1 : Int32) → Q (some (.int (-1000000002 : Int32))) m)
    (e2 : ¬ y < (1 : Int32) → (2000 : Int32) < y → Q (some (.int (-1000000002 : Int32))) m)
    (e3 : ¬ y < (1 : Int32) → ¬ (2000 : Int32) < y → WPM G (d + 6) (0, 0) μX0_copyFrom [.ref (gB G + 70), .ref (gB G + 1)] m (fun r' m' => WP G (d + 7) (0, 0) μX10_stepsToViolation 44 [.ref (gB G), .int (-1 : Int32), .int y, lvU, lvU] (r'.toList ++ []) m' Q)) :
    WPM G (d + 7) (0, 0) μX10_stepsToViolation [.ref (gB G), .int (-1 : Int32), .int y] m Q := by
  refine WPM.of pX10 (Nat.le_of_ble_eq_true rfl) rfl ?_
  refine wp_iload_n dX10_stepsToViolation_0 rfl ?_
  refine wp_iconst (-1 : Int32) dX10_stepsToViolation_1 (by decide) ?_
  refine wp_icmp_eq 19 dX10_stepsToViolation_2 (by decide) (fun _ => ?_) (fun q => absurd (by decide) q)
  refine wp_iload_n dX10_stepsToViolation_19 rfl ?_
  refine wp_iconst (1 : Int32) dX10_stepsToViolation_20 (by decide) ?_
  refine wp_sipush (2000 : Int32) dX10_stepsToViolation_21 (by decide) ?_
  refine wp_callS (As := [.int y, .int (1 : Int32), .int (2000 : Int32)]) (S := []) (b' := (0, 0)) (b := (0, 0)) dX10_stepsToViolation_24 MX10_35 rfl rfl (Nat.le_of_ble_eq_true rfl) ?_
  refine WPM.of pX10 (Nat.le_of_ble_eq_true rfl) rfl ?_
  refine wp_iload_n dX10_within_0 rfl ?_
  refine wp_iload_n dX10_within_1 rfl ?_
  refine wp_icmp_lt 14 dX10_within_2 (by decide) (fun q1 => ?_) (fun q2 => ?_)
  · skip
    refine wp_iconst (0 : Int32) dX10_within_14 (by decide) ?_
    refine wp_zret dX10_within_15 rfl rfl ?_
    show WP G (d + 7) (0, 0) μX10_stepsToViolation 27 [.ref (gB G), .int (-1 : Int32), .int y, lvU, lvU] [.int (0 : Int32)] m _
    refine wp_if_ne 33 dX10_stepsToViolation_27 (by decide) (fun q => absurd (by decide) q) (fun _ => ?_)
    refine wp_ldc dX10_stepsToViolation_30 kX10_42 ?_
    exact wp_iret dX10_stepsToViolation_32 rfl (e1 q1)
  · skip
    refine wp_iload_n dX10_within_5 rfl ?_
    refine wp_iload_n dX10_within_6 rfl ?_
    refine wp_icmp_gt 14 dX10_within_7 (by decide) (fun q3 => ?_) (fun q4 => ?_)
    · skip
      refine wp_iconst (0 : Int32) dX10_within_14 (by decide) ?_
      refine wp_zret dX10_within_15 rfl rfl ?_
      show WP G (d + 7) (0, 0) μX10_stepsToViolation 27 [.ref (gB G), .int (-1 : Int32), .int y, lvU, lvU] [.int (0 : Int32)] m _
      refine wp_if_ne 33 dX10_stepsToViolation_27 (by decide) (fun q => absurd (by decide) q) (fun _ => ?_)
      refine wp_ldc dX10_stepsToViolation_30 kX10_42 ?_
      exact wp_iret dX10_stepsToViolation_32 rfl (e2 q2 q3)
    · skip
      refine wp_iconst (1 : Int32) dX10_within_10 (by decide) ?_
      refine wp_goto 15 dX10_within_11 (by decide) ?_
      refine wp_zret dX10_within_15 rfl rfl ?_
      show WP G (d + 7) (0, 0) μX10_stepsToViolation 27 [.ref (gB G), .int (-1 : Int32), .int y, lvU, lvU] [.int (1 : Int32)] m _
      refine wp_if_ne 33 dX10_stepsToViolation_27 (by decide) (fun _ => ?_) (fun q => absurd q (by decide))
      refine wp_aload_n dX10_stepsToViolation_33 rfl ?_
      refine wp_getr (gB G + 70) dX10_stepsToViolation_34 fX10_16 (ka0 hF) (hF.2 _ _) (rra 70 (isK_le (ka0 hF)) (fun _ => rfl)) ?_
      refine wp_aload_n dX10_stepsToViolation_37 rfl ?_
      refine wp_getr (gB G + 1) dX10_stepsToViolation_38 fX10_10 (ka0 hF) (hF.2 _ _) (rra 1 (isK_le (ka0 hF)) (fun _ => rfl)) ?_
      refine wp_callV (As := [.ref (gB G + 1)]) (S := []) (b' := (0, 0)) (b := (0, 0)) dX10_stepsToViolation_41 MX10_254 (kc0 hF (isC2 G)) rfl rfl rfl rfl (Nat.le_of_ble_eq_true rfl) ?_
      exact e3 q2 q4

theorem cnC_stv {G : Cx} {d : Nat} {m : Mm} {Q : Option Value → Mm → Prop} {l2 : Int32} (hF : Full G m) 
    (e1 : WP G (d + 7) (0, 0) μX10_stepsToViolation 46 [.ref (gB G), .int (-1 : Int32), .int l2, .int (1 : Int32), lvU] [] m Q) :
    WP G (d + 7) (0, 0) μX10_stepsToViolation 44 [.ref (gB G), .int (-1 : Int32), .int l2, lvU, lvU] [] m Q := by
  refine wp_iconst (1 : Int32) dX10_stepsToViolation_44 (by decide) ?_
  refine wp_istore_n dX10_stepsToViolation_45 (by decide) rfl ?_
  refine wp_forget [.ref (gB G), .int (-1 : Int32), .int l2, .int (1 : Int32), lvU] ⟨Or.inl rfl, Or.inl rfl, Or.inl rfl, Or.inl rfl, Or.inr rfl, trivial⟩ ?_
  exact e1

theorem bnC_stv {G : Cx} {d : Nat} {m : Mm} {Q : Option Value → Mm → Prop} {k j : Nat} (hF : Full G m) (hk : k ≤ 2000) (hj : j ≤ k + 1)
    (e1 : k < j → Q (some (.int (-1 : Int32))) m)
    (e2 : ¬ k < j → WPM G (d + 6) (0, 0) μX0_step [.ref (gB G + 70)] m (fun r' m' => WP G (d + 7) (0, 0) μX10_stepsToViolation 58 [.ref (gB G), .int (-1 : Int32), .int (nI k), .int (nI j), lvU] (r'.toList ++ []) m' Q)) :
    WP G (d + 7) (0, 0) μX10_stepsToViolation 46 [.ref (gB G), .int (-1 : Int32), .int (nI k), .int (nI j), lvU] [] m Q := by
  refine wp_iload_n dX10_stepsToViolation_46 rfl ?_
  refine wp_iload_n dX10_stepsToViolation_47 rfl ?_
  refine wp_icmp_gt 96 dX10_stepsToViolation_48 (by decide) (fun q1 => ?_) (fun q2 => ?_)
  · have hp3 : k < j := (nlt q1 (by omega) (by omega))
    refine wp_iconst (-1 : Int32) dX10_stepsToViolation_96 (by decide) ?_
    exact wp_iret dX10_stepsToViolation_97 rfl (e1 hp3)
  · have hp4 : ¬ k < j := (fun z => q2 (nlt_ (b := j) z (by omega)))
    refine wp_aload_n dX10_stepsToViolation_51 rfl ?_
    refine wp_getr (gB G + 70) dX10_stepsToViolation_52 fX10_16 (ka0 hF) (hF.2 _ _) (rra 70 (isK_le (ka0 hF)) (fun _ => rfl)) ?_
    refine wp_callV (As := []) (S := []) (b' := (0, 0)) (b := (0, 0)) dX10_stepsToViolation_55 MX10_172 (kc0 hF (isC2 G)) rfl rfl rfl rfl (Nat.le_of_ble_eq_true rfl) ?_
    exact e2 hp4

theorem jnC_stv {G : Cx} {d : Nat} {m : Mm} {Q : Option Value → Mm → Prop} {k j : Nat} {r : Int32} (hF : Full G m) (hk : k ≤ 2000) (hj : j < k + 1)
    (e1 : r = 0 → WP G (d + 7) (0, 0) μX10_stepsToViolation 46 [.ref (gB G), .int (-1 : Int32), .int (nI k), .int (nI (j + 1)), lvU] [] m Q)
    (e2 : ¬ r = 0 → Q (some (.int (nI j))) m) :
    WP G (d + 7) (0, 0) μX10_stepsToViolation 58 [.ref (gB G), .int (-1 : Int32), .int (nI k), .int (nI j), lvU] [.int r] m Q := by
  refine wp_istore dX10_stepsToViolation_58 (by decide) rfl ?_
  refine wp_iload_n dX10_stepsToViolation_60 rfl ?_
  refine wp_iconst (-1 : Int32) dX10_stepsToViolation_61 (by decide) ?_
  refine wp_icmp_ne 73 dX10_stepsToViolation_62 (by decide) (fun q => absurd (by decide) q) (fun _ => ?_)
  refine wp_iload dX10_stepsToViolation_65 rfl ?_
  refine wp_if_eq 90 dX10_stepsToViolation_67 (by decide) (fun q1 => ?_) (fun q2 => ?_)
  · skip
    refine wp_iinc (nI (j + 1)) dX10_stepsToViolation_90 rfl (by decide) (nadd (a := j) (b := 1) (by omega)) rfl ?_
    refine wp_goto 46 dX10_stepsToViolation_93 (by decide) ?_
    refine wp_forget [.ref (gB G), .int (-1 : Int32), .int (nI k), .int (nI (j + 1)), lvU] ⟨Or.inl rfl, Or.inl rfl, Or.inl rfl, Or.inl rfl, Or.inr rfl, trivial⟩ ?_
    exact e1 q1
  · skip
    refine wp_goto 88 dX10_stepsToViolation_70 (by decide) ?_
    refine wp_iload_n dX10_stepsToViolation_88 rfl ?_
    exact wp_iret dX10_stepsToViolation_89 rfl (e2 q2)

theorem nM_stv {G : Cx} {d : Nat} {m : Mm} {Q : Option Value → Mm → Prop} {y : Int32} (hF : Full G m) 
    (e1 : y < (1 : Int32) → Q (some (.int (-1000000002 : Int32))) m)
    (e2 : ¬ y < (1 : Int32) → (2000 : Int32) < y → Q (some (.int (-1000000002 : Int32))) m)
    (e3 : ¬ y < (1 : Int32) → ¬ (2000 : Int32) < y → WPM G (d + 8) (0, 0) μX11_keepState [.ref (gB G + 293)] m (fun r' m' => WP G (d + 9) (0, 0) μX11_stepsToViolation 34 [.ref (gB G + 293), .int (-1 : Int32), .int y, lvU] (r'.toList ++ []) m' Q)) :
    WPM G (d + 9) (0, 0) μX11_stepsToViolation [.ref (gB G + 293), .int (-1 : Int32), .int y] m Q := by
  refine WPM.of pX11 (Nat.le_of_ble_eq_true rfl) rfl ?_
  refine wp_iload_n dX11_stepsToViolation_0 rfl ?_
  refine wp_iconst (-1 : Int32) dX11_stepsToViolation_1 (by decide) ?_
  refine wp_icmp_eq 16 dX11_stepsToViolation_2 (by decide) (fun _ => ?_) (fun q => absurd (by decide) q)
  refine wp_iload_n dX11_stepsToViolation_16 rfl ?_
  refine wp_iconst (1 : Int32) dX11_stepsToViolation_17 (by decide) ?_
  refine wp_sipush (2000 : Int32) dX11_stepsToViolation_18 (by decide) ?_
  refine wp_callS (As := [.int y, .int (1 : Int32), .int (2000 : Int32)]) (S := []) (b' := (0, 0)) (b := (0, 0)) dX11_stepsToViolation_21 MX11_67 rfl rfl (Nat.le_of_ble_eq_true rfl) ?_
  refine WPM.of pX11 (Nat.le_of_ble_eq_true rfl) rfl ?_
  refine wp_iload_n dX11_isBetween_0 rfl ?_
  refine wp_iload_n dX11_isBetween_1 rfl ?_
  refine wp_icmp_lt 14 dX11_isBetween_2 (by decide) (fun q1 => ?_) (fun q2 => ?_)
  · skip
    refine wp_iconst (0 : Int32) dX11_isBetween_14 (by decide) ?_
    refine wp_zret dX11_isBetween_15 rfl rfl ?_
    show WP G (d + 9) (0, 0) μX11_stepsToViolation 24 [.ref (gB G + 293), .int (-1 : Int32), .int y, lvU] [.int (0 : Int32)] m _
    refine wp_if_ne 30 dX11_stepsToViolation_24 (by decide) (fun q => absurd (by decide) q) (fun _ => ?_)
    refine wp_ldc dX11_stepsToViolation_27 kX11_79 ?_
    exact wp_iret dX11_stepsToViolation_29 rfl (e1 q1)
  · skip
    refine wp_iload_n dX11_isBetween_5 rfl ?_
    refine wp_iload_n dX11_isBetween_6 rfl ?_
    refine wp_icmp_gt 14 dX11_isBetween_7 (by decide) (fun q3 => ?_) (fun q4 => ?_)
    · skip
      refine wp_iconst (0 : Int32) dX11_isBetween_14 (by decide) ?_
      refine wp_zret dX11_isBetween_15 rfl rfl ?_
      show WP G (d + 9) (0, 0) μX11_stepsToViolation 24 [.ref (gB G + 293), .int (-1 : Int32), .int y, lvU] [.int (0 : Int32)] m _
      refine wp_if_ne 30 dX11_stepsToViolation_24 (by decide) (fun q => absurd (by decide) q) (fun _ => ?_)
      refine wp_ldc dX11_stepsToViolation_27 kX11_79 ?_
      exact wp_iret dX11_stepsToViolation_29 rfl (e2 q2 q3)
    · skip
      refine wp_iconst (1 : Int32) dX11_isBetween_10 (by decide) ?_
      refine wp_goto 15 dX11_isBetween_11 (by decide) ?_
      refine wp_zret dX11_isBetween_15 rfl rfl ?_
      show WP G (d + 9) (0, 0) μX11_stepsToViolation 24 [.ref (gB G + 293), .int (-1 : Int32), .int y, lvU] [.int (1 : Int32)] m _
      refine wp_if_ne 30 dX11_stepsToViolation_24 (by decide) (fun _ => ?_) (fun q => absurd q (by decide))
      refine wp_aload_n dX11_stepsToViolation_30 rfl ?_
      refine wp_callV (As := []) (S := []) (b' := (0, 0)) (b := (0, 0)) dX11_stepsToViolation_31 MX11_199 (ka hF 293 (by decide)) rfl rfl rfl rfl (Nat.le_of_ble_eq_true rfl) ?_
      exact e3 q2 q4

theorem cnM_stv {G : Cx} {d : Nat} {m : Mm} {Q : Option Value → Mm → Prop} {l2 : Int32} (hF : Full G m) 
    (e1 : WPM G (d + 8) (0, 0) μX11_runToViolation [.ref (gB G + 293), .int (-1 : Int32), .int l2] m (fun r' m' => WP G (d + 9) (0, 0) μX11_stepsToViolation 40 [.ref (gB G + 293), lvU, lvU, lvU] (r'.toList ++ []) m' Q)) :
    WP G (d + 9) (0, 0) μX11_stepsToViolation 34 [.ref (gB G + 293), .int (-1 : Int32), .int l2, lvU] [] m Q := by
  refine wp_aload_n dX11_stepsToViolation_34 rfl ?_
  refine wp_iload_n dX11_stepsToViolation_35 rfl ?_
  refine wp_iload_n dX11_stepsToViolation_36 rfl ?_
  refine wp_forget [.ref (gB G + 293), lvU, lvU, lvU] ⟨Or.inl rfl, Or.inr rfl, Or.inr rfl, Or.inr rfl, trivial⟩ ?_
  refine wp_callV (As := [.int (-1 : Int32), .int l2]) (S := []) (b' := (0, 0)) (b := (0, 0)) dX11_stepsToViolation_37 MX11_202 (ka hF 293 (by decide)) rfl rfl rfl rfl (Nat.le_of_ble_eq_true rfl) ?_
  exact e1

theorem dnM_stv {G : Cx} {d : Nat} {m : Mm} {Q : Option Value → Mm → Prop} {r : Int32} (hF : Full G m) 
    (e1 : WPM G (d + 8) (0, 0) μX11_putBackState [.ref (gB G + 293)] m (fun r' m' => WP G (d + 9) (0, 0) μX11_stepsToViolation 45 [lvU, lvU, lvU, .int r] (r'.toList ++ []) m' Q)) :
    WP G (d + 9) (0, 0) μX11_stepsToViolation 40 [.ref (gB G + 293), lvU, lvU, lvU] [.int r] m Q := by
  refine wp_istore_n dX11_stepsToViolation_40 (by decide) rfl ?_
  refine wp_aload_n dX11_stepsToViolation_41 rfl ?_
  refine wp_forget [lvU, lvU, lvU, .int r] ⟨Or.inr rfl, Or.inr rfl, Or.inr rfl, Or.inl rfl, trivial⟩ ?_
  refine wp_callV (As := []) (S := []) (b' := (0, 0)) (b := (0, 0)) dX11_stepsToViolation_42 MX11_205 (ka hF 293 (by decide)) rfl rfl rfl rfl (Nat.le_of_ble_eq_true rfl) ?_
  exact e1

theorem fnM_stv {G : Cx} {d : Nat} {m : Mm} {Q : Option Value → Mm → Prop} {l3 : Int32} (hF : Full G m) 
    (e1 : Q (some (.int l3)) m) :
    WP G (d + 9) (0, 0) μX11_stepsToViolation 45 [lvU, lvU, lvU, .int l3] [] m Q := by
  refine wp_iload_n dX11_stepsToViolation_45 rfl ?_
  exact wp_iret dX11_stepsToViolation_46 rfl (e1)

theorem eiM_rv {G : Cx} {d : Nat} {m : Mm} {Q : Option Value → Mm → Prop} {i : Nat} {k : Nat} (hF : Full G m) (hi12 : i < 12) (hk : k ≤ 2000)
    (e1 : WP G (d + 8) (0, 0) μX11_runToViolation 2 [.ref (gB G + 293), .int (nI i), .int (nI k), .int (1 : Int32), lvU] [] m Q) :
    WPM G (d + 8) (0, 0) μX11_runToViolation [.ref (gB G + 293), .int (nI i), .int (nI k)] m Q := by
  refine WPM.of pX11 (Nat.le_of_ble_eq_true rfl) rfl ?_
  refine wp_iconst (1 : Int32) dX11_runToViolation_0 (by decide) ?_
  refine wp_istore_n dX11_runToViolation_1 (by decide) rfl ?_
  refine wp_forget [.ref (gB G + 293), .int (nI i), .int (nI k), .int (1 : Int32), lvU] ⟨Or.inl rfl, Or.inl rfl, Or.inl rfl, Or.inl rfl, Or.inr rfl, trivial⟩ ?_
  exact e1

theorem biM_rv {G : Cx} {d : Nat} {m : Mm} {Q : Option Value → Mm → Prop} {i : Nat} {k j : Nat} (hF : Full G m) (hi12 : i < 12) (hk : k ≤ 2000) (hj : j ≤ k + 1)
    (e1 : k < j → Q (some (.int (-1 : Int32))) m)
    (e2 : ¬ k < j → WPM G (d + 7) (0, 0) μX11_step [.ref (gB G + 293)] m (fun r' m' => WP G (d + 8) (0, 0) μX11_runToViolation 11 [.ref (gB G + 293), .int (nI i), .int (nI k), .int (nI j), lvU] (r'.toList ++ []) m' Q)) :
    WP G (d + 8) (0, 0) μX11_runToViolation 2 [.ref (gB G + 293), .int (nI i), .int (nI k), .int (nI j), lvU] [] m Q := by
  refine wp_iload_n dX11_runToViolation_2 rfl ?_
  refine wp_iload_n dX11_runToViolation_3 rfl ?_
  refine wp_icmp_gt 42 dX11_runToViolation_4 (by decide) (fun q1 => ?_) (fun q2 => ?_)
  · have hp3 : k < j := (nlt q1 (by omega) (by omega))
    refine wp_iconst (-1 : Int32) dX11_runToViolation_42 (by decide) ?_
    exact wp_iret dX11_runToViolation_43 rfl (e1 hp3)
  · have hp4 : ¬ k < j := (fun z => q2 (nlt_ (b := j) z (by omega)))
    refine wp_aload_n dX11_runToViolation_7 rfl ?_
    refine wp_callV (As := []) (S := []) (b' := (0, 0)) (b := (0, 0)) dX11_runToViolation_8 MX11_182 (ka hF 293 (by decide)) rfl rfl rfl rfl (Nat.le_of_ble_eq_true rfl) ?_
    exact e2 hp4

theorem jiM_rv {G : Cx} {d : Nat} {m : Mm} {Q : Option Value → Mm → Prop} {i : Nat} {k j : Nat} {r : Int32} (hF : Full G m) (hi12 : i < 12) (hk : k ≤ 2000) (hj : j < k + 1)
    (e1 : (ai m (gB G + 294) (11 * i + 21)) < (ai m (gB G + 294) (11 * i + 25)) → Q (some (.int (nI j))) m)
    (e2 : ¬ (ai m (gB G + 294) (11 * i + 21)) < (ai m (gB G + 294) (11 * i + 25)) → ¬ (ai m (gB G + 294) (11 * i + 26)) < (ai m (gB G + 294) (11 * i + 21)) → WP G (d + 8) (0, 0) μX11_runToViolation 2 [.ref (gB G + 293), .int (nI i), .int (nI k), .int (nI (j + 1)), lvU] [] m Q)
    (e3 : ¬ (ai m (gB G + 294) (11 * i + 21)) < (ai m (gB G + 294) (11 * i + 25)) → (ai m (gB G + 294) (11 * i + 26)) < (ai m (gB G + 294) (11 * i + 21)) → Q (some (.int (nI j))) m) :
    WP G (d + 8) (0, 0) μX11_runToViolation 11 [.ref (gB G + 293), .int (nI i), .int (nI k), .int (nI j), lvU] [.int r] m Q := by
  refine wp_istore dX11_runToViolation_11 (by decide) rfl ?_
  refine wp_iload_n dX11_runToViolation_13 rfl ?_
  refine wp_iconst (-1 : Int32) dX11_runToViolation_14 (by decide) ?_
  refine wp_icmp_ne 26 dX11_runToViolation_15 (by decide) (fun _ => ?_) (fun q => absurd q (nI_ne1 (by omega)))
  refine wp_aload_n dX11_runToViolation_26 rfl ?_
  refine wp_iload_n dX11_runToViolation_27 rfl ?_
  refine wp_callV (As := [.int (nI i)]) (S := []) (b' := (0, 0)) (b := (0, 0)) dX11_runToViolation_28 MX11_163 (ka hF 293 (by decide)) rfl rfl rfl rfl (Nat.le_of_ble_eq_true rfl) ?_
  refine WPM.of pX11 (Nat.le_of_ble_eq_true rfl) rfl ?_
  refine wp_aload_n dX11_isOutside_0 rfl ?_
  refine wp_iload_n dX11_isOutside_1 rfl ?_
  refine wp_iconst (1 : Int32) dX11_isOutside_2 (by decide) ?_
  refine wp_callV (As := [.int (nI i), .int (1 : Int32)]) (S := []) (b' := (0, 0)) (b := (0, 0)) dX11_isOutside_3 MX11_89 (ka hF 293 (by decide)) rfl rfl rfl rfl (Nat.le_of_ble_eq_true rfl) ?_
  refine WPM.of pX11 (Nat.le_of_ble_eq_true rfl) rfl ?_
  refine wp_aload_n dX11_node_0 rfl ?_
  refine wp_getr (gB G + 294) dX11_node_1 fX11_7 (ka hF 293 (by decide)) (hF.2 _ _) (rra 1 (isK_le (ka hF 293 (by decide))) (fun _ => rfl)) ?_
  refine wp_bipush (20 : Int32) dX11_node_4 (by decide) ?_
  refine wp_bipush (11 : Int32) dX11_node_6 (by decide) ?_
  refine wp_iload_n dX11_node_8 rfl ?_
  refine wp_imulv (nI (11 * i)) dX11_node_9 (nmul (a := 11) (b := i) (by omega)) ?_
  refine wp_iaddv (nI (11 * i + 20)) dX11_node_10 (nadd (a := 20) (b := 11 * i) (by omega)) ?_
  refine wp_iload_n dX11_node_11 rfl ?_
  refine wp_iaddv (nI (11 * i + 21)) dX11_node_12 (nadd (a := 11 * i + 20) (b := 1) (by omega)) ?_
  refine wp_ialdk (n := 1486) (11 * i + 21) (ai m (gB G + 294) (11 * i + 21)) dX11_node_13 (ka hF 294 (by decide)) (la 294) (vin (by omega) (by decide)) (nIc (by omega)) rfl ?_
  refine wp_iret dX11_node_14 rfl ?_
  show WP G (d + 7) (0, 0) μX11_isOutside 6 [.ref (gB G + 293), .int (nI i)] [.int (ai m (gB G + 294) (11 * i + 21))] m _
  refine wp_aload_n dX11_isOutside_6 rfl ?_
  refine wp_iload_n dX11_isOutside_7 rfl ?_
  refine wp_iconst (5 : Int32) dX11_isOutside_8 (by decide) ?_
  refine wp_callV (As := [.int (nI i), .int (5 : Int32)]) (S := [.int (ai m (gB G + 294) (11 * i + 21))]) (b' := (0, 0)) (b := (0, 0)) dX11_isOutside_9 MX11_89 (ka hF 293 (by decide)) rfl rfl rfl rfl (Nat.le_of_ble_eq_true rfl) ?_
  refine WPM.of pX11 (Nat.le_of_ble_eq_true rfl) rfl ?_
  refine wp_aload_n dX11_node_0 rfl ?_
  refine wp_getr (gB G + 294) dX11_node_1 fX11_7 (ka hF 293 (by decide)) (hF.2 _ _) (rra 1 (isK_le (ka hF 293 (by decide))) (fun _ => rfl)) ?_
  refine wp_bipush (20 : Int32) dX11_node_4 (by decide) ?_
  refine wp_bipush (11 : Int32) dX11_node_6 (by decide) ?_
  refine wp_iload_n dX11_node_8 rfl ?_
  refine wp_imulv (nI (11 * i)) dX11_node_9 (nmul (a := 11) (b := i) (by omega)) ?_
  refine wp_iaddv (nI (11 * i + 20)) dX11_node_10 (nadd (a := 20) (b := 11 * i) (by omega)) ?_
  refine wp_iload_n dX11_node_11 rfl ?_
  refine wp_iaddv (nI (11 * i + 25)) dX11_node_12 (nadd (a := 11 * i + 20) (b := 5) (by omega)) ?_
  refine wp_ialdk (n := 1486) (11 * i + 25) (ai m (gB G + 294) (11 * i + 25)) dX11_node_13 (ka hF 294 (by decide)) (la 294) (vin (by omega) (by decide)) (nIc (by omega)) rfl ?_
  refine wp_iret dX11_node_14 rfl ?_
  show WP G (d + 7) (0, 0) μX11_isOutside 12 [.ref (gB G + 293), .int (nI i)] [.int (ai m (gB G + 294) (11 * i + 25)), .int (ai m (gB G + 294) (11 * i + 21))] m _
  refine wp_icmp_lt 31 dX11_isOutside_12 (by decide) (fun q1 => ?_) (fun q2 => ?_)
  · skip
    refine wp_iconst (1 : Int32) dX11_isOutside_31 (by decide) ?_
    refine wp_goto 36 dX11_isOutside_32 (by decide) ?_
    refine wp_zret dX11_isOutside_36 rfl rfl ?_
    show WP G (d + 8) (0, 0) μX11_runToViolation 31 [.ref (gB G + 293), .int (nI i), .int (nI k), .int (nI j), .int r] [.int (1 : Int32)] m _
    refine wp_if_eq 36 dX11_runToViolation_31 (by decide) (fun q => absurd q (by decide)) (fun _ => ?_)
    refine wp_iload_n dX11_runToViolation_34 rfl ?_
    exact wp_iret dX11_runToViolation_35 rfl (e1 q1)
  · skip
    refine wp_aload_n dX11_isOutside_15 rfl ?_
    refine wp_iload_n dX11_isOutside_16 rfl ?_
    refine wp_iconst (1 : Int32) dX11_isOutside_17 (by decide) ?_
    refine wp_callV (As := [.int (nI i), .int (1 : Int32)]) (S := []) (b' := (0, 0)) (b := (0, 0)) dX11_isOutside_18 MX11_89 (ka hF 293 (by decide)) rfl rfl rfl rfl (Nat.le_of_ble_eq_true rfl) ?_
    refine WPM.of pX11 (Nat.le_of_ble_eq_true rfl) rfl ?_
    refine wp_aload_n dX11_node_0 rfl ?_
    refine wp_getr (gB G + 294) dX11_node_1 fX11_7 (ka hF 293 (by decide)) (hF.2 _ _) (rra 1 (isK_le (ka hF 293 (by decide))) (fun _ => rfl)) ?_
    refine wp_bipush (20 : Int32) dX11_node_4 (by decide) ?_
    refine wp_bipush (11 : Int32) dX11_node_6 (by decide) ?_
    refine wp_iload_n dX11_node_8 rfl ?_
    refine wp_imulv (nI (11 * i)) dX11_node_9 (nmul (a := 11) (b := i) (by omega)) ?_
    refine wp_iaddv (nI (11 * i + 20)) dX11_node_10 (nadd (a := 20) (b := 11 * i) (by omega)) ?_
    refine wp_iload_n dX11_node_11 rfl ?_
    refine wp_iaddv (nI (11 * i + 21)) dX11_node_12 (nadd (a := 11 * i + 20) (b := 1) (by omega)) ?_
    refine wp_ialdk (n := 1486) (11 * i + 21) (ai m (gB G + 294) (11 * i + 21)) dX11_node_13 (ka hF 294 (by decide)) (la 294) (vin (by omega) (by decide)) (nIc (by omega)) rfl ?_
    refine wp_iret dX11_node_14 rfl ?_
    show WP G (d + 7) (0, 0) μX11_isOutside 21 [.ref (gB G + 293), .int (nI i)] [.int (ai m (gB G + 294) (11 * i + 21))] m _
    refine wp_aload_n dX11_isOutside_21 rfl ?_
    refine wp_iload_n dX11_isOutside_22 rfl ?_
    refine wp_bipush (6 : Int32) dX11_isOutside_23 (by decide) ?_
    refine wp_callV (As := [.int (nI i), .int (6 : Int32)]) (S := [.int (ai m (gB G + 294) (11 * i + 21))]) (b' := (0, 0)) (b := (0, 0)) dX11_isOutside_25 MX11_89 (ka hF 293 (by decide)) rfl rfl rfl rfl (Nat.le_of_ble_eq_true rfl) ?_
    refine WPM.of pX11 (Nat.le_of_ble_eq_true rfl) rfl ?_
    refine wp_aload_n dX11_node_0 rfl ?_
    refine wp_getr (gB G + 294) dX11_node_1 fX11_7 (ka hF 293 (by decide)) (hF.2 _ _) (rra 1 (isK_le (ka hF 293 (by decide))) (fun _ => rfl)) ?_
    refine wp_bipush (20 : Int32) dX11_node_4 (by decide) ?_
    refine wp_bipush (11 : Int32) dX11_node_6 (by decide) ?_
    refine wp_iload_n dX11_node_8 rfl ?_
    refine wp_imulv (nI (11 * i)) dX11_node_9 (nmul (a := 11) (b := i) (by omega)) ?_
    refine wp_iaddv (nI (11 * i + 20)) dX11_node_10 (nadd (a := 20) (b := 11 * i) (by omega)) ?_
    refine wp_iload_n dX11_node_11 rfl ?_
    refine wp_iaddv (nI (11 * i + 26)) dX11_node_12 (nadd (a := 11 * i + 20) (b := 6) (by omega)) ?_
    refine wp_ialdk (n := 1486) (11 * i + 26) (ai m (gB G + 294) (11 * i + 26)) dX11_node_13 (ka hF 294 (by decide)) (la 294) (vin (by omega) (by decide)) (nIc (by omega)) rfl ?_
    refine wp_iret dX11_node_14 rfl ?_
    show WP G (d + 7) (0, 0) μX11_isOutside 28 [.ref (gB G + 293), .int (nI i)] [.int (ai m (gB G + 294) (11 * i + 26)), .int (ai m (gB G + 294) (11 * i + 21))] m _
    refine wp_icmp_le 35 dX11_isOutside_28 (by decide) (fun q3 => ?_) (fun q4 => ?_)
    · skip
      refine wp_iconst (0 : Int32) dX11_isOutside_35 (by decide) ?_
      refine wp_zret dX11_isOutside_36 rfl rfl ?_
      show WP G (d + 8) (0, 0) μX11_runToViolation 31 [.ref (gB G + 293), .int (nI i), .int (nI k), .int (nI j), .int r] [.int (0 : Int32)] m _
      refine wp_if_eq 36 dX11_runToViolation_31 (by decide) (fun _ => ?_) (fun q => absurd (by decide) q)
      refine wp_iinc (nI (j + 1)) dX11_runToViolation_36 rfl (by decide) (nadd (a := j) (b := 1) (by omega)) rfl ?_
      refine wp_goto 2 dX11_runToViolation_39 (by decide) ?_
      refine wp_forget [.ref (gB G + 293), .int (nI i), .int (nI k), .int (nI (j + 1)), lvU] ⟨Or.inl rfl, Or.inl rfl, Or.inl rfl, Or.inl rfl, Or.inr rfl, trivial⟩ ?_
      exact e2 q2 q3
    · skip
      refine wp_iconst (1 : Int32) dX11_isOutside_31 (by decide) ?_
      refine wp_goto 36 dX11_isOutside_32 (by decide) ?_
      refine wp_zret dX11_isOutside_36 rfl rfl ?_
      show WP G (d + 8) (0, 0) μX11_runToViolation 31 [.ref (gB G + 293), .int (nI i), .int (nI k), .int (nI j), .int r] [.int (1 : Int32)] m _
      refine wp_if_eq 36 dX11_runToViolation_31 (by decide) (fun q => absurd q (by decide)) (fun _ => ?_)
      refine wp_iload_n dX11_runToViolation_34 rfl ?_
      exact wp_iret dX11_runToViolation_35 rfl (e3 q2 q4)

theorem iC_stv {G : Cx} {d : Nat} {m : Mm} {Q : Option Value → Mm → Prop} {i n : Nat} {y : Int32} (hF : Full G m) (hn : fi m 5 (gB G + 1) = nI (n + 1)) (hm : n + 1 ≤ 12) (hi : i < n + 1) 
    (e1 : y < (1 : Int32) → Q (some (.int (-1000000002 : Int32))) m)
    (e2 : ¬ y < (1 : Int32) → (2000 : Int32) < y → Q (some (.int (-1000000002 : Int32))) m)
    (e3 : ¬ y < (1 : Int32) → ¬ (2000 : Int32) < y → WPM G (d + 6) (0, 0) μX0_copyFrom [.ref (gB G + 70), .ref (gB G + 1)] m (fun r' m' => WP G (d + 7) (0, 0) μX10_stepsToViolation 44 [.ref (gB G), .int (nI i), .int y, lvU, lvU] (r'.toList ++ []) m' Q)) :
    WPM G (d + 7) (0, 0) μX10_stepsToViolation [.ref (gB G), .int (nI i), .int y] m Q := by
  refine WPM.of pX10 (Nat.le_of_ble_eq_true rfl) rfl ?_
  refine wp_iload_n dX10_stepsToViolation_0 rfl ?_
  refine wp_iconst (-1 : Int32) dX10_stepsToViolation_1 (by decide) ?_
  refine wp_icmp_eq 19 dX10_stepsToViolation_2 (by decide) (fun q => absurd q (nI_ne1 (by omega))) (fun _ => ?_)
  refine wp_aload_n dX10_stepsToViolation_5 rfl ?_
  refine wp_getr (gB G + 1) dX10_stepsToViolation_6 fX10_10 (ka0 hF) (hF.2 _ _) (rra 1 (isK_le (ka0 hF)) (fun _ => rfl)) ?_
  refine wp_iload_n dX10_stepsToViolation_9 rfl ?_
  refine wp_callV (As := [.int (nI i)]) (S := []) (b' := (0, 0)) (b := (0, 0)) dX10_stepsToViolation_10 MX10_58 (kc0 hF (isC1 G)) rfl rfl rfl rfl (Nat.le_of_ble_eq_true rfl) ?_
  refine WPM.of pX0 (Nat.le_of_ble_eq_true rfl) rfl ?_
  refine wp_iload_n dX0_hasNode_0 rfl ?_
  refine wp_if_lt 16 dX0_hasNode_1 (by decide) (fun q => absurd q (nI_pos (by omega))) (fun _ => ?_)
  refine wp_iload_n dX0_hasNode_4 rfl ?_
  refine wp_aload_n dX0_hasNode_5 rfl ?_
  refine wp_geti (nI (n + 1)) dX0_hasNode_6 fX0_75 (Or.inl rfl) (kc0 hF (isC1 G)) hn ?_
  refine wp_icmp_ge 16 dX0_hasNode_9 (by decide) (fun q => absurd (nlt_ (a := i) (b := n + 1) hi (by omega)) q) (fun _ => ?_)
  refine wp_iconst (1 : Int32) dX0_hasNode_12 (by decide) ?_
  refine wp_goto 17 dX0_hasNode_13 (by decide) ?_
  refine wp_zret dX0_hasNode_17 rfl rfl ?_
  show WP G (d + 7) (0, 0) μX10_stepsToViolation 13 [.ref (gB G), .int (nI i), .int y, lvU, lvU] [.int (1 : Int32)] m _
  refine wp_if_ne 19 dX10_stepsToViolation_13 (by decide) (fun _ => ?_) (fun q => absurd q (by decide))
  refine wp_iload_n dX10_stepsToViolation_19 rfl ?_
  refine wp_iconst (1 : Int32) dX10_stepsToViolation_20 (by decide) ?_
  refine wp_sipush (2000 : Int32) dX10_stepsToViolation_21 (by decide) ?_
  refine wp_callS (As := [.int y, .int (1 : Int32), .int (2000 : Int32)]) (S := []) (b' := (0, 0)) (b := (0, 0)) dX10_stepsToViolation_24 MX10_35 rfl rfl (Nat.le_of_ble_eq_true rfl) ?_
  refine WPM.of pX10 (Nat.le_of_ble_eq_true rfl) rfl ?_
  refine wp_iload_n dX10_within_0 rfl ?_
  refine wp_iload_n dX10_within_1 rfl ?_
  refine wp_icmp_lt 14 dX10_within_2 (by decide) (fun q1 => ?_) (fun q2 => ?_)
  · skip
    refine wp_iconst (0 : Int32) dX10_within_14 (by decide) ?_
    refine wp_zret dX10_within_15 rfl rfl ?_
    show WP G (d + 7) (0, 0) μX10_stepsToViolation 27 [.ref (gB G), .int (nI i), .int y, lvU, lvU] [.int (0 : Int32)] m _
    refine wp_if_ne 33 dX10_stepsToViolation_27 (by decide) (fun q => absurd (by decide) q) (fun _ => ?_)
    refine wp_ldc dX10_stepsToViolation_30 kX10_42 ?_
    exact wp_iret dX10_stepsToViolation_32 rfl (e1 q1)
  · skip
    refine wp_iload_n dX10_within_5 rfl ?_
    refine wp_iload_n dX10_within_6 rfl ?_
    refine wp_icmp_gt 14 dX10_within_7 (by decide) (fun q3 => ?_) (fun q4 => ?_)
    · skip
      refine wp_iconst (0 : Int32) dX10_within_14 (by decide) ?_
      refine wp_zret dX10_within_15 rfl rfl ?_
      show WP G (d + 7) (0, 0) μX10_stepsToViolation 27 [.ref (gB G), .int (nI i), .int y, lvU, lvU] [.int (0 : Int32)] m _
      refine wp_if_ne 33 dX10_stepsToViolation_27 (by decide) (fun q => absurd (by decide) q) (fun _ => ?_)
      refine wp_ldc dX10_stepsToViolation_30 kX10_42 ?_
      exact wp_iret dX10_stepsToViolation_32 rfl (e2 q2 q3)
    · skip
      refine wp_iconst (1 : Int32) dX10_within_10 (by decide) ?_
      refine wp_goto 15 dX10_within_11 (by decide) ?_
      refine wp_zret dX10_within_15 rfl rfl ?_
      show WP G (d + 7) (0, 0) μX10_stepsToViolation 27 [.ref (gB G), .int (nI i), .int y, lvU, lvU] [.int (1 : Int32)] m _
      refine wp_if_ne 33 dX10_stepsToViolation_27 (by decide) (fun _ => ?_) (fun q => absurd q (by decide))
      refine wp_aload_n dX10_stepsToViolation_33 rfl ?_
      refine wp_getr (gB G + 70) dX10_stepsToViolation_34 fX10_16 (ka0 hF) (hF.2 _ _) (rra 70 (isK_le (ka0 hF)) (fun _ => rfl)) ?_
      refine wp_aload_n dX10_stepsToViolation_37 rfl ?_
      refine wp_getr (gB G + 1) dX10_stepsToViolation_38 fX10_10 (ka0 hF) (hF.2 _ _) (rra 1 (isK_le (ka0 hF)) (fun _ => rfl)) ?_
      refine wp_callV (As := [.ref (gB G + 1)]) (S := []) (b' := (0, 0)) (b := (0, 0)) dX10_stepsToViolation_41 MX10_254 (kc0 hF (isC2 G)) rfl rfl rfl rfl (Nat.le_of_ble_eq_true rfl) ?_
      exact e3 q2 q4

theorem ciC_stv {G : Cx} {d : Nat} {m : Mm} {Q : Option Value → Mm → Prop} {i : Nat}  {l2 : Int32} (hF : Full G m) (hi12 : i < 12) 
    (e1 : WP G (d + 7) (0, 0) μX10_stepsToViolation 46 [.ref (gB G), .int (nI i), .int l2, .int (1 : Int32), lvU] [] m Q) :
    WP G (d + 7) (0, 0) μX10_stepsToViolation 44 [.ref (gB G), .int (nI i), .int l2, lvU, lvU] [] m Q := by
  refine wp_iconst (1 : Int32) dX10_stepsToViolation_44 (by decide) ?_
  refine wp_istore_n dX10_stepsToViolation_45 (by decide) rfl ?_
  refine wp_forget [.ref (gB G), .int (nI i), .int l2, .int (1 : Int32), lvU] ⟨Or.inl rfl, Or.inl rfl, Or.inl rfl, Or.inl rfl, Or.inr rfl, trivial⟩ ?_
  exact e1

theorem biC_stv {G : Cx} {d : Nat} {m : Mm} {Q : Option Value → Mm → Prop} {i : Nat} {k j : Nat} (hF : Full G m) (hi12 : i < 12) (hk : k ≤ 2000) (hj : j ≤ k + 1)
    (e1 : k < j → Q (some (.int (-1 : Int32))) m)
    (e2 : ¬ k < j → WPM G (d + 6) (0, 0) μX0_step [.ref (gB G + 70)] m (fun r' m' => WP G (d + 7) (0, 0) μX10_stepsToViolation 58 [.ref (gB G), .int (nI i), .int (nI k), .int (nI j), lvU] (r'.toList ++ []) m' Q)) :
    WP G (d + 7) (0, 0) μX10_stepsToViolation 46 [.ref (gB G), .int (nI i), .int (nI k), .int (nI j), lvU] [] m Q := by
  refine wp_iload_n dX10_stepsToViolation_46 rfl ?_
  refine wp_iload_n dX10_stepsToViolation_47 rfl ?_
  refine wp_icmp_gt 96 dX10_stepsToViolation_48 (by decide) (fun q1 => ?_) (fun q2 => ?_)
  · have hp3 : k < j := (nlt q1 (by omega) (by omega))
    refine wp_iconst (-1 : Int32) dX10_stepsToViolation_96 (by decide) ?_
    exact wp_iret dX10_stepsToViolation_97 rfl (e1 hp3)
  · have hp4 : ¬ k < j := (fun z => q2 (nlt_ (b := j) z (by omega)))
    refine wp_aload_n dX10_stepsToViolation_51 rfl ?_
    refine wp_getr (gB G + 70) dX10_stepsToViolation_52 fX10_16 (ka0 hF) (hF.2 _ _) (rra 70 (isK_le (ka0 hF)) (fun _ => rfl)) ?_
    refine wp_callV (As := []) (S := []) (b' := (0, 0)) (b := (0, 0)) dX10_stepsToViolation_55 MX10_172 (kc0 hF (isC2 G)) rfl rfl rfl rfl (Nat.le_of_ble_eq_true rfl) ?_
    exact e2 hp4

theorem jiC_stv {G : Cx} {d : Nat} {m : Mm} {Q : Option Value → Mm → Prop} {i : Nat} {k j : Nat} {r : Int32} (hF : Full G m) (hi12 : i < 12) (hk : k ≤ 2000) (hj : j < k + 1)
    (e1 : (fi m 401 (nd (gB G + 70) i)) < (fi m 405 (nd (gB G + 70) i)) → Q (some (.int (nI j))) m)
    (e2 : ¬ (fi m 401 (nd (gB G + 70) i)) < (fi m 405 (nd (gB G + 70) i)) → ¬ (fi m 406 (nd (gB G + 70) i)) < (fi m 401 (nd (gB G + 70) i)) → WP G (d + 7) (0, 0) μX10_stepsToViolation 46 [.ref (gB G), .int (nI i), .int (nI k), .int (nI (j + 1)), lvU] [] m Q)
    (e3 : ¬ (fi m 401 (nd (gB G + 70) i)) < (fi m 405 (nd (gB G + 70) i)) → (fi m 406 (nd (gB G + 70) i)) < (fi m 401 (nd (gB G + 70) i)) → Q (some (.int (nI j))) m) :
    WP G (d + 7) (0, 0) μX10_stepsToViolation 58 [.ref (gB G), .int (nI i), .int (nI k), .int (nI j), lvU] [.int r] m Q := by
  refine wp_istore dX10_stepsToViolation_58 (by decide) rfl ?_
  refine wp_iload_n dX10_stepsToViolation_60 rfl ?_
  refine wp_iconst (-1 : Int32) dX10_stepsToViolation_61 (by decide) ?_
  refine wp_icmp_ne 73 dX10_stepsToViolation_62 (by decide) (fun _ => ?_) (fun q => absurd q (nI_ne1 (by omega)))
  refine wp_aload_n dX10_stepsToViolation_73 rfl ?_
  refine wp_getr (gB G + 70) dX10_stepsToViolation_74 fX10_16 (ka0 hF) (hF.2 _ _) (rra 70 (isK_le (ka0 hF)) (fun _ => rfl)) ?_
  refine wp_getr ((gB G + 70) + 1) dX10_stepsToViolation_77 fX10_48 (kc0 hF (isC2 G)) (hF.2 _ _) (rra 1 (isK_le (kc0 hF (isC2 G))) (fun _ => rfl)) ?_
  refine wp_iload_n dX10_stepsToViolation_80 rfl ?_
  refine wp_raldk (n := 12) i (nd (gB G + 70) i) dX10_stepsToViolation_81 (kc hF (isC2 G) 1 (by decide)) (by decide) (by decide) (lc (isC2 G) 1 (by decide)) (vin (by omega) (by decide)) (nIc (by omega)) (hF.2 _ _) (rnd hF (isC2 G)) ?_
  refine wp_callV (As := []) (S := []) (b' := (0, 0)) (b := (0, 0)) dX10_stepsToViolation_82 MX10_258 (knd hF (isC2 G) (by omega)) rfl rfl rfl rfl (Nat.le_of_ble_eq_true rfl) ?_
  refine WPM.of pX4 (Nat.le_of_ble_eq_true rfl) rfl ?_
  refine wp_aload_n dX4_isOutside_0 rfl ?_
  refine wp_geti (fi m 401 (nd (gB G + 70) i)) dX4_isOutside_1 fX4_15 (Or.inl rfl) (knd hF (isC2 G) (by omega)) rfl ?_
  refine wp_aload_n dX4_isOutside_4 rfl ?_
  refine wp_geti (fi m 405 (nd (gB G + 70) i)) dX4_isOutside_5 fX4_28 (Or.inl rfl) (knd hF (isC2 G) (by omega)) rfl ?_
  refine wp_icmp_lt 22 dX4_isOutside_8 (by decide) (fun q1 => ?_) (fun q2 => ?_)
  · skip
    refine wp_iconst (1 : Int32) dX4_isOutside_22 (by decide) ?_
    refine wp_goto 27 dX4_isOutside_23 (by decide) ?_
    refine wp_zret dX4_isOutside_27 rfl rfl ?_
    show WP G (d + 7) (0, 0) μX10_stepsToViolation 85 [.ref (gB G), .int (nI i), .int (nI k), .int (nI j), .int r] [.int (1 : Int32)] m _
    refine wp_if_eq 90 dX10_stepsToViolation_85 (by decide) (fun q => absurd q (by decide)) (fun _ => ?_)
    refine wp_iload_n dX10_stepsToViolation_88 rfl ?_
    exact wp_iret dX10_stepsToViolation_89 rfl (e1 q1)
  · skip
    refine wp_aload_n dX4_isOutside_11 rfl ?_
    refine wp_geti (fi m 401 (nd (gB G + 70) i)) dX4_isOutside_12 fX4_15 (Or.inl rfl) (knd hF (isC2 G) (by omega)) rfl ?_
    refine wp_aload_n dX4_isOutside_15 rfl ?_
    refine wp_geti (fi m 406 (nd (gB G + 70) i)) dX4_isOutside_16 fX4_32 (Or.inl rfl) (knd hF (isC2 G) (by omega)) rfl ?_
    refine wp_icmp_le 26 dX4_isOutside_19 (by decide) (fun q3 => ?_) (fun q4 => ?_)
    · skip
      refine wp_iconst (0 : Int32) dX4_isOutside_26 (by decide) ?_
      refine wp_zret dX4_isOutside_27 rfl rfl ?_
      show WP G (d + 7) (0, 0) μX10_stepsToViolation 85 [.ref (gB G), .int (nI i), .int (nI k), .int (nI j), .int r] [.int (0 : Int32)] m _
      refine wp_if_eq 90 dX10_stepsToViolation_85 (by decide) (fun _ => ?_) (fun q => absurd (by decide) q)
      refine wp_iinc (nI (j + 1)) dX10_stepsToViolation_90 rfl (by decide) (nadd (a := j) (b := 1) (by omega)) rfl ?_
      refine wp_goto 46 dX10_stepsToViolation_93 (by decide) ?_
      refine wp_forget [.ref (gB G), .int (nI i), .int (nI k), .int (nI (j + 1)), lvU] ⟨Or.inl rfl, Or.inl rfl, Or.inl rfl, Or.inl rfl, Or.inr rfl, trivial⟩ ?_
      exact e2 q2 q3
    · skip
      refine wp_iconst (1 : Int32) dX4_isOutside_22 (by decide) ?_
      refine wp_goto 27 dX4_isOutside_23 (by decide) ?_
      refine wp_zret dX4_isOutside_27 rfl rfl ?_
      show WP G (d + 7) (0, 0) μX10_stepsToViolation 85 [.ref (gB G), .int (nI i), .int (nI k), .int (nI j), .int r] [.int (1 : Int32)] m _
      refine wp_if_eq 90 dX10_stepsToViolation_85 (by decide) (fun q => absurd q (by decide)) (fun _ => ?_)
      refine wp_iload_n dX10_stepsToViolation_88 rfl ?_
      exact wp_iret dX10_stepsToViolation_89 rfl (e3 q2 q4)

theorem iM_stv {G : Cx} {d : Nat} {m : Mm} {Q : Option Value → Mm → Prop} {i n : Nat} {y : Int32} (hF : Full G m) (hn : ai m (gB G + 294) 12 = nI (n + 1)) (hm : n + 1 ≤ 12) (hi : i < n + 1) 
    (e1 : y < (1 : Int32) → Q (some (.int (-1000000002 : Int32))) m)
    (e2 : ¬ y < (1 : Int32) → (2000 : Int32) < y → Q (some (.int (-1000000002 : Int32))) m)
    (e3 : ¬ y < (1 : Int32) → ¬ (2000 : Int32) < y → WPM G (d + 8) (0, 0) μX11_keepState [.ref (gB G + 293)] m (fun r' m' => WP G (d + 9) (0, 0) μX11_stepsToViolation 34 [.ref (gB G + 293), .int (nI i), .int y, lvU] (r'.toList ++ []) m' Q)) :
    WPM G (d + 9) (0, 0) μX11_stepsToViolation [.ref (gB G + 293), .int (nI i), .int y] m Q := by
  refine WPM.of pX11 (Nat.le_of_ble_eq_true rfl) rfl ?_
  refine wp_iload_n dX11_stepsToViolation_0 rfl ?_
  refine wp_iconst (-1 : Int32) dX11_stepsToViolation_1 (by decide) ?_
  refine wp_icmp_eq 16 dX11_stepsToViolation_2 (by decide) (fun q => absurd q (nI_ne1 (by omega))) (fun _ => ?_)
  refine wp_aload_n dX11_stepsToViolation_5 rfl ?_
  refine wp_iload_n dX11_stepsToViolation_6 rfl ?_
  refine wp_callV (As := [.int (nI i)]) (S := []) (b' := (0, 0)) (b := (0, 0)) dX11_stepsToViolation_7 MX11_93 (ka hF 293 (by decide)) rfl rfl rfl rfl (Nat.le_of_ble_eq_true rfl) ?_
  refine WPM.of pX11 (Nat.le_of_ble_eq_true rfl) rfl ?_
  refine wp_iload_n dX11_isNode_0 rfl ?_
  refine wp_iconst (0 : Int32) dX11_isNode_1 (by decide) ?_
  refine wp_aload_n dX11_isNode_2 rfl ?_
  refine wp_getr (gB G + 294) dX11_isNode_3 fX11_7 (ka hF 293 (by decide)) (hF.2 _ _) (rra 1 (isK_le (ka hF 293 (by decide))) (fun _ => rfl)) ?_
  refine wp_bipush (12 : Int32) dX11_isNode_6 (by decide) ?_
  refine wp_ialdk (n := 1486) 12 (nI (n + 1)) dX11_isNode_8 (ka hF 294 (by decide)) (la 294) (vinl (by decide)) rfl hn ?_
  refine wp_iconst (1 : Int32) dX11_isNode_9 (by decide) ?_
  refine wp_isubv (nI n) dX11_isNode_10 (nsub (a := n + 1) (b := 1) (by omega)) ?_
  refine wp_callS (As := [.int (nI i), .int (0 : Int32), .int (nI n)]) (S := []) (b' := (0, 0)) (b := (0, 0)) dX11_isNode_11 MX11_67 rfl rfl (Nat.le_of_ble_eq_true rfl) ?_
  refine WPM.of pX11 (Nat.le_of_ble_eq_true rfl) rfl ?_
  refine wp_iload_n dX11_isBetween_0 rfl ?_
  refine wp_iload_n dX11_isBetween_1 rfl ?_
  refine wp_icmp_lt 14 dX11_isBetween_2 (by decide) (fun q => absurd q (nI_pos (by omega))) (fun _ => ?_)
  refine wp_iload_n dX11_isBetween_5 rfl ?_
  refine wp_iload_n dX11_isBetween_6 rfl ?_
  refine wp_icmp_gt 14 dX11_isBetween_7 (by decide) (fun q => absurd q (fun z => (show ¬ n < i by omega) (nlt (a := n) (b := i) z (by omega) (by omega)))) (fun _ => ?_)
  refine wp_iconst (1 : Int32) dX11_isBetween_10 (by decide) ?_
  refine wp_goto 15 dX11_isBetween_11 (by decide) ?_
  refine wp_zret dX11_isBetween_15 rfl rfl ?_
  show WP G (d + 8) (0, 0) μX11_isNode 14 [.ref (gB G + 293), .int (nI i)] [.int (1 : Int32)] m _
  refine wp_zret dX11_isNode_14 rfl rfl ?_
  show WP G (d + 9) (0, 0) μX11_stepsToViolation 10 [.ref (gB G + 293), .int (nI i), .int y, lvU] [.int (1 : Int32)] m _
  refine wp_if_ne 16 dX11_stepsToViolation_10 (by decide) (fun _ => ?_) (fun q => absurd q (by decide))
  refine wp_iload_n dX11_stepsToViolation_16 rfl ?_
  refine wp_iconst (1 : Int32) dX11_stepsToViolation_17 (by decide) ?_
  refine wp_sipush (2000 : Int32) dX11_stepsToViolation_18 (by decide) ?_
  refine wp_callS (As := [.int y, .int (1 : Int32), .int (2000 : Int32)]) (S := []) (b' := (0, 0)) (b := (0, 0)) dX11_stepsToViolation_21 MX11_67 rfl rfl (Nat.le_of_ble_eq_true rfl) ?_
  refine WPM.of pX11 (Nat.le_of_ble_eq_true rfl) rfl ?_
  refine wp_iload_n dX11_isBetween_0 rfl ?_
  refine wp_iload_n dX11_isBetween_1 rfl ?_
  refine wp_icmp_lt 14 dX11_isBetween_2 (by decide) (fun q1 => ?_) (fun q2 => ?_)
  · skip
    refine wp_iconst (0 : Int32) dX11_isBetween_14 (by decide) ?_
    refine wp_zret dX11_isBetween_15 rfl rfl ?_
    show WP G (d + 9) (0, 0) μX11_stepsToViolation 24 [.ref (gB G + 293), .int (nI i), .int y, lvU] [.int (0 : Int32)] m _
    refine wp_if_ne 30 dX11_stepsToViolation_24 (by decide) (fun q => absurd (by decide) q) (fun _ => ?_)
    refine wp_ldc dX11_stepsToViolation_27 kX11_79 ?_
    exact wp_iret dX11_stepsToViolation_29 rfl (e1 q1)
  · skip
    refine wp_iload_n dX11_isBetween_5 rfl ?_
    refine wp_iload_n dX11_isBetween_6 rfl ?_
    refine wp_icmp_gt 14 dX11_isBetween_7 (by decide) (fun q3 => ?_) (fun q4 => ?_)
    · skip
      refine wp_iconst (0 : Int32) dX11_isBetween_14 (by decide) ?_
      refine wp_zret dX11_isBetween_15 rfl rfl ?_
      show WP G (d + 9) (0, 0) μX11_stepsToViolation 24 [.ref (gB G + 293), .int (nI i), .int y, lvU] [.int (0 : Int32)] m _
      refine wp_if_ne 30 dX11_stepsToViolation_24 (by decide) (fun q => absurd (by decide) q) (fun _ => ?_)
      refine wp_ldc dX11_stepsToViolation_27 kX11_79 ?_
      exact wp_iret dX11_stepsToViolation_29 rfl (e2 q2 q3)
    · skip
      refine wp_iconst (1 : Int32) dX11_isBetween_10 (by decide) ?_
      refine wp_goto 15 dX11_isBetween_11 (by decide) ?_
      refine wp_zret dX11_isBetween_15 rfl rfl ?_
      show WP G (d + 9) (0, 0) μX11_stepsToViolation 24 [.ref (gB G + 293), .int (nI i), .int y, lvU] [.int (1 : Int32)] m _
      refine wp_if_ne 30 dX11_stepsToViolation_24 (by decide) (fun _ => ?_) (fun q => absurd q (by decide))
      refine wp_aload_n dX11_stepsToViolation_30 rfl ?_
      refine wp_callV (As := []) (S := []) (b' := (0, 0)) (b := (0, 0)) dX11_stepsToViolation_31 MX11_199 (ka hF 293 (by decide)) rfl rfl rfl rfl (Nat.le_of_ble_eq_true rfl) ?_
      exact e3 q2 q4

theorem ciM_stv {G : Cx} {d : Nat} {m : Mm} {Q : Option Value → Mm → Prop} {i : Nat}  {l2 : Int32} (hF : Full G m) (hi12 : i < 12) 
    (e1 : WPM G (d + 8) (0, 0) μX11_runToViolation [.ref (gB G + 293), .int (nI i), .int l2] m (fun r' m' => WP G (d + 9) (0, 0) μX11_stepsToViolation 40 [.ref (gB G + 293), lvU, lvU, lvU] (r'.toList ++ []) m' Q)) :
    WP G (d + 9) (0, 0) μX11_stepsToViolation 34 [.ref (gB G + 293), .int (nI i), .int l2, lvU] [] m Q := by
  refine wp_aload_n dX11_stepsToViolation_34 rfl ?_
  refine wp_iload_n dX11_stepsToViolation_35 rfl ?_
  refine wp_iload_n dX11_stepsToViolation_36 rfl ?_
  refine wp_forget [.ref (gB G + 293), lvU, lvU, lvU] ⟨Or.inl rfl, Or.inr rfl, Or.inr rfl, Or.inr rfl, trivial⟩ ?_
  refine wp_callV (As := [.int (nI i), .int l2]) (S := []) (b' := (0, 0)) (b := (0, 0)) dX11_stepsToViolation_37 MX11_202 (ka hF 293 (by decide)) rfl rfl rfl rfl (Nat.le_of_ble_eq_true rfl) ?_
  exact e1

theorem diM_stv {G : Cx} {d : Nat} {m : Mm} {Q : Option Value → Mm → Prop} {r : Int32} (hF : Full G m) 
    (e1 : WPM G (d + 8) (0, 0) μX11_putBackState [.ref (gB G + 293)] m (fun r' m' => WP G (d + 9) (0, 0) μX11_stepsToViolation 45 [lvU, lvU, lvU, .int r] (r'.toList ++ []) m' Q)) :
    WP G (d + 9) (0, 0) μX11_stepsToViolation 40 [.ref (gB G + 293), lvU, lvU, lvU] [.int r] m Q := by
  refine wp_istore_n dX11_stepsToViolation_40 (by decide) rfl ?_
  refine wp_aload_n dX11_stepsToViolation_41 rfl ?_
  refine wp_forget [lvU, lvU, lvU, .int r] ⟨Or.inr rfl, Or.inr rfl, Or.inr rfl, Or.inl rfl, trivial⟩ ?_
  refine wp_callV (As := []) (S := []) (b' := (0, 0)) (b := (0, 0)) dX11_stepsToViolation_42 MX11_205 (ka hF 293 (by decide)) rfl rfl rfl rfl (Nat.le_of_ble_eq_true rfl) ?_
  exact e1

theorem fiM_stv {G : Cx} {d : Nat} {m : Mm} {Q : Option Value → Mm → Prop} {l3 : Int32} (hF : Full G m) 
    (e1 : Q (some (.int l3)) m) :
    WP G (d + 9) (0, 0) μX11_stepsToViolation 45 [lvU, lvU, lvU, .int l3] [] m Q := by
  refine wp_iload_n dX11_stepsToViolation_45 rfl ?_
  exact wp_iret dX11_stepsToViolation_46 rfl (e1)

theorem aC_stv {G : Cx} {d : Nat} {m : Mm} {Q : Option Value → Mm → Prop} {x y : Int32} {n : Nat} (hF : Full G m) (hn : fi m 5 (gB G + 1) = nI n) (hm : n ≤ 12) (hx : x < 0) (hx1 : ¬ x = -1) 
    (e1 : Q (some (.int (-1000000001 : Int32))) m) :
    WPM G (d + 7) (0, 0) μX10_stepsToViolation [.ref (gB G), .int x, .int y] m Q := by
  refine WPM.of pX10 (Nat.le_of_ble_eq_true rfl) rfl ?_
  refine wp_iload_n dX10_stepsToViolation_0 rfl ?_
  refine wp_iconst (-1 : Int32) dX10_stepsToViolation_1 (by decide) ?_
  refine wp_icmp_eq 19 dX10_stepsToViolation_2 (by decide) (fun q => absurd q hx1) (fun _ => ?_)
  refine wp_aload_n dX10_stepsToViolation_5 rfl ?_
  refine wp_getr (gB G + 1) dX10_stepsToViolation_6 fX10_10 (ka0 hF) (hF.2 _ _) (rra 1 (isK_le (ka0 hF)) (fun _ => rfl)) ?_
  refine wp_iload_n dX10_stepsToViolation_9 rfl ?_
  refine wp_callV (As := [.int x]) (S := []) (b' := (0, 0)) (b := (0, 0)) dX10_stepsToViolation_10 MX10_58 (kc0 hF (isC1 G)) rfl rfl rfl rfl (Nat.le_of_ble_eq_true rfl) ?_
  refine WPM.of pX0 (Nat.le_of_ble_eq_true rfl) rfl ?_
  refine wp_iload_n dX0_hasNode_0 rfl ?_
  refine wp_if_lt 16 dX0_hasNode_1 (by decide) (fun _ => ?_) (fun q => absurd hx q)
  refine wp_iconst (0 : Int32) dX0_hasNode_16 (by decide) ?_
  refine wp_zret dX0_hasNode_17 rfl rfl ?_
  show WP G (d + 7) (0, 0) μX10_stepsToViolation 13 [.ref (gB G), .int x, .int y, lvU, lvU] [.int (0 : Int32)] m _
  refine wp_if_ne 19 dX10_stepsToViolation_13 (by decide) (fun q => absurd (by decide) q) (fun _ => ?_)
  refine wp_ldc dX10_stepsToViolation_16 kX10_62 ?_
  exact wp_iret dX10_stepsToViolation_18 rfl (e1)

theorem bC_stv {G : Cx} {d : Nat} {m : Mm} {Q : Option Value → Mm → Prop} {x y : Int32} {n : Nat} (hF : Full G m) (hn : fi m 5 (gB G + 1) = nI n) (hm : n ≤ 12) (hxa : ¬ x < 0) (hxb : ¬ x < nI n) (hx1 : ¬ x = -1) 
    (e1 : Q (some (.int (-1000000001 : Int32))) m) :
    WPM G (d + 7) (0, 0) μX10_stepsToViolation [.ref (gB G), .int x, .int y] m Q := by
  refine WPM.of pX10 (Nat.le_of_ble_eq_true rfl) rfl ?_
  refine wp_iload_n dX10_stepsToViolation_0 rfl ?_
  refine wp_iconst (-1 : Int32) dX10_stepsToViolation_1 (by decide) ?_
  refine wp_icmp_eq 19 dX10_stepsToViolation_2 (by decide) (fun q => absurd q hx1) (fun _ => ?_)
  refine wp_aload_n dX10_stepsToViolation_5 rfl ?_
  refine wp_getr (gB G + 1) dX10_stepsToViolation_6 fX10_10 (ka0 hF) (hF.2 _ _) (rra 1 (isK_le (ka0 hF)) (fun _ => rfl)) ?_
  refine wp_iload_n dX10_stepsToViolation_9 rfl ?_
  refine wp_callV (As := [.int x]) (S := []) (b' := (0, 0)) (b := (0, 0)) dX10_stepsToViolation_10 MX10_58 (kc0 hF (isC1 G)) rfl rfl rfl rfl (Nat.le_of_ble_eq_true rfl) ?_
  refine WPM.of pX0 (Nat.le_of_ble_eq_true rfl) rfl ?_
  refine wp_iload_n dX0_hasNode_0 rfl ?_
  refine wp_if_lt 16 dX0_hasNode_1 (by decide) (fun q => absurd q hxa) (fun _ => ?_)
  refine wp_iload_n dX0_hasNode_4 rfl ?_
  refine wp_aload_n dX0_hasNode_5 rfl ?_
  refine wp_geti (nI n) dX0_hasNode_6 fX0_75 (Or.inl rfl) (kc0 hF (isC1 G)) hn ?_
  refine wp_icmp_ge 16 dX0_hasNode_9 (by decide) (fun _ => ?_) (fun q => absurd q hxb)
  refine wp_iconst (0 : Int32) dX0_hasNode_16 (by decide) ?_
  refine wp_zret dX0_hasNode_17 rfl rfl ?_
  show WP G (d + 7) (0, 0) μX10_stepsToViolation 13 [.ref (gB G), .int x, .int y, lvU, lvU] [.int (0 : Int32)] m _
  refine wp_if_ne 19 dX10_stepsToViolation_13 (by decide) (fun q => absurd (by decide) q) (fun _ => ?_)
  refine wp_ldc dX10_stepsToViolation_16 kX10_62 ?_
  exact wp_iret dX10_stepsToViolation_18 rfl (e1)

theorem aM_stv {G : Cx} {d : Nat} {m : Mm} {Q : Option Value → Mm → Prop} {x y : Int32} {n : Nat} (hF : Full G m) (hn : ai m (gB G + 294) 12 = nI n) (hm : n ≤ 12) (hx : x < 0) (hx1 : ¬ x = -1) 
    (e1 : Q (some (.int (-1000000001 : Int32))) m) :
    WPM G (d + 9) (0, 0) μX11_stepsToViolation [.ref (gB G + 293), .int x, .int y] m Q := by
  refine WPM.of pX11 (Nat.le_of_ble_eq_true rfl) rfl ?_
  refine wp_iload_n dX11_stepsToViolation_0 rfl ?_
  refine wp_iconst (-1 : Int32) dX11_stepsToViolation_1 (by decide) ?_
  refine wp_icmp_eq 16 dX11_stepsToViolation_2 (by decide) (fun q => absurd q hx1) (fun _ => ?_)
  refine wp_aload_n dX11_stepsToViolation_5 rfl ?_
  refine wp_iload_n dX11_stepsToViolation_6 rfl ?_
  refine wp_callV (As := [.int x]) (S := []) (b' := (0, 0)) (b := (0, 0)) dX11_stepsToViolation_7 MX11_93 (ka hF 293 (by decide)) rfl rfl rfl rfl (Nat.le_of_ble_eq_true rfl) ?_
  refine WPM.of pX11 (Nat.le_of_ble_eq_true rfl) rfl ?_
  refine wp_iload_n dX11_isNode_0 rfl ?_
  refine wp_iconst (0 : Int32) dX11_isNode_1 (by decide) ?_
  refine wp_aload_n dX11_isNode_2 rfl ?_
  refine wp_getr (gB G + 294) dX11_isNode_3 fX11_7 (ka hF 293 (by decide)) (hF.2 _ _) (rra 1 (isK_le (ka hF 293 (by decide))) (fun _ => rfl)) ?_
  refine wp_bipush (12 : Int32) dX11_isNode_6 (by decide) ?_
  refine wp_ialdk (n := 1486) 12 (nI n) dX11_isNode_8 (ka hF 294 (by decide)) (la 294) (vinl (by decide)) rfl hn ?_
  refine wp_iconst (1 : Int32) dX11_isNode_9 (by decide) ?_
  refine wp_isubv ((nI n) - (1 : Int32)) dX11_isNode_10 rfl ?_
  refine wp_callS (As := [.int x, .int (0 : Int32), .int ((nI n) - (1 : Int32))]) (S := []) (b' := (0, 0)) (b := (0, 0)) dX11_isNode_11 MX11_67 rfl rfl (Nat.le_of_ble_eq_true rfl) ?_
  refine WPM.of pX11 (Nat.le_of_ble_eq_true rfl) rfl ?_
  refine wp_iload_n dX11_isBetween_0 rfl ?_
  refine wp_iload_n dX11_isBetween_1 rfl ?_
  refine wp_icmp_lt 14 dX11_isBetween_2 (by decide) (fun _ => ?_) (fun q => absurd hx q)
  refine wp_iconst (0 : Int32) dX11_isBetween_14 (by decide) ?_
  refine wp_zret dX11_isBetween_15 rfl rfl ?_
  show WP G (d + 8) (0, 0) μX11_isNode 14 [.ref (gB G + 293), .int x] [.int (0 : Int32)] m _
  refine wp_zret dX11_isNode_14 rfl rfl ?_
  show WP G (d + 9) (0, 0) μX11_stepsToViolation 10 [.ref (gB G + 293), .int x, .int y, lvU] [.int (0 : Int32)] m _
  refine wp_if_ne 16 dX11_stepsToViolation_10 (by decide) (fun q => absurd (by decide) q) (fun _ => ?_)
  refine wp_ldc dX11_stepsToViolation_13 kX11_96 ?_
  exact wp_iret dX11_stepsToViolation_15 rfl (e1)

theorem bM_stv {G : Cx} {d : Nat} {m : Mm} {Q : Option Value → Mm → Prop} {x y : Int32} {n : Nat} (hF : Full G m) (hn : ai m (gB G + 294) 12 = nI n) (hm : n ≤ 12) (hxa : ¬ x < 0) (hxb : ¬ x < nI n) (hx1 : ¬ x = -1) 
    (e1 : Q (some (.int (-1000000001 : Int32))) m) :
    WPM G (d + 9) (0, 0) μX11_stepsToViolation [.ref (gB G + 293), .int x, .int y] m Q := by
  refine WPM.of pX11 (Nat.le_of_ble_eq_true rfl) rfl ?_
  refine wp_iload_n dX11_stepsToViolation_0 rfl ?_
  refine wp_iconst (-1 : Int32) dX11_stepsToViolation_1 (by decide) ?_
  refine wp_icmp_eq 16 dX11_stepsToViolation_2 (by decide) (fun q => absurd q hx1) (fun _ => ?_)
  refine wp_aload_n dX11_stepsToViolation_5 rfl ?_
  refine wp_iload_n dX11_stepsToViolation_6 rfl ?_
  refine wp_callV (As := [.int x]) (S := []) (b' := (0, 0)) (b := (0, 0)) dX11_stepsToViolation_7 MX11_93 (ka hF 293 (by decide)) rfl rfl rfl rfl (Nat.le_of_ble_eq_true rfl) ?_
  refine WPM.of pX11 (Nat.le_of_ble_eq_true rfl) rfl ?_
  refine wp_iload_n dX11_isNode_0 rfl ?_
  refine wp_iconst (0 : Int32) dX11_isNode_1 (by decide) ?_
  refine wp_aload_n dX11_isNode_2 rfl ?_
  refine wp_getr (gB G + 294) dX11_isNode_3 fX11_7 (ka hF 293 (by decide)) (hF.2 _ _) (rra 1 (isK_le (ka hF 293 (by decide))) (fun _ => rfl)) ?_
  refine wp_bipush (12 : Int32) dX11_isNode_6 (by decide) ?_
  refine wp_ialdk (n := 1486) 12 (nI n) dX11_isNode_8 (ka hF 294 (by decide)) (la 294) (vinl (by decide)) rfl hn ?_
  refine wp_iconst (1 : Int32) dX11_isNode_9 (by decide) ?_
  refine wp_isubv ((nI n) - (1 : Int32)) dX11_isNode_10 rfl ?_
  refine wp_callS (As := [.int x, .int (0 : Int32), .int ((nI n) - (1 : Int32))]) (S := []) (b' := (0, 0)) (b := (0, 0)) dX11_isNode_11 MX11_67 rfl rfl (Nat.le_of_ble_eq_true rfl) ?_
  refine WPM.of pX11 (Nat.le_of_ble_eq_true rfl) rfl ?_
  refine wp_iload_n dX11_isBetween_0 rfl ?_
  refine wp_iload_n dX11_isBetween_1 rfl ?_
  refine wp_icmp_lt 14 dX11_isBetween_2 (by decide) (fun q => absurd q hxa) (fun _ => ?_)
  refine wp_iload_n dX11_isBetween_5 rfl ?_
  refine wp_iload_n dX11_isBetween_6 rfl ?_
  refine wp_icmp_gt 14 dX11_isBetween_7 (by decide) (fun _ => ?_) (fun q => absurd (sub_lt (by omega) hxa hxb) q)
  refine wp_iconst (0 : Int32) dX11_isBetween_14 (by decide) ?_
  refine wp_zret dX11_isBetween_15 rfl rfl ?_
  show WP G (d + 8) (0, 0) μX11_isNode 14 [.ref (gB G + 293), .int x] [.int (0 : Int32)] m _
  refine wp_zret dX11_isNode_14 rfl rfl ?_
  show WP G (d + 9) (0, 0) μX11_stepsToViolation 10 [.ref (gB G + 293), .int x, .int y, lvU] [.int (0 : Int32)] m _
  refine wp_if_ne 16 dX11_stepsToViolation_10 (by decide) (fun q => absurd (by decide) q) (fun _ => ?_)
  refine wp_ldc dX11_stepsToViolation_13 kX11_96 ?_
  exact wp_iret dX11_stepsToViolation_15 rfl (e1)

theorem iC_ext0 {G : Cx} {d : Nat} {m : Mm} {Q : Option Value → Mm → Prop} {i n : Nat} {y : Int32} (hF : Full G m) (hn : fi m 5 (gB G + 1) = nI (n + 1)) (hm : n + 1 ≤ 12) (hi : i < n + 1) 
    (e1 : y < (1 : Int32) → Q (some (.int (-1000000002 : Int32))) m)
    (e2 : ¬ y < (1 : Int32) → (2000 : Int32) < y → Q (some (.int (-1000000002 : Int32))) m)
    (e3 : ¬ y < (1 : Int32) → ¬ (2000 : Int32) < y → WPM G (d + 6) (0, 0) μX0_copyFrom [.ref (gB G + 70), .ref (gB G + 1)] m (fun r' m' => WP G (d + 7) (0, 0) μX10_extremeAhead 39 [.ref (gB G), .int (nI i), .int y, .int (0 : Int32), lvU, lvU, lvU] (r'.toList ++ []) m' Q)) :
    WPM G (d + 7) (0, 0) μX10_extremeAhead [.ref (gB G), .int (nI i), .int y, .int (0 : Int32)] m Q := by
  refine WPM.of pX10 (Nat.le_of_ble_eq_true rfl) rfl ?_
  refine wp_aload_n dX10_extremeAhead_0 rfl ?_
  refine wp_getr (gB G + 1) dX10_extremeAhead_1 fX10_10 (ka0 hF) (hF.2 _ _) (rra 1 (isK_le (ka0 hF)) (fun _ => rfl)) ?_
  refine wp_iload_n dX10_extremeAhead_4 rfl ?_
  refine wp_callV (As := [.int (nI i)]) (S := []) (b' := (0, 0)) (b := (0, 0)) dX10_extremeAhead_5 MX10_58 (kc0 hF (isC1 G)) rfl rfl rfl rfl (Nat.le_of_ble_eq_true rfl) ?_
  refine WPM.of pX0 (Nat.le_of_ble_eq_true rfl) rfl ?_
  refine wp_iload_n dX0_hasNode_0 rfl ?_
  refine wp_if_lt 16 dX0_hasNode_1 (by decide) (fun q => absurd q (nI_pos (by omega))) (fun _ => ?_)
  refine wp_iload_n dX0_hasNode_4 rfl ?_
  refine wp_aload_n dX0_hasNode_5 rfl ?_
  refine wp_geti (nI (n + 1)) dX0_hasNode_6 fX0_75 (Or.inl rfl) (kc0 hF (isC1 G)) hn ?_
  refine wp_icmp_ge 16 dX0_hasNode_9 (by decide) (fun q => absurd (nlt_ (a := i) (b := n + 1) hi (by omega)) q) (fun _ => ?_)
  refine wp_iconst (1 : Int32) dX0_hasNode_12 (by decide) ?_
  refine wp_goto 17 dX0_hasNode_13 (by decide) ?_
  refine wp_zret dX0_hasNode_17 rfl rfl ?_
  show WP G (d + 7) (0, 0) μX10_extremeAhead 8 [.ref (gB G), .int (nI i), .int y, .int (0 : Int32), lvU, lvU, lvU] [.int (1 : Int32)] m _
  refine wp_if_ne 14 dX10_extremeAhead_8 (by decide) (fun _ => ?_) (fun q => absurd q (by decide))
  refine wp_iload_n dX10_extremeAhead_14 rfl ?_
  refine wp_iconst (1 : Int32) dX10_extremeAhead_15 (by decide) ?_
  refine wp_sipush (2000 : Int32) dX10_extremeAhead_16 (by decide) ?_
  refine wp_callS (As := [.int y, .int (1 : Int32), .int (2000 : Int32)]) (S := []) (b' := (0, 0)) (b := (0, 0)) dX10_extremeAhead_19 MX10_35 rfl rfl (Nat.le_of_ble_eq_true rfl) ?_
  refine WPM.of pX10 (Nat.le_of_ble_eq_true rfl) rfl ?_
  refine wp_iload_n dX10_within_0 rfl ?_
  refine wp_iload_n dX10_within_1 rfl ?_
  refine wp_icmp_lt 14 dX10_within_2 (by decide) (fun q1 => ?_) (fun q2 => ?_)
  · skip
    refine wp_iconst (0 : Int32) dX10_within_14 (by decide) ?_
    refine wp_zret dX10_within_15 rfl rfl ?_
    show WP G (d + 7) (0, 0) μX10_extremeAhead 22 [.ref (gB G), .int (nI i), .int y, .int (0 : Int32), lvU, lvU, lvU] [.int (0 : Int32)] m _
    refine wp_if_ne 28 dX10_extremeAhead_22 (by decide) (fun q => absurd (by decide) q) (fun _ => ?_)
    refine wp_ldc dX10_extremeAhead_25 kX10_42 ?_
    exact wp_iret dX10_extremeAhead_27 rfl (e1 q1)
  · skip
    refine wp_iload_n dX10_within_5 rfl ?_
    refine wp_iload_n dX10_within_6 rfl ?_
    refine wp_icmp_gt 14 dX10_within_7 (by decide) (fun q3 => ?_) (fun q4 => ?_)
    · skip
      refine wp_iconst (0 : Int32) dX10_within_14 (by decide) ?_
      refine wp_zret dX10_within_15 rfl rfl ?_
      show WP G (d + 7) (0, 0) μX10_extremeAhead 22 [.ref (gB G), .int (nI i), .int y, .int (0 : Int32), lvU, lvU, lvU] [.int (0 : Int32)] m _
      refine wp_if_ne 28 dX10_extremeAhead_22 (by decide) (fun q => absurd (by decide) q) (fun _ => ?_)
      refine wp_ldc dX10_extremeAhead_25 kX10_42 ?_
      exact wp_iret dX10_extremeAhead_27 rfl (e2 q2 q3)
    · skip
      refine wp_iconst (1 : Int32) dX10_within_10 (by decide) ?_
      refine wp_goto 15 dX10_within_11 (by decide) ?_
      refine wp_zret dX10_within_15 rfl rfl ?_
      show WP G (d + 7) (0, 0) μX10_extremeAhead 22 [.ref (gB G), .int (nI i), .int y, .int (0 : Int32), lvU, lvU, lvU] [.int (1 : Int32)] m _
      refine wp_if_ne 28 dX10_extremeAhead_22 (by decide) (fun _ => ?_) (fun q => absurd q (by decide))
      refine wp_aload_n dX10_extremeAhead_28 rfl ?_
      refine wp_getr (gB G + 70) dX10_extremeAhead_29 fX10_16 (ka0 hF) (hF.2 _ _) (rra 70 (isK_le (ka0 hF)) (fun _ => rfl)) ?_
      refine wp_aload_n dX10_extremeAhead_32 rfl ?_
      refine wp_getr (gB G + 1) dX10_extremeAhead_33 fX10_10 (ka0 hF) (hF.2 _ _) (rra 1 (isK_le (ka0 hF)) (fun _ => rfl)) ?_
      refine wp_callV (As := [.ref (gB G + 1)]) (S := []) (b' := (0, 0)) (b := (0, 0)) dX10_extremeAhead_36 MX10_254 (kc0 hF (isC2 G)) rfl rfl rfl rfl (Nat.le_of_ble_eq_true rfl) ?_
      exact e3 q2 q4

theorem cC_ext0 {G : Cx} {d : Nat} {m : Mm} {Q : Option Value → Mm → Prop} {i : Nat} {l2 : Int32} (hF : Full G m) (hi12 : i < 12) 
    (e1 : WP G (d + 7) (0, 0) μX10_extremeAhead 55 [.ref (gB G), .int (nI i), .int l2, .int (0 : Int32), .int (200000 : Int32), .int (0 : Int32), lvU] [] m Q) :
    WP G (d + 7) (0, 0) μX10_extremeAhead 39 [.ref (gB G), .int (nI i), .int l2, .int (0 : Int32), lvU, lvU, lvU] [] m Q := by
  refine wp_iload_n dX10_extremeAhead_39 rfl ?_
  refine wp_if_eq 48 dX10_extremeAhead_40 (by decide) (fun _ => ?_) (fun q => absurd (by decide) q)
  refine wp_ldc dX10_extremeAhead_48 kX10_40 ?_
  refine wp_istore dX10_extremeAhead_50 (by decide) rfl ?_
  refine wp_iconst (0 : Int32) dX10_extremeAhead_52 (by decide) ?_
  refine wp_istore dX10_extremeAhead_53 (by decide) rfl ?_
  refine wp_forget [.ref (gB G), .int (nI i), .int l2, .int (0 : Int32), .int (200000 : Int32), .int (0 : Int32), lvU] ⟨Or.inl rfl, Or.inl rfl, Or.inl rfl, Or.inl rfl, Or.inl rfl, Or.inl rfl, Or.inr rfl, trivial⟩ ?_
  exact e1

theorem bC_ext0 {G : Cx} {d : Nat} {m : Mm} {Q : Option Value → Mm → Prop} {i k j : Nat} {e : Int32} (hF : Full G m) (hi12 : i < 12) (hk : k ≤ 2000) (hj : j ≤ k) 
    (e1 : ¬ j < k → Q (some (.int e)) m)
    (e2 : j < k → WPM G (d + 6) (0, 0) μX0_step [.ref (gB G + 70)] m (fun r' m' => WP G (d + 7) (0, 0) μX10_extremeAhead 68 [.ref (gB G), .int (nI i), .int (nI k), .int (0 : Int32), .int e, .int (nI j), lvU] (r'.toList ++ []) m' Q)) :
    WP G (d + 7) (0, 0) μX10_extremeAhead 55 [.ref (gB G), .int (nI i), .int (nI k), .int (0 : Int32), .int e, .int (nI j), lvU] [] m Q := by
  refine wp_iload dX10_extremeAhead_55 rfl ?_
  refine wp_iload_n dX10_extremeAhead_57 rfl ?_
  refine wp_icmp_ge 112 dX10_extremeAhead_58 (by decide) (fun q1 => ?_) (fun q2 => ?_)
  · have hp3 : ¬ j < k := (fun z => q1 (nlt_ (b := k) z (by omega)))
    refine wp_iload dX10_extremeAhead_112 rfl ?_
    exact wp_iret dX10_extremeAhead_114 rfl (e1 hp3)
  · have hp4 : j < k := (nlt q2 (by omega) (by omega))
    refine wp_aload_n dX10_extremeAhead_61 rfl ?_
    refine wp_getr (gB G + 70) dX10_extremeAhead_62 fX10_16 (ka0 hF) (hF.2 _ _) (rra 70 (isK_le (ka0 hF)) (fun _ => rfl)) ?_
    refine wp_callV (As := []) (S := []) (b' := (0, 0)) (b := (0, 0)) dX10_extremeAhead_65 MX10_172 (kc0 hF (isC2 G)) rfl rfl rfl rfl (Nat.le_of_ble_eq_true rfl) ?_
    exact e2 hp4

theorem jC_ext0 {G : Cx} {d : Nat} {m : Mm} {Q : Option Value → Mm → Prop} {i k j : Nat} {l4 : Int32} {r : Int32} (hF : Full G m) (hi12 : i < 12) (hk : k ≤ 2000) (hj : j < k) 
    (e1 : WP G (d + 7) (0, 0) μX10_extremeAhead 55 [.ref (gB G), .int (nI i), .int (nI k), .int (0 : Int32), .int (imin l4 (fi m 401 (nd (gB G + 70) i))), .int (nI (j + 1)), lvU] [] m Q) :
    WP G (d + 7) (0, 0) μX10_extremeAhead 68 [.ref (gB G), .int (nI i), .int (nI k), .int (0 : Int32), .int l4, .int (nI j), lvU] [.int r] m Q := by
  refine wp_pop dX10_extremeAhead_68 rfl ?_
  refine wp_aload_n dX10_extremeAhead_69 rfl ?_
  refine wp_getr (gB G + 70) dX10_extremeAhead_70 fX10_16 (ka0 hF) (hF.2 _ _) (rra 70 (isK_le (ka0 hF)) (fun _ => rfl)) ?_
  refine wp_getr ((gB G + 70) + 1) dX10_extremeAhead_73 fX10_48 (kc0 hF (isC2 G)) (hF.2 _ _) (rra 1 (isK_le (kc0 hF (isC2 G))) (fun _ => rfl)) ?_
  refine wp_iload_n dX10_extremeAhead_76 rfl ?_
  refine wp_raldk (n := 12) i (nd (gB G + 70) i) dX10_extremeAhead_77 (kc hF (isC2 G) 1 (by decide)) (by decide) (by decide) (lc (isC2 G) 1 (by decide)) (vin (by omega) (by decide)) (nIc (by omega)) (hF.2 _ _) (rnd hF (isC2 G)) ?_
  refine wp_geti (fi m 401 (nd (gB G + 70) i)) dX10_extremeAhead_78 fX10_69 (Or.inl rfl) (knd hF (isC2 G) (by omega)) rfl ?_
  refine wp_istore dX10_extremeAhead_81 (by decide) rfl ?_
  refine wp_iload_n dX10_extremeAhead_83 rfl ?_
  refine wp_if_eq 97 dX10_extremeAhead_84 (by decide) (fun _ => ?_) (fun q => absurd (by decide) q)
  refine wp_iload dX10_extremeAhead_97 rfl ?_
  refine wp_iload dX10_extremeAhead_99 rfl ?_
  refine wp_minI dX10_extremeAhead_101 AX10_208 (Nat.le_of_ble_eq_true rfl) ?_
  refine wp_istore dX10_extremeAhead_104 (by decide) rfl ?_
  refine wp_iinc (nI (j + 1)) dX10_extremeAhead_106 rfl (by decide) (nadd (a := j) (b := 1) (by omega)) rfl ?_
  refine wp_goto 55 dX10_extremeAhead_109 (by decide) ?_
  refine wp_forget [.ref (gB G), .int (nI i), .int (nI k), .int (0 : Int32), .int (imin l4 (fi m 401 (nd (gB G + 70) i))), .int (nI (j + 1)), lvU] ⟨Or.inl rfl, Or.inl rfl, Or.inl rfl, Or.inl rfl, Or.inl rfl, Or.inl rfl, Or.inr rfl, trivial⟩ ?_
  exact e1

theorem iM_ext0 {G : Cx} {d : Nat} {m : Mm} {Q : Option Value → Mm → Prop} {i n : Nat} {y : Int32} (hF : Full G m) (hn : ai m (gB G + 294) 12 = nI (n + 1)) (hm : n + 1 ≤ 12) (hi : i < n + 1) 
    (e1 : y < (1 : Int32) → Q (some (.int (-1000000002 : Int32))) m)
    (e2 : ¬ y < (1 : Int32) → (2000 : Int32) < y → Q (some (.int (-1000000002 : Int32))) m)
    (e3 : ¬ y < (1 : Int32) → ¬ (2000 : Int32) < y → WPM G (d + 8) (0, 0) μX11_keepState [.ref (gB G + 293)] m (fun r' m' => WP G (d + 9) (0, 0) μX11_extremeAhead 29 [.ref (gB G + 293), .int (nI i), .int y, .int (0 : Int32), lvU, lvU, lvU, lvU] (r'.toList ++ []) m' Q)) :
    WPM G (d + 9) (0, 0) μX11_extremeAhead [.ref (gB G + 293), .int (nI i), .int y, .int (0 : Int32)] m Q := by
  refine WPM.of pX11 (Nat.le_of_ble_eq_true rfl) rfl ?_
  refine wp_aload_n dX11_extremeAhead_0 rfl ?_
  refine wp_iload_n dX11_extremeAhead_1 rfl ?_
  refine wp_callV (As := [.int (nI i)]) (S := []) (b' := (0, 0)) (b := (0, 0)) dX11_extremeAhead_2 MX11_93 (ka hF 293 (by decide)) rfl rfl rfl rfl (Nat.le_of_ble_eq_true rfl) ?_
  refine WPM.of pX11 (Nat.le_of_ble_eq_true rfl) rfl ?_
  refine wp_iload_n dX11_isNode_0 rfl ?_
  refine wp_iconst (0 : Int32) dX11_isNode_1 (by decide) ?_
  refine wp_aload_n dX11_isNode_2 rfl ?_
  refine wp_getr (gB G + 294) dX11_isNode_3 fX11_7 (ka hF 293 (by decide)) (hF.2 _ _) (rra 1 (isK_le (ka hF 293 (by decide))) (fun _ => rfl)) ?_
  refine wp_bipush (12 : Int32) dX11_isNode_6 (by decide) ?_
  refine wp_ialdk (n := 1486) 12 (nI (n + 1)) dX11_isNode_8 (ka hF 294 (by decide)) (la 294) (vinl (by decide)) rfl hn ?_
  refine wp_iconst (1 : Int32) dX11_isNode_9 (by decide) ?_
  refine wp_isubv (nI n) dX11_isNode_10 (nsub (a := n + 1) (b := 1) (by omega)) ?_
  refine wp_callS (As := [.int (nI i), .int (0 : Int32), .int (nI n)]) (S := []) (b' := (0, 0)) (b := (0, 0)) dX11_isNode_11 MX11_67 rfl rfl (Nat.le_of_ble_eq_true rfl) ?_
  refine WPM.of pX11 (Nat.le_of_ble_eq_true rfl) rfl ?_
  refine wp_iload_n dX11_isBetween_0 rfl ?_
  refine wp_iload_n dX11_isBetween_1 rfl ?_
  refine wp_icmp_lt 14 dX11_isBetween_2 (by decide) (fun q => absurd q (nI_pos (by omega))) (fun _ => ?_)
  refine wp_iload_n dX11_isBetween_5 rfl ?_
  refine wp_iload_n dX11_isBetween_6 rfl ?_
  refine wp_icmp_gt 14 dX11_isBetween_7 (by decide) (fun q => absurd q (fun z => (show ¬ n < i by omega) (nlt (a := n) (b := i) z (by omega) (by omega)))) (fun _ => ?_)
  refine wp_iconst (1 : Int32) dX11_isBetween_10 (by decide) ?_
  refine wp_goto 15 dX11_isBetween_11 (by decide) ?_
  refine wp_zret dX11_isBetween_15 rfl rfl ?_
  show WP G (d + 8) (0, 0) μX11_isNode 14 [.ref (gB G + 293), .int (nI i)] [.int (1 : Int32)] m _
  refine wp_zret dX11_isNode_14 rfl rfl ?_
  show WP G (d + 9) (0, 0) μX11_extremeAhead 5 [.ref (gB G + 293), .int (nI i), .int y, .int (0 : Int32), lvU, lvU, lvU, lvU] [.int (1 : Int32)] m _
  refine wp_if_ne 11 dX11_extremeAhead_5 (by decide) (fun _ => ?_) (fun q => absurd q (by decide))
  refine wp_iload_n dX11_extremeAhead_11 rfl ?_
  refine wp_iconst (1 : Int32) dX11_extremeAhead_12 (by decide) ?_
  refine wp_sipush (2000 : Int32) dX11_extremeAhead_13 (by decide) ?_
  refine wp_callS (As := [.int y, .int (1 : Int32), .int (2000 : Int32)]) (S := []) (b' := (0, 0)) (b := (0, 0)) dX11_extremeAhead_16 MX11_67 rfl rfl (Nat.le_of_ble_eq_true rfl) ?_
  refine WPM.of pX11 (Nat.le_of_ble_eq_true rfl) rfl ?_
  refine wp_iload_n dX11_isBetween_0 rfl ?_
  refine wp_iload_n dX11_isBetween_1 rfl ?_
  refine wp_icmp_lt 14 dX11_isBetween_2 (by decide) (fun q1 => ?_) (fun q2 => ?_)
  · skip
    refine wp_iconst (0 : Int32) dX11_isBetween_14 (by decide) ?_
    refine wp_zret dX11_isBetween_15 rfl rfl ?_
    show WP G (d + 9) (0, 0) μX11_extremeAhead 19 [.ref (gB G + 293), .int (nI i), .int y, .int (0 : Int32), lvU, lvU, lvU, lvU] [.int (0 : Int32)] m _
    refine wp_if_ne 25 dX11_extremeAhead_19 (by decide) (fun q => absurd (by decide) q) (fun _ => ?_)
    refine wp_ldc dX11_extremeAhead_22 kX11_79 ?_
    exact wp_iret dX11_extremeAhead_24 rfl (e1 q1)
  · skip
    refine wp_iload_n dX11_isBetween_5 rfl ?_
    refine wp_iload_n dX11_isBetween_6 rfl ?_
    refine wp_icmp_gt 14 dX11_isBetween_7 (by decide) (fun q3 => ?_) (fun q4 => ?_)
    · skip
      refine wp_iconst (0 : Int32) dX11_isBetween_14 (by decide) ?_
      refine wp_zret dX11_isBetween_15 rfl rfl ?_
      show WP G (d + 9) (0, 0) μX11_extremeAhead 19 [.ref (gB G + 293), .int (nI i), .int y, .int (0 : Int32), lvU, lvU, lvU, lvU] [.int (0 : Int32)] m _
      refine wp_if_ne 25 dX11_extremeAhead_19 (by decide) (fun q => absurd (by decide) q) (fun _ => ?_)
      refine wp_ldc dX11_extremeAhead_22 kX11_79 ?_
      exact wp_iret dX11_extremeAhead_24 rfl (e2 q2 q3)
    · skip
      refine wp_iconst (1 : Int32) dX11_isBetween_10 (by decide) ?_
      refine wp_goto 15 dX11_isBetween_11 (by decide) ?_
      refine wp_zret dX11_isBetween_15 rfl rfl ?_
      show WP G (d + 9) (0, 0) μX11_extremeAhead 19 [.ref (gB G + 293), .int (nI i), .int y, .int (0 : Int32), lvU, lvU, lvU, lvU] [.int (1 : Int32)] m _
      refine wp_if_ne 25 dX11_extremeAhead_19 (by decide) (fun _ => ?_) (fun q => absurd q (by decide))
      refine wp_aload_n dX11_extremeAhead_25 rfl ?_
      refine wp_callV (As := []) (S := []) (b' := (0, 0)) (b := (0, 0)) dX11_extremeAhead_26 MX11_199 (ka hF 293 (by decide)) rfl rfl rfl rfl (Nat.le_of_ble_eq_true rfl) ?_
      exact e3 q2 q4

theorem cM_ext0 {G : Cx} {d : Nat} {m : Mm} {Q : Option Value → Mm → Prop} {i : Nat} {l2 : Int32} (hF : Full G m) (hi12 : i < 12) 
    (e1 : WP G (d + 9) (0, 0) μX11_extremeAhead 45 [.ref (gB G + 293), .int (nI i), .int l2, .int (0 : Int32), .int (200000 : Int32), .int (0 : Int32), lvU, lvU] [] m Q) :
    WP G (d + 9) (0, 0) μX11_extremeAhead 29 [.ref (gB G + 293), .int (nI i), .int l2, .int (0 : Int32), lvU, lvU, lvU, lvU] [] m Q := by
  refine wp_iload_n dX11_extremeAhead_29 rfl ?_
  refine wp_if_eq 38 dX11_extremeAhead_30 (by decide) (fun _ => ?_) (fun q => absurd (by decide) q)
  refine wp_ldc dX11_extremeAhead_38 kX11_72 ?_
  refine wp_istore dX11_extremeAhead_40 (by decide) rfl ?_
  refine wp_iconst (0 : Int32) dX11_extremeAhead_42 (by decide) ?_
  refine wp_istore dX11_extremeAhead_43 (by decide) rfl ?_
  refine wp_forget [.ref (gB G + 293), .int (nI i), .int l2, .int (0 : Int32), .int (200000 : Int32), .int (0 : Int32), lvU, lvU] ⟨Or.inl rfl, Or.inl rfl, Or.inl rfl, Or.inl rfl, Or.inl rfl, Or.inl rfl, Or.inr rfl, Or.inr rfl, trivial⟩ ?_
  exact e1

theorem bM_ext0 {G : Cx} {d : Nat} {m : Mm} {Q : Option Value → Mm → Prop} {i k j : Nat} {e : Int32} (hF : Full G m) (hi12 : i < 12) (hk : k ≤ 2000) (hj : j ≤ k) 
    (e1 : ¬ j < k → WPM G (d + 8) (0, 0) μX11_putBackState [.ref (gB G + 293)] m (fun r' m' => WP G (d + 9) (0, 0) μX11_extremeAhead 98 [lvU, lvU, lvU, lvU, .int e, lvU, lvU, lvU] (r'.toList ++ []) m' Q))
    (e2 : j < k → WPM G (d + 8) (0, 0) μX11_step [.ref (gB G + 293)] m (fun r' m' => WP G (d + 9) (0, 0) μX11_extremeAhead 55 [.ref (gB G + 293), .int (nI i), .int (nI k), .int (0 : Int32), .int e, .int (nI j), lvU, lvU] (r'.toList ++ []) m' Q)) :
    WP G (d + 9) (0, 0) μX11_extremeAhead 45 [.ref (gB G + 293), .int (nI i), .int (nI k), .int (0 : Int32), .int e, .int (nI j), lvU, lvU] [] m Q := by
  refine wp_iload dX11_extremeAhead_45 rfl ?_
  refine wp_iload_n dX11_extremeAhead_47 rfl ?_
  refine wp_icmp_ge 94 dX11_extremeAhead_48 (by decide) (fun q1 => ?_) (fun q2 => ?_)
  · have hp3 : ¬ j < k := (fun z => q1 (nlt_ (b := k) z (by omega)))
    refine wp_aload_n dX11_extremeAhead_94 rfl ?_
    refine wp_forget [lvU, lvU, lvU, lvU, .int e, lvU, lvU, lvU] ⟨Or.inr rfl, Or.inr rfl, Or.inr rfl, Or.inr rfl, Or.inl rfl, Or.inr rfl, Or.inr rfl, Or.inr rfl, trivial⟩ ?_
    refine wp_callV (As := []) (S := []) (b' := (0, 0)) (b := (0, 0)) dX11_extremeAhead_95 MX11_205 (ka hF 293 (by decide)) rfl rfl rfl rfl (Nat.le_of_ble_eq_true rfl) ?_
    exact e1 hp3
  · have hp4 : j < k := (nlt q2 (by omega) (by omega))
    refine wp_aload_n dX11_extremeAhead_51 rfl ?_
    refine wp_callV (As := []) (S := []) (b' := (0, 0)) (b := (0, 0)) dX11_extremeAhead_52 MX11_182 (ka hF 293 (by decide)) rfl rfl rfl rfl (Nat.le_of_ble_eq_true rfl) ?_
    exact e2 hp4

theorem jM_ext0 {G : Cx} {d : Nat} {m : Mm} {Q : Option Value → Mm → Prop} {i k j : Nat} {l4 : Int32} {r : Int32} (hF : Full G m) (hi12 : i < 12) (hk : k ≤ 2000) (hj : j < k) 
    (e1 : WP G (d + 9) (0, 0) μX11_extremeAhead 45 [.ref (gB G + 293), .int (nI i), .int (nI k), .int (0 : Int32), .int (imin l4 (ai m (gB G + 294) (11 * i + 21))), .int (nI (j + 1)), lvU, lvU] [] m Q) :
    WP G (d + 9) (0, 0) μX11_extremeAhead 55 [.ref (gB G + 293), .int (nI i), .int (nI k), .int (0 : Int32), .int l4, .int (nI j), lvU, lvU] [.int r] m Q := by
  refine wp_istore dX11_extremeAhead_55 (by decide) rfl ?_
  refine wp_aload_n dX11_extremeAhead_57 rfl ?_
  refine wp_iload_n dX11_extremeAhead_58 rfl ?_
  refine wp_iconst (1 : Int32) dX11_extremeAhead_59 (by decide) ?_
  refine wp_callV (As := [.int (nI i), .int (1 : Int32)]) (S := []) (b' := (0, 0)) (b := (0, 0)) dX11_extremeAhead_60 MX11_89 (ka hF 293 (by decide)) rfl rfl rfl rfl (Nat.le_of_ble_eq_true rfl) ?_
  refine WPM.of pX11 (Nat.le_of_ble_eq_true rfl) rfl ?_
  refine wp_aload_n dX11_node_0 rfl ?_
  refine wp_getr (gB G + 294) dX11_node_1 fX11_7 (ka hF 293 (by decide)) (hF.2 _ _) (rra 1 (isK_le (ka hF 293 (by decide))) (fun _ => rfl)) ?_
  refine wp_bipush (20 : Int32) dX11_node_4 (by decide) ?_
  refine wp_bipush (11 : Int32) dX11_node_6 (by decide) ?_
  refine wp_iload_n dX11_node_8 rfl ?_
  refine wp_imulv (nI (11 * i)) dX11_node_9 (nmul (a := 11) (b := i) (by omega)) ?_
  refine wp_iaddv (nI (11 * i + 20)) dX11_node_10 (nadd (a := 20) (b := 11 * i) (by omega)) ?_
  refine wp_iload_n dX11_node_11 rfl ?_
  refine wp_iaddv (nI (11 * i + 21)) dX11_node_12 (nadd (a := 11 * i + 20) (b := 1) (by omega)) ?_
  refine wp_ialdk (n := 1486) (11 * i + 21) (ai m (gB G + 294) (11 * i + 21)) dX11_node_13 (ka hF 294 (by decide)) (la 294) (vin (by omega) (by decide)) (nIc (by omega)) rfl ?_
  refine wp_iret dX11_node_14 rfl ?_
  show WP G (d + 9) (0, 0) μX11_extremeAhead 63 [.ref (gB G + 293), .int (nI i), .int (nI k), .int (0 : Int32), .int l4, .int (nI j), .int r, lvU] [.int (ai m (gB G + 294) (11 * i + 21))] m _
  refine wp_istore dX11_extremeAhead_63 (by decide) rfl ?_
  refine wp_iload_n dX11_extremeAhead_65 rfl ?_
  refine wp_if_eq 79 dX11_extremeAhead_66 (by decide) (fun _ => ?_) (fun q => absurd (by decide) q)
  refine wp_iload dX11_extremeAhead_79 rfl ?_
  refine wp_iload dX11_extremeAhead_81 rfl ?_
  refine wp_minI dX11_extremeAhead_83 AX11_159 (Nat.le_of_ble_eq_true rfl) ?_
  refine wp_istore dX11_extremeAhead_86 (by decide) rfl ?_
  refine wp_iinc (nI (j + 1)) dX11_extremeAhead_88 rfl (by decide) (nadd (a := j) (b := 1) (by omega)) rfl ?_
  refine wp_goto 45 dX11_extremeAhead_91 (by decide) ?_
  refine wp_forget [.ref (gB G + 293), .int (nI i), .int (nI k), .int (0 : Int32), .int (imin l4 (ai m (gB G + 294) (11 * i + 21))), .int (nI (j + 1)), lvU, lvU] ⟨Or.inl rfl, Or.inl rfl, Or.inl rfl, Or.inl rfl, Or.inl rfl, Or.inl rfl, Or.inr rfl, Or.inr rfl, trivial⟩ ?_
  exact e1

theorem fM_ext0 {G : Cx} {d : Nat} {m : Mm} {Q : Option Value → Mm → Prop} {l4 : Int32} (hF : Full G m) 
    (e1 : Q (some (.int l4)) m) :
    WP G (d + 9) (0, 0) μX11_extremeAhead 98 [lvU, lvU, lvU, lvU, .int l4, lvU, lvU, lvU] [] m Q := by
  refine wp_iload dX11_extremeAhead_98 rfl ?_
  exact wp_iret dX11_extremeAhead_100 rfl (e1)

theorem aC_ext0 {G : Cx} {d : Nat} {m : Mm} {Q : Option Value → Mm → Prop} {x y : Int32} {n : Nat} (hF : Full G m) (hn : fi m 5 (gB G + 1) = nI n) (hm : n ≤ 12) (hx : x < 0) 
    (e1 : Q (some (.int (-1000000001 : Int32))) m) :
    WPM G (d + 7) (0, 0) μX10_extremeAhead [.ref (gB G), .int x, .int y, .int (0 : Int32)] m Q := by
  refine WPM.of pX10 (Nat.le_of_ble_eq_true rfl) rfl ?_
  refine wp_aload_n dX10_extremeAhead_0 rfl ?_
  refine wp_getr (gB G + 1) dX10_extremeAhead_1 fX10_10 (ka0 hF) (hF.2 _ _) (rra 1 (isK_le (ka0 hF)) (fun _ => rfl)) ?_
  refine wp_iload_n dX10_extremeAhead_4 rfl ?_
  refine wp_callV (As := [.int x]) (S := []) (b' := (0, 0)) (b := (0, 0)) dX10_extremeAhead_5 MX10_58 (kc0 hF (isC1 G)) rfl rfl rfl rfl (Nat.le_of_ble_eq_true rfl) ?_
  refine WPM.of pX0 (Nat.le_of_ble_eq_true rfl) rfl ?_
  refine wp_iload_n dX0_hasNode_0 rfl ?_
  refine wp_if_lt 16 dX0_hasNode_1 (by decide) (fun _ => ?_) (fun q => absurd hx q)
  refine wp_iconst (0 : Int32) dX0_hasNode_16 (by decide) ?_
  refine wp_zret dX0_hasNode_17 rfl rfl ?_
  show WP G (d + 7) (0, 0) μX10_extremeAhead 8 [.ref (gB G), .int x, .int y, .int (0 : Int32), lvU, lvU, lvU] [.int (0 : Int32)] m _
  refine wp_if_ne 14 dX10_extremeAhead_8 (by decide) (fun q => absurd (by decide) q) (fun _ => ?_)
  refine wp_ldc dX10_extremeAhead_11 kX10_62 ?_
  exact wp_iret dX10_extremeAhead_13 rfl (e1)

theorem aM_ext0 {G : Cx} {d : Nat} {m : Mm} {Q : Option Value → Mm → Prop} {x y : Int32} {n : Nat} (hF : Full G m) (hn : ai m (gB G + 294) 12 = nI n) (hm : n ≤ 12) (hx : x < 0) 
    (e1 : Q (some (.int (-1000000001 : Int32))) m) :
    WPM G (d + 9) (0, 0) μX11_extremeAhead [.ref (gB G + 293), .int x, .int y, .int (0 : Int32)] m Q := by
  refine WPM.of pX11 (Nat.le_of_ble_eq_true rfl) rfl ?_
  refine wp_aload_n dX11_extremeAhead_0 rfl ?_
  refine wp_iload_n dX11_extremeAhead_1 rfl ?_
  refine wp_callV (As := [.int x]) (S := []) (b' := (0, 0)) (b := (0, 0)) dX11_extremeAhead_2 MX11_93 (ka hF 293 (by decide)) rfl rfl rfl rfl (Nat.le_of_ble_eq_true rfl) ?_
  refine WPM.of pX11 (Nat.le_of_ble_eq_true rfl) rfl ?_
  refine wp_iload_n dX11_isNode_0 rfl ?_
  refine wp_iconst (0 : Int32) dX11_isNode_1 (by decide) ?_
  refine wp_aload_n dX11_isNode_2 rfl ?_
  refine wp_getr (gB G + 294) dX11_isNode_3 fX11_7 (ka hF 293 (by decide)) (hF.2 _ _) (rra 1 (isK_le (ka hF 293 (by decide))) (fun _ => rfl)) ?_
  refine wp_bipush (12 : Int32) dX11_isNode_6 (by decide) ?_
  refine wp_ialdk (n := 1486) 12 (nI n) dX11_isNode_8 (ka hF 294 (by decide)) (la 294) (vinl (by decide)) rfl hn ?_
  refine wp_iconst (1 : Int32) dX11_isNode_9 (by decide) ?_
  refine wp_isubv ((nI n) - (1 : Int32)) dX11_isNode_10 rfl ?_
  refine wp_callS (As := [.int x, .int (0 : Int32), .int ((nI n) - (1 : Int32))]) (S := []) (b' := (0, 0)) (b := (0, 0)) dX11_isNode_11 MX11_67 rfl rfl (Nat.le_of_ble_eq_true rfl) ?_
  refine WPM.of pX11 (Nat.le_of_ble_eq_true rfl) rfl ?_
  refine wp_iload_n dX11_isBetween_0 rfl ?_
  refine wp_iload_n dX11_isBetween_1 rfl ?_
  refine wp_icmp_lt 14 dX11_isBetween_2 (by decide) (fun _ => ?_) (fun q => absurd hx q)
  refine wp_iconst (0 : Int32) dX11_isBetween_14 (by decide) ?_
  refine wp_zret dX11_isBetween_15 rfl rfl ?_
  show WP G (d + 8) (0, 0) μX11_isNode 14 [.ref (gB G + 293), .int x] [.int (0 : Int32)] m _
  refine wp_zret dX11_isNode_14 rfl rfl ?_
  show WP G (d + 9) (0, 0) μX11_extremeAhead 5 [.ref (gB G + 293), .int x, .int y, .int (0 : Int32), lvU, lvU, lvU, lvU] [.int (0 : Int32)] m _
  refine wp_if_ne 11 dX11_extremeAhead_5 (by decide) (fun q => absurd (by decide) q) (fun _ => ?_)
  refine wp_ldc dX11_extremeAhead_8 kX11_96 ?_
  exact wp_iret dX11_extremeAhead_10 rfl (e1)

theorem bC_ext0x {G : Cx} {d : Nat} {m : Mm} {Q : Option Value → Mm → Prop} {x y : Int32} {n : Nat} (hF : Full G m) (hn : fi m 5 (gB G + 1) = nI n) (hm : n ≤ 12) (hxa : ¬ x < 0) (hxb : ¬ x < nI n) 
    (e1 : Q (some (.int (-1000000001 : Int32))) m) :
    WPM G (d + 7) (0, 0) μX10_extremeAhead [.ref (gB G), .int x, .int y, .int (0 : Int32)] m Q := by
  refine WPM.of pX10 (Nat.le_of_ble_eq_true rfl) rfl ?_
  refine wp_aload_n dX10_extremeAhead_0 rfl ?_
  refine wp_getr (gB G + 1) dX10_extremeAhead_1 fX10_10 (ka0 hF) (hF.2 _ _) (rra 1 (isK_le (ka0 hF)) (fun _ => rfl)) ?_
  refine wp_iload_n dX10_extremeAhead_4 rfl ?_
  refine wp_callV (As := [.int x]) (S := []) (b' := (0, 0)) (b := (0, 0)) dX10_extremeAhead_5 MX10_58 (kc0 hF (isC1 G)) rfl rfl rfl rfl (Nat.le_of_ble_eq_true rfl) ?_
  refine WPM.of pX0 (Nat.le_of_ble_eq_true rfl) rfl ?_
  refine wp_iload_n dX0_hasNode_0 rfl ?_
  refine wp_if_lt 16 dX0_hasNode_1 (by decide) (fun q => absurd q hxa) (fun _ => ?_)
  refine wp_iload_n dX0_hasNode_4 rfl ?_
  refine wp_aload_n dX0_hasNode_5 rfl ?_
  refine wp_geti (nI n) dX0_hasNode_6 fX0_75 (Or.inl rfl) (kc0 hF (isC1 G)) hn ?_
  refine wp_icmp_ge 16 dX0_hasNode_9 (by decide) (fun _ => ?_) (fun q => absurd q hxb)
  refine wp_iconst (0 : Int32) dX0_hasNode_16 (by decide) ?_
  refine wp_zret dX0_hasNode_17 rfl rfl ?_
  show WP G (d + 7) (0, 0) μX10_extremeAhead 8 [.ref (gB G), .int x, .int y, .int (0 : Int32), lvU, lvU, lvU] [.int (0 : Int32)] m _
  refine wp_if_ne 14 dX10_extremeAhead_8 (by decide) (fun q => absurd (by decide) q) (fun _ => ?_)
  refine wp_ldc dX10_extremeAhead_11 kX10_62 ?_
  exact wp_iret dX10_extremeAhead_13 rfl (e1)

theorem bM_ext0x {G : Cx} {d : Nat} {m : Mm} {Q : Option Value → Mm → Prop} {x y : Int32} {n : Nat} (hF : Full G m) (hn : ai m (gB G + 294) 12 = nI n) (hm : n ≤ 12) (hxa : ¬ x < 0) (hxb : ¬ x < nI n) 
    (e1 : Q (some (.int (-1000000001 : Int32))) m) :
    WPM G (d + 9) (0, 0) μX11_extremeAhead [.ref (gB G + 293), .int x, .int y, .int (0 : Int32)] m Q := by
  refine WPM.of pX11 (Nat.le_of_ble_eq_true rfl) rfl ?_
  refine wp_aload_n dX11_extremeAhead_0 rfl ?_
  refine wp_iload_n dX11_extremeAhead_1 rfl ?_
  refine wp_callV (As := [.int x]) (S := []) (b' := (0, 0)) (b := (0, 0)) dX11_extremeAhead_2 MX11_93 (ka hF 293 (by decide)) rfl rfl rfl rfl (Nat.le_of_ble_eq_true rfl) ?_
  refine WPM.of pX11 (Nat.le_of_ble_eq_true rfl) rfl ?_
  refine wp_iload_n dX11_isNode_0 rfl ?_
  refine wp_iconst (0 : Int32) dX11_isNode_1 (by decide) ?_
  refine wp_aload_n dX11_isNode_2 rfl ?_
  refine wp_getr (gB G + 294) dX11_isNode_3 fX11_7 (ka hF 293 (by decide)) (hF.2 _ _) (rra 1 (isK_le (ka hF 293 (by decide))) (fun _ => rfl)) ?_
  refine wp_bipush (12 : Int32) dX11_isNode_6 (by decide) ?_
  refine wp_ialdk (n := 1486) 12 (nI n) dX11_isNode_8 (ka hF 294 (by decide)) (la 294) (vinl (by decide)) rfl hn ?_
  refine wp_iconst (1 : Int32) dX11_isNode_9 (by decide) ?_
  refine wp_isubv ((nI n) - (1 : Int32)) dX11_isNode_10 rfl ?_
  refine wp_callS (As := [.int x, .int (0 : Int32), .int ((nI n) - (1 : Int32))]) (S := []) (b' := (0, 0)) (b := (0, 0)) dX11_isNode_11 MX11_67 rfl rfl (Nat.le_of_ble_eq_true rfl) ?_
  refine WPM.of pX11 (Nat.le_of_ble_eq_true rfl) rfl ?_
  refine wp_iload_n dX11_isBetween_0 rfl ?_
  refine wp_iload_n dX11_isBetween_1 rfl ?_
  refine wp_icmp_lt 14 dX11_isBetween_2 (by decide) (fun q => absurd q hxa) (fun _ => ?_)
  refine wp_iload_n dX11_isBetween_5 rfl ?_
  refine wp_iload_n dX11_isBetween_6 rfl ?_
  refine wp_icmp_gt 14 dX11_isBetween_7 (by decide) (fun _ => ?_) (fun q => absurd (sub_lt (by omega) hxa hxb) q)
  refine wp_iconst (0 : Int32) dX11_isBetween_14 (by decide) ?_
  refine wp_zret dX11_isBetween_15 rfl rfl ?_
  show WP G (d + 8) (0, 0) μX11_isNode 14 [.ref (gB G + 293), .int x] [.int (0 : Int32)] m _
  refine wp_zret dX11_isNode_14 rfl rfl ?_
  show WP G (d + 9) (0, 0) μX11_extremeAhead 5 [.ref (gB G + 293), .int x, .int y, .int (0 : Int32), lvU, lvU, lvU, lvU] [.int (0 : Int32)] m _
  refine wp_if_ne 11 dX11_extremeAhead_5 (by decide) (fun q => absurd (by decide) q) (fun _ => ?_)
  refine wp_ldc dX11_extremeAhead_8 kX11_96 ?_
  exact wp_iret dX11_extremeAhead_10 rfl (e1)

theorem iC_ext1 {G : Cx} {d : Nat} {m : Mm} {Q : Option Value → Mm → Prop} {i n : Nat} {y : Int32} (hF : Full G m) (hn : fi m 5 (gB G + 1) = nI (n + 1)) (hm : n + 1 ≤ 12) (hi : i < n + 1) 
    (e1 : y < (1 : Int32) → Q (some (.int (-1000000002 : Int32))) m)
    (e2 : ¬ y < (1 : Int32) → (2000 : Int32) < y → Q (some (.int (-1000000002 : Int32))) m)
    (e3 : ¬ y < (1 : Int32) → ¬ (2000 : Int32) < y → WPM G (d + 6) (0, 0) μX0_copyFrom [.ref (gB G + 70), .ref (gB G + 1)] m (fun r' m' => WP G (d + 7) (0, 0) μX10_extremeAhead 39 [.ref (gB G), .int (nI i), .int y, .int (1 : Int32), lvU, lvU, lvU] (r'.toList ++ []) m' Q)) :
    WPM G (d + 7) (0, 0) μX10_extremeAhead [.ref (gB G), .int (nI i), .int y, .int (1 : Int32)] m Q := by
  refine WPM.of pX10 (Nat.le_of_ble_eq_true rfl) rfl ?_
  refine wp_aload_n dX10_extremeAhead_0 rfl ?_
  refine wp_getr (gB G + 1) dX10_extremeAhead_1 fX10_10 (ka0 hF) (hF.2 _ _) (rra 1 (isK_le (ka0 hF)) (fun _ => rfl)) ?_
  refine wp_iload_n dX10_extremeAhead_4 rfl ?_
  refine wp_callV (As := [.int (nI i)]) (S := []) (b' := (0, 0)) (b := (0, 0)) dX10_extremeAhead_5 MX10_58 (kc0 hF (isC1 G)) rfl rfl rfl rfl (Nat.le_of_ble_eq_true rfl) ?_
  refine WPM.of pX0 (Nat.le_of_ble_eq_true rfl) rfl ?_
  refine wp_iload_n dX0_hasNode_0 rfl ?_
  refine wp_if_lt 16 dX0_hasNode_1 (by decide) (fun q => absurd q (nI_pos (by omega))) (fun _ => ?_)
  refine wp_iload_n dX0_hasNode_4 rfl ?_
  refine wp_aload_n dX0_hasNode_5 rfl ?_
  refine wp_geti (nI (n + 1)) dX0_hasNode_6 fX0_75 (Or.inl rfl) (kc0 hF (isC1 G)) hn ?_
  refine wp_icmp_ge 16 dX0_hasNode_9 (by decide) (fun q => absurd (nlt_ (a := i) (b := n + 1) hi (by omega)) q) (fun _ => ?_)
  refine wp_iconst (1 : Int32) dX0_hasNode_12 (by decide) ?_
  refine wp_goto 17 dX0_hasNode_13 (by decide) ?_
  refine wp_zret dX0_hasNode_17 rfl rfl ?_
  show WP G (d + 7) (0, 0) μX10_extremeAhead 8 [.ref (gB G), .int (nI i), .int y, .int (1 : Int32), lvU, lvU, lvU] [.int (1 : Int32)] m _
  refine wp_if_ne 14 dX10_extremeAhead_8 (by decide) (fun _ => ?_) (fun q => absurd q (by decide))
  refine wp_iload_n dX10_extremeAhead_14 rfl ?_
  refine wp_iconst (1 : Int32) dX10_extremeAhead_15 (by decide) ?_
  refine wp_sipush (2000 : Int32) dX10_extremeAhead_16 (by decide) ?_
  refine wp_callS (As := [.int y, .int (1 : Int32), .int (2000 : Int32)]) (S := []) (b' := (0, 0)) (b := (0, 0)) dX10_extremeAhead_19 MX10_35 rfl rfl (Nat.le_of_ble_eq_true rfl) ?_
  refine WPM.of pX10 (Nat.le_of_ble_eq_true rfl) rfl ?_
  refine wp_iload_n dX10_within_0 rfl ?_
  refine wp_iload_n dX10_within_1 rfl ?_
  refine wp_icmp_lt 14 dX10_within_2 (by decide) (fun q1 => ?_) (fun q2 => ?_)
  · skip
    refine wp_iconst (0 : Int32) dX10_within_14 (by decide) ?_
    refine wp_zret dX10_within_15 rfl rfl ?_
    show WP G (d + 7) (0, 0) μX10_extremeAhead 22 [.ref (gB G), .int (nI i), .int y, .int (1 : Int32), lvU, lvU, lvU] [.int (0 : Int32)] m _
    refine wp_if_ne 28 dX10_extremeAhead_22 (by decide) (fun q => absurd (by decide) q) (fun _ => ?_)
    refine wp_ldc dX10_extremeAhead_25 kX10_42 ?_
    exact wp_iret dX10_extremeAhead_27 rfl (e1 q1)
  · skip
    refine wp_iload_n dX10_within_5 rfl ?_
    refine wp_iload_n dX10_within_6 rfl ?_
    refine wp_icmp_gt 14 dX10_within_7 (by decide) (fun q3 => ?_) (fun q4 => ?_)
    · skip
      refine wp_iconst (0 : Int32) dX10_within_14 (by decide) ?_
      refine wp_zret dX10_within_15 rfl rfl ?_
      show WP G (d + 7) (0, 0) μX10_extremeAhead 22 [.ref (gB G), .int (nI i), .int y, .int (1 : Int32), lvU, lvU, lvU] [.int (0 : Int32)] m _
      refine wp_if_ne 28 dX10_extremeAhead_22 (by decide) (fun q => absurd (by decide) q) (fun _ => ?_)
      refine wp_ldc dX10_extremeAhead_25 kX10_42 ?_
      exact wp_iret dX10_extremeAhead_27 rfl (e2 q2 q3)
    · skip
      refine wp_iconst (1 : Int32) dX10_within_10 (by decide) ?_
      refine wp_goto 15 dX10_within_11 (by decide) ?_
      refine wp_zret dX10_within_15 rfl rfl ?_
      show WP G (d + 7) (0, 0) μX10_extremeAhead 22 [.ref (gB G), .int (nI i), .int y, .int (1 : Int32), lvU, lvU, lvU] [.int (1 : Int32)] m _
      refine wp_if_ne 28 dX10_extremeAhead_22 (by decide) (fun _ => ?_) (fun q => absurd q (by decide))
      refine wp_aload_n dX10_extremeAhead_28 rfl ?_
      refine wp_getr (gB G + 70) dX10_extremeAhead_29 fX10_16 (ka0 hF) (hF.2 _ _) (rra 70 (isK_le (ka0 hF)) (fun _ => rfl)) ?_
      refine wp_aload_n dX10_extremeAhead_32 rfl ?_
      refine wp_getr (gB G + 1) dX10_extremeAhead_33 fX10_10 (ka0 hF) (hF.2 _ _) (rra 1 (isK_le (ka0 hF)) (fun _ => rfl)) ?_
      refine wp_callV (As := [.ref (gB G + 1)]) (S := []) (b' := (0, 0)) (b := (0, 0)) dX10_extremeAhead_36 MX10_254 (kc0 hF (isC2 G)) rfl rfl rfl rfl (Nat.le_of_ble_eq_true rfl) ?_
      exact e3 q2 q4

theorem cC_ext1 {G : Cx} {d : Nat} {m : Mm} {Q : Option Value → Mm → Prop} {i : Nat} {l2 : Int32} (hF : Full G m) (hi12 : i < 12) 
    (e1 : WP G (d + 7) (0, 0) μX10_extremeAhead 55 [.ref (gB G), .int (nI i), .int l2, .int (1 : Int32), .int (-200000 : Int32), .int (0 : Int32), lvU] [] m Q) :
    WP G (d + 7) (0, 0) μX10_extremeAhead 39 [.ref (gB G), .int (nI i), .int l2, .int (1 : Int32), lvU, lvU, lvU] [] m Q := by
  refine wp_iload_n dX10_extremeAhead_39 rfl ?_
  refine wp_if_eq 48 dX10_extremeAhead_40 (by decide) (fun q => absurd q (by decide)) (fun _ => ?_)
  refine wp_ldc dX10_extremeAhead_43 kX10_39 ?_
  refine wp_goto 50 dX10_extremeAhead_45 (by decide) ?_
  refine wp_istore dX10_extremeAhead_50 (by decide) rfl ?_
  refine wp_iconst (0 : Int32) dX10_extremeAhead_52 (by decide) ?_
  refine wp_istore dX10_extremeAhead_53 (by decide) rfl ?_
  refine wp_forget [.ref (gB G), .int (nI i), .int l2, .int (1 : Int32), .int (-200000 : Int32), .int (0 : Int32), lvU] ⟨Or.inl rfl, Or.inl rfl, Or.inl rfl, Or.inl rfl, Or.inl rfl, Or.inl rfl, Or.inr rfl, trivial⟩ ?_
  exact e1

theorem bC_ext1 {G : Cx} {d : Nat} {m : Mm} {Q : Option Value → Mm → Prop} {i k j : Nat} {e : Int32} (hF : Full G m) (hi12 : i < 12) (hk : k ≤ 2000) (hj : j ≤ k) 
    (e1 : ¬ j < k → Q (some (.int e)) m)
    (e2 : j < k → WPM G (d + 6) (0, 0) μX0_step [.ref (gB G + 70)] m (fun r' m' => WP G (d + 7) (0, 0) μX10_extremeAhead 68 [.ref (gB G), .int (nI i), .int (nI k), .int (1 : Int32), .int e, .int (nI j), lvU] (r'.toList ++ []) m' Q)) :
    WP G (d + 7) (0, 0) μX10_extremeAhead 55 [.ref (gB G), .int (nI i), .int (nI k), .int (1 : Int32), .int e, .int (nI j), lvU] [] m Q := by
  refine wp_iload dX10_extremeAhead_55 rfl ?_
  refine wp_iload_n dX10_extremeAhead_57 rfl ?_
  refine wp_icmp_ge 112 dX10_extremeAhead_58 (by decide) (fun q1 => ?_) (fun q2 => ?_)
  · have hp3 : ¬ j < k := (fun z => q1 (nlt_ (b := k) z (by omega)))
    refine wp_iload dX10_extremeAhead_112 rfl ?_
    exact wp_iret dX10_extremeAhead_114 rfl (e1 hp3)
  · have hp4 : j < k := (nlt q2 (by omega) (by omega))
    refine wp_aload_n dX10_extremeAhead_61 rfl ?_
    refine wp_getr (gB G + 70) dX10_extremeAhead_62 fX10_16 (ka0 hF) (hF.2 _ _) (rra 70 (isK_le (ka0 hF)) (fun _ => rfl)) ?_
    refine wp_callV (As := []) (S := []) (b' := (0, 0)) (b := (0, 0)) dX10_extremeAhead_65 MX10_172 (kc0 hF (isC2 G)) rfl rfl rfl rfl (Nat.le_of_ble_eq_true rfl) ?_
    exact e2 hp4

theorem jC_ext1 {G : Cx} {d : Nat} {m : Mm} {Q : Option Value → Mm → Prop} {i k j : Nat} {l4 : Int32} {r : Int32} (hF : Full G m) (hi12 : i < 12) (hk : k ≤ 2000) (hj : j < k) 
    (e1 : WP G (d + 7) (0, 0) μX10_extremeAhead 55 [.ref (gB G), .int (nI i), .int (nI k), .int (1 : Int32), .int (imax l4 (fi m 401 (nd (gB G + 70) i))), .int (nI (j + 1)), lvU] [] m Q) :
    WP G (d + 7) (0, 0) μX10_extremeAhead 68 [.ref (gB G), .int (nI i), .int (nI k), .int (1 : Int32), .int l4, .int (nI j), lvU] [.int r] m Q := by
  refine wp_pop dX10_extremeAhead_68 rfl ?_
  refine wp_aload_n dX10_extremeAhead_69 rfl ?_
  refine wp_getr (gB G + 70) dX10_extremeAhead_70 fX10_16 (ka0 hF) (hF.2 _ _) (rra 70 (isK_le (ka0 hF)) (fun _ => rfl)) ?_
  refine wp_getr ((gB G + 70) + 1) dX10_extremeAhead_73 fX10_48 (kc0 hF (isC2 G)) (hF.2 _ _) (rra 1 (isK_le (kc0 hF (isC2 G))) (fun _ => rfl)) ?_
  refine wp_iload_n dX10_extremeAhead_76 rfl ?_
  refine wp_raldk (n := 12) i (nd (gB G + 70) i) dX10_extremeAhead_77 (kc hF (isC2 G) 1 (by decide)) (by decide) (by decide) (lc (isC2 G) 1 (by decide)) (vin (by omega) (by decide)) (nIc (by omega)) (hF.2 _ _) (rnd hF (isC2 G)) ?_
  refine wp_geti (fi m 401 (nd (gB G + 70) i)) dX10_extremeAhead_78 fX10_69 (Or.inl rfl) (knd hF (isC2 G) (by omega)) rfl ?_
  refine wp_istore dX10_extremeAhead_81 (by decide) rfl ?_
  refine wp_iload_n dX10_extremeAhead_83 rfl ?_
  refine wp_if_eq 97 dX10_extremeAhead_84 (by decide) (fun q => absurd q (by decide)) (fun _ => ?_)
  refine wp_iload dX10_extremeAhead_87 rfl ?_
  refine wp_iload dX10_extremeAhead_89 rfl ?_
  refine wp_maxI dX10_extremeAhead_91 AX10_261 (Nat.le_of_ble_eq_true rfl) ?_
  refine wp_goto 104 dX10_extremeAhead_94 (by decide) ?_
  refine wp_istore dX10_extremeAhead_104 (by decide) rfl ?_
  refine wp_iinc (nI (j + 1)) dX10_extremeAhead_106 rfl (by decide) (nadd (a := j) (b := 1) (by omega)) rfl ?_
  refine wp_goto 55 dX10_extremeAhead_109 (by decide) ?_
  refine wp_forget [.ref (gB G), .int (nI i), .int (nI k), .int (1 : Int32), .int (imax l4 (fi m 401 (nd (gB G + 70) i))), .int (nI (j + 1)), lvU] ⟨Or.inl rfl, Or.inl rfl, Or.inl rfl, Or.inl rfl, Or.inl rfl, Or.inl rfl, Or.inr rfl, trivial⟩ ?_
  exact e1

theorem iM_ext1 {G : Cx} {d : Nat} {m : Mm} {Q : Option Value → Mm → Prop} {i n : Nat} {y : Int32} (hF : Full G m) (hn : ai m (gB G + 294) 12 = nI (n + 1)) (hm : n + 1 ≤ 12) (hi : i < n + 1) 
    (e1 : y < (1 : Int32) → Q (some (.int (-1000000002 : Int32))) m)
    (e2 : ¬ y < (1 : Int32) → (2000 : Int32) < y → Q (some (.int (-1000000002 : Int32))) m)
    (e3 : ¬ y < (1 : Int32) → ¬ (2000 : Int32) < y → WPM G (d + 8) (0, 0) μX11_keepState [.ref (gB G + 293)] m (fun r' m' => WP G (d + 9) (0, 0) μX11_extremeAhead 29 [.ref (gB G + 293), .int (nI i), .int y, .int (1 : Int32), lvU, lvU, lvU, lvU] (r'.toList ++ []) m' Q)) :
    WPM G (d + 9) (0, 0) μX11_extremeAhead [.ref (gB G + 293), .int (nI i), .int y, .int (1 : Int32)] m Q := by
  refine WPM.of pX11 (Nat.le_of_ble_eq_true rfl) rfl ?_
  refine wp_aload_n dX11_extremeAhead_0 rfl ?_
  refine wp_iload_n dX11_extremeAhead_1 rfl ?_
  refine wp_callV (As := [.int (nI i)]) (S := []) (b' := (0, 0)) (b := (0, 0)) dX11_extremeAhead_2 MX11_93 (ka hF 293 (by decide)) rfl rfl rfl rfl (Nat.le_of_ble_eq_true rfl) ?_
  refine WPM.of pX11 (Nat.le_of_ble_eq_true rfl) rfl ?_
  refine wp_iload_n dX11_isNode_0 rfl ?_
  refine wp_iconst (0 : Int32) dX11_isNode_1 (by decide) ?_
  refine wp_aload_n dX11_isNode_2 rfl ?_
  refine wp_getr (gB G + 294) dX11_isNode_3 fX11_7 (ka hF 293 (by decide)) (hF.2 _ _) (rra 1 (isK_le (ka hF 293 (by decide))) (fun _ => rfl)) ?_
  refine wp_bipush (12 : Int32) dX11_isNode_6 (by decide) ?_
  refine wp_ialdk (n := 1486) 12 (nI (n + 1)) dX11_isNode_8 (ka hF 294 (by decide)) (la 294) (vinl (by decide)) rfl hn ?_
  refine wp_iconst (1 : Int32) dX11_isNode_9 (by decide) ?_
  refine wp_isubv (nI n) dX11_isNode_10 (nsub (a := n + 1) (b := 1) (by omega)) ?_
  refine wp_callS (As := [.int (nI i), .int (0 : Int32), .int (nI n)]) (S := []) (b' := (0, 0)) (b := (0, 0)) dX11_isNode_11 MX11_67 rfl rfl (Nat.le_of_ble_eq_true rfl) ?_
  refine WPM.of pX11 (Nat.le_of_ble_eq_true rfl) rfl ?_
  refine wp_iload_n dX11_isBetween_0 rfl ?_
  refine wp_iload_n dX11_isBetween_1 rfl ?_
  refine wp_icmp_lt 14 dX11_isBetween_2 (by decide) (fun q => absurd q (nI_pos (by omega))) (fun _ => ?_)
  refine wp_iload_n dX11_isBetween_5 rfl ?_
  refine wp_iload_n dX11_isBetween_6 rfl ?_
  refine wp_icmp_gt 14 dX11_isBetween_7 (by decide) (fun q => absurd q (fun z => (show ¬ n < i by omega) (nlt (a := n) (b := i) z (by omega) (by omega)))) (fun _ => ?_)
  refine wp_iconst (1 : Int32) dX11_isBetween_10 (by decide) ?_
  refine wp_goto 15 dX11_isBetween_11 (by decide) ?_
  refine wp_zret dX11_isBetween_15 rfl rfl ?_
  show WP G (d + 8) (0, 0) μX11_isNode 14 [.ref (gB G + 293), .int (nI i)] [.int (1 : Int32)] m _
  refine wp_zret dX11_isNode_14 rfl rfl ?_
  show WP G (d + 9) (0, 0) μX11_extremeAhead 5 [.ref (gB G + 293), .int (nI i), .int y, .int (1 : Int32), lvU, lvU, lvU, lvU] [.int (1 : Int32)] m _
  refine wp_if_ne 11 dX11_extremeAhead_5 (by decide) (fun _ => ?_) (fun q => absurd q (by decide))
  refine wp_iload_n dX11_extremeAhead_11 rfl ?_
  refine wp_iconst (1 : Int32) dX11_extremeAhead_12 (by decide) ?_
  refine wp_sipush (2000 : Int32) dX11_extremeAhead_13 (by decide) ?_
  refine wp_callS (As := [.int y, .int (1 : Int32), .int (2000 : Int32)]) (S := []) (b' := (0, 0)) (b := (0, 0)) dX11_extremeAhead_16 MX11_67 rfl rfl (Nat.le_of_ble_eq_true rfl) ?_
  refine WPM.of pX11 (Nat.le_of_ble_eq_true rfl) rfl ?_
  refine wp_iload_n dX11_isBetween_0 rfl ?_
  refine wp_iload_n dX11_isBetween_1 rfl ?_
  refine wp_icmp_lt 14 dX11_isBetween_2 (by decide) (fun q1 => ?_) (fun q2 => ?_)
  · skip
    refine wp_iconst (0 : Int32) dX11_isBetween_14 (by decide) ?_
    refine wp_zret dX11_isBetween_15 rfl rfl ?_
    show WP G (d + 9) (0, 0) μX11_extremeAhead 19 [.ref (gB G + 293), .int (nI i), .int y, .int (1 : Int32), lvU, lvU, lvU, lvU] [.int (0 : Int32)] m _
    refine wp_if_ne 25 dX11_extremeAhead_19 (by decide) (fun q => absurd (by decide) q) (fun _ => ?_)
    refine wp_ldc dX11_extremeAhead_22 kX11_79 ?_
    exact wp_iret dX11_extremeAhead_24 rfl (e1 q1)
  · skip
    refine wp_iload_n dX11_isBetween_5 rfl ?_
    refine wp_iload_n dX11_isBetween_6 rfl ?_
    refine wp_icmp_gt 14 dX11_isBetween_7 (by decide) (fun q3 => ?_) (fun q4 => ?_)
    · skip
      refine wp_iconst (0 : Int32) dX11_isBetween_14 (by decide) ?_
      refine wp_zret dX11_isBetween_15 rfl rfl ?_
      show WP G (d + 9) (0, 0) μX11_extremeAhead 19 [.ref (gB G + 293), .int (nI i), .int y, .int (1 : Int32), lvU, lvU, lvU, lvU] [.int (0 : Int32)] m _
      refine wp_if_ne 25 dX11_extremeAhead_19 (by decide) (fun q => absurd (by decide) q) (fun _ => ?_)
      refine wp_ldc dX11_extremeAhead_22 kX11_79 ?_
      exact wp_iret dX11_extremeAhead_24 rfl (e2 q2 q3)
    · skip
      refine wp_iconst (1 : Int32) dX11_isBetween_10 (by decide) ?_
      refine wp_goto 15 dX11_isBetween_11 (by decide) ?_
      refine wp_zret dX11_isBetween_15 rfl rfl ?_
      show WP G (d + 9) (0, 0) μX11_extremeAhead 19 [.ref (gB G + 293), .int (nI i), .int y, .int (1 : Int32), lvU, lvU, lvU, lvU] [.int (1 : Int32)] m _
      refine wp_if_ne 25 dX11_extremeAhead_19 (by decide) (fun _ => ?_) (fun q => absurd q (by decide))
      refine wp_aload_n dX11_extremeAhead_25 rfl ?_
      refine wp_callV (As := []) (S := []) (b' := (0, 0)) (b := (0, 0)) dX11_extremeAhead_26 MX11_199 (ka hF 293 (by decide)) rfl rfl rfl rfl (Nat.le_of_ble_eq_true rfl) ?_
      exact e3 q2 q4

theorem cM_ext1 {G : Cx} {d : Nat} {m : Mm} {Q : Option Value → Mm → Prop} {i : Nat} {l2 : Int32} (hF : Full G m) (hi12 : i < 12) 
    (e1 : WP G (d + 9) (0, 0) μX11_extremeAhead 45 [.ref (gB G + 293), .int (nI i), .int l2, .int (1 : Int32), .int (-200000 : Int32), .int (0 : Int32), lvU, lvU] [] m Q) :
    WP G (d + 9) (0, 0) μX11_extremeAhead 29 [.ref (gB G + 293), .int (nI i), .int l2, .int (1 : Int32), lvU, lvU, lvU, lvU] [] m Q := by
  refine wp_iload_n dX11_extremeAhead_29 rfl ?_
  refine wp_if_eq 38 dX11_extremeAhead_30 (by decide) (fun q => absurd q (by decide)) (fun _ => ?_)
  refine wp_ldc dX11_extremeAhead_33 kX11_71 ?_
  refine wp_goto 40 dX11_extremeAhead_35 (by decide) ?_
  refine wp_istore dX11_extremeAhead_40 (by decide) rfl ?_
  refine wp_iconst (0 : Int32) dX11_extremeAhead_42 (by decide) ?_
  refine wp_istore dX11_extremeAhead_43 (by decide) rfl ?_
  refine wp_forget [.ref (gB G + 293), .int (nI i), .int l2, .int (1 : Int32), .int (-200000 : Int32), .int (0 : Int32), lvU, lvU] ⟨Or.inl rfl, Or.inl rfl, Or.inl rfl, Or.inl rfl, Or.inl rfl, Or.inl rfl, Or.inr rfl, Or.inr rfl, trivial⟩ ?_
  exact e1

theorem bM_ext1 {G : Cx} {d : Nat} {m : Mm} {Q : Option Value → Mm → Prop} {i k j : Nat} {e : Int32} (hF : Full G m) (hi12 : i < 12) (hk : k ≤ 2000) (hj : j ≤ k) 
    (e1 : ¬ j < k → WPM G (d + 8) (0, 0) μX11_putBackState [.ref (gB G + 293)] m (fun r' m' => WP G (d + 9) (0, 0) μX11_extremeAhead 98 [lvU, lvU, lvU, lvU, .int e, lvU, lvU, lvU] (r'.toList ++ []) m' Q))
    (e2 : j < k → WPM G (d + 8) (0, 0) μX11_step [.ref (gB G + 293)] m (fun r' m' => WP G (d + 9) (0, 0) μX11_extremeAhead 55 [.ref (gB G + 293), .int (nI i), .int (nI k), .int (1 : Int32), .int e, .int (nI j), lvU, lvU] (r'.toList ++ []) m' Q)) :
    WP G (d + 9) (0, 0) μX11_extremeAhead 45 [.ref (gB G + 293), .int (nI i), .int (nI k), .int (1 : Int32), .int e, .int (nI j), lvU, lvU] [] m Q := by
  refine wp_iload dX11_extremeAhead_45 rfl ?_
  refine wp_iload_n dX11_extremeAhead_47 rfl ?_
  refine wp_icmp_ge 94 dX11_extremeAhead_48 (by decide) (fun q1 => ?_) (fun q2 => ?_)
  · have hp3 : ¬ j < k := (fun z => q1 (nlt_ (b := k) z (by omega)))
    refine wp_aload_n dX11_extremeAhead_94 rfl ?_
    refine wp_forget [lvU, lvU, lvU, lvU, .int e, lvU, lvU, lvU] ⟨Or.inr rfl, Or.inr rfl, Or.inr rfl, Or.inr rfl, Or.inl rfl, Or.inr rfl, Or.inr rfl, Or.inr rfl, trivial⟩ ?_
    refine wp_callV (As := []) (S := []) (b' := (0, 0)) (b := (0, 0)) dX11_extremeAhead_95 MX11_205 (ka hF 293 (by decide)) rfl rfl rfl rfl (Nat.le_of_ble_eq_true rfl) ?_
    exact e1 hp3
  · have hp4 : j < k := (nlt q2 (by omega) (by omega))
    refine wp_aload_n dX11_extremeAhead_51 rfl ?_
    refine wp_callV (As := []) (S := []) (b' := (0, 0)) (b := (0, 0)) dX11_extremeAhead_52 MX11_182 (ka hF 293 (by decide)) rfl rfl rfl rfl (Nat.le_of_ble_eq_true rfl) ?_
    exact e2 hp4

theorem jM_ext1 {G : Cx} {d : Nat} {m : Mm} {Q : Option Value → Mm → Prop} {i k j : Nat} {l4 : Int32} {r : Int32} (hF : Full G m) (hi12 : i < 12) (hk : k ≤ 2000) (hj : j < k) 
    (e1 : WP G (d + 9) (0, 0) μX11_extremeAhead 45 [.ref (gB G + 293), .int (nI i), .int (nI k), .int (1 : Int32), .int (imax l4 (ai m (gB G + 294) (11 * i + 21))), .int (nI (j + 1)), lvU, lvU] [] m Q) :
    WP G (d + 9) (0, 0) μX11_extremeAhead 55 [.ref (gB G + 293), .int (nI i), .int (nI k), .int (1 : Int32), .int l4, .int (nI j), lvU, lvU] [.int r] m Q := by
  refine wp_istore dX11_extremeAhead_55 (by decide) rfl ?_
  refine wp_aload_n dX11_extremeAhead_57 rfl ?_
  refine wp_iload_n dX11_extremeAhead_58 rfl ?_
  refine wp_iconst (1 : Int32) dX11_extremeAhead_59 (by decide) ?_
  refine wp_callV (As := [.int (nI i), .int (1 : Int32)]) (S := []) (b' := (0, 0)) (b := (0, 0)) dX11_extremeAhead_60 MX11_89 (ka hF 293 (by decide)) rfl rfl rfl rfl (Nat.le_of_ble_eq_true rfl) ?_
  refine WPM.of pX11 (Nat.le_of_ble_eq_true rfl) rfl ?_
  refine wp_aload_n dX11_node_0 rfl ?_
  refine wp_getr (gB G + 294) dX11_node_1 fX11_7 (ka hF 293 (by decide)) (hF.2 _ _) (rra 1 (isK_le (ka hF 293 (by decide))) (fun _ => rfl)) ?_
  refine wp_bipush (20 : Int32) dX11_node_4 (by decide) ?_
  refine wp_bipush (11 : Int32) dX11_node_6 (by decide) ?_
  refine wp_iload_n dX11_node_8 rfl ?_
  refine wp_imulv (nI (11 * i)) dX11_node_9 (nmul (a := 11) (b := i) (by omega)) ?_
  refine wp_iaddv (nI (11 * i + 20)) dX11_node_10 (nadd (a := 20) (b := 11 * i) (by omega)) ?_
  refine wp_iload_n dX11_node_11 rfl ?_
  refine wp_iaddv (nI (11 * i + 21)) dX11_node_12 (nadd (a := 11 * i + 20) (b := 1) (by omega)) ?_
  refine wp_ialdk (n := 1486) (11 * i + 21) (ai m (gB G + 294) (11 * i + 21)) dX11_node_13 (ka hF 294 (by decide)) (la 294) (vin (by omega) (by decide)) (nIc (by omega)) rfl ?_
  refine wp_iret dX11_node_14 rfl ?_
  show WP G (d + 9) (0, 0) μX11_extremeAhead 63 [.ref (gB G + 293), .int (nI i), .int (nI k), .int (1 : Int32), .int l4, .int (nI j), .int r, lvU] [.int (ai m (gB G + 294) (11 * i + 21))] m _
  refine wp_istore dX11_extremeAhead_63 (by decide) rfl ?_
  refine wp_iload_n dX11_extremeAhead_65 rfl ?_
  refine wp_if_eq 79 dX11_extremeAhead_66 (by decide) (fun q => absurd q (by decide)) (fun _ => ?_)
  refine wp_iload dX11_extremeAhead_69 rfl ?_
  refine wp_iload dX11_extremeAhead_71 rfl ?_
  refine wp_maxI dX11_extremeAhead_73 AX11_161 (Nat.le_of_ble_eq_true rfl) ?_
  refine wp_goto 86 dX11_extremeAhead_76 (by decide) ?_
  refine wp_istore dX11_extremeAhead_86 (by decide) rfl ?_
  refine wp_iinc (nI (j + 1)) dX11_extremeAhead_88 rfl (by decide) (nadd (a := j) (b := 1) (by omega)) rfl ?_
  refine wp_goto 45 dX11_extremeAhead_91 (by decide) ?_
  refine wp_forget [.ref (gB G + 293), .int (nI i), .int (nI k), .int (1 : Int32), .int (imax l4 (ai m (gB G + 294) (11 * i + 21))), .int (nI (j + 1)), lvU, lvU] ⟨Or.inl rfl, Or.inl rfl, Or.inl rfl, Or.inl rfl, Or.inl rfl, Or.inl rfl, Or.inr rfl, Or.inr rfl, trivial⟩ ?_
  exact e1

theorem fM_ext1 {G : Cx} {d : Nat} {m : Mm} {Q : Option Value → Mm → Prop} {l4 : Int32} (hF : Full G m) 
    (e1 : Q (some (.int l4)) m) :
    WP G (d + 9) (0, 0) μX11_extremeAhead 98 [lvU, lvU, lvU, lvU, .int l4, lvU, lvU, lvU] [] m Q := by
  refine wp_iload dX11_extremeAhead_98 rfl ?_
  exact wp_iret dX11_extremeAhead_100 rfl (e1)

theorem aC_ext1 {G : Cx} {d : Nat} {m : Mm} {Q : Option Value → Mm → Prop} {x y : Int32} {n : Nat} (hF : Full G m) (hn : fi m 5 (gB G + 1) = nI n) (hm : n ≤ 12) (hx : x < 0) 
    (e1 : Q (some (.int (-1000000001 : Int32))) m) :
    WPM G (d + 7) (0, 0) μX10_extremeAhead [.ref (gB G), .int x, .int y, .int (1 : Int32)] m Q := by
  refine WPM.of pX10 (Nat.le_of_ble_eq_true rfl) rfl ?_
  refine wp_aload_n dX10_extremeAhead_0 rfl ?_
  refine wp_getr (gB G + 1) dX10_extremeAhead_1 fX10_10 (ka0 hF) (hF.2 _ _) (rra 1 (isK_le (ka0 hF)) (fun _ => rfl)) ?_
  refine wp_iload_n dX10_extremeAhead_4 rfl ?_
  refine wp_callV (As := [.int x]) (S := []) (b' := (0, 0)) (b := (0, 0)) dX10_extremeAhead_5 MX10_58 (kc0 hF (isC1 G)) rfl rfl rfl rfl (Nat.le_of_ble_eq_true rfl) ?_
  refine WPM.of pX0 (Nat.le_of_ble_eq_true rfl) rfl ?_
  refine wp_iload_n dX0_hasNode_0 rfl ?_
  refine wp_if_lt 16 dX0_hasNode_1 (by decide) (fun _ => ?_) (fun q => absurd hx q)
  refine wp_iconst (0 : Int32) dX0_hasNode_16 (by decide) ?_
  refine wp_zret dX0_hasNode_17 rfl rfl ?_
  show WP G (d + 7) (0, 0) μX10_extremeAhead 8 [.ref (gB G), .int x, .int y, .int (1 : Int32), lvU, lvU, lvU] [.int (0 : Int32)] m _
  refine wp_if_ne 14 dX10_extremeAhead_8 (by decide) (fun q => absurd (by decide) q) (fun _ => ?_)
  refine wp_ldc dX10_extremeAhead_11 kX10_62 ?_
  exact wp_iret dX10_extremeAhead_13 rfl (e1)

theorem aM_ext1 {G : Cx} {d : Nat} {m : Mm} {Q : Option Value → Mm → Prop} {x y : Int32} {n : Nat} (hF : Full G m) (hn : ai m (gB G + 294) 12 = nI n) (hm : n ≤ 12) (hx : x < 0) 
    (e1 : Q (some (.int (-1000000001 : Int32))) m) :
    WPM G (d + 9) (0, 0) μX11_extremeAhead [.ref (gB G + 293), .int x, .int y, .int (1 : Int32)] m Q := by
  refine WPM.of pX11 (Nat.le_of_ble_eq_true rfl) rfl ?_
  refine wp_aload_n dX11_extremeAhead_0 rfl ?_
  refine wp_iload_n dX11_extremeAhead_1 rfl ?_
  refine wp_callV (As := [.int x]) (S := []) (b' := (0, 0)) (b := (0, 0)) dX11_extremeAhead_2 MX11_93 (ka hF 293 (by decide)) rfl rfl rfl rfl (Nat.le_of_ble_eq_true rfl) ?_
  refine WPM.of pX11 (Nat.le_of_ble_eq_true rfl) rfl ?_
  refine wp_iload_n dX11_isNode_0 rfl ?_
  refine wp_iconst (0 : Int32) dX11_isNode_1 (by decide) ?_
  refine wp_aload_n dX11_isNode_2 rfl ?_
  refine wp_getr (gB G + 294) dX11_isNode_3 fX11_7 (ka hF 293 (by decide)) (hF.2 _ _) (rra 1 (isK_le (ka hF 293 (by decide))) (fun _ => rfl)) ?_
  refine wp_bipush (12 : Int32) dX11_isNode_6 (by decide) ?_
  refine wp_ialdk (n := 1486) 12 (nI n) dX11_isNode_8 (ka hF 294 (by decide)) (la 294) (vinl (by decide)) rfl hn ?_
  refine wp_iconst (1 : Int32) dX11_isNode_9 (by decide) ?_
  refine wp_isubv ((nI n) - (1 : Int32)) dX11_isNode_10 rfl ?_
  refine wp_callS (As := [.int x, .int (0 : Int32), .int ((nI n) - (1 : Int32))]) (S := []) (b' := (0, 0)) (b := (0, 0)) dX11_isNode_11 MX11_67 rfl rfl (Nat.le_of_ble_eq_true rfl) ?_
  refine WPM.of pX11 (Nat.le_of_ble_eq_true rfl) rfl ?_
  refine wp_iload_n dX11_isBetween_0 rfl ?_
  refine wp_iload_n dX11_isBetween_1 rfl ?_
  refine wp_icmp_lt 14 dX11_isBetween_2 (by decide) (fun _ => ?_) (fun q => absurd hx q)
  refine wp_iconst (0 : Int32) dX11_isBetween_14 (by decide) ?_
  refine wp_zret dX11_isBetween_15 rfl rfl ?_
  show WP G (d + 8) (0, 0) μX11_isNode 14 [.ref (gB G + 293), .int x] [.int (0 : Int32)] m _
  refine wp_zret dX11_isNode_14 rfl rfl ?_
  show WP G (d + 9) (0, 0) μX11_extremeAhead 5 [.ref (gB G + 293), .int x, .int y, .int (1 : Int32), lvU, lvU, lvU, lvU] [.int (0 : Int32)] m _
  refine wp_if_ne 11 dX11_extremeAhead_5 (by decide) (fun q => absurd (by decide) q) (fun _ => ?_)
  refine wp_ldc dX11_extremeAhead_8 kX11_96 ?_
  exact wp_iret dX11_extremeAhead_10 rfl (e1)

theorem bC_ext1x {G : Cx} {d : Nat} {m : Mm} {Q : Option Value → Mm → Prop} {x y : Int32} {n : Nat} (hF : Full G m) (hn : fi m 5 (gB G + 1) = nI n) (hm : n ≤ 12) (hxa : ¬ x < 0) (hxb : ¬ x < nI n) 
    (e1 : Q (some (.int (-1000000001 : Int32))) m) :
    WPM G (d + 7) (0, 0) μX10_extremeAhead [.ref (gB G), .int x, .int y, .int (1 : Int32)] m Q := by
  refine WPM.of pX10 (Nat.le_of_ble_eq_true rfl) rfl ?_
  refine wp_aload_n dX10_extremeAhead_0 rfl ?_
  refine wp_getr (gB G + 1) dX10_extremeAhead_1 fX10_10 (ka0 hF) (hF.2 _ _) (rra 1 (isK_le (ka0 hF)) (fun _ => rfl)) ?_
  refine wp_iload_n dX10_extremeAhead_4 rfl ?_
  refine wp_callV (As := [.int x]) (S := []) (b' := (0, 0)) (b := (0, 0)) dX10_extremeAhead_5 MX10_58 (kc0 hF (isC1 G)) rfl rfl rfl rfl (Nat.le_of_ble_eq_true rfl) ?_
  refine WPM.of pX0 (Nat.le_of_ble_eq_true rfl) rfl ?_
  refine wp_iload_n dX0_hasNode_0 rfl ?_
  refine wp_if_lt 16 dX0_hasNode_1 (by decide) (fun q => absurd q hxa) (fun _ => ?_)
  refine wp_iload_n dX0_hasNode_4 rfl ?_
  refine wp_aload_n dX0_hasNode_5 rfl ?_
  refine wp_geti (nI n) dX0_hasNode_6 fX0_75 (Or.inl rfl) (kc0 hF (isC1 G)) hn ?_
  refine wp_icmp_ge 16 dX0_hasNode_9 (by decide) (fun _ => ?_) (fun q => absurd q hxb)
  refine wp_iconst (0 : Int32) dX0_hasNode_16 (by decide) ?_
  refine wp_zret dX0_hasNode_17 rfl rfl ?_
  show WP G (d + 7) (0, 0) μX10_extremeAhead 8 [.ref (gB G), .int x, .int y, .int (1 : Int32), lvU, lvU, lvU] [.int (0 : Int32)] m _
  refine wp_if_ne 14 dX10_extremeAhead_8 (by decide) (fun q => absurd (by decide) q) (fun _ => ?_)
  refine wp_ldc dX10_extremeAhead_11 kX10_62 ?_
  exact wp_iret dX10_extremeAhead_13 rfl (e1)

theorem bM_ext1x {G : Cx} {d : Nat} {m : Mm} {Q : Option Value → Mm → Prop} {x y : Int32} {n : Nat} (hF : Full G m) (hn : ai m (gB G + 294) 12 = nI n) (hm : n ≤ 12) (hxa : ¬ x < 0) (hxb : ¬ x < nI n) 
    (e1 : Q (some (.int (-1000000001 : Int32))) m) :
    WPM G (d + 9) (0, 0) μX11_extremeAhead [.ref (gB G + 293), .int x, .int y, .int (1 : Int32)] m Q := by
  refine WPM.of pX11 (Nat.le_of_ble_eq_true rfl) rfl ?_
  refine wp_aload_n dX11_extremeAhead_0 rfl ?_
  refine wp_iload_n dX11_extremeAhead_1 rfl ?_
  refine wp_callV (As := [.int x]) (S := []) (b' := (0, 0)) (b := (0, 0)) dX11_extremeAhead_2 MX11_93 (ka hF 293 (by decide)) rfl rfl rfl rfl (Nat.le_of_ble_eq_true rfl) ?_
  refine WPM.of pX11 (Nat.le_of_ble_eq_true rfl) rfl ?_
  refine wp_iload_n dX11_isNode_0 rfl ?_
  refine wp_iconst (0 : Int32) dX11_isNode_1 (by decide) ?_
  refine wp_aload_n dX11_isNode_2 rfl ?_
  refine wp_getr (gB G + 294) dX11_isNode_3 fX11_7 (ka hF 293 (by decide)) (hF.2 _ _) (rra 1 (isK_le (ka hF 293 (by decide))) (fun _ => rfl)) ?_
  refine wp_bipush (12 : Int32) dX11_isNode_6 (by decide) ?_
  refine wp_ialdk (n := 1486) 12 (nI n) dX11_isNode_8 (ka hF 294 (by decide)) (la 294) (vinl (by decide)) rfl hn ?_
  refine wp_iconst (1 : Int32) dX11_isNode_9 (by decide) ?_
  refine wp_isubv ((nI n) - (1 : Int32)) dX11_isNode_10 rfl ?_
  refine wp_callS (As := [.int x, .int (0 : Int32), .int ((nI n) - (1 : Int32))]) (S := []) (b' := (0, 0)) (b := (0, 0)) dX11_isNode_11 MX11_67 rfl rfl (Nat.le_of_ble_eq_true rfl) ?_
  refine WPM.of pX11 (Nat.le_of_ble_eq_true rfl) rfl ?_
  refine wp_iload_n dX11_isBetween_0 rfl ?_
  refine wp_iload_n dX11_isBetween_1 rfl ?_
  refine wp_icmp_lt 14 dX11_isBetween_2 (by decide) (fun q => absurd q hxa) (fun _ => ?_)
  refine wp_iload_n dX11_isBetween_5 rfl ?_
  refine wp_iload_n dX11_isBetween_6 rfl ?_
  refine wp_icmp_gt 14 dX11_isBetween_7 (by decide) (fun _ => ?_) (fun q => absurd (sub_lt (by omega) hxa hxb) q)
  refine wp_iconst (0 : Int32) dX11_isBetween_14 (by decide) ?_
  refine wp_zret dX11_isBetween_15 rfl rfl ?_
  show WP G (d + 8) (0, 0) μX11_isNode 14 [.ref (gB G + 293), .int x] [.int (0 : Int32)] m _
  refine wp_zret dX11_isNode_14 rfl rfl ?_
  show WP G (d + 9) (0, 0) μX11_extremeAhead 5 [.ref (gB G + 293), .int x, .int y, .int (1 : Int32), lvU, lvU, lvU, lvU] [.int (0 : Int32)] m _
  refine wp_if_ne 11 dX11_extremeAhead_5 (by decide) (fun q => absurd (by decide) q) (fun _ => ?_)
  refine wp_ldc dX11_extremeAhead_8 kX11_96 ?_
  exact wp_iret dX11_extremeAhead_10 rfl (e1)

theorem eC_ts {G : Cx} {d : Nat} {m : Mm} {Q : Option Value → Mm → Prop} {k : Nat} (hF : Full G m) 
    (e1 : WP G (d + 7) (0, 0) μX10_trialSurvives 2 [.ref (gB G), .int (nI k), .int (0 : Int32)] [] m Q) :
    WPM G (d + 7) (0, 0) μX10_trialSurvives [.ref (gB G), .int (nI k)] m Q := by
  refine WPM.of pX10 (Nat.le_of_ble_eq_true rfl) rfl ?_
  refine wp_iconst (0 : Int32) dX10_trialSurvives_0 (by decide) ?_
  refine wp_istore_n dX10_trialSurvives_1 (by decide) rfl ?_
  refine wp_forget [.ref (gB G), .int (nI k), .int (0 : Int32)] ⟨Or.inl rfl, Or.inl rfl, Or.inl rfl, trivial⟩ ?_
  exact e1

theorem bC_ts {G : Cx} {d : Nat} {m : Mm} {Q : Option Value → Mm → Prop} {k j : Nat} (hF : Full G m) (hk : k ≤ 2000) (hj : j ≤ k)
    (e1 : ¬ j < k → Q (some (.int (1 : Int32))) m)
    (e2 : j < k → WPM G (d + 6) (0, 0) μX0_step [.ref (gB G + 70)] m (fun r' m' => WP G (d + 7) (0, 0) μX10_trialSurvives 14 [.ref (gB G), .int (nI k), .int (nI j)] (r'.toList ++ []) m' Q)) :
    WP G (d + 7) (0, 0) μX10_trialSurvives 2 [.ref (gB G), .int (nI k), .int (nI j)] [] m Q := by
  refine wp_iload_n dX10_trialSurvives_2 rfl ?_
  refine wp_iload_n dX10_trialSurvives_3 rfl ?_
  refine wp_icmp_ge 25 dX10_trialSurvives_4 (by decide) (fun q1 => ?_) (fun q2 => ?_)
  · have hp3 : ¬ j < k := (fun z => q1 (nlt_ (b := k) z (by omega)))
    refine wp_iconst (1 : Int32) dX10_trialSurvives_25 (by decide) ?_
    exact wp_zret dX10_trialSurvives_26 rfl rfl (e1 hp3)
  · have hp4 : j < k := (nlt q2 (by omega) (by omega))
    refine wp_aload_n dX10_trialSurvives_7 rfl ?_
    refine wp_getr (gB G + 70) dX10_trialSurvives_8 fX10_16 (ka0 hF) (hF.2 _ _) (rra 70 (isK_le (ka0 hF)) (fun _ => rfl)) ?_
    refine wp_callV (As := []) (S := []) (b' := (0, 0)) (b := (0, 0)) dX10_trialSurvives_11 MX10_172 (kc0 hF (isC2 G)) rfl rfl rfl rfl (Nat.le_of_ble_eq_true rfl) ?_
    exact e2 hp4

theorem jC_ts {G : Cx} {d : Nat} {m : Mm} {Q : Option Value → Mm → Prop} {k j : Nat} {r : Int32} (hF : Full G m) (hk : k ≤ 2000) (hj : j < k)
    (e1 : r = 0 → WP G (d + 7) (0, 0) μX10_trialSurvives 2 [.ref (gB G), .int (nI k), .int (nI (j + 1))] [] m Q)
    (e2 : ¬ r = 0 → Q (some (.int (0 : Int32))) m) :
    WP G (d + 7) (0, 0) μX10_trialSurvives 14 [.ref (gB G), .int (nI k), .int (nI j)] [.int r] m Q := by
  refine wp_if_eq 19 dX10_trialSurvives_14 (by decide) (fun q1 => ?_) (fun q2 => ?_)
  · skip
    refine wp_iinc (nI (j + 1)) dX10_trialSurvives_19 rfl (by decide) (nadd (a := j) (b := 1) (by omega)) rfl ?_
    refine wp_goto 2 dX10_trialSurvives_22 (by decide) ?_
    refine wp_forget [.ref (gB G), .int (nI k), .int (nI (j + 1))] ⟨Or.inl rfl, Or.inl rfl, Or.inl rfl, trivial⟩ ?_
    exact e1 q1
  · skip
    refine wp_iconst (0 : Int32) dX10_trialSurvives_17 (by decide) ?_
    exact wp_zret dX10_trialSurvives_18 rfl rfl (e2 q2)

theorem iC_lhp {G : Cx} {d : Nat} {m : Mm} {Q : Option Value → Mm → Prop} {i n : Nat} {y : Int32} (hF : Full G m) (hn : fi m 8 (gB G + 1) = nI (n + 1)) (hm : n + 1 ≤ 8) (hi : i < n + 1) 
    (e1 : y < (1 : Int32) → Q (some (.int (-1000000002 : Int32))) m)
    (e2 : ¬ y < (1 : Int32) → (200 : Int32) < y → Q (some (.int (-1000000002 : Int32))) m)
    (e3 : ¬ y < (1 : Int32) → ¬ (200 : Int32) < y → WP G (d + 8) (0, 0) μX10_leastHeaterPower 30 [.ref (gB G), .int (nI i), .int y, .int (0 : Int32)] [] m Q) :
    WPM G (d + 8) (0, 0) μX10_leastHeaterPower [.ref (gB G), .int (nI i), .int y] m Q := by
  refine WPM.of pX10 (Nat.le_of_ble_eq_true rfl) rfl ?_
  refine wp_aload_n dX10_leastHeaterPower_0 rfl ?_
  refine wp_getr (gB G + 1) dX10_leastHeaterPower_1 fX10_10 (ka0 hF) (hF.2 _ _) (rra 1 (isK_le (ka0 hF)) (fun _ => rfl)) ?_
  refine wp_iload_n dX10_leastHeaterPower_4 rfl ?_
  refine wp_callV (As := [.int (nI i)]) (S := []) (b' := (0, 0)) (b := (0, 0)) dX10_leastHeaterPower_5 MX10_137 (kc0 hF (isC1 G)) rfl rfl rfl rfl (Nat.le_of_ble_eq_true rfl) ?_
  refine WPM.of pX0 (Nat.le_of_ble_eq_true rfl) rfl ?_
  refine wp_iload_n dX0_hasHeater_0 rfl ?_
  refine wp_if_lt 16 dX0_hasHeater_1 (by decide) (fun q => absurd q (nI_pos (by omega))) (fun _ => ?_)
  refine wp_iload_n dX0_hasHeater_4 rfl ?_
  refine wp_aload_n dX0_hasHeater_5 rfl ?_
  refine wp_geti (nI (n + 1)) dX0_hasHeater_6 fX0_94 (Or.inl rfl) (kc0 hF (isC1 G)) hn ?_
  refine wp_icmp_ge 16 dX0_hasHeater_9 (by decide) (fun q => absurd (nlt_ (a := i) (b := n + 1) hi (by omega)) q) (fun _ => ?_)
  refine wp_iconst (1 : Int32) dX0_hasHeater_12 (by decide) ?_
  refine wp_goto 17 dX0_hasHeater_13 (by decide) ?_
  refine wp_zret dX0_hasHeater_17 rfl rfl ?_
  show WP G (d + 8) (0, 0) μX10_leastHeaterPower 8 [.ref (gB G), .int (nI i), .int y, lvU] [.int (1 : Int32)] m _
  refine wp_if_ne 14 dX10_leastHeaterPower_8 (by decide) (fun _ => ?_) (fun q => absurd q (by decide))
  refine wp_iload_n dX10_leastHeaterPower_14 rfl ?_
  refine wp_iconst (1 : Int32) dX10_leastHeaterPower_15 (by decide) ?_
  refine wp_sipush (200 : Int32) dX10_leastHeaterPower_16 (by decide) ?_
  refine wp_callS (As := [.int y, .int (1 : Int32), .int (200 : Int32)]) (S := []) (b' := (0, 0)) (b := (0, 0)) dX10_leastHeaterPower_19 MX10_35 rfl rfl (Nat.le_of_ble_eq_true rfl) ?_
  refine WPM.of pX10 (Nat.le_of_ble_eq_true rfl) rfl ?_
  refine wp_iload_n dX10_within_0 rfl ?_
  refine wp_iload_n dX10_within_1 rfl ?_
  refine wp_icmp_lt 14 dX10_within_2 (by decide) (fun q1 => ?_) (fun q2 => ?_)
  · skip
    refine wp_iconst (0 : Int32) dX10_within_14 (by decide) ?_
    refine wp_zret dX10_within_15 rfl rfl ?_
    show WP G (d + 8) (0, 0) μX10_leastHeaterPower 22 [.ref (gB G), .int (nI i), .int y, lvU] [.int (0 : Int32)] m _
    refine wp_if_ne 28 dX10_leastHeaterPower_22 (by decide) (fun q => absurd (by decide) q) (fun _ => ?_)
    refine wp_ldc dX10_leastHeaterPower_25 kX10_42 ?_
    exact wp_iret dX10_leastHeaterPower_27 rfl (e1 q1)
  · skip
    refine wp_iload_n dX10_within_5 rfl ?_
    refine wp_iload_n dX10_within_6 rfl ?_
    refine wp_icmp_gt 14 dX10_within_7 (by decide) (fun q3 => ?_) (fun q4 => ?_)
    · skip
      refine wp_iconst (0 : Int32) dX10_within_14 (by decide) ?_
      refine wp_zret dX10_within_15 rfl rfl ?_
      show WP G (d + 8) (0, 0) μX10_leastHeaterPower 22 [.ref (gB G), .int (nI i), .int y, lvU] [.int (0 : Int32)] m _
      refine wp_if_ne 28 dX10_leastHeaterPower_22 (by decide) (fun q => absurd (by decide) q) (fun _ => ?_)
      refine wp_ldc dX10_leastHeaterPower_25 kX10_42 ?_
      exact wp_iret dX10_leastHeaterPower_27 rfl (e2 q2 q3)
    · skip
      refine wp_iconst (1 : Int32) dX10_within_10 (by decide) ?_
      refine wp_goto 15 dX10_within_11 (by decide) ?_
      refine wp_zret dX10_within_15 rfl rfl ?_
      show WP G (d + 8) (0, 0) μX10_leastHeaterPower 22 [.ref (gB G), .int (nI i), .int y, lvU] [.int (1 : Int32)] m _
      refine wp_if_ne 28 dX10_leastHeaterPower_22 (by decide) (fun _ => ?_) (fun q => absurd q (by decide))
      refine wp_iconst (0 : Int32) dX10_leastHeaterPower_28 (by decide) ?_
      refine wp_istore_n dX10_leastHeaterPower_29 (by decide) rfl ?_
      refine wp_forget [.ref (gB G), .int (nI i), .int y, .int (0 : Int32)] ⟨Or.inl rfl, Or.inl rfl, Or.inl rfl, Or.inl rfl, trivial⟩ ?_
      exact e3 q2 q4

theorem bC_lhp {G : Cx} {d : Nat} {m : Mm} {Q : Option Value → Mm → Prop} {i k j : Nat} (hF : Full G m) (hi : i < 8) (hk : k ≤ 200) (hj : j ≤ 31) 
    (e1 : 30000 < 1000 * j → Q (some (.int (-1 : Int32))) m)
    (e2 : ¬ 30000 < 1000 * j → WPM G (d + 7) (0, 0) μX0_copyFrom [.ref (gB G + 70), .ref (gB G + 1)] m (fun r' m' => WP G (d + 8) (0, 0) μX10_leastHeaterPower 48 [.ref (gB G), .int (nI i), .int (nI k), .int (nI (1000 * j))] (r'.toList ++ []) m' Q)) :
    WP G (d + 8) (0, 0) μX10_leastHeaterPower 30 [.ref (gB G), .int (nI i), .int (nI k), .int (nI (1000 * j))] [] m Q := by
  refine wp_iload_n dX10_leastHeaterPower_30 rfl ?_
  refine wp_sipush (30000 : Int32) dX10_leastHeaterPower_31 (by decide) ?_
  refine wp_icmp_gt 80 dX10_leastHeaterPower_34 (by decide) (fun q1 => ?_) (fun q2 => ?_)
  · have hp3 : 30000 < 1000 * j := (nlt q1 (by omega) (by omega))
    refine wp_iconst (-1 : Int32) dX10_leastHeaterPower_80 (by decide) ?_
    exact wp_iret dX10_leastHeaterPower_81 rfl (e1 hp3)
  · have hp4 : ¬ 30000 < 1000 * j := (fun z => q2 (nlt_ (b := 1000 * j) z (by omega)))
    refine wp_aload_n dX10_leastHeaterPower_37 rfl ?_
    refine wp_getr (gB G + 70) dX10_leastHeaterPower_38 fX10_16 (ka0 hF) (hF.2 _ _) (rra 70 (isK_le (ka0 hF)) (fun _ => rfl)) ?_
    refine wp_aload_n dX10_leastHeaterPower_41 rfl ?_
    refine wp_getr (gB G + 1) dX10_leastHeaterPower_42 fX10_10 (ka0 hF) (hF.2 _ _) (rra 1 (isK_le (ka0 hF)) (fun _ => rfl)) ?_
    refine wp_callV (As := [.ref (gB G + 1)]) (S := []) (b' := (0, 0)) (b := (0, 0)) dX10_leastHeaterPower_45 MX10_254 (kc0 hF (isC2 G)) rfl rfl rfl rfl (Nat.le_of_ble_eq_true rfl) ?_
    exact e2 hp4

theorem cC_lhp {G : Cx} {d : Nat} {m : Mm} {Q : Option Value → Mm → Prop} {i k j : Nat} (hF : Full G m) (hi : i < 8) (hk : k ≤ 200) (hj : j < 31) 
    (e1 : WPM G (d + 7) (0, 0) μX10_trialSurvives [.ref (gB G), .int (nI k)] (wfi m 101 (ht (gB G + 70) i) (nI (1000 * j))) (fun r' m' => WP G (d + 8) (0, 0) μX10_leastHeaterPower 66 [.ref (gB G), .int (nI i), .int (nI k), .int (nI (1000 * j))] (r'.toList ++ []) m' Q)) :
    WP G (d + 8) (0, 0) μX10_leastHeaterPower 48 [.ref (gB G), .int (nI i), .int (nI k), .int (nI (1000 * j))] [] m Q := by
  refine wp_aload_n dX10_leastHeaterPower_48 rfl ?_
  refine wp_getr (gB G + 70) dX10_leastHeaterPower_49 fX10_16 (ka0 hF) (hF.2 _ _) (rra 70 (isK_le (ka0 hF)) (fun _ => rfl)) ?_
  refine wp_getr ((gB G + 70) + 4) dX10_leastHeaterPower_52 fX10_113 (kc0 hF (isC2 G)) (hF.2 _ _) (rra 4 (isK_le (kc0 hF (isC2 G))) (fun _ => rfl)) ?_
  refine wp_iload_n dX10_leastHeaterPower_55 rfl ?_
  refine wp_raldk (n := 8) i (ht (gB G + 70) i) dX10_leastHeaterPower_56 (kc hF (isC2 G) 4 (by decide)) (by decide) (by decide) (lc (isC2 G) 4 (by decide)) (vin (by omega) (by decide)) (nIc (by omega)) (hF.2 _ _) (rht hF (isC2 G)) ?_
  refine wp_iload_n dX10_leastHeaterPower_57 rfl ?_
  refine wp_puti dX10_leastHeaterPower_58 pX10_264 (kht hF (isC2 G) (by omega)) ?_
  have hF1 := Full_wfi 101 (ht (gB G + 70) i) (nI (1000 * j)) hF
  refine wp_aload_n dX10_leastHeaterPower_61 rfl ?_
  refine wp_iload_n dX10_leastHeaterPower_62 rfl ?_
  refine wp_callV (As := [.int (nI k)]) (S := []) (b' := (0, 0)) (b := (0, 0)) dX10_leastHeaterPower_63 MX10_267 (ka0 hF1) rfl rfl rfl rfl (Nat.le_of_ble_eq_true rfl) ?_
  exact e1

theorem dC_lhp {G : Cx} {d : Nat} {m : Mm} {Q : Option Value → Mm → Prop} {i k j : Nat} {r : Int32} (hF : Full G m) (hi : i < 8) (hk : k ≤ 200) (hj : j < 31) 
    (e1 : r = 0 → WP G (d + 8) (0, 0) μX10_leastHeaterPower 30 [.ref (gB G), .int (nI i), .int (nI k), .int (nI (1000 * j + 1000))] [] m Q)
    (e2 : ¬ r = 0 → Q (some (.int (nI (1000 * j)))) m) :
    WP G (d + 8) (0, 0) μX10_leastHeaterPower 66 [.ref (gB G), .int (nI i), .int (nI k), .int (nI (1000 * j))] [.int r] m Q := by
  refine wp_if_eq 71 dX10_leastHeaterPower_66 (by decide) (fun q1 => ?_) (fun q2 => ?_)
  · skip
    refine wp_iincw (nI (1000 * j + 1000)) dX10_leastHeaterPower_71 rfl (by decide) (nadd (a := 1000 * j) (b := 1000) (by omega)) rfl ?_
    refine wp_goto 30 dX10_leastHeaterPower_77 (by decide) ?_
    refine wp_forget [.ref (gB G), .int (nI i), .int (nI k), .int (nI (1000 * j + 1000))] ⟨Or.inl rfl, Or.inl rfl, Or.inl rfl, Or.inl rfl, trivial⟩ ?_
    exact e1 q1
  · skip
    refine wp_iload_n dX10_leastHeaterPower_69 rfl ?_
    exact wp_iret dX10_leastHeaterPower_70 rfl (e2 q2)

theorem iM_lhp {G : Cx} {d : Nat} {m : Mm} {Q : Option Value → Mm → Prop} {i n : Nat} {y : Int32} (hF : Full G m) (hn : ai m (gB G + 294) 14 = nI (n + 1)) (hm : n + 1 ≤ 8) (hi : i < n + 1) 
    (e1 : y < (1 : Int32) → Q (some (.int (-1000000002 : Int32))) m)
    (e2 : ¬ y < (1 : Int32) → (200 : Int32) < y → Q (some (.int (-1000000002 : Int32))) m)
    (e3 : ¬ y < (1 : Int32) → ¬ (200 : Int32) < y → WPM G (d + 9) (0, 0) μX11_leastValue [.ref (gB G + 293), .int (nI (8 * i + 339)), .int (1000 : Int32), .int y] m (fun r' m' => WP G (d + 10) (0, 0) μX11_leastHeaterPower 40 [lvU, lvU, lvU] (r'.toList ++ []) m' Q)) :
    WPM G (d + 10) (0, 0) μX11_leastHeaterPower [.ref (gB G + 293), .int (nI i), .int y] m Q := by
  refine WPM.of pX11 (Nat.le_of_ble_eq_true rfl) rfl ?_
  refine wp_aload_n dX11_leastHeaterPower_0 rfl ?_
  refine wp_iload_n dX11_leastHeaterPower_1 rfl ?_
  refine wp_callV (As := [.int (nI i)]) (S := []) (b' := (0, 0)) (b := (0, 0)) dX11_leastHeaterPower_2 MX11_125 (ka hF 293 (by decide)) rfl rfl rfl rfl (Nat.le_of_ble_eq_true rfl) ?_
  refine WPM.of pX11 (Nat.le_of_ble_eq_true rfl) rfl ?_
  refine wp_iload_n dX11_isHeater_0 rfl ?_
  refine wp_iconst (0 : Int32) dX11_isHeater_1 (by decide) ?_
  refine wp_aload_n dX11_isHeater_2 rfl ?_
  refine wp_getr (gB G + 294) dX11_isHeater_3 fX11_7 (ka hF 293 (by decide)) (hF.2 _ _) (rra 1 (isK_le (ka hF 293 (by decide))) (fun _ => rfl)) ?_
  refine wp_bipush (14 : Int32) dX11_isHeater_6 (by decide) ?_
  refine wp_ialdk (n := 1486) 14 (nI (n + 1)) dX11_isHeater_8 (ka hF 294 (by decide)) (la 294) (vinl (by decide)) rfl hn ?_
  refine wp_iconst (1 : Int32) dX11_isHeater_9 (by decide) ?_
  refine wp_isubv (nI n) dX11_isHeater_10 (nsub (a := n + 1) (b := 1) (by omega)) ?_
  refine wp_callS (As := [.int (nI i), .int (0 : Int32), .int (nI n)]) (S := []) (b' := (0, 0)) (b := (0, 0)) dX11_isHeater_11 MX11_67 rfl rfl (Nat.le_of_ble_eq_true rfl) ?_
  refine WPM.of pX11 (Nat.le_of_ble_eq_true rfl) rfl ?_
  refine wp_iload_n dX11_isBetween_0 rfl ?_
  refine wp_iload_n dX11_isBetween_1 rfl ?_
  refine wp_icmp_lt 14 dX11_isBetween_2 (by decide) (fun q => absurd q (nI_pos (by omega))) (fun _ => ?_)
  refine wp_iload_n dX11_isBetween_5 rfl ?_
  refine wp_iload_n dX11_isBetween_6 rfl ?_
  refine wp_icmp_gt 14 dX11_isBetween_7 (by decide) (fun q => absurd q (fun z => (show ¬ n < i by omega) (nlt (a := n) (b := i) z (by omega) (by omega)))) (fun _ => ?_)
  refine wp_iconst (1 : Int32) dX11_isBetween_10 (by decide) ?_
  refine wp_goto 15 dX11_isBetween_11 (by decide) ?_
  refine wp_zret dX11_isBetween_15 rfl rfl ?_
  show WP G (d + 9) (0, 0) μX11_isHeater 14 [.ref (gB G + 293), .int (nI i)] [.int (1 : Int32)] m _
  refine wp_zret dX11_isHeater_14 rfl rfl ?_
  show WP G (d + 10) (0, 0) μX11_leastHeaterPower 5 [.ref (gB G + 293), .int (nI i), .int y] [.int (1 : Int32)] m _
  refine wp_if_ne 11 dX11_leastHeaterPower_5 (by decide) (fun _ => ?_) (fun q => absurd q (by decide))
  refine wp_iload_n dX11_leastHeaterPower_11 rfl ?_
  refine wp_iconst (1 : Int32) dX11_leastHeaterPower_12 (by decide) ?_
  refine wp_sipush (200 : Int32) dX11_leastHeaterPower_13 (by decide) ?_
  refine wp_callS (As := [.int y, .int (1 : Int32), .int (200 : Int32)]) (S := []) (b' := (0, 0)) (b := (0, 0)) dX11_leastHeaterPower_16 MX11_67 rfl rfl (Nat.le_of_ble_eq_true rfl) ?_
  refine WPM.of pX11 (Nat.le_of_ble_eq_true rfl) rfl ?_
  refine wp_iload_n dX11_isBetween_0 rfl ?_
  refine wp_iload_n dX11_isBetween_1 rfl ?_
  refine wp_icmp_lt 14 dX11_isBetween_2 (by decide) (fun q1 => ?_) (fun q2 => ?_)
  · skip
    refine wp_iconst (0 : Int32) dX11_isBetween_14 (by decide) ?_
    refine wp_zret dX11_isBetween_15 rfl rfl ?_
    show WP G (d + 10) (0, 0) μX11_leastHeaterPower 19 [.ref (gB G + 293), .int (nI i), .int y] [.int (0 : Int32)] m _
    refine wp_if_eq 43 dX11_leastHeaterPower_19 (by decide) (fun _ => ?_) (fun q => absurd (by decide) q)
    refine wp_ldc dX11_leastHeaterPower_43 kX11_79 ?_
    exact wp_iret dX11_leastHeaterPower_45 rfl (e1 q1)
  · skip
    refine wp_iload_n dX11_isBetween_5 rfl ?_
    refine wp_iload_n dX11_isBetween_6 rfl ?_
    refine wp_icmp_gt 14 dX11_isBetween_7 (by decide) (fun q3 => ?_) (fun q4 => ?_)
    · skip
      refine wp_iconst (0 : Int32) dX11_isBetween_14 (by decide) ?_
      refine wp_zret dX11_isBetween_15 rfl rfl ?_
      show WP G (d + 10) (0, 0) μX11_leastHeaterPower 19 [.ref (gB G + 293), .int (nI i), .int y] [.int (0 : Int32)] m _
      refine wp_if_eq 43 dX11_leastHeaterPower_19 (by decide) (fun _ => ?_) (fun q => absurd (by decide) q)
      refine wp_ldc dX11_leastHeaterPower_43 kX11_79 ?_
      exact wp_iret dX11_leastHeaterPower_45 rfl (e2 q2 q3)
    · skip
      refine wp_iconst (1 : Int32) dX11_isBetween_10 (by decide) ?_
      refine wp_goto 15 dX11_isBetween_11 (by decide) ?_
      refine wp_zret dX11_isBetween_15 rfl rfl ?_
      show WP G (d + 10) (0, 0) μX11_leastHeaterPower 19 [.ref (gB G + 293), .int (nI i), .int y] [.int (1 : Int32)] m _
      refine wp_if_eq 43 dX11_leastHeaterPower_19 (by decide) (fun q => absurd q (by decide)) (fun _ => ?_)
      refine wp_aload_n dX11_leastHeaterPower_22 rfl ?_
      refine wp_sipush (338 : Int32) dX11_leastHeaterPower_23 (by decide) ?_
      refine wp_bipush (8 : Int32) dX11_leastHeaterPower_26 (by decide) ?_
      refine wp_iload_n dX11_leastHeaterPower_28 rfl ?_
      refine wp_imulv (nI (8 * i)) dX11_leastHeaterPower_29 (nmul (a := 8) (b := i) (by omega)) ?_
      refine wp_iaddv (nI (8 * i + 338)) dX11_leastHeaterPower_30 (nadd (a := 338) (b := 8 * i) (by omega)) ?_
      refine wp_iconst (1 : Int32) dX11_leastHeaterPower_31 (by decide) ?_
      refine wp_iaddv (nI (8 * i + 339)) dX11_leastHeaterPower_32 (nadd (a := 8 * i + 338) (b := 1) (by omega)) ?_
      refine wp_sipush (1000 : Int32) dX11_leastHeaterPower_33 (by decide) ?_
      refine wp_iload_n dX11_leastHeaterPower_36 rfl ?_
      refine wp_forget [lvU, lvU, lvU] ⟨Or.inr rfl, Or.inr rfl, Or.inr rfl, trivial⟩ ?_
      refine wp_callV (As := [.int (nI (8 * i + 339)), .int (1000 : Int32), .int y]) (S := []) (b' := (0, 0)) (b := (0, 0)) dX11_leastHeaterPower_37 MX11_208 (ka hF 293 (by decide)) rfl rfl rfl rfl (Nat.le_of_ble_eq_true rfl) ?_
      exact e3 q2 q4

theorem jM_lhp {G : Cx} {d : Nat} {m : Mm} {Q : Option Value → Mm → Prop} {r : Int32} (hF : Full G m) 
    (e1 : Q (some (.int r)) m) :
    WP G (d + 10) (0, 0) μX11_leastHeaterPower 40 [lvU, lvU, lvU] [.int r] m Q := by
  refine wp_goto 45 dX11_leastHeaterPower_40 (by decide) ?_
  exact wp_iret dX11_leastHeaterPower_45 rfl (e1)

theorem aC_lhp {G : Cx} {d : Nat} {m : Mm} {Q : Option Value → Mm → Prop} {x y : Int32} {n : Nat} (hF : Full G m) (hn : fi m 8 (gB G + 1) = nI n) (hm : n ≤ 8) (hx : x < 0) 
    (e1 : Q (some (.int (-1000000001 : Int32))) m) :
    WPM G (d + 8) (0, 0) μX10_leastHeaterPower [.ref (gB G), .int x, .int y] m Q := by
  refine WPM.of pX10 (Nat.le_of_ble_eq_true rfl) rfl ?_
  refine wp_aload_n dX10_leastHeaterPower_0 rfl ?_
  refine wp_getr (gB G + 1) dX10_leastHeaterPower_1 fX10_10 (ka0 hF) (hF.2 _ _) (rra 1 (isK_le (ka0 hF)) (fun _ => rfl)) ?_
  refine wp_iload_n dX10_leastHeaterPower_4 rfl ?_
  refine wp_callV (As := [.int x]) (S := []) (b' := (0, 0)) (b := (0, 0)) dX10_leastHeaterPower_5 MX10_137 (kc0 hF (isC1 G)) rfl rfl rfl rfl (Nat.le_of_ble_eq_true rfl) ?_
  refine WPM.of pX0 (Nat.le_of_ble_eq_true rfl) rfl ?_
  refine wp_iload_n dX0_hasHeater_0 rfl ?_
  refine wp_if_lt 16 dX0_hasHeater_1 (by decide) (fun _ => ?_) (fun q => absurd hx q)
  refine wp_iconst (0 : Int32) dX0_hasHeater_16 (by decide) ?_
  refine wp_zret dX0_hasHeater_17 rfl rfl ?_
  show WP G (d + 8) (0, 0) μX10_leastHeaterPower 8 [.ref (gB G), .int x, .int y, lvU] [.int (0 : Int32)] m _
  refine wp_if_ne 14 dX10_leastHeaterPower_8 (by decide) (fun q => absurd (by decide) q) (fun _ => ?_)
  refine wp_ldc dX10_leastHeaterPower_11 kX10_62 ?_
  exact wp_iret dX10_leastHeaterPower_13 rfl (e1)

theorem aM_lhp {G : Cx} {d : Nat} {m : Mm} {Q : Option Value → Mm → Prop} {x y : Int32} {n : Nat} (hF : Full G m) (hn : ai m (gB G + 294) 14 = nI n) (hm : n ≤ 8) (hx : x < 0) 
    (e1 : Q (some (.int (-1000000001 : Int32))) m) :
    WPM G (d + 10) (0, 0) μX11_leastHeaterPower [.ref (gB G + 293), .int x, .int y] m Q := by
  refine WPM.of pX11 (Nat.le_of_ble_eq_true rfl) rfl ?_
  refine wp_aload_n dX11_leastHeaterPower_0 rfl ?_
  refine wp_iload_n dX11_leastHeaterPower_1 rfl ?_
  refine wp_callV (As := [.int x]) (S := []) (b' := (0, 0)) (b := (0, 0)) dX11_leastHeaterPower_2 MX11_125 (ka hF 293 (by decide)) rfl rfl rfl rfl (Nat.le_of_ble_eq_true rfl) ?_
  refine WPM.of pX11 (Nat.le_of_ble_eq_true rfl) rfl ?_
  refine wp_iload_n dX11_isHeater_0 rfl ?_
  refine wp_iconst (0 : Int32) dX11_isHeater_1 (by decide) ?_
  refine wp_aload_n dX11_isHeater_2 rfl ?_
  refine wp_getr (gB G + 294) dX11_isHeater_3 fX11_7 (ka hF 293 (by decide)) (hF.2 _ _) (rra 1 (isK_le (ka hF 293 (by decide))) (fun _ => rfl)) ?_
  refine wp_bipush (14 : Int32) dX11_isHeater_6 (by decide) ?_
  refine wp_ialdk (n := 1486) 14 (nI n) dX11_isHeater_8 (ka hF 294 (by decide)) (la 294) (vinl (by decide)) rfl hn ?_
  refine wp_iconst (1 : Int32) dX11_isHeater_9 (by decide) ?_
  refine wp_isubv ((nI n) - (1 : Int32)) dX11_isHeater_10 rfl ?_
  refine wp_callS (As := [.int x, .int (0 : Int32), .int ((nI n) - (1 : Int32))]) (S := []) (b' := (0, 0)) (b := (0, 0)) dX11_isHeater_11 MX11_67 rfl rfl (Nat.le_of_ble_eq_true rfl) ?_
  refine WPM.of pX11 (Nat.le_of_ble_eq_true rfl) rfl ?_
  refine wp_iload_n dX11_isBetween_0 rfl ?_
  refine wp_iload_n dX11_isBetween_1 rfl ?_
  refine wp_icmp_lt 14 dX11_isBetween_2 (by decide) (fun _ => ?_) (fun q => absurd hx q)
  refine wp_iconst (0 : Int32) dX11_isBetween_14 (by decide) ?_
  refine wp_zret dX11_isBetween_15 rfl rfl ?_
  show WP G (d + 9) (0, 0) μX11_isHeater 14 [.ref (gB G + 293), .int x] [.int (0 : Int32)] m _
  refine wp_zret dX11_isHeater_14 rfl rfl ?_
  show WP G (d + 10) (0, 0) μX11_leastHeaterPower 5 [.ref (gB G + 293), .int x, .int y] [.int (0 : Int32)] m _
  refine wp_if_ne 11 dX11_leastHeaterPower_5 (by decide) (fun q => absurd (by decide) q) (fun _ => ?_)
  refine wp_ldc dX11_leastHeaterPower_8 kX11_96 ?_
  exact wp_iret dX11_leastHeaterPower_10 rfl (e1)

theorem bC_lhpx {G : Cx} {d : Nat} {m : Mm} {Q : Option Value → Mm → Prop} {x y : Int32} {n : Nat} (hF : Full G m) (hn : fi m 8 (gB G + 1) = nI n) (hm : n ≤ 8) (hxa : ¬ x < 0) (hxb : ¬ x < nI n) 
    (e1 : Q (some (.int (-1000000001 : Int32))) m) :
    WPM G (d + 8) (0, 0) μX10_leastHeaterPower [.ref (gB G), .int x, .int y] m Q := by
  refine WPM.of pX10 (Nat.le_of_ble_eq_true rfl) rfl ?_
  refine wp_aload_n dX10_leastHeaterPower_0 rfl ?_
  refine wp_getr (gB G + 1) dX10_leastHeaterPower_1 fX10_10 (ka0 hF) (hF.2 _ _) (rra 1 (isK_le (ka0 hF)) (fun _ => rfl)) ?_
  refine wp_iload_n dX10_leastHeaterPower_4 rfl ?_
  refine wp_callV (As := [.int x]) (S := []) (b' := (0, 0)) (b := (0, 0)) dX10_leastHeaterPower_5 MX10_137 (kc0 hF (isC1 G)) rfl rfl rfl rfl (Nat.le_of_ble_eq_true rfl) ?_
  refine WPM.of pX0 (Nat.le_of_ble_eq_true rfl) rfl ?_
  refine wp_iload_n dX0_hasHeater_0 rfl ?_
  refine wp_if_lt 16 dX0_hasHeater_1 (by decide) (fun q => absurd q hxa) (fun _ => ?_)
  refine wp_iload_n dX0_hasHeater_4 rfl ?_
  refine wp_aload_n dX0_hasHeater_5 rfl ?_
  refine wp_geti (nI n) dX0_hasHeater_6 fX0_94 (Or.inl rfl) (kc0 hF (isC1 G)) hn ?_
  refine wp_icmp_ge 16 dX0_hasHeater_9 (by decide) (fun _ => ?_) (fun q => absurd q hxb)
  refine wp_iconst (0 : Int32) dX0_hasHeater_16 (by decide) ?_
  refine wp_zret dX0_hasHeater_17 rfl rfl ?_
  show WP G (d + 8) (0, 0) μX10_leastHeaterPower 8 [.ref (gB G), .int x, .int y, lvU] [.int (0 : Int32)] m _
  refine wp_if_ne 14 dX10_leastHeaterPower_8 (by decide) (fun q => absurd (by decide) q) (fun _ => ?_)
  refine wp_ldc dX10_leastHeaterPower_11 kX10_62 ?_
  exact wp_iret dX10_leastHeaterPower_13 rfl (e1)

theorem bM_lhpx {G : Cx} {d : Nat} {m : Mm} {Q : Option Value → Mm → Prop} {x y : Int32} {n : Nat} (hF : Full G m) (hn : ai m (gB G + 294) 14 = nI n) (hm : n ≤ 8) (hxa : ¬ x < 0) (hxb : ¬ x < nI n) 
    (e1 : Q (some (.int (-1000000001 : Int32))) m) :
    WPM G (d + 10) (0, 0) μX11_leastHeaterPower [.ref (gB G + 293), .int x, .int y] m Q := by
  refine WPM.of pX11 (Nat.le_of_ble_eq_true rfl) rfl ?_
  refine wp_aload_n dX11_leastHeaterPower_0 rfl ?_
  refine wp_iload_n dX11_leastHeaterPower_1 rfl ?_
  refine wp_callV (As := [.int x]) (S := []) (b' := (0, 0)) (b := (0, 0)) dX11_leastHeaterPower_2 MX11_125 (ka hF 293 (by decide)) rfl rfl rfl rfl (Nat.le_of_ble_eq_true rfl) ?_
  refine WPM.of pX11 (Nat.le_of_ble_eq_true rfl) rfl ?_
  refine wp_iload_n dX11_isHeater_0 rfl ?_
  refine wp_iconst (0 : Int32) dX11_isHeater_1 (by decide) ?_
  refine wp_aload_n dX11_isHeater_2 rfl ?_
  refine wp_getr (gB G + 294) dX11_isHeater_3 fX11_7 (ka hF 293 (by decide)) (hF.2 _ _) (rra 1 (isK_le (ka hF 293 (by decide))) (fun _ => rfl)) ?_
  refine wp_bipush (14 : Int32) dX11_isHeater_6 (by decide) ?_
  refine wp_ialdk (n := 1486) 14 (nI n) dX11_isHeater_8 (ka hF 294 (by decide)) (la 294) (vinl (by decide)) rfl hn ?_
  refine wp_iconst (1 : Int32) dX11_isHeater_9 (by decide) ?_
  refine wp_isubv ((nI n) - (1 : Int32)) dX11_isHeater_10 rfl ?_
  refine wp_callS (As := [.int x, .int (0 : Int32), .int ((nI n) - (1 : Int32))]) (S := []) (b' := (0, 0)) (b := (0, 0)) dX11_isHeater_11 MX11_67 rfl rfl (Nat.le_of_ble_eq_true rfl) ?_
  refine WPM.of pX11 (Nat.le_of_ble_eq_true rfl) rfl ?_
  refine wp_iload_n dX11_isBetween_0 rfl ?_
  refine wp_iload_n dX11_isBetween_1 rfl ?_
  refine wp_icmp_lt 14 dX11_isBetween_2 (by decide) (fun q => absurd q hxa) (fun _ => ?_)
  refine wp_iload_n dX11_isBetween_5 rfl ?_
  refine wp_iload_n dX11_isBetween_6 rfl ?_
  refine wp_icmp_gt 14 dX11_isBetween_7 (by decide) (fun _ => ?_) (fun q => absurd (sub_lt (by omega) hxa hxb) q)
  refine wp_iconst (0 : Int32) dX11_isBetween_14 (by decide) ?_
  refine wp_zret dX11_isBetween_15 rfl rfl ?_
  show WP G (d + 9) (0, 0) μX11_isHeater 14 [.ref (gB G + 293), .int x] [.int (0 : Int32)] m _
  refine wp_zret dX11_isHeater_14 rfl rfl ?_
  show WP G (d + 10) (0, 0) μX11_leastHeaterPower 5 [.ref (gB G + 293), .int x, .int y] [.int (0 : Int32)] m _
  refine wp_if_ne 11 dX11_leastHeaterPower_5 (by decide) (fun q => absurd (by decide) q) (fun _ => ?_)
  refine wp_ldc dX11_leastHeaterPower_8 kX11_96 ?_
  exact wp_iret dX11_leastHeaterPower_10 rfl (e1)

theorem iC_lla {G : Cx} {d : Nat} {m : Mm} {Q : Option Value → Mm → Prop} {i n : Nat} {y : Int32} (hF : Full G m) (hn : fi m 7 (gB G + 1) = nI (n + 1)) (hm : n + 1 ≤ 6) (hi : i < n + 1) 
    (e1 : y < (1 : Int32) → Q (some (.int (-1000000002 : Int32))) m)
    (e2 : ¬ y < (1 : Int32) → (200 : Int32) < y → Q (some (.int (-1000000002 : Int32))) m)
    (e3 : ¬ y < (1 : Int32) → ¬ (200 : Int32) < y → WP G (d + 8) (0, 0) μX10_leastLouvreArea 30 [.ref (gB G), .int (nI i), .int y, .int (0 : Int32)] [] m Q) :
    WPM G (d + 8) (0, 0) μX10_leastLouvreArea [.ref (gB G), .int (nI i), .int y] m Q := by
  refine WPM.of pX10 (Nat.le_of_ble_eq_true rfl) rfl ?_
  refine wp_aload_n dX10_leastLouvreArea_0 rfl ?_
  refine wp_getr (gB G + 1) dX10_leastLouvreArea_1 fX10_10 (ka0 hF) (hF.2 _ _) (rra 1 (isK_le (ka0 hF)) (fun _ => rfl)) ?_
  refine wp_iload_n dX10_leastLouvreArea_4 rfl ?_
  refine wp_callV (As := [.int (nI i)]) (S := []) (b' := (0, 0)) (b := (0, 0)) dX10_leastLouvreArea_5 MX10_123 (kc0 hF (isC1 G)) rfl rfl rfl rfl (Nat.le_of_ble_eq_true rfl) ?_
  refine WPM.of pX0 (Nat.le_of_ble_eq_true rfl) rfl ?_
  refine wp_iload_n dX0_hasLouvre_0 rfl ?_
  refine wp_if_lt 16 dX0_hasLouvre_1 (by decide) (fun q => absurd q (nI_pos (by omega))) (fun _ => ?_)
  refine wp_iload_n dX0_hasLouvre_4 rfl ?_
  refine wp_aload_n dX0_hasLouvre_5 rfl ?_
  refine wp_geti (nI (n + 1)) dX0_hasLouvre_6 fX0_88 (Or.inl rfl) (kc0 hF (isC1 G)) hn ?_
  refine wp_icmp_ge 16 dX0_hasLouvre_9 (by decide) (fun q => absurd (nlt_ (a := i) (b := n + 1) hi (by omega)) q) (fun _ => ?_)
  refine wp_iconst (1 : Int32) dX0_hasLouvre_12 (by decide) ?_
  refine wp_goto 17 dX0_hasLouvre_13 (by decide) ?_
  refine wp_zret dX0_hasLouvre_17 rfl rfl ?_
  show WP G (d + 8) (0, 0) μX10_leastLouvreArea 8 [.ref (gB G), .int (nI i), .int y, lvU] [.int (1 : Int32)] m _
  refine wp_if_ne 14 dX10_leastLouvreArea_8 (by decide) (fun _ => ?_) (fun q => absurd q (by decide))
  refine wp_iload_n dX10_leastLouvreArea_14 rfl ?_
  refine wp_iconst (1 : Int32) dX10_leastLouvreArea_15 (by decide) ?_
  refine wp_sipush (200 : Int32) dX10_leastLouvreArea_16 (by decide) ?_
  refine wp_callS (As := [.int y, .int (1 : Int32), .int (200 : Int32)]) (S := []) (b' := (0, 0)) (b := (0, 0)) dX10_leastLouvreArea_19 MX10_35 rfl rfl (Nat.le_of_ble_eq_true rfl) ?_
  refine WPM.of pX10 (Nat.le_of_ble_eq_true rfl) rfl ?_
  refine wp_iload_n dX10_within_0 rfl ?_
  refine wp_iload_n dX10_within_1 rfl ?_
  refine wp_icmp_lt 14 dX10_within_2 (by decide) (fun q1 => ?_) (fun q2 => ?_)
  · skip
    refine wp_iconst (0 : Int32) dX10_within_14 (by decide) ?_
    refine wp_zret dX10_within_15 rfl rfl ?_
    show WP G (d + 8) (0, 0) μX10_leastLouvreArea 22 [.ref (gB G), .int (nI i), .int y, lvU] [.int (0 : Int32)] m _
    refine wp_if_ne 28 dX10_leastLouvreArea_22 (by decide) (fun q => absurd (by decide) q) (fun _ => ?_)
    refine wp_ldc dX10_leastLouvreArea_25 kX10_42 ?_
    exact wp_iret dX10_leastLouvreArea_27 rfl (e1 q1)
  · skip
    refine wp_iload_n dX10_within_5 rfl ?_
    refine wp_iload_n dX10_within_6 rfl ?_
    refine wp_icmp_gt 14 dX10_within_7 (by decide) (fun q3 => ?_) (fun q4 => ?_)
    · skip
      refine wp_iconst (0 : Int32) dX10_within_14 (by decide) ?_
      refine wp_zret dX10_within_15 rfl rfl ?_
      show WP G (d + 8) (0, 0) μX10_leastLouvreArea 22 [.ref (gB G), .int (nI i), .int y, lvU] [.int (0 : Int32)] m _
      refine wp_if_ne 28 dX10_leastLouvreArea_22 (by decide) (fun q => absurd (by decide) q) (fun _ => ?_)
      refine wp_ldc dX10_leastLouvreArea_25 kX10_42 ?_
      exact wp_iret dX10_leastLouvreArea_27 rfl (e2 q2 q3)
    · skip
      refine wp_iconst (1 : Int32) dX10_within_10 (by decide) ?_
      refine wp_goto 15 dX10_within_11 (by decide) ?_
      refine wp_zret dX10_within_15 rfl rfl ?_
      show WP G (d + 8) (0, 0) μX10_leastLouvreArea 22 [.ref (gB G), .int (nI i), .int y, lvU] [.int (1 : Int32)] m _
      refine wp_if_ne 28 dX10_leastLouvreArea_22 (by decide) (fun _ => ?_) (fun q => absurd q (by decide))
      refine wp_iconst (0 : Int32) dX10_leastLouvreArea_28 (by decide) ?_
      refine wp_istore_n dX10_leastLouvreArea_29 (by decide) rfl ?_
      refine wp_forget [.ref (gB G), .int (nI i), .int y, .int (0 : Int32)] ⟨Or.inl rfl, Or.inl rfl, Or.inl rfl, Or.inl rfl, trivial⟩ ?_
      exact e3 q2 q4

theorem bC_lla {G : Cx} {d : Nat} {m : Mm} {Q : Option Value → Mm → Prop} {i k j : Nat} (hF : Full G m) (hi : i < 6) (hk : k ≤ 200) (hj : j ≤ 31) 
    (e1 : 3000 < 100 * j → Q (some (.int (-1 : Int32))) m)
    (e2 : ¬ 3000 < 100 * j → WPM G (d + 7) (0, 0) μX0_copyFrom [.ref (gB G + 70), .ref (gB G + 1)] m (fun r' m' => WP G (d + 8) (0, 0) μX10_leastLouvreArea 48 [.ref (gB G), .int (nI i), .int (nI k), .int (nI (100 * j))] (r'.toList ++ []) m' Q)) :
    WP G (d + 8) (0, 0) μX10_leastLouvreArea 30 [.ref (gB G), .int (nI i), .int (nI k), .int (nI (100 * j))] [] m Q := by
  refine wp_iload_n dX10_leastLouvreArea_30 rfl ?_
  refine wp_sipush (3000 : Int32) dX10_leastLouvreArea_31 (by decide) ?_
  refine wp_icmp_gt 77 dX10_leastLouvreArea_34 (by decide) (fun q1 => ?_) (fun q2 => ?_)
  · have hp3 : 3000 < 100 * j := (nlt q1 (by omega) (by omega))
    refine wp_iconst (-1 : Int32) dX10_leastLouvreArea_77 (by decide) ?_
    exact wp_iret dX10_leastLouvreArea_78 rfl (e1 hp3)
  · have hp4 : ¬ 3000 < 100 * j := (fun z => q2 (nlt_ (b := 100 * j) z (by omega)))
    refine wp_aload_n dX10_leastLouvreArea_37 rfl ?_
    refine wp_getr (gB G + 70) dX10_leastLouvreArea_38 fX10_16 (ka0 hF) (hF.2 _ _) (rra 70 (isK_le (ka0 hF)) (fun _ => rfl)) ?_
    refine wp_aload_n dX10_leastLouvreArea_41 rfl ?_
    refine wp_getr (gB G + 1) dX10_leastLouvreArea_42 fX10_10 (ka0 hF) (hF.2 _ _) (rra 1 (isK_le (ka0 hF)) (fun _ => rfl)) ?_
    refine wp_callV (As := [.ref (gB G + 1)]) (S := []) (b' := (0, 0)) (b := (0, 0)) dX10_leastLouvreArea_45 MX10_254 (kc0 hF (isC2 G)) rfl rfl rfl rfl (Nat.le_of_ble_eq_true rfl) ?_
    exact e2 hp4

theorem cC_lla {G : Cx} {d : Nat} {m : Mm} {Q : Option Value → Mm → Prop} {i k j : Nat} (hF : Full G m) (hi : i < 6) (hk : k ≤ 200) (hj : j < 31) 
    (e1 : WPM G (d + 7) (0, 0) μX10_trialSurvives [.ref (gB G), .int (nI k)] (wfi m 301 (lv (gB G + 70) i) (nI (100 * j))) (fun r' m' => WP G (d + 8) (0, 0) μX10_leastLouvreArea 66 [.ref (gB G), .int (nI i), .int (nI k), .int (nI (100 * j))] (r'.toList ++ []) m' Q)) :
    WP G (d + 8) (0, 0) μX10_leastLouvreArea 48 [.ref (gB G), .int (nI i), .int (nI k), .int (nI (100 * j))] [] m Q := by
  refine wp_aload_n dX10_leastLouvreArea_48 rfl ?_
  refine wp_getr (gB G + 70) dX10_leastLouvreArea_49 fX10_16 (ka0 hF) (hF.2 _ _) (rra 70 (isK_le (ka0 hF)) (fun _ => rfl)) ?_
  refine wp_getr ((gB G + 70) + 3) dX10_leastLouvreArea_52 fX10_103 (kc0 hF (isC2 G)) (hF.2 _ _) (rra 3 (isK_le (kc0 hF (isC2 G))) (fun _ => rfl)) ?_
  refine wp_iload_n dX10_leastLouvreArea_55 rfl ?_
  refine wp_raldk (n := 6) i (lv (gB G + 70) i) dX10_leastLouvreArea_56 (kc hF (isC2 G) 3 (by decide)) (by decide) (by decide) (lc (isC2 G) 3 (by decide)) (vin (by omega) (by decide)) (nIc (by omega)) (hF.2 _ _) (rlv hF (isC2 G)) ?_
  refine wp_iload_n dX10_leastLouvreArea_57 rfl ?_
  refine wp_puti dX10_leastLouvreArea_58 pX10_270 (klv hF (isC2 G) (by omega)) ?_
  have hF1 := Full_wfi 301 (lv (gB G + 70) i) (nI (100 * j)) hF
  refine wp_aload_n dX10_leastLouvreArea_61 rfl ?_
  refine wp_iload_n dX10_leastLouvreArea_62 rfl ?_
  refine wp_callV (As := [.int (nI k)]) (S := []) (b' := (0, 0)) (b := (0, 0)) dX10_leastLouvreArea_63 MX10_267 (ka0 hF1) rfl rfl rfl rfl (Nat.le_of_ble_eq_true rfl) ?_
  exact e1

theorem dC_lla {G : Cx} {d : Nat} {m : Mm} {Q : Option Value → Mm → Prop} {i k j : Nat} {r : Int32} (hF : Full G m) (hi : i < 6) (hk : k ≤ 200) (hj : j < 31) 
    (e1 : r = 0 → WP G (d + 8) (0, 0) μX10_leastLouvreArea 30 [.ref (gB G), .int (nI i), .int (nI k), .int (nI (100 * j + 100))] [] m Q)
    (e2 : ¬ r = 0 → Q (some (.int (nI (100 * j)))) m) :
    WP G (d + 8) (0, 0) μX10_leastLouvreArea 66 [.ref (gB G), .int (nI i), .int (nI k), .int (nI (100 * j))] [.int r] m Q := by
  refine wp_if_eq 71 dX10_leastLouvreArea_66 (by decide) (fun q1 => ?_) (fun q2 => ?_)
  · skip
    refine wp_iinc (nI (100 * j + 100)) dX10_leastLouvreArea_71 rfl (by decide) (nadd (a := 100 * j) (b := 100) (by omega)) rfl ?_
    refine wp_goto 30 dX10_leastLouvreArea_74 (by decide) ?_
    refine wp_forget [.ref (gB G), .int (nI i), .int (nI k), .int (nI (100 * j + 100))] ⟨Or.inl rfl, Or.inl rfl, Or.inl rfl, Or.inl rfl, trivial⟩ ?_
    exact e1 q1
  · skip
    refine wp_iload_n dX10_leastLouvreArea_69 rfl ?_
    exact wp_iret dX10_leastLouvreArea_70 rfl (e2 q2)

theorem iM_lla {G : Cx} {d : Nat} {m : Mm} {Q : Option Value → Mm → Prop} {i n : Nat} {y : Int32} (hF : Full G m) (hn : ai m (gB G + 294) 13 = nI (n + 1)) (hm : n + 1 ≤ 6) (hi : i < n + 1) 
    (e1 : y < (1 : Int32) → Q (some (.int (-1000000002 : Int32))) m)
    (e2 : ¬ y < (1 : Int32) → (200 : Int32) < y → Q (some (.int (-1000000002 : Int32))) m)
    (e3 : ¬ y < (1 : Int32) → ¬ (200 : Int32) < y → WPM G (d + 9) (0, 0) μX11_leastValue [.ref (gB G + 293), .int (nI (7 * i + 297)), .int (100 : Int32), .int y] m (fun r' m' => WP G (d + 10) (0, 0) μX11_leastLouvreArea 39 [lvU, lvU, lvU] (r'.toList ++ []) m' Q)) :
    WPM G (d + 10) (0, 0) μX11_leastLouvreArea [.ref (gB G + 293), .int (nI i), .int y] m Q := by
  refine WPM.of pX11 (Nat.le_of_ble_eq_true rfl) rfl ?_
  refine wp_aload_n dX11_leastLouvreArea_0 rfl ?_
  refine wp_iload_n dX11_leastLouvreArea_1 rfl ?_
  refine wp_callV (As := [.int (nI i)]) (S := []) (b' := (0, 0)) (b := (0, 0)) dX11_leastLouvreArea_2 MX11_109 (ka hF 293 (by decide)) rfl rfl rfl rfl (Nat.le_of_ble_eq_true rfl) ?_
  refine WPM.of pX11 (Nat.le_of_ble_eq_true rfl) rfl ?_
  refine wp_iload_n dX11_isLouvre_0 rfl ?_
  refine wp_iconst (0 : Int32) dX11_isLouvre_1 (by decide) ?_
  refine wp_aload_n dX11_isLouvre_2 rfl ?_
  refine wp_getr (gB G + 294) dX11_isLouvre_3 fX11_7 (ka hF 293 (by decide)) (hF.2 _ _) (rra 1 (isK_le (ka hF 293 (by decide))) (fun _ => rfl)) ?_
  refine wp_bipush (13 : Int32) dX11_isLouvre_6 (by decide) ?_
  refine wp_ialdk (n := 1486) 13 (nI (n + 1)) dX11_isLouvre_8 (ka hF 294 (by decide)) (la 294) (vinl (by decide)) rfl hn ?_
  refine wp_iconst (1 : Int32) dX11_isLouvre_9 (by decide) ?_
  refine wp_isubv (nI n) dX11_isLouvre_10 (nsub (a := n + 1) (b := 1) (by omega)) ?_
  refine wp_callS (As := [.int (nI i), .int (0 : Int32), .int (nI n)]) (S := []) (b' := (0, 0)) (b := (0, 0)) dX11_isLouvre_11 MX11_67 rfl rfl (Nat.le_of_ble_eq_true rfl) ?_
  refine WPM.of pX11 (Nat.le_of_ble_eq_true rfl) rfl ?_
  refine wp_iload_n dX11_isBetween_0 rfl ?_
  refine wp_iload_n dX11_isBetween_1 rfl ?_
  refine wp_icmp_lt 14 dX11_isBetween_2 (by decide) (fun q => absurd q (nI_pos (by omega))) (fun _ => ?_)
  refine wp_iload_n dX11_isBetween_5 rfl ?_
  refine wp_iload_n dX11_isBetween_6 rfl ?_
  refine wp_icmp_gt 14 dX11_isBetween_7 (by decide) (fun q => absurd q (fun z => (show ¬ n < i by omega) (nlt (a := n) (b := i) z (by omega) (by omega)))) (fun _ => ?_)
  refine wp_iconst (1 : Int32) dX11_isBetween_10 (by decide) ?_
  refine wp_goto 15 dX11_isBetween_11 (by decide) ?_
  refine wp_zret dX11_isBetween_15 rfl rfl ?_
  show WP G (d + 9) (0, 0) μX11_isLouvre 14 [.ref (gB G + 293), .int (nI i)] [.int (1 : Int32)] m _
  refine wp_zret dX11_isLouvre_14 rfl rfl ?_
  show WP G (d + 10) (0, 0) μX11_leastLouvreArea 5 [.ref (gB G + 293), .int (nI i), .int y] [.int (1 : Int32)] m _
  refine wp_if_ne 11 dX11_leastLouvreArea_5 (by decide) (fun _ => ?_) (fun q => absurd q (by decide))
  refine wp_iload_n dX11_leastLouvreArea_11 rfl ?_
  refine wp_iconst (1 : Int32) dX11_leastLouvreArea_12 (by decide) ?_
  refine wp_sipush (200 : Int32) dX11_leastLouvreArea_13 (by decide) ?_
  refine wp_callS (As := [.int y, .int (1 : Int32), .int (200 : Int32)]) (S := []) (b' := (0, 0)) (b := (0, 0)) dX11_leastLouvreArea_16 MX11_67 rfl rfl (Nat.le_of_ble_eq_true rfl) ?_
  refine WPM.of pX11 (Nat.le_of_ble_eq_true rfl) rfl ?_
  refine wp_iload_n dX11_isBetween_0 rfl ?_
  refine wp_iload_n dX11_isBetween_1 rfl ?_
  refine wp_icmp_lt 14 dX11_isBetween_2 (by decide) (fun q1 => ?_) (fun q2 => ?_)
  · skip
    refine wp_iconst (0 : Int32) dX11_isBetween_14 (by decide) ?_
    refine wp_zret dX11_isBetween_15 rfl rfl ?_
    show WP G (d + 10) (0, 0) μX11_leastLouvreArea 19 [.ref (gB G + 293), .int (nI i), .int y] [.int (0 : Int32)] m _
    refine wp_if_eq 42 dX11_leastLouvreArea_19 (by decide) (fun _ => ?_) (fun q => absurd (by decide) q)
    refine wp_ldc dX11_leastLouvreArea_42 kX11_79 ?_
    exact wp_iret dX11_leastLouvreArea_44 rfl (e1 q1)
  · skip
    refine wp_iload_n dX11_isBetween_5 rfl ?_
    refine wp_iload_n dX11_isBetween_6 rfl ?_
    refine wp_icmp_gt 14 dX11_isBetween_7 (by decide) (fun q3 => ?_) (fun q4 => ?_)
    · skip
      refine wp_iconst (0 : Int32) dX11_isBetween_14 (by decide) ?_
      refine wp_zret dX11_isBetween_15 rfl rfl ?_
      show WP G (d + 10) (0, 0) μX11_leastLouvreArea 19 [.ref (gB G + 293), .int (nI i), .int y] [.int (0 : Int32)] m _
      refine wp_if_eq 42 dX11_leastLouvreArea_19 (by decide) (fun _ => ?_) (fun q => absurd (by decide) q)
      refine wp_ldc dX11_leastLouvreArea_42 kX11_79 ?_
      exact wp_iret dX11_leastLouvreArea_44 rfl (e2 q2 q3)
    · skip
      refine wp_iconst (1 : Int32) dX11_isBetween_10 (by decide) ?_
      refine wp_goto 15 dX11_isBetween_11 (by decide) ?_
      refine wp_zret dX11_isBetween_15 rfl rfl ?_
      show WP G (d + 10) (0, 0) μX11_leastLouvreArea 19 [.ref (gB G + 293), .int (nI i), .int y] [.int (1 : Int32)] m _
      refine wp_if_eq 42 dX11_leastLouvreArea_19 (by decide) (fun q => absurd q (by decide)) (fun _ => ?_)
      refine wp_aload_n dX11_leastLouvreArea_22 rfl ?_
      refine wp_sipush (296 : Int32) dX11_leastLouvreArea_23 (by decide) ?_
      refine wp_bipush (7 : Int32) dX11_leastLouvreArea_26 (by decide) ?_
      refine wp_iload_n dX11_leastLouvreArea_28 rfl ?_
      refine wp_imulv (nI (7 * i)) dX11_leastLouvreArea_29 (nmul (a := 7) (b := i) (by omega)) ?_
      refine wp_iaddv (nI (7 * i + 296)) dX11_leastLouvreArea_30 (nadd (a := 296) (b := 7 * i) (by omega)) ?_
      refine wp_iconst (1 : Int32) dX11_leastLouvreArea_31 (by decide) ?_
      refine wp_iaddv (nI (7 * i + 297)) dX11_leastLouvreArea_32 (nadd (a := 7 * i + 296) (b := 1) (by omega)) ?_
      refine wp_bipush (100 : Int32) dX11_leastLouvreArea_33 (by decide) ?_
      refine wp_iload_n dX11_leastLouvreArea_35 rfl ?_
      refine wp_forget [lvU, lvU, lvU] ⟨Or.inr rfl, Or.inr rfl, Or.inr rfl, trivial⟩ ?_
      refine wp_callV (As := [.int (nI (7 * i + 297)), .int (100 : Int32), .int y]) (S := []) (b' := (0, 0)) (b := (0, 0)) dX11_leastLouvreArea_36 MX11_208 (ka hF 293 (by decide)) rfl rfl rfl rfl (Nat.le_of_ble_eq_true rfl) ?_
      exact e3 q2 q4

theorem jM_lla {G : Cx} {d : Nat} {m : Mm} {Q : Option Value → Mm → Prop} {r : Int32} (hF : Full G m) 
    (e1 : Q (some (.int r)) m) :
    WP G (d + 10) (0, 0) μX11_leastLouvreArea 39 [lvU, lvU, lvU] [.int r] m Q := by
  refine wp_goto 44 dX11_leastLouvreArea_39 (by decide) ?_
  exact wp_iret dX11_leastLouvreArea_44 rfl (e1)

theorem aC_lla {G : Cx} {d : Nat} {m : Mm} {Q : Option Value → Mm → Prop} {x y : Int32} {n : Nat} (hF : Full G m) (hn : fi m 7 (gB G + 1) = nI n) (hm : n ≤ 6) (hx : x < 0) 
    (e1 : Q (some (.int (-1000000001 : Int32))) m) :
    WPM G (d + 8) (0, 0) μX10_leastLouvreArea [.ref (gB G), .int x, .int y] m Q := by
  refine WPM.of pX10 (Nat.le_of_ble_eq_true rfl) rfl ?_
  refine wp_aload_n dX10_leastLouvreArea_0 rfl ?_
  refine wp_getr (gB G + 1) dX10_leastLouvreArea_1 fX10_10 (ka0 hF) (hF.2 _ _) (rra 1 (isK_le (ka0 hF)) (fun _ => rfl)) ?_
  refine wp_iload_n dX10_leastLouvreArea_4 rfl ?_
  refine wp_callV (As := [.int x]) (S := []) (b' := (0, 0)) (b := (0, 0)) dX10_leastLouvreArea_5 MX10_123 (kc0 hF (isC1 G)) rfl rfl rfl rfl (Nat.le_of_ble_eq_true rfl) ?_
  refine WPM.of pX0 (Nat.le_of_ble_eq_true rfl) rfl ?_
  refine wp_iload_n dX0_hasLouvre_0 rfl ?_
  refine wp_if_lt 16 dX0_hasLouvre_1 (by decide) (fun _ => ?_) (fun q => absurd hx q)
  refine wp_iconst (0 : Int32) dX0_hasLouvre_16 (by decide) ?_
  refine wp_zret dX0_hasLouvre_17 rfl rfl ?_
  show WP G (d + 8) (0, 0) μX10_leastLouvreArea 8 [.ref (gB G), .int x, .int y, lvU] [.int (0 : Int32)] m _
  refine wp_if_ne 14 dX10_leastLouvreArea_8 (by decide) (fun q => absurd (by decide) q) (fun _ => ?_)
  refine wp_ldc dX10_leastLouvreArea_11 kX10_62 ?_
  exact wp_iret dX10_leastLouvreArea_13 rfl (e1)

theorem aM_lla {G : Cx} {d : Nat} {m : Mm} {Q : Option Value → Mm → Prop} {x y : Int32} {n : Nat} (hF : Full G m) (hn : ai m (gB G + 294) 13 = nI n) (hm : n ≤ 6) (hx : x < 0) 
    (e1 : Q (some (.int (-1000000001 : Int32))) m) :
    WPM G (d + 10) (0, 0) μX11_leastLouvreArea [.ref (gB G + 293), .int x, .int y] m Q := by
  refine WPM.of pX11 (Nat.le_of_ble_eq_true rfl) rfl ?_
  refine wp_aload_n dX11_leastLouvreArea_0 rfl ?_
  refine wp_iload_n dX11_leastLouvreArea_1 rfl ?_
  refine wp_callV (As := [.int x]) (S := []) (b' := (0, 0)) (b := (0, 0)) dX11_leastLouvreArea_2 MX11_109 (ka hF 293 (by decide)) rfl rfl rfl rfl (Nat.le_of_ble_eq_true rfl) ?_
  refine WPM.of pX11 (Nat.le_of_ble_eq_true rfl) rfl ?_
  refine wp_iload_n dX11_isLouvre_0 rfl ?_
  refine wp_iconst (0 : Int32) dX11_isLouvre_1 (by decide) ?_
  refine wp_aload_n dX11_isLouvre_2 rfl ?_
  refine wp_getr (gB G + 294) dX11_isLouvre_3 fX11_7 (ka hF 293 (by decide)) (hF.2 _ _) (rra 1 (isK_le (ka hF 293 (by decide))) (fun _ => rfl)) ?_
  refine wp_bipush (13 : Int32) dX11_isLouvre_6 (by decide) ?_
  refine wp_ialdk (n := 1486) 13 (nI n) dX11_isLouvre_8 (ka hF 294 (by decide)) (la 294) (vinl (by decide)) rfl hn ?_
  refine wp_iconst (1 : Int32) dX11_isLouvre_9 (by decide) ?_
  refine wp_isubv ((nI n) - (1 : Int32)) dX11_isLouvre_10 rfl ?_
  refine wp_callS (As := [.int x, .int (0 : Int32), .int ((nI n) - (1 : Int32))]) (S := []) (b' := (0, 0)) (b := (0, 0)) dX11_isLouvre_11 MX11_67 rfl rfl (Nat.le_of_ble_eq_true rfl) ?_
  refine WPM.of pX11 (Nat.le_of_ble_eq_true rfl) rfl ?_
  refine wp_iload_n dX11_isBetween_0 rfl ?_
  refine wp_iload_n dX11_isBetween_1 rfl ?_
  refine wp_icmp_lt 14 dX11_isBetween_2 (by decide) (fun _ => ?_) (fun q => absurd hx q)
  refine wp_iconst (0 : Int32) dX11_isBetween_14 (by decide) ?_
  refine wp_zret dX11_isBetween_15 rfl rfl ?_
  show WP G (d + 9) (0, 0) μX11_isLouvre 14 [.ref (gB G + 293), .int x] [.int (0 : Int32)] m _
  refine wp_zret dX11_isLouvre_14 rfl rfl ?_
  show WP G (d + 10) (0, 0) μX11_leastLouvreArea 5 [.ref (gB G + 293), .int x, .int y] [.int (0 : Int32)] m _
  refine wp_if_ne 11 dX11_leastLouvreArea_5 (by decide) (fun q => absurd (by decide) q) (fun _ => ?_)
  refine wp_ldc dX11_leastLouvreArea_8 kX11_96 ?_
  exact wp_iret dX11_leastLouvreArea_10 rfl (e1)

theorem bC_llax {G : Cx} {d : Nat} {m : Mm} {Q : Option Value → Mm → Prop} {x y : Int32} {n : Nat} (hF : Full G m) (hn : fi m 7 (gB G + 1) = nI n) (hm : n ≤ 6) (hxa : ¬ x < 0) (hxb : ¬ x < nI n) 
    (e1 : Q (some (.int (-1000000001 : Int32))) m) :
    WPM G (d + 8) (0, 0) μX10_leastLouvreArea [.ref (gB G), .int x, .int y] m Q := by
  refine WPM.of pX10 (Nat.le_of_ble_eq_true rfl) rfl ?_
  refine wp_aload_n dX10_leastLouvreArea_0 rfl ?_
  refine wp_getr (gB G + 1) dX10_leastLouvreArea_1 fX10_10 (ka0 hF) (hF.2 _ _) (rra 1 (isK_le (ka0 hF)) (fun _ => rfl)) ?_
  refine wp_iload_n dX10_leastLouvreArea_4 rfl ?_
  refine wp_callV (As := [.int x]) (S := []) (b' := (0, 0)) (b := (0, 0)) dX10_leastLouvreArea_5 MX10_123 (kc0 hF (isC1 G)) rfl rfl rfl rfl (Nat.le_of_ble_eq_true rfl) ?_
  refine WPM.of pX0 (Nat.le_of_ble_eq_true rfl) rfl ?_
  refine wp_iload_n dX0_hasLouvre_0 rfl ?_
  refine wp_if_lt 16 dX0_hasLouvre_1 (by decide) (fun q => absurd q hxa) (fun _ => ?_)
  refine wp_iload_n dX0_hasLouvre_4 rfl ?_
  refine wp_aload_n dX0_hasLouvre_5 rfl ?_
  refine wp_geti (nI n) dX0_hasLouvre_6 fX0_88 (Or.inl rfl) (kc0 hF (isC1 G)) hn ?_
  refine wp_icmp_ge 16 dX0_hasLouvre_9 (by decide) (fun _ => ?_) (fun q => absurd q hxb)
  refine wp_iconst (0 : Int32) dX0_hasLouvre_16 (by decide) ?_
  refine wp_zret dX0_hasLouvre_17 rfl rfl ?_
  show WP G (d + 8) (0, 0) μX10_leastLouvreArea 8 [.ref (gB G), .int x, .int y, lvU] [.int (0 : Int32)] m _
  refine wp_if_ne 14 dX10_leastLouvreArea_8 (by decide) (fun q => absurd (by decide) q) (fun _ => ?_)
  refine wp_ldc dX10_leastLouvreArea_11 kX10_62 ?_
  exact wp_iret dX10_leastLouvreArea_13 rfl (e1)

theorem bM_llax {G : Cx} {d : Nat} {m : Mm} {Q : Option Value → Mm → Prop} {x y : Int32} {n : Nat} (hF : Full G m) (hn : ai m (gB G + 294) 13 = nI n) (hm : n ≤ 6) (hxa : ¬ x < 0) (hxb : ¬ x < nI n) 
    (e1 : Q (some (.int (-1000000001 : Int32))) m) :
    WPM G (d + 10) (0, 0) μX11_leastLouvreArea [.ref (gB G + 293), .int x, .int y] m Q := by
  refine WPM.of pX11 (Nat.le_of_ble_eq_true rfl) rfl ?_
  refine wp_aload_n dX11_leastLouvreArea_0 rfl ?_
  refine wp_iload_n dX11_leastLouvreArea_1 rfl ?_
  refine wp_callV (As := [.int x]) (S := []) (b' := (0, 0)) (b := (0, 0)) dX11_leastLouvreArea_2 MX11_109 (ka hF 293 (by decide)) rfl rfl rfl rfl (Nat.le_of_ble_eq_true rfl) ?_
  refine WPM.of pX11 (Nat.le_of_ble_eq_true rfl) rfl ?_
  refine wp_iload_n dX11_isLouvre_0 rfl ?_
  refine wp_iconst (0 : Int32) dX11_isLouvre_1 (by decide) ?_
  refine wp_aload_n dX11_isLouvre_2 rfl ?_
  refine wp_getr (gB G + 294) dX11_isLouvre_3 fX11_7 (ka hF 293 (by decide)) (hF.2 _ _) (rra 1 (isK_le (ka hF 293 (by decide))) (fun _ => rfl)) ?_
  refine wp_bipush (13 : Int32) dX11_isLouvre_6 (by decide) ?_
  refine wp_ialdk (n := 1486) 13 (nI n) dX11_isLouvre_8 (ka hF 294 (by decide)) (la 294) (vinl (by decide)) rfl hn ?_
  refine wp_iconst (1 : Int32) dX11_isLouvre_9 (by decide) ?_
  refine wp_isubv ((nI n) - (1 : Int32)) dX11_isLouvre_10 rfl ?_
  refine wp_callS (As := [.int x, .int (0 : Int32), .int ((nI n) - (1 : Int32))]) (S := []) (b' := (0, 0)) (b := (0, 0)) dX11_isLouvre_11 MX11_67 rfl rfl (Nat.le_of_ble_eq_true rfl) ?_
  refine WPM.of pX11 (Nat.le_of_ble_eq_true rfl) rfl ?_
  refine wp_iload_n dX11_isBetween_0 rfl ?_
  refine wp_iload_n dX11_isBetween_1 rfl ?_
  refine wp_icmp_lt 14 dX11_isBetween_2 (by decide) (fun q => absurd q hxa) (fun _ => ?_)
  refine wp_iload_n dX11_isBetween_5 rfl ?_
  refine wp_iload_n dX11_isBetween_6 rfl ?_
  refine wp_icmp_gt 14 dX11_isBetween_7 (by decide) (fun _ => ?_) (fun q => absurd (sub_lt (by omega) hxa hxb) q)
  refine wp_iconst (0 : Int32) dX11_isBetween_14 (by decide) ?_
  refine wp_zret dX11_isBetween_15 rfl rfl ?_
  show WP G (d + 9) (0, 0) μX11_isLouvre 14 [.ref (gB G + 293), .int x] [.int (0 : Int32)] m _
  refine wp_zret dX11_isLouvre_14 rfl rfl ?_
  show WP G (d + 10) (0, 0) μX11_leastLouvreArea 5 [.ref (gB G + 293), .int x, .int y] [.int (0 : Int32)] m _
  refine wp_if_ne 11 dX11_leastLouvreArea_5 (by decide) (fun q => absurd (by decide) q) (fun _ => ?_)
  refine wp_ldc dX11_leastLouvreArea_8 kX11_96 ?_
  exact wp_iret dX11_leastLouvreArea_10 rfl (e1)

theorem eM_lv_lhp {G : Cx} {d : Nat} {m : Mm} {Q : Option Value → Mm → Prop} {i k : Nat} (hF : Full G m) (hi : i < 8) (hk : k ≤ 200)
    (e1 : WPM G (d + 8) (0, 0) μX11_keepState [.ref (gB G + 293)] m (fun r' m' => WP G (d + 9) (0, 0) μX11_leastValue 4 [.ref (gB G + 293), .int (nI (8 * i + 339)), .int (1000 : Int32), .int (nI k), lvU, lvU] (r'.toList ++ []) m' Q)) :
    WPM G (d + 9) (0, 0) μX11_leastValue [.ref (gB G + 293), .int (nI (8 * i + 339)), .int (1000 : Int32), .int (nI k)] m Q := by
  refine WPM.of pX11 (Nat.le_of_ble_eq_true rfl) rfl ?_
  refine wp_aload_n dX11_leastValue_0 rfl ?_
  refine wp_callV (As := []) (S := []) (b' := (0, 0)) (b := (0, 0)) dX11_leastValue_1 MX11_199 (ka hF 293 (by decide)) rfl rfl rfl rfl (Nat.le_of_ble_eq_true rfl) ?_
  exact e1

theorem cM_lv_lhp {G : Cx} {d : Nat} {m : Mm} {Q : Option Value → Mm → Prop} {i k : Nat} (hF : Full G m) (hi : i < 8) (hk : k ≤ 200)
    (e1 : WP G (d + 9) (0, 0) μX11_leastValue 10 [.ref (gB G + 293), .int (nI (8 * i + 339)), .int (1000 : Int32), .int (nI k), .int (-1 : Int32), .int (0 : Int32)] [] m Q) :
    WP G (d + 9) (0, 0) μX11_leastValue 4 [.ref (gB G + 293), .int (nI (8 * i + 339)), .int (1000 : Int32), .int (nI k), lvU, lvU] [] m Q := by
  refine wp_iconst (-1 : Int32) dX11_leastValue_4 (by decide) ?_
  refine wp_istore dX11_leastValue_5 (by decide) rfl ?_
  refine wp_iconst (0 : Int32) dX11_leastValue_7 (by decide) ?_
  refine wp_istore dX11_leastValue_8 (by decide) rfl ?_
  refine wp_forget [.ref (gB G + 293), .int (nI (8 * i + 339)), .int (1000 : Int32), .int (nI k), .int (-1 : Int32), .int (0 : Int32)] ⟨Or.inl rfl, Or.inl rfl, Or.inl rfl, Or.inl rfl, Or.inl rfl, Or.inl rfl, trivial⟩ ?_
  exact e1

theorem bM_lv_lhp {G : Cx} {d : Nat} {m : Mm} {Q : Option Value → Mm → Prop} {i k j : Nat} (hF : Full G m) (hi : i < 8) (hk : k ≤ 200) (hj : j ≤ 31)
    (e1 : 30 < j → Q (some (.int (-1 : Int32))) m)
    (e2 : ¬ 30 < j → WPM G (d + 8) (0, 0) μX11_runToViolation [.ref (gB G + 293), .int (-1 : Int32), .int (nI k)] (wai m (gB G + 294) (8 * i + 339) (nI (1000 * j))) (fun r' m' => WP G (d + 9) (0, 0) μX11_leastValue 39 [.ref (gB G + 293), .int (nI (8 * i + 339)), .int (1000 : Int32), .int (nI k), lvU, .int (nI j)] (r'.toList ++ []) m' Q)) :
    WP G (d + 9) (0, 0) μX11_leastValue 10 [.ref (gB G + 293), .int (nI (8 * i + 339)), .int (1000 : Int32), .int (nI k), .int (-1 : Int32), .int (nI j)] [] m Q := by
  refine wp_iload dX11_leastValue_10 rfl ?_
  refine wp_bipush (30 : Int32) dX11_leastValue_12 (by decide) ?_
  refine wp_icmp_gt 63 dX11_leastValue_14 (by decide) (fun q1 => ?_) (fun q2 => ?_)
  · have hp3 : 30 < j := (nlt q1 (by omega) (by omega))
    refine wp_iload dX11_leastValue_63 rfl ?_
    exact wp_iret dX11_leastValue_65 rfl (e1 hp3)
  · have hp4 : ¬ 30 < j := (fun z => q2 (nlt_ (b := j) z (by omega)))
    refine wp_iload dX11_leastValue_17 rfl ?_
    refine wp_iconst (-1 : Int32) dX11_leastValue_19 (by decide) ?_
    refine wp_icmp_ne 63 dX11_leastValue_20 (by decide) (fun q => absurd (by decide) q) (fun _ => ?_)
    refine wp_aload_n dX11_leastValue_23 rfl ?_
    refine wp_getr (gB G + 294) dX11_leastValue_24 fX11_7 (ka hF 293 (by decide)) (hF.2 _ _) (rra 1 (isK_le (ka hF 293 (by decide))) (fun _ => rfl)) ?_
    refine wp_iload_n dX11_leastValue_27 rfl ?_
    refine wp_iload_n dX11_leastValue_28 rfl ?_
    refine wp_iload dX11_leastValue_29 rfl ?_
    refine wp_imulv (nI (1000 * j)) dX11_leastValue_31 (nmul (a := 1000) (b := j) (by omega)) ?_
    refine wp_iastk (n := 1486) (8 * i + 339) dX11_leastValue_32 (ka hF 294 (by decide)) (la 294) (vin (by omega) (by decide))  (nIc (by omega)) ?_
    have hF5 := Full_wai (gB G + 294) (8 * i + 339) (nI (1000 * j)) hF
    refine wp_aload_n dX11_leastValue_33 rfl ?_
    refine wp_iconst (-1 : Int32) dX11_leastValue_34 (by decide) ?_
    refine wp_iload_n dX11_leastValue_35 rfl ?_
    refine wp_forget [.ref (gB G + 293), .int (nI (8 * i + 339)), .int (1000 : Int32), .int (nI k), lvU, .int (nI j)] ⟨Or.inl rfl, Or.inl rfl, Or.inl rfl, Or.inl rfl, Or.inr rfl, Or.inl rfl, trivial⟩ ?_
    refine wp_callV (As := [.int (-1 : Int32), .int (nI k)]) (S := []) (b' := (0, 0)) (b := (0, 0)) dX11_leastValue_36 MX11_202 (ka hF5 293 (by decide)) rfl rfl rfl rfl (Nat.le_of_ble_eq_true rfl) ?_
    exact e2 hp4

theorem dM_lv_lhp {G : Cx} {d : Nat} {m : Mm} {Q : Option Value → Mm → Prop} {i k j : Nat} {r : Int32} (hF : Full G m) (hi : i < 8) (hk : k ≤ 200) (hj : j < 31)
    (e1 : ¬ r = (-1 : Int32) → WPM G (d + 8) (0, 0) μX11_putBackState [.ref (gB G + 293)] m (fun r' m' => WP G (d + 9) (0, 0) μX11_leastValue 57 [.ref (gB G + 293), .int (nI (8 * i + 339)), .int (1000 : Int32), .int (nI k), .int (-1 : Int32), .int (nI j)] (r'.toList ++ []) m' Q))
    (e2 : r = (-1 : Int32) → WPM G (d + 8) (0, 0) μX11_putBackState [.ref (gB G + 293)] m (fun r' m' => WP G (d + 9) (0, 0) μX11_leastValue 57 [.ref (gB G + 293), .int (nI (8 * i + 339)), .int (1000 : Int32), .int (nI k), .int (nI (1000 * j)), .int (nI j)] (r'.toList ++ []) m' Q)) :
    WP G (d + 9) (0, 0) μX11_leastValue 39 [.ref (gB G + 293), .int (nI (8 * i + 339)), .int (1000 : Int32), .int (nI k), lvU, .int (nI j)] [.int r] m Q := by
  refine wp_iconst (-1 : Int32) dX11_leastValue_39 (by decide) ?_
  refine wp_icmp_ne 50 dX11_leastValue_40 (by decide) (fun q1 => ?_) (fun q2 => ?_)
  · skip
    refine wp_iconst (-1 : Int32) dX11_leastValue_50 (by decide) ?_
    refine wp_istore dX11_leastValue_51 (by decide) rfl ?_
    refine wp_aload_n dX11_leastValue_53 rfl ?_
    refine wp_callV (As := []) (S := []) (b' := (0, 0)) (b := (0, 0)) dX11_leastValue_54 MX11_205 (ka hF 293 (by decide)) rfl rfl rfl rfl (Nat.le_of_ble_eq_true rfl) ?_
    exact e1 q1
  · skip
    refine wp_iload_n dX11_leastValue_43 rfl ?_
    refine wp_iload dX11_leastValue_44 rfl ?_
    refine wp_imulv (nI (1000 * j)) dX11_leastValue_46 (nmul (a := 1000) (b := j) (by omega)) ?_
    refine wp_goto 51 dX11_leastValue_47 (by decide) ?_
    refine wp_istore dX11_leastValue_51 (by decide) rfl ?_
    refine wp_aload_n dX11_leastValue_53 rfl ?_
    refine wp_callV (As := []) (S := []) (b' := (0, 0)) (b := (0, 0)) dX11_leastValue_54 MX11_205 (ka hF 293 (by decide)) rfl rfl rfl rfl (Nat.le_of_ble_eq_true rfl) ?_
    exact e2 q2

theorem f0M_lv_lhp {G : Cx} {d : Nat} {m : Mm} {Q : Option Value → Mm → Prop} {i k j : Nat} (hF : Full G m) (hi : i < 8) (hk : k ≤ 200) (hj : j < 31)
    (e1 : WP G (d + 9) (0, 0) μX11_leastValue 10 [.ref (gB G + 293), .int (nI (8 * i + 339)), .int (1000 : Int32), .int (nI k), .int (-1 : Int32), .int (nI (j + 1))] [] m Q) :
    WP G (d + 9) (0, 0) μX11_leastValue 57 [.ref (gB G + 293), .int (nI (8 * i + 339)), .int (1000 : Int32), .int (nI k), .int (-1 : Int32), .int (nI j)] [] m Q := by
  refine wp_iinc (nI (j + 1)) dX11_leastValue_57 rfl (by decide) (nadd (a := j) (b := 1) (by omega)) rfl ?_
  refine wp_goto 10 dX11_leastValue_60 (by decide) ?_
  refine wp_forget [.ref (gB G + 293), .int (nI (8 * i + 339)), .int (1000 : Int32), .int (nI k), .int (-1 : Int32), .int (nI (j + 1))] ⟨Or.inl rfl, Or.inl rfl, Or.inl rfl, Or.inl rfl, Or.inl rfl, Or.inl rfl, trivial⟩ ?_
  exact e1

theorem f1M_lv_lhp {G : Cx} {d : Nat} {m : Mm} {Q : Option Value → Mm → Prop} {i k j : Nat} (hF : Full G m) (hi : i < 8) (hk : k ≤ 200) (hj : j < 31)
    (e1 : WP G (d + 9) (0, 0) μX11_leastValue 10 [.ref (gB G + 293), .int (nI (8 * i + 339)), .int (1000 : Int32), .int (nI k), .int (nI (1000 * j)), .int (nI (j + 1))] [] m Q) :
    WP G (d + 9) (0, 0) μX11_leastValue 57 [.ref (gB G + 293), .int (nI (8 * i + 339)), .int (1000 : Int32), .int (nI k), .int (nI (1000 * j)), .int (nI j)] [] m Q := by
  refine wp_iinc (nI (j + 1)) dX11_leastValue_57 rfl (by decide) (nadd (a := j) (b := 1) (by omega)) rfl ?_
  refine wp_goto 10 dX11_leastValue_60 (by decide) ?_
  refine wp_forget [.ref (gB G + 293), .int (nI (8 * i + 339)), .int (1000 : Int32), .int (nI k), .int (nI (1000 * j)), .int (nI (j + 1))] ⟨Or.inl rfl, Or.inl rfl, Or.inl rfl, Or.inl rfl, Or.inl rfl, Or.inl rfl, trivial⟩ ?_
  exact e1

theorem xM_lv_lhp {G : Cx} {d : Nat} {m : Mm} {Q : Option Value → Mm → Prop} {i k j p : Nat} (hF : Full G m) (hi : i < 8) (hk : k ≤ 200) (hj : j ≤ 31) (hp : p ≤ 30)
    (e1 : 30 < j → Q (some (.int (nI (1000 * p)))) m)
    (e2 : ¬ 30 < j → Q (some (.int (nI (1000 * p)))) m) :
    WP G (d + 9) (0, 0) μX11_leastValue 10 [.ref (gB G + 293), .int (nI (8 * i + 339)), .int (1000 : Int32), .int (nI k), .int (nI (1000 * p)), .int (nI j)] [] m Q := by
  refine wp_iload dX11_leastValue_10 rfl ?_
  refine wp_bipush (30 : Int32) dX11_leastValue_12 (by decide) ?_
  refine wp_icmp_gt 63 dX11_leastValue_14 (by decide) (fun q1 => ?_) (fun q2 => ?_)
  · have hp3 : 30 < j := (nlt q1 (by omega) (by omega))
    refine wp_iload dX11_leastValue_63 rfl ?_
    exact wp_iret dX11_leastValue_65 rfl (e1 hp3)
  · have hp4 : ¬ 30 < j := (fun z => q2 (nlt_ (b := j) z (by omega)))
    refine wp_iload dX11_leastValue_17 rfl ?_
    refine wp_iconst (-1 : Int32) dX11_leastValue_19 (by decide) ?_
    refine wp_icmp_ne 63 dX11_leastValue_20 (by decide) (fun _ => ?_) (fun q => absurd q (nI_ne1b (by omega)))
    refine wp_iload dX11_leastValue_63 rfl ?_
    exact wp_iret dX11_leastValue_65 rfl (e2 hp4)

theorem eM_lv_lla {G : Cx} {d : Nat} {m : Mm} {Q : Option Value → Mm → Prop} {i k : Nat} (hF : Full G m) (hi : i < 6) (hk : k ≤ 200)
    (e1 : WPM G (d + 8) (0, 0) μX11_keepState [.ref (gB G + 293)] m (fun r' m' => WP G (d + 9) (0, 0) μX11_leastValue 4 [.ref (gB G + 293), .int (nI (7 * i + 297)), .int (100 : Int32), .int (nI k), lvU, lvU] (r'.toList ++ []) m' Q)) :
    WPM G (d + 9) (0, 0) μX11_leastValue [.ref (gB G + 293), .int (nI (7 * i + 297)), .int (100 : Int32), .int (nI k)] m Q := by
  refine WPM.of pX11 (Nat.le_of_ble_eq_true rfl) rfl ?_
  refine wp_aload_n dX11_leastValue_0 rfl ?_
  refine wp_callV (As := []) (S := []) (b' := (0, 0)) (b := (0, 0)) dX11_leastValue_1 MX11_199 (ka hF 293 (by decide)) rfl rfl rfl rfl (Nat.le_of_ble_eq_true rfl) ?_
  exact e1

theorem cM_lv_lla {G : Cx} {d : Nat} {m : Mm} {Q : Option Value → Mm → Prop} {i k : Nat} (hF : Full G m) (hi : i < 6) (hk : k ≤ 200)
    (e1 : WP G (d + 9) (0, 0) μX11_leastValue 10 [.ref (gB G + 293), .int (nI (7 * i + 297)), .int (100 : Int32), .int (nI k), .int (-1 : Int32), .int (0 : Int32)] [] m Q) :
    WP G (d + 9) (0, 0) μX11_leastValue 4 [.ref (gB G + 293), .int (nI (7 * i + 297)), .int (100 : Int32), .int (nI k), lvU, lvU] [] m Q := by
  refine wp_iconst (-1 : Int32) dX11_leastValue_4 (by decide) ?_
  refine wp_istore dX11_leastValue_5 (by decide) rfl ?_
  refine wp_iconst (0 : Int32) dX11_leastValue_7 (by decide) ?_
  refine wp_istore dX11_leastValue_8 (by decide) rfl ?_
  refine wp_forget [.ref (gB G + 293), .int (nI (7 * i + 297)), .int (100 : Int32), .int (nI k), .int (-1 : Int32), .int (0 : Int32)] ⟨Or.inl rfl, Or.inl rfl, Or.inl rfl, Or.inl rfl, Or.inl rfl, Or.inl rfl, trivial⟩ ?_
  exact e1

theorem bM_lv_lla {G : Cx} {d : Nat} {m : Mm} {Q : Option Value → Mm → Prop} {i k j : Nat} (hF : Full G m) (hi : i < 6) (hk : k ≤ 200) (hj : j ≤ 31)
    (e1 : 30 < j → Q (some (.int (-1 : Int32))) m)
    (e2 : ¬ 30 < j → WPM G (d + 8) (0, 0) μX11_runToViolation [.ref (gB G + 293), .int (-1 : Int32), .int (nI k)] (wai m (gB G + 294) (7 * i + 297) (nI (100 * j))) (fun r' m' => WP G (d + 9) (0, 0) μX11_leastValue 39 [.ref (gB G + 293), .int (nI (7 * i + 297)), .int (100 : Int32), .int (nI k), lvU, .int (nI j)] (r'.toList ++ []) m' Q)) :
    WP G (d + 9) (0, 0) μX11_leastValue 10 [.ref (gB G + 293), .int (nI (7 * i + 297)), .int (100 : Int32), .int (nI k), .int (-1 : Int32), .int (nI j)] [] m Q := by
  refine wp_iload dX11_leastValue_10 rfl ?_
  refine wp_bipush (30 : Int32) dX11_leastValue_12 (by decide) ?_
  refine wp_icmp_gt 63 dX11_leastValue_14 (by decide) (fun q1 => ?_) (fun q2 => ?_)
  · have hp3 : 30 < j := (nlt q1 (by omega) (by omega))
    refine wp_iload dX11_leastValue_63 rfl ?_
    exact wp_iret dX11_leastValue_65 rfl (e1 hp3)
  · have hp4 : ¬ 30 < j := (fun z => q2 (nlt_ (b := j) z (by omega)))
    refine wp_iload dX11_leastValue_17 rfl ?_
    refine wp_iconst (-1 : Int32) dX11_leastValue_19 (by decide) ?_
    refine wp_icmp_ne 63 dX11_leastValue_20 (by decide) (fun q => absurd (by decide) q) (fun _ => ?_)
    refine wp_aload_n dX11_leastValue_23 rfl ?_
    refine wp_getr (gB G + 294) dX11_leastValue_24 fX11_7 (ka hF 293 (by decide)) (hF.2 _ _) (rra 1 (isK_le (ka hF 293 (by decide))) (fun _ => rfl)) ?_
    refine wp_iload_n dX11_leastValue_27 rfl ?_
    refine wp_iload_n dX11_leastValue_28 rfl ?_
    refine wp_iload dX11_leastValue_29 rfl ?_
    refine wp_imulv (nI (100 * j)) dX11_leastValue_31 (nmul (a := 100) (b := j) (by omega)) ?_
    refine wp_iastk (n := 1486) (7 * i + 297) dX11_leastValue_32 (ka hF 294 (by decide)) (la 294) (vin (by omega) (by decide))  (nIc (by omega)) ?_
    have hF5 := Full_wai (gB G + 294) (7 * i + 297) (nI (100 * j)) hF
    refine wp_aload_n dX11_leastValue_33 rfl ?_
    refine wp_iconst (-1 : Int32) dX11_leastValue_34 (by decide) ?_
    refine wp_iload_n dX11_leastValue_35 rfl ?_
    refine wp_forget [.ref (gB G + 293), .int (nI (7 * i + 297)), .int (100 : Int32), .int (nI k), lvU, .int (nI j)] ⟨Or.inl rfl, Or.inl rfl, Or.inl rfl, Or.inl rfl, Or.inr rfl, Or.inl rfl, trivial⟩ ?_
    refine wp_callV (As := [.int (-1 : Int32), .int (nI k)]) (S := []) (b' := (0, 0)) (b := (0, 0)) dX11_leastValue_36 MX11_202 (ka hF5 293 (by decide)) rfl rfl rfl rfl (Nat.le_of_ble_eq_true rfl) ?_
    exact e2 hp4

theorem dM_lv_lla {G : Cx} {d : Nat} {m : Mm} {Q : Option Value → Mm → Prop} {i k j : Nat} {r : Int32} (hF : Full G m) (hi : i < 6) (hk : k ≤ 200) (hj : j < 31)
    (e1 : ¬ r = (-1 : Int32) → WPM G (d + 8) (0, 0) μX11_putBackState [.ref (gB G + 293)] m (fun r' m' => WP G (d + 9) (0, 0) μX11_leastValue 57 [.ref (gB G + 293), .int (nI (7 * i + 297)), .int (100 : Int32), .int (nI k), .int (-1 : Int32), .int (nI j)] (r'.toList ++ []) m' Q))
    (e2 : r = (-1 : Int32) → WPM G (d + 8) (0, 0) μX11_putBackState [.ref (gB G + 293)] m (fun r' m' => WP G (d + 9) (0, 0) μX11_leastValue 57 [.ref (gB G + 293), .int (nI (7 * i + 297)), .int (100 : Int32), .int (nI k), .int (nI (100 * j)), .int (nI j)] (r'.toList ++ []) m' Q)) :
    WP G (d + 9) (0, 0) μX11_leastValue 39 [.ref (gB G + 293), .int (nI (7 * i + 297)), .int (100 : Int32), .int (nI k), lvU, .int (nI j)] [.int r] m Q := by
  refine wp_iconst (-1 : Int32) dX11_leastValue_39 (by decide) ?_
  refine wp_icmp_ne 50 dX11_leastValue_40 (by decide) (fun q1 => ?_) (fun q2 => ?_)
  · skip
    refine wp_iconst (-1 : Int32) dX11_leastValue_50 (by decide) ?_
    refine wp_istore dX11_leastValue_51 (by decide) rfl ?_
    refine wp_aload_n dX11_leastValue_53 rfl ?_
    refine wp_callV (As := []) (S := []) (b' := (0, 0)) (b := (0, 0)) dX11_leastValue_54 MX11_205 (ka hF 293 (by decide)) rfl rfl rfl rfl (Nat.le_of_ble_eq_true rfl) ?_
    exact e1 q1
  · skip
    refine wp_iload_n dX11_leastValue_43 rfl ?_
    refine wp_iload dX11_leastValue_44 rfl ?_
    refine wp_imulv (nI (100 * j)) dX11_leastValue_46 (nmul (a := 100) (b := j) (by omega)) ?_
    refine wp_goto 51 dX11_leastValue_47 (by decide) ?_
    refine wp_istore dX11_leastValue_51 (by decide) rfl ?_
    refine wp_aload_n dX11_leastValue_53 rfl ?_
    refine wp_callV (As := []) (S := []) (b' := (0, 0)) (b := (0, 0)) dX11_leastValue_54 MX11_205 (ka hF 293 (by decide)) rfl rfl rfl rfl (Nat.le_of_ble_eq_true rfl) ?_
    exact e2 q2

theorem f0M_lv_lla {G : Cx} {d : Nat} {m : Mm} {Q : Option Value → Mm → Prop} {i k j : Nat} (hF : Full G m) (hi : i < 6) (hk : k ≤ 200) (hj : j < 31)
    (e1 : WP G (d + 9) (0, 0) μX11_leastValue 10 [.ref (gB G + 293), .int (nI (7 * i + 297)), .int (100 : Int32), .int (nI k), .int (-1 : Int32), .int (nI (j + 1))] [] m Q) :
    WP G (d + 9) (0, 0) μX11_leastValue 57 [.ref (gB G + 293), .int (nI (7 * i + 297)), .int (100 : Int32), .int (nI k), .int (-1 : Int32), .int (nI j)] [] m Q := by
  refine wp_iinc (nI (j + 1)) dX11_leastValue_57 rfl (by decide) (nadd (a := j) (b := 1) (by omega)) rfl ?_
  refine wp_goto 10 dX11_leastValue_60 (by decide) ?_
  refine wp_forget [.ref (gB G + 293), .int (nI (7 * i + 297)), .int (100 : Int32), .int (nI k), .int (-1 : Int32), .int (nI (j + 1))] ⟨Or.inl rfl, Or.inl rfl, Or.inl rfl, Or.inl rfl, Or.inl rfl, Or.inl rfl, trivial⟩ ?_
  exact e1

theorem f1M_lv_lla {G : Cx} {d : Nat} {m : Mm} {Q : Option Value → Mm → Prop} {i k j : Nat} (hF : Full G m) (hi : i < 6) (hk : k ≤ 200) (hj : j < 31)
    (e1 : WP G (d + 9) (0, 0) μX11_leastValue 10 [.ref (gB G + 293), .int (nI (7 * i + 297)), .int (100 : Int32), .int (nI k), .int (nI (100 * j)), .int (nI (j + 1))] [] m Q) :
    WP G (d + 9) (0, 0) μX11_leastValue 57 [.ref (gB G + 293), .int (nI (7 * i + 297)), .int (100 : Int32), .int (nI k), .int (nI (100 * j)), .int (nI j)] [] m Q := by
  refine wp_iinc (nI (j + 1)) dX11_leastValue_57 rfl (by decide) (nadd (a := j) (b := 1) (by omega)) rfl ?_
  refine wp_goto 10 dX11_leastValue_60 (by decide) ?_
  refine wp_forget [.ref (gB G + 293), .int (nI (7 * i + 297)), .int (100 : Int32), .int (nI k), .int (nI (100 * j)), .int (nI (j + 1))] ⟨Or.inl rfl, Or.inl rfl, Or.inl rfl, Or.inl rfl, Or.inl rfl, Or.inl rfl, trivial⟩ ?_
  exact e1

theorem xM_lv_lla {G : Cx} {d : Nat} {m : Mm} {Q : Option Value → Mm → Prop} {i k j p : Nat} (hF : Full G m) (hi : i < 6) (hk : k ≤ 200) (hj : j ≤ 31) (hp : p ≤ 30)
    (e1 : 30 < j → Q (some (.int (nI (100 * p)))) m)
    (e2 : ¬ 30 < j → Q (some (.int (nI (100 * p)))) m) :
    WP G (d + 9) (0, 0) μX11_leastValue 10 [.ref (gB G + 293), .int (nI (7 * i + 297)), .int (100 : Int32), .int (nI k), .int (nI (100 * p)), .int (nI j)] [] m Q := by
  refine wp_iload dX11_leastValue_10 rfl ?_
  refine wp_bipush (30 : Int32) dX11_leastValue_12 (by decide) ?_
  refine wp_icmp_gt 63 dX11_leastValue_14 (by decide) (fun q1 => ?_) (fun q2 => ?_)
  · have hp3 : 30 < j := (nlt q1 (by omega) (by omega))
    refine wp_iload dX11_leastValue_63 rfl ?_
    exact wp_iret dX11_leastValue_65 rfl (e1 hp3)
  · have hp4 : ¬ 30 < j := (fun z => q2 (nlt_ (b := j) z (by omega)))
    refine wp_iload dX11_leastValue_17 rfl ?_
    refine wp_iconst (-1 : Int32) dX11_leastValue_19 (by decide) ?_
    refine wp_icmp_ne 63 dX11_leastValue_20 (by decide) (fun _ => ?_) (fun q => absurd q (nI_ne1b (by omega)))
    refine wp_iload dX11_leastValue_63 rfl ?_
    exact wp_iret dX11_leastValue_65 rfl (e2 hp4)
