theorem nI_ne1b {p : Nat} (h : p < 100000) : ¬ nI p = (-1 : Int32) := by
  intro e
  have e1 := congrArg Int32.toInt e
  rw [nI_toInt (by omega)] at e1
  have : (-1 : Int32).toInt = -1 := by decide
  omega

theorem eC_run {G : Cx} {d : Nat} {m : Mm} {Q : Option Value → Mm → Prop} {x : Int32} (hF : Full G m) 
    (e1 : x < (1 : Int32) → Q (some (.int (-1000000002 : Int32))) m)
    (e2 : ¬ x < (1 : Int32) → (1000 : Int32) < x → Q (some (.int (-1000000002 : Int32))) m)
    (e3 : ¬ x < (1 : Int32) → ¬ (1000 : Int32) < x → ¬ (100000000 : Int32) < ((fi m 14 (gB G + 1)) + (x * (fi m 13 (gB G + 1)))) → WP G (d + 7) (0, 0) μX10_run 40 [.ref (gB G), .int x, .int (0 : Int32), .int (0 : Int32)] [] m Q)
    (e4 : ¬ x < (1 : Int32) → ¬ (1000 : Int32) < x → (100000000 : Int32) < ((fi m 14 (gB G + 1)) + (x * (fi m 13 (gB G + 1)))) → Q (some (.int (-1000000002 : Int32))) m) :
    WPM G (d + 7) (0, 0) μX10_run [.ref (gB G), .int x] m Q := by
  refine WPM.of pX10 (Nat.le_of_ble_eq_true rfl) rfl ?_
  refine wp_iload_n dX10_run_0 rfl ?_
  refine wp_iconst (1 : Int32) dX10_run_1 (by decide) ?_
  refine wp_sipush (1000 : Int32) dX10_run_2 (by decide) ?_
  refine wp_callS (As := [.int x, .int (1 : Int32), .int (1000 : Int32)]) (S := []) (b' := (0, 0)) (b := (0, 0)) dX10_run_5 MX10_35 rfl rfl (Nat.le_of_ble_eq_true rfl) ?_
  refine WPM.of pX10 (Nat.le_of_ble_eq_true rfl) rfl ?_
  refine wp_iload_n dX10_within_0 rfl ?_
  refine wp_iload_n dX10_within_1 rfl ?_
  refine wp_icmp_lt 14 dX10_within_2 (by decide) (fun q1 => ?_) (fun q2 => ?_)
  · skip
    refine wp_iconst (0 : Int32) dX10_within_14 (by decide) ?_
    refine wp_zret dX10_within_15 rfl rfl ?_
    show WP G (d + 7) (0, 0) μX10_run 8 [.ref (gB G), .int x, lvU, lvU] [.int (0 : Int32)] m _
    refine wp_if_eq 33 dX10_run_8 (by decide) (fun _ => ?_) (fun q => absurd (by decide) q)
    refine wp_ldc dX10_run_33 kX10_42 ?_
    exact wp_iret dX10_run_35 rfl (e1 q1)
  · skip
    refine wp_iload_n dX10_within_5 rfl ?_
    refine wp_iload_n dX10_within_6 rfl ?_
    refine wp_icmp_gt 14 dX10_within_7 (by decide) (fun q3 => ?_) (fun q4 => ?_)
    · skip
      refine wp_iconst (0 : Int32) dX10_within_14 (by decide) ?_
      refine wp_zret dX10_within_15 rfl rfl ?_
      show WP G (d + 7) (0, 0) μX10_run 8 [.ref (gB G), .int x, lvU, lvU] [.int (0 : Int32)] m _
      refine wp_if_eq 33 dX10_run_8 (by decide) (fun _ => ?_) (fun q => absurd (by decide) q)
      refine wp_ldc dX10_run_33 kX10_42 ?_
      exact wp_iret dX10_run_35 rfl (e2 q2 q3)
    · skip
      refine wp_iconst (1 : Int32) dX10_within_10 (by decide) ?_
      refine wp_goto 15 dX10_within_11 (by decide) ?_
      refine wp_zret dX10_within_15 rfl rfl ?_
      show WP G (d + 7) (0, 0) μX10_run 8 [.ref (gB G), .int x, lvU, lvU] [.int (1 : Int32)] m _
      refine wp_if_eq 33 dX10_run_8 (by decide) (fun q => absurd q (by decide)) (fun _ => ?_)
      refine wp_aload_n dX10_run_11 rfl ?_
      refine wp_getr (gB G + 1) dX10_run_12 fX10_10 (ka0 hF) (hF.2 _ _) (rra 1 (isK_le (ka0 hF)) (fun _ => rfl)) ?_
      refine wp_geti (fi m 14 (gB G + 1)) dX10_run_15 fX10_168 (Or.inl rfl) (kc0 hF (isC1 G)) rfl ?_
      refine wp_iload_n dX10_run_18 rfl ?_
      refine wp_aload_n dX10_run_19 rfl ?_
      refine wp_getr (gB G + 1) dX10_run_20 fX10_10 (ka0 hF) (hF.2 _ _) (rra 1 (isK_le (ka0 hF)) (fun _ => rfl)) ?_
      refine wp_geti (fi m 13 (gB G + 1)) dX10_run_23 fX10_165 (Or.inl rfl) (kc0 hF (isC1 G)) rfl ?_
      refine wp_imulv (x * (fi m 13 (gB G + 1))) dX10_run_26 rfl ?_
      refine wp_iaddv ((fi m 14 (gB G + 1)) + (x * (fi m 13 (gB G + 1)))) dX10_run_27 rfl ?_
      refine wp_ldc dX10_run_28 kX10_171 ?_
      refine wp_icmp_le 36 dX10_run_30 (by decide) (fun q5 => ?_) (fun q6 => ?_)
      · skip
        refine wp_iconst (0 : Int32) dX10_run_36 (by decide) ?_
        refine wp_istore_n dX10_run_37 (by decide) rfl ?_
        refine wp_iconst (0 : Int32) dX10_run_38 (by decide) ?_
        refine wp_istore_n dX10_run_39 (by decide) rfl ?_
        refine wp_forget [.ref (gB G), .int x, .int (0 : Int32), .int (0 : Int32)] ⟨Or.inl rfl, Or.inl rfl, Or.inl rfl, Or.inl rfl, trivial⟩ ?_
        exact e3 q2 q4 q5
      · skip
        refine wp_ldc dX10_run_33 kX10_42 ?_
        exact wp_iret dX10_run_35 rfl (e4 q2 q4 q6)

theorem bC_run {G : Cx} {d : Nat} {m : Mm} {Q : Option Value → Mm → Prop} {i j : Nat} {v : Int32} (hF : Full G m) (hi : i ≤ 1000) (hj : j ≤ i)
    (e1 : ¬ j < i → Q (some (.int v)) m)
    (e2 : j < i → WPM G (d + 6) (0, 0) μX0_step [.ref (gB G + 1)] m (fun r' m' => WP G (d + 7) (0, 0) μX10_run 52 [.ref (gB G), .int (nI i), .int v, .int (nI j)] (r'.toList ++ []) m' Q)) :
    WP G (d + 7) (0, 0) μX10_run 40 [.ref (gB G), .int (nI i), .int v, .int (nI j)] [] m Q := by
  refine wp_iload_n dX10_run_40 rfl ?_
  refine wp_iload_n dX10_run_41 rfl ?_
  refine wp_icmp_ge 64 dX10_run_42 (by decide) (fun q1 => ?_) (fun q2 => ?_)
  · have hp3 : ¬ j < i := (fun z => q1 (nlt_ (b := i) z (by omega)))
    refine wp_iload_n dX10_run_64 rfl ?_
    exact wp_iret dX10_run_65 rfl (e1 hp3)
  · have hp4 : j < i := (nlt q2 (by omega) (by omega))
    refine wp_aload_n dX10_run_45 rfl ?_
    refine wp_getr (gB G + 1) dX10_run_46 fX10_10 (ka0 hF) (hF.2 _ _) (rra 1 (isK_le (ka0 hF)) (fun _ => rfl)) ?_
    refine wp_callV (As := []) (S := []) (b' := (0, 0)) (b := (0, 0)) dX10_run_49 MX10_172 (kc0 hF (isC1 G)) rfl rfl rfl rfl (Nat.le_of_ble_eq_true rfl) ?_
    exact e2 hp4

theorem jC_run {G : Cx} {d : Nat} {m : Mm} {Q : Option Value → Mm → Prop} {i j : Nat} {l2 : Int32} {r : Int32} (hF : Full G m) (hi : i ≤ 1000) (hj : j < i)
    (e1 : r = 0 → WP G (d + 7) (0, 0) μX10_run 40 [.ref (gB G), .int (nI i), .int l2, .int (nI (j + 1))] [] m Q)
    (e2 : ¬ r = 0 → WP G (d + 7) (0, 0) μX10_run 40 [.ref (gB G), .int (nI i), .int (l2 + (1 : Int32)), .int (nI (j + 1))] [] m Q) :
    WP G (d + 7) (0, 0) μX10_run 52 [.ref (gB G), .int (nI i), .int l2, .int (nI j)] [.int r] m Q := by
  refine wp_if_eq 58 dX10_run_52 (by decide) (fun q1 => ?_) (fun q2 => ?_)
  · skip
    refine wp_iinc (nI (j + 1)) dX10_run_58 rfl (by decide) (nadd (a := j) (b := 1) (by omega)) rfl ?_
    refine wp_goto 40 dX10_run_61 (by decide) ?_
    refine wp_forget [.ref (gB G), .int (nI i), .int l2, .int (nI (j + 1))] ⟨Or.inl rfl, Or.inl rfl, Or.inl rfl, Or.inl rfl, trivial⟩ ?_
    exact e1 q1
  · skip
    refine wp_iinc (l2 + (1 : Int32)) dX10_run_55 rfl (by decide) rfl rfl ?_
    refine wp_iinc (nI (j + 1)) dX10_run_58 rfl (by decide) (nadd (a := j) (b := 1) (by omega)) rfl ?_
    refine wp_goto 40 dX10_run_61 (by decide) ?_
    refine wp_forget [.ref (gB G), .int (nI i), .int (l2 + (1 : Int32)), .int (nI (j + 1))] ⟨Or.inl rfl, Or.inl rfl, Or.inl rfl, Or.inl rfl, trivial⟩ ?_
    exact e2 q2
