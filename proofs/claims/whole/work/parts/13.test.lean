theorem sX10_setLimits {G : Cx} {d : Nat} {m : Mm} {Q : Option Value → Mm → Prop} {x lo hi : Int32} (hF : Full G m)
    (g1 : ¬ x < 0 → x < (fi m 5 (gB G + 1)) → ¬ hi < (-200000 : Int32) → ¬ (200000 : Int32) < hi → ¬ lo < (-200000 : Int32) → ¬ hi < lo → vp_in x 12)
    (g2 : ¬ x < 0 → x < (fi m 5 (gB G + 1)) → ¬ hi < (-200000 : Int32) → ¬ (200000 : Int32) < hi → ¬ lo < (-200000 : Int32) → ¬ hi < lo → vp_in x 12)
    (e1 : x < 0 → Q (some (.int (-1000000001 : Int32))) m)
    (e2 : ¬ x < 0 → ¬ x < (fi m 5 (gB G + 1)) → Q (some (.int (-1000000001 : Int32))) m)
    (e3 : ¬ x < 0 → x < (fi m 5 (gB G + 1)) → hi < (-200000 : Int32) → Q (some (.int (-1000000002 : Int32))) m)
    (e4 : ¬ x < 0 → x < (fi m 5 (gB G + 1)) → ¬ hi < (-200000 : Int32) → (200000 : Int32) < hi → Q (some (.int (-1000000002 : Int32))) m)
    (e5 : ¬ x < 0 → x < (fi m 5 (gB G + 1)) → ¬ hi < (-200000 : Int32) → ¬ (200000 : Int32) < hi → lo < (-200000 : Int32) → Q (some (.int (-1000000002 : Int32))) m)
    (e6 : ¬ x < 0 → x < (fi m 5 (gB G + 1)) → ¬ hi < (-200000 : Int32) → ¬ (200000 : Int32) < hi → ¬ lo < (-200000 : Int32) → hi < lo → Q (some (.int (-1000000002 : Int32))) m)
    (e7 : ¬ x < 0 → x < (fi m 5 (gB G + 1)) → ¬ hi < (-200000 : Int32) → ¬ (200000 : Int32) < hi → ¬ lo < (-200000 : Int32) → ¬ hi < lo → Q (some (.int (0 : Int32))) (wfi (wfi m 405 (nd (gB G + 1) x.toNatClampNeg) lo) 406 (nd (gB G + 1) x.toNatClampNeg) hi)) :
    WPM G (d + 2) (0, 0) μX10_setLimits [.ref (gB G), .int x, .int lo, .int hi] m Q := by
  refine WPM.of pX10 (Nat.le_of_ble_eq_true rfl) rfl ?_
  refine wp_aload_n dX10_setLimits_0 rfl ?_
  refine wp_getr (gB G + 1) dX10_setLimits_1 fX10_10 (ka0 hF) (hF.2 _ _) (rra 1 (isK_le (ka0 hF)) (fun _ => rfl)) ?_
  refine wp_iload_n dX10_setLimits_4 rfl ?_
  refine wp_callV (As := [.int x]) (S := []) (b' := (0, 0)) (b := (0, 0)) dX10_setLimits_5 MX10_58 (kc0 hF (isC1 G)) rfl rfl rfl rfl (Nat.le_of_ble_eq_true rfl) ?_
  refine WPM.of pX0 (Nat.le_of_ble_eq_true rfl) rfl ?_
  refine wp_iload_n dX0_hasNode_0 rfl ?_
  refine wp_if_lt 16 dX0_hasNode_1 (by decide) (fun q1 => ?_) (fun q2 => ?_)
  · skip
    refine wp_iconst (0 : Int32) dX0_hasNode_16 (by decide) ?_
    refine wp_zret dX0_hasNode_17 rfl rfl ?_
    show WP G (d + 2) (0, 0) μX10_setLimits 8 [.ref (gB G), .int x, .int lo, .int hi] [.int (0 : Int32)] m _
    refine wp_if_ne 14 dX10_setLimits_8 (by decide) (fun q => absurd (by decide) q) (fun _ => ?_)
    refine wp_ldc dX10_setLimits_11 kX10_62 ?_
    exact wp_iret dX10_setLimits_13 rfl (e1 q1)
  · skip
    refine wp_iload_n dX0_hasNode_4 rfl ?_
    refine wp_aload_n dX0_hasNode_5 rfl ?_
    refine wp_geti (fi m 5 (gB G + 1)) dX0_hasNode_6 fX0_75 (Or.inl rfl) (kc0 hF (isC1 G)) rfl ?_
    refine wp_icmp_ge 16 dX0_hasNode_9 (by decide) (fun q3 => ?_) (fun q4 => ?_)
    · skip
      refine wp_iconst (0 : Int32) dX0_hasNode_16 (by decide) ?_
      refine wp_zret dX0_hasNode_17 rfl rfl ?_
      show WP G (d + 2) (0, 0) μX10_setLimits 8 [.ref (gB G), .int x, .int lo, .int hi] [.int (0 : Int32)] m _
      refine wp_if_ne 14 dX10_setLimits_8 (by decide) (fun q => absurd (by decide) q) (fun _ => ?_)
      refine wp_ldc dX10_setLimits_11 kX10_62 ?_
      exact wp_iret dX10_setLimits_13 rfl (e2 q2 q3)
    · skip
      refine wp_iconst (1 : Int32) dX0_hasNode_12 (by decide) ?_
      refine wp_goto 17 dX0_hasNode_13 (by decide) ?_
      refine wp_zret dX0_hasNode_17 rfl rfl ?_
      show WP G (d + 2) (0, 0) μX10_setLimits 8 [.ref (gB G), .int x, .int lo, .int hi] [.int (1 : Int32)] m _
      refine wp_if_ne 14 dX10_setLimits_8 (by decide) (fun _ => ?_) (fun q => absurd q (by decide))
      refine wp_iload_n dX10_setLimits_14 rfl ?_
      refine wp_ldc dX10_setLimits_15 kX10_39 ?_
      refine wp_ldc dX10_setLimits_17 kX10_40 ?_
      refine wp_callS (As := [.int hi, .int (-200000 : Int32), .int (200000 : Int32)]) (S := []) (b' := (0, 0)) (b := (0, 0)) dX10_setLimits_19 MX10_35 rfl rfl (Nat.le_of_ble_eq_true rfl) ?_
      refine WPM.of pX10 (Nat.le_of_ble_eq_true rfl) rfl ?_
      refine wp_iload_n dX10_within_0 rfl ?_
      refine wp_iload_n dX10_within_1 rfl ?_
      refine wp_icmp_lt 14 dX10_within_2 (by decide) (fun q5 => ?_) (fun q6 => ?_)
      · skip
        refine wp_iconst (0 : Int32) dX10_within_14 (by decide) ?_
        refine wp_zret dX10_within_15 rfl rfl ?_
        show WP G (d + 2) (0, 0) μX10_setLimits 22 [.ref (gB G), .int x, .int lo, .int hi] [.int (0 : Int32)] m _
        refine wp_if_eq 35 dX10_setLimits_22 (by decide) (fun _ => ?_) (fun q => absurd (by decide) q)
        refine wp_ldc dX10_setLimits_35 kX10_42 ?_
        exact wp_iret dX10_setLimits_37 rfl (e3 q2 q4 q5)
      · skip
        refine wp_iload_n dX10_within_5 rfl ?_
        refine wp_iload_n dX10_within_6 rfl ?_
        refine wp_icmp_gt 14 dX10_within_7 (by decide) (fun q7 => ?_) (fun q8 => ?_)
        · skip
          refine wp_iconst (0 : Int32) dX10_within_14 (by decide) ?_
          refine wp_zret dX10_within_15 rfl rfl ?_
          show WP G (d + 2) (0, 0) μX10_setLimits 22 [.ref (gB G), .int x, .int lo, .int hi] [.int (0 : Int32)] m _
          refine wp_if_eq 35 dX10_setLimits_22 (by decide) (fun _ => ?_) (fun q => absurd (by decide) q)
          refine wp_ldc dX10_setLimits_35 kX10_42 ?_
          exact wp_iret dX10_setLimits_37 rfl (e4 q2 q4 q6 q7)
        · skip
          refine wp_iconst (1 : Int32) dX10_within_10 (by decide) ?_
          refine wp_goto 15 dX10_within_11 (by decide) ?_
          refine wp_zret dX10_within_15 rfl rfl ?_
          show WP G (d + 2) (0, 0) μX10_setLimits 22 [.ref (gB G), .int x, .int lo, .int hi] [.int (1 : Int32)] m _
          refine wp_if_eq 35 dX10_setLimits_22 (by decide) (fun q => absurd q (by decide)) (fun _ => ?_)
          refine wp_iload_n dX10_setLimits_25 rfl ?_
          refine wp_ldc dX10_setLimits_26 kX10_39 ?_
          refine wp_iload_n dX10_setLimits_28 rfl ?_
          refine wp_callS (As := [.int lo, .int (-200000 : Int32), .int hi]) (S := []) (b' := (0, 0)) (b := (0, 0)) dX10_setLimits_29 MX10_35 rfl rfl (Nat.le_of_ble_eq_true rfl) ?_
          refine WPM.of pX10 (Nat.le_of_ble_eq_true rfl) rfl ?_
          refine wp_iload_n dX10_within_0 rfl ?_
          refine wp_iload_n dX10_within_1 rfl ?_
          refine wp_icmp_lt 14 dX10_within_2 (by decide) (fun q9 => ?_) (fun q10 => ?_)
          · skip
            refine wp_iconst (0 : Int32) dX10_within_14 (by decide) ?_
            refine wp_zret dX10_within_15 rfl rfl ?_
            show WP G (d + 2) (0, 0) μX10_setLimits 32 [.ref (gB G), .int x, .int lo, .int hi] [.int (0 : Int32)] m _
            refine wp_if_ne 38 dX10_setLimits_32 (by decide) (fun q => absurd (by decide) q) (fun _ => ?_)
            refine wp_ldc dX10_setLimits_35 kX10_42 ?_
            exact wp_iret dX10_setLimits_37 rfl (e5 q2 q4 q6 q8 q9)
          · skip
            refine wp_iload_n dX10_within_5 rfl ?_
            refine wp_iload_n dX10_within_6 rfl ?_
            refine wp_icmp_gt 14 dX10_within_7 (by decide) (fun q11 => ?_) (fun q12 => ?_)
            · skip
              refine wp_iconst (0 : Int32) dX10_within_14 (by decide) ?_
              refine wp_zret dX10_within_15 rfl rfl ?_
              show WP G (d + 2) (0, 0) μX10_setLimits 32 [.ref (gB G), .int x, .int lo, .int hi] [.int (0 : Int32)] m _
              refine wp_if_ne 38 dX10_setLimits_32 (by decide) (fun q => absurd (by decide) q) (fun _ => ?_)
              refine wp_ldc dX10_setLimits_35 kX10_42 ?_
              exact wp_iret dX10_setLimits_37 rfl (e6 q2 q4 q6 q8 q10 q11)
            · skip
              refine wp_iconst (1 : Int32) dX10_within_10 (by decide) ?_
              refine wp_goto 15 dX10_within_11 (by decide) ?_
              refine wp_zret dX10_within_15 rfl rfl ?_
              show WP G (d + 2) (0, 0) μX10_setLimits 32 [.ref (gB G), .int x, .int lo, .int hi] [.int (1 : Int32)] m _
              refine wp_if_ne 38 dX10_setLimits_32 (by decide) (fun _ => ?_) (fun q => absurd q (by decide))
              refine wp_aload_n dX10_setLimits_38 rfl ?_
              refine wp_getr (gB G + 1) dX10_setLimits_39 fX10_10 (ka0 hF) (hF.2 _ _) (rra 1 (isK_le (ka0 hF)) (fun _ => rfl)) ?_
              refine wp_getr ((gB G + 1) + 1) dX10_setLimits_42 fX10_48 (kc0 hF (isC1 G)) (hF.2 _ _) (rra 1 (isK_le (kc0 hF (isC1 G))) (fun _ => rfl)) ?_
              refine wp_iload_n dX10_setLimits_45 rfl ?_
              refine wp_rald (nd (gB G + 1) x.toNatClampNeg) dX10_setLimits_46 (kc hF (isC1 G) 1 (by decide)) (by decide) (by decide) (lc (isC1 G) 1 (by decide)) (g1 q2 q4 q6 q8 q10 q12) (hF.2 _ _) (rnd hF (isC1 G)) ?_
              refine wp_iload_n dX10_setLimits_47 rfl ?_
              refine wp_puti dX10_setLimits_48 pX10_63 (knd hF (isC1 G) (vlt (g1 q2 q4 q6 q8 q10 q12))) ?_
              have hF13 := Full_wfi 405 (nd (gB G + 1) x.toNatClampNeg) lo hF
              refine wp_aload_n dX10_setLimits_51 rfl ?_
              refine wp_getr (gB G + 1) dX10_setLimits_52 fX10_10 (ka0 hF13) (hF13.2 _ _) (rra 1 (isK_le (ka0 hF13)) (fun _ => rfl)) ?_
              refine wp_getr ((gB G + 1) + 1) dX10_setLimits_55 fX10_48 (kc0 hF13 (isC1 G)) (hF13.2 _ _) (rra 1 (isK_le (kc0 hF13 (isC1 G))) (fun _ => rfl)) ?_
              refine wp_iload_n dX10_setLimits_58 rfl ?_
              refine wp_rald (nd (gB G + 1) x.toNatClampNeg) dX10_setLimits_59 (kc hF13 (isC1 G) 1 (by decide)) (by decide) (by decide) (lc (isC1 G) 1 (by decide)) (g2 q2 q4 q6 q8 q10 q12) (hF13.2 _ _) (rnd hF13 (isC1 G)) ?_
              refine wp_iload_n dX10_setLimits_60 rfl ?_
              refine wp_puti dX10_setLimits_61 pX10_66 (knd hF13 (isC1 G) (vlt (g2 q2 q4 q6 q8 q10 q12))) ?_
              have hF14 := Full_wfi 406 (nd (gB G + 1) x.toNatClampNeg) hi hF13
              refine wp_iconst (0 : Int32) dX10_setLimits_64 (by decide) ?_
              exact wp_iret dX10_setLimits_65 rfl (e7 q2 q4 q6 q8 q10 q12)

theorem sX10_addNode {G : Cx} {d : Nat} {m : Mm} {Q : Option Value → Mm → Prop} {a b u v w : Int32} (hF : Full G m)
    (g1 : ¬ a < (1 : Int32) → ¬ (100000 : Int32) < a → ¬ b < (-200000 : Int32) → ¬ (200000 : Int32) < b → ¬ u < (0 : Int32) → ¬ (10000 : Int32) < u → ¬ v < (0 : Int32) → ¬ (10000 : Int32) < v → ¬ w < (0 : Int32) → ¬ (1000000 : Int32) < w → (fi m 5 (gB G + 1)) < (12 : Int32) → vp_in (fi m 5 (gB G + 1)) 12)
    (e1 : a < (1 : Int32) → Q (some (.int (-1000000002 : Int32))) m)
    (e2 : ¬ a < (1 : Int32) → (100000 : Int32) < a → Q (some (.int (-1000000002 : Int32))) m)
    (e3 : ¬ a < (1 : Int32) → ¬ (100000 : Int32) < a → b < (-200000 : Int32) → Q (some (.int (-1000000002 : Int32))) m)
    (e4 : ¬ a < (1 : Int32) → ¬ (100000 : Int32) < a → ¬ b < (-200000 : Int32) → (200000 : Int32) < b → Q (some (.int (-1000000002 : Int32))) m)
    (e5 : ¬ a < (1 : Int32) → ¬ (100000 : Int32) < a → ¬ b < (-200000 : Int32) → ¬ (200000 : Int32) < b → u < (0 : Int32) → Q (some (.int (-1000000002 : Int32))) m)
    (e6 : ¬ a < (1 : Int32) → ¬ (100000 : Int32) < a → ¬ b < (-200000 : Int32) → ¬ (200000 : Int32) < b → ¬ u < (0 : Int32) → (10000 : Int32) < u → Q (some (.int (-1000000002 : Int32))) m)
    (e7 : ¬ a < (1 : Int32) → ¬ (100000 : Int32) < a → ¬ b < (-200000 : Int32) → ¬ (200000 : Int32) < b → ¬ u < (0 : Int32) → ¬ (10000 : Int32) < u → v < (0 : Int32) → Q (some (.int (-1000000002 : Int32))) m)
    (e8 : ¬ a < (1 : Int32) → ¬ (100000 : Int32) < a → ¬ b < (-200000 : Int32) → ¬ (200000 : Int32) < b → ¬ u < (0 : Int32) → ¬ (10000 : Int32) < u → ¬ v < (0 : Int32) → (10000 : Int32) < v → Q (some (.int (-1000000002 : Int32))) m)
    (e9 : ¬ a < (1 : Int32) → ¬ (100000 : Int32) < a → ¬ b < (-200000 : Int32) → ¬ (200000 : Int32) < b → ¬ u < (0 : Int32) → ¬ (10000 : Int32) < u → ¬ v < (0 : Int32) → ¬ (10000 : Int32) < v → w < (0 : Int32) → Q (some (.int (-1000000002 : Int32))) m)
    (e10 : ¬ a < (1 : Int32) → ¬ (100000 : Int32) < a → ¬ b < (-200000 : Int32) → ¬ (200000 : Int32) < b → ¬ u < (0 : Int32) → ¬ (10000 : Int32) < u → ¬ v < (0 : Int32) → ¬ (10000 : Int32) < v → ¬ w < (0 : Int32) → (1000000 : Int32) < w → Q (some (.int (-1000000002 : Int32))) m)
    (e11 : ¬ a < (1 : Int32) → ¬ (100000 : Int32) < a → ¬ b < (-200000 : Int32) → ¬ (200000 : Int32) < b → ¬ u < (0 : Int32) → ¬ (10000 : Int32) < u → ¬ v < (0 : Int32) → ¬ (10000 : Int32) < v → ¬ w < (0 : Int32) → ¬ (1000000 : Int32) < w → (fi m 5 (gB G + 1)) < (12 : Int32) → Q (some (.int (fi m 5 (gB G + 1)))) (wfi (wfi (wfi (wfi (wfi (wfi (wfi (wfi (wfi (wfi (wfi (wfi m 400 (nd (gB G + 1) ((fi m 5 (gB G + 1)).toNatClampNeg)) a) 401 (nd (gB G + 1) ((fi m 5 (gB G + 1)).toNatClampNeg)) b) 402 (nd (gB G + 1) ((fi m 5 (gB G + 1)).toNatClampNeg)) u) 403 (nd (gB G + 1) ((fi m 5 (gB G + 1)).toNatClampNeg)) v) 404 (nd (gB G + 1) ((fi m 5 (gB G + 1)).toNatClampNeg)) w) 405 (nd (gB G + 1) ((fi m 5 (gB G + 1)).toNatClampNeg)) (-200000 : Int32)) 406 (nd (gB G + 1) ((fi m 5 (gB G + 1)).toNatClampNeg)) (200000 : Int32)) 407 (nd (gB G + 1) ((fi m 5 (gB G + 1)).toNatClampNeg)) b) 408 (nd (gB G + 1) ((fi m 5 (gB G + 1)).toNatClampNeg)) b) 409 (nd (gB G + 1) ((fi m 5 (gB G + 1)).toNatClampNeg)) (0 : Int32)) 410 (nd (gB G + 1) ((fi m 5 (gB G + 1)).toNatClampNeg)) (-1 : Int32)) 5 (gB G + 1) ((fi m 5 (gB G + 1)) + (1 : Int32))))
    (e12 : ¬ a < (1 : Int32) → ¬ (100000 : Int32) < a → ¬ b < (-200000 : Int32) → ¬ (200000 : Int32) < b → ¬ u < (0 : Int32) → ¬ (10000 : Int32) < u → ¬ v < (0 : Int32) → ¬ (10000 : Int32) < v → ¬ w < (0 : Int32) → ¬ (1000000 : Int32) < w → ¬ (fi m 5 (gB G + 1)) < (12 : Int32) → Q (some (.int (-1000000003 : Int32))) m) :
    WPM G (d + 3) (0, 0) μX10_addNode [.ref (gB G), .int a, .int b, .int u, .int v, .int w] m Q := by
  refine WPM.of pX10 (Nat.le_of_ble_eq_true rfl) rfl ?_
  refine wp_iload_n dX10_addNode_0 rfl ?_
  refine wp_iconst (1 : Int32) dX10_addNode_1 (by decide) ?_
  refine wp_ldc dX10_addNode_2 kX10_34 ?_
  refine wp_callS (As := [.int a, .int (1 : Int32), .int (100000 : Int32)]) (S := []) (b' := (0, 0)) (b := (0, 0)) dX10_addNode_4 MX10_35 rfl rfl (Nat.le_of_ble_eq_true rfl) ?_
  refine WPM.of pX10 (Nat.le_of_ble_eq_true rfl) rfl ?_
  refine wp_iload_n dX10_within_0 rfl ?_
  refine wp_iload_n dX10_within_1 rfl ?_
  refine wp_icmp_lt 14 dX10_within_2 (by decide) (fun q1 => ?_) (fun q2 => ?_)
  · skip
    refine wp_iconst (0 : Int32) dX10_within_14 (by decide) ?_
    refine wp_zret dX10_within_15 rfl rfl ?_
    show WP G (d + 3) (0, 0) μX10_addNode 7 [.ref (gB G), .int a, .int b, .int u, .int v, .int w, lvU] [.int (0 : Int32)] m _
    refine wp_if_eq 55 dX10_addNode_7 (by decide) (fun _ => ?_) (fun q => absurd (by decide) q)
    refine wp_ldc dX10_addNode_55 kX10_42 ?_
    exact wp_iret dX10_addNode_57 rfl (e1 q1)
  · skip
    refine wp_iload_n dX10_within_5 rfl ?_
    refine wp_iload_n dX10_within_6 rfl ?_
    refine wp_icmp_gt 14 dX10_within_7 (by decide) (fun q3 => ?_) (fun q4 => ?_)
    · skip
      refine wp_iconst (0 : Int32) dX10_within_14 (by decide) ?_
      refine wp_zret dX10_within_15 rfl rfl ?_
      show WP G (d + 3) (0, 0) μX10_addNode 7 [.ref (gB G), .int a, .int b, .int u, .int v, .int w, lvU] [.int (0 : Int32)] m _
      refine wp_if_eq 55 dX10_addNode_7 (by decide) (fun _ => ?_) (fun q => absurd (by decide) q)
      refine wp_ldc dX10_addNode_55 kX10_42 ?_
      exact wp_iret dX10_addNode_57 rfl (e2 q2 q3)
    · skip
      refine wp_iconst (1 : Int32) dX10_within_10 (by decide) ?_
      refine wp_goto 15 dX10_within_11 (by decide) ?_
      refine wp_zret dX10_within_15 rfl rfl ?_
      show WP G (d + 3) (0, 0) μX10_addNode 7 [.ref (gB G), .int a, .int b, .int u, .int v, .int w, lvU] [.int (1 : Int32)] m _
      refine wp_if_eq 55 dX10_addNode_7 (by decide) (fun q => absurd q (by decide)) (fun _ => ?_)
      refine wp_iload_n dX10_addNode_10 rfl ?_
      refine wp_ldc dX10_addNode_11 kX10_39 ?_
      refine wp_ldc dX10_addNode_13 kX10_40 ?_
      refine wp_callS (As := [.int b, .int (-200000 : Int32), .int (200000 : Int32)]) (S := []) (b' := (0, 0)) (b := (0, 0)) dX10_addNode_15 MX10_35 rfl rfl (Nat.le_of_ble_eq_true rfl) ?_
      refine WPM.of pX10 (Nat.le_of_ble_eq_true rfl) rfl ?_
      refine wp_iload_n dX10_within_0 rfl ?_
      refine wp_iload_n dX10_within_1 rfl ?_
      refine wp_icmp_lt 14 dX10_within_2 (by decide) (fun q5 => ?_) (fun q6 => ?_)
      · skip
        refine wp_iconst (0 : Int32) dX10_within_14 (by decide) ?_
        refine wp_zret dX10_within_15 rfl rfl ?_
        show WP G (d + 3) (0, 0) μX10_addNode 18 [.ref (gB G), .int a, .int b, .int u, .int v, .int w, lvU] [.int (0 : Int32)] m _
        refine wp_if_eq 55 dX10_addNode_18 (by decide) (fun _ => ?_) (fun q => absurd (by decide) q)
        refine wp_ldc dX10_addNode_55 kX10_42 ?_
        exact wp_iret dX10_addNode_57 rfl (e3 q2 q4 q5)
      · skip
        refine wp_iload_n dX10_within_5 rfl ?_
        refine wp_iload_n dX10_within_6 rfl ?_
        refine wp_icmp_gt 14 dX10_within_7 (by decide) (fun q7 => ?_) (fun q8 => ?_)
        · skip
          refine wp_iconst (0 : Int32) dX10_within_14 (by decide) ?_
          refine wp_zret dX10_within_15 rfl rfl ?_
          show WP G (d + 3) (0, 0) μX10_addNode 18 [.ref (gB G), .int a, .int b, .int u, .int v, .int w, lvU] [.int (0 : Int32)] m _
          refine wp_if_eq 55 dX10_addNode_18 (by decide) (fun _ => ?_) (fun q => absurd (by decide) q)
          refine wp_ldc dX10_addNode_55 kX10_42 ?_
          exact wp_iret dX10_addNode_57 rfl (e4 q2 q4 q6 q7)
        · skip
          refine wp_iconst (1 : Int32) dX10_within_10 (by decide) ?_
          refine wp_goto 15 dX10_within_11 (by decide) ?_
          refine wp_zret dX10_within_15 rfl rfl ?_
          show WP G (d + 3) (0, 0) μX10_addNode 18 [.ref (gB G), .int a, .int b, .int u, .int v, .int w, lvU] [.int (1 : Int32)] m _
          refine wp_if_eq 55 dX10_addNode_18 (by decide) (fun q => absurd q (by decide)) (fun _ => ?_)
          refine wp_iload_n dX10_addNode_21 rfl ?_
          refine wp_iconst (0 : Int32) dX10_addNode_22 (by decide) ?_
          refine wp_sipush (10000 : Int32) dX10_addNode_23 (by decide) ?_
          refine wp_callS (As := [.int u, .int (0 : Int32), .int (10000 : Int32)]) (S := []) (b' := (0, 0)) (b := (0, 0)) dX10_addNode_26 MX10_35 rfl rfl (Nat.le_of_ble_eq_true rfl) ?_
          refine WPM.of pX10 (Nat.le_of_ble_eq_true rfl) rfl ?_
          refine wp_iload_n dX10_within_0 rfl ?_
          refine wp_iload_n dX10_within_1 rfl ?_
          refine wp_icmp_lt 14 dX10_within_2 (by decide) (fun q9 => ?_) (fun q10 => ?_)
          · skip
            refine wp_iconst (0 : Int32) dX10_within_14 (by decide) ?_
            refine wp_zret dX10_within_15 rfl rfl ?_
            show WP G (d + 3) (0, 0) μX10_addNode 29 [.ref (gB G), .int a, .int b, .int u, .int v, .int w, lvU] [.int (0 : Int32)] m _
            refine wp_if_eq 55 dX10_addNode_29 (by decide) (fun _ => ?_) (fun q => absurd (by decide) q)
            refine wp_ldc dX10_addNode_55 kX10_42 ?_
            exact wp_iret dX10_addNode_57 rfl (e5 q2 q4 q6 q8 q9)
          · skip
            refine wp_iload_n dX10_within_5 rfl ?_
            refine wp_iload_n dX10_within_6 rfl ?_
            refine wp_icmp_gt 14 dX10_within_7 (by decide) (fun q11 => ?_) (fun q12 => ?_)
            · skip
              refine wp_iconst (0 : Int32) dX10_within_14 (by decide) ?_
              refine wp_zret dX10_within_15 rfl rfl ?_
              show WP G (d + 3) (0, 0) μX10_addNode 29 [.ref (gB G), .int a, .int b, .int u, .int v, .int w, lvU] [.int (0 : Int32)] m _
              refine wp_if_eq 55 dX10_addNode_29 (by decide) (fun _ => ?_) (fun q => absurd (by decide) q)
              refine wp_ldc dX10_addNode_55 kX10_42 ?_
              exact wp_iret dX10_addNode_57 rfl (e6 q2 q4 q6 q8 q10 q11)
            · skip
              refine wp_iconst (1 : Int32) dX10_within_10 (by decide) ?_
              refine wp_goto 15 dX10_within_11 (by decide) ?_
              refine wp_zret dX10_within_15 rfl rfl ?_
              show WP G (d + 3) (0, 0) μX10_addNode 29 [.ref (gB G), .int a, .int b, .int u, .int v, .int w, lvU] [.int (1 : Int32)] m _
              refine wp_if_eq 55 dX10_addNode_29 (by decide) (fun q => absurd q (by decide)) (fun _ => ?_)
              refine wp_iload dX10_addNode_32 rfl ?_
              refine wp_iconst (0 : Int32) dX10_addNode_34 (by decide) ?_
              refine wp_sipush (10000 : Int32) dX10_addNode_35 (by decide) ?_
              refine wp_callS (As := [.int v, .int (0 : Int32), .int (10000 : Int32)]) (S := []) (b' := (0, 0)) (b := (0, 0)) dX10_addNode_38 MX10_35 rfl rfl (Nat.le_of_ble_eq_true rfl) ?_
              refine WPM.of pX10 (Nat.le_of_ble_eq_true rfl) rfl ?_
              refine wp_iload_n dX10_within_0 rfl ?_
              refine wp_iload_n dX10_within_1 rfl ?_
              refine wp_icmp_lt 14 dX10_within_2 (by decide) (fun q13 => ?_) (fun q14 => ?_)
              · skip
                refine wp_iconst (0 : Int32) dX10_within_14 (by decide) ?_
                refine wp_zret dX10_within_15 rfl rfl ?_
                show WP G (d + 3) (0, 0) μX10_addNode 41 [.ref (gB G), .int a, .int b, .int u, .int v, .int w, lvU] [.int (0 : Int32)] m _
                refine wp_if_eq 55 dX10_addNode_41 (by decide) (fun _ => ?_) (fun q => absurd (by decide) q)
                refine wp_ldc dX10_addNode_55 kX10_42 ?_
                exact wp_iret dX10_addNode_57 rfl (e7 q2 q4 q6 q8 q10 q12 q13)
              · skip
                refine wp_iload_n dX10_within_5 rfl ?_
                refine wp_iload_n dX10_within_6 rfl ?_
                refine wp_icmp_gt 14 dX10_within_7 (by decide) (fun q15 => ?_) (fun q16 => ?_)
                · skip
                  refine wp_iconst (0 : Int32) dX10_within_14 (by decide) ?_
                  refine wp_zret dX10_within_15 rfl rfl ?_
                  show WP G (d + 3) (0, 0) μX10_addNode 41 [.ref (gB G), .int a, .int b, .int u, .int v, .int w, lvU] [.int (0 : Int32)] m _
                  refine wp_if_eq 55 dX10_addNode_41 (by decide) (fun _ => ?_) (fun q => absurd (by decide) q)
                  refine wp_ldc dX10_addNode_55 kX10_42 ?_
                  exact wp_iret dX10_addNode_57 rfl (e8 q2 q4 q6 q8 q10 q12 q14 q15)
                · skip
                  refine wp_iconst (1 : Int32) dX10_within_10 (by decide) ?_
                  refine wp_goto 15 dX10_within_11 (by decide) ?_
                  refine wp_zret dX10_within_15 rfl rfl ?_
                  show WP G (d + 3) (0, 0) μX10_addNode 41 [.ref (gB G), .int a, .int b, .int u, .int v, .int w, lvU] [.int (1 : Int32)] m _
                  refine wp_if_eq 55 dX10_addNode_41 (by decide) (fun q => absurd q (by decide)) (fun _ => ?_)
                  refine wp_iload dX10_addNode_44 rfl ?_
                  refine wp_iconst (0 : Int32) dX10_addNode_46 (by decide) ?_
                  refine wp_ldc dX10_addNode_47 kX10_41 ?_
                  refine wp_callS (As := [.int w, .int (0 : Int32), .int (1000000 : Int32)]) (S := []) (b' := (0, 0)) (b := (0, 0)) dX10_addNode_49 MX10_35 rfl rfl (Nat.le_of_ble_eq_true rfl) ?_
                  refine WPM.of pX10 (Nat.le_of_ble_eq_true rfl) rfl ?_
                  refine wp_iload_n dX10_within_0 rfl ?_
                  refine wp_iload_n dX10_within_1 rfl ?_
                  refine wp_icmp_lt 14 dX10_within_2 (by decide) (fun q17 => ?_) (fun q18 => ?_)
                  · skip
                    refine wp_iconst (0 : Int32) dX10_within_14 (by decide) ?_
                    refine wp_zret dX10_within_15 rfl rfl ?_
                    show WP G (d + 3) (0, 0) μX10_addNode 52 [.ref (gB G), .int a, .int b, .int u, .int v, .int w, lvU] [.int (0 : Int32)] m _
                    refine wp_if_ne 58 dX10_addNode_52 (by decide) (fun q => absurd (by decide) q) (fun _ => ?_)
                    refine wp_ldc dX10_addNode_55 kX10_42 ?_
                    exact wp_iret dX10_addNode_57 rfl (e9 q2 q4 q6 q8 q10 q12 q14 q16 q17)
                  · skip
                    refine wp_iload_n dX10_within_5 rfl ?_
                    refine wp_iload_n dX10_within_6 rfl ?_
                    refine wp_icmp_gt 14 dX10_within_7 (by decide) (fun q19 => ?_) (fun q20 => ?_)
                    · skip
                      refine wp_iconst (0 : Int32) dX10_within_14 (by decide) ?_
                      refine wp_zret dX10_within_15 rfl rfl ?_
                      show WP G (d + 3) (0, 0) μX10_addNode 52 [.ref (gB G), .int a, .int b, .int u, .int v, .int w, lvU] [.int (0 : Int32)] m _
                      refine wp_if_ne 58 dX10_addNode_52 (by decide) (fun q => absurd (by decide) q) (fun _ => ?_)
                      refine wp_ldc dX10_addNode_55 kX10_42 ?_
                      exact wp_iret dX10_addNode_57 rfl (e10 q2 q4 q6 q8 q10 q12 q14 q16 q18 q19)
                    · skip
                      refine wp_iconst (1 : Int32) dX10_within_10 (by decide) ?_
                      refine wp_goto 15 dX10_within_11 (by decide) ?_
                      refine wp_zret dX10_within_15 rfl rfl ?_
                      show WP G (d + 3) (0, 0) μX10_addNode 52 [.ref (gB G), .int a, .int b, .int u, .int v, .int w, lvU] [.int (1 : Int32)] m _
                      refine wp_if_ne 58 dX10_addNode_52 (by decide) (fun _ => ?_) (fun q => absurd q (by decide))
                      refine wp_aload_n dX10_addNode_58 rfl ?_
                      refine wp_getr (gB G + 1) dX10_addNode_59 fX10_10 (ka0 hF) (hF.2 _ _) (rra 1 (isK_le (ka0 hF)) (fun _ => rfl)) ?_
                      refine wp_geti (fi m 5 (gB G + 1)) dX10_addNode_62 fX10_43 (Or.inl rfl) (kc0 hF (isC1 G)) rfl ?_
                      refine wp_istore dX10_addNode_65 (by decide) rfl ?_
                      refine wp_iload dX10_addNode_67 rfl ?_
                      refine wp_bipush (12 : Int32) dX10_addNode_69 (by decide) ?_
                      refine wp_icmp_lt 77 dX10_addNode_71 (by decide) (fun q21 => ?_) (fun q22 => ?_)
                      · skip
                        refine wp_aload_n dX10_addNode_77 rfl ?_
                        refine wp_getr (gB G + 1) dX10_addNode_78 fX10_10 (ka0 hF) (hF.2 _ _) (rra 1 (isK_le (ka0 hF)) (fun _ => rfl)) ?_
                        refine wp_getr ((gB G + 1) + 1) dX10_addNode_81 fX10_48 (kc0 hF (isC1 G)) (hF.2 _ _) (rra 1 (isK_le (kc0 hF (isC1 G))) (fun _ => rfl)) ?_
                        refine wp_iload dX10_addNode_84 rfl ?_
                        refine wp_rald (nd (gB G + 1) ((fi m 5 (gB G + 1)).toNatClampNeg)) dX10_addNode_86 (kc hF (isC1 G) 1 (by decide)) (by decide) (by decide) (lc (isC1 G) 1 (by decide)) (g1 q2 q4 q6 q8 q10 q12 q14 q16 q18 q20 q21) (hF.2 _ _) (rnd hF (isC1 G)) ?_
                        refine wp_iload_n dX10_addNode_87 rfl ?_
                        refine wp_iload_n dX10_addNode_88 rfl ?_
                        refine wp_iload_n dX10_addNode_89 rfl ?_
                        refine wp_iload dX10_addNode_90 rfl ?_
                        refine wp_iload dX10_addNode_92 rfl ?_
                        refine wp_callV (As := [.int a, .int b, .int u, .int v, .int w]) (S := []) (b' := (0, 0)) (b := (0, 0)) dX10_addNode_94 MX10_52 (knd hF (isC1 G) (vlt (g1 q2 q4 q6 q8 q10 q12 q14 q16 q18 q20 q21))) rfl rfl rfl rfl (Nat.le_of_ble_eq_true rfl) ?_
                        refine WPM.of pX4 (Nat.le_of_ble_eq_true rfl) rfl ?_
                        refine wp_aload_n dX4_begin_0 rfl ?_
                        refine wp_iload_n dX4_begin_1 rfl ?_
                        refine wp_puti dX4_begin_2 pX4_9 (knd hF (isC1 G) (vlt (g1 q2 q4 q6 q8 q10 q12 q14 q16 q18 q20 q21))) ?_
                        have hF23 := Full_wfi 400 (nd (gB G + 1) ((fi m 5 (gB G + 1)).toNatClampNeg)) a hF
                        refine wp_aload_n dX4_begin_5 rfl ?_
                        refine wp_iload_n dX4_begin_6 rfl ?_
                        refine wp_puti dX4_begin_7 pX4_15 (knd hF23 (isC1 G) (vlt (g1 q2 q4 q6 q8 q10 q12 q14 q16 q18 q20 q21))) ?_
                        have hF24 := Full_wfi 401 (nd (gB G + 1) ((fi m 5 (gB G + 1)).toNatClampNeg)) b hF23
                        refine wp_aload_n dX4_begin_10 rfl ?_
                        refine wp_iload_n dX4_begin_11 rfl ?_
                        refine wp_puti dX4_begin_12 pX4_18 (knd hF24 (isC1 G) (vlt (g1 q2 q4 q6 q8 q10 q12 q14 q16 q18 q20 q21))) ?_
                        have hF25 := Full_wfi 402 (nd (gB G + 1) ((fi m 5 (gB G + 1)).toNatClampNeg)) u hF24
                        refine wp_aload_n dX4_begin_15 rfl ?_
                        refine wp_iload dX4_begin_16 rfl ?_
                        refine wp_puti dX4_begin_18 pX4_21 (knd hF25 (isC1 G) (vlt (g1 q2 q4 q6 q8 q10 q12 q14 q16 q18 q20 q21))) ?_
                        have hF26 := Full_wfi 403 (nd (gB G + 1) ((fi m 5 (gB G + 1)).toNatClampNeg)) v hF25
                        refine wp_aload_n dX4_begin_21 rfl ?_
                        refine wp_iload dX4_begin_22 rfl ?_
                        refine wp_puti dX4_begin_24 pX4_24 (knd hF26 (isC1 G) (vlt (g1 q2 q4 q6 q8 q10 q12 q14 q16 q18 q20 q21))) ?_
                        have hF27 := Full_wfi 404 (nd (gB G + 1) ((fi m 5 (gB G + 1)).toNatClampNeg)) w hF26
                        refine wp_aload_n dX4_begin_27 rfl ?_
                        refine wp_ldc dX4_begin_28 kX4_27 ?_
                        refine wp_puti dX4_begin_30 pX4_28 (knd hF27 (isC1 G) (vlt (g1 q2 q4 q6 q8 q10 q12 q14 q16 q18 q20 q21))) ?_
                        have hF28 := Full_wfi 405 (nd (gB G + 1) ((fi m 5 (gB G + 1)).toNatClampNeg)) (-200000 : Int32) hF27
                        refine wp_aload_n dX4_begin_33 rfl ?_
                        refine wp_ldc dX4_begin_34 kX4_31 ?_
                        refine wp_puti dX4_begin_36 pX4_32 (knd hF28 (isC1 G) (vlt (g1 q2 q4 q6 q8 q10 q12 q14 q16 q18 q20 q21))) ?_
                        have hF29 := Full_wfi 406 (nd (gB G + 1) ((fi m 5 (gB G + 1)).toNatClampNeg)) (200000 : Int32) hF28
                        refine wp_aload_n dX4_begin_39 rfl ?_
                        refine wp_callV (As := []) (S := []) (b' := (0, 0)) (b := (0, 0)) dX4_begin_40 MX4_35 (knd hF29 (isC1 G) (vlt (g1 q2 q4 q6 q8 q10 q12 q14 q16 q18 q20 q21))) rfl rfl rfl rfl (Nat.le_of_ble_eq_true rfl) ?_
                        refine WPM.of pX4 (Nat.le_of_ble_eq_true rfl) rfl ?_
                        refine wp_aload_n dX4_beginRecords_0 rfl ?_
                        refine wp_aload_n dX4_beginRecords_1 rfl ?_
                        refine wp_geti b dX4_beginRecords_2 fX4_15 (Or.inl rfl) (knd hF29 (isC1 G) (vlt (g1 q2 q4 q6 q8 q10 q12 q14 q16 q18 q20 q21))) ((fi_ne (by decide)).trans ((fi_ne (by decide)).trans ((fi_ne (by decide)).trans ((fi_ne (by decide)).trans ((fi_ne (by decide)).trans fi_eq))))) ?_
                        refine wp_puti dX4_beginRecords_5 pX4_38 (knd hF29 (isC1 G) (vlt (g1 q2 q4 q6 q8 q10 q12 q14 q16 q18 q20 q21))) ?_
                        have hF30 := Full_wfi 407 (nd (gB G + 1) ((fi m 5 (gB G + 1)).toNatClampNeg)) b hF29
                        refine wp_aload_n dX4_beginRecords_8 rfl ?_
                        refine wp_aload_n dX4_beginRecords_9 rfl ?_
                        refine wp_geti b dX4_beginRecords_10 fX4_15 (Or.inl rfl) (knd hF30 (isC1 G) (vlt (g1 q2 q4 q6 q8 q10 q12 q14 q16 q18 q20 q21))) ((fi_ne (by decide)).trans ((fi_ne (by decide)).trans ((fi_ne (by decide)).trans ((fi_ne (by decide)).trans ((fi_ne (by decide)).trans ((fi_ne (by decide)).trans fi_eq)))))) ?_
                        refine wp_puti dX4_beginRecords_13 pX4_41 (knd hF30 (isC1 G) (vlt (g1 q2 q4 q6 q8 q10 q12 q14 q16 q18 q20 q21))) ?_
                        have hF31 := Full_wfi 408 (nd (gB G + 1) ((fi m 5 (gB G + 1)).toNatClampNeg)) b hF30
                        refine wp_aload_n dX4_beginRecords_16 rfl ?_
                        refine wp_iconst (0 : Int32) dX4_beginRecords_17 (by decide) ?_
                        refine wp_puti dX4_beginRecords_18 pX4_44 (knd hF31 (isC1 G) (vlt (g1 q2 q4 q6 q8 q10 q12 q14 q16 q18 q20 q21))) ?_
                        have hF32 := Full_wfi 409 (nd (gB G + 1) ((fi m 5 (gB G + 1)).toNatClampNeg)) (0 : Int32) hF31
                        refine wp_aload_n dX4_beginRecords_21 rfl ?_
                        refine wp_iconst (-1 : Int32) dX4_beginRecords_22 (by decide) ?_
                        refine wp_puti dX4_beginRecords_23 pX4_47 (knd hF32 (isC1 G) (vlt (g1 q2 q4 q6 q8 q10 q12 q14 q16 q18 q20 q21))) ?_
                        have hF33 := Full_wfi 410 (nd (gB G + 1) ((fi m 5 (gB G + 1)).toNatClampNeg)) (-1 : Int32) hF32
                        refine wp_vret dX4_beginRecords_26 rfl ?_
                        show WP G (d + 2) (0, 0) μX4_begin 43 [.ref (nd (gB G + 1) ((fi m 5 (gB G + 1)).toNatClampNeg)), .int a, .int b, .int u, .int v, .int w] [] (wfi (wfi (wfi (wfi (wfi (wfi (wfi (wfi (wfi (wfi (wfi m 400 (nd (gB G + 1) ((fi m 5 (gB G + 1)).toNatClampNeg)) a) 401 (nd (gB G + 1) ((fi m 5 (gB G + 1)).toNatClampNeg)) b) 402 (nd (gB G + 1) ((fi m 5 (gB G + 1)).toNatClampNeg)) u) 403 (nd (gB G + 1) ((fi m 5 (gB G + 1)).toNatClampNeg)) v) 404 (nd (gB G + 1) ((fi m 5 (gB G + 1)).toNatClampNeg)) w) 405 (nd (gB G + 1) ((fi m 5 (gB G + 1)).toNatClampNeg)) (-200000 : Int32)) 406 (nd (gB G + 1) ((fi m 5 (gB G + 1)).toNatClampNeg)) (200000 : Int32)) 407 (nd (gB G + 1) ((fi m 5 (gB G + 1)).toNatClampNeg)) b) 408 (nd (gB G + 1) ((fi m 5 (gB G + 1)).toNatClampNeg)) b) 409 (nd (gB G + 1) ((fi m 5 (gB G + 1)).toNatClampNeg)) (0 : Int32)) 410 (nd (gB G + 1) ((fi m 5 (gB G + 1)).toNatClampNeg)) (-1 : Int32)) _
                        refine wp_vret dX4_begin_43 rfl ?_
                        show WP G (d + 3) (0, 0) μX10_addNode 97 [.ref (gB G), .int a, .int b, .int u, .int v, .int w, .int (fi m 5 (gB G + 1))] [] (wfi (wfi (wfi (wfi (wfi (wfi (wfi (wfi (wfi (wfi (wfi m 400 (nd (gB G + 1) ((fi m 5 (gB G + 1)).toNatClampNeg)) a) 401 (nd (gB G + 1) ((fi m 5 (gB G + 1)).toNatClampNeg)) b) 402 (nd (gB G + 1) ((fi m 5 (gB G + 1)).toNatClampNeg)) u) 403 (nd (gB G + 1) ((fi m 5 (gB G + 1)).toNatClampNeg)) v) 404 (nd (gB G + 1) ((fi m 5 (gB G + 1)).toNatClampNeg)) w) 405 (nd (gB G + 1) ((fi m 5 (gB G + 1)).toNatClampNeg)) (-200000 : Int32)) 406 (nd (gB G + 1) ((fi m 5 (gB G + 1)).toNatClampNeg)) (200000 : Int32)) 407 (nd (gB G + 1) ((fi m 5 (gB G + 1)).toNatClampNeg)) b) 408 (nd (gB G + 1) ((fi m 5 (gB G + 1)).toNatClampNeg)) b) 409 (nd (gB G + 1) ((fi m 5 (gB G + 1)).toNatClampNeg)) (0 : Int32)) 410 (nd (gB G + 1) ((fi m 5 (gB G + 1)).toNatClampNeg)) (-1 : Int32)) _
                        refine wp_aload_n dX10_addNode_97 rfl ?_
                        refine wp_getr (gB G + 1) dX10_addNode_98 fX10_10 (ka0 hF33) (hF33.2 _ _) (rra 1 (isK_le (ka0 hF33)) (fun _ => rfl)) ?_
                        refine wp_iload dX10_addNode_101 rfl ?_
                        refine wp_iconst (1 : Int32) dX10_addNode_103 (by decide) ?_
                        refine wp_iaddv ((fi m 5 (gB G + 1)) + (1 : Int32)) dX10_addNode_104 rfl ?_
                        refine wp_puti dX10_addNode_105 pX10_43 (kc0 hF33 (isC1 G)) ?_
                        have hF34 := Full_wfi 5 (gB G + 1) ((fi m 5 (gB G + 1)) + (1 : Int32)) hF33
                        refine wp_iload dX10_addNode_108 rfl ?_
                        exact wp_iret dX10_addNode_110 rfl (e11 q2 q4 q6 q8 q10 q12 q14 q16 q18 q20 q21)
                      · skip
                        refine wp_ldc dX10_addNode_74 kX10_47 ?_
                        exact wp_iret dX10_addNode_76 rfl (e12 q2 q4 q6 q8 q10 q12 q14 q16 q18 q20 q22)

theorem sX10_nodeCount {G : Cx} {d : Nat} {m : Mm} {Q : Option Value → Mm → Prop}  (hF : Full G m)
    (e1 : Q (some (.int (fi m 5 (gB G + 1)))) m) :
    WPM G (d + 1) (0, 0) μX10_nodeCount [.ref (gB G)] m Q := by
  refine WPM.of pX10 (Nat.le_of_ble_eq_true rfl) rfl ?_
  refine wp_aload_n dX10_nodeCount_0 rfl ?_
  refine wp_getr (gB G + 1) dX10_nodeCount_1 fX10_10 (ka0 hF) (hF.2 _ _) (rra 1 (isK_le (ka0 hF)) (fun _ => rfl)) ?_
  refine wp_geti (fi m 5 (gB G + 1)) dX10_nodeCount_4 fX10_43 (Or.inl rfl) (kc0 hF (isC1 G)) rfl ?_
  exact wp_iret dX10_nodeCount_7 rfl (e1)

theorem sX10_margin {G : Cx} {d : Nat} {m : Mm} {Q : Option Value → Mm → Prop} {x : Int32} (hF : Full G m)
    (g1 : ¬ x < 0 → x < (fi m 5 (gB G + 1)) → vp_in x 12)
    (e1 : x < 0 → Q (some (.int (-1000000001 : Int32))) m)
    (e2 : ¬ x < 0 → ¬ x < (fi m 5 (gB G + 1)) → Q (some (.int (-1000000001 : Int32))) m)
    (e3 : ¬ x < 0 → x < (fi m 5 (gB G + 1)) → Q (some (.int (imin ((fi m 401 (nd (gB G + 1) x.toNatClampNeg)) - (fi m 405 (nd (gB G + 1) x.toNatClampNeg))) ((fi m 406 (nd (gB G + 1) x.toNatClampNeg)) - (fi m 401 (nd (gB G + 1) x.toNatClampNeg)))))) m) :
    WPM G (d + 2) (0, 0) μX10_margin [.ref (gB G), .int x] m Q := by
  refine WPM.of pX10 (Nat.le_of_ble_eq_true rfl) rfl ?_
  refine wp_aload_n dX10_margin_0 rfl ?_
  refine wp_getr (gB G + 1) dX10_margin_1 fX10_10 (ka0 hF) (hF.2 _ _) (rra 1 (isK_le (ka0 hF)) (fun _ => rfl)) ?_
  refine wp_iload_n dX10_margin_4 rfl ?_
  refine wp_callV (As := [.int x]) (S := []) (b' := (0, 0)) (b := (0, 0)) dX10_margin_5 MX10_58 (kc0 hF (isC1 G)) rfl rfl rfl rfl (Nat.le_of_ble_eq_true rfl) ?_
  refine WPM.of pX0 (Nat.le_of_ble_eq_true rfl) rfl ?_
  refine wp_iload_n dX0_hasNode_0 rfl ?_
  refine wp_if_lt 16 dX0_hasNode_1 (by decide) (fun q1 => ?_) (fun q2 => ?_)
  · skip
    refine wp_iconst (0 : Int32) dX0_hasNode_16 (by decide) ?_
    refine wp_zret dX0_hasNode_17 rfl rfl ?_
    show WP G (d + 2) (0, 0) μX10_margin 8 [.ref (gB G), .int x, lvU] [.int (0 : Int32)] m _
    refine wp_if_ne 14 dX10_margin_8 (by decide) (fun q => absurd (by decide) q) (fun _ => ?_)
    refine wp_ldc dX10_margin_11 kX10_62 ?_
    exact wp_iret dX10_margin_13 rfl (e1 q1)
  · skip
    refine wp_iload_n dX0_hasNode_4 rfl ?_
    refine wp_aload_n dX0_hasNode_5 rfl ?_
    refine wp_geti (fi m 5 (gB G + 1)) dX0_hasNode_6 fX0_75 (Or.inl rfl) (kc0 hF (isC1 G)) rfl ?_
    refine wp_icmp_ge 16 dX0_hasNode_9 (by decide) (fun q3 => ?_) (fun q4 => ?_)
    · skip
      refine wp_iconst (0 : Int32) dX0_hasNode_16 (by decide) ?_
      refine wp_zret dX0_hasNode_17 rfl rfl ?_
      show WP G (d + 2) (0, 0) μX10_margin 8 [.ref (gB G), .int x, lvU] [.int (0 : Int32)] m _
      refine wp_if_ne 14 dX10_margin_8 (by decide) (fun q => absurd (by decide) q) (fun _ => ?_)
      refine wp_ldc dX10_margin_11 kX10_62 ?_
      exact wp_iret dX10_margin_13 rfl (e2 q2 q3)
    · skip
      refine wp_iconst (1 : Int32) dX0_hasNode_12 (by decide) ?_
      refine wp_goto 17 dX0_hasNode_13 (by decide) ?_
      refine wp_zret dX0_hasNode_17 rfl rfl ?_
      show WP G (d + 2) (0, 0) μX10_margin 8 [.ref (gB G), .int x, lvU] [.int (1 : Int32)] m _
      refine wp_if_ne 14 dX10_margin_8 (by decide) (fun _ => ?_) (fun q => absurd q (by decide))
      refine wp_aload_n dX10_margin_14 rfl ?_
      refine wp_getr (gB G + 1) dX10_margin_15 fX10_10 (ka0 hF) (hF.2 _ _) (rra 1 (isK_le (ka0 hF)) (fun _ => rfl)) ?_
      refine wp_getr ((gB G + 1) + 1) dX10_margin_18 fX10_48 (kc0 hF (isC1 G)) (hF.2 _ _) (rra 1 (isK_le (kc0 hF (isC1 G))) (fun _ => rfl)) ?_
      refine wp_iload_n dX10_margin_21 rfl ?_
      refine wp_rald (nd (gB G + 1) x.toNatClampNeg) dX10_margin_22 (kc hF (isC1 G) 1 (by decide)) (by decide) (by decide) (lc (isC1 G) 1 (by decide)) (g1 q2 q4) (hF.2 _ _) (rnd hF (isC1 G)) ?_
      refine wp_astore_n dX10_margin_23 (by decide) rfl ?_
      refine wp_aload_n dX10_margin_24 rfl ?_
      refine wp_geti (fi m 401 (nd (gB G + 1) x.toNatClampNeg)) dX10_margin_25 fX10_69 (Or.inl rfl) (knd hF (isC1 G) (vlt (g1 q2 q4))) rfl ?_
      refine wp_aload_n dX10_margin_28 rfl ?_
      refine wp_geti (fi m 405 (nd (gB G + 1) x.toNatClampNeg)) dX10_margin_29 fX10_63 (Or.inl rfl) (knd hF (isC1 G) (vlt (g1 q2 q4))) rfl ?_
      refine wp_isubv ((fi m 401 (nd (gB G + 1) x.toNatClampNeg)) - (fi m 405 (nd (gB G + 1) x.toNatClampNeg))) dX10_margin_32 rfl ?_
      refine wp_aload_n dX10_margin_33 rfl ?_
      refine wp_geti (fi m 406 (nd (gB G + 1) x.toNatClampNeg)) dX10_margin_34 fX10_66 (Or.inl rfl) (knd hF (isC1 G) (vlt (g1 q2 q4))) rfl ?_
      refine wp_aload_n dX10_margin_37 rfl ?_
      refine wp_geti (fi m 401 (nd (gB G + 1) x.toNatClampNeg)) dX10_margin_38 fX10_69 (Or.inl rfl) (knd hF (isC1 G) (vlt (g1 q2 q4))) rfl ?_
      refine wp_isubv ((fi m 406 (nd (gB G + 1) x.toNatClampNeg)) - (fi m 401 (nd (gB G + 1) x.toNatClampNeg))) dX10_margin_41 rfl ?_
      refine wp_minI dX10_margin_42 AX10_208 (Nat.le_of_ble_eq_true rfl) ?_
      exact wp_iret dX10_margin_45 rfl (e3 q2 q4)

theorem sX11_setLimits {G : Cx} {d : Nat} {m : Mm} {Q : Option Value → Mm → Prop} {x lo hi : Int32} (hF : Full G m)
    (g1 : ¬ x < (0 : Int32) → ¬ ((ai m (gB G + 294) 12) - (1 : Int32)) < x → ¬ hi < (-200000 : Int32) → ¬ (200000 : Int32) < hi → ¬ lo < (-200000 : Int32) → ¬ hi < lo → vp_in (((20 : Int32) + ((11 : Int32) * x)) + (5 : Int32)) 1486)
    (g2 : ¬ x < (0 : Int32) → ¬ ((ai m (gB G + 294) 12) - (1 : Int32)) < x → ¬ hi < (-200000 : Int32) → ¬ (200000 : Int32) < hi → ¬ lo < (-200000 : Int32) → ¬ hi < lo → vp_in (((20 : Int32) + ((11 : Int32) * x)) + (6 : Int32)) 1486)
    (e1 : x < (0 : Int32) → Q (some (.int (-1000000001 : Int32))) m)
    (e2 : ¬ x < (0 : Int32) → ((ai m (gB G + 294) 12) - (1 : Int32)) < x → Q (some (.int (-1000000001 : Int32))) m)
    (e3 : ¬ x < (0 : Int32) → ¬ ((ai m (gB G + 294) 12) - (1 : Int32)) < x → hi < (-200000 : Int32) → Q (some (.int (-1000000002 : Int32))) m)
    (e4 : ¬ x < (0 : Int32) → ¬ ((ai m (gB G + 294) 12) - (1 : Int32)) < x → ¬ hi < (-200000 : Int32) → (200000 : Int32) < hi → Q (some (.int (-1000000002 : Int32))) m)
    (e5 : ¬ x < (0 : Int32) → ¬ ((ai m (gB G + 294) 12) - (1 : Int32)) < x → ¬ hi < (-200000 : Int32) → ¬ (200000 : Int32) < hi → lo < (-200000 : Int32) → Q (some (.int (-1000000002 : Int32))) m)
    (e6 : ¬ x < (0 : Int32) → ¬ ((ai m (gB G + 294) 12) - (1 : Int32)) < x → ¬ hi < (-200000 : Int32) → ¬ (200000 : Int32) < hi → ¬ lo < (-200000 : Int32) → hi < lo → Q (some (.int (-1000000002 : Int32))) m)
    (e7 : ¬ x < (0 : Int32) → ¬ ((ai m (gB G + 294) 12) - (1 : Int32)) < x → ¬ hi < (-200000 : Int32) → ¬ (200000 : Int32) < hi → ¬ lo < (-200000 : Int32) → ¬ hi < lo → Q (some (.int (0 : Int32))) (wai (wai m (gB G + 294) ((((20 : Int32) + ((11 : Int32) * x)) + (5 : Int32)).toNatClampNeg) lo) (gB G + 294) ((((20 : Int32) + ((11 : Int32) * x)) + (6 : Int32)).toNatClampNeg) hi)) :
    WPM G (d + 3) (0, 0) μX11_setLimits [.ref (gB G + 293), .int x, .int lo, .int hi] m Q := by
  refine WPM.of pX11 (Nat.le_of_ble_eq_true rfl) rfl ?_
  refine wp_aload_n dX11_setLimits_0 rfl ?_
  refine wp_iload_n dX11_setLimits_1 rfl ?_
  refine wp_callV (As := [.int x]) (S := []) (b' := (0, 0)) (b := (0, 0)) dX11_setLimits_2 MX11_93 (ka hF 293 (by decide)) rfl rfl rfl rfl (Nat.le_of_ble_eq_true rfl) ?_
  refine WPM.of pX11 (Nat.le_of_ble_eq_true rfl) rfl ?_
  refine wp_iload_n dX11_isNode_0 rfl ?_
  refine wp_iconst (0 : Int32) dX11_isNode_1 (by decide) ?_
  refine wp_aload_n dX11_isNode_2 rfl ?_
  refine wp_getr (gB G + 294) dX11_isNode_3 fX11_7 (ka hF 293 (by decide)) (hF.2 _ _) (rra 1 (isK_le (ka hF 293 (by decide))) (fun _ => rfl)) ?_
  refine wp_bipush (12 : Int32) dX11_isNode_6 (by decide) ?_
  refine wp_iald (ai m (gB G + 294) 12) dX11_isNode_8 (ka hF 294 (by decide)) (la 294) (vinl (by decide)) rfl ?_
  refine wp_iconst (1 : Int32) dX11_isNode_9 (by decide) ?_
  refine wp_isubv ((ai m (gB G + 294) 12) - (1 : Int32)) dX11_isNode_10 rfl ?_
  refine wp_callS (As := [.int x, .int (0 : Int32), .int ((ai m (gB G + 294) 12) - (1 : Int32))]) (S := []) (b' := (0, 0)) (b := (0, 0)) dX11_isNode_11 MX11_67 rfl rfl (Nat.le_of_ble_eq_true rfl) ?_
  refine WPM.of pX11 (Nat.le_of_ble_eq_true rfl) rfl ?_
  refine wp_iload_n dX11_isBetween_0 rfl ?_
  refine wp_iload_n dX11_isBetween_1 rfl ?_
  refine wp_icmp_lt 14 dX11_isBetween_2 (by decide) (fun q1 => ?_) (fun q2 => ?_)
  · skip
    refine wp_iconst (0 : Int32) dX11_isBetween_14 (by decide) ?_
    refine wp_zret dX11_isBetween_15 rfl rfl ?_
    show WP G (d + 2) (0, 0) μX11_isNode 14 [.ref (gB G + 293), .int x] [.int (0 : Int32)] m _
    refine wp_zret dX11_isNode_14 rfl rfl ?_
    show WP G (d + 3) (0, 0) μX11_setLimits 5 [.ref (gB G + 293), .int x, .int lo, .int hi] [.int (0 : Int32)] m _
    refine wp_if_ne 11 dX11_setLimits_5 (by decide) (fun q => absurd (by decide) q) (fun _ => ?_)
    refine wp_ldc dX11_setLimits_8 kX11_96 ?_
    exact wp_iret dX11_setLimits_10 rfl (e1 q1)
  · skip
    refine wp_iload_n dX11_isBetween_5 rfl ?_
    refine wp_iload_n dX11_isBetween_6 rfl ?_
    refine wp_icmp_gt 14 dX11_isBetween_7 (by decide) (fun q3 => ?_) (fun q4 => ?_)
    · skip
      refine wp_iconst (0 : Int32) dX11_isBetween_14 (by decide) ?_
      refine wp_zret dX11_isBetween_15 rfl rfl ?_
      show WP G (d + 2) (0, 0) μX11_isNode 14 [.ref (gB G + 293), .int x] [.int (0 : Int32)] m _
      refine wp_zret dX11_isNode_14 rfl rfl ?_
      show WP G (d + 3) (0, 0) μX11_setLimits 5 [.ref (gB G + 293), .int x, .int lo, .int hi] [.int (0 : Int32)] m _
      refine wp_if_ne 11 dX11_setLimits_5 (by decide) (fun q => absurd (by decide) q) (fun _ => ?_)
      refine wp_ldc dX11_setLimits_8 kX11_96 ?_
      exact wp_iret dX11_setLimits_10 rfl (e2 q2 q3)
    · skip
      refine wp_iconst (1 : Int32) dX11_isBetween_10 (by decide) ?_
      refine wp_goto 15 dX11_isBetween_11 (by decide) ?_
      refine wp_zret dX11_isBetween_15 rfl rfl ?_
      show WP G (d + 2) (0, 0) μX11_isNode 14 [.ref (gB G + 293), .int x] [.int (1 : Int32)] m _
      refine wp_zret dX11_isNode_14 rfl rfl ?_
      show WP G (d + 3) (0, 0) μX11_setLimits 5 [.ref (gB G + 293), .int x, .int lo, .int hi] [.int (1 : Int32)] m _
      refine wp_if_ne 11 dX11_setLimits_5 (by decide) (fun _ => ?_) (fun q => absurd q (by decide))
      refine wp_iload_n dX11_setLimits_11 rfl ?_
      refine wp_callS (As := [.int hi]) (S := []) (b' := (0, 0)) (b := (0, 0)) dX11_setLimits_12 MX11_74 rfl rfl (Nat.le_of_ble_eq_true rfl) ?_
      refine WPM.of pX11 (Nat.le_of_ble_eq_true rfl) rfl ?_
      refine wp_iload_n dX11_isTemperature_0 rfl ?_
      refine wp_ldc dX11_isTemperature_1 kX11_71 ?_
      refine wp_ldc dX11_isTemperature_3 kX11_72 ?_
      refine wp_callS (As := [.int hi, .int (-200000 : Int32), .int (200000 : Int32)]) (S := []) (b' := (0, 0)) (b := (0, 0)) dX11_isTemperature_5 MX11_67 rfl rfl (Nat.le_of_ble_eq_true rfl) ?_
      refine WPM.of pX11 (Nat.le_of_ble_eq_true rfl) rfl ?_
      refine wp_iload_n dX11_isBetween_0 rfl ?_
      refine wp_iload_n dX11_isBetween_1 rfl ?_
      refine wp_icmp_lt 14 dX11_isBetween_2 (by decide) (fun q5 => ?_) (fun q6 => ?_)
      · skip
        refine wp_iconst (0 : Int32) dX11_isBetween_14 (by decide) ?_
        refine wp_zret dX11_isBetween_15 rfl rfl ?_
        show WP G (d + 2) (0, 0) μX11_isTemperature 8 [.int hi] [.int (0 : Int32)] m _
        refine wp_zret dX11_isTemperature_8 rfl rfl ?_
        show WP G (d + 3) (0, 0) μX11_setLimits 15 [.ref (gB G + 293), .int x, .int lo, .int hi] [.int (0 : Int32)] m _
        refine wp_if_eq 28 dX11_setLimits_15 (by decide) (fun _ => ?_) (fun q => absurd (by decide) q)
        refine wp_ldc dX11_setLimits_28 kX11_79 ?_
        exact wp_iret dX11_setLimits_30 rfl (e3 q2 q4 q5)
      · skip
        refine wp_iload_n dX11_isBetween_5 rfl ?_
        refine wp_iload_n dX11_isBetween_6 rfl ?_
        refine wp_icmp_gt 14 dX11_isBetween_7 (by decide) (fun q7 => ?_) (fun q8 => ?_)
        · skip
          refine wp_iconst (0 : Int32) dX11_isBetween_14 (by decide) ?_
          refine wp_zret dX11_isBetween_15 rfl rfl ?_
          show WP G (d + 2) (0, 0) μX11_isTemperature 8 [.int hi] [.int (0 : Int32)] m _
          refine wp_zret dX11_isTemperature_8 rfl rfl ?_
          show WP G (d + 3) (0, 0) μX11_setLimits 15 [.ref (gB G + 293), .int x, .int lo, .int hi] [.int (0 : Int32)] m _
          refine wp_if_eq 28 dX11_setLimits_15 (by decide) (fun _ => ?_) (fun q => absurd (by decide) q)
          refine wp_ldc dX11_setLimits_28 kX11_79 ?_
          exact wp_iret dX11_setLimits_30 rfl (e4 q2 q4 q6 q7)
        · skip
          refine wp_iconst (1 : Int32) dX11_isBetween_10 (by decide) ?_
          refine wp_goto 15 dX11_isBetween_11 (by decide) ?_
          refine wp_zret dX11_isBetween_15 rfl rfl ?_
          show WP G (d + 2) (0, 0) μX11_isTemperature 8 [.int hi] [.int (1 : Int32)] m _
          refine wp_zret dX11_isTemperature_8 rfl rfl ?_
          show WP G (d + 3) (0, 0) μX11_setLimits 15 [.ref (gB G + 293), .int x, .int lo, .int hi] [.int (1 : Int32)] m _
          refine wp_if_eq 28 dX11_setLimits_15 (by decide) (fun q => absurd q (by decide)) (fun _ => ?_)
          refine wp_iload_n dX11_setLimits_18 rfl ?_
          refine wp_ldc dX11_setLimits_19 kX11_71 ?_
          refine wp_iload_n dX11_setLimits_21 rfl ?_
          refine wp_callS (As := [.int lo, .int (-200000 : Int32), .int hi]) (S := []) (b' := (0, 0)) (b := (0, 0)) dX11_setLimits_22 MX11_67 rfl rfl (Nat.le_of_ble_eq_true rfl) ?_
          refine WPM.of pX11 (Nat.le_of_ble_eq_true rfl) rfl ?_
          refine wp_iload_n dX11_isBetween_0 rfl ?_
          refine wp_iload_n dX11_isBetween_1 rfl ?_
          refine wp_icmp_lt 14 dX11_isBetween_2 (by decide) (fun q9 => ?_) (fun q10 => ?_)
          · skip
            refine wp_iconst (0 : Int32) dX11_isBetween_14 (by decide) ?_
            refine wp_zret dX11_isBetween_15 rfl rfl ?_
            show WP G (d + 3) (0, 0) μX11_setLimits 25 [.ref (gB G + 293), .int x, .int lo, .int hi] [.int (0 : Int32)] m _
            refine wp_if_ne 31 dX11_setLimits_25 (by decide) (fun q => absurd (by decide) q) (fun _ => ?_)
            refine wp_ldc dX11_setLimits_28 kX11_79 ?_
            exact wp_iret dX11_setLimits_30 rfl (e5 q2 q4 q6 q8 q9)
          · skip
            refine wp_iload_n dX11_isBetween_5 rfl ?_
            refine wp_iload_n dX11_isBetween_6 rfl ?_
            refine wp_icmp_gt 14 dX11_isBetween_7 (by decide) (fun q11 => ?_) (fun q12 => ?_)
            · skip
              refine wp_iconst (0 : Int32) dX11_isBetween_14 (by decide) ?_
              refine wp_zret dX11_isBetween_15 rfl rfl ?_
              show WP G (d + 3) (0, 0) μX11_setLimits 25 [.ref (gB G + 293), .int x, .int lo, .int hi] [.int (0 : Int32)] m _
              refine wp_if_ne 31 dX11_setLimits_25 (by decide) (fun q => absurd (by decide) q) (fun _ => ?_)
              refine wp_ldc dX11_setLimits_28 kX11_79 ?_
              exact wp_iret dX11_setLimits_30 rfl (e6 q2 q4 q6 q8 q10 q11)
            · skip
              refine wp_iconst (1 : Int32) dX11_isBetween_10 (by decide) ?_
              refine wp_goto 15 dX11_isBetween_11 (by decide) ?_
              refine wp_zret dX11_isBetween_15 rfl rfl ?_
              show WP G (d + 3) (0, 0) μX11_setLimits 25 [.ref (gB G + 293), .int x, .int lo, .int hi] [.int (1 : Int32)] m _
              refine wp_if_ne 31 dX11_setLimits_25 (by decide) (fun _ => ?_) (fun q => absurd q (by decide))
              refine wp_aload_n dX11_setLimits_31 rfl ?_
              refine wp_iload_n dX11_setLimits_32 rfl ?_
              refine wp_iconst (5 : Int32) dX11_setLimits_33 (by decide) ?_
              refine wp_iload_n dX11_setLimits_34 rfl ?_
              refine wp_callV (As := [.int x, .int (5 : Int32), .int lo]) (S := []) (b' := (0, 0)) (b := (0, 0)) dX11_setLimits_35 MX11_81 (ka hF 293 (by decide)) rfl rfl rfl rfl (Nat.le_of_ble_eq_true rfl) ?_
              refine WPM.of pX11 (Nat.le_of_ble_eq_true rfl) rfl ?_
              refine wp_aload_n dX11_setNode_0 rfl ?_
              refine wp_getr (gB G + 294) dX11_setNode_1 fX11_7 (ka hF 293 (by decide)) (hF.2 _ _) (rra 1 (isK_le (ka hF 293 (by decide))) (fun _ => rfl)) ?_
              refine wp_bipush (20 : Int32) dX11_setNode_4 (by decide) ?_
              refine wp_bipush (11 : Int32) dX11_setNode_6 (by decide) ?_
              refine wp_iload_n dX11_setNode_8 rfl ?_
              refine wp_imulv ((11 : Int32) * x) dX11_setNode_9 rfl ?_
              refine wp_iaddv ((20 : Int32) + ((11 : Int32) * x)) dX11_setNode_10 rfl ?_
              refine wp_iload_n dX11_setNode_11 rfl ?_
              refine wp_iaddv (((20 : Int32) + ((11 : Int32) * x)) + (5 : Int32)) dX11_setNode_12 rfl ?_
              refine wp_iload_n dX11_setNode_13 rfl ?_
              refine wp_iast dX11_setNode_14 (ka hF 294 (by decide)) (la 294) (g1 q2 q4 q6 q8 q10 q12)  ?_
              have hF13 := Full_wai (gB G + 294) ((((20 : Int32) + ((11 : Int32) * x)) + (5 : Int32)).toNatClampNeg) lo hF
              refine wp_vret dX11_setNode_15 rfl ?_
              show WP G (d + 3) (0, 0) μX11_setLimits 38 [.ref (gB G + 293), .int x, .int lo, .int hi] [] (wai m (gB G + 294) ((((20 : Int32) + ((11 : Int32) * x)) + (5 : Int32)).toNatClampNeg) lo) _
              refine wp_aload_n dX11_setLimits_38 rfl ?_
              refine wp_iload_n dX11_setLimits_39 rfl ?_
              refine wp_bipush (6 : Int32) dX11_setLimits_40 (by decide) ?_
              refine wp_iload_n dX11_setLimits_42 rfl ?_
              refine wp_callV (As := [.int x, .int (6 : Int32), .int hi]) (S := []) (b' := (0, 0)) (b := (0, 0)) dX11_setLimits_43 MX11_81 (ka hF13 293 (by decide)) rfl rfl rfl rfl (Nat.le_of_ble_eq_true rfl) ?_
              refine WPM.of pX11 (Nat.le_of_ble_eq_true rfl) rfl ?_
              refine wp_aload_n dX11_setNode_0 rfl ?_
              refine wp_getr (gB G + 294) dX11_setNode_1 fX11_7 (ka hF13 293 (by decide)) (hF13.2 _ _) (rra 1 (isK_le (ka hF13 293 (by decide))) (fun _ => rfl)) ?_
              refine wp_bipush (20 : Int32) dX11_setNode_4 (by decide) ?_
              refine wp_bipush (11 : Int32) dX11_setNode_6 (by decide) ?_
              refine wp_iload_n dX11_setNode_8 rfl ?_
              refine wp_imulv ((11 : Int32) * x) dX11_setNode_9 rfl ?_
              refine wp_iaddv ((20 : Int32) + ((11 : Int32) * x)) dX11_setNode_10 rfl ?_
              refine wp_iload_n dX11_setNode_11 rfl ?_
              refine wp_iaddv (((20 : Int32) + ((11 : Int32) * x)) + (6 : Int32)) dX11_setNode_12 rfl ?_
              refine wp_iload_n dX11_setNode_13 rfl ?_
              refine wp_iast dX11_setNode_14 (ka hF13 294 (by decide)) (la 294) (g2 q2 q4 q6 q8 q10 q12)  ?_
              have hF14 := Full_wai (gB G + 294) ((((20 : Int32) + ((11 : Int32) * x)) + (6 : Int32)).toNatClampNeg) hi hF13
              refine wp_vret dX11_setNode_15 rfl ?_
              show WP G (d + 3) (0, 0) μX11_setLimits 46 [.ref (gB G + 293), .int x, .int lo, .int hi] [] (wai (wai m (gB G + 294) ((((20 : Int32) + ((11 : Int32) * x)) + (5 : Int32)).toNatClampNeg) lo) (gB G + 294) ((((20 : Int32) + ((11 : Int32) * x)) + (6 : Int32)).toNatClampNeg) hi) _
              refine wp_iconst (0 : Int32) dX11_setLimits_46 (by decide) ?_
              exact wp_iret dX11_setLimits_47 rfl (e7 q2 q4 q6 q8 q10 q12)
