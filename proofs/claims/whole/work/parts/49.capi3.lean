theorem sM_addNode {G : Cx} {d : Nat} {m : Mm} {Q : Option Value → Mm → Prop} {x y z w u : Int32} {n : Nat}  (hF : Full G m) (hn : ai m (gB G + 294) 12 = nI n) (hm : n ≤ 12) 
    (e1 : x < (1 : Int32) → Q (some (.int (-1000000002 : Int32))) m)
    (e2 : ¬ x < (1 : Int32) → (100000 : Int32) < x → Q (some (.int (-1000000002 : Int32))) m)
    (e3 : ¬ x < (1 : Int32) → ¬ (100000 : Int32) < x → y < (-200000 : Int32) → Q (some (.int (-1000000002 : Int32))) m)
    (e4 : ¬ x < (1 : Int32) → ¬ (100000 : Int32) < x → ¬ y < (-200000 : Int32) → (200000 : Int32) < y → Q (some (.int (-1000000002 : Int32))) m)
    (e5 : ¬ x < (1 : Int32) → ¬ (100000 : Int32) < x → ¬ y < (-200000 : Int32) → ¬ (200000 : Int32) < y → z < (0 : Int32) → Q (some (.int (-1000000002 : Int32))) m)
    (e6 : ¬ x < (1 : Int32) → ¬ (100000 : Int32) < x → ¬ y < (-200000 : Int32) → ¬ (200000 : Int32) < y → ¬ z < (0 : Int32) → (10000 : Int32) < z → Q (some (.int (-1000000002 : Int32))) m)
    (e7 : ¬ x < (1 : Int32) → ¬ (100000 : Int32) < x → ¬ y < (-200000 : Int32) → ¬ (200000 : Int32) < y → ¬ z < (0 : Int32) → ¬ (10000 : Int32) < z → w < (0 : Int32) → Q (some (.int (-1000000002 : Int32))) m)
    (e8 : ¬ x < (1 : Int32) → ¬ (100000 : Int32) < x → ¬ y < (-200000 : Int32) → ¬ (200000 : Int32) < y → ¬ z < (0 : Int32) → ¬ (10000 : Int32) < z → ¬ w < (0 : Int32) → (10000 : Int32) < w → Q (some (.int (-1000000002 : Int32))) m)
    (e9 : ¬ x < (1 : Int32) → ¬ (100000 : Int32) < x → ¬ y < (-200000 : Int32) → ¬ (200000 : Int32) < y → ¬ z < (0 : Int32) → ¬ (10000 : Int32) < z → ¬ w < (0 : Int32) → ¬ (10000 : Int32) < w → u < (0 : Int32) → Q (some (.int (-1000000002 : Int32))) m)
    (e10 : ¬ x < (1 : Int32) → ¬ (100000 : Int32) < x → ¬ y < (-200000 : Int32) → ¬ (200000 : Int32) < y → ¬ z < (0 : Int32) → ¬ (10000 : Int32) < z → ¬ w < (0 : Int32) → ¬ (10000 : Int32) < w → ¬ u < (0 : Int32) → (1000000 : Int32) < u → Q (some (.int (-1000000002 : Int32))) m)
    (e11 : ¬ x < (1 : Int32) → ¬ (100000 : Int32) < x → ¬ y < (-200000 : Int32) → ¬ (200000 : Int32) < y → ¬ z < (0 : Int32) → ¬ (10000 : Int32) < z → ¬ w < (0 : Int32) → ¬ (10000 : Int32) < w → ¬ u < (0 : Int32) → ¬ (1000000 : Int32) < u → ¬ n = 12 → WP G (d + 4) (0, 0) μX11_addNode 149 [.ref (gB G + 293), lvU, lvU, lvU, lvU, lvU, lvU, .int (nI n), .int (0 : Int32)] [] (wai (wai (wai (wai (wai (wai (wai m (gB G + 294) (11 * n + 20) x) (gB G + 294) (11 * n + 21) y) (gB G + 294) (11 * n + 22) z) (gB G + 294) (11 * n + 23) w) (gB G + 294) (11 * n + 24) u) (gB G + 294) (11 * n + 25) (-200000 : Int32)) (gB G + 294) (11 * n + 26) (200000 : Int32)) Q)
    (e12 : ¬ x < (1 : Int32) → ¬ (100000 : Int32) < x → ¬ y < (-200000 : Int32) → ¬ (200000 : Int32) < y → ¬ z < (0 : Int32) → ¬ (10000 : Int32) < z → ¬ w < (0 : Int32) → ¬ (10000 : Int32) < w → ¬ u < (0 : Int32) → ¬ (1000000 : Int32) < u → n = 12 → Q (some (.int (-1000000003 : Int32))) m) :
    WPM G (d + 4) (0, 0) μX11_addNode [.ref (gB G + 293), .int x, .int y, .int z, .int w, .int u] m Q := by
  refine WPM.of pX11 (Nat.le_of_ble_eq_true rfl) rfl ?_
  refine wp_iload_n dX11_addNode_0 rfl ?_
  refine wp_iconst (1 : Int32) dX11_addNode_1 (by decide) ?_
  refine wp_ldc dX11_addNode_2 kX11_73 ?_
  refine wp_callS (As := [.int x, .int (1 : Int32), .int (100000 : Int32)]) (S := []) (b' := (0, 0)) (b := (0, 0)) dX11_addNode_4 MX11_67 rfl rfl (Nat.le_of_ble_eq_true rfl) ?_
  refine WPM.of pX11 (Nat.le_of_ble_eq_true rfl) rfl ?_
  refine wp_iload_n dX11_isBetween_0 rfl ?_
  refine wp_iload_n dX11_isBetween_1 rfl ?_
  refine wp_icmp_lt 14 dX11_isBetween_2 (by decide) (fun q1 => ?_) (fun q2 => ?_)
  · skip
    refine wp_iconst (0 : Int32) dX11_isBetween_14 (by decide) ?_
    refine wp_zret dX11_isBetween_15 rfl rfl ?_
    show WP G (d + 4) (0, 0) μX11_addNode 7 [.ref (gB G + 293), .int x, .int y, .int z, .int w, .int u, lvU, lvU, lvU] [.int (0 : Int32)] m _
    refine wp_if_eq 55 dX11_addNode_7 (by decide) (fun _ => ?_) (fun q => absurd (by decide) q)
    refine wp_iconst (0 : Int32) dX11_addNode_55 (by decide) ?_
    refine wp_istore dX11_addNode_56 (by decide) rfl ?_
    refine wp_iload dX11_addNode_58 rfl ?_
    refine wp_if_ne 66 dX11_addNode_60 (by decide) (fun q => absurd (by decide) q) (fun _ => ?_)
    refine wp_ldc dX11_addNode_63 kX11_79 ?_
    exact wp_iret dX11_addNode_65 rfl (e1 q1)
  · skip
    refine wp_iload_n dX11_isBetween_5 rfl ?_
    refine wp_iload_n dX11_isBetween_6 rfl ?_
    refine wp_icmp_gt 14 dX11_isBetween_7 (by decide) (fun q3 => ?_) (fun q4 => ?_)
    · skip
      refine wp_iconst (0 : Int32) dX11_isBetween_14 (by decide) ?_
      refine wp_zret dX11_isBetween_15 rfl rfl ?_
      show WP G (d + 4) (0, 0) μX11_addNode 7 [.ref (gB G + 293), .int x, .int y, .int z, .int w, .int u, lvU, lvU, lvU] [.int (0 : Int32)] m _
      refine wp_if_eq 55 dX11_addNode_7 (by decide) (fun _ => ?_) (fun q => absurd (by decide) q)
      refine wp_iconst (0 : Int32) dX11_addNode_55 (by decide) ?_
      refine wp_istore dX11_addNode_56 (by decide) rfl ?_
      refine wp_iload dX11_addNode_58 rfl ?_
      refine wp_if_ne 66 dX11_addNode_60 (by decide) (fun q => absurd (by decide) q) (fun _ => ?_)
      refine wp_ldc dX11_addNode_63 kX11_79 ?_
      exact wp_iret dX11_addNode_65 rfl (e2 q2 q3)
    · skip
      refine wp_iconst (1 : Int32) dX11_isBetween_10 (by decide) ?_
      refine wp_goto 15 dX11_isBetween_11 (by decide) ?_
      refine wp_zret dX11_isBetween_15 rfl rfl ?_
      show WP G (d + 4) (0, 0) μX11_addNode 7 [.ref (gB G + 293), .int x, .int y, .int z, .int w, .int u, lvU, lvU, lvU] [.int (1 : Int32)] m _
      refine wp_if_eq 55 dX11_addNode_7 (by decide) (fun q => absurd q (by decide)) (fun _ => ?_)
      refine wp_iload_n dX11_addNode_10 rfl ?_
      refine wp_callS (As := [.int y]) (S := []) (b' := (0, 0)) (b := (0, 0)) dX11_addNode_11 MX11_74 rfl rfl (Nat.le_of_ble_eq_true rfl) ?_
      refine WPM.of pX11 (Nat.le_of_ble_eq_true rfl) rfl ?_
      refine wp_iload_n dX11_isTemperature_0 rfl ?_
      refine wp_ldc dX11_isTemperature_1 kX11_71 ?_
      refine wp_ldc dX11_isTemperature_3 kX11_72 ?_
      refine wp_callS (As := [.int y, .int (-200000 : Int32), .int (200000 : Int32)]) (S := []) (b' := (0, 0)) (b := (0, 0)) dX11_isTemperature_5 MX11_67 rfl rfl (Nat.le_of_ble_eq_true rfl) ?_
      refine WPM.of pX11 (Nat.le_of_ble_eq_true rfl) rfl ?_
      refine wp_iload_n dX11_isBetween_0 rfl ?_
      refine wp_iload_n dX11_isBetween_1 rfl ?_
      refine wp_icmp_lt 14 dX11_isBetween_2 (by decide) (fun q5 => ?_) (fun q6 => ?_)
      · skip
        refine wp_iconst (0 : Int32) dX11_isBetween_14 (by decide) ?_
        refine wp_zret dX11_isBetween_15 rfl rfl ?_
        show WP G (d + 3) (0, 0) μX11_isTemperature 8 [.int y] [.int (0 : Int32)] m _
        refine wp_zret dX11_isTemperature_8 rfl rfl ?_
        show WP G (d + 4) (0, 0) μX11_addNode 14 [.ref (gB G + 293), .int x, .int y, .int z, .int w, .int u, lvU, lvU, lvU] [.int (0 : Int32)] m _
        refine wp_if_eq 55 dX11_addNode_14 (by decide) (fun _ => ?_) (fun q => absurd (by decide) q)
        refine wp_iconst (0 : Int32) dX11_addNode_55 (by decide) ?_
        refine wp_istore dX11_addNode_56 (by decide) rfl ?_
        refine wp_iload dX11_addNode_58 rfl ?_
        refine wp_if_ne 66 dX11_addNode_60 (by decide) (fun q => absurd (by decide) q) (fun _ => ?_)
        refine wp_ldc dX11_addNode_63 kX11_79 ?_
        exact wp_iret dX11_addNode_65 rfl (e3 q2 q4 q5)
      · skip
        refine wp_iload_n dX11_isBetween_5 rfl ?_
        refine wp_iload_n dX11_isBetween_6 rfl ?_
        refine wp_icmp_gt 14 dX11_isBetween_7 (by decide) (fun q7 => ?_) (fun q8 => ?_)
        · skip
          refine wp_iconst (0 : Int32) dX11_isBetween_14 (by decide) ?_
          refine wp_zret dX11_isBetween_15 rfl rfl ?_
          show WP G (d + 3) (0, 0) μX11_isTemperature 8 [.int y] [.int (0 : Int32)] m _
          refine wp_zret dX11_isTemperature_8 rfl rfl ?_
          show WP G (d + 4) (0, 0) μX11_addNode 14 [.ref (gB G + 293), .int x, .int y, .int z, .int w, .int u, lvU, lvU, lvU] [.int (0 : Int32)] m _
          refine wp_if_eq 55 dX11_addNode_14 (by decide) (fun _ => ?_) (fun q => absurd (by decide) q)
          refine wp_iconst (0 : Int32) dX11_addNode_55 (by decide) ?_
          refine wp_istore dX11_addNode_56 (by decide) rfl ?_
          refine wp_iload dX11_addNode_58 rfl ?_
          refine wp_if_ne 66 dX11_addNode_60 (by decide) (fun q => absurd (by decide) q) (fun _ => ?_)
          refine wp_ldc dX11_addNode_63 kX11_79 ?_
          exact wp_iret dX11_addNode_65 rfl (e4 q2 q4 q6 q7)
        · skip
          refine wp_iconst (1 : Int32) dX11_isBetween_10 (by decide) ?_
          refine wp_goto 15 dX11_isBetween_11 (by decide) ?_
          refine wp_zret dX11_isBetween_15 rfl rfl ?_
          show WP G (d + 3) (0, 0) μX11_isTemperature 8 [.int y] [.int (1 : Int32)] m _
          refine wp_zret dX11_isTemperature_8 rfl rfl ?_
          show WP G (d + 4) (0, 0) μX11_addNode 14 [.ref (gB G + 293), .int x, .int y, .int z, .int w, .int u, lvU, lvU, lvU] [.int (1 : Int32)] m _
          refine wp_if_eq 55 dX11_addNode_14 (by decide) (fun q => absurd q (by decide)) (fun _ => ?_)
          refine wp_iload_n dX11_addNode_17 rfl ?_
          refine wp_iconst (0 : Int32) dX11_addNode_18 (by decide) ?_
          refine wp_sipush (10000 : Int32) dX11_addNode_19 (by decide) ?_
          refine wp_callS (As := [.int z, .int (0 : Int32), .int (10000 : Int32)]) (S := []) (b' := (0, 0)) (b := (0, 0)) dX11_addNode_22 MX11_67 rfl rfl (Nat.le_of_ble_eq_true rfl) ?_
          refine WPM.of pX11 (Nat.le_of_ble_eq_true rfl) rfl ?_
          refine wp_iload_n dX11_isBetween_0 rfl ?_
          refine wp_iload_n dX11_isBetween_1 rfl ?_
          refine wp_icmp_lt 14 dX11_isBetween_2 (by decide) (fun q9 => ?_) (fun q10 => ?_)
          · skip
            refine wp_iconst (0 : Int32) dX11_isBetween_14 (by decide) ?_
            refine wp_zret dX11_isBetween_15 rfl rfl ?_
            show WP G (d + 4) (0, 0) μX11_addNode 25 [.ref (gB G + 293), .int x, .int y, .int z, .int w, .int u, lvU, lvU, lvU] [.int (0 : Int32)] m _
            refine wp_if_eq 55 dX11_addNode_25 (by decide) (fun _ => ?_) (fun q => absurd (by decide) q)
            refine wp_iconst (0 : Int32) dX11_addNode_55 (by decide) ?_
            refine wp_istore dX11_addNode_56 (by decide) rfl ?_
            refine wp_iload dX11_addNode_58 rfl ?_
            refine wp_if_ne 66 dX11_addNode_60 (by decide) (fun q => absurd (by decide) q) (fun _ => ?_)
            refine wp_ldc dX11_addNode_63 kX11_79 ?_
            exact wp_iret dX11_addNode_65 rfl (e5 q2 q4 q6 q8 q9)
          · skip
            refine wp_iload_n dX11_isBetween_5 rfl ?_
            refine wp_iload_n dX11_isBetween_6 rfl ?_
            refine wp_icmp_gt 14 dX11_isBetween_7 (by decide) (fun q11 => ?_) (fun q12 => ?_)
            · skip
              refine wp_iconst (0 : Int32) dX11_isBetween_14 (by decide) ?_
              refine wp_zret dX11_isBetween_15 rfl rfl ?_
              show WP G (d + 4) (0, 0) μX11_addNode 25 [.ref (gB G + 293), .int x, .int y, .int z, .int w, .int u, lvU, lvU, lvU] [.int (0 : Int32)] m _
              refine wp_if_eq 55 dX11_addNode_25 (by decide) (fun _ => ?_) (fun q => absurd (by decide) q)
              refine wp_iconst (0 : Int32) dX11_addNode_55 (by decide) ?_
              refine wp_istore dX11_addNode_56 (by decide) rfl ?_
              refine wp_iload dX11_addNode_58 rfl ?_
              refine wp_if_ne 66 dX11_addNode_60 (by decide) (fun q => absurd (by decide) q) (fun _ => ?_)
              refine wp_ldc dX11_addNode_63 kX11_79 ?_
              exact wp_iret dX11_addNode_65 rfl (e6 q2 q4 q6 q8 q10 q11)
            · skip
              refine wp_iconst (1 : Int32) dX11_isBetween_10 (by decide) ?_
              refine wp_goto 15 dX11_isBetween_11 (by decide) ?_
              refine wp_zret dX11_isBetween_15 rfl rfl ?_
              show WP G (d + 4) (0, 0) μX11_addNode 25 [.ref (gB G + 293), .int x, .int y, .int z, .int w, .int u, lvU, lvU, lvU] [.int (1 : Int32)] m _
              refine wp_if_eq 55 dX11_addNode_25 (by decide) (fun q => absurd q (by decide)) (fun _ => ?_)
              refine wp_iload dX11_addNode_28 rfl ?_
              refine wp_iconst (0 : Int32) dX11_addNode_30 (by decide) ?_
              refine wp_sipush (10000 : Int32) dX11_addNode_31 (by decide) ?_
              refine wp_callS (As := [.int w, .int (0 : Int32), .int (10000 : Int32)]) (S := []) (b' := (0, 0)) (b := (0, 0)) dX11_addNode_34 MX11_67 rfl rfl (Nat.le_of_ble_eq_true rfl) ?_
              refine WPM.of pX11 (Nat.le_of_ble_eq_true rfl) rfl ?_
              refine wp_iload_n dX11_isBetween_0 rfl ?_
              refine wp_iload_n dX11_isBetween_1 rfl ?_
              refine wp_icmp_lt 14 dX11_isBetween_2 (by decide) (fun q13 => ?_) (fun q14 => ?_)
              · skip
                refine wp_iconst (0 : Int32) dX11_isBetween_14 (by decide) ?_
                refine wp_zret dX11_isBetween_15 rfl rfl ?_
                show WP G (d + 4) (0, 0) μX11_addNode 37 [.ref (gB G + 293), .int x, .int y, .int z, .int w, .int u, lvU, lvU, lvU] [.int (0 : Int32)] m _
                refine wp_if_eq 55 dX11_addNode_37 (by decide) (fun _ => ?_) (fun q => absurd (by decide) q)
                refine wp_iconst (0 : Int32) dX11_addNode_55 (by decide) ?_
                refine wp_istore dX11_addNode_56 (by decide) rfl ?_
                refine wp_iload dX11_addNode_58 rfl ?_
                refine wp_if_ne 66 dX11_addNode_60 (by decide) (fun q => absurd (by decide) q) (fun _ => ?_)
                refine wp_ldc dX11_addNode_63 kX11_79 ?_
                exact wp_iret dX11_addNode_65 rfl (e7 q2 q4 q6 q8 q10 q12 q13)
              · skip
                refine wp_iload_n dX11_isBetween_5 rfl ?_
                refine wp_iload_n dX11_isBetween_6 rfl ?_
                refine wp_icmp_gt 14 dX11_isBetween_7 (by decide) (fun q15 => ?_) (fun q16 => ?_)
                · skip
                  refine wp_iconst (0 : Int32) dX11_isBetween_14 (by decide) ?_
                  refine wp_zret dX11_isBetween_15 rfl rfl ?_
                  show WP G (d + 4) (0, 0) μX11_addNode 37 [.ref (gB G + 293), .int x, .int y, .int z, .int w, .int u, lvU, lvU, lvU] [.int (0 : Int32)] m _
                  refine wp_if_eq 55 dX11_addNode_37 (by decide) (fun _ => ?_) (fun q => absurd (by decide) q)
                  refine wp_iconst (0 : Int32) dX11_addNode_55 (by decide) ?_
                  refine wp_istore dX11_addNode_56 (by decide) rfl ?_
                  refine wp_iload dX11_addNode_58 rfl ?_
                  refine wp_if_ne 66 dX11_addNode_60 (by decide) (fun q => absurd (by decide) q) (fun _ => ?_)
                  refine wp_ldc dX11_addNode_63 kX11_79 ?_
                  exact wp_iret dX11_addNode_65 rfl (e8 q2 q4 q6 q8 q10 q12 q14 q15)
                · skip
                  refine wp_iconst (1 : Int32) dX11_isBetween_10 (by decide) ?_
                  refine wp_goto 15 dX11_isBetween_11 (by decide) ?_
                  refine wp_zret dX11_isBetween_15 rfl rfl ?_
                  show WP G (d + 4) (0, 0) μX11_addNode 37 [.ref (gB G + 293), .int x, .int y, .int z, .int w, .int u, lvU, lvU, lvU] [.int (1 : Int32)] m _
                  refine wp_if_eq 55 dX11_addNode_37 (by decide) (fun q => absurd q (by decide)) (fun _ => ?_)
                  refine wp_iload dX11_addNode_40 rfl ?_
                  refine wp_iconst (0 : Int32) dX11_addNode_42 (by decide) ?_
                  refine wp_ldc dX11_addNode_43 kX11_78 ?_
                  refine wp_callS (As := [.int u, .int (0 : Int32), .int (1000000 : Int32)]) (S := []) (b' := (0, 0)) (b := (0, 0)) dX11_addNode_45 MX11_67 rfl rfl (Nat.le_of_ble_eq_true rfl) ?_
                  refine WPM.of pX11 (Nat.le_of_ble_eq_true rfl) rfl ?_
                  refine wp_iload_n dX11_isBetween_0 rfl ?_
                  refine wp_iload_n dX11_isBetween_1 rfl ?_
                  refine wp_icmp_lt 14 dX11_isBetween_2 (by decide) (fun q17 => ?_) (fun q18 => ?_)
                  · skip
                    refine wp_iconst (0 : Int32) dX11_isBetween_14 (by decide) ?_
                    refine wp_zret dX11_isBetween_15 rfl rfl ?_
                    show WP G (d + 4) (0, 0) μX11_addNode 48 [.ref (gB G + 293), .int x, .int y, .int z, .int w, .int u, lvU, lvU, lvU] [.int (0 : Int32)] m _
                    refine wp_if_eq 55 dX11_addNode_48 (by decide) (fun _ => ?_) (fun q => absurd (by decide) q)
                    refine wp_iconst (0 : Int32) dX11_addNode_55 (by decide) ?_
                    refine wp_istore dX11_addNode_56 (by decide) rfl ?_
                    refine wp_iload dX11_addNode_58 rfl ?_
                    refine wp_if_ne 66 dX11_addNode_60 (by decide) (fun q => absurd (by decide) q) (fun _ => ?_)
                    refine wp_ldc dX11_addNode_63 kX11_79 ?_
                    exact wp_iret dX11_addNode_65 rfl (e9 q2 q4 q6 q8 q10 q12 q14 q16 q17)
                  · skip
                    refine wp_iload_n dX11_isBetween_5 rfl ?_
                    refine wp_iload_n dX11_isBetween_6 rfl ?_
                    refine wp_icmp_gt 14 dX11_isBetween_7 (by decide) (fun q19 => ?_) (fun q20 => ?_)
                    · skip
                      refine wp_iconst (0 : Int32) dX11_isBetween_14 (by decide) ?_
                      refine wp_zret dX11_isBetween_15 rfl rfl ?_
                      show WP G (d + 4) (0, 0) μX11_addNode 48 [.ref (gB G + 293), .int x, .int y, .int z, .int w, .int u, lvU, lvU, lvU] [.int (0 : Int32)] m _
                      refine wp_if_eq 55 dX11_addNode_48 (by decide) (fun _ => ?_) (fun q => absurd (by decide) q)
                      refine wp_iconst (0 : Int32) dX11_addNode_55 (by decide) ?_
                      refine wp_istore dX11_addNode_56 (by decide) rfl ?_
                      refine wp_iload dX11_addNode_58 rfl ?_
                      refine wp_if_ne 66 dX11_addNode_60 (by decide) (fun q => absurd (by decide) q) (fun _ => ?_)
                      refine wp_ldc dX11_addNode_63 kX11_79 ?_
                      exact wp_iret dX11_addNode_65 rfl (e10 q2 q4 q6 q8 q10 q12 q14 q16 q18 q19)
                    · skip
                      refine wp_iconst (1 : Int32) dX11_isBetween_10 (by decide) ?_
                      refine wp_goto 15 dX11_isBetween_11 (by decide) ?_
                      refine wp_zret dX11_isBetween_15 rfl rfl ?_
                      show WP G (d + 4) (0, 0) μX11_addNode 48 [.ref (gB G + 293), .int x, .int y, .int z, .int w, .int u, lvU, lvU, lvU] [.int (1 : Int32)] m _
                      refine wp_if_eq 55 dX11_addNode_48 (by decide) (fun q => absurd q (by decide)) (fun _ => ?_)
                      refine wp_iconst (1 : Int32) dX11_addNode_51 (by decide) ?_
                      refine wp_goto 56 dX11_addNode_52 (by decide) ?_
                      refine wp_istore dX11_addNode_56 (by decide) rfl ?_
                      refine wp_iload dX11_addNode_58 rfl ?_
                      refine wp_if_ne 66 dX11_addNode_60 (by decide) (fun _ => ?_) (fun q => absurd q (by decide))
                      refine wp_aload_n dX11_addNode_66 rfl ?_
                      refine wp_getr (gB G + 294) dX11_addNode_67 fX11_7 (ka hF 293 (by decide)) (hF.2 _ _) (rra 1 (isK_le (ka hF 293 (by decide))) (fun _ => rfl)) ?_
                      refine wp_bipush (12 : Int32) dX11_addNode_70 (by decide) ?_
                      refine wp_ialdk (n := 1486) 12 (nI n) dX11_addNode_72 (ka hF 294 (by decide)) (la 294) (vinl (by decide)) rfl hn ?_
                      refine wp_istore dX11_addNode_73 (by decide) rfl ?_
                      refine wp_iload dX11_addNode_75 rfl ?_
                      refine wp_bipush (12 : Int32) dX11_addNode_77 (by decide) ?_
                      refine wp_icmp_ne 85 dX11_addNode_79 (by decide) (fun q21 => ?_) (fun q22 => ?_)
                      · have hp23 : ¬ n = 12 := (fun z => q21 (congrArg nI z))
                        refine wp_aload_n dX11_addNode_85 rfl ?_
                        refine wp_iload dX11_addNode_86 rfl ?_
                        refine wp_iconst (0 : Int32) dX11_addNode_88 (by decide) ?_
                        refine wp_iload_n dX11_addNode_89 rfl ?_
                        refine wp_callV (As := [.int (nI n), .int (0 : Int32), .int x]) (S := []) (b' := (0, 0)) (b := (0, 0)) dX11_addNode_90 MX11_81 (ka hF 293 (by decide)) rfl rfl rfl rfl (Nat.le_of_ble_eq_true rfl) ?_
                        refine WPM.of pX11 (Nat.le_of_ble_eq_true rfl) rfl ?_
                        refine wp_aload_n dX11_setNode_0 rfl ?_
                        refine wp_getr (gB G + 294) dX11_setNode_1 fX11_7 (ka hF 293 (by decide)) (hF.2 _ _) (rra 1 (isK_le (ka hF 293 (by decide))) (fun _ => rfl)) ?_
                        refine wp_bipush (20 : Int32) dX11_setNode_4 (by decide) ?_
                        refine wp_bipush (11 : Int32) dX11_setNode_6 (by decide) ?_
                        refine wp_iload_n dX11_setNode_8 rfl ?_
                        refine wp_imulv (nI (11 * n)) dX11_setNode_9 (nmul (a := 11) (b := n) (by omega)) ?_
                        refine wp_iaddv (nI (11 * n + 20)) dX11_setNode_10 (nadd (a := 20) (b := 11 * n) (by omega)) ?_
                        refine wp_iload_n dX11_setNode_11 rfl ?_
                        refine wp_iaddv (nI (11 * n + 20)) dX11_setNode_12 (nadd (a := 11 * n + 20) (b := 0) (by omega)) ?_
                        refine wp_iload_n dX11_setNode_13 rfl ?_
                        refine wp_iastk (n := 1486) (11 * n + 20) dX11_setNode_14 (ka hF 294 (by decide)) (la 294) (vin (by omega) (by decide))  (nIc (by omega)) ?_
                        have hF24 := Full_wai (gB G + 294) (11 * n + 20) x hF
                        refine wp_vret dX11_setNode_15 rfl ?_
                        show WP G (d + 4) (0, 0) μX11_addNode 93 [.ref (gB G + 293), .int x, .int y, .int z, .int w, .int u, .int (1 : Int32), .int (nI n), lvU] [] (wai m (gB G + 294) (11 * n + 20) x) _
                        refine wp_aload_n dX11_addNode_93 rfl ?_
                        refine wp_iload dX11_addNode_94 rfl ?_
                        refine wp_iconst (1 : Int32) dX11_addNode_96 (by decide) ?_
                        refine wp_iload_n dX11_addNode_97 rfl ?_
                        refine wp_callV (As := [.int (nI n), .int (1 : Int32), .int y]) (S := []) (b' := (0, 0)) (b := (0, 0)) dX11_addNode_98 MX11_81 (ka hF24 293 (by decide)) rfl rfl rfl rfl (Nat.le_of_ble_eq_true rfl) ?_
                        refine WPM.of pX11 (Nat.le_of_ble_eq_true rfl) rfl ?_
                        refine wp_aload_n dX11_setNode_0 rfl ?_
                        refine wp_getr (gB G + 294) dX11_setNode_1 fX11_7 (ka hF24 293 (by decide)) (hF24.2 _ _) (rra 1 (isK_le (ka hF24 293 (by decide))) (fun _ => rfl)) ?_
                        refine wp_bipush (20 : Int32) dX11_setNode_4 (by decide) ?_
                        refine wp_bipush (11 : Int32) dX11_setNode_6 (by decide) ?_
                        refine wp_iload_n dX11_setNode_8 rfl ?_
                        refine wp_imulv (nI (11 * n)) dX11_setNode_9 (nmul (a := 11) (b := n) (by omega)) ?_
                        refine wp_iaddv (nI (11 * n + 20)) dX11_setNode_10 (nadd (a := 20) (b := 11 * n) (by omega)) ?_
                        refine wp_iload_n dX11_setNode_11 rfl ?_
                        refine wp_iaddv (nI (11 * n + 21)) dX11_setNode_12 (nadd (a := 11 * n + 20) (b := 1) (by omega)) ?_
                        refine wp_iload_n dX11_setNode_13 rfl ?_
                        refine wp_iastk (n := 1486) (11 * n + 21) dX11_setNode_14 (ka hF24 294 (by decide)) (la 294) (vin (by omega) (by decide))  (nIc (by omega)) ?_
                        have hF25 := Full_wai (gB G + 294) (11 * n + 21) y hF24
                        refine wp_vret dX11_setNode_15 rfl ?_
                        show WP G (d + 4) (0, 0) μX11_addNode 101 [.ref (gB G + 293), .int x, .int y, .int z, .int w, .int u, .int (1 : Int32), .int (nI n), lvU] [] (wai (wai m (gB G + 294) (11 * n + 20) x) (gB G + 294) (11 * n + 21) y) _
                        refine wp_aload_n dX11_addNode_101 rfl ?_
                        refine wp_iload dX11_addNode_102 rfl ?_
                        refine wp_iconst (2 : Int32) dX11_addNode_104 (by decide) ?_
                        refine wp_iload_n dX11_addNode_105 rfl ?_
                        refine wp_callV (As := [.int (nI n), .int (2 : Int32), .int z]) (S := []) (b' := (0, 0)) (b := (0, 0)) dX11_addNode_106 MX11_81 (ka hF25 293 (by decide)) rfl rfl rfl rfl (Nat.le_of_ble_eq_true rfl) ?_
                        refine WPM.of pX11 (Nat.le_of_ble_eq_true rfl) rfl ?_
                        refine wp_aload_n dX11_setNode_0 rfl ?_
                        refine wp_getr (gB G + 294) dX11_setNode_1 fX11_7 (ka hF25 293 (by decide)) (hF25.2 _ _) (rra 1 (isK_le (ka hF25 293 (by decide))) (fun _ => rfl)) ?_
                        refine wp_bipush (20 : Int32) dX11_setNode_4 (by decide) ?_
                        refine wp_bipush (11 : Int32) dX11_setNode_6 (by decide) ?_
                        refine wp_iload_n dX11_setNode_8 rfl ?_
                        refine wp_imulv (nI (11 * n)) dX11_setNode_9 (nmul (a := 11) (b := n) (by omega)) ?_
                        refine wp_iaddv (nI (11 * n + 20)) dX11_setNode_10 (nadd (a := 20) (b := 11 * n) (by omega)) ?_
                        refine wp_iload_n dX11_setNode_11 rfl ?_
                        refine wp_iaddv (nI (11 * n + 22)) dX11_setNode_12 (nadd (a := 11 * n + 20) (b := 2) (by omega)) ?_
                        refine wp_iload_n dX11_setNode_13 rfl ?_
                        refine wp_iastk (n := 1486) (11 * n + 22) dX11_setNode_14 (ka hF25 294 (by decide)) (la 294) (vin (by omega) (by decide))  (nIc (by omega)) ?_
                        have hF26 := Full_wai (gB G + 294) (11 * n + 22) z hF25
                        refine wp_vret dX11_setNode_15 rfl ?_
                        show WP G (d + 4) (0, 0) μX11_addNode 109 [.ref (gB G + 293), .int x, .int y, .int z, .int w, .int u, .int (1 : Int32), .int (nI n), lvU] [] (wai (wai (wai m (gB G + 294) (11 * n + 20) x) (gB G + 294) (11 * n + 21) y) (gB G + 294) (11 * n + 22) z) _
                        refine wp_aload_n dX11_addNode_109 rfl ?_
                        refine wp_iload dX11_addNode_110 rfl ?_
                        refine wp_iconst (3 : Int32) dX11_addNode_112 (by decide) ?_
                        refine wp_iload dX11_addNode_113 rfl ?_
                        refine wp_callV (As := [.int (nI n), .int (3 : Int32), .int w]) (S := []) (b' := (0, 0)) (b := (0, 0)) dX11_addNode_115 MX11_81 (ka hF26 293 (by decide)) rfl rfl rfl rfl (Nat.le_of_ble_eq_true rfl) ?_
                        refine WPM.of pX11 (Nat.le_of_ble_eq_true rfl) rfl ?_
                        refine wp_aload_n dX11_setNode_0 rfl ?_
                        refine wp_getr (gB G + 294) dX11_setNode_1 fX11_7 (ka hF26 293 (by decide)) (hF26.2 _ _) (rra 1 (isK_le (ka hF26 293 (by decide))) (fun _ => rfl)) ?_
                        refine wp_bipush (20 : Int32) dX11_setNode_4 (by decide) ?_
                        refine wp_bipush (11 : Int32) dX11_setNode_6 (by decide) ?_
                        refine wp_iload_n dX11_setNode_8 rfl ?_
                        refine wp_imulv (nI (11 * n)) dX11_setNode_9 (nmul (a := 11) (b := n) (by omega)) ?_
                        refine wp_iaddv (nI (11 * n + 20)) dX11_setNode_10 (nadd (a := 20) (b := 11 * n) (by omega)) ?_
                        refine wp_iload_n dX11_setNode_11 rfl ?_
                        refine wp_iaddv (nI (11 * n + 23)) dX11_setNode_12 (nadd (a := 11 * n + 20) (b := 3) (by omega)) ?_
                        refine wp_iload_n dX11_setNode_13 rfl ?_
                        refine wp_iastk (n := 1486) (11 * n + 23) dX11_setNode_14 (ka hF26 294 (by decide)) (la 294) (vin (by omega) (by decide))  (nIc (by omega)) ?_
                        have hF27 := Full_wai (gB G + 294) (11 * n + 23) w hF26
                        refine wp_vret dX11_setNode_15 rfl ?_
                        show WP G (d + 4) (0, 0) μX11_addNode 118 [.ref (gB G + 293), .int x, .int y, .int z, .int w, .int u, .int (1 : Int32), .int (nI n), lvU] [] (wai (wai (wai (wai m (gB G + 294) (11 * n + 20) x) (gB G + 294) (11 * n + 21) y) (gB G + 294) (11 * n + 22) z) (gB G + 294) (11 * n + 23) w) _
                        refine wp_aload_n dX11_addNode_118 rfl ?_
                        refine wp_iload dX11_addNode_119 rfl ?_
                        refine wp_iconst (4 : Int32) dX11_addNode_121 (by decide) ?_
                        refine wp_iload dX11_addNode_122 rfl ?_
                        refine wp_callV (As := [.int (nI n), .int (4 : Int32), .int u]) (S := []) (b' := (0, 0)) (b := (0, 0)) dX11_addNode_124 MX11_81 (ka hF27 293 (by decide)) rfl rfl rfl rfl (Nat.le_of_ble_eq_true rfl) ?_
                        refine WPM.of pX11 (Nat.le_of_ble_eq_true rfl) rfl ?_
                        refine wp_aload_n dX11_setNode_0 rfl ?_
                        refine wp_getr (gB G + 294) dX11_setNode_1 fX11_7 (ka hF27 293 (by decide)) (hF27.2 _ _) (rra 1 (isK_le (ka hF27 293 (by decide))) (fun _ => rfl)) ?_
                        refine wp_bipush (20 : Int32) dX11_setNode_4 (by decide) ?_
                        refine wp_bipush (11 : Int32) dX11_setNode_6 (by decide) ?_
                        refine wp_iload_n dX11_setNode_8 rfl ?_
                        refine wp_imulv (nI (11 * n)) dX11_setNode_9 (nmul (a := 11) (b := n) (by omega)) ?_
                        refine wp_iaddv (nI (11 * n + 20)) dX11_setNode_10 (nadd (a := 20) (b := 11 * n) (by omega)) ?_
                        refine wp_iload_n dX11_setNode_11 rfl ?_
                        refine wp_iaddv (nI (11 * n + 24)) dX11_setNode_12 (nadd (a := 11 * n + 20) (b := 4) (by omega)) ?_
                        refine wp_iload_n dX11_setNode_13 rfl ?_
                        refine wp_iastk (n := 1486) (11 * n + 24) dX11_setNode_14 (ka hF27 294 (by decide)) (la 294) (vin (by omega) (by decide))  (nIc (by omega)) ?_
                        have hF28 := Full_wai (gB G + 294) (11 * n + 24) u hF27
                        refine wp_vret dX11_setNode_15 rfl ?_
                        show WP G (d + 4) (0, 0) μX11_addNode 127 [.ref (gB G + 293), .int x, .int y, .int z, .int w, .int u, .int (1 : Int32), .int (nI n), lvU] [] (wai (wai (wai (wai (wai m (gB G + 294) (11 * n + 20) x) (gB G + 294) (11 * n + 21) y) (gB G + 294) (11 * n + 22) z) (gB G + 294) (11 * n + 23) w) (gB G + 294) (11 * n + 24) u) _
                        refine wp_aload_n dX11_addNode_127 rfl ?_
                        refine wp_iload dX11_addNode_128 rfl ?_
                        refine wp_iconst (5 : Int32) dX11_addNode_130 (by decide) ?_
                        refine wp_ldc dX11_addNode_131 kX11_71 ?_
                        refine wp_callV (As := [.int (nI n), .int (5 : Int32), .int (-200000 : Int32)]) (S := []) (b' := (0, 0)) (b := (0, 0)) dX11_addNode_133 MX11_81 (ka hF28 293 (by decide)) rfl rfl rfl rfl (Nat.le_of_ble_eq_true rfl) ?_
                        refine WPM.of pX11 (Nat.le_of_ble_eq_true rfl) rfl ?_
                        refine wp_aload_n dX11_setNode_0 rfl ?_
                        refine wp_getr (gB G + 294) dX11_setNode_1 fX11_7 (ka hF28 293 (by decide)) (hF28.2 _ _) (rra 1 (isK_le (ka hF28 293 (by decide))) (fun _ => rfl)) ?_
                        refine wp_bipush (20 : Int32) dX11_setNode_4 (by decide) ?_
                        refine wp_bipush (11 : Int32) dX11_setNode_6 (by decide) ?_
                        refine wp_iload_n dX11_setNode_8 rfl ?_
                        refine wp_imulv (nI (11 * n)) dX11_setNode_9 (nmul (a := 11) (b := n) (by omega)) ?_
                        refine wp_iaddv (nI (11 * n + 20)) dX11_setNode_10 (nadd (a := 20) (b := 11 * n) (by omega)) ?_
                        refine wp_iload_n dX11_setNode_11 rfl ?_
                        refine wp_iaddv (nI (11 * n + 25)) dX11_setNode_12 (nadd (a := 11 * n + 20) (b := 5) (by omega)) ?_
                        refine wp_iload_n dX11_setNode_13 rfl ?_
                        refine wp_iastk (n := 1486) (11 * n + 25) dX11_setNode_14 (ka hF28 294 (by decide)) (la 294) (vin (by omega) (by decide))  (nIc (by omega)) ?_
                        have hF29 := Full_wai (gB G + 294) (11 * n + 25) (-200000 : Int32) hF28
                        refine wp_vret dX11_setNode_15 rfl ?_
                        show WP G (d + 4) (0, 0) μX11_addNode 136 [.ref (gB G + 293), .int x, .int y, .int z, .int w, .int u, .int (1 : Int32), .int (nI n), lvU] [] (wai (wai (wai (wai (wai (wai m (gB G + 294) (11 * n + 20) x) (gB G + 294) (11 * n + 21) y) (gB G + 294) (11 * n + 22) z) (gB G + 294) (11 * n + 23) w) (gB G + 294) (11 * n + 24) u) (gB G + 294) (11 * n + 25) (-200000 : Int32)) _
                        refine wp_aload_n dX11_addNode_136 rfl ?_
                        refine wp_iload dX11_addNode_137 rfl ?_
                        refine wp_bipush (6 : Int32) dX11_addNode_139 (by decide) ?_
                        refine wp_ldc dX11_addNode_141 kX11_72 ?_
                        refine wp_callV (As := [.int (nI n), .int (6 : Int32), .int (200000 : Int32)]) (S := []) (b' := (0, 0)) (b := (0, 0)) dX11_addNode_143 MX11_81 (ka hF29 293 (by decide)) rfl rfl rfl rfl (Nat.le_of_ble_eq_true rfl) ?_
                        refine WPM.of pX11 (Nat.le_of_ble_eq_true rfl) rfl ?_
                        refine wp_aload_n dX11_setNode_0 rfl ?_
                        refine wp_getr (gB G + 294) dX11_setNode_1 fX11_7 (ka hF29 293 (by decide)) (hF29.2 _ _) (rra 1 (isK_le (ka hF29 293 (by decide))) (fun _ => rfl)) ?_
                        refine wp_bipush (20 : Int32) dX11_setNode_4 (by decide) ?_
                        refine wp_bipush (11 : Int32) dX11_setNode_6 (by decide) ?_
                        refine wp_iload_n dX11_setNode_8 rfl ?_
                        refine wp_imulv (nI (11 * n)) dX11_setNode_9 (nmul (a := 11) (b := n) (by omega)) ?_
                        refine wp_iaddv (nI (11 * n + 20)) dX11_setNode_10 (nadd (a := 20) (b := 11 * n) (by omega)) ?_
                        refine wp_iload_n dX11_setNode_11 rfl ?_
                        refine wp_iaddv (nI (11 * n + 26)) dX11_setNode_12 (nadd (a := 11 * n + 20) (b := 6) (by omega)) ?_
                        refine wp_iload_n dX11_setNode_13 rfl ?_
                        refine wp_iastk (n := 1486) (11 * n + 26) dX11_setNode_14 (ka hF29 294 (by decide)) (la 294) (vin (by omega) (by decide))  (nIc (by omega)) ?_
                        have hF30 := Full_wai (gB G + 294) (11 * n + 26) (200000 : Int32) hF29
                        refine wp_vret dX11_setNode_15 rfl ?_
                        show WP G (d + 4) (0, 0) μX11_addNode 146 [.ref (gB G + 293), .int x, .int y, .int z, .int w, .int u, .int (1 : Int32), .int (nI n), lvU] [] (wai (wai (wai (wai (wai (wai (wai m (gB G + 294) (11 * n + 20) x) (gB G + 294) (11 * n + 21) y) (gB G + 294) (11 * n + 22) z) (gB G + 294) (11 * n + 23) w) (gB G + 294) (11 * n + 24) u) (gB G + 294) (11 * n + 25) (-200000 : Int32)) (gB G + 294) (11 * n + 26) (200000 : Int32)) _
                        refine wp_iconst (0 : Int32) dX11_addNode_146 (by decide) ?_
                        refine wp_istore dX11_addNode_147 (by decide) rfl ?_
                        refine wp_forget [.ref (gB G + 293), lvU, lvU, lvU, lvU, lvU, lvU, .int (nI n), .int (0 : Int32)] ⟨Or.inl rfl, Or.inr rfl, Or.inr rfl, Or.inr rfl, Or.inr rfl, Or.inr rfl, Or.inr rfl, Or.inl rfl, Or.inl rfl, trivial⟩ ?_
                        exact e11 q2 q4 q6 q8 q10 q12 q14 q16 q18 q20 hp23
                      · have hp31 : n = 12 := (neq q22 (by omega) (by omega))
                        refine wp_ldc dX11_addNode_82 kX11_80 ?_
                        exact wp_iret dX11_addNode_84 rfl (e12 q2 q4 q6 q8 q10 q12 q14 q16 q18 q20 hp31)

theorem bM_addNode {G : Cx} {d : Nat} {m : Mm} {Q : Option Value → Mm → Prop} {n j : Nat}  (hF : Full G m) (hn : ai m (gB G + 294) 12 = nI n) (hm : n < 12) (hj : j ≤ 12) 
    (e1 : ¬ j < 12 → Q (some (.int (nI n))) (wai (wai (wai (wai (wai m (gB G + 294) (11 * n + 27) (ai m (gB G + 294) (11 * n + 21))) (gB G + 294) (11 * n + 28) (ai m (gB G + 294) (11 * n + 21))) (gB G + 294) (11 * n + 29) (0 : Int32)) (gB G + 294) (11 * n + 30) (-1 : Int32)) (gB G + 294) 12 (nI (n + 1))))
    (e2 : j < 12 → WP G (d + 4) (0, 0) μX11_addNode 149 [.ref (gB G + 293), lvU, lvU, lvU, lvU, lvU, lvU, .int (nI n), .int (nI (j + 1))] [] (wai (wai m (gB G + 294) (j + 12 * n + 152) (0 : Int32)) (gB G + 294) (12 * j + n + 152) (0 : Int32)) Q) :
    WP G (d + 4) (0, 0) μX11_addNode 149 [.ref (gB G + 293), lvU, lvU, lvU, lvU, lvU, lvU, .int (nI n), .int (nI j)] [] m Q := by
  refine wp_iload dX11_addNode_149 rfl ?_
  refine wp_bipush (12 : Int32) dX11_addNode_151 (by decide) ?_
  refine wp_icmp_ge 198 dX11_addNode_153 (by decide) (fun q1 => ?_) (fun q2 => ?_)
  · have hp3 : ¬ j < 12 := (fun z => q1 (nlt_ (b := 12) z (by omega)))
    refine wp_aload_n dX11_addNode_198 rfl ?_
    refine wp_iload dX11_addNode_199 rfl ?_
    refine wp_callV (As := [.int (nI n)]) (S := []) (b' := (0, 0)) (b := (0, 0)) dX11_addNode_201 MX11_85 (ka hF 293 (by decide)) rfl rfl rfl rfl (Nat.le_of_ble_eq_true rfl) ?_
    refine WPM.of pX11 (Nat.le_of_ble_eq_true rfl) rfl ?_
    refine wp_aload_n dX11_beginRecords_0 rfl ?_
    refine wp_iload_n dX11_beginRecords_1 rfl ?_
    refine wp_bipush (7 : Int32) dX11_beginRecords_2 (by decide) ?_
    refine wp_aload_n dX11_beginRecords_4 rfl ?_
    refine wp_iload_n dX11_beginRecords_5 rfl ?_
    refine wp_iconst (1 : Int32) dX11_beginRecords_6 (by decide) ?_
    refine wp_callV (As := [.int (nI n), .int (1 : Int32)]) (S := [.int (7 : Int32), .int (nI n), .ref (gB G + 293)]) (b' := (0, 0)) (b := (0, 0)) dX11_beginRecords_7 MX11_89 (ka hF 293 (by decide)) rfl rfl rfl rfl (Nat.le_of_ble_eq_true rfl) ?_
    refine WPM.of pX11 (Nat.le_of_ble_eq_true rfl) rfl ?_
    refine wp_aload_n dX11_node_0 rfl ?_
    refine wp_getr (gB G + 294) dX11_node_1 fX11_7 (ka hF 293 (by decide)) (hF.2 _ _) (rra 1 (isK_le (ka hF 293 (by decide))) (fun _ => rfl)) ?_
    refine wp_bipush (20 : Int32) dX11_node_4 (by decide) ?_
    refine wp_bipush (11 : Int32) dX11_node_6 (by decide) ?_
    refine wp_iload_n dX11_node_8 rfl ?_
    refine wp_imulv (nI (11 * n)) dX11_node_9 (nmul (a := 11) (b := n) (by omega)) ?_
    refine wp_iaddv (nI (11 * n + 20)) dX11_node_10 (nadd (a := 20) (b := 11 * n) (by omega)) ?_
    refine wp_iload_n dX11_node_11 rfl ?_
    refine wp_iaddv (nI (11 * n + 21)) dX11_node_12 (nadd (a := 11 * n + 20) (b := 1) (by omega)) ?_
    refine wp_ialdk (n := 1486) (11 * n + 21) (ai m (gB G + 294) (11 * n + 21)) dX11_node_13 (ka hF 294 (by decide)) (la 294) (vin (by omega) (by decide)) (nIc (by omega)) rfl ?_
    refine wp_iret dX11_node_14 rfl ?_
    show WP G (d + 3) (0, 0) μX11_beginRecords 10 [.ref (gB G + 293), .int (nI n)] [.int (ai m (gB G + 294) (11 * n + 21)), .int (7 : Int32), .int (nI n), .ref (gB G + 293)] m _
    refine wp_callV (As := [.int (nI n), .int (7 : Int32), .int (ai m (gB G + 294) (11 * n + 21))]) (S := []) (b' := (0, 0)) (b := (0, 0)) dX11_beginRecords_10 MX11_81 (ka hF 293 (by decide)) rfl rfl rfl rfl (Nat.le_of_ble_eq_true rfl) ?_
    refine WPM.of pX11 (Nat.le_of_ble_eq_true rfl) rfl ?_
    refine wp_aload_n dX11_setNode_0 rfl ?_
    refine wp_getr (gB G + 294) dX11_setNode_1 fX11_7 (ka hF 293 (by decide)) (hF.2 _ _) (rra 1 (isK_le (ka hF 293 (by decide))) (fun _ => rfl)) ?_
    refine wp_bipush (20 : Int32) dX11_setNode_4 (by decide) ?_
    refine wp_bipush (11 : Int32) dX11_setNode_6 (by decide) ?_
    refine wp_iload_n dX11_setNode_8 rfl ?_
    refine wp_imulv (nI (11 * n)) dX11_setNode_9 (nmul (a := 11) (b := n) (by omega)) ?_
    refine wp_iaddv (nI (11 * n + 20)) dX11_setNode_10 (nadd (a := 20) (b := 11 * n) (by omega)) ?_
    refine wp_iload_n dX11_setNode_11 rfl ?_
    refine wp_iaddv (nI (11 * n + 27)) dX11_setNode_12 (nadd (a := 11 * n + 20) (b := 7) (by omega)) ?_
    refine wp_iload_n dX11_setNode_13 rfl ?_
    refine wp_iastk (n := 1486) (11 * n + 27) dX11_setNode_14 (ka hF 294 (by decide)) (la 294) (vin (by omega) (by decide))  (nIc (by omega)) ?_
    have hF4 := Full_wai (gB G + 294) (11 * n + 27) (ai m (gB G + 294) (11 * n + 21)) hF
    refine wp_vret dX11_setNode_15 rfl ?_
    show WP G (d + 3) (0, 0) μX11_beginRecords 13 [.ref (gB G + 293), .int (nI n)] [] (wai m (gB G + 294) (11 * n + 27) (ai m (gB G + 294) (11 * n + 21))) _
    refine wp_aload_n dX11_beginRecords_13 rfl ?_
    refine wp_iload_n dX11_beginRecords_14 rfl ?_
    refine wp_bipush (8 : Int32) dX11_beginRecords_15 (by decide) ?_
    refine wp_aload_n dX11_beginRecords_17 rfl ?_
    refine wp_iload_n dX11_beginRecords_18 rfl ?_
    refine wp_iconst (1 : Int32) dX11_beginRecords_19 (by decide) ?_
    refine wp_callV (As := [.int (nI n), .int (1 : Int32)]) (S := [.int (8 : Int32), .int (nI n), .ref (gB G + 293)]) (b' := (0, 0)) (b := (0, 0)) dX11_beginRecords_20 MX11_89 (ka hF4 293 (by decide)) rfl rfl rfl rfl (Nat.le_of_ble_eq_true rfl) ?_
    refine WPM.of pX11 (Nat.le_of_ble_eq_true rfl) rfl ?_
    refine wp_aload_n dX11_node_0 rfl ?_
    refine wp_getr (gB G + 294) dX11_node_1 fX11_7 (ka hF4 293 (by decide)) (hF4.2 _ _) (rra 1 (isK_le (ka hF4 293 (by decide))) (fun _ => rfl)) ?_
    refine wp_bipush (20 : Int32) dX11_node_4 (by decide) ?_
    refine wp_bipush (11 : Int32) dX11_node_6 (by decide) ?_
    refine wp_iload_n dX11_node_8 rfl ?_
    refine wp_imulv (nI (11 * n)) dX11_node_9 (nmul (a := 11) (b := n) (by omega)) ?_
    refine wp_iaddv (nI (11 * n + 20)) dX11_node_10 (nadd (a := 20) (b := 11 * n) (by omega)) ?_
    refine wp_iload_n dX11_node_11 rfl ?_
    refine wp_iaddv (nI (11 * n + 21)) dX11_node_12 (nadd (a := 11 * n + 20) (b := 1) (by omega)) ?_
    refine wp_ialdk (n := 1486) (11 * n + 21) (ai m (gB G + 294) (11 * n + 21)) dX11_node_13 (ka hF4 294 (by decide)) (la 294) (vin (by omega) (by decide)) (nIc (by omega)) (ai_nk (by omega)) ?_
    refine wp_iret dX11_node_14 rfl ?_
    show WP G (d + 3) (0, 0) μX11_beginRecords 23 [.ref (gB G + 293), .int (nI n)] [.int (ai m (gB G + 294) (11 * n + 21)), .int (8 : Int32), .int (nI n), .ref (gB G + 293)] (wai m (gB G + 294) (11 * n + 27) (ai m (gB G + 294) (11 * n + 21))) _
    refine wp_callV (As := [.int (nI n), .int (8 : Int32), .int (ai m (gB G + 294) (11 * n + 21))]) (S := []) (b' := (0, 0)) (b := (0, 0)) dX11_beginRecords_23 MX11_81 (ka hF4 293 (by decide)) rfl rfl rfl rfl (Nat.le_of_ble_eq_true rfl) ?_
    refine WPM.of pX11 (Nat.le_of_ble_eq_true rfl) rfl ?_
    refine wp_aload_n dX11_setNode_0 rfl ?_
    refine wp_getr (gB G + 294) dX11_setNode_1 fX11_7 (ka hF4 293 (by decide)) (hF4.2 _ _) (rra 1 (isK_le (ka hF4 293 (by decide))) (fun _ => rfl)) ?_
    refine wp_bipush (20 : Int32) dX11_setNode_4 (by decide) ?_
    refine wp_bipush (11 : Int32) dX11_setNode_6 (by decide) ?_
    refine wp_iload_n dX11_setNode_8 rfl ?_
    refine wp_imulv (nI (11 * n)) dX11_setNode_9 (nmul (a := 11) (b := n) (by omega)) ?_
    refine wp_iaddv (nI (11 * n + 20)) dX11_setNode_10 (nadd (a := 20) (b := 11 * n) (by omega)) ?_
    refine wp_iload_n dX11_setNode_11 rfl ?_
    refine wp_iaddv (nI (11 * n + 28)) dX11_setNode_12 (nadd (a := 11 * n + 20) (b := 8) (by omega)) ?_
    refine wp_iload_n dX11_setNode_13 rfl ?_
    refine wp_iastk (n := 1486) (11 * n + 28) dX11_setNode_14 (ka hF4 294 (by decide)) (la 294) (vin (by omega) (by decide))  (nIc (by omega)) ?_
    have hF5 := Full_wai (gB G + 294) (11 * n + 28) (ai m (gB G + 294) (11 * n + 21)) hF4
    refine wp_vret dX11_setNode_15 rfl ?_
    show WP G (d + 3) (0, 0) μX11_beginRecords 26 [.ref (gB G + 293), .int (nI n)] [] (wai (wai m (gB G + 294) (11 * n + 27) (ai m (gB G + 294) (11 * n + 21))) (gB G + 294) (11 * n + 28) (ai m (gB G + 294) (11 * n + 21))) _
    refine wp_aload_n dX11_beginRecords_26 rfl ?_
    refine wp_iload_n dX11_beginRecords_27 rfl ?_
    refine wp_bipush (9 : Int32) dX11_beginRecords_28 (by decide) ?_
    refine wp_iconst (0 : Int32) dX11_beginRecords_30 (by decide) ?_
    refine wp_callV (As := [.int (nI n), .int (9 : Int32), .int (0 : Int32)]) (S := []) (b' := (0, 0)) (b := (0, 0)) dX11_beginRecords_31 MX11_81 (ka hF5 293 (by decide)) rfl rfl rfl rfl (Nat.le_of_ble_eq_true rfl) ?_
    refine WPM.of pX11 (Nat.le_of_ble_eq_true rfl) rfl ?_
    refine wp_aload_n dX11_setNode_0 rfl ?_
    refine wp_getr (gB G + 294) dX11_setNode_1 fX11_7 (ka hF5 293 (by decide)) (hF5.2 _ _) (rra 1 (isK_le (ka hF5 293 (by decide))) (fun _ => rfl)) ?_
    refine wp_bipush (20 : Int32) dX11_setNode_4 (by decide) ?_
    refine wp_bipush (11 : Int32) dX11_setNode_6 (by decide) ?_
    refine wp_iload_n dX11_setNode_8 rfl ?_
    refine wp_imulv (nI (11 * n)) dX11_setNode_9 (nmul (a := 11) (b := n) (by omega)) ?_
    refine wp_iaddv (nI (11 * n + 20)) dX11_setNode_10 (nadd (a := 20) (b := 11 * n) (by omega)) ?_
    refine wp_iload_n dX11_setNode_11 rfl ?_
    refine wp_iaddv (nI (11 * n + 29)) dX11_setNode_12 (nadd (a := 11 * n + 20) (b := 9) (by omega)) ?_
    refine wp_iload_n dX11_setNode_13 rfl ?_
    refine wp_iastk (n := 1486) (11 * n + 29) dX11_setNode_14 (ka hF5 294 (by decide)) (la 294) (vin (by omega) (by decide))  (nIc (by omega)) ?_
    have hF6 := Full_wai (gB G + 294) (11 * n + 29) (0 : Int32) hF5
    refine wp_vret dX11_setNode_15 rfl ?_
    show WP G (d + 3) (0, 0) μX11_beginRecords 34 [.ref (gB G + 293), .int (nI n)] [] (wai (wai (wai m (gB G + 294) (11 * n + 27) (ai m (gB G + 294) (11 * n + 21))) (gB G + 294) (11 * n + 28) (ai m (gB G + 294) (11 * n + 21))) (gB G + 294) (11 * n + 29) (0 : Int32)) _
    refine wp_aload_n dX11_beginRecords_34 rfl ?_
    refine wp_iload_n dX11_beginRecords_35 rfl ?_
    refine wp_bipush (10 : Int32) dX11_beginRecords_36 (by decide) ?_
    refine wp_iconst (-1 : Int32) dX11_beginRecords_38 (by decide) ?_
    refine wp_callV (As := [.int (nI n), .int (10 : Int32), .int (-1 : Int32)]) (S := []) (b' := (0, 0)) (b := (0, 0)) dX11_beginRecords_39 MX11_81 (ka hF6 293 (by decide)) rfl rfl rfl rfl (Nat.le_of_ble_eq_true rfl) ?_
    refine WPM.of pX11 (Nat.le_of_ble_eq_true rfl) rfl ?_
    refine wp_aload_n dX11_setNode_0 rfl ?_
    refine wp_getr (gB G + 294) dX11_setNode_1 fX11_7 (ka hF6 293 (by decide)) (hF6.2 _ _) (rra 1 (isK_le (ka hF6 293 (by decide))) (fun _ => rfl)) ?_
    refine wp_bipush (20 : Int32) dX11_setNode_4 (by decide) ?_
    refine wp_bipush (11 : Int32) dX11_setNode_6 (by decide) ?_
    refine wp_iload_n dX11_setNode_8 rfl ?_
    refine wp_imulv (nI (11 * n)) dX11_setNode_9 (nmul (a := 11) (b := n) (by omega)) ?_
    refine wp_iaddv (nI (11 * n + 20)) dX11_setNode_10 (nadd (a := 20) (b := 11 * n) (by omega)) ?_
    refine wp_iload_n dX11_setNode_11 rfl ?_
    refine wp_iaddv (nI (11 * n + 30)) dX11_setNode_12 (nadd (a := 11 * n + 20) (b := 10) (by omega)) ?_
    refine wp_iload_n dX11_setNode_13 rfl ?_
    refine wp_iastk (n := 1486) (11 * n + 30) dX11_setNode_14 (ka hF6 294 (by decide)) (la 294) (vin (by omega) (by decide))  (nIc (by omega)) ?_
    have hF7 := Full_wai (gB G + 294) (11 * n + 30) (-1 : Int32) hF6
    refine wp_vret dX11_setNode_15 rfl ?_
    show WP G (d + 3) (0, 0) μX11_beginRecords 42 [.ref (gB G + 293), .int (nI n)] [] (wai (wai (wai (wai m (gB G + 294) (11 * n + 27) (ai m (gB G + 294) (11 * n + 21))) (gB G + 294) (11 * n + 28) (ai m (gB G + 294) (11 * n + 21))) (gB G + 294) (11 * n + 29) (0 : Int32)) (gB G + 294) (11 * n + 30) (-1 : Int32)) _
    refine wp_vret dX11_beginRecords_42 rfl ?_
    show WP G (d + 4) (0, 0) μX11_addNode 204 [.ref (gB G + 293), lvU, lvU, lvU, lvU, lvU, lvU, .int (nI n), .int (nI j)] [] (wai (wai (wai (wai m (gB G + 294) (11 * n + 27) (ai m (gB G + 294) (11 * n + 21))) (gB G + 294) (11 * n + 28) (ai m (gB G + 294) (11 * n + 21))) (gB G + 294) (11 * n + 29) (0 : Int32)) (gB G + 294) (11 * n + 30) (-1 : Int32)) _
    refine wp_aload_n dX11_addNode_204 rfl ?_
    refine wp_getr (gB G + 294) dX11_addNode_205 fX11_7 (ka hF7 293 (by decide)) (hF7.2 _ _) (rra 1 (isK_le (ka hF7 293 (by decide))) (fun _ => rfl)) ?_
    refine wp_bipush (12 : Int32) dX11_addNode_208 (by decide) ?_
    refine wp_dup2 dX11_addNode_210 rfl rfl ?_
    refine wp_ialdk (n := 1486) 12 (nI n) dX11_addNode_211 (ka hF7 294 (by decide)) (la 294) (vinl (by decide)) rfl ((ai_nk (by omega)).trans ((ai_nk (by omega)).trans ((ai_nk (by omega)).trans ((ai_nk (by omega)).trans hn)))) ?_
    refine wp_iconst (1 : Int32) dX11_addNode_212 (by decide) ?_
    refine wp_iaddv (nI (n + 1)) dX11_addNode_213 (nadd (a := n) (b := 1) (by omega)) ?_
    refine wp_iastk (n := 1486) 12 dX11_addNode_214 (ka hF7 294 (by decide)) (la 294) (vinl (by decide))  rfl ?_
    have hF8 := Full_wai (gB G + 294) 12 (nI (n + 1)) hF7
    refine wp_iload dX11_addNode_215 rfl ?_
    exact wp_iret dX11_addNode_217 rfl (e1 hp3)
  · have hp9 : j < 12 := (nlt q2 (by omega) (by omega))
    refine wp_aload_n dX11_addNode_156 rfl ?_
    refine wp_getr (gB G + 294) dX11_addNode_157 fX11_7 (ka hF 293 (by decide)) (hF.2 _ _) (rra 1 (isK_le (ka hF 293 (by decide))) (fun _ => rfl)) ?_
    refine wp_sipush (152 : Int32) dX11_addNode_160 (by decide) ?_
    refine wp_bipush (12 : Int32) dX11_addNode_163 (by decide) ?_
    refine wp_iload dX11_addNode_165 rfl ?_
    refine wp_imulv (nI (12 * n)) dX11_addNode_167 (nmul (a := 12) (b := n) (by omega)) ?_
    refine wp_iaddv (nI (12 * n + 152)) dX11_addNode_168 (nadd (a := 152) (b := 12 * n) (by omega)) ?_
    refine wp_iload dX11_addNode_169 rfl ?_
    refine wp_iaddv (nI (j + 12 * n + 152)) dX11_addNode_171 (nadd (a := 12 * n + 152) (b := j) (by omega)) ?_
    refine wp_iconst (0 : Int32) dX11_addNode_172 (by decide) ?_
    refine wp_iastk (n := 1486) (j + 12 * n + 152) dX11_addNode_173 (ka hF 294 (by decide)) (la 294) (vin (by omega) (by decide))  (nIc (by omega)) ?_
    have hF10 := Full_wai (gB G + 294) (j + 12 * n + 152) (0 : Int32) hF
    refine wp_aload_n dX11_addNode_174 rfl ?_
    refine wp_getr (gB G + 294) dX11_addNode_175 fX11_7 (ka hF10 293 (by decide)) (hF10.2 _ _) (rra 1 (isK_le (ka hF10 293 (by decide))) (fun _ => rfl)) ?_
    refine wp_sipush (152 : Int32) dX11_addNode_178 (by decide) ?_
    refine wp_bipush (12 : Int32) dX11_addNode_181 (by decide) ?_
    refine wp_iload dX11_addNode_183 rfl ?_
    refine wp_imulv (nI (12 * j)) dX11_addNode_185 (nmul (a := 12) (b := j) (by omega)) ?_
    refine wp_iaddv (nI (12 * j + 152)) dX11_addNode_186 (nadd (a := 152) (b := 12 * j) (by omega)) ?_
    refine wp_iload dX11_addNode_187 rfl ?_
    refine wp_iaddv (nI (12 * j + n + 152)) dX11_addNode_189 (nadd (a := 12 * j + 152) (b := n) (by omega)) ?_
    refine wp_iconst (0 : Int32) dX11_addNode_190 (by decide) ?_
    refine wp_iastk (n := 1486) (12 * j + n + 152) dX11_addNode_191 (ka hF10 294 (by decide)) (la 294) (vin (by omega) (by decide))  (nIc (by omega)) ?_
    have hF11 := Full_wai (gB G + 294) (12 * j + n + 152) (0 : Int32) hF10
    refine wp_iinc (nI (j + 1)) dX11_addNode_192 rfl (by decide) (nadd (a := j) (b := 1) (by omega)) rfl ?_
    refine wp_goto 149 dX11_addNode_195 (by decide) ?_
    refine wp_forget [.ref (gB G + 293), lvU, lvU, lvU, lvU, lvU, lvU, .int (nI n), .int (nI (j + 1))] ⟨Or.inl rfl, Or.inr rfl, Or.inr rfl, Or.inr rfl, Or.inr rfl, Or.inr rfl, Or.inr rfl, Or.inl rfl, Or.inl rfl, trivial⟩ ?_
    exact e2 hp9

theorem iC_addHeater {G : Cx} {d : Nat} {m : Mm} {Q : Option Value → Mm → Prop} {y z w u : Int32} {i n : Nat} {q : Nat}  (hF : Full G m) (hn : fi m 5 (gB G + 1) = nI (n + 1)) (hm : n + 1 ≤ 12) (hi : i < n + 1) (hnl : fi m 8 (gB G + 1) = nI q) (hml : q ≤ 8) 
    (e1 : y < (0 : Int32) → Q (some (.int (-1000000002 : Int32))) m)
    (e2 : ¬ y < (0 : Int32) → (100000 : Int32) < y → Q (some (.int (-1000000002 : Int32))) m)
    (e3 : ¬ y < (0 : Int32) → ¬ (100000 : Int32) < y → w < (-200000 : Int32) → Q (some (.int (-1000000002 : Int32))) m)
    (e4 : ¬ y < (0 : Int32) → ¬ (100000 : Int32) < y → ¬ w < (-200000 : Int32) → (200000 : Int32) < w → Q (some (.int (-1000000002 : Int32))) m)
    (e5 : ¬ y < (0 : Int32) → ¬ (100000 : Int32) < y → ¬ w < (-200000 : Int32) → ¬ (200000 : Int32) < w → z < (-200000 : Int32) → Q (some (.int (-1000000002 : Int32))) m)
    (e6 : ¬ y < (0 : Int32) → ¬ (100000 : Int32) < y → ¬ w < (-200000 : Int32) → ¬ (200000 : Int32) < w → ¬ z < (-200000 : Int32) → w < z → Q (some (.int (-1000000002 : Int32))) m)
    (e7 : ¬ y < (0 : Int32) → ¬ (100000 : Int32) < y → ¬ w < (-200000 : Int32) → ¬ (200000 : Int32) < w → ¬ z < (-200000 : Int32) → ¬ w < z → u < (0 : Int32) → Q (some (.int (-1000000002 : Int32))) m)
    (e8 : ¬ y < (0 : Int32) → ¬ (100000 : Int32) < y → ¬ w < (-200000 : Int32) → ¬ (200000 : Int32) < w → ¬ z < (-200000 : Int32) → ¬ w < z → ¬ u < (0 : Int32) → (9 : Int32) < u → Q (some (.int (-1000000002 : Int32))) m)
    (e9 : ¬ y < (0 : Int32) → ¬ (100000 : Int32) < y → ¬ w < (-200000 : Int32) → ¬ (200000 : Int32) < w → ¬ z < (-200000 : Int32) → ¬ w < z → ¬ u < (0 : Int32) → ¬ (9 : Int32) < u → q < 8 → WPM G (d + 5) (0, 0) μX0_rankHeater [.ref (gB G + 1), .int (nI q)] (wfi (wfi (wfi (wfi (wfi (wfi (wfi (wfi (wfi m 100 (ht (gB G + 1) q) (nI i)) 101 (ht (gB G + 1) q) y) 102 (ht (gB G + 1) q) z) 103 (ht (gB G + 1) q) w) 104 (ht (gB G + 1) q) u) 105 (ht (gB G + 1) q) (0 : Int32)) 106 (ht (gB G + 1) q) (0 : Int32)) 107 (ht (gB G + 1) q) (0 : Int32)) 8 (gB G + 1) (nI (q + 1))) (fun r' m' => WP G (d + 6) (0, 0) μX10_addHeater 120 [lvU, lvU, lvU, lvU, lvU, lvU, .int (nI q)] (r'.toList ++ []) m' Q))
    (e10 : ¬ y < (0 : Int32) → ¬ (100000 : Int32) < y → ¬ w < (-200000 : Int32) → ¬ (200000 : Int32) < w → ¬ z < (-200000 : Int32) → ¬ w < z → ¬ u < (0 : Int32) → ¬ (9 : Int32) < u → ¬ q < 8 → Q (some (.int (-1000000003 : Int32))) m) :
    WPM G (d + 6) (0, 0) μX10_addHeater [.ref (gB G), .int (nI i), .int y, .int z, .int w, .int u] m Q := by
  refine WPM.of pX10 (Nat.le_of_ble_eq_true rfl) rfl ?_
  refine wp_aload_n dX10_addHeater_0 rfl ?_
  refine wp_getr (gB G + 1) dX10_addHeater_1 fX10_10 (ka0 hF) (hF.2 _ _) (rra 1 (isK_le (ka0 hF)) (fun _ => rfl)) ?_
  refine wp_iload_n dX10_addHeater_4 rfl ?_
  refine wp_callV (As := [.int (nI i)]) (S := []) (b' := (0, 0)) (b := (0, 0)) dX10_addHeater_5 MX10_58 (kc0 hF (isC1 G)) rfl rfl rfl rfl (Nat.le_of_ble_eq_true rfl) ?_
  refine WPM.of pX0 (Nat.le_of_ble_eq_true rfl) rfl ?_
  refine wp_iload_n dX0_hasNode_0 rfl ?_
  refine wp_if_lt 16 dX0_hasNode_1 (by decide) (fun q => absurd q (nI_pos (by omega))) (fun _ => ?_)
  refine wp_iload_n dX0_hasNode_4 rfl ?_
  refine wp_aload_n dX0_hasNode_5 rfl ?_
  refine wp_geti (nI (n + 1)) dX0_hasNode_6 fX0_75 (Or.inl rfl) (kc0 hF (isC1 G)) hn ?_
  refine wp_icmp_ge 16 dX0_hasNode_9 (by decide) (fun q => absurd (nlt_ (a := i) (b := n + 1) hi (by omega)) q) (fun _ => ?_)
  refine wp_iconst (1 : Int32) dX0_hasNode_12 (by decide) ?_
  refine wp_goto 17 dX0_hasNode_13 (by decide) ?_
  refine wp_zret dX0_hasNode_17 rfl rfl ?_
  show WP G (d + 6) (0, 0) μX10_addHeater 8 [.ref (gB G), .int (nI i), .int y, .int z, .int w, .int u, lvU] [.int (1 : Int32)] m _
  refine wp_if_ne 14 dX10_addHeater_8 (by decide) (fun _ => ?_) (fun q => absurd q (by decide))
  refine wp_iload_n dX10_addHeater_14 rfl ?_
  refine wp_iconst (0 : Int32) dX10_addHeater_15 (by decide) ?_
  refine wp_ldc dX10_addHeater_16 kX10_34 ?_
  refine wp_callS (As := [.int y, .int (0 : Int32), .int (100000 : Int32)]) (S := []) (b' := (0, 0)) (b := (0, 0)) dX10_addHeater_18 MX10_35 rfl rfl (Nat.le_of_ble_eq_true rfl) ?_
  refine WPM.of pX10 (Nat.le_of_ble_eq_true rfl) rfl ?_
  refine wp_iload_n dX10_within_0 rfl ?_
  refine wp_iload_n dX10_within_1 rfl ?_
  refine wp_icmp_lt 14 dX10_within_2 (by decide) (fun q1 => ?_) (fun q2 => ?_)
  · skip
    refine wp_iconst (0 : Int32) dX10_within_14 (by decide) ?_
    refine wp_zret dX10_within_15 rfl rfl ?_
    show WP G (d + 6) (0, 0) μX10_addHeater 21 [.ref (gB G), .int (nI i), .int y, .int z, .int w, .int u, lvU] [.int (0 : Int32)] m _
    refine wp_if_eq 58 dX10_addHeater_21 (by decide) (fun _ => ?_) (fun q => absurd (by decide) q)
    refine wp_ldc dX10_addHeater_58 kX10_42 ?_
    exact wp_iret dX10_addHeater_60 rfl (e1 q1)
  · skip
    refine wp_iload_n dX10_within_5 rfl ?_
    refine wp_iload_n dX10_within_6 rfl ?_
    refine wp_icmp_gt 14 dX10_within_7 (by decide) (fun q3 => ?_) (fun q4 => ?_)
    · skip
      refine wp_iconst (0 : Int32) dX10_within_14 (by decide) ?_
      refine wp_zret dX10_within_15 rfl rfl ?_
      show WP G (d + 6) (0, 0) μX10_addHeater 21 [.ref (gB G), .int (nI i), .int y, .int z, .int w, .int u, lvU] [.int (0 : Int32)] m _
      refine wp_if_eq 58 dX10_addHeater_21 (by decide) (fun _ => ?_) (fun q => absurd (by decide) q)
      refine wp_ldc dX10_addHeater_58 kX10_42 ?_
      exact wp_iret dX10_addHeater_60 rfl (e2 q2 q3)
    · skip
      refine wp_iconst (1 : Int32) dX10_within_10 (by decide) ?_
      refine wp_goto 15 dX10_within_11 (by decide) ?_
      refine wp_zret dX10_within_15 rfl rfl ?_
      show WP G (d + 6) (0, 0) μX10_addHeater 21 [.ref (gB G), .int (nI i), .int y, .int z, .int w, .int u, lvU] [.int (1 : Int32)] m _
      refine wp_if_eq 58 dX10_addHeater_21 (by decide) (fun q => absurd q (by decide)) (fun _ => ?_)
      refine wp_iload dX10_addHeater_24 rfl ?_
      refine wp_ldc dX10_addHeater_26 kX10_39 ?_
      refine wp_ldc dX10_addHeater_28 kX10_40 ?_
      refine wp_callS (As := [.int w, .int (-200000 : Int32), .int (200000 : Int32)]) (S := []) (b' := (0, 0)) (b := (0, 0)) dX10_addHeater_30 MX10_35 rfl rfl (Nat.le_of_ble_eq_true rfl) ?_
      refine WPM.of pX10 (Nat.le_of_ble_eq_true rfl) rfl ?_
      refine wp_iload_n dX10_within_0 rfl ?_
      refine wp_iload_n dX10_within_1 rfl ?_
      refine wp_icmp_lt 14 dX10_within_2 (by decide) (fun q5 => ?_) (fun q6 => ?_)
      · skip
        refine wp_iconst (0 : Int32) dX10_within_14 (by decide) ?_
        refine wp_zret dX10_within_15 rfl rfl ?_
        show WP G (d + 6) (0, 0) μX10_addHeater 33 [.ref (gB G), .int (nI i), .int y, .int z, .int w, .int u, lvU] [.int (0 : Int32)] m _
        refine wp_if_eq 58 dX10_addHeater_33 (by decide) (fun _ => ?_) (fun q => absurd (by decide) q)
        refine wp_ldc dX10_addHeater_58 kX10_42 ?_
        exact wp_iret dX10_addHeater_60 rfl (e3 q2 q4 q5)
      · skip
        refine wp_iload_n dX10_within_5 rfl ?_
        refine wp_iload_n dX10_within_6 rfl ?_
        refine wp_icmp_gt 14 dX10_within_7 (by decide) (fun q7 => ?_) (fun q8 => ?_)
        · skip
          refine wp_iconst (0 : Int32) dX10_within_14 (by decide) ?_
          refine wp_zret dX10_within_15 rfl rfl ?_
          show WP G (d + 6) (0, 0) μX10_addHeater 33 [.ref (gB G), .int (nI i), .int y, .int z, .int w, .int u, lvU] [.int (0 : Int32)] m _
          refine wp_if_eq 58 dX10_addHeater_33 (by decide) (fun _ => ?_) (fun q => absurd (by decide) q)
          refine wp_ldc dX10_addHeater_58 kX10_42 ?_
          exact wp_iret dX10_addHeater_60 rfl (e4 q2 q4 q6 q7)
        · skip
          refine wp_iconst (1 : Int32) dX10_within_10 (by decide) ?_
          refine wp_goto 15 dX10_within_11 (by decide) ?_
          refine wp_zret dX10_within_15 rfl rfl ?_
          show WP G (d + 6) (0, 0) μX10_addHeater 33 [.ref (gB G), .int (nI i), .int y, .int z, .int w, .int u, lvU] [.int (1 : Int32)] m _
          refine wp_if_eq 58 dX10_addHeater_33 (by decide) (fun q => absurd q (by decide)) (fun _ => ?_)
          refine wp_iload_n dX10_addHeater_36 rfl ?_
          refine wp_ldc dX10_addHeater_37 kX10_39 ?_
          refine wp_iload dX10_addHeater_39 rfl ?_
          refine wp_callS (As := [.int z, .int (-200000 : Int32), .int w]) (S := []) (b' := (0, 0)) (b := (0, 0)) dX10_addHeater_41 MX10_35 rfl rfl (Nat.le_of_ble_eq_true rfl) ?_
          refine WPM.of pX10 (Nat.le_of_ble_eq_true rfl) rfl ?_
          refine wp_iload_n dX10_within_0 rfl ?_
          refine wp_iload_n dX10_within_1 rfl ?_
          refine wp_icmp_lt 14 dX10_within_2 (by decide) (fun q9 => ?_) (fun q10 => ?_)
          · skip
            refine wp_iconst (0 : Int32) dX10_within_14 (by decide) ?_
            refine wp_zret dX10_within_15 rfl rfl ?_
            show WP G (d + 6) (0, 0) μX10_addHeater 44 [.ref (gB G), .int (nI i), .int y, .int z, .int w, .int u, lvU] [.int (0 : Int32)] m _
            refine wp_if_eq 58 dX10_addHeater_44 (by decide) (fun _ => ?_) (fun q => absurd (by decide) q)
            refine wp_ldc dX10_addHeater_58 kX10_42 ?_
            exact wp_iret dX10_addHeater_60 rfl (e5 q2 q4 q6 q8 q9)
          · skip
            refine wp_iload_n dX10_within_5 rfl ?_
            refine wp_iload_n dX10_within_6 rfl ?_
            refine wp_icmp_gt 14 dX10_within_7 (by decide) (fun q11 => ?_) (fun q12 => ?_)
            · skip
              refine wp_iconst (0 : Int32) dX10_within_14 (by decide) ?_
              refine wp_zret dX10_within_15 rfl rfl ?_
              show WP G (d + 6) (0, 0) μX10_addHeater 44 [.ref (gB G), .int (nI i), .int y, .int z, .int w, .int u, lvU] [.int (0 : Int32)] m _
              refine wp_if_eq 58 dX10_addHeater_44 (by decide) (fun _ => ?_) (fun q => absurd (by decide) q)
              refine wp_ldc dX10_addHeater_58 kX10_42 ?_
              exact wp_iret dX10_addHeater_60 rfl (e6 q2 q4 q6 q8 q10 q11)
            · skip
              refine wp_iconst (1 : Int32) dX10_within_10 (by decide) ?_
              refine wp_goto 15 dX10_within_11 (by decide) ?_
              refine wp_zret dX10_within_15 rfl rfl ?_
              show WP G (d + 6) (0, 0) μX10_addHeater 44 [.ref (gB G), .int (nI i), .int y, .int z, .int w, .int u, lvU] [.int (1 : Int32)] m _
              refine wp_if_eq 58 dX10_addHeater_44 (by decide) (fun q => absurd q (by decide)) (fun _ => ?_)
              refine wp_iload dX10_addHeater_47 rfl ?_
              refine wp_iconst (0 : Int32) dX10_addHeater_49 (by decide) ?_
              refine wp_bipush (9 : Int32) dX10_addHeater_50 (by decide) ?_
              refine wp_callS (As := [.int u, .int (0 : Int32), .int (9 : Int32)]) (S := []) (b' := (0, 0)) (b := (0, 0)) dX10_addHeater_52 MX10_35 rfl rfl (Nat.le_of_ble_eq_true rfl) ?_
              refine WPM.of pX10 (Nat.le_of_ble_eq_true rfl) rfl ?_
              refine wp_iload_n dX10_within_0 rfl ?_
              refine wp_iload_n dX10_within_1 rfl ?_
              refine wp_icmp_lt 14 dX10_within_2 (by decide) (fun q13 => ?_) (fun q14 => ?_)
              · skip
                refine wp_iconst (0 : Int32) dX10_within_14 (by decide) ?_
                refine wp_zret dX10_within_15 rfl rfl ?_
                show WP G (d + 6) (0, 0) μX10_addHeater 55 [.ref (gB G), .int (nI i), .int y, .int z, .int w, .int u, lvU] [.int (0 : Int32)] m _
                refine wp_if_ne 61 dX10_addHeater_55 (by decide) (fun q => absurd (by decide) q) (fun _ => ?_)
                refine wp_ldc dX10_addHeater_58 kX10_42 ?_
                exact wp_iret dX10_addHeater_60 rfl (e7 q2 q4 q6 q8 q10 q12 q13)
              · skip
                refine wp_iload_n dX10_within_5 rfl ?_
                refine wp_iload_n dX10_within_6 rfl ?_
                refine wp_icmp_gt 14 dX10_within_7 (by decide) (fun q15 => ?_) (fun q16 => ?_)
                · skip
                  refine wp_iconst (0 : Int32) dX10_within_14 (by decide) ?_
                  refine wp_zret dX10_within_15 rfl rfl ?_
                  show WP G (d + 6) (0, 0) μX10_addHeater 55 [.ref (gB G), .int (nI i), .int y, .int z, .int w, .int u, lvU] [.int (0 : Int32)] m _
                  refine wp_if_ne 61 dX10_addHeater_55 (by decide) (fun q => absurd (by decide) q) (fun _ => ?_)
                  refine wp_ldc dX10_addHeater_58 kX10_42 ?_
                  exact wp_iret dX10_addHeater_60 rfl (e8 q2 q4 q6 q8 q10 q12 q14 q15)
                · skip
                  refine wp_iconst (1 : Int32) dX10_within_10 (by decide) ?_
                  refine wp_goto 15 dX10_within_11 (by decide) ?_
                  refine wp_zret dX10_within_15 rfl rfl ?_
                  show WP G (d + 6) (0, 0) μX10_addHeater 55 [.ref (gB G), .int (nI i), .int y, .int z, .int w, .int u, lvU] [.int (1 : Int32)] m _
                  refine wp_if_ne 61 dX10_addHeater_55 (by decide) (fun _ => ?_) (fun q => absurd q (by decide))
                  refine wp_aload_n dX10_addHeater_61 rfl ?_
                  refine wp_getr (gB G + 1) dX10_addHeater_62 fX10_10 (ka0 hF) (hF.2 _ _) (rra 1 (isK_le (ka0 hF)) (fun _ => rfl)) ?_
                  refine wp_geti (nI q) dX10_addHeater_65 fX10_110 (Or.inl rfl) (kc0 hF (isC1 G)) hnl ?_
                  refine wp_istore dX10_addHeater_68 (by decide) rfl ?_
                  refine wp_iload dX10_addHeater_70 rfl ?_
                  refine wp_bipush (8 : Int32) dX10_addHeater_72 (by decide) ?_
                  refine wp_icmp_lt 80 dX10_addHeater_74 (by decide) (fun q17 => ?_) (fun q18 => ?_)
                  · have hp19 : q < 8 := (nlt q17 (by omega) (by omega))
                    refine wp_aload_n dX10_addHeater_80 rfl ?_
                    refine wp_getr (gB G + 1) dX10_addHeater_81 fX10_10 (ka0 hF) (hF.2 _ _) (rra 1 (isK_le (ka0 hF)) (fun _ => rfl)) ?_
                    refine wp_getr ((gB G + 1) + 4) dX10_addHeater_84 fX10_113 (kc0 hF (isC1 G)) (hF.2 _ _) (rra 4 (isK_le (kc0 hF (isC1 G))) (fun _ => rfl)) ?_
                    refine wp_iload dX10_addHeater_87 rfl ?_
                    refine wp_raldk (n := 8) q (ht (gB G + 1) q) dX10_addHeater_89 (kc hF (isC1 G) 4 (by decide)) (by decide) (by decide) (lc (isC1 G) 4 (by decide)) (vin (by omega) (by decide)) (nIc (by omega)) (hF.2 _ _) (rht hF (isC1 G)) ?_
                    refine wp_iload_n dX10_addHeater_90 rfl ?_
                    refine wp_iload_n dX10_addHeater_91 rfl ?_
                    refine wp_iload_n dX10_addHeater_92 rfl ?_
                    refine wp_iload dX10_addHeater_93 rfl ?_
                    refine wp_iload dX10_addHeater_95 rfl ?_
                    refine wp_callV (As := [.int (nI i), .int y, .int z, .int w, .int u]) (S := []) (b' := (0, 0)) (b := (0, 0)) dX10_addHeater_97 MX10_117 (kht hF (isC1 G) (by omega)) rfl rfl rfl rfl (Nat.le_of_ble_eq_true rfl) ?_
                    refine WPM.of pX1 (Nat.le_of_ble_eq_true rfl) rfl ?_
                    refine wp_aload_n dX1_begin_0 rfl ?_
                    refine wp_iload_n dX1_begin_1 rfl ?_
                    refine wp_puti dX1_begin_2 pX1_9 (kht hF (isC1 G) (by omega)) ?_
                    have hF20 := Full_wfi 100 (ht (gB G + 1) q) (nI i) hF
                    refine wp_aload_n dX1_begin_5 rfl ?_
                    refine wp_iload_n dX1_begin_6 rfl ?_
                    refine wp_puti dX1_begin_7 pX1_15 (kht hF20 (isC1 G) (by omega)) ?_
                    have hF21 := Full_wfi 101 (ht (gB G + 1) q) y hF20
                    refine wp_aload_n dX1_begin_10 rfl ?_
                    refine wp_iload_n dX1_begin_11 rfl ?_
                    refine wp_puti dX1_begin_12 pX1_18 (kht hF21 (isC1 G) (by omega)) ?_
                    have hF22 := Full_wfi 102 (ht (gB G + 1) q) z hF21
                    refine wp_aload_n dX1_begin_15 rfl ?_
                    refine wp_iload dX1_begin_16 rfl ?_
                    refine wp_puti dX1_begin_18 pX1_21 (kht hF22 (isC1 G) (by omega)) ?_
                    have hF23 := Full_wfi 103 (ht (gB G + 1) q) w hF22
                    refine wp_aload_n dX1_begin_21 rfl ?_
                    refine wp_iload dX1_begin_22 rfl ?_
                    refine wp_puti dX1_begin_24 pX1_24 (kht hF23 (isC1 G) (by omega)) ?_
                    have hF24 := Full_wfi 104 (ht (gB G + 1) q) u hF23
                    refine wp_aload_n dX1_begin_27 rfl ?_
                    refine wp_iconst (0 : Int32) dX1_begin_28 (by decide) ?_
                    refine wp_puti dX1_begin_29 pX1_27 (kht hF24 (isC1 G) (by omega)) ?_
                    have hF25 := Full_wfi 105 (ht (gB G + 1) q) (0 : Int32) hF24
                    refine wp_aload_n dX1_begin_32 rfl ?_
                    refine wp_iconst (0 : Int32) dX1_begin_33 (by decide) ?_
                    refine wp_putz dX1_begin_34 pX1_30 (kht hF25 (isC1 G) (by omega)) (Or.inl rfl) ?_
                    have hF26 := Full_wfi 106 (ht (gB G + 1) q) (0 : Int32) hF25
                    refine wp_aload_n dX1_begin_37 rfl ?_
                    refine wp_iconst (0 : Int32) dX1_begin_38 (by decide) ?_
                    refine wp_puti dX1_begin_39 pX1_34 (kht hF26 (isC1 G) (by omega)) ?_
                    have hF27 := Full_wfi 107 (ht (gB G + 1) q) (0 : Int32) hF26
                    refine wp_vret dX1_begin_42 rfl ?_
                    show WP G (d + 6) (0, 0) μX10_addHeater 100 [.ref (gB G), .int (nI i), .int y, .int z, .int w, .int u, .int (nI q)] [] (wfi (wfi (wfi (wfi (wfi (wfi (wfi (wfi m 100 (ht (gB G + 1) q) (nI i)) 101 (ht (gB G + 1) q) y) 102 (ht (gB G + 1) q) z) 103 (ht (gB G + 1) q) w) 104 (ht (gB G + 1) q) u) 105 (ht (gB G + 1) q) (0 : Int32)) 106 (ht (gB G + 1) q) (0 : Int32)) 107 (ht (gB G + 1) q) (0 : Int32)) _
                    refine wp_aload_n dX10_addHeater_100 rfl ?_
                    refine wp_getr (gB G + 1) dX10_addHeater_101 fX10_10 (ka0 hF27) (hF27.2 _ _) (rra 1 (isK_le (ka0 hF27)) (fun _ => rfl)) ?_
                    refine wp_iload dX10_addHeater_104 rfl ?_
                    refine wp_iconst (1 : Int32) dX10_addHeater_106 (by decide) ?_
                    refine wp_iaddv (nI (q + 1)) dX10_addHeater_107 (nadd (a := q) (b := 1) (by omega)) ?_
                    refine wp_puti dX10_addHeater_108 pX10_110 (kc0 hF27 (isC1 G)) ?_
                    have hF28 := Full_wfi 8 (gB G + 1) (nI (q + 1)) hF27
                    refine wp_aload_n dX10_addHeater_111 rfl ?_
                    refine wp_getr (gB G + 1) dX10_addHeater_112 fX10_10 (ka0 hF28) (hF28.2 _ _) (rra 1 (isK_le (ka0 hF28)) (fun _ => rfl)) ?_
                    refine wp_iload dX10_addHeater_115 rfl ?_
                    refine wp_forget [lvU, lvU, lvU, lvU, lvU, lvU, .int (nI q)] ⟨Or.inr rfl, Or.inr rfl, Or.inr rfl, Or.inr rfl, Or.inr rfl, Or.inr rfl, Or.inl rfl, trivial⟩ ?_
                    refine wp_callV (As := [.int (nI q)]) (S := []) (b' := (0, 0)) (b := (0, 0)) dX10_addHeater_117 MX10_120 (kc0 hF28 (isC1 G)) rfl rfl rfl rfl (Nat.le_of_ble_eq_true rfl) ?_
                    exact e9 q2 q4 q6 q8 q10 q12 q14 q16 hp19
                  · have hp29 : ¬ q < 8 := (fun z => q18 (nlt_ (b := 8) z (by omega)))
                    refine wp_ldc dX10_addHeater_77 kX10_47 ?_
                    exact wp_iret dX10_addHeater_79 rfl (e10 q2 q4 q6 q8 q10 q12 q14 q16 hp29)

theorem jC_addHeater {G : Cx} {d : Nat} {m : Mm} {Q : Option Value → Mm → Prop} {q : Nat} (hF : Full G m) 
    (e1 : Q (some (.int (nI q))) m) :
    WP G (d + 6) (0, 0) μX10_addHeater 120 [lvU, lvU, lvU, lvU, lvU, lvU, .int (nI q)] [] m Q := by
  refine wp_iload dX10_addHeater_120 rfl ?_
  exact wp_iret dX10_addHeater_122 rfl (e1)

theorem iM_addHeater {G : Cx} {d : Nat} {m : Mm} {Q : Option Value → Mm → Prop} {y z w u : Int32} {i n : Nat} {q : Nat}  (hF : Full G m) (hn : ai m (gB G + 294) 12 = nI (n + 1)) (hm : n + 1 ≤ 12) (hi : i < n + 1) (hnl : ai m (gB G + 294) 14 = nI q) (hml : q ≤ 8) 
    (e1 : y < (0 : Int32) → Q (some (.int (-1000000002 : Int32))) m)
    (e2 : ¬ y < (0 : Int32) → (100000 : Int32) < y → Q (some (.int (-1000000002 : Int32))) m)
    (e3 : ¬ y < (0 : Int32) → ¬ (100000 : Int32) < y → w < (-200000 : Int32) → Q (some (.int (-1000000002 : Int32))) m)
    (e4 : ¬ y < (0 : Int32) → ¬ (100000 : Int32) < y → ¬ w < (-200000 : Int32) → (200000 : Int32) < w → Q (some (.int (-1000000002 : Int32))) m)
    (e5 : ¬ y < (0 : Int32) → ¬ (100000 : Int32) < y → ¬ w < (-200000 : Int32) → ¬ (200000 : Int32) < w → z < (-200000 : Int32) → Q (some (.int (-1000000002 : Int32))) m)
    (e6 : ¬ y < (0 : Int32) → ¬ (100000 : Int32) < y → ¬ w < (-200000 : Int32) → ¬ (200000 : Int32) < w → ¬ z < (-200000 : Int32) → w < z → Q (some (.int (-1000000002 : Int32))) m)
    (e7 : ¬ y < (0 : Int32) → ¬ (100000 : Int32) < y → ¬ w < (-200000 : Int32) → ¬ (200000 : Int32) < w → ¬ z < (-200000 : Int32) → ¬ w < z → u < (0 : Int32) → Q (some (.int (-1000000002 : Int32))) m)
    (e8 : ¬ y < (0 : Int32) → ¬ (100000 : Int32) < y → ¬ w < (-200000 : Int32) → ¬ (200000 : Int32) < w → ¬ z < (-200000 : Int32) → ¬ w < z → ¬ u < (0 : Int32) → (9 : Int32) < u → Q (some (.int (-1000000002 : Int32))) m)
    (e9 : ¬ y < (0 : Int32) → ¬ (100000 : Int32) < y → ¬ w < (-200000 : Int32) → ¬ (200000 : Int32) < w → ¬ z < (-200000 : Int32) → ¬ w < z → ¬ u < (0 : Int32) → ¬ (9 : Int32) < u → ¬ q = 8 → Q (some (.int (nI q))) (wai (wai (wai (wai (wai (wai (wai (wai (wai m (gB G + 294) (8 * q + 338) (nI i)) (gB G + 294) (8 * q + 339) y) (gB G + 294) (8 * q + 340) z) (gB G + 294) (8 * q + 341) w) (gB G + 294) (8 * q + 342) u) (gB G + 294) (8 * q + 343) (0 : Int32)) (gB G + 294) (8 * q + 344) (0 : Int32)) (gB G + 294) (8 * q + 345) (0 : Int32)) (gB G + 294) 14 (nI (q + 1))))
    (e10 : ¬ y < (0 : Int32) → ¬ (100000 : Int32) < y → ¬ w < (-200000 : Int32) → ¬ (200000 : Int32) < w → ¬ z < (-200000 : Int32) → ¬ w < z → ¬ u < (0 : Int32) → ¬ (9 : Int32) < u → q = 8 → Q (some (.int (-1000000003 : Int32))) m) :
    WPM G (d + 6) (0, 0) μX11_addHeater [.ref (gB G + 293), .int (nI i), .int y, .int z, .int w, .int u] m Q := by
  refine WPM.of pX11 (Nat.le_of_ble_eq_true rfl) rfl ?_
  refine wp_aload_n dX11_addHeater_0 rfl ?_
  refine wp_iload_n dX11_addHeater_1 rfl ?_
  refine wp_callV (As := [.int (nI i)]) (S := []) (b' := (0, 0)) (b := (0, 0)) dX11_addHeater_2 MX11_93 (ka hF 293 (by decide)) rfl rfl rfl rfl (Nat.le_of_ble_eq_true rfl) ?_
  refine WPM.of pX11 (Nat.le_of_ble_eq_true rfl) rfl ?_
  refine wp_iload_n dX11_isNode_0 rfl ?_
  refine wp_iconst (0 : Int32) dX11_isNode_1 (by decide) ?_
  refine wp_aload_n dX11_isNode_2 rfl ?_
  refine wp_getr (gB G + 294) dX11_isNode_3 fX11_7 (ka hF 293 (by decide)) (hF.2 _ _) (rra 1 (isK_le (ka hF 293 (by decide))) (fun _ => rfl)) ?_
  refine wp_bipush (12 : Int32) dX11_isNode_6 (by decide) ?_
  refine wp_ialdk (n := 1486) 12 (nI (n + 1)) dX11_isNode_8 (ka hF 294 (by decide)) (la 294) (vinl (by decide)) rfl hn ?_
  refine wp_iconst (1 : Int32) dX11_isNode_9 (by decide) ?_
  refine wp_isubv (nI n) dX11_isNode_10 (nsub (a := n + 1) (b := 1) (by omega)) ?_
  refine wp_callS (As := [.int (nI i), .int (0 : Int32), .int (nI n)]) (S := []) (b' := (0, 0)) (b := (0, 0)) dX11_isNode_11 MX11_67 rfl rfl (Nat.le_of_ble_eq_true rfl) ?_
  refine WPM.of pX11 (Nat.le_of_ble_eq_true rfl) rfl ?_
  refine wp_iload_n dX11_isBetween_0 rfl ?_
  refine wp_iload_n dX11_isBetween_1 rfl ?_
  refine wp_icmp_lt 14 dX11_isBetween_2 (by decide) (fun q => absurd q (nI_pos (by omega))) (fun _ => ?_)
  refine wp_iload_n dX11_isBetween_5 rfl ?_
  refine wp_iload_n dX11_isBetween_6 rfl ?_
  refine wp_icmp_gt 14 dX11_isBetween_7 (by decide) (fun q => absurd q (fun z => (show ¬ n < i by omega) (nlt (a := n) (b := i) z (by omega) (by omega)))) (fun _ => ?_)
  refine wp_iconst (1 : Int32) dX11_isBetween_10 (by decide) ?_
  refine wp_goto 15 dX11_isBetween_11 (by decide) ?_
  refine wp_zret dX11_isBetween_15 rfl rfl ?_
  show WP G (d + 5) (0, 0) μX11_isNode 14 [.ref (gB G + 293), .int (nI i)] [.int (1 : Int32)] m _
  refine wp_zret dX11_isNode_14 rfl rfl ?_
  show WP G (d + 6) (0, 0) μX11_addHeater 5 [.ref (gB G + 293), .int (nI i), .int y, .int z, .int w, .int u, lvU, lvU, lvU] [.int (1 : Int32)] m _
  refine wp_if_ne 11 dX11_addHeater_5 (by decide) (fun _ => ?_) (fun q => absurd q (by decide))
  refine wp_iload_n dX11_addHeater_11 rfl ?_
  refine wp_iconst (0 : Int32) dX11_addHeater_12 (by decide) ?_
  refine wp_ldc dX11_addHeater_13 kX11_73 ?_
  refine wp_callS (As := [.int y, .int (0 : Int32), .int (100000 : Int32)]) (S := []) (b' := (0, 0)) (b := (0, 0)) dX11_addHeater_15 MX11_67 rfl rfl (Nat.le_of_ble_eq_true rfl) ?_
  refine WPM.of pX11 (Nat.le_of_ble_eq_true rfl) rfl ?_
  refine wp_iload_n dX11_isBetween_0 rfl ?_
  refine wp_iload_n dX11_isBetween_1 rfl ?_
  refine wp_icmp_lt 14 dX11_isBetween_2 (by decide) (fun q1 => ?_) (fun q2 => ?_)
  · skip
    refine wp_iconst (0 : Int32) dX11_isBetween_14 (by decide) ?_
    refine wp_zret dX11_isBetween_15 rfl rfl ?_
    show WP G (d + 6) (0, 0) μX11_addHeater 18 [.ref (gB G + 293), .int (nI i), .int y, .int z, .int w, .int u, lvU, lvU, lvU] [.int (0 : Int32)] m _
    refine wp_if_eq 55 dX11_addHeater_18 (by decide) (fun _ => ?_) (fun q => absurd (by decide) q)
    refine wp_iconst (0 : Int32) dX11_addHeater_55 (by decide) ?_
    refine wp_istore dX11_addHeater_56 (by decide) rfl ?_
    refine wp_iload dX11_addHeater_58 rfl ?_
    refine wp_if_ne 66 dX11_addHeater_60 (by decide) (fun q => absurd (by decide) q) (fun _ => ?_)
    refine wp_ldc dX11_addHeater_63 kX11_79 ?_
    exact wp_iret dX11_addHeater_65 rfl (e1 q1)
  · skip
    refine wp_iload_n dX11_isBetween_5 rfl ?_
    refine wp_iload_n dX11_isBetween_6 rfl ?_
    refine wp_icmp_gt 14 dX11_isBetween_7 (by decide) (fun q3 => ?_) (fun q4 => ?_)
    · skip
      refine wp_iconst (0 : Int32) dX11_isBetween_14 (by decide) ?_
      refine wp_zret dX11_isBetween_15 rfl rfl ?_
      show WP G (d + 6) (0, 0) μX11_addHeater 18 [.ref (gB G + 293), .int (nI i), .int y, .int z, .int w, .int u, lvU, lvU, lvU] [.int (0 : Int32)] m _
      refine wp_if_eq 55 dX11_addHeater_18 (by decide) (fun _ => ?_) (fun q => absurd (by decide) q)
      refine wp_iconst (0 : Int32) dX11_addHeater_55 (by decide) ?_
      refine wp_istore dX11_addHeater_56 (by decide) rfl ?_
      refine wp_iload dX11_addHeater_58 rfl ?_
      refine wp_if_ne 66 dX11_addHeater_60 (by decide) (fun q => absurd (by decide) q) (fun _ => ?_)
      refine wp_ldc dX11_addHeater_63 kX11_79 ?_
      exact wp_iret dX11_addHeater_65 rfl (e2 q2 q3)
    · skip
      refine wp_iconst (1 : Int32) dX11_isBetween_10 (by decide) ?_
      refine wp_goto 15 dX11_isBetween_11 (by decide) ?_
      refine wp_zret dX11_isBetween_15 rfl rfl ?_
      show WP G (d + 6) (0, 0) μX11_addHeater 18 [.ref (gB G + 293), .int (nI i), .int y, .int z, .int w, .int u, lvU, lvU, lvU] [.int (1 : Int32)] m _
      refine wp_if_eq 55 dX11_addHeater_18 (by decide) (fun q => absurd q (by decide)) (fun _ => ?_)
      refine wp_iload dX11_addHeater_21 rfl ?_
      refine wp_callS (As := [.int w]) (S := []) (b' := (0, 0)) (b := (0, 0)) dX11_addHeater_23 MX11_74 rfl rfl (Nat.le_of_ble_eq_true rfl) ?_
      refine WPM.of pX11 (Nat.le_of_ble_eq_true rfl) rfl ?_
      refine wp_iload_n dX11_isTemperature_0 rfl ?_
      refine wp_ldc dX11_isTemperature_1 kX11_71 ?_
      refine wp_ldc dX11_isTemperature_3 kX11_72 ?_
      refine wp_callS (As := [.int w, .int (-200000 : Int32), .int (200000 : Int32)]) (S := []) (b' := (0, 0)) (b := (0, 0)) dX11_isTemperature_5 MX11_67 rfl rfl (Nat.le_of_ble_eq_true rfl) ?_
      refine WPM.of pX11 (Nat.le_of_ble_eq_true rfl) rfl ?_
      refine wp_iload_n dX11_isBetween_0 rfl ?_
      refine wp_iload_n dX11_isBetween_1 rfl ?_
      refine wp_icmp_lt 14 dX11_isBetween_2 (by decide) (fun q5 => ?_) (fun q6 => ?_)
      · skip
        refine wp_iconst (0 : Int32) dX11_isBetween_14 (by decide) ?_
        refine wp_zret dX11_isBetween_15 rfl rfl ?_
        show WP G (d + 5) (0, 0) μX11_isTemperature 8 [.int w] [.int (0 : Int32)] m _
        refine wp_zret dX11_isTemperature_8 rfl rfl ?_
        show WP G (d + 6) (0, 0) μX11_addHeater 26 [.ref (gB G + 293), .int (nI i), .int y, .int z, .int w, .int u, lvU, lvU, lvU] [.int (0 : Int32)] m _
        refine wp_if_eq 55 dX11_addHeater_26 (by decide) (fun _ => ?_) (fun q => absurd (by decide) q)
        refine wp_iconst (0 : Int32) dX11_addHeater_55 (by decide) ?_
        refine wp_istore dX11_addHeater_56 (by decide) rfl ?_
        refine wp_iload dX11_addHeater_58 rfl ?_
        refine wp_if_ne 66 dX11_addHeater_60 (by decide) (fun q => absurd (by decide) q) (fun _ => ?_)
        refine wp_ldc dX11_addHeater_63 kX11_79 ?_
        exact wp_iret dX11_addHeater_65 rfl (e3 q2 q4 q5)
      · skip
        refine wp_iload_n dX11_isBetween_5 rfl ?_
        refine wp_iload_n dX11_isBetween_6 rfl ?_
        refine wp_icmp_gt 14 dX11_isBetween_7 (by decide) (fun q7 => ?_) (fun q8 => ?_)
        · skip
          refine wp_iconst (0 : Int32) dX11_isBetween_14 (by decide) ?_
          refine wp_zret dX11_isBetween_15 rfl rfl ?_
          show WP G (d + 5) (0, 0) μX11_isTemperature 8 [.int w] [.int (0 : Int32)] m _
          refine wp_zret dX11_isTemperature_8 rfl rfl ?_
          show WP G (d + 6) (0, 0) μX11_addHeater 26 [.ref (gB G + 293), .int (nI i), .int y, .int z, .int w, .int u, lvU, lvU, lvU] [.int (0 : Int32)] m _
          refine wp_if_eq 55 dX11_addHeater_26 (by decide) (fun _ => ?_) (fun q => absurd (by decide) q)
          refine wp_iconst (0 : Int32) dX11_addHeater_55 (by decide) ?_
          refine wp_istore dX11_addHeater_56 (by decide) rfl ?_
          refine wp_iload dX11_addHeater_58 rfl ?_
          refine wp_if_ne 66 dX11_addHeater_60 (by decide) (fun q => absurd (by decide) q) (fun _ => ?_)
          refine wp_ldc dX11_addHeater_63 kX11_79 ?_
          exact wp_iret dX11_addHeater_65 rfl (e4 q2 q4 q6 q7)
        · skip
          refine wp_iconst (1 : Int32) dX11_isBetween_10 (by decide) ?_
          refine wp_goto 15 dX11_isBetween_11 (by decide) ?_
          refine wp_zret dX11_isBetween_15 rfl rfl ?_
          show WP G (d + 5) (0, 0) μX11_isTemperature 8 [.int w] [.int (1 : Int32)] m _
          refine wp_zret dX11_isTemperature_8 rfl rfl ?_
          show WP G (d + 6) (0, 0) μX11_addHeater 26 [.ref (gB G + 293), .int (nI i), .int y, .int z, .int w, .int u, lvU, lvU, lvU] [.int (1 : Int32)] m _
          refine wp_if_eq 55 dX11_addHeater_26 (by decide) (fun q => absurd q (by decide)) (fun _ => ?_)
          refine wp_iload_n dX11_addHeater_29 rfl ?_
          refine wp_ldc dX11_addHeater_30 kX11_71 ?_
          refine wp_iload dX11_addHeater_32 rfl ?_
          refine wp_callS (As := [.int z, .int (-200000 : Int32), .int w]) (S := []) (b' := (0, 0)) (b := (0, 0)) dX11_addHeater_34 MX11_67 rfl rfl (Nat.le_of_ble_eq_true rfl) ?_
          refine WPM.of pX11 (Nat.le_of_ble_eq_true rfl) rfl ?_
          refine wp_iload_n dX11_isBetween_0 rfl ?_
          refine wp_iload_n dX11_isBetween_1 rfl ?_
          refine wp_icmp_lt 14 dX11_isBetween_2 (by decide) (fun q9 => ?_) (fun q10 => ?_)
          · skip
            refine wp_iconst (0 : Int32) dX11_isBetween_14 (by decide) ?_
            refine wp_zret dX11_isBetween_15 rfl rfl ?_
            show WP G (d + 6) (0, 0) μX11_addHeater 37 [.ref (gB G + 293), .int (nI i), .int y, .int z, .int w, .int u, lvU, lvU, lvU] [.int (0 : Int32)] m _
            refine wp_if_eq 55 dX11_addHeater_37 (by decide) (fun _ => ?_) (fun q => absurd (by decide) q)
            refine wp_iconst (0 : Int32) dX11_addHeater_55 (by decide) ?_
            refine wp_istore dX11_addHeater_56 (by decide) rfl ?_
            refine wp_iload dX11_addHeater_58 rfl ?_
            refine wp_if_ne 66 dX11_addHeater_60 (by decide) (fun q => absurd (by decide) q) (fun _ => ?_)
            refine wp_ldc dX11_addHeater_63 kX11_79 ?_
            exact wp_iret dX11_addHeater_65 rfl (e5 q2 q4 q6 q8 q9)
          · skip
            refine wp_iload_n dX11_isBetween_5 rfl ?_
            refine wp_iload_n dX11_isBetween_6 rfl ?_
            refine wp_icmp_gt 14 dX11_isBetween_7 (by decide) (fun q11 => ?_) (fun q12 => ?_)
            · skip
              refine wp_iconst (0 : Int32) dX11_isBetween_14 (by decide) ?_
              refine wp_zret dX11_isBetween_15 rfl rfl ?_
              show WP G (d + 6) (0, 0) μX11_addHeater 37 [.ref (gB G + 293), .int (nI i), .int y, .int z, .int w, .int u, lvU, lvU, lvU] [.int (0 : Int32)] m _
              refine wp_if_eq 55 dX11_addHeater_37 (by decide) (fun _ => ?_) (fun q => absurd (by decide) q)
              refine wp_iconst (0 : Int32) dX11_addHeater_55 (by decide) ?_
              refine wp_istore dX11_addHeater_56 (by decide) rfl ?_
              refine wp_iload dX11_addHeater_58 rfl ?_
              refine wp_if_ne 66 dX11_addHeater_60 (by decide) (fun q => absurd (by decide) q) (fun _ => ?_)
              refine wp_ldc dX11_addHeater_63 kX11_79 ?_
              exact wp_iret dX11_addHeater_65 rfl (e6 q2 q4 q6 q8 q10 q11)
            · skip
              refine wp_iconst (1 : Int32) dX11_isBetween_10 (by decide) ?_
              refine wp_goto 15 dX11_isBetween_11 (by decide) ?_
              refine wp_zret dX11_isBetween_15 rfl rfl ?_
              show WP G (d + 6) (0, 0) μX11_addHeater 37 [.ref (gB G + 293), .int (nI i), .int y, .int z, .int w, .int u, lvU, lvU, lvU] [.int (1 : Int32)] m _
              refine wp_if_eq 55 dX11_addHeater_37 (by decide) (fun q => absurd q (by decide)) (fun _ => ?_)
              refine wp_iload dX11_addHeater_40 rfl ?_
              refine wp_iconst (0 : Int32) dX11_addHeater_42 (by decide) ?_
              refine wp_bipush (9 : Int32) dX11_addHeater_43 (by decide) ?_
              refine wp_callS (As := [.int u, .int (0 : Int32), .int (9 : Int32)]) (S := []) (b' := (0, 0)) (b := (0, 0)) dX11_addHeater_45 MX11_67 rfl rfl (Nat.le_of_ble_eq_true rfl) ?_
              refine WPM.of pX11 (Nat.le_of_ble_eq_true rfl) rfl ?_
              refine wp_iload_n dX11_isBetween_0 rfl ?_
              refine wp_iload_n dX11_isBetween_1 rfl ?_
              refine wp_icmp_lt 14 dX11_isBetween_2 (by decide) (fun q13 => ?_) (fun q14 => ?_)
              · skip
                refine wp_iconst (0 : Int32) dX11_isBetween_14 (by decide) ?_
                refine wp_zret dX11_isBetween_15 rfl rfl ?_
                show WP G (d + 6) (0, 0) μX11_addHeater 48 [.ref (gB G + 293), .int (nI i), .int y, .int z, .int w, .int u, lvU, lvU, lvU] [.int (0 : Int32)] m _
                refine wp_if_eq 55 dX11_addHeater_48 (by decide) (fun _ => ?_) (fun q => absurd (by decide) q)
                refine wp_iconst (0 : Int32) dX11_addHeater_55 (by decide) ?_
                refine wp_istore dX11_addHeater_56 (by decide) rfl ?_
                refine wp_iload dX11_addHeater_58 rfl ?_
                refine wp_if_ne 66 dX11_addHeater_60 (by decide) (fun q => absurd (by decide) q) (fun _ => ?_)
                refine wp_ldc dX11_addHeater_63 kX11_79 ?_
                exact wp_iret dX11_addHeater_65 rfl (e7 q2 q4 q6 q8 q10 q12 q13)
              · skip
                refine wp_iload_n dX11_isBetween_5 rfl ?_
                refine wp_iload_n dX11_isBetween_6 rfl ?_
                refine wp_icmp_gt 14 dX11_isBetween_7 (by decide) (fun q15 => ?_) (fun q16 => ?_)
                · skip
                  refine wp_iconst (0 : Int32) dX11_isBetween_14 (by decide) ?_
                  refine wp_zret dX11_isBetween_15 rfl rfl ?_
                  show WP G (d + 6) (0, 0) μX11_addHeater 48 [.ref (gB G + 293), .int (nI i), .int y, .int z, .int w, .int u, lvU, lvU, lvU] [.int (0 : Int32)] m _
                  refine wp_if_eq 55 dX11_addHeater_48 (by decide) (fun _ => ?_) (fun q => absurd (by decide) q)
                  refine wp_iconst (0 : Int32) dX11_addHeater_55 (by decide) ?_
                  refine wp_istore dX11_addHeater_56 (by decide) rfl ?_
                  refine wp_iload dX11_addHeater_58 rfl ?_
                  refine wp_if_ne 66 dX11_addHeater_60 (by decide) (fun q => absurd (by decide) q) (fun _ => ?_)
                  refine wp_ldc dX11_addHeater_63 kX11_79 ?_
                  exact wp_iret dX11_addHeater_65 rfl (e8 q2 q4 q6 q8 q10 q12 q14 q15)
                · skip
                  refine wp_iconst (1 : Int32) dX11_isBetween_10 (by decide) ?_
                  refine wp_goto 15 dX11_isBetween_11 (by decide) ?_
                  refine wp_zret dX11_isBetween_15 rfl rfl ?_
                  show WP G (d + 6) (0, 0) μX11_addHeater 48 [.ref (gB G + 293), .int (nI i), .int y, .int z, .int w, .int u, lvU, lvU, lvU] [.int (1 : Int32)] m _
                  refine wp_if_eq 55 dX11_addHeater_48 (by decide) (fun q => absurd q (by decide)) (fun _ => ?_)
                  refine wp_iconst (1 : Int32) dX11_addHeater_51 (by decide) ?_
                  refine wp_goto 56 dX11_addHeater_52 (by decide) ?_
                  refine wp_istore dX11_addHeater_56 (by decide) rfl ?_
                  refine wp_iload dX11_addHeater_58 rfl ?_
                  refine wp_if_ne 66 dX11_addHeater_60 (by decide) (fun _ => ?_) (fun q => absurd q (by decide))
                  refine wp_aload_n dX11_addHeater_66 rfl ?_
                  refine wp_getr (gB G + 294) dX11_addHeater_67 fX11_7 (ka hF 293 (by decide)) (hF.2 _ _) (rra 1 (isK_le (ka hF 293 (by decide))) (fun _ => rfl)) ?_
                  refine wp_bipush (14 : Int32) dX11_addHeater_70 (by decide) ?_
                  refine wp_ialdk (n := 1486) 14 (nI q) dX11_addHeater_72 (ka hF 294 (by decide)) (la 294) (vinl (by decide)) rfl hnl ?_
                  refine wp_istore dX11_addHeater_73 (by decide) rfl ?_
                  refine wp_iload dX11_addHeater_75 rfl ?_
                  refine wp_bipush (8 : Int32) dX11_addHeater_77 (by decide) ?_
                  refine wp_icmp_ne 85 dX11_addHeater_79 (by decide) (fun q17 => ?_) (fun q18 => ?_)
                  · have hp19 : ¬ q = 8 := (fun z => q17 (congrArg nI z))
                    refine wp_sipush (338 : Int32) dX11_addHeater_85 (by decide) ?_
                    refine wp_bipush (8 : Int32) dX11_addHeater_88 (by decide) ?_
                    refine wp_iload dX11_addHeater_90 rfl ?_
                    refine wp_imulv (nI (8 * q)) dX11_addHeater_92 (nmul (a := 8) (b := q) (by omega)) ?_
                    refine wp_iaddv (nI (8 * q + 338)) dX11_addHeater_93 (nadd (a := 338) (b := 8 * q) (by omega)) ?_
                    refine wp_istore dX11_addHeater_94 (by decide) rfl ?_
                    refine wp_aload_n dX11_addHeater_96 rfl ?_
                    refine wp_getr (gB G + 294) dX11_addHeater_97 fX11_7 (ka hF 293 (by decide)) (hF.2 _ _) (rra 1 (isK_le (ka hF 293 (by decide))) (fun _ => rfl)) ?_
                    refine wp_iload dX11_addHeater_100 rfl ?_
                    refine wp_iconst (0 : Int32) dX11_addHeater_102 (by decide) ?_
                    refine wp_iaddv (nI (8 * q + 338)) dX11_addHeater_103 (nadd (a := 8 * q + 338) (b := 0) (by omega)) ?_
                    refine wp_iload_n dX11_addHeater_104 rfl ?_
                    refine wp_iastk (n := 1486) (8 * q + 338) dX11_addHeater_105 (ka hF 294 (by decide)) (la 294) (vin (by omega) (by decide))  (nIc (by omega)) ?_
                    have hF20 := Full_wai (gB G + 294) (8 * q + 338) (nI i) hF
                    refine wp_aload_n dX11_addHeater_106 rfl ?_
                    refine wp_getr (gB G + 294) dX11_addHeater_107 fX11_7 (ka hF20 293 (by decide)) (hF20.2 _ _) (rra 1 (isK_le (ka hF20 293 (by decide))) (fun _ => rfl)) ?_
                    refine wp_iload dX11_addHeater_110 rfl ?_
                    refine wp_iconst (1 : Int32) dX11_addHeater_112 (by decide) ?_
                    refine wp_iaddv (nI (8 * q + 339)) dX11_addHeater_113 (nadd (a := 8 * q + 338) (b := 1) (by omega)) ?_
                    refine wp_iload_n dX11_addHeater_114 rfl ?_
                    refine wp_iastk (n := 1486) (8 * q + 339) dX11_addHeater_115 (ka hF20 294 (by decide)) (la 294) (vin (by omega) (by decide))  (nIc (by omega)) ?_
                    have hF21 := Full_wai (gB G + 294) (8 * q + 339) y hF20
                    refine wp_aload_n dX11_addHeater_116 rfl ?_
                    refine wp_getr (gB G + 294) dX11_addHeater_117 fX11_7 (ka hF21 293 (by decide)) (hF21.2 _ _) (rra 1 (isK_le (ka hF21 293 (by decide))) (fun _ => rfl)) ?_
                    refine wp_iload dX11_addHeater_120 rfl ?_
                    refine wp_iconst (2 : Int32) dX11_addHeater_122 (by decide) ?_
                    refine wp_iaddv (nI (8 * q + 340)) dX11_addHeater_123 (nadd (a := 8 * q + 338) (b := 2) (by omega)) ?_
                    refine wp_iload_n dX11_addHeater_124 rfl ?_
                    refine wp_iastk (n := 1486) (8 * q + 340) dX11_addHeater_125 (ka hF21 294 (by decide)) (la 294) (vin (by omega) (by decide))  (nIc (by omega)) ?_
                    have hF22 := Full_wai (gB G + 294) (8 * q + 340) z hF21
                    refine wp_aload_n dX11_addHeater_126 rfl ?_
                    refine wp_getr (gB G + 294) dX11_addHeater_127 fX11_7 (ka hF22 293 (by decide)) (hF22.2 _ _) (rra 1 (isK_le (ka hF22 293 (by decide))) (fun _ => rfl)) ?_
                    refine wp_iload dX11_addHeater_130 rfl ?_
                    refine wp_iconst (3 : Int32) dX11_addHeater_132 (by decide) ?_
                    refine wp_iaddv (nI (8 * q + 341)) dX11_addHeater_133 (nadd (a := 8 * q + 338) (b := 3) (by omega)) ?_
                    refine wp_iload dX11_addHeater_134 rfl ?_
                    refine wp_iastk (n := 1486) (8 * q + 341) dX11_addHeater_136 (ka hF22 294 (by decide)) (la 294) (vin (by omega) (by decide))  (nIc (by omega)) ?_
                    have hF23 := Full_wai (gB G + 294) (8 * q + 341) w hF22
                    refine wp_aload_n dX11_addHeater_137 rfl ?_
                    refine wp_getr (gB G + 294) dX11_addHeater_138 fX11_7 (ka hF23 293 (by decide)) (hF23.2 _ _) (rra 1 (isK_le (ka hF23 293 (by decide))) (fun _ => rfl)) ?_
                    refine wp_iload dX11_addHeater_141 rfl ?_
                    refine wp_iconst (4 : Int32) dX11_addHeater_143 (by decide) ?_
                    refine wp_iaddv (nI (8 * q + 342)) dX11_addHeater_144 (nadd (a := 8 * q + 338) (b := 4) (by omega)) ?_
                    refine wp_iload dX11_addHeater_145 rfl ?_
                    refine wp_iastk (n := 1486) (8 * q + 342) dX11_addHeater_147 (ka hF23 294 (by decide)) (la 294) (vin (by omega) (by decide))  (nIc (by omega)) ?_
                    have hF24 := Full_wai (gB G + 294) (8 * q + 342) u hF23
                    refine wp_aload_n dX11_addHeater_148 rfl ?_
                    refine wp_getr (gB G + 294) dX11_addHeater_149 fX11_7 (ka hF24 293 (by decide)) (hF24.2 _ _) (rra 1 (isK_le (ka hF24 293 (by decide))) (fun _ => rfl)) ?_
                    refine wp_iload dX11_addHeater_152 rfl ?_
                    refine wp_iconst (5 : Int32) dX11_addHeater_154 (by decide) ?_
                    refine wp_iaddv (nI (8 * q + 343)) dX11_addHeater_155 (nadd (a := 8 * q + 338) (b := 5) (by omega)) ?_
                    refine wp_iconst (0 : Int32) dX11_addHeater_156 (by decide) ?_
                    refine wp_iastk (n := 1486) (8 * q + 343) dX11_addHeater_157 (ka hF24 294 (by decide)) (la 294) (vin (by omega) (by decide))  (nIc (by omega)) ?_
                    have hF25 := Full_wai (gB G + 294) (8 * q + 343) (0 : Int32) hF24
                    refine wp_aload_n dX11_addHeater_158 rfl ?_
                    refine wp_getr (gB G + 294) dX11_addHeater_159 fX11_7 (ka hF25 293 (by decide)) (hF25.2 _ _) (rra 1 (isK_le (ka hF25 293 (by decide))) (fun _ => rfl)) ?_
                    refine wp_iload dX11_addHeater_162 rfl ?_
                    refine wp_bipush (6 : Int32) dX11_addHeater_164 (by decide) ?_
                    refine wp_iaddv (nI (8 * q + 344)) dX11_addHeater_166 (nadd (a := 8 * q + 338) (b := 6) (by omega)) ?_
                    refine wp_iconst (0 : Int32) dX11_addHeater_167 (by decide) ?_
                    refine wp_iastk (n := 1486) (8 * q + 344) dX11_addHeater_168 (ka hF25 294 (by decide)) (la 294) (vin (by omega) (by decide))  (nIc (by omega)) ?_
                    have hF26 := Full_wai (gB G + 294) (8 * q + 344) (0 : Int32) hF25
                    refine wp_aload_n dX11_addHeater_169 rfl ?_
                    refine wp_getr (gB G + 294) dX11_addHeater_170 fX11_7 (ka hF26 293 (by decide)) (hF26.2 _ _) (rra 1 (isK_le (ka hF26 293 (by decide))) (fun _ => rfl)) ?_
                    refine wp_iload dX11_addHeater_173 rfl ?_
                    refine wp_bipush (7 : Int32) dX11_addHeater_175 (by decide) ?_
                    refine wp_iaddv (nI (8 * q + 345)) dX11_addHeater_177 (nadd (a := 8 * q + 338) (b := 7) (by omega)) ?_
                    refine wp_iconst (0 : Int32) dX11_addHeater_178 (by decide) ?_
                    refine wp_iastk (n := 1486) (8 * q + 345) dX11_addHeater_179 (ka hF26 294 (by decide)) (la 294) (vin (by omega) (by decide))  (nIc (by omega)) ?_
                    have hF27 := Full_wai (gB G + 294) (8 * q + 345) (0 : Int32) hF26
                    refine wp_aload_n dX11_addHeater_180 rfl ?_
                    refine wp_getr (gB G + 294) dX11_addHeater_181 fX11_7 (ka hF27 293 (by decide)) (hF27.2 _ _) (rra 1 (isK_le (ka hF27 293 (by decide))) (fun _ => rfl)) ?_
                    refine wp_bipush (14 : Int32) dX11_addHeater_184 (by decide) ?_
                    refine wp_dup2 dX11_addHeater_186 rfl rfl ?_
                    refine wp_ialdk (n := 1486) 14 (nI q) dX11_addHeater_187 (ka hF27 294 (by decide)) (la 294) (vinl (by decide)) rfl ((ai_nk (by omega)).trans ((ai_nk (by omega)).trans ((ai_nk (by omega)).trans ((ai_nk (by omega)).trans ((ai_nk (by omega)).trans ((ai_nk (by omega)).trans ((ai_nk (by omega)).trans ((ai_nk (by omega)).trans hnl)))))))) ?_
                    refine wp_iconst (1 : Int32) dX11_addHeater_188 (by decide) ?_
                    refine wp_iaddv (nI (q + 1)) dX11_addHeater_189 (nadd (a := q) (b := 1) (by omega)) ?_
                    refine wp_iastk (n := 1486) 14 dX11_addHeater_190 (ka hF27 294 (by decide)) (la 294) (vinl (by decide))  rfl ?_
                    have hF28 := Full_wai (gB G + 294) 14 (nI (q + 1)) hF27
                    refine wp_iload dX11_addHeater_191 rfl ?_
                    exact wp_iret dX11_addHeater_193 rfl (e9 q2 q4 q6 q8 q10 q12 q14 q16 hp19)
                  · have hp29 : q = 8 := (neq q18 (by omega) (by omega))
                    refine wp_ldc dX11_addHeater_82 kX11_80 ?_
                    exact wp_iret dX11_addHeater_84 rfl (e10 q2 q4 q6 q8 q10 q12 q14 q16 hp29)

theorem aC_addHeater {G : Cx} {d : Nat} {m : Mm} {Q : Option Value → Mm → Prop} {x y z w u : Int32} {n : Nat}  (hF : Full G m) (hn : fi m 5 (gB G + 1) = nI n) (hm : n ≤ 12) (hx : x < 0) 
    (e1 : Q (some (.int (-1000000001 : Int32))) m) :
    WPM G (d + 6) (0, 0) μX10_addHeater [.ref (gB G), .int x, .int y, .int z, .int w, .int u] m Q := by
  refine WPM.of pX10 (Nat.le_of_ble_eq_true rfl) rfl ?_
  refine wp_aload_n dX10_addHeater_0 rfl ?_
  refine wp_getr (gB G + 1) dX10_addHeater_1 fX10_10 (ka0 hF) (hF.2 _ _) (rra 1 (isK_le (ka0 hF)) (fun _ => rfl)) ?_
  refine wp_iload_n dX10_addHeater_4 rfl ?_
  refine wp_callV (As := [.int x]) (S := []) (b' := (0, 0)) (b := (0, 0)) dX10_addHeater_5 MX10_58 (kc0 hF (isC1 G)) rfl rfl rfl rfl (Nat.le_of_ble_eq_true rfl) ?_
  refine WPM.of pX0 (Nat.le_of_ble_eq_true rfl) rfl ?_
  refine wp_iload_n dX0_hasNode_0 rfl ?_
  refine wp_if_lt 16 dX0_hasNode_1 (by decide) (fun _ => ?_) (fun q => absurd hx q)
  refine wp_iconst (0 : Int32) dX0_hasNode_16 (by decide) ?_
  refine wp_zret dX0_hasNode_17 rfl rfl ?_
  show WP G (d + 6) (0, 0) μX10_addHeater 8 [.ref (gB G), .int x, .int y, .int z, .int w, .int u, lvU] [.int (0 : Int32)] m _
  refine wp_if_ne 14 dX10_addHeater_8 (by decide) (fun q => absurd (by decide) q) (fun _ => ?_)
  refine wp_ldc dX10_addHeater_11 kX10_62 ?_
  exact wp_iret dX10_addHeater_13 rfl (e1)

theorem aM_addHeater {G : Cx} {d : Nat} {m : Mm} {Q : Option Value → Mm → Prop} {x y z w u : Int32} {n : Nat}  (hF : Full G m) (hn : ai m (gB G + 294) 12 = nI n) (hm : n ≤ 12) (hx : x < 0) 
    (e1 : Q (some (.int (-1000000001 : Int32))) m) :
    WPM G (d + 6) (0, 0) μX11_addHeater [.ref (gB G + 293), .int x, .int y, .int z, .int w, .int u] m Q := by
  refine WPM.of pX11 (Nat.le_of_ble_eq_true rfl) rfl ?_
  refine wp_aload_n dX11_addHeater_0 rfl ?_
  refine wp_iload_n dX11_addHeater_1 rfl ?_
  refine wp_callV (As := [.int x]) (S := []) (b' := (0, 0)) (b := (0, 0)) dX11_addHeater_2 MX11_93 (ka hF 293 (by decide)) rfl rfl rfl rfl (Nat.le_of_ble_eq_true rfl) ?_
  refine WPM.of pX11 (Nat.le_of_ble_eq_true rfl) rfl ?_
  refine wp_iload_n dX11_isNode_0 rfl ?_
  refine wp_iconst (0 : Int32) dX11_isNode_1 (by decide) ?_
  refine wp_aload_n dX11_isNode_2 rfl ?_
  refine wp_getr (gB G + 294) dX11_isNode_3 fX11_7 (ka hF 293 (by decide)) (hF.2 _ _) (rra 1 (isK_le (ka hF 293 (by decide))) (fun _ => rfl)) ?_
  refine wp_bipush (12 : Int32) dX11_isNode_6 (by decide) ?_
  refine wp_ialdk (n := 1486) 12 (nI n) dX11_isNode_8 (ka hF 294 (by decide)) (la 294) (vinl (by decide)) rfl hn ?_
  refine wp_iconst (1 : Int32) dX11_isNode_9 (by decide) ?_
  refine wp_isubv ((nI n) - (1 : Int32)) dX11_isNode_10 rfl ?_
  refine wp_callS (As := [.int x, .int (0 : Int32), .int ((nI n) - (1 : Int32))]) (S := []) (b' := (0, 0)) (b := (0, 0)) dX11_isNode_11 MX11_67 rfl rfl (Nat.le_of_ble_eq_true rfl) ?_
  refine WPM.of pX11 (Nat.le_of_ble_eq_true rfl) rfl ?_
  refine wp_iload_n dX11_isBetween_0 rfl ?_
  refine wp_iload_n dX11_isBetween_1 rfl ?_
  refine wp_icmp_lt 14 dX11_isBetween_2 (by decide) (fun _ => ?_) (fun q => absurd hx q)
  refine wp_iconst (0 : Int32) dX11_isBetween_14 (by decide) ?_
  refine wp_zret dX11_isBetween_15 rfl rfl ?_
  show WP G (d + 5) (0, 0) μX11_isNode 14 [.ref (gB G + 293), .int x] [.int (0 : Int32)] m _
  refine wp_zret dX11_isNode_14 rfl rfl ?_
  show WP G (d + 6) (0, 0) μX11_addHeater 5 [.ref (gB G + 293), .int x, .int y, .int z, .int w, .int u, lvU, lvU, lvU] [.int (0 : Int32)] m _
  refine wp_if_ne 11 dX11_addHeater_5 (by decide) (fun q => absurd (by decide) q) (fun _ => ?_)
  refine wp_ldc dX11_addHeater_8 kX11_96 ?_
  exact wp_iret dX11_addHeater_10 rfl (e1)

theorem bC_addHeater {G : Cx} {d : Nat} {m : Mm} {Q : Option Value → Mm → Prop} {x y z w u : Int32} {n : Nat}  (hF : Full G m) (hn : fi m 5 (gB G + 1) = nI n) (hm : n ≤ 12) (hxa : ¬ x < 0) (hxb : ¬ x < nI n) 
    (e1 : Q (some (.int (-1000000001 : Int32))) m) :
    WPM G (d + 6) (0, 0) μX10_addHeater [.ref (gB G), .int x, .int y, .int z, .int w, .int u] m Q := by
  refine WPM.of pX10 (Nat.le_of_ble_eq_true rfl) rfl ?_
  refine wp_aload_n dX10_addHeater_0 rfl ?_
  refine wp_getr (gB G + 1) dX10_addHeater_1 fX10_10 (ka0 hF) (hF.2 _ _) (rra 1 (isK_le (ka0 hF)) (fun _ => rfl)) ?_
  refine wp_iload_n dX10_addHeater_4 rfl ?_
  refine wp_callV (As := [.int x]) (S := []) (b' := (0, 0)) (b := (0, 0)) dX10_addHeater_5 MX10_58 (kc0 hF (isC1 G)) rfl rfl rfl rfl (Nat.le_of_ble_eq_true rfl) ?_
  refine WPM.of pX0 (Nat.le_of_ble_eq_true rfl) rfl ?_
  refine wp_iload_n dX0_hasNode_0 rfl ?_
  refine wp_if_lt 16 dX0_hasNode_1 (by decide) (fun q => absurd q hxa) (fun _ => ?_)
  refine wp_iload_n dX0_hasNode_4 rfl ?_
  refine wp_aload_n dX0_hasNode_5 rfl ?_
  refine wp_geti (nI n) dX0_hasNode_6 fX0_75 (Or.inl rfl) (kc0 hF (isC1 G)) hn ?_
  refine wp_icmp_ge 16 dX0_hasNode_9 (by decide) (fun _ => ?_) (fun q => absurd q hxb)
  refine wp_iconst (0 : Int32) dX0_hasNode_16 (by decide) ?_
  refine wp_zret dX0_hasNode_17 rfl rfl ?_
  show WP G (d + 6) (0, 0) μX10_addHeater 8 [.ref (gB G), .int x, .int y, .int z, .int w, .int u, lvU] [.int (0 : Int32)] m _
  refine wp_if_ne 14 dX10_addHeater_8 (by decide) (fun q => absurd (by decide) q) (fun _ => ?_)
  refine wp_ldc dX10_addHeater_11 kX10_62 ?_
  exact wp_iret dX10_addHeater_13 rfl (e1)

theorem bM_addHeater {G : Cx} {d : Nat} {m : Mm} {Q : Option Value → Mm → Prop} {x y z w u : Int32} {n : Nat}  (hF : Full G m) (hn : ai m (gB G + 294) 12 = nI n) (hm : n ≤ 12) (hxa : ¬ x < 0) (hxb : ¬ x < nI n) 
    (e1 : Q (some (.int (-1000000001 : Int32))) m) :
    WPM G (d + 6) (0, 0) μX11_addHeater [.ref (gB G + 293), .int x, .int y, .int z, .int w, .int u] m Q := by
  refine WPM.of pX11 (Nat.le_of_ble_eq_true rfl) rfl ?_
  refine wp_aload_n dX11_addHeater_0 rfl ?_
  refine wp_iload_n dX11_addHeater_1 rfl ?_
  refine wp_callV (As := [.int x]) (S := []) (b' := (0, 0)) (b := (0, 0)) dX11_addHeater_2 MX11_93 (ka hF 293 (by decide)) rfl rfl rfl rfl (Nat.le_of_ble_eq_true rfl) ?_
  refine WPM.of pX11 (Nat.le_of_ble_eq_true rfl) rfl ?_
  refine wp_iload_n dX11_isNode_0 rfl ?_
  refine wp_iconst (0 : Int32) dX11_isNode_1 (by decide) ?_
  refine wp_aload_n dX11_isNode_2 rfl ?_
  refine wp_getr (gB G + 294) dX11_isNode_3 fX11_7 (ka hF 293 (by decide)) (hF.2 _ _) (rra 1 (isK_le (ka hF 293 (by decide))) (fun _ => rfl)) ?_
  refine wp_bipush (12 : Int32) dX11_isNode_6 (by decide) ?_
  refine wp_ialdk (n := 1486) 12 (nI n) dX11_isNode_8 (ka hF 294 (by decide)) (la 294) (vinl (by decide)) rfl hn ?_
  refine wp_iconst (1 : Int32) dX11_isNode_9 (by decide) ?_
  refine wp_isubv ((nI n) - (1 : Int32)) dX11_isNode_10 rfl ?_
  refine wp_callS (As := [.int x, .int (0 : Int32), .int ((nI n) - (1 : Int32))]) (S := []) (b' := (0, 0)) (b := (0, 0)) dX11_isNode_11 MX11_67 rfl rfl (Nat.le_of_ble_eq_true rfl) ?_
  refine WPM.of pX11 (Nat.le_of_ble_eq_true rfl) rfl ?_
  refine wp_iload_n dX11_isBetween_0 rfl ?_
  refine wp_iload_n dX11_isBetween_1 rfl ?_
  refine wp_icmp_lt 14 dX11_isBetween_2 (by decide) (fun q => absurd q hxa) (fun _ => ?_)
  refine wp_iload_n dX11_isBetween_5 rfl ?_
  refine wp_iload_n dX11_isBetween_6 rfl ?_
  refine wp_icmp_gt 14 dX11_isBetween_7 (by decide) (fun _ => ?_) (fun q => absurd (sub_lt (by omega) hxa hxb) q)
  refine wp_iconst (0 : Int32) dX11_isBetween_14 (by decide) ?_
  refine wp_zret dX11_isBetween_15 rfl rfl ?_
  show WP G (d + 5) (0, 0) μX11_isNode 14 [.ref (gB G + 293), .int x] [.int (0 : Int32)] m _
  refine wp_zret dX11_isNode_14 rfl rfl ?_
  show WP G (d + 6) (0, 0) μX11_addHeater 5 [.ref (gB G + 293), .int x, .int y, .int z, .int w, .int u, lvU, lvU, lvU] [.int (0 : Int32)] m _
  refine wp_if_ne 11 dX11_addHeater_5 (by decide) (fun q => absurd (by decide) q) (fun _ => ?_)
  refine wp_ldc dX11_addHeater_8 kX11_96 ?_
  exact wp_iret dX11_addHeater_10 rfl (e1)

theorem eC_rk {G : Cx} {d : Nat} {m : Mm} {Q : Option Value → Mm → Prop} {c n : Nat}  (hF : Full G m) (hc : IsC G c) (hn : n < 8) 
    (e1 : WP G (d + 2) (0, 0) μX0_rankHeater 4 [.ref c, .int (nI n), .int (0 : Int32), .int (0 : Int32)] [] m Q) :
    WPM G (d + 2) (0, 0) μX0_rankHeater [.ref c, .int (nI n)] m Q := by
  refine WPM.of pX0 (Nat.le_of_ble_eq_true rfl) rfl ?_
  refine wp_iconst (0 : Int32) dX0_rankHeater_0 (by decide) ?_
  refine wp_istore_n dX0_rankHeater_1 (by decide) rfl ?_
  refine wp_iconst (0 : Int32) dX0_rankHeater_2 (by decide) ?_
  refine wp_istore_n dX0_rankHeater_3 (by decide) rfl ?_
  refine wp_forget [.ref c, .int (nI n), .int (0 : Int32), .int (0 : Int32)] ⟨Or.inl rfl, Or.inl rfl, Or.inl rfl, Or.inl rfl, trivial⟩ ?_
  exact e1

theorem bC_rk {G : Cx} {d : Nat} {m : Mm} {Q : Option Value → Mm → Prop} {c n p j : Nat}  (hF : Full G m) (hc : IsC G c) (hn : n < 8) (hj : j < n) (hp : p ≤ j) 
    (e1 : (fi m 104 (ht c j)) < (fi m 104 (ht c n)) → WP G (d + 2) (0, 0) μX0_rankHeater 4 [.ref c, .int (nI n), .int (nI p), .int (nI (j + 1))] [] m Q)
    (e2 : ¬ (fi m 104 (ht c j)) < (fi m 104 (ht c n)) → WP G (d + 2) (0, 0) μX0_rankHeater 4 [.ref c, .int (nI n), .int (nI (p + 1)), .int (nI (j + 1))] [] m Q) :
    WP G (d + 2) (0, 0) μX0_rankHeater 4 [.ref c, .int (nI n), .int (nI p), .int (nI j)] [] m Q := by
  refine wp_iload_n dX0_rankHeater_4 rfl ?_
  refine wp_iload_n dX0_rankHeater_5 rfl ?_
  refine wp_icmp_ge 39 dX0_rankHeater_6 (by decide) (fun q => absurd (nlt_ (a := j) (b := n) hj (by omega)) q) (fun _ => ?_)
  refine wp_aload_n dX0_rankHeater_9 rfl ?_
  refine wp_getr (c + 4) dX0_rankHeater_10 fX0_31 (kc0 hF hc) (hF.2 _ _) (rra 4 (isK_le (kc0 hF hc)) (fun _ => rfl)) ?_
  refine wp_iload_n dX0_rankHeater_13 rfl ?_
  refine wp_raldk (n := 8) j (ht c j) dX0_rankHeater_14 (kc hF hc 4 (by decide)) (by decide) (by decide) (lc hc 4 (by decide)) (vin (by omega) (by decide)) (nIc (by omega)) (hF.2 _ _) (rht hF hc) ?_
  refine wp_geti (fi m 104 (ht c j)) dX0_rankHeater_15 fX0_126 (Or.inl rfl) (kht hF hc (by omega)) rfl ?_
  refine wp_aload_n dX0_rankHeater_18 rfl ?_
  refine wp_getr (c + 4) dX0_rankHeater_19 fX0_31 (kc0 hF hc) (hF.2 _ _) (rra 4 (isK_le (kc0 hF hc)) (fun _ => rfl)) ?_
  refine wp_iload_n dX0_rankHeater_22 rfl ?_
  refine wp_raldk (n := 8) n (ht c n) dX0_rankHeater_23 (kc hF hc 4 (by decide)) (by decide) (by decide) (lc hc 4 (by decide)) (vin (by omega) (by decide)) (nIc (by omega)) (hF.2 _ _) (rht hF hc) ?_
  refine wp_geti (fi m 104 (ht c n)) dX0_rankHeater_24 fX0_126 (Or.inl rfl) (kht hF hc (by omega)) rfl ?_
  refine wp_icmp_lt 33 dX0_rankHeater_27 (by decide) (fun q1 => ?_) (fun q2 => ?_)
  · skip
    refine wp_iinc (nI (j + 1)) dX0_rankHeater_33 rfl (by decide) (nadd (a := j) (b := 1) (by omega)) rfl ?_
    refine wp_goto 4 dX0_rankHeater_36 (by decide) ?_
    refine wp_forget [.ref c, .int (nI n), .int (nI p), .int (nI (j + 1))] ⟨Or.inl rfl, Or.inl rfl, Or.inl rfl, Or.inl rfl, trivial⟩ ?_
    exact e1 q1
  · skip
    refine wp_iinc (nI (p + 1)) dX0_rankHeater_30 rfl (by decide) (nadd (a := p) (b := 1) (by omega)) rfl ?_
    refine wp_iinc (nI (j + 1)) dX0_rankHeater_33 rfl (by decide) (nadd (a := j) (b := 1) (by omega)) rfl ?_
    refine wp_goto 4 dX0_rankHeater_36 (by decide) ?_
    refine wp_forget [.ref c, .int (nI n), .int (nI (p + 1)), .int (nI (j + 1))] ⟨Or.inl rfl, Or.inl rfl, Or.inl rfl, Or.inl rfl, trivial⟩ ?_
    exact e2 q2

theorem bC_rkx {G : Cx} {d : Nat} {m : Mm} {Q : Option Value → Mm → Prop} {c p r : Nat}  (hF : Full G m) (hc : IsC G c) (hn : p + r < 8) 
    (e1 : ∀ mc1 : Mm, Cpy m mc1 (c + 5) (c + 5) p (p + 1) r → Q none (wai mc1 (c + 5) p (nI (p + r)))) :
    WP G (d + 2) (0, 0) μX0_rankHeater 4 [.ref c, .int (nI (p + r)), .int (nI p), .int (nI (p + r))] [] m Q := by
  refine wp_iload_n dX0_rankHeater_4 rfl ?_
  refine wp_iload_n dX0_rankHeater_5 rfl ?_
  refine wp_icmp_ge 39 dX0_rankHeater_6 (by decide) (fun _ => ?_) (fun q => absurd q (nnlt (Nat.le_refl _) (by omega)))
  refine wp_aload_n dX0_rankHeater_39 rfl ?_
  refine wp_getr (c + 5) dX0_rankHeater_40 fX0_35 (kc0 hF hc) (hF.2 _ _) (rra 5 (isK_le (kc0 hF hc)) (fun _ => rfl)) ?_
  refine wp_iload_n dX0_rankHeater_43 rfl ?_
  refine wp_aload_n dX0_rankHeater_44 rfl ?_
  refine wp_getr (c + 5) dX0_rankHeater_45 fX0_35 (kc0 hF hc) (hF.2 _ _) (rra 5 (isK_le (kc0 hF hc)) (fun _ => rfl)) ?_
  refine wp_iload_n dX0_rankHeater_48 rfl ?_
  refine wp_iconst (1 : Int32) dX0_rankHeater_49 (by decide) ?_
  refine wp_iaddv (nI (p + 1)) dX0_rankHeater_50 (nadd (a := p) (b := 1) (by omega)) ?_
  refine wp_iload_n dX0_rankHeater_51 rfl ?_
  refine wp_iload_n dX0_rankHeater_52 rfl ?_
  refine wp_isubv (nI r) dX0_rankHeater_53 (nsub (a := p + r) (b := p) (by omega)) ?_
  refine wp_cpy (n0 := 8) (n1 := 8) p (p + 1) r dX0_rankHeater_54 YX0_129 (kc hF hc 5 (by decide)) (kc hF hc 5 (by decide)) (lc hc 5 (by decide)) (lc hc 5 (by decide)) (nI_pos (by omega)) (nI_pos (by omega)) (nI_pos (by omega)) (nIc (by omega)) (nIc (by omega)) (nIc (by omega)) (by omega) (by omega) (Nat.le_of_ble_eq_true rfl) ?_
  intro mc1 hm2
  have hF3 := hm2.full hF
  refine wp_aload_n dX0_rankHeater_57 rfl ?_
  refine wp_getr (c + 5) dX0_rankHeater_58 fX0_35 (kc0 hF3 hc) (hF3.2 _ _) (rra 5 (isK_le (kc0 hF3 hc)) (fun _ => rfl)) ?_
  refine wp_iload_n dX0_rankHeater_61 rfl ?_
  refine wp_iload_n dX0_rankHeater_62 rfl ?_
  refine wp_iastk (n := 8) p dX0_rankHeater_63 (kc hF3 hc 5 (by decide)) (lc hc 5 (by decide)) (vin (by omega) (by decide))  (nIc (by omega)) ?_
  have hF4 := Full_wai (c + 5) p (nI (p + r)) hF3
  exact wp_vret dX0_rankHeater_64 rfl (e1 mc1 hm2)

theorem eC_rr {G : Cx} {d : Nat} {m : Mm} {Q : Option Value → Mm → Prop}  (hF : Full G m) 
    (e1 : WP G (d + 3) (0, 0) μX10_resetRecords 23 [.ref (gB G), .int (fi m 601 ((gB G + 1) + 8)), .int (0 : Int32)] [] (wfl (wfl (wfl (wfi (wfi m 601 ((gB G + 1) + 8) (0 : Int32)) 602 ((gB G + 1) + 8) (0 : Int32)) 603 ((gB G + 1) + 8) (0 : Int64)) 604 ((gB G + 1) + 8) (0 : Int64)) 605 ((gB G + 1) + 8) (0 : Int64)) Q) :
    WPM G (d + 3) (0, 0) μX10_resetRecords [.ref (gB G)] m Q := by
  refine WPM.of pX10 (Nat.le_of_ble_eq_true rfl) rfl ?_
  refine wp_aload_n dX10_resetRecords_0 rfl ?_
  refine wp_getr (gB G + 1) dX10_resetRecords_1 fX10_10 (ka0 hF) (hF.2 _ _) (rra 1 (isK_le (ka0 hF)) (fun _ => rfl)) ?_
  refine wp_getr ((gB G + 1) + 8) dX10_resetRecords_4 fX10_213 (kc0 hF (isC1 G)) (hF.2 _ _) (rra 8 (isK_le (kc0 hF (isC1 G))) (fun _ => rfl)) ?_
  refine wp_geti (fi m 601 ((gB G + 1) + 8)) dX10_resetRecords_7 fX10_217 (Or.inl rfl) (kc hF (isC1 G) 8 (by decide)) rfl ?_
  refine wp_istore_n dX10_resetRecords_10 (by decide) rfl ?_
  refine wp_aload_n dX10_resetRecords_11 rfl ?_
  refine wp_getr (gB G + 1) dX10_resetRecords_12 fX10_10 (ka0 hF) (hF.2 _ _) (rra 1 (isK_le (ka0 hF)) (fun _ => rfl)) ?_
  refine wp_getr ((gB G + 1) + 8) dX10_resetRecords_15 fX10_213 (kc0 hF (isC1 G)) (hF.2 _ _) (rra 8 (isK_le (kc0 hF (isC1 G))) (fun _ => rfl)) ?_
  refine wp_callV (As := []) (S := []) (b' := (0, 0)) (b := (0, 0)) dX10_resetRecords_18 MX10_222 (kc hF (isC1 G) 8 (by decide)) rfl rfl rfl rfl (Nat.le_of_ble_eq_true rfl) ?_
  refine WPM.of pX6 (Nat.le_of_ble_eq_true rfl) rfl ?_
  refine wp_aload_n dX6_clear_0 rfl ?_
  refine wp_iconst (0 : Int32) dX6_clear_1 (by decide) ?_
  refine wp_puti dX6_clear_2 pX6_15 (kc hF (isC1 G) 8 (by decide)) ?_
  have hF1 := Full_wfi 601 ((gB G + 1) + 8) (0 : Int32) hF
  refine wp_aload_n dX6_clear_5 rfl ?_
  refine wp_iconst (0 : Int32) dX6_clear_6 (by decide) ?_
  refine wp_puti dX6_clear_7 pX6_19 (kc hF1 (isC1 G) 8 (by decide)) ?_
  have hF2 := Full_wfi 602 ((gB G + 1) + 8) (0 : Int32) hF1
  refine wp_aload_n dX6_clear_10 rfl ?_
  refine wp_lconst (0 : Int64) dX6_clear_11 (by decide) ?_
  refine wp_putl dX6_clear_12 pX6_22 (kc hF2 (isC1 G) 8 (by decide)) ?_
  have hF3 := Full_wfl 603 ((gB G + 1) + 8) (0 : Int64) hF2
  refine wp_aload_n dX6_clear_15 rfl ?_
  refine wp_lconst (0 : Int64) dX6_clear_16 (by decide) ?_
  refine wp_putl dX6_clear_17 pX6_26 (kc hF3 (isC1 G) 8 (by decide)) ?_
  have hF4 := Full_wfl 604 ((gB G + 1) + 8) (0 : Int64) hF3
  refine wp_aload_n dX6_clear_20 rfl ?_
  refine wp_lconst (0 : Int64) dX6_clear_21 (by decide) ?_
  refine wp_putl dX6_clear_22 pX6_29 (kc hF4 (isC1 G) 8 (by decide)) ?_
  have hF5 := Full_wfl 605 ((gB G + 1) + 8) (0 : Int64) hF4
  refine wp_vret dX6_clear_25 rfl ?_
  show WP G (d + 3) (0, 0) μX10_resetRecords 21 [.ref (gB G), .int (fi m 601 ((gB G + 1) + 8)), lvU] [] (wfl (wfl (wfl (wfi (wfi m 601 ((gB G + 1) + 8) (0 : Int32)) 602 ((gB G + 1) + 8) (0 : Int32)) 603 ((gB G + 1) + 8) (0 : Int64)) 604 ((gB G + 1) + 8) (0 : Int64)) 605 ((gB G + 1) + 8) (0 : Int64)) _
  refine wp_iconst (0 : Int32) dX10_resetRecords_21 (by decide) ?_
  refine wp_istore_n dX10_resetRecords_22 (by decide) rfl ?_
  refine wp_forget [.ref (gB G), .int (fi m 601 ((gB G + 1) + 8)), .int (0 : Int32)] ⟨Or.inl rfl, Or.inl rfl, Or.inl rfl, trivial⟩ ?_
  exact e1

theorem bC_rr {G : Cx} {d : Nat} {m : Mm} {Q : Option Value → Mm → Prop} {r : Int32} {j n : Nat}  (hF : Full G m) (hn : fi m 5 (gB G + 1) = nI n) (hm : n ≤ 12) (hj : j ≤ n) 
    (e1 : ¬ j < n → Q (some (.int r)) m)
    (e2 : j < n → WP G (d + 3) (0, 0) μX10_resetRecords 23 [.ref (gB G), .int r, .int (nI (j + 1))] [] (wfi (wfi (wfi (wfi m 407 (nd (gB G + 1) j) (fi m 401 (nd (gB G + 1) j))) 408 (nd (gB G + 1) j) (fi m 401 (nd (gB G + 1) j))) 409 (nd (gB G + 1) j) (0 : Int32)) 410 (nd (gB G + 1) j) (-1 : Int32)) Q) :
    WP G (d + 3) (0, 0) μX10_resetRecords 23 [.ref (gB G), .int r, .int (nI j)] [] m Q := by
  refine wp_iload_n dX10_resetRecords_23 rfl ?_
  refine wp_aload_n dX10_resetRecords_24 rfl ?_
  refine wp_getr (gB G + 1) dX10_resetRecords_25 fX10_10 (ka0 hF) (hF.2 _ _) (rra 1 (isK_le (ka0 hF)) (fun _ => rfl)) ?_
  refine wp_geti (nI n) dX10_resetRecords_28 fX10_43 (Or.inl rfl) (kc0 hF (isC1 G)) hn ?_
  refine wp_icmp_ge 52 dX10_resetRecords_31 (by decide) (fun q1 => ?_) (fun q2 => ?_)
  · have hp3 : ¬ j < n := (fun z => q1 (nlt_ (b := n) z (by omega)))
    refine wp_iload_n dX10_resetRecords_52 rfl ?_
    exact wp_iret dX10_resetRecords_53 rfl (e1 hp3)
  · have hp4 : j < n := (nlt q2 (by omega) (by omega))
    refine wp_aload_n dX10_resetRecords_34 rfl ?_
    refine wp_getr (gB G + 1) dX10_resetRecords_35 fX10_10 (ka0 hF) (hF.2 _ _) (rra 1 (isK_le (ka0 hF)) (fun _ => rfl)) ?_
    refine wp_getr ((gB G + 1) + 1) dX10_resetRecords_38 fX10_48 (kc0 hF (isC1 G)) (hF.2 _ _) (rra 1 (isK_le (kc0 hF (isC1 G))) (fun _ => rfl)) ?_
    refine wp_iload_n dX10_resetRecords_41 rfl ?_
    refine wp_raldk (n := 12) j (nd (gB G + 1) j) dX10_resetRecords_42 (kc hF (isC1 G) 1 (by decide)) (by decide) (by decide) (lc (isC1 G) 1 (by decide)) (vin (by omega) (by decide)) (nIc (by omega)) (hF.2 _ _) (rnd hF (isC1 G)) ?_
    refine wp_callV (As := []) (S := []) (b' := (0, 0)) (b := (0, 0)) dX10_resetRecords_43 MX10_225 (knd hF (isC1 G) (by omega)) rfl rfl rfl rfl (Nat.le_of_ble_eq_true rfl) ?_
    refine WPM.of pX4 (Nat.le_of_ble_eq_true rfl) rfl ?_
    refine wp_aload_n dX4_beginRecords_0 rfl ?_
    refine wp_aload_n dX4_beginRecords_1 rfl ?_
    refine wp_geti (fi m 401 (nd (gB G + 1) j)) dX4_beginRecords_2 fX4_15 (Or.inl rfl) (knd hF (isC1 G) (by omega)) rfl ?_
    refine wp_puti dX4_beginRecords_5 pX4_38 (knd hF (isC1 G) (by omega)) ?_
    have hF5 := Full_wfi 407 (nd (gB G + 1) j) (fi m 401 (nd (gB G + 1) j)) hF
    refine wp_aload_n dX4_beginRecords_8 rfl ?_
    refine wp_aload_n dX4_beginRecords_9 rfl ?_
    refine wp_geti (fi m 401 (nd (gB G + 1) j)) dX4_beginRecords_10 fX4_15 (Or.inl rfl) (knd hF5 (isC1 G) (by omega)) (fi_ne (by decide)) ?_
    refine wp_puti dX4_beginRecords_13 pX4_41 (knd hF5 (isC1 G) (by omega)) ?_
    have hF6 := Full_wfi 408 (nd (gB G + 1) j) (fi m 401 (nd (gB G + 1) j)) hF5
    refine wp_aload_n dX4_beginRecords_16 rfl ?_
    refine wp_iconst (0 : Int32) dX4_beginRecords_17 (by decide) ?_
    refine wp_puti dX4_beginRecords_18 pX4_44 (knd hF6 (isC1 G) (by omega)) ?_
    have hF7 := Full_wfi 409 (nd (gB G + 1) j) (0 : Int32) hF6
    refine wp_aload_n dX4_beginRecords_21 rfl ?_
    refine wp_iconst (-1 : Int32) dX4_beginRecords_22 (by decide) ?_
    refine wp_puti dX4_beginRecords_23 pX4_47 (knd hF7 (isC1 G) (by omega)) ?_
    have hF8 := Full_wfi 410 (nd (gB G + 1) j) (-1 : Int32) hF7
    refine wp_vret dX4_beginRecords_26 rfl ?_
    show WP G (d + 3) (0, 0) μX10_resetRecords 46 [.ref (gB G), .int r, .int (nI j)] [] (wfi (wfi (wfi (wfi m 407 (nd (gB G + 1) j) (fi m 401 (nd (gB G + 1) j))) 408 (nd (gB G + 1) j) (fi m 401 (nd (gB G + 1) j))) 409 (nd (gB G + 1) j) (0 : Int32)) 410 (nd (gB G + 1) j) (-1 : Int32)) _
    refine wp_iinc (nI (j + 1)) dX10_resetRecords_46 rfl (by decide) (nadd (a := j) (b := 1) (by omega)) rfl ?_
    refine wp_goto 23 dX10_resetRecords_49 (by decide) ?_
    refine wp_forget [.ref (gB G), .int r, .int (nI (j + 1))] ⟨Or.inl rfl, Or.inl rfl, Or.inl rfl, trivial⟩ ?_
    exact e2 hp4

theorem eM_rr {G : Cx} {d : Nat} {m : Mm} {Q : Option Value → Mm → Prop}  (hF : Full G m) 
    (e1 : WP G (d + 3) (0, 0) μX11_resetRecords 10 [.ref (gB G + 293), .int (ai m (gB G + 294) 16), .int (0 : Int32)] [] m Q) :
    WPM G (d + 3) (0, 0) μX11_resetRecords [.ref (gB G + 293)] m Q := by
  refine WPM.of pX11 (Nat.le_of_ble_eq_true rfl) rfl ?_
  refine wp_aload_n dX11_resetRecords_0 rfl ?_
  refine wp_getr (gB G + 294) dX11_resetRecords_1 fX11_7 (ka hF 293 (by decide)) (hF.2 _ _) (rra 1 (isK_le (ka hF 293 (by decide))) (fun _ => rfl)) ?_
  refine wp_bipush (16 : Int32) dX11_resetRecords_4 (by decide) ?_
  refine wp_ialdk (n := 1486) 16 (ai m (gB G + 294) 16) dX11_resetRecords_6 (ka hF 294 (by decide)) (la 294) (vinl (by decide)) rfl rfl ?_
  refine wp_istore_n dX11_resetRecords_7 (by decide) rfl ?_
  refine wp_iconst (0 : Int32) dX11_resetRecords_8 (by decide) ?_
  refine wp_istore_n dX11_resetRecords_9 (by decide) rfl ?_
  refine wp_forget [.ref (gB G + 293), .int (ai m (gB G + 294) 16), .int (0 : Int32)] ⟨Or.inl rfl, Or.inl rfl, Or.inl rfl, trivial⟩ ?_
  exact e1

theorem bM_rr {G : Cx} {d : Nat} {m : Mm} {Q : Option Value → Mm → Prop} {r : Int32} {j n : Nat}  (hF : Full G m) (hn : ai m (gB G + 294) 12 = nI n) (hm : n ≤ 12) (hj : j ≤ n) 
    (e1 : ¬ j < n → WP G (d + 3) (0, 0) μX11_resetRecords 50 [.ref (gB G + 293), .int r, .int (0 : Int32)] [] (wai (wai m (gB G + 294) 16 (0 : Int32)) (gB G + 294) 17 (0 : Int32)) Q)
    (e2 : j < n → WP G (d + 3) (0, 0) μX11_resetRecords 10 [.ref (gB G + 293), .int r, .int (nI (j + 1))] [] (wai (wai (wai (wai m (gB G + 294) (11 * j + 27) (ai m (gB G + 294) (11 * j + 21))) (gB G + 294) (11 * j + 28) (ai m (gB G + 294) (11 * j + 21))) (gB G + 294) (11 * j + 29) (0 : Int32)) (gB G + 294) (11 * j + 30) (-1 : Int32)) Q) :
    WP G (d + 3) (0, 0) μX11_resetRecords 10 [.ref (gB G + 293), .int r, .int (nI j)] [] m Q := by
  refine wp_iload_n dX11_resetRecords_10 rfl ?_
  refine wp_aload_n dX11_resetRecords_11 rfl ?_
  refine wp_getr (gB G + 294) dX11_resetRecords_12 fX11_7 (ka hF 293 (by decide)) (hF.2 _ _) (rra 1 (isK_le (ka hF 293 (by decide))) (fun _ => rfl)) ?_
  refine wp_bipush (12 : Int32) dX11_resetRecords_15 (by decide) ?_
  refine wp_ialdk (n := 1486) 12 (nI n) dX11_resetRecords_17 (ka hF 294 (by decide)) (la 294) (vinl (by decide)) rfl hn ?_
  refine wp_icmp_ge 32 dX11_resetRecords_18 (by decide) (fun q1 => ?_) (fun q2 => ?_)
  · have hp3 : ¬ j < n := (fun z => q1 (nlt_ (b := n) z (by omega)))
    refine wp_aload_n dX11_resetRecords_32 rfl ?_
    refine wp_getr (gB G + 294) dX11_resetRecords_33 fX11_7 (ka hF 293 (by decide)) (hF.2 _ _) (rra 1 (isK_le (ka hF 293 (by decide))) (fun _ => rfl)) ?_
    refine wp_bipush (16 : Int32) dX11_resetRecords_36 (by decide) ?_
    refine wp_iconst (0 : Int32) dX11_resetRecords_38 (by decide) ?_
    refine wp_iastk (n := 1486) 16 dX11_resetRecords_39 (ka hF 294 (by decide)) (la 294) (vinl (by decide))  rfl ?_
    have hF4 := Full_wai (gB G + 294) 16 (0 : Int32) hF
    refine wp_aload_n dX11_resetRecords_40 rfl ?_
    refine wp_getr (gB G + 294) dX11_resetRecords_41 fX11_7 (ka hF4 293 (by decide)) (hF4.2 _ _) (rra 1 (isK_le (ka hF4 293 (by decide))) (fun _ => rfl)) ?_
    refine wp_bipush (17 : Int32) dX11_resetRecords_44 (by decide) ?_
    refine wp_iconst (0 : Int32) dX11_resetRecords_46 (by decide) ?_
    refine wp_iastk (n := 1486) 17 dX11_resetRecords_47 (ka hF4 294 (by decide)) (la 294) (vinl (by decide))  rfl ?_
    have hF5 := Full_wai (gB G + 294) 17 (0 : Int32) hF4
    refine wp_iconst (0 : Int32) dX11_resetRecords_48 (by decide) ?_
    refine wp_istore_n dX11_resetRecords_49 (by decide) rfl ?_
    refine wp_forget [.ref (gB G + 293), .int r, .int (0 : Int32)] ⟨Or.inl rfl, Or.inl rfl, Or.inl rfl, trivial⟩ ?_
    exact e1 hp3
  · have hp6 : j < n := (nlt q2 (by omega) (by omega))
    refine wp_aload_n dX11_resetRecords_21 rfl ?_
    refine wp_iload_n dX11_resetRecords_22 rfl ?_
    refine wp_callV (As := [.int (nI j)]) (S := []) (b' := (0, 0)) (b := (0, 0)) dX11_resetRecords_23 MX11_85 (ka hF 293 (by decide)) rfl rfl rfl rfl (Nat.le_of_ble_eq_true rfl) ?_
    refine WPM.of pX11 (Nat.le_of_ble_eq_true rfl) rfl ?_
    refine wp_aload_n dX11_beginRecords_0 rfl ?_
    refine wp_iload_n dX11_beginRecords_1 rfl ?_
    refine wp_bipush (7 : Int32) dX11_beginRecords_2 (by decide) ?_
    refine wp_aload_n dX11_beginRecords_4 rfl ?_
    refine wp_iload_n dX11_beginRecords_5 rfl ?_
    refine wp_iconst (1 : Int32) dX11_beginRecords_6 (by decide) ?_
    refine wp_callV (As := [.int (nI j), .int (1 : Int32)]) (S := [.int (7 : Int32), .int (nI j), .ref (gB G + 293)]) (b' := (0, 0)) (b := (0, 0)) dX11_beginRecords_7 MX11_89 (ka hF 293 (by decide)) rfl rfl rfl rfl (Nat.le_of_ble_eq_true rfl) ?_
    refine WPM.of pX11 (Nat.le_of_ble_eq_true rfl) rfl ?_
    refine wp_aload_n dX11_node_0 rfl ?_
    refine wp_getr (gB G + 294) dX11_node_1 fX11_7 (ka hF 293 (by decide)) (hF.2 _ _) (rra 1 (isK_le (ka hF 293 (by decide))) (fun _ => rfl)) ?_
    refine wp_bipush (20 : Int32) dX11_node_4 (by decide) ?_
    refine wp_bipush (11 : Int32) dX11_node_6 (by decide) ?_
    refine wp_iload_n dX11_node_8 rfl ?_
    refine wp_imulv (nI (11 * j)) dX11_node_9 (nmul (a := 11) (b := j) (by omega)) ?_
    refine wp_iaddv (nI (11 * j + 20)) dX11_node_10 (nadd (a := 20) (b := 11 * j) (by omega)) ?_
    refine wp_iload_n dX11_node_11 rfl ?_
    refine wp_iaddv (nI (11 * j + 21)) dX11_node_12 (nadd (a := 11 * j + 20) (b := 1) (by omega)) ?_
    refine wp_ialdk (n := 1486) (11 * j + 21) (ai m (gB G + 294) (11 * j + 21)) dX11_node_13 (ka hF 294 (by decide)) (la 294) (vin (by omega) (by decide)) (nIc (by omega)) rfl ?_
    refine wp_iret dX11_node_14 rfl ?_
    show WP G (d + 2) (0, 0) μX11_beginRecords 10 [.ref (gB G + 293), .int (nI j)] [.int (ai m (gB G + 294) (11 * j + 21)), .int (7 : Int32), .int (nI j), .ref (gB G + 293)] m _
    refine wp_callV (As := [.int (nI j), .int (7 : Int32), .int (ai m (gB G + 294) (11 * j + 21))]) (S := []) (b' := (0, 0)) (b := (0, 0)) dX11_beginRecords_10 MX11_81 (ka hF 293 (by decide)) rfl rfl rfl rfl (Nat.le_of_ble_eq_true rfl) ?_
    refine WPM.of pX11 (Nat.le_of_ble_eq_true rfl) rfl ?_
    refine wp_aload_n dX11_setNode_0 rfl ?_
    refine wp_getr (gB G + 294) dX11_setNode_1 fX11_7 (ka hF 293 (by decide)) (hF.2 _ _) (rra 1 (isK_le (ka hF 293 (by decide))) (fun _ => rfl)) ?_
    refine wp_bipush (20 : Int32) dX11_setNode_4 (by decide) ?_
    refine wp_bipush (11 : Int32) dX11_setNode_6 (by decide) ?_
    refine wp_iload_n dX11_setNode_8 rfl ?_
    refine wp_imulv (nI (11 * j)) dX11_setNode_9 (nmul (a := 11) (b := j) (by omega)) ?_
    refine wp_iaddv (nI (11 * j + 20)) dX11_setNode_10 (nadd (a := 20) (b := 11 * j) (by omega)) ?_
    refine wp_iload_n dX11_setNode_11 rfl ?_
    refine wp_iaddv (nI (11 * j + 27)) dX11_setNode_12 (nadd (a := 11 * j + 20) (b := 7) (by omega)) ?_
    refine wp_iload_n dX11_setNode_13 rfl ?_
    refine wp_iastk (n := 1486) (11 * j + 27) dX11_setNode_14 (ka hF 294 (by decide)) (la 294) (vin (by omega) (by decide))  (nIc (by omega)) ?_
    have hF7 := Full_wai (gB G + 294) (11 * j + 27) (ai m (gB G + 294) (11 * j + 21)) hF
    refine wp_vret dX11_setNode_15 rfl ?_
    show WP G (d + 2) (0, 0) μX11_beginRecords 13 [.ref (gB G + 293), .int (nI j)] [] (wai m (gB G + 294) (11 * j + 27) (ai m (gB G + 294) (11 * j + 21))) _
    refine wp_aload_n dX11_beginRecords_13 rfl ?_
    refine wp_iload_n dX11_beginRecords_14 rfl ?_
    refine wp_bipush (8 : Int32) dX11_beginRecords_15 (by decide) ?_
    refine wp_aload_n dX11_beginRecords_17 rfl ?_
    refine wp_iload_n dX11_beginRecords_18 rfl ?_
    refine wp_iconst (1 : Int32) dX11_beginRecords_19 (by decide) ?_
    refine wp_callV (As := [.int (nI j), .int (1 : Int32)]) (S := [.int (8 : Int32), .int (nI j), .ref (gB G + 293)]) (b' := (0, 0)) (b := (0, 0)) dX11_beginRecords_20 MX11_89 (ka hF7 293 (by decide)) rfl rfl rfl rfl (Nat.le_of_ble_eq_true rfl) ?_
    refine WPM.of pX11 (Nat.le_of_ble_eq_true rfl) rfl ?_
    refine wp_aload_n dX11_node_0 rfl ?_
    refine wp_getr (gB G + 294) dX11_node_1 fX11_7 (ka hF7 293 (by decide)) (hF7.2 _ _) (rra 1 (isK_le (ka hF7 293 (by decide))) (fun _ => rfl)) ?_
    refine wp_bipush (20 : Int32) dX11_node_4 (by decide) ?_
    refine wp_bipush (11 : Int32) dX11_node_6 (by decide) ?_
    refine wp_iload_n dX11_node_8 rfl ?_
    refine wp_imulv (nI (11 * j)) dX11_node_9 (nmul (a := 11) (b := j) (by omega)) ?_
    refine wp_iaddv (nI (11 * j + 20)) dX11_node_10 (nadd (a := 20) (b := 11 * j) (by omega)) ?_
    refine wp_iload_n dX11_node_11 rfl ?_
    refine wp_iaddv (nI (11 * j + 21)) dX11_node_12 (nadd (a := 11 * j + 20) (b := 1) (by omega)) ?_
    refine wp_ialdk (n := 1486) (11 * j + 21) (ai m (gB G + 294) (11 * j + 21)) dX11_node_13 (ka hF7 294 (by decide)) (la 294) (vin (by omega) (by decide)) (nIc (by omega)) (ai_nk (by omega)) ?_
    refine wp_iret dX11_node_14 rfl ?_
    show WP G (d + 2) (0, 0) μX11_beginRecords 23 [.ref (gB G + 293), .int (nI j)] [.int (ai m (gB G + 294) (11 * j + 21)), .int (8 : Int32), .int (nI j), .ref (gB G + 293)] (wai m (gB G + 294) (11 * j + 27) (ai m (gB G + 294) (11 * j + 21))) _
    refine wp_callV (As := [.int (nI j), .int (8 : Int32), .int (ai m (gB G + 294) (11 * j + 21))]) (S := []) (b' := (0, 0)) (b := (0, 0)) dX11_beginRecords_23 MX11_81 (ka hF7 293 (by decide)) rfl rfl rfl rfl (Nat.le_of_ble_eq_true rfl) ?_
    refine WPM.of pX11 (Nat.le_of_ble_eq_true rfl) rfl ?_
    refine wp_aload_n dX11_setNode_0 rfl ?_
    refine wp_getr (gB G + 294) dX11_setNode_1 fX11_7 (ka hF7 293 (by decide)) (hF7.2 _ _) (rra 1 (isK_le (ka hF7 293 (by decide))) (fun _ => rfl)) ?_
    refine wp_bipush (20 : Int32) dX11_setNode_4 (by decide) ?_
    refine wp_bipush (11 : Int32) dX11_setNode_6 (by decide) ?_
    refine wp_iload_n dX11_setNode_8 rfl ?_
    refine wp_imulv (nI (11 * j)) dX11_setNode_9 (nmul (a := 11) (b := j) (by omega)) ?_
    refine wp_iaddv (nI (11 * j + 20)) dX11_setNode_10 (nadd (a := 20) (b := 11 * j) (by omega)) ?_
    refine wp_iload_n dX11_setNode_11 rfl ?_
    refine wp_iaddv (nI (11 * j + 28)) dX11_setNode_12 (nadd (a := 11 * j + 20) (b := 8) (by omega)) ?_
    refine wp_iload_n dX11_setNode_13 rfl ?_
    refine wp_iastk (n := 1486) (11 * j + 28) dX11_setNode_14 (ka hF7 294 (by decide)) (la 294) (vin (by omega) (by decide))  (nIc (by omega)) ?_
    have hF8 := Full_wai (gB G + 294) (11 * j + 28) (ai m (gB G + 294) (11 * j + 21)) hF7
    refine wp_vret dX11_setNode_15 rfl ?_
    show WP G (d + 2) (0, 0) μX11_beginRecords 26 [.ref (gB G + 293), .int (nI j)] [] (wai (wai m (gB G + 294) (11 * j + 27) (ai m (gB G + 294) (11 * j + 21))) (gB G + 294) (11 * j + 28) (ai m (gB G + 294) (11 * j + 21))) _
    refine wp_aload_n dX11_beginRecords_26 rfl ?_
    refine wp_iload_n dX11_beginRecords_27 rfl ?_
    refine wp_bipush (9 : Int32) dX11_beginRecords_28 (by decide) ?_
    refine wp_iconst (0 : Int32) dX11_beginRecords_30 (by decide) ?_
    refine wp_callV (As := [.int (nI j), .int (9 : Int32), .int (0 : Int32)]) (S := []) (b' := (0, 0)) (b := (0, 0)) dX11_beginRecords_31 MX11_81 (ka hF8 293 (by decide)) rfl rfl rfl rfl (Nat.le_of_ble_eq_true rfl) ?_
    refine WPM.of pX11 (Nat.le_of_ble_eq_true rfl) rfl ?_
    refine wp_aload_n dX11_setNode_0 rfl ?_
    refine wp_getr (gB G + 294) dX11_setNode_1 fX11_7 (ka hF8 293 (by decide)) (hF8.2 _ _) (rra 1 (isK_le (ka hF8 293 (by decide))) (fun _ => rfl)) ?_
    refine wp_bipush (20 : Int32) dX11_setNode_4 (by decide) ?_
    refine wp_bipush (11 : Int32) dX11_setNode_6 (by decide) ?_
    refine wp_iload_n dX11_setNode_8 rfl ?_
    refine wp_imulv (nI (11 * j)) dX11_setNode_9 (nmul (a := 11) (b := j) (by omega)) ?_
    refine wp_iaddv (nI (11 * j + 20)) dX11_setNode_10 (nadd (a := 20) (b := 11 * j) (by omega)) ?_
    refine wp_iload_n dX11_setNode_11 rfl ?_
    refine wp_iaddv (nI (11 * j + 29)) dX11_setNode_12 (nadd (a := 11 * j + 20) (b := 9) (by omega)) ?_
    refine wp_iload_n dX11_setNode_13 rfl ?_
    refine wp_iastk (n := 1486) (11 * j + 29) dX11_setNode_14 (ka hF8 294 (by decide)) (la 294) (vin (by omega) (by decide))  (nIc (by omega)) ?_
    have hF9 := Full_wai (gB G + 294) (11 * j + 29) (0 : Int32) hF8
    refine wp_vret dX11_setNode_15 rfl ?_
    show WP G (d + 2) (0, 0) μX11_beginRecords 34 [.ref (gB G + 293), .int (nI j)] [] (wai (wai (wai m (gB G + 294) (11 * j + 27) (ai m (gB G + 294) (11 * j + 21))) (gB G + 294) (11 * j + 28) (ai m (gB G + 294) (11 * j + 21))) (gB G + 294) (11 * j + 29) (0 : Int32)) _
    refine wp_aload_n dX11_beginRecords_34 rfl ?_
    refine wp_iload_n dX11_beginRecords_35 rfl ?_
    refine wp_bipush (10 : Int32) dX11_beginRecords_36 (by decide) ?_
    refine wp_iconst (-1 : Int32) dX11_beginRecords_38 (by decide) ?_
    refine wp_callV (As := [.int (nI j), .int (10 : Int32), .int (-1 : Int32)]) (S := []) (b' := (0, 0)) (b := (0, 0)) dX11_beginRecords_39 MX11_81 (ka hF9 293 (by decide)) rfl rfl rfl rfl (Nat.le_of_ble_eq_true rfl) ?_
    refine WPM.of pX11 (Nat.le_of_ble_eq_true rfl) rfl ?_
    refine wp_aload_n dX11_setNode_0 rfl ?_
    refine wp_getr (gB G + 294) dX11_setNode_1 fX11_7 (ka hF9 293 (by decide)) (hF9.2 _ _) (rra 1 (isK_le (ka hF9 293 (by decide))) (fun _ => rfl)) ?_
    refine wp_bipush (20 : Int32) dX11_setNode_4 (by decide) ?_
    refine wp_bipush (11 : Int32) dX11_setNode_6 (by decide) ?_
    refine wp_iload_n dX11_setNode_8 rfl ?_
    refine wp_imulv (nI (11 * j)) dX11_setNode_9 (nmul (a := 11) (b := j) (by omega)) ?_
    refine wp_iaddv (nI (11 * j + 20)) dX11_setNode_10 (nadd (a := 20) (b := 11 * j) (by omega)) ?_
    refine wp_iload_n dX11_setNode_11 rfl ?_
    refine wp_iaddv (nI (11 * j + 30)) dX11_setNode_12 (nadd (a := 11 * j + 20) (b := 10) (by omega)) ?_
    refine wp_iload_n dX11_setNode_13 rfl ?_
    refine wp_iastk (n := 1486) (11 * j + 30) dX11_setNode_14 (ka hF9 294 (by decide)) (la 294) (vin (by omega) (by decide))  (nIc (by omega)) ?_
    have hF10 := Full_wai (gB G + 294) (11 * j + 30) (-1 : Int32) hF9
    refine wp_vret dX11_setNode_15 rfl ?_
    show WP G (d + 2) (0, 0) μX11_beginRecords 42 [.ref (gB G + 293), .int (nI j)] [] (wai (wai (wai (wai m (gB G + 294) (11 * j + 27) (ai m (gB G + 294) (11 * j + 21))) (gB G + 294) (11 * j + 28) (ai m (gB G + 294) (11 * j + 21))) (gB G + 294) (11 * j + 29) (0 : Int32)) (gB G + 294) (11 * j + 30) (-1 : Int32)) _
    refine wp_vret dX11_beginRecords_42 rfl ?_
    show WP G (d + 3) (0, 0) μX11_resetRecords 26 [.ref (gB G + 293), .int r, .int (nI j)] [] (wai (wai (wai (wai m (gB G + 294) (11 * j + 27) (ai m (gB G + 294) (11 * j + 21))) (gB G + 294) (11 * j + 28) (ai m (gB G + 294) (11 * j + 21))) (gB G + 294) (11 * j + 29) (0 : Int32)) (gB G + 294) (11 * j + 30) (-1 : Int32)) _
    refine wp_iinc (nI (j + 1)) dX11_resetRecords_26 rfl (by decide) (nadd (a := j) (b := 1) (by omega)) rfl ?_
    refine wp_goto 10 dX11_resetRecords_29 (by decide) ?_
    refine wp_forget [.ref (gB G + 293), .int r, .int (nI (j + 1))] ⟨Or.inl rfl, Or.inl rfl, Or.inl rfl, trivial⟩ ?_
    exact e2 hp6

theorem bM_rr2 {G : Cx} {d : Nat} {m : Mm} {Q : Option Value → Mm → Prop} {r : Int32} {j : Nat}  (hF : Full G m) (hj : j ≤ 3) 
    (e1 : ¬ j < 3 → Q (some (.int r)) m)
    (e2 : j < 3 → WP G (d + 3) (0, 0) μX11_resetRecords 50 [.ref (gB G + 293), .int r, .int (nI (j + 1))] [] (wal m (gB G + 297) j (0 : Int64)) Q) :
    WP G (d + 3) (0, 0) μX11_resetRecords 50 [.ref (gB G + 293), .int r, .int (nI j)] [] m Q := by
  refine wp_iload_n dX11_resetRecords_50 rfl ?_
  refine wp_iconst (3 : Int32) dX11_resetRecords_51 (by decide) ?_
  refine wp_icmp_ge 68 dX11_resetRecords_52 (by decide) (fun q1 => ?_) (fun q2 => ?_)
  · have hp3 : ¬ j < 3 := (fun z => q1 (nlt_ (b := 3) z (by omega)))
    refine wp_iload_n dX11_resetRecords_68 rfl ?_
    exact wp_iret dX11_resetRecords_69 rfl (e1 hp3)
  · have hp4 : j < 3 := (nlt q2 (by omega) (by omega))
    refine wp_aload_n dX11_resetRecords_55 rfl ?_
    refine wp_getr (gB G + 297) dX11_resetRecords_56 fX11_19 (ka hF 293 (by decide)) (hF.2 _ _) (rra 4 (isK_le (ka hF 293 (by decide))) (fun _ => rfl)) ?_
    refine wp_iload_n dX11_resetRecords_59 rfl ?_
    refine wp_lconst (0 : Int64) dX11_resetRecords_60 (by decide) ?_
    refine wp_lastk (n := 3) j dX11_resetRecords_61 (ka hF 297 (by decide)) (la 297) (vin (by omega) (by decide))  (nIc (by omega)) ?_
    have hF5 := Full_wal (gB G + 297) j (0 : Int64) hF
    refine wp_iinc (nI (j + 1)) dX11_resetRecords_62 rfl (by decide) (nadd (a := j) (b := 1) (by omega)) rfl ?_
    refine wp_goto 50 dX11_resetRecords_65 (by decide) ?_
    refine wp_forget [.ref (gB G + 293), .int r, .int (nI (j + 1))] ⟨Or.inl rfl, Or.inl rfl, Or.inl rfl, trivial⟩ ?_
    exact e2 hp4

theorem eC_at {G : Cx} {d : Nat} {m : Mm} {Q : Option Value → Mm → Prop} {x : Int32} {n : Nat}  (hF : Full G m) (hn : fi m 701 (gB G + 279) = nI n) (hm : n ≤ 500) 
    (e1 : ¬ 500 < n + 4 → WP G (d + 1) (0, 0) μX10_appendText 21 [.ref (gB G), .int x, .int (24 : Int32)] [] m Q)
    (e2 : 500 < n + 4 → Q (some (.int (-1000000003 : Int32))) m) :
    WPM G (d + 1) (0, 0) μX10_appendText [.ref (gB G), .int x] m Q := by
  refine WPM.of pX10 (Nat.le_of_ble_eq_true rfl) rfl ?_
  refine wp_aload_n dX10_appendText_0 rfl ?_
  refine wp_getr (gB G + 279) dX10_appendText_1 fX10_30 (ka0 hF) (hF.2 _ _) (rra 279 (isK_le (ka0 hF)) (fun _ => rfl)) ?_
  refine wp_geti (nI n) dX10_appendText_4 fX10_282 (Or.inl rfl) (ka hF 279 (by decide)) hn ?_
  refine wp_iconst (4 : Int32) dX10_appendText_7 (by decide) ?_
  refine wp_iaddv (nI (n + 4)) dX10_appendText_8 (nadd (a := n) (b := 4) (by omega)) ?_
  refine wp_sipush (500 : Int32) dX10_appendText_9 (by decide) ?_
  refine wp_icmp_le 18 dX10_appendText_12 (by decide) (fun q1 => ?_) (fun q2 => ?_)
  · have hp3 : ¬ 500 < n + 4 := (fun z => q1 (nlt_ (b := n + 4) z (by omega)))
    refine wp_bipush (24 : Int32) dX10_appendText_18 (by decide) ?_
    refine wp_istore_n dX10_appendText_20 (by decide) rfl ?_
    refine wp_forget [.ref (gB G), .int x, .int (24 : Int32)] ⟨Or.inl rfl, Or.inl rfl, Or.inl rfl, trivial⟩ ?_
    exact e1 hp3
  · have hp4 : 500 < n + 4 := (nlt q2 (by omega) (by omega))
    refine wp_ldc dX10_appendText_15 kX10_47 ?_
    exact wp_iret dX10_appendText_17 rfl (e2 hp4)

theorem bC_at32 {G : Cx} {d : Nat} {m : Mm} {Q : Option Value → Mm → Prop} {x : Int32} {n : Nat}  (hF : Full G m) (hn : fi m 701 (gB G + 279) = nI n) (hm : n < 500) 
    (e1 : WP G (d + 1) (0, 0) μX10_appendText 21 [.ref (gB G), .int x, .int (16 : Int32)] [] (wfi (wai m (gB G + 280) n (Int8.toInt32 (Int32.toInt8 (Int8.toInt32 (Int32.toInt8 (x >>> ((24 : Int32) &&& 31))))))) 701 (gB G + 279) (nI (n + 1))) Q) :
    WP G (d + 1) (0, 0) μX10_appendText 21 [.ref (gB G), .int x, .int (24 : Int32)] [] m Q := by
  refine wp_iload_n dX10_appendText_21 rfl ?_
  refine wp_if_lt 63 dX10_appendText_22 (by decide) (fun q => absurd q (by decide)) (fun _ => ?_)
  refine wp_aload_n dX10_appendText_25 rfl ?_
  refine wp_getr (gB G + 279) dX10_appendText_26 fX10_30 (ka0 hF) (hF.2 _ _) (rra 279 (isK_le (ka0 hF)) (fun _ => rfl)) ?_
  refine wp_getr (gB G + 280) dX10_appendText_29 fX10_285 (ka hF 279 (by decide)) (hF.2 _ _) (rra 1 (isK_le (ka hF 279 (by decide))) (fun _ => rfl)) ?_
  refine wp_aload_n dX10_appendText_32 rfl ?_
  refine wp_getr (gB G + 279) dX10_appendText_33 fX10_30 (ka0 hF) (hF.2 _ _) (rra 279 (isK_le (ka0 hF)) (fun _ => rfl)) ?_
  refine wp_geti (nI n) dX10_appendText_36 fX10_282 (Or.inl rfl) (ka hF 279 (by decide)) hn ?_
  refine wp_iload_n dX10_appendText_39 rfl ?_
  refine wp_iload_n dX10_appendText_40 rfl ?_
  refine wp_ishr dX10_appendText_41 ?_
  refine wp_i2b dX10_appendText_42 ?_
  refine wp_bastk (n := 500) n dX10_appendText_43 (ka hF 280 (by decide)) (la 280) (vin (by omega) (by decide))  (nIc (by omega)) ?_
  have hF1 := Full_wai (gB G + 280) n (Int8.toInt32 (Int32.toInt8 (Int8.toInt32 (Int32.toInt8 (x >>> ((24 : Int32) &&& 31)))))) hF
  refine wp_aload_n dX10_appendText_44 rfl ?_
  refine wp_getr (gB G + 279) dX10_appendText_45 fX10_30 (ka0 hF1) (hF1.2 _ _) (rra 279 (isK_le (ka0 hF1)) (fun _ => rfl)) ?_
  refine wp_dup dX10_appendText_48 rfl ?_
  refine wp_geti (nI n) dX10_appendText_49 fX10_282 (Or.inl rfl) (ka hF1 279 (by decide)) (fi_wai.trans hn) ?_
  refine wp_iconst (1 : Int32) dX10_appendText_52 (by decide) ?_
  refine wp_iaddv (nI (n + 1)) dX10_appendText_53 (nadd (a := n) (b := 1) (by omega)) ?_
  refine wp_puti dX10_appendText_54 pX10_282 (ka hF1 279 (by decide)) ?_
  have hF2 := Full_wfi 701 (gB G + 279) (nI (n + 1)) hF1
  refine wp_iinc (16 : Int32) dX10_appendText_57 rfl (by decide) (by decide) rfl ?_
  refine wp_goto 21 dX10_appendText_60 (by decide) ?_
  refine wp_forget [.ref (gB G), .int x, .int (16 : Int32)] ⟨Or.inl rfl, Or.inl rfl, Or.inl rfl, trivial⟩ ?_
  exact e1

theorem bC_at24 {G : Cx} {d : Nat} {m : Mm} {Q : Option Value → Mm → Prop} {x : Int32} {n : Nat}  (hF : Full G m) (hn : fi m 701 (gB G + 279) = nI n) (hm : n < 500) 
    (e1 : WP G (d + 1) (0, 0) μX10_appendText 21 [.ref (gB G), .int x, .int (8 : Int32)] [] (wfi (wai m (gB G + 280) n (Int8.toInt32 (Int32.toInt8 (Int8.toInt32 (Int32.toInt8 (x >>> ((16 : Int32) &&& 31))))))) 701 (gB G + 279) (nI (n + 1))) Q) :
    WP G (d + 1) (0, 0) μX10_appendText 21 [.ref (gB G), .int x, .int (16 : Int32)] [] m Q := by
  refine wp_iload_n dX10_appendText_21 rfl ?_
  refine wp_if_lt 63 dX10_appendText_22 (by decide) (fun q => absurd q (by decide)) (fun _ => ?_)
  refine wp_aload_n dX10_appendText_25 rfl ?_
  refine wp_getr (gB G + 279) dX10_appendText_26 fX10_30 (ka0 hF) (hF.2 _ _) (rra 279 (isK_le (ka0 hF)) (fun _ => rfl)) ?_
  refine wp_getr (gB G + 280) dX10_appendText_29 fX10_285 (ka hF 279 (by decide)) (hF.2 _ _) (rra 1 (isK_le (ka hF 279 (by decide))) (fun _ => rfl)) ?_
  refine wp_aload_n dX10_appendText_32 rfl ?_
  refine wp_getr (gB G + 279) dX10_appendText_33 fX10_30 (ka0 hF) (hF.2 _ _) (rra 279 (isK_le (ka0 hF)) (fun _ => rfl)) ?_
  refine wp_geti (nI n) dX10_appendText_36 fX10_282 (Or.inl rfl) (ka hF 279 (by decide)) hn ?_
  refine wp_iload_n dX10_appendText_39 rfl ?_
  refine wp_iload_n dX10_appendText_40 rfl ?_
  refine wp_ishr dX10_appendText_41 ?_
  refine wp_i2b dX10_appendText_42 ?_
  refine wp_bastk (n := 500) n dX10_appendText_43 (ka hF 280 (by decide)) (la 280) (vin (by omega) (by decide))  (nIc (by omega)) ?_
  have hF1 := Full_wai (gB G + 280) n (Int8.toInt32 (Int32.toInt8 (Int8.toInt32 (Int32.toInt8 (x >>> ((16 : Int32) &&& 31)))))) hF
  refine wp_aload_n dX10_appendText_44 rfl ?_
  refine wp_getr (gB G + 279) dX10_appendText_45 fX10_30 (ka0 hF1) (hF1.2 _ _) (rra 279 (isK_le (ka0 hF1)) (fun _ => rfl)) ?_
  refine wp_dup dX10_appendText_48 rfl ?_
  refine wp_geti (nI n) dX10_appendText_49 fX10_282 (Or.inl rfl) (ka hF1 279 (by decide)) (fi_wai.trans hn) ?_
  refine wp_iconst (1 : Int32) dX10_appendText_52 (by decide) ?_
  refine wp_iaddv (nI (n + 1)) dX10_appendText_53 (nadd (a := n) (b := 1) (by omega)) ?_
  refine wp_puti dX10_appendText_54 pX10_282 (ka hF1 279 (by decide)) ?_
  have hF2 := Full_wfi 701 (gB G + 279) (nI (n + 1)) hF1
  refine wp_iinc (8 : Int32) dX10_appendText_57 rfl (by decide) (by decide) rfl ?_
  refine wp_goto 21 dX10_appendText_60 (by decide) ?_
  refine wp_forget [.ref (gB G), .int x, .int (8 : Int32)] ⟨Or.inl rfl, Or.inl rfl, Or.inl rfl, trivial⟩ ?_
  exact e1

theorem bC_at16 {G : Cx} {d : Nat} {m : Mm} {Q : Option Value → Mm → Prop} {x : Int32} {n : Nat}  (hF : Full G m) (hn : fi m 701 (gB G + 279) = nI n) (hm : n < 500) 
    (e1 : WP G (d + 1) (0, 0) μX10_appendText 21 [.ref (gB G), .int x, .int (0 : Int32)] [] (wfi (wai m (gB G + 280) n (Int8.toInt32 (Int32.toInt8 (Int8.toInt32 (Int32.toInt8 (x >>> ((8 : Int32) &&& 31))))))) 701 (gB G + 279) (nI (n + 1))) Q) :
    WP G (d + 1) (0, 0) μX10_appendText 21 [.ref (gB G), .int x, .int (8 : Int32)] [] m Q := by
  refine wp_iload_n dX10_appendText_21 rfl ?_
  refine wp_if_lt 63 dX10_appendText_22 (by decide) (fun q => absurd q (by decide)) (fun _ => ?_)
  refine wp_aload_n dX10_appendText_25 rfl ?_
  refine wp_getr (gB G + 279) dX10_appendText_26 fX10_30 (ka0 hF) (hF.2 _ _) (rra 279 (isK_le (ka0 hF)) (fun _ => rfl)) ?_
  refine wp_getr (gB G + 280) dX10_appendText_29 fX10_285 (ka hF 279 (by decide)) (hF.2 _ _) (rra 1 (isK_le (ka hF 279 (by decide))) (fun _ => rfl)) ?_
  refine wp_aload_n dX10_appendText_32 rfl ?_
  refine wp_getr (gB G + 279) dX10_appendText_33 fX10_30 (ka0 hF) (hF.2 _ _) (rra 279 (isK_le (ka0 hF)) (fun _ => rfl)) ?_
  refine wp_geti (nI n) dX10_appendText_36 fX10_282 (Or.inl rfl) (ka hF 279 (by decide)) hn ?_
  refine wp_iload_n dX10_appendText_39 rfl ?_
  refine wp_iload_n dX10_appendText_40 rfl ?_
  refine wp_ishr dX10_appendText_41 ?_
  refine wp_i2b dX10_appendText_42 ?_
  refine wp_bastk (n := 500) n dX10_appendText_43 (ka hF 280 (by decide)) (la 280) (vin (by omega) (by decide))  (nIc (by omega)) ?_
  have hF1 := Full_wai (gB G + 280) n (Int8.toInt32 (Int32.toInt8 (Int8.toInt32 (Int32.toInt8 (x >>> ((8 : Int32) &&& 31)))))) hF
  refine wp_aload_n dX10_appendText_44 rfl ?_
  refine wp_getr (gB G + 279) dX10_appendText_45 fX10_30 (ka0 hF1) (hF1.2 _ _) (rra 279 (isK_le (ka0 hF1)) (fun _ => rfl)) ?_
  refine wp_dup dX10_appendText_48 rfl ?_
  refine wp_geti (nI n) dX10_appendText_49 fX10_282 (Or.inl rfl) (ka hF1 279 (by decide)) (fi_wai.trans hn) ?_
  refine wp_iconst (1 : Int32) dX10_appendText_52 (by decide) ?_
  refine wp_iaddv (nI (n + 1)) dX10_appendText_53 (nadd (a := n) (b := 1) (by omega)) ?_
  refine wp_puti dX10_appendText_54 pX10_282 (ka hF1 279 (by decide)) ?_
  have hF2 := Full_wfi 701 (gB G + 279) (nI (n + 1)) hF1
  refine wp_iinc (0 : Int32) dX10_appendText_57 rfl (by decide) (by decide) rfl ?_
  refine wp_goto 21 dX10_appendText_60 (by decide) ?_
  refine wp_forget [.ref (gB G), .int x, .int (0 : Int32)] ⟨Or.inl rfl, Or.inl rfl, Or.inl rfl, trivial⟩ ?_
  exact e1

theorem bC_at8 {G : Cx} {d : Nat} {m : Mm} {Q : Option Value → Mm → Prop} {x : Int32} {n : Nat}  (hF : Full G m) (hn : fi m 701 (gB G + 279) = nI n) (hm : n < 500) 
    (e1 : WP G (d + 1) (0, 0) μX10_appendText 21 [.ref (gB G), .int x, .int (-8 : Int32)] [] (wfi (wai m (gB G + 280) n (Int8.toInt32 (Int32.toInt8 (Int8.toInt32 (Int32.toInt8 (x >>> ((0 : Int32) &&& 31))))))) 701 (gB G + 279) (nI (n + 1))) Q) :
    WP G (d + 1) (0, 0) μX10_appendText 21 [.ref (gB G), .int x, .int (0 : Int32)] [] m Q := by
  refine wp_iload_n dX10_appendText_21 rfl ?_
  refine wp_if_lt 63 dX10_appendText_22 (by decide) (fun q => absurd q (by decide)) (fun _ => ?_)
  refine wp_aload_n dX10_appendText_25 rfl ?_
  refine wp_getr (gB G + 279) dX10_appendText_26 fX10_30 (ka0 hF) (hF.2 _ _) (rra 279 (isK_le (ka0 hF)) (fun _ => rfl)) ?_
  refine wp_getr (gB G + 280) dX10_appendText_29 fX10_285 (ka hF 279 (by decide)) (hF.2 _ _) (rra 1 (isK_le (ka hF 279 (by decide))) (fun _ => rfl)) ?_
  refine wp_aload_n dX10_appendText_32 rfl ?_
  refine wp_getr (gB G + 279) dX10_appendText_33 fX10_30 (ka0 hF) (hF.2 _ _) (rra 279 (isK_le (ka0 hF)) (fun _ => rfl)) ?_
  refine wp_geti (nI n) dX10_appendText_36 fX10_282 (Or.inl rfl) (ka hF 279 (by decide)) hn ?_
  refine wp_iload_n dX10_appendText_39 rfl ?_
  refine wp_iload_n dX10_appendText_40 rfl ?_
  refine wp_ishr dX10_appendText_41 ?_
  refine wp_i2b dX10_appendText_42 ?_
  refine wp_bastk (n := 500) n dX10_appendText_43 (ka hF 280 (by decide)) (la 280) (vin (by omega) (by decide))  (nIc (by omega)) ?_
  have hF1 := Full_wai (gB G + 280) n (Int8.toInt32 (Int32.toInt8 (Int8.toInt32 (Int32.toInt8 (x >>> ((0 : Int32) &&& 31)))))) hF
  refine wp_aload_n dX10_appendText_44 rfl ?_
  refine wp_getr (gB G + 279) dX10_appendText_45 fX10_30 (ka0 hF1) (hF1.2 _ _) (rra 279 (isK_le (ka0 hF1)) (fun _ => rfl)) ?_
  refine wp_dup dX10_appendText_48 rfl ?_
  refine wp_geti (nI n) dX10_appendText_49 fX10_282 (Or.inl rfl) (ka hF1 279 (by decide)) (fi_wai.trans hn) ?_
  refine wp_iconst (1 : Int32) dX10_appendText_52 (by decide) ?_
  refine wp_iaddv (nI (n + 1)) dX10_appendText_53 (nadd (a := n) (b := 1) (by omega)) ?_
  refine wp_puti dX10_appendText_54 pX10_282 (ka hF1 279 (by decide)) ?_
  have hF2 := Full_wfi 701 (gB G + 279) (nI (n + 1)) hF1
  refine wp_iinc (-8 : Int32) dX10_appendText_57 rfl (by decide) (by decide) rfl ?_
  refine wp_goto 21 dX10_appendText_60 (by decide) ?_
  refine wp_forget [.ref (gB G), .int x, .int (-8 : Int32)] ⟨Or.inl rfl, Or.inl rfl, Or.inl rfl, trivial⟩ ?_
  exact e1

theorem bC_at0 {G : Cx} {d : Nat} {m : Mm} {Q : Option Value → Mm → Prop} {x : Int32} {n : Nat}  (hF : Full G m) (hn : fi m 701 (gB G + 279) = nI n) 
    (e1 : Q (some (.int (nI n))) m) :
    WP G (d + 1) (0, 0) μX10_appendText 21 [.ref (gB G), .int x, .int (-8 : Int32)] [] m Q := by
  refine wp_iload_n dX10_appendText_21 rfl ?_
  refine wp_if_lt 63 dX10_appendText_22 (by decide) (fun _ => ?_) (fun q => absurd (by decide) q)
  refine wp_aload_n dX10_appendText_63 rfl ?_
  refine wp_getr (gB G + 279) dX10_appendText_64 fX10_30 (ka0 hF) (hF.2 _ _) (rra 279 (isK_le (ka0 hF)) (fun _ => rfl)) ?_
  refine wp_geti (nI n) dX10_appendText_67 fX10_282 (Or.inl rfl) (ka hF 279 (by decide)) hn ?_
  exact wp_iret dX10_appendText_70 rfl (e1)

theorem eM_at {G : Cx} {d : Nat} {m : Mm} {Q : Option Value → Mm → Prop} {x : Int32} {n : Nat}  (hF : Full G m) (hn : fi m 1111 (gB G + 293) = nI n) (hm : n ≤ 500) 
    (e1 : ¬ 500 < n + 4 → WP G (d + 1) (0, 0) μX11_appendText 18 [.ref (gB G + 293), .int x, .int (24 : Int32)] [] m Q)
    (e2 : 500 < n + 4 → Q (some (.int (-1000000003 : Int32))) m) :
    WPM G (d + 1) (0, 0) μX11_appendText [.ref (gB G + 293), .int x] m Q := by
  refine WPM.of pX11 (Nat.le_of_ble_eq_true rfl) rfl ?_
  refine wp_aload_n dX11_appendText_0 rfl ?_
  refine wp_geti (nI n) dX11_appendText_1 fX11_247 (Or.inl rfl) (ka hF 293 (by decide)) hn ?_
  refine wp_iconst (4 : Int32) dX11_appendText_4 (by decide) ?_
  refine wp_iaddv (nI (n + 4)) dX11_appendText_5 (nadd (a := n) (b := 4) (by omega)) ?_
  refine wp_sipush (500 : Int32) dX11_appendText_6 (by decide) ?_
  refine wp_icmp_le 15 dX11_appendText_9 (by decide) (fun q1 => ?_) (fun q2 => ?_)
  · have hp3 : ¬ 500 < n + 4 := (fun z => q1 (nlt_ (b := n + 4) z (by omega)))
    refine wp_bipush (24 : Int32) dX11_appendText_15 (by decide) ?_
    refine wp_istore_n dX11_appendText_17 (by decide) rfl ?_
    refine wp_forget [.ref (gB G + 293), .int x, .int (24 : Int32)] ⟨Or.inl rfl, Or.inl rfl, Or.inl rfl, trivial⟩ ?_
    exact e1 hp3
  · have hp4 : 500 < n + 4 := (nlt q2 (by omega) (by omega))
    refine wp_ldc dX11_appendText_12 kX11_80 ?_
    exact wp_iret dX11_appendText_14 rfl (e2 hp4)

theorem bM_at32 {G : Cx} {d : Nat} {m : Mm} {Q : Option Value → Mm → Prop} {x : Int32} {n : Nat}  (hF : Full G m) (hn : fi m 1111 (gB G + 293) = nI n) (hm : n < 500) 
    (e1 : WP G (d + 1) (0, 0) μX11_appendText 18 [.ref (gB G + 293), .int x, .int (16 : Int32)] [] (wfi (wai m (gB G + 304) n ((x >>> ((24 : Int32) &&& 31)) &&& (255 : Int32))) 1111 (gB G + 293) (nI (n + 1))) Q) :
    WP G (d + 1) (0, 0) μX11_appendText 18 [.ref (gB G + 293), .int x, .int (24 : Int32)] [] m Q := by
  refine wp_iload_n dX11_appendText_18 rfl ?_
  refine wp_if_lt 54 dX11_appendText_19 (by decide) (fun q => absurd q (by decide)) (fun _ => ?_)
  refine wp_aload_n dX11_appendText_22 rfl ?_
  refine wp_getr (gB G + 304) dX11_appendText_23 fX11_42 (ka hF 293 (by decide)) (hF.2 _ _) (rra 11 (isK_le (ka hF 293 (by decide))) (fun _ => rfl)) ?_
  refine wp_aload_n dX11_appendText_26 rfl ?_
  refine wp_geti (nI n) dX11_appendText_27 fX11_247 (Or.inl rfl) (ka hF 293 (by decide)) hn ?_
  refine wp_iload_n dX11_appendText_30 rfl ?_
  refine wp_iload_n dX11_appendText_31 rfl ?_
  refine wp_ishr dX11_appendText_32 ?_
  refine wp_sipush (255 : Int32) dX11_appendText_33 (by decide) ?_
  refine wp_iand dX11_appendText_36 ?_
  refine wp_iastk (n := 500) n dX11_appendText_37 (ka hF 304 (by decide)) (la 304) (vin (by omega) (by decide))  (nIc (by omega)) ?_
  have hF1 := Full_wai (gB G + 304) n ((x >>> ((24 : Int32) &&& 31)) &&& (255 : Int32)) hF
  refine wp_aload_n dX11_appendText_38 rfl ?_
  refine wp_dup dX11_appendText_39 rfl ?_
  refine wp_geti (nI n) dX11_appendText_40 fX11_247 (Or.inl rfl) (ka hF1 293 (by decide)) (fi_wai.trans hn) ?_
  refine wp_iconst (1 : Int32) dX11_appendText_43 (by decide) ?_
  refine wp_iaddv (nI (n + 1)) dX11_appendText_44 (nadd (a := n) (b := 1) (by omega)) ?_
  refine wp_puti dX11_appendText_45 pX11_247 (ka hF1 293 (by decide)) ?_
  have hF2 := Full_wfi 1111 (gB G + 293) (nI (n + 1)) hF1
  refine wp_iinc (16 : Int32) dX11_appendText_48 rfl (by decide) (by decide) rfl ?_
  refine wp_goto 18 dX11_appendText_51 (by decide) ?_
  refine wp_forget [.ref (gB G + 293), .int x, .int (16 : Int32)] ⟨Or.inl rfl, Or.inl rfl, Or.inl rfl, trivial⟩ ?_
  exact e1

theorem bM_at24 {G : Cx} {d : Nat} {m : Mm} {Q : Option Value → Mm → Prop} {x : Int32} {n : Nat}  (hF : Full G m) (hn : fi m 1111 (gB G + 293) = nI n) (hm : n < 500) 
    (e1 : WP G (d + 1) (0, 0) μX11_appendText 18 [.ref (gB G + 293), .int x, .int (8 : Int32)] [] (wfi (wai m (gB G + 304) n ((x >>> ((16 : Int32) &&& 31)) &&& (255 : Int32))) 1111 (gB G + 293) (nI (n + 1))) Q) :
    WP G (d + 1) (0, 0) μX11_appendText 18 [.ref (gB G + 293), .int x, .int (16 : Int32)] [] m Q := by
  refine wp_iload_n dX11_appendText_18 rfl ?_
  refine wp_if_lt 54 dX11_appendText_19 (by decide) (fun q => absurd q (by decide)) (fun _ => ?_)
  refine wp_aload_n dX11_appendText_22 rfl ?_
  refine wp_getr (gB G + 304) dX11_appendText_23 fX11_42 (ka hF 293 (by decide)) (hF.2 _ _) (rra 11 (isK_le (ka hF 293 (by decide))) (fun _ => rfl)) ?_
  refine wp_aload_n dX11_appendText_26 rfl ?_
  refine wp_geti (nI n) dX11_appendText_27 fX11_247 (Or.inl rfl) (ka hF 293 (by decide)) hn ?_
  refine wp_iload_n dX11_appendText_30 rfl ?_
  refine wp_iload_n dX11_appendText_31 rfl ?_
  refine wp_ishr dX11_appendText_32 ?_
  refine wp_sipush (255 : Int32) dX11_appendText_33 (by decide) ?_
  refine wp_iand dX11_appendText_36 ?_
  refine wp_iastk (n := 500) n dX11_appendText_37 (ka hF 304 (by decide)) (la 304) (vin (by omega) (by decide))  (nIc (by omega)) ?_
  have hF1 := Full_wai (gB G + 304) n ((x >>> ((16 : Int32) &&& 31)) &&& (255 : Int32)) hF
  refine wp_aload_n dX11_appendText_38 rfl ?_
  refine wp_dup dX11_appendText_39 rfl ?_
  refine wp_geti (nI n) dX11_appendText_40 fX11_247 (Or.inl rfl) (ka hF1 293 (by decide)) (fi_wai.trans hn) ?_
  refine wp_iconst (1 : Int32) dX11_appendText_43 (by decide) ?_
  refine wp_iaddv (nI (n + 1)) dX11_appendText_44 (nadd (a := n) (b := 1) (by omega)) ?_
  refine wp_puti dX11_appendText_45 pX11_247 (ka hF1 293 (by decide)) ?_
  have hF2 := Full_wfi 1111 (gB G + 293) (nI (n + 1)) hF1
  refine wp_iinc (8 : Int32) dX11_appendText_48 rfl (by decide) (by decide) rfl ?_
  refine wp_goto 18 dX11_appendText_51 (by decide) ?_
  refine wp_forget [.ref (gB G + 293), .int x, .int (8 : Int32)] ⟨Or.inl rfl, Or.inl rfl, Or.inl rfl, trivial⟩ ?_
  exact e1

theorem bM_at16 {G : Cx} {d : Nat} {m : Mm} {Q : Option Value → Mm → Prop} {x : Int32} {n : Nat}  (hF : Full G m) (hn : fi m 1111 (gB G + 293) = nI n) (hm : n < 500) 
    (e1 : WP G (d + 1) (0, 0) μX11_appendText 18 [.ref (gB G + 293), .int x, .int (0 : Int32)] [] (wfi (wai m (gB G + 304) n ((x >>> ((8 : Int32) &&& 31)) &&& (255 : Int32))) 1111 (gB G + 293) (nI (n + 1))) Q) :
    WP G (d + 1) (0, 0) μX11_appendText 18 [.ref (gB G + 293), .int x, .int (8 : Int32)] [] m Q := by
  refine wp_iload_n dX11_appendText_18 rfl ?_
  refine wp_if_lt 54 dX11_appendText_19 (by decide) (fun q => absurd q (by decide)) (fun _ => ?_)
  refine wp_aload_n dX11_appendText_22 rfl ?_
  refine wp_getr (gB G + 304) dX11_appendText_23 fX11_42 (ka hF 293 (by decide)) (hF.2 _ _) (rra 11 (isK_le (ka hF 293 (by decide))) (fun _ => rfl)) ?_
  refine wp_aload_n dX11_appendText_26 rfl ?_
  refine wp_geti (nI n) dX11_appendText_27 fX11_247 (Or.inl rfl) (ka hF 293 (by decide)) hn ?_
  refine wp_iload_n dX11_appendText_30 rfl ?_
  refine wp_iload_n dX11_appendText_31 rfl ?_
  refine wp_ishr dX11_appendText_32 ?_
  refine wp_sipush (255 : Int32) dX11_appendText_33 (by decide) ?_
  refine wp_iand dX11_appendText_36 ?_
  refine wp_iastk (n := 500) n dX11_appendText_37 (ka hF 304 (by decide)) (la 304) (vin (by omega) (by decide))  (nIc (by omega)) ?_
  have hF1 := Full_wai (gB G + 304) n ((x >>> ((8 : Int32) &&& 31)) &&& (255 : Int32)) hF
  refine wp_aload_n dX11_appendText_38 rfl ?_
  refine wp_dup dX11_appendText_39 rfl ?_
  refine wp_geti (nI n) dX11_appendText_40 fX11_247 (Or.inl rfl) (ka hF1 293 (by decide)) (fi_wai.trans hn) ?_
  refine wp_iconst (1 : Int32) dX11_appendText_43 (by decide) ?_
  refine wp_iaddv (nI (n + 1)) dX11_appendText_44 (nadd (a := n) (b := 1) (by omega)) ?_
  refine wp_puti dX11_appendText_45 pX11_247 (ka hF1 293 (by decide)) ?_
  have hF2 := Full_wfi 1111 (gB G + 293) (nI (n + 1)) hF1
  refine wp_iinc (0 : Int32) dX11_appendText_48 rfl (by decide) (by decide) rfl ?_
  refine wp_goto 18 dX11_appendText_51 (by decide) ?_
  refine wp_forget [.ref (gB G + 293), .int x, .int (0 : Int32)] ⟨Or.inl rfl, Or.inl rfl, Or.inl rfl, trivial⟩ ?_
  exact e1

theorem bM_at8 {G : Cx} {d : Nat} {m : Mm} {Q : Option Value → Mm → Prop} {x : Int32} {n : Nat}  (hF : Full G m) (hn : fi m 1111 (gB G + 293) = nI n) (hm : n < 500) 
    (e1 : WP G (d + 1) (0, 0) μX11_appendText 18 [.ref (gB G + 293), .int x, .int (-8 : Int32)] [] (wfi (wai m (gB G + 304) n ((x >>> ((0 : Int32) &&& 31)) &&& (255 : Int32))) 1111 (gB G + 293) (nI (n + 1))) Q) :
    WP G (d + 1) (0, 0) μX11_appendText 18 [.ref (gB G + 293), .int x, .int (0 : Int32)] [] m Q := by
  refine wp_iload_n dX11_appendText_18 rfl ?_
  refine wp_if_lt 54 dX11_appendText_19 (by decide) (fun q => absurd q (by decide)) (fun _ => ?_)
  refine wp_aload_n dX11_appendText_22 rfl ?_
  refine wp_getr (gB G + 304) dX11_appendText_23 fX11_42 (ka hF 293 (by decide)) (hF.2 _ _) (rra 11 (isK_le (ka hF 293 (by decide))) (fun _ => rfl)) ?_
  refine wp_aload_n dX11_appendText_26 rfl ?_
  refine wp_geti (nI n) dX11_appendText_27 fX11_247 (Or.inl rfl) (ka hF 293 (by decide)) hn ?_
  refine wp_iload_n dX11_appendText_30 rfl ?_
  refine wp_iload_n dX11_appendText_31 rfl ?_
  refine wp_ishr dX11_appendText_32 ?_
  refine wp_sipush (255 : Int32) dX11_appendText_33 (by decide) ?_
  refine wp_iand dX11_appendText_36 ?_
  refine wp_iastk (n := 500) n dX11_appendText_37 (ka hF 304 (by decide)) (la 304) (vin (by omega) (by decide))  (nIc (by omega)) ?_
  have hF1 := Full_wai (gB G + 304) n ((x >>> ((0 : Int32) &&& 31)) &&& (255 : Int32)) hF
  refine wp_aload_n dX11_appendText_38 rfl ?_
  refine wp_dup dX11_appendText_39 rfl ?_
  refine wp_geti (nI n) dX11_appendText_40 fX11_247 (Or.inl rfl) (ka hF1 293 (by decide)) (fi_wai.trans hn) ?_
  refine wp_iconst (1 : Int32) dX11_appendText_43 (by decide) ?_
  refine wp_iaddv (nI (n + 1)) dX11_appendText_44 (nadd (a := n) (b := 1) (by omega)) ?_
  refine wp_puti dX11_appendText_45 pX11_247 (ka hF1 293 (by decide)) ?_
  have hF2 := Full_wfi 1111 (gB G + 293) (nI (n + 1)) hF1
  refine wp_iinc (-8 : Int32) dX11_appendText_48 rfl (by decide) (by decide) rfl ?_
  refine wp_goto 18 dX11_appendText_51 (by decide) ?_
  refine wp_forget [.ref (gB G + 293), .int x, .int (-8 : Int32)] ⟨Or.inl rfl, Or.inl rfl, Or.inl rfl, trivial⟩ ?_
  exact e1

theorem bM_at0 {G : Cx} {d : Nat} {m : Mm} {Q : Option Value → Mm → Prop} {x : Int32} {n : Nat}  (hF : Full G m) (hn : fi m 1111 (gB G + 293) = nI n) 
    (e1 : Q (some (.int (nI n))) m) :
    WP G (d + 1) (0, 0) μX11_appendText 18 [.ref (gB G + 293), .int x, .int (-8 : Int32)] [] m Q := by
  refine wp_iload_n dX11_appendText_18 rfl ?_
  refine wp_if_lt 54 dX11_appendText_19 (by decide) (fun _ => ?_) (fun q => absurd (by decide) q)
  refine wp_aload_n dX11_appendText_54 rfl ?_
  refine wp_geti (nI n) dX11_appendText_55 fX11_247 (Or.inl rfl) (ka hF 293 (by decide)) hn ?_
  exact wp_iret dX11_appendText_58 rfl (e1)

theorem iC_tr {G : Cx} {d : Nat} {m : Mm} {Q : Option Value → Mm → Prop} {i n : Nat}  (hF : Full G m) (hn : fi m 701 (gB G + 279) = nI n) (hm : n ≤ 500) (hi : i ≤ n) 
    (e1 : Q (some (.int (nI i))) (wfi m 701 (gB G + 279) (nI i))) :
    WPM G (d + 3) (0, 0) μX10_truncateText [.ref (gB G), .int (nI i)] m Q := by
  refine WPM.of pX10 (Nat.le_of_ble_eq_true rfl) rfl ?_
  refine wp_iload_n dX10_truncateText_0 rfl ?_
  refine wp_iconst (0 : Int32) dX10_truncateText_1 (by decide) ?_
  refine wp_aload_n dX10_truncateText_2 rfl ?_
  refine wp_getr (gB G + 279) dX10_truncateText_3 fX10_30 (ka0 hF) (hF.2 _ _) (rra 279 (isK_le (ka0 hF)) (fun _ => rfl)) ?_
  refine wp_geti (nI n) dX10_truncateText_6 fX10_282 (Or.inl rfl) (ka hF 279 (by decide)) hn ?_
  refine wp_callS (As := [.int (nI i), .int (0 : Int32), .int (nI n)]) (S := []) (b' := (0, 0)) (b := (0, 0)) dX10_truncateText_9 MX10_35 rfl rfl (Nat.le_of_ble_eq_true rfl) ?_
  refine WPM.of pX10 (Nat.le_of_ble_eq_true rfl) rfl ?_
  refine wp_iload_n dX10_within_0 rfl ?_
  refine wp_iload_n dX10_within_1 rfl ?_
  refine wp_icmp_lt 14 dX10_within_2 (by decide) (fun q => absurd q (nI_pos (by omega))) (fun _ => ?_)
  refine wp_iload_n dX10_within_5 rfl ?_
  refine wp_iload_n dX10_within_6 rfl ?_
  refine wp_icmp_gt 14 dX10_within_7 (by decide) (fun q => absurd q (fun z => (show ¬ n < i by omega) (nlt (a := n) (b := i) z (by omega) (by omega)))) (fun _ => ?_)
  refine wp_iconst (1 : Int32) dX10_within_10 (by decide) ?_
  refine wp_goto 15 dX10_within_11 (by decide) ?_
  refine wp_zret dX10_within_15 rfl rfl ?_
  show WP G (d + 3) (0, 0) μX10_truncateText 12 [.ref (gB G), .int (nI i)] [.int (1 : Int32)] m _
  refine wp_if_ne 18 dX10_truncateText_12 (by decide) (fun _ => ?_) (fun q => absurd q (by decide))
  refine wp_aload_n dX10_truncateText_18 rfl ?_
  refine wp_getr (gB G + 279) dX10_truncateText_19 fX10_30 (ka0 hF) (hF.2 _ _) (rra 279 (isK_le (ka0 hF)) (fun _ => rfl)) ?_
  refine wp_iload_n dX10_truncateText_22 rfl ?_
  refine wp_puti dX10_truncateText_23 pX10_282 (ka hF 279 (by decide)) ?_
  have hF1 := Full_wfi 701 (gB G + 279) (nI i) hF
  refine wp_iload_n dX10_truncateText_26 rfl ?_
  exact wp_iret dX10_truncateText_27 rfl (e1)

theorem aC_tr {G : Cx} {d : Nat} {m : Mm} {Q : Option Value → Mm → Prop} {x : Int32} {n : Nat}  (hF : Full G m) (hn : fi m 701 (gB G + 279) = nI n) (hm : n ≤ 500) (hx : x < 0) 
    (e1 : Q (some (.int (-1000000002 : Int32))) m) :
    WPM G (d + 3) (0, 0) μX10_truncateText [.ref (gB G), .int x] m Q := by
  refine WPM.of pX10 (Nat.le_of_ble_eq_true rfl) rfl ?_
  refine wp_iload_n dX10_truncateText_0 rfl ?_
  refine wp_iconst (0 : Int32) dX10_truncateText_1 (by decide) ?_
  refine wp_aload_n dX10_truncateText_2 rfl ?_
  refine wp_getr (gB G + 279) dX10_truncateText_3 fX10_30 (ka0 hF) (hF.2 _ _) (rra 279 (isK_le (ka0 hF)) (fun _ => rfl)) ?_
  refine wp_geti (nI n) dX10_truncateText_6 fX10_282 (Or.inl rfl) (ka hF 279 (by decide)) hn ?_
  refine wp_callS (As := [.int x, .int (0 : Int32), .int (nI n)]) (S := []) (b' := (0, 0)) (b := (0, 0)) dX10_truncateText_9 MX10_35 rfl rfl (Nat.le_of_ble_eq_true rfl) ?_
  refine WPM.of pX10 (Nat.le_of_ble_eq_true rfl) rfl ?_
  refine wp_iload_n dX10_within_0 rfl ?_
  refine wp_iload_n dX10_within_1 rfl ?_
  refine wp_icmp_lt 14 dX10_within_2 (by decide) (fun _ => ?_) (fun q => absurd hx q)
  refine wp_iconst (0 : Int32) dX10_within_14 (by decide) ?_
  refine wp_zret dX10_within_15 rfl rfl ?_
  show WP G (d + 3) (0, 0) μX10_truncateText 12 [.ref (gB G), .int x] [.int (0 : Int32)] m _
  refine wp_if_ne 18 dX10_truncateText_12 (by decide) (fun q => absurd (by decide) q) (fun _ => ?_)
  refine wp_ldc dX10_truncateText_15 kX10_42 ?_
  exact wp_iret dX10_truncateText_17 rfl (e1)

theorem bC_tr {G : Cx} {d : Nat} {m : Mm} {Q : Option Value → Mm → Prop} {x : Int32} {n : Nat}  (hF : Full G m) (hn : fi m 701 (gB G + 279) = nI n) (hm : n ≤ 500) (hx : ¬ x < 0) (hy : nI n < x) 
    (e1 : Q (some (.int (-1000000002 : Int32))) m) :
    WPM G (d + 3) (0, 0) μX10_truncateText [.ref (gB G), .int x] m Q := by
  refine WPM.of pX10 (Nat.le_of_ble_eq_true rfl) rfl ?_
  refine wp_iload_n dX10_truncateText_0 rfl ?_
  refine wp_iconst (0 : Int32) dX10_truncateText_1 (by decide) ?_
  refine wp_aload_n dX10_truncateText_2 rfl ?_
  refine wp_getr (gB G + 279) dX10_truncateText_3 fX10_30 (ka0 hF) (hF.2 _ _) (rra 279 (isK_le (ka0 hF)) (fun _ => rfl)) ?_
  refine wp_geti (nI n) dX10_truncateText_6 fX10_282 (Or.inl rfl) (ka hF 279 (by decide)) hn ?_
  refine wp_callS (As := [.int x, .int (0 : Int32), .int (nI n)]) (S := []) (b' := (0, 0)) (b := (0, 0)) dX10_truncateText_9 MX10_35 rfl rfl (Nat.le_of_ble_eq_true rfl) ?_
  refine WPM.of pX10 (Nat.le_of_ble_eq_true rfl) rfl ?_
  refine wp_iload_n dX10_within_0 rfl ?_
  refine wp_iload_n dX10_within_1 rfl ?_
  refine wp_icmp_lt 14 dX10_within_2 (by decide) (fun q => absurd q hx) (fun _ => ?_)
  refine wp_iload_n dX10_within_5 rfl ?_
  refine wp_iload_n dX10_within_6 rfl ?_
  refine wp_icmp_gt 14 dX10_within_7 (by decide) (fun _ => ?_) (fun q => absurd hy q)
  refine wp_iconst (0 : Int32) dX10_within_14 (by decide) ?_
  refine wp_zret dX10_within_15 rfl rfl ?_
  show WP G (d + 3) (0, 0) μX10_truncateText 12 [.ref (gB G), .int x] [.int (0 : Int32)] m _
  refine wp_if_ne 18 dX10_truncateText_12 (by decide) (fun q => absurd (by decide) q) (fun _ => ?_)
  refine wp_ldc dX10_truncateText_15 kX10_42 ?_
  exact wp_iret dX10_truncateText_17 rfl (e1)

theorem iM_tr {G : Cx} {d : Nat} {m : Mm} {Q : Option Value → Mm → Prop} {i n : Nat}  (hF : Full G m) (hn : fi m 1111 (gB G + 293) = nI n) (hm : n ≤ 500) (hi : i ≤ n) 
    (e1 : Q (some (.int (nI i))) (wfi m 1111 (gB G + 293) (nI i))) :
    WPM G (d + 3) (0, 0) μX11_truncateText [.ref (gB G + 293), .int (nI i)] m Q := by
  refine WPM.of pX11 (Nat.le_of_ble_eq_true rfl) rfl ?_
  refine wp_iload_n dX11_truncateText_0 rfl ?_
  refine wp_iconst (0 : Int32) dX11_truncateText_1 (by decide) ?_
  refine wp_aload_n dX11_truncateText_2 rfl ?_
  refine wp_geti (nI n) dX11_truncateText_3 fX11_247 (Or.inl rfl) (ka hF 293 (by decide)) hn ?_
  refine wp_callS (As := [.int (nI i), .int (0 : Int32), .int (nI n)]) (S := []) (b' := (0, 0)) (b := (0, 0)) dX11_truncateText_6 MX11_67 rfl rfl (Nat.le_of_ble_eq_true rfl) ?_
  refine WPM.of pX11 (Nat.le_of_ble_eq_true rfl) rfl ?_
  refine wp_iload_n dX11_isBetween_0 rfl ?_
  refine wp_iload_n dX11_isBetween_1 rfl ?_
  refine wp_icmp_lt 14 dX11_isBetween_2 (by decide) (fun q => absurd q (nI_pos (by omega))) (fun _ => ?_)
  refine wp_iload_n dX11_isBetween_5 rfl ?_
  refine wp_iload_n dX11_isBetween_6 rfl ?_
  refine wp_icmp_gt 14 dX11_isBetween_7 (by decide) (fun q => absurd q (fun z => (show ¬ n < i by omega) (nlt (a := n) (b := i) z (by omega) (by omega)))) (fun _ => ?_)
  refine wp_iconst (1 : Int32) dX11_isBetween_10 (by decide) ?_
  refine wp_goto 15 dX11_isBetween_11 (by decide) ?_
  refine wp_zret dX11_isBetween_15 rfl rfl ?_
  show WP G (d + 3) (0, 0) μX11_truncateText 9 [.ref (gB G + 293), .int (nI i)] [.int (1 : Int32)] m _
  refine wp_if_ne 15 dX11_truncateText_9 (by decide) (fun _ => ?_) (fun q => absurd q (by decide))
  refine wp_aload_n dX11_truncateText_15 rfl ?_
  refine wp_iload_n dX11_truncateText_16 rfl ?_
  refine wp_puti dX11_truncateText_17 pX11_247 (ka hF 293 (by decide)) ?_
  have hF1 := Full_wfi 1111 (gB G + 293) (nI i) hF
  refine wp_aload_n dX11_truncateText_20 rfl ?_
  refine wp_geti (nI i) dX11_truncateText_21 fX11_247 (Or.inl rfl) (ka hF1 293 (by decide)) fi_eq ?_
  exact wp_iret dX11_truncateText_24 rfl (e1)

theorem aM_tr {G : Cx} {d : Nat} {m : Mm} {Q : Option Value → Mm → Prop} {x : Int32} {n : Nat}  (hF : Full G m) (hn : fi m 1111 (gB G + 293) = nI n) (hm : n ≤ 500) (hx : x < 0) 
    (e1 : Q (some (.int (-1000000002 : Int32))) m) :
    WPM G (d + 3) (0, 0) μX11_truncateText [.ref (gB G + 293), .int x] m Q := by
  refine WPM.of pX11 (Nat.le_of_ble_eq_true rfl) rfl ?_
  refine wp_iload_n dX11_truncateText_0 rfl ?_
  refine wp_iconst (0 : Int32) dX11_truncateText_1 (by decide) ?_
  refine wp_aload_n dX11_truncateText_2 rfl ?_
  refine wp_geti (nI n) dX11_truncateText_3 fX11_247 (Or.inl rfl) (ka hF 293 (by decide)) hn ?_
  refine wp_callS (As := [.int x, .int (0 : Int32), .int (nI n)]) (S := []) (b' := (0, 0)) (b := (0, 0)) dX11_truncateText_6 MX11_67 rfl rfl (Nat.le_of_ble_eq_true rfl) ?_
  refine WPM.of pX11 (Nat.le_of_ble_eq_true rfl) rfl ?_
  refine wp_iload_n dX11_isBetween_0 rfl ?_
  refine wp_iload_n dX11_isBetween_1 rfl ?_
  refine wp_icmp_lt 14 dX11_isBetween_2 (by decide) (fun _ => ?_) (fun q => absurd hx q)
  refine wp_iconst (0 : Int32) dX11_isBetween_14 (by decide) ?_
  refine wp_zret dX11_isBetween_15 rfl rfl ?_
  show WP G (d + 3) (0, 0) μX11_truncateText 9 [.ref (gB G + 293), .int x] [.int (0 : Int32)] m _
  refine wp_if_ne 15 dX11_truncateText_9 (by decide) (fun q => absurd (by decide) q) (fun _ => ?_)
  refine wp_ldc dX11_truncateText_12 kX11_79 ?_
  exact wp_iret dX11_truncateText_14 rfl (e1)

theorem bM_tr {G : Cx} {d : Nat} {m : Mm} {Q : Option Value → Mm → Prop} {x : Int32} {n : Nat}  (hF : Full G m) (hn : fi m 1111 (gB G + 293) = nI n) (hm : n ≤ 500) (hx : ¬ x < 0) (hy : nI n < x) 
    (e1 : Q (some (.int (-1000000002 : Int32))) m) :
    WPM G (d + 3) (0, 0) μX11_truncateText [.ref (gB G + 293), .int x] m Q := by
  refine WPM.of pX11 (Nat.le_of_ble_eq_true rfl) rfl ?_
  refine wp_iload_n dX11_truncateText_0 rfl ?_
  refine wp_iconst (0 : Int32) dX11_truncateText_1 (by decide) ?_
  refine wp_aload_n dX11_truncateText_2 rfl ?_
  refine wp_geti (nI n) dX11_truncateText_3 fX11_247 (Or.inl rfl) (ka hF 293 (by decide)) hn ?_
  refine wp_callS (As := [.int x, .int (0 : Int32), .int (nI n)]) (S := []) (b' := (0, 0)) (b := (0, 0)) dX11_truncateText_6 MX11_67 rfl rfl (Nat.le_of_ble_eq_true rfl) ?_
  refine WPM.of pX11 (Nat.le_of_ble_eq_true rfl) rfl ?_
  refine wp_iload_n dX11_isBetween_0 rfl ?_
  refine wp_iload_n dX11_isBetween_1 rfl ?_
  refine wp_icmp_lt 14 dX11_isBetween_2 (by decide) (fun q => absurd q hx) (fun _ => ?_)
  refine wp_iload_n dX11_isBetween_5 rfl ?_
  refine wp_iload_n dX11_isBetween_6 rfl ?_
  refine wp_icmp_gt 14 dX11_isBetween_7 (by decide) (fun _ => ?_) (fun q => absurd hy q)
  refine wp_iconst (0 : Int32) dX11_isBetween_14 (by decide) ?_
  refine wp_zret dX11_isBetween_15 rfl rfl ?_
  show WP G (d + 3) (0, 0) μX11_truncateText 9 [.ref (gB G + 293), .int x] [.int (0 : Int32)] m _
  refine wp_if_ne 15 dX11_truncateText_9 (by decide) (fun q => absurd (by decide) q) (fun _ => ?_)
  refine wp_ldc dX11_truncateText_12 kX11_79 ?_
  exact wp_iret dX11_truncateText_14 rfl (e1)

theorem eC_sv0 {G : Cx} {d : Nat} {m : Mm} {Q : Option Value → Mm → Prop}  (hF : Full G m) 
    (e1 : WPM G (d + 4) (0, 0) μX0_copyFrom [.ref (gB G + 140), .ref (gB G + 1)] m (fun r' m' => WP G (d + 5) (0, 0) μX10_save 24 [.ref (gB G), .int (0 : Int32)] (r'.toList ++ []) m' Q)) :
    WPM G (d + 5) (0, 0) μX10_save [.ref (gB G), .int (0 : Int32)] m Q := by
  refine WPM.of pX10 (Nat.le_of_ble_eq_true rfl) rfl ?_
  refine wp_iload_n dX10_save_0 rfl ?_
  refine wp_iconst (0 : Int32) dX10_save_1 (by decide) ?_
  refine wp_iconst (1 : Int32) dX10_save_2 (by decide) ?_
  refine wp_callS (As := [.int (0 : Int32), .int (0 : Int32), .int (1 : Int32)]) (S := []) (b' := (0, 0)) (b := (0, 0)) dX10_save_3 MX10_35 rfl rfl (Nat.le_of_ble_eq_true rfl) ?_
  refine WPM.of pX10 (Nat.le_of_ble_eq_true rfl) rfl ?_
  refine wp_iload_n dX10_within_0 rfl ?_
  refine wp_iload_n dX10_within_1 rfl ?_
  refine wp_icmp_lt 14 dX10_within_2 (by decide) (fun q => absurd q (by decide)) (fun _ => ?_)
  refine wp_iload_n dX10_within_5 rfl ?_
  refine wp_iload_n dX10_within_6 rfl ?_
  refine wp_icmp_gt 14 dX10_within_7 (by decide) (fun q => absurd q (by decide)) (fun _ => ?_)
  refine wp_iconst (1 : Int32) dX10_within_10 (by decide) ?_
  refine wp_goto 15 dX10_within_11 (by decide) ?_
  refine wp_zret dX10_within_15 rfl rfl ?_
  show WP G (d + 5) (0, 0) μX10_save 6 [.ref (gB G), .int (0 : Int32)] [.int (1 : Int32)] m _
  refine wp_if_ne 11 dX10_save_6 (by decide) (fun _ => ?_) (fun q => absurd q (by decide))
  refine wp_aload_n dX10_save_11 rfl ?_
  refine wp_getr (gB G + 139) dX10_save_12 fX10_19 (ka0 hF) (hF.2 _ _) (rra 139 (isK_le (ka0 hF)) (fun _ => rfl)) ?_
  refine wp_iload_n dX10_save_15 rfl ?_
  refine wp_raldk (n := 2) 0 (gB G + 140) dX10_save_16 (ka hF 139 (by decide)) (by decide) (by decide) (la 139) (vinl (by decide)) rfl (hF.2 _ _) (rsv (0 : Int32) hF (Or.inl rfl)) ?_
  refine wp_aload_n dX10_save_17 rfl ?_
  refine wp_getr (gB G + 1) dX10_save_18 fX10_10 (ka0 hF) (hF.2 _ _) (rra 1 (isK_le (ka0 hF)) (fun _ => rfl)) ?_
  refine wp_callV (As := [.ref (gB G + 1)]) (S := []) (b' := (0, 0)) (b := (0, 0)) dX10_save_21 MX10_254 (kc0 hF (isC3 G)) rfl rfl rfl rfl (Nat.le_of_ble_eq_true rfl) ?_
  exact e1

theorem bC_sv0 {G : Cx} {d : Nat} {m : Mm} {Q : Option Value → Mm → Prop}  (hF : Full G m) 
    (e1 : Q (some (.int (1 : Int32))) (wai m (gB G + 278) 0 (1 : Int32))) :
    WP G (d + 5) (0, 0) μX10_save 24 [.ref (gB G), .int (0 : Int32)] [] m Q := by
  refine wp_aload_n dX10_save_24 rfl ?_
  refine wp_getr (gB G + 278) dX10_save_25 fX10_23 (ka0 hF) (hF.2 _ _) (rra 278 (isK_le (ka0 hF)) (fun _ => rfl)) ?_
  refine wp_iload_n dX10_save_28 rfl ?_
  refine wp_iconst (1 : Int32) dX10_save_29 (by decide) ?_
  refine wp_zastk (n := 2) 0 dX10_save_30 (ka hF 278 (by decide)) (la 278) (vinl (by decide)) (Or.inr rfl) rfl ?_
  have hF1 := Full_wai (gB G + 278) 0 (1 : Int32) hF
  refine wp_iconst (1 : Int32) dX10_save_31 (by decide) ?_
  exact wp_zret dX10_save_32 rfl rfl (e1)

theorem eC_rs00 {G : Cx} {d : Nat} {m : Mm} {Q : Option Value → Mm → Prop}  (hF : Full G m) (hs : ai m (gB G + 278) 0 = (0 : Int32)) 
    (e1 : Q (some (.int (0 : Int32))) m) :
    WPM G (d + 5) (0, 0) μX10_restore [.ref (gB G), .int (0 : Int32)] m Q := by
  refine WPM.of pX10 (Nat.le_of_ble_eq_true rfl) rfl ?_
  refine wp_iload_n dX10_restore_0 rfl ?_
  refine wp_iconst (0 : Int32) dX10_restore_1 (by decide) ?_
  refine wp_iconst (1 : Int32) dX10_restore_2 (by decide) ?_
  refine wp_callS (As := [.int (0 : Int32), .int (0 : Int32), .int (1 : Int32)]) (S := []) (b' := (0, 0)) (b := (0, 0)) dX10_restore_3 MX10_35 rfl rfl (Nat.le_of_ble_eq_true rfl) ?_
  refine WPM.of pX10 (Nat.le_of_ble_eq_true rfl) rfl ?_
  refine wp_iload_n dX10_within_0 rfl ?_
  refine wp_iload_n dX10_within_1 rfl ?_
  refine wp_icmp_lt 14 dX10_within_2 (by decide) (fun q => absurd q (by decide)) (fun _ => ?_)
  refine wp_iload_n dX10_within_5 rfl ?_
  refine wp_iload_n dX10_within_6 rfl ?_
  refine wp_icmp_gt 14 dX10_within_7 (by decide) (fun q => absurd q (by decide)) (fun _ => ?_)
  refine wp_iconst (1 : Int32) dX10_within_10 (by decide) ?_
  refine wp_goto 15 dX10_within_11 (by decide) ?_
  refine wp_zret dX10_within_15 rfl rfl ?_
  show WP G (d + 5) (0, 0) μX10_restore 6 [.ref (gB G), .int (0 : Int32)] [.int (1 : Int32)] m _
  refine wp_if_eq 18 dX10_restore_6 (by decide) (fun q => absurd q (by decide)) (fun _ => ?_)
  refine wp_aload_n dX10_restore_9 rfl ?_
  refine wp_getr (gB G + 278) dX10_restore_10 fX10_23 (ka0 hF) (hF.2 _ _) (rra 278 (isK_le (ka0 hF)) (fun _ => rfl)) ?_
  refine wp_iload_n dX10_restore_13 rfl ?_
  refine wp_zaldk (n := 2) 0 (0 : Int32) dX10_restore_14 (ka hF 278 (by decide)) (la 278) (vinl (by decide)) rfl hs ?_
  refine wp_if_ne 20 dX10_restore_15 (by decide) (fun q => absurd (by decide) q) (fun _ => ?_)
  refine wp_iconst (0 : Int32) dX10_restore_18 (by decide) ?_
  exact wp_zret dX10_restore_19 rfl rfl (e1)

theorem eC_rs01 {G : Cx} {d : Nat} {m : Mm} {Q : Option Value → Mm → Prop}  (hF : Full G m) (hs : ai m (gB G + 278) 0 = (1 : Int32)) 
    (e1 : WPM G (d + 4) (0, 0) μX0_copyFrom [.ref (gB G + 1), .ref (gB G + 140)] m (fun r' m' => WP G (d + 5) (0, 0) μX10_restore 33 [lvU, lvU] (r'.toList ++ []) m' Q)) :
    WPM G (d + 5) (0, 0) μX10_restore [.ref (gB G), .int (0 : Int32)] m Q := by
  refine WPM.of pX10 (Nat.le_of_ble_eq_true rfl) rfl ?_
  refine wp_iload_n dX10_restore_0 rfl ?_
  refine wp_iconst (0 : Int32) dX10_restore_1 (by decide) ?_
  refine wp_iconst (1 : Int32) dX10_restore_2 (by decide) ?_
  refine wp_callS (As := [.int (0 : Int32), .int (0 : Int32), .int (1 : Int32)]) (S := []) (b' := (0, 0)) (b := (0, 0)) dX10_restore_3 MX10_35 rfl rfl (Nat.le_of_ble_eq_true rfl) ?_
  refine WPM.of pX10 (Nat.le_of_ble_eq_true rfl) rfl ?_
  refine wp_iload_n dX10_within_0 rfl ?_
  refine wp_iload_n dX10_within_1 rfl ?_
  refine wp_icmp_lt 14 dX10_within_2 (by decide) (fun q => absurd q (by decide)) (fun _ => ?_)
  refine wp_iload_n dX10_within_5 rfl ?_
  refine wp_iload_n dX10_within_6 rfl ?_
  refine wp_icmp_gt 14 dX10_within_7 (by decide) (fun q => absurd q (by decide)) (fun _ => ?_)
  refine wp_iconst (1 : Int32) dX10_within_10 (by decide) ?_
  refine wp_goto 15 dX10_within_11 (by decide) ?_
  refine wp_zret dX10_within_15 rfl rfl ?_
  show WP G (d + 5) (0, 0) μX10_restore 6 [.ref (gB G), .int (0 : Int32)] [.int (1 : Int32)] m _
  refine wp_if_eq 18 dX10_restore_6 (by decide) (fun q => absurd q (by decide)) (fun _ => ?_)
  refine wp_aload_n dX10_restore_9 rfl ?_
  refine wp_getr (gB G + 278) dX10_restore_10 fX10_23 (ka0 hF) (hF.2 _ _) (rra 278 (isK_le (ka0 hF)) (fun _ => rfl)) ?_
  refine wp_iload_n dX10_restore_13 rfl ?_
  refine wp_zaldk (n := 2) 0 (1 : Int32) dX10_restore_14 (ka hF 278 (by decide)) (la 278) (vinl (by decide)) rfl hs ?_
  refine wp_if_ne 20 dX10_restore_15 (by decide) (fun _ => ?_) (fun q => absurd q (by decide))
  refine wp_aload_n dX10_restore_20 rfl ?_
  refine wp_getr (gB G + 1) dX10_restore_21 fX10_10 (ka0 hF) (hF.2 _ _) (rra 1 (isK_le (ka0 hF)) (fun _ => rfl)) ?_
  refine wp_aload_n dX10_restore_24 rfl ?_
  refine wp_getr (gB G + 139) dX10_restore_25 fX10_19 (ka0 hF) (hF.2 _ _) (rra 139 (isK_le (ka0 hF)) (fun _ => rfl)) ?_
  refine wp_iload_n dX10_restore_28 rfl ?_
  refine wp_raldk (n := 2) 0 (gB G + 140) dX10_restore_29 (ka hF 139 (by decide)) (by decide) (by decide) (la 139) (vinl (by decide)) rfl (hF.2 _ _) (rsv (0 : Int32) hF (Or.inl rfl)) ?_
  refine wp_forget [lvU, lvU] ⟨Or.inr rfl, Or.inr rfl, trivial⟩ ?_
  refine wp_callV (As := [.ref (gB G + 140)]) (S := []) (b' := (0, 0)) (b := (0, 0)) dX10_restore_30 MX10_254 (kc0 hF (isC1 G)) rfl rfl rfl rfl (Nat.le_of_ble_eq_true rfl) ?_
  exact e1

theorem bC_rs0 {G : Cx} {d : Nat} {m : Mm} {Q : Option Value → Mm → Prop}  (hF : Full G m) 
    (e1 : Q (some (.int (1 : Int32))) m) :
    WP G (d + 5) (0, 0) μX10_restore 33 [lvU, lvU] [] m Q := by
  refine wp_iconst (1 : Int32) dX10_restore_33 (by decide) ?_
  exact wp_zret dX10_restore_34 rfl rfl (e1)

theorem eM_sv0 {G : Cx} {d : Nat} {m : Mm} {Q : Option Value → Mm → Prop}  (hF : Full G m) 
    (e1 : WP G (d + 3) (0, 0) μX11_save 13 [.ref (gB G + 293), .int (0 : Int32), .int (0 : Int32)] [] m Q) :
    WPM G (d + 3) (0, 0) μX11_save [.ref (gB G + 293), .int (0 : Int32)] m Q := by
  refine WPM.of pX11 (Nat.le_of_ble_eq_true rfl) rfl ?_
  refine wp_iload_n dX11_save_0 rfl ?_
  refine wp_iconst (0 : Int32) dX11_save_1 (by decide) ?_
  refine wp_iconst (1 : Int32) dX11_save_2 (by decide) ?_
  refine wp_callS (As := [.int (0 : Int32), .int (0 : Int32), .int (1 : Int32)]) (S := []) (b' := (0, 0)) (b := (0, 0)) dX11_save_3 MX11_67 rfl rfl (Nat.le_of_ble_eq_true rfl) ?_
  refine WPM.of pX11 (Nat.le_of_ble_eq_true rfl) rfl ?_
  refine wp_iload_n dX11_isBetween_0 rfl ?_
  refine wp_iload_n dX11_isBetween_1 rfl ?_
  refine wp_icmp_lt 14 dX11_isBetween_2 (by decide) (fun q => absurd q (by decide)) (fun _ => ?_)
  refine wp_iload_n dX11_isBetween_5 rfl ?_
  refine wp_iload_n dX11_isBetween_6 rfl ?_
  refine wp_icmp_gt 14 dX11_isBetween_7 (by decide) (fun q => absurd q (by decide)) (fun _ => ?_)
  refine wp_iconst (1 : Int32) dX11_isBetween_10 (by decide) ?_
  refine wp_goto 15 dX11_isBetween_11 (by decide) ?_
  refine wp_zret dX11_isBetween_15 rfl rfl ?_
  show WP G (d + 3) (0, 0) μX11_save 6 [.ref (gB G + 293), .int (0 : Int32), lvU] [.int (1 : Int32)] m _
  refine wp_if_ne 11 dX11_save_6 (by decide) (fun _ => ?_) (fun q => absurd q (by decide))
  refine wp_iconst (0 : Int32) dX11_save_11 (by decide) ?_
  refine wp_istore_n dX11_save_12 (by decide) rfl ?_
  refine wp_forget [.ref (gB G + 293), .int (0 : Int32), .int (0 : Int32)] ⟨Or.inl rfl, Or.inl rfl, Or.inl rfl, trivial⟩ ?_
  exact e1

theorem bM_sv0 {G : Cx} {d : Nat} {m : Mm} {Q : Option Value → Mm → Prop} {j : Nat}  (hF : Full G m) (hj : j ≤ 1486) 
    (e1 : ¬ j < 1486 → WP G (d + 3) (0, 0) μX11_save 46 [.ref (gB G + 293), .int (0 : Int32), .int (0 : Int32)] [] m Q)
    (e2 : j < 1486 → WP G (d + 3) (0, 0) μX11_save 13 [.ref (gB G + 293), .int (0 : Int32), .int (nI (j + 1))] [] (wai m (gB G + 296) j (ai m (gB G + 294) j)) Q) :
    WP G (d + 3) (0, 0) μX11_save 13 [.ref (gB G + 293), .int (0 : Int32), .int (nI j)] [] m Q := by
  refine wp_iload_n dX11_save_13 rfl ?_
  refine wp_sipush (1486 : Int32) dX11_save_14 (by decide) ?_
  refine wp_icmp_ge 44 dX11_save_17 (by decide) (fun q1 => ?_) (fun q2 => ?_)
  · have hp3 : ¬ j < 1486 := (fun z => q1 (nlt_ (b := 1486) z (by omega)))
    refine wp_iconst (0 : Int32) dX11_save_44 (by decide) ?_
    refine wp_istore_n dX11_save_45 (by decide) rfl ?_
    refine wp_forget [.ref (gB G + 293), .int (0 : Int32), .int (0 : Int32)] ⟨Or.inl rfl, Or.inl rfl, Or.inl rfl, trivial⟩ ?_
    exact e1 hp3
  · have hp4 : j < 1486 := (nlt q2 (by omega) (by omega))
    refine wp_aload_n dX11_save_20 rfl ?_
    refine wp_getr (gB G + 296) dX11_save_21 fX11_16 (ka hF 293 (by decide)) (hF.2 _ _) (rra 3 (isK_le (ka hF 293 (by decide))) (fun _ => rfl)) ?_
    refine wp_sipush (1486 : Int32) dX11_save_24 (by decide) ?_
    refine wp_iload_n dX11_save_27 rfl ?_
    refine wp_imulv (0 : Int32) dX11_save_28 (by decide) ?_
    refine wp_iload_n dX11_save_29 rfl ?_
    refine wp_iaddv (nI j) dX11_save_30 (nadd (a := 0) (b := j) (by omega)) ?_
    refine wp_aload_n dX11_save_31 rfl ?_
    refine wp_getr (gB G + 294) dX11_save_32 fX11_7 (ka hF 293 (by decide)) (hF.2 _ _) (rra 1 (isK_le (ka hF 293 (by decide))) (fun _ => rfl)) ?_
    refine wp_iload_n dX11_save_35 rfl ?_
    refine wp_ialdk (n := 1486) j (ai m (gB G + 294) j) dX11_save_36 (ka hF 294 (by decide)) (la 294) (vin (by omega) (by decide)) (nIc (by omega)) rfl ?_
    refine wp_iastk (n := 2972) j dX11_save_37 (ka hF 296 (by decide)) (la 296) (vin (by omega) (by decide))  (nIc (by omega)) ?_
    have hF5 := Full_wai (gB G + 296) j (ai m (gB G + 294) j) hF
    refine wp_iinc (nI (j + 1)) dX11_save_38 rfl (by decide) (nadd (a := j) (b := 1) (by omega)) rfl ?_
    refine wp_goto 13 dX11_save_41 (by decide) ?_
    refine wp_forget [.ref (gB G + 293), .int (0 : Int32), .int (nI (j + 1))] ⟨Or.inl rfl, Or.inl rfl, Or.inl rfl, trivial⟩ ?_
    exact e2 hp4

theorem cM_sv0 {G : Cx} {d : Nat} {m : Mm} {Q : Option Value → Mm → Prop} {j : Nat}  (hF : Full G m) (hj : j ≤ 3) 
    (e1 : ¬ j < 3 → Q (some (.int (1 : Int32))) (wai m (gB G + 300) 0 (1 : Int32)))
    (e2 : j < 3 → WP G (d + 3) (0, 0) μX11_save 46 [.ref (gB G + 293), .int (0 : Int32), .int (nI (j + 1))] [] (wal m (gB G + 299) j (al m (gB G + 297) j)) Q) :
    WP G (d + 3) (0, 0) μX11_save 46 [.ref (gB G + 293), .int (0 : Int32), .int (nI j)] [] m Q := by
  refine wp_iload_n dX11_save_46 rfl ?_
  refine wp_iconst (3 : Int32) dX11_save_47 (by decide) ?_
  refine wp_icmp_ge 73 dX11_save_48 (by decide) (fun q1 => ?_) (fun q2 => ?_)
  · have hp3 : ¬ j < 3 := (fun z => q1 (nlt_ (b := 3) z (by omega)))
    refine wp_aload_n dX11_save_73 rfl ?_
    refine wp_getr (gB G + 300) dX11_save_74 fX11_29 (ka hF 293 (by decide)) (hF.2 _ _) (rra 7 (isK_le (ka hF 293 (by decide))) (fun _ => rfl)) ?_
    refine wp_iload_n dX11_save_77 rfl ?_
    refine wp_iconst (1 : Int32) dX11_save_78 (by decide) ?_
    refine wp_zastk (n := 2) 0 dX11_save_79 (ka hF 300 (by decide)) (la 300) (vinl (by decide)) (Or.inr rfl) rfl ?_
    have hF4 := Full_wai (gB G + 300) 0 (1 : Int32) hF
    refine wp_iconst (1 : Int32) dX11_save_80 (by decide) ?_
    exact wp_zret dX11_save_81 rfl rfl (e1 hp3)
  · have hp5 : j < 3 := (nlt q2 (by omega) (by omega))
    refine wp_aload_n dX11_save_51 rfl ?_
    refine wp_getr (gB G + 299) dX11_save_52 fX11_26 (ka hF 293 (by decide)) (hF.2 _ _) (rra 6 (isK_le (ka hF 293 (by decide))) (fun _ => rfl)) ?_
    refine wp_iconst (3 : Int32) dX11_save_55 (by decide) ?_
    refine wp_iload_n dX11_save_56 rfl ?_
    refine wp_imulv (0 : Int32) dX11_save_57 (by decide) ?_
    refine wp_iload_n dX11_save_58 rfl ?_
    refine wp_iaddv (nI j) dX11_save_59 (nadd (a := 0) (b := j) (by omega)) ?_
    refine wp_aload_n dX11_save_60 rfl ?_
    refine wp_getr (gB G + 297) dX11_save_61 fX11_19 (ka hF 293 (by decide)) (hF.2 _ _) (rra 4 (isK_le (ka hF 293 (by decide))) (fun _ => rfl)) ?_
    refine wp_iload_n dX11_save_64 rfl ?_
    refine wp_laldk (n := 3) j (al m (gB G + 297) j) dX11_save_65 (ka hF 297 (by decide)) (la 297) (vin (by omega) (by decide)) (nIc (by omega)) rfl ?_
    refine wp_lastk (n := 6) j dX11_save_66 (ka hF 299 (by decide)) (la 299) (vin (by omega) (by decide))  (nIc (by omega)) ?_
    have hF6 := Full_wal (gB G + 299) j (al m (gB G + 297) j) hF
    refine wp_iinc (nI (j + 1)) dX11_save_67 rfl (by decide) (nadd (a := j) (b := 1) (by omega)) rfl ?_
    refine wp_goto 46 dX11_save_70 (by decide) ?_
    refine wp_forget [.ref (gB G + 293), .int (0 : Int32), .int (nI (j + 1))] ⟨Or.inl rfl, Or.inl rfl, Or.inl rfl, trivial⟩ ?_
    exact e2 hp5

theorem eM_rs00 {G : Cx} {d : Nat} {m : Mm} {Q : Option Value → Mm → Prop}  (hF : Full G m) (hs : ai m (gB G + 300) 0 = (0 : Int32)) 
    (e1 : Q (some (.int (0 : Int32))) m) :
    WPM G (d + 3) (0, 0) μX11_restore [.ref (gB G + 293), .int (0 : Int32)] m Q := by
  refine WPM.of pX11 (Nat.le_of_ble_eq_true rfl) rfl ?_
  refine wp_iload_n dX11_restore_0 rfl ?_
  refine wp_iconst (0 : Int32) dX11_restore_1 (by decide) ?_
  refine wp_iconst (1 : Int32) dX11_restore_2 (by decide) ?_
  refine wp_callS (As := [.int (0 : Int32), .int (0 : Int32), .int (1 : Int32)]) (S := []) (b' := (0, 0)) (b := (0, 0)) dX11_restore_3 MX11_67 rfl rfl (Nat.le_of_ble_eq_true rfl) ?_
  refine WPM.of pX11 (Nat.le_of_ble_eq_true rfl) rfl ?_
  refine wp_iload_n dX11_isBetween_0 rfl ?_
  refine wp_iload_n dX11_isBetween_1 rfl ?_
  refine wp_icmp_lt 14 dX11_isBetween_2 (by decide) (fun q => absurd q (by decide)) (fun _ => ?_)
  refine wp_iload_n dX11_isBetween_5 rfl ?_
  refine wp_iload_n dX11_isBetween_6 rfl ?_
  refine wp_icmp_gt 14 dX11_isBetween_7 (by decide) (fun q => absurd q (by decide)) (fun _ => ?_)
  refine wp_iconst (1 : Int32) dX11_isBetween_10 (by decide) ?_
  refine wp_goto 15 dX11_isBetween_11 (by decide) ?_
  refine wp_zret dX11_isBetween_15 rfl rfl ?_
  show WP G (d + 3) (0, 0) μX11_restore 6 [.ref (gB G + 293), .int (0 : Int32), lvU] [.int (1 : Int32)] m _
  refine wp_if_eq 18 dX11_restore_6 (by decide) (fun q => absurd q (by decide)) (fun _ => ?_)
  refine wp_aload_n dX11_restore_9 rfl ?_
  refine wp_getr (gB G + 300) dX11_restore_10 fX11_29 (ka hF 293 (by decide)) (hF.2 _ _) (rra 7 (isK_le (ka hF 293 (by decide))) (fun _ => rfl)) ?_
  refine wp_iload_n dX11_restore_13 rfl ?_
  refine wp_zaldk (n := 2) 0 (0 : Int32) dX11_restore_14 (ka hF 300 (by decide)) (la 300) (vinl (by decide)) rfl hs ?_
  refine wp_if_ne 20 dX11_restore_15 (by decide) (fun q => absurd (by decide) q) (fun _ => ?_)
  refine wp_iconst (0 : Int32) dX11_restore_18 (by decide) ?_
  exact wp_zret dX11_restore_19 rfl rfl (e1)

theorem eM_rs01 {G : Cx} {d : Nat} {m : Mm} {Q : Option Value → Mm → Prop}  (hF : Full G m) (hs : ai m (gB G + 300) 0 = (1 : Int32)) 
    (e1 : WP G (d + 3) (0, 0) μX11_restore 22 [.ref (gB G + 293), .int (0 : Int32), .int (0 : Int32)] [] m Q) :
    WPM G (d + 3) (0, 0) μX11_restore [.ref (gB G + 293), .int (0 : Int32)] m Q := by
  refine WPM.of pX11 (Nat.le_of_ble_eq_true rfl) rfl ?_
  refine wp_iload_n dX11_restore_0 rfl ?_
  refine wp_iconst (0 : Int32) dX11_restore_1 (by decide) ?_
  refine wp_iconst (1 : Int32) dX11_restore_2 (by decide) ?_
  refine wp_callS (As := [.int (0 : Int32), .int (0 : Int32), .int (1 : Int32)]) (S := []) (b' := (0, 0)) (b := (0, 0)) dX11_restore_3 MX11_67 rfl rfl (Nat.le_of_ble_eq_true rfl) ?_
  refine WPM.of pX11 (Nat.le_of_ble_eq_true rfl) rfl ?_
  refine wp_iload_n dX11_isBetween_0 rfl ?_
  refine wp_iload_n dX11_isBetween_1 rfl ?_
  refine wp_icmp_lt 14 dX11_isBetween_2 (by decide) (fun q => absurd q (by decide)) (fun _ => ?_)
  refine wp_iload_n dX11_isBetween_5 rfl ?_
  refine wp_iload_n dX11_isBetween_6 rfl ?_
  refine wp_icmp_gt 14 dX11_isBetween_7 (by decide) (fun q => absurd q (by decide)) (fun _ => ?_)
  refine wp_iconst (1 : Int32) dX11_isBetween_10 (by decide) ?_
  refine wp_goto 15 dX11_isBetween_11 (by decide) ?_
  refine wp_zret dX11_isBetween_15 rfl rfl ?_
  show WP G (d + 3) (0, 0) μX11_restore 6 [.ref (gB G + 293), .int (0 : Int32), lvU] [.int (1 : Int32)] m _
  refine wp_if_eq 18 dX11_restore_6 (by decide) (fun q => absurd q (by decide)) (fun _ => ?_)
  refine wp_aload_n dX11_restore_9 rfl ?_
  refine wp_getr (gB G + 300) dX11_restore_10 fX11_29 (ka hF 293 (by decide)) (hF.2 _ _) (rra 7 (isK_le (ka hF 293 (by decide))) (fun _ => rfl)) ?_
  refine wp_iload_n dX11_restore_13 rfl ?_
  refine wp_zaldk (n := 2) 0 (1 : Int32) dX11_restore_14 (ka hF 300 (by decide)) (la 300) (vinl (by decide)) rfl hs ?_
  refine wp_if_ne 20 dX11_restore_15 (by decide) (fun _ => ?_) (fun q => absurd q (by decide))
  refine wp_iconst (0 : Int32) dX11_restore_20 (by decide) ?_
  refine wp_istore_n dX11_restore_21 (by decide) rfl ?_
  refine wp_forget [.ref (gB G + 293), .int (0 : Int32), .int (0 : Int32)] ⟨Or.inl rfl, Or.inl rfl, Or.inl rfl, trivial⟩ ?_
  exact e1

theorem bM_rs0 {G : Cx} {d : Nat} {m : Mm} {Q : Option Value → Mm → Prop} {j : Nat}  (hF : Full G m) (hj : j ≤ 1486) 
    (e1 : ¬ j < 1486 → WP G (d + 3) (0, 0) μX11_restore 55 [.ref (gB G + 293), .int (0 : Int32), .int (0 : Int32)] [] m Q)
    (e2 : j < 1486 → WP G (d + 3) (0, 0) μX11_restore 22 [.ref (gB G + 293), .int (0 : Int32), .int (nI (j + 1))] [] (wai m (gB G + 294) j (ai m (gB G + 296) j)) Q) :
    WP G (d + 3) (0, 0) μX11_restore 22 [.ref (gB G + 293), .int (0 : Int32), .int (nI j)] [] m Q := by
  refine wp_iload_n dX11_restore_22 rfl ?_
  refine wp_sipush (1486 : Int32) dX11_restore_23 (by decide) ?_
  refine wp_icmp_ge 53 dX11_restore_26 (by decide) (fun q1 => ?_) (fun q2 => ?_)
  · have hp3 : ¬ j < 1486 := (fun z => q1 (nlt_ (b := 1486) z (by omega)))
    refine wp_iconst (0 : Int32) dX11_restore_53 (by decide) ?_
    refine wp_istore_n dX11_restore_54 (by decide) rfl ?_
    refine wp_forget [.ref (gB G + 293), .int (0 : Int32), .int (0 : Int32)] ⟨Or.inl rfl, Or.inl rfl, Or.inl rfl, trivial⟩ ?_
    exact e1 hp3
  · have hp4 : j < 1486 := (nlt q2 (by omega) (by omega))
    refine wp_aload_n dX11_restore_29 rfl ?_
    refine wp_getr (gB G + 294) dX11_restore_30 fX11_7 (ka hF 293 (by decide)) (hF.2 _ _) (rra 1 (isK_le (ka hF 293 (by decide))) (fun _ => rfl)) ?_
    refine wp_iload_n dX11_restore_33 rfl ?_
    refine wp_aload_n dX11_restore_34 rfl ?_
    refine wp_getr (gB G + 296) dX11_restore_35 fX11_16 (ka hF 293 (by decide)) (hF.2 _ _) (rra 3 (isK_le (ka hF 293 (by decide))) (fun _ => rfl)) ?_
    refine wp_sipush (1486 : Int32) dX11_restore_38 (by decide) ?_
    refine wp_iload_n dX11_restore_41 rfl ?_
    refine wp_imulv (0 : Int32) dX11_restore_42 (by decide) ?_
    refine wp_iload_n dX11_restore_43 rfl ?_
    refine wp_iaddv (nI j) dX11_restore_44 (nadd (a := 0) (b := j) (by omega)) ?_
    refine wp_ialdk (n := 2972) j (ai m (gB G + 296) j) dX11_restore_45 (ka hF 296 (by decide)) (la 296) (vin (by omega) (by decide)) (nIc (by omega)) rfl ?_
    refine wp_iastk (n := 1486) j dX11_restore_46 (ka hF 294 (by decide)) (la 294) (vin (by omega) (by decide))  (nIc (by omega)) ?_
    have hF5 := Full_wai (gB G + 294) j (ai m (gB G + 296) j) hF
    refine wp_iinc (nI (j + 1)) dX11_restore_47 rfl (by decide) (nadd (a := j) (b := 1) (by omega)) rfl ?_
    refine wp_goto 22 dX11_restore_50 (by decide) ?_
    refine wp_forget [.ref (gB G + 293), .int (0 : Int32), .int (nI (j + 1))] ⟨Or.inl rfl, Or.inl rfl, Or.inl rfl, trivial⟩ ?_
    exact e2 hp4

theorem cM_rs0 {G : Cx} {d : Nat} {m : Mm} {Q : Option Value → Mm → Prop} {j : Nat}  (hF : Full G m) (hj : j ≤ 3) 
    (e1 : ¬ j < 3 → Q (some (.int (1 : Int32))) m)
    (e2 : j < 3 → WP G (d + 3) (0, 0) μX11_restore 55 [.ref (gB G + 293), .int (0 : Int32), .int (nI (j + 1))] [] (wal m (gB G + 297) j (al m (gB G + 299) j)) Q) :
    WP G (d + 3) (0, 0) μX11_restore 55 [.ref (gB G + 293), .int (0 : Int32), .int (nI j)] [] m Q := by
  refine wp_iload_n dX11_restore_55 rfl ?_
  refine wp_iconst (3 : Int32) dX11_restore_56 (by decide) ?_
  refine wp_icmp_ge 82 dX11_restore_57 (by decide) (fun q1 => ?_) (fun q2 => ?_)
  · have hp3 : ¬ j < 3 := (fun z => q1 (nlt_ (b := 3) z (by omega)))
    refine wp_iconst (1 : Int32) dX11_restore_82 (by decide) ?_
    exact wp_zret dX11_restore_83 rfl rfl (e1 hp3)
  · have hp4 : j < 3 := (nlt q2 (by omega) (by omega))
    refine wp_aload_n dX11_restore_60 rfl ?_
    refine wp_getr (gB G + 297) dX11_restore_61 fX11_19 (ka hF 293 (by decide)) (hF.2 _ _) (rra 4 (isK_le (ka hF 293 (by decide))) (fun _ => rfl)) ?_
    refine wp_iload_n dX11_restore_64 rfl ?_
    refine wp_aload_n dX11_restore_65 rfl ?_
    refine wp_getr (gB G + 299) dX11_restore_66 fX11_26 (ka hF 293 (by decide)) (hF.2 _ _) (rra 6 (isK_le (ka hF 293 (by decide))) (fun _ => rfl)) ?_
    refine wp_iconst (3 : Int32) dX11_restore_69 (by decide) ?_
    refine wp_iload_n dX11_restore_70 rfl ?_
    refine wp_imulv (0 : Int32) dX11_restore_71 (by decide) ?_
    refine wp_iload_n dX11_restore_72 rfl ?_
    refine wp_iaddv (nI j) dX11_restore_73 (nadd (a := 0) (b := j) (by omega)) ?_
    refine wp_laldk (n := 6) j (al m (gB G + 299) j) dX11_restore_74 (ka hF 299 (by decide)) (la 299) (vin (by omega) (by decide)) (nIc (by omega)) rfl ?_
    refine wp_lastk (n := 3) j dX11_restore_75 (ka hF 297 (by decide)) (la 297) (vin (by omega) (by decide))  (nIc (by omega)) ?_
    have hF5 := Full_wal (gB G + 297) j (al m (gB G + 299) j) hF
    refine wp_iinc (nI (j + 1)) dX11_restore_76 rfl (by decide) (nadd (a := j) (b := 1) (by omega)) rfl ?_
    refine wp_goto 55 dX11_restore_79 (by decide) ?_
    refine wp_forget [.ref (gB G + 293), .int (0 : Int32), .int (nI (j + 1))] ⟨Or.inl rfl, Or.inl rfl, Or.inl rfl, trivial⟩ ?_
    exact e2 hp4

theorem eC_sv1 {G : Cx} {d : Nat} {m : Mm} {Q : Option Value → Mm → Prop}  (hF : Full G m) 
    (e1 : WPM G (d + 4) (0, 0) μX0_copyFrom [.ref (gB G + 209), .ref (gB G + 1)] m (fun r' m' => WP G (d + 5) (0, 0) μX10_save 24 [.ref (gB G), .int (1 : Int32)] (r'.toList ++ []) m' Q)) :
    WPM G (d + 5) (0, 0) μX10_save [.ref (gB G), .int (1 : Int32)] m Q := by
  refine WPM.of pX10 (Nat.le_of_ble_eq_true rfl) rfl ?_
  refine wp_iload_n dX10_save_0 rfl ?_
  refine wp_iconst (0 : Int32) dX10_save_1 (by decide) ?_
  refine wp_iconst (1 : Int32) dX10_save_2 (by decide) ?_
  refine wp_callS (As := [.int (1 : Int32), .int (0 : Int32), .int (1 : Int32)]) (S := []) (b' := (0, 0)) (b := (0, 0)) dX10_save_3 MX10_35 rfl rfl (Nat.le_of_ble_eq_true rfl) ?_
  refine WPM.of pX10 (Nat.le_of_ble_eq_true rfl) rfl ?_
  refine wp_iload_n dX10_within_0 rfl ?_
  refine wp_iload_n dX10_within_1 rfl ?_
  refine wp_icmp_lt 14 dX10_within_2 (by decide) (fun q => absurd q (by decide)) (fun _ => ?_)
  refine wp_iload_n dX10_within_5 rfl ?_
  refine wp_iload_n dX10_within_6 rfl ?_
  refine wp_icmp_gt 14 dX10_within_7 (by decide) (fun q => absurd q (by decide)) (fun _ => ?_)
  refine wp_iconst (1 : Int32) dX10_within_10 (by decide) ?_
  refine wp_goto 15 dX10_within_11 (by decide) ?_
  refine wp_zret dX10_within_15 rfl rfl ?_
  show WP G (d + 5) (0, 0) μX10_save 6 [.ref (gB G), .int (1 : Int32)] [.int (1 : Int32)] m _
  refine wp_if_ne 11 dX10_save_6 (by decide) (fun _ => ?_) (fun q => absurd q (by decide))
  refine wp_aload_n dX10_save_11 rfl ?_
  refine wp_getr (gB G + 139) dX10_save_12 fX10_19 (ka0 hF) (hF.2 _ _) (rra 139 (isK_le (ka0 hF)) (fun _ => rfl)) ?_
  refine wp_iload_n dX10_save_15 rfl ?_
  refine wp_raldk (n := 2) 1 (gB G + 209) dX10_save_16 (ka hF 139 (by decide)) (by decide) (by decide) (la 139) (vinl (by decide)) rfl (hF.2 _ _) (rsv (1 : Int32) hF (Or.inr rfl)) ?_
  refine wp_aload_n dX10_save_17 rfl ?_
  refine wp_getr (gB G + 1) dX10_save_18 fX10_10 (ka0 hF) (hF.2 _ _) (rra 1 (isK_le (ka0 hF)) (fun _ => rfl)) ?_
  refine wp_callV (As := [.ref (gB G + 1)]) (S := []) (b' := (0, 0)) (b := (0, 0)) dX10_save_21 MX10_254 (kc0 hF (isC4 G)) rfl rfl rfl rfl (Nat.le_of_ble_eq_true rfl) ?_
  exact e1

theorem bC_sv1 {G : Cx} {d : Nat} {m : Mm} {Q : Option Value → Mm → Prop}  (hF : Full G m) 
    (e1 : Q (some (.int (1 : Int32))) (wai m (gB G + 278) 1 (1 : Int32))) :
    WP G (d + 5) (0, 0) μX10_save 24 [.ref (gB G), .int (1 : Int32)] [] m Q := by
  refine wp_aload_n dX10_save_24 rfl ?_
  refine wp_getr (gB G + 278) dX10_save_25 fX10_23 (ka0 hF) (hF.2 _ _) (rra 278 (isK_le (ka0 hF)) (fun _ => rfl)) ?_
  refine wp_iload_n dX10_save_28 rfl ?_
  refine wp_iconst (1 : Int32) dX10_save_29 (by decide) ?_
  refine wp_zastk (n := 2) 1 dX10_save_30 (ka hF 278 (by decide)) (la 278) (vinl (by decide)) (Or.inr rfl) rfl ?_
  have hF1 := Full_wai (gB G + 278) 1 (1 : Int32) hF
  refine wp_iconst (1 : Int32) dX10_save_31 (by decide) ?_
  exact wp_zret dX10_save_32 rfl rfl (e1)

theorem eC_rs10 {G : Cx} {d : Nat} {m : Mm} {Q : Option Value → Mm → Prop}  (hF : Full G m) (hs : ai m (gB G + 278) 1 = (0 : Int32)) 
    (e1 : Q (some (.int (0 : Int32))) m) :
    WPM G (d + 5) (0, 0) μX10_restore [.ref (gB G), .int (1 : Int32)] m Q := by
  refine WPM.of pX10 (Nat.le_of_ble_eq_true rfl) rfl ?_
  refine wp_iload_n dX10_restore_0 rfl ?_
  refine wp_iconst (0 : Int32) dX10_restore_1 (by decide) ?_
  refine wp_iconst (1 : Int32) dX10_restore_2 (by decide) ?_
  refine wp_callS (As := [.int (1 : Int32), .int (0 : Int32), .int (1 : Int32)]) (S := []) (b' := (0, 0)) (b := (0, 0)) dX10_restore_3 MX10_35 rfl rfl (Nat.le_of_ble_eq_true rfl) ?_
  refine WPM.of pX10 (Nat.le_of_ble_eq_true rfl) rfl ?_
  refine wp_iload_n dX10_within_0 rfl ?_
  refine wp_iload_n dX10_within_1 rfl ?_
  refine wp_icmp_lt 14 dX10_within_2 (by decide) (fun q => absurd q (by decide)) (fun _ => ?_)
  refine wp_iload_n dX10_within_5 rfl ?_
  refine wp_iload_n dX10_within_6 rfl ?_
  refine wp_icmp_gt 14 dX10_within_7 (by decide) (fun q => absurd q (by decide)) (fun _ => ?_)
  refine wp_iconst (1 : Int32) dX10_within_10 (by decide) ?_
  refine wp_goto 15 dX10_within_11 (by decide) ?_
  refine wp_zret dX10_within_15 rfl rfl ?_
  show WP G (d + 5) (0, 0) μX10_restore 6 [.ref (gB G), .int (1 : Int32)] [.int (1 : Int32)] m _
  refine wp_if_eq 18 dX10_restore_6 (by decide) (fun q => absurd q (by decide)) (fun _ => ?_)
  refine wp_aload_n dX10_restore_9 rfl ?_
  refine wp_getr (gB G + 278) dX10_restore_10 fX10_23 (ka0 hF) (hF.2 _ _) (rra 278 (isK_le (ka0 hF)) (fun _ => rfl)) ?_
  refine wp_iload_n dX10_restore_13 rfl ?_
  refine wp_zaldk (n := 2) 1 (0 : Int32) dX10_restore_14 (ka hF 278 (by decide)) (la 278) (vinl (by decide)) rfl hs ?_
  refine wp_if_ne 20 dX10_restore_15 (by decide) (fun q => absurd (by decide) q) (fun _ => ?_)
  refine wp_iconst (0 : Int32) dX10_restore_18 (by decide) ?_
  exact wp_zret dX10_restore_19 rfl rfl (e1)

theorem eC_rs11 {G : Cx} {d : Nat} {m : Mm} {Q : Option Value → Mm → Prop}  (hF : Full G m) (hs : ai m (gB G + 278) 1 = (1 : Int32)) 
    (e1 : WPM G (d + 4) (0, 0) μX0_copyFrom [.ref (gB G + 1), .ref (gB G + 209)] m (fun r' m' => WP G (d + 5) (0, 0) μX10_restore 33 [lvU, lvU] (r'.toList ++ []) m' Q)) :
    WPM G (d + 5) (0, 0) μX10_restore [.ref (gB G), .int (1 : Int32)] m Q := by
  refine WPM.of pX10 (Nat.le_of_ble_eq_true rfl) rfl ?_
  refine wp_iload_n dX10_restore_0 rfl ?_
  refine wp_iconst (0 : Int32) dX10_restore_1 (by decide) ?_
  refine wp_iconst (1 : Int32) dX10_restore_2 (by decide) ?_
  refine wp_callS (As := [.int (1 : Int32), .int (0 : Int32), .int (1 : Int32)]) (S := []) (b' := (0, 0)) (b := (0, 0)) dX10_restore_3 MX10_35 rfl rfl (Nat.le_of_ble_eq_true rfl) ?_
  refine WPM.of pX10 (Nat.le_of_ble_eq_true rfl) rfl ?_
  refine wp_iload_n dX10_within_0 rfl ?_
  refine wp_iload_n dX10_within_1 rfl ?_
  refine wp_icmp_lt 14 dX10_within_2 (by decide) (fun q => absurd q (by decide)) (fun _ => ?_)
  refine wp_iload_n dX10_within_5 rfl ?_
  refine wp_iload_n dX10_within_6 rfl ?_
  refine wp_icmp_gt 14 dX10_within_7 (by decide) (fun q => absurd q (by decide)) (fun _ => ?_)
  refine wp_iconst (1 : Int32) dX10_within_10 (by decide) ?_
  refine wp_goto 15 dX10_within_11 (by decide) ?_
  refine wp_zret dX10_within_15 rfl rfl ?_
  show WP G (d + 5) (0, 0) μX10_restore 6 [.ref (gB G), .int (1 : Int32)] [.int (1 : Int32)] m _
  refine wp_if_eq 18 dX10_restore_6 (by decide) (fun q => absurd q (by decide)) (fun _ => ?_)
  refine wp_aload_n dX10_restore_9 rfl ?_
  refine wp_getr (gB G + 278) dX10_restore_10 fX10_23 (ka0 hF) (hF.2 _ _) (rra 278 (isK_le (ka0 hF)) (fun _ => rfl)) ?_
  refine wp_iload_n dX10_restore_13 rfl ?_
  refine wp_zaldk (n := 2) 1 (1 : Int32) dX10_restore_14 (ka hF 278 (by decide)) (la 278) (vinl (by decide)) rfl hs ?_
  refine wp_if_ne 20 dX10_restore_15 (by decide) (fun _ => ?_) (fun q => absurd q (by decide))
  refine wp_aload_n dX10_restore_20 rfl ?_
  refine wp_getr (gB G + 1) dX10_restore_21 fX10_10 (ka0 hF) (hF.2 _ _) (rra 1 (isK_le (ka0 hF)) (fun _ => rfl)) ?_
  refine wp_aload_n dX10_restore_24 rfl ?_
  refine wp_getr (gB G + 139) dX10_restore_25 fX10_19 (ka0 hF) (hF.2 _ _) (rra 139 (isK_le (ka0 hF)) (fun _ => rfl)) ?_
  refine wp_iload_n dX10_restore_28 rfl ?_
  refine wp_raldk (n := 2) 1 (gB G + 209) dX10_restore_29 (ka hF 139 (by decide)) (by decide) (by decide) (la 139) (vinl (by decide)) rfl (hF.2 _ _) (rsv (1 : Int32) hF (Or.inr rfl)) ?_
  refine wp_forget [lvU, lvU] ⟨Or.inr rfl, Or.inr rfl, trivial⟩ ?_
  refine wp_callV (As := [.ref (gB G + 209)]) (S := []) (b' := (0, 0)) (b := (0, 0)) dX10_restore_30 MX10_254 (kc0 hF (isC1 G)) rfl rfl rfl rfl (Nat.le_of_ble_eq_true rfl) ?_
  exact e1

theorem bC_rs1 {G : Cx} {d : Nat} {m : Mm} {Q : Option Value → Mm → Prop}  (hF : Full G m) 
    (e1 : Q (some (.int (1 : Int32))) m) :
    WP G (d + 5) (0, 0) μX10_restore 33 [lvU, lvU] [] m Q := by
  refine wp_iconst (1 : Int32) dX10_restore_33 (by decide) ?_
  exact wp_zret dX10_restore_34 rfl rfl (e1)

theorem eM_sv1 {G : Cx} {d : Nat} {m : Mm} {Q : Option Value → Mm → Prop}  (hF : Full G m) 
    (e1 : WP G (d + 3) (0, 0) μX11_save 13 [.ref (gB G + 293), .int (1 : Int32), .int (0 : Int32)] [] m Q) :
    WPM G (d + 3) (0, 0) μX11_save [.ref (gB G + 293), .int (1 : Int32)] m Q := by
  refine WPM.of pX11 (Nat.le_of_ble_eq_true rfl) rfl ?_
  refine wp_iload_n dX11_save_0 rfl ?_
  refine wp_iconst (0 : Int32) dX11_save_1 (by decide) ?_
  refine wp_iconst (1 : Int32) dX11_save_2 (by decide) ?_
  refine wp_callS (As := [.int (1 : Int32), .int (0 : Int32), .int (1 : Int32)]) (S := []) (b' := (0, 0)) (b := (0, 0)) dX11_save_3 MX11_67 rfl rfl (Nat.le_of_ble_eq_true rfl) ?_
  refine WPM.of pX11 (Nat.le_of_ble_eq_true rfl) rfl ?_
  refine wp_iload_n dX11_isBetween_0 rfl ?_
  refine wp_iload_n dX11_isBetween_1 rfl ?_
  refine wp_icmp_lt 14 dX11_isBetween_2 (by decide) (fun q => absurd q (by decide)) (fun _ => ?_)
  refine wp_iload_n dX11_isBetween_5 rfl ?_
  refine wp_iload_n dX11_isBetween_6 rfl ?_
  refine wp_icmp_gt 14 dX11_isBetween_7 (by decide) (fun q => absurd q (by decide)) (fun _ => ?_)
  refine wp_iconst (1 : Int32) dX11_isBetween_10 (by decide) ?_
  refine wp_goto 15 dX11_isBetween_11 (by decide) ?_
  refine wp_zret dX11_isBetween_15 rfl rfl ?_
  show WP G (d + 3) (0, 0) μX11_save 6 [.ref (gB G + 293), .int (1 : Int32), lvU] [.int (1 : Int32)] m _
  refine wp_if_ne 11 dX11_save_6 (by decide) (fun _ => ?_) (fun q => absurd q (by decide))
  refine wp_iconst (0 : Int32) dX11_save_11 (by decide) ?_
  refine wp_istore_n dX11_save_12 (by decide) rfl ?_
  refine wp_forget [.ref (gB G + 293), .int (1 : Int32), .int (0 : Int32)] ⟨Or.inl rfl, Or.inl rfl, Or.inl rfl, trivial⟩ ?_
  exact e1

theorem bM_sv1 {G : Cx} {d : Nat} {m : Mm} {Q : Option Value → Mm → Prop} {j : Nat}  (hF : Full G m) (hj : j ≤ 1486) 
    (e1 : ¬ j < 1486 → WP G (d + 3) (0, 0) μX11_save 46 [.ref (gB G + 293), .int (1 : Int32), .int (0 : Int32)] [] m Q)
    (e2 : j < 1486 → WP G (d + 3) (0, 0) μX11_save 13 [.ref (gB G + 293), .int (1 : Int32), .int (nI (j + 1))] [] (wai m (gB G + 296) (j + 1486) (ai m (gB G + 294) j)) Q) :
    WP G (d + 3) (0, 0) μX11_save 13 [.ref (gB G + 293), .int (1 : Int32), .int (nI j)] [] m Q := by
  refine wp_iload_n dX11_save_13 rfl ?_
  refine wp_sipush (1486 : Int32) dX11_save_14 (by decide) ?_
  refine wp_icmp_ge 44 dX11_save_17 (by decide) (fun q1 => ?_) (fun q2 => ?_)
  · have hp3 : ¬ j < 1486 := (fun z => q1 (nlt_ (b := 1486) z (by omega)))
    refine wp_iconst (0 : Int32) dX11_save_44 (by decide) ?_
    refine wp_istore_n dX11_save_45 (by decide) rfl ?_
    refine wp_forget [.ref (gB G + 293), .int (1 : Int32), .int (0 : Int32)] ⟨Or.inl rfl, Or.inl rfl, Or.inl rfl, trivial⟩ ?_
    exact e1 hp3
  · have hp4 : j < 1486 := (nlt q2 (by omega) (by omega))
    refine wp_aload_n dX11_save_20 rfl ?_
    refine wp_getr (gB G + 296) dX11_save_21 fX11_16 (ka hF 293 (by decide)) (hF.2 _ _) (rra 3 (isK_le (ka hF 293 (by decide))) (fun _ => rfl)) ?_
    refine wp_sipush (1486 : Int32) dX11_save_24 (by decide) ?_
    refine wp_iload_n dX11_save_27 rfl ?_
    refine wp_imulv (1486 : Int32) dX11_save_28 (by decide) ?_
    refine wp_iload_n dX11_save_29 rfl ?_
    refine wp_iaddv (nI (j + 1486)) dX11_save_30 (nadd (a := 1486) (b := j) (by omega)) ?_
    refine wp_aload_n dX11_save_31 rfl ?_
    refine wp_getr (gB G + 294) dX11_save_32 fX11_7 (ka hF 293 (by decide)) (hF.2 _ _) (rra 1 (isK_le (ka hF 293 (by decide))) (fun _ => rfl)) ?_
    refine wp_iload_n dX11_save_35 rfl ?_
    refine wp_ialdk (n := 1486) j (ai m (gB G + 294) j) dX11_save_36 (ka hF 294 (by decide)) (la 294) (vin (by omega) (by decide)) (nIc (by omega)) rfl ?_
    refine wp_iastk (n := 2972) (j + 1486) dX11_save_37 (ka hF 296 (by decide)) (la 296) (vin (by omega) (by decide))  (nIc (by omega)) ?_
    have hF5 := Full_wai (gB G + 296) (j + 1486) (ai m (gB G + 294) j) hF
    refine wp_iinc (nI (j + 1)) dX11_save_38 rfl (by decide) (nadd (a := j) (b := 1) (by omega)) rfl ?_
    refine wp_goto 13 dX11_save_41 (by decide) ?_
    refine wp_forget [.ref (gB G + 293), .int (1 : Int32), .int (nI (j + 1))] ⟨Or.inl rfl, Or.inl rfl, Or.inl rfl, trivial⟩ ?_
    exact e2 hp4

theorem cM_sv1 {G : Cx} {d : Nat} {m : Mm} {Q : Option Value → Mm → Prop} {j : Nat}  (hF : Full G m) (hj : j ≤ 3) 
    (e1 : ¬ j < 3 → Q (some (.int (1 : Int32))) (wai m (gB G + 300) 1 (1 : Int32)))
    (e2 : j < 3 → WP G (d + 3) (0, 0) μX11_save 46 [.ref (gB G + 293), .int (1 : Int32), .int (nI (j + 1))] [] (wal m (gB G + 299) (j + 3) (al m (gB G + 297) j)) Q) :
    WP G (d + 3) (0, 0) μX11_save 46 [.ref (gB G + 293), .int (1 : Int32), .int (nI j)] [] m Q := by
  refine wp_iload_n dX11_save_46 rfl ?_
  refine wp_iconst (3 : Int32) dX11_save_47 (by decide) ?_
  refine wp_icmp_ge 73 dX11_save_48 (by decide) (fun q1 => ?_) (fun q2 => ?_)
  · have hp3 : ¬ j < 3 := (fun z => q1 (nlt_ (b := 3) z (by omega)))
    refine wp_aload_n dX11_save_73 rfl ?_
    refine wp_getr (gB G + 300) dX11_save_74 fX11_29 (ka hF 293 (by decide)) (hF.2 _ _) (rra 7 (isK_le (ka hF 293 (by decide))) (fun _ => rfl)) ?_
    refine wp_iload_n dX11_save_77 rfl ?_
    refine wp_iconst (1 : Int32) dX11_save_78 (by decide) ?_
    refine wp_zastk (n := 2) 1 dX11_save_79 (ka hF 300 (by decide)) (la 300) (vinl (by decide)) (Or.inr rfl) rfl ?_
    have hF4 := Full_wai (gB G + 300) 1 (1 : Int32) hF
    refine wp_iconst (1 : Int32) dX11_save_80 (by decide) ?_
    exact wp_zret dX11_save_81 rfl rfl (e1 hp3)
  · have hp5 : j < 3 := (nlt q2 (by omega) (by omega))
    refine wp_aload_n dX11_save_51 rfl ?_
    refine wp_getr (gB G + 299) dX11_save_52 fX11_26 (ka hF 293 (by decide)) (hF.2 _ _) (rra 6 (isK_le (ka hF 293 (by decide))) (fun _ => rfl)) ?_
    refine wp_iconst (3 : Int32) dX11_save_55 (by decide) ?_
    refine wp_iload_n dX11_save_56 rfl ?_
    refine wp_imulv (3 : Int32) dX11_save_57 (by decide) ?_
    refine wp_iload_n dX11_save_58 rfl ?_
    refine wp_iaddv (nI (j + 3)) dX11_save_59 (nadd (a := 3) (b := j) (by omega)) ?_
    refine wp_aload_n dX11_save_60 rfl ?_
    refine wp_getr (gB G + 297) dX11_save_61 fX11_19 (ka hF 293 (by decide)) (hF.2 _ _) (rra 4 (isK_le (ka hF 293 (by decide))) (fun _ => rfl)) ?_
    refine wp_iload_n dX11_save_64 rfl ?_
    refine wp_laldk (n := 3) j (al m (gB G + 297) j) dX11_save_65 (ka hF 297 (by decide)) (la 297) (vin (by omega) (by decide)) (nIc (by omega)) rfl ?_
    refine wp_lastk (n := 6) (j + 3) dX11_save_66 (ka hF 299 (by decide)) (la 299) (vin (by omega) (by decide))  (nIc (by omega)) ?_
    have hF6 := Full_wal (gB G + 299) (j + 3) (al m (gB G + 297) j) hF
    refine wp_iinc (nI (j + 1)) dX11_save_67 rfl (by decide) (nadd (a := j) (b := 1) (by omega)) rfl ?_
    refine wp_goto 46 dX11_save_70 (by decide) ?_
    refine wp_forget [.ref (gB G + 293), .int (1 : Int32), .int (nI (j + 1))] ⟨Or.inl rfl, Or.inl rfl, Or.inl rfl, trivial⟩ ?_
    exact e2 hp5

theorem eM_rs10 {G : Cx} {d : Nat} {m : Mm} {Q : Option Value → Mm → Prop}  (hF : Full G m) (hs : ai m (gB G + 300) 1 = (0 : Int32)) 
    (e1 : Q (some (.int (0 : Int32))) m) :
    WPM G (d + 3) (0, 0) μX11_restore [.ref (gB G + 293), .int (1 : Int32)] m Q := by
  refine WPM.of pX11 (Nat.le_of_ble_eq_true rfl) rfl ?_
  refine wp_iload_n dX11_restore_0 rfl ?_
  refine wp_iconst (0 : Int32) dX11_restore_1 (by decide) ?_
  refine wp_iconst (1 : Int32) dX11_restore_2 (by decide) ?_
  refine wp_callS (As := [.int (1 : Int32), .int (0 : Int32), .int (1 : Int32)]) (S := []) (b' := (0, 0)) (b := (0, 0)) dX11_restore_3 MX11_67 rfl rfl (Nat.le_of_ble_eq_true rfl) ?_
  refine WPM.of pX11 (Nat.le_of_ble_eq_true rfl) rfl ?_
  refine wp_iload_n dX11_isBetween_0 rfl ?_
  refine wp_iload_n dX11_isBetween_1 rfl ?_
  refine wp_icmp_lt 14 dX11_isBetween_2 (by decide) (fun q => absurd q (by decide)) (fun _ => ?_)
  refine wp_iload_n dX11_isBetween_5 rfl ?_
  refine wp_iload_n dX11_isBetween_6 rfl ?_
  refine wp_icmp_gt 14 dX11_isBetween_7 (by decide) (fun q => absurd q (by decide)) (fun _ => ?_)
  refine wp_iconst (1 : Int32) dX11_isBetween_10 (by decide) ?_
  refine wp_goto 15 dX11_isBetween_11 (by decide) ?_
  refine wp_zret dX11_isBetween_15 rfl rfl ?_
  show WP G (d + 3) (0, 0) μX11_restore 6 [.ref (gB G + 293), .int (1 : Int32), lvU] [.int (1 : Int32)] m _
  refine wp_if_eq 18 dX11_restore_6 (by decide) (fun q => absurd q (by decide)) (fun _ => ?_)
  refine wp_aload_n dX11_restore_9 rfl ?_
  refine wp_getr (gB G + 300) dX11_restore_10 fX11_29 (ka hF 293 (by decide)) (hF.2 _ _) (rra 7 (isK_le (ka hF 293 (by decide))) (fun _ => rfl)) ?_
  refine wp_iload_n dX11_restore_13 rfl ?_
  refine wp_zaldk (n := 2) 1 (0 : Int32) dX11_restore_14 (ka hF 300 (by decide)) (la 300) (vinl (by decide)) rfl hs ?_
  refine wp_if_ne 20 dX11_restore_15 (by decide) (fun q => absurd (by decide) q) (fun _ => ?_)
  refine wp_iconst (0 : Int32) dX11_restore_18 (by decide) ?_
  exact wp_zret dX11_restore_19 rfl rfl (e1)

theorem eM_rs11 {G : Cx} {d : Nat} {m : Mm} {Q : Option Value → Mm → Prop}  (hF : Full G m) (hs : ai m (gB G + 300) 1 = (1 : Int32)) 
    (e1 : WP G (d + 3) (0, 0) μX11_restore 22 [.ref (gB G + 293), .int (1 : Int32), .int (0 : Int32)] [] m Q) :
    WPM G (d + 3) (0, 0) μX11_restore [.ref (gB G + 293), .int (1 : Int32)] m Q := by
  refine WPM.of pX11 (Nat.le_of_ble_eq_true rfl) rfl ?_
  refine wp_iload_n dX11_restore_0 rfl ?_
  refine wp_iconst (0 : Int32) dX11_restore_1 (by decide) ?_
  refine wp_iconst (1 : Int32) dX11_restore_2 (by decide) ?_
  refine wp_callS (As := [.int (1 : Int32), .int (0 : Int32), .int (1 : Int32)]) (S := []) (b' := (0, 0)) (b := (0, 0)) dX11_restore_3 MX11_67 rfl rfl (Nat.le_of_ble_eq_true rfl) ?_
  refine WPM.of pX11 (Nat.le_of_ble_eq_true rfl) rfl ?_
  refine wp_iload_n dX11_isBetween_0 rfl ?_
  refine wp_iload_n dX11_isBetween_1 rfl ?_
  refine wp_icmp_lt 14 dX11_isBetween_2 (by decide) (fun q => absurd q (by decide)) (fun _ => ?_)
  refine wp_iload_n dX11_isBetween_5 rfl ?_
  refine wp_iload_n dX11_isBetween_6 rfl ?_
  refine wp_icmp_gt 14 dX11_isBetween_7 (by decide) (fun q => absurd q (by decide)) (fun _ => ?_)
  refine wp_iconst (1 : Int32) dX11_isBetween_10 (by decide) ?_
  refine wp_goto 15 dX11_isBetween_11 (by decide) ?_
  refine wp_zret dX11_isBetween_15 rfl rfl ?_
  show WP G (d + 3) (0, 0) μX11_restore 6 [.ref (gB G + 293), .int (1 : Int32), lvU] [.int (1 : Int32)] m _
  refine wp_if_eq 18 dX11_restore_6 (by decide) (fun q => absurd q (by decide)) (fun _ => ?_)
  refine wp_aload_n dX11_restore_9 rfl ?_
  refine wp_getr (gB G + 300) dX11_restore_10 fX11_29 (ka hF 293 (by decide)) (hF.2 _ _) (rra 7 (isK_le (ka hF 293 (by decide))) (fun _ => rfl)) ?_
  refine wp_iload_n dX11_restore_13 rfl ?_
  refine wp_zaldk (n := 2) 1 (1 : Int32) dX11_restore_14 (ka hF 300 (by decide)) (la 300) (vinl (by decide)) rfl hs ?_
  refine wp_if_ne 20 dX11_restore_15 (by decide) (fun _ => ?_) (fun q => absurd q (by decide))
  refine wp_iconst (0 : Int32) dX11_restore_20 (by decide) ?_
  refine wp_istore_n dX11_restore_21 (by decide) rfl ?_
  refine wp_forget [.ref (gB G + 293), .int (1 : Int32), .int (0 : Int32)] ⟨Or.inl rfl, Or.inl rfl, Or.inl rfl, trivial⟩ ?_
  exact e1

theorem bM_rs1 {G : Cx} {d : Nat} {m : Mm} {Q : Option Value → Mm → Prop} {j : Nat}  (hF : Full G m) (hj : j ≤ 1486) 
    (e1 : ¬ j < 1486 → WP G (d + 3) (0, 0) μX11_restore 55 [.ref (gB G + 293), .int (1 : Int32), .int (0 : Int32)] [] m Q)
    (e2 : j < 1486 → WP G (d + 3) (0, 0) μX11_restore 22 [.ref (gB G + 293), .int (1 : Int32), .int (nI (j + 1))] [] (wai m (gB G + 294) j (ai m (gB G + 296) (j + 1486))) Q) :
    WP G (d + 3) (0, 0) μX11_restore 22 [.ref (gB G + 293), .int (1 : Int32), .int (nI j)] [] m Q := by
  refine wp_iload_n dX11_restore_22 rfl ?_
  refine wp_sipush (1486 : Int32) dX11_restore_23 (by decide) ?_
  refine wp_icmp_ge 53 dX11_restore_26 (by decide) (fun q1 => ?_) (fun q2 => ?_)
  · have hp3 : ¬ j < 1486 := (fun z => q1 (nlt_ (b := 1486) z (by omega)))
    refine wp_iconst (0 : Int32) dX11_restore_53 (by decide) ?_
    refine wp_istore_n dX11_restore_54 (by decide) rfl ?_
    refine wp_forget [.ref (gB G + 293), .int (1 : Int32), .int (0 : Int32)] ⟨Or.inl rfl, Or.inl rfl, Or.inl rfl, trivial⟩ ?_
    exact e1 hp3
  · have hp4 : j < 1486 := (nlt q2 (by omega) (by omega))
    refine wp_aload_n dX11_restore_29 rfl ?_
    refine wp_getr (gB G + 294) dX11_restore_30 fX11_7 (ka hF 293 (by decide)) (hF.2 _ _) (rra 1 (isK_le (ka hF 293 (by decide))) (fun _ => rfl)) ?_
    refine wp_iload_n dX11_restore_33 rfl ?_
    refine wp_aload_n dX11_restore_34 rfl ?_
    refine wp_getr (gB G + 296) dX11_restore_35 fX11_16 (ka hF 293 (by decide)) (hF.2 _ _) (rra 3 (isK_le (ka hF 293 (by decide))) (fun _ => rfl)) ?_
    refine wp_sipush (1486 : Int32) dX11_restore_38 (by decide) ?_
    refine wp_iload_n dX11_restore_41 rfl ?_
    refine wp_imulv (1486 : Int32) dX11_restore_42 (by decide) ?_
    refine wp_iload_n dX11_restore_43 rfl ?_
    refine wp_iaddv (nI (j + 1486)) dX11_restore_44 (nadd (a := 1486) (b := j) (by omega)) ?_
    refine wp_ialdk (n := 2972) (j + 1486) (ai m (gB G + 296) (j + 1486)) dX11_restore_45 (ka hF 296 (by decide)) (la 296) (vin (by omega) (by decide)) (nIc (by omega)) rfl ?_
    refine wp_iastk (n := 1486) j dX11_restore_46 (ka hF 294 (by decide)) (la 294) (vin (by omega) (by decide))  (nIc (by omega)) ?_
    have hF5 := Full_wai (gB G + 294) j (ai m (gB G + 296) (j + 1486)) hF
    refine wp_iinc (nI (j + 1)) dX11_restore_47 rfl (by decide) (nadd (a := j) (b := 1) (by omega)) rfl ?_
    refine wp_goto 22 dX11_restore_50 (by decide) ?_
    refine wp_forget [.ref (gB G + 293), .int (1 : Int32), .int (nI (j + 1))] ⟨Or.inl rfl, Or.inl rfl, Or.inl rfl, trivial⟩ ?_
    exact e2 hp4

theorem cM_rs1 {G : Cx} {d : Nat} {m : Mm} {Q : Option Value → Mm → Prop} {j : Nat}  (hF : Full G m) (hj : j ≤ 3) 
    (e1 : ¬ j < 3 → Q (some (.int (1 : Int32))) m)
    (e2 : j < 3 → WP G (d + 3) (0, 0) μX11_restore 55 [.ref (gB G + 293), .int (1 : Int32), .int (nI (j + 1))] [] (wal m (gB G + 297) j (al m (gB G + 299) (j + 3))) Q) :
    WP G (d + 3) (0, 0) μX11_restore 55 [.ref (gB G + 293), .int (1 : Int32), .int (nI j)] [] m Q := by
  refine wp_iload_n dX11_restore_55 rfl ?_
  refine wp_iconst (3 : Int32) dX11_restore_56 (by decide) ?_
  refine wp_icmp_ge 82 dX11_restore_57 (by decide) (fun q1 => ?_) (fun q2 => ?_)
  · have hp3 : ¬ j < 3 := (fun z => q1 (nlt_ (b := 3) z (by omega)))
    refine wp_iconst (1 : Int32) dX11_restore_82 (by decide) ?_
    exact wp_zret dX11_restore_83 rfl rfl (e1 hp3)
  · have hp4 : j < 3 := (nlt q2 (by omega) (by omega))
    refine wp_aload_n dX11_restore_60 rfl ?_
    refine wp_getr (gB G + 297) dX11_restore_61 fX11_19 (ka hF 293 (by decide)) (hF.2 _ _) (rra 4 (isK_le (ka hF 293 (by decide))) (fun _ => rfl)) ?_
    refine wp_iload_n dX11_restore_64 rfl ?_
    refine wp_aload_n dX11_restore_65 rfl ?_
    refine wp_getr (gB G + 299) dX11_restore_66 fX11_26 (ka hF 293 (by decide)) (hF.2 _ _) (rra 6 (isK_le (ka hF 293 (by decide))) (fun _ => rfl)) ?_
    refine wp_iconst (3 : Int32) dX11_restore_69 (by decide) ?_
    refine wp_iload_n dX11_restore_70 rfl ?_
    refine wp_imulv (3 : Int32) dX11_restore_71 (by decide) ?_
    refine wp_iload_n dX11_restore_72 rfl ?_
    refine wp_iaddv (nI (j + 3)) dX11_restore_73 (nadd (a := 3) (b := j) (by omega)) ?_
    refine wp_laldk (n := 6) (j + 3) (al m (gB G + 299) (j + 3)) dX11_restore_74 (ka hF 299 (by decide)) (la 299) (vin (by omega) (by decide)) (nIc (by omega)) rfl ?_
    refine wp_lastk (n := 3) j dX11_restore_75 (ka hF 297 (by decide)) (la 297) (vin (by omega) (by decide))  (nIc (by omega)) ?_
    have hF5 := Full_wal (gB G + 297) j (al m (gB G + 299) (j + 3)) hF
    refine wp_iinc (nI (j + 1)) dX11_restore_76 rfl (by decide) (nadd (a := j) (b := 1) (by omega)) rfl ?_
    refine wp_goto 55 dX11_restore_79 (by decide) ?_
    refine wp_forget [.ref (gB G + 293), .int (1 : Int32), .int (nI (j + 1))] ⟨Or.inl rfl, Or.inl rfl, Or.inl rfl, trivial⟩ ?_
    exact e2 hp4

theorem aC_save {G : Cx} {d : Nat} {m : Mm} {Q : Option Value → Mm → Prop} {x : Int32}  (hF : Full G m) (hx : x < 0) 
    (e1 : Q (some (.int (0 : Int32))) m) :
    WPM G (d + 5) (0, 0) μX10_save [.ref (gB G), .int x] m Q := by
  refine WPM.of pX10 (Nat.le_of_ble_eq_true rfl) rfl ?_
  refine wp_iload_n dX10_save_0 rfl ?_
  refine wp_iconst (0 : Int32) dX10_save_1 (by decide) ?_
  refine wp_iconst (1 : Int32) dX10_save_2 (by decide) ?_
  refine wp_callS (As := [.int x, .int (0 : Int32), .int (1 : Int32)]) (S := []) (b' := (0, 0)) (b := (0, 0)) dX10_save_3 MX10_35 rfl rfl (Nat.le_of_ble_eq_true rfl) ?_
  refine WPM.of pX10 (Nat.le_of_ble_eq_true rfl) rfl ?_
  refine wp_iload_n dX10_within_0 rfl ?_
  refine wp_iload_n dX10_within_1 rfl ?_
  refine wp_icmp_lt 14 dX10_within_2 (by decide) (fun _ => ?_) (fun q => absurd hx q)
  refine wp_iconst (0 : Int32) dX10_within_14 (by decide) ?_
  refine wp_zret dX10_within_15 rfl rfl ?_
  show WP G (d + 5) (0, 0) μX10_save 6 [.ref (gB G), .int x] [.int (0 : Int32)] m _
  refine wp_if_ne 11 dX10_save_6 (by decide) (fun q => absurd (by decide) q) (fun _ => ?_)
  refine wp_iconst (0 : Int32) dX10_save_9 (by decide) ?_
  exact wp_zret dX10_save_10 rfl rfl (e1)

theorem bC_save {G : Cx} {d : Nat} {m : Mm} {Q : Option Value → Mm → Prop} {x : Int32}  (hF : Full G m) (hx : ¬ x < 0) (hy : (1 : Int32) < x) 
    (e1 : Q (some (.int (0 : Int32))) m) :
    WPM G (d + 5) (0, 0) μX10_save [.ref (gB G), .int x] m Q := by
  refine WPM.of pX10 (Nat.le_of_ble_eq_true rfl) rfl ?_
  refine wp_iload_n dX10_save_0 rfl ?_
  refine wp_iconst (0 : Int32) dX10_save_1 (by decide) ?_
  refine wp_iconst (1 : Int32) dX10_save_2 (by decide) ?_
  refine wp_callS (As := [.int x, .int (0 : Int32), .int (1 : Int32)]) (S := []) (b' := (0, 0)) (b := (0, 0)) dX10_save_3 MX10_35 rfl rfl (Nat.le_of_ble_eq_true rfl) ?_
  refine WPM.of pX10 (Nat.le_of_ble_eq_true rfl) rfl ?_
  refine wp_iload_n dX10_within_0 rfl ?_
  refine wp_iload_n dX10_within_1 rfl ?_
  refine wp_icmp_lt 14 dX10_within_2 (by decide) (fun q => absurd q hx) (fun _ => ?_)
  refine wp_iload_n dX10_within_5 rfl ?_
  refine wp_iload_n dX10_within_6 rfl ?_
  refine wp_icmp_gt 14 dX10_within_7 (by decide) (fun _ => ?_) (fun q => absurd hy q)
  refine wp_iconst (0 : Int32) dX10_within_14 (by decide) ?_
  refine wp_zret dX10_within_15 rfl rfl ?_
  show WP G (d + 5) (0, 0) μX10_save 6 [.ref (gB G), .int x] [.int (0 : Int32)] m _
  refine wp_if_ne 11 dX10_save_6 (by decide) (fun q => absurd (by decide) q) (fun _ => ?_)
  refine wp_iconst (0 : Int32) dX10_save_9 (by decide) ?_
  exact wp_zret dX10_save_10 rfl rfl (e1)

theorem aM_save {G : Cx} {d : Nat} {m : Mm} {Q : Option Value → Mm → Prop} {x : Int32}  (hF : Full G m) (hx : x < 0) 
    (e1 : Q (some (.int (0 : Int32))) m) :
    WPM G (d + 5) (0, 0) μX11_save [.ref (gB G + 293), .int x] m Q := by
  refine WPM.of pX11 (Nat.le_of_ble_eq_true rfl) rfl ?_
  refine wp_iload_n dX11_save_0 rfl ?_
  refine wp_iconst (0 : Int32) dX11_save_1 (by decide) ?_
  refine wp_iconst (1 : Int32) dX11_save_2 (by decide) ?_
  refine wp_callS (As := [.int x, .int (0 : Int32), .int (1 : Int32)]) (S := []) (b' := (0, 0)) (b := (0, 0)) dX11_save_3 MX11_67 rfl rfl (Nat.le_of_ble_eq_true rfl) ?_
  refine WPM.of pX11 (Nat.le_of_ble_eq_true rfl) rfl ?_
  refine wp_iload_n dX11_isBetween_0 rfl ?_
  refine wp_iload_n dX11_isBetween_1 rfl ?_
  refine wp_icmp_lt 14 dX11_isBetween_2 (by decide) (fun _ => ?_) (fun q => absurd hx q)
  refine wp_iconst (0 : Int32) dX11_isBetween_14 (by decide) ?_
  refine wp_zret dX11_isBetween_15 rfl rfl ?_
  show WP G (d + 5) (0, 0) μX11_save 6 [.ref (gB G + 293), .int x, lvU] [.int (0 : Int32)] m _
  refine wp_if_ne 11 dX11_save_6 (by decide) (fun q => absurd (by decide) q) (fun _ => ?_)
  refine wp_iconst (0 : Int32) dX11_save_9 (by decide) ?_
  exact wp_zret dX11_save_10 rfl rfl (e1)

theorem bM_save {G : Cx} {d : Nat} {m : Mm} {Q : Option Value → Mm → Prop} {x : Int32}  (hF : Full G m) (hx : ¬ x < 0) (hy : (1 : Int32) < x) 
    (e1 : Q (some (.int (0 : Int32))) m) :
    WPM G (d + 5) (0, 0) μX11_save [.ref (gB G + 293), .int x] m Q := by
  refine WPM.of pX11 (Nat.le_of_ble_eq_true rfl) rfl ?_
  refine wp_iload_n dX11_save_0 rfl ?_
  refine wp_iconst (0 : Int32) dX11_save_1 (by decide) ?_
  refine wp_iconst (1 : Int32) dX11_save_2 (by decide) ?_
  refine wp_callS (As := [.int x, .int (0 : Int32), .int (1 : Int32)]) (S := []) (b' := (0, 0)) (b := (0, 0)) dX11_save_3 MX11_67 rfl rfl (Nat.le_of_ble_eq_true rfl) ?_
  refine WPM.of pX11 (Nat.le_of_ble_eq_true rfl) rfl ?_
  refine wp_iload_n dX11_isBetween_0 rfl ?_
  refine wp_iload_n dX11_isBetween_1 rfl ?_
  refine wp_icmp_lt 14 dX11_isBetween_2 (by decide) (fun q => absurd q hx) (fun _ => ?_)
  refine wp_iload_n dX11_isBetween_5 rfl ?_
  refine wp_iload_n dX11_isBetween_6 rfl ?_
  refine wp_icmp_gt 14 dX11_isBetween_7 (by decide) (fun _ => ?_) (fun q => absurd hy q)
  refine wp_iconst (0 : Int32) dX11_isBetween_14 (by decide) ?_
  refine wp_zret dX11_isBetween_15 rfl rfl ?_
  show WP G (d + 5) (0, 0) μX11_save 6 [.ref (gB G + 293), .int x, lvU] [.int (0 : Int32)] m _
  refine wp_if_ne 11 dX11_save_6 (by decide) (fun q => absurd (by decide) q) (fun _ => ?_)
  refine wp_iconst (0 : Int32) dX11_save_9 (by decide) ?_
  exact wp_zret dX11_save_10 rfl rfl (e1)

theorem aC_restore {G : Cx} {d : Nat} {m : Mm} {Q : Option Value → Mm → Prop} {x : Int32}  (hF : Full G m) (hx : x < 0) 
    (e1 : Q (some (.int (0 : Int32))) m) :
    WPM G (d + 5) (0, 0) μX10_restore [.ref (gB G), .int x] m Q := by
  refine WPM.of pX10 (Nat.le_of_ble_eq_true rfl) rfl ?_
  refine wp_iload_n dX10_restore_0 rfl ?_
  refine wp_iconst (0 : Int32) dX10_restore_1 (by decide) ?_
  refine wp_iconst (1 : Int32) dX10_restore_2 (by decide) ?_
  refine wp_callS (As := [.int x, .int (0 : Int32), .int (1 : Int32)]) (S := []) (b' := (0, 0)) (b := (0, 0)) dX10_restore_3 MX10_35 rfl rfl (Nat.le_of_ble_eq_true rfl) ?_
  refine WPM.of pX10 (Nat.le_of_ble_eq_true rfl) rfl ?_
  refine wp_iload_n dX10_within_0 rfl ?_
  refine wp_iload_n dX10_within_1 rfl ?_
  refine wp_icmp_lt 14 dX10_within_2 (by decide) (fun _ => ?_) (fun q => absurd hx q)
  refine wp_iconst (0 : Int32) dX10_within_14 (by decide) ?_
  refine wp_zret dX10_within_15 rfl rfl ?_
  show WP G (d + 5) (0, 0) μX10_restore 6 [.ref (gB G), .int x] [.int (0 : Int32)] m _
  refine wp_if_eq 18 dX10_restore_6 (by decide) (fun _ => ?_) (fun q => absurd (by decide) q)
  refine wp_iconst (0 : Int32) dX10_restore_18 (by decide) ?_
  exact wp_zret dX10_restore_19 rfl rfl (e1)

theorem bC_restore {G : Cx} {d : Nat} {m : Mm} {Q : Option Value → Mm → Prop} {x : Int32}  (hF : Full G m) (hx : ¬ x < 0) (hy : (1 : Int32) < x) 
    (e1 : Q (some (.int (0 : Int32))) m) :
    WPM G (d + 5) (0, 0) μX10_restore [.ref (gB G), .int x] m Q := by
  refine WPM.of pX10 (Nat.le_of_ble_eq_true rfl) rfl ?_
  refine wp_iload_n dX10_restore_0 rfl ?_
  refine wp_iconst (0 : Int32) dX10_restore_1 (by decide) ?_
  refine wp_iconst (1 : Int32) dX10_restore_2 (by decide) ?_
  refine wp_callS (As := [.int x, .int (0 : Int32), .int (1 : Int32)]) (S := []) (b' := (0, 0)) (b := (0, 0)) dX10_restore_3 MX10_35 rfl rfl (Nat.le_of_ble_eq_true rfl) ?_
  refine WPM.of pX10 (Nat.le_of_ble_eq_true rfl) rfl ?_
  refine wp_iload_n dX10_within_0 rfl ?_
  refine wp_iload_n dX10_within_1 rfl ?_
  refine wp_icmp_lt 14 dX10_within_2 (by decide) (fun q => absurd q hx) (fun _ => ?_)
  refine wp_iload_n dX10_within_5 rfl ?_
  refine wp_iload_n dX10_within_6 rfl ?_
  refine wp_icmp_gt 14 dX10_within_7 (by decide) (fun _ => ?_) (fun q => absurd hy q)
  refine wp_iconst (0 : Int32) dX10_within_14 (by decide) ?_
  refine wp_zret dX10_within_15 rfl rfl ?_
  show WP G (d + 5) (0, 0) μX10_restore 6 [.ref (gB G), .int x] [.int (0 : Int32)] m _
  refine wp_if_eq 18 dX10_restore_6 (by decide) (fun _ => ?_) (fun q => absurd (by decide) q)
  refine wp_iconst (0 : Int32) dX10_restore_18 (by decide) ?_
  exact wp_zret dX10_restore_19 rfl rfl (e1)

theorem aM_restore {G : Cx} {d : Nat} {m : Mm} {Q : Option Value → Mm → Prop} {x : Int32}  (hF : Full G m) (hx : x < 0) 
    (e1 : Q (some (.int (0 : Int32))) m) :
    WPM G (d + 5) (0, 0) μX11_restore [.ref (gB G + 293), .int x] m Q := by
  refine WPM.of pX11 (Nat.le_of_ble_eq_true rfl) rfl ?_
  refine wp_iload_n dX11_restore_0 rfl ?_
  refine wp_iconst (0 : Int32) dX11_restore_1 (by decide) ?_
  refine wp_iconst (1 : Int32) dX11_restore_2 (by decide) ?_
  refine wp_callS (As := [.int x, .int (0 : Int32), .int (1 : Int32)]) (S := []) (b' := (0, 0)) (b := (0, 0)) dX11_restore_3 MX11_67 rfl rfl (Nat.le_of_ble_eq_true rfl) ?_
  refine WPM.of pX11 (Nat.le_of_ble_eq_true rfl) rfl ?_
  refine wp_iload_n dX11_isBetween_0 rfl ?_
  refine wp_iload_n dX11_isBetween_1 rfl ?_
  refine wp_icmp_lt 14 dX11_isBetween_2 (by decide) (fun _ => ?_) (fun q => absurd hx q)
  refine wp_iconst (0 : Int32) dX11_isBetween_14 (by decide) ?_
  refine wp_zret dX11_isBetween_15 rfl rfl ?_
  show WP G (d + 5) (0, 0) μX11_restore 6 [.ref (gB G + 293), .int x, lvU] [.int (0 : Int32)] m _
  refine wp_if_eq 18 dX11_restore_6 (by decide) (fun _ => ?_) (fun q => absurd (by decide) q)
  refine wp_iconst (0 : Int32) dX11_restore_18 (by decide) ?_
  exact wp_zret dX11_restore_19 rfl rfl (e1)

theorem bM_restore {G : Cx} {d : Nat} {m : Mm} {Q : Option Value → Mm → Prop} {x : Int32}  (hF : Full G m) (hx : ¬ x < 0) (hy : (1 : Int32) < x) 
    (e1 : Q (some (.int (0 : Int32))) m) :
    WPM G (d + 5) (0, 0) μX11_restore [.ref (gB G + 293), .int x] m Q := by
  refine WPM.of pX11 (Nat.le_of_ble_eq_true rfl) rfl ?_
  refine wp_iload_n dX11_restore_0 rfl ?_
  refine wp_iconst (0 : Int32) dX11_restore_1 (by decide) ?_
  refine wp_iconst (1 : Int32) dX11_restore_2 (by decide) ?_
  refine wp_callS (As := [.int x, .int (0 : Int32), .int (1 : Int32)]) (S := []) (b' := (0, 0)) (b := (0, 0)) dX11_restore_3 MX11_67 rfl rfl (Nat.le_of_ble_eq_true rfl) ?_
  refine WPM.of pX11 (Nat.le_of_ble_eq_true rfl) rfl ?_
  refine wp_iload_n dX11_isBetween_0 rfl ?_
  refine wp_iload_n dX11_isBetween_1 rfl ?_
  refine wp_icmp_lt 14 dX11_isBetween_2 (by decide) (fun q => absurd q hx) (fun _ => ?_)
  refine wp_iload_n dX11_isBetween_5 rfl ?_
  refine wp_iload_n dX11_isBetween_6 rfl ?_
  refine wp_icmp_gt 14 dX11_isBetween_7 (by decide) (fun _ => ?_) (fun q => absurd hy q)
  refine wp_iconst (0 : Int32) dX11_isBetween_14 (by decide) ?_
  refine wp_zret dX11_isBetween_15 rfl rfl ?_
  show WP G (d + 5) (0, 0) μX11_restore 6 [.ref (gB G + 293), .int x, lvU] [.int (0 : Int32)] m _
  refine wp_if_eq 18 dX11_restore_6 (by decide) (fun _ => ?_) (fun q => absurd (by decide) q)
  refine wp_iconst (0 : Int32) dX11_restore_18 (by decide) ?_
  exact wp_zret dX11_restore_19 rfl rfl (e1)
