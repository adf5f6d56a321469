/-! BALANCES, SHEDS (printed by gen_bal.py) -/
theorem ba_0 {G : Cx} {d : Nat} {Λ : Lc} {X : Lx} {ext : va_W} {m : Mm} {A : Ab} {ce : List (Nat × Mm)} {Q : Option Value → LM → Prop}  (hC : CIv (atC G (lB Λ) false) m A) 
    (e1 : WZ G (d + 20) (0, 0) μL_balances 13 [.ref (gB G), .long (0 : Int64), lvU, .int (nI (sN (aS A))), .int (0 : Int32), lvU, lvU, lvU, lvU] [] (lm G Λ X ext m ce) Q) :
    WZM G (d + 20) (0, 0) μL_balances [.ref (gB G)] (lm G Λ X ext m ce) Q := by
  have hn12 := hC.nn.2
  have hl6 := hC.nl.2
  have hh8 := hC.nh.2
  refine WZM.of pL (Nat.le_of_ble_eq_true rfl) rfl ?_
  refine wl_lconst (0 : Int64) dL_balances_0 (by decide) ?_
  refine wl_lstore_n dL_balances_1 (by decide) rfl ?_
  refine wl_aload_n dL_balances_2 rfl ?_
  refine wl_get 0 (.ref (lB Λ)) dL_balances_3 fL_10 rfl rfl ?_
  refine wl_callX (As := []) (S := []) [] ce dL_balances_6 ML_101 rfl rfl (Nat.le_of_ble_eq_true rfl) ?_
  refine a_nodeCount hC ?_
  show WZ G (d + 20) (0, 0) μL_balances 9 [.ref (gB G), .long (0 : Int64), lvU, lvU, lvU, lvU, lvU, lvU, lvU] [.int (nI (sN (aS A)))] (lm G Λ X ext m ce) Q
  refine wl_istore_n dL_balances_9 (by decide) rfl ?_
  refine wl_iconst (0 : Int32) dL_balances_10 (by decide) ?_
  refine wl_istore dL_balances_11 (by decide) rfl ?_
  exact e1

theorem ba_1 {G : Cx} {d : Nat} {Λ : Lc} {X : Lx} {ext : va_W} {m : Mm} {A : Ab} {ce : List (Nat × Mm)} {Q : Option Value → LM → Prop} {z : Int64} {i : Nat} (hC : CIv (atC G (lB Λ) false) m A) (hi : i ≤ sN (aS A))
    (e1 : ¬ i < sN (aS A) → WZ G (d + 20) (0, 0) μL_balances 130 [.ref (gB G), .long z, lvU, .int (nI (sN (aS A))), .long (0 : Int64), lvU, .int (0 : Int32), lvU, lvU] [] (lm G Λ X ext m ce) Q)
    (e2 : i < sN (aS A) → ∀ m4 : Mm, CIv (atC G (lB Λ) false) m4 A → ∀ m6 : Mm, CIv (atC G (lB Λ) false) m6 A → ∀ m8 : Mm, CIv (atC G (lB Λ) false) m8 A → ∀ m10 : Mm, CIv (atC G (lB Λ) false) m10 A → (Int32.toInt64 (sS (aS A) (11 * i + 24)) + htF (sS (aS A)) i 0 (sH (aS A)) + absF (sS (aS A)) i + cdF (sS (aS A)) i (sN (aS A)) - emF (sS (aS A)) (sL (aS A)) i) < ((((Int32.toInt64 (sS (aS A) (11 * i + 24))) + (absF (sS (aS A)) i)) + (cdF (sS (aS A)) i (sN (aS A)))) - (emF (sS (aS A)) (sL (aS A)) i)) → Q (some (.int (0 : Int32))) (lm G Λ X ext m10 ce))
    (e3 : i < sN (aS A) → ∀ m4 : Mm, CIv (atC G (lB Λ) false) m4 A → ∀ m6 : Mm, CIv (atC G (lB Λ) false) m6 A → ∀ m8 : Mm, CIv (atC G (lB Λ) false) m8 A → ∀ m10 : Mm, CIv (atC G (lB Λ) false) m10 A → ¬ (Int32.toInt64 (sS (aS A) (11 * i + 24)) + htF (sS (aS A)) i 0 (sH (aS A)) + absF (sS (aS A)) i + cdF (sS (aS A)) i (sN (aS A)) - emF (sS (aS A)) (sL (aS A)) i) < ((((Int32.toInt64 (sS (aS A) (11 * i + 24))) + (absF (sS (aS A)) i)) + (cdF (sS (aS A)) i (sN (aS A)))) - (emF (sS (aS A)) (sL (aS A)) i)) → ∀ m13 : Mm, CIv (atC G (lB Λ) false) m13 A → (emF (sS (aS A)) (sL (aS A)) i) < (0 : Int64) → Q (some (.int (0 : Int32))) (lm G Λ X ext m13 ce))
    (e4 : i < sN (aS A) → ∀ m4 : Mm, CIv (atC G (lB Λ) false) m4 A → ∀ m6 : Mm, CIv (atC G (lB Λ) false) m6 A → ∀ m8 : Mm, CIv (atC G (lB Λ) false) m8 A → ∀ m10 : Mm, CIv (atC G (lB Λ) false) m10 A → ¬ (Int32.toInt64 (sS (aS A) (11 * i + 24)) + htF (sS (aS A)) i 0 (sH (aS A)) + absF (sS (aS A)) i + cdF (sS (aS A)) i (sN (aS A)) - emF (sS (aS A)) (sL (aS A)) i) < ((((Int32.toInt64 (sS (aS A) (11 * i + 24))) + (absF (sS (aS A)) i)) + (cdF (sS (aS A)) i (sN (aS A)))) - (emF (sS (aS A)) (sL (aS A)) i)) → ∀ m13 : Mm, CIv (atC G (lB Λ) false) m13 A → ¬ (emF (sS (aS A)) (sL (aS A)) i) < (0 : Int64) → ∀ m16 : Mm, CIv (atC G (lB Λ) false) m16 A → ¬ (absF (sS (aS A)) i) < (0 : Int64) → WZ G (d + 20) (0, 0) μL_balances 13 [.ref (gB G), .long (z + ((Int32.toInt64 (sS (aS A) (11 * i + 24)) + htF (sS (aS A)) i 0 (sH (aS A)) + absF (sS (aS A)) i + cdF (sS (aS A)) i (sN (aS A)) - emF (sS (aS A)) (sL (aS A)) i) - ((((Int32.toInt64 (sS (aS A) (11 * i + 24))) + (absF (sS (aS A)) i)) + (cdF (sS (aS A)) i (sN (aS A)))) - (emF (sS (aS A)) (sL (aS A)) i)))), lvU, .int (nI (sN (aS A))), .int (nI (i + 1)), lvU, lvU, lvU, lvU] [] (lm G Λ X ext m16 ce) Q)
    (e5 : i < sN (aS A) → ∀ m4 : Mm, CIv (atC G (lB Λ) false) m4 A → ∀ m6 : Mm, CIv (atC G (lB Λ) false) m6 A → ∀ m8 : Mm, CIv (atC G (lB Λ) false) m8 A → ∀ m10 : Mm, CIv (atC G (lB Λ) false) m10 A → ¬ (Int32.toInt64 (sS (aS A) (11 * i + 24)) + htF (sS (aS A)) i 0 (sH (aS A)) + absF (sS (aS A)) i + cdF (sS (aS A)) i (sN (aS A)) - emF (sS (aS A)) (sL (aS A)) i) < ((((Int32.toInt64 (sS (aS A) (11 * i + 24))) + (absF (sS (aS A)) i)) + (cdF (sS (aS A)) i (sN (aS A)))) - (emF (sS (aS A)) (sL (aS A)) i)) → ∀ m13 : Mm, CIv (atC G (lB Λ) false) m13 A → ¬ (emF (sS (aS A)) (sL (aS A)) i) < (0 : Int64) → ∀ m16 : Mm, CIv (atC G (lB Λ) false) m16 A → (absF (sS (aS A)) i) < (0 : Int64) → Q (some (.int (0 : Int32))) (lm G Λ X ext m16 ce)) :
    WZ G (d + 20) (0, 0) μL_balances 13 [.ref (gB G), .long z, lvU, .int (nI (sN (aS A))), .int (nI i), lvU, lvU, lvU, lvU] [] (lm G Λ X ext m ce) Q := by
  have hn12 := hC.nn.2
  have hl6 := hC.nl.2
  have hh8 := hC.nh.2
  refine wl_iload dL_balances_13 rfl ?_
  refine wl_iload_n dL_balances_15 rfl ?_
  refine wl_icmp_ge 124 dL_balances_16 (by decide) (fun q1 => ?_) (fun q1 => ?_)
  · have q2 : ¬ i < sN (aS A) := fun y => q1 (nlt_ y (by omega))
    refine wl_lconst (0 : Int64) dL_balances_124 (by decide) ?_
    refine wl_lstore dL_balances_125 (by decide) rfl ?_
    refine wl_iconst (0 : Int32) dL_balances_127 (by decide) ?_
    refine wl_istore dL_balances_128 (by decide) rfl ?_
    exact e1 q2
  · have q3 : i < sN (aS A) := nlt q1 (by omega) (by omega)
    refine wl_aload_n dL_balances_19 rfl ?_
    refine wl_get 0 (.ref (lB Λ)) dL_balances_20 fL_10 rfl rfl ?_
    refine wl_iload dL_balances_23 rfl ?_
    refine wl_callX (As := [.int (nI i)]) (S := []) [] ce dL_balances_25 ML_104 rfl rfl (Nat.le_of_ble_eq_true rfl) ?_
    refine a_load (i := i) hC (by omega) ?_
    show WZ G (d + 20) (0, 0) μL_balances 28 [.ref (gB G), .long z, lvU, .int (nI (sN (aS A))), .int (nI i), lvU, lvU, lvU, lvU] [.int (sS (aS A) (11 * i + 24))] (lm G Λ X ext m ce) Q
    refine wl_i2l dL_balances_28 ?_
    refine wl_aload_n dL_balances_29 rfl ?_
    refine wl_get 0 (.ref (lB Λ)) dL_balances_30 fL_10 rfl rfl ?_
    refine wl_iload dL_balances_33 rfl ?_
    refine wl_callX (As := [.int (nI i)]) (S := [.long (Int32.toInt64 (sS (aS A) (11 * i + 24)))]) [] ce dL_balances_35 ML_107 rfl rfl (Nat.le_of_ble_eq_true rfl) ?_
    refine a_absorbedHeat (i := i) hC (by omega) (fun m4 hC5 => ?_)
    show WZ G (d + 20) (0, 0) μL_balances 38 [.ref (gB G), .long z, lvU, .int (nI (sN (aS A))), .int (nI i), lvU, lvU, lvU, lvU] [.long (absF (sS (aS A)) i), .long (Int32.toInt64 (sS (aS A) (11 * i + 24)))] (lm G Λ X ext m4 ce) Q
    refine wl_ladd dL_balances_38 ?_
    refine wl_aload_n dL_balances_39 rfl ?_
    refine wl_get 0 (.ref (lB Λ)) dL_balances_40 fL_10 rfl rfl ?_
    refine wl_iload dL_balances_43 rfl ?_
    refine wl_callX (As := [.int (nI i)]) (S := [.long ((Int32.toInt64 (sS (aS A) (11 * i + 24))) + (absF (sS (aS A)) i))]) [] ce dL_balances_45 ML_111 rfl rfl (Nat.le_of_ble_eq_true rfl) ?_
    refine a_conductedHeat (i := i) hC5 (by omega) (fun m6 hC7 => ?_)
    show WZ G (d + 20) (0, 0) μL_balances 48 [.ref (gB G), .long z, lvU, .int (nI (sN (aS A))), .int (nI i), lvU, lvU, lvU, lvU] [.long (cdF (sS (aS A)) i (sN (aS A))), .long ((Int32.toInt64 (sS (aS A) (11 * i + 24))) + (absF (sS (aS A)) i))] (lm G Λ X ext m6 ce) Q
    refine wl_ladd dL_balances_48 ?_
    refine wl_aload_n dL_balances_49 rfl ?_
    refine wl_get 0 (.ref (lB Λ)) dL_balances_50 fL_10 rfl rfl ?_
    refine wl_iload dL_balances_53 rfl ?_
    refine wl_callX (As := [.int (nI i)]) (S := [.long (((Int32.toInt64 (sS (aS A) (11 * i + 24))) + (absF (sS (aS A)) i)) + (cdF (sS (aS A)) i (sN (aS A))))]) [] ce dL_balances_55 ML_114 rfl rfl (Nat.le_of_ble_eq_true rfl) ?_
    refine a_emittedHeat (i := i) hC7 (by omega) (fun m8 hC9 => ?_)
    show WZ G (d + 20) (0, 0) μL_balances 58 [.ref (gB G), .long z, lvU, .int (nI (sN (aS A))), .int (nI i), lvU, lvU, lvU, lvU] [.long (emF (sS (aS A)) (sL (aS A)) i), .long (((Int32.toInt64 (sS (aS A) (11 * i + 24))) + (absF (sS (aS A)) i)) + (cdF (sS (aS A)) i (sN (aS A))))] (lm G Λ X ext m8 ce) Q
    refine wl_lsub dL_balances_58 ?_
    refine wl_lstore dL_balances_59 (by decide) rfl ?_
    refine wl_aload_n dL_balances_61 rfl ?_
    refine wl_get 0 (.ref (lB Λ)) dL_balances_62 fL_10 rfl rfl ?_
    refine wl_iload dL_balances_65 rfl ?_
    refine wl_callX (As := [.int (nI i)]) (S := []) [] ce dL_balances_67 ML_117 rfl rfl (Nat.le_of_ble_eq_true rfl) ?_
    refine a_netHeat (i := i) hC9 (by omega) (fun m10 hC11 => ?_)
    show WZ G (d + 20) (0, 0) μL_balances 70 [.ref (gB G), .long z, lvU, .int (nI (sN (aS A))), .int (nI i), .long ((((Int32.toInt64 (sS (aS A) (11 * i + 24))) + (absF (sS (aS A)) i)) + (cdF (sS (aS A)) i (sN (aS A)))) - (emF (sS (aS A)) (sL (aS A)) i)), lvU, lvU, lvU] [.long (Int32.toInt64 (sS (aS A) (11 * i + 24)) + htF (sS (aS A)) i 0 (sH (aS A)) + absF (sS (aS A)) i + cdF (sS (aS A)) i (sN (aS A)) - emF (sS (aS A)) (sL (aS A)) i)] (lm G Λ X ext m10 ce) Q
    refine wl_lstore dL_balances_70 (by decide) rfl ?_
    refine wl_lload dL_balances_72 rfl ?_
    refine wl_lload dL_balances_74 rfl ?_
    refine wl_lc_lt 108 dL_balances_76 dL_balances_77 (by decide) (fun q12 => ?_) (fun q12 => ?_)
    · refine wl_iconst (0 : Int32) dL_balances_108 (by decide) ?_
      exact wl_zret dL_balances_109 rfl rfl (e2 q3 m4 hC5 m6 hC7 m8 hC9 m10 hC11 q12)
    · refine wl_aload_n dL_balances_80 rfl ?_
      refine wl_get 0 (.ref (lB Λ)) dL_balances_81 fL_10 rfl rfl ?_
      refine wl_iload dL_balances_84 rfl ?_
      refine wl_callX (As := [.int (nI i)]) (S := []) [] ce dL_balances_86 ML_114 rfl rfl (Nat.le_of_ble_eq_true rfl) ?_
      refine a_emittedHeat (i := i) hC11 (by omega) (fun m13 hC14 => ?_)
      show WZ G (d + 20) (0, 0) μL_balances 89 [.ref (gB G), .long z, lvU, .int (nI (sN (aS A))), .int (nI i), .long ((((Int32.toInt64 (sS (aS A) (11 * i + 24))) + (absF (sS (aS A)) i)) + (cdF (sS (aS A)) i (sN (aS A)))) - (emF (sS (aS A)) (sL (aS A)) i)), lvU, .long (Int32.toInt64 (sS (aS A) (11 * i + 24)) + htF (sS (aS A)) i 0 (sH (aS A)) + absF (sS (aS A)) i + cdF (sS (aS A)) i (sN (aS A)) - emF (sS (aS A)) (sL (aS A)) i), lvU] [.long (emF (sS (aS A)) (sL (aS A)) i)] (lm G Λ X ext m13 ce) Q
      refine wl_lconst (0 : Int64) dL_balances_89 (by decide) ?_
      refine wl_lc_lt 108 dL_balances_90 dL_balances_91 (by decide) (fun q15 => ?_) (fun q15 => ?_)
      · refine wl_iconst (0 : Int32) dL_balances_108 (by decide) ?_
        exact wl_zret dL_balances_109 rfl rfl (e3 q3 m4 hC5 m6 hC7 m8 hC9 m10 hC11 q12 m13 hC14 q15)
      · refine wl_aload_n dL_balances_94 rfl ?_
        refine wl_get 0 (.ref (lB Λ)) dL_balances_95 fL_10 rfl rfl ?_
        refine wl_iload dL_balances_98 rfl ?_
        refine wl_callX (As := [.int (nI i)]) (S := []) [] ce dL_balances_100 ML_107 rfl rfl (Nat.le_of_ble_eq_true rfl) ?_
        refine a_absorbedHeat (i := i) hC14 (by omega) (fun m16 hC17 => ?_)
        show WZ G (d + 20) (0, 0) μL_balances 103 [.ref (gB G), .long z, lvU, .int (nI (sN (aS A))), .int (nI i), .long ((((Int32.toInt64 (sS (aS A) (11 * i + 24))) + (absF (sS (aS A)) i)) + (cdF (sS (aS A)) i (sN (aS A)))) - (emF (sS (aS A)) (sL (aS A)) i)), lvU, .long (Int32.toInt64 (sS (aS A) (11 * i + 24)) + htF (sS (aS A)) i 0 (sH (aS A)) + absF (sS (aS A)) i + cdF (sS (aS A)) i (sN (aS A)) - emF (sS (aS A)) (sL (aS A)) i), lvU] [.long (absF (sS (aS A)) i)] (lm G Λ X ext m16 ce) Q
        refine wl_lconst (0 : Int64) dL_balances_103 (by decide) ?_
        refine wl_lc_ge 110 dL_balances_104 dL_balances_105 (by decide) (fun q18 => ?_) (fun q18 => ?_)
        · refine wl_lload_n dL_balances_110 rfl ?_
          refine wl_lload dL_balances_111 rfl ?_
          refine wl_lload dL_balances_113 rfl ?_
          refine wl_lsub dL_balances_115 ?_
          refine wl_ladd dL_balances_116 ?_
          refine wl_lstore_n dL_balances_117 (by decide) rfl ?_
          refine wl_iinc (nI (i + 1)) dL_balances_118 rfl (by decide) (nadd (a := i) (b := 1) rfl) rfl ?_
          refine wl_goto 13 dL_balances_121 (by decide) ?_
          refine wl_forget [.ref (gB G), .long (z + ((Int32.toInt64 (sS (aS A) (11 * i + 24)) + htF (sS (aS A)) i 0 (sH (aS A)) + absF (sS (aS A)) i + cdF (sS (aS A)) i (sN (aS A)) - emF (sS (aS A)) (sL (aS A)) i) - ((((Int32.toInt64 (sS (aS A) (11 * i + 24))) + (absF (sS (aS A)) i)) + (cdF (sS (aS A)) i (sN (aS A)))) - (emF (sS (aS A)) (sL (aS A)) i)))), lvU, .int (nI (sN (aS A))), .int (nI (i + 1)), lvU, lvU, lvU, lvU] ⟨Or.inl rfl, Or.inl rfl, Or.inl rfl, Or.inl rfl, Or.inl rfl, Or.inr rfl, Or.inl rfl, Or.inr rfl, Or.inl rfl, trivial⟩ ?_
          exact e4 q3 m4 hC5 m6 hC7 m8 hC9 m10 hC11 q12 m13 hC14 q15 m16 hC17 q18
        · refine wl_iconst (0 : Int32) dL_balances_108 (by decide) ?_
          exact wl_zret dL_balances_109 rfl rfl (e5 q3 m4 hC5 m6 hC7 m8 hC9 m10 hC11 q12 m13 hC14 q15 m16 hC17 q18)

theorem ba_2 {G : Cx} {d : Nat} {Λ : Lc} {X : Lx} {ext : va_W} {m : Mm} {A : Ab} {ce : List (Nat × Mm)} {Q : Option Value → LM → Prop} {z y : Int64} {i : Nat} (hC : CIv (atC G (lB Λ) false) m A) (hi : i ≤ sN (aS A))
    (e1 : ¬ i < sN (aS A) → ¬ y = (0 : Int64) → Q (some (.int (0 : Int32))) (lm G Λ X ext m ce))
    (e2 : ¬ i < sN (aS A) → y = (0 : Int64) → ¬ z = (Int32.toInt64 (upF (sS (aS A)) (sH (aS A)))) → Q (some (.int (0 : Int32))) (lm G Λ X ext m ce))
    (e3 : ¬ i < sN (aS A) → y = (0 : Int64) → z = (Int32.toInt64 (upF (sS (aS A)) (sH (aS A)))) → Q (some (.int (1 : Int32))) (lm G Λ X ext m ce))
    (e4 : i < sN (aS A) → ∀ m6 : Mm, CIv (atC G (lB Λ) false) m6 A → WZ G (d + 20) (0, 0) μL_balances 130 [.ref (gB G), .long z, lvU, .int (nI (sN (aS A))), .long (y + (cdF (sS (aS A)) i (sN (aS A)))), lvU, .int (nI (i + 1)), lvU, lvU] [] (lm G Λ X ext m6 ce) Q) :
    WZ G (d + 20) (0, 0) μL_balances 130 [.ref (gB G), .long z, lvU, .int (nI (sN (aS A))), .long y, lvU, .int (nI i), lvU, lvU] [] (lm G Λ X ext m ce) Q := by
  have hn12 := hC.nn.2
  have hl6 := hC.nl.2
  have hh8 := hC.nh.2
  refine wl_iload dL_balances_130 rfl ?_
  refine wl_iload_n dL_balances_132 rfl ?_
  refine wl_icmp_ge 156 dL_balances_133 (by decide) (fun q1 => ?_) (fun q1 => ?_)
  · have q2 : ¬ i < sN (aS A) := fun y => q1 (nlt_ y (by omega))
    refine wl_lload dL_balances_156 rfl ?_
    refine wl_lconst (0 : Int64) dL_balances_158 (by decide) ?_
    refine wl_lc_ne 180 dL_balances_159 dL_balances_160 (by decide) (fun q3 => ?_) (fun q3 => ?_)
    · refine wl_iconst (0 : Int32) dL_balances_180 (by decide) ?_
      exact wl_zret dL_balances_181 rfl rfl (e1 q2 q3)
    · refine wl_lload_n dL_balances_163 rfl ?_
      refine wl_aload_n dL_balances_164 rfl ?_
      refine wl_get 0 (.ref (lB Λ)) dL_balances_165 fL_10 rfl rfl ?_
      refine wl_callX (As := []) (S := [.long z]) [] ce dL_balances_168 ML_120 rfl rfl (Nat.le_of_ble_eq_true rfl) ?_
      refine a_usedPower hC ?_
      show WZ G (d + 20) (0, 0) μL_balances 171 [.ref (gB G), .long z, lvU, .int (nI (sN (aS A))), .long y, lvU, .int (nI i), lvU, lvU] [.int (upF (sS (aS A)) (sH (aS A))), .long z] (lm G Λ X ext m ce) Q
      refine wl_i2l dL_balances_171 ?_
      refine wl_lc_ne 180 dL_balances_172 dL_balances_173 (by decide) (fun q4 => ?_) (fun q4 => ?_)
      · refine wl_iconst (0 : Int32) dL_balances_180 (by decide) ?_
        exact wl_zret dL_balances_181 rfl rfl (e2 q2 q3 q4)
      · refine wl_iconst (1 : Int32) dL_balances_176 (by decide) ?_
        refine wl_goto 181 dL_balances_177 (by decide) ?_
        exact wl_zret dL_balances_181 rfl rfl (e3 q2 q3 q4)
  · have q5 : i < sN (aS A) := nlt q1 (by omega) (by omega)
    refine wl_lload dL_balances_136 rfl ?_
    refine wl_aload_n dL_balances_138 rfl ?_
    refine wl_get 0 (.ref (lB Λ)) dL_balances_139 fL_10 rfl rfl ?_
    refine wl_iload dL_balances_142 rfl ?_
    refine wl_callX (As := [.int (nI i)]) (S := [.long y]) [] ce dL_balances_144 ML_111 rfl rfl (Nat.le_of_ble_eq_true rfl) ?_
    refine a_conductedHeat (i := i) hC (by omega) (fun m6 hC7 => ?_)
    show WZ G (d + 20) (0, 0) μL_balances 147 [.ref (gB G), .long z, lvU, .int (nI (sN (aS A))), .long y, lvU, .int (nI i), lvU, lvU] [.long (cdF (sS (aS A)) i (sN (aS A))), .long y] (lm G Λ X ext m6 ce) Q
    refine wl_ladd dL_balances_147 ?_
    refine wl_lstore dL_balances_148 (by decide) rfl ?_
    refine wl_iinc (nI (i + 1)) dL_balances_150 rfl (by decide) (nadd (a := i) (b := 1) rfl) rfl ?_
    refine wl_goto 130 dL_balances_153 (by decide) ?_
    exact e4 q5 m6 hC7

theorem sh_0 {G : Cx} {d : Nat} {Λ : Lc} {X : Lx} {ext : va_W} {m : Mm} {A : Ab} {ce : List (Nat × Mm)} {Q : Option Value → LM → Prop}  (hC : CIv (atC G (lB Λ) false) m A) 
    (e1 : WZ G (d + 20) (0, 0) μL_sheds 10 [.ref (gB G), .int (nI (sH (aS A))), .int (0 : Int32), lvU, lvU] [] (lm G Λ X ext m ce) Q) :
    WZM G (d + 20) (0, 0) μL_sheds [.ref (gB G)] (lm G Λ X ext m ce) Q := by
  have hn12 := hC.nn.2
  have hl6 := hC.nl.2
  have hh8 := hC.nh.2
  refine WZM.of pL (Nat.le_of_ble_eq_true rfl) rfl ?_
  refine wl_aload_n dL_sheds_0 rfl ?_
  refine wl_get 0 (.ref (lB Λ)) dL_sheds_1 fL_10 rfl rfl ?_
  refine wl_callX (As := []) (S := []) [] ce dL_sheds_4 ML_126 rfl rfl (Nat.le_of_ble_eq_true rfl) ?_
  refine a_heaterCount hC ?_
  show WZ G (d + 20) (0, 0) μL_sheds 7 [.ref (gB G), lvU, lvU, lvU, lvU] [.int (nI (sH (aS A)))] (lm G Λ X ext m ce) Q
  refine wl_istore_n dL_sheds_7 (by decide) rfl ?_
  refine wl_iconst (0 : Int32) dL_sheds_8 (by decide) ?_
  refine wl_istore_n dL_sheds_9 (by decide) rfl ?_
  exact e1

theorem sh_1 {G : Cx} {d : Nat} {Λ : Lc} {X : Lx} {ext : va_W} {m : Mm} {A : Ab} {ce : List (Nat × Mm)} {Q : Option Value → LM → Prop} {i : Nat} (hC : CIv (atC G (lB Λ) false) m A) (hi : i ≤ sH (aS A))
    (e1 : ¬ i < sH (aS A) → Q (some (.int (1 : Int32))) (lm G Λ X ext m ce))
    (e2 : i < sH (aS A) → WZ G (d + 20) (0, 0) μL_sheds 17 [.ref (gB G), .int (nI (sH (aS A))), .int (nI i), .int (0 : Int32), lvU] [] (lm G Λ X ext m ce) Q) :
    WZ G (d + 20) (0, 0) μL_sheds 10 [.ref (gB G), .int (nI (sH (aS A))), .int (nI i), lvU, lvU] [] (lm G Λ X ext m ce) Q := by
  have hn12 := hC.nn.2
  have hl6 := hC.nl.2
  have hh8 := hC.nh.2
  refine wl_iload_n dL_sheds_10 rfl ?_
  refine wl_iload_n dL_sheds_11 rfl ?_
  refine wl_icmp_ge 122 dL_sheds_12 (by decide) (fun q1 => ?_) (fun q1 => ?_)
  · have q2 : ¬ i < sH (aS A) := fun y => q1 (nlt_ y (by omega))
    refine wl_iconst (1 : Int32) dL_sheds_122 (by decide) ?_
    exact wl_zret dL_sheds_123 rfl rfl (e1 q2)
  · have q3 : i < sH (aS A) := nlt q1 (by omega) (by omega)
    refine wl_iconst (0 : Int32) dL_sheds_15 (by decide) ?_
    refine wl_istore_n dL_sheds_16 (by decide) rfl ?_
    exact e2 q3

theorem sh_2 {G : Cx} {d : Nat} {Λ : Lc} {X : Lx} {ext : va_W} {m : Mm} {A : Ab} {ce : List (Nat × Mm)} {Q : Option Value → LM → Prop} {i j : Nat} (hC : CIv (atC G (lB Λ) false) m A) (hi : i < sH (aS A)) (hj : j ≤ sH (aS A))
    (e1 : ¬ j < sH (aS A) → WZ G (d + 20) (0, 0) μL_sheds 10 [.ref (gB G), .int (nI (sH (aS A))), .int (nI (i + 1)), lvU, lvU] [] (lm G Λ X ext m ce) Q)
    (e2 : j < sH (aS A) → ((xP X) j) < ((xP X) i) → ¬ (sS (aS A) (8 * i + 345)) = (2 : Int32) → WZ G (d + 20) (0, 0) μL_sheds 17 [.ref (gB G), .int (nI (sH (aS A))), .int (nI i), .int (nI (j + 1)), lvU] [] (lm G Λ X ext m ce) Q)
    (e3 : j < sH (aS A) → ((xP X) j) < ((xP X) i) → (sS (aS A) (8 * i + 345)) = (2 : Int32) → ¬ (sS (aS A) (8 * j + 345)) = (1 : Int32) → WZ G (d + 20) (0, 0) μL_sheds 17 [.ref (gB G), .int (nI (sH (aS A))), .int (nI i), .int (nI (j + 1)), lvU] [] (lm G Λ X ext m ce) Q)
    (e4 : j < sH (aS A) → ((xP X) j) < ((xP X) i) → (sS (aS A) (8 * i + 345)) = (2 : Int32) → (sS (aS A) (8 * j + 345)) = (1 : Int32) → ((xW X) j) < ((xW X) i) → WZ G (d + 20) (0, 0) μL_sheds 17 [.ref (gB G), .int (nI (sH (aS A))), .int (nI i), .int (nI (j + 1)), lvU] [] (lm G Λ X ext m ce) Q)
    (e5 : j < sH (aS A) → ((xP X) j) < ((xP X) i) → (sS (aS A) (8 * i + 345)) = (2 : Int32) → (sS (aS A) (8 * j + 345)) = (1 : Int32) → ¬ ((xW X) j) < ((xW X) i) → Q (some (.int (0 : Int32))) (lm G Λ X ext m ce))
    (e6 : j < sH (aS A) → ¬ ((xP X) j) < ((xP X) i) → ¬ ((xP X) i) = ((xP X) j) → WZ G (d + 20) (0, 0) μL_sheds 17 [.ref (gB G), .int (nI (sH (aS A))), .int (nI i), .int (nI (j + 1)), lvU] [] (lm G Λ X ext m ce) Q)
    (e7 : j < sH (aS A) → ¬ ((xP X) j) < ((xP X) i) → ((xP X) i) = ((xP X) j) → ¬ i < j → WZ G (d + 20) (0, 0) μL_sheds 17 [.ref (gB G), .int (nI (sH (aS A))), .int (nI i), .int (nI (j + 1)), lvU] [] (lm G Λ X ext m ce) Q)
    (e8 : j < sH (aS A) → ¬ ((xP X) j) < ((xP X) i) → ((xP X) i) = ((xP X) j) → i < j → ¬ (sS (aS A) (8 * i + 345)) = (2 : Int32) → WZ G (d + 20) (0, 0) μL_sheds 17 [.ref (gB G), .int (nI (sH (aS A))), .int (nI i), .int (nI (j + 1)), lvU] [] (lm G Λ X ext m ce) Q)
    (e9 : j < sH (aS A) → ¬ ((xP X) j) < ((xP X) i) → ((xP X) i) = ((xP X) j) → i < j → (sS (aS A) (8 * i + 345)) = (2 : Int32) → ¬ (sS (aS A) (8 * j + 345)) = (1 : Int32) → WZ G (d + 20) (0, 0) μL_sheds 17 [.ref (gB G), .int (nI (sH (aS A))), .int (nI i), .int (nI (j + 1)), lvU] [] (lm G Λ X ext m ce) Q)
    (e10 : j < sH (aS A) → ¬ ((xP X) j) < ((xP X) i) → ((xP X) i) = ((xP X) j) → i < j → (sS (aS A) (8 * i + 345)) = (2 : Int32) → (sS (aS A) (8 * j + 345)) = (1 : Int32) → ((xW X) j) < ((xW X) i) → WZ G (d + 20) (0, 0) μL_sheds 17 [.ref (gB G), .int (nI (sH (aS A))), .int (nI i), .int (nI (j + 1)), lvU] [] (lm G Λ X ext m ce) Q)
    (e11 : j < sH (aS A) → ¬ ((xP X) j) < ((xP X) i) → ((xP X) i) = ((xP X) j) → i < j → (sS (aS A) (8 * i + 345)) = (2 : Int32) → (sS (aS A) (8 * j + 345)) = (1 : Int32) → ¬ ((xW X) j) < ((xW X) i) → Q (some (.int (0 : Int32))) (lm G Λ X ext m ce)) :
    WZ G (d + 20) (0, 0) μL_sheds 17 [.ref (gB G), .int (nI (sH (aS A))), .int (nI i), .int (nI j), lvU] [] (lm G Λ X ext m ce) Q := by
  have hn12 := hC.nn.2
  have hl6 := hC.nl.2
  have hh8 := hC.nh.2
  refine wl_iload_n dL_sheds_17 rfl ?_
  refine wl_iload_n dL_sheds_18 rfl ?_
  refine wl_icmp_ge 116 dL_sheds_19 (by decide) (fun q1 => ?_) (fun q1 => ?_)
  · have q2 : ¬ j < sH (aS A) := fun y => q1 (nlt_ y (by omega))
    refine wl_iinc (nI (i + 1)) dL_sheds_116 rfl (by decide) (nadd (a := i) (b := 1) rfl) rfl ?_
    refine wl_goto 10 dL_sheds_119 (by decide) ?_
    refine wl_forget [.ref (gB G), .int (nI (sH (aS A))), .int (nI (i + 1)), lvU, lvU] ⟨Or.inl rfl, Or.inl rfl, Or.inl rfl, Or.inr rfl, Or.inl rfl, trivial⟩ ?_
    exact e1 q2
  · have q3 : j < sH (aS A) := nlt q1 (by omega) (by omega)
    refine wl_aload_n dL_sheds_22 rfl ?_
    refine wl_get 0 (.ref (lP Λ)) dL_sheds_23 fL_16 rfl rfl ?_
    refine wl_iload_n dL_sheds_26 rfl ?_
    refine wl_iald (t0 := 1) 1 i ((xP X) i) dL_sheds_27 rfl rfl rfl (by omega) (by omega) rfl ?_
    refine wl_aload_n dL_sheds_28 rfl ?_
    refine wl_get 0 (.ref (lP Λ)) dL_sheds_29 fL_16 rfl rfl ?_
    refine wl_iload_n dL_sheds_32 rfl ?_
    refine wl_iald (t0 := 1) 1 j ((xP X) j) dL_sheds_33 rfl rfl rfl (by omega) (by omega) rfl ?_
    refine wl_icmp_gt 57 dL_sheds_34 (by decide) (fun q4 => ?_) (fun q4 => ?_)
    · refine wl_iconst (1 : Int32) dL_sheds_57 (by decide) ?_
      refine wl_goto 62 dL_sheds_58 (by decide) ?_
      refine wl_istore dL_sheds_62 (by decide) rfl ?_
      refine wl_iload dL_sheds_64 rfl ?_
      refine wl_if_eq 110 dL_sheds_66 (by decide) (fun z => absurd z (by decide)) (fun _ => ?_)
      refine wl_aload_n dL_sheds_69 rfl ?_
      refine wl_get 0 (.ref (lB Λ)) dL_sheds_70 fL_10 rfl rfl ?_
      refine wl_iload_n dL_sheds_73 rfl ?_
      refine wl_callX (As := [.int (nI i)]) (S := []) [] ce dL_sheds_74 ML_162 rfl rfl (Nat.le_of_ble_eq_true rfl) ?_
      refine a_heaterState (i := i) hC (by omega) ?_
      show WZ G (d + 20) (0, 0) μL_sheds 77 [.ref (gB G), .int (nI (sH (aS A))), .int (nI i), .int (nI j), .int (1 : Int32)] [.int (sS (aS A) (8 * i + 345))] (lm G Λ X ext m ce) Q
      refine wl_iconst (2 : Int32) dL_sheds_77 (by decide) ?_
      refine wl_icmp_ne 110 dL_sheds_78 (by decide) (fun q5 => ?_) (fun q5 => ?_)
      · refine wl_iinc (nI (j + 1)) dL_sheds_110 rfl (by decide) (nadd (a := j) (b := 1) rfl) rfl ?_
        refine wl_goto 17 dL_sheds_113 (by decide) ?_
        refine wl_forget [.ref (gB G), .int (nI (sH (aS A))), .int (nI i), .int (nI (j + 1)), lvU] ⟨Or.inl rfl, Or.inl rfl, Or.inl rfl, Or.inl rfl, Or.inr rfl, trivial⟩ ?_
        exact e2 q3 q4 q5
      · refine wl_aload_n dL_sheds_81 rfl ?_
        refine wl_get 0 (.ref (lB Λ)) dL_sheds_82 fL_10 rfl rfl ?_
        refine wl_iload_n dL_sheds_85 rfl ?_
        refine wl_callX (As := [.int (nI j)]) (S := []) [] ce dL_sheds_86 ML_162 rfl rfl (Nat.le_of_ble_eq_true rfl) ?_
        refine a_heaterState (i := j) hC (by omega) ?_
        show WZ G (d + 20) (0, 0) μL_sheds 89 [.ref (gB G), .int (nI (sH (aS A))), .int (nI i), .int (nI j), .int (1 : Int32)] [.int (sS (aS A) (8 * j + 345))] (lm G Λ X ext m ce) Q
        refine wl_iconst (1 : Int32) dL_sheds_89 (by decide) ?_
        refine wl_icmp_ne 110 dL_sheds_90 (by decide) (fun q6 => ?_) (fun q6 => ?_)
        · refine wl_iinc (nI (j + 1)) dL_sheds_110 rfl (by decide) (nadd (a := j) (b := 1) rfl) rfl ?_
          refine wl_goto 17 dL_sheds_113 (by decide) ?_
          refine wl_forget [.ref (gB G), .int (nI (sH (aS A))), .int (nI i), .int (nI (j + 1)), lvU] ⟨Or.inl rfl, Or.inl rfl, Or.inl rfl, Or.inl rfl, Or.inr rfl, trivial⟩ ?_
          exact e3 q3 q4 q5 q6
        · refine wl_aload_n dL_sheds_93 rfl ?_
          refine wl_get 0 (.ref (lW Λ)) dL_sheds_94 fL_20 rfl rfl ?_
          refine wl_iload_n dL_sheds_97 rfl ?_
          refine wl_iald (t0 := 1) 2 j ((xW X) j) dL_sheds_98 rfl rfl rfl (by omega) (by omega) rfl ?_
          refine wl_aload_n dL_sheds_99 rfl ?_
          refine wl_get 0 (.ref (lW Λ)) dL_sheds_100 fL_20 rfl rfl ?_
          refine wl_iload_n dL_sheds_103 rfl ?_
          refine wl_iald (t0 := 1) 2 i ((xW X) i) dL_sheds_104 rfl rfl rfl (by omega) (by omega) rfl ?_
          refine wl_icmp_lt 110 dL_sheds_105 (by decide) (fun q7 => ?_) (fun q7 => ?_)
          · refine wl_iinc (nI (j + 1)) dL_sheds_110 rfl (by decide) (nadd (a := j) (b := 1) rfl) rfl ?_
            refine wl_goto 17 dL_sheds_113 (by decide) ?_
            refine wl_forget [.ref (gB G), .int (nI (sH (aS A))), .int (nI i), .int (nI (j + 1)), lvU] ⟨Or.inl rfl, Or.inl rfl, Or.inl rfl, Or.inl rfl, Or.inr rfl, trivial⟩ ?_
            exact e4 q3 q4 q5 q6 q7
          · refine wl_iconst (0 : Int32) dL_sheds_108 (by decide) ?_
            exact wl_zret dL_sheds_109 rfl rfl (e5 q3 q4 q5 q6 q7)
    · refine wl_aload_n dL_sheds_37 rfl ?_
      refine wl_get 0 (.ref (lP Λ)) dL_sheds_38 fL_16 rfl rfl ?_
      refine wl_iload_n dL_sheds_41 rfl ?_
      refine wl_iald (t0 := 1) 1 i ((xP X) i) dL_sheds_42 rfl rfl rfl (by omega) (by omega) rfl ?_
      refine wl_aload_n dL_sheds_43 rfl ?_
      refine wl_get 0 (.ref (lP Λ)) dL_sheds_44 fL_16 rfl rfl ?_
      refine wl_iload_n dL_sheds_47 rfl ?_
      refine wl_iald (t0 := 1) 1 j ((xP X) j) dL_sheds_48 rfl rfl rfl (by omega) (by omega) rfl ?_
      refine wl_icmp_ne 61 dL_sheds_49 (by decide) (fun q8 => ?_) (fun q8 => ?_)
      · refine wl_iconst (0 : Int32) dL_sheds_61 (by decide) ?_
        refine wl_istore dL_sheds_62 (by decide) rfl ?_
        refine wl_iload dL_sheds_64 rfl ?_
        refine wl_if_eq 110 dL_sheds_66 (by decide) (fun _ => ?_) (fun z => absurd z (by decide))
        refine wl_iinc (nI (j + 1)) dL_sheds_110 rfl (by decide) (nadd (a := j) (b := 1) rfl) rfl ?_
        refine wl_goto 17 dL_sheds_113 (by decide) ?_
        refine wl_forget [.ref (gB G), .int (nI (sH (aS A))), .int (nI i), .int (nI (j + 1)), lvU] ⟨Or.inl rfl, Or.inl rfl, Or.inl rfl, Or.inl rfl, Or.inr rfl, trivial⟩ ?_
        exact e6 q3 q4 q8
      · refine wl_iload_n dL_sheds_52 rfl ?_
        refine wl_iload_n dL_sheds_53 rfl ?_
        refine wl_icmp_ge 61 dL_sheds_54 (by decide) (fun q9 => ?_) (fun q9 => ?_)
        · have q10 : ¬ i < j := fun y => q9 (nlt_ y (by omega))
          refine wl_iconst (0 : Int32) dL_sheds_61 (by decide) ?_
          refine wl_istore dL_sheds_62 (by decide) rfl ?_
          refine wl_iload dL_sheds_64 rfl ?_
          refine wl_if_eq 110 dL_sheds_66 (by decide) (fun _ => ?_) (fun z => absurd z (by decide))
          refine wl_iinc (nI (j + 1)) dL_sheds_110 rfl (by decide) (nadd (a := j) (b := 1) rfl) rfl ?_
          refine wl_goto 17 dL_sheds_113 (by decide) ?_
          refine wl_forget [.ref (gB G), .int (nI (sH (aS A))), .int (nI i), .int (nI (j + 1)), lvU] ⟨Or.inl rfl, Or.inl rfl, Or.inl rfl, Or.inl rfl, Or.inr rfl, trivial⟩ ?_
          exact e7 q3 q4 q8 q10
        · have q11 : i < j := nlt q9 (by omega) (by omega)
          refine wl_iconst (1 : Int32) dL_sheds_57 (by decide) ?_
          refine wl_goto 62 dL_sheds_58 (by decide) ?_
          refine wl_istore dL_sheds_62 (by decide) rfl ?_
          refine wl_iload dL_sheds_64 rfl ?_
          refine wl_if_eq 110 dL_sheds_66 (by decide) (fun z => absurd z (by decide)) (fun _ => ?_)
          refine wl_aload_n dL_sheds_69 rfl ?_
          refine wl_get 0 (.ref (lB Λ)) dL_sheds_70 fL_10 rfl rfl ?_
          refine wl_iload_n dL_sheds_73 rfl ?_
          refine wl_callX (As := [.int (nI i)]) (S := []) [] ce dL_sheds_74 ML_162 rfl rfl (Nat.le_of_ble_eq_true rfl) ?_
          refine a_heaterState (i := i) hC (by omega) ?_
          show WZ G (d + 20) (0, 0) μL_sheds 77 [.ref (gB G), .int (nI (sH (aS A))), .int (nI i), .int (nI j), .int (1 : Int32)] [.int (sS (aS A) (8 * i + 345))] (lm G Λ X ext m ce) Q
          refine wl_iconst (2 : Int32) dL_sheds_77 (by decide) ?_
          refine wl_icmp_ne 110 dL_sheds_78 (by decide) (fun q12 => ?_) (fun q12 => ?_)
          · refine wl_iinc (nI (j + 1)) dL_sheds_110 rfl (by decide) (nadd (a := j) (b := 1) rfl) rfl ?_
            refine wl_goto 17 dL_sheds_113 (by decide) ?_
            refine wl_forget [.ref (gB G), .int (nI (sH (aS A))), .int (nI i), .int (nI (j + 1)), lvU] ⟨Or.inl rfl, Or.inl rfl, Or.inl rfl, Or.inl rfl, Or.inr rfl, trivial⟩ ?_
            exact e8 q3 q4 q8 q11 q12
          · refine wl_aload_n dL_sheds_81 rfl ?_
            refine wl_get 0 (.ref (lB Λ)) dL_sheds_82 fL_10 rfl rfl ?_
            refine wl_iload_n dL_sheds_85 rfl ?_
            refine wl_callX (As := [.int (nI j)]) (S := []) [] ce dL_sheds_86 ML_162 rfl rfl (Nat.le_of_ble_eq_true rfl) ?_
            refine a_heaterState (i := j) hC (by omega) ?_
            show WZ G (d + 20) (0, 0) μL_sheds 89 [.ref (gB G), .int (nI (sH (aS A))), .int (nI i), .int (nI j), .int (1 : Int32)] [.int (sS (aS A) (8 * j + 345))] (lm G Λ X ext m ce) Q
            refine wl_iconst (1 : Int32) dL_sheds_89 (by decide) ?_
            refine wl_icmp_ne 110 dL_sheds_90 (by decide) (fun q13 => ?_) (fun q13 => ?_)
            · refine wl_iinc (nI (j + 1)) dL_sheds_110 rfl (by decide) (nadd (a := j) (b := 1) rfl) rfl ?_
              refine wl_goto 17 dL_sheds_113 (by decide) ?_
              refine wl_forget [.ref (gB G), .int (nI (sH (aS A))), .int (nI i), .int (nI (j + 1)), lvU] ⟨Or.inl rfl, Or.inl rfl, Or.inl rfl, Or.inl rfl, Or.inr rfl, trivial⟩ ?_
              exact e9 q3 q4 q8 q11 q12 q13
            · refine wl_aload_n dL_sheds_93 rfl ?_
              refine wl_get 0 (.ref (lW Λ)) dL_sheds_94 fL_20 rfl rfl ?_
              refine wl_iload_n dL_sheds_97 rfl ?_
              refine wl_iald (t0 := 1) 2 j ((xW X) j) dL_sheds_98 rfl rfl rfl (by omega) (by omega) rfl ?_
              refine wl_aload_n dL_sheds_99 rfl ?_
              refine wl_get 0 (.ref (lW Λ)) dL_sheds_100 fL_20 rfl rfl ?_
              refine wl_iload_n dL_sheds_103 rfl ?_
              refine wl_iald (t0 := 1) 2 i ((xW X) i) dL_sheds_104 rfl rfl rfl (by omega) (by omega) rfl ?_
              refine wl_icmp_lt 110 dL_sheds_105 (by decide) (fun q14 => ?_) (fun q14 => ?_)
              · refine wl_iinc (nI (j + 1)) dL_sheds_110 rfl (by decide) (nadd (a := j) (b := 1) rfl) rfl ?_
                refine wl_goto 17 dL_sheds_113 (by decide) ?_
                refine wl_forget [.ref (gB G), .int (nI (sH (aS A))), .int (nI i), .int (nI (j + 1)), lvU] ⟨Or.inl rfl, Or.inl rfl, Or.inl rfl, Or.inl rfl, Or.inr rfl, trivial⟩ ?_
                exact e10 q3 q4 q8 q11 q12 q13 q14
              · refine wl_iconst (0 : Int32) dL_sheds_108 (by decide) ?_
                exact wl_zret dL_sheds_109 rfl rfl (e11 q3 q4 q8 q11 q12 q13 q14)

