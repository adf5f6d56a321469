theorem vcs_nn (s : Sc) : ∀ k : Nat, k ≤ 1000 → ¬ vcs s k < 0 := by
  have key : ∀ k : Nat, k ≤ 1000 → 0 ≤ (vcs s k).toInt ∧ (vcs s k).toInt ≤ (k : Int) := by
    intro k
    induction k with
    | zero => intro _; exact (show (0 : Int) ≤ (0 : Int32).toInt ∧ (0 : Int32).toInt ≤ ((0 : Nat) : Int) from by decide)
    | succ k ih =>
      intro hk
      obtain ⟨h1, h2⟩ := ih (by omega)
      show 0 ≤ (if svi (it s k) = 0 then vcs s k else vcs s k + 1).toInt ∧ (if svi (it s k) = 0 then vcs s k else vcs s k + 1).toInt ≤ _
      by_cases h : svi (it s k) = 0
      · rw [if_pos h]
        exact ⟨h1, by omega⟩
      · rw [if_neg h]
        have e : (vcs s k + 1).toInt = (vcs s k).toInt + 1 := by
          have o : (1 : Int32).toInt = 1 := rfl
          rw [Int32.toInt_add, o, Int.bmod_eq_of_le (by omega) (by omega)]
        rw [e]
        exact ⟨by omega, by omega⟩
  intro k hk
  rw [Int32.lt_iff_toInt_lt]
  have := (key k hk).1
  have z : (0 : Int32).toInt = 0 := rfl
  omega
/-! BALANCES, SHEDS, HOLDSCHARGE, COOLS: blocks (printed by gen_bal.py) -/
theorem ba_0 {G : Cx} {d : Nat} {Λ : Lc} {X : Lx} {ext : va_W} {m : Mm} {A : Ab} {ce : List (Nat × Mm)} {Q : Option Value → LM → Prop}  (hC : CIv (atC G (lB Λ) false) m A) 
    (e1 : WZ G (d + 20) (0, 0) μL_balances 13 [.ref (gB G), .long (0 : Int64), lvU, .int (nI (sN (aS A))), .int (0 : Int32), lvU, lvU, lvU, lvU] [] (lm G Λ X ext m ce) Q) :
    WZM G (d + 20) (0, 0) μL_balances [.ref (gB G)] (lm G Λ X ext m ce) Q := by
  have hn12 := hC.nn.2
  have hl6 := hC.nl.2
  have hh8 := hC.nh.2
  refine WZM.of pL (Nat.le_of_ble_eq_true rfl) rfl ?_
  refine wl_lconst (0 : Int64) dL_balances_0 (by decide) ?_
  refine wl_lstore_n dL_balances_1 (by decide) rfl ?_
  refine wl_aload_n dL_balances_2 rfl ?_
  refine wl_get 0 (.ref (lB Λ)) dL_balances_3 fL_10 rfl rfl ?_
  refine wl_callX (As := []) (S := []) [] ce dL_balances_6 ML_101 rfl rfl (Nat.le_of_ble_eq_true rfl) ?_
  refine a_nodeCount hC ?_
  show WZ G (d + 20) (0, 0) μL_balances 9 [.ref (gB G), .long (0 : Int64), lvU, lvU, lvU, lvU, lvU, lvU, lvU] [.int (nI (sN (aS A)))] (lm G Λ X ext m ce) Q
  refine wl_istore_n dL_balances_9 (by decide) rfl ?_
  refine wl_iconst (0 : Int32) dL_balances_10 (by decide) ?_
  refine wl_istore dL_balances_11 (by decide) rfl ?_
  exact e1

theorem ba_1 {G : Cx} {d : Nat} {Λ : Lc} {X : Lx} {ext : va_W} {m : Mm} {A : Ab} {ce : List (Nat × Mm)} {Q : Option Value → LM → Prop} {z : Int64} {i : Nat} (hC : CIv (atC G (lB Λ) false) m A) (hi : i ≤ sN (aS A)) (k1 : i < sN (aS A) → ¬ (Int32.toInt64 (sS (aS A) (11 * i + 24)) + htF (sS (aS A)) i 0 (sH (aS A)) + absF (sS (aS A)) i + cdF (sS (aS A)) i (sN (aS A)) - emF (sS (aS A)) (sL (aS A)) i) < ((((Int32.toInt64 (sS (aS A) (11 * i + 24))) + (absF (sS (aS A)) i)) + (cdF (sS (aS A)) i (sN (aS A)))) - (emF (sS (aS A)) (sL (aS A)) i)) ∧ ¬ emF (sS (aS A)) (sL (aS A)) i < 0 ∧ ¬ absF (sS (aS A)) i < 0)
    (e1 : ¬ i < sN (aS A) → WZ G (d + 20) (0, 0) μL_balances 130 [.ref (gB G), .long z, lvU, .int (nI (sN (aS A))), .long (0 : Int64), lvU, .int (0 : Int32), lvU, lvU] [] (lm G Λ X ext m ce) Q)
    (e2 : i < sN (aS A) → ∀ m4 : Mm, CIv (atC G (lB Λ) false) m4 A → ∀ m6 : Mm, CIv (atC G (lB Λ) false) m6 A → ∀ m8 : Mm, CIv (atC G (lB Λ) false) m8 A → ∀ m10 : Mm, CIv (atC G (lB Λ) false) m10 A → ∀ m12 : Mm, CIv (atC G (lB Λ) false) m12 A → ∀ m14 : Mm, CIv (atC G (lB Λ) false) m14 A → WZ G (d + 20) (0, 0) μL_balances 13 [.ref (gB G), .long (z + ((Int32.toInt64 (sS (aS A) (11 * i + 24)) + htF (sS (aS A)) i 0 (sH (aS A)) + absF (sS (aS A)) i + cdF (sS (aS A)) i (sN (aS A)) - emF (sS (aS A)) (sL (aS A)) i) - ((((Int32.toInt64 (sS (aS A) (11 * i + 24))) + (absF (sS (aS A)) i)) + (cdF (sS (aS A)) i (sN (aS A)))) - (emF (sS (aS A)) (sL (aS A)) i)))), lvU, .int (nI (sN (aS A))), .int (nI (i + 1)), lvU, lvU, lvU, lvU] [] (lm G Λ X ext m14 ce) Q) :
    WZ G (d + 20) (0, 0) μL_balances 13 [.ref (gB G), .long z, lvU, .int (nI (sN (aS A))), .int (nI i), lvU, lvU, lvU, lvU] [] (lm G Λ X ext m ce) Q := by
  have hn12 := hC.nn.2
  have hl6 := hC.nl.2
  have hh8 := hC.nh.2
  refine wl_iload dL_balances_13 rfl ?_
  refine wl_iload_n dL_balances_15 rfl ?_
  refine wl_icmp_ge 124 dL_balances_16 (by decide) (fun q1 => ?_) (fun q1 => ?_)
  · have q2 : ¬ i < sN (aS A) := fun y => q1 (nlt_ (a := i) (b := sN (aS A)) y (by omega))
    refine wl_lconst (0 : Int64) dL_balances_124 (by decide) ?_
    refine wl_lstore dL_balances_125 (by decide) rfl ?_
    refine wl_iconst (0 : Int32) dL_balances_127 (by decide) ?_
    refine wl_istore dL_balances_128 (by decide) rfl ?_
    exact e1 q2
  · have q3 : i < sN (aS A) := nlt (a := i) (b := sN (aS A)) q1 (by omega) (by omega)
    refine wl_aload_n dL_balances_19 rfl ?_
    refine wl_get 0 (.ref (lB Λ)) dL_balances_20 fL_10 rfl rfl ?_
    refine wl_iload dL_balances_23 rfl ?_
    refine wl_callX (As := [.int (nI i)]) (S := []) [] ce dL_balances_25 ML_104 rfl rfl (Nat.le_of_ble_eq_true rfl) ?_
    refine a_load (i := i) hC (by omega) ?_
    show WZ G (d + 20) (0, 0) μL_balances 28 [.ref (gB G), .long z, lvU, .int (nI (sN (aS A))), .int (nI i), lvU, lvU, lvU, lvU] [.int (sS (aS A) (11 * i + 24))] (lm G Λ X ext m ce) Q
    refine wl_i2l dL_balances_28 ?_
    refine wl_aload_n dL_balances_29 rfl ?_
    refine wl_get 0 (.ref (lB Λ)) dL_balances_30 fL_10 rfl rfl ?_
    refine wl_iload dL_balances_33 rfl ?_
    refine wl_callX (As := [.int (nI i)]) (S := [.long (Int32.toInt64 (sS (aS A) (11 * i + 24)))]) [] ce dL_balances_35 ML_107 rfl rfl (Nat.le_of_ble_eq_true rfl) ?_
    refine a_absorbedHeat (i := i) hC (by omega) (fun m4 hC5 => ?_)
    show WZ G (d + 20) (0, 0) μL_balances 38 [.ref (gB G), .long z, lvU, .int (nI (sN (aS A))), .int (nI i), lvU, lvU, lvU, lvU] [.long (absF (sS (aS A)) i), .long (Int32.toInt64 (sS (aS A) (11 * i + 24)))] (lm G Λ X ext m4 ce) Q
    refine wl_ladd dL_balances_38 ?_
    refine wl_aload_n dL_balances_39 rfl ?_
    refine wl_get 0 (.ref (lB Λ)) dL_balances_40 fL_10 rfl rfl ?_
    refine wl_iload dL_balances_43 rfl ?_
    refine wl_callX (As := [.int (nI i)]) (S := [.long ((Int32.toInt64 (sS (aS A) (11 * i + 24))) + (absF (sS (aS A)) i))]) [] ce dL_balances_45 ML_111 rfl rfl (Nat.le_of_ble_eq_true rfl) ?_
    refine a_conductedHeat (i := i) hC5 (by omega) (fun m6 hC7 => ?_)
    show WZ G (d + 20) (0, 0) μL_balances 48 [.ref (gB G), .long z, lvU, .int (nI (sN (aS A))), .int (nI i), lvU, lvU, lvU, lvU] [.long (cdF (sS (aS A)) i (sN (aS A))), .long ((Int32.toInt64 (sS (aS A) (11 * i + 24))) + (absF (sS (aS A)) i))] (lm G Λ X ext m6 ce) Q
    refine wl_ladd dL_balances_48 ?_
    refine wl_aload_n dL_balances_49 rfl ?_
    refine wl_get 0 (.ref (lB Λ)) dL_balances_50 fL_10 rfl rfl ?_
    refine wl_iload dL_balances_53 rfl ?_
    refine wl_callX (As := [.int (nI i)]) (S := [.long (((Int32.toInt64 (sS (aS A) (11 * i + 24))) + (absF (sS (aS A)) i)) + (cdF (sS (aS A)) i (sN (aS A))))]) [] ce dL_balances_55 ML_114 rfl rfl (Nat.le_of_ble_eq_true rfl) ?_
    refine a_emittedHeat (i := i) hC7 (by omega) (fun m8 hC9 => ?_)
    show WZ G (d + 20) (0, 0) μL_balances 58 [.ref (gB G), .long z, lvU, .int (nI (sN (aS A))), .int (nI i), lvU, lvU, lvU, lvU] [.long (emF (sS (aS A)) (sL (aS A)) i), .long (((Int32.toInt64 (sS (aS A) (11 * i + 24))) + (absF (sS (aS A)) i)) + (cdF (sS (aS A)) i (sN (aS A))))] (lm G Λ X ext m8 ce) Q
    refine wl_lsub dL_balances_58 ?_
    refine wl_lstore dL_balances_59 (by decide) rfl ?_
    refine wl_aload_n dL_balances_61 rfl ?_
    refine wl_get 0 (.ref (lB Λ)) dL_balances_62 fL_10 rfl rfl ?_
    refine wl_iload dL_balances_65 rfl ?_
    refine wl_callX (As := [.int (nI i)]) (S := []) [] ce dL_balances_67 ML_117 rfl rfl (Nat.le_of_ble_eq_true rfl) ?_
    refine a_netHeat (i := i) hC9 (by omega) (fun m10 hC11 => ?_)
    show WZ G (d + 20) (0, 0) μL_balances 70 [.ref (gB G), .long z, lvU, .int (nI (sN (aS A))), .int (nI i), .long ((((Int32.toInt64 (sS (aS A) (11 * i + 24))) + (absF (sS (aS A)) i)) + (cdF (sS (aS A)) i (sN (aS A)))) - (emF (sS (aS A)) (sL (aS A)) i)), lvU, lvU, lvU] [.long (Int32.toInt64 (sS (aS A) (11 * i + 24)) + htF (sS (aS A)) i 0 (sH (aS A)) + absF (sS (aS A)) i + cdF (sS (aS A)) i (sN (aS A)) - emF (sS (aS A)) (sL (aS A)) i)] (lm G Λ X ext m10 ce) Q
    refine wl_lstore dL_balances_70 (by decide) rfl ?_
    refine wl_lload dL_balances_72 rfl ?_
    refine wl_lload dL_balances_74 rfl ?_
    refine wl_lc_lt 108 dL_balances_76 dL_balances_77 (by decide) (fun z => absurd z ((k1 q3).1)) (fun _ => ?_)
    refine wl_aload_n dL_balances_80 rfl ?_
    refine wl_get 0 (.ref (lB Λ)) dL_balances_81 fL_10 rfl rfl ?_
    refine wl_iload dL_balances_84 rfl ?_
    refine wl_callX (As := [.int (nI i)]) (S := []) [] ce dL_balances_86 ML_114 rfl rfl (Nat.le_of_ble_eq_true rfl) ?_
    refine a_emittedHeat (i := i) hC11 (by omega) (fun m12 hC13 => ?_)
    show WZ G (d + 20) (0, 0) μL_balances 89 [.ref (gB G), .long z, lvU, .int (nI (sN (aS A))), .int (nI i), .long ((((Int32.toInt64 (sS (aS A) (11 * i + 24))) + (absF (sS (aS A)) i)) + (cdF (sS (aS A)) i (sN (aS A)))) - (emF (sS (aS A)) (sL (aS A)) i)), lvU, .long (Int32.toInt64 (sS (aS A) (11 * i + 24)) + htF (sS (aS A)) i 0 (sH (aS A)) + absF (sS (aS A)) i + cdF (sS (aS A)) i (sN (aS A)) - emF (sS (aS A)) (sL (aS A)) i), lvU] [.long (emF (sS (aS A)) (sL (aS A)) i)] (lm G Λ X ext m12 ce) Q
    refine wl_lconst (0 : Int64) dL_balances_89 (by decide) ?_
    refine wl_lc_lt 108 dL_balances_90 dL_balances_91 (by decide) (fun z => absurd z ((k1 q3).2.1)) (fun _ => ?_)
    refine wl_aload_n dL_balances_94 rfl ?_
    refine wl_get 0 (.ref (lB Λ)) dL_balances_95 fL_10 rfl rfl ?_
    refine wl_iload dL_balances_98 rfl ?_
    refine wl_callX (As := [.int (nI i)]) (S := []) [] ce dL_balances_100 ML_107 rfl rfl (Nat.le_of_ble_eq_true rfl) ?_
    refine a_absorbedHeat (i := i) hC13 (by omega) (fun m14 hC15 => ?_)
    show WZ G (d + 20) (0, 0) μL_balances 103 [.ref (gB G), .long z, lvU, .int (nI (sN (aS A))), .int (nI i), .long ((((Int32.toInt64 (sS (aS A) (11 * i + 24))) + (absF (sS (aS A)) i)) + (cdF (sS (aS A)) i (sN (aS A)))) - (emF (sS (aS A)) (sL (aS A)) i)), lvU, .long (Int32.toInt64 (sS (aS A) (11 * i + 24)) + htF (sS (aS A)) i 0 (sH (aS A)) + absF (sS (aS A)) i + cdF (sS (aS A)) i (sN (aS A)) - emF (sS (aS A)) (sL (aS A)) i), lvU] [.long (absF (sS (aS A)) i)] (lm G Λ X ext m14 ce) Q
    refine wl_lconst (0 : Int64) dL_balances_103 (by decide) ?_
    refine wl_lc_ge 110 dL_balances_104 dL_balances_105 (by decide) (fun _ => ?_) (fun z => absurd z ((k1 q3).2.2))
    refine wl_lload_n dL_balances_110 rfl ?_
    refine wl_lload dL_balances_111 rfl ?_
    refine wl_lload dL_balances_113 rfl ?_
    refine wl_lsub dL_balances_115 ?_
    refine wl_ladd dL_balances_116 ?_
    refine wl_lstore_n dL_balances_117 (by decide) rfl ?_
    refine wl_iinc (nI (i + 1)) dL_balances_118 rfl (by decide) (nadd (a := i) (b := 1) rfl) rfl ?_
    refine wl_goto 13 dL_balances_121 (by decide) ?_
    refine wl_forget [.ref (gB G), .long (z + ((Int32.toInt64 (sS (aS A) (11 * i + 24)) + htF (sS (aS A)) i 0 (sH (aS A)) + absF (sS (aS A)) i + cdF (sS (aS A)) i (sN (aS A)) - emF (sS (aS A)) (sL (aS A)) i) - ((((Int32.toInt64 (sS (aS A) (11 * i + 24))) + (absF (sS (aS A)) i)) + (cdF (sS (aS A)) i (sN (aS A)))) - (emF (sS (aS A)) (sL (aS A)) i)))), lvU, .int (nI (sN (aS A))), .int (nI (i + 1)), lvU, lvU, lvU, lvU] ⟨Or.inl rfl, Or.inl rfl, Or.inl rfl, Or.inl rfl, Or.inl rfl, Or.inr rfl, Or.inl rfl, Or.inr rfl, Or.inl rfl, trivial⟩ ?_
    exact e2 q3 m4 hC5 m6 hC7 m8 hC9 m10 hC11 m12 hC13 m14 hC15

theorem ba_2 {G : Cx} {d : Nat} {Λ : Lc} {X : Lx} {ext : va_W} {m : Mm} {A : Ab} {ce : List (Nat × Mm)} {Q : Option Value → LM → Prop} {z y : Int64} {i : Nat} (hC : CIv (atC G (lB Λ) false) m A) (hi : i ≤ sN (aS A)) (k1 : ¬ i < sN (aS A) → y = 0 ∧ z = Int32.toInt64 (upF (sS (aS A)) (sH (aS A))))
    (e1 : ¬ i < sN (aS A) → Q (some (.int (1 : Int32))) (lm G Λ X ext m ce))
    (e2 : i < sN (aS A) → ∀ m4 : Mm, CIv (atC G (lB Λ) false) m4 A → WZ G (d + 20) (0, 0) μL_balances 130 [.ref (gB G), .long z, lvU, .int (nI (sN (aS A))), .long (y + (cdF (sS (aS A)) i (sN (aS A)))), lvU, .int (nI (i + 1)), lvU, lvU] [] (lm G Λ X ext m4 ce) Q) :
    WZ G (d + 20) (0, 0) μL_balances 130 [.ref (gB G), .long z, lvU, .int (nI (sN (aS A))), .long y, lvU, .int (nI i), lvU, lvU] [] (lm G Λ X ext m ce) Q := by
  have hn12 := hC.nn.2
  have hl6 := hC.nl.2
  have hh8 := hC.nh.2
  refine wl_iload dL_balances_130 rfl ?_
  refine wl_iload_n dL_balances_132 rfl ?_
  refine wl_icmp_ge 156 dL_balances_133 (by decide) (fun q1 => ?_) (fun q1 => ?_)
  · have q2 : ¬ i < sN (aS A) := fun y => q1 (nlt_ (a := i) (b := sN (aS A)) y (by omega))
    refine wl_lload dL_balances_156 rfl ?_
    refine wl_lconst (0 : Int64) dL_balances_158 (by decide) ?_
    refine wl_lc_ne 180 dL_balances_159 dL_balances_160 (by decide) (fun z => absurd ((k1 q2).1) z) (fun _ => ?_)
    refine wl_lload_n dL_balances_163 rfl ?_
    refine wl_aload_n dL_balances_164 rfl ?_
    refine wl_get 0 (.ref (lB Λ)) dL_balances_165 fL_10 rfl rfl ?_
    refine wl_callX (As := []) (S := [.long z]) [] ce dL_balances_168 ML_120 rfl rfl (Nat.le_of_ble_eq_true rfl) ?_
    refine a_usedPower hC ?_
    show WZ G (d + 20) (0, 0) μL_balances 171 [.ref (gB G), .long z, lvU, .int (nI (sN (aS A))), .long y, lvU, .int (nI i), lvU, lvU] [.int (upF (sS (aS A)) (sH (aS A))), .long z] (lm G Λ X ext m ce) Q
    refine wl_i2l dL_balances_171 ?_
    refine wl_lc_ne 180 dL_balances_172 dL_balances_173 (by decide) (fun z => absurd ((k1 q2).2) z) (fun _ => ?_)
    refine wl_iconst (1 : Int32) dL_balances_176 (by decide) ?_
    refine wl_goto 181 dL_balances_177 (by decide) ?_
    exact wl_zret dL_balances_181 rfl rfl (e1 q2)
  · have q3 : i < sN (aS A) := nlt (a := i) (b := sN (aS A)) q1 (by omega) (by omega)
    refine wl_lload dL_balances_136 rfl ?_
    refine wl_aload_n dL_balances_138 rfl ?_
    refine wl_get 0 (.ref (lB Λ)) dL_balances_139 fL_10 rfl rfl ?_
    refine wl_iload dL_balances_142 rfl ?_
    refine wl_callX (As := [.int (nI i)]) (S := [.long y]) [] ce dL_balances_144 ML_111 rfl rfl (Nat.le_of_ble_eq_true rfl) ?_
    refine a_conductedHeat (i := i) hC (by omega) (fun m4 hC5 => ?_)
    show WZ G (d + 20) (0, 0) μL_balances 147 [.ref (gB G), .long z, lvU, .int (nI (sN (aS A))), .long y, lvU, .int (nI i), lvU, lvU] [.long (cdF (sS (aS A)) i (sN (aS A))), .long y] (lm G Λ X ext m4 ce) Q
    refine wl_ladd dL_balances_147 ?_
    refine wl_lstore dL_balances_148 (by decide) rfl ?_
    refine wl_iinc (nI (i + 1)) dL_balances_150 rfl (by decide) (nadd (a := i) (b := 1) rfl) rfl ?_
    refine wl_goto 130 dL_balances_153 (by decide) ?_
    exact e2 q3 m4 hC5

theorem sh_0 {G : Cx} {d : Nat} {Λ : Lc} {X : Lx} {ext : va_W} {m : Mm} {A : Ab} {ce : List (Nat × Mm)} {Q : Option Value → LM → Prop}  (hC : CIv (atC G (lB Λ) false) m A) 
    (e1 : WZ G (d + 20) (0, 0) μL_sheds 10 [.ref (gB G), .int (nI (sH (aS A))), .int (0 : Int32), lvU, lvU] [] (lm G Λ X ext m ce) Q) :
    WZM G (d + 20) (0, 0) μL_sheds [.ref (gB G)] (lm G Λ X ext m ce) Q := by
  have hn12 := hC.nn.2
  have hl6 := hC.nl.2
  have hh8 := hC.nh.2
  refine WZM.of pL (Nat.le_of_ble_eq_true rfl) rfl ?_
  refine wl_aload_n dL_sheds_0 rfl ?_
  refine wl_get 0 (.ref (lB Λ)) dL_sheds_1 fL_10 rfl rfl ?_
  refine wl_callX (As := []) (S := []) [] ce dL_sheds_4 ML_126 rfl rfl (Nat.le_of_ble_eq_true rfl) ?_
  refine a_heaterCount hC ?_
  show WZ G (d + 20) (0, 0) μL_sheds 7 [.ref (gB G), lvU, lvU, lvU, lvU] [.int (nI (sH (aS A)))] (lm G Λ X ext m ce) Q
  refine wl_istore_n dL_sheds_7 (by decide) rfl ?_
  refine wl_iconst (0 : Int32) dL_sheds_8 (by decide) ?_
  refine wl_istore_n dL_sheds_9 (by decide) rfl ?_
  exact e1

theorem sh_1 {G : Cx} {d : Nat} {Λ : Lc} {X : Lx} {ext : va_W} {m : Mm} {A : Ab} {ce : List (Nat × Mm)} {Q : Option Value → LM → Prop} {i : Nat} (hC : CIv (atC G (lB Λ) false) m A) (hi : i ≤ sH (aS A))
    (e1 : ¬ i < sH (aS A) → Q (some (.int (1 : Int32))) (lm G Λ X ext m ce))
    (e2 : i < sH (aS A) → WZ G (d + 20) (0, 0) μL_sheds 17 [.ref (gB G), .int (nI (sH (aS A))), .int (nI i), .int (0 : Int32), lvU] [] (lm G Λ X ext m ce) Q) :
    WZ G (d + 20) (0, 0) μL_sheds 10 [.ref (gB G), .int (nI (sH (aS A))), .int (nI i), lvU, lvU] [] (lm G Λ X ext m ce) Q := by
  have hn12 := hC.nn.2
  have hl6 := hC.nl.2
  have hh8 := hC.nh.2
  refine wl_iload_n dL_sheds_10 rfl ?_
  refine wl_iload_n dL_sheds_11 rfl ?_
  refine wl_icmp_ge 122 dL_sheds_12 (by decide) (fun q1 => ?_) (fun q1 => ?_)
  · have q2 : ¬ i < sH (aS A) := fun y => q1 (nlt_ (a := i) (b := sH (aS A)) y (by omega))
    refine wl_iconst (1 : Int32) dL_sheds_122 (by decide) ?_
    exact wl_zret dL_sheds_123 rfl rfl (e1 q2)
  · have q3 : i < sH (aS A) := nlt (a := i) (b := sH (aS A)) q1 (by omega) (by omega)
    refine wl_iconst (0 : Int32) dL_sheds_15 (by decide) ?_
    refine wl_istore_n dL_sheds_16 (by decide) rfl ?_
    exact e2 q3

theorem sh_2 {G : Cx} {d : Nat} {Λ : Lc} {X : Lx} {ext : va_W} {m : Mm} {A : Ab} {ce : List (Nat × Mm)} {Q : Option Value → LM → Prop} {i j : Nat} (hC : CIv (atC G (lB Λ) false) m A) (hi : i < sH (aS A)) (hj : j ≤ sH (aS A)) (k1 : j < sH (aS A) → (xP X j < xP X i ∨ (xP X i = xP X j ∧ i < j)) → sS (aS A) (8 * i + 345) = 2 → sS (aS A) (8 * j + 345) = 1 → xW X j < xW X i)
    (e1 : ¬ j < sH (aS A) → WZ G (d + 20) (0, 0) μL_sheds 10 [.ref (gB G), .int (nI (sH (aS A))), .int (nI (i + 1)), lvU, lvU] [] (lm G Λ X ext m ce) Q)
    (e2 : j < sH (aS A) → ((xP X) j) < ((xP X) i) → ¬ (sS (aS A) (8 * i + 345)) = (2 : Int32) → WZ G (d + 20) (0, 0) μL_sheds 17 [.ref (gB G), .int (nI (sH (aS A))), .int (nI i), .int (nI (j + 1)), lvU] [] (lm G Λ X ext m ce) Q)
    (e3 : j < sH (aS A) → ((xP X) j) < ((xP X) i) → (sS (aS A) (8 * i + 345)) = (2 : Int32) → ¬ (sS (aS A) (8 * j + 345)) = (1 : Int32) → WZ G (d + 20) (0, 0) μL_sheds 17 [.ref (gB G), .int (nI (sH (aS A))), .int (nI i), .int (nI (j + 1)), lvU] [] (lm G Λ X ext m ce) Q)
    (e4 : j < sH (aS A) → ((xP X) j) < ((xP X) i) → (sS (aS A) (8 * i + 345)) = (2 : Int32) → (sS (aS A) (8 * j + 345)) = (1 : Int32) → WZ G (d + 20) (0, 0) μL_sheds 17 [.ref (gB G), .int (nI (sH (aS A))), .int (nI i), .int (nI (j + 1)), lvU] [] (lm G Λ X ext m ce) Q)
    (e5 : j < sH (aS A) → ¬ ((xP X) j) < ((xP X) i) → ¬ ((xP X) i) = ((xP X) j) → WZ G (d + 20) (0, 0) μL_sheds 17 [.ref (gB G), .int (nI (sH (aS A))), .int (nI i), .int (nI (j + 1)), lvU] [] (lm G Λ X ext m ce) Q)
    (e6 : j < sH (aS A) → ¬ ((xP X) j) < ((xP X) i) → ((xP X) i) = ((xP X) j) → ¬ i < j → WZ G (d + 20) (0, 0) μL_sheds 17 [.ref (gB G), .int (nI (sH (aS A))), .int (nI i), .int (nI (j + 1)), lvU] [] (lm G Λ X ext m ce) Q)
    (e7 : j < sH (aS A) → ¬ ((xP X) j) < ((xP X) i) → ((xP X) i) = ((xP X) j) → i < j → ¬ (sS (aS A) (8 * i + 345)) = (2 : Int32) → WZ G (d + 20) (0, 0) μL_sheds 17 [.ref (gB G), .int (nI (sH (aS A))), .int (nI i), .int (nI (j + 1)), lvU] [] (lm G Λ X ext m ce) Q)
    (e8 : j < sH (aS A) → ¬ ((xP X) j) < ((xP X) i) → ((xP X) i) = ((xP X) j) → i < j → (sS (aS A) (8 * i + 345)) = (2 : Int32) → ¬ (sS (aS A) (8 * j + 345)) = (1 : Int32) → WZ G (d + 20) (0, 0) μL_sheds 17 [.ref (gB G), .int (nI (sH (aS A))), .int (nI i), .int (nI (j + 1)), lvU] [] (lm G Λ X ext m ce) Q)
    (e9 : j < sH (aS A) → ¬ ((xP X) j) < ((xP X) i) → ((xP X) i) = ((xP X) j) → i < j → (sS (aS A) (8 * i + 345)) = (2 : Int32) → (sS (aS A) (8 * j + 345)) = (1 : Int32) → WZ G (d + 20) (0, 0) μL_sheds 17 [.ref (gB G), .int (nI (sH (aS A))), .int (nI i), .int (nI (j + 1)), lvU] [] (lm G Λ X ext m ce) Q) :
    WZ G (d + 20) (0, 0) μL_sheds 17 [.ref (gB G), .int (nI (sH (aS A))), .int (nI i), .int (nI j), lvU] [] (lm G Λ X ext m ce) Q := by
  have hn12 := hC.nn.2
  have hl6 := hC.nl.2
  have hh8 := hC.nh.2
  refine wl_iload_n dL_sheds_17 rfl ?_
  refine wl_iload_n dL_sheds_18 rfl ?_
  refine wl_icmp_ge 116 dL_sheds_19 (by decide) (fun q1 => ?_) (fun q1 => ?_)
  · have q2 : ¬ j < sH (aS A) := fun y => q1 (nlt_ (a := j) (b := sH (aS A)) y (by omega))
    refine wl_iinc (nI (i + 1)) dL_sheds_116 rfl (by decide) (nadd (a := i) (b := 1) rfl) rfl ?_
    refine wl_goto 10 dL_sheds_119 (by decide) ?_
    refine wl_forget [.ref (gB G), .int (nI (sH (aS A))), .int (nI (i + 1)), lvU, lvU] ⟨Or.inl rfl, Or.inl rfl, Or.inl rfl, Or.inr rfl, Or.inl rfl, trivial⟩ ?_
    exact e1 q2
  · have q3 : j < sH (aS A) := nlt (a := j) (b := sH (aS A)) q1 (by omega) (by omega)
    refine wl_aload_n dL_sheds_22 rfl ?_
    refine wl_get 0 (.ref (lP Λ)) dL_sheds_23 fL_16 rfl rfl ?_
    refine wl_iload_n dL_sheds_26 rfl ?_
    refine wl_iald (t0 := 1) 1 i ((xP X) i) dL_sheds_27 rfl rfl rfl (by omega) (by omega) rfl ?_
    refine wl_aload_n dL_sheds_28 rfl ?_
    refine wl_get 0 (.ref (lP Λ)) dL_sheds_29 fL_16 rfl rfl ?_
    refine wl_iload_n dL_sheds_32 rfl ?_
    refine wl_iald (t0 := 1) 1 j ((xP X) j) dL_sheds_33 rfl rfl rfl (by omega) (by omega) rfl ?_
    refine wl_icmp_gt 57 dL_sheds_34 (by decide) (fun q4 => ?_) (fun q4 => ?_)
    · refine wl_iconst (1 : Int32) dL_sheds_57 (by decide) ?_
      refine wl_goto 62 dL_sheds_58 (by decide) ?_
      refine wl_istore dL_sheds_62 (by decide) rfl ?_
      refine wl_iload dL_sheds_64 rfl ?_
      refine wl_if_eq 110 dL_sheds_66 (by decide) (fun z => absurd z (by decide)) (fun _ => ?_)
      refine wl_aload_n dL_sheds_69 rfl ?_
      refine wl_get 0 (.ref (lB Λ)) dL_sheds_70 fL_10 rfl rfl ?_
      refine wl_iload_n dL_sheds_73 rfl ?_
      refine wl_callX (As := [.int (nI i)]) (S := []) [] ce dL_sheds_74 ML_162 rfl rfl (Nat.le_of_ble_eq_true rfl) ?_
      refine a_heaterState (i := i) hC (by omega) ?_
      show WZ G (d + 20) (0, 0) μL_sheds 77 [.ref (gB G), .int (nI (sH (aS A))), .int (nI i), .int (nI j), .int (1 : Int32)] [.int (sS (aS A) (8 * i + 345))] (lm G Λ X ext m ce) Q
      refine wl_iconst (2 : Int32) dL_sheds_77 (by decide) ?_
      refine wl_icmp_ne 110 dL_sheds_78 (by decide) (fun q5 => ?_) (fun q5 => ?_)
      · refine wl_iinc (nI (j + 1)) dL_sheds_110 rfl (by decide) (nadd (a := j) (b := 1) rfl) rfl ?_
        refine wl_goto 17 dL_sheds_113 (by decide) ?_
        refine wl_forget [.ref (gB G), .int (nI (sH (aS A))), .int (nI i), .int (nI (j + 1)), lvU] ⟨Or.inl rfl, Or.inl rfl, Or.inl rfl, Or.inl rfl, Or.inr rfl, trivial⟩ ?_
        exact e2 q3 q4 q5
      · refine wl_aload_n dL_sheds_81 rfl ?_
        refine wl_get 0 (.ref (lB Λ)) dL_sheds_82 fL_10 rfl rfl ?_
        refine wl_iload_n dL_sheds_85 rfl ?_
        refine wl_callX (As := [.int (nI j)]) (S := []) [] ce dL_sheds_86 ML_162 rfl rfl (Nat.le_of_ble_eq_true rfl) ?_
        refine a_heaterState (i := j) hC (by omega) ?_
        show WZ G (d + 20) (0, 0) μL_sheds 89 [.ref (gB G), .int (nI (sH (aS A))), .int (nI i), .int (nI j), .int (1 : Int32)] [.int (sS (aS A) (8 * j + 345))] (lm G Λ X ext m ce) Q
        refine wl_iconst (1 : Int32) dL_sheds_89 (by decide) ?_
        refine wl_icmp_ne 110 dL_sheds_90 (by decide) (fun q6 => ?_) (fun q6 => ?_)
        · refine wl_iinc (nI (j + 1)) dL_sheds_110 rfl (by decide) (nadd (a := j) (b := 1) rfl) rfl ?_
          refine wl_goto 17 dL_sheds_113 (by decide) ?_
          refine wl_forget [.ref (gB G), .int (nI (sH (aS A))), .int (nI i), .int (nI (j + 1)), lvU] ⟨Or.inl rfl, Or.inl rfl, Or.inl rfl, Or.inl rfl, Or.inr rfl, trivial⟩ ?_
          exact e3 q3 q4 q5 q6
        · refine wl_aload_n dL_sheds_93 rfl ?_
          refine wl_get 0 (.ref (lW Λ)) dL_sheds_94 fL_20 rfl rfl ?_
          refine wl_iload_n dL_sheds_97 rfl ?_
          refine wl_iald (t0 := 1) 2 j ((xW X) j) dL_sheds_98 rfl rfl rfl (by omega) (by omega) rfl ?_
          refine wl_aload_n dL_sheds_99 rfl ?_
          refine wl_get 0 (.ref (lW Λ)) dL_sheds_100 fL_20 rfl rfl ?_
          refine wl_iload_n dL_sheds_103 rfl ?_
          refine wl_iald (t0 := 1) 2 i ((xW X) i) dL_sheds_104 rfl rfl rfl (by omega) (by omega) rfl ?_
          refine wl_icmp_lt 110 dL_sheds_105 (by decide) (fun _ => ?_) (fun z => absurd (k1 q3 (Or.inl q4) q5 q6) z)
          refine wl_iinc (nI (j + 1)) dL_sheds_110 rfl (by decide) (nadd (a := j) (b := 1) rfl) rfl ?_
          refine wl_goto 17 dL_sheds_113 (by decide) ?_
          refine wl_forget [.ref (gB G), .int (nI (sH (aS A))), .int (nI i), .int (nI (j + 1)), lvU] ⟨Or.inl rfl, Or.inl rfl, Or.inl rfl, Or.inl rfl, Or.inr rfl, trivial⟩ ?_
          exact e4 q3 q4 q5 q6
    · refine wl_aload_n dL_sheds_37 rfl ?_
      refine wl_get 0 (.ref (lP Λ)) dL_sheds_38 fL_16 rfl rfl ?_
      refine wl_iload_n dL_sheds_41 rfl ?_
      refine wl_iald (t0 := 1) 1 i ((xP X) i) dL_sheds_42 rfl rfl rfl (by omega) (by omega) rfl ?_
      refine wl_aload_n dL_sheds_43 rfl ?_
      refine wl_get 0 (.ref (lP Λ)) dL_sheds_44 fL_16 rfl rfl ?_
      refine wl_iload_n dL_sheds_47 rfl ?_
      refine wl_iald (t0 := 1) 1 j ((xP X) j) dL_sheds_48 rfl rfl rfl (by omega) (by omega) rfl ?_
      refine wl_icmp_ne 61 dL_sheds_49 (by decide) (fun q7 => ?_) (fun q7 => ?_)
      · refine wl_iconst (0 : Int32) dL_sheds_61 (by decide) ?_
        refine wl_istore dL_sheds_62 (by decide) rfl ?_
        refine wl_iload dL_sheds_64 rfl ?_
        refine wl_if_eq 110 dL_sheds_66 (by decide) (fun _ => ?_) (fun z => absurd z (by decide))
        refine wl_iinc (nI (j + 1)) dL_sheds_110 rfl (by decide) (nadd (a := j) (b := 1) rfl) rfl ?_
        refine wl_goto 17 dL_sheds_113 (by decide) ?_
        refine wl_forget [.ref (gB G), .int (nI (sH (aS A))), .int (nI i), .int (nI (j + 1)), lvU] ⟨Or.inl rfl, Or.inl rfl, Or.inl rfl, Or.inl rfl, Or.inr rfl, trivial⟩ ?_
        exact e5 q3 q4 q7
      · refine wl_iload_n dL_sheds_52 rfl ?_
        refine wl_iload_n dL_sheds_53 rfl ?_
        refine wl_icmp_ge 61 dL_sheds_54 (by decide) (fun q8 => ?_) (fun q8 => ?_)
        · have q9 : ¬ i < j := fun y => q8 (nlt_ (a := i) (b := j) y (by omega))
          refine wl_iconst (0 : Int32) dL_sheds_61 (by decide) ?_
          refine wl_istore dL_sheds_62 (by decide) rfl ?_
          refine wl_iload dL_sheds_64 rfl ?_
          refine wl_if_eq 110 dL_sheds_66 (by decide) (fun _ => ?_) (fun z => absurd z (by decide))
          refine wl_iinc (nI (j + 1)) dL_sheds_110 rfl (by decide) (nadd (a := j) (b := 1) rfl) rfl ?_
          refine wl_goto 17 dL_sheds_113 (by decide) ?_
          refine wl_forget [.ref (gB G), .int (nI (sH (aS A))), .int (nI i), .int (nI (j + 1)), lvU] ⟨Or.inl rfl, Or.inl rfl, Or.inl rfl, Or.inl rfl, Or.inr rfl, trivial⟩ ?_
          exact e6 q3 q4 q7 q9
        · have q10 : i < j := nlt (a := i) (b := j) q8 (by omega) (by omega)
          refine wl_iconst (1 : Int32) dL_sheds_57 (by decide) ?_
          refine wl_goto 62 dL_sheds_58 (by decide) ?_
          refine wl_istore dL_sheds_62 (by decide) rfl ?_
          refine wl_iload dL_sheds_64 rfl ?_
          refine wl_if_eq 110 dL_sheds_66 (by decide) (fun z => absurd z (by decide)) (fun _ => ?_)
          refine wl_aload_n dL_sheds_69 rfl ?_
          refine wl_get 0 (.ref (lB Λ)) dL_sheds_70 fL_10 rfl rfl ?_
          refine wl_iload_n dL_sheds_73 rfl ?_
          refine wl_callX (As := [.int (nI i)]) (S := []) [] ce dL_sheds_74 ML_162 rfl rfl (Nat.le_of_ble_eq_true rfl) ?_
          refine a_heaterState (i := i) hC (by omega) ?_
          show WZ G (d + 20) (0, 0) μL_sheds 77 [.ref (gB G), .int (nI (sH (aS A))), .int (nI i), .int (nI j), .int (1 : Int32)] [.int (sS (aS A) (8 * i + 345))] (lm G Λ X ext m ce) Q
          refine wl_iconst (2 : Int32) dL_sheds_77 (by decide) ?_
          refine wl_icmp_ne 110 dL_sheds_78 (by decide) (fun q11 => ?_) (fun q11 => ?_)
          · refine wl_iinc (nI (j + 1)) dL_sheds_110 rfl (by decide) (nadd (a := j) (b := 1) rfl) rfl ?_
            refine wl_goto 17 dL_sheds_113 (by decide) ?_
            refine wl_forget [.ref (gB G), .int (nI (sH (aS A))), .int (nI i), .int (nI (j + 1)), lvU] ⟨Or.inl rfl, Or.inl rfl, Or.inl rfl, Or.inl rfl, Or.inr rfl, trivial⟩ ?_
            exact e7 q3 q4 q7 q10 q11
          · refine wl_aload_n dL_sheds_81 rfl ?_
            refine wl_get 0 (.ref (lB Λ)) dL_sheds_82 fL_10 rfl rfl ?_
            refine wl_iload_n dL_sheds_85 rfl ?_
            refine wl_callX (As := [.int (nI j)]) (S := []) [] ce dL_sheds_86 ML_162 rfl rfl (Nat.le_of_ble_eq_true rfl) ?_
            refine a_heaterState (i := j) hC (by omega) ?_
            show WZ G (d + 20) (0, 0) μL_sheds 89 [.ref (gB G), .int (nI (sH (aS A))), .int (nI i), .int (nI j), .int (1 : Int32)] [.int (sS (aS A) (8 * j + 345))] (lm G Λ X ext m ce) Q
            refine wl_iconst (1 : Int32) dL_sheds_89 (by decide) ?_
            refine wl_icmp_ne 110 dL_sheds_90 (by decide) (fun q12 => ?_) (fun q12 => ?_)
            · refine wl_iinc (nI (j + 1)) dL_sheds_110 rfl (by decide) (nadd (a := j) (b := 1) rfl) rfl ?_
              refine wl_goto 17 dL_sheds_113 (by decide) ?_
              refine wl_forget [.ref (gB G), .int (nI (sH (aS A))), .int (nI i), .int (nI (j + 1)), lvU] ⟨Or.inl rfl, Or.inl rfl, Or.inl rfl, Or.inl rfl, Or.inr rfl, trivial⟩ ?_
              exact e8 q3 q4 q7 q10 q11 q12
            · refine wl_aload_n dL_sheds_93 rfl ?_
              refine wl_get 0 (.ref (lW Λ)) dL_sheds_94 fL_20 rfl rfl ?_
              refine wl_iload_n dL_sheds_97 rfl ?_
              refine wl_iald (t0 := 1) 2 j ((xW X) j) dL_sheds_98 rfl rfl rfl (by omega) (by omega) rfl ?_
              refine wl_aload_n dL_sheds_99 rfl ?_
              refine wl_get 0 (.ref (lW Λ)) dL_sheds_100 fL_20 rfl rfl ?_
              refine wl_iload_n dL_sheds_103 rfl ?_
              refine wl_iald (t0 := 1) 2 i ((xW X) i) dL_sheds_104 rfl rfl rfl (by omega) (by omega) rfl ?_
              refine wl_icmp_lt 110 dL_sheds_105 (by decide) (fun _ => ?_) (fun z => absurd (k1 q3 (Or.inr ⟨q7, q10⟩) q11 q12) z)
              refine wl_iinc (nI (j + 1)) dL_sheds_110 rfl (by decide) (nadd (a := j) (b := 1) rfl) rfl ?_
              refine wl_goto 17 dL_sheds_113 (by decide) ?_
              refine wl_forget [.ref (gB G), .int (nI (sH (aS A))), .int (nI i), .int (nI (j + 1)), lvU] ⟨Or.inl rfl, Or.inl rfl, Or.inl rfl, Or.inl rfl, Or.inr rfl, trivial⟩ ?_
              exact e9 q3 q4 q7 q10 q11 q12

theorem hc_0 {G : Cx} {d : Nat} {Λ : Lc} {X : Lx} {ext : va_W} {m : Mm} {A : Ab} {ce : List (Nat × Mm)} {Q : Option Value → LM → Prop}  (hC : CIv (atC G (lB Λ) false) m A) (hs : gSl G ≤ 260) (hx : xN X < 2 ^ 30)
    (e1 : ∀ v1 : Nat, v1 < 100000 → ∀ v3 : Nat, v3 < 1000 + v1 + 1 → ∀ v5 : Nat, v5 < 20000 → ∀ v7 : Nat, v7 < 9000 → ∀ m9 : Mm, CIv (atC G (lB Λ) false) m9 (stA A (powS (sS (aS A)) (nI v5) (nI v7) (nI (1000 + v1)) (nI v3))) → WZ G (d + 20) (0, 0) μL_holdsCharge 49 [.ref (gB G), .int (nI (1000 + v1)), lvU, .int (0 : Int32)] [] (lm G Λ (xN X + 4, xP X, xW X, xR X) ext m9 ce) Q) :
    WZM G (d + 20) (0, 0) μL_holdsCharge [.ref (gB G)] (lm G Λ X ext m ce) Q := by
  have hn12 := hC.nn.2
  have hl6 := hC.nl.2
  have hh8 := hC.nh.2
  refine WZM.of pL (Nat.le_of_ble_eq_true rfl) rfl ?_
  refine wl_sipush (1000 : Int32) dL_holdsCharge_0 (by decide) ?_
  refine wl_aload_n dL_holdsCharge_3 rfl ?_
  refine wl_ldc dL_holdsCharge_4 kL_182 ?_
  refine wl_callV (As := [.int (100000 : Int32)]) (S := [.int (1000 : Int32)]) (b' := (0, 0)) (b := (0, 0)) dL_holdsCharge_6 ML_65 ⟨0, _, rfl⟩ rfl rfl rfl (b00 _) (Nat.le_of_ble_eq_true rfl) ?_
  refine wl_draw (X := X) hs (by show xN X + 0 + 1 < 2 ^ 31; omega) (by decide) (fun v1 hv2 => ?_)
  have hv2 : v1 < 100000 := by have := hv2; rw [show (100000 : Int32).toInt = 100000 from by decide] at this; omega
  show WZ G (d + 20) (0, 0) μL_holdsCharge 9 [.ref (gB G), lvU, lvU, lvU] [.int (nI v1), .int (1000 : Int32)] (lm G Λ (xN X + 1, xP X, xW X, xR X) ext m ce) Q
  refine wl_iaddv (nI (1000 + v1)) dL_holdsCharge_9 (nadd rfl) ?_
  refine wl_istore_n dL_holdsCharge_10 (by decide) rfl ?_
  refine wl_aload_n dL_holdsCharge_11 rfl ?_
  refine wl_iload_n dL_holdsCharge_12 rfl ?_
  refine wl_iconst (1 : Int32) dL_holdsCharge_13 (by decide) ?_
  refine wl_iaddv (nI (1000 + v1 + 1)) dL_holdsCharge_14 (nadd rfl) ?_
  refine wl_callV (As := [.int (nI (1000 + v1 + 1))]) (S := []) (b' := (0, 0)) (b := (0, 0)) dL_holdsCharge_15 ML_65 ⟨0, _, rfl⟩ rfl rfl rfl (b00 _) (Nat.le_of_ble_eq_true rfl) ?_
  refine wl_draw (X := (xN X + 1, xP X, xW X, xR X)) hs (by show xN X + 1 + 1 < 2 ^ 31; omega) (by rw [nI_toInt (by omega)]; omega) (fun v3 hv4 => ?_)
  have hv4 : v3 < 1000 + v1 + 1 := by have := hv4; rw [nI_toInt (by omega)] at this; omega
  show WZ G (d + 20) (0, 0) μL_holdsCharge 18 [.ref (gB G), .int (nI (1000 + v1)), lvU, lvU] [.int (nI v3)] (lm G Λ (xN X + 2, xP X, xW X, xR X) ext m ce) Q
  refine wl_istore_n dL_holdsCharge_18 (by decide) rfl ?_
  refine wl_aload_n dL_holdsCharge_19 rfl ?_
  refine wl_get 0 (.ref (lB Λ)) dL_holdsCharge_20 fL_10 rfl rfl ?_
  refine wl_aload_n dL_holdsCharge_23 rfl ?_
  refine wl_sipush (20000 : Int32) dL_holdsCharge_24 (by decide) ?_
  refine wl_callV (As := [.int (20000 : Int32)]) (S := [.ref (lB Λ)]) (b' := (0, 0)) (b := (0, 0)) dL_holdsCharge_27 ML_65 ⟨0, _, rfl⟩ rfl rfl rfl (b00 _) (Nat.le_of_ble_eq_true rfl) ?_
  refine wl_draw (X := (xN X + 2, xP X, xW X, xR X)) hs (by show xN X + 2 + 1 < 2 ^ 31; omega) (by decide) (fun v5 hv6 => ?_)
  have hv6 : v5 < 20000 := by have := hv6; rw [show (20000 : Int32).toInt = 20000 from by decide] at this; omega
  show WZ G (d + 20) (0, 0) μL_holdsCharge 30 [.ref (gB G), .int (nI (1000 + v1)), .int (nI v3), lvU] [.int (nI v5), .ref (lB Λ)] (lm G Λ (xN X + 3, xP X, xW X, xR X) ext m ce) Q
  refine wl_aload_n dL_holdsCharge_30 rfl ?_
  refine wl_sipush (9000 : Int32) dL_holdsCharge_31 (by decide) ?_
  refine wl_callV (As := [.int (9000 : Int32)]) (S := [.int (nI v5), .ref (lB Λ)]) (b' := (0, 0)) (b := (0, 0)) dL_holdsCharge_34 ML_65 ⟨0, _, rfl⟩ rfl rfl rfl (b00 _) (Nat.le_of_ble_eq_true rfl) ?_
  refine wl_draw (X := (xN X + 3, xP X, xW X, xR X)) hs (by show xN X + 3 + 1 < 2 ^ 31; omega) (by decide) (fun v7 hv8 => ?_)
  have hv8 : v7 < 9000 := by have := hv8; rw [show (9000 : Int32).toInt = 9000 from by decide] at this; omega
  show WZ G (d + 20) (0, 0) μL_holdsCharge 37 [.ref (gB G), .int (nI (1000 + v1)), .int (nI v3), lvU] [.int (nI v7), .int (nI v5), .ref (lB Λ)] (lm G Λ (xN X + 4, xP X, xW X, xR X) ext m ce) Q
  refine wl_iload_n dL_holdsCharge_37 rfl ?_
  refine wl_iload_n dL_holdsCharge_38 rfl ?_
  refine wl_callX (As := [.int (nI v5), .int (nI v7), .int (nI (1000 + v1)), .int (nI v3)]) (S := []) [] ce dL_holdsCharge_39 ML_94 rfl rfl (Nat.le_of_ble_eq_true rfl) ?_
  refine a_setPower hC (rgn (by omega) (by omega) (by omega)) (rgn (by omega) (by omega) (by omega)) (rgn (by omega) (by omega) (by omega)) (rgw0 (by omega) (by omega)) (fun m9 hC10 => ?_)
  show WZ G (d + 20) (0, 0) μL_holdsCharge 42 [.ref (gB G), .int (nI (1000 + v1)), .int (nI v3), lvU] [.int (0 : Int32)] (lm G Λ (xN X + 4, xP X, xW X, xR X) ext m9 ce) Q
  refine wl_if_eq 47 dL_holdsCharge_42 (by decide) (fun _ => ?_) (fun z => absurd z (by decide))
  refine wl_iconst (0 : Int32) dL_holdsCharge_47 (by decide) ?_
  refine wl_istore_n dL_holdsCharge_48 (by decide) rfl ?_
  refine wl_forget [.ref (gB G), .int (nI (1000 + v1)), lvU, .int (0 : Int32)] ⟨Or.inl rfl, Or.inl rfl, Or.inr rfl, Or.inl rfl, trivial⟩ ?_
  exact e1 v1 hv2 v3 hv4 v5 hv6 v7 hv8 m9 hC10

theorem hc_1 {G : Cx} {d : Nat} {Λ : Lc} {X : Lx} {ext : va_W} {m : Mm} {A : Ab} {ce : List (Nat × Mm)} {Q : Option Value → LM → Prop} {c i : Nat} (hC : CIv (atC G (lB Λ) false) m A) (hi : i ≤ 12) (ht : (sS (aS A) 0).toInt + (1 : Nat) * (sS (aS A) 1).toInt ≤ 100000000) (k1 : ¬ vcs (aS A) 1 < 0) (k2 : ¬ sS (it (aS A) 1) 11 < 0) (k3 : ¬ nI c < sS (it (aS A) 1) 11)
    (e1 : ¬ i < 12 → Q (some (.int (1 : Int32))) (lm G Λ X ext m ce))
    (g1 : i < 12 → (sS (aS A) 0).toInt + (1 : Nat) * (sS (aS A) 1).toInt ≤ 100000000)
    (e2 : i < 12 → ∀ m4 : Mm, CIv (atC G (lB Λ) false) m4 ((it (aS A) 1, (A).2) : Ab) → WZ G (d + 20) (0, 0) μL_holdsCharge 49 [.ref (gB G), .int (nI c), lvU, .int (nI (i + 1))] [] (lm G Λ X ext m4 ce) Q) :
    WZ G (d + 20) (0, 0) μL_holdsCharge 49 [.ref (gB G), .int (nI c), lvU, .int (nI i)] [] (lm G Λ X ext m ce) Q := by
  have hn12 := hC.nn.2
  have hl6 := hC.nl.2
  have hh8 := hC.nh.2
  refine wl_iload_n dL_holdsCharge_49 rfl ?_
  refine wl_bipush (12 : Int32) dL_holdsCharge_50 (by decide) ?_
  refine wl_icmp_ge 95 dL_holdsCharge_52 (by decide) (fun q1 => ?_) (fun q1 => ?_)
  · have q2 : ¬ i < 12 := fun y => q1 (nlt_ (a := i) (b := 12) y (by omega))
    refine wl_iconst (1 : Int32) dL_holdsCharge_95 (by decide) ?_
    exact wl_zret dL_holdsCharge_96 rfl rfl (e1 q2)
  · have q3 : i < 12 := nlt (a := i) (b := 12) q1 (by omega) (by omega)
    refine wl_aload_n dL_holdsCharge_55 rfl ?_
    refine wl_get 0 (.ref (lB Λ)) dL_holdsCharge_56 fL_10 rfl rfl ?_
    refine wl_iconst (1 : Int32) dL_holdsCharge_59 (by decide) ?_
    refine wl_callX (As := [.int (1 : Int32)]) (S := []) [] ce dL_holdsCharge_60 ML_153 rfl rfl (Nat.le_of_ble_eq_true rfl) ?_
    refine a_run (i := 1) hC (by omega) (by omega) (g1 q3) (fun m4 hC5 => ?_)
    show WZ G (d + 20) (0, 0) μL_holdsCharge 63 [.ref (gB G), .int (nI c), lvU, .int (nI i)] [.int (vcs (aS A) 1)] (lm G Λ X ext m4 ce) Q
    refine wl_if_lt 87 dL_holdsCharge_63 (by decide) (fun z => absurd z (k1)) (fun _ => ?_)
    refine wl_aload_n dL_holdsCharge_66 rfl ?_
    refine wl_get 0 (.ref (lB Λ)) dL_holdsCharge_67 fL_10 rfl rfl ?_
    refine wl_callX (As := []) (S := []) [] ce dL_holdsCharge_70 ML_183 rfl rfl (Nat.le_of_ble_eq_true rfl) ?_
    refine a_charge hC5 ?_
    show WZ G (d + 20) (0, 0) μL_holdsCharge 73 [.ref (gB G), .int (nI c), lvU, .int (nI i)] [.int (sS (aS ((it (aS A) 1, (A).2) : Ab)) 11)] (lm G Λ X ext m4 ce) Q
    refine wl_if_lt 87 dL_holdsCharge_73 (by decide) (fun z => absurd z (k2)) (fun _ => ?_)
    refine wl_aload_n dL_holdsCharge_76 rfl ?_
    refine wl_get 0 (.ref (lB Λ)) dL_holdsCharge_77 fL_10 rfl rfl ?_
    refine wl_callX (As := []) (S := []) [] ce dL_holdsCharge_80 ML_183 rfl rfl (Nat.le_of_ble_eq_true rfl) ?_
    refine a_charge hC5 ?_
    show WZ G (d + 20) (0, 0) μL_holdsCharge 83 [.ref (gB G), .int (nI c), lvU, .int (nI i)] [.int (sS (aS ((it (aS A) 1, (A).2) : Ab)) 11)] (lm G Λ X ext m4 ce) Q
    refine wl_iload_n dL_holdsCharge_83 rfl ?_
    refine wl_icmp_le 89 dL_holdsCharge_84 (by decide) (fun _ => ?_) (fun z => absurd z (k3))
    refine wl_iinc (nI (i + 1)) dL_holdsCharge_89 rfl (by decide) (nadd (a := i) (b := 1) rfl) rfl ?_
    refine wl_goto 49 dL_holdsCharge_92 (by decide) ?_
    exact e2 q3 m4 hC5

theorem cz_0 {G : Cx} {d : Nat} {Λ : Lc} {X : Lx} {ext : va_W} {m : Mm} {A : Ab} {ce : List (Nat × Mm)} {Q : Option Value → LM → Prop}  (hC : CIv (atC G (lB Λ) false) m A) 
    (g1 : ∀ m1 : Mm, CIv (atC G (lB Λ) false) m1 (((A).1, svV A 0, (A).2.2) : Ab) → ∀ m3 : Mm, CIv (atC G (lB Λ) false) m3 (stA (((A).1, svV A 0, (A).2.2) : Ab) (orbS (sS (aS (((A).1, svV A 0, (A).2.2) : Ab))) (1000 : Int32) (0 : Int32) (0 : Int32) (3000 : Int32) (50 : Int32) (300 : Int32))) → ∀ m5 : Mm, CIv (atC G (lB Λ) false) m5 ((((stA (((A).1, svV A 0, (A).2.2) : Ab) (orbS (sS (aS (((A).1, svV A 0, (A).2.2) : Ab))) (1000 : Int32) (0 : Int32) (0 : Int32) (3000 : Int32) (50 : Int32) (300 : Int32)))).1, svV (stA (((A).1, svV A 0, (A).2.2) : Ab) (orbS (sS (aS (((A).1, svV A 0, (A).2.2) : Ab))) (1000 : Int32) (0 : Int32) (0 : Int32) (3000 : Int32) (50 : Int32) (300 : Int32))) 0, ((stA (((A).1, svV A 0, (A).2.2) : Ab) (orbS (sS (aS (((A).1, svV A 0, (A).2.2) : Ab))) (1000 : Int32) (0 : Int32) (0 : Int32) (3000 : Int32) (50 : Int32) (300 : Int32)))).2.2) : Ab) → (sS (aS ((((stA (((A).1, svV A 0, (A).2.2) : Ab) (orbS (sS (aS (((A).1, svV A 0, (A).2.2) : Ab))) (1000 : Int32) (0 : Int32) (0 : Int32) (3000 : Int32) (50 : Int32) (300 : Int32)))).1, svV (stA (((A).1, svV A 0, (A).2.2) : Ab) (orbS (sS (aS (((A).1, svV A 0, (A).2.2) : Ab))) (1000 : Int32) (0 : Int32) (0 : Int32) (3000 : Int32) (50 : Int32) (300 : Int32))) 0, ((stA (((A).1, svV A 0, (A).2.2) : Ab) (orbS (sS (aS (((A).1, svV A 0, (A).2.2) : Ab))) (1000 : Int32) (0 : Int32) (0 : Int32) (3000 : Int32) (50 : Int32) (300 : Int32)))).2.2) : Ab)) 0).toInt + (1 : Nat) * (sS (aS ((((stA (((A).1, svV A 0, (A).2.2) : Ab) (orbS (sS (aS (((A).1, svV A 0, (A).2.2) : Ab))) (1000 : Int32) (0 : Int32) (0 : Int32) (3000 : Int32) (50 : Int32) (300 : Int32)))).1, svV (stA (((A).1, svV A 0, (A).2.2) : Ab) (orbS (sS (aS (((A).1, svV A 0, (A).2.2) : Ab))) (1000 : Int32) (0 : Int32) (0 : Int32) (3000 : Int32) (50 : Int32) (300 : Int32))) 0, ((stA (((A).1, svV A 0, (A).2.2) : Ab) (orbS (sS (aS (((A).1, svV A 0, (A).2.2) : Ab))) (1000 : Int32) (0 : Int32) (0 : Int32) (3000 : Int32) (50 : Int32) (300 : Int32)))).2.2) : Ab)) 1).toInt ≤ 100000000)
    (e1 : ∀ m1 : Mm, CIv (atC G (lB Λ) false) m1 (((A).1, svV A 0, (A).2.2) : Ab) → ∀ m3 : Mm, CIv (atC G (lB Λ) false) m3 (stA (((A).1, svV A 0, (A).2.2) : Ab) (orbS (sS (aS (((A).1, svV A 0, (A).2.2) : Ab))) (1000 : Int32) (0 : Int32) (0 : Int32) (3000 : Int32) (50 : Int32) (300 : Int32))) → ∀ m5 : Mm, CIv (atC G (lB Λ) false) m5 ((((stA (((A).1, svV A 0, (A).2.2) : Ab) (orbS (sS (aS (((A).1, svV A 0, (A).2.2) : Ab))) (1000 : Int32) (0 : Int32) (0 : Int32) (3000 : Int32) (50 : Int32) (300 : Int32)))).1, svV (stA (((A).1, svV A 0, (A).2.2) : Ab) (orbS (sS (aS (((A).1, svV A 0, (A).2.2) : Ab))) (1000 : Int32) (0 : Int32) (0 : Int32) (3000 : Int32) (50 : Int32) (300 : Int32))) 0, ((stA (((A).1, svV A 0, (A).2.2) : Ab) (orbS (sS (aS (((A).1, svV A 0, (A).2.2) : Ab))) (1000 : Int32) (0 : Int32) (0 : Int32) (3000 : Int32) (50 : Int32) (300 : Int32)))).2.2) : Ab) → ∀ m7 : Mm, CIv (atC G (lB Λ) false) m7 ((it (aS ((((stA (((A).1, svV A 0, (A).2.2) : Ab) (orbS (sS (aS (((A).1, svV A 0, (A).2.2) : Ab))) (1000 : Int32) (0 : Int32) (0 : Int32) (3000 : Int32) (50 : Int32) (300 : Int32)))).1, svV (stA (((A).1, svV A 0, (A).2.2) : Ab) (orbS (sS (aS (((A).1, svV A 0, (A).2.2) : Ab))) (1000 : Int32) (0 : Int32) (0 : Int32) (3000 : Int32) (50 : Int32) (300 : Int32))) 0, ((stA (((A).1, svV A 0, (A).2.2) : Ab) (orbS (sS (aS (((A).1, svV A 0, (A).2.2) : Ab))) (1000 : Int32) (0 : Int32) (0 : Int32) (3000 : Int32) (50 : Int32) (300 : Int32)))).2.2) : Ab)) 1, (((((stA (((A).1, svV A 0, (A).2.2) : Ab) (orbS (sS (aS (((A).1, svV A 0, (A).2.2) : Ab))) (1000 : Int32) (0 : Int32) (0 : Int32) (3000 : Int32) (50 : Int32) (300 : Int32)))).1, svV (stA (((A).1, svV A 0, (A).2.2) : Ab) (orbS (sS (aS (((A).1, svV A 0, (A).2.2) : Ab))) (1000 : Int32) (0 : Int32) (0 : Int32) (3000 : Int32) (50 : Int32) (300 : Int32))) 0, ((stA (((A).1, svV A 0, (A).2.2) : Ab) (orbS (sS (aS (((A).1, svV A 0, (A).2.2) : Ab))) (1000 : Int32) (0 : Int32) (0 : Int32) (3000 : Int32) (50 : Int32) (300 : Int32)))).2.2) : Ab)).2) : Ab) → ∀ a9 : Nat, WZ G (d + 20) (0, 0) μL_cools 72 [.ref (gB G), .int (nI (sN (aS ((it (aS ((((stA (((A).1, svV A 0, (A).2.2) : Ab) (orbS (sS (aS (((A).1, svV A 0, (A).2.2) : Ab))) (1000 : Int32) (0 : Int32) (0 : Int32) (3000 : Int32) (50 : Int32) (300 : Int32)))).1, svV (stA (((A).1, svV A 0, (A).2.2) : Ab) (orbS (sS (aS (((A).1, svV A 0, (A).2.2) : Ab))) (1000 : Int32) (0 : Int32) (0 : Int32) (3000 : Int32) (50 : Int32) (300 : Int32))) 0, ((stA (((A).1, svV A 0, (A).2.2) : Ab) (orbS (sS (aS (((A).1, svV A 0, (A).2.2) : Ab))) (1000 : Int32) (0 : Int32) (0 : Int32) (3000 : Int32) (50 : Int32) (300 : Int32)))).2.2) : Ab)) 1, (((((stA (((A).1, svV A 0, (A).2.2) : Ab) (orbS (sS (aS (((A).1, svV A 0, (A).2.2) : Ab))) (1000 : Int32) (0 : Int32) (0 : Int32) (3000 : Int32) (50 : Int32) (300 : Int32)))).1, svV (stA (((A).1, svV A 0, (A).2.2) : Ab) (orbS (sS (aS (((A).1, svV A 0, (A).2.2) : Ab))) (1000 : Int32) (0 : Int32) (0 : Int32) (3000 : Int32) (50 : Int32) (300 : Int32))) 0, ((stA (((A).1, svV A 0, (A).2.2) : Ab) (orbS (sS (aS (((A).1, svV A 0, (A).2.2) : Ab))) (1000 : Int32) (0 : Int32) (0 : Int32) (3000 : Int32) (50 : Int32) (300 : Int32)))).2.2) : Ab)).2) : Ab)))), .ref a9, .int (0 : Int32)] [] (lm G Λ X [(((a9, Sum.inl (gY G 21, sN (aS ((it (aS ((((stA (((A).1, svV A 0, (A).2.2) : Ab) (orbS (sS (aS (((A).1, svV A 0, (A).2.2) : Ab))) (1000 : Int32) (0 : Int32) (0 : Int32) (3000 : Int32) (50 : Int32) (300 : Int32)))).1, svV (stA (((A).1, svV A 0, (A).2.2) : Ab) (orbS (sS (aS (((A).1, svV A 0, (A).2.2) : Ab))) (1000 : Int32) (0 : Int32) (0 : Int32) (3000 : Int32) (50 : Int32) (300 : Int32))) 0, ((stA (((A).1, svV A 0, (A).2.2) : Ab) (orbS (sS (aS (((A).1, svV A 0, (A).2.2) : Ab))) (1000 : Int32) (0 : Int32) (0 : Int32) (3000 : Int32) (50 : Int32) (300 : Int32)))).2.2) : Ab)) 1, (((((stA (((A).1, svV A 0, (A).2.2) : Ab) (orbS (sS (aS (((A).1, svV A 0, (A).2.2) : Ab))) (1000 : Int32) (0 : Int32) (0 : Int32) (3000 : Int32) (50 : Int32) (300 : Int32)))).1, svV (stA (((A).1, svV A 0, (A).2.2) : Ab) (orbS (sS (aS (((A).1, svV A 0, (A).2.2) : Ab))) (1000 : Int32) (0 : Int32) (0 : Int32) (3000 : Int32) (50 : Int32) (300 : Int32))) 0, ((stA (((A).1, svV A 0, (A).2.2) : Ab) (orbS (sS (aS (((A).1, svV A 0, (A).2.2) : Ab))) (1000 : Int32) (0 : Int32) (0 : Int32) (3000 : Int32) (50 : Int32) (300 : Int32)))).2.2) : Ab)).2) : Ab)), Sum.inl (fun _ => 0))) : Nat × va_E))] m7 ce) Q) :
    WZM G (d + 20) (1, 12) μL_cools [.ref (gB G)] (lm G Λ X [] m ce) Q := by
  have hn12 := hC.nn.2
  have hl6 := hC.nl.2
  have hh8 := hC.nh.2
  refine WZM.of pL (Nat.le_of_ble_eq_true rfl) rfl ?_
  refine wl_aload_n dL_cools_0 rfl ?_
  refine wl_get 0 (.ref (lB Λ)) dL_cools_1 fL_10 rfl rfl ?_
  refine wl_iconst (0 : Int32) dL_cools_4 (by decide) ?_
  refine wl_callX (As := [.int (0 : Int32)]) (S := []) [] ce dL_cools_5 ML_186 rfl rfl (Nat.le_of_ble_eq_true rfl) ?_
  refine a_save hC (fun m1 hC2 => ?_)
  show WZ G (d + 20) (1, 12) μL_cools 8 [.ref (gB G), lvU, lvU, lvU] [.int (1 : Int32)] (lm G Λ X [] m1 ce) Q
  refine wl_if_eq 56 dL_cools_8 (by decide) (fun z => absurd z (by decide)) (fun _ => ?_)
  refine wl_aload_n dL_cools_11 rfl ?_
  refine wl_get 0 (.ref (lB Λ)) dL_cools_12 fL_10 rfl rfl ?_
  refine wl_sipush (1000 : Int32) dL_cools_15 (by decide) ?_
  refine wl_iconst (0 : Int32) dL_cools_18 (by decide) ?_
  refine wl_iconst (0 : Int32) dL_cools_19 (by decide) ?_
  refine wl_sipush (3000 : Int32) dL_cools_20 (by decide) ?_
  refine wl_bipush (50 : Int32) dL_cools_23 (by decide) ?_
  refine wl_sipush (300 : Int32) dL_cools_25 (by decide) ?_
  refine wl_callX (As := [.int (1000 : Int32), .int (0 : Int32), .int (0 : Int32), .int (3000 : Int32), .int (50 : Int32), .int (300 : Int32)]) (S := []) [] ce dL_cools_28 ML_89 rfl rfl (Nat.le_of_ble_eq_true rfl) ?_
  refine a_setOrbit hC2 ⟨by decide, by decide⟩ ⟨by decide, by decide⟩ ⟨by decide, by decide⟩ ⟨by decide, by decide⟩ ⟨by decide, by decide⟩ ⟨by decide, by decide⟩ (fun m3 hC4 => ?_)
  show WZ G (d + 20) (1, 12) μL_cools 31 [.ref (gB G), lvU, lvU, lvU] [.int (0 : Int32)] (lm G Λ X [] m3 ce) Q
  refine wl_if_ne 56 dL_cools_31 (by decide) (fun z => absurd z (by decide)) (fun _ => ?_)
  refine wl_aload_n dL_cools_34 rfl ?_
  refine wl_get 0 (.ref (lB Λ)) dL_cools_35 fL_10 rfl rfl ?_
  refine wl_iconst (0 : Int32) dL_cools_38 (by decide) ?_
  refine wl_callX (As := [.int (0 : Int32)]) (S := []) [] ce dL_cools_39 ML_186 rfl rfl (Nat.le_of_ble_eq_true rfl) ?_
  refine a_save hC4 (fun m5 hC6 => ?_)
  show WZ G (d + 20) (1, 12) μL_cools 42 [.ref (gB G), lvU, lvU, lvU] [.int (1 : Int32)] (lm G Λ X [] m5 ce) Q
  refine wl_if_eq 56 dL_cools_42 (by decide) (fun z => absurd z (by decide)) (fun _ => ?_)
  refine wl_aload_n dL_cools_45 rfl ?_
  refine wl_get 0 (.ref (lB Λ)) dL_cools_46 fL_10 rfl rfl ?_
  refine wl_iconst (1 : Int32) dL_cools_49 (by decide) ?_
  refine wl_callX (As := [.int (1 : Int32)]) (S := []) [] ce dL_cools_50 ML_153 rfl rfl (Nat.le_of_ble_eq_true rfl) ?_
  refine a_run (i := 1) hC6 (by omega) (by omega) (g1 m1 hC2 m3 hC4 m5 hC6) (fun m7 hC8 => ?_)
  show WZ G (d + 20) (1, 12) μL_cools 53 [.ref (gB G), lvU, lvU, lvU] [.int (vcs (aS ((((stA (((A).1, svV A 0, (A).2.2) : Ab) (orbS (sS (aS (((A).1, svV A 0, (A).2.2) : Ab))) (1000 : Int32) (0 : Int32) (0 : Int32) (3000 : Int32) (50 : Int32) (300 : Int32)))).1, svV (stA (((A).1, svV A 0, (A).2.2) : Ab) (orbS (sS (aS (((A).1, svV A 0, (A).2.2) : Ab))) (1000 : Int32) (0 : Int32) (0 : Int32) (3000 : Int32) (50 : Int32) (300 : Int32))) 0, ((stA (((A).1, svV A 0, (A).2.2) : Ab) (orbS (sS (aS (((A).1, svV A 0, (A).2.2) : Ab))) (1000 : Int32) (0 : Int32) (0 : Int32) (3000 : Int32) (50 : Int32) (300 : Int32)))).2.2) : Ab)) 1)] (lm G Λ X [] m7 ce) Q
  refine wl_if_ge 58 dL_cools_53 (by decide) (fun _ => ?_) (fun z => absurd z (vcs_nn _ _ (by decide)))
  refine wl_aload_n dL_cools_58 rfl ?_
  refine wl_get 0 (.ref (lB Λ)) dL_cools_59 fL_10 rfl rfl ?_
  refine wl_callX (As := []) (S := []) [] ce dL_cools_62 ML_101 rfl rfl (Nat.le_of_ble_eq_true rfl) ?_
  refine a_nodeCount hC8 ?_
  show WZ G (d + 20) (1, 12) μL_cools 65 [.ref (gB G), lvU, lvU, lvU] [.int (nI (sN (aS ((it (aS ((((stA (((A).1, svV A 0, (A).2.2) : Ab) (orbS (sS (aS (((A).1, svV A 0, (A).2.2) : Ab))) (1000 : Int32) (0 : Int32) (0 : Int32) (3000 : Int32) (50 : Int32) (300 : Int32)))).1, svV (stA (((A).1, svV A 0, (A).2.2) : Ab) (orbS (sS (aS (((A).1, svV A 0, (A).2.2) : Ab))) (1000 : Int32) (0 : Int32) (0 : Int32) (3000 : Int32) (50 : Int32) (300 : Int32))) 0, ((stA (((A).1, svV A 0, (A).2.2) : Ab) (orbS (sS (aS (((A).1, svV A 0, (A).2.2) : Ab))) (1000 : Int32) (0 : Int32) (0 : Int32) (3000 : Int32) (50 : Int32) (300 : Int32)))).2.2) : Ab)) 1, (((((stA (((A).1, svV A 0, (A).2.2) : Ab) (orbS (sS (aS (((A).1, svV A 0, (A).2.2) : Ab))) (1000 : Int32) (0 : Int32) (0 : Int32) (3000 : Int32) (50 : Int32) (300 : Int32)))).1, svV (stA (((A).1, svV A 0, (A).2.2) : Ab) (orbS (sS (aS (((A).1, svV A 0, (A).2.2) : Ab))) (1000 : Int32) (0 : Int32) (0 : Int32) (3000 : Int32) (50 : Int32) (300 : Int32))) 0, ((stA (((A).1, svV A 0, (A).2.2) : Ab) (orbS (sS (aS (((A).1, svV A 0, (A).2.2) : Ab))) (1000 : Int32) (0 : Int32) (0 : Int32) (3000 : Int32) (50 : Int32) (300 : Int32)))).2.2) : Ab)).2) : Ab))))] (lm G Λ X [] m7 ce) Q
  refine wl_istore_n dL_cools_65 (by decide) rfl ?_
  refine wl_iload_n dL_cools_66 rfl ?_
  refine wl_newi (n := sN (aS ((it (aS ((((stA (((A).1, svV A 0, (A).2.2) : Ab) (orbS (sS (aS (((A).1, svV A 0, (A).2.2) : Ab))) (1000 : Int32) (0 : Int32) (0 : Int32) (3000 : Int32) (50 : Int32) (300 : Int32)))).1, svV (stA (((A).1, svV A 0, (A).2.2) : Ab) (orbS (sS (aS (((A).1, svV A 0, (A).2.2) : Ab))) (1000 : Int32) (0 : Int32) (0 : Int32) (3000 : Int32) (50 : Int32) (300 : Int32))) 0, ((stA (((A).1, svV A 0, (A).2.2) : Ab) (orbS (sS (aS (((A).1, svV A 0, (A).2.2) : Ab))) (1000 : Int32) (0 : Int32) (0 : Int32) (3000 : Int32) (50 : Int32) (300 : Int32)))).2.2) : Ab)) 1, (((((stA (((A).1, svV A 0, (A).2.2) : Ab) (orbS (sS (aS (((A).1, svV A 0, (A).2.2) : Ab))) (1000 : Int32) (0 : Int32) (0 : Int32) (3000 : Int32) (50 : Int32) (300 : Int32)))).1, svV (stA (((A).1, svV A 0, (A).2.2) : Ab) (orbS (sS (aS (((A).1, svV A 0, (A).2.2) : Ab))) (1000 : Int32) (0 : Int32) (0 : Int32) (3000 : Int32) (50 : Int32) (300 : Int32))) 0, ((stA (((A).1, svV A 0, (A).2.2) : Ab) (orbS (sS (aS (((A).1, svV A 0, (A).2.2) : Ab))) (1000 : Int32) (0 : Int32) (0 : Int32) (3000 : Int32) (50 : Int32) (300 : Int32)))).2.2) : Ab)).2) : Ab))) (N := 12) (b1 := 0) (b2 := 0) dL_cools_67 Zint rfl (by first | omega | exact hn12 | exact hl6) (by omega) (fun a9 => ?_)
  show WZ G (d + 20) (0, 0) μL_cools 69 [.ref (gB G), .int (nI (sN (aS ((it (aS ((((stA (((A).1, svV A 0, (A).2.2) : Ab) (orbS (sS (aS (((A).1, svV A 0, (A).2.2) : Ab))) (1000 : Int32) (0 : Int32) (0 : Int32) (3000 : Int32) (50 : Int32) (300 : Int32)))).1, svV (stA (((A).1, svV A 0, (A).2.2) : Ab) (orbS (sS (aS (((A).1, svV A 0, (A).2.2) : Ab))) (1000 : Int32) (0 : Int32) (0 : Int32) (3000 : Int32) (50 : Int32) (300 : Int32))) 0, ((stA (((A).1, svV A 0, (A).2.2) : Ab) (orbS (sS (aS (((A).1, svV A 0, (A).2.2) : Ab))) (1000 : Int32) (0 : Int32) (0 : Int32) (3000 : Int32) (50 : Int32) (300 : Int32)))).2.2) : Ab)) 1, (((((stA (((A).1, svV A 0, (A).2.2) : Ab) (orbS (sS (aS (((A).1, svV A 0, (A).2.2) : Ab))) (1000 : Int32) (0 : Int32) (0 : Int32) (3000 : Int32) (50 : Int32) (300 : Int32)))).1, svV (stA (((A).1, svV A 0, (A).2.2) : Ab) (orbS (sS (aS (((A).1, svV A 0, (A).2.2) : Ab))) (1000 : Int32) (0 : Int32) (0 : Int32) (3000 : Int32) (50 : Int32) (300 : Int32))) 0, ((stA (((A).1, svV A 0, (A).2.2) : Ab) (orbS (sS (aS (((A).1, svV A 0, (A).2.2) : Ab))) (1000 : Int32) (0 : Int32) (0 : Int32) (3000 : Int32) (50 : Int32) (300 : Int32)))).2.2) : Ab)).2) : Ab)))), lvU, lvU] [.ref a9] (lm G Λ X [(((a9, Sum.inl (gY G 21, sN (aS ((it (aS ((((stA (((A).1, svV A 0, (A).2.2) : Ab) (orbS (sS (aS (((A).1, svV A 0, (A).2.2) : Ab))) (1000 : Int32) (0 : Int32) (0 : Int32) (3000 : Int32) (50 : Int32) (300 : Int32)))).1, svV (stA (((A).1, svV A 0, (A).2.2) : Ab) (orbS (sS (aS (((A).1, svV A 0, (A).2.2) : Ab))) (1000 : Int32) (0 : Int32) (0 : Int32) (3000 : Int32) (50 : Int32) (300 : Int32))) 0, ((stA (((A).1, svV A 0, (A).2.2) : Ab) (orbS (sS (aS (((A).1, svV A 0, (A).2.2) : Ab))) (1000 : Int32) (0 : Int32) (0 : Int32) (3000 : Int32) (50 : Int32) (300 : Int32)))).2.2) : Ab)) 1, (((((stA (((A).1, svV A 0, (A).2.2) : Ab) (orbS (sS (aS (((A).1, svV A 0, (A).2.2) : Ab))) (1000 : Int32) (0 : Int32) (0 : Int32) (3000 : Int32) (50 : Int32) (300 : Int32)))).1, svV (stA (((A).1, svV A 0, (A).2.2) : Ab) (orbS (sS (aS (((A).1, svV A 0, (A).2.2) : Ab))) (1000 : Int32) (0 : Int32) (0 : Int32) (3000 : Int32) (50 : Int32) (300 : Int32))) 0, ((stA (((A).1, svV A 0, (A).2.2) : Ab) (orbS (sS (aS (((A).1, svV A 0, (A).2.2) : Ab))) (1000 : Int32) (0 : Int32) (0 : Int32) (3000 : Int32) (50 : Int32) (300 : Int32)))).2.2) : Ab)).2) : Ab)), Sum.inl (fun _ => 0))) : Nat × va_E))] m7 ce) Q
  refine wl_astore_n dL_cools_69 (by decide) rfl ?_
  refine wl_iconst (0 : Int32) dL_cools_70 (by decide) ?_
  refine wl_istore_n dL_cools_71 (by decide) rfl ?_
  exact e1 m1 hC2 m3 hC4 m5 hC6 m7 hC8 a9

theorem cz_1 {G : Cx} {d : Nat} {Λ : Lc} {X : Lx} {ext : va_W} {m : Mm} {A : Ab} {ce : List (Nat × Mm)} {Q : Option Value → LM → Prop} {n i a1 : Nat} {f1 : Nat → Int32} (hC : CIv (atC G (lB Λ) false) m A) (hn : n = sN (aS A)) (hi : i ≤ n)
    (e1 : ¬ i < n → WZ G (d + 20) (0, 0) μL_cools 94 [.ref (gB G), .int (nI n), .ref a1, lvU] [] (lm G Λ X [(((a1, Sum.inl (gY G 21, n, Sum.inl f1)) : Nat × va_E))] m ce) Q)
    (e2 : i < n → WZ G (d + 20) (0, 0) μL_cools 72 [.ref (gB G), .int (nI n), .ref a1, .int (nI (i + 1))] [] (lm G Λ X [(((a1, Sum.inl (gY G 21, n, Sum.inl (upd f1 i (sS (aS A) (11 * i + 21))))) : Nat × va_E))] m ce) Q) :
    WZ G (d + 20) (0, 0) μL_cools 72 [.ref (gB G), .int (nI n), .ref a1, .int (nI i)] [] (lm G Λ X [(((a1, Sum.inl (gY G 21, n, Sum.inl f1)) : Nat × va_E))] m ce) Q := by
  have hn12 := hC.nn.2
  have hl6 := hC.nl.2
  have hh8 := hC.nh.2
  refine wl_iload_n dL_cools_72 rfl ?_
  refine wl_iload_n dL_cools_73 rfl ?_
  refine wl_icmp_ge 94 dL_cools_74 (by decide) (fun q1 => ?_) (fun q1 => ?_)
  · have q2 : ¬ i < n := fun y => q1 (nlt_ (a := i) (b := n) y (by omega))
    refine wl_forget [.ref (gB G), .int (nI n), .ref a1, lvU] ⟨Or.inl rfl, Or.inl rfl, Or.inl rfl, Or.inr rfl, trivial⟩ ?_
    exact e1 q2
  · have q3 : i < n := nlt (a := i) (b := n) q1 (by omega) (by omega)
    refine wl_aload_n dL_cools_77 rfl ?_
    refine wl_iload_n dL_cools_78 rfl ?_
    refine wl_aload_n dL_cools_79 rfl ?_
    refine wl_get 0 (.ref (lB Λ)) dL_cools_80 fL_10 rfl rfl ?_
    refine wl_iload_n dL_cools_83 rfl ?_
    refine wl_callX (As := [.int (nI i)]) (S := [.int (nI i), .ref a1]) [] ce dL_cools_84 ML_168 rfl rfl (Nat.le_of_ble_eq_true rfl) ?_
    refine a_temperature (i := i) hC (by omega) ?_
    show WZ G (d + 20) (0, 0) μL_cools 87 [.ref (gB G), .int (nI n), .ref a1, .int (nI i)] [.int (sS (aS A) (11 * i + 21)), .int (nI i), .ref a1] (lm G Λ X [(((a1, Sum.inl (gY G 21, n, Sum.inl f1)) : Nat × va_E))] m ce) Q
    refine wl_iast (t0 := 1) 4 i (lws G Λ X [(((a1, Sum.inl (gY G 21, n, Sum.inl (upd f1 i (sS (aS A) (11 * i + 21))))) : Nat × va_E))]) dL_cools_87 rfl rfl rfl (by omega) (by omega) rfl ?_
    refine wl_iinc (nI (i + 1)) dL_cools_88 rfl (by decide) (nadd (a := i) (b := 1) rfl) rfl ?_
    refine wl_goto 72 dL_cools_91 (by decide) ?_
    exact e2 q3

theorem cz_2 {G : Cx} {d : Nat} {Λ : Lc} {X : Lx} {ext : va_W} {m : Mm} {A : Ab} {ce : List (Nat × Mm)} {Q : Option Value → LM → Prop} {n a1 : Nat} {f1 : Nat → Int32} {sv : Sc} (hC : CIv (atC G (lB Λ) false) m A) (hs : gSl G ≤ 260) (hx : xN X < 2 ^ 30)
    (g1 : aV A 0 = some sv)
    (g2 : ∀ m1 : Mm, CIv (atC G (lB Λ) false) m1 ((sv, (A).2) : Ab) → ∀ v3 : Nat, v3 < 3000 → ∀ v5 : Nat, v5 < 50 → ∀ v7 : Nat, v7 < 300 → ∀ m9 : Mm, CIv (atC G (lB Λ) false) m9 (stA ((sv, (A).2) : Ab) (orbS (sS (aS ((sv, (A).2) : Ab))) (1000 : Int32) (0 : Int32) (0 : Int32) (nI v3) (nI v5) (nI v7))) → (sS (aS (stA ((sv, (A).2) : Ab) (orbS (sS (aS ((sv, (A).2) : Ab))) (1000 : Int32) (0 : Int32) (0 : Int32) (nI v3) (nI v5) (nI v7)))) 0).toInt + (1 : Nat) * (sS (aS (stA ((sv, (A).2) : Ab) (orbS (sS (aS ((sv, (A).2) : Ab))) (1000 : Int32) (0 : Int32) (0 : Int32) (nI v3) (nI v5) (nI v7)))) 1).toInt ≤ 100000000)
    (e1 : ∀ m1 : Mm, CIv (atC G (lB Λ) false) m1 ((sv, (A).2) : Ab) → ∀ v3 : Nat, v3 < 3000 → ∀ v5 : Nat, v5 < 50 → ∀ v7 : Nat, v7 < 300 → ∀ m9 : Mm, CIv (atC G (lB Λ) false) m9 (stA ((sv, (A).2) : Ab) (orbS (sS (aS ((sv, (A).2) : Ab))) (1000 : Int32) (0 : Int32) (0 : Int32) (nI v3) (nI v5) (nI v7))) → ∀ m11 : Mm, CIv (atC G (lB Λ) false) m11 ((it (aS (stA ((sv, (A).2) : Ab) (orbS (sS (aS ((sv, (A).2) : Ab))) (1000 : Int32) (0 : Int32) (0 : Int32) (nI v3) (nI v5) (nI v7)))) 1, ((stA ((sv, (A).2) : Ab) (orbS (sS (aS ((sv, (A).2) : Ab))) (1000 : Int32) (0 : Int32) (0 : Int32) (nI v3) (nI v5) (nI v7)))).2) : Ab) → WZ G (d + 20) (0, 0) μL_cools 155 [.ref (gB G), .int (nI n), .ref a1, .int (0 : Int32)] [] (lm G Λ (xN X + 3, xP X, xW X, xR X) [(((a1, Sum.inl (gY G 21, n, Sum.inl f1)) : Nat × va_E))] m11 ce) Q) :
    WZ G (d + 20) (0, 0) μL_cools 94 [.ref (gB G), .int (nI n), .ref a1, lvU] [] (lm G Λ X [(((a1, Sum.inl (gY G 21, n, Sum.inl f1)) : Nat × va_E))] m ce) Q := by
  have hn12 := hC.nn.2
  have hl6 := hC.nl.2
  have hh8 := hC.nh.2
  refine wl_aload_n dL_cools_94 rfl ?_
  refine wl_get 0 (.ref (lB Λ)) dL_cools_95 fL_10 rfl rfl ?_
  refine wl_iconst (0 : Int32) dL_cools_98 (by decide) ?_
  refine wl_callX (As := [.int (0 : Int32)]) (S := []) [] ce dL_cools_99 ML_193 rfl rfl (Nat.le_of_ble_eq_true rfl) ?_
  refine a_restore (s := sv) hC (g1) (fun m1 hC2 => ?_)
  show WZ G (d + 20) (0, 0) μL_cools 102 [.ref (gB G), .int (nI n), .ref a1, lvU] [.int (1 : Int32)] (lm G Λ X [(((a1, Sum.inl (gY G 21, n, Sum.inl f1)) : Nat × va_E))] m1 ce) Q
  refine wl_if_eq 151 dL_cools_102 (by decide) (fun z => absurd z (by decide)) (fun _ => ?_)
  refine wl_aload_n dL_cools_105 rfl ?_
  refine wl_get 0 (.ref (lB Λ)) dL_cools_106 fL_10 rfl rfl ?_
  refine wl_sipush (1000 : Int32) dL_cools_109 (by decide) ?_
  refine wl_iconst (0 : Int32) dL_cools_112 (by decide) ?_
  refine wl_iconst (0 : Int32) dL_cools_113 (by decide) ?_
  refine wl_aload_n dL_cools_114 rfl ?_
  refine wl_sipush (3000 : Int32) dL_cools_115 (by decide) ?_
  refine wl_callV (As := [.int (3000 : Int32)]) (S := [.int (0 : Int32), .int (0 : Int32), .int (1000 : Int32), .ref (lB Λ)]) (b' := (0, 0)) (b := (0, 0)) dL_cools_118 ML_65 ⟨0, _, rfl⟩ rfl rfl rfl (b00 _) (Nat.le_of_ble_eq_true rfl) ?_
  refine wl_draw (X := X) hs (by show xN X + 0 + 1 < 2 ^ 31; omega) (by decide) (fun v3 hv4 => ?_)
  have hv4 : v3 < 3000 := by have := hv4; rw [show (3000 : Int32).toInt = 3000 from by decide] at this; omega
  show WZ G (d + 20) (0, 0) μL_cools 121 [.ref (gB G), .int (nI n), .ref a1, lvU] [.int (nI v3), .int (0 : Int32), .int (0 : Int32), .int (1000 : Int32), .ref (lB Λ)] (lm G Λ (xN X + 1, xP X, xW X, xR X) [(((a1, Sum.inl (gY G 21, n, Sum.inl f1)) : Nat × va_E))] m1 ce) Q
  refine wl_aload_n dL_cools_121 rfl ?_
  refine wl_bipush (50 : Int32) dL_cools_122 (by decide) ?_
  refine wl_callV (As := [.int (50 : Int32)]) (S := [.int (nI v3), .int (0 : Int32), .int (0 : Int32), .int (1000 : Int32), .ref (lB Λ)]) (b' := (0, 0)) (b := (0, 0)) dL_cools_124 ML_65 ⟨0, _, rfl⟩ rfl rfl rfl (b00 _) (Nat.le_of_ble_eq_true rfl) ?_
  refine wl_draw (X := (xN X + 1, xP X, xW X, xR X)) hs (by show xN X + 1 + 1 < 2 ^ 31; omega) (by decide) (fun v5 hv6 => ?_)
  have hv6 : v5 < 50 := by have := hv6; rw [show (50 : Int32).toInt = 50 from by decide] at this; omega
  show WZ G (d + 20) (0, 0) μL_cools 127 [.ref (gB G), .int (nI n), .ref a1, lvU] [.int (nI v5), .int (nI v3), .int (0 : Int32), .int (0 : Int32), .int (1000 : Int32), .ref (lB Λ)] (lm G Λ (xN X + 2, xP X, xW X, xR X) [(((a1, Sum.inl (gY G 21, n, Sum.inl f1)) : Nat × va_E))] m1 ce) Q
  refine wl_aload_n dL_cools_127 rfl ?_
  refine wl_sipush (300 : Int32) dL_cools_128 (by decide) ?_
  refine wl_callV (As := [.int (300 : Int32)]) (S := [.int (nI v5), .int (nI v3), .int (0 : Int32), .int (0 : Int32), .int (1000 : Int32), .ref (lB Λ)]) (b' := (0, 0)) (b := (0, 0)) dL_cools_131 ML_65 ⟨0, _, rfl⟩ rfl rfl rfl (b00 _) (Nat.le_of_ble_eq_true rfl) ?_
  refine wl_draw (X := (xN X + 2, xP X, xW X, xR X)) hs (by show xN X + 2 + 1 < 2 ^ 31; omega) (by decide) (fun v7 hv8 => ?_)
  have hv8 : v7 < 300 := by have := hv8; rw [show (300 : Int32).toInt = 300 from by decide] at this; omega
  show WZ G (d + 20) (0, 0) μL_cools 134 [.ref (gB G), .int (nI n), .ref a1, lvU] [.int (nI v7), .int (nI v5), .int (nI v3), .int (0 : Int32), .int (0 : Int32), .int (1000 : Int32), .ref (lB Λ)] (lm G Λ (xN X + 3, xP X, xW X, xR X) [(((a1, Sum.inl (gY G 21, n, Sum.inl f1)) : Nat × va_E))] m1 ce) Q
  refine wl_callX (As := [.int (1000 : Int32), .int (0 : Int32), .int (0 : Int32), .int (nI v3), .int (nI v5), .int (nI v7)]) (S := []) [] ce dL_cools_134 ML_89 rfl rfl (Nat.le_of_ble_eq_true rfl) ?_
  refine a_setOrbit hC2 ⟨by decide, by decide⟩ ⟨by decide, by decide⟩ ⟨by decide, by decide⟩ (rgn (by omega) (by omega) (by omega)) (rgn (by omega) (by omega) (by omega)) (rgn (by omega) (by omega) (by omega)) (fun m9 hC10 => ?_)
  show WZ G (d + 20) (0, 0) μL_cools 137 [.ref (gB G), .int (nI n), .ref a1, lvU] [.int (0 : Int32)] (lm G Λ (xN X + 3, xP X, xW X, xR X) [(((a1, Sum.inl (gY G 21, n, Sum.inl f1)) : Nat × va_E))] m9 ce) Q
  refine wl_if_ne 151 dL_cools_137 (by decide) (fun z => absurd z (by decide)) (fun _ => ?_)
  refine wl_aload_n dL_cools_140 rfl ?_
  refine wl_get 0 (.ref (lB Λ)) dL_cools_141 fL_10 rfl rfl ?_
  refine wl_iconst (1 : Int32) dL_cools_144 (by decide) ?_
  refine wl_callX (As := [.int (1 : Int32)]) (S := []) [] ce dL_cools_145 ML_153 rfl rfl (Nat.le_of_ble_eq_true rfl) ?_
  refine a_run (i := 1) hC10 (by omega) (by omega) (g2 m1 hC2 v3 hv4 v5 hv6 v7 hv8 m9 hC10) (fun m11 hC12 => ?_)
  show WZ G (d + 20) (0, 0) μL_cools 148 [.ref (gB G), .int (nI n), .ref a1, lvU] [.int (vcs (aS (stA ((sv, (A).2) : Ab) (orbS (sS (aS ((sv, (A).2) : Ab))) (1000 : Int32) (0 : Int32) (0 : Int32) (nI v3) (nI v5) (nI v7)))) 1)] (lm G Λ (xN X + 3, xP X, xW X, xR X) [(((a1, Sum.inl (gY G 21, n, Sum.inl f1)) : Nat × va_E))] m11 ce) Q
  refine wl_if_ge 153 dL_cools_148 (by decide) (fun _ => ?_) (fun z => absurd z (vcs_nn _ _ (by decide)))
  refine wl_iconst (0 : Int32) dL_cools_153 (by decide) ?_
  refine wl_istore_n dL_cools_154 (by decide) rfl ?_
  exact e1 m1 hC2 v3 hv4 v5 hv6 v7 hv8 m9 hC10 m11 hC12

theorem cz_3 {G : Cx} {d : Nat} {Λ : Lc} {X : Lx} {ext : va_W} {m : Mm} {A : Ab} {ce : List (Nat × Mm)} {Q : Option Value → LM → Prop} {n i a1 : Nat} {f1 : Nat → Int32} {sv : Sc} (hC : CIv (atC G (lB Λ) false) m A) (hn : n = sN (aS A)) (hi : i ≤ n) (k1 : i < n → ¬ f1 i < sS (aS A) (11 * i + 21))
    (g1 : ¬ i < n → aV A 0 = some sv)
    (e1 : ¬ i < n → ∀ m3 : Mm, CIv (atC G (lB Λ) false) m3 ((sv, (A).2) : Ab) → Q (some (.int (1 : Int32))) (lm G Λ X [(((a1, Sum.inl (gY G 21, n, Sum.inl f1)) : Nat × va_E))] m3 ce))
    (e2 : i < n → WZ G (d + 20) (0, 0) μL_cools 155 [.ref (gB G), .int (nI n), .ref a1, .int (nI (i + 1))] [] (lm G Λ X [(((a1, Sum.inl (gY G 21, n, Sum.inl f1)) : Nat × va_E))] m ce) Q) :
    WZ G (d + 20) (0, 0) μL_cools 155 [.ref (gB G), .int (nI n), .ref a1, .int (nI i)] [] (lm G Λ X [(((a1, Sum.inl (gY G 21, n, Sum.inl f1)) : Nat × va_E))] m ce) Q := by
  have hn12 := hC.nn.2
  have hl6 := hC.nl.2
  have hh8 := hC.nh.2
  refine wl_iload_n dL_cools_155 rfl ?_
  refine wl_iload_n dL_cools_156 rfl ?_
  refine wl_icmp_ge 182 dL_cools_157 (by decide) (fun q1 => ?_) (fun q1 => ?_)
  · have q2 : ¬ i < n := fun y => q1 (nlt_ (a := i) (b := n) y (by omega))
    refine wl_aload_n dL_cools_182 rfl ?_
    refine wl_get 0 (.ref (lB Λ)) dL_cools_183 fL_10 rfl rfl ?_
    refine wl_iconst (0 : Int32) dL_cools_186 (by decide) ?_
    refine wl_callX (As := [.int (0 : Int32)]) (S := []) [] ce dL_cools_187 ML_193 rfl rfl (Nat.le_of_ble_eq_true rfl) ?_
    refine a_restore (s := sv) hC (g1 q2) (fun m3 hC4 => ?_)
    show WZ G (d + 20) (0, 0) μL_cools 190 [.ref (gB G), .int (nI n), .ref a1, .int (nI i)] [.int (1 : Int32)] (lm G Λ X [(((a1, Sum.inl (gY G 21, n, Sum.inl f1)) : Nat × va_E))] m3 ce) Q
    exact wl_zret dL_cools_190 rfl rfl (e1 q2 m3 hC4)
  · have q5 : i < n := nlt (a := i) (b := n) q1 (by omega) (by omega)
    refine wl_aload_n dL_cools_160 rfl ?_
    refine wl_get 0 (.ref (lB Λ)) dL_cools_161 fL_10 rfl rfl ?_
    refine wl_iload_n dL_cools_164 rfl ?_
    refine wl_callX (As := [.int (nI i)]) (S := []) [] ce dL_cools_165 ML_168 rfl rfl (Nat.le_of_ble_eq_true rfl) ?_
    refine a_temperature (i := i) hC (by omega) ?_
    show WZ G (d + 20) (0, 0) μL_cools 168 [.ref (gB G), .int (nI n), .ref a1, .int (nI i)] [.int (sS (aS A) (11 * i + 21))] (lm G Λ X [(((a1, Sum.inl (gY G 21, n, Sum.inl f1)) : Nat × va_E))] m ce) Q
    refine wl_aload_n dL_cools_168 rfl ?_
    refine wl_iload_n dL_cools_169 rfl ?_
    refine wl_iald (t0 := 1) 4 i (f1 i) dL_cools_170 rfl rfl rfl (by omega) (by omega) rfl ?_
    refine wl_icmp_le 176 dL_cools_171 (by decide) (fun _ => ?_) (fun z => absurd z (k1 q5))
    refine wl_iinc (nI (i + 1)) dL_cools_176 rfl (by decide) (nadd (a := i) (b := 1) rfl) rfl ?_
    refine wl_goto 155 dL_cools_179 (by decide) ?_
    exact e2 q5

