/-! RESTS: blocks (printed by gen_rest.py) -/
theorem re_0 {G : Cx} {d : Nat} {Λ : Lc} {X : Lx} {ext : va_W} {m : Mm} {A : Ab} {ce : List (Nat × Mm)} {Q : Option Value → LM → Prop}  (hC : CIv (atC G (lB Λ) false) m A) (hs : gSl G ≤ 260) (hx : xN X < 2 ^ 30)
    (e1 : ∀ m1 : Mm, CIv (atC G (lB Λ) false) m1 (((A).1, svV A 0, (A).2.2) : Ab) → ∀ B3 : Nat, ∀ mc4 : Mm, CIv (atC G B3 false) mc4 A00 → ∀ v6 : Nat, v6 < 5 → WZ G (d + 20) (0, 0) μL_rests 39 [.ref (gB G), .ref B3, .int (nI (2 + v6)), .int (999999 : Int32), .int (-999999 : Int32), .int (0 : Int32), lvU] [] (lm G Λ (xN X + 1, xP X, xW X, xR X) [] m1 [(B3, mc4)]) Q) :
    WZM G (d + 20) (293, 9628) μL_rests [.ref (gB G)] (lm G Λ X [] m []) Q := by
  have hn12 := hC.nn.2
  refine WZM.of pL (Nat.le_of_ble_eq_true rfl) rfl ?_
  refine wl_aload_n dL_rests_0 rfl ?_
  refine wl_get 0 (.ref (lB Λ)) dL_rests_1 fL_10 rfl rfl ?_
  refine wl_iconst (0 : Int32) dL_rests_4 (by decide) ?_
  refine wl_callX (As := [.int (0 : Int32)]) (S := []) [] [] dL_rests_5 ML_186 rfl rfl (Nat.le_of_ble_eq_true rfl) ?_
  refine a_save hC (fun m1 hC2 => ?_)
  show WZ G (d + 20) (293, 9628) μL_rests 8 [.ref (gB G), lvU, lvU, lvU, lvU, lvU, lvU] [.int (1 : Int32)] (lm G Λ X [] m1 []) Q
  refine wl_if_ne 13 dL_rests_8 (by decide) (fun _ => ?_) (fun z => absurd z (by decide))
  refine wl_newX (b1 := 0) (b2 := 0) dL_rests_13 dL_rests_16 dL_rests_17 CL_7 ML_9 (Nat.le_of_ble_eq_true rfl) (fun B3 mc4 hD5 => ?_)
  show WZ G (d + 20) (0, 0) μL_rests 20 [.ref (gB G), lvU, lvU, lvU, lvU, lvU, lvU] [.ref B3] (lm G Λ X [] m1 [(B3, mc4)]) Q
  refine wl_astore_n dL_rests_20 (by decide) rfl ?_
  refine wl_iconst (2 : Int32) dL_rests_21 (by decide) ?_
  refine wl_aload_n dL_rests_22 rfl ?_
  refine wl_iconst (5 : Int32) dL_rests_23 (by decide) ?_
  refine wl_callV (As := [.int (5 : Int32)]) (S := [.int (2 : Int32)]) (b' := (0, 0)) (b := (0, 0)) dL_rests_24 ML_65 ⟨0, _, rfl⟩ rfl rfl rfl (b00 _) (Nat.le_of_ble_eq_true rfl) ?_
  refine wl_draw (X := X) hs (by show xN X + 0 + 1 < 2 ^ 31; omega) (by decide) (fun v6 hv7 => ?_)
  have hv7 : v6 < 5 := by have := hv7; rw [show (5 : Int32).toInt = 5 from by decide] at this; omega
  show WZ G (d + 20) (0, 0) μL_rests 27 [.ref (gB G), .ref B3, lvU, lvU, lvU, lvU, lvU] [.int (nI v6), .int (2 : Int32)] (lm G Λ (xN X + 1, xP X, xW X, xR X) [] m1 [(B3, mc4)]) Q
  refine wl_iaddv (nI (2 + v6)) dL_rests_27 (nadd rfl) ?_
  refine wl_istore_n dL_rests_28 (by decide) rfl ?_
  refine wl_ldc dL_rests_29 kL_190 ?_
  refine wl_istore_n dL_rests_31 (by decide) rfl ?_
  refine wl_ldc dL_rests_32 kL_191 ?_
  refine wl_istore dL_rests_34 (by decide) rfl ?_
  refine wl_iconst (0 : Int32) dL_rests_36 (by decide) ?_
  refine wl_istore dL_rests_37 (by decide) rfl ?_
  exact e1 m1 hC2 B3 mc4 hD5 v6 hv7

theorem re_1 {G : Cx} {d : Nat} {Λ : Lc} {X : Lx} {ext : va_W} {m : Mm} {A : Ab} {ce : List (Nat × Mm)} {Q : Option Value → LM → Prop} {B : Nat} {mc : Mm} {C : Ab} {n i : Nat} {lo hi : Int32} (hC : CIv (atC G (lB Λ) false) m A) (hD : CIv (atC G B false) mc C) (hs : gSl G ≤ 260) (hx : xN X < 2 ^ 30) (hn : n ≤ 6) (hi0 : i ≤ n) (hk : sN (aS C) = i)
    (e1 : ¬ i < n → WZ G (d + 20) (0, 0) μL_rests 108 [.ref (gB G), .ref B, .int (nI n), .int lo, .int hi, .int (1 : Int32), lvU] [] (lm G Λ X [] m [(B, mc)]) Q)
    (e2 : i < n → ∀ v4 : Nat, v4 < 60001 → ∀ v6 : Nat, v6 < 80000 → ∀ m8 : Mm, CIv (atC G B false) m8 (((adN (sS (aS C)) (sN (aS C)) (nI (20000 + v6)) ((nI v4) - (30000 : Int32)) (0 : Int32) (0 : Int32) (0 : Int32), sE (aS C), sN (aS C) + 1, (aS C).2.2.2), (C).2) : Ab) → sN (aS C) = i → WZ G (d + 20) (0, 0) μL_rests 39 [.ref (gB G), .ref B, .int (nI n), .int (imin lo ((nI v4) - (30000 : Int32))), .int (imax hi ((nI v4) - (30000 : Int32))), .int (nI (i + 1)), lvU] [] (lm G Λ (xN X + 2, xP X, xW X, xR X) [] m [(B, m8)]) Q)
    (e3 : i < n → ∀ v4 : Nat, v4 < 60001 → ∀ v6 : Nat, v6 < 80000 → ∀ m8 : Mm, CIv (atC G B false) m8 (((adN (sS (aS C)) (sN (aS C)) (nI (20000 + v6)) ((nI v4) - (30000 : Int32)) (0 : Int32) (0 : Int32) (0 : Int32), sE (aS C), sN (aS C) + 1, (aS C).2.2.2), (C).2) : Ab) → ¬ sN (aS C) = i → Q (some (.int (0 : Int32))) (lm G Λ (xN X + 2, xP X, xW X, xR X) [] m [(B, m8)])) :
    WZ G (d + 20) (0, 0) μL_rests 39 [.ref (gB G), .ref B, .int (nI n), .int lo, .int hi, .int (nI i), lvU] [] (lm G Λ X [] m [(B, mc)]) Q := by
  have hn12 := hC.nn.2
  have hl6 := hC.nl.2
  have hh8 := hC.nh.2
  have hn12c := hD.nn.2
  refine wl_iload dL_rests_39 rfl ?_
  refine wl_iload_n dL_rests_41 rfl ?_
  refine wl_icmp_ge 105 dL_rests_42 (by decide) (fun q1 => ?_) (fun q1 => ?_)
  · have q2 : ¬ i < n := fun y => q1 (nlt_ (a := i) (b := n) y (by omega))
    refine wl_iconst (1 : Int32) dL_rests_105 (by decide) ?_
    refine wl_istore dL_rests_106 (by decide) rfl ?_
    exact e1 q2
  · have q3 : i < n := nlt (a := i) (b := n) q1 (by omega) (by omega)
    refine wl_aload_n dL_rests_45 rfl ?_
    refine wl_ldc dL_rests_46 kL_68 ?_
    refine wl_callV (As := [.int (60001 : Int32)]) (S := []) (b' := (0, 0)) (b := (0, 0)) dL_rests_48 ML_65 ⟨0, _, rfl⟩ rfl rfl rfl (b00 _) (Nat.le_of_ble_eq_true rfl) ?_
    refine wl_draw (X := X) hs (by show xN X + 0 + 1 < 2 ^ 31; omega) (by decide) (fun v4 hv5 => ?_)
    have hv5 : v4 < 60001 := by have := hv5; rw [show (60001 : Int32).toInt = 60001 from by decide] at this; omega
    show WZ G (d + 20) (0, 0) μL_rests 51 [.ref (gB G), .ref B, .int (nI n), .int lo, .int hi, .int (nI i), lvU] [.int (nI v4)] (lm G Λ (xN X + 1, xP X, xW X, xR X) [] m [(B, mc)]) Q
    refine wl_sipush (30000 : Int32) dL_rests_51 (by decide) ?_
    refine wl_isub dL_rests_54 ?_
    refine wl_istore dL_rests_55 (by decide) rfl ?_
    refine wl_iload_n dL_rests_57 rfl ?_
    refine wl_iload dL_rests_58 rfl ?_
    refine wl_minI dL_rests_60 AL_159 (Nat.le_of_ble_eq_true rfl) ?_
    refine wl_istore_n dL_rests_63 (by decide) rfl ?_
    refine wl_iload dL_rests_64 rfl ?_
    refine wl_iload dL_rests_66 rfl ?_
    refine wl_maxI dL_rests_68 AL_35 (Nat.le_of_ble_eq_true rfl) ?_
    refine wl_istore dL_rests_71 (by decide) rfl ?_
    refine wl_aload_n dL_rests_73 rfl ?_
    refine wl_sipush (20000 : Int32) dL_rests_74 (by decide) ?_
    refine wl_aload_n dL_rests_77 rfl ?_
    refine wl_ldc dL_rests_78 kL_192 ?_
    refine wl_callV (As := [.int (80000 : Int32)]) (S := [.int (20000 : Int32), .ref B]) (b' := (0, 0)) (b := (0, 0)) dL_rests_80 ML_65 ⟨0, _, rfl⟩ rfl rfl rfl (b00 _) (Nat.le_of_ble_eq_true rfl) ?_
    refine wl_draw (X := (xN X + 1, xP X, xW X, xR X)) hs (by show xN X + 1 + 1 < 2 ^ 31; omega) (by decide) (fun v6 hv7 => ?_)
    have hv7 : v6 < 80000 := by have := hv7; rw [show (80000 : Int32).toInt = 80000 from by decide] at this; omega
    show WZ G (d + 20) (0, 0) μL_rests 83 [.ref (gB G), .ref B, .int (nI n), .int (imin lo ((nI v4) - (30000 : Int32))), .int (imax hi ((nI v4) - (30000 : Int32))), .int (nI i), .int ((nI v4) - (30000 : Int32))] [.int (nI v6), .int (20000 : Int32), .ref B] (lm G Λ (xN X + 2, xP X, xW X, xR X) [] m [(B, mc)]) Q
    refine wl_iaddv (nI (20000 + v6)) dL_rests_83 (nadd rfl) ?_
    refine wl_iload dL_rests_84 rfl ?_
    refine wl_iconst (0 : Int32) dL_rests_86 (by decide) ?_
    refine wl_iconst (0 : Int32) dL_rests_87 (by decide) ?_
    refine wl_iconst (0 : Int32) dL_rests_88 (by decide) ?_
    refine wl_callX (As := [.int (nI (20000 + v6)), .int ((nI v4) - (30000 : Int32)), .int (0 : Int32), .int (0 : Int32), .int (0 : Int32)]) (S := []) [(lB Λ, m)] [] dL_rests_89 ML_69 rfl rfl (Nat.le_of_ble_eq_true rfl) ?_
    refine a_addNode hD (by omega) (rgn (by omega) (by omega) (by omega)) (rgs (v := v4) (c := 30000) (by omega) (by omega) (by omega) (by omega)) ⟨by decide, by decide⟩ ⟨by decide, by decide⟩ ⟨by decide, by decide⟩ (fun m8 hC9 => ?_)
    show WZ G (d + 20) (0, 0) μL_rests 92 [.ref (gB G), .ref B, .int (nI n), .int (imin lo ((nI v4) - (30000 : Int32))), .int (imax hi ((nI v4) - (30000 : Int32))), .int (nI i), .int ((nI v4) - (30000 : Int32))] [.int (nI (sN (aS C)))] (lm G Λ (xN X + 2, xP X, xW X, xR X) [] m [(B, m8)]) Q
    refine wl_iload dL_rests_92 rfl ?_
    refine wl_icmp_eq 99 dL_rests_94 (by decide) (fun q10 => ?_) (fun q10 => ?_)
    · have q11 : sN (aS C) = i := neq (a := sN (aS C)) (b := i) q10 (by omega) (by omega)
      refine wl_iinc (nI (i + 1)) dL_rests_99 rfl (by decide) (nadd (a := i) (b := 1) rfl) rfl ?_
      refine wl_goto 39 dL_rests_102 (by decide) ?_
      refine wl_forget [.ref (gB G), .ref B, .int (nI n), .int (imin lo ((nI v4) - (30000 : Int32))), .int (imax hi ((nI v4) - (30000 : Int32))), .int (nI (i + 1)), lvU] ⟨Or.inl rfl, Or.inl rfl, Or.inl rfl, Or.inl rfl, Or.inl rfl, Or.inl rfl, Or.inr rfl, trivial⟩ ?_
      exact e2 q3 v4 hv5 v6 hv7 m8 hC9 q11
    · have q12 : ¬ sN (aS C) = i := fun y => q10 (congrArg nI (y : sN (aS C) = i))
      refine wl_iconst (0 : Int32) dL_rests_97 (by decide) ?_
      exact wl_zret dL_rests_98 rfl rfl (e3 q3 v4 hv5 v6 hv7 m8 hC9 q12)

theorem re_2 {G : Cx} {d : Nat} {Λ : Lc} {X : Lx} {ext : va_W} {m : Mm} {A : Ab} {ce : List (Nat × Mm)} {Q : Option Value → LM → Prop} {B : Nat} {mc : Mm} {C : Ab} {n i : Nat} {lo hi : Int32} (hC : CIv (atC G (lB Λ) false) m A) (hD : CIv (atC G B false) mc C) (hs : gSl G ≤ 260) (hx : xN X < 2 ^ 30) (hn : n ≤ 6) (hi1 : 1 ≤ i) (hi0 : i ≤ n) (hk : sN (aS C) = n) (hl : (sK (aS C)).length < 24) (k1 : i < n → ∀ q, q < i → lkV i q (sK (aS C)) = 0)
    (e1 : ¬ i < n → WZ G (d + 20) (0, 0) μL_rests 149 [.ref (gB G), .ref B, .int (nI n), .int lo, .int hi, .int (0 : Int32), lvU] [] (lm G Λ X [] m [(B, mc)]) Q)
    (e2 : i < n → ∀ v4 : Nat, v4 < i → ∀ v6 : Nat, v6 < 300 → ∀ m10 : Mm, ∀ l8 : List Lk, CIv (atC G B false) m10 (lnA C i v4 (nI (1 + v6)) l8) → lkV i v4 l8 = (nI (1 + v6)) → WZ G (d + 20) (0, 0) μL_rests 108 [.ref (gB G), .ref B, .int (nI n), .int lo, .int hi, .int (nI (i + 1)), lvU] [] (lm G Λ (xN X + 2, xP X, xW X, xR X) [] m [(B, m10)]) Q) :
    WZ G (d + 20) (0, 0) μL_rests 108 [.ref (gB G), .ref B, .int (nI n), .int lo, .int hi, .int (nI i), lvU] [] (lm G Λ X [] m [(B, mc)]) Q := by
  have hn12 := hC.nn.2
  have hl6 := hC.nl.2
  have hh8 := hC.nh.2
  have hn12c := hD.nn.2
  refine wl_iload dL_rests_108 rfl ?_
  refine wl_iload_n dL_rests_110 rfl ?_
  refine wl_icmp_ge 146 dL_rests_111 (by decide) (fun q1 => ?_) (fun q1 => ?_)
  · have q2 : ¬ i < n := fun y => q1 (nlt_ (a := i) (b := n) y (by omega))
    refine wl_iconst (0 : Int32) dL_rests_146 (by decide) ?_
    refine wl_istore dL_rests_147 (by decide) rfl ?_
    exact e1 q2
  · have q3 : i < n := nlt (a := i) (b := n) q1 (by omega) (by omega)
    refine wl_aload_n dL_rests_114 rfl ?_
    refine wl_iload dL_rests_115 rfl ?_
    refine wl_aload_n dL_rests_117 rfl ?_
    refine wl_iload dL_rests_118 rfl ?_
    refine wl_callV (As := [.int (nI i)]) (S := [.int (nI i), .ref B]) (b' := (0, 0)) (b := (0, 0)) dL_rests_120 ML_65 ⟨0, _, rfl⟩ rfl rfl rfl (b00 _) (Nat.le_of_ble_eq_true rfl) ?_
    refine wl_draw (X := X) hs (by show xN X + 0 + 1 < 2 ^ 31; omega) (by rw [nI_toInt (by omega)]; omega) (fun v4 hv5 => ?_)
    have hv5 : v4 < i := by have := hv5; rw [nI_toInt (by omega)] at this; omega
    show WZ G (d + 20) (0, 0) μL_rests 123 [.ref (gB G), .ref B, .int (nI n), .int lo, .int hi, .int (nI i), lvU] [.int (nI v4), .int (nI i), .ref B] (lm G Λ (xN X + 1, xP X, xW X, xR X) [] m [(B, mc)]) Q
    refine wl_iconst (1 : Int32) dL_rests_123 (by decide) ?_
    refine wl_aload_n dL_rests_124 rfl ?_
    refine wl_sipush (300 : Int32) dL_rests_125 (by decide) ?_
    refine wl_callV (As := [.int (300 : Int32)]) (S := [.int (1 : Int32), .int (nI v4), .int (nI i), .ref B]) (b' := (0, 0)) (b := (0, 0)) dL_rests_128 ML_65 ⟨0, _, rfl⟩ rfl rfl rfl (b00 _) (Nat.le_of_ble_eq_true rfl) ?_
    refine wl_draw (X := (xN X + 1, xP X, xW X, xR X)) hs (by show xN X + 1 + 1 < 2 ^ 31; omega) (by decide) (fun v6 hv7 => ?_)
    have hv7 : v6 < 300 := by have := hv7; rw [show (300 : Int32).toInt = 300 from by decide] at this; omega
    show WZ G (d + 20) (0, 0) μL_rests 131 [.ref (gB G), .ref B, .int (nI n), .int lo, .int hi, .int (nI i), lvU] [.int (nI v6), .int (1 : Int32), .int (nI v4), .int (nI i), .ref B] (lm G Λ (xN X + 2, xP X, xW X, xR X) [] m [(B, mc)]) Q
    refine wl_iaddv (nI (1 + v6)) dL_rests_131 (nadd rfl) ?_
    refine wl_callX (As := [.int (nI i), .int (nI v4), .int (nI (1 + v6))]) (S := []) [(lB Λ, m)] [] dL_rests_132 ML_76 rfl rfl (Nat.le_of_ble_eq_true rfl) ?_
    refine a_link (j := i) (q := v4) hD (by omega) (by omega) (by omega) (rgn (by omega) (by omega) (by omega)) (by omega) (fun m10 l8 hC11 hl9 => ?_)
    show WZ G (d + 20) (0, 0) μL_rests 135 [.ref (gB G), .ref B, .int (nI n), .int lo, .int hi, .int (nI i), lvU] [.int (lkV i v4 (sK (aS C)))] (lm G Λ (xN X + 2, xP X, xW X, xR X) [] m [(B, m10)]) Q
    refine wl_if_eq 140 dL_rests_135 (by decide) (fun _ => ?_) (fun z => absurd (k1 q3 _ (by omega)) z)
    refine wl_iinc (nI (i + 1)) dL_rests_140 rfl (by decide) (nadd (a := i) (b := 1) rfl) rfl ?_
    refine wl_goto 108 dL_rests_143 (by decide) ?_
    exact e2 q3 v4 hv5 v6 hv7 m10 l8 hC11 hl9

theorem re_3 {G : Cx} {d : Nat} {Λ : Lc} {X : Lx} {ext : va_W} {m : Mm} {A : Ab} {ce : List (Nat × Mm)} {Q : Option Value → LM → Prop} {B : Nat} {mc : Mm} {C : Ab} {n i : Nat} {lo hi : Int32} (hC : CIv (atC G (lB Λ) false) m A) (hD : CIv (atC G B false) mc C) (hs : gSl G ≤ 260) (hx : xN X < 2 ^ 30) (hi0 : i ≤ 30) (k1 : ∀ v, v < 20 → vcs (aS C) (1 + v) = 0)
    (e1 : ¬ i < 30 → WZ G (d + 20) (0, 0) μL_rests 217 [.ref (gB G), .ref B, lvU, lvU, lvU, lvU, lvU] [] (lm G Λ X [] m [(B, mc)]) Q)
    (g1 : i < 30 → ∀ v4 : Nat, v4 < 20 → (sS (aS C) 0).toInt + (1 + v4 : Nat) * (sS (aS C) 1).toInt ≤ 100000000)
    (e2 : i < 30 → ∀ v4 : Nat, v4 < 20 → ∀ m6 : Mm, CIv (atC G B false) m6 ((it (aS C) (1 + v4), (C).2) : Ab) → WZ G (d + 20) (0, 0) μL_rests 176 [.ref (gB G), .ref B, .int (nI n), .int lo, .int hi, .int (nI i), .int (0 : Int32)] [] (lm G Λ (xN X + 1, xP X, xW X, xR X) [] m [(B, m6)]) Q) :
    WZ G (d + 20) (0, 0) μL_rests 149 [.ref (gB G), .ref B, .int (nI n), .int lo, .int hi, .int (nI i), lvU] [] (lm G Λ X [] m [(B, mc)]) Q := by
  have hn12 := hC.nn.2
  have hl6 := hC.nl.2
  have hh8 := hC.nh.2
  have hn12c := hD.nn.2
  refine wl_iload dL_rests_149 rfl ?_
  refine wl_bipush (30 : Int32) dL_rests_151 (by decide) ?_
  refine wl_icmp_ge 217 dL_rests_153 (by decide) (fun q1 => ?_) (fun q1 => ?_)
  · have q2 : ¬ i < 30 := fun y => q1 (nlt_ (a := i) (b := 30) y (by omega))
    refine wl_forget [.ref (gB G), .ref B, lvU, lvU, lvU, lvU, lvU] ⟨Or.inl rfl, Or.inl rfl, Or.inr rfl, Or.inr rfl, Or.inr rfl, Or.inr rfl, Or.inl rfl, trivial⟩ ?_
    exact e1 q2
  · have q3 : i < 30 := nlt (a := i) (b := 30) q1 (by omega) (by omega)
    refine wl_aload_n dL_rests_156 rfl ?_
    refine wl_iconst (1 : Int32) dL_rests_157 (by decide) ?_
    refine wl_aload_n dL_rests_158 rfl ?_
    refine wl_bipush (20 : Int32) dL_rests_159 (by decide) ?_
    refine wl_callV (As := [.int (20 : Int32)]) (S := [.int (1 : Int32), .ref B]) (b' := (0, 0)) (b := (0, 0)) dL_rests_161 ML_65 ⟨0, _, rfl⟩ rfl rfl rfl (b00 _) (Nat.le_of_ble_eq_true rfl) ?_
    refine wl_draw (X := X) hs (by show xN X + 0 + 1 < 2 ^ 31; omega) (by decide) (fun v4 hv5 => ?_)
    have hv5 : v4 < 20 := by have := hv5; rw [show (20 : Int32).toInt = 20 from by decide] at this; omega
    show WZ G (d + 20) (0, 0) μL_rests 164 [.ref (gB G), .ref B, .int (nI n), .int lo, .int hi, .int (nI i), lvU] [.int (nI v4), .int (1 : Int32), .ref B] (lm G Λ (xN X + 1, xP X, xW X, xR X) [] m [(B, mc)]) Q
    refine wl_iaddv (nI (1 + v4)) dL_rests_164 (nadd rfl) ?_
    refine wl_callX (As := [.int (nI (1 + v4))]) (S := []) [(lB Λ, m)] [] dL_rests_165 ML_153 rfl rfl (Nat.le_of_ble_eq_true rfl) ?_
    refine a_run (i := 1 + v4) hD (by omega) (by omega) (g1 q3 v4 hv5) (fun m6 hC7 => ?_)
    show WZ G (d + 20) (0, 0) μL_rests 168 [.ref (gB G), .ref B, .int (nI n), .int lo, .int hi, .int (nI i), lvU] [.int (vcs (aS C) (1 + v4))] (lm G Λ (xN X + 1, xP X, xW X, xR X) [] m [(B, m6)]) Q
    refine wl_if_eq 173 dL_rests_168 (by decide) (fun _ => ?_) (fun z => absurd (k1 _ (by omega)) z)
    refine wl_iconst (0 : Int32) dL_rests_173 (by decide) ?_
    refine wl_istore dL_rests_174 (by decide) rfl ?_
    exact e2 q3 v4 hv5 m6 hC7

theorem re_4 {G : Cx} {d : Nat} {Λ : Lc} {X : Lx} {ext : va_W} {m : Mm} {A : Ab} {ce : List (Nat × Mm)} {Q : Option Value → LM → Prop} {B : Nat} {mc : Mm} {C : Ab} {n i : Nat} {lo hi : Int32} {j : Nat} (hC : CIv (atC G (lB Λ) false) m A) (hD : CIv (atC G B false) mc C) (hn : n ≤ 6) (hj : j ≤ n) (hk : sN (aS C) = n) (k1 : j < n → ¬ (sS (aS C) (11 * j + 21)) < lo ∧ ¬ hi < (sS (aS C) (11 * j + 21)))
    (e1 : ¬ j < n → WZ G (d + 20) (0, 0) μL_rests 149 [.ref (gB G), .ref B, .int (nI n), .int lo, .int hi, .int (nI (i + 1)), lvU] [] (lm G Λ X [] m [(B, mc)]) Q)
    (e2 : j < n → WZ G (d + 20) (0, 0) μL_rests 176 [.ref (gB G), .ref B, .int (nI n), .int lo, .int hi, .int (nI i), .int (nI (j + 1))] [] (lm G Λ X [] m [(B, mc)]) Q) :
    WZ G (d + 20) (0, 0) μL_rests 176 [.ref (gB G), .ref B, .int (nI n), .int lo, .int hi, .int (nI i), .int (nI j)] [] (lm G Λ X [] m [(B, mc)]) Q := by
  have hn12 := hC.nn.2
  have hl6 := hC.nl.2
  have hh8 := hC.nh.2
  have hn12c := hD.nn.2
  refine wl_iload dL_rests_176 rfl ?_
  refine wl_iload_n dL_rests_178 rfl ?_
  refine wl_icmp_ge 211 dL_rests_179 (by decide) (fun q1 => ?_) (fun q1 => ?_)
  · have q2 : ¬ j < n := fun y => q1 (nlt_ (a := j) (b := n) y (by omega))
    refine wl_iinc (nI (i + 1)) dL_rests_211 rfl (by decide) (nadd (a := i) (b := 1) rfl) rfl ?_
    refine wl_goto 149 dL_rests_214 (by decide) ?_
    refine wl_forget [.ref (gB G), .ref B, .int (nI n), .int lo, .int hi, .int (nI (i + 1)), lvU] ⟨Or.inl rfl, Or.inl rfl, Or.inl rfl, Or.inl rfl, Or.inl rfl, Or.inl rfl, Or.inr rfl, trivial⟩ ?_
    exact e1 q2
  · have q3 : j < n := nlt (a := j) (b := n) q1 (by omega) (by omega)
    refine wl_aload_n dL_rests_182 rfl ?_
    refine wl_iload dL_rests_183 rfl ?_
    refine wl_callX (As := [.int (nI j)]) (S := []) [(lB Λ, m)] [] dL_rests_185 ML_168 rfl rfl (Nat.le_of_ble_eq_true rfl) ?_
    refine a_temperature (i := j) hD (by omega) ?_
    show WZ G (d + 20) (0, 0) μL_rests 188 [.ref (gB G), .ref B, .int (nI n), .int lo, .int hi, .int (nI i), .int (nI j)] [.int (sS (aS C) (11 * j + 21))] (lm G Λ X [] m [(B, mc)]) Q
    refine wl_iload_n dL_rests_188 rfl ?_
    refine wl_icmp_lt 203 dL_rests_189 (by decide) (fun z => absurd z ((k1 q3).1)) (fun _ => ?_)
    refine wl_aload_n dL_rests_192 rfl ?_
    refine wl_iload dL_rests_193 rfl ?_
    refine wl_callX (As := [.int (nI j)]) (S := []) [(lB Λ, m)] [] dL_rests_195 ML_168 rfl rfl (Nat.le_of_ble_eq_true rfl) ?_
    refine a_temperature (i := j) hD (by omega) ?_
    show WZ G (d + 20) (0, 0) μL_rests 198 [.ref (gB G), .ref B, .int (nI n), .int lo, .int hi, .int (nI i), .int (nI j)] [.int (sS (aS C) (11 * j + 21))] (lm G Λ X [] m [(B, mc)]) Q
    refine wl_iload dL_rests_198 rfl ?_
    refine wl_icmp_le 205 dL_rests_200 (by decide) (fun _ => ?_) (fun z => absurd z ((k1 q3).2))
    refine wl_iinc (nI (j + 1)) dL_rests_205 rfl (by decide) (nadd (a := j) (b := 1) rfl) rfl ?_
    refine wl_goto 176 dL_rests_208 (by decide) ?_
    exact e2 q3

theorem re_5 {G : Cx} {d : Nat} {Λ : Lc} {X : Lx} {ext : va_W} {m : Mm} {A : Ab} {ce : List (Nat × Mm)} {Q : Option Value → LM → Prop} {B : Nat} {mc : Mm} {C : Ab} {sv : Sc} (hC : CIv (atC G (lB Λ) false) m A) (hD : CIv (atC G B false) mc C) (k1 : sE (aS C) 0 = 0 ∧ sE (aS C) 1 = 0 ∧ sE (aS C) 2 = 0)
    (g1 : aV A 0 = some sv)
    (e1 : ∀ m1 : Mm, CIv (atC G (lB Λ) false) m1 ((sv, (A).2) : Ab) → Q (some (.int (1 : Int32))) (lm G Λ X [] m1 [(B, mc)])) :
    WZ G (d + 20) (0, 0) μL_rests 217 [.ref (gB G), .ref B, lvU, lvU, lvU, lvU, lvU] [] (lm G Λ X [] m [(B, mc)]) Q := by
  have hn12 := hC.nn.2
  have hl6 := hC.nl.2
  have hh8 := hC.nh.2
  have hn12c := hD.nn.2
  refine wl_aload_n dL_rests_217 rfl ?_
  refine wl_iconst (0 : Int32) dL_rests_218 (by decide) ?_
  refine wl_callX (As := [.int (0 : Int32)]) (S := []) [(lB Λ, m)] [] dL_rests_219 ML_138 rfl rfl (Nat.le_of_ble_eq_true rfl) ?_
  refine a_energy0 hD ?_
  show WZ G (d + 20) (0, 0) μL_rests 222 [.ref (gB G), .ref B, lvU, lvU, lvU, lvU, lvU] [.long (sE (aS C) 0)] (lm G Λ X [] m [(B, mc)]) Q
  refine wl_lconst (0 : Int64) dL_rests_222 (by decide) ?_
  refine wl_lc_ne 262 dL_rests_223 dL_rests_224 (by decide) (fun z => absurd (k1.1) z) (fun _ => ?_)
  refine wl_aload_n dL_rests_227 rfl ?_
  refine wl_iconst (1 : Int32) dL_rests_228 (by decide) ?_
  refine wl_callX (As := [.int (1 : Int32)]) (S := []) [(lB Λ, m)] [] dL_rests_229 ML_138 rfl rfl (Nat.le_of_ble_eq_true rfl) ?_
  refine a_energy1 hD ?_
  show WZ G (d + 20) (0, 0) μL_rests 232 [.ref (gB G), .ref B, lvU, lvU, lvU, lvU, lvU] [.long (sE (aS C) 1)] (lm G Λ X [] m [(B, mc)]) Q
  refine wl_lconst (0 : Int64) dL_rests_232 (by decide) ?_
  refine wl_lc_ne 262 dL_rests_233 dL_rests_234 (by decide) (fun z => absurd (k1.2.1) z) (fun _ => ?_)
  refine wl_aload_n dL_rests_237 rfl ?_
  refine wl_iconst (2 : Int32) dL_rests_238 (by decide) ?_
  refine wl_callX (As := [.int (2 : Int32)]) (S := []) [(lB Λ, m)] [] dL_rests_239 ML_138 rfl rfl (Nat.le_of_ble_eq_true rfl) ?_
  refine a_energy2 hD ?_
  show WZ G (d + 20) (0, 0) μL_rests 242 [.ref (gB G), .ref B, lvU, lvU, lvU, lvU, lvU] [.long (sE (aS C) 2)] (lm G Λ X [] m [(B, mc)]) Q
  refine wl_lconst (0 : Int64) dL_rests_242 (by decide) ?_
  refine wl_lc_ne 262 dL_rests_243 dL_rests_244 (by decide) (fun z => absurd (k1.2.2) z) (fun _ => ?_)
  refine wl_aload_n dL_rests_247 rfl ?_
  refine wl_get 0 (.ref (lB Λ)) dL_rests_248 fL_10 rfl rfl ?_
  refine wl_iconst (0 : Int32) dL_rests_251 (by decide) ?_
  refine wl_callX (As := [.int (0 : Int32)]) (S := []) [] [(B, mc)] dL_rests_252 ML_193 rfl rfl (Nat.le_of_ble_eq_true rfl) ?_
  refine a_restore (s := sv) hC (g1) (fun m1 hC2 => ?_)
  show WZ G (d + 20) (0, 0) μL_rests 255 [.ref (gB G), .ref B, lvU, lvU, lvU, lvU, lvU] [.int (1 : Int32)] (lm G Λ X [] m1 [(B, mc)]) Q
  refine wl_if_eq 262 dL_rests_255 (by decide) (fun z => absurd z (by decide)) (fun _ => ?_)
  refine wl_iconst (1 : Int32) dL_rests_258 (by decide) ?_
  refine wl_goto 263 dL_rests_259 (by decide) ?_
  exact wl_zret dL_rests_263 rfl rfl (e1 m1 hC2)

