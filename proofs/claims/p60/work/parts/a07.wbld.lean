/-! BUILDS: blocks (printed by gen_bld.py) -/
theorem s10 {A : Ab} {x y z w u v x' y' z' w' : Int32} (k1 : sS (aS A) 1 = 10) : (sS (aS (stA (stA A (orbS (sS (aS A)) x y z w u v)) (powS (sS (aS (stA A (orbS (sS (aS A)) x y z w u v)))) x' y' z' w'))) 1) = (10 : Int32) := (powS_ne (st := orbS (sS (aS A)) x y z w u v) (x := x') (y := y') (z := z') (w := w') (k := 1) (by omega)).trans ((orbS_ne (by omega)).trans k1)
theorem bu_0 {G : Cx} {d : Nat} {Λ : Lc} {X : Lx} {ext : va_W} {m : Mm} {A : Ab} {ce : List (Nat × Mm)} {Q : Option Value → LM → Prop}  (hC : CIv (atC G (lB Λ) false) m A) (hs : gSl G ≤ 260) (hx : xN X < 2 ^ 30)
    (e1 : ∀ v1 : Nat, v1 < 12 → WZ G (d + 20) (0, 0) μL_builds 11 [.ref (gB G), .int (nI (1 + v1)), .int (0 : Int32), lvU, lvU, lvU] [] (lm G Λ (xN X + 1, xP X, xW X, xR X) ext m ce) Q) :
    WZM G (d + 20) (0, 0) μL_builds [.ref (gB G)] (lm G Λ X ext m ce) Q := by
  have hn12 := hC.nn.2
  have hl6 := hC.nl.2
  have hh8 := hC.nh.2
  refine WZM.of pL (Nat.le_of_ble_eq_true rfl) rfl ?_
  refine wl_iconst (1 : Int32) dL_builds_0 (by decide) ?_
  refine wl_aload_n dL_builds_1 rfl ?_
  refine wl_bipush (12 : Int32) dL_builds_2 (by decide) ?_
  refine wl_callV (As := [.int (12 : Int32)]) (S := [.int (1 : Int32)]) (b' := (0, 0)) (b := (0, 0)) dL_builds_4 ML_65 ⟨0, _, rfl⟩ rfl rfl rfl (b00 _) (Nat.le_of_ble_eq_true rfl) ?_
  refine wl_draw (X := X) hs (by show xN X + 0 + 1 < 2 ^ 31; omega) (by decide) (fun v1 hv2 => ?_)
  have hv2 : v1 < 12 := by have := hv2; rw [show (12 : Int32).toInt = 12 from by decide] at this; omega
  show WZ G (d + 20) (0, 0) μL_builds 7 [.ref (gB G), lvU, lvU, lvU, lvU, lvU] [.int (nI v1), .int (1 : Int32)] (lm G Λ (xN X + 1, xP X, xW X, xR X) ext m ce) Q
  refine wl_iaddv (nI (1 + v1)) dL_builds_7 (nadd rfl) ?_
  refine wl_istore_n dL_builds_8 (by decide) rfl ?_
  refine wl_iconst (0 : Int32) dL_builds_9 (by decide) ?_
  refine wl_istore_n dL_builds_10 (by decide) rfl ?_
  exact e1 v1 hv2

theorem bu_1 {G : Cx} {d : Nat} {Λ : Lc} {X : Lx} {ext : va_W} {m : Mm} {A : Ab} {ce : List (Nat × Mm)} {Q : Option Value → LM → Prop} {n i : Nat} (hC : CIv (atC G (lB Λ) false) m A) (hs : gSl G ≤ 260) (hx : xN X < 2 ^ 30) (hn1 : 1 ≤ n) (hn2 : n ≤ 12) (hi : i ≤ n) (hk : sN (aS A) = i)
    (e1 : ¬ i < n → WZ G (d + 20) (0, 0) μL_builds 76 [.ref (gB G), .int (nI n), lvU, lvU, lvU, lvU] [] (lm G Λ X ext m ce) Q)
    (e2 : i < n → ∀ v4 : Nat, v4 < 3000 → ∀ v6 : Nat, v6 < 60001 → ∀ v8 : Nat, v8 < 400 → ∀ v10 : Nat, v10 < 400 → ∀ v12 : Nat, v12 < 9000 → ∀ m14 : Mm, CIv (atC G (lB Λ) false) m14 (((adN (sS (aS A)) (sN (aS A)) (nI (50 + v4)) ((nI v6) - (30000 : Int32)) (nI v8) (nI v10) (nI v12), sE (aS A), sN (aS A) + 1, (aS A).2.2.2), (A).2) : Ab) → sN (aS A) = i → WZ G (d + 20) (0, 0) μL_builds 11 [.ref (gB G), .int (nI n), .int (nI (i + 1)), lvU, lvU, lvU] [] (lm G Λ (xN X + 5, xP X, xW X, xR X) ext m14 ce) Q)
    (e3 : i < n → ∀ v4 : Nat, v4 < 3000 → ∀ v6 : Nat, v6 < 60001 → ∀ v8 : Nat, v8 < 400 → ∀ v10 : Nat, v10 < 400 → ∀ v12 : Nat, v12 < 9000 → ∀ m14 : Mm, CIv (atC G (lB Λ) false) m14 (((adN (sS (aS A)) (sN (aS A)) (nI (50 + v4)) ((nI v6) - (30000 : Int32)) (nI v8) (nI v10) (nI v12), sE (aS A), sN (aS A) + 1, (aS A).2.2.2), (A).2) : Ab) → ¬ sN (aS A) = i → Q (some (.int (0 : Int32))) (lm G Λ (xN X + 5, xP X, xW X, xR X) ext m14 ce)) :
    WZ G (d + 20) (0, 0) μL_builds 11 [.ref (gB G), .int (nI n), .int (nI i), lvU, lvU, lvU] [] (lm G Λ X ext m ce) Q := by
  have hn12 := hC.nn.2
  have hl6 := hC.nl.2
  have hh8 := hC.nh.2
  refine wl_iload_n dL_builds_11 rfl ?_
  refine wl_iload_n dL_builds_12 rfl ?_
  refine wl_icmp_ge 76 dL_builds_13 (by decide) (fun q1 => ?_) (fun q1 => ?_)
  · have q2 : ¬ i < n := fun y => q1 (nlt_ (a := i) (b := n) y (by omega))
    refine wl_forget [.ref (gB G), .int (nI n), lvU, lvU, lvU, lvU] ⟨Or.inl rfl, Or.inl rfl, Or.inr rfl, Or.inl rfl, Or.inl rfl, Or.inl rfl, trivial⟩ ?_
    exact e1 q2
  · have q3 : i < n := nlt (a := i) (b := n) q1 (by omega) (by omega)
    refine wl_aload_n dL_builds_16 rfl ?_
    refine wl_get 0 (.ref (lB Λ)) dL_builds_17 fL_10 rfl rfl ?_
    refine wl_bipush (50 : Int32) dL_builds_20 (by decide) ?_
    refine wl_aload_n dL_builds_22 rfl ?_
    refine wl_sipush (3000 : Int32) dL_builds_23 (by decide) ?_
    refine wl_callV (As := [.int (3000 : Int32)]) (S := [.int (50 : Int32), .ref (lB Λ)]) (b' := (0, 0)) (b := (0, 0)) dL_builds_26 ML_65 ⟨0, _, rfl⟩ rfl rfl rfl (b00 _) (Nat.le_of_ble_eq_true rfl) ?_
    refine wl_draw (X := X) hs (by show xN X + 0 + 1 < 2 ^ 31; omega) (by decide) (fun v4 hv5 => ?_)
    have hv5 : v4 < 3000 := by have := hv5; rw [show (3000 : Int32).toInt = 3000 from by decide] at this; omega
    show WZ G (d + 20) (0, 0) μL_builds 29 [.ref (gB G), .int (nI n), .int (nI i), lvU, lvU, lvU] [.int (nI v4), .int (50 : Int32), .ref (lB Λ)] (lm G Λ (xN X + 1, xP X, xW X, xR X) ext m ce) Q
    refine wl_iaddv (nI (50 + v4)) dL_builds_29 (nadd rfl) ?_
    refine wl_aload_n dL_builds_30 rfl ?_
    refine wl_ldc dL_builds_31 kL_68 ?_
    refine wl_callV (As := [.int (60001 : Int32)]) (S := [.int (nI (50 + v4)), .ref (lB Λ)]) (b' := (0, 0)) (b := (0, 0)) dL_builds_33 ML_65 ⟨0, _, rfl⟩ rfl rfl rfl (b00 _) (Nat.le_of_ble_eq_true rfl) ?_
    refine wl_draw (X := (xN X + 1, xP X, xW X, xR X)) hs (by show xN X + 1 + 1 < 2 ^ 31; omega) (by decide) (fun v6 hv7 => ?_)
    have hv7 : v6 < 60001 := by have := hv7; rw [show (60001 : Int32).toInt = 60001 from by decide] at this; omega
    show WZ G (d + 20) (0, 0) μL_builds 36 [.ref (gB G), .int (nI n), .int (nI i), lvU, lvU, lvU] [.int (nI v6), .int (nI (50 + v4)), .ref (lB Λ)] (lm G Λ (xN X + 2, xP X, xW X, xR X) ext m ce) Q
    refine wl_sipush (30000 : Int32) dL_builds_36 (by decide) ?_
    refine wl_isub dL_builds_39 ?_
    refine wl_aload_n dL_builds_40 rfl ?_
    refine wl_sipush (400 : Int32) dL_builds_41 (by decide) ?_
    refine wl_callV (As := [.int (400 : Int32)]) (S := [.int ((nI v6) - (30000 : Int32)), .int (nI (50 + v4)), .ref (lB Λ)]) (b' := (0, 0)) (b := (0, 0)) dL_builds_44 ML_65 ⟨0, _, rfl⟩ rfl rfl rfl (b00 _) (Nat.le_of_ble_eq_true rfl) ?_
    refine wl_draw (X := (xN X + 2, xP X, xW X, xR X)) hs (by show xN X + 2 + 1 < 2 ^ 31; omega) (by decide) (fun v8 hv9 => ?_)
    have hv9 : v8 < 400 := by have := hv9; rw [show (400 : Int32).toInt = 400 from by decide] at this; omega
    show WZ G (d + 20) (0, 0) μL_builds 47 [.ref (gB G), .int (nI n), .int (nI i), lvU, lvU, lvU] [.int (nI v8), .int ((nI v6) - (30000 : Int32)), .int (nI (50 + v4)), .ref (lB Λ)] (lm G Λ (xN X + 3, xP X, xW X, xR X) ext m ce) Q
    refine wl_aload_n dL_builds_47 rfl ?_
    refine wl_sipush (400 : Int32) dL_builds_48 (by decide) ?_
    refine wl_callV (As := [.int (400 : Int32)]) (S := [.int (nI v8), .int ((nI v6) - (30000 : Int32)), .int (nI (50 + v4)), .ref (lB Λ)]) (b' := (0, 0)) (b := (0, 0)) dL_builds_51 ML_65 ⟨0, _, rfl⟩ rfl rfl rfl (b00 _) (Nat.le_of_ble_eq_true rfl) ?_
    refine wl_draw (X := (xN X + 3, xP X, xW X, xR X)) hs (by show xN X + 3 + 1 < 2 ^ 31; omega) (by decide) (fun v10 hv11 => ?_)
    have hv11 : v10 < 400 := by have := hv11; rw [show (400 : Int32).toInt = 400 from by decide] at this; omega
    show WZ G (d + 20) (0, 0) μL_builds 54 [.ref (gB G), .int (nI n), .int (nI i), lvU, lvU, lvU] [.int (nI v10), .int (nI v8), .int ((nI v6) - (30000 : Int32)), .int (nI (50 + v4)), .ref (lB Λ)] (lm G Λ (xN X + 4, xP X, xW X, xR X) ext m ce) Q
    refine wl_aload_n dL_builds_54 rfl ?_
    refine wl_sipush (9000 : Int32) dL_builds_55 (by decide) ?_
    refine wl_callV (As := [.int (9000 : Int32)]) (S := [.int (nI v10), .int (nI v8), .int ((nI v6) - (30000 : Int32)), .int (nI (50 + v4)), .ref (lB Λ)]) (b' := (0, 0)) (b := (0, 0)) dL_builds_58 ML_65 ⟨0, _, rfl⟩ rfl rfl rfl (b00 _) (Nat.le_of_ble_eq_true rfl) ?_
    refine wl_draw (X := (xN X + 4, xP X, xW X, xR X)) hs (by show xN X + 4 + 1 < 2 ^ 31; omega) (by decide) (fun v12 hv13 => ?_)
    have hv13 : v12 < 9000 := by have := hv13; rw [show (9000 : Int32).toInt = 9000 from by decide] at this; omega
    show WZ G (d + 20) (0, 0) μL_builds 61 [.ref (gB G), .int (nI n), .int (nI i), lvU, lvU, lvU] [.int (nI v12), .int (nI v10), .int (nI v8), .int ((nI v6) - (30000 : Int32)), .int (nI (50 + v4)), .ref (lB Λ)] (lm G Λ (xN X + 5, xP X, xW X, xR X) ext m ce) Q
    refine wl_callX (As := [.int (nI (50 + v4)), .int ((nI v6) - (30000 : Int32)), .int (nI v8), .int (nI v10), .int (nI v12)]) (S := []) [] ce dL_builds_61 ML_69 rfl rfl (Nat.le_of_ble_eq_true rfl) ?_
    refine a_addNode hC (by omega) (rgn (by omega) (by omega) (by omega)) (rgs (v := v6) (c := 30000) (by omega) (by omega) (by omega) (by omega)) (rgn (by omega) (by omega) (by omega)) (rgn (by omega) (by omega) (by omega)) (rgn (by omega) (by omega) (by omega)) (fun m14 hC15 => ?_)
    show WZ G (d + 20) (0, 0) μL_builds 64 [.ref (gB G), .int (nI n), .int (nI i), lvU, lvU, lvU] [.int (nI (sN (aS A)))] (lm G Λ (xN X + 5, xP X, xW X, xR X) ext m14 ce) Q
    refine wl_iload_n dL_builds_64 rfl ?_
    refine wl_icmp_eq 70 dL_builds_65 (by decide) (fun q16 => ?_) (fun q16 => ?_)
    · have q17 : sN (aS A) = i := neq (a := sN (aS A)) (b := i) q16 (by omega) (by omega)
      refine wl_iinc (nI (i + 1)) dL_builds_70 rfl (by decide) (nadd (a := i) (b := 1) rfl) rfl ?_
      refine wl_goto 11 dL_builds_73 (by decide) ?_
      exact e2 q3 v4 hv5 v6 hv7 v8 hv9 v10 hv11 v12 hv13 m14 hC15 q17
    · have q18 : ¬ sN (aS A) = i := fun y => q16 (congrArg nI (y : sN (aS A) = i))
      refine wl_iconst (0 : Int32) dL_builds_68 (by decide) ?_
      exact wl_zret dL_builds_69 rfl rfl (e3 q3 v4 hv5 v6 hv7 v8 hv9 v10 hv11 v12 hv13 m14 hC15 q18)

theorem bu_2 {G : Cx} {d : Nat} {Λ : Lc} {X : Lx} {ext : va_W} {m : Mm} {A : Ab} {ce : List (Nat × Mm)} {Q : Option Value → LM → Prop} {n i : Nat} (hC : CIv (atC G (lB Λ) false) m A) (hs : gSl G ≤ 260) (hx : xN X < 2 ^ 30)
    (e1 : ∀ v1 : Nat, v1 < 20 → WZ G (d + 20) (0, 0) μL_builds 83 [.ref (gB G), .int (nI n), .int (nI v1), lvU, lvU, lvU] [] (lm G Λ (xN X + 1, xP X, xW X, xR X) ext m ce) Q) :
    WZ G (d + 20) (0, 0) μL_builds 76 [.ref (gB G), .int (nI n), lvU, lvU, lvU, lvU] [] (lm G Λ X ext m ce) Q := by
  have hn12 := hC.nn.2
  have hl6 := hC.nl.2
  have hh8 := hC.nh.2
  refine wl_aload_n dL_builds_76 rfl ?_
  refine wl_bipush (20 : Int32) dL_builds_77 (by decide) ?_
  refine wl_callV (As := [.int (20 : Int32)]) (S := []) (b' := (0, 0)) (b := (0, 0)) dL_builds_79 ML_65 ⟨0, _, rfl⟩ rfl rfl rfl (b00 _) (Nat.le_of_ble_eq_true rfl) ?_
  refine wl_draw (X := X) hs (by show xN X + 0 + 1 < 2 ^ 31; omega) (by decide) (fun v1 hv2 => ?_)
  have hv2 : v1 < 20 := by have := hv2; rw [show (20 : Int32).toInt = 20 from by decide] at this; omega
  show WZ G (d + 20) (0, 0) μL_builds 82 [.ref (gB G), .int (nI n), lvU, lvU, lvU, lvU] [.int (nI v1)] (lm G Λ (xN X + 1, xP X, xW X, xR X) ext m ce) Q
  refine wl_istore_n dL_builds_82 (by decide) rfl ?_
  exact e1 v1 hv2

theorem bu_3 {G : Cx} {d : Nat} {Λ : Lc} {X : Lx} {ext : va_W} {m : Mm} {A : Ab} {ce : List (Nat × Mm)} {Q : Option Value → LM → Prop} {n i : Nat} (hC : CIv (atC G (lB Λ) false) m A) (hs : gSl G ≤ 260) (hx : xN X < 2 ^ 30) (hn1 : 1 ≤ n) (hn2 : n ≤ 12) (hk : sN (aS A) = n) (hi : i < 100) (hl : ∀ a b, ¬ lkV a b (sK (aS A)) < 0)
    (e1 : ¬ 0 < i + 1 → WZ G (d + 20) (0, 0) μL_builds 167 [.ref (gB G), .int (nI n), .int (0 : Int32), lvU, lvU, lvU] [] (lm G Λ X ext m ce) Q)
    (e2 : 0 < i + 1 → ∀ v4 : Nat, v4 < n → ∀ v6 : Nat, v6 < n → ∀ v8 : Nat, v8 < 3000 → v4 = v6 → WZ G (d + 20) (0, 0) μL_builds 83 [.ref (gB G), .int (nI n), .int (nI i), lvU, lvU, lvU] [] (lm G Λ (xN X + 3, xP X, xW X, xR X) ext m ce) Q)
    (e3 : 0 < i + 1 → ∀ v4 : Nat, v4 < n → ∀ v6 : Nat, v6 < n → ∀ v8 : Nat, v8 < 3000 → ¬ v4 = v6 → ¬ (sK (aS A)).length < 24 → WZ G (d + 20) (0, 0) μL_builds 83 [.ref (gB G), .int (nI n), .int (nI i), lvU, lvU, lvU] [] (lm G Λ (xN X + 3, xP X, xW X, xR X) ext m ce) Q)
    (e4 : 0 < i + 1 → ∀ v4 : Nat, v4 < n → ∀ v6 : Nat, v6 < n → ∀ v8 : Nat, v8 < 3000 → ¬ v4 = v6 → (sK (aS A)).length < 24 → ∀ m18 : Mm, ∀ l16 : List Lk, CIv (atC G (lB Λ) false) m18 (lnA A v4 v6 (nI v8) l16) → lkV v4 v6 l16 = (nI v8) → WZ G (d + 20) (0, 0) μL_builds 83 [.ref (gB G), .int (nI n), .int (nI i), lvU, lvU, lvU] [] (lm G Λ (xN X + 3, xP X, xW X, xR X) ext m18 ce) Q) :
    WZ G (d + 20) (0, 0) μL_builds 83 [.ref (gB G), .int (nI n), .int (nI (i + 1)), lvU, lvU, lvU] [] (lm G Λ X ext m ce) Q := by
  have hn12 := hC.nn.2
  have hl6 := hC.nl.2
  have hh8 := hC.nh.2
  have hk24 := hC.cr.2.1.2.1
  refine wl_iload_n dL_builds_83 rfl ?_
  refine wl_if_le 165 dL_builds_84 (by decide) (fun q1 => ?_) (fun q1 => ?_)
  · have q2 : ¬ 0 < i + 1 := fun y => q1 (nlt_ (a := 0) (b := i + 1) y (by omega))
    refine wl_iconst (0 : Int32) dL_builds_165 (by decide) ?_
    refine wl_istore_n dL_builds_166 (by decide) rfl ?_
    exact e1 q2
  · have q3 : 0 < i + 1 := nlt (a := 0) (b := i + 1) q1 (by omega) (by omega)
    refine wl_aload_n dL_builds_87 rfl ?_
    refine wl_iload_n dL_builds_88 rfl ?_
    refine wl_callV (As := [.int (nI n)]) (S := []) (b' := (0, 0)) (b := (0, 0)) dL_builds_89 ML_65 ⟨0, _, rfl⟩ rfl rfl rfl (b00 _) (Nat.le_of_ble_eq_true rfl) ?_
    refine wl_draw (X := X) hs (by show xN X + 0 + 1 < 2 ^ 31; omega) (by rw [nI_toInt (by omega)]; omega) (fun v4 hv5 => ?_)
    have hv5 : v4 < n := by have := hv5; rw [nI_toInt (by omega)] at this; omega
    show WZ G (d + 20) (0, 0) μL_builds 92 [.ref (gB G), .int (nI n), .int (nI (i + 1)), lvU, lvU, lvU] [.int (nI v4)] (lm G Λ (xN X + 1, xP X, xW X, xR X) ext m ce) Q
    refine wl_istore_n dL_builds_92 (by decide) rfl ?_
    refine wl_aload_n dL_builds_93 rfl ?_
    refine wl_iload_n dL_builds_94 rfl ?_
    refine wl_callV (As := [.int (nI n)]) (S := []) (b' := (0, 0)) (b := (0, 0)) dL_builds_95 ML_65 ⟨0, _, rfl⟩ rfl rfl rfl (b00 _) (Nat.le_of_ble_eq_true rfl) ?_
    refine wl_draw (X := (xN X + 1, xP X, xW X, xR X)) hs (by show xN X + 1 + 1 < 2 ^ 31; omega) (by rw [nI_toInt (by omega)]; omega) (fun v6 hv7 => ?_)
    have hv7 : v6 < n := by have := hv7; rw [nI_toInt (by omega)] at this; omega
    show WZ G (d + 20) (0, 0) μL_builds 98 [.ref (gB G), .int (nI n), .int (nI (i + 1)), .int (nI v4), lvU, lvU] [.int (nI v6)] (lm G Λ (xN X + 2, xP X, xW X, xR X) ext m ce) Q
    refine wl_istore dL_builds_98 (by decide) rfl ?_
    refine wl_aload_n dL_builds_100 rfl ?_
    refine wl_sipush (3000 : Int32) dL_builds_101 (by decide) ?_
    refine wl_callV (As := [.int (3000 : Int32)]) (S := []) (b' := (0, 0)) (b := (0, 0)) dL_builds_104 ML_65 ⟨0, _, rfl⟩ rfl rfl rfl (b00 _) (Nat.le_of_ble_eq_true rfl) ?_
    refine wl_draw (X := (xN X + 2, xP X, xW X, xR X)) hs (by show xN X + 2 + 1 < 2 ^ 31; omega) (by decide) (fun v8 hv9 => ?_)
    have hv9 : v8 < 3000 := by have := hv9; rw [show (3000 : Int32).toInt = 3000 from by decide] at this; omega
    show WZ G (d + 20) (0, 0) μL_builds 107 [.ref (gB G), .int (nI n), .int (nI (i + 1)), .int (nI v4), .int (nI v6), lvU] [.int (nI v8)] (lm G Λ (xN X + 3, xP X, xW X, xR X) ext m ce) Q
    refine wl_istore dL_builds_107 (by decide) rfl ?_
    refine wl_iload_n dL_builds_109 rfl ?_
    refine wl_iload dL_builds_110 rfl ?_
    refine wl_icmp_eq 159 dL_builds_112 (by decide) (fun q10 => ?_) (fun q10 => ?_)
    · have q11 : v4 = v6 := neq (a := v4) (b := v6) q10 (by omega) (by omega)
      refine wl_iinc (nI i) dL_builds_159 rfl (by decide) (ndec rfl) rfl ?_
      refine wl_goto 83 dL_builds_162 (by decide) ?_
      refine wl_forget [.ref (gB G), .int (nI n), .int (nI i), lvU, lvU, lvU] ⟨Or.inl rfl, Or.inl rfl, Or.inl rfl, Or.inr rfl, Or.inr rfl, Or.inr rfl, trivial⟩ ?_
      exact e2 q3 v4 hv5 v6 hv7 v8 hv9 q11
    · have q12 : ¬ v4 = v6 := fun y => q10 (congrArg nI (y : v4 = v6))
      refine wl_aload_n dL_builds_115 rfl ?_
      refine wl_get 0 (.ref (lB Λ)) dL_builds_116 fL_10 rfl rfl ?_
      refine wl_callX (As := []) (S := []) [] ce dL_builds_119 ML_73 rfl rfl (Nat.le_of_ble_eq_true rfl) ?_
      refine a_linkCount hC ?_
      show WZ G (d + 20) (0, 0) μL_builds 122 [.ref (gB G), .int (nI n), .int (nI (i + 1)), .int (nI v4), .int (nI v6), .int (nI v8)] [.int (nI ((sK (aS A)).length))] (lm G Λ (xN X + 3, xP X, xW X, xR X) ext m ce) Q
      refine wl_bipush (24 : Int32) dL_builds_122 (by decide) ?_
      refine wl_icmp_ge 159 dL_builds_124 (by decide) (fun q13 => ?_) (fun q13 => ?_)
      · have q14 : ¬ (sK (aS A)).length < 24 := fun y => q13 (nlt_ (a := (sK (aS A)).length) (b := 24) y (by omega))
        refine wl_iinc (nI i) dL_builds_159 rfl (by decide) (ndec rfl) rfl ?_
        refine wl_goto 83 dL_builds_162 (by decide) ?_
        refine wl_forget [.ref (gB G), .int (nI n), .int (nI i), lvU, lvU, lvU] ⟨Or.inl rfl, Or.inl rfl, Or.inl rfl, Or.inr rfl, Or.inr rfl, Or.inr rfl, trivial⟩ ?_
        exact e3 q3 v4 hv5 v6 hv7 v8 hv9 q12 q14
      · have q15 : (sK (aS A)).length < 24 := nlt (a := (sK (aS A)).length) (b := 24) q13 (by omega) (by omega)
        refine wl_aload_n dL_builds_127 rfl ?_
        refine wl_get 0 (.ref (lB Λ)) dL_builds_128 fL_10 rfl rfl ?_
        refine wl_iload_n dL_builds_131 rfl ?_
        refine wl_iload dL_builds_132 rfl ?_
        refine wl_iload dL_builds_134 rfl ?_
        refine wl_callX (As := [.int (nI v4), .int (nI v6), .int (nI v8)]) (S := []) [] ce dL_builds_136 ML_76 rfl rfl (Nat.le_of_ble_eq_true rfl) ?_
        refine a_link (j := v4) (q := v6) hC (by omega) (by omega) (by omega) (rgn (by omega) (by omega) (by omega)) (by omega) (fun m18 l16 hC19 hl17 => ?_)
        show WZ G (d + 20) (0, 0) μL_builds 139 [.ref (gB G), .int (nI n), .int (nI (i + 1)), .int (nI v4), .int (nI v6), .int (nI v8)] [.int (lkV v4 v6 (sK (aS A)))] (lm G Λ (xN X + 3, xP X, xW X, xR X) ext m18 ce) Q
        refine wl_if_lt 157 dL_builds_139 (by decide) (fun z => absurd z (hl _ _)) (fun _ => ?_)
        refine wl_aload_n dL_builds_142 rfl ?_
        refine wl_get 0 (.ref (lB Λ)) dL_builds_143 fL_10 rfl rfl ?_
        refine wl_iload dL_builds_146 rfl ?_
        refine wl_iload_n dL_builds_148 rfl ?_
        refine wl_callX (As := [.int (nI v6), .int (nI v4)]) (S := []) [] ce dL_builds_149 ML_80 rfl rfl (Nat.le_of_ble_eq_true rfl) ?_
        refine a_conductance (j := v6) (q := v4) hC19 (by show v6 < sN (aS _); first | omega | (show v6 < sN (aS A); omega)) (by show v4 < sN (aS _); first | omega | (show v4 < sN (aS A); omega)) ?_
        show WZ G (d + 20) (0, 0) μL_builds 152 [.ref (gB G), .int (nI n), .int (nI (i + 1)), .int (nI v4), .int (nI v6), .int (nI v8)] [.int (lkV v6 v4 (sK (aS (lnA A v4 v6 (nI v8) l16))))] (lm G Λ (xN X + 3, xP X, xW X, xR X) ext m18 ce) Q
        refine wl_iload dL_builds_152 rfl ?_
        refine wl_icmp_eq 159 dL_builds_154 (by decide) (fun _ => ?_) (fun z => absurd ((lkV_sym _ _ _).trans hl17) z)
        refine wl_iinc (nI i) dL_builds_159 rfl (by decide) (ndec rfl) rfl ?_
        refine wl_goto 83 dL_builds_162 (by decide) ?_
        refine wl_forget [.ref (gB G), .int (nI n), .int (nI i), lvU, lvU, lvU] ⟨Or.inl rfl, Or.inl rfl, Or.inl rfl, Or.inr rfl, Or.inr rfl, Or.inr rfl, trivial⟩ ?_
        exact e4 q3 v4 hv5 v6 hv7 v8 hv9 q12 q15 m18 l16 hC19 hl17

theorem bu_3z {G : Cx} {d : Nat} {Λ : Lc} {X : Lx} {ext : va_W} {m : Mm} {A : Ab} {ce : List (Nat × Mm)} {Q : Option Value → LM → Prop} {n i : Nat} (hC : CIv (atC G (lB Λ) false) m A) 
    (e1 : WZ G (d + 20) (0, 0) μL_builds 167 [.ref (gB G), .int (nI n), .int (0 : Int32), lvU, lvU, lvU] [] (lm G Λ X ext m ce) Q) :
    WZ G (d + 20) (0, 0) μL_builds 83 [.ref (gB G), .int (nI n), .int (0 : Int32), lvU, lvU, lvU] [] (lm G Λ X ext m ce) Q := by
  have hn12 := hC.nn.2
  have hl6 := hC.nl.2
  have hh8 := hC.nh.2
  refine wl_iload_n dL_builds_83 rfl ?_
  refine wl_if_le 165 dL_builds_84 (by decide) (fun _ => ?_) (fun z => absurd z (by decide))
  refine wl_iconst (0 : Int32) dL_builds_165 (by decide) ?_
  refine wl_istore_n dL_builds_166 (by decide) rfl ?_
  exact e1

theorem bu_4 {G : Cx} {d : Nat} {Λ : Lc} {X : Lx} {ext : va_W} {m : Mm} {A : Ab} {ce : List (Nat × Mm)} {Q : Option Value → LM → Prop} {n i : Nat} (hC : CIv (atC G (lB Λ) false) m A) (hs : gSl G ≤ 260) (hx : xN X < 2 ^ 30) (hn1 : 1 ≤ n) (hn2 : n ≤ 12) (hk : sN (aS A) = n) (hi : i ≤ 6) (hq : sL (aS A) = i)
    (e1 : ¬ i < 6 → WZ G (d + 20) (0, 0) μL_builds 253 [.ref (gB G), .int (nI n), .int (0 : Int32), lvU, lvU, lvU] [] (lm G Λ X ext m ce) Q)
    (e2 : i < 6 → ∀ v4 : Nat, v4 < 3 → ¬ 0 < v4 → WZ G (d + 20) (0, 0) μL_builds 253 [.ref (gB G), .int (nI n), .int (0 : Int32), lvU, lvU, lvU] [] (lm G Λ (xN X + 1, xP X, xW X, xR X) ext m ce) Q)
    (e3 : i < 6 → ∀ v4 : Nat, v4 < 3 → 0 < v4 → ∀ v9 : Nat, v9 < 400 → ∀ v11 : Nat, v11 < n → ∀ v13 : Nat, v13 < 3000 → ∀ v15 : Nat, v15 < 9000 → ∀ v17 : Nat, v17 < 9000 → ∀ m19 : Mm, CIv (atC G (lB Λ) false) m19 (((adL (sS (aS A)) (sL (aS A)) (nI v11) (nI v13) (nI v15) (nI (9000 + v17)) (nI (1 + v9)), sE (aS A), sN (aS A), sL (aS A) + 1, (aS A).2.2.2.2), (A).2) : Ab) → sL (aS A) = i → WZ G (d + 20) (0, 0) μL_builds 167 [.ref (gB G), .int (nI n), .int (nI (i + 1)), lvU, lvU, lvU] [] (lm G Λ (xN X + 6, xP X, xW X, upd (xR X) i (nI (1 + v9))) ext m19 ce) Q)
    (e4 : i < 6 → ∀ v4 : Nat, v4 < 3 → 0 < v4 → ∀ v9 : Nat, v9 < 400 → ∀ v11 : Nat, v11 < n → ∀ v13 : Nat, v13 < 3000 → ∀ v15 : Nat, v15 < 9000 → ∀ v17 : Nat, v17 < 9000 → ∀ m19 : Mm, CIv (atC G (lB Λ) false) m19 (((adL (sS (aS A)) (sL (aS A)) (nI v11) (nI v13) (nI v15) (nI (9000 + v17)) (nI (1 + v9)), sE (aS A), sN (aS A), sL (aS A) + 1, (aS A).2.2.2.2), (A).2) : Ab) → ¬ sL (aS A) = i → Q (some (.int (0 : Int32))) (lm G Λ (xN X + 6, xP X, xW X, upd (xR X) i (nI (1 + v9))) ext m19 ce)) :
    WZ G (d + 20) (0, 0) μL_builds 167 [.ref (gB G), .int (nI n), .int (nI i), lvU, lvU, lvU] [] (lm G Λ X ext m ce) Q := by
  have hn12 := hC.nn.2
  have hl6 := hC.nl.2
  have hh8 := hC.nh.2
  refine wl_iload_n dL_builds_167 rfl ?_
  refine wl_bipush (6 : Int32) dL_builds_168 (by decide) ?_
  refine wl_icmp_ge 251 dL_builds_170 (by decide) (fun q1 => ?_) (fun q1 => ?_)
  · have q2 : ¬ i < 6 := fun y => q1 (nlt_ (a := i) (b := 6) y (by omega))
    refine wl_iconst (0 : Int32) dL_builds_251 (by decide) ?_
    refine wl_istore_n dL_builds_252 (by decide) rfl ?_
    exact e1 q2
  · have q3 : i < 6 := nlt (a := i) (b := 6) q1 (by omega) (by omega)
    refine wl_aload_n dL_builds_173 rfl ?_
    refine wl_iconst (3 : Int32) dL_builds_174 (by decide) ?_
    refine wl_callV (As := [.int (3 : Int32)]) (S := []) (b' := (0, 0)) (b := (0, 0)) dL_builds_175 ML_65 ⟨0, _, rfl⟩ rfl rfl rfl (b00 _) (Nat.le_of_ble_eq_true rfl) ?_
    refine wl_draw (X := X) hs (by show xN X + 0 + 1 < 2 ^ 31; omega) (by decide) (fun v4 hv5 => ?_)
    have hv5 : v4 < 3 := by have := hv5; rw [show (3 : Int32).toInt = 3 from by decide] at this; omega
    show WZ G (d + 20) (0, 0) μL_builds 178 [.ref (gB G), .int (nI n), .int (nI i), lvU, lvU, lvU] [.int (nI v4)] (lm G Λ (xN X + 1, xP X, xW X, xR X) ext m ce) Q
    refine wl_if_le 251 dL_builds_178 (by decide) (fun q6 => ?_) (fun q6 => ?_)
    · have q7 : ¬ 0 < v4 := fun y => q6 (nlt_ (a := 0) (b := v4) y (by omega))
      refine wl_iconst (0 : Int32) dL_builds_251 (by decide) ?_
      refine wl_istore_n dL_builds_252 (by decide) rfl ?_
      exact e2 q3 v4 hv5 q7
    · have q8 : 0 < v4 := nlt (a := 0) (b := v4) q6 (by omega) (by omega)
      refine wl_aload_n dL_builds_181 rfl ?_
      refine wl_get 0 (.ref (lR Λ)) dL_builds_182 fL_23 rfl rfl ?_
      refine wl_iload_n dL_builds_185 rfl ?_
      refine wl_iconst (1 : Int32) dL_builds_186 (by decide) ?_
      refine wl_aload_n dL_builds_187 rfl ?_
      refine wl_sipush (400 : Int32) dL_builds_188 (by decide) ?_
      refine wl_callV (As := [.int (400 : Int32)]) (S := [.int (1 : Int32), .int (nI i), .ref (lR Λ)]) (b' := (0, 0)) (b := (0, 0)) dL_builds_191 ML_65 ⟨0, _, rfl⟩ rfl rfl rfl (b00 _) (Nat.le_of_ble_eq_true rfl) ?_
      refine wl_draw (X := (xN X + 1, xP X, xW X, xR X)) hs (by show xN X + 1 + 1 < 2 ^ 31; omega) (by decide) (fun v9 hv10 => ?_)
      have hv10 : v9 < 400 := by have := hv10; rw [show (400 : Int32).toInt = 400 from by decide] at this; omega
      show WZ G (d + 20) (0, 0) μL_builds 194 [.ref (gB G), .int (nI n), .int (nI i), lvU, lvU, lvU] [.int (nI v9), .int (1 : Int32), .int (nI i), .ref (lR Λ)] (lm G Λ (xN X + 2, xP X, xW X, xR X) ext m ce) Q
      refine wl_iaddv (nI (1 + v9)) dL_builds_194 (nadd rfl) ?_
      refine wl_iast (t0 := 1) 3 i (lws G Λ (xN X + 2, xP X, xW X, upd (xR X) i (nI (1 + v9))) ext) dL_builds_195 rfl rfl rfl (by omega) (by omega) rfl ?_
      refine wl_aload_n dL_builds_196 rfl ?_
      refine wl_get 0 (.ref (lB Λ)) dL_builds_197 fL_10 rfl rfl ?_
      refine wl_aload_n dL_builds_200 rfl ?_
      refine wl_iload_n dL_builds_201 rfl ?_
      refine wl_callV (As := [.int (nI n)]) (S := [.ref (lB Λ)]) (b' := (0, 0)) (b := (0, 0)) dL_builds_202 ML_65 ⟨0, _, rfl⟩ rfl rfl rfl (b00 _) (Nat.le_of_ble_eq_true rfl) ?_
      refine wl_draw (X := (xN X + 2, xP X, xW X, upd (xR X) i (nI (1 + v9)))) hs (by show xN X + 2 + 1 < 2 ^ 31; omega) (by rw [nI_toInt (by omega)]; omega) (fun v11 hv12 => ?_)
      have hv12 : v11 < n := by have := hv12; rw [nI_toInt (by omega)] at this; omega
      show WZ G (d + 20) (0, 0) μL_builds 205 [.ref (gB G), .int (nI n), .int (nI i), lvU, lvU, lvU] [.int (nI v11), .ref (lB Λ)] (lm G Λ (xN X + 3, xP X, xW X, upd (xR X) i (nI (1 + v9))) ext m ce) Q
      refine wl_aload_n dL_builds_205 rfl ?_
      refine wl_sipush (3000 : Int32) dL_builds_206 (by decide) ?_
      refine wl_callV (As := [.int (3000 : Int32)]) (S := [.int (nI v11), .ref (lB Λ)]) (b' := (0, 0)) (b := (0, 0)) dL_builds_209 ML_65 ⟨0, _, rfl⟩ rfl rfl rfl (b00 _) (Nat.le_of_ble_eq_true rfl) ?_
      refine wl_draw (X := (xN X + 3, xP X, xW X, upd (xR X) i (nI (1 + v9)))) hs (by show xN X + 3 + 1 < 2 ^ 31; omega) (by decide) (fun v13 hv14 => ?_)
      have hv14 : v13 < 3000 := by have := hv14; rw [show (3000 : Int32).toInt = 3000 from by decide] at this; omega
      show WZ G (d + 20) (0, 0) μL_builds 212 [.ref (gB G), .int (nI n), .int (nI i), lvU, lvU, lvU] [.int (nI v13), .int (nI v11), .ref (lB Λ)] (lm G Λ (xN X + 4, xP X, xW X, upd (xR X) i (nI (1 + v9))) ext m ce) Q
      refine wl_aload_n dL_builds_212 rfl ?_
      refine wl_sipush (9000 : Int32) dL_builds_213 (by decide) ?_
      refine wl_callV (As := [.int (9000 : Int32)]) (S := [.int (nI v13), .int (nI v11), .ref (lB Λ)]) (b' := (0, 0)) (b := (0, 0)) dL_builds_216 ML_65 ⟨0, _, rfl⟩ rfl rfl rfl (b00 _) (Nat.le_of_ble_eq_true rfl) ?_
      refine wl_draw (X := (xN X + 4, xP X, xW X, upd (xR X) i (nI (1 + v9)))) hs (by show xN X + 4 + 1 < 2 ^ 31; omega) (by decide) (fun v15 hv16 => ?_)
      have hv16 : v15 < 9000 := by have := hv16; rw [show (9000 : Int32).toInt = 9000 from by decide] at this; omega
      show WZ G (d + 20) (0, 0) μL_builds 219 [.ref (gB G), .int (nI n), .int (nI i), lvU, lvU, lvU] [.int (nI v15), .int (nI v13), .int (nI v11), .ref (lB Λ)] (lm G Λ (xN X + 5, xP X, xW X, upd (xR X) i (nI (1 + v9))) ext m ce) Q
      refine wl_sipush (9000 : Int32) dL_builds_219 (by decide) ?_
      refine wl_aload_n dL_builds_222 rfl ?_
      refine wl_sipush (9000 : Int32) dL_builds_223 (by decide) ?_
      refine wl_callV (As := [.int (9000 : Int32)]) (S := [.int (9000 : Int32), .int (nI v15), .int (nI v13), .int (nI v11), .ref (lB Λ)]) (b' := (0, 0)) (b := (0, 0)) dL_builds_226 ML_65 ⟨0, _, rfl⟩ rfl rfl rfl (b00 _) (Nat.le_of_ble_eq_true rfl) ?_
      refine wl_draw (X := (xN X + 5, xP X, xW X, upd (xR X) i (nI (1 + v9)))) hs (by show xN X + 5 + 1 < 2 ^ 31; omega) (by decide) (fun v17 hv18 => ?_)
      have hv18 : v17 < 9000 := by have := hv18; rw [show (9000 : Int32).toInt = 9000 from by decide] at this; omega
      show WZ G (d + 20) (0, 0) μL_builds 229 [.ref (gB G), .int (nI n), .int (nI i), lvU, lvU, lvU] [.int (nI v17), .int (9000 : Int32), .int (nI v15), .int (nI v13), .int (nI v11), .ref (lB Λ)] (lm G Λ (xN X + 6, xP X, xW X, upd (xR X) i (nI (1 + v9))) ext m ce) Q
      refine wl_iaddv (nI (9000 + v17)) dL_builds_229 (nadd rfl) ?_
      refine wl_aload_n dL_builds_230 rfl ?_
      refine wl_get 0 (.ref (lR Λ)) dL_builds_231 fL_23 rfl rfl ?_
      refine wl_iload_n dL_builds_234 rfl ?_
      refine wl_iald (t0 := 1) 3 i (nI (1 + v9)) dL_builds_235 rfl rfl rfl (by omega) (by omega) upd_eq ?_
      refine wl_callX (As := [.int (nI v11), .int (nI v13), .int (nI v15), .int (nI (9000 + v17)), .int (nI (1 + v9))]) (S := []) [] ce dL_builds_236 ML_83 rfl rfl (Nat.le_of_ble_eq_true rfl) ?_
      refine a_addLouvre (j := v11) hC (by omega) (by omega) (rgn (by omega) (by omega) (by omega)) (rgn (by omega) (by omega) (by omega)) (by rw [nI_toInt (n := v15) (by omega)]; exact rgn (by omega) (by omega) (by omega)) (rgn (by omega) (by omega) (by omega)) (fun m19 hC20 => ?_)
      show WZ G (d + 20) (0, 0) μL_builds 239 [.ref (gB G), .int (nI n), .int (nI i), lvU, lvU, lvU] [.int (nI (sL (aS A)))] (lm G Λ (xN X + 6, xP X, xW X, upd (xR X) i (nI (1 + v9))) ext m19 ce) Q
      refine wl_iload_n dL_builds_239 rfl ?_
      refine wl_icmp_eq 245 dL_builds_240 (by decide) (fun q21 => ?_) (fun q21 => ?_)
      · have q22 : sL (aS A) = i := neq (a := sL (aS A)) (b := i) q21 (by omega) (by omega)
        refine wl_iinc (nI (i + 1)) dL_builds_245 rfl (by decide) (nadd (a := i) (b := 1) rfl) rfl ?_
        refine wl_goto 167 dL_builds_248 (by decide) ?_
        exact e3 q3 v4 hv5 q8 v9 hv10 v11 hv12 v13 hv14 v15 hv16 v17 hv18 m19 hC20 q22
      · have q23 : ¬ sL (aS A) = i := fun y => q21 (congrArg nI (y : sL (aS A) = i))
        refine wl_iconst (0 : Int32) dL_builds_243 (by decide) ?_
        exact wl_zret dL_builds_244 rfl rfl (e4 q3 v4 hv5 q8 v9 hv10 v11 hv12 v13 hv14 v15 hv16 v17 hv18 m19 hC20 q23)

theorem bu_5 {G : Cx} {d : Nat} {Λ : Lc} {X : Lx} {ext : va_W} {m : Mm} {A : Ab} {ce : List (Nat × Mm)} {Q : Option Value → LM → Prop} {n i : Nat} (hC : CIv (atC G (lB Λ) false) m A) (hs : gSl G ≤ 260) (hx : xN X < 2 ^ 30) (hn1 : 1 ≤ n) (hn2 : n ≤ 12) (hk : sN (aS A) = n) (hi : i ≤ 8) (hq : sH (aS A) = i)
    (e1 : ¬ i < 8 → WZ G (d + 20) (0, 0) μL_builds 346 [.ref (gB G), lvU, lvU, lvU, lvU, lvU] [] (lm G Λ X ext m ce) Q)
    (e2 : i < 8 → ∀ v4 : Nat, v4 < 4 → ¬ 0 < v4 → WZ G (d + 20) (0, 0) μL_builds 346 [.ref (gB G), lvU, lvU, lvU, lvU, lvU] [] (lm G Λ (xN X + 1, xP X, xW X, xR X) ext m ce) Q)
    (e3 : i < 8 → ∀ v4 : Nat, v4 < 4 → 0 < v4 → ∀ v9 : Nat, v9 < 10 → ∀ v11 : Nat, v11 < 6000 → ∀ v13 : Nat, v13 < n → ∀ v15 : Nat, v15 < 9000 → ∀ v17 : Nat, v17 < 9000 → ∀ m19 : Mm, CIv (atC G (lB Λ) false) m19 (((adH (sS (aS A)) (sH (aS A)) (nI v13) (nI v11) ((nI v15) - (9000 : Int32)) (nI v17) (nI v9), sE (aS A), sN (aS A), sL (aS A), sH (aS A) + 1, (aS A).2.2.2.2.2), (A).2) : Ab) → sH (aS A) = i → WZ G (d + 20) (0, 0) μL_builds 253 [.ref (gB G), .int (nI n), .int (nI (i + 1)), lvU, lvU, lvU] [] (lm G Λ (xN X + 6, upd (xP X) i (nI v9), upd (xW X) i (nI v11), xR X) ext m19 ce) Q)
    (e4 : i < 8 → ∀ v4 : Nat, v4 < 4 → 0 < v4 → ∀ v9 : Nat, v9 < 10 → ∀ v11 : Nat, v11 < 6000 → ∀ v13 : Nat, v13 < n → ∀ v15 : Nat, v15 < 9000 → ∀ v17 : Nat, v17 < 9000 → ∀ m19 : Mm, CIv (atC G (lB Λ) false) m19 (((adH (sS (aS A)) (sH (aS A)) (nI v13) (nI v11) ((nI v15) - (9000 : Int32)) (nI v17) (nI v9), sE (aS A), sN (aS A), sL (aS A), sH (aS A) + 1, (aS A).2.2.2.2.2), (A).2) : Ab) → ¬ sH (aS A) = i → Q (some (.int (0 : Int32))) (lm G Λ (xN X + 6, upd (xP X) i (nI v9), upd (xW X) i (nI v11), xR X) ext m19 ce)) :
    WZ G (d + 20) (0, 0) μL_builds 253 [.ref (gB G), .int (nI n), .int (nI i), lvU, lvU, lvU] [] (lm G Λ X ext m ce) Q := by
  have hn12 := hC.nn.2
  have hl6 := hC.nl.2
  have hh8 := hC.nh.2
  refine wl_iload_n dL_builds_253 rfl ?_
  refine wl_bipush (8 : Int32) dL_builds_254 (by decide) ?_
  refine wl_icmp_ge 346 dL_builds_256 (by decide) (fun q1 => ?_) (fun q1 => ?_)
  · have q2 : ¬ i < 8 := fun y => q1 (nlt_ (a := i) (b := 8) y (by omega))
    refine wl_forget [.ref (gB G), lvU, lvU, lvU, lvU, lvU] ⟨Or.inl rfl, Or.inr rfl, Or.inr rfl, Or.inl rfl, Or.inl rfl, Or.inl rfl, trivial⟩ ?_
    exact e1 q2
  · have q3 : i < 8 := nlt (a := i) (b := 8) q1 (by omega) (by omega)
    refine wl_aload_n dL_builds_259 rfl ?_
    refine wl_iconst (4 : Int32) dL_builds_260 (by decide) ?_
    refine wl_callV (As := [.int (4 : Int32)]) (S := []) (b' := (0, 0)) (b := (0, 0)) dL_builds_261 ML_65 ⟨0, _, rfl⟩ rfl rfl rfl (b00 _) (Nat.le_of_ble_eq_true rfl) ?_
    refine wl_draw (X := X) hs (by show xN X + 0 + 1 < 2 ^ 31; omega) (by decide) (fun v4 hv5 => ?_)
    have hv5 : v4 < 4 := by have := hv5; rw [show (4 : Int32).toInt = 4 from by decide] at this; omega
    show WZ G (d + 20) (0, 0) μL_builds 264 [.ref (gB G), .int (nI n), .int (nI i), lvU, lvU, lvU] [.int (nI v4)] (lm G Λ (xN X + 1, xP X, xW X, xR X) ext m ce) Q
    refine wl_if_le 346 dL_builds_264 (by decide) (fun q6 => ?_) (fun q6 => ?_)
    · have q7 : ¬ 0 < v4 := fun y => q6 (nlt_ (a := 0) (b := v4) y (by omega))
      refine wl_forget [.ref (gB G), lvU, lvU, lvU, lvU, lvU] ⟨Or.inl rfl, Or.inr rfl, Or.inr rfl, Or.inl rfl, Or.inl rfl, Or.inl rfl, trivial⟩ ?_
      exact e2 q3 v4 hv5 q7
    · have q8 : 0 < v4 := nlt (a := 0) (b := v4) q6 (by omega) (by omega)
      refine wl_aload_n dL_builds_267 rfl ?_
      refine wl_get 0 (.ref (lP Λ)) dL_builds_268 fL_16 rfl rfl ?_
      refine wl_iload_n dL_builds_271 rfl ?_
      refine wl_aload_n dL_builds_272 rfl ?_
      refine wl_bipush (10 : Int32) dL_builds_273 (by decide) ?_
      refine wl_callV (As := [.int (10 : Int32)]) (S := [.int (nI i), .ref (lP Λ)]) (b' := (0, 0)) (b := (0, 0)) dL_builds_275 ML_65 ⟨0, _, rfl⟩ rfl rfl rfl (b00 _) (Nat.le_of_ble_eq_true rfl) ?_
      refine wl_draw (X := (xN X + 1, xP X, xW X, xR X)) hs (by show xN X + 1 + 1 < 2 ^ 31; omega) (by decide) (fun v9 hv10 => ?_)
      have hv10 : v9 < 10 := by have := hv10; rw [show (10 : Int32).toInt = 10 from by decide] at this; omega
      show WZ G (d + 20) (0, 0) μL_builds 278 [.ref (gB G), .int (nI n), .int (nI i), lvU, lvU, lvU] [.int (nI v9), .int (nI i), .ref (lP Λ)] (lm G Λ (xN X + 2, xP X, xW X, xR X) ext m ce) Q
      refine wl_iast (t0 := 1) 1 i (lws G Λ (xN X + 2, upd (xP X) i (nI v9), xW X, xR X) ext) dL_builds_278 rfl rfl rfl (by omega) (by omega) rfl ?_
      refine wl_aload_n dL_builds_279 rfl ?_
      refine wl_get 0 (.ref (lW Λ)) dL_builds_280 fL_20 rfl rfl ?_
      refine wl_iload_n dL_builds_283 rfl ?_
      refine wl_aload_n dL_builds_284 rfl ?_
      refine wl_sipush (6000 : Int32) dL_builds_285 (by decide) ?_
      refine wl_callV (As := [.int (6000 : Int32)]) (S := [.int (nI i), .ref (lW Λ)]) (b' := (0, 0)) (b := (0, 0)) dL_builds_288 ML_65 ⟨0, _, rfl⟩ rfl rfl rfl (b00 _) (Nat.le_of_ble_eq_true rfl) ?_
      refine wl_draw (X := (xN X + 2, upd (xP X) i (nI v9), xW X, xR X)) hs (by show xN X + 2 + 1 < 2 ^ 31; omega) (by decide) (fun v11 hv12 => ?_)
      have hv12 : v11 < 6000 := by have := hv12; rw [show (6000 : Int32).toInt = 6000 from by decide] at this; omega
      show WZ G (d + 20) (0, 0) μL_builds 291 [.ref (gB G), .int (nI n), .int (nI i), lvU, lvU, lvU] [.int (nI v11), .int (nI i), .ref (lW Λ)] (lm G Λ (xN X + 3, upd (xP X) i (nI v9), xW X, xR X) ext m ce) Q
      refine wl_iast (t0 := 1) 2 i (lws G Λ (xN X + 3, upd (xP X) i (nI v9), upd (xW X) i (nI v11), xR X) ext) dL_builds_291 rfl rfl rfl (by omega) (by omega) rfl ?_
      refine wl_aload_n dL_builds_292 rfl ?_
      refine wl_get 0 (.ref (lB Λ)) dL_builds_293 fL_10 rfl rfl ?_
      refine wl_aload_n dL_builds_296 rfl ?_
      refine wl_iload_n dL_builds_297 rfl ?_
      refine wl_callV (As := [.int (nI n)]) (S := [.ref (lB Λ)]) (b' := (0, 0)) (b := (0, 0)) dL_builds_298 ML_65 ⟨0, _, rfl⟩ rfl rfl rfl (b00 _) (Nat.le_of_ble_eq_true rfl) ?_
      refine wl_draw (X := (xN X + 3, upd (xP X) i (nI v9), upd (xW X) i (nI v11), xR X)) hs (by show xN X + 3 + 1 < 2 ^ 31; omega) (by rw [nI_toInt (by omega)]; omega) (fun v13 hv14 => ?_)
      have hv14 : v13 < n := by have := hv14; rw [nI_toInt (by omega)] at this; omega
      show WZ G (d + 20) (0, 0) μL_builds 301 [.ref (gB G), .int (nI n), .int (nI i), lvU, lvU, lvU] [.int (nI v13), .ref (lB Λ)] (lm G Λ (xN X + 4, upd (xP X) i (nI v9), upd (xW X) i (nI v11), xR X) ext m ce) Q
      refine wl_aload_n dL_builds_301 rfl ?_
      refine wl_get 0 (.ref (lW Λ)) dL_builds_302 fL_20 rfl rfl ?_
      refine wl_iload_n dL_builds_305 rfl ?_
      refine wl_iald (t0 := 1) 2 i (nI v11) dL_builds_306 rfl rfl rfl (by omega) (by omega) upd_eq ?_
      refine wl_aload_n dL_builds_307 rfl ?_
      refine wl_sipush (9000 : Int32) dL_builds_308 (by decide) ?_
      refine wl_callV (As := [.int (9000 : Int32)]) (S := [.int (nI v11), .int (nI v13), .ref (lB Λ)]) (b' := (0, 0)) (b := (0, 0)) dL_builds_311 ML_65 ⟨0, _, rfl⟩ rfl rfl rfl (b00 _) (Nat.le_of_ble_eq_true rfl) ?_
      refine wl_draw (X := (xN X + 4, upd (xP X) i (nI v9), upd (xW X) i (nI v11), xR X)) hs (by show xN X + 4 + 1 < 2 ^ 31; omega) (by decide) (fun v15 hv16 => ?_)
      have hv16 : v15 < 9000 := by have := hv16; rw [show (9000 : Int32).toInt = 9000 from by decide] at this; omega
      show WZ G (d + 20) (0, 0) μL_builds 314 [.ref (gB G), .int (nI n), .int (nI i), lvU, lvU, lvU] [.int (nI v15), .int (nI v11), .int (nI v13), .ref (lB Λ)] (lm G Λ (xN X + 5, upd (xP X) i (nI v9), upd (xW X) i (nI v11), xR X) ext m ce) Q
      refine wl_sipush (9000 : Int32) dL_builds_314 (by decide) ?_
      refine wl_isub dL_builds_317 ?_
      refine wl_aload_n dL_builds_318 rfl ?_
      refine wl_sipush (9000 : Int32) dL_builds_319 (by decide) ?_
      refine wl_callV (As := [.int (9000 : Int32)]) (S := [.int ((nI v15) - (9000 : Int32)), .int (nI v11), .int (nI v13), .ref (lB Λ)]) (b' := (0, 0)) (b := (0, 0)) dL_builds_322 ML_65 ⟨0, _, rfl⟩ rfl rfl rfl (b00 _) (Nat.le_of_ble_eq_true rfl) ?_
      refine wl_draw (X := (xN X + 5, upd (xP X) i (nI v9), upd (xW X) i (nI v11), xR X)) hs (by show xN X + 5 + 1 < 2 ^ 31; omega) (by decide) (fun v17 hv18 => ?_)
      have hv18 : v17 < 9000 := by have := hv18; rw [show (9000 : Int32).toInt = 9000 from by decide] at this; omega
      show WZ G (d + 20) (0, 0) μL_builds 325 [.ref (gB G), .int (nI n), .int (nI i), lvU, lvU, lvU] [.int (nI v17), .int ((nI v15) - (9000 : Int32)), .int (nI v11), .int (nI v13), .ref (lB Λ)] (lm G Λ (xN X + 6, upd (xP X) i (nI v9), upd (xW X) i (nI v11), xR X) ext m ce) Q
      refine wl_aload_n dL_builds_325 rfl ?_
      refine wl_get 0 (.ref (lP Λ)) dL_builds_326 fL_16 rfl rfl ?_
      refine wl_iload_n dL_builds_329 rfl ?_
      refine wl_iald (t0 := 1) 1 i (nI v9) dL_builds_330 rfl rfl rfl (by omega) (by omega) upd_eq ?_
      refine wl_callX (As := [.int (nI v13), .int (nI v11), .int ((nI v15) - (9000 : Int32)), .int (nI v17), .int (nI v9)]) (S := []) [] ce dL_builds_331 ML_86 rfl rfl (Nat.le_of_ble_eq_true rfl) ?_
      refine a_addHeater (j := v13) hC (by omega) (by omega) (rgn (by omega) (by omega) (by omega)) (rgn (by omega) (by omega) (by omega)) (by rw [nI_toInt (n := v17) (by omega)]; exact rgs (v := v15) (c := 9000) (by omega) (by omega) (by omega) (by omega)) (rgn (by omega) (by omega) (by omega)) (fun m19 hC20 => ?_)
      show WZ G (d + 20) (0, 0) μL_builds 334 [.ref (gB G), .int (nI n), .int (nI i), lvU, lvU, lvU] [.int (nI (sH (aS A)))] (lm G Λ (xN X + 6, upd (xP X) i (nI v9), upd (xW X) i (nI v11), xR X) ext m19 ce) Q
      refine wl_iload_n dL_builds_334 rfl ?_
      refine wl_icmp_eq 340 dL_builds_335 (by decide) (fun q21 => ?_) (fun q21 => ?_)
      · have q22 : sH (aS A) = i := neq (a := sH (aS A)) (b := i) q21 (by omega) (by omega)
        refine wl_iinc (nI (i + 1)) dL_builds_340 rfl (by decide) (nadd (a := i) (b := 1) rfl) rfl ?_
        refine wl_goto 253 dL_builds_343 (by decide) ?_
        exact e3 q3 v4 hv5 q8 v9 hv10 v11 hv12 v13 hv14 v15 hv16 v17 hv18 m19 hC20 q22
      · have q23 : ¬ sH (aS A) = i := fun y => q21 (congrArg nI (y : sH (aS A) = i))
        refine wl_iconst (0 : Int32) dL_builds_338 (by decide) ?_
        exact wl_zret dL_builds_339 rfl rfl (e4 q3 v4 hv5 q8 v9 hv10 v11 hv12 v13 hv14 v15 hv16 v17 hv18 m19 hC20 q23)

theorem bu_6 {G : Cx} {d : Nat} {Λ : Lc} {X : Lx} {ext : va_W} {m : Mm} {A : Ab} {ce : List (Nat × Mm)} {Q : Option Value → LM → Prop}  (hC : CIv (atC G (lB Λ) false) m A) (hs : gSl G ≤ 260) (hx : xN X < 2 ^ 30) (k1 : sS (aS A) 1 = 10)
    (e1 : ∀ v1 : Nat, v1 < 900 → ∀ v3 : Nat, v3 < 20 + v1 → ∀ v5 : Nat, v5 < 20 + v1 - v3 → ∀ v7 : Nat, v7 < 3000 → ∀ v9 : Nat, v9 < 60 → ∀ v11 : Nat, v11 < 400 → ∀ m13 : Mm, CIv (atC G (lB Λ) false) m13 (stA A (orbS (sS (aS A)) (nI (20 + v1)) (nI v3) (nI (v3 + v5)) (nI v7) (nI v9) (nI v11))) → ∀ v15 : Nat, v15 < 30000 → ∀ v17 : Nat, v17 < 9000 → ∀ v19 : Nat, v19 < 1000000 → ∀ m21 : Mm, CIv (atC G (lB Λ) false) m21 (stA (stA A (orbS (sS (aS A)) (nI (20 + v1)) (nI v3) (nI (v3 + v5)) (nI v7) (nI v9) (nI v11))) (powS (sS (aS (stA A (orbS (sS (aS A)) (nI (20 + v1)) (nI v3) (nI (v3 + v5)) (nI v7) (nI v9) (nI v11))))) (nI v15) (nI v17) (nI v19) (0 : Int32))) → ∀ v23 : Nat, v23 < 30 → ∀ m25 : Mm, CIv (atC G (lB Λ) false) m25 (stA (stA (stA A (orbS (sS (aS A)) (nI (20 + v1)) (nI v3) (nI (v3 + v5)) (nI v7) (nI v9) (nI v11))) (powS (sS (aS (stA A (orbS (sS (aS A)) (nI (20 + v1)) (nI v3) (nI (v3 + v5)) (nI v7) (nI v9) (nI v11))))) (nI v15) (nI v17) (nI v19) (0 : Int32))) (upd (sS (aS (stA (stA A (orbS (sS (aS A)) (nI (20 + v1)) (nI v3) (nI (v3 + v5)) (nI v7) (nI v9) (nI v11))) (powS (sS (aS (stA A (orbS (sS (aS A)) (nI (20 + v1)) (nI v3) (nI (v3 + v5)) (nI v7) (nI v9) (nI v11))))) (nI v15) (nI v17) (nI v19) (0 : Int32))))) 1 (nI (1 + v23)))) → Q (some (.int (1 : Int32))) (lm G Λ (xN X + 10, xP X, xW X, xR X) ext m25 ce)) :
    WZ G (d + 20) (0, 0) μL_builds 346 [.ref (gB G), lvU, lvU, lvU, lvU, lvU] [] (lm G Λ X ext m ce) Q := by
  have hn12 := hC.nn.2
  have hl6 := hC.nl.2
  have hh8 := hC.nh.2
  refine wl_bipush (20 : Int32) dL_builds_346 (by decide) ?_
  refine wl_aload_n dL_builds_348 rfl ?_
  refine wl_sipush (900 : Int32) dL_builds_349 (by decide) ?_
  refine wl_callV (As := [.int (900 : Int32)]) (S := [.int (20 : Int32)]) (b' := (0, 0)) (b := (0, 0)) dL_builds_352 ML_65 ⟨0, _, rfl⟩ rfl rfl rfl (b00 _) (Nat.le_of_ble_eq_true rfl) ?_
  refine wl_draw (X := X) hs (by show xN X + 0 + 1 < 2 ^ 31; omega) (by decide) (fun v1 hv2 => ?_)
  have hv2 : v1 < 900 := by have := hv2; rw [show (900 : Int32).toInt = 900 from by decide] at this; omega
  show WZ G (d + 20) (0, 0) μL_builds 355 [.ref (gB G), lvU, lvU, lvU, lvU, lvU] [.int (nI v1), .int (20 : Int32)] (lm G Λ (xN X + 1, xP X, xW X, xR X) ext m ce) Q
  refine wl_iaddv (nI (20 + v1)) dL_builds_355 (nadd rfl) ?_
  refine wl_istore_n dL_builds_356 (by decide) rfl ?_
  refine wl_aload_n dL_builds_357 rfl ?_
  refine wl_iload_n dL_builds_358 rfl ?_
  refine wl_callV (As := [.int (nI (20 + v1))]) (S := []) (b' := (0, 0)) (b := (0, 0)) dL_builds_359 ML_65 ⟨0, _, rfl⟩ rfl rfl rfl (b00 _) (Nat.le_of_ble_eq_true rfl) ?_
  refine wl_draw (X := (xN X + 1, xP X, xW X, xR X)) hs (by show xN X + 1 + 1 < 2 ^ 31; omega) (by rw [nI_toInt (by omega)]; omega) (fun v3 hv4 => ?_)
  have hv4 : v3 < 20 + v1 := by have := hv4; rw [nI_toInt (by omega)] at this; omega
  show WZ G (d + 20) (0, 0) μL_builds 362 [.ref (gB G), lvU, .int (nI (20 + v1)), lvU, lvU, lvU] [.int (nI v3)] (lm G Λ (xN X + 2, xP X, xW X, xR X) ext m ce) Q
  refine wl_istore_n dL_builds_362 (by decide) rfl ?_
  refine wl_aload_n dL_builds_363 rfl ?_
  refine wl_get 0 (.ref (lB Λ)) dL_builds_364 fL_10 rfl rfl ?_
  refine wl_iload_n dL_builds_367 rfl ?_
  refine wl_iload_n dL_builds_368 rfl ?_
  refine wl_iload_n dL_builds_369 rfl ?_
  refine wl_aload_n dL_builds_370 rfl ?_
  refine wl_iload_n dL_builds_371 rfl ?_
  refine wl_iload_n dL_builds_372 rfl ?_
  refine wl_isubv (nI (20 + v1 - v3)) dL_builds_373 (nsub (by omega)) ?_
  refine wl_callV (As := [.int (nI (20 + v1 - v3))]) (S := [.int (nI v3), .int (nI v3), .int (nI (20 + v1)), .ref (lB Λ)]) (b' := (0, 0)) (b := (0, 0)) dL_builds_374 ML_65 ⟨0, _, rfl⟩ rfl rfl rfl (b00 _) (Nat.le_of_ble_eq_true rfl) ?_
  refine wl_draw (X := (xN X + 2, xP X, xW X, xR X)) hs (by show xN X + 2 + 1 < 2 ^ 31; omega) (by rw [nI_toInt (by omega)]; omega) (fun v5 hv6 => ?_)
  have hv6 : v5 < 20 + v1 - v3 := by have := hv6; rw [nI_toInt (by omega)] at this; omega
  show WZ G (d + 20) (0, 0) μL_builds 377 [.ref (gB G), lvU, .int (nI (20 + v1)), .int (nI v3), lvU, lvU] [.int (nI v5), .int (nI v3), .int (nI v3), .int (nI (20 + v1)), .ref (lB Λ)] (lm G Λ (xN X + 3, xP X, xW X, xR X) ext m ce) Q
  refine wl_iaddv (nI (v3 + v5)) dL_builds_377 (nadd rfl) ?_
  refine wl_aload_n dL_builds_378 rfl ?_
  refine wl_sipush (3000 : Int32) dL_builds_379 (by decide) ?_
  refine wl_callV (As := [.int (3000 : Int32)]) (S := [.int (nI (v3 + v5)), .int (nI v3), .int (nI (20 + v1)), .ref (lB Λ)]) (b' := (0, 0)) (b := (0, 0)) dL_builds_382 ML_65 ⟨0, _, rfl⟩ rfl rfl rfl (b00 _) (Nat.le_of_ble_eq_true rfl) ?_
  refine wl_draw (X := (xN X + 3, xP X, xW X, xR X)) hs (by show xN X + 3 + 1 < 2 ^ 31; omega) (by decide) (fun v7 hv8 => ?_)
  have hv8 : v7 < 3000 := by have := hv8; rw [show (3000 : Int32).toInt = 3000 from by decide] at this; omega
  show WZ G (d + 20) (0, 0) μL_builds 385 [.ref (gB G), lvU, .int (nI (20 + v1)), .int (nI v3), lvU, lvU] [.int (nI v7), .int (nI (v3 + v5)), .int (nI v3), .int (nI (20 + v1)), .ref (lB Λ)] (lm G Λ (xN X + 4, xP X, xW X, xR X) ext m ce) Q
  refine wl_aload_n dL_builds_385 rfl ?_
  refine wl_bipush (60 : Int32) dL_builds_386 (by decide) ?_
  refine wl_callV (As := [.int (60 : Int32)]) (S := [.int (nI v7), .int (nI (v3 + v5)), .int (nI v3), .int (nI (20 + v1)), .ref (lB Λ)]) (b' := (0, 0)) (b := (0, 0)) dL_builds_388 ML_65 ⟨0, _, rfl⟩ rfl rfl rfl (b00 _) (Nat.le_of_ble_eq_true rfl) ?_
  refine wl_draw (X := (xN X + 4, xP X, xW X, xR X)) hs (by show xN X + 4 + 1 < 2 ^ 31; omega) (by decide) (fun v9 hv10 => ?_)
  have hv10 : v9 < 60 := by have := hv10; rw [show (60 : Int32).toInt = 60 from by decide] at this; omega
  show WZ G (d + 20) (0, 0) μL_builds 391 [.ref (gB G), lvU, .int (nI (20 + v1)), .int (nI v3), lvU, lvU] [.int (nI v9), .int (nI v7), .int (nI (v3 + v5)), .int (nI v3), .int (nI (20 + v1)), .ref (lB Λ)] (lm G Λ (xN X + 5, xP X, xW X, xR X) ext m ce) Q
  refine wl_aload_n dL_builds_391 rfl ?_
  refine wl_sipush (400 : Int32) dL_builds_392 (by decide) ?_
  refine wl_callV (As := [.int (400 : Int32)]) (S := [.int (nI v9), .int (nI v7), .int (nI (v3 + v5)), .int (nI v3), .int (nI (20 + v1)), .ref (lB Λ)]) (b' := (0, 0)) (b := (0, 0)) dL_builds_395 ML_65 ⟨0, _, rfl⟩ rfl rfl rfl (b00 _) (Nat.le_of_ble_eq_true rfl) ?_
  refine wl_draw (X := (xN X + 5, xP X, xW X, xR X)) hs (by show xN X + 5 + 1 < 2 ^ 31; omega) (by decide) (fun v11 hv12 => ?_)
  have hv12 : v11 < 400 := by have := hv12; rw [show (400 : Int32).toInt = 400 from by decide] at this; omega
  show WZ G (d + 20) (0, 0) μL_builds 398 [.ref (gB G), lvU, .int (nI (20 + v1)), .int (nI v3), lvU, lvU] [.int (nI v11), .int (nI v9), .int (nI v7), .int (nI (v3 + v5)), .int (nI v3), .int (nI (20 + v1)), .ref (lB Λ)] (lm G Λ (xN X + 6, xP X, xW X, xR X) ext m ce) Q
  refine wl_callX (As := [.int (nI (20 + v1)), .int (nI v3), .int (nI (v3 + v5)), .int (nI v7), .int (nI v9), .int (nI v11)]) (S := []) [] ce dL_builds_398 ML_89 rfl rfl (Nat.le_of_ble_eq_true rfl) ?_
  refine a_setOrbit hC (rgn (by omega) (by omega) (by omega)) (rgw0 (by omega) (by omega)) (rgw (by omega) (by omega) (by omega)) (rgn (by omega) (by omega) (by omega)) (rgn (by omega) (by omega) (by omega)) (rgn (by omega) (by omega) (by omega)) (fun m13 hC14 => ?_)
  show WZ G (d + 20) (0, 0) μL_builds 401 [.ref (gB G), lvU, .int (nI (20 + v1)), .int (nI v3), lvU, lvU] [.int (0 : Int32)] (lm G Λ (xN X + 6, xP X, xW X, xR X) ext m13 ce) Q
  refine wl_if_ne 459 dL_builds_401 (by decide) (fun z => absurd z (by decide)) (fun _ => ?_)
  refine wl_aload_n dL_builds_404 rfl ?_
  refine wl_get 0 (.ref (lB Λ)) dL_builds_405 fL_10 rfl rfl ?_
  refine wl_aload_n dL_builds_408 rfl ?_
  refine wl_sipush (30000 : Int32) dL_builds_409 (by decide) ?_
  refine wl_callV (As := [.int (30000 : Int32)]) (S := [.ref (lB Λ)]) (b' := (0, 0)) (b := (0, 0)) dL_builds_412 ML_65 ⟨0, _, rfl⟩ rfl rfl rfl (b00 _) (Nat.le_of_ble_eq_true rfl) ?_
  refine wl_draw (X := (xN X + 6, xP X, xW X, xR X)) hs (by show xN X + 6 + 1 < 2 ^ 31; omega) (by decide) (fun v15 hv16 => ?_)
  have hv16 : v15 < 30000 := by have := hv16; rw [show (30000 : Int32).toInt = 30000 from by decide] at this; omega
  show WZ G (d + 20) (0, 0) μL_builds 415 [.ref (gB G), lvU, .int (nI (20 + v1)), .int (nI v3), lvU, lvU] [.int (nI v15), .ref (lB Λ)] (lm G Λ (xN X + 7, xP X, xW X, xR X) ext m13 ce) Q
  refine wl_aload_n dL_builds_415 rfl ?_
  refine wl_sipush (9000 : Int32) dL_builds_416 (by decide) ?_
  refine wl_callV (As := [.int (9000 : Int32)]) (S := [.int (nI v15), .ref (lB Λ)]) (b' := (0, 0)) (b := (0, 0)) dL_builds_419 ML_65 ⟨0, _, rfl⟩ rfl rfl rfl (b00 _) (Nat.le_of_ble_eq_true rfl) ?_
  refine wl_draw (X := (xN X + 7, xP X, xW X, xR X)) hs (by show xN X + 7 + 1 < 2 ^ 31; omega) (by decide) (fun v17 hv18 => ?_)
  have hv18 : v17 < 9000 := by have := hv18; rw [show (9000 : Int32).toInt = 9000 from by decide] at this; omega
  show WZ G (d + 20) (0, 0) μL_builds 422 [.ref (gB G), lvU, .int (nI (20 + v1)), .int (nI v3), lvU, lvU] [.int (nI v17), .int (nI v15), .ref (lB Λ)] (lm G Λ (xN X + 8, xP X, xW X, xR X) ext m13 ce) Q
  refine wl_aload_n dL_builds_422 rfl ?_
  refine wl_ldc dL_builds_423 kL_93 ?_
  refine wl_callV (As := [.int (1000000 : Int32)]) (S := [.int (nI v17), .int (nI v15), .ref (lB Λ)]) (b' := (0, 0)) (b := (0, 0)) dL_builds_425 ML_65 ⟨0, _, rfl⟩ rfl rfl rfl (b00 _) (Nat.le_of_ble_eq_true rfl) ?_
  refine wl_draw (X := (xN X + 8, xP X, xW X, xR X)) hs (by show xN X + 8 + 1 < 2 ^ 31; omega) (by decide) (fun v19 hv20 => ?_)
  have hv20 : v19 < 1000000 := by have := hv20; rw [show (1000000 : Int32).toInt = 1000000 from by decide] at this; omega
  show WZ G (d + 20) (0, 0) μL_builds 428 [.ref (gB G), lvU, .int (nI (20 + v1)), .int (nI v3), lvU, lvU] [.int (nI v19), .int (nI v17), .int (nI v15), .ref (lB Λ)] (lm G Λ (xN X + 9, xP X, xW X, xR X) ext m13 ce) Q
  refine wl_iconst (0 : Int32) dL_builds_428 (by decide) ?_
  refine wl_callX (As := [.int (nI v15), .int (nI v17), .int (nI v19), .int (0 : Int32)]) (S := []) [] ce dL_builds_429 ML_94 rfl rfl (Nat.le_of_ble_eq_true rfl) ?_
  refine a_setPower hC14 (rgn (by omega) (by omega) (by omega)) (rgn (by omega) (by omega) (by omega)) (rgn (by omega) (by omega) (by omega)) (rgw0 (v := 0) (by omega) (by omega)) (fun m21 hC22 => ?_)
  show WZ G (d + 20) (0, 0) μL_builds 432 [.ref (gB G), lvU, .int (nI (20 + v1)), .int (nI v3), lvU, lvU] [.int (0 : Int32)] (lm G Λ (xN X + 9, xP X, xW X, xR X) ext m21 ce) Q
  refine wl_if_ne 459 dL_builds_432 (by decide) (fun z => absurd z (by decide)) (fun _ => ?_)
  refine wl_aload_n dL_builds_435 rfl ?_
  refine wl_get 0 (.ref (lB Λ)) dL_builds_436 fL_10 rfl rfl ?_
  refine wl_iconst (1 : Int32) dL_builds_439 (by decide) ?_
  refine wl_aload_n dL_builds_440 rfl ?_
  refine wl_bipush (30 : Int32) dL_builds_441 (by decide) ?_
  refine wl_callV (As := [.int (30 : Int32)]) (S := [.int (1 : Int32), .ref (lB Λ)]) (b' := (0, 0)) (b := (0, 0)) dL_builds_443 ML_65 ⟨0, _, rfl⟩ rfl rfl rfl (b00 _) (Nat.le_of_ble_eq_true rfl) ?_
  refine wl_draw (X := (xN X + 9, xP X, xW X, xR X)) hs (by show xN X + 9 + 1 < 2 ^ 31; omega) (by decide) (fun v23 hv24 => ?_)
  have hv24 : v23 < 30 := by have := hv24; rw [show (30 : Int32).toInt = 30 from by decide] at this; omega
  show WZ G (d + 20) (0, 0) μL_builds 446 [.ref (gB G), lvU, .int (nI (20 + v1)), .int (nI v3), lvU, lvU] [.int (nI v23), .int (1 : Int32), .ref (lB Λ)] (lm G Λ (xN X + 10, xP X, xW X, xR X) ext m21 ce) Q
  refine wl_iaddv (nI (1 + v23)) dL_builds_446 (nadd rfl) ?_
  refine wl_callX (As := [.int (nI (1 + v23))]) (S := []) [] ce dL_builds_447 ML_98 rfl rfl (Nat.le_of_ble_eq_true rfl) ?_
  refine a_setStepLength hC22 (rgn (by omega) (by omega) (by omega)) (fun m25 hC26 => ?_)
  show WZ G (d + 20) (0, 0) μL_builds 450 [.ref (gB G), lvU, .int (nI (20 + v1)), .int (nI v3), lvU, lvU] [.int (sS (aS (stA (stA A (orbS (sS (aS A)) (nI (20 + v1)) (nI v3) (nI (v3 + v5)) (nI v7) (nI v9) (nI v11))) (powS (sS (aS (stA A (orbS (sS (aS A)) (nI (20 + v1)) (nI v3) (nI (v3 + v5)) (nI v7) (nI v9) (nI v11))))) (nI v15) (nI v17) (nI v19) (0 : Int32)))) 1)] (lm G Λ (xN X + 10, xP X, xW X, xR X) ext m25 ce) Q
  refine wl_bipush (10 : Int32) dL_builds_450 (by decide) ?_
  refine wl_icmp_ne 459 dL_builds_452 (by decide) (fun z => absurd (s10 k1) z) (fun _ => ?_)
  refine wl_iconst (1 : Int32) dL_builds_455 (by decide) ?_
  refine wl_goto 460 dL_builds_456 (by decide) ?_
  exact wl_zret dL_builds_460 rfl rfl (e1 v1 hv2 v3 hv4 v5 hv6 v7 hv8 v9 hv10 v11 hv12 m13 hC14 v15 hv16 v17 hv18 v19 hv20 m21 hC22 v23 hv24 m25 hC26)

