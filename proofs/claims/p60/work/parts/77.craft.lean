def PX (L : List Nat) (a1 a2 b1 b2 c1 c2 e1 e2 : Nat) : Nat → Nat → Prop := fun j f => (j = 0 ∧ f ∈ L) ∨ (j = 1 ∧ 100000 + a1 ≤ f ∧ f < 100000 + a2) ∨ (j = 2 ∧ 100000 + b1 ≤ f ∧ f < 100000 + b2) ∨ (j = 3 ∧ 100000 + c1 ≤ f ∧ f < 100000 + c2) ∨ (j = 4 ∧ 100000 + e1 ≤ f ∧ f < 100000 + e2)
theorem PX_t {n : Nat} {L : List Nat} {f a1 a2 b1 b2 c1 c2 e1 e2 : Nat} : ∀ j' f', j' < n → PX (f :: L) a1 a2 b1 b2 c1 c2 e1 e2 j' f' → PX L a1 a2 b1 b2 c1 c2 e1 e2 j' f' ∨ (j' = 0 ∧ f' = f) := fun j' f' _ h => by
  rcases h with ⟨h1, h2⟩ | h
  · rcases List.mem_cons.mp h2 with e | e
    · exact Or.inr ⟨h1, e⟩
    · exact Or.inl (Or.inl ⟨h1, e⟩)
  · exact Or.inl (Or.inr h)

theorem C_X1_init {G : Cx} {d a : Nat} {m : Mm} {Q : Option Value → Mm → Prop} (k : Q none m) : WPM G (d + 1) (0, 0) μX1_init [.ref a] m Q := by
  refine WPM.of pX1 (Nat.le_of_ble_eq_true rfl) rfl ?_
  refine wp_aload_n dX1_init_0 rfl ?_
  refine wp_objInit dX1_init_1 OX1_3 Oin Oco (Nat.le_of_ble_eq_true rfl) ?_
  exact wp_vret dX1_init_4 rfl k

theorem C_X2_init {G : Cx} {d a : Nat} {m : Mm} {Q : Option Value → Mm → Prop} (k : Q none m) : WPM G (d + 1) (0, 0) μX2_init [.ref a] m Q := by
  refine WPM.of pX2 (Nat.le_of_ble_eq_true rfl) rfl ?_
  refine wp_aload_n dX2_init_0 rfl ?_
  refine wp_objInit dX2_init_1 OX2_1 Oin Oco (Nat.le_of_ble_eq_true rfl) ?_
  exact wp_vret dX2_init_4 rfl k

theorem C_X3_init {G : Cx} {d a : Nat} {m : Mm} {Q : Option Value → Mm → Prop} (k : Q none m) : WPM G (d + 1) (0, 0) μX3_init [.ref a] m Q := by
  refine WPM.of pX3 (Nat.le_of_ble_eq_true rfl) rfl ?_
  refine wp_aload_n dX3_init_0 rfl ?_
  refine wp_objInit dX3_init_1 OX3_1 Oin Oco (Nat.le_of_ble_eq_true rfl) ?_
  exact wp_vret dX3_init_4 rfl k

theorem C_X4_init {G : Cx} {d a : Nat} {m : Mm} {Q : Option Value → Mm → Prop} (k : Q none m) : WPM G (d + 1) (0, 0) μX4_init [.ref a] m Q := by
  refine WPM.of pX4 (Nat.le_of_ble_eq_true rfl) rfl ?_
  refine wp_aload_n dX4_init_0 rfl ?_
  refine wp_objInit dX4_init_1 OX4_3 Oin Oco (Nat.le_of_ble_eq_true rfl) ?_
  exact wp_vret dX4_init_4 rfl k

theorem C_X9_init {G : Cx} {d a : Nat} {m : Mm} {Q : Option Value → Mm → Prop} (k : Q none m) : WPM G (d + 1) (0, 0) μX9_init [.ref a] m Q := by
  refine WPM.of pX9 (Nat.le_of_ble_eq_true rfl) rfl ?_
  refine wp_aload_n dX9_init_0 rfl ?_
  refine wp_objInit dX9_init_1 OX9_1 Oin Oco (Nat.le_of_ble_eq_true rfl) ?_
  exact wp_vret dX9_init_4 rfl k

theorem La_X0 {G : Cx} {d o R1 R2 : Nat} {m0 m : Mm} {V A : Nat → Nat → Int32} {Q : Option Value → Mm → Prop} (hF : Fr G m0 o) (k0 : kd (o + 0) = 0) (kA : kd (o + 1) = 24) (lA : ln (o + 1) = 12) (kN : ∀ i, i < 12 → kd (o + (19 + i)) = 4) (hV : ∀ i f, i < 12 → V (19 + i) f = 0) (hA : ∀ i f, i < 12 → A (19 + i) f = 0) (h : Bd G m0 m o 19 V A (PX [] 0 12 0 24 0 6 0 8)) (k : ∀ m', Bd G m0 m' o (19 + 12) V A (PX [] 12 12 0 24 0 6 0 8) → WP G (d + 2) (R1, R2) μX0_init 125 [.ref (gB G + (o + 0)), .int (nI 12)] [] m' Q) : WP G (d + 2) (12 + R1, 12 * 17 + R2) μX0_init 100 [.ref (gB G + (o + 0)), .int (nI 0)] [] m Q := by
  have key : ∀ f i : Nat, f + i = 12 → ∀ m, Bd G m0 m o (19 + i) V A (PX [] i 12 0 24 0 6 0 8) → WP G (d + 2) (f + R1, f * 17 + R2) μX0_init 100 [.ref (gB G + (o + 0)), .int (nI i)] [] m Q := by
    intro f
    induction f with
    | zero =>
      intro i hi m h
      have e : i = 12 := by omega
      subst e
      refine wp_iload_n dX0_init_100 rfl ?_
      refine wp_bipush (12 : Int32) dX0_init_101 (by decide) ?_
      refine wp_icmp_ge 125 dX0_init_103 (by decide) (fun _ => ?_) (fun q => absurd q (by decide))
      rw [Nat.zero_add, Nat.zero_mul, Nat.zero_add]
      exact k m h
    | succ f ih =>
      intro i hi m h
      have hic : i < 12 := by omega
      rw [show f + 1 + R1 = (f + R1) + 1 by omega, show (f + 1) * 17 + R2 = (f * 17 + R2) + 17 by rw [Nat.succ_mul]; omega]
      refine wp_iload_n dX0_init_100 rfl ?_
      refine wp_bipush (12 : Int32) dX0_init_101 (by decide) ?_
      refine wp_icmp_ge 125 dX0_init_103 (by decide) (fun q => absurd (nlt_ (a := i) (b := 12) hic (by omega)) q) (fun _ => ?_)
      refine wp_aload_n dX0_init_106 rfl ?_
      refine wp_getr (gB G + (o + 1)) dX0_init_107 fX0_11 (h.isK (j := 0) (by omega) k0) ((h.2.2 0 (by omega) 0).1.resolve_right (fun z => by unfold PX at z; simp at z)) (rra 1 (Nat.le_add_right _ _) (fun _ => rfl)) ?_
      refine wp_iload_n dX0_init_110 rfl ?_
      have hf0 : FrA G m0 (o + (19 + i)) := hF _ (Nat.le_add_right _ _)
      refine bp_new (ci := 4) tyX4 h hf0 dX0_init_111 rfl CX0_9 IX4 iX4 uw4 dvX4 (kN i hic) ?_
      refine wp_dup dX0_init_114 rfl ?_
      refine wp_callIN (As := []) (b' := (0, 0)) (b := (f + R1, f * 17 + R2)) dX0_init_115 MX0_71 rfl (by simp) (Nat.le_of_ble_eq_true rfl) ?_
      refine C_X4_init ?_
      have h2 := Bd_new (P' := PX [] i 12 0 24 0 6 0 8) h hf0 (fun _ _ _ z => z) (fun f z => by rw [nrl_sc (by rw [kN i hic]; decide) (by rw [kN i hic]; decide)] at z; cases z) (fun f => hV i f hic) (fun f => hA i f hic)
      refine bp_rast (q := 24) (ci := 4) (N := 12) (k := i) (j := 1) (jv := 19 + i) (P' := PX [] (i + 1) 12 0 24 0 6 0 8) h2 dX0_init_118 (by omega) kA (by decide) rfl lA rfl hic (by decide) (by omega) (kN i hic) rfl ?_ (fun j' f' _ z => ?_) (fun m' h3 => ?_)
      · show gB G + rfo (100000 + i) (gB G + (o + 1) - gB G) = _
        rw [Nat.add_sub_cancel_left, rfo_el (by omega), kA]
        rw [if_pos rfl]
        omega
      · unfold PX at z ⊢
        simp only [List.not_mem_nil, and_false, false_or] at z ⊢
        omega
      · refine wp_iinc (nI (i + 1)) dX0_init_119 rfl (by decide) (nadd (a := i) (b := 1) (by omega)) rfl ?_
        refine wp_goto 100 dX0_init_122 (by decide) ?_
        exact ih (i + 1) (by omega) m' h3
  exact key 12 0 rfl m h

theorem Lb_X0 {G : Cx} {d o R1 R2 : Nat} {m0 m : Mm} {V A : Nat → Nat → Int32} {Q : Option Value → Mm → Prop} (hF : Fr G m0 o) (k0 : kd (o + 0) = 0) (kA : kd (o + 2) = 25) (lA : ln (o + 2) = 24) (kN : ∀ i, i < 24 → kd (o + (31 + i)) = 2) (hV : ∀ i f, i < 24 → V (31 + i) f = 0) (hA : ∀ i f, i < 24 → A (31 + i) f = 0) (h : Bd G m0 m o 31 V A (PX [] 12 12 0 24 0 6 0 8)) (k : ∀ m', Bd G m0 m' o (31 + 24) V A (PX [] 12 12 24 24 0 6 0 8) → WP G (d + 2) (R1, R2) μX0_init 152 [.ref (gB G + (o + 0)), .int (nI 24)] [] m' Q) : WP G (d + 2) (24 + R1, 24 * 3 + R2) μX0_init 127 [.ref (gB G + (o + 0)), .int (nI 0)] [] m Q := by
  have key : ∀ f i : Nat, f + i = 24 → ∀ m, Bd G m0 m o (31 + i) V A (PX [] 12 12 i 24 0 6 0 8) → WP G (d + 2) (f + R1, f * 3 + R2) μX0_init 127 [.ref (gB G + (o + 0)), .int (nI i)] [] m Q := by
    intro f
    induction f with
    | zero =>
      intro i hi m h
      have e : i = 24 := by omega
      subst e
      refine wp_iload_n dX0_init_127 rfl ?_
      refine wp_bipush (24 : Int32) dX0_init_128 (by decide) ?_
      refine wp_icmp_ge 152 dX0_init_130 (by decide) (fun _ => ?_) (fun q => absurd q (by decide))
      rw [Nat.zero_add, Nat.zero_mul, Nat.zero_add]
      exact k m h
    | succ f ih =>
      intro i hi m h
      have hic : i < 24 := by omega
      rw [show f + 1 + R1 = (f + R1) + 1 by omega, show (f + 1) * 3 + R2 = (f * 3 + R2) + 3 by rw [Nat.succ_mul]; omega]
      refine wp_iload_n dX0_init_127 rfl ?_
      refine wp_bipush (24 : Int32) dX0_init_128 (by decide) ?_
      refine wp_icmp_ge 152 dX0_init_130 (by decide) (fun q => absurd (nlt_ (a := i) (b := 24) hic (by omega)) q) (fun _ => ?_)
      refine wp_aload_n dX0_init_133 rfl ?_
      refine wp_getr (gB G + (o + 2)) dX0_init_134 fX0_19 (h.isK (j := 0) (by omega) k0) ((h.2.2 0 (by omega) 1).1.resolve_right (fun z => by unfold PX at z; simp at z)) (rra 2 (Nat.le_add_right _ _) (fun _ => rfl)) ?_
      refine wp_iload_n dX0_init_137 rfl ?_
      have hf0 : FrA G m0 (o + (31 + i)) := hF _ (Nat.le_add_right _ _)
      refine bp_new (ci := 2) tyX2 h hf0 dX0_init_138 rfl CX0_17 IX2 iX2 uw2 dvX2 (kN i hic) ?_
      refine wp_dup dX0_init_141 rfl ?_
      refine wp_callIN (As := []) (b' := (0, 0)) (b := (f + R1, f * 3 + R2)) dX0_init_142 MX0_72 rfl (by simp) (Nat.le_of_ble_eq_true rfl) ?_
      refine C_X2_init ?_
      have h2 := Bd_new (P' := PX [] 12 12 i 24 0 6 0 8) h hf0 (fun _ _ _ z => z) (fun f z => by rw [nrl_sc (by rw [kN i hic]; decide) (by rw [kN i hic]; decide)] at z; cases z) (fun f => hV i f hic) (fun f => hA i f hic)
      refine bp_rast (q := 25) (ci := 2) (N := 24) (k := i) (j := 2) (jv := 31 + i) (P' := PX [] 12 12 (i + 1) 24 0 6 0 8) h2 dX0_init_145 (by omega) kA (by decide) rfl lA rfl hic (by decide) (by omega) (kN i hic) rfl ?_ (fun j' f' _ z => ?_) (fun m' h3 => ?_)
      · show gB G + rfo (100000 + i) (gB G + (o + 2) - gB G) = _
        rw [Nat.add_sub_cancel_left, rfo_el (by omega), kA]
        rw [if_neg (by decide), if_pos rfl]
        omega
      · unfold PX at z ⊢
        simp only [List.not_mem_nil, and_false, false_or] at z ⊢
        omega
      · refine wp_iinc (nI (i + 1)) dX0_init_146 rfl (by decide) (nadd (a := i) (b := 1) (by omega)) rfl ?_
        refine wp_goto 127 dX0_init_149 (by decide) ?_
        exact ih (i + 1) (by omega) m' h3
  exact key 24 0 rfl m h

theorem Lc_X0 {G : Cx} {d o R1 R2 : Nat} {m0 m : Mm} {V A : Nat → Nat → Int32} {Q : Option Value → Mm → Prop} (hF : Fr G m0 o) (k0 : kd (o + 0) = 0) (kA : kd (o + 3) = 26) (lA : ln (o + 3) = 6) (kN : ∀ i, i < 6 → kd (o + (55 + i)) = 3) (hV : ∀ i f, i < 6 → V (55 + i) f = 0) (hA : ∀ i f, i < 6 → A (55 + i) f = 0) (h : Bd G m0 m o 55 V A (PX [] 12 12 24 24 0 6 0 8)) (k : ∀ m', Bd G m0 m' o (55 + 6) V A (PX [] 12 12 24 24 6 6 0 8) → WP G (d + 2) (R1, R2) μX0_init 179 [.ref (gB G + (o + 0)), .int (nI 6)] [] m' Q) : WP G (d + 2) (6 + R1, 6 * 7 + R2) μX0_init 154 [.ref (gB G + (o + 0)), .int (nI 0)] [] m Q := by
  have key : ∀ f i : Nat, f + i = 6 → ∀ m, Bd G m0 m o (55 + i) V A (PX [] 12 12 24 24 i 6 0 8) → WP G (d + 2) (f + R1, f * 7 + R2) μX0_init 154 [.ref (gB G + (o + 0)), .int (nI i)] [] m Q := by
    intro f
    induction f with
    | zero =>
      intro i hi m h
      have e : i = 6 := by omega
      subst e
      refine wp_iload_n dX0_init_154 rfl ?_
      refine wp_bipush (6 : Int32) dX0_init_155 (by decide) ?_
      refine wp_icmp_ge 179 dX0_init_157 (by decide) (fun _ => ?_) (fun q => absurd q (by decide))
      rw [Nat.zero_add, Nat.zero_mul, Nat.zero_add]
      exact k m h
    | succ f ih =>
      intro i hi m h
      have hic : i < 6 := by omega
      rw [show f + 1 + R1 = (f + R1) + 1 by omega, show (f + 1) * 7 + R2 = (f * 7 + R2) + 7 by rw [Nat.succ_mul]; omega]
      refine wp_iload_n dX0_init_154 rfl ?_
      refine wp_bipush (6 : Int32) dX0_init_155 (by decide) ?_
      refine wp_icmp_ge 179 dX0_init_157 (by decide) (fun q => absurd (nlt_ (a := i) (b := 6) hic (by omega)) q) (fun _ => ?_)
      refine wp_aload_n dX0_init_160 rfl ?_
      refine wp_getr (gB G + (o + 3)) dX0_init_161 fX0_25 (h.isK (j := 0) (by omega) k0) ((h.2.2 0 (by omega) 2).1.resolve_right (fun z => by unfold PX at z; simp at z)) (rra 3 (Nat.le_add_right _ _) (fun _ => rfl)) ?_
      refine wp_iload_n dX0_init_164 rfl ?_
      have hf0 : FrA G m0 (o + (55 + i)) := hF _ (Nat.le_add_right _ _)
      refine bp_new (ci := 3) tyX3 h hf0 dX0_init_165 rfl CX0_23 IX3 iX3 uw3 dvX3 (kN i hic) ?_
      refine wp_dup dX0_init_168 rfl ?_
      refine wp_callIN (As := []) (b' := (0, 0)) (b := (f + R1, f * 7 + R2)) dX0_init_169 MX0_73 rfl (by simp) (Nat.le_of_ble_eq_true rfl) ?_
      refine C_X3_init ?_
      have h2 := Bd_new (P' := PX [] 12 12 24 24 i 6 0 8) h hf0 (fun _ _ _ z => z) (fun f z => by rw [nrl_sc (by rw [kN i hic]; decide) (by rw [kN i hic]; decide)] at z; cases z) (fun f => hV i f hic) (fun f => hA i f hic)
      refine bp_rast (q := 26) (ci := 3) (N := 6) (k := i) (j := 3) (jv := 55 + i) (P' := PX [] 12 12 24 24 (i + 1) 6 0 8) h2 dX0_init_172 (by omega) kA (by decide) rfl lA rfl hic (by decide) (by omega) (kN i hic) rfl ?_ (fun j' f' _ z => ?_) (fun m' h3 => ?_)
      · show gB G + rfo (100000 + i) (gB G + (o + 3) - gB G) = _
        rw [Nat.add_sub_cancel_left, rfo_el (by omega), kA]
        rw [if_neg (by decide), if_neg (by decide), if_pos rfl]
        omega
      · unfold PX at z ⊢
        simp only [List.not_mem_nil, and_false, false_or] at z ⊢
        omega
      · refine wp_iinc (nI (i + 1)) dX0_init_173 rfl (by decide) (nadd (a := i) (b := 1) (by omega)) rfl ?_
        refine wp_goto 154 dX0_init_176 (by decide) ?_
        exact ih (i + 1) (by omega) m' h3
  exact key 6 0 rfl m h

theorem Le_X0 {G : Cx} {d o R1 R2 : Nat} {m0 m : Mm} {V A : Nat → Nat → Int32} {Q : Option Value → Mm → Prop} (hF : Fr G m0 o) (k0 : kd (o + 0) = 0) (kA : kd (o + 4) = 27) (lA : ln (o + 4) = 8) (kN : ∀ i, i < 8 → kd (o + (61 + i)) = 1) (hV : ∀ i f, i < 8 → V (61 + i) f = 0) (hA : ∀ i f, i < 8 → A (61 + i) f = 0) (h : Bd G m0 m o 61 V A (PX [] 12 12 24 24 6 6 0 8)) (k : ∀ m', Bd G m0 m' o (61 + 8) V A (PX [] 12 12 24 24 6 6 8 8) → WP G (d + 2) (R1, R2) μX0_init 206 [.ref (gB G + (o + 0)), .int (nI 8)] [] m' Q) : WP G (d + 2) (8 + R1, 8 * 8 + R2) μX0_init 181 [.ref (gB G + (o + 0)), .int (nI 0)] [] m Q := by
  have key : ∀ f i : Nat, f + i = 8 → ∀ m, Bd G m0 m o (61 + i) V A (PX [] 12 12 24 24 6 6 i 8) → WP G (d + 2) (f + R1, f * 8 + R2) μX0_init 181 [.ref (gB G + (o + 0)), .int (nI i)] [] m Q := by
    intro f
    induction f with
    | zero =>
      intro i hi m h
      have e : i = 8 := by omega
      subst e
      refine wp_iload_n dX0_init_181 rfl ?_
      refine wp_bipush (8 : Int32) dX0_init_182 (by decide) ?_
      refine wp_icmp_ge 206 dX0_init_184 (by decide) (fun _ => ?_) (fun q => absurd q (by decide))
      rw [Nat.zero_add, Nat.zero_mul, Nat.zero_add]
      exact k m h
    | succ f ih =>
      intro i hi m h
      have hic : i < 8 := by omega
      rw [show f + 1 + R1 = (f + R1) + 1 by omega, show (f + 1) * 8 + R2 = (f * 8 + R2) + 8 by rw [Nat.succ_mul]; omega]
      refine wp_iload_n dX0_init_181 rfl ?_
      refine wp_bipush (8 : Int32) dX0_init_182 (by decide) ?_
      refine wp_icmp_ge 206 dX0_init_184 (by decide) (fun q => absurd (nlt_ (a := i) (b := 8) hic (by omega)) q) (fun _ => ?_)
      refine wp_aload_n dX0_init_187 rfl ?_
      refine wp_getr (gB G + (o + 4)) dX0_init_188 fX0_31 (h.isK (j := 0) (by omega) k0) ((h.2.2 0 (by omega) 3).1.resolve_right (fun z => by unfold PX at z; simp at z)) (rra 4 (Nat.le_add_right _ _) (fun _ => rfl)) ?_
      refine wp_iload_n dX0_init_191 rfl ?_
      have hf0 : FrA G m0 (o + (61 + i)) := hF _ (Nat.le_add_right _ _)
      refine bp_new (ci := 1) tyX1 h hf0 dX0_init_192 rfl CX0_29 IX1 iX1 uw1 dvX1 (kN i hic) ?_
      refine wp_dup dX0_init_195 rfl ?_
      refine wp_callIN (As := []) (b' := (0, 0)) (b := (f + R1, f * 8 + R2)) dX0_init_196 MX0_74 rfl (by simp) (Nat.le_of_ble_eq_true rfl) ?_
      refine C_X1_init ?_
      have h2 := Bd_new (P' := PX [] 12 12 24 24 6 6 i 8) h hf0 (fun _ _ _ z => z) (fun f z => by rw [nrl_sc (by rw [kN i hic]; decide) (by rw [kN i hic]; decide)] at z; cases z) (fun f => hV i f hic) (fun f => hA i f hic)
      refine bp_rast (q := 27) (ci := 1) (N := 8) (k := i) (j := 4) (jv := 61 + i) (P' := PX [] 12 12 24 24 6 6 (i + 1) 8) h2 dX0_init_199 (by omega) kA (by decide) rfl lA rfl hic (by decide) (by omega) (kN i hic) rfl ?_ (fun j' f' _ z => ?_) (fun m' h3 => ?_)
      · show gB G + rfo (100000 + i) (gB G + (o + 4) - gB G) = _
        rw [Nat.add_sub_cancel_left, rfo_el (by omega), kA]
        rw [if_neg (by decide), if_neg (by decide), if_neg (by decide), if_pos rfl]
        omega
      · unfold PX at z ⊢
        simp only [List.not_mem_nil, and_false, false_or] at z ⊢
        omega
      · refine wp_iinc (nI (i + 1)) dX0_init_200 rfl (by decide) (nadd (a := i) (b := 1) (by omega)) rfl ?_
        refine wp_goto 181 dX0_init_203 (by decide) ?_
        exact ih (i + 1) (by omega) m' h3
  exact key 8 0 rfl m h
