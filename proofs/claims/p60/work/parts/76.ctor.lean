def rfs (ci : Nat) : List Nat := ((List.range (fty ci).length).filter (fun k => decide ((fty ci).getD k 0 = 2))).map (fun k => 100 * ci + k)
theorem nrl_in {j ci f : Nat} (hk : kd j = ci) (hc : ci < 20) (h : nrl j f = false) : f ∈ rfs ci := by
  unfold nrl at h
  rw [hk, if_pos hc] at h
  simp only [Bool.not_eq_false', Bool.and_eq_true, decide_eq_true_eq] at h
  obtain ⟨h1, h2⟩ := h
  unfold rfs
  rw [List.mem_map]
  refine ⟨f % 100, List.mem_filter.mpr ⟨List.mem_range.mpr ?_, by rw [decide_eq_true_eq]; exact h2⟩, by omega⟩
  by_cases e : f % 100 < (fty ci).length
  · exact e
  · rw [List.getD_eq_getElem?_getD, List.getElem?_eq_none (by omega)] at h2
    cases h2
theorem Bd_start {G : Cx} {m : Mm} {o ci : Nat} {P : Nat → Nat → Prop} (hn : mN m = o + 1) (hF : Fr G m o) (hk : kd o = ci) (hc : ci < 20) (hP : ∀ f, f ∈ rfs ci → P 0 f) : Bd G m m o 1 Z2 Z2 P :=
  ⟨hn, fun _ _ => Same.rf, fun j hj f => by
    have e : j = 0 := by omega
    subst e
    obtain ⟨a, b, c, d, g⟩ := hF o (Nat.le_refl _) f
    refine ⟨?_, b, c, d, g⟩
    cases hx : nrl o f with
    | true => exact Or.inl (a.trans hx)
    | false => exact Or.inr (hP f (nrl_in hk hc hx))⟩
theorem primI {s' : State} {cA : ClassId} (h : va_RA s' cA .int) : s'.vm.findClass ("[" ++ FieldType.int.toString) = some cA := h
theorem primJ {s' : State} {cA : ClassId} (h : va_RA s' cA .long) : s'.vm.findClass ("[" ++ FieldType.long.toString) = some cA := h
theorem primZ {s' : State} {cA : ClassId} (h : va_RA s' cA .boolean) : s'.vm.findClass ("[" ++ FieldType.boolean.toString) = some cA := h
theorem primB {s' : State} {cA : ClassId} (h : va_RA s' cA .byte) : s'.vm.findClass ("[" ++ FieldType.byte.toString) = some cA := h

theorem C_X6_init {G : Cx} {d o : Nat} {m : Mm} {Q : Option Value → Mm → Prop} (hn : mN m = o + 1) (hF : Fr G m o) (k0 : kd (o + 0) = 6) (k1 : kd (o + 1) = 21) (l1 : ln (o + 1) = 12) (k : ∀ m', Ct G m m' o 2 Z2 Z2 → Q none m') : WPM G (d + 1) (1, 12) μX6_init [.ref (gB G + (o + 0))] m Q := by
  have h0 : Bd G m m o 1 Z2 Z2 (PL [600]) := Bd_start hn hF k0 (by decide) (fun f hf => ⟨rfl, hf⟩)
  refine WPM.of pX6 (Nat.le_of_ble_eq_true rfl) rfl ?_
  refine wp_aload_n dX6_init_0 rfl ?_
  refine wp_objInit dX6_init_1 OX6_3 Oin Oco (Nat.le_of_ble_eq_true rfl) ?_
  refine wp_aload_n dX6_init_4 rfl ?_
  refine wp_bipush (12 : Int32) dX6_init_5 (by decide) ?_
  refine bp_newarr (q := 21) (N := 12) h0 (hF _ (Nat.le_add_right _ _)) dX6_init_7 Zint k1 (by decide) rfl (fun _ _ => primI) l1 (by decide) (by decide) (by decide) (by decide) (fun f => rfl) (fun f => rfl) (fun m1 h1 => ?_)
  refine bp_putr (j := 0) (P' := PL []) h1 dX6_init_9 rfl rX6_9 (by omega) k0 (rra 1 (Nat.le_add_right _ _) (fun _ => rfl)) PL_t (fun m2 h2 => ?_)
  exact wp_vret dX6_init_12 rfl (k _ (h2.mono (fun j f _ h => absurd h.2 List.not_mem_nil) (fun j f _ => rfl) (fun j f _ => rfl)))

theorem C_X8_init {G : Cx} {d o : Nat} {m : Mm} {Q : Option Value → Mm → Prop} (hn : mN m = o + 1) (hF : Fr G m o) (k0 : kd (o + 0) = 8) (k1 : kd (o + 1) = 21) (l1 : ln (o + 1) = 500) (k2 : kd (o + 2) = 21) (l2 : ln (o + 2) = 500) (k3 : kd (o + 3) = 21) (l3 : ln (o + 3) = 12) (k4 : kd (o + 4) = 21) (l4 : ln (o + 4) = 12) (k5 : kd (o + 5) = 21) (l5 : ln (o + 5) = 12) (k6 : kd (o + 6) = 21) (l6 : ln (o + 6) = 12) (k7 : kd (o + 7) = 21) (l7 : ln (o + 7) = 12) (k8 : kd (o + 8) = 22) (l8 : ln (o + 8) = 64) (k : ∀ m', Ct G m m' o 9 Z2 Z2 → Q none m') : WPM G (d + 1) (8, 1124) μX8_init [.ref (gB G + (o + 0))] m Q := by
  have h0 : Bd G m m o 1 Z2 Z2 (PL [800, 801, 802, 803, 804, 805, 806, 809]) := Bd_start hn hF k0 (by decide) (fun f hf => ⟨rfl, hf⟩)
  refine WPM.of pX8 (Nat.le_of_ble_eq_true rfl) rfl ?_
  refine wp_aload_n dX8_init_0 rfl ?_
  refine wp_objInit dX8_init_1 OX8_3 Oin Oco (Nat.le_of_ble_eq_true rfl) ?_
  refine wp_aload_n dX8_init_4 rfl ?_
  refine wp_sipush (500 : Int32) dX8_init_5 (by decide) ?_
  refine bp_newarr (q := 21) (N := 500) h0 (hF _ (Nat.le_add_right _ _)) dX8_init_8 Zint k1 (by decide) rfl (fun _ _ => primI) l1 (by decide) (by decide) (by decide) (by decide) (fun f => rfl) (fun f => rfl) (fun m1 h1 => ?_)
  refine bp_putr (j := 0) (P' := PL [801, 802, 803, 804, 805, 806, 809]) h1 dX8_init_10 rfl rX8_9 (by omega) k0 (rra 1 (Nat.le_add_right _ _) (fun _ => rfl)) PL_t (fun m2 h2 => ?_)
  refine wp_aload_n dX8_init_13 rfl ?_
  refine wp_sipush (500 : Int32) dX8_init_14 (by decide) ?_
  refine bp_newarr (q := 21) (N := 500) h2 (hF _ (Nat.le_add_right _ _)) dX8_init_17 Zint k2 (by decide) rfl (fun _ _ => primI) l2 (by decide) (by decide) (by decide) (by decide) (fun f => rfl) (fun f => rfl) (fun m3 h3 => ?_)
  refine bp_putr (j := 0) (P' := PL [802, 803, 804, 805, 806, 809]) h3 dX8_init_19 rfl rX8_15 (by omega) k0 (rra 2 (Nat.le_add_right _ _) (fun _ => rfl)) PL_t (fun m4 h4 => ?_)
  refine wp_aload_n dX8_init_22 rfl ?_
  refine wp_bipush (12 : Int32) dX8_init_23 (by decide) ?_
  refine bp_newarr (q := 21) (N := 12) h4 (hF _ (Nat.le_add_right _ _)) dX8_init_25 Zint k3 (by decide) rfl (fun _ _ => primI) l3 (by decide) (by decide) (by decide) (by decide) (fun f => rfl) (fun f => rfl) (fun m5 h5 => ?_)
  refine bp_putr (j := 0) (P' := PL [803, 804, 805, 806, 809]) h5 dX8_init_27 rfl rX8_18 (by omega) k0 (rra 3 (Nat.le_add_right _ _) (fun _ => rfl)) PL_t (fun m6 h6 => ?_)
  refine wp_aload_n dX8_init_30 rfl ?_
  refine wp_bipush (12 : Int32) dX8_init_31 (by decide) ?_
  refine bp_newarr (q := 21) (N := 12) h6 (hF _ (Nat.le_add_right _ _)) dX8_init_33 Zint k4 (by decide) rfl (fun _ _ => primI) l4 (by decide) (by decide) (by decide) (by decide) (fun f => rfl) (fun f => rfl) (fun m7 h7 => ?_)
  refine bp_putr (j := 0) (P' := PL [804, 805, 806, 809]) h7 dX8_init_35 rfl rX8_21 (by omega) k0 (rra 4 (Nat.le_add_right _ _) (fun _ => rfl)) PL_t (fun m8 h8 => ?_)
  refine wp_aload_n dX8_init_38 rfl ?_
  refine wp_bipush (12 : Int32) dX8_init_39 (by decide) ?_
  refine bp_newarr (q := 21) (N := 12) h8 (hF _ (Nat.le_add_right _ _)) dX8_init_41 Zint k5 (by decide) rfl (fun _ _ => primI) l5 (by decide) (by decide) (by decide) (by decide) (fun f => rfl) (fun f => rfl) (fun m9 h9 => ?_)
  refine bp_putr (j := 0) (P' := PL [805, 806, 809]) h9 dX8_init_43 rfl rX8_24 (by omega) k0 (rra 5 (Nat.le_add_right _ _) (fun _ => rfl)) PL_t (fun m10 h10 => ?_)
  refine wp_aload_n dX8_init_46 rfl ?_
  refine wp_bipush (12 : Int32) dX8_init_47 (by decide) ?_
  refine bp_newarr (q := 21) (N := 12) h10 (hF _ (Nat.le_add_right _ _)) dX8_init_49 Zint k6 (by decide) rfl (fun _ _ => primI) l6 (by decide) (by decide) (by decide) (by decide) (fun f => rfl) (fun f => rfl) (fun m11 h11 => ?_)
  refine bp_putr (j := 0) (P' := PL [806, 809]) h11 dX8_init_51 rfl rX8_27 (by omega) k0 (rra 6 (Nat.le_add_right _ _) (fun _ => rfl)) PL_t (fun m12 h12 => ?_)
  refine wp_aload_n dX8_init_54 rfl ?_
  refine wp_bipush (12 : Int32) dX8_init_55 (by decide) ?_
  refine bp_newarr (q := 21) (N := 12) h12 (hF _ (Nat.le_add_right _ _)) dX8_init_57 Zint k7 (by decide) rfl (fun _ _ => primI) l7 (by decide) (by decide) (by decide) (by decide) (fun f => rfl) (fun f => rfl) (fun m13 h13 => ?_)
  refine bp_putr (j := 0) (P' := PL [809]) h13 dX8_init_59 rfl rX8_30 (by omega) k0 (rra 7 (Nat.le_add_right _ _) (fun _ => rfl)) PL_t (fun m14 h14 => ?_)
  refine wp_aload_n dX8_init_62 rfl ?_
  refine wp_bipush (64 : Int32) dX8_init_63 (by decide) ?_
  refine bp_newarr (q := 22) (N := 64) h14 (hF _ (Nat.le_add_right _ _)) dX8_init_65 Zlong k8 (by decide) rfl (fun _ _ => primJ) l8 (by decide) (by decide) (by decide) (by decide) (fun f => rfl) (fun f => rfl) (fun m15 h15 => ?_)
  refine bp_putr (j := 0) (P' := PL []) h15 dX8_init_67 rfl rX8_33 (by omega) k0 (rra 8 (Nat.le_add_right _ _) (fun _ => rfl)) PL_t (fun m16 h16 => ?_)
  exact wp_vret dX8_init_70 rfl (k _ (h16.mono (fun j f _ h => absurd h.2 List.not_mem_nil) (fun j f _ => rfl) (fun j f _ => rfl)))

theorem C_X5_init {G : Cx} {d o : Nat} {m : Mm} {Q : Option Value → Mm → Prop} (hn : mN m = o + 1) (hF : Fr G m o) (k0 : kd (o + 0) = 5) (k : ∀ m', Ct G m m' o 1 (fun j' f' => if j' = 0 ∧ f' = 503 then 1361 else (fun j' f' => if j' = 0 ∧ f' = 500 then 6000 else Z2 j' f') j' f') Z2 → Q none m') : WPM G (d + 1) (0, 0) μX5_init [.ref (gB G + (o + 0))] m Q := by
  have h0 : Bd G m m o 1 Z2 Z2 (PL []) := Bd_start hn hF k0 (by decide) (fun f hf => ⟨rfl, hf⟩)
  refine WPM.of pX5 (Nat.le_of_ble_eq_true rfl) rfl ?_
  refine wp_aload_n dX5_init_0 rfl ?_
  refine wp_objInit dX5_init_1 OX5_1 Oin Oco (Nat.le_of_ble_eq_true rfl) ?_
  refine wp_aload_n dX5_init_4 rfl ?_
  refine wp_sipush (6000 : Int32) dX5_init_5 (by decide) ?_
  refine bp_puti (j := 0) h0 dX5_init_8 pX5_7 (by omega) k0 (fun m1 h1 => ?_)
  refine wp_aload_n dX5_init_11 rfl ?_
  refine wp_sipush (1361 : Int32) dX5_init_12 (by decide) ?_
  refine bp_puti (j := 0) h1 dX5_init_15 pX5_13 (by omega) k0 (fun m2 h2 => ?_)
  exact wp_vret dX5_init_18 rfl (k _ (h2.mono (fun j f _ h => absurd h.2 List.not_mem_nil) (fun j f _ => rfl) (fun j f _ => rfl)))

theorem dvX0 : ∀ k, k < 15 → parseFieldDescriptor (TX0 k).2.2.1 = some (tyX0 k) ∧ ∃ t, (fty 0)[k]? = some t ∧ defaultValue (tyX0 k) = dvl t := fun k hk => ⟨tyX0_ok k hk, by revert k; decide +kernel⟩
theorem dvX1 : ∀ k, k < 8 → parseFieldDescriptor (TX1 k).2.2.1 = some (tyX1 k) ∧ ∃ t, (fty 1)[k]? = some t ∧ defaultValue (tyX1 k) = dvl t := fun k hk => ⟨tyX1_ok k hk, by revert k; decide +kernel⟩
theorem dvX2 : ∀ k, k < 3 → parseFieldDescriptor (TX2 k).2.2.1 = some (tyX2 k) ∧ ∃ t, (fty 2)[k]? = some t ∧ defaultValue (tyX2 k) = dvl t := fun k hk => ⟨tyX2_ok k hk, by revert k; decide +kernel⟩
theorem dvX3 : ∀ k, k < 7 → parseFieldDescriptor (TX3 k).2.2.1 = some (tyX3 k) ∧ ∃ t, (fty 3)[k]? = some t ∧ defaultValue (tyX3 k) = dvl t := fun k hk => ⟨tyX3_ok k hk, by revert k; decide +kernel⟩
theorem dvX4 : ∀ k, k < 17 → parseFieldDescriptor (TX4 k).2.2.1 = some (tyX4 k) ∧ ∃ t, (fty 4)[k]? = some t ∧ defaultValue (tyX4 k) = dvl t := fun k hk => ⟨tyX4_ok k hk, by revert k; decide +kernel⟩
theorem dvX5 : ∀ k, k < 6 → parseFieldDescriptor (TX5 k).2.2.1 = some (tyX5 k) ∧ ∃ t, (fty 5)[k]? = some t ∧ defaultValue (tyX5 k) = dvl t := fun k hk => ⟨tyX5_ok k hk, by revert k; decide +kernel⟩
theorem dvX6 : ∀ k, k < 6 → parseFieldDescriptor (TX6 k).2.2.1 = some (tyX6 k) ∧ ∃ t, (fty 6)[k]? = some t ∧ defaultValue (tyX6 k) = dvl t := fun k hk => ⟨tyX6_ok k hk, by revert k; decide +kernel⟩
theorem dvX7 : ∀ k, k < 14 → parseFieldDescriptor (TX7 k).2.2.1 = some (tyX7 k) ∧ ∃ t, (fty 7)[k]? = some t ∧ defaultValue (tyX7 k) = dvl t := fun k hk => ⟨tyX7_ok k hk, by revert k; decide +kernel⟩
theorem dvX8 : ∀ k, k < 10 → parseFieldDescriptor (TX8 k).2.2.1 = some (tyX8 k) ∧ ∃ t, (fty 8)[k]? = some t ∧ defaultValue (tyX8 k) = dvl t := fun k hk => ⟨tyX8_ok k hk, by revert k; decide +kernel⟩
theorem dvX9 : ∀ k, k < 4 → parseFieldDescriptor (TX9 k).2.2.1 = some (tyX9 k) ∧ ∃ t, (fty 9)[k]? = some t ∧ defaultValue (tyX9 k) = dvl t := fun k hk => ⟨tyX9_ok k hk, by revert k; decide +kernel⟩
theorem dvX10 : ∀ k, k < 5 → parseFieldDescriptor (TX10 k).2.2.1 = some (tyX10 k) ∧ ∃ t, (fty 10)[k]? = some t ∧ defaultValue (tyX10 k) = dvl t := fun k hk => ⟨tyX10_ok k hk, by revert k; decide +kernel⟩
theorem C_X7_init {G : Cx} {d o : Nat} {m : Mm} {Q : Option Value → Mm → Prop} (hn : mN m = o + 1) (hF : Fr G m o) (k0 : kd (o + 0) = 7) (k1 : kd (o + 1) = 20) (l1 : ln (o + 1) = 500) (k2 : kd (o + 2) = 8) (k3 : kd (o + 3) = 21) (l3 : ln (o + 3) = 500) (k4 : kd (o + 4) = 21) (l4 : ln (o + 4) = 500) (k5 : kd (o + 5) = 21) (l5 : ln (o + 5) = 12) (k6 : kd (o + 6) = 21) (l6 : ln (o + 6) = 12) (k7 : kd (o + 7) = 21) (l7 : ln (o + 7) = 12) (k8 : kd (o + 8) = 21) (l8 : ln (o + 8) = 12) (k9 : kd (o + 9) = 21) (l9 : ln (o + 9) = 12) (k10 : kd (o + 10) = 22) (l10 : ln (o + 10) = 64) (k11 : kd (o + 11) = 21) (l11 : ln (o + 11) = 501) (k12 : kd (o + 12) = 21) (l12 : ln (o + 12) = 501) (k13 : kd (o + 13) = 21) (l13 : ln (o + 13) = 501) (k : ∀ m', Ct G m m' o 14 (fun j' f' => if j' = 0 ∧ f' = 703 then (-1) else Z2 j' f') Z2 → Q none m') : WPM G (d + 2) (13, 3137) μX7_init [.ref (gB G + (o + 0))] m Q := by
  have h0 : Bd G m m o 1 Z2 Z2 (PL [700, 704, 705, 706, 707]) := Bd_start hn hF k0 (by decide) (fun f hf => ⟨rfl, hf⟩)
  refine WPM.of pX7 (Nat.le_of_ble_eq_true rfl) rfl ?_
  refine wp_aload_n dX7_init_0 rfl ?_
  refine wp_objInit dX7_init_1 OX7_3 Oin Oco (Nat.le_of_ble_eq_true rfl) ?_
  refine wp_aload_n dX7_init_4 rfl ?_
  refine wp_sipush (500 : Int32) dX7_init_5 (by decide) ?_
  refine bp_newarr (q := 20) (N := 500) h0 (hF _ (Nat.le_add_right _ _)) dX7_init_8 Zbyte k1 (by decide) rfl (fun _ _ => primB) l1 (by decide) (by decide) (by decide) (by decide) (fun f => rfl) (fun f => rfl) (fun m1 h1 => ?_)
  refine bp_putr (j := 0) (P' := PL [704, 705, 706, 707]) h1 dX7_init_10 rfl rX7_9 (by omega) k0 (rra 1 (Nat.le_add_right _ _) (fun _ => rfl)) PL_t (fun m2 h2 => ?_)
  refine wp_aload_n dX7_init_13 rfl ?_
  refine wp_iconst (-1 : Int32) dX7_init_14 (by decide) ?_
  refine bp_puti (j := 0) h2 dX7_init_15 pX7_15 (by omega) k0 (fun m3 h3 => ?_)
  refine wp_aload_n dX7_init_18 rfl ?_
  refine bp_new (ci := 8) tyX8 h3 (hF _ (Nat.le_add_right _ _)) dX7_init_19 rfl CX7_19 IX8 iX8 uw8 dvX8 k2 ?_
  refine wp_dup dX7_init_22 rfl ?_
  refine wp_callIN (As := []) (b' := (8, 1124)) (b := (3, 1503)) dX7_init_23 MX7_21 rfl rfl (Nat.le_of_ble_eq_true rfl) ?_
  refine C_X8_init (o := o + 2) rfl (h3.fr (fun j hj => hF j (by omega))) k2 k3 l3 k4 l4 k5 l5 k6 l6 k7 l7 k8 l8 k9 l9 k10 l10 (fun m4 th4 => ?_)
  have h4 := Bd_ct h3 th4 (fun j f _ => (if_neg (by omega)).symm) (fun j f _ => rfl)
  refine bp_putr (j := 0) (P' := PL [705, 706, 707]) h4 dX7_init_26 rfl rX7_22 (by omega) k0 (rra 2 (Nat.le_add_right _ _) (fun _ => rfl)) PL_t (fun m5 h5 => ?_)
  refine wp_aload_n dX7_init_29 rfl ?_
  refine wp_sipush (501 : Int32) dX7_init_30 (by decide) ?_
  refine bp_newarr (q := 21) (N := 501) h5 (hF _ (Nat.le_add_right _ _)) dX7_init_33 Zint k11 (by decide) rfl (fun _ _ => primI) l11 (by decide) (by decide) (by decide) (by decide) (fun f => (if_neg (by omega))) (fun f => rfl) (fun m6 h6 => ?_)
  refine bp_putr (j := 0) (P' := PL [706, 707]) h6 dX7_init_35 rfl rX7_26 (by omega) k0 (rra 11 (Nat.le_add_right _ _) (fun _ => rfl)) PL_t (fun m7 h7 => ?_)
  refine wp_aload_n dX7_init_38 rfl ?_
  refine wp_sipush (501 : Int32) dX7_init_39 (by decide) ?_
  refine bp_newarr (q := 21) (N := 501) h7 (hF _ (Nat.le_add_right _ _)) dX7_init_42 Zint k12 (by decide) rfl (fun _ _ => primI) l12 (by decide) (by decide) (by decide) (by decide) (fun f => (if_neg (by omega))) (fun f => rfl) (fun m8 h8 => ?_)
  refine bp_putr (j := 0) (P' := PL [707]) h8 dX7_init_44 rfl rX7_30 (by omega) k0 (rra 12 (Nat.le_add_right _ _) (fun _ => rfl)) PL_t (fun m9 h9 => ?_)
  refine wp_aload_n dX7_init_47 rfl ?_
  refine wp_sipush (501 : Int32) dX7_init_48 (by decide) ?_
  refine bp_newarr (q := 21) (N := 501) h9 (hF _ (Nat.le_add_right _ _)) dX7_init_51 Zint k13 (by decide) rfl (fun _ _ => primI) l13 (by decide) (by decide) (by decide) (by decide) (fun f => (if_neg (by omega))) (fun f => rfl) (fun m10 h10 => ?_)
  refine bp_putr (j := 0) (P' := PL []) h10 dX7_init_53 rfl rX7_33 (by omega) k0 (rra 13 (Nat.le_add_right _ _) (fun _ => rfl)) PL_t (fun m11 h11 => ?_)
  exact wp_vret dX7_init_56 rfl (k _ (h11.mono (fun j f _ h => absurd h.2 List.not_mem_nil) (fun j f _ => rfl) (fun j f _ => rfl)))
