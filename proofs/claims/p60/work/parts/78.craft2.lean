def vC : Nat → Nat → Int32 := fun j f => if j = 6 ∧ f = 503 then 1361 else if j = 6 ∧ f = 500 then 6000 else 0
theorem vC_n {j f : Nat} (h : j ≠ 6) : vC j f = 0 := by
  unfold vC
  rw [if_neg (fun z => h z.1), if_neg (fun z => h z.1)]
theorem v5_eq {j f : Nat} (hj : j < 1) : (fun j' f' => if j' = 0 ∧ f' = 503 then 1361 else (fun j' f' => if j' = 0 ∧ f' = 500 then 6000 else Z2 j' f') j' f') j f = vC (6 + j) f := by
  have e : j = 0 := by omega
  subst e
  unfold vC
  simp
theorem PX_m {L : List Nat} {a1 a2 b1 b2 c1 c2 e1 e2 a2' b2' c2' e2' j f : Nat} (h : PX L a1 a2 b1 b2 c1 c2 e1 e2 j f) (h1 : a2 ≤ a2') (h2 : b2 ≤ b2') (h3 : c2 ≤ c2') (h4 : e2 ≤ e2') : PX L a1 a2' b1 b2' c1 c2' e1 e2' j f := by
  rcases h with h | h | h | h | h
  · exact Or.inl h
  · exact Or.inr (Or.inl ⟨h.1, h.2.1, by omega⟩)
  · exact Or.inr (Or.inr (Or.inl ⟨h.1, h.2.1, by omega⟩))
  · exact Or.inr (Or.inr (Or.inr (Or.inl ⟨h.1, h.2.1, by omega⟩)))
  · exact Or.inr (Or.inr (Or.inr (Or.inr ⟨h.1, h.2.1, by omega⟩)))
def VC : Nat → Nat → Int32 := fun j f => if j = 0 ∧ f = 13 then 10 else vC j f
theorem VC_n {j f : Nat} (h : j ≠ 6) (h0 : j ≠ 0) : VC j f = 0 := by
  unfold VC
  rw [if_neg (fun z => h0 z.1), vC_n h]

theorem C_X0_init {G : Cx} {d o : Nat} {m : Mm} {Q : Option Value → Mm → Prop} (hn : mN m = o + 1) (hF : Fr G m o) (k0 : kd (o + 0) = 0) (k1 : kd (o + 1) = 24) (l1 : ln (o + 1) = 12) (k2 : kd (o + 2) = 25) (l2 : ln (o + 2) = 24) (k3 : kd (o + 3) = 26) (l3 : ln (o + 3) = 6) (k4 : kd (o + 4) = 27) (l4 : ln (o + 4) = 8) (k5 : kd (o + 5) = 21) (l5 : ln (o + 5) = 8) (k6 : kd (o + 6) = 5) (k7 : kd (o + 7) = 9) (k8 : kd (o + 8) = 6) (k9 : kd (o + 9) = 21) (l9 : ln (o + 9) = 12) (k10 : kd (o + 10) = 8) (k11 : kd (o + 11) = 21) (l11 : ln (o + 11) = 500) (k12 : kd (o + 12) = 21) (l12 : ln (o + 12) = 500) (k13 : kd (o + 13) = 21) (l13 : ln (o + 13) = 12) (k14 : kd (o + 14) = 21) (l14 : ln (o + 14) = 12) (k15 : kd (o + 15) = 21) (l15 : ln (o + 15) = 12) (k16 : kd (o + 16) = 21) (l16 : ln (o + 16) = 12) (k17 : kd (o + 17) = 21) (l17 : ln (o + 17) = 12) (k18 : kd (o + 18) = 22) (l18 : ln (o + 18) = 64) (kNa : ∀ i, i < 12 → kd (o + (19 + i)) = 4) (kNb : ∀ i, i < 24 → kd (o + (31 + i)) = 2) (kNc : ∀ i, i < 6 → kd (o + (55 + i)) = 3) (kNe : ∀ i, i < 8 → kd (o + (61 + i)) = 1) (k : ∀ m', Ct G m m' o 69 VC Z2 → Q none m') : WPM G (d + 2) (68, 1602) μX0_init [.ref (gB G + (o + 0))] m Q := by
  have h0 : Bd G m m o 1 vC Z2 (PX [0, 1, 2, 3, 4, 9, 10, 11, 12] 0 0 0 0 0 0 0 0) := (Bd_start (P := PX [0, 1, 2, 3, 4, 9, 10, 11, 12] 0 0 0 0 0 0 0 0) hn hF k0 (by decide) (fun f hf => Or.inl ⟨rfl, hf⟩)).mono (fun _ _ _ z => z) (fun j f hj => vC_n (by omega)) (fun _ _ _ => rfl)
  refine WPM.of pX0 (Nat.le_of_ble_eq_true rfl) rfl ?_
  refine wp_aload_n dX0_init_0 rfl ?_
  refine wp_objInit dX0_init_1 OX0_3 Oin Oco (Nat.le_of_ble_eq_true rfl) ?_
  refine wp_aload_n dX0_init_4 rfl ?_
  refine wp_bipush (12 : Int32) dX0_init_5 (by decide) ?_
  refine bp_anew (q := 24) (N := 12) (P' := PX [0, 1, 2, 3, 4, 9, 10, 11, 12] 0 12 0 0 0 0 0 0) h0 (hF _ (Nat.le_add_right _ _)) dX0_init_7 CX0_9 VX4 k1 (by decide) rfl l1 (by decide) (by decide) (fun j f hj z => PX_m z (by decide) (by decide) (by decide) (by decide)) (fun f z1 z2 => Or.inr (Or.inl ⟨rfl, z1, z2⟩)) (fun f => vC_n (by omega)) (fun f => rfl) (fun m1 h1 => ?_)
  refine bp_putr (j := 0) (P' := PX [1, 2, 3, 4, 9, 10, 11, 12] 0 12 0 0 0 0 0 0) h1 dX0_init_10 rfl rX0_11 (by omega) k0 (rra 1 (Nat.le_add_right _ _) (fun _ => rfl)) PX_t (fun m2 h2 => ?_)
  refine wp_aload_n dX0_init_13 rfl ?_
  refine wp_bipush (24 : Int32) dX0_init_14 (by decide) ?_
  refine bp_anew (q := 25) (N := 24) (P' := PX [1, 2, 3, 4, 9, 10, 11, 12] 0 12 0 24 0 0 0 0) h2 (hF _ (Nat.le_add_right _ _)) dX0_init_16 CX0_17 VX2 k2 (by decide) rfl l2 (by decide) (by decide) (fun j f hj z => PX_m z (by decide) (by decide) (by decide) (by decide)) (fun f z1 z2 => Or.inr (Or.inr (Or.inl ⟨rfl, z1, z2⟩))) (fun f => vC_n (by omega)) (fun f => rfl) (fun m3 h3 => ?_)
  refine bp_putr (j := 0) (P' := PX [2, 3, 4, 9, 10, 11, 12] 0 12 0 24 0 0 0 0) h3 dX0_init_19 rfl rX0_19 (by omega) k0 (rra 2 (Nat.le_add_right _ _) (fun _ => rfl)) PX_t (fun m4 h4 => ?_)
  refine wp_aload_n dX0_init_22 rfl ?_
  refine wp_bipush (6 : Int32) dX0_init_23 (by decide) ?_
  refine bp_anew (q := 26) (N := 6) (P' := PX [2, 3, 4, 9, 10, 11, 12] 0 12 0 24 0 6 0 0) h4 (hF _ (Nat.le_add_right _ _)) dX0_init_25 CX0_23 VX3 k3 (by decide) rfl l3 (by decide) (by decide) (fun j f hj z => PX_m z (by decide) (by decide) (by decide) (by decide)) (fun f z1 z2 => Or.inr (Or.inr (Or.inr (Or.inl ⟨rfl, z1, z2⟩)))) (fun f => vC_n (by omega)) (fun f => rfl) (fun m5 h5 => ?_)
  refine bp_putr (j := 0) (P' := PX [3, 4, 9, 10, 11, 12] 0 12 0 24 0 6 0 0) h5 dX0_init_28 rfl rX0_25 (by omega) k0 (rra 3 (Nat.le_add_right _ _) (fun _ => rfl)) PX_t (fun m6 h6 => ?_)
  refine wp_aload_n dX0_init_31 rfl ?_
  refine wp_bipush (8 : Int32) dX0_init_32 (by decide) ?_
  refine bp_anew (q := 27) (N := 8) (P' := PX [3, 4, 9, 10, 11, 12] 0 12 0 24 0 6 0 8) h6 (hF _ (Nat.le_add_right _ _)) dX0_init_34 CX0_29 VX1 k4 (by decide) rfl l4 (by decide) (by decide) (fun j f hj z => PX_m z (by decide) (by decide) (by decide) (by decide)) (fun f z1 z2 => Or.inr (Or.inr (Or.inr (Or.inr ⟨rfl, z1, z2⟩)))) (fun f => vC_n (by omega)) (fun f => rfl) (fun m7 h7 => ?_)
  refine bp_putr (j := 0) (P' := PX [4, 9, 10, 11, 12] 0 12 0 24 0 6 0 8) h7 dX0_init_37 rfl rX0_31 (by omega) k0 (rra 4 (Nat.le_add_right _ _) (fun _ => rfl)) PX_t (fun m8 h8 => ?_)
  refine wp_aload_n dX0_init_40 rfl ?_
  refine wp_bipush (8 : Int32) dX0_init_41 (by decide) ?_
  refine bp_newarr (q := 21) (N := 8) h8 (hF _ (Nat.le_add_right _ _)) dX0_init_43 Zint k5 (by decide) rfl (fun _ _ => primI) l5 (by decide) (by decide) (by decide) (by decide) (fun f => vC_n (by omega)) (fun f => rfl) (fun m9 h9 => ?_)
  refine bp_putr (j := 0) (P' := PX [9, 10, 11, 12] 0 12 0 24 0 6 0 8) h9 dX0_init_45 rfl rX0_35 (by omega) k0 (rra 5 (Nat.le_add_right _ _) (fun _ => rfl)) PX_t (fun m10 h10 => ?_)
  refine wp_aload_n dX0_init_48 rfl ?_
  refine bp_new (n := 6) (ci := 5) (N := 6) (b1 := 62) (b2 := 1538) tyX5 h10 (hF (o + 6) (Nat.le_add_right _ _)) dX0_init_49 rfl CX0_39 IX5 iX5 uw5 dvX5 k6 ?_
  refine wp_dup dX0_init_52 rfl ?_
  refine wp_callI (As := []) (b' := (0, 0)) (b := (62, 1538)) dX0_init_53 MX0_41 rfl rfl (Nat.le_of_ble_eq_true rfl) ?_
  refine C_X5_init (o := o + 6) rfl (h10.fr (fun j hj => hF j (by omega))) k6 (fun m11 th11 => ?_)
  have h11 := Bd_ct h10 th11 (fun j f hj => (v5_eq hj)) (fun j f _ => rfl)
  refine bp_putr (j := 0) (P' := PX [10, 11, 12] 0 12 0 24 0 6 0 8) h11 dX0_init_56 rfl rX0_42 (by omega) k0 (rra 6 (Nat.le_add_right _ _) (fun _ => rfl)) PX_t (fun m12 h12 => ?_)
  refine wp_aload_n dX0_init_59 rfl ?_
  refine bp_new (n := 7) (ci := 9) (N := 4) (b1 := 61) (b2 := 1534) tyX9 h12 (hF (o + 7) (Nat.le_add_right _ _)) dX0_init_60 rfl CX0_46 IX9 iX9 uw9 dvX9 k7 ?_
  refine wp_dup dX0_init_63 rfl ?_
  refine wp_callIN (As := []) (b' := (0, 0)) (b := (61, 1534)) dX0_init_64 MX0_48 rfl rfl (Nat.le_of_ble_eq_true rfl) ?_
  refine C_X9_init ?_
  have h13 := Bd_new (P' := PX [10, 11, 12] 0 12 0 24 0 6 0 8) h12 (hF _ (Nat.le_add_right _ _)) (fun _ _ _ z => z) (fun f z => by rw [nrl_sc (by rw [k7]; decide) (by rw [k7]; decide)] at z; cases z) (fun f => vC_n (by omega)) (fun f => rfl)
  refine bp_putr (j := 0) (P' := PX [11, 12] 0 12 0 24 0 6 0 8) h13 dX0_init_67 rfl rX0_49 (by omega) k0 (rra 7 (Nat.le_add_right _ _) (fun _ => rfl)) PX_t (fun m14 h14 => ?_)
  refine wp_aload_n dX0_init_70 rfl ?_
  refine bp_new (n := 8) (ci := 6) (N := 6) (b1 := 60) (b2 := 1528) tyX6 h14 (hF (o + 8) (Nat.le_add_right _ _)) dX0_init_71 rfl CX0_53 IX6 iX6 uw6 dvX6 k8 ?_
  refine wp_dup dX0_init_74 rfl ?_
  refine wp_callIN (As := []) (b' := (1, 12)) (b := (59, 1516)) dX0_init_75 MX0_55 rfl rfl (Nat.le_of_ble_eq_true rfl) ?_
  refine C_X6_init (o := o + 8) rfl (h14.fr (fun j hj => hF j (by omega))) k8 k9 l9 (fun m15 th15 => ?_)
  have h15 := Bd_ct h14 th15 (fun j f hj => (vC_n (by omega)).symm) (fun j f _ => rfl)
  refine bp_putr (j := 0) (P' := PX [12] 0 12 0 24 0 6 0 8) h15 dX0_init_78 rfl rX0_56 (by omega) k0 (rra 8 (Nat.le_add_right _ _) (fun _ => rfl)) PX_t (fun m16 h16 => ?_)
  refine wp_aload_n dX0_init_81 rfl ?_
  refine bp_new (n := 10) (ci := 8) (N := 10) (b1 := 58) (b2 := 1506) tyX8 h16 (hF (o + 10) (Nat.le_add_right _ _)) dX0_init_82 rfl CX0_60 IX8 iX8 uw8 dvX8 k10 ?_
  refine wp_dup dX0_init_85 rfl ?_
  refine wp_callIN (As := []) (b' := (8, 1124)) (b := (50, 382)) dX0_init_86 MX0_62 rfl rfl (Nat.le_of_ble_eq_true rfl) ?_
  refine C_X8_init (o := o + 10) rfl (h16.fr (fun j hj => hF j (by omega))) k10 k11 l11 k12 l12 k13 l13 k14 l14 k15 l15 k16 l16 k17 l17 k18 l18 (fun m17 th17 => ?_)
  have h17 := Bd_ct h16 th17 (fun j f hj => (vC_n (by omega)).symm) (fun j f _ => rfl)
  refine bp_putr (j := 0) (P' := PX [] 0 12 0 24 0 6 0 8) h17 dX0_init_89 rfl rX0_63 (by omega) k0 (rra 10 (Nat.le_add_right _ _) (fun _ => rfl)) PX_t (fun m18 h18 => ?_)
  refine wp_aload_n dX0_init_92 rfl ?_
  refine wp_bipush (10 : Int32) dX0_init_93 (by decide) ?_
  refine bp_puti (j := 0) h18 dX0_init_95 pX0_67 (by omega) k0 (fun m19 h19 => ?_)
  have h20 : Bd G m m19 o 19 VC Z2 (PX [] 0 12 0 24 0 6 0 8) := h19.mono (fun _ _ _ z => z) (fun _ _ _ => rfl) (fun _ _ _ => rfl)
  refine wp_iconst (0 : Int32) dX0_init_98 (by decide) ?_
  refine wp_istore_n dX0_init_99 (by decide) rfl ?_
  refine La_X0 (o := o) (R1 := 38) (R2 := 178) (V := VC) (A := Z2) hF k0 k1 l1 (fun i hi => kNa i hi) (fun i f hi => VC_n (by omega) (by omega)) (fun _ _ _ => rfl) h20 (fun m21 h21 => ?_)
  refine wp_iconst (0 : Int32) dX0_init_125 (by decide) ?_
  refine wp_istore_n dX0_init_126 (by decide) rfl ?_
  refine Lb_X0 (o := o) (R1 := 14) (R2 := 106) (V := VC) (A := Z2) hF k0 k2 l2 (fun i hi => kNb i hi) (fun i f hi => VC_n (by omega) (by omega)) (fun _ _ _ => rfl) h21 (fun m22 h22 => ?_)
  refine wp_iconst (0 : Int32) dX0_init_152 (by decide) ?_
  refine wp_istore_n dX0_init_153 (by decide) rfl ?_
  refine Lc_X0 (o := o) (R1 := 8) (R2 := 64) (V := VC) (A := Z2) hF k0 k3 l3 (fun i hi => kNc i hi) (fun i f hi => VC_n (by omega) (by omega)) (fun _ _ _ => rfl) h22 (fun m23 h23 => ?_)
  refine wp_iconst (0 : Int32) dX0_init_179 (by decide) ?_
  refine wp_istore_n dX0_init_180 (by decide) rfl ?_
  refine Le_X0 (o := o) (R1 := 0) (R2 := 0) (V := VC) (A := Z2) hF k0 k4 l4 (fun i hi => kNe i hi) (fun i f hi => VC_n (by omega) (by omega)) (fun _ _ _ => rfl) h23 (fun m24 h24 => ?_)
  exact wp_vret dX0_init_206 rfl (k _ (h24.mono (fun j f _ z => by unfold PX at z; simp only [List.not_mem_nil, and_false, false_or] at z; omega) (fun _ _ _ => rfl) (fun _ _ _ => rfl)))
