theorem C_X0o {G : Cx} {d o : Nat} {m : Mm} {Q : Option Value → Mm → Prop} (ho : o = 1 ∨ o = 70 ∨ o = 140 ∨ o = 209) (hn : mN m = o + 1) (hF : Fr G m o) (k : ∀ m', Ct G m m' o 69 VC Z2 → Q none m') : WPM G (d + 2) (68, 1602) μX0_init [.ref (gB G + (o + 0))] m Q := by
  rcases ho with e | e | e | e <;> subst e <;> exact C_X0_init hn hF (by decide +kernel) (by decide +kernel) (by decide +kernel) (by decide +kernel) (by decide +kernel) (by decide +kernel) (by decide +kernel) (by decide +kernel) (by decide +kernel) (by decide +kernel) (by decide +kernel) (by decide +kernel) (by decide +kernel) (by decide +kernel) (by decide +kernel) (by decide +kernel) (by decide +kernel) (by decide +kernel) (by decide +kernel) (by decide +kernel) (by decide +kernel) (by decide +kernel) (by decide +kernel) (by decide +kernel) (by decide +kernel) (by decide +kernel) (by decide +kernel) (by decide +kernel) (by decide +kernel) (by decide +kernel) (by decide +kernel) (by decide +kernel) (by decide +kernel) (by decide +kernel) (by decide +kernel) (by decide +kernel) (by decide +kernel) k
def V7 : Nat → Nat → Int32 := (fun j' f' => if j' = 0 ∧ f' = 703 then (-1) else Z2 j' f')
def VV : Nat → Nat → Int32 := fun j f => if 1 ≤ j ∧ j < 70 then VC (j - 1) f else if 70 ≤ j ∧ j < 139 then VC (j - 70) f else if 140 ≤ j ∧ j < 209 then VC (j - 140) f else if 209 ≤ j ∧ j < 278 then VC (j - 209) f else if 279 ≤ j ∧ j < 293 then V7 (j - 279) f else 0
def PY (L : List Nat) (a1 a2 : Nat) : Nat → Nat → Prop := fun j f => (j = 0 ∧ f ∈ L) ∨ (j = 139 ∧ 100000 + a1 ≤ f ∧ f < 100000 + a2)
theorem PY_t {n : Nat} {L : List Nat} {f a1 a2 : Nat} : ∀ j' f', j' < n → PY (f :: L) a1 a2 j' f' → PY L a1 a2 j' f' ∨ (j' = 0 ∧ f' = f) := fun j' f' _ h => by
  rcases h with ⟨h1, h2⟩ | h
  · rcases List.mem_cons.mp h2 with e | e
    · exact Or.inr ⟨h1, e⟩
    · exact Or.inl (Or.inl ⟨h1, e⟩)
  · exact Or.inl (Or.inr h)
theorem VV_0 {j f : Nat} (h : j = 0 ∨ j = 139 ∨ j = 278) : VV j f = 0 := by
  unfold VV
  rw [if_neg (by omega), if_neg (by omega), if_neg (by omega), if_neg (by omega), if_neg (by omega)]
theorem VV_1 {j f : Nat} (h : j < 69) : VC j f = VV (1 + j) f := by
  unfold VV
  rw [if_pos (by omega), Nat.add_sub_cancel_left]
theorem VV_2 {j f : Nat} (h : j < 69) : VC j f = VV (70 + j) f := by
  unfold VV
  rw [if_neg (by omega), if_pos (by omega), Nat.add_sub_cancel_left]
theorem VV_3 {j f : Nat} (h : j < 69) : VC j f = VV (140 + j) f := by
  unfold VV
  rw [if_neg (by omega), if_neg (by omega), if_pos (by omega), Nat.add_sub_cancel_left]
theorem VV_4 {j f : Nat} (h : j < 69) : VC j f = VV (209 + j) f := by
  unfold VV
  rw [if_neg (by omega), if_neg (by omega), if_neg (by omega), if_pos (by omega), Nat.add_sub_cancel_left]
theorem VV_7 {j f : Nat} (h : j < 14) : V7 j f = VV (279 + j) f := by
  unfold VV
  rw [if_neg (by omega), if_neg (by omega), if_neg (by omega), if_neg (by omega), if_pos (by omega), Nat.add_sub_cancel_left]

theorem C_X10_init {G : Cx} {d : Nat} {m : Mm} {Q : Option Value → Mm → Prop} (hn : mN m = 0 + 1) (hF : Fr G m 0) (k : ∀ m', Ct G m m' 0 293 VV Z2 → Q none m') : WPM G (d + 3) (292, 9623) μX10_init [.ref (gB G + (0 + 0))] m Q := by
  have h0 : Bd G m m 0 1 VV Z2 (PY [1000, 1001, 1002, 1003, 1004] 0 0) := (Bd_start (P := PY [1000, 1001, 1002, 1003, 1004] 0 0) hn hF (ci := 10) rfl (by decide) (fun f hf => Or.inl ⟨rfl, hf⟩)).mono (fun _ _ _ z => z) (fun j f hj => VV_0 (by omega)) (fun _ _ _ => rfl)
  refine WPM.of pX10 (Nat.le_of_ble_eq_true rfl) rfl ?_
  refine wp_aload_n dX10_init_0 rfl ?_
  refine wp_objInit dX10_init_1 OX10_1 Oin Oco (Nat.le_of_ble_eq_true rfl) ?_
  refine wp_aload_n dX10_init_4 rfl ?_
  refine bp_new (o := 0) (n := 1) (ci := 0) (N := 15) (b1 := 291) (b2 := 9608) tyX0 h0 (hF (0 + 1) (Nat.le_add_right _ _)) dX10_init_5 rfl CX10_7 IX0 iX0 uw0 dvX0 (by decide +kernel) ?_
  refine wp_dup dX10_init_8 rfl ?_
  refine wp_callI (As := []) (b' := (68, 1602)) (b := (223, 8006)) dX10_init_9 MX10_9 rfl rfl (Nat.le_of_ble_eq_true rfl) ?_
  refine C_X0o (o := 0 + 1) (by decide) rfl (h0.fr (fun j hj => hF j (by omega))) (fun m1 th1 => ?_)
  have h1 := Bd_ct h0 th1 (fun j f hj => VV_1 hj) (fun j f _ => rfl)
  refine bp_putr (o := 0) (j := 0) (P' := PY [1001, 1002, 1003, 1004] 0 0) h1 dX10_init_12 rfl rX10_10 (by omega) rfl (rra 1 (Nat.le_add_right _ _) (fun _ => rfl)) PY_t (fun m2 h2 => ?_)
  refine wp_aload_n dX10_init_15 rfl ?_
  refine bp_new (o := 0) (n := 70) (ci := 0) (N := 15) (b1 := 222) (b2 := 7991) tyX0 h2 (hF (0 + 70) (Nat.le_add_right _ _)) dX10_init_16 rfl CX10_7 IX0 iX0 uw0 dvX0 (by decide +kernel) ?_
  refine wp_dup dX10_init_19 rfl ?_
  refine wp_callI (As := []) (b' := (68, 1602)) (b := (154, 6389)) dX10_init_20 MX10_9 rfl rfl (Nat.le_of_ble_eq_true rfl) ?_
  refine C_X0o (o := 0 + 70) (by decide) rfl (h2.fr (fun j hj => hF j (by omega))) (fun m3 th3 => ?_)
  have h3 := Bd_ct h2 th3 (fun j f hj => VV_2 hj) (fun j f _ => rfl)
  refine bp_putr (o := 0) (j := 0) (P' := PY [1002, 1003, 1004] 0 0) h3 dX10_init_23 rfl rX10_16 (by omega) rfl (rra 70 (Nat.le_add_right _ _) (fun _ => rfl)) PY_t (fun m4 h4 => ?_)
  refine wp_aload_n dX10_init_26 rfl ?_
  refine wp_iconst (2 : Int32) dX10_init_27 (by decide) ?_
  refine bp_anew (o := 0) (n := 139) (q := 28) (N := 2) (b1 := 153) (b2 := 6387) (P' := PY [1002, 1003, 1004] 0 2) h4 (hF (0 + 139) (Nat.le_add_right _ _)) dX10_init_28 CX10_7 VX0 (by decide +kernel) (by decide) rfl (by decide +kernel) (by decide) (by decide) (fun j f hj z => z.imp id (fun z => ⟨z.1, z.2.1, by omega⟩)) (fun f z1 z2 => Or.inr ⟨rfl, z1, z2⟩) (fun f => VV_0 (by omega)) (fun f => rfl) (fun m5 h5 => ?_)
  refine bp_putr (o := 0) (j := 0) (P' := PY [1003, 1004] 0 2) h5 dX10_init_31 rfl rX10_19 (by omega) rfl (rra 139 (Nat.le_add_right _ _) (fun _ => rfl)) PY_t (fun m6 h6 => ?_)
  refine wp_iconst (0 : Int32) dX10_init_34 (by decide) ?_
  refine wp_istore_n dX10_init_35 (by decide) rfl ?_
  refine wp_iload_n dX10_init_36 rfl ?_
  refine wp_iconst (2 : Int32) dX10_init_37 (by decide) ?_
  refine wp_icmp_ge 60 dX10_init_38 (by decide) (fun q => absurd (by decide) q) (fun _ => ?_)
  refine wp_aload_n dX10_init_41 rfl ?_
  refine wp_getr (gB G + (0 + 139)) dX10_init_42 fX10_19 (h6.isK (j := 0) (by omega) rfl) ((h6.2.2 0 (by omega) 1002).1.resolve_right (fun z => by unfold PY at z; simp at z)) (rra 139 (Nat.le_add_right _ _) (fun _ => rfl)) ?_
  refine wp_iload_n dX10_init_45 rfl ?_
  refine bp_new (o := 0) (n := 140) (ci := 0) (N := 15) (b1 := 152) (b2 := 6372) tyX0 h6 (hF (0 + 140) (Nat.le_add_right _ _)) dX10_init_46 rfl CX10_7 IX0 iX0 uw0 dvX0 (by decide +kernel) ?_
  refine wp_dup dX10_init_49 rfl ?_
  refine wp_callI (As := []) (b' := (68, 1602)) (b := (84, 4770)) dX10_init_50 MX10_9 rfl rfl (Nat.le_of_ble_eq_true rfl) ?_
  refine C_X0o (o := 0 + 140) (by decide) rfl (h6.fr (fun j hj => hF j (by omega))) (fun m7 th7 => ?_)
  have h7 := Bd_ct h6 th7 (fun j f hj => VV_3 hj) (fun j f _ => rfl)
  refine bp_rast (o := 0) (q := 28) (ci := 0) (N := 2) (k := 0) (j := 139) (jv := 140) (P' := PY [1003, 1004] 1 2) h7 dX10_init_53 (by omega) (by decide +kernel) (by decide) rfl (by decide +kernel) rfl (by decide) (by decide) (by omega) (by decide +kernel) rfl ?_ (fun j' f' _ z => ?_) (fun m8 h8 => ?_)
  · show gB G + rfo (100000 + 0) (gB G + (0 + 139) - gB G) = _
    rw [Nat.add_sub_cancel_left]
    exact congrArg (gB G + ·) (by decide +kernel)
  · rcases z with z | z
    · exact Or.inl (Or.inl z)
    · by_cases e : f' = 100000 + 0
      · exact Or.inr ⟨z.1, e⟩
      · exact Or.inl (Or.inr ⟨z.1, by omega, z.2.2⟩)
  refine wp_iinc (nI 1) dX10_init_54 rfl (by decide) (nadd (a := 0) (b := 1) (by omega)) rfl ?_
  refine wp_goto 36 dX10_init_57 (by decide) ?_
  refine wp_iload_n dX10_init_36 rfl ?_
  refine wp_iconst (2 : Int32) dX10_init_37 (by decide) ?_
  refine wp_icmp_ge 60 dX10_init_38 (by decide) (fun q => absurd (by decide) q) (fun _ => ?_)
  refine wp_aload_n dX10_init_41 rfl ?_
  refine wp_getr (gB G + (0 + 139)) dX10_init_42 fX10_19 (h8.isK (j := 0) (by omega) rfl) ((h8.2.2 0 (by omega) 1002).1.resolve_right (fun z => by unfold PY at z; simp at z)) (rra 139 (Nat.le_add_right _ _) (fun _ => rfl)) ?_
  refine wp_iload_n dX10_init_45 rfl ?_
  refine bp_new (o := 0) (n := 209) (ci := 0) (N := 15) (b1 := 83) (b2 := 4755) tyX0 h8 (hF (0 + 209) (Nat.le_add_right _ _)) dX10_init_46 rfl CX10_7 IX0 iX0 uw0 dvX0 (by decide +kernel) ?_
  refine wp_dup dX10_init_49 rfl ?_
  refine wp_callI (As := []) (b' := (68, 1602)) (b := (15, 3153)) dX10_init_50 MX10_9 rfl rfl (Nat.le_of_ble_eq_true rfl) ?_
  refine C_X0o (o := 0 + 209) (by decide) rfl (h8.fr (fun j hj => hF j (by omega))) (fun m9 th9 => ?_)
  have h9 := Bd_ct h8 th9 (fun j f hj => VV_4 hj) (fun j f _ => rfl)
  refine bp_rast (o := 0) (q := 28) (ci := 0) (N := 2) (k := 1) (j := 139) (jv := 209) (P' := PY [1003, 1004] 2 2) h9 dX10_init_53 (by omega) (by decide +kernel) (by decide) rfl (by decide +kernel) rfl (by decide) (by decide) (by omega) (by decide +kernel) rfl ?_ (fun j' f' _ z => ?_) (fun m10 h10 => ?_)
  · show gB G + rfo (100000 + 1) (gB G + (0 + 139) - gB G) = _
    rw [Nat.add_sub_cancel_left]
    exact congrArg (gB G + ·) (by decide +kernel)
  · rcases z with z | z
    · exact Or.inl (Or.inl z)
    · by_cases e : f' = 100000 + 1
      · exact Or.inr ⟨z.1, e⟩
      · exact Or.inl (Or.inr ⟨z.1, by omega, z.2.2⟩)
  refine wp_iinc (nI 2) dX10_init_54 rfl (by decide) (nadd (a := 1) (b := 1) (by omega)) rfl ?_
  refine wp_goto 36 dX10_init_57 (by decide) ?_
  refine wp_iload_n dX10_init_36 rfl ?_
  refine wp_iconst (2 : Int32) dX10_init_37 (by decide) ?_
  refine wp_icmp_ge 60 dX10_init_38 (by decide) (fun _ => ?_) (fun q => absurd q (by decide))
  refine wp_aload_n dX10_init_60 rfl ?_
  refine wp_iconst (2 : Int32) dX10_init_61 (by decide) ?_
  refine bp_newarr (o := 0) (n := 278) (q := 23) (N := 2) (b1 := 14) (b2 := 3151) h10 (hF (0 + 278) (Nat.le_add_right _ _)) dX10_init_62 Zboolean (by decide +kernel) (by decide) rfl (fun _ _ => primZ) (by decide +kernel) (by decide) (by decide) (by decide) (by decide) (fun f => VV_0 (by omega)) (fun f => rfl) (fun m11 h11 => ?_)
  refine bp_putr (o := 0) (j := 0) (P' := PY [1004] 2 2) h11 dX10_init_64 rfl rX10_23 (by omega) rfl (rra 278 (Nat.le_add_right _ _) (fun _ => rfl)) PY_t (fun m12 h12 => ?_)
  refine wp_aload_n dX10_init_67 rfl ?_
  refine bp_new (o := 0) (n := 279) (ci := 7) (N := 14) (b1 := 13) (b2 := 3137) tyX7 h12 (hF (0 + 279) (Nat.le_add_right _ _)) dX10_init_68 rfl CX10_27 IX7 iX7 uw7 dvX7 (by decide +kernel) ?_
  refine wp_dup dX10_init_71 rfl ?_
  refine wp_callIN (As := []) (b' := (13, 3137)) (b := (0, 0)) dX10_init_72 MX10_29 rfl rfl (Nat.le_of_ble_eq_true rfl) ?_
  refine C_X7_init (o := 0 + 279) rfl (h12.fr (fun j hj => hF j (by omega))) (by decide +kernel) (by decide +kernel) (by decide +kernel) (by decide +kernel) (by decide +kernel) (by decide +kernel) (by decide +kernel) (by decide +kernel) (by decide +kernel) (by decide +kernel) (by decide +kernel) (by decide +kernel) (by decide +kernel) (by decide +kernel) (by decide +kernel) (by decide +kernel) (by decide +kernel) (by decide +kernel) (by decide +kernel) (by decide +kernel) (by decide +kernel) (by decide +kernel) (by decide +kernel) (by decide +kernel) (by decide +kernel) (by decide +kernel) (fun m13 th13 => ?_)
  have h13 := Bd_ct (V1 := V7) h12 th13 (fun j f hj => VV_7 hj) (fun j f _ => rfl)
  refine bp_putr (o := 0) (j := 0) (P' := PY [] 2 2) h13 dX10_init_75 rfl rX10_30 (by omega) rfl (rra 279 (Nat.le_add_right _ _) (fun _ => rfl)) PY_t (fun m14 h14 => ?_)
  exact wp_vret dX10_init_78 rfl (k _ (h14.mono (fun j f _ z => by rcases z with z | z; exact absurd z.2 List.not_mem_nil; omega) (fun _ _ _ => rfl) (fun _ _ _ => rfl)))
