/-! A STRINGBUILDER'S toString -/
section JTS
variable {G : Cx} {d : Nat} {Λ : Lc} {X : Lx} {cs : List (Nat × Mm)} {Q : Option Value → LM → Prop} {a1 a2 a3 a4 n i : Nat} {f : Nat → Int32}
theorem s_getV {e : va_W} (k : Q (some (.ref a2)) (lws G Λ X (sbW a1 a2 n :: e), cs)) : WZM G d (0, 0) μJ5_getValue_6d5f1 [.ref a1] (lws G Λ X (sbW a1 a2 n :: e), cs) Q := by
  refine WZM.of pJ5 (Nat.le_of_ble_eq_true rfl) rfl ?_
  refine wl_aload_n dJ5_getValue_6d5f1_0 rfl ?_
  refine wl_get 4 (.ref a2) dJ5_getValue_6d5f1_1 fJ5_15 rfl rfl ?_
  exact wl_aret dJ5_getValue_6d5f1_4 rfl (Or.inr ⟨_, rfl⟩) k
theorem s_len5 {e : va_W} (k : Q (some (.int (nI n))) (lws G Λ X (sbW a1 a2 n :: e), cs)) : WZM G d (0, 0) μJ5_length_8abf5 [.ref a1] (lws G Λ X (sbW a1 a2 n :: e), cs) Q := by
  refine WZM.of pJ5 (Nat.le_of_ble_eq_true rfl) rfl ?_
  refine wl_aload_n dJ5_length_8abf5_0 rfl ?_
  refine wl_get 4 (.int (nI n)) dJ5_length_8abf5_1 fJ5_79 rfl rfl ?_
  exact wl_iret dJ5_length_8abf5_4 rfl k
theorem s_len4 {e : va_W} (k : Q (some (.int (nI n))) (lws G Λ X (sbW a1 a2 n :: e), cs)) : WZM G (d + 1) (0, 0) μJ4_length_8abf5 [.ref a1] (lws G Λ X (sbW a1 a2 n :: e), cs) Q := by
  refine WZM.of pJ4 (Nat.le_of_ble_eq_true rfl) rfl ?_
  refine wl_aload_n dJ4_length_8abf5_0 rfl ?_
  refine wl_callQ (q0 := 4) (As := []) (S := []) dJ4_length_8abf5_1 QJ4_343 rfl rfl (Nat.le_of_ble_eq_true rfl) ?_
  refine s_len5 ?_
  exact wl_iret dJ4_length_8abf5_4 rfl k
theorem s_isL2 {e : va_W} (k : Q (some (.int 1)) (lws G Λ X (sbW a1 a2 n :: e), cs)) : WZM G d (0, 0) μJ5_isLatin1_aae02 [.ref a1] (lws G Λ X (sbW a1 a2 n :: e), cs) Q := by
  refine WZM.of pJ5 (Nat.le_of_ble_eq_true rfl) rfl ?_
  refine wl_scmp dJ5_isLatin1_aae02_0 sJ5_18 ?_
  refine wl_if_eq 17 dJ5_isLatin1_aae02_3 (by decide) (fun q => absurd q (by decide)) (fun _ => ?_)
  refine wl_aload_n dJ5_isLatin1_aae02_6 rfl ?_
  refine wl_get 4 (.int 0) dJ5_isLatin1_aae02_7 fJ5_22 rfl rfl ?_
  refine wl_if_ne 17 dJ5_isLatin1_aae02_10 (by decide) (fun q => absurd rfl q) (fun _ => ?_)
  refine wl_iconst (1 : Int32) dJ5_isLatin1_aae02_13 (by decide) ?_
  refine wl_goto 18 dJ5_isLatin1_aae02_14 (by decide) ?_
  exact wl_zret dJ5_isLatin1_aae02_18 rfl rfl k
theorem s_chkLen {M : LM} (hn : n < 1000) (k : Q none M) : WZM G d (0, 0) μJ7_checkLength_df160 [.int (0 : Int32), .int (nI n)] M Q := by
  refine WZM.of pJ7 (Nat.le_of_ble_eq_true rfl) rfl ?_
  refine wl_iload_n dJ7_checkLength_df160_0 rfl ?_
  refine wl_iload_n dJ7_checkLength_df160_1 rfl ?_
  refine wl_icmp_ge 37 dJ7_checkLength_df160_2 (by decide) (fun _ => ?_) (fun z => ?_)
  · exact wl_vret dJ7_checkLength_df160_37 rfl k
  · exact absurd z (nI_pos (by omega))
theorem s_cprB {w6 : Nat × va_E} (hn : n < 16) (hfit : ∀ j, j < n → fits .byte (.int (f (0 + j))) = true) (k : ∀ a4, Q (some (.ref a4)) (lws G Λ X [sbW a1 a2 n, byW G a2 16 f, w6, byW G a4 n (va_cpy f (fun _ => 0) 0 0 n)], cs)) : WZM G (d + 1) (1, 16) μJ7_copyOfRangeByte_39247 [.ref a2, .int (0 : Int32), .int (nI n)] (lws G Λ X [sbW a1 a2 n, byW G a2 16 f, w6], cs) Q := by
  refine WZM.of pJ7 (Nat.le_of_ble_eq_true rfl) rfl ?_
  refine wl_iload_n dJ7_copyOfRangeByte_39247_0 rfl ?_
  refine wl_iload_n dJ7_copyOfRangeByte_39247_1 rfl ?_
  refine wl_callS (As := [.int (0 : Int32), .int (nI n)]) (S := []) (b' := (0, 0)) (b := (1, 16)) dJ7_copyOfRangeByte_39247_2 MJ7_343 rfl rfl (Nat.le_of_ble_eq_true rfl) ?_
  refine s_chkLen (by omega) ?_
  refine wl_iload_n dJ7_copyOfRangeByte_39247_5 rfl ?_
  refine wl_iload_n dJ7_copyOfRangeByte_39247_6 rfl ?_
  refine wl_isubv (nI n) dJ7_copyOfRangeByte_39247_7 (Int32.sub_zero _) ?_
  refine wl_istore_n dJ7_copyOfRangeByte_39247_8 (by decide) rfl ?_
  refine wl_iload_n dJ7_copyOfRangeByte_39247_9 rfl ?_
  refine wl_newb (n := n) (N := 16) (b1 := 0) (b2 := 0) dJ7_copyOfRangeByte_39247_10 rfl (by omega) (by decide) (fun a4 => ?_)
  show WZ G (d + 1) (0, 0) μJ7_copyOfRangeByte_39247 12 [.ref a2, .int (0 : Int32), .int (nI n), .int (nI n), lvU] [.ref a4] (lws G Λ X [sbW a1 a2 n, byW G a2 16 f, w6, byW G a4 n (fun _ => 0)], cs) Q
  refine wl_astore dJ7_copyOfRangeByte_39247_12 (by decide) rfl ?_
  refine wl_aload_n dJ7_copyOfRangeByte_39247_14 rfl ?_
  refine wl_iload_n dJ7_copyOfRangeByte_39247_15 rfl ?_
  refine wl_aload dJ7_copyOfRangeByte_39247_16 rfl ?_
  refine wl_iconst (0 : Int32) dJ7_copyOfRangeByte_39247_18 (by decide) ?_
  refine wl_aload_n dJ7_copyOfRangeByte_39247_19 rfl ?_
  refine wl_alen (t0 := 0) (ty := .byte) (n := 16) 5 dJ7_copyOfRangeByte_39247_20 rfl rfl rfl ?_
  refine wl_iload_n dJ7_copyOfRangeByte_39247_21 rfl ?_
  refine wl_isubv (nI 16) dJ7_copyOfRangeByte_39247_22 (Int32.sub_zero _) ?_
  refine wl_iload_n dJ7_copyOfRangeByte_39247_23 rfl ?_
  refine wl_minI dJ7_copyOfRangeByte_39247_24 AJ7_304 (Nat.le_of_ble_eq_true rfl) ?_
  have em : imin (nI 16) (nI n) = nI n := if_pos (nI_lt hn (by decide))
  rw [em]
  refine wl_copyD (c0 := 0) (c1 := 0) (sx := 0) (dx := 0) (nx := n) 5 7 (lws G Λ X [sbW a1 a2 n, byW G a2 16 f, w6, byW G a4 n (va_cpy f (fun _ => 0) 0 0 n)]) dJ7_copyOfRangeByte_39247_27 YJ7_150 rfl rfl (by omega) (by omega) (by decide) (by decide) (by omega) hfit (Nat.le_of_ble_eq_true rfl) rfl ?_
  refine wl_aload dJ7_copyOfRangeByte_39247_30 rfl ?_
  exact wl_aret dJ7_copyOfRangeByte_39247_32 rfl (Or.inr ⟨_, rfl⟩) (k a4)
theorem s_cpr {w6 : Nat × va_E} (hn : n < 16) (hfit : ∀ j, j < n → fits .byte (.int (f (0 + j))) = true) (k : ∀ a4, Q (some (.ref a4)) (lws G Λ X [sbW a1 a2 n, byW G a2 16 f, w6, byW G a4 n (va_cpy f (fun _ => 0) 0 0 n)], cs)) : WZM G (d + 2) (1, 16) μJ7_copyOfRange_39247 [.ref a2, .int (0 : Int32), .int (nI n)] (lws G Λ X [sbW a1 a2 n, byW G a2 16 f, w6], cs) Q := by
  refine WZM.of pJ7 (Nat.le_of_ble_eq_true rfl) rfl ?_
  refine wl_iload_n dJ7_copyOfRange_39247_0 rfl ?_
  refine wl_if_ne 10 dJ7_copyOfRange_39247_1 (by decide) (fun z => absurd rfl z) (fun _ => ?_)
  refine wl_iload_n dJ7_copyOfRange_39247_4 rfl ?_
  refine wl_aload_n dJ7_copyOfRange_39247_5 rfl ?_
  refine wl_alen (t0 := 0) (ty := .byte) (n := 16) 5 dJ7_copyOfRange_39247_6 rfl rfl rfl ?_
  refine wl_icmp_eq 17 dJ7_copyOfRange_39247_7 (by decide) (fun z => ?_) (fun _ => ?_)
  · exfalso
    have := congrArg Int32.toInt z
    rw [nI_toInt (by omega), nI_toInt (by omega)] at this
    omega
  refine wl_aload_n dJ7_copyOfRange_39247_10 rfl ?_
  refine wl_iload_n dJ7_copyOfRange_39247_11 rfl ?_
  refine wl_iload_n dJ7_copyOfRange_39247_12 rfl ?_
  refine wl_callS (As := [.ref a2, .int (0 : Int32), .int (nI n)]) (S := []) (b' := (1, 16)) (b := (0, 0)) dJ7_copyOfRange_39247_13 MJ7_339 rfl rfl (Nat.le_of_ble_eq_true rfl) ?_
  refine s_cprB hn hfit (fun a4 => ?_)
  exact wl_aret dJ7_copyOfRange_39247_16 rfl (Or.inr ⟨_, rfl⟩) (k a4)
theorem s_initS (hn : n < 16) (hfit : ∀ j, j < n → fits .byte (.int (f (0 + j))) = true) (k : ∀ a4, Q none (lws G Λ X [sbW a1 a2 n, byW G a2 16 f, stW a3 a4, byW G a4 n (va_cpy f (fun _ => 0) 0 0 n)], cs)) : WZM G (d + 3) (1, 16) μJ0_init_db425 [.ref a3, .ref a1, .null] (lws G Λ X [sbW a1 a2 n, byW G a2 16 f, st0W a3], cs) Q := by
  refine WZM.of pJ0 (Nat.le_of_ble_eq_true rfl) rfl ?_
  refine wl_aload_n dJ0_init_db425_0 rfl ?_
  refine wl_objInit dJ0_init_db425_1 OJ0_1 Oin Oco (Nat.le_of_ble_eq_true rfl) ?_
  refine wl_aload_n dJ0_init_db425_4 rfl ?_
  refine wl_callU (q0 := 4) (As := []) (S := []) dJ0_init_db425_5 UJ0_552 rfl rfl (Nat.le_of_ble_eq_true rfl) ?_
  refine s_getV ?_
  refine wl_astore_n dJ0_init_db425_8 (by decide) rfl ?_
  refine wl_aload_n dJ0_init_db425_9 rfl ?_
  refine wl_callU (q0 := 4) (As := []) (S := []) dJ0_init_db425_10 UJ0_549 rfl rfl (Nat.le_of_ble_eq_true rfl) ?_
  refine s_len4 ?_
  refine wl_istore dJ0_init_db425_13 (by decide) rfl ?_
  refine wl_aload_n dJ0_init_db425_15 rfl ?_
  refine wl_callU (q0 := 4) (As := []) (S := []) dJ0_init_db425_16 UJ0_1047 rfl rfl (Nat.le_of_ble_eq_true rfl) ?_
  refine s_isL2 ?_
  refine wl_if_eq 41 dJ0_init_db425_19 (by decide) (fun q => absurd q (by decide)) (fun _ => ?_)
  refine wl_aload_n dJ0_init_db425_22 rfl ?_
  refine wl_iconst (0 : Int32) dJ0_init_db425_23 (by decide) ?_
  refine wl_putF 6 (lws G Λ X [sbW a1 a2 n, byW G a2 16 f, st0W a3]) dJ0_init_db425_24 rfl pJ0_15 rfl (Nat.le_of_ble_eq_true rfl) rfl rfl rfl ?_
  refine wl_aload_n dJ0_init_db425_27 rfl ?_
  refine wl_aload_n dJ0_init_db425_28 rfl ?_
  refine wl_iconst (0 : Int32) dJ0_init_db425_29 (by decide) ?_
  refine wl_iload dJ0_init_db425_30 rfl ?_
  refine wl_callS (As := [.ref a2, .int (0 : Int32), .int (nI n)]) (S := [.ref a3]) (b' := (1, 16)) (b := (0, 0)) dJ0_init_db425_32 MJ0_54 rfl rfl (Nat.le_of_ble_eq_true rfl) ?_
  refine s_cpr hn hfit (fun a4 => ?_)
  refine wl_putF 6 (lws G Λ X [sbW a1 a2 n, byW G a2 16 f, stW a3 a4, byW G a4 n (va_cpy f (fun _ => 0) 0 0 n)]) dJ0_init_db425_35 rfl pJ0_9 rfl (Nat.le_of_ble_eq_true rfl) rfl rfl rfl ?_
  refine wl_goto 97 dJ0_init_db425_38 (by decide) ?_
  exact wl_vret dJ0_init_db425_97 rfl (k a4)
theorem s_initT (hn : n < 16) (hfit : ∀ j, j < n → fits .byte (.int (f (0 + j))) = true) (k : ∀ a4, Q none (lws G Λ X [sbW a1 a2 n, byW G a2 16 f, stW a3 a4, byW G a4 n (va_cpy f (fun _ => 0) 0 0 n)], cs)) : WZM G (d + 4) (1, 16) μJ0_init_81219 [.ref a3, .ref a1] (lws G Λ X [sbW a1 a2 n, byW G a2 16 f, st0W a3], cs) Q := by
  refine WZM.of pJ0 (Nat.le_of_ble_eq_true rfl) rfl ?_
  refine wl_aload_n dJ0_init_81219_0 rfl ?_
  refine wl_aload_n dJ0_init_81219_1 rfl ?_
  refine wl_anull dJ0_init_81219_2 ?_
  refine wl_callI (As := [.ref a1, .null]) (S := []) (b' := (1, 16)) (b := (0, 0)) dJ0_init_81219_3 MJ0_489 rfl rfl (Nat.le_of_ble_eq_true rfl) ?_
  refine s_initS hn hfit (fun a4 => ?_)
  exact wl_vret dJ0_init_81219_6 rfl (k a4)
theorem s_toStr (hn : n < 16) (hfit : ∀ j, j < n → fits .byte (.int (f (0 + j))) = true) (k : ∀ a3 a4, Q (some (.ref a3)) (lws G Λ X [sbW a1 a2 n, byW G a2 16 f, stW a3 a4, byW G a4 n (va_cpy f (fun _ => 0) 0 0 n)], cs)) : WZM G (d + 5) (2, 20) μJ4_toString_0e30d [.ref a1] (lws G Λ X [sbW a1 a2 n, byW G a2 16 f], cs) Q := by
  refine WZM.of pJ4 (Nat.le_of_ble_eq_true rfl) rfl ?_
  refine wl_newO (ci := 13) (N := 4) (fs := [.null, .int 0, .int 0, .int 0]) (b1 := 1) (b2 := 16) tyJ0 dJ4_toString_0e30d_0 rfl CJ4_18 IJ0 iJ0 uw13 tyJ0_ok (fun k hk => ?_) (fun a3 => ?_)
  · have : k = 0 ∨ k = 1 ∨ k = 2 ∨ k = 3 := by omega
    rcases this with e | e | e | e <;> subst e <;> rfl
  show WZ G (d + 5) (1, 16) μJ4_toString_0e30d 3 [.ref a1] [.ref a3] (lws G Λ X [sbW a1 a2 n, byW G a2 16 f, st0W a3], cs) Q
  refine wl_dup dJ4_toString_0e30d_3 rfl ?_
  refine wl_aload_n dJ4_toString_0e30d_4 rfl ?_
  refine wl_callI (As := [.ref a1]) (S := [.ref a3]) (b' := (1, 16)) (b := (0, 0)) dJ4_toString_0e30d_5 MJ4_137 rfl rfl (Nat.le_of_ble_eq_true rfl) ?_
  refine s_initT hn hfit (fun a4 => ?_)
  exact wl_aret dJ4_toString_0e30d_8 rfl (Or.inl ⟨_, rfl⟩) (k a3 a4)
end JTS
