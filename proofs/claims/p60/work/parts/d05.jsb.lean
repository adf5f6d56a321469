/-! A STRINGBUILDER'S METHODS, walked -/
abbrev sbW (a1 a2 n : Nat) : Nat × va_E := (a1, Sum.inr (12, [.ref a2, .int 0, .int 0, .int (nI n)]))
abbrev sb0W (a1 : Nat) : Nat × va_E := (a1, Sum.inr (12, [.null, .int 0, .int 0, .int 0]))
abbrev byW (G : Cx) (a2 n : Nat) (f : Nat → Int32) : Nat × va_E := (a2, Sum.inl (gY G 20, n, Sum.inl f))
abbrev stW (a3 a4 : Nat) : Nat × va_E := (a3, Sum.inr (13, [.ref a4, .int 0, .int 0, .int 0]))
abbrev st0W (a3 : Nat) : Nat × va_E := (a3, Sum.inr (13, [.null, .int 0, .int 0, .int 0]))
theorem pJ4 : plainName RJ4 = true := by decide +kernel
theorem pJ5 : plainName RJ5 = true := by decide +kernel
theorem pJ6 : plainName RJ6 = true := by decide +kernel
theorem pJ7 : plainName RJ7 = true := by decide +kernel
theorem dg_1 : ∀ x, x < 10 → (-10 : Int32) < -nI x ∧ (-100 : Int32) < -nI x ∧ ¬ -nI x < (-9 : Int32) ∧ ¬ nI x < 0 := by decide +kernel
theorem TxK (G : Cx) (ws : va_W) {i : Nat} {t : List Nat} (hi : i < nJS) (hb : ∀ b ∈ t, b < 128) (hl : t.length = leJ i) (h100 : t.length < 100) (hc : ∀ j, j < t.length → chJ i j = nI (t.getD j 0)) : TxP G ws (gK G i) (gV G i) t := ⟨hb, h100, Or.inl ⟨i, hi, rfl, rfl, hl, hc⟩⟩
section JSB
variable {G : Cx} {d : Nat} {Λ : Lc} {X : Lx} {cs : List (Nat × Mm)} {Q : Option Value → LM → Prop} {a1 a2 a3 a4 n i : Nat} {f : Nat → Int32}
theorem s_init5 (k : ∀ a2, Q none (lws G Λ X [sbW a1 a2 0, byW G a2 16 (fun _ => 0)], cs)) : WZM G (d + 1) (1, 16) μJ5_init_d00df [.ref a1, .int (16 : Int32)] (lws G Λ X [sb0W a1], cs) Q := by
  refine WZM.of pJ5 (Nat.le_of_ble_eq_true rfl) rfl ?_
  refine wl_aload_n dJ5_init_d00df_0 rfl ?_
  refine wl_objInit dJ5_init_d00df_1 OJ5_3 Oin Oco (Nat.le_of_ble_eq_true rfl) ?_
  refine wl_scmp dJ5_init_d00df_4 sJ5_18 ?_
  refine wl_if_eq 25 dJ5_init_d00df_7 (by decide) (fun q => absurd q (by decide)) (fun _ => ?_)
  refine wl_aload_n dJ5_init_d00df_10 rfl ?_
  refine wl_iload_n dJ5_init_d00df_11 rfl ?_
  refine wl_newb (n := 16) (N := 16) (b1 := 0) (b2 := 0) dJ5_init_d00df_12 rfl (Nat.le_refl _) (by decide) (fun a2 => ?_)
  show WZ G (d + 1) (0, 0) μJ5_init_d00df 14 [.ref a1, .int (16 : Int32)] [.ref a2, .ref a1] (lws G Λ X [sb0W a1, byW G a2 16 (fun _ => 0)], cs) Q
  refine wl_put 4 (lws G Λ X [(a1, Sum.inr (12, [.ref a2, .int 0, .int 0, .int 0])), byW G a2 16 (fun _ => 0)]) dJ5_init_d00df_14 pJ5_15 rfl (Nat.le_of_ble_eq_true rfl) rfl rfl rfl ?_
  refine wl_aload_n dJ5_init_d00df_17 rfl ?_
  refine wl_iconst (0 : Int32) dJ5_init_d00df_18 (by decide) ?_
  refine wl_put 4 (lws G Λ X [sbW a1 a2 0, byW G a2 16 (fun _ => 0)]) dJ5_init_d00df_19 pJ5_22 rfl (Nat.le_of_ble_eq_true rfl) rfl rfl rfl ?_
  refine wl_goto 38 dJ5_init_d00df_22 (by decide) ?_
  exact wl_vret dJ5_init_d00df_38 rfl (k a2)
theorem s_init4 (k : ∀ a2, Q none (lws G Λ X [sbW a1 a2 0, byW G a2 16 (fun _ => 0)], cs)) : WZM G (d + 2) (1, 16) μJ4_init_da8c8 [.ref a1] (lws G Λ X [sb0W a1], cs) Q := by
  refine WZM.of pJ4 (Nat.le_of_ble_eq_true rfl) rfl ?_
  refine wl_aload_n dJ4_init_da8c8_0 rfl ?_
  refine wl_bipush (16 : Int32) dJ4_init_da8c8_1 (by decide) ?_
  refine wl_callI (As := [.int (16 : Int32)]) (S := []) (b' := (1, 16)) (b := (0, 0)) dJ4_init_da8c8_3 MJ4_1 rfl rfl (Nat.le_of_ble_eq_true rfl) ?_
  refine s_init5 (fun a2 => ?_)
  exact wl_vret dJ4_init_da8c8_6 rfl (k a2)
theorem s_ensure {q : Nat} (hq : q ≤ 16) (k : Q none (lws G Λ X [sbW a1 a2 n, byW G a2 16 f], cs)) : WZM G d (0, 0) μJ5_ensureCapacityInternal_d00df [.ref a1, .int (nI q)] (lws G Λ X [sbW a1 a2 n, byW G a2 16 f], cs) Q := by
  refine WZM.of pJ5 (Nat.le_of_ble_eq_true rfl) rfl ?_
  refine wl_aload_n dJ5_ensureCapacityInternal_d00df_0 rfl ?_
  refine wl_get 4 (.ref a2) dJ5_ensureCapacityInternal_d00df_1 fJ5_15 rfl rfl ?_
  refine wl_alen (t0 := 0) (ty := .byte) (n := 16) 5 dJ5_ensureCapacityInternal_d00df_4 rfl rfl rfl ?_
  refine wl_aload_n dJ5_ensureCapacityInternal_d00df_5 rfl ?_
  refine wl_get 4 (.int 0) dJ5_ensureCapacityInternal_d00df_6 fJ5_22 rfl rfl ?_
  refine wl_ishr dJ5_ensureCapacityInternal_d00df_9 ?_
  rw [sb_shr0]
  refine wl_istore_n dJ5_ensureCapacityInternal_d00df_10 (by decide) rfl ?_
  refine wl_iload_n dJ5_ensureCapacityInternal_d00df_11 rfl ?_
  refine wl_iload_n dJ5_ensureCapacityInternal_d00df_12 rfl ?_
  refine wl_isub dJ5_ensureCapacityInternal_d00df_13 ?_
  refine wl_if_le 38 dJ5_ensureCapacityInternal_d00df_14 (by decide) (fun _ => ?_) (fun z => ?_)
  · exact wl_vret dJ5_ensureCapacityInternal_d00df_38 rfl k
  · exfalso
    rw [Int32.lt_iff_toInt_lt, nsubI (v := q) (c := 16) (by omega) (by omega)] at z
    have z0 : (0 : Int32).toInt = 0 := rfl
    omega
theorem s_inflate {s v : Nat} {t : List Nat} (ht : TxP G (lws G Λ X [sbW a1 a2 n, byW G a2 16 f]) s v t) (k : Q none (lws G Λ X [sbW a1 a2 n, byW G a2 16 f], cs)) : WZM G (d + 1) (0, 0) μJ5_inflateIfNeededFor_a7421 [.ref a1, .ref s] (lws G Λ X [sbW a1 a2 n, byW G a2 16 f], cs) Q := by
  refine WZM.of pJ5 (Nat.le_of_ble_eq_true rfl) rfl ?_
  refine wl_scmp dJ5_inflateIfNeededFor_a7421_0 sJ5_18 ?_
  refine wl_if_eq 21 dJ5_inflateIfNeededFor_a7421_3 (by decide) (fun q => absurd q (by decide)) (fun _ => ?_)
  refine wl_aload_n dJ5_inflateIfNeededFor_a7421_6 rfl ?_
  refine wl_get 4 (.int 0) dJ5_inflateIfNeededFor_a7421_7 fJ5_22 rfl rfl ?_
  refine wl_aload_n dJ5_inflateIfNeededFor_a7421_10 rfl ?_
  refine wl_callT (As := []) (S := [.int 0]) ht dJ5_inflateIfNeededFor_a7421_11 MJ5_40 rfl rfl (Nat.le_of_ble_eq_true rfl) ?_
  refine t_coder ht ?_
  refine wl_icmp_eq 21 dJ5_inflateIfNeededFor_a7421_14 (by decide) (fun _ => ?_) (fun z => absurd rfl z)
  exact wl_vret dJ5_inflateIfNeededFor_a7421_21 rfl k
theorem s_getBytes {t : List Nat} {q : Nat} (hi : i < nJS) (ht : TxP G (lws G Λ X [sbW a1 a2 n, byW G a2 16 f]) (gK G i) (gV G i) t) (hl : t.length = leJ i) (hq : q + leJ i ≤ 16) (hfit : ∀ j, j < leJ i → fits .byte (.int (chJ i (0 + j))) = true) (k : Q none (lws G Λ X [sbW a1 a2 n, byW G a2 16 (va_cpy (chJ i) f 0 q (leJ i))], cs)) : WZM G (d + 1) (0, 0) μJ0_getBytes_840e7 [.ref (gK G i), .ref a2, .int (nI q), .int 0] (lws G Λ X [sbW a1 a2 n, byW G a2 16 f], cs) Q := by
  refine WZM.of pJ0 (Nat.le_of_ble_eq_true rfl) rfl ?_
  refine wl_aload_n dJ0_getBytes_840e7_0 rfl ?_
  refine wl_callT (As := []) (S := []) ht dJ0_getBytes_840e7_1 MJ0_335 rfl rfl (Nat.le_of_ble_eq_true rfl) ?_
  refine t_coder ht ?_
  refine wl_iload_n dJ0_getBytes_840e7_4 rfl ?_
  refine wl_icmp_ne 28 dJ0_getBytes_840e7_5 (by decide) (fun z => absurd rfl z) (fun _ => ?_)
  refine wl_aload_n dJ0_getBytes_840e7_8 rfl ?_
  refine wl_sval dJ0_getBytes_840e7_9 wJ0_9 hi ?_
  refine wl_iconst (0 : Int32) dJ0_getBytes_840e7_12 (by decide) ?_
  refine wl_aload_n dJ0_getBytes_840e7_13 rfl ?_
  refine wl_iload_n dJ0_getBytes_840e7_14 rfl ?_
  refine wl_iload_n dJ0_getBytes_840e7_15 rfl ?_
  refine wl_ishl dJ0_getBytes_840e7_16 ?_
  rw [sb_shl0]
  refine wl_aload_n dJ0_getBytes_840e7_17 rfl ?_
  refine wl_sval dJ0_getBytes_840e7_18 wJ0_9 hi ?_
  refine wl_stln dJ0_getBytes_840e7_21 hi ?_
  refine wl_copyK (dx := q) (nx := leJ i) 5 (lws G Λ X [sbW a1 a2 n, byW G a2 16 (va_cpy (chJ i) f 0 q (leJ i))]) dJ0_getBytes_840e7_22 YJ0_212 hi rfl (Nat.le_refl _) hq (by omega) (by omega) hfit (Nat.le_of_ble_eq_true rfl) rfl ?_
  refine wl_goto 43 dJ0_getBytes_840e7_25 (by decide) ?_
  exact wl_vret dJ0_getBytes_840e7_43 rfl k
theorem s_putStr {t : List Nat} {q : Nat} (hi : i < nJS) (ht : TxP G (lws G Λ X [sbW a1 a2 n, byW G a2 16 f]) (gK G i) (gV G i) t) (hl : t.length = leJ i) (hq : q + leJ i ≤ 16) (hfit : ∀ j, j < leJ i → fits .byte (.int (chJ i (0 + j))) = true) (k : Q none (lws G Λ X [sbW a1 a2 n, byW G a2 16 (va_cpy (chJ i) f 0 q (leJ i))], cs)) : WZM G (d + 2) (0, 0) μJ5_putStringAt_47b60 [.ref a1, .int (nI q), .ref (gK G i)] (lws G Λ X [sbW a1 a2 n, byW G a2 16 f], cs) Q := by
  refine WZM.of pJ5 (Nat.le_of_ble_eq_true rfl) rfl ?_
  refine wl_aload_n dJ5_putStringAt_47b60_0 rfl ?_
  refine wl_aload_n dJ5_putStringAt_47b60_1 rfl ?_
  refine wl_callU (q0 := 4) (As := [.ref (gK G i)]) (S := []) dJ5_putStringAt_47b60_2 UJ5_397 rfl rfl (Nat.le_of_ble_eq_true rfl) ?_
  refine s_inflate ht ?_
  refine wl_aload_n dJ5_putStringAt_47b60_5 rfl ?_
  refine wl_aload_n dJ5_putStringAt_47b60_6 rfl ?_
  refine wl_get 4 (.ref a2) dJ5_putStringAt_47b60_7 fJ5_15 rfl rfl ?_
  refine wl_iload_n dJ5_putStringAt_47b60_10 rfl ?_
  refine wl_aload_n dJ5_putStringAt_47b60_11 rfl ?_
  refine wl_get 4 (.int 0) dJ5_putStringAt_47b60_12 fJ5_22 rfl rfl ?_
  refine wl_callT (As := [.ref a2, .int (nI q), .int 0]) (S := []) ht dJ5_putStringAt_47b60_15 MJ5_399 rfl rfl (Nat.le_of_ble_eq_true rfl) ?_
  refine s_getBytes hi ht hl hq hfit ?_
  exact wl_vret dJ5_putStringAt_47b60_18 rfl k
theorem s_app5 {t : List Nat} (hi : i < nJS) (ht : TxP G (lws G Λ X [sbW a1 a2 n, byW G a2 16 f]) (gK G i) (gV G i) t) (hl : t.length = leJ i) (hq : n + leJ i ≤ 16) (hfit : ∀ j, j < leJ i → fits .byte (.int (chJ i (0 + j))) = true) (k : Q (some (.ref a1)) (lws G Λ X [sbW a1 a2 (n + leJ i), byW G a2 16 (va_cpy (chJ i) f 0 n (leJ i))], cs)) : WZM G (d + 3) (0, 0) μJ5_append_cf1ce [.ref a1, .ref (gK G i)] (lws G Λ X [sbW a1 a2 n, byW G a2 16 f], cs) Q := by
  refine WZM.of pJ5 (Nat.le_of_ble_eq_true rfl) rfl ?_
  refine wl_aload_n dJ5_append_cf1ce_0 rfl ?_
  refine wl_ifnn 9 dJ5_append_cf1ce_1 (by decide) ?_
  refine wl_aload_n dJ5_append_cf1ce_9 rfl ?_
  refine wl_callT (As := []) (S := []) ht dJ5_append_cf1ce_10 MJ5_32 rfl rfl (Nat.le_of_ble_eq_true rfl) ?_
  refine t_length ht ?_
  rw [hl]
  refine wl_istore_n dJ5_append_cf1ce_13 (by decide) rfl ?_
  refine wl_aload_n dJ5_append_cf1ce_14 rfl ?_
  refine wl_aload_n dJ5_append_cf1ce_15 rfl ?_
  refine wl_get 4 (.int (nI n)) dJ5_append_cf1ce_16 fJ5_79 rfl rfl ?_
  refine wl_iload_n dJ5_append_cf1ce_19 rfl ?_
  refine wl_iaddv (nI (n + leJ i)) dJ5_append_cf1ce_20 (nadd rfl) ?_
  refine wl_callU (q0 := 4) (As := [.int (nI (n + leJ i))]) (S := []) dJ5_append_cf1ce_21 UJ5_100 rfl rfl (Nat.le_of_ble_eq_true rfl) ?_
  refine s_ensure hq ?_
  refine wl_aload_n dJ5_append_cf1ce_24 rfl ?_
  refine wl_aload_n dJ5_append_cf1ce_25 rfl ?_
  refine wl_get 4 (.int (nI n)) dJ5_append_cf1ce_26 fJ5_79 rfl rfl ?_
  refine wl_aload_n dJ5_append_cf1ce_29 rfl ?_
  refine wl_callU (q0 := 4) (As := [.int (nI n), .ref (gK G i)]) (S := []) dJ5_append_cf1ce_30 UJ5_208 rfl rfl (Nat.le_of_ble_eq_true rfl) ?_
  refine s_putStr hi ht hl hq hfit ?_
  refine wl_aload_n dJ5_append_cf1ce_33 rfl ?_
  refine wl_dup dJ5_append_cf1ce_34 rfl ?_
  refine wl_get 4 (.int (nI n)) dJ5_append_cf1ce_35 fJ5_79 rfl rfl ?_
  refine wl_iload_n dJ5_append_cf1ce_38 rfl ?_
  refine wl_iaddv (nI (n + leJ i)) dJ5_append_cf1ce_39 (nadd rfl) ?_
  refine wl_put 4 (lws G Λ X [sbW a1 a2 (n + leJ i), byW G a2 16 (va_cpy (chJ i) f 0 n (leJ i))]) dJ5_append_cf1ce_40 pJ5_79 rfl (Nat.le_of_ble_eq_true rfl) rfl rfl rfl ?_
  refine wl_aload_n dJ5_append_cf1ce_43 rfl ?_
  exact wl_aret dJ5_append_cf1ce_44 rfl (Or.inl ⟨_, rfl⟩) k
theorem s_app4 {t : List Nat} (hi : i < nJS) (ht : TxP G (lws G Λ X [sbW a1 a2 n, byW G a2 16 f]) (gK G i) (gV G i) t) (hl : t.length = leJ i) (hq : n + leJ i ≤ 16) (hfit : ∀ j, j < leJ i → fits .byte (.int (chJ i (0 + j))) = true) (k : Q (some (.ref a1)) (lws G Λ X [sbW a1 a2 (n + leJ i), byW G a2 16 (va_cpy (chJ i) f 0 n (leJ i))], cs)) : WZM G (d + 4) (0, 0) μJ4_append_15ec4 [.ref a1, .ref (gK G i)] (lws G Λ X [sbW a1 a2 n, byW G a2 16 f], cs) Q := by
  refine WZM.of pJ4 (Nat.le_of_ble_eq_true rfl) rfl ?_
  refine wl_aload_n dJ4_append_15ec4_0 rfl ?_
  refine wl_aload_n dJ4_append_15ec4_1 rfl ?_
  refine wl_callQ (q0 := 4) (As := [.ref (gK G i)]) (S := []) dJ4_append_15ec4_2 QJ4_29 rfl rfl (Nat.le_of_ble_eq_true rfl) ?_
  refine s_app5 hi ht hl hq hfit ?_
  refine wl_pop dJ4_append_15ec4_5 rfl ?_
  refine wl_aload_n dJ4_append_15ec4_6 rfl ?_
  exact wl_aret dJ4_append_15ec4_7 rfl (Or.inl ⟨_, rfl⟩) k
theorem s_size {x : Nat} (hx : x < 10) {M : LM} (k : Q (some (.int (1 : Int32))) M) : WZM G d (0, 0) μJ6_stringSize_0f7a4 [.int (nI x)] M Q := by
  obtain ⟨h1, h2, h3, h4⟩ := dg_1 x hx
  refine WZM.of pJ6 (Nat.le_of_ble_eq_true rfl) rfl ?_
  refine wl_iconst (1 : Int32) dJ6_stringSize_0f7a4_0 (by decide) ?_
  refine wl_istore_n dJ6_stringSize_0f7a4_1 (by decide) rfl ?_
  refine wl_iload_n dJ6_stringSize_0f7a4_2 rfl ?_
  refine wl_if_lt 11 dJ6_stringSize_0f7a4_3 (by decide) (fun z => absurd z h4) (fun _ => ?_)
  refine wl_iconst (0 : Int32) dJ6_stringSize_0f7a4_6 (by decide) ?_
  refine wl_istore_n dJ6_stringSize_0f7a4_7 (by decide) rfl ?_
  refine wl_iload_n dJ6_stringSize_0f7a4_8 rfl ?_
  refine wl_ineg dJ6_stringSize_0f7a4_9 ?_
  refine wl_istore_n dJ6_stringSize_0f7a4_10 (by decide) rfl ?_
  refine wl_bipush (-10 : Int32) dJ6_stringSize_0f7a4_11 (by decide) ?_
  refine wl_istore_n dJ6_stringSize_0f7a4_13 (by decide) rfl ?_
  refine wl_iconst (1 : Int32) dJ6_stringSize_0f7a4_14 (by decide) ?_
  refine wl_istore_n dJ6_stringSize_0f7a4_15 (by decide) rfl ?_
  refine wl_iload_n dJ6_stringSize_0f7a4_16 rfl ?_
  refine wl_bipush (10 : Int32) dJ6_stringSize_0f7a4_17 (by decide) ?_
  refine wl_icmp_ge 42 dJ6_stringSize_0f7a4_19 (by decide) (fun z => absurd (by decide) z) (fun _ => ?_)
  refine wl_iload_n dJ6_stringSize_0f7a4_22 rfl ?_
  refine wl_iload_n dJ6_stringSize_0f7a4_23 rfl ?_
  refine wl_icmp_le 31 dJ6_stringSize_0f7a4_24 (by decide) (fun z => absurd h1 z) (fun _ => ?_)
  refine wl_iload_n dJ6_stringSize_0f7a4_27 rfl ?_
  refine wl_iload_n dJ6_stringSize_0f7a4_28 rfl ?_
  refine wl_iaddv (1 : Int32) dJ6_stringSize_0f7a4_29 (by decide) ?_
  exact wl_iret dJ6_stringSize_0f7a4_30 rfl k
theorem s_chars {x : Nat} (hx : x < 10) (hn : n < 16) (k : Q (some (.int (nI n))) (lws G Λ X [sbW a1 a2 n, byW G a2 16 (upd f n (vp_nar .byte (nI (48 + x % 10))))], cs)) : WZM G d (0, 0) μJ6_getChars_ba4f3 [.int (nI x), .int (nI (n + 1)), .ref a2] (lws G Λ X [sbW a1 a2 n, byW G a2 16 f], cs) Q := by
  obtain ⟨h1, h2, h3, h4⟩ := dg_1 x hx
  refine WZM.of pJ6 (Nat.le_of_ble_eq_true rfl) rfl ?_
  refine wl_iload_n dJ6_getChars_ba4f3_0 rfl ?_
  refine wl_istore dJ6_getChars_ba4f3_1 (by decide) rfl ?_
  refine wl_iload_n dJ6_getChars_ba4f3_3 rfl ?_
  refine wl_if_ge 11 dJ6_getChars_ba4f3_4 (by decide) (fun _ => ?_) (fun z => absurd z h4)
  refine wl_iconst (0 : Int32) dJ6_getChars_ba4f3_11 (by decide) ?_
  refine wl_istore dJ6_getChars_ba4f3_12 (by decide) rfl ?_
  refine wl_iload dJ6_getChars_ba4f3_14 rfl ?_
  refine wl_if_ne 22 dJ6_getChars_ba4f3_16 (by decide) (fun z => absurd rfl z) (fun _ => ?_)
  refine wl_iload_n dJ6_getChars_ba4f3_19 rfl ?_
  refine wl_ineg dJ6_getChars_ba4f3_20 ?_
  refine wl_istore_n dJ6_getChars_ba4f3_21 (by decide) rfl ?_
  refine wl_iload_n dJ6_getChars_ba4f3_22 rfl ?_
  refine wl_bipush (-100 : Int32) dJ6_getChars_ba4f3_23 (by decide) ?_
  refine wl_icmp_gt 72 dJ6_getChars_ba4f3_25 (by decide) (fun _ => ?_) (fun z => absurd h2 z)
  refine wl_aload_n dJ6_getChars_ba4f3_72 rfl ?_
  refine wl_iinc (nI n) dJ6_getChars_ba4f3_73 rfl (by decide) (ndec rfl) rfl ?_
  refine wl_iload dJ6_getChars_ba4f3_76 rfl ?_
  refine wl_dig (q := x) dJ6_getChars_ba4f3_78 sJ6_83 dJ6_getChars_ba4f3_81 dJ6_getChars_ba4f3_82 dJ6_getChars_ba4f3_83 rfl (Int32.neg_neg) (by omega) ?_
  refine wl_bast (t0 := 0) 5 n (lws G Λ X [sbW a1 a2 n, byW G a2 16 (upd f n (vp_nar .byte (nI (48 + x % 10))))]) dJ6_getChars_ba4f3_84 rfl rfl rfl hn (by decide) rfl ?_
  refine wl_iload_n dJ6_getChars_ba4f3_85 rfl ?_
  refine wl_bipush (-9 : Int32) dJ6_getChars_ba4f3_86 (by decide) ?_
  refine wl_icmp_ge 104 dJ6_getChars_ba4f3_88 (by decide) (fun _ => ?_) (fun z => absurd z h3)
  refine wl_iload dJ6_getChars_ba4f3_104 rfl ?_
  refine wl_if_eq 118 dJ6_getChars_ba4f3_106 (by decide) (fun _ => ?_) (fun z => absurd rfl z)
  refine wl_iload dJ6_getChars_ba4f3_118 rfl ?_
  exact wl_iret dJ6_getChars_ba4f3_120 rfl k
theorem s_isL (k : Q (some (.int 1)) (lws G Λ X [sbW a1 a2 n, byW G a2 16 f], cs)) : WZM G d (0, 0) μJ5_isLatin1_aae02 [.ref a1] (lws G Λ X [sbW a1 a2 n, byW G a2 16 f], cs) Q := by
  refine WZM.of pJ5 (Nat.le_of_ble_eq_true rfl) rfl ?_
  refine wl_scmp dJ5_isLatin1_aae02_0 sJ5_18 ?_
  refine wl_if_eq 17 dJ5_isLatin1_aae02_3 (by decide) (fun q => absurd q (by decide)) (fun _ => ?_)
  refine wl_aload_n dJ5_isLatin1_aae02_6 rfl ?_
  refine wl_get 4 (.int 0) dJ5_isLatin1_aae02_7 fJ5_22 rfl rfl ?_
  refine wl_if_ne 17 dJ5_isLatin1_aae02_10 (by decide) (fun q => absurd rfl q) (fun _ => ?_)
  refine wl_iconst (1 : Int32) dJ5_isLatin1_aae02_13 (by decide) ?_
  refine wl_goto 18 dJ5_isLatin1_aae02_14 (by decide) ?_
  exact wl_zret dJ5_isLatin1_aae02_18 rfl rfl k
theorem s_appI5 {x : Nat} (hx : x < 10) (hn : n < 16) (k : Q (some (.ref a1)) (lws G Λ X [sbW a1 a2 (n + 1), byW G a2 16 (upd f n (vp_nar .byte (nI (48 + x % 10))))], cs)) : WZM G (d + 2) (0, 0) μJ5_append_c97b9 [.ref a1, .int (nI x)] (lws G Λ X [sbW a1 a2 n, byW G a2 16 f], cs) Q := by
  refine WZM.of pJ5 (Nat.le_of_ble_eq_true rfl) rfl ?_
  refine wl_aload_n dJ5_append_c97b9_0 rfl ?_
  refine wl_get 4 (.int (nI n)) dJ5_append_c97b9_1 fJ5_79 rfl rfl ?_
  refine wl_istore_n dJ5_append_c97b9_4 (by decide) rfl ?_
  refine wl_iload_n dJ5_append_c97b9_5 rfl ?_
  refine wl_iload_n dJ5_append_c97b9_6 rfl ?_
  refine wl_callS (As := [.int (nI x)]) (S := [.int (nI n)]) (b' := (0, 0)) (b := (0, 0)) dJ5_append_c97b9_7 MJ5_245 rfl rfl (Nat.le_of_ble_eq_true rfl) ?_
  refine s_size hx ?_
  refine wl_iaddv (nI (n + 1)) dJ5_append_c97b9_10 (nadd (a := n) (b := 1) rfl) ?_
  refine wl_istore_n dJ5_append_c97b9_11 (by decide) rfl ?_
  refine wl_aload_n dJ5_append_c97b9_12 rfl ?_
  refine wl_iload_n dJ5_append_c97b9_13 rfl ?_
  refine wl_callU (q0 := 4) (As := [.int (nI (n + 1))]) (S := []) dJ5_append_c97b9_14 UJ5_100 rfl rfl (Nat.le_of_ble_eq_true rfl) ?_
  refine s_ensure (by omega) ?_
  refine wl_aload_n dJ5_append_c97b9_17 rfl ?_
  refine wl_callU (q0 := 4) (As := []) (S := []) dJ5_append_c97b9_18 UJ5_83 rfl rfl (Nat.le_of_ble_eq_true rfl) ?_
  refine s_isL ?_
  refine wl_if_eq 37 dJ5_append_c97b9_21 (by decide) (fun q => absurd q (by decide)) (fun _ => ?_)
  refine wl_iload_n dJ5_append_c97b9_24 rfl ?_
  refine wl_iload_n dJ5_append_c97b9_25 rfl ?_
  refine wl_aload_n dJ5_append_c97b9_26 rfl ?_
  refine wl_get 4 (.ref a2) dJ5_append_c97b9_27 fJ5_15 rfl rfl ?_
  refine wl_callS (As := [.int (nI x), .int (nI (n + 1)), .ref a2]) (S := []) (b' := (0, 0)) (b := (0, 0)) dJ5_append_c97b9_30 MJ5_248 rfl rfl (Nat.le_of_ble_eq_true rfl) ?_
  refine s_chars hx hn ?_
  refine wl_pop dJ5_append_c97b9_33 rfl ?_
  refine wl_goto 48 dJ5_append_c97b9_34 (by decide) ?_
  refine wl_aload_n dJ5_append_c97b9_48 rfl ?_
  refine wl_iload_n dJ5_append_c97b9_49 rfl ?_
  refine wl_put 4 (lws G Λ X [sbW a1 a2 (n + 1), byW G a2 16 (upd f n (vp_nar .byte (nI (48 + x % 10))))]) dJ5_append_c97b9_50 pJ5_79 rfl (Nat.le_of_ble_eq_true rfl) rfl rfl rfl ?_
  refine wl_aload_n dJ5_append_c97b9_53 rfl ?_
  exact wl_aret dJ5_append_c97b9_54 rfl (Or.inl ⟨_, rfl⟩) k
theorem s_appI4 {x : Nat} (hx : x < 10) (hn : n < 16) (k : Q (some (.ref a1)) (lws G Λ X [sbW a1 a2 (n + 1), byW G a2 16 (upd f n (vp_nar .byte (nI (48 + x % 10))))], cs)) : WZM G (d + 3) (0, 0) μJ4_append_bf812 [.ref a1, .int (nI x)] (lws G Λ X [sbW a1 a2 n, byW G a2 16 f], cs) Q := by
  refine WZM.of pJ4 (Nat.le_of_ble_eq_true rfl) rfl ?_
  refine wl_aload_n dJ4_append_bf812_0 rfl ?_
  refine wl_iload_n dJ4_append_bf812_1 rfl ?_
  refine wl_callQ (q0 := 4) (As := [.int (nI x)]) (S := []) dJ4_append_bf812_2 QJ4_53 rfl rfl (Nat.le_of_ble_eq_true rfl) ?_
  refine s_appI5 hx hn ?_
  refine wl_pop dJ4_append_bf812_5 rfl ?_
  refine wl_aload_n dJ4_append_bf812_6 rfl ?_
  exact wl_aret dJ4_append_bf812_7 rfl (Or.inl ⟨_, rfl⟩) k
end JSB
