/-! STRING CONSTANTS: length, charAt, indexOf -/
theorem va_S.ab {G : Cx} {H0 H : Heap} {locs : List Loc} (h : va_S (fr G) H0 H locs) : va_S (ab G) H0 H locs := ⟨h.1, fun q h1 h2 => h.2.1 q h1 (fun z => h2 z.1), fun l hl => (h.2.2 l hl).1⟩
theorem wJ0_9 : Cond.fieldLink RJ0 9 "java/lang/String" "value" "[B" ∈ tbG := (inT6 (List.mem_of_getElem? (i := 149) rfl) rfl)
theorem wJ0_15 : Cond.fieldLink RJ0 15 "java/lang/String" "coder" "B" ∈ tbG := (inT6 (List.mem_of_getElem? (i := 150) rfl) rfl)
def chJ (i j : Nat) : Int32 := (bytJS.getD i []).getD j 0
def leJ (i : Nat) : Nat := lenJS.getD i 0
theorem leJ_lt : ∀ i, i < nJS → leJ i < 100 := by decide +kernel
theorem leJ_sh : ∀ i, i < nJS → nI (leJ i) >>> ((0 : Int32) &&& 31) = nI (leJ i) := by decide +kernel
theorem chJ_ok1 : ∀ i, i < nJS → ∀ j, j < leJ i → UInt32.toInt32 (Int32.toUInt32 (chJ i j &&& 255) % 65536) = chJ i j := by decide +kernel
theorem chJ_ok2 : ∀ i, i < nJS → ∀ j, j < leJ i → (chJ i j).toUInt32.toUInt16.toUInt32.toInt32 = chJ i j := by decide +kernel
theorem pJ0 : plainName RJ0 = true := by decide +kernel
theorem pJ1 : plainName RJ1 = true := by decide +kernel
theorem pJ3 : plainName RJ3 = true := by decide +kernel
section STR
variable {G : Cx} {d : Nat} {b b' b'' : Nat × Nat} {μ ν : MI} {pc idx n i : Nat} {L S As : List Value} {m : Mm} {Q : Option Value → Mm → Prop}
theorem wp_sval (hd : decode μ.2.1 pc = .ok (.getfield idx, 3)) (hf : Cond.fieldLink μ.1.cls idx "java/lang/String" "value" "[B" ∈ tbG) (hi : i < nJS) (kk : WP G d b μ (pc + 3) L (.ref (gV G i) :: S) m Q) : WP G d b μ pc L (.ref (gK G i) :: S) m Q := by
  intro p e R s mi args below meth c H locs cells slots ls F hR hS hL
  have hE := F.2.2.2.2.2.2.2.2.2
  exact vk_getf F.1 F.2.1 (hE.2.1.1 i hi).2.2.1 hS.ab F.2.2.2.2.1 (F.2.2.2.2.2.1 _ hf) (fun x h => h) hd (kk p e R s mi args below meth c H locs cells slots ls F hR hS hL)
theorem wp_scod (hd : decode μ.2.1 pc = .ok (.getfield idx, 3)) (hf : Cond.fieldLink μ.1.cls idx "java/lang/String" "coder" "B" ∈ tbG) (hi : i < nJS) (kk : WP G d b μ (pc + 3) L (.int 0 :: S) m Q) : WP G d b μ pc L (.ref (gK G i) :: S) m Q := by
  intro p e R s mi args below meth c H locs cells slots ls F hR hS hL
  have hE := F.2.2.2.2.2.2.2.2.2
  exact vk_getf F.1 F.2.1 (hE.2.1.1 i hi).2.1 hS.ab F.2.2.2.2.1 (F.2.2.2.2.2.1 _ hf) (fun x h => h) hd (kk p e R s mi args below meth c H locs cells slots ls F hR hS hL)
theorem wp_scmp (hd : decode μ.2.1 pc = .ok (.getstatic idx, 3)) (hf : Cond.fieldLink μ.1.cls idx "java/lang/String" "COMPACT_STRINGS" "Z" ∈ tbG) (kk : WP G d b μ (pc + 3) L (.int 1 :: S) m Q) : WP G d b μ pc L S m Q := by
  intro p e R s mi args below meth c H locs cells slots ls F hR hS hL
  have hE := F.2.2.2.2.2.2.2.2.2
  exact va_gets F.1 F.2.1 hE.2.2.2.1 hS.ab F.2.2.2.2.1 (F.2.2.2.2.2.1 _ hf) (fun x h => h) hd (kk p e R s mi args below meth c H locs cells slots ls F hR hS hL)
theorem wp_siob (hd : decode μ.2.1 pc = .ok (.getstatic idx, 3)) (hf : Cond.fieldLink μ.1.cls idx "jdk/internal/util/Preconditions" "SIOOBE_FORMATTER" "Ljava/util/function/BiFunction;" ∈ tbG) (kk : ∀ q : Value, q.isRef = true → WP G d b μ (pc + 3) L (q :: S) m Q) : WP G d b μ pc L S m Q := by
  intro p e R s mi args below meth c H locs cells slots ls F hR hS hL
  have hE := F.2.2.2.2.2.2.2.2.2
  obtain ⟨q, hq, hZ, -⟩ := hE.2.2.2.2.1
  exact va_gets F.1 F.2.1 hZ hS.ab F.2.2.2.2.1 (F.2.2.2.2.2.1 _ hf) (fun x h => h) hd (kk q hq p e R s mi args below meth c H locs cells slots ls F hR hS hL)
theorem wp_sbal {j : Nat} (hd : decode μ.2.1 pc = .ok (.baload, 1)) (hi : i < nJS) (hj : j < leJ i) (kk : WP G d b μ (pc + 1) L (.int (chJ i j) :: S) m Q) : WP G d b μ pc L (.int (nI j) :: .ref (gV G i) :: S) m Q := by
  intro p e R s mi args below meth c H locs cells slots ls F hR hS hL
  have hE := F.2.2.2.2.2.2.2.2.2
  have := leJ_lt i hi
  exact va_tb F.1 F.2.1 (hE.2.1.1 i hi).2.2.2 hS.ab (i := nI j) (v := .int (chJ i j)) (vin (n := leJ i) hj (by omega)) (by rw [nIc (by omega)]; rfl) hd (kk p e R s mi args below meth c H locs cells slots ls F hR hS hL)
theorem wp_stln (hd : decode μ.2.1 pc = .ok (.arraylength, 1)) (hi : i < nJS) (kk : WP G d b μ (pc + 1) L (.int (nI (leJ i)) :: S) m Q) : WP G d b μ pc L (.ref (gV G i) :: S) m Q := by
  intro p e R s mi args below meth c H locs cells slots ls F hR hS hL
  have hE := F.2.2.2.2.2.2.2.2.2
  exact va_tlen F.1 F.2.1 (hE.2.1.1 i hi).2.2.2 hS.ab (v := nI (leJ i)) rfl hd (kk p e R s mi args below meth c H locs cells slots ls F hR hS hL)
theorem wp_callK (hd : decode μ.2.1 pc = .ok (.invokevirtual idx, 3)) (hl : MLv μ.1.cls idx ν n) (hi : i < nJS) (hr : RJ0 = ν.1.cls) (hn : As.length = n) (hb : b'' = (b'.1 + b.1, b'.2 + b.2)) (hw : (S.map fun v => v.category).sum ≤ 8) (hM : WPM G d b' ν (.ref (gK G i) :: As) m (fun r m' => WP G (d + 1) b μ (pc + 3) L (r.toList ++ S) m' Q)) : WP G (d + 1) b'' μ pc L (As.reverse ++ .ref (gK G i) :: S) m Q := by
  intro p e R s mi args below meth c H locs cells slots ls F hR hS hL
  obtain ⟨⟨h1, h2, h3, h4, h5⟩, h6, h7⟩ := hl
  have hts := F.2.2.2.2.2.1
  obtain ⟨g1, g2, g3, g4⟩ := F.2.2.2.2.2.2.2.2.1
  subst hb
  have hpre := F.pre (b1 := b') (Nat.le_add_right _ _) (As := .ref (gK G i) :: As) hR hS
  have hrc := vk_recv F.2.2.2.2.2.2.2.2.2.2.1 hi hS.ab
  rw [show "java/lang/String" = RJ0 from rfl, hr] at hrc
  refine run_wp (va_runV (As := As) (b := gK G i) (rest := S) ⟨F.1, F.2.1, F.2.2.1, F.2.2.2.2.1, hts⟩ hM ⟨callB_of n hts (wsM_ok h3) rfl rfl rfl (hts _ h2) (hts _ h1) h4 (rm_ok ⟨g1, g2⟩ h5), hts _ h6, hts _ h7⟩ ⟨hpre.1, hrc, hpre.2⟩ rfl hn hL.1 rfl (lv_room hw) hd ⟨?_, ?_⟩) F rfl hS hL
  · dsimp only at g3; omega
  · dsimp only at g4; omega
theorem M_coder (hi : i < nJS) (k : Q (some (.int 0)) m) : WPM G d (0, 0) μJ0_coder_7d493 [.ref (gK G i)] m Q := by
  refine WPM.of pJ0 (Nat.le_of_ble_eq_true rfl) rfl ?_
  refine wp_scmp dJ0_coder_7d493_0 sJ0_38 ?_
  refine wp_if_eq 13 dJ0_coder_7d493_3 (by decide) (fun q => absurd q (by decide)) (fun _ => ?_)
  refine wp_aload_n dJ0_coder_7d493_6 rfl ?_
  refine wp_scod dJ0_coder_7d493_7 wJ0_15 hi ?_
  refine wp_goto 14 dJ0_coder_7d493_10 (by decide) ?_
  exact wp_zret dJ0_coder_7d493_14 rfl rfl k
theorem M_latin (hi : i < nJS) (k : Q (some (.int 1)) m) : WPM G d (0, 0) μJ0_isLatin1_aae02 [.ref (gK G i)] m Q := by
  refine WPM.of pJ0 (Nat.le_of_ble_eq_true rfl) rfl ?_
  refine wp_scmp dJ0_isLatin1_aae02_0 sJ0_38 ?_
  refine wp_if_eq 17 dJ0_isLatin1_aae02_3 (by decide) (fun q => absurd q (by decide)) (fun _ => ?_)
  refine wp_aload_n dJ0_isLatin1_aae02_6 rfl ?_
  refine wp_scod dJ0_isLatin1_aae02_7 wJ0_15 hi ?_
  refine wp_if_ne 17 dJ0_isLatin1_aae02_10 (by decide) (fun q => absurd rfl q) (fun _ => ?_)
  refine wp_iconst (1 : Int32) dJ0_isLatin1_aae02_13 (by decide) ?_
  refine wp_goto 18 dJ0_isLatin1_aae02_14 (by decide) ?_
  exact wp_zret dJ0_isLatin1_aae02_18 rfl rfl k
theorem M_slen (hi : i < nJS) (k : Q (some (.int (nI (leJ i)))) m) : WPM G (d + 1) (0, 0) μJ0_length_8abf5 [.ref (gK G i)] m Q := by
  refine WPM.of pJ0 (Nat.le_of_ble_eq_true rfl) rfl ?_
  refine wp_aload_n dJ0_length_8abf5_0 rfl ?_
  refine wp_sval dJ0_length_8abf5_1 wJ0_9 hi ?_
  refine wp_stln dJ0_length_8abf5_4 hi ?_
  refine wp_aload_n dJ0_length_8abf5_5 rfl ?_
  refine wp_callK (As := []) (S := [.int (nI (leJ i))]) (b' := (0, 0)) (b := (0, 0)) dJ0_length_8abf5_6 MJ0_335 hi rfl rfl rfl (Nat.le_of_ble_eq_true rfl) ?_
  refine M_coder hi ?_
  refine wp_ishr dJ0_length_8abf5_9 ?_
  refine wp_iret dJ0_length_8abf5_10 rfl ?_
  rw [leJ_sh i hi]
  exact k
theorem wp_slen' (hd : decode μ.2.1 pc = .ok (.invokevirtual idx, 3)) (hl : MLv μ.1.cls idx μJ0_length_8abf5 0) (hi : i < nJS) (hw : (S.map fun v => v.category).sum ≤ 8) (k : WP G (d + 2) b μ (pc + 3) L (.int (nI (leJ i)) :: S) m Q) : WP G (d + 2) b μ pc L (.ref (gK G i) :: S) m Q :=
  wp_callK (As := []) (S := S) (b' := (0, 0)) (b := b) hd hl hi rfl rfl (b00 b) hw (M_slen hi k)
theorem M_chkI {j n : Nat} {q : Value} (hq : q.isRef = true) (hj : j < n) (hn : n < 1000) (k : Q (some (.int (nI j))) m) : WPM G d (0, 0) μJ3_checkIndex_8e157 [.int (nI j), .int (nI n), q] m Q := by
  have fin : ∀ {L : List Value}, L[0]? = some (.int (nI j)) → L[1]? = some (.int (nI n)) → WP G d (0, 0) μJ3_checkIndex_8e157 0 L [] m Q := by
    intro L h0 h1
    refine wp_iload_n dJ3_checkIndex_8e157_0 h0 ?_
    refine wp_if_lt 9 dJ3_checkIndex_8e157_1 (by decide) (fun q => absurd q (nI_pos (by omega))) (fun _ => ?_)
    refine wp_iload_n dJ3_checkIndex_8e157_4 h0 ?_
    refine wp_iload_n dJ3_checkIndex_8e157_5 h1 ?_
    refine wp_icmp_lt 16 dJ3_checkIndex_8e157_6 (by decide) (fun _ => ?_) (fun q => absurd (nI_lt hj (by omega)) q)
    refine wp_iload_n dJ3_checkIndex_8e157_16 h0 ?_
    exact wp_iret dJ3_checkIndex_8e157_17 rfl k
  cases q with
  | null => exact WPM.of pJ3 (Nat.le_of_ble_eq_true rfl) rfl (fin rfl rfl)
  | ref a => exact WPM.of pJ3 (Nat.le_of_ble_eq_true rfl) rfl (fin rfl rfl)
  | _ => cases hq
theorem M_chk {j n : Nat} (hj : j < n) (hn : n < 1000) (k : Q none m) : WPM G (d + 1) (0, 0) μJ0_checkIndex_df160 [.int (nI j), .int (nI n)] m Q := by
  refine WPM.of pJ0 (Nat.le_of_ble_eq_true rfl) rfl ?_
  refine wp_iload_n dJ0_checkIndex_df160_0 rfl ?_
  refine wp_iload_n dJ0_checkIndex_df160_1 rfl ?_
  refine wp_siob dJ0_checkIndex_df160_2 sJ0_1053 (fun q hq => ?_)
  refine wp_callS (As := [.int (nI j), .int (nI n), q]) (S := []) (b' := (0, 0)) (b := (0, 0)) dJ0_checkIndex_df160_5 MJ0_1059 rfl rfl (Nat.le_of_ble_eq_true rfl) ?_
  refine M_chkI hq hj hn ?_
  refine wp_pop dJ0_checkIndex_df160_8 rfl ?_
  exact wp_vret dJ0_checkIndex_df160_9 rfl k
theorem M_chr1 {j : Nat} (hi : i < nJS) (hj : j < leJ i) (k : Q (some (.int (chJ i j))) m) : WPM G (d + 2) (0, 0) μJ1_charAt_3b067 [.ref (gV G i), .int (nI j)] m Q := by
  refine WPM.of pJ1 (Nat.le_of_ble_eq_true rfl) rfl ?_
  refine wp_iload_n dJ1_charAt_3b067_0 rfl ?_
  refine wp_aload_n dJ1_charAt_3b067_1 rfl ?_
  refine wp_stln dJ1_charAt_3b067_2 hi ?_
  refine wp_callS (As := [.int (nI j), .int (nI (leJ i))]) (S := []) (b' := (0, 0)) (b := (0, 0)) dJ1_charAt_3b067_3 MJ1_9 rfl rfl (Nat.le_of_ble_eq_true rfl) ?_
  have := leJ_lt i hi
  refine M_chk hj (by omega) ?_
  refine wp_aload_n dJ1_charAt_3b067_6 rfl ?_
  refine wp_iload_n dJ1_charAt_3b067_7 rfl ?_
  refine wp_sbal dJ1_charAt_3b067_8 hi hj ?_
  refine wp_sipush (255 : Int32) dJ1_charAt_3b067_9 (by decide) ?_
  refine wp_iand dJ1_charAt_3b067_12 ?_
  refine wp_i2c dJ1_charAt_3b067_13 ?_
  refine wp_zret dJ1_charAt_3b067_14 rfl ?_ ?_
  · rw [chJ_ok1 i hi j hj, show narrow .char (.int (chJ i j)) = .int (chJ i j).toUInt32.toUInt16.toUInt32.toInt32 from rfl, chJ_ok2 i hi j hj]
  · rw [chJ_ok1 i hi j hj]
    exact k
theorem M_chr {j : Nat} (hi : i < nJS) (hj : j < leJ i) (k : Q (some (.int (chJ i j))) m) : WPM G (d + 3) (0, 0) μJ0_charAt_5068e [.ref (gK G i), .int (nI j)] m Q := by
  refine WPM.of pJ0 (Nat.le_of_ble_eq_true rfl) rfl ?_
  refine wp_aload_n dJ0_charAt_5068e_0 rfl ?_
  refine wp_callK (As := []) (S := []) (b' := (0, 0)) (b := (0, 0)) dJ0_charAt_5068e_1 MJ0_492 hi rfl rfl rfl (Nat.le_of_ble_eq_true rfl) ?_
  refine M_latin hi ?_
  refine wp_if_eq 16 dJ0_charAt_5068e_4 (by decide) (fun q => absurd q (by decide)) (fun _ => ?_)
  refine wp_aload_n dJ0_charAt_5068e_7 rfl ?_
  refine wp_sval dJ0_charAt_5068e_8 wJ0_9 hi ?_
  refine wp_iload_n dJ0_charAt_5068e_11 rfl ?_
  refine wp_callS (As := [.ref (gV G i), .int (nI j)]) (S := []) (b' := (0, 0)) (b := (0, 0)) dJ0_charAt_5068e_12 MJ0_495 rfl rfl (Nat.le_of_ble_eq_true rfl) ?_
  refine M_chr1 hi hj ?_
  refine wp_zret dJ0_charAt_5068e_15 rfl ?_ k
  rw [show narrow .char (.int (chJ i j)) = .int (chJ i j).toUInt32.toUInt16.toUInt32.toInt32 from rfl, chJ_ok2 i hi j hj]
theorem wp_chr {j : Nat} (hd : decode μ.2.1 pc = .ok (.invokevirtual idx, 3)) (hl : MLv μ.1.cls idx μJ0_charAt_5068e 1) (hi : i < nJS) (hj : j < leJ i) (hw : (S.map fun v => v.category).sum ≤ 8) (k : WP G (d + 4) b μ (pc + 3) L (.int (chJ i j) :: S) m Q) : WP G (d + 4) b μ pc L (.int (nI j) :: .ref (gK G i) :: S) m Q :=
  wp_callK (As := [.int (nI j)]) (S := S) (b' := (0, 0)) (b := b) hd hl hi rfl rfl (b00 b) hw (M_chr hi hj k)
theorem M_canE {x : Nat} (hx : x < 256) (k : Q (some (.int 1)) m) : WPM G d (0, 0) μJ1_canEncode_9a6ad [.int (nI x)] m Q := by
  refine WPM.of pJ1 (Nat.le_of_ble_eq_true rfl) rfl ?_
  refine wp_iload_n dJ1_canEncode_9a6ad_0 rfl ?_
  refine wp_if_lt 15 dJ1_canEncode_9a6ad_1 (by decide) (fun q => absurd q (nI_pos (by omega))) (fun _ => ?_)
  refine wp_iload_n dJ1_canEncode_9a6ad_4 rfl ?_
  refine wp_sipush (255 : Int32) dJ1_canEncode_9a6ad_5 (by decide) ?_
  refine wp_icmp_gt 15 dJ1_canEncode_9a6ad_8 (by decide) (fun q => absurd q (nI_nlt (a := 255) (b := x) (by omega) (by omega))) (fun _ => ?_)
  refine wp_iconst (1 : Int32) dJ1_canEncode_9a6ad_11 (by decide) ?_
  refine wp_goto 16 dJ1_canEncode_9a6ad_12 (by decide) ?_
  exact wp_zret dJ1_canEncode_9a6ad_16 rfl rfl k
theorem L_iofc {y : Int32} (k1 : ∀ j, j < 11 → chJ 0 j = y → Q (some (.int (nI j))) m) (k2 : (∀ j, j < 11 → chJ 0 j ≠ y) → Q (some (.int (-1))) m) : ∀ f j, 11 - j ≤ f → j ≤ 11 → (∀ k, k < j → chJ 0 k ≠ y) → ∀ a1 a2, WP G d (0, 0) μJ1_indexOfChar_4cfef 7 [.ref (gV G 0), a1, a2, .int (nI 11), .int y, .int (nI j)] [] m Q := by
  intro f
  induction f with
  | zero =>
    intro j h1 h2 h3 a1 a2
    have e : j = 11 := by omega
    subst e
    refine wp_iload dJ1_indexOfChar_4cfef_7 rfl ?_
    refine wp_iload_n dJ1_indexOfChar_4cfef_9 rfl ?_
    refine wp_icmp_ge 31 dJ1_indexOfChar_4cfef_10 (by decide) (fun _ => ?_) (fun q => absurd q (by decide))
    refine wp_iconst (-1 : Int32) dJ1_indexOfChar_4cfef_31 (by decide) ?_
    exact wp_iret dJ1_indexOfChar_4cfef_32 rfl (k2 h3)
  | succ f ih =>
    intro j h1 h2 h3 a1 a2
    refine wp_iload dJ1_indexOfChar_4cfef_7 rfl ?_
    refine wp_iload_n dJ1_indexOfChar_4cfef_9 rfl ?_
    refine wp_icmp_ge 31 dJ1_indexOfChar_4cfef_10 (by decide) (fun q => ?_) (fun q => ?_)
    · have e : j = 11 := by
        by_cases z : j < 11
        · exact absurd (nI_lt z (by omega)) q
        · omega
      subst e
      refine wp_iconst (-1 : Int32) dJ1_indexOfChar_4cfef_31 (by decide) ?_
      exact wp_iret dJ1_indexOfChar_4cfef_32 rfl (k2 h3)
    · have hj : j < 11 := (nI_ltI (by omega) (by omega)).mp q
      refine wp_aload_n dJ1_indexOfChar_4cfef_13 rfl ?_
      refine wp_iload dJ1_indexOfChar_4cfef_14 rfl ?_
      refine wp_sbal (i := 0) dJ1_indexOfChar_4cfef_16 (by decide) hj ?_
      refine wp_iload dJ1_indexOfChar_4cfef_17 rfl ?_
      refine wp_icmp_ne 25 dJ1_indexOfChar_4cfef_19 (by decide) (fun q => ?_) (fun q => ?_)
      · refine wp_iinc (nI (j + 1)) dJ1_indexOfChar_4cfef_25 rfl (by decide) (nadd (a := j) (b := 1) (by omega)) rfl ?_
        refine wp_goto 7 dJ1_indexOfChar_4cfef_28 (by decide) ?_
        refine ih (j + 1) (by omega) (by omega) (fun k hk => ?_) a1 a2
        by_cases e : k = j
        · rw [e]; exact q
        · exact h3 k (by omega)
      · refine wp_iload dJ1_indexOfChar_4cfef_22 rfl ?_
        exact wp_iret dJ1_indexOfChar_4cfef_24 rfl (k1 j hj q)
def syL : List Nat := [60, 62, 61, 43, 45, 42, 47, 40, 41, 58, 59]
theorem sy_ok : ∀ x, x < 256 → ∀ j, j < 11 → (chJ 0 j = sx8 x ↔ x = syL.getD j 0) := by decide +kernel
theorem syL_mem (x : Nat) : x ∈ syL ↔ ∃ j, j < 11 ∧ x = syL.getD j 0 := by
  constructor
  · intro h
    obtain ⟨j, hj, e⟩ := List.getElem_of_mem h
    exact ⟨j, hj, by rw [List.getD_eq_getElem?_getD, List.getElem?_eq_getElem hj, e]; rfl⟩
  · rintro ⟨j, hj, e⟩
    rw [e, List.getD_eq_getElem?_getD, List.getElem?_eq_getElem (show j < syL.length from hj)]
    exact List.getElem_mem _
theorem M_iof {x : Nat} (hx : x < 256) (k : ∀ v : Int32, (v < 0 ↔ x ∉ syL) → Q (some (.int v)) m) : WPM G (d + 3) (0, 0) μJ0_indexOf_0f7a4 [.ref (gK G 0), .int (nI x)] m Q := by
  have h0 : 0 < nJS := by decide
  refine WPM.of pJ0 (Nat.le_of_ble_eq_true rfl) rfl ?_
  refine wp_aload_n dJ0_indexOf_0f7a4_0 rfl ?_
  refine wp_iload_n dJ0_indexOf_0f7a4_1 rfl ?_
  refine wp_iconst (0 : Int32) dJ0_indexOf_0f7a4_2 (by decide) ?_
  refine wp_callK (As := [.int (nI x), .int 0]) (S := []) (b' := (0, 0)) (b := (0, 0)) dJ0_indexOf_0f7a4_3 MJ0_633 h0 rfl rfl rfl (Nat.le_of_ble_eq_true rfl) ?_
  refine WPM.of pJ0 (Nat.le_of_ble_eq_true rfl) rfl ?_
  refine wp_aload_n dJ0_indexOf_7cf53_0 rfl ?_
  refine wp_callK (As := []) (S := []) (b' := (0, 0)) (b := (0, 0)) dJ0_indexOf_7cf53_1 MJ0_492 h0 rfl rfl rfl (Nat.le_of_ble_eq_true rfl) ?_
  refine M_latin h0 ?_
  refine wp_if_eq 23 dJ0_indexOf_7cf53_4 (by decide) (fun q => absurd q (by decide)) (fun _ => ?_)
  refine wp_aload_n dJ0_indexOf_7cf53_7 rfl ?_
  refine wp_sval dJ0_indexOf_7cf53_8 wJ0_9 h0 ?_
  refine wp_iload_n dJ0_indexOf_7cf53_11 rfl ?_
  refine wp_iload_n dJ0_indexOf_7cf53_12 rfl ?_
  refine wp_aload_n dJ0_indexOf_7cf53_13 rfl ?_
  refine wp_slen' dJ0_indexOf_7cf53_14 MJ0_505 h0 (Nat.le_of_ble_eq_true rfl) ?_
  refine wp_callS (As := [.ref (gV G 0), .int (nI x), .int 0, .int (nI (leJ 0))]) (S := []) (b' := (0, 0)) (b := (0, 0)) dJ0_indexOf_7cf53_17 MJ0_637 rfl rfl (Nat.le_of_ble_eq_true rfl) ?_
  refine WPM.of pJ1 (Nat.le_of_ble_eq_true rfl) rfl ?_
  refine wp_iload_n dJ1_indexOf_4cfef_0 rfl ?_
  refine wp_callS (As := [.int (nI x)]) (S := []) (b' := (0, 0)) (b := (0, 0)) dJ1_indexOf_4cfef_1 MJ1_88 rfl rfl (Nat.le_of_ble_eq_true rfl) ?_
  refine M_canE hx ?_
  refine wp_if_ne 9 dJ1_indexOf_4cfef_4 (by decide) (fun _ => ?_) (fun q => absurd q (by decide))
  refine wp_iload_n dJ1_indexOf_4cfef_9 rfl ?_
  refine wp_iconst (0 : Int32) dJ1_indexOf_4cfef_10 (by decide) ?_
  refine wp_maxI dJ1_indexOf_4cfef_11 AJ1_92 (Nat.le_of_ble_eq_true rfl) ?_
  refine wp_istore_n dJ1_indexOf_4cfef_14 (by decide) rfl ?_
  refine wp_iload_n dJ1_indexOf_4cfef_15 rfl ?_
  refine wp_aload_n dJ1_indexOf_4cfef_16 rfl ?_
  refine wp_stln dJ1_indexOf_4cfef_17 h0 ?_
  refine wp_minI dJ1_indexOf_4cfef_18 AJ1_38 (Nat.le_of_ble_eq_true rfl) ?_
  refine wp_istore_n dJ1_indexOf_4cfef_21 (by decide) rfl ?_
  refine wp_iload_n dJ1_indexOf_4cfef_22 rfl ?_
  refine wp_iload_n dJ1_indexOf_4cfef_23 rfl ?_
  refine wp_icmp_lt 29 dJ1_indexOf_4cfef_24 (by decide) (fun _ => ?_) (fun q => absurd (by decide) q)
  refine wp_aload_n dJ1_indexOf_4cfef_29 rfl ?_
  refine wp_iload_n dJ1_indexOf_4cfef_30 rfl ?_
  refine wp_iload_n dJ1_indexOf_4cfef_31 rfl ?_
  refine wp_iload_n dJ1_indexOf_4cfef_32 rfl ?_
  refine wp_callS (As := [.ref (gV G 0), .int (nI x), .int (imax 0 0), .int (imin (nI (leJ 0)) (nI (leJ 0)))]) (S := []) (b' := (0, 0)) (b := (0, 0)) dJ1_indexOf_4cfef_33 MJ1_95 rfl rfl (Nat.le_of_ble_eq_true rfl) ?_
  refine WPM.of pJ1 (Nat.le_of_ble_eq_true rfl) rfl ?_
  refine wp_iload_n dJ1_indexOfChar_4cfef_0 rfl ?_
  refine wp_i2b dJ1_indexOfChar_4cfef_1 ?_
  refine wp_istore dJ1_indexOfChar_4cfef_2 (by decide) rfl ?_
  refine wp_iload_n dJ1_indexOfChar_4cfef_4 rfl ?_
  refine wp_istore dJ1_indexOfChar_4cfef_5 (by decide) rfl ?_
  have hend : ∀ v : Int32, (v < 0 ↔ x ∉ syL) → WP G (d + 1) (0, 0) μJ1_indexOf_4cfef 36 [.ref (gV G 0), .int (nI x), .int (imax 0 0), .int (imin (nI (leJ 0)) (nI (leJ 0)))] [.int v] m (fun r' m' => WP G (d + 1 + 1) (0, 0) μJ0_indexOf_7cf53 20 [.ref (gK G 0), .int (nI x), .int 0] (r'.toList ++ []) m' (fun r' m' => WP G (d + 3) (0, 0) μJ0_indexOf_0f7a4 6 [.ref (gK G 0), .int (nI x)] (r'.toList ++ []) m' Q)) := by
    intro v hv
    refine wp_iret dJ1_indexOf_4cfef_36 rfl ?_
    refine wp_goto 36 dJ0_indexOf_7cf53_20 (by decide) ?_
    refine wp_iret dJ0_indexOf_7cf53_36 rfl ?_
    exact wp_iret dJ0_indexOf_0f7a4_6 rfl (k v hv)
  refine L_iofc (y := sx8 x) (fun j hj e => ?_) (fun h => ?_) 11 0 (by omega) (by omega) (fun k hk => by omega) _ _
  · refine hend (nI j) ⟨fun q => absurd q (nI_pos (by omega)), fun q => absurd ((syL_mem x).mpr ⟨j, hj, (sy_ok x hx j hj).mp e⟩) q⟩
  · refine hend (-1) ⟨fun _ q => ?_, fun _ => by decide⟩
    obtain ⟨j, hj, e⟩ := (syL_mem x).mp q
    exact h j hj ((sy_ok x hx j hj).mpr e)
theorem x_ldcwS {p : Program} {l : Launch} {e : Env} {R : Room} {s : State} {mi : MethodId} {args : Array Value} {below : List Frame} {meth : Method} {c : Code} {T : State} {locs : List Loc} {cells slots : Nat}
    (X : Stand p l e R s mi args below meth c T locs cells slots) (hexec : p.tables.exec = Jvm.exec) {own text : String} {index : Nat} {a : Addr} (hown : s.vm.findClass own = some mi.cls) (hZ : vk_R own index text a s) {g : JFrame} (hg : g.method = mi) (hdg : decode c.code g.pc = .ok (.ldc_w index, 3)) :
    ∀ target, Steps p.tables e below (T.setTop { g with pc := g.pc + 3, stack := .ref a :: g.stack }) target → Steps p.tables e below (T.setTop g) target := by
  obtain ⟨k, cf, i, a', hk, hcf, hcp, -, hr, hev'⟩ := Cond.stringRef_spec hown hZ.1
  have ha : a = a' := by
    have := hZ.2.symm.trans hev'
    cases this
    rfl
  subst ha
  obtain ⟨k', hk', he⟩ := X.warmed.alike.2.2 _ _ hk
  have hr' : k'.resolved[index]? = some (some (.string a)) := by
    rcases X.warmed.entry hk hk' index with h | ⟨h, -⟩
    · rw [h]; exact hr
    · rw [hr] at h; cases h
  intro target hrest
  subst hg
  jvm_step X.here [hexec, hdg, ldc_w.wp_string (e := e) (s := T) (f := g) X.here.top hk' (by rw [he]; exact hcf) hcp hr']
  exact hrest
theorem wp_ldcwS {j : Nat} {tx : String} (hd : decode μ.2.1 pc = .ok (.ldc_w idx, 3)) (hlt : j < nJS) (hj : refJS.getD j ("", 0, "") = (μ.1.cls, idx, tx)) (k : WP G d b μ (pc + 3) L (.ref (gK G j) :: S) m Q) : WP G d b μ pc L S m Q := by
  intro p e R s mi args below meth c H locs cells slots ls F hR hS hL T hT X
  obtain ⟨t, a1, b1⟩ := k p e R s mi args below meth c H locs cells slots ls F hR hS hL T hT X
  exact ⟨t, x_ldcwS X F.1 F.2.2.2.2.1 (by have z := F.2.2.2.2.2.2.2.2.2.2.2.1 j hlt; rw [hj] at z; exact z : vk_R μ.1.cls idx tx (gK G j) s) (g := F0 mi pc ls S) rfl (by rw [F.2.1]; exact hd) t a1, b1⟩
theorem wp_ldcS0 {j : Nat} {tx : String} (hd : decode μ.2.1 pc = .ok (.ldc idx, 2)) (hlt : j < nJS) (hj : refJS.getD j ("", 0, "") = (μ.1.cls, idx, tx)) (k : WP G d b μ (pc + 2) L (.ref (gK G j) :: S) m Q) : WP G d b μ pc L S m Q := wp_ldcS (own := "") hd hlt hj k
theorem wp_slenN {n : Nat} (hd : decode μ.2.1 pc = .ok (.invokevirtual idx, 3)) (hl : MLv μ.1.cls idx μJ0_length_8abf5 0) (hi : i < nJS) (hn : leJ i = n) (hw : (S.map fun v => v.category).sum ≤ 8) (k : WP G (d + 2) b μ (pc + 3) L (.int (nI n) :: S) m Q) : WP G (d + 2) b μ pc L (.ref (gK G i) :: S) m Q := by
  subst hn
  exact wp_slen' hd hl hi hw k
theorem wp_chrN {j n : Nat} (hd : decode μ.2.1 pc = .ok (.invokevirtual idx, 3)) (hl : MLv μ.1.cls idx μJ0_charAt_5068e 1) (hi : i < nJS) (hn : leJ i = n) (hj : j < n) (hw : (S.map fun v => v.category).sum ≤ 8) (k : WP G (d + 4) b μ (pc + 3) L (.int (chJ i j) :: S) m Q) : WP G (d + 4) b μ pc L (.int (nI j) :: .ref (gK G i) :: S) m Q := by
  subst hn
  exact wp_chr hd hl hi hj hw k
end STR
