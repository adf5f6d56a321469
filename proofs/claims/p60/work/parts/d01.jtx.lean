/-! A STRING'S TEXT, constant or made -/
/-- the string a, its bytes at v, is the text t -/
def TxP (G : Cx) (M1 : va_W) (a v : Nat) (t : List Nat) : Prop := (∀ b ∈ t, b < 128) ∧ t.length < 100 ∧ ((∃ i, i < nJS ∧ a = gK G i ∧ v = gV G i ∧ t.length = leJ i ∧ ∀ j, j < t.length → chJ i j = nI (t.getD j 0)) ∨ (∃ (q0 q1 : Nat) (f : Nat → Int32) (fs : List Value), M1[q0]? = some ((a, Sum.inr (13, .ref v :: .int 0 :: fs)) : Nat × va_E) ∧ M1[q1]? = some ((v, Sum.inl (gY G 20, t.length, Sum.inl f)) : Nat × va_E) ∧ ∀ j, j < t.length → f j = nI (t.getD j 0)))
section JTX
variable {G : Cx} {d : Nat} {b b' b'' : Nat × Nat} {μ ν : MI} {pc idx n : Nat} {L S As : List Value} {M : LM} {Q : Option Value → LM → Prop} {a v : Nat} {t : List Nat}
theorem TxP.lb {M1 : va_W} (h : TxP G M1 a v t) (j : Nat) : t.getD j 0 < 128 := by
  rw [List.getD_eq_getElem?_getD]
  cases hj : t[j]? with
  | none => show 0 < 128; decide
  | some x => exact h.1 x (List.mem_of_getElem? hj)
theorem wl_tval (h : TxP G M.1 a v t) (hd : decode μ.2.1 pc = .ok (.getfield idx, 3)) (hf : Cond.fieldLink μ.1.cls idx "java/lang/String" "value" "[B" ∈ tbG) (hf2 : LGk μ.1.cls idx 13 0) (kk : WZ G d b μ (pc + 3) L (.ref v :: S) M Q) : WZ G d b μ pc L (.ref a :: S) M Q := by
  obtain ⟨-, -, ⟨i, hi, rfl, rfl, -⟩ | ⟨q0, q1, f, fs, h0, -⟩⟩ := h
  · exact wl_sval hd hf hi kk
  · obtain ⟨ws, cs⟩ := M
    exact wl_get q0 (.ref v) hd hf2 h0 rfl kk
theorem wl_tcod (h : TxP G M.1 a v t) (hd : decode μ.2.1 pc = .ok (.getfield idx, 3)) (hf : Cond.fieldLink μ.1.cls idx "java/lang/String" "coder" "B" ∈ tbG) (hf2 : LGk μ.1.cls idx 13 1) (kk : WZ G d b μ (pc + 3) L (.int 0 :: S) M Q) : WZ G d b μ pc L (.ref a :: S) M Q := by
  obtain ⟨-, -, ⟨i, hi, rfl, rfl, -⟩ | ⟨q0, q1, f, fs, h0, -⟩⟩ := h
  · exact wl_scod hd hf hi kk
  · obtain ⟨ws, cs⟩ := M
    exact wl_get q0 (.int 0) hd hf2 h0 rfl kk
theorem wl_tlen (h : TxP G M.1 a v t) (hd : decode μ.2.1 pc = .ok (.arraylength, 1)) (kk : WZ G d b μ (pc + 1) L (.int (nI t.length) :: S) M Q) : WZ G d b μ pc L (.ref v :: S) M Q := by
  obtain ⟨-, -, ⟨i, hi, rfl, rfl, hl, -⟩ | ⟨q0, q1, f, fs, h0, h1, -⟩⟩ := h
  · rw [hl] at kk
    exact wl_stln hd hi kk
  · obtain ⟨ws, cs⟩ := M
    exact wl_alen (t0 := 0) (ty := .byte) q1 hd h1 rfl rfl kk
theorem wl_tbal {j : Nat} (h : TxP G M.1 a v t) (hd : decode μ.2.1 pc = .ok (.baload, 1)) (hj : j < t.length) (kk : WZ G d b μ (pc + 1) L (.int (nI (t.getD j 0)) :: S) M Q) : WZ G d b μ pc L (.int (nI j) :: .ref v :: S) M Q := by
  obtain ⟨-, hlt, ⟨i, hi, rfl, rfl, hl, hc⟩ | ⟨q0, q1, f, fs, h0, h1, hc⟩⟩ := h
  · rw [← hc j hj] at kk
    exact wl_sbal hd hi (by omega) kk
  · obtain ⟨ws, cs⟩ := M
    exact wl_bald (t0 := 0) q1 j _ hd h1 rfl rfl hj (by omega) (hc j hj) kk
theorem wl_callT (h : TxP G M.1 a v t) (hd : decode μ.2.1 pc = .ok (.invokevirtual idx, 3)) (hl : MLv μ.1.cls idx ν n) (hr : RJ0 = ν.1.cls) (hn : As.length = n) (hw : (S.map fun v => v.category).sum ≤ 8) (hM : WZM G d (0, 0) ν (.ref a :: As) M (fun r m' => WZ G (d + 1) b μ (pc + 3) L (r.toList ++ S) m' Q)) : WZ G (d + 1) b μ pc L (As.reverse ++ .ref a :: S) M Q := by
  obtain ⟨-, -, ⟨i, hi, rfl, rfl, -⟩ | ⟨q0, q1, f, fs, h0, -⟩⟩ := h
  · exact wl_callK hd hl hi hr hn (b00 b) hw hM
  · exact wl_callV hd hl ⟨q0, _, h0⟩ (show classes[13]? = some (RJ0, TJ0, 4) from rfl) hr hn (b00 b) hw hM
theorem t_coder (h : TxP G M.1 a v t) (k : Q (some (.int 0)) M) : WZM G d (0, 0) μJ0_coder_7d493 [.ref a] M Q := by
  refine WZM.of pJ0 (Nat.le_of_ble_eq_true rfl) rfl ?_
  refine wl_scmp dJ0_coder_7d493_0 sJ0_38 ?_
  refine wl_if_eq 13 dJ0_coder_7d493_3 (by decide) (fun q => absurd q (by decide)) (fun _ => ?_)
  refine wl_aload_n dJ0_coder_7d493_6 rfl ?_
  refine wl_tcod h dJ0_coder_7d493_7 wJ0_15 fJ0_15 ?_
  refine wl_goto 14 dJ0_coder_7d493_10 (by decide) ?_
  exact wl_zret dJ0_coder_7d493_14 rfl rfl k
theorem t_latin (h : TxP G M.1 a v t) (k : Q (some (.int 1)) M) : WZM G d (0, 0) μJ0_isLatin1_aae02 [.ref a] M Q := by
  refine WZM.of pJ0 (Nat.le_of_ble_eq_true rfl) rfl ?_
  refine wl_scmp dJ0_isLatin1_aae02_0 sJ0_38 ?_
  refine wl_if_eq 17 dJ0_isLatin1_aae02_3 (by decide) (fun q => absurd q (by decide)) (fun _ => ?_)
  refine wl_aload_n dJ0_isLatin1_aae02_6 rfl ?_
  refine wl_tcod h dJ0_isLatin1_aae02_7 wJ0_15 fJ0_15 ?_
  refine wl_if_ne 17 dJ0_isLatin1_aae02_10 (by decide) (fun q => absurd rfl q) (fun _ => ?_)
  refine wl_iconst (1 : Int32) dJ0_isLatin1_aae02_13 (by decide) ?_
  refine wl_goto 18 dJ0_isLatin1_aae02_14 (by decide) ?_
  exact wl_zret dJ0_isLatin1_aae02_18 rfl rfl k
theorem t_length (h : TxP G M.1 a v t) (k : Q (some (.int (nI t.length))) M) : WZM G (d + 1) (0, 0) μJ0_length_8abf5 [.ref a] M Q := by
  refine WZM.of pJ0 (Nat.le_of_ble_eq_true rfl) rfl ?_
  refine wl_aload_n dJ0_length_8abf5_0 rfl ?_
  refine wl_tval h dJ0_length_8abf5_1 wJ0_9 fJ0_9 ?_
  refine wl_tlen h dJ0_length_8abf5_4 ?_
  refine wl_aload_n dJ0_length_8abf5_5 rfl ?_
  refine wl_callT (As := []) (S := [.int (nI t.length)]) h dJ0_length_8abf5_6 MJ0_335 rfl rfl (Nat.le_of_ble_eq_true rfl) ?_
  refine t_coder h ?_
  refine wl_ishr dJ0_length_8abf5_9 ?_
  refine wl_iret dJ0_length_8abf5_10 rfl ?_
  rw [sb_shr0]
  exact k
theorem t_chkI {j n : Nat} {q : Value} (hq : q.isRef = true) (hj : j < n) (hn : n < 1000) (k : Q (some (.int (nI j))) M) : WZM G d (0, 0) μJ3_checkIndex_8e157 [.int (nI j), .int (nI n), q] M Q := by
  have fin : ∀ {L : List Value}, L[0]? = some (.int (nI j)) → L[1]? = some (.int (nI n)) → WZ G d (0, 0) μJ3_checkIndex_8e157 0 L [] M Q := by
    intro L h0 h1
    refine wl_iload_n dJ3_checkIndex_8e157_0 h0 ?_
    refine wl_if_lt 9 dJ3_checkIndex_8e157_1 (by decide) (fun q => absurd q (nI_pos (by omega))) (fun _ => ?_)
    refine wl_iload_n dJ3_checkIndex_8e157_4 h0 ?_
    refine wl_iload_n dJ3_checkIndex_8e157_5 h1 ?_
    refine wl_icmp_lt 16 dJ3_checkIndex_8e157_6 (by decide) (fun _ => ?_) (fun q => absurd (nI_lt hj (by omega)) q)
    refine wl_iload_n dJ3_checkIndex_8e157_16 h0 ?_
    exact wl_iret dJ3_checkIndex_8e157_17 rfl k
  cases q with
  | null => exact WZM.of pJ3 (Nat.le_of_ble_eq_true rfl) rfl (fin rfl rfl)
  | ref a => exact WZM.of pJ3 (Nat.le_of_ble_eq_true rfl) rfl (fin rfl rfl)
  | _ => cases hq
theorem t_chk {j n : Nat} (hj : j < n) (hn : n < 1000) (k : Q none M) : WZM G (d + 1) (0, 0) μJ0_checkIndex_df160 [.int (nI j), .int (nI n)] M Q := by
  refine WZM.of pJ0 (Nat.le_of_ble_eq_true rfl) rfl ?_
  refine wl_iload_n dJ0_checkIndex_df160_0 rfl ?_
  refine wl_iload_n dJ0_checkIndex_df160_1 rfl ?_
  refine wl_siob dJ0_checkIndex_df160_2 sJ0_1053 (fun q hq => ?_)
  refine wl_callS (As := [.int (nI j), .int (nI n), q]) (S := []) (b' := (0, 0)) (b := (0, 0)) dJ0_checkIndex_df160_5 MJ0_1059 rfl rfl (Nat.le_of_ble_eq_true rfl) ?_
  refine t_chkI hq hj hn ?_
  refine wl_pop dJ0_checkIndex_df160_8 rfl ?_
  exact wl_vret dJ0_checkIndex_df160_9 rfl k
theorem by_ok1 : ∀ x, x < 128 → UInt32.toInt32 (Int32.toUInt32 (nI x &&& 255) % 65536) = nI x ∧ (nI x).toUInt32.toUInt16.toUInt32.toInt32 = nI x ∧ (nI x &&& 255) = nI x := by decide +kernel
theorem t_chr1 {j : Nat} (h : TxP G M.1 a v t) (hj : j < t.length) (k : Q (some (.int (nI (t.getD j 0)))) M) : WZM G (d + 2) (0, 0) μJ1_charAt_3b067 [.ref v, .int (nI j)] M Q := by
  have hb := by_ok1 _ (h.lb j)
  refine WZM.of pJ1 (Nat.le_of_ble_eq_true rfl) rfl ?_
  refine wl_iload_n dJ1_charAt_3b067_0 rfl ?_
  refine wl_aload_n dJ1_charAt_3b067_1 rfl ?_
  refine wl_tlen h dJ1_charAt_3b067_2 ?_
  refine wl_callS (As := [.int (nI j), .int (nI t.length)]) (S := []) (b' := (0, 0)) (b := (0, 0)) dJ1_charAt_3b067_3 MJ1_9 rfl rfl (Nat.le_of_ble_eq_true rfl) ?_
  refine t_chk hj (by have := h.2.1; omega) ?_
  refine wl_aload_n dJ1_charAt_3b067_6 rfl ?_
  refine wl_iload_n dJ1_charAt_3b067_7 rfl ?_
  refine wl_tbal h dJ1_charAt_3b067_8 hj ?_
  refine wl_sipush (255 : Int32) dJ1_charAt_3b067_9 (by decide) ?_
  refine wl_iand dJ1_charAt_3b067_12 ?_
  refine wl_i2c dJ1_charAt_3b067_13 ?_
  refine wl_zret dJ1_charAt_3b067_14 rfl ?_ ?_
  · rw [hb.1, show narrow .char (.int (nI (t.getD j 0))) = .int (nI (t.getD j 0)).toUInt32.toUInt16.toUInt32.toInt32 from rfl, hb.2.1]
  · rw [hb.1]
    exact k
theorem t_charAt {j : Nat} (h : TxP G M.1 a v t) (hj : j < t.length) (k : Q (some (.int (nI (t.getD j 0)))) M) : WZM G (d + 3) (0, 0) μJ0_charAt_5068e [.ref a, .int (nI j)] M Q := by
  have hb := by_ok1 _ (h.lb j)
  refine WZM.of pJ0 (Nat.le_of_ble_eq_true rfl) rfl ?_
  refine wl_aload_n dJ0_charAt_5068e_0 rfl ?_
  refine wl_callT (As := []) (S := []) h dJ0_charAt_5068e_1 MJ0_492 rfl rfl (Nat.le_of_ble_eq_true rfl) ?_
  refine t_latin h ?_
  refine wl_if_eq 16 dJ0_charAt_5068e_4 (by decide) (fun q => absurd q (by decide)) (fun _ => ?_)
  refine wl_aload_n dJ0_charAt_5068e_7 rfl ?_
  refine wl_tval h dJ0_charAt_5068e_8 wJ0_9 fJ0_9 ?_
  refine wl_iload_n dJ0_charAt_5068e_11 rfl ?_
  refine wl_callS (As := [.ref v, .int (nI j)]) (S := []) (b' := (0, 0)) (b := (0, 0)) dJ0_charAt_5068e_12 MJ0_495 rfl rfl (Nat.le_of_ble_eq_true rfl) ?_
  refine t_chr1 h hj ?_
  refine wl_zret dJ0_charAt_5068e_15 rfl ?_ k
  rw [show narrow .char (.int (nI (t.getD j 0))) = .int (nI (t.getD j 0)).toUInt32.toUInt16.toUInt32.toInt32 from rfl, hb.2.1]
end JTX
