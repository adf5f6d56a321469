theorem sC_val208 {G : Cx} {d : Nat} {m : Mm} {Q : Option Value → Mm → Prop} {c p : Nat} (hF : Full G m) (hc : IsC G c) 
    (e1 : WPM G (d + 2) (0, 0) μX0_hasSun [.ref c] m (fun r' m' => WP G (d + 3) (0, 0) μX8_valueOf 124 [lvU, lvU, lvU] (r'.toList ++ []) m' Q)) :
    WPM G (d + 3) (0, 0) μX8_valueOf [.int (208 : Int32), .int (nI p), .ref c] m Q := by
  refine WPM.of pX8 (Nat.le_of_ble_eq_true rfl) rfl ?_
  refine wp_iload_n dX8_valueOf_0 rfl ?_
  refine wp_tableIn (off := 119) 120 dX8_valueOf_1 (by decide) (by decide) rfl (by decide) ?_
  refine wp_aload_n dX8_valueOf_120 rfl ?_
  refine wp_forget [lvU, lvU, lvU] ⟨Or.inr rfl, Or.inr rfl, Or.inr rfl, trivial⟩ ?_
  refine wp_callV (As := []) (S := []) (b' := (0, 0)) (b := (0, 0)) dX8_valueOf_121 MX8_117 (kc0 hF hc) rfl rfl rfl rfl (Nat.le_of_ble_eq_true rfl) ?_
  exact e1

theorem bC_val208 {G : Cx} {d : Nat} {m : Mm} {Q : Option Value → Mm → Prop} {c : Nat} {r : Int32} (hF : Full G m) (hc : IsC G c) 
    (e1 : r = 0 → Q (some (.long (0 : Int64))) m)
    (e2 : ¬ r = 0 → Q (some (.long (1 : Int64))) m) :
    WP G (d + 3) (0, 0) μX8_valueOf 124 [lvU, lvU, lvU] [.int r] m Q := by
  refine wp_if_eq 131 dX8_valueOf_124 (by decide) (fun q1 => ?_) (fun q2 => ?_)
  · skip
    refine wp_lconst (0 : Int64) dX8_valueOf_131 (by decide) ?_
    exact wp_lret dX8_valueOf_132 rfl (e1 q1)
  · skip
    refine wp_lconst (1 : Int64) dX8_valueOf_127 (by decide) ?_
    refine wp_goto 132 dX8_valueOf_128 (by decide) ?_
    exact wp_lret dX8_valueOf_132 rfl (e2 q2)

theorem sC_val209 {G : Cx} {d : Nat} {m : Mm} {Q : Option Value → Mm → Prop} {c p : Nat} (hF : Full G m) (hc : IsC G c) 
    (e1 : WPM G (d + 2) (0, 0) μX0_phaseNow [.ref c] m (fun r' m' => WP G (d + 3) (0, 0) μX8_valueOf 137 [lvU, lvU, lvU] (r'.toList ++ []) m' Q)) :
    WPM G (d + 3) (0, 0) μX8_valueOf [.int (209 : Int32), .int (nI p), .ref c] m Q := by
  refine WPM.of pX8 (Nat.le_of_ble_eq_true rfl) rfl ?_
  refine wp_iload_n dX8_valueOf_0 rfl ?_
  refine wp_tableIn (off := 132) 133 dX8_valueOf_1 (by decide) (by decide) rfl (by decide) ?_
  refine wp_aload_n dX8_valueOf_133 rfl ?_
  refine wp_forget [lvU, lvU, lvU] ⟨Or.inr rfl, Or.inr rfl, Or.inr rfl, trivial⟩ ?_
  refine wp_callV (As := []) (S := []) (b' := (0, 0)) (b := (0, 0)) dX8_valueOf_134 MX8_121 (kc0 hF hc) rfl rfl rfl rfl (Nat.le_of_ble_eq_true rfl) ?_
  exact e1

theorem bC_val209 {G : Cx} {d : Nat} {m : Mm} {Q : Option Value → Mm → Prop} {c : Nat} {r : Int32} (hF : Full G m) (hc : IsC G c) 
    (e1 : Q (some (.long (Int32.toInt64 r))) m) :
    WP G (d + 3) (0, 0) μX8_valueOf 137 [lvU, lvU, lvU] [.int r] m Q := by
  refine wp_i2l dX8_valueOf_137 ?_
  exact wp_lret dX8_valueOf_138 rfl (e1)

theorem sC_val211 {G : Cx} {d : Nat} {m : Mm} {Q : Option Value → Mm → Prop} {c p : Nat} (hF : Full G m) (hc : IsC G c) 
    (e1 : WPM G (d + 2) (0, 0) μX0_powerInUse [.ref c] m (fun r' m' => WP G (d + 3) (0, 0) μX8_valueOf 152 [lvU, lvU, lvU] (r'.toList ++ []) m' Q)) :
    WPM G (d + 3) (0, 0) μX8_valueOf [.int (211 : Int32), .int (nI p), .ref c] m Q := by
  refine WPM.of pX8 (Nat.le_of_ble_eq_true rfl) rfl ?_
  refine wp_iload_n dX8_valueOf_0 rfl ?_
  refine wp_tableIn (off := 147) 148 dX8_valueOf_1 (by decide) (by decide) rfl (by decide) ?_
  refine wp_aload_n dX8_valueOf_148 rfl ?_
  refine wp_forget [lvU, lvU, lvU] ⟨Or.inr rfl, Or.inr rfl, Or.inr rfl, trivial⟩ ?_
  refine wp_callV (As := []) (S := []) (b' := (0, 0)) (b := (0, 0)) dX8_valueOf_149 MX8_134 (kc0 hF hc) rfl rfl rfl rfl (Nat.le_of_ble_eq_true rfl) ?_
  exact e1

theorem bC_val211 {G : Cx} {d : Nat} {m : Mm} {Q : Option Value → Mm → Prop} {c : Nat} {r : Int32} (hF : Full G m) (hc : IsC G c) 
    (e1 : Q (some (.long (Int32.toInt64 r))) m) :
    WP G (d + 3) (0, 0) μX8_valueOf 152 [lvU, lvU, lvU] [.int r] m Q := by
  refine wp_i2l dX8_valueOf_152 ?_
  exact wp_lret dX8_valueOf_153 rfl (e1)

theorem bC_ev200 {G : Cx} {d : Nat} {m : Mm} {Q : Option Value → Mm → Prop} {c r : Nat} {i s e p n : Nat} (hF : Full G m) (hc : IsC G c) (hr : IsR G r) (hi : i < 500) (hie : i < e) (he : e ≤ 500) (ho : ai m (r + 1) i = (200 : Int32)) (hp : ai m (r + 2) i = nI p) (hs : s < 64) (hb : p < 1000000)
    (e1 : WP G (d + 4) (0, 0) μX8_evaluate 16 [.ref r, lvU, .int (nI e), .ref c, .int (nI (s + 1)), .int (0 : Int32), .int (nI (i + 1)), lvU, lvU] [] (wal m (r + 8) s (Int32.toInt64 (nI p))) Q) :
    WP G (d + 4) (0, 0) μX8_evaluate 16 [.ref r, lvU, .int (nI e), .ref c, .int (nI s), .int (0 : Int32), .int (nI i), lvU, lvU] [] m Q := by
  refine wp_iload dX8_evaluate_16 rfl ?_
  refine wp_iload_n dX8_evaluate_18 rfl ?_
  refine wp_icmp_ge 283 dX8_evaluate_19 (by decide) (fun q => absurd (nlt_ (a := i) (b := e) hie (by omega)) q) (fun _ => ?_)
  refine wp_aload_n dX8_evaluate_22 rfl ?_
  refine wp_getr (r + 1) dX8_evaluate_23 fX8_9 (kr0 hF hr) (hF.2 _ _) (rra 1 (isK_le (kr0 hF hr)) (fun _ => rfl)) ?_
  refine wp_iload dX8_evaluate_26 rfl ?_
  refine wp_ialdk (n := 500) i (200 : Int32) dX8_evaluate_28 (kr hF hr 1 (by decide)) (lr hr 1 (by decide) (by decide)) (vin (by omega) (by decide)) (nIc (by omega)) ho ?_
  refine wp_istore dX8_evaluate_29 (by decide) rfl ?_
  refine wp_iload dX8_evaluate_31 rfl ?_
  refine wp_if_eq 54 dX8_evaluate_33 (by decide) (fun _ => ?_) (fun q => absurd (by decide) q)
  refine wp_iload dX8_evaluate_54 rfl ?_
  refine wp_sipush (203 : Int32) dX8_evaluate_56 (by decide) ?_
  refine wp_icmp_eq 70 dX8_evaluate_59 (by decide) (fun q => absurd q (by decide)) (fun _ => ?_)
  refine wp_iload dX8_evaluate_62 rfl ?_
  refine wp_sipush (202 : Int32) dX8_evaluate_64 (by decide) ?_
  refine wp_icmp_ne 137 dX8_evaluate_67 (by decide) (fun _ => ?_) (fun q => absurd q (by decide))
  refine wp_iload dX8_evaluate_137 rfl ?_
  refine wp_sipush (204 : Int32) dX8_evaluate_139 (by decide) ?_
  refine wp_icmp_eq 153 dX8_evaluate_142 (by decide) (fun q => absurd q (by decide)) (fun _ => ?_)
  refine wp_iload dX8_evaluate_145 rfl ?_
  refine wp_sipush (220 : Int32) dX8_evaluate_147 (by decide) ?_
  refine wp_icmp_ne 194 dX8_evaluate_150 (by decide) (fun _ => ?_) (fun q => absurd q (by decide))
  refine wp_iload dX8_evaluate_194 rfl ?_
  refine wp_sipush (200 : Int32) dX8_evaluate_196 (by decide) ?_
  refine wp_icmp_lt 238 dX8_evaluate_199 (by decide) (fun q => absurd q (by decide)) (fun _ => ?_)
  refine wp_iload dX8_evaluate_202 rfl ?_
  refine wp_aload_n dX8_evaluate_204 rfl ?_
  refine wp_getr (r + 8) dX8_evaluate_205 fX8_33 (kr0 hF hr) (hF.2 _ _) (rra 8 (isK_le (kr0 hF hr)) (fun _ => rfl)) ?_
  refine wp_alenL (64 : Int32) dX8_evaluate_208 (kr hF hr 8 (by decide)) (congrArg Int32.ofNat (lr hr 8 (by decide) (by decide))) ?_
  refine wp_icmp_ge 277 dX8_evaluate_209 (by decide) (fun q => absurd (nlt_ (a := s) (b := 64) hs (by omega)) q) (fun _ => ?_)
  refine wp_aload_n dX8_evaluate_212 rfl ?_
  refine wp_getr (r + 8) dX8_evaluate_213 fX8_33 (kr0 hF hr) (hF.2 _ _) (rra 8 (isK_le (kr0 hF hr)) (fun _ => rfl)) ?_
  refine wp_iload dX8_evaluate_216 rfl ?_
  refine wp_iload dX8_evaluate_218 rfl ?_
  refine wp_aload_n dX8_evaluate_220 rfl ?_
  refine wp_getr (r + 2) dX8_evaluate_221 fX8_15 (kr0 hF hr) (hF.2 _ _) (rra 2 (isK_le (kr0 hF hr)) (fun _ => rfl)) ?_
  refine wp_iload dX8_evaluate_224 rfl ?_
  refine wp_ialdk (n := 500) i (nI p) dX8_evaluate_226 (kr hF hr 2 (by decide)) (lr hr 2 (by decide) (by decide)) (vin (by omega) (by decide)) (nIc (by omega)) hp ?_
  refine wp_aload_n dX8_evaluate_227 rfl ?_
  refine wp_callS (As := [.int (200 : Int32), .int (nI p), .ref c]) (S := [.int (nI s), .ref (r + 8)]) (b' := (0, 0)) (b := (0, 0)) dX8_evaluate_228 MX8_100 rfl rfl (Nat.le_of_ble_eq_true rfl) ?_
  refine WPM.of pX8 (Nat.le_of_ble_eq_true rfl) rfl ?_
  refine wp_iload_n dX8_valueOf_0 rfl ?_
  refine wp_tableIn (off := 63) 64 dX8_valueOf_1 (by decide) (by decide) rfl (by decide) ?_
  refine wp_iload_n dX8_valueOf_64 rfl ?_
  refine wp_i2l dX8_valueOf_65 ?_
  refine wp_lret dX8_valueOf_66 rfl ?_
  show WP G (d + 4) (0, 0) μX8_evaluate 231 [.ref r, lvU, .int (nI e), .ref c, .int (nI s), .int (0 : Int32), .int (nI i), .int (200 : Int32), lvU] [.long (Int32.toInt64 (nI p)), .int (nI s), .ref (r + 8)] m _
  refine wp_lastk (n := 64) s dX8_evaluate_231 (kr hF hr 8 (by decide)) (lr hr 8 (by decide) (by decide)) (vin (by omega) (by decide))  (nIc (by omega)) ?_
  have hF1 := Full_wal (r + 8) s (Int32.toInt64 (nI p)) hF
  refine wp_iinc (nI (s + 1)) dX8_evaluate_232 rfl (by decide) (nadd (a := s) (b := 1) (by omega)) rfl ?_
  refine wp_goto 277 dX8_evaluate_235 (by decide) ?_
  refine wp_iinc (nI (i + 1)) dX8_evaluate_277 rfl (by decide) (nadd (a := i) (b := 1) (by omega)) rfl ?_
  refine wp_goto 16 dX8_evaluate_280 (by decide) ?_
  refine wp_forget [.ref r, lvU, .int (nI e), .ref c, .int (nI (s + 1)), .int (0 : Int32), .int (nI (i + 1)), lvU, lvU] ⟨Or.inl rfl, Or.inr rfl, Or.inl rfl, Or.inl rfl, Or.inl rfl, Or.inl rfl, Or.inl rfl, Or.inr rfl, Or.inr rfl, trivial⟩ ?_
  exact e1

theorem bC_ev205 {G : Cx} {d : Nat} {m : Mm} {Q : Option Value → Mm → Prop} {c r : Nat} {i s e p n : Nat} (hF : Full G m) (hc : IsC G c) (hr : IsR G r) (hi : i < 500) (hie : i < e) (he : e ≤ 500) (ho : ai m (r + 1) i = (205 : Int32)) (hp : ai m (r + 2) i = nI p) (hs : s < 64) (hn : fi m 5 c = nI n) (h12 : n ≤ 12) (hb : p < n)
    (e1 : WP G (d + 4) (0, 0) μX8_evaluate 16 [.ref r, lvU, .int (nI e), .ref c, .int (nI (s + 1)), .int (0 : Int32), .int (nI (i + 1)), lvU, lvU] [] (wal m (r + 8) s (Int32.toInt64 (fi m 401 (nd c p)))) Q) :
    WP G (d + 4) (0, 0) μX8_evaluate 16 [.ref r, lvU, .int (nI e), .ref c, .int (nI s), .int (0 : Int32), .int (nI i), lvU, lvU] [] m Q := by
  refine wp_iload dX8_evaluate_16 rfl ?_
  refine wp_iload_n dX8_evaluate_18 rfl ?_
  refine wp_icmp_ge 283 dX8_evaluate_19 (by decide) (fun q => absurd (nlt_ (a := i) (b := e) hie (by omega)) q) (fun _ => ?_)
  refine wp_aload_n dX8_evaluate_22 rfl ?_
  refine wp_getr (r + 1) dX8_evaluate_23 fX8_9 (kr0 hF hr) (hF.2 _ _) (rra 1 (isK_le (kr0 hF hr)) (fun _ => rfl)) ?_
  refine wp_iload dX8_evaluate_26 rfl ?_
  refine wp_ialdk (n := 500) i (205 : Int32) dX8_evaluate_28 (kr hF hr 1 (by decide)) (lr hr 1 (by decide) (by decide)) (vin (by omega) (by decide)) (nIc (by omega)) ho ?_
  refine wp_istore dX8_evaluate_29 (by decide) rfl ?_
  refine wp_iload dX8_evaluate_31 rfl ?_
  refine wp_if_eq 54 dX8_evaluate_33 (by decide) (fun _ => ?_) (fun q => absurd (by decide) q)
  refine wp_iload dX8_evaluate_54 rfl ?_
  refine wp_sipush (203 : Int32) dX8_evaluate_56 (by decide) ?_
  refine wp_icmp_eq 70 dX8_evaluate_59 (by decide) (fun q => absurd q (by decide)) (fun _ => ?_)
  refine wp_iload dX8_evaluate_62 rfl ?_
  refine wp_sipush (202 : Int32) dX8_evaluate_64 (by decide) ?_
  refine wp_icmp_ne 137 dX8_evaluate_67 (by decide) (fun _ => ?_) (fun q => absurd q (by decide))
  refine wp_iload dX8_evaluate_137 rfl ?_
  refine wp_sipush (204 : Int32) dX8_evaluate_139 (by decide) ?_
  refine wp_icmp_eq 153 dX8_evaluate_142 (by decide) (fun q => absurd q (by decide)) (fun _ => ?_)
  refine wp_iload dX8_evaluate_145 rfl ?_
  refine wp_sipush (220 : Int32) dX8_evaluate_147 (by decide) ?_
  refine wp_icmp_ne 194 dX8_evaluate_150 (by decide) (fun _ => ?_) (fun q => absurd q (by decide))
  refine wp_iload dX8_evaluate_194 rfl ?_
  refine wp_sipush (200 : Int32) dX8_evaluate_196 (by decide) ?_
  refine wp_icmp_lt 238 dX8_evaluate_199 (by decide) (fun q => absurd q (by decide)) (fun _ => ?_)
  refine wp_iload dX8_evaluate_202 rfl ?_
  refine wp_aload_n dX8_evaluate_204 rfl ?_
  refine wp_getr (r + 8) dX8_evaluate_205 fX8_33 (kr0 hF hr) (hF.2 _ _) (rra 8 (isK_le (kr0 hF hr)) (fun _ => rfl)) ?_
  refine wp_alenL (64 : Int32) dX8_evaluate_208 (kr hF hr 8 (by decide)) (congrArg Int32.ofNat (lr hr 8 (by decide) (by decide))) ?_
  refine wp_icmp_ge 277 dX8_evaluate_209 (by decide) (fun q => absurd (nlt_ (a := s) (b := 64) hs (by omega)) q) (fun _ => ?_)
  refine wp_aload_n dX8_evaluate_212 rfl ?_
  refine wp_getr (r + 8) dX8_evaluate_213 fX8_33 (kr0 hF hr) (hF.2 _ _) (rra 8 (isK_le (kr0 hF hr)) (fun _ => rfl)) ?_
  refine wp_iload dX8_evaluate_216 rfl ?_
  refine wp_iload dX8_evaluate_218 rfl ?_
  refine wp_aload_n dX8_evaluate_220 rfl ?_
  refine wp_getr (r + 2) dX8_evaluate_221 fX8_15 (kr0 hF hr) (hF.2 _ _) (rra 2 (isK_le (kr0 hF hr)) (fun _ => rfl)) ?_
  refine wp_iload dX8_evaluate_224 rfl ?_
  refine wp_ialdk (n := 500) i (nI p) dX8_evaluate_226 (kr hF hr 2 (by decide)) (lr hr 2 (by decide) (by decide)) (vin (by omega) (by decide)) (nIc (by omega)) hp ?_
  refine wp_aload_n dX8_evaluate_227 rfl ?_
  refine wp_callS (As := [.int (205 : Int32), .int (nI p), .ref c]) (S := [.int (nI s), .ref (r + 8)]) (b' := (0, 0)) (b := (0, 0)) dX8_evaluate_228 MX8_100 rfl rfl (Nat.le_of_ble_eq_true rfl) ?_
  refine WPM.of pX8 (Nat.le_of_ble_eq_true rfl) rfl ?_
  refine wp_iload_n dX8_valueOf_0 rfl ?_
  refine wp_tableIn (off := 66) 67 dX8_valueOf_1 (by decide) (by decide) rfl (by decide) ?_
  refine wp_aload_n dX8_valueOf_67 rfl ?_
  refine wp_iload_n dX8_valueOf_68 rfl ?_
  refine wp_callV (As := [.int (nI p)]) (S := []) (b' := (0, 0)) (b := (0, 0)) dX8_valueOf_69 MX8_107 (kc0 hF hc) rfl rfl rfl rfl (Nat.le_of_ble_eq_true rfl) ?_
  refine WPM.of pX0 (Nat.le_of_ble_eq_true rfl) rfl ?_
  refine wp_aload_n dX0_temperatureAt_0 rfl ?_
  refine wp_iload_n dX0_temperatureAt_1 rfl ?_
  refine wp_callV (As := [.int (nI p)]) (S := []) (b' := (0, 0)) (b := (0, 0)) dX0_temperatureAt_2 MX0_152 (kc0 hF hc) rfl rfl rfl rfl (Nat.le_of_ble_eq_true rfl) ?_
  refine WPM.of pX0 (Nat.le_of_ble_eq_true rfl) rfl ?_
  refine wp_iload_n dX0_hasNode_0 rfl ?_
  refine wp_if_lt 16 dX0_hasNode_1 (by decide) (fun q => absurd q (nI_pos (by omega))) (fun _ => ?_)
  refine wp_iload_n dX0_hasNode_4 rfl ?_
  refine wp_aload_n dX0_hasNode_5 rfl ?_
  refine wp_geti (nI n) dX0_hasNode_6 fX0_75 (Or.inl rfl) (kc0 hF hc) hn ?_
  refine wp_icmp_ge 16 dX0_hasNode_9 (by decide) (fun q => absurd (nlt_ (a := p) (b := n) hb (by omega)) q) (fun _ => ?_)
  refine wp_iconst (1 : Int32) dX0_hasNode_12 (by decide) ?_
  refine wp_goto 17 dX0_hasNode_13 (by decide) ?_
  refine wp_zret dX0_hasNode_17 rfl rfl ?_
  show WP G (d + 2) (0, 0) μX0_temperatureAt 5 [.ref c, .int (nI p)] [.int (1 : Int32)] m _
  refine wp_if_eq 20 dX0_temperatureAt_5 (by decide) (fun q => absurd q (by decide)) (fun _ => ?_)
  refine wp_aload_n dX0_temperatureAt_8 rfl ?_
  refine wp_getr (c + 1) dX0_temperatureAt_9 fX0_11 (kc0 hF hc) (hF.2 _ _) (rra 1 (isK_le (kc0 hF hc)) (fun _ => rfl)) ?_
  refine wp_iload_n dX0_temperatureAt_12 rfl ?_
  refine wp_raldk (n := 12) p (nd c p) dX0_temperatureAt_13 (kc hF hc 1 (by decide)) (by decide) (by decide) (lc hc 1 (by decide)) (vin (by omega) (by decide)) (nIc (by omega)) (hF.2 _ _) (rnd hF hc) ?_
  refine wp_geti (fi m 401 (nd c p)) dX0_temperatureAt_14 fX0_156 (Or.inl rfl) (knd hF hc (by omega)) rfl ?_
  refine wp_goto 21 dX0_temperatureAt_17 (by decide) ?_
  refine wp_iret dX0_temperatureAt_21 rfl ?_
  show WP G (d + 3) (0, 0) μX8_valueOf 72 [.int (205 : Int32), .int (nI p), .ref c] [.int (fi m 401 (nd c p))] m _
  refine wp_i2l dX8_valueOf_72 ?_
  refine wp_lret dX8_valueOf_73 rfl ?_
  show WP G (d + 4) (0, 0) μX8_evaluate 231 [.ref r, lvU, .int (nI e), .ref c, .int (nI s), .int (0 : Int32), .int (nI i), .int (205 : Int32), lvU] [.long (Int32.toInt64 (fi m 401 (nd c p))), .int (nI s), .ref (r + 8)] m _
  refine wp_lastk (n := 64) s dX8_evaluate_231 (kr hF hr 8 (by decide)) (lr hr 8 (by decide) (by decide)) (vin (by omega) (by decide))  (nIc (by omega)) ?_
  have hF1 := Full_wal (r + 8) s (Int32.toInt64 (fi m 401 (nd c p))) hF
  refine wp_iinc (nI (s + 1)) dX8_evaluate_232 rfl (by decide) (nadd (a := s) (b := 1) (by omega)) rfl ?_
  refine wp_goto 277 dX8_evaluate_235 (by decide) ?_
  refine wp_iinc (nI (i + 1)) dX8_evaluate_277 rfl (by decide) (nadd (a := i) (b := 1) (by omega)) rfl ?_
  refine wp_goto 16 dX8_evaluate_280 (by decide) ?_
  refine wp_forget [.ref r, lvU, .int (nI e), .ref c, .int (nI (s + 1)), .int (0 : Int32), .int (nI (i + 1)), lvU, lvU] ⟨Or.inl rfl, Or.inr rfl, Or.inl rfl, Or.inl rfl, Or.inl rfl, Or.inl rfl, Or.inl rfl, Or.inr rfl, Or.inr rfl, trivial⟩ ?_
  exact e1

theorem bC_ev206 {G : Cx} {d : Nat} {m : Mm} {Q : Option Value → Mm → Prop} {c r : Nat} {i s e p n : Nat} (hF : Full G m) (hc : IsC G c) (hr : IsR G r) (hi : i < 500) (hie : i < e) (he : e ≤ 500) (ho : ai m (r + 1) i = (206 : Int32)) (hp : ai m (r + 2) i = nI p) (hs : s < 64) (hn : fi m 7 c = nI n) (h6 : n ≤ 6) (hb : p < n)
    (e1 : WP G (d + 4) (0, 0) μX8_evaluate 16 [.ref r, lvU, .int (nI e), .ref c, .int (nI (s + 1)), .int (0 : Int32), .int (nI (i + 1)), lvU, lvU] [] (wal m (r + 8) s (Int32.toInt64 (fi m 305 (lv c p)))) Q) :
    WP G (d + 4) (0, 0) μX8_evaluate 16 [.ref r, lvU, .int (nI e), .ref c, .int (nI s), .int (0 : Int32), .int (nI i), lvU, lvU] [] m Q := by
  refine wp_iload dX8_evaluate_16 rfl ?_
  refine wp_iload_n dX8_evaluate_18 rfl ?_
  refine wp_icmp_ge 283 dX8_evaluate_19 (by decide) (fun q => absurd (nlt_ (a := i) (b := e) hie (by omega)) q) (fun _ => ?_)
  refine wp_aload_n dX8_evaluate_22 rfl ?_
  refine wp_getr (r + 1) dX8_evaluate_23 fX8_9 (kr0 hF hr) (hF.2 _ _) (rra 1 (isK_le (kr0 hF hr)) (fun _ => rfl)) ?_
  refine wp_iload dX8_evaluate_26 rfl ?_
  refine wp_ialdk (n := 500) i (206 : Int32) dX8_evaluate_28 (kr hF hr 1 (by decide)) (lr hr 1 (by decide) (by decide)) (vin (by omega) (by decide)) (nIc (by omega)) ho ?_
  refine wp_istore dX8_evaluate_29 (by decide) rfl ?_
  refine wp_iload dX8_evaluate_31 rfl ?_
  refine wp_if_eq 54 dX8_evaluate_33 (by decide) (fun _ => ?_) (fun q => absurd (by decide) q)
  refine wp_iload dX8_evaluate_54 rfl ?_
  refine wp_sipush (203 : Int32) dX8_evaluate_56 (by decide) ?_
  refine wp_icmp_eq 70 dX8_evaluate_59 (by decide) (fun q => absurd q (by decide)) (fun _ => ?_)
  refine wp_iload dX8_evaluate_62 rfl ?_
  refine wp_sipush (202 : Int32) dX8_evaluate_64 (by decide) ?_
  refine wp_icmp_ne 137 dX8_evaluate_67 (by decide) (fun _ => ?_) (fun q => absurd q (by decide))
  refine wp_iload dX8_evaluate_137 rfl ?_
  refine wp_sipush (204 : Int32) dX8_evaluate_139 (by decide) ?_
  refine wp_icmp_eq 153 dX8_evaluate_142 (by decide) (fun q => absurd q (by decide)) (fun _ => ?_)
  refine wp_iload dX8_evaluate_145 rfl ?_
  refine wp_sipush (220 : Int32) dX8_evaluate_147 (by decide) ?_
  refine wp_icmp_ne 194 dX8_evaluate_150 (by decide) (fun _ => ?_) (fun q => absurd q (by decide))
  refine wp_iload dX8_evaluate_194 rfl ?_
  refine wp_sipush (200 : Int32) dX8_evaluate_196 (by decide) ?_
  refine wp_icmp_lt 238 dX8_evaluate_199 (by decide) (fun q => absurd q (by decide)) (fun _ => ?_)
  refine wp_iload dX8_evaluate_202 rfl ?_
  refine wp_aload_n dX8_evaluate_204 rfl ?_
  refine wp_getr (r + 8) dX8_evaluate_205 fX8_33 (kr0 hF hr) (hF.2 _ _) (rra 8 (isK_le (kr0 hF hr)) (fun _ => rfl)) ?_
  refine wp_alenL (64 : Int32) dX8_evaluate_208 (kr hF hr 8 (by decide)) (congrArg Int32.ofNat (lr hr 8 (by decide) (by decide))) ?_
  refine wp_icmp_ge 277 dX8_evaluate_209 (by decide) (fun q => absurd (nlt_ (a := s) (b := 64) hs (by omega)) q) (fun _ => ?_)
  refine wp_aload_n dX8_evaluate_212 rfl ?_
  refine wp_getr (r + 8) dX8_evaluate_213 fX8_33 (kr0 hF hr) (hF.2 _ _) (rra 8 (isK_le (kr0 hF hr)) (fun _ => rfl)) ?_
  refine wp_iload dX8_evaluate_216 rfl ?_
  refine wp_iload dX8_evaluate_218 rfl ?_
  refine wp_aload_n dX8_evaluate_220 rfl ?_
  refine wp_getr (r + 2) dX8_evaluate_221 fX8_15 (kr0 hF hr) (hF.2 _ _) (rra 2 (isK_le (kr0 hF hr)) (fun _ => rfl)) ?_
  refine wp_iload dX8_evaluate_224 rfl ?_
  refine wp_ialdk (n := 500) i (nI p) dX8_evaluate_226 (kr hF hr 2 (by decide)) (lr hr 2 (by decide) (by decide)) (vin (by omega) (by decide)) (nIc (by omega)) hp ?_
  refine wp_aload_n dX8_evaluate_227 rfl ?_
  refine wp_callS (As := [.int (206 : Int32), .int (nI p), .ref c]) (S := [.int (nI s), .ref (r + 8)]) (b' := (0, 0)) (b := (0, 0)) dX8_evaluate_228 MX8_100 rfl rfl (Nat.le_of_ble_eq_true rfl) ?_
  refine WPM.of pX8 (Nat.le_of_ble_eq_true rfl) rfl ?_
  refine wp_iload_n dX8_valueOf_0 rfl ?_
  refine wp_tableIn (off := 73) 74 dX8_valueOf_1 (by decide) (by decide) rfl (by decide) ?_
  refine wp_aload_n dX8_valueOf_74 rfl ?_
  refine wp_iload_n dX8_valueOf_75 rfl ?_
  refine wp_callV (As := [.int (nI p)]) (S := []) (b' := (0, 0)) (b := (0, 0)) dX8_valueOf_76 MX8_75 (kc0 hF hc) rfl rfl rfl rfl (Nat.le_of_ble_eq_true rfl) ?_
  refine WPM.of pX0 (Nat.le_of_ble_eq_true rfl) rfl ?_
  refine wp_iload_n dX0_hasLouvre_0 rfl ?_
  refine wp_if_lt 16 dX0_hasLouvre_1 (by decide) (fun q => absurd q (nI_pos (by omega))) (fun _ => ?_)
  refine wp_iload_n dX0_hasLouvre_4 rfl ?_
  refine wp_aload_n dX0_hasLouvre_5 rfl ?_
  refine wp_geti (nI n) dX0_hasLouvre_6 fX0_88 (Or.inl rfl) (kc0 hF hc) hn ?_
  refine wp_icmp_ge 16 dX0_hasLouvre_9 (by decide) (fun q => absurd (nlt_ (a := p) (b := n) hb (by omega)) q) (fun _ => ?_)
  refine wp_iconst (1 : Int32) dX0_hasLouvre_12 (by decide) ?_
  refine wp_goto 17 dX0_hasLouvre_13 (by decide) ?_
  refine wp_zret dX0_hasLouvre_17 rfl rfl ?_
  show WP G (d + 3) (0, 0) μX8_valueOf 79 [.int (206 : Int32), .int (nI p), .ref c] [.int (1 : Int32)] m _
  refine wp_if_eq 95 dX8_valueOf_79 (by decide) (fun q => absurd q (by decide)) (fun _ => ?_)
  refine wp_aload_n dX8_valueOf_82 rfl ?_
  refine wp_getr (c + 3) dX8_valueOf_83 fX8_78 (kc0 hF hc) (hF.2 _ _) (rra 3 (isK_le (kc0 hF hc)) (fun _ => rfl)) ?_
  refine wp_iload_n dX8_valueOf_86 rfl ?_
  refine wp_raldk (n := 6) p (lv c p) dX8_valueOf_87 (kc hF hc 3 (by decide)) (by decide) (by decide) (lc hc 3 (by decide)) (vin (by omega) (by decide)) (nIc (by omega)) (hF.2 _ _) (rlv hF hc) ?_
  refine wp_geti (fi m 305 (lv c p)) dX8_valueOf_88 fX8_111 (Or.inl rfl) (klv hF hc (by omega)) rfl ?_
  refine wp_i2l dX8_valueOf_91 ?_
  refine wp_goto 96 dX8_valueOf_92 (by decide) ?_
  refine wp_lret dX8_valueOf_96 rfl ?_
  show WP G (d + 4) (0, 0) μX8_evaluate 231 [.ref r, lvU, .int (nI e), .ref c, .int (nI s), .int (0 : Int32), .int (nI i), .int (206 : Int32), lvU] [.long (Int32.toInt64 (fi m 305 (lv c p))), .int (nI s), .ref (r + 8)] m _
  refine wp_lastk (n := 64) s dX8_evaluate_231 (kr hF hr 8 (by decide)) (lr hr 8 (by decide) (by decide)) (vin (by omega) (by decide))  (nIc (by omega)) ?_
  have hF1 := Full_wal (r + 8) s (Int32.toInt64 (fi m 305 (lv c p))) hF
  refine wp_iinc (nI (s + 1)) dX8_evaluate_232 rfl (by decide) (nadd (a := s) (b := 1) (by omega)) rfl ?_
  refine wp_goto 277 dX8_evaluate_235 (by decide) ?_
  refine wp_iinc (nI (i + 1)) dX8_evaluate_277 rfl (by decide) (nadd (a := i) (b := 1) (by omega)) rfl ?_
  refine wp_goto 16 dX8_evaluate_280 (by decide) ?_
  refine wp_forget [.ref r, lvU, .int (nI e), .ref c, .int (nI (s + 1)), .int (0 : Int32), .int (nI (i + 1)), lvU, lvU] ⟨Or.inl rfl, Or.inr rfl, Or.inl rfl, Or.inl rfl, Or.inl rfl, Or.inl rfl, Or.inl rfl, Or.inr rfl, Or.inr rfl, trivial⟩ ?_
  exact e1

theorem bC_ev207 {G : Cx} {d : Nat} {m : Mm} {Q : Option Value → Mm → Prop} {c r : Nat} {i s e p n : Nat} (hF : Full G m) (hc : IsC G c) (hr : IsR G r) (hi : i < 500) (hie : i < e) (he : e ≤ 500) (ho : ai m (r + 1) i = (207 : Int32)) (hp : ai m (r + 2) i = nI p) (hs : s < 64) (hn : fi m 8 c = nI n) (h8 : n ≤ 8) (hb : p < n)
    (e1 : WP G (d + 4) (0, 0) μX8_evaluate 16 [.ref r, lvU, .int (nI e), .ref c, .int (nI (s + 1)), .int (0 : Int32), .int (nI (i + 1)), lvU, lvU] [] (wal m (r + 8) s (Int32.toInt64 (fi m 107 (ht c p)))) Q) :
    WP G (d + 4) (0, 0) μX8_evaluate 16 [.ref r, lvU, .int (nI e), .ref c, .int (nI s), .int (0 : Int32), .int (nI i), lvU, lvU] [] m Q := by
  refine wp_iload dX8_evaluate_16 rfl ?_
  refine wp_iload_n dX8_evaluate_18 rfl ?_
  refine wp_icmp_ge 283 dX8_evaluate_19 (by decide) (fun q => absurd (nlt_ (a := i) (b := e) hie (by omega)) q) (fun _ => ?_)
  refine wp_aload_n dX8_evaluate_22 rfl ?_
  refine wp_getr (r + 1) dX8_evaluate_23 fX8_9 (kr0 hF hr) (hF.2 _ _) (rra 1 (isK_le (kr0 hF hr)) (fun _ => rfl)) ?_
  refine wp_iload dX8_evaluate_26 rfl ?_
  refine wp_ialdk (n := 500) i (207 : Int32) dX8_evaluate_28 (kr hF hr 1 (by decide)) (lr hr 1 (by decide) (by decide)) (vin (by omega) (by decide)) (nIc (by omega)) ho ?_
  refine wp_istore dX8_evaluate_29 (by decide) rfl ?_
  refine wp_iload dX8_evaluate_31 rfl ?_
  refine wp_if_eq 54 dX8_evaluate_33 (by decide) (fun _ => ?_) (fun q => absurd (by decide) q)
  refine wp_iload dX8_evaluate_54 rfl ?_
  refine wp_sipush (203 : Int32) dX8_evaluate_56 (by decide) ?_
  refine wp_icmp_eq 70 dX8_evaluate_59 (by decide) (fun q => absurd q (by decide)) (fun _ => ?_)
  refine wp_iload dX8_evaluate_62 rfl ?_
  refine wp_sipush (202 : Int32) dX8_evaluate_64 (by decide) ?_
  refine wp_icmp_ne 137 dX8_evaluate_67 (by decide) (fun _ => ?_) (fun q => absurd q (by decide))
  refine wp_iload dX8_evaluate_137 rfl ?_
  refine wp_sipush (204 : Int32) dX8_evaluate_139 (by decide) ?_
  refine wp_icmp_eq 153 dX8_evaluate_142 (by decide) (fun q => absurd q (by decide)) (fun _ => ?_)
  refine wp_iload dX8_evaluate_145 rfl ?_
  refine wp_sipush (220 : Int32) dX8_evaluate_147 (by decide) ?_
  refine wp_icmp_ne 194 dX8_evaluate_150 (by decide) (fun _ => ?_) (fun q => absurd q (by decide))
  refine wp_iload dX8_evaluate_194 rfl ?_
  refine wp_sipush (200 : Int32) dX8_evaluate_196 (by decide) ?_
  refine wp_icmp_lt 238 dX8_evaluate_199 (by decide) (fun q => absurd q (by decide)) (fun _ => ?_)
  refine wp_iload dX8_evaluate_202 rfl ?_
  refine wp_aload_n dX8_evaluate_204 rfl ?_
  refine wp_getr (r + 8) dX8_evaluate_205 fX8_33 (kr0 hF hr) (hF.2 _ _) (rra 8 (isK_le (kr0 hF hr)) (fun _ => rfl)) ?_
  refine wp_alenL (64 : Int32) dX8_evaluate_208 (kr hF hr 8 (by decide)) (congrArg Int32.ofNat (lr hr 8 (by decide) (by decide))) ?_
  refine wp_icmp_ge 277 dX8_evaluate_209 (by decide) (fun q => absurd (nlt_ (a := s) (b := 64) hs (by omega)) q) (fun _ => ?_)
  refine wp_aload_n dX8_evaluate_212 rfl ?_
  refine wp_getr (r + 8) dX8_evaluate_213 fX8_33 (kr0 hF hr) (hF.2 _ _) (rra 8 (isK_le (kr0 hF hr)) (fun _ => rfl)) ?_
  refine wp_iload dX8_evaluate_216 rfl ?_
  refine wp_iload dX8_evaluate_218 rfl ?_
  refine wp_aload_n dX8_evaluate_220 rfl ?_
  refine wp_getr (r + 2) dX8_evaluate_221 fX8_15 (kr0 hF hr) (hF.2 _ _) (rra 2 (isK_le (kr0 hF hr)) (fun _ => rfl)) ?_
  refine wp_iload dX8_evaluate_224 rfl ?_
  refine wp_ialdk (n := 500) i (nI p) dX8_evaluate_226 (kr hF hr 2 (by decide)) (lr hr 2 (by decide) (by decide)) (vin (by omega) (by decide)) (nIc (by omega)) hp ?_
  refine wp_aload_n dX8_evaluate_227 rfl ?_
  refine wp_callS (As := [.int (207 : Int32), .int (nI p), .ref c]) (S := [.int (nI s), .ref (r + 8)]) (b' := (0, 0)) (b := (0, 0)) dX8_evaluate_228 MX8_100 rfl rfl (Nat.le_of_ble_eq_true rfl) ?_
  refine WPM.of pX8 (Nat.le_of_ble_eq_true rfl) rfl ?_
  refine wp_iload_n dX8_valueOf_0 rfl ?_
  refine wp_tableIn (off := 96) 97 dX8_valueOf_1 (by decide) (by decide) rfl (by decide) ?_
  refine wp_aload_n dX8_valueOf_97 rfl ?_
  refine wp_iload_n dX8_valueOf_98 rfl ?_
  refine wp_callV (As := [.int (nI p)]) (S := []) (b' := (0, 0)) (b := (0, 0)) dX8_valueOf_99 MX8_88 (kc0 hF hc) rfl rfl rfl rfl (Nat.le_of_ble_eq_true rfl) ?_
  refine WPM.of pX0 (Nat.le_of_ble_eq_true rfl) rfl ?_
  refine wp_iload_n dX0_hasHeater_0 rfl ?_
  refine wp_if_lt 16 dX0_hasHeater_1 (by decide) (fun q => absurd q (nI_pos (by omega))) (fun _ => ?_)
  refine wp_iload_n dX0_hasHeater_4 rfl ?_
  refine wp_aload_n dX0_hasHeater_5 rfl ?_
  refine wp_geti (nI n) dX0_hasHeater_6 fX0_94 (Or.inl rfl) (kc0 hF hc) hn ?_
  refine wp_icmp_ge 16 dX0_hasHeater_9 (by decide) (fun q => absurd (nlt_ (a := p) (b := n) hb (by omega)) q) (fun _ => ?_)
  refine wp_iconst (1 : Int32) dX0_hasHeater_12 (by decide) ?_
  refine wp_goto 17 dX0_hasHeater_13 (by decide) ?_
  refine wp_zret dX0_hasHeater_17 rfl rfl ?_
  show WP G (d + 3) (0, 0) μX8_valueOf 102 [.int (207 : Int32), .int (nI p), .ref c] [.int (1 : Int32)] m _
  refine wp_if_eq 118 dX8_valueOf_102 (by decide) (fun q => absurd q (by decide)) (fun _ => ?_)
  refine wp_aload_n dX8_valueOf_105 rfl ?_
  refine wp_getr (c + 4) dX8_valueOf_106 fX8_91 (kc0 hF hc) (hF.2 _ _) (rra 4 (isK_le (kc0 hF hc)) (fun _ => rfl)) ?_
  refine wp_iload_n dX8_valueOf_109 rfl ?_
  refine wp_raldk (n := 8) p (ht c p) dX8_valueOf_110 (kc hF hc 4 (by decide)) (by decide) (by decide) (lc hc 4 (by decide)) (vin (by omega) (by decide)) (nIc (by omega)) (hF.2 _ _) (rht hF hc) ?_
  refine wp_geti (fi m 107 (ht c p)) dX8_valueOf_111 fX8_114 (Or.inl rfl) (kht hF hc (by omega)) rfl ?_
  refine wp_i2l dX8_valueOf_114 ?_
  refine wp_goto 119 dX8_valueOf_115 (by decide) ?_
  refine wp_lret dX8_valueOf_119 rfl ?_
  show WP G (d + 4) (0, 0) μX8_evaluate 231 [.ref r, lvU, .int (nI e), .ref c, .int (nI s), .int (0 : Int32), .int (nI i), .int (207 : Int32), lvU] [.long (Int32.toInt64 (fi m 107 (ht c p))), .int (nI s), .ref (r + 8)] m _
  refine wp_lastk (n := 64) s dX8_evaluate_231 (kr hF hr 8 (by decide)) (lr hr 8 (by decide) (by decide)) (vin (by omega) (by decide))  (nIc (by omega)) ?_
  have hF1 := Full_wal (r + 8) s (Int32.toInt64 (fi m 107 (ht c p))) hF
  refine wp_iinc (nI (s + 1)) dX8_evaluate_232 rfl (by decide) (nadd (a := s) (b := 1) (by omega)) rfl ?_
  refine wp_goto 277 dX8_evaluate_235 (by decide) ?_
  refine wp_iinc (nI (i + 1)) dX8_evaluate_277 rfl (by decide) (nadd (a := i) (b := 1) (by omega)) rfl ?_
  refine wp_goto 16 dX8_evaluate_280 (by decide) ?_
  refine wp_forget [.ref r, lvU, .int (nI e), .ref c, .int (nI (s + 1)), .int (0 : Int32), .int (nI (i + 1)), lvU, lvU] ⟨Or.inl rfl, Or.inr rfl, Or.inl rfl, Or.inl rfl, Or.inl rfl, Or.inl rfl, Or.inl rfl, Or.inr rfl, Or.inr rfl, trivial⟩ ?_
  exact e1

theorem bC_ev210 {G : Cx} {d : Nat} {m : Mm} {Q : Option Value → Mm → Prop} {c r : Nat} {i s e p n : Nat} (hF : Full G m) (hc : IsC G c) (hr : IsR G r) (hi : i < 500) (hie : i < e) (he : e ≤ 500) (ho : ai m (r + 1) i = (210 : Int32)) (hp : ai m (r + 2) i = nI p) (hs : s < 64) (hb : p < 1000000)
    (e1 : WP G (d + 4) (0, 0) μX8_evaluate 16 [.ref r, lvU, .int (nI e), .ref c, .int (nI (s + 1)), .int (0 : Int32), .int (nI (i + 1)), lvU, lvU] [] (wal m (r + 8) s (Int32.toInt64 (fi m 903 (c + 7)))) Q) :
    WP G (d + 4) (0, 0) μX8_evaluate 16 [.ref r, lvU, .int (nI e), .ref c, .int (nI s), .int (0 : Int32), .int (nI i), lvU, lvU] [] m Q := by
  refine wp_iload dX8_evaluate_16 rfl ?_
  refine wp_iload_n dX8_evaluate_18 rfl ?_
  refine wp_icmp_ge 283 dX8_evaluate_19 (by decide) (fun q => absurd (nlt_ (a := i) (b := e) hie (by omega)) q) (fun _ => ?_)
  refine wp_aload_n dX8_evaluate_22 rfl ?_
  refine wp_getr (r + 1) dX8_evaluate_23 fX8_9 (kr0 hF hr) (hF.2 _ _) (rra 1 (isK_le (kr0 hF hr)) (fun _ => rfl)) ?_
  refine wp_iload dX8_evaluate_26 rfl ?_
  refine wp_ialdk (n := 500) i (210 : Int32) dX8_evaluate_28 (kr hF hr 1 (by decide)) (lr hr 1 (by decide) (by decide)) (vin (by omega) (by decide)) (nIc (by omega)) ho ?_
  refine wp_istore dX8_evaluate_29 (by decide) rfl ?_
  refine wp_iload dX8_evaluate_31 rfl ?_
  refine wp_if_eq 54 dX8_evaluate_33 (by decide) (fun _ => ?_) (fun q => absurd (by decide) q)
  refine wp_iload dX8_evaluate_54 rfl ?_
  refine wp_sipush (203 : Int32) dX8_evaluate_56 (by decide) ?_
  refine wp_icmp_eq 70 dX8_evaluate_59 (by decide) (fun q => absurd q (by decide)) (fun _ => ?_)
  refine wp_iload dX8_evaluate_62 rfl ?_
  refine wp_sipush (202 : Int32) dX8_evaluate_64 (by decide) ?_
  refine wp_icmp_ne 137 dX8_evaluate_67 (by decide) (fun _ => ?_) (fun q => absurd q (by decide))
  refine wp_iload dX8_evaluate_137 rfl ?_
  refine wp_sipush (204 : Int32) dX8_evaluate_139 (by decide) ?_
  refine wp_icmp_eq 153 dX8_evaluate_142 (by decide) (fun q => absurd q (by decide)) (fun _ => ?_)
  refine wp_iload dX8_evaluate_145 rfl ?_
  refine wp_sipush (220 : Int32) dX8_evaluate_147 (by decide) ?_
  refine wp_icmp_ne 194 dX8_evaluate_150 (by decide) (fun _ => ?_) (fun q => absurd q (by decide))
  refine wp_iload dX8_evaluate_194 rfl ?_
  refine wp_sipush (200 : Int32) dX8_evaluate_196 (by decide) ?_
  refine wp_icmp_lt 238 dX8_evaluate_199 (by decide) (fun q => absurd q (by decide)) (fun _ => ?_)
  refine wp_iload dX8_evaluate_202 rfl ?_
  refine wp_aload_n dX8_evaluate_204 rfl ?_
  refine wp_getr (r + 8) dX8_evaluate_205 fX8_33 (kr0 hF hr) (hF.2 _ _) (rra 8 (isK_le (kr0 hF hr)) (fun _ => rfl)) ?_
  refine wp_alenL (64 : Int32) dX8_evaluate_208 (kr hF hr 8 (by decide)) (congrArg Int32.ofNat (lr hr 8 (by decide) (by decide))) ?_
  refine wp_icmp_ge 277 dX8_evaluate_209 (by decide) (fun q => absurd (nlt_ (a := s) (b := 64) hs (by omega)) q) (fun _ => ?_)
  refine wp_aload_n dX8_evaluate_212 rfl ?_
  refine wp_getr (r + 8) dX8_evaluate_213 fX8_33 (kr0 hF hr) (hF.2 _ _) (rra 8 (isK_le (kr0 hF hr)) (fun _ => rfl)) ?_
  refine wp_iload dX8_evaluate_216 rfl ?_
  refine wp_iload dX8_evaluate_218 rfl ?_
  refine wp_aload_n dX8_evaluate_220 rfl ?_
  refine wp_getr (r + 2) dX8_evaluate_221 fX8_15 (kr0 hF hr) (hF.2 _ _) (rra 2 (isK_le (kr0 hF hr)) (fun _ => rfl)) ?_
  refine wp_iload dX8_evaluate_224 rfl ?_
  refine wp_ialdk (n := 500) i (nI p) dX8_evaluate_226 (kr hF hr 2 (by decide)) (lr hr 2 (by decide) (by decide)) (vin (by omega) (by decide)) (nIc (by omega)) hp ?_
  refine wp_aload_n dX8_evaluate_227 rfl ?_
  refine wp_callS (As := [.int (210 : Int32), .int (nI p), .ref c]) (S := [.int (nI s), .ref (r + 8)]) (b' := (0, 0)) (b := (0, 0)) dX8_evaluate_228 MX8_100 rfl rfl (Nat.le_of_ble_eq_true rfl) ?_
  refine WPM.of pX8 (Nat.le_of_ble_eq_true rfl) rfl ?_
  refine wp_iload_n dX8_valueOf_0 rfl ?_
  refine wp_tableIn (off := 138) 139 dX8_valueOf_1 (by decide) (by decide) rfl (by decide) ?_
  refine wp_aload_n dX8_valueOf_139 rfl ?_
  refine wp_getr (c + 7) dX8_valueOf_140 fX8_125 (kc0 hF hc) (hF.2 _ _) (rra 7 (isK_le (kc0 hF hc)) (fun _ => rfl)) ?_
  refine wp_geti (fi m 903 (c + 7)) dX8_valueOf_143 fX8_129 (Or.inl rfl) (kc hF hc 7 (by decide)) rfl ?_
  refine wp_i2l dX8_valueOf_146 ?_
  refine wp_lret dX8_valueOf_147 rfl ?_
  show WP G (d + 4) (0, 0) μX8_evaluate 231 [.ref r, lvU, .int (nI e), .ref c, .int (nI s), .int (0 : Int32), .int (nI i), .int (210 : Int32), lvU] [.long (Int32.toInt64 (fi m 903 (c + 7))), .int (nI s), .ref (r + 8)] m _
  refine wp_lastk (n := 64) s dX8_evaluate_231 (kr hF hr 8 (by decide)) (lr hr 8 (by decide) (by decide)) (vin (by omega) (by decide))  (nIc (by omega)) ?_
  have hF1 := Full_wal (r + 8) s (Int32.toInt64 (fi m 903 (c + 7))) hF
  refine wp_iinc (nI (s + 1)) dX8_evaluate_232 rfl (by decide) (nadd (a := s) (b := 1) (by omega)) rfl ?_
  refine wp_goto 277 dX8_evaluate_235 (by decide) ?_
  refine wp_iinc (nI (i + 1)) dX8_evaluate_277 rfl (by decide) (nadd (a := i) (b := 1) (by omega)) rfl ?_
  refine wp_goto 16 dX8_evaluate_280 (by decide) ?_
  refine wp_forget [.ref r, lvU, .int (nI e), .ref c, .int (nI (s + 1)), .int (0 : Int32), .int (nI (i + 1)), lvU, lvU] ⟨Or.inl rfl, Or.inr rfl, Or.inl rfl, Or.inl rfl, Or.inl rfl, Or.inl rfl, Or.inl rfl, Or.inr rfl, Or.inr rfl, trivial⟩ ?_
  exact e1

theorem bC_ev208 {G : Cx} {d : Nat} {m : Mm} {Q : Option Value → Mm → Prop} {c r : Nat} {i s e p n : Nat} (hF : Full G m) (hc : IsC G c) (hr : IsR G r) (hi : i < 500) (hie : i < e) (he : e ≤ 500) (ho : ai m (r + 1) i = (208 : Int32)) (hp : ai m (r + 2) i = nI p) (hs : s < 64) (hb : p < 1000000)
    (e1 : WPM G (d + 3) (0, 0) μX8_valueOf [.int (208 : Int32), .int (nI p), .ref c] m (fun r' m' => WP G (d + 4) (0, 0) μX8_evaluate 231 [.ref r, lvU, .int (nI e), .ref c, .int (nI s), .int (0 : Int32), .int (nI i), lvU, lvU] (r'.toList ++ [.int (nI s), .ref (r + 8)]) m' Q)) :
    WP G (d + 4) (0, 0) μX8_evaluate 16 [.ref r, lvU, .int (nI e), .ref c, .int (nI s), .int (0 : Int32), .int (nI i), lvU, lvU] [] m Q := by
  refine wp_iload dX8_evaluate_16 rfl ?_
  refine wp_iload_n dX8_evaluate_18 rfl ?_
  refine wp_icmp_ge 283 dX8_evaluate_19 (by decide) (fun q => absurd (nlt_ (a := i) (b := e) hie (by omega)) q) (fun _ => ?_)
  refine wp_aload_n dX8_evaluate_22 rfl ?_
  refine wp_getr (r + 1) dX8_evaluate_23 fX8_9 (kr0 hF hr) (hF.2 _ _) (rra 1 (isK_le (kr0 hF hr)) (fun _ => rfl)) ?_
  refine wp_iload dX8_evaluate_26 rfl ?_
  refine wp_ialdk (n := 500) i (208 : Int32) dX8_evaluate_28 (kr hF hr 1 (by decide)) (lr hr 1 (by decide) (by decide)) (vin (by omega) (by decide)) (nIc (by omega)) ho ?_
  refine wp_istore dX8_evaluate_29 (by decide) rfl ?_
  refine wp_iload dX8_evaluate_31 rfl ?_
  refine wp_if_eq 54 dX8_evaluate_33 (by decide) (fun _ => ?_) (fun q => absurd (by decide) q)
  refine wp_iload dX8_evaluate_54 rfl ?_
  refine wp_sipush (203 : Int32) dX8_evaluate_56 (by decide) ?_
  refine wp_icmp_eq 70 dX8_evaluate_59 (by decide) (fun q => absurd q (by decide)) (fun _ => ?_)
  refine wp_iload dX8_evaluate_62 rfl ?_
  refine wp_sipush (202 : Int32) dX8_evaluate_64 (by decide) ?_
  refine wp_icmp_ne 137 dX8_evaluate_67 (by decide) (fun _ => ?_) (fun q => absurd q (by decide))
  refine wp_iload dX8_evaluate_137 rfl ?_
  refine wp_sipush (204 : Int32) dX8_evaluate_139 (by decide) ?_
  refine wp_icmp_eq 153 dX8_evaluate_142 (by decide) (fun q => absurd q (by decide)) (fun _ => ?_)
  refine wp_iload dX8_evaluate_145 rfl ?_
  refine wp_sipush (220 : Int32) dX8_evaluate_147 (by decide) ?_
  refine wp_icmp_ne 194 dX8_evaluate_150 (by decide) (fun _ => ?_) (fun q => absurd q (by decide))
  refine wp_iload dX8_evaluate_194 rfl ?_
  refine wp_sipush (200 : Int32) dX8_evaluate_196 (by decide) ?_
  refine wp_icmp_lt 238 dX8_evaluate_199 (by decide) (fun q => absurd q (by decide)) (fun _ => ?_)
  refine wp_iload dX8_evaluate_202 rfl ?_
  refine wp_aload_n dX8_evaluate_204 rfl ?_
  refine wp_getr (r + 8) dX8_evaluate_205 fX8_33 (kr0 hF hr) (hF.2 _ _) (rra 8 (isK_le (kr0 hF hr)) (fun _ => rfl)) ?_
  refine wp_alenL (64 : Int32) dX8_evaluate_208 (kr hF hr 8 (by decide)) (congrArg Int32.ofNat (lr hr 8 (by decide) (by decide))) ?_
  refine wp_icmp_ge 277 dX8_evaluate_209 (by decide) (fun q => absurd (nlt_ (a := s) (b := 64) hs (by omega)) q) (fun _ => ?_)
  refine wp_aload_n dX8_evaluate_212 rfl ?_
  refine wp_getr (r + 8) dX8_evaluate_213 fX8_33 (kr0 hF hr) (hF.2 _ _) (rra 8 (isK_le (kr0 hF hr)) (fun _ => rfl)) ?_
  refine wp_iload dX8_evaluate_216 rfl ?_
  refine wp_iload dX8_evaluate_218 rfl ?_
  refine wp_aload_n dX8_evaluate_220 rfl ?_
  refine wp_getr (r + 2) dX8_evaluate_221 fX8_15 (kr0 hF hr) (hF.2 _ _) (rra 2 (isK_le (kr0 hF hr)) (fun _ => rfl)) ?_
  refine wp_iload dX8_evaluate_224 rfl ?_
  refine wp_ialdk (n := 500) i (nI p) dX8_evaluate_226 (kr hF hr 2 (by decide)) (lr hr 2 (by decide) (by decide)) (vin (by omega) (by decide)) (nIc (by omega)) hp ?_
  refine wp_aload_n dX8_evaluate_227 rfl ?_
  refine wp_forget [.ref r, lvU, .int (nI e), .ref c, .int (nI s), .int (0 : Int32), .int (nI i), lvU, lvU] ⟨Or.inl rfl, Or.inr rfl, Or.inl rfl, Or.inl rfl, Or.inl rfl, Or.inl rfl, Or.inl rfl, Or.inr rfl, Or.inr rfl, trivial⟩ ?_
  refine wp_callS (As := [.int (208 : Int32), .int (nI p), .ref c]) (S := [.int (nI s), .ref (r + 8)]) (b' := (0, 0)) (b := (0, 0)) dX8_evaluate_228 MX8_100 rfl rfl (Nat.le_of_ble_eq_true rfl) ?_
  exact e1

theorem bC_ev208r {G : Cx} {d : Nat} {m : Mm} {Q : Option Value → Mm → Prop} {c r i s e : Nat} {z : Int64} (hF : Full G m) (hc : IsC G c) (hr : IsR G r) (hi : i < 500) (hs : s < 64)
    (e1 : WP G (d + 4) (0, 0) μX8_evaluate 16 [.ref r, lvU, .int (nI e), .ref c, .int (nI (s + 1)), .int (0 : Int32), .int (nI (i + 1)), lvU, lvU] [] (wal m (r + 8) s z) Q) :
    WP G (d + 4) (0, 0) μX8_evaluate 231 [.ref r, lvU, .int (nI e), .ref c, .int (nI s), .int (0 : Int32), .int (nI i), lvU, lvU] [.long z, .int (nI s), .ref (r + 8)] m Q := by
  refine wp_lastk (n := 64) s dX8_evaluate_231 (kr hF hr 8 (by decide)) (lr hr 8 (by decide) (by decide)) (vin (by omega) (by decide))  (nIc (by omega)) ?_
  have hF1 := Full_wal (r + 8) s z hF
  refine wp_iinc (nI (s + 1)) dX8_evaluate_232 rfl (by decide) (nadd (a := s) (b := 1) (by omega)) rfl ?_
  refine wp_goto 277 dX8_evaluate_235 (by decide) ?_
  refine wp_iinc (nI (i + 1)) dX8_evaluate_277 rfl (by decide) (nadd (a := i) (b := 1) (by omega)) rfl ?_
  refine wp_goto 16 dX8_evaluate_280 (by decide) ?_
  refine wp_forget [.ref r, lvU, .int (nI e), .ref c, .int (nI (s + 1)), .int (0 : Int32), .int (nI (i + 1)), lvU, lvU] ⟨Or.inl rfl, Or.inr rfl, Or.inl rfl, Or.inl rfl, Or.inl rfl, Or.inl rfl, Or.inl rfl, Or.inr rfl, Or.inr rfl, trivial⟩ ?_
  exact e1

theorem bC_ev209 {G : Cx} {d : Nat} {m : Mm} {Q : Option Value → Mm → Prop} {c r : Nat} {i s e p n : Nat} (hF : Full G m) (hc : IsC G c) (hr : IsR G r) (hi : i < 500) (hie : i < e) (he : e ≤ 500) (ho : ai m (r + 1) i = (209 : Int32)) (hp : ai m (r + 2) i = nI p) (hs : s < 64) (hb : p < 1000000)
    (e1 : WPM G (d + 3) (0, 0) μX8_valueOf [.int (209 : Int32), .int (nI p), .ref c] m (fun r' m' => WP G (d + 4) (0, 0) μX8_evaluate 231 [.ref r, lvU, .int (nI e), .ref c, .int (nI s), .int (0 : Int32), .int (nI i), lvU, lvU] (r'.toList ++ [.int (nI s), .ref (r + 8)]) m' Q)) :
    WP G (d + 4) (0, 0) μX8_evaluate 16 [.ref r, lvU, .int (nI e), .ref c, .int (nI s), .int (0 : Int32), .int (nI i), lvU, lvU] [] m Q := by
  refine wp_iload dX8_evaluate_16 rfl ?_
  refine wp_iload_n dX8_evaluate_18 rfl ?_
  refine wp_icmp_ge 283 dX8_evaluate_19 (by decide) (fun q => absurd (nlt_ (a := i) (b := e) hie (by omega)) q) (fun _ => ?_)
  refine wp_aload_n dX8_evaluate_22 rfl ?_
  refine wp_getr (r + 1) dX8_evaluate_23 fX8_9 (kr0 hF hr) (hF.2 _ _) (rra 1 (isK_le (kr0 hF hr)) (fun _ => rfl)) ?_
  refine wp_iload dX8_evaluate_26 rfl ?_
  refine wp_ialdk (n := 500) i (209 : Int32) dX8_evaluate_28 (kr hF hr 1 (by decide)) (lr hr 1 (by decide) (by decide)) (vin (by omega) (by decide)) (nIc (by omega)) ho ?_
  refine wp_istore dX8_evaluate_29 (by decide) rfl ?_
  refine wp_iload dX8_evaluate_31 rfl ?_
  refine wp_if_eq 54 dX8_evaluate_33 (by decide) (fun _ => ?_) (fun q => absurd (by decide) q)
  refine wp_iload dX8_evaluate_54 rfl ?_
  refine wp_sipush (203 : Int32) dX8_evaluate_56 (by decide) ?_
  refine wp_icmp_eq 70 dX8_evaluate_59 (by decide) (fun q => absurd q (by decide)) (fun _ => ?_)
  refine wp_iload dX8_evaluate_62 rfl ?_
  refine wp_sipush (202 : Int32) dX8_evaluate_64 (by decide) ?_
  refine wp_icmp_ne 137 dX8_evaluate_67 (by decide) (fun _ => ?_) (fun q => absurd q (by decide))
  refine wp_iload dX8_evaluate_137 rfl ?_
  refine wp_sipush (204 : Int32) dX8_evaluate_139 (by decide) ?_
  refine wp_icmp_eq 153 dX8_evaluate_142 (by decide) (fun q => absurd q (by decide)) (fun _ => ?_)
  refine wp_iload dX8_evaluate_145 rfl ?_
  refine wp_sipush (220 : Int32) dX8_evaluate_147 (by decide) ?_
  refine wp_icmp_ne 194 dX8_evaluate_150 (by decide) (fun _ => ?_) (fun q => absurd q (by decide))
  refine wp_iload dX8_evaluate_194 rfl ?_
  refine wp_sipush (200 : Int32) dX8_evaluate_196 (by decide) ?_
  refine wp_icmp_lt 238 dX8_evaluate_199 (by decide) (fun q => absurd q (by decide)) (fun _ => ?_)
  refine wp_iload dX8_evaluate_202 rfl ?_
  refine wp_aload_n dX8_evaluate_204 rfl ?_
  refine wp_getr (r + 8) dX8_evaluate_205 fX8_33 (kr0 hF hr) (hF.2 _ _) (rra 8 (isK_le (kr0 hF hr)) (fun _ => rfl)) ?_
  refine wp_alenL (64 : Int32) dX8_evaluate_208 (kr hF hr 8 (by decide)) (congrArg Int32.ofNat (lr hr 8 (by decide) (by decide))) ?_
  refine wp_icmp_ge 277 dX8_evaluate_209 (by decide) (fun q => absurd (nlt_ (a := s) (b := 64) hs (by omega)) q) (fun _ => ?_)
  refine wp_aload_n dX8_evaluate_212 rfl ?_
  refine wp_getr (r + 8) dX8_evaluate_213 fX8_33 (kr0 hF hr) (hF.2 _ _) (rra 8 (isK_le (kr0 hF hr)) (fun _ => rfl)) ?_
  refine wp_iload dX8_evaluate_216 rfl ?_
  refine wp_iload dX8_evaluate_218 rfl ?_
  refine wp_aload_n dX8_evaluate_220 rfl ?_
  refine wp_getr (r + 2) dX8_evaluate_221 fX8_15 (kr0 hF hr) (hF.2 _ _) (rra 2 (isK_le (kr0 hF hr)) (fun _ => rfl)) ?_
  refine wp_iload dX8_evaluate_224 rfl ?_
  refine wp_ialdk (n := 500) i (nI p) dX8_evaluate_226 (kr hF hr 2 (by decide)) (lr hr 2 (by decide) (by decide)) (vin (by omega) (by decide)) (nIc (by omega)) hp ?_
  refine wp_aload_n dX8_evaluate_227 rfl ?_
  refine wp_forget [.ref r, lvU, .int (nI e), .ref c, .int (nI s), .int (0 : Int32), .int (nI i), lvU, lvU] ⟨Or.inl rfl, Or.inr rfl, Or.inl rfl, Or.inl rfl, Or.inl rfl, Or.inl rfl, Or.inl rfl, Or.inr rfl, Or.inr rfl, trivial⟩ ?_
  refine wp_callS (As := [.int (209 : Int32), .int (nI p), .ref c]) (S := [.int (nI s), .ref (r + 8)]) (b' := (0, 0)) (b := (0, 0)) dX8_evaluate_228 MX8_100 rfl rfl (Nat.le_of_ble_eq_true rfl) ?_
  exact e1

theorem bC_ev209r {G : Cx} {d : Nat} {m : Mm} {Q : Option Value → Mm → Prop} {c r i s e : Nat} {z : Int64} (hF : Full G m) (hc : IsC G c) (hr : IsR G r) (hi : i < 500) (hs : s < 64)
    (e1 : WP G (d + 4) (0, 0) μX8_evaluate 16 [.ref r, lvU, .int (nI e), .ref c, .int (nI (s + 1)), .int (0 : Int32), .int (nI (i + 1)), lvU, lvU] [] (wal m (r + 8) s z) Q) :
    WP G (d + 4) (0, 0) μX8_evaluate 231 [.ref r, lvU, .int (nI e), .ref c, .int (nI s), .int (0 : Int32), .int (nI i), lvU, lvU] [.long z, .int (nI s), .ref (r + 8)] m Q := by
  refine wp_lastk (n := 64) s dX8_evaluate_231 (kr hF hr 8 (by decide)) (lr hr 8 (by decide) (by decide)) (vin (by omega) (by decide))  (nIc (by omega)) ?_
  have hF1 := Full_wal (r + 8) s z hF
  refine wp_iinc (nI (s + 1)) dX8_evaluate_232 rfl (by decide) (nadd (a := s) (b := 1) (by omega)) rfl ?_
  refine wp_goto 277 dX8_evaluate_235 (by decide) ?_
  refine wp_iinc (nI (i + 1)) dX8_evaluate_277 rfl (by decide) (nadd (a := i) (b := 1) (by omega)) rfl ?_
  refine wp_goto 16 dX8_evaluate_280 (by decide) ?_
  refine wp_forget [.ref r, lvU, .int (nI e), .ref c, .int (nI (s + 1)), .int (0 : Int32), .int (nI (i + 1)), lvU, lvU] ⟨Or.inl rfl, Or.inr rfl, Or.inl rfl, Or.inl rfl, Or.inl rfl, Or.inl rfl, Or.inl rfl, Or.inr rfl, Or.inr rfl, trivial⟩ ?_
  exact e1

theorem bC_ev211 {G : Cx} {d : Nat} {m : Mm} {Q : Option Value → Mm → Prop} {c r : Nat} {i s e p n : Nat} (hF : Full G m) (hc : IsC G c) (hr : IsR G r) (hi : i < 500) (hie : i < e) (he : e ≤ 500) (ho : ai m (r + 1) i = (211 : Int32)) (hp : ai m (r + 2) i = nI p) (hs : s < 64) (hb : p < 1000000)
    (e1 : WPM G (d + 3) (0, 0) μX8_valueOf [.int (211 : Int32), .int (nI p), .ref c] m (fun r' m' => WP G (d + 4) (0, 0) μX8_evaluate 231 [.ref r, lvU, .int (nI e), .ref c, .int (nI s), .int (0 : Int32), .int (nI i), lvU, lvU] (r'.toList ++ [.int (nI s), .ref (r + 8)]) m' Q)) :
    WP G (d + 4) (0, 0) μX8_evaluate 16 [.ref r, lvU, .int (nI e), .ref c, .int (nI s), .int (0 : Int32), .int (nI i), lvU, lvU] [] m Q := by
  refine wp_iload dX8_evaluate_16 rfl ?_
  refine wp_iload_n dX8_evaluate_18 rfl ?_
  refine wp_icmp_ge 283 dX8_evaluate_19 (by decide) (fun q => absurd (nlt_ (a := i) (b := e) hie (by omega)) q) (fun _ => ?_)
  refine wp_aload_n dX8_evaluate_22 rfl ?_
  refine wp_getr (r + 1) dX8_evaluate_23 fX8_9 (kr0 hF hr) (hF.2 _ _) (rra 1 (isK_le (kr0 hF hr)) (fun _ => rfl)) ?_
  refine wp_iload dX8_evaluate_26 rfl ?_
  refine wp_ialdk (n := 500) i (211 : Int32) dX8_evaluate_28 (kr hF hr 1 (by decide)) (lr hr 1 (by decide) (by decide)) (vin (by omega) (by decide)) (nIc (by omega)) ho ?_
  refine wp_istore dX8_evaluate_29 (by decide) rfl ?_
  refine wp_iload dX8_evaluate_31 rfl ?_
  refine wp_if_eq 54 dX8_evaluate_33 (by decide) (fun _ => ?_) (fun q => absurd (by decide) q)
  refine wp_iload dX8_evaluate_54 rfl ?_
  refine wp_sipush (203 : Int32) dX8_evaluate_56 (by decide) ?_
  refine wp_icmp_eq 70 dX8_evaluate_59 (by decide) (fun q => absurd q (by decide)) (fun _ => ?_)
  refine wp_iload dX8_evaluate_62 rfl ?_
  refine wp_sipush (202 : Int32) dX8_evaluate_64 (by decide) ?_
  refine wp_icmp_ne 137 dX8_evaluate_67 (by decide) (fun _ => ?_) (fun q => absurd q (by decide))
  refine wp_iload dX8_evaluate_137 rfl ?_
  refine wp_sipush (204 : Int32) dX8_evaluate_139 (by decide) ?_
  refine wp_icmp_eq 153 dX8_evaluate_142 (by decide) (fun q => absurd q (by decide)) (fun _ => ?_)
  refine wp_iload dX8_evaluate_145 rfl ?_
  refine wp_sipush (220 : Int32) dX8_evaluate_147 (by decide) ?_
  refine wp_icmp_ne 194 dX8_evaluate_150 (by decide) (fun _ => ?_) (fun q => absurd q (by decide))
  refine wp_iload dX8_evaluate_194 rfl ?_
  refine wp_sipush (200 : Int32) dX8_evaluate_196 (by decide) ?_
  refine wp_icmp_lt 238 dX8_evaluate_199 (by decide) (fun q => absurd q (by decide)) (fun _ => ?_)
  refine wp_iload dX8_evaluate_202 rfl ?_
  refine wp_aload_n dX8_evaluate_204 rfl ?_
  refine wp_getr (r + 8) dX8_evaluate_205 fX8_33 (kr0 hF hr) (hF.2 _ _) (rra 8 (isK_le (kr0 hF hr)) (fun _ => rfl)) ?_
  refine wp_alenL (64 : Int32) dX8_evaluate_208 (kr hF hr 8 (by decide)) (congrArg Int32.ofNat (lr hr 8 (by decide) (by decide))) ?_
  refine wp_icmp_ge 277 dX8_evaluate_209 (by decide) (fun q => absurd (nlt_ (a := s) (b := 64) hs (by omega)) q) (fun _ => ?_)
  refine wp_aload_n dX8_evaluate_212 rfl ?_
  refine wp_getr (r + 8) dX8_evaluate_213 fX8_33 (kr0 hF hr) (hF.2 _ _) (rra 8 (isK_le (kr0 hF hr)) (fun _ => rfl)) ?_
  refine wp_iload dX8_evaluate_216 rfl ?_
  refine wp_iload dX8_evaluate_218 rfl ?_
  refine wp_aload_n dX8_evaluate_220 rfl ?_
  refine wp_getr (r + 2) dX8_evaluate_221 fX8_15 (kr0 hF hr) (hF.2 _ _) (rra 2 (isK_le (kr0 hF hr)) (fun _ => rfl)) ?_
  refine wp_iload dX8_evaluate_224 rfl ?_
  refine wp_ialdk (n := 500) i (nI p) dX8_evaluate_226 (kr hF hr 2 (by decide)) (lr hr 2 (by decide) (by decide)) (vin (by omega) (by decide)) (nIc (by omega)) hp ?_
  refine wp_aload_n dX8_evaluate_227 rfl ?_
  refine wp_forget [.ref r, lvU, .int (nI e), .ref c, .int (nI s), .int (0 : Int32), .int (nI i), lvU, lvU] ⟨Or.inl rfl, Or.inr rfl, Or.inl rfl, Or.inl rfl, Or.inl rfl, Or.inl rfl, Or.inl rfl, Or.inr rfl, Or.inr rfl, trivial⟩ ?_
  refine wp_callS (As := [.int (211 : Int32), .int (nI p), .ref c]) (S := [.int (nI s), .ref (r + 8)]) (b' := (0, 0)) (b := (0, 0)) dX8_evaluate_228 MX8_100 rfl rfl (Nat.le_of_ble_eq_true rfl) ?_
  exact e1

theorem bC_ev211r {G : Cx} {d : Nat} {m : Mm} {Q : Option Value → Mm → Prop} {c r i s e : Nat} {z : Int64} (hF : Full G m) (hc : IsC G c) (hr : IsR G r) (hi : i < 500) (hs : s < 64)
    (e1 : WP G (d + 4) (0, 0) μX8_evaluate 16 [.ref r, lvU, .int (nI e), .ref c, .int (nI (s + 1)), .int (0 : Int32), .int (nI (i + 1)), lvU, lvU] [] (wal m (r + 8) s z) Q) :
    WP G (d + 4) (0, 0) μX8_evaluate 231 [.ref r, lvU, .int (nI e), .ref c, .int (nI s), .int (0 : Int32), .int (nI i), lvU, lvU] [.long z, .int (nI s), .ref (r + 8)] m Q := by
  refine wp_lastk (n := 64) s dX8_evaluate_231 (kr hF hr 8 (by decide)) (lr hr 8 (by decide) (by decide)) (vin (by omega) (by decide))  (nIc (by omega)) ?_
  have hF1 := Full_wal (r + 8) s z hF
  refine wp_iinc (nI (s + 1)) dX8_evaluate_232 rfl (by decide) (nadd (a := s) (b := 1) (by omega)) rfl ?_
  refine wp_goto 277 dX8_evaluate_235 (by decide) ?_
  refine wp_iinc (nI (i + 1)) dX8_evaluate_277 rfl (by decide) (nadd (a := i) (b := 1) (by omega)) rfl ?_
  refine wp_goto 16 dX8_evaluate_280 (by decide) ?_
  refine wp_forget [.ref r, lvU, .int (nI e), .ref c, .int (nI (s + 1)), .int (0 : Int32), .int (nI (i + 1)), lvU, lvU] ⟨Or.inl rfl, Or.inr rfl, Or.inl rfl, Or.inl rfl, Or.inl rfl, Or.inl rfl, Or.inl rfl, Or.inr rfl, Or.inr rfl, trivial⟩ ?_
  exact e1

theorem bC_ev204 {G : Cx} {d : Nat} {m : Mm} {Q : Option Value → Mm → Prop} {c r : Nat} {i s e p n : Nat} (hF : Full G m) (hc : IsC G c) (hr : IsR G r) (hi : i < 500) (hie : i < e) (he : e ≤ 500) (ho : ai m (r + 1) i = (204 : Int32)) (hs : s + 1 < 64)
    (e1 : WP G (d + 4) (0, 0) μX8_evaluate 16 [.ref r, lvU, .int (nI e), .ref c, .int (nI (s + 1)), .int (0 : Int32), .int (nI (i + 1)), lvU, lvU] [] (wal m (r + 8) s ((Int32.toInt64 (1 : Int32)) - (al m (r + 8) s))) Q) :
    WP G (d + 4) (0, 0) μX8_evaluate 16 [.ref r, lvU, .int (nI e), .ref c, .int (nI (s + 1)), .int (0 : Int32), .int (nI i), lvU, lvU] [] m Q := by
  refine wp_iload dX8_evaluate_16 rfl ?_
  refine wp_iload_n dX8_evaluate_18 rfl ?_
  refine wp_icmp_ge 283 dX8_evaluate_19 (by decide) (fun q => absurd (nlt_ (a := i) (b := e) hie (by omega)) q) (fun _ => ?_)
  refine wp_aload_n dX8_evaluate_22 rfl ?_
  refine wp_getr (r + 1) dX8_evaluate_23 fX8_9 (kr0 hF hr) (hF.2 _ _) (rra 1 (isK_le (kr0 hF hr)) (fun _ => rfl)) ?_
  refine wp_iload dX8_evaluate_26 rfl ?_
  refine wp_ialdk (n := 500) i (204 : Int32) dX8_evaluate_28 (kr hF hr 1 (by decide)) (lr hr 1 (by decide) (by decide)) (vin (by omega) (by decide)) (nIc (by omega)) ho ?_
  refine wp_istore dX8_evaluate_29 (by decide) rfl ?_
  refine wp_iload dX8_evaluate_31 rfl ?_
  refine wp_if_eq 54 dX8_evaluate_33 (by decide) (fun _ => ?_) (fun q => absurd (by decide) q)
  refine wp_iload dX8_evaluate_54 rfl ?_
  refine wp_sipush (203 : Int32) dX8_evaluate_56 (by decide) ?_
  refine wp_icmp_eq 70 dX8_evaluate_59 (by decide) (fun q => absurd q (by decide)) (fun _ => ?_)
  refine wp_iload dX8_evaluate_62 rfl ?_
  refine wp_sipush (202 : Int32) dX8_evaluate_64 (by decide) ?_
  refine wp_icmp_ne 137 dX8_evaluate_67 (by decide) (fun _ => ?_) (fun q => absurd q (by decide))
  refine wp_iload dX8_evaluate_137 rfl ?_
  refine wp_sipush (204 : Int32) dX8_evaluate_139 (by decide) ?_
  refine wp_icmp_eq 153 dX8_evaluate_142 (by decide) (fun _ => ?_) (fun q => absurd (by decide) q)
  refine wp_iload dX8_evaluate_153 rfl ?_
  refine wp_if_le 277 dX8_evaluate_155 (by decide) (fun q => absurd (nlt_ (a := 0) (b := s + 1) (by omega) (by omega)) q) (fun _ => ?_)
  refine wp_aload_n dX8_evaluate_158 rfl ?_
  refine wp_getr (r + 8) dX8_evaluate_159 fX8_33 (kr0 hF hr) (hF.2 _ _) (rra 8 (isK_le (kr0 hF hr)) (fun _ => rfl)) ?_
  refine wp_iload dX8_evaluate_162 rfl ?_
  refine wp_iconst (1 : Int32) dX8_evaluate_164 (by decide) ?_
  refine wp_isubv (nI s) dX8_evaluate_165 (nsub (a := s + 1) (b := 1) (by omega)) ?_
  refine wp_iload dX8_evaluate_166 rfl ?_
  refine wp_sipush (204 : Int32) dX8_evaluate_168 (by decide) ?_
  refine wp_icmp_ne 178 dX8_evaluate_171 (by decide) (fun q => absurd (by decide) q) (fun _ => ?_)
  refine wp_iconst (1 : Int32) dX8_evaluate_174 (by decide) ?_
  refine wp_goto 179 dX8_evaluate_175 (by decide) ?_
  refine wp_i2l dX8_evaluate_179 ?_
  refine wp_aload_n dX8_evaluate_180 rfl ?_
  refine wp_getr (r + 8) dX8_evaluate_181 fX8_33 (kr0 hF hr) (hF.2 _ _) (rra 8 (isK_le (kr0 hF hr)) (fun _ => rfl)) ?_
  refine wp_iload dX8_evaluate_184 rfl ?_
  refine wp_iconst (1 : Int32) dX8_evaluate_186 (by decide) ?_
  refine wp_isubv (nI s) dX8_evaluate_187 (nsub (a := s + 1) (b := 1) (by omega)) ?_
  refine wp_laldk (n := 64) s (al m (r + 8) s) dX8_evaluate_188 (kr hF hr 8 (by decide)) (lr hr 8 (by decide) (by decide)) (vin (by omega) (by decide)) (nIc (by omega)) rfl ?_
  refine wp_lsub dX8_evaluate_189 ?_
  refine wp_lastk (n := 64) s dX8_evaluate_190 (kr hF hr 8 (by decide)) (lr hr 8 (by decide) (by decide)) (vin (by omega) (by decide))  (nIc (by omega)) ?_
  have hF1 := Full_wal (r + 8) s ((Int32.toInt64 (1 : Int32)) - (al m (r + 8) s)) hF
  refine wp_goto 277 dX8_evaluate_191 (by decide) ?_
  refine wp_iinc (nI (i + 1)) dX8_evaluate_277 rfl (by decide) (nadd (a := i) (b := 1) (by omega)) rfl ?_
  refine wp_goto 16 dX8_evaluate_280 (by decide) ?_
  refine wp_forget [.ref r, lvU, .int (nI e), .ref c, .int (nI (s + 1)), .int (0 : Int32), .int (nI (i + 1)), lvU, lvU] ⟨Or.inl rfl, Or.inr rfl, Or.inl rfl, Or.inl rfl, Or.inl rfl, Or.inl rfl, Or.inl rfl, Or.inr rfl, Or.inr rfl, trivial⟩ ?_
  exact e1

theorem bC_ev220 {G : Cx} {d : Nat} {m : Mm} {Q : Option Value → Mm → Prop} {c r : Nat} {i s e p n : Nat} (hF : Full G m) (hc : IsC G c) (hr : IsR G r) (hi : i < 500) (hie : i < e) (he : e ≤ 500) (ho : ai m (r + 1) i = (220 : Int32)) (hs : s + 1 < 64)
    (e1 : WP G (d + 4) (0, 0) μX8_evaluate 16 [.ref r, lvU, .int (nI e), .ref c, .int (nI (s + 1)), .int (0 : Int32), .int (nI (i + 1)), lvU, lvU] [] (wal m (r + 8) s ((Int32.toInt64 (0 : Int32)) - (al m (r + 8) s))) Q) :
    WP G (d + 4) (0, 0) μX8_evaluate 16 [.ref r, lvU, .int (nI e), .ref c, .int (nI (s + 1)), .int (0 : Int32), .int (nI i), lvU, lvU] [] m Q := by
  refine wp_iload dX8_evaluate_16 rfl ?_
  refine wp_iload_n dX8_evaluate_18 rfl ?_
  refine wp_icmp_ge 283 dX8_evaluate_19 (by decide) (fun q => absurd (nlt_ (a := i) (b := e) hie (by omega)) q) (fun _ => ?_)
  refine wp_aload_n dX8_evaluate_22 rfl ?_
  refine wp_getr (r + 1) dX8_evaluate_23 fX8_9 (kr0 hF hr) (hF.2 _ _) (rra 1 (isK_le (kr0 hF hr)) (fun _ => rfl)) ?_
  refine wp_iload dX8_evaluate_26 rfl ?_
  refine wp_ialdk (n := 500) i (220 : Int32) dX8_evaluate_28 (kr hF hr 1 (by decide)) (lr hr 1 (by decide) (by decide)) (vin (by omega) (by decide)) (nIc (by omega)) ho ?_
  refine wp_istore dX8_evaluate_29 (by decide) rfl ?_
  refine wp_iload dX8_evaluate_31 rfl ?_
  refine wp_if_eq 54 dX8_evaluate_33 (by decide) (fun _ => ?_) (fun q => absurd (by decide) q)
  refine wp_iload dX8_evaluate_54 rfl ?_
  refine wp_sipush (203 : Int32) dX8_evaluate_56 (by decide) ?_
  refine wp_icmp_eq 70 dX8_evaluate_59 (by decide) (fun q => absurd q (by decide)) (fun _ => ?_)
  refine wp_iload dX8_evaluate_62 rfl ?_
  refine wp_sipush (202 : Int32) dX8_evaluate_64 (by decide) ?_
  refine wp_icmp_ne 137 dX8_evaluate_67 (by decide) (fun _ => ?_) (fun q => absurd q (by decide))
  refine wp_iload dX8_evaluate_137 rfl ?_
  refine wp_sipush (204 : Int32) dX8_evaluate_139 (by decide) ?_
  refine wp_icmp_eq 153 dX8_evaluate_142 (by decide) (fun q => absurd q (by decide)) (fun _ => ?_)
  refine wp_iload dX8_evaluate_145 rfl ?_
  refine wp_sipush (220 : Int32) dX8_evaluate_147 (by decide) ?_
  refine wp_icmp_ne 194 dX8_evaluate_150 (by decide) (fun q => absurd (by decide) q) (fun _ => ?_)
  refine wp_iload dX8_evaluate_153 rfl ?_
  refine wp_if_le 277 dX8_evaluate_155 (by decide) (fun q => absurd (nlt_ (a := 0) (b := s + 1) (by omega) (by omega)) q) (fun _ => ?_)
  refine wp_aload_n dX8_evaluate_158 rfl ?_
  refine wp_getr (r + 8) dX8_evaluate_159 fX8_33 (kr0 hF hr) (hF.2 _ _) (rra 8 (isK_le (kr0 hF hr)) (fun _ => rfl)) ?_
  refine wp_iload dX8_evaluate_162 rfl ?_
  refine wp_iconst (1 : Int32) dX8_evaluate_164 (by decide) ?_
  refine wp_isubv (nI s) dX8_evaluate_165 (nsub (a := s + 1) (b := 1) (by omega)) ?_
  refine wp_iload dX8_evaluate_166 rfl ?_
  refine wp_sipush (204 : Int32) dX8_evaluate_168 (by decide) ?_
  refine wp_icmp_ne 178 dX8_evaluate_171 (by decide) (fun _ => ?_) (fun q => absurd q (by decide))
  refine wp_iconst (0 : Int32) dX8_evaluate_178 (by decide) ?_
  refine wp_i2l dX8_evaluate_179 ?_
  refine wp_aload_n dX8_evaluate_180 rfl ?_
  refine wp_getr (r + 8) dX8_evaluate_181 fX8_33 (kr0 hF hr) (hF.2 _ _) (rra 8 (isK_le (kr0 hF hr)) (fun _ => rfl)) ?_
  refine wp_iload dX8_evaluate_184 rfl ?_
  refine wp_iconst (1 : Int32) dX8_evaluate_186 (by decide) ?_
  refine wp_isubv (nI s) dX8_evaluate_187 (nsub (a := s + 1) (b := 1) (by omega)) ?_
  refine wp_laldk (n := 64) s (al m (r + 8) s) dX8_evaluate_188 (kr hF hr 8 (by decide)) (lr hr 8 (by decide) (by decide)) (vin (by omega) (by decide)) (nIc (by omega)) rfl ?_
  refine wp_lsub dX8_evaluate_189 ?_
  refine wp_lastk (n := 64) s dX8_evaluate_190 (kr hF hr 8 (by decide)) (lr hr 8 (by decide) (by decide)) (vin (by omega) (by decide))  (nIc (by omega)) ?_
  have hF1 := Full_wal (r + 8) s ((Int32.toInt64 (0 : Int32)) - (al m (r + 8) s)) hF
  refine wp_goto 277 dX8_evaluate_191 (by decide) ?_
  refine wp_iinc (nI (i + 1)) dX8_evaluate_277 rfl (by decide) (nadd (a := i) (b := 1) (by omega)) rfl ?_
  refine wp_goto 16 dX8_evaluate_280 (by decide) ?_
  refine wp_forget [.ref r, lvU, .int (nI e), .ref c, .int (nI (s + 1)), .int (0 : Int32), .int (nI (i + 1)), lvU, lvU] ⟨Or.inl rfl, Or.inr rfl, Or.inl rfl, Or.inl rfl, Or.inl rfl, Or.inl rfl, Or.inl rfl, Or.inr rfl, Or.inr rfl, trivial⟩ ?_
  exact e1

theorem bC_ev43 {G : Cx} {d : Nat} {m : Mm} {Q : Option Value → Mm → Prop} {c r : Nat} {i s e p n : Nat} (hF : Full G m) (hc : IsC G c) (hr : IsR G r) (hi : i < 500) (hie : i < e) (he : e ≤ 500) (ho : ai m (r + 1) i = (43 : Int32)) (hs : s + 2 < 64)
    (e1 : WP G (d + 4) (0, 0) μX8_evaluate 16 [.ref r, lvU, .int (nI e), .ref c, .int (nI (s + 1)), .int (0 : Int32), .int (nI (i + 1)), lvU, lvU] [] (wal m (r + 8) s (limF ((al m (r + 8) s) + (al m (r + 8) (s + 1))) (-1000000000000 : Int64) (1000000000000 : Int64))) Q) :
    WP G (d + 4) (0, 0) μX8_evaluate 16 [.ref r, lvU, .int (nI e), .ref c, .int (nI (s + 2)), .int (0 : Int32), .int (nI i), lvU, lvU] [] m Q := by
  refine wp_iload dX8_evaluate_16 rfl ?_
  refine wp_iload_n dX8_evaluate_18 rfl ?_
  refine wp_icmp_ge 283 dX8_evaluate_19 (by decide) (fun q => absurd (nlt_ (a := i) (b := e) hie (by omega)) q) (fun _ => ?_)
  refine wp_aload_n dX8_evaluate_22 rfl ?_
  refine wp_getr (r + 1) dX8_evaluate_23 fX8_9 (kr0 hF hr) (hF.2 _ _) (rra 1 (isK_le (kr0 hF hr)) (fun _ => rfl)) ?_
  refine wp_iload dX8_evaluate_26 rfl ?_
  refine wp_ialdk (n := 500) i (43 : Int32) dX8_evaluate_28 (kr hF hr 1 (by decide)) (lr hr 1 (by decide) (by decide)) (vin (by omega) (by decide)) (nIc (by omega)) ho ?_
  refine wp_istore dX8_evaluate_29 (by decide) rfl ?_
  refine wp_iload dX8_evaluate_31 rfl ?_
  refine wp_if_eq 54 dX8_evaluate_33 (by decide) (fun _ => ?_) (fun q => absurd (by decide) q)
  refine wp_iload dX8_evaluate_54 rfl ?_
  refine wp_sipush (203 : Int32) dX8_evaluate_56 (by decide) ?_
  refine wp_icmp_eq 70 dX8_evaluate_59 (by decide) (fun q => absurd q (by decide)) (fun _ => ?_)
  refine wp_iload dX8_evaluate_62 rfl ?_
  refine wp_sipush (202 : Int32) dX8_evaluate_64 (by decide) ?_
  refine wp_icmp_ne 137 dX8_evaluate_67 (by decide) (fun _ => ?_) (fun q => absurd q (by decide))
  refine wp_iload dX8_evaluate_137 rfl ?_
  refine wp_sipush (204 : Int32) dX8_evaluate_139 (by decide) ?_
  refine wp_icmp_eq 153 dX8_evaluate_142 (by decide) (fun q => absurd q (by decide)) (fun _ => ?_)
  refine wp_iload dX8_evaluate_145 rfl ?_
  refine wp_sipush (220 : Int32) dX8_evaluate_147 (by decide) ?_
  refine wp_icmp_ne 194 dX8_evaluate_150 (by decide) (fun _ => ?_) (fun q => absurd q (by decide))
  refine wp_iload dX8_evaluate_194 rfl ?_
  refine wp_sipush (200 : Int32) dX8_evaluate_196 (by decide) ?_
  refine wp_icmp_lt 238 dX8_evaluate_199 (by decide) (fun _ => ?_) (fun q => absurd (by decide) q)
  refine wp_iload dX8_evaluate_238 rfl ?_
  refine wp_iconst (1 : Int32) dX8_evaluate_240 (by decide) ?_
  refine wp_icmp_le 277 dX8_evaluate_241 (by decide) (fun q => absurd (nlt_ (a := 1) (b := s + 2) (by omega) (by omega)) q) (fun _ => ?_)
  refine wp_iinc (nI (s + 1)) dX8_evaluate_244 rfl (by decide) (ndec (by omega)) rfl ?_
  refine wp_aload_n dX8_evaluate_247 rfl ?_
  refine wp_getr (r + 8) dX8_evaluate_248 fX8_33 (kr0 hF hr) (hF.2 _ _) (rra 8 (isK_le (kr0 hF hr)) (fun _ => rfl)) ?_
  refine wp_iload dX8_evaluate_251 rfl ?_
  refine wp_iconst (1 : Int32) dX8_evaluate_253 (by decide) ?_
  refine wp_isubv (nI s) dX8_evaluate_254 (nsub (a := s + 1) (b := 1) (by omega)) ?_
  refine wp_iload dX8_evaluate_255 rfl ?_
  refine wp_aload_n dX8_evaluate_257 rfl ?_
  refine wp_getr (r + 8) dX8_evaluate_258 fX8_33 (kr0 hF hr) (hF.2 _ _) (rra 8 (isK_le (kr0 hF hr)) (fun _ => rfl)) ?_
  refine wp_iload dX8_evaluate_261 rfl ?_
  refine wp_iconst (1 : Int32) dX8_evaluate_263 (by decide) ?_
  refine wp_isubv (nI s) dX8_evaluate_264 (nsub (a := s + 1) (b := 1) (by omega)) ?_
  refine wp_laldk (n := 64) s (al m (r + 8) s) dX8_evaluate_265 (kr hF hr 8 (by decide)) (lr hr 8 (by decide) (by decide)) (vin (by omega) (by decide)) (nIc (by omega)) rfl ?_
  refine wp_aload_n dX8_evaluate_266 rfl ?_
  refine wp_getr (r + 8) dX8_evaluate_267 fX8_33 (kr0 hF hr) (hF.2 _ _) (rra 8 (isK_le (kr0 hF hr)) (fun _ => rfl)) ?_
  refine wp_iload dX8_evaluate_270 rfl ?_
  refine wp_laldk (n := 64) (s + 1) (al m (r + 8) (s + 1)) dX8_evaluate_272 (kr hF hr 8 (by decide)) (lr hr 8 (by decide) (by decide)) (vin (by omega) (by decide)) (nIc (by omega)) rfl ?_
  refine wp_callS (As := [.int (43 : Int32), .long (al m (r + 8) s), .long (al m (r + 8) (s + 1))]) (S := [.int (nI s), .ref (r + 8)]) (b' := (0, 0)) (b := (0, 0)) dX8_evaluate_273 MX8_103 rfl rfl (Nat.le_of_ble_eq_true rfl) ?_
  refine WPM.of pX8 (Nat.le_of_ble_eq_true rfl) rfl ?_
  refine wp_iload_n dX8_operate_0 rfl ?_
  refine wp_tableIn (off := 135) 136 dX8_operate_1 (by decide) (by decide) rfl (by decide) ?_
  refine wp_lload_n dX8_operate_136 rfl ?_
  refine wp_lload_n dX8_operate_137 rfl ?_
  refine wp_ladd dX8_operate_138 ?_
  refine wp_ldc2 dX8_operate_139 kX8_137 ?_
  refine wp_ldc2 dX8_operate_142 kX8_139 ?_
  refine wp_limFN dX8_operate_145 MX8_66 (Nat.le_of_ble_eq_true rfl) ?_
  refine wp_lret dX8_operate_148 rfl ?_
  show WP G (d + 4) (0, 0) μX8_evaluate 276 [.ref r, lvU, .int (nI e), .ref c, .int (nI (s + 1)), .int (0 : Int32), .int (nI i), .int (43 : Int32), lvU] [.long (limF ((al m (r + 8) s) + (al m (r + 8) (s + 1))) (-1000000000000 : Int64) (1000000000000 : Int64)), .int (nI s), .ref (r + 8)] m _
  refine wp_lastk (n := 64) s dX8_evaluate_276 (kr hF hr 8 (by decide)) (lr hr 8 (by decide) (by decide)) (vin (by omega) (by decide))  (nIc (by omega)) ?_
  have hF1 := Full_wal (r + 8) s (limF ((al m (r + 8) s) + (al m (r + 8) (s + 1))) (-1000000000000 : Int64) (1000000000000 : Int64)) hF
  refine wp_iinc (nI (i + 1)) dX8_evaluate_277 rfl (by decide) (nadd (a := i) (b := 1) (by omega)) rfl ?_
  refine wp_goto 16 dX8_evaluate_280 (by decide) ?_
  refine wp_forget [.ref r, lvU, .int (nI e), .ref c, .int (nI (s + 1)), .int (0 : Int32), .int (nI (i + 1)), lvU, lvU] ⟨Or.inl rfl, Or.inr rfl, Or.inl rfl, Or.inl rfl, Or.inl rfl, Or.inl rfl, Or.inl rfl, Or.inr rfl, Or.inr rfl, trivial⟩ ?_
  exact e1

theorem bC_ev45 {G : Cx} {d : Nat} {m : Mm} {Q : Option Value → Mm → Prop} {c r : Nat} {i s e p n : Nat} (hF : Full G m) (hc : IsC G c) (hr : IsR G r) (hi : i < 500) (hie : i < e) (he : e ≤ 500) (ho : ai m (r + 1) i = (45 : Int32)) (hs : s + 2 < 64)
    (e1 : WP G (d + 4) (0, 0) μX8_evaluate 16 [.ref r, lvU, .int (nI e), .ref c, .int (nI (s + 1)), .int (0 : Int32), .int (nI (i + 1)), lvU, lvU] [] (wal m (r + 8) s (limF ((al m (r + 8) s) - (al m (r + 8) (s + 1))) (-1000000000000 : Int64) (1000000000000 : Int64))) Q) :
    WP G (d + 4) (0, 0) μX8_evaluate 16 [.ref r, lvU, .int (nI e), .ref c, .int (nI (s + 2)), .int (0 : Int32), .int (nI i), lvU, lvU] [] m Q := by
  refine wp_iload dX8_evaluate_16 rfl ?_
  refine wp_iload_n dX8_evaluate_18 rfl ?_
  refine wp_icmp_ge 283 dX8_evaluate_19 (by decide) (fun q => absurd (nlt_ (a := i) (b := e) hie (by omega)) q) (fun _ => ?_)
  refine wp_aload_n dX8_evaluate_22 rfl ?_
  refine wp_getr (r + 1) dX8_evaluate_23 fX8_9 (kr0 hF hr) (hF.2 _ _) (rra 1 (isK_le (kr0 hF hr)) (fun _ => rfl)) ?_
  refine wp_iload dX8_evaluate_26 rfl ?_
  refine wp_ialdk (n := 500) i (45 : Int32) dX8_evaluate_28 (kr hF hr 1 (by decide)) (lr hr 1 (by decide) (by decide)) (vin (by omega) (by decide)) (nIc (by omega)) ho ?_
  refine wp_istore dX8_evaluate_29 (by decide) rfl ?_
  refine wp_iload dX8_evaluate_31 rfl ?_
  refine wp_if_eq 54 dX8_evaluate_33 (by decide) (fun _ => ?_) (fun q => absurd (by decide) q)
  refine wp_iload dX8_evaluate_54 rfl ?_
  refine wp_sipush (203 : Int32) dX8_evaluate_56 (by decide) ?_
  refine wp_icmp_eq 70 dX8_evaluate_59 (by decide) (fun q => absurd q (by decide)) (fun _ => ?_)
  refine wp_iload dX8_evaluate_62 rfl ?_
  refine wp_sipush (202 : Int32) dX8_evaluate_64 (by decide) ?_
  refine wp_icmp_ne 137 dX8_evaluate_67 (by decide) (fun _ => ?_) (fun q => absurd q (by decide))
  refine wp_iload dX8_evaluate_137 rfl ?_
  refine wp_sipush (204 : Int32) dX8_evaluate_139 (by decide) ?_
  refine wp_icmp_eq 153 dX8_evaluate_142 (by decide) (fun q => absurd q (by decide)) (fun _ => ?_)
  refine wp_iload dX8_evaluate_145 rfl ?_
  refine wp_sipush (220 : Int32) dX8_evaluate_147 (by decide) ?_
  refine wp_icmp_ne 194 dX8_evaluate_150 (by decide) (fun _ => ?_) (fun q => absurd q (by decide))
  refine wp_iload dX8_evaluate_194 rfl ?_
  refine wp_sipush (200 : Int32) dX8_evaluate_196 (by decide) ?_
  refine wp_icmp_lt 238 dX8_evaluate_199 (by decide) (fun _ => ?_) (fun q => absurd (by decide) q)
  refine wp_iload dX8_evaluate_238 rfl ?_
  refine wp_iconst (1 : Int32) dX8_evaluate_240 (by decide) ?_
  refine wp_icmp_le 277 dX8_evaluate_241 (by decide) (fun q => absurd (nlt_ (a := 1) (b := s + 2) (by omega) (by omega)) q) (fun _ => ?_)
  refine wp_iinc (nI (s + 1)) dX8_evaluate_244 rfl (by decide) (ndec (by omega)) rfl ?_
  refine wp_aload_n dX8_evaluate_247 rfl ?_
  refine wp_getr (r + 8) dX8_evaluate_248 fX8_33 (kr0 hF hr) (hF.2 _ _) (rra 8 (isK_le (kr0 hF hr)) (fun _ => rfl)) ?_
  refine wp_iload dX8_evaluate_251 rfl ?_
  refine wp_iconst (1 : Int32) dX8_evaluate_253 (by decide) ?_
  refine wp_isubv (nI s) dX8_evaluate_254 (nsub (a := s + 1) (b := 1) (by omega)) ?_
  refine wp_iload dX8_evaluate_255 rfl ?_
  refine wp_aload_n dX8_evaluate_257 rfl ?_
  refine wp_getr (r + 8) dX8_evaluate_258 fX8_33 (kr0 hF hr) (hF.2 _ _) (rra 8 (isK_le (kr0 hF hr)) (fun _ => rfl)) ?_
  refine wp_iload dX8_evaluate_261 rfl ?_
  refine wp_iconst (1 : Int32) dX8_evaluate_263 (by decide) ?_
  refine wp_isubv (nI s) dX8_evaluate_264 (nsub (a := s + 1) (b := 1) (by omega)) ?_
  refine wp_laldk (n := 64) s (al m (r + 8) s) dX8_evaluate_265 (kr hF hr 8 (by decide)) (lr hr 8 (by decide) (by decide)) (vin (by omega) (by decide)) (nIc (by omega)) rfl ?_
  refine wp_aload_n dX8_evaluate_266 rfl ?_
  refine wp_getr (r + 8) dX8_evaluate_267 fX8_33 (kr0 hF hr) (hF.2 _ _) (rra 8 (isK_le (kr0 hF hr)) (fun _ => rfl)) ?_
  refine wp_iload dX8_evaluate_270 rfl ?_
  refine wp_laldk (n := 64) (s + 1) (al m (r + 8) (s + 1)) dX8_evaluate_272 (kr hF hr 8 (by decide)) (lr hr 8 (by decide) (by decide)) (vin (by omega) (by decide)) (nIc (by omega)) rfl ?_
  refine wp_callS (As := [.int (45 : Int32), .long (al m (r + 8) s), .long (al m (r + 8) (s + 1))]) (S := [.int (nI s), .ref (r + 8)]) (b' := (0, 0)) (b := (0, 0)) dX8_evaluate_273 MX8_103 rfl rfl (Nat.le_of_ble_eq_true rfl) ?_
  refine WPM.of pX8 (Nat.le_of_ble_eq_true rfl) rfl ?_
  refine wp_iload_n dX8_operate_0 rfl ?_
  refine wp_tableIn (off := 148) 149 dX8_operate_1 (by decide) (by decide) rfl (by decide) ?_
  refine wp_lload_n dX8_operate_149 rfl ?_
  refine wp_lload_n dX8_operate_150 rfl ?_
  refine wp_lsub dX8_operate_151 ?_
  refine wp_ldc2 dX8_operate_152 kX8_137 ?_
  refine wp_ldc2 dX8_operate_155 kX8_139 ?_
  refine wp_limFN dX8_operate_158 MX8_66 (Nat.le_of_ble_eq_true rfl) ?_
  refine wp_lret dX8_operate_161 rfl ?_
  show WP G (d + 4) (0, 0) μX8_evaluate 276 [.ref r, lvU, .int (nI e), .ref c, .int (nI (s + 1)), .int (0 : Int32), .int (nI i), .int (45 : Int32), lvU] [.long (limF ((al m (r + 8) s) - (al m (r + 8) (s + 1))) (-1000000000000 : Int64) (1000000000000 : Int64)), .int (nI s), .ref (r + 8)] m _
  refine wp_lastk (n := 64) s dX8_evaluate_276 (kr hF hr 8 (by decide)) (lr hr 8 (by decide) (by decide)) (vin (by omega) (by decide))  (nIc (by omega)) ?_
  have hF1 := Full_wal (r + 8) s (limF ((al m (r + 8) s) - (al m (r + 8) (s + 1))) (-1000000000000 : Int64) (1000000000000 : Int64)) hF
  refine wp_iinc (nI (i + 1)) dX8_evaluate_277 rfl (by decide) (nadd (a := i) (b := 1) (by omega)) rfl ?_
  refine wp_goto 16 dX8_evaluate_280 (by decide) ?_
  refine wp_forget [.ref r, lvU, .int (nI e), .ref c, .int (nI (s + 1)), .int (0 : Int32), .int (nI (i + 1)), lvU, lvU] ⟨Or.inl rfl, Or.inr rfl, Or.inl rfl, Or.inl rfl, Or.inl rfl, Or.inl rfl, Or.inl rfl, Or.inr rfl, Or.inr rfl, trivial⟩ ?_
  exact e1

theorem bC_ev42 {G : Cx} {d : Nat} {m : Mm} {Q : Option Value → Mm → Prop} {c r : Nat} {i s e p n : Nat} (hF : Full G m) (hc : IsC G c) (hr : IsR G r) (hi : i < 500) (hie : i < e) (he : e ≤ 500) (ho : ai m (r + 1) i = (42 : Int32)) (hs : s + 2 < 64)
    (g1 : ¬ (al m (r + 8) s) = (0 : Int64) → ¬ (labs (al m (r + 8) s)) = 0)
    (e1 : (al m (r + 8) s) = (0 : Int64) → WP G (d + 4) (0, 0) μX8_evaluate 16 [.ref r, lvU, .int (nI e), .ref c, .int (nI (s + 1)), .int (0 : Int32), .int (nI (i + 1)), lvU, lvU] [] (wal m (r + 8) s ((al m (r + 8) s) * (al m (r + 8) (s + 1)))) Q)
    (e2 : ¬ (al m (r + 8) s) = (0 : Int64) → ((1000000000000 : Int64) / (labs (al m (r + 8) s))) < (labs (al m (r + 8) (s + 1))) → ¬ (al m (r + 8) s) < (0 : Int64) → ¬ (al m (r + 8) (s + 1)) < (0 : Int64) → WP G (d + 4) (0, 0) μX8_evaluate 16 [.ref r, lvU, .int (nI e), .ref c, .int (nI (s + 1)), .int (0 : Int32), .int (nI (i + 1)), lvU, lvU] [] (wal m (r + 8) s (1000000000000 : Int64)) Q)
    (e3 : ¬ (al m (r + 8) s) = (0 : Int64) → ((1000000000000 : Int64) / (labs (al m (r + 8) s))) < (labs (al m (r + 8) (s + 1))) → ¬ (al m (r + 8) s) < (0 : Int64) → (al m (r + 8) (s + 1)) < (0 : Int64) → WP G (d + 4) (0, 0) μX8_evaluate 16 [.ref r, lvU, .int (nI e), .ref c, .int (nI (s + 1)), .int (0 : Int32), .int (nI (i + 1)), lvU, lvU] [] (wal m (r + 8) s (-1000000000000 : Int64)) Q)
    (e4 : ¬ (al m (r + 8) s) = (0 : Int64) → ((1000000000000 : Int64) / (labs (al m (r + 8) s))) < (labs (al m (r + 8) (s + 1))) → (al m (r + 8) s) < (0 : Int64) → ¬ (al m (r + 8) (s + 1)) < (0 : Int64) → WP G (d + 4) (0, 0) μX8_evaluate 16 [.ref r, lvU, .int (nI e), .ref c, .int (nI (s + 1)), .int (0 : Int32), .int (nI (i + 1)), lvU, lvU] [] (wal m (r + 8) s (-1000000000000 : Int64)) Q)
    (e5 : ¬ (al m (r + 8) s) = (0 : Int64) → ((1000000000000 : Int64) / (labs (al m (r + 8) s))) < (labs (al m (r + 8) (s + 1))) → (al m (r + 8) s) < (0 : Int64) → (al m (r + 8) (s + 1)) < (0 : Int64) → WP G (d + 4) (0, 0) μX8_evaluate 16 [.ref r, lvU, .int (nI e), .ref c, .int (nI (s + 1)), .int (0 : Int32), .int (nI (i + 1)), lvU, lvU] [] (wal m (r + 8) s (1000000000000 : Int64)) Q)
    (e6 : ¬ (al m (r + 8) s) = (0 : Int64) → ¬ ((1000000000000 : Int64) / (labs (al m (r + 8) s))) < (labs (al m (r + 8) (s + 1))) → WP G (d + 4) (0, 0) μX8_evaluate 16 [.ref r, lvU, .int (nI e), .ref c, .int (nI (s + 1)), .int (0 : Int32), .int (nI (i + 1)), lvU, lvU] [] (wal m (r + 8) s ((al m (r + 8) s) * (al m (r + 8) (s + 1)))) Q) :
    WP G (d + 4) (0, 0) μX8_evaluate 16 [.ref r, lvU, .int (nI e), .ref c, .int (nI (s + 2)), .int (0 : Int32), .int (nI i), lvU, lvU] [] m Q := by
  refine wp_iload dX8_evaluate_16 rfl ?_
  refine wp_iload_n dX8_evaluate_18 rfl ?_
  refine wp_icmp_ge 283 dX8_evaluate_19 (by decide) (fun q => absurd (nlt_ (a := i) (b := e) hie (by omega)) q) (fun _ => ?_)
  refine wp_aload_n dX8_evaluate_22 rfl ?_
  refine wp_getr (r + 1) dX8_evaluate_23 fX8_9 (kr0 hF hr) (hF.2 _ _) (rra 1 (isK_le (kr0 hF hr)) (fun _ => rfl)) ?_
  refine wp_iload dX8_evaluate_26 rfl ?_
  refine wp_ialdk (n := 500) i (42 : Int32) dX8_evaluate_28 (kr hF hr 1 (by decide)) (lr hr 1 (by decide) (by decide)) (vin (by omega) (by decide)) (nIc (by omega)) ho ?_
  refine wp_istore dX8_evaluate_29 (by decide) rfl ?_
  refine wp_iload dX8_evaluate_31 rfl ?_
  refine wp_if_eq 54 dX8_evaluate_33 (by decide) (fun _ => ?_) (fun q => absurd (by decide) q)
  refine wp_iload dX8_evaluate_54 rfl ?_
  refine wp_sipush (203 : Int32) dX8_evaluate_56 (by decide) ?_
  refine wp_icmp_eq 70 dX8_evaluate_59 (by decide) (fun q => absurd q (by decide)) (fun _ => ?_)
  refine wp_iload dX8_evaluate_62 rfl ?_
  refine wp_sipush (202 : Int32) dX8_evaluate_64 (by decide) ?_
  refine wp_icmp_ne 137 dX8_evaluate_67 (by decide) (fun _ => ?_) (fun q => absurd q (by decide))
  refine wp_iload dX8_evaluate_137 rfl ?_
  refine wp_sipush (204 : Int32) dX8_evaluate_139 (by decide) ?_
  refine wp_icmp_eq 153 dX8_evaluate_142 (by decide) (fun q => absurd q (by decide)) (fun _ => ?_)
  refine wp_iload dX8_evaluate_145 rfl ?_
  refine wp_sipush (220 : Int32) dX8_evaluate_147 (by decide) ?_
  refine wp_icmp_ne 194 dX8_evaluate_150 (by decide) (fun _ => ?_) (fun q => absurd q (by decide))
  refine wp_iload dX8_evaluate_194 rfl ?_
  refine wp_sipush (200 : Int32) dX8_evaluate_196 (by decide) ?_
  refine wp_icmp_lt 238 dX8_evaluate_199 (by decide) (fun _ => ?_) (fun q => absurd (by decide) q)
  refine wp_iload dX8_evaluate_238 rfl ?_
  refine wp_iconst (1 : Int32) dX8_evaluate_240 (by decide) ?_
  refine wp_icmp_le 277 dX8_evaluate_241 (by decide) (fun q => absurd (nlt_ (a := 1) (b := s + 2) (by omega) (by omega)) q) (fun _ => ?_)
  refine wp_iinc (nI (s + 1)) dX8_evaluate_244 rfl (by decide) (ndec (by omega)) rfl ?_
  refine wp_aload_n dX8_evaluate_247 rfl ?_
  refine wp_getr (r + 8) dX8_evaluate_248 fX8_33 (kr0 hF hr) (hF.2 _ _) (rra 8 (isK_le (kr0 hF hr)) (fun _ => rfl)) ?_
  refine wp_iload dX8_evaluate_251 rfl ?_
  refine wp_iconst (1 : Int32) dX8_evaluate_253 (by decide) ?_
  refine wp_isubv (nI s) dX8_evaluate_254 (nsub (a := s + 1) (b := 1) (by omega)) ?_
  refine wp_iload dX8_evaluate_255 rfl ?_
  refine wp_aload_n dX8_evaluate_257 rfl ?_
  refine wp_getr (r + 8) dX8_evaluate_258 fX8_33 (kr0 hF hr) (hF.2 _ _) (rra 8 (isK_le (kr0 hF hr)) (fun _ => rfl)) ?_
  refine wp_iload dX8_evaluate_261 rfl ?_
  refine wp_iconst (1 : Int32) dX8_evaluate_263 (by decide) ?_
  refine wp_isubv (nI s) dX8_evaluate_264 (nsub (a := s + 1) (b := 1) (by omega)) ?_
  refine wp_laldk (n := 64) s (al m (r + 8) s) dX8_evaluate_265 (kr hF hr 8 (by decide)) (lr hr 8 (by decide) (by decide)) (vin (by omega) (by decide)) (nIc (by omega)) rfl ?_
  refine wp_aload_n dX8_evaluate_266 rfl ?_
  refine wp_getr (r + 8) dX8_evaluate_267 fX8_33 (kr0 hF hr) (hF.2 _ _) (rra 8 (isK_le (kr0 hF hr)) (fun _ => rfl)) ?_
  refine wp_iload dX8_evaluate_270 rfl ?_
  refine wp_laldk (n := 64) (s + 1) (al m (r + 8) (s + 1)) dX8_evaluate_272 (kr hF hr 8 (by decide)) (lr hr 8 (by decide) (by decide)) (vin (by omega) (by decide)) (nIc (by omega)) rfl ?_
  refine wp_callS (As := [.int (42 : Int32), .long (al m (r + 8) s), .long (al m (r + 8) (s + 1))]) (S := [.int (nI s), .ref (r + 8)]) (b' := (0, 0)) (b := (0, 0)) dX8_evaluate_273 MX8_103 rfl rfl (Nat.le_of_ble_eq_true rfl) ?_
  refine WPM.of pX8 (Nat.le_of_ble_eq_true rfl) rfl ?_
  refine wp_iload_n dX8_operate_0 rfl ?_
  refine wp_tableIn (off := 161) 162 dX8_operate_1 (by decide) (by decide) rfl (by decide) ?_
  refine wp_lload_n dX8_operate_162 rfl ?_
  refine wp_lload_n dX8_operate_163 rfl ?_
  refine wp_callS (As := [.long (al m (r + 8) s), .long (al m (r + 8) (s + 1))]) (S := []) (b' := (0, 0)) (b := (0, 0)) dX8_operate_164 MX8_141 rfl rfl (Nat.le_of_ble_eq_true rfl) ?_
  refine WPM.of pX8 (Nat.le_of_ble_eq_true rfl) rfl ?_
  refine wp_lload_n dX8_product_0 rfl ?_
  refine wp_lconst (0 : Int64) dX8_product_1 (by decide) ?_
  refine wp_lc_eq 22 dX8_product_2 dX8_product_3 (by decide) (fun q1 => ?_) (fun q2 => ?_)
  · skip
    refine wp_lload_n dX8_product_22 rfl ?_
    refine wp_lload_n dX8_product_23 rfl ?_
    refine wp_lmul dX8_product_24 ?_
    refine wp_lret dX8_product_25 rfl ?_
    show WP G (d + 3) (0, 0) μX8_operate 167 [.int (42 : Int32), .long (al m (r + 8) s), lvU, .long (al m (r + 8) (s + 1)), lvU] [.long ((al m (r + 8) s) * (al m (r + 8) (s + 1)))] m _
    refine wp_lret dX8_operate_167 rfl ?_
    show WP G (d + 4) (0, 0) μX8_evaluate 276 [.ref r, lvU, .int (nI e), .ref c, .int (nI (s + 1)), .int (0 : Int32), .int (nI i), .int (42 : Int32), lvU] [.long ((al m (r + 8) s) * (al m (r + 8) (s + 1))), .int (nI s), .ref (r + 8)] m _
    refine wp_lastk (n := 64) s dX8_evaluate_276 (kr hF hr 8 (by decide)) (lr hr 8 (by decide) (by decide)) (vin (by omega) (by decide))  (nIc (by omega)) ?_
    have hF3 := Full_wal (r + 8) s ((al m (r + 8) s) * (al m (r + 8) (s + 1))) hF
    refine wp_iinc (nI (i + 1)) dX8_evaluate_277 rfl (by decide) (nadd (a := i) (b := 1) (by omega)) rfl ?_
    refine wp_goto 16 dX8_evaluate_280 (by decide) ?_
    refine wp_forget [.ref r, lvU, .int (nI e), .ref c, .int (nI (s + 1)), .int (0 : Int32), .int (nI (i + 1)), lvU, lvU] ⟨Or.inl rfl, Or.inr rfl, Or.inl rfl, Or.inl rfl, Or.inl rfl, Or.inl rfl, Or.inl rfl, Or.inr rfl, Or.inr rfl, trivial⟩ ?_
    exact e1 q1
  · skip
    refine wp_lload_n dX8_product_6 rfl ?_
    refine wp_absL dX8_product_7 AX8_148 (Nat.le_of_ble_eq_true rfl) ?_
    refine wp_ldc2 dX8_product_10 kX8_139 ?_
    refine wp_lload_n dX8_product_13 rfl ?_
    refine wp_absL dX8_product_14 AX8_148 (Nat.le_of_ble_eq_true rfl) ?_
    refine wp_ldiv dX8_product_17 (g1 q2) ?_
    refine wp_lc_gt 26 dX8_product_18 dX8_product_19 (by decide) (fun q4 => ?_) (fun q5 => ?_)
    · skip
      refine wp_lload_n dX8_product_26 rfl ?_
      refine wp_lconst (0 : Int64) dX8_product_27 (by decide) ?_
      refine wp_lc_ge 36 dX8_product_28 dX8_product_29 (by decide) (fun q6 => ?_) (fun q7 => ?_)
      · skip
        refine wp_iconst (0 : Int32) dX8_product_36 (by decide) ?_
        refine wp_lload_n dX8_product_37 rfl ?_
        refine wp_lconst (0 : Int64) dX8_product_38 (by decide) ?_
        refine wp_lc_ge 47 dX8_product_39 dX8_product_40 (by decide) (fun q8 => ?_) (fun q9 => ?_)
        · skip
          refine wp_iconst (0 : Int32) dX8_product_47 (by decide) ?_
          refine wp_icmp_ne 57 dX8_product_48 (by decide) (fun q => absurd (by decide) q) (fun _ => ?_)
          refine wp_ldc2 dX8_product_51 kX8_139 ?_
          refine wp_goto 60 dX8_product_54 (by decide) ?_
          refine wp_lret dX8_product_60 rfl ?_
          show WP G (d + 3) (0, 0) μX8_operate 167 [.int (42 : Int32), .long (al m (r + 8) s), lvU, .long (al m (r + 8) (s + 1)), lvU] [.long (1000000000000 : Int64)] m _
          refine wp_lret dX8_operate_167 rfl ?_
          show WP G (d + 4) (0, 0) μX8_evaluate 276 [.ref r, lvU, .int (nI e), .ref c, .int (nI (s + 1)), .int (0 : Int32), .int (nI i), .int (42 : Int32), lvU] [.long (1000000000000 : Int64), .int (nI s), .ref (r + 8)] m _
          refine wp_lastk (n := 64) s dX8_evaluate_276 (kr hF hr 8 (by decide)) (lr hr 8 (by decide) (by decide)) (vin (by omega) (by decide))  (nIc (by omega)) ?_
          have hF10 := Full_wal (r + 8) s (1000000000000 : Int64) hF
          refine wp_iinc (nI (i + 1)) dX8_evaluate_277 rfl (by decide) (nadd (a := i) (b := 1) (by omega)) rfl ?_
          refine wp_goto 16 dX8_evaluate_280 (by decide) ?_
          refine wp_forget [.ref r, lvU, .int (nI e), .ref c, .int (nI (s + 1)), .int (0 : Int32), .int (nI (i + 1)), lvU, lvU] ⟨Or.inl rfl, Or.inr rfl, Or.inl rfl, Or.inl rfl, Or.inl rfl, Or.inl rfl, Or.inl rfl, Or.inr rfl, Or.inr rfl, trivial⟩ ?_
          exact e2 q2 q4 q6 q8
        · skip
          refine wp_iconst (1 : Int32) dX8_product_43 (by decide) ?_
          refine wp_goto 48 dX8_product_44 (by decide) ?_
          refine wp_icmp_ne 57 dX8_product_48 (by decide) (fun _ => ?_) (fun q => absurd q (by decide))
          refine wp_ldc2 dX8_product_57 kX8_137 ?_
          refine wp_lret dX8_product_60 rfl ?_
          show WP G (d + 3) (0, 0) μX8_operate 167 [.int (42 : Int32), .long (al m (r + 8) s), lvU, .long (al m (r + 8) (s + 1)), lvU] [.long (-1000000000000 : Int64)] m _
          refine wp_lret dX8_operate_167 rfl ?_
          show WP G (d + 4) (0, 0) μX8_evaluate 276 [.ref r, lvU, .int (nI e), .ref c, .int (nI (s + 1)), .int (0 : Int32), .int (nI i), .int (42 : Int32), lvU] [.long (-1000000000000 : Int64), .int (nI s), .ref (r + 8)] m _
          refine wp_lastk (n := 64) s dX8_evaluate_276 (kr hF hr 8 (by decide)) (lr hr 8 (by decide) (by decide)) (vin (by omega) (by decide))  (nIc (by omega)) ?_
          have hF11 := Full_wal (r + 8) s (-1000000000000 : Int64) hF
          refine wp_iinc (nI (i + 1)) dX8_evaluate_277 rfl (by decide) (nadd (a := i) (b := 1) (by omega)) rfl ?_
          refine wp_goto 16 dX8_evaluate_280 (by decide) ?_
          refine wp_forget [.ref r, lvU, .int (nI e), .ref c, .int (nI (s + 1)), .int (0 : Int32), .int (nI (i + 1)), lvU, lvU] ⟨Or.inl rfl, Or.inr rfl, Or.inl rfl, Or.inl rfl, Or.inl rfl, Or.inl rfl, Or.inl rfl, Or.inr rfl, Or.inr rfl, trivial⟩ ?_
          exact e3 q2 q4 q6 q9
      · skip
        refine wp_iconst (1 : Int32) dX8_product_32 (by decide) ?_
        refine wp_goto 37 dX8_product_33 (by decide) ?_
        refine wp_lload_n dX8_product_37 rfl ?_
        refine wp_lconst (0 : Int64) dX8_product_38 (by decide) ?_
        refine wp_lc_ge 47 dX8_product_39 dX8_product_40 (by decide) (fun q12 => ?_) (fun q13 => ?_)
        · skip
          refine wp_iconst (0 : Int32) dX8_product_47 (by decide) ?_
          refine wp_icmp_ne 57 dX8_product_48 (by decide) (fun _ => ?_) (fun q => absurd q (by decide))
          refine wp_ldc2 dX8_product_57 kX8_137 ?_
          refine wp_lret dX8_product_60 rfl ?_
          show WP G (d + 3) (0, 0) μX8_operate 167 [.int (42 : Int32), .long (al m (r + 8) s), lvU, .long (al m (r + 8) (s + 1)), lvU] [.long (-1000000000000 : Int64)] m _
          refine wp_lret dX8_operate_167 rfl ?_
          show WP G (d + 4) (0, 0) μX8_evaluate 276 [.ref r, lvU, .int (nI e), .ref c, .int (nI (s + 1)), .int (0 : Int32), .int (nI i), .int (42 : Int32), lvU] [.long (-1000000000000 : Int64), .int (nI s), .ref (r + 8)] m _
          refine wp_lastk (n := 64) s dX8_evaluate_276 (kr hF hr 8 (by decide)) (lr hr 8 (by decide) (by decide)) (vin (by omega) (by decide))  (nIc (by omega)) ?_
          have hF14 := Full_wal (r + 8) s (-1000000000000 : Int64) hF
          refine wp_iinc (nI (i + 1)) dX8_evaluate_277 rfl (by decide) (nadd (a := i) (b := 1) (by omega)) rfl ?_
          refine wp_goto 16 dX8_evaluate_280 (by decide) ?_
          refine wp_forget [.ref r, lvU, .int (nI e), .ref c, .int (nI (s + 1)), .int (0 : Int32), .int (nI (i + 1)), lvU, lvU] ⟨Or.inl rfl, Or.inr rfl, Or.inl rfl, Or.inl rfl, Or.inl rfl, Or.inl rfl, Or.inl rfl, Or.inr rfl, Or.inr rfl, trivial⟩ ?_
          exact e4 q2 q4 q7 q12
        · skip
          refine wp_iconst (1 : Int32) dX8_product_43 (by decide) ?_
          refine wp_goto 48 dX8_product_44 (by decide) ?_
          refine wp_icmp_ne 57 dX8_product_48 (by decide) (fun q => absurd (by decide) q) (fun _ => ?_)
          refine wp_ldc2 dX8_product_51 kX8_139 ?_
          refine wp_goto 60 dX8_product_54 (by decide) ?_
          refine wp_lret dX8_product_60 rfl ?_
          show WP G (d + 3) (0, 0) μX8_operate 167 [.int (42 : Int32), .long (al m (r + 8) s), lvU, .long (al m (r + 8) (s + 1)), lvU] [.long (1000000000000 : Int64)] m _
          refine wp_lret dX8_operate_167 rfl ?_
          show WP G (d + 4) (0, 0) μX8_evaluate 276 [.ref r, lvU, .int (nI e), .ref c, .int (nI (s + 1)), .int (0 : Int32), .int (nI i), .int (42 : Int32), lvU] [.long (1000000000000 : Int64), .int (nI s), .ref (r + 8)] m _
          refine wp_lastk (n := 64) s dX8_evaluate_276 (kr hF hr 8 (by decide)) (lr hr 8 (by decide) (by decide)) (vin (by omega) (by decide))  (nIc (by omega)) ?_
          have hF15 := Full_wal (r + 8) s (1000000000000 : Int64) hF
          refine wp_iinc (nI (i + 1)) dX8_evaluate_277 rfl (by decide) (nadd (a := i) (b := 1) (by omega)) rfl ?_
          refine wp_goto 16 dX8_evaluate_280 (by decide) ?_
          refine wp_forget [.ref r, lvU, .int (nI e), .ref c, .int (nI (s + 1)), .int (0 : Int32), .int (nI (i + 1)), lvU, lvU] ⟨Or.inl rfl, Or.inr rfl, Or.inl rfl, Or.inl rfl, Or.inl rfl, Or.inl rfl, Or.inl rfl, Or.inr rfl, Or.inr rfl, trivial⟩ ?_
          exact e5 q2 q4 q7 q13
    · skip
      refine wp_lload_n dX8_product_22 rfl ?_
      refine wp_lload_n dX8_product_23 rfl ?_
      refine wp_lmul dX8_product_24 ?_
      refine wp_lret dX8_product_25 rfl ?_
      show WP G (d + 3) (0, 0) μX8_operate 167 [.int (42 : Int32), .long (al m (r + 8) s), lvU, .long (al m (r + 8) (s + 1)), lvU] [.long ((al m (r + 8) s) * (al m (r + 8) (s + 1)))] m _
      refine wp_lret dX8_operate_167 rfl ?_
      show WP G (d + 4) (0, 0) μX8_evaluate 276 [.ref r, lvU, .int (nI e), .ref c, .int (nI (s + 1)), .int (0 : Int32), .int (nI i), .int (42 : Int32), lvU] [.long ((al m (r + 8) s) * (al m (r + 8) (s + 1))), .int (nI s), .ref (r + 8)] m _
      refine wp_lastk (n := 64) s dX8_evaluate_276 (kr hF hr 8 (by decide)) (lr hr 8 (by decide) (by decide)) (vin (by omega) (by decide))  (nIc (by omega)) ?_
      have hF16 := Full_wal (r + 8) s ((al m (r + 8) s) * (al m (r + 8) (s + 1))) hF
      refine wp_iinc (nI (i + 1)) dX8_evaluate_277 rfl (by decide) (nadd (a := i) (b := 1) (by omega)) rfl ?_
      refine wp_goto 16 dX8_evaluate_280 (by decide) ?_
      refine wp_forget [.ref r, lvU, .int (nI e), .ref c, .int (nI (s + 1)), .int (0 : Int32), .int (nI (i + 1)), lvU, lvU] ⟨Or.inl rfl, Or.inr rfl, Or.inl rfl, Or.inl rfl, Or.inl rfl, Or.inl rfl, Or.inl rfl, Or.inr rfl, Or.inr rfl, trivial⟩ ?_
      exact e6 q2 q5

theorem bC_ev47 {G : Cx} {d : Nat} {m : Mm} {Q : Option Value → Mm → Prop} {c r : Nat} {i s e p n : Nat} (hF : Full G m) (hc : IsC G c) (hr : IsR G r) (hi : i < 500) (hie : i < e) (he : e ≤ 500) (ho : ai m (r + 1) i = (47 : Int32)) (hs : s + 2 < 64)
    (e1 : WP G (d + 4) (0, 0) μX8_evaluate 16 [.ref r, lvU, .int (nI e), .ref c, .int (nI (s + 1)), .int (0 : Int32), .int (nI (i + 1)), lvU, lvU] [] (wal m (r + 8) s (quoF (al m (r + 8) s) (al m (r + 8) (s + 1)))) Q) :
    WP G (d + 4) (0, 0) μX8_evaluate 16 [.ref r, lvU, .int (nI e), .ref c, .int (nI (s + 2)), .int (0 : Int32), .int (nI i), lvU, lvU] [] m Q := by
  refine wp_iload dX8_evaluate_16 rfl ?_
  refine wp_iload_n dX8_evaluate_18 rfl ?_
  refine wp_icmp_ge 283 dX8_evaluate_19 (by decide) (fun q => absurd (nlt_ (a := i) (b := e) hie (by omega)) q) (fun _ => ?_)
  refine wp_aload_n dX8_evaluate_22 rfl ?_
  refine wp_getr (r + 1) dX8_evaluate_23 fX8_9 (kr0 hF hr) (hF.2 _ _) (rra 1 (isK_le (kr0 hF hr)) (fun _ => rfl)) ?_
  refine wp_iload dX8_evaluate_26 rfl ?_
  refine wp_ialdk (n := 500) i (47 : Int32) dX8_evaluate_28 (kr hF hr 1 (by decide)) (lr hr 1 (by decide) (by decide)) (vin (by omega) (by decide)) (nIc (by omega)) ho ?_
  refine wp_istore dX8_evaluate_29 (by decide) rfl ?_
  refine wp_iload dX8_evaluate_31 rfl ?_
  refine wp_if_eq 54 dX8_evaluate_33 (by decide) (fun _ => ?_) (fun q => absurd (by decide) q)
  refine wp_iload dX8_evaluate_54 rfl ?_
  refine wp_sipush (203 : Int32) dX8_evaluate_56 (by decide) ?_
  refine wp_icmp_eq 70 dX8_evaluate_59 (by decide) (fun q => absurd q (by decide)) (fun _ => ?_)
  refine wp_iload dX8_evaluate_62 rfl ?_
  refine wp_sipush (202 : Int32) dX8_evaluate_64 (by decide) ?_
  refine wp_icmp_ne 137 dX8_evaluate_67 (by decide) (fun _ => ?_) (fun q => absurd q (by decide))
  refine wp_iload dX8_evaluate_137 rfl ?_
  refine wp_sipush (204 : Int32) dX8_evaluate_139 (by decide) ?_
  refine wp_icmp_eq 153 dX8_evaluate_142 (by decide) (fun q => absurd q (by decide)) (fun _ => ?_)
  refine wp_iload dX8_evaluate_145 rfl ?_
  refine wp_sipush (220 : Int32) dX8_evaluate_147 (by decide) ?_
  refine wp_icmp_ne 194 dX8_evaluate_150 (by decide) (fun _ => ?_) (fun q => absurd q (by decide))
  refine wp_iload dX8_evaluate_194 rfl ?_
  refine wp_sipush (200 : Int32) dX8_evaluate_196 (by decide) ?_
  refine wp_icmp_lt 238 dX8_evaluate_199 (by decide) (fun _ => ?_) (fun q => absurd (by decide) q)
  refine wp_iload dX8_evaluate_238 rfl ?_
  refine wp_iconst (1 : Int32) dX8_evaluate_240 (by decide) ?_
  refine wp_icmp_le 277 dX8_evaluate_241 (by decide) (fun q => absurd (nlt_ (a := 1) (b := s + 2) (by omega) (by omega)) q) (fun _ => ?_)
  refine wp_iinc (nI (s + 1)) dX8_evaluate_244 rfl (by decide) (ndec (by omega)) rfl ?_
  refine wp_aload_n dX8_evaluate_247 rfl ?_
  refine wp_getr (r + 8) dX8_evaluate_248 fX8_33 (kr0 hF hr) (hF.2 _ _) (rra 8 (isK_le (kr0 hF hr)) (fun _ => rfl)) ?_
  refine wp_iload dX8_evaluate_251 rfl ?_
  refine wp_iconst (1 : Int32) dX8_evaluate_253 (by decide) ?_
  refine wp_isubv (nI s) dX8_evaluate_254 (nsub (a := s + 1) (b := 1) (by omega)) ?_
  refine wp_iload dX8_evaluate_255 rfl ?_
  refine wp_aload_n dX8_evaluate_257 rfl ?_
  refine wp_getr (r + 8) dX8_evaluate_258 fX8_33 (kr0 hF hr) (hF.2 _ _) (rra 8 (isK_le (kr0 hF hr)) (fun _ => rfl)) ?_
  refine wp_iload dX8_evaluate_261 rfl ?_
  refine wp_iconst (1 : Int32) dX8_evaluate_263 (by decide) ?_
  refine wp_isubv (nI s) dX8_evaluate_264 (nsub (a := s + 1) (b := 1) (by omega)) ?_
  refine wp_laldk (n := 64) s (al m (r + 8) s) dX8_evaluate_265 (kr hF hr 8 (by decide)) (lr hr 8 (by decide) (by decide)) (vin (by omega) (by decide)) (nIc (by omega)) rfl ?_
  refine wp_aload_n dX8_evaluate_266 rfl ?_
  refine wp_getr (r + 8) dX8_evaluate_267 fX8_33 (kr0 hF hr) (hF.2 _ _) (rra 8 (isK_le (kr0 hF hr)) (fun _ => rfl)) ?_
  refine wp_iload dX8_evaluate_270 rfl ?_
  refine wp_laldk (n := 64) (s + 1) (al m (r + 8) (s + 1)) dX8_evaluate_272 (kr hF hr 8 (by decide)) (lr hr 8 (by decide) (by decide)) (vin (by omega) (by decide)) (nIc (by omega)) rfl ?_
  refine wp_callS (As := [.int (47 : Int32), .long (al m (r + 8) s), .long (al m (r + 8) (s + 1))]) (S := [.int (nI s), .ref (r + 8)]) (b' := (0, 0)) (b := (0, 0)) dX8_evaluate_273 MX8_103 rfl rfl (Nat.le_of_ble_eq_true rfl) ?_
  refine WPM.of pX8 (Nat.le_of_ble_eq_true rfl) rfl ?_
  refine wp_iload_n dX8_operate_0 rfl ?_
  refine wp_tableIn (off := 167) 168 dX8_operate_1 (by decide) (by decide) rfl (by decide) ?_
  refine wp_lload_n dX8_operate_168 rfl ?_
  refine wp_lload_n dX8_operate_169 rfl ?_
  refine wp_quoFN dX8_operate_170 MX8_145 (Nat.le_of_ble_eq_true rfl) ?_
  refine wp_lret dX8_operate_173 rfl ?_
  show WP G (d + 4) (0, 0) μX8_evaluate 276 [.ref r, lvU, .int (nI e), .ref c, .int (nI (s + 1)), .int (0 : Int32), .int (nI i), .int (47 : Int32), lvU] [.long (quoF (al m (r + 8) s) (al m (r + 8) (s + 1))), .int (nI s), .ref (r + 8)] m _
  refine wp_lastk (n := 64) s dX8_evaluate_276 (kr hF hr 8 (by decide)) (lr hr 8 (by decide) (by decide)) (vin (by omega) (by decide))  (nIc (by omega)) ?_
  have hF1 := Full_wal (r + 8) s (quoF (al m (r + 8) s) (al m (r + 8) (s + 1))) hF
  refine wp_iinc (nI (i + 1)) dX8_evaluate_277 rfl (by decide) (nadd (a := i) (b := 1) (by omega)) rfl ?_
  refine wp_goto 16 dX8_evaluate_280 (by decide) ?_
  refine wp_forget [.ref r, lvU, .int (nI e), .ref c, .int (nI (s + 1)), .int (0 : Int32), .int (nI (i + 1)), lvU, lvU] ⟨Or.inl rfl, Or.inr rfl, Or.inl rfl, Or.inl rfl, Or.inl rfl, Or.inl rfl, Or.inl rfl, Or.inr rfl, Or.inr rfl, trivial⟩ ?_
  exact e1

theorem bC_ev60 {G : Cx} {d : Nat} {m : Mm} {Q : Option Value → Mm → Prop} {c r : Nat} {i s e p n : Nat} (hF : Full G m) (hc : IsC G c) (hr : IsR G r) (hi : i < 500) (hie : i < e) (he : e ≤ 500) (ho : ai m (r + 1) i = (60 : Int32)) (hs : s + 2 < 64)
    (e1 : ¬ (al m (r + 8) s) < (al m (r + 8) (s + 1)) → WP G (d + 4) (0, 0) μX8_evaluate 16 [.ref r, lvU, .int (nI e), .ref c, .int (nI (s + 1)), .int (0 : Int32), .int (nI (i + 1)), lvU, lvU] [] (wal m (r + 8) s (0 : Int64)) Q)
    (e2 : (al m (r + 8) s) < (al m (r + 8) (s + 1)) → WP G (d + 4) (0, 0) μX8_evaluate 16 [.ref r, lvU, .int (nI e), .ref c, .int (nI (s + 1)), .int (0 : Int32), .int (nI (i + 1)), lvU, lvU] [] (wal m (r + 8) s (1 : Int64)) Q) :
    WP G (d + 4) (0, 0) μX8_evaluate 16 [.ref r, lvU, .int (nI e), .ref c, .int (nI (s + 2)), .int (0 : Int32), .int (nI i), lvU, lvU] [] m Q := by
  refine wp_iload dX8_evaluate_16 rfl ?_
  refine wp_iload_n dX8_evaluate_18 rfl ?_
  refine wp_icmp_ge 283 dX8_evaluate_19 (by decide) (fun q => absurd (nlt_ (a := i) (b := e) hie (by omega)) q) (fun _ => ?_)
  refine wp_aload_n dX8_evaluate_22 rfl ?_
  refine wp_getr (r + 1) dX8_evaluate_23 fX8_9 (kr0 hF hr) (hF.2 _ _) (rra 1 (isK_le (kr0 hF hr)) (fun _ => rfl)) ?_
  refine wp_iload dX8_evaluate_26 rfl ?_
  refine wp_ialdk (n := 500) i (60 : Int32) dX8_evaluate_28 (kr hF hr 1 (by decide)) (lr hr 1 (by decide) (by decide)) (vin (by omega) (by decide)) (nIc (by omega)) ho ?_
  refine wp_istore dX8_evaluate_29 (by decide) rfl ?_
  refine wp_iload dX8_evaluate_31 rfl ?_
  refine wp_if_eq 54 dX8_evaluate_33 (by decide) (fun _ => ?_) (fun q => absurd (by decide) q)
  refine wp_iload dX8_evaluate_54 rfl ?_
  refine wp_sipush (203 : Int32) dX8_evaluate_56 (by decide) ?_
  refine wp_icmp_eq 70 dX8_evaluate_59 (by decide) (fun q => absurd q (by decide)) (fun _ => ?_)
  refine wp_iload dX8_evaluate_62 rfl ?_
  refine wp_sipush (202 : Int32) dX8_evaluate_64 (by decide) ?_
  refine wp_icmp_ne 137 dX8_evaluate_67 (by decide) (fun _ => ?_) (fun q => absurd q (by decide))
  refine wp_iload dX8_evaluate_137 rfl ?_
  refine wp_sipush (204 : Int32) dX8_evaluate_139 (by decide) ?_
  refine wp_icmp_eq 153 dX8_evaluate_142 (by decide) (fun q => absurd q (by decide)) (fun _ => ?_)
  refine wp_iload dX8_evaluate_145 rfl ?_
  refine wp_sipush (220 : Int32) dX8_evaluate_147 (by decide) ?_
  refine wp_icmp_ne 194 dX8_evaluate_150 (by decide) (fun _ => ?_) (fun q => absurd q (by decide))
  refine wp_iload dX8_evaluate_194 rfl ?_
  refine wp_sipush (200 : Int32) dX8_evaluate_196 (by decide) ?_
  refine wp_icmp_lt 238 dX8_evaluate_199 (by decide) (fun _ => ?_) (fun q => absurd (by decide) q)
  refine wp_iload dX8_evaluate_238 rfl ?_
  refine wp_iconst (1 : Int32) dX8_evaluate_240 (by decide) ?_
  refine wp_icmp_le 277 dX8_evaluate_241 (by decide) (fun q => absurd (nlt_ (a := 1) (b := s + 2) (by omega) (by omega)) q) (fun _ => ?_)
  refine wp_iinc (nI (s + 1)) dX8_evaluate_244 rfl (by decide) (ndec (by omega)) rfl ?_
  refine wp_aload_n dX8_evaluate_247 rfl ?_
  refine wp_getr (r + 8) dX8_evaluate_248 fX8_33 (kr0 hF hr) (hF.2 _ _) (rra 8 (isK_le (kr0 hF hr)) (fun _ => rfl)) ?_
  refine wp_iload dX8_evaluate_251 rfl ?_
  refine wp_iconst (1 : Int32) dX8_evaluate_253 (by decide) ?_
  refine wp_isubv (nI s) dX8_evaluate_254 (nsub (a := s + 1) (b := 1) (by omega)) ?_
  refine wp_iload dX8_evaluate_255 rfl ?_
  refine wp_aload_n dX8_evaluate_257 rfl ?_
  refine wp_getr (r + 8) dX8_evaluate_258 fX8_33 (kr0 hF hr) (hF.2 _ _) (rra 8 (isK_le (kr0 hF hr)) (fun _ => rfl)) ?_
  refine wp_iload dX8_evaluate_261 rfl ?_
  refine wp_iconst (1 : Int32) dX8_evaluate_263 (by decide) ?_
  refine wp_isubv (nI s) dX8_evaluate_264 (nsub (a := s + 1) (b := 1) (by omega)) ?_
  refine wp_laldk (n := 64) s (al m (r + 8) s) dX8_evaluate_265 (kr hF hr 8 (by decide)) (lr hr 8 (by decide) (by decide)) (vin (by omega) (by decide)) (nIc (by omega)) rfl ?_
  refine wp_aload_n dX8_evaluate_266 rfl ?_
  refine wp_getr (r + 8) dX8_evaluate_267 fX8_33 (kr0 hF hr) (hF.2 _ _) (rra 8 (isK_le (kr0 hF hr)) (fun _ => rfl)) ?_
  refine wp_iload dX8_evaluate_270 rfl ?_
  refine wp_laldk (n := 64) (s + 1) (al m (r + 8) (s + 1)) dX8_evaluate_272 (kr hF hr 8 (by decide)) (lr hr 8 (by decide) (by decide)) (vin (by omega) (by decide)) (nIc (by omega)) rfl ?_
  refine wp_callS (As := [.int (60 : Int32), .long (al m (r + 8) s), .long (al m (r + 8) (s + 1))]) (S := [.int (nI s), .ref (r + 8)]) (b' := (0, 0)) (b := (0, 0)) dX8_evaluate_273 MX8_103 rfl rfl (Nat.le_of_ble_eq_true rfl) ?_
  refine WPM.of pX8 (Nat.le_of_ble_eq_true rfl) rfl ?_
  refine wp_iload_n dX8_operate_0 rfl ?_
  refine wp_tableIn (off := 99) 100 dX8_operate_1 (by decide) (by decide) rfl (by decide) ?_
  refine wp_lload_n dX8_operate_100 rfl ?_
  refine wp_lload_n dX8_operate_101 rfl ?_
  refine wp_lc_ge 110 dX8_operate_102 dX8_operate_103 (by decide) (fun q1 => ?_) (fun q2 => ?_)
  · skip
    refine wp_lconst (0 : Int64) dX8_operate_110 (by decide) ?_
    refine wp_lret dX8_operate_111 rfl ?_
    show WP G (d + 4) (0, 0) μX8_evaluate 276 [.ref r, lvU, .int (nI e), .ref c, .int (nI (s + 1)), .int (0 : Int32), .int (nI i), .int (60 : Int32), lvU] [.long (0 : Int64), .int (nI s), .ref (r + 8)] m _
    refine wp_lastk (n := 64) s dX8_evaluate_276 (kr hF hr 8 (by decide)) (lr hr 8 (by decide) (by decide)) (vin (by omega) (by decide))  (nIc (by omega)) ?_
    have hF3 := Full_wal (r + 8) s (0 : Int64) hF
    refine wp_iinc (nI (i + 1)) dX8_evaluate_277 rfl (by decide) (nadd (a := i) (b := 1) (by omega)) rfl ?_
    refine wp_goto 16 dX8_evaluate_280 (by decide) ?_
    refine wp_forget [.ref r, lvU, .int (nI e), .ref c, .int (nI (s + 1)), .int (0 : Int32), .int (nI (i + 1)), lvU, lvU] ⟨Or.inl rfl, Or.inr rfl, Or.inl rfl, Or.inl rfl, Or.inl rfl, Or.inl rfl, Or.inl rfl, Or.inr rfl, Or.inr rfl, trivial⟩ ?_
    exact e1 q1
  · skip
    refine wp_lconst (1 : Int64) dX8_operate_106 (by decide) ?_
    refine wp_goto 111 dX8_operate_107 (by decide) ?_
    refine wp_lret dX8_operate_111 rfl ?_
    show WP G (d + 4) (0, 0) μX8_evaluate 276 [.ref r, lvU, .int (nI e), .ref c, .int (nI (s + 1)), .int (0 : Int32), .int (nI i), .int (60 : Int32), lvU] [.long (1 : Int64), .int (nI s), .ref (r + 8)] m _
    refine wp_lastk (n := 64) s dX8_evaluate_276 (kr hF hr 8 (by decide)) (lr hr 8 (by decide) (by decide)) (vin (by omega) (by decide))  (nIc (by omega)) ?_
    have hF4 := Full_wal (r + 8) s (1 : Int64) hF
    refine wp_iinc (nI (i + 1)) dX8_evaluate_277 rfl (by decide) (nadd (a := i) (b := 1) (by omega)) rfl ?_
    refine wp_goto 16 dX8_evaluate_280 (by decide) ?_
    refine wp_forget [.ref r, lvU, .int (nI e), .ref c, .int (nI (s + 1)), .int (0 : Int32), .int (nI (i + 1)), lvU, lvU] ⟨Or.inl rfl, Or.inr rfl, Or.inl rfl, Or.inl rfl, Or.inl rfl, Or.inl rfl, Or.inl rfl, Or.inr rfl, Or.inr rfl, trivial⟩ ?_
    exact e2 q2

theorem bC_ev62 {G : Cx} {d : Nat} {m : Mm} {Q : Option Value → Mm → Prop} {c r : Nat} {i s e p n : Nat} (hF : Full G m) (hc : IsC G c) (hr : IsR G r) (hi : i < 500) (hie : i < e) (he : e ≤ 500) (ho : ai m (r + 1) i = (62 : Int32)) (hs : s + 2 < 64)
    (e1 : ¬ (al m (r + 8) (s + 1)) < (al m (r + 8) s) → WP G (d + 4) (0, 0) μX8_evaluate 16 [.ref r, lvU, .int (nI e), .ref c, .int (nI (s + 1)), .int (0 : Int32), .int (nI (i + 1)), lvU, lvU] [] (wal m (r + 8) s (0 : Int64)) Q)
    (e2 : (al m (r + 8) (s + 1)) < (al m (r + 8) s) → WP G (d + 4) (0, 0) μX8_evaluate 16 [.ref r, lvU, .int (nI e), .ref c, .int (nI (s + 1)), .int (0 : Int32), .int (nI (i + 1)), lvU, lvU] [] (wal m (r + 8) s (1 : Int64)) Q) :
    WP G (d + 4) (0, 0) μX8_evaluate 16 [.ref r, lvU, .int (nI e), .ref c, .int (nI (s + 2)), .int (0 : Int32), .int (nI i), lvU, lvU] [] m Q := by
  refine wp_iload dX8_evaluate_16 rfl ?_
  refine wp_iload_n dX8_evaluate_18 rfl ?_
  refine wp_icmp_ge 283 dX8_evaluate_19 (by decide) (fun q => absurd (nlt_ (a := i) (b := e) hie (by omega)) q) (fun _ => ?_)
  refine wp_aload_n dX8_evaluate_22 rfl ?_
  refine wp_getr (r + 1) dX8_evaluate_23 fX8_9 (kr0 hF hr) (hF.2 _ _) (rra 1 (isK_le (kr0 hF hr)) (fun _ => rfl)) ?_
  refine wp_iload dX8_evaluate_26 rfl ?_
  refine wp_ialdk (n := 500) i (62 : Int32) dX8_evaluate_28 (kr hF hr 1 (by decide)) (lr hr 1 (by decide) (by decide)) (vin (by omega) (by decide)) (nIc (by omega)) ho ?_
  refine wp_istore dX8_evaluate_29 (by decide) rfl ?_
  refine wp_iload dX8_evaluate_31 rfl ?_
  refine wp_if_eq 54 dX8_evaluate_33 (by decide) (fun _ => ?_) (fun q => absurd (by decide) q)
  refine wp_iload dX8_evaluate_54 rfl ?_
  refine wp_sipush (203 : Int32) dX8_evaluate_56 (by decide) ?_
  refine wp_icmp_eq 70 dX8_evaluate_59 (by decide) (fun q => absurd q (by decide)) (fun _ => ?_)
  refine wp_iload dX8_evaluate_62 rfl ?_
  refine wp_sipush (202 : Int32) dX8_evaluate_64 (by decide) ?_
  refine wp_icmp_ne 137 dX8_evaluate_67 (by decide) (fun _ => ?_) (fun q => absurd q (by decide))
  refine wp_iload dX8_evaluate_137 rfl ?_
  refine wp_sipush (204 : Int32) dX8_evaluate_139 (by decide) ?_
  refine wp_icmp_eq 153 dX8_evaluate_142 (by decide) (fun q => absurd q (by decide)) (fun _ => ?_)
  refine wp_iload dX8_evaluate_145 rfl ?_
  refine wp_sipush (220 : Int32) dX8_evaluate_147 (by decide) ?_
  refine wp_icmp_ne 194 dX8_evaluate_150 (by decide) (fun _ => ?_) (fun q => absurd q (by decide))
  refine wp_iload dX8_evaluate_194 rfl ?_
  refine wp_sipush (200 : Int32) dX8_evaluate_196 (by decide) ?_
  refine wp_icmp_lt 238 dX8_evaluate_199 (by decide) (fun _ => ?_) (fun q => absurd (by decide) q)
  refine wp_iload dX8_evaluate_238 rfl ?_
  refine wp_iconst (1 : Int32) dX8_evaluate_240 (by decide) ?_
  refine wp_icmp_le 277 dX8_evaluate_241 (by decide) (fun q => absurd (nlt_ (a := 1) (b := s + 2) (by omega) (by omega)) q) (fun _ => ?_)
  refine wp_iinc (nI (s + 1)) dX8_evaluate_244 rfl (by decide) (ndec (by omega)) rfl ?_
  refine wp_aload_n dX8_evaluate_247 rfl ?_
  refine wp_getr (r + 8) dX8_evaluate_248 fX8_33 (kr0 hF hr) (hF.2 _ _) (rra 8 (isK_le (kr0 hF hr)) (fun _ => rfl)) ?_
  refine wp_iload dX8_evaluate_251 rfl ?_
  refine wp_iconst (1 : Int32) dX8_evaluate_253 (by decide) ?_
  refine wp_isubv (nI s) dX8_evaluate_254 (nsub (a := s + 1) (b := 1) (by omega)) ?_
  refine wp_iload dX8_evaluate_255 rfl ?_
  refine wp_aload_n dX8_evaluate_257 rfl ?_
  refine wp_getr (r + 8) dX8_evaluate_258 fX8_33 (kr0 hF hr) (hF.2 _ _) (rra 8 (isK_le (kr0 hF hr)) (fun _ => rfl)) ?_
  refine wp_iload dX8_evaluate_261 rfl ?_
  refine wp_iconst (1 : Int32) dX8_evaluate_263 (by decide) ?_
  refine wp_isubv (nI s) dX8_evaluate_264 (nsub (a := s + 1) (b := 1) (by omega)) ?_
  refine wp_laldk (n := 64) s (al m (r + 8) s) dX8_evaluate_265 (kr hF hr 8 (by decide)) (lr hr 8 (by decide) (by decide)) (vin (by omega) (by decide)) (nIc (by omega)) rfl ?_
  refine wp_aload_n dX8_evaluate_266 rfl ?_
  refine wp_getr (r + 8) dX8_evaluate_267 fX8_33 (kr0 hF hr) (hF.2 _ _) (rra 8 (isK_le (kr0 hF hr)) (fun _ => rfl)) ?_
  refine wp_iload dX8_evaluate_270 rfl ?_
  refine wp_laldk (n := 64) (s + 1) (al m (r + 8) (s + 1)) dX8_evaluate_272 (kr hF hr 8 (by decide)) (lr hr 8 (by decide) (by decide)) (vin (by omega) (by decide)) (nIc (by omega)) rfl ?_
  refine wp_callS (As := [.int (62 : Int32), .long (al m (r + 8) s), .long (al m (r + 8) (s + 1))]) (S := [.int (nI s), .ref (r + 8)]) (b' := (0, 0)) (b := (0, 0)) dX8_evaluate_273 MX8_103 rfl rfl (Nat.le_of_ble_eq_true rfl) ?_
  refine WPM.of pX8 (Nat.le_of_ble_eq_true rfl) rfl ?_
  refine wp_iload_n dX8_operate_0 rfl ?_
  refine wp_tableIn (off := 111) 112 dX8_operate_1 (by decide) (by decide) rfl (by decide) ?_
  refine wp_lload_n dX8_operate_112 rfl ?_
  refine wp_lload_n dX8_operate_113 rfl ?_
  refine wp_lc_le 122 dX8_operate_114 dX8_operate_115 (by decide) (fun q1 => ?_) (fun q2 => ?_)
  · skip
    refine wp_lconst (0 : Int64) dX8_operate_122 (by decide) ?_
    refine wp_lret dX8_operate_123 rfl ?_
    show WP G (d + 4) (0, 0) μX8_evaluate 276 [.ref r, lvU, .int (nI e), .ref c, .int (nI (s + 1)), .int (0 : Int32), .int (nI i), .int (62 : Int32), lvU] [.long (0 : Int64), .int (nI s), .ref (r + 8)] m _
    refine wp_lastk (n := 64) s dX8_evaluate_276 (kr hF hr 8 (by decide)) (lr hr 8 (by decide) (by decide)) (vin (by omega) (by decide))  (nIc (by omega)) ?_
    have hF3 := Full_wal (r + 8) s (0 : Int64) hF
    refine wp_iinc (nI (i + 1)) dX8_evaluate_277 rfl (by decide) (nadd (a := i) (b := 1) (by omega)) rfl ?_
    refine wp_goto 16 dX8_evaluate_280 (by decide) ?_
    refine wp_forget [.ref r, lvU, .int (nI e), .ref c, .int (nI (s + 1)), .int (0 : Int32), .int (nI (i + 1)), lvU, lvU] ⟨Or.inl rfl, Or.inr rfl, Or.inl rfl, Or.inl rfl, Or.inl rfl, Or.inl rfl, Or.inl rfl, Or.inr rfl, Or.inr rfl, trivial⟩ ?_
    exact e1 q1
  · skip
    refine wp_lconst (1 : Int64) dX8_operate_118 (by decide) ?_
    refine wp_goto 123 dX8_operate_119 (by decide) ?_
    refine wp_lret dX8_operate_123 rfl ?_
    show WP G (d + 4) (0, 0) μX8_evaluate 276 [.ref r, lvU, .int (nI e), .ref c, .int (nI (s + 1)), .int (0 : Int32), .int (nI i), .int (62 : Int32), lvU] [.long (1 : Int64), .int (nI s), .ref (r + 8)] m _
    refine wp_lastk (n := 64) s dX8_evaluate_276 (kr hF hr 8 (by decide)) (lr hr 8 (by decide) (by decide)) (vin (by omega) (by decide))  (nIc (by omega)) ?_
    have hF4 := Full_wal (r + 8) s (1 : Int64) hF
    refine wp_iinc (nI (i + 1)) dX8_evaluate_277 rfl (by decide) (nadd (a := i) (b := 1) (by omega)) rfl ?_
    refine wp_goto 16 dX8_evaluate_280 (by decide) ?_
    refine wp_forget [.ref r, lvU, .int (nI e), .ref c, .int (nI (s + 1)), .int (0 : Int32), .int (nI (i + 1)), lvU, lvU] ⟨Or.inl rfl, Or.inr rfl, Or.inl rfl, Or.inl rfl, Or.inl rfl, Or.inl rfl, Or.inl rfl, Or.inr rfl, Or.inr rfl, trivial⟩ ?_
    exact e2 q2

theorem bC_ev61 {G : Cx} {d : Nat} {m : Mm} {Q : Option Value → Mm → Prop} {c r : Nat} {i s e p n : Nat} (hF : Full G m) (hc : IsC G c) (hr : IsR G r) (hi : i < 500) (hie : i < e) (he : e ≤ 500) (ho : ai m (r + 1) i = (61 : Int32)) (hs : s + 2 < 64)
    (e1 : ¬ (al m (r + 8) s) = (al m (r + 8) (s + 1)) → WP G (d + 4) (0, 0) μX8_evaluate 16 [.ref r, lvU, .int (nI e), .ref c, .int (nI (s + 1)), .int (0 : Int32), .int (nI (i + 1)), lvU, lvU] [] (wal m (r + 8) s (0 : Int64)) Q)
    (e2 : (al m (r + 8) s) = (al m (r + 8) (s + 1)) → WP G (d + 4) (0, 0) μX8_evaluate 16 [.ref r, lvU, .int (nI e), .ref c, .int (nI (s + 1)), .int (0 : Int32), .int (nI (i + 1)), lvU, lvU] [] (wal m (r + 8) s (1 : Int64)) Q) :
    WP G (d + 4) (0, 0) μX8_evaluate 16 [.ref r, lvU, .int (nI e), .ref c, .int (nI (s + 2)), .int (0 : Int32), .int (nI i), lvU, lvU] [] m Q := by
  refine wp_iload dX8_evaluate_16 rfl ?_
  refine wp_iload_n dX8_evaluate_18 rfl ?_
  refine wp_icmp_ge 283 dX8_evaluate_19 (by decide) (fun q => absurd (nlt_ (a := i) (b := e) hie (by omega)) q) (fun _ => ?_)
  refine wp_aload_n dX8_evaluate_22 rfl ?_
  refine wp_getr (r + 1) dX8_evaluate_23 fX8_9 (kr0 hF hr) (hF.2 _ _) (rra 1 (isK_le (kr0 hF hr)) (fun _ => rfl)) ?_
  refine wp_iload dX8_evaluate_26 rfl ?_
  refine wp_ialdk (n := 500) i (61 : Int32) dX8_evaluate_28 (kr hF hr 1 (by decide)) (lr hr 1 (by decide) (by decide)) (vin (by omega) (by decide)) (nIc (by omega)) ho ?_
  refine wp_istore dX8_evaluate_29 (by decide) rfl ?_
  refine wp_iload dX8_evaluate_31 rfl ?_
  refine wp_if_eq 54 dX8_evaluate_33 (by decide) (fun _ => ?_) (fun q => absurd (by decide) q)
  refine wp_iload dX8_evaluate_54 rfl ?_
  refine wp_sipush (203 : Int32) dX8_evaluate_56 (by decide) ?_
  refine wp_icmp_eq 70 dX8_evaluate_59 (by decide) (fun q => absurd q (by decide)) (fun _ => ?_)
  refine wp_iload dX8_evaluate_62 rfl ?_
  refine wp_sipush (202 : Int32) dX8_evaluate_64 (by decide) ?_
  refine wp_icmp_ne 137 dX8_evaluate_67 (by decide) (fun _ => ?_) (fun q => absurd q (by decide))
  refine wp_iload dX8_evaluate_137 rfl ?_
  refine wp_sipush (204 : Int32) dX8_evaluate_139 (by decide) ?_
  refine wp_icmp_eq 153 dX8_evaluate_142 (by decide) (fun q => absurd q (by decide)) (fun _ => ?_)
  refine wp_iload dX8_evaluate_145 rfl ?_
  refine wp_sipush (220 : Int32) dX8_evaluate_147 (by decide) ?_
  refine wp_icmp_ne 194 dX8_evaluate_150 (by decide) (fun _ => ?_) (fun q => absurd q (by decide))
  refine wp_iload dX8_evaluate_194 rfl ?_
  refine wp_sipush (200 : Int32) dX8_evaluate_196 (by decide) ?_
  refine wp_icmp_lt 238 dX8_evaluate_199 (by decide) (fun _ => ?_) (fun q => absurd (by decide) q)
  refine wp_iload dX8_evaluate_238 rfl ?_
  refine wp_iconst (1 : Int32) dX8_evaluate_240 (by decide) ?_
  refine wp_icmp_le 277 dX8_evaluate_241 (by decide) (fun q => absurd (nlt_ (a := 1) (b := s + 2) (by omega) (by omega)) q) (fun _ => ?_)
  refine wp_iinc (nI (s + 1)) dX8_evaluate_244 rfl (by decide) (ndec (by omega)) rfl ?_
  refine wp_aload_n dX8_evaluate_247 rfl ?_
  refine wp_getr (r + 8) dX8_evaluate_248 fX8_33 (kr0 hF hr) (hF.2 _ _) (rra 8 (isK_le (kr0 hF hr)) (fun _ => rfl)) ?_
  refine wp_iload dX8_evaluate_251 rfl ?_
  refine wp_iconst (1 : Int32) dX8_evaluate_253 (by decide) ?_
  refine wp_isubv (nI s) dX8_evaluate_254 (nsub (a := s + 1) (b := 1) (by omega)) ?_
  refine wp_iload dX8_evaluate_255 rfl ?_
  refine wp_aload_n dX8_evaluate_257 rfl ?_
  refine wp_getr (r + 8) dX8_evaluate_258 fX8_33 (kr0 hF hr) (hF.2 _ _) (rra 8 (isK_le (kr0 hF hr)) (fun _ => rfl)) ?_
  refine wp_iload dX8_evaluate_261 rfl ?_
  refine wp_iconst (1 : Int32) dX8_evaluate_263 (by decide) ?_
  refine wp_isubv (nI s) dX8_evaluate_264 (nsub (a := s + 1) (b := 1) (by omega)) ?_
  refine wp_laldk (n := 64) s (al m (r + 8) s) dX8_evaluate_265 (kr hF hr 8 (by decide)) (lr hr 8 (by decide) (by decide)) (vin (by omega) (by decide)) (nIc (by omega)) rfl ?_
  refine wp_aload_n dX8_evaluate_266 rfl ?_
  refine wp_getr (r + 8) dX8_evaluate_267 fX8_33 (kr0 hF hr) (hF.2 _ _) (rra 8 (isK_le (kr0 hF hr)) (fun _ => rfl)) ?_
  refine wp_iload dX8_evaluate_270 rfl ?_
  refine wp_laldk (n := 64) (s + 1) (al m (r + 8) (s + 1)) dX8_evaluate_272 (kr hF hr 8 (by decide)) (lr hr 8 (by decide) (by decide)) (vin (by omega) (by decide)) (nIc (by omega)) rfl ?_
  refine wp_callS (As := [.int (61 : Int32), .long (al m (r + 8) s), .long (al m (r + 8) (s + 1))]) (S := [.int (nI s), .ref (r + 8)]) (b' := (0, 0)) (b := (0, 0)) dX8_evaluate_273 MX8_103 rfl rfl (Nat.le_of_ble_eq_true rfl) ?_
  refine WPM.of pX8 (Nat.le_of_ble_eq_true rfl) rfl ?_
  refine wp_iload_n dX8_operate_0 rfl ?_
  refine wp_tableIn (off := 123) 124 dX8_operate_1 (by decide) (by decide) rfl (by decide) ?_
  refine wp_lload_n dX8_operate_124 rfl ?_
  refine wp_lload_n dX8_operate_125 rfl ?_
  refine wp_lc_ne 134 dX8_operate_126 dX8_operate_127 (by decide) (fun q1 => ?_) (fun q2 => ?_)
  · skip
    refine wp_lconst (0 : Int64) dX8_operate_134 (by decide) ?_
    refine wp_lret dX8_operate_135 rfl ?_
    show WP G (d + 4) (0, 0) μX8_evaluate 276 [.ref r, lvU, .int (nI e), .ref c, .int (nI (s + 1)), .int (0 : Int32), .int (nI i), .int (61 : Int32), lvU] [.long (0 : Int64), .int (nI s), .ref (r + 8)] m _
    refine wp_lastk (n := 64) s dX8_evaluate_276 (kr hF hr 8 (by decide)) (lr hr 8 (by decide) (by decide)) (vin (by omega) (by decide))  (nIc (by omega)) ?_
    have hF3 := Full_wal (r + 8) s (0 : Int64) hF
    refine wp_iinc (nI (i + 1)) dX8_evaluate_277 rfl (by decide) (nadd (a := i) (b := 1) (by omega)) rfl ?_
    refine wp_goto 16 dX8_evaluate_280 (by decide) ?_
    refine wp_forget [.ref r, lvU, .int (nI e), .ref c, .int (nI (s + 1)), .int (0 : Int32), .int (nI (i + 1)), lvU, lvU] ⟨Or.inl rfl, Or.inr rfl, Or.inl rfl, Or.inl rfl, Or.inl rfl, Or.inl rfl, Or.inl rfl, Or.inr rfl, Or.inr rfl, trivial⟩ ?_
    exact e1 q1
  · skip
    refine wp_lconst (1 : Int64) dX8_operate_130 (by decide) ?_
    refine wp_goto 135 dX8_operate_131 (by decide) ?_
    refine wp_lret dX8_operate_135 rfl ?_
    show WP G (d + 4) (0, 0) μX8_evaluate 276 [.ref r, lvU, .int (nI e), .ref c, .int (nI (s + 1)), .int (0 : Int32), .int (nI i), .int (61 : Int32), lvU] [.long (1 : Int64), .int (nI s), .ref (r + 8)] m _
    refine wp_lastk (n := 64) s dX8_evaluate_276 (kr hF hr 8 (by decide)) (lr hr 8 (by decide) (by decide)) (vin (by omega) (by decide))  (nIc (by omega)) ?_
    have hF4 := Full_wal (r + 8) s (1 : Int64) hF
    refine wp_iinc (nI (i + 1)) dX8_evaluate_277 rfl (by decide) (nadd (a := i) (b := 1) (by omega)) rfl ?_
    refine wp_goto 16 dX8_evaluate_280 (by decide) ?_
    refine wp_forget [.ref r, lvU, .int (nI e), .ref c, .int (nI (s + 1)), .int (0 : Int32), .int (nI (i + 1)), lvU, lvU] ⟨Or.inl rfl, Or.inr rfl, Or.inl rfl, Or.inl rfl, Or.inl rfl, Or.inl rfl, Or.inl rfl, Or.inr rfl, Or.inr rfl, trivial⟩ ?_
    exact e2 q2

theorem bC_ev203 {G : Cx} {d : Nat} {m : Mm} {Q : Option Value → Mm → Prop} {c r : Nat} {i s e p n : Nat} (hF : Full G m) (hc : IsC G c) (hr : IsR G r) (hi : i < 500) (hie : i < e) (he : e ≤ 500) (ho : ai m (r + 1) i = (203 : Int32)) 
    (e1 : (al m (r + 8) 0) = (0 : Int64) → WP G (d + 4) (0, 0) μX8_evaluate 16 [.ref r, lvU, .int (nI e), .ref c, .int (0 : Int32), .int (1 : Int32), .int (nI (i + 1)), lvU, lvU] [] m Q)
    (e2 : ¬ (al m (r + 8) 0) = (0 : Int64) → WP G (d + 4) (0, 0) μX8_evaluate 16 [.ref r, lvU, .int (nI e), .ref c, .int (0 : Int32), .int (0 : Int32), .int (nI (i + 1)), lvU, lvU] [] m Q) :
    WP G (d + 4) (0, 0) μX8_evaluate 16 [.ref r, lvU, .int (nI e), .ref c, .int (1 : Int32), .int (0 : Int32), .int (nI i), lvU, lvU] [] m Q := by
  refine wp_iload dX8_evaluate_16 rfl ?_
  refine wp_iload_n dX8_evaluate_18 rfl ?_
  refine wp_icmp_ge 283 dX8_evaluate_19 (by decide) (fun q => absurd (nlt_ (a := i) (b := e) hie (by omega)) q) (fun _ => ?_)
  refine wp_aload_n dX8_evaluate_22 rfl ?_
  refine wp_getr (r + 1) dX8_evaluate_23 fX8_9 (kr0 hF hr) (hF.2 _ _) (rra 1 (isK_le (kr0 hF hr)) (fun _ => rfl)) ?_
  refine wp_iload dX8_evaluate_26 rfl ?_
  refine wp_ialdk (n := 500) i (203 : Int32) dX8_evaluate_28 (kr hF hr 1 (by decide)) (lr hr 1 (by decide) (by decide)) (vin (by omega) (by decide)) (nIc (by omega)) ho ?_
  refine wp_istore dX8_evaluate_29 (by decide) rfl ?_
  refine wp_iload dX8_evaluate_31 rfl ?_
  refine wp_if_eq 54 dX8_evaluate_33 (by decide) (fun _ => ?_) (fun q => absurd (by decide) q)
  refine wp_iload dX8_evaluate_54 rfl ?_
  refine wp_sipush (203 : Int32) dX8_evaluate_56 (by decide) ?_
  refine wp_icmp_eq 70 dX8_evaluate_59 (by decide) (fun _ => ?_) (fun q => absurd (by decide) q)
  refine wp_iload dX8_evaluate_70 rfl ?_
  refine wp_if_le 93 dX8_evaluate_72 (by decide) (fun q => absurd (by decide) q) (fun _ => ?_)
  refine wp_aload_n dX8_evaluate_75 rfl ?_
  refine wp_getr (r + 8) dX8_evaluate_76 fX8_33 (kr0 hF hr) (hF.2 _ _) (rra 8 (isK_le (kr0 hF hr)) (fun _ => rfl)) ?_
  refine wp_iload dX8_evaluate_79 rfl ?_
  refine wp_iconst (1 : Int32) dX8_evaluate_81 (by decide) ?_
  refine wp_isubv (0 : Int32) dX8_evaluate_82 (by decide) ?_
  refine wp_laldk (n := 64) 0 (al m (r + 8) 0) dX8_evaluate_83 (kr hF hr 8 (by decide)) (lr hr 8 (by decide) (by decide)) (vinl (by decide)) rfl rfl ?_
  refine wp_lconst (0 : Int64) dX8_evaluate_84 (by decide) ?_
  refine wp_lc_eq 93 dX8_evaluate_85 dX8_evaluate_86 (by decide) (fun q1 => ?_) (fun q2 => ?_)
  · skip
    refine wp_iconst (0 : Int32) dX8_evaluate_93 (by decide) ?_
    refine wp_istore dX8_evaluate_94 (by decide) rfl ?_
    refine wp_iload dX8_evaluate_96 rfl ?_
    refine wp_if_eq 111 dX8_evaluate_98 (by decide) (fun _ => ?_) (fun q => absurd (by decide) q)
    refine wp_iload dX8_evaluate_111 rfl ?_
    refine wp_if_ne 128 dX8_evaluate_113 (by decide) (fun q => absurd (by decide) q) (fun _ => ?_)
    refine wp_iload dX8_evaluate_116 rfl ?_
    refine wp_sipush (203 : Int32) dX8_evaluate_118 (by decide) ?_
    refine wp_icmp_ne 128 dX8_evaluate_121 (by decide) (fun q => absurd (by decide) q) (fun _ => ?_)
    refine wp_iconst (1 : Int32) dX8_evaluate_124 (by decide) ?_
    refine wp_goto 129 dX8_evaluate_125 (by decide) ?_
    refine wp_istore dX8_evaluate_129 (by decide) rfl ?_
    refine wp_iconst (0 : Int32) dX8_evaluate_131 (by decide) ?_
    refine wp_istore dX8_evaluate_132 (by decide) rfl ?_
    refine wp_goto 277 dX8_evaluate_134 (by decide) ?_
    refine wp_iinc (nI (i + 1)) dX8_evaluate_277 rfl (by decide) (nadd (a := i) (b := 1) (by omega)) rfl ?_
    refine wp_goto 16 dX8_evaluate_280 (by decide) ?_
    refine wp_forget [.ref r, lvU, .int (nI e), .ref c, .int (0 : Int32), .int (1 : Int32), .int (nI (i + 1)), lvU, lvU] ⟨Or.inl rfl, Or.inr rfl, Or.inl rfl, Or.inl rfl, Or.inl rfl, Or.inl rfl, Or.inl rfl, Or.inr rfl, Or.inr rfl, trivial⟩ ?_
    exact e1 q1
  · skip
    refine wp_iconst (1 : Int32) dX8_evaluate_89 (by decide) ?_
    refine wp_goto 94 dX8_evaluate_90 (by decide) ?_
    refine wp_istore dX8_evaluate_94 (by decide) rfl ?_
    refine wp_iload dX8_evaluate_96 rfl ?_
    refine wp_if_eq 111 dX8_evaluate_98 (by decide) (fun q => absurd q (by decide)) (fun _ => ?_)
    refine wp_iload dX8_evaluate_101 rfl ?_
    refine wp_sipush (202 : Int32) dX8_evaluate_103 (by decide) ?_
    refine wp_icmp_ne 111 dX8_evaluate_106 (by decide) (fun _ => ?_) (fun q => absurd q (by decide))
    refine wp_iload dX8_evaluate_111 rfl ?_
    refine wp_if_ne 128 dX8_evaluate_113 (by decide) (fun _ => ?_) (fun q => absurd q (by decide))
    refine wp_iconst (0 : Int32) dX8_evaluate_128 (by decide) ?_
    refine wp_istore dX8_evaluate_129 (by decide) rfl ?_
    refine wp_iconst (0 : Int32) dX8_evaluate_131 (by decide) ?_
    refine wp_istore dX8_evaluate_132 (by decide) rfl ?_
    refine wp_goto 277 dX8_evaluate_134 (by decide) ?_
    refine wp_iinc (nI (i + 1)) dX8_evaluate_277 rfl (by decide) (nadd (a := i) (b := 1) (by omega)) rfl ?_
    refine wp_goto 16 dX8_evaluate_280 (by decide) ?_
    refine wp_forget [.ref r, lvU, .int (nI e), .ref c, .int (0 : Int32), .int (0 : Int32), .int (nI (i + 1)), lvU, lvU] ⟨Or.inl rfl, Or.inr rfl, Or.inl rfl, Or.inl rfl, Or.inl rfl, Or.inl rfl, Or.inl rfl, Or.inr rfl, Or.inr rfl, trivial⟩ ?_
    exact e2 q2

theorem bC_ev202 {G : Cx} {d : Nat} {m : Mm} {Q : Option Value → Mm → Prop} {c r : Nat} {i s e p n : Nat} (hF : Full G m) (hc : IsC G c) (hr : IsR G r) (hi : i < 500) (hie : i < e) (he : e ≤ 500) (ho : ai m (r + 1) i = (202 : Int32)) 
    (e1 : (al m (r + 8) 0) = (0 : Int64) → WP G (d + 4) (0, 0) μX8_evaluate 16 [.ref r, lvU, .int (nI e), .ref c, .int (0 : Int32), .int (0 : Int32), .int (nI (i + 1)), lvU, lvU] [] m Q)
    (e2 : ¬ (al m (r + 8) 0) = (0 : Int64) → Q (some (.long (1 : Int64))) m) :
    WP G (d + 4) (0, 0) μX8_evaluate 16 [.ref r, lvU, .int (nI e), .ref c, .int (1 : Int32), .int (0 : Int32), .int (nI i), lvU, lvU] [] m Q := by
  refine wp_iload dX8_evaluate_16 rfl ?_
  refine wp_iload_n dX8_evaluate_18 rfl ?_
  refine wp_icmp_ge 283 dX8_evaluate_19 (by decide) (fun q => absurd (nlt_ (a := i) (b := e) hie (by omega)) q) (fun _ => ?_)
  refine wp_aload_n dX8_evaluate_22 rfl ?_
  refine wp_getr (r + 1) dX8_evaluate_23 fX8_9 (kr0 hF hr) (hF.2 _ _) (rra 1 (isK_le (kr0 hF hr)) (fun _ => rfl)) ?_
  refine wp_iload dX8_evaluate_26 rfl ?_
  refine wp_ialdk (n := 500) i (202 : Int32) dX8_evaluate_28 (kr hF hr 1 (by decide)) (lr hr 1 (by decide) (by decide)) (vin (by omega) (by decide)) (nIc (by omega)) ho ?_
  refine wp_istore dX8_evaluate_29 (by decide) rfl ?_
  refine wp_iload dX8_evaluate_31 rfl ?_
  refine wp_if_eq 54 dX8_evaluate_33 (by decide) (fun _ => ?_) (fun q => absurd (by decide) q)
  refine wp_iload dX8_evaluate_54 rfl ?_
  refine wp_sipush (203 : Int32) dX8_evaluate_56 (by decide) ?_
  refine wp_icmp_eq 70 dX8_evaluate_59 (by decide) (fun q => absurd q (by decide)) (fun _ => ?_)
  refine wp_iload dX8_evaluate_62 rfl ?_
  refine wp_sipush (202 : Int32) dX8_evaluate_64 (by decide) ?_
  refine wp_icmp_ne 137 dX8_evaluate_67 (by decide) (fun q => absurd (by decide) q) (fun _ => ?_)
  refine wp_iload dX8_evaluate_70 rfl ?_
  refine wp_if_le 93 dX8_evaluate_72 (by decide) (fun q => absurd (by decide) q) (fun _ => ?_)
  refine wp_aload_n dX8_evaluate_75 rfl ?_
  refine wp_getr (r + 8) dX8_evaluate_76 fX8_33 (kr0 hF hr) (hF.2 _ _) (rra 8 (isK_le (kr0 hF hr)) (fun _ => rfl)) ?_
  refine wp_iload dX8_evaluate_79 rfl ?_
  refine wp_iconst (1 : Int32) dX8_evaluate_81 (by decide) ?_
  refine wp_isubv (0 : Int32) dX8_evaluate_82 (by decide) ?_
  refine wp_laldk (n := 64) 0 (al m (r + 8) 0) dX8_evaluate_83 (kr hF hr 8 (by decide)) (lr hr 8 (by decide) (by decide)) (vinl (by decide)) rfl rfl ?_
  refine wp_lconst (0 : Int64) dX8_evaluate_84 (by decide) ?_
  refine wp_lc_eq 93 dX8_evaluate_85 dX8_evaluate_86 (by decide) (fun q1 => ?_) (fun q2 => ?_)
  · skip
    refine wp_iconst (0 : Int32) dX8_evaluate_93 (by decide) ?_
    refine wp_istore dX8_evaluate_94 (by decide) rfl ?_
    refine wp_iload dX8_evaluate_96 rfl ?_
    refine wp_if_eq 111 dX8_evaluate_98 (by decide) (fun _ => ?_) (fun q => absurd (by decide) q)
    refine wp_iload dX8_evaluate_111 rfl ?_
    refine wp_if_ne 128 dX8_evaluate_113 (by decide) (fun q => absurd (by decide) q) (fun _ => ?_)
    refine wp_iload dX8_evaluate_116 rfl ?_
    refine wp_sipush (203 : Int32) dX8_evaluate_118 (by decide) ?_
    refine wp_icmp_ne 128 dX8_evaluate_121 (by decide) (fun _ => ?_) (fun q => absurd q (by decide))
    refine wp_iconst (0 : Int32) dX8_evaluate_128 (by decide) ?_
    refine wp_istore dX8_evaluate_129 (by decide) rfl ?_
    refine wp_iconst (0 : Int32) dX8_evaluate_131 (by decide) ?_
    refine wp_istore dX8_evaluate_132 (by decide) rfl ?_
    refine wp_goto 277 dX8_evaluate_134 (by decide) ?_
    refine wp_iinc (nI (i + 1)) dX8_evaluate_277 rfl (by decide) (nadd (a := i) (b := 1) (by omega)) rfl ?_
    refine wp_goto 16 dX8_evaluate_280 (by decide) ?_
    refine wp_forget [.ref r, lvU, .int (nI e), .ref c, .int (0 : Int32), .int (0 : Int32), .int (nI (i + 1)), lvU, lvU] ⟨Or.inl rfl, Or.inr rfl, Or.inl rfl, Or.inl rfl, Or.inl rfl, Or.inl rfl, Or.inl rfl, Or.inr rfl, Or.inr rfl, trivial⟩ ?_
    exact e1 q1
  · skip
    refine wp_iconst (1 : Int32) dX8_evaluate_89 (by decide) ?_
    refine wp_goto 94 dX8_evaluate_90 (by decide) ?_
    refine wp_istore dX8_evaluate_94 (by decide) rfl ?_
    refine wp_iload dX8_evaluate_96 rfl ?_
    refine wp_if_eq 111 dX8_evaluate_98 (by decide) (fun q => absurd q (by decide)) (fun _ => ?_)
    refine wp_iload dX8_evaluate_101 rfl ?_
    refine wp_sipush (202 : Int32) dX8_evaluate_103 (by decide) ?_
    refine wp_icmp_ne 111 dX8_evaluate_106 (by decide) (fun q => absurd (by decide) q) (fun _ => ?_)
    refine wp_lconst (1 : Int64) dX8_evaluate_109 (by decide) ?_
    exact wp_lret dX8_evaluate_110 rfl (e2 q2)

theorem bC_evs {G : Cx} {d : Nat} {m : Mm} {Q : Option Value → Mm → Prop} {c r : Nat} {i s e q : Nat} (hF : Full G m) (hc : IsC G c) (hr : IsR G r) (hi : i < 500) (hie : i < e) (he : e ≤ 500) (ho : ai m (r + 1) i = nI q) (hq : q < 1000)
    (e1 : q = 202 → WP G (d + 4) (0, 0) μX8_evaluate 16 [.ref r, lvU, .int (nI e), .ref c, .int (nI s), .int (0 : Int32), .int (nI (i + 1)), lvU, lvU] [] m Q)
    (e2 : ¬ q = 202 → WP G (d + 4) (0, 0) μX8_evaluate 16 [.ref r, lvU, .int (nI e), .ref c, .int (nI s), .int (1 : Int32), .int (nI (i + 1)), lvU, lvU] [] m Q) :
    WP G (d + 4) (0, 0) μX8_evaluate 16 [.ref r, lvU, .int (nI e), .ref c, .int (nI s), .int (1 : Int32), .int (nI i), lvU, lvU] [] m Q := by
  refine wp_iload dX8_evaluate_16 rfl ?_
  refine wp_iload_n dX8_evaluate_18 rfl ?_
  refine wp_icmp_ge 283 dX8_evaluate_19 (by decide) (fun q => absurd (nlt_ (a := i) (b := e) hie (by omega)) q) (fun _ => ?_)
  refine wp_aload_n dX8_evaluate_22 rfl ?_
  refine wp_getr (r + 1) dX8_evaluate_23 fX8_9 (kr0 hF hr) (hF.2 _ _) (rra 1 (isK_le (kr0 hF hr)) (fun _ => rfl)) ?_
  refine wp_iload dX8_evaluate_26 rfl ?_
  refine wp_ialdk (n := 500) i (nI q) dX8_evaluate_28 (kr hF hr 1 (by decide)) (lr hr 1 (by decide) (by decide)) (vin (by omega) (by decide)) (nIc (by omega)) ho ?_
  refine wp_istore dX8_evaluate_29 (by decide) rfl ?_
  refine wp_iload dX8_evaluate_31 rfl ?_
  refine wp_if_eq 54 dX8_evaluate_33 (by decide) (fun q => absurd q (by decide)) (fun _ => ?_)
  refine wp_iload dX8_evaluate_36 rfl ?_
  refine wp_sipush (202 : Int32) dX8_evaluate_38 (by decide) ?_
  refine wp_icmp_eq 48 dX8_evaluate_41 (by decide) (fun q1 => ?_) (fun q2 => ?_)
  · have hp3 : q = 202 := (neq q1 (by omega) (by omega))
    refine wp_iconst (0 : Int32) dX8_evaluate_48 (by decide) ?_
    refine wp_istore dX8_evaluate_49 (by decide) rfl ?_
    refine wp_goto 277 dX8_evaluate_51 (by decide) ?_
    refine wp_iinc (nI (i + 1)) dX8_evaluate_277 rfl (by decide) (nadd (a := i) (b := 1) (by omega)) rfl ?_
    refine wp_goto 16 dX8_evaluate_280 (by decide) ?_
    refine wp_forget [.ref r, lvU, .int (nI e), .ref c, .int (nI s), .int (0 : Int32), .int (nI (i + 1)), lvU, lvU] ⟨Or.inl rfl, Or.inr rfl, Or.inl rfl, Or.inl rfl, Or.inl rfl, Or.inl rfl, Or.inl rfl, Or.inr rfl, Or.inr rfl, trivial⟩ ?_
    exact e1 hp3
  · have hp4 : ¬ q = 202 := (fun z => q2 (congrArg nI z))
    refine wp_iconst (1 : Int32) dX8_evaluate_44 (by decide) ?_
    refine wp_goto 49 dX8_evaluate_45 (by decide) ?_
    refine wp_istore dX8_evaluate_49 (by decide) rfl ?_
    refine wp_goto 277 dX8_evaluate_51 (by decide) ?_
    refine wp_iinc (nI (i + 1)) dX8_evaluate_277 rfl (by decide) (nadd (a := i) (b := 1) (by omega)) rfl ?_
    refine wp_goto 16 dX8_evaluate_280 (by decide) ?_
    refine wp_forget [.ref r, lvU, .int (nI e), .ref c, .int (nI s), .int (1 : Int32), .int (nI (i + 1)), lvU, lvU] ⟨Or.inl rfl, Or.inr rfl, Or.inl rfl, Or.inl rfl, Or.inl rfl, Or.inl rfl, Or.inl rfl, Or.inr rfl, Or.inr rfl, trivial⟩ ?_
    exact e2 hp4

theorem eC_ev {G : Cx} {d : Nat} {m : Mm} {Q : Option Value → Mm → Prop} {c r : Nat} {i e : Nat} (hF : Full G m) (hc : IsC G c) (hr : IsR G r) (hi : i ≤ 500) (he : e ≤ 500)
    (e1 : ¬ i = e → WP G (d + 4) (0, 0) μX8_evaluate 16 [.ref r, lvU, .int (nI e), .ref c, .int (0 : Int32), .int (0 : Int32), .int (nI i), lvU, lvU] [] m Q)
    (e2 : i = e → Q (some (.long (1 : Int64))) m) :
    WPM G (d + 4) (0, 0) μX8_evaluate [.ref r, .int (nI i), .int (nI e), .ref c] m Q := by
  refine WPM.of pX8 (Nat.le_of_ble_eq_true rfl) rfl ?_
  refine wp_iload_n dX8_evaluate_0 rfl ?_
  refine wp_iload_n dX8_evaluate_1 rfl ?_
  refine wp_icmp_ne 7 dX8_evaluate_2 (by decide) (fun q1 => ?_) (fun q2 => ?_)
  · have hp3 : ¬ i = e := (fun z => q1 (congrArg nI z))
    refine wp_iconst (0 : Int32) dX8_evaluate_7 (by decide) ?_
    refine wp_istore dX8_evaluate_8 (by decide) rfl ?_
    refine wp_iconst (0 : Int32) dX8_evaluate_10 (by decide) ?_
    refine wp_istore dX8_evaluate_11 (by decide) rfl ?_
    refine wp_iload_n dX8_evaluate_13 rfl ?_
    refine wp_istore dX8_evaluate_14 (by decide) rfl ?_
    refine wp_forget [.ref r, lvU, .int (nI e), .ref c, .int (0 : Int32), .int (0 : Int32), .int (nI i), lvU, lvU] ⟨Or.inl rfl, Or.inr rfl, Or.inl rfl, Or.inl rfl, Or.inl rfl, Or.inl rfl, Or.inl rfl, Or.inr rfl, Or.inr rfl, trivial⟩ ?_
    exact e1 hp3
  · have hp4 : i = e := (neq q2 (by omega) (by omega))
    refine wp_lconst (1 : Int64) dX8_evaluate_5 (by decide) ?_
    exact wp_lret dX8_evaluate_6 rfl (e2 hp4)

theorem bC_evx {G : Cx} {d : Nat} {m : Mm} {Q : Option Value → Mm → Prop} {c r : Nat} {e s : Nat} {z : Int32} (hF : Full G m) (hc : IsC G c) (hr : IsR G r) (he : e ≤ 500) (hs : s < 64)
    (e1 : Q (some (.long (al m (r + 8) s))) m) :
    WP G (d + 4) (0, 0) μX8_evaluate 16 [.ref r, lvU, .int (nI e), .ref c, .int (nI (s + 1)), .int z, .int (nI e), lvU, lvU] [] m Q := by
  refine wp_iload dX8_evaluate_16 rfl ?_
  refine wp_iload_n dX8_evaluate_18 rfl ?_
  refine wp_icmp_ge 283 dX8_evaluate_19 (by decide) (fun _ => ?_) (fun q => absurd q (nnlt (Nat.le_refl _) (by omega)))
  refine wp_iload dX8_evaluate_283 rfl ?_
  refine wp_if_le 300 dX8_evaluate_285 (by decide) (fun q => absurd (nlt_ (a := 0) (b := s + 1) (by omega) (by omega)) q) (fun _ => ?_)
  refine wp_aload_n dX8_evaluate_288 rfl ?_
  refine wp_getr (r + 8) dX8_evaluate_289 fX8_33 (kr0 hF hr) (hF.2 _ _) (rra 8 (isK_le (kr0 hF hr)) (fun _ => rfl)) ?_
  refine wp_iload dX8_evaluate_292 rfl ?_
  refine wp_iconst (1 : Int32) dX8_evaluate_294 (by decide) ?_
  refine wp_isubv (nI s) dX8_evaluate_295 (nsub (a := s + 1) (b := 1) (by omega)) ?_
  refine wp_laldk (n := 64) s (al m (r + 8) s) dX8_evaluate_296 (kr hF hr 8 (by decide)) (lr hr 8 (by decide) (by decide)) (vin (by omega) (by decide)) (nIc (by omega)) rfl ?_
  refine wp_goto 301 dX8_evaluate_297 (by decide) ?_
  exact wp_lret dX8_evaluate_301 rfl (e1)

theorem bC_evz {G : Cx} {d : Nat} {m : Mm} {Q : Option Value → Mm → Prop} {c r : Nat} {e : Nat} {z : Int32} (hF : Full G m) (hc : IsC G c) (hr : IsR G r) (he : e ≤ 500)
    (e1 : Q (some (.long (0 : Int64))) m) :
    WP G (d + 4) (0, 0) μX8_evaluate 16 [.ref r, lvU, .int (nI e), .ref c, .int (0 : Int32), .int z, .int (nI e), lvU, lvU] [] m Q := by
  refine wp_iload dX8_evaluate_16 rfl ?_
  refine wp_iload_n dX8_evaluate_18 rfl ?_
  refine wp_icmp_ge 283 dX8_evaluate_19 (by decide) (fun _ => ?_) (fun q => absurd q (nnlt (Nat.le_refl _) (by omega)))
  refine wp_iload dX8_evaluate_283 rfl ?_
  refine wp_if_le 300 dX8_evaluate_285 (by decide) (fun _ => ?_) (fun q => absurd q (by decide))
  refine wp_lconst (0 : Int64) dX8_evaluate_300 (by decide) ?_
  exact wp_lret dX8_evaluate_301 rfl (e1)

theorem eC_due {G : Cx} {d : Nat} {m : Mm} {Q : Option Value → Mm → Prop} {c r : Nat} {q i e : Nat} (hF : Full G m) (hc : IsC G c) (hr : IsR G r) (hq : q < 12) (h1 : ai m (r + 3) q = nI i) (h2 : ai m (r + 4) q = nI e)
    (e1 : WPM G (d + 4) (0, 0) μX8_evaluate [.ref r, .int (nI i), .int (nI e), .ref c] m (fun r' m' => WP G (d + 5) (0, 0) μX8_isDue 17 [lvU, lvU, lvU] (r'.toList ++ []) m' Q)) :
    WPM G (d + 5) (0, 0) μX8_isDue [.ref r, .int (nI q), .ref c] m Q := by
  refine WPM.of pX8 (Nat.le_of_ble_eq_true rfl) rfl ?_
  refine wp_aload_n dX8_isDue_0 rfl ?_
  refine wp_aload_n dX8_isDue_1 rfl ?_
  refine wp_getr (r + 3) dX8_isDue_2 fX8_18 (kr0 hF hr) (hF.2 _ _) (rra 3 (isK_le (kr0 hF hr)) (fun _ => rfl)) ?_
  refine wp_iload_n dX8_isDue_5 rfl ?_
  refine wp_ialdk (n := 12) q (nI i) dX8_isDue_6 (kr hF hr 3 (by decide)) (lr hr 3 (by decide) (by decide)) (vin (by omega) (by decide)) (nIc (by omega)) h1 ?_
  refine wp_aload_n dX8_isDue_7 rfl ?_
  refine wp_getr (r + 4) dX8_isDue_8 fX8_21 (kr0 hF hr) (hF.2 _ _) (rra 4 (isK_le (kr0 hF hr)) (fun _ => rfl)) ?_
  refine wp_iload_n dX8_isDue_11 rfl ?_
  refine wp_ialdk (n := 12) q (nI e) dX8_isDue_12 (kr hF hr 4 (by decide)) (lr hr 4 (by decide) (by decide)) (vin (by omega) (by decide)) (nIc (by omega)) h2 ?_
  refine wp_aload_n dX8_isDue_13 rfl ?_
  refine wp_forget [lvU, lvU, lvU] ⟨Or.inr rfl, Or.inr rfl, Or.inr rfl, trivial⟩ ?_
  refine wp_callV (As := [.int (nI i), .int (nI e), .ref c]) (S := []) (b' := (0, 0)) (b := (0, 0)) dX8_isDue_14 MX8_50 (kr0 hF hr) rfl rfl rfl rfl (Nat.le_of_ble_eq_true rfl) ?_
  exact e1

theorem bC_due {G : Cx} {d : Nat} {m : Mm} {Q : Option Value → Mm → Prop} {c r : Nat} {z : Int64} (hF : Full G m) (hc : IsC G c) (hr : IsR G r) 
    (e1 : z = (0 : Int64) → Q (some (.int (0 : Int32))) m)
    (e2 : ¬ z = (0 : Int64) → Q (some (.int (1 : Int32))) m) :
    WP G (d + 5) (0, 0) μX8_isDue 17 [lvU, lvU, lvU] [.long z] m Q := by
  refine wp_lconst (0 : Int64) dX8_isDue_17 (by decide) ?_
  refine wp_lc_eq 26 dX8_isDue_18 dX8_isDue_19 (by decide) (fun q1 => ?_) (fun q2 => ?_)
  · skip
    refine wp_iconst (0 : Int32) dX8_isDue_26 (by decide) ?_
    exact wp_zret dX8_isDue_27 rfl rfl (e1 q1)
  · skip
    refine wp_iconst (1 : Int32) dX8_isDue_22 (by decide) ?_
    refine wp_goto 27 dX8_isDue_23 (by decide) ?_
    exact wp_zret dX8_isDue_27 rfl rfl (e2 q2)

theorem sC_act0 {G : Cx} {d : Nat} {m : Mm} {Q : Option Value → Mm → Prop} {c r : Nat} {q p n i e : Nat} (hF : Full G m) (hc : IsC G c) (hr : IsR G r) (hq : q < 12) (hp : ai m (r + 7) q = nI p) (ha : ai m (r + 6) q = (217 : Int32)) (hb : p < n) (hn : fi m 8 c = nI n) (h8 : n ≤ 8)
    (e1 : Q none (wfi m 105 (ht c p) (0 : Int32))) :
    WPM G (d + 5) (0, 0) μX8_act [.ref r, .int (nI q), .ref c] m Q := by
  refine WPM.of pX8 (Nat.le_of_ble_eq_true rfl) rfl ?_
  refine wp_aload_n dX8_act_0 rfl ?_
  refine wp_getr (r + 7) dX8_act_1 fX8_30 (kr0 hF hr) (hF.2 _ _) (rra 7 (isK_le (kr0 hF hr)) (fun _ => rfl)) ?_
  refine wp_iload_n dX8_act_4 rfl ?_
  refine wp_ialdk (n := 12) q (nI p) dX8_act_5 (kr hF hr 7 (by decide)) (lr hr 7 (by decide) (by decide)) (vin (by omega) (by decide)) (nIc (by omega)) hp ?_
  refine wp_istore_n dX8_act_6 (by decide) rfl ?_
  refine wp_aload_n dX8_act_7 rfl ?_
  refine wp_getr (r + 6) dX8_act_8 fX8_27 (kr0 hF hr) (hF.2 _ _) (rra 6 (isK_le (kr0 hF hr)) (fun _ => rfl)) ?_
  refine wp_iload_n dX8_act_11 rfl ?_
  refine wp_ialdk (n := 12) q (217 : Int32) dX8_act_12 (kr hF hr 6 (by decide)) (lr hr 6 (by decide) (by decide)) (vin (by omega) (by decide)) (nIc (by omega)) ha ?_
  refine wp_istore dX8_act_13 (by decide) rfl ?_
  refine wp_iload dX8_act_15 rfl ?_
  refine wp_sipush (214 : Int32) dX8_act_17 (by decide) ?_
  refine wp_icmp_ne 72 dX8_act_20 (by decide) (fun _ => ?_) (fun q => absurd q (by decide))
  refine wp_iload dX8_act_72 rfl ?_
  refine wp_sipush (218 : Int32) dX8_act_74 (by decide) ?_
  refine wp_icmp_eq 88 dX8_act_77 (by decide) (fun q => absurd q (by decide)) (fun _ => ?_)
  refine wp_iload dX8_act_80 rfl ?_
  refine wp_sipush (219 : Int32) dX8_act_82 (by decide) ?_
  refine wp_icmp_ne 121 dX8_act_85 (by decide) (fun _ => ?_) (fun q => absurd q (by decide))
  refine wp_aload_n dX8_act_121 rfl ?_
  refine wp_iload_n dX8_act_122 rfl ?_
  refine wp_callV (As := [.int (nI p)]) (S := []) (b' := (0, 0)) (b := (0, 0)) dX8_act_123 MX8_88 (kc0 hF hc) rfl rfl rfl rfl (Nat.le_of_ble_eq_true rfl) ?_
  refine WPM.of pX0 (Nat.le_of_ble_eq_true rfl) rfl ?_
  refine wp_iload_n dX0_hasHeater_0 rfl ?_
  refine wp_if_lt 16 dX0_hasHeater_1 (by decide) (fun q => absurd q (nI_pos (by omega))) (fun _ => ?_)
  refine wp_iload_n dX0_hasHeater_4 rfl ?_
  refine wp_aload_n dX0_hasHeater_5 rfl ?_
  refine wp_geti (nI n) dX0_hasHeater_6 fX0_94 (Or.inl rfl) (kc0 hF hc) hn ?_
  refine wp_icmp_ge 16 dX0_hasHeater_9 (by decide) (fun q => absurd (nlt_ (a := p) (b := n) hb (by omega)) q) (fun _ => ?_)
  refine wp_iconst (1 : Int32) dX0_hasHeater_12 (by decide) ?_
  refine wp_goto 17 dX0_hasHeater_13 (by decide) ?_
  refine wp_zret dX0_hasHeater_17 rfl rfl ?_
  show WP G (d + 5) (0, 0) μX8_act 126 [.ref r, .int (nI q), .ref c, .int (nI p), .int (217 : Int32), lvU, lvU] [.int (1 : Int32)] m _
  refine wp_if_eq 163 dX8_act_126 (by decide) (fun q => absurd q (by decide)) (fun _ => ?_)
  refine wp_aload_n dX8_act_129 rfl ?_
  refine wp_getr (c + 4) dX8_act_130 fX8_91 (kc0 hF hc) (hF.2 _ _) (rra 4 (isK_le (kc0 hF hc)) (fun _ => rfl)) ?_
  refine wp_iload_n dX8_act_133 rfl ?_
  refine wp_raldk (n := 8) p (ht c p) dX8_act_134 (kc hF hc 4 (by decide)) (by decide) (by decide) (lc hc 4 (by decide)) (vin (by omega) (by decide)) (nIc (by omega)) (hF.2 _ _) (rht hF hc) ?_
  refine wp_iload dX8_act_135 rfl ?_
  refine wp_sipush (215 : Int32) dX8_act_137 (by decide) ?_
  refine wp_icmp_ne 147 dX8_act_140 (by decide) (fun _ => ?_) (fun q => absurd q (by decide))
  refine wp_iload dX8_act_147 rfl ?_
  refine wp_sipush (216 : Int32) dX8_act_149 (by decide) ?_
  refine wp_icmp_ne 159 dX8_act_152 (by decide) (fun _ => ?_) (fun q => absurd q (by decide))
  refine wp_iconst (0 : Int32) dX8_act_159 (by decide) ?_
  refine wp_puti dX8_act_160 pX8_95 (kht hF hc (by omega)) ?_
  have hF1 := Full_wfi 105 (ht c p) (0 : Int32) hF
  exact wp_vret dX8_act_163 rfl (e1)

theorem sC_act1 {G : Cx} {d : Nat} {m : Mm} {Q : Option Value → Mm → Prop} {c r : Nat} {q p n i e : Nat} (hF : Full G m) (hc : IsC G c) (hr : IsR G r) (hq : q < 12) (hp : ai m (r + 7) q = nI p) (ha : ai m (r + 6) q = (215 : Int32)) (hb : p < n) (hn : fi m 8 c = nI n) (h8 : n ≤ 8)
    (e1 : Q none (wfi m 105 (ht c p) (1 : Int32))) :
    WPM G (d + 5) (0, 0) μX8_act [.ref r, .int (nI q), .ref c] m Q := by
  refine WPM.of pX8 (Nat.le_of_ble_eq_true rfl) rfl ?_
  refine wp_aload_n dX8_act_0 rfl ?_
  refine wp_getr (r + 7) dX8_act_1 fX8_30 (kr0 hF hr) (hF.2 _ _) (rra 7 (isK_le (kr0 hF hr)) (fun _ => rfl)) ?_
  refine wp_iload_n dX8_act_4 rfl ?_
  refine wp_ialdk (n := 12) q (nI p) dX8_act_5 (kr hF hr 7 (by decide)) (lr hr 7 (by decide) (by decide)) (vin (by omega) (by decide)) (nIc (by omega)) hp ?_
  refine wp_istore_n dX8_act_6 (by decide) rfl ?_
  refine wp_aload_n dX8_act_7 rfl ?_
  refine wp_getr (r + 6) dX8_act_8 fX8_27 (kr0 hF hr) (hF.2 _ _) (rra 6 (isK_le (kr0 hF hr)) (fun _ => rfl)) ?_
  refine wp_iload_n dX8_act_11 rfl ?_
  refine wp_ialdk (n := 12) q (215 : Int32) dX8_act_12 (kr hF hr 6 (by decide)) (lr hr 6 (by decide) (by decide)) (vin (by omega) (by decide)) (nIc (by omega)) ha ?_
  refine wp_istore dX8_act_13 (by decide) rfl ?_
  refine wp_iload dX8_act_15 rfl ?_
  refine wp_sipush (214 : Int32) dX8_act_17 (by decide) ?_
  refine wp_icmp_ne 72 dX8_act_20 (by decide) (fun _ => ?_) (fun q => absurd q (by decide))
  refine wp_iload dX8_act_72 rfl ?_
  refine wp_sipush (218 : Int32) dX8_act_74 (by decide) ?_
  refine wp_icmp_eq 88 dX8_act_77 (by decide) (fun q => absurd q (by decide)) (fun _ => ?_)
  refine wp_iload dX8_act_80 rfl ?_
  refine wp_sipush (219 : Int32) dX8_act_82 (by decide) ?_
  refine wp_icmp_ne 121 dX8_act_85 (by decide) (fun _ => ?_) (fun q => absurd q (by decide))
  refine wp_aload_n dX8_act_121 rfl ?_
  refine wp_iload_n dX8_act_122 rfl ?_
  refine wp_callV (As := [.int (nI p)]) (S := []) (b' := (0, 0)) (b := (0, 0)) dX8_act_123 MX8_88 (kc0 hF hc) rfl rfl rfl rfl (Nat.le_of_ble_eq_true rfl) ?_
  refine WPM.of pX0 (Nat.le_of_ble_eq_true rfl) rfl ?_
  refine wp_iload_n dX0_hasHeater_0 rfl ?_
  refine wp_if_lt 16 dX0_hasHeater_1 (by decide) (fun q => absurd q (nI_pos (by omega))) (fun _ => ?_)
  refine wp_iload_n dX0_hasHeater_4 rfl ?_
  refine wp_aload_n dX0_hasHeater_5 rfl ?_
  refine wp_geti (nI n) dX0_hasHeater_6 fX0_94 (Or.inl rfl) (kc0 hF hc) hn ?_
  refine wp_icmp_ge 16 dX0_hasHeater_9 (by decide) (fun q => absurd (nlt_ (a := p) (b := n) hb (by omega)) q) (fun _ => ?_)
  refine wp_iconst (1 : Int32) dX0_hasHeater_12 (by decide) ?_
  refine wp_goto 17 dX0_hasHeater_13 (by decide) ?_
  refine wp_zret dX0_hasHeater_17 rfl rfl ?_
  show WP G (d + 5) (0, 0) μX8_act 126 [.ref r, .int (nI q), .ref c, .int (nI p), .int (215 : Int32), lvU, lvU] [.int (1 : Int32)] m _
  refine wp_if_eq 163 dX8_act_126 (by decide) (fun q => absurd q (by decide)) (fun _ => ?_)
  refine wp_aload_n dX8_act_129 rfl ?_
  refine wp_getr (c + 4) dX8_act_130 fX8_91 (kc0 hF hc) (hF.2 _ _) (rra 4 (isK_le (kc0 hF hc)) (fun _ => rfl)) ?_
  refine wp_iload_n dX8_act_133 rfl ?_
  refine wp_raldk (n := 8) p (ht c p) dX8_act_134 (kc hF hc 4 (by decide)) (by decide) (by decide) (lc hc 4 (by decide)) (vin (by omega) (by decide)) (nIc (by omega)) (hF.2 _ _) (rht hF hc) ?_
  refine wp_iload dX8_act_135 rfl ?_
  refine wp_sipush (215 : Int32) dX8_act_137 (by decide) ?_
  refine wp_icmp_ne 147 dX8_act_140 (by decide) (fun q => absurd (by decide) q) (fun _ => ?_)
  refine wp_iconst (1 : Int32) dX8_act_143 (by decide) ?_
  refine wp_goto 160 dX8_act_144 (by decide) ?_
  refine wp_puti dX8_act_160 pX8_95 (kht hF hc (by omega)) ?_
  have hF1 := Full_wfi 105 (ht c p) (1 : Int32) hF
  exact wp_vret dX8_act_163 rfl (e1)

theorem sC_act2 {G : Cx} {d : Nat} {m : Mm} {Q : Option Value → Mm → Prop} {c r : Nat} {q p n i e : Nat} (hF : Full G m) (hc : IsC G c) (hr : IsR G r) (hq : q < 12) (hp : ai m (r + 7) q = nI p) (ha : ai m (r + 6) q = (216 : Int32)) (hb : p < n) (hn : fi m 8 c = nI n) (h8 : n ≤ 8)
    (e1 : Q none (wfi m 105 (ht c p) (2 : Int32))) :
    WPM G (d + 5) (0, 0) μX8_act [.ref r, .int (nI q), .ref c] m Q := by
  refine WPM.of pX8 (Nat.le_of_ble_eq_true rfl) rfl ?_
  refine wp_aload_n dX8_act_0 rfl ?_
  refine wp_getr (r + 7) dX8_act_1 fX8_30 (kr0 hF hr) (hF.2 _ _) (rra 7 (isK_le (kr0 hF hr)) (fun _ => rfl)) ?_
  refine wp_iload_n dX8_act_4 rfl ?_
  refine wp_ialdk (n := 12) q (nI p) dX8_act_5 (kr hF hr 7 (by decide)) (lr hr 7 (by decide) (by decide)) (vin (by omega) (by decide)) (nIc (by omega)) hp ?_
  refine wp_istore_n dX8_act_6 (by decide) rfl ?_
  refine wp_aload_n dX8_act_7 rfl ?_
  refine wp_getr (r + 6) dX8_act_8 fX8_27 (kr0 hF hr) (hF.2 _ _) (rra 6 (isK_le (kr0 hF hr)) (fun _ => rfl)) ?_
  refine wp_iload_n dX8_act_11 rfl ?_
  refine wp_ialdk (n := 12) q (216 : Int32) dX8_act_12 (kr hF hr 6 (by decide)) (lr hr 6 (by decide) (by decide)) (vin (by omega) (by decide)) (nIc (by omega)) ha ?_
  refine wp_istore dX8_act_13 (by decide) rfl ?_
  refine wp_iload dX8_act_15 rfl ?_
  refine wp_sipush (214 : Int32) dX8_act_17 (by decide) ?_
  refine wp_icmp_ne 72 dX8_act_20 (by decide) (fun _ => ?_) (fun q => absurd q (by decide))
  refine wp_iload dX8_act_72 rfl ?_
  refine wp_sipush (218 : Int32) dX8_act_74 (by decide) ?_
  refine wp_icmp_eq 88 dX8_act_77 (by decide) (fun q => absurd q (by decide)) (fun _ => ?_)
  refine wp_iload dX8_act_80 rfl ?_
  refine wp_sipush (219 : Int32) dX8_act_82 (by decide) ?_
  refine wp_icmp_ne 121 dX8_act_85 (by decide) (fun _ => ?_) (fun q => absurd q (by decide))
  refine wp_aload_n dX8_act_121 rfl ?_
  refine wp_iload_n dX8_act_122 rfl ?_
  refine wp_callV (As := [.int (nI p)]) (S := []) (b' := (0, 0)) (b := (0, 0)) dX8_act_123 MX8_88 (kc0 hF hc) rfl rfl rfl rfl (Nat.le_of_ble_eq_true rfl) ?_
  refine WPM.of pX0 (Nat.le_of_ble_eq_true rfl) rfl ?_
  refine wp_iload_n dX0_hasHeater_0 rfl ?_
  refine wp_if_lt 16 dX0_hasHeater_1 (by decide) (fun q => absurd q (nI_pos (by omega))) (fun _ => ?_)
  refine wp_iload_n dX0_hasHeater_4 rfl ?_
  refine wp_aload_n dX0_hasHeater_5 rfl ?_
  refine wp_geti (nI n) dX0_hasHeater_6 fX0_94 (Or.inl rfl) (kc0 hF hc) hn ?_
  refine wp_icmp_ge 16 dX0_hasHeater_9 (by decide) (fun q => absurd (nlt_ (a := p) (b := n) hb (by omega)) q) (fun _ => ?_)
  refine wp_iconst (1 : Int32) dX0_hasHeater_12 (by decide) ?_
  refine wp_goto 17 dX0_hasHeater_13 (by decide) ?_
  refine wp_zret dX0_hasHeater_17 rfl rfl ?_
  show WP G (d + 5) (0, 0) μX8_act 126 [.ref r, .int (nI q), .ref c, .int (nI p), .int (216 : Int32), lvU, lvU] [.int (1 : Int32)] m _
  refine wp_if_eq 163 dX8_act_126 (by decide) (fun q => absurd q (by decide)) (fun _ => ?_)
  refine wp_aload_n dX8_act_129 rfl ?_
  refine wp_getr (c + 4) dX8_act_130 fX8_91 (kc0 hF hc) (hF.2 _ _) (rra 4 (isK_le (kc0 hF hc)) (fun _ => rfl)) ?_
  refine wp_iload_n dX8_act_133 rfl ?_
  refine wp_raldk (n := 8) p (ht c p) dX8_act_134 (kc hF hc 4 (by decide)) (by decide) (by decide) (lc hc 4 (by decide)) (vin (by omega) (by decide)) (nIc (by omega)) (hF.2 _ _) (rht hF hc) ?_
  refine wp_iload dX8_act_135 rfl ?_
  refine wp_sipush (215 : Int32) dX8_act_137 (by decide) ?_
  refine wp_icmp_ne 147 dX8_act_140 (by decide) (fun _ => ?_) (fun q => absurd q (by decide))
  refine wp_iload dX8_act_147 rfl ?_
  refine wp_sipush (216 : Int32) dX8_act_149 (by decide) ?_
  refine wp_icmp_ne 159 dX8_act_152 (by decide) (fun q => absurd (by decide) q) (fun _ => ?_)
  refine wp_iconst (2 : Int32) dX8_act_155 (by decide) ?_
  refine wp_goto 160 dX8_act_156 (by decide) ?_
  refine wp_puti dX8_act_160 pX8_95 (kht hF hc (by omega)) ?_
  have hF1 := Full_wfi 105 (ht c p) (2 : Int32) hF
  exact wp_vret dX8_act_163 rfl (e1)

theorem sC_act3 {G : Cx} {d : Nat} {m : Mm} {Q : Option Value → Mm → Prop} {c r : Nat} {q p n i e : Nat} (hF : Full G m) (hc : IsC G c) (hr : IsR G r) (hq : q < 12) (hp : ai m (r + 7) q = nI p) (ha : ai m (r + 6) q = (218 : Int32)) (hb : p < n) (hn : fi m 7 c = nI n) (h6 : n ≤ 6)
    (e1 : Q none (wfi m 306 (lv c p) (1 : Int32))) :
    WPM G (d + 5) (0, 0) μX8_act [.ref r, .int (nI q), .ref c] m Q := by
  refine WPM.of pX8 (Nat.le_of_ble_eq_true rfl) rfl ?_
  refine wp_aload_n dX8_act_0 rfl ?_
  refine wp_getr (r + 7) dX8_act_1 fX8_30 (kr0 hF hr) (hF.2 _ _) (rra 7 (isK_le (kr0 hF hr)) (fun _ => rfl)) ?_
  refine wp_iload_n dX8_act_4 rfl ?_
  refine wp_ialdk (n := 12) q (nI p) dX8_act_5 (kr hF hr 7 (by decide)) (lr hr 7 (by decide) (by decide)) (vin (by omega) (by decide)) (nIc (by omega)) hp ?_
  refine wp_istore_n dX8_act_6 (by decide) rfl ?_
  refine wp_aload_n dX8_act_7 rfl ?_
  refine wp_getr (r + 6) dX8_act_8 fX8_27 (kr0 hF hr) (hF.2 _ _) (rra 6 (isK_le (kr0 hF hr)) (fun _ => rfl)) ?_
  refine wp_iload_n dX8_act_11 rfl ?_
  refine wp_ialdk (n := 12) q (218 : Int32) dX8_act_12 (kr hF hr 6 (by decide)) (lr hr 6 (by decide) (by decide)) (vin (by omega) (by decide)) (nIc (by omega)) ha ?_
  refine wp_istore dX8_act_13 (by decide) rfl ?_
  refine wp_iload dX8_act_15 rfl ?_
  refine wp_sipush (214 : Int32) dX8_act_17 (by decide) ?_
  refine wp_icmp_ne 72 dX8_act_20 (by decide) (fun _ => ?_) (fun q => absurd q (by decide))
  refine wp_iload dX8_act_72 rfl ?_
  refine wp_sipush (218 : Int32) dX8_act_74 (by decide) ?_
  refine wp_icmp_eq 88 dX8_act_77 (by decide) (fun _ => ?_) (fun q => absurd (by decide) q)
  refine wp_aload_n dX8_act_88 rfl ?_
  refine wp_iload_n dX8_act_89 rfl ?_
  refine wp_callV (As := [.int (nI p)]) (S := []) (b' := (0, 0)) (b := (0, 0)) dX8_act_90 MX8_75 (kc0 hF hc) rfl rfl rfl rfl (Nat.le_of_ble_eq_true rfl) ?_
  refine WPM.of pX0 (Nat.le_of_ble_eq_true rfl) rfl ?_
  refine wp_iload_n dX0_hasLouvre_0 rfl ?_
  refine wp_if_lt 16 dX0_hasLouvre_1 (by decide) (fun q => absurd q (nI_pos (by omega))) (fun _ => ?_)
  refine wp_iload_n dX0_hasLouvre_4 rfl ?_
  refine wp_aload_n dX0_hasLouvre_5 rfl ?_
  refine wp_geti (nI n) dX0_hasLouvre_6 fX0_88 (Or.inl rfl) (kc0 hF hc) hn ?_
  refine wp_icmp_ge 16 dX0_hasLouvre_9 (by decide) (fun q => absurd (nlt_ (a := p) (b := n) hb (by omega)) q) (fun _ => ?_)
  refine wp_iconst (1 : Int32) dX0_hasLouvre_12 (by decide) ?_
  refine wp_goto 17 dX0_hasLouvre_13 (by decide) ?_
  refine wp_zret dX0_hasLouvre_17 rfl rfl ?_
  show WP G (d + 5) (0, 0) μX8_act 93 [.ref r, .int (nI q), .ref c, .int (nI p), .int (218 : Int32), lvU, lvU] [.int (1 : Int32)] m _
  refine wp_if_eq 163 dX8_act_93 (by decide) (fun q => absurd q (by decide)) (fun _ => ?_)
  refine wp_aload_n dX8_act_96 rfl ?_
  refine wp_getr (c + 3) dX8_act_97 fX8_78 (kc0 hF hc) (hF.2 _ _) (rra 3 (isK_le (kc0 hF hc)) (fun _ => rfl)) ?_
  refine wp_iload_n dX8_act_100 rfl ?_
  refine wp_raldk (n := 6) p (lv c p) dX8_act_101 (kc hF hc 3 (by decide)) (by decide) (by decide) (lc hc 3 (by decide)) (vin (by omega) (by decide)) (nIc (by omega)) (hF.2 _ _) (rlv hF hc) ?_
  refine wp_iload dX8_act_102 rfl ?_
  refine wp_sipush (218 : Int32) dX8_act_104 (by decide) ?_
  refine wp_icmp_ne 114 dX8_act_107 (by decide) (fun q => absurd (by decide) q) (fun _ => ?_)
  refine wp_iconst (1 : Int32) dX8_act_110 (by decide) ?_
  refine wp_goto 115 dX8_act_111 (by decide) ?_
  refine wp_putz dX8_act_115 pX8_82 (klv hF hc (by omega)) (Or.inr rfl) ?_
  have hF1 := Full_wfi 306 (lv c p) (1 : Int32) hF
  refine wp_goto 163 dX8_act_118 (by decide) ?_
  exact wp_vret dX8_act_163 rfl (e1)

theorem sC_act4 {G : Cx} {d : Nat} {m : Mm} {Q : Option Value → Mm → Prop} {c r : Nat} {q p n i e : Nat} (hF : Full G m) (hc : IsC G c) (hr : IsR G r) (hq : q < 12) (hp : ai m (r + 7) q = nI p) (ha : ai m (r + 6) q = (219 : Int32)) (hb : p < n) (hn : fi m 7 c = nI n) (h6 : n ≤ 6)
    (e1 : Q none (wfi m 306 (lv c p) (0 : Int32))) :
    WPM G (d + 5) (0, 0) μX8_act [.ref r, .int (nI q), .ref c] m Q := by
  refine WPM.of pX8 (Nat.le_of_ble_eq_true rfl) rfl ?_
  refine wp_aload_n dX8_act_0 rfl ?_
  refine wp_getr (r + 7) dX8_act_1 fX8_30 (kr0 hF hr) (hF.2 _ _) (rra 7 (isK_le (kr0 hF hr)) (fun _ => rfl)) ?_
  refine wp_iload_n dX8_act_4 rfl ?_
  refine wp_ialdk (n := 12) q (nI p) dX8_act_5 (kr hF hr 7 (by decide)) (lr hr 7 (by decide) (by decide)) (vin (by omega) (by decide)) (nIc (by omega)) hp ?_
  refine wp_istore_n dX8_act_6 (by decide) rfl ?_
  refine wp_aload_n dX8_act_7 rfl ?_
  refine wp_getr (r + 6) dX8_act_8 fX8_27 (kr0 hF hr) (hF.2 _ _) (rra 6 (isK_le (kr0 hF hr)) (fun _ => rfl)) ?_
  refine wp_iload_n dX8_act_11 rfl ?_
  refine wp_ialdk (n := 12) q (219 : Int32) dX8_act_12 (kr hF hr 6 (by decide)) (lr hr 6 (by decide) (by decide)) (vin (by omega) (by decide)) (nIc (by omega)) ha ?_
  refine wp_istore dX8_act_13 (by decide) rfl ?_
  refine wp_iload dX8_act_15 rfl ?_
  refine wp_sipush (214 : Int32) dX8_act_17 (by decide) ?_
  refine wp_icmp_ne 72 dX8_act_20 (by decide) (fun _ => ?_) (fun q => absurd q (by decide))
  refine wp_iload dX8_act_72 rfl ?_
  refine wp_sipush (218 : Int32) dX8_act_74 (by decide) ?_
  refine wp_icmp_eq 88 dX8_act_77 (by decide) (fun q => absurd q (by decide)) (fun _ => ?_)
  refine wp_iload dX8_act_80 rfl ?_
  refine wp_sipush (219 : Int32) dX8_act_82 (by decide) ?_
  refine wp_icmp_ne 121 dX8_act_85 (by decide) (fun q => absurd (by decide) q) (fun _ => ?_)
  refine wp_aload_n dX8_act_88 rfl ?_
  refine wp_iload_n dX8_act_89 rfl ?_
  refine wp_callV (As := [.int (nI p)]) (S := []) (b' := (0, 0)) (b := (0, 0)) dX8_act_90 MX8_75 (kc0 hF hc) rfl rfl rfl rfl (Nat.le_of_ble_eq_true rfl) ?_
  refine WPM.of pX0 (Nat.le_of_ble_eq_true rfl) rfl ?_
  refine wp_iload_n dX0_hasLouvre_0 rfl ?_
  refine wp_if_lt 16 dX0_hasLouvre_1 (by decide) (fun q => absurd q (nI_pos (by omega))) (fun _ => ?_)
  refine wp_iload_n dX0_hasLouvre_4 rfl ?_
  refine wp_aload_n dX0_hasLouvre_5 rfl ?_
  refine wp_geti (nI n) dX0_hasLouvre_6 fX0_88 (Or.inl rfl) (kc0 hF hc) hn ?_
  refine wp_icmp_ge 16 dX0_hasLouvre_9 (by decide) (fun q => absurd (nlt_ (a := p) (b := n) hb (by omega)) q) (fun _ => ?_)
  refine wp_iconst (1 : Int32) dX0_hasLouvre_12 (by decide) ?_
  refine wp_goto 17 dX0_hasLouvre_13 (by decide) ?_
  refine wp_zret dX0_hasLouvre_17 rfl rfl ?_
  show WP G (d + 5) (0, 0) μX8_act 93 [.ref r, .int (nI q), .ref c, .int (nI p), .int (219 : Int32), lvU, lvU] [.int (1 : Int32)] m _
  refine wp_if_eq 163 dX8_act_93 (by decide) (fun q => absurd q (by decide)) (fun _ => ?_)
  refine wp_aload_n dX8_act_96 rfl ?_
  refine wp_getr (c + 3) dX8_act_97 fX8_78 (kc0 hF hc) (hF.2 _ _) (rra 3 (isK_le (kc0 hF hc)) (fun _ => rfl)) ?_
  refine wp_iload_n dX8_act_100 rfl ?_
  refine wp_raldk (n := 6) p (lv c p) dX8_act_101 (kc hF hc 3 (by decide)) (by decide) (by decide) (lc hc 3 (by decide)) (vin (by omega) (by decide)) (nIc (by omega)) (hF.2 _ _) (rlv hF hc) ?_
  refine wp_iload dX8_act_102 rfl ?_
  refine wp_sipush (218 : Int32) dX8_act_104 (by decide) ?_
  refine wp_icmp_ne 114 dX8_act_107 (by decide) (fun _ => ?_) (fun q => absurd q (by decide))
  refine wp_iconst (0 : Int32) dX8_act_114 (by decide) ?_
  refine wp_putz dX8_act_115 pX8_82 (klv hF hc (by omega)) (Or.inl rfl) ?_
  have hF1 := Full_wfi 306 (lv c p) (0 : Int32) hF
  refine wp_goto 163 dX8_act_118 (by decide) ?_
  exact wp_vret dX8_act_163 rfl (e1)

theorem sC_act5 {G : Cx} {d : Nat} {m : Mm} {Q : Option Value → Mm → Prop} {c r : Nat} {q p n i e : Nat} (hF : Full G m) (hc : IsC G c) (hr : IsR G r) (hq : q < 12) (hp : ai m (r + 7) q = nI p) (ha : ai m (r + 6) q = (214 : Int32)) (hb : p < n) (hn : fi m 5 c = nI n) (h12 : n ≤ 12) (h1 : ai m (r + 4) q = nI i) (h2 : ai m (r + 5) q = nI e)
    (e1 : WPM G (d + 4) (0, 0) μX8_evaluate [.ref r, .int (nI i), .int (nI e), .ref c] m (fun r' m' => WP G (d + 5) (0, 0) μX8_act 48 [lvU, lvU, .ref c, .int (nI p), lvU, lvU, lvU] (r'.toList ++ []) m' Q)) :
    WPM G (d + 5) (0, 0) μX8_act [.ref r, .int (nI q), .ref c] m Q := by
  refine WPM.of pX8 (Nat.le_of_ble_eq_true rfl) rfl ?_
  refine wp_aload_n dX8_act_0 rfl ?_
  refine wp_getr (r + 7) dX8_act_1 fX8_30 (kr0 hF hr) (hF.2 _ _) (rra 7 (isK_le (kr0 hF hr)) (fun _ => rfl)) ?_
  refine wp_iload_n dX8_act_4 rfl ?_
  refine wp_ialdk (n := 12) q (nI p) dX8_act_5 (kr hF hr 7 (by decide)) (lr hr 7 (by decide) (by decide)) (vin (by omega) (by decide)) (nIc (by omega)) hp ?_
  refine wp_istore_n dX8_act_6 (by decide) rfl ?_
  refine wp_aload_n dX8_act_7 rfl ?_
  refine wp_getr (r + 6) dX8_act_8 fX8_27 (kr0 hF hr) (hF.2 _ _) (rra 6 (isK_le (kr0 hF hr)) (fun _ => rfl)) ?_
  refine wp_iload_n dX8_act_11 rfl ?_
  refine wp_ialdk (n := 12) q (214 : Int32) dX8_act_12 (kr hF hr 6 (by decide)) (lr hr 6 (by decide) (by decide)) (vin (by omega) (by decide)) (nIc (by omega)) ha ?_
  refine wp_istore dX8_act_13 (by decide) rfl ?_
  refine wp_iload dX8_act_15 rfl ?_
  refine wp_sipush (214 : Int32) dX8_act_17 (by decide) ?_
  refine wp_icmp_ne 72 dX8_act_20 (by decide) (fun q => absurd (by decide) q) (fun _ => ?_)
  refine wp_aload_n dX8_act_23 rfl ?_
  refine wp_iload_n dX8_act_24 rfl ?_
  refine wp_callV (As := [.int (nI p)]) (S := []) (b' := (0, 0)) (b := (0, 0)) dX8_act_25 MX8_54 (kc0 hF hc) rfl rfl rfl rfl (Nat.le_of_ble_eq_true rfl) ?_
  refine WPM.of pX0 (Nat.le_of_ble_eq_true rfl) rfl ?_
  refine wp_iload_n dX0_hasNode_0 rfl ?_
  refine wp_if_lt 16 dX0_hasNode_1 (by decide) (fun q => absurd q (nI_pos (by omega))) (fun _ => ?_)
  refine wp_iload_n dX0_hasNode_4 rfl ?_
  refine wp_aload_n dX0_hasNode_5 rfl ?_
  refine wp_geti (nI n) dX0_hasNode_6 fX0_75 (Or.inl rfl) (kc0 hF hc) hn ?_
  refine wp_icmp_ge 16 dX0_hasNode_9 (by decide) (fun q => absurd (nlt_ (a := p) (b := n) hb (by omega)) q) (fun _ => ?_)
  refine wp_iconst (1 : Int32) dX0_hasNode_12 (by decide) ?_
  refine wp_goto 17 dX0_hasNode_13 (by decide) ?_
  refine wp_zret dX0_hasNode_17 rfl rfl ?_
  show WP G (d + 5) (0, 0) μX8_act 28 [.ref r, .int (nI q), .ref c, .int (nI p), .int (214 : Int32), lvU, lvU] [.int (1 : Int32)] m _
  refine wp_if_eq 163 dX8_act_28 (by decide) (fun q => absurd q (by decide)) (fun _ => ?_)
  refine wp_aload_n dX8_act_31 rfl ?_
  refine wp_aload_n dX8_act_32 rfl ?_
  refine wp_getr (r + 4) dX8_act_33 fX8_21 (kr0 hF hr) (hF.2 _ _) (rra 4 (isK_le (kr0 hF hr)) (fun _ => rfl)) ?_
  refine wp_iload_n dX8_act_36 rfl ?_
  refine wp_ialdk (n := 12) q (nI i) dX8_act_37 (kr hF hr 4 (by decide)) (lr hr 4 (by decide) (by decide)) (vin (by omega) (by decide)) (nIc (by omega)) h1 ?_
  refine wp_aload_n dX8_act_38 rfl ?_
  refine wp_getr (r + 5) dX8_act_39 fX8_24 (kr0 hF hr) (hF.2 _ _) (rra 5 (isK_le (kr0 hF hr)) (fun _ => rfl)) ?_
  refine wp_iload_n dX8_act_42 rfl ?_
  refine wp_ialdk (n := 12) q (nI e) dX8_act_43 (kr hF hr 5 (by decide)) (lr hr 5 (by decide) (by decide)) (vin (by omega) (by decide)) (nIc (by omega)) h2 ?_
  refine wp_aload_n dX8_act_44 rfl ?_
  refine wp_forget [lvU, lvU, .ref c, .int (nI p), lvU, lvU, lvU] ⟨Or.inr rfl, Or.inr rfl, Or.inl rfl, Or.inl rfl, Or.inr rfl, Or.inr rfl, Or.inr rfl, trivial⟩ ?_
  refine wp_callV (As := [.int (nI i), .int (nI e), .ref c]) (S := []) (b' := (0, 0)) (b := (0, 0)) dX8_act_45 MX8_50 (kr0 hF hr) rfl rfl rfl rfl (Nat.le_of_ble_eq_true rfl) ?_
  exact e1

theorem bC_act5 {G : Cx} {d : Nat} {m : Mm} {Q : Option Value → Mm → Prop} {c r p : Nat} {z : Int64} (hF : Full G m) (hc : IsC G c) (hr : IsR G r) (hp : p < 12)
    (e1 : Q none (wfi m 404 (nd c p) (Int64.toInt32 (limF z (0 : Int64) (1000000 : Int64))))) :
    WP G (d + 5) (0, 0) μX8_act 48 [lvU, lvU, .ref c, .int (nI p), lvU, lvU, lvU] [.long z] m Q := by
  refine wp_lstore dX8_act_48 (by decide) rfl ?_
  refine wp_aload_n dX8_act_50 rfl ?_
  refine wp_getr (c + 1) dX8_act_51 fX8_60 (kc0 hF hc) (hF.2 _ _) (rra 1 (isK_le (kc0 hF hc)) (fun _ => rfl)) ?_
  refine wp_iload_n dX8_act_54 rfl ?_
  refine wp_raldk (n := 12) p (nd c p) dX8_act_55 (kc hF hc 1 (by decide)) (by decide) (by decide) (lc hc 1 (by decide)) (vin (by omega) (by decide)) (nIc (by omega)) (hF.2 _ _) (rnd hF hc) ?_
  refine wp_lload dX8_act_56 rfl ?_
  refine wp_lconst (0 : Int64) dX8_act_58 (by decide) ?_
  refine wp_ldc2 dX8_act_59 kX8_64 ?_
  refine wp_limFN dX8_act_62 MX8_66 (Nat.le_of_ble_eq_true rfl) ?_
  refine wp_l2i dX8_act_65 ?_
  refine wp_puti dX8_act_66 pX8_70 (knd hF hc (by omega)) ?_
  have hF1 := Full_wfi 404 (nd c p) (Int64.toInt32 (limF z (0 : Int64) (1000000 : Int64))) hF
  refine wp_goto 163 dX8_act_69 (by decide) ?_
  exact wp_vret dX8_act_163 rfl (e1)

theorem eC_st {G : Cx} {d : Nat} {m : Mm} {Q : Option Value → Mm → Prop} {c : Nat} (hF : Full G m) (hc : IsC G c) 
    (e1 : WP G (d + 6) (0, 0) μX0_step 2 [.ref c, .int (0 : Int32)] [] m Q) :
    WPM G (d + 6) (0, 0) μX0_step [.ref c] m Q := by
  refine WPM.of pX0 (Nat.le_of_ble_eq_true rfl) rfl ?_
  refine wp_iconst (0 : Int32) dX0_step_0 (by decide) ?_
  refine wp_istore_n dX0_step_1 (by decide) rfl ?_
  refine wp_forget [.ref c, .int (0 : Int32)] ⟨Or.inl rfl, Or.inl rfl, trivial⟩ ?_
  exact e1

theorem bC_st {G : Cx} {d : Nat} {m : Mm} {Q : Option Value → Mm → Prop} {c q n : Nat} (hF : Full G m) (hc : IsC G c) (hn : fi m 808 (c + 10) = nI n) (h12 : n ≤ 12) (hq : q ≤ n)
    (e1 : ¬ q < n → WPM G (d + 5) (0, 0) μX0_moveLouvres [.ref c] m (fun r' m' => WP G (d + 6) (0, 0) μX0_step 44 [.ref c, lvU] (r'.toList ++ []) m' Q))
    (e2 : q < n → WPM G (d + 5) (0, 0) μX8_isDue [.ref (c + 10), .int (nI q), .ref c] m (fun r' m' => WP G (d + 6) (0, 0) μX0_step 22 [.ref c, .int (nI q)] (r'.toList ++ []) m' Q)) :
    WP G (d + 6) (0, 0) μX0_step 2 [.ref c, .int (nI q)] [] m Q := by
  refine wp_iload_n dX0_step_2 rfl ?_
  refine wp_aload_n dX0_step_3 rfl ?_
  refine wp_getr (c + 10) dX0_step_4 fX0_63 (kc0 hF hc) (hF.2 _ _) (rra 10 (isK_le (kc0 hF hc)) (fun _ => rfl)) ?_
  refine wp_geti (nI n) dX0_step_7 fX0_184 (Or.inl rfl) (kr0 hF (isRc hc)) hn ?_
  refine wp_icmp_ge 40 dX0_step_10 (by decide) (fun q1 => ?_) (fun q2 => ?_)
  · have hp3 : ¬ q < n := (fun z => q1 (nlt_ (b := n) z (by omega)))
    refine wp_aload_n dX0_step_40 rfl ?_
    refine wp_forget [.ref c, lvU] ⟨Or.inl rfl, Or.inr rfl, trivial⟩ ?_
    refine wp_callV (As := []) (S := []) (b' := (0, 0)) (b := (0, 0)) dX0_step_41 MX0_195 (kc0 hF hc) rfl rfl rfl rfl (Nat.le_of_ble_eq_true rfl) ?_
    exact e1 hp3
  · have hp4 : q < n := (nlt q2 (by omega) (by omega))
    refine wp_aload_n dX0_step_13 rfl ?_
    refine wp_getr (c + 10) dX0_step_14 fX0_63 (kc0 hF hc) (hF.2 _ _) (rra 10 (isK_le (kc0 hF hc)) (fun _ => rfl)) ?_
    refine wp_iload_n dX0_step_17 rfl ?_
    refine wp_aload_n dX0_step_18 rfl ?_
    refine wp_callV (As := [.int (nI q), .ref c]) (S := []) (b' := (0, 0)) (b := (0, 0)) dX0_step_19 MX0_187 (kr0 hF (isRc hc)) rfl rfl rfl rfl (Nat.le_of_ble_eq_true rfl) ?_
    exact e2 hp4

theorem bC_st1 {G : Cx} {d : Nat} {m : Mm} {Q : Option Value → Mm → Prop} {c q : Nat} {r : Int32} (hF : Full G m) (hc : IsC G c) 
    (e1 : r = 0 → WP G (d + 6) (0, 0) μX0_step 2 [.ref c, .int (nI (q + 1))] [] m Q)
    (e2 : ¬ r = 0 → WPM G (d + 5) (0, 0) μX8_act [.ref (c + 10), .int (nI q), .ref c] m (fun r' m' => WP G (d + 6) (0, 0) μX0_step 34 [.ref c, .int (nI q)] (r'.toList ++ []) m' Q)) :
    WP G (d + 6) (0, 0) μX0_step 22 [.ref c, .int (nI q)] [.int r] m Q := by
  refine wp_if_eq 34 dX0_step_22 (by decide) (fun q1 => ?_) (fun q2 => ?_)
  · skip
    refine wp_iinc (nI (q + 1)) dX0_step_34 rfl (by decide) (nadd (a := q) (b := 1) (by omega)) rfl ?_
    refine wp_goto 2 dX0_step_37 (by decide) ?_
    refine wp_forget [.ref c, .int (nI (q + 1))] ⟨Or.inl rfl, Or.inl rfl, trivial⟩ ?_
    exact e1 q1
  · skip
    refine wp_aload_n dX0_step_25 rfl ?_
    refine wp_getr (c + 10) dX0_step_26 fX0_63 (kc0 hF hc) (hF.2 _ _) (rra 10 (isK_le (kc0 hF hc)) (fun _ => rfl)) ?_
    refine wp_iload_n dX0_step_29 rfl ?_
    refine wp_aload_n dX0_step_30 rfl ?_
    refine wp_callV (As := [.int (nI q), .ref c]) (S := []) (b' := (0, 0)) (b := (0, 0)) dX0_step_31 MX0_191 (kr0 hF (isRc hc)) rfl rfl rfl rfl (Nat.le_of_ble_eq_true rfl) ?_
    exact e2 q2

theorem bC_st2 {G : Cx} {d : Nat} {m : Mm} {Q : Option Value → Mm → Prop} {c q : Nat} (hF : Full G m) (hc : IsC G c) 
    (e1 : WP G (d + 6) (0, 0) μX0_step 2 [.ref c, .int (nI (q + 1))] [] m Q) :
    WP G (d + 6) (0, 0) μX0_step 34 [.ref c, .int (nI q)] [] m Q := by
  refine wp_iinc (nI (q + 1)) dX0_step_34 rfl (by decide) (nadd (a := q) (b := 1) (by omega)) rfl ?_
  refine wp_goto 2 dX0_step_37 (by decide) ?_
  refine wp_forget [.ref c, .int (nI (q + 1))] ⟨Or.inl rfl, Or.inl rfl, trivial⟩ ?_
  exact e1

theorem bC_st3 {G : Cx} {d : Nat} {m : Mm} {Q : Option Value → Mm → Prop} {c : Nat} (hF : Full G m) (hc : IsC G c) 
    (e1 : WPM G (d + 5) (0, 0) μX0_decideWishes [.ref c] m (fun r' m' => WP G (d + 6) (0, 0) μX0_step 48 [.ref c, lvU] (r'.toList ++ []) m' Q)) :
    WP G (d + 6) (0, 0) μX0_step 44 [.ref c, lvU] [] m Q := by
  refine wp_aload_n dX0_step_44 rfl ?_
  refine wp_callV (As := []) (S := []) (b' := (0, 0)) (b := (0, 0)) dX0_step_45 MX0_198 (kc0 hF hc) rfl rfl rfl rfl (Nat.le_of_ble_eq_true rfl) ?_
  exact e1

theorem bC_st4 {G : Cx} {d : Nat} {m : Mm} {Q : Option Value → Mm → Prop} {c : Nat} (hF : Full G m) (hc : IsC G c) 
    (e1 : WPM G (d + 5) (0, 0) μX0_sharePower [.ref c] m (fun r' m' => WP G (d + 6) (0, 0) μX0_step 52 [.ref c, lvU] (r'.toList ++ []) m' Q)) :
    WP G (d + 6) (0, 0) μX0_step 48 [.ref c, lvU] [] m Q := by
  refine wp_aload_n dX0_step_48 rfl ?_
  refine wp_callV (As := []) (S := []) (b' := (0, 0)) (b := (0, 0)) dX0_step_49 MX0_201 (kc0 hF hc) rfl rfl rfl rfl (Nat.le_of_ble_eq_true rfl) ?_
  exact e1

theorem bC_st5 {G : Cx} {d : Nat} {m : Mm} {Q : Option Value → Mm → Prop} {c : Nat} (hF : Full G m) (hc : IsC G c) 
    (e1 : WPM G (d + 5) (0, 0) μX0_balanceHeat [.ref c] m (fun r' m' => WP G (d + 6) (0, 0) μX0_step 56 [.ref c, lvU] (r'.toList ++ []) m' Q)) :
    WP G (d + 6) (0, 0) μX0_step 52 [.ref c, lvU] [] m Q := by
  refine wp_aload_n dX0_step_52 rfl ?_
  refine wp_callV (As := []) (S := []) (b' := (0, 0)) (b := (0, 0)) dX0_step_53 MX0_204 (kc0 hF hc) rfl rfl rfl rfl (Nat.le_of_ble_eq_true rfl) ?_
  exact e1

theorem bC_st6 {G : Cx} {d : Nat} {m : Mm} {Q : Option Value → Mm → Prop} {c : Nat} (hF : Full G m) (hc : IsC G c) 
    (e1 : WPM G (d + 5) (0, 0) μX0_warmNodes [.ref c] m (fun r' m' => WP G (d + 6) (0, 0) μX0_step 60 [.ref c, lvU] (r'.toList ++ []) m' Q)) :
    WP G (d + 6) (0, 0) μX0_step 56 [.ref c, lvU] [] m Q := by
  refine wp_aload_n dX0_step_56 rfl ?_
  refine wp_callV (As := []) (S := []) (b' := (0, 0)) (b := (0, 0)) dX0_step_57 MX0_207 (kc0 hF hc) rfl rfl rfl rfl (Nat.le_of_ble_eq_true rfl) ?_
  exact e1

theorem bC_st7 {G : Cx} {d : Nat} {m : Mm} {Q : Option Value → Mm → Prop} {c : Nat} (hF : Full G m) (hc : IsC G c) 
    (e1 : WPM G (d + 5) (0, 0) μX0_recordTemperatures [.ref c] (wfi m 14 c ((fi m 14 c) + (fi m 13 c))) (fun r' m' => WP G (d + 6) (0, 0) μX0_step 77 [lvU, lvU] (r'.toList ++ []) m' Q)) :
    WP G (d + 6) (0, 0) μX0_step 60 [.ref c, lvU] [] m Q := by
  refine wp_aload_n dX0_step_60 rfl ?_
  refine wp_dup dX0_step_61 rfl ?_
  refine wp_geti (fi m 14 c) dX0_step_62 fX0_112 (Or.inl rfl) (kc0 hF hc) rfl ?_
  refine wp_aload_n dX0_step_65 rfl ?_
  refine wp_geti (fi m 13 c) dX0_step_66 fX0_67 (Or.inl rfl) (kc0 hF hc) rfl ?_
  refine wp_iaddv ((fi m 14 c) + (fi m 13 c)) dX0_step_69 rfl ?_
  refine wp_puti dX0_step_70 pX0_112 (kc0 hF hc) ?_
  have hF1 := Full_wfi 14 c ((fi m 14 c) + (fi m 13 c)) hF
  refine wp_aload_n dX0_step_73 rfl ?_
  refine wp_forget [lvU, lvU] ⟨Or.inr rfl, Or.inr rfl, trivial⟩ ?_
  refine wp_callV (As := []) (S := []) (b' := (0, 0)) (b := (0, 0)) dX0_step_74 MX0_210 (kc0 hF1 hc) rfl rfl rfl rfl (Nat.le_of_ble_eq_true rfl) ?_
  exact e1

theorem bC_st8 {G : Cx} {d : Nat} {m : Mm} {Q : Option Value → Mm → Prop} {c : Nat} {r : Int32} (hF : Full G m) (hc : IsC G c) 
    (g1 : r = 0 ∨ r = 1)
    (e1 : Q (some (.int r)) m) :
    WP G (d + 6) (0, 0) μX0_step 77 [lvU, lvU] [.int r] m Q := by
  exact wp_zret dX0_step_77 rfl (narz g1) (e1)
