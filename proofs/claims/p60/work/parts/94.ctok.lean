theorem e_le {G : Cx} {d : Nat} {m : Mm} {Q : Option Value → Mm → Prop} {x : Int32} 
    (e1 : x < (97 : Int32) → Q (some (.int (0 : Int32))) m)
    (e2 : ¬ x < (97 : Int32) → (122 : Int32) < x → Q (some (.int (0 : Int32))) m)
    (e3 : ¬ x < (97 : Int32) → ¬ (122 : Int32) < x → Q (some (.int (1 : Int32))) m) :
    WPM G (d + 0) (0, 0) μX7_isLetter [.int x] m Q := by
  refine WPM.of pX7 (Nat.le_of_ble_eq_true rfl) rfl ?_
  refine wp_iload_n dX7_isLetter_0 rfl ?_
  refine wp_bipush (97 : Int32) dX7_isLetter_1 (by decide) ?_
  refine wp_icmp_lt 16 dX7_isLetter_3 (by decide) (fun q1 => ?_) (fun q2 => ?_)
  · skip
    refine wp_iconst (0 : Int32) dX7_isLetter_16 (by decide) ?_
    exact wp_zret dX7_isLetter_17 rfl rfl (e1 q1)
  · skip
    refine wp_iload_n dX7_isLetter_6 rfl ?_
    refine wp_bipush (122 : Int32) dX7_isLetter_7 (by decide) ?_
    refine wp_icmp_gt 16 dX7_isLetter_9 (by decide) (fun q3 => ?_) (fun q4 => ?_)
    · skip
      refine wp_iconst (0 : Int32) dX7_isLetter_16 (by decide) ?_
      exact wp_zret dX7_isLetter_17 rfl rfl (e2 q2 q3)
    · skip
      refine wp_iconst (1 : Int32) dX7_isLetter_12 (by decide) ?_
      refine wp_goto 17 dX7_isLetter_13 (by decide) ?_
      exact wp_zret dX7_isLetter_17 rfl rfl (e3 q2 q4)

theorem e_di {G : Cx} {d : Nat} {m : Mm} {Q : Option Value → Mm → Prop} {x : Int32} 
    (e1 : x < (48 : Int32) → Q (some (.int (0 : Int32))) m)
    (e2 : ¬ x < (48 : Int32) → (57 : Int32) < x → Q (some (.int (0 : Int32))) m)
    (e3 : ¬ x < (48 : Int32) → ¬ (57 : Int32) < x → Q (some (.int (1 : Int32))) m) :
    WPM G (d + 0) (0, 0) μX7_isDigit [.int x] m Q := by
  refine WPM.of pX7 (Nat.le_of_ble_eq_true rfl) rfl ?_
  refine wp_iload_n dX7_isDigit_0 rfl ?_
  refine wp_bipush (48 : Int32) dX7_isDigit_1 (by decide) ?_
  refine wp_icmp_lt 16 dX7_isDigit_3 (by decide) (fun q1 => ?_) (fun q2 => ?_)
  · skip
    refine wp_iconst (0 : Int32) dX7_isDigit_16 (by decide) ?_
    exact wp_zret dX7_isDigit_17 rfl rfl (e1 q1)
  · skip
    refine wp_iload_n dX7_isDigit_6 rfl ?_
    refine wp_bipush (57 : Int32) dX7_isDigit_7 (by decide) ?_
    refine wp_icmp_gt 16 dX7_isDigit_9 (by decide) (fun q3 => ?_) (fun q4 => ?_)
    · skip
      refine wp_iconst (0 : Int32) dX7_isDigit_16 (by decide) ?_
      exact wp_zret dX7_isDigit_17 rfl rfl (e2 q2 q3)
    · skip
      refine wp_iconst (1 : Int32) dX7_isDigit_12 (by decide) ?_
      refine wp_goto 17 dX7_isDigit_13 (by decide) ?_
      exact wp_zret dX7_isDigit_17 rfl rfl (e3 q2 q4)

/-! THE CLASS'S TOKENIZER: blocks; bytes tested -/
def leI (x : Int32) : Int32 := if x < 97 then 0 else if 122 < x then 0 else 1
def diI (x : Int32) : Int32 := if x < 48 then 0 else if 57 < x then 0 else 1
section TROWS
variable {G : Cx} {d : Nat} {b : Nat × Nat} {μ : MI} {pc idx : Nat} {L S : List Value} {m : Mm} {Q : Option Value → Mm → Prop}
theorem M_le {x : Int32} (k : Q (some (.int (leI x))) m) : WPM G d (0, 0) μX7_isLetter [.int x] m Q := by
  have h : WPM G (d + 0) (0, 0) μX7_isLetter [.int x] m Q := by
    refine e_le (fun q => ?_) (fun q r => ?_) (fun q r => ?_)
    all_goals (unfold leI at k; simpa [*] using k)
  exact h
theorem M_di {x : Int32} (k : Q (some (.int (diI x))) m) : WPM G d (0, 0) μX7_isDigit [.int x] m Q := by
  have h : WPM G (d + 0) (0, 0) μX7_isDigit [.int x] m Q := by
    refine e_di (fun q => ?_) (fun q r => ?_) (fun q r => ?_)
    all_goals (unfold diI at k; simpa [*] using k)
  exact h
theorem wp_leIS {x : Int32} (hd : decode μ.2.1 pc = .ok (.invokestatic idx, 3)) (hl : MLs μ.1.cls idx μX7_isLetter 1) (hw : (S.map fun v => v.category).sum ≤ 8) (k : WP G (d + 1) b μ (pc + 3) L (.int (leI x) :: S) m Q) : WP G (d + 1) b μ pc L (.int x :: S) m Q :=
  wp_callS (As := [.int x]) (S := S) (b' := (0, 0)) (b := b) hd hl rfl (b00 b) hw (M_le k)
theorem wp_diIS {x : Int32} (hd : decode μ.2.1 pc = .ok (.invokestatic idx, 3)) (hl : MLs μ.1.cls idx μX7_isDigit 1) (hw : (S.map fun v => v.category).sum ≤ 8) (k : WP G (d + 1) b μ (pc + 3) L (.int (diI x) :: S) m Q) : WP G (d + 1) b μ pc L (.int x :: S) m Q :=
  wp_callS (As := [.int x]) (S := S) (b' := (0, 0)) (b := b) hd hl rfl (b00 b) hw (M_di k)
end TROWS

theorem eC_sb {G : Cx} {d : Nat} {m : Mm} {Q : Option Value → Mm → Prop} {p : Nat} (hF : Full G m) 
    (e1 : WP G (d + 0) (0, 0) μX7_skipBlanks 2 [.ref (gB G + 279), lvU, .int (nI p)] [] m Q) :
    WPM G (d + 0) (0, 0) μX7_skipBlanks [.ref (gB G + 279), .int (nI p)] m Q := by
  refine WPM.of pX7 (Nat.le_of_ble_eq_true rfl) rfl ?_
  refine wp_iload_n dX7_skipBlanks_0 rfl ?_
  refine wp_istore_n dX7_skipBlanks_1 (by decide) rfl ?_
  refine wp_forget [.ref (gB G + 279), lvU, .int (nI p)] ⟨Or.inl rfl, Or.inr rfl, Or.inl rfl, trivial⟩ ?_
  exact e1

theorem bC_sb {G : Cx} {d : Nat} {m : Mm} {Q : Option Value → Mm → Prop} {p n : Nat} (hF : Full G m) (hl : fi m 701 (gB G + 279) = nI n) (hn : n ≤ 500) (hp : p ≤ n) 
    (e1 : ¬ p < n → Q (some (.int (nI p))) m)
    (e2 : p < n → (ai m (gB G + 280) p) = (32 : Int32) → WP G (d + 0) (0, 0) μX7_skipBlanks 2 [.ref (gB G + 279), lvU, .int (nI (p + 1))] [] m Q)
    (e3 : p < n → ¬ (ai m (gB G + 280) p) = (32 : Int32) → ¬ (ai m (gB G + 280) p) = (10 : Int32) → Q (some (.int (nI p))) m)
    (e4 : p < n → ¬ (ai m (gB G + 280) p) = (32 : Int32) → (ai m (gB G + 280) p) = (10 : Int32) → WP G (d + 0) (0, 0) μX7_skipBlanks 2 [.ref (gB G + 279), lvU, .int (nI (p + 1))] [] m Q) :
    WP G (d + 0) (0, 0) μX7_skipBlanks 2 [.ref (gB G + 279), lvU, .int (nI p)] [] m Q := by
  refine wp_iload_n dX7_skipBlanks_2 rfl ?_
  refine wp_aload_n dX7_skipBlanks_3 rfl ?_
  refine wp_geti (nI n) dX7_skipBlanks_4 fX7_94 (Or.inl rfl) (ka hF 279 (by decide)) hl ?_
  refine wp_icmp_ge 38 dX7_skipBlanks_7 (by decide) (fun q1 => ?_) (fun q2 => ?_)
  · have hp3 : ¬ p < n := (fun z => q1 (nlt_ (b := n) z (by omega)))
    refine wp_iload_n dX7_skipBlanks_38 rfl ?_
    exact wp_iret dX7_skipBlanks_39 rfl (e1 hp3)
  · have hp4 : p < n := (nlt q2 (by omega) (by omega))
    refine wp_aload_n dX7_skipBlanks_10 rfl ?_
    refine wp_getr (gB G + 280) dX7_skipBlanks_11 fX7_9 (ka hF 279 (by decide)) (hF.2 _ _) (rra 1 (isK_le (ka hF 279 (by decide))) (fun _ => rfl)) ?_
    refine wp_iload_n dX7_skipBlanks_14 rfl ?_
    refine wp_baldk (n := 500) p (ai m (gB G + 280) p) dX7_skipBlanks_15 (ka hF 280 (by decide)) (la 280) (vin (by omega) (by decide)) (nIc (by omega)) rfl ?_
    refine wp_bipush (32 : Int32) dX7_skipBlanks_16 (by decide) ?_
    refine wp_icmp_eq 32 dX7_skipBlanks_18 (by decide) (fun q5 => ?_) (fun q6 => ?_)
    · skip
      refine wp_iinc (nI (p + 1)) dX7_skipBlanks_32 rfl (by decide) (nadd (a := p) (b := 1) (by omega)) rfl ?_
      refine wp_goto 2 dX7_skipBlanks_35 (by decide) ?_
      refine wp_forget [.ref (gB G + 279), lvU, .int (nI (p + 1))] ⟨Or.inl rfl, Or.inr rfl, Or.inl rfl, trivial⟩ ?_
      exact e2 hp4 q5
    · skip
      refine wp_aload_n dX7_skipBlanks_21 rfl ?_
      refine wp_getr (gB G + 280) dX7_skipBlanks_22 fX7_9 (ka hF 279 (by decide)) (hF.2 _ _) (rra 1 (isK_le (ka hF 279 (by decide))) (fun _ => rfl)) ?_
      refine wp_iload_n dX7_skipBlanks_25 rfl ?_
      refine wp_baldk (n := 500) p (ai m (gB G + 280) p) dX7_skipBlanks_26 (ka hF 280 (by decide)) (la 280) (vin (by omega) (by decide)) (nIc (by omega)) rfl ?_
      refine wp_bipush (10 : Int32) dX7_skipBlanks_27 (by decide) ?_
      refine wp_icmp_ne 38 dX7_skipBlanks_29 (by decide) (fun q7 => ?_) (fun q8 => ?_)
      · skip
        refine wp_iload_n dX7_skipBlanks_38 rfl ?_
        exact wp_iret dX7_skipBlanks_39 rfl (e3 hp4 q6 q7)
      · skip
        refine wp_iinc (nI (p + 1)) dX7_skipBlanks_32 rfl (by decide) (nadd (a := p) (b := 1) (by omega)) rfl ?_
        refine wp_goto 2 dX7_skipBlanks_35 (by decide) ?_
        refine wp_forget [.ref (gB G + 279), lvU, .int (nI (p + 1))] ⟨Or.inl rfl, Or.inr rfl, Or.inl rfl, trivial⟩ ?_
        exact e4 hp4 q6 q8

theorem eC_et {G : Cx} {d : Nat} {m : Mm} {Q : Option Value → Mm → Prop} {p n : Nat} (hF : Full G m) (hl : fi m 701 (gB G + 279) = nI n) (hn : n ≤ 500) (hp : p ≤ n) 
    (e1 : p < n → WP G (d + 1) (0, 0) μX7_endOfToken 14 [.ref (gB G + 279), .int (nI p), .int (nI (p + 1))] [] m Q)
    (e2 : ¬ p < n → Q (some (.int (nI p))) m) :
    WPM G (d + 1) (0, 0) μX7_endOfToken [.ref (gB G + 279), .int (nI p)] m Q := by
  refine WPM.of pX7 (Nat.le_of_ble_eq_true rfl) rfl ?_
  refine wp_iload_n dX7_endOfToken_0 rfl ?_
  refine wp_aload_n dX7_endOfToken_1 rfl ?_
  refine wp_geti (nI n) dX7_endOfToken_2 fX7_94 (Or.inl rfl) (ka hF 279 (by decide)) hl ?_
  refine wp_icmp_lt 10 dX7_endOfToken_5 (by decide) (fun q1 => ?_) (fun q2 => ?_)
  · have hp3 : p < n := (nlt q1 (by omega) (by omega))
    refine wp_iload_n dX7_endOfToken_10 rfl ?_
    refine wp_iconst (1 : Int32) dX7_endOfToken_11 (by decide) ?_
    refine wp_iaddv (nI (p + 1)) dX7_endOfToken_12 (nadd (a := p) (b := 1) (by omega)) ?_
    refine wp_istore_n dX7_endOfToken_13 (by decide) rfl ?_
    refine wp_forget [.ref (gB G + 279), .int (nI p), .int (nI (p + 1))] ⟨Or.inl rfl, Or.inl rfl, Or.inl rfl, trivial⟩ ?_
    exact e1 hp3
  · have hp4 : ¬ p < n := (fun z => q2 (nlt_ (b := n) z (by omega)))
    refine wp_iload_n dX7_endOfToken_8 rfl ?_
    exact wp_iret dX7_endOfToken_9 rfl (e2 hp4)

theorem bC_et {G : Cx} {d : Nat} {m : Mm} {Q : Option Value → Mm → Prop} {p q n : Nat} {x : Int32} (hF : Full G m) (hl : fi m 701 (gB G + 279) = nI n) (hn : n ≤ 500) (hp : p < n) (hq : q ≤ n) (hx : ai m (gB G + 280) p = x) 
    (e1 : ¬ q < n → Q (some (.int (nI q))) m)
    (e2 : q < n → (leI x) = 0 → (diI x) = 0 → Q (some (.int (nI q))) m)
    (e3 : q < n → (leI x) = 0 → ¬ (diI x) = 0 → (diI (ai m (gB G + 280) q)) = 0 → Q (some (.int (nI q))) m)
    (e4 : q < n → (leI x) = 0 → ¬ (diI x) = 0 → ¬ (diI (ai m (gB G + 280) q)) = 0 → WP G (d + 1) (0, 0) μX7_endOfToken 14 [.ref (gB G + 279), .int (nI p), .int (nI (q + 1))] [] m Q)
    (e5 : q < n → ¬ (leI x) = 0 → ¬ (leI (ai m (gB G + 280) q)) = 0 → WP G (d + 1) (0, 0) μX7_endOfToken 14 [.ref (gB G + 279), .int (nI p), .int (nI (q + 1))] [] m Q)
    (e6 : q < n → ¬ (leI x) = 0 → (leI (ai m (gB G + 280) q)) = 0 → (diI x) = 0 → Q (some (.int (nI q))) m)
    (e7 : q < n → ¬ (leI x) = 0 → (leI (ai m (gB G + 280) q)) = 0 → ¬ (diI x) = 0 → (diI (ai m (gB G + 280) q)) = 0 → Q (some (.int (nI q))) m)
    (e8 : q < n → ¬ (leI x) = 0 → (leI (ai m (gB G + 280) q)) = 0 → ¬ (diI x) = 0 → ¬ (diI (ai m (gB G + 280) q)) = 0 → WP G (d + 1) (0, 0) μX7_endOfToken 14 [.ref (gB G + 279), .int (nI p), .int (nI (q + 1))] [] m Q) :
    WP G (d + 1) (0, 0) μX7_endOfToken 14 [.ref (gB G + 279), .int (nI p), .int (nI q)] [] m Q := by
  refine wp_iload_n dX7_endOfToken_14 rfl ?_
  refine wp_aload_n dX7_endOfToken_15 rfl ?_
  refine wp_geti (nI n) dX7_endOfToken_16 fX7_94 (Or.inl rfl) (ka hF 279 (by decide)) hl ?_
  refine wp_icmp_ge 76 dX7_endOfToken_19 (by decide) (fun q1 => ?_) (fun q2 => ?_)
  · have hp3 : ¬ q < n := (fun z => q1 (nlt_ (b := n) z (by omega)))
    refine wp_iload_n dX7_endOfToken_76 rfl ?_
    exact wp_iret dX7_endOfToken_77 rfl (e1 hp3)
  · have hp4 : q < n := (nlt q2 (by omega) (by omega))
    refine wp_aload_n dX7_endOfToken_22 rfl ?_
    refine wp_getr (gB G + 280) dX7_endOfToken_23 fX7_9 (ka hF 279 (by decide)) (hF.2 _ _) (rra 1 (isK_le (ka hF 279 (by decide))) (fun _ => rfl)) ?_
    refine wp_iload_n dX7_endOfToken_26 rfl ?_
    refine wp_baldk (n := 500) p x dX7_endOfToken_27 (ka hF 280 (by decide)) (la 280) (vin (by omega) (by decide)) (nIc (by omega)) hx ?_
    refine wp_leIS dX7_endOfToken_28 MX7_97 (Nat.le_of_ble_eq_true rfl) ?_
    refine wp_if_eq 46 dX7_endOfToken_31 (by decide) (fun q5 => ?_) (fun q6 => ?_)
    · skip
      refine wp_aload_n dX7_endOfToken_46 rfl ?_
      refine wp_getr (gB G + 280) dX7_endOfToken_47 fX7_9 (ka hF 279 (by decide)) (hF.2 _ _) (rra 1 (isK_le (ka hF 279 (by decide))) (fun _ => rfl)) ?_
      refine wp_iload_n dX7_endOfToken_50 rfl ?_
      refine wp_baldk (n := 500) p x dX7_endOfToken_51 (ka hF 280 (by decide)) (la 280) (vin (by omega) (by decide)) (nIc (by omega)) hx ?_
      refine wp_diIS dX7_endOfToken_52 MX7_101 (Nat.le_of_ble_eq_true rfl) ?_
      refine wp_if_eq 76 dX7_endOfToken_55 (by decide) (fun q7 => ?_) (fun q8 => ?_)
      · skip
        refine wp_iload_n dX7_endOfToken_76 rfl ?_
        exact wp_iret dX7_endOfToken_77 rfl (e2 hp4 q5 q7)
      · skip
        refine wp_aload_n dX7_endOfToken_58 rfl ?_
        refine wp_getr (gB G + 280) dX7_endOfToken_59 fX7_9 (ka hF 279 (by decide)) (hF.2 _ _) (rra 1 (isK_le (ka hF 279 (by decide))) (fun _ => rfl)) ?_
        refine wp_iload_n dX7_endOfToken_62 rfl ?_
        refine wp_baldk (n := 500) q (ai m (gB G + 280) q) dX7_endOfToken_63 (ka hF 280 (by decide)) (la 280) (vin (by omega) (by decide)) (nIc (by omega)) rfl ?_
        refine wp_diIS dX7_endOfToken_64 MX7_101 (Nat.le_of_ble_eq_true rfl) ?_
        refine wp_if_eq 76 dX7_endOfToken_67 (by decide) (fun q9 => ?_) (fun q10 => ?_)
        · skip
          refine wp_iload_n dX7_endOfToken_76 rfl ?_
          exact wp_iret dX7_endOfToken_77 rfl (e3 hp4 q5 q8 q9)
        · skip
          refine wp_iinc (nI (q + 1)) dX7_endOfToken_70 rfl (by decide) (nadd (a := q) (b := 1) (by omega)) rfl ?_
          refine wp_goto 14 dX7_endOfToken_73 (by decide) ?_
          refine wp_forget [.ref (gB G + 279), .int (nI p), .int (nI (q + 1))] ⟨Or.inl rfl, Or.inl rfl, Or.inl rfl, trivial⟩ ?_
          exact e4 hp4 q5 q8 q10
    · skip
      refine wp_aload_n dX7_endOfToken_34 rfl ?_
      refine wp_getr (gB G + 280) dX7_endOfToken_35 fX7_9 (ka hF 279 (by decide)) (hF.2 _ _) (rra 1 (isK_le (ka hF 279 (by decide))) (fun _ => rfl)) ?_
      refine wp_iload_n dX7_endOfToken_38 rfl ?_
      refine wp_baldk (n := 500) q (ai m (gB G + 280) q) dX7_endOfToken_39 (ka hF 280 (by decide)) (la 280) (vin (by omega) (by decide)) (nIc (by omega)) rfl ?_
      refine wp_leIS dX7_endOfToken_40 MX7_97 (Nat.le_of_ble_eq_true rfl) ?_
      refine wp_if_ne 70 dX7_endOfToken_43 (by decide) (fun q11 => ?_) (fun q12 => ?_)
      · skip
        refine wp_iinc (nI (q + 1)) dX7_endOfToken_70 rfl (by decide) (nadd (a := q) (b := 1) (by omega)) rfl ?_
        refine wp_goto 14 dX7_endOfToken_73 (by decide) ?_
        refine wp_forget [.ref (gB G + 279), .int (nI p), .int (nI (q + 1))] ⟨Or.inl rfl, Or.inl rfl, Or.inl rfl, trivial⟩ ?_
        exact e5 hp4 q6 q11
      · skip
        refine wp_aload_n dX7_endOfToken_46 rfl ?_
        refine wp_getr (gB G + 280) dX7_endOfToken_47 fX7_9 (ka hF 279 (by decide)) (hF.2 _ _) (rra 1 (isK_le (ka hF 279 (by decide))) (fun _ => rfl)) ?_
        refine wp_iload_n dX7_endOfToken_50 rfl ?_
        refine wp_baldk (n := 500) p x dX7_endOfToken_51 (ka hF 280 (by decide)) (la 280) (vin (by omega) (by decide)) (nIc (by omega)) hx ?_
        refine wp_diIS dX7_endOfToken_52 MX7_101 (Nat.le_of_ble_eq_true rfl) ?_
        refine wp_if_eq 76 dX7_endOfToken_55 (by decide) (fun q13 => ?_) (fun q14 => ?_)
        · skip
          refine wp_iload_n dX7_endOfToken_76 rfl ?_
          exact wp_iret dX7_endOfToken_77 rfl (e6 hp4 q6 q12 q13)
        · skip
          refine wp_aload_n dX7_endOfToken_58 rfl ?_
          refine wp_getr (gB G + 280) dX7_endOfToken_59 fX7_9 (ka hF 279 (by decide)) (hF.2 _ _) (rra 1 (isK_le (ka hF 279 (by decide))) (fun _ => rfl)) ?_
          refine wp_iload_n dX7_endOfToken_62 rfl ?_
          refine wp_baldk (n := 500) q (ai m (gB G + 280) q) dX7_endOfToken_63 (ka hF 280 (by decide)) (la 280) (vin (by omega) (by decide)) (nIc (by omega)) rfl ?_
          refine wp_diIS dX7_endOfToken_64 MX7_101 (Nat.le_of_ble_eq_true rfl) ?_
          refine wp_if_eq 76 dX7_endOfToken_67 (by decide) (fun q15 => ?_) (fun q16 => ?_)
          · skip
            refine wp_iload_n dX7_endOfToken_76 rfl ?_
            exact wp_iret dX7_endOfToken_77 rfl (e7 hp4 q6 q12 q14 q15)
          · skip
            refine wp_iinc (nI (q + 1)) dX7_endOfToken_70 rfl (by decide) (nadd (a := q) (b := 1) (by omega)) rfl ?_
            refine wp_goto 14 dX7_endOfToken_73 (by decide) ?_
            refine wp_forget [.ref (gB G + 279), .int (nI p), .int (nI (q + 1))] ⟨Or.inl rfl, Or.inl rfl, Or.inl rfl, trivial⟩ ?_
            exact e8 hp4 q6 q12 q14 q16

theorem eC_ni {G : Cx} {d : Nat} {m : Mm} {Q : Option Value → Mm → Prop} {p q : Nat} (hF : Full G m) 
    (e1 : WP G (d + 1) (0, 0) μX7_numberIn 5 [.ref (gB G + 279), lvU, .int (nI q), .int (0 : Int32), .int (nI p)] [] m Q) :
    WPM G (d + 1) (0, 0) μX7_numberIn [.ref (gB G + 279), .int (nI p), .int (nI q)] m Q := by
  refine WPM.of pX7 (Nat.le_of_ble_eq_true rfl) rfl ?_
  refine wp_iconst (0 : Int32) dX7_numberIn_0 (by decide) ?_
  refine wp_istore_n dX7_numberIn_1 (by decide) rfl ?_
  refine wp_iload_n dX7_numberIn_2 rfl ?_
  refine wp_istore dX7_numberIn_3 (by decide) rfl ?_
  refine wp_forget [.ref (gB G + 279), lvU, .int (nI q), .int (0 : Int32), .int (nI p)] ⟨Or.inl rfl, Or.inr rfl, Or.inl rfl, Or.inl rfl, Or.inl rfl, trivial⟩ ?_
  exact e1

theorem bC_ni {G : Cx} {d : Nat} {m : Mm} {Q : Option Value → Mm → Prop} {i q v : Nat} {x : Int32} (hF : Full G m) (hq : q ≤ 500) (hi : i ≤ q) (hv : v ≤ 1000000) (hx : ai m (gB G + 280) i = x) 
    (e1 : ¬ i < q → Q (some (.int (nI v))) m)
    (e2 : i < q → (diI x) = 0 → Q (some (.int (nI v))) m)
    (e3 : i < q → ¬ (diI x) = 0 → WP G (d + 1) (0, 0) μX7_numberIn 5 [.ref (gB G + 279), lvU, .int (nI q), .int (imin (((nI (10 * v)) + x) - (48 : Int32)) (1000000 : Int32)), .int (nI (i + 1))] [] m Q) :
    WP G (d + 1) (0, 0) μX7_numberIn 5 [.ref (gB G + 279), lvU, .int (nI q), .int (nI v), .int (nI i)] [] m Q := by
  refine wp_iload dX7_numberIn_5 rfl ?_
  refine wp_iload_n dX7_numberIn_7 rfl ?_
  refine wp_icmp_ge 51 dX7_numberIn_8 (by decide) (fun q1 => ?_) (fun q2 => ?_)
  · have hp3 : ¬ i < q := (fun z => q1 (nlt_ (b := q) z (by omega)))
    refine wp_iload_n dX7_numberIn_51 rfl ?_
    exact wp_iret dX7_numberIn_52 rfl (e1 hp3)
  · have hp4 : i < q := (nlt q2 (by omega) (by omega))
    refine wp_aload_n dX7_numberIn_11 rfl ?_
    refine wp_getr (gB G + 280) dX7_numberIn_12 fX7_9 (ka hF 279 (by decide)) (hF.2 _ _) (rra 1 (isK_le (ka hF 279 (by decide))) (fun _ => rfl)) ?_
    refine wp_iload dX7_numberIn_15 rfl ?_
    refine wp_baldk (n := 500) i x dX7_numberIn_17 (ka hF 280 (by decide)) (la 280) (vin (by omega) (by decide)) (nIc (by omega)) hx ?_
    refine wp_diIS dX7_numberIn_18 MX7_101 (Nat.le_of_ble_eq_true rfl) ?_
    refine wp_if_eq 51 dX7_numberIn_21 (by decide) (fun q5 => ?_) (fun q6 => ?_)
    · skip
      refine wp_iload_n dX7_numberIn_51 rfl ?_
      exact wp_iret dX7_numberIn_52 rfl (e2 hp4 q5)
    · skip
      refine wp_iload_n dX7_numberIn_24 rfl ?_
      refine wp_bipush (10 : Int32) dX7_numberIn_25 (by decide) ?_
      refine wp_imulv (nI (10 * v)) dX7_numberIn_27 (nmul (a := v) (b := 10) (by omega)) ?_
      refine wp_aload_n dX7_numberIn_28 rfl ?_
      refine wp_getr (gB G + 280) dX7_numberIn_29 fX7_9 (ka hF 279 (by decide)) (hF.2 _ _) (rra 1 (isK_le (ka hF 279 (by decide))) (fun _ => rfl)) ?_
      refine wp_iload dX7_numberIn_32 rfl ?_
      refine wp_baldk (n := 500) i x dX7_numberIn_34 (ka hF 280 (by decide)) (la 280) (vin (by omega) (by decide)) (nIc (by omega)) hx ?_
      refine wp_iaddv ((nI (10 * v)) + x) dX7_numberIn_35 rfl ?_
      refine wp_bipush (48 : Int32) dX7_numberIn_36 (by decide) ?_
      refine wp_isubv (((nI (10 * v)) + x) - (48 : Int32)) dX7_numberIn_38 rfl ?_
      refine wp_ldc dX7_numberIn_39 kX7_126 ?_
      refine wp_minI dX7_numberIn_41 AX7_127 (Nat.le_of_ble_eq_true rfl) ?_
      refine wp_istore_n dX7_numberIn_44 (by decide) rfl ?_
      refine wp_iinc (nI (i + 1)) dX7_numberIn_45 rfl (by decide) (nadd (a := i) (b := 1) (by omega)) rfl ?_
      refine wp_goto 5 dX7_numberIn_48 (by decide) ?_
      refine wp_forget [.ref (gB G + 279), lvU, .int (nI q), .int (imin (((nI (10 * v)) + x) - (48 : Int32)) (1000000 : Int32)), .int (nI (i + 1))] ⟨Or.inl rfl, Or.inr rfl, Or.inl rfl, Or.inl rfl, Or.inl rfl, trivial⟩ ?_
      exact e3 hp4 q6

theorem eC_iw {G : Cx} {d : Nat} {m : Mm} {Q : Option Value → Mm → Prop} {b w p l : Nat} (hF : Full G m) (hb : b + w < 95) (hp : p + l ≤ 500) 
    (e1 : w = l → WP G (d + 4) (0, 0) μX7_isWord 15 [.ref (gB G + 279), .int (nI b), .int (nI (b + w)), .int (nI p), lvU, .int (0 : Int32)] [] m Q)
    (e2 : ¬ w = l → Q (some (.int (0 : Int32))) m) :
    WPM G (d + 4) (0, 0) μX7_isWord [.ref (gB G + 279), .int (nI b), .int (nI (b + w)), .int (nI p), .int (nI (l + p))] m Q := by
  refine WPM.of pX7 (Nat.le_of_ble_eq_true rfl) rfl ?_
  refine wp_iload_n dX7_isWord_0 rfl ?_
  refine wp_iload_n dX7_isWord_1 rfl ?_
  refine wp_isubv (nI w) dX7_isWord_2 (nsub (a := b + w) (b := b) (by omega)) ?_
  refine wp_iload dX7_isWord_3 rfl ?_
  refine wp_iload_n dX7_isWord_5 rfl ?_
  refine wp_isubv (nI l) dX7_isWord_6 (nsub (a := l + p) (b := p) (by omega)) ?_
  refine wp_icmp_eq 12 dX7_isWord_7 (by decide) (fun q1 => ?_) (fun q2 => ?_)
  · have hp3 : w = l := (neq q1 (by omega) (by omega))
    refine wp_iconst (0 : Int32) dX7_isWord_12 (by decide) ?_
    refine wp_istore dX7_isWord_13 (by decide) rfl ?_
    refine wp_forget [.ref (gB G + 279), .int (nI b), .int (nI (b + w)), .int (nI p), lvU, .int (0 : Int32)] ⟨Or.inl rfl, Or.inl rfl, Or.inl rfl, Or.inl rfl, Or.inr rfl, Or.inl rfl, trivial⟩ ?_
    exact e1 hp3
  · have hp4 : ¬ w = l := (fun z => q2 (congrArg nI z))
    refine wp_iconst (0 : Int32) dX7_isWord_10 (by decide) ?_
    exact wp_zret dX7_isWord_11 rfl rfl (e2 hp4)

theorem bC_iw {G : Cx} {d : Nat} {m : Mm} {Q : Option Value → Mm → Prop} {b w p j : Nat} (hF : Full G m) (hb : b + w < 95) (hp : p + w ≤ 500) (hj : j ≤ w) 
    (e1 : ¬ j < w → Q (some (.int (1 : Int32))) m)
    (e2 : j < w → (chJ 1 (b + j)) = (ai m (gB G + 280) (j + p)) → WP G (d + 4) (0, 0) μX7_isWord 15 [.ref (gB G + 279), .int (nI b), .int (nI (b + w)), .int (nI p), lvU, .int (nI (j + 1))] [] m Q)
    (e3 : j < w → ¬ (chJ 1 (b + j)) = (ai m (gB G + 280) (j + p)) → Q (some (.int (0 : Int32))) m) :
    WP G (d + 4) (0, 0) μX7_isWord 15 [.ref (gB G + 279), .int (nI b), .int (nI (b + w)), .int (nI p), lvU, .int (nI j)] [] m Q := by
  refine wp_iload dX7_isWord_15 rfl ?_
  refine wp_iload_n dX7_isWord_17 rfl ?_
  refine wp_iload_n dX7_isWord_18 rfl ?_
  refine wp_isubv (nI w) dX7_isWord_19 (nsub (a := b + w) (b := b) (by omega)) ?_
  refine wp_icmp_ge 52 dX7_isWord_20 (by decide) (fun q1 => ?_) (fun q2 => ?_)
  · have hp3 : ¬ j < w := (fun z => q1 (nlt_ (b := w) z (by omega)))
    refine wp_iconst (1 : Int32) dX7_isWord_52 (by decide) ?_
    exact wp_zret dX7_isWord_53 rfl rfl (e1 hp3)
  · have hp4 : j < w := (nlt q2 (by omega) (by omega))
    refine wp_ldcS0 (j := 1) dX7_isWord_23 (by decide) rfl ?_
    refine wp_iload_n dX7_isWord_25 rfl ?_
    refine wp_iload dX7_isWord_26 rfl ?_
    refine wp_iaddv (nI (b + j)) dX7_isWord_28 (nadd (a := b) (b := j) (by omega)) ?_
    refine wp_chrN (n := 95) dX7_isWord_29 MX7_118 (by decide) rfl (by omega) (Nat.le_of_ble_eq_true rfl) ?_
    refine wp_aload_n dX7_isWord_32 rfl ?_
    refine wp_getr (gB G + 280) dX7_isWord_33 fX7_9 (ka hF 279 (by decide)) (hF.2 _ _) (rra 1 (isK_le (ka hF 279 (by decide))) (fun _ => rfl)) ?_
    refine wp_iload_n dX7_isWord_36 rfl ?_
    refine wp_iload dX7_isWord_37 rfl ?_
    refine wp_iaddv (nI (j + p)) dX7_isWord_39 (nadd (a := p) (b := j) (by omega)) ?_
    refine wp_baldk (n := 500) (j + p) (ai m (gB G + 280) (j + p)) dX7_isWord_40 (ka hF 280 (by decide)) (la 280) (vin (by omega) (by decide)) (nIc (by omega)) rfl ?_
    refine wp_icmp_eq 46 dX7_isWord_41 (by decide) (fun q5 => ?_) (fun q6 => ?_)
    · skip
      refine wp_iinc (nI (j + 1)) dX7_isWord_46 rfl (by decide) (nadd (a := j) (b := 1) (by omega)) rfl ?_
      refine wp_goto 15 dX7_isWord_49 (by decide) ?_
      refine wp_forget [.ref (gB G + 279), .int (nI b), .int (nI (b + w)), .int (nI p), lvU, .int (nI (j + 1))] ⟨Or.inl rfl, Or.inl rfl, Or.inl rfl, Or.inl rfl, Or.inr rfl, Or.inl rfl, trivial⟩ ?_
      exact e2 hp4 q5
    · skip
      refine wp_iconst (0 : Int32) dX7_isWord_44 (by decide) ?_
      exact wp_zret dX7_isWord_45 rfl rfl (e3 hp4 q6)

theorem eC_kw {G : Cx} {d : Nat} {m : Mm} {Q : Option Value → Mm → Prop} {p q : Nat} (hF : Full G m) 
    (e1 : WP G (d + 5) (0, 0) μX7_kindOfWord 10 [.ref (gB G + 279), .int (nI p), .int (nI q), .int (201 : Int32), .int (0 : Int32), .int (0 : Int32)] [] m Q) :
    WPM G (d + 5) (0, 0) μX7_kindOfWord [.ref (gB G + 279), .int (nI p), .int (nI q)] m Q := by
  refine WPM.of pX7 (Nat.le_of_ble_eq_true rfl) rfl ?_
  refine wp_sipush (201 : Int32) dX7_kindOfWord_0 (by decide) ?_
  refine wp_istore_n dX7_kindOfWord_3 (by decide) rfl ?_
  refine wp_iconst (0 : Int32) dX7_kindOfWord_4 (by decide) ?_
  refine wp_istore dX7_kindOfWord_5 (by decide) rfl ?_
  refine wp_iconst (0 : Int32) dX7_kindOfWord_7 (by decide) ?_
  refine wp_istore dX7_kindOfWord_8 (by decide) rfl ?_
  refine wp_forget [.ref (gB G + 279), .int (nI p), .int (nI q), .int (201 : Int32), .int (0 : Int32), .int (0 : Int32)] ⟨Or.inl rfl, Or.inl rfl, Or.inl rfl, Or.inl rfl, Or.inl rfl, Or.inl rfl, trivial⟩ ?_
  exact e1

theorem bC_kw {G : Cx} {d : Nat} {m : Mm} {Q : Option Value → Mm → Prop} {p q k b j : Nat} (hF : Full G m) (hj : j ≤ 95) (hk : k < 300) 
    (e1 : ¬ j < 95 → Q (some (.int (1 : Int32))) m)
    (e2 : j < 95 → ¬ (chJ 1 j) = (32 : Int32) → WP G (d + 5) (0, 0) μX7_kindOfWord 10 [.ref (gB G + 279), .int (nI p), .int (nI q), .int (nI k), .int (nI b), .int (nI (j + 1))] [] m Q)
    (e3 : j < 95 → (chJ 1 j) = (32 : Int32) → WPM G (d + 4) (0, 0) μX7_isWord [.ref (gB G + 279), .int (nI b), .int (nI j), .int (nI p), .int (nI q)] m (fun r' m' => WP G (d + 5) (0, 0) μX7_kindOfWord 42 [.ref (gB G + 279), .int (nI p), .int (nI q), .int (nI k), lvU, .int (nI j)] (r'.toList ++ []) m' Q)) :
    WP G (d + 5) (0, 0) μX7_kindOfWord 10 [.ref (gB G + 279), .int (nI p), .int (nI q), .int (nI k), .int (nI b), .int (nI j)] [] m Q := by
  refine wp_iload dX7_kindOfWord_10 rfl ?_
  refine wp_ldcS0 (j := 1) dX7_kindOfWord_12 (by decide) rfl ?_
  refine wp_slenN (n := 95) dX7_kindOfWord_14 MX7_116 (by decide) rfl (Nat.le_of_ble_eq_true rfl) ?_
  refine wp_icmp_ge 62 dX7_kindOfWord_17 (by decide) (fun q1 => ?_) (fun q2 => ?_)
  · have hp3 : ¬ j < 95 := (fun z => q1 (nlt_ (b := 95) z (by omega)))
    refine wp_iconst (1 : Int32) dX7_kindOfWord_62 (by decide) ?_
    exact wp_iret dX7_kindOfWord_63 rfl (e1 hp3)
  · have hp4 : j < 95 := (nlt q2 (by omega) (by omega))
    refine wp_ldcS0 (j := 1) dX7_kindOfWord_20 (by decide) rfl ?_
    refine wp_iload dX7_kindOfWord_22 rfl ?_
    refine wp_chrN (n := 95) dX7_kindOfWord_24 MX7_118 (by decide) rfl (by omega) (Nat.le_of_ble_eq_true rfl) ?_
    refine wp_bipush (32 : Int32) dX7_kindOfWord_27 (by decide) ?_
    refine wp_icmp_ne 56 dX7_kindOfWord_29 (by decide) (fun q5 => ?_) (fun q6 => ?_)
    · skip
      refine wp_iinc (nI (j + 1)) dX7_kindOfWord_56 rfl (by decide) (nadd (a := j) (b := 1) (by omega)) rfl ?_
      refine wp_goto 10 dX7_kindOfWord_59 (by decide) ?_
      refine wp_forget [.ref (gB G + 279), .int (nI p), .int (nI q), .int (nI k), .int (nI b), .int (nI (j + 1))] ⟨Or.inl rfl, Or.inl rfl, Or.inl rfl, Or.inl rfl, Or.inl rfl, Or.inl rfl, trivial⟩ ?_
      exact e2 hp4 q5
    · skip
      refine wp_aload_n dX7_kindOfWord_32 rfl ?_
      refine wp_iload dX7_kindOfWord_33 rfl ?_
      refine wp_iload dX7_kindOfWord_35 rfl ?_
      refine wp_iload_n dX7_kindOfWord_37 rfl ?_
      refine wp_iload_n dX7_kindOfWord_38 rfl ?_
      refine wp_forget [.ref (gB G + 279), .int (nI p), .int (nI q), .int (nI k), lvU, .int (nI j)] ⟨Or.inl rfl, Or.inl rfl, Or.inl rfl, Or.inl rfl, Or.inr rfl, Or.inl rfl, trivial⟩ ?_
      refine wp_callV (As := [.int (nI b), .int (nI j), .int (nI p), .int (nI q)]) (S := []) (b' := (0, 0)) (b := (0, 0)) dX7_kindOfWord_39 MX7_122 (ka hF 279 (by decide)) rfl rfl rfl rfl (Nat.le_of_ble_eq_true rfl) ?_
      exact e3 hp4 q6

theorem cC_kw1 {G : Cx} {d : Nat} {m : Mm} {Q : Option Value → Mm → Prop} {p q k j : Nat} (hF : Full G m) (hj : j < 95) (hk : k < 300) 
    (e1 : Q (some (.int (nI k))) m) :
    WP G (d + 5) (0, 0) μX7_kindOfWord 42 [.ref (gB G + 279), .int (nI p), .int (nI q), .int (nI k), lvU, .int (nI j)] [.int (1 : Int32)] m Q := by
  refine wp_if_eq 47 dX7_kindOfWord_42 (by decide) (fun q => absurd q (by decide)) (fun _ => ?_)
  refine wp_iload_n dX7_kindOfWord_45 rfl ?_
  exact wp_iret dX7_kindOfWord_46 rfl (e1)

theorem cC_kw0 {G : Cx} {d : Nat} {m : Mm} {Q : Option Value → Mm → Prop} {p q k j : Nat} (hF : Full G m) (hj : j < 95) (hk : k < 300) 
    (e1 : WP G (d + 5) (0, 0) μX7_kindOfWord 10 [.ref (gB G + 279), .int (nI p), .int (nI q), .int (nI (k + 1)), .int (nI (j + 1)), .int (nI (j + 1))] [] m Q) :
    WP G (d + 5) (0, 0) μX7_kindOfWord 42 [.ref (gB G + 279), .int (nI p), .int (nI q), .int (nI k), lvU, .int (nI j)] [.int (0 : Int32)] m Q := by
  refine wp_if_eq 47 dX7_kindOfWord_42 (by decide) (fun _ => ?_) (fun q => absurd (by decide) q)
  refine wp_iinc (nI (k + 1)) dX7_kindOfWord_47 rfl (by decide) (nadd (a := k) (b := 1) (by omega)) rfl ?_
  refine wp_iload dX7_kindOfWord_50 rfl ?_
  refine wp_iconst (1 : Int32) dX7_kindOfWord_52 (by decide) ?_
  refine wp_iaddv (nI (j + 1)) dX7_kindOfWord_53 (nadd (a := j) (b := 1) (by omega)) ?_
  refine wp_istore dX7_kindOfWord_54 (by decide) rfl ?_
  refine wp_iinc (nI (j + 1)) dX7_kindOfWord_56 rfl (by decide) (nadd (a := j) (b := 1) (by omega)) rfl ?_
  refine wp_goto 10 dX7_kindOfWord_59 (by decide) ?_
  refine wp_forget [.ref (gB G + 279), .int (nI p), .int (nI q), .int (nI (k + 1)), .int (nI (j + 1)), .int (nI (j + 1))] ⟨Or.inl rfl, Or.inl rfl, Or.inl rfl, Or.inl rfl, Or.inl rfl, Or.inl rfl, trivial⟩ ?_
  exact e1

theorem eC_ko {G : Cx} {d : Nat} {m : Mm} {Q : Option Value → Mm → Prop} {p q : Nat} (hF : Full G m) (hq : q ≤ 500) (hp : p ≤ q) 
    (e1 : p < q → (diI (ai m (gB G + 280) p)) = 0 → (leI (ai m (gB G + 280) p)) = 0 → WPM G (d + 5) (0, 0) μJ0_indexOf_0f7a4 [.ref (gK G 0), .int (UInt32.toInt32 (Int32.toUInt32 ((ai m (gB G + 280) p) &&& (255 : Int32)) % 65536))] m (fun r' m' => WP G (d + 6) (0, 0) μX7_kindOf 50 [lvU, lvU, lvU, .int (ai m (gB G + 280) p)] (r'.toList ++ []) m' Q))
    (e2 : p < q → (diI (ai m (gB G + 280) p)) = 0 → ¬ (leI (ai m (gB G + 280) p)) = 0 → WPM G (d + 5) (0, 0) μX7_kindOfWord [.ref (gB G + 279), .int (nI p), .int (nI q)] m (fun r' m' => WP G (d + 6) (0, 0) μX7_kindOf 38 [lvU, lvU, lvU, lvU] (r'.toList ++ []) m' Q))
    (e3 : p < q → ¬ (diI (ai m (gB G + 280) p)) = 0 → Q (some (.int (200 : Int32))) m)
    (e4 : ¬ p < q → Q (some (.int (0 : Int32))) m) :
    WPM G (d + 6) (0, 0) μX7_kindOf [.ref (gB G + 279), .int (nI p), .int (nI q)] m Q := by
  refine WPM.of pX7 (Nat.le_of_ble_eq_true rfl) rfl ?_
  refine wp_iload_n dX7_kindOf_0 rfl ?_
  refine wp_iload_n dX7_kindOf_1 rfl ?_
  refine wp_icmp_lt 7 dX7_kindOf_2 (by decide) (fun q1 => ?_) (fun q2 => ?_)
  · have hp3 : p < q := (nlt q1 (by omega) (by omega))
    refine wp_aload_n dX7_kindOf_7 rfl ?_
    refine wp_getr (gB G + 280) dX7_kindOf_8 fX7_9 (ka hF 279 (by decide)) (hF.2 _ _) (rra 1 (isK_le (ka hF 279 (by decide))) (fun _ => rfl)) ?_
    refine wp_iload_n dX7_kindOf_11 rfl ?_
    refine wp_baldk (n := 500) p (ai m (gB G + 280) p) dX7_kindOf_12 (ka hF 280 (by decide)) (la 280) (vin (by omega) (by decide)) (nIc (by omega)) rfl ?_
    refine wp_istore_n dX7_kindOf_13 (by decide) rfl ?_
    refine wp_iload_n dX7_kindOf_14 rfl ?_
    refine wp_diIS dX7_kindOf_15 MX7_101 (Nat.le_of_ble_eq_true rfl) ?_
    refine wp_if_eq 25 dX7_kindOf_18 (by decide) (fun q4 => ?_) (fun q5 => ?_)
    · skip
      refine wp_iload_n dX7_kindOf_25 rfl ?_
      refine wp_leIS dX7_kindOf_26 MX7_97 (Nat.le_of_ble_eq_true rfl) ?_
      refine wp_if_eq 39 dX7_kindOf_29 (by decide) (fun q6 => ?_) (fun q7 => ?_)
      · skip
        refine wp_ldcS0 (j := 0) dX7_kindOf_39 (by decide) rfl ?_
        refine wp_iload_n dX7_kindOf_41 rfl ?_
        refine wp_sipush (255 : Int32) dX7_kindOf_42 (by decide) ?_
        refine wp_iand dX7_kindOf_45 ?_
        refine wp_i2c dX7_kindOf_46 ?_
        refine wp_forget [lvU, lvU, lvU, .int (ai m (gB G + 280) p)] ⟨Or.inr rfl, Or.inr rfl, Or.inr rfl, Or.inl rfl, trivial⟩ ?_
        refine wp_callK (As := [.int (UInt32.toInt32 (Int32.toUInt32 ((ai m (gB G + 280) p) &&& (255 : Int32)) % 65536))]) (S := []) (b' := (0, 0)) (b := (0, 0)) dX7_kindOf_47 MX7_109 (by decide) rfl rfl rfl (Nat.le_of_ble_eq_true rfl) ?_
        exact e1 hp3 q4 q6
      · skip
        refine wp_aload_n dX7_kindOf_32 rfl ?_
        refine wp_iload_n dX7_kindOf_33 rfl ?_
        refine wp_iload_n dX7_kindOf_34 rfl ?_
        refine wp_forget [lvU, lvU, lvU, lvU] ⟨Or.inr rfl, Or.inr rfl, Or.inr rfl, Or.inr rfl, trivial⟩ ?_
        refine wp_callV (As := [.int (nI p), .int (nI q)]) (S := []) (b' := (0, 0)) (b := (0, 0)) dX7_kindOf_35 MX7_104 (ka hF 279 (by decide)) rfl rfl rfl rfl (Nat.le_of_ble_eq_true rfl) ?_
        exact e2 hp3 q4 q7
    · skip
      refine wp_sipush (200 : Int32) dX7_kindOf_21 (by decide) ?_
      exact wp_iret dX7_kindOf_24 rfl (e3 hp3 q5)
  · have hp8 : ¬ p < q := (fun z => q2 (nlt_ (b := q) z (by omega)))
    refine wp_iconst (0 : Int32) dX7_kindOf_5 (by decide) ?_
    exact wp_iret dX7_kindOf_6 rfl (e4 hp8)

theorem cC_kos {G : Cx} {d : Nat} {m : Mm} {Q : Option Value → Mm → Prop} {x : Int32} {r : Int32} (hF : Full G m) 
    (e1 : r < 0 → Q (some (.int (1 : Int32))) m)
    (e2 : ¬ r < 0 → Q (some (.int x)) m) :
    WP G (d + 6) (0, 0) μX7_kindOf 50 [lvU, lvU, lvU, .int x] [.int r] m Q := by
  refine wp_if_lt 57 dX7_kindOf_50 (by decide) (fun q1 => ?_) (fun q2 => ?_)
  · skip
    refine wp_iconst (1 : Int32) dX7_kindOf_57 (by decide) ?_
    exact wp_iret dX7_kindOf_58 rfl (e1 q1)
  · skip
    refine wp_iload_n dX7_kindOf_53 rfl ?_
    refine wp_goto 58 dX7_kindOf_54 (by decide) ?_
    exact wp_iret dX7_kindOf_58 rfl (e2 q2)

theorem cC_kow {G : Cx} {d : Nat} {m : Mm} {Q : Option Value → Mm → Prop} {k : Nat} (hF : Full G m) 
    (e1 : Q (some (.int (nI k))) m) :
    WP G (d + 6) (0, 0) μX7_kindOf 38 [lvU, lvU, lvU, lvU] [.int (nI k)] m Q := by
  exact wp_iret dX7_kindOf_38 rfl (e1)

theorem eC_spl {G : Cx} {d : Nat} {m : Mm} {Q : Option Value → Mm → Prop}  (hF : Full G m) 
    (e1 : WP G (d + 7) (0, 0) μX7_splitText 9 [.ref (gB G + 279), .int (0 : Int32), .int (1 : Int32), lvU] [] (wfi m 708 (gB G + 279) (0 : Int32)) Q) :
    WPM G (d + 7) (0, 0) μX7_splitText [.ref (gB G + 279)] m Q := by
  refine WPM.of pX7 (Nat.le_of_ble_eq_true rfl) rfl ?_
  refine wp_iconst (0 : Int32) dX7_splitText_0 (by decide) ?_
  refine wp_istore_n dX7_splitText_1 (by decide) rfl ?_
  refine wp_iconst (1 : Int32) dX7_splitText_2 (by decide) ?_
  refine wp_istore_n dX7_splitText_3 (by decide) rfl ?_
  refine wp_aload_n dX7_splitText_4 rfl ?_
  refine wp_iconst (0 : Int32) dX7_splitText_5 (by decide) ?_
  refine wp_puti dX7_splitText_6 pX7_77 (ka hF 279 (by decide)) ?_
  have hF1 := Full_wfi 708 (gB G + 279) (0 : Int32) hF
  refine wp_forget [.ref (gB G + 279), .int (0 : Int32), .int (1 : Int32), lvU] ⟨Or.inl rfl, Or.inl rfl, Or.inl rfl, Or.inr rfl, trivial⟩ ?_
  exact e1

theorem zC_spl {G : Cx} {d : Nat} {m : Mm} {Q : Option Value → Mm → Prop} {p : Nat} (hF : Full G m) 
    (e1 : Q none m) :
    WP G (d + 7) (0, 0) μX7_splitText 9 [.ref (gB G + 279), .int (nI p), .int (0 : Int32), lvU] [] m Q := by
  refine wp_iload_n dX7_splitText_9 rfl ?_
  refine wp_if_eq 121 dX7_splitText_10 (by decide) (fun _ => ?_) (fun q => absurd (by decide) q)
  exact wp_vret dX7_splitText_121 rfl (e1)

theorem bC_spl {G : Cx} {d : Nat} {m : Mm} {Q : Option Value → Mm → Prop} {p c : Nat} (hF : Full G m) (hc : fi m 708 (gB G + 279) = nI c) (hc5 : c < 501) 
    (e1 : WPM G (d + 6) (0, 0) μX7_skipBlanks [.ref (gB G + 279), .int (nI p)] m (fun r' m' => WP G (d + 7) (0, 0) μX7_splitText 28 [.ref (gB G + 279), lvU, lvU, lvU] (r'.toList ++ []) m' Q)) :
    WP G (d + 7) (0, 0) μX7_splitText 9 [.ref (gB G + 279), .int (nI p), .int (1 : Int32), lvU] [] m Q := by
  refine wp_iload_n dX7_splitText_9 rfl ?_
  refine wp_if_eq 121 dX7_splitText_10 (by decide) (fun q => absurd q (by decide)) (fun _ => ?_)
  refine wp_aload_n dX7_splitText_13 rfl ?_
  refine wp_geti (nI c) dX7_splitText_14 fX7_77 (Or.inl rfl) (ka hF 279 (by decide)) hc ?_
  refine wp_sipush (500 : Int32) dX7_splitText_17 (by decide) ?_
  refine wp_icmp_gt 121 dX7_splitText_20 (by decide) (fun q => absurd q (fun z => (by omega : ¬ 500 < c) (nlt (a := 500) (b := c) z (by omega) (by omega)))) (fun _ => ?_)
  refine wp_aload_n dX7_splitText_23 rfl ?_
  refine wp_iload_n dX7_splitText_24 rfl ?_
  refine wp_forget [.ref (gB G + 279), lvU, lvU, lvU] ⟨Or.inl rfl, Or.inr rfl, Or.inr rfl, Or.inr rfl, trivial⟩ ?_
  refine wp_callV (As := [.int (nI p)]) (S := []) (b' := (0, 0)) (b := (0, 0)) dX7_splitText_25 MX7_80 (ka hF 279 (by decide)) rfl rfl rfl rfl (Nat.le_of_ble_eq_true rfl) ?_
  exact e1

theorem b2C_spl {G : Cx} {d : Nat} {m : Mm} {Q : Option Value → Mm → Prop} {p : Nat} (hF : Full G m) 
    (e1 : WPM G (d + 6) (0, 0) μX7_endOfToken [.ref (gB G + 279), .int (nI p)] m (fun r' m' => WP G (d + 7) (0, 0) μX7_splitText 34 [.ref (gB G + 279), .int (nI p), lvU, lvU] (r'.toList ++ []) m' Q)) :
    WP G (d + 7) (0, 0) μX7_splitText 28 [.ref (gB G + 279), lvU, lvU, lvU] [.int (nI p)] m Q := by
  refine wp_istore_n dX7_splitText_28 (by decide) rfl ?_
  refine wp_aload_n dX7_splitText_29 rfl ?_
  refine wp_iload_n dX7_splitText_30 rfl ?_
  refine wp_callV (As := [.int (nI p)]) (S := []) (b' := (0, 0)) (b := (0, 0)) dX7_splitText_31 MX7_84 (ka hF 279 (by decide)) rfl rfl rfl rfl (Nat.le_of_ble_eq_true rfl) ?_
  exact e1

theorem b3C_spl {G : Cx} {d : Nat} {m : Mm} {Q : Option Value → Mm → Prop} {p q c : Nat} (hF : Full G m) (hc : fi m 708 (gB G + 279) = nI c) 
    (e1 : WPM G (d + 6) (0, 0) μX7_kindOf [.ref (gB G + 279), .int (nI p), .int (nI q)] m (fun r' m' => WP G (d + 7) (0, 0) μX7_splitText 49 [.ref (gB G + 279), .int (nI p), lvU, .int (nI q)] (r'.toList ++ [.int (nI c), .ref (gB G + 290)]) m' Q)) :
    WP G (d + 7) (0, 0) μX7_splitText 34 [.ref (gB G + 279), .int (nI p), lvU, lvU] [.int (nI q)] m Q := by
  refine wp_istore_n dX7_splitText_34 (by decide) rfl ?_
  refine wp_aload_n dX7_splitText_35 rfl ?_
  refine wp_getr (gB G + 290) dX7_splitText_36 fX7_26 (ka hF 279 (by decide)) (hF.2 _ _) (rra 11 (isK_le (ka hF 279 (by decide))) (fun _ => rfl)) ?_
  refine wp_aload_n dX7_splitText_39 rfl ?_
  refine wp_geti (nI c) dX7_splitText_40 fX7_77 (Or.inl rfl) (ka hF 279 (by decide)) hc ?_
  refine wp_aload_n dX7_splitText_43 rfl ?_
  refine wp_iload_n dX7_splitText_44 rfl ?_
  refine wp_iload_n dX7_splitText_45 rfl ?_
  refine wp_callV (As := [.int (nI p), .int (nI q)]) (S := [.int (nI c), .ref (gB G + 290)]) (b' := (0, 0)) (b := (0, 0)) dX7_splitText_46 MX7_87 (ka hF 279 (by decide)) rfl rfl rfl rfl (Nat.le_of_ble_eq_true rfl) ?_
  exact e1

theorem b4C_spl {G : Cx} {d : Nat} {m : Mm} {Q : Option Value → Mm → Prop} {p q k c : Nat} (hF : Full G m) (hc : fi m 708 (gB G + 279) = nI c) (hc5 : c < 501) 
    (e1 : WPM G (d + 6) (0, 0) μX7_numberIn [.ref (gB G + 279), .int (nI p), .int (nI q)] (wai (wai m (gB G + 290) c (nI k)) (gB G + 291) c (nI p)) (fun r' m' => WP G (d + 7) (0, 0) μX7_splitText 74 [.ref (gB G + 279), lvU, lvU, .int (nI q)] (r'.toList ++ [.int (nI c), .ref (gB G + 292)]) m' Q)) :
    WP G (d + 7) (0, 0) μX7_splitText 49 [.ref (gB G + 279), .int (nI p), lvU, .int (nI q)] [.int (nI k), .int (nI c), .ref (gB G + 290)] m Q := by
  refine wp_iastk (n := 501) c dX7_splitText_49 (ka hF 290 (by decide)) (la 290) (vin (by omega) (by decide))  (nIc (by omega)) ?_
  have hF1 := Full_wai (gB G + 290) c (nI k) hF
  refine wp_aload_n dX7_splitText_50 rfl ?_
  refine wp_getr (gB G + 291) dX7_splitText_51 fX7_30 (ka hF1 279 (by decide)) (hF1.2 _ _) (rra 12 (isK_le (ka hF1 279 (by decide))) (fun _ => rfl)) ?_
  refine wp_aload_n dX7_splitText_54 rfl ?_
  refine wp_geti (nI c) dX7_splitText_55 fX7_77 (Or.inl rfl) (ka hF1 279 (by decide)) (fi_wai.trans hc) ?_
  refine wp_iload_n dX7_splitText_58 rfl ?_
  refine wp_iastk (n := 501) c dX7_splitText_59 (ka hF1 291 (by decide)) (la 291) (vin (by omega) (by decide))  (nIc (by omega)) ?_
  have hF2 := Full_wai (gB G + 291) c (nI p) hF1
  refine wp_aload_n dX7_splitText_60 rfl ?_
  refine wp_getr (gB G + 292) dX7_splitText_61 fX7_33 (ka hF2 279 (by decide)) (hF2.2 _ _) (rra 13 (isK_le (ka hF2 279 (by decide))) (fun _ => rfl)) ?_
  refine wp_aload_n dX7_splitText_64 rfl ?_
  refine wp_geti (nI c) dX7_splitText_65 fX7_77 (Or.inl rfl) (ka hF2 279 (by decide)) (fi_wai.trans (fi_wai.trans hc)) ?_
  refine wp_aload_n dX7_splitText_68 rfl ?_
  refine wp_iload_n dX7_splitText_69 rfl ?_
  refine wp_iload_n dX7_splitText_70 rfl ?_
  refine wp_forget [.ref (gB G + 279), lvU, lvU, .int (nI q)] ⟨Or.inl rfl, Or.inr rfl, Or.inr rfl, Or.inl rfl, trivial⟩ ?_
  refine wp_callV (As := [.int (nI p), .int (nI q)]) (S := [.int (nI c), .ref (gB G + 292)]) (b' := (0, 0)) (b := (0, 0)) dX7_splitText_71 MX7_91 (ka hF2 279 (by decide)) rfl rfl rfl rfl (Nat.le_of_ble_eq_true rfl) ?_
  exact e1

theorem b5C_spl {G : Cx} {d : Nat} {m : Mm} {Q : Option Value → Mm → Prop} {p q v k c : Nat} (hF : Full G m) (hc : fi m 708 (gB G + 279) = nI c) (hc5 : c < 501) (hk : ai m (gB G + 290) c = nI k) (hk9 : k < 1000) 
    (e1 : k = 0 → WP G (d + 7) (0, 0) μX7_splitText 9 [.ref (gB G + 279), .int (nI q), .int (0 : Int32), lvU] [] (wfi (wai m (gB G + 292) c (nI v)) 708 (gB G + 279) (nI (c + 1))) Q)
    (e2 : ¬ k = 0 → k = 1 → WP G (d + 7) (0, 0) μX7_splitText 9 [.ref (gB G + 279), .int (nI q), .int (0 : Int32), lvU] [] (wfi (wai m (gB G + 292) c (nI v)) 708 (gB G + 279) (nI (c + 1))) Q)
    (e3 : ¬ k = 0 → ¬ k = 1 → WP G (d + 7) (0, 0) μX7_splitText 9 [.ref (gB G + 279), .int (nI q), .int (1 : Int32), lvU] [] (wfi (wai m (gB G + 292) c (nI v)) 708 (gB G + 279) (nI (c + 1))) Q) :
    WP G (d + 7) (0, 0) μX7_splitText 74 [.ref (gB G + 279), lvU, lvU, .int (nI q)] [.int (nI v), .int (nI c), .ref (gB G + 292)] m Q := by
  refine wp_iastk (n := 501) c dX7_splitText_74 (ka hF 292 (by decide)) (la 292) (vin (by omega) (by decide))  (nIc (by omega)) ?_
  have hF1 := Full_wai (gB G + 292) c (nI v) hF
  refine wp_aload_n dX7_splitText_75 rfl ?_
  refine wp_getr (gB G + 290) dX7_splitText_76 fX7_26 (ka hF1 279 (by decide)) (hF1.2 _ _) (rra 11 (isK_le (ka hF1 279 (by decide))) (fun _ => rfl)) ?_
  refine wp_aload_n dX7_splitText_79 rfl ?_
  refine wp_geti (nI c) dX7_splitText_80 fX7_77 (Or.inl rfl) (ka hF1 279 (by decide)) (fi_wai.trans hc) ?_
  refine wp_ialdk (n := 501) c (nI k) dX7_splitText_83 (ka hF1 290 (by decide)) (la 290) (vin (by omega) (by decide)) (nIc (by omega)) ((ai_na (by omega)).trans hk) ?_
  refine wp_if_eq 104 dX7_splitText_84 (by decide) (fun q2 => ?_) (fun q3 => ?_)
  · have hp4 : k = 0 := (neq q2 (by omega) (by omega))
    refine wp_iconst (0 : Int32) dX7_splitText_104 (by decide) ?_
    refine wp_istore_n dX7_splitText_105 (by decide) rfl ?_
    refine wp_iload_n dX7_splitText_106 rfl ?_
    refine wp_istore_n dX7_splitText_107 (by decide) rfl ?_
    refine wp_aload_n dX7_splitText_108 rfl ?_
    refine wp_dup dX7_splitText_109 rfl ?_
    refine wp_geti (nI c) dX7_splitText_110 fX7_77 (Or.inl rfl) (ka hF1 279 (by decide)) (fi_wai.trans hc) ?_
    refine wp_iconst (1 : Int32) dX7_splitText_113 (by decide) ?_
    refine wp_iaddv (nI (c + 1)) dX7_splitText_114 (nadd (a := c) (b := 1) (by omega)) ?_
    refine wp_puti dX7_splitText_115 pX7_77 (ka hF1 279 (by decide)) ?_
    have hF5 := Full_wfi 708 (gB G + 279) (nI (c + 1)) hF1
    refine wp_goto 9 dX7_splitText_118 (by decide) ?_
    refine wp_forget [.ref (gB G + 279), .int (nI q), .int (0 : Int32), lvU] ⟨Or.inl rfl, Or.inl rfl, Or.inl rfl, Or.inr rfl, trivial⟩ ?_
    exact e1 hp4
  · have hp6 : ¬ k = 0 := (fun z => q3 (congrArg nI z))
    refine wp_aload_n dX7_splitText_87 rfl ?_
    refine wp_getr (gB G + 290) dX7_splitText_88 fX7_26 (ka hF1 279 (by decide)) (hF1.2 _ _) (rra 11 (isK_le (ka hF1 279 (by decide))) (fun _ => rfl)) ?_
    refine wp_aload_n dX7_splitText_91 rfl ?_
    refine wp_geti (nI c) dX7_splitText_92 fX7_77 (Or.inl rfl) (ka hF1 279 (by decide)) (fi_wai.trans hc) ?_
    refine wp_ialdk (n := 501) c (nI k) dX7_splitText_95 (ka hF1 290 (by decide)) (la 290) (vin (by omega) (by decide)) (nIc (by omega)) ((ai_na (by omega)).trans hk) ?_
    refine wp_iconst (1 : Int32) dX7_splitText_96 (by decide) ?_
    refine wp_icmp_eq 104 dX7_splitText_97 (by decide) (fun q7 => ?_) (fun q8 => ?_)
    · have hp9 : k = 1 := (neq q7 (by omega) (by omega))
      refine wp_iconst (0 : Int32) dX7_splitText_104 (by decide) ?_
      refine wp_istore_n dX7_splitText_105 (by decide) rfl ?_
      refine wp_iload_n dX7_splitText_106 rfl ?_
      refine wp_istore_n dX7_splitText_107 (by decide) rfl ?_
      refine wp_aload_n dX7_splitText_108 rfl ?_
      refine wp_dup dX7_splitText_109 rfl ?_
      refine wp_geti (nI c) dX7_splitText_110 fX7_77 (Or.inl rfl) (ka hF1 279 (by decide)) (fi_wai.trans hc) ?_
      refine wp_iconst (1 : Int32) dX7_splitText_113 (by decide) ?_
      refine wp_iaddv (nI (c + 1)) dX7_splitText_114 (nadd (a := c) (b := 1) (by omega)) ?_
      refine wp_puti dX7_splitText_115 pX7_77 (ka hF1 279 (by decide)) ?_
      have hF10 := Full_wfi 708 (gB G + 279) (nI (c + 1)) hF1
      refine wp_goto 9 dX7_splitText_118 (by decide) ?_
      refine wp_forget [.ref (gB G + 279), .int (nI q), .int (0 : Int32), lvU] ⟨Or.inl rfl, Or.inl rfl, Or.inl rfl, Or.inr rfl, trivial⟩ ?_
      exact e2 hp6 hp9
    · have hp11 : ¬ k = 1 := (fun z => q8 (congrArg nI z))
      refine wp_iconst (1 : Int32) dX7_splitText_100 (by decide) ?_
      refine wp_goto 105 dX7_splitText_101 (by decide) ?_
      refine wp_istore_n dX7_splitText_105 (by decide) rfl ?_
      refine wp_iload_n dX7_splitText_106 rfl ?_
      refine wp_istore_n dX7_splitText_107 (by decide) rfl ?_
      refine wp_aload_n dX7_splitText_108 rfl ?_
      refine wp_dup dX7_splitText_109 rfl ?_
      refine wp_geti (nI c) dX7_splitText_110 fX7_77 (Or.inl rfl) (ka hF1 279 (by decide)) (fi_wai.trans hc) ?_
      refine wp_iconst (1 : Int32) dX7_splitText_113 (by decide) ?_
      refine wp_iaddv (nI (c + 1)) dX7_splitText_114 (nadd (a := c) (b := 1) (by omega)) ?_
      refine wp_puti dX7_splitText_115 pX7_77 (ka hF1 279 (by decide)) ?_
      have hF12 := Full_wfi 708 (gB G + 279) (nI (c + 1)) hF1
      refine wp_goto 9 dX7_splitText_118 (by decide) ?_
      refine wp_forget [.ref (gB G + 279), .int (nI q), .int (1 : Int32), lvU] ⟨Or.inl rfl, Or.inl rfl, Or.inl rfl, Or.inr rfl, trivial⟩ ?_
      exact e3 hp6 hp11
