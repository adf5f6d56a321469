/-! THE REFERENCE'S READER: blocks; bytes tested -/
def leM (x : Int32) : Int32 := if x < 97 then 0 else if 122 < x then 0 else 1
def diM (x : Int32) : Int32 := if x < 48 then 0 else if 57 < x then 0 else 1
def syM (x : Int32) : Int32 := if x = 60 ∨ x = 62 ∨ x = 61 ∨ x = 43 ∨ x = 45 ∨ x = 42 ∨ x = 47 ∨ x = 40 ∨ x = 41 ∨ x = 58 ∨ x = 59 then 1 else 0
def rkM (x : Int32) : Int32 := if x = 9 ∨ x = 10 then 1 else if x = 11 ∨ x = 12 then 2 else 0

theorem e_leM {G : Cx} {d : Nat} {m : Mm} {Q : Option Value → Mm → Prop} {x : Int32} 
    (e1 : x < (97 : Int32) → Q (some (.int (0 : Int32))) m)
    (e2 : ¬ x < (97 : Int32) → (122 : Int32) < x → Q (some (.int (0 : Int32))) m)
    (e3 : ¬ x < (97 : Int32) → ¬ (122 : Int32) < x → Q (some (.int (1 : Int32))) m) :
    WPM G (d + 1) (0, 0) μX11_isLetter [.int x] m Q := by
  refine WPM.of pX11 (Nat.le_of_ble_eq_true rfl) rfl ?_
  refine wp_iload_n dX11_isLetter_0 rfl ?_
  refine wp_bipush (97 : Int32) dX11_isLetter_1 (by decide) ?_
  refine wp_bipush (122 : Int32) dX11_isLetter_3 (by decide) ?_
  refine wp_callS (As := [.int x, .int (97 : Int32), .int (122 : Int32)]) (S := []) (b' := (0, 0)) (b := (0, 0)) dX11_isLetter_5 MX11_67 rfl rfl (Nat.le_of_ble_eq_true rfl) ?_
  refine WPM.of pX11 (Nat.le_of_ble_eq_true rfl) rfl ?_
  refine wp_iload_n dX11_isBetween_0 rfl ?_
  refine wp_iload_n dX11_isBetween_1 rfl ?_
  refine wp_icmp_lt 14 dX11_isBetween_2 (by decide) (fun q1 => ?_) (fun q2 => ?_)
  · skip
    refine wp_iconst (0 : Int32) dX11_isBetween_14 (by decide) ?_
    refine wp_zret dX11_isBetween_15 rfl rfl ?_
    show WP G (d + 1) (0, 0) μX11_isLetter 8 [.int x] [.int (0 : Int32)] m _
    exact wp_zret dX11_isLetter_8 rfl rfl (e1 q1)
  · skip
    refine wp_iload_n dX11_isBetween_5 rfl ?_
    refine wp_iload_n dX11_isBetween_6 rfl ?_
    refine wp_icmp_gt 14 dX11_isBetween_7 (by decide) (fun q3 => ?_) (fun q4 => ?_)
    · skip
      refine wp_iconst (0 : Int32) dX11_isBetween_14 (by decide) ?_
      refine wp_zret dX11_isBetween_15 rfl rfl ?_
      show WP G (d + 1) (0, 0) μX11_isLetter 8 [.int x] [.int (0 : Int32)] m _
      exact wp_zret dX11_isLetter_8 rfl rfl (e2 q2 q3)
    · skip
      refine wp_iconst (1 : Int32) dX11_isBetween_10 (by decide) ?_
      refine wp_goto 15 dX11_isBetween_11 (by decide) ?_
      refine wp_zret dX11_isBetween_15 rfl rfl ?_
      show WP G (d + 1) (0, 0) μX11_isLetter 8 [.int x] [.int (1 : Int32)] m _
      exact wp_zret dX11_isLetter_8 rfl rfl (e3 q2 q4)

theorem e_diM {G : Cx} {d : Nat} {m : Mm} {Q : Option Value → Mm → Prop} {x : Int32} 
    (e1 : x < (48 : Int32) → Q (some (.int (0 : Int32))) m)
    (e2 : ¬ x < (48 : Int32) → (57 : Int32) < x → Q (some (.int (0 : Int32))) m)
    (e3 : ¬ x < (48 : Int32) → ¬ (57 : Int32) < x → Q (some (.int (1 : Int32))) m) :
    WPM G (d + 1) (0, 0) μX11_isDigit [.int x] m Q := by
  refine WPM.of pX11 (Nat.le_of_ble_eq_true rfl) rfl ?_
  refine wp_iload_n dX11_isDigit_0 rfl ?_
  refine wp_bipush (48 : Int32) dX11_isDigit_1 (by decide) ?_
  refine wp_bipush (57 : Int32) dX11_isDigit_3 (by decide) ?_
  refine wp_callS (As := [.int x, .int (48 : Int32), .int (57 : Int32)]) (S := []) (b' := (0, 0)) (b := (0, 0)) dX11_isDigit_5 MX11_67 rfl rfl (Nat.le_of_ble_eq_true rfl) ?_
  refine WPM.of pX11 (Nat.le_of_ble_eq_true rfl) rfl ?_
  refine wp_iload_n dX11_isBetween_0 rfl ?_
  refine wp_iload_n dX11_isBetween_1 rfl ?_
  refine wp_icmp_lt 14 dX11_isBetween_2 (by decide) (fun q1 => ?_) (fun q2 => ?_)
  · skip
    refine wp_iconst (0 : Int32) dX11_isBetween_14 (by decide) ?_
    refine wp_zret dX11_isBetween_15 rfl rfl ?_
    show WP G (d + 1) (0, 0) μX11_isDigit 8 [.int x] [.int (0 : Int32)] m _
    exact wp_zret dX11_isDigit_8 rfl rfl (e1 q1)
  · skip
    refine wp_iload_n dX11_isBetween_5 rfl ?_
    refine wp_iload_n dX11_isBetween_6 rfl ?_
    refine wp_icmp_gt 14 dX11_isBetween_7 (by decide) (fun q3 => ?_) (fun q4 => ?_)
    · skip
      refine wp_iconst (0 : Int32) dX11_isBetween_14 (by decide) ?_
      refine wp_zret dX11_isBetween_15 rfl rfl ?_
      show WP G (d + 1) (0, 0) μX11_isDigit 8 [.int x] [.int (0 : Int32)] m _
      exact wp_zret dX11_isDigit_8 rfl rfl (e2 q2 q3)
    · skip
      refine wp_iconst (1 : Int32) dX11_isBetween_10 (by decide) ?_
      refine wp_goto 15 dX11_isBetween_11 (by decide) ?_
      refine wp_zret dX11_isBetween_15 rfl rfl ?_
      show WP G (d + 1) (0, 0) μX11_isDigit 8 [.int x] [.int (1 : Int32)] m _
      exact wp_zret dX11_isDigit_8 rfl rfl (e3 q2 q4)

theorem e_syM {G : Cx} {d : Nat} {m : Mm} {Q : Option Value → Mm → Prop} {x : Int32} 
    (e1 : x = (60 : Int32) → Q (some (.int (1 : Int32))) m)
    (e2 : ¬ x = (60 : Int32) → x = (62 : Int32) → Q (some (.int (1 : Int32))) m)
    (e3 : ¬ x = (60 : Int32) → ¬ x = (62 : Int32) → x = (61 : Int32) → Q (some (.int (1 : Int32))) m)
    (e4 : ¬ x = (60 : Int32) → ¬ x = (62 : Int32) → ¬ x = (61 : Int32) → x = (43 : Int32) → Q (some (.int (1 : Int32))) m)
    (e5 : ¬ x = (60 : Int32) → ¬ x = (62 : Int32) → ¬ x = (61 : Int32) → ¬ x = (43 : Int32) → x = (45 : Int32) → Q (some (.int (1 : Int32))) m)
    (e6 : ¬ x = (60 : Int32) → ¬ x = (62 : Int32) → ¬ x = (61 : Int32) → ¬ x = (43 : Int32) → ¬ x = (45 : Int32) → x = (42 : Int32) → Q (some (.int (1 : Int32))) m)
    (e7 : ¬ x = (60 : Int32) → ¬ x = (62 : Int32) → ¬ x = (61 : Int32) → ¬ x = (43 : Int32) → ¬ x = (45 : Int32) → ¬ x = (42 : Int32) → ¬ x = (47 : Int32) → x = (40 : Int32) → Q (some (.int (1 : Int32))) m)
    (e8 : ¬ x = (60 : Int32) → ¬ x = (62 : Int32) → ¬ x = (61 : Int32) → ¬ x = (43 : Int32) → ¬ x = (45 : Int32) → ¬ x = (42 : Int32) → ¬ x = (47 : Int32) → ¬ x = (40 : Int32) → x = (41 : Int32) → Q (some (.int (1 : Int32))) m)
    (e9 : ¬ x = (60 : Int32) → ¬ x = (62 : Int32) → ¬ x = (61 : Int32) → ¬ x = (43 : Int32) → ¬ x = (45 : Int32) → ¬ x = (42 : Int32) → ¬ x = (47 : Int32) → ¬ x = (40 : Int32) → ¬ x = (41 : Int32) → x = (58 : Int32) → Q (some (.int (1 : Int32))) m)
    (e10 : ¬ x = (60 : Int32) → ¬ x = (62 : Int32) → ¬ x = (61 : Int32) → ¬ x = (43 : Int32) → ¬ x = (45 : Int32) → ¬ x = (42 : Int32) → ¬ x = (47 : Int32) → ¬ x = (40 : Int32) → ¬ x = (41 : Int32) → ¬ x = (58 : Int32) → ¬ x = (59 : Int32) → Q (some (.int (0 : Int32))) m)
    (e11 : ¬ x = (60 : Int32) → ¬ x = (62 : Int32) → ¬ x = (61 : Int32) → ¬ x = (43 : Int32) → ¬ x = (45 : Int32) → ¬ x = (42 : Int32) → ¬ x = (47 : Int32) → ¬ x = (40 : Int32) → ¬ x = (41 : Int32) → ¬ x = (58 : Int32) → x = (59 : Int32) → Q (some (.int (1 : Int32))) m)
    (e12 : ¬ x = (60 : Int32) → ¬ x = (62 : Int32) → ¬ x = (61 : Int32) → ¬ x = (43 : Int32) → ¬ x = (45 : Int32) → ¬ x = (42 : Int32) → x = (47 : Int32) → Q (some (.int (1 : Int32))) m) :
    WPM G (d + 0) (0, 0) μX11_isSymbol [.int x] m Q := by
  refine WPM.of pX11 (Nat.le_of_ble_eq_true rfl) rfl ?_
  refine wp_iload_n dX11_isSymbol_0 rfl ?_
  refine wp_bipush (60 : Int32) dX11_isSymbol_1 (by decide) ?_
  refine wp_icmp_eq 42 dX11_isSymbol_3 (by decide) (fun q1 => ?_) (fun q2 => ?_)
  · skip
    refine wp_iconst (1 : Int32) dX11_isSymbol_42 (by decide) ?_
    refine wp_goto 47 dX11_isSymbol_43 (by decide) ?_
    refine wp_istore_n dX11_isSymbol_47 (by decide) rfl ?_
    refine wp_iload_n dX11_isSymbol_48 rfl ?_
    refine wp_if_ne 76 dX11_isSymbol_49 (by decide) (fun _ => ?_) (fun q => absurd q (by decide))
    refine wp_iconst (1 : Int32) dX11_isSymbol_76 (by decide) ?_
    refine wp_goto 81 dX11_isSymbol_77 (by decide) ?_
    exact wp_zret dX11_isSymbol_81 rfl rfl (e1 q1)
  · skip
    refine wp_iload_n dX11_isSymbol_6 rfl ?_
    refine wp_bipush (62 : Int32) dX11_isSymbol_7 (by decide) ?_
    refine wp_icmp_eq 42 dX11_isSymbol_9 (by decide) (fun q3 => ?_) (fun q4 => ?_)
    · skip
      refine wp_iconst (1 : Int32) dX11_isSymbol_42 (by decide) ?_
      refine wp_goto 47 dX11_isSymbol_43 (by decide) ?_
      refine wp_istore_n dX11_isSymbol_47 (by decide) rfl ?_
      refine wp_iload_n dX11_isSymbol_48 rfl ?_
      refine wp_if_ne 76 dX11_isSymbol_49 (by decide) (fun _ => ?_) (fun q => absurd q (by decide))
      refine wp_iconst (1 : Int32) dX11_isSymbol_76 (by decide) ?_
      refine wp_goto 81 dX11_isSymbol_77 (by decide) ?_
      exact wp_zret dX11_isSymbol_81 rfl rfl (e2 q2 q3)
    · skip
      refine wp_iload_n dX11_isSymbol_12 rfl ?_
      refine wp_bipush (61 : Int32) dX11_isSymbol_13 (by decide) ?_
      refine wp_icmp_eq 42 dX11_isSymbol_15 (by decide) (fun q5 => ?_) (fun q6 => ?_)
      · skip
        refine wp_iconst (1 : Int32) dX11_isSymbol_42 (by decide) ?_
        refine wp_goto 47 dX11_isSymbol_43 (by decide) ?_
        refine wp_istore_n dX11_isSymbol_47 (by decide) rfl ?_
        refine wp_iload_n dX11_isSymbol_48 rfl ?_
        refine wp_if_ne 76 dX11_isSymbol_49 (by decide) (fun _ => ?_) (fun q => absurd q (by decide))
        refine wp_iconst (1 : Int32) dX11_isSymbol_76 (by decide) ?_
        refine wp_goto 81 dX11_isSymbol_77 (by decide) ?_
        exact wp_zret dX11_isSymbol_81 rfl rfl (e3 q2 q4 q5)
      · skip
        refine wp_iload_n dX11_isSymbol_18 rfl ?_
        refine wp_bipush (43 : Int32) dX11_isSymbol_19 (by decide) ?_
        refine wp_icmp_eq 42 dX11_isSymbol_21 (by decide) (fun q7 => ?_) (fun q8 => ?_)
        · skip
          refine wp_iconst (1 : Int32) dX11_isSymbol_42 (by decide) ?_
          refine wp_goto 47 dX11_isSymbol_43 (by decide) ?_
          refine wp_istore_n dX11_isSymbol_47 (by decide) rfl ?_
          refine wp_iload_n dX11_isSymbol_48 rfl ?_
          refine wp_if_ne 76 dX11_isSymbol_49 (by decide) (fun _ => ?_) (fun q => absurd q (by decide))
          refine wp_iconst (1 : Int32) dX11_isSymbol_76 (by decide) ?_
          refine wp_goto 81 dX11_isSymbol_77 (by decide) ?_
          exact wp_zret dX11_isSymbol_81 rfl rfl (e4 q2 q4 q6 q7)
        · skip
          refine wp_iload_n dX11_isSymbol_24 rfl ?_
          refine wp_bipush (45 : Int32) dX11_isSymbol_25 (by decide) ?_
          refine wp_icmp_eq 42 dX11_isSymbol_27 (by decide) (fun q9 => ?_) (fun q10 => ?_)
          · skip
            refine wp_iconst (1 : Int32) dX11_isSymbol_42 (by decide) ?_
            refine wp_goto 47 dX11_isSymbol_43 (by decide) ?_
            refine wp_istore_n dX11_isSymbol_47 (by decide) rfl ?_
            refine wp_iload_n dX11_isSymbol_48 rfl ?_
            refine wp_if_ne 76 dX11_isSymbol_49 (by decide) (fun _ => ?_) (fun q => absurd q (by decide))
            refine wp_iconst (1 : Int32) dX11_isSymbol_76 (by decide) ?_
            refine wp_goto 81 dX11_isSymbol_77 (by decide) ?_
            exact wp_zret dX11_isSymbol_81 rfl rfl (e5 q2 q4 q6 q8 q9)
          · skip
            refine wp_iload_n dX11_isSymbol_30 rfl ?_
            refine wp_bipush (42 : Int32) dX11_isSymbol_31 (by decide) ?_
            refine wp_icmp_eq 42 dX11_isSymbol_33 (by decide) (fun q11 => ?_) (fun q12 => ?_)
            · skip
              refine wp_iconst (1 : Int32) dX11_isSymbol_42 (by decide) ?_
              refine wp_goto 47 dX11_isSymbol_43 (by decide) ?_
              refine wp_istore_n dX11_isSymbol_47 (by decide) rfl ?_
              refine wp_iload_n dX11_isSymbol_48 rfl ?_
              refine wp_if_ne 76 dX11_isSymbol_49 (by decide) (fun _ => ?_) (fun q => absurd q (by decide))
              refine wp_iconst (1 : Int32) dX11_isSymbol_76 (by decide) ?_
              refine wp_goto 81 dX11_isSymbol_77 (by decide) ?_
              exact wp_zret dX11_isSymbol_81 rfl rfl (e6 q2 q4 q6 q8 q10 q11)
            · skip
              refine wp_iload_n dX11_isSymbol_36 rfl ?_
              refine wp_bipush (47 : Int32) dX11_isSymbol_37 (by decide) ?_
              refine wp_icmp_ne 46 dX11_isSymbol_39 (by decide) (fun q13 => ?_) (fun q14 => ?_)
              · skip
                refine wp_iconst (0 : Int32) dX11_isSymbol_46 (by decide) ?_
                refine wp_istore_n dX11_isSymbol_47 (by decide) rfl ?_
                refine wp_iload_n dX11_isSymbol_48 rfl ?_
                refine wp_if_ne 76 dX11_isSymbol_49 (by decide) (fun q => absurd (by decide) q) (fun _ => ?_)
                refine wp_iload_n dX11_isSymbol_52 rfl ?_
                refine wp_bipush (40 : Int32) dX11_isSymbol_53 (by decide) ?_
                refine wp_icmp_eq 76 dX11_isSymbol_55 (by decide) (fun q15 => ?_) (fun q16 => ?_)
                · skip
                  refine wp_iconst (1 : Int32) dX11_isSymbol_76 (by decide) ?_
                  refine wp_goto 81 dX11_isSymbol_77 (by decide) ?_
                  exact wp_zret dX11_isSymbol_81 rfl rfl (e7 q2 q4 q6 q8 q10 q12 q13 q15)
                · skip
                  refine wp_iload_n dX11_isSymbol_58 rfl ?_
                  refine wp_bipush (41 : Int32) dX11_isSymbol_59 (by decide) ?_
                  refine wp_icmp_eq 76 dX11_isSymbol_61 (by decide) (fun q17 => ?_) (fun q18 => ?_)
                  · skip
                    refine wp_iconst (1 : Int32) dX11_isSymbol_76 (by decide) ?_
                    refine wp_goto 81 dX11_isSymbol_77 (by decide) ?_
                    exact wp_zret dX11_isSymbol_81 rfl rfl (e8 q2 q4 q6 q8 q10 q12 q13 q16 q17)
                  · skip
                    refine wp_iload_n dX11_isSymbol_64 rfl ?_
                    refine wp_bipush (58 : Int32) dX11_isSymbol_65 (by decide) ?_
                    refine wp_icmp_eq 76 dX11_isSymbol_67 (by decide) (fun q19 => ?_) (fun q20 => ?_)
                    · skip
                      refine wp_iconst (1 : Int32) dX11_isSymbol_76 (by decide) ?_
                      refine wp_goto 81 dX11_isSymbol_77 (by decide) ?_
                      exact wp_zret dX11_isSymbol_81 rfl rfl (e9 q2 q4 q6 q8 q10 q12 q13 q16 q18 q19)
                    · skip
                      refine wp_iload_n dX11_isSymbol_70 rfl ?_
                      refine wp_bipush (59 : Int32) dX11_isSymbol_71 (by decide) ?_
                      refine wp_icmp_ne 80 dX11_isSymbol_73 (by decide) (fun q21 => ?_) (fun q22 => ?_)
                      · skip
                        refine wp_iconst (0 : Int32) dX11_isSymbol_80 (by decide) ?_
                        exact wp_zret dX11_isSymbol_81 rfl rfl (e10 q2 q4 q6 q8 q10 q12 q13 q16 q18 q20 q21)
                      · skip
                        refine wp_iconst (1 : Int32) dX11_isSymbol_76 (by decide) ?_
                        refine wp_goto 81 dX11_isSymbol_77 (by decide) ?_
                        exact wp_zret dX11_isSymbol_81 rfl rfl (e11 q2 q4 q6 q8 q10 q12 q13 q16 q18 q20 q22)
              · skip
                refine wp_iconst (1 : Int32) dX11_isSymbol_42 (by decide) ?_
                refine wp_goto 47 dX11_isSymbol_43 (by decide) ?_
                refine wp_istore_n dX11_isSymbol_47 (by decide) rfl ?_
                refine wp_iload_n dX11_isSymbol_48 rfl ?_
                refine wp_if_ne 76 dX11_isSymbol_49 (by decide) (fun _ => ?_) (fun q => absurd q (by decide))
                refine wp_iconst (1 : Int32) dX11_isSymbol_76 (by decide) ?_
                refine wp_goto 81 dX11_isSymbol_77 (by decide) ?_
                exact wp_zret dX11_isSymbol_81 rfl rfl (e12 q2 q4 q6 q8 q10 q12 q14)

theorem e_rkM {G : Cx} {d : Nat} {m : Mm} {Q : Option Value → Mm → Prop} {x : Int32} 
    (e1 : x = (9 : Int32) → Q (some (.int (1 : Int32))) m)
    (e2 : x = (10 : Int32) → Q (some (.int (1 : Int32))) m)
    (e3 : x = (11 : Int32) → Q (some (.int (2 : Int32))) m)
    (e4 : x = (12 : Int32) → Q (some (.int (2 : Int32))) m)
    (e5 : ¬ x = (9 : Int32) → ¬ x = (10 : Int32) → ¬ x = (11 : Int32) → ¬ x = (12 : Int32) → Q (some (.int (0 : Int32))) m) :
    WPM G (d + 0) (0, 0) μX11_rankOf [.int x] m Q := by
  refine WPM.of pX11 (Nat.le_of_ble_eq_true rfl) rfl ?_
  refine wp_iload_n dX11_rankOf_0 rfl ?_
  by_cases sw1 : x = (9 : Int32)
  · refine wp_tableIn (off := 31) 32 dX11_rankOf_1 (by rw [sw1]; decide) (by rw [sw1]; decide) (by rw [sw1]; rfl) (by decide) ?_
    refine wp_iconst (1 : Int32) dX11_rankOf_32 (by decide) ?_
    exact wp_iret dX11_rankOf_33 rfl (e1 sw1)
  by_cases sw2 : x = (10 : Int32)
  · refine wp_tableIn (off := 31) 32 dX11_rankOf_1 (by rw [sw2]; decide) (by rw [sw2]; decide) (by rw [sw2]; rfl) (by decide) ?_
    refine wp_iconst (1 : Int32) dX11_rankOf_32 (by decide) ?_
    exact wp_iret dX11_rankOf_33 rfl (e2 sw2)
  by_cases sw3 : x = (11 : Int32)
  · refine wp_tableIn (off := 33) 34 dX11_rankOf_1 (by rw [sw3]; decide) (by rw [sw3]; decide) (by rw [sw3]; rfl) (by decide) ?_
    refine wp_iconst (2 : Int32) dX11_rankOf_34 (by decide) ?_
    exact wp_iret dX11_rankOf_35 rfl (e3 sw3)
  by_cases sw4 : x = (12 : Int32)
  · refine wp_tableIn (off := 33) 34 dX11_rankOf_1 (by rw [sw4]; decide) (by rw [sw4]; decide) (by rw [sw4]; rfl) (by decide) ?_
    refine wp_iconst (2 : Int32) dX11_rankOf_34 (by decide) ?_
    exact wp_iret dX11_rankOf_35 rfl (e4 sw4)
  refine wp_tableD (js := [9, 10, 11, 12]) 36 dX11_rankOf_1 (List.forall_mem_cons.mpr ⟨sw1, List.forall_mem_cons.mpr ⟨sw2, List.forall_mem_cons.mpr ⟨sw3, List.forall_mem_cons.mpr ⟨sw4, fun _ h => absurd h List.not_mem_nil⟩⟩⟩⟩) (by decide +kernel) (by decide) (by decide) ?_
  refine wp_iconst (0 : Int32) dX11_rankOf_36 (by decide) ?_
  exact wp_iret dX11_rankOf_37 rfl (e5 sw1 sw2 sw3 sw4)

section MROWS
variable {G : Cx} {d : Nat} {b : Nat × Nat} {μ : MI} {pc idx : Nat} {L S : List Value} {m : Mm} {Q : Option Value → Mm → Prop}
theorem M_leM {x : Int32} (k : Q (some (.int (leM x))) m) : WPM G (d + 1) (0, 0) μX11_isLetter [.int x] m Q := by
  unfold leM at k
  refine e_leM ?_ ?_ ?_
  all_goals (intros; simp [*] at k; exact k)
theorem wp_leMS {x : Int32} (hd : decode μ.2.1 pc = .ok (.invokestatic idx, 3)) (hl : MLs μ.1.cls idx μX11_isLetter 1) (hw : (S.map fun v => v.category).sum ≤ 8) (k : WP G (d + 2) b μ (pc + 3) L (.int (leM x) :: S) m Q) : WP G (d + 2) b μ pc L (.int x :: S) m Q :=
  wp_callS (As := [.int x]) (S := S) (b' := (0, 0)) (b := b) hd hl rfl (b00 b) hw (M_leM k)
theorem M_diM {x : Int32} (k : Q (some (.int (diM x))) m) : WPM G (d + 1) (0, 0) μX11_isDigit [.int x] m Q := by
  unfold diM at k
  refine e_diM ?_ ?_ ?_
  all_goals (intros; simp [*] at k; exact k)
theorem wp_diMS {x : Int32} (hd : decode μ.2.1 pc = .ok (.invokestatic idx, 3)) (hl : MLs μ.1.cls idx μX11_isDigit 1) (hw : (S.map fun v => v.category).sum ≤ 8) (k : WP G (d + 2) b μ (pc + 3) L (.int (diM x) :: S) m Q) : WP G (d + 2) b μ pc L (.int x :: S) m Q :=
  wp_callS (As := [.int x]) (S := S) (b' := (0, 0)) (b := b) hd hl rfl (b00 b) hw (M_diM k)
theorem M_syM {x : Int32} (k : Q (some (.int (syM x))) m) : WPM G (d + 0) (0, 0) μX11_isSymbol [.int x] m Q := by
  unfold syM at k
  refine e_syM ?_ ?_ ?_ ?_ ?_ ?_ ?_ ?_ ?_ ?_ ?_ ?_
  all_goals (intros; simp [*] at k; exact k)
theorem wp_syMS {x : Int32} (hd : decode μ.2.1 pc = .ok (.invokestatic idx, 3)) (hl : MLs μ.1.cls idx μX11_isSymbol 1) (hw : (S.map fun v => v.category).sum ≤ 8) (k : WP G (d + 1) b μ (pc + 3) L (.int (syM x) :: S) m Q) : WP G (d + 1) b μ pc L (.int x :: S) m Q :=
  wp_callS (As := [.int x]) (S := S) (b' := (0, 0)) (b := b) hd hl rfl (b00 b) hw (M_syM k)
theorem M_rkM {x : Int32} (k : Q (some (.int (rkM x))) m) : WPM G (d + 0) (0, 0) μX11_rankOf [.int x] m Q := by
  unfold rkM at k
  refine e_rkM ?_ ?_ ?_ ?_ ?_
  all_goals (intros; simp [*] at k; exact k)
theorem wp_rkMS {x : Int32} (hd : decode μ.2.1 pc = .ok (.invokestatic idx, 3)) (hl : MLs μ.1.cls idx μX11_rankOf 1) (hw : (S.map fun v => v.category).sum ≤ 8) (k : WP G (d + 1) b μ (pc + 3) L (.int (rkM x) :: S) m Q) : WP G (d + 1) b μ pc L (.int x :: S) m Q :=
  wp_callS (As := [.int x]) (S := S) (b' := (0, 0)) (b := b) hd hl rfl (b00 b) hw (M_rkM k)
end MROWS

theorem n0 {G : Cx} {d : Nat} {m : Mm} {Q : Option Value → Mm → Prop} {n p : Nat} (hF : Full G m) (hn : fi m 1111 (gB G + 293) = nI n) (hp : fi m 1112 (gB G + 293) = nI p) (hn5 : n ≤ 500) (hpn : p ≤ n) 
    (e1 : ¬ p < n → ¬ p < n → WP G (d + 6) (0, 0) μX11_nextToken 39 [.ref (gB G + 293), lvU] [] m Q)
    (e2 : ¬ p < n → p < n → ¬ (ai m (gB G + 304) p) = (10 : Int32) → WP G (d + 6) (0, 0) μX11_nextToken 39 [.ref (gB G + 293), lvU] [] m Q)
    (e3 : ¬ p < n → p < n → (ai m (gB G + 304) p) = (10 : Int32) → WP G (d + 6) (0, 0) μX11_nextToken 0 [.ref (gB G + 293), lvU] [] (wfi m 1112 (gB G + 293) (nI (p + 1))) Q)
    (e4 : p < n → (ai m (gB G + 304) p) = (32 : Int32) → WP G (d + 6) (0, 0) μX11_nextToken 0 [.ref (gB G + 293), lvU] [] (wfi m 1112 (gB G + 293) (nI (p + 1))) Q)
    (e5 : p < n → ¬ (ai m (gB G + 304) p) = (32 : Int32) → ¬ p < n → WP G (d + 6) (0, 0) μX11_nextToken 39 [.ref (gB G + 293), lvU] [] m Q)
    (e6 : p < n → ¬ (ai m (gB G + 304) p) = (32 : Int32) → p < n → ¬ (ai m (gB G + 304) p) = (10 : Int32) → WP G (d + 6) (0, 0) μX11_nextToken 39 [.ref (gB G + 293), lvU] [] m Q)
    (e7 : p < n → ¬ (ai m (gB G + 304) p) = (32 : Int32) → p < n → (ai m (gB G + 304) p) = (10 : Int32) → WP G (d + 6) (0, 0) μX11_nextToken 0 [.ref (gB G + 293), lvU] [] (wfi m 1112 (gB G + 293) (nI (p + 1))) Q) :
    WP G (d + 6) (0, 0) μX11_nextToken 0 [.ref (gB G + 293), lvU] [] m Q := by
  refine wp_aload_n dX11_nextToken_0 rfl ?_
  refine wp_aload_n dX11_nextToken_1 rfl ?_
  refine wp_geti (nI p) dX11_nextToken_2 fX11_250 (Or.inl rfl) (ka hF 293 (by decide)) hp ?_
  refine wp_callV (As := [.int (nI p)]) (S := []) (b' := (0, 0)) (b := (0, 0)) dX11_nextToken_5 MX11_253 (ka hF 293 (by decide)) rfl rfl rfl rfl (Nat.le_of_ble_eq_true rfl) ?_
  refine WPM.of pX11 (Nat.le_of_ble_eq_true rfl) rfl ?_
  refine wp_iload_n dX11_byteAt_0 rfl ?_
  refine wp_aload_n dX11_byteAt_1 rfl ?_
  refine wp_geti (nI n) dX11_byteAt_2 fX11_247 (Or.inl rfl) (ka hF 293 (by decide)) hn ?_
  refine wp_icmp_ge 17 dX11_byteAt_5 (by decide) (fun q1 => ?_) (fun q2 => ?_)
  · have hp3 : ¬ p < n := (fun z => q1 (nlt_ (b := n) z (by omega)))
    refine wp_iconst (-1 : Int32) dX11_byteAt_17 (by decide) ?_
    refine wp_iret dX11_byteAt_18 rfl ?_
    show WP G (d + 6) (0, 0) μX11_nextToken 8 [.ref (gB G + 293), lvU] [.int (-1 : Int32)] m _
    refine wp_bipush (32 : Int32) dX11_nextToken_8 (by decide) ?_
    refine wp_icmp_eq 26 dX11_nextToken_10 (by decide) (fun q => absurd q (by decide)) (fun _ => ?_)
    refine wp_aload_n dX11_nextToken_13 rfl ?_
    refine wp_aload_n dX11_nextToken_14 rfl ?_
    refine wp_geti (nI p) dX11_nextToken_15 fX11_250 (Or.inl rfl) (ka hF 293 (by decide)) hp ?_
    refine wp_callV (As := [.int (nI p)]) (S := []) (b' := (0, 0)) (b := (0, 0)) dX11_nextToken_18 MX11_253 (ka hF 293 (by decide)) rfl rfl rfl rfl (Nat.le_of_ble_eq_true rfl) ?_
    refine WPM.of pX11 (Nat.le_of_ble_eq_true rfl) rfl ?_
    refine wp_iload_n dX11_byteAt_0 rfl ?_
    refine wp_aload_n dX11_byteAt_1 rfl ?_
    refine wp_geti (nI n) dX11_byteAt_2 fX11_247 (Or.inl rfl) (ka hF 293 (by decide)) hn ?_
    refine wp_icmp_ge 17 dX11_byteAt_5 (by decide) (fun q4 => ?_) (fun q5 => ?_)
    · have hp6 : ¬ p < n := (fun z => q4 (nlt_ (b := n) z (by omega)))
      refine wp_iconst (-1 : Int32) dX11_byteAt_17 (by decide) ?_
      refine wp_iret dX11_byteAt_18 rfl ?_
      show WP G (d + 6) (0, 0) μX11_nextToken 21 [.ref (gB G + 293), lvU] [.int (-1 : Int32)] m _
      refine wp_bipush (10 : Int32) dX11_nextToken_21 (by decide) ?_
      refine wp_icmp_ne 39 dX11_nextToken_23 (by decide) (fun _ => ?_) (fun q => absurd q (by decide))
      refine wp_forget [.ref (gB G + 293), lvU] ⟨Or.inl rfl, Or.inr rfl, trivial⟩ ?_
      exact e1 hp3 hp6
    · have hp7 : p < n := (nlt q5 (by omega) (by omega))
      refine wp_aload_n dX11_byteAt_8 rfl ?_
      refine wp_getr (gB G + 304) dX11_byteAt_9 fX11_42 (ka hF 293 (by decide)) (hF.2 _ _) (rra 11 (isK_le (ka hF 293 (by decide))) (fun _ => rfl)) ?_
      refine wp_iload_n dX11_byteAt_12 rfl ?_
      refine wp_ialdk (n := 500) p (ai m (gB G + 304) p) dX11_byteAt_13 (ka hF 304 (by decide)) (la 304) (vin (by omega) (by decide)) (nIc (by omega)) rfl ?_
      refine wp_goto 18 dX11_byteAt_14 (by decide) ?_
      refine wp_iret dX11_byteAt_18 rfl ?_
      show WP G (d + 6) (0, 0) μX11_nextToken 21 [.ref (gB G + 293), lvU] [.int (ai m (gB G + 304) p)] m _
      refine wp_bipush (10 : Int32) dX11_nextToken_21 (by decide) ?_
      refine wp_icmp_ne 39 dX11_nextToken_23 (by decide) (fun q8 => ?_) (fun q9 => ?_)
      · skip
        refine wp_forget [.ref (gB G + 293), lvU] ⟨Or.inl rfl, Or.inr rfl, trivial⟩ ?_
        exact e2 hp3 hp7 q8
      · skip
        refine wp_aload_n dX11_nextToken_26 rfl ?_
        refine wp_dup dX11_nextToken_27 rfl ?_
        refine wp_geti (nI p) dX11_nextToken_28 fX11_250 (Or.inl rfl) (ka hF 293 (by decide)) hp ?_
        refine wp_iconst (1 : Int32) dX11_nextToken_31 (by decide) ?_
        refine wp_iaddv (nI (p + 1)) dX11_nextToken_32 (nadd (a := p) (b := 1) (by omega)) ?_
        refine wp_puti dX11_nextToken_33 pX11_250 (ka hF 293 (by decide)) ?_
        have hF10 := Full_wfi 1112 (gB G + 293) (nI (p + 1)) hF
        refine wp_goto 0 dX11_nextToken_36 (by decide) ?_
        refine wp_forget [.ref (gB G + 293), lvU] ⟨Or.inl rfl, Or.inr rfl, trivial⟩ ?_
        exact e3 hp3 hp7 q9
  · have hp11 : p < n := (nlt q2 (by omega) (by omega))
    refine wp_aload_n dX11_byteAt_8 rfl ?_
    refine wp_getr (gB G + 304) dX11_byteAt_9 fX11_42 (ka hF 293 (by decide)) (hF.2 _ _) (rra 11 (isK_le (ka hF 293 (by decide))) (fun _ => rfl)) ?_
    refine wp_iload_n dX11_byteAt_12 rfl ?_
    refine wp_ialdk (n := 500) p (ai m (gB G + 304) p) dX11_byteAt_13 (ka hF 304 (by decide)) (la 304) (vin (by omega) (by decide)) (nIc (by omega)) rfl ?_
    refine wp_goto 18 dX11_byteAt_14 (by decide) ?_
    refine wp_iret dX11_byteAt_18 rfl ?_
    show WP G (d + 6) (0, 0) μX11_nextToken 8 [.ref (gB G + 293), lvU] [.int (ai m (gB G + 304) p)] m _
    refine wp_bipush (32 : Int32) dX11_nextToken_8 (by decide) ?_
    refine wp_icmp_eq 26 dX11_nextToken_10 (by decide) (fun q12 => ?_) (fun q13 => ?_)
    · skip
      refine wp_aload_n dX11_nextToken_26 rfl ?_
      refine wp_dup dX11_nextToken_27 rfl ?_
      refine wp_geti (nI p) dX11_nextToken_28 fX11_250 (Or.inl rfl) (ka hF 293 (by decide)) hp ?_
      refine wp_iconst (1 : Int32) dX11_nextToken_31 (by decide) ?_
      refine wp_iaddv (nI (p + 1)) dX11_nextToken_32 (nadd (a := p) (b := 1) (by omega)) ?_
      refine wp_puti dX11_nextToken_33 pX11_250 (ka hF 293 (by decide)) ?_
      have hF14 := Full_wfi 1112 (gB G + 293) (nI (p + 1)) hF
      refine wp_goto 0 dX11_nextToken_36 (by decide) ?_
      refine wp_forget [.ref (gB G + 293), lvU] ⟨Or.inl rfl, Or.inr rfl, trivial⟩ ?_
      exact e4 hp11 q12
    · skip
      refine wp_aload_n dX11_nextToken_13 rfl ?_
      refine wp_aload_n dX11_nextToken_14 rfl ?_
      refine wp_geti (nI p) dX11_nextToken_15 fX11_250 (Or.inl rfl) (ka hF 293 (by decide)) hp ?_
      refine wp_callV (As := [.int (nI p)]) (S := []) (b' := (0, 0)) (b := (0, 0)) dX11_nextToken_18 MX11_253 (ka hF 293 (by decide)) rfl rfl rfl rfl (Nat.le_of_ble_eq_true rfl) ?_
      refine WPM.of pX11 (Nat.le_of_ble_eq_true rfl) rfl ?_
      refine wp_iload_n dX11_byteAt_0 rfl ?_
      refine wp_aload_n dX11_byteAt_1 rfl ?_
      refine wp_geti (nI n) dX11_byteAt_2 fX11_247 (Or.inl rfl) (ka hF 293 (by decide)) hn ?_
      refine wp_icmp_ge 17 dX11_byteAt_5 (by decide) (fun q15 => ?_) (fun q16 => ?_)
      · have hp17 : ¬ p < n := (fun z => q15 (nlt_ (b := n) z (by omega)))
        refine wp_iconst (-1 : Int32) dX11_byteAt_17 (by decide) ?_
        refine wp_iret dX11_byteAt_18 rfl ?_
        show WP G (d + 6) (0, 0) μX11_nextToken 21 [.ref (gB G + 293), lvU] [.int (-1 : Int32)] m _
        refine wp_bipush (10 : Int32) dX11_nextToken_21 (by decide) ?_
        refine wp_icmp_ne 39 dX11_nextToken_23 (by decide) (fun _ => ?_) (fun q => absurd q (by decide))
        refine wp_forget [.ref (gB G + 293), lvU] ⟨Or.inl rfl, Or.inr rfl, trivial⟩ ?_
        exact e5 hp11 q13 hp17
      · have hp18 : p < n := (nlt q16 (by omega) (by omega))
        refine wp_aload_n dX11_byteAt_8 rfl ?_
        refine wp_getr (gB G + 304) dX11_byteAt_9 fX11_42 (ka hF 293 (by decide)) (hF.2 _ _) (rra 11 (isK_le (ka hF 293 (by decide))) (fun _ => rfl)) ?_
        refine wp_iload_n dX11_byteAt_12 rfl ?_
        refine wp_ialdk (n := 500) p (ai m (gB G + 304) p) dX11_byteAt_13 (ka hF 304 (by decide)) (la 304) (vin (by omega) (by decide)) (nIc (by omega)) rfl ?_
        refine wp_goto 18 dX11_byteAt_14 (by decide) ?_
        refine wp_iret dX11_byteAt_18 rfl ?_
        show WP G (d + 6) (0, 0) μX11_nextToken 21 [.ref (gB G + 293), lvU] [.int (ai m (gB G + 304) p)] m _
        refine wp_bipush (10 : Int32) dX11_nextToken_21 (by decide) ?_
        refine wp_icmp_ne 39 dX11_nextToken_23 (by decide) (fun q19 => ?_) (fun q20 => ?_)
        · skip
          refine wp_forget [.ref (gB G + 293), lvU] ⟨Or.inl rfl, Or.inr rfl, trivial⟩ ?_
          exact e6 hp11 q13 hp18 q19
        · skip
          refine wp_aload_n dX11_nextToken_26 rfl ?_
          refine wp_dup dX11_nextToken_27 rfl ?_
          refine wp_geti (nI p) dX11_nextToken_28 fX11_250 (Or.inl rfl) (ka hF 293 (by decide)) hp ?_
          refine wp_iconst (1 : Int32) dX11_nextToken_31 (by decide) ?_
          refine wp_iaddv (nI (p + 1)) dX11_nextToken_32 (nadd (a := p) (b := 1) (by omega)) ?_
          refine wp_puti dX11_nextToken_33 pX11_250 (ka hF 293 (by decide)) ?_
          have hF21 := Full_wfi 1112 (gB G + 293) (nI (p + 1)) hF
          refine wp_goto 0 dX11_nextToken_36 (by decide) ?_
          refine wp_forget [.ref (gB G + 293), lvU] ⟨Or.inl rfl, Or.inr rfl, trivial⟩ ?_
          exact e7 hp11 q13 hp18 q20

theorem n1e {G : Cx} {d : Nat} {m : Mm} {Q : Option Value → Mm → Prop} {n p : Nat} (hF : Full G m) (hn : fi m 1111 (gB G + 293) = nI n) (hp : fi m 1112 (gB G + 293) = nI p) (hn5 : n ≤ 500) (hpn : p ≤ n) (hpl : ¬ p < n) 
    (e1 : Q none (wfi (wfi (wfi (wfl (wfi (wfi m 1113 (gB G + 293) (nI p)) 1116 (gB G + 293) (0 : Int32)) 1120 (gB G + 293) (0 : Int64)) 1117 (gB G + 293) (0 : Int32)) 1115 (gB G + 293) (0 : Int32)) 1114 (gB G + 293) (0 : Int32))) :
    WP G (d + 6) (0, 0) μX11_nextToken 39 [.ref (gB G + 293), lvU] [] m Q := by
  refine wp_aload_n dX11_nextToken_39 rfl ?_
  refine wp_aload_n dX11_nextToken_40 rfl ?_
  refine wp_geti (nI p) dX11_nextToken_41 fX11_250 (Or.inl rfl) (ka hF 293 (by decide)) hp ?_
  refine wp_puti dX11_nextToken_44 pX11_256 (ka hF 293 (by decide)) ?_
  have hF1 := Full_wfi 1113 (gB G + 293) (nI p) hF
  refine wp_aload_n dX11_nextToken_47 rfl ?_
  refine wp_iconst (0 : Int32) dX11_nextToken_48 (by decide) ?_
  refine wp_puti dX11_nextToken_49 pX11_259 (ka hF1 293 (by decide)) ?_
  have hF2 := Full_wfi 1116 (gB G + 293) (0 : Int32) hF1
  refine wp_aload_n dX11_nextToken_52 rfl ?_
  refine wp_lconst (0 : Int64) dX11_nextToken_53 (by decide) ?_
  refine wp_putl dX11_nextToken_54 pX11_262 (ka hF2 293 (by decide)) ?_
  have hF3 := Full_wfl 1120 (gB G + 293) (0 : Int64) hF2
  refine wp_aload_n dX11_nextToken_57 rfl ?_
  refine wp_iconst (0 : Int32) dX11_nextToken_58 (by decide) ?_
  refine wp_puti dX11_nextToken_59 pX11_266 (ka hF3 293 (by decide)) ?_
  have hF4 := Full_wfi 1117 (gB G + 293) (0 : Int32) hF3
  refine wp_aload_n dX11_nextToken_62 rfl ?_
  refine wp_iconst (0 : Int32) dX11_nextToken_63 (by decide) ?_
  refine wp_puti dX11_nextToken_64 pX11_269 (ka hF4 293 (by decide)) ?_
  have hF5 := Full_wfi 1115 (gB G + 293) (0 : Int32) hF4
  refine wp_aload_n dX11_nextToken_67 rfl ?_
  refine wp_aload_n dX11_nextToken_68 rfl ?_
  refine wp_geti (nI p) dX11_nextToken_69 fX11_250 (Or.inl rfl) (ka hF5 293 (by decide)) ((fi_ne (by decide)).trans ((fi_ne (by decide)).trans (fi_wfl.trans ((fi_ne (by decide)).trans ((fi_ne (by decide)).trans hp))))) ?_
  refine wp_callV (As := [.int (nI p)]) (S := []) (b' := (0, 0)) (b := (0, 0)) dX11_nextToken_72 MX11_253 (ka hF5 293 (by decide)) rfl rfl rfl rfl (Nat.le_of_ble_eq_true rfl) ?_
  refine WPM.of pX11 (Nat.le_of_ble_eq_true rfl) rfl ?_
  refine wp_iload_n dX11_byteAt_0 rfl ?_
  refine wp_aload_n dX11_byteAt_1 rfl ?_
  refine wp_geti (nI n) dX11_byteAt_2 fX11_247 (Or.inl rfl) (ka hF5 293 (by decide)) ((fi_ne (by decide)).trans ((fi_ne (by decide)).trans (fi_wfl.trans ((fi_ne (by decide)).trans ((fi_ne (by decide)).trans hn))))) ?_
  refine wp_icmp_ge 17 dX11_byteAt_5 (by decide) (fun _ => ?_) (fun q => absurd q (fun z => hpl (nlt (a := p) (b := n) z (by omega) (by omega))))
  refine wp_iconst (-1 : Int32) dX11_byteAt_17 (by decide) ?_
  refine wp_iret dX11_byteAt_18 rfl ?_
  show WP G (d + 6) (0, 0) μX11_nextToken 75 [.ref (gB G + 293), lvU] [.int (-1 : Int32)] (wfi (wfi (wfl (wfi (wfi m 1113 (gB G + 293) (nI p)) 1116 (gB G + 293) (0 : Int32)) 1120 (gB G + 293) (0 : Int64)) 1117 (gB G + 293) (0 : Int32)) 1115 (gB G + 293) (0 : Int32)) _
  refine wp_istore_n dX11_nextToken_75 (by decide) rfl ?_
  refine wp_iload_n dX11_nextToken_76 rfl ?_
  refine wp_iconst (-1 : Int32) dX11_nextToken_77 (by decide) ?_
  refine wp_icmp_ne 89 dX11_nextToken_78 (by decide) (fun q => absurd (by decide) q) (fun _ => ?_)
  refine wp_aload_n dX11_nextToken_81 rfl ?_
  refine wp_iconst (0 : Int32) dX11_nextToken_82 (by decide) ?_
  refine wp_puti dX11_nextToken_83 pX11_272 (ka hF5 293 (by decide)) ?_
  have hF6 := Full_wfi 1114 (gB G + 293) (0 : Int32) hF5
  refine wp_goto 302 dX11_nextToken_86 (by decide) ?_
  exact wp_vret dX11_nextToken_302 rfl (e1)

theorem n1 {G : Cx} {d : Nat} {m : Mm} {Q : Option Value → Mm → Prop} {n p : Nat} {x : Int32} (hF : Full G m) (hn : fi m 1111 (gB G + 293) = nI n) (hp : fi m 1112 (gB G + 293) = nI p) (hn5 : n ≤ 500) (hpn : p ≤ n) (hpl : p < n) (hx : ai m (gB G + 304) p = x) (hx1 : ¬ x = -1) 
    (e1 : (leM x) = 0 → (diM x) = 0 → (syM x) = 0 → Q none (wfi (wfi (wfi (wfi (wfi (wfl (wfi (wfi m 1113 (gB G + 293) (nI p)) 1116 (gB G + 293) (0 : Int32)) 1120 (gB G + 293) (0 : Int64)) 1117 (gB G + 293) (0 : Int32)) 1115 (gB G + 293) (0 : Int32)) 1114 (gB G + 293) (1 : Int32)) 1115 (gB G + 293) (0 : Int32)) 1112 (gB G + 293) (nI (p + 1))))
    (e2 : (leM x) = 0 → (diM x) = 0 → ¬ (syM x) = 0 → Q none (wfi (wfi (wfi (wfi (wfi (wfl (wfi (wfi m 1113 (gB G + 293) (nI p)) 1116 (gB G + 293) (0 : Int32)) 1120 (gB G + 293) (0 : Int64)) 1117 (gB G + 293) (0 : Int32)) 1115 (gB G + 293) (0 : Int32)) 1114 (gB G + 293) (4 : Int32)) 1115 (gB G + 293) x) 1112 (gB G + 293) (nI (p + 1))))
    (e3 : (leM x) = 0 → ¬ (diM x) = 0 → WP G (d + 6) (0, 0) μX11_nextToken 192 [.ref (gB G + 293), lvU] [] (wfi (wfi (wfi (wfl (wfi (wfi m 1113 (gB G + 293) (nI p)) 1116 (gB G + 293) (0 : Int32)) 1120 (gB G + 293) (0 : Int64)) 1117 (gB G + 293) (0 : Int32)) 1115 (gB G + 293) (0 : Int32)) 1114 (gB G + 293) (3 : Int32)) Q)
    (e4 : ¬ (leM x) = 0 → WP G (d + 6) (0, 0) μX11_nextToken 101 [.ref (gB G + 293), lvU] [] (wfi (wfi (wfi (wfl (wfi (wfi m 1113 (gB G + 293) (nI p)) 1116 (gB G + 293) (0 : Int32)) 1120 (gB G + 293) (0 : Int64)) 1117 (gB G + 293) (0 : Int32)) 1115 (gB G + 293) (0 : Int32)) 1114 (gB G + 293) (2 : Int32)) Q) :
    WP G (d + 6) (0, 0) μX11_nextToken 39 [.ref (gB G + 293), lvU] [] m Q := by
  refine wp_aload_n dX11_nextToken_39 rfl ?_
  refine wp_aload_n dX11_nextToken_40 rfl ?_
  refine wp_geti (nI p) dX11_nextToken_41 fX11_250 (Or.inl rfl) (ka hF 293 (by decide)) hp ?_
  refine wp_puti dX11_nextToken_44 pX11_256 (ka hF 293 (by decide)) ?_
  have hF1 := Full_wfi 1113 (gB G + 293) (nI p) hF
  refine wp_aload_n dX11_nextToken_47 rfl ?_
  refine wp_iconst (0 : Int32) dX11_nextToken_48 (by decide) ?_
  refine wp_puti dX11_nextToken_49 pX11_259 (ka hF1 293 (by decide)) ?_
  have hF2 := Full_wfi 1116 (gB G + 293) (0 : Int32) hF1
  refine wp_aload_n dX11_nextToken_52 rfl ?_
  refine wp_lconst (0 : Int64) dX11_nextToken_53 (by decide) ?_
  refine wp_putl dX11_nextToken_54 pX11_262 (ka hF2 293 (by decide)) ?_
  have hF3 := Full_wfl 1120 (gB G + 293) (0 : Int64) hF2
  refine wp_aload_n dX11_nextToken_57 rfl ?_
  refine wp_iconst (0 : Int32) dX11_nextToken_58 (by decide) ?_
  refine wp_puti dX11_nextToken_59 pX11_266 (ka hF3 293 (by decide)) ?_
  have hF4 := Full_wfi 1117 (gB G + 293) (0 : Int32) hF3
  refine wp_aload_n dX11_nextToken_62 rfl ?_
  refine wp_iconst (0 : Int32) dX11_nextToken_63 (by decide) ?_
  refine wp_puti dX11_nextToken_64 pX11_269 (ka hF4 293 (by decide)) ?_
  have hF5 := Full_wfi 1115 (gB G + 293) (0 : Int32) hF4
  refine wp_aload_n dX11_nextToken_67 rfl ?_
  refine wp_aload_n dX11_nextToken_68 rfl ?_
  refine wp_geti (nI p) dX11_nextToken_69 fX11_250 (Or.inl rfl) (ka hF5 293 (by decide)) ((fi_ne (by decide)).trans ((fi_ne (by decide)).trans (fi_wfl.trans ((fi_ne (by decide)).trans ((fi_ne (by decide)).trans hp))))) ?_
  refine wp_callV (As := [.int (nI p)]) (S := []) (b' := (0, 0)) (b := (0, 0)) dX11_nextToken_72 MX11_253 (ka hF5 293 (by decide)) rfl rfl rfl rfl (Nat.le_of_ble_eq_true rfl) ?_
  refine WPM.of pX11 (Nat.le_of_ble_eq_true rfl) rfl ?_
  refine wp_iload_n dX11_byteAt_0 rfl ?_
  refine wp_aload_n dX11_byteAt_1 rfl ?_
  refine wp_geti (nI n) dX11_byteAt_2 fX11_247 (Or.inl rfl) (ka hF5 293 (by decide)) ((fi_ne (by decide)).trans ((fi_ne (by decide)).trans (fi_wfl.trans ((fi_ne (by decide)).trans ((fi_ne (by decide)).trans hn))))) ?_
  refine wp_icmp_ge 17 dX11_byteAt_5 (by decide) (fun q => absurd (nlt_ (a := p) (b := n) hpl (by omega)) q) (fun _ => ?_)
  refine wp_aload_n dX11_byteAt_8 rfl ?_
  refine wp_getr (gB G + 304) dX11_byteAt_9 fX11_42 (ka hF5 293 (by decide)) (hF5.2 _ _) (rra 11 (isK_le (ka hF5 293 (by decide))) (fun _ => rfl)) ?_
  refine wp_iload_n dX11_byteAt_12 rfl ?_
  refine wp_ialdk (n := 500) p x dX11_byteAt_13 (ka hF5 304 (by decide)) (la 304) (vin (by omega) (by decide)) (nIc (by omega)) (ai_wfi.trans (ai_wfi.trans (ai_wfl.trans (ai_wfi.trans (ai_wfi.trans hx))))) ?_
  refine wp_goto 18 dX11_byteAt_14 (by decide) ?_
  refine wp_iret dX11_byteAt_18 rfl ?_
  show WP G (d + 6) (0, 0) μX11_nextToken 75 [.ref (gB G + 293), lvU] [.int x] (wfi (wfi (wfl (wfi (wfi m 1113 (gB G + 293) (nI p)) 1116 (gB G + 293) (0 : Int32)) 1120 (gB G + 293) (0 : Int64)) 1117 (gB G + 293) (0 : Int32)) 1115 (gB G + 293) (0 : Int32)) _
  refine wp_istore_n dX11_nextToken_75 (by decide) rfl ?_
  refine wp_iload_n dX11_nextToken_76 rfl ?_
  refine wp_iconst (-1 : Int32) dX11_nextToken_77 (by decide) ?_
  refine wp_icmp_ne 89 dX11_nextToken_78 (by decide) (fun _ => ?_) (fun q => absurd q hx1)
  refine wp_iload_n dX11_nextToken_89 rfl ?_
  refine wp_leMS dX11_nextToken_90 MX11_275 (Nat.le_of_ble_eq_true rfl) ?_
  refine wp_if_eq 180 dX11_nextToken_93 (by decide) (fun q6 => ?_) (fun q7 => ?_)
  · skip
    refine wp_iload_n dX11_nextToken_180 rfl ?_
    refine wp_diMS dX11_nextToken_181 MX11_282 (Nat.le_of_ble_eq_true rfl) ?_
    refine wp_if_eq 259 dX11_nextToken_184 (by decide) (fun q8 => ?_) (fun q9 => ?_)
    · skip
      refine wp_aload_n dX11_nextToken_259 rfl ?_
      refine wp_iload_n dX11_nextToken_260 rfl ?_
      refine wp_syMS dX11_nextToken_261 MX11_286 (Nat.le_of_ble_eq_true rfl) ?_
      refine wp_if_eq 271 dX11_nextToken_264 (by decide) (fun q10 => ?_) (fun q11 => ?_)
      · skip
        refine wp_iconst (1 : Int32) dX11_nextToken_271 (by decide) ?_
        refine wp_puti dX11_nextToken_272 pX11_272 (ka hF5 293 (by decide)) ?_
        have hF12 := Full_wfi 1114 (gB G + 293) (1 : Int32) hF5
        refine wp_aload_n dX11_nextToken_275 rfl ?_
        refine wp_aload_n dX11_nextToken_276 rfl ?_
        refine wp_geti (1 : Int32) dX11_nextToken_277 fX11_272 (Or.inl rfl) (ka hF12 293 (by decide)) fi_eq ?_
        refine wp_iconst (4 : Int32) dX11_nextToken_280 (by decide) ?_
        refine wp_icmp_ne 288 dX11_nextToken_281 (by decide) (fun _ => ?_) (fun q => absurd q (by decide))
        refine wp_iconst (0 : Int32) dX11_nextToken_288 (by decide) ?_
        refine wp_puti dX11_nextToken_289 pX11_269 (ka hF12 293 (by decide)) ?_
        have hF13 := Full_wfi 1115 (gB G + 293) (0 : Int32) hF12
        refine wp_aload_n dX11_nextToken_292 rfl ?_
        refine wp_dup dX11_nextToken_293 rfl ?_
        refine wp_geti (nI p) dX11_nextToken_294 fX11_250 (Or.inl rfl) (ka hF13 293 (by decide)) ((fi_ne (by decide)).trans ((fi_ne (by decide)).trans ((fi_ne (by decide)).trans ((fi_ne (by decide)).trans (fi_wfl.trans ((fi_ne (by decide)).trans ((fi_ne (by decide)).trans hp))))))) ?_
        refine wp_iconst (1 : Int32) dX11_nextToken_297 (by decide) ?_
        refine wp_iaddv (nI (p + 1)) dX11_nextToken_298 (nadd (a := p) (b := 1) (by omega)) ?_
        refine wp_puti dX11_nextToken_299 pX11_250 (ka hF13 293 (by decide)) ?_
        have hF14 := Full_wfi 1112 (gB G + 293) (nI (p + 1)) hF13
        exact wp_vret dX11_nextToken_302 rfl (e1 q6 q8 q10)
      · skip
        refine wp_iconst (4 : Int32) dX11_nextToken_267 (by decide) ?_
        refine wp_goto 272 dX11_nextToken_268 (by decide) ?_
        refine wp_puti dX11_nextToken_272 pX11_272 (ka hF5 293 (by decide)) ?_
        have hF15 := Full_wfi 1114 (gB G + 293) (4 : Int32) hF5
        refine wp_aload_n dX11_nextToken_275 rfl ?_
        refine wp_aload_n dX11_nextToken_276 rfl ?_
        refine wp_geti (4 : Int32) dX11_nextToken_277 fX11_272 (Or.inl rfl) (ka hF15 293 (by decide)) fi_eq ?_
        refine wp_iconst (4 : Int32) dX11_nextToken_280 (by decide) ?_
        refine wp_icmp_ne 288 dX11_nextToken_281 (by decide) (fun q => absurd (by decide) q) (fun _ => ?_)
        refine wp_iload_n dX11_nextToken_284 rfl ?_
        refine wp_goto 289 dX11_nextToken_285 (by decide) ?_
        refine wp_puti dX11_nextToken_289 pX11_269 (ka hF15 293 (by decide)) ?_
        have hF16 := Full_wfi 1115 (gB G + 293) x hF15
        refine wp_aload_n dX11_nextToken_292 rfl ?_
        refine wp_dup dX11_nextToken_293 rfl ?_
        refine wp_geti (nI p) dX11_nextToken_294 fX11_250 (Or.inl rfl) (ka hF16 293 (by decide)) ((fi_ne (by decide)).trans ((fi_ne (by decide)).trans ((fi_ne (by decide)).trans ((fi_ne (by decide)).trans (fi_wfl.trans ((fi_ne (by decide)).trans ((fi_ne (by decide)).trans hp))))))) ?_
        refine wp_iconst (1 : Int32) dX11_nextToken_297 (by decide) ?_
        refine wp_iaddv (nI (p + 1)) dX11_nextToken_298 (nadd (a := p) (b := 1) (by omega)) ?_
        refine wp_puti dX11_nextToken_299 pX11_250 (ka hF16 293 (by decide)) ?_
        have hF17 := Full_wfi 1112 (gB G + 293) (nI (p + 1)) hF16
        exact wp_vret dX11_nextToken_302 rfl (e2 q6 q8 q11)
    · skip
      refine wp_aload_n dX11_nextToken_187 rfl ?_
      refine wp_iconst (3 : Int32) dX11_nextToken_188 (by decide) ?_
      refine wp_puti dX11_nextToken_189 pX11_272 (ka hF5 293 (by decide)) ?_
      have hF18 := Full_wfi 1114 (gB G + 293) (3 : Int32) hF5
      refine wp_forget [.ref (gB G + 293), lvU] ⟨Or.inl rfl, Or.inr rfl, trivial⟩ ?_
      exact e3 q6 q9
  · skip
    refine wp_aload_n dX11_nextToken_96 rfl ?_
    refine wp_iconst (2 : Int32) dX11_nextToken_97 (by decide) ?_
    refine wp_puti dX11_nextToken_98 pX11_272 (ka hF5 293 (by decide)) ?_
    have hF19 := Full_wfi 1114 (gB G + 293) (2 : Int32) hF5
    refine wp_forget [.ref (gB G + 293), lvU] ⟨Or.inl rfl, Or.inr rfl, trivial⟩ ?_
    exact e4 q7

theorem n2e {G : Cx} {d : Nat} {m : Mm} {Q : Option Value → Mm → Prop} {n p : Nat} (hF : Full G m) (hn : fi m 1111 (gB G + 293) = nI n) (hp : fi m 1112 (gB G + 293) = nI p) (hn5 : n ≤ 500) (hpn : p ≤ n) (hpl : ¬ p < n) 
    (e1 : (leM (-1 : Int32)) = 0 → Q none m)
    (e2 : ¬ (leM (-1 : Int32)) = 0 → ¬ (fi m 1116 (gB G + 293)) < (8 : Int32) → WP G (d + 6) (0, 0) μX11_nextToken 101 [.ref (gB G + 293), lvU] [] (wfi (wfi (wfl m 1120 (gB G + 293) (fl m 1120 (gB G + 293))) 1116 (gB G + 293) ((fi m 1116 (gB G + 293)) + (1 : Int32))) 1112 (gB G + 293) (nI (p + 1))) Q)
    (e3 : ¬ (leM (-1 : Int32)) = 0 → (fi m 1116 (gB G + 293)) < (8 : Int32) → WP G (d + 6) (0, 0) μX11_nextToken 101 [.ref (gB G + 293), lvU] [] (wfi (wfi (wfl m 1120 (gB G + 293) ((((27 : Int64) * (fl m 1120 (gB G + 293))) + (Int32.toInt64 (-1 : Int32))) - (96 : Int64))) 1116 (gB G + 293) ((fi m 1116 (gB G + 293)) + (1 : Int32))) 1112 (gB G + 293) (nI (p + 1))) Q) :
    WP G (d + 6) (0, 0) μX11_nextToken 101 [.ref (gB G + 293), lvU] [] m Q := by
  refine wp_aload_n dX11_nextToken_101 rfl ?_
  refine wp_aload_n dX11_nextToken_102 rfl ?_
  refine wp_geti (nI p) dX11_nextToken_103 fX11_250 (Or.inl rfl) (ka hF 293 (by decide)) hp ?_
  refine wp_callV (As := [.int (nI p)]) (S := []) (b' := (0, 0)) (b := (0, 0)) dX11_nextToken_106 MX11_253 (ka hF 293 (by decide)) rfl rfl rfl rfl (Nat.le_of_ble_eq_true rfl) ?_
  refine WPM.of pX11 (Nat.le_of_ble_eq_true rfl) rfl ?_
  refine wp_iload_n dX11_byteAt_0 rfl ?_
  refine wp_aload_n dX11_byteAt_1 rfl ?_
  refine wp_geti (nI n) dX11_byteAt_2 fX11_247 (Or.inl rfl) (ka hF 293 (by decide)) hn ?_
  refine wp_icmp_ge 17 dX11_byteAt_5 (by decide) (fun _ => ?_) (fun q => absurd q (fun z => hpl (nlt (a := p) (b := n) z (by omega) (by omega))))
  refine wp_iconst (-1 : Int32) dX11_byteAt_17 (by decide) ?_
  refine wp_iret dX11_byteAt_18 rfl ?_
  show WP G (d + 6) (0, 0) μX11_nextToken 109 [.ref (gB G + 293), lvU] [.int (-1 : Int32)] m _
  refine wp_leMS dX11_nextToken_109 MX11_275 (Nat.le_of_ble_eq_true rfl) ?_
  refine wp_if_eq 302 dX11_nextToken_112 (by decide) (fun q1 => ?_) (fun q2 => ?_)
  · skip
    exact wp_vret dX11_nextToken_302 rfl (e1 q1)
  · skip
    refine wp_aload_n dX11_nextToken_115 rfl ?_
    refine wp_aload_n dX11_nextToken_116 rfl ?_
    refine wp_geti (fi m 1116 (gB G + 293)) dX11_nextToken_117 fX11_259 (Or.inl rfl) (ka hF 293 (by decide)) rfl ?_
    refine wp_bipush (8 : Int32) dX11_nextToken_120 (by decide) ?_
    refine wp_icmp_ge 150 dX11_nextToken_122 (by decide) (fun q3 => ?_) (fun q4 => ?_)
    · skip
      refine wp_aload_n dX11_nextToken_150 rfl ?_
      refine wp_getl (fl m 1120 (gB G + 293)) dX11_nextToken_151 fX11_262 (ka hF 293 (by decide)) rfl ?_
      refine wp_putl dX11_nextToken_154 pX11_262 (ka hF 293 (by decide)) ?_
      have hF5 := Full_wfl 1120 (gB G + 293) (fl m 1120 (gB G + 293)) hF
      refine wp_aload_n dX11_nextToken_157 rfl ?_
      refine wp_dup dX11_nextToken_158 rfl ?_
      refine wp_geti (fi m 1116 (gB G + 293)) dX11_nextToken_159 fX11_259 (Or.inl rfl) (ka hF5 293 (by decide)) fi_wfl ?_
      refine wp_iconst (1 : Int32) dX11_nextToken_162 (by decide) ?_
      refine wp_iaddv ((fi m 1116 (gB G + 293)) + (1 : Int32)) dX11_nextToken_163 rfl ?_
      refine wp_puti dX11_nextToken_164 pX11_259 (ka hF5 293 (by decide)) ?_
      have hF6 := Full_wfi 1116 (gB G + 293) ((fi m 1116 (gB G + 293)) + (1 : Int32)) hF5
      refine wp_aload_n dX11_nextToken_167 rfl ?_
      refine wp_dup dX11_nextToken_168 rfl ?_
      refine wp_geti (nI p) dX11_nextToken_169 fX11_250 (Or.inl rfl) (ka hF6 293 (by decide)) ((fi_ne (by decide)).trans (fi_wfl.trans hp)) ?_
      refine wp_iconst (1 : Int32) dX11_nextToken_172 (by decide) ?_
      refine wp_iaddv (nI (p + 1)) dX11_nextToken_173 (nadd (a := p) (b := 1) (by omega)) ?_
      refine wp_puti dX11_nextToken_174 pX11_250 (ka hF6 293 (by decide)) ?_
      have hF7 := Full_wfi 1112 (gB G + 293) (nI (p + 1)) hF6
      refine wp_goto 101 dX11_nextToken_177 (by decide) ?_
      refine wp_forget [.ref (gB G + 293), lvU] ⟨Or.inl rfl, Or.inr rfl, trivial⟩ ?_
      exact e2 q2 q3
    · skip
      refine wp_ldc2 dX11_nextToken_125 kX11_278 ?_
      refine wp_aload_n dX11_nextToken_128 rfl ?_
      refine wp_getl (fl m 1120 (gB G + 293)) dX11_nextToken_129 fX11_262 (ka hF 293 (by decide)) rfl ?_
      refine wp_lmul dX11_nextToken_132 ?_
      refine wp_aload_n dX11_nextToken_133 rfl ?_
      refine wp_aload_n dX11_nextToken_134 rfl ?_
      refine wp_geti (nI p) dX11_nextToken_135 fX11_250 (Or.inl rfl) (ka hF 293 (by decide)) hp ?_
      refine wp_callV (As := [.int (nI p)]) (S := [.long ((27 : Int64) * (fl m 1120 (gB G + 293))), .ref (gB G + 293)]) (b' := (0, 0)) (b := (0, 0)) dX11_nextToken_138 MX11_253 (ka hF 293 (by decide)) rfl rfl rfl rfl (Nat.le_of_ble_eq_true rfl) ?_
      refine WPM.of pX11 (Nat.le_of_ble_eq_true rfl) rfl ?_
      refine wp_iload_n dX11_byteAt_0 rfl ?_
      refine wp_aload_n dX11_byteAt_1 rfl ?_
      refine wp_geti (nI n) dX11_byteAt_2 fX11_247 (Or.inl rfl) (ka hF 293 (by decide)) hn ?_
      refine wp_icmp_ge 17 dX11_byteAt_5 (by decide) (fun _ => ?_) (fun q => absurd q (fun z => hpl (nlt (a := p) (b := n) z (by omega) (by omega))))
      refine wp_iconst (-1 : Int32) dX11_byteAt_17 (by decide) ?_
      refine wp_iret dX11_byteAt_18 rfl ?_
      show WP G (d + 6) (0, 0) μX11_nextToken 141 [.ref (gB G + 293), lvU] [.int (-1 : Int32), .long ((27 : Int64) * (fl m 1120 (gB G + 293))), .ref (gB G + 293)] m _
      refine wp_i2l dX11_nextToken_141 ?_
      refine wp_ladd dX11_nextToken_142 ?_
      refine wp_ldc2 dX11_nextToken_143 kX11_280 ?_
      refine wp_lsub dX11_nextToken_146 ?_
      refine wp_goto 154 dX11_nextToken_147 (by decide) ?_
      refine wp_putl dX11_nextToken_154 pX11_262 (ka hF 293 (by decide)) ?_
      have hF8 := Full_wfl 1120 (gB G + 293) ((((27 : Int64) * (fl m 1120 (gB G + 293))) + (Int32.toInt64 (-1 : Int32))) - (96 : Int64)) hF
      refine wp_aload_n dX11_nextToken_157 rfl ?_
      refine wp_dup dX11_nextToken_158 rfl ?_
      refine wp_geti (fi m 1116 (gB G + 293)) dX11_nextToken_159 fX11_259 (Or.inl rfl) (ka hF8 293 (by decide)) fi_wfl ?_
      refine wp_iconst (1 : Int32) dX11_nextToken_162 (by decide) ?_
      refine wp_iaddv ((fi m 1116 (gB G + 293)) + (1 : Int32)) dX11_nextToken_163 rfl ?_
      refine wp_puti dX11_nextToken_164 pX11_259 (ka hF8 293 (by decide)) ?_
      have hF9 := Full_wfi 1116 (gB G + 293) ((fi m 1116 (gB G + 293)) + (1 : Int32)) hF8
      refine wp_aload_n dX11_nextToken_167 rfl ?_
      refine wp_dup dX11_nextToken_168 rfl ?_
      refine wp_geti (nI p) dX11_nextToken_169 fX11_250 (Or.inl rfl) (ka hF9 293 (by decide)) ((fi_ne (by decide)).trans (fi_wfl.trans hp)) ?_
      refine wp_iconst (1 : Int32) dX11_nextToken_172 (by decide) ?_
      refine wp_iaddv (nI (p + 1)) dX11_nextToken_173 (nadd (a := p) (b := 1) (by omega)) ?_
      refine wp_puti dX11_nextToken_174 pX11_250 (ka hF9 293 (by decide)) ?_
      have hF10 := Full_wfi 1112 (gB G + 293) (nI (p + 1)) hF9
      refine wp_goto 101 dX11_nextToken_177 (by decide) ?_
      refine wp_forget [.ref (gB G + 293), lvU] ⟨Or.inl rfl, Or.inr rfl, trivial⟩ ?_
      exact e3 q2 q4

theorem n2 {G : Cx} {d : Nat} {m : Mm} {Q : Option Value → Mm → Prop} {n p l : Nat} {x : Int32} {v : Int64} (hF : Full G m) (hn : fi m 1111 (gB G + 293) = nI n) (hp : fi m 1112 (gB G + 293) = nI p) (hn5 : n ≤ 500) (hpn : p ≤ n) (hpl : p < n) (hx : ai m (gB G + 304) p = x) (hx1 : ¬ x = -1) (hl : fi m 1116 (gB G + 293) = nI l) (hl5 : l ≤ 500) (hw : fl m 1120 (gB G + 293) = v) 
    (e1 : (leM x) = 0 → Q none m)
    (e2 : ¬ (leM x) = 0 → ¬ l < 8 → WP G (d + 6) (0, 0) μX11_nextToken 101 [.ref (gB G + 293), lvU] [] (wfi (wfi (wfl m 1120 (gB G + 293) v) 1116 (gB G + 293) (nI (l + 1))) 1112 (gB G + 293) (nI (p + 1))) Q)
    (e3 : ¬ (leM x) = 0 → l < 8 → WP G (d + 6) (0, 0) μX11_nextToken 101 [.ref (gB G + 293), lvU] [] (wfi (wfi (wfl m 1120 (gB G + 293) ((((27 : Int64) * v) + (Int32.toInt64 x)) - (96 : Int64))) 1116 (gB G + 293) (nI (l + 1))) 1112 (gB G + 293) (nI (p + 1))) Q) :
    WP G (d + 6) (0, 0) μX11_nextToken 101 [.ref (gB G + 293), lvU] [] m Q := by
  refine wp_aload_n dX11_nextToken_101 rfl ?_
  refine wp_aload_n dX11_nextToken_102 rfl ?_
  refine wp_geti (nI p) dX11_nextToken_103 fX11_250 (Or.inl rfl) (ka hF 293 (by decide)) hp ?_
  refine wp_callV (As := [.int (nI p)]) (S := []) (b' := (0, 0)) (b := (0, 0)) dX11_nextToken_106 MX11_253 (ka hF 293 (by decide)) rfl rfl rfl rfl (Nat.le_of_ble_eq_true rfl) ?_
  refine WPM.of pX11 (Nat.le_of_ble_eq_true rfl) rfl ?_
  refine wp_iload_n dX11_byteAt_0 rfl ?_
  refine wp_aload_n dX11_byteAt_1 rfl ?_
  refine wp_geti (nI n) dX11_byteAt_2 fX11_247 (Or.inl rfl) (ka hF 293 (by decide)) hn ?_
  refine wp_icmp_ge 17 dX11_byteAt_5 (by decide) (fun q => absurd (nlt_ (a := p) (b := n) hpl (by omega)) q) (fun _ => ?_)
  refine wp_aload_n dX11_byteAt_8 rfl ?_
  refine wp_getr (gB G + 304) dX11_byteAt_9 fX11_42 (ka hF 293 (by decide)) (hF.2 _ _) (rra 11 (isK_le (ka hF 293 (by decide))) (fun _ => rfl)) ?_
  refine wp_iload_n dX11_byteAt_12 rfl ?_
  refine wp_ialdk (n := 500) p x dX11_byteAt_13 (ka hF 304 (by decide)) (la 304) (vin (by omega) (by decide)) (nIc (by omega)) hx ?_
  refine wp_goto 18 dX11_byteAt_14 (by decide) ?_
  refine wp_iret dX11_byteAt_18 rfl ?_
  show WP G (d + 6) (0, 0) μX11_nextToken 109 [.ref (gB G + 293), lvU] [.int x] m _
  refine wp_leMS dX11_nextToken_109 MX11_275 (Nat.le_of_ble_eq_true rfl) ?_
  refine wp_if_eq 302 dX11_nextToken_112 (by decide) (fun q1 => ?_) (fun q2 => ?_)
  · skip
    exact wp_vret dX11_nextToken_302 rfl (e1 q1)
  · skip
    refine wp_aload_n dX11_nextToken_115 rfl ?_
    refine wp_aload_n dX11_nextToken_116 rfl ?_
    refine wp_geti (nI l) dX11_nextToken_117 fX11_259 (Or.inl rfl) (ka hF 293 (by decide)) hl ?_
    refine wp_bipush (8 : Int32) dX11_nextToken_120 (by decide) ?_
    refine wp_icmp_ge 150 dX11_nextToken_122 (by decide) (fun q3 => ?_) (fun q4 => ?_)
    · have hp5 : ¬ l < 8 := (fun z => q3 (nlt_ (b := 8) z (by omega)))
      refine wp_aload_n dX11_nextToken_150 rfl ?_
      refine wp_getl v dX11_nextToken_151 fX11_262 (ka hF 293 (by decide)) hw ?_
      refine wp_putl dX11_nextToken_154 pX11_262 (ka hF 293 (by decide)) ?_
      have hF6 := Full_wfl 1120 (gB G + 293) v hF
      refine wp_aload_n dX11_nextToken_157 rfl ?_
      refine wp_dup dX11_nextToken_158 rfl ?_
      refine wp_geti (nI l) dX11_nextToken_159 fX11_259 (Or.inl rfl) (ka hF6 293 (by decide)) (fi_wfl.trans hl) ?_
      refine wp_iconst (1 : Int32) dX11_nextToken_162 (by decide) ?_
      refine wp_iaddv (nI (l + 1)) dX11_nextToken_163 (nadd (a := l) (b := 1) (by omega)) ?_
      refine wp_puti dX11_nextToken_164 pX11_259 (ka hF6 293 (by decide)) ?_
      have hF7 := Full_wfi 1116 (gB G + 293) (nI (l + 1)) hF6
      refine wp_aload_n dX11_nextToken_167 rfl ?_
      refine wp_dup dX11_nextToken_168 rfl ?_
      refine wp_geti (nI p) dX11_nextToken_169 fX11_250 (Or.inl rfl) (ka hF7 293 (by decide)) ((fi_ne (by decide)).trans (fi_wfl.trans hp)) ?_
      refine wp_iconst (1 : Int32) dX11_nextToken_172 (by decide) ?_
      refine wp_iaddv (nI (p + 1)) dX11_nextToken_173 (nadd (a := p) (b := 1) (by omega)) ?_
      refine wp_puti dX11_nextToken_174 pX11_250 (ka hF7 293 (by decide)) ?_
      have hF8 := Full_wfi 1112 (gB G + 293) (nI (p + 1)) hF7
      refine wp_goto 101 dX11_nextToken_177 (by decide) ?_
      refine wp_forget [.ref (gB G + 293), lvU] ⟨Or.inl rfl, Or.inr rfl, trivial⟩ ?_
      exact e2 q2 hp5
    · have hp9 : l < 8 := (nlt q4 (by omega) (by omega))
      refine wp_ldc2 dX11_nextToken_125 kX11_278 ?_
      refine wp_aload_n dX11_nextToken_128 rfl ?_
      refine wp_getl v dX11_nextToken_129 fX11_262 (ka hF 293 (by decide)) hw ?_
      refine wp_lmul dX11_nextToken_132 ?_
      refine wp_aload_n dX11_nextToken_133 rfl ?_
      refine wp_aload_n dX11_nextToken_134 rfl ?_
      refine wp_geti (nI p) dX11_nextToken_135 fX11_250 (Or.inl rfl) (ka hF 293 (by decide)) hp ?_
      refine wp_callV (As := [.int (nI p)]) (S := [.long ((27 : Int64) * v), .ref (gB G + 293)]) (b' := (0, 0)) (b := (0, 0)) dX11_nextToken_138 MX11_253 (ka hF 293 (by decide)) rfl rfl rfl rfl (Nat.le_of_ble_eq_true rfl) ?_
      refine WPM.of pX11 (Nat.le_of_ble_eq_true rfl) rfl ?_
      refine wp_iload_n dX11_byteAt_0 rfl ?_
      refine wp_aload_n dX11_byteAt_1 rfl ?_
      refine wp_geti (nI n) dX11_byteAt_2 fX11_247 (Or.inl rfl) (ka hF 293 (by decide)) hn ?_
      refine wp_icmp_ge 17 dX11_byteAt_5 (by decide) (fun q => absurd (nlt_ (a := p) (b := n) hpl (by omega)) q) (fun _ => ?_)
      refine wp_aload_n dX11_byteAt_8 rfl ?_
      refine wp_getr (gB G + 304) dX11_byteAt_9 fX11_42 (ka hF 293 (by decide)) (hF.2 _ _) (rra 11 (isK_le (ka hF 293 (by decide))) (fun _ => rfl)) ?_
      refine wp_iload_n dX11_byteAt_12 rfl ?_
      refine wp_ialdk (n := 500) p x dX11_byteAt_13 (ka hF 304 (by decide)) (la 304) (vin (by omega) (by decide)) (nIc (by omega)) hx ?_
      refine wp_goto 18 dX11_byteAt_14 (by decide) ?_
      refine wp_iret dX11_byteAt_18 rfl ?_
      show WP G (d + 6) (0, 0) μX11_nextToken 141 [.ref (gB G + 293), lvU] [.int x, .long ((27 : Int64) * v), .ref (gB G + 293)] m _
      refine wp_i2l dX11_nextToken_141 ?_
      refine wp_ladd dX11_nextToken_142 ?_
      refine wp_ldc2 dX11_nextToken_143 kX11_280 ?_
      refine wp_lsub dX11_nextToken_146 ?_
      refine wp_goto 154 dX11_nextToken_147 (by decide) ?_
      refine wp_putl dX11_nextToken_154 pX11_262 (ka hF 293 (by decide)) ?_
      have hF10 := Full_wfl 1120 (gB G + 293) ((((27 : Int64) * v) + (Int32.toInt64 x)) - (96 : Int64)) hF
      refine wp_aload_n dX11_nextToken_157 rfl ?_
      refine wp_dup dX11_nextToken_158 rfl ?_
      refine wp_geti (nI l) dX11_nextToken_159 fX11_259 (Or.inl rfl) (ka hF10 293 (by decide)) (fi_wfl.trans hl) ?_
      refine wp_iconst (1 : Int32) dX11_nextToken_162 (by decide) ?_
      refine wp_iaddv (nI (l + 1)) dX11_nextToken_163 (nadd (a := l) (b := 1) (by omega)) ?_
      refine wp_puti dX11_nextToken_164 pX11_259 (ka hF10 293 (by decide)) ?_
      have hF11 := Full_wfi 1116 (gB G + 293) (nI (l + 1)) hF10
      refine wp_aload_n dX11_nextToken_167 rfl ?_
      refine wp_dup dX11_nextToken_168 rfl ?_
      refine wp_geti (nI p) dX11_nextToken_169 fX11_250 (Or.inl rfl) (ka hF11 293 (by decide)) ((fi_ne (by decide)).trans (fi_wfl.trans hp)) ?_
      refine wp_iconst (1 : Int32) dX11_nextToken_172 (by decide) ?_
      refine wp_iaddv (nI (p + 1)) dX11_nextToken_173 (nadd (a := p) (b := 1) (by omega)) ?_
      refine wp_puti dX11_nextToken_174 pX11_250 (ka hF11 293 (by decide)) ?_
      have hF12 := Full_wfi 1112 (gB G + 293) (nI (p + 1)) hF11
      refine wp_goto 101 dX11_nextToken_177 (by decide) ?_
      refine wp_forget [.ref (gB G + 293), lvU] ⟨Or.inl rfl, Or.inr rfl, trivial⟩ ?_
      exact e3 q2 hp9

theorem n3e {G : Cx} {d : Nat} {m : Mm} {Q : Option Value → Mm → Prop} {n p : Nat} (hF : Full G m) (hn : fi m 1111 (gB G + 293) = nI n) (hp : fi m 1112 (gB G + 293) = nI p) (hn5 : n ≤ 500) (hpn : p ≤ n) (hpl : ¬ p < n) 
    (e1 : (diM (-1 : Int32)) = 0 → Q none m)
    (e2 : ¬ (diM (-1 : Int32)) = 0 → ¬ (999999 : Int32) < (fi m 1117 (gB G + 293)) → WP G (d + 6) (0, 0) μX11_nextToken 192 [.ref (gB G + 293), lvU] [] (wfi (wfi m 1117 (gB G + 293) ((((10 : Int32) * (fi m 1117 (gB G + 293))) + (-1 : Int32)) - (48 : Int32))) 1112 (gB G + 293) (nI (p + 1))) Q)
    (e3 : ¬ (diM (-1 : Int32)) = 0 → (999999 : Int32) < (fi m 1117 (gB G + 293)) → WP G (d + 6) (0, 0) μX11_nextToken 192 [.ref (gB G + 293), lvU] [] (wfi (wfi m 1117 (gB G + 293) (fi m 1117 (gB G + 293))) 1112 (gB G + 293) (nI (p + 1))) Q) :
    WP G (d + 6) (0, 0) μX11_nextToken 192 [.ref (gB G + 293), lvU] [] m Q := by
  refine wp_aload_n dX11_nextToken_192 rfl ?_
  refine wp_aload_n dX11_nextToken_193 rfl ?_
  refine wp_geti (nI p) dX11_nextToken_194 fX11_250 (Or.inl rfl) (ka hF 293 (by decide)) hp ?_
  refine wp_callV (As := [.int (nI p)]) (S := []) (b' := (0, 0)) (b := (0, 0)) dX11_nextToken_197 MX11_253 (ka hF 293 (by decide)) rfl rfl rfl rfl (Nat.le_of_ble_eq_true rfl) ?_
  refine WPM.of pX11 (Nat.le_of_ble_eq_true rfl) rfl ?_
  refine wp_iload_n dX11_byteAt_0 rfl ?_
  refine wp_aload_n dX11_byteAt_1 rfl ?_
  refine wp_geti (nI n) dX11_byteAt_2 fX11_247 (Or.inl rfl) (ka hF 293 (by decide)) hn ?_
  refine wp_icmp_ge 17 dX11_byteAt_5 (by decide) (fun _ => ?_) (fun q => absurd q (fun z => hpl (nlt (a := p) (b := n) z (by omega) (by omega))))
  refine wp_iconst (-1 : Int32) dX11_byteAt_17 (by decide) ?_
  refine wp_iret dX11_byteAt_18 rfl ?_
  show WP G (d + 6) (0, 0) μX11_nextToken 200 [.ref (gB G + 293), lvU] [.int (-1 : Int32)] m _
  refine wp_diMS dX11_nextToken_200 MX11_282 (Nat.le_of_ble_eq_true rfl) ?_
  refine wp_if_eq 302 dX11_nextToken_203 (by decide) (fun q1 => ?_) (fun q2 => ?_)
  · skip
    exact wp_vret dX11_nextToken_302 rfl (e1 q1)
  · skip
    refine wp_aload_n dX11_nextToken_206 rfl ?_
    refine wp_aload_n dX11_nextToken_207 rfl ?_
    refine wp_geti (fi m 1117 (gB G + 293)) dX11_nextToken_208 fX11_266 (Or.inl rfl) (ka hF 293 (by decide)) rfl ?_
    refine wp_ldcw dX11_nextToken_211 kX11_285 ?_
    refine wp_icmp_le 224 dX11_nextToken_214 (by decide) (fun q3 => ?_) (fun q4 => ?_)
    · skip
      refine wp_bipush (10 : Int32) dX11_nextToken_224 (by decide) ?_
      refine wp_aload_n dX11_nextToken_226 rfl ?_
      refine wp_geti (fi m 1117 (gB G + 293)) dX11_nextToken_227 fX11_266 (Or.inl rfl) (ka hF 293 (by decide)) rfl ?_
      refine wp_imulv ((10 : Int32) * (fi m 1117 (gB G + 293))) dX11_nextToken_230 rfl ?_
      refine wp_aload_n dX11_nextToken_231 rfl ?_
      refine wp_aload_n dX11_nextToken_232 rfl ?_
      refine wp_geti (nI p) dX11_nextToken_233 fX11_250 (Or.inl rfl) (ka hF 293 (by decide)) hp ?_
      refine wp_callV (As := [.int (nI p)]) (S := [.int ((10 : Int32) * (fi m 1117 (gB G + 293))), .ref (gB G + 293)]) (b' := (0, 0)) (b := (0, 0)) dX11_nextToken_236 MX11_253 (ka hF 293 (by decide)) rfl rfl rfl rfl (Nat.le_of_ble_eq_true rfl) ?_
      refine WPM.of pX11 (Nat.le_of_ble_eq_true rfl) rfl ?_
      refine wp_iload_n dX11_byteAt_0 rfl ?_
      refine wp_aload_n dX11_byteAt_1 rfl ?_
      refine wp_geti (nI n) dX11_byteAt_2 fX11_247 (Or.inl rfl) (ka hF 293 (by decide)) hn ?_
      refine wp_icmp_ge 17 dX11_byteAt_5 (by decide) (fun _ => ?_) (fun q => absurd q (fun z => hpl (nlt (a := p) (b := n) z (by omega) (by omega))))
      refine wp_iconst (-1 : Int32) dX11_byteAt_17 (by decide) ?_
      refine wp_iret dX11_byteAt_18 rfl ?_
      show WP G (d + 6) (0, 0) μX11_nextToken 239 [.ref (gB G + 293), lvU] [.int (-1 : Int32), .int ((10 : Int32) * (fi m 1117 (gB G + 293))), .ref (gB G + 293)] m _
      refine wp_iaddv (((10 : Int32) * (fi m 1117 (gB G + 293))) + (-1 : Int32)) dX11_nextToken_239 rfl ?_
      refine wp_bipush (48 : Int32) dX11_nextToken_240 (by decide) ?_
      refine wp_isubv ((((10 : Int32) * (fi m 1117 (gB G + 293))) + (-1 : Int32)) - (48 : Int32)) dX11_nextToken_242 rfl ?_
      refine wp_puti dX11_nextToken_243 pX11_266 (ka hF 293 (by decide)) ?_
      have hF5 := Full_wfi 1117 (gB G + 293) ((((10 : Int32) * (fi m 1117 (gB G + 293))) + (-1 : Int32)) - (48 : Int32)) hF
      refine wp_aload_n dX11_nextToken_246 rfl ?_
      refine wp_dup dX11_nextToken_247 rfl ?_
      refine wp_geti (nI p) dX11_nextToken_248 fX11_250 (Or.inl rfl) (ka hF5 293 (by decide)) ((fi_ne (by decide)).trans hp) ?_
      refine wp_iconst (1 : Int32) dX11_nextToken_251 (by decide) ?_
      refine wp_iaddv (nI (p + 1)) dX11_nextToken_252 (nadd (a := p) (b := 1) (by omega)) ?_
      refine wp_puti dX11_nextToken_253 pX11_250 (ka hF5 293 (by decide)) ?_
      have hF6 := Full_wfi 1112 (gB G + 293) (nI (p + 1)) hF5
      refine wp_goto 192 dX11_nextToken_256 (by decide) ?_
      refine wp_forget [.ref (gB G + 293), lvU] ⟨Or.inl rfl, Or.inr rfl, trivial⟩ ?_
      exact e2 q2 q3
    · skip
      refine wp_aload_n dX11_nextToken_217 rfl ?_
      refine wp_geti (fi m 1117 (gB G + 293)) dX11_nextToken_218 fX11_266 (Or.inl rfl) (ka hF 293 (by decide)) rfl ?_
      refine wp_goto 243 dX11_nextToken_221 (by decide) ?_
      refine wp_puti dX11_nextToken_243 pX11_266 (ka hF 293 (by decide)) ?_
      have hF7 := Full_wfi 1117 (gB G + 293) (fi m 1117 (gB G + 293)) hF
      refine wp_aload_n dX11_nextToken_246 rfl ?_
      refine wp_dup dX11_nextToken_247 rfl ?_
      refine wp_geti (nI p) dX11_nextToken_248 fX11_250 (Or.inl rfl) (ka hF7 293 (by decide)) ((fi_ne (by decide)).trans hp) ?_
      refine wp_iconst (1 : Int32) dX11_nextToken_251 (by decide) ?_
      refine wp_iaddv (nI (p + 1)) dX11_nextToken_252 (nadd (a := p) (b := 1) (by omega)) ?_
      refine wp_puti dX11_nextToken_253 pX11_250 (ka hF7 293 (by decide)) ?_
      have hF8 := Full_wfi 1112 (gB G + 293) (nI (p + 1)) hF7
      refine wp_goto 192 dX11_nextToken_256 (by decide) ?_
      refine wp_forget [.ref (gB G + 293), lvU] ⟨Or.inl rfl, Or.inr rfl, trivial⟩ ?_
      exact e3 q2 q4

theorem n3 {G : Cx} {d : Nat} {m : Mm} {Q : Option Value → Mm → Prop} {n p : Nat} {x y : Int32} (hF : Full G m) (hn : fi m 1111 (gB G + 293) = nI n) (hp : fi m 1112 (gB G + 293) = nI p) (hn5 : n ≤ 500) (hpn : p ≤ n) (hpl : p < n) (hx : ai m (gB G + 304) p = x) (hx1 : ¬ x = -1) (hy : fi m 1117 (gB G + 293) = y) 
    (e1 : (diM x) = 0 → Q none m)
    (e2 : ¬ (diM x) = 0 → ¬ (999999 : Int32) < y → WP G (d + 6) (0, 0) μX11_nextToken 192 [.ref (gB G + 293), lvU] [] (wfi (wfi m 1117 (gB G + 293) ((((10 : Int32) * y) + x) - (48 : Int32))) 1112 (gB G + 293) (nI (p + 1))) Q)
    (e3 : ¬ (diM x) = 0 → (999999 : Int32) < y → WP G (d + 6) (0, 0) μX11_nextToken 192 [.ref (gB G + 293), lvU] [] (wfi (wfi m 1117 (gB G + 293) y) 1112 (gB G + 293) (nI (p + 1))) Q) :
    WP G (d + 6) (0, 0) μX11_nextToken 192 [.ref (gB G + 293), lvU] [] m Q := by
  refine wp_aload_n dX11_nextToken_192 rfl ?_
  refine wp_aload_n dX11_nextToken_193 rfl ?_
  refine wp_geti (nI p) dX11_nextToken_194 fX11_250 (Or.inl rfl) (ka hF 293 (by decide)) hp ?_
  refine wp_callV (As := [.int (nI p)]) (S := []) (b' := (0, 0)) (b := (0, 0)) dX11_nextToken_197 MX11_253 (ka hF 293 (by decide)) rfl rfl rfl rfl (Nat.le_of_ble_eq_true rfl) ?_
  refine WPM.of pX11 (Nat.le_of_ble_eq_true rfl) rfl ?_
  refine wp_iload_n dX11_byteAt_0 rfl ?_
  refine wp_aload_n dX11_byteAt_1 rfl ?_
  refine wp_geti (nI n) dX11_byteAt_2 fX11_247 (Or.inl rfl) (ka hF 293 (by decide)) hn ?_
  refine wp_icmp_ge 17 dX11_byteAt_5 (by decide) (fun q => absurd (nlt_ (a := p) (b := n) hpl (by omega)) q) (fun _ => ?_)
  refine wp_aload_n dX11_byteAt_8 rfl ?_
  refine wp_getr (gB G + 304) dX11_byteAt_9 fX11_42 (ka hF 293 (by decide)) (hF.2 _ _) (rra 11 (isK_le (ka hF 293 (by decide))) (fun _ => rfl)) ?_
  refine wp_iload_n dX11_byteAt_12 rfl ?_
  refine wp_ialdk (n := 500) p x dX11_byteAt_13 (ka hF 304 (by decide)) (la 304) (vin (by omega) (by decide)) (nIc (by omega)) hx ?_
  refine wp_goto 18 dX11_byteAt_14 (by decide) ?_
  refine wp_iret dX11_byteAt_18 rfl ?_
  show WP G (d + 6) (0, 0) μX11_nextToken 200 [.ref (gB G + 293), lvU] [.int x] m _
  refine wp_diMS dX11_nextToken_200 MX11_282 (Nat.le_of_ble_eq_true rfl) ?_
  refine wp_if_eq 302 dX11_nextToken_203 (by decide) (fun q1 => ?_) (fun q2 => ?_)
  · skip
    exact wp_vret dX11_nextToken_302 rfl (e1 q1)
  · skip
    refine wp_aload_n dX11_nextToken_206 rfl ?_
    refine wp_aload_n dX11_nextToken_207 rfl ?_
    refine wp_geti y dX11_nextToken_208 fX11_266 (Or.inl rfl) (ka hF 293 (by decide)) hy ?_
    refine wp_ldcw dX11_nextToken_211 kX11_285 ?_
    refine wp_icmp_le 224 dX11_nextToken_214 (by decide) (fun q3 => ?_) (fun q4 => ?_)
    · skip
      refine wp_bipush (10 : Int32) dX11_nextToken_224 (by decide) ?_
      refine wp_aload_n dX11_nextToken_226 rfl ?_
      refine wp_geti y dX11_nextToken_227 fX11_266 (Or.inl rfl) (ka hF 293 (by decide)) hy ?_
      refine wp_imulv ((10 : Int32) * y) dX11_nextToken_230 rfl ?_
      refine wp_aload_n dX11_nextToken_231 rfl ?_
      refine wp_aload_n dX11_nextToken_232 rfl ?_
      refine wp_geti (nI p) dX11_nextToken_233 fX11_250 (Or.inl rfl) (ka hF 293 (by decide)) hp ?_
      refine wp_callV (As := [.int (nI p)]) (S := [.int ((10 : Int32) * y), .ref (gB G + 293)]) (b' := (0, 0)) (b := (0, 0)) dX11_nextToken_236 MX11_253 (ka hF 293 (by decide)) rfl rfl rfl rfl (Nat.le_of_ble_eq_true rfl) ?_
      refine WPM.of pX11 (Nat.le_of_ble_eq_true rfl) rfl ?_
      refine wp_iload_n dX11_byteAt_0 rfl ?_
      refine wp_aload_n dX11_byteAt_1 rfl ?_
      refine wp_geti (nI n) dX11_byteAt_2 fX11_247 (Or.inl rfl) (ka hF 293 (by decide)) hn ?_
      refine wp_icmp_ge 17 dX11_byteAt_5 (by decide) (fun q => absurd (nlt_ (a := p) (b := n) hpl (by omega)) q) (fun _ => ?_)
      refine wp_aload_n dX11_byteAt_8 rfl ?_
      refine wp_getr (gB G + 304) dX11_byteAt_9 fX11_42 (ka hF 293 (by decide)) (hF.2 _ _) (rra 11 (isK_le (ka hF 293 (by decide))) (fun _ => rfl)) ?_
      refine wp_iload_n dX11_byteAt_12 rfl ?_
      refine wp_ialdk (n := 500) p x dX11_byteAt_13 (ka hF 304 (by decide)) (la 304) (vin (by omega) (by decide)) (nIc (by omega)) hx ?_
      refine wp_goto 18 dX11_byteAt_14 (by decide) ?_
      refine wp_iret dX11_byteAt_18 rfl ?_
      show WP G (d + 6) (0, 0) μX11_nextToken 239 [.ref (gB G + 293), lvU] [.int x, .int ((10 : Int32) * y), .ref (gB G + 293)] m _
      refine wp_iaddv (((10 : Int32) * y) + x) dX11_nextToken_239 rfl ?_
      refine wp_bipush (48 : Int32) dX11_nextToken_240 (by decide) ?_
      refine wp_isubv ((((10 : Int32) * y) + x) - (48 : Int32)) dX11_nextToken_242 rfl ?_
      refine wp_puti dX11_nextToken_243 pX11_266 (ka hF 293 (by decide)) ?_
      have hF5 := Full_wfi 1117 (gB G + 293) ((((10 : Int32) * y) + x) - (48 : Int32)) hF
      refine wp_aload_n dX11_nextToken_246 rfl ?_
      refine wp_dup dX11_nextToken_247 rfl ?_
      refine wp_geti (nI p) dX11_nextToken_248 fX11_250 (Or.inl rfl) (ka hF5 293 (by decide)) ((fi_ne (by decide)).trans hp) ?_
      refine wp_iconst (1 : Int32) dX11_nextToken_251 (by decide) ?_
      refine wp_iaddv (nI (p + 1)) dX11_nextToken_252 (nadd (a := p) (b := 1) (by omega)) ?_
      refine wp_puti dX11_nextToken_253 pX11_250 (ka hF5 293 (by decide)) ?_
      have hF6 := Full_wfi 1112 (gB G + 293) (nI (p + 1)) hF5
      refine wp_goto 192 dX11_nextToken_256 (by decide) ?_
      refine wp_forget [.ref (gB G + 293), lvU] ⟨Or.inl rfl, Or.inr rfl, trivial⟩ ?_
      exact e2 q2 q3
    · skip
      refine wp_aload_n dX11_nextToken_217 rfl ?_
      refine wp_geti y dX11_nextToken_218 fX11_266 (Or.inl rfl) (ka hF 293 (by decide)) hy ?_
      refine wp_goto 243 dX11_nextToken_221 (by decide) ?_
      refine wp_puti dX11_nextToken_243 pX11_266 (ka hF 293 (by decide)) ?_
      have hF7 := Full_wfi 1117 (gB G + 293) y hF
      refine wp_aload_n dX11_nextToken_246 rfl ?_
      refine wp_dup dX11_nextToken_247 rfl ?_
      refine wp_geti (nI p) dX11_nextToken_248 fX11_250 (Or.inl rfl) (ka hF7 293 (by decide)) ((fi_ne (by decide)).trans hp) ?_
      refine wp_iconst (1 : Int32) dX11_nextToken_251 (by decide) ?_
      refine wp_iaddv (nI (p + 1)) dX11_nextToken_252 (nadd (a := p) (b := 1) (by omega)) ?_
      refine wp_puti dX11_nextToken_253 pX11_250 (ka hF7 293 (by decide)) ?_
      have hF8 := Full_wfi 1112 (gB G + 293) (nI (p + 1)) hF7
      refine wp_goto 192 dX11_nextToken_256 (by decide) ?_
      refine wp_forget [.ref (gB G + 293), lvU] ⟨Or.inl rfl, Or.inr rfl, trivial⟩ ?_
      exact e3 q2 q4

theorem wA {G : Cx} {d : Nat} {m : Mm} {Q : Option Value → Mm → Prop} {i w l : Nat} {tk : Int32} (hF : Full G m) (ht : fi m 1114 (gB G + 293) = tk) (hl : fi m 1116 (gB G + 293) = nI l) (hi : i < nJS) (hw : leJ i = w) (hw9 : w < 100) (hl5 : l ≤ 500) 
    (e1 : ¬ tk = (2 : Int32) → Q (some (.int (0 : Int32))) m)
    (e2 : tk = (2 : Int32) → l = w → WP G (d + 6) (0, 0) μX11_isWord 26 [.ref (gB G + 293), .ref (gK G i), .long (0 : Int64), lvU, .int (0 : Int32)] [] m Q)
    (e3 : tk = (2 : Int32) → ¬ l = w → Q (some (.int (0 : Int32))) m) :
    WPM G (d + 6) (0, 0) μX11_isWord [.ref (gB G + 293), .ref (gK G i)] m Q := by
  refine WPM.of pX11 (Nat.le_of_ble_eq_true rfl) rfl ?_
  refine wp_aload_n dX11_isWord_0 rfl ?_
  refine wp_geti tk dX11_isWord_1 fX11_272 (Or.inl rfl) (ka hF 293 (by decide)) ht ?_
  refine wp_iconst (2 : Int32) dX11_isWord_4 (by decide) ?_
  refine wp_icmp_ne 19 dX11_isWord_5 (by decide) (fun q1 => ?_) (fun q2 => ?_)
  · skip
    refine wp_iconst (0 : Int32) dX11_isWord_19 (by decide) ?_
    exact wp_zret dX11_isWord_20 rfl rfl (e1 q1)
  · skip
    refine wp_aload_n dX11_isWord_8 rfl ?_
    refine wp_geti (nI l) dX11_isWord_9 fX11_259 (Or.inl rfl) (ka hF 293 (by decide)) hl ?_
    refine wp_aload_n dX11_isWord_12 rfl ?_
    refine wp_slenN (n := w) dX11_isWord_13 MX11_289 hi hw (Nat.le_of_ble_eq_true rfl) ?_
    refine wp_icmp_eq 21 dX11_isWord_16 (by decide) (fun q3 => ?_) (fun q4 => ?_)
    · have hp5 : l = w := (neq q3 (by omega) (by omega))
      refine wp_lconst (0 : Int64) dX11_isWord_21 (by decide) ?_
      refine wp_lstore_n dX11_isWord_22 (by decide) rfl ?_
      refine wp_iconst (0 : Int32) dX11_isWord_23 (by decide) ?_
      refine wp_istore dX11_isWord_24 (by decide) rfl ?_
      refine wp_forget [.ref (gB G + 293), .ref (gK G i), .long (0 : Int64), lvU, .int (0 : Int32)] ⟨Or.inl rfl, Or.inl rfl, Or.inl rfl, Or.inr rfl, Or.inl rfl, trivial⟩ ?_
      exact e2 q2 hp5
    · have hp6 : ¬ l = w := (fun z => q4 (congrArg nI z))
      refine wp_iconst (0 : Int32) dX11_isWord_19 (by decide) ?_
      exact wp_zret dX11_isWord_20 rfl rfl (e3 q2 hp6)

theorem wB {G : Cx} {d : Nat} {m : Mm} {Q : Option Value → Mm → Prop} {i w j : Nat} {v z : Int64} (hF : Full G m) (hi : i < nJS) (hw : leJ i = w) (hw9 : w < 100) (hj : j ≤ w) (hz : fl m 1120 (gB G + 293) = z) 
    (e1 : ¬ j < w → ¬ z = v → Q (some (.int (0 : Int32))) m)
    (e2 : ¬ j < w → z = v → Q (some (.int (1 : Int32))) m)
    (e3 : j < w → WP G (d + 6) (0, 0) μX11_isWord 26 [.ref (gB G + 293), .ref (gK G i), .long ((((27 : Int64) * v) + (Int32.toInt64 (chJ i j))) - (96 : Int64)), lvU, .int (nI (j + 1))] [] m Q) :
    WP G (d + 6) (0, 0) μX11_isWord 26 [.ref (gB G + 293), .ref (gK G i), .long v, lvU, .int (nI j)] [] m Q := by
  refine wp_iload dX11_isWord_26 rfl ?_
  refine wp_aload_n dX11_isWord_28 rfl ?_
  refine wp_slenN (n := w) dX11_isWord_29 MX11_289 hi hw (Nat.le_of_ble_eq_true rfl) ?_
  refine wp_icmp_ge 59 dX11_isWord_32 (by decide) (fun q1 => ?_) (fun q2 => ?_)
  · have hp3 : ¬ j < w := (fun z => q1 (nlt_ (b := w) z (by omega)))
    refine wp_aload_n dX11_isWord_59 rfl ?_
    refine wp_getl z dX11_isWord_60 fX11_262 (ka hF 293 (by decide)) hz ?_
    refine wp_lload_n dX11_isWord_63 rfl ?_
    refine wp_lc_ne 72 dX11_isWord_64 dX11_isWord_65 (by decide) (fun q4 => ?_) (fun q5 => ?_)
    · skip
      refine wp_iconst (0 : Int32) dX11_isWord_72 (by decide) ?_
      exact wp_zret dX11_isWord_73 rfl rfl (e1 hp3 q4)
    · skip
      refine wp_iconst (1 : Int32) dX11_isWord_68 (by decide) ?_
      refine wp_goto 73 dX11_isWord_69 (by decide) ?_
      exact wp_zret dX11_isWord_73 rfl rfl (e2 hp3 q5)
  · have hp6 : j < w := (nlt q2 (by omega) (by omega))
    refine wp_ldc2 dX11_isWord_35 kX11_278 ?_
    refine wp_lload_n dX11_isWord_38 rfl ?_
    refine wp_lmul dX11_isWord_39 ?_
    refine wp_aload_n dX11_isWord_40 rfl ?_
    refine wp_iload dX11_isWord_41 rfl ?_
    refine wp_chrN (n := w) dX11_isWord_43 MX11_294 hi hw (by omega) (Nat.le_of_ble_eq_true rfl) ?_
    refine wp_i2l dX11_isWord_46 ?_
    refine wp_ladd dX11_isWord_47 ?_
    refine wp_ldc2 dX11_isWord_48 kX11_280 ?_
    refine wp_lsub dX11_isWord_51 ?_
    refine wp_lstore_n dX11_isWord_52 (by decide) rfl ?_
    refine wp_iinc (nI (j + 1)) dX11_isWord_53 rfl (by decide) (nadd (a := j) (b := 1) (by omega)) rfl ?_
    refine wp_goto 26 dX11_isWord_56 (by decide) ?_
    refine wp_forget [.ref (gB G + 293), .ref (gK G i), .long ((((27 : Int64) * v) + (Int32.toInt64 (chJ i j))) - (96 : Int64)), lvU, .int (nI (j + 1))] ⟨Or.inl rfl, Or.inl rfl, Or.inl rfl, Or.inr rfl, Or.inl rfl, trivial⟩ ?_
    exact e3 hp6

theorem adA {G : Cx} {d : Nat} {m : Mm} {Q : Option Value → Mm → Prop}  (hF : Full G m) (he : fi m 1118 (gB G + 293) = (0 : Int32)) 
    (e1 : WPM G (d + 6) (0, 0) μX11_nextToken [.ref (gB G + 293)] m (fun r' m' => WP G (d + 7) (0, 0) μX11_advance 11 [lvU] (r'.toList ++ []) m' Q)) :
    WPM G (d + 7) (0, 0) μX11_advance [.ref (gB G + 293)] m Q := by
  refine WPM.of pX11 (Nat.le_of_ble_eq_true rfl) rfl ?_
  refine wp_aload_n dX11_advance_0 rfl ?_
  refine wp_geti (0 : Int32) dX11_advance_1 fX11_298 (Or.inl rfl) (ka hF 293 (by decide)) he ?_
  refine wp_if_ne 11 dX11_advance_4 (by decide) (fun q => absurd (by decide) q) (fun _ => ?_)
  refine wp_aload_n dX11_advance_7 rfl ?_
  refine wp_forget [lvU] ⟨Or.inr rfl, trivial⟩ ?_
  refine wp_callV (As := []) (S := []) (b' := (0, 0)) (b := (0, 0)) dX11_advance_8 MX11_301 (ka hF 293 (by decide)) rfl rfl rfl rfl (Nat.le_of_ble_eq_true rfl) ?_
  exact e1

theorem adB {G : Cx} {d : Nat} {m : Mm} {Q : Option Value → Mm → Prop}  (hF : Full G m) 
    (e1 : Q none m) :
    WP G (d + 7) (0, 0) μX11_advance 11 [lvU] [] m Q := by
  exact wp_vret dX11_advance_11 rfl (e1)

theorem adE {G : Cx} {d : Nat} {m : Mm} {Q : Option Value → Mm → Prop} {c : Int32} (hF : Full G m) (he : fi m 1118 (gB G + 293) = c) (hc : ¬ c = 0) 
    (e1 : Q none m) :
    WPM G (d + 7) (0, 0) μX11_advance [.ref (gB G + 293)] m Q := by
  refine WPM.of pX11 (Nat.le_of_ble_eq_true rfl) rfl ?_
  refine wp_aload_n dX11_advance_0 rfl ?_
  refine wp_geti c dX11_advance_1 fX11_298 (Or.inl rfl) (ka hF 293 (by decide)) he ?_
  refine wp_if_ne 11 dX11_advance_4 (by decide) (fun _ => ?_) (fun q => absurd q hc)
  exact wp_vret dX11_advance_11 rfl (e1)

theorem rsA {G : Cx} {d : Nat} {m : Mm} {Q : Option Value → Mm → Prop} {y st w : Nat} (hF : Full G m) (he : fi m 1118 (gB G + 293) = (0 : Int32)) (hy : fi m 1115 (gB G + 293) = nI y) (hs : fi m 1113 (gB G + 293) = nI st) (hy9 : y < 1000) (hw : w < 1000) 
    (e1 : ¬ y = w → WPM G (d + 7) (0, 0) μX11_advance [.ref (gB G + 293)] (wfi (wfi m 1118 (gB G + 293) (1 : Int32)) 1119 (gB G + 293) (nI st)) (fun r' m' => WP G (d + 8) (0, 0) μX11_requireSymbol 22 [lvU, lvU] (r'.toList ++ []) m' Q))
    (e2 : y = w → WPM G (d + 7) (0, 0) μX11_advance [.ref (gB G + 293)] m (fun r' m' => WP G (d + 8) (0, 0) μX11_requireSymbol 22 [lvU, lvU] (r'.toList ++ []) m' Q)) :
    WPM G (d + 8) (0, 0) μX11_requireSymbol [.ref (gB G + 293), .int (nI w)] m Q := by
  refine WPM.of pX11 (Nat.le_of_ble_eq_true rfl) rfl ?_
  refine wp_aload_n dX11_requireSymbol_0 rfl ?_
  refine wp_aload_n dX11_requireSymbol_1 rfl ?_
  refine wp_geti (nI y) dX11_requireSymbol_2 fX11_269 (Or.inl rfl) (ka hF 293 (by decide)) hy ?_
  refine wp_iload_n dX11_requireSymbol_5 rfl ?_
  refine wp_icmp_ne 13 dX11_requireSymbol_6 (by decide) (fun q1 => ?_) (fun q2 => ?_)
  · have hp3 : ¬ y = w := (fun z => q1 (congrArg nI z))
    refine wp_iconst (0 : Int32) dX11_requireSymbol_13 (by decide) ?_
    refine wp_iconst (1 : Int32) dX11_requireSymbol_14 (by decide) ?_
    refine wp_callV (As := [.int (0 : Int32), .int (1 : Int32)]) (S := []) (b' := (0, 0)) (b := (0, 0)) dX11_requireSymbol_15 MX11_304 (ka hF 293 (by decide)) rfl rfl rfl rfl (Nat.le_of_ble_eq_true rfl) ?_
    refine WPM.of pX11 (Nat.le_of_ble_eq_true rfl) rfl ?_
    refine wp_iload_n dX11_require_0 rfl ?_
    refine wp_if_ne 24 dX11_require_1 (by decide) (fun q => absurd (by decide) q) (fun _ => ?_)
    refine wp_aload_n dX11_require_4 rfl ?_
    refine wp_geti (0 : Int32) dX11_require_5 fX11_298 (Or.inl rfl) (ka hF 293 (by decide)) he ?_
    refine wp_if_ne 24 dX11_require_8 (by decide) (fun q => absurd (by decide) q) (fun _ => ?_)
    refine wp_aload_n dX11_require_11 rfl ?_
    refine wp_iload_n dX11_require_12 rfl ?_
    refine wp_puti dX11_require_13 pX11_298 (ka hF 293 (by decide)) ?_
    have hF4 := Full_wfi 1118 (gB G + 293) (1 : Int32) hF
    refine wp_aload_n dX11_require_16 rfl ?_
    refine wp_aload_n dX11_require_17 rfl ?_
    refine wp_geti (nI st) dX11_require_18 fX11_256 (Or.inl rfl) (ka hF4 293 (by decide)) ((fi_ne (by decide)).trans hs) ?_
    refine wp_puti dX11_require_21 pX11_45 (ka hF4 293 (by decide)) ?_
    have hF5 := Full_wfi 1119 (gB G + 293) (nI st) hF4
    refine wp_vret dX11_require_24 rfl ?_
    show WP G (d + 8) (0, 0) μX11_requireSymbol 18 [.ref (gB G + 293), .int (nI w)] [] (wfi (wfi m 1118 (gB G + 293) (1 : Int32)) 1119 (gB G + 293) (nI st)) _
    refine wp_aload_n dX11_requireSymbol_18 rfl ?_
    refine wp_forget [lvU, lvU] ⟨Or.inr rfl, Or.inr rfl, trivial⟩ ?_
    refine wp_callV (As := []) (S := []) (b' := (0, 0)) (b := (0, 0)) dX11_requireSymbol_19 MX11_308 (ka hF5 293 (by decide)) rfl rfl rfl rfl (Nat.le_of_ble_eq_true rfl) ?_
    exact e1 hp3
  · have hp6 : y = w := (neq q2 (by omega) (by omega))
    refine wp_iconst (1 : Int32) dX11_requireSymbol_9 (by decide) ?_
    refine wp_goto 14 dX11_requireSymbol_10 (by decide) ?_
    refine wp_iconst (1 : Int32) dX11_requireSymbol_14 (by decide) ?_
    refine wp_callV (As := [.int (1 : Int32), .int (1 : Int32)]) (S := []) (b' := (0, 0)) (b := (0, 0)) dX11_requireSymbol_15 MX11_304 (ka hF 293 (by decide)) rfl rfl rfl rfl (Nat.le_of_ble_eq_true rfl) ?_
    refine WPM.of pX11 (Nat.le_of_ble_eq_true rfl) rfl ?_
    refine wp_iload_n dX11_require_0 rfl ?_
    refine wp_if_ne 24 dX11_require_1 (by decide) (fun _ => ?_) (fun q => absurd q (by decide))
    refine wp_vret dX11_require_24 rfl ?_
    show WP G (d + 8) (0, 0) μX11_requireSymbol 18 [.ref (gB G + 293), .int (nI w)] [] m _
    refine wp_aload_n dX11_requireSymbol_18 rfl ?_
    refine wp_forget [lvU, lvU] ⟨Or.inr rfl, Or.inr rfl, trivial⟩ ?_
    refine wp_callV (As := []) (S := []) (b' := (0, 0)) (b := (0, 0)) dX11_requireSymbol_19 MX11_308 (ka hF 293 (by decide)) rfl rfl rfl rfl (Nat.le_of_ble_eq_true rfl) ?_
    exact e2 hp6

theorem rsB {G : Cx} {d : Nat} {m : Mm} {Q : Option Value → Mm → Prop}  (hF : Full G m) 
    (e1 : Q none m) :
    WP G (d + 8) (0, 0) μX11_requireSymbol 22 [lvU, lvU] [] m Q := by
  exact wp_vret dX11_requireSymbol_22 rfl (e1)

theorem rsE {G : Cx} {d : Nat} {m : Mm} {Q : Option Value → Mm → Prop} {c w : Int32} (hF : Full G m) (he : fi m 1118 (gB G + 293) = c) (hc : ¬ c = 0) 
    (e1 : ¬ (fi m 1115 (gB G + 293)) = w → WPM G (d + 7) (0, 0) μX11_advance [.ref (gB G + 293)] m (fun r' m' => WP G (d + 8) (0, 0) μX11_requireSymbol 22 [lvU, lvU] (r'.toList ++ []) m' Q))
    (e2 : (fi m 1115 (gB G + 293)) = w → WPM G (d + 7) (0, 0) μX11_advance [.ref (gB G + 293)] m (fun r' m' => WP G (d + 8) (0, 0) μX11_requireSymbol 22 [lvU, lvU] (r'.toList ++ []) m' Q)) :
    WPM G (d + 8) (0, 0) μX11_requireSymbol [.ref (gB G + 293), .int w] m Q := by
  refine WPM.of pX11 (Nat.le_of_ble_eq_true rfl) rfl ?_
  refine wp_aload_n dX11_requireSymbol_0 rfl ?_
  refine wp_aload_n dX11_requireSymbol_1 rfl ?_
  refine wp_geti (fi m 1115 (gB G + 293)) dX11_requireSymbol_2 fX11_269 (Or.inl rfl) (ka hF 293 (by decide)) rfl ?_
  refine wp_iload_n dX11_requireSymbol_5 rfl ?_
  refine wp_icmp_ne 13 dX11_requireSymbol_6 (by decide) (fun q1 => ?_) (fun q2 => ?_)
  · skip
    refine wp_iconst (0 : Int32) dX11_requireSymbol_13 (by decide) ?_
    refine wp_iconst (1 : Int32) dX11_requireSymbol_14 (by decide) ?_
    refine wp_callV (As := [.int (0 : Int32), .int (1 : Int32)]) (S := []) (b' := (0, 0)) (b := (0, 0)) dX11_requireSymbol_15 MX11_304 (ka hF 293 (by decide)) rfl rfl rfl rfl (Nat.le_of_ble_eq_true rfl) ?_
    refine WPM.of pX11 (Nat.le_of_ble_eq_true rfl) rfl ?_
    refine wp_iload_n dX11_require_0 rfl ?_
    refine wp_if_ne 24 dX11_require_1 (by decide) (fun q => absurd (by decide) q) (fun _ => ?_)
    refine wp_aload_n dX11_require_4 rfl ?_
    refine wp_geti c dX11_require_5 fX11_298 (Or.inl rfl) (ka hF 293 (by decide)) he ?_
    refine wp_if_ne 24 dX11_require_8 (by decide) (fun _ => ?_) (fun q => absurd q hc)
    refine wp_vret dX11_require_24 rfl ?_
    show WP G (d + 8) (0, 0) μX11_requireSymbol 18 [.ref (gB G + 293), .int w] [] m _
    refine wp_aload_n dX11_requireSymbol_18 rfl ?_
    refine wp_forget [lvU, lvU] ⟨Or.inr rfl, Or.inr rfl, trivial⟩ ?_
    refine wp_callV (As := []) (S := []) (b' := (0, 0)) (b := (0, 0)) dX11_requireSymbol_19 MX11_308 (ka hF 293 (by decide)) rfl rfl rfl rfl (Nat.le_of_ble_eq_true rfl) ?_
    exact e1 q1
  · skip
    refine wp_iconst (1 : Int32) dX11_requireSymbol_9 (by decide) ?_
    refine wp_goto 14 dX11_requireSymbol_10 (by decide) ?_
    refine wp_iconst (1 : Int32) dX11_requireSymbol_14 (by decide) ?_
    refine wp_callV (As := [.int (1 : Int32), .int (1 : Int32)]) (S := []) (b' := (0, 0)) (b := (0, 0)) dX11_requireSymbol_15 MX11_304 (ka hF 293 (by decide)) rfl rfl rfl rfl (Nat.le_of_ble_eq_true rfl) ?_
    refine WPM.of pX11 (Nat.le_of_ble_eq_true rfl) rfl ?_
    refine wp_iload_n dX11_require_0 rfl ?_
    refine wp_if_ne 24 dX11_require_1 (by decide) (fun _ => ?_) (fun q => absurd q (by decide))
    refine wp_vret dX11_require_24 rfl ?_
    show WP G (d + 8) (0, 0) μX11_requireSymbol 18 [.ref (gB G + 293), .int w] [] m _
    refine wp_aload_n dX11_requireSymbol_18 rfl ?_
    refine wp_forget [lvU, lvU] ⟨Or.inr rfl, Or.inr rfl, trivial⟩ ?_
    refine wp_callV (As := []) (S := []) (b' := (0, 0)) (b := (0, 0)) dX11_requireSymbol_19 MX11_308 (ka hF 293 (by decide)) rfl rfl rfl rfl (Nat.le_of_ble_eq_true rfl) ?_
    exact e2 q2

theorem ppA {G : Cx} {d : Nat} {m : Mm} {Q : Option Value → Mm → Prop} {st : Nat} {tk y c : Int32} (hF : Full G m) (he : fi m 1118 (gB G + 293) = (0 : Int32)) (ht : fi m 1114 (gB G + 293) = tk) (hs : fi m 1113 (gB G + 293) = nI st) (hy : fi m 1117 (gB G + 293) = y) 
    (e1 : ¬ tk = (3 : Int32) → ¬ y < c → WPM G (d + 7) (0, 0) μX11_advance [.ref (gB G + 293)] (wfi (wfi m 1118 (gB G + 293) (1 : Int32)) 1119 (gB G + 293) (nI st)) (fun r' m' => WP G (d + 8) (0, 0) μX11_parsePart 45 [lvU, lvU, .int y] (r'.toList ++ []) m' Q))
    (e2 : ¬ tk = (3 : Int32) → y < c → WPM G (d + 7) (0, 0) μX11_advance [.ref (gB G + 293)] (wfi (wfi m 1118 (gB G + 293) (1 : Int32)) 1119 (gB G + 293) (nI st)) (fun r' m' => WP G (d + 8) (0, 0) μX11_parsePart 45 [lvU, lvU, .int y] (r'.toList ++ []) m' Q))
    (e3 : tk = (3 : Int32) → ¬ y < c → WPM G (d + 7) (0, 0) μX11_advance [.ref (gB G + 293)] (wfi (wfi m 1118 (gB G + 293) (2 : Int32)) 1119 (gB G + 293) (nI st)) (fun r' m' => WP G (d + 8) (0, 0) μX11_parsePart 45 [lvU, lvU, .int y] (r'.toList ++ []) m' Q))
    (e4 : tk = (3 : Int32) → y < c → WPM G (d + 7) (0, 0) μX11_advance [.ref (gB G + 293)] m (fun r' m' => WP G (d + 8) (0, 0) μX11_parsePart 45 [lvU, lvU, .int y] (r'.toList ++ []) m' Q)) :
    WPM G (d + 8) (0, 0) μX11_parsePart [.ref (gB G + 293), .int c] m Q := by
  refine WPM.of pX11 (Nat.le_of_ble_eq_true rfl) rfl ?_
  refine wp_aload_n dX11_parsePart_0 rfl ?_
  refine wp_aload_n dX11_parsePart_1 rfl ?_
  refine wp_geti tk dX11_parsePart_2 fX11_272 (Or.inl rfl) (ka hF 293 (by decide)) ht ?_
  refine wp_iconst (3 : Int32) dX11_parsePart_5 (by decide) ?_
  refine wp_icmp_ne 13 dX11_parsePart_6 (by decide) (fun q1 => ?_) (fun q2 => ?_)
  · skip
    refine wp_iconst (0 : Int32) dX11_parsePart_13 (by decide) ?_
    refine wp_iconst (1 : Int32) dX11_parsePart_14 (by decide) ?_
    refine wp_callV (As := [.int (0 : Int32), .int (1 : Int32)]) (S := []) (b' := (0, 0)) (b := (0, 0)) dX11_parsePart_15 MX11_304 (ka hF 293 (by decide)) rfl rfl rfl rfl (Nat.le_of_ble_eq_true rfl) ?_
    refine WPM.of pX11 (Nat.le_of_ble_eq_true rfl) rfl ?_
    refine wp_iload_n dX11_require_0 rfl ?_
    refine wp_if_ne 24 dX11_require_1 (by decide) (fun q => absurd (by decide) q) (fun _ => ?_)
    refine wp_aload_n dX11_require_4 rfl ?_
    refine wp_geti (0 : Int32) dX11_require_5 fX11_298 (Or.inl rfl) (ka hF 293 (by decide)) he ?_
    refine wp_if_ne 24 dX11_require_8 (by decide) (fun q => absurd (by decide) q) (fun _ => ?_)
    refine wp_aload_n dX11_require_11 rfl ?_
    refine wp_iload_n dX11_require_12 rfl ?_
    refine wp_puti dX11_require_13 pX11_298 (ka hF 293 (by decide)) ?_
    have hF3 := Full_wfi 1118 (gB G + 293) (1 : Int32) hF
    refine wp_aload_n dX11_require_16 rfl ?_
    refine wp_aload_n dX11_require_17 rfl ?_
    refine wp_geti (nI st) dX11_require_18 fX11_256 (Or.inl rfl) (ka hF3 293 (by decide)) ((fi_ne (by decide)).trans hs) ?_
    refine wp_puti dX11_require_21 pX11_45 (ka hF3 293 (by decide)) ?_
    have hF4 := Full_wfi 1119 (gB G + 293) (nI st) hF3
    refine wp_vret dX11_require_24 rfl ?_
    show WP G (d + 8) (0, 0) μX11_parsePart 18 [.ref (gB G + 293), .int c, lvU] [] (wfi (wfi m 1118 (gB G + 293) (1 : Int32)) 1119 (gB G + 293) (nI st)) _
    refine wp_aload_n dX11_parsePart_18 rfl ?_
    refine wp_aload_n dX11_parsePart_19 rfl ?_
    refine wp_geti y dX11_parsePart_20 fX11_266 (Or.inl rfl) (ka hF4 293 (by decide)) ((fi_ne (by decide)).trans ((fi_ne (by decide)).trans hy)) ?_
    refine wp_iload_n dX11_parsePart_23 rfl ?_
    refine wp_icmp_ge 31 dX11_parsePart_24 (by decide) (fun q5 => ?_) (fun q6 => ?_)
    · skip
      refine wp_iconst (0 : Int32) dX11_parsePart_31 (by decide) ?_
      refine wp_iconst (2 : Int32) dX11_parsePart_32 (by decide) ?_
      refine wp_callV (As := [.int (0 : Int32), .int (2 : Int32)]) (S := []) (b' := (0, 0)) (b := (0, 0)) dX11_parsePart_33 MX11_304 (ka hF4 293 (by decide)) rfl rfl rfl rfl (Nat.le_of_ble_eq_true rfl) ?_
      refine WPM.of pX11 (Nat.le_of_ble_eq_true rfl) rfl ?_
      refine wp_iload_n dX11_require_0 rfl ?_
      refine wp_if_ne 24 dX11_require_1 (by decide) (fun q => absurd (by decide) q) (fun _ => ?_)
      refine wp_aload_n dX11_require_4 rfl ?_
      refine wp_geti (1 : Int32) dX11_require_5 fX11_298 (Or.inl rfl) (ka hF4 293 (by decide)) ((fi_ne (by decide)).trans fi_eq) ?_
      refine wp_if_ne 24 dX11_require_8 (by decide) (fun _ => ?_) (fun q => absurd q (by decide))
      refine wp_vret dX11_require_24 rfl ?_
      show WP G (d + 8) (0, 0) μX11_parsePart 36 [.ref (gB G + 293), .int c, lvU] [] (wfi (wfi m 1118 (gB G + 293) (1 : Int32)) 1119 (gB G + 293) (nI st)) _
      refine wp_aload_n dX11_parsePart_36 rfl ?_
      refine wp_geti y dX11_parsePart_37 fX11_266 (Or.inl rfl) (ka hF4 293 (by decide)) ((fi_ne (by decide)).trans ((fi_ne (by decide)).trans hy)) ?_
      refine wp_istore_n dX11_parsePart_40 (by decide) rfl ?_
      refine wp_aload_n dX11_parsePart_41 rfl ?_
      refine wp_forget [lvU, lvU, .int y] ⟨Or.inr rfl, Or.inr rfl, Or.inl rfl, trivial⟩ ?_
      refine wp_callV (As := []) (S := []) (b' := (0, 0)) (b := (0, 0)) dX11_parsePart_42 MX11_308 (ka hF4 293 (by decide)) rfl rfl rfl rfl (Nat.le_of_ble_eq_true rfl) ?_
      exact e1 q1 q5
    · skip
      refine wp_iconst (1 : Int32) dX11_parsePart_27 (by decide) ?_
      refine wp_goto 32 dX11_parsePart_28 (by decide) ?_
      refine wp_iconst (2 : Int32) dX11_parsePart_32 (by decide) ?_
      refine wp_callV (As := [.int (1 : Int32), .int (2 : Int32)]) (S := []) (b' := (0, 0)) (b := (0, 0)) dX11_parsePart_33 MX11_304 (ka hF4 293 (by decide)) rfl rfl rfl rfl (Nat.le_of_ble_eq_true rfl) ?_
      refine WPM.of pX11 (Nat.le_of_ble_eq_true rfl) rfl ?_
      refine wp_iload_n dX11_require_0 rfl ?_
      refine wp_if_ne 24 dX11_require_1 (by decide) (fun _ => ?_) (fun q => absurd q (by decide))
      refine wp_vret dX11_require_24 rfl ?_
      show WP G (d + 8) (0, 0) μX11_parsePart 36 [.ref (gB G + 293), .int c, lvU] [] (wfi (wfi m 1118 (gB G + 293) (1 : Int32)) 1119 (gB G + 293) (nI st)) _
      refine wp_aload_n dX11_parsePart_36 rfl ?_
      refine wp_geti y dX11_parsePart_37 fX11_266 (Or.inl rfl) (ka hF4 293 (by decide)) ((fi_ne (by decide)).trans ((fi_ne (by decide)).trans hy)) ?_
      refine wp_istore_n dX11_parsePart_40 (by decide) rfl ?_
      refine wp_aload_n dX11_parsePart_41 rfl ?_
      refine wp_forget [lvU, lvU, .int y] ⟨Or.inr rfl, Or.inr rfl, Or.inl rfl, trivial⟩ ?_
      refine wp_callV (As := []) (S := []) (b' := (0, 0)) (b := (0, 0)) dX11_parsePart_42 MX11_308 (ka hF4 293 (by decide)) rfl rfl rfl rfl (Nat.le_of_ble_eq_true rfl) ?_
      exact e2 q1 q6
  · skip
    refine wp_iconst (1 : Int32) dX11_parsePart_9 (by decide) ?_
    refine wp_goto 14 dX11_parsePart_10 (by decide) ?_
    refine wp_iconst (1 : Int32) dX11_parsePart_14 (by decide) ?_
    refine wp_callV (As := [.int (1 : Int32), .int (1 : Int32)]) (S := []) (b' := (0, 0)) (b := (0, 0)) dX11_parsePart_15 MX11_304 (ka hF 293 (by decide)) rfl rfl rfl rfl (Nat.le_of_ble_eq_true rfl) ?_
    refine WPM.of pX11 (Nat.le_of_ble_eq_true rfl) rfl ?_
    refine wp_iload_n dX11_require_0 rfl ?_
    refine wp_if_ne 24 dX11_require_1 (by decide) (fun _ => ?_) (fun q => absurd q (by decide))
    refine wp_vret dX11_require_24 rfl ?_
    show WP G (d + 8) (0, 0) μX11_parsePart 18 [.ref (gB G + 293), .int c, lvU] [] m _
    refine wp_aload_n dX11_parsePart_18 rfl ?_
    refine wp_aload_n dX11_parsePart_19 rfl ?_
    refine wp_geti y dX11_parsePart_20 fX11_266 (Or.inl rfl) (ka hF 293 (by decide)) hy ?_
    refine wp_iload_n dX11_parsePart_23 rfl ?_
    refine wp_icmp_ge 31 dX11_parsePart_24 (by decide) (fun q7 => ?_) (fun q8 => ?_)
    · skip
      refine wp_iconst (0 : Int32) dX11_parsePart_31 (by decide) ?_
      refine wp_iconst (2 : Int32) dX11_parsePart_32 (by decide) ?_
      refine wp_callV (As := [.int (0 : Int32), .int (2 : Int32)]) (S := []) (b' := (0, 0)) (b := (0, 0)) dX11_parsePart_33 MX11_304 (ka hF 293 (by decide)) rfl rfl rfl rfl (Nat.le_of_ble_eq_true rfl) ?_
      refine WPM.of pX11 (Nat.le_of_ble_eq_true rfl) rfl ?_
      refine wp_iload_n dX11_require_0 rfl ?_
      refine wp_if_ne 24 dX11_require_1 (by decide) (fun q => absurd (by decide) q) (fun _ => ?_)
      refine wp_aload_n dX11_require_4 rfl ?_
      refine wp_geti (0 : Int32) dX11_require_5 fX11_298 (Or.inl rfl) (ka hF 293 (by decide)) he ?_
      refine wp_if_ne 24 dX11_require_8 (by decide) (fun q => absurd (by decide) q) (fun _ => ?_)
      refine wp_aload_n dX11_require_11 rfl ?_
      refine wp_iload_n dX11_require_12 rfl ?_
      refine wp_puti dX11_require_13 pX11_298 (ka hF 293 (by decide)) ?_
      have hF9 := Full_wfi 1118 (gB G + 293) (2 : Int32) hF
      refine wp_aload_n dX11_require_16 rfl ?_
      refine wp_aload_n dX11_require_17 rfl ?_
      refine wp_geti (nI st) dX11_require_18 fX11_256 (Or.inl rfl) (ka hF9 293 (by decide)) ((fi_ne (by decide)).trans hs) ?_
      refine wp_puti dX11_require_21 pX11_45 (ka hF9 293 (by decide)) ?_
      have hF10 := Full_wfi 1119 (gB G + 293) (nI st) hF9
      refine wp_vret dX11_require_24 rfl ?_
      show WP G (d + 8) (0, 0) μX11_parsePart 36 [.ref (gB G + 293), .int c, lvU] [] (wfi (wfi m 1118 (gB G + 293) (2 : Int32)) 1119 (gB G + 293) (nI st)) _
      refine wp_aload_n dX11_parsePart_36 rfl ?_
      refine wp_geti y dX11_parsePart_37 fX11_266 (Or.inl rfl) (ka hF10 293 (by decide)) ((fi_ne (by decide)).trans ((fi_ne (by decide)).trans hy)) ?_
      refine wp_istore_n dX11_parsePart_40 (by decide) rfl ?_
      refine wp_aload_n dX11_parsePart_41 rfl ?_
      refine wp_forget [lvU, lvU, .int y] ⟨Or.inr rfl, Or.inr rfl, Or.inl rfl, trivial⟩ ?_
      refine wp_callV (As := []) (S := []) (b' := (0, 0)) (b := (0, 0)) dX11_parsePart_42 MX11_308 (ka hF10 293 (by decide)) rfl rfl rfl rfl (Nat.le_of_ble_eq_true rfl) ?_
      exact e3 q2 q7
    · skip
      refine wp_iconst (1 : Int32) dX11_parsePart_27 (by decide) ?_
      refine wp_goto 32 dX11_parsePart_28 (by decide) ?_
      refine wp_iconst (2 : Int32) dX11_parsePart_32 (by decide) ?_
      refine wp_callV (As := [.int (1 : Int32), .int (2 : Int32)]) (S := []) (b' := (0, 0)) (b := (0, 0)) dX11_parsePart_33 MX11_304 (ka hF 293 (by decide)) rfl rfl rfl rfl (Nat.le_of_ble_eq_true rfl) ?_
      refine WPM.of pX11 (Nat.le_of_ble_eq_true rfl) rfl ?_
      refine wp_iload_n dX11_require_0 rfl ?_
      refine wp_if_ne 24 dX11_require_1 (by decide) (fun _ => ?_) (fun q => absurd q (by decide))
      refine wp_vret dX11_require_24 rfl ?_
      show WP G (d + 8) (0, 0) μX11_parsePart 36 [.ref (gB G + 293), .int c, lvU] [] m _
      refine wp_aload_n dX11_parsePart_36 rfl ?_
      refine wp_geti y dX11_parsePart_37 fX11_266 (Or.inl rfl) (ka hF 293 (by decide)) hy ?_
      refine wp_istore_n dX11_parsePart_40 (by decide) rfl ?_
      refine wp_aload_n dX11_parsePart_41 rfl ?_
      refine wp_forget [lvU, lvU, .int y] ⟨Or.inr rfl, Or.inr rfl, Or.inl rfl, trivial⟩ ?_
      refine wp_callV (As := []) (S := []) (b' := (0, 0)) (b := (0, 0)) dX11_parsePart_42 MX11_308 (ka hF 293 (by decide)) rfl rfl rfl rfl (Nat.le_of_ble_eq_true rfl) ?_
      exact e4 q2 q8

theorem ppB {G : Cx} {d : Nat} {m : Mm} {Q : Option Value → Mm → Prop} {l2 : Int32} (hF : Full G m) 
    (e1 : Q (some (.int l2)) m) :
    WP G (d + 8) (0, 0) μX11_parsePart 45 [lvU, lvU, .int l2] [] m Q := by
  refine wp_iload_n dX11_parsePart_45 rfl ?_
  exact wp_iret dX11_parsePart_46 rfl (e1)

theorem rwA {G : Cx} {d : Nat} {m : Mm} {Q : Option Value → Mm → Prop}  (hF : Full G m) 
    (e1 : WPM G (d + 7) (0, 0) μX11_isWord [.ref (gB G + 293), .ref (gK G 2)] m (fun r' m' => WP G (d + 8) (0, 0) μX11_readerOfWord 7 [.ref (gB G + 293)] (r'.toList ++ []) m' Q)) :
    WPM G (d + 8) (0, 0) μX11_readerOfWord [.ref (gB G + 293)] m Q := by
  refine WPM.of pX11 (Nat.le_of_ble_eq_true rfl) rfl ?_
  refine wp_aload_n dX11_readerOfWord_0 rfl ?_
  refine wp_ldcwS (j := 2) dX11_readerOfWord_1 (by decide) rfl ?_
  refine wp_callV (As := [.ref (gK G 2)]) (S := []) (b' := (0, 0)) (b := (0, 0)) dX11_readerOfWord_4 MX11_316 (ka hF 293 (by decide)) rfl rfl rfl rfl (Nat.le_of_ble_eq_true rfl) ?_
  exact e1

theorem rw1y {G : Cx} {d : Nat} {m : Mm} {Q : Option Value → Mm → Prop}  (hF : Full G m) 
    (e1 : Q (some (.int (1 : Int32))) m) :
    WP G (d + 8) (0, 0) μX11_readerOfWord 7 [.ref (gB G + 293)] [.int (1 : Int32)] m Q := by
  refine wp_if_eq 12 dX11_readerOfWord_7 (by decide) (fun q => absurd q (by decide)) (fun _ => ?_)
  refine wp_iconst (1 : Int32) dX11_readerOfWord_10 (by decide) ?_
  exact wp_iret dX11_readerOfWord_11 rfl (e1)

theorem rw1n {G : Cx} {d : Nat} {m : Mm} {Q : Option Value → Mm → Prop}  (hF : Full G m) 
    (e1 : WPM G (d + 7) (0, 0) μX11_isWord [.ref (gB G + 293), .ref (gK G 3)] m (fun r' m' => WP G (d + 8) (0, 0) μX11_readerOfWord 19 [.ref (gB G + 293)] (r'.toList ++ []) m' Q)) :
    WP G (d + 8) (0, 0) μX11_readerOfWord 7 [.ref (gB G + 293)] [.int (0 : Int32)] m Q := by
  refine wp_if_eq 12 dX11_readerOfWord_7 (by decide) (fun _ => ?_) (fun q => absurd (by decide) q)
  refine wp_aload_n dX11_readerOfWord_12 rfl ?_
  refine wp_ldcwS (j := 3) dX11_readerOfWord_13 (by decide) rfl ?_
  refine wp_callV (As := [.ref (gK G 3)]) (S := []) (b' := (0, 0)) (b := (0, 0)) dX11_readerOfWord_16 MX11_316 (ka hF 293 (by decide)) rfl rfl rfl rfl (Nat.le_of_ble_eq_true rfl) ?_
  exact e1

theorem rw2y {G : Cx} {d : Nat} {m : Mm} {Q : Option Value → Mm → Prop}  (hF : Full G m) 
    (e1 : Q (some (.int (2 : Int32))) m) :
    WP G (d + 8) (0, 0) μX11_readerOfWord 19 [.ref (gB G + 293)] [.int (1 : Int32)] m Q := by
  refine wp_if_eq 24 dX11_readerOfWord_19 (by decide) (fun q => absurd q (by decide)) (fun _ => ?_)
  refine wp_iconst (2 : Int32) dX11_readerOfWord_22 (by decide) ?_
  exact wp_iret dX11_readerOfWord_23 rfl (e1)

theorem rw2n {G : Cx} {d : Nat} {m : Mm} {Q : Option Value → Mm → Prop}  (hF : Full G m) 
    (e1 : WPM G (d + 7) (0, 0) μX11_isWord [.ref (gB G + 293), .ref (gK G 4)] m (fun r' m' => WP G (d + 8) (0, 0) μX11_readerOfWord 31 [.ref (gB G + 293)] (r'.toList ++ []) m' Q)) :
    WP G (d + 8) (0, 0) μX11_readerOfWord 19 [.ref (gB G + 293)] [.int (0 : Int32)] m Q := by
  refine wp_if_eq 24 dX11_readerOfWord_19 (by decide) (fun _ => ?_) (fun q => absurd (by decide) q)
  refine wp_aload_n dX11_readerOfWord_24 rfl ?_
  refine wp_ldcwS (j := 4) dX11_readerOfWord_25 (by decide) rfl ?_
  refine wp_callV (As := [.ref (gK G 4)]) (S := []) (b' := (0, 0)) (b := (0, 0)) dX11_readerOfWord_28 MX11_316 (ka hF 293 (by decide)) rfl rfl rfl rfl (Nat.le_of_ble_eq_true rfl) ?_
  exact e1

theorem rw3y {G : Cx} {d : Nat} {m : Mm} {Q : Option Value → Mm → Prop}  (hF : Full G m) 
    (e1 : Q (some (.int (3 : Int32))) m) :
    WP G (d + 8) (0, 0) μX11_readerOfWord 31 [.ref (gB G + 293)] [.int (1 : Int32)] m Q := by
  refine wp_if_eq 36 dX11_readerOfWord_31 (by decide) (fun q => absurd q (by decide)) (fun _ => ?_)
  refine wp_iconst (3 : Int32) dX11_readerOfWord_34 (by decide) ?_
  exact wp_iret dX11_readerOfWord_35 rfl (e1)

theorem rw3n {G : Cx} {d : Nat} {m : Mm} {Q : Option Value → Mm → Prop}  (hF : Full G m) 
    (e1 : WPM G (d + 7) (0, 0) μX11_isWord [.ref (gB G + 293), .ref (gK G 5)] m (fun r' m' => WP G (d + 8) (0, 0) μX11_readerOfWord 43 [.ref (gB G + 293)] (r'.toList ++ []) m' Q)) :
    WP G (d + 8) (0, 0) μX11_readerOfWord 31 [.ref (gB G + 293)] [.int (0 : Int32)] m Q := by
  refine wp_if_eq 36 dX11_readerOfWord_31 (by decide) (fun _ => ?_) (fun q => absurd (by decide) q)
  refine wp_aload_n dX11_readerOfWord_36 rfl ?_
  refine wp_ldcwS (j := 5) dX11_readerOfWord_37 (by decide) rfl ?_
  refine wp_callV (As := [.ref (gK G 5)]) (S := []) (b' := (0, 0)) (b := (0, 0)) dX11_readerOfWord_40 MX11_316 (ka hF 293 (by decide)) rfl rfl rfl rfl (Nat.le_of_ble_eq_true rfl) ?_
  exact e1

theorem rw4y {G : Cx} {d : Nat} {m : Mm} {Q : Option Value → Mm → Prop}  (hF : Full G m) 
    (e1 : Q (some (.int (4 : Int32))) m) :
    WP G (d + 8) (0, 0) μX11_readerOfWord 43 [.ref (gB G + 293)] [.int (1 : Int32)] m Q := by
  refine wp_if_eq 48 dX11_readerOfWord_43 (by decide) (fun q => absurd q (by decide)) (fun _ => ?_)
  refine wp_iconst (4 : Int32) dX11_readerOfWord_46 (by decide) ?_
  exact wp_iret dX11_readerOfWord_47 rfl (e1)

theorem rw4n {G : Cx} {d : Nat} {m : Mm} {Q : Option Value → Mm → Prop}  (hF : Full G m) 
    (e1 : WPM G (d + 7) (0, 0) μX11_isWord [.ref (gB G + 293), .ref (gK G 6)] m (fun r' m' => WP G (d + 8) (0, 0) μX11_readerOfWord 55 [.ref (gB G + 293)] (r'.toList ++ []) m' Q)) :
    WP G (d + 8) (0, 0) μX11_readerOfWord 43 [.ref (gB G + 293)] [.int (0 : Int32)] m Q := by
  refine wp_if_eq 48 dX11_readerOfWord_43 (by decide) (fun _ => ?_) (fun q => absurd (by decide) q)
  refine wp_aload_n dX11_readerOfWord_48 rfl ?_
  refine wp_ldcwS (j := 6) dX11_readerOfWord_49 (by decide) rfl ?_
  refine wp_callV (As := [.ref (gK G 6)]) (S := []) (b' := (0, 0)) (b := (0, 0)) dX11_readerOfWord_52 MX11_316 (ka hF 293 (by decide)) rfl rfl rfl rfl (Nat.le_of_ble_eq_true rfl) ?_
  exact e1

theorem rw5y {G : Cx} {d : Nat} {m : Mm} {Q : Option Value → Mm → Prop}  (hF : Full G m) 
    (e1 : Q (some (.int (5 : Int32))) m) :
    WP G (d + 8) (0, 0) μX11_readerOfWord 55 [.ref (gB G + 293)] [.int (1 : Int32)] m Q := by
  refine wp_if_eq 60 dX11_readerOfWord_55 (by decide) (fun q => absurd q (by decide)) (fun _ => ?_)
  refine wp_iconst (5 : Int32) dX11_readerOfWord_58 (by decide) ?_
  exact wp_iret dX11_readerOfWord_59 rfl (e1)

theorem rw5n {G : Cx} {d : Nat} {m : Mm} {Q : Option Value → Mm → Prop}  (hF : Full G m) 
    (e1 : WPM G (d + 7) (0, 0) μX11_isWord [.ref (gB G + 293), .ref (gK G 7)] m (fun r' m' => WP G (d + 8) (0, 0) μX11_readerOfWord 67 [.ref (gB G + 293)] (r'.toList ++ []) m' Q)) :
    WP G (d + 8) (0, 0) μX11_readerOfWord 55 [.ref (gB G + 293)] [.int (0 : Int32)] m Q := by
  refine wp_if_eq 60 dX11_readerOfWord_55 (by decide) (fun _ => ?_) (fun q => absurd (by decide) q)
  refine wp_aload_n dX11_readerOfWord_60 rfl ?_
  refine wp_ldcwS (j := 7) dX11_readerOfWord_61 (by decide) rfl ?_
  refine wp_callV (As := [.ref (gK G 7)]) (S := []) (b' := (0, 0)) (b := (0, 0)) dX11_readerOfWord_64 MX11_316 (ka hF 293 (by decide)) rfl rfl rfl rfl (Nat.le_of_ble_eq_true rfl) ?_
  exact e1

theorem rw6y {G : Cx} {d : Nat} {m : Mm} {Q : Option Value → Mm → Prop}  (hF : Full G m) 
    (e1 : Q (some (.int (6 : Int32))) m) :
    WP G (d + 8) (0, 0) μX11_readerOfWord 67 [.ref (gB G + 293)] [.int (1 : Int32)] m Q := by
  refine wp_if_eq 73 dX11_readerOfWord_67 (by decide) (fun q => absurd q (by decide)) (fun _ => ?_)
  refine wp_bipush (6 : Int32) dX11_readerOfWord_70 (by decide) ?_
  exact wp_iret dX11_readerOfWord_72 rfl (e1)

theorem rw6n {G : Cx} {d : Nat} {m : Mm} {Q : Option Value → Mm → Prop}  (hF : Full G m) 
    (e1 : WPM G (d + 7) (0, 0) μX11_isWord [.ref (gB G + 293), .ref (gK G 8)] m (fun r' m' => WP G (d + 8) (0, 0) μX11_readerOfWord 80 [lvU] (r'.toList ++ []) m' Q)) :
    WP G (d + 8) (0, 0) μX11_readerOfWord 67 [.ref (gB G + 293)] [.int (0 : Int32)] m Q := by
  refine wp_if_eq 73 dX11_readerOfWord_67 (by decide) (fun _ => ?_) (fun q => absurd (by decide) q)
  refine wp_aload_n dX11_readerOfWord_73 rfl ?_
  refine wp_ldcwS (j := 8) dX11_readerOfWord_74 (by decide) rfl ?_
  refine wp_forget [lvU] ⟨Or.inr rfl, trivial⟩ ?_
  refine wp_callV (As := [.ref (gK G 8)]) (S := []) (b' := (0, 0)) (b := (0, 0)) dX11_readerOfWord_77 MX11_316 (ka hF 293 (by decide)) rfl rfl rfl rfl (Nat.le_of_ble_eq_true rfl) ?_
  exact e1

theorem rw7y {G : Cx} {d : Nat} {m : Mm} {Q : Option Value → Mm → Prop}  (hF : Full G m) 
    (e1 : Q (some (.int (7 : Int32))) m) :
    WP G (d + 8) (0, 0) μX11_readerOfWord 80 [lvU] [.int (1 : Int32)] m Q := by
  refine wp_if_eq 88 dX11_readerOfWord_80 (by decide) (fun q => absurd q (by decide)) (fun _ => ?_)
  refine wp_bipush (7 : Int32) dX11_readerOfWord_83 (by decide) ?_
  refine wp_goto 89 dX11_readerOfWord_85 (by decide) ?_
  exact wp_iret dX11_readerOfWord_89 rfl (e1)

theorem rw7n {G : Cx} {d : Nat} {m : Mm} {Q : Option Value → Mm → Prop}  (hF : Full G m) 
    (e1 : Q (some (.int (-1 : Int32))) m) :
    WP G (d + 8) (0, 0) μX11_readerOfWord 80 [lvU] [.int (0 : Int32)] m Q := by
  refine wp_if_eq 88 dX11_readerOfWord_80 (by decide) (fun _ => ?_) (fun q => absurd (by decide) q)
  refine wp_iconst (-1 : Int32) dX11_readerOfWord_88 (by decide) ?_
  exact wp_iret dX11_readerOfWord_89 rfl (e1)

theorem efo {G : Cx} {d : Nat} {m : Mm} {Q : Option Value → Mm → Prop} {u dp : Nat} {x : Int32}  {s : Nat} (hF : Full G m) (he : fi m 1118 (gB G + 293) = (0 : Int32)) (hw : fi m 1126 (gB G + 293) = nI (u + 1)) (hd : fi m 1127 (gB G + 293) = nI (dp + 1)) (hz : fi m 1124 (gB G + 293) = nI s) (hs5 : s < 500) (hz5 : u < 500) (hx : ai m (gB G + 307) u = x) 
    (e1 : ¬ x = (8 : Int32) → Q none m)
    (e2 : x = (8 : Int32) → WP G (d + 8) (0, 0) μX11_endFactor 0 [.ref (gB G + 293)] [] (wfi (wfi (wai (wai (wfi m 1126 (gB G + 293) (nI u)) (gB G + 306) (2 * s) x) (gB G + 306) (2 * s + 1) (0 : Int32)) 1124 (gB G + 293) (nI (s + 1))) 1127 (gB G + 293) (nI dp)) Q) :
    WP G (d + 8) (0, 0) μX11_endFactor 0 [.ref (gB G + 293)] [] m Q := by
  refine wp_aload_n dX11_endFactor_0 rfl ?_
  refine wp_bipush (8 : Int32) dX11_endFactor_1 (by decide) ?_
  refine wp_callV (As := [.int (8 : Int32)]) (S := []) (b' := (0, 0)) (b := (0, 0)) dX11_endFactor_3 MX11_343 (ka hF 293 (by decide)) rfl rfl rfl rfl (Nat.le_of_ble_eq_true rfl) ?_
  refine WPM.of pX11 (Nat.le_of_ble_eq_true rfl) rfl ?_
  refine wp_aload_n dX11_waits_0 rfl ?_
  refine wp_geti (nI (u + 1)) dX11_waits_1 fX11_340 (Or.inl rfl) (ka hF 293 (by decide)) hw ?_
  refine wp_if_le 26 dX11_waits_4 (by decide) (fun q => absurd (nlt_ (a := 0) (b := u + 1) (by omega : 0 < u + 1) (by omega)) q) (fun _ => ?_)
  refine wp_aload_n dX11_waits_7 rfl ?_
  refine wp_getr (gB G + 307) dX11_waits_8 fX11_55 (ka hF 293 (by decide)) (hF.2 _ _) (rra 14 (isK_le (ka hF 293 (by decide))) (fun _ => rfl)) ?_
  refine wp_aload_n dX11_waits_11 rfl ?_
  refine wp_geti (nI (u + 1)) dX11_waits_12 fX11_340 (Or.inl rfl) (ka hF 293 (by decide)) hw ?_
  refine wp_iconst (1 : Int32) dX11_waits_15 (by decide) ?_
  refine wp_isubv (nI u) dX11_waits_16 (nsub (a := u + 1) (b := 1) (by omega)) ?_
  refine wp_ialdk (n := 500) u x dX11_waits_17 (ka hF 307 (by decide)) (la 307) (vin (by omega) (by decide)) (nIc (by omega)) hx ?_
  refine wp_iload_n dX11_waits_18 rfl ?_
  refine wp_icmp_ne 26 dX11_waits_19 (by decide) (fun q1 => ?_) (fun q2 => ?_)
  · skip
    refine wp_iconst (0 : Int32) dX11_waits_26 (by decide) ?_
    refine wp_zret dX11_waits_27 rfl rfl ?_
    show WP G (d + 8) (0, 0) μX11_endFactor 6 [.ref (gB G + 293)] [.int (0 : Int32)] m _
    refine wp_if_eq 26 dX11_endFactor_6 (by decide) (fun _ => ?_) (fun q => absurd (by decide) q)
    exact wp_vret dX11_endFactor_26 rfl (e1 q1)
  · skip
    refine wp_iconst (1 : Int32) dX11_waits_22 (by decide) ?_
    refine wp_goto 27 dX11_waits_23 (by decide) ?_
    refine wp_zret dX11_waits_27 rfl rfl ?_
    show WP G (d + 8) (0, 0) μX11_endFactor 6 [.ref (gB G + 293)] [.int (1 : Int32)] m _
    refine wp_if_eq 26 dX11_endFactor_6 (by decide) (fun q => absurd q (by decide)) (fun _ => ?_)
    refine wp_aload_n dX11_endFactor_9 rfl ?_
    refine wp_callV (As := []) (S := []) (b' := (0, 0)) (b := (0, 0)) dX11_endFactor_10 MX11_346 (ka hF 293 (by decide)) rfl rfl rfl rfl (Nat.le_of_ble_eq_true rfl) ?_
    refine WPM.of pX11 (Nat.le_of_ble_eq_true rfl) rfl ?_
    refine wp_aload_n dX11_pop_0 rfl ?_
    refine wp_dup dX11_pop_1 rfl ?_
    refine wp_geti (nI (u + 1)) dX11_pop_2 fX11_340 (Or.inl rfl) (ka hF 293 (by decide)) hw ?_
    refine wp_iconst (1 : Int32) dX11_pop_5 (by decide) ?_
    refine wp_isubv (nI u) dX11_pop_6 (nsub (a := u + 1) (b := 1) (by omega)) ?_
    refine wp_puti dX11_pop_7 pX11_340 (ka hF 293 (by decide)) ?_
    have hF3 := Full_wfi 1126 (gB G + 293) (nI u) hF
    refine wp_aload_n dX11_pop_10 rfl ?_
    refine wp_aload_n dX11_pop_11 rfl ?_
    refine wp_getr (gB G + 307) dX11_pop_12 fX11_55 (ka hF3 293 (by decide)) (hF3.2 _ _) (rra 14 (isK_le (ka hF3 293 (by decide))) (fun _ => rfl)) ?_
    refine wp_aload_n dX11_pop_15 rfl ?_
    refine wp_geti (nI u) dX11_pop_16 fX11_340 (Or.inl rfl) (ka hF3 293 (by decide)) fi_eq ?_
    refine wp_ialdk (n := 500) u x dX11_pop_19 (ka hF3 307 (by decide)) (la 307) (vin (by omega) (by decide)) (nIc (by omega)) (ai_wfi.trans hx) ?_
    refine wp_iconst (0 : Int32) dX11_pop_20 (by decide) ?_
    refine wp_callV (As := [.int x, .int (0 : Int32)]) (S := []) (b' := (0, 0)) (b := (0, 0)) dX11_pop_21 MX11_330 (ka hF3 293 (by decide)) rfl rfl rfl rfl (Nat.le_of_ble_eq_true rfl) ?_
    refine WPM.of pX11 (Nat.le_of_ble_eq_true rfl) rfl ?_
    refine wp_aload_n dX11_emit_0 rfl ?_
    refine wp_geti (0 : Int32) dX11_emit_1 fX11_298 (Or.inl rfl) (ka hF3 293 (by decide)) ((fi_ne (by decide)).trans he) ?_
    refine wp_if_ne 43 dX11_emit_4 (by decide) (fun q => absurd (by decide) q) (fun _ => ?_)
    refine wp_aload_n dX11_emit_7 rfl ?_
    refine wp_getr (gB G + 306) dX11_emit_8 fX11_52 (ka hF3 293 (by decide)) (hF3.2 _ _) (rra 13 (isK_le (ka hF3 293 (by decide))) (fun _ => rfl)) ?_
    refine wp_iconst (2 : Int32) dX11_emit_11 (by decide) ?_
    refine wp_aload_n dX11_emit_12 rfl ?_
    refine wp_geti (nI s) dX11_emit_13 fX11_311 (Or.inl rfl) (ka hF3 293 (by decide)) ((fi_ne (by decide)).trans hz) ?_
    refine wp_imulv (nI (2 * s)) dX11_emit_16 (nmul (a := 2) (b := s) (by omega)) ?_
    refine wp_iload_n dX11_emit_17 rfl ?_
    refine wp_iastk (n := 1000) (2 * s) dX11_emit_18 (ka hF3 306 (by decide)) (la 306) (vin (by omega) (by decide))  (nIc (by omega)) ?_
    have hF4 := Full_wai (gB G + 306) (2 * s) x hF3
    refine wp_aload_n dX11_emit_19 rfl ?_
    refine wp_getr (gB G + 306) dX11_emit_20 fX11_52 (ka hF4 293 (by decide)) (hF4.2 _ _) (rra 13 (isK_le (ka hF4 293 (by decide))) (fun _ => rfl)) ?_
    refine wp_iconst (2 : Int32) dX11_emit_23 (by decide) ?_
    refine wp_aload_n dX11_emit_24 rfl ?_
    refine wp_geti (nI s) dX11_emit_25 fX11_311 (Or.inl rfl) (ka hF4 293 (by decide)) (fi_wai.trans ((fi_ne (by decide)).trans hz)) ?_
    refine wp_imulv (nI (2 * s)) dX11_emit_28 (nmul (a := 2) (b := s) (by omega)) ?_
    refine wp_iconst (1 : Int32) dX11_emit_29 (by decide) ?_
    refine wp_iaddv (nI (2 * s + 1)) dX11_emit_30 (nadd (a := 2 * s) (b := 1) (by omega)) ?_
    refine wp_iload_n dX11_emit_31 rfl ?_
    refine wp_iastk (n := 1000) (2 * s + 1) dX11_emit_32 (ka hF4 306 (by decide)) (la 306) (vin (by omega) (by decide))  (nIc (by omega)) ?_
    have hF5 := Full_wai (gB G + 306) (2 * s + 1) (0 : Int32) hF4
    refine wp_aload_n dX11_emit_33 rfl ?_
    refine wp_dup dX11_emit_34 rfl ?_
    refine wp_geti (nI s) dX11_emit_35 fX11_311 (Or.inl rfl) (ka hF5 293 (by decide)) (fi_wai.trans (fi_wai.trans ((fi_ne (by decide)).trans hz))) ?_
    refine wp_iconst (1 : Int32) dX11_emit_38 (by decide) ?_
    refine wp_iaddv (nI (s + 1)) dX11_emit_39 (nadd (a := s) (b := 1) (by omega)) ?_
    refine wp_puti dX11_emit_40 pX11_311 (ka hF5 293 (by decide)) ?_
    have hF6 := Full_wfi 1124 (gB G + 293) (nI (s + 1)) hF5
    refine wp_vret dX11_emit_43 rfl ?_
    show WP G (d + 7) (0, 0) μX11_pop 24 [.ref (gB G + 293)] [] (wfi (wai (wai (wfi m 1126 (gB G + 293) (nI u)) (gB G + 306) (2 * s) x) (gB G + 306) (2 * s + 1) (0 : Int32)) 1124 (gB G + 293) (nI (s + 1))) _
    refine wp_vret dX11_pop_24 rfl ?_
    show WP G (d + 8) (0, 0) μX11_endFactor 13 [.ref (gB G + 293)] [] (wfi (wai (wai (wfi m 1126 (gB G + 293) (nI u)) (gB G + 306) (2 * s) x) (gB G + 306) (2 * s + 1) (0 : Int32)) 1124 (gB G + 293) (nI (s + 1))) _
    refine wp_aload_n dX11_endFactor_13 rfl ?_
    refine wp_dup dX11_endFactor_14 rfl ?_
    refine wp_geti (nI (dp + 1)) dX11_endFactor_15 fX11_349 (Or.inl rfl) (ka hF6 293 (by decide)) ((fi_ne (by decide)).trans (fi_wai.trans (fi_wai.trans ((fi_ne (by decide)).trans hd)))) ?_
    refine wp_iconst (1 : Int32) dX11_endFactor_18 (by decide) ?_
    refine wp_isubv (nI dp) dX11_endFactor_19 (nsub (a := dp + 1) (b := 1) (by omega)) ?_
    refine wp_puti dX11_endFactor_20 pX11_349 (ka hF6 293 (by decide)) ?_
    have hF7 := Full_wfi 1127 (gB G + 293) (nI dp) hF6
    refine wp_goto 0 dX11_endFactor_23 (by decide) ?_
    refine wp_forget [.ref (gB G + 293)] ⟨Or.inl rfl, trivial⟩ ?_
    exact e2 q2

theorem pro {G : Cx} {d : Nat} {m : Mm} {Q : Option Value → Mm → Prop} {u k rk : Nat} {x : Int32}  {s : Nat} (hF : Full G m) (he : fi m 1118 (gB G + 293) = (0 : Int32)) (hw : fi m 1126 (gB G + 293) = nI (u + 1)) (hz : fi m 1124 (gB G + 293) = nI s) (hs5 : s < 500) (hz5 : u < 500) (hx : ai m (gB G + 307) u = x) (hk : k < 10) 
    (e1 : (rkM x) < (nI k) → Q none m)
    (e2 : ¬ (rkM x) < (nI k) → WP G (d + 8) (0, 0) μX11_popFromRank 0 [.ref (gB G + 293), .int (nI k)] [] (wfi (wai (wai (wfi m 1126 (gB G + 293) (nI u)) (gB G + 306) (2 * s) x) (gB G + 306) (2 * s + 1) (0 : Int32)) 1124 (gB G + 293) (nI (s + 1))) Q) :
    WP G (d + 8) (0, 0) μX11_popFromRank 0 [.ref (gB G + 293), .int (nI k)] [] m Q := by
  refine wp_aload_n dX11_popFromRank_0 rfl ?_
  refine wp_geti (nI (u + 1)) dX11_popFromRank_1 fX11_340 (Or.inl rfl) (ka hF 293 (by decide)) hw ?_
  refine wp_if_le 32 dX11_popFromRank_4 (by decide) (fun q => absurd (nlt_ (a := 0) (b := u + 1) (by omega : 0 < u + 1) (by omega)) q) (fun _ => ?_)
  refine wp_aload_n dX11_popFromRank_7 rfl ?_
  refine wp_getr (gB G + 307) dX11_popFromRank_8 fX11_55 (ka hF 293 (by decide)) (hF.2 _ _) (rra 14 (isK_le (ka hF 293 (by decide))) (fun _ => rfl)) ?_
  refine wp_aload_n dX11_popFromRank_11 rfl ?_
  refine wp_geti (nI (u + 1)) dX11_popFromRank_12 fX11_340 (Or.inl rfl) (ka hF 293 (by decide)) hw ?_
  refine wp_iconst (1 : Int32) dX11_popFromRank_15 (by decide) ?_
  refine wp_isubv (nI u) dX11_popFromRank_16 (nsub (a := u + 1) (b := 1) (by omega)) ?_
  refine wp_ialdk (n := 500) u x dX11_popFromRank_17 (ka hF 307 (by decide)) (la 307) (vin (by omega) (by decide)) (nIc (by omega)) hx ?_
  refine wp_rkMS dX11_popFromRank_18 MX11_352 (Nat.le_of_ble_eq_true rfl) ?_
  refine wp_iload_n dX11_popFromRank_21 rfl ?_
  refine wp_icmp_lt 32 dX11_popFromRank_22 (by decide) (fun q1 => ?_) (fun q2 => ?_)
  · skip
    exact wp_vret dX11_popFromRank_32 rfl (e1 q1)
  · skip
    refine wp_aload_n dX11_popFromRank_25 rfl ?_
    refine wp_callV (As := []) (S := []) (b' := (0, 0)) (b := (0, 0)) dX11_popFromRank_26 MX11_346 (ka hF 293 (by decide)) rfl rfl rfl rfl (Nat.le_of_ble_eq_true rfl) ?_
    refine WPM.of pX11 (Nat.le_of_ble_eq_true rfl) rfl ?_
    refine wp_aload_n dX11_pop_0 rfl ?_
    refine wp_dup dX11_pop_1 rfl ?_
    refine wp_geti (nI (u + 1)) dX11_pop_2 fX11_340 (Or.inl rfl) (ka hF 293 (by decide)) hw ?_
    refine wp_iconst (1 : Int32) dX11_pop_5 (by decide) ?_
    refine wp_isubv (nI u) dX11_pop_6 (nsub (a := u + 1) (b := 1) (by omega)) ?_
    refine wp_puti dX11_pop_7 pX11_340 (ka hF 293 (by decide)) ?_
    have hF3 := Full_wfi 1126 (gB G + 293) (nI u) hF
    refine wp_aload_n dX11_pop_10 rfl ?_
    refine wp_aload_n dX11_pop_11 rfl ?_
    refine wp_getr (gB G + 307) dX11_pop_12 fX11_55 (ka hF3 293 (by decide)) (hF3.2 _ _) (rra 14 (isK_le (ka hF3 293 (by decide))) (fun _ => rfl)) ?_
    refine wp_aload_n dX11_pop_15 rfl ?_
    refine wp_geti (nI u) dX11_pop_16 fX11_340 (Or.inl rfl) (ka hF3 293 (by decide)) fi_eq ?_
    refine wp_ialdk (n := 500) u x dX11_pop_19 (ka hF3 307 (by decide)) (la 307) (vin (by omega) (by decide)) (nIc (by omega)) (ai_wfi.trans hx) ?_
    refine wp_iconst (0 : Int32) dX11_pop_20 (by decide) ?_
    refine wp_callV (As := [.int x, .int (0 : Int32)]) (S := []) (b' := (0, 0)) (b := (0, 0)) dX11_pop_21 MX11_330 (ka hF3 293 (by decide)) rfl rfl rfl rfl (Nat.le_of_ble_eq_true rfl) ?_
    refine WPM.of pX11 (Nat.le_of_ble_eq_true rfl) rfl ?_
    refine wp_aload_n dX11_emit_0 rfl ?_
    refine wp_geti (0 : Int32) dX11_emit_1 fX11_298 (Or.inl rfl) (ka hF3 293 (by decide)) ((fi_ne (by decide)).trans he) ?_
    refine wp_if_ne 43 dX11_emit_4 (by decide) (fun q => absurd (by decide) q) (fun _ => ?_)
    refine wp_aload_n dX11_emit_7 rfl ?_
    refine wp_getr (gB G + 306) dX11_emit_8 fX11_52 (ka hF3 293 (by decide)) (hF3.2 _ _) (rra 13 (isK_le (ka hF3 293 (by decide))) (fun _ => rfl)) ?_
    refine wp_iconst (2 : Int32) dX11_emit_11 (by decide) ?_
    refine wp_aload_n dX11_emit_12 rfl ?_
    refine wp_geti (nI s) dX11_emit_13 fX11_311 (Or.inl rfl) (ka hF3 293 (by decide)) ((fi_ne (by decide)).trans hz) ?_
    refine wp_imulv (nI (2 * s)) dX11_emit_16 (nmul (a := 2) (b := s) (by omega)) ?_
    refine wp_iload_n dX11_emit_17 rfl ?_
    refine wp_iastk (n := 1000) (2 * s) dX11_emit_18 (ka hF3 306 (by decide)) (la 306) (vin (by omega) (by decide))  (nIc (by omega)) ?_
    have hF4 := Full_wai (gB G + 306) (2 * s) x hF3
    refine wp_aload_n dX11_emit_19 rfl ?_
    refine wp_getr (gB G + 306) dX11_emit_20 fX11_52 (ka hF4 293 (by decide)) (hF4.2 _ _) (rra 13 (isK_le (ka hF4 293 (by decide))) (fun _ => rfl)) ?_
    refine wp_iconst (2 : Int32) dX11_emit_23 (by decide) ?_
    refine wp_aload_n dX11_emit_24 rfl ?_
    refine wp_geti (nI s) dX11_emit_25 fX11_311 (Or.inl rfl) (ka hF4 293 (by decide)) (fi_wai.trans ((fi_ne (by decide)).trans hz)) ?_
    refine wp_imulv (nI (2 * s)) dX11_emit_28 (nmul (a := 2) (b := s) (by omega)) ?_
    refine wp_iconst (1 : Int32) dX11_emit_29 (by decide) ?_
    refine wp_iaddv (nI (2 * s + 1)) dX11_emit_30 (nadd (a := 2 * s) (b := 1) (by omega)) ?_
    refine wp_iload_n dX11_emit_31 rfl ?_
    refine wp_iastk (n := 1000) (2 * s + 1) dX11_emit_32 (ka hF4 306 (by decide)) (la 306) (vin (by omega) (by decide))  (nIc (by omega)) ?_
    have hF5 := Full_wai (gB G + 306) (2 * s + 1) (0 : Int32) hF4
    refine wp_aload_n dX11_emit_33 rfl ?_
    refine wp_dup dX11_emit_34 rfl ?_
    refine wp_geti (nI s) dX11_emit_35 fX11_311 (Or.inl rfl) (ka hF5 293 (by decide)) (fi_wai.trans (fi_wai.trans ((fi_ne (by decide)).trans hz))) ?_
    refine wp_iconst (1 : Int32) dX11_emit_38 (by decide) ?_
    refine wp_iaddv (nI (s + 1)) dX11_emit_39 (nadd (a := s) (b := 1) (by omega)) ?_
    refine wp_puti dX11_emit_40 pX11_311 (ka hF5 293 (by decide)) ?_
    have hF6 := Full_wfi 1124 (gB G + 293) (nI (s + 1)) hF5
    refine wp_vret dX11_emit_43 rfl ?_
    show WP G (d + 7) (0, 0) μX11_pop 24 [.ref (gB G + 293)] [] (wfi (wai (wai (wfi m 1126 (gB G + 293) (nI u)) (gB G + 306) (2 * s) x) (gB G + 306) (2 * s + 1) (0 : Int32)) 1124 (gB G + 293) (nI (s + 1))) _
    refine wp_vret dX11_pop_24 rfl ?_
    show WP G (d + 8) (0, 0) μX11_popFromRank 29 [.ref (gB G + 293), .int (nI k)] [] (wfi (wai (wai (wfi m 1126 (gB G + 293) (nI u)) (gB G + 306) (2 * s) x) (gB G + 306) (2 * s + 1) (0 : Int32)) 1124 (gB G + 293) (nI (s + 1))) _
    refine wp_goto 0 dX11_popFromRank_29 (by decide) ?_
    refine wp_forget [.ref (gB G + 293), .int (nI k)] ⟨Or.inl rfl, Or.inl rfl, trivial⟩ ?_
    exact e2 q2

theorem efe {G : Cx} {d : Nat} {m : Mm} {Q : Option Value → Mm → Prop} {u dp : Nat} {x : Int32} {c : Int32} (hF : Full G m) (he : fi m 1118 (gB G + 293) = c) (hc : ¬ c = 0) (hw : fi m 1126 (gB G + 293) = nI (u + 1)) (hd : fi m 1127 (gB G + 293) = nI (dp + 1)) (hz5 : u < 500) (hx : ai m (gB G + 307) u = x) 
    (e1 : ¬ x = (8 : Int32) → Q none m)
    (e2 : x = (8 : Int32) → WP G (d + 8) (0, 0) μX11_endFactor 0 [.ref (gB G + 293)] [] (wfi (wfi m 1126 (gB G + 293) (nI u)) 1127 (gB G + 293) (nI dp)) Q) :
    WP G (d + 8) (0, 0) μX11_endFactor 0 [.ref (gB G + 293)] [] m Q := by
  refine wp_aload_n dX11_endFactor_0 rfl ?_
  refine wp_bipush (8 : Int32) dX11_endFactor_1 (by decide) ?_
  refine wp_callV (As := [.int (8 : Int32)]) (S := []) (b' := (0, 0)) (b := (0, 0)) dX11_endFactor_3 MX11_343 (ka hF 293 (by decide)) rfl rfl rfl rfl (Nat.le_of_ble_eq_true rfl) ?_
  refine WPM.of pX11 (Nat.le_of_ble_eq_true rfl) rfl ?_
  refine wp_aload_n dX11_waits_0 rfl ?_
  refine wp_geti (nI (u + 1)) dX11_waits_1 fX11_340 (Or.inl rfl) (ka hF 293 (by decide)) hw ?_
  refine wp_if_le 26 dX11_waits_4 (by decide) (fun q => absurd (nlt_ (a := 0) (b := u + 1) (by omega : 0 < u + 1) (by omega)) q) (fun _ => ?_)
  refine wp_aload_n dX11_waits_7 rfl ?_
  refine wp_getr (gB G + 307) dX11_waits_8 fX11_55 (ka hF 293 (by decide)) (hF.2 _ _) (rra 14 (isK_le (ka hF 293 (by decide))) (fun _ => rfl)) ?_
  refine wp_aload_n dX11_waits_11 rfl ?_
  refine wp_geti (nI (u + 1)) dX11_waits_12 fX11_340 (Or.inl rfl) (ka hF 293 (by decide)) hw ?_
  refine wp_iconst (1 : Int32) dX11_waits_15 (by decide) ?_
  refine wp_isubv (nI u) dX11_waits_16 (nsub (a := u + 1) (b := 1) (by omega)) ?_
  refine wp_ialdk (n := 500) u x dX11_waits_17 (ka hF 307 (by decide)) (la 307) (vin (by omega) (by decide)) (nIc (by omega)) hx ?_
  refine wp_iload_n dX11_waits_18 rfl ?_
  refine wp_icmp_ne 26 dX11_waits_19 (by decide) (fun q1 => ?_) (fun q2 => ?_)
  · skip
    refine wp_iconst (0 : Int32) dX11_waits_26 (by decide) ?_
    refine wp_zret dX11_waits_27 rfl rfl ?_
    show WP G (d + 8) (0, 0) μX11_endFactor 6 [.ref (gB G + 293)] [.int (0 : Int32)] m _
    refine wp_if_eq 26 dX11_endFactor_6 (by decide) (fun _ => ?_) (fun q => absurd (by decide) q)
    exact wp_vret dX11_endFactor_26 rfl (e1 q1)
  · skip
    refine wp_iconst (1 : Int32) dX11_waits_22 (by decide) ?_
    refine wp_goto 27 dX11_waits_23 (by decide) ?_
    refine wp_zret dX11_waits_27 rfl rfl ?_
    show WP G (d + 8) (0, 0) μX11_endFactor 6 [.ref (gB G + 293)] [.int (1 : Int32)] m _
    refine wp_if_eq 26 dX11_endFactor_6 (by decide) (fun q => absurd q (by decide)) (fun _ => ?_)
    refine wp_aload_n dX11_endFactor_9 rfl ?_
    refine wp_callV (As := []) (S := []) (b' := (0, 0)) (b := (0, 0)) dX11_endFactor_10 MX11_346 (ka hF 293 (by decide)) rfl rfl rfl rfl (Nat.le_of_ble_eq_true rfl) ?_
    refine WPM.of pX11 (Nat.le_of_ble_eq_true rfl) rfl ?_
    refine wp_aload_n dX11_pop_0 rfl ?_
    refine wp_dup dX11_pop_1 rfl ?_
    refine wp_geti (nI (u + 1)) dX11_pop_2 fX11_340 (Or.inl rfl) (ka hF 293 (by decide)) hw ?_
    refine wp_iconst (1 : Int32) dX11_pop_5 (by decide) ?_
    refine wp_isubv (nI u) dX11_pop_6 (nsub (a := u + 1) (b := 1) (by omega)) ?_
    refine wp_puti dX11_pop_7 pX11_340 (ka hF 293 (by decide)) ?_
    have hF3 := Full_wfi 1126 (gB G + 293) (nI u) hF
    refine wp_aload_n dX11_pop_10 rfl ?_
    refine wp_aload_n dX11_pop_11 rfl ?_
    refine wp_getr (gB G + 307) dX11_pop_12 fX11_55 (ka hF3 293 (by decide)) (hF3.2 _ _) (rra 14 (isK_le (ka hF3 293 (by decide))) (fun _ => rfl)) ?_
    refine wp_aload_n dX11_pop_15 rfl ?_
    refine wp_geti (nI u) dX11_pop_16 fX11_340 (Or.inl rfl) (ka hF3 293 (by decide)) fi_eq ?_
    refine wp_ialdk (n := 500) u x dX11_pop_19 (ka hF3 307 (by decide)) (la 307) (vin (by omega) (by decide)) (nIc (by omega)) (ai_wfi.trans hx) ?_
    refine wp_iconst (0 : Int32) dX11_pop_20 (by decide) ?_
    refine wp_callV (As := [.int x, .int (0 : Int32)]) (S := []) (b' := (0, 0)) (b := (0, 0)) dX11_pop_21 MX11_330 (ka hF3 293 (by decide)) rfl rfl rfl rfl (Nat.le_of_ble_eq_true rfl) ?_
    refine WPM.of pX11 (Nat.le_of_ble_eq_true rfl) rfl ?_
    refine wp_aload_n dX11_emit_0 rfl ?_
    refine wp_geti c dX11_emit_1 fX11_298 (Or.inl rfl) (ka hF3 293 (by decide)) ((fi_ne (by decide)).trans he) ?_
    refine wp_if_ne 43 dX11_emit_4 (by decide) (fun _ => ?_) (fun q => absurd q hc)
    refine wp_vret dX11_emit_43 rfl ?_
    show WP G (d + 7) (0, 0) μX11_pop 24 [.ref (gB G + 293)] [] (wfi m 1126 (gB G + 293) (nI u)) _
    refine wp_vret dX11_pop_24 rfl ?_
    show WP G (d + 8) (0, 0) μX11_endFactor 13 [.ref (gB G + 293)] [] (wfi m 1126 (gB G + 293) (nI u)) _
    refine wp_aload_n dX11_endFactor_13 rfl ?_
    refine wp_dup dX11_endFactor_14 rfl ?_
    refine wp_geti (nI (dp + 1)) dX11_endFactor_15 fX11_349 (Or.inl rfl) (ka hF3 293 (by decide)) ((fi_ne (by decide)).trans hd) ?_
    refine wp_iconst (1 : Int32) dX11_endFactor_18 (by decide) ?_
    refine wp_isubv (nI dp) dX11_endFactor_19 (nsub (a := dp + 1) (b := 1) (by omega)) ?_
    refine wp_puti dX11_endFactor_20 pX11_349 (ka hF3 293 (by decide)) ?_
    have hF4 := Full_wfi 1127 (gB G + 293) (nI dp) hF3
    refine wp_goto 0 dX11_endFactor_23 (by decide) ?_
    refine wp_forget [.ref (gB G + 293)] ⟨Or.inl rfl, trivial⟩ ?_
    exact e2 q2

theorem pre {G : Cx} {d : Nat} {m : Mm} {Q : Option Value → Mm → Prop} {u k rk : Nat} {x : Int32} {c : Int32} (hF : Full G m) (he : fi m 1118 (gB G + 293) = c) (hc : ¬ c = 0) (hw : fi m 1126 (gB G + 293) = nI (u + 1)) (hz5 : u < 500) (hx : ai m (gB G + 307) u = x) (hk : k < 10) 
    (e1 : (rkM x) < (nI k) → Q none m)
    (e2 : ¬ (rkM x) < (nI k) → WP G (d + 8) (0, 0) μX11_popFromRank 0 [.ref (gB G + 293), .int (nI k)] [] (wfi m 1126 (gB G + 293) (nI u)) Q) :
    WP G (d + 8) (0, 0) μX11_popFromRank 0 [.ref (gB G + 293), .int (nI k)] [] m Q := by
  refine wp_aload_n dX11_popFromRank_0 rfl ?_
  refine wp_geti (nI (u + 1)) dX11_popFromRank_1 fX11_340 (Or.inl rfl) (ka hF 293 (by decide)) hw ?_
  refine wp_if_le 32 dX11_popFromRank_4 (by decide) (fun q => absurd (nlt_ (a := 0) (b := u + 1) (by omega : 0 < u + 1) (by omega)) q) (fun _ => ?_)
  refine wp_aload_n dX11_popFromRank_7 rfl ?_
  refine wp_getr (gB G + 307) dX11_popFromRank_8 fX11_55 (ka hF 293 (by decide)) (hF.2 _ _) (rra 14 (isK_le (ka hF 293 (by decide))) (fun _ => rfl)) ?_
  refine wp_aload_n dX11_popFromRank_11 rfl ?_
  refine wp_geti (nI (u + 1)) dX11_popFromRank_12 fX11_340 (Or.inl rfl) (ka hF 293 (by decide)) hw ?_
  refine wp_iconst (1 : Int32) dX11_popFromRank_15 (by decide) ?_
  refine wp_isubv (nI u) dX11_popFromRank_16 (nsub (a := u + 1) (b := 1) (by omega)) ?_
  refine wp_ialdk (n := 500) u x dX11_popFromRank_17 (ka hF 307 (by decide)) (la 307) (vin (by omega) (by decide)) (nIc (by omega)) hx ?_
  refine wp_rkMS dX11_popFromRank_18 MX11_352 (Nat.le_of_ble_eq_true rfl) ?_
  refine wp_iload_n dX11_popFromRank_21 rfl ?_
  refine wp_icmp_lt 32 dX11_popFromRank_22 (by decide) (fun q1 => ?_) (fun q2 => ?_)
  · skip
    exact wp_vret dX11_popFromRank_32 rfl (e1 q1)
  · skip
    refine wp_aload_n dX11_popFromRank_25 rfl ?_
    refine wp_callV (As := []) (S := []) (b' := (0, 0)) (b := (0, 0)) dX11_popFromRank_26 MX11_346 (ka hF 293 (by decide)) rfl rfl rfl rfl (Nat.le_of_ble_eq_true rfl) ?_
    refine WPM.of pX11 (Nat.le_of_ble_eq_true rfl) rfl ?_
    refine wp_aload_n dX11_pop_0 rfl ?_
    refine wp_dup dX11_pop_1 rfl ?_
    refine wp_geti (nI (u + 1)) dX11_pop_2 fX11_340 (Or.inl rfl) (ka hF 293 (by decide)) hw ?_
    refine wp_iconst (1 : Int32) dX11_pop_5 (by decide) ?_
    refine wp_isubv (nI u) dX11_pop_6 (nsub (a := u + 1) (b := 1) (by omega)) ?_
    refine wp_puti dX11_pop_7 pX11_340 (ka hF 293 (by decide)) ?_
    have hF3 := Full_wfi 1126 (gB G + 293) (nI u) hF
    refine wp_aload_n dX11_pop_10 rfl ?_
    refine wp_aload_n dX11_pop_11 rfl ?_
    refine wp_getr (gB G + 307) dX11_pop_12 fX11_55 (ka hF3 293 (by decide)) (hF3.2 _ _) (rra 14 (isK_le (ka hF3 293 (by decide))) (fun _ => rfl)) ?_
    refine wp_aload_n dX11_pop_15 rfl ?_
    refine wp_geti (nI u) dX11_pop_16 fX11_340 (Or.inl rfl) (ka hF3 293 (by decide)) fi_eq ?_
    refine wp_ialdk (n := 500) u x dX11_pop_19 (ka hF3 307 (by decide)) (la 307) (vin (by omega) (by decide)) (nIc (by omega)) (ai_wfi.trans hx) ?_
    refine wp_iconst (0 : Int32) dX11_pop_20 (by decide) ?_
    refine wp_callV (As := [.int x, .int (0 : Int32)]) (S := []) (b' := (0, 0)) (b := (0, 0)) dX11_pop_21 MX11_330 (ka hF3 293 (by decide)) rfl rfl rfl rfl (Nat.le_of_ble_eq_true rfl) ?_
    refine WPM.of pX11 (Nat.le_of_ble_eq_true rfl) rfl ?_
    refine wp_aload_n dX11_emit_0 rfl ?_
    refine wp_geti c dX11_emit_1 fX11_298 (Or.inl rfl) (ka hF3 293 (by decide)) ((fi_ne (by decide)).trans he) ?_
    refine wp_if_ne 43 dX11_emit_4 (by decide) (fun _ => ?_) (fun q => absurd q hc)
    refine wp_vret dX11_emit_43 rfl ?_
    show WP G (d + 7) (0, 0) μX11_pop 24 [.ref (gB G + 293)] [] (wfi m 1126 (gB G + 293) (nI u)) _
    refine wp_vret dX11_pop_24 rfl ?_
    show WP G (d + 8) (0, 0) μX11_popFromRank 29 [.ref (gB G + 293), .int (nI k)] [] (wfi m 1126 (gB G + 293) (nI u)) _
    refine wp_goto 0 dX11_popFromRank_29 (by decide) ?_
    refine wp_forget [.ref (gB G + 293), .int (nI k)] ⟨Or.inl rfl, Or.inl rfl, trivial⟩ ?_
    exact e2 q2

theorem ef0 {G : Cx} {d : Nat} {m : Mm} {Q : Option Value → Mm → Prop}  (hF : Full G m) (hw : fi m 1126 (gB G + 293) = (0 : Int32)) 
    (e1 : Q none m) :
    WP G (d + 8) (0, 0) μX11_endFactor 0 [.ref (gB G + 293)] [] m Q := by
  refine wp_aload_n dX11_endFactor_0 rfl ?_
  refine wp_bipush (8 : Int32) dX11_endFactor_1 (by decide) ?_
  refine wp_callV (As := [.int (8 : Int32)]) (S := []) (b' := (0, 0)) (b := (0, 0)) dX11_endFactor_3 MX11_343 (ka hF 293 (by decide)) rfl rfl rfl rfl (Nat.le_of_ble_eq_true rfl) ?_
  refine WPM.of pX11 (Nat.le_of_ble_eq_true rfl) rfl ?_
  refine wp_aload_n dX11_waits_0 rfl ?_
  refine wp_geti (0 : Int32) dX11_waits_1 fX11_340 (Or.inl rfl) (ka hF 293 (by decide)) hw ?_
  refine wp_if_le 26 dX11_waits_4 (by decide) (fun _ => ?_) (fun q => absurd q (by decide))
  refine wp_iconst (0 : Int32) dX11_waits_26 (by decide) ?_
  refine wp_zret dX11_waits_27 rfl rfl ?_
  show WP G (d + 8) (0, 0) μX11_endFactor 6 [.ref (gB G + 293)] [.int (0 : Int32)] m _
  refine wp_if_eq 26 dX11_endFactor_6 (by decide) (fun _ => ?_) (fun q => absurd (by decide) q)
  exact wp_vret dX11_endFactor_26 rfl (e1)

theorem efx {G : Cx} {d : Nat} {m : Mm} {Q : Option Value → Mm → Prop} {u : Nat} {x : Int32} (hF : Full G m) (hw : fi m 1126 (gB G + 293) = nI (u + 1)) (hz5 : u < 500) (hx : ai m (gB G + 307) u = x) (hx8 : ¬ x = 8) 
    (e1 : Q none m) :
    WP G (d + 8) (0, 0) μX11_endFactor 0 [.ref (gB G + 293)] [] m Q := by
  refine wp_aload_n dX11_endFactor_0 rfl ?_
  refine wp_bipush (8 : Int32) dX11_endFactor_1 (by decide) ?_
  refine wp_callV (As := [.int (8 : Int32)]) (S := []) (b' := (0, 0)) (b := (0, 0)) dX11_endFactor_3 MX11_343 (ka hF 293 (by decide)) rfl rfl rfl rfl (Nat.le_of_ble_eq_true rfl) ?_
  refine WPM.of pX11 (Nat.le_of_ble_eq_true rfl) rfl ?_
  refine wp_aload_n dX11_waits_0 rfl ?_
  refine wp_geti (nI (u + 1)) dX11_waits_1 fX11_340 (Or.inl rfl) (ka hF 293 (by decide)) hw ?_
  refine wp_if_le 26 dX11_waits_4 (by decide) (fun q => absurd (nlt_ (a := 0) (b := u + 1) (by omega : 0 < u + 1) (by omega)) q) (fun _ => ?_)
  refine wp_aload_n dX11_waits_7 rfl ?_
  refine wp_getr (gB G + 307) dX11_waits_8 fX11_55 (ka hF 293 (by decide)) (hF.2 _ _) (rra 14 (isK_le (ka hF 293 (by decide))) (fun _ => rfl)) ?_
  refine wp_aload_n dX11_waits_11 rfl ?_
  refine wp_geti (nI (u + 1)) dX11_waits_12 fX11_340 (Or.inl rfl) (ka hF 293 (by decide)) hw ?_
  refine wp_iconst (1 : Int32) dX11_waits_15 (by decide) ?_
  refine wp_isubv (nI u) dX11_waits_16 (nsub (a := u + 1) (b := 1) (by omega)) ?_
  refine wp_ialdk (n := 500) u x dX11_waits_17 (ka hF 307 (by decide)) (la 307) (vin (by omega) (by decide)) (nIc (by omega)) hx ?_
  refine wp_iload_n dX11_waits_18 rfl ?_
  refine wp_icmp_ne 26 dX11_waits_19 (by decide) (fun _ => ?_) (fun q => absurd q hx8)
  refine wp_iconst (0 : Int32) dX11_waits_26 (by decide) ?_
  refine wp_zret dX11_waits_27 rfl rfl ?_
  show WP G (d + 8) (0, 0) μX11_endFactor 6 [.ref (gB G + 293)] [.int (0 : Int32)] m _
  refine wp_if_eq 26 dX11_endFactor_6 (by decide) (fun _ => ?_) (fun q => absurd (by decide) q)
  exact wp_vret dX11_endFactor_26 rfl (e1)

theorem pr0 {G : Cx} {d : Nat} {m : Mm} {Q : Option Value → Mm → Prop} {k : Nat} (hF : Full G m) (hw : fi m 1126 (gB G + 293) = (0 : Int32)) 
    (e1 : Q none m) :
    WP G (d + 8) (0, 0) μX11_popFromRank 0 [.ref (gB G + 293), .int (nI k)] [] m Q := by
  refine wp_aload_n dX11_popFromRank_0 rfl ?_
  refine wp_geti (0 : Int32) dX11_popFromRank_1 fX11_340 (Or.inl rfl) (ka hF 293 (by decide)) hw ?_
  refine wp_if_le 32 dX11_popFromRank_4 (by decide) (fun _ => ?_) (fun q => absurd q (by decide))
  exact wp_vret dX11_popFromRank_32 rfl (e1)

theorem boa {G : Cx} {d : Nat} {m : Mm} {Q : Option Value → Mm → Prop}  (hF : Full G m) (hy : fi m 1115 (gB G + 293) = (43 : Int32)) 
    (e1 : Q (some (.int (9 : Int32))) m) :
    WPM G (d + 8) (0, 0) μX11_binaryOperation [.ref (gB G + 293)] m Q := by
  refine WPM.of pX11 (Nat.le_of_ble_eq_true rfl) rfl ?_
  refine wp_aload_n dX11_binaryOperation_0 rfl ?_
  refine wp_geti (43 : Int32) dX11_binaryOperation_1 fX11_269 (Or.inl rfl) (ka hF 293 (by decide)) hy ?_
  refine wp_tableIn (off := 40) 44 dX11_binaryOperation_4 (by decide) (by decide) rfl (by decide) ?_
  refine wp_bipush (9 : Int32) dX11_binaryOperation_44 (by decide) ?_
  exact wp_iret dX11_binaryOperation_46 rfl (e1)

theorem bos {G : Cx} {d : Nat} {m : Mm} {Q : Option Value → Mm → Prop}  (hF : Full G m) (hy : fi m 1115 (gB G + 293) = (45 : Int32)) 
    (e1 : Q (some (.int (10 : Int32))) m) :
    WPM G (d + 8) (0, 0) μX11_binaryOperation [.ref (gB G + 293)] m Q := by
  refine WPM.of pX11 (Nat.le_of_ble_eq_true rfl) rfl ?_
  refine wp_aload_n dX11_binaryOperation_0 rfl ?_
  refine wp_geti (45 : Int32) dX11_binaryOperation_1 fX11_269 (Or.inl rfl) (ka hF 293 (by decide)) hy ?_
  refine wp_tableIn (off := 43) 47 dX11_binaryOperation_4 (by decide) (by decide) rfl (by decide) ?_
  refine wp_bipush (10 : Int32) dX11_binaryOperation_47 (by decide) ?_
  exact wp_iret dX11_binaryOperation_49 rfl (e1)

theorem bom {G : Cx} {d : Nat} {m : Mm} {Q : Option Value → Mm → Prop}  (hF : Full G m) (hy : fi m 1115 (gB G + 293) = (42 : Int32)) 
    (e1 : Q (some (.int (11 : Int32))) m) :
    WPM G (d + 8) (0, 0) μX11_binaryOperation [.ref (gB G + 293)] m Q := by
  refine WPM.of pX11 (Nat.le_of_ble_eq_true rfl) rfl ?_
  refine wp_aload_n dX11_binaryOperation_0 rfl ?_
  refine wp_geti (42 : Int32) dX11_binaryOperation_1 fX11_269 (Or.inl rfl) (ka hF 293 (by decide)) hy ?_
  refine wp_tableIn (off := 46) 50 dX11_binaryOperation_4 (by decide) (by decide) rfl (by decide) ?_
  refine wp_bipush (11 : Int32) dX11_binaryOperation_50 (by decide) ?_
  exact wp_iret dX11_binaryOperation_52 rfl (e1)

theorem bod {G : Cx} {d : Nat} {m : Mm} {Q : Option Value → Mm → Prop}  (hF : Full G m) (hy : fi m 1115 (gB G + 293) = (47 : Int32)) 
    (e1 : Q (some (.int (12 : Int32))) m) :
    WPM G (d + 8) (0, 0) μX11_binaryOperation [.ref (gB G + 293)] m Q := by
  refine WPM.of pX11 (Nat.le_of_ble_eq_true rfl) rfl ?_
  refine wp_aload_n dX11_binaryOperation_0 rfl ?_
  refine wp_geti (47 : Int32) dX11_binaryOperation_1 fX11_269 (Or.inl rfl) (ka hF 293 (by decide)) hy ?_
  refine wp_tableIn (off := 49) 53 dX11_binaryOperation_4 (by decide) (by decide) rfl (by decide) ?_
  refine wp_bipush (12 : Int32) dX11_binaryOperation_53 (by decide) ?_
  exact wp_iret dX11_binaryOperation_55 rfl (e1)

theorem box {G : Cx} {d : Nat} {m : Mm} {Q : Option Value → Mm → Prop} {y : Nat} (hF : Full G m) (hy : fi m 1115 (gB G + 293) = nI y) (hy9 : y < 1000) (h43 : ¬ y = 43) (h45 : ¬ y = 45) (h42 : ¬ y = 42) (h47 : ¬ y = 47) 
    (e1 : ¬ (nI y) = (42 : Int32) → ¬ (nI y) = (43 : Int32) → ¬ (nI y) = (45 : Int32) → ¬ (nI y) = (47 : Int32) → Q (some (.int (-1 : Int32))) m) :
    WPM G (d + 8) (0, 0) μX11_binaryOperation [.ref (gB G + 293)] m Q := by
  refine WPM.of pX11 (Nat.le_of_ble_eq_true rfl) rfl ?_
  refine wp_aload_n dX11_binaryOperation_0 rfl ?_
  refine wp_geti (nI y) dX11_binaryOperation_1 fX11_269 (Or.inl rfl) (ka hF 293 (by decide)) hy ?_
  have sw1 : ¬ (nI y) = (42 : Int32) := (fun z => h42 (neq z (by omega) (by omega)))
  have sw2 : ¬ (nI y) = (43 : Int32) := (fun z => h43 (neq z (by omega) (by omega)))
  have sw3 : ¬ (nI y) = (45 : Int32) := (fun z => h45 (neq z (by omega) (by omega)))
  have sw4 : ¬ (nI y) = (47 : Int32) := (fun z => h47 (neq z (by omega) (by omega)))
  refine wp_tableD (js := [42, 43, 45, 47]) 56 dX11_binaryOperation_4 (List.forall_mem_cons.mpr ⟨sw1, List.forall_mem_cons.mpr ⟨sw2, List.forall_mem_cons.mpr ⟨sw3, List.forall_mem_cons.mpr ⟨sw4, fun _ h => absurd h List.not_mem_nil⟩⟩⟩⟩) (by decide +kernel) (by decide) (by decide) ?_
  refine wp_iconst (-1 : Int32) dX11_binaryOperation_56 (by decide) ?_
  exact wp_iret dX11_binaryOperation_57 rfl (e1 sw1 sw2 sw3 sw4)
