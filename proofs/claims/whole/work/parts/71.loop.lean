/-- what case 50 owes -/
def Case50 (G : Cx) : Prop := ∀ {d i : Nat} {m : Mm} {A : Ab} {Q : Option Value → Mm → Prop}, LIv G m A → i + 7 ≤ gSl G → gSl G < 4000 → (∀ m' A', LIv G m' A' → WP G (d + 100) (0, 0) μL_law 18 [.ref (gSa G), .ref (gB G), .ref (gB G + 293), .int (nI (i + 7))] [] m' Q) → WP G (d + 100) (0, 0) μL_law 1669 [.ref (gSa G), .ref (gB G), .ref (gB G + 293), .int (nI i)] [] m Q
theorem and63 (x : Int32) : ∃ k, k < 64 ∧ x &&& 63 = nI k := by
  refine ⟨(x &&& 63).toBitVec.toNat, ?_, ?_⟩
  · have e : (x &&& 63).toBitVec.toNat = x.toBitVec.toNat &&& 63 := by
      rw [Int32.toBitVec_and, BitVec.toNat_and]
      rfl
    rw [e]
    have := Nat.and_le_right (n := x.toBitVec.toNat) (m := 63)
    omega
  · apply Int32.toBitVec_inj.mp
    show _ = (Int32.ofNat _).toBitVec
    rw [Int32.toBitVec_ofNat', BitVec.ofNat_toNat]
    simp

theorem law_case {G : Cx} {d i : Nat} {m : Mm} {A : Ab} {Q : Option Value → Mm → Prop} (K50 : Case50 G) (hL : LIv G m A) (hi : i + 7 ≤ gSl G) (hl : gSl G < 4000) (next : ∀ m' A', LIv G m' A' → WP G (d + 100) (0, 0) μL_law 18 [.ref (gSa G), .ref (gB G), .ref (gB G + 293), .int (nI (i + 7))] [] m' Q) {k : Nat} (hk : k < 64) : WP G (d + 100) (0, 0) μL_law 33 [.ref (gSa G), .ref (gB G), .ref (gB G + 293), .int (nI i)] [.int (nI k)] m Q := by
  by_cases h0 : k = 0
  · subst h0
    exact wp_tableIn (off := 243) 276 dL_law_33 (by decide) (by decide) (by decide +kernel) (by decide) (K_0 hL hi hl next)
  by_cases h1 : k = 1
  · subst h1
    exact wp_tableIn (off := 306) 339 dL_law_33 (by decide) (by decide) (by decide +kernel) (by decide) (K_1 hL hi hl next)
  by_cases h2 : k = 2
  · subst h2
    exact wp_tableIn (off := 319) 352 dL_law_33 (by decide) (by decide) (by decide +kernel) (by decide) (K_2 hL hi hl next)
  by_cases h3 : k = 3
  · subst h3
    exact wp_tableIn (off := 362) 395 dL_law_33 (by decide) (by decide) (by decide +kernel) (by decide) (K_3 hL hi hl next)
  by_cases h4 : k = 4
  · subst h4
    exact wp_tableIn (off := 395) 428 dL_law_33 (by decide) (by decide) (by decide +kernel) (by decide) (K_4 hL hi hl next)
  by_cases h5 : k = 5
  · subst h5
    exact wp_tableIn (off := 428) 461 dL_law_33 (by decide) (by decide) (by decide +kernel) (by decide) (K_5 hL hi hl next)
  by_cases h6 : k = 6
  · subst h6
    exact wp_tableIn (off := 471) 504 dL_law_33 (by decide) (by decide) (by decide +kernel) (by decide) (K_6 hL hi hl next)
  by_cases h7 : k = 7
  · subst h7
    exact wp_tableIn (off := 504) 537 dL_law_33 (by decide) (by decide) (by decide +kernel) (by decide) (K_7 hL hi hl next)
  by_cases h8 : k = 8
  · subst h8
    exact wp_tableIn (off := 517) 550 dL_law_33 (by decide) (by decide) (by decide +kernel) (by decide) (K_8 hL hi hl next)
  by_cases h9 : k = 9
  · subst h9
    exact wp_tableIn (off := 580) 613 dL_law_33 (by decide) (by decide) (by decide +kernel) (by decide) (K_9 hL hi hl next)
  by_cases h10 : k = 10
  · subst h10
    exact wp_tableIn (off := 643) 676 dL_law_33 (by decide) (by decide) (by decide +kernel) (by decide) (K_10 hL hi hl next)
  by_cases h11 : k = 11
  · subst h11
    exact wp_tableIn (off := 656) 689 dL_law_33 (by decide) (by decide) (by decide +kernel) (by decide) (K_11 hL hi hl next)
  by_cases h12 : k = 12
  · subst h12
    exact wp_tableIn (off := 679) 712 dL_law_33 (by decide) (by decide) (by decide +kernel) (by decide) (K_12 hL hi hl next)
  by_cases h13 : k = 13
  · subst h13
    exact wp_tableIn (off := 702) 735 dL_law_33 (by decide) (by decide) (by decide +kernel) (by decide) (K_13 hL hi hl next)
  by_cases h14 : k = 14
  · subst h14
    exact wp_tableIn (off := 725) 758 dL_law_33 (by decide) (by decide) (by decide +kernel) (by decide) (K_14 hL hi hl next)
  by_cases h15 : k = 15
  · subst h15
    exact wp_tableIn (off := 738) 771 dL_law_33 (by decide) (by decide) (by decide +kernel) (by decide) (K_15 hL hi hl next)
  by_cases h16 : k = 16
  · subst h16
    exact wp_tableIn (off := 761) 794 dL_law_33 (by decide) (by decide) (by decide +kernel) (by decide) (K_16 hL hi hl next)
  by_cases h17 : k = 17
  · subst h17
    exact wp_tableIn (off := 784) 817 dL_law_33 (by decide) (by decide) (by decide +kernel) (by decide) (K_17 hL hi hl next)
  by_cases h18 : k = 18
  · subst h18
    exact wp_tableIn (off := 817) 850 dL_law_33 (by decide) (by decide) (by decide +kernel) (by decide) (K_18 hL hi hl next)
  by_cases h19 : k = 19
  · subst h19
    exact wp_tableIn (off := 892) 925 dL_law_33 (by decide) (by decide) (by decide +kernel) (by decide) (K_19 hL hi hl next)
  by_cases h20 : k = 20
  · subst h20
    exact wp_tableIn (off := 945) 978 dL_law_33 (by decide) (by decide) (by decide +kernel) (by decide) (K_20 hL hi hl next)
  by_cases h21 : k = 21
  · subst h21
    exact wp_tableIn (off := 968) 1001 dL_law_33 (by decide) (by decide) (by decide +kernel) (by decide) (K_21 hL hi hl next)
  by_cases h22 : k = 22
  · subst h22
    exact wp_tableIn (off := 991) 1024 dL_law_33 (by decide) (by decide) (by decide +kernel) (by decide) (K_22 hL hi hl next)
  by_cases h23 : k = 23
  · subst h23
    exact wp_tableIn (off := 1004) 1037 dL_law_33 (by decide) (by decide) (by decide +kernel) (by decide) (K_23 hL hi hl next)
  by_cases h24 : k = 24
  · subst h24
    exact wp_tableIn (off := 1017) 1050 dL_law_33 (by decide) (by decide) (by decide +kernel) (by decide) (K_24 hL hi hl next)
  by_cases h25 : k = 25
  · subst h25
    exact wp_tableIn (off := 1030) 1063 dL_law_33 (by decide) (by decide) (by decide +kernel) (by decide) (K_25 hL hi hl next)
  by_cases h26 : k = 26
  · subst h26
    exact wp_tableIn (off := 1043) 1076 dL_law_33 (by decide) (by decide) (by decide +kernel) (by decide) (K_26 hL hi hl next)
  by_cases h27 : k = 27
  · subst h27
    exact wp_tableIn (off := 1056) 1089 dL_law_33 (by decide) (by decide) (by decide +kernel) (by decide) (K_27 hL hi hl next)
  by_cases h28 : k = 28
  · subst h28
    exact wp_tableIn (off := 1079) 1112 dL_law_33 (by decide) (by decide) (by decide +kernel) (by decide) (K_28 hL hi hl next)
  by_cases h29 : k = 29
  · subst h29
    exact wp_tableIn (off := 1102) 1135 dL_law_33 (by decide) (by decide) (by decide +kernel) (by decide) (K_29 hL hi hl next)
  by_cases h30 : k = 30
  · subst h30
    exact wp_tableIn (off := 1126) 1159 dL_law_33 (by decide) (by decide) (by decide +kernel) (by decide) (K_30 hL hi hl next)
  by_cases h31 : k = 31
  · subst h31
    exact wp_tableIn (off := 1150) 1183 dL_law_33 (by decide) (by decide) (by decide +kernel) (by decide) (K_31 hL hi hl next)
  by_cases h32 : k = 32
  · subst h32
    exact wp_tableIn (off := 1174) 1207 dL_law_33 (by decide) (by decide) (by decide +kernel) (by decide) (K_32 hL hi hl next)
  by_cases h33 : k = 33
  · subst h33
    exact wp_tableIn (off := 1198) 1231 dL_law_33 (by decide) (by decide) (by decide +kernel) (by decide) (K_33 hL hi hl next)
  by_cases h34 : k = 34
  · subst h34
    exact wp_tableIn (off := 1221) 1254 dL_law_33 (by decide) (by decide) (by decide +kernel) (by decide) (K_34 hL hi hl next)
  by_cases h35 : k = 35
  · subst h35
    exact wp_tableIn (off := 1234) 1267 dL_law_33 (by decide) (by decide) (by decide +kernel) (by decide) (K_35 hL hi hl next)
  by_cases h36 : k = 36
  · subst h36
    exact wp_tableIn (off := 1257) 1290 dL_law_33 (by decide) (by decide) (by decide +kernel) (by decide) (K_36 hL hi hl next)
  by_cases h37 : k = 37
  · subst h37
    exact wp_tableIn (off := 1280) 1313 dL_law_33 (by decide) (by decide) (by decide +kernel) (by decide) (K_37 hL hi hl next)
  by_cases h38 : k = 38
  · subst h38
    exact wp_tableIn (off := 1303) 1336 dL_law_33 (by decide) (by decide) (by decide +kernel) (by decide) (K_38 hL hi hl next)
  by_cases h39 : k = 39
  · subst h39
    exact wp_tableIn (off := 1326) 1359 dL_law_33 (by decide) (by decide) (by decide +kernel) (by decide) (K_39 hL hi hl next)
  by_cases h40 : k = 40
  · subst h40
    exact wp_tableIn (off := 1339) 1372 dL_law_33 (by decide) (by decide) (by decide +kernel) (by decide) (K_40 hL hi hl next)
  by_cases h41 : k = 41
  · subst h41
    exact wp_tableIn (off := 1362) 1395 dL_law_33 (by decide) (by decide) (by decide +kernel) (by decide) (K_41 hL hi hl next)
  by_cases h42 : k = 42
  · subst h42
    exact wp_tableIn (off := 1375) 1408 dL_law_33 (by decide) (by decide) (by decide +kernel) (by decide) (K_42 hL hi hl next)
  by_cases h43 : k = 43
  · subst h43
    exact wp_tableIn (off := 1399) 1432 dL_law_33 (by decide) (by decide) (by decide +kernel) (by decide) (K_43 hL hi hl next)
  by_cases h44 : k = 44
  · subst h44
    exact wp_tableIn (off := 1432) 1465 dL_law_33 (by decide) (by decide) (by decide +kernel) (by decide) (K_44 hL hi hl next)
  by_cases h45 : k = 45
  · subst h45
    exact wp_tableIn (off := 1491) 1524 dL_law_33 (by decide) (by decide) (by decide +kernel) (by decide) (K_45 hL hi hl next)
  by_cases h46 : k = 46
  · subst h46
    exact wp_tableIn (off := 1524) 1557 dL_law_33 (by decide) (by decide) (by decide +kernel) (by decide) (K_46 hL hi hl next)
  by_cases h47 : k = 47
  · subst h47
    exact wp_tableIn (off := 1557) 1590 dL_law_33 (by decide) (by decide) (by decide +kernel) (by decide) (K_47 hL hi hl next)
  by_cases h48 : k = 48
  · subst h48
    exact wp_tableIn (off := 1590) 1623 dL_law_33 (by decide) (by decide) (by decide +kernel) (by decide) (K_48 hL hi hl next)
  by_cases h49 : k = 49
  · subst h49
    exact wp_tableIn (off := 1613) 1646 dL_law_33 (by decide) (by decide) (by decide +kernel) (by decide) (K_49 hL hi hl next)
  by_cases h50 : k = 50
  · subst h50
    exact wp_tableIn (off := 1636) 1669 dL_law_33 (by decide) (by decide) (by decide +kernel) (by decide) (K50 hL hi hl next)
  by_cases h51 : k = 51
  · subst h51
    exact wp_tableIn (off := 1649) 1682 dL_law_33 (by decide) (by decide) (by decide +kernel) (by decide) (K_51 hL hi hl next)
  by_cases h52 : k = 52
  · subst h52
    exact wp_tableIn (off := 1662) 1695 dL_law_33 (by decide) (by decide) (by decide +kernel) (by decide) (K_52 hL hi hl next)
  by_cases h53 : k = 53
  · subst h53
    exact wp_tableIn (off := 1675) 1708 dL_law_33 (by decide) (by decide) (by decide +kernel) (by decide) (K_53 hL hi hl next)
  by_cases h54 : k = 54
  · subst h54
    exact wp_tableIn (off := 1688) 1721 dL_law_33 (by decide) (by decide) (by decide +kernel) (by decide) (K_54 hL hi hl next)
  by_cases h55 : k = 55
  · subst h55
    exact wp_tableIn (off := 1711) 1744 dL_law_33 (by decide) (by decide) (by decide +kernel) (by decide) (K_55 hL hi hl next)
  by_cases h56 : k = 56
  · subst h56
    exact wp_tableIn (off := 1734) 1767 dL_law_33 (by decide) (by decide) (by decide +kernel) (by decide) (K_56 hL hi hl next)
  · refine wp_tableOut 1790 dL_law_33 (Or.inr (by rw [nI_toInt (by omega)]; omega)) (by decide) ?_
    refine wp_iinc (nI (i + 7)) dL_law_1790 rfl (by decide) (nadd (a := i) (b := 7) (by omega)) rfl ?_
    exact wp_goto 18 dL_law_1793 (by decide) (next m A hL)

theorem law_loop {G : Cx} {d : Nat} {Q : Option Value → Mm → Prop} (K50 : Case50 G) (hl : gSl G < 4000) (fin : ∀ m, Q (some (.int (1 : Int32))) m) : ∀ (f i : Nat) (m : Mm) (A : Ab), gSl G - i ≤ f → i ≤ gSl G → LIv G m A → WP G (d + 100) (0, 0) μL_law 18 [.ref (gSa G), .ref (gB G), .ref (gB G + 293), .int (nI i)] [] m Q := by
  have len : Int32.ofNat (gSl G) = nI (gSl G) := rfl
  have head : ∀ (i : Nat) (m : Mm), i ≤ gSl G → (gSl G < i + 7 → Q (some (.int (1 : Int32))) m) → (i + 7 ≤ gSl G → ∀ k, k < 64 → gSx G i &&& 63 = nI k → WP G (d + 100) (0, 0) μL_law 33 [.ref (gSa G), .ref (gB G), .ref (gB G + 293), .int (nI i)] [.int (nI k)] m Q) → WP G (d + 100) (0, 0) μL_law 18 [.ref (gSa G), .ref (gB G), .ref (gB G + 293), .int (nI i)] [] m Q := by
    intro i m hi h1 h2
    have hcmp : ∀ {b : Bool}, True → ((nI (gSl G) - (7 : Int32)) < nI i ↔ gSl G < i + 7) := fun {b} _ => by
      have e1 : (nI i).toInt = (i : Int) := nI_toInt (by omega)
      have e2 : (nI (gSl G)).toInt = (gSl G : Int) := nI_toInt (by omega)
      have e3 : (7 : Int32).toInt = 7 := by decide
      rw [Int32.lt_iff_toInt_lt, Int32.toInt_sub, e1, e2, e3, Int.bmod_eq_of_le (by omega) (by omega)]
      omega
    refine wp_iload_n dL_law_18 rfl ?_
    refine wp_aload_n dL_law_19 rfl ?_
    refine wp_slen (nI (gSl G)) dL_law_20 len ?_
    refine wp_bipush (7 : Int32) dL_law_21 (by decide) ?_
    refine wp_isubv (nI (gSl G) - (7 : Int32)) dL_law_23 rfl ?_
    refine wp_icmp_gt 1796 dL_law_24 (by decide) (fun q => ?_) (fun q => ?_)
    · refine wp_iconst (1 : Int32) dL_law_1796 (by decide) ?_
      exact wp_zret dL_law_1797 rfl rfl (h1 ((hcmp (b := true) trivial).mp q))
    · have hi7 : i + 7 ≤ gSl G := by
        by_cases z : gSl G < i + 7
        · exact absurd ((hcmp (b := true) trivial).mpr z) q
        · omega
      refine wp_aload_n dL_law_27 rfl ?_
      refine wp_iload_n dL_law_28 rfl ?_
      refine wp_sld i dL_law_29 rfl (by omega) (by omega) ?_
      refine wp_bipush (63 : Int32) dL_law_30 (by decide) ?_
      obtain ⟨k, hk, e⟩ := and63 (gSx G i)
      refine wp_iand dL_law_32 ?_
      rw [e]
      exact h2 hi7 k hk e
  intro f
  induction f with
  | zero =>
    intro i m A hf hi hL
    exact head i m hi (fun _ => fin m) (fun h => by omega)
  | succ f ih =>
    intro i m A hf hi hL
    refine head i m hi (fun _ => fin m) (fun h k hk _ => ?_)
    exact law_case K50 hL h hl (fun m' A' hL' => ih (i + 7) m' A' (by omega) (by omega) hL') hk
