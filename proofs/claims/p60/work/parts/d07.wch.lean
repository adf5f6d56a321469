/-! CONTRACT: changes -/
section WCH
variable {G : Cx} {d : Nat} {Λ : Lc} {X X' : Lx} {ext : va_W} {m m' : Mm} {A : Ab} {ce : List (Nat × Mm)} {Q : Option Value → LM → Prop} {T : Int}
theorem LG.md {j : Nat} {y : Int32} (h : LG G Λ T X m A) (hj : j < sH (aS A)) (hC : CIv (atC G (lB Λ) false) m' (stA A (upd (sS (aS A)) (8 * j + 343) y))) : LG G Λ T X m' (stA A (upd (sS (aS A)) (8 * j + 343) y)) := by
  obtain ⟨h1, h2, h3, h4, h5⟩ := h
  have n12 := h1.gd.n12
  have l6 := h1.gd.l6
  refine ⟨hC, h2.of rfl (fun k hk => upd_ne ?_), ⟨fun i hi => ?_, fun i hi => ?_⟩, h4, ?_⟩
  · rcases hk with hk | hk | ⟨i, hi, hk⟩ | ⟨l, hl, hk⟩ <;> omega
  · have hi' : i < sH (aS A) := hi
    show xP X i = upd (sS (aS A)) (8 * j + 343) y (8 * i + 342) ∧ xW X i = upd (sS (aS A)) (8 * j + 343) y (8 * i + 339)
    rw [upd_ne (by omega), upd_ne (by omega)]
    exact h3.1 i hi
  · have hi' : i < sL (aS A) := hi
    show xR X i = upd (sS (aS A)) (8 * j + 343) y (7 * i + 300)
    rw [upd_ne (by omega)]
    exact h3.2 i hi
  · show (upd (sS (aS A)) (8 * j + 343) y 0).toInt ≤ T
    rw [upd_ne (by omega)]
    exact h5
theorem LG.lim {k : Nat} {y z : Int32} (h : LG G Λ T X m A) (hk : k < sN (aS A)) (hy : rg y (-200000) 200000) (hz : rg z (-200000) 200000) (hC : CIv (atC G (lB Λ) false) m' (stA A (limS (sS (aS A)) k y z))) : LG G Λ T X m' (stA A (limS (sS (aS A)) k y z)) := by
  obtain ⟨h1, h2, h3, h4, h5⟩ := h
  have n12 := h1.gd.n12
  have l6 := h1.gd.l6
  obtain ⟨j1, j2, ⟨j3, j4, j5⟩, j6, j7⟩ := h2
  have e : ∀ q, q ≠ 11 * k + 25 → q ≠ 11 * k + 26 → limS (sS (aS A)) k y z q = sS (aS A) q := fun q q1 q2 => by
    unfold limS
    rw [upd_ne q2, upd_ne q1]
  have hv := limS_v (st := sS (aS A)) (k := k) (y := y) (z := z)
  refine ⟨hC, ⟨fun i hi => ?_, fun i hi => ?_, ⟨?_, ?_, ?_⟩, ?_, j7⟩, ⟨fun i hi => ?_, fun i hi => ?_⟩, h4, ?_⟩
  · have hi' : i < sN (aS A) := hi
    have ji := j1 i hi
    show rg (limS (sS (aS A)) k y z (11 * i + 22)) 0 10000 ∧ rg (limS (sS (aS A)) k y z (11 * i + 23)) 0 10000 ∧ rg (limS (sS (aS A)) k y z (11 * i + 24)) 0 1000000 ∧ rg (limS (sS (aS A)) k y z (11 * i + 25)) (-200000) 200000 ∧ rg (limS (sS (aS A)) k y z (11 * i + 26)) (-200000) 200000 ∧ (limS (sS (aS A)) k y z (11 * i + 30) = -1 ∨ rg (limS (sS (aS A)) k y z (11 * i + 30)) 0 (limS (sS (aS A)) k y z 0).toInt)
    by_cases c : i = k
    · subst c
      rw [e (11 * i + 22) (by omega) (by omega), e (11 * i + 23) (by omega) (by omega), e (11 * i + 24) (by omega) (by omega), hv.2.1, hv.2.2, e (11 * i + 30) (by omega) (by omega), e 0 (by omega) (by omega)]
      exact ⟨ji.1, ji.2.1, ji.2.2.1, hy, hz, ji.2.2.2.2.2⟩
    · rw [e (11 * i + 22) (by omega) (by omega), e (11 * i + 23) (by omega) (by omega), e (11 * i + 24) (by omega) (by omega), e (11 * i + 25) (by omega) (by omega), e (11 * i + 26) (by omega) (by omega), e (11 * i + 30) (by omega) (by omega), e 0 (by omega) (by omega)]
      exact ji
  · have hi' : i < sL (aS A) := hi
    show rg (limS (sS (aS A)) k y z (7 * i + 297)) 0 10000 ∧ rg (limS (sS (aS A)) k y z (7 * i + 301)) 0 1000
    rw [e _ (by omega) (by omega), e _ (by omega) (by omega)]
    exact j2 i hi
  · show rg (limS (sS (aS A)) k y z 5) 0 10000
    rw [e _ (by omega) (by omega)]
    exact j3
  · show rg (limS (sS (aS A)) k y z 6) 0 100
    rw [e _ (by omega) (by omega)]
    exact j4
  · show rg (limS (sS (aS A)) k y z 7) 0 10000
    rw [e _ (by omega) (by omega)]
    exact j5
  · show 0 ≤ (sE (aS A) 0).toInt ∧ (sE (aS A) 0).toInt ≤ 1000000000 * (limS (sS (aS A)) k y z 0).toInt
    rw [e _ (by omega) (by omega)]
    exact j6
  · show xP X i = limS (sS (aS A)) k y z (8 * i + 342) ∧ xW X i = limS (sS (aS A)) k y z (8 * i + 339)
    rw [e _ (by omega) (by omega), e _ (by omega) (by omega)]
    exact h3.1 i hi
  · show xR X i = limS (sS (aS A)) k y z (7 * i + 300)
    rw [e _ (by omega) (by omega)]
    exact h3.2 i hi
  · show (limS (sS (aS A)) k y z 0).toInt ≤ T
    rw [e _ (by omega) (by omega)]
    exact h5
/-- rules loaded -/
theorem LG.ld {L : List Ru} (h : LG G Λ T X m A) (hS : Smp L) {A' : Ab} (hA : aS A' = (upd (sS (aS A)) 15 (nI L.length), sE (aS A), sN (aS A), sL (aS A), sH (aS A), L, sK (aS A))) (hC : CIv (atC G (lB Λ) false) m' A') : LG G Λ T X m' A' := by
  obtain ⟨h1, h2, h3, h4, h5⟩ := h
  obtain ⟨j1, j2, ⟨j3, j4, j5⟩, j6, j7⟩ := h2
  unfold LG
  rw [hA]
  have e : ∀ q, q ≠ 15 → upd (sS (aS A)) 15 (nI L.length) q = sS (aS A) q := fun q hq => upd_ne hq
  refine ⟨hC, ⟨fun i hi => ?_, fun i hi => ?_, ⟨?_, ?_, ?_⟩, ?_, hS⟩, ⟨fun i hi => ?_, fun i hi => ?_⟩, h4, ?_⟩
  · show rg (upd (sS (aS A)) 15 (nI L.length) (11 * i + 22)) 0 10000 ∧ rg (upd (sS (aS A)) 15 (nI L.length) (11 * i + 23)) 0 10000 ∧ rg (upd (sS (aS A)) 15 (nI L.length) (11 * i + 24)) 0 1000000 ∧ rg (upd (sS (aS A)) 15 (nI L.length) (11 * i + 25)) (-200000) 200000 ∧ rg (upd (sS (aS A)) 15 (nI L.length) (11 * i + 26)) (-200000) 200000 ∧ (upd (sS (aS A)) 15 (nI L.length) (11 * i + 30) = -1 ∨ rg (upd (sS (aS A)) 15 (nI L.length) (11 * i + 30)) 0 (upd (sS (aS A)) 15 (nI L.length) 0).toInt)
    rw [e _ (by omega), e _ (by omega), e _ (by omega), e _ (by omega), e _ (by omega), e _ (by omega), e _ (by omega)]
    exact j1 i hi
  · show rg (upd (sS (aS A)) 15 (nI L.length) (7 * i + 297)) 0 10000 ∧ rg (upd (sS (aS A)) 15 (nI L.length) (7 * i + 301)) 0 1000
    rw [e _ (by omega), e _ (by omega)]
    exact j2 i hi
  · show rg (upd (sS (aS A)) 15 (nI L.length) 5) 0 10000
    rw [e _ (by omega)]
    exact j3
  · show rg (upd (sS (aS A)) 15 (nI L.length) 6) 0 100
    rw [e _ (by omega)]
    exact j4
  · show rg (upd (sS (aS A)) 15 (nI L.length) 7) 0 10000
    rw [e _ (by omega)]
    exact j5
  · show 0 ≤ (sE (aS A) 0).toInt ∧ (sE (aS A) 0).toInt ≤ 1000000000 * (upd (sS (aS A)) 15 (nI L.length) 0).toInt
    rw [e _ (by omega)]
    exact j6
  · show xP X i = upd (sS (aS A)) 15 (nI L.length) (8 * i + 342) ∧ xW X i = upd (sS (aS A)) 15 (nI L.length) (8 * i + 339)
    rw [e _ (by omega), e _ (by omega)]
    exact h3.1 i hi
  · show xR X i = upd (sS (aS A)) 15 (nI L.length) (7 * i + 300)
    rw [e _ (by omega)]
    exact h3.2 i hi
  · show (upd (sS (aS A)) 15 (nI L.length) 0).toInt ≤ T
    rw [e _ (by omega)]
    exact h5
/-- the bytes that the builder holds at last -/
def bfH (i x : Nat) : Nat → Int32 := va_cpy (chJ i) (upd (va_cpy (chJ 2) (fun _ => 0) 0 0 7) 7 (vp_nar .byte (nI (48 + x % 10)))) 0 8 6
theorem bf_ok : ∀ x, x < 6 → ∀ j, j < 14 → (fits .byte (.int (bfH 3 x (0 + j))) = true ∧ va_cpy (bfH 3 x) (fun _ => 0) 0 0 14 j = nI ((txH x).getD j 0)) ∧ (fits .byte (.int (bfH 4 x (0 + j))) = true ∧ va_cpy (bfH 4 x) (fun _ => 0) 0 0 14 j = nI ((txF x).getD j 0)) := by decide +kernel
theorem tx_lt : ∀ x, x < 6 → (∀ b ∈ txH x, b < 128) ∧ ∀ b ∈ txF x, b < 128 := by decide +kernel
theorem k2_ok : leJ 2 = 7 ∧ leJ 3 = 6 ∧ leJ 4 = 6 := by decide +kernel
theorem ch_fit : ∀ i, i < nJS → ∀ j, j < leJ i → fits .byte (.int (chJ i (0 + j))) = true := by decide +kernel
def tK (i : Nat) : List Nat := if i = 2 then [108, 111, 117, 118, 114, 101, 32] else if i = 3 then [32, 104, 111, 108, 100, 59] else [32, 102, 114, 101, 101, 59]
theorem tK_ok : ∀ i, 2 ≤ i → i < 5 → (∀ b ∈ tK i, b < 128) ∧ (tK i).length = leJ i ∧ ∀ j, j < (tK i).length → chJ i j = nI ((tK i).getD j 0) := by
  intro i h1 h2
  have : i = 2 ∨ i = 3 ∨ i = 4 := by omega
  rcases this with e | e | e <;> subst e <;> exact ⟨by decide +kernel, by decide +kernel, by decide +kernel⟩
theorem tK_P (ws : va_W) {i : Nat} (h1 : 2 ≤ i) (h2 : i < 5) : TxP G ws (gK G i) (gV G i) (tK i) ∧ (tK i).length = leJ i := by
  obtain ⟨a, b, c⟩ := tK_ok i h1 h2
  have l := k2_ok
  have hl : leJ i < 100 := leJ_lt i (by show i < 6; omega)
  exact ⟨TxK G ws (by show i < 6; omega) a b (by omega) c, b⟩
/-- from the builder on to the text put -/
theorem cg_txt {k : Nat} (h : LG G Λ T X m A) (hl0 : 0 < sL (aS A)) (hs : gSl G ≤ 260) (hx : xN X + 10 < 2 ^ 30) (hQ : ∀ (m' : Mm) (A' : Ab) (ext' : va_W) (R : Ru), aS A' = aS A → CIv (atC G (lB Λ) false) m' A' → Smp [R] → pRls (sN (aS A')) (sL (aS A')) (sH (aS A')) 502 (toks (aT A') 501 0) [] = .ok [R] → WZ G (d + 110) (0, 10) μL_changes 109 [.ref (gB G), lvU, lvU, .int (nI k), lvU, lvU, lvU] [] (lm G Λ (xN X + 2, X.2) ext' m' ce) Q) :
    WZ G (d + 110) (4, 50) μL_changes 58 [.ref (gB G), lvU, lvU, .int (nI k), lvU, lvU, lvU] [] (lm G Λ X [] m ce) Q := by
  have l6 := h.g.l6
  obtain ⟨le2, le3, le4⟩ := k2_ok
  refine wl_aload_n dL_changes_58 rfl ?_
  refine wl_newO (ci := 12) (N := 4) (fs := [.null, .int 0, .int 0, .int 0]) (b1 := 3) (b2 := 46) tyJ4 dL_changes_59 rfl CL_199 IJ4 iJ4 uw12 tyJ4_ok (fun k hk => ?_) (fun a1 => ?_)
  · have : k = 0 ∨ k = 1 ∨ k = 2 ∨ k = 3 := by omega
    rcases this with e | e | e | e <;> subst e <;> rfl
  show WZ G (d + 110) (3, 46) μL_changes 62 [.ref (gB G), lvU, lvU, .int (nI k), lvU, lvU, lvU] [.ref a1, .ref (gB G)] (lm G Λ X [sb0W a1] m ce) Q
  refine wl_dup dL_changes_62 rfl ?_
  refine wl_callI (As := []) (S := [.ref a1, .ref (gB G)]) (b' := (1, 16)) (b := (2, 30)) dL_changes_63 ML_201 rfl rfl (Nat.le_of_ble_eq_true rfl) ?_
  refine s_init4 (fun a2 => ?_)
  show WZ G (d + 110) (2, 30) μL_changes 66 [.ref (gB G), lvU, lvU, .int (nI k), lvU, lvU, lvU] [.ref a1, .ref (gB G)] (lm G Λ X [sbW a1 a2 0, byW G a2 16 (fun _ => 0)] m ce) Q
  refine wl_ldcS (own := "") (j := 2) dL_changes_66 (by decide) rfl ?_
  refine wl_callV (As := [.ref (gK G 2)]) (S := [.ref (gB G)]) (b' := (0, 0)) (b := (2, 30)) dL_changes_68 ML_204 ⟨4, _, rfl⟩ rfl rfl rfl (b00 _) (Nat.le_of_ble_eq_true rfl) ?_
  obtain ⟨p2, l2⟩ := tK_P (G := G) (lws G Λ X [sbW a1 a2 0, byW G a2 16 (fun _ => 0)]) (i := 2) (by omega) (by omega)
  refine s_app4 (by decide) p2 l2 (by omega) (ch_fit 2 (by decide)) ?_
  show WZ G (d + 110) (2, 30) μL_changes 71 [.ref (gB G), lvU, lvU, .int (nI k), lvU, lvU, lvU] [.ref a1, .ref (gB G)] (lm G Λ X [sbW a1 a2 (0 + leJ 2), byW G a2 16 (va_cpy (chJ 2) (fun _ => 0) 0 0 (leJ 2))] m ce) Q
  rw [le2]
  refine wl_aload_n dL_changes_71 rfl ?_
  refine wl_aload_n dL_changes_72 rfl ?_
  refine wl_get 0 (.ref (lB Λ)) dL_changes_73 fL_10 rfl rfl ?_
  refine wl_callX (As := []) (S := [.ref (gB G), .ref a1, .ref (gB G)]) [] ce dL_changes_76 ML_123 rfl rfl (Nat.le_of_ble_eq_true rfl) ?_
  refine a_louvreCount h.c ?_
  show WZ G (d + 110) (2, 30) μL_changes 79 [.ref (gB G), lvU, lvU, .int (nI k), lvU, lvU, lvU] [.int (nI (sL (aS A))), .ref (gB G), .ref a1, .ref (gB G)] (lm G Λ X [sbW a1 a2 (0 + 7), byW G a2 16 (va_cpy (chJ 2) (fun _ => 0) 0 0 7)] m ce) Q
  refine wl_callV (As := [.int (nI (sL (aS A)))]) (S := [.ref a1, .ref (gB G)]) (b' := (0, 0)) (b := (2, 30)) dL_changes_79 ML_65 ⟨0, _, rfl⟩ rfl rfl rfl (b00 _) (Nat.le_of_ble_eq_true rfl) ?_
  refine wl_draw (X := X) hs (by omega) (by rw [nI_toInt (by omega)]; omega) (fun x hx' => ?_)
  have hxl : x < sL (aS A) := by rw [nI_toInt (by omega)] at hx'; omega
  show WZ G (d + 110) (2, 30) μL_changes 82 [.ref (gB G), lvU, lvU, .int (nI k), lvU, lvU, lvU] [.int (nI x), .ref a1, .ref (gB G)] (lm G Λ (xN X + 1, X.2) [sbW a1 a2 7, byW G a2 16 (va_cpy (chJ 2) (fun _ => 0) 0 0 7)] m ce) Q
  refine wl_callV (As := [.int (nI x)]) (S := [.ref (gB G)]) (b' := (0, 0)) (b := (2, 30)) dL_changes_82 ML_208 ⟨4, _, rfl⟩ rfl rfl rfl (b00 _) (Nat.le_of_ble_eq_true rfl) ?_
  refine s_appI4 (by omega) (by decide) ?_
  show WZ G (d + 110) (2, 30) μL_changes 85 [.ref (gB G), lvU, lvU, .int (nI k), lvU, lvU, lvU] [.ref a1, .ref (gB G)] (lm G Λ (xN X + 1, X.2) [sbW a1 a2 (7 + 1), byW G a2 16 (upd (va_cpy (chJ 2) (fun _ => 0) 0 0 7) 7 (vp_nar .byte (nI (48 + x % 10))))] m ce) Q
  refine wl_aload_n dL_changes_85 rfl ?_
  refine wl_iconst (2 : Int32) dL_changes_86 (by decide) ?_
  refine wl_callV (As := [.int (2 : Int32)]) (S := [.ref a1, .ref (gB G)]) (b' := (0, 0)) (b := (2, 30)) dL_changes_87 ML_65 ⟨0, _, rfl⟩ rfl rfl rfl (b00 _) (Nat.le_of_ble_eq_true rfl) ?_
  refine wl_draw (X := (xN X + 1, X.2)) hs (by show xN X + 1 + 1 < 2 ^ 31; omega) (by decide) (fun y hy => ?_)
  -- the last word, and what follows
  have tail : ∀ i, (i = 3 ∨ i = 4) → WZ G (d + 110) (2, 30) μL_changes 100 [.ref (gB G), lvU, lvU, .int (nI k), lvU, lvU, lvU] [.ref (gK G i), .ref a1, .ref (gB G)] (lm G Λ (xN X + 2, X.2) [sbW a1 a2 8, byW G a2 16 (upd (va_cpy (chJ 2) (fun _ => 0) 0 0 7) 7 (vp_nar .byte (nI (48 + x % 10))))] m ce) Q := by
    intro i hi
    have lei : leJ i = 6 := by rcases hi with e | e <;> rw [e] <;> assumption
    refine wl_callV (As := [.ref (gK G i)]) (S := [.ref (gB G)]) (b' := (0, 0)) (b := (2, 30)) dL_changes_100 ML_204 ⟨4, _, rfl⟩ rfl rfl rfl (b00 _) (Nat.le_of_ble_eq_true rfl) ?_
    obtain ⟨pi, li⟩ := tK_P (G := G) (lws G Λ (xN X + 2, X.2) [sbW a1 a2 8, byW G a2 16 (upd (va_cpy (chJ 2) (fun _ => 0) 0 0 7) 7 (vp_nar .byte (nI (48 + x % 10))))]) (i := i) (by omega) (by omega)
    refine s_app4 (by show i < 6; omega) pi li (by omega) (ch_fit i (by show i < 6; omega)) ?_
    show WZ G (d + 110) (2, 30) μL_changes 103 [.ref (gB G), lvU, lvU, .int (nI k), lvU, lvU, lvU] [.ref a1, .ref (gB G)] (lm G Λ (xN X + 2, X.2) [sbW a1 a2 (8 + leJ i), byW G a2 16 (va_cpy (chJ i) (upd (va_cpy (chJ 2) (fun _ => 0) 0 0 7) 7 (vp_nar .byte (nI (48 + x % 10)))) 0 8 (leJ i))] m ce) Q
    rw [lei]
    show WZ G (d + 110) (2, 30) μL_changes 103 [.ref (gB G), lvU, lvU, .int (nI k), lvU, lvU, lvU] [.ref a1, .ref (gB G)] (lm G Λ (xN X + 2, X.2) [sbW a1 a2 14, byW G a2 16 (bfH i x)] m ce) Q
    have bo := bf_ok x (by omega)
    refine wl_callV (As := []) (S := [.ref (gB G)]) (b' := (2, 20)) (b := (0, 10)) dL_changes_103 ML_215 ⟨4, _, rfl⟩ rfl rfl rfl rfl (Nat.le_of_ble_eq_true rfl) ?_
    refine s_toStr (by decide) (fun j hj => ?_) (fun a3 a4 => ?_)
    · rcases hi with e | e <;> rw [e]
      · exact (bo j hj).1.1
      · exact (bo j hj).2.1
    show WZ G (d + 110) (0, 10) μL_changes 106 [.ref (gB G), lvU, lvU, .int (nI k), lvU, lvU, lvU] [.ref a3, .ref (gB G)] (lm G Λ (xN X + 2, X.2) [sbW a1 a2 14, byW G a2 16 (bfH i x), stW a3 a4, byW G a4 14 (va_cpy (bfH i x) (fun _ => 0) 0 0 14)] m ce) Q
    refine wl_callV (As := [.ref a3]) (S := []) (b' := (0, 0)) (b := (0, 10)) dL_changes_106 ML_219 ⟨0, _, rfl⟩ rfl rfl rfl rfl (Nat.le_of_ble_eq_true rfl) ?_
    have tl := tx_lt x (by omega)
    rcases hi with e | e
    · subst e
      have hT : TxP G (lws G Λ (xN X + 2, X.2) [sbW a1 a2 14, byW G a2 16 (bfH 3 x), stW a3 a4, byW G a4 14 (va_cpy (bfH 3 x) (fun _ => 0) 0 0 14)]) a3 a4 (txH x) := ⟨tl.1, by show 14 < 100; decide, Or.inr ⟨6, 7, _, _, rfl, rfl, fun j hj => (bo j hj).1.2⟩⟩
      exact w_put h.c hT (fun m' c' => hQ m' (A.1, A.2.1, txH x, aE A, aP A) _ ([], 3, x, []) rfl c' (Or.inr ⟨x, 3, Or.inl rfl, rfl⟩) (pR_H _ _ _ x hxl l6))
    · subst e
      have hT : TxP G (lws G Λ (xN X + 2, X.2) [sbW a1 a2 14, byW G a2 16 (bfH 4 x), stW a3 a4, byW G a4 14 (va_cpy (bfH 4 x) (fun _ => 0) 0 0 14)]) a3 a4 (txF x) := ⟨tl.2, by show 14 < 100; decide, Or.inr ⟨6, 7, _, _, rfl, rfl, fun j hj => (bo j hj).2.2⟩⟩
      exact w_put h.c hT (fun m' c' => hQ m' (A.1, A.2.1, txF x, aE A, aP A) _ ([], 4, x, []) rfl c' (Or.inr ⟨x, 4, Or.inr rfl, rfl⟩) (pR_F _ _ _ x hxl l6))
  show WZ G (d + 110) (2, 30) μL_changes 90 [.ref (gB G), lvU, lvU, .int (nI k), lvU, lvU, lvU] [.int (nI y), .ref a1, .ref (gB G)] (lm G Λ (xN X + 2, X.2) [sbW a1 a2 8, byW G a2 16 (upd (va_cpy (chJ 2) (fun _ => 0) 0 0 7) 7 (vp_nar .byte (nI (48 + x % 10))))] m ce) Q
  refine wl_if_ne 98 dL_changes_90 (by decide) (fun _ => ?_) (fun _ => ?_)
  · refine wl_ldcS (own := "") (j := 4) dL_changes_98 (by decide) rfl ?_
    exact tail 4 (Or.inr rfl)
  · refine wl_ldcS (own := "") (j := 3) dL_changes_93 (by decide) rfl ?_
    refine wl_goto 100 dL_changes_95 (by decide) ?_
    exact tail 3 (Or.inl rfl)
theorem w_changes (h : LG G Λ T X m A) (hs : gSl G ≤ 260) (hx : xN X + 100 < 2 ^ 30) (hQ : ∀ m' A' X' ext', LG G Λ T X' m' A' → xN X' ≤ xN X + 100 → Q (some (.int (1 : Int32))) (lm G Λ X' ext' m' ce)) : WZM G (d + 110) (4, 50) μL_changes [.ref (gB G)] (lm G Λ X [] m ce) Q := by
  -- the limits
  have P3 : ∀ (k : Nat) (X' : Lx) (m : Mm) (A : Ab) (ext : va_W) (b : Nat × Nat), LG G Λ T X' m A → k < sN (aS A) → xN X' ≤ xN X + 10 → WZ G (d + 110) b μL_changes 122 [.ref (gB G), lvU, lvU, .int (nI k), lvU, lvU, lvU] [] (lm G Λ X' ext m ce) Q := by
    intro k X' m A ext b hA hk hx'
    have ht := (hA.g.nd hk).2.1
    refine cg_3 hA.c hs (by omega) hk ht (fun v1 _ v3 hv3 => lim_hi ht hv3) (fun v1 hv1 v3 hv3 => lim_lo2 ht hv1 hv3) (fun v1 hv1 v3 hv3 m5 c5 => ?_)
    have lo := lim_lo ht hv1
    have hi := lim_hi ht hv3
    exact hQ m5 _ _ _ ((hA.lim hk ⟨lo.1, by have := ht.2; omega⟩ hi c5).x rfl) (by show xN X' + 2 ≤ _; omega)
  have P1 : ∀ (k : Nat) (X' : Lx) (m : Mm) (A : Ab), LG G Λ T X' m A → k < sN (aS A) → xN X' ≤ xN X + 5 → WZ G (d + 110) (4, 50) μL_changes 48 [.ref (gB G), lvU, lvU, .int (nI k), lvU, lvU, lvU] [] (lm G Λ X' [] m ce) Q := by
    intro k X' m A hA hk hx'
    refine cg_1 hA.c (fun _ => P3 k X' m A [] _ hA hk (by omega)) (fun hl0 => ?_)
    refine cg_txt hA hl0 hs (by omega) (fun m' A' ext' R eA cA hS kr => ?_)
    refine cg_2 cA kr (fun m1 c1 => ?_)
    have hA' := (hA.s eA cA).x (X' := (xN X' + 2, X'.2)) rfl
    have hL := hA'.ld (L := [R]) hS (A' := ldA A' [R]) rfl c1
    exact P3 k _ m1 _ ext' _ hL (by rw [← eA] at hk; exact hk) (by show xN X' + 2 ≤ _; omega)
  refine cg_0 h.c hs (by omega) h.2.2.2.1 (fun j hj => ?_) (fun v1 hv1 _ => P1 v1 _ m A (h.x rfl) hv1 (by show xN X + 1 ≤ _; omega)) (fun v1 hv1 _ v6 hv6 v8 hv8 m10 c10 => ?_)
  · have := h.g.1.2 j hj
    rcases this with e | e | e <;> rw [e] <;> decide
  · exact P1 v1 _ m10 _ ((h.md hv6 c10).x rfl) hv1 (by show xN X + 3 ≤ _; omega)
end WCH
