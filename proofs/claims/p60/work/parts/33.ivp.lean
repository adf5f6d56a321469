/-! WHAT HOLDS OF THE STATE, and stays so -/
section IVP
variable {T : Int} {st st' : Nat → Int32} {n nl nh : Nat}
theorem Iv.of (h : Iv T st n nl nh) (h0 : ∀ k, k < 17 → k ≠ 11 → st' k = st k) (h11 : rg (st' 11) 0 (st 10).toInt)
    (hN : ∀ i, i < n → (∀ j, j = 0 ∨ j = 9 ∨ j = 10 → st' (11 * i + 20 + j) = st (11 * i + 20 + j)) ∧ rg (st' (11 * i + 21)) (-200000) 200000)
    (hL : ∀ i, i < nl → (∀ j, j < 5 → j ≠ 1 → st' (7 * i + 296 + j) = st (7 * i + 296 + j)) ∧ (st' (7 * i + 302) = 0 ∨ st' (7 * i + 302) = 1))
    (hH : ∀ i, i < nh → (∀ j, j < 5 → st' (8 * i + 338 + j) = st (8 * i + 338 + j)) ∧ (st' (8 * i + 344) = 0 ∨ st' (8 * i + 344) = 1) ∧ (st' (8 * i + 343) = 0 ∨ st' (8 * i + 343) = 1 ∨ st' (8 * i + 343) = 2)) : Iv T st' n nl nh := by
  obtain ⟨⟨i1, i2, i3, i4, i5, i6, ⟨j1, j2, j3, j4, j5, j6, j7⟩, i8, i9, i10, i11⟩, i12⟩ := h
  have e := h0
  refine ⟨⟨(h0 12 (by omega) (by omega)).trans i1, i2, (h0 13 (by omega) (by omega)).trans i3, i4, (h0 14 (by omega) (by omega)).trans i5, i6, ⟨?_, ?_, ?_, ?_, ?_, ?_, ?_⟩, fun i hi => ?_, fun i hi => ?_, fun i hi => ?_, ?_⟩, fun i hi => (hH i hi).2.2⟩
  · rw [h0 0 (by omega) (by omega)]; exact j1
  · rw [h0 1 (by omega) (by omega)]; exact j2
  · rw [h0 2 (by omega) (by omega)]; exact j3
  · rw [h0 8 (by omega) (by omega)]; exact j4
  · rw [h0 9 (by omega) (by omega)]; exact j5
  · rw [h0 10 (by omega) (by omega)]; exact j6
  · rw [h0 10 (by omega) (by omega)]; exact h11
  · obtain ⟨a, b⟩ := hN i hi
    obtain ⟨c1, c2, c3, c4⟩ := i8 i hi
    have a0 : st' (11 * i + 20) = st (11 * i + 20) := a 0 (by omega)
    have a9 : st' (11 * i + 29) = st (11 * i + 29) := a 9 (by omega)
    have a10 : st' (11 * i + 30) = st (11 * i + 30) := a 10 (by omega)
    unfold InvN
    rw [a0, a9, a10, h0 0 (by omega) (by omega)]
    exact ⟨c1, b, c3, c4⟩
  · obtain ⟨a, b⟩ := hL i hi
    obtain ⟨⟨o, ho, c1⟩, c2, c3, c4, c5⟩ := i9 i hi
    have a0 : st' (7 * i + 296) = st (7 * i + 296) := a 0 (by omega) (by omega)
    have a2 : st' (7 * i + 298) = st (7 * i + 298) := a 2 (by omega) (by omega)
    have a3 : st' (7 * i + 299) = st (7 * i + 299) := a 3 (by omega) (by omega)
    have a4 : st' (7 * i + 300) = st (7 * i + 300) := a 4 (by omega) (by omega)
    unfold InvL
    rw [a0, a2, a3, a4]
    exact ⟨⟨o, ho, c1⟩, c2, c3, c4, b⟩
  · obtain ⟨a, b, -⟩ := hH i hi
    obtain ⟨⟨o, ho, c1⟩, c2, c3, c4⟩ := i10 i hi
    have a0 : st' (8 * i + 338) = st (8 * i + 338) := a 0 (by omega)
    have a1 : st' (8 * i + 339) = st (8 * i + 339) := a 1 (by omega)
    have a4 : st' (8 * i + 342) = st (8 * i + 342) := a 4 (by omega)
    unfold InvH
    rw [a0, a1, a4]
    exact ⟨⟨o, ho, c1⟩, c2, c3, b⟩
  · rw [h0 16 (by omega) (by omega), i11]
    exact congrArg nI (vcnt_eq n (fun j hj => (hN j hj).1 9 (by omega))).symm
/-- the same, of one place changed that matters to nothing, or whose values are still good -/
theorem Iv.upd (h : Iv T st n nl nh) {k : Nat} {x : Int32} (hk : 17 ≤ k) (hN : ∀ i, i < n → k ≠ 11 * i + 20 ∧ k ≠ 11 * i + 29 ∧ k ≠ 11 * i + 30 ∧ (k = 11 * i + 21 → rg x (-200000) 200000))
    (hL : ∀ i, i < nl → (∀ j, j < 5 → j ≠ 1 → k ≠ 7 * i + 296 + j) ∧ (k = 7 * i + 302 → x = 0 ∨ x = 1)) (hH : ∀ i, i < nh → (∀ j, j < 5 → k ≠ 8 * i + 338 + j) ∧ (k = 8 * i + 344 → x = 0 ∨ x = 1) ∧ (k = 8 * i + 343 → x = 0 ∨ x = 1 ∨ x = 2)) : Iv T (upd st k x) n nl nh := by
  have hh := h
  obtain ⟨⟨i1, i2, i3, i4, i5, i6, ⟨j1, j2, j3, j4, j5, j6, j7⟩, i8, i9, i10, i11⟩, i12⟩ := hh
  refine h.of (fun j hj _ => upd_ne (by omega)) (by rw [upd_ne (by omega)]; exact j7) (fun i hi => ⟨fun j hj => upd_ne ?_, ?_⟩) (fun i hi => ⟨fun j hj hj1 => upd_ne (Ne.symm ((hL i hi).1 j hj hj1)), ?_⟩) (fun i hi => ⟨fun j hj => upd_ne (Ne.symm ((hH i hi).1 j hj)), ?_, ?_⟩)
  · have := hN i hi
    omega
  · by_cases e : k = 11 * i + 21
    · rw [e, upd_eq]
      exact (hN i hi).2.2.2 e
    · rw [upd_ne (Ne.symm e)]
      exact (i8 i hi).2.1
  · by_cases e : k = 7 * i + 302
    · rw [e, upd_eq]
      exact (hL i hi).2 e
    · rw [upd_ne (Ne.symm e)]
      exact (i9 i hi).2.2.2.2
  · by_cases e : k = 8 * i + 344
    · rw [e, upd_eq]
      exact (hH i hi).2.1 e
    · rw [upd_ne (Ne.symm e)]
      exact (i10 i hi).2.2.2
  · by_cases e : k = 8 * i + 343
    · rw [e, upd_eq]
      exact (hH i hi).2.2 e
    · rw [upd_ne (Ne.symm e)]
      exact i12 i hi
theorem Iv.safe (h : Iv T st n nl nh) : Safe st n nl nh := by
  obtain ⟨⟨i1, i2, i3, i4, i5, i6, ⟨j1, j2, j3, j4, j5, j6, j7⟩, i8, i9, i10, i11⟩, i12⟩ := h
  have z : (0 : Int32).toInt = 0 := rfl
  refine ⟨i1, i2, i3, i4, i5, i6, fun e => ?_, fun e => ?_, fun l hl => ?_, fun l hl => ?_, fun l hl e => ?_, fun i hi e => ?_⟩
  · have := congrArg Int32.toInt e
    have := j3.1
    omega
  · have := congrArg Int32.toInt e
    have := j2.1
    omega
  · obtain ⟨⟨o, ho, e⟩, -⟩ := i9 l hl
    exact ⟨o, by omega, e⟩
  · obtain ⟨⟨o, ho, e⟩, -⟩ := i10 l hl
    exact ⟨o, by omega, e⟩
  · obtain ⟨-, b1, b2, -⟩ := i9 l hl
    have z3 := congrArg Int32.toInt (toL_inj0 e)
    rw [i32_sub_rg (x := -1000000000) ⟨by have := b2.1; have := b1.1; omega, by have := b2.2; omega⟩ ⟨by have := b1.1; omega, by have := b1.2; omega⟩ (by omega)] at z3
    have := b2.1
    omega
  · have := congrArg Int32.toInt (toL_inj0 e)
    have := (i8 i hi).1.1
    omega
theorem Iv_mvS (h : Iv T st n nl nh) {i : Nat} (hi : i < nl) : Iv T (mvS st i) n nl nh := by
  have q1 := h.1.2.1
  have q2 := h.1.2.2.2.1
  have q3 := h.1.2.2.2.2.2.1
  unfold mvS
  split
  · exact h
  · exact h.upd (by omega) (fun _ _ => by omega) (fun _ _ => ⟨fun _ _ _ => by omega, fun _ => by omega⟩) (fun _ _ => ⟨fun _ _ => by omega, fun _ => by omega, fun _ => by omega⟩)
theorem Iv_mvF (h : Iv T st n nl nh) : ∀ i, i ≤ nl → Iv T (mvF st i) n nl nh
  | 0, _ => h
  | i + 1, hi => Iv_mvS (Iv_mvF h i (by omega)) (by omega)
theorem wshF_01 {st : Nat → Int32} {o h : Nat} (hw : st (8 * h + 344) = 0 ∨ st (8 * h + 344) = 1) : wshF st o h = 0 ∨ wshF st o h = 1 := by
  unfold wshF
  repeat' split
  all_goals first | exact Or.inl rfl | exact Or.inr rfl | exact hw
theorem Iv_w1S (h : Iv T st n nl nh) {i : Nat} (hi : i < nh) : Iv T (w1S st i) n nl nh := by
  have q1 := h.1.2.1
  have q2 := h.1.2.2.2.1
  have q3 := h.1.2.2.2.2.2.1
  have hw := (h.1.2.2.2.2.2.2.2.2.2.1 i hi).2.2.2
  unfold w1S
  refine Iv.upd (Iv.upd h (by omega) (fun _ _ => by omega) (fun _ _ => ⟨fun _ _ _ => by omega, fun _ => by omega⟩) (fun _ _ => ⟨fun _ _ => by omega, fun _ => wshF_01 hw, fun _ => by omega⟩)) (by omega) (fun _ _ => by omega) (fun _ _ => ⟨fun _ _ _ => by omega, fun _ => by omega⟩) (fun _ _ => ⟨fun _ _ => by omega, fun _ => by omega, fun _ => by omega⟩)
theorem Iv_w1F (h : Iv T st n nl nh) : ∀ i, i ≤ nh → Iv T (w1F st i) n nl nh
  | 0, _ => h
  | i + 1, hi => Iv_w1S (Iv_w1F h i (by omega)) (by omega)
theorem Iv_swS {s : (Nat → Int32) × Int64} (h : Iv T s.1 n nl nh) {i : Nat} (hi : i < nh) : Iv T (swS s i).1 n nl nh := by
  have q1 := h.1.2.1
  have q2 := h.1.2.2.2.1
  have q3 := h.1.2.2.2.2.2.1
  have hu : ∀ x, Iv T (upd s.1 (8 * i + 345) x) n nl nh := fun x => h.upd (by omega) (fun _ _ => by omega) (fun _ _ => ⟨fun _ _ _ => by omega, fun _ => by omega⟩) (fun _ _ => ⟨fun _ _ => by omega, fun _ => by omega, fun _ => by omega⟩)
  unfold swS
  split
  · exact h
  · split
    · exact (hu 2).upd (by omega) (fun _ _ => by omega) (fun _ _ => ⟨fun _ _ _ => by omega, fun _ => by omega⟩) (fun _ _ => ⟨fun _ _ => by omega, fun _ => by omega, fun _ => by omega⟩)
    · exact hu 1
theorem Iv_swP (p : Int32) {s : (Nat → Int32) × Int64} (h : Iv T s.1 n nl nh) : ∀ i, i ≤ nh → Iv T (swP p s i).1 n nl nh
  | 0, _ => h
  | i + 1, hi => by
    have ih := Iv_swP p h i (by omega)
    rw [swP_s]
    split
    · exact Iv_swS ih (by omega)
    · exact ih
theorem Iv_swF {s : (Nat → Int32) × Int64} (h : Iv T s.1 n nl nh) : ∀ k, Iv T (swF s nh k).1 n nl nh
  | 0 => h
  | k + 1 => Iv_swP _ (Iv_swF h k) nh (Nat.le_refl _)
theorem lim_rg {a b : Int} {x y v : Int64} (hx : x.toInt = a) (hy : y.toInt = b) (hab : a ≤ b) (ha : -2147483648 ≤ a) (hb : b ≤ 2147483647) : rg (Int64.toInt32 (lmax x (lmin y v))) a b := by
  have h : a ≤ (lmax x (lmin y v)).toInt ∧ (lmax x (lmin y v)).toInt ≤ b := by
    unfold lmax lmin
    simp only [Int64.lt_iff_toInt_lt]
    repeat' split
    all_goals omega
  have e : (Int64.toInt32 (lmax x (lmin y v))).toInt = (lmax x (lmin y v)).toInt := by
    rw [Int64.toInt_toInt32, Int.bmod_eq_of_le (by omega) (by omega)]
  unfold rg
  rw [e]
  exact h
theorem Iv_switchF (h : Iv T st n nl nh) : Iv T (switchF st nh) n nl nh := by
  have hs := Iv_swF (s := (w1F st nh, avlF st)) (Iv_w1F h nh (Nat.le_refl _)) 10
  unfold switchF chgF
  generalize (swF (w1F st nh, avlF st) nh 10).1 = S at hs ⊢
  have hs' := hs
  obtain ⟨⟨i1, i2, i3, i4, i5, i6, ⟨j1, j2, j3, j4, j5, j6, j7⟩, i8, i9, i10, i11⟩, i12⟩ := hs'
  refine hs.of (fun j _ hj => upd_ne hj) ?_ (fun i hi => ⟨fun j hj => upd_ne (by omega), ?_⟩) (fun i hi => ⟨fun j hj hj1 => upd_ne (by omega), ?_⟩) (fun i hi => ⟨fun j hj => upd_ne (by omega), ?_, ?_⟩)
  · rw [upd_eq]
    have := j6.1
    have := j6.2
    exact lim_rg rfl (Int32.toInt_toInt64 _) (by omega) (by decide) (by omega)
  · rw [upd_ne (by omega)]; exact (i8 i hi).2.1
  · rw [upd_ne (by omega)]; exact (i9 i hi).2.2.2.2
  · rw [upd_ne (by omega)]; exact (i10 i hi).2.2.2
  · rw [upd_ne (by omega)]; exact i12 i hi
theorem Iv_warmF {st0 : Nat → Int32} (h : Iv T st0 n nl nh) : ∀ i, i ≤ n → Iv T (warmF st0 n nl nh i) n nl nh
  | 0, _ => h
  | i + 1, hi => by
    have ih := Iv_warmF h i (by omega)
    have q1 := h.1.2.1
    have q2 := h.1.2.2.2.1
    have q3 := h.1.2.2.2.2.2.1
    have hr : rg (tmpF st0 n nl nh (warmF st0 n nl nh i) i) (-200000) 200000 := lim_rg (by decide) (by decide) (by decide) (by decide) (by decide)
    exact ih.upd (by omega) (fun _ _ => ⟨by omega, by omega, by omega, fun _ => hr⟩) (fun _ _ => ⟨fun _ _ _ => by omega, fun _ => by omega⟩) (fun _ _ => ⟨fun _ _ => by omega, fun _ => by omega, fun _ => by omega⟩)
theorem Iv_time (h : Iv T st n nl nh) (hT : T ≤ 2000000000) : Iv (T + 60) (upd st 0 (st 0 + st 1)) n nl nh ∧ (upd st 0 (st 0 + st 1) 0).toInt = (st 0).toInt + (st 1).toInt := by
  obtain ⟨⟨i1, i2, i3, i4, i5, i6, ⟨j1, j2, j3, j4, j5, j6, j7⟩, i8, i9, i10, i11⟩, i12⟩ := h
  have a1 := j1.1
  have a2 := j1.2
  have a3 := j2.1
  have a4 := j2.2
  have et : (st 0 + st 1).toInt = (st 0).toInt + (st 1).toInt := by
    rw [Int32.toInt_add, Int.bmod_eq_of_le (by omega) (by omega)]
  have e : ∀ k, k ≠ 0 → upd st 0 (st 0 + st 1) k = st k := fun k hk => upd_ne hk
  refine ⟨⟨⟨(e 12 (by omega)).trans i1, i2, (e 13 (by omega)).trans i3, i4, (e 14 (by omega)).trans i5, i6, ⟨?_, ?_, ?_, ?_, ?_, ?_, ?_⟩, fun i hi => ?_, fun i hi => ?_, fun i hi => ?_, ?_⟩, fun i hi => ?_⟩, by rw [upd_eq]; exact et⟩
  · rw [upd_eq]
    unfold rg
    omega
  · rw [e _ (by omega)]; exact j2
  · rw [e _ (by omega)]; exact j3
  · rw [e _ (by omega)]; exact j4
  · rw [e _ (by omega)]; exact j5
  · rw [e _ (by omega)]; exact j6
  · rw [e _ (by omega), e _ (by omega)]; exact j7
  · obtain ⟨c1, c2, c3, c4⟩ := i8 i hi
    unfold InvN
    rw [e (11 * i + 20) (by omega), e (11 * i + 21) (by omega), e (11 * i + 29) (by omega), e (11 * i + 30) (by omega), upd_eq, et]
    exact ⟨c1, c2, ⟨c3.1, by have := c3.2; omega⟩, c4⟩
  · have := i9 i hi
    unfold InvL at this ⊢
    rw [e _ (by omega), e _ (by omega), e _ (by omega), e _ (by omega), e _ (by omega)]
    exact this
  · have := i10 i hi
    unfold InvH at this ⊢
    rw [e _ (by omega), e _ (by omega), e _ (by omega), e _ (by omega)]
    exact this
  · rw [e _ (by omega), i11]
    exact congrArg nI (vcnt_eq n (fun j hj => e _ (by omega))).symm
  · rw [e _ (by omega)]
    exact i12 i hi
theorem recS_29 (s : Nat → Int32) {i : Nat} (hi : i < 12) : recS s i (11 * i + 29) = s (11 * i + 29) ∨ recS s i (11 * i + 29) = s (11 * i + 29) + 1 := by
  have e29 : loS s i (11 * i + 29) = s (11 * i + 29) := by unfold loS; rw [upd_ne (by omega), upd_ne (by omega)]
  unfold recS
  split
  · unfold viS
    split
    · refine Or.inr ?_
      rw [upd_ne (by omega), upd_ne (by omega), upd_ne (by omega), upd_eq, e29]
    · refine Or.inr ?_
      rw [upd_eq, e29]
  · exact Or.inl e29
/-- a step's records -/
theorem Iv_recF (h : Iv T st n nl nh) (hT : T ≤ 2000000000) (hv : ∀ j, j < n → rg (st (11 * j + 29)) 0 ((st 0).toInt - 1)) : RecI st n T ∧ Iv T (recF st n) n nl nh := by
  have hh := h
  obtain ⟨⟨i1, i2, i3, i4, i5, i6, ⟨j1, j2, j3, j4, j5, j6, j7⟩, i8, i9, i10, i11⟩, i12⟩ := hh
  have t1 := j1.1
  have t2 := j1.2
  have hR : RecI st n T := ⟨i11, fun j hj => ⟨(i8 j hj).2.2.2, (hv j hj).1, by have := (hv j hj).2; omega⟩, by omega, fun e => by
    rw [e] at t1
    exact absurd t1 (by decide)⟩
  refine ⟨hR, ?_⟩
  obtain ⟨a1, a2, a3⟩ := recF_ok i2 hR n (Nat.le_refl _)
  have same : ∀ k, ¬ (k = 16 ∨ (402 ≤ k ∧ k < 414) ∨ ∃ j, j < n ∧ 11 * j + 27 ≤ k ∧ k ≤ 11 * j + 30) → recF st n k = st k := fun k hk => (a3 k).resolve_left hk
  have g : ∀ k, k < 20 → k ≠ 16 → recF st n k = st k := fun k h1 h2 => same k (fun z => by rcases z with z | z | ⟨j, z1, z2, z3⟩ <;> omega)
  have gn : ∀ i, ∀ j, i < n → j < 7 → recF st n (11 * i + 20 + j) = st (11 * i + 20 + j) := fun i j hi hj => same _ (fun z => by rcases z with z | z | ⟨j, z1, z2, z3⟩ <;> omega)
  have gl : ∀ k, 152 ≤ k → k < 402 → recF st n k = st k := fun k h1 h2 => same k (fun z => by rcases z with z | z | ⟨j, z1, z2, z3⟩ <;> omega)
  have hvi : ∀ i, i ≤ n → ∀ j, j < n → rg (recF st i (11 * j + 29)) 0 (st 0).toInt ∧ (i ≤ j → recF st i (11 * j + 29) = st (11 * j + 29)) := by
    intro i
    induction i with
    | zero => intro _ j hj; exact ⟨⟨(hv j hj).1, by have := (hv j hj).2; show (st (11 * j + 29)).toInt ≤ _; omega⟩, fun _ => rfl⟩
    | succ i ih =>
      intro hi j hj
      obtain ⟨b1, b2⟩ := ih (by omega) j hj
      by_cases e : j = i
      · subst e
        refine ⟨?_, fun z => by omega⟩
        have b3 := b2 (Nat.le_refl _)
        have v1 := (hv j hj).1
        have v2 := (hv j hj).2
        rcases recS_29 (recF st j) (i := j) (by omega) with c | c
        · show rg (recS (recF st j) j _) _ _
          rw [c]
          exact b1
        · show rg (recS (recF st j) j _) _ _
          rw [c, b3]
          have : (st (11 * j + 29) + 1).toInt = (st (11 * j + 29)).toInt + 1 := by
            have z : (1 : Int32).toInt = 1 := rfl
            rw [Int32.toInt_add, z, Int.bmod_eq_of_le (by omega) (by omega)]
          unfold rg
          omega
      · have e2 : recF st (i + 1) (11 * j + 29) = recF st i (11 * j + 29) := by
          obtain ⟨c1, c2, c3⟩ := recF_ok i2 hR i (by omega)
          have c4 : recF st i 16 = nI (vcnt (recF st i) n) := c1
          have hkk := recS_ok (s := recF st i) (n := n) (i := i) (B := T) i2 (by omega) c1
          show recS (recF st i) i _ = _
          have e1 : ∀ k, k ≠ 16 → ¬ (402 ≤ k) → ¬ (11 * i + 27 ≤ k ∧ k ≤ 11 * i + 30) → recS (recF st i) i k = recF st i k := by
            intro k k1 k2 k3
            unfold recS
            have l : loS (recF st i) i k = recF st i k := by unfold loS; rw [upd_ne (by omega), upd_ne (by omega)]
            split
            · unfold viS
              split
              · rw [upd_ne k1, upd_ne (by omega), upd_ne (by omega), upd_ne (by omega), l]
              · rw [upd_ne (by omega), l]
            · exact l
          exact e1 _ (by omega) (by omega) (by omega)
        rw [e2]
        exact ⟨b1, fun z => b2 (by omega)⟩
  refine ⟨⟨(g 12 (by omega) (by omega)).trans i1, i2, (g 13 (by omega) (by omega)).trans i3, i4, (g 14 (by omega) (by omega)).trans i5, i6, ⟨?_, ?_, ?_, ?_, ?_, ?_, ?_⟩, fun i hi => ?_, fun i hi => ?_, fun i hi => ?_, a1⟩, fun i hi => ?_⟩
  · rw [g 0 (by omega) (by omega)]; exact j1
  · rw [g 1 (by omega) (by omega)]; exact j2
  · rw [g 2 (by omega) (by omega)]; exact j3
  · rw [g 8 (by omega) (by omega)]; exact j4
  · rw [g 9 (by omega) (by omega)]; exact j5
  · rw [g 10 (by omega) (by omega)]; exact j6
  · rw [g 11 (by omega) (by omega), g 10 (by omega) (by omega)]; exact j7
  · obtain ⟨c1, c2, c3, c4⟩ := i8 i hi
    have g0 : recF st n (11 * i + 20) = st (11 * i + 20) := gn i 0 hi (by omega)
    have g1 : recF st n (11 * i + 21) = st (11 * i + 21) := gn i 1 hi (by omega)
    unfold InvN
    rw [g0, g1, g 0 (by omega) (by omega)]
    exact ⟨c1, c2, (hvi n (Nat.le_refl _) i hi).1, a2 i hi⟩
  · have := i9 i hi
    unfold InvL at this ⊢
    rw [gl _ (by omega) (by omega), gl _ (by omega) (by omega), gl _ (by omega) (by omega), gl _ (by omega) (by omega), gl _ (by omega) (by omega)]
    exact this
  · have := i10 i hi
    unfold InvH at this ⊢
    rw [gl _ (by omega) (by omega), gl _ (by omega) (by omega), gl _ (by omega) (by omega), gl _ (by omega) (by omega)]
    exact this
  · rw [gl _ (by omega) (by omega)]
    exact i12 i hi
theorem Iv_car {R : Ru} (h : Iv T st n nl nh) (hR : RuC n nl nh R) : Iv T (carF nh R st) n nl nh := by
  obtain ⟨h1, h2, h3, h4, h5⟩ := hR
  have q1 := h.1.2.1
  have q2 := h.1.2.2.2.1
  have q3 := h.1.2.2.2.2.2.1
  unfold carF
  split
  · unfold actF
    split
    · rename_i e
      have := (h5 e).1
      exact h.upd (by omega) (fun _ _ => by omega) (fun _ _ => ⟨fun _ _ _ => by omega, fun _ => by omega⟩) (fun _ _ => ⟨fun _ _ => by omega, fun _ => by omega, fun _ => by omega⟩)
    · split
      · rename_i e
        have := h4 (Or.inl e)
        exact h.upd (by omega) (fun _ _ => by omega) (fun _ _ => ⟨fun _ _ _ => by omega, fun _ => Or.inr rfl⟩) (fun _ _ => ⟨fun _ _ => by omega, fun _ => by omega, fun _ => by omega⟩)
      · split
        · rename_i e
          have := h4 (Or.inr e)
          exact h.upd (by omega) (fun _ _ => by omega) (fun _ _ => ⟨fun _ _ _ => by omega, fun _ => Or.inl rfl⟩) (fun _ _ => ⟨fun _ _ => by omega, fun _ => by omega, fun _ => by omega⟩)
        · have h3' := h3 (by omega)
          refine h.upd (by omega) (fun _ _ => by omega) (fun _ _ => ⟨fun _ _ _ => by omega, fun _ => by omega⟩) (fun _ _ => ⟨fun _ _ => by omega, fun _ => by omega, fun _ => ?_⟩)
          have : R.2.1 = 0 ∨ R.2.1 = 1 ∨ R.2.1 = 2 := by omega
          rcases this with e | e | e <;> rw [e]
          · exact Or.inl rfl
          · exact Or.inr (Or.inl rfl)
          · exact Or.inr (Or.inr rfl)
  · exact h
end IVP
