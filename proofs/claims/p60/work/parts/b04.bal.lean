/-! HEATS: bounds and sums -/
theorem em_rg {st : Nat → Int32} {nl i : Nat} (h : AO st nl i) (h6 : nl ≤ 6) : 0 ≤ (emF st nl i).toInt ∧ (emF st nl i).toInt ≤ 20000000 := by
  have ha := area_rg h h6 nl (Nat.le_refl _)
  have hk : 0 ≤ (kelF (st (11 * i + 21))).toInt ∧ (kelF (st (11 * i + 21))).toInt ≤ 473 := by
    have ht := h.2.1
    have e := i32a ht (y := 273150) (c := 273150) (e := 273150) ⟨by decide, by decide⟩ (by omega) (by omega)
    have e2 : (273150 : Int32).toInt = 273150 := by decide
    have t1 := ht.1
    have t2 := ht.2
    have := (i32d (x := st (11 * i + 21) + 273150) (y := 1000) (A := 473150) (B := 1000) ⟨by omega, by omega⟩ (by decide) (by decide)).2
    exact toLr this
  unfold emF emA
  have m1 := l64m (A := 70000) ⟨ha.1, by omega⟩ hk (by decide)
  have m2 := l64m (A := 70000 * 473) m1.2 hk (by decide)
  have m3 := l64m (A := 70000 * 473 * 473) m2.2 hk (by decide)
  have m4 := l64m (A := 70000 * 473 * 473 * 473) m3.2 hk (by decide)
  have m5 := l64m (y := 567) (A := 70000 * 473 * 473 * 473 * 473) (B := 567) m4.2 ⟨by decide, by decide⟩ (by decide)
  have m6 := l64d (y := 100000000000) (B := 100000000000) m5.2 (by decide) (by decide)
  refine ⟨m6.2.1, ?_⟩
  have := m6.2.2
  omega
/-- what the sun and the planet give -/
def SO (st : Nat → Int32) : Prop := rg (st 5) 0 10000 ∧ rg (st 6) 0 100 ∧ rg (st 7) 0 10000
theorem ab_rg {st : Nat → Int32} {i : Nat} (hs : SO st) (h1 : rg (st (11 * i + 22)) 0 10000) (h2 : rg (st (11 * i + 23)) 0 10000) : 0 ≤ (absF st i).toInt ∧ (absF st i).toInt ≤ 40000000 := by
  have m1 := l64m (toLr h1) (toLr hs.2.2) (by decide)
  have m2 := l64d (y := 10) (B := 10) m1.2 (by decide) (by decide)
  have m3 := l64m (toLr h2) (toLr hs.1) (by decide)
  have m4 := l64d (y := 10) (B := 10) m3.2 (by decide) (by decide)
  have m5 := l64m m3.2 (toLr hs.2.1) (by decide)
  have m6 := l64d (y := 1000) (B := 1000) m5.2 (by decide) (by decide)
  have m7 := l64a m4.2 m6.2 (by decide) (by decide)
  have m8 := l64a m2.2 m7.2 (by decide) (by decide)
  unfold absF
  split
  · have := m2.2.1
    have := m2.2.2
    exact ⟨by omega, by omega⟩
  · have := m8.2.1
    have := m8.2.2
    exact ⟨by omega, by omega⟩
theorem flow_i {c x y : Int32} (hx : rg x (-200000) 200000) (hy : rg y (-200000) 200000) : (flowF c x y).toInt = (c.toInt * (y.toInt - x.toInt)).tdiv 1000 := by
  unfold flowF
  have es := i32s hy hx (by omega) (by omega)
  have c1 := Int32.le_toInt c
  have c2 := Int32.toInt_lt c
  have x1 := hx.1
  have x2 := hx.2
  have y1 := hy.1
  have y2 := hy.2
  have hm : -1000000000000000 ≤ c.toInt * (y.toInt - x.toInt) ∧ c.toInt * (y.toInt - x.toInt) ≤ 1000000000000000 := by
    have hab : (c.toInt * (y.toInt - x.toInt)).natAbs ≤ 2147483648 * 400000 := by
      rw [Int.natAbs_mul]
      exact Nat.mul_le_mul (by omega) (by omega)
    omega
  have hd : -1000000000000000 ≤ (c.toInt * (y.toInt - x.toInt)).tdiv 1000 ∧ (c.toInt * (y.toInt - x.toInt)).tdiv 1000 ≤ 1000000000000000 := by
    have := Int.natAbs_tdiv_le_natAbs (c.toInt * (y.toInt - x.toInt)) 1000
    omega
  rw [Int64.toInt_div, Int64.toInt_mul, Int32.toInt_toInt64, Int32.toInt_toInt64, es, Int.bmod_eq_of_le (n := c.toInt * (y.toInt - x.toInt)) (by omega) (by omega)]
  have e : (1000 : Int64).toInt = 1000 := by decide
  rw [e]
  exact Int.bmod_eq_of_le (by omega) (by omega)
theorem flow_b {c x y : Int32} (hx : rg x (-200000) 200000) (hy : rg y (-200000) 200000) : -1000000000000000 ≤ (flowF c x y).toInt ∧ (flowF c x y).toInt ≤ 1000000000000000 := by
  rw [flow_i hx hy]
  have c1 := Int32.le_toInt c
  have c2 := Int32.toInt_lt c
  have x1 := hx.1
  have x2 := hx.2
  have y1 := hy.1
  have y2 := hy.2
  have hab : (c.toInt * (y.toInt - x.toInt)).natAbs ≤ 2147483648 * 400000 := by
    rw [Int.natAbs_mul]
    exact Nat.mul_le_mul (by omega) (by omega)
  have := Int.natAbs_tdiv_le_natAbs (c.toInt * (y.toInt - x.toInt)) 1000
  omega
theorem flow_as {c x y : Int32} (hx : rg x (-200000) 200000) (hy : rg y (-200000) 200000) : flowF c x y + flowF c y x = 0 := by
  have e1 := flow_i (c := c) hx hy
  have e2 := flow_i (c := c) hy hx
  have b1 := flow_b (c := c) hx hy
  have e3 : c.toInt * (x.toInt - y.toInt) = -(c.toInt * (y.toInt - x.toInt)) := by
    rw [← Int.mul_neg]
    congr 1
    omega
  rw [e3, Int.neg_tdiv] at e2
  apply Int64.toInt_inj.mp
  have z : (0 : Int64).toInt = 0 := by decide
  rw [Int64.toInt_add, e2, ← e1, z]
  have : (flowF c x y).toInt + -(flowF c x y).toInt = 0 := by omega
  rw [this]
  rfl
theorem flow_zz {c x : Int32} : flowF c x x = 0 := by
  unfold flowF
  rw [Int32.sub_self]
  show Int32.toInt64 c * 0 / 1000 = 0
  rw [Int64.mul_zero]
  rfl
theorem cd_s (st : Nat → Int32) (i j : Nat) : cdF st i (j + 1) = cdF st i j + flowF (st (12 * i + j + 152)) (st (11 * i + 21)) (st (11 * j + 21)) := rfl
theorem cd_rg {st : Nat → Int32} {i n : Nat} (h12 : n ≤ 12) (hi : i < n) (ht : ∀ j, j < n → rg (st (11 * j + 21)) (-200000) 200000) : ∀ m, m ≤ n → -1000000000000000 * (m : Int) ≤ (cdF st i m).toInt ∧ (cdF st i m).toInt ≤ 1000000000000000 * (m : Int)
  | 0, _ => by
    show -1000000000000000 * ((0 : Nat) : Int) ≤ (0 : Int64).toInt ∧ (0 : Int64).toInt ≤ 1000000000000000 * ((0 : Nat) : Int)
    have z : (0 : Int64).toInt = 0 := by decide
    omega
  | m + 1, hm => by
    have ih := cd_rg h12 hi ht m (by omega)
    have b := flow_b (c := st (12 * i + m + 152)) (ht i hi) (ht m (by omega))
    rw [cd_s]
    have := l64a ih b (by omega) (by omega)
    omega
/-- the heat led to all of the first m -/
def cdT (st : Nat → Int32) (n : Nat) : Nat → Int64
  | 0 => 0
  | i + 1 => cdT st n i + cdF st i n
theorem cdT_m {st : Nat → Int32} {n : Nat} (h12 : n ≤ 12) (ht : ∀ j, j < n → rg (st (11 * j + 21)) (-200000) 200000) (hs : ∀ i j, i < n → j < n → st (12 * i + j + 152) = st (12 * j + i + 152)) : cdT st n n = 0 := by
  have key : ∀ m, m ≤ n → cdT st m m = 0 := by
    intro m
    induction m with
    | zero => intro _; rfl
    | succ m ih =>
      intro hm
      have step : ∀ q, q ≤ m → cdT st (m + 1) q + cdF st m q = cdT st m q := by
        intro q
        induction q with
        | zero => intro _; rfl
        | succ q ihq =>
          intro hq
          have a := ihq (by omega)
          show cdT st (m + 1) q + cdF st q (m + 1) + cdF st m (q + 1) = cdT st m q + cdF st q m
          rw [cd_s, cd_s, hs q m (by omega) (by omega)]
          have f := flow_as (c := st (12 * m + q + 152)) (ht q (by omega)) (ht m (by omega))
          grind
      have e := step m (Nat.le_refl _)
      show cdT st (m + 1) m + cdF st m (m + 1) = 0
      rw [cd_s, flow_zz, Int64.add_zero, e]
      exact ih (by omega)
  exact key n (Nat.le_refl _)
theorem ht_rg {st : Nat → Int32} {i nh : Nat} (h8 : nh ≤ 8) (hp : ∀ h, h < nh → rg (st (8 * h + 339)) 0 100000) : ∀ m, m ≤ nh → 0 ≤ (htF st i 0 m).toInt ∧ (htF st i 0 m).toInt ≤ 100000 * (m : Int)
  | 0, _ => by
    show 0 ≤ (0 : Int64).toInt ∧ (0 : Int64).toInt ≤ 100000 * ((0 : Nat) : Int)
    have z : (0 : Int64).toInt = 0 := by decide
    omega
  | m + 1, hm => by
    have ih := ht_rg h8 hp m (by omega) (i := i)
    rw [htF_s]
    split
    · have := l64a ih (toLr (hp m (by omega))) (by omega) (by omega)
      omega
    · rw [Int64.add_zero]
      omega
/-- the heat that heaters give to the first m -/
def htS (st : Nat → Int32) (nh : Nat) : Nat → Int64
  | 0 => 0
  | i + 1 => htS st nh i + htF st i 0 nh
theorem htS_m {st : Nat → Int32} {n nh : Nat} (h12 : n ≤ 12) (ho : ∀ h, h < nh → ∃ o, o < n ∧ st (8 * h + 338) = nI o) : ∀ m, m ≤ nh → htS st m n = upL st m
  | 0, _ => by
    have key : ∀ q, htS st 0 q = 0 := by
      intro q
      induction q with
      | zero => rfl
      | succ q ih =>
        show htS st 0 q + 0 = 0
        rw [ih]
        rfl
    exact key n
  | m + 1, hm => by
    have ih := htS_m h12 ho m (by omega)
    obtain ⟨o, ho1, ho2⟩ := ho m (by omega)
    have key : ∀ q, q ≤ n → htS st (m + 1) q = htS st m q + (if o < q ∧ st (8 * m + 345) = 1 then Int32.toInt64 (st (8 * m + 339)) else 0) := by
      intro q
      induction q with
      | zero =>
        intro _
        rw [if_neg (fun z => by omega)]
        rfl
      | succ q ihq =>
        intro hq
        show htS st (m + 1) q + htF st q 0 (m + 1) = htS st m q + htF st q 0 m + _
        rw [ihq (by omega), htF_s, ho2]
        by_cases c : st (8 * m + 345) = 1
        · by_cases e : o = q
          · subst e
            rw [if_neg (show ¬ (o < o ∧ st (8 * m + 345) = 1) from fun z => by omega), if_pos ⟨rfl, c⟩, if_pos ⟨by omega, c⟩]
            grind
          · have ne : ¬ (nI o = nI q ∧ st (8 * m + 345) = 1) := fun z => e (by
              have := congrArg Int32.toInt z.1
              rw [nI_toInt (by omega), nI_toInt (by omega)] at this
              omega)
            rw [if_neg ne]
            by_cases l : o < q
            · rw [if_pos ⟨l, c⟩, if_pos ⟨by omega, c⟩]
              grind
            · rw [if_neg (fun z => l z.1), if_neg (fun z => by omega)]
              grind
        · rw [if_neg (fun z => c z.2), if_neg (fun z => c z.2), if_neg (fun z => c z.2)]
          grind
    rw [key n (Nat.le_refl _), ih]
    show _ = upL st m + _
    by_cases c : st (8 * m + 345) = 1
    · rw [if_pos ⟨ho1, c⟩, if_pos c]
    · rw [if_neg (fun z => c z.2), if_neg c]
/-- nothing is lost between a node's heats -/
theorem net_ok {l h a c e : Int64} (hl : 0 ≤ l.toInt ∧ l.toInt ≤ 1000000) (hh : 0 ≤ h.toInt ∧ h.toInt ≤ 800000) (ha : 0 ≤ a.toInt ∧ a.toInt ≤ 40000000) (hc : -12000000000000000 ≤ c.toInt ∧ c.toInt ≤ 12000000000000000) (he : 0 ≤ e.toInt ∧ e.toInt ≤ 20000000) : ¬ (l + h + a + c - e) < (l + a + c - e) := by
  have a1 := l64a hl hh (by decide) (by decide)
  have a2 := l64a a1.2 ha (by decide) (by decide)
  have a3 := l64a a2.2 hc (by decide) (by decide)
  have a4 := l64s a3.2 he (by decide) (by decide)
  have b2 := l64a hl ha (by decide) (by decide)
  have b3 := l64a b2.2 hc (by decide) (by decide)
  have b4 := l64s b3.2 he (by decide) (by decide)
  rw [Int64.lt_iff_toInt_lt]
  omega
