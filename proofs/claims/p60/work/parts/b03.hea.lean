/-! THE STEP, LOOKED AT: heaters' states; heats' bounds -/
def ShO (st : Nat → Int32) (nh : Nat) : Prop := ∀ a b, a < nh → b < nh → ahd st a b → st (8 * a + 345) = 2 → st (8 * b + 345) = 1 → (st (8 * b + 339)).toInt < (st (8 * a + 339)).toInt
section STEPH
variable {T : Int} {st : Nat → Int32} {n nl nh : Nat}
theorem sw_st {h : Nat} (hI : Iv T st n nl nh) (hh : h < nh) : switchF st nh (8 * h + 345) = ((rnk st nh).foldl swS (w1F st nh, avlF st)).1 (8 * h + 345) := by
  rw [switchF_sp (rnk_len (fun h hh => (hI.1.2.2.2.2.2.2.2.2.2.1 h hh).2.2.1))]
  unfold chgF
  rw [upd_ne (by omega)]
  unfold spF
  rw [List.take_of_length_le (by rw [rnk_len (fun h hh => (hI.1.2.2.2.2.2.2.2.2.2.1 h hh).2.2.1)]; omega)]
theorem sw_17 (hI : Iv T st n nl nh) : switchF st nh 17 = ((rnk st nh).foldl swS (w1F st nh, avlF st)).1 17 := by
  rw [switchF_sp (rnk_len (fun h hh => (hI.1.2.2.2.2.2.2.2.2.2.1 h hh).2.2.1))]
  unfold chgF
  rw [upd_ne (by omega)]
  unfold spF
  rw [List.take_of_length_le (by rw [rnk_len (fun h hh => (hI.1.2.2.2.2.2.2.2.2.2.1 h hh).2.2.1)]; omega)]
theorem sw_sh (hI : Iv T st n nl nh) : ShO (switchF st nh) nh := by
  intro a b ha hb hab h2 h1
  have q3 := hI.1.2.2.2.2.2.1
  have e : ∀ k, k ≠ 11 → k ≠ 17 → (∀ j, j < nh → k ≠ 8 * j + 344 ∧ k ≠ 8 * j + 345) → switchF st nh k = st k := fun k k1 k2 k3 => switchF_ne k1 k2 k3
  have hab' : ahd st a b := by
    unfold ahd at hab ⊢
    rw [e _ (by omega) (by omega) (fun j hj => by omega), e _ (by omega) (by omega) (fun j hj => by omega)] at hab
    exact hab
  rw [sw_st hI ha] at h2
  rw [sw_st hI hb] at h1
  rw [e _ (by omega) (by omega) (fun j hj => by omega), e _ (by omega) (by omega) (fun j hj => by omega)]
  have hp : ∀ h, h < nh → rg (st (8 * h + 342)) 0 9 := fun h hh => (hI.1.2.2.2.2.2.2.2.2.2.1 h hh).2.2.1
  have w339 : ∀ j, w1F st nh (8 * j + 339) = st (8 * j + 339) := fun j => w1F_ne st nh (fun i _ => by omega)
  have := fold_sh (st := st) (rnk st nh) (w1F st nh, avlF st) (rnk_nodup st nh) (rnk_ahd st nh) (by
    show 0 ≤ (avlF st).toInt
    unfold avlF
    rw [lmax_i]
    have : (0 : Int64).toInt = 0 := by decide
    omega) (fun h hh => ⟨w1F_st st nh h (rnk_lt hh), by
      show 0 ≤ (w1F st nh (8 * h + 339)).toInt
      rw [w339]
      exact (hI.1.2.2.2.2.2.2.2.2.2.1 h (rnk_lt hh)).2.1.1⟩) a (rnk_mem (hp a ha) ha) b (rnk_mem (hp b hb) hb) hab' h2 h1
  change (w1F st nh (8 * b + 339)).toInt < (w1F st nh (8 * a + 339)).toInt at this
  rw [w339, w339] at this
  exact this
theorem w1_344 {h : Nat} (hh : h < nh) (h8 : nh ≤ 8) (ho : own st (8 * h + 338) < 12) : w1F st nh (8 * h + 344) = wshF st (own st (8 * h + 338)) h := by
  have key : ∀ m, h < m → m ≤ 8 → own st (8 * h + 338) < 12 ∨ True → w1F st m (8 * h + 344) = wshF (w1F st h) (own (w1F st h) (8 * h + 338)) h := by
    intro m
    induction m with
    | zero => intro h0; omega
    | succ m ih =>
      intro hm h8 _
      show w1S (w1F st m) m (8 * h + 344) = _
      unfold w1S
      by_cases e : h = m
      · subst e
        rw [upd_ne (by omega), upd_eq]
      · rw [upd_ne (by omega), upd_ne (by omega)]
        exact ih (by omega) (by omega) (Or.inr trivial)
  rw [key nh hh h8 (Or.inr trivial)]
  have ne : ∀ k, (∀ j, j < h → k ≠ 8 * j + 344 ∧ k ≠ 8 * j + 345) → w1F st h k = st k := fun k hk => w1F_ne st h hk
  rw [own_eq (ne (8 * h + 338) (fun j hj => by omega))]
  unfold wshF
  rw [ne (11 * own st (8 * h + 338) + 21) (fun j hj => by omega), ne (8 * h + 343) (fun j hj => by omega), ne (8 * h + 340) (fun j hj => by omega), ne (8 * h + 341) (fun j hj => by omega), ne (8 * h + 344) (fun j hj => by omega)]
/-- on or shed where the mode is on; off where it is off -/
theorem sw_md {h : Nat} (hI : Iv T st n nl nh) (hh : h < nh) : (st (8 * h + 343) = 1 → ¬ switchF st nh (8 * h + 345) = 0) ∧ (st (8 * h + 343) = 2 → switchF st nh (8 * h + 345) = 0) := by
  have hp : ∀ h, h < nh → rg (st (8 * h + 342)) 0 9 := fun h hh => (hI.1.2.2.2.2.2.2.2.2.2.1 h hh).2.2.1
  have q3 := hI.1.2.2.2.2.2.1
  have w := fold_w (rnk st nh) (w1F st nh, avlF st) (rnk_nodup st nh) (fun h hh => w1F_st st nh h (rnk_lt hh)) h (rnk_mem (hp h hh) hh)
  rw [← sw_st hI hh] at w
  have e344 : (w1F st nh, avlF st).1 (8 * h + 344) = wshF st (own st (8 * h + 338)) h := w1_344 hh q3 (by
    obtain ⟨⟨o, ho, eo⟩, -⟩ := hI.1.2.2.2.2.2.2.2.2.2.1 h hh
    have q1 := hI.1.2.1
    unfold own
    rw [eo, nIc (by omega)]
    omega)
  rw [e344] at w
  refine ⟨fun e z => ?_, fun e => w.1 ?_⟩
  · have := w.2 (by
      unfold wshF
      rw [e, if_neg (by decide), if_pos rfl]
      decide)
    rw [z] at this
    exact absurd this (by decide)
  · unfold wshF
    rw [e, if_neg (by decide), if_neg (by decide)]
theorem sw_cnt (hI : Iv T st n nl nh) : switchF st nh 17 = st 17 + shF (switchF st nh) nh := by
  have f := fold_17 (nh := nh) (rnk st nh) (w1F st nh, avlF st) (rnk_nodup st nh) (fun h hh => ⟨rnk_lt hh, w1F_st st nh h (rnk_lt hh)⟩)
  rw [← sw_17 hI, shF_eq (s := switchF st nh) (s' := ((rnk st nh).foldl swS (w1F st nh, avlF st)).1) nh (fun h hh => (sw_st hI hh).symm)] at f
  have z : ∀ m, m ≤ nh → shF (w1F st nh) m = 0 := by
    intro m
    induction m with
    | zero => intro _; rfl
    | succ m ih =>
      intro hm
      show shF (w1F st nh) m + _ = 0
      rw [ih (by omega), w1F_st st nh m (by omega)]
      rfl
  have z2 : shF (w1F st nh, avlF st).1 nh = 0 := z nh (Nat.le_refl _)
  rw [z2, Int32.add_zero] at f
  rw [f]
  have : (w1F st nh, avlF st).1 17 = st 17 := w1F_ne st nh (fun j _ => by omega)
  rw [this]
end STEPH
theorem l64m {x y : Int64} {A B : Int} (hx : 0 ≤ x.toInt ∧ x.toInt ≤ A) (hy : 0 ≤ y.toInt ∧ y.toInt ≤ B) (h : A * B ≤ 9223372036854775807) : (x * y).toInt = x.toInt * y.toInt ∧ 0 ≤ (x * y).toInt ∧ (x * y).toInt ≤ A * B := by
  have p0 := Int.mul_nonneg hx.1 hy.1
  have p1 : x.toInt * y.toInt ≤ A * B := Int.mul_le_mul hx.2 hy.2 hy.1 (by omega)
  have e : (x * y).toInt = x.toInt * y.toInt := by
    rw [Int64.toInt_mul, Int.bmod_eq_of_le (by omega) (by omega)]
  rw [e]
  exact ⟨rfl, p0, p1⟩
theorem l64d {x y : Int64} {A B : Int} (hx : 0 ≤ x.toInt ∧ x.toInt ≤ A) (hy : y.toInt = B) (hB : 0 < B) : (x / y).toInt = x.toInt / B ∧ 0 ≤ (x / y).toInt ∧ (x / y).toInt ≤ A / B := by
  have b2 := Int64.toInt_lt x
  have e : (x / y).toInt = x.toInt / B := by
    rw [Int64.toInt_div, hy, Int.tdiv_eq_ediv_of_nonneg hx.1]
    have h0 : 0 ≤ x.toInt / B := Int.ediv_nonneg hx.1 (by omega)
    have h1 : x.toInt / B ≤ x.toInt := Int.ediv_le_self _ hx.1
    exact Int.bmod_eq_of_le (by omega) (by omega)
  rw [e]
  exact ⟨rfl, Int.ediv_nonneg hx.1 (by omega), Int.ediv_le_ediv hB hx.2⟩
theorem toLr {x : Int32} {a b : Int} (h : rg x a b) : a ≤ (Int32.toInt64 x).toInt ∧ (Int32.toInt64 x).toInt ≤ b := by
  rw [Int32.toInt_toInt64]
  exact h
theorem l64a {x y : Int64} {a b c e : Int} (hx : a ≤ x.toInt ∧ x.toInt ≤ b) (hy : c ≤ y.toInt ∧ y.toInt ≤ e) (h1 : -9223372036854775808 ≤ a + c) (h2 : b + e ≤ 9223372036854775807) : (x + y).toInt = x.toInt + y.toInt ∧ a + c ≤ (x + y).toInt ∧ (x + y).toInt ≤ b + e := by
  have e1 : (x + y).toInt = x.toInt + y.toInt := by
    rw [Int64.toInt_add, Int.bmod_eq_of_le (by omega) (by omega)]
  omega
theorem l64s {x y : Int64} {a b c e : Int} (hx : a ≤ x.toInt ∧ x.toInt ≤ b) (hy : c ≤ y.toInt ∧ y.toInt ≤ e) (h1 : -9223372036854775808 ≤ a - e) (h2 : b - c ≤ 9223372036854775807) : (x - y).toInt = x.toInt - y.toInt ∧ a - e ≤ (x - y).toInt ∧ (x - y).toInt ≤ b - c := by
  have e1 : (x - y).toInt = x.toInt - y.toInt := by
    rw [Int64.toInt_sub, Int.bmod_eq_of_le (by omega) (by omega)]
  omega
/-- the areas of a node are good -/
def AO (st : Nat → Int32) (nl i : Nat) : Prop := rg (st (11 * i + 22)) 0 10000 ∧ rg (st (11 * i + 21)) (-200000) 200000 ∧ ∀ l, l < nl → rg (st (7 * l + 297)) 0 10000 ∧ rg (st (7 * l + 301)) 0 1000
theorem i32m {x y : Int32} {A B : Int} (hx : rg x 0 A) (hy : rg y 0 B) (h : A * B ≤ 2147483647) : (x * y).toInt = x.toInt * y.toInt ∧ rg (x * y) 0 (A * B) := by
  have p0 := Int.mul_nonneg hx.1 hy.1
  have p1 : x.toInt * y.toInt ≤ A * B := Int.mul_le_mul hx.2 hy.2 hy.1 (by have := hx.1; have := hx.2; omega)
  have e : (x * y).toInt = x.toInt * y.toInt := by
    rw [Int32.toInt_mul, Int.bmod_eq_of_le (by omega) (by omega)]
  unfold rg
  rw [e]
  exact ⟨rfl, p0, p1⟩
theorem i32d {x y : Int32} {A B : Int} (hx : rg x 0 A) (hy : y.toInt = B) (hB : 0 < B) : (x / y).toInt = x.toInt / B ∧ rg (x / y) 0 (A / B) := by
  have b2 := Int32.toInt_lt x
  have e : (x / y).toInt = x.toInt / B := by
    rw [Int32.toInt_div, hy, Int.tdiv_eq_ediv_of_nonneg hx.1]
    have h0 : 0 ≤ x.toInt / B := Int.ediv_nonneg hx.1 (by omega)
    have h1 : x.toInt / B ≤ x.toInt := Int.ediv_le_self _ hx.1
    exact Int.bmod_eq_of_le (by omega) (by omega)
  unfold rg
  rw [e]
  exact ⟨rfl, Int.ediv_nonneg hx.1 (by omega), Int.ediv_le_ediv hB hx.2⟩
theorem area_rg {st : Nat → Int32} {nl i : Nat} (h : AO st nl i) (h6 : nl ≤ 6) : ∀ m, m ≤ nl → 0 ≤ (areaF st i m).toInt ∧ (areaF st i m).toInt ≤ 10000 + 10000 * (m : Int)
  | 0, _ => by
    have := toLr h.1
    exact ⟨this.1, by have := this.2; show (Int32.toInt64 _).toInt ≤ _; omega⟩
  | m + 1, hm => by
    have ih := area_rg h h6 m (by omega)
    rw [areaF_s]
    obtain ⟨h1, h2⟩ := h.2.2 m (by omega)
    have pm := (i32m h1 h2 (by decide)).2
    have pd := toLr (i32d pm (y := 1000) (B := 1000) (by decide) (by decide)).2
    by_cases c : st (7 * m + 296) = nI i
    · rw [if_pos c]
      have := l64a ih pd (by omega) (by omega)
      omega
    · rw [if_neg c, Int64.add_zero]
      omega
