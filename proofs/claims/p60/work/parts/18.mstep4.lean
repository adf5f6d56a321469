theorem vcnt_le (st : Nat → Int32) : ∀ n, vcnt st n ≤ n
  | 0 => Nat.le_refl _
  | n + 1 => by
    have := vcnt_le st n
    unfold vcnt
    split <;> omega
theorem vcnt_eq {s s' : Nat → Int32} : ∀ n, (∀ j, j < n → s' (11 * j + 29) = s (11 * j + 29)) → vcnt s' n = vcnt s n
  | 0, _ => rfl
  | n + 1, h => by
    show vcnt s' n + _ = vcnt s n + _
    rw [vcnt_eq n (fun j hj => h j (by omega)), h n (by omega)]
theorem vcnt_one {s s' : Nat → Int32} {i : Nat} : ∀ n, (∀ j, j < n → j ≠ i → s' (11 * j + 29) = s (11 * j + 29)) → i < n → vcnt s' n + (if s (11 * i + 29) = 0 then 0 else 1) = vcnt s n + (if s' (11 * i + 29) = 0 then 0 else 1)
  | 0, _, h => by omega
  | n + 1, h, hn => by
    show vcnt s' n + _ + _ = vcnt s n + _ + _
    by_cases hi : i = n
    · subst hi
      rw [vcnt_eq i (fun j hj => h j (by omega) (by omega))]
      omega
    · rw [h n (by omega) (Ne.symm hi)]
      have := vcnt_one n (fun j hj => h j (by omega)) (by omega)
      omega
theorem vcnt_lt {s : Nat → Int32} {i : Nat} (h0 : s (11 * i + 29) = 0) : ∀ n, i < n → vcnt s n < n := by
  intro n
  induction n with
  | zero => intro h; omega
  | succ n ih =>
    intro hn
    show vcnt s n + _ < n + 1
    by_cases hi : i = n
    · subst hi
      rw [if_pos h0]
      have := vcnt_le s i
      omega
    · have := ih (by omega)
      split <;> omega
theorem inc_ne0 {x : Int32} {B : Int} (h : rg x 0 B) (hB : B < 2147483647) : ¬ x + 1 = 0 := by
  intro e
  have h1 : (x + 1).toInt = 0 := by rw [e]; rfl
  have h2 : (x + 1).toInt = x.toInt + 1 := by
    rw [Int32.toInt_add]
    have : (1 : Int32).toInt = 1 := rfl
    rw [this]
    have := h.1
    have := h.2
    apply Int.bmod_eq_of_le <;> omega
  have := h.1
  omega
def recT (n k : Nat) : Prop := k = 16 ∨ (402 ≤ k ∧ k < 414) ∨ ∃ j, j < n ∧ 11 * j + 27 ≤ k ∧ k ≤ 11 * j + 30
theorem upd_c {s : Nat → Int32} {k j : Nat} {x y : Int32} (h : (j = k ∧ x = y) ∨ (j ≠ k ∧ s j = y)) : upd s k x j = y := by
  rcases h with ⟨rfl, rfl⟩ | ⟨h1, h2⟩
  · exact upd_eq
  · rw [upd_ne h1]; exact h2
/-- what one node's records do -/
theorem recS_ok {s : Nat → Int32} {n i : Nat} {B : Int} (h12 : n ≤ 12) (hi : i < n) (hv : s 16 = nI (vcnt s n)) (hiff : s (11 * i + 29) = 0 ↔ s (11 * i + 30) = -1) (hr : rg (s (11 * i + 29)) 0 B) (hB : B < 2147483647) (h0 : ¬ s 0 = -1) :
    recS s i 16 = nI (vcnt (recS s i) n) ∧ (recS s i (11 * i + 29) = 0 ↔ recS s i (11 * i + 30) = -1) ∧ (∀ k, k = 16 ∨ (402 ≤ k ∧ k < 414) ∨ (11 * i + 27 ≤ k ∧ k ≤ 11 * i + 30) ∨ recS s i k = s k) := by
  have hlo : ∀ k, k ≠ 11 * i + 27 → k ≠ 11 * i + 28 → loS s i k = s k := fun k h1 h2 => by unfold loS; rw [upd_ne h2, upd_ne h1]
  have hlov : vcnt (loS s i) n = vcnt s n := by
    have := vcnt_one (s := s) (s' := loS s i) (i := i) n (fun j _ hj => hlo _ (by omega) (by omega)) hi
    rw [hlo (11 * i + 29) (by omega) (by omega)] at this
    omega
  by_cases ho : outF s i = true
  · have er : recS s i = viS (loS s i) i := if_pos ho
    have e29 : loS s i (11 * i + 29) = s (11 * i + 29) := hlo _ (by omega) (by omega)
    have e30 : loS s i (11 * i + 30) = s (11 * i + 30) := hlo _ (by omega) (by omega)
    have e16 : loS s i 16 = s 16 := hlo _ (by omega) (by omega)
    have e0 : loS s i 0 = s 0 := hlo _ (by omega) (by omega)
    have eo : own (loS s i) 16 = vcnt s n := own_of (e16.trans hv) (by have := vcnt_le s n; omega)
    have hinc := inc_ne0 hr hB
    by_cases hf : loS s i (11 * i + 30) = -1
    · have ev : viS (loS s i) i = upd (upd (upd (upd (loS s i) (11 * i + 29) (s (11 * i + 29) + 1)) (11 * i + 30) (s 0)) (vcnt s n + 402) (nI i)) 16 (nI (vcnt s n + 1)) := by
        unfold viS
        rw [if_pos hf, e29, e0, eo]
      have hz : s (11 * i + 29) = 0 := hiff.mpr (e30 ▸ hf)
      have hlt := vcnt_lt hz n hi
      have f29 : recS s i (11 * i + 29) = s (11 * i + 29) + 1 := by rw [er, ev, upd_ne (by omega), upd_ne (by omega), upd_ne (by omega), upd_eq]
      have f30 : recS s i (11 * i + 30) = s 0 := by rw [er, ev, upd_ne (by omega), upd_ne (by omega), upd_eq]
      have hk : ∀ k, k = 16 ∨ (402 ≤ k ∧ k < 414) ∨ (11 * i + 27 ≤ k ∧ k ≤ 11 * i + 30) ∨ recS s i k = s k := by
        intro k
        by_cases hA : k = 16 ∨ (402 ≤ k ∧ k < 414) ∨ (11 * i + 27 ≤ k ∧ k ≤ 11 * i + 30)
        · rcases hA with h | h | h
          · exact Or.inl h
          · exact Or.inr (Or.inl h)
          · exact Or.inr (Or.inr (Or.inl h))
        · refine Or.inr (Or.inr (Or.inr ?_))
          rw [er, ev, upd_ne (by omega), upd_ne (by omega), upd_ne (by omega), upd_ne (by omega), hlo k (by omega) (by omega)]
      refine ⟨?_, ?_, hk⟩
      · have hc := vcnt_one (s := s) (s' := recS s i) (i := i) n (fun j hjn hj => by
          rcases hk (11 * j + 29) with h | h | h | h
          · omega
          · omega
          · omega
          · exact h) hi
        rw [if_pos hz, f29, if_neg hinc] at hc
        rw [er, ev, upd_eq, ← ev, ← er]
        exact congrArg nI (by omega)
      · rw [f29, f30]
        exact ⟨fun z => absurd z hinc, fun z => absurd z h0⟩
    · have ev : viS (loS s i) i = upd (loS s i) (11 * i + 29) (s (11 * i + 29) + 1) := by
        unfold viS
        rw [if_neg hf, e29]
      have hz : ¬ s (11 * i + 29) = 0 := fun z => hf (e30.trans (hiff.mp z))
      have f29 : recS s i (11 * i + 29) = s (11 * i + 29) + 1 := by rw [er, ev, upd_eq]
      have hk : ∀ k, k ≠ 11 * i + 27 → k ≠ 11 * i + 28 → k ≠ 11 * i + 29 → recS s i k = s k := fun k h1 h2 h3 => by rw [er, ev, upd_ne h3, hlo k h1 h2]
      refine ⟨?_, ?_, fun k => ?_⟩
      · have hc := vcnt_one (s := s) (s' := recS s i) (i := i) n (fun j _ hj => hk _ (by omega) (by omega) (by omega)) hi
        rw [if_neg hz, f29, if_neg hinc] at hc
        rw [hk 16 (by omega) (by omega) (by omega), hv]
        exact congrArg nI (by omega)
      · rw [f29, hk (11 * i + 30) (by omega) (by omega) (by omega)]
        exact ⟨fun z => absurd z hinc, fun z => absurd (e30.trans z) hf⟩
      · by_cases hA : 11 * i + 27 ≤ k ∧ k ≤ 11 * i + 30
        · exact Or.inr (Or.inr (Or.inl hA))
        · exact Or.inr (Or.inr (Or.inr (hk k (by omega) (by omega) (by omega))))
  · have er : recS s i = loS s i := if_neg ho
    refine ⟨?_, ?_, fun k => ?_⟩
    · rw [er, hlo 16 (by omega) (by omega), hlov]
      exact hv
    · rw [er, hlo _ (by omega) (by omega), hlo _ (by omega) (by omega)]
      exact hiff
    · by_cases hA : 11 * i + 27 ≤ k ∧ k ≤ 11 * i + 30
      · exact Or.inr (Or.inr (Or.inl hA))
      · exact Or.inr (Or.inr (Or.inr (by rw [er, hlo k (by omega) (by omega)])))
/-- the records' premises -/
def RecI (st : Nat → Int32) (n : Nat) (B : Int) : Prop := st 16 = nI (vcnt st n) ∧ (∀ j, j < n → (st (11 * j + 29) = 0 ↔ st (11 * j + 30) = -1) ∧ rg (st (11 * j + 29)) 0 B) ∧ B < 2147483647 ∧ ¬ st 0 = -1
theorem recF_ok {st : Nat → Int32} {n : Nat} {B : Int} (h12 : n ≤ 12) (h : RecI st n B) : ∀ i, i ≤ n → recF st i 16 = nI (vcnt (recF st i) n) ∧ (∀ j, j < i → (recF st i (11 * j + 29) = 0 ↔ recF st i (11 * j + 30) = -1)) ∧ (∀ k, (k = 16 ∨ (402 ≤ k ∧ k < 414) ∨ ∃ j, j < i ∧ 11 * j + 27 ≤ k ∧ k ≤ 11 * j + 30) ∨ recF st i k = st k) := by
  obtain ⟨h1, h2, h3, h4⟩ := h
  intro i
  induction i with
  | zero => intro _; exact ⟨h1, fun j hj => by omega, fun k => Or.inr rfl⟩
  | succ i ih =>
    intro hi
    obtain ⟨a1, a2, a3⟩ := ih (by omega)
    have hu : ∀ k, k < 16 ∨ (11 * i + 20 ≤ k ∧ k < 402) → recF st i k = st k := fun k hk => by
      rcases a3 k with h | h
      · rcases h with h | h | ⟨j, h5, h6, h7⟩ <;> omega
      · exact h
    have hj := h2 i (by omega)
    rw [← hu (11 * i + 29) (by omega), ← hu (11 * i + 30) (by omega)] at hj
    obtain ⟨b1, b2, b3⟩ := recS_ok h12 (by omega) a1 hj.1 hj.2 h3 (by rw [hu 0 (by omega)]; exact h4)
    refine ⟨b1, fun j hj => ?_, fun k => ?_⟩
    · by_cases hji : j = i
      · subst hji
        exact b2
      · have e1 : recF st (i + 1) (11 * j + 29) = recF st i (11 * j + 29) := by
          rcases b3 (11 * j + 29) with h | h | h | h
          · omega
          · omega
          · omega
          · exact h
        have e2 : recF st (i + 1) (11 * j + 30) = recF st i (11 * j + 30) := by
          rcases b3 (11 * j + 30) with h | h | h | h
          · omega
          · omega
          · omega
          · exact h
        rw [e1, e2]
        exact a2 j (by omega)
    · rcases b3 k with h | h | h | h
      · exact Or.inl (Or.inl h)
      · exact Or.inl (Or.inr (Or.inl h))
      · exact Or.inl (Or.inr (Or.inr ⟨i, by omega, h.1, h.2⟩))
      · rcases a3 k with g | g
        · rcases g with g | g | ⟨j, g1, g2⟩
          · exact Or.inl (Or.inl g)
          · exact Or.inl (Or.inr (Or.inl g))
          · exact Or.inl (Or.inr (Or.inr ⟨j, by omega, g2⟩))
        · exact Or.inr (h.trans g)
theorem outF_l {st : Nat → Int32} {i : Nat} (h : st (11 * i + 21) < st (11 * i + 25)) : outF st i = true := by simp [outF, h]
theorem outF_h {st : Nat → Int32} {i : Nat} (h : st (11 * i + 26) < st (11 * i + 21)) : outF st i = true := by simp [outF, h]
theorem outF_n {st : Nat → Int32} {i : Nat} (h1 : ¬ st (11 * i + 21) < st (11 * i + 25)) (h2 : ¬ st (11 * i + 26) < st (11 * i + 21)) : outF st i = false := by simp [outF, h1, h2]
theorem vioF_s (st : Nat → Int32) (i : Nat) : vioF st (i + 1) = if outF (recF st i) i = true then 1 else vioF st i := rfl
theorem vioF_b (st : Nat → Int32) : ∀ n, vioF st n = 0 ∨ vioF st n = 1
  | 0 => Or.inl rfl
  | n + 1 => by
    rw [vioF_s]
    split
    · exact Or.inr rfl
    · exact vioF_b st n
section MSTEP
variable {G : Cx} {d : Nat} {m0 m : Mm} {Q : Option Value → Mm → Prop} {st : Nat → Int32} {en : Nat → Int64} {n : Nat} {B : Int}
end MSTEP
