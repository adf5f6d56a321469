/-! THE STEP, LOOKED AT: rules, records -/
def q1 (s : Sc) : Nat → Int32 := rulF (sH s) (sR s) (sS s)
def q2 (s : Sc) : Nat → Int32 := mvF (q1 s) (sL s)
def q3 (s : Sc) : Nat → Int32 := switchF (q2 s) (sH s)
def q4 (s : Sc) : Nat → Int32 := warmF (q3 s) (sN s) (sL s) (sH s) (sN s)
def q5 (s : Sc) : Nat → Int32 := upd (q4 s) 0 (q4 s 0 + q4 s 1)
theorem sp_S (s : Sc) : sS (sp s) = recF (q5 s) (sN s) := rfl
theorem sp_E (s : Sc) : sE (sp s) = enF (q3 s) (sN s) (sL s) (sH s) (sE s) := rfl
theorem svi_q (s : Sc) : svi s = vioF (q5 s) (sN s) := rfl
def Smp (L : List Ru) : Prop := L = [] ∨ ∃ d a, (a = 3 ∨ a = 4) ∧ L = [([], a, d, [])]
theorem rul_smp {L : List Ru} {n nh nl : Nat} {st : Nat → Int32} {k : Nat} (h : Smp L) (hR : ∀ R ∈ L, RuC n nl nh R) (hk : ∀ l, l < nl → k ≠ 7 * l + 302) : rulF nh L st k = st k := by
  rcases h with h | ⟨d, a, ha, h⟩
  · rw [h]
    rfl
  · rw [h] at hR ⊢
    obtain ⟨-, -, -, h4, -⟩ := hR _ List.mem_cons_self
    show carF nh ([], a, d, []) st k = st k
    refine carF_ne ⟨fun e => ?_, fun e => hk _ (h4 e), fun e => ?_⟩ (show a ≤ 5 by omega)
    · have e' : a = 5 := e
      omega
    · have e' : a < 3 := e
      omega
theorem loS_ne {st : Nat → Int32} {i k : Nat} (h1 : k ≠ 11 * i + 27) (h2 : k ≠ 11 * i + 28) : loS st i k = st k := by
  unfold loS
  rw [upd_ne h2, upd_ne h1]
theorem recS_ne {st : Nat → Int32} {i k : Nat} (h16 : k ≠ 16) (h4 : k < 402) (h : ¬ (11 * i + 27 ≤ k ∧ k ≤ 11 * i + 30)) : recS st i k = st k := by
  unfold recS
  split
  · unfold viS
    split
    · rw [upd_ne h16, upd_ne (by omega), upd_ne (by omega), upd_ne (by omega)]
      exact loS_ne (by omega) (by omega)
    · rw [upd_ne (by omega)]
      exact loS_ne (by omega) (by omega)
  · exact loS_ne (by omega) (by omega)
theorem recF_ne {st : Nat → Int32} {k : Nat} (h16 : k ≠ 16) (h4 : k < 402) : ∀ m, (∀ j, j < m → ¬ (11 * j + 27 ≤ k ∧ k ≤ 11 * j + 30)) → recF st m k = st k
  | 0, _ => rfl
  | m + 1, h => by
    show recS (recF st m) m k = st k
    rw [recS_ne h16 h4 (h m (by omega))]
    exact recF_ne h16 h4 m (fun j hj => h j (by omega))
/-- node i's records are made in turn i -/
theorem recF_at {st : Nat → Int32} {i j : Nat} (hj : j < 4) (hi : i < 12) : ∀ m, i < m → m ≤ 12 → recF st m (11 * i + 27 + j) = recS (recF st i) i (11 * i + 27 + j)
  | 0, h, _ => by omega
  | m + 1, h, h12 => by
    by_cases e : i = m
    · rw [e]
      rfl
    · show recS (recF st m) m _ = _
      rw [recS_ne (by omega) (by omega) (by omega)]
      exact recF_at hj hi m (by omega) (by omega)
theorem recF_b {st : Nat → Int32} {i k : Nat} (hi : i < 12) (h1 : 11 * i + 20 ≤ k) (h2 : k ≤ 11 * i + 30) : recF st i k = st k := recF_ne (by omega) (by omega) i (fun j hj => by omega)
theorem outF_b {st : Nat → Int32} {i : Nat} (hi : i < 12) : outF (recF st i) i = outF st i := by
  unfold outF
  rw [recF_b hi (by omega) (by omega), recF_b hi (by omega) (by omega), recF_b hi (by omega) (by omega)]
theorem recS_27 (st : Nat → Int32) (i : Nat) (hi : i < 12) : recS st i (11 * i + 27) = imin (st (11 * i + 21)) (st (11 * i + 27)) := by
  have l : loS st i (11 * i + 27) = imin (st (11 * i + 21)) (st (11 * i + 27)) := by
    unfold loS
    rw [upd_ne (by omega), upd_eq]
  unfold recS
  split
  · unfold viS
    split
    · rw [upd_ne (by omega), upd_ne (by omega), upd_ne (by omega), upd_ne (by omega)]
      exact l
    · rw [upd_ne (by omega)]
      exact l
  · exact l
theorem recS_28 (st : Nat → Int32) (i : Nat) (hi : i < 12) : recS st i (11 * i + 28) = imax (st (11 * i + 21)) (st (11 * i + 28)) := by
  have l : loS st i (11 * i + 28) = imax (st (11 * i + 21)) (st (11 * i + 28)) := by
    unfold loS
    rw [upd_eq]
  unfold recS
  split
  · unfold viS
    split
    · rw [upd_ne (by omega), upd_ne (by omega), upd_ne (by omega), upd_ne (by omega)]
      exact l
    · rw [upd_ne (by omega)]
      exact l
  · exact l
theorem recS_30 (st : Nat → Int32) (i : Nat) (hi : i < 12) : recS st i (11 * i + 30) = st (11 * i + 30) ∨ recS st i (11 * i + 30) = st 0 := by
  have l : loS st i (11 * i + 30) = st (11 * i + 30) := loS_ne (by omega) (by omega)
  unfold recS
  split
  · unfold viS
    split
    · rw [upd_ne (by omega), upd_ne (by omega), upd_eq]
      exact Or.inr (loS_ne (by omega) (by omega))
    · rw [upd_ne (by omega)]
      exact Or.inl l
  · exact Or.inl l
theorem rec27 {st : Nat → Int32} {n i : Nat} (hi : i < n) (hn : n ≤ 12) : recF st n (11 * i + 27) = imin (st (11 * i + 21)) (st (11 * i + 27)) := by
  rw [recF_at (j := 0) (by omega) (by omega) n hi hn]
  refine (recS_27 _ i (by omega)).trans ?_
  rw [recF_b (by omega) (by omega) (by omega), recF_b (by omega) (by omega) (by omega)]
theorem rec28 {st : Nat → Int32} {n i : Nat} (hi : i < n) (hn : n ≤ 12) : recF st n (11 * i + 28) = imax (st (11 * i + 21)) (st (11 * i + 28)) := by
  rw [recF_at (j := 1) (by omega) (by omega) n hi hn]
  refine (recS_28 _ i (by omega)).trans ?_
  rw [recF_b (by omega) (by omega) (by omega), recF_b (by omega) (by omega) (by omega)]
theorem rec30 {st : Nat → Int32} {n i : Nat} (hi : i < n) (hn : n ≤ 12) : recF st n (11 * i + 30) = st (11 * i + 30) ∨ recF st n (11 * i + 30) = st 0 := by
  rw [recF_at (j := 3) (by omega) (by omega) n hi hn]
  rcases recS_30 (recF st i) i (by omega) with h | h
  · refine Or.inl (h.trans ?_)
    rw [recF_b (by omega) (by omega) (by omega)]
  · refine Or.inr (h.trans ?_)
    rw [recF_ne (by omega) (by omega) i (fun j hj => by omega)]
theorem outF_q {st : Nat → Int32} {n i : Nat} (hi : i < 12) : outF (recF st n) i = outF st i := by
  unfold outF
  rw [recF_ne (by omega) (by omega) n (fun j hj => by omega), recF_ne (by omega) (by omega) n (fun j hj => by omega), recF_ne (by omega) (by omega) n (fun j hj => by omega)]
/-- how many are outside -/
def ouN (st : Nat → Int32) : Nat → Nat
  | 0 => 0
  | i + 1 => ouN st i + (if outF st i = true then 1 else 0)
theorem ouN_le (st : Nat → Int32) : ∀ n, ouN st n ≤ n
  | 0 => Nat.le_refl _
  | n + 1 => by
    have := ouN_le st n
    show ouN st n + (if outF st n = true then 1 else 0) ≤ n + 1
    split <;> omega
theorem ouN_eq {st st' : Nat → Int32} : ∀ n, (∀ i, i < n → outF st' i = outF st i) → ouN st' n = ouN st n
  | 0, _ => rfl
  | n + 1, h => by
    show ouN st' n + (if outF st' n = true then 1 else 0) = ouN st n + (if outF st n = true then 1 else 0)
    rw [ouN_eq n (fun i hi => h i (by omega)), h n (by omega)]
theorem vio_ou (st : Nat → Int32) : ∀ n, n ≤ 12 → vioF st n = if ouN st n = 0 then 0 else 1
  | 0, _ => rfl
  | n + 1, hn => by
    have ih := vio_ou st n (by omega)
    have h : vioF st (n + 1) = if outF (recF st n) n = true then 1 else vioF st n := rfl
    rw [h, outF_b (by omega), ih]
    show _ = if ouN st n + (if outF st n = true then 1 else 0) = 0 then 0 else 1
    by_cases e : outF st n = true
    · rw [if_pos e, if_pos e, if_neg (by omega)]
    · rw [if_neg e, if_neg e, Nat.add_zero]
