/-! RULES: a code is a kind (the class's number) and an argument -/
abbrev Cd : Type := Nat × Nat
def trM (k : Nat) : Nat := if k = 200 then 0 else if k = 205 then 1 else if k = 206 then 2 else if k = 207 then 3 else if k = 208 then 4 else if k = 209 then 5 else if k = 210 then 6 else if k = 211 then 7 else if k = 220 then 8 else if k = 43 then 9 else if k = 45 then 10 else if k = 42 then 11 else if k = 47 then 12 else if k = 60 then 13 else if k = 62 then 14 else if k = 61 then 15 else if k = 204 then 16 else if k = 203 then 17 else 18
def rdV (st : Nat → Int32) (nh k p : Nat) : Int64 := if k = 200 then Int32.toInt64 (nI p) else if k = 205 then Int32.toInt64 (st (11 * p + 21)) else if k = 206 then Int32.toInt64 (st (7 * p + 301)) else if k = 207 then Int32.toInt64 (st (8 * p + 345)) else if k = 208 then (if sunF st = 0 then 0 else 1) else if k = 209 then Int32.toInt64 (phF st) else if k = 210 then Int32.toInt64 (st 11) else Int32.toInt64 (upF st nh)
def limL (v : Int64) : Int64 := lmax (-1000000000000) (lmin 1000000000000 v)
def prodF (a b : Int64) : Int64 := if a = 0 then a * b else if 1000000000000 / labs a < labs b then (if a < 0 then (if b < 0 then 1000000000000 else -1000000000000) else (if b < 0 then -1000000000000 else 1000000000000)) else a * b
def opC (k : Nat) (a b : Int64) : Int64 := if k = 43 then a + b else if k = 45 then a - b else if k = 42 then prodF a b else if k = 47 then (if b = 0 then 0 else a / b) else if k = 60 then (if a < b then 1 else 0) else if k = 62 then (if b < a then 1 else 0) else if k = 61 then (if a = b then 1 else 0) else if k = 203 then a * b else lmax a b
def opM (k : Nat) (a b : Int64) : Int64 := limL (opC k a b)
def isVal (k : Nat) : Prop := k = 200 ∨ k = 205 ∨ k = 206 ∨ k = 207 ∨ k = 208 ∨ k = 209 ∨ k = 210 ∨ k = 211
def isBin (k : Nat) : Prop := k = 43 ∨ k = 45 ∨ k = 42 ∨ k = 47 ∨ k = 60 ∨ k = 62 ∨ k = 61 ∨ k = 203 ∨ k = 202
/-- one code on a stack of values, as the reference does it -/
def evM (st : Nat → Int32) (nh : Nat) (c : Cd) (s : List Int64) : List Int64 :=
  if c.1 = 220 then (match s with | x :: t => (-x) :: t | [] => [])
  else if c.1 = 204 then (match s with | x :: t => (1 - x) :: t | [] => [])
  else if c.1 = 43 ∨ c.1 = 45 ∨ c.1 = 42 ∨ c.1 = 47 ∨ c.1 = 60 ∨ c.1 = 62 ∨ c.1 = 61 ∨ c.1 = 203 ∨ c.1 = 202 then (match s with | y :: x :: t => opM c.1 x y :: t | t => t)
  else rdV st nh c.1 c.2 :: s
def evMs (st : Nat → Int32) (nh : Nat) : List Cd → List Int64 → List Int64
  | [], s => s
  | c :: cs, s => evMs st nh cs (evM st nh c s)
/-- a code that may stand in rules over so many parts -/
def CdOK (n nl nh : Nat) (c : Cd) : Prop := (c.1 = 200 ∧ c.2 < 1000000) ∨ (c.1 = 205 ∧ c.2 < n) ∨ (c.1 = 206 ∧ c.2 < nl) ∨ (c.1 = 207 ∧ c.2 < nh) ∨ ((c.1 = 208 ∨ c.1 = 209 ∨ c.1 = 210 ∨ c.1 = 211) ∧ c.2 < 1000000) ∨ c.1 = 220 ∨ c.1 = 204 ∨ isBin c.1
/-- the height behind a code -/
def dpC (c : Cd) (k : Nat) : Nat := if c.1 = 220 ∨ c.1 = 204 then k else if c.1 = 43 ∨ c.1 = 45 ∨ c.1 = 42 ∨ c.1 = 47 ∨ c.1 = 60 ∨ c.1 = 62 ∨ c.1 = 61 ∨ c.1 = 203 ∨ c.1 = 202 then k - 1 else k + 1
def nedC (c : Cd) : Nat := if c.1 = 220 ∨ c.1 = 204 then 1 else if c.1 = 43 ∨ c.1 = 45 ∨ c.1 = 42 ∨ c.1 = 47 ∨ c.1 = 60 ∨ c.1 = 62 ∨ c.1 = 61 ∨ c.1 = 203 ∨ c.1 = 202 then 2 else 0
/-- codes that go from height k to height k' and stay below M -/
def OkC (M : Nat) : List Cd → Nat → Nat → Prop
  | [], k, k' => k = k'
  | c :: cs, k, k' => nedC c ≤ k ∧ dpC c k < M ∧ OkC M cs (dpC c k) k'
theorem evM_len (st : Nat → Int32) (nh : Nat) {c : Cd} {s : List Int64} (h : nedC c ≤ s.length) : (evM st nh c s).length = dpC c s.length := by
  unfold evM dpC
  unfold nedC at h
  by_cases h1 : c.1 = 220
  · rw [if_pos h1, if_pos (Or.inl h1)]
    rw [if_pos (Or.inl h1)] at h
    cases s with
    | nil => simp at h
    | cons x t => rfl
  · rw [if_neg h1]
    by_cases h2 : c.1 = 204
    · rw [if_pos h2, if_pos (Or.inr h2)]
      rw [if_pos (Or.inr h2)] at h
      cases s with
      | nil => simp at h
      | cons x t => rfl
    · have h12 : ¬ (c.1 = 220 ∨ c.1 = 204) := fun z => z.elim h1 h2
      rw [if_neg h2, if_neg h12]
      rw [if_neg h12] at h
      by_cases h3 : c.1 = 43 ∨ c.1 = 45 ∨ c.1 = 42 ∨ c.1 = 47 ∨ c.1 = 60 ∨ c.1 = 62 ∨ c.1 = 61 ∨ c.1 = 203 ∨ c.1 = 202
      · rw [if_pos h3, if_pos h3]
        rw [if_pos h3] at h
        match s, h with
        | y :: x :: t, _ => rfl
        | [_], h => simp at h
        | [], h => simp at h
      · rw [if_neg h3, if_neg h3]
        rfl
theorem labs_ne0 {a : Int64} (h : ¬ a = 0) : ¬ labs a = 0 := by
  intro e
  unfold labs at e
  split at e
  · exact h e
  · apply h
    rw [← Int64.neg_neg (a := a), e]
    rfl
