/-! THE REFERENCE'S STEP, method by method -/
theorem loopN {n : Nat} {P W : Nat → Mm → Prop} (h : ∀ i m, i ≤ n → P i m → (i < n → ∀ m', P (i + 1) m' → W (i + 1) m') → W i m) : ∀ i, i ≤ n → ∀ m, P i m → W i m := by
  have key : ∀ k i, i + k = n → ∀ m, P i m → W i m := by
    intro k
    induction k with
    | zero => intro i hi m hP; exact h i m (by omega) hP (fun q => by omega)
    | succ k ih => intro i hi m hP; exact h i m (by omega) hP (fun q m' hP' => ih (i + 1) (by omega) m' hP')
  intro i hi
  exact key (n - i) i (by omega)
section MSTEP
variable {G : Cx} {d : Nat} {m : Mm} {Q : Option Value → Mm → Prop}
/-- what the walks of the reference need of its state -/
def Safe (st : Nat → Int32) (n nl nh : Nat) : Prop := st 12 = nI n ∧ n ≤ 12 ∧ st 13 = nI nl ∧ nl ≤ 6 ∧ st 14 = nI nh ∧ nh ≤ 8 ∧ ¬ st 2 = 0 ∧ ¬ st 1 = 0 ∧ (∀ l, l < nl → ∃ o, o < 12 ∧ st (7 * l + 296) = nI o) ∧ (∀ h, h < nh → ∃ o, o < 12 ∧ st (8 * h + 338) = nI o) ∧ (∀ l, l < nl → ¬ Int32.toInt64 (st (7 * l + 299) - st (7 * l + 298)) = 0) ∧ (∀ i, i < n → ¬ Int32.toInt64 (st (11 * i + 20)) = 0)
end MSTEP
