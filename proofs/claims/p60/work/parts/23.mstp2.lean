/-! A RULE: groups of comparisons (or over and), action (0 auto, 1 on, 2 off, 3 hold, 4 free, 5 load), part, sum -/
abbrev Ru : Type := List (List (List Cd)) × Nat × Nat × List Cd
def rfG : List (List Cd) → List Cd
  | [] => []
  | s :: t => s ++ t.flatMap (fun x => x ++ [(203, 0)])
def rfC : List (List (List Cd)) → List Cd
  | [] => []
  | g :: t => rfG g ++ t.flatMap (fun x => rfG x ++ [(202, 0)])
def valM (st : Nat → Int32) (nh : Nat) (cs : List Cd) : Int64 := (evMs st nh cs []).headD 0
def holdM (st : Nat → Int32) (nh : Nat) (gs : List (List (List Cd))) : Bool := gs.isEmpty || decide (valM st nh (rfC gs) = 1)
def actF (nh : Nat) (R : Ru) (st : Nat → Int32) : Nat → Int32 :=
  if R.2.1 = 5 then upd st (11 * R.2.2.1 + 24) (Int64.toInt32 (lmax 0 (lmin 1000000 (valM st nh R.2.2.2))))
  else if R.2.1 = 3 then upd st (7 * R.2.2.1 + 302) 1
  else if R.2.1 = 4 then upd st (7 * R.2.2.1 + 302) 0
  else upd st (8 * R.2.2.1 + 343) (nI R.2.1)
def carF (nh : Nat) (R : Ru) (st : Nat → Int32) : Nat → Int32 := if holdM st nh R.1 = true then actF nh R st else st
def rulF (nh : Nat) : List Ru → (Nat → Int32) → (Nat → Int32)
  | [], st => st
  | R :: t, st => rulF nh t (carF nh R st)
def RulM (st : Nat → Int32) (r : Nat) (R : Ru) : Prop := ∃ i j, st (6 * r + 414) = nI i ∧ st (6 * r + 415) = nI (i + (rfC R.1).length) ∧ i + (rfC R.1).length ≤ 500 ∧ CodM st i (rfC R.1) ∧ st (6 * r + 416) = nI R.2.1 ∧ st (6 * r + 417) = nI R.2.2.1 ∧ (R.2.1 = 5 → st (6 * r + 418) = nI j ∧ st (6 * r + 419) = nI (j + R.2.2.2.length) ∧ j + R.2.2.2.length ≤ 500 ∧ CodM st j R.2.2.2)
def RuOK (n nl nh : Nat) (R : Ru) : Prop := (R.1 = [] ∨ OkC 250 (rfC R.1) 0 1) ∧ (∀ c ∈ rfC R.1, CdOK n nl nh c) ∧ R.2.1 ≤ 5 ∧ (R.2.1 < 3 → R.2.2.1 < nh) ∧ (R.2.1 = 3 ∨ R.2.1 = 4 → R.2.2.1 < nl) ∧ (R.2.1 = 5 → R.2.2.1 < n ∧ OkC 250 R.2.2.2 0 1 ∧ ∀ c ∈ R.2.2.2, CdOK n nl nh c)
theorem CodM_eq {st st' : Nat → Int32} (h : ∀ k, 414 ≤ k → st' k = st k) : ∀ (cs : List Cd) (i : Nat), CodM st i cs → CodM st' i cs
  | [], _, _ => trivial
  | c :: cs, i, ⟨h1, h2, h3⟩ => ⟨(h _ (by omega)).trans h1, (h _ (by omega)).trans h2, CodM_eq h cs (i + 1) h3⟩
theorem RulM_eq {st st' : Nat → Int32} {r : Nat} {R : Ru} (h : ∀ k, 414 ≤ k → st' k = st k) (hR : RulM st r R) : RulM st' r R := by
  obtain ⟨i, j, h1, h2, h3, h4, h5, h6, h7⟩ := hR
  refine ⟨i, j, (h _ (by omega)).trans h1, (h _ (by omega)).trans h2, h3, CodM_eq h _ _ h4, (h _ (by omega)).trans h5, (h _ (by omega)).trans h6, fun q => ?_⟩
  obtain ⟨a1, a2, a3, a4⟩ := h7 q
  exact ⟨(h _ (by omega)).trans a1, (h _ (by omega)).trans a2, a3, CodM_eq h _ _ a4⟩
theorem evMs_len (st : Nat → Int32) (nh : Nat) {M k' : Nat} : ∀ (cs : List Cd) (s : List Int64), OkC M cs s.length k' → (evMs st nh cs s).length = k'
  | [], s, h => h
  | c :: cs, s, ⟨h1, _, h3⟩ => evMs_len st nh cs _ (by rw [evM_len st nh h1]; exact h3)
theorem valM_eq (st : Nat → Int32) (nh : Nat) {M : Nat} {cs : List Cd} (h : OkC M cs 0 1) : evMs st nh cs [] = [valM st nh cs] := by
  have hl := evMs_len st nh cs [] h
  unfold valM
  match evMs st nh cs [], hl with
  | [v], _ => rfl
theorem actF_ne {nh : Nat} {R : Ru} {st : Nat → Int32} {k : Nat} (h : (R.2.1 = 5 → k ≠ 11 * R.2.2.1 + 24) ∧ (R.2.1 = 3 ∨ R.2.1 = 4 → k ≠ 7 * R.2.2.1 + 302) ∧ (R.2.1 < 3 → k ≠ 8 * R.2.2.1 + 343)) (h5 : R.2.1 ≤ 5) : actF nh R st k = st k := by
  unfold actF
  split
  · rename_i e
    exact upd_ne (h.1 e)
  · split
    · rename_i e
      exact upd_ne (h.2.1 (Or.inl e))
    · split
      · rename_i e
        exact upd_ne (h.2.1 (Or.inr e))
      · exact upd_ne (h.2.2 (by omega))
theorem carF_ne {nh : Nat} {R : Ru} {st : Nat → Int32} {k : Nat} (h : (R.2.1 = 5 → k ≠ 11 * R.2.2.1 + 24) ∧ (R.2.1 = 3 ∨ R.2.1 = 4 → k ≠ 7 * R.2.2.1 + 302) ∧ (R.2.1 < 3 → k ≠ 8 * R.2.2.1 + 343)) (h5 : R.2.1 ≤ 5) : carF nh R st k = st k := by
  unfold carF
  split
  · exact actF_ne h h5
  · rfl
theorem Safe.car {st : Nat → Int32} {n nl nh : Nat} {R : Ru} (h : Safe st n nl nh) (hR : RuOK n nl nh R) : Safe (carF nh R st) n nl nh := by
  obtain ⟨r1, r2, r3, r4, r5, r6⟩ := hR
  have q1 := h.2.1
  have q2 := h.2.2.2.1
  have q3 := h.2.2.2.2.2.1
  have key : ∀ k, (∀ p, p < n → k ≠ 11 * p + 24) → (∀ p, p < nl → k ≠ 7 * p + 302) → (∀ p, p < nh → k ≠ 8 * p + 343) → carF nh R st k = st k := fun k h1 h2 h3 => carF_ne ⟨fun e => h1 _ (r6 e).1, fun e => h2 _ (r5 e), fun e => h3 _ (r4 e)⟩ r3
  exact h.of (fun k hk => key k (fun p _ => by omega) (fun p _ => by omega) (fun p _ => by omega)) (fun l hl => ⟨key _ (fun p _ => by omega) (fun p _ => by omega) (fun p _ => by omega), key _ (fun p _ => by omega) (fun p _ => by omega) (fun p _ => by omega), key _ (fun p _ => by omega) (fun p _ => by omega) (fun p _ => by omega)⟩) (fun l hl => key _ (fun p _ => by omega) (fun p _ => by omega) (fun p _ => by omega)) (fun l hl => key _ (fun p _ => by omega) (fun p _ => by omega) (fun p _ => by omega))
theorem car_hi {st : Nat → Int32} {n nl nh : Nat} {R : Ru} (hn : n ≤ 12) (hl : nl ≤ 6) (hh : nh ≤ 8) (hR : RuOK n nl nh R) : ∀ k, k < 20 ∨ 402 ≤ k → carF nh R st k = st k := by
  obtain ⟨r1, r2, r3, r4, r5, r6⟩ := hR
  intro k hk
  exact carF_ne ⟨fun e => by have := (r6 e).1; omega, fun e => by have := r5 e; omega, fun e => by have := r4 e; omega⟩ r3
section MSTP
variable {G : Cx} {d : Nat} {m0 m : Mm} {Q : Option Value → Mm → Prop} {st : Nat → Int32} {en : Nat → Int64} {n nl nh r : Nat} {R : Ru}
/-- the rules as they lie in st -/
def RulsM (st : Nat → Int32) (n nl nh : Nat) (L : List Ru) : Prop := st 15 = nI L.length ∧ L.length ≤ 12 ∧ ∀ r R, L[r]? = some R → RulM st r R ∧ RuOK n nl nh R
def s5F (n nl nh : Nat) (L : List Ru) (st : Nat → Int32) : Nat → Int32 :=
  let s4 := warmF (switchF (mvF (rulF nh L st) nl) nh) n nl nh n
  upd s4 0 (s4 0 + s4 1)
def stepS (n nl nh : Nat) (L : List Ru) (st : Nat → Int32) : Nat → Int32 := recF (s5F n nl nh L st) n
def stepE (n nl nh : Nat) (L : List Ru) (st : Nat → Int32) (en : Nat → Int64) : Nat → Int64 := enF (switchF (mvF (rulF nh L st) nl) nh) n nl nh en
def stepV (n nl nh : Nat) (L : List Ru) (st : Nat → Int32) : Int32 := vioF (s5F n nl nh L st) n
theorem rulF_take (nh : Nat) : ∀ (L : List Ru) (st : Nat → Int32) (r : Nat) (R : Ru), L[r]? = some R → rulF nh (L.take (r + 1)) st = carF nh R (rulF nh (L.take r) st)
  | [], _, r, R, h => by simp at h
  | A :: t, st, 0, R, h => by
    rw [List.getElem?_cons_zero] at h
    cases h
    rfl
  | A :: t, st, r + 1, R, h => by
    rw [List.getElem?_cons_succ] at h
    show rulF nh (t.take (r + 1)) (carF nh A st) = carF nh R (rulF nh (t.take r) (carF nh A st))
    exact rulF_take nh t (carF nh A st) r R h
theorem rul_pre (hS : Safe st n nl nh) {L : List Ru} (hL : RulsM st n nl nh L) : ∀ r, r ≤ L.length → Safe (rulF nh (L.take r) st) n nl nh ∧ ∀ k, k < 20 ∨ 402 ≤ k → rulF nh (L.take r) st k = st k := by
  intro r
  induction r with
  | zero => intro _; exact ⟨hS, fun _ _ => rfl⟩
  | succ r ih =>
    intro hr
    obtain ⟨a1, a2⟩ := ih (by omega)
    have e : L[r]? = some L[r] := List.getElem?_eq_getElem (by omega)
    obtain ⟨b1, b2⟩ := hL.2.2 r _ e
    rw [rulF_take nh L st r _ e]
    exact ⟨a1.car b2, fun k hk => (car_hi hS.2.1 hS.2.2.2.1 hS.2.2.2.2.2.1 b2 k hk).trans (a2 k hk)⟩
end MSTP
