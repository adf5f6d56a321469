/-! A RULE: groups of comparisons (or over and), action (0 auto, 1 on, 2 off, 3 hold, 4 free, 5 load), part, sum -/
abbrev Ru : Type := List (List (List Cd)) × Nat × Nat × List Cd
def rfG : List (List Cd) → List Cd
  | [] => []
  | s :: t => s ++ t.flatMap (fun x => x ++ [(203, 0)])
def rfC : List (List (List Cd)) → List Cd
  | [] => []
  | g :: t => rfG g ++ t.flatMap (fun x => rfG x ++ [(202, 0)])
def valM (st : Nat → Int32) (nh : Nat) (cs : List Cd) : Int64 := (evMs st nh cs []).headD 0
def holdM (st : Nat → Int32) (nh : Nat) (gs : List (List (List Cd))) : Bool := gs.isEmpty || decide (valM st nh (rfC gs) = 1)
def actF (nh : Nat) (R : Ru) (st : Nat → Int32) : Nat → Int32 :=
  if R.2.1 = 5 then upd st (11 * R.2.2.1 + 24) (Int64.toInt32 (lmax 0 (lmin 1000000 (valM st nh R.2.2.2))))
  else if R.2.1 = 3 then upd st (7 * R.2.2.1 + 302) 1
  else if R.2.1 = 4 then upd st (7 * R.2.2.1 + 302) 0
  else upd st (8 * R.2.2.1 + 343) (nI R.2.1)
def carF (nh : Nat) (R : Ru) (st : Nat → Int32) : Nat → Int32 := if holdM st nh R.1 = true then actF nh R st else st
def rulF (nh : Nat) : List Ru → (Nat → Int32) → (Nat → Int32)
  | [], st => st
  | R :: t, st => rulF nh t (carF nh R st)
def RulM (st : Nat → Int32) (r : Nat) (R : Ru) : Prop := ∃ i j, st (6 * r + 414) = nI i ∧ st (6 * r + 415) = nI (i + (rfC R.1).length) ∧ i + (rfC R.1).length ≤ 500 ∧ CodM st i (rfC R.1) ∧ st (6 * r + 416) = nI R.2.1 ∧ st (6 * r + 417) = nI R.2.2.1 ∧ (R.2.1 = 5 → st (6 * r + 418) = nI j ∧ st (6 * r + 419) = nI (j + R.2.2.2.length) ∧ j + R.2.2.2.length ≤ 500 ∧ CodM st j R.2.2.2)
def RuOK (n nl nh : Nat) (R : Ru) : Prop := (R.1 = [] ∨ OkC 250 (rfC R.1) 0 1) ∧ (∀ c ∈ rfC R.1, CdOK n nl nh c) ∧ R.2.1 ≤ 5 ∧ (R.2.1 < 3 → R.2.2.1 < nh) ∧ (R.2.1 = 3 ∨ R.2.1 = 4 → R.2.2.1 < nl) ∧ (R.2.1 = 5 → R.2.2.1 < n ∧ OkC 250 R.2.2.2 0 1 ∧ ∀ c ∈ R.2.2.2, CdOK n nl nh c)
theorem CodM_eq {st st' : Nat → Int32} (h : ∀ k, 414 ≤ k → st' k = st k) : ∀ (cs : List Cd) (i : Nat), CodM st i cs → CodM st' i cs
  | [], _, _ => trivial
  | c :: cs, i, ⟨h1, h2, h3⟩ => ⟨(h _ (by omega)).trans h1, (h _ (by omega)).trans h2, CodM_eq h cs (i + 1) h3⟩
theorem RulM_eq {st st' : Nat → Int32} {r : Nat} {R : Ru} (h : ∀ k, 414 ≤ k → st' k = st k) (hR : RulM st r R) : RulM st' r R := by
  obtain ⟨i, j, h1, h2, h3, h4, h5, h6, h7⟩ := hR
  refine ⟨i, j, (h _ (by omega)).trans h1, (h _ (by omega)).trans h2, h3, CodM_eq h _ _ h4, (h _ (by omega)).trans h5, (h _ (by omega)).trans h6, fun q => ?_⟩
  obtain ⟨a1, a2, a3, a4⟩ := h7 q
  exact ⟨(h _ (by omega)).trans a1, (h _ (by omega)).trans a2, a3, CodM_eq h _ _ a4⟩
theorem evMs_len (st : Nat → Int32) (nh : Nat) {M k' : Nat} : ∀ (cs : List Cd) (s : List Int64), OkC M cs s.length k' → (evMs st nh cs s).length = k'
  | [], s, h => h
  | c :: cs, s, ⟨h1, _, h3⟩ => evMs_len st nh cs _ (by rw [evM_len st nh h1]; exact h3)
theorem valM_eq (st : Nat → Int32) (nh : Nat) {M : Nat} {cs : List Cd} (h : OkC M cs 0 1) : evMs st nh cs [] = [valM st nh cs] := by
  have hl := evMs_len st nh cs [] h
  unfold valM
  match evMs st nh cs [], hl with
  | [v], _ => rfl
theorem actF_ne {nh : Nat} {R : Ru} {st : Nat → Int32} {k : Nat} (h : (R.2.1 = 5 → k ≠ 11 * R.2.2.1 + 24) ∧ (R.2.1 = 3 ∨ R.2.1 = 4 → k ≠ 7 * R.2.2.1 + 302) ∧ (R.2.1 < 3 → k ≠ 8 * R.2.2.1 + 343)) (h5 : R.2.1 ≤ 5) : actF nh R st k = st k := by
  unfold actF
  split
  · rename_i e
    exact upd_ne (h.1 e)
  · split
    · rename_i e
      exact upd_ne (h.2.1 (Or.inl e))
    · split
      · rename_i e
        exact upd_ne (h.2.1 (Or.inr e))
      · exact upd_ne (h.2.2 (by omega))
theorem carF_ne {nh : Nat} {R : Ru} {st : Nat → Int32} {k : Nat} (h : (R.2.1 = 5 → k ≠ 11 * R.2.2.1 + 24) ∧ (R.2.1 = 3 ∨ R.2.1 = 4 → k ≠ 7 * R.2.2.1 + 302) ∧ (R.2.1 < 3 → k ≠ 8 * R.2.2.1 + 343)) (h5 : R.2.1 ≤ 5) : carF nh R st k = st k := by
  unfold carF
  split
  · exact actF_ne h h5
  · rfl
theorem Safe.car {st : Nat → Int32} {n nl nh : Nat} {R : Ru} (h : Safe st n nl nh) (hR : RuOK n nl nh R) : Safe (carF nh R st) n nl nh := by
  obtain ⟨r1, r2, r3, r4, r5, r6⟩ := hR
  have q1 := h.2.1
  have q2 := h.2.2.2.1
  have q3 := h.2.2.2.2.2.1
  have key : ∀ k, (∀ p, p < n → k ≠ 11 * p + 24) → (∀ p, p < nl → k ≠ 7 * p + 302) → (∀ p, p < nh → k ≠ 8 * p + 343) → carF nh R st k = st k := fun k h1 h2 h3 => carF_ne ⟨fun e => h1 _ (r6 e).1, fun e => h2 _ (r5 e), fun e => h3 _ (r4 e)⟩ r3
  exact h.of (fun k hk => key k (fun p _ => by omega) (fun p _ => by omega) (fun p _ => by omega)) (fun l hl => ⟨key _ (fun p _ => by omega) (fun p _ => by omega) (fun p _ => by omega), key _ (fun p _ => by omega) (fun p _ => by omega) (fun p _ => by omega), key _ (fun p _ => by omega) (fun p _ => by omega) (fun p _ => by omega)⟩) (fun l hl => key _ (fun p _ => by omega) (fun p _ => by omega) (fun p _ => by omega)) (fun l hl => key _ (fun p _ => by omega) (fun p _ => by omega) (fun p _ => by omega))
theorem car_hi {st : Nat → Int32} {n nl nh : Nat} {R : Ru} (hn : n ≤ 12) (hl : nl ≤ 6) (hh : nh ≤ 8) (hR : RuOK n nl nh R) : ∀ k, k < 20 ∨ 402 ≤ k → carF nh R st k = st k := by
  obtain ⟨r1, r2, r3, r4, r5, r6⟩ := hR
  intro k hk
  exact carF_ne ⟨fun e => by have := (r6 e).1; omega, fun e => by have := r5 e; omega, fun e => by have := r4 e; omega⟩ r3
section MSTP
variable {G : Cx} {d : Nat} {m0 m : Mm} {Q : Option Value → Mm → Prop} {st : Nat → Int32} {en : Nat → Int64} {n nl nh r : Nat} {R : Ru}
theorem M_hold (hM : MS G m0 m st en) (hS : Safe st n nl nh) (hr : r < 12) (hR : RulM st r R) (hO : RuOK n nl nh R) (k : ∀ m', MS G m0 m' st en → Q (some (.int (if holdM st nh R.1 = true then 1 else 0))) m') : WPM G (d + 5) (0, 0) μX11_holds [.ref (gB G + 293), .int (nI r)] m Q := by
  obtain ⟨i, j, h1, h2, h3, h4, -⟩ := hR
  have hs := hM.2.2.1
  refine eM_ho hM.1 hr (by rw [hs]; exact h1) (by rw [hs]; exact h2) (by omega) h3 (fun e => ?_) (fun e => ?_)
  · have hz : R.1 = [] := by
      rcases hO.1 with z | z
      · exact z
      · have hl : (rfC R.1).length = 0 := by omega
        rw [List.length_eq_zero_iff.mp hl] at z
        cases z
    have := k m hM
    rw [if_pos (show holdM st nh R.1 = true by unfold holdM; rw [hz]; rfl)] at this
    exact this
  · have hz : OkC 250 (rfC R.1) 0 1 := by
      rcases hO.1 with z | z
      · rw [z] at e
        exact absurd rfl e
      · exact z
    have hne : R.1.isEmpty = false := by
      cases hR : R.1 with
      | nil => rw [hR] at e; exact absurd rfl e
      | cons _ _ => rfl
    refine M_eval hM hS h3 rfl h4 hO.2.1 hz (valM_eq st nh hz) (fun m1 hM1 => ?_)
    refine bM_ho hM1.1 (fun z => ?_) (fun z => ?_)
    · have := k m1 hM1
      rw [if_neg (show ¬ holdM st nh R.1 = true by unfold holdM; rw [hne, Bool.false_or, decide_eq_true_eq]; exact z)] at this
      exact this
    · have := k m1 hM1
      rw [if_pos (show holdM st nh R.1 = true by unfold holdM; rw [hne, Bool.false_or, decide_eq_true_eq]; exact z)] at this
      exact this
theorem M_carry (hM : MS G m0 m st en) (hS : Safe st n nl nh) (hr : r < 12) (hR : RulM st r R) (hO : RuOK n nl nh R) (k : ∀ m', MS G m0 m' (carF nh R st) en → Q none m') : WPM G (d + 6) (0, 0) μX11_carryOut [.ref (gB G + 293), .int (nI r)] m Q := by
  have q1 := hS.2.1
  have q2 := hS.2.2.2.1
  have q3 := hS.2.2.2.2.2.1
  refine eM_co hM.1 hr (M_hold hM hS hr hR hO (fun m1 hM1 => ?_))
  obtain ⟨i, j, h1, h2, h3, h4, h5, h6, h7⟩ := hR
  obtain ⟨r1, r2, r3, r4, r5, r6⟩ := hO
  obtain ⟨gs, a, p, ss⟩ := R
  dsimp only at h5 h6 h7 r3 r4 r5 r6 ⊢
  have hs := hM1.2.2.1
  by_cases hh : holdM st nh gs = true
  · rw [if_pos hh]
    have ek : carF nh (gs, a, p, ss) st = actF nh (gs, a, p, ss) st := if_pos hh
    rw [ek] at k
    rw [← hs] at h5 h6
    have ha : a = 0 ∨ a = 1 ∨ a = 2 ∨ a = 3 ∨ a = 4 ∨ a = 5 := by omega
    rcases ha with rfl | rfl | rfl | rfl | rfl | rfl
    · have := r4 (by omega)
      exact bM_co0 (i := 0) (e := 0) hM1.1 hr h5 h6 (by omega) (k _ (hM1.wst _ _))
    · have := r4 (by omega)
      exact bM_co1 (i := 0) (e := 0) hM1.1 hr h5 h6 (by omega) (k _ (hM1.wst _ _))
    · have := r4 (by omega)
      exact bM_co2 (i := 0) (e := 0) hM1.1 hr h5 h6 (by omega) (k _ (hM1.wst _ _))
    · have := r5 (by omega)
      exact bM_co3 (i := 0) (e := 0) hM1.1 hr h5 h6 (by omega) (k _ (hM1.wst _ _))
    · have := r5 (by omega)
      exact bM_co4 (i := 0) (e := 0) hM1.1 hr h5 h6 (by omega) (k _ (hM1.wst _ _))
    · obtain ⟨b1, b2, b3⟩ := r6 rfl
      obtain ⟨c1, c2, c3, c4⟩ := h7 rfl
      refine bM_co5 hM1.1 hr h5 h6 (by omega) (by rw [hs]; exact c1) (by rw [hs]; exact c2) (by omega) c3 ?_
      refine M_eval hM1 hS c3 rfl c4 b3 b2 (valM_eq st nh b2) (fun m2 hM2 => ?_)
      exact bM_co5r hM2.1 (by omega) (k _ (hM2.wst _ _))
  · rw [if_neg hh]
    have ek : carF nh (gs, a, p, ss) st = st := if_neg hh
    rw [ek] at k
    exact bM_cox hM1.1 (k m1 hM1)
/-- the rules as they lie in st -/
def RulsM (st : Nat → Int32) (n nl nh : Nat) (L : List Ru) : Prop := st 15 = nI L.length ∧ L.length ≤ 12 ∧ ∀ r R, L[r]? = some R → RulM st r R ∧ RuOK n nl nh R
def s5F (n nl nh : Nat) (L : List Ru) (st : Nat → Int32) : Nat → Int32 :=
  let s4 := warmF (switchF (mvF (rulF nh L st) nl) nh) n nl nh n
  upd s4 0 (s4 0 + s4 1)
def stepS (n nl nh : Nat) (L : List Ru) (st : Nat → Int32) : Nat → Int32 := recF (s5F n nl nh L st) n
def stepE (n nl nh : Nat) (L : List Ru) (st : Nat → Int32) (en : Nat → Int64) : Nat → Int64 := enF (switchF (mvF (rulF nh L st) nl) nh) n nl nh en
def stepV (n nl nh : Nat) (L : List Ru) (st : Nat → Int32) : Int32 := vioF (s5F n nl nh L st) n
theorem rulF_take (nh : Nat) : ∀ (L : List Ru) (st : Nat → Int32) (r : Nat) (R : Ru), L[r]? = some R → rulF nh (L.take (r + 1)) st = carF nh R (rulF nh (L.take r) st)
  | [], _, r, R, h => by simp at h
  | A :: t, st, 0, R, h => by
    rw [List.getElem?_cons_zero] at h
    cases h
    rfl
  | A :: t, st, r + 1, R, h => by
    rw [List.getElem?_cons_succ] at h
    show rulF nh (t.take (r + 1)) (carF nh A st) = carF nh R (rulF nh (t.take r) (carF nh A st))
    exact rulF_take nh t (carF nh A st) r R h
theorem rul_pre (hS : Safe st n nl nh) {L : List Ru} (hL : RulsM st n nl nh L) : ∀ r, r ≤ L.length → Safe (rulF nh (L.take r) st) n nl nh ∧ ∀ k, k < 20 ∨ 402 ≤ k → rulF nh (L.take r) st k = st k := by
  intro r
  induction r with
  | zero => intro _; exact ⟨hS, fun _ _ => rfl⟩
  | succ r ih =>
    intro hr
    obtain ⟨a1, a2⟩ := ih (by omega)
    have e : L[r]? = some L[r] := List.getElem?_eq_getElem (by omega)
    obtain ⟨b1, b2⟩ := hL.2.2 r _ e
    rw [rulF_take nh L st r _ e]
    exact ⟨a1.car b2, fun k hk => (car_hi hS.2.1 hS.2.2.2.1 hS.2.2.2.2.2.1 b2 k hk).trans (a2 k hk)⟩
theorem M_step {L : List Ru} {B : Int} (hM : MS G m0 m st en) (hS : Safe st n nl nh) (hL : RulsM st n nl nh L) (hI : RecI (s5F n nl nh L st) n B) (k : ∀ m', MS G m0 m' (stepS n nl nh L st) (stepE n nl nh L st en) → Q (some (.int (stepV n nl nh L st))) m') : WPM G (d + 7) (0, 0) μX11_step [.ref (gB G + 293)] m Q := by
  refine eM_st hM.1 ?_
  refine loopN (n := L.length) (P := fun r m => MS G m0 m (rulF nh (L.take r) st) en) (W := fun r m => WP G (d + 7) (0, 0) μX11_step 2 [.ref (gB G + 293), .int (nI r)] [] m Q) ?_ 0 (Nat.zero_le _) m hM
  intro r m1 hr hM1 ih
  obtain ⟨a1, a2⟩ := rul_pre hS hL r hr
  have hs := hM1.2.2.1
  refine bM_st hM1.1 (n := L.length) (by rw [hs, a2 15 (by omega)]; exact hL.1) hL.2.1 hr (fun h => ?_) (fun h => ?_)
  · have e : r = L.length := by omega
    subst e
    rw [List.take_length] at hM1 a1
    refine M_mv hM1 a1 (fun m2 hM2 => ?_)
    have S2 := a1.mv nl (Nat.le_refl _)
    refine bM_st2 hM2.1 (M_switch hM2 S2 (fun m3 hM3 => ?_))
    have S3 : Safe (switchF (mvF (rulF nh L st) nl) nh) n nl nh := ((S2.w1 nh).sw _ 10).chg _
    refine bM_st3 hM3.1 (M_exch hM3 S3 (fun m4 hM4 => ?_))
    have S4 := S3.warm n (Nat.le_refl _)
    refine bM_st4 hM4.1 ?_
    have hs4 := hM4.2.2.1
    have hM5 : MS G m0 (wai m4 (gB G + 294) 0 (ai m4 (gB G + 294) 0 + ai m4 (gB G + 294) 1)) (s5F n nl nh L st) (stepE n nl nh L st en) := by
      have e : s5F n nl nh L st = upd (ai m4 (gB G + 294)) 0 (ai m4 (gB G + 294) 0 + ai m4 (gB G + 294) 1) := by rw [hs4]; rfl
      rw [e]
      have hM4' : MS G m0 m4 (ai m4 (gB G + 294)) (stepE n nl nh L st en) := ⟨hM4.1, hM4.2.1, rfl, hM4.2.2.2⟩
      exact hM4'.wst _ _
    refine M_rec (n := n) hM5 ?_ hS.2.1 hI (fun m6 hM6 => ?_)
    · unfold s5F
      rw [upd_ne (by omega)]
      exact S4.1
    · exact bM_st5 hM6.1 (vioF_b _ _) (k m6 hM6)
  · have e : L[r]? = some L[r] := List.getElem?_eq_getElem h
    obtain ⟨b1, b2⟩ := hL.2.2 r _ e
    refine M_carry hM1 a1 (by have := hL.2.1; omega) (RulM_eq (fun k hk => a2 k (by omega)) b1) b2 (fun m2 hM2 => ?_)
    refine bM_st1 hM2.1 (ih h m2 ?_)
    rw [rulF_take nh L st r _ e]
    exact hM2
end MSTP
