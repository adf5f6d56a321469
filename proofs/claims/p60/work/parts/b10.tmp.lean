/-! TEMPERATURES behind a step -/
theorem warm_at {st : Nat → Int32} {n nl nh i : Nat} : ∀ m, i < m → warmF st n nl nh m (11 * i + 21) = tmpF st n nl nh st i
  | 0, h => by omega
  | m + 1, h => by
    show upd (warmF st n nl nh m) (11 * m + 21) _ (11 * i + 21) = _
    by_cases e : i = m
    · subst e
      rw [upd_eq]
      unfold tmpF
      rw [warmF_ne st n nl nh (k := 11 * i + 21) i (fun j hj => by omega), warmF_ne st n nl nh (k := 1) i (fun j hj => by omega), warmF_ne st n nl nh (k := 11 * i + 20) i (fun j hj => by omega)]
    · rw [upd_ne (by omega)]
      exact warm_at m (by omega)
theorem htF_add (st : Nat → Int32) (i : Nat) (a : Int64) : ∀ nh, htF st i a nh = a + htF st i 0 nh
  | 0 => (Int64.add_zero a).symm
  | nh + 1 => by
    rw [htF_s, htF_s, htF_add st i a nh]
    grind
def NB (st : Nat → Int32) (n nl nh i : Nat) : Prop := rg (st (11 * i + 24)) 0 1000000 ∧ (0 ≤ (absF st i).toInt ∧ (absF st i).toInt ≤ 40000000) ∧ (-12000000000000000 ≤ (cdF st i n).toInt ∧ (cdF st i n).toInt ≤ 12000000000000000) ∧ (0 ≤ (emF st nl i).toInt ∧ (emF st nl i).toInt ≤ 20000000) ∧ (0 ≤ (htF st i 0 nh).toInt ∧ (htF st i 0 nh).toInt ≤ 800000)
theorem net_i {st : Nat → Int32} {n nl nh i : Nat} (h : NB st n nl nh i) : (netF st n nl nh i).toInt = (st (11 * i + 24)).toInt + (absF st i).toInt + (cdF st i n).toInt - (emF st nl i).toInt + (htF st i 0 nh).toInt ∧ -13000000000000000 ≤ (netF st n nl nh i).toInt ∧ (netF st n nl nh i).toInt ≤ 13000000000000000 := by
  obtain ⟨h1, h2, h3, h4, h5⟩ := h
  unfold netF
  rw [htF_add]
  have a1 := l64a (toLr h1) h2 (by decide) (by decide)
  have a2 := l64a a1.2 h3 (by decide) (by decide)
  have a3 := l64s a2.2 h4 (by decide) (by decide)
  have a4 := l64a a3.2 h5 (by decide) (by decide)
  have e := Int32.toInt_toInt64 (st (11 * i + 24))
  omega
theorem mul60 {a b : Int} (ha : -13000000000000000 ≤ a ∧ a ≤ 13000000000000000) (hb : 0 ≤ b ∧ b ≤ 60) : -780000000000000000 ≤ a * b ∧ a * b ≤ 780000000000000000 := by
  have : (a * b).natAbs ≤ 13000000000000000 * 60 := by
    rw [Int.natAbs_mul]
    exact Nat.mul_le_mul (by omega) (by omega)
  omega
theorem tmp_i {st : Nat → Int32} {n nl nh i : Nat} (h : NB st n nl nh i) (hs : rg (st 1) 1 60) (hc : rg (st (11 * i + 20)) 1 100000) (ht : rg (st (11 * i + 21)) (-200000) 200000) : (tmpF st n nl nh st i).toInt = max (-200000) (min 200000 ((st (11 * i + 21)).toInt + ((netF st n nl nh i).toInt * (st 1).toInt).tdiv (st (11 * i + 20)).toInt)) := by
  obtain ⟨-, n1, n2⟩ := net_i h
  have m := mul60 ⟨n1, n2⟩ (b := (st 1).toInt) ⟨by have := hs.1; omega, hs.2⟩
  have ta := Int.natAbs_tdiv_le_natAbs ((netF st n nl nh i).toInt * (st 1).toInt) (st (11 * i + 20)).toInt
  have t1 := ht.1
  have t2 := ht.2
  unfold tmpF
  have ed : (netF st n nl nh i * Int32.toInt64 (st 1) / Int32.toInt64 (st (11 * i + 20))).toInt = ((netF st n nl nh i).toInt * (st 1).toInt).tdiv (st (11 * i + 20)).toInt := by
    rw [Int64.toInt_div, Int64.toInt_mul, Int32.toInt_toInt64, Int32.toInt_toInt64, Int.bmod_eq_of_le (n := (netF st n nl nh i).toInt * (st 1).toInt) (by omega) (by omega)]
    exact Int.bmod_eq_of_le (by omega) (by omega)
  have ea : (Int32.toInt64 (st (11 * i + 21)) + netF st n nl nh i * Int32.toInt64 (st 1) / Int32.toInt64 (st (11 * i + 20))).toInt = (st (11 * i + 21)).toInt + ((netF st n nl nh i).toInt * (st 1).toInt).tdiv (st (11 * i + 20)).toInt := by
    rw [Int64.toInt_add, ed, Int32.toInt_toInt64]
    exact Int.bmod_eq_of_le (by omega) (by omega)
  have c1 : (-200000 : Int64).toInt = -200000 := by decide
  have c2 : (200000 : Int64).toInt = 200000 := by decide
  rw [Int64.toInt_toInt32, lmax_i, lmin_i, ea, c1, c2]
  exact Int.bmod_eq_of_le (by omega) (by omega)
/-- the same but for the sun's numbers -/
def Ag (s' s : Nat → Int32) : Prop := ∀ k, k < 5 ∨ 8 ≤ k → s' k = s k
section AG
variable {s s' : Nat → Int32}
theorem Ag.upd (h : Ag s' s) (k : Nat) (x : Int32) : Ag (upd s' k x) (upd s k x) := by
  intro q hq
  by_cases e : q = k
  · rw [e, upd_eq, upd_eq]
  · rw [upd_ne e, upd_ne e]
    exact h q hq
theorem Ag.own (h : Ag s' s) (k : Nat) (hk : 8 ≤ k) : own s' k = own s k := own_eq (h k (Or.inr hk))
theorem Ag.mv (h : Ag s' s) (l : Nat) : Ag (mvS s' l) (mvS s l) := by
  unfold mvS
  rw [h (7 * l + 302) (by omega), h.own _ (by omega), opnF_eq (h _ (by omega)) (h _ (by omega)) (h _ (by omega)) (h _ (by omega)) (h _ (by omega))]
  split
  · exact h
  · exact h.upd _ _
theorem Ag.mvF (h : Ag s' s) : ∀ l, Ag (mvF s' l) (mvF s l)
  | 0 => h
  | l + 1 => (Ag.mvF h l).mv l
theorem Ag.w1 (h : Ag s' s) (j : Nat) : Ag (w1S s' j) (w1S s j) := by
  unfold w1S wshF
  rw [h.own (8 * j + 338) (by omega), h (8 * j + 343) (by omega), h (11 * CLouvreCraftLaw_law_r3874_132e59.own s (8 * j + 338) + 21) (by omega), h (8 * j + 340) (by omega), h (8 * j + 341) (by omega), h (8 * j + 344) (by omega)]
  exact (h.upd _ _).upd _ _
theorem Ag.w1F (h : Ag s' s) : ∀ l, Ag (w1F s' l) (w1F s l)
  | 0 => h
  | l + 1 => (Ag.w1F h l).w1 l
theorem Ag.sun (h : Ag s' s) : sunF s' = sunF s := by
  unfold sunF phF
  rw [h 0 (by omega), h 2 (by omega), h 3 (by omega), h 4 (by omega)]
theorem Ag.arr (h : Ag s' s) : arrF s' = arrF s := by
  unfold arrF
  rw [h.sun, h 8 (by omega)]
theorem Ag.avl (h : Ag s' s) : avlF s' = avlF s := by
  unfold avlF
  rw [h 11 (by omega), h 1 (by omega), h 9 (by omega), h.arr]
theorem Ag.sw {v : Int64} (h : Ag s' s) (j : Nat) : Ag (swS (s', v) j).1 (swS (s, v) j).1 ∧ (swS (s', v) j).2 = (swS (s, v) j).2 := by
  have e4 := h (8 * j + 344) (by omega)
  have e9 := h (8 * j + 339) (by omega)
  have e7 := h 17 (by omega)
  unfold swS
  by_cases c1 : s (8 * j + 344) = 0
  · rw [if_pos (show (s', v).1 (8 * j + 344) = 0 from e4.trans c1), if_pos (show (s, v).1 (8 * j + 344) = 0 from c1)]
    exact ⟨h, rfl⟩
  · rw [if_neg (show ¬ (s', v).1 (8 * j + 344) = 0 from fun z => c1 (e4.symm.trans z)), if_neg (show ¬ (s, v).1 (8 * j + 344) = 0 from c1)]
    by_cases c2 : v < Int32.toInt64 (s (8 * j + 339))
    · rw [if_pos (show (s', v).2 < Int32.toInt64 ((s', v).1 (8 * j + 339)) from by show v < Int32.toInt64 (s' _); rw [e9]; exact c2), if_pos (show (s, v).2 < Int32.toInt64 ((s, v).1 (8 * j + 339)) from c2)]
      refine ⟨?_, rfl⟩
      show Ag (CLouvreCraftLaw_law_r3874_132e59.upd (CLouvreCraftLaw_law_r3874_132e59.upd s' (8 * j + 345) 2) 17 (s' 17 + 1)) (CLouvreCraftLaw_law_r3874_132e59.upd (CLouvreCraftLaw_law_r3874_132e59.upd s (8 * j + 345) 2) 17 (s 17 + 1))
      rw [e7]
      exact (h.upd _ _).upd _ _
    · rw [if_neg (show ¬ (s', v).2 < Int32.toInt64 ((s', v).1 (8 * j + 339)) from by show ¬ v < Int32.toInt64 (s' _); rw [e9]; exact c2), if_neg (show ¬ (s, v).2 < Int32.toInt64 ((s, v).1 (8 * j + 339)) from c2)]
      refine ⟨h.upd _ _, ?_⟩
      show v - Int32.toInt64 (s' _) = v - Int32.toInt64 (s _)
      rw [e9]
theorem Ag.fold : ∀ (l : List Nat) {s s' : Nat → Int32} {v : Int64}, Ag s' s → Ag (l.foldl swS (s', v)).1 (l.foldl swS (s, v)).1
  | [], _, _, _, h => h
  | q :: l, s, s', v, h => by
    obtain ⟨a, b⟩ := Ag.sw (v := v) h q
    show Ag (l.foldl swS (swS (s', v) q)).1 (l.foldl swS (swS (s, v) q)).1
    generalize swS (s', v) q = p' at a b
    generalize swS (s, v) q = p at a b
    obtain ⟨x', y'⟩ := p'
    obtain ⟨x, y⟩ := p
    have e : y' = y := b
    subst e
    exact Ag.fold l a
theorem Ag.up (h : Ag s' s) : ∀ n, upF s' n = upF s n := fun n => upF_eq n (fun j _ => ⟨h _ (by omega), h _ (by omega)⟩)
theorem Ag.chg (h : Ag s' s) (a : Int64) (nh : Nat) : Ag (chgF a nh s') (chgF a nh s) := by
  unfold chgF
  rw [h 10 (by omega), h 11 (by omega), h 1 (by omega), h 9 (by omega), h.up]
  exact h.upd _ _
theorem Ag.swi (h : Ag s' s) (nh : Nat) : Ag (switchF s' nh) (switchF s nh) := by
  unfold switchF
  rw [h.arr, h.avl, swF_fold, swF_fold]
  have w := h.w1F nh
  have e : ((List.range 10).flatMap (fun k => (List.range nh).filter (fun q => decide ((CLouvreCraftLaw_law_r3874_132e59.w1F s' nh, avlF s).1 (8 * q + 342) = 9 - nI k)))) = ((List.range 10).flatMap (fun k => (List.range nh).filter (fun q => decide ((CLouvreCraftLaw_law_r3874_132e59.w1F s nh, avlF s).1 (8 * q + 342) = 9 - nI k)))) := by
    refine fm_congr (fun k _ => ?_)
    apply List.filter_congr
    intro j _
    show decide (CLouvreCraftLaw_law_r3874_132e59.w1F s' nh (8 * j + 342) = _) = decide (CLouvreCraftLaw_law_r3874_132e59.w1F s nh (8 * j + 342) = _)
    rw [w (8 * j + 342) (by omega)]
  rw [e]
  exact (Ag.fold _ w).chg _ _
theorem Ag.rul {L : List Ru} (hS : Smp L) (nh : Nat) (h : Ag s' s) : Ag (rulF nh L s') (rulF nh L s) := by
  rcases hS with e | ⟨d, a, ha, e⟩
  · rw [e]
    exact h
  · rw [e]
    show Ag (carF nh ([], a, d, []) s') (carF nh ([], a, d, []) s)
    unfold carF holdM
    rw [if_pos (show ((([] : List (List (List Cd))).isEmpty) || _) = true from rfl), if_pos (show ((([] : List (List (List Cd))).isEmpty) || _) = true from rfl)]
    rcases ha with ha | ha
    · subst ha
      exact h.upd _ _
    · subst ha
      exact h.upd _ _
end AG
