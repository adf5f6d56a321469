/-! LINKS: find, count -/
theorem nI_ne1 {p : Nat} (h : p < 1000) : ¬ nI p = (-1 : Int32) := by
  intro e
  have e1 := congrArg Int32.toInt e
  rw [nI_toInt (by omega)] at e1
  have : (-1 : Int32).toInt = -1 := by decide
  omega
theorem lkM_tr {x y : Lk} {a b : Nat} (h1 : lkM x a b) (h2 : lkM y a b) : lkM x y.1 y.2.1 := by
  unfold lkM at *
  omega
theorem lkV_at {n : Nat} {a b : Nat} {x : Lk} (hm : lkM x a b) : ∀ (l : List Lk), LkOK n l → ∀ p : Nat, l[p]? = some x → lkV a b l = x.2.2
  | [], _, p, h => by simp at h
  | y :: t, h, p, hp => by
    obtain ⟨h1, h2⟩ := h
    rw [List.pairwise_cons] at h2
    have hc : lkV a b (y :: t) = if (y.1 = a ∧ y.2.1 = b) ∨ (y.1 = b ∧ y.2.1 = a) then y.2.2 else lkV a b t := rfl
    rw [hc]
    cases p with
    | zero =>
      rw [List.getElem?_cons_zero] at hp
      cases hp
      exact if_pos hm
    | succ p =>
      rw [List.getElem?_cons_succ] at hp
      have hx := List.mem_of_getElem? hp
      refine Eq.trans (if_neg (fun z => h2.1 x hx (lkM_tr (show lkM y a b from z) hm))) ?_
      exact lkV_at hm t ⟨fun z hz => h1 z (List.mem_cons_of_mem _ hz), h2.2⟩ p hp
theorem lkV_n0 {n : Nat} {a b : Nat} {l : List Lk} (h : LkOK n l) {x : Lk} {p : Nat} (hp : l[p]? = some x) (hm : lkM x a b) : 0 < lkV a b l := by
  rw [lkV_at hm l h p hp, Int32.lt_iff_toInt_lt]
  have := (h.1 x (List.mem_of_getElem? hp)).2.2.2.1
  have z : (0 : Int32).toInt = 0 := rfl
  omega
theorem lkV_sym (a b : Nat) : ∀ l : List Lk, lkV a b l = lkV b a l
  | [] => rfl
  | x :: t => by
    show (if (x.1 = a ∧ x.2.1 = b) ∨ (x.1 = b ∧ x.2.1 = a) then x.2.2 else lkV a b t) = if (x.1 = b ∧ x.2.1 = a) ∨ (x.1 = a ∧ x.2.1 = b) then x.2.2 else lkV b a t
    rw [lkV_sym a b t]
    by_cases h : (x.1 = a ∧ x.2.1 = b) ∨ (x.1 = b ∧ x.2.1 = a)
    · rw [if_pos h, if_pos h.symm]
    · rw [if_neg h, if_neg (fun z => h z.symm)]
/-- the nature of an entry -/
def c1 (x : Int32) : Nat := if 0 < x then 1 else 0
def cnR (V : Nat → Nat → Int32) (a : Nat) : Nat → Nat
  | 0 => 0
  | b + 1 => cnR V a b + c1 (V a b)
def cnA (V : Nat → Nat → Int32) : Nat → Nat
  | 0 => 0
  | a + 1 => cnA V a + cnR V a a
theorem cnR_le (V : Nat → Nat → Int32) (a : Nat) : ∀ b, cnR V a b ≤ b
  | 0 => Nat.le_refl _
  | b + 1 => by
    have := cnR_le V a b
    show cnR V a b + c1 _ ≤ b + 1
    unfold c1
    split <;> omega
theorem cnR_eq {V W : Nat → Nat → Int32} {a : Nat} : ∀ b, (∀ j, j < b → W a j = V a j) → cnR W a b = cnR V a b
  | 0, _ => rfl
  | b + 1, h => by
    show cnR W a b + _ = cnR V a b + _
    rw [cnR_eq b (fun j hj => h j (by omega)), h b (by omega)]
theorem cnA_eq {V W : Nat → Nat → Int32} : ∀ n, (∀ i j, i < n → j < i → W i j = V i j) → cnA W n = cnA V n
  | 0, _ => rfl
  | n + 1, h => by
    show cnA W n + _ = cnA V n + _
    rw [cnA_eq n (fun i j hi hj => h i j (by omega) hj), cnR_eq n (fun j hj => h n j (by omega) hj)]
theorem cnR_one {V W : Nat → Nat → Int32} {a q : Nat} (h0 : c1 (V a q) = 0) (h1 : c1 (W a q) = 1) : ∀ b, (∀ j, j < b → j ≠ q → W a j = V a j) → cnR W a b = cnR V a b + (if q < b then 1 else 0)
  | 0, _ => rfl
  | b + 1, h => by
    show cnR W a b + c1 _ = cnR V a b + c1 _ + _
    rw [cnR_one h0 h1 b (fun j hj hq => h j (by omega) hq)]
    by_cases e : b = q
    · subst e
      rw [h0, h1, if_neg (by omega), if_pos (by omega)]
    · rw [h b (by omega) e]
      by_cases e2 : q < b
      · rw [if_pos e2, if_pos (by omega)]
        omega
      · rw [if_neg e2, if_neg (by omega)]
        omega
theorem cnA_one {V W : Nat → Nat → Int32} {p q : Nat} (hpq : q < p) (h0 : c1 (V p q) = 0) (h1 : c1 (W p q) = 1) : ∀ n, (∀ i j, i < n → j < i → ¬ (i = p ∧ j = q) → W i j = V i j) → cnA W n = cnA V n + (if p < n then 1 else 0)
  | 0, _ => rfl
  | n + 1, h => by
    show cnA W n + _ = cnA V n + _ + _
    rw [cnA_one hpq h0 h1 n (fun i j hi hj hij => h i j (by omega) hj hij)]
    by_cases e : n = p
    · subst e
      rw [cnR_one h0 h1 n (fun j hj hq => h n j (by omega) hj (fun z => hq z.2)), if_neg (by omega), if_pos hpq, if_pos (by omega)]
      omega
    · rw [cnR_eq n (fun j hj => h n j (by omega) hj (fun z => e z.1))]
      by_cases e2 : p < n
      · rw [if_pos e2, if_pos (by omega)]
        omega
      · rw [if_neg e2, if_neg (by omega)]
        omega
theorem cnA_len {n : Nat} : ∀ l : List Lk, LkOK n l → cnA (fun i j => lkV i j l) n = l.length
  | [], _ => by
    have : ∀ n, cnA (fun i j => lkV i j []) n = 0 := by
      intro n
      induction n with
      | zero => rfl
      | succ n ih =>
        show cnA _ n + cnR _ n n = 0
        rw [ih]
        have : ∀ b, cnR (fun i j => lkV i j []) n b = 0 := by
          intro b
          induction b with
          | zero => rfl
          | succ b ih2 =>
            show cnR _ n b + c1 0 = 0
            rw [ih2]
            decide
        rw [this]
    exact this n
  | x :: t, h => by
    obtain ⟨h1, h2⟩ := h
    rw [List.pairwise_cons] at h2
    obtain ⟨a1, a2, a3, a4⟩ := h1 x List.mem_cons_self
    have ih := cnA_len t ⟨fun y hy => h1 y (List.mem_cons_of_mem _ hy), h2.2⟩
    have hz : ∀ i j, lkM x i j → lkV i j t = 0 := fun i j hm => lkV_z t (fun y hy z => h2.1 y hy (lkM_tr hm z))
    have hc : ∀ i j, lkV i j (x :: t) = if (x.1 = i ∧ x.2.1 = j) ∨ (x.1 = j ∧ x.2.1 = i) then x.2.2 else lkV i j t := fun _ _ => rfl
    have hp : c1 x.2.2 = 1 := by
      unfold c1
      rw [if_pos]
      rw [Int32.lt_iff_toInt_lt]
      have := a4.1
      have z : (0 : Int32).toInt = 0 := rfl
      omega
    rw [List.length_cons, ← ih]
    by_cases hlt : x.2.1 < x.1
    · have key := cnA_one (V := fun i j => lkV i j t) (W := fun i j => lkV i j (x :: t)) (p := x.1) (q := x.2.1) hlt (by rw [hz _ _ (Or.inl ⟨rfl, rfl⟩)]; decide) (by rw [hc, if_pos (Or.inl ⟨rfl, rfl⟩)]; exact hp) n (fun i j hi hj hij => by rw [hc, if_neg (by omega)])
      rw [key, if_pos a1]
    · have key := cnA_one (V := fun i j => lkV i j t) (W := fun i j => lkV i j (x :: t)) (p := x.2.1) (q := x.1) (by omega) (by rw [hz _ _ (Or.inr ⟨rfl, rfl⟩)]; decide) (by rw [hc, if_pos (Or.inr ⟨rfl, rfl⟩)]; exact hp) n (fun i j hi hj hij => by rw [hc, if_neg (by omega)])
      rw [key, if_pos a2]
section LNK
variable {G : Cx} {d : Nat} {m : Mm} {c : Nat} {Q : Option Value → Mm → Prop} {n : Nat} {l : List Lk}
theorem C_pol {a b : Nat} (hF : Full G m) (hc : IsC G c) (hL : LkC m c l) (hO : LkOK n l) (hn : n ≤ 12) (ha : a < 12) (hb : b < 12) (k0 : (∀ x ∈ l, ¬ lkM x a b) → Q (some (.int (-1))) m) (k1 : ∀ p x, p < l.length → l[p]? = some x → lkM x a b → Q (some (.int (nI p))) m) : WPM G (d + 1) (0, 0) μX0_placeOfLink [.ref c, .int (nI a), .int (nI b)] m Q := by
  obtain ⟨l1, l2, l3⟩ := hL
  refine eC_pol hF hc ?_
  refine loopN (n := l.length) (P := fun p m' => m' = m ∧ ∀ q x, q < p → l[q]? = some x → ¬ lkM x a b) (W := fun p m => WP G (d + 1) (0, 0) μX0_placeOfLink 2 [.ref c, .int (nI a), .int (nI b), .int (nI p), lvU] [] m Q) ?_ 0 (Nat.zero_le _) m ⟨rfl, fun q x hq => by omega⟩
  intro p m' hp hP ih
  obtain ⟨rfl, hq⟩ := hP
  by_cases hpl : p < l.length
  · have hx : l[p]? = some l[p] := List.getElem?_eq_getElem hpl
    generalize l[p] = x at hx
    obtain ⟨x1, x2, x3⟩ := l3 p x hx
    obtain ⟨y1, y2, y3, y4⟩ := hO.1 x (List.mem_of_getElem? hx)
    have nxt : ¬ lkM x a b → WP G (d + 1) (0, 0) μX0_placeOfLink 2 [.ref c, .int (nI a), .int (nI b), .int (nI (p + 1)), lvU] [] m' Q := fun hm => ih hpl m' ⟨rfl, fun q y hq' hy => by
      by_cases e : q = p
      · subst e
        have : y = x := Option.some.inj (hy.symm.trans hx)
        rw [this]
        exact hm
      · exact hq q y (by omega) hy⟩
    unfold lkM at nxt k1
    refine bC_pol hF hc l1 l2 hp (fun _ => x1) (fun _ => x2) ha hb (fun _ => by omega) (fun _ => by omega) (fun z => absurd hpl z) (fun _ h1 h2 => nxt (by omega)) (fun _ h1 h2 h3 => nxt (by omega)) (fun _ h1 h2 h3 => k1 p x hpl hx (by omega)) (fun _ h1 h2 => k1 p x hpl hx (by omega)) (fun _ h1 h2 h3 => nxt (by omega)) (fun _ h1 h2 h3 h4 => nxt (by omega)) (fun _ h1 h2 h3 h4 => k1 p x hpl hx (by omega))
  · refine bC_pol (q := 0) (r := 0) hF hc l1 l2 hp (fun z => absurd z hpl) (fun z => absurd z hpl) ha hb (fun z => absurd z hpl) (fun z => absurd z hpl) (fun _ => k0 (fun x hx => ?_)) (fun z => absurd z hpl) (fun z => absurd z hpl) (fun z => absurd z hpl) (fun z => absurd z hpl) (fun z => absurd z hpl) (fun z => absurd z hpl) (fun z => absurd z hpl)
    obtain ⟨q, hq1, hq2⟩ := List.mem_iff_getElem.mp hx
    exact hq q x (by omega) (by rw [List.getElem?_eq_getElem hq1, hq2])
end LNK
