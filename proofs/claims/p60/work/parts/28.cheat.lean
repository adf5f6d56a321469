/-! THE CLASS'S STEP: links, flows of heat -/
abbrev Lk : Type := Nat × Nat × Int32
def lkM (x : Lk) (i j : Nat) : Prop := (x.1 = i ∧ x.2.1 = j) ∨ (x.1 = j ∧ x.2.1 = i)
theorem lkM_dec (x : Lk) (i j : Nat) : lkM x i j ∨ ¬ lkM x i j := by
  unfold lkM
  omega
def lkV (i j : Nat) : List Lk → Int32
  | [] => 0
  | x :: t => if (x.1 = i ∧ x.2.1 = j) ∨ (x.1 = j ∧ x.2.1 = i) then x.2.2 else lkV i j t
def LkOK (n : Nat) (l : List Lk) : Prop := (∀ x ∈ l, x.1 < n ∧ x.2.1 < n ∧ x.1 ≠ x.2.1 ∧ rg x.2.2 1 100000) ∧ l.Pairwise (fun x y => ¬ lkM x y.1 y.2.1)
def LkC (m : Mm) (c : Nat) (l : List Lk) : Prop := fi m 6 c = nI l.length ∧ l.length ≤ 24 ∧ ∀ i x, l[i]? = some x → fi m 200 (lk c i) = nI x.1 ∧ fi m 201 (lk c i) = nI x.2.1 ∧ fi m 202 (lk c i) = x.2.2
def LkS (st : Nat → Int32) (n : Nat) (l : List Lk) : Prop := ∀ i j, i < n → j < n → st (12 * i + j + 152) = lkV i j l
def smJ (f : Nat → Int64) : Nat → Int64
  | 0 => 0
  | n + 1 => smJ f n + f n
theorem smJ_eq {f g : Nat → Int64} : ∀ n, (∀ j, j < n → f j = g j) → smJ f n = smJ g n
  | 0, _ => rfl
  | n + 1, h => by
    show smJ f n + f n = smJ g n + g n
    rw [smJ_eq n (fun j hj => h j (by omega)), h n (by omega)]
theorem smJ_add {f g : Nat → Int64} : ∀ n, smJ (fun j => f j + g j) n = smJ f n + smJ g n
  | 0 => rfl
  | n + 1 => by
    show smJ (fun j => f j + g j) n + (f n + g n) = smJ f n + f n + (smJ g n + g n)
    rw [smJ_add n]
    grind
theorem smJ_one {f : Nat → Int64} {q : Nat} : ∀ n, (∀ j, j < n → j ≠ q → f j = 0) → smJ f n = if q < n then f q else 0
  | 0, _ => by
    rw [if_neg (by omega)]
    rfl
  | n + 1, h => by
    show smJ f n + f n = _
    rw [smJ_one n (fun j hj hq => h j (by omega) hq)]
    by_cases e : n = q
    · subst e
      rw [if_neg (by omega), if_pos (by omega), Int64.zero_add]
    · rw [h n (by omega) e, Int64.add_zero]
      by_cases e2 : q < n
      · rw [if_pos e2, if_pos (by omega)]
      · rw [if_neg e2, if_neg (by omega)]
theorem cdF_sm (st : Nat → Int32) (i : Nat) : ∀ n, cdF st i n = smJ (fun j => flowF (st (12 * i + j + 152)) (st (11 * i + 21)) (st (11 * j + 21))) n
  | 0 => rfl
  | n + 1 => by
    show cdF st i n + _ = smJ _ n + _
    rw [cdF_sm st i n]
theorem flow_0 (a b : Int32) : flowF 0 a b = 0 := by
  unfold flowF
  rw [show Int32.toInt64 0 = 0 from rfl, Int64.zero_mul]
  rfl
theorem flow_neg {g a b : Int32} (hg : rg g 0 100000) (ha : rg a (-200000) 200000) (hb : rg b (-200000) 200000) : flowF g b a = - flowF g a b := by
  have g1 := hg.1
  have g2 := hg.2
  have a1 := ha.1
  have a2 := ha.2
  have b1 := hb.1
  have b2 := hb.2
  have e1 : (a - b).toInt = a.toInt - b.toInt := by rw [Int32.toInt_sub]; apply Int.bmod_eq_of_le <;> omega
  have e2 : (b - a).toInt = b.toInt - a.toInt := by rw [Int32.toInt_sub]; apply Int.bmod_eq_of_le <;> omega
  have key : ∀ x : Int, -400000 ≤ x → x ≤ 400000 → -40000000000 ≤ g.toInt * x ∧ g.toInt * x ≤ 40000000000 := by
    intro x h1 h2
    have n1 : (g.toInt * x).natAbs ≤ 100000 * 400000 := by
      rw [Int.natAbs_mul]
      exact Nat.mul_le_mul (by omega) (by omega)
    omega
  have mul : ∀ d : Int32, -400000 ≤ d.toInt → d.toInt ≤ 400000 → (Int32.toInt64 g * Int32.toInt64 d / 1000).toInt = (g.toInt * d.toInt).tdiv 1000 := by
    intro d h1 h2
    have := key _ h1 h2
    rw [Int64.toInt_div_of_ne_right _ _ (by decide), Int64.toInt_mul, Int32.toInt_toInt64, Int32.toInt_toInt64]
    rw [Int.bmod_eq_of_le (by omega) (by omega)]
    rfl
  unfold flowF
  apply Int64.toInt_inj.mp
  rw [Int64.toInt_neg, mul _ (by omega) (by omega), mul _ (by omega) (by omega), e1, e2]
  have e3 : g.toInt * (a.toInt - b.toInt) = -(g.toInt * (b.toInt - a.toInt)) := by
    rw [← Int.mul_neg, Int.neg_sub]
  rw [e3, Int.neg_tdiv]
  have := key (b.toInt - a.toInt) (by omega) (by omega)
  symm
  apply Int.bmod_eq_of_le
  · have := Int.tdiv_le_tdiv (a := g.toInt * (b.toInt - a.toInt)) (b := 40000000000) (c := 1000) (by decide) (by omega)
    have z : (40000000000 : Int).tdiv 1000 = 40000000 := rfl
    omega
  · have := Int.tdiv_le_tdiv (a := -40000000000) (b := g.toInt * (b.toInt - a.toInt)) (c := 1000) (by decide) (by omega)
    have z : (-40000000000 : Int).tdiv 1000 = -40000000 := rfl
    omega
/-- what one link does to the flow into node i -/
def cdS (T : Nat → Int32) (i : Nat) (x : Lk) : Int64 := if i = x.1 then flowF x.2.2 (T x.1) (T x.2.1) else if i = x.2.1 then - flowF x.2.2 (T x.1) (T x.2.1) else 0
def cdL (T : Nat → Int32) (i : Nat) : List Lk → Int64
  | [] => 0
  | x :: t => cdS T i x + cdL T i t
theorem cdL_app (T : Nat → Int32) (i : Nat) (x : Lk) : ∀ l, cdL T i (l ++ [x]) = cdL T i l + cdS T i x
  | [] => by
    show cdS T i x + 0 = 0 + cdS T i x
    grind
  | y :: t => by
    show cdS T i y + cdL T i (t ++ [x]) = cdS T i y + cdL T i t + cdS T i x
    rw [cdL_app T i x t]
    grind
theorem lkV_z {i j : Nat} : ∀ l : List Lk, (∀ x ∈ l, ¬ lkM x i j) → lkV i j l = 0
  | [], _ => rfl
  | x :: t, h => by
    refine Eq.trans (if_neg (h x List.mem_cons_self)) ?_
    exact lkV_z t (fun y hy => h y (List.mem_cons_of_mem _ hy))
theorem cdL_sm {T : Nat → Int32} {n i : Nat} (hi : i < n) (hT : ∀ j, j < n → rg (T j) (-200000) 200000) : ∀ l : List Lk, LkOK n l → cdL T i l = smJ (fun j => flowF (lkV i j l) (T i) (T j)) n
  | [], _ => by
    have := smJ_one (f := fun j => flowF (lkV i j []) (T i) (T j)) (q := n) n (fun j _ _ => flow_0 _ _)
    rw [if_neg (by omega)] at this
    exact this.symm
  | x :: t, h => by
    obtain ⟨h1, h2⟩ := h
    rw [List.pairwise_cons] at h2
    obtain ⟨a1, a2, a3, a4⟩ := h1 x List.mem_cons_self
    have ih := cdL_sm hi hT t ⟨fun y hy => h1 y (List.mem_cons_of_mem _ hy), h2.2⟩
    show cdS T i x + cdL T i t = _
    rw [ih, Int64.add_comm]
    have e1 : ∀ j, flowF (lkV i j (x :: t)) (T i) (T j) = flowF (lkV i j t) (T i) (T j) + (if (x.1 = i ∧ x.2.1 = j) ∨ (x.1 = j ∧ x.2.1 = i) then flowF x.2.2 (T i) (T j) else 0) := by
      intro j
      have hc : lkV i j (x :: t) = if (x.1 = i ∧ x.2.1 = j) ∨ (x.1 = j ∧ x.2.1 = i) then x.2.2 else lkV i j t := rfl
      by_cases e : (x.1 = i ∧ x.2.1 = j) ∨ (x.1 = j ∧ x.2.1 = i)
      · rw [hc, if_pos e, if_pos e, lkV_z t (fun y hy => by
          have := h2.1 y hy
          unfold lkM at this ⊢
          omega), flow_0, Int64.zero_add]
      · rw [hc, if_neg e, if_neg e, Int64.add_zero]
    rw [smJ_eq n (fun j _ => e1 j), smJ_add]
    congr 1
    unfold cdS
    by_cases c1 : i = x.1
    · rw [if_pos c1, smJ_one (q := x.2.1) n (fun j _ hj => if_neg (by omega)), if_pos a2, if_pos (by omega), c1]
    · rw [if_neg c1]
      by_cases c2 : i = x.2.1
      · rw [if_pos c2, smJ_one (q := x.1) n (fun j _ hj => if_neg (by omega)), if_pos a1, if_pos (by omega), c2]
        exact (flow_neg ⟨by have := a4.1; omega, a4.2⟩ (hT _ a1) (hT _ a2)).symm
      · rw [if_neg c2, smJ_one (q := n) n (fun j _ hj => if_neg (by omega)), if_neg (by omega)]
theorem flw {m : Mm} {f a g b : Nat} {x : Int64} : fl (wfl m f a x) g b = if g = f ∧ b = a then x else fl m g b := rfl
theorem nd_inj {c i j : Nat} : nd c i = nd c j ↔ i = j := by
  unfold nd
  omega
theorem htF_a (st : Nat → Int32) (i : Nat) (a : Int64) : ∀ h, htF st i a h = a + htF st i 0 h
  | 0 => (Int64.add_zero a).symm
  | h + 1 => by
    rw [htF_s, htF_s, htF_a st i a h, Int64.add_assoc]
def FlowsC (m : Mm) (c : Nat) (st : Nat → Int32) (n nl nh : Nat) : Prop := ∀ i, i < n → fl m 412 (nd c i) = absF st i ∧ fl m 413 (nd c i) = emF st nl i ∧ fl m 414 (nd c i) = cdF st i n ∧ fl m 415 (nd c i) = htF st i 0 nh
section CHEAT
variable {G : Cx} {d : Nat} {m0 m : Mm} {c : Nat} {D : Nat → Prop} {Q : Option Value → Mm → Prop} {st : Nat → Int32} {en : Nat → Int64} {n nl nh : Nat} {T : Int}
theorem C_bh {l : List Lk} (hF : Full G m0) (hc : IsC G c) (h : CS m0 m c (UD n nl nh) st en) (hI : Iv T st n nl nh) (hL : LkC m0 c l) (hO : LkOK n l) (hS : LkS st n l) (k : ∀ m', CS m0 m' c (UD n nl nh) st en → FlowsC m' c st n nl nh → Q none m') : WPM G (d + 3) (0, 0) μX0_balanceHeat [.ref c] m Q := by
  obtain ⟨⟨i1, i2, i3, i4, i5, i6, i7, i8, i9, i10, i11⟩, i12⟩ := hI
  obtain ⟨j1, j2, j3, j4, j5, j6, j7⟩ := i7
  have h2 : 0 < st 2 := by
    rw [Int32.lt_iff_toInt_lt]
    have := j3.1
    have z : (0 : Int32).toInt = 0 := rfl
    omega
  refine eC_bh (h.full hF) hc (C_sun (h.full hF) hc h (fun k hk => by unfold UD; omega) h2 ?_)
  refine bC_bh0 (h.full hF) hc ?_
  have gG : ∀ {m'}, CS m0 m' c (UD n nl nh) st en → fi m' 5 c = nI n ∧ fi m' 7 c = nI nl ∧ fi m' 8 c = nI nh := fun h => ⟨(h.rG 12 rfl rfl (by unfold VK; omega) (by unfold UD; omega)).trans i1, (h.rG 13 rfl rfl (by unfold VK; omega) (by unfold UD; omega)).trans i3, (h.rG 14 rfl rfl (by unfold VK; omega) (by unfold UD; omega)).trans i5⟩
  have gN : ∀ {m'}, CS m0 m' c (UD n nl nh) st en → ∀ i, i < n → ∀ j, j < 11 → fi m' (400 + j) (nd c i) = st (11 * i + 20 + j) := fun h i hi j hj => h.rN j (by omega) hj (by unfold UD; omega)
  refine loopN (n := n) (P := fun i m => CS m0 m c (UD n nl nh) st en ∧ ∀ j, j < i → fl m 411 (nd c j) = areaF st j 0 ∧ fl m 412 (nd c j) = absF st j ∧ fl m 414 (nd c j) = 0 ∧ fl m 415 (nd c j) = 0) (W := fun i m => WP G (d + 3) (0, 0) μX0_balanceHeat 7 [.ref c, .int (sunF st), .int (nI i), lvU] [] m Q) ?_ 0 (Nat.zero_le _) m ⟨h, fun j hj => by omega⟩
  intro i m1 hi hP1 ih1
  obtain ⟨hC1, hf1⟩ := hP1
  have step1 : ∀ x, absF st i = x → i < n → WP G (d + 3) (0, 0) μX0_balanceHeat 7 [.ref c, .int (sunF st), .int (nI (i + 1)), lvU] [] (wfl (wfl (wfl (wfl m1 411 (nd c i) (Int32.toInt64 (fi m1 402 (nd c i)))) 412 (nd c i) x) 414 (nd c i) (0 : Int64)) 415 (nd c i) (0 : Int64)) Q := by
    intro x hx hin
    refine ih1 hin _ ⟨(((hC1.wF 411 (by omega) (by omega)).wF 412 (by omega) (by omega)).wF 414 (by omega) (by omega)).wF 415 (by omega) (by omega), fun j hj => ?_⟩
    by_cases e : j = i
    · subst e
      have := gN hC1 j hin 2 (by omega)
      simp [flw, this, hx, areaF]
    · have := hf1 j (by omega)
      simp [flw, nd_inj, e, this]
  refine bC_bh1 (hC1.full hF) hc (gG hC1).1 i2 hi (fun hin => ?_) (fun hin hz => ?_) (fun hin hz => ?_)
  · have e : i = n := by omega
    subst e
    refine loopN (n := nl) (P := fun q m => CS m0 m c (UD i nl nh) st en ∧ ∀ j, j < i → fl m 411 (nd c j) = areaF st j q ∧ fl m 412 (nd c j) = absF st j ∧ fl m 414 (nd c j) = 0 ∧ fl m 415 (nd c j) = 0) (W := fun q m => WP G (d + 3) (0, 0) μX0_balanceHeat 62 [.ref c, lvU, .int (nI q), lvU] [] m Q) ?_ 0 (Nat.zero_le _) m1 ⟨hC1, hf1⟩
    intro q m2 hq hP2 ih2
    obtain ⟨hC2, hf2⟩ := hP2
    by_cases hqn : q < nl
    · obtain ⟨⟨o, ho, eo⟩, -⟩ := i9 q hqn
      have rL : ∀ j, j < 7 → fi m2 (300 + j) (lv c q) = st (7 * q + 296 + j) := fun j hj => hC2.rL j (by omega) hj (by unfold UD; omega)
      refine bC_bh2 (hC2.full hF) hc (gG hC2).2.1 i4 hq (gG hC2).1 i2 (fun _ => (rL 0 (by omega)).trans eo) (fun _ => ho) (fun z => absurd hqn z) (fun _ => ?_)
      refine ih2 hqn _ ⟨hC2.wF 411 (by omega) (by omega), fun j hj => ?_⟩
      have f2 := hf2 j hj
      have t1 : fi m2 301 (lv c q) = st (7 * q + 297) := rL 1 (by omega)
      have t5 : fi m2 305 (lv c q) = st (7 * q + 301) := rL 5 (by omega)
      rw [areaF_s, eo, t1, t5]
      by_cases e : j = o
      · subst e
        simp [flw, f2]
      · rw [if_neg (fun z => e (neq z (by omega) (by omega)).symm), Int64.add_zero]
        simp [flw, nd_inj, e, f2]
    · have e : q = nl := by omega
      subst e
      refine bC_bh2 (o := 0) (hC2.full hF) hc (gG hC2).2.1 i4 hq (gG hC2).1 i2 (fun z => absurd z hqn) (fun z => absurd z hqn) (fun _ => ?_) (fun z => absurd z hqn)
      have hf2' : ∀ j, j < i → fl m2 411 (nd c j) = areaF st j q ∧ fl m2 412 (nd c j) = absF st j ∧ fl m2 414 (nd c j) = 0 ∧ fl m2 415 (nd c j) = htF st j 0 0 := hf2
      refine loopN (n := nh) (P := fun h m => CS m0 m c (UD i q nh) st en ∧ ∀ j, j < i → fl m 411 (nd c j) = areaF st j q ∧ fl m 412 (nd c j) = absF st j ∧ fl m 414 (nd c j) = 0 ∧ fl m 415 (nd c j) = htF st j 0 h) (W := fun h m => WP G (d + 3) (0, 0) μX0_balanceHeat 127 [.ref c, lvU, .int (nI h), lvU] [] m Q) ?_ 0 (Nat.zero_le _) m2 ⟨hC2, hf2'⟩
      intro r m3 hr hP3 ih3
      obtain ⟨hC3, hf3⟩ := hP3
      by_cases hrn : r < nh
      · obtain ⟨⟨o, ho, eo⟩, -⟩ := i10 r hrn
        have rH : ∀ j, j < 8 → fi m3 (100 + j) (ht c r) = st (8 * r + 338 + j) := fun j hj => hC3.rH j (by omega) hj (by unfold UD; omega)
        have t1 : fi m3 101 (ht c r) = st (8 * r + 339) := rH 1 (by omega)
        have t7 : fi m3 107 (ht c r) = st (8 * r + 345) := rH 7 (by omega)
        refine bC_bh3 (hC3.full hF) hc (gG hC3).2.2 i6 hr (gG hC3).1 i2 (fun _ => (rH 0 (by omega)).trans eo) (fun _ => ho) (fun z => absurd hrn z) (fun _ h7 => ?_) (fun _ h7 => ?_)
        · rw [t7] at h7
          refine ih3 hrn _ ⟨hC3, fun j hj => ?_⟩
          have f3 := hf3 j hj
          rw [htF_s, if_neg (fun z => h7 z.2), Int64.add_zero]
          exact f3
        · rw [t7] at h7
          refine ih3 hrn _ ⟨hC3.wF 415 (by omega) (by omega), fun j hj => ?_⟩
          have f3 := hf3 j hj
          rw [htF_s, eo, t1]
          by_cases e : j = o
          · subst e
            simp [flw, f3, h7]
          · rw [if_neg (fun z => e (neq z.1 (by omega) (by omega)).symm), Int64.add_zero]
            simp [flw, nd_inj, e, f3]
      · have e : r = nh := by omega
        subst e
        refine bC_bh3 (o := 0) (hC3.full hF) hc (gG hC3).2.2 i6 hr (gG hC3).1 i2 (fun z => absurd z hrn) (fun z => absurd z hrn) (fun _ => ?_) (fun z => absurd z hrn) (fun z => absurd z hrn)
        obtain ⟨l1, l2, l3⟩ := hL
        refine loopN (n := l.length) (P := fun h m => CS m0 m c (UD i q r) st en ∧ ∀ j, j < i → fl m 411 (nd c j) = areaF st j q ∧ fl m 412 (nd c j) = absF st j ∧ fl m 414 (nd c j) = cdL (fun a => st (11 * a + 21)) j (l.take h) ∧ fl m 415 (nd c j) = htF st j 0 r) (W := fun h m => WP G (d + 3) (0, 0) μX0_balanceHeat 191 [.ref c, lvU, .int (nI h), lvU] [] m Q) ?_ 0 (Nat.zero_le _) m3 ⟨hC3, hf3⟩
        intro p m4 hp hP4 ih4
        obtain ⟨hC4, hf4⟩ := hP4
        have e6 : fi m4 6 c = nI l.length := hC4.2.1.1.trans l1
        by_cases hpn : p < l.length
        · have hx : l[p]? = some l[p] := List.getElem?_eq_getElem hpn
          have htk : l.take (p + 1) = l.take p ++ [l[p]] := List.take_succ_eq_append_getElem hpn
          generalize l[p] = x at hx htk
          obtain ⟨x1, x2, x3⟩ := l3 p x hx
          obtain ⟨y1, y2, y3, y4⟩ := hO.1 x (List.mem_of_getElem? hx)
          obtain ⟨a, b, g⟩ := x
          dsimp only at x1 x2 x3 y1 y2 y3 y4
          have hlk : ¬ SA c (lk c p) := by unfold SA lk; omega
          have z1 : fi m4 200 (lk c p) = nI a := (hC4.1.fi hlk 200).trans x1
          have z2 : fi m4 201 (lk c p) = nI b := (hC4.1.fi hlk 201).trans x2
          have z3 : fi m4 202 (lk c p) = g := (hC4.1.fi hlk 202).trans x3
          have ta : fi m4 401 (nd c a) = st (11 * a + 21) := gN hC4 a y1 1 (by omega)
          have tb : fi m4 401 (nd c b) = st (11 * b + 21) := gN hC4 b y2 1 (by omega)
          refine bC_bh4 (hC4.full hF) hc e6 l2 hp (gG hC4).1 i2 (fun _ => z1) (fun _ => z2) (fun _ => y1) (fun _ => y2) (fun z => absurd hpn z) (fun _ => ?_)
          refine ih4 hpn _ ⟨(hC4.wF 414 (by omega) (by omega)).wF 414 (by omega) (by omega), fun j hj => ?_⟩
          have f4 := hf4 j hj
          rw [z3, ta, tb, htk, cdL_app]
          have ef : Int32.toInt64 g * Int32.toInt64 (st (11 * b + 21) - st (11 * a + 21)) / 1000 = flowF g (st (11 * a + 21)) (st (11 * b + 21)) := rfl
          rw [ef]
          unfold cdS
          dsimp only
          by_cases e1 : j = a
          · subst e1
            simp [flw, nd_inj, y3, f4]
          · by_cases e2 : j = b
            · subst e2
              simp [flw, nd_inj, Ne.symm y3, f4, Int64.sub_eq_add_neg]
            · simp [flw, nd_inj, e1, e2, f4]
        · have e : p = l.length := by omega
          rw [e, List.take_length] at hf4
          refine bC_bh4 (a := 0) (b := 0) (hC4.full hF) hc e6 l2 hp (gG hC4).1 i2 (fun z => absurd z hpn) (fun z => absurd z hpn) (fun z => absurd z hpn) (fun z => absurd z hpn) (fun _ => ?_) (fun z => absurd z hpn)
          refine loopN (n := i) (P := fun h m => CS m0 m c (UD i q r) st en ∧ (∀ j, j < i → fl m 411 (nd c j) = areaF st j q ∧ fl m 412 (nd c j) = absF st j ∧ fl m 414 (nd c j) = cdL (fun a => st (11 * a + 21)) j l ∧ fl m 415 (nd c j) = htF st j 0 r) ∧ ∀ j, j < h → fl m 413 (nd c j) = emF st q j) (W := fun h m => WP G (d + 3) (0, 0) μX0_balanceHeat 217 [.ref c, lvU, .int (nI h), lvU] [] m Q) ?_ 0 (Nat.zero_le _) m4 ⟨hC4, hf4, fun j hj => by omega⟩
          intro u m5 hu hP5 ih5
          obtain ⟨hC5, hf5, hg5⟩ := hP5
          refine bC_bh5 (hC5.full hF) hc (gG hC5).1 i2 hu (fun z => ?_) (fun hun => ?_)
          · refine k m5 hC5 (fun j hj => ?_)
            obtain ⟨f1, f2, f3, f4⟩ := hf5 j hj
            refine ⟨f2, hg5 j (by omega), ?_, f4⟩
            rw [f3, cdF_sm, cdL_sm hj (fun a ha => (i8 a ha).2.1) l hO]
            exact smJ_eq i (fun a ha => by rw [hS j a hj ha])
          · refine ih5 hun _ ⟨hC5.wF 413 (by omega) (by omega), fun j hj => ?_, fun j hj => ?_⟩
            · have f5 := hf5 j hj
              simp [flw, f5]
            · by_cases e : j = u
              · subst e
                have f5 := (hf5 j hun).1
                have t : fi m5 401 (nd c j) = st (11 * j + 21) := gN hC5 j hun 1 (by omega)
                rw [t, f5, fl_eq]
                rfl
              · have := hg5 j (by omega)
                rw [fl_na (by unfold nd; omega)]
                exact this
  · have e : absF st i = _ := if_pos hz
    have t2 : fi m1 402 (nd c i) = st (11 * i + 22) := gN hC1 i hin 2 (by omega)
    have t7 : fi m1 505 (c + 6) = st 7 := hC1.rG 7 rfl rfl (by unfold VK; omega) (by unfold UD; omega)
    refine step1 _ ?_ hin
    rw [e, t2, t7]
  · have e : absF st i = _ := if_neg hz
    have t2 : fi m1 402 (nd c i) = st (11 * i + 22) := gN hC1 i hin 2 (by omega)
    have t3 : fi m1 403 (nd c i) = st (11 * i + 23) := gN hC1 i hin 3 (by omega)
    have t5 : fi m1 503 (c + 6) = st 5 := hC1.rG 5 rfl rfl (by unfold VK; omega) (by unfold UD; omega)
    have t6 : fi m1 504 (c + 6) = st 6 := hC1.rG 6 rfl rfl (by unfold VK; omega) (by unfold UD; omega)
    have t7 : fi m1 505 (c + 6) = st 7 := hC1.rG 7 rfl rfl (by unfold VK; omega) (by unfold UD; omega)
    refine step1 _ ?_ hin
    rw [e, t2, t3, t5, t6, t7]
end CHEAT
