/-! CONTRACT: rests -/
def RI (lo hi : Int32) (n : Nat) (s : Sc) : Prop :=
  LJ s ∧ sN s = n ∧ sL s = 0 ∧ sH s = 0 ∧ sR s = [] ∧
  (∀ i, i < n → (sS s (11 * i + 22) = 0 ∧ sS s (11 * i + 23) = 0 ∧ sS s (11 * i + 24) = 0 ∧ sS s (11 * i + 25) = -200000 ∧ sS s (11 * i + 26) = 200000) ∧ 20000 ≤ (sS s (11 * i + 20)).toInt ∧ lo.toInt ≤ (sS s (11 * i + 21)).toInt ∧ (sS s (11 * i + 21)).toInt ≤ hi.toInt) ∧
  (sE s 0 = 0 ∧ sE s 1 = 0 ∧ sE s 2 = 0) ∧ -30000 ≤ lo.toInt ∧ hi.toInt ≤ 30000
def MX (n : Nat) (st : Nat → Int32) : Prop := ∀ i j, i < n → j < n → 0 ≤ (st (12 * i + j + 152)).toInt ∧ (st (12 * i + j + 152)).toInt ≤ 300
theorem tdiv_b {x c a b : Int} (hc : 20000 ≤ c) (ha : a ≤ 0) (hb : 0 ≤ b) (h1 : 360 * a ≤ x) (h2 : x ≤ 360 * b) : a ≤ x.tdiv c ∧ x.tdiv c ≤ b := by
  by_cases hx : 0 ≤ x
  · rw [Int.tdiv_eq_ediv_of_nonneg hx]
    have p := Int.ediv_nonneg hx (show 0 ≤ c by omega)
    refine ⟨by omega, ?_⟩
    have : x < (b + 1) * c := by
      have : (b + 1) * 20000 ≤ (b + 1) * c := Int.mul_le_mul_of_nonneg_left hc (by omega)
      omega
    have := Int.ediv_lt_of_lt_mul (show 0 < c by omega) this
    omega
  · have e : x = -(-x) := by omega
    rw [e, Int.neg_tdiv, Int.tdiv_eq_ediv_of_nonneg (by omega)]
    have p := Int.ediv_nonneg (show 0 ≤ -x by omega) (show 0 ≤ c by omega)
    refine ⟨?_, by omega⟩
    have : -x < (-a + 1) * c := by
      have : (-a + 1) * 20000 ≤ (-a + 1) * c := Int.mul_le_mul_of_nonneg_left hc (by omega)
      omega
    have := Int.ediv_lt_of_lt_mul (show 0 < c by omega) this
    omega
theorem flow_r {c x y : Int32} {lo hi : Int} (hc : 0 ≤ c.toInt ∧ c.toInt ≤ 300) (hx : rg x (-200000) 200000) (hy : rg y (-200000) 200000) (hx1 : lo ≤ x.toInt) (hx2 : x.toInt ≤ hi) (hy1 : lo ≤ y.toInt) (hy2 : y.toInt ≤ hi) : lo - x.toInt ≤ (flowF c x y).toInt ∧ (flowF c x y).toInt ≤ hi - x.toInt := by
  rw [flow_i hx hy]
  have a1 : c.toInt * (y.toInt - x.toInt) ≤ 300 * (hi - x.toInt) := by
    have h1 : c.toInt * (y.toInt - x.toInt) ≤ c.toInt * (hi - x.toInt) := Int.mul_le_mul_of_nonneg_left (by omega) hc.1
    have h2 : c.toInt * (hi - x.toInt) ≤ 300 * (hi - x.toInt) := Int.mul_le_mul_of_nonneg_right hc.2 (by omega)
    omega
  have a2 : 300 * (lo - x.toInt) ≤ c.toInt * (y.toInt - x.toInt) := by
    have h1 : c.toInt * (lo - x.toInt) ≤ c.toInt * (y.toInt - x.toInt) := Int.mul_le_mul_of_nonneg_left (by omega) hc.1
    have h2 : c.toInt * (x.toInt - lo) ≤ 300 * (x.toInt - lo) := Int.mul_le_mul_of_nonneg_right hc.2 (by omega)
    have h3 : c.toInt * (lo - x.toInt) = -(c.toInt * (x.toInt - lo)) := by
      rw [← Int.mul_neg]
      congr 1
      omega
    omega
  generalize c.toInt * (y.toInt - x.toInt) = z at a1 a2
  by_cases hz : 0 ≤ z
  · rw [Int.tdiv_eq_ediv_of_nonneg hz]
    omega
  · rw [show z = -(-z) by omega, Int.neg_tdiv, Int.tdiv_eq_ediv_of_nonneg (show 0 ≤ -z by omega)]
    omega
theorem cd_r {st : Nat → Int32} {n i : Nat} {lo hi : Int} (h6 : n ≤ 6) (hi' : i < n) (hM : MX n st) (ht : ∀ j, j < n → rg (st (11 * j + 21)) (-200000) 200000 ∧ lo ≤ (st (11 * j + 21)).toInt ∧ (st (11 * j + 21)).toInt ≤ hi) : ∀ m, m ≤ n → (m : Int) * (lo - (st (11 * i + 21)).toInt) ≤ (cdF st i m).toInt ∧ (cdF st i m).toInt ≤ (m : Int) * (hi - (st (11 * i + 21)).toInt)
  | 0, _ => by
    show ((0 : Nat) : Int) * _ ≤ (0 : Int64).toInt ∧ (0 : Int64).toInt ≤ ((0 : Nat) : Int) * _
    have z : (0 : Int64).toInt = 0 := by decide
    rw [z]
    constructor <;> simp
  | m + 1, hm => by
    have ih := cd_r h6 hi' hM ht m (by omega)
    obtain ⟨a1, a2, a3⟩ := ht i hi'
    obtain ⟨b1, b2, b3⟩ := ht m (by omega)
    have f := flow_r (hM i m hi' (by omega)) a1 b1 a2 a3 b2 b3
    have cb := cd_rg (st := st) (n := n) (by omega) hi' (fun j hj => (ht j hj).1) m (by omega)
    have fb := flow_b (c := st (12 * i + m + 152)) a1 b1
    rw [cd_s, (l64a cb fb (by omega) (by omega)).1]
    have e1 : ((m + 1 : Nat) : Int) * (lo - (st (11 * i + 21)).toInt) = (m : Int) * (lo - (st (11 * i + 21)).toInt) + (lo - (st (11 * i + 21)).toInt) := by
      rw [show ((m + 1 : Nat) : Int) = (m : Int) + 1 by omega, Int.add_mul, Int.one_mul]
    have e2 : ((m + 1 : Nat) : Int) * (hi - (st (11 * i + 21)).toInt) = (m : Int) * (hi - (st (11 * i + 21)).toInt) + (hi - (st (11 * i + 21)).toInt) := by
      rw [show ((m + 1 : Nat) : Int) = (m : Int) + 1 by omega, Int.add_mul, Int.one_mul]
    omega
section RIS
variable {lo hi : Int32} {n : Nat} {s : Sc}
theorem RI.smp (h : RI lo hi n s) : Smp (sR s) := Or.inl h.2.2.2.2.1
theorem ri_q3 (hg : GdT 100000000 s) (h : RI lo hi n s) {k : Nat} (h11 : k ≠ 11) (h17 : k ≠ 17) : q3 s k = sS s k :=
  q3_k hg h.smp ⟨h11, h17⟩ (fun j hj => by rw [h.2.2.1] at hj; omega) (fun j hj => by rw [h.2.2.2.1] at hj; omega)
theorem ri_keep (hg : GdT 100000000 s) (h : RI lo hi n s) {k : Nat} (h0 : k ≠ 0 ∧ k ≠ 11 ∧ k ≠ 16 ∧ k ≠ 17) (h4 : k < 402) (hN : ∀ j, j < sN s → k ≠ 11 * j + 21 ∧ ¬ (11 * j + 27 ≤ k ∧ k ≤ 11 * j + 30)) : sS (sp s) k = sS s k :=
  sp_keep hg h.smp h0 h4 hN (fun j hj => by rw [h.2.2.1] at hj; omega) (fun j hj => by rw [h.2.2.2.1] at hj; omega)
theorem ri_em (hg : GdT 100000000 s) (h : RI lo hi n s) {i : Nat} (hi' : i < n) : emF (q3 s) (sL s) i = 0 := by
  have hl := h.2.2.1
  have hN := h.2.2.2.2.2.1
  have e : areaF (q3 s) i (sL s) = 0 := by
    rw [hl]
    show Int32.toInt64 (q3 s (11 * i + 22)) = 0
    rw [ri_q3 hg h (by omega) (by omega), (hN i hi').1.1]
    rfl
  unfold emF emA
  rw [e, Int64.zero_mul, Int64.zero_mul, Int64.zero_mul, Int64.zero_mul, Int64.zero_mul]
  rfl
theorem ab_z {st : Nat → Int32} {i : Nat} (h2 : st (11 * i + 22) = 0) (h3 : st (11 * i + 23) = 0) : absF st i = 0 := by
  unfold absF
  rw [h2, h3]
  have z : Int32.toInt64 0 = 0 := rfl
  rw [z]
  simp only [Int64.zero_mul]
  split
  · rfl
  · rfl
/-- the temperatures stay between the two; nothing else moves -/
theorem RI_sp (hg : GdT 100000000 s) (h6 : n ≤ 6) (hM : MX n (sS s)) (h : RI lo hi n s) : RI lo hi n (sp s) ∧ MX n (sS (sp s)) ∧ svi s = 0 := by
  have hh := h
  obtain ⟨hJ, hn, hl, hh0, hR, hN, ⟨e0, e1, e2⟩, b1, b2⟩ := hh
  have k3 : ∀ k, k ≠ 11 → k ≠ 17 → q3 s k = sS s k := fun k x y => ri_q3 hg h x y
  have hMq : MX n (q3 s) := fun i j hi hj => by
    rw [k3 _ (by omega) (by omega)]
    exact hM i j hi hj
  have tq : ∀ j, j < n → rg (q3 s (11 * j + 21)) (-200000) 200000 ∧ lo.toInt ≤ (q3 s (11 * j + 21)).toInt ∧ (q3 s (11 * j + 21)).toInt ≤ hi.toInt := fun j hj => by
    rw [k3 _ (by omega) (by omega)]
    exact ⟨(hg.nd (by omega)).2.1, (hN j hj).2.2⟩
  have tmp : ∀ i, i < n → lo.toInt ≤ (sS (sp s) (11 * i + 21)).toInt ∧ (sS (sp s) (11 * i + 21)).toInt ≤ hi.toInt := fun i hi' => by
    have hi2 : i < sN s := by omega
    have t := sp_tmp hg hJ hi2
    obtain ⟨⟨z22, z23, z24, z25, z26⟩, cp, t1, t2⟩ := hN i hi'
    have nb := (net_i (q3_NB hg hJ hi2)).1
    have ht0 : htF (q3 s) i 0 (sH s) = 0 := by
      rw [hh0]
      rfl
    rw [k3 (11 * i + 24) (by omega) (by omega), z24, ri_em hg h hi', ht0, q3_abs hg h.smp hi2, ab_z z22 z23, hn] at nb
    have z : (0 : Int64).toInt = 0 := by decide
    have z' : (0 : Int32).toInt = 0 := rfl
    rw [z, z'] at nb
    have cr := cd_r h6 hi' hMq tq n (Nat.le_refl _)
    rw [k3 (11 * i + 21) (by omega) (by omega)] at cr
    have m6 : (6 : Int) * (lo.toInt - (sS s (11 * i + 21)).toInt) ≤ (n : Int) * (lo.toInt - (sS s (11 * i + 21)).toInt) := by
      have := Int.mul_le_mul_of_nonneg_right (c := (sS s (11 * i + 21)).toInt - lo.toInt) (show (n : Int) ≤ 6 by omega) (by omega)
      have e3 : ∀ q : Int, q * (lo.toInt - (sS s (11 * i + 21)).toInt) = -(q * ((sS s (11 * i + 21)).toInt - lo.toInt)) := fun q => by
        rw [← Int.mul_neg]
        congr 1
        omega
      rw [e3 6, e3 n]
      omega
    have m7 : (n : Int) * (hi.toInt - (sS s (11 * i + 21)).toInt) ≤ (6 : Int) * (hi.toInt - (sS s (11 * i + 21)).toInt) := Int.mul_le_mul_of_nonneg_right (by omega) (by omega)
    have s1 := hg.g.2.1.1
    have s2 := hg.g.2.1.2
    rw [hn, hl, hh0] at t
    rw [hl, hh0] at nb
    have n1 : 6 * (lo.toInt - (sS s (11 * i + 21)).toInt) ≤ (netF (q3 s) n 0 0 i).toInt := by omega
    have n2 : (netF (q3 s) n 0 0 i).toInt ≤ 6 * (hi.toInt - (sS s (11 * i + 21)).toInt) := by omega
    have x1 : 360 * (lo.toInt - (sS s (11 * i + 21)).toInt) ≤ (netF (q3 s) n 0 0 i).toInt * (sS s 1).toInt := by
      have y1 : 6 * (lo.toInt - (sS s (11 * i + 21)).toInt) * (sS s 1).toInt ≤ (netF (q3 s) n 0 0 i).toInt * (sS s 1).toInt := Int.mul_le_mul_of_nonneg_right n1 (by omega)
      have y2 : (6 * ((sS s (11 * i + 21)).toInt - lo.toInt)) * (sS s 1).toInt ≤ (6 * ((sS s (11 * i + 21)).toInt - lo.toInt)) * 60 := Int.mul_le_mul_of_nonneg_left s2 (by omega)
      have y3 : 6 * (lo.toInt - (sS s (11 * i + 21)).toInt) * (sS s 1).toInt = -((6 * ((sS s (11 * i + 21)).toInt - lo.toInt)) * (sS s 1).toInt) := by
        rw [← Int.neg_mul]
        congr 1
        omega
      omega
    have x2 : (netF (q3 s) n 0 0 i).toInt * (sS s 1).toInt ≤ 360 * (hi.toInt - (sS s (11 * i + 21)).toInt) := by
      have y1 : (netF (q3 s) n 0 0 i).toInt * (sS s 1).toInt ≤ 6 * (hi.toInt - (sS s (11 * i + 21)).toInt) * (sS s 1).toInt := Int.mul_le_mul_of_nonneg_right n2 (by omega)
      have y2 : (6 * (hi.toInt - (sS s (11 * i + 21)).toInt)) * (sS s 1).toInt ≤ (6 * (hi.toInt - (sS s (11 * i + 21)).toInt)) * 60 := Int.mul_le_mul_of_nonneg_left s2 (by omega)
      omega
    have d := tdiv_b cp (by omega) (by omega) x1 x2
    omega
  have keep : ∀ k, (k ≠ 0 ∧ k ≠ 11 ∧ k ≠ 16 ∧ k ≠ 17) → k < 402 → (∀ j, j < n → k ≠ 11 * j + 21 ∧ ¬ (11 * j + 27 ≤ k ∧ k ≤ 11 * j + 30)) → sS (sp s) k = sS s k := fun k x y z => ri_keep hg h x y (fun j hj => z j (by omega))
  refine ⟨⟨LJ_sp hg hJ, hn, hl, hh0, hR, fun i hi' => ?_, ⟨?_, ?_, ?_⟩, b1, b2⟩, fun i j hi hj => ?_, ?_⟩
  · rw [keep (11 * i + 22) ⟨by omega, by omega, by omega, by omega⟩ (by omega) (fun j hj => by omega), keep (11 * i + 23) ⟨by omega, by omega, by omega, by omega⟩ (by omega) (fun j hj => by omega), keep (11 * i + 24) ⟨by omega, by omega, by omega, by omega⟩ (by omega) (fun j hj => by omega), keep (11 * i + 25) ⟨by omega, by omega, by omega, by omega⟩ (by omega) (fun j hj => by omega), keep (11 * i + 26) ⟨by omega, by omega, by omega, by omega⟩ (by omega) (fun j hj => by omega), keep (11 * i + 20) ⟨by omega, by omega, by omega, by omega⟩ (by omega) (fun j hj => by omega)]
    exact ⟨(hN i hi').1, (hN i hi').2.1, tmp i hi'⟩
  · have ee : sE (sp s) 0 = sE s 0 + Int32.toInt64 (q3 s 1) * emS (q3 s) (sL s) (sN s) := rfl
    have z : ∀ m, m ≤ n → emS (q3 s) (sL s) m = 0 := by
      intro m
      induction m with
      | zero => intro _; rfl
      | succ m ih =>
        intro hm
        show emS (q3 s) (sL s) m + emF (q3 s) (sL s) m = 0
        rw [ih (by omega), ri_em hg h (by omega)]
        rfl
    rw [ee, e0, hn, z n (Nat.le_refl _), Int64.mul_zero]
    rfl
  · have z : ∀ m, m ≤ n → abS (sS s) m = 0 := by
      intro m
      induction m with
      | zero => intro _; rfl
      | succ m ih =>
        intro hm
        show abS (sS s) m + absF (sS s) m = 0
        rw [ih (by omega), ab_z (hN m (by omega)).1.1 (hN m (by omega)).1.2.1]
        rfl
    rw [(sp_e1 hg h.smp).1, e1, hn, z n (Nat.le_refl _), Int64.mul_zero]
    rfl
  · rw [(sp_e1 hg h.smp).2, e2, hh0]
    show 0 + Int32.toInt64 (sS s 1) * Int32.toInt64 (0 : Int32) = 0
    have z : Int32.toInt64 (0 : Int32) = 0 := rfl
    rw [z, Int64.mul_zero]
    rfl
  · rw [keep (12 * i + j + 152) ⟨by omega, by omega, by omega, by omega⟩ (by omega) (fun j hj => by omega)]
    exact hM i j hi hj
  · have z : ∀ m, m ≤ n → ouN (sS (sp s)) m = 0 := by
      intro m
      induction m with
      | zero => intro _; rfl
      | succ m ih =>
        intro hm
        show ouN (sS (sp s)) m + (if outF (sS (sp s)) m = true then 1 else 0) = 0
        have t := tmp m (by omega)
        have k25 := keep (11 * m + 25) ⟨by omega, by omega, by omega, by omega⟩ (by omega) (fun j hj => by omega)
        have k26 := keep (11 * m + 26) ⟨by omega, by omega, by omega, by omega⟩ (by omega) (fun j hj => by omega)
        rw [ih (by omega), if_neg (fun c => ?_)]
        unfold outF at c
        rw [Bool.or_eq_true, decide_eq_true_eq, decide_eq_true_eq, Int32.lt_iff_toInt_lt, Int32.lt_iff_toInt_lt, k25, k26, (hN m (by omega)).1.2.2.2.1, (hN m (by omega)).1.2.2.2.2] at c
        have z1 : (-200000 : Int32).toInt = -200000 := by decide
        have z2 : (200000 : Int32).toInt = 200000 := by decide
        omega
    have v := sp_vio hg
    rw [hn, z n (Nat.le_refl _), if_pos rfl] at v
    have v2 : vcs s 1 = if svi s = 0 then (0 : Int32) else 0 + 1 := rfl
    rw [v2] at v
    by_cases c : svi s = 0
    · exact c
    · rw [if_neg c] at v
      exact absurd v (by decide)
theorem RI_it (hg : GdT 100000000 s) (h6 : n ≤ 6) (hM : MX n (sS s)) (h : RI lo hi n s) : ∀ k : Nat, (sS s 0).toInt + 60 * (k : Int) ≤ 100000000 → RI lo hi n (it s k) ∧ MX n (sS (it s k)) ∧ vcs s k = 0 ∧ GdT 100000000 (it s k) ∧ (sS (it s k) 0).toInt ≤ (sS s 0).toInt + 60 * (k : Int)
  | 0, _ => ⟨h, hM, rfl, hg, by show (sS s 0).toInt ≤ _; omega⟩
  | k + 1, hT => by
    obtain ⟨a1, a2, a3, a4, a5⟩ := RI_it hg h6 hM h k (by omega)
    obtain ⟨c1, c2, c3⟩ := RI_sp a4 h6 a2 a1
    have st := a4.g.2.1.2
    have tm := sp_tm a4
    refine ⟨c1, c2, ?_, gd_it (s := it s k) (i := 1) a4 (by omega) (by omega), by show (sS (sp (it s k)) 0).toInt ≤ _; omega⟩
    show (if svi (it s k) = 0 then vcs s k else vcs s k + 1) = 0
    rw [if_pos c3, a3]
end RIS
