/-! WHAT HOLDS OF THE LAW'S CRAFT, and stays so -/
def LJ (s : Sc) : Prop :=
  (∀ i, i < sN s → rg (sS s (11 * i + 22)) 0 10000 ∧ rg (sS s (11 * i + 23)) 0 10000 ∧ rg (sS s (11 * i + 24)) 0 1000000 ∧ rg (sS s (11 * i + 25)) (-200000) 200000 ∧ rg (sS s (11 * i + 26)) (-200000) 200000 ∧ (sS s (11 * i + 30) = -1 ∨ rg (sS s (11 * i + 30)) 0 (sS s 0).toInt)) ∧
  (∀ l, l < sL s → rg (sS s (7 * l + 297)) 0 10000 ∧ rg (sS s (7 * l + 301)) 0 1000) ∧
  SO (sS s) ∧ (0 ≤ (sE s 0).toInt ∧ (sE s 0).toInt ≤ 1000000000 * (sS s 0).toInt) ∧ Smp (sR s)
section LJS
variable {T : Int} {s : Sc}
theorem GdT.n12 (h : GdT T s) : sN s ≤ 12 := h.1.1.2.1
theorem GdT.l6 (h : GdT T s) : sL s ≤ 6 := h.1.1.2.2.2.1
theorem GdT.h8 (h : GdT T s) : sH s ≤ 8 := h.1.1.2.2.2.2.2.1
theorem GdT.g (h : GdT T s) : InvG T (sS s) := h.1.1.2.2.2.2.2.2.1
theorem GdT.nd (h : GdT T s) {i : Nat} (hi : i < sN s) : InvN (sS s) i := h.1.1.2.2.2.2.2.2.2.1 i hi
theorem GdT.lo (h : GdT T s) {i : Nat} (hi : i < sL s) : InvL (sS s) (sN s) i := h.1.1.2.2.2.2.2.2.2.2.1 i hi
theorem GdT.he (h : GdT T s) {i : Nat} (hi : i < sH s) : InvH (sS s) (sN s) i := h.1.1.2.2.2.2.2.2.2.2.2.1 i hi
theorem q1_k (h : GdT T s) (hS : Smp (sR s)) {k : Nat} (hL : ∀ j, j < sL s → k ≠ 7 * j + 302) : q1 s k = sS s k := rul_smp hS h.2 hL
theorem q2_k (h : GdT T s) (hS : Smp (sR s)) {k : Nat} (hL : ∀ j, j < sL s → k ≠ 7 * j + 301 ∧ k ≠ 7 * j + 302) : q2 s k = sS s k := by
  unfold q2
  rw [mvF_ne _ _ (fun j hj => (hL j hj).1)]
  exact q1_k h hS (fun j hj => (hL j hj).2)
theorem q3_k (h : GdT T s) (hS : Smp (sR s)) {k : Nat} (h0 : k ≠ 11 ∧ k ≠ 17) (hL : ∀ j, j < sL s → k ≠ 7 * j + 301 ∧ k ≠ 7 * j + 302) (hH : ∀ j, j < sH s → k ≠ 8 * j + 344 ∧ k ≠ 8 * j + 345) : q3 s k = sS s k := by
  unfold q3
  rw [switchF_ne h0.1 h0.2 hH]
  exact q2_k h hS hL
theorem sp_keep (h : GdT T s) (hS : Smp (sR s)) {k : Nat} (h0 : k ≠ 0 ∧ k ≠ 11 ∧ k ≠ 16 ∧ k ≠ 17) (h4 : k < 402) (hN : ∀ j, j < sN s → k ≠ 11 * j + 21 ∧ ¬ (11 * j + 27 ≤ k ∧ k ≤ 11 * j + 30)) (hL : ∀ j, j < sL s → k ≠ 7 * j + 301 ∧ k ≠ 7 * j + 302) (hH : ∀ j, j < sH s → k ≠ 8 * j + 344 ∧ k ≠ 8 * j + 345) : sS (sp s) k = sS s k := by
  rw [sp_q3 h.n12 h0.1 h0.2.2.1 h4 hN]
  exact q3_k h hS ⟨h0.2.1, h0.2.2.2⟩ hL hH
theorem GdT.own (h : GdT T s) {l : Nat} (hl : l < sL s) : own (sS s) (7 * l + 296) < sN s := by
  obtain ⟨⟨o, ho, e⟩, -⟩ := h.lo hl
  have := h.n12
  rw [own_of e (by omega)]
  exact ho
/-- an opening behind a step -/
theorem sp_301 (h : GdT T s) (hS : Smp (sR s)) {l : Nat} (hl : l < sL s) : sS (sp s) (7 * l + 301) = (if sS (sp s) (7 * l + 302) = 1 then sS s (7 * l + 301) else opnF (sS s) (own (sS s) (7 * l + 296)) l) ∧ q2 s (7 * l + 301) = sS (sp s) (7 * l + 301) := by
  have n12 := h.n12
  have l6 := h.l6
  have h8 := h.h8
  have e1 : sS (sp s) (7 * l + 301) = q2 s (7 * l + 301) := sp_q2 n12 ⟨by omega, by omega, by omega⟩ (by omega) (by omega) (fun j hj => by omega) (fun j hj => by omega)
  have e2 : sS (sp s) (7 * l + 302) = q2 s (7 * l + 302) := sp_q2 n12 ⟨by omega, by omega, by omega⟩ (by omega) (by omega) (fun j hj => by omega) (fun j hj => by omega)
  have e3 : q2 s (7 * l + 302) = q1 s (7 * l + 302) := mvF_ne _ _ (fun j hj => by omega)
  have k : ∀ k, (∀ j, j < sL s → k ≠ 7 * j + 302) → q1 s k = sS s k := fun k hk => q1_k h hS hk
  have eo : own (q1 s) (7 * l + 296) = own (sS s) (7 * l + 296) := own_eq (k _ (fun j hj => by omega))
  have ho := h.own hl
  refine ⟨?_, e1.symm⟩
  rw [e1, e2, e3]
  show mvF (q1 s) (sL s) _ = _
  rw [mv301 (by rw [eo]; omega) (by omega) _ hl l6, eo, k (7 * l + 301) (fun j hj => by omega)]
  rw [opnF_eq (k _ (fun j hj => by omega)) (k _ (fun j hj => by omega)) (k _ (fun j hj => by omega)) (k _ (fun j hj => by omega)) (k _ (fun j hj => by omega))]
theorem sp_way (h : GdT T s) (hJ : LJ s) {l : Nat} (hl : l < sL s) : rg (sS (sp s) (7 * l + 301)) 0 1000 ∧ (sS (sp s) (7 * l + 302) = 1 → sS (sp s) (7 * l + 301) - sS s (7 * l + 301) = 0) ∧ (¬ sS (sp s) (7 * l + 302) = 1 → sS (sp s) (7 * l + 301) - sS s (7 * l + 301) = imax (-sS s (7 * l + 300)) (imin (sS s (7 * l + 300)) (tgtF (sS s) (own (sS s) (7 * l + 296)) l - sS s (7 * l + 301)))) := by
  have hr := (h.lo hl).2.2.2.1
  have hw := way_ok (t := tgtF (sS s) (own (sS s) (7 * l + 296)) l) (o := sS s (7 * l + 301)) (r := sS s (7 * l + 300)) (tgt_rg _ _ _) ((hJ.2.1 l hl).2) ⟨by have := hr.1; omega, hr.2⟩
  rw [(sp_301 h hJ.2.2.2.2 hl).1]
  by_cases c : sS (sp s) (7 * l + 302) = 1
  · rw [if_pos c]
    exact ⟨(hJ.2.1 l hl).2, fun _ => Int32.sub_self _, fun z => absurd c z⟩
  · rw [if_neg c]
    exact ⟨hw.2, fun z => absurd z c, fun _ => hw.1⟩
theorem q3_ao (h : GdT T s) (hJ : LJ s) {i : Nat} (hi : i < sN s) : AO (q3 s) (sL s) i := by
  have n12 := h.n12
  have l6 := h.l6
  have h8 := h.h8
  refine ⟨?_, ?_, fun l hl => ⟨?_, ?_⟩⟩
  · rw [q3_k h hJ.2.2.2.2 ⟨by omega, by omega⟩ (fun j hj => by omega) (fun j hj => by omega)]
    exact (hJ.1 i hi).1
  · rw [q3_k h hJ.2.2.2.2 ⟨by omega, by omega⟩ (fun j hj => by omega) (fun j hj => by omega)]
    exact (h.nd hi).2.1
  · rw [q3_k h hJ.2.2.2.2 ⟨by omega, by omega⟩ (fun j hj => by omega) (fun j hj => by omega)]
    exact (hJ.2.1 l hl).1
  · unfold q3
    rw [switchF_ne (by omega) (by omega) (fun j hj => by omega), (sp_301 h hJ.2.2.2.2 hl).2]
    exact (sp_way h hJ hl).1
theorem ems_rg {st : Nat → Int32} {n nl : Nat} (h : ∀ i, i < n → AO st nl i) (h6 : nl ≤ 6) (h12 : n ≤ 12) : ∀ m, m ≤ n → 0 ≤ (emS st nl m).toInt ∧ (emS st nl m).toInt ≤ 20000000 * (m : Int)
  | 0, _ => by
    show 0 ≤ (0 : Int64).toInt ∧ (0 : Int64).toInt ≤ 20000000 * ((0 : Nat) : Int)
    have z : (0 : Int64).toInt = 0 := by decide
    omega
  | m + 1, hm => by
    have ih := ems_rg h h6 h12 m (by omega)
    have e := em_rg (h m (by omega)) h6
    show 0 ≤ (emS st nl m + emF st nl m).toInt ∧ (emS st nl m + emF st nl m).toInt ≤ _
    have := l64a ih e (by omega) (by omega)
    omega
/-- time behind a step -/
theorem sp_tm (h : GdT 100000000 s) : (sS (sp s) 0).toInt = (sS s 0).toInt + (sS s 1).toInt := by
  have e := (sp_time h (by decide)).1
  have g := h.g
  rw [e]
  have := g.1.1
  have := g.1.2
  have := g.2.1.1
  have := g.2.1.2
  rw [Int32.toInt_add, Int.bmod_eq_of_le (by omega) (by omega)]
theorem sp_e0 (h : GdT 100000000 s) (hJ : LJ s) : (sE s 0).toInt ≤ (sE (sp s) 0).toInt ∧ (sE (sp s) 0).toInt ≤ 1000000000 * (sS (sp s) 0).toInt := by
  have n12 := h.n12
  have l6 := h.l6
  have h8 := h.h8
  have g := h.g
  have e1 : q3 s 1 = sS s 1 := q3_k h hJ.2.2.2.2 ⟨by omega, by omega⟩ (fun j hj => by omega) (fun j hj => by omega)
  have em := ems_rg (fun i hi => q3_ao h hJ hi) l6 n12 (sN s) (Nat.le_refl _)
  have ht := sp_tm h
  have g1 := g.1.1
  have g2 := g.1.2
  have g3 := g.2.1.1
  have g4 := g.2.1.2
  obtain ⟨j1, j2⟩ := hJ.2.2.2.1
  have ee : sE (sp s) 0 = sE s 0 + Int32.toInt64 (q3 s 1) * emS (q3 s) (sL s) (sN s) := rfl
  rw [ee, e1]
  have hp : (Int32.toInt64 (sS s 1) * emS (q3 s) (sL s) (sN s)).toInt = (sS s 1).toInt * (emS (q3 s) (sL s) (sN s)).toInt := by
    rw [(l64m (x := Int32.toInt64 (sS s 1)) (A := 60) (B := 240000000) (by rw [Int32.toInt_toInt64]; omega) ⟨em.1, by omega⟩ (by decide)).1, Int32.toInt_toInt64]
  have b0 : 0 ≤ (sS s 1).toInt * (emS (q3 s) (sL s) (sN s)).toInt := Int.mul_nonneg (by omega) em.1
  have b1 : (sS s 1).toInt * (emS (q3 s) (sL s) (sN s)).toInt ≤ (sS s 1).toInt * 240000000 := Int.mul_le_mul_of_nonneg_left (by omega) (by omega)
  have ha := l64a (x := sE s 0) (y := Int32.toInt64 (sS s 1) * emS (q3 s) (sL s) (sN s)) (a := 0) (b := 100000000000000000) (c := 0) (e := 60 * 240000000) ⟨j1, by omega⟩ ⟨by rw [hp]; exact b0, by rw [hp]; omega⟩ (by decide) (by decide)
  rw [ha.1, hp, ht]
  omega
theorem LJ_sp (h : GdT 100000000 s) (hJ : LJ s) : LJ (sp s) := by
  have n12 := h.n12
  have l6 := h.l6
  have h8 := h.h8
  have hS := hJ.2.2.2.2
  have g := h.g
  have g1 := g.1.1
  have g3 := g.2.1.1
  have ht := sp_tm h
  refine ⟨fun i hi => ?_, fun l hl => ⟨?_, (sp_way h hJ hl).1⟩, ⟨?_, ?_, ?_⟩, ?_, hS⟩
  · have hi' : i < sN s := hi
    obtain ⟨a1, a2, a3, a4, a5, a6⟩ := hJ.1 i hi
    rw [sp_keep h hS (k := 11 * i + 22) ⟨by omega, by omega, by omega, by omega⟩ (by omega) (fun j hj => by omega) (fun j hj => by omega) (fun j hj => by omega),
      sp_keep h hS (k := 11 * i + 23) ⟨by omega, by omega, by omega, by omega⟩ (by omega) (fun j hj => by omega) (fun j hj => by omega) (fun j hj => by omega),
      sp_keep h hS (k := 11 * i + 24) ⟨by omega, by omega, by omega, by omega⟩ (by omega) (fun j hj => by omega) (fun j hj => by omega) (fun j hj => by omega),
      sp_keep h hS (k := 11 * i + 25) ⟨by omega, by omega, by omega, by omega⟩ (by omega) (fun j hj => by omega) (fun j hj => by omega) (fun j hj => by omega),
      sp_keep h hS (k := 11 * i + 26) ⟨by omega, by omega, by omega, by omega⟩ (by omega) (fun j hj => by omega) (fun j hj => by omega) (fun j hj => by omega)]
    refine ⟨a1, a2, a3, a4, a5, ?_⟩
    have e0 : sS (sp s) 0 = q5 s 0 := by
      rw [sp_S, recF_ne (by omega) (by omega) _ (fun j hj => by omega)]
    rcases rec30 (st := q5 s) (n := sN s) hi' n12 with c | c
    · have e30 : q5 s (11 * i + 30) = sS s (11 * i + 30) := by
        show upd (q4 s) 0 _ _ = _
        rw [upd_ne (by omega)]
        unfold q4
        rw [warmF_ne _ _ _ _ _ (fun j hj => by omega)]
        exact q3_k h hS ⟨by omega, by omega⟩ (fun j hj => by omega) (fun j hj => by omega)
      rw [sp_S, c, e30]
      rcases a6 with a6 | a6
      · exact Or.inl a6
      · refine Or.inr ⟨a6.1, ?_⟩
        rw [← sp_S, ht]
        have := a6.2
        omega
    · refine Or.inr ?_
      rw [sp_S, c, ← e0, ← sp_S, e0, ← e0]
      exact ⟨by omega, Int.le_refl _⟩
  · rw [sp_keep h hS (k := 7 * l + 297) ⟨by omega, by omega, by omega, by omega⟩ (by have : l < sL s := hl; omega) (fun j hj => by omega) (fun j hj => by omega) (fun j hj => by have : l < sL s := hl; omega)]
    exact (hJ.2.1 l hl).1
  · rw [sp_keep h hS (k := 5) ⟨by omega, by omega, by omega, by omega⟩ (by omega) (fun j hj => by omega) (fun j hj => by omega) (fun j hj => by omega)]
    exact hJ.2.2.1.1
  · rw [sp_keep h hS (k := 6) ⟨by omega, by omega, by omega, by omega⟩ (by omega) (fun j hj => by omega) (fun j hj => by omega) (fun j hj => by omega)]
    exact hJ.2.2.1.2.1
  · rw [sp_keep h hS (k := 7) ⟨by omega, by omega, by omega, by omega⟩ (by omega) (fun j hj => by omega) (fun j hj => by omega) (fun j hj => by omega)]
    exact hJ.2.2.1.2.2
  · obtain ⟨c1, c2⟩ := sp_e0 h hJ
    exact ⟨by have := hJ.2.2.2.1.1; omega, c2⟩
end LJS
