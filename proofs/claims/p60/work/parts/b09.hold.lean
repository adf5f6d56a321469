/-! THE LAW'S INVARIANT; CONTRACT: holdsCharge -/
def LG (G : Cx) (Λ : Lc) (T : Int) (X : Lx) (m : Mm) (A : Ab) : Prop := CIv (atC G (lB Λ) false) m A ∧ LJ (aS A) ∧ LX (aS A) X ∧ 1 ≤ sN (aS A) ∧ (sS (aS A) 0).toInt ≤ T
section LGS
variable {G : Cx} {d : Nat} {Λ : Lc} {X X' : Lx} {ext : va_W} {m m' : Mm} {A : Ab} {ce : List (Nat × Mm)} {Q : Option Value → LM → Prop} {T T' : Int}
theorem LG.c (h : LG G Λ T X m A) : CIv (atC G (lB Λ) false) m A := h.1
theorem LG.g (h : LG G Λ T X m A) : GdT 100000000 (aS A) := h.1.gd
theorem LX.of {s : Sc} (h : LX s X) (e : X'.2 = X.2) : LX s X' := by
  unfold LX xP xW xR at h ⊢
  rw [e]
  exact h
theorem LX_sp {s : Sc} (hg : GdT T s) (hS : Smp (sR s)) (h : LX s X) : LX (sp s) X := by
  have n12 := hg.n12
  have l6 := hg.l6
  have h8 := hg.h8
  refine ⟨fun j hj => ?_, fun l hl => ?_⟩
  · have hj' : j < sH s := hj
    rw [sp_keep hg hS (k := 8 * j + 342) ⟨by omega, by omega, by omega, by omega⟩ (by omega) (fun i hi => by omega) (fun i hi => by omega) (fun i hi => by omega), sp_keep hg hS (k := 8 * j + 339) ⟨by omega, by omega, by omega, by omega⟩ (by omega) (fun i hi => by omega) (fun i hi => by omega) (fun i hi => by omega)]
    exact h.1 j hj
  · have hl' : l < sL s := hl
    rw [sp_keep hg hS (k := 7 * l + 300) ⟨by omega, by omega, by omega, by omega⟩ (by omega) (fun i hi => by omega) (fun i hi => by omega) (fun i hi => by omega)]
    exact h.2 l hl
theorem LG.stp (h : LG G Λ T X m A) (hC : CIv (atC G (lB Λ) false) m' (sp (aS A), A.2)) : LG G Λ (T + 60) X m' (sp (aS A), A.2) := by
  obtain ⟨h1, h2, h3, h4, h5⟩ := h
  refine ⟨hC, LJ_sp h1.gd h2, LX_sp h1.gd h2.2.2.2.2 h3, h4, ?_⟩
  have := sp_tm h1.gd
  have := h1.gd.g.2.1.2
  show (sS (sp (aS A)) 0).toInt ≤ T + 60
  omega
theorem LG.x (h : LG G Λ T X m A) (e : X'.2 = X.2) : LG G Λ T X' m A := ⟨h.1, h.2.1, h.2.2.1.of e, h.2.2.2⟩
theorem LG.t (h : LG G Λ T X m A) (e : T ≤ T') : LG G Λ T' X m A := ⟨h.1, h.2.1, h.2.2.1, h.2.2.2.1, Int.le_trans h.2.2.2.2 e⟩
/-- another state, that differs only where it doesn't matter -/
theorem LJ.of {s s' : Sc} (hJ : LJ s) (hn : s'.2 = s.2) (h' : ∀ k, (k = 0 ∨ (k = 5 ∨ k = 6 ∨ k = 7) ∨ (∃ j, j < sN s ∧ (k = 11 * j + 22 ∨ k = 11 * j + 23 ∨ k = 11 * j + 24 ∨ k = 11 * j + 25 ∨ k = 11 * j + 26 ∨ k = 11 * j + 30)) ∨ ∃ l, l < sL s ∧ (k = 7 * l + 297 ∨ k = 7 * l + 301)) → sS s' k = sS s k) : LJ s' := by
  obtain ⟨a, b⟩ := s
  obtain ⟨a', b'⟩ := s'
  have e : b' = b := hn
  subst e
  have h0 := h' 0 (Or.inl rfl)
  obtain ⟨j1, j2, ⟨j3, j4, j5⟩, j6, j7⟩ := hJ
  refine ⟨fun i hi => ?_, fun l hl => ?_, ⟨?_, ?_, ?_⟩, ?_, j7⟩
  · have k : ∀ q, (q = 11 * i + 22 ∨ q = 11 * i + 23 ∨ q = 11 * i + 24 ∨ q = 11 * i + 25 ∨ q = 11 * i + 26 ∨ q = 11 * i + 30) → a' q = a q := fun q hq => h' q (Or.inr (Or.inr (Or.inl ⟨i, hi, hq⟩)))
    have := j1 i hi
    show rg (a' (11 * i + 22)) 0 10000 ∧ rg (a' (11 * i + 23)) 0 10000 ∧ rg (a' (11 * i + 24)) 0 1000000 ∧ rg (a' (11 * i + 25)) (-200000) 200000 ∧ rg (a' (11 * i + 26)) (-200000) 200000 ∧ (a' (11 * i + 30) = -1 ∨ rg (a' (11 * i + 30)) 0 (a' 0).toInt)
    rw [k _ (Or.inl rfl), k _ (Or.inr (Or.inl rfl)), k _ (Or.inr (Or.inr (Or.inl rfl))), k _ (Or.inr (Or.inr (Or.inr (Or.inl rfl)))), k _ (Or.inr (Or.inr (Or.inr (Or.inr (Or.inl rfl))))), k _ (Or.inr (Or.inr (Or.inr (Or.inr (Or.inr rfl))))), show a' 0 = a 0 from h0]
    exact this
  · have k : ∀ q, (q = 7 * l + 297 ∨ q = 7 * l + 301) → a' q = a q := fun q hq => h' q (Or.inr (Or.inr (Or.inr ⟨l, hl, hq⟩)))
    show rg (a' (7 * l + 297)) 0 10000 ∧ rg (a' (7 * l + 301)) 0 1000
    rw [k _ (Or.inl rfl), k _ (Or.inr rfl)]
    exact j2 l hl
  · rw [h' 5 (Or.inr (Or.inl (Or.inl rfl)))]; exact j3
  · rw [h' 6 (Or.inr (Or.inl (Or.inr (Or.inl rfl))))]; exact j4
  · rw [h' 7 (Or.inr (Or.inl (Or.inr (Or.inr rfl))))]; exact j5
  · rw [h0]
    exact j6
/-- powers, orbits: the rest stays -/
theorem LG.pow {x y z w : Int32} (h : LG G Λ T X m A) (hC : CIv (atC G (lB Λ) false) m' (stA A (powS (sS (aS A)) x y z w))) : LG G Λ T X m' (stA A (powS (sS (aS A)) x y z w)) := by
  obtain ⟨h1, h2, h3, h4, h5⟩ := h
  have n12 := h1.gd.n12
  have l6 := h1.gd.l6
  have h8 := h1.gd.h8
  refine ⟨hC, h2.of rfl (fun k hk => powS_ne ?_), ⟨fun j hj => ?_, fun l hl => ?_⟩, h4, ?_⟩
  · rcases hk with hk | hk | ⟨j, hj, hk⟩ | ⟨l, hl, hk⟩ <;> omega
  · show xP X j = powS (sS (aS A)) x y z w (8 * j + 342) ∧ xW X j = powS (sS (aS A)) x y z w (8 * j + 339)
    rw [powS_ne (by omega), powS_ne (by omega)]
    exact h3.1 j hj
  · show xR X l = powS (sS (aS A)) x y z w (7 * l + 300)
    rw [powS_ne (by omega)]
    exact h3.2 l hl
  · show (powS (sS (aS A)) x y z w 0).toInt ≤ T
    rw [powS_ne (by omega)]
    exact h5
theorem w_hold (h : LG G Λ T X m A) (hT : T + 1000 ≤ 100000000) (hs : gSl G ≤ 260) (hx : xN X + 100 < 2 ^ 30) (hQ : ∀ m' A', LG G Λ (T + 720) (xN X + 4, X.2) m' A' → Q (some (.int (1 : Int32))) (lm G Λ (xN X + 4, X.2) ext m' ce)) : WZM G (d + 20) (0, 0) μL_holdsCharge [.ref (gB G)] (lm G Λ X ext m ce) Q := by
  refine hc_0 h.c hs (by omega) (fun v1 hv1 v3 hv3 v5 hv5 v7 hv7 m9 hC9 => ?_)
  have h9 := (h.pow hC9).x (X' := (xN X + 4, X.2)) rfl
  have e10 : sS (aS (stA A (powS (sS (aS A)) (nI v5) (nI v7) (nI (1000 + v1)) (nI v3)))) 10 = nI (1000 + v1) := (powS_v (st := sS (aS A)) (x := nI v5) (y := nI v7) (z := nI (1000 + v1)) (w := nI v3)).2.2.1
  have loop : ∀ (k i : Nat) (m : Mm) (A : Ab), i + k = 12 → LG G Λ (T + 60 * (i : Int)) (xN X + 4, X.2) m A → sS (aS A) 10 = nI (1000 + v1) → WZ G (d + 20) (0, 0) μL_holdsCharge 49 [.ref (gB G), .int (nI (1000 + v1)), lvU, .int (nI i)] [] (lm G Λ (xN X + 4, X.2) ext m ce) Q := by
    intro k
    induction k with
    | zero =>
      intro i m A hi hA h10
      have hg := hA.g
      have hg1 : (sS (aS A) 0).toInt + ((1 : Nat) : Int) * (sS (aS A) 1).toInt ≤ 100000000 := by
        have := hA.2.2.2.2
        have := hg.g.2.1.2
        omega
      have hgs : GdT 100000000 (sp (aS A)) := gd_it (i := 1) hg (by omega) hg1
      have gc := hgs.g.2.2.2.2.2.2
      have e := sp_keep hg hA.2.1.2.2.2.2 (k := 10) ⟨by omega, by omega, by omega, by omega⟩ (by omega) (fun i hi => by omega) (fun i hi => by omega) (fun i hi => by omega)
      refine hc_1 (c := 1000 + v1) (i := i) hA.c (by omega) hg1 (vcs_nn _ _ (by decide)) (rg_i0 gc) ?_ (fun _ => hQ m A (hA.t (by omega))) (fun _ => hg1) (fun z => absurd z (by omega))
      show ¬ nI (1000 + v1) < sS (sp (aS A)) 11
      rw [Int32.lt_iff_toInt_lt, ← h10, ← e]
      have := gc.2
      omega
    | succ k ih =>
      intro i m A hi hA h10
      have hg := hA.g
      have hg1 : (sS (aS A) 0).toInt + ((1 : Nat) : Int) * (sS (aS A) 1).toInt ≤ 100000000 := by
        have := hA.2.2.2.2
        have := hg.g.2.1.2
        omega
      have hgs : GdT 100000000 (sp (aS A)) := gd_it (i := 1) hg (by omega) hg1
      have gc := hgs.g.2.2.2.2.2.2
      have e := sp_keep hg hA.2.1.2.2.2.2 (k := 10) ⟨by omega, by omega, by omega, by omega⟩ (by omega) (fun i hi => by omega) (fun i hi => by omega) (fun i hi => by omega)
      refine hc_1 (c := 1000 + v1) (i := i) hA.c (by omega) hg1 (vcs_nn _ _ (by decide)) (rg_i0 gc) ?_ (fun z => absurd (show i < 12 by omega) z) (fun _ => hg1) (fun _ m4 h4 => ?_)
      · show ¬ nI (1000 + v1) < sS (sp (aS A)) 11
        rw [Int32.lt_iff_toInt_lt, ← h10, ← e]
        have := gc.2
        omega
      · have hA' := hA.stp (m' := m4) h4
        refine ih (i + 1) m4 (sp (aS A), A.2) (by omega) (hA'.t (by omega)) ?_
        exact e.trans h10
  exact loop 12 0 m9 _ (by omega) (h9.t (by omega)) e10
end LGS
