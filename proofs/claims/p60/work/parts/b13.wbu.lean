/-! CONTRACT: builds -/
def BI (G : Cx) (Λ : Lc) (X : Lx) (m : Mm) (A : Ab) : Prop := CIv (atC G (lB Λ) false) m A ∧ LJ (aS A) ∧ LX (aS A) X ∧ sS (aS A) 0 = 0 ∧ sS (aS A) 1 = 10
section WBU
variable {G : Cx} {d : Nat} {Λ : Lc} {X X' : Lx} {ext : va_W} {m m' : Mm} {A : Ab} {ce : List (Nat × Mm)} {Q : Option Value → LM → Prop}
theorem adN_w {st : Nat → Int32} {q : Nat} (c t e a l : Int32) (hq : q < 12) : adN st q c t e a l (11 * q + 22) = e ∧ adN st q c t e a l (11 * q + 23) = a ∧ adN st q c t e a l (11 * q + 24) = l ∧ adN st q c t e a l (11 * q + 25) = -200000 ∧ adN st q c t e a l (11 * q + 26) = 200000 := by
  rw [adN_n hq (by omega), adN_n hq (by omega), adN_n hq (by omega), adN_n hq (by omega), adN_n hq (by omega)]
  unfold adN0
  refine ⟨?_, ?_, ?_, ?_, ?_⟩
  · rw [upd_ne (by omega), upd_ne (by omega), upd_ne (by omega), upd_ne (by omega), upd_eq]
  · rw [upd_ne (by omega), upd_ne (by omega), upd_ne (by omega), upd_eq]
  · rw [upd_ne (by omega), upd_ne (by omega), upd_eq]
  · rw [upd_ne (by omega), upd_eq]
  · rw [upd_eq]
theorem LJ.adN {s : Sc} {c t e a l : Int32} (hJ : LJ s) (h12 : sN s < 12) (he : rg e 0 10000) (ha : rg a 0 10000) (hl : rg l 0 1000000) : LJ (adN (sS s) (sN s) c t e a l, sE s, sN s + 1, s.2.2.2) := by
  obtain ⟨j1, j2, ⟨j3, j4, j5⟩, j6, j7⟩ := hJ
  have k : ∀ k, k < 11 * sN s + 20 ∨ (11 * sN s + 31 ≤ k ∧ k < 152) ∨ 296 ≤ k → k ≠ 12 → CLouvreCraftLaw_law_r3874_132e59.adN (sS s) (sN s) c t e a l k = sS s k := fun k h1 h2 => adN_ne h12 h1 h2
  refine ⟨fun i hi => ?_, fun i hi => ?_, ⟨?_, ?_, ?_⟩, ?_, j7⟩
  · have hi' : i < sN s + 1 := hi
    show rg (CLouvreCraftLaw_law_r3874_132e59.adN (sS s) (sN s) c t e a l (11 * i + 22)) 0 10000 ∧ rg (CLouvreCraftLaw_law_r3874_132e59.adN (sS s) (sN s) c t e a l (11 * i + 23)) 0 10000 ∧ rg (CLouvreCraftLaw_law_r3874_132e59.adN (sS s) (sN s) c t e a l (11 * i + 24)) 0 1000000 ∧ rg (CLouvreCraftLaw_law_r3874_132e59.adN (sS s) (sN s) c t e a l (11 * i + 25)) (-200000) 200000 ∧ rg (CLouvreCraftLaw_law_r3874_132e59.adN (sS s) (sN s) c t e a l (11 * i + 26)) (-200000) 200000 ∧ (CLouvreCraftLaw_law_r3874_132e59.adN (sS s) (sN s) c t e a l (11 * i + 30) = -1 ∨ rg (CLouvreCraftLaw_law_r3874_132e59.adN (sS s) (sN s) c t e a l (11 * i + 30)) 0 (CLouvreCraftLaw_law_r3874_132e59.adN (sS s) (sN s) c t e a l 0).toInt)
    by_cases e0 : i = sN s
    · subst e0
      obtain ⟨w1, w2, w3, w4, w5⟩ := adN_w (st := sS s) c t e a l h12
      rw [w1, w2, w3, w4, w5]
      exact ⟨he, ha, hl, ⟨by decide, by decide⟩, ⟨by decide, by decide⟩, Or.inl (adN_v c t e a l h12).2.2.2.1⟩
    · rw [k _ (by omega) (by omega), k _ (by omega) (by omega), k _ (by omega) (by omega), k _ (by omega) (by omega), k _ (by omega) (by omega), k _ (by omega) (by omega), k _ (by omega) (by omega)]
      exact j1 i (by omega)
  · show rg (CLouvreCraftLaw_law_r3874_132e59.adN (sS s) (sN s) c t e a l (7 * i + 297)) 0 10000 ∧ rg (CLouvreCraftLaw_law_r3874_132e59.adN (sS s) (sN s) c t e a l (7 * i + 301)) 0 1000
    rw [k _ (by omega) (by omega), k _ (by omega) (by omega)]
    exact j2 i hi
  · show rg (CLouvreCraftLaw_law_r3874_132e59.adN (sS s) (sN s) c t e a l 5) 0 10000
    rw [k _ (by omega) (by omega)]
    exact j3
  · show rg (CLouvreCraftLaw_law_r3874_132e59.adN (sS s) (sN s) c t e a l 6) 0 100
    rw [k _ (by omega) (by omega)]
    exact j4
  · show rg (CLouvreCraftLaw_law_r3874_132e59.adN (sS s) (sN s) c t e a l 7) 0 10000
    rw [k _ (by omega) (by omega)]
    exact j5
  · show 0 ≤ (sE s 0).toInt ∧ (sE s 0).toInt ≤ 1000000000 * (CLouvreCraftLaw_law_r3874_132e59.adN (sS s) (sN s) c t e a l 0).toInt
    rw [k _ (by omega) (by omega)]
    exact j6
theorem BI.adN {c t e a l : Int32} (h : BI G Λ X m A) (e2 : X'.2 = X.2) (h12 : sN (aS A) < 12) (he : rg e 0 10000) (ha : rg a 0 10000) (hl : rg l 0 1000000) (hC : CIv (atC G (lB Λ) false) m' (((adN (sS (aS A)) (sN (aS A)) c t e a l, sE (aS A), sN (aS A) + 1, (aS A).2.2.2), (A).2) : Ab)) : BI G Λ X' m' (((adN (sS (aS A)) (sN (aS A)) c t e a l, sE (aS A), sN (aS A) + 1, (aS A).2.2.2), (A).2) : Ab) := by
  obtain ⟨h1, h2, h3, h4, h5⟩ := h
  have k : ∀ k, k < 11 * sN (aS A) + 20 ∨ (11 * sN (aS A) + 31 ≤ k ∧ k < 152) ∨ 296 ≤ k → k ≠ 12 → CLouvreCraftLaw_law_r3874_132e59.adN (sS (aS A)) (sN (aS A)) c t e a l k = sS (aS A) k := fun k h1 h2 => adN_ne h12 h1 h2
  refine ⟨hC, h2.adN h12 he ha hl, LX.of (X := X) ⟨fun j hj => ?_, fun j hj => ?_⟩ e2, (k 0 (by omega) (by omega)).trans h4, (k 1 (by omega) (by omega)).trans h5⟩
  · show xP X j = CLouvreCraftLaw_law_r3874_132e59.adN (sS (aS A)) (sN (aS A)) c t e a l (8 * j + 342) ∧ xW X j = CLouvreCraftLaw_law_r3874_132e59.adN (sS (aS A)) (sN (aS A)) c t e a l (8 * j + 339)
    rw [k _ (by omega) (by omega), k _ (by omega) (by omega)]
    exact h3.1 j hj
  · show xR X j = CLouvreCraftLaw_law_r3874_132e59.adN (sS (aS A)) (sN (aS A)) c t e a l (7 * j + 300)
    rw [k _ (by omega) (by omega)]
    exact h3.2 j hj
theorem BI.lnk {a b : Nat} {z : Int32} {l : List Lk} (h : BI G Λ X m A) (e2 : X'.2 = X.2) (ha : a < 12) (hb : b < 12) (hC : CIv (atC G (lB Λ) false) m' (lnA A a b z l)) : BI G Λ X' m' (lnA A a b z l) := by
  obtain ⟨h1, h2, h3, h4, h5⟩ := h
  have n12 := h1.gd.n12
  have k : ∀ k, k < 152 ∨ 296 ≤ k → nwS (sS (aS A)) a b z k = sS (aS A) k := fun k hk => nwS_ne ha hb hk
  obtain ⟨j1, j2, ⟨j3, j4, j5⟩, j6, j7⟩ := h2
  refine ⟨hC, ⟨fun i hi => ?_, fun i hi => ?_, ⟨?_, ?_, ?_⟩, ?_, j7⟩, LX.of (X := X) ⟨fun j hj => ?_, fun j hj => ?_⟩ e2, (k 0 (by omega)).trans h4, (k 1 (by omega)).trans h5⟩
  · have hi' : i < sN (aS A) := hi
    show rg (nwS (sS (aS A)) a b z (11 * i + 22)) 0 10000 ∧ rg (nwS (sS (aS A)) a b z (11 * i + 23)) 0 10000 ∧ rg (nwS (sS (aS A)) a b z (11 * i + 24)) 0 1000000 ∧ rg (nwS (sS (aS A)) a b z (11 * i + 25)) (-200000) 200000 ∧ rg (nwS (sS (aS A)) a b z (11 * i + 26)) (-200000) 200000 ∧ (nwS (sS (aS A)) a b z (11 * i + 30) = -1 ∨ rg (nwS (sS (aS A)) a b z (11 * i + 30)) 0 (nwS (sS (aS A)) a b z 0).toInt)
    rw [k _ (by omega), k _ (by omega), k _ (by omega), k _ (by omega), k _ (by omega), k _ (by omega), k _ (by omega)]
    exact j1 i hi
  · show rg (nwS (sS (aS A)) a b z (7 * i + 297)) 0 10000 ∧ rg (nwS (sS (aS A)) a b z (7 * i + 301)) 0 1000
    rw [k _ (by omega), k _ (by omega)]
    exact j2 i hi
  · show rg (nwS (sS (aS A)) a b z 5) 0 10000
    rw [k _ (by omega)]
    exact j3
  · show rg (nwS (sS (aS A)) a b z 6) 0 100
    rw [k _ (by omega)]
    exact j4
  · show rg (nwS (sS (aS A)) a b z 7) 0 10000
    rw [k _ (by omega)]
    exact j5
  · show 0 ≤ (sE (aS A) 0).toInt ∧ (sE (aS A) 0).toInt ≤ 1000000000 * (nwS (sS (aS A)) a b z 0).toInt
    rw [k _ (by omega)]
    exact j6
  · show xP X j = nwS (sS (aS A)) a b z (8 * j + 342) ∧ xW X j = nwS (sS (aS A)) a b z (8 * j + 339)
    rw [k _ (by omega), k _ (by omega)]
    exact h3.1 j hj
  · show xR X j = nwS (sS (aS A)) a b z (7 * j + 300)
    rw [k _ (by omega)]
    exact h3.2 j hj
theorem BI.adL {o y z w u : Int32} (h : BI G Λ X m A) (l6 : sL (aS A) < 6) (hy : rg y 0 10000) (e2 : X'.2 = (xP X, xW X, upd (xR X) (sL (aS A)) u)) (hC : CIv (atC G (lB Λ) false) m' (((adL (sS (aS A)) (sL (aS A)) o y z w u, sE (aS A), sN (aS A), sL (aS A) + 1, (aS A).2.2.2.2), (A).2) : Ab)) : BI G Λ X' m' (((adL (sS (aS A)) (sL (aS A)) o y z w u, sE (aS A), sN (aS A), sL (aS A) + 1, (aS A).2.2.2.2), (A).2) : Ab) := by
  obtain ⟨h1, h2, h3, h4, h5⟩ := h
  have n12 := h1.gd.n12
  have k : ∀ k, k < 7 * sL (aS A) + 296 ∨ 7 * sL (aS A) + 303 ≤ k → k ≠ 13 → CLouvreCraftLaw_law_r3874_132e59.adL (sS (aS A)) (sL (aS A)) o y z w u k = sS (aS A) k := fun k h1 h2 => adL_ne h1 h2
  obtain ⟨j1, j2, ⟨j3, j4, j5⟩, j6, j7⟩ := h2
  refine ⟨hC, ⟨fun i hi => ?_, fun i hi => ?_, ⟨?_, ?_, ?_⟩, ?_, j7⟩, ⟨fun j hj => ?_, fun j hj => ?_⟩, (k 0 (by omega) (by omega)).trans h4, (k 1 (by omega) (by omega)).trans h5⟩
  · have hi' : i < sN (aS A) := hi
    show rg (CLouvreCraftLaw_law_r3874_132e59.adL (sS (aS A)) (sL (aS A)) o y z w u (11 * i + 22)) 0 10000 ∧ rg (CLouvreCraftLaw_law_r3874_132e59.adL (sS (aS A)) (sL (aS A)) o y z w u (11 * i + 23)) 0 10000 ∧ rg (CLouvreCraftLaw_law_r3874_132e59.adL (sS (aS A)) (sL (aS A)) o y z w u (11 * i + 24)) 0 1000000 ∧ rg (CLouvreCraftLaw_law_r3874_132e59.adL (sS (aS A)) (sL (aS A)) o y z w u (11 * i + 25)) (-200000) 200000 ∧ rg (CLouvreCraftLaw_law_r3874_132e59.adL (sS (aS A)) (sL (aS A)) o y z w u (11 * i + 26)) (-200000) 200000 ∧ (CLouvreCraftLaw_law_r3874_132e59.adL (sS (aS A)) (sL (aS A)) o y z w u (11 * i + 30) = -1 ∨ rg (CLouvreCraftLaw_law_r3874_132e59.adL (sS (aS A)) (sL (aS A)) o y z w u (11 * i + 30)) 0 (CLouvreCraftLaw_law_r3874_132e59.adL (sS (aS A)) (sL (aS A)) o y z w u 0).toInt)
    rw [k _ (by omega) (by omega), k _ (by omega) (by omega), k _ (by omega) (by omega), k _ (by omega) (by omega), k _ (by omega) (by omega), k _ (by omega) (by omega), k _ (by omega) (by omega)]
    exact j1 i hi
  · have hi' : i < sL (aS A) + 1 := hi
    show rg (CLouvreCraftLaw_law_r3874_132e59.adL (sS (aS A)) (sL (aS A)) o y z w u (7 * i + 297)) 0 10000 ∧ rg (CLouvreCraftLaw_law_r3874_132e59.adL (sS (aS A)) (sL (aS A)) o y z w u (7 * i + 301)) 0 1000
    by_cases e : i = sL (aS A)
    · subst e
      unfold CLouvreCraftLaw_law_r3874_132e59.adL
      refine ⟨?_, ?_⟩
      · rw [upd_ne (by omega), upd_ne (by omega), upd_ne (by omega), upd_ne (by omega), upd_ne (by omega), upd_ne (by omega), upd_eq]
        exact hy
      · rw [upd_ne (by omega), upd_ne (by omega), upd_eq]
        exact ⟨by decide, by decide⟩
    · rw [k _ (by omega) (by omega), k _ (by omega) (by omega)]
      exact j2 i (by omega)
  · show rg (CLouvreCraftLaw_law_r3874_132e59.adL (sS (aS A)) (sL (aS A)) o y z w u 5) 0 10000
    rw [k _ (by omega) (by omega)]
    exact j3
  · show rg (CLouvreCraftLaw_law_r3874_132e59.adL (sS (aS A)) (sL (aS A)) o y z w u 6) 0 100
    rw [k _ (by omega) (by omega)]
    exact j4
  · show rg (CLouvreCraftLaw_law_r3874_132e59.adL (sS (aS A)) (sL (aS A)) o y z w u 7) 0 10000
    rw [k _ (by omega) (by omega)]
    exact j5
  · show 0 ≤ (sE (aS A) 0).toInt ∧ (sE (aS A) 0).toInt ≤ 1000000000 * (CLouvreCraftLaw_law_r3874_132e59.adL (sS (aS A)) (sL (aS A)) o y z w u 0).toInt
    rw [k _ (by omega) (by omega)]
    exact j6
  · show X'.2.1 j = CLouvreCraftLaw_law_r3874_132e59.adL (sS (aS A)) (sL (aS A)) o y z w u (8 * j + 342) ∧ X'.2.2.1 j = CLouvreCraftLaw_law_r3874_132e59.adL (sS (aS A)) (sL (aS A)) o y z w u (8 * j + 339)
    rw [k _ (by omega) (by omega), k _ (by omega) (by omega), e2]
    exact h3.1 j hj
  · have hj' : j < sL (aS A) + 1 := hj
    show X'.2.2.2 j = CLouvreCraftLaw_law_r3874_132e59.adL (sS (aS A)) (sL (aS A)) o y z w u (7 * j + 300)
    rw [e2]
    show upd (xR X) (sL (aS A)) u j = _
    by_cases e : j = sL (aS A)
    · subst e
      rw [upd_eq]
      exact (adL_v (st := sS (aS A)) (sL (aS A)) o y z w u l6).2.2.2.1.symm
    · rw [upd_ne e, k _ (by omega) (by omega)]
      exact h3.2 j (by omega)
theorem BI.adH {o y z w u : Int32} (h : BI G Λ X m A) (h8 : sH (aS A) < 8) (e2 : X'.2 = (upd (xP X) (sH (aS A)) u, upd (xW X) (sH (aS A)) y, xR X)) (hC : CIv (atC G (lB Λ) false) m' (((adH (sS (aS A)) (sH (aS A)) o y z w u, sE (aS A), sN (aS A), sL (aS A), sH (aS A) + 1, (aS A).2.2.2.2.2), (A).2) : Ab)) : BI G Λ X' m' (((adH (sS (aS A)) (sH (aS A)) o y z w u, sE (aS A), sN (aS A), sL (aS A), sH (aS A) + 1, (aS A).2.2.2.2.2), (A).2) : Ab) := by
  obtain ⟨h1, h2, h3, h4, h5⟩ := h
  have n12 := h1.gd.n12
  have l6 := h1.gd.l6
  have k : ∀ k, k < 8 * sH (aS A) + 338 ∨ 8 * sH (aS A) + 346 ≤ k → k ≠ 14 → CLouvreCraftLaw_law_r3874_132e59.adH (sS (aS A)) (sH (aS A)) o y z w u k = sS (aS A) k := fun k h1 h2 => adH_ne h1 h2
  obtain ⟨j1, j2, ⟨j3, j4, j5⟩, j6, j7⟩ := h2
  refine ⟨hC, ⟨fun i hi => ?_, fun i hi => ?_, ⟨?_, ?_, ?_⟩, ?_, j7⟩, ⟨fun j hj => ?_, fun j hj => ?_⟩, (k 0 (by omega) (by omega)).trans h4, (k 1 (by omega) (by omega)).trans h5⟩
  · have hi' : i < sN (aS A) := hi
    show rg (CLouvreCraftLaw_law_r3874_132e59.adH (sS (aS A)) (sH (aS A)) o y z w u (11 * i + 22)) 0 10000 ∧ rg (CLouvreCraftLaw_law_r3874_132e59.adH (sS (aS A)) (sH (aS A)) o y z w u (11 * i + 23)) 0 10000 ∧ rg (CLouvreCraftLaw_law_r3874_132e59.adH (sS (aS A)) (sH (aS A)) o y z w u (11 * i + 24)) 0 1000000 ∧ rg (CLouvreCraftLaw_law_r3874_132e59.adH (sS (aS A)) (sH (aS A)) o y z w u (11 * i + 25)) (-200000) 200000 ∧ rg (CLouvreCraftLaw_law_r3874_132e59.adH (sS (aS A)) (sH (aS A)) o y z w u (11 * i + 26)) (-200000) 200000 ∧ (CLouvreCraftLaw_law_r3874_132e59.adH (sS (aS A)) (sH (aS A)) o y z w u (11 * i + 30) = -1 ∨ rg (CLouvreCraftLaw_law_r3874_132e59.adH (sS (aS A)) (sH (aS A)) o y z w u (11 * i + 30)) 0 (CLouvreCraftLaw_law_r3874_132e59.adH (sS (aS A)) (sH (aS A)) o y z w u 0).toInt)
    rw [k _ (by omega) (by omega), k _ (by omega) (by omega), k _ (by omega) (by omega), k _ (by omega) (by omega), k _ (by omega) (by omega), k _ (by omega) (by omega), k _ (by omega) (by omega)]
    exact j1 i hi
  · have hi' : i < sL (aS A) := hi
    show rg (CLouvreCraftLaw_law_r3874_132e59.adH (sS (aS A)) (sH (aS A)) o y z w u (7 * i + 297)) 0 10000 ∧ rg (CLouvreCraftLaw_law_r3874_132e59.adH (sS (aS A)) (sH (aS A)) o y z w u (7 * i + 301)) 0 1000
    rw [k _ (by omega) (by omega), k _ (by omega) (by omega)]
    exact j2 i hi
  · show rg (CLouvreCraftLaw_law_r3874_132e59.adH (sS (aS A)) (sH (aS A)) o y z w u 5) 0 10000
    rw [k _ (by omega) (by omega)]
    exact j3
  · show rg (CLouvreCraftLaw_law_r3874_132e59.adH (sS (aS A)) (sH (aS A)) o y z w u 6) 0 100
    rw [k _ (by omega) (by omega)]
    exact j4
  · show rg (CLouvreCraftLaw_law_r3874_132e59.adH (sS (aS A)) (sH (aS A)) o y z w u 7) 0 10000
    rw [k _ (by omega) (by omega)]
    exact j5
  · show 0 ≤ (sE (aS A) 0).toInt ∧ (sE (aS A) 0).toInt ≤ 1000000000 * (CLouvreCraftLaw_law_r3874_132e59.adH (sS (aS A)) (sH (aS A)) o y z w u 0).toInt
    rw [k _ (by omega) (by omega)]
    exact j6
  · have hj' : j < sH (aS A) + 1 := hj
    show X'.2.1 j = CLouvreCraftLaw_law_r3874_132e59.adH (sS (aS A)) (sH (aS A)) o y z w u (8 * j + 342) ∧ X'.2.2.1 j = CLouvreCraftLaw_law_r3874_132e59.adH (sS (aS A)) (sH (aS A)) o y z w u (8 * j + 339)
    rw [e2]
    show upd (xP X) (sH (aS A)) u j = _ ∧ upd (xW X) (sH (aS A)) y j = _
    by_cases e : j = sH (aS A)
    · subst e
      rw [upd_eq, upd_eq]
      have v := adH_v (st := sS (aS A)) (sH (aS A)) o y z w u
      exact ⟨v.2.2.1.symm, v.2.1.symm⟩
    · rw [upd_ne e, upd_ne e, k _ (by omega) (by omega), k _ (by omega) (by omega)]
      exact h3.1 j (by omega)
  · have hj' : j < sL (aS A) := hj
    show X'.2.2.2 j = CLouvreCraftLaw_law_r3874_132e59.adH (sS (aS A)) (sH (aS A)) o y z w u (7 * j + 300)
    rw [k _ (by omega) (by omega), e2]
    exact h3.2 j hj
theorem CIv.lk0 (hC : CIv G m A) (a b : Nat) : ¬ lkV a b (sK (aS A)) < 0 := by
  have h := hC.cr.2.2.1.1
  have key : ∀ l : List Lk, (∀ x ∈ l, x.1 < sN (aS A) ∧ x.2.1 < sN (aS A) ∧ x.1 ≠ x.2.1 ∧ rg x.2.2 1 100000) → ¬ lkV a b l < 0 := by
    intro l
    induction l with
    | nil =>
      intro _
      show ¬ (0 : Int32) < 0
      decide
    | cons x t ih =>
      intro hl
      show ¬ (if (x.1 = a ∧ x.2.1 = b) ∨ (x.1 = b ∧ x.2.1 = a) then x.2.2 else lkV a b t) < 0
      split
      · have := (hl x List.mem_cons_self).2.2.2.1
        rw [Int32.lt_iff_toInt_lt]
        have z : (0 : Int32).toInt = 0 := rfl
        omega
      · exact ih (fun y hy => hl y (List.mem_cons_of_mem _ hy))
  exact key _ h
theorem w_builds (h : BI G Λ X m A) (h0 : sN (aS A) = 0 ∧ sL (aS A) = 0 ∧ sH (aS A) = 0) (hs : gSl G ≤ 260) (hx : xN X + 1000 < 2 ^ 30) (hQ : ∀ m' A' X', LG G Λ 0 X' m' A' → xN X' ≤ xN X + 1000 → Q (some (.int (1 : Int32))) (lm G Λ X' ext m' ce)) : WZM G (d + 20) (0, 0) μL_builds [.ref (gB G)] (lm G Λ X ext m ce) Q := by
  obtain ⟨M, hM⟩ : ∃ M, M = xN X + 1000 := ⟨_, rfl⟩
  -- the end
  have P6 : ∀ (X : Lx) (m : Mm) (A : Ab), BI G Λ X m A → 1 ≤ sN (aS A) → xN X + 10 ≤ M → WZ G (d + 20) (0, 0) μL_builds 346 [.ref (gB G), lvU, lvU, lvU, lvU, lvU] [] (lm G Λ X ext m ce) Q := by
    intro X m A hA h1 hx
    refine bu_6 hA.1 hs (by omega) hA.2.2.2.2 (fun v1 _ v3 _ v5 _ v7 hv7 v9 hv9 v11 hv11 m13 c13 v15 _ v17 _ v19 _ m21 c21 v23 hv23 m25 c25 => ?_)
    have hL : LG G Λ 0 X m A := ⟨hA.1, hA.2.1, hA.2.2.1, h1, by rw [hA.2.2.2.1]; decide⟩
    have hL2 := hL.orb (rgn (v := v7) (a := 0) (b := 10000) (by omega) (by omega) (by omega)) (rgn (v := v9) (a := 0) (b := 100) (by omega) (by omega) (by omega)) (rgn (v := v11) (a := 0) (b := 10000) (by omega) (by omega) (by omega)) c13
    have hL3 := hL2.pow c21
    generalize stA (stA A (orbS (sS (aS A)) (nI (20 + v1)) (nI v3) (nI (v3 + v5)) (nI v7) (nI v9) (nI v11))) (powS (sS (aS (stA A (orbS (sS (aS A)) (nI (20 + v1)) (nI v3) (nI (v3 + v5)) (nI v7) (nI v9) (nI v11))))) (nI v15) (nI v17) (nI v19) (0 : Int32)) = B at hL3 c25 ⊢
    obtain ⟨b1, b2, b3, b4, b5⟩ := hL3
    have n12 := b1.gd.n12
    refine hQ m25 _ _ ⟨c25, b2.of rfl (fun k hk => upd_ne ?_), ⟨fun j hj => ?_, fun j hj => ?_⟩, b4, ?_⟩ (by show xN X + 10 ≤ _; omega)
    · rcases hk with hk | hk | ⟨j, hj, hk⟩ | ⟨l, hl, hk⟩ <;> omega
    · show xP X j = upd (sS (aS B)) 1 (nI (1 + v23)) (8 * j + 342) ∧ xW X j = upd (sS (aS B)) 1 (nI (1 + v23)) (8 * j + 339)
      rw [upd_ne (by omega), upd_ne (by omega)]
      exact b3.1 j hj
    · show xR X j = upd (sS (aS B)) 1 (nI (1 + v23)) (7 * j + 300)
      rw [upd_ne (by omega)]
      exact b3.2 j hj
    · show (upd (sS (aS B)) 1 (nI (1 + v23)) 0).toInt ≤ 0
      rw [upd_ne (by omega)]
      exact b5
  refine bu_0 h.1 hs (by omega) (fun v1 hv1 => ?_)
  obtain ⟨n, hn⟩ : ∃ n, n = 1 + v1 := ⟨_, rfl⟩
  rw [← hn]
  -- heaters
  have P5 : ∀ (k i : Nat) (X : Lx) (m : Mm) (A : Ab), i + k = 8 → BI G Λ X m A → sN (aS A) = n → sH (aS A) = i → xN X + 6 * k + 20 ≤ M → WZ G (d + 20) (0, 0) μL_builds 253 [.ref (gB G), .int (nI n), .int (nI i), lvU, lvU, lvU] [] (lm G Λ X ext m ce) Q := by
    intro k
    induction k with
    | zero =>
      intro i X m A hi hA hN hH hx
      exact bu_5 hA.1 hs (by omega) (by omega) (by omega) hN (by omega) hH (fun _ => P6 X m A hA (by omega) (by omega)) (fun z => absurd z (by omega)) (fun z => absurd z (by omega)) (fun z => absurd z (by omega))
    | succ k ih =>
      intro i X m A hi hA hN hH hx
      refine bu_5 hA.1 hs (by omega) (by omega) (by omega) hN (by omega) hH (fun z => absurd (show i < 8 by omega) z) (fun _ v4 _ _ => P6 _ m A ⟨hA.1, hA.2.1, hA.2.2.1.of rfl, hA.2.2.2⟩ (by omega) (by show xN X + 1 + 10 ≤ M; omega)) (fun _ v4 _ _ v9 _ v11 _ v13 _ v15 _ v17 _ m19 c19 _ => ?_) (fun _ _ _ _ _ _ _ _ _ _ _ _ _ _ _ _ z => absurd hH z)
      refine ih (i + 1) _ m19 _ (by omega) (hA.adH (by omega) ?_ c19) hN (by show sH (aS A) + 1 = i + 1; rw [hH]) (by show xN X + 6 + 6 * k + 20 ≤ M; omega)
      rw [hH]
  -- louvres
  have P4 : ∀ (k i : Nat) (X : Lx) (m : Mm) (A : Ab), i + k = 6 → BI G Λ X m A → sN (aS A) = n → sL (aS A) = i → sH (aS A) = 0 → xN X + 6 * k + 100 ≤ M → WZ G (d + 20) (0, 0) μL_builds 167 [.ref (gB G), .int (nI n), .int (nI i), lvU, lvU, lvU] [] (lm G Λ X ext m ce) Q := by
    intro k
    induction k with
    | zero =>
      intro i X m A hi hA hN hL hH hx
      exact bu_4 hA.1 hs (by omega) (by omega) (by omega) hN (by omega) hL (fun _ => P5 8 0 X m A (by omega) hA hN hH (by omega)) (fun z => absurd z (by omega)) (fun z => absurd z (by omega)) (fun z => absurd z (by omega))
    | succ k ih =>
      intro i X m A hi hA hN hL hH hx
      refine bu_4 hA.1 hs (by omega) (by omega) (by omega) hN (by omega) hL (fun z => absurd (show i < 6 by omega) z) (fun _ v4 _ _ => P5 8 0 _ m A (by omega) ⟨hA.1, hA.2.1, hA.2.2.1.of rfl, hA.2.2.2⟩ hN hH (by show xN X + 1 + 6 * 8 + 20 ≤ M; omega)) (fun _ v4 _ _ v9 _ v11 _ v13 hv13 v15 _ v17 _ m19 c19 _ => ?_) (fun _ _ _ _ _ _ _ _ _ _ _ _ _ _ _ _ z => absurd hL z)
      refine ih (i + 1) _ m19 _ (by omega) (hA.adL (by omega) (rgn (v := v13) (a := 0) (b := 10000) (by omega) (by omega) (by omega)) ?_ c19) hN (by show sL (aS A) + 1 = i + 1; rw [hL]) hH (by show xN X + 6 + 6 * k + 100 ≤ M; omega)
      rw [hL]
  -- links
  have P3 : ∀ (i : Nat) (X : Lx) (m : Mm) (A : Ab), i < 100 → BI G Λ X m A → sN (aS A) = n → sL (aS A) = 0 → sH (aS A) = 0 → xN X + 3 * i + 200 ≤ M → WZ G (d + 20) (0, 0) μL_builds 83 [.ref (gB G), .int (nI n), .int (nI i), lvU, lvU, lvU] [] (lm G Λ X ext m ce) Q := by
    intro i
    induction i with
    | zero =>
      intro X m A hi hA hN hL hH hx
      exact bu_3z (i := 0) hA.1 (P4 6 0 X m A (by omega) hA hN hL hH (by omega))
    | succ i ih =>
      intro X m A hi hA hN hL hH hx
      refine bu_3 hA.1 hs (by omega) (by omega) (by omega) hN (by omega) (fun a b => hA.1.lk0 a b) (fun z => absurd (Nat.succ_pos i) z) (fun _ v4 _ v6 _ v8 _ _ => ih _ m A (by omega) ⟨hA.1, hA.2.1, hA.2.2.1.of rfl, hA.2.2.2⟩ hN hL hH (by show xN X + 3 + 3 * i + 200 ≤ M; omega)) (fun _ v4 _ v6 _ v8 _ _ _ => ih _ m A (by omega) ⟨hA.1, hA.2.1, hA.2.2.1.of rfl, hA.2.2.2⟩ hN hL hH (by show xN X + 3 + 3 * i + 200 ≤ M; omega)) (fun _ v4 hv4 v6 hv6 v8 _ _ _ m18 l16 c18 _ => ih _ m18 _ (by omega) (hA.lnk rfl (by omega) (by omega) c18) hN hL hH (by show xN X + 3 + 3 * i + 200 ≤ M; omega))
  -- nodes
  have P1 : ∀ (k i : Nat) (X : Lx) (m : Mm) (A : Ab), i + k = n → BI G Λ X m A → sN (aS A) = i → sL (aS A) = 0 → sH (aS A) = 0 → xN X + 5 * k + 600 ≤ M → WZ G (d + 20) (0, 0) μL_builds 11 [.ref (gB G), .int (nI n), .int (nI i), lvU, lvU, lvU] [] (lm G Λ X ext m ce) Q := by
    intro k
    induction k with
    | zero =>
      intro i X m A hi hA hN hL hH hx
      refine bu_1 hA.1 hs (by omega) (by omega) (by omega) (by omega) hN (fun _ => ?_) (fun z => absurd z (by omega)) (fun z => absurd z (by omega))
      exact bu_2 (i := 0) hA.1 hs (by omega) (fun v1 _ => P3 v1 _ m A (by omega) ⟨hA.1, hA.2.1, hA.2.2.1.of rfl, hA.2.2.2⟩ (by omega) hL hH (by show xN X + 1 + 3 * v1 + 200 ≤ M; omega))
    | succ k ih =>
      intro i X m A hi hA hN hL hH hx
      refine bu_1 hA.1 hs (by omega) (by omega) (by omega) (by omega) hN (fun z => absurd (show i < n by omega) z) (fun _ v4 _ v6 _ v8 _ v10 _ v12 _ m14 c14 _ => ?_) (fun _ _ _ _ _ _ _ _ _ _ _ _ _ z => absurd hN z)
      exact ih (i + 1) _ m14 _ (by omega) (hA.adN rfl (by omega) (rgn (v := v8) (a := 0) (b := 10000) (by omega) (by omega) (by omega)) (rgn (v := v10) (a := 0) (b := 10000) (by omega) (by omega) (by omega)) (rgn (v := v12) (a := 0) (b := 1000000) (by omega) (by omega) (by omega)) c14) (by show sN (aS A) + 1 = i + 1; rw [hN]) hL hH (by show xN X + 5 + 5 * k + 600 ≤ M; omega)
  exact P1 n 0 _ m A (by omega) ⟨h.1, h.2.1, h.2.2.1.of rfl, h.2.2.2⟩ h0.1 h0.2.1 h0.2.2 (by show xN X + 1 + 5 * n + 600 ≤ M; omega)
end WBU
