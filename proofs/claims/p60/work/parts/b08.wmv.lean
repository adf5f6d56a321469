/-! CONTRACT: moves -/
abbrev mW (G : Cx) (s : Sc) (a1 a2 a3 a4 a5 : Nat) (f1 f2 f3 f4 : Nat → Int32) (f5 : Nat → Int64) : va_W := [(((a1, Sum.inl (gY G 21, sL s, Sum.inl f1)) : Nat × va_E)), (((a2, Sum.inl (gY G 21, sL s, Sum.inl f2)) : Nat × va_E)), (((a3, Sum.inl (gY G 21, sN s, Sum.inl f3)) : Nat × va_E)), (((a4, Sum.inl (gY G 21, sN s, Sum.inl f4)) : Nat × va_E)), (((a5, Sum.inl (gY G 22, 3, Sum.inr (Sum.inl f5))) : Nat × va_E))]
section CON
variable {G : Cx} {d : Nat} {Λ : Lc} {X : Lx} {ext : va_W} {m : Mm} {A : Ab} {ce : List (Nat × Mm)} {Q : Option Value → LM → Prop} {a1 a2 a3 a4 a5 : Nat} {f1 f2 f3 f4 : Nat → Int32} {f5 : Nat → Int64}
theorem mv_7 {t0 s0 v0 : Int32} {z : Int64} {st bd c1 c2 : Int32} (hC : CIv (atC G (lB Λ) false) m A) (hJ : LJ (aS A)) (k1 : ∀ i, i < sN (aS A) → (sS (aS A) (11 * i + 27)) = imin (f3 i) (sS (aS A) (11 * i + 21)) ∧ (sS (aS A) (11 * i + 28)) = imax (f4 i) (sS (aS A) (11 * i + 21)) ∧ ¬ (sS (aS A) (11 * i + 21)) < -200000 ∧ ¬ 200000 < (sS (aS A) (11 * i + 21)) ∧ (0 < (sS (aS A) (11 * i + 29)) → ¬ (sS (aS A) (11 * i + 30)) < 0) ∧ (¬ 0 < (sS (aS A) (11 * i + 29)) → (sS (aS A) (11 * i + 30)) < 0) ∧ ¬ sS (aS A) 0 < (sS (aS A) (11 * i + 30)))
    (e : WZ G (d + 20) (0, 0) μL_moves 677 [.ref (gB G), lvU, lvU, lvU, .int t0, .int s0, .int v0, lvU, lvU, lvU, lvU, .ref a5, .long z, lvU, .int st, .int bd, .int c1, .int c2, .int (nI (ouN (sS (aS A)) (sN (aS A)))), lvU, lvU] [] (lm G Λ X (mW G (aS A) a1 a2 a3 a4 a5 f1 f2 f3 f4 f5) m ce) Q) :
    WZ G (d + 20) (0, 0) μL_moves 516 [.ref (gB G), .int (nI (sN (aS A))), lvU, lvU, .int t0, .int s0, .int v0, lvU, lvU, .ref a3, .ref a4, .ref a5, .long z, lvU, .int st, .int bd, .int c1, .int c2, .int (0 : Int32), .int (0 : Int32), lvU] [] (lm G Λ X (mW G (aS A) a1 a2 a3 a4 a5 f1 f2 f3 f4 f5) m ce) Q := by
  have hg := hC.gd
  have loop : ∀ k i, i + k = sN (aS A) → WZ G (d + 20) (0, 0) μL_moves 516 [.ref (gB G), .int (nI (sN (aS A))), lvU, lvU, .int t0, .int s0, .int v0, lvU, lvU, .ref a3, .ref a4, .ref a5, .long z, lvU, .int st, .int bd, .int c1, .int c2, .int (nI (ouN (sS (aS A)) i)), .int (nI i), lvU] [] (lm G Λ X (mW G (aS A) a1 a2 a3 a4 a5 f1 f2 f3 f4 f5) m ce) Q := by
    intro k
    induction k with
    | zero =>
      intro i hi
      have e0 : i = sN (aS A) := by omega
      subst e0
      have no : ¬ sN (aS A) < sN (aS A) := Nat.lt_irrefl _
      exact mo_7 (ext := []) hC (Nat.le_refl _) (fun z => absurd z no) (fun _ => e) (fun z => absurd z no) (fun z => absurd z no) (fun z => absurd z no) (fun z => absurd z no)
    | succ k ih =>
      intro i hi
      have hi' : i < sN (aS A) := by omega
      have n := ih (i + 1) (by omega)
      have hm := marg (st := sS (aS A)) (i := i) (hg.nd hi').2.1 (hJ.1 i hi').2.2.2.1 (hJ.1 i hi').2.2.2.2.1
      have os : ouN (sS (aS A)) (i + 1) = ouN (sS (aS A)) i + (if outF (sS (aS A)) i = true then 1 else 0) := rfl
      have eo : outF (sS (aS A)) i = true → nI (ouN (sS (aS A)) i) + (1 : Int32) = nI (ouN (sS (aS A)) (i + 1)) := fun c => by
        rw [os, if_pos c]
        exact nadd (a := ouN (sS (aS A)) i) (b := 1) rfl
      have en : ¬ outF (sS (aS A)) i = true → nI (ouN (sS (aS A)) i) + (0 : Int32) = nI (ouN (sS (aS A)) (i + 1)) := fun c => by
        rw [os, if_neg c, Int32.add_zero, Nat.add_zero]
      refine mo_7 (ext := []) hC (Nat.le_of_lt hi') (k1 i) (fun z => absurd hi' z) (fun _ q _ => ?_) (fun _ q _ => ?_) (fun _ q _ => ?_) (fun _ q _ => ?_)
      · rw [en (fun c => q (hm.mpr c))]
        exact n
      · rw [en (fun c => q (hm.mpr c))]
        exact n
      · rw [eo (hm.mp q)]
        exact n
      · rw [eo (hm.mp q)]
        exact n
  exact loop (sN (aS A)) 0 (by omega)
theorem mv_6 {t0 s0 v0 : Int32} {z : Int64} {st bd : Int32} (hC : CIv (atC G (lB Λ) false) m A) (k1 : ∀ i, i < sH (aS A) → (sS (aS A) (8 * i + 343) = 1 → ¬ sS (aS A) (8 * i + 345) = 0) ∧ (sS (aS A) (8 * i + 343) = 2 → sS (aS A) (8 * i + 345) = 0)) (hw : ∀ i, i < sH (aS A) → xW X i = sS (aS A) (8 * i + 339))
    (e : WZ G (d + 20) (0, 0) μL_moves 516 [.ref (gB G), .int (nI (sN (aS A))), lvU, lvU, .int t0, .int s0, .int v0, lvU, lvU, .ref a3, .ref a4, .ref a5, .long z, lvU, .int st, .int bd, .int (shF (sS (aS A)) (sH (aS A))), .int (upF (sS (aS A)) (sH (aS A))), .int (0 : Int32), .int (0 : Int32), lvU] [] (lm G Λ X (mW G (aS A) a1 a2 a3 a4 a5 f1 f2 f3 f4 f5) m ce) Q) :
    WZ G (d + 20) (0, 0) μL_moves 397 [.ref (gB G), .int (nI (sN (aS A))), lvU, .int (nI (sH (aS A))), .int t0, .int s0, .int v0, lvU, lvU, .ref a3, .ref a4, .ref a5, .long z, lvU, .int st, .int bd, .int (0 : Int32), .int (0 : Int32), .int (0 : Int32), .int (0 : Int32), lvU] [] (lm G Λ X (mW G (aS A) a1 a2 a3 a4 a5 f1 f2 f3 f4 f5) m ce) Q := by
  have h8 := hC.nh.2
  have loop : ∀ k i, i + k = sH (aS A) → WZ G (d + 20) (0, 0) μL_moves 397 [.ref (gB G), .int (nI (sN (aS A))), lvU, .int (nI (sH (aS A))), .int t0, .int s0, .int v0, lvU, lvU, .ref a3, .ref a4, .ref a5, .long z, lvU, .int st, .int bd, .int (shF (sS (aS A)) i), .int (upF (sS (aS A)) i), .int (0 : Int32), .int (nI i), lvU] [] (lm G Λ X (mW G (aS A) a1 a2 a3 a4 a5 f1 f2 f3 f4 f5) m ce) Q := by
    intro k
    induction k with
    | zero =>
      intro i hi
      have e0 : i = sH (aS A) := by omega
      subst e0
      have no : ¬ sH (aS A) < sH (aS A) := Nat.lt_irrefl _
      exact mo_6 (ext := []) hC (Nat.le_refl _) (fun z => absurd z no) (fun z => absurd z no) (fun _ => e) (fun z => absurd z no) (fun z => absurd z no) (fun z => absurd z no) (fun z => absurd z no) (fun z => absurd z no) (fun z => absurd z no) (fun z => absurd z no) (fun z => absurd z no) (fun z => absurd z no)
    | succ k ih =>
      intro i hi
      have hi' : i < sH (aS A) := by omega
      have n := ih (i + 1) (by omega)
      have ew := hw i hi'
      have s2 : sS (aS A) (8 * i + 345) = 2 → shF (sS (aS A)) i + 1 = shF (sS (aS A)) (i + 1) := fun c => by
        show _ = shF (sS (aS A)) i + (if sS (aS A) (8 * i + 345) = 2 then 1 else 0)
        rw [if_pos c]
      have s0' : ¬ sS (aS A) (8 * i + 345) = 2 → shF (sS (aS A)) i + 0 = shF (sS (aS A)) (i + 1) := fun c => by
        show _ = shF (sS (aS A)) i + (if sS (aS A) (8 * i + 345) = 2 then 1 else 0)
        rw [if_neg c]
      have u1 : sS (aS A) (8 * i + 345) = 1 → upF (sS (aS A)) i + xW X i = upF (sS (aS A)) (i + 1) := fun c => by
        rw [upF_s, if_pos c, ew]
      have u0 : ¬ sS (aS A) (8 * i + 345) = 1 → upF (sS (aS A)) i + 0 = upF (sS (aS A)) (i + 1) := fun c => by
        rw [upF_s, if_neg c]
      have n21 : sS (aS A) (8 * i + 345) = 2 → ¬ sS (aS A) (8 * i + 345) = 1 := fun c => by
        rw [c]
        decide
      refine mo_6 (ext := []) hC (Nat.le_of_lt hi') (fun h => (k1 i h).1) (fun h => (k1 i h).2) (fun z => absurd hi' z) (fun _ c2 c1 _ _ => ?_) (fun _ c2 c1 _ _ => ?_) (fun _ c2 c1 _ => ?_) (fun _ c2 c1 _ _ => ?_) (fun _ c2 c1 _ _ => ?_) (fun _ c2 c1 _ => ?_) (fun _ c2 _ _ => ?_) (fun _ c2 _ _ => ?_) (fun _ c2 _ => ?_)
      · rw [s0' c2, u0 c1]
        exact n
      · rw [s0' c2, u0 c1]
        exact n
      · rw [s0' c2, u0 c1]
        exact n
      · rw [s0' c2, u1 c1]
        exact n
      · rw [s0' c2, u1 c1]
        exact n
      · rw [s0' c2, u1 c1]
        exact n
      · rw [s2 c2, u0 (n21 c2)]
        exact n
      · rw [s2 c2, u0 (n21 c2)]
        exact n
      · rw [s2 c2, u0 (n21 c2)]
        exact n
  exact loop (sH (aS A)) 0 (by omega)
theorem mv_5 {t0 s0 v0 : Int32} {z : Int64} {st bd : Int32} (hC : CIv (atC G (lB Λ) false) m A) (k1 : ∀ l, l < sL (aS A) → (sS (aS A) (7 * l + 302) = 1 → sS (aS A) (7 * l + 301) - f1 l = 0) ∧ (¬ sS (aS A) (7 * l + 302) = 1 → sS (aS A) (7 * l + 301) - f1 l = imax (-xR X l) (imin (xR X l) (f2 l - f1 l)) ∧ ¬ sS (aS A) (7 * l + 301) < 0 ∧ ¬ (1000 : Int32) < sS (aS A) (7 * l + 301)))
    (e : WZ G (d + 20) (0, 0) μL_moves 397 [.ref (gB G), .int (nI (sN (aS A))), lvU, .int (nI (sH (aS A))), .int t0, .int s0, .int v0, lvU, lvU, .ref a3, .ref a4, .ref a5, .long z, lvU, .int st, .int bd, .int (0 : Int32), .int (0 : Int32), .int (0 : Int32), .int (0 : Int32), lvU] [] (lm G Λ X (mW G (aS A) a1 a2 a3 a4 a5 f1 f2 f3 f4 f5) m ce) Q) :
    WZ G (d + 20) (0, 0) μL_moves 265 [.ref (gB G), .int (nI (sN (aS A))), .int (nI (sL (aS A))), .int (nI (sH (aS A))), .int t0, .int s0, .int v0, .ref a1, .ref a2, .ref a3, .ref a4, .ref a5, .long z, lvU, .int st, .int bd, .int (0 : Int32), lvU, lvU, lvU, lvU] [] (lm G Λ X (mW G (aS A) a1 a2 a3 a4 a5 f1 f2 f3 f4 f5) m ce) Q := by
  have l6 := hC.nl.2
  have loop : ∀ k i, i + k = sL (aS A) → WZ G (d + 20) (0, 0) μL_moves 265 [.ref (gB G), .int (nI (sN (aS A))), .int (nI (sL (aS A))), .int (nI (sH (aS A))), .int t0, .int s0, .int v0, .ref a1, .ref a2, .ref a3, .ref a4, .ref a5, .long z, lvU, .int st, .int bd, .int (nI i), lvU, lvU, lvU, lvU] [] (lm G Λ X (mW G (aS A) a1 a2 a3 a4 a5 f1 f2 f3 f4 f5) m ce) Q := by
    intro k
    induction k with
    | zero =>
      intro i hi
      have e0 : i = sL (aS A) := by omega
      subst e0
      have no : ¬ sL (aS A) < sL (aS A) := Nat.lt_irrefl _
      exact mo_5 (ext := []) hC (Nat.le_refl _) (fun z => absurd z no) (fun z => absurd z no) (fun _ => e) (fun z => absurd z no) (fun z => absurd z no)
    | succ k ih =>
      intro i hi
      have hi' : i < sL (aS A) := by omega
      have n := ih (i + 1) (by omega)
      exact mo_5 (ext := []) hC (Nat.le_of_lt hi') (fun h => (k1 i h).1) (fun h => (k1 i h).2) (fun z => absurd hi' z) (fun _ _ => n) (fun _ _ => n)
  exact loop (sL (aS A)) 0 (by omega)
/-- all after the step -/
theorem mv_all {A0 : Ab} (hg : GdT 100000000 (aS A0)) (hJ0 : LJ (aS A0)) (hX : LX (aS A0) X) (hA : A = (sp (aS A0), A0.2)) (hC : CIv (atC G (lB Λ) false) m A) (hf : ∀ l, l < sL (aS A0) → f1 l = sS (aS A0) (7 * l + 301) ∧ f2 l = tgtF (sS (aS A0)) (own (sS (aS A0)) (7 * l + 296)) l) (h3 : ∀ i, i < sN (aS A0) → f3 i = sS (aS A0) (11 * i + 27) ∧ f4 i = sS (aS A0) (11 * i + 28)) (h1 : f5 1 = sE (aS A0) 1) (h2 : f5 2 = sE (aS A0) 2) (h0 : f5 0 = sE (aS A0) 0) (hQ : ∀ ext', Q (some (.int (1 : Int32))) (lm G Λ X ext' m ce)) :
    WZ G (d + 20) (0, 0) μL_moves 265 [.ref (gB G), .int (nI (sN (aS A))), .int (nI (sL (aS A))), .int (nI (sH (aS A))), .int (sS (aS A0) 0), .int (sS (aS A0) 17), .int (sS (aS A0) 16), .ref a1, .ref a2, .ref a3, .ref a4, .ref a5, .long (abS (sS (aS A0)) (sN (aS A0))), lvU, .int (sS (aS A0) 1), .int (vcs (aS A0) 1), .int (0 : Int32), lvU, lvU, lvU, lvU] [] (lm G Λ X (mW G (aS A) a1 a2 a3 a4 a5 f1 f2 f3 f4 f5) m ce) Q := by
  have hS := hJ0.2.2.2.2
  have n12 := hg.n12
  have h8 := hg.h8
  have l6 := hg.l6
  have hg1 : GdT 100000000 (aS A) := hC.gd
  have eS : aS A = sp (aS A0) := by rw [hA]
  have eN : sN (aS A) = sN (aS A0) := by rw [eS]; rfl
  have eL : sL (aS A) = sL (aS A0) := by rw [eS]; rfl
  have eH : sH (aS A) = sH (aS A0) := by rw [eS]; rfl
  have hJ : LJ (aS A) := by
    rw [eS]
    exact LJ_sp hg hJ0
  refine mv_5 hC (fun l hl => ?_) (mv_6 hC (fun i hi => ?_) (fun i hi => ?_) (mv_7 hC hJ (fun i hi => ?_) ?_))
  · rw [eL] at hl
    have w := sp_way hg hJ0 hl
    rw [← eS] at w
    rw [(hf l hl).1, (hf l hl).2, hX.2 l hl]
    exact ⟨w.2.1, fun c => ⟨w.2.2 c, rg_i0 w.1, rg_hi w.1 (by decide)⟩⟩
  · rw [eH] at hi
    have md := sp_mode hg hi
    rw [← eS] at md
    exact md
  · rw [eH] at hi
    rw [(hX.1 i hi).2, eS]
    exact (sp_keep hg hS ⟨by omega, by omega, by omega, by omega⟩ (by omega) (fun j hj => by omega) (fun j hj => by omega) (fun j hj => by omega)).symm
  · have hr := hg1.nd hi
    have ht := hr.2.1
    have hv := hr.2.2.1
    have hfv := (hJ.1 i hi).2.2.2.2.2
    have hff := hr.2.2.2
    have tm := hg1.g.1
    rw [eN] at hi
    have s27 := sp_27 hg hS hi
    rw [← eS] at s27
    rw [(h3 i hi).1, (h3 i hi).2]
    refine ⟨s27.1, s27.2, rg_lo ht (by decide), rg_hi ht (by decide), fun c => ?_, fun c => ?_, ?_⟩
    · rcases hfv with hfv | hfv
      · rw [hff.mpr hfv] at c
        exact absurd c (by decide)
      · exact rg_i0 hfv
    · have e : sS (aS A) (11 * i + 29) = 0 := by
        rw [Int32.lt_iff_toInt_lt] at c
        apply Int32.toInt_inj.mp
        have z : (0 : Int32).toInt = 0 := rfl
        have := hv.1
        omega
      have e30 := hff.mp e
      rw [e30]
      decide
    · rcases hfv with hfv | hfv
      · rw [hfv, Int32.lt_iff_toInt_lt]
        have z : (-1 : Int32).toInt = -1 := by decide
        have := tm.1
        omega
      · rw [Int32.lt_iff_toInt_lt]
        have := hfv.2
        omega
  · have ho := ouN_le (sS (aS A)) (sN (aS A))
    have e0 : (nI (ouN (sS (aS A)) (sN (aS A)))).toInt = ((ouN (sS (aS A)) (sN (aS A)) : Nat) : Int) := nI_toInt (by omega)
    have z : (0 : Int32).toInt = 0 := rfl
    have ev : vcs (aS A0) 1 = if ouN (sS (aS A)) (sN (aS A)) = 0 then 0 else 1 := by
      rw [sp_vio hg, eN, eS]
    refine mo_8 (ext := []) (i := 0) hC ?_ rfl ?_ ?_ (fun c => ?_) (fun c => ?_) ?_ ?_ ?_ (fun _ => hQ _) (fun _ => hQ _)
    · rw [eS]
      exact (sp_time hg (by decide)).1
    · rw [eH, eS]
      exact sp_cnt hg hS
    · rw [eS]
      exact sp_16 hg hS (by decide)
    · rw [ev, if_neg (fun c2 => ?_)]
      rw [Int32.lt_iff_toInt_lt] at c
      omega
    · rw [ev, if_pos ?_]
      rw [Int32.lt_iff_toInt_lt] at c
      omega
    · rw [h1, eS]
      exact (sp_e1 hg hS).1
    · rw [h2, eH, eS]
      exact (sp_e1 hg hS).2
    · rw [h0, eS, Int64.lt_iff_toInt_lt]
      have := (sp_e0 hg hJ0).1
      omega
theorem w_moves (hC : CIv (atC G (lB Λ) false) m A) (hJ : LJ (aS A)) (hX : LX (aS A) X) (ht : (sS (aS A) 0).toInt + 60 ≤ 100000000) (hQ : ∀ m' ext', CIv (atC G (lB Λ) false) m' (sp (aS A), A.2) → Q (some (.int (1 : Int32))) (lm G Λ X ext' m' ce)) : WZM G (d + 20) (5, 39) μL_moves [.ref (gB G)] (lm G Λ X [] m ce) Q := by
  have hg := hC.gd
  have n12 := hg.n12
  have l6 := hg.l6
  refine mo_0 (ext := []) hC (fun a1 a2 a3 a4 a5 => ?_)
  have g5 : ∃ f5 : Nat → Int64, f5 = vp_updL (vp_updL (vp_updL (fun _ => 0) 0 (sE (aS A) 0)) 1 (sE (aS A) 1)) 2 (sE (aS A) 2) := ⟨_, rfl⟩
  obtain ⟨f5, hf5⟩ := g5
  rw [← hf5]
  have h0 : f5 0 = sE (aS A) 0 := by rw [hf5]; rfl
  have h1 : f5 1 = sE (aS A) 1 := by rw [hf5]; rfl
  have h2 : f5 2 = sE (aS A) 2 := by rw [hf5]; rfl
  clear hf5
  -- the step
  have P4 : ∀ (f1 f2 f3 f4 : Nat → Int32) (m : Mm), CIv (atC G (lB Λ) false) m A → (∀ l, l < sL (aS A) → f1 l = sS (aS A) (7 * l + 301) ∧ f2 l = tgtF (sS (aS A)) (own (sS (aS A)) (7 * l + 296)) l) → (∀ i, i < sN (aS A) → f3 i = sS (aS A) (11 * i + 27) ∧ f4 i = sS (aS A) (11 * i + 28)) →
      WZ G (d + 20) (0, 0) μL_moves 227 [.ref (gB G), .int (nI (sN (aS A))), .int (nI (sL (aS A))), .int (nI (sH (aS A))), .int (sS (aS A) 0), .int (sS (aS A) 17), .int (sS (aS A) 16), .ref a1, .ref a2, .ref a3, .ref a4, .ref a5, .long (abS (sS (aS A)) (sN (aS A))), lvU, lvU, lvU, lvU, lvU, lvU, lvU, lvU] [] (lm G Λ X (mW G (aS A) a1 a2 a3 a4 a5 f1 f2 f3 f4 f5) m ce) Q := by
    intro f1 f2 f3 f4 m hC hf h3
    have hr := hg.g.2.1
    refine mo_4 (ext := []) (i := 0) hC (fun _ _ => hr) (fun m1 c1 m3 c3 _ => ?_) (fun m1 c1 m3 c3 _ m6 c6 => ?_) (fun _ _ _ _ z => absurd (show upd (sS (aS A)) 1 1 1 = 1 from upd_eq) z)
    · rw [stA_back]
      have := hr.2
      omega
    · rw [stA_back] at c6 ⊢
      obtain ⟨A1, hA1⟩ : ∃ A1 : Ab, A1 = (sp (aS A), A.2) := ⟨_, rfl⟩
      have c7 : CIv (atC G (lB Λ) false) m6 A1 := by
        rw [hA1]
        exact c6
      have eN : sN (aS A) = sN (aS A1) := by rw [hA1]; rfl
      have eL : sL (aS A) = sL (aS A1) := by rw [hA1]; rfl
      have eH : sH (aS A) = sH (aS A1) := by rw [hA1]; rfl
      have key := mv_all (G := G) (d := d) (Λ := Λ) (X := X) (ce := ce) (Q := Q) (a1 := a1) (a2 := a2) (a3 := a3) (a4 := a4) (a5 := a5) hg hJ hX hA1 c7 hf h3 h1 h2 h0 (fun ext' => hQ m6 ext' c6)
      have eM : mW G (aS A1) a1 a2 a3 a4 a5 f1 f2 f3 f4 f5 = mW G (aS A) a1 a2 a3 a4 a5 f1 f2 f3 f4 f5 := by
        rw [hA1]
        rfl
      rw [eM, ← eN, ← eL, ← eH] at key
      exact key
  -- absorbed
  have P3 : ∀ (f1 f2 f3 f4 : Nat → Int32), (∀ l, l < sL (aS A) → f1 l = sS (aS A) (7 * l + 301) ∧ f2 l = tgtF (sS (aS A)) (own (sS (aS A)) (7 * l + 296)) l) → (∀ i, i < sN (aS A) → f3 i = sS (aS A) (11 * i + 27) ∧ f4 i = sS (aS A) (11 * i + 28)) → ∀ k i m, CIv (atC G (lB Λ) false) m A → i + k = sN (aS A) →
      WZ G (d + 20) (0, 0) μL_moves 201 [.ref (gB G), .int (nI (sN (aS A))), .int (nI (sL (aS A))), .int (nI (sH (aS A))), .int (sS (aS A) 0), .int (sS (aS A) 17), .int (sS (aS A) 16), .ref a1, .ref a2, .ref a3, .ref a4, .ref a5, .long (abS (sS (aS A)) i), lvU, .int (nI i), lvU, lvU, lvU, lvU, lvU, lvU] [] (lm G Λ X (mW G (aS A) a1 a2 a3 a4 a5 f1 f2 f3 f4 f5) m ce) Q := by
    intro f1 f2 f3 f4 hf h3 k
    induction k with
    | zero =>
      intro i m hC hi
      have e : i = sN (aS A) := by omega
      subst e
      have no : ¬ sN (aS A) < sN (aS A) := Nat.lt_irrefl _
      exact mo_3 (ext := []) hC (Nat.le_refl _) (fun _ => P4 f1 f2 f3 f4 m hC hf h3) (fun z => absurd z no)
    | succ k ih =>
      intro i m hC hi
      have hi' : i < sN (aS A) := by omega
      exact mo_3 (ext := []) hC (Nat.le_of_lt hi') (fun z => absurd hi' z) (fun _ m4 h4 => ih (i + 1) m4 h4 (by omega))
  -- records kept
  have P2 : ∀ (f1 f2 : Nat → Int32), (∀ l, l < sL (aS A) → f1 l = sS (aS A) (7 * l + 301) ∧ f2 l = tgtF (sS (aS A)) (own (sS (aS A)) (7 * l + 296)) l) → ∀ k i (f3 f4 : Nat → Int32), (∀ j, j < i → f3 j = sS (aS A) (11 * j + 27) ∧ f4 j = sS (aS A) (11 * j + 28)) → i + k = sN (aS A) →
      WZ G (d + 20) (0, 0) μL_moves 155 [.ref (gB G), .int (nI (sN (aS A))), .int (nI (sL (aS A))), .int (nI (sH (aS A))), .int (sS (aS A) 0), .int (sS (aS A) 17), .int (sS (aS A) 16), .ref a1, .ref a2, .ref a3, .ref a4, .ref a5, .int (nI i), lvU, lvU, lvU, lvU, lvU, lvU, lvU, lvU] [] (lm G Λ X (mW G (aS A) a1 a2 a3 a4 a5 f1 f2 f3 f4 f5) m ce) Q := by
    intro f1 f2 hf k
    induction k with
    | zero =>
      intro i f3 f4 h3 hi
      have e : i = sN (aS A) := by omega
      subst e
      have no : ¬ sN (aS A) < sN (aS A) := Nat.lt_irrefl _
      exact mo_2 (ext := []) hC (Nat.le_refl _) (fun _ => P3 f1 f2 f3 f4 hf h3 (sN (aS A)) 0 m hC (by omega)) (fun z => absurd z no)
    | succ k ih =>
      intro i f3 f4 h3 hi
      have hi' : i < sN (aS A) := by omega
      refine mo_2 (ext := []) hC (Nat.le_of_lt hi') (fun z => absurd hi' z) (fun _ => ih (i + 1) _ _ (fun j hj => ?_) (by omega))
      by_cases e : j = i
      · subst e
        exact ⟨upd_eq, upd_eq⟩
      · rw [upd_ne e, upd_ne e]
        exact h3 j (by omega)
  have P1 : ∀ k i (f1 f2 : Nat → Int32), (∀ l, l < i → f1 l = sS (aS A) (7 * l + 301) ∧ f2 l = tgtF (sS (aS A)) (own (sS (aS A)) (7 * l + 296)) l) → i + k = sL (aS A) →
      WZ G (d + 20) (0, 0) μL_moves 112 [.ref (gB G), .int (nI (sN (aS A))), .int (nI (sL (aS A))), .int (nI (sH (aS A))), .int (sS (aS A) 0), .int (sS (aS A) 17), .int (sS (aS A) 16), .ref a1, .ref a2, .ref a3, .ref a4, .ref a5, .int (nI i), lvU, lvU, lvU, lvU, lvU, lvU, lvU, lvU] [] (lm G Λ X (mW G (aS A) a1 a2 a3 a4 a5 f1 f2 (fun _ => 0) (fun _ => 0) f5) m ce) Q := by
    intro k
    induction k with
    | zero =>
      intro i f1 f2 hf hi
      have e : i = sL (aS A) := by omega
      subst e
      have no : ¬ sL (aS A) < sL (aS A) := Nat.lt_irrefl _
      exact mo_1 (ext := []) hC (Nat.le_refl _) (fun _ => P2 f1 f2 hf (sN (aS A)) 0 _ _ (fun j hj => absurd hj (Nat.not_lt_zero _)) (by omega)) (fun z => absurd z no)
    | succ k ih =>
      intro i f1 f2 hf hi
      have hi' : i < sL (aS A) := by omega
      refine mo_1 (ext := []) hC (Nat.le_of_lt hi') (fun z => absurd hi' z) (fun _ => ih (i + 1) _ _ (fun j hj => ?_) (by omega))
      by_cases e : j = i
      · subst e
        exact ⟨upd_eq, upd_eq⟩
      · rw [upd_ne e, upd_ne e]
        exact hf j (by omega)
  exact P1 (sL (aS A)) 0 _ _ (fun j hj => absurd hj (Nat.not_lt_zero _)) (by omega)
end CON
