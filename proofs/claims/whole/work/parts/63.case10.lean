/-! THE LAW'S CASE 21: RUN -/
theorem inr_big (x : Int32) (n : Nat) (hn : n < 1000000) : (∃ i, i < n ∧ x = nI i) ∨ x < 0 ∨ (¬ x < 0 ∧ ¬ x < nI n) := by
  by_cases h : x < 0
  · exact Or.inr (Or.inl h)
  · by_cases h2 : x < nI n
    · refine Or.inl ⟨x.toNatClampNeg, ?_, ?_⟩
      · rw [Int32.lt_iff_toInt_lt] at h h2
        have z : (0 : Int32).toInt = 0 := rfl
        have e : (nI n).toInt = (n : Int) := nI_toInt (by omega)
        show x.toInt.toNat < n
        omega
      · apply Int32.toInt_inj.mp
        rw [Int32.lt_iff_toInt_lt] at h
        have z : (0 : Int32).toInt = 0 := rfl
        have hx := Int32.toInt_lt x
        have e : (nI x.toNatClampNeg).toInt = (x.toNatClampNeg : Int) := nI_toInt (by show x.toInt.toNat < _; omega)
        rw [e]
        show x.toInt = ((x.toInt.toNat : Nat) : Int)
        omega
    · exact Or.inr (Or.inr ⟨h, h2⟩)
theorem sub_lt1b {x : Int32} {n : Nat} (hn : n < 1000000) (h1 : ¬ x < 0) (h2 : ¬ x < nI (n + 1)) : nI n < x := by
  rw [Int32.lt_iff_toInt_lt] at h1 h2 ⊢
  have e : (nI n).toInt = (n : Int) := nI_toInt (by omega)
  have e2 : (nI (n + 1)).toInt = ((n + 1 : Nat) : Int) := nI_toInt (by omega)
  have z : (0 : Int32).toInt = 0 := rfl
  omega
theorem LIv.gd {G : Cx} {m : Mm} {A : Ab} (h : LIv G m A) : GdT 100000000 (aS A) := ⟨h.2.2.2.1.1, h.2.2.2.1.2, h.2.1.1.2.2.2.2.2.2.1⟩
def vcs (s : Sc) : Nat → Int32
  | 0 => 0
  | j + 1 => if svi (it s j) = 0 then vcs s j else vcs s j + 1
theorem C_runl {G : Cx} {d i : Nat} {m0 : Mm} {s : Sc} {Q : Option Value → Mm → Prop} (hF : Full G m0) (hC : CRx m0 (gB G + 1) s) (hG : GdT 100000000 s) (hi : i ≤ 1000) (k : ∀ m', Full G m' → Out (CT G) m' m0 → CRx m' (gB G + 1) (it s i) → Q (some (.int (vcs s i))) m') : WP G (d + 7) (0, 0) μX10_run 40 [.ref (gB G), .int (nI i), .int (0 : Int32), .int (0 : Int32)] [] m0 Q := by
  refine loopN (n := i) (P := fun j m => Full G m ∧ Out (CT G) m m0 ∧ CRx m (gB G + 1) (it s j)) (W := fun j m => WP G (d + 7) (0, 0) μX10_run 40 [.ref (gB G), .int (nI i), .int (vcs s j), .int (nI j)] [] m Q) ?_ 0 (by omega) m0 ⟨hF, Out.rf, hC⟩
  intro j m hj ⟨h1, h2, h3⟩ ih
  refine bC_run h1 hi hj (fun z => ?_) (fun z => ?_)
  · have e : j = i := by omega
    subst e
    exact k m h1 h2 h3
  · refine C_st h1 (isC1 G) h3 (GdT_it hG j (by omega)) (by omega) (fun m' a b c => ?_)
    have hn := ih z m' ⟨a, (b.mono (fun x hx => SA_CT hx)).tr h2, c⟩
    have ev : vcs s (j + 1) = if svi (it s j) = 0 then vcs s j else vcs s j + 1 := rfl
    refine jC_run a hi z (fun y => ?_) (fun y => ?_)
    · rw [if_pos y] at ev
      rw [← ev]
      exact hn
    · rw [if_neg y] at ev
      rw [← ev]
      exact hn
theorem M_runl {G : Cx} {d i : Nat} {m0 : Mm} {s : Sc} {Q : Option Value → Mm → Prop} (hM : MS G m0 m0 (sS s) (sE s)) (hG : GdT 100000000 s) (hi : i ≤ 1000) (k : ∀ m', MS G m0 m' (sS (it s i)) (sE (it s i)) → Q (some (.int (vcs s i))) m') : WP G (d + 8) (0, 0) μX11_run 38 [.ref (gB G + 293), .int (nI i), .int (0 : Int32), .int (0 : Int32)] [] m0 Q := by
  refine loopN (n := i) (P := fun j m => MS G m0 m (sS (it s j)) (sE (it s j))) (W := fun j m => WP G (d + 8) (0, 0) μX11_run 38 [.ref (gB G + 293), .int (nI i), .int (vcs s j), .int (nI j)] [] m Q) ?_ 0 (by omega) m0 hM
  intro j m hj h ih
  refine bM_run h.1 hi hj (fun z => ?_) (fun z => ?_)
  · have e : j = i := by omega
    subst e
    exact k m h
  · refine M_st h (GdT_it hG j (by omega)) (by omega) (fun m' h' => ?_)
    have hn := ih z m' h'
    have ev : vcs s (j + 1) = if svi (it s j) = 0 then vcs s j else vcs s j + 1 := rfl
    refine jM_run h'.1 hi z (fun y => ?_) (fun y => ?_)
    · rw [if_pos y] at ev
      rw [Int32.add_zero, ← ev]
      exact hn
    · rw [if_neg y] at ev
      rw [← ev]
      exact hn
theorem K_21 {G : Cx} {d i : Nat} {m : Mm} {A : Ab} {Q : Option Value → Mm → Prop} (hL : LIv G m A) (hi : i + 7 ≤ gSl G) (hl : gSl G < 4000) (next : ∀ m' A', LIv G m' A' → WP G (d + 100) (0, 0) μL_law 18 [.ref (gSa G), .ref (gB G), .ref (gB G + 293), .int (nI (i + 7))] [] m' Q) : WP G (d + 100) (0, 0) μL_law 1001 [.ref (gSa G), .ref (gB G), .ref (gB G + 293), .int (nI i)] [] m Q := by
  have fin : ∀ v : Int32, WP G (d + 100) (0, 0) μL_law 1019 [.ref (gSa G), .ref (gB G), .ref (gB G + 293), .int (nI i)] [.int v, .int v] m Q := fun v => bL_21c hL.1 hi hl (fun _ => next m A hL) (fun z => absurd rfl z)
  have t14 : fi m 14 (gB G + 1) = ai m (gB G + 294) 0 := hL.rd (k := 0) rfl rfl (by unfold VK; omega) (by unfold UD; omega)
  have t13 : fi m 13 (gB G + 1) = ai m (gB G + 294) 1 := hL.rd (k := 1) rfl rfl (by unfold VK; omega) (by unfold UD; omega)
  refine bL_21a hL.1 hi hl ?_
  refine eC_run (d := d + 92) hL.1 (fun c1 => ?_) (fun c1 c2 => ?_) (fun c1 c2 c3 => ?_) (fun c1 c2 c3 => ?_)
  · exact bL_21b hL.1 hi hl (eM_run (d := d + 91) hL.1 (fun _ => fin _) (fun h => absurd c1 h) (fun h => absurd c1 h) (fun h => absurd c1 h))
  · exact bL_21b hL.1 hi hl (eM_run (d := d + 91) hL.1 (fun h => absurd h c1) (fun _ _ => fin _) (fun _ h => absurd c2 h) (fun _ h => absurd c2 h))
  · obtain ⟨q, hq, eq⟩ : ∃ q, q < 1001 ∧ gSx G (i + 1) = nI q := by
      rcases inr_big (gSx G (i + 1)) 1001 (by omega) with h | h | ⟨h1, h2⟩
      · exact h
      · exact absurd h (fun h => c1 (by
          rw [Int32.lt_iff_toInt_lt] at h ⊢
          have z : (0 : Int32).toInt = 0 := rfl
          have o : (1 : Int32).toInt = 1 := rfl
          omega))
      · exact absurd (sub_lt1b (n := 1000) (by omega) h1 h2) c2
    have hs := hL.st
    rw [t14, t13, eq, hs] at c3
    have hb := guard_run hL.iv.1.2.2.2.2.2.2.1.1 hL.iv.1.2.2.2.2.2.2.1.2.1 (by omega) c3
    rw [eq]
    refine C_runl (d := d + 92) hL.1 hL.2.1.1 hL.gd (by omega) (fun m1 hF1 hO hC => ?_)
    refine bL_21b hF1 hi hl ?_
    rw [eq]
    have r1 := (hL.2.2.1.cls (hO.mono (fun a ha => CT_CC ha))).MS hF1
    refine eM_run (d := d + 91) hF1 (fun h => ?_) (fun _ h => ?_) (fun _ _ _ => ?_) (fun _ _ h => ?_)
    · rw [← eq] at h
      exact absurd h c1
    · rw [← eq] at h
      exact absurd h c2
    · refine M_runl (d := d + 91) r1 hL.gd (by omega) (fun m2 hM => ?_)
      have hg := GdT_it hL.gd q (by omega)
      obtain ⟨ht, -⟩ := it_time hL.gd q (by omega)
      have hG : GdS (it (aS A) q) := ⟨Iv_T hg.1 (by rw [ht]; exact hb), hg.2.1⟩
      exact bL_21c hM.1 hi hl (fun _ => next _ _ (LIv_new hL hO hC hM hG)) (fun z => absurd rfl z)
    · rw [r1.2.2.1] at h
      exact absurd h c3
  · rw [t14, t13] at c3
    exact bL_21b hL.1 hi hl (eM_run (d := d + 91) hL.1 (fun h => absurd h c1) (fun _ h => absurd h c2) (fun _ _ h => absurd c3 h) (fun _ _ _ => fin _))
