/-! THE CLASS'S SUMS: its descent gives what the machine gives -/
section CEXP
variable {G : Cx} {C : Pc} {pre : List Cd}
def FacOK (G : Cx) (C : Pc) (pre : List Cd) (n : Nat) : Prop := ∀ (d : Nat) (ts : List Tk) (w : List Nat) (out : List Cd) (m : Mm) (Q : Option Value → Mm → Prop), ts.length ≤ n → Wf ts → pre.length + out.length + w.length + ts.length ≤ 501 → dpW w ≤ 20 → PZ G C m ts (pre ++ out) →
  (∀ m' c p, run (cNn C) (cNl C) (cNh C) ts 0 w out = .error (c, p) → PF G C m' c p → Q (some (.int 0)) m') →
  (∀ m' ts' out', run (cNn C) (cNl C) (cNh C) ts 0 w out = runE (cNn C) (cNl C) (cNh C) ts' w out' → Wf ts' → ts'.length < ts.length → pre.length + out'.length + w.length + ts'.length ≤ 501 → PZ G C m' ts' (pre ++ out') → Q (some (.int 1)) m') →
  WPM G (d + 3 * (20 - dpW w) + 4) (0, 0) μX7_readFactor [.ref (gB G + 279), .int (nI (dpW w))] m Q
def ProOK (G : Cx) (C : Pc) (pre : List Cd) (n : Nat) : Prop := ∀ (d : Nat) (ts : List Tk) (w : List Nat) (out : List Cd) (m : Mm) (Q : Option Value → Mm → Prop), ts.length ≤ n → Wf ts → pre.length + out.length + w.length + ts.length ≤ 501 → dpW w ≤ 20 → Tp 1 w → PZ G C m ts (pre ++ out) →
  (∀ m' c p, run (cNn C) (cNl C) (cNh C) ts 0 w out = .error (c, p) → PF G C m' c p → Q (some (.int 0)) m') →
  (∀ m' ts' out', run (cNn C) (cNl C) (cNh C) ts 0 w out = run (cNn C) (cNl C) (cNh C) ts' 1 w out' → ¬ (hdK ts' = 42 ∨ hdK ts' = 47) → Wf ts' → ts'.length < ts.length → pre.length + out'.length + w.length + ts'.length ≤ 501 → PZ G C m' ts' (pre ++ out') → Q (some (.int 1)) m') →
  WPM G (d + 3 * (20 - dpW w) + 5) (0, 0) μX7_readProduct [.ref (gB G + 279), .int (nI (dpW w))] m Q
def SumOK (G : Cx) (C : Pc) (pre : List Cd) (n : Nat) : Prop := ∀ (d : Nat) (ts : List Tk) (w : List Nat) (out : List Cd) (m : Mm) (Q : Option Value → Mm → Prop), ts.length ≤ n → Wf ts → pre.length + out.length + w.length + ts.length ≤ 501 → dpW w ≤ 20 → Tp 0 w → PZ G C m ts (pre ++ out) →
  (∀ m' c p, run (cNn C) (cNl C) (cNh C) ts 0 w out = .error (c, p) → PF G C m' c p → Q (some (.int 0)) m') →
  (∀ m' ts' out', run (cNn C) (cNl C) (cNh C) ts 0 w out = run (cNn C) (cNl C) (cNh C) ts' 1 w out' → ¬ binK (hdK ts') → Wf ts' → ts'.length < ts.length → pre.length + out'.length + w.length + ts'.length ≤ 501 → PZ G C m' ts' (pre ++ out') → Q (some (.int 1)) m') →
  WPM G (d + 3 * (20 - dpW w) + 6) (0, 0) μX7_readSum [.ref (gB G + 279), .int (nI (dpW w))] m Q
theorem ap_as {o : List Cd} {c : Cd} : (pre ++ o) ++ [c] = pre ++ (o ++ [c]) := List.append_assoc _ _ _
theorem pro_of {n : Nat} (hG : PG G C) (hFac : FacOK G C pre n) : ProOK G C pre n := by
  intro d ts w out m Q hn hw hcap hdp htop hP kE kO
  refine eC_P hP.full (hFac d ts w out m _ hn hw hcap hdp hP (fun m' c p e hf => fC_P0 hf.full (zC_P (i := 0) hf.full (kE m' c p e hf))) (fun m' ts1 out1 e hw1 hl1 hc1 hP1 => ?_))
  rw [htop.rE] at e
  have loop : ∀ f i ts1 out1 m1, ts1.length ≤ f → Wf ts1 → i + ts1.length ≤ 500 → ts1.length < ts.length → pre.length + out1.length + w.length + ts1.length ≤ 501 → run (cNn C) (cNl C) (cNh C) ts 0 w out = run (cNn C) (cNl C) (cNh C) ts1 1 w out1 → PZ G C m1 ts1 (pre ++ out1) → WP G (d + 3 * (20 - dpW w) + 1 + 4) (0, 0) μX7_readProduct 8 [.ref (gB G + 279), .int (nI (dpW w)), .int (1 : Int32), .int (nI i), lvU] [] m1 Q := by
    intro f
    induction f with
    | zero =>
      intro i ts1 out1 m1 h1 h2
      obtain ⟨k, r, rfl⟩ := h2.cs
      simp at h1
    | succ f ih =>
      intro i ts1 out1 m1 h1 h2 h3 h4 h5 h6 h7
      obtain ⟨k, r, rfl⟩ := h2.cs
      rw [List.length_cons] at h1 h3 h4 h5
      obtain ⟨a, q1, q2, q3⟩ := h7.at
      obtain ⟨t1, t2, t3, t4, t5, t6, t7⟩ := q2.tok hG q1
      have go : (k.1 = 42 ∨ k.1 = 47) → WPM G (d + 3 * (20 - dpW w) + 1 + 3) (0, 0) μX7_readFactor [.ref (gB G + 279), .int (nI (dpW w))] (wfi m1 709 (gB G + 279) (nI (a + 1))) (fun r' m' => WP G (d + 3 * (20 - dpW w) + 1 + 4) (0, 0) μX7_readProduct 58 [.ref (gB G + 279), .int (nI (dpW w)), lvU, .int (nI i), .int (nI k.1)] (r'.toList ++ []) m' Q) := by
        intro hk
        have hb : binK k.1 := by unfold binK; omega
        have hr2 := rk_mul hk
        have hwr := h2.tl (show 1 < k.1 by omega)
        have e2 : run (cNn C) (cNl C) (cNh C) (k :: r) 1 w out1 = run (cNn C) (cNl C) (cNh C) r 0 (k.1 :: w) out1 := by
          rw [run_bin hb, (htop.pp (show 1 < rkW k.1 by omega)).1, (htop.pp (show 1 < rkW k.1 by omega)).2, List.append_nil]
        have hF' := hFac d r (k.1 :: w) out1 (wfi m1 709 (gB G + 279) (nI (a + 1)))
        rw [dpW_bin hb] at hF'
        refine hF' _ (by omega) hwr (by rw [List.length_cons]; omega) hdp q3 (fun m' c p e hf => ?_) (fun m' ts3 out3 e hw3 hl3 hc3 hP3 => ?_)
        · refine cC_P0 hf.full (by omega) t4 (C_emF hf (fun m4 hf4 => dC_P0 hf4.full (by omega) (zC_P hf4.full (kE m4 c p ?_ hf4))))
          rw [h6, e2, e]
        · rw [List.length_cons] at hc3
          obtain ⟨k3, r3, rfl⟩ := hw3.cs
          rw [List.length_cons] at hl3 hc3
          refine cC_P1 hP3.full (by omega) t4 (C_em (y := 0) hP3 (by rw [List.length_append]; omega) (fun m4 hP4 => dC_P1 hP4.full (by omega) ?_))
          rw [ap_as] at hP4
          refine ih (i + 1) (k3 :: r3) (out3 ++ [(k.1, 0)]) m4 (by rw [List.length_cons]; omega) hw3 (by rw [List.length_cons]; omega) (by rw [List.length_cons]; omega) (by simp only [List.length_append, List.length_cons, List.length_nil]; omega) ?_ hP4
          rw [h6, e2, e, (Tp.bin hb).rE, run_lazy hb (by rw [hr2]; exact rk_le2 _)]
      refine bC_P q2.full q2.ha q2.hn t6 t7 t1 t4 (by omega) (fun e => go (Or.inl e)) (fun e1 e2 => kO m1 (k :: r) out1 h6 (fun z => z.elim e1 e2) h2 (by rw [List.length_cons]; omega) (by rw [List.length_cons]; omega) h7) (fun _ e => go (Or.inr e))
  refine fC_P1 hP1.full (loop ts1.length 0 ts1 out1 m' (Nat.le_refl _) hw1 (by omega) hl1 hc1 e hP1)
theorem sum_of {n : Nat} (hG : PG G C) (hPro : ProOK G C pre n) : SumOK G C pre n := by
  intro d ts w out m Q hn hw hcap hdp htop hP kE kO
  refine eC_S hP.full (hPro d ts w out m _ hn hw hcap hdp (htop.mono (Nat.zero_le _)) hP (fun m' c p e hf => fC_S0 hf.full (zC_S (i := 0) hf.full (kE m' c p e hf))) (fun m' ts1 out1 e hm1 hw1 hl1 hc1 hP1 => ?_))
  have loop : ∀ f i ts1 out1 m1, ts1.length ≤ f → Wf ts1 → i + ts1.length ≤ 500 → ts1.length < ts.length → pre.length + out1.length + w.length + ts1.length ≤ 501 → ¬ (hdK ts1 = 42 ∨ hdK ts1 = 47) → run (cNn C) (cNl C) (cNh C) ts 0 w out = run (cNn C) (cNl C) (cNh C) ts1 1 w out1 → PZ G C m1 ts1 (pre ++ out1) → WP G (d + 3 * (20 - dpW w) + 2 + 4) (0, 0) μX7_readSum 8 [.ref (gB G + 279), .int (nI (dpW w)), .int (1 : Int32), .int (nI i), lvU] [] m1 Q := by
    intro f
    induction f with
    | zero =>
      intro i ts1 out1 m1 h1 h2
      obtain ⟨k, r, rfl⟩ := h2.cs
      simp at h1
    | succ f ih =>
      intro i ts1 out1 m1 h1 h2 h3 h4 h5 hm h6 h7
      obtain ⟨k, r, rfl⟩ := h2.cs
      rw [List.length_cons] at h1 h3 h4 h5
      obtain ⟨a, q1, q2, q3⟩ := h7.at
      obtain ⟨t1, t2, t3, t4, t5, t6, t7⟩ := q2.tok hG q1
      have go : (k.1 = 43 ∨ k.1 = 45) → WPM G (d + 3 * (20 - dpW w) + 2 + 3) (0, 0) μX7_readProduct [.ref (gB G + 279), .int (nI (dpW w))] (wfi m1 709 (gB G + 279) (nI (a + 1))) (fun r' m' => WP G (d + 3 * (20 - dpW w) + 2 + 4) (0, 0) μX7_readSum 58 [.ref (gB G + 279), .int (nI (dpW w)), lvU, .int (nI i), .int (nI k.1)] (r'.toList ++ []) m' Q) := by
        intro hk
        have hb : binK k.1 := by unfold binK; omega
        have hr2 := rk_add hk
        have hwr := h2.tl (show 1 < k.1 by omega)
        have e2 : run (cNn C) (cNl C) (cNh C) (k :: r) 1 w out1 = run (cNn C) (cNl C) (cNh C) r 0 (k.1 :: w) out1 := by
          rw [run_bin hb, (htop.pp (show 0 < rkW k.1 by omega)).1, (htop.pp (show 0 < rkW k.1 by omega)).2, List.append_nil]
        have hF' := hPro d r (k.1 :: w) out1 (wfi m1 709 (gB G + 279) (nI (a + 1)))
        rw [dpW_bin hb] at hF'
        have htp : Tp 1 (k.1 :: w) := by
          have := Tp.bin (w := w) hb
          rwa [hr2] at this
        refine hF' _ (by omega) hwr (by rw [List.length_cons]; omega) hdp htp q3 (fun m' c p e hf => ?_) (fun m' ts3 out3 e hm3 hw3 hl3 hc3 hP3 => ?_)
        · refine cC_S0 hf.full (by omega) t4 (C_emF hf (fun m4 hf4 => dC_S0 hf4.full (by omega) (zC_S hf4.full (kE m4 c p ?_ hf4))))
          rw [h6, e2, e]
        · rw [List.length_cons] at hc3
          obtain ⟨k3, r3, rfl⟩ := hw3.cs
          rw [List.length_cons] at hl3 hc3
          refine cC_S1 hP3.full (by omega) t4 (C_em (y := 0) hP3 (by rw [List.length_append]; omega) (fun m4 hP4 => dC_S1 hP4.full (by omega) ?_))
          rw [ap_as] at hP4
          refine ih (i + 1) (k3 :: r3) (out3 ++ [(k.1, 0)]) m4 (by rw [List.length_cons]; omega) hw3 (by rw [List.length_cons]; omega) (by rw [List.length_cons]; omega) (by simp only [List.length_append, List.length_cons, List.length_nil]; omega) hm3 ?_ hP4
          rw [h6, e2, e, run_lazy hb (by rw [hr2]; exact rk_le1 hm3)]
      refine bC_S q2.full q2.ha q2.hn t6 t7 t1 t4 (by omega) (fun e => go (Or.inl e)) (fun e1 e2 => kO m1 (k :: r) out1 h6 (fun z => ?_) h2 (by rw [List.length_cons]; omega) (by rw [List.length_cons]; omega) h7) (fun _ e => go (Or.inr e))
      have hm' : ¬ (k.1 = 42 ∨ k.1 = 47) := hm
      have z' : binK k.1 := z
      unfold binK at z'
      omega
  refine fC_S1 hP1.full (loop ts1.length 0 ts1 out1 m' (Nat.le_refl _) hw1 (by omega) hl1 hc1 hm1 e hP1)
theorem fac_of {n : Nat} (hG : PG G C) (hFac : FacOK G C pre n) (hSum : SumOK G C pre n) : FacOK G C pre (n + 1) := by
  intro d ts w out m Q hn hw hcap hdp hP kE kO
  obtain ⟨k, r, rfl⟩ := hw.cs
  rw [List.length_cons] at hn hcap kO
  obtain ⟨a, q1, q2, q3⟩ := hP.at
  obtain ⟨t1, t2, t3, t4, t5, t6, t7⟩ := q2.tok hG q1
  have hcap' : ∀ z, (pre ++ out).length + z = pre.length + out.length + z := fun z => by rw [List.length_append]
  have hol : (pre ++ out).length ≤ 500 := by rw [List.length_append]; omega
  have lit : ∀ {z : Nat}, k.1 = z → ai m (gB G + 290) a = nI z := fun e => by rw [← e]; exact t1
  -- one code is given out, and the factor is complete
  have one : ∀ (c v : Nat) (r1 : List Tk) (m1 : Mm), Wf r1 → r1.length + 1 ≤ r.length + 1 → run (cNn C) (cNl C) (cNh C) (k :: r) 0 w out = runE (cNn C) (cNl C) (cNh C) r1 w (out ++ [(c, v)]) → PZ G C m1 r1 (pre ++ out) → WPM G (d + 3 * (20 - dpW w) + 3) (0, 0) μX8_emitCode [.ref (gB G + 281), .int (nI c), .int (nI v)] m1 (fun r' m' => WP G (d + 3 * (20 - dpW w) + 4) (0, 0) μX7_readFactor 267 [lvU, lvU, lvU, .int (1 : Int32)] (r'.toList ++ []) m' Q) := by
    intro c v r1 m1 h1 h2 h3 h4
    obtain ⟨k3, r3, rfl⟩ := h1.cs
    rw [List.length_cons] at h2
    refine C_em h4 (by rw [List.length_append]; omega) (fun m4 hP4 => dC_F2001 hP4.full ?_)
    rw [ap_as] at hP4
    exact kO m4 (k3 :: r3) _ h3 h1 (by rw [List.length_cons]; omega) (by simp only [List.length_append, List.length_cons, List.length_nil]; omega) hP4
  have oneF : ∀ (c p : Nat) (x y : Int32) (m1 : Mm), run (cNn C) (cNl C) (cNh C) (k :: r) 0 w out = .error (c, p) → PF G C m1 c p → WPM G (d + 3 * (20 - dpW w) + 3) (0, 0) μX8_emitCode [.ref (gB G + 281), .int x, .int y] m1 (fun r' m' => WP G (d + 3 * (20 - dpW w) + 4) (0, 0) μX7_readFactor 267 [lvU, lvU, lvU, .int (0 : Int32)] (r'.toList ++ []) m' Q) :=
    fun c p x y m1 h1 h2 => C_emF h2 (fun m4 hf4 => dC_F2000 hf4.full (kE m4 c p h1 hf4))
  by_cases hl : leafK k.1
  · have hwr := hw.tl (show 1 < k.1 by unfold leafK at hl; omega)
    by_cases e45 : k.1 = 45
    · refine bC_F45 q2.full q2.ha q2.hn t6 t7 (lit e45) t2 hdp (fun h => ?_) (fun h => kE _ 4 k.2.1 (run_deep (Or.inl e45) h) (q2.pf t6 hol _ _))
      have e2 := run_neg (nn := cNn C) (nl := cNl C) (nh := cNh C) (ts := r) (out := out) e45 h
      have hF' := hFac (d + 2) r (220 :: w) out (wfi m 709 (gB G + 279) (nI (a + 1)))
      rw [dpW_neg] at hF'
      rw [show d + 3 * (20 - dpW w) + 3 = d + 2 + 3 * (20 - (dpW w + 1)) + 4 by omega]
      refine hF' _ (by omega) hwr (by rw [List.length_cons]; omega) (by omega) q3 (fun m' c p e hf => ?_) (fun m' ts3 out3 e hw3 hl3 hc3 hP3 => ?_)
      · exact cC_F450 hf.full (C_emF hf (fun m4 hf4 => dC_F450 hf4.full (kE m4 c p (by rw [e2, e]) hf4)))
      · rw [List.length_cons] at hc3
        obtain ⟨k3, r3, rfl⟩ := hw3.cs
        rw [List.length_cons] at hl3 hc3
        refine cC_F451 hP3.full (C_em (x := 220) (y := 0) hP3 (by rw [List.length_append]; omega) (fun m4 hP4 => dC_F451 hP4.full ?_))
        rw [ap_as] at hP4
        refine kO m4 (k3 :: r3) _ ?_ hw3 (by rw [List.length_cons]; omega) (by simp only [List.length_append, List.length_cons, List.length_nil]; omega) hP4
        rw [e2, e, runE_neg]
    by_cases e40 : k.1 = 40
    · refine bC_F40 q2.full q2.ha q2.hn t6 t7 (lit e40) t2 hdp (fun h => ?_) (fun h => kE _ 4 k.2.1 (run_deep (Or.inr e40) h) (q2.pf t6 hol _ _))
      have e2 := run_par (nn := cNn C) (nl := cNl C) (nh := cNh C) (ts := r) (out := out) e40 h
      have hF' := hSum d r (40 :: w) out (wfi m 709 (gB G + 279) (nI (a + 1)))
      rw [dpW_par] at hF'
      rw [show d + 3 * (20 - dpW w) + 3 = d + 3 * (20 - (dpW w + 1)) + 6 by omega]
      refine hF' _ (by omega) hwr (by rw [List.length_cons]; omega) (by omega) Tp.par q3 (fun m' c p e hf => ?_) (fun m' ts3 out3 e hb3 hw3 hl3 hc3 hP3 => ?_)
      · exact cC_F400 hf.full (kE m' c p (by rw [e2, e]) hf)
      · rw [List.length_cons] at hc3
        obtain ⟨k3, r3, rfl⟩ := hw3.cs
        rw [List.length_cons] at hl3 hc3
        have hb3' : ¬ binK k3.1 := hb3
        refine cC_F401 hP3.full (C_tk (w := 41) hG hP3 (by rw [List.length_append]; omega) (by decide) (fun e41 m4 hP4 => dC_F401 hP4.full ?_) (fun e41 m4 hf4 => dC_F400 hf4.full (kE m4 1 k3.2.1 ?_ hf4)))
        · refine kO m4 r3 out3 ?_ (hw3.tl (by omega)) (by omega) (by omega) hP4
          rw [e2, e, run_cl e41 (by rw [opW_par]; omega)]
          show runE _ _ _ r3 w (out3 ++ []) = _
          rw [List.append_nil]
        · rw [e2, e, run_op hb3' e41 (by rw [opW_par]; omega)]
    by_cases e200 : k.1 = 200
    · refine bC_F200 q2.full q2.ha q2.hn t6 t7 (lit e200) t2 hdp ?_
      refine C_tn (c := 1000000) hG (hP.nu 0) hol (Nat.le_refl _) (fun _ e m1 h1 h2 => ?_) (fun _ e m1 h1 h2 => ?_) (fun e => absurd e200 e)
      · exact cC_F2001 h1.full h2 (one 200 k.2.2 r m1 hwr (Nat.le_refl _) (run_num e200 (by omega)) h1)
      · exact cC_F2000 h1.full h2 (oneF 2 k.2.1 _ _ m1 (run_numx e200 (by omega)) h1)
    have part : ∀ (c : Nat), (k.1 = 205 ∨ k.1 = 206 ∨ k.1 = 207) → c = cnF (cNn C) (cNl C) (cNh C) k.1 → c ≤ 12 → ∀ (P : Option Value → Mm → Prop), (∀ m1 v, PZ G C m1 r.tail (pre ++ out) → Wf r.tail → r.tail.length + 1 ≤ r.length → fi m1 713 (gB G + 279) = nI v → run (cNn C) (cNl C) (cNh C) (k :: r) 0 w out = runE (cNn C) (cNl C) (cNh C) r.tail w (out ++ [(k.1, v)]) → P (some (.int 1)) m1) → (∀ m1 v c' p', PF G C m1 c' p' → fi m1 713 (gB G + 279) = nI v → run (cNn C) (cNl C) (cNh C) (k :: r) 0 w out = .error (c', p') → P (some (.int 0)) m1) → WPM G (d + 3 * (20 - dpW w) + 1 + 2) (0, 0) μX7_takeNumber [.ref (gB G + 279), .int (nI c)] (wfi (wfi m 713 (gB G + 279) (0 : Int32)) 709 (gB G + 279) (nI (a + 1))) P := by
      intro c hk hc hc12 P p1 p0
      have e2 := run_pt (nn := cNn C) (nl := cNl C) (nh := cNh C) (ts := r) (w := w) (out := out) hk
      obtain ⟨k2, r2, rfl⟩ := hwr.cs
      have hPn : PZ G C (wfi (wfi m 713 (gB G + 279) (0 : Int32)) 709 (gB G + 279) (nI (a + 1))) (k2 :: r2) (pre ++ out) := by
        obtain ⟨⟨a', h1', h2'⟩, h3'⟩ := q3
        have ea : nI a' = nI (a + 1) := by
          rw [← h2'.ha]
          exact fi_eq
        refine ⟨⟨a', h1', ?_⟩, CodC_ai (m := wfi m 709 (gB G + 279) (nI (a + 1))) (fun _ _ _ => ⟨rfl, rfl⟩) h3'⟩
        have := (q2.nu 0).at a'
        rw [ea] at this
        exact this
      refine C_tn hG hPn hol (by omega) (fun f1 f2 m1 h1 h2 => p1 m1 k2.2.2 h1 (hwr.tl (by omega)) (Nat.le_refl _) h2 ?_) (fun f1 f2 m1 h1 h2 => p0 m1 k2.2.2 2 k2.2.1 h1 h2 ?_) (fun f1 m1 h1 h2 => p0 m1 0 1 k2.2.1 h1 (h2.trans ((fi_ne (by decide)).trans fi_eq)) ?_)
      · rw [hc] at f2
        rw [e2, run_ptn hk f1 f2]
        rfl
      · rw [hc] at f2
        rw [e2, run_ptx hk f1 f2]
      · rw [e2, run_pty hk f1]
    have f9 : ∀ m1 : Mm, PZ G C m1 r (pre ++ out) → (k.1 = 208 ∨ k.1 = 209 ∨ k.1 = 210 ∨ k.1 = 211) → WPM G (d + 3 * (20 - dpW w) + 3) (0, 0) μX8_emitCode [.ref (gB G + 281), .int (nI k.1), .int (nI 0)] m1 (fun r' m' => WP G (d + 3 * (20 - dpW w) + 4) (0, 0) μX7_readFactor 267 [lvU, lvU, lvU, .int (1 : Int32)] (r'.toList ++ []) m' Q) := fun m1 h1 hk => one k.1 0 r m1 hwr (Nat.le_refl _) (run_rd hk) h1
    have q3n : PZ G C (wfi (wfi m 713 (gB G + 279) (0 : Int32)) 709 (gB G + 279) (nI (a + 1))) r (pre ++ out) := by
      obtain ⟨⟨a', h1', h2'⟩, h3'⟩ := q3
      have ea : nI a' = nI (a + 1) := by
        rw [← h2'.ha]
        exact fi_eq
      refine ⟨⟨a', h1', ?_⟩, CodC_ai (m := wfi m 709 (gB G + 279) (nI (a + 1))) (fun _ _ _ => ⟨rfl, rfl⟩) h3'⟩
      have := (q2.nu 0).at a'
      rw [ea] at this
      exact this
    by_cases e205 : k.1 = 205
    · refine bC_F205 q2.full q2.ha q2.hn t6 t7 (lit e205) t2 q2.2.2.2.2.2.2.2.1 hG.2.2.2.1 hdp (part _ (Or.inl e205) (by rw [e205]; rfl) hG.2.2.2.1 _ (fun m1 v h1 h2 h3 h4 h5 => cC_F2051 h1.full h4 ?_) (fun m1 v c' p' h1 h2 h3 => cC_F2050 h1.full h2 (oneF c' p' _ _ m1 h3 h1)))
      rw [e205] at h5
      exact one 205 v r.tail m1 h2 (by omega) h5 h1
    by_cases e206 : k.1 = 206
    · refine bC_F206 q2.full q2.ha q2.hn t6 t7 (lit e206) t2 q2.2.2.2.2.2.2.2.2.1 hG.2.2.2.2.1 hdp (part _ (Or.inr (Or.inl e206)) (by rw [e206]; rfl) hG.2.2.2.2.1 _ (fun m1 v h1 h2 h3 h4 h5 => cC_F2061 h1.full h4 ?_) (fun m1 v c' p' h1 h2 h3 => cC_F2060 h1.full h2 (oneF c' p' _ _ m1 h3 h1)))
      rw [e206] at h5
      exact one 206 v r.tail m1 h2 (by omega) h5 h1
    by_cases e207 : k.1 = 207
    · refine bC_F207 q2.full q2.ha q2.hn t6 t7 (lit e207) t2 q2.2.2.2.2.2.2.2.2.2.1 hG.2.2.2.2.2 hdp (part _ (Or.inr (Or.inr e207)) (by rw [e207]; rfl) hG.2.2.2.2.2 _ (fun m1 v h1 h2 h3 h4 h5 => cC_F2071 h1.full h4 ?_) (fun m1 v c' p' h1 h2 h3 => cC_F2070 h1.full h2 (oneF c' p' _ _ m1 h3 h1)))
      rw [e207] at h5
      exact one 207 v r.tail m1 h2 (by omega) h5 h1
    by_cases e208 : k.1 = 208
    · have := f9 _ q3n (Or.inl e208)
      rw [e208] at this
      exact bC_F208 q2.full q2.ha q2.hn t6 t7 (lit e208) t2 hdp this
    by_cases e209 : k.1 = 209
    · have := f9 _ q3n (Or.inr (Or.inl e209))
      rw [e209] at this
      exact bC_F209 q2.full q2.ha q2.hn t6 t7 (lit e209) t2 hdp this
    by_cases e210 : k.1 = 210
    · have := f9 _ q3n (Or.inr (Or.inr (Or.inl e210)))
      rw [e210] at this
      exact bC_F210 q2.full q2.ha q2.hn t6 t7 (lit e210) t2 hdp this
    · have e211 : k.1 = 211 := by unfold leafK at hl; omega
      have := f9 _ q3n (Or.inr (Or.inr (Or.inr e211)))
      rw [e211] at this
      exact bC_F211 q2.full q2.ha q2.hn t6 t7 (lit e211) t2 hdp this
  · exact bC_Fx q2.full q2.ha q2.hn t6 t7 t1 t4 t2 hl hdp (fun _ _ _ _ _ _ _ _ => kE _ 1 k.2.1 (run_bad hl) ((q2.nu 0).pf t6 hol _ _))
theorem exp_all (hG : PG G C) : ∀ n, FacOK G C pre n ∧ ProOK G C pre n ∧ SumOK G C pre n
  | 0 => by
    have h0 : FacOK G C pre 0 := fun d ts w out m Q hn hw => by
      obtain ⟨k, r, rfl⟩ := hw.cs
      simp at hn
    exact ⟨h0, pro_of hG h0, sum_of hG (pro_of hG h0)⟩
  | n + 1 => by
    obtain ⟨h1, h2, h3⟩ := exp_all hG n
    have h4 := fac_of hG h1 h3
    exact ⟨h4, pro_of hG h4, sum_of hG (pro_of hG h4)⟩
/-- readSum at the level 0 -/
theorem C_sum0 {d : Nat} {ts : List Tk} {m : Mm} {Q : Option Value → Mm → Prop} (hG : PG G C) (hw : Wf ts) (hcap : pre.length + ts.length ≤ 501) (hP : PZ G C m ts pre)
    (kE : ∀ m' c p, run (cNn C) (cNl C) (cNh C) ts 0 [] [] = .error (c, p) → PF G C m' c p → Q (some (.int 0)) m')
    (kO : ∀ m' ts' out', run (cNn C) (cNl C) (cNh C) ts 0 [] [] = .ok (ts', out') → Wf ts' → ts'.length < ts.length → pre.length + out'.length + ts'.length ≤ 501 → PZ G C m' ts' (pre ++ out') → Q (some (.int 1)) m') : WPM G (d + 66) (0, 0) μX7_readSum [.ref (gB G + 279), .int (0 : Int32)] m Q := by
  have h := (exp_all (pre := pre) hG ts.length).2.2 d ts [] [] m Q (Nat.le_refl _) hw hcap (by decide) Tp.nil (by rw [List.append_nil]; exact hP) kE (fun m' ts' out' e hb hw' hl hc hP' => ?_)
  · exact h
  · obtain ⟨k3, r3, rfl⟩ := hw'.cs
    rw [run_ok hb rfl] at e
    exact kO m' (k3 :: r3) out' (by rw [e]; show _ = Except.ok (k3 :: r3, out'); rw [show ppO 1 [] = [] from rfl, List.append_nil]) hw' hl hc hP'
end CEXP
