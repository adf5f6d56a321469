/-! THE CLASS READS RULES -/
def Seg (out : List Cd) (i : Nat) (cs : List Cd) : Prop := ∃ a b, out = a ++ (cs ++ b) ∧ a.length = i
theorem Seg.app {out cs : List Cd} {i : Nat} (h : Seg out i cs) (x : List Cd) : Seg (out ++ x) i cs := by
  obtain ⟨a, b, rfl, e⟩ := h
  exact ⟨a, b ++ x, by rw [List.append_assoc, List.append_assoc], e⟩
theorem Seg.le {out cs : List Cd} {i : Nat} (h : Seg out i cs) : i + cs.length ≤ out.length := by
  obtain ⟨a, b, rfl, e⟩ := h
  simp only [List.length_append]
  omega
theorem Seg.cod {m : Mm} {r : Nat} {out cs : List Cd} {i : Nat} (h : Seg out i cs) (hc : CodC m r 0 out) : CodC m r i cs := by
  obtain ⟨a, b, rfl, e⟩ := h
  have h1 := (CodC_app hc).2
  rw [Nat.zero_add, e] at h1
  exact (CodC_app h1).1
def RulT (G : Cx) (m : Mm) (q : Nat) (out : List Cd) (R : Ru) : Prop := ∃ i, ai m (gB G + 281 + 3) q = nI i ∧ ai m (gB G + 281 + 4) q = nI (i + (clC R.1).length) ∧ Seg out i (clC R.1) ∧ ai m (gB G + 281 + 6) q = nI (acC R.2.1) ∧ ai m (gB G + 281 + 7) q = nI R.2.2.1 ∧ (R.2.1 = 5 → ai m (gB G + 281 + 5) q = nI (i + (clC R.1).length + R.2.2.2.length) ∧ Seg out (i + (clC R.1).length) R.2.2.2)
section CRLS
variable {G : Cx} {d : Nat} {m m0 : Mm} {Q : Option Value → Mm → Prop} {ts : List Tk} {out : List Cd} {T : List Tk} {ln nn nl nh c : Nat}
theorem RulT.mv {m' : Mm} {q : Nat} {R : Ru} (h : RulT G m q out R) (he : ∀ j, 3 ≤ j → j < 8 → ai m' (gB G + 281 + j) q = ai m (gB G + 281 + j) q) (x : List Cd) : RulT G m' q (out ++ x) R := by
  obtain ⟨i, h1, h2, h3, h4, h5, h6⟩ := h
  exact ⟨i, (he 3 (by omega) (by omega)).trans h1, (he 4 (by omega) (by omega)).trans h2, h3.app x, (he 6 (by omega) (by omega)).trans h4, (he 7 (by omega) (by omega)).trans h5, fun e => ⟨(he 5 (by omega) (by omega)).trans (h6 e).1, (h6 e).2.app x⟩⟩
theorem RulT.cc {q : Nat} {R : Ru} (h : RulT G m q out R) (hc : CodC m (gB G + 281) 0 out) : RulC m (gB G + 281) out.length q R := by
  obtain ⟨i, h1, h2, h3, h4, h5, h6⟩ := h
  exact ⟨i, h1, h2, h3.le, h3.cod hc, h4, h5, fun e => ⟨(h6 e).1, (h6 e).2.le, (h6 e).2.cod hc⟩⟩
theorem PW.cn (h : PW G (T, ln, nn, nl, nh, c) m ts out) (c' : Nat) : PW G (T, ln, nn, nl, nh, c') (wfi m 808 (gB G + 281) (nI c')) ts out := by
  obtain ⟨⟨⟨a, h0, h1, h2, h3, h4, h5, h6, h7, h8, h9, h10, h11, h12⟩, hc⟩, hg1, hg2⟩ := h
  refine ⟨⟨⟨a, h0, Full_wfi _ _ _ h1, Out.rf, (fi_ne (by decide)).trans h3, (fi_ne (by decide)).trans h4, (fi_ne (by decide)).trans h5, (fi_ne (by decide)).trans h6, (fi_ne (by decide)).trans h7, (fi_ne (by decide)).trans h8, (fi_ne (by decide)).trans h9, (fi_ne (by decide)).trans h10, (fi_ne (by decide)).trans h11, fi_eq⟩, CodC_ai (m := m) (fun _ _ _ => ⟨rfl, rfl⟩) hc⟩, hg1, hg2⟩
theorem rul_loop {P : Except Er (List Ru)} (hn : nn ≤ 12 ∧ nl ≤ 12 ∧ nh ≤ 12)
    (kE : ∀ m' c p, P = .error (c, p) → PR G m0 ln m' c p → Q (some (.int 0)) m')
    (kO : ∀ m' ts' out' L, P = .ok L → PW G (T, ln, nn, nl, nh, L.length) m' ts' out' → Out (PQ G) m' m0 → RulsC m' (gB G + 281) L → Q (some (.int 1)) m') :
    ∀ f ts out L m1, ts.length ≤ f → Wf ts → out.length + ts.length ≤ 501 → L.length ≤ 12 → P = pRls nn nl nh f ts L → PW G (T, ln, nn, nl, nh, L.length) m1 ts out → Out (PQ G) m1 m0 → (∀ q R, L[q]? = some R → RulT G m1 q out R) →
      WP G (d + 90) (0, 0) μX7_readRules 53 [.ref (gB G + 279), lvU, lvU, lvU, .int (nI L.length)] [] m1 Q := by
  intro f
  induction f with
  | zero =>
    intro ts out L m1 h1 h2
    obtain ⟨k, r, rfl⟩ := h2.cs
    simp at h1
  | succ f ih =>
    intro ts out L m1 h1 h2 h3 h4 hX hP hO hL
    obtain ⟨k, r, rfl⟩ := h2.cs
    rw [List.length_cons] at h1 h3
    obtain ⟨a, q1, q2, q3⟩ := hP.1.at
    obtain ⟨t1, t2, t3, t4, t5, t6, t7⟩ := q2.tok hP.2 q1
    have hX' : P = if k.1 = 0 then .ok L else if 12 ≤ L.length then .error (if k.1 = 201 ∨ k.1 = 212 ∨ k.1 = 213 ∨ k.1 = 214 then 3 else 1, k.2.1) else pBd (pRul nn nl nh (k :: r)) (fun r => pRls nn nl nh f r.1 (L ++ [r.2])) := hX
    have fin : k.1 = 0 → Q (some (.int 1)) m1 := fun hk => by
      rw [if_pos hk] at hX'
      refine kO m1 (k :: r) out L hX' hP hO ⟨out.length, hP.hs, by omega, ?_, h4, fun q R hq => (hL q R hq).cc hP.1.2⟩
      obtain ⟨⟨⟨a', -, g⟩, -⟩, -⟩ := hP
      exact g.2.2.2.2.2.2.2.2.2.2.2
    have flr : ∀ e : Nat, P = .error (e, k.2.1) → Q (some (.int 0)) (wfi (wfi m1 702 (gB G + 279) (nI e)) 703 (gB G + 279) (nI k.2.1)) := fun e he => kE _ e k.2.1 he ((q2.pf t6 (by omega) _ _).pr hO)
    refine rC q2.full h4 q2.ha q2.hn t6 t7 t1 t4 (fun hq => ?_) (fun hq hk => ?_) (fun hq hk => ?_)
    · refine rG q2.full q2.ha q2.hn t6 t7 t1 t4 t2 (fun z0 z => flr 3 ?_) (fun z0 _ z => flr 3 ?_) (fun z0 _ _ z => flr 3 ?_) (fun z0 z1 z2 z3 z4 => flr 1 ?_) (fun z0 _ _ _ z => flr 3 ?_) fin
      all_goals rw [hX', if_neg z0, if_pos (by omega)]
      · rw [if_pos (Or.inl z)]
      · rw [if_pos (Or.inr (Or.inl z))]
      · rw [if_pos (Or.inr (Or.inr (Or.inl z)))]
      · rw [if_neg (by omega)]
      · rw [if_pos (Or.inr (Or.inr (Or.inr z)))]
    · exact rG q2.full q2.ha q2.hn t6 t7 t1 t4 t2 (fun z => absurd hk z) (fun z => absurd hk z) (fun z => absurd hk z) (fun z => absurd hk z) (fun z => absurd hk z) fin
    · rw [if_neg hk, if_neg (by omega)] at hX'
      refine C_test (d := d + 9) hq hP h2 (by rw [List.length_cons]; omega) (fun m2 c p e hr => rD0 hr.1 (kE m2 c p ?_ ?_)) (fun m2 ts2 gs e hw2 hl2 hc2 hP2 hO2 b3 b4 hT2 => rD1 hP2.full ?_)
      · rw [hX']
        unfold pRul
        rw [show pWhen nn nl nh (k :: r) = .error (c, p) from e]
        rfl
      · obtain ⟨g1, g2, g3⟩ := hr
        exact ⟨g1, g2.tr hO, g3⟩
      have e1 : pWhen nn nl nh (k :: r) = .ok (ts2, gs) := e
      have hlo : (out ++ clC gs).length = out.length + (clC gs).length := List.length_append
      refine C_act2 (d := d + 9) hq hP2 hw2 (by omega) (fun m3 c p e hr => rE0 hr.1 (kE m3 c p ?_ ?_)) (fun m3 ts3 ac v sm e hw3 hl3 hc3 hP3 hO3 c3 c4 c6 c7 c5 hT3 => rE1 hP3.full ?_)
      · rw [hX']
        unfold pRul
        rw [e1]
        show pBd (pBd (pAct nn nl nh ts2) _) _ = _
        rw [show pAct nn nl nh ts2 = .error (c, p) from e]
        rfl
      · obtain ⟨g1, g2, g3⟩ := hr
        exact ⟨g1, g2.tr (hO2.tr hO), g3⟩
      obtain ⟨k4, r4, rfl⟩ := hw3.cs
      rw [List.length_cons] at hl3 hc3
      have hX4 : P = pBd (pRul2 gs (k4 :: r4, (ac, v, sm))) (fun r => pRls nn nl nh f r.1 (L ++ [r.2])) := by
        rw [hX']
        unfold pRul
        rw [e1]
        show pBd (pBd (pAct nn nl nh ts2) _) _ = _
        rw [show pAct nn nl nh ts2 = .ok (k4 :: r4, (ac, v, sm)) from e]
        rfl
      have hls : ((out ++ clC gs) ++ sm).length = out.length + (clC gs).length + sm.length := by simp only [List.length_append]
      refine C_tk (d := d + 87) (w := 59) hP3.2 hP3.1 (by omega) (by decide) (fun e59 m4 hP4 => rF1 hP4.full hq ?_) (fun e59 m4 hf => rF0 hf.full (kE m4 1 k4.2.1 ?_ (hf.pr (hO3.tr (hO2.tr hO)))))
      · obtain ⟨hP5, hO5⟩ := hP3.re hP4
        have hX5 : P = pRls nn nl nh f r4 (L ++ [(gs, ac, v, sm)]) := by
          rw [hX4, show pRul2 gs (k4 :: r4, (ac, v, sm)) = .ok (r4, (gs, ac, v, sm)) from if_pos e59]
          rfl
        have hP6 := hP5.cn (L.length + 1)
        have hll : (L ++ [(gs, ac, v, sm)]).length = L.length + 1 := by rw [List.length_append]; rfl
        rw [← hll] at hP6 ⊢
        rw [List.length_cons] at hl2
        refine ih r4 _ _ _ (by omega) (hw3.tl (by omega)) (by rw [hls]; omega) (by omega) hX5 hP6 ((hO5.tr (hO3.tr (hO2.tr hO))).wfi (by unfold PQ; omega)) (fun q R hqR => ?_)
        have tb : ∀ j x, 3 ≤ j → j < 8 → ai (wfi m4 808 (gB G + 281) (nI (L ++ [(gs, ac, v, sm)]).length)) (gB G + 281 + j) x = ai m3 (gB G + 281 + j) x := fun j x ha hb => oTab hP4.oo ha hb x
        by_cases hql : q < L.length
        · rw [List.getElem?_append_left hql] at hqR
          have := (hL q R hqR).mv (m' := wfi m4 808 (gB G + 281) (nI (L ++ [(gs, ac, v, sm)]).length)) (fun j ha hb => (tb j q ha hb).trans ((hT3 j q ha hb (by omega)).trans (hT2 j q ha hb (by omega)))) (clC gs ++ sm)
          rw [← List.append_assoc] at this
          exact this
        · have hq2 := (List.getElem?_eq_some_iff.mp hqR).1
          rw [hll] at hq2
          have eq : q = L.length := by omega
          subst eq
          rw [List.getElem?_append_right (Nat.le_refl _), Nat.sub_self] at hqR
          cases hqR
          refine ⟨out.length, (tb 3 _ (by omega) (by omega)).trans (c3.trans b3), (tb 4 _ (by omega) (by omega)).trans (c4.trans b4), ⟨out, sm, List.append_assoc _ _ _, rfl⟩, (tb 6 _ (by omega) (by omega)).trans c6, (tb 7 _ (by omega) (by omega)).trans c7, fun _ => ⟨?_, ⟨out ++ clC gs, [], by rw [List.append_nil], hlo⟩⟩⟩
          rw [← hlo]
          exact (tb 5 _ (by omega) (by omega)).trans c5
      · rw [hX4, show pRul2 gs (k4 :: r4, (ac, v, sm)) = .error (1, k4.2.1) from if_neg e59]
        rfl
theorem C_rules {t : List Nat} (hF : Full G m) (hT : TxC G m t) (h5 : t.length ≤ 500) (hb : ∀ b ∈ t, b < 256) (hn : nn ≤ 12 ∧ nl ≤ 12 ∧ nh ≤ 12)
    (kE : ∀ m' c p, pRls nn nl nh 502 (toks t 501 0) [] = .error (c, p) → PR G m t.length m' c p → Q (some (.int 0)) m')
    (kO : ∀ m' L, pRls nn nl nh 502 (toks t 501 0) [] = .ok L → (Full G m' ∧ Out (PQ G) m' m ∧ fi m' 701 (gB G + 279) = nI t.length ∧ fi m' 702 (gB G + 279) = 0 ∧ fi m' 703 (gB G + 279) = -1) → RulsC m' (gB G + 281) L → Q (some (.int 1)) m') :
    WPM G (d + 90) (0, 0) μX7_readRules [.ref (gB G + 279), .int (nI nn), .int (nI nl), .int (nI nh)] m Q := by
  refine rA hF ?_
  obtain ⟨m1, hm1⟩ : ∃ m1, m1 = wfi (wfi (wfi (wfi (wfi (wfi (wfi m 710 (gB G + 279) (nI nn)) 711 (gB G + 279) (nI nl)) 712 (gB G + 279) (nI nh)) 702 (gB G + 279) (0 : Int32)) 703 (gB G + 279) (-1 : Int32)) 807 (gB G + 281) (0 : Int32)) 808 (gB G + 281) (0 : Int32) := ⟨_, rfl⟩
  rw [← hm1]
  have hF1 : Full G m1 := by rw [hm1]; exact Full_wfi _ _ _ (Full_wfi _ _ _ (Full_wfi _ _ _ (Full_wfi _ _ _ (Full_wfi _ _ _ (Full_wfi _ _ _ (Full_wfi _ _ _ hF))))))
  have hO1 : Out (PQ G) m1 m := by rw [hm1]; exact ((((((Out.rf.wfi (Or.inl rfl)).wfi (Or.inl rfl)).wfi (Or.inl rfl)).wfi (Or.inl rfl)).wfi (Or.inl rfl)).wfi (by unfold PQ; omega)).wfi (by unfold PQ; omega)
  have g : ∀ f, f ≠ 710 → f ≠ 711 → f ≠ 712 → f ≠ 702 → f ≠ 703 → f ≠ 807 → f ≠ 808 → ∀ b, fi m1 f b = fi m f b := fun f a1 a2 a3 a4 a5 a6 a7 b => by
    rw [hm1]
    exact (fi_ne a7).trans ((fi_ne a6).trans ((fi_ne a5).trans ((fi_ne a4).trans ((fi_ne a3).trans ((fi_ne a2).trans (fi_ne a1))))))
  have e701 : fi m1 701 (gB G + 279) = nI t.length := (g 701 (by decide) (by decide) (by decide) (by decide) (by decide) (by decide) (by decide) _).trans hT.1
  have e710 : fi m1 710 (gB G + 279) = nI nn := by
    rw [hm1]
    exact (fi_ne (by decide)).trans ((fi_ne (by decide)).trans ((fi_ne (by decide)).trans ((fi_ne (by decide)).trans ((fi_ne (by decide)).trans ((fi_ne (by decide)).trans fi_eq)))))
  have e711 : fi m1 711 (gB G + 279) = nI nl := by
    rw [hm1]
    exact (fi_ne (by decide)).trans ((fi_ne (by decide)).trans ((fi_ne (by decide)).trans ((fi_ne (by decide)).trans ((fi_ne (by decide)).trans fi_eq))))
  have e712 : fi m1 712 (gB G + 279) = nI nh := by
    rw [hm1]
    exact (fi_ne (by decide)).trans ((fi_ne (by decide)).trans ((fi_ne (by decide)).trans ((fi_ne (by decide)).trans fi_eq)))
  have e702 : fi m1 702 (gB G + 279) = 0 := by
    rw [hm1]
    exact (fi_ne (by decide)).trans ((fi_ne (by decide)).trans ((fi_ne (by decide)).trans fi_eq))
  have e703 : fi m1 703 (gB G + 279) = -1 := by
    rw [hm1]
    exact (fi_ne (by decide)).trans ((fi_ne (by decide)).trans fi_eq)
  have e807 : fi m1 807 (gB G + 281) = nI 0 := by
    rw [hm1]
    exact (fi_ne (by decide)).trans fi_eq
  have e808 : fi m1 808 (gB G + 281) = nI 0 := by
    rw [hm1]
    exact fi_eq
  have hT1 : TxC G m1 t := ⟨e701, fun k b hk => by rw [hm1]; exact hT.2 k b hk⟩
  have hTk := toks_len t 501 0
  have hwf : Wf (toks t 501 0) := toks_wf t 501 0 (Nat.zero_le _) (by omega)
  refine C_spl (d := d + 82) hF1 hT1 h5 hb (fun m2 hF2 hO2 hf2 hn2 hA2 => rB hF2 ?_)
  have hk : ∀ k ∈ toks t 501 0, k.1 < 1000 ∧ k.2.2 ≤ 1000000 := by
    have : ∀ f p, ∀ k ∈ toks t f p, k.1 < 1000 ∧ k.2.2 ≤ 1000000 := by
      intro f
      induction f with
      | zero => intro p k hk; exact absurd hk List.not_mem_nil
      | succ f ih =>
        intro p k hk
        unfold toks at hk
        rcases List.mem_cons.mp hk with rfl | hk
        · exact ⟨tkK_lt, nuA_le _ _ (by omega)⟩
        · split at hk
          · exact absurd hk List.not_mem_nil
          · exact ih _ k hk
    exact this 501 0
  have ff : ∀ f, f ≠ 709 → f ≠ 708 → fi (wfi m2 709 (gB G + 279) (0 : Int32)) f (gB G + 279) = fi m1 f (gB G + 279) := fun f h1 h2 => (fi_ne h1).trans (hf2 f h2)
  have fr : ∀ f, f ≠ 709 → fi (wfi m2 709 (gB G + 279) (0 : Int32)) f (gB G + 281) = fi m1 f (gB G + 281) := fun f h1 => (fi_ne h1).trans (hO2.fi (by unfold TR'; omega) f)
  have hPW : PW G (toks t 501 0, t.length, nn, nl, nh, 0) (wfi m2 709 (gB G + 279) (0 : Int32)) (toks t 501 0) [] :=
    ⟨⟨⟨0, rfl, Full_wfi _ _ _ hF2, Out.rf, (ff 701 (by decide) (by decide)).trans e701, (ff 702 (by decide) (by decide)).trans e702, (ff 703 (by decide) (by decide)).trans e703, (fi_ne (by decide)).trans hn2, fi_eq, (ff 710 (by decide) (by decide)).trans e710, (ff 711 (by decide) (by decide)).trans e711, (ff 712 (by decide) (by decide)).trans e712, (fr 807 (by decide)).trans e807, (fr 808 (by decide)).trans e808⟩, trivial⟩, fun i k hk => hA2 i k hk, hTk, hk, hn⟩
  have hOO : Out (PQ G) (wfi m2 709 (gB G + 279) (0 : Int32)) m := ((hO2.mono (fun a ha => by unfold TR' at ha; unfold PQ; omega)).tr hO1).wfi (Or.inl rfl)
  refine rul_loop (m0 := m) (P := pRls nn nl nh 502 (toks t 501 0) []) hn kE (fun m' ts' out' L e hP hO hR => kO m' L e ?_ hR) 502 (toks t 501 0) [] [] _ (by omega) hwf (by simp only [List.length_nil]; omega) (by decide) rfl hPW hOO (fun q R h => by cases h)
  obtain ⟨⟨⟨a', -, g2⟩, -⟩, -⟩ := hP
  exact ⟨g2.1, hO, g2.2.2.1, g2.2.2.2.1, g2.2.2.2.2.1⟩
end CRLS
