/-! THE REFERENCE READS RULES -/
/-- a rule takes tokens away -/
theorem run_sh {nn nl nh : Nat} : ∀ (ts : List Tk) (md : Nat) (w : List Nat) (out : List Cd) (r : List Tk × List Cd), run nn nl nh ts md w out = .ok r → r.1.length ≤ ts.length
  | [], _, _, _, _, e => by cases e
  | k :: ts, md, w, out, r, e => by
    have go : ∀ md' w' out', run nn nl nh ts md' w' out' = .ok r → r.1.length ≤ (k :: ts).length := fun md' w' out' e' => by
      have := run_sh ts md' w' out' r e'
      rw [List.length_cons]
      omega
    rw [run] at e
    split at e
    · split at e
      · split at e
        · exact go _ _ _ e
        · cases e
      · split at e
        · split at e
          · exact go _ _ _ e
          · cases e
        · split at e
          · exact go _ _ _ e
          · split at e
            · exact go _ _ _ e
            · cases e
    · split at e
      · split at e
        · exact go _ _ _ e
        · split at e
          · exact go _ _ _ e
          · split at e
            · cases e
              exact Nat.le_refl _
            · cases e
      · split at e
        · split at e
          · exact go _ _ _ e
          · cases e
        · cases e
theorem tl_le (l : List Tk) : l.tail.length ≤ l.length := by rw [List.length_tail]; omega
theorem tl_lt {l : List Tk} {x : Nat} (h : hdK l = x) (hx : 0 < x) : l.tail.length < l.length := by
  cases l with
  | nil => have z : 0 = x := h
           omega
  | cons k r => exact Nat.lt_succ_self _
theorem pCmp_sh {nn nl nh : Nat} {ts : List Tk} {r : List Tk × List Cd} (h : pCmp nn nl nh ts = .ok r) : r.1.length ≤ ts.length := by
  unfold pCmp at h
  obtain ⟨⟨t1, a⟩, e1, e2⟩ := pBd_ok h
  have l1 := run_sh _ _ _ _ _ e1
  have l0 : (if hdK ts = 204 then ts.tail else ts).length ≤ ts.length := by split
                                                                            · exact tl_le _
                                                                            · exact Nat.le_refl _
  unfold pCmp1 at e2
  split at e2
  · obtain ⟨⟨t2, b⟩, e3, e4⟩ := pBd_ok e2
    have l2 := run_sh _ _ _ _ _ e3
    have l3 := tl_le t1
    cases e4
    dsimp only at l1 l2 ⊢
    omega
  · cases e2
theorem pBoth_sh {nn nl nh : Nat} : ∀ (f : Nat) (ts : List Tk) (g : List (List Cd)) (r : List Tk × List (List Cd)), pBoth nn nl nh f ts g = .ok r → r.1.length ≤ ts.length
  | 0, _, _, _, h => by cases h
  | f + 1, ts, g, r, h => by
    obtain ⟨⟨t1, s⟩, e1, e2⟩ := pBd_ok h
    have l1 := pCmp_sh e1
    dsimp only at e2 l1
    split at e2
    · have l2 := pBoth_sh f _ _ _ e2
      have l3 := tl_le t1
      omega
    · cases e2
      exact l1
theorem pTst_sh {nn nl nh : Nat} : ∀ (f : Nat) (ts : List Tk) (g : List (List (List Cd))) (r : List Tk × List (List (List Cd))), pTst nn nl nh f ts g = .ok r → r.1.length ≤ ts.length
  | 0, _, _, _, h => by cases h
  | f + 1, ts, g, r, h => by
    obtain ⟨⟨t1, s⟩, e1, e2⟩ := pBd_ok h
    have l1 := pBoth_sh _ _ _ _ e1
    dsimp only at e2 l1
    split at e2
    · have l2 := pTst_sh f _ _ _ e2
      have l3 := tl_le t1
      omega
    · cases e2
      exact l1
theorem pRul_sh {nn nl nh : Nat} {ts ts' : List Tk} {R : Ru} (hw : Wf ts) (h : pRul nn nl nh ts = .ok (ts', R)) : ts'.length < ts.length := by
  unfold pRul at h
  obtain ⟨⟨t1, gs⟩, e1, e2⟩ := pBd_ok h
  obtain ⟨⟨t2, a⟩, e3, e4⟩ := pBd_ok e2
  have l1 : t1.length ≤ ts.length := by
    unfold pWhen at e1
    split at e1
    · obtain ⟨⟨t3, g3⟩, e5, e6⟩ := pBd_ok e1
      have l5 := pTst_sh _ _ _ _ e5
      have l6 := tl_le ts
      have l7 := tl_le t3
      dsimp only at e6 l5
      split at e6
      · cases e6
        omega
      · cases e6
    · cases e1
      exact Nat.le_refl _
  have l2 : t2.length ≤ t1.length := by
    have q1 := tl_le t1
    have q2 := tl_le t1.tail
    have q3 := tl_le t1.tail.tail
    dsimp only at e3
    unfold pAct at e3
    split at e3
    · split at e3
      · split at e3
        · unfold pAct2 at e3
          split at e3
          · split at e3
            · cases e3
              omega
            · cases e3
          · split at e3
            · split at e3
              · cases e3
                omega
              · cases e3
            · split at e3
              · obtain ⟨⟨t5, b⟩, e5, e6⟩ := pBd_ok e3
                have l5 := run_sh _ _ _ _ _ e5
                cases e6
                dsimp only at l5 ⊢
                omega
              · cases e3
        · cases e3
      · cases e3
    · cases e3
  unfold pRul2 at e4
  dsimp only at e4
  split at e4
  · rename_i h59
    have := tl_lt h59 (by omega)
    cases e4
    omega
  · cases e4
def RF (G : Cx) (m0 : Mm) (ln : Nat) (m : Mm) (c p : Nat) : Prop := Full G m ∧ Out (MR G) m m0 ∧ fi m 1111 (gB G + 293) = nI ln ∧ fi m 1118 (gB G + 293) = nI c ∧ (0 < c ∧ c < 10) ∧ fi m 1119 (gB G + 293) = nI p
section MRULE
variable {G : Cx} {t : List Nat} {nn nl nh c d : Nat} {m m0 m1 : Mm} {Q : Option Value → Mm → Prop} {k : Tk} {r ts : List Tk} {out : List Cd}
theorem RX.rf {D : Qd} {e p : Nat} (h : RX G m0 D m e p) : RF G m0 D.1.length m e p := by
  obtain ⟨h1, a1, a2, a3, a4, a5, a6, a7⟩ := h
  exact ⟨a1, h1, a3, a4, a5, a6⟩
theorem RF.wf {ln e p : Nat} (h : RF G m0 ln m e p) (x : Int32) : RF G m0 ln (wfi m 1123 (gB G + 293) x) e p := by
  obtain ⟨a1, a2, a3, a4, a5, a6⟩ := h
  exact ⟨Full_wfi _ _ _ a1, a2.wfi (Or.inl rfl), (fi_ne (by decide)).trans a3, (fi_ne (by decide)).trans a4, a5, (fi_ne (by decide)).trans a6⟩
theorem RP.cn (h : RP G (t, nn, nl, nh, c) m ts out) {c' : Nat} (hc : c' ≤ 12) : RP G (t, nn, nl, nh, c') (wfi m 1123 (gB G + 293) (nI c')) ts out := by
  obtain ⟨⟨h1, h2, h3, h4, h5, h6, h7, h8, ⟨k, r, e, g1, g2⟩⟩, hG⟩ := h
  have n : ∀ {g : Nat}, g ≠ 1123 → fi (wfi m 1123 (gB G + 293) (nI c')) g (gB G + 293) = fi m g (gB G + 293) := fun q => fi_ne q
  refine ⟨⟨Full_wfi _ _ _ h1, Out.rf, (n (by decide)).trans h3, (n (by decide)).trans h4, (n (by decide)).trans h5, fi_eq, (n (by decide)).trans h7, CodP_ai (m := m) (fun _ _ _ => rfl) h8, ⟨k, r, e, ?_, fun hk => ?_⟩⟩, ?_⟩
  · obtain ⟨r1, r2, r3, r4, r5, ⟨l, l1, l2, l3⟩, r7⟩ := g1
    refine ⟨(n (by decide)).trans r1, (n (by decide)).trans r2, ?_, ?_, ?_, ⟨l, l1, (n (by decide)).trans l2, ?_⟩, ?_⟩
    · rw [n (by decide)]; exact r3
    · rw [n (by decide)]; exact r4
    · rw [n (by decide)]; exact r5
    · rw [n (by decide)]; exact l3
    · rw [n (by decide)]; exact r7
  · obtain ⟨f', q, a1, a2, a3, a4⟩ := g2 hk
    exact ⟨f', q, a1, a2, (n (by decide)).trans a3, a4⟩
  · obtain ⟨b1, b2, b3, b4, b5, b6, b7, b8, b9, b10⟩ := hG
    exact ⟨b1, b2, b3, b4, b5, b6, b7, b8, b9, hc⟩
/-- what a rule leaves in the tables -/
def RlT (G : Cx) (m : Mm) (q i j : Nat) (R : Ru) : Prop := ai m (gB G + 305) (6 * q) = nI i ∧ ai m (gB G + 305) (6 * q + 1) = nI (i + (rfC R.1).length) ∧ ai m (gB G + 305) (6 * q + 2) = nI R.2.1 ∧ ai m (gB G + 305) (6 * q + 3) = nI R.2.2.1 ∧ (R.2.1 = 5 → ai m (gB G + 305) (6 * q + 4) = nI j ∧ ai m (gB G + 305) (6 * q + 5) = nI (j + R.2.2.2.length))
theorem M_rule (hc : c < 12) (hP : RP G (t, nn, nl, nh, c) m (k :: r) out) (hw : Wf (k :: r)) (hcap : out.length + (r.length + 1) ≤ 501)
    (kE : ∀ m' e p, pRul nn nl nh (k :: r) = .error (e, p) → RF G m t.length m' e p → Q none m')
    (kO : ∀ m' ts' R, pRul nn nl nh (k :: r) = .ok (ts', R) → RP G (t, nn, nl, nh, c + 1) m' ts' ((out ++ rfC R.1) ++ R.2.2.2) → Wf ts' → ((out ++ rfC R.1) ++ R.2.2.2).length + ts'.length ≤ 501 → Out (MR G) m' m → RlT G m' c out.length (out.length + (rfC R.1).length) R → (∀ x, ¬ (6 * c ≤ x ∧ x < 6 * c + 6) → ai m' (gB G + 305) x = ai m (gB G + 305) x) → Q none m') :
    WPM G (d + 22) (0, 0) μX11_parseRule [.ref (gB G + 293)] m Q := by
  have h := hP.1
  have hk := h.cs
  -- the end of a rule that was refused
  have fz : ∀ (m2 : Mm) (e p : Nat), pRul nn nl nh (k :: r) = .error (e, p) → RX G m (t, nn, nl, nh, c) m2 e p → WPM G (d + 13 + 8) (0, 0) μX11_requireSymbol [.ref (gB G + 293), .int (59 : Int32)] m2 (fun r' m' => WP G (d + 22) (0, 0) μX11_parseRule 171 [.ref (gB G + 293), lvU, lvU] (r'.toList ++ []) m' Q) := fun m2 e p he hX =>
    M_rsE hX.2 (ruZ hX.2.1 hX.2.2.2.2.2.2.2 (Nat.le_of_lt hc) (kE _ e p he (hX.rf.wf _)))
  -- from the action on
  have act : ∀ (m5 : Mm) (ts5 : List Tk) (gs : List (List (List Cd))), pWhen nn nl nh (k :: r) = .ok (ts5, gs) → RP G (t, nn, nl, nh, c) m5 ts5 (out ++ rfC gs) → Wf ts5 → (out ++ rfC gs).length + ts5.length ≤ 501 → Out (MR G) m5 m → ai m5 (gB G + 305) (6 * c) = nI out.length → ai m5 (gB G + 305) (6 * c + 1) = nI (out.length + (rfC gs).length) → (∀ x, ¬ (6 * c ≤ x ∧ x < 6 * c + 6) → ai m5 (gB G + 305) x = ai m (gB G + 305) x) → WPM G (d + 3 + 18) (0, 0) μX11_parseAction [.ref (gB G + 293), .int (nI (6 * c))] m5 (fun r' m' => WP G (d + 22) (0, 0) μX11_parseRule 165 [.ref (gB G + 293), lvU, lvU] (r'.toList ++ []) m' Q) := by
    intro m5 ts5 gs e5 hP5 hw5 hc5 hO5 b0 b1 bx
    have hl5 : (out ++ rfC gs).length = out.length + (rfC gs).length := List.length_append
    refine M_act (b := 6 * c) (by omega) hP5 hw5 hc5 (fun m6 e p e6 hX => ruP hX.2.1 (fz m6 e p ?_ ⟨hX.1.tr hO5, hX.2⟩)) (fun m6 ts6 ac v sm e6 hP6 hw6 hc6 hO6 d2 d3 d45 dx => ruP hP6.full ?_)
    · unfold pRul
      rw [e5]
      show pBd (pAct nn nl nh ts5) _ = _
      rw [show pAct nn nl nh ts5 = .error (e, p) from e6]
      rfl
    · obtain ⟨k7, r7, rfl⟩ := hw6.cs
      rw [List.length_cons] at hc6
      have hz : pRul nn nl nh (k :: r) = pRul2 gs (k7 :: r7, (ac, v, sm)) := by
        unfold pRul
        rw [e5]
        show pBd (pAct nn nl nh ts5) _ = _
        rw [show pAct nn nl nh ts5 = .ok (k7 :: r7, (ac, v, sm)) from e6]
        rfl
      refine M_rs (d := d + 13) (x := 59) hP6.2 hP6.1 (by omega) (fun e59 m8 h8 => ?_) (fun e59 m8 hE => ?_)
      · obtain ⟨hP8, hO8⟩ := hP6.re h8
        refine ruZ h8.1 h8.2.2.2.2.2.1 (Nat.le_of_lt hc) (kO _ r7 (gs, ac, v, sm) (hz.trans (if_pos e59)) (hP8.cn hc) (hw6.tl (by omega)) ?_ (((hO8.tr hO6).tr hO5).wfi (Or.inl rfl)) ?_ (fun x hx => ?_))
        · simp only [List.length_append] at hc6 ⊢
          omega
        · have tt : ∀ x, ai (wfi m8 1123 (gB G + 293) (nI (c + 1))) (gB G + 305) x = ai m6 (gB G + 305) x := fun x => o305 h8.2.1 x
          refine ⟨(tt _).trans ((dx _ (by omega)).trans b0), (tt _).trans ((dx _ (by omega)).trans b1), (tt _).trans d2, (tt _).trans d3, fun ha => ⟨(tt _).trans ((d45 ha).1.trans (congrArg nI hl5)), (tt _).trans ((d45 ha).2.trans (congrArg nI (by rw [hl5])))⟩⟩
        · exact (o305 h8.2.1 x).trans ((dx x (by omega)).trans (bx x hx))
      · have hX := hP6.rx hE (hO6.tr hO5)
        exact ruZ hE.1 hX.2.2.2.2.2.2.2 (Nat.le_of_lt hc) (kE _ 1 k7.2.1 (hz.trans (if_neg e59)) (hX.rf.wf _))
  refine ruA h.1 (M_isw (d := d + 15) h.1 (i := 20) (by omega) (by omega) hk ?_)
  rw [show 201 + wiJ 20 = 201 from rfl]
  by_cases e201 : k.1 = 201
  · rw [if_pos e201]
    have hwr := hw.tl (show 1 < k.1 by omega)
    have eW : pWhen nn nl nh (k :: r) = pBd (pTst nn nl nh 502 r []) (fun x => if hdK x.1 = 58 then .ok (x.1.tail, x.2) else .error (1, hdS x.1)) := if_pos e201
    have hP1 := hP.wai (6 * c) (nI out.length)
    have hO1 : Out (MR G) (wai m (gB G + 305) (6 * c) (nI out.length)) m := Out.rf.wai (Or.inr (Or.inl rfl))
    refine ruW h.1 h.2.2.2.1 h.2.2.2.2.2.1 h.2.2.2.2.2.2.1 hc (M_adv (d := d + 14) hP1.2 hP1.1 (by omega) (fun m2 h2 _ => ?_))
    obtain ⟨hP2, hO2⟩ := hP1.re h2
    have bad : ∀ (m3 : Mm) (e p : Nat), pRul nn nl nh (k :: r) = .error (e, p) → RX G m (t, nn, nl, nh, c) m3 e p → WP G (d + 22) (0, 0) μX11_parseRule 117 [.ref (gB G + 293), lvU, .int (nI (6 * c))] [] m3 Q := fun m3 e p he hX =>
      ruWd (b := 6 * c) hX.2.1 (by omega) rfl hX.2.c0 rfl (fz _ e p he (((hX.wai _ _).wai _ _).wai _ _))
    have er : ∀ e p, pWhen nn nl nh (k :: r) = .error (e, p) → pRul nn nl nh (k :: r) = .error (e, p) := fun e p he => by
      unfold pRul
      rw [he]
      rfl
    refine ruWa h2.1 (M_test (d := d + 1) hP2.2 hP2.1 hwr (by omega) (fun m3 ts3 gs e3 h3 hw3 hc3 => ruWb h3.1 ?_) (fun m3 e p e3 hE => ruWb hE.1 (M_rsE (d := d + 13) hE (bad m3 e p (er e p (by rw [eW, show pTst nn nl nh 502 r [] = .error (e, p) from e3]; rfl)) (hP2.rx hE (hO2.tr hO1))))))
    obtain ⟨hP3, hO3⟩ := hP2.re h3
    obtain ⟨k3, r3, rfl⟩ := hw3.cs
    rw [List.length_cons] at hc3
    have eW3 : pWhen nn nl nh (k :: r) = if k3.1 = 58 then .ok (r3, gs) else .error (1, k3.2.1) := by
      rw [eW, show pTst nn nl nh 502 r [] = .ok (k3 :: r3, gs) from e3]
      rfl
    refine M_rs (d := d + 13) (x := 58) hP3.2 hP3.1 (by omega) (fun e58 m4 h4 => ?_) (fun e58 m4 hE => bad m4 1 k3.2.1 (er _ _ (by rw [eW3, if_neg e58])) (hP3.rx hE (hO3.tr (hO2.tr hO1))))
    obtain ⟨hP4, hO4⟩ := hP3.re h4
    have hl : (out ++ rfC gs).length = out.length + (rfC gs).length := List.length_append
    refine ruWc (b := 6 * c) h4.1 (by omega) h4.2.2.2.1 h4.2.2.2.2.2.2.1 ?_
    have t4 : ∀ x, ai m4 (gB G + 305) x = ai (wai m (gB G + 305) (6 * c) (nI out.length)) (gB G + 305) x := fun x => (o305 h4.2.1 x).trans ((o305 h3.2.1 x).trans (o305 h2.2.1 x))
    refine act _ r3 gs (by rw [eW3, if_pos e58]) (((hP4.wai _ _).wai _ _).wai _ _) (hw3.tl (by omega)) (by rw [hl]; omega) ((((hO4.tr (hO3.tr (hO2.tr hO1))).wai (Or.inr (Or.inl rfl))).wai (Or.inr (Or.inl rfl))).wai (Or.inr (Or.inl rfl))) ?_ ?_ (fun x hx => ?_)
    · exact (ai_nk (by omega)).trans ((ai_nk (by omega)).trans ((ai_nk (by omega)).trans ((t4 _).trans ai_eq)))
    · exact (ai_nk (by omega)).trans ((ai_nk (by omega)).trans (ai_eq.trans (congrArg nI hl)))
    · exact (ai_nk (by omega)).trans ((ai_nk (by omega)).trans ((ai_nk (by omega)).trans ((t4 _).trans (ai_nk (by omega)))))
  · rw [if_neg e201]
    have eW : pWhen nn nl nh (k :: r) = .ok (k :: r, []) := if_neg e201
    have go : WPM G (d + 3 + 18) (0, 0) μX11_parseAction [.ref (gB G + 293), .int (nI (6 * c))] (wai (wai (wai (wai m (gB G + 305) (6 * c) (nI out.length)) (gB G + 305) (6 * c + 1) (nI out.length)) (gB G + 305) (6 * c + 4) (nI out.length)) (gB G + 305) (6 * c + 5) (nI out.length)) (fun r' m' => WP G (d + 22) (0, 0) μX11_parseRule 165 [.ref (gB G + 293), lvU, lvU] (r'.toList ++ []) m' Q) := by
      refine act _ (k :: r) [] eW ?_ hw ?_ ((((Out.rf.wai (Or.inr (Or.inl rfl))).wai (Or.inr (Or.inl rfl))).wai (Or.inr (Or.inl rfl))).wai (Or.inr (Or.inl rfl))) ?_ ?_ (fun x hx => ?_)
      · show RP G _ _ _ (out ++ [])
        rw [List.append_nil]
        exact (((hP.wai _ _).wai _ _).wai _ _).wai _ _
      · show (out ++ []).length + _ ≤ _
        rw [List.append_nil]
        exact hcap
      · exact (ai_nk (by omega)).trans ((ai_nk (by omega)).trans ((ai_nk (by omega)).trans ai_eq))
      · exact (ai_nk (by omega)).trans ((ai_nk (by omega)).trans ai_eq)
      · exact (ai_nk (by omega)).trans ((ai_nk (by omega)).trans ((ai_nk (by omega)).trans (ai_nk (by omega))))
    refine ruN1 h.1 (M_isw (d := d + 15) h.1 (i := 17) (by omega) (by omega) hk ?_)
    rw [show 201 + wiJ 17 = 212 from rfl]
    by_cases e2 : k.1 = 212
    · rw [if_pos e2]
      exact ruY1 h.1 h.2.2.2.1 h.2.2.2.2.2.1 h.2.2.2.2.2.2.1 hc go
    rw [if_neg e2]
    refine ruN2 h.1 (M_isw (d := d + 15) h.1 (i := 18) (by omega) (by omega) hk ?_)
    rw [show 201 + wiJ 18 = 213 from rfl]
    by_cases e3 : k.1 = 213
    · rw [if_pos e3]
      exact ruY2 h.1 h.2.2.2.1 h.2.2.2.2.2.1 h.2.2.2.2.2.2.1 hc go
    rw [if_neg e3]
    refine ruN3 h.1 (M_isw (d := d + 15) h.1 (i := 19) (by omega) (by omega) hk ?_)
    rw [show 201 + wiJ 19 = 214 from rfl]
    by_cases e4 : k.1 = 214
    · rw [if_pos e4]
      exact ruY3 h.1 h.2.2.2.1 h.2.2.2.2.2.1 h.2.2.2.2.2.2.1 hc go
    rw [if_neg e4]
    have hX := hP.rx (h.er (e := 1) (s := k.2.1) (by omega)) (Out.rf (m := m))
    have nx := kE _ 1 k.2.1 (by
      unfold pRul
      rw [eW]
      show pBd (pAct nn nl nh (k :: r)) _ = _
      rw [show pAct nn nl nh (k :: r) = .error (1, k.2.1) from if_neg (show ¬ (212 ≤ k.1 ∧ k.1 ≤ 214) by omega)]
      rfl) hX.rf
    exact ruX h.1 h.2.2.2.1 h.2.2.2.2.2.1 hk.1 (Nat.le_of_lt hc) (fun _ => nx) (fun _ => nx)
theorem M_rule12 (hP : RP G (t, nn, nl, nh, 12) m (k :: r) out) (hk0 : k.1 ≠ 0)
    (kE : ∀ m', RF G m t.length m' (if k.1 = 201 ∨ k.1 = 212 ∨ k.1 = 213 ∨ k.1 = 214 then 3 else 1) k.2.1 → Q none m') :
    WPM G (d + 22) (0, 0) μX11_parseRule [.ref (gB G + 293)] m Q := by
  have h := hP.1
  have hk := h.cs
  have h3 : (k.1 = 201 ∨ k.1 = 212 ∨ k.1 = 213 ∨ k.1 = 214) → Q none (wfi (wfi m 1118 (gB G + 293) (3 : Int32)) 1119 (gB G + 293) (nI k.2.1)) := fun z => by
    rw [if_pos z] at kE
    exact kE _ (hP.rx (h.er (e := 3) (s := k.2.1) (by omega)) (Out.rf (m := m))).rf
  refine ruA h.1 (M_isw (d := d + 15) h.1 (i := 20) (by omega) (by omega) hk ?_)
  rw [show 201 + wiJ 20 = 201 from rfl]
  by_cases e201 : k.1 = 201
  · rw [if_pos e201]
    exact ruWx h.1 h.2.2.2.1 h.2.2.2.2.2.1 hk.1 (h3 (Or.inl e201))
  rw [if_neg e201]
  refine ruN1 h.1 (M_isw (d := d + 15) h.1 (i := 17) (by omega) (by omega) hk ?_)
  rw [show 201 + wiJ 17 = 212 from rfl]
  by_cases e2 : k.1 = 212
  · rw [if_pos e2]
    exact ruYx1 h.1 h.2.2.2.1 h.2.2.2.2.2.1 hk.1 (h3 (Or.inr (Or.inl e2)))
  rw [if_neg e2]
  refine ruN2 h.1 (M_isw (d := d + 15) h.1 (i := 18) (by omega) (by omega) hk ?_)
  rw [show 201 + wiJ 18 = 213 from rfl]
  by_cases e3 : k.1 = 213
  · rw [if_pos e3]
    exact ruYx2 h.1 h.2.2.2.1 h.2.2.2.2.2.1 hk.1 (h3 (Or.inr (Or.inr (Or.inl e3))))
  rw [if_neg e3]
  refine ruN3 h.1 (M_isw (d := d + 15) h.1 (i := 19) (by omega) (by omega) hk ?_)
  rw [show 201 + wiJ 19 = 214 from rfl]
  by_cases e4 : k.1 = 214
  · rw [if_pos e4]
    exact ruYx3 h.1 h.2.2.2.1 h.2.2.2.2.2.1 hk.1 (h3 (Or.inr (Or.inr (Or.inr e4))))
  rw [if_neg e4]
  rw [if_neg (by omega)] at kE
  have nx := kE _ (hP.rx (h.er (e := 1) (s := k.2.1) (by omega)) (Out.rf (m := m))).rf
  exact ruX h.1 h.2.2.2.1 h.2.2.2.2.2.1 hk.1 (Nat.le_refl _) (fun _ => nx) (fun _ => nx)
def RlP (G : Cx) (m : Mm) (q : Nat) (out : List Cd) (R : Ru) : Prop := ∃ i j, RlT G m q i j R ∧ Seg out i (rfC R.1) ∧ Seg out j R.2.2.2
theorem RlP.mv {q : Nat} {R : Ru} (h : RlP G m q out R) (he : ∀ x, 6 * q ≤ x → x < 6 * q + 6 → ai m1 (gB G + 305) x = ai m (gB G + 305) x) (x : List Cd) : RlP G m1 q (out ++ x) R := by
  obtain ⟨i, j, ⟨h1, h2, h3, h4, h5⟩, h6, h7⟩ := h
  exact ⟨i, j, ⟨(he _ (by omega) (by omega)).trans h1, (he _ (by omega) (by omega)).trans h2, (he _ (by omega) (by omega)).trans h3, (he _ (by omega) (by omega)).trans h4, fun e => ⟨(he _ (by omega) (by omega)).trans (h5 e).1, (he _ (by omega) (by omega)).trans (h5 e).2⟩⟩, h6.app x, h7.app x⟩
theorem mrl_loop {P : Except Er (List Ru)} (kE : ∀ m' e p, P = .error (e, p) → RF G m0 t.length m' e p → WP G (d + 24) (0, 0) μX11_loadRules 50 [.ref (gB G + 293), lvU] [] m' Q)
    (kO : ∀ m' ts' out' L, P = .ok L → RP G (t, nn, nl, nh, L.length) m' ts' out' → out'.length ≤ 500 → L.length ≤ 12 → Out (MR G) m' m0 → (∀ q R, L[q]? = some R → RlP G m' q out' R) → WP G (d + 24) (0, 0) μX11_loadRules 50 [.ref (gB G + 293), lvU] [] m' Q) :
    ∀ f ts out L m1, ts.length ≤ f → Wf ts → out.length + ts.length ≤ 501 → L.length ≤ 12 → P = pRls nn nl nh f ts L → RP G (t, nn, nl, nh, L.length) m1 ts out → Out (MR G) m1 m0 → (∀ q R, L[q]? = some R → RlP G m1 q out R) →
      WP G (d + 24) (0, 0) μX11_loadRules 29 [.ref (gB G + 293), lvU] [] m1 Q := by
  intro f
  induction f with
  | zero =>
    intro ts out L m1 h1 h2
    obtain ⟨k, r, rfl⟩ := h2.cs
    simp at h1
  | succ f ih =>
    intro ts out L m1 h1 h2 h3 h4 hX hP hO hL
    obtain ⟨k, r, rfl⟩ := h2.cs
    rw [List.length_cons] at h1 h3
    have hk := hP.1.cs
    have hX' : P = if k.1 = 0 then .ok L else if 12 ≤ L.length then .error (if k.1 = 201 ∨ k.1 = 212 ∨ k.1 = 213 ∨ k.1 = 214 then 3 else 1, k.2.1) else pBd (pRul nn nl nh (k :: r)) (fun r => pRls nn nl nh f r.1 (L ++ [r.2])) := hX
    have err : ∀ (m2 : Mm) (e p : Nat), P = .error (e, p) → RF G m0 t.length m2 e p → WP G (d + 24) (0, 0) μX11_loadRules 47 [.ref (gB G + 293), lvU] [] m2 Q := fun m2 e p he hR => by
      have hc0 : ¬ fi m2 1118 (gB G + 293) = 0 := fun z => nI_ne0 hR.2.2.2.2.1.1 (by have := hR.2.2.2.2.1.2; omega) (hR.2.2.2.1.symm.trans z)
      exact ldBa hR.1 (ldBx hR.1 rfl hc0 (kE m2 e p he hR))
    refine ldB hP.full hP.1.2.2.2.1 rfl (fun ht => ?_) (fun ht => ?_)
    · have hk0 : k.1 = 0 := hk.2.2.1.mp ht
      rw [if_pos hk0] at hX'
      exact kO m1 _ out L hX' hP (by omega) h4 hO hL
    · have hk0 : ¬ k.1 = 0 := fun z => ht (hk.2.2.1.mpr z)
      rw [if_neg hk0] at hX'
      by_cases h12 : L.length < 12
      · rw [if_neg (by omega)] at hX'
        refine M_rule (d := d + 1) h12 hP h2 h3 (fun m2 e p he hR => err m2 e p (by rw [hX', he]; rfl) ?_) (fun m2 ts2 R he hP2 hw2 hc2 hO2 hT2 hx2 => ldBa hP2.full ?_)
        · obtain ⟨a1, a2, a3⟩ := hR
          exact ⟨a1, a2.tr hO, a3⟩
        · have hX2 : P = pRls nn nl nh f ts2 (L ++ [R]) := by
            rw [hX', he]
            rfl
          have hll : (L ++ [R]).length = L.length + 1 := by rw [List.length_append]; rfl
          have htl : ts2.length ≤ f := by
            have hv := pRul_sh (nn := nn) (nl := nl) (nh := nh) (h2) he
            rw [List.length_cons] at hv
            omega
          refine ih ts2 _ (L ++ [R]) m2 htl hw2 hc2 (by omega) hX2 (by rw [hll]; exact hP2) (hO2.tr hO) (fun q R' hq => ?_)
          by_cases hql : q < L.length
          · rw [List.getElem?_append_left hql] at hq
            have := (hL q R' hq).mv (m1 := m2) (fun x a b => hx2 x (by omega)) (rfC R.1 ++ R.2.2.2)
            rw [← List.append_assoc] at this
            exact this
          · have hq2 := (List.getElem?_eq_some_iff.mp hq).1
            rw [hll] at hq2
            have eq : q = L.length := by omega
            subst eq
            rw [List.getElem?_append_right (Nat.le_refl _), Nat.sub_self] at hq
            cases hq
            exact ⟨_, _, hT2, ⟨out, R.2.2.2, List.append_assoc _ _ _, rfl⟩, ⟨out ++ rfC R.1, [], by rw [List.append_nil], List.length_append⟩⟩
      · have e12 : L.length = 12 := by omega
        rw [if_pos (by omega)] at hX'
        rw [e12] at hP
        refine M_rule12 (d := d + 1) hP hk0 (fun m2 hR => err m2 _ k.2.1 hX' ?_)
        obtain ⟨a1, a2, a3⟩ := hR
        exact ⟨a1, a2.tr hO, a3⟩
end MRULE
