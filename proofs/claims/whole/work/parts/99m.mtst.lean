/-! THE REFERENCE'S TESTS -/
def preR (o : List Cd) : Rs → Rs
  | .error e => .error e
  | .ok r => .ok (r.1, o ++ r.2)
theorem run_pre {nn nl nh : Nat} (o : List Cd) : ∀ (ts : List Tk) (md : Nat) (w : List Nat) (out : List Cd), run nn nl nh ts md w (o ++ out) = preR o (run nn nl nh ts md w out)
  | [], _, _, _ => rfl
  | k :: ts, md, w, out => by
    have ih := run_pre (nn := nn) (nl := nl) (nh := nh) o ts
    rw [run, run]
    split
    · split
      · split
        · exact ih _ _ _
        · rfl
      · split
        · split
          · rw [List.append_assoc, List.append_assoc]
            rw [← List.append_assoc out]
            exact ih _ _ _
          · rfl
        · split
          · exact ih _ _ _
          · split
            · rw [List.append_assoc, List.append_assoc]
              rw [← List.append_assoc out]
              exact ih _ _ _
            · rfl
    · split
      · split
        · rw [List.append_assoc]
          exact ih _ _ _
        · split
          · rw [List.append_assoc, List.append_assoc]
            rw [← List.append_assoc out]
            exact ih _ _ _
          · split
            · show _ = Except.ok (k :: ts, o ++ (out ++ ppO 1 w))
              rw [List.append_assoc]
            · rfl
      · split
        · split
          · rw [List.append_assoc, List.append_assoc]
            rw [← List.append_assoc out]
            exact ih _ _ _
          · rfl
        · rfl
theorem run_pre_ok {nn nl nh : Nat} {o : List Cd} {ts ts' : List Tk} {out' : List Cd} (h : run nn nl nh ts 0 [] o = .ok (ts', out')) : ∃ a, out' = o ++ a ∧ run nn nl nh ts 0 [] [] = .ok (ts', a) := by
  have e := run_pre (nn := nn) (nl := nl) (nh := nh) o ts 0 [] []
  rw [List.append_nil, h] at e
  cases hr : run nn nl nh ts 0 [] [] with
  | error x => rw [hr] at e; cases e
  | ok r =>
    rw [hr] at e
    cases e
    exact ⟨r.2, rfl, rfl⟩
theorem run_pre_er {nn nl nh : Nat} {o : List Cd} {ts : List Tk} {e : Er} (h : run nn nl nh ts 0 [] o = .error e) : run nn nl nh ts 0 [] [] = .error e := by
  have e' := run_pre (nn := nn) (nl := nl) (nh := nh) o ts 0 [] []
  rw [List.append_nil, h] at e'
  cases hr : run nn nl nh ts 0 [] [] with
  | error x => rw [hr] at e'; cases e'; rfl
  | ok r => rw [hr] at e'; cases e'
theorem rfG_snoc {g : List (List Cd)} (s : List Cd) (h : g ≠ []) : rfG (g ++ [s]) = (rfG g ++ s) ++ [(203, 0)] := by
  cases g with
  | nil => exact absurd rfl h
  | cons x t =>
    show x ++ (t ++ [s]).flatMap (fun x => x ++ [(203, 0)]) = ((x ++ t.flatMap (fun x => x ++ [(203, 0)])) ++ s) ++ [(203, 0)]
    rw [List.flatMap_append, List.append_assoc, List.append_assoc]
    show _ ++ (_ ++ ((s ++ [(203, 0)]) ++ [])) = _
    rw [List.append_nil]
theorem rfC_snoc {gs : List (List (List Cd))} (g : List (List Cd)) (h : gs ≠ []) : rfC (gs ++ [g]) = (rfC gs ++ rfG g) ++ [(202, 0)] := by
  cases gs with
  | nil => exact absurd rfl h
  | cons x t =>
    show rfG x ++ (t ++ [g]).flatMap (fun x => rfG x ++ [(202, 0)]) = ((rfG x ++ t.flatMap (fun x => rfG x ++ [(202, 0)])) ++ rfG g) ++ [(202, 0)]
    rw [List.flatMap_append, List.append_assoc, List.append_assoc]
    show _ ++ (_ ++ ((rfG g ++ [(202, 0)]) ++ [])) = _
    rw [List.append_nil]
theorem pCmp_len {nn nl nh : Nat} {ts ts' : List Tk} {s : List Cd} (hw : Wf ts) (h : pCmp nn nl nh ts = .ok (ts', s)) : s.length + ts'.length ≤ ts.length ∧ 0 < s.length := by
  unfold pCmp at h
  obtain ⟨⟨t1, a⟩, e1, e2⟩ := pBd_ok h
  have l1 := run_len _ _ _ _ _ e1
  unfold pCmp1 at e2
  split at e2
  · rename_i hk
    obtain ⟨⟨t2, b⟩, e3, e4⟩ := pBd_ok e2
    have l2 := run_len _ _ _ _ _ e3
    cases e4
    have ht1 : t1.tail.length + 1 = t1.length := by
      cases t1 with
      | nil => rcases hk with z | z | z <;> cases z
      | cons x t1 => rfl
    have hn : (ngC (decide (hdK ts = 204))).length + (if hdK ts = 204 then ts.tail else ts).length ≤ ts.length := by
      by_cases z : hdK ts = 204
      · rw [if_pos z, decide_eq_true z]
        obtain ⟨k, r, rfl⟩ := hw.cs
        show 1 + r.length ≤ r.length + 1
        omega
      · rw [if_neg z, decide_eq_false z]
        show 0 + ts.length ≤ _
        omega
    simp only [List.length_append, List.length_cons, List.length_nil] at l1 l2 ⊢
    omega
  · cases e2
section MTST
variable {G : Cx} {C : Qc} {d : Nat} {m m1 : Mm} {Q : Option Value → Mm → Prop} {k : Tk} {r ts : List Tk} {out : List Cd} {w : List Nat} {c p : Nat}
theorem M_sum1 (hG : QG G C) (h : RQ G C m ts out) (hw : Wf ts) (hcap : out.length + ts.length ≤ 501)
    (kO : ∀ m' ts' a, run (qN C) (qL C) (qH C) ts 0 [] [] = .ok (ts', a) → RQ G C m' ts' (out ++ a) → Wf ts' → Q none m') (kE : ∀ m' c p, run (qN C) (qL C) (qH C) ts 0 [] [] = .error (c, p) → RE G C m' c p → Q none m') : WPM G (d + 14) (0, 0) μX11_parseSum [.ref (gB G + 293)] m Q := by
  refine M_sum hG h hw hcap (fun m' ts' out' e hR hw' => ?_) (fun m' c p e hE => kE m' c p (run_pre_er e) hE)
  obtain ⟨a, rfl, e2⟩ := run_pre_ok e
  exact kO m' ts' a e2 hR hw'
theorem M_cmp (hG : QG G C) (h : RQ G C m ts out) (hw : Wf ts) (hcap : out.length + ts.length ≤ 501)
    (kO : ∀ m' ts' s, pCmp (qN C) (qL C) (qH C) ts = .ok (ts', s) → RQ G C m' ts' (out ++ s) → Wf ts' → Q none m') (kE : ∀ m' c p, pCmp (qN C) (qL C) (qH C) ts = .error (c, p) → RE G C m' c p → Q none m') : WPM G (d + 16) (0, 0) μX11_parseComparison [.ref (gB G + 293)] m Q := by
  obtain ⟨k, r, rfl⟩ := hw.cs
  rw [List.length_cons] at hcap
  have hk := h.cs
  refine cA h.1 (M_isw (d := d + 9) h.1 (i := 9) (by omega) (by omega) hk ?_)
  rw [show 201 + wiJ 9 = 204 from rfl]
  have cmp1 : ∀ (r' : List Tk) (m2 : Mm), RQ G C m2 r' out → Wf r' → r'.length + 1 ≤ r.length + 1 → pCmp (qN C) (qL C) (qH C) (k :: r) = pBd (run (qN C) (qL C) (qH C) r' 0 [] []) (pCmp1 (qN C) (qL C) (qH C) true) → WPM G (d + 1 + 14) (0, 0) μX11_parseSum [.ref (gB G + 293)] m2 (fun r' m' => WP G (d + 16) (0, 0) μX11_parseComparison 20 [.ref (gB G + 293), .int (1 : Int32), lvU] (r'.toList ++ []) m' Q) := by
    intro r' m2 h2 hw2 hl2 hC
    refine M_sum1 hG h2 hw2 (by omega) (fun m3 ts3 a e3 h3 hw3 => ?_) (fun m3 c p e3 hE => ?_)
    · obtain ⟨k3, r3, rfl⟩ := hw3.cs
      have l3 := run_len _ _ _ _ _ e3
      simp only [List.length_cons, List.length_nil] at l3
      have hk3 := h3.cs
      have hC3 : pCmp (qN C) (qL C) (qH C) (k :: r) = pCmp1 (qN C) (qL C) (qH C) true (k3 :: r3, a) := by
        rw [hC, e3]
        rfl
      have lla : (out ++ a).length = out.length + a.length := List.length_append
      by_cases e60 : k3.1 = 60
      · have hwr := hw3.tl (show 1 < k3.1 by omega)
        have hC4 : pCmp (qN C) (qL C) (qH C) (k :: r) = pBd (run (qN C) (qL C) (qH C) r3 0 [] []) (pCmp2 (qN C) (qL C) (qH C) true 60 a) := by
          rw [hC3, ← e60]
          exact if_pos ((Or.inl) e60)
        refine cD160 h3.1 h3.2.2.2.1 (hk3.2.1.trans (by rw [e60]; rfl)) (M_adv (d := d + 8) hG h3 (by omega) (fun m4 h4 _ => cE160 h4.1 h4.2.2.2.1 ?_))
        refine M_sum1 (d := d + 1) hG h4 hwr (by omega) (fun m5 ts5 b e5 h5 hw5 => ?_) (fun m5 c p e5 hE => cG160 hE.1 rfl hE.c0 (kE m5 c p (by rw [hC4, e5]; rfl) hE))
        have l5 := run_len _ _ _ _ _ e5
        simp only [List.length_nil] at l5
        have hp5 : 0 < ts5.length := by obtain ⟨x1, x2, rfl⟩ := hw5.cs; exact Nat.succ_pos _
        have llb : ((out ++ a) ++ b).length = out.length + a.length + b.length := by simp only [List.length_append]
        have hz : pCmp (qN C) (qL C) (qH C) (k :: r) = .ok (ts5, a ++ (b ++ ((60, 0) :: ngC true))) := by
          rw [hC4, e5]
          rfl
        refine cF160 h5.1 h5.2.2.2.1 h5.2.2.2.2.2.2.1 (by omega) (kO _ ts5 _ hz ?_ hw5)
        have q1 := h5.em (by omega) (x := (60, 0)) (a := nI (trM 60)) (b := 0) rfl rfl
        have lc : (((out ++ a) ++ b) ++ [(60, 0)]).length = ((out ++ a) ++ b).length + 1 := List.length_append
        have q2 := q1.em (by omega) (x := (204, 0)) (a := nI (trM 204)) (b := 0) rfl rfl
        rw [lc] at q2
        have eq : out ++ (a ++ (b ++ ((60, 0) :: ngC true))) = (((out ++ a) ++ b) ++ [(60, 0)]) ++ [(204, 0)] := by
          simp only [List.append_assoc]
          rfl
        rw [eq]
        exact q2
      by_cases e62 : k3.1 = 62
      · have hwr := hw3.tl (show 1 < k3.1 by omega)
        have hC4 : pCmp (qN C) (qL C) (qH C) (k :: r) = pBd (run (qN C) (qL C) (qH C) r3 0 [] []) (pCmp2 (qN C) (qL C) (qH C) true 62 a) := by
          rw [hC3, ← e62]
          exact if_pos ((fun z => Or.inr (Or.inr z)) e62)
        refine cD162 h3.1 h3.2.2.2.1 (hk3.2.1.trans (by rw [e62]; rfl)) (M_adv (d := d + 8) hG h3 (by omega) (fun m4 h4 _ => cE162 h4.1 h4.2.2.2.1 ?_))
        refine M_sum1 (d := d + 1) hG h4 hwr (by omega) (fun m5 ts5 b e5 h5 hw5 => ?_) (fun m5 c p e5 hE => cG162 hE.1 rfl hE.c0 (kE m5 c p (by rw [hC4, e5]; rfl) hE))
        have l5 := run_len _ _ _ _ _ e5
        simp only [List.length_nil] at l5
        have hp5 : 0 < ts5.length := by obtain ⟨x1, x2, rfl⟩ := hw5.cs; exact Nat.succ_pos _
        have llb : ((out ++ a) ++ b).length = out.length + a.length + b.length := by simp only [List.length_append]
        have hz : pCmp (qN C) (qL C) (qH C) (k :: r) = .ok (ts5, a ++ (b ++ ((62, 0) :: ngC true))) := by
          rw [hC4, e5]
          rfl
        refine cF162 h5.1 h5.2.2.2.1 h5.2.2.2.2.2.2.1 (by omega) (kO _ ts5 _ hz ?_ hw5)
        have q1 := h5.em (by omega) (x := (62, 0)) (a := nI (trM 62)) (b := 0) rfl rfl
        have lc : (((out ++ a) ++ b) ++ [(62, 0)]).length = ((out ++ a) ++ b).length + 1 := List.length_append
        have q2 := q1.em (by omega) (x := (204, 0)) (a := nI (trM 204)) (b := 0) rfl rfl
        rw [lc] at q2
        have eq : out ++ (a ++ (b ++ ((62, 0) :: ngC true))) = (((out ++ a) ++ b) ++ [(62, 0)]) ++ [(204, 0)] := by
          simp only [List.append_assoc]
          rfl
        rw [eq]
        exact q2
      by_cases e61 : k3.1 = 61
      · have hwr := hw3.tl (show 1 < k3.1 by omega)
        have hC4 : pCmp (qN C) (qL C) (qH C) (k :: r) = pBd (run (qN C) (qL C) (qH C) r3 0 [] []) (pCmp2 (qN C) (qL C) (qH C) true 61 a) := by
          rw [hC3, ← e61]
          exact if_pos ((fun z => Or.inr (Or.inl z)) e61)
        refine cD161 h3.1 h3.2.2.2.1 (hk3.2.1.trans (by rw [e61]; rfl)) (M_adv (d := d + 8) hG h3 (by omega) (fun m4 h4 _ => cE161 h4.1 h4.2.2.2.1 ?_))
        refine M_sum1 (d := d + 1) hG h4 hwr (by omega) (fun m5 ts5 b e5 h5 hw5 => ?_) (fun m5 c p e5 hE => cG161 hE.1 rfl hE.c0 (kE m5 c p (by rw [hC4, e5]; rfl) hE))
        have l5 := run_len _ _ _ _ _ e5
        simp only [List.length_nil] at l5
        have hp5 : 0 < ts5.length := by obtain ⟨x1, x2, rfl⟩ := hw5.cs; exact Nat.succ_pos _
        have llb : ((out ++ a) ++ b).length = out.length + a.length + b.length := by simp only [List.length_append]
        have hz : pCmp (qN C) (qL C) (qH C) (k :: r) = .ok (ts5, a ++ (b ++ ((61, 0) :: ngC true))) := by
          rw [hC4, e5]
          rfl
        refine cF161 h5.1 h5.2.2.2.1 h5.2.2.2.2.2.2.1 (by omega) (kO _ ts5 _ hz ?_ hw5)
        have q1 := h5.em (by omega) (x := (61, 0)) (a := nI (trM 61)) (b := 0) rfl rfl
        have lc : (((out ++ a) ++ b) ++ [(61, 0)]).length = ((out ++ a) ++ b).length + 1 := List.length_append
        have q2 := q1.em (by omega) (x := (204, 0)) (a := nI (trM 204)) (b := 0) rfl rfl
        rw [lc] at q2
        have eq : out ++ (a ++ (b ++ ((61, 0) :: ngC true))) = (((out ++ a) ++ b) ++ [(61, 0)]) ++ [(204, 0)] := by
          simp only [List.append_assoc]
          rfl
        rw [eq]
        exact q2
      · have hE := h3.er (e := 1) (s := k3.2.1) (by omega)
        have n : ∀ z, 2 ≤ z ∧ z < 100 → ¬ k3.1 = z → ¬ syK k3.1 = z := fun z hz h q => h ((syK_eq hz).mp q)
        refine cX1 h3.1 h3.2.2.2.1 hk3.2.1 hk3.1 (syK_lt _) (n 60 (by omega) e60) (n 62 (by omega) e62) (n 61 (by omega) e61) (M_advE (d := d + 8) hE (cZ1 hE.1 rfl hE.c0 (kE _ 1 k3.2.1 ?_ hE)))
        rw [hC3]
        exact if_neg (fun z => z.elim e60 (fun z => z.elim e61 e62))
    · have nx : ∀ o : Int32, WPM G (d + 8 + 7) (0, 0) μX11_advance [.ref (gB G + 293)] m3 (fun r' m' => WP G (d + 16) (0, 0) μX11_parseComparison 83 [.ref (gB G + 293), .int (1 : Int32), .int o] (r'.toList ++ []) m' Q) := fun o => M_advE hE (cZ1 hE.1 rfl hE.c0 (kE m3 c p (by rw [hC, e3]; rfl) hE))
      exact cY1 hE.1 rfl hE.c0 (fun _ _ _ => nx _) (fun _ _ _ => nx _) (fun _ _ => nx _) (fun _ => nx _)
  have cmp0 : ∀ (r' : List Tk) (m2 : Mm), RQ G C m2 r' out → Wf r' → r'.length + 0 ≤ r.length + 1 → pCmp (qN C) (qL C) (qH C) (k :: r) = pBd (run (qN C) (qL C) (qH C) r' 0 [] []) (pCmp1 (qN C) (qL C) (qH C) false) → WPM G (d + 1 + 14) (0, 0) μX11_parseSum [.ref (gB G + 293)] m2 (fun r' m' => WP G (d + 16) (0, 0) μX11_parseComparison 20 [.ref (gB G + 293), .int (0 : Int32), lvU] (r'.toList ++ []) m' Q) := by
    intro r' m2 h2 hw2 hl2 hC
    refine M_sum1 hG h2 hw2 (by omega) (fun m3 ts3 a e3 h3 hw3 => ?_) (fun m3 c p e3 hE => ?_)
    · obtain ⟨k3, r3, rfl⟩ := hw3.cs
      have l3 := run_len _ _ _ _ _ e3
      simp only [List.length_cons, List.length_nil] at l3
      have hk3 := h3.cs
      have hC3 : pCmp (qN C) (qL C) (qH C) (k :: r) = pCmp1 (qN C) (qL C) (qH C) false (k3 :: r3, a) := by
        rw [hC, e3]
        rfl
      have lla : (out ++ a).length = out.length + a.length := List.length_append
      by_cases e60 : k3.1 = 60
      · have hwr := hw3.tl (show 1 < k3.1 by omega)
        have hC4 : pCmp (qN C) (qL C) (qH C) (k :: r) = pBd (run (qN C) (qL C) (qH C) r3 0 [] []) (pCmp2 (qN C) (qL C) (qH C) false 60 a) := by
          rw [hC3, ← e60]
          exact if_pos ((Or.inl) e60)
        refine cD060 h3.1 h3.2.2.2.1 (hk3.2.1.trans (by rw [e60]; rfl)) (M_adv (d := d + 8) hG h3 (by omega) (fun m4 h4 _ => cE060 h4.1 h4.2.2.2.1 ?_))
        refine M_sum1 (d := d + 1) hG h4 hwr (by omega) (fun m5 ts5 b e5 h5 hw5 => ?_) (fun m5 c p e5 hE => cG060 hE.1 rfl hE.c0 (kE m5 c p (by rw [hC4, e5]; rfl) hE))
        have l5 := run_len _ _ _ _ _ e5
        simp only [List.length_nil] at l5
        have hp5 : 0 < ts5.length := by obtain ⟨x1, x2, rfl⟩ := hw5.cs; exact Nat.succ_pos _
        have llb : ((out ++ a) ++ b).length = out.length + a.length + b.length := by simp only [List.length_append]
        have hz : pCmp (qN C) (qL C) (qH C) (k :: r) = .ok (ts5, a ++ (b ++ ((60, 0) :: ngC false))) := by
          rw [hC4, e5]
          rfl
        refine cF060 h5.1 h5.2.2.2.1 h5.2.2.2.2.2.2.1 (by omega) (kO _ ts5 _ hz ?_ hw5)
        have q1 := h5.em (by omega) (x := (60, 0)) (a := nI (trM 60)) (b := 0) rfl rfl
        have eq : out ++ (a ++ (b ++ ((60, 0) :: ngC false))) = ((out ++ a) ++ b) ++ [(60, 0)] := by
          simp only [List.append_assoc]
          rfl
        rw [eq]
        exact q1
      by_cases e62 : k3.1 = 62
      · have hwr := hw3.tl (show 1 < k3.1 by omega)
        have hC4 : pCmp (qN C) (qL C) (qH C) (k :: r) = pBd (run (qN C) (qL C) (qH C) r3 0 [] []) (pCmp2 (qN C) (qL C) (qH C) false 62 a) := by
          rw [hC3, ← e62]
          exact if_pos ((fun z => Or.inr (Or.inr z)) e62)
        refine cD062 h3.1 h3.2.2.2.1 (hk3.2.1.trans (by rw [e62]; rfl)) (M_adv (d := d + 8) hG h3 (by omega) (fun m4 h4 _ => cE062 h4.1 h4.2.2.2.1 ?_))
        refine M_sum1 (d := d + 1) hG h4 hwr (by omega) (fun m5 ts5 b e5 h5 hw5 => ?_) (fun m5 c p e5 hE => cG062 hE.1 rfl hE.c0 (kE m5 c p (by rw [hC4, e5]; rfl) hE))
        have l5 := run_len _ _ _ _ _ e5
        simp only [List.length_nil] at l5
        have hp5 : 0 < ts5.length := by obtain ⟨x1, x2, rfl⟩ := hw5.cs; exact Nat.succ_pos _
        have llb : ((out ++ a) ++ b).length = out.length + a.length + b.length := by simp only [List.length_append]
        have hz : pCmp (qN C) (qL C) (qH C) (k :: r) = .ok (ts5, a ++ (b ++ ((62, 0) :: ngC false))) := by
          rw [hC4, e5]
          rfl
        refine cF062 h5.1 h5.2.2.2.1 h5.2.2.2.2.2.2.1 (by omega) (kO _ ts5 _ hz ?_ hw5)
        have q1 := h5.em (by omega) (x := (62, 0)) (a := nI (trM 62)) (b := 0) rfl rfl
        have eq : out ++ (a ++ (b ++ ((62, 0) :: ngC false))) = ((out ++ a) ++ b) ++ [(62, 0)] := by
          simp only [List.append_assoc]
          rfl
        rw [eq]
        exact q1
      by_cases e61 : k3.1 = 61
      · have hwr := hw3.tl (show 1 < k3.1 by omega)
        have hC4 : pCmp (qN C) (qL C) (qH C) (k :: r) = pBd (run (qN C) (qL C) (qH C) r3 0 [] []) (pCmp2 (qN C) (qL C) (qH C) false 61 a) := by
          rw [hC3, ← e61]
          exact if_pos ((fun z => Or.inr (Or.inl z)) e61)
        refine cD061 h3.1 h3.2.2.2.1 (hk3.2.1.trans (by rw [e61]; rfl)) (M_adv (d := d + 8) hG h3 (by omega) (fun m4 h4 _ => cE061 h4.1 h4.2.2.2.1 ?_))
        refine M_sum1 (d := d + 1) hG h4 hwr (by omega) (fun m5 ts5 b e5 h5 hw5 => ?_) (fun m5 c p e5 hE => cG061 hE.1 rfl hE.c0 (kE m5 c p (by rw [hC4, e5]; rfl) hE))
        have l5 := run_len _ _ _ _ _ e5
        simp only [List.length_nil] at l5
        have hp5 : 0 < ts5.length := by obtain ⟨x1, x2, rfl⟩ := hw5.cs; exact Nat.succ_pos _
        have llb : ((out ++ a) ++ b).length = out.length + a.length + b.length := by simp only [List.length_append]
        have hz : pCmp (qN C) (qL C) (qH C) (k :: r) = .ok (ts5, a ++ (b ++ ((61, 0) :: ngC false))) := by
          rw [hC4, e5]
          rfl
        refine cF061 h5.1 h5.2.2.2.1 h5.2.2.2.2.2.2.1 (by omega) (kO _ ts5 _ hz ?_ hw5)
        have q1 := h5.em (by omega) (x := (61, 0)) (a := nI (trM 61)) (b := 0) rfl rfl
        have eq : out ++ (a ++ (b ++ ((61, 0) :: ngC false))) = ((out ++ a) ++ b) ++ [(61, 0)] := by
          simp only [List.append_assoc]
          rfl
        rw [eq]
        exact q1
      · have hE := h3.er (e := 1) (s := k3.2.1) (by omega)
        have n : ∀ z, 2 ≤ z ∧ z < 100 → ¬ k3.1 = z → ¬ syK k3.1 = z := fun z hz h q => h ((syK_eq hz).mp q)
        refine cX0 h3.1 h3.2.2.2.1 hk3.2.1 hk3.1 (syK_lt _) (n 60 (by omega) e60) (n 62 (by omega) e62) (n 61 (by omega) e61) (M_advE (d := d + 8) hE (cZ0 hE.1 rfl hE.c0 (kE _ 1 k3.2.1 ?_ hE)))
        rw [hC3]
        exact if_neg (fun z => z.elim e60 (fun z => z.elim e61 e62))
    · have nx : ∀ o : Int32, WPM G (d + 8 + 7) (0, 0) μX11_advance [.ref (gB G + 293)] m3 (fun r' m' => WP G (d + 16) (0, 0) μX11_parseComparison 83 [.ref (gB G + 293), .int (0 : Int32), .int o] (r'.toList ++ []) m' Q) := fun o => M_advE hE (cZ0 hE.1 rfl hE.c0 (kE m3 c p (by rw [hC, e3]; rfl) hE))
      exact cY0 hE.1 rfl hE.c0 (fun _ _ _ => nx _) (fun _ _ _ => nx _) (fun _ _ => nx _) (fun _ => nx _)
  by_cases e : k.1 = 204
  · rw [if_pos e]
    refine cB1 h.1 (M_adv (d := d + 8) hG h (by omega) (fun m2 h2 _ => cC1 h2.1 (cmp1 r m2 h2 (hw.tl (by omega)) (Nat.le_refl _) ?_)))
    unfold pCmp
    rw [if_pos (show hdK (k :: r) = 204 from e), decide_eq_true (show hdK (k :: r) = 204 from e)]
    rfl
  · rw [if_neg e]
    refine cB0 h.1 (cmp0 (k :: r) m h hw (Nat.le_refl _) ?_)
    unfold pCmp
    rw [if_neg (show ¬ hdK (k :: r) = 204 from e), decide_eq_false (show ¬ hdK (k :: r) = 204 from e)]
theorem L_both {N : Nat} (hN : N ≤ 501) (hG : QG G C) {P : Except Er (List Tk × List (List Cd))} (kO : ∀ m' ts' g, P = .ok (ts', g) → RQ G C m' ts' (out ++ rfG g) → Wf ts' → g ≠ [] → out.length + (rfG g).length + ts'.length ≤ N → Q none m') (kE : ∀ m' c p, P = .error (c, p) → RE G C m' c p → Q none m') :
    ∀ f ts1 gg m, ts1.length ≤ f → P = (if hdK ts1 = 203 then pBoth (qN C) (qL C) (qH C) f ts1.tail gg else .ok (ts1, gg)) → RQ G C m ts1 (out ++ rfG gg) → gg ≠ [] → Wf ts1 → out.length + (rfG gg).length + ts1.length ≤ N → WP G (d + 18) (0, 0) μX11_parseBoth 4 [.ref (gB G + 293)] [] m Q := by
  intro f
  induction f with
  | zero =>
    intro ts1 gg m h1 _ _ _ hw
    obtain ⟨k, r, rfl⟩ := hw.cs
    simp at h1
  | succ f ih =>
    intro ts1 gg m h1 hP h hg hw hcap
    obtain ⟨k, r, rfl⟩ := hw.cs
    rw [List.length_cons] at h1 hcap
    refine bC h.1 h.2.2.2.1 (M_isw (d := d + 11) h.1 (i := 10) (by omega) (by omega) h.cs ?_)
    rw [show 201 + wiJ 10 = 203 from rfl]
    by_cases e : k.1 = 203
    · rw [if_pos e]
      rw [if_pos (show hdK (k :: r) = 203 from e)] at hP
      have hP' : P = pBd (pCmp (qN C) (qL C) (qH C) r) (fun x => if hdK x.1 = 203 then pBoth (qN C) (qL C) (qH C) f x.1.tail (gg ++ [x.2]) else .ok (x.1, gg ++ [x.2])) := hP
      have hl : (out ++ rfG gg).length = out.length + (rfG gg).length := List.length_append
      refine bD1 h.1 (M_adv (d := d + 10) hG h (by omega) (fun m2 h2 _ => bF h2.1 (M_cmp (d := d + 1) hG h2 (hw.tl (by omega)) (by omega) (fun m3 ts3 s e3 h3 hw3 => ?_) (fun m3 c p e3 hE => ?_))))
      · obtain ⟨l3, l0⟩ := pCmp_len (hw.tl (by omega)) e3
        have hp3 : 0 < ts3.length := by obtain ⟨x1, x2, rfl⟩ := hw3.cs; exact Nat.succ_pos _
        have hls : ((out ++ rfG gg) ++ s).length = out.length + (rfG gg).length + s.length := by simp only [List.length_append]
        have q := h3.em (by omega) (x := (203, 0)) (a := nI (trM 203)) (b := 0) rfl rfl
        have eq : out ++ rfG (gg ++ [s]) = ((out ++ rfG gg) ++ s) ++ [(203, 0)] := by
          rw [rfG_snoc s hg]
          simp only [List.append_assoc]
        rw [← eq] at q
        refine bG h3.1 h3.2.2.2.1 h3.2.2.2.2.2.2.1 (by omega) (ih ts3 (gg ++ [s]) _ (by omega) ?_ q (by simp) hw3 ?_)
        · rw [hP', e3]
          rfl
        · rw [rfG_snoc s hg]
          simp only [List.length_append, List.length_cons, List.length_nil]
          omega
      · have hz : P = .error (c, p) := by
          rw [hP', e3]
          rfl
        exact bH hE.1 rfl hE.c0 (bE hE.1 rfl hE.c0 (kE m3 c p hz hE))
    · rw [if_neg e]
      rw [if_neg (show ¬ hdK (k :: r) = 203 from e)] at hP
      exact bD0 h.1 (kO m _ _ hP h hw hg (by rw [List.length_cons]; omega))
theorem M_both {N : Nat} (hN : N ≤ 501) (hG : QG G C) (h : RQ G C m ts out) (hw : Wf ts) (hcap : out.length + ts.length ≤ N)
    (kO : ∀ m' ts' g, pBoth (qN C) (qL C) (qH C) 502 ts [] = .ok (ts', g) → RQ G C m' ts' (out ++ rfG g) → Wf ts' → g ≠ [] → out.length + (rfG g).length + ts'.length ≤ N → Q none m') (kE : ∀ m' c p, pBoth (qN C) (qL C) (qH C) 502 ts [] = .error (c, p) → RE G C m' c p → Q none m') : WPM G (d + 18) (0, 0) μX11_parseBoth [.ref (gB G + 293)] m Q := by
  have e0 : pBoth (qN C) (qL C) (qH C) 502 ts [] = pBd (pCmp (qN C) (qL C) (qH C) ts) (fun x => if hdK x.1 = 203 then pBoth (qN C) (qL C) (qH C) 501 x.1.tail ([] ++ [x.2]) else .ok (x.1, [] ++ [x.2])) := pBoth_s
  refine bA h.1 (M_cmp (d := d + 1) hG h hw (by omega) (fun m3 ts3 s e3 h3 hw3 => ?_) (fun m3 c p e3 hE => ?_))
  · obtain ⟨l3, l0⟩ := pCmp_len hw e3
    have hs : rfG [s] = s := List.append_nil s
    refine L_both hN hG kO kE 501 ts3 [s] m3 (by omega) ?_ (by rw [hs]; exact h3) (by simp) hw3 (by rw [hs]; omega)
    rw [e0, e3]
    rfl
  · have hz : pBoth (qN C) (qL C) (qH C) 502 ts [] = .error (c, p) := by
      rw [e0, e3]
      rfl
    exact bE hE.1 rfl hE.c0 (kE m3 c p hz hE)
end MTST
