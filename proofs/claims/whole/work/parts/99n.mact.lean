/-! THE REFERENCE'S RULES -/
section MRUL
variable {G : Cx} {C : Qc} {d : Nat} {m m0 m1 : Mm} {Q : Option Value → Mm → Prop} {k : Tk} {r ts : List Tk} {out : List Cd} {c p : Nat}
theorem L_test (hG : QG G C) {P : Except Er (List Tk × List (List (List Cd)))} (kO : ∀ m' ts' gs, P = .ok (ts', gs) → RQ G C m' ts' (out ++ rfC gs) → Wf ts' → out.length + (rfC gs).length + ts'.length ≤ 501 → Q none m') (kE : ∀ m' c p, P = .error (c, p) → RE G C m' c p → Q none m') :
    ∀ f ts1 gg m, ts1.length ≤ f → P = (if hdK ts1 = 202 then pTst (qN C) (qL C) (qH C) f ts1.tail gg else .ok (ts1, gg)) → RQ G C m ts1 (out ++ rfC gg) → gg ≠ [] → Wf ts1 → out.length + (rfC gg).length + ts1.length ≤ 501 → WP G (d + 20) (0, 0) μX11_parseTest 4 [.ref (gB G + 293)] [] m Q := by
  intro f
  induction f with
  | zero =>
    intro ts1 gg m h1 _ _ _ hw
    obtain ⟨k, r, rfl⟩ := hw.cs
    simp at h1
  | succ f ih =>
    intro ts1 gg m h1 hP h hg hw hcap
    obtain ⟨k, r, rfl⟩ := hw.cs
    rw [List.length_cons] at h1 hcap
    refine t_C h.1 h.2.2.2.1 (M_isw (d := d + 13) h.1 (i := 11) (by omega) (by omega) h.cs ?_)
    rw [show 201 + wiJ 11 = 202 from rfl]
    by_cases e : k.1 = 202
    · rw [if_pos e]
      rw [if_pos (show hdK (k :: r) = 202 from e)] at hP
      have hP' : P = pBd (pBoth (qN C) (qL C) (qH C) 502 r []) (fun x => if hdK x.1 = 202 then pTst (qN C) (qL C) (qH C) f x.1.tail (gg ++ [x.2]) else .ok (x.1, gg ++ [x.2])) := hP.trans pTst_s
      have hl : (out ++ rfC gg).length = out.length + (rfC gg).length := List.length_append
      have hwr := hw.tl (show 1 < k.1 by omega)
      refine t_D1 h.1 (M_adv (d := d + 12) hG h (by omega) (fun m2 h2 _ => t_F h2.1 (M_both (N := (out ++ rfC gg).length + r.length) (d := d + 1) (by omega) hG h2 hwr (Nat.le_refl _) (fun m3 ts3 g e3 h3 hw3 hg3 hc3 => ?_) (fun m3 c p e3 hE => ?_))))
      · have hp3 : 0 < ts3.length := by obtain ⟨x1, x2, rfl⟩ := hw3.cs; exact Nat.succ_pos _
        have hls : ((out ++ rfC gg) ++ rfG g).length = out.length + (rfC gg).length + (rfG g).length := by simp only [List.length_append]
        have q := h3.em (by omega) (x := (202, 0)) (a := nI (trM 202)) (b := 0) rfl rfl
        have eq : out ++ rfC (gg ++ [g]) = ((out ++ rfC gg) ++ rfG g) ++ [(202, 0)] := by
          rw [rfC_snoc g hg]
          simp only [List.append_assoc]
        rw [← eq] at q
        refine t_G h3.1 h3.2.2.2.1 h3.2.2.2.2.2.2.1 (by omega) (ih ts3 (gg ++ [g]) _ (by omega) ?_ q (by simp) hw3 ?_)
        · rw [hP', e3]
          rfl
        · rw [rfC_snoc g hg]
          simp only [List.length_append, List.length_cons, List.length_nil]
          omega
      · have hz : P = .error (c, p) := by
          rw [hP', e3]
          rfl
        exact t_H hE.1 rfl hE.c0 (t_E hE.1 rfl hE.c0 (kE m3 c p hz hE))
    · rw [if_neg e]
      rw [if_neg (show ¬ hdK (k :: r) = 202 from e)] at hP
      exact t_D0 h.1 (kO m _ _ hP h hw (by rw [List.length_cons]; omega))
theorem M_test (hG : QG G C) (h : RQ G C m ts out) (hw : Wf ts) (hcap : out.length + ts.length ≤ 501)
    (kO : ∀ m' ts' gs, pTst (qN C) (qL C) (qH C) 502 ts [] = .ok (ts', gs) → RQ G C m' ts' (out ++ rfC gs) → Wf ts' → out.length + (rfC gs).length + ts'.length ≤ 501 → Q none m') (kE : ∀ m' c p, pTst (qN C) (qL C) (qH C) 502 ts [] = .error (c, p) → RE G C m' c p → Q none m') : WPM G (d + 20) (0, 0) μX11_parseTest [.ref (gB G + 293)] m Q := by
  have e0 : pTst (qN C) (qL C) (qH C) 502 ts [] = pBd (pBoth (qN C) (qL C) (qH C) 502 ts []) (fun x => if hdK x.1 = 202 then pTst (qN C) (qL C) (qH C) 501 x.1.tail ([] ++ [x.2]) else .ok (x.1, [] ++ [x.2])) := pTst_s
  refine t_A h.1 (M_both (N := 501) (d := d + 1) (Nat.le_refl _) hG h hw hcap (fun m3 ts3 g e3 h3 hw3 hg3 hc3 => ?_) (fun m3 c p e3 hE => ?_))
  · have hs : rfC [g] = rfG g := List.append_nil (rfG g)
    refine L_test hG kO kE 501 ts3 [g] m3 (by omega) ?_ (by rw [hs]; exact h3) (by simp) hw3 (by rw [hs]; omega)
    rw [e0, e3]
    rfl
  · have hz : pTst (qN C) (qL C) (qH C) 502 ts [] = .error (c, p) := by
      rw [e0, e3]
      rfl
    exact t_E hE.1 rfl hE.c0 (kE m3 c p hz hE)
theorem M_ha (hG : QG G C) (h : RQ G C m (k :: r) out) (kO : 215 ≤ k.1 → k.1 ≤ 217 → ∀ m', RQ G C m' r out → Q (some (.int (nI (acN k.1)))) m') (kE : ¬ (215 ≤ k.1 ∧ k.1 ≤ 217) → ∀ m' v, RE G C m' 1 k.2.1 → Q (some (.int v)) m') : WPM G (d + 16) (0, 0) μX11_heaterAction [.ref (gB G + 293)] m Q := by
  have hk := h.cs
  refine haA h.1 (M_isw (d := d + 9) h.1 (i := 12) (by omega) (by omega) hk ?_)
  rw [show 201 + wiJ 12 = 215 from rfl]
  by_cases e1 : k.1 = 215
  · rw [if_pos e1]
    rw [e1] at kO
    exact haY0 h.1 h.2.2.2.1 (M_adv (d := d + 8) hG h (by omega) (fun m' h' _ => haZ0 h'.1 (kO (by omega) (by omega) m' h')))
  rw [if_neg e1]
  refine haN0 h.1 (M_isw (d := d + 9) h.1 (i := 13) (by omega) (by omega) hk ?_)
  rw [show 201 + wiJ 13 = 216 from rfl]
  by_cases e2 : k.1 = 216
  · rw [if_pos e2]
    rw [e2] at kO
    exact haY1 h.1 h.2.2.2.1 (M_adv (d := d + 8) hG h (by omega) (fun m' h' _ => haZ1 h'.1 (kO (by omega) (by omega) m' h')))
  rw [if_neg e2]
  refine haN1 h.1 (M_isw (d := d + 9) h.1 (i := 14) (by omega) (by omega) hk ?_)
  rw [show 201 + wiJ 14 = 217 from rfl]
  by_cases e3 : k.1 = 217
  · rw [if_pos e3]
    rw [e3] at kO
    exact haY2 h.1 h.2.2.2.1 (M_adv (d := d + 8) hG h (by omega) (fun m' h' _ => haZ2 h'.1 (kO (by omega) (by omega) m' h')))
  rw [if_neg e3]
  have hE := h.er (e := 1) (s := k.2.1) (by omega)
  exact haX h.1 h.2.2.2.1 hk.1 (M_advE (d := d + 8) hE (haXz hE.1 (kE (by omega) _ _ hE)))
theorem M_la (hG : QG G C) (h : RQ G C m (k :: r) out) (kO : 218 ≤ k.1 → k.1 ≤ 219 → ∀ m', RQ G C m' r out → Q (some (.int (nI (acN k.1)))) m') (kE : ¬ (218 ≤ k.1 ∧ k.1 ≤ 219) → ∀ m' v, RE G C m' 1 k.2.1 → Q (some (.int v)) m') : WPM G (d + 16) (0, 0) μX11_louvreAction [.ref (gB G + 293)] m Q := by
  have hk := h.cs
  refine laA h.1 (M_isw (d := d + 9) h.1 (i := 15) (by omega) (by omega) hk ?_)
  rw [show 201 + wiJ 15 = 218 from rfl]
  by_cases e1 : k.1 = 218
  · rw [if_pos e1]
    rw [e1] at kO
    exact laY0 h.1 h.2.2.2.1 (M_adv (d := d + 8) hG h (by omega) (fun m' h' _ => laZ0 h'.1 (kO (by omega) (by omega) m' h')))
  rw [if_neg e1]
  refine laN0 h.1 (M_isw (d := d + 9) h.1 (i := 16) (by omega) (by omega) hk ?_)
  rw [show 201 + wiJ 16 = 219 from rfl]
  by_cases e2 : k.1 = 219
  · rw [if_pos e2]
    rw [e2] at kO
    exact laY1 h.1 h.2.2.2.1 (M_adv (d := d + 8) hG h (by omega) (fun m' h' _ => laZ1 h'.1 (kO (by omega) (by omega) m' h')))
  rw [if_neg e2]
  have hE := h.er (e := 1) (s := k.2.1) (by omega)
  exact laX h.1 h.2.2.2.1 hk.1 (M_advE (d := d + 8) hE (laXz hE.1 (kE (by omega) _ _ hE)))
end MRUL
/-! rule by rule -/
def MR (G : Cx) (a : Nat) : Prop := a = gB G + 293 ∨ a = gB G + 305 ∨ a = gB G + 306 ∨ a = gB G + 307
abbrev Qd : Type := List Nat × Nat × Nat × Nat × Nat
def RP (G : Cx) (D : Qd) (m : Mm) (ts : List Tk) (out : List Cd) : Prop := RQ G (m, D) m ts out ∧ QG G (m, D)
def RX (G : Cx) (m0 : Mm) (D : Qd) (m : Mm) (c p : Nat) : Prop := Out (MR G) m m0 ∧ RE G (m, D) m c p
section MACT
variable {G : Cx} {D : Qd} {d b : Nat} {m m0 m1 : Mm} {Q : Option Value → Mm → Prop} {ts : List Tk} {out : List Cd}
abbrev eN (D : Qd) : Nat := D.2.1
abbrev eL (D : Qd) : Nat := D.2.2.1
abbrev eH (D : Qd) : Nat := D.2.2.2.1
theorem ME_MR {a : Nat} (h : ME G a) : MR G a := by unfold ME at h; unfold MR; omega
theorem QG.mv (hG : QG G (m, D)) (hO : Out (MR G) m1 m) : QG G (m1, D) := by
  obtain ⟨h1, h2, h3, h4, h5, h6, h7⟩ := hG
  exact ⟨fun k b hk => (hO.ai (by unfold MR; omega) k).trans (h1 k b hk), h2, h3, (hO.ai (by unfold MR; omega) 12).trans h4, (hO.ai (by unfold MR; omega) 13).trans h5, (hO.ai (by unfold MR; omega) 14).trans h6, h7⟩
theorem RP.re (h : RP G D m ts out) {ts' : List Tk} {out' : List Cd} (h1 : RQ G (m, D) m1 ts' out') : RP G D m1 ts' out' ∧ Out (MR G) m1 m := by
  have hO : Out (MR G) m1 m := h1.2.1.mono (fun a ha => ME_MR ha)
  obtain ⟨a1, a2, a3⟩ := h1
  exact ⟨⟨⟨a1, Out.rf, a3⟩, h.2.mv hO⟩, hO⟩
theorem RP.rx (h : RP G D m ts out) {c p : Nat} (h1 : RE G (m, D) m1 c p) (hO : Out (MR G) m m0) : RX G m0 D m1 c p := by
  obtain ⟨a1, a2, a3⟩ := h1
  exact ⟨(a2.mono (fun a ha => ME_MR ha)).tr hO, a1, Out.rf, a3⟩
theorem RP.wai (h : RP G D m ts out) (j : Nat) (x : Int32) : RP G D (wai m (gB G + 305) j x) ts out := by
  obtain ⟨⟨a1, a2, a3, a4, a5, a6, a7, a8, ⟨k, r, e, g1, g2⟩⟩, hG⟩ := h
  exact ⟨⟨Full_wai _ _ _ a1, Out.rf, a3, a4, a5, a6, a7, CodP_ai (m := m) (fun _ _ _ => ai_na (by omega)) a8, ⟨k, r, e, g1, g2⟩⟩, hG.mv (Out.rf.wai (Or.inr (Or.inl rfl)))⟩
theorem RX.wai {c p : Nat} (h : RX G m0 D m c p) (j : Nat) (x : Int32) : RX G m0 D (wai m (gB G + 305) j x) c p := by
  obtain ⟨h1, a1, a2, a3⟩ := h
  exact ⟨h1.wai (Or.inr (Or.inl rfl)), Full_wai _ _ _ a1, Out.rf, a3⟩
theorem RP.full (h : RP G D m ts out) : Full G m := h.1.1
/-- the reference's table but for a rule's places -/
theorem o305 (h : Out (ME G) m1 m) (x : Nat) : ai m1 (gB G + 305) x = ai m (gB G + 305) x := h.ai (by unfold ME; omega) x
theorem M_act (hb : b ≤ 66) (hP : RP G D m ts out) (hw : Wf ts) (hcap : out.length + ts.length ≤ 501)
    (kE : ∀ m' c p, pAct (eN D) (eL D) (eH D) ts = .error (c, p) → RX G m D m' c p → Q none m')
    (kO : ∀ m' ts' ac v sm, pAct (eN D) (eL D) (eH D) ts = .ok (ts', (ac, v, sm)) → RP G D m' ts' (out ++ sm) → Wf ts' → out.length + sm.length + ts'.length ≤ 501 → Out (MR G) m' m → ai m' (gB G + 305) (b + 2) = nI ac → ai m' (gB G + 305) (b + 3) = nI v → (ac = 5 → ai m' (gB G + 305) (b + 4) = nI out.length ∧ ai m' (gB G + 305) (b + 5) = nI (out.length + sm.length)) → (∀ x, ¬ (b + 2 ≤ x ∧ x < b + 6) → ai m' (gB G + 305) x = ai m (gB G + 305) x) → Q none m') :
    WPM G (d + 18) (0, 0) μX11_parseAction [.ref (gB G + 293), .int (nI b)] m Q := by
  obtain ⟨k, r, rfl⟩ := hw.cs
  rw [List.length_cons] at hcap
  have h := hP.1
  have hk := h.cs
  have hcn := h.cnt hP.2
  have hm := hP.2.2.2.2.2.2.2
  refine acA h.1 (M_isw (d := d + 11) h.1 (i := 17) (by omega) (by omega) hk ?_)
  rw [show 201 + wiJ 17 = 212 from rfl]
  have eA : (212 ≤ k.1 ∧ k.1 ≤ 214) → ∀ k1 r1, r = k1 :: r1 → pAct (eN D) (eL D) (eH D) (k :: r) = if k1.1 = 200 then (if k1.2.2 < ctF (eN D) (eL D) (eH D) k.1 then pAct2 (eN D) (eL D) (eH D) k.1 k1.2.2 r1 else .error (2, k1.2.1)) else .error (1, k1.2.1) := fun hk' k1 r1 e => by
    subst e
    exact if_pos hk'
  by_cases e212 : k.1 = 212
  · rw [if_pos e212]
    refine acB1 h.1 (M_isw (d := d + 11) h.1 (i := 18) (by omega) (by omega) hk ?_)
    rw [show 201 + wiJ 18 = 213 from rfl, if_neg (by omega)]
    have hwr := hw.tl (show 1 < k.1 by omega)
    obtain ⟨k1, r1, rfl⟩ := hwr.cs
    rw [List.length_cons] at hcap
    have eA' := eA (by omega) k1 r1 rfl
    rw [e212] at eA'
    refine acC10 h.1 h.2.2.2.1 (M_adv (d := d + 10) hP.2 h (by omega) (fun m1 h1 _ => ?_))
    obtain ⟨hP1, hO1⟩ := hP.re h1
    refine acE10 (c := eH D) h1.1 hb h1.2.2.2.1 (h1.cnt hP.2).2.2 (M_pp (d := d + 9) hP1.2 hP1.1 hm.2.2.1 (fun f1 f2 m2 h2 _ => ?_) (fun f1 f2 m2 v hE _ => acFx10 hE.1 hb rfl hE.c0 (kE _ 2 k1.2.1 ?_ ((hP1.rx hE hO1).wai _ _))) (fun f1 m2 v hE _ => acFx10 hE.1 hb rfl hE.c0 (kE _ 1 k1.2.1 ?_ ((hP1.rx hE hO1).wai _ _))))
    · have hw1 := hwr.tl (show 1 < k1.1 by omega)
      obtain ⟨k2, r2, rfl⟩ := hw1.cs
      rw [List.length_cons] at hcap
      have eB : pAct (eN D) (eL D) (eH D) (k :: k1 :: k2 :: r2) = pAct2 (eN D) (eL D) (eH D) 212 k1.2.2 (k2 :: r2) := by
        rw [eA', if_pos f1]
        exact if_pos f2
      obtain ⟨hP2, hO2⟩ := hP1.re h2
      refine acF10 h2.1 hb h2.2.2.2.1 ?_
      have hP3 := hP2.wai (b + 3) (nI k1.2.2)
      have hO3 : Out (MR G) (wai m2 (gB G + 305) (b + 3) (nI k1.2.2)) m := (hO2.tr hO1).wai (Or.inr (Or.inl rfl))
      have t2 : ∀ x, ai m2 (gB G + 305) x = ai m (gB G + 305) x := fun x => (o305 h2.2.1 x).trans (o305 h1.2.1 x)
      refine M_ha (d := d + 1) hP3.2 hP3.1 (fun w1 w2 m4 h4 => ?_) (fun w1 m4 v hE => acG10 hE.1 hb (kE _ 1 k2.2.1 ?_ ((hP3.rx hE hO3).wai _ _)))
      · obtain ⟨hP4, hO4⟩ := hP3.re h4
        refine acG10 h4.1 hb (kO _ r2 (acN k2.1) k1.2.2 [] ?_ ?_ (hw1.tl (by omega)) (by show out.length + 0 + r2.length ≤ 501; omega) ((hO4.tr hO3).wai (Or.inr (Or.inl rfl))) ai_eq ?_ ?_ (fun x hx => ?_))
        · rw [eB]
          exact (if_pos rfl).trans (if_pos ⟨w1, w2⟩)
        · rw [List.append_nil]
          exact hP4.wai _ _
        · exact (ai_nk (by omega)).trans ((o305 h4.2.1 _).trans ai_eq)
        · intro e5
          have : acN k2.1 ≤ 4 := by unfold acN; repeat' split
                                    all_goals omega
          omega
        · exact (ai_nk (by omega)).trans ((o305 h4.2.1 _).trans ((ai_nk (by omega)).trans (t2 x)))
      · rw [eB]
        exact (if_pos rfl).trans (if_neg w1)
    · rw [eA', if_pos f1]
      exact if_neg f2
    · rw [eA', if_neg f1]
  rw [if_neg e212]
  refine acB0 h.1 (M_isw (d := d + 11) h.1 (i := 18) (by omega) (by omega) hk ?_)
  rw [show 201 + wiJ 18 = 213 from rfl]
  by_cases e213 : k.1 = 213
  · rw [if_pos e213]
    have hwr := hw.tl (show 1 < k.1 by omega)
    obtain ⟨k1, r1, rfl⟩ := hwr.cs
    rw [List.length_cons] at hcap
    have eA' := eA (by omega) k1 r1 rfl
    rw [e213] at eA'
    refine acC01 h.1 h.2.2.2.1 (M_adv (d := d + 10) hP.2 h (by omega) (fun m1 h1 _ => ?_))
    obtain ⟨hP1, hO1⟩ := hP.re h1
    refine acE01 (c := eL D) h1.1 hb h1.2.2.2.1 (h1.cnt hP.2).2.1 (M_pp (d := d + 9) hP1.2 hP1.1 hm.2.1 (fun f1 f2 m2 h2 _ => ?_) (fun f1 f2 m2 v hE _ => acFx01 hE.1 hb rfl hE.c0 (kE _ 2 k1.2.1 ?_ ((hP1.rx hE hO1).wai _ _))) (fun f1 m2 v hE _ => acFx01 hE.1 hb rfl hE.c0 (kE _ 1 k1.2.1 ?_ ((hP1.rx hE hO1).wai _ _))))
    · have hw1 := hwr.tl (show 1 < k1.1 by omega)
      obtain ⟨k2, r2, rfl⟩ := hw1.cs
      rw [List.length_cons] at hcap
      have eB : pAct (eN D) (eL D) (eH D) (k :: k1 :: k2 :: r2) = pAct2 (eN D) (eL D) (eH D) 213 k1.2.2 (k2 :: r2) := by
        rw [eA', if_pos f1]
        exact if_pos f2
      obtain ⟨hP2, hO2⟩ := hP1.re h2
      refine acF01 h2.1 hb h2.2.2.2.1 ?_
      have hP3 := hP2.wai (b + 3) (nI k1.2.2)
      have hO3 : Out (MR G) (wai m2 (gB G + 305) (b + 3) (nI k1.2.2)) m := (hO2.tr hO1).wai (Or.inr (Or.inl rfl))
      have t2 : ∀ x, ai m2 (gB G + 305) x = ai m (gB G + 305) x := fun x => (o305 h2.2.1 x).trans (o305 h1.2.1 x)
      refine M_la (d := d + 1) hP3.2 hP3.1 (fun w1 w2 m4 h4 => ?_) (fun w1 m4 v hE => acG01 hE.1 hb (kE _ 1 k2.2.1 ?_ ((hP3.rx hE hO3).wai _ _)))
      · obtain ⟨hP4, hO4⟩ := hP3.re h4
        refine acG01 h4.1 hb (kO _ r2 (acN k2.1) k1.2.2 [] ?_ ?_ (hw1.tl (by omega)) (by show out.length + 0 + r2.length ≤ 501; omega) ((hO4.tr hO3).wai (Or.inr (Or.inl rfl))) ai_eq ?_ ?_ (fun x hx => ?_))
        · rw [eB]
          exact (if_neg (by decide)).trans ((if_pos rfl).trans (if_pos ⟨w1, w2⟩))
        · rw [List.append_nil]
          exact hP4.wai _ _
        · exact (ai_nk (by omega)).trans ((o305 h4.2.1 _).trans ai_eq)
        · intro e5
          have : acN k2.1 ≤ 4 := by unfold acN; repeat' split
                                    all_goals omega
          omega
        · exact (ai_nk (by omega)).trans ((o305 h4.2.1 _).trans ((ai_nk (by omega)).trans (t2 x)))
      · rw [eB]
        exact (if_neg (by decide)).trans ((if_pos rfl).trans (if_neg w1))
    · rw [eA', if_pos f1]
      exact if_neg f2
    · rw [eA', if_neg f1]
  rw [if_neg e213]
  refine acC00 h.1 (M_isw (d := d + 11) h.1 (i := 19) (by omega) (by omega) hk ?_)
  rw [show 201 + wiJ 19 = 214 from rfl]
  by_cases e214 : k.1 = 214
  · rw [if_pos e214]
    have hwr := hw.tl (show 1 < k.1 by omega)
    obtain ⟨k1, r1, rfl⟩ := hwr.cs
    rw [List.length_cons] at hcap
    have eA' := eA (by omega) k1 r1 rfl
    rw [e214] at eA'
    refine acD1 h.1 h.2.2.2.1 (M_adv (d := d + 10) hP.2 h (by omega) (fun m1 h1 _ => ?_))
    obtain ⟨hP1, hO1⟩ := hP.re h1
    refine acE00 (c := eN D) h1.1 hb h1.2.2.2.1 (h1.cnt hP.2).1 (M_pp (d := d + 9) hP1.2 hP1.1 hm.1 (fun f1 f2 m2 h2 _ => ?_) (fun f1 f2 m2 v hE _ => acFx00 hE.1 hb rfl hE.c0 (kE _ 2 k1.2.1 ?_ ((hP1.rx hE hO1).wai _ _))) (fun f1 m2 v hE _ => acFx00 hE.1 hb rfl hE.c0 (kE _ 1 k1.2.1 ?_ ((hP1.rx hE hO1).wai _ _))))
    · have hw1 := hwr.tl (show 1 < k1.1 by omega)
      obtain ⟨k2, r2, rfl⟩ := hw1.cs
      rw [List.length_cons] at hcap
      have eB : pAct (eN D) (eL D) (eH D) (k :: k1 :: k2 :: r2) = pAct2 (eN D) (eL D) (eH D) 214 k1.2.2 (k2 :: r2) := by
        rw [eA', if_pos f1]
        exact if_pos f2
      obtain ⟨hP2, hO2⟩ := hP1.re h2
      refine acF00 h2.1 hb h2.2.2.2.1 ?_
      have hP3 := hP2.wai (b + 3) (nI k1.2.2)
      have hO3 : Out (MR G) (wai m2 (gB G + 305) (b + 3) (nI k1.2.2)) m := (hO2.tr hO1).wai (Or.inr (Or.inl rfl))
      have t2 : ∀ x, ai m2 (gB G + 305) x = ai m (gB G + 305) x := fun x => (o305 h2.2.1 x).trans (o305 h1.2.1 x)
      have eC : pAct (eN D) (eL D) (eH D) (k :: k1 :: k2 :: r2) = if k2.1 = 61 then pBd (run (eN D) (eL D) (eH D) r2 0 [] []) (fun r => .ok (r.1, (5, k1.2.2, r.2))) else .error (1, k2.2.1) := eB.trans ((if_neg (by decide)).trans (if_neg (by decide)))
      refine M_rs (d := d + 9) (x := 61) hP3.2 hP3.1 (by omega) (fun w1 m4 h4 => ?_) (fun w1 m4 hE => acHx hE.1 hb rfl hE.c0 rfl (kE _ 1 k2.2.1 ?_ ((((hP3.rx hE hO3).wai _ _).wai _ _).wai _ _)))
      · obtain ⟨hP4, hO4⟩ := hP3.re h4
        refine acH h4.1 hb h4.2.2.2.1 hP4.1.2.2.2.2.2.2.1 ?_
        have hP5 := (hP4.wai (b + 2) (5 : Int32)).wai (b + 4) (nI out.length)
        have hO5 : Out (MR G) (wai (wai m4 (gB G + 305) (b + 2) (5 : Int32)) (gB G + 305) (b + 4) (nI out.length)) m := ((hO4.tr hO3).wai (Or.inr (Or.inl rfl))).wai (Or.inr (Or.inl rfl))
        refine M_sum1 (d := d + 3) hP5.2 hP5.1 (hw1.tl (by omega)) (by omega) (fun m6 ts6 sm e6 h6 hw6 => ?_) (fun m6 c p e6 hE => acI hE.1 hb rfl (kE _ c p ?_ ((hP5.rx hE hO5).wai _ _)))
        · obtain ⟨hP6, hO6⟩ := hP5.re h6
          have hl : (out ++ sm).length = out.length + sm.length := List.length_append
          refine acI h6.1 hb hP6.1.2.2.2.2.2.2.1 (kO _ ts6 5 k1.2.2 sm ?_ (hP6.wai _ _) hw6 (by have := run_len _ _ _ _ _ e6; simp only [List.length_nil] at this; omega) ((hO6.tr hO5).wai (Or.inr (Or.inl rfl))) ?_ ?_ (fun _ => ⟨?_, ai_eq.trans (congrArg nI hl)⟩) (fun x hx => ?_))
          · rw [eC, if_pos w1, show run (eN D) (eL D) (eH D) r2 0 [] [] = .ok (ts6, sm) from e6]
            rfl
          · exact (ai_nk (by omega)).trans ((o305 h6.2.1 _).trans ((ai_nk (by omega)).trans ai_eq))
          · exact (ai_nk (by omega)).trans ((o305 h6.2.1 _).trans ((ai_nk (by omega)).trans ((ai_nk (by omega)).trans ((o305 h4.2.1 _).trans ai_eq))))
          · exact (ai_nk (by omega)).trans ((o305 h6.2.1 _).trans ai_eq)
          · exact (ai_nk (by omega)).trans ((o305 h6.2.1 _).trans ((ai_nk (by omega)).trans ((ai_nk (by omega)).trans ((o305 h4.2.1 _).trans ((ai_nk (by omega)).trans (t2 x))))))
        · rw [eC, if_pos w1, show run (eN D) (eL D) (eH D) r2 0 [] [] = .error (c, p) from e6]
          rfl
      · rw [eC, if_neg w1]
    · rw [eA', if_pos f1]
      exact if_neg f2
    · rw [eA', if_neg f1]
  · rw [if_neg e214]
    have hE := h.er (e := 1) (s := k.2.1) (by omega)
    exact acD0 h.1 h.2.2.2.1 hk.1 (M_advE (d := d + 10) hE (acEx hE.1 rfl hE.c0 (kE _ 1 k.2.1 (if_neg (show ¬ (212 ≤ k.1 ∧ k.1 ≤ 214) by omega)) (hP.rx hE Out.rf))))
end MACT
