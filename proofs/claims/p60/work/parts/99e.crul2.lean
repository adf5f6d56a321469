section CRUL2
variable {G : Cx} {D : Pd} {d q : Nat} {m : Mm} {Q : Option Value → Mm → Prop} {ts : List Tk} {out : List Cd}
abbrev dLn (D : Pd) : Nat := D.2.1
theorem PW.re {m1 : Mm} (hP : PW G D m ts out) {ts' : List Tk} {out' : List Cd} (h : PZ G (m, D) m1 ts' out') : PW G D m1 ts' out' ∧ Out (PQ G) m1 m := ⟨h.base hP.2, h.oo.mono (fun a ha => PE_PQ ha)⟩
/-- the tables but for place q are the same -/
def TbE (G : Cx) (q : Nat) (m' m : Mm) : Prop := ∀ j x, 3 ≤ j → j < 8 → x ≠ q → ai m' (gB G + 281 + j) x = ai m (gB G + 281 + j) x
theorem TbE.rf : TbE G q m m := fun _ _ _ _ _ => rfl
theorem TbE.tr {m1 m2 : Mm} (h2 : TbE G q m2 m1) (h1 : TbE G q m1 m) : TbE G q m2 m := fun j x a b c => (h2 j x a b c).trans (h1 j x a b c)
theorem TbE.wai {m1 : Mm} {j : Nat} {v : Int32} (h : TbE G q m1 m) : TbE G q (wai m1 (gB G + 281 + j) q v) m := fun i x a b c => by
  by_cases e : i = j
  · subst e
    exact (ai_nk c).trans (h i x a b c)
  · exact (ai_na (by omega)).trans (h i x a b c)
theorem oTab {m1 : Mm} (h : Out (PE G) m1 m) {j : Nat} (h3 : 3 ≤ j) (h8 : j < 8) (x : Nat) : ai m1 (gB G + 281 + j) x = ai m (gB G + 281 + j) x := h.ai (by unfold PE; omega) x
theorem oTbe {m1 : Mm} (h : Out (PE G) m1 m) : TbE G q m1 m := fun j x a b _ => oTab h a b x
theorem clP_nil : clP [] [] = [] := (if_pos rfl).trans (if_pos rfl)
theorem pTst_s {nn nl nh f : Nat} {ts : List Tk} {gs : List (List (List Cd))} : pTst nn nl nh (f + 1) ts gs = pBd (pBoth nn nl nh 502 ts []) (fun r => if hdK r.1 = 202 then pTst nn nl nh f r.1.tail (gs ++ [r.2]) else .ok (r.1, gs ++ [r.2])) := rfl
theorem C_test (hq : q < 12) (hP : PW G D m ts out) (hw : Wf ts) (hcap : out.length + ts.length ≤ 501)
    (kE : ∀ m' c p, pWhen (dN D) (dL D) (dH D) ts = .error (c, p) → PR G m (dLn D) m' c p → Q (some (.int 0)) m')
    (kO : ∀ m' ts' gs, pWhen (dN D) (dL D) (dH D) ts = .ok (ts', gs) → Wf ts' → ts'.length ≤ ts.length → out.length + (clC gs).length + ts'.length ≤ 501 → PW G D m' ts' (out ++ clC gs) → Out (PQ G) m' m → ai m' (gB G + 281 + 3) q = nI out.length → ai m' (gB G + 281 + 4) q = nI (out.length + (clC gs).length) → TbE G q m' m → Q (some (.int 1)) m') :
    WPM G (d + 80) (0, 0) μX7_readTest [.ref (gB G + 279), .int (nI q)] m Q := by
  obtain ⟨k, r, rfl⟩ := hw.cs
  rw [List.length_cons] at hcap kO
  obtain ⟨a, q1, q2, q3⟩ := hP.1.at
  obtain ⟨t1, t2, t3, t4, t5, t6, t7⟩ := q2.tok hP.2 q1
  obtain ⟨m1, hm1⟩ : ∃ m1, m1 = wai m (gB G + 281 + 3) q (nI out.length) := ⟨_, rfl⟩
  have hP1 : PW G D m1 (k :: r) out := by rw [hm1]; exact hP.wai ⟨by omega, by omega⟩
  have hO1 : Out (PQ G) m1 m := by rw [hm1]; exact Out.rf.wai (by unfold PQ; omega)
  have hT1 : TbE G q m1 m := by rw [hm1]; exact TbE.rf.wai
  have h3 : ai m1 (gB G + 281 + 3) q = nI out.length := by rw [hm1]; exact ai_eq
  refine tA q2.full hq q2.ha q2.hn t6 t7 t1 t4 q2.hs (by omega) (fun hk => ?_) (fun hk => ?_)
  · rw [← hm1]
    have e : pWhen (dN D) (dL D) (dH D) (k :: r) = .ok (k :: r, []) := if_neg hk
    refine tB00 (i := 0) hP1.full (tJ01 hP1.full hq hP1.hs (by omega) ?_)
    refine kO _ (k :: r) [] e hw (Nat.le_refl _) ?_ ?_ (hO1.wai (by unfold PQ; omega)) ((ai_na (by omega)).trans h3) ai_eq hT1.wai
    · show out.length + 0 + (r.length + 1) ≤ 501
      omega
    · show PW G D _ (k :: r) (out ++ [])
      rw [List.append_nil]
      exact hP1.wai ⟨by omega, by omega⟩
  · rw [← hm1]
    have eW : pWhen (dN D) (dL D) (dH D) (k :: r) = pBd (pTst (dN D) (dL D) (dH D) 502 r []) (fun x => if hdK x.1 = 58 then .ok (x.1.tail, x.2) else .error (1, hdS x.1)) := if_pos hk
    have hcl : out ++ clP [] [] = out := by rw [clP_nil, List.append_nil]
    refine tst_loop (out := out) (ts0 := r) hq hP1.2 (fun m' c p e hf s => kE _ c p (by rw [eW, e]; rfl) ((hf.pr hO1).wai ⟨by omega, by omega⟩)) (fun m' ts' gs' e hw' hc' hPz => ?_) r.length 0 k r [] [] 502 501 m1 (Nat.le_refl _) (by omega) (hw.tl (by omega)) (by omega) (by rw [clP_nil]; show out.length + 0 + r.length ≤ 500; omega) (by omega) (by omega) pTst_s (by rw [hcl]; exact hP1.1)
    obtain ⟨k', r', rfl⟩ := hw'.cs
    rw [List.length_cons] at hc'
    obtain ⟨hP2, hO2⟩ := hP1.re hPz
    have hl : (out ++ clC gs').length = out.length + (clC gs').length := List.length_append
    refine tJ11 hP2.full hq hP2.hs (by omega) ?_
    have hP3 := hP2.wai (j := 4) (k := q) (x := nI (out ++ clC gs').length) ⟨by omega, by omega⟩
    have hO3 : Out (PQ G) (wai m' (gB G + 281 + 4) q (nI (out ++ clC gs').length)) m := (hO2.tr hO1).wai (by unfold PQ; omega)
    have hT3 : TbE G q (wai m' (gB G + 281 + 4) q (nI (out ++ clC gs').length)) m := ((oTbe hPz.oo).tr hT1).wai
    have h33 : ai (wai m' (gB G + 281 + 4) q (nI (out ++ clC gs').length)) (gB G + 281 + 3) q = nI out.length := (ai_na (by omega)).trans ((oTab hPz.oo (by omega) (by omega) q).trans h3)
    refine C_tk (d := d + 77) (w := 58) hP3.2 hP3.1 (by omega) (by decide) (fun e58 m4 hP4 => tK1 hP4.full ?_) (fun e58 m4 hf => tK0 hf.full (kE m4 1 k'.2.1 ?_ (hf.pr hO3)))
    · obtain ⟨hP5, hO5⟩ := hP3.re hP4
      refine kO m4 r' gs' ?_ (hw'.tl (by omega)) ?_ (by omega) hP5 (hO5.tr hO3) ((oTab hP4.oo (by omega) (by omega) q).trans h33) ((oTab hP4.oo (by omega) (by omega) q).trans (ai_eq.trans (congrArg nI hl))) ((oTbe hP4.oo).tr hT3)
      · rw [eW, e]
        exact if_pos e58
      · have := pTst_ok 502 (r.length + 1) r [] (k' :: r', gs') ⟨hw.tl (by omega), fun x hx => ?_, by omega⟩ (fun g hg => absurd hg List.not_mem_nil) e
        · have h9 := this.1.2.2
          rw [List.length_cons] at h9
          omega
        · have hd : (cT (m, D)).drop a = k :: r := by
            obtain ⟨⟨a', g1, g2⟩, -⟩ := hP.1
            have ea : a' = a := by
              have h7 := g2.ha.symm.trans q2.ha
              have l1 : a' < (cT (m, D)).length := by
                by_cases z : a' < (cT (m, D)).length
                · exact z
                · rw [List.drop_eq_nil_of_le (by omega)] at g1
                  cases g1
              exact neq h7 (by omega) (by omega)
            rw [← ea]
            exact g1
          have hx2 : x ∈ (cT (m, D)).drop a := by rw [hd]; exact List.mem_cons_of_mem _ hx
          have := (hP.2.2.2.1 x (List.mem_of_mem_drop hx2)).2
          omega
    · rw [eW, e]
      exact if_neg e58
theorem C_act2 (hq : q < 12) (hP : PW G D m ts out) (hw : Wf ts) (hcap : out.length + ts.length ≤ 501)
    (kE : ∀ m' c p, pAct (dN D) (dL D) (dH D) ts = .error (c, p) → PR G m (dLn D) m' c p → Q (some (.int 0)) m')
    (kO : ∀ m' ts' ac v sm, pAct (dN D) (dL D) (dH D) ts = .ok (ts', (ac, v, sm)) → Wf ts' → ts'.length < ts.length → out.length + sm.length + ts'.length ≤ 501 → PW G D m' ts' (out ++ sm) → Out (PQ G) m' m → ai m' (gB G + 281 + 3) q = ai m (gB G + 281 + 3) q → ai m' (gB G + 281 + 4) q = ai m (gB G + 281 + 4) q → ai m' (gB G + 281 + 6) q = nI (acC ac) → ai m' (gB G + 281 + 7) q = nI v → ai m' (gB G + 281 + 5) q = nI (out.length + sm.length) → TbE G q m' m → Q (some (.int 1)) m') :
    WPM G (d + 80) (0, 0) μX7_readAction [.ref (gB G + 279), .int (nI q)] m Q := by
  obtain ⟨k, r, rfl⟩ := hw.cs
  rw [List.length_cons] at hcap kO
  obtain ⟨a, q1, q2, q3⟩ := hP.1.at
  obtain ⟨t1, t2, t3, t4, t5, t6, t7⟩ := q2.tok hP.2 q1
  have hO0 : Out (PQ G) m m := Out.rf
  by_cases hk : 212 ≤ k.1 ∧ k.1 ≤ 214
  · have hwr := hw.tl (show 1 < k.1 by omega)
    obtain ⟨k1, r1, rfl⟩ := hwr.cs
    rw [List.length_cons] at hcap kO
    have eA : pAct (dN D) (dL D) (dH D) (k :: k1 :: r1) = if k1.1 = 200 then (if k1.2.2 < ctF (dN D) (dL D) (dH D) k.1 then pAct2 (dN D) (dL D) (dH D) k.1 k1.2.2 r1 else .error (2, k1.2.1)) else .error (1, k1.2.1) := if_pos hk
    by_cases e212 : k.1 = 212
    · have cc : cNh (m, D) ≤ 12 := hP.2.2.2.2.2.2
      refine aA212 q2.full hq q2.ha q2.hn t6 t7 (t1.trans (congrArg nI e212)) q2.2.2.2.2.2.2.2.2.2.1 (C_tn (d := d + 77) hP.2 q3 (by omega) (by omega) (fun f1 f2 m1 h1 hv => ?_) (fun f1 f2 m1 h1 _ => aB2120 h1.full (kE m1 2 k1.2.1 ?_ (h1.pr hO0))) (fun f1 m1 h1 _ => aB2120 h1.full (kE m1 1 k1.2.1 ?_ (h1.pr hO0))))
      · have eB : pAct (dN D) (dL D) (dH D) (k :: k1 :: r1) = pAct2 (dN D) (dL D) (dH D) 212 k1.2.2 r1 := by
          rw [eA, if_pos f1, e212]
          exact if_pos f2
        obtain ⟨k2, r2, rfl⟩ := (hwr.tl (show 1 < k1.1 by omega)).cs
        rw [List.length_cons] at hcap kO
        obtain ⟨hP1, hO1⟩ := hP.re h1
        obtain ⟨b, p1, p2, p3⟩ := hP1.1.at
        obtain ⟨u1, u2, u3, u4, u5, u6, u7⟩ := p2.tok hP1.2 p1
        refine aB2121 p2.full hq p2.ha p2.hn u6 u7 u1 u4 hv ?_
        have hP2 := (hP1.wai (j := 7) (k := q) (x := nI k1.2.2) ⟨by omega, by omega⟩).wai (j := 6) (k := q) (x := nI k2.1) ⟨by omega, by omega⟩
        have hO2 : Out (PQ G) (wai (wai m1 (gB G + 281 + 7) q (nI k1.2.2)) (gB G + 281 + 6) q (nI k2.1)) m := (hO1.wai (by unfold PQ; omega)).wai (by unfold PQ; omega)
        have hT2 : TbE G q (wai (wai m1 (gB G + 281 + 7) q (nI k1.2.2)) (gB G + 281 + 6) q (nI k2.1)) m := (oTbe h1.oo).wai.wai
        refine C_tw (d := d + 77) (x := 215) (y := 217) hP2.2 hP2.1 (by omega) (by decide) (by decide) (fun w1 w2 m3 hP3 => ?_) (fun w1 m3 hf => ?_)
        · obtain ⟨hP4, hO4⟩ := hP2.re hP3
          refine aC2121 hP4.full hq hP4.hs (by omega) (kO _ r2 (acN k2.1) k1.2.2 [] ?_ ((hwr.tl (show 1 < k1.1 by omega)).tl (by omega)) (by omega) (by show out.length + 0 + r2.length ≤ 501; omega) ?_ ((hO4.tr hO2).wai (by unfold PQ; omega)) ?_ ?_ ?_ ?_ ai_eq ((oTbe hP3.oo).tr hT2).wai)
          · rw [eB]
            exact (if_pos rfl).trans (if_pos ⟨w1, w2⟩)
          · rw [List.append_nil]
            exact hP4.wai ⟨by omega, by omega⟩
          · exact (ai_na (by omega)).trans ((oTab hP3.oo (by omega) (by omega) q).trans ((ai_na (by omega)).trans ((ai_na (by omega)).trans (oTab h1.oo (by omega) (by omega) q))))
          · exact (ai_na (by omega)).trans ((oTab hP3.oo (by omega) (by omega) q).trans ((ai_na (by omega)).trans ((ai_na (by omega)).trans (oTab h1.oo (by omega) (by omega) q))))
          · have e6 : acC (acN k2.1) = k2.1 := by
              have h9 : k2.1 = 215 ∨ k2.1 = 216 ∨ k2.1 = 217 := by omega
              rcases h9 with e | e | e <;> rw [e] <;> rfl
            rw [e6]
            exact (ai_na (by omega)).trans ((oTab hP3.oo (by omega) (by omega) q).trans ai_eq)
          · exact (ai_na (by omega)).trans ((oTab hP3.oo (by omega) (by omega) q).trans ((ai_na (by omega)).trans ai_eq))
        · have hf' := hf
          obtain ⟨b', sz, g1, g2, g3⟩ := hf
          refine aC2120 hf'.full hq g3.hs g2 (kE _ 1 k2.2.1 ?_ ((hf'.pr hO2).wai ⟨by omega, by omega⟩))
          rw [eB]
          exact (if_pos rfl).trans (if_neg w1)
      · rw [eA, if_pos f1, e212]
        exact if_neg f2
      · rw [eA, if_neg f1]
    by_cases e213 : k.1 = 213
    · have cc : cNl (m, D) ≤ 12 := hP.2.2.2.2.2.1
      refine aA213 q2.full hq q2.ha q2.hn t6 t7 (t1.trans (congrArg nI e213)) q2.2.2.2.2.2.2.2.2.1 (C_tn (d := d + 77) hP.2 q3 (by omega) (by omega) (fun f1 f2 m1 h1 hv => ?_) (fun f1 f2 m1 h1 _ => aB2130 h1.full (kE m1 2 k1.2.1 ?_ (h1.pr hO0))) (fun f1 m1 h1 _ => aB2130 h1.full (kE m1 1 k1.2.1 ?_ (h1.pr hO0))))
      · have eB : pAct (dN D) (dL D) (dH D) (k :: k1 :: r1) = pAct2 (dN D) (dL D) (dH D) 213 k1.2.2 r1 := by
          rw [eA, if_pos f1, e213]
          exact if_pos f2
        obtain ⟨k2, r2, rfl⟩ := (hwr.tl (show 1 < k1.1 by omega)).cs
        rw [List.length_cons] at hcap kO
        obtain ⟨hP1, hO1⟩ := hP.re h1
        obtain ⟨b, p1, p2, p3⟩ := hP1.1.at
        obtain ⟨u1, u2, u3, u4, u5, u6, u7⟩ := p2.tok hP1.2 p1
        refine aB2131 p2.full hq p2.ha p2.hn u6 u7 u1 u4 hv ?_
        have hP2 := (hP1.wai (j := 7) (k := q) (x := nI k1.2.2) ⟨by omega, by omega⟩).wai (j := 6) (k := q) (x := nI k2.1) ⟨by omega, by omega⟩
        have hO2 : Out (PQ G) (wai (wai m1 (gB G + 281 + 7) q (nI k1.2.2)) (gB G + 281 + 6) q (nI k2.1)) m := (hO1.wai (by unfold PQ; omega)).wai (by unfold PQ; omega)
        have hT2 : TbE G q (wai (wai m1 (gB G + 281 + 7) q (nI k1.2.2)) (gB G + 281 + 6) q (nI k2.1)) m := (oTbe h1.oo).wai.wai
        refine C_tw (d := d + 77) (x := 218) (y := 219) hP2.2 hP2.1 (by omega) (by decide) (by decide) (fun w1 w2 m3 hP3 => ?_) (fun w1 m3 hf => ?_)
        · obtain ⟨hP4, hO4⟩ := hP2.re hP3
          refine aC2131 hP4.full hq hP4.hs (by omega) (kO _ r2 (acN k2.1) k1.2.2 [] ?_ ((hwr.tl (show 1 < k1.1 by omega)).tl (by omega)) (by omega) (by show out.length + 0 + r2.length ≤ 501; omega) ?_ ((hO4.tr hO2).wai (by unfold PQ; omega)) ?_ ?_ ?_ ?_ ai_eq ((oTbe hP3.oo).tr hT2).wai)
          · rw [eB]
            exact (if_neg (by decide)).trans ((if_pos rfl).trans (if_pos ⟨w1, w2⟩))
          · rw [List.append_nil]
            exact hP4.wai ⟨by omega, by omega⟩
          · exact (ai_na (by omega)).trans ((oTab hP3.oo (by omega) (by omega) q).trans ((ai_na (by omega)).trans ((ai_na (by omega)).trans (oTab h1.oo (by omega) (by omega) q))))
          · exact (ai_na (by omega)).trans ((oTab hP3.oo (by omega) (by omega) q).trans ((ai_na (by omega)).trans ((ai_na (by omega)).trans (oTab h1.oo (by omega) (by omega) q))))
          · have e6 : acC (acN k2.1) = k2.1 := by
              have h9 : k2.1 = 218 ∨ k2.1 = 219 := by omega
              rcases h9 with e | e <;> rw [e] <;> rfl
            rw [e6]
            exact (ai_na (by omega)).trans ((oTab hP3.oo (by omega) (by omega) q).trans ai_eq)
          · exact (ai_na (by omega)).trans ((oTab hP3.oo (by omega) (by omega) q).trans ((ai_na (by omega)).trans ai_eq))
        · have hf' := hf
          obtain ⟨b', sz, g1, g2, g3⟩ := hf
          refine aC2130 hf'.full hq g3.hs g2 (kE _ 1 k2.2.1 ?_ ((hf'.pr hO2).wai ⟨by omega, by omega⟩))
          rw [eB]
          exact (if_neg (by decide)).trans ((if_pos rfl).trans (if_neg w1))
      · rw [eA, if_pos f1, e213]
        exact if_neg f2
      · rw [eA, if_neg f1]
    · have e214 : k.1 = 214 := by omega
      have cc : cNn (m, D) ≤ 12 := hP.2.2.2.2.1
      refine aA214 q2.full hq q2.ha q2.hn t6 t7 (t1.trans (congrArg nI e214)) q2.2.2.2.2.2.2.2.1 (C_tn (d := d + 77) hP.2 q3 (by omega) (by omega) (fun f1 f2 m1 h1 hv => ?_) (fun f1 f2 m1 h1 _ => aB2140 h1.full (kE m1 2 k1.2.1 ?_ (h1.pr hO0))) (fun f1 m1 h1 _ => aB2140 h1.full (kE m1 1 k1.2.1 ?_ (h1.pr hO0))))
      · have eB : pAct (dN D) (dL D) (dH D) (k :: k1 :: r1) = pAct2 (dN D) (dL D) (dH D) 214 k1.2.2 r1 := by
          rw [eA, if_pos f1, e214]
          exact if_pos f2
        obtain ⟨k2, r2, rfl⟩ := (hwr.tl (show 1 < k1.1 by omega)).cs
        rw [List.length_cons] at hcap kO
        have eC : pAct (dN D) (dL D) (dH D) (k :: k1 :: k2 :: r2) = if k2.1 = 61 then pBd (run (dN D) (dL D) (dH D) r2 0 [] []) (fun r => .ok (r.1, (5, k1.2.2, r.2))) else .error (1, k2.2.1) := eB.trans ((if_neg (by decide)).trans (if_neg (by decide)))
        obtain ⟨hP1, hO1⟩ := hP.re h1
        refine aB2141 hP1.full hq hv ?_
        have hP2 := (hP1.wai (j := 7) (k := q) (x := nI k1.2.2) ⟨by omega, by omega⟩).wai (j := 6) (k := q) (x := (214 : Int32)) ⟨by omega, by omega⟩
        have hO2 : Out (PQ G) (wai (wai m1 (gB G + 281 + 7) q (nI k1.2.2)) (gB G + 281 + 6) q (214 : Int32)) m := (hO1.wai (by unfold PQ; omega)).wai (by unfold PQ; omega)
        have hT2 : TbE G q (wai (wai m1 (gB G + 281 + 7) q (nI k1.2.2)) (gB G + 281 + 6) q (214 : Int32)) m := (oTbe h1.oo).wai.wai
        refine C_tk (d := d + 77) (w := 61) hP2.2 hP2.1 (by omega) (by decide) (fun w1 m3 hP3 => ?_) (fun w1 m3 hf => ?_)
        · obtain ⟨hP4, hO4⟩ := hP2.re hP3
          have hw2 := (hwr.tl (show 1 < k1.1 by omega)).tl (show 1 < k2.1 by omega)
          refine aD1 hP4.full (C_sum0 (d := d + 13) hP4.2 hw2 (by omega) hP4.1 (fun m5 c p e hf => ?_) (fun m5 ts5 sm e hw5 hl5 hc5 hP5 => ?_))
          · have hf' := hf
            obtain ⟨b', sz, g1, g2, g3⟩ := hf
            refine aE0 hf'.full hq g3.hs g2 (kE _ c p ?_ ((hf'.pr (hO4.tr hO2)).wai ⟨by omega, by omega⟩))
            rw [eC, if_pos w1, show run (dN D) (dL D) (dH D) r2 0 [] [] = .error (c, p) from e]
            rfl
          · obtain ⟨hP6, hO6⟩ := hP4.re hP5
            have hl : (out ++ sm).length = out.length + sm.length := List.length_append
            have hpos : 0 < ts5.length := by
              obtain ⟨z1, z2, rfl⟩ := hw5.cs
              exact Nat.succ_pos _
            refine aE1 hP6.full hq hP6.hs (by omega) (kO _ ts5 5 k1.2.2 sm ?_ hw5 (by omega) hc5 (hP6.wai ⟨by omega, by omega⟩) ((hO6.tr (hO4.tr hO2)).wai (by unfold PQ; omega)) ?_ ?_ ?_ ?_ (ai_eq.trans (congrArg nI hl)) ((oTbe hP5.oo).tr ((oTbe hP3.oo).tr hT2)).wai)
            · rw [eC, if_pos w1, show run (dN D) (dL D) (dH D) r2 0 [] [] = .ok (ts5, sm) from e]
              rfl
            · exact (ai_na (by omega)).trans ((oTab hP5.oo (by omega) (by omega) q).trans ((oTab hP3.oo (by omega) (by omega) q).trans ((ai_na (by omega)).trans ((ai_na (by omega)).trans (oTab h1.oo (by omega) (by omega) q)))))
            · exact (ai_na (by omega)).trans ((oTab hP5.oo (by omega) (by omega) q).trans ((oTab hP3.oo (by omega) (by omega) q).trans ((ai_na (by omega)).trans ((ai_na (by omega)).trans (oTab h1.oo (by omega) (by omega) q)))))
            · exact (ai_na (by omega)).trans ((oTab hP5.oo (by omega) (by omega) q).trans ((oTab hP3.oo (by omega) (by omega) q).trans ai_eq))
            · exact (ai_na (by omega)).trans ((oTab hP5.oo (by omega) (by omega) q).trans ((oTab hP3.oo (by omega) (by omega) q).trans ((ai_na (by omega)).trans ai_eq)))
        · have hf' := hf
          obtain ⟨b', sz, g1, g2, g3⟩ := hf
          refine aD0 hf'.full hq g3.hs g2 (kE _ 1 k2.2.1 ?_ ((hf'.pr hO2).wai ⟨by omega, by omega⟩))
          rw [eC, if_neg w1]
      · rw [eA, if_pos f1, e214]
        exact if_neg f2
      · rw [eA, if_neg f1]
  · refine aAx q2.full hq q2.ha q2.hn t6 t7 t1 t4 t2 (by omega) (by omega) (by omega) (kE _ 1 k.2.1 (if_neg hk) ((q2.pf t6 (by omega) _ _).pr hO0))
end CRUL2
