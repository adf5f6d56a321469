section CTST2
variable {G : Cx} {D : Pd} {d q : Nat} {m : Mm} {Q : Option Value → Mm → Prop}
abbrev dN (D : Pd) : Nat := D.2.2.1
abbrev dL (D : Pd) : Nat := D.2.2.2.1
abbrev dH (D : Pd) : Nat := D.2.2.2.2.1
def pKn (D : Pd) (fk : Nat) (gs : List (List (List Cd))) (x : List Tk × List (List Cd)) : Except Er (List Tk × List (List (List Cd))) := if hdK x.1 = 202 then pTst (dN D) (dL D) (dH D) fk x.1.tail (gs ++ [x.2]) else .ok (x.1, gs ++ [x.2])
theorem pBoth_s {nn nl nh f : Nat} {ts : List Tk} {g : List (List Cd)} : pBoth nn nl nh (f + 1) ts g = pBd (pCmp nn nl nh ts) (fun r => if hdK r.1 = 203 then pBoth nn nl nh f r.1.tail (g ++ [r.2]) else .ok (r.1, g ++ [r.2])) := rfl
theorem tst_loop {out : List Cd} {ts0 : List Tk} (hq : q < 12) (hG : PG G (m, D))
    (hE : ∀ m' c p, pTst (dN D) (dL D) (dH D) 502 ts0 [] = .error (c, p) → PF G (m, D) m' c p → ∀ s, Q (some (.int 0)) (wai m' (gB G + 281 + 4) q s))
    (hO : ∀ m' ts' gs', pTst (dN D) (dL D) (dH D) 502 ts0 [] = .ok (ts', gs') → Wf ts' → out.length + (clC gs').length + ts'.length ≤ 500 → PZ G (m, D) m' ts' (out ++ clC gs') → WP G (d + 80) (0, 0) μX7_readTest 212 [.ref (gB G + 279), .int (nI q), .int (1 : Int32), .int (1 : Int32), lvU, lvU, lvU, lvU] [] m' Q) :
    ∀ f i k r gs g fb fk m1, r.length ≤ f → 1 < k.1 → Wf r → i + r.length ≤ 500 → out.length + (clP gs g).length + r.length ≤ 500 → r.length ≤ fb → r.length ≤ fk →
      pTst (dN D) (dL D) (dH D) 502 ts0 [] = pBd (pBoth (dN D) (dL D) (dH D) fb r g) (pKn D fk gs) →
      PZ G (m, D) m1 (k :: r) (out ++ clP gs g) → WP G (d + 80) (0, 0) μX7_readTest 40 [.ref (gB G + 279), .int (nI q), .int (1 : Int32), .int (1 : Int32), .int (1 : Int32), .int (nI i), lvU, lvU] [] m1 Q := by
  intro f
  induction f with
  | zero =>
    intro i k r gs g fb fk m1 h1 _ h2
    obtain ⟨k1, r1, rfl⟩ := h2.cs
    simp at h1
  | succ f ih =>
    intro i k r gs g fb fk m1 h1 hk1 h2 h3 h4 h5 h6 hX hP
    obtain ⟨k1, r1, rfl⟩ := h2.cs
    rw [List.length_cons] at h1 h3 h4 h5 h6
    obtain ⟨a, q1, q2, q3, q4, q5⟩ := hP.at2
    obtain ⟨t1, t2, t3, t4, t5, t6, t7⟩ := q3.tok hG q2
    have hi : i < 500 := by omega
    obtain ⟨fb', rfl⟩ : ∃ z, fb = z + 1 := ⟨fb - 1, by omega⟩
    obtain ⟨fk', rfl⟩ : ∃ z, fk = z + 1 := ⟨fk - 1, by omega⟩
    have hEr : ∀ c p, pCmp (dN D) (dL D) (dH D) (k1 :: r1) = .error (c, p) → pTst (dN D) (dL D) (dH D) 502 ts0 [] = .error (c, p) := fun c p e => by
      rw [hX]
      unfold pBoth
      rw [e]
      rfl
    have hK : ∀ c p, pCmp (dN D) (dL D) (dH D) (k1 :: r1) = .error (c, p) → ∀ m', PF G (m, D) m' c p → ∀ s, Q (some (.int 0)) (wai m' (gB G + 281 + 4) q s) := fun c p e m' hf => hE m' c p (hEr c p e) hf
    -- behind a comparison
    have aft : ∀ (m5 : Mm) (ts3 : List Tk) (s : List Cd), pCmp (dN D) (dL D) (dH D) (k1 :: r1) = .ok (ts3, s) → Wf ts3 → s.length + ts3.length ≤ r1.length + 1 → 0 < s.length → PZ G (m, D) m5 ts3 ((out ++ clP gs g) ++ s) → WP G (d + 80) (0, 0) μX7_readTest 162 [.ref (gB G + 279), .int (nI q), .int (1 : Int32), .int (1 : Int32), lvU, .int (nI i), lvU, lvU] [] m5 Q := by
      intro m5 ts3 s e hw3 hl3 hs0 hP3
      obtain ⟨k3, r3, rfl⟩ := hw3.cs
      rw [List.length_cons] at hl3
      obtain ⟨b, p1, p2, p3⟩ := hP3.at
      obtain ⟨u1, u2, u3, u4, u5, u6, u7⟩ := p2.tok hG p1
      have hB : pTst (dN D) (dL D) (dH D) 502 ts0 [] = pBd (if k3.1 = 203 then pBoth (dN D) (dL D) (dH D) fb' r3 (g ++ [s]) else .ok (k3 :: r3, g ++ [s])) (pKn D (fk' + 1) gs) := by
        rw [hX, pBoth_s, e]
        rfl
      have hl0 : ((out ++ clP gs g) ++ s).length < 500 := by simp only [List.length_append]; omega
      refine tH1 p2.full p2.ha p2.hn u6 u7 u1 u4 hi (fun ek => ?_) (fun n1 n2 => ?_) (fun n1 ek => ?_)
      · refine C_em (y := 0) hP3 hl0 (fun m6 hP6 => tI1 hP6.full hi ?_)
        rw [ek, List.append_assoc, List.append_assoc, ← List.append_assoc (clP gs g), ← clP_and] at hP6
        rw [if_pos ek] at hB
        refine ih (i + 1) k3 r3 gs (g ++ [s]) fb' (fk' + 1) m6 (by omega) (by omega) (hw3.tl (by omega)) (by omega) ?_ (by omega) (by omega) hB hP6
        rw [clP_and]
        simp only [List.length_append, List.length_cons, List.length_nil]
        omega
      · rw [if_neg n1] at hB
        have hB2 : pTst (dN D) (dL D) (dH D) 502 ts0 [] = .ok (k3 :: r3, gs ++ [g ++ [s]]) := by
          rw [hB]
          show (if hdK (k3 :: r3) = 202 then _ else _) = _
          exact if_neg n2
        rw [List.append_assoc, ← clP_end] at hP3
        refine tB01 p2.full (hO m5 _ _ hB2 hw3 ?_ hP3)
        rw [clP_end]
        simp only [List.length_append, List.length_cons]
        omega
      · refine C_em (y := 0) hP3 hl0 (fun m6 hP6 => tI1 hP6.full hi ?_)
        rw [ek, List.append_assoc, List.append_assoc, ← List.append_assoc (clP gs g), ← clP_or] at hP6
        rw [if_neg n1] at hB
        have hB2 : pTst (dN D) (dL D) (dH D) 502 ts0 [] = pBd (pBoth (dN D) (dL D) (dH D) 502 r3 []) (pKn D fk' (gs ++ [g ++ [s]])) := by
          rw [hB]
          show (if hdK (k3 :: r3) = 202 then pTst _ _ _ (fk' + 1) r3 _ else _) = _
          rw [if_pos (show hdK (k3 :: r3) = 202 from ek)]
          rfl
        refine ih (i + 1) k3 r3 (gs ++ [g ++ [s]]) [] 502 fk' m6 (by omega) (by omega) (hw3.tl (by omega)) (by omega) ?_ (by omega) (by omega) hB2 hP6
        rw [clP_or]
        simp only [List.length_append, List.length_cons, List.length_nil]
        omega
    -- the comparison
    have cmp : ∀ (dn : Bool) (r' : List Tk) (m2 : Mm), Wf r' → r'.length + (ngC dn).length ≤ r1.length + 1 → PZ G (m, D) m2 r' (out ++ clP gs g) → pCmp (dN D) (dL D) (dH D) (k1 :: r1) = pBd (run (dN D) (dL D) (dH D) r' 0 [] []) (pCmp1 (dN D) (dL D) (dH D) dn) → WPM G (d + 13 + 66) (0, 0) μX7_readSum [.ref (gB G + 279), .int (0 : Int32)] m2 (fun r' m' => WP G (d + 80) (0, 0) μX7_readTest 104 [.ref (gB G + 279), .int (nI q), .int (1 : Int32), lvU, lvU, .int (nI i), .int (if dn = true then 1 else 0 : Int32), lvU] (r'.toList ++ []) m' Q) := by
      intro dn r' m2 hw' hl' hP' hC
      have hf2 : ∀ c p, pCmp (dN D) (dL D) (dH D) (k1 :: r1) = .error (c, p) → ∀ (m3 : Mm) (x : Int32), PF G (m, D) m3 c p → WPM G (d + 79) (0, 0) μX8_emitCode [.ref (gB G + 281), .int x, .int (0 : Int32)] m3 (fun r' m' => WP G (d + 80) (0, 0) μX7_readTest 146 [.ref (gB G + 279), .int (nI q), .int (1 : Int32), .int (0 : Int32), lvU, .int (nI i), .int (if dn = true then 1 else 0 : Int32), lvU] (r'.toList ++ []) m' Q) :=
        fun c p e m3 x hf => C_emF hf (fun m4 h4 => tst_fail2 hq hG (hK c p e) dn m4 i h4 hi)
      have hnl : (ngC dn).length ≤ 1 := by cases dn <;> decide
      refine C_sum0 hG hw' (by simp only [List.length_append]; omega) hP' (fun m' c p e hf => ?_) (fun m' ts2 a' e hw2 hl2 hc2 hP2 => ?_)
      · have e' : pCmp (dN D) (dL D) (dH D) (k1 :: r1) = .error (c, p) := by rw [hC]; rw [show run (dN D) (dL D) (dH D) r' 0 [] [] = .error (c, p) from e]; rfl
        have hf' := hf
        obtain ⟨b, sz, g1, g2, g3⟩ := hf
        obtain ⟨u1, u2, u3, u4, u5, u6, u7⟩ := g3.tok hG (k := (cT (m, D))[b]) (List.getElem?_eq_getElem g1)
        have h2' := hf2 c p e' m' (nI ((cT (m, D))[b]).1) hf'
        cases dn with
        | false => exact tC00 g3.full g3.ha g3.hn g1 u7 u1 u4 h2'
        | true => exact tC10 g3.full g3.ha g3.hn g1 u7 u1 u4 h2'
      · obtain ⟨k2, r2, rfl⟩ := hw2.cs
        have el := run_len _ _ _ _ _ (show run (dN D) (dL D) (dH D) r' 0 [] [] = .ok (k2 :: r2, a') from e)
        simp only [List.length_cons, List.length_nil] at el hl2
        obtain ⟨b, p1, p2, p3⟩ := hP2.at
        obtain ⟨u1, u2, u3, u4, u5, u6, u7⟩ := p2.tok hG p1
        have hC2 : pCmp (dN D) (dL D) (dH D) (k1 :: r1) = pCmp1 (dN D) (dL D) (dH D) dn (k2 :: r2, a') := by rw [hC]; rw [show run (dN D) (dL D) (dH D) r' 0 [] [] = .ok (k2 :: r2, a') from e]; rfl
        have tcw : WPM G (d + 77 + 2) (0, 0) μX7_takeComparison [.ref (gB G + 279)] m' (fun r' m' => WP G (d + 80) (0, 0) μX7_readTest 119 [.ref (gB G + 279), .int (nI q), .int (1 : Int32), lvU, lvU, .int (nI i), .int (if dn = true then 1 else 0 : Int32), .int (nI k2.1)] (r'.toList ++ []) m' Q) := by
          refine C_tc hG hP2 (by simp only [List.length_append]; omega) (fun hc m3 hP3 => ?_) (fun hc m3 hf => ?_)
          · have hwr := hw2.tl (show 1 < k2.1 by unfold cmK at hc; omega)
            have hC3 : pCmp (dN D) (dL D) (dH D) (k1 :: r1) = pBd (run (dN D) (dL D) (dH D) r2 0 [] []) (pCmp2 (dN D) (dL D) (dH D) dn k2.1 a') := by
              rw [hC2]
              exact if_pos hc
            have sm : WPM G (d + 13 + 66) (0, 0) μX7_readSum [.ref (gB G + 279), .int (0 : Int32)] m3 (fun r' m' => WP G (d + 80) (0, 0) μX7_readTest 127 [.ref (gB G + 279), .int (nI q), .int (1 : Int32), lvU, lvU, .int (nI i), .int (if dn = true then 1 else 0 : Int32), .int (nI k2.1)] (r'.toList ++ []) m' Q) := by
              refine C_sum0 hG hwr (by simp only [List.length_append]; omega) hP3 (fun m4 c p e4 hf => ?_) (fun m4 ts3 b' e4 hw3 hl3 hc3 hP4 => ?_)
              · have e' : pCmp (dN D) (dL D) (dH D) (k1 :: r1) = .error (c, p) := by rw [hC3]; rw [show run (dN D) (dL D) (dH D) r2 0 [] [] = .error (c, p) from e4]; rfl
                have h2' := hf2 c p e' m4 (nI k2.1) hf
                cases dn with
                | false => exact tE00 hf.full h2'
                | true => exact tE10 hf.full h2'
              · have el4 := run_len _ _ _ _ _ (show run (dN D) (dL D) (dH D) r2 0 [] [] = .ok (ts3, b') from e4)
                simp only [List.length_nil] at el4
                have hpos : 0 < ts3.length := by
                  obtain ⟨z1, z2, rfl⟩ := hw3.cs
                  exact Nat.succ_pos _
                have hC4 : pCmp (dN D) (dL D) (dH D) (k1 :: r1) = .ok (ts3, a' ++ (b' ++ ((k2.1, 0) :: ngC dn))) := by rw [hC3]; rw [show run (dN D) (dL D) (dH D) r2 0 [] [] = .ok (ts3, b') from e4]; rfl
                have em : WPM G (d + 79 + 0) (0, 0) μX8_emitCode [.ref (gB G + 281), .int (nI k2.1), .int (nI 0)] m4 (fun r' m' => WP G (d + 80) (0, 0) μX7_readTest 146 [.ref (gB G + 279), .int (nI q), .int (1 : Int32), .int (1 : Int32), lvU, .int (nI i), .int (if dn = true then 1 else 0 : Int32), lvU] (r'.toList ++ []) m' Q) := by
                  refine C_em hP4 (by simp only [List.length_append]; omega) (fun m5 hP5 => ?_)
                  cases dn with
                  | false =>
                    refine tF01 hP5.full (aft m5 ts3 _ hC4 hw3 ?_ (by simp only [List.length_append, List.length_cons]; omega) ?_)
                    · simp only [List.length_append, List.length_cons]
                      omega
                    · rw [List.append_assoc, List.append_assoc] at hP5
                      exact hP5
                  | true =>
                    refine tF11 hP5.full (C_em (x := 204) (y := 0) hP5 ?_ (fun m6 hP6 => aft m6 ts3 _ hC4 hw3 ?_ (by simp only [List.length_append, List.length_cons]; omega) ?_))
                    · simp only [List.length_append, List.length_cons, List.length_nil]
                      omega
                    · simp only [List.length_append, List.length_cons]
                      omega
                    · rw [List.append_assoc, List.append_assoc, List.append_assoc] at hP6
                      exact hP6
                cases dn with
                | false => exact tE01 hP4.full em
                | true => exact tE11 hP4.full em
            cases dn with
            | false => exact tD01 hP3.full sm
            | true => exact tD11 hP3.full sm
          · have e' : pCmp (dN D) (dL D) (dH D) (k1 :: r1) = .error (1, k2.2.1) := by rw [hC2]; exact if_neg hc
            have h2' := hf2 1 k2.2.1 e' m3 (nI k2.1) hf
            cases dn with
            | false => exact tD00 hf.full h2'
            | true => exact tD10 hf.full h2'
        cases dn with
        | false => exact tC01 p2.full p2.ha p2.hn u6 u7 u1 u4 tcw
        | true => exact tC11 p2.full p2.ha p2.hn u6 u7 u1 u4 tcw
    refine tB1 q3.full q3.ha q3.hn t6 t7 t1 t4 hi (fun hn => ?_) (fun hn => ?_)
    · refine cmp false (k1 :: r1) _ h2 (by rw [List.length_cons]; exact Nat.le_refl _) q4 ?_
      unfold pCmp
      rw [if_neg (show ¬ hdK (k1 :: r1) = 204 from hn), decide_eq_false (show ¬ hdK (k1 :: r1) = 204 from hn)]
    · refine cmp true r1 _ (h2.tl (by omega)) (Nat.le_refl _) q5 ?_
      unfold pCmp
      rw [if_pos (show hdK (k1 :: r1) = 204 from hn), decide_eq_true (show hdK (k1 :: r1) = 204 from hn)]
      rfl
end CTST2
