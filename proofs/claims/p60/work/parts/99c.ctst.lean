/-! LENGTHS -/
theorem ef_len : ∀ w : List Nat, (efO w).length + (efW w).length = w.length
  | [] => rfl
  | k :: w => by
    show (if k = 220 then (220, 0) :: efO w else []).length + (if k = 220 then efW w else k :: w).length = w.length + 1
    have := ef_len w
    split
    · rw [List.length_cons]; omega
    · rw [List.length_cons]; show 0 + _ = _; omega
theorem pp_len (r : Nat) : ∀ w : List Nat, (ppO r w).length + (ppW r w).length = w.length
  | [] => rfl
  | k :: w => by
    show (if r ≤ rkW k then (k, 0) :: ppO r w else []).length + (if r ≤ rkW k then ppW r w else k :: w).length = w.length + 1
    have := pp_len r w
    split
    · rw [List.length_cons]; omega
    · rw [List.length_cons]; show 0 + _ = _; omega
theorem run_len {nn nl nh : Nat} : ∀ (ts : List Tk) (md : Nat) (w : List Nat) (out : List Cd) (r : List Tk × List Cd), run nn nl nh ts md w out = .ok r → r.2.length + r.1.length ≤ out.length + w.length + ts.length
  | [], _, _, _, _, e => by cases e
  | k :: ts, md, w, out, r, e => by
    have go : ∀ md' w' out', out'.length + w'.length ≤ out.length + w.length + 1 → run nn nl nh ts md' w' out' = .ok r → r.2.length + r.1.length ≤ out.length + w.length + (k :: ts).length := fun md' w' out' h e' => by
      have := run_len ts md' w' out' r e'
      rw [List.length_cons]
      omega
    have ef := ef_len w
    have p1 := pp_len 1 w
    have pk := pp_len (rkW k.1) w
    have et := ef_len (ppW 1 w).tail
    have tl : (ppW 1 w).tail.length ≤ (ppW 1 w).length := by rw [List.length_tail]; omega
    rw [run] at e
    split at e
    · split at e
      · split at e
        · exact go _ _ _ (by rw [List.length_cons]; omega) e
        · cases e
      · split at e
        · split at e
          · exact go _ _ _ (by simp only [List.length_append, List.length_cons, List.length_nil]; omega) e
          · cases e
        · split at e
          · exact go _ _ _ (by omega) e
          · split at e
            · exact go _ _ _ (by simp only [List.length_append, List.length_cons, List.length_nil]; omega) e
            · cases e
    · split at e
      · split at e
        · exact go _ _ _ (by simp only [List.length_append, List.length_cons]; omega) e
        · split at e
          · exact go _ _ _ (by simp only [List.length_append]; omega) e
          · split at e
            · cases e
              simp only [List.length_append]
              omega
            · cases e
      · split at e
        · split at e
          · exact go _ _ _ (by simp only [List.length_append, List.length_cons, List.length_nil]; omega) e
          · cases e
        · cases e
/-! THE CLASS'S CODE OF A TEST, piece by piece -/
def clP (gs : List (List (List Cd))) (g : List (List Cd)) : List Cd := if g = [] then (if gs = [] then [] else clC gs ++ [(202, 0)]) else clC (gs ++ [g]) ++ [(203, 0)]
theorem clT_snoc (t : List (List Cd)) (s : List Cd) : clT (t ++ [s]) = clT t ++ (203, 0) :: s := by
  unfold clT
  rw [List.flatMap_append]
  show _ ++ ((203, 0) :: s ++ []) = _
  rw [List.append_nil]
theorem clG_snoc {g : List (List Cd)} (s : List Cd) (h : g ≠ []) : clG (g ++ [s]) = clG g ++ (203, 0) :: s := by
  cases g with
  | nil => exact absurd rfl h
  | cons x t =>
    show x ++ clT (t ++ [s]) = (x ++ clT t) ++ _
    rw [clT_snoc, List.append_assoc]
theorem clR_snoc (t : List (List (List Cd))) (g : List (List Cd)) : clR (t ++ [g]) = clR t ++ (202, 0) :: clG g := by
  unfold clR
  rw [List.flatMap_append]
  show _ ++ ((202, 0) :: clG g ++ []) = _
  rw [List.append_nil]
theorem clC_snoc {gs : List (List (List Cd))} (g : List (List Cd)) (h : gs ≠ []) : clC (gs ++ [g]) = clC gs ++ (202, 0) :: clG g := by
  cases gs with
  | nil => exact absurd rfl h
  | cons x t =>
    show clG x ++ clR (t ++ [g]) = (clG x ++ clR t) ++ _
    rw [clR_snoc, List.append_assoc]
theorem clC_ext (gs : List (List (List Cd))) {g : List (List Cd)} (s : List Cd) (h : g ≠ []) : clC (gs ++ [g ++ [s]]) = clC (gs ++ [g]) ++ (203, 0) :: s := by
  by_cases hg : gs = []
  · subst hg
    show clG (g ++ [s]) ++ [] = (clG g ++ []) ++ _
    rw [List.append_nil, List.append_nil, clG_snoc s h]
  · rw [clC_snoc _ hg, clC_snoc _ hg, clG_snoc s h, List.append_assoc]
    rfl
theorem clP_end (gs : List (List (List Cd))) (g : List (List Cd)) (s : List Cd) : clC (gs ++ [g ++ [s]]) = clP gs g ++ s := by
  unfold clP
  by_cases hg : g = []
  · subst hg
    rw [if_pos rfl]
    by_cases hs : gs = []
    · subst hs
      rw [if_pos rfl]
      show (s ++ []) ++ [] = _
      rw [List.append_nil, List.append_nil]
      rfl
    · rw [if_neg hs, clC_snoc _ hs, List.append_assoc]
      show _ ++ (202, 0) :: (s ++ []) = _
      rw [List.append_nil]
      rfl
  · rw [if_neg hg, clC_ext gs s hg, List.append_assoc]
    rfl
theorem clP_and (gs : List (List (List Cd))) (g : List (List Cd)) (s : List Cd) : clP gs (g ++ [s]) = (clP gs g ++ s) ++ [(203, 0)] := by
  rw [← clP_end]
  exact if_neg (by simp)
theorem clP_or (gs : List (List (List Cd))) (g : List (List Cd)) (s : List Cd) : clP (gs ++ [g ++ [s]]) [] = (clP gs g ++ s) ++ [(202, 0)] := by
  rw [← clP_end]
  exact (if_pos rfl).trans (if_neg (by simp))
/-! THE CLASS'S READER, rule by rule -/
def PQ (G : Cx) (a : Nat) : Prop := a = gB G + 279 ∨ (gB G + 281 ≤ a ∧ a < gB G + 289) ∨ a = gB G + 290 ∨ a = gB G + 291 ∨ a = gB G + 292
abbrev Pd : Type := List Tk × Nat × Nat × Nat × Nat × Nat
def PW (G : Cx) (D : Pd) (m : Mm) (ts : List Tk) (out : List Cd) : Prop := PZ G (m, D) m ts out ∧ PG G (m, D)
/-- refused, at the end -/
def PR (G : Cx) (m0 : Mm) (ln : Nat) (m : Mm) (c p : Nat) : Prop := Full G m ∧ Out (PQ G) m m0 ∧ fi m 701 (gB G + 279) = nI ln ∧ fi m 702 (gB G + 279) = nI c ∧ fi m 703 (gB G + 279) = nI p
section CTST
variable {G : Cx} {D : Pd} {d : Nat} {m m0 m1 : Mm} {Q : Option Value → Mm → Prop} {ts : List Tk} {out : List Cd}
theorem PE_PQ {a : Nat} (h : PE G a) : PQ G a := by unfold PE at h; unfold PQ; omega
theorem PG.mv (hG : PG G (m, D)) (hO : Out (PE G) m1 m) : PG G (m1, D) := by
  obtain ⟨h1, h2⟩ := hG
  refine ⟨fun i k hk => ?_, h2⟩
  obtain ⟨a1, a2, a3⟩ := h1 i k hk
  exact ⟨(hO.ai (by unfold PE; omega) i).trans a1, (hO.ai (by unfold PE; omega) i).trans a2, (hO.ai (by unfold PE; omega) i).trans a3⟩
theorem PZ.oo {C : Pc} (h : PZ G C m ts out) : Out (PE G) m (cM C) := by
  obtain ⟨⟨a, -, h⟩, -⟩ := h
  exact h.2.1
theorem PZ.base (hG : PG G (m, D)) (h : PZ G (m, D) m1 ts out) : PW G D m1 ts out := by
  have hO := h.oo
  obtain ⟨⟨a, h1, h2, h3, h4⟩, h5⟩ := h
  exact ⟨⟨⟨a, h1, h2, Out.rf, h4⟩, h5⟩, hG.mv hO⟩
theorem PF.base (hG : PG G (m, D)) {c p : Nat} (h : PF G (m, D) m1 c p) : PF G (m1, D) m1 c p ∧ PG G (m1, D) := by
  obtain ⟨a, sz, h1, h2, h3, h4, h5⟩ := h
  exact ⟨⟨a, sz, h1, h2, h3, Out.rf, h5⟩, hG.mv h4⟩
theorem PF.pr {C : Pc} {c p : Nat} (h : PF G C m1 c p) (hO : Out (PQ G) (cM C) m0) : PR G m0 (cL C) m1 c p := by
  obtain ⟨a, sz, h1, h2, h3, h4, h5, h6, h7, -⟩ := h
  exact ⟨h3, (h4.mono (fun a ha => PE_PQ ha)).tr hO, h5, h6, h7⟩
theorem PR.wai {ln c p j k : Nat} {x : Int32} (h : PR G m0 ln m c p) (hj : 3 ≤ j ∧ j < 8) : PR G m0 ln (wai m (gB G + 281 + j) k x) c p := by
  obtain ⟨h1, h2, h3, h4, h5⟩ := h
  exact ⟨Full_wai _ _ _ h1, h2.wai (by unfold PQ; omega), h3, h4, h5⟩
theorem PW.wai {j k : Nat} {x : Int32} (h : PW G D m ts out) (hj : 3 ≤ j ∧ j < 8) : PW G D (wai m (gB G + 281 + j) k x) ts out := by
  obtain ⟨⟨⟨a, h1, h2, h3, h4⟩, h5⟩, h6, h7⟩ := h
  refine ⟨⟨⟨a, h1, Full_wai _ _ _ h2, Out.rf, h4⟩, CodC_ai (m := m) (fun z _ _ => ⟨ai_na (by omega), ai_na (by omega)⟩) h5⟩, fun i k hk => ?_, h7⟩
  obtain ⟨a1, a2, a3⟩ := h6 i k hk
  exact ⟨(ai_na (by omega)).trans a1, (ai_na (by omega)).trans a2, (ai_na (by omega)).trans a3⟩
theorem PW.full (h : PW G D m ts out) : Full G m := h.1.full
theorem PW.hs (h : PW G D m ts out) : fi m 807 (gB G + 281) = nI out.length := by
  obtain ⟨⟨⟨a, h1, h2⟩, h3⟩, -⟩ := h
  exact h2.hs
/-- a failed test goes on to its end -/
theorem tst_fail {q i c p : Nat} {v : Option Value → Mm → Prop} (hq : q < 12) (hG : PG G (m, D)) (k : ∀ m', PF G (m, D) m' c p → ∀ s, Q (some (.int 0)) (wai m' (gB G + 281 + 4) q s)) :
    (∀ (m1 : Mm) (i : Nat), PF G (m, D) m1 c p → i < 500 → WP G (d + 80) (0, 0) μX7_readTest 162 [.ref (gB G + 279), .int (nI q), .int (1 : Int32), .int (0 : Int32), lvU, .int (nI i), lvU, lvU] [] m1 Q) := by
  intro m1 i hf hi
  have fin : ∀ m2, PF G (m, D) m2 c p → WP G (d + 80) (0, 0) μX7_readTest 212 [.ref (gB G + 279), .int (nI q), .int (1 : Int32), .int (0 : Int32), lvU, lvU, lvU, lvU] [] m2 Q := fun m2 h2 => by
    have h2' := h2
    obtain ⟨a, sz, g1, g2, g3⟩ := h2
    exact tJ10 h2'.full hq g3.hs g2 (k m2 h2' _)
  have hf' := hf
  obtain ⟨a, sz, g1, g2, g3⟩ := hf
  obtain ⟨t1, t2, t3, t4, t5, t6, t7⟩ := g3.tok hG (k := (cT (m, D))[a]) (List.getElem?_eq_getElem g1)
  have em : ∀ x : Int32, WPM G (d + 79) (0, 0) μX8_emitCode [.ref (gB G + 281), .int x, .int (0 : Int32)] m1 (fun r' m' => WP G (d + 80) (0, 0) μX7_readTest 206 [.ref (gB G + 279), .int (nI q), .int (1 : Int32), .int (0 : Int32), .int (1 : Int32), .int (nI i), lvU, lvU] (r'.toList ++ []) m' Q) := fun x => C_emF hf' (fun m4 h4 => tI0 h4.full hi (tB0f h4.full (fin m4 h4)))
  exact tH0 g3.full g3.ha g3.hn g1 t7 t1 t4 hi (fun _ => em _) (fun _ _ => tB0f hf'.full (fin m1 hf')) (fun _ _ => em _)
theorem tst_fail2 {q c p : Nat} (hq : q < 12) (hG : PG G (m, D)) (k : ∀ m', PF G (m, D) m' c p → ∀ s, Q (some (.int 0)) (wai m' (gB G + 281 + 4) q s)) (dn : Bool) :
    (∀ (m1 : Mm) (i : Nat), PF G (m, D) m1 c p → i < 500 → WP G (d + 80) (0, 0) μX7_readTest 146 [.ref (gB G + 279), .int (nI q), .int (1 : Int32), .int (0 : Int32), lvU, .int (nI i), .int (if dn = true then 1 else 0 : Int32), lvU] [] m1 Q) := by
  intro m1 i hf hi
  cases dn with
  | false => exact tF00 hf.full (tst_fail (i := 0) (v := Q) hq hG k m1 i hf hi)
  | true => exact tF10 hf.full (C_emF hf (fun m4 h4 => tst_fail (i := 0) (v := Q) hq hG k m4 i h4 hi))
end CTST
