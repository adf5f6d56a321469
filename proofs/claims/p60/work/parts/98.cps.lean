/-! THE CLASS'S READER: its state, and the small contracts -/
def PE (G : Cx) (a : Nat) : Prop := a = gB G + 279 ∨ a = gB G + 281 ∨ a = gB G + 282 ∨ a = gB G + 283
/-- what stays while a rule is read: memory at the start, tokens, length of the text, numbers of parts, rules read -/
abbrev Pc : Type := Mm × List Tk × Nat × Nat × Nat × Nat × Nat
abbrev cM (c : Pc) : Mm := c.1
abbrev cT (c : Pc) : List Tk := c.2.1
abbrev cL (c : Pc) : Nat := c.2.2.1
abbrev cNn (c : Pc) : Nat := c.2.2.2.1
abbrev cNl (c : Pc) : Nat := c.2.2.2.2.1
abbrev cNh (c : Pc) : Nat := c.2.2.2.2.2.1
abbrev cC (c : Pc) : Nat := c.2.2.2.2.2.2
def PS (G : Cx) (C : Pc) (m : Mm) (a sz : Nat) (er ep : Int32) : Prop :=
  Full G m ∧ Out (PE G) m (cM C) ∧ fi m 701 (gB G + 279) = nI (cL C) ∧ fi m 702 (gB G + 279) = er ∧ fi m 703 (gB G + 279) = ep ∧ fi m 708 (gB G + 279) = nI (cT C).length ∧ fi m 709 (gB G + 279) = nI a ∧ fi m 710 (gB G + 279) = nI (cNn C) ∧ fi m 711 (gB G + 279) = nI (cNl C) ∧ fi m 712 (gB G + 279) = nI (cNh C) ∧ fi m 807 (gB G + 281) = nI sz ∧ fi m 808 (gB G + 281) = nI (cC C)
/-- good: the tokens lie there; kinds, values, numbers are small -/
def PG (G : Cx) (C : Pc) : Prop := TokA G (cM C) (cT C) ∧ (cT C).length ≤ 501 ∧ (∀ k ∈ cT C, k.1 < 1000 ∧ k.2.2 ≤ 1000000) ∧ cNn C ≤ 12 ∧ cNl C ≤ 12 ∧ cNh C ≤ 12
def PZ (G : Cx) (C : Pc) (m : Mm) (ts : List Tk) (out : List Cd) : Prop := (∃ a, (cT C).drop a = ts ∧ PS G C m a out.length 0 (-1)) ∧ CodC m (gB G + 281) 0 out
def PF (G : Cx) (C : Pc) (m : Mm) (c p : Nat) : Prop := ∃ a sz, a < (cT C).length ∧ sz ≤ 500 ∧ PS G C m a sz (nI c) (nI p)
section CPS
variable {G : Cx} {C : Pc} {d : Nat} {m : Mm} {Q : Option Value → Mm → Prop} {a sz : Nat} {er ep : Int32} {k : Tk} {ts : List Tk} {out : List Cd}
theorem PS.full (h : PS G C m a sz er ep) : Full G m := h.1
theorem PS.ha (h : PS G C m a sz er ep) : fi m 709 (gB G + 279) = nI a := h.2.2.2.2.2.2.1
theorem PS.hn (h : PS G C m a sz er ep) : fi m 708 (gB G + 279) = nI (cT C).length := h.2.2.2.2.2.1
theorem PS.hs (h : PS G C m a sz er ep) : fi m 807 (gB G + 281) = nI sz := h.2.2.2.2.2.2.2.2.2.2.1
theorem PS.at (h : PS G C m a sz er ep) (b : Nat) : PS G C (wfi m 709 (gB G + 279) (nI b)) b sz er ep := by
  obtain ⟨h1, h2, h3, h4, h5, h6, h7, h8, h9, h10, h11, h12⟩ := h
  exact ⟨Full_wfi _ _ _ h1, h2.wfi (Or.inl rfl), (fi_ne (by decide)).trans h3, (fi_ne (by decide)).trans h4, (fi_ne (by decide)).trans h5, (fi_ne (by decide)).trans h6, fi_eq, (fi_ne (by decide)).trans h8, (fi_ne (by decide)).trans h9, (fi_ne (by decide)).trans h10, (fi_ne (by decide)).trans h11, (fi_ne (by decide)).trans h12⟩
theorem PS.nu (h : PS G C m a sz er ep) (x : Int32) : PS G C (wfi m 713 (gB G + 279) x) a sz er ep := by
  obtain ⟨h1, h2, h3, h4, h5, h6, h7, h8, h9, h10, h11, h12⟩ := h
  exact ⟨Full_wfi _ _ _ h1, h2.wfi (Or.inl rfl), (fi_ne (by decide)).trans h3, (fi_ne (by decide)).trans h4, (fi_ne (by decide)).trans h5, (fi_ne (by decide)).trans h6, (fi_ne (by decide)).trans h7, (fi_ne (by decide)).trans h8, (fi_ne (by decide)).trans h9, (fi_ne (by decide)).trans h10, (fi_ne (by decide)).trans h11, (fi_ne (by decide)).trans h12⟩
theorem PS.fl (h : PS G C m a sz er ep) (x y : Int32) : PS G C (wfi (wfi m 702 (gB G + 279) x) 703 (gB G + 279) y) a sz x y := by
  obtain ⟨h1, h2, h3, h4, h5, h6, h7, h8, h9, h10, h11, h12⟩ := h
  have g : ∀ {f b : Nat}, f ≠ 703 → f ≠ 702 → fi (wfi (wfi m 702 (gB G + 279) x) 703 (gB G + 279) y) f b = fi m f b := fun q1 q2 => (fi_ne q1).trans (fi_ne q2)
  exact ⟨Full_wfi _ _ _ (Full_wfi _ _ _ h1), (h2.wfi (Or.inl rfl)).wfi (Or.inl rfl), (g (by decide) (by decide)).trans h3, (fi_ne (by decide)).trans fi_eq, fi_eq, (g (by decide) (by decide)).trans h6, (g (by decide) (by decide)).trans h7, (g (by decide) (by decide)).trans h8, (g (by decide) (by decide)).trans h9, (g (by decide) (by decide)).trans h10, (g (by decide) (by decide)).trans h11, (g (by decide) (by decide)).trans h12⟩
theorem PS.em (h : PS G C m a sz er ep) (x y : Int32) : PS G C (wfi (wai (wai m (gB G + 281 + 1) sz x) (gB G + 281 + 2) sz y) 807 (gB G + 281) (nI (sz + 1))) a (sz + 1) er ep := by
  obtain ⟨h1, h2, h3, h4, h5, h6, h7, h8, h9, h10, h11, h12⟩ := h
  exact ⟨Full_wfi _ _ _ (Full_wai _ _ _ (Full_wai _ _ _ h1)), ((h2.wai (Or.inr (Or.inr (Or.inl rfl)))).wai (Or.inr (Or.inr (Or.inr rfl)))).wfi (Or.inr (Or.inl rfl)), (fi_ne (by decide)).trans h3, (fi_ne (by decide)).trans h4, (fi_ne (by decide)).trans h5, (fi_ne (by decide)).trans h6, (fi_ne (by decide)).trans h7, (fi_ne (by decide)).trans h8, (fi_ne (by decide)).trans h9, (fi_ne (by decide)).trans h10, fi_eq, (fi_ne (by decide)).trans h12⟩
theorem PS.tok {j : Nat} (hG : PG G C) (h : PS G C m a sz er ep) (hk : (cT C)[j]? = some k) : ai m (gB G + 290) j = nI k.1 ∧ ai m (gB G + 291) j = nI k.2.1 ∧ ai m (gB G + 292) j = nI k.2.2 ∧ k.1 < 1000 ∧ k.2.2 ≤ 1000000 ∧ j < (cT C).length ∧ (cT C).length ≤ 501 := by
  obtain ⟨q1, q2, q3⟩ := hG.1 j k hk
  have hm := hG.2.2.1 k (List.mem_of_getElem? hk)
  exact ⟨(h.2.1.ai (by unfold PE; omega) j).trans q1, (h.2.1.ai (by unfold PE; omega) j).trans q2, (h.2.1.ai (by unfold PE; omega) j).trans q3, hm.1, hm.2, (List.getElem?_eq_some_iff.mp hk).1, hG.2.1⟩
theorem drop_hd {T : List Tk} (h : T.drop a = k :: ts) : T[a]? = some k ∧ T.drop (a + 1) = ts := by
  constructor
  · have := congrArg (·[0]?) h
    simpa using this
  · have := congrArg List.tail h
    simpa using this
theorem PF.full {c p : Nat} (h : PF G C m c p) : Full G m := by
  obtain ⟨a, sz, -, -, h⟩ := h
  exact h.1
theorem PZ.full (h : PZ G C m ts out) : Full G m := by
  obtain ⟨⟨a, -, h⟩, -⟩ := h
  exact h.1
theorem CodC_ai {m m' : Mm} {r : Nat} : ∀ {out : List Cd} {i : Nat}, (∀ j, i ≤ j → j < i + out.length → ai m' (r + 1) j = ai m (r + 1) j ∧ ai m' (r + 2) j = ai m (r + 2) j) → CodC m r i out → CodC m' r i out
  | [], _, _, _ => trivial
  | c :: out, i, he, ⟨h1, h2, h3⟩ => by
    have hl : (c :: out).length = out.length + 1 := rfl
    exact ⟨(he i (Nat.le_refl _) (by omega)).1.trans h1, (he i (Nat.le_refl _) (by omega)).2.trans h2, CodC_ai (fun j hj hj2 => he j (by omega) (by omega)) h3⟩
theorem CodC_snoc {m : Mm} {r : Nat} {c : Cd} : ∀ {out : List Cd} {i : Nat}, CodC m r i out → ai m (r + 1) (i + out.length) = nI c.1 → ai m (r + 2) (i + out.length) = nI c.2 → CodC m r i (out ++ [c])
  | [], _, _, e1, e2 => ⟨e1, e2, trivial⟩
  | x :: out, i, ⟨h1, h2, h3⟩, e1, e2 => by
    rw [List.length_cons, show i + (out.length + 1) = i + 1 + out.length by omega] at e1 e2
    exact ⟨h1, h2, CodC_snoc h3 e1 e2⟩
theorem C_em {x y : Nat} (h : PZ G C m ts out) (h5 : out.length < 500) (kk : ∀ m', PZ G C m' ts (out ++ [(x, y)]) → Q none m') : WPM G (d + 0) (0, 0) μX8_emitCode [.ref (gB G + 281), .int (nI x), .int (nI y)] m Q := by
  obtain ⟨⟨a, h1, h2⟩, h3⟩ := h
  refine bC_em h2.full h2.hs (by omega) (fun z => absurd h5 z) (fun _ => kk _ ⟨⟨a, h1, ?_⟩, ?_⟩)
  · rw [List.length_append]
    exact h2.em _ _
  · refine CodC_snoc (CodC_ai (fun j _ hj => ⟨?_, ?_⟩) h3) ?_ ?_
    · show ai (wai (wai m (gB G + 281 + 1) out.length (nI x)) (gB G + 281 + 2) out.length (nI y)) (gB G + 281 + 1) j = _
      rw [ai_na (by omega), ai_nk (by omega)]
    · show ai (wai (wai m (gB G + 281 + 1) out.length (nI x)) (gB G + 281 + 2) out.length (nI y)) (gB G + 281 + 2) j = _
      rw [ai_nk (by omega), ai_na (by omega)]
    · show ai (wai (wai m (gB G + 281 + 1) out.length (nI x)) (gB G + 281 + 2) out.length (nI y)) (gB G + 281 + 1) (0 + out.length) = _
      rw [Nat.zero_add, ai_na (by omega), ai_eq]
    · show ai (wai (wai m (gB G + 281 + 1) out.length (nI x)) (gB G + 281 + 2) out.length (nI y)) (gB G + 281 + 2) (0 + out.length) = _
      rw [Nat.zero_add, ai_eq]
theorem C_emF {c p : Nat} {x y : Int32} (h : PF G C m c p) (kk : ∀ m', PF G C m' c p → Q none m') : WPM G (d + 0) (0, 0) μX8_emitCode [.ref (gB G + 281), .int x, .int y] m Q := by
  have h0 := h
  obtain ⟨a, sz, h1, h2, h3⟩ := h
  exact bC_em h3.full h3.hs h2 (fun _ => kk m h0) (fun z => kk _ ⟨a, sz + 1, h1, by omega, h3.em _ _⟩)
theorem PZ.at (h : PZ G C m (k :: ts) out) : ∃ a, (cT C)[a]? = some k ∧ PS G C m a out.length 0 (-1) ∧ PZ G C (wfi m 709 (gB G + 279) (nI (a + 1))) ts out := by
  obtain ⟨⟨a, h1, h2⟩, h3⟩ := h
  obtain ⟨q1, q2⟩ := drop_hd h1
  exact ⟨a, q1, h2, ⟨a + 1, q2, h2.at _⟩, CodC_ai (m := m) (fun _ _ _ => ⟨rfl, rfl⟩) h3⟩
theorem PZ.at2 {k1 : Tk} (h : PZ G C m (k :: k1 :: ts) out) : ∃ a, (cT C)[a]? = some k ∧ (cT C)[a + 1]? = some k1 ∧ PS G C m a out.length 0 (-1) ∧ PZ G C (wfi m 709 (gB G + 279) (nI (a + 1))) (k1 :: ts) out ∧ PZ G C (wfi (wfi m 709 (gB G + 279) (nI (a + 1))) 709 (gB G + 279) (nI (a + 2))) ts out := by
  obtain ⟨⟨a, h1, h2⟩, h3⟩ := h
  obtain ⟨q1, q2⟩ := drop_hd h1
  obtain ⟨q3, q4⟩ := drop_hd q2
  exact ⟨a, q1, q3, h2, ⟨⟨a + 1, q2, h2.at _⟩, CodC_ai (m := m) (fun _ _ _ => ⟨rfl, rfl⟩) h3⟩, ⟨⟨a + 2, q4, (h2.at _).at _⟩, CodC_ai (m := m) (fun _ _ _ => ⟨rfl, rfl⟩) h3⟩⟩
theorem PZ.nu (h : PZ G C m ts out) (x : Int32) : PZ G C (wfi m 713 (gB G + 279) x) ts out := by
  obtain ⟨⟨a, h1, h2⟩, h3⟩ := h
  exact ⟨⟨a, h1, h2.nu x⟩, CodC_ai (m := m) (fun _ _ _ => ⟨rfl, rfl⟩) h3⟩
theorem PS.pf (h : PS G C m a sz er ep) (ha : a < (cT C).length) (hs : sz ≤ 500) (c p : Nat) : PF G C (wfi (wfi m 702 (gB G + 279) (nI c)) 703 (gB G + 279) (nI p)) c p := ⟨a, sz, ha, hs, h.fl _ _⟩
theorem C_tk {w : Nat} (hG : PG G C) (h : PZ G C m (k :: ts) out) (h5 : out.length ≤ 500) (hw : w < 1000) (k1 : k.1 = w → ∀ m', PZ G C m' ts out → Q (some (.int 1)) m') (k0 : ¬ k.1 = w → ∀ m', PF G C m' 1 k.2.1 → Q (some (.int 0)) m') : WPM G (d + 2) (0, 0) μX7_take [.ref (gB G + 279), .int (nI w)] m Q := by
  obtain ⟨a, h1, h2, h3⟩ := h.at
  obtain ⟨t1, t2, t3, t4, t5, t6, t7⟩ := h2.tok hG h1
  exact bC_tk h2.full h2.ha h2.hn t6 t7 t1 t4 t2 hw (fun e => k1 e _ h3) (fun e => k0 e _ (h2.pf t6 h5 _ _))
theorem C_tc (hG : PG G C) (h : PZ G C m (k :: ts) out) (h5 : out.length ≤ 500) (k1 : cmK k.1 → ∀ m', PZ G C m' ts out → Q (some (.int 1)) m') (k0 : ¬ cmK k.1 → ∀ m', PF G C m' 1 k.2.1 → Q (some (.int 0)) m') : WPM G (d + 2) (0, 0) μX7_takeComparison [.ref (gB G + 279)] m Q := by
  obtain ⟨a, h1, h2, h3⟩ := h.at
  obtain ⟨t1, t2, t3, t4, t5, t6, t7⟩ := h2.tok hG h1
  exact bC_tc h2.full h2.ha h2.hn t6 t7 t1 t4 t2 (fun e => k1 (Or.inl e) _ h3) (fun _ e => k1 (Or.inr (Or.inr e)) _ h3) (fun _ _ e => k1 (Or.inr (Or.inl e)) _ h3) (fun e1 e2 e3 => k0 (fun z => z.elim e1 (fun z => z.elim e3 e2)) _ (h2.pf t6 h5 _ _))
theorem C_tw {x y : Nat} (hG : PG G C) (h : PZ G C m (k :: ts) out) (h5 : out.length ≤ 500) (hx : x < 1000) (hy : y < 1000) (k1 : x ≤ k.1 → k.1 ≤ y → ∀ m', PZ G C m' ts out → Q (some (.int 1)) m') (k0 : ¬ (x ≤ k.1 ∧ k.1 ≤ y) → ∀ m', PF G C m' 1 k.2.1 → Q (some (.int 0)) m') : WPM G (d + 2) (0, 0) μX7_takeWord [.ref (gB G + 279), .int (nI x), .int (nI y)] m Q := by
  obtain ⟨a, h1, h2, h3⟩ := h.at
  obtain ⟨t1, t2, t3, t4, t5, t6, t7⟩ := h2.tok hG h1
  exact bC_tw h2.full h2.ha h2.hn t6 t7 t1 t4 t2 hx hy (fun e => k0 (by omega) _ (h2.pf t6 h5 _ _)) (fun _ e => k0 (by omega) _ (h2.pf t6 h5 _ _)) (fun e1 e2 => k1 (by omega) (by omega) _ h3)
theorem C_tn {c : Nat} (hG : PG G C) (h : PZ G C m (k :: ts) out) (h5 : out.length ≤ 500) (hc : c ≤ 1000000) (k1 : k.1 = 200 → k.2.2 < c → ∀ m', PZ G C m' ts out → fi m' 713 (gB G + 279) = nI k.2.2 → Q (some (.int 1)) m') (k2 : k.1 = 200 → ¬ k.2.2 < c → ∀ m', PF G C m' 2 k.2.1 → fi m' 713 (gB G + 279) = nI k.2.2 → Q (some (.int 0)) m') (k0 : ¬ k.1 = 200 → ∀ m', PF G C m' 1 k.2.1 → fi m' 713 (gB G + 279) = fi m 713 (gB G + 279) → Q (some (.int 0)) m') : WPM G (d + 2) (0, 0) μX7_takeNumber [.ref (gB G + 279), .int (nI c)] m Q := by
  obtain ⟨a, h1, h2, h3⟩ := h.at
  obtain ⟨t1, t2, t3, t4, t5, t6, t7⟩ := h2.tok hG h1
  obtain ⟨a', h1', h2', h3'⟩ := (h.nu (nI k.2.2)).at
  have ea : nI a' = nI a := by
    rw [← h2'.ha, ← h2.ha]
    exact fi_ne (by decide)
  rw [show nI (a' + 1) = nI (a + 1) by rw [nI_succ, nI_succ, ea]] at h3'
  refine bC_tn h2.full h2.ha h2.hn t6 t7 t1 t4 t2 t3 t5 hc (fun e1 e2 => k1 e1 e2 _ h3' ((fi_ne (by decide)).trans fi_eq)) (fun e1 e2 => k2 e1 e2 _ ((h2.nu _).pf t6 h5 _ _) ((fi_ne (by decide)).trans ((fi_ne (by decide)).trans fi_eq))) (fun e => k0 e _ (h2.pf t6 h5 _ _) ((fi_ne (by decide)).trans (fi_ne (by decide))))
end CPS
