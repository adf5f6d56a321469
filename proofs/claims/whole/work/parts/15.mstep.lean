/-! THE REFERENCE'S STEP, method by method -/
theorem loopN {n : Nat} {P W : Nat → Mm → Prop} (h : ∀ i m, i ≤ n → P i m → (i < n → ∀ m', P (i + 1) m' → W (i + 1) m') → W i m) : ∀ i, i ≤ n → ∀ m, P i m → W i m := by
  have key : ∀ k i, i + k = n → ∀ m, P i m → W i m := by
    intro k
    induction k with
    | zero => intro i hi m hP; exact h i m (by omega) hP (fun q => by omega)
    | succ k ih => intro i hi m hP; exact h i m (by omega) hP (fun q m' hP' => ih (i + 1) (by omega) m' hP')
  intro i hi
  exact key (n - i) i (by omega)
def SM (G : Cx) : Nat → Prop := fun a => a = gB G + 294 ∨ a = gB G + 297 ∨ a = gB G + 301 ∨ a = gB G + 303
/-- the reference's state in m is (st, en); the rest is as in m0 -/
def MS (G : Cx) (m0 m : Mm) (st : Nat → Int32) (en : Nat → Int64) : Prop := Full G m ∧ Out (SM G) m m0 ∧ ai m (gB G + 294) = st ∧ al m (gB G + 297) = en
theorem MS.wst {G : Cx} {m0 m : Mm} {st : Nat → Int32} {en : Nat → Int64} (h : MS G m0 m st en) (k : Nat) (x : Int32) : MS G m0 (wai m (gB G + 294) k x) (upd st k x) en :=
  ⟨Full_wai _ _ _ h.1, h.2.1.wai (Or.inl rfl), by rw [ai_wai_upd, h.2.2.1], h.2.2.2⟩
theorem MS.wen {G : Cx} {m0 m : Mm} {st : Nat → Int32} {en : Nat → Int64} (h : MS G m0 m st en) (k : Nat) (x : Int64) : MS G m0 (wal m (gB G + 297) k x) st (vp_updL en k x) :=
  ⟨Full_wal _ _ _ h.1, h.2.1.wal (Or.inr (Or.inl rfl)), h.2.2.1, by rw [al_wal_upd, h.2.2.2]⟩
theorem MS.wnet {G : Cx} {m0 m : Mm} {st : Nat → Int32} {en : Nat → Int64} (h : MS G m0 m st en) (k : Nat) (x : Int64) : MS G m0 (wal m (gB G + 301) k x) st en :=
  ⟨Full_wal _ _ _ h.1, h.2.1.wal (Or.inr (Or.inr (Or.inl rfl))), h.2.2.1, by rw [← h.2.2.2]; funext j; exact al_na (by omega)⟩
section MSTEP
variable {G : Cx} {d : Nat} {m : Mm} {Q : Option Value → Mm → Prop}
theorem M_sun (hF : Full G m) (h2 : ¬ ai m (gB G + 294) 2 = 0) (k : Q (some (.int (sunF (ai m (gB G + 294))))) m) : WPM G (d + 2) (0, 0) μX11_isSunlit [.ref (gB G + 293)] m Q := by
  refine sM_sun hF h2 (fun _ => h2) (fun h => ?_) (fun h h' => ?_) (fun h h' => ?_)
  · rw [show sunF (ai m (gB G + 294)) = 1 from if_pos h] at k
    exact k
  · rw [show sunF (ai m (gB G + 294)) = 0 from (if_neg h).trans (if_pos h')] at k
    exact k
  · rw [show sunF (ai m (gB G + 294)) = 1 from (if_neg h).trans (if_neg h')] at k
    exact k
theorem M_abs {i : Nat} (hF : Full G m) (hi : i < 12) (h2 : ¬ ai m (gB G + 294) 2 = 0) (k : Q (some (.long (absF (ai m (gB G + 294)) i))) m) : WPM G (d + 3) (0, 0) μX11_absorbedBy [.ref (gB G + 293), .int (nI i)] m Q := by
  refine eM_ab hF hi (M_sun hF h2 ?_)
  refine bM_ab hF hi (fun h => ?_) (fun h => ?_)
  · rw [show absF (ai m (gB G + 294)) i = _ from if_pos h] at k
    exact k
  · rw [show absF (ai m (gB G + 294)) i = _ from if_neg h] at k
    exact k
theorem M_up {n : Nat} (hF : Full G m) (hn : ai m (gB G + 294) 14 = nI n) (h8 : n ≤ 8) (k : Q (some (.int (upF (ai m (gB G + 294)) n))) m) : WPM G (d + 1) (0, 0) μX11_usedPower [.ref (gB G + 293)] m Q := by
  refine eM_up hF ?_
  refine loopN (n := n) (P := fun _ m' => m' = m) (W := fun i m => WP G (d + 1) (0, 0) μX11_usedPower 4 [.ref (gB G + 293), .int (upF (ai m (gB G + 294)) i), .int (nI i)] [] m Q) ?_ 0 (Nat.zero_le _) m rfl
  intro i m' hi hP ih
  subst hP
  refine bM_up hF hn h8 hi (fun h => ?_) (fun h h' => ?_) (fun h h' => ?_)
  · have e : i = n := by omega
    rw [e]
    exact k
  · have := ih h _ rfl
    try dsimp only at this
    rw [upF_s, (if_neg h')] at this
    exact this
  · have := ih h _ rfl
    try dsimp only at this
    rw [upF_s, (if_pos h')] at this
    exact this
theorem M_em {i n : Nat} (hF : Full G m) (hi : i < 12) (hn : ai m (gB G + 294) 13 = nI n) (h6 : n ≤ 6) (ho : ∀ l, l < n → ∃ o, o < 12 ∧ ai m (gB G + 294) (7 * l + 296) = nI o) (k : Q (some (.long (emF (ai m (gB G + 294)) n i))) m) : WPM G (d + 1) (0, 0) μX11_emittedBy [.ref (gB G + 293), .int (nI i)] m Q := by
  refine eM_em hF hi ?_
  refine loopN (n := n) (P := fun _ m' => m' = m) (W := fun l m => WP G (d + 1) (0, 0) μX11_emittedBy 11 [.ref (gB G + 293), .int (nI i), .long (areaF (ai m (gB G + 294)) i l), lvU, .int (nI l), lvU] [] m Q) ?_ 0 (Nat.zero_le _) m rfl
  intro l m' hl hP ih
  subst hP
  by_cases hln : l < n
  · obtain ⟨o, h12, e⟩ := ho l hln
    refine bM_em hF hi hn h6 hl (fun _ => e) h12 (fun h => absurd hln h) (fun h h' => ?_) (fun h h' => ?_)
    · have := ih h _ rfl
      try dsimp only at this
      rw [areaF_s, (if_neg (fun z => h' (neq (e.symm.trans z) (by omega) (by omega))))] at this
      exact this
    · have := ih h _ rfl
      try dsimp only at this
      rw [areaF_s, (if_pos (e.trans (congrArg nI h')))] at this
      exact this
  · refine bM_em (o := 0) hF hi hn h6 hl (fun h => absurd h hln) (by omega) (fun h => ?_) (fun h => absurd h hln) (fun h => absurd h hln)
    have e : l = n := by omega
    rw [e]
    exact k
theorem M_cd {i n : Nat} (hF : Full G m) (hi : i < 12) (hn : ai m (gB G + 294) 12 = nI n) (h12 : n ≤ 12) (k : Q (some (.long (cdF (ai m (gB G + 294)) i n))) m) : WPM G (d + 1) (0, 0) μX11_conductedTo [.ref (gB G + 293), .int (nI i)] m Q := by
  refine eM_cd hF hi ?_
  refine loopN (n := n) (P := fun _ m' => m' = m) (W := fun j m => WP G (d + 1) (0, 0) μX11_conductedTo 5 [.ref (gB G + 293), .int (nI i), .long (cdF (ai m (gB G + 294)) i j), lvU, .int (nI j), lvU, lvU] [] m Q) ?_ 0 (Nat.zero_le _) m rfl
  intro j m' hj hP ih
  subst hP
  refine bM_cd hF hi hn h12 hj (fun h => ?_) (fun h => ih h _ rfl)
  have e : j = n := by omega
  rw [e]
  exact k
/-- what the walks of the reference need of its state -/
def Safe (st : Nat → Int32) (n nl nh : Nat) : Prop := st 12 = nI n ∧ n ≤ 12 ∧ st 13 = nI nl ∧ nl ≤ 6 ∧ st 14 = nI nh ∧ nh ≤ 8 ∧ ¬ st 2 = 0 ∧ ¬ st 1 = 0 ∧ (∀ l, l < nl → ∃ o, o < 12 ∧ st (7 * l + 296) = nI o) ∧ (∀ h, h < nh → ∃ o, o < 12 ∧ st (8 * h + 338) = nI o) ∧ (∀ l, l < nl → ¬ Int32.toInt64 (st (7 * l + 299) - st (7 * l + 298)) = 0) ∧ (∀ i, i < n → ¬ Int32.toInt64 (st (11 * i + 20)) = 0)
theorem M_net {i n nl nh : Nat} (hF : Full G m) (hi : i < 12) (hS : Safe (ai m (gB G + 294)) n nl nh) (k : Q (some (.long (netF (ai m (gB G + 294)) n nl nh i))) m) : WPM G (d + 4) (0, 0) μX11_netOf [.ref (gB G + 293), .int (nI i)] m Q := by
  obtain ⟨s1, s2, s3, s4, s5, s6, s7, s8, s9, s10, s11, s12⟩ := hS
  refine eM_nt hF hi (M_abs hF hi s7 ?_)
  refine bM_nt1 hF hi (M_cd hF hi s1 s2 ?_)
  refine bM_nt2 hF hi (M_em hF hi s3 s4 s9 ?_)
  refine bM_nt3 hF hi ?_
  refine loopN (n := nh) (P := fun _ m' => m' = m) (W := fun h m => WP G (d + 4) (0, 0) μX11_netOf 29 [.ref (gB G + 293), .int (nI i), .long (htF (ai m (gB G + 294)) i (Int32.toInt64 (ai m (gB G + 294) (11 * i + 24)) + absF (ai m (gB G + 294)) i + cdF (ai m (gB G + 294)) i n - emF (ai m (gB G + 294)) nl i) h), lvU, .int (nI h), lvU] [] m Q) ?_ 0 (Nat.zero_le _) m rfl
  intro h m' hh hP ih
  subst hP
  by_cases hhn : h < nh
  · obtain ⟨o, h12, e⟩ := s10 h hhn
    refine bM_nt hF hi s5 s6 hh (fun _ => e) h12 (fun z => absurd hhn z) (fun h1 h' => ?_) (fun h1 h' h2 => ?_) (fun h1 h' h2 => ?_)
    · have := ih h1 _ rfl
      try dsimp only at this
      rw [htF_s, (if_neg (show ¬ (_ ∧ _) from fun z => h' (neq (e.symm.trans z.1) (by omega) (by omega))))] at this
      exact this
    · have := ih h1 _ rfl
      try dsimp only at this
      rw [htF_s, (if_neg (show ¬ (_ ∧ _) from fun z => h2 z.2))] at this
      exact this
    · have := ih h1 _ rfl
      try dsimp only at this
      rw [htF_s, (if_pos ⟨e.trans (congrArg nI h'), h2⟩)] at this
      exact this
  · refine bM_nt (o := 0) hF hi s5 s6 hh (fun z => absurd z hhn) (by omega) (fun z => ?_) (fun z => absurd z hhn) (fun z => absurd z hhn) (fun z => absurd z hhn)
    have e : h = nh := by omega
    rw [e]
    exact k
end MSTEP
