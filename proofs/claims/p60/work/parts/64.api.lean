/-! THE CLASS'S METHODS over the abstract state -/
theorem rg_of {x a b : Int32} {p q : Int} (h1 : ¬ x < a) (h2 : ¬ b < x) (ha : a.toInt = p) (hb : b.toInt = q) : rg x p q := by
  rw [Int32.lt_iff_toInt_lt] at h1 h2
  unfold rg
  omega
theorem rg_lo {x a : Int32} {p q : Int} (h : rg x p q) (ha : a.toInt ≤ p) : ¬ x < a := by
  rw [Int32.lt_iff_toInt_lt]
  have := h.1
  omega
theorem rg_hi {x b : Int32} {p q : Int} (h : rg x p q) (hb : q ≤ b.toInt) : ¬ b < x := by
  rw [Int32.lt_iff_toInt_lt]
  have := h.2
  omega
section API
variable {G : Cx} {d : Nat} {m m' : Mm} {A : Ab} {Q : Option Value → Mm → Prop}
theorem CIv.cr (h : CIv G m A) : CRx m (gB G + 1) (aS A) := h.2.1.1
theorem CIv.gd (h : CIv G m A) : GdT 100000000 (aS A) := h.2.2.1
theorem CIv.iv (h : CIv G m A) : Iv 100000000 (sS (aS A)) (sN (aS A)) (sL (aS A)) (sH (aS A)) := h.gd.1
theorem CIv.rd (h : CIv G m A) {k f o : Nat} (hf : flC k = f) (ho : ofC k = o) (hk : VK k) (hD : UD (sN (aS A)) (sL (aS A)) (sH (aS A)) k) : fi m f (gB G + 1 + o) = sS (aS A) k := h.cr.1.rG k hf ho hk hD
theorem CIv.nn (h : CIv G m A) : fi m 5 (gB G + 1) = nI (sN (aS A)) ∧ sN (aS A) ≤ 12 :=
  ⟨(h.rd (k := 12) rfl rfl (by unfold VK; omega) (by unfold UD; omega)).trans h.iv.1.1, h.iv.1.2.1⟩
theorem CIv.nl (h : CIv G m A) : fi m 7 (gB G + 1) = nI (sL (aS A)) ∧ sL (aS A) ≤ 6 :=
  ⟨(h.rd (k := 13) rfl rfl (by unfold VK; omega) (by unfold UD; omega)).trans h.iv.1.2.2.1, h.iv.1.2.2.2.1⟩
theorem CIv.nh (h : CIv G m A) : fi m 8 (gB G + 1) = nI (sH (aS A)) ∧ sH (aS A) ≤ 8 :=
  ⟨(h.rd (k := 14) rfl rfl (by unfold VK; omega) (by unfold UD; omega)).trans h.iv.1.2.2.2.2.1, h.iv.1.2.2.2.2.2.1⟩
theorem CIv.N (h : CIv G m A) {i : Nat} (j : Nat) (hi : i < sN (aS A)) (hj : j < 11) : fi m (400 + j) (nd (gB G + 1) i) = sS (aS A) (11 * i + 20 + j) := by
  have := h.nn.2
  exact h.cr.1.rN j (by omega) hj (by unfold UD; omega)
theorem CIv.L (h : CIv G m A) {i : Nat} (j : Nat) (hi : i < sL (aS A)) (hj : j < 7) : fi m (300 + j) (lv (gB G + 1) i) = sS (aS A) (7 * i + 296 + j) := by
  have := h.nl.2
  exact h.cr.1.rL j (by omega) hj (by unfold UD; omega)
theorem CIv.H (h : CIv G m A) {i : Nat} (j : Nat) (hi : i < sH (aS A)) (hj : j < 8) : fi m (100 + j) (ht (gB G + 1) i) = sS (aS A) (8 * i + 338 + j) := by
  have := h.nh.2
  exact h.cr.1.rH j (by omega) hj (by unfold UD; omega)
/-- the flows worked out anew, the links untouched: the same state -/
theorem CIv.cs (h : CIv G m A) {st' : Nat → Int32} {en' : Nat → Int64} (hS : CS m m' (gB G + 1) (UD (sN (aS A)) (sL (aS A)) (sH (aS A))) st' en') (h1 : ∀ k, (152 ≤ k ∧ k < 296) ∨ k = 15 → st' k = sS (aS A) k) (h2 : ∀ j, j < sH (aS A) → st' (8 * j + 342) = sS (aS A) (8 * j + 342)) (hI : Iv 100000000 st' (sN (aS A)) (sL (aS A)) (sH (aS A))) : CIv G m' ((st', en', (aS A).2.2), A.2) :=
  ⟨hS.full h.1, h.2.1.craft (hS.1.mono (fun a ha => SA_CT ha)) (h.cr.of hS h1 h2 h.nn.2), ⟨⟨hI, h.gd.2⟩, h.2.2.2⟩⟩

theorem a_nodeCount (h : CIv G m A) (k : Q (some (.int (nI (sN (aS A))))) m) : WPM G (d + 1) (0, 0) μX10_nodeCount [.ref (gB G)] m Q := sC_nodeCount h.1 (by rw [h.nn.1]; exact k)
theorem a_louvreCount (h : CIv G m A) (k : Q (some (.int (nI (sL (aS A))))) m) : WPM G (d + 1) (0, 0) μX10_louvreCount [.ref (gB G)] m Q := sC_louvreCount h.1 (by rw [h.nl.1]; exact k)
theorem a_heaterCount (h : CIv G m A) (k : Q (some (.int (nI (sH (aS A))))) m) : WPM G (d + 1) (0, 0) μX10_heaterCount [.ref (gB G)] m Q := sC_heaterCount h.1 (by rw [h.nh.1]; exact k)
theorem a_linkCount (h : CIv G m A) (k : Q (some (.int (nI (sK (aS A)).length))) m) : WPM G (d + 1) (0, 0) μX10_linkCount [.ref (gB G)] m Q := sC_linkCount h.1 (by rw [h.cr.2.1.1]; exact k)
theorem a_time (h : CIv G m A) (k : Q (some (.int (sS (aS A) 0))) m) : WPM G (d + 1) (0, 0) μX10_time [.ref (gB G)] m Q := sC_time h.1 (by
  have e : fi m 14 (gB G + 1) = sS (aS A) 0 := h.rd (k := 0) rfl rfl (by unfold VK; omega) (by unfold UD; omega)
  rw [e]
  exact k)
theorem a_charge (h : CIv G m A) (k : Q (some (.int (sS (aS A) 11))) m) : WPM G (d + 1) (0, 0) μX10_charge [.ref (gB G)] m Q := sC_charge h.1 (by
  have e : fi m 903 (gB G + 1 + 7) = sS (aS A) 11 := h.rd (k := 11) rfl rfl (by unfold VK; omega) (by unfold UD; omega)
  rw [e]
  exact k)
theorem a_violatorCount (h : CIv G m A) (k : Q (some (.int (sS (aS A) 16))) m) : WPM G (d + 1) (0, 0) μX10_violatorCount [.ref (gB G)] m Q := sC_violatorCount h.1 (by
  have e : fi m 601 (gB G + 1 + 8) = sS (aS A) 16 := h.rd (k := 16) rfl rfl (by unfold VK; omega) (by unfold UD; omega)
  rw [e]
  exact k)
theorem a_shedCount (h : CIv G m A) (k : Q (some (.int (sS (aS A) 17))) m) : WPM G (d + 1) (0, 0) μX10_shedCount [.ref (gB G)] m Q := sC_shedCount h.1 (by
  have e : fi m 602 (gB G + 1 + 8) = sS (aS A) 17 := h.rd (k := 17) rfl rfl (by unfold VK; omega) (by unfold UD; omega)
  rw [e]
  exact k)
theorem a_energy0 (h : CIv G m A) (k : Q (some (.long (sE (aS A) 0))) m) : WPM G (d + 1) (0, 0) μX10_energy [.ref (gB G), .int (0 : Int32)] m Q := by
  have e := h.cr.1.2.2.2.1
  refine sC_energy h.1 (fun z => ?_) (fun z => ?_) (fun z => ?_) (fun z1 z2 z3 => ?_)
  · rw [e.1]; exact k
  · exact absurd z (by decide)
  · exact absurd z (by decide)
  · exact absurd rfl z1
theorem a_energy1 (h : CIv G m A) (k : Q (some (.long (sE (aS A) 1))) m) : WPM G (d + 1) (0, 0) μX10_energy [.ref (gB G), .int (1 : Int32)] m Q := by
  have e := h.cr.1.2.2.2.1
  refine sC_energy h.1 (fun z => ?_) (fun z => ?_) (fun z => ?_) (fun z1 z2 z3 => ?_)
  · exact absurd z (by decide)
  · rw [e.2.1]; exact k
  · exact absurd z (by decide)
  · exact absurd rfl z2
theorem a_energy2 (h : CIv G m A) (k : Q (some (.long (sE (aS A) 2))) m) : WPM G (d + 1) (0, 0) μX10_energy [.ref (gB G), .int (2 : Int32)] m Q := by
  have e := h.cr.1.2.2.2.1
  refine sC_energy h.1 (fun z => ?_) (fun z => ?_) (fun z => ?_) (fun z1 z2 z3 => ?_)
  · exact absurd z (by decide)
  · exact absurd z (by decide)
  · rw [e.2.2]; exact k
  · exact absurd rfl z3
theorem a_temperature (h : CIv G m A) {i : Nat} (hi : i < sN (aS A)) (k : Q (some (.int (sS (aS A) (11 * i + 21)))) m) : WPM G (d + 2) (0, 0) μX10_temperature [.ref (gB G), .int (nI i)] m Q := by
  obtain ⟨p, hp⟩ : ∃ p, sN (aS A) = p + 1 := ⟨sN (aS A) - 1, by omega⟩
  refine iC_temperature (n := p) h.1 (by rw [← hp]; exact h.nn.1) (by rw [← hp]; exact h.nn.2) (by omega) ?_
  rw [h.N 1 hi (by omega)]
  exact k
theorem a_load (h : CIv G m A) {i : Nat} (hi : i < sN (aS A)) (k : Q (some (.int (sS (aS A) (11 * i + 24)))) m) : WPM G (d + 2) (0, 0) μX10_load [.ref (gB G), .int (nI i)] m Q := by
  obtain ⟨p, hp⟩ : ∃ p, sN (aS A) = p + 1 := ⟨sN (aS A) - 1, by omega⟩
  refine iC_load (n := p) h.1 (by rw [← hp]; exact h.nn.1) (by rw [← hp]; exact h.nn.2) (by omega) ?_
  rw [h.N 4 hi (by omega)]
  exact k
theorem a_lowest (h : CIv G m A) {i : Nat} (hi : i < sN (aS A)) (k : Q (some (.int (sS (aS A) (11 * i + 27)))) m) : WPM G (d + 2) (0, 0) μX10_lowest [.ref (gB G), .int (nI i)] m Q := by
  obtain ⟨p, hp⟩ : ∃ p, sN (aS A) = p + 1 := ⟨sN (aS A) - 1, by omega⟩
  refine iC_lowest (n := p) h.1 (by rw [← hp]; exact h.nn.1) (by rw [← hp]; exact h.nn.2) (by omega) ?_
  rw [h.N 7 hi (by omega)]
  exact k
theorem a_highest (h : CIv G m A) {i : Nat} (hi : i < sN (aS A)) (k : Q (some (.int (sS (aS A) (11 * i + 28)))) m) : WPM G (d + 2) (0, 0) μX10_highest [.ref (gB G), .int (nI i)] m Q := by
  obtain ⟨p, hp⟩ : ∃ p, sN (aS A) = p + 1 := ⟨sN (aS A) - 1, by omega⟩
  refine iC_highest (n := p) h.1 (by rw [← hp]; exact h.nn.1) (by rw [← hp]; exact h.nn.2) (by omega) ?_
  rw [h.N 8 hi (by omega)]
  exact k
theorem a_violations (h : CIv G m A) {i : Nat} (hi : i < sN (aS A)) (k : Q (some (.int (sS (aS A) (11 * i + 29)))) m) : WPM G (d + 2) (0, 0) μX10_violations [.ref (gB G), .int (nI i)] m Q := by
  obtain ⟨p, hp⟩ : ∃ p, sN (aS A) = p + 1 := ⟨sN (aS A) - 1, by omega⟩
  refine iC_violations (n := p) h.1 (by rw [← hp]; exact h.nn.1) (by rw [← hp]; exact h.nn.2) (by omega) ?_
  rw [h.N 9 hi (by omega)]
  exact k
theorem a_firstViolation (h : CIv G m A) {i : Nat} (hi : i < sN (aS A)) (k : Q (some (.int (sS (aS A) (11 * i + 30)))) m) : WPM G (d + 2) (0, 0) μX10_firstViolation [.ref (gB G), .int (nI i)] m Q := by
  obtain ⟨p, hp⟩ : ∃ p, sN (aS A) = p + 1 := ⟨sN (aS A) - 1, by omega⟩
  refine iC_firstViolation (n := p) h.1 (by rw [← hp]; exact h.nn.1) (by rw [← hp]; exact h.nn.2) (by omega) ?_
  rw [h.N 10 hi (by omega)]
  exact k
theorem a_margin (h : CIv G m A) {i : Nat} (hi : i < sN (aS A)) (k : Q (some (.int (imin (sS (aS A) (11 * i + 21) - sS (aS A) (11 * i + 25)) (sS (aS A) (11 * i + 26) - sS (aS A) (11 * i + 21))))) m) : WPM G (d + 2) (0, 0) μX10_margin [.ref (gB G), .int (nI i)] m Q := by
  obtain ⟨p, hp⟩ : ∃ p, sN (aS A) = p + 1 := ⟨sN (aS A) - 1, by omega⟩
  refine iC_margin (n := p) h.1 (by rw [← hp]; exact h.nn.1) (by rw [← hp]; exact h.nn.2) (by omega) ?_
  rw [h.N 1 hi (by omega), h.N 5 hi (by omega), h.N 6 hi (by omega)]
  exact k
theorem a_opening (h : CIv G m A) {i : Nat} (hi : i < sL (aS A)) (k : Q (some (.int (sS (aS A) (7 * i + 301)))) m) : WPM G (d + 2) (0, 0) μX10_opening [.ref (gB G), .int (nI i)] m Q := by
  obtain ⟨p, hp⟩ : ∃ p, sL (aS A) = p + 1 := ⟨sL (aS A) - 1, by omega⟩
  refine iC_opening (n := p) h.1 (by rw [← hp]; exact h.nl.1) (by rw [← hp]; exact h.nl.2) (by omega) ?_
  rw [h.L 5 hi (by omega)]
  exact k
theorem a_heaterState (h : CIv G m A) {i : Nat} (hi : i < sH (aS A)) (k : Q (some (.int (sS (aS A) (8 * i + 345)))) m) : WPM G (d + 2) (0, 0) μX10_heaterState [.ref (gB G), .int (nI i)] m Q := by
  obtain ⟨p, hp⟩ : ∃ p, sH (aS A) = p + 1 := ⟨sH (aS A) - 1, by omega⟩
  refine iC_heaterState (n := p) h.1 (by rw [← hp]; exact h.nh.1) (by rw [← hp]; exact h.nh.2) (by omega) ?_
  rw [h.H 7 hi (by omega)]
  exact k
theorem a_heaterMode (h : CIv G m A) {i : Nat} (hi : i < sH (aS A)) (k : Q (some (.int (sS (aS A) (8 * i + 343)))) m) : WPM G (d + 2) (0, 0) μX10_heaterMode [.ref (gB G), .int (nI i)] m Q := by
  obtain ⟨p, hp⟩ : ∃ p, sH (aS A) = p + 1 := ⟨sH (aS A) - 1, by omega⟩
  refine iC_heaterMode (n := p) h.1 (by rw [← hp]; exact h.nh.1) (by rw [← hp]; exact h.nh.2) (by omega) ?_
  rw [h.H 5 hi (by omega)]
  exact k
theorem a_isHeld (h : CIv G m A) {i : Nat} (hi : i < sL (aS A)) (k : Q (some (.int (sS (aS A) (7 * i + 302)))) m) : WPM G (d + 2) (0, 0) μX10_isHeld [.ref (gB G), .int (nI i)] m Q := by
  obtain ⟨p, hp⟩ : ∃ p, sL (aS A) = p + 1 := ⟨sL (aS A) - 1, by omega⟩
  have h01 := (h.iv.1.2.2.2.2.2.2.2.2.1 i hi).2.2.2.2
  refine iC_isHeld (n := p) h.1 (by rw [← hp]; exact h.nl.1) (by rw [← hp]; exact h.nl.2) (by omega) (fun z => ?_) (fun z => ?_)
  · rw [h.L 6 hi (by omega)] at z
    have z' : sS (aS A) (7 * i + 302) = 0 := z
    rw [z'] at k
    exact k
  · rw [h.L 6 hi (by omega)] at z
    have z' : sS (aS A) (7 * i + 302) = 1 := h01.resolve_left z
    rw [z'] at k
    exact k
theorem a_target (h : CIv G m A) {i : Nat} (hi : i < sL (aS A)) (k : Q (some (.int (tgtF (sS (aS A)) (own (sS (aS A)) (7 * i + 296)) i))) m) : WPM G (d + 4) (0, 0) μX10_target [.ref (gB G), .int (nI i)] m Q := by
  obtain ⟨p, hp⟩ : ∃ p, sL (aS A) = p + 1 := ⟨sL (aS A) - 1, by omega⟩
  obtain ⟨⟨o, ho, ho2⟩, i2, i3, i4, i5⟩ := h.iv.1.2.2.2.2.2.2.2.2.1 i hi
  have h12 := h.nn.2
  refine iC_target (n := p) (k := sN (aS A)) (o := o) h.1 (by rw [← hp]; exact h.nl.1) (by rw [← hp]; exact h.nl.2) (by omega) h.nn.1 h12 ((h.L 0 hi (by omega)).trans ho2) ho ?_
  rw [h.L 2 hi (by omega), h.L 3 hi (by omega), h.N 1 ho (by omega)]
  have e : own (sS (aS A)) (7 * i + 296) = o := own_of ho2 (by omega)
  rw [e] at k
  have hd : ¬ Int32.toInt64 (sS (aS A) (7 * i + 296 + 3) - sS (aS A) (7 * i + 296 + 2)) = 0 := fun z => by
    have z2 := toL_inj0 z
    have := congrArg Int32.toInt z2
    have e1 := i32_sub_rg (a := sS (aS A) (7 * i + 299)) (b := sS (aS A) (7 * i + 298)) (x := -200000) ⟨by have := i3.1; have := i2.1; omega, by have := i3.2; omega⟩ ⟨i2.1, by have := i2.2; omega⟩ (by omega)
    have z0 : (0 : Int32).toInt = 0 := rfl
    have e2 : (sS (aS A) (7 * i + 299) - sS (aS A) (7 * i + 298)).toInt = 0 := this.trans z0
    have := i3.1
    omega
  rw [quoF_eq hd, limF_eq (by decide)]
  exact k
theorem a_usedPower (h : CIv G m A) (k : Q (some (.int (upF (sS (aS A)) (sH (aS A))))) m) : WPM G (d + 5) (0, 0) μX10_usedPower [.ref (gB G)] m Q :=
  eC_usedPower h.1 (C_up h.1 (isC1 G) h.cr.1 h.iv.1.2.2.2.2.1 h.nh.2 (bC_usedPower h.1 k))

theorem a_absorbedHeat (h : CIv G m A) {i : Nat} (hi : i < sN (aS A)) (k : ∀ m', CIv G m' A → Q (some (.long (absF (sS (aS A)) i))) m') : WPM G (d + 6) (0, 0) μX10_absorbedHeat [.ref (gB G), .int (nI i)] m Q := by
  obtain ⟨p, hp⟩ : ∃ p, sN (aS A) = p + 1 := ⟨sN (aS A) - 1, by omega⟩
  have h12 := h.nn.2
  refine iC_absorbedHeat (n := p) h.1 (by rw [← hp]; exact h.nn.1) (by rw [← hp]; exact h.nn.2) (by omega) ?_
  refine C_bh (d := d + 2) h.1 (isC1 G) h.cr.1 h.iv h.cr.2.1 h.cr.2.2.1 h.cr.2.2.2.1 (fun m1 hS hf => ?_)
  have h1 := h.cs hS (fun _ _ => rfl) (fun _ _ => rfl) h.iv
  refine jC_absorbedHeat h1.1 (by omega) ?_
  rw [(hf i hi).1]
  exact k m1 h1
theorem a_emittedHeat (h : CIv G m A) {i : Nat} (hi : i < sN (aS A)) (k : ∀ m', CIv G m' A → Q (some (.long (emF (sS (aS A)) (sL (aS A)) i))) m') : WPM G (d + 6) (0, 0) μX10_emittedHeat [.ref (gB G), .int (nI i)] m Q := by
  obtain ⟨p, hp⟩ : ∃ p, sN (aS A) = p + 1 := ⟨sN (aS A) - 1, by omega⟩
  have h12 := h.nn.2
  refine iC_emittedHeat (n := p) h.1 (by rw [← hp]; exact h.nn.1) (by rw [← hp]; exact h.nn.2) (by omega) ?_
  refine C_bh (d := d + 2) h.1 (isC1 G) h.cr.1 h.iv h.cr.2.1 h.cr.2.2.1 h.cr.2.2.2.1 (fun m1 hS hf => ?_)
  have h1 := h.cs hS (fun _ _ => rfl) (fun _ _ => rfl) h.iv
  refine jC_emittedHeat h1.1 (by omega) ?_
  rw [(hf i hi).2.1]
  exact k m1 h1
theorem a_conductedHeat (h : CIv G m A) {i : Nat} (hi : i < sN (aS A)) (k : ∀ m', CIv G m' A → Q (some (.long (cdF (sS (aS A)) i (sN (aS A))))) m') : WPM G (d + 6) (0, 0) μX10_conductedHeat [.ref (gB G), .int (nI i)] m Q := by
  obtain ⟨p, hp⟩ : ∃ p, sN (aS A) = p + 1 := ⟨sN (aS A) - 1, by omega⟩
  have h12 := h.nn.2
  refine iC_conductedHeat (n := p) h.1 (by rw [← hp]; exact h.nn.1) (by rw [← hp]; exact h.nn.2) (by omega) ?_
  refine C_bh (d := d + 2) h.1 (isC1 G) h.cr.1 h.iv h.cr.2.1 h.cr.2.2.1 h.cr.2.2.2.1 (fun m1 hS hf => ?_)
  have h1 := h.cs hS (fun _ _ => rfl) (fun _ _ => rfl) h.iv
  refine jC_conductedHeat h1.1 (by omega) ?_
  rw [(hf i hi).2.2.1]
  exact k m1 h1
theorem a_netHeat (h : CIv G m A) {i : Nat} (hi : i < sN (aS A)) (k : ∀ m', CIv G m' A → Q (some (.long (Int32.toInt64 (sS (aS A) (11 * i + 24)) + htF (sS (aS A)) i 0 (sH (aS A)) + absF (sS (aS A)) i + cdF (sS (aS A)) i (sN (aS A)) - emF (sS (aS A)) (sL (aS A)) i))) m') : WPM G (d + 6) (0, 0) μX10_netHeat [.ref (gB G), .int (nI i)] m Q := by
  obtain ⟨p, hp⟩ : ∃ p, sN (aS A) = p + 1 := ⟨sN (aS A) - 1, by omega⟩
  have h12 := h.nn.2
  refine iC_netHeat (n := p) h.1 (by rw [← hp]; exact h.nn.1) (by rw [← hp]; exact h.nn.2) (by omega) ?_
  refine C_bh (d := d + 2) h.1 (isC1 G) h.cr.1 h.iv h.cr.2.1 h.cr.2.2.1 h.cr.2.2.2.1 (fun m1 hS hf => ?_)
  have h1 := h.cs hS (fun _ _ => rfl) (fun _ _ => rfl) h.iv
  refine jC_netHeat h1.1 (by omega) ?_
  obtain ⟨f1, f2, f3, f4⟩ := hf i hi
  rw [f1, f2, f3, f4, h1.N 4 hi (by omega)]
  exact k m1 h1
end API
