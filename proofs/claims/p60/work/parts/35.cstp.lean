/-! THE CLASS'S STEP -/
def acC (a : Nat) : Nat := if a = 0 then 217 else if a = 1 then 215 else if a = 2 then 216 else if a = 3 then 218 else if a = 4 then 219 else 214
/-- rule q of the class's rules r in m -/
def RulC (m : Mm) (r sz q : Nat) (R : Ru) : Prop := ∃ i, ai m (r + 3) q = nI i ∧ ai m (r + 4) q = nI (i + (clC R.1).length) ∧ i + (clC R.1).length ≤ sz ∧ CodC m r i (clC R.1) ∧ ai m (r + 6) q = nI (acC R.2.1) ∧ ai m (r + 7) q = nI R.2.2.1 ∧ (R.2.1 = 5 → ai m (r + 5) q = nI (i + (clC R.1).length + R.2.2.2.length) ∧ i + (clC R.1).length + R.2.2.2.length ≤ sz ∧ CodC m r (i + (clC R.1).length) R.2.2.2)
def RulsC (m : Mm) (r : Nat) (L : List Ru) : Prop := ∃ sz, fi m 807 r = nI sz ∧ sz ≤ 500 ∧ fi m 808 r = nI L.length ∧ L.length ≤ 12 ∧ ∀ q R, L[q]? = some R → RulC m r sz q R
theorem switchF_ne {st : Nat → Int32} {nh k : Nat} (h1 : k ≠ 11) (h2 : k ≠ 17) (h3 : ∀ j, j < nh → k ≠ 8 * j + 344 ∧ k ≠ 8 * j + 345) : switchF st nh k = st k := by
  unfold switchF chgF
  rw [upd_ne h1, swF_ne _ _ h2 (fun j hj => (h3 j hj).2)]
  exact w1F_ne st nh h3
section CSTP
variable {G : Cx} {d : Nat} {m0 m : Mm} {c : Nat} {Q : Option Value → Mm → Prop} {st : Nat → Int32} {en : Nat → Int64} {n nl nh : Nat} {T : Int}
theorem CS.rul (h : CS m0 m c (UD n nl nh) st en) {j q : Nat} (hj : j < 8) : ai m (c + 10 + j) q = ai m0 (c + 10 + j) q := h.1.ai (by unfold SA; omega) q
theorem C_due {sz q : Nat} {R : Ru} (hF : Full G m0) (hc : IsC G c) (hI : Iv T st n nl nh) (hz : sz ≤ 500) (hq : q < 12) (hR : RulC m0 (c + 10) sz q R) (hO : RuC n nl nh R) (hS : CS m0 m c (UD n nl nh) st en) (k : ∀ m', CS m0 m' c (UD n nl nh) st en → Q (some (.int (if holdM st nh R.1 = true then 1 else 0))) m') : WPM G (d + 5) (0, 0) μX8_isDue [.ref (c + 10), .int (nI q), .ref c] m Q := by
  obtain ⟨i, r3, r4, hle, hC, -⟩ := hR
  rw [holdM_t st nh hO.1] at k
  refine eC_due (hS.full hF) hc (isRc hc) hq ((hS.rul (by omega)).trans r3) ((hS.rul (by omega)).trans r4) ?_
  have hO1 := hO.1
  generalize R.1 = gs at r4 hle hC hO1 k
  have fin : ∀ z m', CS m0 m' c (UD n nl nh) st en → (z = 0 ↔ (gs.isEmpty || tsV st nh gs) = false) → WP G (d + 5) (0, 0) μX8_isDue 17 [lvU, lvU, lvU] [.long z] m' Q := by
    intro z m' h' hz'
    refine bC_due (h'.full hF) hc (isRc hc) (fun e => ?_) (fun e => ?_)
    · have := k m' h'
      rw [hz'.mp e] at this
      exact this
    · have := k m' h'
      have e2 : (gs.isEmpty || tsV st nh gs) = true := by
        cases hb : (gs.isEmpty || tsV st nh gs) with
        | true => rfl
        | false => exact absurd (hz'.mpr hb) e
      rw [e2] at this
      exact this
  cases gs with
  | nil =>
    refine eC_ev (hS.full hF) hc (isRc hc) (by omega) (by omega) (fun e => absurd rfl e) (fun _ => ?_)
    exact fin 1 m hS ⟨fun z => absurd z (by decide), fun z => absurd z (by simp)⟩
  | cons g gs =>
    obtain ⟨hg1, hg2⟩ := hO1 g List.mem_cons_self
    cases g with
    | nil => exact absurd rfl hg1
    | cons s t =>
      have e1 : clC ((s :: t) :: gs) = s ++ (clT t ++ clR gs) := by
        show (s ++ clT t) ++ clR gs = _
        rw [List.append_assoc]
      rw [e1] at hle hC ⊢
      have hs := hg2 s List.mem_cons_self
      have hne : s.length ≠ 0 := fun z => hs.ne (List.length_eq_zero_iff.mp z)
      have hlen : (s ++ (clT t ++ clR gs)).length = s.length + (clT t ++ clR gs).length := List.length_append
      refine eC_ev (hS.full hF) hc (isRc hc) (by omega) (by omega) (fun _ => ?_) (fun e => by omega)
      refine (C_tst hF hc hI (by omega) gs (fun g' hg' => hO1 g' (List.mem_cons_of_mem _ hg'))).2 t s i m hs (fun y hy => hg2 y (List.mem_cons_of_mem _ hy)) hC rfl hS (fun z m' h' hz' => fin z m' h' ?_)
      rw [hz']
      exact Iff.rfl
theorem C_act {sz q : Nat} {R : Ru} (hF : Full G m0) (hc : IsC G c) (hI : Iv T st n nl nh) (hz : sz ≤ 500) (hq : q < 12) (hR : RulC m0 (c + 10) sz q R) (hO : RuC n nl nh R) (hS : CS m0 m c (UD n nl nh) st en) (k : ∀ m', CS m0 m' c (UD n nl nh) (actF nh R st) en → Q none m') : WPM G (d + 5) (0, 0) μX8_act [.ref (c + 10), .int (nI q), .ref c] m Q := by
  obtain ⟨i, r3, r4, hle, hC, r6, r7, r5⟩ := hR
  obtain ⟨h1, h2, h3, h4, h5⟩ := hO
  have hI' := hI
  obtain ⟨⟨i1, i2, i3, i4, i5, i6, i7, i8, i9, i10, i11⟩, i12⟩ := hI
  have g5 : fi m 5 c = nI n := (hS.rG 12 rfl rfl (by unfold VK; omega) (by unfold UD; omega)).trans i1
  have g7 : fi m 7 c = nI nl := (hS.rG 13 rfl rfl (by unfold VK; omega) (by unfold UD; omega)).trans i3
  have g8 : fi m 8 c = nI nh := (hS.rG 14 rfl rfl (by unfold VK; omega) (by unfold UD; omega)).trans i5
  have hr := isRc hc
  rw [← hS.rul (j := 4) (by omega)] at r4
  rw [← hS.rul (j := 6) (by omega)] at r6
  rw [← hS.rul (j := 7) (by omega)] at r7
  obtain ⟨gs, a, p, ss⟩ := R
  dsimp only at h2 h3 h4 h5 r4 r5 r6 r7 hle
  have ha : a = 0 ∨ a = 1 ∨ a = 2 ∨ a = 3 ∨ a = 4 ∨ a = 5 := by omega
  rcases ha with rfl | rfl | rfl | rfl | rfl | rfl
  · have hp := h3 (by omega)
    exact sC_act0 (i := 0) (e := 0) (hS.full hF) hc hr hq r7 r6 hp g8 i6 (k _ (hS.wH 5 (by omega) (by omega) (fun k hk => Or.inl hk)))
  · have hp := h3 (by omega)
    exact sC_act1 (i := 0) (e := 0) (hS.full hF) hc hr hq r7 r6 hp g8 i6 (k _ (hS.wH 5 (by omega) (by omega) (fun k hk => Or.inl hk)))
  · have hp := h3 (by omega)
    exact sC_act2 (i := 0) (e := 0) (hS.full hF) hc hr hq r7 r6 hp g8 i6 (k _ (hS.wH 5 (by omega) (by omega) (fun k hk => Or.inl hk)))
  · have hp := h4 (by omega)
    exact sC_act3 (i := 0) (e := 0) (hS.full hF) hc hr hq r7 r6 hp g7 i4 (k _ (hS.wL 6 (by omega) (by omega) (fun k hk => Or.inl hk)))
  · have hp := h4 (by omega)
    exact sC_act4 (i := 0) (e := 0) (hS.full hF) hc hr hq r7 r6 hp g7 i4 (k _ (hS.wL 6 (by omega) (by omega) (fun k hk => Or.inl hk)))
  · obtain ⟨hp, hsm⟩ := h5 rfl
    obtain ⟨s5, s6, s7⟩ := r5 rfl
    rw [← hS.rul (j := 5) (by omega)] at s5
    refine sC_act5 (hS.full hF) hc hr hq r7 r6 hp g5 i2 r4 s5 ?_
    have hne : ss.length ≠ 0 := fun z => by
      have := hsm.1
      rw [List.length_eq_zero_iff.mp z] at this
      exact absurd (show (0 : Nat) = 1 from this) (by decide)
    refine eC_ev (hS.full hF) hc hr (by omega) (by omega) (fun _ => ?_) (fun e => by omega)
    refine C_evl hF hc hI' (by omega) ss _ [] m (Nat.le_refl _) hS s7 hsm.2 (OkC_mono (by omega) hsm.1) (by decide) trivial (fun _ h => absurd h List.not_mem_nil) (fun m1 h1 A1 _ => ?_)
    rw [evMs_val st nh hsm.1] at A1
    refine bC_evx (s := 0) (h1.full hF) hc hr (by omega) (by decide) ?_
    rw [show al m1 (c + 10 + 8) 0 = valM st nh ss from A1.1]
    refine bC_act5 (h1.full hF) hc hr (by omega) ?_
    rw [limF_eq (by decide)]
    exact k _ (h1.wN 4 (by omega) (by omega) (fun k hk => Or.inl hk))
/-- all of a craft: the class's craft c in m stands for (st, en), rules L, links l -/
def CR (m : Mm) (c : Nat) (st : Nat → Int32) (en : Nat → Int64) (n nl nh : Nat) (L : List Ru) (l : List Lk) : Prop :=
  CS m m c (UD n nl nh) st en ∧ LkC m c l ∧ LkOK n l ∧ LkS st n l ∧ RkC m c st nh ∧ RulsC m (c + 10) L ∧ (∀ R ∈ L, RuC n nl nh R) ∧ st 15 = nI L.length
theorem stepE_eq {L : List Ru} {st : Nat → Int32} {en : Nat → Int64} {n nl nh : Nat} : enW (switchF (mvF (rulF nh L st) nl) nh) nl (vp_updL en 2 (en 2 + Int32.toInt64 (switchF (mvF (rulF nh L st) nl) nh 1) * Int32.toInt64 (upF (switchF (mvF (rulF nh L st) nl) nh) nh))) n = stepE n nl nh L st en := by
  unfold stepE enF enW
  funext j
  by_cases h2 : j = 2
  · subst h2
    rw [updL_ne (by decide), updL_ne (by decide), updL_eq, updL_eq]
  · rw [updL_ne h2]
    by_cases h1 : j = 1
    · subst h1
      rw [updL_eq, updL_eq, updL_ne (by decide)]
    · rw [updL_ne h1, updL_ne h1]
      by_cases h0 : j = 0
      · subst h0
        rw [updL_eq, updL_eq, updL_ne (by decide)]
      · rw [updL_ne h0, updL_ne h0, updL_ne h2]
theorem Iv_rul : ∀ (L : List Ru) (st : Nat → Int32), Iv T st n nl nh → (∀ R ∈ L, RuC n nl nh R) → Iv T (rulF nh L st) n nl nh
  | [], _, h, _ => h
  | R :: L, st, h, hL => Iv_rul L (carF nh R st) (Iv_car h (hL R List.mem_cons_self)) (fun R' hR' => hL R' (List.mem_cons_of_mem _ hR'))
/-- the stages of a step -/
theorem Iv_s5 {L : List Ru} (h : Iv T st n nl nh) (hT : T ≤ 2000000000) (hL : ∀ R ∈ L, RuC n nl nh R) : Iv T (warmF (switchF (mvF (rulF nh L st) nl) nh) n nl nh n) n nl nh ∧ Iv (T + 60) (s5F n nl nh L st) n nl nh ∧ ∀ j, j < n → rg (s5F n nl nh L st (11 * j + 29)) 0 ((s5F n nl nh L st 0).toInt - 1) := by
  have h1 := Iv_warmF (Iv_switchF (Iv_mvF (Iv_rul L st h hL) nl (Nat.le_refl _))) n (Nat.le_refl _)
  obtain ⟨h2, h3⟩ := Iv_time h1 hT
  refine ⟨h1, h2, fun j hj => ?_⟩
  have c := (h1.1.2.2.2.2.2.2.2.1 j hj).2.2.1
  have hs := h1.1.2.2.2.2.2.2.1.2.1.1
  show rg (upd _ 0 _ _) 0 ((upd _ 0 _ 0).toInt - 1)
  rw [h3, upd_ne (by omega)]
  exact ⟨c.1, by have := c.2; omega⟩
theorem Iv_step {L : List Ru} (h : Iv T st n nl nh) (hT : T ≤ 1900000000) (hL : ∀ R ∈ L, RuC n nl nh R) : RecI (s5F n nl nh L st) n (T + 60) ∧ Iv (T + 60) (stepS n nl nh L st) n nl nh := by
  obtain ⟨-, h2, h3⟩ := Iv_s5 h (by omega) hL
  exact Iv_recF h2 (by omega) h3
def NC (n nl nh k : Nat) : Prop := k ≠ 0 ∧ k ≠ 11 ∧ k ≠ 16 ∧ k ≠ 17 ∧ (∀ i, i < n → k ≠ 11 * i + 21 ∧ k ≠ 11 * i + 24 ∧ ¬ (11 * i + 27 ≤ k ∧ k ≤ 11 * i + 30)) ∧ (∀ l, l < nl → k ≠ 7 * l + 301 ∧ k ≠ 7 * l + 302) ∧ (∀ h, h < nh → k ≠ 8 * h + 343 ∧ k ≠ 8 * h + 344 ∧ k ≠ 8 * h + 345) ∧ ¬ (402 ≤ k ∧ k < 414)
theorem rul_ne {k : Nat} (hk : NC n nl nh k) : ∀ (L : List Ru) (st : Nat → Int32), (∀ R ∈ L, RuC n nl nh R) → rulF nh L st k = st k
  | [], _, _ => rfl
  | R :: L, st, hL => by
    show rulF nh L (carF nh R st) k = st k
    rw [rul_ne hk L _ (fun R' hR' => hL R' (List.mem_cons_of_mem _ hR'))]
    obtain ⟨h1, h2, h3, h4, h5⟩ := hL R List.mem_cons_self
    obtain ⟨k1, k2, k3, k4, k5, k6, k7, k8⟩ := hk
    exact carF_ne ⟨fun e => (k5 _ (h5 e).1).2.1, fun e => (k6 _ (h4 e)).2, fun e => (k7 _ (h3 e)).1⟩ h2
theorem stepS_ne {L : List Ru} {k : Nat} (h : Iv T st n nl nh) (hT : T ≤ 1900000000) (hL : ∀ R ∈ L, RuC n nl nh R) (hk : NC n nl nh k) : stepS n nl nh L st k = st k := by
  obtain ⟨hR, -⟩ := Iv_step h hT hL
  obtain ⟨-, -, a3⟩ := recF_ok h.1.2.1 hR n (Nat.le_refl _)
  have hk' := hk
  obtain ⟨k1, k2, k3, k4, k5, k6, k7, k8⟩ := hk'
  have e1 : stepS n nl nh L st k = s5F n nl nh L st k := (a3 k).resolve_left (fun z => by
    rcases z with z | z | ⟨j, z1, z2⟩
    · exact k3 z
    · exact k8 z
    · exact (k5 j z1).2.2 z2)
  rw [e1]
  show upd _ 0 _ k = _
  rw [upd_ne k1, warmF_ne _ _ _ _ n (fun j hj => (k5 j hj).1), switchF_ne k2 k4 (fun j hj => ⟨(k7 j hj).2.1, (k7 j hj).2.2⟩), mvF_ne _ nl (fun j hj => (k6 j hj).1), rul_ne hk L st hL]
theorem CS.same (h : CS m0 m c (UD n nl nh) st en) : CS m m c (UD n nl nh) st en := ⟨Out.rf, K6.rf, h.2.2⟩
theorem RkC.of {m' : Mm} {st' : Nat → Int32} (h : RkC m c st nh) (h1 : ∀ k, ai m' (c + 5) k = ai m (c + 5) k) (h2 : ∀ j, j < nh → st' (8 * j + 342) = st (8 * j + 342)) : RkC m' c st' nh := by
  intro i q hq
  rw [rnk_eq h2] at hq
  rw [h1]
  exact h i q hq
theorem CodC.of {m' : Mm} {r : Nat} (h1 : ∀ j k, j < 8 → ai m' (r + j) k = ai m (r + j) k) : ∀ (cs : List Cd) (i : Nat), CodC m r i cs → CodC m' r i cs
  | [], _, _ => trivial
  | _ :: cs, i, ⟨a, b, c⟩ => ⟨(h1 1 _ (by omega)).trans a, (h1 2 _ (by omega)).trans b, CodC.of h1 cs (i + 1) c⟩
theorem RulsC.of {m' : Mm} {r : Nat} {L : List Ru} (h : RulsC m r L) (h1 : ∀ j k, j < 8 → ai m' (r + j) k = ai m (r + j) k) (h2 : ∀ f, fi m' f r = fi m f r) : RulsC m' r L := by
  obtain ⟨sz, a1, a2, a3, a4, a5⟩ := h
  refine ⟨sz, (h2 _).trans a1, a2, (h2 _).trans a3, a4, fun q R hR => ?_⟩
  obtain ⟨i, b3, b4, b1, b2, b6, b7, b5⟩ := a5 q R hR
  refine ⟨i, (h1 3 _ (by omega)).trans b3, (h1 4 _ (by omega)).trans b4, b1, CodC.of h1 _ _ b2, (h1 6 _ (by omega)).trans b6, (h1 7 _ (by omega)).trans b7, fun e => ?_⟩
  obtain ⟨c1, c2, c3⟩ := b5 e
  exact ⟨(h1 5 _ (by omega)).trans c1, c2, CodC.of h1 _ _ c3⟩
/-- what else a craft stands for, when only the cells of a step changed -/
theorem CR.of {L : List Ru} {l : List Lk} {st' : Nat → Int32} {en' : Nat → Int64} (h : CR m0 c st en n nl nh L l) (hS : CS m0 m c (UD n nl nh) st' en') (h1 : ∀ k, (152 ≤ k ∧ k < 296) ∨ k = 15 → st' k = st k) (h2 : ∀ j, j < nh → st' (8 * j + 342) = st (8 * j + 342)) (hn : n ≤ 12) : CR m c st' en' n nl nh L l := by
  obtain ⟨a1, ⟨b1, b2, b3⟩, a3, a4, a5, a6, a7, a8⟩ := h
  refine ⟨hS.same, ⟨hS.2.1.1.trans b1, b2, fun i x hx => ?_⟩, a3, fun i j hi hj => ?_, a5.of (fun k => hS.1.ai (by unfold SA; omega) k) h2, a6.of (fun j k hj => hS.1.ai (by unfold SA; omega) k) (fun f => hS.1.fi (by unfold SA; omega) f), a7, (h1 15 (Or.inr rfl)).trans a8⟩
  · obtain ⟨c1, c2, c3⟩ := b3 i x hx
    have hi : i < l.length := (List.getElem?_eq_some_iff.mp hx).1
    have hlk : ¬ SA c (lk c i) := by unfold SA lk; omega
    exact ⟨(hS.1.fi hlk _).trans c1, (hS.1.fi hlk _).trans c2, (hS.1.fi hlk _).trans c3⟩
  · rw [h1 _ (Or.inl (by omega))]
    exact a4 i j hi hj
theorem C_step {L : List Ru} {l : List Lk} (hF : Full G m0) (hc : IsC G c) (hR : CR m0 c st en n nl nh L l) (hI : Iv T st n nl nh) (hT : T ≤ 1900000000) (k : ∀ m', CR m' c (stepS n nl nh L st) (stepE n nl nh L st en) n nl nh L l → Out (SA c) m' m0 → K6 m' m0 c → Q (some (.int (stepV n nl nh L st))) m') : WPM G (d + 6) (0, 0) μX0_step [.ref c] m0 Q := by
  have hR' := hR
  obtain ⟨hS, hLk, hLO, hLS, hRk, ⟨sz, z1, z2, z3, z4, z5⟩, hOL, h15⟩ := hR'
  have q1 := hI.1.2.1
  have q2 := hI.1.2.2.2.1
  have q3 := hI.1.2.2.2.2.2.1
  have hIr : ∀ r, r ≤ L.length → Iv T (rulF nh (L.take r) st) n nl nh := fun r _ => Iv_rul _ st hI (fun R hR => hOL R (List.mem_of_mem_take hR))
  refine eC_st hF hc ?_
  refine loopN (n := L.length) (P := fun r m => CS m0 m c (UD n nl nh) (rulF nh (L.take r) st) en) (W := fun r m => WP G (d + 6) (0, 0) μX0_step 2 [.ref c, .int (nI r)] [] m Q) ?_ 0 (Nat.zero_le _) m0 hS
  intro r m1 hr h1 ih
  have r8 : fi m1 808 (c + 10) = nI L.length := (h1.1.fi (by unfold SA; omega) 808).trans z3
  refine bC_st (h1.full hF) hc r8 z4 hr (fun hn => ?_) (fun hn => ?_)
  · have e : r = L.length := by omega
    subst e
    rw [List.take_length] at h1
    have I1 := Iv_rul L st hI hOL
    refine C_mv hF hc h1 I1.1 (fun m2 h2 => ?_)
    have I2 := Iv_mvF I1 nl (Nat.le_refl _)
    refine bC_st3 (h2.full hF) hc ?_
    have hux : ∀ l k, UX n nl nh l k → UD n nl nh k := fun l k h => h.1
    refine C_dw hF hc (h2.mono (hux _)) I2 (fun m3 h3 => ?_)
    refine bC_st4 (h3.full hF) hc ?_
    have hRk2 : RkC m0 c (mvF (rulF nh L st) nl) nh := hRk.of (fun _ => rfl) (fun j hj => by
      rw [mvF_ne _ nl (fun q _ => by omega)]
      exact rul_ne ⟨by omega, by omega, by omega, by omega, fun i _ => by omega, fun i _ => by omega, fun i _ => by omega, by omega⟩ L st hOL)
    refine C_sp hF hc h3 I2 hRk2 (fun m4 h4 => ?_)
    refine bC_st5 (h4.full hF) hc ?_
    have I4 := Iv_switchF I2
    have hLS4 : LkS (switchF (mvF (rulF nh L st) nl) nh) n l := fun i j hi hj => by
      rw [switchF_ne (by omega) (by omega) (fun q _ => by omega), mvF_ne _ nl (fun q _ => by omega), rul_ne ⟨by omega, by omega, by omega, by omega, fun i _ => by omega, fun i _ => by omega, fun i _ => by omega, by omega⟩ L st hOL]
      exact hLS i j hi hj
    refine C_bh hF hc h4 I4 hLk hLO hLS4 (fun m5 h5 f5 => ?_)
    refine bC_st6 (h5.full hF) hc ?_
    refine C_wn hF hc h5 f5 I4 (fun m6 h6 => ?_)
    refine bC_st7 (h6.full hF) hc ?_
    have hw1 : switchF (mvF (rulF nh L st) nl) nh 1 = mvF (rulF nh L st) nl 1 := switchF_ne (by omega) (by omega) (fun q _ => by omega)
    rw [← hw1, stepE_eq] at h6
    have t0 : fi m6 14 c = warmF (switchF (mvF (rulF nh L st) nl) nh) n nl nh n 0 := h6.rG 0 rfl rfl (by unfold VK; omega) (by unfold UD; omega)
    have t1 : fi m6 13 c = warmF (switchF (mvF (rulF nh L st) nl) nh) n nl nh n 1 := h6.rG 1 rfl rfl (by unfold VK; omega) (by unfold UD; omega)
    have h7 : CS m0 (wfi m6 14 c (fi m6 14 c + fi m6 13 c)) c (UD n nl nh) (s5F n nl nh L st) (stepE n nl nh L st en) := by
      rw [t0, t1]
      exact h6.w 0 rfl rfl (by unfold VK; omega) (by omega) (by omega) (fun k hk => Or.inl hk)
    obtain ⟨-, I5, v5⟩ := Iv_s5 hI (by omega) hOL
    obtain ⟨hRec, I6⟩ := Iv_step hI hT hOL
    refine C_rt hF hc h7 I5.1.1 q1 hRec (fun m8 h8 => ?_)
    refine bC_st8 (h8.full hF) hc (vioF_b _ _) (k m8 ?_ h8.1 h8.2.1)
    refine hR.of h8 (fun k hk => stepS_ne hI hT hOL ?_) (fun j hj => stepS_ne hI hT hOL ?_) q1
    · refine ⟨by omega, by omega, by omega, by omega, fun i _ => by omega, fun i _ => by omega, fun i _ => by omega, by omega⟩
    · refine ⟨by omega, by omega, by omega, by omega, fun i _ => by omega, fun i _ => by omega, fun i _ => by omega, by omega⟩
  · have e : L[r]? = some L[r] := List.getElem?_eq_getElem hn
    have hO := hOL L[r] (List.getElem_mem hn)
    have hRu := z5 r _ e
    refine C_due hF hc (hIr r hr) z2 (by omega) hRu hO h1 (fun m2 h2 => ?_)
    refine bC_st1 (h2.full hF) hc (fun z => ?_) (fun z => ?_)
    · have hh : ¬ holdM (rulF nh (L.take r) st) nh L[r].1 = true := fun q => by
        rw [if_pos q] at z
        exact absurd z (by decide)
      refine ih hn m2 ?_
      rw [rulF_take nh L st r _ e, show carF nh L[r] (rulF nh (L.take r) st) = rulF nh (L.take r) st from if_neg hh]
      exact h2
    · have hh : holdM (rulF nh (L.take r) st) nh L[r].1 = true := by
        by_cases q : holdM (rulF nh (L.take r) st) nh L[r].1 = true
        · exact q
        · rw [if_neg q] at z
          exact absurd rfl z
      refine C_act hF hc (hIr r hr) z2 (by omega) hRu hO h2 (fun m3 h3 => ?_)
      refine bC_st2 (h3.full hF) hc (ih hn m3 ?_)
      rw [rulF_take nh L st r _ e, show carF nh L[r] (rulF nh (L.take r) st) = actF nh L[r] (rulF nh (L.take r) st) from if_pos hh]
      exact h3
end CSTP
