/-! THE CLASS'S METHODS that change the state -/
theorem Iv.lo {T : Int} {st st' : Nat → Int32} {n nl nh : Nat} (h : Iv T st n nl nh) (e : ∀ k, k = 0 ∨ 12 ≤ k → st' k = st k) (h1 : rg (st' 1) 1 60) (h2 : rg (st' 2) 1 100000) (h8 : rg (st' 8) 0 1000000) (h9 : rg (st' 9) 0 1000000) (h10 : rg (st' 10) 0 1000000000) (h11 : rg (st' 11) 0 (st' 10).toInt) : Iv T st' n nl nh := by
  obtain ⟨⟨i1, i2, i3, i4, i5, i6, ⟨j1, j2, j3, j4, j5, j6, j7⟩, i8, i9, i10, i11⟩, i12⟩ := h
  refine ⟨⟨(e 12 (by omega)).trans i1, i2, (e 13 (by omega)).trans i3, i4, (e 14 (by omega)).trans i5, i6, ⟨?_, h1, h2, h8, h9, h10, h11⟩, fun i hi => ?_, fun i hi => ?_, fun i hi => ?_, ?_⟩, fun i hi => by rw [e _ (by omega)]; exact i12 i hi⟩
  · rw [e 0 (by omega)]; exact j1
  · have := i8 i hi
    unfold InvN at this ⊢
    rw [e (11 * i + 20) (by omega), e (11 * i + 21) (by omega), e (11 * i + 29) (by omega), e (11 * i + 30) (by omega), e 0 (by omega)]
    exact this
  · have := i9 i hi
    unfold InvL at this ⊢
    rw [e (7 * i + 296) (by omega), e (7 * i + 298) (by omega), e (7 * i + 299) (by omega), e (7 * i + 300) (by omega), e (7 * i + 302) (by omega)]
    exact this
  · have := i10 i hi
    unfold InvH at this ⊢
    rw [e (8 * i + 338) (by omega), e (8 * i + 339) (by omega), e (8 * i + 342) (by omega), e (8 * i + 344) (by omega)]
    exact this
  · rw [e 16 (by omega), i11]
    exact congrArg nI (vcnt_eq _ (fun j hj => e _ (by omega))).symm
/-- only the numbers of the state change -/
abbrev stA (A : Ab) (st : Nat → Int32) : Ab := ((st, (aS A).2), A.2)
section API2
variable {G : Cx} {d : Nat} {m m' : Mm} {A : Ab} {Q : Option Value → Mm → Prop}
theorem a_setStepLength (h : CIv G m A) {x : Int32} (hx : rg x 1 60) (k : ∀ m', CIv G m' (stA A (upd (sS (aS A)) 1 x)) → Q (some (.int (sS (aS A) 1))) m') : WPM G (d + 2) (0, 0) μX10_setStepLength [.ref (gB G), .int x] m Q := by
  refine sC_setStepLength h.1 (fun z => absurd z (rg_lo hx (by decide))) (fun _ z => absurd z (rg_hi hx (by decide))) (fun _ _ => ?_)
  have r13 : fi m 13 (gB G + 1) = sS (aS A) 1 := h.rd (k := 1) rfl rfl (by unfold VK; omega) (by unfold UD; omega)
  rw [r13]
  have hS : CS m _ (gB G + 1) (UD (sN (aS A)) (sL (aS A)) (sH (aS A))) (upd (sS (aS A)) 1 x) (sE (aS A)) := (h.cr.1.w (x := x) (D' := (UD (sN (aS A)) (sL (aS A)) (sH (aS A)))) 1 rfl rfl (by unfold VK; omega) (by omega) (by omega) (fun k hk => Or.inl hk))
  have g := h.iv.1.2.2.2.2.2.2.1
  refine k _ (h.cs hS (fun k hk => upd_ne (by omega)) (fun j hj => upd_ne (by omega)) (h.iv.lo (fun k hk => upd_ne (by omega)) ?_ ?_ ?_ ?_ ?_ ?_))
  · rw [upd_eq]; exact hx
  · rw [upd_ne (by omega)]; exact g.2.2.1
  · rw [upd_ne (by omega)]; exact g.2.2.2.1
  · rw [upd_ne (by omega)]; exact g.2.2.2.2.1
  · rw [upd_ne (by omega)]; exact g.2.2.2.2.2.1
  · rw [upd_ne (by omega), upd_ne (by omega)]; exact g.2.2.2.2.2.2
def orbS (st : Nat → Int32) (x y z w u v : Int32) : Nat → Int32 := upd (upd (upd (upd (upd (upd st 2 x) 3 y) 4 z) 5 w) 6 u) 7 v
theorem orbS_ne {st : Nat → Int32} {x y z w u v : Int32} {k : Nat} (h : k < 2 ∨ 8 ≤ k) : orbS st x y z w u v k = st k := by
  unfold orbS
  rw [upd_ne (by omega), upd_ne (by omega), upd_ne (by omega), upd_ne (by omega), upd_ne (by omega), upd_ne (by omega)]
theorem orbS_2 {st : Nat → Int32} {x y z w u v : Int32} : orbS st x y z w u v 2 = x := by
  unfold orbS
  rw [upd_ne (by omega), upd_ne (by omega), upd_ne (by omega), upd_ne (by omega), upd_ne (by omega), upd_eq]
theorem a_setOrbit (h : CIv G m A) {x y z w u v : Int32} (hx : rg x 1 100000) (hy : rg y 0 x.toInt) (hz : rg z y.toInt x.toInt) (hw : rg w 0 10000) (hu : rg u 0 100) (hv : rg v 0 10000) (k : ∀ m', CIv G m' (stA A (orbS (sS (aS A)) x y z w u v)) → Q (some (.int (0 : Int32))) m') : WPM G (d + 2) (0, 0) μX10_setOrbit [.ref (gB G), .int x, .int y, .int z, .int w, .int u, .int v] m Q := by
  refine sC_setOrbit h.1 (fun c => absurd c (rg_lo hx (by decide))) (fun _ c => absurd c (rg_hi hx (by decide))) (fun _ _ c => absurd c (rg_lo hy (by decide))) (fun _ _ _ c => absurd c (rg_hi hy (Int.le_refl _))) (fun _ _ _ _ c => absurd c (rg_lo hz (Int.le_refl _))) (fun _ _ _ _ _ c => absurd c (rg_hi hz (Int.le_refl _))) (fun _ _ _ _ _ _ c => absurd c (rg_lo hw (by decide))) (fun _ _ _ _ _ _ _ c => absurd c (rg_hi hw (by decide))) (fun _ _ _ _ _ _ _ _ c => absurd c (rg_lo hu (by decide))) (fun _ _ _ _ _ _ _ _ _ c => absurd c (rg_hi hu (by decide))) (fun _ _ _ _ _ _ _ _ _ _ c => absurd c (rg_lo hv (by decide))) (fun _ _ _ _ _ _ _ _ _ _ _ c => absurd c (rg_hi hv (by decide))) (fun _ _ _ _ _ _ _ _ _ _ _ _ => ?_)
  have hS : CS m _ (gB G + 1) (UD (sN (aS A)) (sL (aS A)) (sH (aS A))) (orbS (sS (aS A)) x y z w u v) (sE (aS A)) := ((((((h.cr.1.w (x := x) (D' := (UD (sN (aS A)) (sL (aS A)) (sH (aS A)))) 2 rfl rfl (by unfold VK; omega) (by omega) (by omega) (fun k hk => Or.inl hk)).w (x := y) (D' := (UD (sN (aS A)) (sL (aS A)) (sH (aS A)))) 3 rfl rfl (by unfold VK; omega) (by omega) (by omega) (fun k hk => Or.inl hk)).w (x := z) (D' := (UD (sN (aS A)) (sL (aS A)) (sH (aS A)))) 4 rfl rfl (by unfold VK; omega) (by omega) (by omega) (fun k hk => Or.inl hk)).w (x := w) (D' := (UD (sN (aS A)) (sL (aS A)) (sH (aS A)))) 5 rfl rfl (by unfold VK; omega) (by omega) (by omega) (fun k hk => Or.inl hk)).w (x := u) (D' := (UD (sN (aS A)) (sL (aS A)) (sH (aS A)))) 6 rfl rfl (by unfold VK; omega) (by omega) (by omega) (fun k hk => Or.inl hk)).w (x := v) (D' := (UD (sN (aS A)) (sL (aS A)) (sH (aS A)))) 7 rfl rfl (by unfold VK; omega) (by omega) (by omega) (fun k hk => Or.inl hk))
  have g := h.iv.1.2.2.2.2.2.2.1
  refine k _ (h.cs hS (fun k hk => orbS_ne (by omega)) (fun j hj => orbS_ne (by omega)) (h.iv.lo (fun k hk => orbS_ne (by omega)) ?_ ?_ ?_ ?_ ?_ ?_))
  · rw [orbS_ne (by omega)]; exact g.2.1
  · rw [orbS_2]; exact hx
  · rw [orbS_ne (by omega)]; exact g.2.2.2.1
  · rw [orbS_ne (by omega)]; exact g.2.2.2.2.1
  · rw [orbS_ne (by omega)]; exact g.2.2.2.2.2.1
  · rw [orbS_ne (by omega), orbS_ne (by omega)]; exact g.2.2.2.2.2.2
def powS (st : Nat → Int32) (x y z w : Int32) : Nat → Int32 := upd (upd (upd (upd st 8 x) 9 y) 10 z) 11 w
theorem powS_ne {st : Nat → Int32} {x y z w : Int32} {k : Nat} (h : k < 8 ∨ 12 ≤ k) : powS st x y z w k = st k := by
  unfold powS
  rw [upd_ne (by omega), upd_ne (by omega), upd_ne (by omega), upd_ne (by omega)]
theorem powS_v {st : Nat → Int32} {x y z w : Int32} : powS st x y z w 8 = x ∧ powS st x y z w 9 = y ∧ powS st x y z w 10 = z ∧ powS st x y z w 11 = w := by
  unfold powS
  refine ⟨?_, ?_, ?_, ?_⟩
  · rw [upd_ne (by omega), upd_ne (by omega), upd_ne (by omega), upd_eq]
  · rw [upd_ne (by omega), upd_ne (by omega), upd_eq]
  · rw [upd_ne (by omega), upd_eq]
  · rw [upd_eq]
theorem a_setPower (h : CIv G m A) {x y z w : Int32} (hx : rg x 0 1000000) (hy : rg y 0 1000000) (hz : rg z 0 1000000000) (hw : rg w 0 z.toInt) (k : ∀ m', CIv G m' (stA A (powS (sS (aS A)) x y z w)) → Q (some (.int (0 : Int32))) m') : WPM G (d + 2) (0, 0) μX10_setPower [.ref (gB G), .int x, .int y, .int z, .int w] m Q := by
  refine sC_setPower h.1 (fun c => absurd c (rg_lo hx (by decide))) (fun _ c => absurd c (rg_hi hx (by decide))) (fun _ _ c => absurd c (rg_lo hy (by decide))) (fun _ _ _ c => absurd c (rg_hi hy (by decide))) (fun _ _ _ _ c => absurd c (rg_lo hz (by decide))) (fun _ _ _ _ _ c => absurd c (rg_hi hz (by decide))) (fun _ _ _ _ _ _ c => absurd c (rg_lo hw (by decide))) (fun _ _ _ _ _ _ _ c => absurd c (rg_hi hw (Int.le_refl _))) (fun _ _ _ _ _ _ _ _ => ?_)
  have hS : CS m _ (gB G + 1) (UD (sN (aS A)) (sL (aS A)) (sH (aS A))) (powS (sS (aS A)) x y z w) (sE (aS A)) := ((((h.cr.1.w (x := x) (D' := (UD (sN (aS A)) (sL (aS A)) (sH (aS A)))) 8 rfl rfl (by unfold VK; omega) (by omega) (by omega) (fun k hk => Or.inl hk)).w (x := y) (D' := (UD (sN (aS A)) (sL (aS A)) (sH (aS A)))) 9 rfl rfl (by unfold VK; omega) (by omega) (by omega) (fun k hk => Or.inl hk)).w (x := z) (D' := (UD (sN (aS A)) (sL (aS A)) (sH (aS A)))) 10 rfl rfl (by unfold VK; omega) (by omega) (by omega) (fun k hk => Or.inl hk)).w (x := w) (D' := (UD (sN (aS A)) (sL (aS A)) (sH (aS A)))) 11 rfl rfl (by unfold VK; omega) (by omega) (by omega) (fun k hk => Or.inl hk))
  have g := h.iv.1.2.2.2.2.2.2.1
  obtain ⟨v1, v2, v3, v4⟩ := powS_v (st := sS (aS A)) (x := x) (y := y) (z := z) (w := w)
  refine k _ (h.cs hS (fun k hk => powS_ne (by omega)) (fun j hj => powS_ne (by omega)) (h.iv.lo (fun k hk => powS_ne (by omega)) ?_ ?_ ?_ ?_ ?_ ?_))
  · rw [powS_ne (by omega)]; exact g.2.1
  · rw [powS_ne (by omega)]; exact g.2.2.1
  · rw [v1]; exact hx
  · rw [v2]; exact hy
  · rw [v3]; exact hz
  · rw [v3, v4]; exact hw
def limS (st : Nat → Int32) (j : Nat) (y z : Int32) : Nat → Int32 := upd (upd st (11 * j + 25) y) (11 * j + 26) z
theorem a_setLimits (h : CIv G m A) {j : Nat} {y z : Int32} (hj : j < sN (aS A)) (hz : rg z (-200000) 200000) (hy : rg y (-200000) z.toInt) (k : ∀ m', CIv G m' (stA A (limS (sS (aS A)) j y z)) → Q (some (.int (0 : Int32))) m') : WPM G (d + 2) (0, 0) μX10_setLimits [.ref (gB G), .int (nI j), .int y, .int z] m Q := by
  obtain ⟨p, hp⟩ : ∃ p, sN (aS A) = p + 1 := ⟨sN (aS A) - 1, by omega⟩
  have h12 := h.nn.2
  refine iC_setLimits (n := p) h.1 (by rw [← hp]; exact h.nn.1) (by rw [← hp]; exact h.nn.2) (by omega) (fun c => absurd c (rg_lo hz (by decide))) (fun _ c => absurd c (rg_hi hz (by decide))) (fun _ _ c => absurd c (rg_lo hy (by decide))) (fun _ _ _ c => absurd c (rg_hi hy (Int.le_refl _))) (fun _ _ _ _ => ?_)
  have hS : CS m _ (gB G + 1) (UD (sN (aS A)) (sL (aS A)) (sH (aS A))) (limS (sS (aS A)) j y z) (sE (aS A)) := (h.cr.1.wN (i := j) (x := y) (D' := UD (sN (aS A)) (sL (aS A)) (sH (aS A))) 5 (by omega) (by omega) (fun k hk => Or.inl hk)).wN (i := j) (x := z) (D' := UD (sN (aS A)) (sL (aS A)) (sH (aS A))) 6 (by omega) (by omega) (fun k hk => Or.inl hk)
  have hI : Iv 100000000 (limS (sS (aS A)) j y z) (sN (aS A)) (sL (aS A)) (sH (aS A)) := (h.iv.upd (x := y) (k := 11 * j + 25) (by omega) (fun _ _ => by omega) (fun _ _ => ⟨fun _ _ _ => by omega, fun _ => by omega⟩) (fun _ _ => ⟨fun _ _ => by omega, fun _ => by omega, fun _ => by omega⟩)).upd (by omega) (fun _ _ => by omega) (fun _ _ => ⟨fun _ _ _ => by omega, fun _ => by omega⟩) (fun _ _ => ⟨fun _ _ => by omega, fun _ => by omega, fun _ => by omega⟩)
  exact k _ (h.cs hS (fun k hk => by unfold limS; rw [upd_ne (by omega), upd_ne (by omega)]) (fun q hq => by unfold limS; rw [upd_ne (by omega), upd_ne (by omega)]) hI)
theorem a_setMode (h : CIv G m A) {j : Nat} {y : Int32} (hj : j < sH (aS A)) (hy : y = 0 ∨ y = 1 ∨ y = 2) (k : ∀ m', CIv G m' (stA A (upd (sS (aS A)) (8 * j + 343) y)) → Q (some (.int (sS (aS A) (8 * j + 343)))) m') : WPM G (d + 2) (0, 0) μX10_setMode [.ref (gB G), .int (nI j), .int y] m Q := by
  obtain ⟨p, hp⟩ : ∃ p, sH (aS A) = p + 1 := ⟨sH (aS A) - 1, by omega⟩
  have h12 := h.nn.2
  have h8 := h.nh.2
  have hl6 := h.nl.2
  have hr : rg y 0 2 := by rcases hy with e | e | e <;> rw [e] <;> exact ⟨by decide, by decide⟩
  refine iC_setMode (n := p) h.1 (by rw [← hp]; exact h.nh.1) (by rw [← hp]; exact h.nh.2) (by omega) (fun c => absurd c (rg_lo hr (by decide))) (fun _ c => absurd c (rg_hi hr (by decide))) (fun _ _ => ?_)
  rw [h.H 5 hj (by omega)]
  have hS : CS m _ (gB G + 1) (UD (sN (aS A)) (sL (aS A)) (sH (aS A))) (upd (sS (aS A)) (8 * j + 343) y) (sE (aS A)) := (h.cr.1.wH (i := j) (x := y) (D' := UD (sN (aS A)) (sL (aS A)) (sH (aS A))) 5 (by omega) (by omega) (fun k hk => Or.inl hk))
  have hI : Iv 100000000 (upd (sS (aS A)) (8 * j + 343) y) (sN (aS A)) (sL (aS A)) (sH (aS A)) := h.iv.upd (by omega) (fun _ _ => by omega) (fun _ _ => ⟨fun _ _ _ => by omega, fun _ => by omega⟩) (fun _ _ => ⟨fun _ _ => by omega, fun _ => by omega, fun _ => hy⟩)
  exact k _ (h.cs hS (fun k hk => by rw [upd_ne (by omega)]) (fun q hq => by rw [upd_ne (by omega)]) hI)
/-- the whole craft's state anew -/
theorem CIv.sc (h : CIv G m A) {s' : Sc} (hO : Out (CT G) m' m) (hC : CRx m' (gB G + 1) s') (hG : GdT 100000000 s') : CIv G m' (s', A.2) := ⟨hO.full h.1, h.2.1.craft hO hC, ⟨hG, h.2.2.2⟩⟩
def vcs (s : Sc) : Nat → Int32
  | 0 => 0
  | j + 1 => if svi (it s j) = 0 then vcs s j else vcs s j + 1
theorem C_runl {i : Nat} {m0 : Mm} {s : Sc} (hF : Full G m0) (hC : CRx m0 (gB G + 1) s) (hG : GdT 100000000 s) (hi : i ≤ 1000) (k : ∀ m', Full G m' → Out (CT G) m' m0 → CRx m' (gB G + 1) (it s i) → Q (some (.int (vcs s i))) m') : WP G (d + 7) (0, 0) μX10_run 40 [.ref (gB G), .int (nI i), .int (0 : Int32), .int (0 : Int32)] [] m0 Q := by
  refine loopN (n := i) (P := fun j m => Full G m ∧ Out (CT G) m m0 ∧ CRx m (gB G + 1) (it s j)) (W := fun j m => WP G (d + 7) (0, 0) μX10_run 40 [.ref (gB G), .int (nI i), .int (vcs s j), .int (nI j)] [] m Q) ?_ 0 (by omega) m0 ⟨hF, Out.rf, hC⟩
  intro j m hj ⟨h1, h2, h3⟩ ih
  refine bC_run h1 hi hj (fun z => ?_) (fun z => ?_)
  · have e : j = i := by omega
    subst e
    exact k m h1 h2 h3
  · refine C_st h1 (isC1 G) h3 (GdT_it hG j (by omega)) (by omega) (fun m' a b c => ?_)
    have hn := ih z m' ⟨a, (b.mono (fun x hx => SA_CT hx)).tr h2, c⟩
    have ev : vcs s (j + 1) = if svi (it s j) = 0 then vcs s j else vcs s j + 1 := rfl
    refine jC_run a hi z (fun y => ?_) (fun y => ?_)
    · rw [if_pos y] at ev
      rw [← ev]
      exact hn
    · rw [if_neg y] at ev
      rw [← ev]
      exact hn
theorem GdT.tm {T T' : Int} {s : Sc} (h : GdT T s) (h' : (sS s 0).toInt ≤ T') : GdT T' s := ⟨Iv_T h.1 h', h.2⟩
theorem gd_it {s : Sc} {i : Nat} (hG : GdT 100000000 s) (hi : i ≤ 1000) (ht : (sS s 0).toInt + (i : Int) * (sS s 1).toInt ≤ 100000000) : GdT 100000000 (it s i) := by
  have h1 := GdT_it hG i (by omega)
  refine h1.tm ?_
  rw [(it_time hG i (by omega)).1]
  exact ht
theorem a_run (h : CIv G m A) {i : Nat} (hi0 : 1 ≤ i) (hi : i ≤ 1000) (ht : (sS (aS A) 0).toInt + (i : Int) * (sS (aS A) 1).toInt ≤ 100000000) (k : ∀ m', CIv G m' (it (aS A) i, A.2) → Q (some (.int (vcs (aS A) i))) m') : WPM G (d + 7) (0, 0) μX10_run [.ref (gB G), .int (nI i)] m Q := by
  have g := h.iv.1.2.2.2.2.2.2.1
  have e1 : (nI i).toInt = (i : Int) := nI_toInt (by omega)
  have r0 : fi m 14 (gB G + 1) = sS (aS A) 0 := h.rd (k := 0) rfl rfl (by unfold VK; omega) (by unfold UD; omega)
  have r1 : fi m 13 (gB G + 1) = sS (aS A) 1 := h.rd (k := 1) rfl rfl (by unfold VK; omega) (by unfold UD; omega)
  have hr : rg (nI i) 1 1000 := ⟨by omega, by omega⟩
  have g0 := g.1
  have g1 := g.2.1
  have p1 : 0 ≤ (i : Int) * (sS (aS A) 1).toInt := Int.mul_nonneg (by omega) (by have := g1.1; omega)
  have p2 : (i : Int) * (sS (aS A) 1).toInt ≤ 1000 * 60 := Int.mul_le_mul (by omega) g1.2 (by have := g1.1; omega) (by omega)
  have em : (nI i * sS (aS A) 1).toInt = (i : Int) * (sS (aS A) 1).toInt := by
    rw [Int32.toInt_mul, e1, Int.bmod_eq_of_le (by omega) (by omega)]
  have ea : (sS (aS A) 0 + nI i * sS (aS A) 1).toInt = (sS (aS A) 0).toInt + (i : Int) * (sS (aS A) 1).toInt := by
    have := g0.1
    rw [Int32.toInt_add, em, Int.bmod_eq_of_le (by omega) (by omega)]
  have e8 : (100000000 : Int32).toInt = 100000000 := by decide
  refine eC_run h.1 (fun c => absurd c (rg_lo hr (by decide))) (fun _ c => absurd c (rg_hi hr (by decide))) (fun _ _ _ => ?_) (fun _ _ c => ?_)
  · exact C_runl h.1 h.cr h.gd hi (fun m' hF hO hC => k m' (h.sc hO hC (gd_it h.gd hi ht)))
  · rw [r0, r1, Int32.lt_iff_toInt_lt, ea, e8] at c
    omega
theorem a_resetRecords (h : CIv G m A) (k : ∀ m', CIv G m' ((rrS (sS (aS A)) (sN (aS A)), rrE (sE (aS A)), (aS A).2.2), A.2) → Q (some (.int (sS (aS A) 16))) m') : WPM G (d + 3) (0, 0) μX10_resetRecords [.ref (gB G)] m Q := by
  have h12 := h.nn.2
  have r16 : fi m 601 (gB G + 1 + 8) = sS (aS A) 16 := h.rd (k := 16) rfl rfl (by unfold VK; omega) (by unfold UD; omega)
  refine eC_rr h.1 ?_
  have hS0 : CS m _ (gB G + 1) (UD (sN (aS A)) (sL (aS A)) (sH (aS A))) (upd (upd (sS (aS A)) 16 0) 17 0) (rrE (sE (aS A))) := ((((h.cr.1.z16).w (x := 0) 17 rfl rfl (by unfold VK; omega) (by omega) (by omega) (fun k hk => Or.inl hk)).e0 0).e1 0).e2 0
  refine loopN (n := sN (aS A)) (P := fun j m1 => CS m m1 (gB G + 1) (UD (sN (aS A)) (sL (aS A)) (sH (aS A))) (rrF (upd (upd (sS (aS A)) 16 0) 17 0) j) (rrE (sE (aS A)))) (W := fun j m1 => WP G (d + 3) (0, 0) μX10_resetRecords 23 [.ref (gB G), .int (fi m 601 ((gB G + 1) + 8)), .int (nI j)] [] m1 Q) ?_ 0 (by omega) _ hS0
  intro j m1 hj hS ih
  have hF1 := hS.full h.1
  have n5' : fi m1 5 (gB G + 1) = nI (sN (aS A)) := by
    refine (hS.rG 12 rfl rfl (by unfold VK; omega) (by unfold UD; omega)).trans ?_
    rw [rrF_ne j (fun i hi => by omega), upd_ne (by omega), upd_ne (by omega)]
    exact h.iv.1.1
  refine bC_rr hF1 n5' h12 hj (fun z => ?_) (fun z => ?_)
  · have ej : j = sN (aS A) := by omega
    subst ej
    rw [r16]
    have hI := Iv_rr h.iv
    exact k m1 (h.sc (s' := (rrS (sS (aS A)) (sN (aS A)), rrE (sE (aS A)), (aS A).2.2)) (hS.1.mono (fun a ha => SA_CT ha)) (h.cr.of hS (fun k hk => rrS_ne h12 (by omega)) (fun a ha => rrS_ne h12 (by omega)) h12) ⟨hI, h.gd.2⟩)
  · have hx : fi m1 401 (nd (gB G + 1) j) = sS (aS A) (11 * j + 21) := by
      refine (hS.rN (i := j) 1 (by omega) (by omega) (by unfold UD; omega)).trans ?_
      rw [rrF_ne j (fun i hi => by omega), upd_ne (by omega), upd_ne (by omega)]
    rw [hx]
    have hT := (((hS.wN (i := j) (x := sS (aS A) (11 * j + 21)) 7 (by omega) (by omega) (fun k hk => Or.inl hk)).wN (i := j) (x := sS (aS A) (11 * j + 21)) 8 (by omega) (by omega) (fun k hk => Or.inl hk)).wN (i := j) (x := 0) 9 (by omega) (by omega) (fun k hk => Or.inl hk)).wN (i := j) (x := -1) 10 (by omega) (by omega) (fun k hk => Or.inl hk)
    refine ih z _ (hT.eqv ?_)
    rw [rrF_s, upd_ne (by omega), upd_ne (by omega)]
theorem a_addNode (h : CIv G m A) {x y z w u : Int32} (hn : sN (aS A) < 12) (hx : rg x 1 100000) (hy : rg y (-200000) 200000) (hz : rg z 0 10000) (hw : rg w 0 10000) (hu : rg u 0 1000000) (k : ∀ m', CIv G m' ((adN (sS (aS A)) (sN (aS A)) x y z w u, sE (aS A), sN (aS A) + 1, (aS A).2.2.2), A.2) → Q (some (.int (nI (sN (aS A))))) m') : WPM G (d + 3) (0, 0) μX10_addNode [.ref (gB G), .int x, .int y, .int z, .int w, .int u] m Q := by
  obtain ⟨n5, h12⟩ := h.nn
  refine sC_addNode h.1 n5 h12 (fun c => absurd c (rg_lo hx (by decide))) (fun _ c => absurd c (rg_hi hx (by decide))) (fun _ _ c => absurd c (rg_lo hy (by decide))) (fun _ _ _ c => absurd c (rg_hi hy (by decide))) (fun _ _ _ _ c => absurd c (rg_lo hz (by decide))) (fun _ _ _ _ _ c => absurd c (rg_hi hz (by decide))) (fun _ _ _ _ _ _ c => absurd c (rg_lo hw (by decide))) (fun _ _ _ _ _ _ _ c => absurd c (rg_hi hw (by decide))) (fun _ _ _ _ _ _ _ _ c => absurd c (rg_lo hu (by decide))) (fun _ _ _ _ _ _ _ _ _ c => absurd c (rg_hi hu (by decide))) (fun _ _ _ _ _ _ _ _ _ _ _ => ?_) (fun _ _ _ _ _ _ _ _ _ _ c => absurd hn c)
  have hT := CS.dpx (D' := UD (sN (aS A) + 1) (sL (aS A)) (sH (aS A))) (x := nI ((sN (aS A)) + 1)) (CS.dN (i := (sN (aS A))) (x := (-1)) 10 (CS.dN (i := (sN (aS A))) (x := 0) 9 (CS.dN (i := (sN (aS A))) (x := y) 8 (CS.dN (i := (sN (aS A))) (x := y) 7 (CS.dN (i := (sN (aS A))) (x := 200000) 6 (CS.dN (i := (sN (aS A))) (x := (-200000)) 5 (CS.dN (i := (sN (aS A))) (x := u) 4 (CS.dN (i := (sN (aS A))) (x := w) 3 (CS.dN (i := (sN (aS A))) (x := z) 2 (CS.dN (i := (sN (aS A))) (x := y) 1 (CS.dN (i := (sN (aS A))) (x := x) 0 (CS.dp h.cr.1) (by omega) (by omega)) (by omega) (by omega)) (by omega) (by omega)) (by omega) (by omega)) (by omega) (by omega)) (by omega) (by omega)) (by omega) (by omega)) (by omega) (by omega)) (by omega) (by omega)) (by omega) (by omega)) (by omega) (by omega)) 12 rfl rfl (by unfold VK; omega) (by omega) (by omega) (fun k hk => ud_N hk)
  have hS : CS m _ (gB G + 1) (UD (sN (aS A) + 1) (sL (aS A)) (sH (aS A))) (adN (sS (aS A)) (sN (aS A)) x y z w u) (sE (aS A)) := ⟨hT.1, hT.2.1, fun k hk hd => (hT.2.2.1 k hk hd).trans (adN_eqv (by omega) (by unfold VK at hk; omega)).symm, hT.2.2.2.1, fun k hk => by
    have e16 : own (adN (sS (aS A)) (sN (aS A)) x y z w u) 16 = own (sS (aS A)) 16 := by
      unfold own
      rw [adN_ne (by omega) (by omega) (by omega)]
    rw [e16] at hk
    have hv := own_of (h.iv.1.2.2.2.2.2.2.2.2.2.2) (by have := vcnt_le (sS (aS A)) (sN (aS A)); omega)
    have := vcnt_le (sS (aS A)) (sN (aS A))
    rw [adN_ne (by omega) (by omega) (by omega)]
    exact h.cr.1.2.2.2.2 k hk⟩
  have hO : Out (CT G) _ m := hS.1.mono (fun a ha => SA_CT ha)
  have hO' := h.cr.2.2.2.2.2.2.1
  have h15 : (adN (sS (aS A)) (sN (aS A)) x y z w u) 15 = sS (aS A) 15 := adN_ne (by omega) (by omega) (by omega)
  have hpr : ∀ a, a < sH (aS A) → (adN (sS (aS A)) (sN (aS A)) x y z w u) (8 * a + 342) = sS (aS A) (8 * a + 342) := fun a ha => adN_ne (by omega) (by omega) (by omega)
  have hR : ∀ R ∈ sR (aS A), RuC (sN (aS A) + 1) (sL (aS A)) (sH (aS A)) R := fun R hR => (hO' R hR).mono (Nat.le_succ _) (Nat.le_refl _) (Nat.le_refl _)
  have hC0 : CR _ (gB G + 1) (adN (sS (aS A)) (sN (aS A)) x y z w u) (sE (aS A)) (sN (aS A) + 1) (sL (aS A)) (sH (aS A)) (sR (aS A)) (sK (aS A)) := h.cr.mk hS (h.cr.2.2.1.mono (Nat.le_succ _)) (LkS_adN (by omega) h.cr.2.2.2.1 h.cr.2.2.1) (h.cr.2.2.2.2.1.of (fun k => hS.1.ai (by unfold SA; omega) k) hpr) hR h15
  exact k _ (h.sc (s' := (adN (sS (aS A)) (sN (aS A)) x y z w u, sE (aS A), sN (aS A) + 1, (aS A).2.2.2)) hO hC0 ⟨Iv_adN h.iv (by omega) hx hy, hR⟩)
theorem a_addLouvre (h : CIv G m A) {j : Nat} {y z w u : Int32} (hj : j < sN (aS A)) (hl : sL (aS A) < 6) (hy : rg y 0 10000) (hz : rg z (-200000) 199999) (hw : rg w (z.toInt + 1) 200000) (hu : rg u 1 1000) (k : ∀ m', CIv G m' ((adL (sS (aS A)) (sL (aS A)) (nI j) y z w u, sE (aS A), sN (aS A), sL (aS A) + 1, (aS A).2.2.2.2), A.2) → Q (some (.int (nI (sL (aS A))))) m') : WPM G (d + 3) (0, 0) μX10_addLouvre [.ref (gB G), .int (nI j), .int y, .int z, .int w, .int u] m Q := by
  obtain ⟨p, hp⟩ : ∃ p, sN (aS A) = p + 1 := ⟨sN (aS A) - 1, by omega⟩
  have h12 := h.nn.2
  have z1 : (z + 1).toInt = z.toInt + 1 := by
    have e : (1 : Int32).toInt = 1 := rfl
    have := hz.1
    have := hz.2
    rw [Int32.toInt_add, e, Int.bmod_eq_of_le (by omega) (by omega)]
  refine iC_addLouvre (n := p) (q := sL (aS A)) h.1 (by rw [← hp]; exact h.nn.1) (by rw [← hp]; exact h.nn.2) (by omega) h.nl.1 h.nl.2 (fun c => absurd c (rg_lo hy (by decide))) (fun _ c => absurd c (rg_hi hy (by decide))) (fun _ _ c => absurd c (rg_lo hz (by decide))) (fun _ _ _ c => absurd c (rg_hi hz (by decide))) (fun _ _ _ _ c => absurd c (rg_lo hw (Int.le_of_eq z1))) (fun _ _ _ _ _ c => absurd c (rg_hi hw (by decide))) (fun _ _ _ _ _ _ c => absurd c (rg_lo hu (by decide))) (fun _ _ _ _ _ _ _ c => absurd c (rg_hi hu (by decide))) (fun _ _ _ _ _ _ _ _ _ => ?_) (fun _ _ _ _ _ _ _ _ c => absurd hl c)
  have hS : CS m _ (gB G + 1) (UD (sN (aS A)) (sL (aS A) + 1) (sH (aS A))) (adL (sS (aS A)) (sL (aS A)) (nI j) y z w u) (sE (aS A)) := (CS.dL (i := (sL (aS A))) (x := 0) 6 (CS.dL (i := (sL (aS A))) (x := 0) 5 (CS.dL (i := (sL (aS A))) (x := u) 4 (CS.dL (i := (sL (aS A))) (x := w) 3 (CS.dL (i := (sL (aS A))) (x := z) 2 (CS.dL (i := (sL (aS A))) (x := y) 1 (CS.dL (i := (sL (aS A))) (x := (nI j)) 0 (CS.dp h.cr.1) (by omega) (by omega)) (by omega) (by omega)) (by omega) (by omega)) (by omega) (by omega)) (by omega) (by omega)) (by omega) (by omega)) (by omega) (by omega)).dpx 13 rfl rfl (by unfold VK; omega) (by omega) (by omega) (fun k hk => ud_L hk)
  have hO : Out (CT G) _ m := hS.1.mono (fun a ha => SA_CT ha)
  have hO' := h.cr.2.2.2.2.2.2.1
  have hls : LkS (adL (sS (aS A)) (sL (aS A)) (nI j) y z w u) (sN (aS A)) (sK (aS A)) := fun a b ha hb => by rw [adL_ne (by omega) (by omega)]; exact h.cr.2.2.2.1 a b ha hb
  have h15 : (adL (sS (aS A)) (sL (aS A)) (nI j) y z w u) 15 = sS (aS A) 15 := adL_ne (by omega) (by omega)
  have hpr : ∀ a, a < sH (aS A) → (adL (sS (aS A)) (sL (aS A)) (nI j) y z w u) (8 * a + 342) = sS (aS A) (8 * a + 342) := fun a ha => adL_ne (by have := h.nl.2; omega) (by omega)
  have hR : ∀ R ∈ sR (aS A), RuC (sN (aS A)) (sL (aS A) + 1) (sH (aS A)) R := fun R hR => (hO' R hR).mono (Nat.le_refl _) (Nat.le_succ _) (Nat.le_refl _)
  have hC0 : CR _ (gB G + 1) (adL (sS (aS A)) (sL (aS A)) (nI j) y z w u) (sE (aS A)) (sN (aS A)) (sL (aS A) + 1) (sH (aS A)) (sR (aS A)) (sK (aS A)) := h.cr.mk hS h.cr.2.2.1 hls (h.cr.2.2.2.2.1.of (fun k => hS.1.ai (by unfold SA; omega) k) hpr) hR h15
  exact k _ (h.sc (s' := (adL (sS (aS A)) (sL (aS A)) (nI j) y z w u, sE (aS A), sN (aS A), sL (aS A) + 1, (aS A).2.2.2.2)) hO hC0 ⟨Iv_adL h.iv (by omega) hj hz hw hu, hR⟩)
theorem a_addHeater (h : CIv G m A) {j : Nat} {y z w u : Int32} (hj : j < sN (aS A)) (hl : sH (aS A) < 8) (hy : rg y 0 100000) (hw : rg w (-200000) 200000) (hz : rg z (-200000) w.toInt) (hu : rg u 0 9) (k : ∀ m', CIv G m' ((adH (sS (aS A)) (sH (aS A)) (nI j) y z w u, sE (aS A), sN (aS A), sL (aS A), sH (aS A) + 1, (aS A).2.2.2.2.2), A.2) → Q (some (.int (nI (sH (aS A))))) m') : WPM G (d + 6) (0, 0) μX10_addHeater [.ref (gB G), .int (nI j), .int y, .int z, .int w, .int u] m Q := by
  obtain ⟨p, hp⟩ : ∃ p, sN (aS A) = p + 1 := ⟨sN (aS A) - 1, by omega⟩
  have h12 := h.nn.2
  refine iC_addHeater (n := p) (q := sH (aS A)) h.1 (by rw [← hp]; exact h.nn.1) (by rw [← hp]; exact h.nn.2) (by omega) h.nh.1 h.nh.2 (fun c => absurd c (rg_lo hy (by decide))) (fun _ c => absurd c (rg_hi hy (by decide))) (fun _ _ c => absurd c (rg_lo hw (by decide))) (fun _ _ _ c => absurd c (rg_hi hw (by decide))) (fun _ _ _ _ c => absurd c (rg_lo hz (by decide))) (fun _ _ _ _ _ c => absurd c (rg_hi hz (Int.le_refl _))) (fun _ _ _ _ _ _ c => absurd c (rg_lo hu (by decide))) (fun _ _ _ _ _ _ _ c => absurd c (rg_hi hu (by decide))) (fun _ _ _ _ _ _ _ _ _ => ?_) (fun _ _ _ _ _ _ _ _ c => absurd hl c)
  have hS : CS m _ (gB G + 1) (UD (sN (aS A)) (sL (aS A)) (sH (aS A) + 1)) (adH (sS (aS A)) (sH (aS A)) (nI j) y z w u) (sE (aS A)) := (CS.dH (i := (sH (aS A))) (x := 0) 7 (CS.dH (i := (sH (aS A))) (x := 0) 6 (CS.dH (i := (sH (aS A))) (x := 0) 5 (CS.dH (i := (sH (aS A))) (x := u) 4 (CS.dH (i := (sH (aS A))) (x := w) 3 (CS.dH (i := (sH (aS A))) (x := z) 2 (CS.dH (i := (sH (aS A))) (x := y) 1 (CS.dH (i := (sH (aS A))) (x := (nI j)) 0 (CS.dp h.cr.1) (by omega) (by omega)) (by omega) (by omega)) (by omega) (by omega)) (by omega) (by omega)) (by omega) (by omega)) (by omega) (by omega)) (by omega) (by omega)) (by omega) (by omega)).dpx 14 rfl rfl (by unfold VK; omega) (by omega) (by omega) (fun k hk => ud_H hk)
  have hF0 := hS.full h.1
  have hIv := Iv_adH (lo := z) (hi := w) h.iv (by omega) hj hy hu
  have hpr : ∀ a, a < sH (aS A) → (adH (sS (aS A)) (sH (aS A)) (nI j) y z w u) (8 * a + 342) = sS (aS A) (8 * a + 342) := fun a ha => adH_ne (by omega) (by omega)
  refine C_rk (s := sS (aS A)) (s' := adH (sS (aS A)) (sH (aS A)) (nI j) y z w u) hF0 (isC1 G) (by omega) hpr (fun a ha => hS.rH 4 (by omega) (by omega) (by unfold UD; omega)) (fun a ha => (hIv.1.2.2.2.2.2.2.2.2.2.1 a ha).2.2.1) (h.cr.2.2.2.2.1.of (fun k => hS.1.ai (by unfold SA; omega) k) (fun _ _ => rfl)) (fun m1 hF1 hO1 hf1 hRk => ?_)
  have hO : Out (CT G) m1 m := (hO1.mono (fun a ha => by unfold CT; omega)).tr (hS.1.mono (fun a ha => SA_CT ha))
  refine jC_addHeater hF1 ?_
  have hO' := h.cr.2.2.2.2.2.2.1
  have hls : LkS (adH (sS (aS A)) (sH (aS A)) (nI j) y z w u) (sN (aS A)) (sK (aS A)) := fun a b ha hb => by rw [adH_ne (by omega) (by omega)]; exact h.cr.2.2.2.1 a b ha hb
  have h15 : (adH (sS (aS A)) (sH (aS A)) (nI j) y z w u) 15 = sS (aS A) 15 := adH_ne (by omega) (by omega)
  have hR : ∀ R ∈ sR (aS A), RuC (sN (aS A)) (sL (aS A)) (sH (aS A) + 1) R := fun R hR => (hO' R hR).mono (Nat.le_refl _) (Nat.le_refl _) (Nat.le_succ _)
  have hC0 : CR m1 (gB G + 1) (adH (sS (aS A)) (sH (aS A)) (nI j) y z w u) (sE (aS A)) (sN (aS A)) (sL (aS A)) (sH (aS A) + 1) (sR (aS A)) (sK (aS A)) := h.cr.mkR hS hO1 hf1 h.cr.2.2.1 hls hRk hR h15
  exact k _ (h.sc (s' := (adH (sS (aS A)) (sH (aS A)) (nI j) y z w u, sE (aS A), sN (aS A), sL (aS A), sH (aS A) + 1, (aS A).2.2.2.2.2)) hO hC0 ⟨hIv, hR⟩)
end API2
