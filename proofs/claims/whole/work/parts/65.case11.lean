/-- after how many steps from t on P holds first; -1: not within f -/
def resF (P : Nat → Bool) : Nat → Nat → Int32
  | 0, _ => -1
  | f + 1, t => if P t = true then nI (t + 1) else resF P f (t + 1)
def PA (s : Sc) (t : Nat) : Bool := decide (¬ svi (it s t) = 0)
def PN (s : Sc) (i t : Nat) : Bool := outF (sS (it s (t + 1))) i
theorem it_N (s : Sc) (k : Nat) : sN (it s k) = sN s := congrArg (fun x => x.1) (it_n s k)
theorem CR.N {m : Mm} {c : Nat} {s : Sc} (h : CRx m c s) {i : Nat} (j : Nat) (hi : i < sN s) (h12 : sN s ≤ 12) (hj : j < 11) : fi m (400 + j) (nd c i) = sS s (11 * i + 20 + j) := h.1.rN j (by omega) hj (by unfold UD; omega)
theorem outF_t {st : Nat → Int32} {i : Nat} (h : st (11 * i + 21) < st (11 * i + 25) ∨ st (11 * i + 26) < st (11 * i + 21)) : outF st i = true := by
  unfold outF
  rcases h with h | h <;> simp [h]
theorem outF_f {st : Nat → Int32} {i : Nat} (h1 : ¬ st (11 * i + 21) < st (11 * i + 25)) (h2 : ¬ st (11 * i + 26) < st (11 * i + 21)) : outF st i = false := by
  unfold outF
  simp only [h1, h2, decide_false, Bool.or_false]

theorem C_rvn {G : Cx} {d n : Nat} {m0 : Mm} {s : Sc} {T : Int} {Q : Option Value → Mm → Prop} (hF : Full G m0) (hC : CRx m0 (gB G + 70) s) (hG : GdT T s) (hT : T ≤ 1700000000) (hn : n ≤ 2000) (k : ∀ m', Full G m' → Out (CA (gB G + 70)) m' m0 → Q (some (.int (resF (PA s) n 0))) m') : WP G (d + 7) (0, 0) μX10_stepsToViolation 46 [.ref (gB G), .int (-1 : Int32), .int (nI n), .int (1 : Int32), lvU] [] m0 Q := by
  refine loopN (n := n) (P := fun t m => Full G m ∧ Out (CA (gB G + 70)) m m0 ∧ CRx m (gB G + 70) (it s t) ∧ resF (PA s) n 0 = resF (PA s) (n - t) t) (W := fun t m => WP G (d + 7) (0, 0) μX10_stepsToViolation 46 [.ref (gB G), .int (-1 : Int32), .int (nI n), .int (nI (t + 1)), lvU] [] m Q) ?_ 0 (by omega) m0 ⟨hF, Out.rf, hC, rfl⟩
  intro t m ht ⟨h1, h2, h3, hr⟩ ih
  refine bnC_stv h1 hn (by omega) (fun z => ?_) (fun z => ?_)
  · have e : t = n := by omega
    subst e
    rw [Nat.sub_self] at hr
    have := k m h1 h2
    rw [hr] at this
    exact this
  · have z : t < n := by omega
    obtain ⟨f, hf⟩ : ∃ f, n - t = f + 1 := ⟨n - t - 1, by omega⟩
    rw [hf, show f = n - (t + 1) by omega] at hr
    have hr : resF (PA s) n 0 = if PA s t = true then nI (t + 1) else resF (PA s) (n - (t + 1)) (t + 1) := hr
    have hg := GdT_it hG t (by omega)
    refine C_st h1 (isC2 G) h3 hg (by omega) (fun m' a b c => ?_)
    have kq := k m' a ((b.mono (fun x hx => SA_CA hx)).tr h2)
    refine jnC_stv a hn (by omega) (fun y => ?_) (fun y => ?_)
    · have hp : PA s t = false := by
        unfold PA
        simp [y]
      rw [hp, if_neg (by decide)] at hr
      exact ih z m' ⟨a, (b.mono (fun x hx => SA_CA hx)).tr h2, c, hr⟩
    · have hp : PA s t = true := by
        unfold PA
        simp [y]
      rw [hp, if_pos rfl] at hr
      rw [hr] at kq
      exact kq

theorem M_rvn {G : Cx} {d n : Nat} {m0 m1 : Mm} {s0 s : Sc} {T : Int} {Q : Option Value → Mm → Prop} (hM : TR G m0 m1 s0 s) (hG : GdT T s) (hT : T ≤ 1700000000) (hn : n ≤ 2000) (k : ∀ m' s', TR G m0 m' s0 s' → Q (some (.int (resF (PA s) n 0))) m') : WPM G (d + 8) (0, 0) μX11_runToViolation [.ref (gB G + 293), .int (-1 : Int32), .int (nI n)] m1 Q := by
  refine enM_rv hM.1 hn ?_
  refine loopN (n := n) (P := fun t m => TR G m0 m s0 (it s t) ∧ resF (PA s) n 0 = resF (PA s) (n - t) t) (W := fun t m => WP G (d + 8) (0, 0) μX11_runToViolation 2 [.ref (gB G + 293), .int (-1 : Int32), .int (nI n), .int (nI (t + 1)), lvU] [] m Q) ?_ 0 (by omega) m1 ⟨hM, rfl⟩
  intro t m ht ⟨h1, hr⟩ ih
  refine bnM_rv h1.1 hn (by omega) (fun z => ?_) (fun z => ?_)
  · have e : t = n := by omega
    subst e
    rw [Nat.sub_self] at hr
    have := k m _ h1
    rw [hr] at this
    exact this
  · have z : t < n := by omega
    obtain ⟨f, hf⟩ : ∃ f, n - t = f + 1 := ⟨n - t - 1, by omega⟩
    rw [hf, show f = n - (t + 1) by omega] at hr
    have hr : resF (PA s) n 0 = if PA s t = true then nI (t + 1) else resF (PA s) (n - (t + 1)) (t + 1) := hr
    have hg := GdT_it hG t (by omega)
    refine h1.step hg (by omega) (fun m' h' => ?_)
    have kq := k m' _ h'
    refine jnM_rv h'.1 hn (by omega) (fun y => ?_) (fun y => ?_)
    · have hp : PA s t = false := by
        unfold PA
        simp [y]
      rw [hp, if_neg (by decide)] at hr
      exact ih z m' ⟨h', hr⟩
    · have hp : PA s t = true := by
        unfold PA
        simp [y]
      rw [hp, if_pos rfl] at hr
      rw [hr] at kq
      exact kq

theorem C_rvi {G : Cx} {d n : Nat} {i : Nat} {m0 : Mm} {s : Sc} {T : Int} {Q : Option Value → Mm → Prop} (hF : Full G m0) (hC : CRx m0 (gB G + 70) s) (hG : GdT T s) (hT : T ≤ 1700000000) (hi : i < sN s) (h12 : sN s ≤ 12) (hn : n ≤ 2000) (k : ∀ m', Full G m' → Out (CA (gB G + 70)) m' m0 → Q (some (.int (resF (PN s i) n 0))) m') : WP G (d + 7) (0, 0) μX10_stepsToViolation 46 [.ref (gB G), .int (nI i), .int (nI n), .int (1 : Int32), lvU] [] m0 Q := by
  refine loopN (n := n) (P := fun t m => Full G m ∧ Out (CA (gB G + 70)) m m0 ∧ CRx m (gB G + 70) (it s t) ∧ resF (PN s i) n 0 = resF (PN s i) (n - t) t) (W := fun t m => WP G (d + 7) (0, 0) μX10_stepsToViolation 46 [.ref (gB G), .int (nI i), .int (nI n), .int (nI (t + 1)), lvU] [] m Q) ?_ 0 (by omega) m0 ⟨hF, Out.rf, hC, rfl⟩
  intro t m ht ⟨h1, h2, h3, hr⟩ ih
  refine biC_stv h1 (by omega) hn (by omega) (fun z => ?_) (fun z => ?_)
  · have e : t = n := by omega
    subst e
    rw [Nat.sub_self] at hr
    have := k m h1 h2
    rw [hr] at this
    exact this
  · have z : t < n := by omega
    obtain ⟨f, hf⟩ : ∃ f, n - t = f + 1 := ⟨n - t - 1, by omega⟩
    rw [hf, show f = n - (t + 1) by omega] at hr
    have hr : resF (PN s i) n 0 = if PN s i t = true then nI (t + 1) else resF (PN s i) (n - (t + 1)) (t + 1) := hr
    have hg := GdT_it hG t (by omega)
    refine C_st h1 (isC2 G) h3 hg (by omega) (fun m' a b c => ?_)
    have kq := k m' a ((b.mono (fun x hx => SA_CA hx)).tr h2)
    have hpn : PN s i t = outF (sS (sp (it s t))) i := rfl
    have hi' : i < sN (sp (it s t)) := by rw [show sN (sp (it s t)) = sN s from it_N s (t + 1)]; exact hi
    have h12' : sN (sp (it s t)) ≤ 12 := by rw [show sN (sp (it s t)) = sN s from it_N s (t + 1)]; exact h12
    have e1 : fi m' 401 (nd (gB G + 70) i) = _ := CR.N c 1 hi' h12' (by omega)
    have e5 : fi m' 405 (nd (gB G + 70) i) = _ := CR.N c 5 hi' h12' (by omega)
    have e6 : fi m' 406 (nd (gB G + 70) i) = _ := CR.N c 6 hi' h12' (by omega)
    refine jiC_stv a (by omega) hn (by omega) (fun y => ?_) (fun y y2 => ?_) (fun y y2 => ?_)
    · rw [hpn, outF_t (Or.inl (by rw [← e1, ← e5]; exact y)), if_pos rfl] at hr
      rw [hr] at kq
      exact kq
    · rw [hpn, outF_f (by rw [← e1, ← e5]; exact y) (by rw [← e1, ← e6]; exact y2), if_neg (by decide)] at hr
      exact ih z m' ⟨a, (b.mono (fun x hx => SA_CA hx)).tr h2, c, hr⟩
    · rw [hpn, outF_t (Or.inr (by rw [← e1, ← e6]; exact y2)), if_pos rfl] at hr
      rw [hr] at kq
      exact kq

theorem M_rvi {G : Cx} {d n : Nat} {i : Nat} {m0 m1 : Mm} {s0 s : Sc} {T : Int} {Q : Option Value → Mm → Prop} (hM : TR G m0 m1 s0 s) (hG : GdT T s) (hT : T ≤ 1700000000) (hi : i < sN s) (h12 : sN s ≤ 12) (hn : n ≤ 2000) (k : ∀ m' s', TR G m0 m' s0 s' → Q (some (.int (resF (PN s i) n 0))) m') : WPM G (d + 8) (0, 0) μX11_runToViolation [.ref (gB G + 293), .int (nI i), .int (nI n)] m1 Q := by
  refine eiM_rv hM.1 (by omega) hn ?_
  refine loopN (n := n) (P := fun t m => TR G m0 m s0 (it s t) ∧ resF (PN s i) n 0 = resF (PN s i) (n - t) t) (W := fun t m => WP G (d + 8) (0, 0) μX11_runToViolation 2 [.ref (gB G + 293), .int (nI i), .int (nI n), .int (nI (t + 1)), lvU] [] m Q) ?_ 0 (by omega) m1 ⟨hM, rfl⟩
  intro t m ht ⟨h1, hr⟩ ih
  refine biM_rv h1.1 (by omega) hn (by omega) (fun z => ?_) (fun z => ?_)
  · have e : t = n := by omega
    subst e
    rw [Nat.sub_self] at hr
    have := k m _ h1
    rw [hr] at this
    exact this
  · have z : t < n := by omega
    obtain ⟨f, hf⟩ : ∃ f, n - t = f + 1 := ⟨n - t - 1, by omega⟩
    rw [hf, show f = n - (t + 1) by omega] at hr
    have hr : resF (PN s i) n 0 = if PN s i t = true then nI (t + 1) else resF (PN s i) (n - (t + 1)) (t + 1) := hr
    have hg := GdT_it hG t (by omega)
    refine h1.step hg (by omega) (fun m' h' => ?_)
    have kq := k m' _ h'
    have hpn : PN s i t = outF (sS (sp (it s t))) i := rfl
    have e1 : ai m' (gB G + 294) (11 * i + 21) = _ := congrFun h'.2.2.1 _
    have e5 : ai m' (gB G + 294) (11 * i + 25) = _ := congrFun h'.2.2.1 _
    have e6 : ai m' (gB G + 294) (11 * i + 26) = _ := congrFun h'.2.2.1 _
    refine jiM_rv h'.1 (by omega) hn (by omega) (fun y => ?_) (fun y y2 => ?_) (fun y y2 => ?_)
    · rw [hpn, outF_t (Or.inl (by rw [← e1, ← e5]; exact y)), if_pos rfl] at hr
      rw [hr] at kq
      exact kq
    · rw [hpn, outF_f (by rw [← e1, ← e5]; exact y) (by rw [← e1, ← e6]; exact y2), if_neg (by decide)] at hr
      exact ih z m' ⟨h', hr⟩
    · rw [hpn, outF_t (Or.inr (by rw [← e1, ← e6]; exact y2)), if_pos rfl] at hr
      rw [hr] at kq
      exact kq

theorem st_in {y : Int32} {b : Nat} {lo : Int32} (hb : b < 999999) (hlo : lo.toInt = 1) (h1 : ¬ y < lo) (h2 : ¬ nI b < y) : ∃ q, q ≤ b ∧ y = nI q := by
  rcases inr_big y (b + 1) (by omega) with ⟨q, h, e⟩ | h | ⟨h3, h4⟩
  · exact ⟨q, by omega, e⟩
  · exact absurd h (fun h => h1 (by
      rw [Int32.lt_iff_toInt_lt] at h ⊢
      have z : (0 : Int32).toInt = 0 := rfl
      omega))
  · exact absurd (sub_lt1b (by omega) h3 h4) h2

theorem K_43 {G : Cx} {d i : Nat} {m : Mm} {A : Ab} {Q : Option Value → Mm → Prop} (hL : LIv G m A) (hi : i + 7 ≤ gSl G) (hl : gSl G < 4000) (next : ∀ m' A', LIv G m' A' → WP G (d + 100) (0, 0) μL_law 18 [.ref (gSa G), .ref (gB G), .ref (gB G + 293), .int (nI (i + 7))] [] m' Q) : WP G (d + 100) (0, 0) μL_law 1432 [.ref (gSa G), .ref (gB G), .ref (gB G + 293), .int (nI i)] [] m Q := by
  have fin : ∀ v : Int32, WP G (d + 100) (0, 0) μL_law 1460 [.ref (gSa G), .ref (gB G), .ref (gB G + 293), .int (nI i)] [.int v, .int v] m Q := fun v => bL_43c hL.1 hi hl (fun _ => next m A hL) (fun z => absurd rfl z)
  obtain ⟨n5, n12, h12⟩ := hL.nn
  have hG := hL.gd
  refine bL_43a hL.1 hi hl ?_
  by_cases hx : gSx G (i + 1) = -1
  · rw [hx]
    refine nC_stv (d := d + 92) hL.1 (fun c1 => ?_) (fun c1 c2 => ?_) (fun c1 c2 => ?_)
    · refine bL_43b hL.1 hi hl ?_
      rw [hx]
      exact nM_stv (d := d + 90) hL.1 (fun _ => fin _) (fun h => absurd c1 h) (fun h => absurd c1 h)
    · refine bL_43b hL.1 hi hl ?_
      rw [hx]
      exact nM_stv (d := d + 90) hL.1 (fun h => absurd h c1) (fun _ _ => fin _) (fun _ h => absurd c2 h)
    · obtain ⟨n, hn, en⟩ := st_in (b := 2000) (by omega) (by decide) c1 c2
      rw [en]
      refine C_trial (d := d + 95) hL.1 hL.2.1.1 hG (fun m1 hF1 hO1 hC1 => ?_)
      refine cnC_stv hF1 ?_
      refine C_rvn (d := d + 92) hF1 hC1 hG (by omega) hn (fun m2 hF2 hO2 => ?_)
      have hO := hO2.tr hO1
      refine bL_43b hF2 hi hl ?_
      rw [hx, en]
      have r1 := (hL.2.2.1.cls (hO.mono (fun a ha => CT_CC (CA_CT2 ha)))).MS hF2
      refine nM_stv (d := d + 90) hF2 (fun h => absurd h (by rw [← en]; exact c1)) (fun _ h => absurd h (by rw [← en]; exact c2)) (fun _ _ => ?_)
      refine M_ks (s := aS A) r1 (fun m3 h3 => ?_)
      refine cnM_stv h3.1 ?_
      refine M_rvn (d := d + 90) h3 hG (by omega) hn (fun m4 s4 h4 => ?_)
      refine dnM_stv h4.1 ?_
      refine M_pb h4 (fun m5 h5 => ?_)
      refine fnM_stv h5.1 ?_
      exact bL_43c h5.1 hi hl (fun _ => next _ _ (LIv_trial hL hO h5)) (fun z => absurd rfl z)
  · rcases inr_cases (gSx G (i + 1)) (sN (aS A)) (by omega) with ⟨j, hj, e⟩ | e | ⟨e, e'⟩
    · obtain ⟨p, hp⟩ : ∃ p, sN (aS A) = p + 1 := ⟨sN (aS A) - 1, by omega⟩
      have hjn := hj
      have h12s := h12
      rw [hp] at n5 n12 h12 hj
      rw [e]
      refine iC_stv (d := d + 92) hL.1 n5 h12 hj (fun c1 => ?_) (fun c1 c2 => ?_) (fun c1 c2 => ?_)
      · refine bL_43b hL.1 hi hl ?_
        rw [e]
        exact iM_stv (d := d + 90) hL.1 n12 h12 hj (fun _ => fin _) (fun h => absurd c1 h) (fun h => absurd c1 h)
      · refine bL_43b hL.1 hi hl ?_
        rw [e]
        exact iM_stv (d := d + 90) hL.1 n12 h12 hj (fun h => absurd h c1) (fun _ _ => fin _) (fun _ h => absurd c2 h)
      · obtain ⟨n, hn, en⟩ := st_in (b := 2000) (by omega) (by decide) c1 c2
        rw [en]
        refine C_trial (d := d + 95) hL.1 hL.2.1.1 hG (fun m1 hF1 hO1 hC1 => ?_)
        refine ciC_stv hF1 (by omega) ?_
        refine C_rvi (d := d + 92) hF1 hC1 hG (by omega) hjn h12s hn (fun m2 hF2 hO2 => ?_)
        have hO := hO2.tr hO1
        refine bL_43b hF2 hi hl ?_
        rw [e, en]
        have r1 := (hL.2.2.1.cls (hO.mono (fun a ha => CT_CC (CA_CT2 ha)))).MS hF2
        have n12' : ai m2 (gB G + 294) 12 = nI (p + 1) := (hO.ai (by unfold CA; omega) 12).trans n12
        refine iM_stv (d := d + 90) hF2 n12' h12 hj (fun h => absurd h (by rw [← en]; exact c1)) (fun _ h => absurd h (by rw [← en]; exact c2)) (fun _ _ => ?_)
        refine M_ks (s := aS A) r1 (fun m3 h3 => ?_)
        refine ciM_stv h3.1 (by omega) ?_
        refine M_rvi (d := d + 90) h3 hG (by omega) hjn h12s hn (fun m4 s4 h4 => ?_)
        refine diM_stv h4.1 ?_
        refine M_pb h4 (fun m5 h5 => ?_)
        refine fiM_stv h5.1 ?_
        exact bL_43c h5.1 hi hl (fun _ => next _ _ (LIv_trial hL hO h5)) (fun z => absurd rfl z)
    · exact aC_stv (d := d + 92) hL.1 n5 h12 e hx (bL_43b hL.1 hi hl (aM_stv (d := d + 90) hL.1 n12 h12 e hx (fin _)))
    · exact bC_stv (d := d + 92) hL.1 n5 h12 e e' hx (bL_43b hL.1 hi hl (bM_stv (d := d + 90) hL.1 n12 h12 e e' hx (fin _)))
