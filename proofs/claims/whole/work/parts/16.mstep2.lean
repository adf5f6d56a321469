theorem Safe.of {st st' : Nat → Int32} {n nl nh : Nat} (h : Safe st n nl nh) (h1 : ∀ k, k = 1 ∨ k = 2 ∨ k = 12 ∨ k = 13 ∨ k = 14 → st' k = st k) (h2 : ∀ l, l < nl → st' (7 * l + 296) = st (7 * l + 296) ∧ st' (7 * l + 298) = st (7 * l + 298) ∧ st' (7 * l + 299) = st (7 * l + 299)) (h3 : ∀ l, l < nh → st' (8 * l + 338) = st (8 * l + 338)) (h4 : ∀ i, i < n → st' (11 * i + 20) = st (11 * i + 20)) : Safe st' n nl nh := by
  obtain ⟨s1, s2, s3, s4, s5, s6, s7, s8, s9, s10, s11, s12⟩ := h
  refine ⟨(h1 12 (by omega)).trans s1, s2, (h1 13 (by omega)).trans s3, s4, (h1 14 (by omega)).trans s5, s6, ?_, ?_, fun l hl => ?_, fun l hl => ?_, fun l hl => ?_, fun i hi => ?_⟩
  · rw [h1 2 (by omega)]; exact s7
  · rw [h1 1 (by omega)]; exact s8
  · rw [(h2 l hl).1]; exact s9 l hl
  · rw [h3 l hl]; exact s10 l hl
  · rw [(h2 l hl).2.1, (h2 l hl).2.2]; exact s11 l hl
  · rw [h4 i hi]; exact s12 i hi
theorem own_of {st : Nat → Int32} {k o : Nat} (h : st k = nI o) (ho : o < 2 ^ 31) : own st k = o := by
  unfold own
  rw [h]
  exact nIc ho
section MSTEP
variable {G : Cx} {d : Nat} {m0 m : Mm} {Q : Option Value → Mm → Prop} {st : Nat → Int32} {en : Nat → Int64} {n nl nh : Nat}
theorem Safe.mv (h : Safe st n nl nh) (i : Nat) (hi : i ≤ nl) : Safe (mvF st i) n nl nh := by
  have q1 := h.2.1
  have q2 := h.2.2.2.1
  have q3 := h.2.2.2.2.2.1
  exact h.of (fun k hk => mvF_ne st i (fun j _ => by omega)) (fun l _ => ⟨mvF_ne st i (fun j _ => by omega), mvF_ne st i (fun j _ => by omega), mvF_ne st i (fun j _ => by omega)⟩) (fun l hl => mvF_ne st i (fun j _ => by omega)) (fun l hl => mvF_ne st i (fun j _ => by omega))
theorem M_mv (hM : MS G m0 m st en) (hS : Safe st n nl nh) (k : ∀ m', MS G m0 m' (mvF st nl) en → Q none m') : WPM G (d + 3) (0, 0) μX11_moveLouvres [.ref (gB G + 293)] m Q := by
  refine eM_mv hM.1 ?_
  refine loopN (n := nl) (P := fun i m => MS G m0 m (mvF st i) en) (W := fun i m => WP G (d + 3) (0, 0) μX11_moveLouvres 2 [.ref (gB G + 293), .int (nI i), lvU, lvU] [] m Q) ?_ 0 (Nat.zero_le _) m hM
  intro i m' hi hP ih
  have hS' := hS.mv i hi
  obtain ⟨hF, hO, hs, hE⟩ := hP
  have hM' : MS G m0 m' (ai m' (gB G + 294)) en := ⟨hF, hO, rfl, hE⟩
  rw [← hs] at hS'
  obtain ⟨s1, s2, s3, s4, s5, s6, s7, s8, s9, s10, s11, s12⟩ := hS'
  by_cases hin : i < nl
  · obtain ⟨o, h12, e⟩ := s9 i hin
    refine bM_mv hF s3 s4 hi (fun _ => e) h12 (fun _ _ => s11 i hin) (fun z => absurd hin z) (fun h h' => ?_) (fun h h' => ?_)
    · have e2 : mvF st (i + 1) = upd (ai m' (gB G + 294)) (7 * i + 301) (opnF (ai m' (gB G + 294)) o i) := by
        show mvS (mvF st i) i = _
        rw [← hs]
        unfold mvS
        rw [if_neg h', own_of e (by omega)]
      exact ih h _ (by rw [e2]; exact hM'.wst _ _)
    · have e2 : mvF st (i + 1) = ai m' (gB G + 294) := by
        show mvS (mvF st i) i = _
        rw [← hs]
        unfold mvS
        rw [if_pos h']
      exact ih h _ (by rw [e2]; exact hM')
  · refine bM_mv (o := 0) hF s3 s4 hi (fun z => absurd z hin) (by omega) (fun z => absurd z hin) (fun _ => ?_) (fun z => absurd z hin) (fun z => absurd z hin)
    have e : i = nl := by omega
    refine k m' ?_
    rw [← e, ← hs]
    exact hM'
theorem Safe.w1 (h : Safe st n nl nh) (i : Nat) : Safe (w1F st i) n nl nh :=
  h.of (fun k hk => w1F_ne st i (fun j _ => by omega)) (fun l hl => by have := h.2.2.2.1; exact ⟨w1F_ne st i (fun j _ => by omega), w1F_ne st i (fun j _ => by omega), w1F_ne st i (fun j _ => by omega)⟩) (fun l hl => w1F_ne st i (fun j _ => by omega)) (fun l hl => w1F_ne st i (fun j _ => by have := h.2.1; omega))
theorem M_sw1 {a v : Int64} (hM : MS G m0 m st en) (hS : Safe st n nl nh) (k : ∀ m', MS G m0 m' (w1F st nh) en → WP G (d + 3) (0, 0) μX11_switchHeaters 117 [.ref (gB G + 293), .long a, lvU, .long v, lvU, .int (9 : Int32), lvU, lvU] [] m' Q) : WP G (d + 3) (0, 0) μX11_switchHeaters 54 [.ref (gB G + 293), .long a, lvU, .long v, lvU, .int (0 : Int32), lvU, lvU] [] m Q := by
  refine loopN (n := nh) (P := fun i m => MS G m0 m (w1F st i) en) (W := fun i m => WP G (d + 3) (0, 0) μX11_switchHeaters 54 [.ref (gB G + 293), .long a, lvU, .long v, lvU, .int (nI i), lvU, lvU] [] m Q) ?_ 0 (Nat.zero_le _) m hM
  intro h m' hh hP ih
  have hS' := hS.w1 h
  obtain ⟨hF, hO, hs, hE⟩ := hP
  have hM' : MS G m0 m' (ai m' (gB G + 294)) en := ⟨hF, hO, rfl, hE⟩
  rw [← hs] at hS'
  obtain ⟨s1, s2, s3, s4, s5, s6, s7, s8, s9, s10, s11, s12⟩ := hS'
  by_cases hin : h < nh
  · obtain ⟨o, h12, e⟩ := s10 h hin
    have key : ∀ w, wshF (ai m' (gB G + 294)) o h = w → MS G m0 (wai (wai m' (gB G + 294) (8 * h + 344) w) (gB G + 294) (8 * h + 345) 0) (w1F st (h + 1)) en := by
      intro w hw
      have e2 : w1F st (h + 1) = upd (upd (ai m' (gB G + 294)) (8 * h + 344) w) (8 * h + 345) 0 := by
        show w1S (w1F st h) h = _
        rw [← hs]
        unfold w1S
        rw [own_of e (by omega), hw]
      rw [e2]
      exact (hM'.wst _ _).wst _ _
    refine bM_sw1 hF s5 s6 hh (fun _ => e) h12 (fun z => absurd hin z) (fun h1 h2 h3 h4 => ?_) (fun h1 h2 h3 h4 => ?_) (fun h1 h2 h3 => ?_) (fun h1 h2 h3 => ?_) (fun h1 h2 h3 => ?_)
    · exact ih h1 _ (key _ (by unfold wshF; rw [if_pos h2, if_neg h3, if_neg h4]))
    · exact ih h1 _ (key _ (by unfold wshF; rw [if_pos h2, if_neg h3, if_pos h4]))
    · exact ih h1 _ (key _ (by unfold wshF; rw [if_pos h2, if_pos h3]))
    · exact ih h1 _ (key _ (by unfold wshF; rw [if_neg h2, if_neg h3]))
    · exact ih h1 _ (key _ (by unfold wshF; rw [if_neg h2, if_pos h3]))
  · refine bM_sw1 (o := 0) hF s5 s6 hh (fun z => absurd z hin) (by omega) (fun _ => ?_) (fun z => absurd z hin) (fun z => absurd z hin) (fun z => absurd z hin) (fun z => absurd z hin) (fun z => absurd z hin)
    have e : h = nh := by omega
    refine k m' ?_
    rw [← e, ← hs]
    exact hM'
theorem swP_s (p : Int32) (s : (Nat → Int32) × Int64) (h : Nat) : swP p s (h + 1) = if (swP p s h).1 (8 * h + 342) = p then swS (swP p s h) h else swP p s h := rfl
theorem M_sw3 {a v : Int64} {p : Int32} (hM : MS G m0 m st en) (hn : st 14 = nI nh) (h8 : nh ≤ 8) (k : ∀ m', MS G m0 m' (swP p (st, v) nh).1 en → WP G (d + 3) (0, 0) μX11_switchHeaters 117 [.ref (gB G + 293), .long a, lvU, .long (swP p (st, v) nh).2, lvU, .int (p + (-1 : Int32)), lvU, lvU] [] m' Q) : WP G (d + 3) (0, 0) μX11_switchHeaters 125 [.ref (gB G + 293), .long a, lvU, .long v, lvU, .int p, .int (0 : Int32), lvU] [] m Q := by
  refine loopN (n := nh) (P := fun i m => MS G m0 m (swP p (st, v) i).1 en) (W := fun i m => WP G (d + 3) (0, 0) μX11_switchHeaters 125 [.ref (gB G + 293), .long a, lvU, .long (swP p (st, v) i).2, lvU, .int p, .int (nI i), lvU] [] m Q) ?_ 0 (Nat.zero_le _) m hM
  intro h m' hh hP ih
  obtain ⟨hF, hO, hs, hE⟩ := hP
  have hM' : MS G m0 m' (ai m' (gB G + 294)) en := ⟨hF, hO, rfl, hE⟩
  have hn' : ai m' (gB G + 294) 14 = nI nh := by
    rw [hs, swP_ne p _ (by omega) h (fun j _ => by omega)]
    exact hn
  refine bM_sw3 hF hn' h8 hh (fun z => ?_) (fun h1 h2 => ?_) (fun h1 h2 h3 h4 => ?_) (fun h1 h2 h3 h4 => ?_) (fun h1 h2 h3 => ?_)
  · have e : h = nh := by omega
    rw [e] at hs ⊢
    refine k m' ?_
    rw [← hs]
    exact hM'
  · have e2 : swP p (st, v) (h + 1) = swP p (st, v) h := by rw [swP_s, ← hs, if_neg h2]
    have := ih h1 m' (by rw [e2, ← hs]; exact hM')
    rw [e2] at this
    exact this
  · have e2 : swP p (st, v) (h + 1) = (upd (upd (ai m' (gB G + 294)) (8 * h + 345) 2) 17 (ai m' (gB G + 294) 17 + 1), (swP p (st, v) h).2) := by
      rw [swP_s, ← hs, if_pos h2]
      unfold swS
      rw [← hs, if_neg h3, if_pos h4]
    have := ih h1 _ (by rw [e2]; exact (hM'.wst (8 * h + 345) 2).wst 17 _)
    rw [e2] at this
    rw [show (swP p (st, v) h).2 - (0 : Int64) = (swP p (st, v) h).2 from Int64.sub_zero _]
    exact this
  · have e2 : swP p (st, v) (h + 1) = (upd (ai m' (gB G + 294)) (8 * h + 345) 1, (swP p (st, v) h).2 - Int32.toInt64 (ai m' (gB G + 294) (8 * h + 339))) := by
      rw [swP_s, ← hs, if_pos h2]
      unfold swS
      rw [← hs, if_neg h3, if_neg h4]
    have e3 : upd (ai m' (gB G + 294)) (8 * h + 345) 1 = upd (upd (ai m' (gB G + 294)) (8 * h + 345) 1) 17 (ai m' (gB G + 294) 17 + (0 : Int32)) := by
      funext j
      by_cases hj : j = 17
      · subst hj
        rw [upd_eq, upd_ne (by omega), Int32.add_zero]
      · rw [upd_ne hj]
    have := ih h1 _ (by rw [e2]; show MS G m0 _ (upd (ai m' (gB G + 294)) (8 * h + 345) 1) en; rw [e3]; exact (hM'.wst (8 * h + 345) 1).wst 17 _)
    rw [e2] at this
    exact this
  · have e2 : swP p (st, v) (h + 1) = swP p (st, v) h := by
      rw [swP_s, ← hs, if_pos h2]
      unfold swS
      rw [← hs, if_pos h3]
    have := ih h1 m' (by rw [e2, ← hs]; exact hM')
    rw [e2] at this
    exact this
end MSTEP
