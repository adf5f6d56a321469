def StkA (f : Nat → Int64) : List Int64 → Prop
  | [] => True
  | x :: t => f t.length = x ∧ StkA f t
theorem StkA_upd {f : Nat → Int64} {k : Nat} {x : Int64} : ∀ (s : List Int64), s.length ≤ k → StkA f s → StkA (vp_updL f k x) s
  | [], _, _ => trivial
  | y :: t, h, ⟨h1, h2⟩ => by
    have h' : t.length + 1 ≤ k := h
    refine ⟨?_, StkA_upd t (by omega) h2⟩
    have e : ¬ t.length = k := by omega
    simp only [vp_updL, e, if_false]
    exact h1
theorem StkA_push {f : Nat → Int64} {x : Int64} (s : List Int64) (h : StkA f s) : StkA (vp_updL f s.length x) (x :: s) := ⟨by simp [vp_updL], StkA_upd s (Nat.le_refl _) h⟩
/-- the codes lie in the reference's array from place i on -/
def CodM (st : Nat → Int32) : Nat → List Cd → Prop
  | _, [] => True
  | i, c :: cs => st (2 * i + 486) = nI (trM c.1) ∧ st (2 * i + 487) = nI c.2 ∧ CodM st (i + 1) cs
theorem MS.wval {G : Cx} {m0 m : Mm} {st : Nat → Int32} {en : Nat → Int64} (h : MS G m0 m st en) (k : Nat) (x : Int64) : MS G m0 (wal m (gB G + 303) k x) st en :=
  ⟨Full_wal _ _ _ h.1, h.2.1.wal (Or.inr (Or.inr (Or.inr rfl))), h.2.2.1, by rw [← h.2.2.2]; funext j; exact al_na (by omega)⟩
section MRUL
variable {G : Cx} {d : Nat} {m0 m : Mm} {Q : Option Value → Mm → Prop} {st : Nat → Int32} {en : Nat → Int64} {n nl nh : Nat}
theorem M_read4 {p : Nat} (hF : Full G m) (h2 : ¬ ai m (gB G + 294) 2 = 0) (k : Q (some (.long (if sunF (ai m (gB G + 294)) = 0 then 0 else 1))) m) : WPM G (d + 3) (0, 0) μX11_read [.ref (gB G + 293), .int (4 : Int32), .int (nI p)] m Q := by
  refine sM_read4 hF (M_sun hF h2 ?_)
  refine bM_read4 hF (fun h => ?_) (fun h => ?_)
  · rw [if_pos h] at k; exact k
  · rw [if_neg h] at k; exact k
theorem M_read7 {p : Nat} (hF : Full G m) (hn : ai m (gB G + 294) 14 = nI nh) (h8 : nh ≤ 8) (k : Q (some (.long (Int32.toInt64 (upF (ai m (gB G + 294)) nh)))) m) : WPM G (d + 3) (0, 0) μX11_read [.ref (gB G + 293), .int (7 : Int32), .int (nI p)] m Q := by
  refine sM_read7 hF (M_up hF hn h8 ?_)
  exact bM_read7 hF k
theorem M_evl {e k' : Nat} (hS : Safe st n nl nh) (he : e ≤ 500) : ∀ (cs : List Cd) (i : Nat) (s : List Int64) (m : Mm), i + cs.length = e → MS G m0 m st en → CodM st i cs → (∀ c ∈ cs, CdOK n nl nh c) → OkC 250 cs s.length k' → s.length < 250 → StkA (al m (gB G + 303)) s →
    (∀ m', MS G m0 m' st en → StkA (al m' (gB G + 303)) (evMs st nh cs s) → Q (some (.long (al m' (gB G + 303) 0))) m') → WP G (d + 4) (0, 0) μX11_evaluate 5 [.ref (gB G + 293), lvU, .int (nI e), .int (nI s.length), .int (nI i), lvU] [] m Q := by
  obtain ⟨s1, s2, s3, s4, s5, s6, s7, s8, s9, s10, s11, s12⟩ := hS
  intro cs
  induction cs with
  | nil =>
    intro i s m hi hM hC hO hD hl hA k
    have e1 : i = e := by simpa using hi
    subst e1
    exact bM_evx hM.1 he (k m hM hA)
  | cons c cs ih =>
    intro i s m hi hM hC hO hD hl hA k
    obtain ⟨c1, c2, c3⟩ := hC
    obtain ⟨d1, d2, d3⟩ := hD
    have hF := hM.1
    have hs := hM.2.2.1
    have hie : i < e := by simp at hi; omega
    have hi5 : i < 500 := by omega
    rw [← hs] at c1 c2
    have hc := hO c List.mem_cons_self
    have hgo : ∀ (s' : List Int64) (m' : Mm), evM st nh c s = s' → s'.length < 250 → MS G m0 m' st en → StkA (al m' (gB G + 303)) s' → WP G (d + 4) (0, 0) μX11_evaluate 5 [.ref (gB G + 293), lvU, .int (nI e), .int (nI s'.length), .int (nI (i + 1)), lvU] [] m' Q := by
      intro s' m' h1 h2 h3 h4
      have h5 : s'.length = dpC c s.length := by rw [← h1]; exact evM_len st nh d1
      refine ih (i + 1) s' m' (by simp at hi; omega) h3 c3 (fun c' h => hO c' (List.mem_cons_of_mem _ h)) (by rw [h5]; exact d3) h2 h4 (fun m'' h6 h7 => k m'' h6 ?_)
      rw [← h1] at h7
      exact h7
    have hpush : ∀ x, evM st nh c s = x :: s → s.length + 1 < 250 → WP G (d + 4) (0, 0) μX11_evaluate 5 [.ref (gB G + 293), lvU, .int (nI e), .int (nI (s.length + 1)), .int (nI (i + 1)), lvU] [] (wal m (gB G + 303) s.length x) Q := by
      intro x h1 h2
      exact hgo (x :: s) _ h1 h2 (hM.wval _ _) (by rw [al_wal_upd]; exact StkA_push s hA)
    obtain ⟨ck, cp⟩ := c
    dsimp only at c1 c2 hc d1 d2 d3 hgo hpush
    rcases hc with ⟨rfl, hb⟩ | ⟨rfl, hb⟩ | ⟨rfl, hb⟩ | ⟨rfl, hb⟩ | ⟨h, hb⟩ | rfl | rfl | h
    · refine bM_ev0 hF hi5 hie he c1 c2 (by omega) hb ?_
      refine hpush _ ?_ d2
      show rdV st nh 200 cp :: s = _
      try rw [hs]
      rfl
    · refine bM_ev1 hF hi5 hie he c1 c2 (by omega) (by omega) ?_
      refine hpush _ ?_ d2
      show rdV st nh 205 cp :: s = _
      try rw [hs]
      rfl
    · refine bM_ev2 hF hi5 hie he c1 c2 (by omega) (by omega) ?_
      refine hpush _ ?_ d2
      show rdV st nh 206 cp :: s = _
      try rw [hs]
      rfl
    · refine bM_ev3 hF hi5 hie he c1 c2 (by omega) (by omega) ?_
      refine hpush _ ?_ d2
      show rdV st nh 207 cp :: s = _
      try rw [hs]
      rfl
    · rcases h with rfl | rfl | rfl | rfl
      · refine bM_ev4 hF hi5 hie he c1 c2 (by omega) hb (M_read4 hF (by rw [hs]; exact s7) ?_)
        refine bM_ev4r hF hi5 (by omega) ?_
        refine hpush _ ?_ d2
        show rdV st nh 208 cp :: s = _
        rw [hs]
        rfl
      · refine bM_ev5 hF hi5 hie he c1 c2 (by omega) hb (by rw [hs]; exact s7) ?_
        refine hpush _ ?_ d2
        show rdV st nh 209 cp :: s = _
        rw [hs]
        rfl
      · refine bM_ev6 hF hi5 hie he c1 c2 (by omega) hb ?_
        refine hpush _ ?_ d2
        show rdV st nh 210 cp :: s = _
        rw [hs]
        rfl
      · refine bM_ev7 hF hi5 hie he c1 c2 (by omega) hb (M_read7 (nh := nh) hF (by rw [hs]; exact s5) s6 ?_)
        refine bM_ev7r hF hi5 (by omega) ?_
        refine hpush _ ?_ d2
        show rdV st nh 211 cp :: s = _
        rw [hs]
        rfl
    · match s, d1, d2, hA, hgo, hl with
      | x :: t, _, d2, ⟨a1, a2⟩, hgo, hl =>
        have hlt : t.length + 1 < 250 := hl
        refine bM_ev8 (p := 0) hF hi5 hie he c1 (s := t.length) (by omega) ?_
        rw [a1]
        exact hgo ((-x) :: t) _ rfl hlt (hM.wval _ _) (by rw [al_wal_upd]; exact StkA_push t a2)
      | [], d1, _, _, _, _ => exact absurd d1 (show ¬ (1 : Nat) ≤ 0 from by decide)
    · match s, d1, d2, hA, hgo, hl with
      | x :: t, _, d2, ⟨a1, a2⟩, hgo, hl =>
        have hlt : t.length + 1 < 250 := hl
        refine bM_ev16 (p := 0) hF hi5 hie he c1 (s := t.length) (by omega) ?_
        rw [a1]
        exact hgo ((1 - x) :: t) _ rfl hlt (hM.wval _ _) (by rw [al_wal_upd]; exact StkA_push t a2)
      | [], d1, _, _, _, _ => exact absurd d1 (show ¬ (1 : Nat) ≤ 0 from by decide)
    · match s, d1, d2, hA, hgo, hl with
      | y :: x :: t, _, d2, ⟨a1, a2, a3⟩, hgo, hl =>
        have hlt : t.length + 1 + 1 < 250 := hl
        have a1' : al m (gB G + 303) (t.length + 1) = y := a1
        have hfin : ∀ z, evM st nh (ck, cp) (y :: x :: t) = z :: t → WP G (d + 4) (0, 0) μX11_evaluate 5 [.ref (gB G + 293), lvU, .int (nI e), .int (nI (t.length + 1)), .int (nI (i + 1)), lvU] [] (wal m (gB G + 303) t.length z) Q := fun z hz =>
          hgo (z :: t) _ hz (by show t.length + 1 < 250; omega) (hM.wval _ _) (by rw [al_wal_upd]; exact StkA_push t a3)
        rcases h with rfl | rfl | rfl | rfl | rfl | rfl | rfl | rfl | rfl
        · refine bM_ev9 (p := 0) hF hi5 hie he c1 (s := t.length) (by omega) ?_
          rw [a1', a2]
          exact hfin _ rfl
        · refine bM_ev10 (p := 0) hF hi5 hie he c1 (s := t.length) (by omega) ?_
          rw [a1', a2]
          exact hfin _ rfl
        · refine bM_ev11 (p := 0) hF hi5 hie he c1 (s := t.length) (by omega) (fun z => labs_ne0 z) (fun z1 => ?_) (fun z1 z2 => ?_) (fun z1 z2 z3 z4 => ?_) (fun z1 z2 z3 z4 => ?_) (fun z1 z2 z3 z4 => ?_) (fun z1 z2 z3 z4 => ?_)
          · skip
            try rw [a2] at z1
            try rw [a1'] at z1
            try rw [a1', a2]
            refine hfin _ ?_
            show limL (prodF x y) :: t = _
            unfold prodF
            rw [if_pos z1]
            rfl
          · skip
            try rw [a2] at z1
            try rw [a1'] at z1
            try rw [a2] at z2
            try rw [a1'] at z2
            try rw [a1', a2]
            refine hfin _ ?_
            show limL (prodF x y) :: t = _
            unfold prodF
            rw [if_neg z1, if_neg z2]
            rfl
          · skip
            try rw [a2] at z1
            try rw [a1'] at z1
            try rw [a2] at z2
            try rw [a1'] at z2
            try rw [a2] at z3
            try rw [a1'] at z3
            try rw [a2] at z4
            try rw [a1'] at z4
            try rw [a1', a2]
            refine hfin _ ?_
            show limL (prodF x y) :: t = _
            unfold prodF
            rw [if_neg z1, if_pos z2, if_neg z3, if_neg z4]
            rfl
          · skip
            try rw [a2] at z1
            try rw [a1'] at z1
            try rw [a2] at z2
            try rw [a1'] at z2
            try rw [a2] at z3
            try rw [a1'] at z3
            try rw [a2] at z4
            try rw [a1'] at z4
            try rw [a1', a2]
            refine hfin _ ?_
            show limL (prodF x y) :: t = _
            unfold prodF
            rw [if_neg z1, if_pos z2, if_neg z3, if_pos z4]
            rfl
          · skip
            try rw [a2] at z1
            try rw [a1'] at z1
            try rw [a2] at z2
            try rw [a1'] at z2
            try rw [a2] at z3
            try rw [a1'] at z3
            try rw [a2] at z4
            try rw [a1'] at z4
            try rw [a1', a2]
            refine hfin _ ?_
            show limL (prodF x y) :: t = _
            unfold prodF
            rw [if_neg z1, if_pos z2, if_pos z3, if_neg z4]
            rfl
          · skip
            try rw [a2] at z1
            try rw [a1'] at z1
            try rw [a2] at z2
            try rw [a1'] at z2
            try rw [a2] at z3
            try rw [a1'] at z3
            try rw [a2] at z4
            try rw [a1'] at z4
            try rw [a1', a2]
            refine hfin _ ?_
            show limL (prodF x y) :: t = _
            unfold prodF
            rw [if_neg z1, if_pos z2, if_pos z3, if_pos z4]
            rfl
        · refine bM_ev12 (p := 0) hF hi5 hie he c1 (s := t.length) (by omega) (fun z => z) (fun z => ?_) (fun z => ?_)
          · rw [a1'] at z
            try rw [a1', a2]
            refine hfin _ ?_
            show limL (opC 47 x y) :: t = _
            have e : opC 47 x y = _ := if_neg z
            rw [e]
            rfl
          · rw [a1'] at z
            try rw [a1', a2]
            refine hfin _ ?_
            show limL (opC 47 x y) :: t = _
            have e : opC 47 x y = _ := if_pos z
            rw [e]
            rfl
        · refine bM_ev13 (p := 0) hF hi5 hie he c1 (s := t.length) (by omega) (fun z => ?_) (fun z => ?_)
          · rw [a1', a2] at z
            try rw [a1', a2]
            refine hfin _ ?_
            show limL (opC 60 x y) :: t = _
            have e : opC 60 x y = _ := if_neg z
            rw [e]
            rfl
          · rw [a1', a2] at z
            try rw [a1', a2]
            refine hfin _ ?_
            show limL (opC 60 x y) :: t = _
            have e : opC 60 x y = _ := if_pos z
            rw [e]
            rfl
        · refine bM_ev14 (p := 0) hF hi5 hie he c1 (s := t.length) (by omega) (fun z => ?_) (fun z => ?_)
          · rw [a1', a2] at z
            try rw [a1', a2]
            refine hfin _ ?_
            show limL (opC 62 x y) :: t = _
            have e : opC 62 x y = _ := if_neg z
            rw [e]
            rfl
          · rw [a1', a2] at z
            try rw [a1', a2]
            refine hfin _ ?_
            show limL (opC 62 x y) :: t = _
            have e : opC 62 x y = _ := if_pos z
            rw [e]
            rfl
        · refine bM_ev15 (p := 0) hF hi5 hie he c1 (s := t.length) (by omega) (fun z => ?_) (fun z => ?_)
          · rw [a1', a2] at z
            try rw [a1', a2]
            refine hfin _ ?_
            show limL (opC 61 x y) :: t = _
            have e : opC 61 x y = _ := if_neg z
            rw [e]
            rfl
          · rw [a1', a2] at z
            try rw [a1', a2]
            refine hfin _ ?_
            show limL (opC 61 x y) :: t = _
            have e : opC 61 x y = _ := if_pos z
            rw [e]
            rfl
        · refine bM_ev17 (p := 0) hF hi5 hie he c1 (s := t.length) (by omega) ?_
          rw [a1', a2]
          exact hfin _ rfl
        · refine bM_ev18 (p := 0) hF hi5 hie he c1 (s := t.length) (by omega) ?_
          rw [a1', a2]
          exact hfin _ rfl
      | [_], d1, _, _, _, _ => rcases h with rfl | rfl | rfl | rfl | rfl | rfl | rfl | rfl | rfl <;> exact absurd d1 (show ¬ (2 : Nat) ≤ 1 from by decide)
      | [], d1, _, _, _, _ => rcases h with rfl | rfl | rfl | rfl | rfl | rfl | rfl | rfl | rfl <;> exact absurd d1 (show ¬ (2 : Nat) ≤ 0 from by decide)
/-- the reference's evaluate, over codes that leave one value -/
theorem M_eval {i e : Nat} {cs : List Cd} {v : Int64} (hM : MS G m0 m st en) (hS : Safe st n nl nh) (he : e ≤ 500) (hi : i + cs.length = e) (hC : CodM st i cs) (hO : ∀ c ∈ cs, CdOK n nl nh c) (hD : OkC 250 cs 0 1) (hv : evMs st nh cs [] = [v]) (k : ∀ m', MS G m0 m' st en → Q (some (.long v)) m') : WPM G (d + 4) (0, 0) μX11_evaluate [.ref (gB G + 293), .int (nI i), .int (nI e)] m Q := by
  refine eM_ev hM.1 ?_
  refine M_evl hS he cs i [] m hi hM hC hO hD (by decide) trivial (fun m' h1 h2 => ?_)
  rw [hv] at h2
  rw [show al m' (gB G + 303) 0 = v from h2.1]
  exact k m' h1
end MRUL
