theorem p_ge : ∀ k, k < 10 → ¬ (9 - nI k : Int32) < 0 ∧ (9 - nI k : Int32) + (-1 : Int32) = 9 - nI (k + 1) := by decide +kernel
section MSTEP
variable {G : Cx} {d : Nat} {m0 m : Mm} {Q : Option Value → Mm → Prop} {st : Nat → Int32} {en : Nat → Int64} {n nl nh : Nat}
theorem swF_s (s : (Nat → Int32) × Int64) (nh k : Nat) : swF s nh (k + 1) = swP (9 - nI k) (swF s nh k) nh := rfl
theorem M_sw2 {a v : Int64} (hM : MS G m0 m st en) (hn : st 14 = nI nh) (h8 : nh ≤ 8) (k : ∀ m', MS G m0 m' (swF (st, v) nh 10).1 en → WP G (d + 3) (0, 0) μX11_switchHeaters 117 [.ref (gB G + 293), .long a, lvU, .long (swF (st, v) nh 10).2, lvU, .int (-1 : Int32), lvU, lvU] [] m' Q) : WP G (d + 3) (0, 0) μX11_switchHeaters 117 [.ref (gB G + 293), .long a, lvU, .long v, lvU, .int (9 : Int32), lvU, lvU] [] m Q := by
  refine loopN (n := 10) (P := fun i m => MS G m0 m (swF (st, v) nh i).1 en) (W := fun i m => WP G (d + 3) (0, 0) μX11_switchHeaters 117 [.ref (gB G + 293), .long a, lvU, .long (swF (st, v) nh i).2, lvU, .int (9 - nI i), lvU, lvU] [] m Q) ?_ 0 (by omega) m hM
  intro i m' hi hP ih
  by_cases h10 : i < 10
  · obtain ⟨p1, p2⟩ := p_ge i h10
    refine bM_sw2 hP.1 (fun z => absurd z p1) (fun _ => ?_)
    refine M_sw3 hP ?_ h8 (fun m2 hM2 => ?_)
    · rw [swF_ne _ _ (by omega) (fun j _ => by omega)]
      exact hn
    · rw [p2]
      exact ih h10 m2 hM2
  · have e : i = 10 := by omega
    subst e
    exact k m' hP
theorem Safe.sw (h : Safe st n nl nh) (v : Int64) (q : Nat) : Safe (swF (st, v) nh q).1 n nl nh := by
  have q1 := h.2.1
  have q2 := h.2.2.2.1
  have q3 := h.2.2.2.2.2.1
  exact h.of (fun k hk => swF_ne _ _ (by omega) (fun j _ => by omega) q) (fun l hl => ⟨swF_ne _ _ (by omega) (fun j _ => by omega) q, swF_ne _ _ (by omega) (fun j _ => by omega) q, swF_ne _ _ (by omega) (fun j _ => by omega) q⟩) (fun l hl => swF_ne _ _ (by omega) (fun j _ => by omega) q) (fun l hl => swF_ne _ _ (by omega) (fun j _ => by omega) q)
theorem Safe.chg (h : Safe st n nl nh) (a : Int64) : Safe (chgF a nh st) n nl nh := by
  unfold chgF
  exact h.of (fun k hk => upd_ne (by omega)) (fun l hl => ⟨upd_ne (by omega), upd_ne (by omega), upd_ne (by omega)⟩) (fun l hl => upd_ne (by omega)) (fun l hl => upd_ne (by omega))
theorem M_switch (hM : MS G m0 m st en) (hS : Safe st n nl nh) (k : ∀ m', MS G m0 m' (switchF st nh) en → Q none m') : WPM G (d + 3) (0, 0) μX11_switchHeaters [.ref (gB G + 293)] m Q := by
  have hSs := hS
  obtain ⟨s1, s2, s3, s4, s5, s6, s7, s8, s9, s10, s11, s12⟩ := hSs
  have hF := hM.1
  have hs := hM.2.2.1
  have kk : WP G (d + 3) (0, 0) μX11_switchHeaters 54 [.ref (gB G + 293), .long (arrF st), lvU, .long (avlF st), lvU, .int (0 : Int32), lvU, lvU] [] m Q := by
    refine M_sw1 hM hS (fun m1 hM1 => ?_)
    have hS1 := hS.w1 nh
    refine M_sw2 hM1 hS1.2.2.2.2.1 s6 (fun m2 hM2 => ?_)
    have hS2 := hS1.sw (avlF st) 10
    have hs2 := hM2.2.2.1
    refine bM_sw2 hM2.1 (fun _ => ?_) (fun z => absurd (by decide) z)
    refine M_up hM2.1 (n := nh) (by rw [hs2]; exact hS2.2.2.2.2.1) s6 ?_
    refine bM_sw4 hM2.1 ?_
    refine k _ ?_
    have e : switchF st nh = upd (ai m2 (gB G + 294)) 11 (Int64.toInt32 (lmax 0 (lmin (Int32.toInt64 (ai m2 (gB G + 294) 10)) (Int32.toInt64 (ai m2 (gB G + 294) 11) + Int32.toInt64 (ai m2 (gB G + 294) 1) * (arrF st - Int32.toInt64 (ai m2 (gB G + 294) 9) - Int32.toInt64 (upF (ai m2 (gB G + 294)) nh)))))) := by
      unfold switchF
      rw [← hs2]
      rfl
    rw [e]
    have hM3 : MS G m0 m2 (ai m2 (gB G + 294)) en := ⟨hM2.1, hM2.2.1, rfl, hM2.2.2.2⟩
    exact hM3.wst _ _
  refine eM_sw hF (M_sun hF (by rw [hs]; exact s7) ?_)
  rw [← hs] at kk
  refine bM_sw0 hF (fun _ => by rw [hs]; exact s8) (fun _ => by rw [hs]; exact s8) (fun h => ?_) (fun h => ?_)
  · have e : arrF (ai m (gB G + 294)) = 0 := if_pos h
    unfold avlF at kk
    rw [e] at kk
    exact kk
  · have e : arrF (ai m (gB G + 294)) = Int32.toInt64 (ai m (gB G + 294) 8) := if_neg h
    unfold avlF at kk
    rw [e] at kk
    exact kk
-- heat
theorem emS_s (i : Nat) : emS st nl (i + 1) = emS st nl i + emF st nl i := rfl
theorem abS_s (i : Nat) : abS st (i + 1) = abS st i + absF st i := rfl
theorem Safe.warm (h : Safe st n nl nh) (i : Nat) (hi : i ≤ n) : Safe (warmF st n nl nh i) n nl nh := by
  have q1 := h.2.1
  have q2 := h.2.2.2.1
  have q3 := h.2.2.2.2.2.1
  exact h.of (fun k hk => warmF_ne st n nl nh i (fun j _ => by omega)) (fun l hl => ⟨warmF_ne st n nl nh i (fun j _ => by omega), warmF_ne st n nl nh i (fun j _ => by omega), warmF_ne st n nl nh i (fun j _ => by omega)⟩) (fun l hl => warmF_ne st n nl nh i (fun j _ => by omega)) (fun l hl => warmF_ne st n nl nh i (fun j _ => by omega))
theorem M_exch (hM : MS G m0 m st en) (hS : Safe st n nl nh) (k : ∀ m', MS G m0 m' (warmF st n nl nh n) (enF st n nl nh en) → Q none m') : WPM G (d + 5) (0, 0) μX11_exchangeHeat [.ref (gB G + 293)] m Q := by
  have hSs := hS
  obtain ⟨s1, s2, s3, s4, s5, s6, s7, s8, s9, s10, s11, s12⟩ := hSs
  refine eM_ex hM.1 ?_
  refine loopN (n := n) (P := fun i m => MS G m0 m st en ∧ ∀ j, j < i → al m (gB G + 301) j = netF st n nl nh j) (W := fun i m => WP G (d + 5) (0, 0) μX11_exchangeHeat 7 [.ref (gB G + 293), .long (emS st nl i), lvU, .long (abS st i), lvU, .int (nI i), lvU, lvU] [] m Q) ?_ 0 (Nat.zero_le _) m ⟨hM, fun j hj => by omega⟩
  intro i m1 hi hP ih
  obtain ⟨hM1, hnet⟩ := hP
  have hs := hM1.2.2.1
  refine bM_ex1 hM1.1 (by rw [hs]; exact s1) s2 hi (fun h => ?_) (fun h => ?_)
  · have e : i = n := by omega
    subst e
    have hM2 := (hM1.wen 0 (al m1 (gB G + 297) 0 + Int32.toInt64 (ai m1 (gB G + 294) 1) * emS st nl i)).wen 1 (al m1 (gB G + 297) 1 + Int32.toInt64 (ai m1 (gB G + 294) 1) * abS st i)
    have hs2 := hM2.2.2.1
    refine M_up (n := nh) hM2.1 (by rw [hs2]; exact s5) s6 ?_
    refine bM_ex5 hM2.1 ?_
    have hM3 := hM2.wen 2 (al m1 (gB G + 297) 2 + Int32.toInt64 (ai m1 (gB G + 294) 1) * Int32.toInt64 (upF (ai (wal (wal m1 (gB G + 297) 0 (al m1 (gB G + 297) 0 + Int32.toInt64 (ai m1 (gB G + 294) 1) * emS st nl i)) (gB G + 297) 1 (al m1 (gB G + 297) 1 + Int32.toInt64 (ai m1 (gB G + 294) 1) * abS st i)) (gB G + 294)) nh))
    have hnet3 : ∀ j, j < i → al (wal (wal (wal m1 (gB G + 297) 0 (al m1 (gB G + 297) 0 + Int32.toInt64 (ai m1 (gB G + 294) 1) * emS st nl i)) (gB G + 297) 1 (al m1 (gB G + 297) 1 + Int32.toInt64 (ai m1 (gB G + 294) 1) * abS st i)) (gB G + 297) 2 (al m1 (gB G + 297) 2 + Int32.toInt64 (ai m1 (gB G + 294) 1) * Int32.toInt64 (upF (ai (wal (wal m1 (gB G + 297) 0 (al m1 (gB G + 297) 0 + Int32.toInt64 (ai m1 (gB G + 294) 1) * emS st nl i)) (gB G + 297) 1 (al m1 (gB G + 297) 1 + Int32.toInt64 (ai m1 (gB G + 294) 1) * abS st i)) (gB G + 294)) nh))) (gB G + 301) j = netF st i nl nh j := fun j hj => by
      rw [al_na (by omega), al_na (by omega), al_na (by omega)]
      exact hnet j hj
    have eE : vp_updL (vp_updL (vp_updL en 0 (al m1 (gB G + 297) 0 + Int32.toInt64 (ai m1 (gB G + 294) 1) * emS st nl i)) 1 (al m1 (gB G + 297) 1 + Int32.toInt64 (ai m1 (gB G + 294) 1) * abS st i)) 2 (al m1 (gB G + 297) 2 + Int32.toInt64 (ai m1 (gB G + 294) 1) * Int32.toInt64 (upF (ai (wal (wal m1 (gB G + 297) 0 (al m1 (gB G + 297) 0 + Int32.toInt64 (ai m1 (gB G + 294) 1) * emS st nl i)) (gB G + 297) 1 (al m1 (gB G + 297) 1 + Int32.toInt64 (ai m1 (gB G + 294) 1) * abS st i)) (gB G + 294)) nh)) = enF st i nl nh en := by
      unfold enF
      rw [hs2, hs, hM1.2.2.2]
    rw [eE] at hM3
    generalize wal (wal (wal m1 _ _ _) _ _ _) _ _ _ = m3 at hM3 hnet3 ⊢
    refine loopN (n := i) (P := fun q m => MS G m0 m (warmF st i nl nh q) (enF st i nl nh en) ∧ ∀ j, j < i → al m (gB G + 301) j = netF st i nl nh j) (W := fun q m => WP G (d + 5) (0, 0) μX11_exchangeHeat 117 [.ref (gB G + 293), lvU, lvU, lvU, lvU, .int (nI q), lvU, lvU] [] m Q) ?_ 0 (Nat.zero_le _) m3 ⟨hM3, hnet3⟩
    intro q m4 hq hP4 ih4
    obtain ⟨hM4, hnet4⟩ := hP4
    have hs4 := hM4.2.2.1
    have hS4 := hS.warm q hq
    rw [← hs4] at hS4
    refine bM_ex6 hM4.1 hS4.1 s2 hq (fun h => hS4.2.2.2.2.2.2.2.2.2.2.2 q h) (fun h => ?_) (fun h => ?_)
    · have e : q = i := by omega
      subst e
      exact k m4 hM4
    · refine ih4 h _ ⟨?_, fun j hj => ?_⟩
      · have e2 : warmF st i nl nh (q + 1) = upd (ai m4 (gB G + 294)) (11 * q + 21) (tmpF st i nl nh (ai m4 (gB G + 294)) q) := by rw [hs4]; rfl
        rw [e2]
        unfold tmpF
        rw [← hnet4 q h]
        have hM5 : MS G m0 m4 (ai m4 (gB G + 294)) (enF st i nl nh en) := ⟨hM4.1, hM4.2.1, rfl, hM4.2.2.2⟩
        exact hM5.wst _ _
      · exact hnet4 j hj
  · refine M_net hM1.1 (by omega) (by rw [hs]; exact hS) ?_
    refine bM_ex2 hM1.1 (by omega) ?_
    have hM2 := hM1.wnet i (netF (ai m1 (gB G + 294)) n nl nh i)
    have hs2 := hM2.2.2.1
    refine M_em hM2.1 (by omega) (n := nl) (by rw [hs2]; exact s3) s4 (by rw [hs2]; exact s9) ?_
    refine bM_ex3 hM2.1 (by omega) ?_
    refine M_abs hM2.1 (by omega) (by rw [hs2]; exact s7) ?_
    refine bM_ex4 hM2.1 (by omega) ?_
    have := ih h _ ⟨hM2, fun j hj => ?_⟩
    · rw [hs2]
      rw [emS_s, abS_s] at this
      exact this
    · by_cases hji : j = i
      · subst hji
        rw [al_eq, hs]
      · rw [al_nk hji]
        exact hnet j (by omega)
end MSTEP
