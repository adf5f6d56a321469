theorem Iv_pow {T : Int} {st : Nat → Int32} {n nl nh i : Nat} {x : Int32} (h : Iv T st n nl nh) (hi : i < nh) (hx : rg x 0 100000) : Iv T (upd st (8 * i + 339) x) n nl nh := by
  obtain ⟨⟨i1, i2, i3, i4, i5, i6, ⟨j1, j2, j3, j4, j5, j6, j7⟩, i8, i9, i10, i11⟩, i12⟩ := h
  have e : ∀ k, k ≠ 8 * i + 339 → upd st (8 * i + 339) x k = st k := fun k hk => upd_ne hk
  refine ⟨⟨(e 12 (by omega)).trans i1, i2, (e 13 (by omega)).trans i3, i4, (e 14 (by omega)).trans i5, i6, ⟨?_, ?_, ?_, ?_, ?_, ?_, ?_⟩, fun i hi => ?_, fun i hi => ?_, fun a ha => ?_, ?_⟩, fun i hi => ?_⟩
  · rw [e 0 (by omega)]; exact j1
  · rw [e 1 (by omega)]; exact j2
  · rw [e 2 (by omega)]; exact j3
  · rw [e 8 (by omega)]; exact j4
  · rw [e 9 (by omega)]; exact j5
  · rw [e 10 (by omega)]; exact j6
  · rw [e 11 (by omega), e 10 (by omega)]; exact j7
  · have := i8 i hi
    unfold InvN at this ⊢
    rw [e (11 * i + 20) (by omega), e (11 * i + 21) (by omega), e (11 * i + 29) (by omega), e (11 * i + 30) (by omega), e 0 (by omega)]
    exact this
  · have := i9 i hi
    unfold InvL at this ⊢
    rw [e (7 * i + 296) (by omega), e (7 * i + 298) (by omega), e (7 * i + 299) (by omega), e (7 * i + 300) (by omega), e (7 * i + 302) (by omega)]
    exact this
  · obtain ⟨a1, a2, a3, a4⟩ := i10 a ha
    unfold InvH
    rw [e (8 * a + 338) (by omega), e (8 * a + 342) (by omega), e (8 * a + 344) (by omega)]
    refine ⟨a1, ?_, a3, a4⟩
    by_cases h : a = i
    · rw [h, upd_eq]
      exact hx
    · rw [e _ (by omega)]
      exact a2
  · rw [e 16 (by omega), i11]
    exact congrArg nI (vcnt_eq n (fun j hj => e _ (by omega))).symm
  · rw [e _ (by omega)]
    exact i12 i hi
theorem C_ts {G : Cx} {d n : Nat} {m0 : Mm} {s : Sc} {T : Int} {Q : Option Value → Mm → Prop} (hF : Full G m0) (hC : CRx m0 (gB G + 70) s) (hG : GdT T s) (hT : T ≤ 1700000000) (hn : n ≤ 2000) (k1 : ∀ m', Full G m' → Out (CA (gB G + 70)) m' m0 → resF (PA s) n 0 = -1 → Q (some (.int 1)) m') (k0 : ∀ m', Full G m' → Out (CA (gB G + 70)) m' m0 → ¬ resF (PA s) n 0 = -1 → Q (some (.int 0)) m') : WPM G (d + 7) (0, 0) μX10_trialSurvives [.ref (gB G), .int (nI n)] m0 Q := by
  refine eC_ts hF ?_
  refine loopN (n := n) (P := fun t m => Full G m ∧ Out (CA (gB G + 70)) m m0 ∧ CRx m (gB G + 70) (it s t) ∧ resF (PA s) n 0 = resF (PA s) (n - t) t) (W := fun t m => WP G (d + 7) (0, 0) μX10_trialSurvives 2 [.ref (gB G), .int (nI n), .int (nI t)] [] m Q) ?_ 0 (by omega) m0 ⟨hF, Out.rf, hC, rfl⟩
  intro t m ht ⟨h1, h2, h3, hr⟩ ih
  refine bC_ts h1 hn ht (fun z => ?_) (fun z => ?_)
  · have e : t = n := by omega
    subst e
    rw [Nat.sub_self] at hr
    exact k1 m h1 h2 hr
  · obtain ⟨f, hf⟩ : ∃ f, n - t = f + 1 := ⟨n - t - 1, by omega⟩
    rw [hf, show f = n - (t + 1) by omega] at hr
    have hr : resF (PA s) n 0 = if PA s t = true then nI (t + 1) else resF (PA s) (n - (t + 1)) (t + 1) := hr
    refine C_st h1 (isC2 G) h3 (GdT_it hG t (by omega)) (by omega) (fun m' a b c => ?_)
    refine jC_ts a hn z (fun y => ?_) (fun y => ?_)
    · have hp : PA s t = false := by
        unfold PA
        simp [y]
      rw [hp, if_neg (by decide)] at hr
      exact ih z m' ⟨a, (b.mono (fun x hx => SA_CA hx)).tr h2, c, hr⟩
    · have hp : PA s t = true := by
        unfold PA
        simp [y]
      rw [hp, if_pos rfl] at hr
      exact k0 m' a ((b.mono (fun x hx => SA_CA hx)).tr h2) (by rw [hr]; exact nI_ne1b (by omega))
/-- the least multiple with which no node has a violation -/
def lpF (g : Nat → Sc) (w n : Nat) : Nat → Nat → Int32
  | 0, _ => -1
  | f + 1, q => if resF (PA (g q)) n 0 = -1 then nI (w * q) else lpF g w n f (q + 1)

abbrev g_lhp (s : Sc) (i : Nat) : Nat → Sc := fun q => (upd (sS s) (8 * i + 339) (nI (1000 * q)), s.2)
theorem Gd_lhp {T : Int} {s : Sc} {i q : Nat} (hG : GdT T s) (hi : i < sH s) (hq : q < 31) : GdT T (g_lhp s i q) := by
  obtain ⟨h1, h2, h3⟩ := hG
  have b1 := h1.1.2.1
  have b2 := h1.1.2.2.2.1
  have b3 := h1.1.2.2.2.2.2.1
  refine ⟨Iv_pow h1 hi ⟨by rw [nI_toInt (by omega)]; omega, by rw [nI_toInt (by omega)]; omega⟩, h2.of (fun k hk => upd_ne (by omega)) ⟨Nat.le_refl _, Nat.le_refl _, Nat.le_refl _⟩ h3, h3⟩
theorem CR_lhp {m : Mm} {c i q : Nat} {s : Sc} (h : CRx m c s) (hi : i < sH s) (hm : sH s ≤ 8) (h12 : sN s ≤ 12) : CRx (wfi m 101 (ht c i) (nI (1000 * q))) c (g_lhp s i q) :=
  CR.of h ((h.1.wH 1 (by omega) (by omega) (fun k hk => Or.inl hk)) : CS m (wfi m 101 (ht c i) (nI (1000 * q))) c _ _ _) (fun k hk => upd_ne (by omega)) (fun j hj => upd_ne (by omega)) h12
theorem C_lhp {G : Cx} {d n i : Nat} {m0 : Mm} {s : Sc} {T : Int} {Q : Option Value → Mm → Prop} (hF : Full G m0) (hC : CRx m0 (gB G + 1) s) (hG : GdT T s) (hT : T ≤ 1700000000) (hi : i < sH s) (hm : sH s ≤ 8) (h12 : sN s ≤ 12) (hn : n ≤ 200) (k : ∀ m', Full G m' → Out (CA (gB G + 70)) m' m0 → Q (some (.int (lpF (g_lhp s i) 1000 n 31 0))) m') : WP G (d + 8) (0, 0) μX10_leastHeaterPower 30 [.ref (gB G), .int (nI i), .int (nI n), .int (0 : Int32)] [] m0 Q := by
  refine loopN (n := 31) (P := fun q m => Full G m ∧ Out (CA (gB G + 70)) m m0 ∧ lpF (g_lhp s i) 1000 n 31 0 = lpF (g_lhp s i) 1000 n (31 - q) q) (W := fun q m => WP G (d + 8) (0, 0) μX10_leastHeaterPower 30 [.ref (gB G), .int (nI i), .int (nI n), .int (nI (1000 * q))] [] m Q) ?_ 0 (by omega) m0 ⟨hF, Out.rf, rfl⟩
  intro q m hq ⟨h1, h2, hr⟩ ih
  have hC1 : CRx m (gB G + 1) s := hC.ag (fun f j hj => h2.fi (by unfold CA; omega) f) (fun f => h2.fl (by unfold CA; omega) f) (fun j k hj => h2.ai (by unfold CA; omega) k)
  refine bC_lhp h1 (by omega) hn hq (fun z => ?_) (fun z => ?_)
  · have e : q = 31 := by omega
    subst e
    rw [Nat.sub_self] at hr
    have := k m h1 h2
    rw [hr] at this
    exact this
  · have z : q < 31 := by omega
    obtain ⟨f, hf⟩ : ∃ f, 31 - q = f + 1 := ⟨31 - q - 1, by omega⟩
    rw [hf, show f = 31 - (q + 1) by omega] at hr
    have hr : lpF (g_lhp s i) 1000 n 31 0 = if resF (PA (g_lhp s i q)) n 0 = -1 then nI (1000 * q) else lpF (g_lhp s i) 1000 n (31 - (q + 1)) (q + 1) := hr
    refine C_trial (d := d + 4) h1 hC1 hG (fun m1 hF1 hO1 hC2 => ?_)
    refine cC_lhp hF1 (by omega) hn z ?_
    have hO1' : Out (CA (gB G + 70)) (wfi m1 101 (ht (gB G + 70) i) (nI (1000 * q))) m0 := (hO1.tr h2).wfi (by unfold CA ht; omega)
    refine C_ts (d := d) (Full_wfi _ _ _ hF1) (CR_lhp hC2 hi hm h12) (Gd_lhp hG hi z) hT (by omega) (fun m2 hF2 hO2 y => ?_) (fun m2 hF2 hO2 y => ?_)
    · refine dC_lhp hF2 (by omega) hn z (fun h => absurd h (by decide)) (fun _ => ?_)
      rw [if_pos y] at hr
      have := k m2 hF2 (hO2.tr hO1')
      rw [hr] at this
      exact this
    · refine dC_lhp hF2 (by omega) hn z (fun _ => ?_) (fun h => absurd rfl h)
      rw [if_neg y] at hr
      exact ih z m2 ⟨hF2, hO2.tr hO1', hr⟩
theorem M_lhp {G : Cx} {d n i : Nat} {m1 : Mm} {s : Sc} {T : Int} {Q : Option Value → Mm → Prop} (hM : MS G m1 m1 (sS s) (sE s)) (hG : GdT T s) (hT : T ≤ 1700000000) (hi : i < sH s) (hm : sH s ≤ 8) (hn : n ≤ 200) (k : ∀ m', TR G m1 m' s s → Q (some (.int (lpF (g_lhp s i) 1000 n 31 0))) m') : WPM G (d + 9) (0, 0) μX11_leastValue [.ref (gB G + 293), .int (nI (8 * i + 339)), .int (1000 : Int32), .int (nI n)] m1 Q := by
  refine eM_lv_lhp hM.1 (by omega) hn ?_
  refine M_ks (s := s) hM (fun m2 h2 => ?_)
  refine cM_lv_lhp h2.1 (by omega) hn ?_
  refine loopN (n := 31) (P := fun q m => TR G m1 m s s ∧ lpF (g_lhp s i) 1000 n 31 0 = lpF (g_lhp s i) 1000 n (31 - q) q) (W := fun q m => WP G (d + 9) (0, 0) μX11_leastValue 10 [.ref (gB G + 293), .int (nI (8 * i + 339)), .int (1000 : Int32), .int (nI n), .int (-1 : Int32), .int (nI q)] [] m Q) ?_ 0 (by omega) m2 ⟨h2, rfl⟩
  intro q m hq ⟨h1, hr⟩ ih
  refine bM_lv_lhp h1.1 (by omega) hn hq (fun z => ?_) (fun z => ?_)
  · have e : q = 31 := by omega
    subst e
    rw [Nat.sub_self] at hr
    have := k m h1
    rw [hr] at this
    exact this
  · have z : q < 31 := by omega
    obtain ⟨f, hf⟩ : ∃ f, 31 - q = f + 1 := ⟨31 - q - 1, by omega⟩
    rw [hf, show f = 31 - (q + 1) by omega] at hr
    have hr : lpF (g_lhp s i) 1000 n 31 0 = if resF (PA (g_lhp s i q)) n 0 = -1 then nI (1000 * q) else lpF (g_lhp s i) 1000 n (31 - (q + 1)) (q + 1) := hr
    refine M_rvn (s := g_lhp s i q) (h1.put (by omega)) (Gd_lhp hG hi z) hT (by omega) (fun m3 s3 h3 => ?_)
    refine dM_lv_lhp h3.1 (by omega) hn z (fun y => ?_) (fun y => ?_)
    · rw [if_neg y] at hr
      refine M_pb h3 (fun m4 h4 => ?_)
      exact f0M_lv_lhp h4.1 (by omega) hn z (ih z m4 ⟨h4, hr⟩)
    · rw [if_pos y] at hr
      refine M_pb h3 (fun m4 h4 => ?_)
      have := k m4 h4
      rw [hr] at this
      exact f1M_lv_lhp h4.1 (by omega) hn z (xM_lv_lhp h4.1 (by omega) hn (by omega) (by omega) (fun _ => this) (fun _ => this))

theorem K_45 {G : Cx} {d i : Nat} {m : Mm} {A : Ab} {Q : Option Value → Mm → Prop} (hL : LIv G m A) (hi : i + 7 ≤ gSl G) (hl : gSl G < 4000) (next : ∀ m' A', LIv G m' A' → WP G (d + 100) (0, 0) μL_law 18 [.ref (gSa G), .ref (gB G), .ref (gB G + 293), .int (nI (i + 7))] [] m' Q) : WP G (d + 100) (0, 0) μL_law 1524 [.ref (gSa G), .ref (gB G), .ref (gB G + 293), .int (nI i)] [] m Q := by
  have fin : ∀ v : Int32, WP G (d + 100) (0, 0) μL_law 1552 [.ref (gSa G), .ref (gB G), .ref (gB G + 293), .int (nI i)] [.int v, .int v] m Q := fun v => bL_45c hL.1 hi hl (fun _ => next m A hL) (fun z => absurd rfl z)
  obtain ⟨n5, n12, h12⟩ := hL.nh
  have hG := hL.gd
  refine bL_45a hL.1 hi hl ?_
  rcases inr_cases (gSx G (i + 1)) (sH (aS A)) (by omega) with ⟨j, hj, e⟩ | e | ⟨e, e'⟩
  · obtain ⟨p, hp⟩ : ∃ p, sH (aS A) = p + 1 := ⟨sH (aS A) - 1, by omega⟩
    have hjn := hj
    have h12s := h12
    rw [hp] at n5 n12 h12 hj
    rw [e]
    refine iC_lhp (d := d + 91) hL.1 n5 h12 hj (fun c1 => ?_) (fun c1 c2 => ?_) (fun c1 c2 => ?_)
    · refine bL_45b hL.1 hi hl ?_
      rw [e]
      exact iM_lhp (d := d + 89) hL.1 n12 h12 hj (fun _ => fin _) (fun h => absurd c1 h) (fun h => absurd c1 h)
    · refine bL_45b hL.1 hi hl ?_
      rw [e]
      exact iM_lhp (d := d + 89) hL.1 n12 h12 hj (fun h => absurd h c1) (fun _ _ => fin _) (fun _ h => absurd c2 h)
    · obtain ⟨n, hn, en⟩ := st_in (b := 200) (by omega) (by decide) c1 c2
      rw [en]
      refine C_lhp (d := d + 91) hL.1 hL.2.1.1 hG (by omega) hjn h12s hL.nn.2.2 hn (fun m2 hF2 hO => ?_)
      refine bL_45b hF2 hi hl ?_
      rw [e, en]
      have r1 := (hL.2.2.1.cls (hO.mono (fun a ha => CT_CC (CA_CT2 ha)))).MS hF2
      have n12' : ai m2 (gB G + 294) 14 = nI (p + 1) := (hO.ai (by unfold CA; omega) 14).trans n12
      refine iM_lhp (d := d + 89) hF2 n12' h12 hj (fun h => absurd h (by rw [← en]; exact c1)) (fun _ h => absurd h (by rw [← en]; exact c2)) (fun _ _ => ?_)
      refine M_lhp (d := d + 89) (s := aS A) r1 hG (by omega) hjn h12s hn (fun m5 h5 => ?_)
      refine jM_lhp h5.1 ?_
      exact bL_45c h5.1 hi hl (fun _ => next _ _ (LIv_trial hL hO h5)) (fun z => absurd rfl z)
  · exact aC_lhp (d := d + 91) hL.1 n5 h12 e (bL_45b hL.1 hi hl (aM_lhp (d := d + 89) hL.1 n12 h12 e (fin _)))
  · exact bC_lhpx (d := d + 91) hL.1 n5 h12 e e' (bL_45b hL.1 hi hl (bM_lhpx (d := d + 89) hL.1 n12 h12 e e' (fin _)))

abbrev g_lla (s : Sc) (i : Nat) : Nat → Sc := fun q => (upd (sS s) (7 * i + 297) (nI (100 * q)), s.2)
theorem Gd_lla {T : Int} {s : Sc} {i q : Nat} (hG : GdT T s) (hi : i < sL s) (hq : q < 31) : GdT T (g_lla s i q) := by
  obtain ⟨h1, h2, h3⟩ := hG
  have b1 := h1.1.2.1
  have b2 := h1.1.2.2.2.1
  have b3 := h1.1.2.2.2.2.2.1
  refine ⟨h1.upd (by omega) (fun a ha => ⟨by omega, by omega, by omega, fun z => by omega⟩) (fun a ha => ⟨fun j hj hj1 => by omega, fun z => by omega⟩) (fun a ha => ⟨fun j hj => by omega, fun z => by omega, fun z => by omega⟩), h2.of (fun k hk => upd_ne (by omega)) ⟨Nat.le_refl _, Nat.le_refl _, Nat.le_refl _⟩ h3, h3⟩
theorem CR_lla {m : Mm} {c i q : Nat} {s : Sc} (h : CRx m c s) (hi : i < sL s) (hm : sL s ≤ 6) (h12 : sN s ≤ 12) : CRx (wfi m 301 (lv c i) (nI (100 * q))) c (g_lla s i q) :=
  CR.of h ((h.1.wL 1 (by omega) (by omega) (fun k hk => Or.inl hk)) : CS m (wfi m 301 (lv c i) (nI (100 * q))) c _ _ _) (fun k hk => upd_ne (by omega)) (fun j hj => upd_ne (by omega)) h12
theorem C_lla {G : Cx} {d n i : Nat} {m0 : Mm} {s : Sc} {T : Int} {Q : Option Value → Mm → Prop} (hF : Full G m0) (hC : CRx m0 (gB G + 1) s) (hG : GdT T s) (hT : T ≤ 1700000000) (hi : i < sL s) (hm : sL s ≤ 6) (h12 : sN s ≤ 12) (hn : n ≤ 200) (k : ∀ m', Full G m' → Out (CA (gB G + 70)) m' m0 → Q (some (.int (lpF (g_lla s i) 100 n 31 0))) m') : WP G (d + 8) (0, 0) μX10_leastLouvreArea 30 [.ref (gB G), .int (nI i), .int (nI n), .int (0 : Int32)] [] m0 Q := by
  refine loopN (n := 31) (P := fun q m => Full G m ∧ Out (CA (gB G + 70)) m m0 ∧ lpF (g_lla s i) 100 n 31 0 = lpF (g_lla s i) 100 n (31 - q) q) (W := fun q m => WP G (d + 8) (0, 0) μX10_leastLouvreArea 30 [.ref (gB G), .int (nI i), .int (nI n), .int (nI (100 * q))] [] m Q) ?_ 0 (by omega) m0 ⟨hF, Out.rf, rfl⟩
  intro q m hq ⟨h1, h2, hr⟩ ih
  have hC1 : CRx m (gB G + 1) s := hC.ag (fun f j hj => h2.fi (by unfold CA; omega) f) (fun f => h2.fl (by unfold CA; omega) f) (fun j k hj => h2.ai (by unfold CA; omega) k)
  refine bC_lla h1 (by omega) hn hq (fun z => ?_) (fun z => ?_)
  · have e : q = 31 := by omega
    subst e
    rw [Nat.sub_self] at hr
    have := k m h1 h2
    rw [hr] at this
    exact this
  · have z : q < 31 := by omega
    obtain ⟨f, hf⟩ : ∃ f, 31 - q = f + 1 := ⟨31 - q - 1, by omega⟩
    rw [hf, show f = 31 - (q + 1) by omega] at hr
    have hr : lpF (g_lla s i) 100 n 31 0 = if resF (PA (g_lla s i q)) n 0 = -1 then nI (100 * q) else lpF (g_lla s i) 100 n (31 - (q + 1)) (q + 1) := hr
    refine C_trial (d := d + 4) h1 hC1 hG (fun m1 hF1 hO1 hC2 => ?_)
    refine cC_lla hF1 (by omega) hn z ?_
    have hO1' : Out (CA (gB G + 70)) (wfi m1 301 (lv (gB G + 70) i) (nI (100 * q))) m0 := (hO1.tr h2).wfi (by unfold CA lv; omega)
    refine C_ts (d := d) (Full_wfi _ _ _ hF1) (CR_lla hC2 hi hm h12) (Gd_lla hG hi z) hT (by omega) (fun m2 hF2 hO2 y => ?_) (fun m2 hF2 hO2 y => ?_)
    · refine dC_lla hF2 (by omega) hn z (fun h => absurd h (by decide)) (fun _ => ?_)
      rw [if_pos y] at hr
      have := k m2 hF2 (hO2.tr hO1')
      rw [hr] at this
      exact this
    · refine dC_lla hF2 (by omega) hn z (fun _ => ?_) (fun h => absurd rfl h)
      rw [if_neg y] at hr
      exact ih z m2 ⟨hF2, hO2.tr hO1', hr⟩
theorem M_lla {G : Cx} {d n i : Nat} {m1 : Mm} {s : Sc} {T : Int} {Q : Option Value → Mm → Prop} (hM : MS G m1 m1 (sS s) (sE s)) (hG : GdT T s) (hT : T ≤ 1700000000) (hi : i < sL s) (hm : sL s ≤ 6) (hn : n ≤ 200) (k : ∀ m', TR G m1 m' s s → Q (some (.int (lpF (g_lla s i) 100 n 31 0))) m') : WPM G (d + 9) (0, 0) μX11_leastValue [.ref (gB G + 293), .int (nI (7 * i + 297)), .int (100 : Int32), .int (nI n)] m1 Q := by
  refine eM_lv_lla hM.1 (by omega) hn ?_
  refine M_ks (s := s) hM (fun m2 h2 => ?_)
  refine cM_lv_lla h2.1 (by omega) hn ?_
  refine loopN (n := 31) (P := fun q m => TR G m1 m s s ∧ lpF (g_lla s i) 100 n 31 0 = lpF (g_lla s i) 100 n (31 - q) q) (W := fun q m => WP G (d + 9) (0, 0) μX11_leastValue 10 [.ref (gB G + 293), .int (nI (7 * i + 297)), .int (100 : Int32), .int (nI n), .int (-1 : Int32), .int (nI q)] [] m Q) ?_ 0 (by omega) m2 ⟨h2, rfl⟩
  intro q m hq ⟨h1, hr⟩ ih
  refine bM_lv_lla h1.1 (by omega) hn hq (fun z => ?_) (fun z => ?_)
  · have e : q = 31 := by omega
    subst e
    rw [Nat.sub_self] at hr
    have := k m h1
    rw [hr] at this
    exact this
  · have z : q < 31 := by omega
    obtain ⟨f, hf⟩ : ∃ f, 31 - q = f + 1 := ⟨31 - q - 1, by omega⟩
    rw [hf, show f = 31 - (q + 1) by omega] at hr
    have hr : lpF (g_lla s i) 100 n 31 0 = if resF (PA (g_lla s i q)) n 0 = -1 then nI (100 * q) else lpF (g_lla s i) 100 n (31 - (q + 1)) (q + 1) := hr
    refine M_rvn (s := g_lla s i q) (h1.put (by omega)) (Gd_lla hG hi z) hT (by omega) (fun m3 s3 h3 => ?_)
    refine dM_lv_lla h3.1 (by omega) hn z (fun y => ?_) (fun y => ?_)
    · rw [if_neg y] at hr
      refine M_pb h3 (fun m4 h4 => ?_)
      exact f0M_lv_lla h4.1 (by omega) hn z (ih z m4 ⟨h4, hr⟩)
    · rw [if_pos y] at hr
      refine M_pb h3 (fun m4 h4 => ?_)
      have := k m4 h4
      rw [hr] at this
      exact f1M_lv_lla h4.1 (by omega) hn z (xM_lv_lla h4.1 (by omega) hn (by omega) (by omega) (fun _ => this) (fun _ => this))

theorem K_46 {G : Cx} {d i : Nat} {m : Mm} {A : Ab} {Q : Option Value → Mm → Prop} (hL : LIv G m A) (hi : i + 7 ≤ gSl G) (hl : gSl G < 4000) (next : ∀ m' A', LIv G m' A' → WP G (d + 100) (0, 0) μL_law 18 [.ref (gSa G), .ref (gB G), .ref (gB G + 293), .int (nI (i + 7))] [] m' Q) : WP G (d + 100) (0, 0) μL_law 1557 [.ref (gSa G), .ref (gB G), .ref (gB G + 293), .int (nI i)] [] m Q := by
  have fin : ∀ v : Int32, WP G (d + 100) (0, 0) μL_law 1585 [.ref (gSa G), .ref (gB G), .ref (gB G + 293), .int (nI i)] [.int v, .int v] m Q := fun v => bL_46c hL.1 hi hl (fun _ => next m A hL) (fun z => absurd rfl z)
  obtain ⟨n5, n12, h12⟩ := hL.nl
  have hG := hL.gd
  refine bL_46a hL.1 hi hl ?_
  rcases inr_cases (gSx G (i + 1)) (sL (aS A)) (by omega) with ⟨j, hj, e⟩ | e | ⟨e, e'⟩
  · obtain ⟨p, hp⟩ : ∃ p, sL (aS A) = p + 1 := ⟨sL (aS A) - 1, by omega⟩
    have hjn := hj
    have h12s := h12
    rw [hp] at n5 n12 h12 hj
    rw [e]
    refine iC_lla (d := d + 91) hL.1 n5 h12 hj (fun c1 => ?_) (fun c1 c2 => ?_) (fun c1 c2 => ?_)
    · refine bL_46b hL.1 hi hl ?_
      rw [e]
      exact iM_lla (d := d + 89) hL.1 n12 h12 hj (fun _ => fin _) (fun h => absurd c1 h) (fun h => absurd c1 h)
    · refine bL_46b hL.1 hi hl ?_
      rw [e]
      exact iM_lla (d := d + 89) hL.1 n12 h12 hj (fun h => absurd h c1) (fun _ _ => fin _) (fun _ h => absurd c2 h)
    · obtain ⟨n, hn, en⟩ := st_in (b := 200) (by omega) (by decide) c1 c2
      rw [en]
      refine C_lla (d := d + 91) hL.1 hL.2.1.1 hG (by omega) hjn h12s hL.nn.2.2 hn (fun m2 hF2 hO => ?_)
      refine bL_46b hF2 hi hl ?_
      rw [e, en]
      have r1 := (hL.2.2.1.cls (hO.mono (fun a ha => CT_CC (CA_CT2 ha)))).MS hF2
      have n12' : ai m2 (gB G + 294) 13 = nI (p + 1) := (hO.ai (by unfold CA; omega) 13).trans n12
      refine iM_lla (d := d + 89) hF2 n12' h12 hj (fun h => absurd h (by rw [← en]; exact c1)) (fun _ h => absurd h (by rw [← en]; exact c2)) (fun _ _ => ?_)
      refine M_lla (d := d + 89) (s := aS A) r1 hG (by omega) hjn h12s hn (fun m5 h5 => ?_)
      refine jM_lla h5.1 ?_
      exact bL_46c h5.1 hi hl (fun _ => next _ _ (LIv_trial hL hO h5)) (fun z => absurd rfl z)
  · exact aC_lla (d := d + 91) hL.1 n5 h12 e (bL_46b hL.1 hi hl (aM_lla (d := d + 89) hL.1 n12 h12 e (fin _)))
  · exact bC_llax (d := d + 91) hL.1 n5 h12 e e' (bL_46b hL.1 hi hl (bM_llax (d := d + 89) hL.1 n12 h12 e e' (fin _)))
