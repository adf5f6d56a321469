def xt0 (s : Sc) (i : Nat) : Nat → Int32
  | 0 => 200000
  | t + 1 => imin (xt0 s i t) (sS (it s (t + 1)) (11 * i + 21))
theorem C_xt0 {G : Cx} {d n i : Nat} {m0 : Mm} {s : Sc} {T : Int} {Q : Option Value → Mm → Prop} (hF : Full G m0) (hC : CRx m0 (gB G + 70) s) (hG : GdT T s) (hT : T ≤ 1700000000) (hi : i < sN s) (h12 : sN s ≤ 12) (hn : n ≤ 2000) (k : ∀ m', Full G m' → Out (CA (gB G + 70)) m' m0 → Q (some (.int (xt0 s i n))) m') : WP G (d + 7) (0, 0) μX10_extremeAhead 55 [.ref (gB G), .int (nI i), .int (nI n), .int (0 : Int32), .int (200000 : Int32), .int (0 : Int32), lvU] [] m0 Q := by
  refine loopN (n := n) (P := fun t m => Full G m ∧ Out (CA (gB G + 70)) m m0 ∧ CRx m (gB G + 70) (it s t)) (W := fun t m => WP G (d + 7) (0, 0) μX10_extremeAhead 55 [.ref (gB G), .int (nI i), .int (nI n), .int (0 : Int32), .int (xt0 s i t), .int (nI t), lvU] [] m Q) ?_ 0 (by omega) m0 ⟨hF, Out.rf, hC⟩
  intro t m ht ⟨h1, h2, h3⟩ ih
  refine bC_ext0 h1 (by omega) hn ht (fun z => ?_) (fun z => ?_)
  · have e : t = n := by omega
    subst e
    exact k m h1 h2
  · refine C_st h1 (isC2 G) h3 (GdT_it hG t (by omega)) (by omega) (fun m' a b c => ?_)
    have hi' : i < sN (sp (it s t)) := by rw [show sN (sp (it s t)) = sN s from it_N s (t + 1)]; exact hi
    have h12' : sN (sp (it s t)) ≤ 12 := by rw [show sN (sp (it s t)) = sN s from it_N s (t + 1)]; exact h12
    have e1 : fi m' 401 (nd (gB G + 70) i) = sS (it s (t + 1)) (11 * i + 21) := CR.N c 1 hi' h12' (by omega)
    refine jC_ext0 a (by omega) hn z ?_
    rw [e1]
    exact ih z m' ⟨a, (b.mono (fun x hx => SA_CA hx)).tr h2, c⟩
theorem M_xt0 {G : Cx} {d n i : Nat} {m0 m1 : Mm} {s0 s : Sc} {T : Int} {Q : Option Value → Mm → Prop} (hM : TR G m0 m1 s0 s) (hG : GdT T s) (hT : T ≤ 1700000000) (h12 : i < 12) (hn : n ≤ 2000) (k : ∀ m', TR G m0 m' s0 s0 → Q (some (.int (xt0 s i n))) m') : WP G (d + 9) (0, 0) μX11_extremeAhead 45 [.ref (gB G + 293), .int (nI i), .int (nI n), .int (0 : Int32), .int (200000 : Int32), .int (0 : Int32), lvU, lvU] [] m1 Q := by
  refine loopN (n := n) (P := fun t m => TR G m0 m s0 (it s t)) (W := fun t m => WP G (d + 9) (0, 0) μX11_extremeAhead 45 [.ref (gB G + 293), .int (nI i), .int (nI n), .int (0 : Int32), .int (xt0 s i t), .int (nI t), lvU, lvU] [] m Q) ?_ 0 (by omega) m1 hM
  intro t m ht h1 ih
  refine bM_ext0 h1.1 h12 hn ht (fun z => ?_) (fun z => ?_)
  · have e : t = n := by omega
    subst e
    refine M_pb h1 (fun m5 h5 => ?_)
    exact fM_ext0 h5.1 (k m5 h5)
  · refine h1.step (GdT_it hG t (by omega)) (by omega) (fun m' h' => ?_)
    have e1 : ai m' (gB G + 294) (11 * i + 21) = sS (it s (t + 1)) (11 * i + 21) := congrFun h'.2.2.1 _
    refine jM_ext0 h'.1 h12 hn z ?_
    rw [e1]
    exact ih z m' h'

def xt1 (s : Sc) (i : Nat) : Nat → Int32
  | 0 => (-200000)
  | t + 1 => imax (xt1 s i t) (sS (it s (t + 1)) (11 * i + 21))
theorem C_xt1 {G : Cx} {d n i : Nat} {m0 : Mm} {s : Sc} {T : Int} {Q : Option Value → Mm → Prop} (hF : Full G m0) (hC : CRx m0 (gB G + 70) s) (hG : GdT T s) (hT : T ≤ 1700000000) (hi : i < sN s) (h12 : sN s ≤ 12) (hn : n ≤ 2000) (k : ∀ m', Full G m' → Out (CA (gB G + 70)) m' m0 → Q (some (.int (xt1 s i n))) m') : WP G (d + 7) (0, 0) μX10_extremeAhead 55 [.ref (gB G), .int (nI i), .int (nI n), .int (1 : Int32), .int ((-200000) : Int32), .int (0 : Int32), lvU] [] m0 Q := by
  refine loopN (n := n) (P := fun t m => Full G m ∧ Out (CA (gB G + 70)) m m0 ∧ CRx m (gB G + 70) (it s t)) (W := fun t m => WP G (d + 7) (0, 0) μX10_extremeAhead 55 [.ref (gB G), .int (nI i), .int (nI n), .int (1 : Int32), .int (xt1 s i t), .int (nI t), lvU] [] m Q) ?_ 0 (by omega) m0 ⟨hF, Out.rf, hC⟩
  intro t m ht ⟨h1, h2, h3⟩ ih
  refine bC_ext1 h1 (by omega) hn ht (fun z => ?_) (fun z => ?_)
  · have e : t = n := by omega
    subst e
    exact k m h1 h2
  · refine C_st h1 (isC2 G) h3 (GdT_it hG t (by omega)) (by omega) (fun m' a b c => ?_)
    have hi' : i < sN (sp (it s t)) := by rw [show sN (sp (it s t)) = sN s from it_N s (t + 1)]; exact hi
    have h12' : sN (sp (it s t)) ≤ 12 := by rw [show sN (sp (it s t)) = sN s from it_N s (t + 1)]; exact h12
    have e1 : fi m' 401 (nd (gB G + 70) i) = sS (it s (t + 1)) (11 * i + 21) := CR.N c 1 hi' h12' (by omega)
    refine jC_ext1 a (by omega) hn z ?_
    rw [e1]
    exact ih z m' ⟨a, (b.mono (fun x hx => SA_CA hx)).tr h2, c⟩
theorem M_xt1 {G : Cx} {d n i : Nat} {m0 m1 : Mm} {s0 s : Sc} {T : Int} {Q : Option Value → Mm → Prop} (hM : TR G m0 m1 s0 s) (hG : GdT T s) (hT : T ≤ 1700000000) (h12 : i < 12) (hn : n ≤ 2000) (k : ∀ m', TR G m0 m' s0 s0 → Q (some (.int (xt1 s i n))) m') : WP G (d + 9) (0, 0) μX11_extremeAhead 45 [.ref (gB G + 293), .int (nI i), .int (nI n), .int (1 : Int32), .int ((-200000) : Int32), .int (0 : Int32), lvU, lvU] [] m1 Q := by
  refine loopN (n := n) (P := fun t m => TR G m0 m s0 (it s t)) (W := fun t m => WP G (d + 9) (0, 0) μX11_extremeAhead 45 [.ref (gB G + 293), .int (nI i), .int (nI n), .int (1 : Int32), .int (xt1 s i t), .int (nI t), lvU, lvU] [] m Q) ?_ 0 (by omega) m1 hM
  intro t m ht h1 ih
  refine bM_ext1 h1.1 h12 hn ht (fun z => ?_) (fun z => ?_)
  · have e : t = n := by omega
    subst e
    refine M_pb h1 (fun m5 h5 => ?_)
    exact fM_ext1 h5.1 (k m5 h5)
  · refine h1.step (GdT_it hG t (by omega)) (by omega) (fun m' h' => ?_)
    have e1 : ai m' (gB G + 294) (11 * i + 21) = sS (it s (t + 1)) (11 * i + 21) := congrFun h'.2.2.1 _
    refine jM_ext1 h'.1 h12 hn z ?_
    rw [e1]
    exact ih z m' h'

theorem K_44 {G : Cx} {d i : Nat} {m : Mm} {A : Ab} {Q : Option Value → Mm → Prop} (hL : LIv G m A) (hi : i + 7 ≤ gSl G) (hl : gSl G < 4000) (next : ∀ m' A', LIv G m' A' → WP G (d + 100) (0, 0) μL_law 18 [.ref (gSa G), .ref (gB G), .ref (gB G + 293), .int (nI (i + 7))] [] m' Q) : WP G (d + 100) (0, 0) μL_law 1465 [.ref (gSa G), .ref (gB G), .ref (gB G + 293), .int (nI i)] [] m Q := by
  have fin : ∀ v : Int32, WP G (d + 100) (0, 0) μL_law 1519 [.ref (gSa G), .ref (gB G), .ref (gB G + 293), .int (nI i)] [.int v, .int v] m Q := fun v => bL_44c00 hL.1 hi hl (fun _ => next m A hL) (fun z => absurd rfl z)
  obtain ⟨n5, n12, h12⟩ := hL.nn
  have hG := hL.gd
  refine bL_44a hL.1 hi hl (fun c0 => ?_) (fun c0 => ?_)
  · rcases inr_cases (gSx G (i + 1)) (sN (aS A)) (by omega) with ⟨j, hj, e⟩ | e | ⟨e, e'⟩
    · obtain ⟨p, hp⟩ : ∃ p, sN (aS A) = p + 1 := ⟨sN (aS A) - 1, by omega⟩
      have hjn := hj
      have h12s := h12
      rw [hp] at n5 n12 h12 hj
      rw [e]
      refine iC_ext0 (d := d + 92) hL.1 n5 h12 hj (fun c1 => ?_) (fun c1 c2 => ?_) (fun c1 c2 => ?_)
      · refine bL_44b0 hL.1 hi hl (fun _ => ?_) (fun h => absurd c0 h)
        rw [e]
        exact iM_ext0 (d := d + 90) hL.1 n12 h12 hj (fun _ => fin _) (fun h => absurd c1 h) (fun h => absurd c1 h)
      · refine bL_44b0 hL.1 hi hl (fun _ => ?_) (fun h => absurd c0 h)
        rw [e]
        exact iM_ext0 (d := d + 90) hL.1 n12 h12 hj (fun h => absurd h c1) (fun _ _ => fin _) (fun _ h => absurd c2 h)
      · obtain ⟨n, hn, en⟩ := st_in (b := 2000) (by omega) (by decide) c1 c2
        rw [en]
        refine C_trial (d := d + 95) hL.1 hL.2.1.1 hG (fun m1 hF1 hO1 hC1 => ?_)
        refine cC_ext0 hF1 (by omega) ?_
        refine C_xt0 (d := d + 92) hF1 hC1 hG (by omega) hjn h12s hn (fun m2 hF2 hO2 => ?_)
        have hO := hO2.tr hO1
        refine bL_44b0 hF2 hi hl (fun _ => ?_) (fun h => absurd c0 h)
        rw [e, en]
        have r1 := (hL.2.2.1.cls (hO.mono (fun a ha => CT_CC (CA_CT2 ha)))).MS hF2
        have n12' : ai m2 (gB G + 294) 12 = nI (p + 1) := (hO.ai (by unfold CA; omega) 12).trans n12
        refine iM_ext0 (d := d + 90) hF2 n12' h12 hj (fun h => absurd h (by rw [← en]; exact c1)) (fun _ h => absurd h (by rw [← en]; exact c2)) (fun _ _ => ?_)
        refine M_ks (s := aS A) r1 (fun m3 h3 => ?_)
        refine cM_ext0 h3.1 (by omega) ?_
        refine M_xt0 (d := d + 90) h3 hG (by omega) (by omega) hn (fun m5 h5 => ?_)
        exact bL_44c00 h5.1 hi hl (fun _ => next _ _ (LIv_trial hL hO h5)) (fun z => absurd rfl z)
    · exact aC_ext0 (d := d + 92) hL.1 n5 h12 e (bL_44b0 hL.1 hi hl (fun _ => aM_ext0 (d := d + 90) hL.1 n12 h12 e (fin _)) (fun h => absurd c0 h))
    · exact bC_ext0x (d := d + 92) hL.1 n5 h12 e e' (bL_44b0 hL.1 hi hl (fun _ => bM_ext0x (d := d + 90) hL.1 n12 h12 e e' (fin _)) (fun h => absurd c0 h))
  · rcases inr_cases (gSx G (i + 1)) (sN (aS A)) (by omega) with ⟨j, hj, e⟩ | e | ⟨e, e'⟩
    · obtain ⟨p, hp⟩ : ∃ p, sN (aS A) = p + 1 := ⟨sN (aS A) - 1, by omega⟩
      have hjn := hj
      have h12s := h12
      rw [hp] at n5 n12 h12 hj
      rw [e]
      refine iC_ext1 (d := d + 92) hL.1 n5 h12 hj (fun c1 => ?_) (fun c1 c2 => ?_) (fun c1 c2 => ?_)
      · refine bL_44b0 hL.1 hi hl (fun h => absurd h c0) (fun _ => ?_)
        rw [e]
        exact iM_ext1 (d := d + 90) hL.1 n12 h12 hj (fun _ => fin _) (fun h => absurd c1 h) (fun h => absurd c1 h)
      · refine bL_44b0 hL.1 hi hl (fun h => absurd h c0) (fun _ => ?_)
        rw [e]
        exact iM_ext1 (d := d + 90) hL.1 n12 h12 hj (fun h => absurd h c1) (fun _ _ => fin _) (fun _ h => absurd c2 h)
      · obtain ⟨n, hn, en⟩ := st_in (b := 2000) (by omega) (by decide) c1 c2
        rw [en]
        refine C_trial (d := d + 95) hL.1 hL.2.1.1 hG (fun m1 hF1 hO1 hC1 => ?_)
        refine cC_ext1 hF1 (by omega) ?_
        refine C_xt1 (d := d + 92) hF1 hC1 hG (by omega) hjn h12s hn (fun m2 hF2 hO2 => ?_)
        have hO := hO2.tr hO1
        refine bL_44b0 hF2 hi hl (fun h => absurd h c0) (fun _ => ?_)
        rw [e, en]
        have r1 := (hL.2.2.1.cls (hO.mono (fun a ha => CT_CC (CA_CT2 ha)))).MS hF2
        have n12' : ai m2 (gB G + 294) 12 = nI (p + 1) := (hO.ai (by unfold CA; omega) 12).trans n12
        refine iM_ext1 (d := d + 90) hF2 n12' h12 hj (fun h => absurd h (by rw [← en]; exact c1)) (fun _ h => absurd h (by rw [← en]; exact c2)) (fun _ _ => ?_)
        refine M_ks (s := aS A) r1 (fun m3 h3 => ?_)
        refine cM_ext1 h3.1 (by omega) ?_
        refine M_xt1 (d := d + 90) h3 hG (by omega) (by omega) hn (fun m5 h5 => ?_)
        exact bL_44c00 h5.1 hi hl (fun _ => next _ _ (LIv_trial hL hO h5)) (fun z => absurd rfl z)
    · exact aC_ext1 (d := d + 92) hL.1 n5 h12 e (bL_44b0 hL.1 hi hl (fun h => absurd h c0) (fun _ => aM_ext1 (d := d + 90) hL.1 n12 h12 e (fin _)))
    · exact bC_ext1x (d := d + 92) hL.1 n5 h12 e e' (bL_44b0 hL.1 hi hl (fun h => absurd h c0) (fun _ => bM_ext1x (d := d + 90) hL.1 n12 h12 e e' (fin _)))
