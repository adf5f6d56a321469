/-! CONTRACT: rests, the walk -/
section WRE
variable {G : Cx} {d : Nat} {Λ : Lc} {X X' : Lx} {ext : va_W} {m m' : Mm} {A : Ab} {ce : List (Nat × Mm)} {Q : Option Value → LM → Prop} {T : Int} {B : Nat} {mc : Mm} {C : Ab} {lo hi : Int32} {n i : Nat}
theorem RI.adN {s : Sc} {c t : Int32} (h : RI lo hi i s) (hi6 : i < 12) (hc : 20000 ≤ c.toInt) (ht1 : -30000 ≤ t.toInt) (ht2 : t.toInt ≤ 30000) : RI (imin lo t) (imax hi t) (i + 1) (adN (sS s) (sN s) c t 0 0 0, sE s, sN s + 1, s.2.2.2) := by
  obtain ⟨hJ, hn, hl, hh0, hR, hN, he, b1, b2⟩ := h
  have z : rg (0 : Int32) 0 10000 := ⟨by decide, by decide⟩
  have k : ∀ k, k < 11 * sN s + 20 ∨ (11 * sN s + 31 ≤ k ∧ k < 152) ∨ 296 ≤ k → k ≠ 12 → CLouvreCraftLaw_law_r3874_132e59.adN (sS s) (sN s) c t 0 0 0 k = sS s k := fun k h1 h2 => adN_ne (by omega) h1 h2
  have i1 := imin_i lo t
  have i2 := imax_i hi t
  refine ⟨hJ.adN (by omega) z z ⟨by decide, by decide⟩, by show sN s + 1 = i + 1; rw [hn], hl, hh0, hR, fun j hj => ?_, he, by omega, by omega⟩
  show (CLouvreCraftLaw_law_r3874_132e59.adN (sS s) (sN s) c t 0 0 0 (11 * j + 22) = 0 ∧ CLouvreCraftLaw_law_r3874_132e59.adN (sS s) (sN s) c t 0 0 0 (11 * j + 23) = 0 ∧ CLouvreCraftLaw_law_r3874_132e59.adN (sS s) (sN s) c t 0 0 0 (11 * j + 24) = 0 ∧ CLouvreCraftLaw_law_r3874_132e59.adN (sS s) (sN s) c t 0 0 0 (11 * j + 25) = -200000 ∧ CLouvreCraftLaw_law_r3874_132e59.adN (sS s) (sN s) c t 0 0 0 (11 * j + 26) = 200000) ∧ 20000 ≤ (CLouvreCraftLaw_law_r3874_132e59.adN (sS s) (sN s) c t 0 0 0 (11 * j + 20)).toInt ∧ (imin lo t).toInt ≤ (CLouvreCraftLaw_law_r3874_132e59.adN (sS s) (sN s) c t 0 0 0 (11 * j + 21)).toInt ∧ (CLouvreCraftLaw_law_r3874_132e59.adN (sS s) (sN s) c t 0 0 0 (11 * j + 21)).toInt ≤ (imax hi t).toInt
  by_cases e : j = sN s
  · subst e
    obtain ⟨w1, w2, w3, w4, w5⟩ := adN_w (st := sS s) c t 0 0 0 (show sN s < 12 by omega)
    obtain ⟨v1, v2, -⟩ := adN_v (st := sS s) c t 0 0 0 (show sN s < 12 by omega)
    rw [w1, w2, w3, w4, w5, v1, v2]
    exact ⟨⟨rfl, rfl, rfl, rfl, rfl⟩, hc, by omega, by omega⟩
  · have hj' : j < sN s := by omega
    rw [k _ (by omega) (by omega), k _ (by omega) (by omega), k _ (by omega) (by omega), k _ (by omega) (by omega), k _ (by omega) (by omega), k _ (by omega) (by omega), k _ (by omega) (by omega)]
    have := hN j (by omega)
    exact ⟨this.1, this.2.1, by omega, by omega⟩
theorem RI.lnk {a b : Nat} {z : Int32} {l : List Lk} (h : RI lo hi n (aS C)) (hn6 : n ≤ 6) (ha : a < 12) (hb : b < 12) : RI lo hi n (aS (lnA C a b z l)) := by
  obtain ⟨hJ, hn, hl, hh0, hR, hN, he, b1, b2⟩ := h
  have k : ∀ k, k < 152 ∨ 296 ≤ k → nwS (sS (aS C)) a b z k = sS (aS C) k := fun k hk => nwS_ne ha hb hk
  obtain ⟨j1, j2, ⟨j3, j4, j5⟩, j6, j7⟩ := hJ
  refine ⟨⟨fun i hq => ?_, fun i hq => ?_, ⟨?_, ?_, ?_⟩, ?_, j7⟩, hn, hl, hh0, hR, fun i hq => ?_, he, b1, b2⟩
  · have hi' : i < sN (aS C) := hq
    show rg (nwS (sS (aS C)) a b z (11 * i + 22)) 0 10000 ∧ rg (nwS (sS (aS C)) a b z (11 * i + 23)) 0 10000 ∧ rg (nwS (sS (aS C)) a b z (11 * i + 24)) 0 1000000 ∧ rg (nwS (sS (aS C)) a b z (11 * i + 25)) (-200000) 200000 ∧ rg (nwS (sS (aS C)) a b z (11 * i + 26)) (-200000) 200000 ∧ (nwS (sS (aS C)) a b z (11 * i + 30) = -1 ∨ rg (nwS (sS (aS C)) a b z (11 * i + 30)) 0 (nwS (sS (aS C)) a b z 0).toInt)
    rw [k _ (by omega), k _ (by omega), k _ (by omega), k _ (by omega), k _ (by omega), k _ (by omega), k _ (by omega)]
    exact j1 i hq
  · show rg (nwS (sS (aS C)) a b z (7 * i + 297)) 0 10000 ∧ rg (nwS (sS (aS C)) a b z (7 * i + 301)) 0 1000
    rw [k _ (by omega), k _ (by omega)]
    exact j2 i hq
  · show rg (nwS (sS (aS C)) a b z 5) 0 10000
    rw [k _ (by omega)]
    exact j3
  · show rg (nwS (sS (aS C)) a b z 6) 0 100
    rw [k _ (by omega)]
    exact j4
  · show rg (nwS (sS (aS C)) a b z 7) 0 10000
    rw [k _ (by omega)]
    exact j5
  · show 0 ≤ (sE (aS C) 0).toInt ∧ (sE (aS C) 0).toInt ≤ 1000000000 * (nwS (sS (aS C)) a b z 0).toInt
    rw [k _ (by omega)]
    exact j6
  · show (nwS (sS (aS C)) a b z (11 * i + 22) = 0 ∧ nwS (sS (aS C)) a b z (11 * i + 23) = 0 ∧ nwS (sS (aS C)) a b z (11 * i + 24) = 0 ∧ nwS (sS (aS C)) a b z (11 * i + 25) = -200000 ∧ nwS (sS (aS C)) a b z (11 * i + 26) = 200000) ∧ 20000 ≤ (nwS (sS (aS C)) a b z (11 * i + 20)).toInt ∧ lo.toInt ≤ (nwS (sS (aS C)) a b z (11 * i + 21)).toInt ∧ (nwS (sS (aS C)) a b z (11 * i + 21)).toInt ≤ hi.toInt
    rw [k _ (by omega), k _ (by omega), k _ (by omega), k _ (by omega), k _ (by omega), k _ (by omega), k _ (by omega)]
    exact hN i hq
/-- entries behind a link -/
theorem lnA_V {a b : Nat} {z : Int32} {l : List Lk} (hC : CIv G mc C) (hC' : CIv G m (lnA C a b z l)) (ha : a < sN (aS C)) (hb : b < sN (aS C)) {p q : Nat} (hp : p < sN (aS C)) (hq : q < sN (aS C)) : lkV p q l = if (p = a ∧ q = b) ∨ (p = b ∧ q = a) then z else lkV p q (sK (aS C)) := by
  have n12 := hC.gd.n12
  have h1 : nwS (sS (aS C)) a b z (12 * p + q + 152) = lkV p q l := hC'.cr.2.2.2.1 p q hp hq
  have h0 : sS (aS C) (12 * p + q + 152) = lkV p q (sK (aS C)) := hC.cr.2.2.2.1 p q hp hq
  rw [← h1, ← h0]
  unfold nwS
  by_cases c2 : p = b ∧ q = a
  · rw [if_pos (Or.inr c2), show 12 * p + q + 152 = a + 12 * b + 152 by rw [c2.1, c2.2]; omega, upd_eq]
  · rw [upd_ne (by omega)]
    by_cases c1 : p = a ∧ q = b
    · rw [if_pos (Or.inl c1), show 12 * p + q + 152 = 12 * a + b + 152 by rw [c1.1, c1.2], upd_eq]
    · rw [upd_ne (by omega), if_neg (fun h => h.elim c1 c2)]
theorem cnA_n (V : Nat → Nat → Int32) : cnA V 0 = 0 ∧ cnA V 1 ≤ 0 ∧ cnA V 2 ≤ 1 ∧ cnA V 3 ≤ 3 ∧ cnA V 4 ≤ 6 ∧ cnA V 5 ≤ 10 ∧ cnA V 6 ≤ 15 := by
  have r := fun a => cnR_le V a a
  have s0 : cnA V 1 = 0 := rfl
  have s1 : cnA V 2 = cnA V 1 + cnR V 1 1 := rfl
  have s2 : cnA V 3 = cnA V 2 + cnR V 2 2 := rfl
  have s3 : cnA V 4 = cnA V 3 + cnR V 3 3 := rfl
  have s4 : cnA V 5 = cnA V 4 + cnR V 4 4 := rfl
  have s5 : cnA V 6 = cnA V 5 + cnR V 5 5 := rfl
  have r1 := r 1
  have r2 := r 2
  have r3 := r 3
  have r4 := r 4
  have r5 := r 5
  refine ⟨rfl, ?_⟩
  omega
theorem lk_few (hC : CIv G mc C) (h6 : sN (aS C) ≤ 6) : (sK (aS C)).length < 24 := by
  rw [← cnA_len (sK (aS C)) hC.cr.2.2.1]
  have c := cnA_n (fun i j => lkV i j (sK (aS C)))
  generalize sN (aS C) = n at h6
  have : n = 0 ∨ n = 1 ∨ n = 2 ∨ n = 3 ∨ n = 4 ∨ n = 5 ∨ n = 6 := by omega
  rcases this with e | e | e | e | e | e | e <;> subst e <;> omega
theorem w_rests (h : LG G Λ T X m A) (hs : gSl G ≤ 260) (hx : xN X + 100 < 2 ^ 30) (hQ : ∀ m' A' X' ds, LG G Λ T X' m' A' → xN X' ≤ xN X + 100 → Q (some (.int (1 : Int32))) (lm G Λ X' [] m' ds)) : WZM G (d + 20) (293, 9628) μL_rests [.ref (gB G)] (lm G Λ X [] m []) Q := by
  obtain ⟨M, hM⟩ : ∃ M, M = xN X + 100 := ⟨_, rfl⟩
  refine re_0 (ext := []) (ce := []) h.c hs (by omega) (fun m1 c1 B mc hD v6 hv6 => ?_)
  obtain ⟨n, hn⟩ : ∃ n, n = 2 + v6 := ⟨_, rfl⟩
  rw [← hn]
  obtain ⟨A1, hA1⟩ : ∃ A1 : Ab, A1 = (A.1, svV A 0, A.2.2) := ⟨_, rfl⟩
  have c1' : CIv (atC G (lB Λ) false) m1 A1 := by
    rw [hA1]
    exact c1
  have eV : aV A1 0 = some (aS A) := by rw [hA1]; rfl
  -- the end
  have P5 : ∀ (X' : Lx) (mc : Mm) (C : Ab) (lo hi : Int32), X'.2 = X.2 → xN X' ≤ M → CIv (atC G B false) mc C → RI lo hi n (aS C) → WZ G (d + 20) (0, 0) μL_rests 217 [.ref (gB G), .ref B, lvU, lvU, lvU, lvU, lvU] [] (lm G Λ X' [] m1 [(B, mc)]) Q := by
    intro X' mc C lo hi e2 hx' hD hR
    exact re_5 (ext := []) (ce := []) (sv := aS A) c1' hD hR.2.2.2.2.2.2.1 eV (fun m3 c3 => hQ m3 _ X' _ ((h.s (A' := ((aS A, A1.2) : Ab)) rfl c3).x e2) (by omega))
  -- thirty runs
  have P3 : ∀ (k i : Nat) (X' : Lx) (mc : Mm) (C : Ab) (lo hi : Int32), i + k = 30 → X'.2 = X.2 → xN X' + k ≤ M → CIv (atC G B false) mc C → RI lo hi n (aS C) → MX n (sS (aS C)) → (sS (aS C) 0).toInt ≤ 1200 * (i : Int) → WZ G (d + 20) (0, 0) μL_rests 149 [.ref (gB G), .ref B, .int (nI n), .int lo, .int hi, .int (nI i), lvU] [] (lm G Λ X' [] m1 [(B, mc)]) Q := by
    intro k
    induction k with
    | zero =>
      intro i X' mc C lo hi hi30 e2 hx' hD hR hMX ht
      have g := hD.gd
      have hv : ∀ v, v < 20 → vcs (aS C) (1 + v) = 0 := fun v hv => (RI_it g (by omega) hMX hR (1 + v) (by omega)).2.2.1
      exact re_3 (ext := []) (ce := []) c1' hD hs (by omega) (by omega) hv (fun _ => P5 X' mc C lo hi e2 (by omega) hD hR) (fun z => absurd z (by omega)) (fun z => absurd z (by omega))
    | succ k ih =>
      intro i X' mc C lo hi hi30 e2 hx' hD hR hMX ht
      have g := hD.gd
      have hit : ∀ v, v < 20 → _ := fun v hv => RI_it g (n := n) (by omega) hMX hR (1 + v) (by omega)
      have hstp := g.g.2.1.2
      have hst1 := g.g.2.1.1
      refine re_3 (ext := []) (ce := []) c1' hD hs (by omega) (by omega) (fun v hv => (hit v hv).2.2.1) (fun z => absurd (show i < 30 by omega) z) (fun _ v hv => ?_) (fun _ v hv mc2 hD2 => ?_)
      · have : ((1 + v : Nat) : Int) * (sS (aS C) 1).toInt ≤ 20 * 60 := Int.mul_le_mul (by omega) hstp (by omega) (by omega)
        omega
      · obtain ⟨r1, r2, r3, r4, r5⟩ := hit v hv
        have P4 : ∀ (q j : Nat), j + q = n → WZ G (d + 20) (0, 0) μL_rests 176 [.ref (gB G), .ref B, .int (nI n), .int lo, .int hi, .int (nI i), .int (nI j)] [] (lm G Λ (xN X' + 1, xP X', xW X', xR X') [] m1 [(B, mc2)]) Q := by
          intro q
          induction q with
          | zero =>
            intro j hj
            refine re_4 (ext := []) (ce := []) (C := (it (aS C) (1 + v), C.2)) c1' hD2 (by omega) (by omega) r1.2.1 (fun z => absurd z (by omega)) (fun _ => ?_) (fun z => absurd z (by omega))
            exact ih (i + 1) _ mc2 (it (aS C) (1 + v), C.2) lo hi (by omega) e2 (by show xN X' + 1 + k ≤ M; omega) hD2 r1 r2 (by show (sS (it (aS C) (1 + v)) 0).toInt ≤ _; omega)
          | succ q ihq =>
            intro j hj
            have tt := (r1.2.2.2.2.2.1 j (by omega)).2.2
            refine re_4 (ext := []) (ce := []) (C := (it (aS C) (1 + v), C.2)) c1' hD2 (by omega) (by omega) r1.2.1 (fun _ => ⟨?_, ?_⟩) (fun z => absurd (show j < n by omega) z) (fun _ => ihq (j + 1) (by omega))
            · rw [Int32.lt_iff_toInt_lt]
              show ¬ (sS (it (aS C) (1 + v)) (11 * j + 21)).toInt < lo.toInt
              omega
            · rw [Int32.lt_iff_toInt_lt]
              show ¬ hi.toInt < (sS (it (aS C) (1 + v)) (11 * j + 21)).toInt
              omega
        exact P4 n 0 (by omega)
  -- links
  have P2 : ∀ (k i : Nat) (X' : Lx) (mc : Mm) (C : Ab) (lo hi : Int32), i + k = n → 1 ≤ i → X'.2 = X.2 → xN X' + 2 * k + 30 ≤ M → CIv (atC G B false) mc C → RI lo hi n (aS C) → (∀ a b, a < n → b < n → 0 ≤ (lkV a b (sK (aS C))).toInt ∧ (lkV a b (sK (aS C))).toInt ≤ 300) → (∀ a b, i ≤ a → a < n → b < a → lkV a b (sK (aS C)) = 0) → sS (aS C) 0 = 0 → WZ G (d + 20) (0, 0) μL_rests 108 [.ref (gB G), .ref B, .int (nI n), .int lo, .int hi, .int (nI i), lvU] [] (lm G Λ X' [] m1 [(B, mc)]) Q := by
    intro k
    induction k with
    | zero =>
      intro i X' mc C lo hi hi6 h1 e2 hx' hD hR hV hz h0
      have hMX : MX n (sS (aS C)) := fun a b ha hb => by
        rw [hD.cr.2.2.2.1 a b (by rw [hR.2.1]; exact ha) (by rw [hR.2.1]; exact hb)]
        exact hV a b ha hb
      refine re_2 (ext := []) (ce := []) c1' hD hs (by omega) (by omega) h1 (by omega) hR.2.1 (lk_few hD (by rw [hR.2.1]; omega)) (fun z => absurd z (by omega)) (fun _ => ?_) (fun z => absurd z (by omega))
      exact P3 30 0 X' mc C lo hi (by omega) e2 (by omega) hD hR hMX (by rw [h0]; decide)
    | succ k ih =>
      intro i X' mc C lo hi hi6 h1 e2 hx' hD hR hV hz h0
      have hN := hR.2.1
      refine re_2 (ext := []) (ce := []) c1' hD hs (by omega) (by omega) h1 (by omega) hN (lk_few hD (by rw [hN]; omega)) (fun _ q hq => hz i q (Nat.le_refl _) (by omega) hq) (fun z => absurd (show i < n by omega) z) (fun _ v4 hv4 v6 hv6 m10 l8 hD2 _ => ?_)
      have V := fun p q (hp : p < n) (hq : q < n) => lnA_V hD hD2 (by rw [hN]; omega) (by rw [hN]; omega) (p := p) (q := q) (by rw [hN]; exact hp) (by rw [hN]; exact hq)
      refine ih (i + 1) _ m10 (lnA C i v4 (nI (1 + v6)) l8) lo hi (by omega) (by omega) e2 (by show xN X' + 2 + 2 * k + 30 ≤ M; omega) hD2 (hR.lnk (by omega) (by omega) (by omega)) (fun a b ha hb => ?_) (fun a b h1a ha hb => ?_) ((nwS_ne (i := i) (j := v4) (z := nI (1 + v6)) (by omega) (by omega) (by omega)).trans h0)
      · show 0 ≤ (lkV a b l8).toInt ∧ (lkV a b l8).toInt ≤ 300
        rw [V a b ha hb]
        split
        · rw [nI_toInt (by omega)]
          omega
        · exact hV a b ha hb
      · show lkV a b l8 = 0
        rw [V a b ha (by omega), if_neg (by omega)]
        exact hz a b (by omega) ha hb
  -- nodes
  have P1 : ∀ (k i : Nat) (X' : Lx) (mc : Mm) (C : Ab) (lo hi : Int32), i + k = n → X'.2 = X.2 → xN X' + 2 * k + 50 ≤ M → CIv (atC G B false) mc C → RI lo hi i (aS C) → sK (aS C) = [] → sS (aS C) 0 = 0 → WZ G (d + 20) (0, 0) μL_rests 39 [.ref (gB G), .ref B, .int (nI n), .int lo, .int hi, .int (nI i), lvU] [] (lm G Λ X' [] m1 [(B, mc)]) Q := by
    intro k
    induction k with
    | zero =>
      intro i X' mc C lo hi hi6 e2 hx' hD hR hK h0
      refine re_1 (ext := []) (ce := []) c1' hD hs (by omega) (by omega) (by omega) hR.2.1 (fun _ => ?_) (fun z => absurd z (by omega)) (fun z => absurd z (by omega))
      have ei : i = n := by omega
      subst ei
      have z : ∀ a b, lkV a b (sK (aS C)) = 0 := fun a b => by rw [hK]; rfl
      refine P2 (i - 1) 1 X' mc C lo hi (by omega) (by omega) e2 (by omega) hD hR (fun a b _ _ => ?_) (fun a b _ _ _ => z a b) h0
      rw [z]
      decide
    | succ k ih =>
      intro i X' mc C lo hi hi6 e2 hx' hD hR hK h0
      refine re_1 (ext := []) (ce := []) c1' hD hs (by omega) (by omega) (by omega) hR.2.1 (fun z => absurd (show i < n by omega) z) (fun _ v4 hv4 v8 hv8 m8 hD2 _ => ?_) (fun _ _ _ _ _ _ _ z => absurd hR.2.1 z)
      have et : ((nI v4) - (30000 : Int32)).toInt = (v4 : Int) - 30000 := by
        have := nsubI (v := v4) (c := 30000) (by omega) (by omega)
        exact this
      refine ih (i + 1) _ m8 _ _ _ (by omega) e2 (by show xN X' + 2 + 2 * k + 50 ≤ M; omega) hD2 (hR.adN (by omega) ?_ ?_ ?_) hK ((adN_ne (st := sS (aS C)) (q := sN (aS C)) (c := nI (20000 + v8)) (t := nI v4 - 30000) (e := 0) (a := 0) (l := 0) (by rw [hR.2.1]; omega) (by omega) (by omega)).trans h0)
      · rw [nI_toInt (by omega)]
        omega
      · omega
      · omega
  have hR0 : RI (999999 : Int32) (-999999 : Int32) 0 (aS A00) := by
    refine ⟨⟨fun i hi => absurd hi (Nat.not_lt_zero _), fun i hi => absurd hi (Nat.not_lt_zero _), ⟨⟨by decide, by decide⟩, ⟨by decide, by decide⟩, ⟨by decide, by decide⟩⟩, ⟨by decide, by decide⟩, Or.inl rfl⟩, rfl, rfl, rfl, rfl, fun i hi => absurd hi (Nat.not_lt_zero _), ⟨rfl, rfl, rfl⟩, by decide, by decide⟩
  exact P1 n 0 _ mc A00 _ _ (by omega) rfl (by show xN X + 1 + 2 * n + 50 ≤ M; omega) hD hR0 rfl rfl
end WRE
