/-! THE LAW'S CASE 47: SETTLING -/
section SETTLE
variable {G : Cx} {d : Nat} {m m' m0 m1 : Mm} {c : Nat} {s s0 : Sc} {T : Int} {Q : Option Value → Mm → Prop}
theorem steps_w {a b : Int32} (ha : rg a 0 200000) (hb : rg b 1 60) : ∃ w : Nat, w ≤ 200000 ∧ a / b = nI w ∧ Int64.toInt32 (quoF (Int32.toInt64 a) (Int32.toInt64 b)) = nI w := by
  have a1 := ha.1
  have a2 := ha.2
  have b1 := hb.1
  have b2 := hb.2
  have h1 : 0 ≤ a.toInt.tdiv b.toInt := Int.tdiv_nonneg a1 (by omega)
  have h2 : a.toInt.tdiv b.toInt ≤ a.toInt := by
    rw [Int.tdiv_eq_ediv_of_nonneg a1]
    exact Int.ediv_le_self _ a1
  refine ⟨(a.toInt.tdiv b.toInt).toNat, by omega, ?_, ?_⟩
  · apply Int32.toInt_inj.mp
    rw [nI_toInt (by omega), Int32.toInt_div, Int.bmod_eq_of_le (by omega) (by omega)]
    omega
  · have hn : ¬ Int32.toInt64 b = 0 := fun z => by
      have := congrArg Int64.toInt z
      rw [Int32.toInt_toInt64] at this
      have z0 : (0 : Int64).toInt = 0 := rfl
      omega
    rw [quoF_eq hn]
    apply Int32.toInt_inj.mp
    rw [nI_toInt (by omega), Int64.toInt_toInt32, Int64.toInt_div, Int32.toInt_toInt64, Int32.toInt_toInt64, Int.bmod_eq_of_le (n := a.toInt.tdiv b.toInt) (by omega) (by omega), Int.bmod_eq_of_le (by omega) (by omega)]
    omega
def nrB (st st' : Nat → Int32) (x : Int32) (n : Nat) : Bool := (List.range n).all (fun i => decide (¬ x < iabs (st' (11 * i + 21) - st (11 * i + 21))))
theorem nrB_t {st st' : Nat → Int32} {x : Int32} {n : Nat} : nrB st st' x n = true ↔ ∀ i, i < n → ¬ x < iabs (st' (11 * i + 21) - st (11 * i + 21)) := by
  unfold nrB
  rw [List.all_eq_true]
  constructor
  · intro h i hi
    exact of_decide_eq_true (h i (List.mem_range.mpr hi))
  · intro h i hi
    exact decide_eq_true (h i (List.mem_range.mp hi))
/-- the first orbit that repeats -/
def seF (s : Sc) (x : Int32) (w : Nat) : Nat → Nat → Int32
  | 0, _ => -1
  | f + 1, q => if nrB (sS (it s (w * q))) (sS (it s (w * (q + 1)))) x (sN s) = true then nI (q + 1) else seF s x w f (q + 1)
theorem CR.w416 {st : Nat → Int32} {en : Nat → Int64} {n nl nh i : Nat} {L : List Ru} {l : List Lk} {x : Int32} (h : CR m c st en n nl nh L l) (hi : i < 12) : CR (wfi m 416 (nd c i) x) c st en n nl nh L l := by
  obtain ⟨⟨s1, s2, s3, s4, s5⟩, ⟨b1, b2, b3⟩, a3, a4, a5, a6, a7, a8⟩ := h
  exact ⟨⟨Out.rf, K6.rf, fun k hk hd => (fi_ne (vk_ok3 k hk.lt)).trans (s3 k hk hd), s4, s5⟩, ⟨(fi_ne (by decide)).trans b1, b2, fun i x hx => ⟨(fi_ne (by decide)).trans (b3 i x hx).1, (fi_ne (by decide)).trans (b3 i x hx).2.1, (fi_ne (by decide)).trans (b3 i x hx).2.2⟩⟩, a3, a4, a5, a6.of (fun _ _ _ => rfl) (fun f => fi_na (by unfold nd; omega)), a7, a8⟩
theorem C_rem (hF : Full G m0) (hc : IsC G c) (hC : CRx m0 c s) (h12 : sN s ≤ 12) (h5 : sS s 12 = nI (sN s)) (k : ∀ m', Full G m' → Out (CA c) m' m0 → CRx m' c s → (∀ i, i < sN s → fi m' 416 (nd c i) = sS s (11 * i + 21)) → Q none m') : WPM G (d + 1) (0, 0) μX0_rememberTemperatures [.ref c] m0 Q := by
  refine eC_rem hF hc ?_
  refine loopN (n := sN s) (P := fun i m => Full G m ∧ Out (CA c) m m0 ∧ CRx m c s ∧ ∀ j, j < i → fi m 416 (nd c j) = sS s (11 * j + 21)) (W := fun i m => WP G (d + 1) (0, 0) μX0_rememberTemperatures 2 [.ref c, .int (nI i)] [] m Q) ?_ 0 (by omega) m0 ⟨hF, Out.rf, hC, fun j hj => by omega⟩
  intro i m hi ⟨h1, h2, h3, h4⟩ ih
  have n5 : fi m 5 c = nI (sN s) := (h3.1.rG 12 rfl rfl (by unfold VK; omega) (by unfold UD; omega)).trans h5
  refine bC_rem h1 hc n5 h12 hi (fun z => ?_) (fun z => ?_)
  · have e : i = sN s := by omega
    subst e
    exact k m h1 h2 h3 h4
  · refine ih z _ ⟨Full_wfi _ _ _ h1, h2.wfi (by unfold CA nd; omega), h3.w416 (by omega), fun j hj => ?_⟩
    by_cases e : j = i
    · subst e
      exact fi_eq.trans (CR.N h3 1 z h12 (by omega))
    · exact (fi_na (by unfold nd; omega)).trans (h4 j (by omega))
theorem C_inr {st0 : Nat → Int32} {x : Int32} (hF : Full G m0) (hc : IsC G c) (hC : CRx m0 c s) (h12 : sN s ≤ 12) (h5 : sS s 12 = nI (sN s)) (h4 : ∀ i, i < sN s → fi m0 416 (nd c i) = st0 (11 * i + 21)) (k1 : nrB st0 (sS s) x (sN s) = true → Q (some (.int 1)) m0) (k0 : ¬ nrB st0 (sS s) x (sN s) = true → Q (some (.int 0)) m0) : WPM G (d + 1) (0, 0) μX0_isNearRemembered [.ref c, .int x] m0 Q := by
  refine eC_inr hF hc ?_
  refine loopN (n := sN s) (P := fun i m => m = m0 ∧ ∀ j, j < i → ¬ x < iabs (sS s (11 * j + 21) - st0 (11 * j + 21))) (W := fun i m => WP G (d + 1) (0, 0) μX0_isNearRemembered 2 [.ref c, .int x, .int (nI i)] [] m Q) ?_ 0 (by omega) m0 ⟨rfl, fun j hj => by omega⟩
  intro i m hi ⟨h1, h2⟩ ih
  subst h1
  have n5 : fi m 5 c = nI (sN s) := (hC.1.rG 12 rfl rfl (by unfold VK; omega) (by unfold UD; omega)).trans h5
  refine bC_inr hF hc n5 h12 hi (fun z => ?_) (fun z y => ?_) (fun z y => ?_)
  · have e : i = sN s := by omega
    subst e
    exact k1 (nrB_t.mpr h2)
  · rw [h4 i z, show fi m 401 (nd c i) = sS s (11 * i + 21) from CR.N hC 1 z h12 (by omega)] at y
    refine ih z m ⟨rfl, fun j hj => ?_⟩
    by_cases e : j = i
    · subst e
      exact y
    · exact h2 j (by omega)
  · rw [h4 i z, show fi m 401 (nd c i) = sS s (11 * i + 21) from CR.N hC 1 z h12 (by omega)] at y
    exact k0 (fun h => (nrB_t.mp h) i z y)
theorem C_so {o w : Nat} {x : Int32} (hF : Full G m0) (hC : CRx m0 (gB G + 70) s) (hG : GdT T s) (hT : T ≤ 1700000000) (ho : o ≤ 20) (hw : w ≤ 4000) (how : w * o ≤ 4000) (k : ∀ m', Full G m' → Out (CA (gB G + 70)) m' m0 → Q (some (.int (seF s x w o 0))) m') : WP G (d + 8) (0, 0) μX10_settlingOrbit 54 [.ref (gB G), .int x, .int (nI o), .int (nI w), .int (1 : Int32), lvU] [] m0 Q := by
  refine loopN (n := o) (P := fun q m => Full G m ∧ Out (CA (gB G + 70)) m m0 ∧ CRx m (gB G + 70) (it s (w * q)) ∧ seF s x w o 0 = seF s x w (o - q) q) (W := fun q m => WP G (d + 8) (0, 0) μX10_settlingOrbit 54 [.ref (gB G), .int x, .int (nI o), .int (nI w), .int (nI (q + 1)), lvU] [] m Q) ?_ 0 (by omega) m0 ⟨hF, Out.rf, hC, rfl⟩
  intro q m hq ⟨h1, h2, h3, hr⟩ ih
  refine bC_so h1 ho hw (by omega) (fun z => ?_) (fun z => ?_)
  · have e : q = o := by omega
    subst e
    rw [Nat.sub_self] at hr
    have := k m h1 h2
    rw [hr] at this
    exact this
  · have z : q < o := by omega
    obtain ⟨f, hf⟩ : ∃ f, o - q = f + 1 := ⟨o - q - 1, by omega⟩
    rw [hf, show f = o - (q + 1) by omega] at hr
    have hr : seF s x w o 0 = if nrB (sS (it s (w * q))) (sS (it s (w * (q + 1)))) x (sN s) = true then nI (q + 1) else seF s x w (o - (q + 1)) (q + 1) := hr
    have hb : w * q + w ≤ 4000 := by
      have := Nat.mul_le_mul_left w (show q + 1 ≤ o from z)
      rw [Nat.mul_succ] at this
      omega
    have hgq := GdT_it hG (w * q) (by omega)
    have hN : sN (it s (w * q)) = sN s := it_N s _
    refine C_rem h1 (isC2 G) h3 hgq.1.1.2.1 hgq.1.1.1 (fun m1 hF1 hO1 hC1 hrm => ?_)
    refine dC_so hF1 ho hw (by omega) ?_
    refine loopN (n := w) (P := fun t m => Full G m ∧ Out (CA (gB G + 70)) m m0 ∧ CRx m (gB G + 70) (it s (w * q + t)) ∧ ∀ i, i < sN s → fi m 416 (nd (gB G + 70) i) = sS (it s (w * q)) (11 * i + 21)) (W := fun t m => WP G (d + 8) (0, 0) μX10_settlingOrbit 70 [.ref (gB G), .int x, .int (nI o), .int (nI w), .int (nI (q + 1)), .int (nI t)] [] m Q) ?_ 0 (by omega) m1 ⟨hF1, hO1.tr h2, hC1, fun i hi => hrm i (by rw [hN]; exact hi)⟩
    intro t m2 ht ⟨g1, g2, g3, g4⟩ ih2
    have hgt := GdT_it hG (w * q + t) (by omega)
    have hNt : sN (it s (w * q + t)) = sN s := it_N s _
    refine fC_so g1 ho hw (by omega) ht (fun y => ?_) (fun y => ?_)
    · have e : t = w := by omega
      subst e
      have em : t * (q + 1) = t * q + t := Nat.mul_succ t q
      rw [em] at hr
      refine C_inr (st0 := sS (it s (t * q))) g1 (isC2 G) g3 hgt.1.1.2.1 hgt.1.1.1 (fun i hi => g4 i (by rw [← hNt]; exact hi)) (fun v => ?_) (fun v => ?_)
      · rw [hNt] at v
        rw [if_pos v] at hr
        have := k m2 g1 g2
        rw [hr] at this
        exact hC_so g1 ho hw (by omega) (fun h => absurd h (by decide)) (fun _ => this)
      · rw [hNt] at v
        rw [if_neg v] at hr
        refine hC_so g1 ho hw (by omega) (fun _ => ?_) (fun h => absurd rfl h)
        exact ih z m2 ⟨g1, g2, by rw [em]; exact g3, hr⟩
    · refine C_stK g1 (isC2 G) g3 hgt (by omega) (fun m3 a b c' e => ?_)
      refine gC_so a ho hw (by omega) y ?_
      exact ih2 y m3 ⟨a, (b.mono (fun x hx => SA_CA hx)).tr g2, c', fun i hi => (e i).trans (g4 i hi)⟩
theorem TR.step2 (h : TR G m0 m s0 s) (hG : GdT T s) (hT : T ≤ 1900000000) (k : ∀ m', TR G m0 m' s0 (sp s) → (∀ i, ai m' (gB G + 302) i = ai m (gB G + 302) i) → Q (some (.int (svi s))) m') : WPM G (d + 7) (0, 0) μX11_step [.ref (gB G + 293)] m Q :=
  M_st h.ms hG hT (fun m' hM => k m' (h.of hM (fun k hk => sp_hi hG hT hk) (fun w hw => sp_hiE hw)) (fun i => hM.2.1.ai (by unfold SM; omega) i))
theorem TR.wb (h : TR G m0 m s0 s) {k : Nat} {x : Int32} : TR G m0 (wai m (gB G + 302) k x) s0 s := by
  obtain ⟨t1, t2, t3, t4, t5, t6, t7, t8⟩ := h
  exact ⟨Full_wai _ _ _ t1, t2.wai (by unfold RK; omega), by rw [← t3]; funext j; exact ai_na (by omega), t4, fun k hk => (ai_na (by omega)).trans (t5 k hk), t6, t7, t8⟩
theorem M_ir {w q : Nat} {x : Int32} (hM : TR G m0 m1 s0 (it s (w * q))) (hG : GdT T s) (hT : T ≤ 1700000000) (hw : w ≤ 4000) (hb : w * q + w ≤ 4000) (k1 : ∀ m', TR G m0 m' s0 (it s (w * (q + 1))) → nrB (sS (it s (w * q))) (sS (it s (w * (q + 1)))) x (sN s) = true → Q (some (.int 1)) m') (k0 : ∀ m', TR G m0 m' s0 (it s (w * (q + 1))) → ¬ nrB (sS (it s (w * q))) (sS (it s (w * (q + 1)))) x (sN s) = true → Q (some (.int 0)) m') : WPM G (d + 8) (0, 0) μX11_isRepeated [.ref (gB G + 293), .int (nI w), .int x] m1 Q := by
  have n12 : ∀ {t : Nat} {m : Mm}, w * q + t ≤ 4000 → TR G m0 m s0 (it s (w * q + t)) → ai m (gB G + 294) 12 = nI (sN s) := fun {t m} ht h => by
    have hg := GdT_it hG (w * q + t) (by omega)
    exact (congrFun h.2.2.1 12).trans (hg.1.1.1.trans (congrArg nI (it_N s _)))
  have h12 : sN s ≤ 12 := hG.1.1.2.1
  refine eM_ir hM.1 ?_
  refine loopN (n := sN s) (P := fun i m => TR G m0 m s0 (it s (w * q)) ∧ ∀ j, j < i → ai m (gB G + 302) j = sS (it s (w * q)) (11 * j + 21)) (W := fun i m => WP G (d + 8) (0, 0) μX11_isRepeated 2 [.ref (gB G + 293), .int (nI w), .int x, .int (nI i), lvU] [] m Q) ?_ 0 (by omega) m1 ⟨hM, fun j hj => by omega⟩
  intro i m hi ⟨h1, h2⟩ ih
  refine bM_ir h1.1 (n12 (t := 0) (by omega) h1) h12 hi (fun z => ?_) (fun z => ?_)
  · have e : i = sN s := by omega
    subst e
    refine loopN (n := w) (P := fun t m => TR G m0 m s0 (it s (w * q + t)) ∧ ∀ j, j < sN s → ai m (gB G + 302) j = sS (it s (w * q)) (11 * j + 21)) (W := fun t m => WP G (d + 8) (0, 0) μX11_isRepeated 33 [.ref (gB G + 293), .int (nI w), .int x, .int (nI t), lvU] [] m Q) ?_ 0 (by omega) m ⟨h1, h2⟩
    intro t m2 ht ⟨g1, g2⟩ ih2
    refine fM_ir g1.1 hw ht (fun y => ?_) (fun y => ?_)
    · have e : t = w := by omega
      subst e
      have em : t * (q + 1) = t * q + t := Nat.mul_succ t q
      rw [em] at k1 k0
      have fin0 : ∀ i, i ≤ sN s → (¬ nrB (sS (it s (t * q))) (sS (it s (t * q + t))) x (sN s) = true) → WP G (d + 8) (0, 0) μX11_isRepeated 55 [.ref (gB G + 293), lvU, .int x, .int (0 : Int32), .int (nI i)] [] m2 Q := fun i hi hv => by
        refine loopN (n := sN s) (P := fun _ m => m = m2) (W := fun i m => WP G (d + 8) (0, 0) μX11_isRepeated 55 [.ref (gB G + 293), lvU, .int x, .int (0 : Int32), .int (nI i)] [] m Q) ?_ i hi m2 rfl
        intro i m3 hi e3 ih3
        subst e3
        exact h0M_ir g1.1 (n12 (t := t) hb g1) h12 hi (fun _ => k0 m3 g1 hv) (fun v => ih3 v m3 rfl)
      refine loopN (n := sN s) (P := fun i m => m = m2 ∧ ∀ j, j < i → ¬ x < iabs (sS (it s (t * q + t)) (11 * j + 21) - sS (it s (t * q)) (11 * j + 21))) (W := fun i m => WP G (d + 8) (0, 0) μX11_isRepeated 55 [.ref (gB G + 293), lvU, .int x, .int (1 : Int32), .int (nI i)] [] m Q) ?_ 0 (by omega) m2 ⟨rfl, fun j hj => by omega⟩
      intro i m3 hi ⟨e3, hv⟩ ih3
      subst e3
      refine h1M_ir g1.1 (n12 (t := t) hb g1) h12 hi (fun v => ?_) (fun v u => ?_) (fun v u => ?_)
      · have e : i = sN s := by omega
        subst e
        exact k1 m3 g1 (nrB_t.mpr hv)
      · rw [g2 i v, congrFun g1.2.2.1 _] at u
        exact fin0 (i + 1) (by omega) (fun h => (nrB_t.mp h) i v u)
      · rw [g2 i v, congrFun g1.2.2.1 _] at u
        refine ih3 v m3 ⟨rfl, fun j hj => ?_⟩
        by_cases e : j = i
        · subst e
          exact u
        · exact hv j (by omega)
    · refine g1.step2 (GdT_it hG (w * q + t) (by omega)) (by omega) (fun m3 g3 e => ?_)
      refine gM_ir g3.1 hw y ?_
      exact ih2 y m3 ⟨g3, fun j hj => (e j).trans (g2 j hj)⟩
  · refine ih z _ ⟨h1.wb, fun j hj => ?_⟩
    rw [ai_wai_upd]
    by_cases e : j = i
    · subst e
      rw [upd_eq]
      exact congrFun h1.2.2.1 _
    · rw [upd_ne e]
      exact h2 j (by omega)
theorem M_so {o w : Nat} {x : Int32} (hM : TR G m0 m1 s0 s) (hG : GdT T s) (hT : T ≤ 1700000000) (ho : o ≤ 20) (hw : w ≤ 4000) (how : w * o ≤ 4000) (k : ∀ m', TR G m0 m' s0 s0 → Q (some (.int (seF s x w o 0))) m') : WP G (d + 10) (0, 0) μX11_settlingOrbit 65 [.ref (gB G + 293), .int x, .int (nI o), .int (nI w), .int (-1 : Int32), .int (1 : Int32)] [] m1 Q := by
  refine loopN (n := o) (P := fun q m => TR G m0 m s0 (it s (w * q)) ∧ seF s x w o 0 = seF s x w (o - q) q) (W := fun q m => WP G (d + 10) (0, 0) μX11_settlingOrbit 65 [.ref (gB G + 293), .int x, .int (nI o), .int (nI w), .int (-1 : Int32), .int (nI (q + 1))] [] m Q) ?_ 0 (by omega) m1 ⟨hM, rfl⟩
  intro q m hq ⟨h1, hr⟩ ih
  refine bM_so h1.1 ho hw (by omega) (fun z => ?_) (fun z => ?_)
  · have e : q = o := by omega
    subst e
    rw [Nat.sub_self] at hr
    refine M_pb h1 (fun m2 h2 => ?_)
    have := k m2 h2
    rw [hr] at this
    exact fM_so h2.1 this
  · have z : q < o := by omega
    obtain ⟨f, hf⟩ : ∃ f, o - q = f + 1 := ⟨o - q - 1, by omega⟩
    rw [hf, show f = o - (q + 1) by omega] at hr
    have hr : seF s x w o 0 = if nrB (sS (it s (w * q))) (sS (it s (w * (q + 1)))) x (sN s) = true then nI (q + 1) else seF s x w (o - (q + 1)) (q + 1) := hr
    have hb : w * q + w ≤ 4000 := by
      have := Nat.mul_le_mul_left w (show q + 1 ≤ o from z)
      rw [Nat.mul_succ] at this
      omega
    refine M_ir (d := d + 1) h1 hG hT hw hb (fun m2 h2 v => ?_) (fun m2 h2 v => ?_)
    · rw [if_pos v] at hr
      refine dM_so h2.1 ho hw (by omega) (fun h => absurd h (by decide)) (fun _ => ?_)
      have fin : WPM G (d + 9) (0, 0) μX11_putBackState [.ref (gB G + 293)] m2 (fun r' m' => WP G (d + 10) (0, 0) μX11_settlingOrbit 104 [lvU, lvU, lvU, lvU, .int (nI (q + 1)), lvU] (r'.toList ++ []) m' Q) := by
        refine M_pb h2 (fun m3 h3 => ?_)
        have := k m3 h3
        rw [hr] at this
        exact y0M_so h3.1 this
      exact xM_so h2.1 ho hw (by omega) (by omega) (fun _ => fin) (fun _ => fin)
    · rw [if_neg v] at hr
      refine dM_so h2.1 ho hw (by omega) (fun _ => ?_) (fun h => absurd rfl h)
      exact ih z m2 ⟨h2, hr⟩
end SETTLE
