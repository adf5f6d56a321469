/-! RANKING ONE HEATER MORE -/
section RANK
variable {s s' : Nat → Int32} {n k0 : Nat}
abbrev rkF (s : Nat → Int32) (n k : Nat) : List Nat := (List.range n).filter (fun h => decide (s (8 * h + 342) = 9 - nI k))
def rkA (s : Nat → Int32) (n k : Nat) : List Nat := (List.range k).flatMap (rkF s n)
def rkB (s : Nat → Int32) (n k : Nat) : List Nat := ((List.range (10 - k)).map (fun x => k + x)).flatMap (rkF s n)
theorem rnk_AB (hk : k0 ≤ 10) : rnk s n = rkA s n k0 ++ rkB s n k0 := by
  have e : (10 : Nat) = k0 + (10 - k0) := by omega
  show (List.range 10).flatMap (rkF s n) = _
  rw [show List.range 10 = List.range (k0 + (10 - k0)) by rw [← e], List.range_add, List.flatMap_append]
  rfl
theorem rkF_s (hs : ∀ j, j < n → s' (8 * j + 342) = s (8 * j + 342)) (hk : k0 < 10) (hp : s' (8 * n + 342) = 9 - nI k0) {k : Nat} (hk2 : k < 10) : rkF s' (n + 1) k = rkF s n k ++ (if k = k0 then [n] else []) := by
  unfold rkF
  rw [List.range_succ, List.filter_append]
  congr 1
  · apply List.filter_congr
    intro j hj
    rw [hs j (List.mem_range.mp hj)]
  · by_cases e : k = k0
    · subst e
      simp [hp]
    · have : ¬ s' (8 * n + 342) = 9 - nI k := fun z => e (pri_inj k hk2 k0 hk (z.symm.trans hp))
      simp [this, e]
theorem fm_congr {f g : Nat → List Nat} : ∀ {l : List Nat}, (∀ a ∈ l, f a = g a) → l.flatMap f = l.flatMap g
  | [], _ => rfl
  | a :: l, h => by
    rw [List.flatMap_cons, List.flatMap_cons, h a (List.mem_cons_self ..), fm_congr (fun b hb => h b (List.mem_cons_of_mem _ hb))]
theorem rnk_ins (hs : ∀ j, j < n → s' (8 * j + 342) = s (8 * j + 342)) (hk : k0 < 10) (hp : s' (8 * n + 342) = 9 - nI k0) : rnk s' (n + 1) = rkA s n (k0 + 1) ++ n :: rkB s n (k0 + 1) := by
  rw [rnk_AB (k0 := k0 + 1) (by omega)]
  have h1 : rkA s' (n + 1) (k0 + 1) = rkA s n (k0 + 1) ++ [n] := by
    unfold rkA
    rw [List.range_succ, List.flatMap_append, List.flatMap_append, fm_congr (g := rkF s n) (fun a ha => by
      have := List.mem_range.mp ha
      rw [rkF_s hs hk hp (by omega), if_neg (by omega), List.append_nil]), List.flatMap_cons, List.flatMap_cons, rkF_s hs hk hp hk, if_pos rfl]
    simp
  have h2 : rkB s' (n + 1) (k0 + 1) = rkB s n (k0 + 1) := by
    unfold rkB
    refine fm_congr (fun a ha => ?_)
    obtain ⟨x, hx, e⟩ := List.mem_map.mp ha
    have := List.mem_range.mp hx
    rw [rkF_s hs hk hp (by omega), if_neg (by omega), List.append_nil]
  rw [h1, h2, List.append_assoc]
  rfl
def cntH (s : Nat → Int32) (x : Int32) (n : Nat) : Nat := ((List.range n).filter (fun h => decide (¬ s (8 * h + 342) < x))).length
theorem cntH_le (s : Nat → Int32) (x : Int32) (n : Nat) : cntH s x n ≤ n := by
  have := List.length_filter_le (fun h => decide (¬ s (8 * h + 342) < x)) (List.range n)
  rwa [List.length_range] at this
theorem cntH_s (s : Nat → Int32) (x : Int32) (n : Nat) : cntH s x (n + 1) = cntH s x n + (if s (8 * n + 342) < x then 0 else 1) := by
  unfold cntH
  rw [List.range_succ, List.filter_append, List.length_append]
  congr 1
  by_cases h : s (8 * n + 342) < x
  · rw [if_pos h]
    have : decide (¬ s (8 * n + 342) < x) = false := by simp [h]
    rw [List.filter_cons, this]
    rfl
  · rw [if_neg h]
    have : decide (¬ s (8 * n + 342) < x) = true := by rw [decide_eq_true_eq]; exact h
    rw [List.filter_cons, this]
    rfl
theorem pri_lt : ∀ a, a < 10 → ∀ b, b < 10 → (¬ (9 - nI a : Int32) < 9 - nI b ↔ a < b + 1) := by decide +kernel
theorem rkA_len (hp : ∀ j, j < n → rg (s (8 * j + 342)) 0 9) (hk : k0 < 10) : (rkA s n (k0 + 1)).length = cntH s (9 - nI k0) n := by
  have nd : (rkA s n (k0 + 1)).Nodup := by
    have := rnk_nodup s n
    rw [rnk_AB (k0 := k0 + 1) (by omega)] at this
    exact (List.nodup_append.mp this).1
  have := (List.perm_ext_iff_of_nodup nd (List.Nodup.sublist List.filter_sublist List.nodup_range) (l₂ := (List.range n).filter (fun h => decide (¬ s (8 * h + 342) < 9 - nI k0)))).mpr (fun h => ?_)
  · exact this.length_eq
  · unfold rkA
    rw [List.mem_flatMap, List.mem_filter, decide_eq_true_eq]
    constructor
    · rintro ⟨k, h1, h2⟩
      obtain ⟨h3, h4⟩ := List.mem_filter.mp h2
      rw [decide_eq_true_eq] at h4
      have hk1 := List.mem_range.mp h1
      refine ⟨h3, ?_⟩
      rw [h4]
      exact (pri_lt k (by omega) k0 hk).mpr hk1
    · rintro ⟨h1, h2⟩
      obtain ⟨k, hk1, e⟩ := pri_k (hp h (List.mem_range.mp h1))
      rw [e] at h2
      exact ⟨k, List.mem_range.mpr ((pri_lt k hk1 k0 hk).mp h2), List.mem_filter.mpr ⟨h1, by rw [decide_eq_true_eq]; exact e⟩⟩
theorem C_rk {G : Cx} {d c : Nat} {m : Mm} {Q : Option Value → Mm → Prop} (hF : Full G m) (hc : IsC G c) (hn : n < 8) (hs : ∀ j, j < n → s' (8 * j + 342) = s (8 * j + 342)) (hm : ∀ j, j < n + 1 → fi m 104 (ht c j) = s' (8 * j + 342)) (hp : ∀ j, j < n + 1 → rg (s' (8 * j + 342)) 0 9) (hR : RkC m c s n) (k : ∀ m', Full G m' → Out (fun a => a = c + 5) m' m → (∀ f a, fi m' f a = fi m f a ∧ fl m' f a = fl m f a) → RkC m' c s' (n + 1) → Q none m') : WPM G (d + 2) (0, 0) μX0_rankHeater [.ref c, .int (nI n)] m Q := by
  obtain ⟨k0, hk, e0⟩ := pri_k (hp n (by omega))
  have hps : ∀ j, j < n → rg (s (8 * j + 342)) 0 9 := fun j hj => by rw [← hs j hj]; exact hp j (by omega)
  refine eC_rk hF hc hn ?_
  refine loopN (n := n) (P := fun j m' => m' = m) (W := fun j m' => WP G (d + 2) (0, 0) μX0_rankHeater 4 [.ref c, .int (nI n), .int (nI (cntH s (9 - nI k0) j)), .int (nI j)] [] m' Q) ?_ 0 (by omega) m rfl
  intro j m' hj e ih
  subst e
  by_cases hjn : j < n
  · have := cntH_le s (9 - nI k0) j
    have es := cntH_s s (9 - nI k0) j
    have a1 := hm j (by omega)
    have a2 := hm n (by omega)
    rw [hs j hjn] at a1
    rw [e0] at a2
    refine bC_rk hF hc hn hjn this (fun z => ?_) (fun z => ?_)
    · rw [a1, a2] at z
      rw [if_pos z] at es
      have := ih hjn m' rfl
      rw [es] at this
      exact this
    · rw [a1, a2] at z
      rw [if_neg z] at es
      have := ih hjn m' rfl
      rw [es] at this
      exact this
  · have ej : j = n := by omega
    subst ej
    have hle := cntH_le s (9 - nI k0) j
    have hA := rkA_len hps hk
    have hlen := rnk_len hps
    rw [rnk_AB (k0 := k0 + 1) (by omega), List.length_append] at hlen
    obtain ⟨r, hr⟩ : ∃ r, j = cntH s (9 - nI k0) j + r := ⟨j - cntH s (9 - nI k0) j, by omega⟩
    have hpp : cntH s (9 - nI k0) j = (rkA s j (k0 + 1)).length := hA.symm
    have hq : WP G (d + 2) (0, 0) μX0_rankHeater 4 [.ref c, .int (nI (cntH s (9 - nI k0) j + r)), .int (nI (cntH s (9 - nI k0) j)), .int (nI (cntH s (9 - nI k0) j + r))] [] m' Q := by
      refine bC_rkx hF hc (by omega) (fun mc hcp => ?_)
      refine k _ (Full_wai _ _ _ (hcp.full hF)) ((hcp.out (A := fun a => a = c + 5) rfl).wai rfl) (fun f a => ⟨hcp.fi, hcp.fl⟩) ?_
      intro i h hh
      rw [rnk_ins hs hk e0] at hh
      generalize cntH s (9 - nI k0) j = p at *
      have hRk : ∀ i h, (rkA s j (k0 + 1) ++ rkB s j (k0 + 1))[i]? = some h → ai m' (c + 5) i = nI h := fun i h hh => hR i h (by rw [rnk_AB (k0 := k0 + 1) (by omega)]; exact hh)
      generalize rkA s j (k0 + 1) = X at *
      generalize rkB s j (k0 + 1) = Y at *
      have hi : i < (X ++ j :: Y).length := (List.getElem?_eq_some_iff.mp hh).1
      rw [List.length_append, List.length_cons] at hi
      by_cases c1 : i < p
      · rw [List.getElem?_append_left (by omega)] at hh
        rw [ai_wai_upd, upd_ne (by omega), hcp.ai_eq]
        unfold va_cpy
        rw [if_neg (by omega)]
        exact hRk i h (by rw [List.getElem?_append_left (by omega)]; exact hh)
      · rw [List.getElem?_append_right (by omega)] at hh
        by_cases c2 : i = p
        · rw [c2, hpp, Nat.sub_self, List.getElem?_cons_zero] at hh
          cases hh
          rw [c2, ai_wai_upd, upd_eq, ← hr]
        · obtain ⟨t, ht⟩ : ∃ t, i = p + 1 + t := ⟨i - (p + 1), by omega⟩
          rw [show i - X.length = t + 1 by omega, List.getElem?_cons_succ] at hh
          rw [ai_wai_upd, upd_ne (by omega), hcp.ai_eq]
          unfold va_cpy
          rw [if_pos (by omega), show p + (i - (p + 1)) = p + t by omega]
          exact hRk (p + t) h (by rw [List.getElem?_append_right (by omega), show p + t - X.length = t by omega]; exact hh)
    rw [← hr] at hq
    exact hq
theorem CR.mkR {m0 m1 m2 : Mm} {c nh nl nn n' nl' nh' : Nat} {st st' : Nat → Int32} {en en' : Nat → Int64} {L : List Ru} {l : List Lk} (h : CR m0 c st en nn nl nh L l) (hS : CS m0 m1 c (UD n' nl' nh') st' en') (hO : Out (fun a => a = c + 5) m2 m1) (hf : ∀ f a, fi m2 f a = fi m1 f a ∧ fl m2 f a = fl m1 f a) (hLO : LkOK n' l) (hLS : LkS st' n' l) (hRk : RkC m2 c st' nh') (hR : ∀ R ∈ L, RuC n' nl' nh' R) (h15 : st' 15 = st 15) : CR m2 c st' en' n' nl' nh' L l := by
  obtain ⟨a1, ⟨b1, b2, b3⟩, a3, a4, a5, a6, a7, a8⟩ := h
  obtain ⟨s1, s2, s3, ⟨e1, e2, e3⟩, s5⟩ := hS
  refine ⟨⟨Out.rf, K6.rf, fun k hk hd => (hf _ _).1.trans (s3 k hk hd), ⟨(hf _ _).2.trans e1, (hf _ _).2.trans e2, (hf _ _).2.trans e3⟩, fun k hk => (hO.ai (by omega) k).trans (s5 k hk)⟩, ⟨(hf _ _).1.trans (s2.1.trans b1), b2, fun i x hx => ?_⟩, hLO, hLS, hRk, a6.of (fun j k hj => (hO.ai (by omega) k).trans (s1.ai (by unfold SA; omega) k)) (fun f => (hf _ _).1.trans (s1.fi (by unfold SA; omega) f)), hR, h15.trans a8⟩
  obtain ⟨c1, c2, c3⟩ := b3 i x hx
  have hi : i < l.length := (List.getElem?_eq_some_iff.mp hx).1
  have hlk : ¬ SA c (lk c i) := by unfold SA lk; omega
  exact ⟨(hf _ _).1.trans ((s1.fi hlk _).trans c1), (hf _ _).1.trans ((s1.fi hlk _).trans c2), (hf _ _).1.trans ((s1.fi hlk _).trans c3)⟩
end RANK
