/-! THE CLASS'S copyFrom -/
def CA (c a : Nat) : Prop := c ≤ a ∧ a < c + 69
theorem IsR_dis {G : Cx} {r q : Nat} (hr : IsR G r) (hq : IsR G q) (hne : q ≠ r) {j k : Nat} (hj : j < 9) (hk : k < 9) : q + j ≠ r + k := by
  unfold IsR IsC at hr hq
  rcases hr with ⟨c, h1, h2⟩ | h1 <;> rcases hq with ⟨c', h3, h4⟩ | h3 <;> omega
theorem IsC_dis {G : Cx} {c o : Nat} (hc : IsC G c) (ho : IsC G o) (hne : c ≠ o) {j : Nat} (hj : j < 69) : ¬ CA c (o + j) := by
  unfold IsC at hc ho
  unfold CA
  omega
section CCOPY
variable {G : Cx} {d : Nat} {m0 m : Mm} {c o : Nat} {Q : Option Value → Mm → Prop} {st : Nat → Int32} {en : Nat → Int64} {n nl nh : Nat} {T : Int}
theorem CodC.of2 {m m' : Mm} {r q : Nat} {sz : Nat} (h1 : ∀ k, k < sz → ai m' (r + 1) k = ai m (q + 1) k ∧ ai m' (r + 2) k = ai m (q + 2) k) : ∀ (cs : List Cd) (i : Nat), i + cs.length ≤ sz → CodC m q i cs → CodC m' r i cs
  | [], _, _, _ => trivial
  | _ :: cs, i, hl, ⟨a, b, c⟩ => by
    rw [List.length_cons] at hl
    exact ⟨(h1 i (by omega)).1.trans a, (h1 i (by omega)).2.trans b, CodC.of2 h1 cs (i + 1) (by omega) c⟩
theorem Cpy.val {m m' : Mm} {a0 a nx k : Nat} (h : Cpy m m' a0 a 0 0 nx) (hk : k < nx) : ai m' a k = ai m a0 k := by
  rw [h.ai_eq]
  unfold va_cpy
  rw [if_pos ⟨by omega, by omega⟩]
  congr 1
  omega
theorem C_cpr {r q : Nat} {L : List Ru} (hF : Full G m) (hr : IsR G r) (hq : IsR G q) (hne : q ≠ r) (hL : RulsC m q L) (k : ∀ m', Out (fun a => r ≤ a ∧ a < r + 8) m' m → RulsC m' r L → Q none m') : WPM G (d + 1) (0, 0) μX8_copyFrom [.ref r, .ref q] m Q := by
  obtain ⟨sz, z1, z2, z3, z4, z5⟩ := hL
  refine sC_cpr hF hr hq z1 z2 z3 z4 hne (fun m1 h1 m2 h2 m3 h3 m4 h4 m5 h5 m6 h6 m7 h7 => ?_)
  have dis : ∀ j k, j < 9 → k < 9 → q + j ≠ r + k := fun j k hj hk => IsR_dis hr hq hne hj hk
  have f1 : ∀ k, k < sz → ai m7 (r + 1) k = ai m (q + 1) k := fun k hk => by
    rw [h7.ai_na (by omega), h6.ai_na (by omega), h5.ai_na (by omega), h4.ai_na (by omega), h3.ai_na (by omega)]
    show ai m2 (r + 1) k = _
    rw [h2.ai_na (by omega), h1.val hk]
    rfl
  have f2 : ∀ k, k < sz → ai m7 (r + 2) k = ai m (q + 2) k := fun k hk => by
    rw [h7.ai_na (by omega), h6.ai_na (by omega), h5.ai_na (by omega), h4.ai_na (by omega), h3.ai_na (by omega)]
    show ai m2 (r + 2) k = _
    rw [h2.val hk, h1.ai_na (dis 2 1 (by omega) (by omega))]
    rfl
  have back : ∀ j k, j < 8 → ai (wfi m2 808 r (nI L.length)) (q + j) k = ai m (q + j) k := fun j k hj => by
    show ai m2 (q + j) k = _
    rw [h2.ai_na (dis j 2 (by omega) (by omega)), h1.ai_na (dis j 1 (by omega) (by omega))]
    rfl
  have f3 : ∀ k, k < L.length → ai m7 (r + 3) k = ai m (q + 3) k := fun k hk => by
    rw [h7.ai_na (by omega), h6.ai_na (by omega), h5.ai_na (by omega), h4.ai_na (by omega), h3.val hk, back 3 k (by omega)]
  have f4 : ∀ k, k < L.length → ai m7 (r + 4) k = ai m (q + 4) k := fun k hk => by
    rw [h7.ai_na (by omega), h6.ai_na (by omega), h5.ai_na (by omega), h4.val hk, h3.ai_na (dis 4 3 (by omega) (by omega)), back 4 k (by omega)]
  have f5 : ∀ k, k < L.length → ai m7 (r + 5) k = ai m (q + 5) k := fun k hk => by
    rw [h7.ai_na (by omega), h6.ai_na (by omega), h5.val hk, h4.ai_na (dis 5 4 (by omega) (by omega)), h3.ai_na (dis 5 3 (by omega) (by omega)), back 5 k (by omega)]
  have f6 : ∀ k, k < L.length → ai m7 (r + 6) k = ai m (q + 6) k := fun k hk => by
    rw [h7.ai_na (by omega), h6.val hk, h5.ai_na (dis 6 5 (by omega) (by omega)), h4.ai_na (dis 6 4 (by omega) (by omega)), h3.ai_na (dis 6 3 (by omega) (by omega)), back 6 k (by omega)]
  have f7 : ∀ k, k < L.length → ai m7 (r + 7) k = ai m (q + 7) k := fun k hk => by
    rw [h7.val hk, h6.ai_na (dis 7 6 (by omega) (by omega)), h5.ai_na (dis 7 5 (by omega) (by omega)), h4.ai_na (dis 7 4 (by omega) (by omega)), h3.ai_na (dis 7 3 (by omega) (by omega)), back 7 k (by omega)]
  have a7 : fi m7 807 r = nI sz := by
    rw [h7.fi, h6.fi, h5.fi, h4.fi, h3.fi, fi_ne (by decide), h2.fi, h1.fi, fi_eq]
  have a8 : fi m7 808 r = nI L.length := by
    rw [h7.fi, h6.fi, h5.fi, h4.fi, h3.fi, fi_eq]
  refine k m7 ?_ ⟨sz, a7, z2, a8, z4, fun p R hp => ?_⟩
  · have o1 := (h1.out (A := fun a => r ≤ a ∧ a < r + 8) (by omega)).tr (Out.rf.wfi (f := 807) (a := r) (x := nI sz) (m := m) (by omega))
    have o2 := (h2.out (A := fun a => r ≤ a ∧ a < r + 8) (by omega)).tr o1
    have o3 := (h3.out (A := fun a => r ≤ a ∧ a < r + 8) (by omega)).tr (o2.wfi (by omega))
    have o4 := (h4.out (A := fun a => r ≤ a ∧ a < r + 8) (by omega)).tr o3
    have o5 := (h5.out (A := fun a => r ≤ a ∧ a < r + 8) (by omega)).tr o4
    have o6 := (h6.out (A := fun a => r ≤ a ∧ a < r + 8) (by omega)).tr o5
    exact (h7.out (A := fun a => r ≤ a ∧ a < r + 8) (by omega)).tr o6
  · have hp' : p < L.length := (List.getElem?_eq_some_iff.mp hp).1
    obtain ⟨i, b3, b4, b1, b2, b6, b7, b5⟩ := z5 p R hp
    refine ⟨i, (f3 p hp').trans b3, (f4 p hp').trans b4, b1, CodC.of2 (fun k hk => ⟨f1 k hk, f2 k hk⟩) _ _ b1 b2, (f6 p hp').trans b6, (f7 p hp').trans b7, fun e => ?_⟩
    obtain ⟨c1, c2, c3⟩ := b5 e
    exact ⟨(f5 p hp').trans c1, c2, CodC.of2 (fun k hk => ⟨f1 k hk, f2 k hk⟩) _ _ c2 c3⟩
/-- a craft that is being copied: the places D are there -/
def CF (m0 m : Mm) (c : Nat) (D : Nat → Prop) (st : Nat → Int32) : Prop := Out (CA c) m m0 ∧ ∀ k, VK k → D k → fi m (flC k) (c + ofC k) = st k
theorem CF.full {D : Nat → Prop} (h : CF m0 m c D st) (hF : Full G m0) : Full G m := h.1.full hF
theorem CF.mono {D D' : Nat → Prop} (h : CF m0 m c D st) (hD : ∀ k, D' k → D k) : CF m0 m c D' st := ⟨h.1, fun k h1 h2 => h.2 k h1 (hD k h2)⟩
theorem CF.w {D D' : Nat → Prop} (h : CF m0 m c D st) (k0 : Nat) {f o : Nat} {x : Int32} (hf : flC k0 = f) (ho : ofC k0 = o) (hk : VK k0) (hD : ∀ k, D' k → (D k ∧ k ≠ k0) ∨ (k = k0 ∧ x = st k0)) : CF m0 (wfi m f (c + o) x) c D' st := by
  subst hf
  subst ho
  obtain ⟨hO, hs⟩ := h
  obtain ⟨v1, v2, v3, v4⟩ := vk_ok k0 hk.lt (by unfold VK at hk; exact hk)
  refine ⟨hO.wfi (by unfold CA; omega), fun k hk' hd => ?_⟩
  rcases hD k hd with ⟨h1, e⟩ | ⟨e, hx⟩
  · obtain ⟨w1, -⟩ := vk_ok k hk'.lt (by unfold VK at hk'; exact hk')
    rw [← hs k hk' h1]
    by_cases e1 : flC k = flC k0
    · refine fi_na (fun z => e ?_)
      rw [← w1, ← v1, e1, show ofC k = ofC k0 by omega]
    · exact fi_ne e1
  · subst e
    rw [fi_eq, hx]
theorem CF.wN {D D' : Nat → Prop} (h : CF m0 m c D st) {i : Nat} {x : Int32} (j : Nat) (hi : i < 12) (hj : j < 11) (hD : ∀ k, D' k → (D k ∧ k ≠ 11 * i + 20 + j) ∨ (k = 11 * i + 20 + j ∧ x = st (11 * i + 20 + j))) : CF m0 (wfi m (400 + j) (nd c i) x) c D' st := by
  obtain ⟨e1, e2⟩ := flN i hi j hj
  have := h.w (x := x) (D' := D') _ e1 e2 (by unfold VK; omega) hD
  rwa [← Nat.add_assoc] at this
theorem CF.wL {D D' : Nat → Prop} (h : CF m0 m c D st) {i : Nat} {x : Int32} (j : Nat) (hi : i < 6) (hj : j < 7) (hD : ∀ k, D' k → (D k ∧ k ≠ 7 * i + 296 + j) ∨ (k = 7 * i + 296 + j ∧ x = st (7 * i + 296 + j))) : CF m0 (wfi m (300 + j) (lv c i) x) c D' st := by
  obtain ⟨e1, e2⟩ := flL i hi j hj
  have := h.w (x := x) (D' := D') _ e1 e2 (by unfold VK; omega) hD
  rwa [← Nat.add_assoc] at this
theorem CF.wH {D D' : Nat → Prop} (h : CF m0 m c D st) {i : Nat} {x : Int32} (j : Nat) (hi : i < 8) (hj : j < 8) (hD : ∀ k, D' k → (D k ∧ k ≠ 8 * i + 338 + j) ∨ (k = 8 * i + 338 + j ∧ x = st (8 * i + 338 + j))) : CF m0 (wfi m (100 + j) (ht c i) x) c D' st := by
  obtain ⟨e1, e2⟩ := flH i hi j hj
  have := h.w (x := x) (D' := D') _ e1 e2 (by unfold VK; omega) hD
  rwa [← Nat.add_assoc] at this
/-- a write that is no place of the state -/
theorem CF.oo {D : Nat → Prop} {f a : Nat} {x : Int32} (h : CF m0 m c D st) (ha : CA c a) (hf : ∀ k, k < 402 → flC k ≠ f) : CF m0 (wfi m f a x) c D st :=
  ⟨h.1.wfi ha, fun k h1 h2 => (fi_ne (hf k h1.lt)).trans (h.2 k h1 h2)⟩
/-- D with the places from s on, p of them -/
def DP (B : Nat → Prop) (s p k : Nat) : Prop := B k ∨ (s ≤ k ∧ k < s + p)
theorem CF.nN {B : Nat → Prop} {i : Nat} {x : Int32} (j p : Nat) (h : CF m0 m c (DP B 20 p) st) (hi : i < 12) (hj : j < 11) (hp : p = 11 * i + j) (hB : ¬ B (20 + p)) (hx : x = st (11 * i + 20 + j)) : CF m0 (wfi m (400 + j) (nd c i) x) c (DP B 20 (p + 1)) st := by
  refine h.wN j hi hj (fun k hk => ?_)
  by_cases e : k = 11 * i + 20 + j
  · exact Or.inr ⟨e, hx⟩
  · refine Or.inl ⟨?_, e⟩
    unfold DP at hk ⊢
    rcases hk with h | h
    · exact Or.inl h
    · exact Or.inr (by omega)
theorem CF.nL {B : Nat → Prop} {i : Nat} {x : Int32} (j p : Nat) (h : CF m0 m c (DP B 296 p) st) (hi : i < 6) (hj : j < 7) (hp : p = 7 * i + j) (hx : x = st (7 * i + 296 + j)) : CF m0 (wfi m (300 + j) (lv c i) x) c (DP B 296 (p + 1)) st := by
  refine h.wL j hi hj (fun k hk => ?_)
  by_cases e : k = 7 * i + 296 + j
  · exact Or.inr ⟨e, hx⟩
  · refine Or.inl ⟨?_, e⟩
    unfold DP at hk ⊢
    rcases hk with h | h
    · exact Or.inl h
    · exact Or.inr (by omega)
theorem CF.zL {B : Nat → Prop} {i : Nat} {x : Int32} (j p : Nat) (h : CF m0 m c (DP B 296 p) st) (hi : i < 6) (hj : j < 7) (hp : p ≤ 7 * i + j) (hB : ∀ k, B k → k < 296) : CF m0 (wfi m (300 + j) (lv c i) x) c (DP B 296 p) st := by
  refine h.wL j hi hj (fun k hk => Or.inl ⟨hk, ?_⟩)
  unfold DP at hk
  rcases hk with h | h
  · have := hB k h
    omega
  · omega
theorem CF.nH {B : Nat → Prop} {i : Nat} {x : Int32} (j p : Nat) (h : CF m0 m c (DP B 338 p) st) (hi : i < 8) (hj : j < 8) (hp : p = 8 * i + j) (hx : x = st (8 * i + 338 + j)) : CF m0 (wfi m (100 + j) (ht c i) x) c (DP B 338 (p + 1)) st := by
  refine h.wH j hi hj (fun k hk => ?_)
  by_cases e : k = 8 * i + 338 + j
  · exact Or.inr ⟨e, hx⟩
  · refine Or.inl ⟨?_, e⟩
    unfold DP at hk ⊢
    rcases hk with h | h
    · exact Or.inl h
    · exact Or.inr (by omega)
theorem CF.zH {B : Nat → Prop} {i : Nat} {x : Int32} (j p : Nat) (h : CF m0 m c (DP B 338 p) st) (hi : i < 8) (hj : j < 8) (hp : p ≤ 8 * i + j) (hB : ∀ k, B k → k < 338) : CF m0 (wfi m (100 + j) (ht c i) x) c (DP B 338 p) st := by
  refine h.wH j hi hj (fun k hk => Or.inl ⟨hk, ?_⟩)
  unfold DP at hk
  rcases hk with h | h
  · have := hB k h
    omega
  · omega
theorem CF.wai {D : Nat → Prop} {a k : Nat} {x : Int32} (h : CF m0 m c D st) (ha : CA c a) : CF m0 (wai m a k x) c D st := ⟨h.1.wai ha, h.2⟩
theorem CF.wfl {D : Nat → Prop} {f a : Nat} {x : Int64} (h : CF m0 m c D st) (ha : CA c a) : CF m0 (wfl m f a x) c D st := ⟨h.1.wfl ha, h.2⟩
theorem C_copy {L : List Ru} {l : List Lk} (hF : Full G m0) (hc : IsC G c) (ho : IsC G o) (hne : c ≠ o) (hR : CR m0 o st en n nl nh L l) (hI : Iv T st n nl nh) (k : ∀ m', Out (CA c) m' m0 → CR m' c st en n nl nh L l → Q none m') : WPM G (d + 3) (0, 0) μX0_copyFrom [.ref c, .ref o] m0 Q := by
  obtain ⟨hS, ⟨b1, b2, b3⟩, hLO, hLS, hRk, hRu, hOL, h15⟩ := hR
  obtain ⟨⟨i1, i2, i3, i4, i5, i6, i7, i8, i9, i10, i11⟩, i12⟩ := hI
  have no : ∀ j, j < 69 → ¬ CA c (o + j) := fun j hj => IsC_dis hc ho hne hj
  have src : ∀ {m}, Out (CA c) m m0 → ∀ k, VK k → UD n nl nh k → fi m (flC k) (o + ofC k) = st k := fun {m} h k hk hd => by
    have := (vk_ok k hk.lt (by unfold VK at hk; exact hk)).2.2.1
    rw [h.fi (no _ this)]
    exact hS.2.2.1 k hk hd
  have sN : ∀ {m}, Out (CA c) m m0 → ∀ i j, i < n → j < 11 → fi m (400 + j) (nd o i) = st (11 * i + 20 + j) := fun {m} h i j hi hj => by
    obtain ⟨e1, e2⟩ := flN i (by omega) j hj
    have := src h (11 * i + 20 + j) (by unfold VK; omega) (by unfold UD; omega)
    rwa [e1, e2, ← Nat.add_assoc] at this
  have sL : ∀ {m}, Out (CA c) m m0 → ∀ i j, i < nl → j < 7 → fi m (300 + j) (lv o i) = st (7 * i + 296 + j) := fun {m} h i j hi hj => by
    obtain ⟨e1, e2⟩ := flL i (by omega) j hj
    have := src h (7 * i + 296 + j) (by unfold VK; omega) (by unfold UD; omega)
    rwa [e1, e2, ← Nat.add_assoc] at this
  have sH : ∀ {m}, Out (CA c) m m0 → ∀ i j, i < nh → j < 8 → fi m (100 + j) (ht o i) = st (8 * i + 338 + j) := fun {m} h i j hi hj => by
    obtain ⟨e1, e2⟩ := flH i (by omega) j hj
    have := src h (8 * i + 338 + j) (by unfold VK; omega) (by unfold UD; omega)
    rwa [e1, e2, ← Nat.add_assoc] at this
  have sG : ∀ {m} k f p, Out (CA c) m m0 → flC k = f → ofC k = p → k < 18 → fi m f (o + p) = st k := fun {m} k f p h h1 h2 h3 => by
    subst h1
    subst h2
    exact src h k (by unfold VK; omega) (by unfold UD; omega)
  have z0 : CF m0 m0 c (fun _ => False) st := ⟨Out.rf, fun _ _ h => h.elim⟩
  have z1 : CF m0 (wfi m0 5 c (fi m0 5 o)) c (DP (fun k => k = 12) 20 0) st := z0.w 12 rfl rfl (by unfold VK; omega) (fun k hk => Or.inr ⟨by unfold DP at hk; omega, sG 12 5 0 Out.rf rfl rfl (by omega)⟩)
  refine eC_cp hF hc ho ?_
  refine loopN (n := n) (P := fun i m => CF m0 m c (DP (fun k => k = 12) 20 (11 * i)) st) (W := fun i m => WP G (d + 3) (0, 0) μX0_copyFrom 10 [.ref c, .ref o, .int (nI i)] [] m Q) ?_ 0 (Nat.zero_le _) _ z1
  intro i m1 hi h1 ih1
  have g5 : fi m1 5 c = nI n := (h1.2 12 (by unfold VK; omega) (Or.inl rfl)).trans i1
  refine bC_cp1 (h1.full hF) hc ho g5 i2 hi (fun hn1 => ?_) (fun hn1 => ?_)
  · have e : i = n := by omega
    subst e
    have y1 : CF m0 (wfi m1 6 c (fi m1 6 o)) c (DP (fun k => k = 12) 20 (11 * i)) st := h1.oo (by unfold CA; omega) (fun k hk => by
      have : ∀ k, k < 402 → flC k ≠ 6 := by decide +kernel
      exact this k hk)
    have e6 : fi (wfi m1 6 c (fi m1 6 o)) 6 c = nI l.length := fi_eq.trans ((h1.1.fi (no 0 (by omega)) 6).trans b1)
    generalize wfi m1 6 c (fi m1 6 o) = m1' at y1 e6
    refine loopN (n := l.length) (P := fun p m => CF m0 m c (DP (fun k => k = 12) 20 (11 * i)) st ∧ fi m 6 c = nI l.length ∧ ∀ q x, q < p → l[q]? = some x → fi m 200 (lk c q) = nI x.1 ∧ fi m 201 (lk c q) = nI x.2.1 ∧ fi m 202 (lk c q) = x.2.2) (W := fun p m => WP G (d + 3) (0, 0) μX0_copyFrom 49 [.ref c, .ref o, .int (nI p)] [] m Q) ?_ 0 (Nat.zero_le _) _ ⟨y1, e6, fun q x hq => by omega⟩
    intro p m2 hp h2 ih2
    obtain ⟨h2, e6, hl2⟩ := h2
    refine bC_cp2 (h2.full hF) hc ho e6 b2 hp (fun hn2 => ?_) (fun hn2 => ?_)
    · have ep : p = l.length := by omega
      rw [ep] at hl2
      have y2 : CF m0 (wfi m2 7 c (fi m2 7 o)) c (DP (fun k => k = 12 ∨ k = 13 ∨ (20 ≤ k ∧ k < 20 + 11 * i)) 296 0) st := h2.w 13 rfl rfl (by unfold VK; omega) (fun k hk => by
        unfold DP at hk ⊢
        by_cases e : k = 13
        · exact Or.inr ⟨e, sG 13 7 0 h2.1 rfl rfl (by omega)⟩
        · exact Or.inl ⟨by omega, e⟩)
      have e6' : fi (wfi m2 7 c (fi m2 7 o)) 6 c = nI l.length := (fi_ne (by decide)).trans e6
      have hl3 : ∀ q x, l[q]? = some x → fi (wfi m2 7 c (fi m2 7 o)) 200 (lk c q) = nI x.1 ∧ fi (wfi m2 7 c (fi m2 7 o)) 201 (lk c q) = nI x.2.1 ∧ fi (wfi m2 7 c (fi m2 7 o)) 202 (lk c q) = x.2.2 := fun q x hx => by
        obtain ⟨c1, c2, c3⟩ := hl2 q x (List.getElem?_eq_some_iff.mp hx).1 hx
        exact ⟨(fi_ne (by decide)).trans c1, (fi_ne (by decide)).trans c2, (fi_ne (by decide)).trans c3⟩
      generalize wfi m2 7 c (fi m2 7 o) = m2' at y2 e6' hl3
      have LkP : ∀ {m m'}, LkC m c l → (∀ f q, f = 6 ∧ q = c ∨ (200 ≤ f ∧ f < 203) → fi m' f q = fi m f q) → LkC m' c l := fun {m m'} h hh => ⟨(hh 6 c (by omega)).trans h.1, h.2.1, fun q x hx => by
        obtain ⟨c1, c2, c3⟩ := h.2.2 q x hx
        exact ⟨(hh _ _ (by omega)).trans c1, (hh _ _ (by omega)).trans c2, (hh _ _ (by omega)).trans c3⟩⟩
      have LP : LkC m2' c l := ⟨e6', b2, hl3⟩
      refine loopN (n := nl) (P := fun p m => CF m0 m c (DP (fun k => k = 12 ∨ k = 13 ∨ (20 ≤ k ∧ k < 20 + 11 * i)) 296 (7 * p)) st ∧ LkC m c l) (W := fun p m => WP G (d + 3) (0, 0) μX0_copyFrom 88 [.ref c, .ref o, .int (nI p)] [] m Q) ?_ 0 (Nat.zero_le _) _ ⟨y2, LP⟩
      intro p3 m3 hp3 h3 ih3
      obtain ⟨h3, L3⟩ := h3
      have g7 : fi m3 7 c = nI nl := (h3.2 13 (by unfold VK; omega) (Or.inl (by omega))).trans i3
      refine bC_cp3 (h3.full hF) hc ho g7 i4 hp3 (fun e => hne (by unfold lv at e; omega)) (fun hn3 => ?_) (fun hn3 => ?_) (fun hn3 => ?_)
      · have q6 : fi m3 306 (lv o p3) = st (7 * p3 + 302) := sL h3.1 p3 6 hn3 (by omega)
        rw [q6]
        exact (i9 p3 hn3).2.2.2.2
      · have e3 : p3 = nl := by omega
        subst e3
        have y3 : CF m0 (wfi m3 8 c (fi m3 8 o)) c (DP (fun k => k = 12 ∨ k = 13 ∨ k = 14 ∨ (20 ≤ k ∧ k < 20 + 11 * i) ∨ (296 ≤ k ∧ k < 296 + 7 * p3)) 338 0) st := h3.w 14 rfl rfl (by unfold VK; omega) (fun k hk => by
          unfold DP at hk ⊢
          by_cases e : k = 14
          · exact Or.inr ⟨e, sG 14 8 0 h3.1 rfl rfl (by omega)⟩
          · exact Or.inl ⟨by omega, e⟩)
        have L3' : LkC (wfi m3 8 c (fi m3 8 o)) c l := LkP L3 (fun f q hh => fi_ne (by omega))
        generalize wfi m3 8 c (fi m3 8 o) = m3' at y3 L3'
        refine loopN (n := nh) (P := fun p m => CF m0 m c (DP (fun k => k = 12 ∨ k = 13 ∨ k = 14 ∨ (20 ≤ k ∧ k < 20 + 11 * i) ∨ (296 ≤ k ∧ k < 296 + 7 * p3)) 338 (8 * p)) st ∧ LkC m c l ∧ ∀ q, q < p → ai m (c + 5) q = ai m0 (o + 5) q) (W := fun p m => WP G (d + 3) (0, 0) μX0_copyFrom 127 [.ref c, .ref o, .int (nI p)] [] m Q) ?_ 0 (Nat.zero_le _) _ ⟨y3, L3', fun q hq => by omega⟩
        intro p4 m4 hp4 h4 ih4
        obtain ⟨h4, L4, R4⟩ := h4
        have g8 : fi m4 8 c = nI nh := (h4.2 14 (by unfold VK; omega) (Or.inl (by omega))).trans i5
        have hBH : ∀ k, (fun k => k = 12 ∨ k = 13 ∨ k = 14 ∨ (20 ≤ k ∧ k < 20 + 11 * i) ∨ (296 ≤ k ∧ k < 296 + 7 * p3)) k → k < 338 := fun k hk => by dsimp only at hk; omega
        refine bC_cp4 (h4.full hF) hc ho g8 i6 hp4 (fun e => hne (by unfold ht at e; omega)) (fun hn4 => ?_) (fun hn4 => ?_) (fun hn4 => ?_)
        · have q6 : fi m4 106 (ht o p4) = st (8 * p4 + 344) := sH h4.1 p4 6 hn4 (by omega)
          rw [q6]
          exact (i10 p4 hn4).2.2.2
        · have e4 : p4 = nh := by omega
          subst e4
          intro m5 h5
          have B0 : ∀ k f p, k < 18 → flC k = f → ofC k = p → ∀ {m}, Out (CA c) m m0 → fi m f (o + p) = st k := fun k f p hk h1 h2 m h => sG k f p h h1 h2 hk
          have step : ∀ {m D} k f p {x}, CF m0 m c D st → flC k = f → ofC k = p → k < 18 → x = st k → CF m0 (wfi m f (c + p) x) c (fun j => D j ∨ j = k) st := fun {m D} k f p {x} h h1 h2 hk hx => h.w k h1 h2 (by unfold VK; omega) (fun j hj => by
            by_cases e : j = k
            · exact Or.inr ⟨e, hx⟩
            · exact Or.inl ⟨hj.resolve_right e, e⟩)
          have s2 := step 2 500 6 h4 rfl rfl (by omega) (B0 2 500 6 (by omega) rfl rfl h4.1)
          have s3 := step 3 501 6 s2 rfl rfl (by omega) (B0 3 501 6 (by omega) rfl rfl h4.1)
          have s4 := step 4 502 6 s3 rfl rfl (by omega) (B0 4 502 6 (by omega) rfl rfl h4.1)
          have s5 := step 5 503 6 s4 rfl rfl (by omega) (B0 5 503 6 (by omega) rfl rfl h4.1)
          have s6 := step 6 504 6 s5 rfl rfl (by omega) (B0 6 504 6 (by omega) rfl rfl h4.1)
          have s7 := step 7 505 6 s6 rfl rfl (by omega) (B0 7 505 6 (by omega) rfl rfl h4.1)
          have s8 := step 8 900 7 s7 rfl rfl (by omega) (B0 8 900 7 (by omega) rfl rfl h4.1)
          have s9 := step 9 901 7 s8 rfl rfl (by omega) (B0 9 901 7 (by omega) rfl rfl h4.1)
          have s10 := step 10 902 7 s9 rfl rfl (by omega) (B0 10 902 7 (by omega) rfl rfl h4.1)
          have s11 := step 11 903 7 s10 rfl rfl (by omega) (B0 11 903 7 (by omega) rfl rfl h4.1)
          have L5 := LkP L4 (m' := (wfi (wfi (wfi (wfi (wfi (wfi (wfi (wfi (wfi (wfi m4 500 (c + 6) (fi m4 500 (o + 6))) 501 (c + 6) (fi m4 501 (o + 6))) 502 (c + 6) (fi m4 502 (o + 6))) 503 (c + 6) (fi m4 503 (o + 6))) 504 (c + 6) (fi m4 504 (o + 6))) 505 (c + 6) (fi m4 505 (o + 6))) 900 (c + 7) (fi m4 900 (o + 7))) 901 (c + 7) (fi m4 901 (o + 7))) 902 (c + 7) (fi m4 902 (o + 7))) 903 (c + 7) (fi m4 903 (o + 7)))) (fun f q hh => by iterate 10 rw [fi_ne (by omega)])
          have A5 : ∀ a k, ai (wfi (wfi (wfi (wfi (wfi (wfi (wfi (wfi (wfi (wfi m4 500 (c + 6) (fi m4 500 (o + 6))) 501 (c + 6) (fi m4 501 (o + 6))) 502 (c + 6) (fi m4 502 (o + 6))) 503 (c + 6) (fi m4 503 (o + 6))) 504 (c + 6) (fi m4 504 (o + 6))) 505 (c + 6) (fi m4 505 (o + 6))) 900 (c + 7) (fi m4 900 (o + 7))) 901 (c + 7) (fi m4 901 (o + 7))) 902 (c + 7) (fi m4 902 (o + 7))) 903 (c + 7) (fi m4 903 (o + 7))) a k = ai m4 a k := fun _ _ => rfl
          generalize (wfi (wfi (wfi (wfi (wfi (wfi (wfi (wfi (wfi (wfi m4 500 (c + 6) (fi m4 500 (o + 6))) 501 (c + 6) (fi m4 501 (o + 6))) 502 (c + 6) (fi m4 502 (o + 6))) 503 (c + 6) (fi m4 503 (o + 6))) 504 (c + 6) (fi m4 504 (o + 6))) 505 (c + 6) (fi m4 505 (o + 6))) 900 (c + 7) (fi m4 900 (o + 7))) 901 (c + 7) (fi m4 901 (o + 7))) 902 (c + 7) (fi m4 902 (o + 7))) 903 (c + 7) (fi m4 903 (o + 7))) = m45 at h5 s11 L5 A5
          have s12 : CF m0 m5 c _ st := ⟨(h5.out (A := CA c) (by unfold CA; omega)).tr s11.1, fun k hk hd => h5.fi.trans (s11.2 k hk hd)⟩
          have s16 := step 16 601 8 s12 rfl rfl (by omega) (B0 16 601 8 (by omega) rfl rfl h4.1)
          have s17 := step 17 602 8 s16 rfl rfl (by omega) (B0 17 602 8 (by omega) rfl rfl h4.1)
          have t1 := CF.wfl (f := 603) (a := c + 8) (x := fl m4 603 (o + 8)) s17 (by unfold CA; omega)
          have t2 := CF.wfl (f := 604) (a := c + 8) (x := fl m4 604 (o + 8)) t1 (by unfold CA; omega)
          have t3 := CF.wfl (f := 605) (a := c + 8) (x := fl m4 605 (o + 8)) t2 (by unfold CA; omega)
          have n8 : ¬ CA c (o + 8) := no 8 (by omega)
          have v603 : fl m4 603 (o + 8) = en 0 := ((h4.1.2.2 _ n8).2.1 603).trans hS.2.2.2.1.1
          have v604 : fl m4 604 (o + 8) = en 1 := ((h4.1.2.2 _ n8).2.1 604).trans hS.2.2.2.1.2.1
          have v605 : fl m4 605 (o + 8) = en 2 := ((h4.1.2.2 _ n8).2.1 605).trans hS.2.2.2.1.2.2
          have L6 : LkC (wfl (wfl (wfl (wfi (wfi m5 601 (c + 8) (fi m4 601 (o + 8))) 602 (c + 8) (fi m4 602 (o + 8))) 603 (c + 8) (fl m4 603 (o + 8))) 604 (c + 8) (fl m4 604 (o + 8))) 605 (c + 8) (fl m4 605 (o + 8))) c l := LkP L5 (fun f q hh => by
            rw [fi_wfl, fi_wfl, fi_wfl, fi_ne (by omega), fi_ne (by omega)]
            exact h5.fi)
          have E6 : fl (wfl (wfl (wfl (wfi (wfi m5 601 (c + 8) (fi m4 601 (o + 8))) 602 (c + 8) (fi m4 602 (o + 8))) 603 (c + 8) (fl m4 603 (o + 8))) 604 (c + 8) (fl m4 604 (o + 8))) 605 (c + 8) (fl m4 605 (o + 8))) 603 (c + 8) = en 0 ∧ fl (wfl (wfl (wfl (wfi (wfi m5 601 (c + 8) (fi m4 601 (o + 8))) 602 (c + 8) (fi m4 602 (o + 8))) 603 (c + 8) (fl m4 603 (o + 8))) 604 (c + 8) (fl m4 604 (o + 8))) 605 (c + 8) (fl m4 605 (o + 8))) 604 (c + 8) = en 1 ∧ fl (wfl (wfl (wfl (wfi (wfi m5 601 (c + 8) (fi m4 601 (o + 8))) 602 (c + 8) (fi m4 602 (o + 8))) 603 (c + 8) (fl m4 603 (o + 8))) 604 (c + 8) (fl m4 604 (o + 8))) 605 (c + 8) (fl m4 605 (o + 8))) 605 (c + 8) = en 2 := by
            refine ⟨?_, ?_, ?_⟩
            · rw [fl_ne (by decide), fl_ne (by decide), fl_eq]; exact v603
            · rw [fl_ne (by decide), fl_eq]; exact v604
            · rw [fl_eq]; exact v605
          have A6 : ∀ a k, ai (wfl (wfl (wfl (wfi (wfi m5 601 (c + 8) (fi m4 601 (o + 8))) 602 (c + 8) (fi m4 602 (o + 8))) 603 (c + 8) (fl m4 603 (o + 8))) 604 (c + 8) (fl m4 604 (o + 8))) 605 (c + 8) (fl m4 605 (o + 8))) a k = ai m5 a k := fun _ _ => rfl
          generalize (wfl (wfl (wfl (wfi (wfi m5 601 (c + 8) (fi m4 601 (o + 8))) 602 (c + 8) (fi m4 602 (o + 8))) 603 (c + 8) (fl m4 603 (o + 8))) 604 (c + 8) (fl m4 604 (o + 8))) 605 (c + 8) (fl m4 605 (o + 8))) = m6 at t3 L6 E6 A6 ⊢
          have hR6 : RulsC m6 (o + 10) L := hRu.of (fun j q hj => t3.1.ai (by have := no (10 + j) (by omega); rwa [← Nat.add_assoc] at this) q) (fun f => t3.1.fi (no 10 (by omega)) f)
          refine C_cpr (t3.full hF) (isRc hc) (isRc ho) (by omega) hR6 (fun m7 o7 r7 => ?_)
          have f7 : ∀ f a, ¬ (c + 10 ≤ a ∧ a < c + 10 + 8) → fi m7 f a = fi m6 f a := fun f a ha => o7.fi ha f
          have a7 : ∀ a k, ¬ (c + 10 ≤ a ∧ a < c + 10 + 8) → ai m7 a k = ai m6 a k := fun a k ha => o7.ai ha k
          have O7 : Out (CA c) m7 m0 := (o7.mono (fun a ha => by unfold CA; omega)).tr t3.1
          have h8 : ∀ k, VK k → UD i p3 p4 k → k ≠ 0 → k ≠ 1 → fi m7 (flC k) (c + ofC k) = st k := by
            intro k hk hd k0 k1
            by_cases e : k = 15
            · subst e
              obtain ⟨sz, w1, w2, w3, -⟩ := r7
              exact w3.trans h15.symm
            · obtain ⟨-, -, v3, v4⟩ := vk_ok k hk.lt (by unfold VK at hk; exact hk)
              rw [f7 _ _ (by have := v4 e; omega)]
              refine t3.2 k hk ?_
              unfold UD at hd
              unfold DP
              omega
          have L7 : LkC m7 c l := ⟨(f7 _ _ (by omega)).trans L6.1, L6.2.1, fun q x hx => by
            obtain ⟨c1, c2, c3⟩ := L6.2.2 q x hx
            have nl' : ¬ (c + 10 ≤ lk c q ∧ lk c q < c + 10 + 8) := by unfold lk; omega
            exact ⟨(f7 _ _ nl').trans c1, (f7 _ _ nl').trans c2, (f7 _ _ nl').trans c3⟩⟩
          have e13 : fi m7 13 o = st 1 := sG 1 13 0 O7 rfl rfl (by omega)
          have e14 : fi m7 14 o = st 0 := sG 0 14 0 O7 rfl rfl (by omega)
          refine bC_cp5 (O7.full hF) hc ho ?_
          rw [e13, e14]
          refine k _ ((O7.wfi (by unfold CA; omega)).wfi (by unfold CA; omega)) ⟨⟨Out.rf, K6.rf, fun k hk hd => ?_, ?_, fun k hk => ?_⟩, LkP L7 (fun f q hh => by rw [fi_ne (by omega), fi_ne (by omega)]), hLO, hLS, fun q h hh => ?_, r7.of (fun _ _ _ => rfl) (fun f => ?_), hOL, h15⟩
          · by_cases e0 : k = 0
            · subst e0
              exact fi_eq
            · by_cases e1 : k = 1
              · subst e1
                exact (fi_ne (by decide)).trans fi_eq
              · obtain ⟨w1, -⟩ := vk_ok k hk.lt (by unfold VK at hk; exact hk)
                have n14 : flC k ≠ 14 := fun z => e0 (by rw [← w1, z]; rfl)
                have n13 : flC k ≠ 13 := fun z => e1 (by rw [← w1, z]; rfl)
                rw [fi_ne n14, fi_ne n13]
                exact h8 k hk hd e0 e1
          · have e7 : ∀ f, fl m7 f (c + 8) = fl m6 f (c + 8) := fun f => (o7.2.2 _ (by omega)).2.1 f
            exact ⟨(e7 603).trans E6.1, (e7 604).trans E6.2.1, (e7 605).trans E6.2.2⟩
          · have hv : own st 16 ≤ 12 := by
              rw [own_of i11 (by have := vcnt_le st i; omega)]
              have := vcnt_le st i
              omega
            show ai m7 (c + 9) k = _
            rw [a7 _ _ (by omega), A6, h5.val (by omega), A5, h4.1.ai (no 9 (by omega))]
            exact hS.2.2.2.2 k hk
          · have hq : q < p4 := by
              have h1 := (List.getElem?_eq_some_iff.mp hh).1
              rwa [rnk_len (fun h hh => (i10 h hh).2.2.1)] at h1
            show ai m7 (c + 5) q = _
            rw [a7 _ _ (by omega), A6, h5.ai_na (by omega), A5, R4 q hq]
            exact hRk q h hh
          · rw [fi_na (by omega), fi_na (by omega)]
        · have hp8 : p4 < 8 := by omega
          refine ih4 hn4 _ ⟨?_, ?_, ?_⟩
          · have t : ∀ j, j < 8 → fi m4 (100 + j) (ht o p4) = st (8 * p4 + 338 + j) := fun j hj => sH h4.1 p4 j hn4 hj
            have w0 := CF.nH (i := p4) 0 (8 * p4) h4 hp8 (by omega) (by omega) (t 0 (by omega))
            have w1 := CF.nH (i := p4) 1 (8 * p4 + 1) w0 hp8 (by omega) (by omega) (t 1 (by omega))
            have w2 := CF.nH (i := p4) 2 (8 * p4 + 2) w1 hp8 (by omega) (by omega) (t 2 (by omega))
            have w3 := CF.nH (i := p4) 3 (8 * p4 + 3) w2 hp8 (by omega) (by omega) (t 3 (by omega))
            have w4 := CF.nH (i := p4) 4 (8 * p4 + 4) w3 hp8 (by omega) (by omega) (t 4 (by omega))
            have w5 := CF.zH (i := p4) (x := 0) 5 (8 * p4 + 5) w4 hp8 (by omega) (by omega) hBH
            have w6 := CF.zH (i := p4) (x := 0) 6 (8 * p4 + 5) w5 hp8 (by omega) (by omega) hBH
            have w7 := CF.zH (i := p4) (x := 0) 7 (8 * p4 + 5) w6 hp8 (by omega) (by omega) hBH
            have w8 := CF.nH (i := p4) 5 (8 * p4 + 5) w7 hp8 (by omega) (by omega) (t 5 (by omega))
            have w9 := CF.nH (i := p4) 6 (8 * p4 + 6) w8 hp8 (by omega) (by omega) (t 6 (by omega))
            have w10 := CF.nH (i := p4) 7 (8 * p4 + 7) w9 hp8 (by omega) (by omega) (t 7 (by omega))
            exact w10.wai (by unfold CA; omega)
          · exact LkP L4 (fun f q hh => by
              rw [fi_wai]
              iterate 11 rw [fi_ne (by omega)])
          · intro q hq
            by_cases e : q = p4
            · subst e
              rw [ai_eq, h4.1.ai (no 5 (by omega))]
            · rw [ai_nk e]
              exact R4 q (by omega)
      · have hp6 : p3 < 6 := by omega
        have hBL : ∀ k, (fun k => k = 12 ∨ k = 13 ∨ (20 ≤ k ∧ k < 20 + 11 * i)) k → k < 296 := fun k hk => by dsimp only at hk; omega
        refine ih3 hn3 _ ⟨?_, ?_⟩
        · have t : ∀ j, j < 7 → fi m3 (300 + j) (lv o p3) = st (7 * p3 + 296 + j) := fun j hj => sL h3.1 p3 j hn3 hj
          have w0 := CF.nL (i := p3) 0 (7 * p3) h3 hp6 (by omega) (by omega) (t 0 (by omega))
          have w1 := CF.nL (i := p3) 1 (7 * p3 + 1) w0 hp6 (by omega) (by omega) (t 1 (by omega))
          have w2 := CF.nL (i := p3) 2 (7 * p3 + 2) w1 hp6 (by omega) (by omega) (t 2 (by omega))
          have w3 := CF.nL (i := p3) 3 (7 * p3 + 3) w2 hp6 (by omega) (by omega) (t 3 (by omega))
          have w4 := CF.nL (i := p3) 4 (7 * p3 + 4) w3 hp6 (by omega) (by omega) (t 4 (by omega))
          have w5 := CF.zL (i := p3) (x := 0) 5 (7 * p3 + 5) w4 hp6 (by omega) (by omega) hBL
          have w6 := CF.zL (i := p3) (x := 0) 6 (7 * p3 + 5) w5 hp6 (by omega) (by omega) hBL
          have w7 := CF.nL (i := p3) 5 (7 * p3 + 5) w6 hp6 (by omega) (by omega) (t 5 (by omega))
          exact CF.nL (i := p3) 6 (7 * p3 + 6) w7 hp6 (by omega) (by omega) (t 6 (by omega))
        · exact LkP L3 (fun f q hh => by iterate 9 rw [fi_ne (by omega)])
    · have hx : l[p]? = some l[p] := List.getElem?_eq_getElem hn2
      generalize l[p] = x at hx
      obtain ⟨x1, x2, x3⟩ := b3 p x hx
      have nolk : ¬ CA c (lk o p) := by
        have := no (31 + p) (by omega)
        unfold lk
        rwa [Nat.add_assoc]
      refine ih2 hn2 _ ⟨?_, ?_, ?_⟩
      · have k1 : ∀ k, k < 402 → flC k ≠ 200 := by decide +kernel
        have k2 : ∀ k, k < 402 → flC k ≠ 201 := by decide +kernel
        have k3 : ∀ k, k < 402 → flC k ≠ 202 := by decide +kernel
        exact ((h2.oo (by unfold CA lk; omega) k1).oo (by unfold CA lk; omega) k2).oo (by unfold CA lk; omega) k3
      · rw [fi_ne (by decide), fi_ne (by decide), fi_ne (by decide)]
        exact e6
      · intro q y hq hy
        by_cases e : q = p
        · subst e
          have e2 : y = x := Option.some.inj (hy.symm.trans hx)
          subst e2
          refine ⟨?_, ?_, ?_⟩
          · rw [fi_ne (by decide), fi_ne (by decide), fi_eq, h2.1.fi nolk]; exact x1
          · rw [fi_ne (by decide), fi_eq, h2.1.fi nolk]; exact x2
          · rw [fi_eq, h2.1.fi nolk]; exact x3
        · have ne : lk c q ≠ lk c p := by unfold lk; omega
          rw [fi_na ne, fi_na ne, fi_na ne, fi_na ne, fi_na ne, fi_na ne, fi_na ne, fi_na ne, fi_na ne]
          exact hl2 q y (by omega) hy
  · have hi12 : i < 12 := by omega
    have t : ∀ j, j < 11 → fi m1 (400 + j) (nd o i) = st (11 * i + 20 + j) := fun j hj => sN h1.1 i j hn1 hj
    have nB : ∀ p, ¬ (fun k => k = 12) (20 + p) := fun p => by dsimp only; omega
    have w0 := CF.nN (i := i) 0 (11 * i) h1 hi12 (by omega) (by omega) (nB _) (t 0 (by omega))
    have w1 := CF.nN (i := i) 1 (11 * i + 1) w0 hi12 (by omega) (by omega) (nB _) (t 1 (by omega))
    have w2 := CF.nN (i := i) 2 (11 * i + 2) w1 hi12 (by omega) (by omega) (nB _) (t 2 (by omega))
    have w3 := CF.nN (i := i) 3 (11 * i + 3) w2 hi12 (by omega) (by omega) (nB _) (t 3 (by omega))
    have w4 := CF.nN (i := i) 4 (11 * i + 4) w3 hi12 (by omega) (by omega) (nB _) (t 4 (by omega))
    have w5 := CF.nN (i := i) 5 (11 * i + 5) w4 hi12 (by omega) (by omega) (nB _) (t 5 (by omega))
    have w6 := CF.nN (i := i) 6 (11 * i + 6) w5 hi12 (by omega) (by omega) (nB _) (t 6 (by omega))
    have w7 := CF.nN (i := i) 7 (11 * i + 7) w6 hi12 (by omega) (by omega) (nB _) (t 7 (by omega))
    have w8 := CF.nN (i := i) 8 (11 * i + 8) w7 hi12 (by omega) (by omega) (nB _) (t 8 (by omega))
    have w9 := CF.nN (i := i) 9 (11 * i + 9) w8 hi12 (by omega) (by omega) (nB _) (t 9 (by omega))
    have w10 := CF.nN (i := i) 10 (11 * i + 10) w9 hi12 (by omega) (by omega) (nB _) (t 10 (by omega))
    exact ih1 hn1 _ w10
end CCOPY
