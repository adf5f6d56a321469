/-! THE CLASS: helpers, and what a craft stands for -/
def limF (v x y : Int64) : Int64 := if v < x then x else if y < v then y else v
def quoF (v x : Int64) : Int64 := if x = 0 then 0 else v / x
section CROWS
variable {G : Cx} {d : Nat} {b : Nat × Nat} {μ : MI} {pc idx : Nat} {L S : List Value} {m : Mm} {Q : Option Value → Mm → Prop}
theorem M_lim {v x y : Int64} (k : Q (some (.long (limF v x y))) m) : WPM G d (0, 0) μX10_limited [.long v, .long x, .long y] m Q := by
  have h : WPM G (d + 0) (0, 0) μX10_limited [.long v, .long x, .long y] m Q := by
    refine WPM.of pX10 (Nat.le_of_ble_eq_true rfl) rfl ?_
    refine wp_lload_n dX10_limited_0 rfl ?_
    refine wp_lload_n dX10_limited_1 rfl ?_
    refine wp_lc_ge 10 dX10_limited_2 dX10_limited_3 (by decide) (fun q1 => ?_) (fun q2 => ?_)
    · refine wp_lload_n dX10_limited_10 rfl ?_
      refine wp_lload dX10_limited_11 rfl ?_
      refine wp_lc_le 22 dX10_limited_13 dX10_limited_14 (by decide) (fun q3 => ?_) (fun q4 => ?_)
      · refine wp_lload_n dX10_limited_22 rfl ?_
        refine wp_lret dX10_limited_23 rfl ?_
        unfold limF at k
        rw [if_neg q1, if_neg q3] at k
        exact k
      · refine wp_lload dX10_limited_17 rfl ?_
        refine wp_goto 23 dX10_limited_19 (by decide) ?_
        refine wp_lret dX10_limited_23 rfl ?_
        unfold limF at k
        rw [if_neg q1, if_pos q4] at k
        exact k
    · refine wp_lload_n dX10_limited_6 rfl ?_
      refine wp_goto 23 dX10_limited_7 (by decide) ?_
      refine wp_lret dX10_limited_23 rfl ?_
      unfold limF at k
      rw [if_pos q2] at k
      exact k
  exact h
theorem M_quo {v x : Int64} (k : Q (some (.long (quoF v x))) m) : WPM G d (0, 0) μX10_quotient [.long v, .long x] m Q := by
  have h : WPM G (d + 0) (0, 0) μX10_quotient [.long v, .long x] m Q := by
    refine WPM.of pX10 (Nat.le_of_ble_eq_true rfl) rfl ?_
    refine wp_lload_n dX10_quotient_0 rfl ?_
    refine wp_lconst (0 : Int64) dX10_quotient_1 (by decide) ?_
    refine wp_lc_ne 10 dX10_quotient_2 dX10_quotient_3 (by decide) (fun q1 => ?_) (fun q2 => ?_)
    · refine wp_lload_n dX10_quotient_10 rfl ?_
      refine wp_lload_n dX10_quotient_11 rfl ?_
      refine wp_ldiv dX10_quotient_12 q1 ?_
      refine wp_lret dX10_quotient_13 rfl ?_
      unfold quoF at k
      rw [if_neg q1] at k
      exact k
    · refine wp_lconst (0 : Int64) dX10_quotient_6 (by decide) ?_
      refine wp_goto 13 dX10_quotient_7 (by decide) ?_
      refine wp_lret dX10_quotient_13 rfl ?_
      unfold quoF at k
      rw [if_pos q2] at k
      exact k
  exact h
theorem b00 (b : Nat × Nat) : b = ((0 : Nat) + b.1, (0 : Nat) + b.2) := by
  obtain ⟨x, y⟩ := b
  simp
theorem wp_limFS {v x y : Int64} (hd : decode μ.2.1 pc = .ok (.invokestatic idx, 3)) (hl : MLs μ.1.cls idx μX10_limited 3) (hw : (S.map fun v => v.category).sum ≤ 8) (k : WP G (d + 1) b μ (pc + 3) L (.long (limF v x y) :: S) m Q) : WP G (d + 1) b μ pc L (.long y :: .long x :: .long v :: S) m Q :=
  wp_callS (As := [.long v, .long x, .long y]) (S := S) (b' := (0, 0)) (b := b) hd hl rfl (b00 b) hw (M_lim k)
theorem wp_limFN {host : String} {v x y : Int64} (hd : decode μ.2.1 pc = .ok (.invokestatic idx, 3)) (hl : NLs μ.1.cls idx μX10_limited 3 host) (hw : (S.map fun v => v.category).sum ≤ 8) (k : WP G (d + 1) b μ (pc + 3) L (.long (limF v x y) :: S) m Q) : WP G (d + 1) b μ pc L (.long y :: .long x :: .long v :: S) m Q :=
  wp_callSN (As := [.long v, .long x, .long y]) (S := S) (b' := (0, 0)) (b := b) hd hl rfl (b00 b) hw (M_lim k)
theorem wp_quoFN {host : String} {v x : Int64} (hd : decode μ.2.1 pc = .ok (.invokestatic idx, 3)) (hl : NLs μ.1.cls idx μX10_quotient 2 host) (hw : (S.map fun v => v.category).sum ≤ 8) (k : WP G (d + 1) b μ (pc + 3) L (.long (quoF v x) :: S) m Q) : WP G (d + 1) b μ pc L (.long x :: .long v :: S) m Q :=
  wp_callSN (As := [.long v, .long x]) (S := S) (b' := (0, 0)) (b := b) hd hl rfl (b00 b) hw (M_quo k)
end CROWS
theorem limF_eq {v x y : Int64} (h : ¬ y < x) : limF v x y = lmax x (lmin y v) := by
  unfold limF lmax lmin
  simp only [Int64.lt_iff_toInt_lt] at *
  repeat' split
  all_goals first | rfl | (exfalso; omega) | exact Int64.toInt_inj.mp (by omega)
theorem quoF_eq {v x : Int64} (h : ¬ x = 0) : quoF v x = v / x := if_neg h
/-- which field of which cell of a craft the state's place k is -/
def flC (k : Nat) : Nat := if k = 0 then 14 else if k = 1 then 13 else if k < 8 then 498 + k else if k < 12 then 892 + k else if k = 12 then 5 else if k = 13 then 7 else if k = 14 then 8 else if k = 15 then 808 else if k = 16 then 601 else if k = 17 then 602 else if k < 152 then 400 + (k - 20) % 11 else if k < 338 then 300 + (k - 296) % 7 else 100 + (k - 338) % 8
def ofC (k : Nat) : Nat := if k < 2 then 0 else if k < 8 then 6 else if k < 12 then 7 else if k < 15 then 0 else if k = 15 then 10 else if k < 18 then 8 else if k < 152 then 19 + (k - 20) / 11 else if k < 338 then 55 + (k - 296) / 7 else 61 + (k - 338) / 8
def VK (k : Nat) : Prop := k < 18 ∨ (20 ≤ k ∧ k < 152) ∨ (296 ≤ k ∧ k < 402)
def vkI (f o : Nat) : Nat := if f = 14 then 0 else if f = 13 then 1 else if f = 5 then 12 else if f = 7 then 13 else if f = 8 then 14 else if f = 808 then 15 else if f = 601 then 16 else if f = 602 then 17 else if 900 ≤ f then f - 892 else if 500 ≤ f then f - 498 else if 400 ≤ f then 20 + 11 * (o - 19) + (f - 400) else if 300 ≤ f then 296 + 7 * (o - 55) + (f - 300) else 338 + 8 * (o - 61) + (f - 100)
theorem vk_ok1 : ∀ k, k < 402 → k < 18 ∨ 20 ≤ k → k < 152 ∨ 296 ≤ k → vkI (flC k) (ofC k) = k ∧ ¬ flC k = 6 ∧ ofC k < 69 := by decide +kernel
def okO (o : Nat) : Bool := o == 0 || o == 6 || o == 7 || o == 8 || (Nat.ble 19 o && Nat.blt o 31) || (Nat.ble 55 o && Nat.blt o 69)
theorem okO_ok : ∀ o, o < 69 → okO o = true → (o < 9 ∨ 19 ≤ o) ∧ (o < 31 ∨ 55 ≤ o) ∧ (o = 0 ∨ 6 ≤ o) := by decide +kernel
theorem vk_ok2 : ∀ k, k < 402 → k < 18 ∨ 20 ≤ k → k < 152 ∨ 296 ≤ k → k = 15 ∨ okO (ofC k) = true := by decide +kernel
theorem vk_ok (k : Nat) (h1 : k < 402) (h2 : k < 18 ∨ (20 ≤ k ∧ k < 152) ∨ (296 ≤ k ∧ k < 402)) : vkI (flC k) (ofC k) = k ∧ flC k ≠ 6 ∧ ofC k < 69 ∧ (k ≠ 15 → ofC k = 0 ∨ ofC k = 6 ∨ ofC k = 7 ∨ ofC k = 8 ∨ (19 ≤ ofC k ∧ ofC k < 31) ∨ (55 ≤ ofC k ∧ ofC k < 69)) := by
  have a : k < 18 ∨ 20 ≤ k := by omega
  have b : k < 152 ∨ 296 ≤ k := by omega
  refine ⟨(vk_ok1 k h1 a b).1, (vk_ok1 k h1 a b).2.1, (vk_ok1 k h1 a b).2.2, fun h => ?_⟩
  have h69 := (vk_ok1 k h1 a b).2.2
  have := okO_ok _ (vk_ok1 k h1 a b).2.2 ((vk_ok2 k h1 a b).resolve_left h)
  omega
theorem VK.lt {k : Nat} (h : VK k) : k < 402 := by
  unfold VK at h
  omega
theorem flN : ∀ i, i < 12 → ∀ j, j < 11 → flC (11 * i + 20 + j) = 400 + j ∧ ofC (11 * i + 20 + j) = 19 + i := by decide +kernel
theorem flL : ∀ i, i < 6 → ∀ j, j < 7 → flC (7 * i + 296 + j) = 300 + j ∧ ofC (7 * i + 296 + j) = 55 + i := by decide +kernel
theorem flH : ∀ i, i < 8 → ∀ j, j < 8 → flC (8 * i + 338 + j) = 100 + j ∧ ofC (8 * i + 338 + j) = 61 + i := by decide +kernel
/-- the cells of a craft that a step may write -/
def SA (c a : Nat) : Prop := a = c ∨ a = c + 6 ∨ a = c + 7 ∨ a = c + 8 ∨ a = c + 9 ∨ a = c + 18 ∨ (c + 19 ≤ a ∧ a < c + 31) ∨ (c + 55 ≤ a ∧ a < c + 69)
/-- what a step keeps besides: the number of links, the remembered temperatures -/
def K6 (m m0 : Mm) (c : Nat) : Prop := fi m 6 c = fi m0 6 c ∧ ∀ i, fi m 416 (nd c i) = fi m0 416 (nd c i)
theorem K6.rf {m : Mm} {c : Nat} : K6 m m c := ⟨rfl, fun _ => rfl⟩
theorem K6.wfi {m m0 : Mm} {c f a : Nat} {x : Int32} (h1 : f ≠ 6) (h2 : f ≠ 416) (h : K6 m m0 c) : K6 (wfi m f a x) m0 c := ⟨(fi_ne (Ne.symm h1)).trans h.1, fun i => (fi_ne (Ne.symm h2)).trans (h.2 i)⟩
theorem vk_ok3 : ∀ k, k < 402 → flC k ≠ 416 := by decide +kernel
/-- the craft c in m stands for (st, en) on the places D; the rest is as in m0 -/
def CS (m0 m : Mm) (c : Nat) (D : Nat → Prop) (st : Nat → Int32) (en : Nat → Int64) : Prop :=
  Out (SA c) m m0 ∧ K6 m m0 c ∧ (∀ k, VK k → D k → fi m (flC k) (c + ofC k) = st k) ∧ (fl m 603 (c + 8) = en 0 ∧ fl m 604 (c + 8) = en 1 ∧ fl m 605 (c + 8) = en 2) ∧ ∀ k, k < own st 16 → ai m (c + 9) k = st (402 + k)
section CREL
variable {G : Cx} {m0 m : Mm} {c : Nat} {D D' : Nat → Prop} {st st' : Nat → Int32} {en : Nat → Int64}
theorem CS.mono (h : CS m0 m c D st en) (hD : ∀ k, D' k → D k) : CS m0 m c D' st en := ⟨h.1, h.2.1, fun k h1 h2 => h.2.2.1 k h1 (hD k h2), h.2.2.2⟩
theorem CS.eqv (h : CS m0 m c D st en) (e : st' = st) : CS m0 m c D st' en := by
  rw [e]
  exact h
theorem CS.rG (h : CS m0 m c D st en) (k : Nat) {f o : Nat} (hf : flC k = f) (ho : ofC k = o) (hk : VK k) (hD : D k) : fi m f (c + o) = st k := by
  subst hf
  subst ho
  exact h.2.2.1 k hk hD
theorem CS.rN (h : CS m0 m c D st en) {i : Nat} (j : Nat) (hi : i < 12) (hj : j < 11) (hD : D (11 * i + 20 + j)) : fi m (400 + j) (nd c i) = st (11 * i + 20 + j) := by
  obtain ⟨e1, e2⟩ := flN i hi j hj
  have := h.rG _ e1 e2 (by unfold VK; omega) hD
  rwa [← Nat.add_assoc] at this
theorem CS.rL (h : CS m0 m c D st en) {i : Nat} (j : Nat) (hi : i < 6) (hj : j < 7) (hD : D (7 * i + 296 + j)) : fi m (300 + j) (lv c i) = st (7 * i + 296 + j) := by
  obtain ⟨e1, e2⟩ := flL i hi j hj
  have := h.rG _ e1 e2 (by unfold VK; omega) hD
  rwa [← Nat.add_assoc] at this
theorem CS.rH (h : CS m0 m c D st en) {i : Nat} (j : Nat) (hi : i < 8) (hj : j < 8) (hD : D (8 * i + 338 + j)) : fi m (100 + j) (ht c i) = st (8 * i + 338 + j) := by
  obtain ⟨e1, e2⟩ := flH i hi j hj
  have := h.rG _ e1 e2 (by unfold VK; omega) hD
  rwa [← Nat.add_assoc] at this
theorem CS.w (h : CS m0 m c D st en) (k0 : Nat) {f o : Nat} {x : Int32} (hf : flC k0 = f) (ho : ofC k0 = o) (hk : VK k0) (h15 : k0 ≠ 15) (h16 : k0 ≠ 16) (hD : ∀ k, D' k → D k ∨ k = k0) : CS m0 (wfi m f (c + o) x) c D' (upd st k0 x) en := by
  subst hf
  subst ho
  obtain ⟨hO, h6, hs, he, hv⟩ := h
  obtain ⟨v1, v2, v3, v4⟩ := vk_ok k0 hk.lt (by unfold VK at hk; exact hk)
  refine ⟨hO.wfi ?_, K6.wfi v2 (vk_ok3 k0 hk.lt) h6, fun k hk' hd => ?_, he, fun k hk' => ?_⟩
  · have := v4 h15
    unfold SA
    omega
  · by_cases e : k = k0
    · subst e
      rw [fi_eq, upd_eq]
    · obtain ⟨w1, -⟩ := vk_ok k hk'.lt (by unfold VK at hk'; exact hk')
      rw [upd_ne e, ← hs k hk' ((hD k hd).resolve_right e)]
      by_cases e1 : flC k = flC k0
      · refine fi_na (fun z => e ?_)
        rw [← w1, ← v1, e1, show ofC k = ofC k0 by omega]
      · exact fi_ne e1
  · have e1 : own (upd st k0 x) 16 = own st 16 := by unfold own; rw [upd_ne (Ne.symm h16)]
    have := hk.lt
    rw [upd_ne (by omega)]
    exact hv k (by rw [e1] at hk'; exact hk')
theorem CS.wN (h : CS m0 m c D st en) {i : Nat} {x : Int32} (j : Nat) (hi : i < 12) (hj : j < 11) (hD : ∀ k, D' k → D k ∨ k = 11 * i + 20 + j) : CS m0 (wfi m (400 + j) (nd c i) x) c D' (upd st (11 * i + 20 + j) x) en := by
  obtain ⟨e1, e2⟩ := flN i hi j hj
  have := h.w (x := x) (D' := D') _ e1 e2 (by unfold VK; omega) (by omega) (by omega) hD
  rwa [← Nat.add_assoc] at this
theorem CS.wL (h : CS m0 m c D st en) {i : Nat} {x : Int32} (j : Nat) (hi : i < 6) (hj : j < 7) (hD : ∀ k, D' k → D k ∨ k = 7 * i + 296 + j) : CS m0 (wfi m (300 + j) (lv c i) x) c D' (upd st (7 * i + 296 + j) x) en := by
  obtain ⟨e1, e2⟩ := flL i hi j hj
  have := h.w (x := x) (D' := D') _ e1 e2 (by unfold VK; omega) (by omega) (by omega) hD
  rwa [← Nat.add_assoc] at this
theorem CS.wH (h : CS m0 m c D st en) {i : Nat} {x : Int32} (j : Nat) (hi : i < 8) (hj : j < 8) (hD : ∀ k, D' k → D k ∨ k = 8 * i + 338 + j) : CS m0 (wfi m (100 + j) (ht c i) x) c D' (upd st (8 * i + 338 + j) x) en := by
  obtain ⟨e1, e2⟩ := flH i hi j hj
  have := h.w (x := x) (D' := D') _ e1 e2 (by unfold VK; omega) (by omega) (by omega) hD
  rwa [← Nat.add_assoc] at this
/-- the flows of a node, which stand for nothing -/
theorem CS.wF (h : CS m0 m c D st en) {i : Nat} {x : Int64} (f : Nat) (hi : i < 12) (hf : f < 603) : CS m0 (wfl m f (nd c i) x) c D st en := by
  obtain ⟨hO, h6, hs, ⟨h1, h2, h3⟩, hv⟩ := h
  refine ⟨hO.wfl ?_, h6, hs, ⟨(fl_ne (by omega)).trans h1, (fl_ne (by omega)).trans h2, (fl_ne (by omega)).trans h3⟩, hv⟩
  unfold SA nd
  omega
theorem CS.e0 (h : CS m0 m c D st en) (x : Int64) : CS m0 (wfl m 603 (c + 8) x) c D st (vp_updL en 0 x) := by
  obtain ⟨hO, h6, hs, ⟨h1, h2, h3⟩, hv⟩ := h
  exact ⟨hO.wfl (by unfold SA; omega), h6, hs, ⟨fl_eq, (fl_ne (by decide)).trans h2, (fl_ne (by decide)).trans h3⟩, hv⟩
theorem CS.e1 (h : CS m0 m c D st en) (x : Int64) : CS m0 (wfl m 604 (c + 8) x) c D st (vp_updL en 1 x) := by
  obtain ⟨hO, h6, hs, ⟨h1, h2, h3⟩, hv⟩ := h
  exact ⟨hO.wfl (by unfold SA; omega), h6, hs, ⟨(fl_ne (by decide)).trans h1, fl_eq, (fl_ne (by decide)).trans h3⟩, hv⟩
theorem CS.e2 (h : CS m0 m c D st en) (x : Int64) : CS m0 (wfl m 605 (c + 8) x) c D st (vp_updL en 2 x) := by
  obtain ⟨hO, h6, hs, ⟨h1, h2, h3⟩, hv⟩ := h
  exact ⟨hO.wfl (by unfold SA; omega), h6, hs, ⟨(fl_ne (by decide)).trans h1, (fl_ne (by decide)).trans h2, fl_eq⟩, hv⟩
/-- a violator more -/
theorem CS.vio (h : CS m0 m c D st en) {v : Nat} {x : Int32} (hv : st 16 = nI v) (h12 : v < 12) : CS m0 (wfi (wai m (c + 9) v x) 601 (c + 8) (nI (v + 1))) c D (upd (upd st (v + 402) x) 16 (nI (v + 1))) en := by
  obtain ⟨hO, h6, hs, he, hw⟩ := h
  have eo : own st 16 = v := own_of hv (by omega)
  refine ⟨(hO.wai (by unfold SA; omega)).wfi (by unfold SA; omega), K6.wfi (by decide) (by decide) h6, fun k hk hd => ?_, he, fun k hk => ?_⟩
  · by_cases e : k = 16
    · subst e
      rw [upd_eq]
      exact fi_eq
    · have hlt := hk.lt
      rw [upd_ne e, upd_ne (by omega), ← hs k hk hd]
      obtain ⟨w1, -⟩ := vk_ok k hk.lt (by unfold VK at hk; exact hk)
      by_cases e1 : flC k = 601
      · refine (fi_na (fun z => e ?_)).trans rfl
        rw [← w1, e1]
        rfl
      · exact (fi_ne e1).trans rfl
  · have e1 : own (upd (upd st (v + 402) x) 16 (nI (v + 1))) 16 = v + 1 := own_of upd_eq (by omega)
    rw [e1] at hk
    by_cases e : k = v
    · subst e
      rw [upd_ne (by omega), show k + 402 = 402 + k by omega, upd_eq]
      exact ai_eq
    · rw [upd_ne (by omega), upd_ne (by omega), ← hw k (by omega)]
      exact ai_nk e
end CREL
def UD (n nl nh k : Nat) : Prop := k < 18 ∨ (20 ≤ k ∧ k < 20 + 11 * n) ∨ (296 ≤ k ∧ k < 296 + 7 * nl) ∨ (338 ≤ k ∧ k < 338 + 8 * nh)
/-- the same without the states of the heaters in l -/
def UX (n nl nh : Nat) (l : List Nat) (k : Nat) : Prop := UD n nl nh k ∧ ∀ h ∈ l, k ≠ 8 * h + 345
theorem upd_cm {st : Nat → Int32} {a b : Nat} {x y : Int32} (h : a ≠ b) : upd (upd st a x) b y = upd (upd st b y) a x := by
  funext j
  by_cases h1 : j = a
  · subst h1
    rw [upd_ne h, upd_eq, upd_eq]
  · by_cases h2 : j = b
    · subst h2
      rw [upd_eq, upd_ne h1, upd_eq]
    · rw [upd_ne h2, upd_ne h1, upd_ne h1, upd_ne h2]
theorem CS.ign {m0 m : Mm} {c : Nat} {D : Nat → Prop} {st : Nat → Int32} {en : Nat → Int64} (h : CS m0 m c D st en) {k0 : Nat} {x : Int32} (h1 : ¬ D k0) (h2 : k0 ≠ 16) (h3 : k0 < 402) : CS m0 m c D (upd st k0 x) en := by
  obtain ⟨hO, h6, hs, he, hv⟩ := h
  refine ⟨hO, h6, fun k hk hd => ?_, he, fun k hk => ?_⟩
  · have hne : k ≠ k0 := fun z => h1 (by rw [← z]; exact hd)
    rw [upd_ne hne]
    exact hs k hk hd
  · have e1 : own (upd st k0 x) 16 = own st 16 := by unfold own; rw [upd_ne (Ne.symm h2)]
    rw [upd_ne (by omega)]
    exact hv k (by rw [e1] at hk; exact hk)
def Iv (T : Int) (st : Nat → Int32) (n nl nh : Nat) : Prop := Inv T st n nl nh ∧ ∀ h, h < nh → st (8 * h + 343) = 0 ∨ st (8 * h + 343) = 1 ∨ st (8 * h + 343) = 2
/-- the heaters by priority -/
def rnk (st : Nat → Int32) (nh : Nat) : List Nat := (List.range 10).flatMap (fun k => (List.range nh).filter (fun h => decide (st (8 * h + 342) = 9 - nI k)))
theorem rnk_lt {st : Nat → Int32} {nh h : Nat} (hh : h ∈ rnk st nh) : h < nh := by
  unfold rnk at hh
  rw [List.mem_flatMap] at hh
  obtain ⟨k, -, hk⟩ := hh
  exact List.mem_range.mp (List.mem_filter.mp hk).1
theorem rnk_eq {s s' : Nat → Int32} {nh : Nat} (h : ∀ j, j < nh → s' (8 * j + 342) = s (8 * j + 342)) : rnk s' nh = rnk s nh := by
  unfold rnk
  congr 1
  funext k
  apply List.filter_congr
  intro j hj
  rw [h j (List.mem_range.mp hj)]
theorem pri_k {x : Int32} (h : rg x 0 9) : ∃ k, k < 10 ∧ x = 9 - nI k := by
  have h1 := h.1
  have h2 := h.2
  refine ⟨(9 - x.toInt).toNat, by omega, ?_⟩
  have key : ∀ k, k < 10 → (9 - nI k : Int32).toInt = 9 - (k : Int) := by decide +kernel
  apply Int32.toInt_inj.mp
  rw [key _ (by omega)]
  omega
theorem pri_inj : ∀ a, a < 10 → ∀ b, b < 10 → (9 - nI a : Int32) = 9 - nI b → a = b := by decide +kernel
theorem rnk_mem {st : Nat → Int32} {nh h : Nat} (hp : rg (st (8 * h + 342)) 0 9) (hh : h < nh) : h ∈ rnk st nh := by
  obtain ⟨k, hk, e⟩ := pri_k hp
  unfold rnk
  rw [List.mem_flatMap]
  exact ⟨k, List.mem_range.mpr hk, List.mem_filter.mpr ⟨List.mem_range.mpr hh, by rw [decide_eq_true_eq]; exact e⟩⟩
theorem rnk_nodup (st : Nat → Int32) (nh : Nat) : (rnk st nh).Nodup := by
  unfold rnk
  rw [List.nodup_iff_pairwise_ne, List.pairwise_flatMap]
  refine ⟨fun k _ => ?_, ?_⟩
  · exact List.Nodup.sublist List.filter_sublist List.nodup_range
  · have : (List.range 10).Pairwise (fun a b => a < b ∧ a < 10 ∧ b < 10) := by decide
    refine this.imp (fun {a b} hab x hx y hy => ?_)
    intro e
    subst e
    have h1 := (List.mem_filter.mp hx).2
    have h2 := (List.mem_filter.mp hy).2
    rw [decide_eq_true_eq] at h1 h2
    have := pri_inj a hab.2.1 b hab.2.2 (h1.symm.trans h2)
    omega
