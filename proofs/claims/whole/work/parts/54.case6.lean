/-! THE LAW'S CASE 34: RECORDS -/
theorem CS.z16 {m0 m : Mm} {c : Nat} {D : Nat → Prop} {st : Nat → Int32} {en : Nat → Int64} (h : CS m0 m c D st en) : CS m0 (wfi m 601 (c + 8) 0) c D (upd st 16 0) en := by
  obtain ⟨hO, h6, hs, he, hw⟩ := h
  refine ⟨hO.wfi (by unfold SA; omega), K6.wfi (by decide) (by decide) h6, fun k hk hd => ?_, he, fun k hk => ?_⟩
  · by_cases e : k = 16
    · subst e
      rw [upd_eq]
      exact fi_eq
    · rw [upd_ne e, ← hs k hk hd]
      obtain ⟨w1, -⟩ := vk_ok k hk.lt (by unfold VK at hk; exact hk)
      by_cases e1 : flC k = 601
      · refine fi_na (fun z => e ?_)
        rw [← w1, e1]
        rfl
      · exact fi_ne e1
  · have e1 : own (upd st 16 0) 16 = 0 := own_of (o := 0) upd_eq (by omega)
    rw [e1] at hk
    omega
def rrF (st : Nat → Int32) : Nat → Nat → Int32
  | 0 => st
  | j + 1 => upd (upd (upd (upd (rrF st j) (11 * j + 27) (st (11 * j + 21))) (11 * j + 28) (st (11 * j + 21))) (11 * j + 29) 0) (11 * j + 30) (-1)
theorem rrF_s (st : Nat → Int32) (j : Nat) : rrF st (j + 1) = upd (upd (upd (upd (rrF st j) (11 * j + 27) (st (11 * j + 21))) (11 * j + 28) (st (11 * j + 21))) (11 * j + 29) 0) (11 * j + 30) (-1) := rfl
theorem rrF_ne {st : Nat → Int32} {k : Nat} : ∀ j, (∀ i, i < j → k < 11 * i + 27 ∨ 11 * i + 30 < k) → rrF st j k = st k
  | 0, _ => rfl
  | j + 1, h => by
    have := h j (by omega)
    rw [rrF_s, upd_ne (by omega), upd_ne (by omega), upd_ne (by omega), upd_ne (by omega)]
    exact rrF_ne j (fun i hi => h i (by omega))
theorem rrF_z {st : Nat → Int32} : ∀ j i, i < j → rrF st j (11 * i + 29) = 0 ∧ rrF st j (11 * i + 30) = -1
  | 0, i, h => by omega
  | j + 1, i, h => by
    rw [rrF_s]
    by_cases e : i = j
    · subst e
      exact ⟨by rw [upd_ne (by omega), upd_eq], by rw [upd_eq]⟩
    · rw [upd_ne (by omega), upd_ne (by omega), upd_ne (by omega), upd_ne (by omega), upd_ne (by omega), upd_ne (by omega), upd_ne (by omega), upd_ne (by omega)]
      exact rrF_z j i (by omega)
theorem rrF_cm {st : Nat → Int32} {k : Nat} {x : Int32} (hk : k < 20) : ∀ j, rrF (upd st k x) j = upd (rrF st j) k x
  | 0 => rfl
  | j + 1 => by
    rw [rrF_s, rrF_s, rrF_cm hk j, upd_ne (by omega), upd_cm (a := k) (by omega), upd_cm (a := k) (by omega), upd_cm (a := k) (by omega), upd_cm (a := k) (by omega)]
def rrS (st : Nat → Int32) (n : Nat) : Nat → Int32 := rrF (upd (upd st 16 0) 17 0) n
theorem rrS_ne {st : Nat → Int32} {n k : Nat} (hn : n ≤ 12) (h : k < 16 ∨ (18 ≤ k ∧ k < 20) ∨ 152 ≤ k) : rrS st n k = st k := by
  unfold rrS
  rw [rrF_ne n (fun i hi => by omega), upd_ne (by omega), upd_ne (by omega)]
theorem rrS_n {st : Nat → Int32} {n i j : Nat} (hj : j < 7) : rrS st n (11 * i + 20 + j) = st (11 * i + 20 + j) := by
  unfold rrS
  rw [rrF_ne n (fun i hi => by omega), upd_ne (by omega), upd_ne (by omega)]
theorem vcnt_z {st : Nat → Int32} : ∀ n, (∀ j, j < n → st (11 * j + 29) = 0) → vcnt st n = 0
  | 0, _ => rfl
  | n + 1, h => by
    show vcnt st n + (if st (11 * n + 29) = 0 then 0 else 1) = 0
    rw [if_pos (h n (by omega)), vcnt_z n (fun j hj => h j (by omega))]
theorem Iv_rr {T : Int} {st : Nat → Int32} {n nl nh : Nat} (h : Iv T st n nl nh) : Iv T (rrS st n) n nl nh := by
  obtain ⟨⟨i1, i2, i3, i4, i5, i6, ⟨j1, j2, j3, j4, j5, j6, j7⟩, i8, i9, i10, i11⟩, i12⟩ := h
  have e : ∀ k, (k < 16 ∨ (18 ≤ k ∧ k < 20) ∨ 152 ≤ k) → rrS st n k = st k := fun k hk => rrS_ne i2 hk
  refine ⟨⟨(e 12 (by omega)).trans i1, i2, (e 13 (by omega)).trans i3, i4, (e 14 (by omega)).trans i5, i6, ⟨?_, ?_, ?_, ?_, ?_, ?_, ?_⟩, fun i hi => ?_, fun i hi => ?_, fun i hi => ?_, ?_⟩, fun i hi => ?_⟩
  · rw [e 0 (by omega)]; exact j1
  · rw [e 1 (by omega)]; exact j2
  · rw [e 2 (by omega)]; exact j3
  · rw [e 8 (by omega)]; exact j4
  · rw [e 9 (by omega)]; exact j5
  · rw [e 10 (by omega)]; exact j6
  · rw [e 11 (by omega), e 10 (by omega)]; exact j7
  · obtain ⟨a, b, -, -⟩ := i8 i hi
    obtain ⟨z1, z2⟩ := rrF_z (st := upd (upd st 16 0) 17 0) n i hi
    unfold InvN
    rw [show rrS st n (11 * i + 29) = 0 from z1, show rrS st n (11 * i + 30) = -1 from z2, show rrS st n (11 * i + 20) = st (11 * i + 20) from rrS_n (j := 0) (by omega), show rrS st n (11 * i + 21) = st (11 * i + 21) from rrS_n (j := 1) (by omega), e 0 (by omega)]
    exact ⟨a, b, ⟨by decide, j1.1⟩, ⟨fun _ => rfl, fun _ => rfl⟩⟩
  · have := i9 i hi
    unfold InvL at this ⊢
    rw [e (7 * i + 296) (by omega), e (7 * i + 298) (by omega), e (7 * i + 299) (by omega), e (7 * i + 300) (by omega), e (7 * i + 302) (by omega)]
    exact this
  · have := i10 i hi
    unfold InvH at this ⊢
    rw [e (8 * i + 338) (by omega), e (8 * i + 339) (by omega), e (8 * i + 342) (by omega), e (8 * i + 344) (by omega)]
    exact this
  · rw [vcnt_z (st := rrS st n) n (fun j hj => (rrF_z (st := upd (upd st 16 0) 17 0) n j hj).1)]
    unfold rrS
    rw [rrF_ne n (fun i hi => by omega), upd_ne (by omega), upd_eq]
    rfl
  · rw [e _ (by omega)]
    exact i12 i hi
def rrE (en : Nat → Int64) : Nat → Int64 := vp_updL (vp_updL (vp_updL en 0 0) 1 0) 2 0
theorem K_34 {G : Cx} {d i : Nat} {m : Mm} {A : Ab} {Q : Option Value → Mm → Prop} (hL : LIv G m A) (hi : i + 7 ≤ gSl G) (hl : gSl G < 4000) (next : ∀ m' A', LIv G m' A' → WP G (d + 100) (0, 0) μL_law 18 [.ref (gSa G), .ref (gB G), .ref (gB G + 293), .int (nI (i + 7))] [] m' Q) : WP G (d + 100) (0, 0) μL_law 1254 [.ref (gSa G), .ref (gB G), .ref (gB G + 293), .int (nI i)] [] m Q := by
  obtain ⟨n5, n12, h12⟩ := hL.nn
  have r16 : fi m 601 (gB G + 1 + 8) = ai m (gB G + 294) 16 := hL.rd (k := 16) rfl rfl (by unfold VK; omega) (by unfold UD; omega)
  refine bL_34a hL.1 hi hl (eC_rr hL.1 ?_)
  have hS0 : CS m _ (gB G + 1) (UD (sN (aS A)) (sL (aS A)) (sH (aS A))) (upd (upd (sS (aS A)) 16 0) 17 0) (rrE (sE (aS A))) := ((((hL.CS.z16).w (x := 0) 17 rfl rfl (by unfold VK; omega) (by omega) (by omega) (fun k hk => Or.inl hk)).e0 0).e1 0).e2 0
  refine loopN (n := sN (aS A)) (P := fun j m1 => CS m m1 (gB G + 1) (UD (sN (aS A)) (sL (aS A)) (sH (aS A))) (rrF (upd (upd (sS (aS A)) 16 0) 17 0) j) (rrE (sE (aS A)))) (W := fun j m1 => WP G (d + 99) (0, 0) μX10_resetRecords 23 [.ref (gB G), .int (fi m 601 ((gB G + 1) + 8)), .int (nI j)] [] m1 (fun r' m' => WP G (d + 100) (0, 0) μL_law 1258 [.ref (gSa G), .ref (gB G), .ref (gB G + 293), .int (nI i)] (r'.toList ++ []) m' Q)) ?_ 0 (by omega) _ hS0
  intro j m1 hj hS ih
  have hF1 := hS.full hL.1
  have n5' : fi m1 5 (gB G + 1) = nI (sN (aS A)) := by
    refine (hS.rG 12 rfl rfl (by unfold VK; omega) (by unfold UD; omega)).trans ?_
    rw [rrF_ne j (fun i hi => by omega), upd_ne (by omega), upd_ne (by omega)]
    exact hL.iv.1.1
  refine bC_rr hF1 n5' h12 hj (fun z => ?_) (fun z => ?_)
  · have ej : j = sN (aS A) := by omega
    subst ej
    have hO : Out (CT G) m1 m := hS.1.mono (fun a ha => SA_CT ha)
    refine bL_34b hF1 hi hl (eM_rr hF1 ?_)
    have e16 : ai m1 (gB G + 294) 16 = fi m 601 (gB G + 1 + 8) := (hO.ai (by unfold CT; omega) 16).trans r16.symm
    rw [e16]
    have r1 := (hL.2.2.1.cls (hO.mono (fun a ha => CT_CC ha))).MS hF1
    refine loopN (n := sN (aS A)) (P := fun j m2 => MS G m1 m2 (rrF (sS (aS A)) j) (sE (aS A))) (W := fun j m2 => WP G (d + 99) (0, 0) μX11_resetRecords 10 [.ref (gB G + 293), .int (fi m 601 ((gB G + 1) + 8)), .int (nI j)] [] m2 (fun r' m' => WP G (d + 100) (0, 0) μL_law 1262 [.ref (gSa G), .ref (gB G), .ref (gB G + 293), .int (nI i)] (r'.toList ++ [.int (fi m 601 ((gB G + 1) + 8))]) m' Q)) ?_ 0 (by omega) _ r1
    intro j2 m2 hj2 hM2 ih2
    have n12' : ai m2 (gB G + 294) 12 = nI (sN (aS A)) := by
      rw [hM2.2.2.1, rrF_ne j2 (fun i hi => by omega)]
      exact hL.iv.1.1
    refine bM_rr hM2.1 n12' h12 hj2 (fun z2 => ?_) (fun z2 => ?_)
    · have ej : j2 = sN (aS A) := by omega
      subst ej
      have hM3 := (hM2.wst 16 0).wst 17 0
      rw [← rrF_cm (by omega), ← rrF_cm (by omega)] at hM3
      refine loopN (n := 3) (P := fun j m3 => ∃ en, MS G m1 m3 (rrF (upd (upd (sS (aS A)) 16 0) 17 0) (sN (aS A))) en ∧ (j = 0 → en = sE (aS A)) ∧ (j = 1 → en = vp_updL (sE (aS A)) 0 0) ∧ (j = 2 → en = vp_updL (vp_updL (sE (aS A)) 0 0) 1 0) ∧ (j = 3 → en = rrE (sE (aS A)))) (W := fun j m3 => WP G (d + 99) (0, 0) μX11_resetRecords 50 [.ref (gB G + 293), .int (fi m 601 ((gB G + 1) + 8)), .int (nI j)] [] m3 (fun r' m' => WP G (d + 100) (0, 0) μL_law 1262 [.ref (gSa G), .ref (gB G), .ref (gB G + 293), .int (nI i)] (r'.toList ++ [.int (fi m 601 ((gB G + 1) + 8))]) m' Q)) ?_ 0 (by omega) _ ⟨_, hM3, fun _ => rfl, fun z => by omega, fun z => by omega, fun z => by omega⟩
      intro j3 m3 hj3 ⟨en, hM4, p0, p1, p2, p3⟩ ih3
      refine bM_rr2 hM4.1 hj3 (fun z3 => ?_) (fun z3 => ?_)
      · have ej : j3 = 3 := by omega
        rw [p3 ej] at hM4
        have hC : CRx m1 (gB G + 1) ((rrS (sS (aS A)) (sN (aS A)), rrE (sE (aS A)), sN (aS A), sL (aS A), sH (aS A), sR (aS A), sK (aS A)) : Sc) := hL.2.1.1.of hS (fun k hk => rrS_ne h12 (by omega)) (fun a ha => rrS_ne h12 (by omega)) h12
        have hG : GdS ((rrS (sS (aS A)) (sN (aS A)), rrE (sE (aS A)), sN (aS A), sL (aS A), sH (aS A), sR (aS A), sK (aS A)) : Sc) := ⟨Iv_rr hL.iv, hL.2.2.2.1.2.of (fun k hk => rrS_ne h12 (by omega)) ⟨Nat.le_refl _, Nat.le_refl _, Nat.le_refl _⟩ (fun R hR => hL.2.1.1.2.2.2.2.2.2.1 R hR)⟩
        exact bL_34c hM4.1 hi hl (fun _ => next _ _ (LIv_new hL hO hC hM4 hG)) (fun z => absurd rfl z)
      · refine ih3 z3 _ ⟨_, hM4.wen j3 0, fun z => by omega, fun z => ?_, fun z => ?_, fun z => ?_⟩
        · have : j3 = 0 := by omega
          rw [p0 this, this]
        · have : j3 = 1 := by omega
          rw [p1 this, this]
        · have : j3 = 2 := by omega
          rw [p2 this, this]
          rfl
    · have hx : ai m2 (gB G + 294) (11 * j2 + 21) = sS (aS A) (11 * j2 + 21) := by
        rw [hM2.2.2.1, rrF_ne j2 (fun i hi => by omega)]
      rw [hx]
      exact ih2 z2 _ ((((hM2.wst (11 * j2 + 27) _).wst (11 * j2 + 28) _).wst (11 * j2 + 29) _).wst (11 * j2 + 30) _)
  · have hx : fi m1 401 (nd (gB G + 1) j) = sS (aS A) (11 * j + 21) := by
      refine (hS.rN (i := j) 1 (by omega) (by omega) (by unfold UD; omega)).trans ?_
      rw [rrF_ne j (fun i hi => by omega), upd_ne (by omega), upd_ne (by omega)]
    rw [hx]
    have hT := (((hS.wN (i := j) (x := sS (aS A) (11 * j + 21)) 7 (by omega) (by omega) (fun k hk => Or.inl hk)).wN (i := j) (x := sS (aS A) (11 * j + 21)) 8 (by omega) (by omega) (fun k hk => Or.inl hk)).wN (i := j) (x := 0) 9 (by omega) (by omega) (fun k hk => Or.inl hk)).wN (i := j) (x := -1) 10 (by omega) (by omega) (fun k hk => Or.inl hk)
    refine ih z _ (hT.eqv ?_)
    rw [rrF_s, upd_ne (by omega), upd_ne (by omega)]
