/-! THE LAW'S CASE 34: RECORDS -/
theorem CS.z16 {m0 m : Mm} {c : Nat} {D : Nat → Prop} {st : Nat → Int32} {en : Nat → Int64} (h : CS m0 m c D st en) : CS m0 (wfi m 601 (c + 8) 0) c D (upd st 16 0) en := by
  obtain ⟨hO, h6, hs, he, hw⟩ := h
  refine ⟨hO.wfi (by unfold SA; omega), K6.wfi (by decide) (by decide) h6, fun k hk hd => ?_, he, fun k hk => ?_⟩
  · by_cases e : k = 16
    · subst e
      rw [upd_eq]
      exact fi_eq
    · rw [upd_ne e, ← hs k hk hd]
      obtain ⟨w1, -⟩ := vk_ok k hk.lt (by unfold VK at hk; exact hk)
      by_cases e1 : flC k = 601
      · refine fi_na (fun z => e ?_)
        rw [← w1, e1]
        rfl
      · exact fi_ne e1
  · have e1 : own (upd st 16 0) 16 = 0 := own_of (o := 0) upd_eq (by omega)
    rw [e1] at hk
    omega
def rrF (st : Nat → Int32) : Nat → Nat → Int32
  | 0 => st
  | j + 1 => upd (upd (upd (upd (rrF st j) (11 * j + 27) (st (11 * j + 21))) (11 * j + 28) (st (11 * j + 21))) (11 * j + 29) 0) (11 * j + 30) (-1)
theorem rrF_s (st : Nat → Int32) (j : Nat) : rrF st (j + 1) = upd (upd (upd (upd (rrF st j) (11 * j + 27) (st (11 * j + 21))) (11 * j + 28) (st (11 * j + 21))) (11 * j + 29) 0) (11 * j + 30) (-1) := rfl
theorem rrF_ne {st : Nat → Int32} {k : Nat} : ∀ j, (∀ i, i < j → k < 11 * i + 27 ∨ 11 * i + 30 < k) → rrF st j k = st k
  | 0, _ => rfl
  | j + 1, h => by
    have := h j (by omega)
    rw [rrF_s, upd_ne (by omega), upd_ne (by omega), upd_ne (by omega), upd_ne (by omega)]
    exact rrF_ne j (fun i hi => h i (by omega))
theorem rrF_z {st : Nat → Int32} : ∀ j i, i < j → rrF st j (11 * i + 29) = 0 ∧ rrF st j (11 * i + 30) = -1
  | 0, i, h => by omega
  | j + 1, i, h => by
    rw [rrF_s]
    by_cases e : i = j
    · subst e
      exact ⟨by rw [upd_ne (by omega), upd_eq], by rw [upd_eq]⟩
    · rw [upd_ne (by omega), upd_ne (by omega), upd_ne (by omega), upd_ne (by omega), upd_ne (by omega), upd_ne (by omega), upd_ne (by omega), upd_ne (by omega)]
      exact rrF_z j i (by omega)
theorem rrF_cm {st : Nat → Int32} {k : Nat} {x : Int32} (hk : k < 20) : ∀ j, rrF (upd st k x) j = upd (rrF st j) k x
  | 0 => rfl
  | j + 1 => by
    rw [rrF_s, rrF_s, rrF_cm hk j, upd_ne (by omega), upd_cm (a := k) (by omega), upd_cm (a := k) (by omega), upd_cm (a := k) (by omega), upd_cm (a := k) (by omega)]
def rrS (st : Nat → Int32) (n : Nat) : Nat → Int32 := rrF (upd (upd st 16 0) 17 0) n
theorem rrS_ne {st : Nat → Int32} {n k : Nat} (hn : n ≤ 12) (h : k < 16 ∨ (18 ≤ k ∧ k < 20) ∨ 152 ≤ k) : rrS st n k = st k := by
  unfold rrS
  rw [rrF_ne n (fun i hi => by omega), upd_ne (by omega), upd_ne (by omega)]
theorem rrS_n {st : Nat → Int32} {n i j : Nat} (hj : j < 7) : rrS st n (11 * i + 20 + j) = st (11 * i + 20 + j) := by
  unfold rrS
  rw [rrF_ne n (fun i hi => by omega), upd_ne (by omega), upd_ne (by omega)]
theorem vcnt_z {st : Nat → Int32} : ∀ n, (∀ j, j < n → st (11 * j + 29) = 0) → vcnt st n = 0
  | 0, _ => rfl
  | n + 1, h => by
    show vcnt st n + (if st (11 * n + 29) = 0 then 0 else 1) = 0
    rw [if_pos (h n (by omega)), vcnt_z n (fun j hj => h j (by omega))]
theorem Iv_rr {T : Int} {st : Nat → Int32} {n nl nh : Nat} (h : Iv T st n nl nh) : Iv T (rrS st n) n nl nh := by
  obtain ⟨⟨i1, i2, i3, i4, i5, i6, ⟨j1, j2, j3, j4, j5, j6, j7⟩, i8, i9, i10, i11⟩, i12⟩ := h
  have e : ∀ k, (k < 16 ∨ (18 ≤ k ∧ k < 20) ∨ 152 ≤ k) → rrS st n k = st k := fun k hk => rrS_ne i2 hk
  refine ⟨⟨(e 12 (by omega)).trans i1, i2, (e 13 (by omega)).trans i3, i4, (e 14 (by omega)).trans i5, i6, ⟨?_, ?_, ?_, ?_, ?_, ?_, ?_⟩, fun i hi => ?_, fun i hi => ?_, fun i hi => ?_, ?_⟩, fun i hi => ?_⟩
  · rw [e 0 (by omega)]; exact j1
  · rw [e 1 (by omega)]; exact j2
  · rw [e 2 (by omega)]; exact j3
  · rw [e 8 (by omega)]; exact j4
  · rw [e 9 (by omega)]; exact j5
  · rw [e 10 (by omega)]; exact j6
  · rw [e 11 (by omega), e 10 (by omega)]; exact j7
  · obtain ⟨a, b, -, -⟩ := i8 i hi
    obtain ⟨z1, z2⟩ := rrF_z (st := upd (upd st 16 0) 17 0) n i hi
    unfold InvN
    rw [show rrS st n (11 * i + 29) = 0 from z1, show rrS st n (11 * i + 30) = -1 from z2, show rrS st n (11 * i + 20) = st (11 * i + 20) from rrS_n (j := 0) (by omega), show rrS st n (11 * i + 21) = st (11 * i + 21) from rrS_n (j := 1) (by omega), e 0 (by omega)]
    exact ⟨a, b, ⟨by decide, j1.1⟩, ⟨fun _ => rfl, fun _ => rfl⟩⟩
  · have := i9 i hi
    unfold InvL at this ⊢
    rw [e (7 * i + 296) (by omega), e (7 * i + 298) (by omega), e (7 * i + 299) (by omega), e (7 * i + 300) (by omega), e (7 * i + 302) (by omega)]
    exact this
  · have := i10 i hi
    unfold InvH at this ⊢
    rw [e (8 * i + 338) (by omega), e (8 * i + 339) (by omega), e (8 * i + 342) (by omega), e (8 * i + 344) (by omega)]
    exact this
  · rw [vcnt_z (st := rrS st n) n (fun j hj => (rrF_z (st := upd (upd st 16 0) 17 0) n j hj).1)]
    unfold rrS
    rw [rrF_ne n (fun i hi => by omega), upd_ne (by omega), upd_eq]
    rfl
  · rw [e _ (by omega)]
    exact i12 i hi
def rrE (en : Nat → Int64) : Nat → Int64 := vp_updL (vp_updL (vp_updL en 0 0) 1 0) 2 0
