/-! WHAT A STEP SHOWS -/
section SPF
variable {T : Int} {s : Sc}
theorem q2_iv (h : GdT T s) : Iv T (q2 s) (sN s) (sL s) (sH s) := Iv_mvF (Iv_rul (sR s) (sS s) h.1 h.2) _ (Nat.le_refl _)
theorem sp_345 (h : GdT T s) {j : Nat} (hj : j < sH s) : sS (sp s) (8 * j + 345) = q3 s (8 * j + 345) := by
  have := h.n12
  have := h.h8
  exact sp_q3 h.n12 (by omega) (by omega) (by omega) (fun i hi => by omega)
theorem sp_sh (h : GdT T s) : ShO (sS (sp s)) (sH s) := by
  have n12 := h.n12
  have h8 := h.h8
  have k : ∀ j o, j < sH s → o < 5 → sS (sp s) (8 * j + 338 + o) = q3 s (8 * j + 338 + o) := fun j o hj ho => sp_q3 n12 (by omega) (by omega) (by omega) (fun i hi => by omega)
  intro a b ha hb hab h2 h1
  have := sw_sh (q2_iv h) a b ha hb (by
    unfold ahd at hab ⊢
    rw [show sS (sp s) (8 * a + 342) = q3 s (8 * a + 342) from k a 4 ha (by omega), show sS (sp s) (8 * b + 342) = q3 s (8 * b + 342) from k b 4 hb (by omega)] at hab
    exact hab) ((sp_345 h ha).symm.trans h2) ((sp_345 h hb).symm.trans h1)
  rw [show sS (sp s) (8 * a + 339) = q3 s (8 * a + 339) from k a 1 ha (by omega), show sS (sp s) (8 * b + 339) = q3 s (8 * b + 339) from k b 1 hb (by omega)]
  exact this
theorem sp_mode (h : GdT T s) {j : Nat} (hj : j < sH s) : (sS (sp s) (8 * j + 343) = 1 → ¬ sS (sp s) (8 * j + 345) = 0) ∧ (sS (sp s) (8 * j + 343) = 2 → sS (sp s) (8 * j + 345) = 0) := by
  have n12 := h.n12
  have h8 := h.h8
  rw [sp_345 h hj, show sS (sp s) (8 * j + 343) = q2 s (8 * j + 343) from sp_q2 n12 ⟨by omega, by omega, by omega⟩ (by omega) (by omega) (fun i hi => by omega) (fun i hi => by omega)]
  exact sw_md (q2_iv h) hj
theorem sp_cnt (h : GdT T s) (hS : Smp (sR s)) : sS (sp s) 17 = sS s 17 + shF (sS (sp s)) (sH s) := by
  have n12 := h.n12
  have l6 := h.l6
  have h8 := h.h8
  rw [show sS (sp s) 17 = q3 s 17 from sp_q3 n12 (by omega) (by omega) (by omega) (fun i hi => by omega)]
  rw [shF_eq (s := q3 s) (s' := sS (sp s)) _ (fun j hj => sp_345 h hj)]
  show switchF (q2 s) (sH s) 17 = _
  rw [sw_cnt (q2_iv h), q2_k h hS (k := 17) (fun j hj => by omega)]
  rfl
theorem q5_nd (h : GdT T s) (hS : Smp (sR s)) {i o : Nat} (hi : i < sN s) (ho : o < 11) (h1 : o ≠ 1) : q5 s (11 * i + 20 + o) = sS s (11 * i + 20 + o) := by
  have n12 := h.n12
  have l6 := h.l6
  have h8 := h.h8
  show upd (q4 s) 0 _ _ = _
  rw [upd_ne (by omega)]
  unfold q4
  rw [warmF_ne _ _ _ _ _ (fun j hj => by omega)]
  exact q3_k h hS ⟨by omega, by omega⟩ (fun j hj => by omega) (fun j hj => by omega)
theorem sp_27 (h : GdT T s) (hS : Smp (sR s)) {i : Nat} (hi : i < sN s) : sS (sp s) (11 * i + 27) = imin (sS s (11 * i + 27)) (sS (sp s) (11 * i + 21)) ∧ sS (sp s) (11 * i + 28) = imax (sS s (11 * i + 28)) (sS (sp s) (11 * i + 21)) := by
  have n12 := h.n12
  have e21 : sS (sp s) (11 * i + 21) = q5 s (11 * i + 21) := by
    rw [sp_S, recF_ne (by omega) (by omega) _ (fun j hj => by omega)]
  rw [e21, sp_S, rec27 hi n12, rec28 hi n12, show q5 s (11 * i + 27) = sS s (11 * i + 27) from q5_nd h hS (o := 7) hi (by omega) (by omega), show q5 s (11 * i + 28) = sS s (11 * i + 28) from q5_nd h hS (o := 8) hi (by omega) (by omega), imin_cm, imax_cm]
  exact ⟨rfl, rfl⟩
theorem vcnt_mo {st st' : Nat → Int32} : ∀ n, (∀ i, i < n → st' (11 * i + 29) = 0 → st (11 * i + 29) = 0) → vcnt st n ≤ vcnt st' n
  | 0, _ => Nat.le_refl _
  | n + 1, h => by
    have ih := vcnt_mo n (fun i hi => h i (by omega))
    show vcnt st n + (if st (11 * n + 29) = 0 then 0 else 1) ≤ vcnt st' n + (if st' (11 * n + 29) = 0 then 0 else 1)
    by_cases c : st' (11 * n + 29) = 0
    · rw [if_pos c, if_pos (h n (by omega) c)]
      omega
    · rw [if_neg c]
      split <;> omega
theorem vcnt_nn (st : Nat → Int32) : ∀ n, vcnt st n ≤ n
  | 0 => Nat.le_refl _
  | n + 1 => by
    have := vcnt_nn st n
    show vcnt st n + (if st (11 * n + 29) = 0 then 0 else 1) ≤ n + 1
    split <;> omega
theorem sp_16 (h : GdT T s) (hS : Smp (sR s)) (hT : T ≤ 1900000000) : ¬ sS (sp s) 16 < sS s 16 := by
  have n12 := h.n12
  have h' := (GdT_sp h hT).1.1.2.2.2.2.2.2.2.2.2.2
  have h0 := h.1.1.2.2.2.2.2.2.2.2.2.2
  rw [h', h0]
  have hv := vcnt_mo (st := sS s) (st' := sS (sp s)) (sN s) (fun i hi z => by
    have hr := (h.nd hi).2.2.1
    have hg := h.g.1
    have e : sS (sp s) (11 * i + 29) = recS (recF (q5 s) i) i (11 * i + 29) := recF_at (j := 2) (by omega) (by omega) _ hi n12
    rw [e] at z
    have e29 : recF (q5 s) i (11 * i + 29) = sS s (11 * i + 29) := by
      rw [recF_b (by omega) (by omega) (by omega)]
      exact q5_nd h hS (o := 9) hi (by omega) (by omega)
    rcases recS_29 (recF (q5 s) i) (i := i) (by omega) with c | c
    · rw [c, e29] at z
      exact z
    · rw [c, e29] at z
      have z2 := congrArg Int32.toInt z
      have o : (1 : Int32).toInt = 1 := rfl
      have o2 : (0 : Int32).toInt = 0 := rfl
      have := hr.1
      have := hr.2
      have := hg.2
      rw [Int32.toInt_add, o, o2, Int.bmod_eq_of_le (by omega) (by omega)] at z2
      omega)
  have a1 := vcnt_nn (sS s) (sN s)
  have a2 := vcnt_nn (sS (sp s)) (sN s)
  rw [Int32.lt_iff_toInt_lt, nI_toInt (by show vcnt (sS (sp s)) (sN s) < _; omega), nI_toInt (by omega)]
  show ¬ ((vcnt (sS (sp s)) (sN s) : Nat) : Int) < _
  omega
theorem sp_vio (h : GdT T s) : vcs s 1 = if ouN (sS (sp s)) (sN s) = 0 then 0 else 1 := by
  have n12 := h.n12
  have e : vcs s 1 = if svi s = 0 then 0 else 1 := by
    show (if svi (it s 0) = 0 then vcs s 0 else vcs s 0 + 1) = _
    show (if svi s = 0 then (0 : Int32) else 0 + 1) = _
    by_cases c : svi s = 0
    · rw [if_pos c, if_pos c]
    · rw [if_neg c, if_neg c]
      rfl
  rw [e, svi_q, vio_ou _ _ n12, ouN_eq (st := q5 s) (st' := sS (sp s)) _ (fun i hi => by rw [sp_S]; exact outF_q (by omega))]
  by_cases c : ouN (q5 s) (sN s) = 0
  · rw [if_pos c, if_pos rfl]
  · rw [if_neg c, if_neg (by decide)]
theorem absF_eq {st st' : Nat → Int32} {i : Nat} (h : ∀ k, k < 8 → st' k = st k) (h2 : st' (11 * i + 22) = st (11 * i + 22)) (h3 : st' (11 * i + 23) = st (11 * i + 23)) : absF st' i = absF st i := by
  unfold absF
  rw [sunF_eq h, h2, h3, h 5 (by omega), h 6 (by omega), h 7 (by omega)]
theorem abS_eq {st st' : Nat → Int32} (h : ∀ k, k < 8 → st' k = st k) : ∀ n, (∀ i, i < n → st' (11 * i + 22) = st (11 * i + 22) ∧ st' (11 * i + 23) = st (11 * i + 23)) → abS st' n = abS st n
  | 0, _ => rfl
  | n + 1, h2 => by
    show abS st' n + absF st' n = abS st n + absF st n
    rw [abS_eq h n (fun i hi => h2 i (by omega)), absF_eq h (h2 n (by omega)).1 (h2 n (by omega)).2]
theorem sp_e1 (h : GdT T s) (hS : Smp (sR s)) : sE (sp s) 1 = sE s 1 + Int32.toInt64 (sS s 1) * abS (sS s) (sN s) ∧ sE (sp s) 2 = sE s 2 + Int32.toInt64 (sS s 1) * Int32.toInt64 (upF (sS (sp s)) (sH s)) := by
  have n12 := h.n12
  have l6 := h.l6
  have h8 := h.h8
  have k : ∀ k, k ≠ 11 ∧ k ≠ 17 → (∀ j, j < sL s → k ≠ 7 * j + 301 ∧ k ≠ 7 * j + 302) → (∀ j, j < sH s → k ≠ 8 * j + 344 ∧ k ≠ 8 * j + 345) → q3 s k = sS s k := fun k k0 k1 k2 => q3_k h hS k0 k1 k2
  have e1 : q3 s 1 = sS s 1 := k 1 ⟨by omega, by omega⟩ (fun j hj => by omega) (fun j hj => by omega)
  have ea : abS (q3 s) (sN s) = abS (sS s) (sN s) := abS_eq (fun q hq => k q ⟨by omega, by omega⟩ (fun j hj => by omega) (fun j hj => by omega)) _ (fun i hi => ⟨k _ ⟨by omega, by omega⟩ (fun j hj => by omega) (fun j hj => by omega), k _ ⟨by omega, by omega⟩ (fun j hj => by omega) (fun j hj => by omega)⟩)
  have eu : upF (sS (sp s)) (sH s) = upF (q3 s) (sH s) := upF_eq _ (fun j hj => ⟨sp_345 h hj, sp_q3 n12 (by omega) (by omega) (by omega) (fun i hi => by omega)⟩)
  have a1 : sE (sp s) 1 = sE s 1 + Int32.toInt64 (q3 s 1) * abS (q3 s) (sN s) := rfl
  have a2 : sE (sp s) 2 = sE s 2 + Int32.toInt64 (q3 s 1) * Int32.toInt64 (upF (q3 s) (sH s)) := rfl
  rw [a1, a2, e1, ea, eu]
  exact ⟨rfl, rfl⟩
end SPF
/-- a margin below 0: outside -/
theorem marg {st : Nat → Int32} {i : Nat} (ht : rg (st (11 * i + 21)) (-200000) 200000) (hl : rg (st (11 * i + 25)) (-200000) 200000) (hh : rg (st (11 * i + 26)) (-200000) 200000) : imin (st (11 * i + 21) - st (11 * i + 25)) (st (11 * i + 26) - st (11 * i + 21)) < 0 ↔ outF st i = true := by
  unfold outF
  rw [Bool.or_eq_true, decide_eq_true_eq, decide_eq_true_eq, Int32.lt_iff_toInt_lt, Int32.lt_iff_toInt_lt, Int32.lt_iff_toInt_lt, imin_i, i32s ht hl (by omega) (by omega), i32s hh ht (by omega) (by omega)]
  have z : (0 : Int32).toInt = 0 := rfl
  omega
theorem stA_back {A : Ab} {x : Int32} : stA (stA A (upd (sS (aS A)) 1 x)) (upd (sS (aS (stA A (upd (sS (aS A)) 1 x)))) 1 (sS (aS A) 1)) = A := by
  have e : upd (upd (sS (aS A)) 1 x) 1 (sS (aS A) 1) = sS (aS A) := by
    funext k
    by_cases h : k = 1
    · rw [h, upd_eq]
    · rw [upd_ne h, upd_ne h]
  show ((upd (upd (sS (aS A)) 1 x) 1 (sS (aS A) 1), (aS A).2), A.2) = A
  rw [e]
