/-! THE CLASS'S STEP: temperatures, records -/
section CWARM
variable {G : Cx} {d : Nat} {m0 m : Mm} {c : Nat} {D : Nat → Prop} {Q : Option Value → Mm → Prop} {st : Nat → Int32} {en : Nat → Int64} {n nl nh : Nat} {T : Int}
def enW (st : Nat → Int32) (nl : Nat) (en : Nat → Int64) (i : Nat) : Nat → Int64 := vp_updL (vp_updL en 0 (en 0 + Int32.toInt64 (st 1) * emS st nl i)) 1 (en 1 + Int32.toInt64 (st 1) * abS st i)
theorem updL_eq {f : Nat → Int64} {k : Nat} {x : Int64} : vp_updL f k x k = x := by simp [vp_updL]
theorem updL_ne {f : Nat → Int64} {k j : Nat} {x : Int64} (h : j ≠ k) : vp_updL f k x j = f j := by simp [vp_updL, h]
theorem updL_id {f : Nat → Int64} {k : Nat} {x : Int64} (h : f k = x) : vp_updL f k x = f := by
  funext j
  by_cases e : j = k
  · subst e
    rw [updL_eq, h]
  · rw [updL_ne e]
theorem enW_s (st : Nat → Int32) (nl : Nat) (en : Nat → Int64) (i : Nat) : vp_updL (vp_updL (enW st nl en i) 0 (enW st nl en i 0 + Int32.toInt64 (st 1) * emF st nl i)) 1 (enW st nl en i 1 + Int32.toInt64 (st 1) * absF st i) = enW st nl en (i + 1) := by
  have e0 : enW st nl en i 0 = en 0 + Int32.toInt64 (st 1) * emS st nl i := by
    unfold enW
    rw [updL_ne (by decide), updL_eq]
  have e1 : enW st nl en i 1 = en 1 + Int32.toInt64 (st 1) * abS st i := by
    unfold enW
    rw [updL_eq]
  rw [e0, e1, Int64.add_assoc, Int64.add_assoc, ← Int64.mul_add, ← Int64.mul_add]
  funext j
  by_cases h1 : j = 1
  · subst h1
    rw [updL_eq]
    unfold enW
    rw [updL_eq]
    rfl
  · rw [updL_ne h1]
    by_cases h0 : j = 0
    · subst h0
      rw [updL_eq]
      unfold enW
      rw [updL_ne (by decide), updL_eq]
      rfl
    · rw [updL_ne h0]
      unfold enW
      rw [updL_ne h1, updL_ne h0, updL_ne h1, updL_ne h0]
theorem C_wn (hF : Full G m0) (hc : IsC G c) (h : CS m0 m c (UD n nl nh) st en) (hf : FlowsC m c st n nl nh) (hI : Iv T st n nl nh) (k : ∀ m', CS m0 m' c (UD n nl nh) (warmF st n nl nh n) (enW st nl en n) → Q none m') : WPM G (d + 3) (0, 0) μX0_warmNodes [.ref c] m Q := by
  obtain ⟨⟨i1, i2, i3, i4, i5, i6, i7, i8, i9, i10, i11⟩, i12⟩ := hI
  refine eC_wn (h.full hF) hc ?_
  have e00 : enW st nl en 0 = en := by
    unfold enW
    rw [updL_id (k := 1), updL_id]
    · show en 0 = en 0 + _ * 0
      rw [Int64.mul_zero, Int64.add_zero]
    · show vp_updL en 0 _ 1 = en 1 + _ * 0
      rw [updL_ne (by decide), Int64.mul_zero, Int64.add_zero]
  refine loopN (n := n) (P := fun i m => CS m0 m c (UD n nl nh) (warmF st n nl nh i) (enW st nl en i) ∧ FlowsC m c st n nl nh) (W := fun i m => WP G (d + 3) (0, 0) μX0_warmNodes 2 [.ref c, .int (nI i), lvU] [] m Q) ?_ 0 (Nat.zero_le _) m ⟨by rw [e00]; exact h, hf⟩
  intro i m1 hi hP ih
  obtain ⟨hC, hfl⟩ := hP
  have r5 : fi m1 5 c = nI n := ((hC.rG 12 rfl rfl (by unfold VK; omega) (by unfold UD; omega)).trans (warmF_ne st n nl nh i (fun j _ => by omega))).trans i1
  refine bC_wn (hC.full hF) hc r5 i2 hi (fun z => ?_) (fun hin => ?_)
  · have e : i = n := by omega
    subst e
    exact k m1 hC
  · obtain ⟨f1, f2, f3, f4⟩ := hfl i hin
    have gN : ∀ j, j < 11 → fi m1 (400 + j) (nd c i) = warmF st n nl nh i (11 * i + 20 + j) := fun j hj => hC.rN j (by omega) hj (by unfold UD; omega)
    have t0 : fi m1 400 (nd c i) = warmF st n nl nh i (11 * i + 20) := gN 0 (by omega)
    have t1 : fi m1 401 (nd c i) = warmF st n nl nh i (11 * i + 21) := gN 1 (by omega)
    have t4 : fi m1 404 (nd c i) = warmF st n nl nh i (11 * i + 24) := gN 4 (by omega)
    have t13 : fi m1 13 c = warmF st n nl nh i 1 := hC.rG 1 rfl rfl (by unfold VK; omega) (by unfold UD; omega)
    have s13 : warmF st n nl nh i 1 = st 1 := warmF_ne st n nl nh i (fun j _ => by omega)
    have s0 : warmF st n nl nh i (11 * i + 20) = st (11 * i + 20) := warmF_ne st n nl nh i (fun j _ => by omega)
    have s4 : warmF st n nl nh i (11 * i + 24) = st (11 * i + 24) := warmF_ne st n nl nh i (fun j _ => by omega)
    have q603 : fl m1 603 (c + 8) = enW st nl en i 0 := hC.2.2.2.1.1
    have q604 : fl m1 604 (c + 8) = enW st nl en i 1 := hC.2.2.2.1.2.1
    have hne : ¬ Int32.toInt64 (st (11 * i + 20)) = 0 := by
      intro z
      have z2 := congrArg Int32.toInt (toL_inj0 z)
      have := (i8 i hin).1.1
      have z4 : (0 : Int32).toInt = 0 := rfl
      omega
    have eT : Int64.toInt32 (limF (Int32.toInt64 (fi m1 401 (nd c i)) + quoF ((((Int32.toInt64 (fi m1 404 (nd c i)) + fl m1 415 (nd c i)) + fl m1 412 (nd c i)) + fl m1 414 (nd c i) - fl m1 413 (nd c i)) * Int32.toInt64 (fi m1 13 c)) (Int32.toInt64 (fi m1 400 (nd c i)))) (-200000) 200000) = tmpF st n nl nh (warmF st n nl nh i) i := by
      rw [t1, t4, t13, t0, s4, s13, s0, f1, f2, f3, f4, quoF_eq hne, limF_eq (by decide)]
      unfold tmpF netF
      rw [htF_a st i (Int32.toInt64 (st (11 * i + 24)) + absF st i + cdF st i n - emF st nl i) nh, s13, s0]
      rw [show Int32.toInt64 (st (11 * i + 24)) + htF st i 0 nh + absF st i + cdF st i n - emF st nl i = Int32.toInt64 (st (11 * i + 24)) + absF st i + cdF st i n - emF st nl i + htF st i 0 nh by grind]
    rw [eT, f1, f2, q603, q604, t13, s13]
    refine ih hin _ ⟨?_, fun j hj => ?_⟩
    · rw [← enW_s]
      exact ((hC.e0 _).e1 _).wN 1 (by omega) (by omega) (fun k hk => Or.inl hk)
    · have := hfl j hj
      simp only [fl_wfi]
      refine ⟨?_, ?_, ?_, ?_⟩
      · rw [fl_ne (by decide), fl_ne (by decide)]; exact this.1
      · rw [fl_ne (by decide), fl_ne (by decide)]; exact this.2.1
      · rw [fl_ne (by decide), fl_ne (by decide)]; exact this.2.2.1
      · rw [fl_ne (by decide), fl_ne (by decide)]; exact this.2.2.2
theorem imin_cm (x y : Int32) : imin x y = imin y x := by
  unfold imin
  simp only [Int32.lt_iff_toInt_lt]
  repeat' split
  all_goals first | rfl | (exfalso; omega) | exact Int32.toInt_inj.mp (by omega)
theorem imax_cm (x y : Int32) : imax x y = imax y x := by
  unfold imax
  simp only [Int32.lt_iff_toInt_lt]
  repeat' split
  all_goals first | rfl | (exfalso; omega) | exact Int32.toInt_inj.mp (by omega)
theorem C_rt {B : Int} (hF : Full G m0) (hc : IsC G c) (h : CS m0 m c (UD n nl nh) st en) (hn : st 12 = nI n) (h12 : n ≤ 12) (hI : RecI st n B) (k : ∀ m', CS m0 m' c (UD n nl nh) (recF st n) en → Q (some (.int (vioF st n))) m') : WPM G (d + 2) (0, 0) μX0_recordTemperatures [.ref c] m Q := by
  refine eC_rt (h.full hF) hc ?_
  refine loopN (n := n) (P := fun i m => CS m0 m c (UD n nl nh) (recF st i) en) (W := fun i m => WP G (d + 2) (0, 0) μX0_recordTemperatures 4 [.ref c, .int (vioF st i), .int (nI i), lvU] [] m Q) ?_ 0 (Nat.zero_le _) m h
  intro i m1 hi hC ih
  obtain ⟨a1, a2, a3⟩ := recF_ok h12 hI i hi
  have hsame : ∀ k, ¬ (k = 16 ∨ (402 ≤ k ∧ k < 414) ∨ ∃ j, j < i ∧ 11 * j + 27 ≤ k ∧ k ≤ 11 * j + 30) → recF st i k = st k := fun k hk => (a3 k).resolve_left hk
  have e12 : recF st i 12 = st 12 := hsame 12 (fun z => by rcases z with z | z | ⟨j, h5, h6, h7⟩ <;> omega)
  have r5 : fi m1 5 c = nI n := ((hC.rG 12 rfl rfl (by unfold VK; omega) (by unfold UD; omega)).trans e12).trans hn
  have r16 : fi m1 601 (c + 8) = nI (vcnt (recF st i) n) := (hC.rG 16 rfl rfl (by unfold VK; omega) (by unfold UD; omega)).trans a1
  have hvle := vcnt_le (recF st i) n
  have eF : recF st (i + 1) = recS (recF st i) i := rfl
  have gN : i < n → ∀ j, j < 11 → fi m1 (400 + j) (nd c i) = recF st i (11 * i + 20 + j) := fun hin j hj => hC.rN j (by omega) hj (by unfold UD; omega)
  have t14 : fi m1 14 c = recF st i 0 := hC.rG 0 rfl rfl (by unfold VK; omega) (by unfold UD; omega)
  have hiff : i < n → (recF st i (11 * i + 29) = 0 ↔ recF st i (11 * i + 30) = -1) := fun hin => by
    rw [hsame (11 * i + 29) (fun z => by rcases z with z | z | ⟨j, h5, h6, h7⟩ <;> omega), hsame (11 * i + 30) (fun z => by rcases z with z | z | ⟨j, h5, h6, h7⟩ <;> omega)]
    exact (hI.2.1 i hin).1
  generalize hs : recF st i = s at *
  have hlo : i < n → CS m0 (wfi (wfi m1 407 (nd c i) (imin (fi m1 407 (nd c i)) (fi m1 401 (nd c i)))) 408 (nd c i) (imax (fi m1 408 (nd c i)) (fi m1 401 (nd c i)))) c (UD n nl nh) (loS s i) en := fun hin => by
    have t1 : fi m1 401 (nd c i) = s (11 * i + 21) := gN hin 1 (by omega)
    have t7 : fi m1 407 (nd c i) = s (11 * i + 27) := gN hin 7 (by omega)
    have t8 : fi m1 408 (nd c i) = s (11 * i + 28) := gN hin 8 (by omega)
    rw [t1, t7, t8, imin_cm, imax_cm]
    exact (hC.wN 7 (by omega) (by omega) (fun k hk => Or.inl hk)).wN 8 (by omega) (by omega) (fun k hk => Or.inl hk)
  have e29 : loS s i (11 * i + 29) = s (11 * i + 29) := by unfold loS; rw [upd_ne (by omega), upd_ne (by omega)]
  have e30 : loS s i (11 * i + 30) = s (11 * i + 30) := by unfold loS; rw [upd_ne (by omega), upd_ne (by omega)]
  have e16 : loS s i 16 = s 16 := by unfold loS; rw [upd_ne (by omega), upd_ne (by omega)]
  have e0 : loS s i 0 = s 0 := by unfold loS; rw [upd_ne (by omega), upd_ne (by omega)]
  have eo : own (loS s i) 16 = vcnt s n := own_of (e16.trans a1) (by omega)
  have kold : i < n → outF s i = true → ¬ fi m1 409 (nd c i) = 0 → CS m0 (wfi (wfi (wfi m1 407 (nd c i) (imin (fi m1 407 (nd c i)) (fi m1 401 (nd c i)))) 408 (nd c i) (imax (fi m1 408 (nd c i)) (fi m1 401 (nd c i)))) 409 (nd c i) (fi m1 409 (nd c i) + (1 : Int32))) c (UD n nl nh) (recF st (i + 1)) en ∧ vioF st (i + 1) = 1 := fun hin h1 h2 => by
    have t9 : fi m1 409 (nd c i) = s (11 * i + 29) := gN hin 9 (by omega)
    have e : recF st (i + 1) = upd (loS s i) (11 * i + 29) (s (11 * i + 29) + 1) := by
      rw [eF]
      unfold recS
      rw [if_pos h1]
      unfold viS
      rw [if_neg (by rw [e30, ← hiff hin, ← t9]; exact h2), e29]
    refine ⟨?_, by rw [vioF_s, hs, if_pos h1]⟩
    rw [e, ← t9]
    exact (hlo hin).wN 9 (by omega) (by omega) (fun k hk => Or.inl hk)
  have knew : i < n → outF s i = true → fi m1 409 (nd c i) = 0 → vcnt s n < 12 ∧ CS m0 (wfi (wfi (wai (wfi (wfi (wfi m1 407 (nd c i) (imin (fi m1 407 (nd c i)) (fi m1 401 (nd c i)))) 408 (nd c i) (imax (fi m1 408 (nd c i)) (fi m1 401 (nd c i)))) 410 (nd c i) (fi m1 14 c)) (c + 9) (vcnt s n) (nI i)) 601 (c + 8) (nI (vcnt s n + 1))) 409 (nd c i) (fi m1 409 (nd c i) + (1 : Int32))) c (UD n nl nh) (recF st (i + 1)) en ∧ vioF st (i + 1) = 1 := fun hin h1 h2 => by
    have t9 : fi m1 409 (nd c i) = s (11 * i + 29) := gN hin 9 (by omega)
    rw [t9] at h2
    have hlt := vcnt_lt h2 n hin
    have e : recF st (i + 1) = upd (upd (upd (upd (loS s i) (11 * i + 29) (s (11 * i + 29) + 1)) (11 * i + 30) (s 0)) (vcnt s n + 402) (nI i)) 16 (nI (vcnt s n + 1)) := by
      rw [eF]
      unfold recS
      rw [if_pos h1]
      unfold viS
      rw [if_pos (by rw [e30, ← hiff hin]; exact h2), e29, e0, eo]
    refine ⟨by omega, ?_, by rw [vioF_s, hs, if_pos h1]⟩
    have e2 : recF st (i + 1) = upd (upd (upd (upd (loS s i) (11 * i + 30) (s 0)) (vcnt s n + 402) (nI i)) 16 (nI (vcnt s n + 1))) (11 * i + 29) (s (11 * i + 29) + 1) := by
      rw [e, upd_cm (show 11 * i + 29 ≠ 11 * i + 30 by omega), upd_cm (show 11 * i + 29 ≠ vcnt s n + 402 by omega), upd_cm (show 11 * i + 29 ≠ 16 by omega)]
    rw [e2, ← t9, t14]
    have hA := (hlo hin).wN (i := i) (x := s 0) (D' := UD n nl nh) 10 (by omega) (by omega) (fun k hk => Or.inl hk)
    have hB := hA.vio (v := vcnt s n) (x := nI i) (by rw [upd_ne (by omega), e16]; exact a1) (by omega)
    exact hB.wN (i := i) 9 (by omega) (by omega) (fun k hk => Or.inl hk)
  have hout : i < n → (fi m1 401 (nd c i) < fi m1 405 (nd c i) → outF s i = true) ∧ (fi m1 406 (nd c i) < fi m1 401 (nd c i) → outF s i = true) ∧ (¬ fi m1 401 (nd c i) < fi m1 405 (nd c i) → ¬ fi m1 406 (nd c i) < fi m1 401 (nd c i) → outF s i = false) := fun hin => by
    have t1 : fi m1 401 (nd c i) = s (11 * i + 21) := gN hin 1 (by omega)
    have t5 : fi m1 405 (nd c i) = s (11 * i + 25) := gN hin 5 (by omega)
    have t6 : fi m1 406 (nd c i) = s (11 * i + 26) := gN hin 6 (by omega)
    rw [t1, t5, t6]
    exact ⟨outF_l, outF_h, outF_n⟩
  refine bC_rt (v := vcnt s n) (hC.full hF) hc r5 h12 hi r16 (by omega) (fun _ => vioF_b st i) (fun z => ?_) (fun h1 h2 h3 => ?_) (fun h1 h2 h3 h4 => ?_) (fun h1 h2 h3 h4 => ?_) (fun h1 h2 h3 => ?_) (fun h1 h2 h3 h4 => ?_) (fun h1 h2 h3 h4 h5 => ?_) (fun h1 h2 h3 h4 h5 => ?_)
  · have e : i = n := by omega
    subst e
    rw [← hs] at hC
    exact k m1 hC
  · obtain ⟨c1, c2⟩ := kold h1 ((hout h1).1 h2) h3
    have z := ih h1 _ c1
    rw [c2] at z
    exact z
  · exact absurd (knew h1 ((hout h1).1 h2) h3).1 h4
  · obtain ⟨-, c1, c2⟩ := knew h1 ((hout h1).1 h2) h3
    have z := ih h1 _ c1
    rw [c2] at z
    exact z
  · have ho := (hout h1).2.2 h2 h3
    have c1 : recF st (i + 1) = loS s i := by
      rw [eF]
      unfold recS
      rw [if_neg (by rw [ho]; decide)]
    have c2 : vioF st (i + 1) = vioF st i := by rw [vioF_s, hs, if_neg (by rw [ho]; decide)]
    have z := ih h1 _ (by rw [c1]; exact hlo h1)
    rw [c2] at z
    exact z
  · obtain ⟨c1, c2⟩ := kold h1 ((hout h1).2.1 h3) h4
    have z := ih h1 _ c1
    rw [c2] at z
    exact z
  · exact absurd (knew h1 ((hout h1).2.1 h3) h4).1 h5
  · obtain ⟨-, c1, c2⟩ := knew h1 ((hout h1).2.1 h3) h4
    have z := ih h1 _ c1
    rw [c2] at z
    exact z
end CWARM
