/-! LESS SUN LEAVES NO NODE HOTTER -/
section COOL
variable {T : Int} {s : Sc}
theorem sp_21 (h : GdT T s) {i : Nat} (hi : i < sN s) : sS (sp s) (11 * i + 21) = tmpF (q3 s) (sN s) (sL s) (sH s) (q3 s) i := by
  have n12 := h.n12
  rw [sp_q4 n12 (by omega) (by omega) (by omega) (fun j hj => by omega)]
  exact warm_at _ hi
theorem q3_abs (h : GdT T s) (hS : Smp (sR s)) {i : Nat} (hi : i < sN s) : absF (q3 s) i = absF (sS s) i := by
  have n12 := h.n12
  have k : ∀ k, k ≠ 11 ∧ k ≠ 17 → (∀ j, j < sL s → k ≠ 7 * j + 301 ∧ k ≠ 7 * j + 302) → (∀ j, j < sH s → k ≠ 8 * j + 344 ∧ k ≠ 8 * j + 345) → q3 s k = sS s k := fun k k0 k1 k2 => q3_k h hS k0 k1 k2
  exact absF_eq (fun q hq => k q ⟨by omega, by omega⟩ (fun j hj => by omega) (fun j hj => by omega)) (k _ ⟨by omega, by omega⟩ (fun j hj => by omega) (fun j hj => by omega)) (k _ ⟨by omega, by omega⟩ (fun j hj => by omega) (fun j hj => by omega))
theorem q3_NB (h : GdT T s) (hJ : LJ s) {i : Nat} (hi : i < sN s) : NB (q3 s) (sN s) (sL s) (sH s) i := by
  have n12 := h.n12
  have l6 := h.l6
  have h8 := h.h8
  have hS := hJ.2.2.2.2
  have k : ∀ k, k ≠ 11 ∧ k ≠ 17 → (∀ j, j < sL s → k ≠ 7 * j + 301 ∧ k ≠ 7 * j + 302) → (∀ j, j < sH s → k ≠ 8 * j + 344 ∧ k ≠ 8 * j + 345) → q3 s k = sS s k := fun k k0 k1 k2 => q3_k h hS k0 k1 k2
  have c := cd_rg (st := q3 s) n12 hi (fun j hj => by
    rw [k (11 * j + 21) ⟨by omega, by omega⟩ (fun j hj => by omega) (fun j hj => by omega)]
    exact (h.nd hj).2.1) _ (Nat.le_refl _)
  have e := ht_rg (st := q3 s) (i := i) h8 (fun j hj => by
    rw [k (8 * j + 339) ⟨by omega, by omega⟩ (fun j hj => by omega) (fun j hj => by omega)]
    exact (h.he hj).2.1) _ (Nat.le_refl _)
  refine ⟨?_, ?_, ⟨by omega, by omega⟩, em_rg (q3_ao h hJ hi) l6, ⟨e.1, by omega⟩⟩
  · rw [k (11 * i + 24) ⟨by omega, by omega⟩ (fun j hj => by omega) (fun j hj => by omega)]
    exact (hJ.1 i hi).2.2.1
  · rw [q3_abs h hS hi]
    exact ab_rg hJ.2.2.1 (hJ.1 i hi).1 (hJ.1 i hi).2.1
theorem sp_tmp (h : GdT T s) (hJ : LJ s) {i : Nat} (hi : i < sN s) : (sS (sp s) (11 * i + 21)).toInt = max (-200000) (min 200000 ((sS s (11 * i + 21)).toInt + ((netF (q3 s) (sN s) (sL s) (sH s) i).toInt * (sS s 1).toInt).tdiv (sS s (11 * i + 20)).toInt)) := by
  have n12 := h.n12
  have hS := hJ.2.2.2.2
  have k : ∀ k, k ≠ 11 ∧ k ≠ 17 → (∀ j, j < sL s → k ≠ 7 * j + 301 ∧ k ≠ 7 * j + 302) → (∀ j, j < sH s → k ≠ 8 * j + 344 ∧ k ≠ 8 * j + 345) → q3 s k = sS s k := fun k k0 k1 k2 => q3_k h hS k0 k1 k2
  have e1 := k 1 ⟨by omega, by omega⟩ (fun j hj => by omega) (fun j hj => by omega)
  have e20 := k (11 * i + 20) ⟨by omega, by omega⟩ (fun j hj => by omega) (fun j hj => by omega)
  have e21 := k (11 * i + 21) ⟨by omega, by omega⟩ (fun j hj => by omega) (fun j hj => by omega)
  rw [sp_21 h hi, tmp_i (q3_NB h hJ hi) (by rw [e1]; exact h.g.2.1) (by rw [e20]; exact (h.nd hi).1) (by rw [e21]; exact (h.nd hi).2.1), e1, e20, e21]
end COOL
theorem ab_i {st : Nat → Int32} {i : Nat} (hs : SO st) (h1 : rg (st (11 * i + 22)) 0 10000) (h2 : rg (st (11 * i + 23)) 0 10000) (hz : st 3 = 0) (hz4 : st 4 = 0) : (absF st i).toInt = (st (11 * i + 22)).toInt * (st 7).toInt / 10 + ((st (11 * i + 23)).toInt * (st 5).toInt / 10 + (st (11 * i + 23)).toInt * (st 5).toInt * (st 6).toInt / 1000) := by
  have hsun : ¬ sunF st = 0 := by
    unfold sunF
    rw [hz, hz4]
    by_cases c : phF st < 0
    · rw [if_pos c]
      decide
    · rw [if_neg c, if_neg c]
      decide
  have m1 := l64m (toLr h1) (toLr hs.2.2) (by decide)
  have m2 := l64d (y := 10) (B := 10) m1.2 (by decide) (by decide)
  have m3 := l64m (toLr h2) (toLr hs.1) (by decide)
  have m4 := l64d (y := 10) (B := 10) m3.2 (by decide) (by decide)
  have m5 := l64m m3.2 (toLr hs.2.1) (by decide)
  have m6 := l64d (y := 1000) (B := 1000) m5.2 (by decide) (by decide)
  have m7 := l64a m4.2 m6.2 (by decide) (by decide)
  have m8 := l64a m2.2 m7.2 (by decide) (by decide)
  unfold absF
  rw [if_neg hsun, m8.1, m7.1, m2.1, m4.1, m6.1, m5.1, m3.1, m1.1]
  simp only [Int32.toInt_toInt64]
theorem ab_le {st st' : Nat → Int32} {i : Nat} (ag : Ag st' st) (hs : SO st) (hs' : SO st') (h1 : rg (st (11 * i + 22)) 0 10000) (h2 : rg (st (11 * i + 23)) 0 10000) (hz : st 3 = 0) (hz4 : st 4 = 0) (b5 : (st' 5).toInt ≤ (st 5).toInt) (b6 : (st' 6).toInt ≤ (st 6).toInt) (b7 : (st' 7).toInt ≤ (st 7).toInt) : (absF st' i).toInt ≤ (absF st i).toInt := by
  have e2 := ag (11 * i + 22) (by omega)
  have e3 := ag (11 * i + 23) (by omega)
  rw [ab_i hs h1 h2 hz hz4, ab_i hs' (by rw [e2]; exact h1) (by rw [e3]; exact h2) ((ag 3 (by omega)).trans hz) ((ag 4 (by omega)).trans hz4), e2, e3]
  have n2 := h1.1
  have n3 := h2.1
  have p7 : (st (11 * i + 22)).toInt * (st' 7).toInt ≤ (st (11 * i + 22)).toInt * (st 7).toInt := Int.mul_le_mul_of_nonneg_left b7 n2
  have p5 : (st (11 * i + 23)).toInt * (st' 5).toInt ≤ (st (11 * i + 23)).toInt * (st 5).toInt := Int.mul_le_mul_of_nonneg_left b5 n3
  have p50 : 0 ≤ (st (11 * i + 23)).toInt * (st 5).toInt := Int.mul_nonneg n3 hs.1.1
  have p6 : (st (11 * i + 23)).toInt * (st' 5).toInt * (st' 6).toInt ≤ (st (11 * i + 23)).toInt * (st 5).toInt * (st 6).toInt := Int.mul_le_mul p5 b6 hs'.2.1.1 p50
  have d7 := Int.ediv_le_ediv (c := 10) (by decide) p7
  have d5 := Int.ediv_le_ediv (c := 10) (by decide) p5
  have d6 := Int.ediv_le_ediv (c := 1000) (by decide) p6
  omega
theorem areaF_eq {st st' : Nat → Int32} {i : Nat} (h : st' (11 * i + 22) = st (11 * i + 22)) : ∀ l, (∀ j, j < l → st' (7 * j + 296) = st (7 * j + 296) ∧ st' (7 * j + 297) = st (7 * j + 297) ∧ st' (7 * j + 301) = st (7 * j + 301)) → areaF st' i l = areaF st i l
  | 0, _ => by
    show Int32.toInt64 _ = Int32.toInt64 _
    rw [h]
  | l + 1, hl => by
    rw [areaF_s, areaF_s, areaF_eq h l (fun j hj => hl j (by omega)), (hl l (by omega)).1, (hl l (by omega)).2.1, (hl l (by omega)).2.2]
theorem cdF_eq {st st' : Nat → Int32} {i : Nat} : ∀ n, (∀ j, j < n → st' (12 * i + j + 152) = st (12 * i + j + 152) ∧ st' (11 * j + 21) = st (11 * j + 21)) → st' (11 * i + 21) = st (11 * i + 21) → cdF st' i n = cdF st i n
  | 0, _, _ => rfl
  | n + 1, h, hi => by
    rw [cd_s, cd_s, cdF_eq n (fun j hj => h j (by omega)) hi, (h n (by omega)).1, (h n (by omega)).2, hi]
theorem htF_eq {st st' : Nat → Int32} {i : Nat} {a : Int64} : ∀ n, (∀ j, j < n → st' (8 * j + 338) = st (8 * j + 338) ∧ st' (8 * j + 345) = st (8 * j + 345) ∧ st' (8 * j + 339) = st (8 * j + 339)) → htF st' i a n = htF st i a n
  | 0, _ => rfl
  | n + 1, h => by
    rw [htF_s, htF_s, htF_eq n (fun j hj => h j (by omega)), (h n (by omega)).1, (h n (by omega)).2.1, (h n (by omega)).2.2]
theorem cool_t {T : Int} {s1 s2 : Sc} (g1 : GdT T s1) (g2 : GdT T s2) (J1 : LJ s1) (J2 : LJ s2) (e : s2.2 = s1.2) (ag : Ag (sS s2) (sS s1)) (hz : sS s1 3 = 0) (hz4 : sS s1 4 = 0) (b5 : (sS s2 5).toInt ≤ (sS s1 5).toInt) (b6 : (sS s2 6).toInt ≤ (sS s1 6).toInt) (b7 : (sS s2 7).toInt ≤ (sS s1 7).toInt) {i : Nat} (hi : i < sN s1) : ¬ sS (sp s1) (11 * i + 21) < sS (sp s2) (11 * i + 21) := by
  have n12 := g1.n12
  have eN : sN s2 = sN s1 := by unfold sN; rw [e]
  have eL : sL s2 = sL s1 := by unfold sL; rw [e]
  have eH : sH s2 = sH s1 := by unfold sH; rw [e]
  have eR : sR s2 = sR s1 := by unfold sR; rw [e]
  have hi2 : i < sN s2 := by rw [eN]; exact hi
  have aq : Ag (q3 s2) (q3 s1) := by
    unfold q3 q2 q1
    rw [eL, eH, eR]
    exact ((Ag.rul J1.2.2.2.2 _ ag).mvF _).swi _
  rw [Int32.lt_iff_toInt_lt, sp_tmp g1 J1 hi, sp_tmp g2 J2 hi2, ag (11 * i + 21) (by omega), ag 1 (by omega), ag (11 * i + 20) (by omega)]
  have nb1 := q3_NB g1 J1 hi
  have nb2 := q3_NB g2 J2 hi2
  have n1 := (net_i nb1).1
  have n2 := (net_i nb2).1
  have a1 := q3_abs g1 J1.2.2.2.2 hi
  have a2 := q3_abs g2 J2.2.2.2.2 hi2
  have al := ab_le ag J1.2.2.1 J2.2.2.1 (J1.1 i hi).1 (J1.1 i hi).2.1 hz hz4 b5 b6 b7
  have ee : emF (q3 s2) (sL s2) i = emF (q3 s1) (sL s1) i := by
    unfold emF
    rw [eL, areaF_eq (aq _ (by omega)) _ (fun j _ => ⟨aq _ (by omega), aq _ (by omega), aq _ (by omega)⟩), aq (11 * i + 21) (by omega)]
  have ec : cdF (q3 s2) i (sN s2) = cdF (q3 s1) i (sN s1) := by
    rw [eN]
    exact cdF_eq _ (fun j _ => ⟨aq _ (by omega), aq _ (by omega)⟩) (aq _ (by omega))
  have eh : htF (q3 s2) i 0 (sH s2) = htF (q3 s1) i 0 (sH s1) := by
    rw [eH]
    exact htF_eq _ (fun j _ => ⟨aq _ (by omega), aq _ (by omega), aq _ (by omega)⟩)
  have el : q3 s2 (11 * i + 24) = q3 s1 (11 * i + 24) := aq _ (by omega)
  rw [ee, ec, eh, el, a2] at n2
  rw [a1] at n1
  have le : (netF (q3 s2) (sN s2) (sL s2) (sH s2) i).toInt ≤ (netF (q3 s1) (sN s1) (sL s1) (sH s1) i).toInt := by omega
  have st1 := g1.g.2.1.1
  have cp := (g1.nd hi).1.1
  have lm := Int.mul_le_mul_of_nonneg_right le (show 0 ≤ (sS s1 1).toInt by omega)
  have ld := Int.tdiv_le_tdiv (c := (sS s1 (11 * i + 20)).toInt) (by omega) lm
  omega
