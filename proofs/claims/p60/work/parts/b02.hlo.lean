/-! THE STEP, LOOKED AT: louvres, heaters -/
theorem sp_q4 {s : Sc} {k : Nat} (hn : sN s ≤ 12) (h0 : k ≠ 0) (h16 : k ≠ 16) (h4 : k < 402) (hN : ∀ j, j < sN s → ¬ (11 * j + 27 ≤ k ∧ k ≤ 11 * j + 30)) : sS (sp s) k = q4 s k := by
  rw [sp_S, recF_ne h16 h4 _ hN]
  exact upd_ne h0
theorem sp_q3 {s : Sc} {k : Nat} (hn : sN s ≤ 12) (h0 : k ≠ 0) (h16 : k ≠ 16) (h4 : k < 402) (hN : ∀ j, j < sN s → k ≠ 11 * j + 21 ∧ ¬ (11 * j + 27 ≤ k ∧ k ≤ 11 * j + 30)) : sS (sp s) k = q3 s k := by
  rw [sp_q4 hn h0 h16 h4 (fun j hj => (hN j hj).2)]
  exact warmF_ne _ _ _ _ _ (fun j hj => (hN j hj).1)
theorem sp_q2 {s : Sc} {k : Nat} (hn : sN s ≤ 12) (h0 : k ≠ 0 ∧ k ≠ 11 ∧ k ≠ 17) (h16 : k ≠ 16) (h4 : k < 402) (hN : ∀ j, j < sN s → k ≠ 11 * j + 21 ∧ ¬ (11 * j + 27 ≤ k ∧ k ≤ 11 * j + 30)) (hH : ∀ j, j < sH s → k ≠ 8 * j + 344 ∧ k ≠ 8 * j + 345) : sS (sp s) k = q2 s k := by
  rw [sp_q3 hn h0.1 h16 h4 hN]
  exact switchF_ne h0.2.1 h0.2.2 hH
theorem own_eq {st st' : Nat → Int32} {k : Nat} (h : st' k = st k) : own st' k = own st k := by
  unfold own
  rw [h]
theorem opnF_eq {st st' : Nat → Int32} {o l : Nat} (h1 : st' (11 * o + 21) = st (11 * o + 21)) (h2 : st' (7 * l + 298) = st (7 * l + 298)) (h3 : st' (7 * l + 299) = st (7 * l + 299)) (h4 : st' (7 * l + 300) = st (7 * l + 300)) (h5 : st' (7 * l + 301) = st (7 * l + 301)) : opnF st' o l = opnF st o l := by
  unfold opnF tgtF
  rw [h1, h2, h3, h4, h5]
theorem tgtF_eq {st st' : Nat → Int32} {o l : Nat} (h1 : st' (11 * o + 21) = st (11 * o + 21)) (h2 : st' (7 * l + 298) = st (7 * l + 298)) (h3 : st' (7 * l + 299) = st (7 * l + 299)) : tgtF st' o l = tgtF st o l := by
  unfold tgtF
  rw [h1, h2, h3]
theorem mv301 {st : Nat → Int32} {l : Nat} (ho : own st (7 * l + 296) < 12) (hl : l < 6) : ∀ m, l < m → m ≤ 6 → mvF st m (7 * l + 301) = if st (7 * l + 302) = 1 then st (7 * l + 301) else opnF st (own st (7 * l + 296)) l
  | 0, h, _ => by omega
  | m + 1, h, h6 => by
    by_cases e : l = m
    · subst e
      show mvS (mvF st l) l (7 * l + 301) = _
      have ne : ∀ k, (∀ j, j < l → k ≠ 7 * j + 301) → mvF st l k = st k := fun k hk => mvF_ne st l hk
      unfold mvS
      rw [ne (7 * l + 302) (fun j hj => by omega)]
      by_cases c : st (7 * l + 302) = 1
      · rw [if_pos c, if_pos c]
        exact ne _ (fun j hj => by omega)
      · rw [if_neg c, if_neg c, upd_eq, own_eq (ne (7 * l + 296) (fun j hj => by omega))]
        exact opnF_eq (ne _ (fun j hj => by omega)) (ne _ (fun j hj => by omega)) (ne _ (fun j hj => by omega)) (ne _ (fun j hj => by omega)) (ne _ (fun j hj => by omega))
    · show mvS (mvF st m) m (7 * l + 301) = _
      unfold mvS
      have ih := mv301 ho hl m (by omega) (by omega)
      split
      · exact ih
      · rw [upd_ne (by omega)]
        exact ih
theorem tgt_rg (st : Nat → Int32) (o l : Nat) : rg (tgtF st o l) 0 1000 := lim_rg (by decide) (by decide) (by decide) (by decide) (by decide)
theorem i32s {x y : Int32} {a b c e : Int} (hx : rg x a b) (hy : rg y c e) (h1 : -2147483648 ≤ a - e) (h2 : b - c ≤ 2147483647) : (x - y).toInt = x.toInt - y.toInt := by
  have := hx.1
  have := hx.2
  have := hy.1
  have := hy.2
  rw [Int32.toInt_sub]
  exact Int.bmod_eq_of_le (by omega) (by omega)
theorem i32a {x y : Int32} {a b c e : Int} (hx : rg x a b) (hy : rg y c e) (h1 : -2147483648 ≤ a + c) (h2 : b + e ≤ 2147483647) : (x + y).toInt = x.toInt + y.toInt := by
  have := hx.1
  have := hx.2
  have := hy.1
  have := hy.2
  rw [Int32.toInt_add]
  exact Int.bmod_eq_of_le (by omega) (by omega)
theorem imax_i (x y : Int32) : (imax x y).toInt = max x.toInt y.toInt := by
  unfold imax
  split
  · rename_i h
    rw [Int32.lt_iff_toInt_lt] at h
    omega
  · rename_i h
    rw [Int32.lt_iff_toInt_lt] at h
    omega
theorem imin_i (x y : Int32) : (imin x y).toInt = min x.toInt y.toInt := by
  unfold imin
  split
  · rename_i h
    rw [Int32.lt_iff_toInt_lt] at h
    omega
  · rename_i h
    rw [Int32.lt_iff_toInt_lt] at h
    omega
theorem lmax_i (x y : Int64) : (lmax x y).toInt = max x.toInt y.toInt := by
  unfold lmax
  split
  · rename_i h
    rw [Int64.lt_iff_toInt_lt] at h
    omega
  · rename_i h
    rw [Int64.lt_iff_toInt_lt] at h
    omega
theorem lmin_i (x y : Int64) : (lmin x y).toInt = min x.toInt y.toInt := by
  unfold lmin
  split
  · rename_i h
    rw [Int64.lt_iff_toInt_lt] at h
    omega
  · rename_i h
    rw [Int64.lt_iff_toInt_lt] at h
    omega
theorem neg_i {r : Int32} (h : rg r 0 1000) : (-r).toInt = - r.toInt := by
  have := h.1
  have := h.2
  rw [Int32.toInt_neg]
  exact Int.bmod_eq_of_le (by omega) (by omega)
/-- an opening goes its way -/
theorem way_ok {t o r : Int32} (ht : rg t 0 1000) (ho : rg o 0 1000) (hr : rg r 0 1000) :
    (o + Int64.toInt32 (lmax (Int32.toInt64 (-r)) (lmin (Int32.toInt64 r) (Int32.toInt64 (t - o))))) - o = imax (-r) (imin r (t - o)) ∧ rg (o + Int64.toInt32 (lmax (Int32.toInt64 (-r)) (lmin (Int32.toInt64 r) (Int32.toInt64 (t - o))))) 0 1000 := by
  have en := neg_i hr
  have es := i32s ht ho (by omega) (by omega)
  have t1 := ht.1
  have t2 := ht.2
  have o1 := ho.1
  have o2 := ho.2
  have r1 := hr.1
  have r2 := hr.2
  have ev : (lmax (Int32.toInt64 (-r)) (lmin (Int32.toInt64 r) (Int32.toInt64 (t - o)))).toInt = max (- r.toInt) (min r.toInt (t.toInt - o.toInt)) := by
    rw [lmax_i, lmin_i, Int32.toInt_toInt64, Int32.toInt_toInt64, Int32.toInt_toInt64, en, es]
  have ev2 : (Int64.toInt32 (lmax (Int32.toInt64 (-r)) (lmin (Int32.toInt64 r) (Int32.toInt64 (t - o))))).toInt = max (- r.toInt) (min r.toInt (t.toInt - o.toInt)) := by
    rw [Int64.toInt_toInt32, ev, Int.bmod_eq_of_le (by omega) (by omega)]
  generalize Int64.toInt32 (lmax (Int32.toInt64 (-r)) (lmin (Int32.toInt64 r) (Int32.toInt64 (t - o)))) = v at ev2 ⊢
  have ea : (o + v).toInt = o.toInt + v.toInt := by
    rw [Int32.toInt_add, Int.bmod_eq_of_le (by omega) (by omega)]
  refine ⟨?_, by omega, by omega⟩
  have em : (imax (-r) (imin r (t - o))).toInt = max (- r.toInt) (min r.toInt (t.toInt - o.toInt)) := by
    rw [imax_i, imin_i, en, es]
  have : (o + v - o).toInt = v.toInt := by
    rw [Int32.toInt_sub, ea, Int.bmod_eq_of_le (by omega) (by omega)]
    omega
  apply Int32.toInt_inj.mp
  omega
/-- who is ahead of whom -/
def ahd (st : Nat → Int32) (a b : Nat) : Prop := st (8 * b + 342) < st (8 * a + 342) ∨ (st (8 * a + 342) = st (8 * b + 342) ∧ a < b)
theorem rnk_ahd (st : Nat → Int32) (nh : Nat) : (rnk st nh).Pairwise (ahd st) := by
  unfold rnk
  rw [List.pairwise_flatMap]
  refine ⟨fun k hk => ?_, ?_⟩
  · have h1 : (List.range nh).Pairwise (· < ·) := List.pairwise_lt_range
    refine ((h1.filter _).imp_of_mem (S := ahd st) ?_)
    intro a b ha hb hab
    rw [List.mem_filter, decide_eq_true_eq] at ha hb
    exact Or.inr ⟨ha.2.trans hb.2.symm, hab⟩
  · have h1 : (List.range 10).Pairwise (· < ·) := List.pairwise_lt_range
    refine h1.imp_of_mem (fun {a b} ha hb hab => ?_)
    intro x hx y hy
    rw [List.mem_filter, decide_eq_true_eq] at hx hy
    rw [List.mem_range] at ha hb
    refine Or.inl ?_
    rw [hx.2, hy.2, Int32.lt_iff_toInt_lt]
    rw [i32s (x := 9) (a := 9) (b := 9) ⟨by decide, by decide⟩ (rgn (v := b) (a := 0) (b := 9) (by omega) (by omega) (by omega)) (by omega) (by omega), i32s (x := 9) (a := 9) (b := 9) ⟨by decide, by decide⟩ (rgn (v := a) (a := 0) (b := 9) (by omega) (by omega) (by omega)) (by omega) (by omega), nI_toInt (by omega), nI_toInt (by omega)]
    omega
theorem ahd_asym {st : Nat → Int32} {a b : Nat} (h : ahd st a b) (h' : ahd st b a) : False := by
  unfold ahd at h h'
  rw [Int32.lt_iff_toInt_lt] at h h'
  rcases h with h | ⟨h1, h2⟩ <;> rcases h' with h' | ⟨h1', h2'⟩
  · omega
  · rw [h1'] at h
    omega
  · rw [h1] at h'
    omega
  · omega
theorem swS_s {s : (Nat → Int32) × Int64} {h : Nat} : (s.1 (8 * h + 344) = 0 ∧ swS s h = s) ∨ (¬ s.1 (8 * h + 344) = 0 ∧ s.2 < Int32.toInt64 (s.1 (8 * h + 339)) ∧ (swS s h).1 (8 * h + 345) = 2 ∧ (swS s h).2 = s.2 ∧ (swS s h).1 17 = s.1 17 + 1) ∨ (¬ s.1 (8 * h + 344) = 0 ∧ ¬ s.2 < Int32.toInt64 (s.1 (8 * h + 339)) ∧ (swS s h).1 (8 * h + 345) = 1 ∧ (swS s h).2 = s.2 - Int32.toInt64 (s.1 (8 * h + 339)) ∧ (swS s h).1 17 = s.1 17) := by
  unfold swS
  by_cases c1 : s.1 (8 * h + 344) = 0
  · rw [if_pos c1]
    exact Or.inl ⟨c1, rfl⟩
  · rw [if_neg c1]
    by_cases c2 : s.2 < Int32.toInt64 (s.1 (8 * h + 339))
    · rw [if_pos c2]
      refine Or.inr (Or.inl ⟨c1, c2, ?_, rfl, ?_⟩)
      · show upd (upd s.1 (8 * h + 345) 2) 17 (s.1 17 + 1) (8 * h + 345) = 2
        rw [upd_ne (by omega), upd_eq]
      · show upd (upd s.1 (8 * h + 345) 2) 17 (s.1 17 + 1) 17 = _
        exact upd_eq
    · rw [if_neg c2]
      refine Or.inr (Or.inr ⟨c1, c2, ?_, rfl, ?_⟩)
      · show upd s.1 (8 * h + 345) 1 (8 * h + 345) = 1
        exact upd_eq
      · show upd s.1 (8 * h + 345) 1 17 = _
        exact upd_ne (by omega)
theorem swS_st {s : (Nat → Int32) × Int64} {h j : Nat} (hj : j ≠ h) : (swS s h).1 (8 * j + 345) = s.1 (8 * j + 345) := swS_ne (by omega) (by omega)
theorem swS_p {s : (Nat → Int32) × Int64} {h j o : Nat} (ho : o < 7) : (swS s h).1 (8 * j + 338 + o) = s.1 (8 * j + 338 + o) := swS_ne (by omega) (by omega)
/-- every one of the list: off where not wished, else on or shed -/
theorem fold_w : ∀ (l : List Nat) (s : (Nat → Int32) × Int64), l.Nodup → (∀ h ∈ l, s.1 (8 * h + 345) = 0) → ∀ h ∈ l, (s.1 (8 * h + 344) = 0 → (l.foldl swS s).1 (8 * h + 345) = 0) ∧ (¬ s.1 (8 * h + 344) = 0 → (l.foldl swS s).1 (8 * h + 345) = 1 ∨ (l.foldl swS s).1 (8 * h + 345) = 2)
  | [], _, _, _ => fun h hh => absurd hh List.not_mem_nil
  | q :: l, s, hn, hl => by
    rw [List.nodup_cons] at hn
    intro h hh
    show (_ → (l.foldl swS (swS s q)).1 _ = 0) ∧ (_ → (l.foldl swS (swS s q)).1 _ = 1 ∨ (l.foldl swS (swS s q)).1 _ = 2)
    by_cases e : h = q
    · subst e
      have e1 : (l.foldl swS (swS s h)).1 (8 * h + 345) = (swS s h).1 (8 * h + 345) := fold_ne (by omega) l _ (fun j hj z => hn.1 (by rw [show h = j by omega]; exact hj))
      rw [e1]
      rcases swS_s (s := s) (h := h) with ⟨c, c2⟩ | ⟨c, c2, c3, -⟩ | ⟨c, c2, c3, -⟩
      · refine ⟨fun _ => ?_, fun z => absurd c z⟩
        rw [c2]
        exact hl h List.mem_cons_self
      · exact ⟨fun z => absurd z c, fun _ => Or.inr c3⟩
      · exact ⟨fun z => absurd z c, fun _ => Or.inl c3⟩
    · have hm := (List.mem_cons.mp hh).resolve_left e
      have ih := fold_w l (swS s q) hn.2 (fun j hj => by
        rw [swS_st (fun z => hn.1 (by rw [← z]; exact hj))]
        exact hl j (List.mem_cons_of_mem _ hj)) h hm
      rw [show (swS s q).1 (8 * h + 344) = s.1 (8 * h + 344) from swS_p (o := 6) (by omega)] at ih
      exact ih
def avOK (v : Int64) : Prop := 0 ≤ v.toInt
theorem swS_av {s : (Nat → Int32) × Int64} {h : Nat} (hv : avOK s.2) (hp : 0 ≤ (s.1 (8 * h + 339)).toInt) : avOK (swS s h).2 ∧ (swS s h).2.toInt ≤ s.2.toInt := by
  unfold avOK at hv ⊢
  rcases swS_s (s := s) (h := h) with ⟨c, c2⟩ | ⟨c, c2, c3, c4, -⟩ | ⟨c, c2, c3, c4, -⟩
  · rw [c2]
    exact ⟨hv, Int.le_refl _⟩
  · rw [c4]
    exact ⟨hv, Int.le_refl _⟩
  · rw [c4]
    rw [Int64.lt_iff_toInt_lt, Int32.toInt_toInt64] at c2
    have b1 := Int64.toInt_lt s.2
    rw [Int64.toInt_sub, Int32.toInt_toInt64, Int.bmod_eq_of_le (by omega) (by omega)]
    omega
/-- one that is on has no more than there was -/
theorem fold_on : ∀ (l : List Nat) (s : (Nat → Int32) × Int64), l.Nodup → avOK s.2 → (∀ h ∈ l, s.1 (8 * h + 345) = 0 ∧ 0 ≤ (s.1 (8 * h + 339)).toInt) → ∀ h ∈ l, (l.foldl swS s).1 (8 * h + 345) = 1 → (s.1 (8 * h + 339)).toInt ≤ s.2.toInt
  | [], _, _, _, _ => fun h hh => absurd hh List.not_mem_nil
  | q :: l, s, hn, hv, hl => by
    rw [List.nodup_cons] at hn
    intro h hh
    show (l.foldl swS (swS s q)).1 _ = 1 → _
    have hq := hl q List.mem_cons_self
    by_cases e : h = q
    · subst e
      have e1 : (l.foldl swS (swS s h)).1 (8 * h + 345) = (swS s h).1 (8 * h + 345) := fold_ne (by omega) l _ (fun j hj z => hn.1 (by rw [show h = j by omega]; exact hj))
      rw [e1]
      intro h1
      rcases swS_s (s := s) (h := h) with ⟨c, c2⟩ | ⟨c, c2, c3, -⟩ | ⟨c, c2, c3, -⟩
      · rw [c2, hq.1] at h1
        exact absurd h1 (by decide)
      · rw [c3] at h1
        exact absurd h1 (by decide)
      · rw [Int64.lt_iff_toInt_lt, Int32.toInt_toInt64] at c2
        omega
    · have hm := (List.mem_cons.mp hh).resolve_left e
      have av := swS_av hv hq.2
      have e339 : ∀ j, (swS s q).1 (8 * j + 339) = s.1 (8 * j + 339) := fun j => swS_p (o := 1) (by omega)
      intro h1
      have ih := fold_on l (swS s q) hn.2 av.1 (fun j hj => by
        rw [swS_st (fun z => hn.1 (by rw [← z]; exact hj)), e339]
        exact hl j (List.mem_cons_of_mem _ hj)) h hm h1
      rw [e339] at ih
      have := av.2
      omega
/-- one shed has more than one on that is behind it -/
theorem fold_sh {st : Nat → Int32} : ∀ (l : List Nat) (s : (Nat → Int32) × Int64), l.Nodup → l.Pairwise (ahd st) → avOK s.2 → (∀ h ∈ l, s.1 (8 * h + 345) = 0 ∧ 0 ≤ (s.1 (8 * h + 339)).toInt) → ∀ a ∈ l, ∀ b ∈ l, ahd st a b → (l.foldl swS s).1 (8 * a + 345) = 2 → (l.foldl swS s).1 (8 * b + 345) = 1 → (s.1 (8 * b + 339)).toInt < (s.1 (8 * a + 339)).toInt
  | [], _, _, _, _, _ => fun h hh => absurd hh List.not_mem_nil
  | q :: l, s, hn, hp, hv, hl => by
    rw [List.nodup_cons] at hn
    rw [List.pairwise_cons] at hp
    intro a ha b hb hab
    show (l.foldl swS (swS s q)).1 _ = 2 → (l.foldl swS (swS s q)).1 _ = 1 → _
    have hq := hl q List.mem_cons_self
    have e339 : ∀ j, (swS s q).1 (8 * j + 339) = s.1 (8 * j + 339) := fun j => swS_p (o := 1) (by omega)
    have hl' : ∀ j ∈ l, (swS s q).1 (8 * j + 345) = 0 ∧ 0 ≤ ((swS s q).1 (8 * j + 339)).toInt := fun j hj => by
      rw [swS_st (fun z => hn.1 (by rw [← z]; exact hj)), e339]
      exact hl j (List.mem_cons_of_mem _ hj)
    have av := swS_av hv hq.2
    by_cases eb : b = q
    · subst eb
      by_cases ea : a = b
      · subst ea
        exact absurd hab (fun z => ahd_asym z z)
      · have hma := (List.mem_cons.mp ha).resolve_left ea
        exact absurd (hp.1 a hma) (fun z => ahd_asym z hab)
    · have hmb := (List.mem_cons.mp hb).resolve_left eb
      by_cases ea : a = q
      · subst ea
        have e1 : (l.foldl swS (swS s a)).1 (8 * a + 345) = (swS s a).1 (8 * a + 345) := fold_ne (by omega) l _ (fun j hj z => hn.1 (by rw [show a = j by omega]; exact hj))
        rw [e1]
        intro h2 h1
        have on := fold_on l (swS s a) hn.2 av.1 hl' b hmb h1
        rw [e339] at on
        rcases swS_s (s := s) (h := a) with ⟨c, c2⟩ | ⟨c, c2, c3, c4, -⟩ | ⟨c, c2, c3, -⟩
        · rw [c2, hq.1] at h2
          exact absurd h2 (by decide)
        · rw [Int64.lt_iff_toInt_lt, Int32.toInt_toInt64] at c2
          rw [c4] at on
          omega
        · rw [c3] at h2
          exact absurd h2 (by decide)
      · have hma := (List.mem_cons.mp ha).resolve_left ea
        intro h2 h1
        have ih := fold_sh l (swS s q) hn.2 hp.2 av.1 hl' a hma b hmb hab h2 h1
        rw [e339, e339] at ih
        exact ih
/-- how many are shed -/
def shF (st : Nat → Int32) : Nat → Int32
  | 0 => 0
  | h + 1 => shF st h + (if st (8 * h + 345) = 2 then 1 else 0)
theorem shF_eq {s s' : Nat → Int32} : ∀ n, (∀ h, h < n → s' (8 * h + 345) = s (8 * h + 345)) → shF s' n = shF s n
  | 0, _ => rfl
  | n + 1, h => by
    show shF s' n + _ = shF s n + _
    rw [shF_eq n (fun j hj => h j (by omega)), h n (by omega)]
theorem shF_one {s : Nat → Int32} {q : Nat} {x : Int32} (h0 : s (8 * q + 345) = 0) : ∀ n, shF (upd s (8 * q + 345) x) n = shF s n + (if q < n ∧ x = 2 then 1 else 0)
  | 0 => by
    rw [if_neg (fun z => by omega)]
    rfl
  | n + 1 => by
    show shF (upd s (8 * q + 345) x) n + _ = shF s n + _ + _
    rw [shF_one h0 n]
    by_cases e : n = q
    · subst e
      rw [if_neg (show ¬ (n < n ∧ x = 2) from fun z => by omega), upd_eq, h0, if_neg (show ¬ (0 : Int32) = 2 by decide), Int32.add_zero]
      by_cases hx : x = 2
      · rw [if_pos hx, if_pos ⟨by omega, hx⟩]
      · rw [if_neg hx, if_neg (fun z => hx z.2), Int32.add_zero]
    · rw [upd_ne (show 8 * n + 345 ≠ 8 * q + 345 by omega)]
      by_cases hx : q < n ∧ x = 2
      · rw [if_pos hx, if_pos (show q < n + 1 ∧ x = 2 from ⟨by omega, hx.2⟩)]
        grind
      · rw [if_neg hx, if_neg (show ¬ (q < n + 1 ∧ x = 2) from fun z => hx ⟨by omega, z.2⟩)]
        grind
theorem fold_17 {nh : Nat} : ∀ (l : List Nat) (s : (Nat → Int32) × Int64), l.Nodup → (∀ h ∈ l, h < nh ∧ s.1 (8 * h + 345) = 0) → (l.foldl swS s).1 17 + shF s.1 nh = s.1 17 + shF (l.foldl swS s).1 nh
  | [], s, _, _ => rfl
  | q :: l, s, hn, hl => by
    show (l.foldl swS (swS s q)).1 17 + _ = _ + shF (l.foldl swS (swS s q)).1 nh
    obtain ⟨hq1, hq2⟩ := hl q List.mem_cons_self
    rw [List.nodup_cons] at hn
    have ih := fold_17 (nh := nh) l (swS s q) hn.2 (fun h hh => ⟨(hl h (List.mem_cons_of_mem _ hh)).1, by
      rw [swS_st (fun z => hn.1 (by rw [← z]; exact hh))]
      exact (hl h (List.mem_cons_of_mem _ hh)).2⟩)
    have key : (swS s q).1 17 + shF s.1 nh = s.1 17 + shF (swS s q).1 nh := by
      unfold swS
      split
      · rfl
      · split
        · show upd (upd s.1 (8 * q + 345) 2) 17 (s.1 17 + 1) 17 + shF s.1 nh = s.1 17 + shF (upd (upd s.1 (8 * q + 345) 2) 17 (s.1 17 + 1)) nh
          rw [upd_eq, shF_eq (s := upd s.1 (8 * q + 345) 2) nh (fun h _ => upd_ne (by omega)), shF_one hq2, if_pos ⟨hq1, rfl⟩]
          grind
        · show upd s.1 (8 * q + 345) 1 17 + shF s.1 nh = s.1 17 + shF (upd s.1 (8 * q + 345) 1) nh
          rw [upd_ne (by omega), shF_one hq2, if_neg (fun z => absurd z.2 (by decide))]
          grind
    grind
