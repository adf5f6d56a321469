/-! THE CLASS'S STEP: who gets power -/
theorem g64_1 (a b c d : Int64) : a - b + c - (d - b) = c + a - d := by grind
theorem swP_fold (p : Int32) (s : (Nat → Int32) × Int64) : ∀ h, swP p s h = ((List.range h).filter (fun j => decide (s.1 (8 * j + 342) = p))).foldl swS s
  | 0 => rfl
  | h + 1 => by
    rw [swP_s, swP_ne p s (by omega) h (fun j _ => by omega), swP_fold p s h, List.range_succ, List.filter_append, List.foldl_append]
    by_cases e : s.1 (8 * h + 342) = p
    · rw [if_pos e, List.filter_cons_of_pos (by rw [decide_eq_true_eq]; exact e)]
      rfl
    · rw [if_neg e, List.filter_cons_of_neg (by rw [decide_eq_true_eq]; exact e)]
      rfl
theorem swF_fold (s : (Nat → Int32) × Int64) (nh : Nat) : ∀ k, swF s nh k = ((List.range k).flatMap (fun k => (List.range nh).filter (fun h => decide (s.1 (8 * h + 342) = 9 - nI k)))).foldl swS s
  | 0 => rfl
  | k + 1 => by
    rw [swF_s, swP_fold, List.range_succ, List.flatMap_append, List.foldl_append, ← swF_fold s nh k, List.flatMap_singleton]
    congr 1
    apply List.filter_congr
    intro j _
    rw [swF_ne s nh (by omega) (fun q _ => by omega) k]
theorem fold_ne {k : Nat} (h2 : k ≠ 17) : ∀ (l : List Nat) (s : (Nat → Int32) × Int64), (∀ h ∈ l, k ≠ 8 * h + 345) → (l.foldl swS s).1 k = s.1 k
  | [], _, _ => rfl
  | h :: l, s, hl => by
    show (l.foldl swS (swS s h)).1 k = s.1 k
    rw [fold_ne h2 l _ (fun q hq => hl q (List.mem_cons_of_mem _ hq)), swS_ne (hl h List.mem_cons_self) h2]
theorem w1F_st (st : Nat → Int32) : ∀ h j, j < h → w1F st h (8 * j + 345) = 0
  | 0, j, hj => by omega
  | h + 1, j, hj => by
    show w1S (w1F st h) h _ = 0
    unfold w1S
    by_cases e : j = h
    · subst e
      exact upd_eq
    · rw [upd_ne (by omega), upd_ne (by omega)]
      exact w1F_st st h j (by omega)
def upL (st : Nat → Int32) : Nat → Int64
  | 0 => 0
  | h + 1 => upL st h + (if st (8 * h + 345) = 1 then Int32.toInt64 (st (8 * h + 339)) else 0)
theorem upL_eq {s s' : Nat → Int32} : ∀ n, (∀ h, h < n → s' (8 * h + 345) = s (8 * h + 345) ∧ s' (8 * h + 339) = s (8 * h + 339)) → upL s' n = upL s n
  | 0, _ => rfl
  | n + 1, h => by
    show upL s' n + _ = upL s n + _
    rw [upL_eq n (fun j hj => h j (by omega)), (h n (by omega)).1, (h n (by omega)).2]
theorem upL_one {s : Nat → Int32} {q : Nat} {x : Int32} (h0 : s (8 * q + 345) = 0) : ∀ n, upL (upd s (8 * q + 345) x) n = upL s n + (if q < n ∧ x = 1 then Int32.toInt64 (s (8 * q + 339)) else 0)
  | 0 => by
    rw [if_neg (fun z => by omega)]
    rfl
  | n + 1 => by
    show upL (upd s (8 * q + 345) x) n + _ = upL s n + _ + _
    rw [upL_one h0 n, upd_ne (show 8 * n + 339 ≠ 8 * q + 345 by omega)]
    by_cases e : n = q
    · subst e
      rw [if_neg (show ¬ (n < n ∧ x = 1) from fun z => by omega), upd_eq, h0, if_neg (show ¬ (0 : Int32) = 1 by decide), Int64.add_zero]
      by_cases hx : x = 1
      · rw [if_pos hx, if_pos ⟨by omega, hx⟩]
      · rw [if_neg hx, if_neg (fun z => hx z.2)]
    · rw [upd_ne (show 8 * n + 345 ≠ 8 * q + 345 by omega)]
      by_cases hx : q < n ∧ x = 1
      · rw [if_pos hx, if_pos (show q < n + 1 ∧ x = 1 from ⟨by omega, hx.2⟩)]
        grind
      · rw [if_neg hx, if_neg (show ¬ (q < n + 1 ∧ x = 1) from fun z => hx ⟨by omega, z.2⟩)]
        grind
theorem fold_sum {nh : Nat} : ∀ (l : List Nat) (s : (Nat → Int32) × Int64), l.Nodup → (∀ h ∈ l, h < nh ∧ s.1 (8 * h + 345) = 0) → s.2 - (l.foldl swS s).2 = upL (l.foldl swS s).1 nh - upL s.1 nh
  | [], s, _, _ => by
    show s.2 - s.2 = upL s.1 nh - upL s.1 nh
    rw [Int64.sub_self, Int64.sub_self]
  | q :: l, s, hn, hl => by
    show s.2 - (l.foldl swS (swS s q)).2 = upL (l.foldl swS (swS s q)).1 nh - upL s.1 nh
    obtain ⟨hq1, hq2⟩ := hl q List.mem_cons_self
    rw [List.nodup_cons] at hn
    have ih := fold_sum l (swS s q) hn.2 (fun h hh => ⟨(hl h (List.mem_cons_of_mem _ hh)).1, by
      rw [swS_ne (by intro z; exact hn.1 (by rw [show q = h by omega]; exact hh)) (by omega)]
      exact (hl h (List.mem_cons_of_mem _ hh)).2⟩)
    have key : s.2 - (swS s q).2 = upL (swS s q).1 nh - upL s.1 nh := by
      unfold swS
      split
      · rw [Int64.sub_self, Int64.sub_self]
      · split
        · show s.2 - s.2 = upL (upd (upd s.1 _ _) 17 _) nh - upL s.1 nh
          rw [upL_eq (s := upd s.1 (8 * q + 345) 2) nh (fun h _ => ⟨upd_ne (by omega), upd_ne (by omega)⟩), upL_one hq2, if_neg (fun z => absurd z.2 (by decide)), Int64.sub_self, Int64.add_zero, Int64.sub_self]
        · show s.2 - (s.2 - _) = upL (upd s.1 _ _) nh - upL s.1 nh
          rw [upL_one hq2, if_pos ⟨hq1, rfl⟩]
          grind
    grind
theorem upF_L {st : Nat → Int32} : ∀ n, n ≤ 8 → (∀ h, h < n → rg (st (8 * h + 339)) 0 100000) → Int32.toInt64 (upF st n) = upL st n ∧ rg (upF st n) 0 (100000 * n)
  | 0, _, _ => ⟨rfl, show (0 : Int) ≤ (0 : Int32).toInt by decide, show (0 : Int32).toInt ≤ 100000 * 0 by decide⟩
  | n + 1, hn, hp => by
    obtain ⟨h1, h2⟩ := upF_L n (by omega) (fun h hh => hp h (by omega))
    have hp' := hp n (by omega)
    have p1 := hp'.1
    have p2 := hp'.2
    have q1 := h2.1
    have q2 := h2.2
    rw [upF_s]
    show _ = upL st n + _ ∧ _
    rw [← h1]
    by_cases e : st (8 * n + 345) = 1
    · rw [if_pos e, if_pos e]
      have ei : (upF st n + st (8 * n + 339)).toInt = (upF st n).toInt + (st (8 * n + 339)).toInt := by
        rw [Int32.toInt_add]
        apply Int.bmod_eq_of_le <;> omega
      refine ⟨?_, ?_, ?_⟩
      · apply Int64.toInt_inj.mp
        rw [Int32.toInt_toInt64, Int64.toInt_add, Int32.toInt_toInt64, Int32.toInt_toInt64, ei]
        symm
        apply Int.bmod_eq_of_le <;> omega
      · omega
      · omega
    · rw [if_neg e, if_neg e, Int32.add_zero, Int64.add_zero]
      exact ⟨rfl, by omega, by omega⟩
theorem toL_sub {a b : Int32} (ha : rg a 0 1000000) (hb : rg b 0 1000000) : Int32.toInt64 (a - b) = Int32.toInt64 a - Int32.toInt64 b := by
  have := ha.1
  have := ha.2
  have := hb.1
  have := hb.2
  apply Int64.toInt_inj.mp
  rw [Int32.toInt_toInt64, Int64.toInt_sub, Int32.toInt_toInt64, Int32.toInt_toInt64, Int32.toInt_sub]
  rw [Int.bmod_eq_of_le (by omega) (by omega), Int.bmod_eq_of_le (by omega) (by omega)]
theorem rnk_len {st : Nat → Int32} {nh : Nat} (hp : ∀ h, h < nh → rg (st (8 * h + 342)) 0 9) : (rnk st nh).length = nh := by
  have := (List.perm_ext_iff_of_nodup (rnk_nodup st nh) List.nodup_range (l₂ := List.range nh)).mpr (fun h => ⟨fun hh => List.mem_range.mpr (rnk_lt hh), fun hh => rnk_mem (hp h (List.mem_range.mp hh)) (List.mem_range.mp hh)⟩)
  have := this.length_eq
  rw [List.length_range] at this
  exact this
theorem sunF_eq {s s' : Nat → Int32} (h : ∀ k, k < 8 → s' k = s k) : sunF s' = sunF s := by
  unfold sunF phF
  rw [h 0 (by omega), h 2 (by omega), h 3 (by omega), h 4 (by omega)]
def spF (st : Nat → Int32) (nh : Nat) (v : Int64) (i : Nat) : (Nat → Int32) × Int64 := ((rnk st nh).take i).foldl swS (w1F st nh, v)
theorem spF_s {st : Nat → Int32} {nh : Nat} {v : Int64} {i q : Nat} (h : (rnk st nh)[i]? = some q) : spF st nh v (i + 1) = swS (spF st nh v i) q := by
  unfold spF
  rw [List.take_add_one, h, List.foldl_append]
  rfl
theorem spF_ne {st : Nat → Int32} {nh : Nat} {v : Int64} {i k : Nat} (h2 : k ≠ 17) (h : ∀ j, j < nh → k ≠ 8 * j + 345) : (spF st nh v i).1 k = w1F st nh k :=
  fold_ne h2 _ _ (fun q hq => h q (rnk_lt (List.mem_of_mem_take hq)))
theorem spF_z {st : Nat → Int32} {nh : Nat} {v : Int64} {i q : Nat} (h : (rnk st nh)[i]? = some q) : (spF st nh v i).1 (8 * q + 345) = 0 := by
  have hq := rnk_lt (List.mem_of_getElem? h)
  unfold spF
  rw [fold_ne (by omega)]
  · exact w1F_st st nh q hq
  · intro j hj e
    have e2 : j = q := by omega
    subst e2
    have hd := rnk_nodup st nh
    rw [List.nodup_iff_pairwise_ne] at hd
    obtain ⟨a, ha, e3⟩ := List.mem_take_iff_getElem.mp hj
    have hi : i < (rnk st nh).length := (List.getElem?_eq_some_iff.mp h).1
    have e4 := (List.getElem?_eq_some_iff.mp h).2
    have := List.pairwise_iff_getElem.mp hd a i (by omega) hi (by omega)
    exact this (e3.trans e4.symm)
theorem upL_zero {s : Nat → Int32} : ∀ n, (∀ h, h < n → s (8 * h + 345) = 0) → upL s n = 0
  | 0, _ => rfl
  | n + 1, h => by
    show upL s n + _ = 0
    rw [upL_zero n (fun j hj => h j (by omega)), h n (by omega)]
    rfl
theorem upF_eq {s s' : Nat → Int32} : ∀ n, (∀ h, h < n → s' (8 * h + 345) = s (8 * h + 345) ∧ s' (8 * h + 339) = s (8 * h + 339)) → upF s' n = upF s n
  | 0, _ => rfl
  | n + 1, h => by
    rw [upF_s, upF_s, upF_eq n (fun j hj => h j (by omega)), (h n (by omega)).1, (h n (by omega)).2]
theorem switchF_sp {st : Nat → Int32} {nh : Nat} (hl : (rnk st nh).length = nh) : switchF st nh = chgF (arrF st) nh (spF st nh (avlF st) nh).1 := by
  unfold switchF
  rw [swF_fold]
  unfold spF
  have e : ((List.range 10).flatMap (fun k => (List.range nh).filter (fun h => decide ((w1F st nh, avlF st).1 (8 * h + 342) = 9 - nI k)))) = rnk st nh := rnk_eq (fun j _ => w1F_ne st nh (fun q _ => by omega))
  rw [e, List.take_of_length_le (by omega)]
section CPOW
variable {G : Cx} {d : Nat} {m0 m : Mm} {c : Nat} {D : Nat → Prop} {Q : Option Value → Mm → Prop} {st : Nat → Int32} {en : Nat → Int64} {n nl nh : Nat} {T : Int}
/-- the ranking in the craft's array -/
def RkC (m : Mm) (c : Nat) (st : Nat → Int32) (nh : Nat) : Prop := ∀ i h, (rnk st nh)[i]? = some h → ai m (c + 5) i = nI h
theorem Out.ai {A : Nat → Prop} (h : Out A m m0) {a : Nat} (ha : ¬ A a) (k : Nat) : ai m a k = ai m0 a k := (h.2.2 a ha).2.2.1 k
theorem Out.fi {A : Nat → Prop} (h : Out A m m0) {a : Nat} (ha : ¬ A a) (k : Nat) : fi m k a = fi m0 k a := (h.2.2 a ha).1 k
theorem C_sp (hF : Full G m0) (hc : IsC G c) (h : CS m0 m c (UX n nl nh (List.range nh)) (w1F st nh) en) (hI : Iv T st n nl nh) (hR : RkC m0 c st nh) (k : ∀ m', CS m0 m' c (UD n nl nh) (switchF st nh) (vp_updL en 2 (en 2 + Int32.toInt64 (st 1) * Int32.toInt64 (upF (switchF st nh) nh))) → Q none m') : WPM G (d + 3) (0, 0) μX0_sharePower [.ref c] m Q := by
  obtain ⟨⟨i1, i2, i3, i4, i5, i6, i7, i8, i9, i10, i11⟩, i12⟩ := hI
  obtain ⟨j1, j2, j3, j4, j5, j6, j7⟩ := i7
  have uu : ∀ l k, UD n nl nh k → k < 345 ∨ (k - 345) % 8 ≠ 0 → UX n nl nh l k := fun l k h1 h2 => ⟨h1, fun j _ => by omega⟩
  have hpri : ∀ h, h < nh → rg (st (8 * h + 342)) 0 9 := fun h hh => (i10 h hh).2.2.1
  have hlen := rnk_len hpri
  have ep : ∀ k, k < 18 → w1F st nh k = st k := fun k hk => w1F_ne st nh (fun j _ => by omega)
  have eS : sunF (w1F st nh) = sunF st := sunF_eq (fun k hk => ep k (by omega))
  have h2 : 0 < w1F st nh 2 := by
    rw [ep 2 (by omega), Int32.lt_iff_toInt_lt]
    have := j3.1
    have z : (0 : Int32).toInt = 0 := rfl
    omega
  have hg : ∀ k, k < 8 → UX n nl nh (List.range nh) k := fun k hk => uu _ k (by unfold UD; omega) (by omega)
  refine eC_sp (h.full hF) hc (C_sun (h.full hF) hc h hg h2 ?_)
  rw [eS]
  have r8 : fi m 900 (c + 7) = st 8 := (h.rG 8 rfl rfl (by unfold VK; omega) (uu _ _ (by unfold UD; omega) (by omega))).trans (ep _ (by omega))
  have r9 : fi m 901 (c + 7) = st 9 := (h.rG 9 rfl rfl (by unfold VK; omega) (uu _ _ (by unfold UD; omega) (by omega))).trans (ep _ (by omega))
  have r11 : fi m 903 (c + 7) = st 11 := (h.rG 11 rfl rfl (by unfold VK; omega) (uu _ _ (by unfold UD; omega) (by omega))).trans (ep _ (by omega))
  have r1 : fi m 13 c = st 1 := (h.rG 1 rfl rfl (by unfold VK; omega) (uu _ _ (by unfold UD; omega) (by omega))).trans (ep _ (by omega))
  have hne1 : ¬ Int32.toInt64 (st 1) = 0 := by
    intro z
    have z2 := congrArg Int32.toInt (toL_inj0 z)
    have := j2.1
    have z4 : (0 : Int32).toInt = 0 := rfl
    omega
  have hq : quoF (Int32.toInt64 (st 11)) (Int32.toInt64 (st 1)) = Int32.toInt64 (st 11 / st 1) := by
    rw [quoF_eq hne1, Int32.toInt64_div_of_ne_left]
    intro z
    have z2 := congrArg Int32.toInt z
    have := j7.1
    have z4 : Int32.minValue.toInt = -2147483648 := by decide
    omega
  have main : WP G (d + 3) (0, 0) μX0_sharePower 57 [.ref c, .long (arrF st - Int32.toInt64 (st 9)), lvU, .long (avlF st), lvU, .long (0 : Int64), lvU, .int (0 : Int32), lvU] [] m Q := by
    have h0 : CS m0 m c (UX n nl nh ((rnk st nh).drop 0)) (spF st nh (avlF st) 0).1 en := h.mono (fun k hk => ⟨hk.1, fun j hj => hk.2 j (by
      rw [List.mem_range] at hj
      exact rnk_mem (hpri j hj) hj)⟩)
    rw [show (0 : Int64) = avlF st - (spF st nh (avlF st) 0).2 from (Int64.sub_self _).symm]
    refine loopN (n := nh) (P := fun i m => CS m0 m c (UX n nl nh ((rnk st nh).drop i)) (spF st nh (avlF st) i).1 en) (W := fun i m => WP G (d + 3) (0, 0) μX0_sharePower 57 [.ref c, .long (arrF st - Int32.toInt64 (st 9)), lvU, .long (avlF st), lvU, .long (avlF st - (spF st nh (avlF st) i).2), lvU, .int (nI i), lvU] [] m Q) ?_ 0 (Nat.zero_le _) m h0
    intro i m' hi hP ih
    have es : ∀ i k, k < 17 → (spF st nh (avlF st) i).1 k = st k := fun i k hk => (spF_ne (by omega) (fun j _ => by omega)).trans (ep k (by omega))
    have r8' : fi m' 8 c = nI nh := ((hP.rG 14 rfl rfl (by unfold VK; omega) (uu _ _ (by unfold UD; omega) (by omega))).trans (es i _ (by omega))).trans i5
    by_cases hin : i < nh
    · have hq : (rnk st nh)[i]? = some (rnk st nh)[i] := List.getElem?_eq_getElem (by omega)
      generalize (rnk st nh)[i] = q at hq
      have hqn : q < nh := rnk_lt (List.mem_of_getElem? hq)
      have hq8 : q < 8 := by omega
      have hrk : ai m' (c + 5) i = nI q := (hP.1.ai (by unfold SA; omega) i).trans (hR i q hq)
      have hD : ∀ k, UX n nl nh ((rnk st nh).drop (i + 1)) k → UX n nl nh ((rnk st nh).drop i) k ∨ k = 8 * q + 345 := by
        intro k hk
        by_cases e : k = 8 * q + 345
        · exact Or.inr e
        · refine Or.inl ⟨hk.1, fun j hj => ?_⟩
          rw [List.drop_eq_getElem_cons (by omega)] at hj
          rcases List.mem_cons.mp hj with z | z
          · have e2 := (List.getElem?_eq_some_iff.mp hq).2
            rw [z, e2]
            exact e
          · exact hk.2 j z
      have hz := spF_z (v := avlF st) hq
      have t6 : fi m' 106 (ht c q) = (spF st nh (avlF st) i).1 (8 * q + 344) := hP.rH 6 hq8 (by omega) (uu _ _ (by unfold UD; omega) (by omega))
      have t1 : fi m' 101 (ht c q) = (spF st nh (avlF st) i).1 (8 * q + 339) := hP.rH 1 hq8 (by omega) (uu _ _ (by unfold UD; omega) (by omega))
      have t17 : fi m' 602 (c + 8) = (spF st nh (avlF st) i).1 17 := hP.rG 17 rfl rfl (by unfold VK; omega) (uu _ _ (by unfold UD; omega) (by omega))
      have eF := spF_s (v := avlF st) hq
      generalize spF st nh (avlF st) i = s at hP t6 t1 t17 eF hz ih ⊢
      have ev : avlF st - (avlF st - s.2) = s.2 := by grind
      refine bC_sp1 (hP.full hF) hc r8' i6 hi (fun _ => hrk) (fun _ => hqn) (fun z => absurd hin z) (fun h1 h2 h3 => ?_) (fun h1 h2 h3 => ?_) (fun h1 h2 => ?_)
      · rw [t6] at h2
        rw [ev, t1] at h3
        have e1 : swS s q = (upd s.1 (8 * q + 345) 1, s.2 - Int32.toInt64 (s.1 (8 * q + 339))) := by
          unfold swS
          rw [if_neg h2, if_neg h3]
        have := ih h1 _ (by rw [eF, e1]; exact hP.wH 7 hq8 (by omega) hD)
        rw [eF, e1] at this
        rw [t1, show avlF st - s.2 + Int32.toInt64 (s.1 (8 * q + 339)) = avlF st - (s.2 - Int32.toInt64 (s.1 (8 * q + 339))) by grind]
        exact this
      · rw [t6] at h2
        rw [ev, t1] at h3
        have e1 : swS s q = (upd (upd s.1 (8 * q + 345) 2) 17 (s.1 17 + 1), s.2) := by
          unfold swS
          rw [if_neg h2, if_pos h3]
        have e2 : fi (wfi m' 107 (ht c q) (2 : Int32)) 602 (c + 8) = s.1 17 := (fi_ne (by decide)).trans t17
        have := ih h1 _ (by
          rw [eF, e1, ← t17]
          exact (hP.wH (x := 2) 7 hq8 (by omega) hD).w 17 rfl rfl (by unfold VK; omega) (by omega) (by omega) (fun k hk => Or.inl hk))
        rw [eF, e1] at this
        rw [show avlF st - s.2 + Int32.toInt64 0 = avlF st - s.2 from Int64.add_zero _]
        exact this
      · rw [t6] at h2
        have e1 : swS s q = s := by
          unfold swS
          rw [if_pos h2]
        have e2 : upd s.1 (8 * q + 345) 0 = s.1 := by
          funext j
          by_cases hj : j = 8 * q + 345
          · subst hj
            rw [upd_eq, hz]
          · rw [upd_ne hj]
        have := ih h1 _ (by
          rw [eF, e1]
          exact (hP.wH (x := 0) 7 hq8 (by omega) hD).eqv e2.symm)
        rw [eF, e1] at this
        rw [show avlF st - s.2 + Int32.toInt64 0 = avlF st - s.2 from Int64.add_zero _]
        exact this
    · have e : i = nh := by omega
      rw [e] at hP hin ⊢
      refine bC_sp1 (q := 0) (hP.full hF) hc r8' i6 (Nat.le_refl _) (fun z => absurd z (by omega)) (fun z => absurd z (by omega)) (fun _ => ?_) (fun z => absurd z (by omega)) (fun z => absurd z (by omega)) (fun z => absurd z (by omega))
      have hS : CS m0 m' c (UD n nl nh) (spF st nh (avlF st) nh).1 en := hP.mono (fun k hk => ⟨hk, fun j hj => by
        rw [List.drop_eq_nil_of_le (by omega)] at hj
        exact absurd hj List.not_mem_nil⟩)
      have hsum := fold_sum (nh := nh) ((rnk st nh).take nh) (w1F st nh, avlF st) ((rnk_nodup st nh).sublist (List.take_sublist _ _)) (fun h hh => ⟨rnk_lt (List.mem_of_mem_take hh), w1F_st st nh h (rnk_lt (List.mem_of_mem_take hh))⟩)
      have hsum2 : avlF st - (spF st nh (avlF st) nh).2 = upL (spF st nh (avlF st) nh).1 nh - upL (w1F st nh) nh := hsum
      rw [upL_zero nh (fun h hh => w1F_st st nh h hh), Int64.sub_zero] at hsum2
      have hpow : ∀ h, h < nh → rg ((spF st nh (avlF st) nh).1 (8 * h + 339)) 0 100000 := fun h hh => by
        rw [spF_ne (by omega) (fun j _ => by omega), w1F_ne st nh (fun j _ => by omega)]
        exact (i10 h hh).2.1
      have hu : avlF st - (spF st nh (avlF st) nh).2 = Int32.toInt64 (upF (spF st nh (avlF st) nh).1 nh) := hsum2.trans (upF_L nh i6 hpow).1.symm
      rw [hu]
      have eSw := switchF_sp hlen
      have es' := es nh
      generalize (spF st nh (avlF st) nh).1 = S at hS hu es' eSw ⊢
      have q1 : fi m' 13 c = st 1 := (hS.rG 1 rfl rfl (by unfold VK; omega) (by unfold UD; omega)).trans (es' _ (by omega))
      have q10 : fi m' 902 (c + 7) = st 10 := (hS.rG 10 rfl rfl (by unfold VK; omega) (by unfold UD; omega)).trans (es' _ (by omega))
      have q11 : fi m' 903 (c + 7) = st 11 := (hS.rG 11 rfl rfl (by unfold VK; omega) (by unfold UD; omega)).trans (es' _ (by omega))
      have q605 : fl m' 605 (c + 8) = en 2 := hS.2.2.2.1.2.2
      rw [q1, q10, q11, q605]
      have eU : upF (switchF st nh) nh = upF S nh := by
        rw [eSw]
        unfold chgF
        exact upF_eq nh (fun h _ => ⟨upd_ne (by omega), upd_ne (by omega)⟩)
      refine k _ ?_
      rw [eU, eSw]
      unfold chgF
      rw [es' 10 (by omega), es' 11 (by omega), es' 1 (by omega), es' 9 (by omega)]
      rw [limF_eq (show ¬ Int32.toInt64 (st 10) < 0 by
        rw [Int64.lt_iff_toInt_lt, Int32.toInt_toInt64]
        have := j6.1
        have z : (0 : Int64).toInt = 0 := rfl
        omega)]
      exact (hS.e2 _).w 11 rfl rfl (by unfold VK; omega) (by omega) (by omega) (fun k hk => Or.inl hk)
  refine bC_sp0 (h.full hF) hc (fun z => ?_) (fun z => ?_)
  · rw [r9, r11, r1, hq]
    have e1 : arrF st = 0 := if_pos z
    have e2 : Int32.toInt64 (0 - st 9) = arrF st - Int32.toInt64 (st 9) := by
      rw [toL_sub ⟨by decide, by decide⟩ j5, e1]
      rfl
    rw [e2, show Int32.toInt64 (st 11 / st 1) + (arrF st - Int32.toInt64 (st 9)) = Int32.toInt64 (st 11 / st 1) - Int32.toInt64 (st 9) + arrF st by grind]
    exact main
  · rw [r8, r9, r11, r1, hq]
    have e1 : arrF st = Int32.toInt64 (st 8) := if_neg z
    have e2 : Int32.toInt64 (st 8 - st 9) = arrF st - Int32.toInt64 (st 9) := by
      rw [toL_sub j4 j5, e1]
    rw [e2, show Int32.toInt64 (st 11 / st 1) + (arrF st - Int32.toInt64 (st 9)) = Int32.toInt64 (st 11 / st 1) - Int32.toInt64 (st 9) + arrF st by grind]
    exact main
end CPOW
