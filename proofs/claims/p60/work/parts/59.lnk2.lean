/-! LINKS: change -/
theorem lkM_sym {x y : Lk} (h : lkM x y.1 y.2.1) : lkM y x.1 x.2.1 := by
  unfold lkM at *
  omega
section LNK2
variable {n i j : Nat} {z : Int32} {l l' : List Lk} {st : Nat → Int32}
theorem LkOK.perm (h : LkOK n l) (p : l.Perm l') : LkOK n l' :=
  ⟨fun x hx => h.1 x (p.mem_iff.mpr hx), (p.pairwise_iff (fun {x y} hxy z => hxy (lkM_sym z))).mp h.2⟩
theorem lkV_in {a b : Nat} {x : Lk} (h : LkOK n l) (hx : x ∈ l) (hm : lkM x a b) : lkV a b l = x.2.2 := by
  obtain ⟨p, hp⟩ := List.getElem?_of_mem hx
  exact lkV_at hm l h p hp
theorem lkV_same {a b : Nat} (h : LkOK n l) (h' : LkOK n l') (P : ∀ x, lkM x a b → (x ∈ l' ↔ x ∈ l)) : lkV a b l' = lkV a b l := by
  by_cases c : ∃ x ∈ l, lkM x a b
  · obtain ⟨x, hx, hm⟩ := c
    rw [lkV_in h hx hm, lkV_in h' ((P x hm).mpr hx) hm]
  · rw [lkV_z l (fun x hx hm => c ⟨x, hx, hm⟩), lkV_z l' (fun x hx hm => c ⟨x, (P x hm).mp hx, hm⟩)]
def nwS (st : Nat → Int32) (i j : Nat) (z : Int32) : Nat → Int32 := upd (upd st (12 * i + j + 152) z) (i + 12 * j + 152) z
theorem nwS_ne {k : Nat} (hi : i < 12) (hj : j < 12) (h : k < 152 ∨ 296 ≤ k) : nwS st i j z k = st k := by
  unfold nwS
  rw [upd_ne (by omega), upd_ne (by omega)]
theorem LkS_chg (h : LkS st n l) (hO : LkOK n l) (hO' : LkOK n l') (hn : n ≤ 12) (hi : i < n) (hj : j < n) (P : ∀ x, ¬ lkM x i j → (x ∈ l' ↔ x ∈ l)) (hz : lkV i j l' = z) : LkS (nwS st i j z) n l' := by
  intro a b ha hb
  unfold nwS
  by_cases c1 : 12 * a + b + 152 = i + 12 * j + 152
  · have e1 : a = j := by omega
    have e2 : b = i := by omega
    subst e1
    subst e2
    rw [c1, upd_eq, ← hz, lkV_sym]
  · rw [upd_ne c1]
    by_cases c2 : 12 * a + b + 152 = 12 * i + j + 152
    · have e1 : a = i := by omega
      have e2 : b = j := by omega
      subst e1
      subst e2
      rw [upd_eq, hz]
    · rw [upd_ne c2, h a b ha hb]
      refine (lkV_same hO hO' (fun x hm => P x (fun hm2 => ?_))).symm
      unfold lkM at hm hm2
      have : ¬ (a = i ∧ b = j) := fun q => c2 (by rw [q.1, q.2])
      have : ¬ (a = j ∧ b = i) := fun q => c1 (by rw [q.1, q.2]; omega)
      omega
theorem lkOK_add (h : LkOK n l) (hi : i < n) (hj : j < n) (hij : ¬ i = j) (hz : rg z 1 100000) (hn : ∀ x ∈ l, ¬ lkM x i j) : LkOK n (l ++ [(i, j, z)]) := by
  refine ⟨fun x hx => ?_, ?_⟩
  · rcases List.mem_append.mp hx with h1 | h1
    · exact h.1 x h1
    · rw [List.mem_singleton.mp h1]
      exact ⟨hi, hj, hij, hz⟩
  · rw [List.pairwise_append]
    refine ⟨h.2, List.pairwise_singleton _ _, fun x hx y hy => ?_⟩
    rw [List.mem_singleton.mp hy]
    exact hn x hx
theorem lk_dec {p : Nat} {x : Lk} (hp : l[p]? = some x) : ∃ X Y, l = X ++ x :: Y ∧ X.length = p := by
  have h := (List.getElem?_eq_some_iff.mp hp)
  obtain ⟨hl, hx⟩ := h
  refine ⟨l.take p, l.drop (p + 1), ?_, by rw [List.length_take]; omega⟩
  rw [← hx, ← List.drop_eq_getElem_cons hl, List.take_append_drop]
theorem lkOK_new {X Y : List Lk} {x y : Lk} (h : LkOK n (X ++ x :: Y)) (hxy : y.1 = x.1 ∧ y.2.1 = x.2.1) (hz : rg y.2.2 1 100000) : LkOK n (X ++ y :: Y) := by
  obtain ⟨h1, h2⟩ := h
  have hx := h1 x (List.mem_append.mpr (Or.inr List.mem_cons_self))
  refine ⟨fun w hw => ?_, ?_⟩
  · rcases List.mem_append.mp hw with q | q
    · exact h1 w (List.mem_append.mpr (Or.inl q))
    · rcases List.mem_cons.mp q with q | q
      · rw [q, hxy.1, hxy.2]
        exact ⟨hx.1, hx.2.1, hx.2.2.1, hz⟩
      · exact h1 w (List.mem_append.mpr (Or.inr (List.mem_cons_of_mem _ q)))
  · rw [List.pairwise_append, List.pairwise_cons] at h2 ⊢
    obtain ⟨a, ⟨b, c⟩, e⟩ := h2
    refine ⟨a, ⟨fun w hw q => b w hw ?_, c⟩, fun u hu w hw => ?_⟩
    · unfold lkM at q ⊢
      omega
    · rcases List.mem_cons.mp hw with q | q
      · rw [q, hxy.1, hxy.2]
        exact e u hu x List.mem_cons_self
      · exact e u hu w (List.mem_cons_of_mem _ q)
theorem lkOK_off {X Y : List Lk} {x : Lk} (h : LkOK n (X ++ x :: Y)) : LkOK n (X ++ Y) := by
  have p : (X ++ x :: Y).Perm (x :: (X ++ Y)) := List.perm_middle
  have h' := h.perm p
  exact ⟨fun w hw => h'.1 w (List.mem_cons_of_mem _ hw), (List.pairwise_cons.mp h'.2).2⟩
theorem lk_un {X Y : List Lk} {x w : Lk} (h : LkOK n (X ++ x :: Y)) (hx : lkM x i j) (hw : w ∈ X ++ Y) : ¬ lkM w i j := by
  have h' := h.perm (List.perm_middle : (X ++ x :: Y).Perm (x :: (X ++ Y)))
  exact fun hm => (List.pairwise_cons.mp h'.2).1 w hw (lkM_tr hx hm)
variable {G : Cx} {m m1 : Mm} {c nl nh : Nat} {en : Nat → Int64} {L : List Ru} {st' : Nat → Int32}
theorem CR.lnk (h : CR m c st en n nl nh L l) (hf : ∀ f a, (f = 6 → a ≠ c) → (∀ k, k < 24 → a ≠ lk c k) → fi m1 f a = fi m f a) (hfl : ∀ f a, fl m1 f a = fl m f a) (hai : ∀ a k, ai m1 a k = ai m a k) (hC : LkC m1 c l') (hO : LkOK n l') (hS : LkS st' n l') (h1 : ∀ k, k < 152 ∨ 296 ≤ k → st' k = st k) : CR m1 c st' en n nl nh L l' := by
  obtain ⟨⟨s1, s2, s3, ⟨e1, e2, e3⟩, s5⟩, b, a3, a4, a5, a6, a7, a8⟩ := h
  refine ⟨⟨Out.rf, K6.rf, fun k hk hd => ?_, ⟨(hfl _ _).trans e1, (hfl _ _).trans e2, (hfl _ _).trans e3⟩, fun k hk => ?_⟩, hC, hO, hS, a5.of (fun k => hai _ k) (fun j hj => h1 _ (by omega)), a6.of (fun j k hj => hai _ k) (fun f => hf f _ (fun _ => by omega) (fun k hk => by unfold lk; omega)), a7, (h1 15 (by omega)).trans a8⟩
  · obtain ⟨w1, w2, w3, w4⟩ := vk_ok k hk.lt (by unfold VK at hk; exact hk)
    have w5 : ofC k < 31 ∨ 55 ≤ ofC k := by
      by_cases e : k = 15
      · rw [e]
        decide
      · have := w4 e
        omega
    rw [hf _ _ (fun q => absurd q w2) (fun q hq => by unfold lk; omega), h1 k (by unfold VK at hk; omega)]
    exact s3 k hk hd
  · have eo : own st' 16 = own st 16 := by unfold own; rw [h1 16 (by omega)]
    rw [eo] at hk
    rw [hai, h1 _ (by omega)]
    exact s5 k hk
theorem Iv.lnk {T : Int} (h : Iv T st n nl nh) (e : ∀ k, k < 152 ∨ 296 ≤ k → st' k = st k) : Iv T st' n nl nh := by
  obtain ⟨⟨i1, i2, i3, i4, i5, i6, ⟨j1, j2, j3, j4, j5, j6, j7⟩, i8, i9, i10, i11⟩, i12⟩ := h
  refine ⟨⟨(e 12 (by omega)).trans i1, i2, (e 13 (by omega)).trans i3, i4, (e 14 (by omega)).trans i5, i6, ⟨?_, ?_, ?_, ?_, ?_, ?_, ?_⟩, fun i hi => ?_, fun i hi => ?_, fun i hi => ?_, ?_⟩, fun i hi => ?_⟩
  · rw [e 0 (by omega)]; exact j1
  · rw [e 1 (by omega)]; exact j2
  · rw [e 2 (by omega)]; exact j3
  · rw [e 8 (by omega)]; exact j4
  · rw [e 9 (by omega)]; exact j5
  · rw [e 10 (by omega)]; exact j6
  · rw [e 11 (by omega), e 10 (by omega)]; exact j7
  · have := i8 i hi
    unfold InvN at this ⊢
    rw [e (11 * i + 20) (by omega), e (11 * i + 21) (by omega), e (11 * i + 29) (by omega), e (11 * i + 30) (by omega), e 0 (by omega)]
    exact this
  · have := i9 i hi
    unfold InvL at this ⊢
    rw [e (7 * i + 296) (by omega), e (7 * i + 298) (by omega), e (7 * i + 299) (by omega), e (7 * i + 300) (by omega), e (7 * i + 302) (by omega)]
    exact this
  · have := i10 i hi
    unfold InvH at this ⊢
    rw [e (8 * i + 338) (by omega), e (8 * i + 339) (by omega), e (8 * i + 342) (by omega), e (8 * i + 344) (by omega)]
    exact this
  · rw [e 16 (by omega), i11]
    exact congrArg nI (vcnt_eq n (fun j hj => e _ (by omega))).symm
  · rw [e _ (by omega)]
    exact i12 i hi
end LNK2
theorem LkC_at {m : Mm} {c k : Nat} {l : List Lk} {x : Lk} (h : LkC m c l) (hx : l[k]? = some x) : fi m 200 (lk c k) = nI x.1 ∧ fi m 201 (lk c k) = nI x.2.1 ∧ fi m 202 (lk c k) = x.2.2 := h.2.2 k x hx
/-- a link more -/
theorem LkC_add {m : Mm} {c : Nat} {l : List Lk} {i j : Nat} {z : Int32} (h : LkC m c l) (hl : l.length < 24) : LkC (wfi (wfi (wfi (wfi m 200 (lk c l.length) (nI i)) 201 (lk c l.length) (nI j)) 202 (lk c l.length) z) 6 c (nI (l.length + 1))) c (l ++ [(i, j, z)]) := by
  have hll : (l ++ [(i, j, z)]).length = l.length + 1 := List.length_append
  refine ⟨fi_eq.trans (by rw [hll]), by omega, fun k x hk => ?_⟩
  by_cases e : k < l.length
  · rw [List.getElem?_append_left e] at hk
    have ne : lk c k ≠ lk c l.length := by unfold lk; omega
    obtain ⟨q1, q2, q3⟩ := h.2.2 k x hk
    exact ⟨(fi_ne (by decide)).trans ((fi_na ne).trans ((fi_na ne).trans ((fi_na ne).trans q1))), (fi_ne (by decide)).trans ((fi_na ne).trans ((fi_na ne).trans ((fi_na ne).trans q2))), (fi_ne (by decide)).trans ((fi_na ne).trans ((fi_na ne).trans ((fi_na ne).trans q3)))⟩
  · have h1 := (List.getElem?_eq_some_iff.mp hk).1
    have ek : k = l.length := by omega
    subst ek
    rw [List.getElem?_append_right (Nat.le_refl _), Nat.sub_self] at hk
    cases hk
    exact ⟨(fi_ne (by decide)).trans ((fi_ne (by decide)).trans ((fi_ne (by decide)).trans fi_eq)), (fi_ne (by decide)).trans ((fi_ne (by decide)).trans fi_eq), (fi_ne (by decide)).trans fi_eq⟩
/-- another conductance -/
theorem LkC_set {m : Mm} {c p : Nat} {X Y : List Lk} {x : Lk} {z : Int32} (h : LkC m c (X ++ x :: Y)) (hX : X.length = p) : LkC (wfi m 202 (lk c p) z) c (X ++ (x.1, x.2.1, z) :: Y) := by
  obtain ⟨h1, h2, h3⟩ := h
  have hll : ∀ w : Lk, (X ++ w :: Y).length = X.length + Y.length + 1 := fun w => by rw [List.length_append, List.length_cons]; omega
  rw [hll] at h1 h2
  refine ⟨(fi_ne (by decide)).trans (by rw [hll]; exact h1), by rw [hll]; exact h2, fun k w hk => ?_⟩
  by_cases e : k = p
  · have hx := h3 p x (by rw [List.getElem?_append_right (by omega), hX, Nat.sub_self, List.getElem?_cons_zero])
    rw [e, List.getElem?_append_right (by omega), hX, Nat.sub_self, List.getElem?_cons_zero] at hk
    cases hk
    rw [e]
    exact ⟨(fi_ne (by decide)).trans hx.1, (fi_ne (by decide)).trans hx.2.1, fi_eq⟩
  · have hw : (X ++ x :: Y)[k]? = some w := by
      by_cases e2 : k < p
      · rw [List.getElem?_append_left (by omega)] at hk ⊢
        exact hk
      · obtain ⟨t, ht⟩ : ∃ t, k = p + 1 + t := ⟨k - (p + 1), by omega⟩
        rw [List.getElem?_append_right (by omega), show k - X.length = t + 1 by omega, List.getElem?_cons_succ] at hk ⊢
        exact hk
    obtain ⟨q1, q2, q3⟩ := h3 k w hw
    have ne : lk c k ≠ lk c p := by unfold lk; omega
    exact ⟨(fi_na ne).trans q1, (fi_na ne).trans q2, (fi_na ne).trans q3⟩
/-- a link less: the last one fills the gap -/
theorem LkC_off {m : Mm} {c p n : Nat} {X Y : List Lk} {x : Lk} (h : LkC m c (X ++ x :: Y)) (hX : X.length = p) (hn : (X ++ x :: Y).length = n + 1) : ∃ Z, Z.Perm (X ++ Y) ∧ LkC (wfi (wfi (wfi (wfi m 6 c (nI n)) 200 (lk c p) (fi m 200 (lk c n))) 201 (lk c p) (fi m 201 (lk c n))) 202 (lk c p) (fi m 202 (lk c n))) c Z := by
  obtain ⟨h1, h2, h3⟩ := h
  have hln : X.length + Y.length = n := by
    rw [List.length_append, List.length_cons] at hn
    omega
  have ne6 : c ≠ lk c p := by unfold lk; omega
  have n6 : fi (wfi (wfi (wfi (wfi m 6 c (nI n)) 200 (lk c p) (fi m 200 (lk c n))) 201 (lk c p) (fi m 201 (lk c n))) 202 (lk c p) (fi m 202 (lk c n))) 6 c = nI n := (fi_na ne6).trans ((fi_na ne6).trans ((fi_na ne6).trans fi_eq))
  have ot : ∀ k f, k ≠ p → fi (wfi (wfi (wfi (wfi m 6 c (nI n)) 200 (lk c p) (fi m 200 (lk c n))) 201 (lk c p) (fi m 201 (lk c n))) 202 (lk c p) (fi m 202 (lk c n))) f (lk c k) = fi m f (lk c k) := fun k f hk => by
    have ne : lk c k ≠ lk c p := by unfold lk; omega
    have nc : lk c k ≠ c := by unfold lk; omega
    exact (fi_na ne).trans ((fi_na ne).trans ((fi_na ne).trans (fi_na nc)))
  have at_p : ∀ f, f = 200 ∨ f = 201 ∨ f = 202 → fi (wfi (wfi (wfi (wfi m 6 c (nI n)) 200 (lk c p) (fi m 200 (lk c n))) 201 (lk c p) (fi m 201 (lk c n))) 202 (lk c p) (fi m 202 (lk c n))) f (lk c p) = fi m f (lk c n) := fun f hf => by
    rcases hf with e | e | e
    · rw [e]; exact (fi_ne (by decide)).trans ((fi_ne (by decide)).trans fi_eq)
    · rw [e]; exact (fi_ne (by decide)).trans fi_eq
    · rw [e]; exact fi_eq
  rcases List.eq_nil_or_concat Y with e | ⟨W, y, e⟩
  · subst e
    rw [List.append_nil]
    rw [List.length_nil] at hln
    refine ⟨X, List.Perm.refl _, n6.trans (congrArg nI (by omega)), by omega, fun k w hk => ?_⟩
    have hk1 := (List.getElem?_eq_some_iff.mp hk).1
    obtain ⟨q1, q2, q3⟩ := h3 k w (by rw [List.getElem?_append_left hk1]; exact hk)
    exact ⟨(ot k _ (by omega)).trans q1, (ot k _ (by omega)).trans q2, (ot k _ (by omega)).trans q3⟩
  · rw [List.concat_eq_append] at e
    subst e
    rw [List.length_append, List.length_singleton] at hln
    refine ⟨X ++ y :: W, List.Perm.append_left X (List.perm_append_singleton y W).symm, n6.trans (congrArg nI (by rw [List.length_append, List.length_cons]; omega)), by rw [List.length_append, List.length_cons]; omega, fun k w hk => ?_⟩
    by_cases e : k = p
    · rw [e, List.getElem?_append_right (by omega), hX, Nat.sub_self, List.getElem?_cons_zero] at hk
      cases hk
      have hy := h3 n y (by
        rw [List.getElem?_append_right (by omega), show n - X.length = W.length + 1 by omega, List.getElem?_cons_succ, List.getElem?_append_right (Nat.le_refl _), Nat.sub_self]
        rfl)
      rw [e]
      exact ⟨(at_p _ (by omega)).trans hy.1, (at_p _ (by omega)).trans hy.2.1, (at_p _ (by omega)).trans hy.2.2⟩
    · have hw : (X ++ x :: (W ++ [y]))[k]? = some w := by
        by_cases e2 : k < p
        · rw [List.getElem?_append_left (by omega)] at hk ⊢
          exact hk
        · obtain ⟨t, ht⟩ : ∃ t, k = p + 1 + t := ⟨k - (p + 1), by omega⟩
          rw [List.getElem?_append_right (by omega), show k - X.length = t + 1 by omega, List.getElem?_cons_succ] at hk ⊢
          rw [List.getElem?_append_left (List.getElem?_eq_some_iff.mp hk).1]
          exact hk
      obtain ⟨q1, q2, q3⟩ := h3 k w hw
      exact ⟨(ot k _ e).trans q1, (ot k _ e).trans q2, (ot k _ e).trans q3⟩
