/-! PARTS ADDED -/
section GROW
variable {n nl nh n' nl' nh' : Nat}
theorem CdOK.mono (h1 : n ≤ n') (h2 : nl ≤ nl') (h3 : nh ≤ nh') {c : Cd} (h : CdOK n nl nh c) : CdOK n' nl' nh' c := by
  unfold CdOK at h ⊢
  rcases h with h | ⟨a, h⟩ | ⟨a, h⟩ | ⟨a, h⟩ | h
  · exact Or.inl h
  · exact Or.inr (Or.inl ⟨a, by omega⟩)
  · exact Or.inr (Or.inr (Or.inl ⟨a, by omega⟩))
  · exact Or.inr (Or.inr (Or.inr (Or.inl ⟨a, by omega⟩)))
  · exact Or.inr (Or.inr (Or.inr (Or.inr h)))
theorem SmOK.mono (h1 : n ≤ n') (h2 : nl ≤ nl') (h3 : nh ≤ nh') {s : List Cd} (h : SmOK n nl nh s) : SmOK n' nl' nh' s := ⟨h.1, fun c hc => ⟨(h.2 c hc).1, (h.2 c hc).2.mono h1 h2 h3⟩⟩
theorem CmOK.mono (h1 : n ≤ n') (h2 : nl ≤ nl') (h3 : nh ≤ nh') {s : List Cd} (h : CmOK n nl nh s) : CmOK n' nl' nh' s := by
  obtain ⟨a, b, k, ng, e, ha, hb, hk⟩ := h
  exact ⟨a, b, k, ng, e, ha.mono h1 h2 h3, hb.mono h1 h2 h3, hk⟩
theorem RuC.mono (h1 : n ≤ n') (h2 : nl ≤ nl') (h3 : nh ≤ nh') {R : Ru} (h : RuC n nl nh R) : RuC n' nl' nh' R := by
  obtain ⟨a1, a2, a3, a4, a5⟩ := h
  exact ⟨fun g hg => ⟨(a1 g hg).1, fun s hs => ((a1 g hg).2 s hs).mono h1 h2 h3⟩, a2, fun e => by have := a3 e; omega, fun e => by have := a4 e; omega, fun e => ⟨by have := (a5 e).1; omega, (a5 e).2.mono h1 h2 h3⟩⟩
variable {G : Cx} {m0 m m1 m2 : Mm} {c : Nat} {st st' : Nat → Int32} {en en' : Nat → Int64} {L : List Ru} {l l' : List Lk} {A : Ab} {s' : Sc} {T : Int}
theorem CR.mk (h : CR m0 c st en n nl nh L l) (hS : CS m0 m c (UD n' nl' nh') st' en') (hLO : LkOK n' l) (hLS : LkS st' n' l) (hRk : RkC m c st' nh') (hR : ∀ R ∈ L, RuC n' nl' nh' R) (h15 : st' 15 = st 15) : CR m c st' en' n' nl' nh' L l := by
  obtain ⟨a1, ⟨b1, b2, b3⟩, a3, a4, a5, a6, a7, a8⟩ := h
  refine ⟨⟨Out.rf, K6.rf, hS.2.2⟩, ⟨hS.2.1.1.trans b1, b2, fun i x hx => ?_⟩, hLO, hLS, hRk, a6.of (fun j k hj => hS.1.ai (by unfold SA; omega) k) (fun f => hS.1.fi (by unfold SA; omega) f), hR, h15.trans a8⟩
  obtain ⟨c1, c2, c3⟩ := b3 i x hx
  have hi : i < l.length := (List.getElem?_eq_some_iff.mp hx).1
  have hlk : ¬ SA c (lk c i) := by unfold SA lk; omega
  exact ⟨(hS.1.fi hlk _).trans c1, (hS.1.fi hlk _).trans c2, (hS.1.fi hlk _).trans c3⟩
/-- the state with a louvre more -/
def adL (st : Nat → Int32) (q : Nat) (o a cl op r : Int32) : Nat → Int32 := upd (upd (upd (upd (upd (upd (upd (upd st (7 * q + 296) o) (7 * q + 297) a) (7 * q + 298) cl) (7 * q + 299) op) (7 * q + 300) r) (7 * q + 301) 0) (7 * q + 302) 0) 13 (nI (q + 1))
theorem adL_ne {q k : Nat} {o a cl op r : Int32} (h : k < 7 * q + 296 ∨ 7 * q + 303 ≤ k) (h2 : k ≠ 13) : adL st q o a cl op r k = st k := by
  unfold adL
  rw [upd_ne h2, upd_ne (by omega), upd_ne (by omega), upd_ne (by omega), upd_ne (by omega), upd_ne (by omega), upd_ne (by omega), upd_ne (by omega)]
theorem adL_v (q : Nat) (o a cl op r : Int32) (hq : q < 6) : adL st q o a cl op r (7 * q + 296) = o ∧ adL st q o a cl op r (7 * q + 298) = cl ∧ adL st q o a cl op r (7 * q + 299) = op ∧ adL st q o a cl op r (7 * q + 300) = r ∧ adL st q o a cl op r (7 * q + 302) = 0 ∧ adL st q o a cl op r 13 = nI (q + 1) := by
  unfold adL
  refine ⟨?_, ?_, ?_, ?_, ?_, ?_⟩
  · iterate 7 rw [upd_ne (by omega)]
    rw [upd_eq]
  · iterate 5 rw [upd_ne (by omega)]
    rw [upd_eq]
  · iterate 4 rw [upd_ne (by omega)]
    rw [upd_eq]
  · iterate 3 rw [upd_ne (by omega)]
    rw [upd_eq]
  · rw [upd_ne (by omega), upd_eq]
  · rw [upd_eq]
theorem Iv_adL {q o : Nat} {a cl op r : Int32} (h : Iv T st n q nh) (hq : q < 6) (ho : o < n) (h1 : rg cl (-200000) 199999) (h2 : rg op (cl.toInt + 1) 200000) (h3 : rg r 1 1000) : Iv T (adL st q (nI o) a cl op r) n (q + 1) nh := by
  obtain ⟨⟨i1, i2, i3, i4, i5, i6, ⟨j1, j2, j3, j4, j5, j6, j7⟩, i8, i9, i10, i11⟩, i12⟩ := h
  have e : ∀ k, (k < 7 * q + 296 ∨ 7 * q + 303 ≤ k) → k ≠ 13 → adL st q (nI o) a cl op r k = st k := fun k h1 h2 => adL_ne h1 h2
  obtain ⟨v0, v2, v3, v4, v6, v13⟩ := adL_v (st := st) q (nI o) a cl op r hq
  refine ⟨⟨(e 12 (by omega) (by omega)).trans i1, i2, v13, by omega, (e 14 (by omega) (by omega)).trans i5, i6, ⟨?_, ?_, ?_, ?_, ?_, ?_, ?_⟩, fun i hi => ?_, fun i hi => ?_, fun i hi => ?_, ?_⟩, fun i hi => by rw [e _ (by omega) (by omega)]; exact i12 i hi⟩
  · rw [e 0 (by omega) (by omega)]; exact j1
  · rw [e 1 (by omega) (by omega)]; exact j2
  · rw [e 2 (by omega) (by omega)]; exact j3
  · rw [e 8 (by omega) (by omega)]; exact j4
  · rw [e 9 (by omega) (by omega)]; exact j5
  · rw [e 10 (by omega) (by omega)]; exact j6
  · rw [e 11 (by omega) (by omega), e 10 (by omega) (by omega)]; exact j7
  · have := i8 i hi
    unfold InvN at this ⊢
    rw [e (11 * i + 20) (by omega) (by omega), e (11 * i + 21) (by omega) (by omega), e (11 * i + 29) (by omega) (by omega), e (11 * i + 30) (by omega) (by omega), e 0 (by omega) (by omega)]
    exact this
  · by_cases hiq : i = q
    · subst hiq
      unfold InvL
      rw [v0, v2, v3, v4, v6]
      exact ⟨⟨o, ho, rfl⟩, h1, h2, h3, Or.inl rfl⟩
    · have := i9 i (by omega)
      unfold InvL at this ⊢
      rw [e (7 * i + 296) (by omega) (by omega), e (7 * i + 298) (by omega) (by omega), e (7 * i + 299) (by omega) (by omega), e (7 * i + 300) (by omega) (by omega), e (7 * i + 302) (by omega) (by omega)]
      exact this
  · have := i10 i hi
    unfold InvH at this ⊢
    rw [e (8 * i + 338) (by omega) (by omega), e (8 * i + 339) (by omega) (by omega), e (8 * i + 342) (by omega) (by omega), e (8 * i + 344) (by omega) (by omega)]
    exact this
  · rw [e 16 (by omega) (by omega), i11]
    exact congrArg nI (vcnt_eq n (fun j hj => e _ (by omega) (by omega))).symm
/-- the state with a heater more -/
def adH (st : Nat → Int32) (q : Nat) (o p lo hi pr : Int32) : Nat → Int32 := upd (upd (upd (upd (upd (upd (upd (upd (upd st (8 * q + 338) o) (8 * q + 339) p) (8 * q + 340) lo) (8 * q + 341) hi) (8 * q + 342) pr) (8 * q + 343) 0) (8 * q + 344) 0) (8 * q + 345) 0) 14 (nI (q + 1))
theorem adH_ne {q k : Nat} {o p lo hi pr : Int32} (h : k < 8 * q + 338 ∨ 8 * q + 346 ≤ k) (h2 : k ≠ 14) : adH st q o p lo hi pr k = st k := by
  unfold adH
  rw [upd_ne h2, upd_ne (by omega), upd_ne (by omega), upd_ne (by omega), upd_ne (by omega), upd_ne (by omega), upd_ne (by omega), upd_ne (by omega), upd_ne (by omega)]
theorem adH_v (q : Nat) (o p lo hi pr : Int32) : adH st q o p lo hi pr (8 * q + 338) = o ∧ adH st q o p lo hi pr (8 * q + 339) = p ∧ adH st q o p lo hi pr (8 * q + 342) = pr ∧ adH st q o p lo hi pr (8 * q + 343) = 0 ∧ adH st q o p lo hi pr (8 * q + 344) = 0 ∧ adH st q o p lo hi pr 14 = nI (q + 1) := by
  unfold adH
  refine ⟨?_, ?_, ?_, ?_, ?_, ?_⟩
  · iterate 8 rw [upd_ne (by omega)]
    rw [upd_eq]
  · iterate 7 rw [upd_ne (by omega)]
    rw [upd_eq]
  · iterate 4 rw [upd_ne (by omega)]
    rw [upd_eq]
  · iterate 3 rw [upd_ne (by omega)]
    rw [upd_eq]
  · iterate 2 rw [upd_ne (by omega)]
    rw [upd_eq]
  · rw [upd_eq]
theorem Iv_adH {q o : Nat} {p lo hi pr : Int32} (h : Iv T st n nl q) (hq : q < 8) (ho : o < n) (h1 : rg p 0 100000) (h2 : rg pr 0 9) : Iv T (adH st q (nI o) p lo hi pr) n nl (q + 1) := by
  obtain ⟨⟨i1, i2, i3, i4, i5, i6, ⟨j1, j2, j3, j4, j5, j6, j7⟩, i8, i9, i10, i11⟩, i12⟩ := h
  have e : ∀ k, (k < 8 * q + 338 ∨ 8 * q + 346 ≤ k) → k ≠ 14 → adH st q (nI o) p lo hi pr k = st k := fun k h1 h2 => adH_ne h1 h2
  obtain ⟨v0, v1, v4, v5, v6, v14⟩ := adH_v (st := st) q (nI o) p lo hi pr
  refine ⟨⟨(e 12 (by omega) (by omega)).trans i1, i2, (e 13 (by omega) (by omega)).trans i3, i4, v14, by omega, ⟨?_, ?_, ?_, ?_, ?_, ?_, ?_⟩, fun i hi => ?_, fun i hi => ?_, fun i hi => ?_, ?_⟩, fun i hi => ?_⟩
  · rw [e 0 (by omega) (by omega)]; exact j1
  · rw [e 1 (by omega) (by omega)]; exact j2
  · rw [e 2 (by omega) (by omega)]; exact j3
  · rw [e 8 (by omega) (by omega)]; exact j4
  · rw [e 9 (by omega) (by omega)]; exact j5
  · rw [e 10 (by omega) (by omega)]; exact j6
  · rw [e 11 (by omega) (by omega), e 10 (by omega) (by omega)]; exact j7
  · have := i8 i hi
    unfold InvN at this ⊢
    rw [e (11 * i + 20) (by omega) (by omega), e (11 * i + 21) (by omega) (by omega), e (11 * i + 29) (by omega) (by omega), e (11 * i + 30) (by omega) (by omega), e 0 (by omega) (by omega)]
    exact this
  · have := i9 i hi
    unfold InvL at this ⊢
    rw [e (7 * i + 296) (by omega) (by omega), e (7 * i + 298) (by omega) (by omega), e (7 * i + 299) (by omega) (by omega), e (7 * i + 300) (by omega) (by omega), e (7 * i + 302) (by omega) (by omega)]
    exact this
  · by_cases hiq : i = q
    · subst hiq
      unfold InvH
      rw [v0, v1, v4, v6]
      exact ⟨⟨o, ho, rfl⟩, h1, h2, Or.inl rfl⟩
    · have := i10 i (by omega)
      unfold InvH at this ⊢
      rw [e (8 * i + 338) (by omega) (by omega), e (8 * i + 339) (by omega) (by omega), e (8 * i + 342) (by omega) (by omega), e (8 * i + 344) (by omega) (by omega)]
      exact this
  · rw [e 16 (by omega) (by omega), i11]
    exact congrArg nI (vcnt_eq n (fun j hj => e _ (by omega) (by omega))).symm
  · by_cases hiq : i = q
    · subst hiq
      exact Or.inl v5
    · rw [e _ (by omega) (by omega)]
      exact i12 i (by omega)
/-- the state with a node more; its links are cleared -/
def clF (st : Nat → Int32) (q : Nat) : Nat → (Nat → Int32)
  | 0 => st
  | j + 1 => upd (upd (clF st q j) (12 * q + j + 152) 0) (12 * j + q + 152) 0
def adN0 (st : Nat → Int32) (q : Nat) (c t e a l : Int32) : Nat → Int32 := upd (upd (upd (upd (upd (upd (upd st (11 * q + 20) c) (11 * q + 21) t) (11 * q + 22) e) (11 * q + 23) a) (11 * q + 24) l) (11 * q + 25) (-200000)) (11 * q + 26) 200000
def adN (st : Nat → Int32) (q : Nat) (c t e a l : Int32) : Nat → Int32 := upd (upd (upd (upd (upd (clF (adN0 st q c t e a l) q 12) (11 * q + 27) t) (11 * q + 28) t) (11 * q + 29) 0) (11 * q + 30) (-1)) 12 (nI (q + 1))
theorem clF_ne {q k : Nat} : ∀ j, (∀ i, i < j → k ≠ 12 * q + i + 152 ∧ k ≠ 12 * i + q + 152) → clF st q j k = st k
  | 0, _ => rfl
  | j + 1, h => by
    show upd (upd (clF st q j) _ _) _ _ k = st k
    rw [upd_ne (h j (by omega)).2, upd_ne (h j (by omega)).1]
    exact clF_ne j (fun i hi => h i (by omega))
theorem clF_z {q : Nat} : ∀ j i, i < j → clF st q j (12 * q + i + 152) = 0 ∧ clF st q j (12 * i + q + 152) = 0
  | 0, i, hi => by omega
  | j + 1, i, hi => by
    have key : ∀ k, clF st q j k = 0 ∨ k = 12 * q + j + 152 ∨ k = 12 * j + q + 152 → clF st q (j + 1) k = 0 := by
      intro k hk
      show upd (upd (clF st q j) _ _) _ _ k = 0
      by_cases e1 : k = 12 * j + q + 152
      · rw [e1, upd_eq]
      · rw [upd_ne e1]
        by_cases e2 : k = 12 * q + j + 152
        · rw [e2, upd_eq]
        · rw [upd_ne e2]
          rcases hk with h | h | h
          · exact h
          · exact absurd h e2
          · exact absurd h e1
    by_cases e : i = j
    · subst e
      exact ⟨key _ (Or.inr (Or.inl rfl)), key _ (Or.inr (Or.inr rfl))⟩
    · obtain ⟨a, b⟩ := clF_z j i (by omega)
      exact ⟨key _ (Or.inl a), key _ (Or.inl b)⟩
theorem adN_ne {q k : Nat} {c t e a l : Int32} (hq : q < 12) (h : k < 11 * q + 20 ∨ (11 * q + 31 ≤ k ∧ k < 152) ∨ 296 ≤ k) (h2 : k ≠ 12) : adN st q c t e a l k = st k := by
  unfold adN
  rw [upd_ne h2, upd_ne (by omega), upd_ne (by omega), upd_ne (by omega), upd_ne (by omega), clF_ne 12 (fun i hi => by omega)]
  unfold adN0
  rw [upd_ne (by omega), upd_ne (by omega), upd_ne (by omega), upd_ne (by omega), upd_ne (by omega), upd_ne (by omega), upd_ne (by omega)]
theorem adN_n {q k : Nat} {c t e a l : Int32} (hq : q < 12) (h : 11 * q + 20 ≤ k ∧ k < 11 * q + 27) : adN st q c t e a l k = adN0 st q c t e a l k := by
  unfold adN
  rw [upd_ne (by omega), upd_ne (by omega), upd_ne (by omega), upd_ne (by omega), upd_ne (by omega), clF_ne 12 (fun i hi => by omega)]
theorem adN_l {q k : Nat} {c t e a l : Int32} (hq : q < 12) (h : 152 ≤ k ∧ k < 296) : adN st q c t e a l k = clF (adN0 st q c t e a l) q 12 k := by
  unfold adN
  rw [upd_ne (by omega), upd_ne (by omega), upd_ne (by omega), upd_ne (by omega), upd_ne (by omega)]
theorem adN_v {q : Nat} (c t e a l : Int32) (hq : q < 12) : adN st q c t e a l (11 * q + 20) = c ∧ adN st q c t e a l (11 * q + 21) = t ∧ adN st q c t e a l (11 * q + 29) = 0 ∧ adN st q c t e a l (11 * q + 30) = -1 ∧ adN st q c t e a l 12 = nI (q + 1) := by
  refine ⟨?_, ?_, ?_, ?_, ?_⟩
  · rw [adN_n hq (by omega)]
    unfold adN0
    iterate 6 rw [upd_ne (by omega)]
    rw [upd_eq]
  · rw [adN_n hq (by omega)]
    unfold adN0
    iterate 5 rw [upd_ne (by omega)]
    rw [upd_eq]
  · unfold adN
    iterate 2 rw [upd_ne (by omega)]
    rw [upd_eq]
  · unfold adN
    rw [upd_ne (by omega), upd_eq]
  · unfold adN
    rw [upd_eq]
theorem LkS_adN {q : Nat} {c t e a ld : Int32} (hq : q < 12) (h : LkS st q l) (hO : LkOK q l) : LkS (adN st q c t e a ld) (q + 1) l := by
  intro i j hi hj
  rw [adN_l hq (by omega)]
  by_cases hiq : i = q
  · subst hiq
    rw [(clF_z 12 j (by omega)).1, lkV_z]
    intro x hx hm
    have := hO.1 x hx
    unfold lkM at hm
    omega
  · by_cases hjq : j = q
    · subst hjq
      rw [(clF_z 12 i (by omega)).2, lkV_z]
      intro x hx hm
      have := hO.1 x hx
      unfold lkM at hm
      omega
    · rw [clF_ne 12 (fun k hk => by omega)]
      unfold adN0
      rw [upd_ne (by omega), upd_ne (by omega), upd_ne (by omega), upd_ne (by omega), upd_ne (by omega), upd_ne (by omega), upd_ne (by omega)]
      exact h i j (by omega) (by omega)
theorem LkOK.mono (h : LkOK n l) (h1 : n ≤ n') : LkOK n' l := ⟨fun x hx => by
  have := h.1 x hx
  exact ⟨by omega, by omega, this.2.2.1, this.2.2.2⟩, h.2⟩
theorem Iv_adN {q : Nat} {c t em a ld : Int32} (h : Iv T st q nl nh) (hq : q < 12) (h1 : rg c 1 100000) (h2 : rg t (-200000) 200000) : Iv T (adN st q c t em a ld) (q + 1) nl nh := by
  obtain ⟨⟨i1, i2, i3, i4, i5, i6, ⟨j1, j2, j3, j4, j5, j6, j7⟩, i8, i9, i10, i11⟩, i12⟩ := h
  have e : ∀ k, (k < 11 * q + 20 ∨ (11 * q + 31 ≤ k ∧ k < 152) ∨ 296 ≤ k) → k ≠ 12 → adN st q c t em a ld k = st k := fun k h1 h2 => adN_ne hq h1 h2
  obtain ⟨v0, v1, v9, v10, v12⟩ := adN_v (st := st) c t em a ld hq
  refine ⟨⟨v12, by omega, (e 13 (by omega) (by omega)).trans i3, i4, (e 14 (by omega) (by omega)).trans i5, i6, ⟨?_, ?_, ?_, ?_, ?_, ?_, ?_⟩, fun i hi => ?_, fun i hi => ?_, fun i hi => ?_, ?_⟩, fun i hi => by rw [e _ (by omega) (by omega)]; exact i12 i hi⟩
  · rw [e 0 (by omega) (by omega)]; exact j1
  · rw [e 1 (by omega) (by omega)]; exact j2
  · rw [e 2 (by omega) (by omega)]; exact j3
  · rw [e 8 (by omega) (by omega)]; exact j4
  · rw [e 9 (by omega) (by omega)]; exact j5
  · rw [e 10 (by omega) (by omega)]; exact j6
  · rw [e 11 (by omega) (by omega), e 10 (by omega) (by omega)]; exact j7
  · by_cases hiq : i = q
    · subst hiq
      unfold InvN
      rw [v0, v1, v9, v10, e 0 (by omega) (by omega)]
      exact ⟨h1, h2, ⟨by decide, j1.1⟩, ⟨fun _ => rfl, fun _ => rfl⟩⟩
    · have := i8 i (by omega)
      unfold InvN at this ⊢
      rw [e (11 * i + 20) (by omega) (by omega), e (11 * i + 21) (by omega) (by omega), e (11 * i + 29) (by omega) (by omega), e (11 * i + 30) (by omega) (by omega), e 0 (by omega) (by omega)]
      exact this
  · obtain ⟨⟨o, ho, eo⟩, hb⟩ := i9 i hi
    unfold InvL
    rw [e (7 * i + 296) (by omega) (by omega), e (7 * i + 298) (by omega) (by omega), e (7 * i + 299) (by omega) (by omega), e (7 * i + 300) (by omega) (by omega), e (7 * i + 302) (by omega) (by omega)]
    exact ⟨⟨o, by omega, eo⟩, hb⟩
  · obtain ⟨⟨o, ho, eo⟩, hb⟩ := i10 i hi
    unfold InvH
    rw [e (8 * i + 338) (by omega) (by omega), e (8 * i + 339) (by omega) (by omega), e (8 * i + 342) (by omega) (by omega), e (8 * i + 344) (by omega) (by omega)]
    exact ⟨⟨o, by omega, eo⟩, hb⟩
  · rw [e 16 (by omega) (by omega), i11]
    have hv : vcnt (adN st q c t em a ld) (q + 1) = vcnt (adN st q c t em a ld) q + (if adN st q c t em a ld (11 * q + 29) = 0 then 0 else 1) := rfl
    rw [hv, v9, if_pos rfl, vcnt_eq q (fun j hj => e _ (by omega) (by omega)), Nat.add_zero]
end GROW
