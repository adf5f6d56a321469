/-! THE CLASS'S RULES: evaluate -/
def CodC (m : Mm) (r : Nat) : Nat → List Cd → Prop
  | _, [] => True
  | i, c :: cs => ai m (r + 1) i = nI c.1 ∧ ai m (r + 2) i = nI c.2 ∧ CodC m r (i + 1) cs
theorem CodC_app {m : Mm} {r : Nat} : ∀ {a b : List Cd} {i : Nat}, CodC m r i (a ++ b) → CodC m r i a ∧ CodC m r (i + a.length) b
  | [], _, _, h => ⟨trivial, h⟩
  | c :: a, b, i, ⟨h1, h2, h3⟩ => by
    obtain ⟨q1, q2⟩ := CodC_app h3
    refine ⟨⟨h1, h2, q1⟩, ?_⟩
    rw [List.length_cons, show i + (a.length + 1) = i + 1 + a.length by omega]
    exact q2
def clT (t : List (List Cd)) : List Cd := t.flatMap (fun s => (203, 0) :: s)
def clG : List (List Cd) → List Cd
  | [] => []
  | s :: t => s ++ clT t
def clR (gs : List (List (List Cd))) : List Cd := gs.flatMap (fun g => (202, 0) :: clG g)
def clC : List (List (List Cd)) → List Cd
  | [] => []
  | g :: t => clG g ++ clR t
def BndS (s : List Int64) : Prop := ∀ x ∈ s, -1000000000000 ≤ x.toInt ∧ x.toInt ≤ 1000000000000
theorem limL_id {v : Int64} (h : -1000000000000 ≤ v.toInt ∧ v.toInt ≤ 1000000000000) : limL v = v := by
  have e1 : (1000000000000 : Int64).toInt = 1000000000000 := by decide
  have e2 : (-1000000000000 : Int64).toInt = -1000000000000 := by decide
  unfold limL lmax lmin
  simp only [Int64.lt_iff_toInt_lt]
  repeat' split
  all_goals first | rfl | (exfalso; omega) | exact Int64.toInt_inj.mp (by omega)
theorem limL_b (v : Int64) : -1000000000000 ≤ (limL v).toInt ∧ (limL v).toInt ≤ 1000000000000 := by
  have e1 : (1000000000000 : Int64).toInt = 1000000000000 := by decide
  have e2 : (-1000000000000 : Int64).toInt = -1000000000000 := by decide
  unfold limL lmax lmin
  simp only [Int64.lt_iff_toInt_lt]
  repeat' split
  all_goals omega
theorem limF_L (v : Int64) : limF v (-1000000000000) 1000000000000 = limL v := limF_eq (by decide)
theorem labs_i {a : Int64} (h : -1000000000000 ≤ a.toInt ∧ a.toInt ≤ 1000000000000) : (labs a).toInt = a.toInt.natAbs := by
  have z : (0 : Int64).toInt = 0 := rfl
  unfold labs
  simp only [Int64.lt_iff_toInt_lt]
  split
  · omega
  · rw [Int64.toInt_neg, Int.bmod_eq_of_le (by omega) (by omega)]
    omega
theorem prod_b {a b : Int64} (ha : -1000000000000 ≤ a.toInt ∧ a.toInt ≤ 1000000000000) (hb : -1000000000000 ≤ b.toInt ∧ b.toInt ≤ 1000000000000) : -1000000000000 ≤ (prodF a b).toInt ∧ (prodF a b).toInt ≤ 1000000000000 := by
  have e1 : (1000000000000 : Int64).toInt = 1000000000000 := by decide
  have e2 : (-1000000000000 : Int64).toInt = -1000000000000 := by decide
  have z : (0 : Int64).toInt = 0 := rfl
  unfold prodF
  split
  · rename_i h
    rw [h, Int64.zero_mul]
    decide
  · rename_i h
    split
    · repeat' split
      all_goals omega
    · rename_i h2
      have hne : a.toInt ≠ 0 := fun q => h (Int64.toInt_inj.mp q)
      have hla := labs_i ha
      have hlb := labs_i hb
      rw [Int64.lt_iff_toInt_lt, Int64.toInt_div_of_ne_right _ _ (fun q => by rw [q] at hla; have z2 : (-1 : Int64).toInt = -1 := by decide
                                                                              omega), hla, hlb, e1] at h2
      have h3 : (b.toInt.natAbs : Int) ≤ (1000000000000 : Int).tdiv a.toInt.natAbs := by omega
      have h4 : b.toInt.natAbs ≤ 1000000000000 / a.toInt.natAbs := by
        have : (1000000000000 : Int).tdiv a.toInt.natAbs = ((1000000000000 / a.toInt.natAbs : Nat) : Int) := rfl
        omega
      have h5 : b.toInt.natAbs * a.toInt.natAbs ≤ 1000000000000 := (Nat.le_div_iff_mul_le (by omega)).mp h4
      have h6 : (a.toInt * b.toInt).natAbs ≤ 1000000000000 := by
        rw [Int.natAbs_mul, Nat.mul_comm]
        exact h5
      rw [Int64.toInt_mul, Int.bmod_eq_of_le (by omega) (by omega)]
      omega
theorem quo_b {a b : Int64} (ha : -1000000000000 ≤ a.toInt ∧ a.toInt ≤ 1000000000000) : -1000000000000 ≤ (quoF a b).toInt ∧ (quoF a b).toInt ≤ 1000000000000 := by
  unfold quoF
  split
  · decide
  · have hm : a ≠ Int64.minValue := by
      intro q
      rw [q] at ha
      have : Int64.minValue.toInt = -9223372036854775808 := by decide
      omega
    rw [Int64.toInt_div_of_ne_left _ _ hm]
    have := Int.natAbs_tdiv_le_natAbs a.toInt b.toInt
    omega
theorem toL_b (x : Int32) : -1000000000000 ≤ (Int32.toInt64 x).toInt ∧ (Int32.toInt64 x).toInt ≤ 1000000000000 := by
  rw [Int32.toInt_toInt64]
  have h1 := Int32.le_toInt x
  have h2 := Int32.toInt_lt x
  omega
section CEVAL
variable {G : Cx} {d : Nat} {m0 m : Mm} {c : Nat} {Q : Option Value → Mm → Prop} {st : Nat → Int32} {en : Nat → Int64} {n nl nh : Nat} {T : Int}
theorem CS.wS {D : Nat → Prop} (h : CS m0 m c D st en) (k : Nat) (x : Int64) : CS m0 (wal m (c + 10 + 8) k x) c D st en := by
  obtain ⟨hO, h6, hs, he, hv⟩ := h
  exact ⟨hO.wal (by unfold SA; omega), h6, hs, he, hv⟩
theorem CS.cod (h : CS m0 m c (UD n nl nh) st en) {i : Nat} : ai m (c + 10 + 1) i = ai m0 (c + 10 + 1) i ∧ ai m (c + 10 + 2) i = ai m0 (c + 10 + 2) i :=
  ⟨h.1.ai (by unfold SA; omega) i, h.1.ai (by unfold SA; omega) i⟩
theorem C_evl {e k' : Nat} (hF : Full G m0) (hc : IsC G c) (hI : Iv T st n nl nh) (he : e ≤ 500) : ∀ (cs : List Cd) (i : Nat) (s : List Int64) (m : Mm), i + cs.length ≤ e → CS m0 m c (UD n nl nh) st en → CodC m0 (c + 10) i cs → (∀ x ∈ cs, ArC x ∧ CdOK n nl nh x) → OkC 63 cs s.length k' → s.length < 63 → StkA (al m (c + 10 + 8)) s → BndS s →
    (∀ m', CS m0 m' c (UD n nl nh) st en → StkA (al m' (c + 10 + 8)) (evMs st nh cs s) → BndS (evMs st nh cs s) → WP G (d + 4) (0, 0) μX8_evaluate 16 [.ref (c + 10), lvU, .int (nI e), .ref c, .int (nI k'), .int (0 : Int32), .int (nI (i + cs.length)), lvU, lvU] [] m' Q) → WP G (d + 4) (0, 0) μX8_evaluate 16 [.ref (c + 10), lvU, .int (nI e), .ref c, .int (nI s.length), .int (0 : Int32), .int (nI i), lvU, lvU] [] m Q := by
  have hI' := hI
  obtain ⟨⟨i1, i2, i3, i4, i5, i6, i7, i8, i9, i10, i11⟩, i12⟩ := hI
  have h2 : 0 < st 2 := by
    rw [Int32.lt_iff_toInt_lt]
    have := i7.2.2.1.1
    have z : (0 : Int32).toInt = 0 := rfl
    omega
  have hr := isRc hc
  intro cs
  induction cs with
  | nil =>
    intro i s m hi hS hC hO hD hl hA hB k
    have e1 : s.length = k' := hD
    rw [e1]
    exact k m hS hA hB
  | cons x cs ih =>
    intro i s m hi hS hC hO hD hl hA hB k
    obtain ⟨c1, c2, c3⟩ := hC
    obtain ⟨d1, d2, d3⟩ := hD
    have hF1 := hS.full hF
    have hie : i < e := by simp at hi; omega
    have hi5 : i < 500 := by omega
    rw [← hS.cod.1] at c1
    rw [← hS.cod.2] at c2
    obtain ⟨hx1, hx2⟩ := hO x List.mem_cons_self
    have g5 : fi m 5 c = nI n := (hS.rG 12 rfl rfl (by unfold VK; omega) (by unfold UD; omega)).trans i1
    have g7 : fi m 7 c = nI nl := (hS.rG 13 rfl rfl (by unfold VK; omega) (by unfold UD; omega)).trans i3
    have g8 : fi m 8 c = nI nh := (hS.rG 14 rfl rfl (by unfold VK; omega) (by unfold UD; omega)).trans i5
    have hgo : ∀ (s' : List Int64) (m' : Mm), evM st nh x s = s' → s'.length < 63 → CS m0 m' c (UD n nl nh) st en → StkA (al m' (c + 10 + 8)) s' → BndS s' → WP G (d + 4) (0, 0) μX8_evaluate 16 [.ref (c + 10), lvU, .int (nI e), .ref c, .int (nI s'.length), .int (0 : Int32), .int (nI (i + 1)), lvU, lvU] [] m' Q := by
      intro s' m' h1 h2 h3 h4 hb
      have h5 : s'.length = dpC x s.length := by rw [← h1]; exact evM_len st nh d1
      refine ih (i + 1) s' m' (by simp at hi; omega) h3 c3 (fun c' h => hO c' (List.mem_cons_of_mem _ h)) (by rw [h5]; exact d3) h2 h4 hb (fun m'' h6 h7 h8 => ?_)
      have := k m'' h6 (by rw [← h1] at h7; exact h7) (by rw [← h1] at h8; exact h8)
      rw [List.length_cons, show i + (cs.length + 1) = i + 1 + cs.length by omega] at this
      exact this
    have hpush : ∀ v, evM st nh x s = v :: s → s.length + 1 < 63 → (-1000000000000 ≤ v.toInt ∧ v.toInt ≤ 1000000000000) → ∀ m', CS m0 m' c (UD n nl nh) st en → StkA (al m' (c + 10 + 8)) s → WP G (d + 4) (0, 0) μX8_evaluate 16 [.ref (c + 10), lvU, .int (nI e), .ref c, .int (nI (s.length + 1)), .int (0 : Int32), .int (nI (i + 1)), lvU, lvU] [] (wal m' (c + 10 + 8) s.length v) Q := by
      intro v h1 h2 h3 m' hS' hA'
      refine hgo (v :: s) _ h1 h2 (hS'.wS _ _) (by rw [al_wal_upd]; exact StkA_push s hA') (fun y hy => ?_)
      rcases List.mem_cons.mp hy with rfl | hy
      · exact h3
      · exact hB y hy
    obtain ⟨ck, cp⟩ := x
    dsimp only at c1 c2 hx1 hx2 d1 d2 d3 hgo hpush
    have un : ∀ v, s ≠ [] → ck = 220 → evM st nh (ck, cp) s = v :: s.tail → (-1000000000000 ≤ v.toInt ∧ v.toInt ≤ 1000000000000) → WP G (d + 4) (0, 0) μX8_evaluate 16 [.ref (c + 10), lvU, .int (nI e), .ref c, .int (nI (s.tail.length + 1)), .int (0 : Int32), .int (nI (i + 1)), lvU, lvU] [] (wal m (c + 10 + 8) s.tail.length v) Q := by
      intro v hne _ h1 h3
      cases s with
      | nil => exact absurd rfl hne
      | cons y t =>
        refine hgo (v :: t) _ h1 hl (hS.wS _ _) (by rw [al_wal_upd]; exact StkA_push t hA.2) (fun q hq => ?_)
        rcases List.mem_cons.mp hq with rfl | hq
        · exact h3
        · exact hB q (List.mem_cons_of_mem _ hq)
    have bin : ∀ v y x0 t, s = y :: x0 :: t → evM st nh (ck, cp) s = v :: t → (-1000000000000 ≤ v.toInt ∧ v.toInt ≤ 1000000000000) → WP G (d + 4) (0, 0) μX8_evaluate 16 [.ref (c + 10), lvU, .int (nI e), .ref c, .int (nI (t.length + 1)), .int (0 : Int32), .int (nI (i + 1)), lvU, lvU] [] (wal m (c + 10 + 8) t.length v) Q := by
      intro v y x0 t hs h1 h3
      subst hs
      refine hgo (v :: t) _ h1 (by simp only [List.length_cons] at hl ⊢; omega) (hS.wS _ _) (by rw [al_wal_upd]; exact StkA_push t hA.2.2) (fun q hq => ?_)
      rcases List.mem_cons.mp hq with rfl | hq
      · exact h3
      · exact hB q (List.mem_cons_of_mem _ (List.mem_cons_of_mem _ hq))
    have two : 2 ≤ s.length → ∃ y x0 t, s = y :: x0 :: t := fun h => by
      match s, h with
      | y :: x0 :: t, _ => exact ⟨y, x0, t, rfl⟩
      | [_], h => simp at h
      | [], h => simp at h
    rcases hx1 with (rfl | rfl | rfl | rfl | rfl | rfl | rfl | rfl) | rfl | rfl | rfl | rfl | rfl
    · have hb : cp < 1000000 := by unfold CdOK isBin at hx2; dsimp only at hx2; omega
      exact bC_ev200 (n := 0) hF1 hc hr hi5 hie he c1 c2 (by omega) hb (hpush _ rfl d2 (toL_b _) m hS hA)
    · have hb : cp < n := by unfold CdOK isBin at hx2; dsimp only at hx2; omega
      have t1 : fi m 401 (nd c cp) = st (11 * cp + 21) := hS.rN 1 (by omega) (by omega) (by unfold UD; omega)
      refine bC_ev205 hF1 hc hr hi5 hie he c1 c2 (by omega) g5 i2 hb ?_
      rw [t1]
      exact hpush _ rfl d2 (toL_b _) m hS hA
    · have hb : cp < nl := by unfold CdOK isBin at hx2; dsimp only at hx2; omega
      have t1 : fi m 305 (lv c cp) = st (7 * cp + 301) := hS.rL 5 (by omega) (by omega) (by unfold UD; omega)
      refine bC_ev206 hF1 hc hr hi5 hie he c1 c2 (by omega) g7 i4 hb ?_
      rw [t1]
      exact hpush _ rfl d2 (toL_b _) m hS hA
    · have hb : cp < nh := by unfold CdOK isBin at hx2; dsimp only at hx2; omega
      have t1 : fi m 107 (ht c cp) = st (8 * cp + 345) := hS.rH 7 (by omega) (by omega) (by unfold UD; omega)
      refine bC_ev207 hF1 hc hr hi5 hie he c1 c2 (by omega) g8 i6 hb ?_
      rw [t1]
      exact hpush _ rfl d2 (toL_b _) m hS hA
    · have hb : cp < 1000000 := by unfold CdOK isBin at hx2; dsimp only at hx2; omega
      refine bC_ev208 (n := 0) hF1 hc hr hi5 hie he c1 c2 (by omega) hb (sC_val208 hF1 hc (C_sun hF1 hc hS (fun k hk => by unfold UD; omega) h2 ?_))
      have hp := hpush (if sunF st = 0 then 0 else 1) rfl d2 (by split <;> decide) m hS hA
      refine bC_val208 hF1 hc (fun z => ?_) (fun z => ?_)
      · rw [if_pos z] at hp
        exact bC_ev208r hF1 hc hr hi5 (by omega) hp
      · rw [if_neg z] at hp
        exact bC_ev208r hF1 hc hr hi5 (by omega) hp
    · have hb : cp < 1000000 := by unfold CdOK isBin at hx2; dsimp only at hx2; omega
      refine bC_ev209 (n := 0) hF1 hc hr hi5 hie he c1 c2 (by omega) hb (sC_val209 hF1 hc (C_pha hF1 hc hS (fun k hk => by unfold UD; omega) h2 ?_))
      exact bC_val209 hF1 hc (bC_ev209r hF1 hc hr hi5 (by omega) (hpush _ rfl d2 (toL_b _) m hS hA))
    · have hb : cp < 1000000 := by unfold CdOK isBin at hx2; dsimp only at hx2; omega
      have t1 : fi m 903 (c + 7) = st 11 := hS.rG 11 rfl rfl (by unfold VK; omega) (by unfold UD; omega)
      refine bC_ev210 (n := 0) hF1 hc hr hi5 hie he c1 c2 (by omega) hb ?_
      rw [t1]
      exact hpush _ rfl d2 (toL_b _) m hS hA
    · have hb : cp < 1000000 := by unfold CdOK isBin at hx2; dsimp only at hx2; omega
      refine bC_ev211 (n := 0) hF1 hc hr hi5 hie he c1 c2 (by omega) hb (sC_val211 hF1 hc (C_up hF1 hc hS i5 i6 ?_))
      exact bC_val211 hF1 hc (bC_ev211r hF1 hc hr hi5 (by omega) (hpush _ rfl d2 (toL_b _) m hS hA))
    · match s, d1, hA, hB, hl, un with
      | y :: t, _, hA, hB, hl, un =>
        have by1 := hB y List.mem_cons_self
        refine bC_ev220 (p := 0) (n := 0) hF1 hc hr hi5 hie he c1 (s := t.length) (by simp only [List.length_cons] at hl; omega) ?_
        rw [hA.1, show Int32.toInt64 0 - y = -y from Int64.zero_sub y]
        refine un (-y) (by simp) rfl rfl ?_
        rw [Int64.toInt_neg, Int.bmod_eq_of_le (by omega) (by omega)]
        omega
      | [], d1, _, _, _, _ => exact absurd (show 1 ≤ 0 from d1) (by decide)
    · obtain ⟨y, x0, t, hs⟩ := two d1
      have hA' : StkA (al m (c + 10 + 8)) (y :: x0 :: t) := hs ▸ hA
      rw [hs] at hl ⊢
      refine bC_ev43 (p := 0) (n := 0) hF1 hc hr hi5 hie he c1 (s := t.length) (by simp only [List.length_cons] at hl; omega) ?_
      rw [show al m (c + 10 + 8) (t.length + 1) = y from hA'.1, hA'.2.1, limF_L]
      exact bin _ y x0 t hs (by rw [hs]; rfl) (limL_b _)
    · obtain ⟨y, x0, t, hs⟩ := two d1
      have hA' : StkA (al m (c + 10 + 8)) (y :: x0 :: t) := hs ▸ hA
      rw [hs] at hl ⊢
      refine bC_ev45 (p := 0) (n := 0) hF1 hc hr hi5 hie he c1 (s := t.length) (by simp only [List.length_cons] at hl; omega) ?_
      rw [show al m (c + 10 + 8) (t.length + 1) = y from hA'.1, hA'.2.1, limF_L]
      exact bin _ y x0 t hs (by rw [hs]; rfl) (limL_b _)
    · obtain ⟨y, x0, t, hs⟩ := two d1
      have hA' : StkA (al m (c + 10 + 8)) (y :: x0 :: t) := hs ▸ hA
      have by1 := hB y (by rw [hs]; exact List.mem_cons_self)
      have bx1 := hB x0 (by rw [hs]; exact List.mem_cons_of_mem _ List.mem_cons_self)
      rw [hs] at hl ⊢
      have ey : al m (c + 10 + 8) (t.length + 1) = y := hA'.1
      have ex : al m (c + 10 + 8) t.length = x0 := hA'.2.1
      have hb := prod_b bx1 by1
      have key : ∀ v, prodF x0 y = v → WP G (d + 4) (0, 0) μX8_evaluate 16 [.ref (c + 10), lvU, .int (nI e), .ref c, .int (nI (t.length + 1)), .int (0 : Int32), .int (nI (i + 1)), lvU, lvU] [] (wal m (c + 10 + 8) t.length v) Q := by
        intro v hv
        refine bin v y x0 t hs ?_ (by rw [← hv]; exact hb)
        rw [hs, ← hv, ← limL_id hb]
        rfl
      refine bC_ev42 (p := 0) (n := 0) hF1 hc hr hi5 hie he c1 (s := t.length) (by simp only [List.length_cons] at hl; omega) ?_ (fun z1 => ?_) (fun z1 z2 z3 z4 => ?_) (fun z1 z2 z3 z4 => ?_) (fun z1 z2 z3 z4 => ?_) (fun z1 z2 z3 z4 => ?_) (fun z1 z2 => ?_)
      all_goals try rw [ex]
      · exact fun z => labs_ne0 z
      all_goals try rw [ex] at z1
      all_goals try rw [ex, ey] at z2
      all_goals try rw [ex] at z3
      all_goals try rw [ey] at z4
      all_goals try rw [ey]
      all_goals refine key _ ?_
      · unfold prodF; rw [if_pos z1]
      · unfold prodF; rw [if_neg z1, if_pos z2, if_neg z3, if_neg z4]
      · unfold prodF; rw [if_neg z1, if_pos z2, if_neg z3, if_pos z4]
      · unfold prodF; rw [if_neg z1, if_pos z2, if_pos z3, if_neg z4]
      · unfold prodF; rw [if_neg z1, if_pos z2, if_pos z3, if_pos z4]
      · unfold prodF; rw [if_neg z1, if_neg z2]
    · obtain ⟨y, x0, t, hs⟩ := two d1
      have hA' : StkA (al m (c + 10 + 8)) (y :: x0 :: t) := hs ▸ hA
      have bx1 := hB x0 (by rw [hs]; exact List.mem_cons_of_mem _ List.mem_cons_self)
      rw [hs] at hl ⊢
      refine bC_ev47 (p := 0) (n := 0) hF1 hc hr hi5 hie he c1 (s := t.length) (by simp only [List.length_cons] at hl; omega) ?_
      rw [show al m (c + 10 + 8) (t.length + 1) = y from hA'.1, hA'.2.1]
      have hb := quo_b (b := y) bx1
      refine bin _ y x0 t hs ?_ hb
      rw [hs, ← limL_id hb]
      rfl
end CEVAL
