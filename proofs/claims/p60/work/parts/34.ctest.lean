/-! THE CLASS'S RULES: tests, actions, the step -/
theorem CmOK.cod {n nl nh : Nat} {s : List Cd} (h : CmOK n nl nh s) : ∀ c ∈ s, c.1 ≠ 202 ∧ c.1 < 1000 := by
  obtain ⟨a, b, k, ng, rfl, ha, hb, hk⟩ := h
  intro c hc
  have key : ∀ s, SmOK n nl nh s → c ∈ s → c.1 ≠ 202 ∧ c.1 < 1000 := fun s hs hc => by
    have := (hs.2 c hc).1
    unfold ArC isVal at this
    omega
  rw [List.mem_append, List.mem_append, List.mem_cons] at hc
  rcases hc with hc | hc | hc | hc
  · exact key a ha hc
  · exact key b hb hc
  · subst hc
    dsimp only
    omega
  · unfold ngC at hc
    split at hc
    · rw [List.mem_singleton] at hc
      subst hc
      decide
    · exact absurd hc List.not_mem_nil
theorem CmOK.ne {n nl nh : Nat} {s : List Cd} (h : CmOK n nl nh s) : s ≠ [] := by
  obtain ⟨a, b, k, ng, rfl, -⟩ := h
  simp
section CTEST
variable {G : Cx} {d : Nat} {m0 m : Mm} {c : Nat} {Q : Option Value → Mm → Prop} {st : Nat → Int32} {en : Nat → Int64} {n nl nh : Nat} {T : Int}
abbrev EvW (G : Cx) (d c : Nat) (Q : Option Value → Mm → Prop) (e dep : Nat) (sk : Int32) (i : Nat) (m : Mm) : Prop := WP G (d + 4) (0, 0) μX8_evaluate 16 [.ref (c + 10), lvU, .int (nI e), .ref c, .int (nI dep), .int sk, .int (nI i), lvU, lvU] [] m Q
theorem C_cmp {e : Nat} (hF : Full G m0) (hc : IsC G c) (hI : Iv T st n nl nh) (he : e ≤ 500) {s : List Cd} {i : Nat} (hs : CmOK n nl nh s) (hi : i + s.length ≤ e) (hS : CS m0 m c (UD n nl nh) st en) (hC : CodC m0 (c + 10) i s)
    (k : ∀ m', CS m0 m' c (UD n nl nh) st en → al m' (c + 10 + 8) 0 = valM st nh s → EvW G d c Q e 1 0 (i + s.length) m') : EvW G d c Q e 0 0 i m := by
  have ho := hs.okc
  obtain ⟨a, b, q, ng, rfl, ha, hb, hk⟩ := hs
  have ev : valM st nh (a ++ (b ++ ((q, 0) :: ngC ng))) = ngV ng (cmV q (valM st nh a) (valM st nh b)) :=
    (List.cons.inj ((evMs_val st nh ho []).symm.trans (CmOK.val st nh (ng := ng) ha hb hk []))).1
  rw [ev] at k
  obtain ⟨C1, C2⟩ := CodC_app hC
  obtain ⟨C2, C3⟩ := CodC_app C2
  obtain ⟨C3, -, C4⟩ := C3
  simp only [List.length_append, List.length_cons] at hi k
  refine C_evl hF hc hI he a i [] m (by omega) hS C1 ha.2 (OkC_mono (by omega) ha.1) (by decide) trivial (fun _ h => absurd h List.not_mem_nil) (fun m1 h1 A1 B1 => ?_)
  rw [evMs_val st nh ha.1] at A1 B1
  refine C_evl hF hc hI he b (i + a.length) [valM st nh a] m1 (by omega) h1 C2 hb.2 (OkC_mono (by omega) (OkC_sh 1 hb.1)) (show 1 < 63 by decide) A1 B1 (fun m2 h2 A2 B2 => ?_)
  rw [evMs_val st nh hb.1] at A2 B2
  have F2 := h2.full hF
  have hr := isRc hc
  rw [← h2.cod.1] at C3
  have a1 : al m2 (c + 10 + 8) (0 + 1) = valM st nh b := A2.1
  have a0 : al m2 (c + 10 + 8) 0 = valM st nh a := A2.2.1
  have fin : ∀ v, cmV q (valM st nh a) (valM st nh b) = v → EvW G d c Q e 1 0 (i + a.length + b.length + 1) (wal m2 (c + 10 + 8) 0 v) := by
    intro v hv
    have h3 := h2.wS 0 v
    rw [hv] at k
    cases ng with
    | false =>
      have := k _ h3 al_eq
      rw [show i + (a.length + (b.length + ((ngC false).length + 1))) = i + a.length + b.length + 1 by show i + (a.length + (b.length + (0 + 1))) = _; omega] at this
      exact this
    | true =>
      obtain ⟨C5, -, -⟩ := C4
      rw [← h3.cod.1] at C5
      refine bC_ev204 (p := 0) (n := 0) (h3.full hF) hc hr (by have : (ngC true).length = 1 := rfl; omega) (by have : (ngC true).length = 1 := rfl; omega) he C5 (s := 0) (by decide) ?_
      rw [al_eq]
      have := k _ (h3.wS 0 (1 - v)) al_eq
      rw [show i + (a.length + (b.length + ((ngC true).length + 1))) = i + a.length + b.length + 1 + 1 by show i + (a.length + (b.length + (1 + 1))) = _; omega] at this
      exact this
  have hi1 : i + a.length + b.length < 500 := by omega
  have hi2 : i + a.length + b.length < e := by omega
  rcases hk with rfl | rfl | rfl
  · refine bC_ev60 (p := 0) (n := 0) F2 hc hr hi1 hi2 he C3 (s := 0) (by decide) (fun z => ?_) (fun z => ?_)
    · rw [a0, a1] at z
      exact fin 0 (by unfold cmV; rw [if_pos rfl, if_neg z])
    · rw [a0, a1] at z
      exact fin 1 (by unfold cmV; rw [if_pos rfl, if_pos z])
  · refine bC_ev61 (p := 0) (n := 0) F2 hc hr hi1 hi2 he C3 (s := 0) (by decide) (fun z => ?_) (fun z => ?_)
    · rw [a0, a1] at z
      exact fin 0 (by unfold cmV; rw [if_neg (by decide), if_neg (by decide), if_neg z])
    · rw [a0, a1] at z
      exact fin 1 (by unfold cmV; rw [if_neg (by decide), if_neg (by decide), if_pos z])
  · refine bC_ev62 (p := 0) (n := 0) F2 hc hr hi1 hi2 he C3 (s := 0) (by decide) (fun z => ?_) (fun z => ?_)
    · rw [a0, a1] at z
      exact fin 0 (by unfold cmV; rw [if_neg (by decide), if_pos rfl, if_neg z])
    · rw [a0, a1] at z
      exact fin 1 (by unfold cmV; rw [if_neg (by decide), if_pos rfl, if_pos z])
theorem C_tst {e : Nat} (hF : Full G m0) (hc : IsC G c) (hI : Iv T st n nl nh) (he : e ≤ 500) : ∀ gs : List (List (List Cd)), (∀ g ∈ gs, g ≠ [] ∧ ∀ s ∈ g, CmOK n nl nh s) →
    (∀ (xs : List Cd) (i : Nat) (m : Mm), (∀ x ∈ xs, x.1 ≠ 202 ∧ x.1 < 1000) → CodC m0 (c + 10) i (xs ++ clR gs) → i + (xs ++ clR gs).length = e → CS m0 m c (UD n nl nh) st en → (∀ z m', CS m0 m' c (UD n nl nh) st en → (z = 0 ↔ tsV st nh gs = false) → Q (some (.long z)) m') → EvW G d c Q e 0 1 i m) ∧
    (∀ (t : List (List Cd)) (s : List Cd) (i : Nat) (m : Mm), CmOK n nl nh s → (∀ s ∈ t, CmOK n nl nh s) → CodC m0 (c + 10) i (s ++ (clT t ++ clR gs)) → i + (s ++ (clT t ++ clR gs)).length = e → CS m0 m c (UD n nl nh) st en → (∀ z m', CS m0 m' c (UD n nl nh) st en → (z = 0 ↔ ((decide (valM st nh s = 1) && grV st nh t) || tsV st nh gs) = false) → Q (some (.long z)) m') → EvW G d c Q e 0 0 i m) := by
  have hr := isRc hc
  intro gs
  induction gs with
  | nil =>
    intro _
    have sk : ∀ (xs : List Cd) (i : Nat) (m : Mm), (∀ x ∈ xs, x.1 ≠ 202 ∧ x.1 < 1000) → CodC m0 (c + 10) i (xs ++ clR []) → i + (xs ++ clR []).length = e → CS m0 m c (UD n nl nh) st en → (∀ z m', CS m0 m' c (UD n nl nh) st en → (z = 0 ↔ tsV st nh [] = false) → Q (some (.long z)) m') → EvW G d c Q e 0 1 i m := by
      intro xs
      induction xs with
      | nil =>
        intro i m _ _ hi hS k
        have e1 : i = e := hi
        subst e1
        exact bC_evz (hS.full hF) hc hr he (k 0 m hS ⟨fun _ => rfl, fun _ => rfl⟩)
      | cons x xs ih =>
        intro i m hx hC hi hS k
        obtain ⟨c1, -, c3⟩ := hC
        rw [← hS.cod.1] at c1
        rw [List.cons_append, List.length_cons] at hi
        obtain ⟨x1, x2⟩ := hx x List.mem_cons_self
        refine bC_evs (s := 0) (hS.full hF) hc hr (by omega) (by omega) he c1 x2 (fun z => absurd z x1) (fun _ => ?_)
        exact ih (i + 1) m (fun y hy => hx y (List.mem_cons_of_mem _ hy)) c3 (by omega) hS k
    refine ⟨sk, ?_⟩
    intro t
    induction t with
    | nil =>
      intro s i m hs _ hC hi hS k
      simp only [List.length_append] at hi
      have hz : (clT ([] : List (List Cd))).length = 0 := rfl
      have hz2 : (clR ([] : List (List (List Cd)))).length = 0 := rfl
      refine C_cmp hF hc hI he hs (by omega) hS (CodC_app hC).1 (fun m1 h1 A1 => ?_)
      rw [show i + s.length = e by omega]
      refine bC_evx (s := 0) (h1.full hF) hc hr he (by decide) ?_
      rw [A1]
      refine k _ m1 h1 ?_
      rcases hs.v01 st nh with v | v
      · rw [v]; exact ⟨fun _ => rfl, fun _ => rfl⟩
      · rw [v]; exact ⟨fun z => absurd z (by decide), fun z => absurd z (by simp [grV])⟩
    | cons s' t ih =>
      intro s i m hs ht hC hi hS k
      obtain ⟨C1, C2⟩ := CodC_app hC
      have e1 : clT (s' :: t) ++ clR [] = (203, 0) :: (s' ++ (clT t ++ clR [])) := by
        show ((203, 0) :: s') ++ clT t ++ clR [] = _
        simp
      rw [e1] at C2 hi
      obtain ⟨c1, -, c3⟩ := C2
      simp only [List.length_append, List.length_cons] at hi
      refine C_cmp hF hc hI he hs (by omega) hS C1 (fun m1 h1 A1 => ?_)
      rw [← h1.cod.1] at c1
      refine bC_ev203 (s := 0) (p := 0) (n := 0) (h1.full hF) hc hr (by omega) (by omega) he c1 (fun z => ?_) (fun z => ?_)
      · rw [A1] at z
        refine sk (s' ++ clT t) (i + s.length + 1) m1 ?_ (by rw [List.append_assoc]; exact c3) (by simp only [List.length_append]; omega) h1 (fun z' m' h' hz => k z' m' h' ?_)
        · intro x hx
          rcases List.mem_append.mp hx with hx | hx
          · exact (ht s' List.mem_cons_self).cod x hx
          · obtain ⟨y, hy, hx⟩ := List.mem_flatMap.mp hx
            rcases List.mem_cons.mp hx with rfl | hx
            · decide
            · exact (ht y (List.mem_cons_of_mem _ hy)).cod x hx
        · rw [z]
          exact hz
      · rw [A1] at z
        refine ih s' (i + s.length + 1) m1 (ht s' List.mem_cons_self) (fun y hy => ht y (List.mem_cons_of_mem _ hy)) c3 (by simp only [List.length_append]; omega) h1 (fun z' m' h' hz => k z' m' h' ?_)
        have v1 : valM st nh s = 1 := (hs.v01 st nh).resolve_left z
        rw [v1]
        exact hz
  | cons g gs ihg =>
    intro hgs
    obtain ⟨hg1, hg2⟩ := hgs g List.mem_cons_self
    obtain ⟨J1, J2⟩ := ihg (fun g' hg' => hgs g' (List.mem_cons_of_mem _ hg'))
    cases g with
    | nil => exact absurd rfl hg1
    | cons s0 t0 =>
    have eR : clR ((s0 :: t0) :: gs) = (202, 0) :: (s0 ++ (clT t0 ++ clR gs)) := by
      show ((202, 0) :: (s0 ++ clT t0)) ++ clR gs = _
      simp
    have eT : tsV st nh ((s0 :: t0) :: gs) = ((decide (valM st nh s0 = 1) && grV st nh t0) || tsV st nh gs) := rfl
    rw [eR, eT]
    have nxt : ∀ (i : Nat) (m : Mm), CodC m0 (c + 10) i (s0 ++ (clT t0 ++ clR gs)) → i + (s0 ++ (clT t0 ++ clR gs)).length = e → CS m0 m c (UD n nl nh) st en → (∀ z m', CS m0 m' c (UD n nl nh) st en → (z = 0 ↔ ((decide (valM st nh s0 = 1) && grV st nh t0) || tsV st nh gs) = false) → Q (some (.long z)) m') → EvW G d c Q e 0 0 i m := fun i m h1 h2 h3 h4 => J2 t0 s0 i m (hg2 s0 List.mem_cons_self) (fun s hs => hg2 s (List.mem_cons_of_mem _ hs)) h1 h2 h3 h4
    generalize ((decide (valM st nh s0 = 1) && grV st nh t0) || tsV st nh gs) = B at nxt ⊢
    generalize s0 ++ (clT t0 ++ clR gs) = rest at nxt ⊢
    have sk : ∀ (xs : List Cd) (i : Nat) (m : Mm), (∀ x ∈ xs, x.1 ≠ 202 ∧ x.1 < 1000) → CodC m0 (c + 10) i (xs ++ (202, 0) :: rest) → i + (xs ++ (202, 0) :: rest).length = e → CS m0 m c (UD n nl nh) st en → (∀ z m', CS m0 m' c (UD n nl nh) st en → (z = 0 ↔ B = false) → Q (some (.long z)) m') → EvW G d c Q e 0 1 i m := by
      intro xs
      induction xs with
      | nil =>
        intro i m _ hC hi hS k
        obtain ⟨c1, -, c3⟩ := hC
        rw [← hS.cod.1] at c1
        rw [List.nil_append, List.length_cons] at hi
        refine bC_evs (s := 0) (hS.full hF) hc hr (by omega) (by omega) he c1 (by decide) (fun _ => ?_) (fun z => absurd rfl z)
        exact nxt (i + 1) m c3 (by omega) hS k
      | cons x xs ih =>
        intro i m hx hC hi hS k
        obtain ⟨c1, -, c3⟩ := hC
        rw [← hS.cod.1] at c1
        rw [List.cons_append, List.length_cons] at hi
        obtain ⟨x1, x2⟩ := hx x List.mem_cons_self
        refine bC_evs (s := 0) (hS.full hF) hc hr (by omega) (by omega) he c1 x2 (fun z => absurd z x1) (fun _ => ?_)
        exact ih (i + 1) m (fun y hy => hx y (List.mem_cons_of_mem _ hy)) c3 (by omega) hS k
    refine ⟨sk, ?_⟩
    intro t
    induction t with
    | nil =>
      intro s i m hs _ hC hi hS k
      obtain ⟨C1, C2⟩ := CodC_app hC
      have e1 : clT ([] : List (List Cd)) ++ ((202, 0) :: rest) = (202, 0) :: rest := rfl
      rw [e1] at C2 hi
      obtain ⟨c1, -, c3⟩ := C2
      simp only [List.length_append, List.length_cons] at hi
      refine C_cmp hF hc hI he hs (by omega) hS C1 (fun m1 h1 A1 => ?_)
      rw [← h1.cod.1] at c1
      refine bC_ev202 (s := 0) (p := 0) (n := 0) (h1.full hF) hc hr (by omega) (by omega) he c1 (fun z => ?_) (fun z => ?_)
      · rw [A1] at z
        refine nxt (i + s.length + 1) m1 c3 (by omega) h1 (fun z' m' h' hz => k z' m' h' ?_)
        rw [z]
        exact hz
      · rw [A1] at z
        refine k 1 m1 h1 ?_
        have v1 : valM st nh s = 1 := (hs.v01 st nh).resolve_left z
        rw [v1]
        exact ⟨fun z => absurd z (by decide), fun z => absurd z (by simp [grV])⟩
    | cons s' t ih =>
      intro s i m hs ht hC hi hS k
      obtain ⟨C1, C2⟩ := CodC_app hC
      have e1 : clT (s' :: t) ++ ((202, 0) :: rest) = (203, 0) :: (s' ++ (clT t ++ ((202, 0) :: rest))) := by
        show ((203, 0) :: s') ++ clT t ++ ((202, 0) :: rest) = _
        simp
      rw [e1] at C2 hi
      obtain ⟨c1, -, c3⟩ := C2
      simp only [List.length_append, List.length_cons] at hi
      refine C_cmp hF hc hI he hs (by omega) hS C1 (fun m1 h1 A1 => ?_)
      rw [← h1.cod.1] at c1
      refine bC_ev203 (s := 0) (p := 0) (n := 0) (h1.full hF) hc hr (by omega) (by omega) he c1 (fun z => ?_) (fun z => ?_)
      · rw [A1] at z
        refine sk (s' ++ clT t) (i + s.length + 1) m1 ?_ (by rw [List.append_assoc]; exact c3) (by simp only [List.length_append, List.length_cons]; omega) h1 (fun z' m' h' hz => k z' m' h' ?_)
        · intro x hx
          rcases List.mem_append.mp hx with hx | hx
          · exact (ht s' List.mem_cons_self).cod x hx
          · obtain ⟨y, hy, hx⟩ := List.mem_flatMap.mp hx
            rcases List.mem_cons.mp hx with rfl | hx
            · decide
            · exact (ht y (List.mem_cons_of_mem _ hy)).cod x hx
        · rw [z]
          exact hz
      · rw [A1] at z
        refine ih s' (i + s.length + 1) m1 (ht s' List.mem_cons_self) (fun y hy => ht y (List.mem_cons_of_mem _ hy)) c3 (by simp only [List.length_append, List.length_cons]; omega) h1 (fun z' m' h' hz => k z' m' h' ?_)
        have v1 : valM st nh s = 1 := (hs.v01 st nh).resolve_left z
        rw [v1]
        exact hz
end CTEST
