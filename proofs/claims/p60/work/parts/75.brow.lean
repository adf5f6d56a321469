/-! ROWS OF BIRTH -/
def PL (L : List Nat) : Nat → Nat → Prop := fun j f => j = 0 ∧ f ∈ L
section BROW
variable {G : Cx} {d b1 b2 : Nat} {b : Nat × Nat} {μ : MI} {pc : Nat} {Lo S : List Value} {m0 m : Mm} {Q : Option Value → Mm → Prop} {o n : Nat} {V A : Nat → Nat → Int32} {P P' : Nat → Nat → Prop}
theorem Bd.isK (h : Bd G m0 m o n V A P) {j q : Nat} (hj : j < n) (hq : kd (o + j) = q) : isK G m (gB G + (o + j)) q := ⟨o + j, rfl, by rw [h.1]; omega, hq⟩
theorem bp_newarr {x : Int32} {q N : Nat} {atype : ArrayType} (h : Bd G m0 m o n V A P) (h0 : FrA G m0 (o + n)) (hd : decode μ.2.1 pc = .ok (.newarray atype, 2)) (ha : Cond.arrayClass (newarray.typeOf atype) ∈ tbG) (hkd : kd (o + n) = q) (hq : q = 20 ∨ q = 21 ∨ q = 22 ∨ q = 23) (hg : (gT G)[q - 20]? = some (gY G q, newarray.typeOf atype)) (hprim : ∀ s' : State, ∀ cA, va_RA s' cA (newarray.typeOf atype) → s'.vm.findClass ("[" ++ (newarray.typeOf atype).toString) = some cA)
    (hln : ln (o + n) = N) (hx : x = nI N) (hN : N < 10000) (hb : N * componentBytes (newarray.typeOf atype) ≤ 536870912) (hz : if q = 22 then defaultValue (newarray.typeOf atype) = .long 0 else defaultValue (newarray.typeOf atype) = .int 0) (hV : ∀ f, V n f = 0) (hA : ∀ f, A n f = 0)
    (kk : ∀ m', Bd G m0 m' o (n + 1) V A P → WP G d (b1, b2) μ (pc + 2) Lo (.ref (gB G + (o + n)) :: S) m' Q) : WP G d (b1 + 1, b2 + N) μ pc Lo (.int x :: S) m Q := by
  have hf := (h.2.1 (gB G + (o + n)) (Or.inr (Nat.le_refl _))).fr h0
  have hm := h.1
  have key := kk (wN m (mN m + 1)) (by rw [hm]; exact Bd_new h h0 (fun _ _ _ z => z) (fun f z => by rw [nrl_ar (by omega) (by omega)] at z; cases z) hV hA)
  rw [← hm] at key hkd hln hf
  refine wp_newarr hd ha hkd hq hg hprim hln hx hN hb ?_ key
  by_cases e : q = 22
  · rw [if_pos e] at hz ⊢
    exact ⟨hz, fun k => (hf k).2.2.2.2⟩
  · rw [if_neg e] at hz ⊢
    exact ⟨hz, fun k => (hf k).2.2.2.1⟩
theorem bp_anew {x : Int32} {idx q N : Nat} {C : String} (h : Bd G m0 m o n V A P) (h0 : FrA G m0 (o + n)) (hd : decode μ.2.1 pc = .ok (.anewarray idx, 3)) (hcl : Cond.classLink μ.1.cls idx C ∈ tbG) (hov : Cond.arrayOver (.object C) ∈ lw_tbl) (hkd : kd (o + n) = q) (hq : 24 ≤ q) (hg : (gT G)[q - 20]? = some (gY G q, .object C))
    (hln : ln (o + n) = N) (hx : x = nI N) (hN : N < 10000) (hP : ∀ j f, j < n → P j f → P' j f) (hP' : ∀ f, 100000 ≤ f → f < 100000 + N → P' n f) (hV : ∀ f, V n f = 0) (hA : ∀ f, A n f = 0)
    (kk : ∀ m', Bd G m0 m' o (n + 1) V A P' → WP G d (b1, b2) μ (pc + 3) Lo (.ref (gB G + (o + n)) :: S) m' Q) : WP G d (b1 + 1, b2 + N) μ pc Lo (.int x :: S) m Q := by
  have hf := (h.2.1 (gB G + (o + n)) (Or.inr (Nat.le_refl _))).fr h0
  have hm := h.1
  have nr : ∀ f, nrl (o + n) f = !(decide (100000 ≤ f) && decide (f < 100000 + N)) := fun f => by
    unfold nrl
    rw [if_neg (by omega), if_neg (by omega), hln]
  have key := kk (wN m (mN m + 1)) (by
    rw [hm]
    refine Bd_new h h0 hP (fun f z => ?_) hV hA
    rw [nr] at z
    simp at z
    exact hP' f z.1 z.2)
  have hz : ∀ k, k < N → mI m (100000 + k) (gB G + (o + n)) = false := fun k hk => by
    rw [(hf (100000 + k)).1, nr]
    simp
    omega
  rw [← hm] at key hkd hln hz
  exact wp_anew hd hcl hov hkd hq hg hln hx hN hz key
theorem bp_new {idx ci N : Nat} {C : String} {T : u_T} (ty : Nat → FieldType) (h : Bd G m0 m o n V A P) (h0 : FrA G m0 (o + n)) (hd : decode μ.2.1 pc = .ok (.new idx, 3)) (hc : classes[ci]? = some (C, T, N)) (hcl : Cond.classLink μ.1.cls idx C ∈ tbG) (hin : Cond.instantiable C N ∈ tbG) (hini : Cond.initialized C ∈ tbG) (hws : ∀ w ∈ u_ws C T N, w ∈ tbG)
    (hty : ∀ k, k < N → parseFieldDescriptor (T k).2.2.1 = some (ty k) ∧ ∃ t, (fty ci)[k]? = some t ∧ defaultValue (ty k) = dvl t) (hkd : kd (o + n) = ci)
    (kk : WP G d (b1, b2) μ (pc + 3) Lo (.ref (gB G + (o + n)) :: S) (wN m (o + n + 1)) Q) : WP G d (b1 + 1, b2 + N) μ pc Lo S m Q := by
  have hf := (h.2.1 (gB G + (o + n)) (Or.inr (Nat.le_refl _))).fr h0
  have hm := h.1
  rw [← hm] at kk hkd hf
  refine wp_new ty hd hc hcl hin hini hws hty hkd (fun k t hk => ?_) kk
  have hci := ci_lt hc
  have hk100 : k < 100 := by
    have h1 := (List.getElem?_eq_some_iff.mp hk).1
    have : ∀ c, c < 20 → (fty c).length < 100 := by decide
    have := this ci hci
    omega
  unfold fval dvl
  by_cases e1 : t = 1
  · rw [if_pos e1, if_pos e1, (hf _).2.2.1]
  · rw [if_neg e1, if_neg e1]
    by_cases e2 : t = 2
    · rw [if_pos e2, if_pos e2, if_neg]
      rw [(hf _).1]
      unfold nrl
      rw [hkd, if_pos hci, show (100 * ci + k) / 100 = ci by omega, show (100 * ci + k) % 100 = k by omega, List.getD_eq_getElem?_getD, hk, e2]
      simp
    · rw [if_neg e2, if_neg e2, (hf _).2.1]
theorem bp_putr {q idx ci k j : Nat} (h : Bd G m0 m o n V A P) (hd : decode μ.2.1 pc = .ok (.putfield idx, 3)) (hi0 : μ.1.name = "<init>") (hf : FRk μ.1.cls idx ci k) (hj : j < n) (hk : kd (o + j) = ci) (hq : rr G (100 * ci + k) (gB G + (o + j)) = q) (hP : ∀ j' f', j' < n → P j' f' → P' j' f' ∨ (j' = j ∧ f' = 100 * ci + k)) (kk : ∀ m', Bd G m0 m' o n V A P' → WP G d b μ (pc + 3) Lo S m' Q) : WP G d b μ pc Lo (.ref q :: .ref (gB G + (o + j)) :: S) m Q :=
  wp_putr hd hi0 hf (h.isK hj hk) hq (kk _ (Bd_wI h hj hP))
theorem bp_puti {x : Int32} {idx ci k j : Nat} (h : Bd G m0 m o n V A P) (hd : decode μ.2.1 pc = .ok (.putfield idx, 3)) (hf : FPk μ.1.cls idx ci k 0 .int) (hj : j < n) (hk : kd (o + j) = ci) (kk : ∀ m', Bd G m0 m' o n (fun j' f' => if j' = j ∧ f' = 100 * ci + k then x else V j' f') A P → WP G d b μ (pc + 3) Lo S m' Q) : WP G d b μ pc Lo (.int x :: .ref (gB G + (o + j)) :: S) m Q :=
  wp_puti hd hf (h.isK hj hk) (kk _ (Bd_wfi h hj))
theorem bp_rast {q ci k N j jv : Nat} {r : vw_C} {i : Int32} (h : Bd G m0 m o n V A P) (hd : decode μ.2.1 pc = .ok (.aastore, 1)) (hj : j < n) (hk : kd (o + j) = q) (hq : 24 ≤ q) (hg : (gT G)[q - 20]? = some (gY G q, .object r.1)) (hl : ln (o + j) = N) (hi : i = nI k) (hkn : k < N) (hn : N < 10000) (hjv : jv < n) (hkv : kd (o + jv) = ci) (hc : classes[ci]? = some r) (hv : rr G (100000 + k) (gB G + (o + j)) = gB G + (o + jv)) (hP : ∀ j' f', j' < n → P j' f' → P' j' f' ∨ (j' = j ∧ f' = 100000 + k)) (kk : ∀ m', Bd G m0 m' o n V A P' → WP G d b μ (pc + 1) Lo S m' Q) : WP G d b μ pc Lo (.ref (gB G + (o + jv)) :: .int i :: .ref (gB G + (o + j)) :: S) m Q :=
  wp_rast hd (h.isK hj hk) hq hg (by rw [Nat.add_sub_cancel_left]; exact hl) hi hkn hn (h.isK hjv hkv) hc hv (kk _ (Bd_wI h hj hP))
theorem PL_t {L : List Nat} {f : Nat} : ∀ j' f', j' < n → PL (f :: L) j' f' → PL L j' f' ∨ (j' = 0 ∧ f' = f) := fun j' f' _ h => by
  obtain ⟨h1, h2⟩ := h
  rcases List.mem_cons.mp h2 with e | e
  · exact Or.inr ⟨h1, e⟩
  · exact Or.inl ⟨h1, e⟩
end BROW
