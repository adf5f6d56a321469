/-! ROWS THAT READ AND WRITE THE WORLD -/
def FLk (own : String) (idx ci k t : Nat) : Prop := ∃ (C : String) (T : u_T) (N : Nat), classes[ci]? = some (C, T, N) ∧ k < N ∧ (fty ci)[k]? = some t ∧ (∀ w ∈ u_ws C T N, w ∈ tbG) ∧ Cond.fieldLink own idx (T k).1 (T k).2.1 (T k).2.2.1 ∈ tbG
def FPk (own : String) (idx ci k t : Nat) (ty : FieldType) : Prop := ∃ (C : String) (T : u_T) (N : Nat), classes[ci]? = some (C, T, N) ∧ k < N ∧ (fty ci)[k]? = some t ∧ (∀ w ∈ u_ws C T N, w ∈ tbG) ∧ Cond.fieldLink own idx (T k).1 (T k).2.1 (T k).2.2.1 ∈ tbG ∧
  (∃ ty0 : Nat → FieldType, ∀ k, k < N → parseFieldDescriptor (T k).2.2.1 = some (ty0 k)) ∧ (∀ a, a < N → ∀ b, b < N → a ≠ b → (T a).2.1 ≠ (T b).2.1) ∧ parseFieldDescriptor (T k).2.2.1 = some ty ∧ (T k).2.2.2 = false
def LGk (own : String) (idx ci k : Nat) : Prop := ∃ (C : String) (T : u_T) (N : Nat), classes[ci]? = some (C, T, N) ∧ k < N ∧ (∀ w ∈ u_ws C T N, w ∈ tbG) ∧ Cond.fieldLink own idx (T k).1 (T k).2.1 (T k).2.2.1 ∈ tbG
def LPk (own : String) (idx ci k : Nat) (ty : FieldType) (fin : Bool) : Prop := ∃ (C : String) (T : u_T) (N : Nat), classes[ci]? = some (C, T, N) ∧ k < N ∧ (∀ w ∈ u_ws C T N, w ∈ tbG) ∧ Cond.fieldLink own idx (T k).1 (T k).2.1 (T k).2.2.1 ∈ tbG ∧
  (∃ ty0 : Nat → FieldType, ∀ k, k < N → parseFieldDescriptor (T k).2.2.1 = some (ty0 k)) ∧ (∀ a, a < N → ∀ b, b < N → a ≠ b → (T a).2.1 ≠ (T b).2.1) ∧ parseFieldDescriptor (T k).2.2.1 = some ty ∧ (T k).2.2.2 = fin ∧ (fin = true → (T k).1 = own)
theorem ci_lt {ci : Nat} {r : vw_C} (h : classes[ci]? = some r) : ci < 20 := Nat.lt_of_lt_of_le (List.getElem?_eq_some_iff.mp h).1 (by decide)
theorem Rep.set {G : Cx} {m m' : Mm} {H H1 : Heap} {j : Nat} {e : va_E} (hR : Rep G m H) (hj : j < mN m) (hn : mN m' = mN m) (hc : cel G m' j = e) (ho : ∀ i, i ≠ j → cel G m' i = cel G m i) (hat : va_at (gD G) classes (gB G + j, e) H1) (z : H1.size = H.size) (oq : ∀ q : Nat, q ≠ gB G + j → H1[q]? = H[q]?) : Rep G m' H1 := by
  refine ⟨?_, ?_⟩
  · rw [← wld_set hn hc (fun i h _ => ho i h)]
    exact hR.1.set (wld_D G m) (wld_at hj) hat oq
  · rw [z, hn]
    exact hR.2
theorem gbne {G : Cx} {i j : Nat} (h : i ≠ j) : gB G + i ≠ gB G + j := fun q => h (Nat.add_left_cancel q)
section HEAP
variable {G : Cx} {d : Nat} {b : Nat × Nat} {μ : MI} {pc : Nat} {L S : List Value} {m : Mm} {Q : Option Value → Mm → Prop}
theorem wp_geti {a idx ci k t : Nat} (v : Int32) (hd : decode μ.2.1 pc = .ok (.getfield idx, 3)) (hf : FLk μ.1.cls idx ci k t) (ht : t = 0 ∨ t = 3) (hk : isK G m a ci) (hv : fi m (100 * ci + k) a = v) (kk : WP G d b μ (pc + 3) L (.int v :: S) m Q) : WP G d b μ pc L (.ref a :: S) m Q := by
  intro p e R s mi args below meth c H locs cells slots ls F hR hS hL
  obtain ⟨C, T, N, h1, h2, h3, h4, h5⟩ := hf
  obtain ⟨j, rfl, hj, hq⟩ := hk
  subst hv
  refine va_get F.1 F.2.1 F.2.2.2.2.2.1 h4 F.2.2.2.2.1 F.2.2.2.2.2.2.2.2.2.1 hR.1 j (by rw [wld_at hj, cel_obj hq (ci_lt h1)]) h1 k h2 (F.2.2.2.2.2.1 _ h5) (fun x h => h) (v := .int (fi m (100 * ci + k) (gB G + j))) ?_ hd (kk p e R s mi args below meth c H locs cells slots ls F hR hS hL)
  rw [flds_at h3]
  rcases ht with rfl | rfl <;> rfl
theorem wp_getl {a idx ci k : Nat} (v : Int64) (hd : decode μ.2.1 pc = .ok (.getfield idx, 3)) (hf : FLk μ.1.cls idx ci k 1) (hk : isK G m a ci) (hv : fl m (100 * ci + k) a = v) (kk : WP G d b μ (pc + 3) L (.long v :: S) m Q) : WP G d b μ pc L (.ref a :: S) m Q := by
  intro p e R s mi args below meth c H locs cells slots ls F hR hS hL
  obtain ⟨C, T, N, h1, h2, h3, h4, h5⟩ := hf
  obtain ⟨j, rfl, hj, hq⟩ := hk
  subst hv
  refine va_get F.1 F.2.1 F.2.2.2.2.2.1 h4 F.2.2.2.2.1 F.2.2.2.2.2.2.2.2.2.1 hR.1 j (by rw [wld_at hj, cel_obj hq (ci_lt h1)]) h1 k h2 (F.2.2.2.2.2.1 _ h5) (fun x h => h) (v := .long (fl m (100 * ci + k) (gB G + j))) ?_ hd (kk p e R s mi args below meth c H locs cells slots ls F hR hS hL)
  rw [flds_at h3]
  rfl
theorem wp_getr {a idx ci k : Nat} (q : Nat) (hd : decode μ.2.1 pc = .ok (.getfield idx, 3)) (hf : FLk μ.1.cls idx ci k 2) (hk : isK G m a ci) (hi : mI m (100 * ci + k) a = true) (hv : rr G (100 * ci + k) a = q) (kk : WP G d b μ (pc + 3) L (.ref q :: S) m Q) : WP G d b μ pc L (.ref a :: S) m Q := by
  intro p e R s mi args below meth c H locs cells slots ls F hR hS hL
  obtain ⟨C, T, N, h1, h2, h3, h4, h5⟩ := hf
  obtain ⟨j, rfl, hj, hq⟩ := hk
  subst hv
  refine va_get F.1 F.2.1 F.2.2.2.2.2.1 h4 F.2.2.2.2.1 F.2.2.2.2.2.2.2.2.2.1 hR.1 j (by rw [wld_at hj, cel_obj hq (ci_lt h1)]) h1 k h2 (F.2.2.2.2.2.1 _ h5) (fun x h => h) (v := .ref (rr G (100 * ci + k) (gB G + j))) ?_ hd (kk p e R s mi args below meth c H locs cells slots ls F hR hS hL)
  rw [flds_at h3]
  show some (if mI m (100 * ci + k) (gB G + j) = true then Value.ref (rr G (100 * ci + k) (gB G + j)) else .null) = _
  rw [if_pos hi]
/-- a store into a field -/
theorem wp_put {a idx ci k t : Nat} {ty : FieldType} {v : Value} (m' : Mm) (hd : decode μ.2.1 pc = .ok (.putfield idx, 3)) (hf : FPk μ.1.cls idx ci k t ty) (hk : isK G m a ci) (hn : narrow ty v = v) (hfit : fits ty v = true)
    (hN : mN m' = mN m) (hv : fval G m' t (100 * ci + k) a = v) (ho : ∀ i t', i ≠ k → (fty ci)[i]? = some t' → fval G m' t' (100 * ci + i) a = fval G m t' (100 * ci + i) a) (hc : ∀ i, gB G + i ≠ a → cel G m' i = cel G m i)
    (kk : WP G d b μ (pc + 3) L S m' Q) : WP G d b μ pc L (v :: .ref a :: S) m Q := by
  intro p e R s mi args below meth c H locs cells slots ls F hR hS hL
  obtain ⟨C, T, N, h1, h2, h3, h4, h5, ⟨ty0, h6⟩, h7, h8, h9⟩ := hf
  obtain ⟨j, rfl, hj, hq⟩ := hk
  have hts := F.2.2.2.2.2.1
  have hK := F.2.2.2.2.2.2.2.2.2.1
  have he : (wld G m)[j]? = some (gB G + j, .inr (ci, flds G m ci (gB G + j))) := by rw [wld_at hj, cel_obj hq (ci_lt h1)]
  have hl : k < (flds G m ci (gB G + j)).length := by rw [flds_len]; exact (List.getElem?_eq_some_iff.mp h3).1
  have hap := va_apart (own := μ.1.cls) hts h4 ty0 h6 h7 hK h1
  obtain ⟨r, g1, cell, q1, q2, q3, q4⟩ := hR.1 j _ he
  have hr : r = (C, T, N) := Option.some.inj (g1.symm.trans h1)
  subst hr
  obtain ⟨hSl, hfc, kC, hkC, hkind⟩ := hK.1 ci _ h1
  obtain ⟨cf, kf, fi0, f, hi, hsl⟩ := hSl k h2
  have hlay := hts _ (h4 _ (u_in_lay h2))
  unfold u_lay at hlay
  rw [if_neg (by rw [h9]; decide)] at hlay
  have hst := (u_facts hfc hkC (u_lays hts h4 h2) hi).1
  have h10 := u_store hfc hkC hkind hlay hi h8 hn hfit
  refine W.putK F.1 F.2.1 (f := f) ⟨F.2.2.2.2.1, hts _ h5, ⟨_, _, _, hi⟩, hst⟩ (by rw [q2]; exact h10) q1 q3 (by rw [hsl]; exact k2_hasslot (q4 k h2)) rfl rfl hd fun H' e1 e2 e3 => ?_
  rw [hsl] at e1 ⊢
  have hat : va_at (gD G) classes (gB G + j, .inr (ci, (flds G m ci (gB G + j)).set k v)) H' := ⟨_, h1, t_OB.to (V := updV (vp_V (flds G m ci (gB G + j))) k v) ⟨_, e1, q2, q3, t_set q4 hap h2 v⟩ (fun j _ => vp_updV_set hl v j)⟩
  refine kk p e R s mi args below meth c H' _ cells slots ls F (hR.set hj hN ?_ (fun i hi => hc i (gbne hi)) hat e2 e3) (hS.put e2 e3 ?_) hL
  · rw [cel_obj hq (ci_lt h1), flds_set h3 hv ho]
  · exact hR.fr hj
theorem wp_puti {a idx ci k : Nat} {x : Int32} (hd : decode μ.2.1 pc = .ok (.putfield idx, 3)) (hf : FPk μ.1.cls idx ci k 0 .int) (hk : isK G m a ci) (kk : WP G d b μ (pc + 3) L S (wfi m (100 * ci + k) a x) Q) : WP G d b μ pc L (.int x :: .ref a :: S) m Q := by
  refine wp_put (wfi m (100 * ci + k) a x) hd hf hk rfl rfl rfl ?_ ?_ (fun i h => cel_wfi h) kk
  · show Value.int (up2 (fi m) (100 * ci + k) a x (100 * ci + k) a) = _
    rw [up2, if_pos ⟨rfl, rfl⟩]
  · intro i t' hi _
    unfold fval
    have e : fi (wfi m (100 * ci + k) a x) (100 * ci + i) a = fi m (100 * ci + i) a := if_neg (fun q => hi (by omega))
    rw [e]
    rfl
theorem wp_putz {a idx ci k : Nat} {x : Int32} (hd : decode μ.2.1 pc = .ok (.putfield idx, 3)) (hf : FPk μ.1.cls idx ci k 3 .boolean) (hk : isK G m a ci) (hx : x = 0 ∨ x = 1) (kk : WP G d b μ (pc + 3) L S (wfi m (100 * ci + k) a x) Q) : WP G d b μ pc L (.int x :: .ref a :: S) m Q := by
  refine wp_put (wfi m (100 * ci + k) a x) hd hf hk (by rcases hx with rfl | rfl <;> rfl) (by rcases hx with rfl | rfl <;> rfl) rfl ?_ ?_ (fun i h => cel_wfi h) kk
  · show Value.int (up2 (fi m) (100 * ci + k) a x (100 * ci + k) a) = _
    rw [up2, if_pos ⟨rfl, rfl⟩]
  · intro i t' hi _
    unfold fval
    have e : fi (wfi m (100 * ci + k) a x) (100 * ci + i) a = fi m (100 * ci + i) a := if_neg (fun q => hi (by omega))
    rw [e]
    rfl
theorem wp_putl {a idx ci k : Nat} {x : Int64} (hd : decode μ.2.1 pc = .ok (.putfield idx, 3)) (hf : FPk μ.1.cls idx ci k 1 .long) (hk : isK G m a ci) (kk : WP G d b μ (pc + 3) L S (wfl m (100 * ci + k) a x) Q) : WP G d b μ pc L (.long x :: .ref a :: S) m Q := by
  refine wp_put (wfl m (100 * ci + k) a x) hd hf hk rfl rfl rfl ?_ ?_ (fun i h => cel_wfl h) kk
  · show Value.long (up2 (fl m) (100 * ci + k) a x (100 * ci + k) a) = _
    rw [up2, if_pos ⟨rfl, rfl⟩]
  · intro i t' hi _
    unfold fval
    have e : fl (wfl m (100 * ci + k) a x) (100 * ci + i) a = fl m (100 * ci + i) a := if_neg (fun q => hi (by omega))
    rw [e]
    rfl
-- arrays
theorem arrK {G : Cx} {d : Nat} {b : Nat × Nat} {μ : MI} {p : Program} {R : Room} {s : State} {mi : MethodId} {args : Array Value} {meth : Method} {c : Code} {cells slots : Nat} (F : Fx G d b μ p R s mi args meth c cells slots) {k : Nat} {cA : ClassId} {ty : FieldType} (h : (gT G)[k]? = some (cA, ty)) : ArrOfT s cA ty :=
  (F.2.2.2.2.2.2.2.2.2.1.2 k _ h).1
theorem wp_iald {a : Nat} {i : Int32} (v : Int32) {n : Nat} (hd : decode μ.2.1 pc = .ok (.iaload, 1)) (hk : isK G m a 21) (hl : ln (a - gB G) = n) (hin : vp_in i n) (hv : ai m a i.toNatClampNeg = v) (kk : WP G d b μ (pc + 1) L (.int v :: S) m Q) : WP G d b μ pc L (.int i :: .ref a :: S) m Q := by
  intro p e R s mi args below meth c H locs cells slots ls F hR hS hL
  obtain ⟨j, rfl, hj, hq⟩ := hk
  rw [Nat.add_sub_cancel_left] at hl
  subst hv; subst hl
  exact va_iald F.1 F.2.1 F.2.2.2.2.2.2.2.2.2.1 hR.1 j 1 (cA := gY G 21) (n := ln j) (f := ai m (gB G + j)) (by rw [wld_at hj, cel_int hq (by simp)]) rfl hin hd (kk p e R s mi args below meth c H locs cells slots ls F hR hS hL)
theorem wp_bald {a : Nat} {i : Int32} (v : Int32) {n : Nat} (hd : decode μ.2.1 pc = .ok (.baload, 1)) (hk : isK G m a 20) (hl : ln (a - gB G) = n) (hin : vp_in i n) (hv : ai m a i.toNatClampNeg = v) (kk : WP G d b μ (pc + 1) L (.int v :: S) m Q) : WP G d b μ pc L (.int i :: .ref a :: S) m Q := by
  intro p e R s mi args below meth c H locs cells slots ls F hR hS hL
  obtain ⟨j, rfl, hj, hq⟩ := hk
  rw [Nat.add_sub_cancel_left] at hl
  subst hv; subst hl
  exact va_bald F.1 F.2.1 F.2.2.2.2.2.2.2.2.2.1 hR.1 j 0 (cA := gY G 20) (n := ln j) (f := ai m (gB G + j)) (by rw [wld_at hj, cel_int hq (by simp)]) rfl hin hd (kk p e R s mi args below meth c H locs cells slots ls F hR hS hL)
theorem wp_zald {a : Nat} {i : Int32} (v : Int32) {n : Nat} (hd : decode μ.2.1 pc = .ok (.baload, 1)) (hk : isK G m a 23) (hl : ln (a - gB G) = n) (hin : vp_in i n) (hv : ai m a i.toNatClampNeg = v) (kk : WP G d b μ (pc + 1) L (.int v :: S) m Q) : WP G d b μ pc L (.int i :: .ref a :: S) m Q := by
  intro p e R s mi args below meth c H locs cells slots ls F hR hS hL
  obtain ⟨j, rfl, hj, hq⟩ := hk
  rw [Nat.add_sub_cancel_left] at hl
  subst hv; subst hl
  exact va_zald F.1 F.2.1 F.2.2.2.2.2.2.2.2.2.1 hR.1 j 3 (cA := gY G 23) (n := ln j) (f := ai m (gB G + j)) (by rw [wld_at hj, cel_int hq (by simp)]) rfl hin hd (kk p e R s mi args below meth c H locs cells slots ls F hR hS hL)
theorem wp_lald {a : Nat} {i : Int32} (v : Int64) {n : Nat} (hd : decode μ.2.1 pc = .ok (.laload, 1)) (hk : isK G m a 22) (hl : ln (a - gB G) = n) (hin : vp_in i n) (hv : al m a i.toNatClampNeg = v) (kk : WP G d b μ (pc + 1) L (.long v :: S) m Q) : WP G d b μ pc L (.int i :: .ref a :: S) m Q := by
  intro p e R s mi args below meth c H locs cells slots ls F hR hS hL
  obtain ⟨j, rfl, hj, hq⟩ := hk
  rw [Nat.add_sub_cancel_left] at hl
  subst hv; subst hl
  exact va_lald F.1 F.2.1 F.2.2.2.2.2.2.2.2.2.1 hR.1 j 2 (cA := gY G 22) (n := ln j) (f := al m (gB G + j)) (by rw [wld_at hj, cel_long hq]) rfl hin hd (kk p e R s mi args below meth c H locs cells slots ls F hR hS hL)
theorem gTq {G : Cx} {q : Nat} (hq : 24 ≤ q) (hq2 : q < 29) : ∃ C, (gT G)[q - 20]? = some (gY G q, .object C) := by
  have h : q = 24 ∨ q = 25 ∨ q = 26 ∨ q = 27 ∨ q = 28 := by omega
  rcases h with rfl | rfl | rfl | rfl | rfl <;> exact ⟨_, rfl⟩
theorem wp_rald {a q : Nat} {i : Int32} (v : Nat) {n : Nat} (hd : decode μ.2.1 pc = .ok (.aaload, 1)) (hk : isK G m a q) (hq1 : 24 ≤ q) (hq2 : q < 29) (hl : ln (a - gB G) = n) (hin : vp_in i n) (hi : mI m (100000 + i.toNatClampNeg) a = true) (hv : rr G (100000 + i.toNatClampNeg) a = v) (kk : WP G d b μ (pc + 1) L (.ref v :: S) m Q) : WP G d b μ pc L (.int i :: .ref a :: S) m Q := by
  intro p e R s mi args below meth c H locs cells slots ls F hR hS hL
  obtain ⟨j, rfl, hj, hq⟩ := hk
  rw [Nat.add_sub_cancel_left] at hl
  subst hv; subst hl
  obtain ⟨C, hC⟩ := gTq (G := G) hq1 hq2
  refine va_aldq F.1 F.2.1 F.2.2.2.2.2.2.2.2.2.1 hR.1 j (q - 20) (cA := gY G q) (n := ln j) (f := elq G m (gB G + j)) (by rw [wld_at hj, cel_ref hq hq1]) hC hin hd ?_
  have e1 : elq G m (gB G + j) i.toNatClampNeg = some (rr G (100000 + i.toNatClampNeg) (gB G + j)) := if_pos hi
  rw [e1]
  exact kk p e R s mi args below meth c H locs cells slots ls F hR hS hL
theorem wp_iast {a : Nat} {i x : Int32} {n : Nat} (hd : decode μ.2.1 pc = .ok (.iastore, 1)) (hk : isK G m a 21) (hl : ln (a - gB G) = n) (hin : vp_in i n) (kk : WP G d b μ (pc + 1) L S (wai m a i.toNatClampNeg x) Q) : WP G d b μ pc L (.int x :: .int i :: .ref a :: S) m Q := by
  intro p e R s mi args below meth c H locs cells slots ls F hR hS hL
  obtain ⟨j, rfl, hj, hq⟩ := hk
  rw [Nat.add_sub_cancel_left] at hl
  subst hl
  have he : (wld G m)[j]? = some (gB G + j, .inl (gY G 21, ln j, .inl (ai m (gB G + j)))) := by rw [wld_at hj, cel_int hq (by simp)]
  refine W.iast F.1 F.2.1 (hR.1 j _ he) (arrK F (k := 1) (cA := gY G 21) (ty := .int) rfl (ln j) (fun q => .int (ai m (gB G + j) q))) (fun q => by cases q) (by show ¬ (i < 0 ∨ (arrV _ _ _).slots.size ≤ _); rw [arrV_size]; exact hin) rfl rfl hd fun H1 e1 z oq => ?_
  refine kk p e R s mi args below meth c H1 _ cells slots ls F (hR.set (e := .inl (gY G 21, ln j, .inl (ai (wai m (gB G + j) i.toNatClampNeg x) (gB G + j)))) hj rfl (cel_int hq (by simp)) (fun i hi => cel_wai (gbne hi)) ?_ z oq) (hS.put z oq (hR.fr hj)) hL
  show H1[gB G + j]? = some (vp_cell _ _)
  rw [e1]
  rw [vp_cell_i, vp_cell_i, arrV_store]
  congr 2
  funext q
  by_cases hqi : q = i.toNatClampNeg
  · subst hqi
    simp [updV, wai, ai, up2]
  · simp [updV, wai, ai, up2, hqi]
theorem wp_last {a : Nat} {i : Int32} {x : Int64} {n : Nat} (hd : decode μ.2.1 pc = .ok (.lastore, 1)) (hk : isK G m a 22) (hl : ln (a - gB G) = n) (hin : vp_in i n) (kk : WP G d b μ (pc + 1) L S (wal m a i.toNatClampNeg x) Q) : WP G d b μ pc L (.long x :: .int i :: .ref a :: S) m Q := by
  intro p e R s mi args below meth c H locs cells slots ls F hR hS hL
  obtain ⟨j, rfl, hj, hq⟩ := hk
  rw [Nat.add_sub_cancel_left] at hl
  subst hl
  have he : (wld G m)[j]? = some (gB G + j, .inl (gY G 22, ln j, .inr (.inl (al m (gB G + j))))) := by rw [wld_at hj, cel_long hq]
  refine W.last F.1 F.2.1 (hR.1 j _ he) (arrK F (k := 2) (cA := gY G 22) (ty := .long) rfl (ln j) (fun q => .long (al m (gB G + j) q))) (fun q => by cases q) (by show ¬ (i < 0 ∨ (arrV _ _ _).slots.size ≤ _); rw [arrV_size]; exact hin) rfl rfl hd fun H1 e1 z oq => ?_
  refine kk p e R s mi args below meth c H1 _ cells slots ls F (hR.set (e := .inl (gY G 22, ln j, .inr (.inl (al (wal m (gB G + j) i.toNatClampNeg x) (gB G + j))))) hj rfl (cel_long hq) (fun i hi => cel_wal (gbne hi)) ?_ z oq) (hS.put z oq (hR.fr hj)) hL
  show H1[gB G + j]? = some (vp_cell _ _)
  rw [e1]
  rw [vp_cell_l, vp_cell_l, arrV_store]
  congr 2
  funext q
  by_cases hqi : q = i.toNatClampNeg
  · subst hqi
    simp [updV, wal, al, up2]
  · simp [updV, wal, al, up2, hqi]
theorem wp_bast {a : Nat} {i x : Int32} {n : Nat} (hd : decode μ.2.1 pc = .ok (.bastore, 1)) (hk : isK G m a 20) (hl : ln (a - gB G) = n) (hin : vp_in i n) (kk : WP G d b μ (pc + 1) L S (wai m a i.toNatClampNeg x.toInt8.toInt32) Q) : WP G d b μ pc L (.int x :: .int i :: .ref a :: S) m Q := by
  intro p e R s mi args below meth c H locs cells slots ls F hR hS hL
  obtain ⟨j, rfl, hj, hq⟩ := hk
  rw [Nat.add_sub_cancel_left] at hl
  subst hl
  have he : (wld G m)[j]? = some (gB G + j, .inl (gY G 20, ln j, .inl (ai m (gB G + j)))) := by rw [wld_at hj, cel_int hq (by simp)]
  refine W.bast F.1 F.2.1 (hR.1 j _ he) (arrK F (k := 0) (cA := gY G 20) (ty := .byte) rfl (ln j) (fun q => .int (ai m (gB G + j) q))) (fun q => by cases q) (by show ¬ (i < 0 ∨ (arrV _ _ _).slots.size ≤ _); rw [arrV_size]; exact hin) rfl rfl hd fun H1 e1 z oq => ?_
  refine kk p e R s mi args below meth c H1 _ cells slots ls F (hR.set (e := .inl (gY G 20, ln j, .inl (ai (wai m (gB G + j) i.toNatClampNeg x.toInt8.toInt32) (gB G + j)))) hj rfl (cel_int hq (by simp)) (fun i hi => cel_wai (gbne hi)) ?_ z oq) (hS.put z oq (hR.fr hj)) hL
  show H1[gB G + j]? = some (vp_cell _ _)
  rw [e1]
  rw [vp_cell_i, vp_cell_i, arrV_store]
  congr 2
  funext q
  by_cases hqi : q = i.toNatClampNeg
  · subst hqi
    simp [updV, wai, ai, up2, narrow]
  · simp [updV, wai, ai, up2, hqi]
theorem wp_zast {a : Nat} {i x : Int32} {n : Nat} (hd : decode μ.2.1 pc = .ok (.bastore, 1)) (hk : isK G m a 23) (hl : ln (a - gB G) = n) (hin : vp_in i n) (hx : x = 0 ∨ x = 1) (kk : WP G d b μ (pc + 1) L S (wai m a i.toNatClampNeg x) Q) : WP G d b μ pc L (.int x :: .int i :: .ref a :: S) m Q := by
  intro p e R s mi args below meth c H locs cells slots ls F hR hS hL
  obtain ⟨j, rfl, hj, hq⟩ := hk
  rw [Nat.add_sub_cancel_left] at hl
  subst hl
  have he : (wld G m)[j]? = some (gB G + j, .inl (gY G 23, ln j, .inl (ai m (gB G + j)))) := by rw [wld_at hj, cel_int hq (by simp)]
  have hnx : narrow .boolean (.int x) = .int x := by rcases hx with rfl | rfl <;> rfl
  refine W.zast F.1 F.2.1 (hR.1 j _ he) (arrK F (k := 3) (cA := gY G 23) (ty := .boolean) rfl (ln j) (fun q => .int (ai m (gB G + j) q))) (fun q => by cases q) (by show ¬ (i < 0 ∨ (arrV _ _ _).slots.size ≤ _); rw [arrV_size]; exact hin) rfl rfl hd fun H1 e1 z oq => ?_
  refine kk p e R s mi args below meth c H1 _ cells slots ls F (hR.set (e := .inl (gY G 23, ln j, .inl (ai (wai m (gB G + j) i.toNatClampNeg x) (gB G + j)))) hj rfl (cel_int hq (by simp)) (fun i hi => cel_wai (gbne hi)) ?_ z oq) (hS.put z oq (hR.fr hj)) hL
  show H1[gB G + j]? = some (vp_cell _ _)
  rw [e1, hnx]
  rw [vp_cell_i, vp_cell_i, arrV_store]
  congr 2
  funext q
  by_cases hqi : q = i.toNatClampNeg
  · subst hqi
    simp [updV, wai, ai, up2]
  · simp [updV, wai, ai, up2, hqi]
theorem wp_alenL {a : Nat} (v : Int32) (hd : decode μ.2.1 pc = .ok (.arraylength, 1)) (hk : isK G m a 22) (hv : Int32.ofNat (ln (a - gB G)) = v) (kk : WP G d b μ (pc + 1) L (.int v :: S) m Q) : WP G d b μ pc L (.ref a :: S) m Q := by
  intro p e R s mi args below meth c H locs cells slots ls F hR hS hL
  obtain ⟨j, rfl, hj, hq⟩ := hk
  rw [Nat.add_sub_cancel_left] at hv
  exact va_alen F.1 F.2.1 F.2.2.2.2.2.2.2.2.2.1 hR.1 j 2 (cA := gY G 22) (x := (ln j, .inr (.inl (al m (gB G + j))))) (by rw [wld_at hj, cel_long hq]) (ty := .long) rfl hv hd (kk p e R s mi args below meth c H locs cells slots ls F hR hS hL)
end HEAP
