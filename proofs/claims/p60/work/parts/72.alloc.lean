/-! ROWS THAT MAKE CELLS -/
def dvl (t : Nat) : Value := if t = 1 then .long 0 else if t = 2 then .null else .int 0
theorem wld_new {G : Cx} {m : Mm} : wld G (wN m (mN m + 1)) = wld G m ++ [(gB G + mN m, cel G m (mN m))] := by
  show (List.range (mN m + 1)).map (fun j => (gB G + j, cel G (wN m (mN m + 1)) j)) = _
  rw [List.range_succ, List.map_append]
  rfl
theorem Rep.push {G : Cx} {m : Mm} {H H1 : Heap} (hM0 : gM G = true) (hR : Rep G m H) (hat : va_at (gD G) classes (gB G + mN m, cel G m (mN m)) H1) (z : H1.size = H.size + 1) (o : ∀ q : Nat, q < H.size → H1[q]? = H[q]?) : Rep G (wN m (mN m + 1)) H1 := by
  refine ⟨?_, fun hM => ?_, fun hM => by rw [hM0] at hM; cases hM⟩
  · rw [wld_new]
    refine (hR.1.kept (fun k x hx => o x.1 ((hR.1 k x hx).lt))).app (fun k x hx => ?_)
    have hz : k < 1 := (List.getElem?_eq_some_iff.mp hx).1
    rw [show k = 0 by omega] at hx
    cases hx
    exact hat
  · rw [z, hR.2.1 hM]
    rfl
section ALLOC
variable {G : Cx} {d b1 b2 : Nat} {μ : MI} {pc : Nat} {L S : List Value} {m : Mm} {Q : Option Value → Mm → Prop}
theorem Fx.mode {p : Program} {R : Room} {s : State} {mi : MethodId} {args : Array Value} {meth : Method} {c : Code} {cells slots n : Nat} (F : Fx G d (b1 + 1, n) μ p R s mi args meth c cells slots) : gM G = true := F.2.2.2.2.2.2.2.1.2.resolve_left (fun z => by dsimp only at z; omega)
theorem Fx.less {p : Program} {R : Room} {s : State} {mi : MethodId} {args : Array Value} {meth : Method} {c : Code} {cells slots n : Nat} (F : Fx G d (b1 + 1, b2 + n) μ p R s mi args meth c cells slots) : Fx G d (b1, b2) μ p R s mi args meth c (cells + 1) (slots + n) := by
  obtain ⟨a1, a2, a3, a4, a5, a6, a7, a8, ⟨r1, r2, r3, r4⟩, a10⟩ := F
  refine ⟨a1, a2, a3, a4, a5, a6, a7, ⟨a8.1, Or.inr (a8.2.resolve_left (fun z => by dsimp only at z; omega))⟩, ⟨r1, r2, ?_, ?_⟩, a10⟩
  · have : cells + (b1 + 1) ≤ R.cells := r3
    show cells + 1 + b1 ≤ R.cells
    omega
  · have : slots + (b2 + n) ≤ R.slots := r4
    show slots + n + b2 ≤ R.slots
    omega
theorem wp_new {idx ci N : Nat} {C : String} {T : u_T} (ty : Nat → FieldType) (hd : decode μ.2.1 pc = .ok (.new idx, 3)) (hc : classes[ci]? = some (C, T, N)) (hcl : Cond.classLink μ.1.cls idx C ∈ tbG) (hin : Cond.instantiable C N ∈ tbG) (hini : Cond.initialized C ∈ tbG) (hws : ∀ w ∈ u_ws C T N, w ∈ tbG)
    (hty : ∀ k, k < N → parseFieldDescriptor (T k).2.2.1 = some (ty k) ∧ ∃ t, (fty ci)[k]? = some t ∧ defaultValue (ty k) = dvl t) (hkd : kd (mN m) = ci) (hz : ∀ k t, (fty ci)[k]? = some t → fval G m t (100 * ci + k) (gB G + mN m) = dvl t)
    (kk : WP G d (b1, b2) μ (pc + 3) L (.ref (gB G + mN m) :: S) (wN m (mN m + 1)) Q) : WP G d (b1 + 1, b2 + N) μ pc L S m Q := by
  intro p e R s mi args below meth c H locs cells slots ls F hR hS hL
  have hts := F.2.2.2.2.2.1
  have hK := F.2.2.2.2.2.2.2.2.2.1
  have hKn := hK.1 ci _ hc
  obtain ⟨r1, r2, r3, r4⟩ := F.2.2.2.2.2.2.2.2.1
  refine W.newcK F.1 F.2.1 F.2.2.2.2.1 (hts _ hcl) (hts _ hin) (hts _ hini) rfl hd (by have : cells + (b1 + 1) ≤ R.cells := r3; omega) (by have : slots + (b2 + N) ≤ R.slots := r4; omega) hKn.2.1 rfl fun H1 kC hkC e1 z1 o1 => ?_
  have hM0 : gM G = true := F.mode
  have hs : H.size = gB G + mN m := hR.2.1 hM0
  have hat : va_at (gD G) classes (gB G + mN m, cel G m (mN m)) H1 := by
    rw [cel_obj hkd (ci_lt hc), ← hs]
    refine ⟨_, hc, (u_born ty hts hws hKn hkC e1 (fun k hk => (hty k hk).1)).to (fun k hk => ?_)⟩
    obtain ⟨-, t, h1, h2⟩ := hty k hk
    rw [h2]
    unfold vp_V
    rw [List.getD_eq_getElem?_getD, flds_at h1, hs, hz k t h1]
    rfl
  have key := kk p e R s mi args below meth c H1 locs (cells + 1) (slots + N) ls F.less (hR.push hM0 hat z1 o1) ⟨Nat.le_trans hS.1 (by omega), fun x h1 h2 => (o1 x (Nat.lt_of_lt_of_le h1 hS.1)).trans (hS.2.1 x h1 h2), hS.2.2⟩ hL
  rw [show cells + 1 + b1 = cells + (b1 + 1) by omega, show slots + N + b2 = slots + (b2 + N) by omega, ← hs] at key
  exact key
end ALLOC
section ALLOC2
variable {G : Cx} {d b1 b2 : Nat} {μ : MI} {pc : Nat} {L S : List Value} {m : Mm} {Q : Option Value → Mm → Prop}
theorem arrV_cg {cA : ClassId} {n : Nat} {f g : Nat → Value} (h : ∀ k, k < n → f k = g k) : arrV cA n f = arrV cA n g := by
  unfold arrV
  congr 1
  apply congrArg
  funext j
  exact h j.val j.isLt
theorem wp_newarr {n : Int32} {q N : Nat} {atype : ArrayType} (hd : decode μ.2.1 pc = .ok (.newarray atype, 2)) (ha : Cond.arrayClass (newarray.typeOf atype) ∈ tbG) (hkd : kd (mN m) = q) (hq : q = 20 ∨ q = 21 ∨ q = 22 ∨ q = 23) (hg : (gT G)[q - 20]? = some (gY G q, newarray.typeOf atype)) (hprim : ∀ s' : State, ∀ cA, va_RA s' cA (newarray.typeOf atype) → s'.vm.findClass ("[" ++ (newarray.typeOf atype).toString) = some cA)
    (hln : ln (mN m) = N) (hn : n = nI N) (hN : N < 10000) (hb : N * componentBytes (newarray.typeOf atype) ≤ 536870912) (hz : if q = 22 then (defaultValue (newarray.typeOf atype) = .long 0 ∧ ∀ k, al m (gB G + mN m) k = 0) else (defaultValue (newarray.typeOf atype) = .int 0 ∧ ∀ k, ai m (gB G + mN m) k = 0))
    (kk : WP G d (b1, b2) μ (pc + 2) L (.ref (gB G + mN m) :: S) (wN m (mN m + 1)) Q) : WP G d (b1 + 1, b2 + N) μ pc L (.int n :: S) m Q := by
  intro p e R s mi args below meth c H locs cells slots ls F hR hS hL
  have hts := F.2.2.2.2.2.1
  have hK := F.2.2.2.2.2.2.2.2.2.1
  obtain ⟨r1, r2, r3, r4⟩ := F.2.2.2.2.2.2.2.2.1
  have hM0 : gM G = true := F.mode
  have hs : H.size = gB G + mN m := hR.2.1 hM0
  subst hn
  refine va_newaK (N := N) F.1 F.2.1 (hts _ ha) rfl hd rfl (nI_pos (by omega)) (nIc (by omega)) hb (by have : cells + (b1 + 1) ≤ R.cells := r3; omega) (by have : slots + (b2 + N) ≤ R.slots := r4; omega) hs fun H1 cA e1 z1 o1 hAr hNm => ?_
  have hcA : cA = gY G q := Option.some.inj (hNm.symm.trans (hprim s _ (hK.2 _ _ hg).2))
  subst hcA
  have hat : va_at (gD G) classes (gB G + mN m, cel G m (mN m)) H1 := by
    rcases hq with e | e | e | e
    · subst e
      rw [if_neg (by decide)] at hz
      rw [cel_int hkd (Or.inl rfl), hln]
      show H1[gB G + mN m]? = some (arrV _ _ fun j => .int (ai m (gB G + mN m) j))
      rw [e1, hz.1]
      exact congrArg some (arrV_cg (fun k hk => by rw [hz.2]))
    · subst e
      rw [if_neg (by decide)] at hz
      rw [cel_int hkd (Or.inr (Or.inl rfl)), hln]
      show H1[gB G + mN m]? = some (arrV _ _ fun j => .int (ai m (gB G + mN m) j))
      rw [e1, hz.1]
      exact congrArg some (arrV_cg (fun k hk => by rw [hz.2]))
    · subst e
      rw [if_pos rfl] at hz
      rw [cel_long hkd, hln]
      show H1[gB G + mN m]? = some (arrV _ _ fun j => .long (al m (gB G + mN m) j))
      rw [e1, hz.1]
      exact congrArg some (arrV_cg (fun k hk => by rw [hz.2]))
    · subst e
      rw [if_neg (by decide)] at hz
      rw [cel_int hkd (Or.inr (Or.inr rfl)), hln]
      show H1[gB G + mN m]? = some (arrV _ _ fun j => .int (ai m (gB G + mN m) j))
      rw [e1, hz.1]
      exact congrArg some (arrV_cg (fun k hk => by rw [hz.2]))
  have key := kk p e R s mi args below meth c H1 locs (cells + 1) (slots + N) ls F.less (hR.push hM0 hat (by omega) (fun x hx => o1 x (by omega))) ⟨Nat.le_trans hS.1 (by omega), fun x h1 h2 => (o1 x (by have := hS.1; omega)).trans (hS.2.1 x h1 h2), hS.2.2⟩ hL
  rw [show cells + 1 + b1 = cells + (b1 + 1) by omega, show slots + N + b2 = slots + (b2 + N) by omega] at key
  exact key
theorem wp_anew {n : Int32} {idx q N : Nat} {C : String} (hd : decode μ.2.1 pc = .ok (.anewarray idx, 3)) (hcl : Cond.classLink μ.1.cls idx C ∈ tbG) (hov : Cond.arrayOver (.object C) ∈ lw_tbl) (hkd : kd (mN m) = q) (hq : 24 ≤ q) (hg : (gT G)[q - 20]? = some (gY G q, .object C))
    (hln : ln (mN m) = N) (hn : n = nI N) (hN : N < 10000) (hz : ∀ k, k < N → mI m (100000 + k) (gB G + mN m) = false)
    (kk : WP G d (b1, b2) μ (pc + 3) L (.ref (gB G + mN m) :: S) (wN m (mN m + 1)) Q) : WP G d (b1 + 1, b2 + N) μ pc L (.int n :: S) m Q := by
  intro p e R s mi args below meth c H locs cells slots ls F hR hS hL
  have hts := F.2.2.2.2.2.1
  have hE := F.2.2.2.2.2.2.2.2.2
  have hK := hE.1
  obtain ⟨r1, r2, r3, r4⟩ := F.2.2.2.2.2.2.2.2.1
  have hM0 : gM G = true := F.mode
  have hs : H.size = gB G + mN m := hR.2.1 hM0
  subst hn
  refine W.anew F.1 F.2.1 F.2.2.2.2.1 (hts _ hcl) (va_AO.use (hE.2.2.2.2.2.2.1 C hov)) rfl hd rfl (nI_pos (by omega)) (by rw [nIc (by omega)]; omega) (by have : cells + (b1 + 1) ≤ R.cells := r3; omega) (by have : slots + (b2 + N) ≤ R.slots := r4; rw [nIc (by omega)]; omega) fun cA kA comp f1 f2 f3 f4 => ?_
  rw [nIc (by omega)]
  generalize hH1 : H.push ({ cls := cA, slots := Array.replicate N .null, vm := .none } : Cell) = H1
  have z1 : H1.size = H.size + 1 := by rw [← hH1, Array.size_push]
  have e1 : H1[H.size]? = some (arrV cA N (fun _ => .null)) := by rw [← hH1, Array.getElem?_push_size, ← arrV_new]
  have o1 : ∀ q : Nat, q < H.size → H1[q]? = H[q]? := fun q hq => by rw [← hH1, Array.getElem?_push, if_neg (Nat.ne_of_lt hq)]
  obtain ⟨kA', comp', u1, u2, u3, u4⟩ := (hK.2 _ _ hg).2
  have hcA : cA = gY G q := Option.some.inj (f1.symm.trans u4)
  subst hcA
  have hat : va_at (gD G) classes (gB G + mN m, cel G m (mN m)) H1 := by
    rw [cel_ref hkd hq, hln, ← hs]
    show H1[H.size]? = some (vp_cell _ _)
    rw [vp_cell_q, e1]
    refine congrArg some (arrV_cg (fun k hk => ?_))
    have : elq G m H.size k = none := by
      unfold elq
      rw [hs, hz k hk]
      rfl
    rw [this]
    rfl
  have key := kk p e R s mi args below meth c H1 locs (cells + 1) (slots + N) ls F.less (hR.push hM0 hat z1 o1) ⟨Nat.le_trans hS.1 (by omega), fun x h1 h2 => (o1 x (Nat.lt_of_lt_of_le h1 hS.1)).trans (hS.2.1 x h1 h2), hS.2.2⟩ hL
  rw [show cells + 1 + b1 = cells + (b1 + 1) by omega, show slots + N + b2 = slots + (b2 + N) by omega, ← hs] at key
  exact key
end ALLOC2
