/-! ROWS THAT MAKE CELLS -/
def dvl (t : Nat) : Value := if t = 1 then .long 0 else if t = 2 then .null else .int 0
theorem wld_new {G : Cx} {m : Mm} : wld G (wN m (mN m + 1)) = wld G m ++ [(gB G + mN m, cel G m (mN m))] := by
  show (List.range (mN m + 1)).map (fun j => (gB G + j, cel G (wN m (mN m + 1)) j)) = _
  rw [List.range_succ, List.map_append]
  rfl
theorem Rep.push {G : Cx} {m : Mm} {H H1 : Heap} (hR : Rep G m H) (hat : va_at (gD G) classes (gB G + mN m, cel G m (mN m)) H1) (z : H1.size = H.size + 1) (o : ∀ q : Nat, q < H.size → H1[q]? = H[q]?) : Rep G (wN m (mN m + 1)) H1 := by
  refine ⟨?_, ?_⟩
  · rw [wld_new]
    refine (hR.1.kept (fun k x hx => o x.1 ((hR.1 k x hx).lt))).app (fun k x hx => ?_)
    have hz : k < 1 := (List.getElem?_eq_some_iff.mp hx).1
    rw [show k = 0 by omega] at hx
    cases hx
    exact hat
  · rw [z, hR.2]
    rfl
section ALLOC
variable {G : Cx} {d b1 b2 : Nat} {μ : MI} {pc : Nat} {L S : List Value} {m : Mm} {Q : Option Value → Mm → Prop}
theorem Fx.less {p : Program} {R : Room} {s : State} {mi : MethodId} {args : Array Value} {meth : Method} {c : Code} {cells slots n : Nat} (F : Fx G d (b1 + 1, b2 + n) μ p R s mi args meth c cells slots) : Fx G d (b1, b2) μ p R s mi args meth c (cells + 1) (slots + n) := by
  obtain ⟨a1, a2, a3, a4, a5, a6, a7, a8, ⟨r1, r2, r3, r4⟩, a10⟩ := F
  refine ⟨a1, a2, a3, a4, a5, a6, a7, a8, ⟨r1, r2, ?_, ?_⟩, a10⟩
  · have : cells + (b1 + 1) ≤ R.cells := r3
    show cells + 1 + b1 ≤ R.cells
    omega
  · have : slots + (b2 + n) ≤ R.slots := r4
    show slots + n + b2 ≤ R.slots
    omega
theorem wp_new {idx ci N : Nat} {C : String} {T : u_T} (ty : Nat → FieldType) (hd : decode μ.2.1 pc = .ok (.new idx, 3)) (hc : classes[ci]? = some (C, T, N)) (hcl : Cond.classLink μ.1.cls idx C ∈ tbG) (hin : Cond.instantiable C N ∈ tbG) (hini : Cond.initialized C ∈ tbG) (hws : ∀ w ∈ u_ws C T N, w ∈ tbG)
    (hty : ∀ k, k < N → parseFieldDescriptor (T k).2.2.1 = some (ty k) ∧ ∃ t, (fty ci)[k]? = some t ∧ defaultValue (ty k) = dvl t) (hkd : kd (mN m) = ci) (hz : ∀ k t, (fty ci)[k]? = some t → fval G m t (100 * ci + k) (gB G + mN m) = dvl t)
    (kk : WP G d (b1, b2) μ (pc + 3) L (.ref (gB G + mN m) :: S) (wN m (mN m + 1)) Q) : WP G d (b1 + 1, b2 + N) μ pc L S m Q := by
  intro p e R s mi args below meth c H locs cells slots ls F hR hS hL
  have hts := F.2.2.2.2.2.1
  have hK := F.2.2.2.2.2.2.2.2.2.1
  have hKn := hK.1 ci _ hc
  obtain ⟨r1, r2, r3, r4⟩ := F.2.2.2.2.2.2.2.2.1
  refine W.newcK F.1 F.2.1 F.2.2.2.2.1 (hts _ hcl) (hts _ hin) (hts _ hini) rfl hd (by have : cells + (b1 + 1) ≤ R.cells := r3; omega) (by have : slots + (b2 + N) ≤ R.slots := r4; omega) hKn.2.1 rfl fun H1 kC hkC e1 z1 o1 => ?_
  have hs : H.size = gB G + mN m := hR.2
  have hat : va_at (gD G) classes (gB G + mN m, cel G m (mN m)) H1 := by
    rw [cel_obj hkd (ci_lt hc), ← hs]
    refine ⟨_, hc, (u_born ty hts hws hKn hkC e1 (fun k hk => (hty k hk).1)).to (fun k hk => ?_)⟩
    obtain ⟨-, t, h1, h2⟩ := hty k hk
    rw [h2]
    unfold vp_V
    rw [List.getD_eq_getElem?_getD, flds_at h1, hs, hz k t h1]
    rfl
  have key := kk p e R s mi args below meth c H1 locs (cells + 1) (slots + N) ls F.less (hR.push hat z1 o1) ⟨Nat.le_trans hS.1 (by omega), fun x h1 h2 => (o1 x (Nat.lt_of_lt_of_le h1 hS.1)).trans (hS.2.1 x h1 h2), hS.2.2⟩ hL
  rw [show cells + 1 + b1 = cells + (b1 + 1) by omega, show slots + N + b2 = slots + (b2 + N) by omega, ← hs] at key
  exact key
end ALLOC
