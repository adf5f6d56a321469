/-! THE LAW FROM ITS ENTRY -/
def μL_law : MI := (yL_law, cL_law, 1, some .boolean)
/-- the same, where the base is the heap's end -/
def WZ1 (G : Cx) (d : Nat) (b : Nat × Nat) (μ : MI) (pc : Nat) (L S : List Value) (m : LM) (Q : Option Value → LM → Prop) : Prop :=
  ∀ (p : Program) (e : Env) (R : Room) (s : State) (mi : MethodId) (args : Array Value) (below : List Frame) (meth : Method) (c : Code) (H : Heap) (locs : List Loc) (cells slots : Nat) (ls : Array Slot),
    Fx G d b μ p R s mi args meth c cells slots → RepL G m H → va_S (fr G) s.heap H locs → LV ls μ.2.2.1 L → H.size = gB G →
    W p (gL G) e R s mi args below meth c H locs cells slots (MQ below (QmL G Q) args s (cells + b.1) (slots + b.2) (fr G)) (F0 mi pc ls S)
section LAW
variable {G : Cx} {d b1 b2 : Nat} {μ : MI} {pc idx : Nat} {L S : List Value} {ws : va_W} {cs : List (Nat × Mm)} {Q : Option Value → LM → Prop}
theorem wz1_newO {ci N : Nat} {C : String} {T : u_T} {fs : List Value} (ty : Nat → FieldType) (hd : decode μ.2.1 pc = .ok (.new idx, 3)) (hc : classes[ci]? = some (C, T, N)) (hcl : Cond.classLink μ.1.cls idx C ∈ tbG) (hin : Cond.instantiable C N ∈ tbG) (hini : Cond.initialized C ∈ tbG) (hws : ∀ w ∈ u_ws C T N, w ∈ tbG) (hty : ∀ k, k < N → parseFieldDescriptor (T k).2.2.1 = some (ty k)) (hfs : ∀ k, k < N → vp_V fs k = defaultValue (ty k)) (kk : WZ G d (b1, b2) μ (pc + 3) L (.ref (gB G) :: S) (ws ++ [((gB G, Sum.inr (ci, fs)) : Nat × va_E)], cs) Q) : WZ1 G d (b1 + 1, b2 + N) μ pc L S (ws, cs) Q := by
  intro p e R s mi args below meth c H locs cells slots ls F hR hS hL hsz
  have hts := F.2.2.2.2.2.1
  have hE := F.2.2.2.2.2.2.2.2.2
  have hK := hE.1
  have hKn := hK.1 ci _ hc
  obtain ⟨r1, r2, r3, r4⟩ := F.2.2.2.2.2.2.2.2.1
  refine W.newcK F.1 F.2.1 F.2.2.2.2.1 (hts _ hcl) (hts _ hin) (hts _ hini) rfl hd (by have : cells + (b1 + 1) ≤ R.cells := r3; omega) (by have : slots + (b2 + N) ≤ R.slots := r4; omega) hKn.2.1 rfl fun H1 kC hkC e1 z1 o1 => ?_
  have hat : va_at (gD G) classes (H.size, Sum.inr (ci, fs)) H1 := ⟨_, hc, (u_born ty hts hws hKn hkC e1 hty).to (fun k hk => by first | exact hfs k hk | exact (hfs k hk).symm)⟩
  have hb0 : gB G ≤ H.size := Nat.le_of_eq hsz.symm
  have hF : Fx G d (b1, b2) μ p R s mi args meth c (cells + 1) (slots + N) := by
    obtain ⟨a1, a2, a3, a4, a5, a6, a7, a8, -, a10⟩ := F
    refine ⟨a1, a2, a3, a4, a5, a6, a7, ⟨a8.1, Or.inr hR.1⟩, ⟨r1, r2, ?_, ?_⟩, a10⟩
    · have : cells + (b1 + 1) ≤ R.cells := r3
      show cells + 1 + b1 ≤ R.cells
      omega
    · have : slots + (b2 + N) ≤ R.slots := r4
      show slots + N + b2 ≤ R.slots
      omega
  have hRn := hR.new hb0 hat o1
  rw [hsz] at hRn ⊢
  have key := kk p e R s mi args below meth c H1 locs (cells + 1) (slots + N) ls hF hRn ⟨Nat.le_trans hS.1 (by omega), fun x h1 h2 => (o1 x (by have := hS.1; omega)).trans (hS.2.1 x h1 h2), hS.2.2⟩ hL
  rw [show cells + 1 + b1 = cells + (b1 + 1) by omega, show slots + N + b2 = slots + (b2 + N) by omega] at key
  exact key
def lw00 (G : Cx) : Nat × va_E := (gB G, Sum.inr (11, [.null, .null, .int 0, .null, .null, .null]))
def lws0 (G : Cx) (Λ : Lc) : va_W :=
  ((gB G, Sum.inr (11, [.ref (lB Λ), .null, .int 0, .ref (lP Λ), .ref (lW Λ), .ref (lR Λ)])) : Nat × va_E) :: ((lP Λ, Sum.inl (gY G 21, 8, Sum.inl (fun _ => 0))) : Nat × va_E) :: ((lW Λ, Sum.inl (gY G 21, 8, Sum.inl (fun _ => 0))) : Nat × va_E) :: ((lR Λ, Sum.inl (gY G 21, 6, Sum.inl (fun _ => 0))) : Nat × va_E) :: []
theorem w_linit (k : ∀ (Λ : Lc) m, CIv (atC G (lB Λ) false) m A00 → Q none (lws0 G Λ, [(lB Λ, m)])) : WZM G (d + 4) (296, 9650) μL_init [.ref (gB G)] ([lw00 G], []) Q := by
  refine WZM.of pL (Nat.le_of_ble_eq_true rfl) rfl ?_
  refine wl_aload_n dL_init_0 rfl ?_
  refine wl_objInit dL_init_1 OL_1 Oin Oco (Nat.le_of_ble_eq_true rfl) ?_
  refine wl_aload_n dL_init_4 rfl ?_
  refine wl_newX (b1 := 3) (b2 := 22) dL_init_5 dL_init_8 dL_init_9 CL_7 ML_9 (Nat.le_of_ble_eq_true rfl) (fun B m hC => ?_)
  show WZ G (d + 4) (3, 22) μL_init 12 [.ref (gB G)] [.ref B, .ref (gB G)] ([lw00 G], [(B, m)]) Q
  refine wl_putF 0 [((gB G, Sum.inr (11, [.ref B, .null, .int 0, .null, .null, .null])) : Nat × va_E)] dL_init_12 rfl pL_10 rfl (Nat.le_of_ble_eq_true rfl) rfl rfl rfl ?_
  refine wl_aload_n dL_init_15 rfl ?_
  refine wl_bipush (8 : Int32) dL_init_16 (by decide) ?_
  refine wl_newi (n := 8) (N := 8) (b1 := 2) (b2 := 14) dL_init_18 Zint rfl (Nat.le_refl _) (by decide) (fun p1 => ?_)
  show WZ G (d + 4) (2, 14) μL_init 20 [.ref (gB G)] [.ref p1, .ref (gB G)] ([((gB G, Sum.inr (11, [.ref B, .null, .int 0, .null, .null, .null])) : Nat × va_E), ((p1, Sum.inl (gY G 21, 8, Sum.inl (fun _ => 0))) : Nat × va_E)], [(B, m)]) Q
  refine wl_put 0 [((gB G, Sum.inr (11, [.ref B, .null, .int 0, .ref p1, .null, .null])) : Nat × va_E), ((p1, Sum.inl (gY G 21, 8, Sum.inl (fun _ => 0))) : Nat × va_E)] dL_init_20 pL_16 rfl (Nat.le_of_ble_eq_true rfl) rfl rfl rfl ?_
  refine wl_aload_n dL_init_23 rfl ?_
  refine wl_bipush (8 : Int32) dL_init_24 (by decide) ?_
  refine wl_newi (n := 8) (N := 8) (b1 := 1) (b2 := 6) dL_init_26 Zint rfl (Nat.le_refl _) (by decide) (fun p2 => ?_)
  show WZ G (d + 4) (1, 6) μL_init 28 [.ref (gB G)] [.ref p2, .ref (gB G)] ([((gB G, Sum.inr (11, [.ref B, .null, .int 0, .ref p1, .null, .null])) : Nat × va_E), ((p1, Sum.inl (gY G 21, 8, Sum.inl (fun _ => 0))) : Nat × va_E), ((p2, Sum.inl (gY G 21, 8, Sum.inl (fun _ => 0))) : Nat × va_E)], [(B, m)]) Q
  refine wl_put 0 [((gB G, Sum.inr (11, [.ref B, .null, .int 0, .ref p1, .ref p2, .null])) : Nat × va_E), ((p1, Sum.inl (gY G 21, 8, Sum.inl (fun _ => 0))) : Nat × va_E), ((p2, Sum.inl (gY G 21, 8, Sum.inl (fun _ => 0))) : Nat × va_E)] dL_init_28 pL_20 rfl (Nat.le_of_ble_eq_true rfl) rfl rfl rfl ?_
  refine wl_aload_n dL_init_31 rfl ?_
  refine wl_bipush (6 : Int32) dL_init_32 (by decide) ?_
  refine wl_newi (n := 6) (N := 6) (b1 := 0) (b2 := 0) dL_init_34 Zint rfl (Nat.le_refl _) (by decide) (fun p3 => ?_)
  show WZ G (d + 4) (0, 0) μL_init 36 [.ref (gB G)] [.ref p3, .ref (gB G)] ([((gB G, Sum.inr (11, [.ref B, .null, .int 0, .ref p1, .ref p2, .null])) : Nat × va_E), ((p1, Sum.inl (gY G 21, 8, Sum.inl (fun _ => 0))) : Nat × va_E), ((p2, Sum.inl (gY G 21, 8, Sum.inl (fun _ => 0))) : Nat × va_E), ((p3, Sum.inl (gY G 21, 6, Sum.inl (fun _ => 0))) : Nat × va_E)], [(B, m)]) Q
  refine wl_put 0 (lws0 G (B, p1, p2, p3)) dL_init_36 pL_23 rfl (Nat.le_of_ble_eq_true rfl) rfl rfl rfl ?_
  exact wl_vret dL_init_39 rfl (k (B, p1, p2, p3) m hC)
theorem BI_00 {Λ : Lc} {X : Lx} {m : Mm} (hC : CIv (atC G (lB Λ) false) m A00) : BI G Λ X m A00 := by
  refine ⟨hC, ⟨fun i hi => absurd hi (Nat.not_lt_zero _), fun i hi => absurd hi (Nat.not_lt_zero _), ⟨⟨by decide, by decide⟩, ⟨by decide, by decide⟩, ⟨by decide, by decide⟩⟩, ⟨by decide, by decide⟩, Or.inl rfl⟩, ⟨fun j hj => absurd hj (Nat.not_lt_zero _), fun j hj => absurd hj (Nat.not_lt_zero _)⟩, rfl, rfl⟩
def X00 : Lx := (0, fun _ => 0, fun _ => 0, fun _ => 0)
theorem w_flies {Λ : Lc} {m : Mm} (hC : CIv (atC G (lB Λ) false) m A00) (hs : gSl G ≤ 260) (hQ : ∀ M, Q (some (.int (1 : Int32))) M) : WZM G (d + 130) (3580, 101580) μL_flies [.ref (gB G), .ref (gSa G)] (lws0 G Λ, [(lB Λ, m)]) Q := by
  refine WZM.of pL (Nat.le_of_ble_eq_true rfl) rfl ?_
  refine wl_aload_n dL_flies_0 rfl ?_
  refine wl_aload_n dL_flies_1 rfl ?_
  refine wl_put 0 (lws G Λ X00 []) dL_flies_2 pL_28 rfl (Nat.le_of_ble_eq_true rfl) rfl rfl rfl ?_
  refine wl_aload_n dL_flies_5 rfl ?_
  refine wl_forget [.ref (gB G), lvU, lvU, lvU, lvU] ⟨Or.inl rfl, Or.inr rfl, Or.inl rfl, Or.inl rfl, Or.inl rfl, trivial⟩ ?_
  refine wl_callV (As := []) (S := []) (b' := (0, 0)) (b := (3580, 101580)) dL_flies_6 ML_234 ⟨0, _, rfl⟩ rfl rfl rfl (b00 _) (Nat.le_of_ble_eq_true rfl) ?_
  refine w_builds (d := d + 109) (X := X00) (ext := []) (ce := []) (BI_00 hC) ⟨rfl, rfl, rfl⟩ hs (by show 0 + 1000 < 2 ^ 30; decide) (fun m' A' X' hL hx => ?_)
  refine fl_1 (ext := []) hL.c ?_
  have key := fl_round (d := d) (G := G) (Λ := Λ) (Q := Q) hs (fun m' A' X' _ => hQ _) 10 0 X' m' A' (by omega) (hL.t (by decide)) (by have : xN X' ≤ 0 + 1000 := hx; omega)
  exact key
theorem w_law (hs : gSl G ≤ 260) (hQ : ∀ M, Q (some (.int (1 : Int32))) M) : WZ1 G (d + 131) (3877, 111236) μL_law 0 [.ref (gSa G)] [] ([], []) Q := by
  refine wz1_newO (ci := 11) (N := 6) (fs := [.null, .null, .int 0, .null, .null, .null]) (b1 := 3876) (b2 := 111230) tyL dL_law_0 rfl CL_11 IL iL uw11 tyL_ok (fun k hk => ?_) ?_
  · have : k = 0 ∨ k = 1 ∨ k = 2 ∨ k = 3 ∨ k = 4 ∨ k = 5 := by omega
    rcases this with e | e | e | e | e | e <;> subst e <;> rfl
  show WZ G (d + 131) (3876, 111230) μL_law 3 [.ref (gSa G)] [.ref (gB G)] ([lw00 G], []) Q
  refine wl_dup dL_law_3 rfl ?_
  refine wl_callI (As := []) (S := [.ref (gB G)]) (b' := (296, 9650)) (b := (3580, 101580)) dL_law_4 ML_229 rfl rfl (Nat.le_of_ble_eq_true rfl) ?_
  refine w_linit (d := d + 126) (fun Λ m hC => ?_)
  show WZ G (d + 131) (3580, 101580) μL_law 7 [.ref (gSa G)] [.ref (gB G)] (lws0 G Λ, [(lB Λ, m)]) Q
  refine wl_aload_n dL_law_7 rfl ?_
  refine wl_callV (As := [.ref (gSa G)]) (S := []) (b' := (3580, 101580)) (b := (0, 0)) dL_law_8 ML_230 ⟨0, _, rfl⟩ rfl rfl rfl rfl (Nat.le_of_ble_eq_true rfl) ?_
  refine w_flies hC hs (fun M => ?_)
  exact wl_zret dL_law_11 rfl rfl (hQ M)
end LAW
