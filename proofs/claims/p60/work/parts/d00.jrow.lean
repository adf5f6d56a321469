/-! OBJECTS, BYTES AND STRINGS AT THE LAW'S LEVEL: rows -/
section JROW
variable {G : Cx} {d b1 b2 : Nat} {b b' b'' : Nat × Nat} {μ ν : MI} {pc idx n : Nat} {L S As : List Value} {ws : va_W} {cs : List (Nat × Mm)} {Q : Option Value → LM → Prop}
theorem wl_newO {ci N : Nat} {C : String} {T : u_T} {fs : List Value} (ty : Nat → FieldType) (hd : decode μ.2.1 pc = .ok (.new idx, 3)) (hc : classes[ci]? = some (C, T, N)) (hcl : Cond.classLink μ.1.cls idx C ∈ tbG) (hin : Cond.instantiable C N ∈ tbG) (hini : Cond.initialized C ∈ tbG) (hws : ∀ w ∈ u_ws C T N, w ∈ tbG) (hty : ∀ k, k < N → parseFieldDescriptor (T k).2.2.1 = some (ty k)) (hfs : ∀ k, k < N → vp_V fs k = defaultValue (ty k)) (kk : ∀ a, WZ G d (b1, b2) μ (pc + 3) L (.ref a :: S) (ws ++ [((a, Sum.inr (ci, fs)) : Nat × va_E)], cs) Q) : WZ G d (b1 + 1, b2 + N) μ pc L S (ws, cs) Q := by
  intro p e R s mi args below meth c H locs cells slots ls F hR hS hL
  have hts := F.2.2.2.2.2.1
  have hE := F.2.2.2.2.2.2.2.2.2
  have hK := hE.1
  have hKn := hK.1 ci _ hc
  obtain ⟨r1, r2, r3, r4⟩ := F.2.2.2.2.2.2.2.2.1
  refine W.newcK F.1 F.2.1 F.2.2.2.2.1 (hts _ hcl) (hts _ hin) (hts _ hini) rfl hd (by have : cells + (b1 + 1) ≤ R.cells := r3; omega) (by have : slots + (b2 + N) ≤ R.slots := r4; omega) hKn.2.1 rfl fun H1 kC hkC e1 z1 o1 => ?_
  have hat : va_at (gD G) classes (H.size, Sum.inr (ci, fs)) H1 := ⟨_, hc, (u_born ty hts hws hKn hkC e1 hty).to (fun k hk => by first | exact hfs k hk | exact (hfs k hk).symm)⟩
  have hb0 : gB G ≤ H.size := Nat.le_trans hE.2.2.2.2.2.2.2.1 hS.1
  have hF : Fx G d (b1, b2) μ p R s mi args meth c (cells + 1) (slots + N) := by
    obtain ⟨a1, a2, a3, a4, a5, a6, a7, a8, -, a10⟩ := F
    refine ⟨a1, a2, a3, a4, a5, a6, a7, ⟨a8.1, Or.inr hR.1⟩, ⟨r1, r2, ?_, ?_⟩, a10⟩
    · have : cells + (b1 + 1) ≤ R.cells := r3
      show cells + 1 + b1 ≤ R.cells
      omega
    · have : slots + (b2 + N) ≤ R.slots := r4
      show slots + N + b2 ≤ R.slots
      omega
  have key := kk H.size p e R s mi args below meth c H1 locs (cells + 1) (slots + N) ls hF (hR.new hb0 hat o1) ⟨Nat.le_trans hS.1 (by omega), fun x h1 h2 => (o1 x (by have := hS.1; omega)).trans (hS.2.1 x h1 h2), hS.2.2⟩ hL
  rw [show cells + 1 + b1 = cells + (b1 + 1) by omega, show slots + N + b2 = slots + (b2 + N) by omega] at key
  exact key
/-- new array of bytes -/
theorem wl_newb {n N : Nat} {x : Int32} (hd : decode μ.2.1 pc = .ok (.newarray .byte, 2)) (hx : x = nI n) (hN : n ≤ N) (h10 : N < 10000) (kk : ∀ a, WZ G d (b1, b2) μ (pc + 2) L (.ref a :: S) (ws ++ [((a, Sum.inl (gY G 20, n, Sum.inl (fun _ => (0 : Int32)))) : Nat × va_E)], cs) Q) : WZ G d (b1 + 1, b2 + N) μ pc L (.int x :: S) (ws, cs) Q := by
  intro p e R s mi args below meth c H locs cells slots ls F hR hS hL
  have hts := F.2.2.2.2.2.1
  have hE := F.2.2.2.2.2.2.2.2.2
  have hK := hE.1
  obtain ⟨r1, r2, r3, r4⟩ := F.2.2.2.2.2.2.2.2.1
  subst hx
  have hg : (gT G)[0]? = some (gY G 20, .byte) := rfl
  refine va_newaK (N := n) (atype := .byte) F.1 F.2.1 (hts _ Zbyte) rfl hd rfl (nI_pos (by omega)) (nIc (by omega)) (by have : componentBytes (newarray.typeOf .byte) = 1 := rfl; rw [this]; omega) (by have : cells + (b1 + 1) ≤ R.cells := r3; omega) (by have : slots + (b2 + N) ≤ R.slots := r4; omega) rfl fun H1 cA e1 z1 o1 hAr hNm => ?_
  have hcA : cA = gY G 20 := Option.some.inj (hNm.symm.trans (primB (hK.2 _ _ hg).2))
  subst hcA
  have hat : va_at (gD G) classes (H.size, Sum.inl (gY G 20, n, Sum.inl (fun _ => (0 : Int32)))) H1 := e1
  have hb0 : gB G ≤ H.size := Nat.le_trans hE.2.2.2.2.2.2.2.1 hS.1
  have hF : Fx G d (b1, b2) μ p R s mi args meth c (cells + 1) (slots + N) := by
    obtain ⟨a1, a2, a3, a4, a5, a6, a7, a8, -, a10⟩ := F
    refine ⟨a1, a2, a3, a4, a5, a6, a7, ⟨a8.1, Or.inr hR.1⟩, ⟨r1, r2, ?_, ?_⟩, a10⟩
    · have : cells + (b1 + 1) ≤ R.cells := r3
      show cells + 1 + b1 ≤ R.cells
      omega
    · have : slots + (b2 + N) ≤ R.slots := r4
      show slots + N + b2 ≤ R.slots
      omega
  have key := kk H.size p e R s mi args below meth c H1 locs (cells + 1) (slots + N) ls hF (hR.new hb0 hat o1) ⟨Nat.le_trans hS.1 (by omega), fun x h1 h2 => (o1 x (by have := hS.1; omega)).trans (hS.2.1 x h1 h2), hS.2.2⟩ hL
  rw [show cells + 1 + b1 = cells + (b1 + 1) by omega, show slots + N + b2 = slots + (b2 + N) by omega] at key
  exact W.widen (k := cells + 1) (n := slots + N) (Nat.le_refl _) (by omega) key
theorem wl_bast {a n t0 : Nat} {i x : Int32} {cA : ClassId} {f : Nat → Int32} (q0 kx : Nat) (ws' : va_W) (hd : decode μ.2.1 pc = .ok (.bastore, 1)) (hq : ws[q0]? = some ((a, Sum.inl (cA, n, Sum.inl f)) : Nat × va_E)) (ht : (gT G)[t0]? = some (cA, .byte)) (hx : i = nI kx) (hk : kx < n) (hn : n < 2 ^ 31) (hw : ws.set q0 (a, Sum.inl (cA, n, Sum.inl (upd f kx (vp_nar .byte x)))) = ws') (kk : WZ G d b μ (pc + 1) L S (ws', cs) Q) : WZ G d b μ pc L (.int x :: .int i :: .ref a :: S) (ws, cs) Q := by
  intro p e R s mi args below meth c H locs cells slots ls F hR hS hL
  subst hx
  refine va_bast F.1 F.2.1 F.2.2.2.2.2.2.2.2.2.1 hR.P hR.D hS q0 t0 (RepL.at (cs := cs) hq) ht (vin hk hn) hd (fun H1 locs1 hP hD hS1 => ?_)
  rw [nIc (by omega)] at hP
  exact kk p e R s mi args below meth c H1 locs1 cells slots ls F (hR.set hq hw hP) hS1 hL
/-- a final field, in a constructor -/
theorem wl_putF {a ci k : Nat} {ty : FieldType} {v : Value} {fs : List Value} (q0 : Nat) (ws' : va_W) (hd : decode μ.2.1 pc = .ok (.putfield idx, 3)) (hi0 : μ.1.name = "<init>") (hf : LPk μ.1.cls idx ci k ty true) (hq : ws[q0]? = some ((a, Sum.inr (ci, fs)) : Nat × va_E)) (hl : k < fs.length) (hn : narrow ty v = v) (hfit : fits ty v = true) (hw : ws.set q0 (a, Sum.inr (ci, fs.set k v)) = ws') (kk : WZ G d b μ (pc + 3) L S (ws', cs) Q) : WZ G d b μ pc L (v :: .ref a :: S) (ws, cs) Q := by
  intro p e R s mi args below meth c H locs cells slots ls F hR hS hL
  obtain ⟨C, T, N, h1, h2, h4, h5, ⟨ty0, h6⟩, h7, h8, h9, h10⟩ := hf
  refine va_putF F.1 F.2.1 F.2.2.2.2.2.1 h4 ty0 h6 h7 F.2.2.2.2.1 F.2.2.2.2.2.2.2.2.2.1 hR.P hR.D hS q0 (RepL.at (cs := cs) hq) h1 k h2 (F.2.2.2.2.2.1 _ h5) (fun x h => h) h9 (F.2.2.2.2.2.2.2.1.1 hi0) (h10 rfl) h8 hn hfit hl hd (fun H1 locs1 hP hD hS1 => ?_)
  exact kk p e R s mi args below meth c H1 locs1 cells slots ls F (hR.set hq hw hP) hS1 hL
theorem wl_anull {M : LM} (hd : decode μ.2.1 pc = .ok (.aconst_null, 1)) (kk : WZ G d b μ (pc + 1) L (.null :: S) M Q) : WZ G d b μ pc L S M Q := by
  intro p e R s mi args below meth c H locs cells slots ls F hR hS hL
  exact lv_null F.1 F.2.1 hd (kk p e R s mi args below meth c H locs cells slots ls F hR hS hL)
theorem wl_ifnn {M : LM} {a : Nat} {off : Int} (tgt : Nat) (hd : decode μ.2.1 pc = .ok (.ifnonnull off, 3)) (ht : (pc : Int) + off = (tgt : Int)) (kk : WZ G d b μ tgt L S M Q) : WZ G d b μ pc L (.ref a :: S) M Q := by
  intro p e R s mi args below meth c H locs cells slots ls F hR hS hL
  exact lv_ifnonnull F.1 F.2.1 hd ht (kk p e R s mi args below meth c H locs cells slots ls F hR hS hL)
/-- bytes copied between words -/
theorem wl_copyD {a0 a n0 n1 sx dx nx : Nat} {c0 c1 : ClassId} {f g : Nat → Int32} (q0 q1 : Nat) (ws' : va_W) (hd : decode μ.2.1 pc = .ok (.invokestatic idx, 3)) (hl : Cond.methodLink μ.1.cls idx arraycopyName ∈ tbG) (ha0 : ws[q0]? = some ((a0, Sum.inl (gY G 20, n0, Sum.inl f)) : Nat × va_E)) (ha1 : ws[q1]? = some ((a, Sum.inl (gY G 20, n1, Sum.inl g)) : Nat × va_E)) (h4 : sx + nx ≤ n0) (h5 : dx + nx ≤ n1) (hs : sx < 10000) (hdx : dx < 10000) (hnx : nx < 10000) (hfit : ∀ i, i < nx → fits .byte (.int (f (sx + i))) = true) (hw : (S.map fun v => v.category).sum ≤ 8)
    (hws : ws.set q1 (a, Sum.inl (gY G 20, n1, Sum.inl (va_cpy f g sx dx nx))) = ws') (kk : WZ G (d + 1) b μ (pc + 3) L S (ws', cs) Q) : WZ G (d + 1) b μ pc L (.int (nI nx) :: .int (nI dx) :: .ref a :: .int (nI sx) :: .ref a0 :: S) (ws, cs) Q := by
  intro p e R s mi args below meth c H locs cells slots ls F hR hS hL
  have hts := F.2.2.2.2.2.1
  obtain ⟨g1, g2, -, -⟩ := F.2.2.2.2.2.2.2.2.1
  have e1 := nIc (k := sx) (by omega)
  have e2 := nIc (k := dx) (by omega)
  have e3 := nIc (k := nx) (by omega)
  refine va_copyi F.1 F.2.1 (hL.1.trans F.2.2.1.symm).symm F.2.2.2.2.1 (hts _ hl) (hts _ Ync) (hts _ Yst) (hts _ Yin) F.2.2.2.2.2.2.2.2.2.1 hR.P hR.D hS q0 q1 0 0 (RepL.at (cs := cs) ha0) (RepL.at (cs := cs) ha1) rfl rfl rfl (nI_pos (by omega)) (nI_pos (by omega)) (nI_pos (by omega)) (by rw [e1, e3]; exact h4) (by rw [e2, e3]; exact h5) (by rw [e1, e3]; exact hfit) (by omega) (by
      have : nativeFrameWords "java/lang/System" "arraycopy" 5 = 7 := by decide +kernel
      rw [this]
      omega) hd (fun H1 locs1 hP hD hS1 => ?_)
  rw [e1, e2, e3] at hP
  exact kk p e R s mi args below meth c H1 locs1 cells slots ls F (hR.set ha1 hws hP) hS1 hL
/-- bytes copied out of a constant string -/
theorem wl_copyK {i a n1 dx nx : Nat} {g : Nat → Int32} (q1 : Nat) (ws' : va_W) (hd : decode μ.2.1 pc = .ok (.invokestatic idx, 3)) (hl : Cond.methodLink μ.1.cls idx arraycopyName ∈ tbG) (hi : i < nJS) (ha1 : ws[q1]? = some ((a, Sum.inl (gY G 20, n1, Sum.inl g)) : Nat × va_E)) (h4 : nx ≤ leJ i) (h5 : dx + nx ≤ n1) (hdx : dx < 10000) (hnx : nx < 10000) (hfit : ∀ j, j < nx → fits .byte (.int (chJ i (0 + j))) = true) (hw : (S.map fun v => v.category).sum ≤ 8)
    (hws : ws.set q1 (a, Sum.inl (gY G 20, n1, Sum.inl (va_cpy (chJ i) g 0 dx nx))) = ws') (kk : WZ G (d + 1) b μ (pc + 3) L S (ws', cs) Q) : WZ G (d + 1) b μ pc L (.int (nI nx) :: .int (nI dx) :: .ref a :: .int (0 : Int32) :: .ref (gV G i) :: S) (ws, cs) Q := by
  intro p e R s mi args below meth c H locs cells slots ls F hR hS hL
  have hts := F.2.2.2.2.2.1
  have hE := F.2.2.2.2.2.2.2.2.2
  obtain ⟨g1, g2, -, -⟩ := F.2.2.2.2.2.2.2.2.1
  have e1 : (0 : Int32).toNatClampNeg = 0 := by decide
  have e2 := nIc (k := dx) (by omega)
  have e3 := nIc (k := nx) (by omega)
  have hT : va_T .byte (gV G i) (leJ i) (fun j => .int (chJ i j)) (fr G) s s.heap := (hE.2.1.1 i hi).2.2.2.narrow (fun q hq => hq.1)
  refine vk_copyt F.1 F.2.1 (hL.1.trans F.2.2.1.symm).symm F.2.2.2.2.1 (hts _ hl) (hts _ Ync) (hts _ Yst) (hts _ Yin) F.2.2.2.2.2.2.2.2.2.1 hR.P hR.D hS hT q1 0 (RepL.at (cs := cs) ha1) rfl (by decide) (nI_pos (by omega)) (nI_pos (by omega)) (by rw [e1, e3]; omega) (by rw [e2, e3]; exact h5) (by rw [e1, e3]; exact hfit) (by omega) (by
      have : nativeFrameWords "java/lang/System" "arraycopy" 5 = 7 := by decide +kernel
      rw [this]
      omega) hd (fun H1 locs1 hP hD hS1 => ?_)
  rw [e1, e2, e3] at hP
  exact kk p e R s mi args below meth c H1 locs1 cells slots ls F (hR.set ha1 hws hP) hS1 hL
/-- constants' rows -/
theorem wl_sval {i : Nat} {M : LM} (hd : decode μ.2.1 pc = .ok (.getfield idx, 3)) (hf : Cond.fieldLink μ.1.cls idx "java/lang/String" "value" "[B" ∈ tbG) (hi : i < nJS) (kk : WZ G d b μ (pc + 3) L (.ref (gV G i) :: S) M Q) : WZ G d b μ pc L (.ref (gK G i) :: S) M Q := by
  intro p e R s mi args below meth c H locs cells slots ls F hR hS hL
  have hE := F.2.2.2.2.2.2.2.2.2
  exact vk_getf F.1 F.2.1 (hE.2.1.1 i hi).2.2.1 hS.ab F.2.2.2.2.1 (F.2.2.2.2.2.1 _ hf) (fun x h => h) hd (kk p e R s mi args below meth c H locs cells slots ls F hR hS hL)
theorem wl_scod {i : Nat} {M : LM} (hd : decode μ.2.1 pc = .ok (.getfield idx, 3)) (hf : Cond.fieldLink μ.1.cls idx "java/lang/String" "coder" "B" ∈ tbG) (hi : i < nJS) (kk : WZ G d b μ (pc + 3) L (.int 0 :: S) M Q) : WZ G d b μ pc L (.ref (gK G i) :: S) M Q := by
  intro p e R s mi args below meth c H locs cells slots ls F hR hS hL
  have hE := F.2.2.2.2.2.2.2.2.2
  exact vk_getf F.1 F.2.1 (hE.2.1.1 i hi).2.1 hS.ab F.2.2.2.2.1 (F.2.2.2.2.2.1 _ hf) (fun x h => h) hd (kk p e R s mi args below meth c H locs cells slots ls F hR hS hL)
theorem wl_scmp {M : LM} (hd : decode μ.2.1 pc = .ok (.getstatic idx, 3)) (hf : Cond.fieldLink μ.1.cls idx "java/lang/String" "COMPACT_STRINGS" "Z" ∈ tbG) (kk : WZ G d b μ (pc + 3) L (.int 1 :: S) M Q) : WZ G d b μ pc L S M Q := by
  intro p e R s mi args below meth c H locs cells slots ls F hR hS hL
  have hE := F.2.2.2.2.2.2.2.2.2
  exact va_gets F.1 F.2.1 hE.2.2.2.1 hS.ab F.2.2.2.2.1 (F.2.2.2.2.2.1 _ hf) (fun x h => h) hd (kk p e R s mi args below meth c H locs cells slots ls F hR hS hL)
theorem wl_siob {M : LM} (hd : decode μ.2.1 pc = .ok (.getstatic idx, 3)) (hf : Cond.fieldLink μ.1.cls idx "jdk/internal/util/Preconditions" "SIOOBE_FORMATTER" "Ljava/util/function/BiFunction;" ∈ tbG) (kk : ∀ q : Value, q.isRef = true → WZ G d b μ (pc + 3) L (q :: S) M Q) : WZ G d b μ pc L S M Q := by
  intro p e R s mi args below meth c H locs cells slots ls F hR hS hL
  have hE := F.2.2.2.2.2.2.2.2.2
  obtain ⟨q, hq, hZ, -⟩ := hE.2.2.2.2.1
  exact va_gets F.1 F.2.1 hZ hS.ab F.2.2.2.2.1 (F.2.2.2.2.2.1 _ hf) (fun x h => h) hd (kk q hq p e R s mi args below meth c H locs cells slots ls F hR hS hL)
theorem wl_sbal {i j : Nat} {M : LM} (hd : decode μ.2.1 pc = .ok (.baload, 1)) (hi : i < nJS) (hj : j < leJ i) (kk : WZ G d b μ (pc + 1) L (.int (chJ i j) :: S) M Q) : WZ G d b μ pc L (.int (nI j) :: .ref (gV G i) :: S) M Q := by
  intro p e R s mi args below meth c H locs cells slots ls F hR hS hL
  have hE := F.2.2.2.2.2.2.2.2.2
  have := leJ_lt i hi
  exact va_tb F.1 F.2.1 (hE.2.1.1 i hi).2.2.2 hS.ab (i := nI j) (v := .int (chJ i j)) (vin (n := leJ i) hj (by omega)) (by rw [nIc (by omega)]; rfl) hd (kk p e R s mi args below meth c H locs cells slots ls F hR hS hL)
theorem wl_stln {i : Nat} {M : LM} (hd : decode μ.2.1 pc = .ok (.arraylength, 1)) (hi : i < nJS) (kk : WZ G d b μ (pc + 1) L (.int (nI (leJ i)) :: S) M Q) : WZ G d b μ pc L (.ref (gV G i) :: S) M Q := by
  intro p e R s mi args below meth c H locs cells slots ls F hR hS hL
  have hE := F.2.2.2.2.2.2.2.2.2
  exact va_tlen F.1 F.2.1 (hE.2.1.1 i hi).2.2.2 hS.ab (v := nI (leJ i)) rfl hd (kk p e R s mi args below meth c H locs cells slots ls F hR hS hL)
theorem wl_callK {i : Nat} {M : LM} (hd : decode μ.2.1 pc = .ok (.invokevirtual idx, 3)) (hl : MLv μ.1.cls idx ν n) (hi : i < nJS) (hr : RJ0 = ν.1.cls) (hn : As.length = n) (hb : b'' = (b'.1 + b.1, b'.2 + b.2)) (hw : (S.map fun v => v.category).sum ≤ 8) (hM : WZM G d b' ν (.ref (gK G i) :: As) M (fun r m' => WZ G (d + 1) b μ (pc + 3) L (r.toList ++ S) m' Q)) : WZ G (d + 1) b'' μ pc L (As.reverse ++ .ref (gK G i) :: S) M Q := by
  intro p e R s mi args below meth c H locs cells slots ls F hR hS hL
  obtain ⟨⟨h1, h2, h3, h4, h5⟩, h6, h7⟩ := hl
  have hts := F.2.2.2.2.2.1
  obtain ⟨g1, g2, g3, g4⟩ := F.2.2.2.2.2.2.2.2.1
  subst hb
  have hpre := F.preL (As := .ref (gK G i) :: As) hR hS
  have hrc := vk_recv F.2.2.2.2.2.2.2.2.2.2.1 hi hS.ab
  rw [show "java/lang/String" = RJ0 from rfl, hr] at hrc
  refine run_wl (va_runV (As := As) (b := gK G i) (rest := S) ⟨F.1, F.2.1, F.2.2.1, F.2.2.2.2.1, hts⟩ hM ⟨callB_of n hts (wsM_ok h3) rfl rfl rfl (hts _ h2) (hts _ h1) h4 (rm_ok ⟨g1, g2⟩ h5), hts _ h6, hts _ h7⟩ ⟨hpre.1, hrc, hpre.2⟩ rfl hn hL.1 rfl (lv_room hw) hd ⟨?_, ?_⟩) F rfl hS hL
  · dsimp only at g3; omega
  · dsimp only at g4; omega
/-- the digits' row: getstatic, iload, ineg, baload -/
theorem wl_dig {M : LM} {q : Nat} {j : Fin 4} {x : Int32} (hd0 : decode μ.2.1 pc = .ok (.getstatic idx, 3)) (hf : Cond.fieldLink μ.1.cls idx "java/lang/Integer" "DigitOnes" "[B" ∈ tbG) (hd1 : decode μ.2.1 (pc + 3) = .ok (.iload_n j, 1)) (hd2 : decode μ.2.1 (pc + 4) = .ok (.ineg, 1)) (hd3 : decode μ.2.1 (pc + 5) = .ok (.baload, 1)) (hj : L[(j : Nat)]? = some (.int x)) (hx : -x = nI q) (hq : q < 100) (kk : WZ G d b μ (pc + 6) L (.int (nI (48 + q % 10)) :: S) M Q) : WZ G d b μ pc L S M Q := by
  intro p e R s mi args below meth c H locs cells slots ls F hR hS hL
  have hE := F.2.2.2.2.2.2.2.2.2
  obtain ⟨q', hq', -, t, hZ, hT⟩ := hE.2.2.2.2.1
  refine va_gets F.1 F.2.1 hZ hS.ab F.2.2.2.2.1 (F.2.2.2.2.2.1 _ hf) (fun x h => h) hd0 ?_
  refine lv_iload_n F.1 F.2.1 hd1 rfl (hL.at hj rfl) ?_
  refine lv_ineg F.1 F.2.1 hd2 ?_
  rw [hx]
  exact va_tb F.1 F.2.1 hT hS.ab (i := nI q) (v := .int (nI (48 + q % 10))) (vin (n := 100) hq (by omega)) (by rw [nIc (by omega)]) hd3 (kk p e R s mi args below meth c H locs cells slots ls F hR hS hL)
end JROW
