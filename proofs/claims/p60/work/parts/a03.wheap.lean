/-! ROWS OF THE LAW'S LEVEL that read and write its words -/
section WHEAP
variable {G : Cx} {d : Nat} {b : Nat × Nat} {μ : MI} {pc idx : Nat} {L S : List Value} {ws : va_W} {cs : List (Nat × Mm)} {Q : Option Value → LM → Prop}
theorem wl_get {a ci k : Nat} {fs : List Value} (q0 : Nat) (v : Value) (hd : decode μ.2.1 pc = .ok (.getfield idx, 3)) (hf : LGk μ.1.cls idx ci k) (hq : ws[q0]? = some ((a, Sum.inr (ci, fs)) : Nat × va_E)) (hv : fs[k]? = some v) (kk : WZ G d b μ (pc + 3) L (v :: S) (ws, cs) Q) : WZ G d b μ pc L (.ref a :: S) (ws, cs) Q := by
  intro p e R s mi args below meth c H locs cells slots ls F hR hS hL
  obtain ⟨C, T, N, h1, h2, h4, h5⟩ := hf
  exact va_get F.1 F.2.1 F.2.2.2.2.2.1 h4 F.2.2.2.2.1 F.2.2.2.2.2.2.2.2.2.1 hR.P q0 (RepL.at (cs := cs) hq) h1 k h2 (F.2.2.2.2.2.1 _ h5) (fun x h => h) hv hd (kk p e R s mi args below meth c H locs cells slots ls F hR hS hL)
theorem wl_put {a ci k : Nat} {ty : FieldType} {v : Value} {fs : List Value} (q0 : Nat) (ws' : va_W) (hd : decode μ.2.1 pc = .ok (.putfield idx, 3)) (hf : LPk μ.1.cls idx ci k ty false) (hq : ws[q0]? = some ((a, Sum.inr (ci, fs)) : Nat × va_E)) (hl : k < fs.length) (hn : narrow ty v = v) (hfit : fits ty v = true) (hw : ws.set q0 (a, Sum.inr (ci, fs.set k v)) = ws') (kk : WZ G d b μ (pc + 3) L S (ws', cs) Q) : WZ G d b μ pc L (v :: .ref a :: S) (ws, cs) Q := by
  intro p e R s mi args below meth c H locs cells slots ls F hR hS hL
  obtain ⟨C, T, N, h1, h2, h4, h5, ⟨ty0, h6⟩, h7, h8, h9, -⟩ := hf
  refine va_put F.1 F.2.1 F.2.2.2.2.2.1 h4 ty0 h6 h7 F.2.2.2.2.1 F.2.2.2.2.2.2.2.2.2.1 hR.P hR.D hS q0 (RepL.at (cs := cs) hq) h1 k h2 (F.2.2.2.2.2.1 _ h5) (fun x h => h) h9 h8 hn hfit hl hd (fun H1 locs1 hP hD hS1 => ?_)
  exact kk p e R s mi args below meth c H1 locs1 cells slots ls F (hR.set hq hw hP) hS1 hL
theorem wl_iald {a n t0 : Nat} {i : Int32} {cA : ClassId} {f : Nat → Int32} (q0 kx : Nat) (v : Int32) (hd : decode μ.2.1 pc = .ok (.iaload, 1)) (hq : ws[q0]? = some ((a, Sum.inl (cA, n, Sum.inl f)) : Nat × va_E)) (ht : (gT G)[t0]? = some (cA, .int)) (hx : i = nI kx) (hk : kx < n) (hn : n < 2 ^ 31) (hv : f kx = v) (kk : WZ G d b μ (pc + 1) L (.int v :: S) (ws, cs) Q) : WZ G d b μ pc L (.int i :: .ref a :: S) (ws, cs) Q := by
  intro p e R s mi args below meth c H locs cells slots ls F hR hS hL
  subst hx
  refine va_iald F.1 F.2.1 F.2.2.2.2.2.2.2.2.2.1 hR.P q0 t0 (RepL.at (cs := cs) hq) ht (vin hk hn) hd ?_
  rw [nIc (by omega), hv]
  exact kk p e R s mi args below meth c H locs cells slots ls F hR hS hL
theorem wl_lald {a n t0 : Nat} {i : Int32} {cA : ClassId} {f : Nat → Int64} (q0 kx : Nat) (v : Int64) (hd : decode μ.2.1 pc = .ok (.laload, 1)) (hq : ws[q0]? = some ((a, Sum.inl (cA, n, Sum.inr (Sum.inl f))) : Nat × va_E)) (ht : (gT G)[t0]? = some (cA, .long)) (hx : i = nI kx) (hk : kx < n) (hn : n < 2 ^ 31) (hv : f kx = v) (kk : WZ G d b μ (pc + 1) L (.long v :: S) (ws, cs) Q) : WZ G d b μ pc L (.int i :: .ref a :: S) (ws, cs) Q := by
  intro p e R s mi args below meth c H locs cells slots ls F hR hS hL
  subst hx
  refine va_lald F.1 F.2.1 F.2.2.2.2.2.2.2.2.2.1 hR.P q0 t0 (RepL.at (cs := cs) hq) ht (vin hk hn) hd ?_
  rw [nIc (by omega), hv]
  exact kk p e R s mi args below meth c H locs cells slots ls F hR hS hL
theorem wl_bald {a n t0 : Nat} {i : Int32} {cA : ClassId} {f : Nat → Int32} (q0 kx : Nat) (v : Int32) (hd : decode μ.2.1 pc = .ok (.baload, 1)) (hq : ws[q0]? = some ((a, Sum.inl (cA, n, Sum.inl f)) : Nat × va_E)) (ht : (gT G)[t0]? = some (cA, .byte)) (hx : i = nI kx) (hk : kx < n) (hn : n < 2 ^ 31) (hv : f kx = v) (kk : WZ G d b μ (pc + 1) L (.int v :: S) (ws, cs) Q) : WZ G d b μ pc L (.int i :: .ref a :: S) (ws, cs) Q := by
  intro p e R s mi args below meth c H locs cells slots ls F hR hS hL
  subst hx
  refine va_bald F.1 F.2.1 F.2.2.2.2.2.2.2.2.2.1 hR.P q0 t0 (RepL.at (cs := cs) hq) ht (vin hk hn) hd ?_
  rw [nIc (by omega), hv]
  exact kk p e R s mi args below meth c H locs cells slots ls F hR hS hL
theorem wl_iast {a n t0 : Nat} {i x : Int32} {cA : ClassId} {f : Nat → Int32} (q0 kx : Nat) (ws' : va_W) (hd : decode μ.2.1 pc = .ok (.iastore, 1)) (hq : ws[q0]? = some ((a, Sum.inl (cA, n, Sum.inl f)) : Nat × va_E)) (ht : (gT G)[t0]? = some (cA, .int)) (hx : i = nI kx) (hk : kx < n) (hn : n < 2 ^ 31) (hw : ws.set q0 (a, Sum.inl (cA, n, Sum.inl (upd f kx x))) = ws') (kk : WZ G d b μ (pc + 1) L S (ws', cs) Q) : WZ G d b μ pc L (.int x :: .int i :: .ref a :: S) (ws, cs) Q := by
  intro p e R s mi args below meth c H locs cells slots ls F hR hS hL
  subst hx
  refine va_iast F.1 F.2.1 F.2.2.2.2.2.2.2.2.2.1 hR.P hR.D hS q0 t0 (RepL.at (cs := cs) hq) ht (vin hk hn) hd (fun H1 locs1 hP hD hS1 => ?_)
  rw [nIc (by omega)] at hP
  exact kk p e R s mi args below meth c H1 locs1 cells slots ls F (hR.set hq hw hP) hS1 hL
theorem wl_last {a n t0 : Nat} {i : Int32} {x : Int64} {cA : ClassId} {f : Nat → Int64} (q0 kx : Nat) (ws' : va_W) (hd : decode μ.2.1 pc = .ok (.lastore, 1)) (hq : ws[q0]? = some ((a, Sum.inl (cA, n, Sum.inr (Sum.inl f))) : Nat × va_E)) (ht : (gT G)[t0]? = some (cA, .long)) (hx : i = nI kx) (hk : kx < n) (hn : n < 2 ^ 31) (hw : ws.set q0 (a, Sum.inl (cA, n, Sum.inr (Sum.inl (vp_updL f kx x)))) = ws') (kk : WZ G d b μ (pc + 1) L S (ws', cs) Q) : WZ G d b μ pc L (.long x :: .int i :: .ref a :: S) (ws, cs) Q := by
  intro p e R s mi args below meth c H locs cells slots ls F hR hS hL
  subst hx
  refine va_last F.1 F.2.1 F.2.2.2.2.2.2.2.2.2.1 hR.P hR.D hS q0 t0 (RepL.at (cs := cs) hq) ht (vin hk hn) hd (fun H1 locs1 hP hD hS1 => ?_)
  rw [nIc (by omega)] at hP
  exact kk p e R s mi args below meth c H1 locs1 cells slots ls F (hR.set hq hw hP) hS1 hL
/-- the script -/
theorem wl_sld {i : Int32} {M : LM} (k : Nat) (hd : decode μ.2.1 pc = .ok (.iaload, 1)) (hi : i = nI k) (hk : k < gSl G) (hl : gSl G < 2 ^ 31) (kk : WZ G d b μ (pc + 1) L (.int (gSx G k) :: S) M Q) : WZ G d b μ pc L (.int i :: .ref (gSa G) :: S) M Q := by
  intro p e R s mi args below meth c H locs cells slots ls F hR hS hL
  subst hi
  have hE := F.2.2.2.2.2.2.2.2.2
  have hX := hE.2.2.2.2.2.2.2.2.1
  have hb := hE.2.2.2.2.2.2.2.2.2
  refine va_sld F.1 F.2.1 hX (Nat.lt_of_lt_of_le hb hE.2.2.2.2.2.2.2.1) (fr_lt hb) hS (vin hk hl) hd ?_
  rw [nIc (by omega)]
  exact kk p e R s mi args below meth c H locs cells slots ls F hR hS hL
theorem wl_slen {M : LM} (hd : decode μ.2.1 pc = .ok (.arraylength, 1)) (kk : WZ G d b μ (pc + 1) L (.int (nI (gSl G)) :: S) M Q) : WZ G d b μ pc L (.ref (gSa G) :: S) M Q := by
  intro p e R s mi args below meth c H locs cells slots ls F hR hS hL
  have hE := F.2.2.2.2.2.2.2.2.2
  have hX := hE.2.2.2.2.2.2.2.2.1
  have hb := hE.2.2.2.2.2.2.2.2.2
  exact va_slen F.1 F.2.1 hX (Nat.lt_of_lt_of_le hb hE.2.2.2.2.2.2.2.1) (fr_lt hb) hS hd (kk p e R s mi args below meth c H locs cells slots ls F hR hS hL)
theorem wl_alen {a n t0 : Nat} {cA : ClassId} {x : vp_A} {ty : FieldType} (q0 : Nat) (hd : decode μ.2.1 pc = .ok (.arraylength, 1)) (hq : ws[q0]? = some ((a, Sum.inl (cA, x)) : Nat × va_E)) (ht : (gT G)[t0]? = some (cA, ty)) (hn : x.1 = n) (kk : WZ G d b μ (pc + 1) L (.int (nI n) :: S) (ws, cs) Q) : WZ G d b μ pc L (.ref a :: S) (ws, cs) Q := by
  intro p e R s mi args below meth c H locs cells slots ls F hR hS hL
  exact va_alen F.1 F.2.1 F.2.2.2.2.2.2.2.2.2.1 hR.P q0 t0 (RepL.at (cs := cs) hq) ht (congrArg Int32.ofNat hn) hd (kk p e R s mi args below meth c H locs cells slots ls F hR hS hL)
theorem wl_ixor {x y : Int32} {M : LM} (hd : decode μ.2.1 pc = .ok (.ixor, 1)) (k : WZ G d b μ (pc + 1) L (.int (x ^^^ y) :: S) M Q) : WZ G d b μ pc L (.int y :: .int x :: S) M Q := by
  intro p e R s mi args below meth c H locs cells slots ls F hR hS hL
  exact lv_ixor F.1 F.2.1 hd (k p e R s mi args below meth c H locs cells slots ls F hR hS hL)
theorem wl_ior {x y : Int32} {M : LM} (hd : decode μ.2.1 pc = .ok (.ior, 1)) (k : WZ G d b μ (pc + 1) L (.int (x ||| y) :: S) M Q) : WZ G d b μ pc L (.int y :: .int x :: S) M Q := by
  intro p e R s mi args below meth c H locs cells slots ls F hR hS hL
  exact lv_ior F.1 F.2.1 hd (k p e R s mi args below meth c H locs cells slots ls F hR hS hL)
theorem wl_ishl {x y : Int32} {M : LM} (hd : decode μ.2.1 pc = .ok (.ishl, 1)) (k : WZ G d b μ (pc + 1) L (.int (x <<< (y &&& 31)) :: S) M Q) : WZ G d b μ pc L (.int y :: .int x :: S) M Q := by
  intro p e R s mi args below meth c H locs cells slots ls F hR hS hL
  exact lv_ishl F.1 F.2.1 hd (k p e R s mi args below meth c H locs cells slots ls F hR hS hL)
theorem wl_iushr {x y : Int32} {M : LM} (hd : decode μ.2.1 pc = .ok (.iushr, 1)) (k : WZ G d b μ (pc + 1) L (.int ((x.toUInt32 >>> (y.toUInt32 &&& Int32.toUInt32 31)).toInt32) :: S) M Q) : WZ G d b μ pc L (.int y :: .int x :: S) M Q := by
  intro p e R s mi args below meth c H locs cells slots ls F hR hS hL
  exact lv_iushr F.1 F.2.1 hd rfl (k p e R s mi args below meth c H locs cells slots ls F hR hS hL)
theorem wl_aret {a : Nat} {rt : FieldType} {M : LM} (hd : decode μ.2.1 pc = .ok (.areturn, 1)) (hr : μ.2.2.2 = some rt) (hrt : (∃ n, rt = FieldType.object n) ∨ ∃ t, rt = FieldType.array t) (hq : Q (some (.ref a)) M) : WZ G d b μ pc L ([.ref a]) M Q := by
  intro p e R s mi args below meth c H locs cells slots ls F hR hS hL
  refine W.widen (k := cells + b.1) (n := slots + b.2) (Nat.le_add_right _ _) (Nat.le_add_right _ _) ?_
  exact W.aret F.1 F.2.1 (F.2.2.2.1.trans hr) hrt (Or.inr ⟨a, rfl⟩) (fun t ht _ => ⟨⟨_, M, hq, rfl, by rw [ht]; exact hR⟩, hS.F ht⟩) hS.2.2 hd F.2.2.2.2.2.2.1
end WHEAP
section WNEW
variable {G : Cx} {d b1 b2 : Nat} {μ : MI} {pc idx : Nat} {L S : List Value} {ws : va_W} {cs : List (Nat × Mm)} {Q : Option Value → LM → Prop}
/-- new array of ints -/
theorem wl_newi {n N : Nat} {x : Int32} (hd : decode μ.2.1 pc = .ok (.newarray .int, 2)) (ha : Cond.arrayClass .int ∈ tbG) (hx : x = nI n) (hN : n ≤ N) (h10 : N < 10000) (kk : ∀ a, WZ G d (b1, b2) μ (pc + 2) L (.ref a :: S) (ws ++ [((a, Sum.inl (gY G 21, n, Sum.inl (fun _ => (0 : Int32)))) : Nat × va_E)], cs) Q) : WZ G d (b1 + 1, b2 + N) μ pc L (.int x :: S) (ws, cs) Q := by
  intro p e R s mi args below meth c H locs cells slots ls F hR hS hL
  have hts := F.2.2.2.2.2.1
  have hE := F.2.2.2.2.2.2.2.2.2
  have hK := hE.1
  obtain ⟨r1, r2, r3, r4⟩ := F.2.2.2.2.2.2.2.2.1
  subst hx
  have hg : (gT G)[1]? = some (gY G 21, .int) := rfl
  refine va_newaK (N := n) (atype := .int) F.1 F.2.1 (hts _ ha) rfl hd rfl (nI_pos (by omega)) (nIc (by omega)) (by have : componentBytes (newarray.typeOf .int) = 4 := rfl; rw [this]; omega) (by have : cells + (b1 + 1) ≤ R.cells := r3; omega) (by have : slots + (b2 + N) ≤ R.slots := r4; omega) rfl fun H1 cA e1 z1 o1 hAr hNm => ?_
  have hcA : cA = gY G 21 := Option.some.inj (hNm.symm.trans (primI (hK.2 _ _ hg).2))
  subst hcA
  have hat : va_at (gD G) classes (H.size, Sum.inl (gY G 21, n, Sum.inl (fun _ => (0 : Int32)))) H1 := e1
  have hb0 : gB G ≤ H.size := Nat.le_trans hE.2.2.2.2.2.2.2.1 hS.1
  have hF : Fx G d (b1, b2) μ p R s mi args meth c (cells + 1) (slots + N) := by
    obtain ⟨a1, a2, a3, a4, a5, a6, a7, a8, -, a10⟩ := F
    refine ⟨a1, a2, a3, a4, a5, a6, a7, ⟨a8.1, Or.inr hR.1⟩, ⟨r1, r2, ?_, ?_⟩, a10⟩
    · have : cells + (b1 + 1) ≤ R.cells := r3
      show cells + 1 + b1 ≤ R.cells
      omega
    · have : slots + (b2 + N) ≤ R.slots := r4
      show slots + N + b2 ≤ R.slots
      omega
  have key := kk H.size p e R s mi args below meth c H1 locs (cells + 1) (slots + N) ls hF (hR.new hb0 hat o1) ⟨Nat.le_trans hS.1 (by omega), fun x h1 h2 => (o1 x (by have := hS.1; omega)).trans (hS.2.1 x h1 h2), hS.2.2⟩ hL
  rw [show cells + 1 + b1 = cells + (b1 + 1) by omega, show slots + N + b2 = slots + (b2 + N) by omega] at key
  exact W.widen (k := cells + 1) (n := slots + N) (Nat.le_refl _) (by omega) key
/-- new array of longs -/
theorem wl_newl {n N : Nat} {x : Int32} (hd : decode μ.2.1 pc = .ok (.newarray .long, 2)) (ha : Cond.arrayClass .long ∈ tbG) (hx : x = nI n) (hN : n ≤ N) (h10 : N < 10000) (kk : ∀ a, WZ G d (b1, b2) μ (pc + 2) L (.ref a :: S) (ws ++ [((a, Sum.inl (gY G 22, n, Sum.inr (Sum.inl (fun _ => (0 : Int64))))) : Nat × va_E)], cs) Q) : WZ G d (b1 + 1, b2 + N) μ pc L (.int x :: S) (ws, cs) Q := by
  intro p e R s mi args below meth c H locs cells slots ls F hR hS hL
  have hts := F.2.2.2.2.2.1
  have hE := F.2.2.2.2.2.2.2.2.2
  have hK := hE.1
  obtain ⟨r1, r2, r3, r4⟩ := F.2.2.2.2.2.2.2.2.1
  subst hx
  have hg : (gT G)[2]? = some (gY G 22, .long) := rfl
  refine va_newaK (N := n) (atype := .long) F.1 F.2.1 (hts _ ha) rfl hd rfl (nI_pos (by omega)) (nIc (by omega)) (by have : componentBytes (newarray.typeOf .long) = 8 := rfl; rw [this]; omega) (by have : cells + (b1 + 1) ≤ R.cells := r3; omega) (by have : slots + (b2 + N) ≤ R.slots := r4; omega) rfl fun H1 cA e1 z1 o1 hAr hNm => ?_
  have hcA : cA = gY G 22 := Option.some.inj (hNm.symm.trans (primJ (hK.2 _ _ hg).2))
  subst hcA
  have hat : va_at (gD G) classes (H.size, Sum.inl (gY G 22, n, Sum.inr (Sum.inl (fun _ => (0 : Int64))))) H1 := e1
  have hb0 : gB G ≤ H.size := Nat.le_trans hE.2.2.2.2.2.2.2.1 hS.1
  have hF : Fx G d (b1, b2) μ p R s mi args meth c (cells + 1) (slots + N) := by
    obtain ⟨a1, a2, a3, a4, a5, a6, a7, a8, -, a10⟩ := F
    refine ⟨a1, a2, a3, a4, a5, a6, a7, ⟨a8.1, Or.inr hR.1⟩, ⟨r1, r2, ?_, ?_⟩, a10⟩
    · have : cells + (b1 + 1) ≤ R.cells := r3
      show cells + 1 + b1 ≤ R.cells
      omega
    · have : slots + (b2 + N) ≤ R.slots := r4
      show slots + N + b2 ≤ R.slots
      omega
  have key := kk H.size p e R s mi args below meth c H1 locs (cells + 1) (slots + N) ls hF (hR.new hb0 hat o1) ⟨Nat.le_trans hS.1 (by omega), fun x h1 h2 => (o1 x (by have := hS.1; omega)).trans (hS.2.1 x h1 h2), hS.2.2⟩ hL
  rw [show cells + 1 + b1 = cells + (b1 + 1) by omega, show slots + N + b2 = slots + (b2 + N) by omega] at key
  exact W.widen (k := cells + 1) (n := slots + N) (Nat.le_refl _) (by omega) key
end WNEW
