/-! CALLS -/
def MLb (own : String) (idx : Nat) (ν : MI) (n : Nat) : Prop := Cond.methodLink own idx ν.1 ∈ tbG ∧ Cond.initialized ν.1.cls ∈ tbG ∧ Cond.code ν.1 ν.2.1 ν.2.2.1 ν.2.2.2 ∈ tbG ∧ (ν.1.cls ≠ "java/lang/invoke/MethodHandle" ∧ ν.1.cls ≠ "java/lang/invoke/VarHandle" ∧ (parseMethodDescriptor ν.1.desc).map (fun d => d.parameters.length) = some n) ∧ ν.2.2.1 ≤ 60
def MLs (own : String) (idx : Nat) (ν : MI) (n : Nat) : Prop := MLb own idx ν n ∧ Cond.static ν.1 ∈ tbG
def MLv (own : String) (idx : Nat) (ν : MI) (n : Nat) : Prop := MLb own idx ν n ∧ Cond.instanceMethod ν.1 ∈ tbG ∧ Cond.selects ν.1.cls ν.1 ν.1 ∈ tbG
def MLi (own : String) (idx : Nat) (ν : MI) (n : Nat) : Prop := MLb own idx ν n ∧ Cond.instanceMethod ν.1 ∈ tbG ∧ ν.1.name = "<init>" ∧ ν.2.2.2 = none
def NLb (own : String) (idx : Nat) (ν : MI) (n : Nat) (host : String) : Prop := Cond.methodLinkNest own idx ν.1 host ∈ lw_tbl ∧ Cond.initialized ν.1.cls ∈ tbG ∧ Cond.code ν.1 ν.2.1 ν.2.2.1 ν.2.2.2 ∈ tbG ∧ (ν.1.cls ≠ "java/lang/invoke/MethodHandle" ∧ ν.1.cls ≠ "java/lang/invoke/VarHandle" ∧ (parseMethodDescriptor ν.1.desc).map (fun d => d.parameters.length) = some n) ∧ ν.2.2.1 ≤ 60
def NLs (own : String) (idx : Nat) (ν : MI) (n : Nat) (host : String) : Prop := NLb own idx ν n host ∧ Cond.static ν.1 ∈ tbG
def NLi (own : String) (idx : Nat) (ν : MI) (n : Nat) (host : String) : Prop := NLb own idx ν n host ∧ Cond.instanceMethod ν.1 ∈ tbG ∧ ν.1.name = "<init>" ∧ ν.2.2.2 = none
theorem wsM_ok {ν : MI} (h : Cond.code ν.1 ν.2.1 ν.2.2.1 ν.2.2.2 ∈ tbG) : GoodIn tbG (wsM ν) := by
  intro w hw
  rcases List.mem_cons.mp hw with e | hw
  · rw [e]
    exact tbG_ok _ h
  · exact tbG_ok _ hw
theorem Fx.env {G : Cx} {d : Nat} {b : Nat × Nat} {μ : MI} {p : Program} {R : Room} {s : State} {mi : MethodId} {args : Array Value} {meth : Method} {c : Code} {cells slots : Nat} (F : Fx G d b μ p R s mi args meth c cells slots) {H : Heap} {locs : List Loc} (hS : va_S (fr G) s.heap H locs) {U : State} (hU : U.heap = H) (hW : s.WarmedH U.vm) : EnvOK G U := by
  have hE : EnvOK G s := F.2.2.2.2.2.2.2.2.2
  refine hE.warm hW (fun a h1 h2 => by rw [hU]; exact hS.2.1 a h1 h2) ?_
  rw [hU]
  exact Nat.le_trans hE.2.2.2.2.2.2.2.1 hS.1
theorem Fx.pre {G : Cx} {d : Nat} {b : Nat × Nat} {μ : MI} {p : Program} {R : Room} {s : State} {mi : MethodId} {args : Array Value} {meth : Method} {c : Code} {cells slots : Nat} (F : Fx G d b μ p R s mi args meth c cells slots) {b1 : Nat × Nat} (hb1 : b1.1 ≤ b.1) {H : Heap} {locs : List Loc} {m : Mm} {As : List Value} (hR : Rep G m H) (hS : va_S (fr G) s.heap H locs) : PreS s H (Pcx G b1 As m) As :=
  ⟨Pcx.blind, fun U hU hW => ⟨rfl, by rw [hU]; exact hR, F.env hS hU hW, F.2.2.2.2.2.2.2.1.2.imp (fun z => by omega) id⟩⟩
theorem run_wp {G : Cx} {d : Nat} {b b' b'' : Nat × Nat} {μ : MI} {pc : Nat} {L S S0 : List Value} {Q : Option Value → Mm → Prop} {p : Program} {e : Env} {R : Room} {s : State} {mi : MethodId} {args aa : Array Value} {below : List Frame} {meth : Method} {c : Code} {H : Heap} {locs : List Loc} {cells slots : Nat} {ls : Array Slot}
    (hr : va_Run p (gL G) e R s mi args below meth c H locs cells slots b'.1 b'.2 (F0 mi pc ls S0) S (Qm G (fun r m' => WP G d b μ (pc + 3) L (r.toList ++ S) m' Q) aa) (fr G))
    (F : Fx G d b'' μ p R s mi args meth c cells slots) (hb : b'' = (b'.1 + b.1, b'.2 + b.2)) (hS : va_S (fr G) s.heap H locs) (hL : LV ls μ.2.2.1 L) :
    W p (gL G) e R s mi args below meth c H locs cells slots (MQ below (Qm G Q) args s (cells + b''.1) (slots + b''.2) (fr G)) (F0 mi pc ls S0) := by
  subst hb
  intro T hT X
  obtain ⟨v, st₀, t, T', Lc, h0, X', hLc, e1, e2, ⟨⟨r, m', hQ, ho, hRep⟩, hz, hk⟩, st⟩ := hr T hT X
  cases ho
  rw [h0] at hz hk
  obtain ⟨f1, f2, f3, f4, f5, f6, f7, f8, ⟨g1, g2, g3, g4⟩, f9⟩ := F
  have hSn : va_S (fr G) s.heap T'.heap (locs ++ Lc) := by
    refine ⟨Nat.le_trans hS.1 (by rw [e1]; exact hz), fun q h1 h2 => ?_, fun q hq => ?_⟩
    · rw [e1, hk q (Nat.lt_of_lt_of_le h1 hS.1) h2]
      exact hS.2.1 q h1 h2
    · rcases List.mem_append.mp hq with h | h
      · exact hS.2.2 q h
      · exact hLc q h
  have key := hQ p e R s mi args below meth c T'.heap (locs ++ Lc) (cells + b'.1) (slots + b'.2) ls ⟨f1, f2, f3, f4, f5, f6, f7, ⟨f8.1, f8.2.imp (fun z => by dsimp only at z; omega) id⟩, ⟨g1, g2, by dsimp only at g3; omega, by dsimp only at g4; omega⟩, f9⟩ (by rw [e1]; exact hRep) hSn hL
  rw [Nat.add_assoc, Nat.add_assoc] at key
  obtain ⟨t2, a1, b1⟩ := key T' rfl X'
  exact ⟨t2, st t2 a1, b1⟩
section CALL
variable {G : Cx} {d : Nat} {b b' b'' : Nat × Nat} {μ ν : MI} {pc idx n : Nat} {L S As : List Value} {m : Mm} {Q : Option Value → Mm → Prop}
theorem rm_ok {d : Nat} {b' : Nat × Nat} {R : Room} {mx : Nat} (h : d + 1 ≤ R.frames ∧ 100 * (d + 1) ≤ R.locals) (hx : mx ≤ 60) : (rmD d b').frames + 1 ≤ R.frames ∧ 8 + (mx + 11) + (rmD d b').locals ≤ R.locals := by
  show d + 1 ≤ R.frames ∧ 8 + (mx + 11) + 100 * d ≤ R.locals
  omega
theorem wp_callS (hd : decode μ.2.1 pc = .ok (.invokestatic idx, 3)) (hl : MLs μ.1.cls idx ν n) (hn : As.length = n) (hb : b'' = (b'.1 + b.1, b'.2 + b.2)) (hw : (S.map fun v => v.category).sum ≤ 8) (hM : WPM G d b' ν As m (fun r m' => WP G (d + 1) b μ (pc + 3) L (r.toList ++ S) m' Q)) : WP G (d + 1) b'' μ pc L (As.reverse ++ S) m Q := by
  intro p e R s mi args below meth c H locs cells slots ls F hR hS hL
  obtain ⟨⟨h1, h2, h3, h4, h5⟩, h6⟩ := hl
  have hts := F.2.2.2.2.2.1
  obtain ⟨g1, g2, g3, g4⟩ := F.2.2.2.2.2.2.2.2.1
  subst hb
  refine run_wp (va_runS (As := As) (rest := S) ⟨F.1, F.2.1, F.2.2.1, F.2.2.2.2.1, hts⟩ hM ⟨callB_of n hts (wsM_ok h3) rfl rfl rfl (hts _ h2) (hts _ h1) h4 (rm_ok ⟨g1, g2⟩ h5), hts _ h6⟩ (F.pre (Nat.le_add_right _ _) hR hS) rfl hn hL.1 rfl (lv_room hw) hd ⟨?_, ?_⟩) F rfl hS hL
  · dsimp only at g3; omega
  · dsimp only at g4; omega
theorem wp_callSN {host : String} (hd : decode μ.2.1 pc = .ok (.invokestatic idx, 3)) (hl : NLs μ.1.cls idx ν n host) (hn : As.length = n) (hb : b'' = (b'.1 + b.1, b'.2 + b.2)) (hw : (S.map fun v => v.category).sum ≤ 8) (hM : WPM G d b' ν As m (fun r m' => WP G (d + 1) b μ (pc + 3) L (r.toList ++ S) m' Q)) : WP G (d + 1) b'' μ pc L (As.reverse ++ S) m Q := by
  intro p e R s mi args below meth c H locs cells slots ls F hR hS hL
  obtain ⟨⟨h1, h2, h3, h4, h5⟩, h6⟩ := hl
  have hts := F.2.2.2.2.2.1
  obtain ⟨g1, g2, g3, g4⟩ := F.2.2.2.2.2.2.2.2.1
  subst hb
  refine run_wp (va_runSN (As := As) (rest := S) ⟨F.1, F.2.1, F.2.2.1, F.2.2.2.2.1, hts⟩ hM ⟨va_cnB n hts (wsM_ok h3) rfl rfl rfl (F.2.2.2.2.2.2.2.2.2.2.2.2.2.2.1 _ h1 rfl) (hts _ h2) h4 (rm_ok ⟨g1, g2⟩ h5), hts _ h6, trivial⟩ (F.pre (Nat.le_add_right _ _) hR hS) rfl hn hL.1 rfl (lv_room hw) hd ⟨?_, ?_⟩) F rfl hS hL
  · dsimp only at g3; omega
  · dsimp only at g4; omega
theorem Fx.recv {p : Program} {R : Room} {s : State} {mi : MethodId} {args : Array Value} {meth : Method} {c : Code} {cells slots : Nat} (F : Fx G d b μ p R s mi args meth c cells slots) {H : Heap} (hR : Rep G m H) {a ci : Nat} {r : vw_C} (hk : isK G m a ci) (hc : classes[ci]? = some r) : ∃ cell : Cell, H[a]? = some cell ∧ cell.vm.isStatics = false ∧ s.vm.findClass r.1 = some cell.cls := by
  obtain ⟨j, rfl, hj, hq⟩ := hk
  have he : (wld G m)[j]? = some (gB G + j, .inr (ci, flds G m ci (gB G + j))) := by rw [wld_at hj, cel_obj hq (ci_lt hc)]
  obtain ⟨r', g1, cell, q1, q2, q3, -⟩ := hR.1 j _ he
  have hr : r' = r := Option.some.inj (g1.symm.trans hc)
  subst hr
  obtain ⟨-, hfc, -⟩ := F.2.2.2.2.2.2.2.2.2.1.1 ci _ hc
  exact ⟨cell, q1, by rw [q3]; rfl, by rw [q2]; exact hfc⟩
theorem wp_callV {a ci : Nat} {r : vw_C} (hd : decode μ.2.1 pc = .ok (.invokevirtual idx, 3)) (hl : MLv μ.1.cls idx ν n) (hk : isK G m a ci) (hc : classes[ci]? = some r) (hr : r.1 = ν.1.cls) (hn : As.length = n) (hb : b'' = (b'.1 + b.1, b'.2 + b.2)) (hw : (S.map fun v => v.category).sum ≤ 8) (hM : WPM G d b' ν (.ref a :: As) m (fun r m' => WP G (d + 1) b μ (pc + 3) L (r.toList ++ S) m' Q)) : WP G (d + 1) b'' μ pc L (As.reverse ++ .ref a :: S) m Q := by
  intro p e R s mi args below meth c H locs cells slots ls F hR hS hL
  obtain ⟨⟨h1, h2, h3, h4, h5⟩, h6, h7⟩ := hl
  have hts := F.2.2.2.2.2.1
  obtain ⟨g1, g2, g3, g4⟩ := F.2.2.2.2.2.2.2.2.1
  subst hb
  have hpre := F.pre (b1 := b') (Nat.le_add_right _ _) (As := .ref a :: As) hR hS
  have hrc := F.recv hR hk hc
  rw [hr] at hrc
  refine run_wp (va_runV (As := As) (b := a) (rest := S) ⟨F.1, F.2.1, F.2.2.1, F.2.2.2.2.1, hts⟩ hM ⟨callB_of n hts (wsM_ok h3) rfl rfl rfl (hts _ h2) (hts _ h1) h4 (rm_ok ⟨g1, g2⟩ h5), hts _ h6, hts _ h7⟩ ⟨hpre.1, hrc, hpre.2⟩ rfl hn hL.1 rfl (lv_room hw) hd ⟨?_, ?_⟩) F rfl hS hL
  · dsimp only at g3; omega
  · dsimp only at g4; omega
theorem wp_callI {a : Nat} (hd : decode μ.2.1 pc = .ok (.invokespecial idx, 3)) (hl : MLi μ.1.cls idx ν n) (hn : As.length = n) (hb : b'' = (b'.1 + b.1, b'.2 + b.2)) (hw : (S.map fun v => v.category).sum ≤ 8) (hM : WPM G d b' ν (.ref a :: As) m (fun r m' => WP G (d + 1) b μ (pc + 3) L (r.toList ++ S) m' Q)) : WP G (d + 1) b'' μ pc L (As.reverse ++ .ref a :: S) m Q := by
  intro p e R s mi args below meth c H locs cells slots ls F hR hS hL
  obtain ⟨⟨h1, h2, h3, h4, h5⟩, h6, h7, h8⟩ := hl
  have hts := F.2.2.2.2.2.1
  obtain ⟨g1, g2, g3, g4⟩ := F.2.2.2.2.2.2.2.2.1
  subst hb
  have hpre := F.pre (b1 := b') (Nat.le_add_right _ _) (As := .ref a :: As) hR hS
  have hg := wsM_ok h3
  unfold WPM at hM
  unfold wsM at hM hg
  rw [h8] at hM hg
  refine run_wp (va_runI (As := As) (b := a) (rest := S) ⟨F.1, F.2.1, F.2.2.1, F.2.2.2.2.1, hts⟩ hM ⟨callB_of n hts hg rfl rfl rfl (hts _ h2) (hts _ h1) h4 (rm_ok ⟨g1, g2⟩ h5), h7, hts _ h6⟩ hpre rfl hn hL.1 rfl (lv_room hw) hd ⟨?_, ?_⟩) F rfl hS hL
  · dsimp only at g3; omega
  · dsimp only at g4; omega
theorem wp_callIN {a : Nat} {host : String} (hd : decode μ.2.1 pc = .ok (.invokespecial idx, 3)) (hl : NLi μ.1.cls idx ν n host) (hn : As.length = n) (hb : b'' = (b'.1 + b.1, b'.2 + b.2)) (hw : (S.map fun v => v.category).sum ≤ 8) (hM : WPM G d b' ν (.ref a :: As) m (fun r m' => WP G (d + 1) b μ (pc + 3) L (r.toList ++ S) m' Q)) : WP G (d + 1) b'' μ pc L (As.reverse ++ .ref a :: S) m Q := by
  intro p e R s mi args below meth c H locs cells slots ls F hR hS hL
  obtain ⟨⟨h1, h2, h3, h4, h5⟩, h6, h7, h8⟩ := hl
  have hts := F.2.2.2.2.2.1
  obtain ⟨g1, g2, g3, g4⟩ := F.2.2.2.2.2.2.2.2.1
  subst hb
  have hpre := F.pre (b1 := b') (Nat.le_add_right _ _) (As := .ref a :: As) hR hS
  have hg := wsM_ok h3
  unfold WPM at hM
  unfold wsM at hM hg
  rw [h8] at hM hg
  refine run_wp (va_runIN (As := As) (b := a) (rest := S) ⟨F.1, F.2.1, F.2.2.1, F.2.2.2.2.1, hts⟩ hM ⟨va_cnB n hts hg rfl rfl rfl (F.2.2.2.2.2.2.2.2.2.2.2.2.2.2.1 _ h1 rfl) (hts _ h2) h4 (rm_ok ⟨g1, g2⟩ h5), h7, hts _ h6⟩ hpre rfl hn hL.1 rfl (lv_room hw) hd ⟨?_, ?_⟩) F rfl hS hL
  · dsimp only at g3; omega
  · dsimp only at g4; omega
theorem wp_objInit {a : Nat} (hd : decode μ.2.1 pc = .ok (.invokespecial idx, 3)) (h1 : Cond.methodLink μ.1.cls idx Lib.objectInit ∈ tbG) (h2 : Cond.instanceMethod Lib.objectInit ∈ tbG) (h3 : Cond.code Lib.objectInit ⟨#[0xb1]⟩ 1 none ∈ tbG) (hw : (S.map fun v => v.category).sum ≤ 8) (k : WP G (d + 1) b μ (pc + 3) L S m Q) : WP G (d + 1) b μ pc L (.ref a :: S) m Q := by
  intro p e R s mi args below meth c H locs cells slots ls F hR hS hL
  have hts := F.2.2.2.2.2.1
  obtain ⟨g1, g2, g3, g4⟩ := F.2.2.2.2.2.2.2.2.1
  refine W.objInit F.1 F.2.1 F.2.2.2.2.1 (hts _ h1) (hts _ h2) (hts _ h3) rfl (hL.1.trans F.2.2.1.symm) rfl hd (by omega) ?_ (k p e R s mi args below meth c H locs cells slots ls F hR hS hL)
  have := lv_room (m := mi) (pc := pc) (ls := ls) (rest := .ref a :: S) hw
  omega
end CALL
def imax (x y : Int32) : Int32 := if x < y then y else x
def imin (x y : Int32) : Int32 := if y < x then y else x
def iabs (x : Int32) : Int32 := if 0 ≤ x then x else 0 - x
def lmax (x y : Int64) : Int64 := if y < x then x else y
def lmin (x y : Int64) : Int64 := if y < x then y else x
def labs (x : Int64) : Int64 := if 0 < x then x else -x
section MATH
variable {G : Cx} {d : Nat} {b : Nat × Nat} {μ : MI} {pc idx : Nat} {L S : List Value} {m : Mm} {Q : Option Value → Mm → Prop}
def MA (own : String) (idx : Nat) (y : MethodName) (bytes : ByteArray) (n : Nat) (ret : Option FieldType) : Prop := Cond.methodLink own idx y ∈ tbG ∧ Cond.static y ∈ tbG ∧ Cond.initialized "java/lang/Math" ∈ tbG ∧ Cond.code y bytes n ret ∈ tbG
theorem wp_maxI {x y : Int32} (hd : decode μ.2.1 pc = .ok (.invokestatic idx, 3)) (hl : MA μ.1.cls idx Lib.Math.max.name Lib.Math.max.code 2 (some .int)) (hw : (S.map fun v => v.category).sum ≤ 8) (k : WP G (d + 1) b μ (pc + 3) L (.int (imax x y) :: S) m Q) : WP G (d + 1) b μ pc L (.int y :: .int x :: S) m Q := by
  intro p e R s mi args below meth c H locs cells slots ls F hR hS hL
  have hts := F.2.2.2.2.2.1
  obtain ⟨g1, g2, g3, g4⟩ := F.2.2.2.2.2.2.2.2.1
  exact va_mmax F.1 F.2.1 (F.2.2.1.trans hL.1.symm) F.2.2.2.2.1 (hts _ hl.1) (hts _ hl.2.1) (hts _ hl.2.2.1) (hts _ hl.2.2.2) (by omega) (by omega) (by omega) (by omega) hd (k p e R s mi args below meth c H locs cells slots ls F hR hS hL)
theorem wp_minI {x y : Int32} (hd : decode μ.2.1 pc = .ok (.invokestatic idx, 3)) (hl : MA μ.1.cls idx Lib.Math.min.name Lib.Math.min.code 2 (some .int)) (hw : (S.map fun v => v.category).sum ≤ 8) (k : WP G (d + 1) b μ (pc + 3) L (.int (imin x y) :: S) m Q) : WP G (d + 1) b μ pc L (.int y :: .int x :: S) m Q := by
  intro p e R s mi args below meth c H locs cells slots ls F hR hS hL
  have hts := F.2.2.2.2.2.1
  obtain ⟨g1, g2, g3, g4⟩ := F.2.2.2.2.2.2.2.2.1
  exact va_mmin F.1 F.2.1 (F.2.2.1.trans hL.1.symm) F.2.2.2.2.1 (hts _ hl.1) (hts _ hl.2.1) (hts _ hl.2.2.1) (hts _ hl.2.2.2) (by omega) (by omega) (by omega) (by omega) hd (k p e R s mi args below meth c H locs cells slots ls F hR hS hL)
theorem wp_absI {x : Int32} (hd : decode μ.2.1 pc = .ok (.invokestatic idx, 3)) (hl : MA μ.1.cls idx Lib.Math.abs.name Lib.Math.abs.code 1 (some .int)) (hw : (S.map fun v => v.category).sum ≤ 8) (k : WP G (d + 1) b μ (pc + 3) L (.int (iabs x) :: S) m Q) : WP G (d + 1) b μ pc L (.int x :: S) m Q := by
  intro p e R s mi args below meth c H locs cells slots ls F hR hS hL
  have hts := F.2.2.2.2.2.1
  obtain ⟨g1, g2, g3, g4⟩ := F.2.2.2.2.2.2.2.2.1
  exact va_mabs F.1 F.2.1 (F.2.2.1.trans hL.1.symm) F.2.2.2.2.1 (hts _ hl.1) (hts _ hl.2.1) (hts _ hl.2.2.1) (hts _ hl.2.2.2) (by omega) (by omega) (by omega) (by omega) hd (k p e R s mi args below meth c H locs cells slots ls F hR hS hL)
theorem wp_maxL {x y : Int64} (hd : decode μ.2.1 pc = .ok (.invokestatic idx, 3)) (hl : MA μ.1.cls idx Lib.MathLoose.max_long.x Lib.MathLoose.max_long.code 4 (some .long)) (hw : (S.map fun v => v.category).sum ≤ 8) (k : WP G (d + 1) b μ (pc + 3) L (.long (lmax x y) :: S) m Q) : WP G (d + 1) b μ pc L (.long y :: .long x :: S) m Q := by
  intro p e R s mi args below meth c H locs cells slots ls F hR hS hL
  have hts := F.2.2.2.2.2.1
  obtain ⟨g1, g2, g3, g4⟩ := F.2.2.2.2.2.2.2.2.1
  exact va_mmax_long F.1 F.2.1 (F.2.2.1.trans hL.1.symm) F.2.2.2.2.1 (hts _ hl.1) (hts _ hl.2.1) (hts _ hl.2.2.1) (hts _ hl.2.2.2) (by omega) (by omega) (by omega) (by omega) hd (k p e R s mi args below meth c H locs cells slots ls F hR hS hL)
theorem wp_minL {x y : Int64} (hd : decode μ.2.1 pc = .ok (.invokestatic idx, 3)) (hl : MA μ.1.cls idx Lib.MathLoose.min_long.x Lib.MathLoose.min_long.code 4 (some .long)) (hw : (S.map fun v => v.category).sum ≤ 8) (k : WP G (d + 1) b μ (pc + 3) L (.long (lmin x y) :: S) m Q) : WP G (d + 1) b μ pc L (.long y :: .long x :: S) m Q := by
  intro p e R s mi args below meth c H locs cells slots ls F hR hS hL
  have hts := F.2.2.2.2.2.1
  obtain ⟨g1, g2, g3, g4⟩ := F.2.2.2.2.2.2.2.2.1
  exact va_mmin_long F.1 F.2.1 (F.2.2.1.trans hL.1.symm) F.2.2.2.2.1 (hts _ hl.1) (hts _ hl.2.1) (hts _ hl.2.2.1) (hts _ hl.2.2.2) (by omega) (by omega) (by omega) (by omega) hd (k p e R s mi args below meth c H locs cells slots ls F hR hS hL)
theorem wp_absL {x : Int64} (hd : decode μ.2.1 pc = .ok (.invokestatic idx, 3)) (hl : MA μ.1.cls idx Lib.MathLoose.abs_long.x Lib.MathLoose.abs_long.code 2 (some .long)) (hw : (S.map fun v => v.category).sum ≤ 8) (k : WP G (d + 1) b μ (pc + 3) L (.long (labs x) :: S) m Q) : WP G (d + 1) b μ pc L (.long x :: S) m Q := by
  intro p e R s mi args below meth c H locs cells slots ls F hR hS hL
  have hts := F.2.2.2.2.2.1
  obtain ⟨g1, g2, g3, g4⟩ := F.2.2.2.2.2.2.2.2.1
  exact va_mabs_long F.1 F.2.1 (F.2.2.1.trans hL.1.symm) F.2.2.2.2.1 (hts _ hl.1) (hts _ hl.2.1) (hts _ hl.2.2.1) (hts _ hl.2.2.2) (by omega) (by omega) (by omega) (by omega) hd (k p e R s mi args below meth c H locs cells slots ls F hR hS hL)
end MATH
