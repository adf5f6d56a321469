/-! INHERITED METHODS OF A STRINGBUILDER: rows, links (printed by gen_jl.py) -/
def MLu (own : String) (idx : Nat) (x : MethodName) (ν : MI) (n : Nat) : Prop := Cond.methodLink own idx x ∈ tbG ∧ Cond.sameMethod x.cls RJ5 x.name x.desc ∈ tbG ∧ Cond.instanceMethod ν.1 ∈ tbG ∧ Cond.initialized ν.1.cls ∈ tbG ∧ Cond.code ν.1 ν.2.1 ν.2.2.1 ν.2.2.2 ∈ tbG ∧ (parseMethodDescriptor x.desc).map (fun d => d.parameters.length) = some n ∧ ν.2.2.1 ≤ 60 ∧ (Cond.instanceMethod ⟨RJ5, x.name, x.desc⟩ ∈ tbG ∧ ∃ b0 m0 r0, Cond.code ⟨RJ5, x.name, x.desc⟩ b0 m0 r0 ∈ tbG) ∧ (Cond.selects RJ4 x ν.1 ∈ tbG ∨ (ν.1 = x ∧ x.cls = RJ5 ∧ Cond.privateMethod x ∈ lw_tbl))
def MLq (own : String) (idx : Nat) (ν : MI) (n : Nat) : Prop := Cond.methodLink own idx ν.1 ∈ tbG ∧ Cond.sameMethod ν.1.cls ν.1.cls ν.1.name ν.1.desc ∈ tbG ∧ Cond.superclass own ν.1.cls ∈ tbG ∧ Cond.instanceMethod ν.1 ∈ tbG ∧ Cond.initialized ν.1.cls ∈ tbG ∧ Cond.code ν.1 ν.2.1 ν.2.2.1 ν.2.2.2 ∈ tbG ∧ ν.1.name ≠ "<init>" ∧ (parseMethodDescriptor ν.1.desc).map (fun d => d.parameters.length) = some n ∧ ν.2.2.1 ≤ 60
theorem sel_up {C : String} {y : MethodName} {s : State} {args : Array Value} {n k : Nat} (hy : y.cls ≠ "java/lang/invoke/MethodHandle" ∧ y.cls ≠ "java/lang/invoke/VarHandle")
    (hins : (Cond.instantiable C n).before args s = true) (hpriv : (Cond.privateMethod y).before args s = true) (hinst : (Cond.instanceMethod y).before args s = true) {b0 : ByteArray} {m0 : Nat} {r0 : Option FieldType} (hcode : (Cond.code y b0 m0 r0).before args s = true) (hsame : (Cond.sameMethod y.cls y.cls y.name y.desc).before args s = true) :
    (Cond.selects C y y).before args s = true := by
  obtain ⟨c, kc, hc, hk, -, hniab, -, -⟩ := Cond.instantiable_spec hins
  obtain ⟨mk, methM, hnamed, hmethM, -, -⟩ := Cond.instanceMethod_spec hinst
  have hfound : s.methodFound? y.cls y.name y.desc = some mk := State.methodFound?_of_named hnamed hy
  have hsel : selectMethod {} s.vm c mk = .method mk := selectMethod_private hmethM (Cond.privateMethod_at hpriv mk methM hnamed hmethM)
  have hcl := findClass_of_methodNamed hnamed
  obtain ⟨-, k2, hk2, hni⟩ := Cond.sameMethod_spec hcl hfound hsame
  simp only [Cond.before, Cond.holds, Cond.value, hc, hfound, hnamed, hsel, hk2]
  simp
  exact hni
section JU
variable {G : Cx} {d : Nat} {b b' b'' : Nat × Nat} {μ ν : MI} {pc idx n : Nat} {L S As : List Value} {M : LM} {Q : Option Value → LM → Prop}
theorem wl_callU {a q0 : Nat} {x : MethodName} {fs : List Value} (hd : decode μ.2.1 pc = .ok (.invokevirtual idx, 3)) (hl : MLu μ.1.cls idx x ν n) (hq : M.1[q0]? = some ((a, Sum.inr (12, fs)) : Nat × va_E)) (hn : As.length = n) (hw : (S.map fun v => v.category).sum ≤ 8) (hM : WZM G d (0, 0) ν (.ref a :: As) M (fun r m' => WZ G (d + 1) b μ (pc + 3) L (r.toList ++ S) m' Q)) : WZ G (d + 1) b μ pc L (As.reverse ++ .ref a :: S) M Q := by
  intro p e R s mi args below meth c H locs cells slots ls F hR hS hL
  obtain ⟨h1, h2, h3, h4, h5, h6, h7, ⟨h10, b0, m0, r0, h8⟩, h9⟩ := hl
  have hts := F.2.2.2.2.2.1
  obtain ⟨g1, g2, g3, g4⟩ := F.2.2.2.2.2.2.2.2.1
  have hpre := F.preL (As := .ref a :: As) hR hS
  have hrc := F.recvL hR (a := a) (ci := 12) (r := (RJ4, TJ4, 4)) ⟨q0, fs, hq⟩ rfl
  have hE := F.2.2.2.2.2.2.2.2.2
  have hmh : RJ5 ≠ "java/lang/invoke/MethodHandle" ∧ RJ5 ≠ "java/lang/invoke/VarHandle" := by decide
  have hsel : (Cond.selects RJ4 x ν.1).before args s = true := by
    rcases h9 with h9 | ⟨e1, e2, h9⟩
    · exact hts _ h9
    · have e5 : (⟨RJ5, x.name, x.desc⟩ : MethodName) = x := by rw [← e2]
      rw [e5] at h8
      rw [e1] at h3 ⊢
      rw [← e2] at h2
      exact sel_up (k := 0) (by rw [e2]; exact hmh) (hts _ IJ4) (by
        have hz : (Cond.privateMethod x).before #[] s = true := hE.2.2.2.2.2.1 _ h9 rfl
        exact va_tabs rfl rfl hz) (hts _ h3) (hts _ h8) (hts _ h2)
  have hwg := wsM_ok h5
  refine run_wl (b' := (0, 0)) (va_runU (C := RJ4) (owner := RJ5) (x := x) (As := As) (b := a) (rest := S) ⟨F.1, F.2.1, F.2.2.1, F.2.2.2.2.1, hts⟩ hM ⟨⟨rfl, rfl, (rm_ok ⟨g1, g2⟩ h7).1, (rm_ok ⟨g1, g2⟩ h7).2, pay_in hts hwg, List.mem_cons_self⟩, hts _ h5, hts _ h4, hmh, fun sig h => ?_, hts _ h1, hts _ h2, va_Decl.of (hts _ h10) (hts _ h8), hsel, hts _ h3⟩ ⟨hpre.1, hrc, hpre.2⟩ rfl hn hL.1 rfl (lv_room hw) hd ⟨?_, ?_⟩) F (b00 b) hS hL
  · rw [h] at h6
    exact (Option.some.inj h6).symm
  · have g3' : cells + b.1 ≤ R.cells := g3
    show cells + 0 ≤ R.cells
    omega
  · have g4' : slots + b.2 ≤ R.slots := g4
    show slots + 0 ≤ R.slots
    omega
theorem wl_callQ {a q0 : Nat} {fs : List Value} (hd : decode μ.2.1 pc = .ok (.invokespecial idx, 3)) (hl : MLq μ.1.cls idx ν n) (hq : M.1[q0]? = some ((a, Sum.inr (12, fs)) : Nat × va_E)) (hn : As.length = n) (hw : (S.map fun v => v.category).sum ≤ 8) (hM : WZM G d (0, 0) ν (.ref a :: As) M (fun r m' => WZ G (d + 1) b μ (pc + 3) L (r.toList ++ S) m' Q)) : WZ G (d + 1) b μ pc L (As.reverse ++ .ref a :: S) M Q := by
  intro p e R s mi args below meth c H locs cells slots ls F hR hS hL
  obtain ⟨h1, h2, h3, h4, h5, h6, h7, h8, h9⟩ := hl
  have hts := F.2.2.2.2.2.1
  have hE := F.2.2.2.2.2.2.2.2.2
  obtain ⟨g1, g2, g3, g4⟩ := F.2.2.2.2.2.2.2.2.1
  have hpre := F.preL (As := .ref a :: As) hR hS
  have hrc := F.recvL hR (a := a) (ci := 12) (r := (RJ4, TJ4, 4)) ⟨q0, fs, hq⟩ rfl
  have hat := (hE.1.1 12 (RJ4, TJ4, 4) rfl).2
  have hwg := wsM_ok h6
  refine run_wl (b' := (0, 0)) (va_runSU (C := RJ4) (As := As) (b := a) (rest := S) hat ⟨F.1, F.2.1, F.2.2.1, F.2.2.2.2.1, hts⟩ hM ⟨⟨rfl, rfl, (rm_ok ⟨g1, g2⟩ h9).1, (rm_ok ⟨g1, g2⟩ h9).2, pay_in hts hwg, List.mem_cons_self⟩, hts _ h1, hts _ h2, hts _ h3, hts _ h4, hts _ h5, hts _ h6, h7, fun sig h => ?_⟩ ⟨hpre.1, hrc, hpre.2⟩ rfl hn hL.1 rfl (lv_room hw) hd ⟨?_, ?_⟩) F (b00 b) hS hL
  · rw [h] at h8
    exact (Option.some.inj h8).symm
  · have g3' : cells + b.1 ≤ R.cells := g3
    show cells + 0 ≤ R.cells
    omega
  · have g4' : slots + b.2 ≤ R.slots := g4
    show slots + 0 ≤ R.slots
    omega
end JU
theorem UJ5_100 : MLu RJ5 100 yJ5_ensureCapacityInternal_d00df μJ5_ensureCapacityInternal_d00df 1 := ⟨(inT6 (List.mem_of_getElem? (i := 1) rfl) rfl), (inT6 (List.mem_of_getElem? (i := 237) rfl) rfl), (inT6 (List.mem_of_getElem? (i := 3) rfl) rfl), (inT1 (List.mem_of_getElem? (i := 19) rfl) rfl), kμJ5_ensureCapacityInternal_d00df, by decide, Nat.le_of_ble_eq_true rfl, ⟨(inT6 (List.mem_of_getElem? (i := 3) rfl) rfl), _, _, _, kμJ5_ensureCapacityInternal_d00df⟩, Or.inr ⟨rfl, rfl, (inL6 (List.mem_of_getElem? (i := 2) rfl))⟩⟩
theorem UJ5_208 : MLu RJ5 208 yJ5_putStringAt_47b60 μJ5_putStringAt_47b60 2 := ⟨(inT6 (List.mem_of_getElem? (i := 42) rfl) rfl), (inT6 (List.mem_of_getElem? (i := 239) rfl) rfl), (inT6 (List.mem_of_getElem? (i := 44) rfl) rfl), (inT1 (List.mem_of_getElem? (i := 19) rfl) rfl), kμJ5_putStringAt_47b60, by decide, Nat.le_of_ble_eq_true rfl, ⟨(inT6 (List.mem_of_getElem? (i := 44) rfl) rfl), _, _, _, kμJ5_putStringAt_47b60⟩, Or.inr ⟨rfl, rfl, (inL6 (List.mem_of_getElem? (i := 43) rfl))⟩⟩
theorem UJ5_83 : MLu RJ5 83 yJ5_isLatin1_aae02 μJ5_isLatin1_aae02 0 := ⟨(inT6 (List.mem_of_getElem? (i := 30) rfl) rfl), (inT6 (List.mem_of_getElem? (i := 32) rfl) rfl), (inT6 (List.mem_of_getElem? (i := 31) rfl) rfl), (inT1 (List.mem_of_getElem? (i := 19) rfl) rfl), kμJ5_isLatin1_aae02, by decide, Nat.le_of_ble_eq_true rfl, ⟨(inT6 (List.mem_of_getElem? (i := 31) rfl) rfl), _, _, _, kμJ5_isLatin1_aae02⟩, Or.inl (inT6 (List.mem_of_getElem? (i := 33) rfl) rfl)⟩
theorem UJ5_397 : MLu RJ5 397 yJ5_inflateIfNeededFor_a7421 μJ5_inflateIfNeededFor_a7421 1 := ⟨(inT6 (List.mem_of_getElem? (i := 46) rfl) rfl), (inT7 (List.mem_of_getElem? (i := 0) rfl) rfl), (inT6 (List.mem_of_getElem? (i := 48) rfl) rfl), (inT1 (List.mem_of_getElem? (i := 19) rfl) rfl), kμJ5_inflateIfNeededFor_a7421, by decide, Nat.le_of_ble_eq_true rfl, ⟨(inT6 (List.mem_of_getElem? (i := 48) rfl) rfl), _, _, _, kμJ5_inflateIfNeededFor_a7421⟩, Or.inr ⟨rfl, rfl, (inL6 (List.mem_of_getElem? (i := 47) rfl))⟩⟩
theorem UJ0_552 : MLu RJ0 552 yJ5_getValue_6d5f1 μJ5_getValue_6d5f1 0 := ⟨(inT6 (List.mem_of_getElem? (i := 116) rfl) rfl), (inT6 (List.mem_of_getElem? (i := 118) rfl) rfl), (inT6 (List.mem_of_getElem? (i := 117) rfl) rfl), (inT1 (List.mem_of_getElem? (i := 19) rfl) rfl), kμJ5_getValue_6d5f1, by decide, Nat.le_of_ble_eq_true rfl, ⟨(inT6 (List.mem_of_getElem? (i := 117) rfl) rfl), _, _, _, kμJ5_getValue_6d5f1⟩, Or.inl (inT6 (List.mem_of_getElem? (i := 119) rfl) rfl)⟩
theorem UJ0_1047 : MLu RJ0 1047 yJ5_isLatin1_aae02 μJ5_isLatin1_aae02 0 := ⟨(inT6 (List.mem_of_getElem? (i := 129) rfl) rfl), (inT6 (List.mem_of_getElem? (i := 32) rfl) rfl), (inT6 (List.mem_of_getElem? (i := 31) rfl) rfl), (inT1 (List.mem_of_getElem? (i := 19) rfl) rfl), kμJ5_isLatin1_aae02, by decide, Nat.le_of_ble_eq_true rfl, ⟨(inT6 (List.mem_of_getElem? (i := 31) rfl) rfl), _, _, _, kμJ5_isLatin1_aae02⟩, Or.inl (inT6 (List.mem_of_getElem? (i := 33) rfl) rfl)⟩
theorem UJ0_549 : MLu RJ0 549 yJ5_length_8abf5 μJ4_length_8abf5 0 := ⟨(inT6 (List.mem_of_getElem? (i := 121) rfl) rfl), (inT6 (List.mem_of_getElem? (i := 123) rfl) rfl), (inT6 (List.mem_of_getElem? (i := 125) rfl) rfl), (inT1 (List.mem_of_getElem? (i := 20) rfl) rfl), kμJ4_length_8abf5, by decide, Nat.le_of_ble_eq_true rfl, ⟨(inT6 (List.mem_of_getElem? (i := 122) rfl) rfl), _, _, _, kμJ5_length_8abf5⟩, Or.inl (inT6 (List.mem_of_getElem? (i := 124) rfl) rfl)⟩
theorem QJ4_29 : MLq RJ4 29 μJ5_append_cf1ce 1 := ⟨(inT5 (List.mem_of_getElem? (i := 234) rfl) rfl), (inT6 (List.mem_of_getElem? (i := 235) rfl) rfl), (inT5 (List.mem_of_getElem? (i := 228) rfl) rfl), (inT5 (List.mem_of_getElem? (i := 235) rfl) rfl), (inT1 (List.mem_of_getElem? (i := 19) rfl) rfl), kμJ5_append_cf1ce, by decide, by decide, Nat.le_of_ble_eq_true rfl⟩
theorem QJ4_53 : MLq RJ4 53 μJ5_append_c97b9 1 := ⟨(inT6 (List.mem_of_getElem? (i := 80) rfl) rfl), (inT7 (List.mem_of_getElem? (i := 2) rfl) rfl), (inT5 (List.mem_of_getElem? (i := 228) rfl) rfl), (inT6 (List.mem_of_getElem? (i := 81) rfl) rfl), (inT1 (List.mem_of_getElem? (i := 19) rfl) rfl), kμJ5_append_c97b9, by decide, by decide, Nat.le_of_ble_eq_true rfl⟩
theorem QJ4_343 : MLq RJ4 343 μJ5_length_8abf5 0 := ⟨(inT6 (List.mem_of_getElem? (i := 127) rfl) rfl), (inT6 (List.mem_of_getElem? (i := 123) rfl) rfl), (inT5 (List.mem_of_getElem? (i := 228) rfl) rfl), (inT6 (List.mem_of_getElem? (i := 122) rfl) rfl), (inT1 (List.mem_of_getElem? (i := 19) rfl) rfl), kμJ5_length_8abf5, by decide, by decide, Nat.le_of_ble_eq_true rfl⟩
