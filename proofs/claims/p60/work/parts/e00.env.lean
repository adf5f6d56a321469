/-! THE LAUNCH'S TABLES GIVE THE ENVIRONMENT -/
section ENV
variable {s : State} {args : Array Value}
theorem tb_of (hts : ∀ w ∈ lw_tbl, w.before args s = true) : ∀ w ∈ tbG, w.before args s = true := fun w hw => hts w (List.mem_filter.mp hw).1
theorem cls_ok (hts : ∀ w ∈ lw_tbl, w.before args s = true) : ∃ D : va_G, ∀ (c : Nat) (q : vw_C), classes[c]? = some q → u_Kn s q.1 q.2.1 q.2.2 (D.1 c) (D.2 c) := by
  have ht := tb_of hts
  have key : ∀ c : Nat, ∃ p : ClassId × (Nat → Nat), ∀ q : vw_C, classes[c]? = some q → u_Kn s q.1 q.2.1 q.2.2 p.1 p.2 := by
    intro c
    have mk : ∀ {C : String} {T : u_T} {N n : Nat}, classes[c]? = some (C, T, N) → (∀ w ∈ u_ws C T N, w ∈ tbG) → Cond.instantiable C n ∈ tbG → ∃ p : ClassId × (Nat → Nat), ∀ q : vw_C, classes[c]? = some q → u_Kn s q.1 q.2.1 q.2.2 p.1 p.2 := fun {C T N n} h1 h2 h3 => by
      obtain ⟨cC, iS, h⟩ := u_known ht h2 (ht _ h3)
      exact ⟨(cC, iS), fun q hq => by rw [h1] at hq; cases hq; exact h⟩
    by_cases h0 : c = 0
    · subst h0; exact mk rfl uw0 IX0
    by_cases h1 : c = 1
    · subst h1; exact mk rfl uw1 IX1
    by_cases h2 : c = 2
    · subst h2; exact mk rfl uw2 IX2
    by_cases h3 : c = 3
    · subst h3; exact mk rfl uw3 IX3
    by_cases h4 : c = 4
    · subst h4; exact mk rfl uw4 IX4
    by_cases h5 : c = 5
    · subst h5; exact mk rfl uw5 IX5
    by_cases h6 : c = 6
    · subst h6; exact mk rfl uw6 IX6
    by_cases h7 : c = 7
    · subst h7; exact mk rfl uw7 IX7
    by_cases h8 : c = 8
    · subst h8; exact mk rfl uw8 IX8
    by_cases h9 : c = 9
    · subst h9; exact mk rfl uw9 IX9
    by_cases h10 : c = 10
    · subst h10; exact mk rfl uw10 IX10
    by_cases h11 : c = 11
    · subst h11; exact mk rfl uw11 IL
    by_cases h12 : c = 12
    · subst h12; exact mk rfl uw12 IJ4
    by_cases h13 : c = 13
    · subst h13; exact mk rfl uw13 IJ0
    exact ⟨(0, fun _ => 0), fun q hq => by
      have := (List.getElem?_eq_some_iff.mp hq).1
      have e : classes.length = 14 := rfl
      omega⟩
  obtain ⟨f, hf⟩ := Classical.axiomOfChoice key
  exact ⟨(fun c => (f c).1, fun c => (f c).2), hf⟩
def tyAR : List FieldType := [.byte, .int, .long, .boolean, .object RX4, .object RX2, .object RX3, .object RX1, .object RX0]
theorem arr_ok (hts : ∀ w ∈ lw_tbl, w.before args s = true) : ∃ Y : Nat → ClassId, ∀ (k : Nat) (ty : FieldType), tyAR[k]? = some ty → ArrOfT s (Y (k + 20)) ty ∧ va_RA s (Y (k + 20)) ty := by
  have ht := tb_of hts
  have pr : ∀ {ty : FieldType}, Cond.arrayClass ty ∈ tbG → (∀ cA, s.vm.findClass ("[" ++ ty.toString) = some cA → va_RA s cA ty) → ∃ cA, ArrOfT s cA ty ∧ va_RA s cA ty := fun {ty} h hr => by
    obtain ⟨c, k, comp, h1, h2, h3⟩ := Cond.arrayClass_spec (ht _ h)
    exact ⟨c, fun n z => ⟨fun k h => (by cases h), k, h2, comp, h3⟩, hr c h1⟩
  have ob : ∀ {C : String}, Cond.arrayOver (.object C) ∈ lw_tbl → ∃ cA, ArrOfT s cA (.object C) ∧ va_RA s cA (.object C) := fun {C} h => by
    obtain ⟨comp, c, k, h1, h2, h3, h4, h5⟩ := Cond.arrayOver_spec (hts _ h)
    exact ⟨c, fun n z => ⟨fun k h => (by cases h), k, h3, comp, h4⟩, k, comp, h3, h4, h1, h5⟩
  have key : ∀ k : Nat, ∃ cA : ClassId, ∀ ty : FieldType, tyAR[k]? = some ty → ArrOfT s cA ty ∧ va_RA s cA ty := by
    intro k
    have mk : ∀ {ty : FieldType}, tyAR[k]? = some ty → (∃ cA, ArrOfT s cA ty ∧ va_RA s cA ty) → ∃ cA : ClassId, ∀ ty : FieldType, tyAR[k]? = some ty → ArrOfT s cA ty ∧ va_RA s cA ty := fun {ty} h1 ⟨cA, h2⟩ => ⟨cA, fun t ht => by rw [h1] at ht; cases ht; exact h2⟩
    by_cases h0 : k = 0
    · subst h0; exact mk rfl (pr Zbyte (fun _ h => h))
    by_cases h1 : k = 1
    · subst h1; exact mk rfl (pr Zint (fun _ h => h))
    by_cases h2 : k = 2
    · subst h2; exact mk rfl (pr Zlong (fun _ h => h))
    by_cases h3 : k = 3
    · subst h3; exact mk rfl (pr Zboolean (fun _ h => h))
    by_cases h4 : k = 4
    · subst h4; exact mk rfl (ob VX4)
    by_cases h5 : k = 5
    · subst h5; exact mk rfl (ob VX2)
    by_cases h6 : k = 6
    · subst h6; exact mk rfl (ob VX3)
    by_cases h7 : k = 7
    · subst h7; exact mk rfl (ob VX1)
    by_cases h8 : k = 8
    · subst h8; exact mk rfl (ob VX0)
    exact ⟨0, fun ty hq => by
      have := (List.getElem?_eq_some_iff.mp hq).1
      have e : tyAR.length = 9 := rfl
      omega⟩
  obtain ⟨f, hf⟩ := Classical.axiomOfChoice key
  exact ⟨fun q => f (q - 20), fun k ty h => by have := hf k ty h; rwa [show k = k + 20 - 20 by omega] at this⟩
theorem gT_map (G : Cx) (k : Nat) (q : ClassId × FieldType) (h : (gT G)[k]? = some q) : q.1 = gY G (k + 20) ∧ tyAR[k]? = some q.2 := by
  have hl : k < 9 := (List.getElem?_eq_some_iff.mp h).1
  rcases (show k = 0 ∨ k = 1 ∨ k = 2 ∨ k = 3 ∨ k = 4 ∨ k = 5 ∨ k = 6 ∨ k = 7 ∨ k = 8 by omega) with e | e | e | e | e | e | e | e | e <;> subst e <;> cases h <;> exact ⟨rfl, rfl⟩
end ENV
/-! THE STRINGS AND STATICS OF THE ENVIRONMENT -/
def tmJS (i : Nat) : Term := Term.string (refJS.getD i ("", 0, "")).1 (refJS.getD i ("", 0, "")).2.1
abbrev allJS : Cond := Jvm.Cond.and given_1 narrow_1
section ENV2
set_option maxRecDepth 100000
theorem js1 : ∀ i, i < nJS → Cond.exactly (tmJS i) "java/lang/String" ∈ flatC allJS := by decide +kernel
theorem js2 : ∀ i, i < nJS → Cond.eq (.field (tmJS i) "java/lang/String" "coder" "B") (.int 0) ∈ flatC allJS := by decide +kernel
theorem js3 : ∀ i, i < nJS → Cond.arrayOf (.field (tmJS i) "java/lang/String" "value" "[B") .byte ∈ flatC allJS := by decide +kernel
theorem js4 : ∀ i, i < nJS → Cond.eq (.length (.field (tmJS i) "java/lang/String" "value" "[B")) (.int (Int32.ofNat (lenJS.getD i 0))) ∈ flatC allJS := by decide +kernel
end ENV2
