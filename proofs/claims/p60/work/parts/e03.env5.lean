section ENV5
set_option maxRecDepth 100000
theorem jsA : Cond.eq (Term.static "java/lang/String" "COMPACT_STRINGS" "Z") (.int 1) ∈ flatC allJS := by decide +kernel
theorem jsB : Cond.isRef (Term.static "jdk/internal/util/Preconditions" "SIOOBE_FORMATTER" "Ljava/util/function/BiFunction;") ∈ flatC allJS := by decide +kernel
theorem jsC : Cond.laysStatic "java/lang/String" "COMPACT_STRINGS" "Z" ∈ lw_tbl := by decide +kernel
theorem jsD : Cond.laysStatic "jdk/internal/util/Preconditions" "SIOOBE_FORMATTER" "Ljava/util/function/BiFunction;" ∈ lw_tbl := by decide +kernel
theorem jsE : Cond.initialized "java/lang/String" ∈ lw_tbl := by decide +kernel
theorem jsF : Cond.initialized "jdk/internal/util/Preconditions" ∈ lw_tbl := by decide +kernel
theorem jsG : ∀ i, i < nJS → Cond.stringRef (refJS.getD i ("", 0, "")).1 (refJS.getD i ("", 0, "")).2.1 (refJS.getD i ("", 0, "")).2.2 ∈ lw_tbl := by decide +kernel
abbrev tmDO : Term := Term.static "java/lang/Integer" "DigitOnes" "[B"
theorem jdA : Cond.arrayOf tmDO .byte ∈ flatC allJS := by decide +kernel
theorem jdB : Cond.eq (.length tmDO) (.int (Int32.ofNat 100)) ∈ flatC allJS := by decide +kernel
theorem jdC : Cond.laysStatic "java/lang/Integer" "DigitOnes" "[B" ∈ lw_tbl := by decide +kernel
theorem jdD : Cond.initialized "java/lang/Integer" ∈ lw_tbl := by decide +kernel
theorem jdE : ∀ j, j < 100 → (flatC allJS)[12 + j]? = some (Cond.eq (.elem tmDO (.int (Int32.ofNat j))) (.int (nI (48 + j % 10)))) := by decide +kernel
theorem dig_ok {args : Array Value} {s : State} {A : Nat → Prop} (hts : ∀ w ∈ lw_tbl, w.before args s = true) (h : allJS.before args s = true) (hA : ∀ a : Nat, a < s.heap.size → ¬ A a) : ∃ t : Nat, va_Z "java/lang/Integer" "DigitOnes" "[B" (.ref t) A s s.heap ∧ va_T .byte t 100 (fun j => .int (nI (48 + j % 10))) A s s.heap := by
  have hs := flat_of_before _ h
  obtain ⟨t, h1, h2⟩ := va_Tof (tm := tmDO) (ty := .byte) (N := 100) (f := fun j => .int (nI (48 + j % 10))) (by decide) (hs _ jdA) (va_eqt (hs _ jdB)) (fun j hj => va_eqt (hs _ (List.mem_of_getElem? (jdE j hj)))) hA
  exact ⟨t, va_Zref (hts _ jdC) (hts _ jdD) h1 hA, h2⟩
end ENV5
