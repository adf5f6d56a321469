section WHOLE
theorem code_ok : code = μL_law.2.1 := rfl
theorem ret_ok : ret = μL_law.2.2.2 := rfl
theorem stat_ok {args : Array Value} {s : State} (h : allJS.before args s = true) : (Term.static "java/lang/String" "COMPACT_STRINGS" "Z").eval args s none [] s = some (.int 1) ∧ ∃ q : Value, q.isRef = true ∧ (Term.static "jdk/internal/util/Preconditions" "SIOOBE_FORMATTER" "Ljava/util/function/BiFunction;").eval args s none [] s = some q := by
  have hs := flat_of_before _ h
  refine ⟨va_eqt (hs _ jsA), ?_⟩
  obtain ⟨v, h1, h2⟩ := Cond.isRef_spec (hs _ jsB)
  exact ⟨v, h2, h1⟩
end WHOLE
