section ENV5
set_option maxRecDepth 100000
theorem jsA : Cond.eq (Term.static "java/lang/String" "COMPACT_STRINGS" "Z") (.int 1) ∈ flatC allJS := by decide +kernel
theorem jsB : Cond.isRef (Term.static "jdk/internal/util/Preconditions" "SIOOBE_FORMATTER" "Ljava/util/function/BiFunction;") ∈ flatC allJS := by decide +kernel
theorem jsC : Cond.laysStatic "java/lang/String" "COMPACT_STRINGS" "Z" ∈ lw_tbl := by decide +kernel
theorem jsD : Cond.laysStatic "jdk/internal/util/Preconditions" "SIOOBE_FORMATTER" "Ljava/util/function/BiFunction;" ∈ lw_tbl := by decide +kernel
theorem jsE : Cond.initialized "java/lang/String" ∈ lw_tbl := by decide +kernel
theorem jsF : Cond.initialized "jdk/internal/util/Preconditions" ∈ lw_tbl := by decide +kernel
theorem jsG : ∀ i, i < nJS → Cond.stringRef (refJS.getD i ("", 0, "")).1 (refJS.getD i ("", 0, "")).2.1 (refJS.getD i ("", 0, "")).2.2 ∈ lw_tbl := by decide +kernel
end ENV5
