/-! THE STRINGS AND STATICS OF THE ENVIRONMENT -/
def tmJS (i : Nat) : Term := Term.string (refJS.getD i ("", 0, "")).1 (refJS.getD i ("", 0, "")).2.1
abbrev allJS : Cond := Jvm.Cond.and given_1 narrow_1
section ENV2
set_option maxRecDepth 100000
theorem js1 : ∀ i, i < nJS → Cond.exactly (tmJS i) "java/lang/String" ∈ flatC allJS := by decide +kernel
theorem js2 : ∀ i, i < nJS → Cond.eq (.field (tmJS i) "java/lang/String" "coder" "B") (.int 0) ∈ flatC allJS := by decide +kernel
theorem js3 : ∀ i, i < nJS → Cond.arrayOf (.field (tmJS i) "java/lang/String" "value" "[B") .byte ∈ flatC allJS := by decide +kernel
theorem js4 : ∀ i, i < nJS → Cond.eq (.length (.field (tmJS i) "java/lang/String" "value" "[B")) (.int (Int32.ofNat (lenJS.getD i 0))) ∈ flatC allJS := by decide +kernel
end ENV2
