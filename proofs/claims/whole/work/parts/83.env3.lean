section ENV3
set_option maxRecDepth 100000
theorem js5 : ∀ i, i < nJS → ∀ j, j < lenJS.getD i 0 → Cond.eq (.elem (.field (tmJS i) "java/lang/String" "value" "[B") (.int (Int32.ofNat j))) (.int ((bytJS.getD i []).getD j 0)) ∈ flatC allJS := by decide +kernel
end ENV3
