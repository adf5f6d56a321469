section ENV6
variable {s : State}
theorem env_ok {l : Launch} {b L : Nat} {xs : Nat → Int32} (hts : ∀ w ∈ lw_tbl, w.before #[Value.ref b] s = true) (hX : va_X b L xs s s.heap) (hb : b < s.heap.size) (h : allJS.before #[Value.ref b] s = true) (hE1 : (Term.static "java/lang/String" "COMPACT_STRINGS" "Z").eval #[Value.ref b] s none [] s = some (.int 1)) (hE2 : ∃ q : Value, q.isRef = true ∧ (Term.static "jdk/internal/util/Preconditions" "SIOOBE_FORMATTER" "Ljava/util/function/BiFunction;").eval #[Value.ref b] s none [] s = some q) : ∃ G : Cx, gL G = l ∧ gB G = s.heap.size ∧ gSa G = b ∧ gSl G = L ∧ gSx G = xs ∧ gM G = true ∧ EnvOK G s := by
  obtain ⟨D, hD⟩ := cls_ok hts
  obtain ⟨Y, hY⟩ := arr_ok hts
  have hA : ∀ a : Nat, a < s.heap.size → ¬ (fun q => s.heap.size ≤ q) a := fun a ha hq => absurd ha (Nat.not_lt.mpr hq)
  obtain ⟨adK, adV, hS, hK⟩ := str_ok (A := fun q => s.heap.size ≤ q) h hA
  obtain ⟨q, hqr, hq⟩ := hE2
  obtain ⟨t, ht1, ht2⟩ := dig_ok hts h hA
  refine ⟨(l, D, Y, s.heap.size, adK, adV, b, L, xs, true), rfl, rfl, rfl, rfl, rfl, rfl, ⟨hD, fun k q hk => ?_⟩, hS, fun i hi => vk_R.of (hts _ (jsG i hi)) (hK i hi), va_Zof (hts _ jsC) (hts _ jsE) hE1 hA, ⟨q, hqr, va_Zof (hts _ jsD) (hts _ jsF) hq hA, t, ht1, ht2⟩, fun w hw hn => ?_, fun C hC => va_AO.of (hts _ hC), Nat.le_refl _, hX, hb⟩
  · obtain ⟨e1, e2⟩ := gT_map _ k q hk
    rw [e1]
    exact hY k q.2 e2
  · cases w with
    | methodLinkNest a b c d => exact va_Nw.of rfl (hts _ hw)
    | privateMethod x => exact va_Nw.of rfl (hts _ hw)
    | _ => cases hn
end ENV6
section WHOLE
theorem code_ok : code = μL_law.2.1 := rfl
theorem ret_ok : ret = μL_law.2.2.2 := rfl
theorem stat_ok {args : Array Value} {s : State} (h : allJS.before args s = true) : (Term.static "java/lang/String" "COMPACT_STRINGS" "Z").eval args s none [] s = some (.int 1) ∧ ∃ q : Value, q.isRef = true ∧ (Term.static "jdk/internal/util/Preconditions" "SIOOBE_FORMATTER" "Ljava/util/function/BiFunction;").eval args s none [] s = some q := by
  have hs := flat_of_before _ h
  refine ⟨va_eqt (hs _ jsA), ?_⟩
  obtain ⟨v, h1, h2⟩ := Cond.isRef_spec (hs _ jsB)
  exact ⟨v, h2, h1⟩
end WHOLE
