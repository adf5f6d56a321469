/-! THE STRINGS APART -/
section ENV4
set_option maxRecDepth 100000
theorem js6_0 : ∀ j, j < nJS → 0 ≠ j → ((flatC allJS)[(([0, 400, 414, 427, 441, 399] : List Nat).getD j 0)]? = some (Cond.not (Cond.eq (tmJS 0) (tmJS j))) ∨ (flatC allJS)[(([0, 400, 414, 427, 441, 399] : List Nat).getD j 0)]? = some (Cond.not (Cond.eq (tmJS j) (tmJS 0)))) := by decide +kernel
theorem js6_1 : ∀ j, j < nJS → 1 ≠ j → ((flatC allJS)[(([400, 0, 413, 426, 440, 383] : List Nat).getD j 0)]? = some (Cond.not (Cond.eq (tmJS 1) (tmJS j))) ∨ (flatC allJS)[(([400, 0, 413, 426, 440, 383] : List Nat).getD j 0)]? = some (Cond.not (Cond.eq (tmJS j) (tmJS 1)))) := by decide +kernel
theorem js6_2 : ∀ j, j < nJS → 2 ≠ j → ((flatC allJS)[(([414, 413, 0, 428, 442, 412] : List Nat).getD j 0)]? = some (Cond.not (Cond.eq (tmJS 2) (tmJS j))) ∨ (flatC allJS)[(([414, 413, 0, 428, 442, 412] : List Nat).getD j 0)]? = some (Cond.not (Cond.eq (tmJS j) (tmJS 2)))) := by decide +kernel
theorem js6_3 : ∀ j, j < nJS → 3 ≠ j → ((flatC allJS)[(([427, 426, 428, 0, 443, 425] : List Nat).getD j 0)]? = some (Cond.not (Cond.eq (tmJS 3) (tmJS j))) ∨ (flatC allJS)[(([427, 426, 428, 0, 443, 425] : List Nat).getD j 0)]? = some (Cond.not (Cond.eq (tmJS j) (tmJS 3)))) := by decide +kernel
theorem js6_4 : ∀ j, j < nJS → 4 ≠ j → ((flatC allJS)[(([441, 440, 442, 443, 0, 439] : List Nat).getD j 0)]? = some (Cond.not (Cond.eq (tmJS 4) (tmJS j))) ∨ (flatC allJS)[(([441, 440, 442, 443, 0, 439] : List Nat).getD j 0)]? = some (Cond.not (Cond.eq (tmJS j) (tmJS 4)))) := by decide +kernel
theorem js6_5 : ∀ j, j < nJS → 5 ≠ j → ((flatC allJS)[(([399, 383, 412, 425, 439, 0] : List Nat).getD j 0)]? = some (Cond.not (Cond.eq (tmJS 5) (tmJS j))) ∨ (flatC allJS)[(([399, 383, 412, 425, 439, 0] : List Nat).getD j 0)]? = some (Cond.not (Cond.eq (tmJS j) (tmJS 5)))) := by decide +kernel
theorem ltJS {P : Nat → Prop} (h0 : P 0) (h1 : P 1) (h2 : P 2) (h3 : P 3) (h4 : P 4) (h5 : P 5) (i : Nat) (hi : i < nJS) : P i := by
  have hi : i < 6 := hi
  rcases (show i = 0 ∨ i = 1 ∨ i = 2 ∨ i = 3 ∨ i = 4 ∨ i = 5 by omega) with e | e | e | e | e | e <;> subst e <;> assumption
theorem str_ok {args : Array Value} {s : State} {A : Nat → Prop} (h : allJS.before args s = true) (hA : ∀ a : Nat, a < s.heap.size → ¬ A a) : ∃ adK adV : Nat → Nat, vk_S nJS lenJS bytJS adK adV A s s.heap ∧ ∀ i : Nat, i < nJS → (tmJS i).eval args s none [] s = some (.ref (adK i)) := by
  have hs := flat_of_before _ h
  refine vk_Sof (tm := tmJS) (fun i hi => ?_) (fun i hi => hs _ (js1 i hi)) (fun i hi => hs _ (js2 i hi)) (fun i hi => hs _ (js3 i hi)) (fun i hi => hs _ (js4 i hi)) (fun i hi => ?_) (fun i j hi hj hij => ?_) hA
  · obtain ⟨e, h⟩ := lenJS_ok i hi
    rw [e]
    exact h
  · refine ltJS (P := fun i => ∀ j : Nat, j < lenJS.getD i 0 → (Cond.eq (.elem (.field (tmJS i) "java/lang/String" "value" "[B") (.int (Int32.ofNat j))) (.int ((bytJS.getD i []).getD j 0))).before args s = true) (fun j hj => hs _ (List.mem_of_getElem? (js5_0 j hj))) (fun j hj => hs _ (List.mem_of_getElem? (js5_1 j hj))) (fun j hj => hs _ (List.mem_of_getElem? (js5_2 j hj))) (fun j hj => hs _ (List.mem_of_getElem? (js5_3 j hj))) (fun j hj => hs _ (List.mem_of_getElem? (js5_4 j hj))) (fun j hj => hs _ (List.mem_of_getElem? (js5_5 j hj))) i hi
  · refine ltJS (P := fun i => ∀ j, j < nJS → i ≠ j → (Cond.not (Cond.eq (tmJS i) (tmJS j))).before args s = true ∨ (Cond.not (Cond.eq (tmJS j) (tmJS i))).before args s = true) (fun j hj hij => (js6_0 j hj hij).imp (fun z => hs _ (List.mem_of_getElem? z)) (fun z => hs _ (List.mem_of_getElem? z))) (fun j hj hij => (js6_1 j hj hij).imp (fun z => hs _ (List.mem_of_getElem? z)) (fun z => hs _ (List.mem_of_getElem? z))) (fun j hj hij => (js6_2 j hj hij).imp (fun z => hs _ (List.mem_of_getElem? z)) (fun z => hs _ (List.mem_of_getElem? z))) (fun j hj hij => (js6_3 j hj hij).imp (fun z => hs _ (List.mem_of_getElem? z)) (fun z => hs _ (List.mem_of_getElem? z))) (fun j hj hij => (js6_4 j hj hij).imp (fun z => hs _ (List.mem_of_getElem? z)) (fun z => hs _ (List.mem_of_getElem? z))) (fun j hj hij => (js6_5 j hj hij).imp (fun z => hs _ (List.mem_of_getElem? z)) (fun z => hs _ (List.mem_of_getElem? z))) i hi j hj hij
end ENV4
