/-! RULES: what both sides read out of a rule -/
def ArC (c : Cd) : Prop := isVal c.1 ∨ c.1 = 220 ∨ c.1 = 43 ∨ c.1 = 45 ∨ c.1 = 42 ∨ c.1 = 47
def SmOK (n nl nh : Nat) (cs : List Cd) : Prop := OkC 60 cs 0 1 ∧ ∀ c ∈ cs, ArC c ∧ CdOK n nl nh c
def ngC (b : Bool) : List Cd := if b = true then [(204, 0)] else []
def CmOK (n nl nh : Nat) (s : List Cd) : Prop := ∃ a b k ng, s = a ++ (b ++ ((k, 0) :: ngC ng)) ∧ SmOK n nl nh a ∧ SmOK n nl nh b ∧ (k = 60 ∨ k = 61 ∨ k = 62)
/-- a rule that a text can give -/
def RuC (n nl nh : Nat) (R : Ru) : Prop := (∀ g ∈ R.1, g ≠ [] ∧ ∀ s ∈ g, CmOK n nl nh s) ∧ R.2.1 ≤ 5 ∧ (R.2.1 < 3 → R.2.2.1 < nh) ∧ (R.2.1 = 3 ∨ R.2.1 = 4 → R.2.2.1 < nl) ∧ (R.2.1 = 5 → R.2.2.1 < n ∧ SmOK n nl nh R.2.2.2)
theorem OkC_app {M : Nat} : ∀ {a b : List Cd} {k k1 k2 : Nat}, OkC M a k k1 → OkC M b k1 k2 → OkC M (a ++ b) k k2
  | [], b, k, k1, k2, h, h' => by
    have e : k = k1 := h
    rw [e]
    exact h'
  | c :: a, b, k, k1, k2, ⟨h1, h2, h3⟩, h' => ⟨h1, h2, OkC_app h3 h'⟩
theorem dpC_sh {c : Cd} {k : Nat} (j : Nat) (h : nedC c ≤ k) : dpC c (k + j) = dpC c k + j := by
  unfold dpC
  unfold nedC at h
  split
  · rfl
  · rename_i h1
    rw [if_neg h1] at h
    split
    · rename_i h2
      rw [if_pos h2] at h
      omega
    · omega
theorem OkC_sh {M : Nat} (j : Nat) : ∀ {a : List Cd} {k k1 : Nat}, OkC M a k k1 → OkC (M + j) a (k + j) (k1 + j)
  | [], k, k1, h => congrArg (· + j) (show k = k1 from h)
  | c :: a, k, k1, ⟨h1, h2, h3⟩ => by
    refine ⟨by omega, ?_, ?_⟩
    · rw [dpC_sh j h1]
      omega
    · rw [dpC_sh j h1]
      exact OkC_sh j h3
theorem OkC_mono {M M' : Nat} (hM : M ≤ M') : ∀ {a : List Cd} {k k1 : Nat}, OkC M a k k1 → OkC M' a k k1
  | [], _, _, h => h
  | c :: a, _, _, ⟨h1, h2, h3⟩ => ⟨h1, by omega, OkC_mono hM h3⟩
theorem evM_app (st : Nat → Int32) (nh : Nat) {c : Cd} {s : List Int64} (base : List Int64) (h : nedC c ≤ s.length) : evM st nh c (s ++ base) = evM st nh c s ++ base := by
  unfold evM
  unfold nedC at h
  by_cases h1 : c.1 = 220
  · rw [if_pos h1, if_pos h1]
    rw [if_pos (Or.inl h1)] at h
    cases s with
    | nil => simp at h
    | cons x t => rfl
  · rw [if_neg h1, if_neg h1]
    by_cases h2 : c.1 = 204
    · rw [if_pos h2, if_pos h2]
      rw [if_pos (Or.inr h2)] at h
      cases s with
      | nil => simp at h
      | cons x t => rfl
    · have h12 : ¬ (c.1 = 220 ∨ c.1 = 204) := fun z => z.elim h1 h2
      rw [if_neg h2, if_neg h2]
      rw [if_neg h12] at h
      by_cases h3 : c.1 = 43 ∨ c.1 = 45 ∨ c.1 = 42 ∨ c.1 = 47 ∨ c.1 = 60 ∨ c.1 = 62 ∨ c.1 = 61 ∨ c.1 = 203 ∨ c.1 = 202
      · rw [if_pos h3, if_pos h3]
        rw [if_pos h3] at h
        match s, h with
        | y :: x :: t, _ => rfl
        | [_], h => simp at h
        | [], h => simp at h
      · rw [if_neg h3, if_neg h3]
        rfl
theorem evMs_base (st : Nat → Int32) (nh : Nat) {M k' : Nat} (base : List Int64) : ∀ (cs : List Cd) (s : List Int64), OkC M cs s.length k' → evMs st nh cs (s ++ base) = evMs st nh cs s ++ base
  | [], _, _ => rfl
  | c :: cs, s, ⟨h1, h2, h3⟩ => by
    show evMs st nh cs (evM st nh c (s ++ base)) = evMs st nh cs (evM st nh c s) ++ base
    rw [evM_app st nh base h1]
    exact evMs_base st nh base cs _ (by rw [evM_len st nh h1]; exact h3)
theorem evMs_app (st : Nat → Int32) (nh : Nat) : ∀ (a b : List Cd) (s : List Int64), evMs st nh (a ++ b) s = evMs st nh b (evMs st nh a s)
  | [], _, _ => rfl
  | c :: a, b, s => evMs_app st nh a b (evM st nh c s)
/-- a piece of code that pushes its value -/
theorem evMs_val (st : Nat → Int32) (nh : Nat) {M : Nat} {cs : List Cd} (h : OkC M cs 0 1) (base : List Int64) : evMs st nh cs base = valM st nh cs :: base := by
  have := evMs_base st nh base cs [] h
  rw [List.nil_append, valM_eq st nh h] at this
  exact this
def cmV (k : Nat) (x y : Int64) : Int64 := if k = 60 then (if x < y then 1 else 0) else if k = 62 then (if y < x then 1 else 0) else (if x = y then 1 else 0)
theorem cmV_01 (k : Nat) (x y : Int64) : cmV k x y = 0 ∨ cmV k x y = 1 := by
  unfold cmV
  split
  · split
    · exact Or.inr rfl
    · exact Or.inl rfl
  · split
    · split
      · exact Or.inr rfl
      · exact Or.inl rfl
    · split
      · exact Or.inr rfl
      · exact Or.inl rfl
theorem opM_cm {k : Nat} (hk : k = 60 ∨ k = 61 ∨ k = 62) (x y : Int64) : opM k x y = cmV k x y := by
  have key : opC k x y = cmV k x y := by
    rcases hk with rfl | rfl | rfl <;> rfl
  unfold opM
  rw [key]
  rcases cmV_01 k x y with h | h <;> rw [h] <;> decide
def ngV (b : Bool) (x : Int64) : Int64 := if b = true then 1 - x else x
theorem ngV_01 (b : Bool) {x : Int64} (h : x = 0 ∨ x = 1) : ngV b x = 0 ∨ ngV b x = 1 := by
  unfold ngV
  split
  · rcases h with h | h <;> rw [h] <;> decide
  · exact h
theorem CmOK.okc {n nl nh : Nat} {s : List Cd} (h : CmOK n nl nh s) : OkC 61 s 0 1 := by
  obtain ⟨a, b, k, ng, rfl, ⟨ha, -⟩, ⟨hb, -⟩, hk⟩ := h
  refine OkC_app (OkC_mono (by omega) ha) (OkC_app (OkC_sh 1 hb) ?_)
  have e1 : nedC (k, 0) = 2 := by rcases hk with rfl | rfl | rfl <;> rfl
  have e2 : dpC (k, 0) (1 + 1) = 1 := by rcases hk with rfl | rfl | rfl <;> rfl
  refine ⟨by rw [e1]; omega, by rw [e2]; omega, ?_⟩
  rw [e2]
  unfold ngC
  split
  · exact ⟨by decide, by decide, rfl⟩
  · rfl
theorem CmOK.val {n nl nh : Nat} (st : Nat → Int32) (nh' : Nat) {a b : List Cd} {k : Nat} {ng : Bool} (ha : SmOK n nl nh a) (hb : SmOK n nl nh b) (hk : k = 60 ∨ k = 61 ∨ k = 62) (base : List Int64) : evMs st nh' (a ++ (b ++ ((k, 0) :: ngC ng))) base = ngV ng (cmV k (valM st nh' a) (valM st nh' b)) :: base := by
  rw [evMs_app, evMs_val st nh' ha.1, evMs_app, evMs_val st nh' hb.1]
  have e : evM st nh' (k, 0) (valM st nh' b :: valM st nh' a :: base) = cmV k (valM st nh' a) (valM st nh' b) :: base := by
    rw [← opM_cm hk]
    rcases hk with rfl | rfl | rfl <;> rfl
  show evMs st nh' (ngC ng) (evM st nh' (k, 0) _) = _
  rw [e]
  unfold ngC ngV
  cases ng
  · rfl
  · rfl
theorem CmOK.v01 {n nl nh : Nat} (st : Nat → Int32) (nh' : Nat) {s : List Cd} (h : CmOK n nl nh s) : valM st nh' s = 0 ∨ valM st nh' s = 1 := by
  have ho := h.okc
  obtain ⟨a, b, k, ng, rfl, ha, hb, hk⟩ := h
  have e1 := CmOK.val st nh' (ng := ng) ha hb hk []
  have e2 := evMs_val st nh' ho []
  have e3 := List.cons.inj (e1.symm.trans e2)
  rw [← e3.1]
  exact ngV_01 ng (cmV_01 _ _ _)
def grV (st : Nat → Int32) (nh : Nat) (g : List (List Cd)) : Bool := g.all (fun s => decide (valM st nh s = 1))
def b64 (b : Bool) : Int64 := if b = true then 1 else 0
theorem and_b64 (a b : Bool) : opM 203 (b64 a) (b64 b) = b64 (a && b) := by
  cases a <;> cases b <;> decide
theorem or_b64 (a b : Bool) : opM 202 (b64 a) (b64 b) = b64 (a || b) := by
  cases a <;> cases b <;> decide
theorem v_b64 {v : Int64} (h : v = 0 ∨ v = 1) : v = b64 (decide (v = 1)) := by
  rcases h with h | h <;> rw [h] <;> decide
theorem rfG_t {n nl nh : Nat} (st : Nat → Int32) (nh' : Nat) (base : List Int64) : ∀ (t : List (List Cd)) (x : Bool), (∀ s ∈ t, CmOK n nl nh s) → evMs st nh' (t.flatMap (fun x => x ++ [(203, 0)])) (b64 x :: base) = b64 (x && grV st nh' t) :: base
  | [], x, _ => by
    show b64 x :: base = b64 (x && true) :: base
    rw [Bool.and_true]
  | s :: t, x, h => by
    have hs := h s List.mem_cons_self
    rw [List.flatMap_cons, evMs_app, evMs_app, evMs_val st nh' hs.okc, v_b64 (hs.v01 st nh')]
    have e : evMs st nh' [(203, 0)] (b64 (decide (valM st nh' s = 1)) :: b64 x :: base) = b64 (x && decide (valM st nh' s = 1)) :: base := by
      rw [← and_b64]
      rfl
    rw [e, rfG_t st nh' base t _ (fun s' hs' => h s' (List.mem_cons_of_mem _ hs')), Bool.and_assoc]
    rfl
theorem rfG_v {n nl nh : Nat} (st : Nat → Int32) (nh' : Nat) (base : List Int64) {g : List (List Cd)} (hne : g ≠ []) (h : ∀ s ∈ g, CmOK n nl nh s) : evMs st nh' (rfG g) base = b64 (grV st nh' g) :: base := by
  cases g with
  | nil => exact absurd rfl hne
  | cons s t =>
    have hs := h s List.mem_cons_self
    show evMs st nh' (s ++ _) base = _
    rw [evMs_app, evMs_val st nh' hs.okc, v_b64 (hs.v01 st nh'), rfG_t st nh' base t _ (fun s' hs' => h s' (List.mem_cons_of_mem _ hs'))]
    rfl
def tsV (st : Nat → Int32) (nh : Nat) (gs : List (List (List Cd))) : Bool := gs.any (grV st nh)
theorem rfC_t {n nl nh : Nat} (st : Nat → Int32) (nh' : Nat) : ∀ (t : List (List (List Cd))) (x : Bool), (∀ g ∈ t, g ≠ [] ∧ ∀ s ∈ g, CmOK n nl nh s) → evMs st nh' (t.flatMap (fun x => rfG x ++ [(202, 0)])) [b64 x] = [b64 (x || tsV st nh' t)]
  | [], x, _ => by
    show [b64 x] = [b64 (x || false)]
    rw [Bool.or_false]
  | g :: t, x, h => by
    have hg := h g List.mem_cons_self
    rw [List.flatMap_cons, evMs_app, evMs_app, rfG_v st nh' _ hg.1 hg.2]
    have e : evMs st nh' [(202, 0)] (b64 (grV st nh' g) :: [b64 x]) = [b64 (x || grV st nh' g)] := by
      rw [← or_b64]
      rfl
    rw [e, rfC_t st nh' t _ (fun s' hs' => h s' (List.mem_cons_of_mem _ hs')), Bool.or_assoc]
    rfl
theorem holdM_t {n nl nh : Nat} (st : Nat → Int32) (nh' : Nat) {gs : List (List (List Cd))} (h : ∀ g ∈ gs, g ≠ [] ∧ ∀ s ∈ g, CmOK n nl nh s) : holdM st nh' gs = (gs.isEmpty || tsV st nh' gs) := by
  cases gs with
  | nil => rfl
  | cons g t =>
    unfold holdM
    have hg := h g List.mem_cons_self
    have e : valM st nh' (rfC (g :: t)) = b64 (tsV st nh' (g :: t)) := by
      unfold valM
      show (evMs st nh' (rfG g ++ _) []).headD 0 = _
      rw [evMs_app, rfG_v st nh' _ hg.1 hg.2, rfC_t st nh' t _ (fun s' hs' => h s' (List.mem_cons_of_mem _ hs'))]
      rfl
    rw [e]
    cases tsV st nh' (g :: t) <;> rfl
theorem OkG_t {n nl nh k : Nat} : ∀ t : List (List Cd), (∀ s ∈ t, CmOK n nl nh s) → OkC (63 + k) (t.flatMap (fun x => x ++ [(203, 0)])) (k + 1) (k + 1)
  | [], _ => rfl
  | s :: t, h => by
    rw [List.flatMap_cons]
    refine OkC_app (OkC_app (k1 := k + 2) ?_ ⟨show 2 ≤ k + 2 by omega, show k + 2 - 1 < 63 + k by omega, rfl⟩) (OkG_t t (fun s' hs' => h s' (List.mem_cons_of_mem _ hs')))
    have := OkC_mono (M' := 63 + k) (by omega) (OkC_sh (k + 1) (h s List.mem_cons_self).okc)
    rw [show 0 + (k + 1) = k + 1 by omega, show 1 + (k + 1) = k + 2 by omega] at this
    exact this
theorem OkG {n nl nh k : Nat} {g : List (List Cd)} (hne : g ≠ []) (h : ∀ s ∈ g, CmOK n nl nh s) : OkC (63 + k) (rfG g) k (k + 1) := by
  cases g with
  | nil => exact absurd rfl hne
  | cons s t =>
    refine OkC_app (k1 := k + 1) ?_ (OkG_t t (fun s' hs' => h s' (List.mem_cons_of_mem _ hs')))
    have := OkC_mono (M' := 63 + k) (by omega) (OkC_sh k (h s List.mem_cons_self).okc)
    rw [show 0 + k = k by omega, show 1 + k = k + 1 by omega] at this
    exact this
theorem OkR_t {n nl nh : Nat} : ∀ t : List (List (List Cd)), (∀ g ∈ t, g ≠ [] ∧ ∀ s ∈ g, CmOK n nl nh s) → OkC 250 (t.flatMap (fun x => rfG x ++ [(202, 0)])) 1 1
  | [], _ => rfl
  | g :: t, h => by
    rw [List.flatMap_cons]
    have hg := h g List.mem_cons_self
    exact OkC_app (OkC_app (k1 := 2) (OkC_mono (by omega) (OkG (k := 1) hg.1 hg.2)) ⟨by decide, by decide, rfl⟩) (OkR_t t (fun s' hs' => h s' (List.mem_cons_of_mem _ hs')))
theorem SmOK.cd {n nl nh : Nat} {s : List Cd} (h : SmOK n nl nh s) : ∀ c ∈ s, CdOK n nl nh c := fun c hc => (h.2 c hc).2
theorem CmOK.cd {n nl nh : Nat} {s : List Cd} (h : CmOK n nl nh s) : ∀ c ∈ s, CdOK n nl nh c := by
  obtain ⟨a, b, k, ng, rfl, ha, hb, hk⟩ := h
  intro c hc
  rw [List.mem_append, List.mem_append, List.mem_cons] at hc
  rcases hc with hc | hc | hc | hc
  · exact ha.cd c hc
  · exact hb.cd c hc
  · subst hc
    refine Or.inr (Or.inr (Or.inr (Or.inr (Or.inr (Or.inr (Or.inr ?_))))))
    unfold isBin
    rcases hk with rfl | rfl | rfl <;> decide
  · unfold ngC at hc
    split at hc
    · rw [List.mem_singleton] at hc
      subst hc
      exact Or.inr (Or.inr (Or.inr (Or.inr (Or.inr (Or.inr (Or.inl rfl))))))
    · exact absurd hc List.not_mem_nil
theorem RuC.ok {n nl nh : Nat} {R : Ru} (h : RuC n nl nh R) : RuOK n nl nh R := by
  obtain ⟨h1, h2, h3, h4, h5⟩ := h
  have hb : ∀ k, (k = 203 ∨ k = 202) → CdOK n nl nh (k, 0) := fun k hk => by
    refine Or.inr (Or.inr (Or.inr (Or.inr (Or.inr (Or.inr (Or.inr ?_))))))
    unfold isBin
    rcases hk with rfl | rfl <;> decide
  have hG : ∀ g ∈ R.1, ∀ c ∈ rfG g, CdOK n nl nh c := by
    intro g hg c hc
    have hs := (h1 g hg).2
    cases g with
    | nil => exact absurd hc List.not_mem_nil
    | cons s t =>
      rcases List.mem_append.mp hc with hc | hc
      · exact (hs s List.mem_cons_self).cd c hc
      · obtain ⟨x, hx, hc⟩ := List.mem_flatMap.mp hc
        rcases List.mem_append.mp hc with hc | hc
        · exact (hs x (List.mem_cons_of_mem _ hx)).cd c hc
        · rw [List.mem_singleton] at hc
          subst hc
          exact hb 203 (Or.inl rfl)
  refine ⟨?_, ?_, h2, h3, h4, fun e => ⟨(h5 e).1, OkC_mono (by omega) (h5 e).2.1, (h5 e).2.cd⟩⟩
  · cases hR : R.1 with
    | nil => exact Or.inl rfl
    | cons g t =>
      rw [hR] at h1
      have hg := h1 g List.mem_cons_self
      exact Or.inr (OkC_app (OkC_mono (by omega) (OkG (k := 0) hg.1 hg.2)) (OkR_t t (fun s' hs' => h1 s' (List.mem_cons_of_mem _ hs'))))
  · intro c hc
    cases hR : R.1 with
    | nil =>
      rw [hR] at hc
      exact absurd hc List.not_mem_nil
    | cons g t =>
      rw [hR] at hc hG
      rcases List.mem_append.mp hc with hc | hc
      · exact hG g List.mem_cons_self c hc
      · obtain ⟨x, hx, hc⟩ := List.mem_flatMap.mp hc
        rcases List.mem_append.mp hc with hc | hc
        · exact hG x (List.mem_cons_of_mem _ hx) c hc
        · rw [List.mem_singleton] at hc
          subst hc
          exact hb 202 (Or.inr rfl)
