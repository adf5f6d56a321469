/-! BIRTH -/
/-- the slot f of the cell j holds no reference -/
def nrl (j f : Nat) : Bool := if kd j < 20 then !(decide (f / 100 = kd j) && decide ((fty (kd j)).getD (f % 100) 0 = 2)) else if kd j < 24 then true else !(decide (100000 ≤ f) && decide (f < 100000 + ln j))
def Same (m' m : Mm) (a : Nat) : Prop := ∀ f, mI m' f a = mI m f a ∧ fi m' f a = fi m f a ∧ fl m' f a = fl m f a ∧ ai m' a f = ai m a f ∧ al m' a f = al m a f
def FrA (G : Cx) (m : Mm) (j : Nat) : Prop := ∀ f, mI m f (gB G + j) = nrl j f ∧ fi m f (gB G + j) = 0 ∧ fl m f (gB G + j) = 0 ∧ ai m (gB G + j) f = 0 ∧ al m (gB G + j) f = 0
def Fr (G : Cx) (m : Mm) (n : Nat) : Prop := ∀ j, n ≤ j → FrA G m j
/-- what a constructor of the cell o leaves: sz cells from o on, all slots set -/
def Bd (G : Cx) (m0 m : Mm) (o n : Nat) (V A : Nat → Nat → Int32) (P : Nat → Nat → Prop) : Prop := mN m = o + n ∧ (∀ a, a < gB G + o ∨ gB G + (o + n) ≤ a → Same m m0 a) ∧ ∀ j, j < n → ∀ f, (mI m f (gB G + (o + j)) = true ∨ P j f) ∧ fi m f (gB G + (o + j)) = V j f ∧ fl m f (gB G + (o + j)) = 0 ∧ ai m (gB G + (o + j)) f = A j f ∧ al m (gB G + (o + j)) f = 0
abbrev P0 : Nat → Nat → Prop := fun _ _ => False
abbrev Z2 : Nat → Nat → Int32 := fun _ _ => 0
abbrev Ct (G : Cx) (m0 m : Mm) (o n : Nat) (V A : Nat → Nat → Int32) : Prop := Bd G m0 m o n V A P0
section BORN
variable {G : Cx} {m0 m m' : Mm} {o n : Nat} {V A V' A' : Nat → Nat → Int32} {P P' : Nat → Nat → Prop}
theorem Same.rf {a : Nat} : Same m m a := fun _ => ⟨rfl, rfl, rfl, rfl, rfl⟩
theorem Same.tr {m1 m2 : Mm} {a : Nat} (h1 : Same m2 m1 a) (h2 : Same m1 m a) : Same m2 m a := fun f => ⟨(h1 f).1.trans (h2 f).1, (h1 f).2.1.trans (h2 f).2.1, (h1 f).2.2.1.trans (h2 f).2.2.1, (h1 f).2.2.2.1.trans (h2 f).2.2.2.1, (h1 f).2.2.2.2.trans (h2 f).2.2.2.2⟩
theorem Same.fr {j : Nat} (h : Same m m0 (gB G + j)) (h0 : FrA G m0 j) : FrA G m j := fun f => ⟨(h f).1.trans (h0 f).1, (h f).2.1.trans (h0 f).2.1, (h f).2.2.1.trans (h0 f).2.2.1, (h f).2.2.2.1.trans (h0 f).2.2.2.1, (h f).2.2.2.2.trans (h0 f).2.2.2.2⟩
theorem Bd.fr (h : Bd G m0 m o n V A P) (h0 : Fr G m0 (o + n)) : Fr G m (o + n) := fun j hj => (h.2.1 (gB G + j) (Or.inr (by omega))).fr (h0 j hj)
theorem Bd.mono (h : Bd G m0 m o n V A P) (hP : ∀ j f, j < n → P j f → P' j f) (hV : ∀ j f, j < n → V' j f = V j f) (hA : ∀ j f, j < n → A' j f = A j f) : Bd G m0 m o n V' A' P' :=
  ⟨h.1, h.2.1, fun j hj f => by
    obtain ⟨a, b, c, d, e⟩ := h.2.2 j hj f
    exact ⟨a.imp id (hP j f hj), b.trans (hV j f hj).symm, c, d.trans (hA j f hj).symm, e⟩⟩
/-- a cell more -/
theorem Bd_new (h : Bd G m0 m o n V A P) (h0 : FrA G m0 (o + n)) (hP : ∀ j f, j < n → P j f → P' j f) (hn : ∀ f, nrl (o + n) f = false → P' n f) (hV : ∀ f, V n f = 0) (hA : ∀ f, A n f = 0) : Bd G m0 (wN m (o + n + 1)) o (n + 1) V A P' := by
  refine ⟨rfl, fun a ha => h.2.1 a (by omega), fun j hj f => ?_⟩
  by_cases e : j = n
  · subst e
    obtain ⟨a, b, c, d, g⟩ := ((h.2.1 (gB G + (o + j)) (Or.inr (Nat.le_refl _))).fr h0) f
    refine ⟨?_, b.trans (hV f).symm, c, d.trans (hA f).symm, g⟩
    show mI m f (gB G + (o + j)) = true ∨ _
    cases hx : nrl (o + j) f with
    | true => exact Or.inl (a.trans hx)
    | false => exact Or.inr (hn f hx)
  · obtain ⟨a, b, c, d, g⟩ := h.2.2 j (by omega) f
    exact ⟨a.imp id (hP j f (by omega)), b, c, d, g⟩
/-- a slot set -/
theorem Bd_wI (h : Bd G m0 m o n V A P) {f j : Nat} (hj : j < n) (hP : ∀ j' f', j' < n → P j' f' → P' j' f' ∨ (j' = j ∧ f' = f)) : Bd G m0 (wI m f (gB G + (o + j))) o n V A P' := by
  refine ⟨h.1, fun a ha g => ?_, fun j' hj' f' => ?_⟩
  · obtain ⟨x1, x2⟩ := h.2.1 a ha g
    have : mI (wI m f (gB G + (o + j))) g a = mI m g a := if_neg (fun z => by omega)
    exact ⟨this.trans x1, x2⟩
  · obtain ⟨a, b⟩ := h.2.2 j' hj' f'
    refine ⟨?_, b⟩
    by_cases e : j' = j ∧ f' = f
    · exact Or.inl (if_pos ⟨e.2, by rw [e.1]⟩)
    · have : mI (wI m f (gB G + (o + j))) f' (gB G + (o + j')) = mI m f' (gB G + (o + j')) := if_neg (fun z => e ⟨by omega, z.1⟩)
      rw [this]
      rcases a with a | a
      · exact Or.inl a
      · exact Or.inr ((hP j' f' hj' a).resolve_right e)
/-- a field written -/
theorem Bd_wfi (h : Bd G m0 m o n V A P) {f j : Nat} {x : Int32} (hj : j < n) : Bd G m0 (wfi m f (gB G + (o + j)) x) o n (fun j' f' => if j' = j ∧ f' = f then x else V j' f') A P := by
  refine ⟨h.1, fun a ha g => ?_, fun j' hj' f' => ?_⟩
  · obtain ⟨x1, x2, x3⟩ := h.2.1 a ha g
    exact ⟨x1, (if_neg (fun z => by omega)).trans x2, x3⟩
  · obtain ⟨a, b, c⟩ := h.2.2 j' hj' f'
    refine ⟨a, ?_, c⟩
    by_cases e : j' = j ∧ f' = f
    · rw [e.1, e.2]
      exact (if_pos ⟨rfl, rfl⟩).trans (if_pos ⟨rfl, rfl⟩).symm
    · exact ((if_neg (fun z => e ⟨by omega, z.1⟩)).trans b).trans (if_neg e).symm
theorem Bd_wai (h : Bd G m0 m o n V A P) {f j : Nat} {x : Int32} (hj : j < n) : Bd G m0 (wai m (gB G + (o + j)) f x) o n V (fun j' f' => if j' = j ∧ f' = f then x else A j' f') P := by
  refine ⟨h.1, fun a ha g => ?_, fun j' hj' f' => ?_⟩
  · obtain ⟨x1, x2, x3, x4, x5⟩ := h.2.1 a ha g
    exact ⟨x1, x2, x3, (if_neg (fun z => by omega)).trans x4, x5⟩
  · obtain ⟨a, b, c, e4, e5⟩ := h.2.2 j' hj' f'
    refine ⟨a, b, c, ?_, e5⟩
    by_cases e : j' = j ∧ f' = f
    · rw [e.1, e.2]
      exact (if_pos ⟨rfl, rfl⟩).trans (if_pos ⟨rfl, rfl⟩).symm
    · exact ((if_neg (fun z => e ⟨by omega, z.2⟩)).trans e4).trans (if_neg e).symm
/-- an object more, made by its constructor -/
theorem Bd_ct {sz : Nat} {V1 A1 : Nat → Nat → Int32} (h : Bd G m0 m o n V A P) (hc : Ct G (wN m (o + n + 1)) m' (o + n) sz V1 A1) (hV : ∀ j f, j < sz → V1 j f = V (n + j) f) (hA : ∀ j f, j < sz → A1 j f = A (n + j) f) : Bd G m0 m' o (n + sz) V A P := by
  refine ⟨by rw [hc.1]; omega, fun a ha => Same.tr (hc.2.1 a (by omega)) (h.2.1 a (by omega)), fun j hj f => ?_⟩
  by_cases e : j < n
  · obtain ⟨y1, y2, y3, y4, y5⟩ := hc.2.1 (gB G + (o + j)) (Or.inl (by omega)) f
    obtain ⟨a, b, c, d, g⟩ := h.2.2 j e f
    exact ⟨a.imp (fun z => y1.trans z) id, y2.trans b, y3.trans c, y4.trans d, y5.trans g⟩
  · obtain ⟨t, ht⟩ : ∃ t, j = n + t := ⟨j - n, by omega⟩
    subst ht
    have hts : t < sz := by omega
    obtain ⟨a, b, c, d, g⟩ := hc.2.2 t hts f
    rw [show o + n + t = o + (n + t) by omega] at a b c d g
    exact ⟨Or.inl (a.resolve_right (fun z => z)), b.trans (hV t f hts), c, d.trans (hA t f hts), g⟩
theorem Bd.zero (h : mN m = o) : Bd G m m o 0 V A P := ⟨h, fun _ _ => Same.rf, fun j hj => by omega⟩
end BORN
theorem nrl_sc {j : Nat} (h : (fty (kd j)).all (fun t => decide (¬ t = 2)) = true) (hk : kd j < 20) (f : Nat) : nrl j f = true := by
  unfold nrl
  rw [if_pos hk]
  have : decide ((fty (kd j)).getD (f % 100) 0 = 2) = false := by
    rw [decide_eq_false_iff_not]
    intro e
    rw [List.getD_eq_getElem?_getD] at e
    cases hx : (fty (kd j))[f % 100]? with
    | none =>
      rw [hx] at e
      cases e
    | some t =>
      rw [hx] at e
      have := List.all_eq_true.mp h t (List.mem_of_getElem? hx)
      rw [decide_eq_true_eq] at this
      exact this e
  rw [this]
  simp
theorem nrl_ar {j : Nat} (h1 : 20 ≤ kd j) (h2 : kd j < 24) (f : Nat) : nrl j f = true := by
  unfold nrl
  rw [if_neg (by omega), if_pos h2]
