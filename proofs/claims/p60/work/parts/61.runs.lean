/-! MANY STEPS -/
def sp (s : Sc) : Sc := (stepS (sN s) (sL s) (sH s) (sR s) (sS s), stepE (sN s) (sL s) (sH s) (sR s) (sS s) (sE s), s.2.2)
def svi (s : Sc) : Int32 := stepV (sN s) (sL s) (sH s) (sR s) (sS s)
def it (s : Sc) : Nat → Sc
  | 0 => s
  | k + 1 => sp (it s k)
section RUNS
variable {G : Cx} {d : Nat} {m0 m : Mm} {c : Nat} {s : Sc} {T : Int} {Q : Option Value → Mm → Prop}
theorem svi_b (s : Sc) : svi s = 0 ∨ svi s = 1 := vioF_b _ _
theorem GdT_sp (h : GdT T s) (hT : T ≤ 1900000000) : GdT (T + 60) (sp s) := ⟨(Iv_step h.1 hT h.2).2, h.2⟩
theorem it_n (s : Sc) : ∀ k, (it s k).2.2 = s.2.2
  | 0 => rfl
  | k + 1 => it_n s k
theorem GdT_it (h : GdT T s) : ∀ k : Nat, T + 60 * (k : Int) ≤ 1900000000 → GdT (T + 60 * (k : Int)) (it s k)
  | 0, _ => by
    have e : T + 60 * ((0 : Nat) : Int) = T := by omega
    rw [e]
    exact h
  | k + 1, hT => by
    have := GdT_sp (GdT_it h k (by omega)) (by omega)
    have e : T + 60 * ((k + 1 : Nat) : Int) = T + 60 * (k : Int) + 60 := by omega
    rw [e]
    exact this
theorem C_st (hF : Full G m) (hc : IsC G c) (hC : CRx m c s) (hG : GdT T s) (hT : T ≤ 1900000000) (k : ∀ m', Full G m' → Out (SA c) m' m → CRx m' c (sp s) → Q (some (.int (svi s))) m') : WPM G (d + 6) (0, 0) μX0_step [.ref c] m Q :=
  C_step hF hc hC hG.1 hT (fun m' a b _ => k m' (b.full hF) b a)
theorem C_stK (hF : Full G m) (hc : IsC G c) (hC : CRx m c s) (hG : GdT T s) (hT : T ≤ 1900000000) (k : ∀ m', Full G m' → Out (SA c) m' m → CRx m' c (sp s) → (∀ i, fi m' 416 (nd c i) = fi m 416 (nd c i)) → Q (some (.int (svi s))) m') : WPM G (d + 6) (0, 0) μX0_step [.ref c] m Q :=
  C_step hF hc hC hG.1 hT (fun m' a b e => k m' (b.full hF) b a e.2)
theorem rul01 {nh n nl k : Nat} (hk : k < 2) : ∀ (L : List Ru) (st : Nat → Int32), (∀ R ∈ L, RuC n nl nh R) → rulF nh L st k = st k
  | [], _, _ => rfl
  | R :: L, st, hL => by
    show rulF nh L (carF nh R st) k = st k
    rw [rul01 hk L _ (fun R' hR' => hL R' (List.mem_cons_of_mem _ hR'))]
    obtain ⟨h1, h2, h3, h4, h5⟩ := hL R List.mem_cons_self
    exact carF_ne ⟨fun e => by omega, fun e => by omega, fun e => by omega⟩ h2
theorem sp_time (hG : GdT T s) (hT : T ≤ 1900000000) : sS (sp s) 0 = sS s 0 + sS s 1 ∧ sS (sp s) 1 = sS s 1 := by
  obtain ⟨h1, h3⟩ := hG
  have s4 : ∀ k, k < 2 → warmF (switchF (mvF (rulF (sH s) (sR s) (sS s)) (sL s)) (sH s)) (sN s) (sL s) (sH s) (sN s) k = sS s k := fun k hk => by
    rw [warmF_ne _ _ _ _ _ (fun j hj => by omega), switchF_ne (by omega) (by omega) (fun j hj => by omega), mvF_ne _ _ (fun j hj => by omega), rul01 hk _ _ h3]
  refine ⟨?_, stepS_ne h1 hT h3 ?_⟩
  · obtain ⟨hR, -⟩ := Iv_step h1 hT h3
    obtain ⟨-, -, a3⟩ := recF_ok h1.1.2.1 hR _ (Nat.le_refl _)
    have e1 : stepS (sN s) (sL s) (sH s) (sR s) (sS s) 0 = s5F (sN s) (sL s) (sH s) (sR s) (sS s) 0 := (a3 0).resolve_left (fun z => by
      rcases z with z | z | ⟨j, z1, z2⟩ <;> omega)
    show stepS (sN s) (sL s) (sH s) (sR s) (sS s) 0 = _
    rw [e1]
    show upd _ 0 _ 0 = _
    rw [upd_eq, s4 0 (by omega), s4 1 (by omega)]
  · unfold NC
    refine ⟨by omega, by omega, by omega, by omega, fun i hi => by omega, fun i hi => by omega, fun i hi => by omega, by omega⟩
theorem it_time (hG : GdT T s) : ∀ k : Nat, T + 60 * (k : Int) ≤ 1900000000 → (sS (it s k) 0).toInt = (sS s 0).toInt + (k : Int) * (sS s 1).toInt ∧ sS (it s k) 1 = sS s 1
  | 0, _ => by
    constructor
    · show (sS s 0).toInt = _
      omega
    · rfl
  | k + 1, hT => by
    obtain ⟨a, b⟩ := it_time hG k (by omega)
    have hk := GdT_it hG k (by omega)
    obtain ⟨c1, c2⟩ := sp_time hk (by omega)
    have r0 := hk.1.1.2.2.2.2.2.2.1.1
    have r1 := hk.1.1.2.2.2.2.2.2.1.2.1
    refine ⟨?_, c2.trans b⟩
    show (sS (sp (it s k)) 0).toInt = _
    have h0 := r0.1
    have h1 := r0.2
    have h2 := r1.1
    have h3 := r1.2
    rw [c1, Int32.toInt_add, Int.bmod_eq_of_le (by omega) (by omega), a, b]
    have e : ((k + 1 : Nat) : Int) * (sS s 1).toInt = (k : Int) * (sS s 1).toInt + (sS s 1).toInt := by
      rw [show ((k + 1 : Nat) : Int) = (k : Int) + 1 by omega, Int.add_mul, Int.one_mul]
    omega
theorem Iv_T {T' : Int} {st : Nat → Int32} {n nl nh : Nat} (h : Iv T st n nl nh) (h' : (st 0).toInt ≤ T') : Iv T' st n nl nh := by
  obtain ⟨⟨i1, i2, i3, i4, i5, i6, ⟨j1, j2⟩, i8⟩, i12⟩ := h
  exact ⟨⟨i1, i2, i3, i4, i5, i6, ⟨⟨j1.1, h'⟩, j2⟩, i8⟩, i12⟩
theorem guard_run {a b : Int32} {i : Nat} (ha : rg a 0 100000000) (hb : rg b 1 60) (hi : i ≤ 1000) (h : ¬ (100000000 : Int32) < a + nI i * b) : a.toInt + (i : Int) * b.toInt ≤ 100000000 := by
  have e1 : (nI i).toInt = (i : Int) := nI_toInt (by omega)
  have h1 := ha.1
  have h2 := ha.2
  have h3 := hb.1
  have h4 := hb.2
  have p1 : 0 ≤ (i : Int) * b.toInt := Int.mul_nonneg (by omega) (by omega)
  have p2 : (i : Int) * b.toInt ≤ 1000 * 60 := Int.mul_le_mul (by omega) (by omega) (by omega) (by omega)
  rw [Int32.lt_iff_toInt_lt] at h
  have e2 : (nI i * b).toInt = (i : Int) * b.toInt := by
    rw [Int32.toInt_mul, e1, Int.bmod_eq_of_le (by omega) (by omega)]
  rw [Int32.toInt_add, e2, Int.bmod_eq_of_le (by omega) (by omega)] at h
  have e3 : (100000000 : Int32).toInt = 100000000 := by decide
  omega
end RUNS
