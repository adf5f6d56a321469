/-! THE CLASS'S copyFrom -/
def CA (c a : Nat) : Prop := c ≤ a ∧ a < c + 69
theorem IsR_dis {G : Cx} {r q : Nat} (hr : IsR G r) (hq : IsR G q) (hne : q ≠ r) {j k : Nat} (hj : j < 9) (hk : k < 9) : q + j ≠ r + k := by
  unfold IsR IsC at hr hq
  rcases hr with ⟨c, h1, h2⟩ | h1 <;> rcases hq with ⟨c', h3, h4⟩ | h3 <;> omega
theorem IsC_dis {G : Cx} {c o : Nat} (hc : IsC G c) (ho : IsC G o) (hne : c ≠ o) {j : Nat} (hj : j < 69) : ¬ CA c (o + j) := by
  unfold IsC at hc ho
  unfold CA
  omega
section CCOPY
variable {G : Cx} {d : Nat} {m0 m : Mm} {c o : Nat} {Q : Option Value → Mm → Prop} {st : Nat → Int32} {en : Nat → Int64} {n nl nh : Nat} {T : Int}
theorem CodC.of2 {m m' : Mm} {r q : Nat} {sz : Nat} (h1 : ∀ k, k < sz → ai m' (r + 1) k = ai m (q + 1) k ∧ ai m' (r + 2) k = ai m (q + 2) k) : ∀ (cs : List Cd) (i : Nat), i + cs.length ≤ sz → CodC m q i cs → CodC m' r i cs
  | [], _, _, _ => trivial
  | _ :: cs, i, hl, ⟨a, b, c⟩ => by
    rw [List.length_cons] at hl
    exact ⟨(h1 i (by omega)).1.trans a, (h1 i (by omega)).2.trans b, CodC.of2 h1 cs (i + 1) (by omega) c⟩
theorem Cpy.val {m m' : Mm} {a0 a nx k : Nat} (h : Cpy m m' a0 a 0 0 nx) (hk : k < nx) : ai m' a k = ai m a0 k := by
  rw [h.ai_eq]
  unfold va_cpy
  rw [if_pos ⟨by omega, by omega⟩]
  congr 1
  omega
theorem C_cpr {r q : Nat} {L : List Ru} (hF : Full G m) (hr : IsR G r) (hq : IsR G q) (hne : q ≠ r) (hL : RulsC m q L) (k : ∀ m', Out (fun a => r ≤ a ∧ a < r + 8) m' m → RulsC m' r L → Q none m') : WPM G (d + 1) (0, 0) μX8_copyFrom [.ref r, .ref q] m Q := by
  obtain ⟨sz, z1, z2, z3, z4, z5⟩ := hL
  refine sC_cpr hF hr hq z1 z2 z3 z4 hne (fun m1 h1 m2 h2 m3 h3 m4 h4 m5 h5 m6 h6 m7 h7 => ?_)
  have dis : ∀ j k, j < 9 → k < 9 → q + j ≠ r + k := fun j k hj hk => IsR_dis hr hq hne hj hk
  have f1 : ∀ k, k < sz → ai m7 (r + 1) k = ai m (q + 1) k := fun k hk => by
    rw [h7.ai_na (by omega), h6.ai_na (by omega), h5.ai_na (by omega), h4.ai_na (by omega), h3.ai_na (by omega)]
    show ai m2 (r + 1) k = _
    rw [h2.ai_na (by omega), h1.val hk]
    rfl
  have f2 : ∀ k, k < sz → ai m7 (r + 2) k = ai m (q + 2) k := fun k hk => by
    rw [h7.ai_na (by omega), h6.ai_na (by omega), h5.ai_na (by omega), h4.ai_na (by omega), h3.ai_na (by omega)]
    show ai m2 (r + 2) k = _
    rw [h2.val hk, h1.ai_na (dis 2 1 (by omega) (by omega))]
    rfl
  have back : ∀ j k, j < 8 → ai (wfi m2 808 r (nI L.length)) (q + j) k = ai m (q + j) k := fun j k hj => by
    show ai m2 (q + j) k = _
    rw [h2.ai_na (dis j 2 (by omega) (by omega)), h1.ai_na (dis j 1 (by omega) (by omega))]
    rfl
  have f3 : ∀ k, k < L.length → ai m7 (r + 3) k = ai m (q + 3) k := fun k hk => by
    rw [h7.ai_na (by omega), h6.ai_na (by omega), h5.ai_na (by omega), h4.ai_na (by omega), h3.val hk, back 3 k (by omega)]
  have f4 : ∀ k, k < L.length → ai m7 (r + 4) k = ai m (q + 4) k := fun k hk => by
    rw [h7.ai_na (by omega), h6.ai_na (by omega), h5.ai_na (by omega), h4.val hk, h3.ai_na (dis 4 3 (by omega) (by omega)), back 4 k (by omega)]
  have f5 : ∀ k, k < L.length → ai m7 (r + 5) k = ai m (q + 5) k := fun k hk => by
    rw [h7.ai_na (by omega), h6.ai_na (by omega), h5.val hk, h4.ai_na (dis 5 4 (by omega) (by omega)), h3.ai_na (dis 5 3 (by omega) (by omega)), back 5 k (by omega)]
  have f6 : ∀ k, k < L.length → ai m7 (r + 6) k = ai m (q + 6) k := fun k hk => by
    rw [h7.ai_na (by omega), h6.val hk, h5.ai_na (dis 6 5 (by omega) (by omega)), h4.ai_na (dis 6 4 (by omega) (by omega)), h3.ai_na (dis 6 3 (by omega) (by omega)), back 6 k (by omega)]
  have f7 : ∀ k, k < L.length → ai m7 (r + 7) k = ai m (q + 7) k := fun k hk => by
    rw [h7.val hk, h6.ai_na (dis 7 6 (by omega) (by omega)), h5.ai_na (dis 7 5 (by omega) (by omega)), h4.ai_na (dis 7 4 (by omega) (by omega)), h3.ai_na (dis 7 3 (by omega) (by omega)), back 7 k (by omega)]
  have a7 : fi m7 807 r = nI sz := by
    rw [h7.fi, h6.fi, h5.fi, h4.fi, h3.fi, fi_ne (by decide), h2.fi, h1.fi, fi_eq]
  have a8 : fi m7 808 r = nI L.length := by
    rw [h7.fi, h6.fi, h5.fi, h4.fi, h3.fi, fi_eq]
  refine k m7 ?_ ⟨sz, a7, z2, a8, z4, fun p R hp => ?_⟩
  · have o1 := (h1.out (A := fun a => r ≤ a ∧ a < r + 8) (by omega)).tr (Out.rf.wfi (f := 807) (a := r) (x := nI sz) (m := m) (by omega))
    have o2 := (h2.out (A := fun a => r ≤ a ∧ a < r + 8) (by omega)).tr o1
    have o3 := (h3.out (A := fun a => r ≤ a ∧ a < r + 8) (by omega)).tr (o2.wfi (by omega))
    have o4 := (h4.out (A := fun a => r ≤ a ∧ a < r + 8) (by omega)).tr o3
    have o5 := (h5.out (A := fun a => r ≤ a ∧ a < r + 8) (by omega)).tr o4
    have o6 := (h6.out (A := fun a => r ≤ a ∧ a < r + 8) (by omega)).tr o5
    exact (h7.out (A := fun a => r ≤ a ∧ a < r + 8) (by omega)).tr o6
  · have hp' : p < L.length := (List.getElem?_eq_some_iff.mp hp).1
    obtain ⟨i, b3, b4, b1, b2, b6, b7, b5⟩ := z5 p R hp
    refine ⟨i, (f3 p hp').trans b3, (f4 p hp').trans b4, b1, CodC.of2 (fun k hk => ⟨f1 k hk, f2 k hk⟩) _ _ b1 b2, (f6 p hp').trans b6, (f7 p hp').trans b7, fun e => ?_⟩
    obtain ⟨c1, c2, c3⟩ := b5 e
    exact ⟨(f5 p hp').trans c1, c2, CodC.of2 (fun k hk => ⟨f1 k hk, f2 k hk⟩) _ _ c2 c3⟩
end CCOPY
