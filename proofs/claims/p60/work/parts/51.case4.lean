theorem dp_L {n nl nh j k : Nat} (h : DP (UD n nl nh) (7 * nl + 296) j k) : True := trivial
theorem ud_L {n nl nh k : Nat} (h : UD n (nl + 1) nh k) : DP (UD n nl nh) (7 * nl + 296) 7 k := by
  unfold UD at h
  unfold DP UD
  omega
theorem ud_H {n nl nh k : Nat} (h : UD n nl (nh + 1) k) : DP (UD n nl nh) (8 * nh + 338) 8 k := by
  unfold UD at h
  unfold DP UD
  omega
theorem ud_N {n nl nh k : Nat} (h : UD (n + 1) nl nh k) : DP (UD n nl nh) (11 * n + 20) 11 k := by
  unfold UD at h
  unfold DP UD
  omega
theorem CS.dp {m0 m : Mm} {c : Nat} {B : Nat → Prop} {st : Nat → Int32} {en : Nat → Int64} {s : Nat} (h : CS m0 m c B st en) : CS m0 m c (DP B s 0) st en := h.mono (fun k hk => by
  unfold DP at hk
  rcases hk with h | h
  · exact h
  · omega)
theorem CS.dL {m0 m : Mm} {c : Nat} {B : Nat → Prop} {st : Nat → Int32} {en : Nat → Int64} {i : Nat} {x : Int32} (j : Nat) (h : CS m0 m c (DP B (7 * i + 296) j) st en) (hi : i < 6) (hj : j < 7) : CS m0 (wfi m (300 + j) (lv c i) x) c (DP B (7 * i + 296) (j + 1)) (upd st (7 * i + 296 + j) x) en := h.wL j hi hj (fun k hk => by
  unfold DP at hk ⊢
  rcases hk with h | h
  · exact Or.inl (Or.inl h)
  · by_cases e : k = 7 * i + 296 + j
    · exact Or.inr e
    · exact Or.inl (Or.inr (by omega)))
theorem CS.dH {m0 m : Mm} {c : Nat} {B : Nat → Prop} {st : Nat → Int32} {en : Nat → Int64} {i : Nat} {x : Int32} (j : Nat) (h : CS m0 m c (DP B (8 * i + 338) j) st en) (hi : i < 8) (hj : j < 8) : CS m0 (wfi m (100 + j) (ht c i) x) c (DP B (8 * i + 338) (j + 1)) (upd st (8 * i + 338 + j) x) en := h.wH j hi hj (fun k hk => by
  unfold DP at hk ⊢
  rcases hk with h | h
  · exact Or.inl (Or.inl h)
  · by_cases e : k = 8 * i + 338 + j
    · exact Or.inr e
    · exact Or.inl (Or.inr (by omega)))
theorem CS.dN {m0 m : Mm} {c : Nat} {B : Nat → Prop} {st : Nat → Int32} {en : Nat → Int64} {i : Nat} {x : Int32} (j : Nat) (h : CS m0 m c (DP B (11 * i + 20) j) st en) (hi : i < 12) (hj : j < 11) : CS m0 (wfi m (400 + j) (nd c i) x) c (DP B (11 * i + 20) (j + 1)) (upd st (11 * i + 20 + j) x) en := h.wN j hi hj (fun k hk => by
  unfold DP at hk ⊢
  rcases hk with h | h
  · exact Or.inl (Or.inl h)
  · by_cases e : k = 11 * i + 20 + j
    · exact Or.inr e
    · exact Or.inl (Or.inr (by omega)))
theorem CS.dpx {m0 m : Mm} {c : Nat} {B D' : Nat → Prop} {st : Nat → Int32} {en : Nat → Int64} {s p : Nat} (h : CS m0 m c (DP B s p) st en) (k0 : Nat) {f o : Nat} {x : Int32} (hf : flC k0 = f) (ho : ofC k0 = o) (hk : VK k0) (h15 : k0 ≠ 15) (h16 : k0 ≠ 16) (hD : ∀ k, D' k → DP B s p k) : CS m0 (wfi m f (c + o) x) c D' (upd st k0 x) en := h.w k0 hf ho hk h15 h16 (fun k hk => Or.inl (hD k hk))
theorem clF_sN {st : Nat → Int32} {q : Nat} (j : Nat) : clF st q (j + 1) = upd (upd (clF st q j) (12 * q + j + 152) 0) (12 * j + q + 152) 0 := rfl

theorem adN_eqv {st : Nat → Int32} {q k : Nat} {c t e a l : Int32} (hq : q < 12) (hk : k < 152 ∨ 296 ≤ k) : adN st q c t e a l k = upd (upd (upd (upd (upd (adN0 st q c t e a l) (11 * q + 27) t) (11 * q + 28) t) (11 * q + 29) 0) (11 * q + 30) (-1)) 12 (nI (q + 1)) k := by
  unfold adN
  have hcl : clF (adN0 st q c t e a l) q 12 k = adN0 st q c t e a l k := clF_ne 12 (fun i hi => by omega)
  by_cases h0 : k = 12
  · rw [h0, upd_eq, upd_eq]
  · rw [upd_ne h0, upd_ne h0]
    by_cases h1 : k = 11 * q + 30
    · rw [h1, upd_eq, upd_eq]
    · rw [upd_ne h1, upd_ne h1]
      by_cases h2 : k = 11 * q + 29
      · rw [h2, upd_eq, upd_eq]
      · rw [upd_ne h2, upd_ne h2]
        by_cases h3 : k = 11 * q + 28
        · rw [h3, upd_eq, upd_eq]
        · rw [upd_ne h3, upd_ne h3]
          by_cases h4 : k = 11 * q + 27
          · rw [h4, upd_eq, upd_eq]
          · rw [upd_ne h4, upd_ne h4, hcl]
