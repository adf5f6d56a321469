/-! THE LAYOUT, once all is made -/
def Full (G : Cx) (m : Mm) : Prop := mN m = 308 ∧ ∀ f a, mI m f a = true
def IsC (G : Cx) (c : Nat) : Prop := c = gB G + 1 ∨ c = gB G + 70 ∨ c = gB G + 140 ∨ c = gB G + 209
def IsR (G : Cx) (r : Nat) : Prop := (∃ c, IsC G c ∧ r = c + 10) ∨ r = gB G + 281
def nd (c i : Nat) : Nat := c + 19 + i
def lk (c i : Nat) : Nat := c + 31 + i
def lv (c i : Nat) : Nat := c + 55 + i
def ht (c i : Nat) : Nat := c + 61 + i
theorem isK_le {G : Cx} {m : Mm} {a q : Nat} (h : isK G m a q) : gB G ≤ a := by
  obtain ⟨j, rfl, -⟩ := h
  exact Nat.le_add_right _ _
theorem rra {G : Cx} {a id : Nat} (δ : Nat) (h : gB G ≤ a) (hid : ∀ j, rfo id j = j + δ) : rr G id a = a + δ := by
  unfold rr
  rw [hid]
  omega
theorem ka {G : Cx} {m : Mm} (hF : Full G m) (o : Nat) (h : o < 308) : isK G m (gB G + o) (kd o) := ⟨o, rfl, by rw [hF.1]; exact h, rfl⟩
theorem ka0 {G : Cx} {m : Mm} (hF : Full G m) : isK G m (gB G) 10 := ⟨0, rfl, by rw [hF.1]; decide, rfl⟩
theorem la {G : Cx} (o : Nat) : ln (gB G + o - gB G) = ln o := by rw [Nat.add_sub_cancel_left]
theorem kd_c : ∀ j, j < 69 → kd (1 + j) = kC j ∧ kd (70 + j) = kC j ∧ kd (140 + j) = kC j ∧ kd (209 + j) = kC j := by decide +kernel
theorem ln_c : ∀ j, j < 69 → ln (1 + j) = lnC j ∧ ln (70 + j) = lnC j ∧ ln (140 + j) = lnC j ∧ ln (209 + j) = lnC j := by decide +kernel
theorem kc {G : Cx} {m : Mm} {c : Nat} (hF : Full G m) (hc : IsC G c) (j : Nat) (h : j < 69) : isK G m (c + j) (kC j) := by
  obtain ⟨h1, h2, h3, h4⟩ := kd_c j h
  rcases hc with rfl | rfl | rfl | rfl
  · exact ⟨1 + j, Nat.add_assoc _ _ _, by rw [hF.1]; omega, h1⟩
  · exact ⟨70 + j, Nat.add_assoc _ _ _, by rw [hF.1]; omega, h2⟩
  · exact ⟨140 + j, Nat.add_assoc _ _ _, by rw [hF.1]; omega, h3⟩
  · exact ⟨209 + j, Nat.add_assoc _ _ _, by rw [hF.1]; omega, h4⟩
theorem kc0 {G : Cx} {m : Mm} {c : Nat} (hF : Full G m) (hc : IsC G c) : isK G m c 0 := kc hF hc 0 (by decide)
theorem lc {G : Cx} {c : Nat} (hc : IsC G c) (j : Nat) (h : j < 69) : ln (c + j - gB G) = lnC j := by
  obtain ⟨h1, h2, h3, h4⟩ := ln_c j h
  rcases hc with rfl | rfl | rfl | rfl
  · rw [Nat.add_assoc, Nat.add_sub_cancel_left]; exact h1
  · rw [Nat.add_assoc, Nat.add_sub_cancel_left]; exact h2
  · rw [Nat.add_assoc, Nat.add_sub_cancel_left]; exact h3
  · rw [Nat.add_assoc, Nat.add_sub_cancel_left]; exact h4
theorem kC_nd : ∀ i, i < 12 → kC (19 + i) = 4 := by decide +kernel
theorem kC_lk : ∀ i, i < 24 → kC (31 + i) = 2 := by decide +kernel
theorem kC_lv : ∀ i, i < 6 → kC (55 + i) = 3 := by decide +kernel
theorem kC_ht : ∀ i, i < 8 → kC (61 + i) = 1 := by decide +kernel
theorem knd {G : Cx} {m : Mm} {c i : Nat} (hF : Full G m) (hc : IsC G c) (h : i < 12) : isK G m (nd c i) 4 := by
  have := kc hF hc (19 + i) (by omega)
  rw [kC_nd i h, ← Nat.add_assoc] at this
  exact this
theorem klk {G : Cx} {m : Mm} {c i : Nat} (hF : Full G m) (hc : IsC G c) (h : i < 24) : isK G m (lk c i) 2 := by
  have := kc hF hc (31 + i) (by omega)
  rw [kC_lk i h, ← Nat.add_assoc] at this
  exact this
theorem klv {G : Cx} {m : Mm} {c i : Nat} (hF : Full G m) (hc : IsC G c) (h : i < 6) : isK G m (lv c i) 3 := by
  have := kc hF hc (55 + i) (by omega)
  rw [kC_lv i h, ← Nat.add_assoc] at this
  exact this
theorem kht {G : Cx} {m : Mm} {c i : Nat} (hF : Full G m) (hc : IsC G c) (h : i < 8) : isK G m (ht c i) 1 := by
  have := kc hF hc (61 + i) (by omega)
  rw [kC_ht i h, ← Nat.add_assoc] at this
  exact this
theorem rfo_el {j k : Nat} (h : 1125 < 100000 + k) : rfo (100000 + k) j = if kd j = 24 then j + 18 + k else if kd j = 25 then j + 29 + k else if kd j = 26 then j + 52 + k else if kd j = 27 then j + 57 + k else j + 1 + 69 * k := by
  have e : 100000 + k - 100000 = k := by omega
  have n : ∀ n : Nat, n < 100000 → ¬ 100000 + k = n := fun n h => by omega
  have l : ∀ n : Nat, n < 100000 → ¬ 100000 + k < n := fun n h => by omega
  unfold rfo
  rw [if_neg (l _ (by decide)), if_neg (n _ (by decide)), if_neg (n _ (by decide)), if_neg (n _ (by decide)), if_neg (n _ (by decide)), if_neg (n _ (by decide)), if_neg (n _ (by decide)), if_neg (n _ (by decide)), if_neg (n _ (by decide)), if_neg (n _ (by decide)), if_neg (n _ (by decide)), if_neg (n _ (by decide)), if_neg (l _ (by decide)), if_neg (n _ (by decide)), if_neg (n _ (by decide)), if_neg (n _ (by decide)), if_neg (n _ (by decide)), if_neg (n _ (by decide)), if_neg (l _ (by decide)), if_neg (n _ (by decide)), if_neg (n _ (by decide)), if_neg (n _ (by decide)), e]
theorem re_kd {G : Cx} {m : Mm} {a q : Nat} (h : isK G m a q) : kd (a - gB G) = q := by
  obtain ⟨j, rfl, -, hq⟩ := h
  rw [Nat.add_sub_cancel_left]
  exact hq
theorem rnd {G : Cx} {m : Mm} {c k : Nat} (hF : Full G m) (hc : IsC G c) : rr G (100000 + k) (c + 1) = nd c k := by
  have h := kc hF hc 1 (by decide)
  unfold rr
  rw [rfo_el (by omega), re_kd h, if_pos (show kC 1 = 24 from rfl)]
  have := isK_le h
  unfold nd
  omega
theorem rlk {G : Cx} {m : Mm} {c k : Nat} (hF : Full G m) (hc : IsC G c) : rr G (100000 + k) (c + 2) = lk c k := by
  have h := kc hF hc 2 (by decide)
  unfold rr
  rw [rfo_el (by omega), re_kd h, if_neg (show ¬ kC 2 = 24 by decide), if_pos (show kC 2 = 25 from rfl)]
  have := isK_le h
  unfold lk
  omega
theorem rlv {G : Cx} {m : Mm} {c k : Nat} (hF : Full G m) (hc : IsC G c) : rr G (100000 + k) (c + 3) = lv c k := by
  have h := kc hF hc 3 (by decide)
  unfold rr
  rw [rfo_el (by omega), re_kd h, if_neg (show ¬ kC 3 = 24 by decide), if_neg (show ¬ kC 3 = 25 by decide), if_pos (show kC 3 = 26 from rfl)]
  have := isK_le h
  unfold lv
  omega
theorem rht {G : Cx} {m : Mm} {c k : Nat} (hF : Full G m) (hc : IsC G c) : rr G (100000 + k) (c + 4) = ht c k := by
  have h := kc hF hc 4 (by decide)
  unfold rr
  rw [rfo_el (by omega), re_kd h, if_neg (show ¬ kC 4 = 24 by decide), if_neg (show ¬ kC 4 = 25 by decide), if_neg (show ¬ kC 4 = 26 by decide), if_pos (show kC 4 = 27 from rfl)]
  have := isK_le h
  unfold ht
  omega
theorem isC1 (G : Cx) : IsC G (gB G + 1) := Or.inl rfl
theorem isC2 (G : Cx) : IsC G (gB G + 70) := Or.inr (Or.inl rfl)
theorem isC3 (G : Cx) : IsC G (gB G + 140) := Or.inr (Or.inr (Or.inl rfl))
theorem isC4 (G : Cx) : IsC G (gB G + 209) := Or.inr (Or.inr (Or.inr rfl))
theorem isRc {G : Cx} {c : Nat} (hc : IsC G c) : IsR G (c + 10) := Or.inl ⟨c, hc, rfl⟩
theorem isRr (G : Cx) : IsR G (gB G + 281) := Or.inr rfl
def kR (j : Nat) : Nat := if j = 0 then 8 else if j = 8 then 22 else 21
def lnR (j : Nat) : Nat := if j = 1 then 500 else if j = 2 then 500 else if j = 8 then 64 else 12
theorem kR_ok : ∀ j, j < 9 → kC (10 + j) = kR j ∧ kd (281 + j) = kR j ∧ (0 < j → lnC (10 + j) = lnR j ∧ ln (281 + j) = lnR j) := by decide +kernel
theorem kr {G : Cx} {m : Mm} {r : Nat} (hF : Full G m) (hr : IsR G r) (j : Nat) (h : j < 9) : isK G m (r + j) (kR j) := by
  obtain ⟨h1, h2, -⟩ := kR_ok j h
  rcases hr with ⟨c, hc, rfl⟩ | rfl
  · have := kc hF hc (10 + j) (by omega)
    rw [h1, ← Nat.add_assoc] at this
    exact this
  · have := ka hF (281 + j) (by omega)
    rw [h2, ← Nat.add_assoc] at this
    exact this
theorem kr0 {G : Cx} {m : Mm} {r : Nat} (hF : Full G m) (hr : IsR G r) : isK G m r 8 := kr hF hr 0 (by decide)
theorem lr {G : Cx} {r : Nat} (hr : IsR G r) (j : Nat) (h : j < 9) (h0 : 0 < j) : ln (r + j - gB G) = lnR j := by
  obtain ⟨-, -, h3⟩ := kR_ok j h
  rcases hr with ⟨c, hc, rfl⟩ | rfl
  · rw [Nat.add_assoc, lc hc (10 + j) (by omega)]
    exact (h3 h0).1
  · rw [Nat.add_assoc, Nat.add_sub_cancel_left]
    exact (h3 h0).2
-- indices
theorem vlt {i : Int32} {n : Nat} (h : vp_in i n) : i.toNatClampNeg < n := Nat.not_le.mp fun q => h (Or.inr q)
theorem vin {k n : Nat} (h : k < n) (hn : n < 2 ^ 31) : vp_in (nI k) n := nI_in h hn
theorem nIc {k : Nat} (h : k < 2 ^ 31) : (nI k).toNatClampNeg = k := nI_clamp h
-- reads behind writes
section RW
variable {m : Mm} {f g a c j k : Nat}
theorem fi_ne {x : Int32} (h : g ≠ f) : fi (wfi m f a x) g c = fi m g c := if_neg (fun q => h q.1)
theorem fi_na {x : Int32} (h : c ≠ a) : fi (wfi m f a x) g c = fi m g c := if_neg (fun q => h q.2)
theorem fi_eq {x : Int32} : fi (wfi m f a x) f a = x := if_pos ⟨rfl, rfl⟩
theorem fl_ne {x : Int64} (h : g ≠ f) : fl (wfl m f a x) g c = fl m g c := if_neg (fun q => h q.1)
theorem fl_na {x : Int64} (h : c ≠ a) : fl (wfl m f a x) g c = fl m g c := if_neg (fun q => h q.2)
theorem fl_eq {x : Int64} : fl (wfl m f a x) f a = x := if_pos ⟨rfl, rfl⟩
theorem ai_na {x : Int32} (h : c ≠ a) : ai (wai m a k x) c j = ai m c j := if_neg (fun q => h q.1)
theorem ai_nk {x : Int32} (h : j ≠ k) : ai (wai m a k x) c j = ai m c j := if_neg (fun q => h q.2)
theorem ai_eq {x : Int32} : ai (wai m a k x) a k = x := if_pos ⟨rfl, rfl⟩
theorem al_na {x : Int64} (h : c ≠ a) : al (wal m a k x) c j = al m c j := if_neg (fun q => h q.1)
theorem al_nk {x : Int64} (h : j ≠ k) : al (wal m a k x) c j = al m c j := if_neg (fun q => h q.2)
theorem al_eq {x : Int64} : al (wal m a k x) a k = x := if_pos ⟨rfl, rfl⟩
end RW
theorem Full_wfi {G : Cx} {m : Mm} (f a : Nat) (x : Int32) (h : Full G m) : Full G (wfi m f a x) := h
theorem Full_wfl {G : Cx} {m : Mm} (f a : Nat) (x : Int64) (h : Full G m) : Full G (wfl m f a x) := h
theorem Full_wai {G : Cx} {m : Mm} (a k : Nat) (x : Int32) (h : Full G m) : Full G (wai m a k x) := h
theorem Full_wal {G : Cx} {m : Mm} (a k : Nat) (x : Int64) (h : Full G m) : Full G (wal m a k x) := h
theorem Full_waf {G : Cx} {m : Mm} (a : Nat) (f : Nat → Int32) (h : Full G m) : Full G (waf m a f) := h
/-- the cell a is of kind q, once all is made -/
def isA (G : Cx) (a q : Nat) : Prop := ∃ j, a = gB G + j ∧ j < 308 ∧ kd j = q
theorem kA {G : Cx} {m : Mm} {a q : Nat} (hF : Full G m) (h : isA G a q) : isK G m a q := by
  obtain ⟨j, h1, h2, h3⟩ := h
  exact ⟨j, h1, by rw [hF.1]; exact h2, h3⟩
theorem isA_of {G : Cx} {m : Mm} {a q : Nat} (hF : Full G m) (h : isK G m a q) : isA G a q := by
  obtain ⟨j, h1, h2, h3⟩ := h
  exact ⟨j, h1, by rw [hF.1] at h2; exact h2, h3⟩
theorem fi_wfl {m : Mm} {g c f a : Nat} {x : Int64} : fi (wfl m f a x) g c = fi m g c := rfl
theorem fi_wai {m : Mm} {g c f a : Nat} {x : Int32} : fi (wai m f a x) g c = fi m g c := rfl
theorem fi_wal {m : Mm} {g c f a : Nat} {x : Int64} : fi (wal m f a x) g c = fi m g c := rfl
theorem fl_wfi {m : Mm} {g c f a : Nat} {x : Int32} : fl (wfi m f a x) g c = fl m g c := rfl
theorem fl_wai {m : Mm} {g c f a : Nat} {x : Int32} : fl (wai m f a x) g c = fl m g c := rfl
theorem fl_wal {m : Mm} {g c f a : Nat} {x : Int64} : fl (wal m f a x) g c = fl m g c := rfl
theorem ai_wfi {m : Mm} {g c f a : Nat} {x : Int32} : ai (wfi m f a x) g c = ai m g c := rfl
theorem ai_wfl {m : Mm} {g c f a : Nat} {x : Int64} : ai (wfl m f a x) g c = ai m g c := rfl
theorem ai_wal {m : Mm} {g c f a : Nat} {x : Int64} : ai (wal m f a x) g c = ai m g c := rfl
theorem al_wfi {m : Mm} {g c f a : Nat} {x : Int32} : al (wfi m f a x) g c = al m g c := rfl
theorem al_wfl {m : Mm} {g c f a : Nat} {x : Int64} : al (wfl m f a x) g c = al m g c := rfl
theorem al_wai {m : Mm} {g c f a : Nat} {x : Int32} : al (wai m f a x) g c = al m g c := rfl
-- numbers
theorem nadd {a b c : Nat} (h : a + b = c) : nI a + nI b = nI c := by
  subst h
  exact (Int32.ofNat_add a b).symm
theorem nmul {a b c : Nat} (h : a * b = c) : nI a * nI b = nI c := by
  subst h
  exact (Int32.ofNat_mul a b).symm
theorem nlt {a b : Nat} (h : nI a < nI b) (ha : a < 2 ^ 31) (hb : b < 2 ^ 31) : a < b := by
  rcases Nat.lt_or_ge a b with q | q
  · exact q
  · exact absurd h (nI_nlt q ha)
theorem nlt_ {a b : Nat} (h : a < b) (hb : b < 2 ^ 31) : nI a < nI b := nI_lt h hb
theorem nnlt {a b : Nat} (h : b ≤ a) (ha : a < 2 ^ 31) : ¬ nI a < nI b := nI_nlt h ha
theorem neq {a b : Nat} (h : nI a = nI b) (ha : a < 2 ^ 31) (hb : b < 2 ^ 31) : a = b := by
  have := congrArg Int32.toNatClampNeg h
  rwa [nIc ha, nIc hb] at this
theorem vinl {i : Int32} {n : Nat} (h : ¬ (i < 0 ∨ n ≤ i.toNatClampNeg)) : vp_in i n := h
theorem narz {x : Int32} (h : x = 0 ∨ x = 1) : narrow .boolean (.int x) = .int x := by rcases h with rfl | rfl <;> rfl
theorem rsv {G : Cx} {m : Mm} (i : Int32) (hF : Full G m) (h : i = 0 ∨ i = 1) : rr G (100000 + i.toNatClampNeg) (gB G + 139) = gB G + (140 + 69 * i.toNatClampNeg) := by
  unfold rr
  rw [Nat.add_sub_cancel_left, rfo_el (by omega)]
  rcases h with rfl | rfl <;> rfl
section VROWS
variable {G : Cx} {d : Nat} {b : Nat × Nat} {μ : MI} {pc : Nat} {L S : List Value} {m : Mm} {Q : Option Value → Mm → Prop}
theorem wp_iaddv {x y : Int32} (v : Int32) (hd : decode μ.2.1 pc = .ok (.iadd, 1)) (hv : x + y = v) (k : WP G d b μ (pc + 1) L (.int v :: S) m Q) : WP G d b μ pc L (.int y :: .int x :: S) m Q := wp_iadd hd (by rw [hv]; exact k)
theorem wp_isubv {x y : Int32} (v : Int32) (hd : decode μ.2.1 pc = .ok (.isub, 1)) (hv : x - y = v) (k : WP G d b μ (pc + 1) L (.int v :: S) m Q) : WP G d b μ pc L (.int y :: .int x :: S) m Q := wp_isub hd (by rw [hv]; exact k)
theorem wp_imulv {x y : Int32} (v : Int32) (hd : decode μ.2.1 pc = .ok (.imul, 1)) (hv : x * y = v) (k : WP G d b μ (pc + 1) L (.int v :: S) m Q) : WP G d b μ pc L (.int y :: .int x :: S) m Q := wp_imul hd (by rw [hv]; exact k)
end VROWS
theorem pX0 : plainName RX0 = true := by decide +kernel
theorem pX1 : plainName RX1 = true := by decide +kernel
theorem pX2 : plainName RX2 = true := by decide +kernel
theorem pX3 : plainName RX3 = true := by decide +kernel
theorem pX4 : plainName RX4 = true := by decide +kernel
theorem pX5 : plainName RX5 = true := by decide +kernel
theorem pX6 : plainName RX6 = true := by decide +kernel
theorem pX7 : plainName RX7 = true := by decide +kernel
theorem pX8 : plainName RX8 = true := by decide +kernel
theorem pX9 : plainName RX9 = true := by decide +kernel
theorem pX10 : plainName RX10 = true := by decide +kernel
theorem pX11 : plainName RX11 = true := by decide +kernel
theorem pL : plainName RL = true := by decide +kernel
