/-! THE LAYOUT, once all is made -/
def Full (G : Cx) (m : Mm) : Prop := mN m = 293 ∧ ∀ f a, mI m f a = true
def IsC (G : Cx) (c : Nat) : Prop := c = gB G + 1 ∨ c = gB G + 70 ∨ c = gB G + 140 ∨ c = gB G + 209
def IsR (G : Cx) (r : Nat) : Prop := (∃ c, IsC G c ∧ r = c + 10) ∨ r = gB G + 281
def nd (c i : Nat) : Nat := c + 19 + i
def lk (c i : Nat) : Nat := c + 31 + i
def lv (c i : Nat) : Nat := c + 55 + i
def ht (c i : Nat) : Nat := c + 61 + i
theorem isK_le {G : Cx} {m : Mm} {a q : Nat} (h : isK G m a q) : gB G ≤ a := by
  obtain ⟨j, rfl, -⟩ := h
  exact Nat.le_add_right _ _
theorem rra {G : Cx} {a id : Nat} (δ : Nat) (h : gB G ≤ a) (hid : ∀ j, rfo id j = j + δ) : rr G id a = a + δ := by
  unfold rr
  rw [hid]
  omega
theorem ka {G : Cx} {m : Mm} (hF : Full G m) (o : Nat) (h : o < 293) : isK G m (gB G + o) (kd o) := ⟨o, rfl, by rw [hF.1]; exact h, rfl⟩
theorem ka0 {G : Cx} {m : Mm} (hF : Full G m) : isK G m (gB G) 10 := ⟨0, rfl, by rw [hF.1]; decide, rfl⟩
theorem la {G : Cx} (o : Nat) : ln (gB G + o - gB G) = ln o := by rw [Nat.add_sub_cancel_left]
theorem kd_c : ∀ j, j < 69 → kd (1 + j) = kC j ∧ kd (70 + j) = kC j ∧ kd (140 + j) = kC j ∧ kd (209 + j) = kC j := by decide +kernel
theorem ln_c : ∀ j, j < 69 → ln (1 + j) = lnC j ∧ ln (70 + j) = lnC j ∧ ln (140 + j) = lnC j ∧ ln (209 + j) = lnC j := by decide +kernel
theorem kc {G : Cx} {m : Mm} {c : Nat} (hF : Full G m) (hc : IsC G c) (j : Nat) (h : j < 69) : isK G m (c + j) (kC j) := by
  obtain ⟨h1, h2, h3, h4⟩ := kd_c j h
  rcases hc with rfl | rfl | rfl | rfl
  · exact ⟨1 + j, Nat.add_assoc _ _ _, by rw [hF.1]; omega, h1⟩
  · exact ⟨70 + j, Nat.add_assoc _ _ _, by rw [hF.1]; omega, h2⟩
  · exact ⟨140 + j, Nat.add_assoc _ _ _, by rw [hF.1]; omega, h3⟩
  · exact ⟨209 + j, Nat.add_assoc _ _ _, by rw [hF.1]; omega, h4⟩
theorem kc0 {G : Cx} {m : Mm} {c : Nat} (hF : Full G m) (hc : IsC G c) : isK G m c 0 := kc hF hc 0 (by decide)
theorem lc {G : Cx} {c : Nat} (hc : IsC G c) (j : Nat) (h : j < 69) : ln (c + j - gB G) = lnC j := by
  obtain ⟨h1, h2, h3, h4⟩ := ln_c j h
  rcases hc with rfl | rfl | rfl | rfl
  · rw [Nat.add_assoc, Nat.add_sub_cancel_left]; exact h1
  · rw [Nat.add_assoc, Nat.add_sub_cancel_left]; exact h2
  · rw [Nat.add_assoc, Nat.add_sub_cancel_left]; exact h3
  · rw [Nat.add_assoc, Nat.add_sub_cancel_left]; exact h4
theorem kC_nd : ∀ i, i < 12 → kC (19 + i) = 4 := by decide +kernel
theorem kC_lk : ∀ i, i < 24 → kC (31 + i) = 2 := by decide +kernel
theorem kC_lv : ∀ i, i < 6 → kC (55 + i) = 3 := by decide +kernel
theorem kC_ht : ∀ i, i < 8 → kC (61 + i) = 1 := by decide +kernel
theorem knd {G : Cx} {m : Mm} {c i : Nat} (hF : Full G m) (hc : IsC G c) (h : i < 12) : isK G m (nd c i) 4 := by
  have := kc hF hc (19 + i) (by omega)
  rw [kC_nd i h, ← Nat.add_assoc] at this
  exact this
theorem klk {G : Cx} {m : Mm} {c i : Nat} (hF : Full G m) (hc : IsC G c) (h : i < 24) : isK G m (lk c i) 2 := by
  have := kc hF hc (31 + i) (by omega)
  rw [kC_lk i h, ← Nat.add_assoc] at this
  exact this
theorem klv {G : Cx} {m : Mm} {c i : Nat} (hF : Full G m) (hc : IsC G c) (h : i < 6) : isK G m (lv c i) 3 := by
  have := kc hF hc (55 + i) (by omega)
  rw [kC_lv i h, ← Nat.add_assoc] at this
  exact this
theorem kht {G : Cx} {m : Mm} {c i : Nat} (hF : Full G m) (hc : IsC G c) (h : i < 8) : isK G m (ht c i) 1 := by
  have := kc hF hc (61 + i) (by omega)
  rw [kC_ht i h, ← Nat.add_assoc] at this
  exact this
theorem rfo_el {j k : Nat} (h : 1125 < 100000 + k) : rfo (100000 + k) j = if kd j = 24 then j + 18 + k else if kd j = 25 then j + 29 + k else if kd j = 26 then j + 52 + k else if kd j = 27 then j + 57 + k else j + 1 + 69 * k := by
  have e : 100000 + k - 100000 = k := by omega
  have n : ∀ n : Nat, n < 100000 → ¬ 100000 + k = n := fun n h => by omega
  have l : ∀ n : Nat, n < 100000 → ¬ 100000 + k < n := fun n h => by omega
  unfold rfo
  rw [if_neg (l _ (by decide)), if_neg (n _ (by decide)), if_neg (n _ (by decide)), if_neg (n _ (by decide)), if_neg (n _ (by decide)), if_neg (n _ (by decide)), if_neg (n _ (by decide)), if_neg (n _ (by decide)), if_neg (n _ (by decide)), if_neg (n _ (by decide)), if_neg (n _ (by decide)), if_neg (n _ (by decide)), if_neg (l _ (by decide)), if_neg (n _ (by decide)), if_neg (n _ (by decide)), if_neg (n _ (by decide)), if_neg (n _ (by decide)), if_neg (n _ (by decide)), if_neg (l _ (by decide)), if_neg (n _ (by decide)), if_neg (n _ (by decide)), if_neg (n _ (by decide)), e]
theorem re_kd {G : Cx} {m : Mm} {a q : Nat} (h : isK G m a q) : kd (a - gB G) = q := by
  obtain ⟨j, rfl, -, hq⟩ := h
  rw [Nat.add_sub_cancel_left]
  exact hq
theorem rnd {G : Cx} {m : Mm} {c k : Nat} (hF : Full G m) (hc : IsC G c) : rr G (100000 + k) (c + 1) = nd c k := by
  have h := kc hF hc 1 (by decide)
  unfold rr
  rw [rfo_el (by omega), re_kd h, if_pos (show kC 1 = 24 from rfl)]
  have := isK_le h
  unfold nd
  omega
theorem rlk {G : Cx} {m : Mm} {c k : Nat} (hF : Full G m) (hc : IsC G c) : rr G (100000 + k) (c + 2) = lk c k := by
  have h := kc hF hc 2 (by decide)
  unfold rr
  rw [rfo_el (by omega), re_kd h, if_neg (show ¬ kC 2 = 24 by decide), if_pos (show kC 2 = 25 from rfl)]
  have := isK_le h
  unfold lk
  omega
theorem rlv {G : Cx} {m : Mm} {c k : Nat} (hF : Full G m) (hc : IsC G c) : rr G (100000 + k) (c + 3) = lv c k := by
  have h := kc hF hc 3 (by decide)
  unfold rr
  rw [rfo_el (by omega), re_kd h, if_neg (show ¬ kC 3 = 24 by decide), if_neg (show ¬ kC 3 = 25 by decide), if_pos (show kC 3 = 26 from rfl)]
  have := isK_le h
  unfold lv
  omega
theorem rht {G : Cx} {m : Mm} {c k : Nat} (hF : Full G m) (hc : IsC G c) : rr G (100000 + k) (c + 4) = ht c k := by
  have h := kc hF hc 4 (by decide)
  unfold rr
  rw [rfo_el (by omega), re_kd h, if_neg (show ¬ kC 4 = 24 by decide), if_neg (show ¬ kC 4 = 25 by decide), if_neg (show ¬ kC 4 = 26 by decide), if_pos (show kC 4 = 27 from rfl)]
  have := isK_le h
  unfold ht
  omega
theorem isC1 (G : Cx) : IsC G (gB G + 1) := Or.inl rfl
theorem isC2 (G : Cx) : IsC G (gB G + 70) := Or.inr (Or.inl rfl)
theorem isC3 (G : Cx) : IsC G (gB G + 140) := Or.inr (Or.inr (Or.inl rfl))
theorem isC4 (G : Cx) : IsC G (gB G + 209) := Or.inr (Or.inr (Or.inr rfl))
theorem isRc {G : Cx} {c : Nat} (hc : IsC G c) : IsR G (c + 10) := Or.inl ⟨c, hc, rfl⟩
theorem isRr (G : Cx) : IsR G (gB G + 281) := Or.inr rfl
def kR (j : Nat) : Nat := if j = 0 then 8 else if j = 8 then 22 else 21
def lnR (j : Nat) : Nat := if j = 1 then 500 else if j = 2 then 500 else if j = 8 then 64 else 12
theorem kR_ok : ∀ j, j < 9 → kC (10 + j) = kR j ∧ kd (281 + j) = kR j ∧ (0 < j → lnC (10 + j) = lnR j ∧ ln (281 + j) = lnR j) := by decide +kernel
theorem kr {G : Cx} {m : Mm} {r : Nat} (hF : Full G m) (hr : IsR G r) (j : Nat) (h : j < 9) : isK G m (r + j) (kR j) := by
  obtain ⟨h1, h2, -⟩ := kR_ok j h
  rcases hr with ⟨c, hc, rfl⟩ | rfl
  · have := kc hF hc (10 + j) (by omega)
    rw [h1, ← Nat.add_assoc] at this
    exact this
  · have := ka hF (281 + j) (by omega)
    rw [h2, ← Nat.add_assoc] at this
    exact this
theorem kr0 {G : Cx} {m : Mm} {r : Nat} (hF : Full G m) (hr : IsR G r) : isK G m r 8 := kr hF hr 0 (by decide)
theorem lr {G : Cx} {r : Nat} (hr : IsR G r) (j : Nat) (h : j < 9) (h0 : 0 < j) : ln (r + j - gB G) = lnR j := by
  obtain ⟨-, -, h3⟩ := kR_ok j h
  rcases hr with ⟨c, hc, rfl⟩ | rfl
  · rw [Nat.add_assoc, lc hc (10 + j) (by omega)]
    exact (h3 h0).1
  · rw [Nat.add_assoc, Nat.add_sub_cancel_left]
    exact (h3 h0).2
-- indices
theorem vlt {i : Int32} {n : Nat} (h : vp_in i n) : i.toNatClampNeg < n := Nat.not_le.mp fun q => h (Or.inr q)
theorem vin {k n : Nat} (h : k < n) (hn : n < 2 ^ 31) : vp_in (nI k) n := nI_in h hn
theorem nIc {k : Nat} (h : k < 2 ^ 31) : (nI k).toNatClampNeg = k := nI_clamp h
-- reads behind writes
section RW
variable {m : Mm} {f g a c j k : Nat}
theorem fi_ne {x : Int32} (h : g ≠ f) : fi (wfi m f a x) g c = fi m g c := if_neg (fun q => h q.1)
theorem fi_na {x : Int32} (h : c ≠ a) : fi (wfi m f a x) g c = fi m g c := if_neg (fun q => h q.2)
theorem fi_eq {x : Int32} : fi (wfi m f a x) f a = x := if_pos ⟨rfl, rfl⟩
theorem fl_ne {x : Int64} (h : g ≠ f) : fl (wfl m f a x) g c = fl m g c := if_neg (fun q => h q.1)
theorem fl_na {x : Int64} (h : c ≠ a) : fl (wfl m f a x) g c = fl m g c := if_neg (fun q => h q.2)
theorem fl_eq {x : Int64} : fl (wfl m f a x) f a = x := if_pos ⟨rfl, rfl⟩
theorem ai_na {x : Int32} (h : c ≠ a) : ai (wai m a k x) c j = ai m c j := if_neg (fun q => h q.1)
theorem ai_nk {x : Int32} (h : j ≠ k) : ai (wai m a k x) c j = ai m c j := if_neg (fun q => h q.2)
theorem ai_eq {x : Int32} : ai (wai m a k x) a k = x := if_pos ⟨rfl, rfl⟩
theorem al_na {x : Int64} (h : c ≠ a) : al (wal m a k x) c j = al m c j := if_neg (fun q => h q.1)
theorem al_nk {x : Int64} (h : j ≠ k) : al (wal m a k x) c j = al m c j := if_neg (fun q => h q.2)
theorem al_eq {x : Int64} : al (wal m a k x) a k = x := if_pos ⟨rfl, rfl⟩
end RW
theorem Full_wfi {G : Cx} {m : Mm} (f a : Nat) (x : Int32) (h : Full G m) : Full G (wfi m f a x) := h
theorem Full_wfl {G : Cx} {m : Mm} (f a : Nat) (x : Int64) (h : Full G m) : Full G (wfl m f a x) := h
theorem Full_wai {G : Cx} {m : Mm} (a k : Nat) (x : Int32) (h : Full G m) : Full G (wai m a k x) := h
theorem Full_wal {G : Cx} {m : Mm} (a k : Nat) (x : Int64) (h : Full G m) : Full G (wal m a k x) := h
theorem Full_waf {G : Cx} {m : Mm} (a : Nat) (f : Nat → Int32) (h : Full G m) : Full G (waf m a f) := h
/-- the cell a is of kind q, once all is made -/
def isA (G : Cx) (a q : Nat) : Prop := ∃ j, a = gB G + j ∧ j < 293 ∧ kd j = q
theorem kA {G : Cx} {m : Mm} {a q : Nat} (hF : Full G m) (h : isA G a q) : isK G m a q := by
  obtain ⟨j, h1, h2, h3⟩ := h
  exact ⟨j, h1, by rw [hF.1]; exact h2, h3⟩
theorem isA_of {G : Cx} {m : Mm} {a q : Nat} (hF : Full G m) (h : isK G m a q) : isA G a q := by
  obtain ⟨j, h1, h2, h3⟩ := h
  exact ⟨j, h1, by rw [hF.1] at h2; exact h2, h3⟩
theorem fi_wfl {m : Mm} {g c f a : Nat} {x : Int64} : fi (wfl m f a x) g c = fi m g c := rfl
theorem fi_wai {m : Mm} {g c f a : Nat} {x : Int32} : fi (wai m f a x) g c = fi m g c := rfl
theorem fi_wal {m : Mm} {g c f a : Nat} {x : Int64} : fi (wal m f a x) g c = fi m g c := rfl
theorem fl_wfi {m : Mm} {g c f a : Nat} {x : Int32} : fl (wfi m f a x) g c = fl m g c := rfl
theorem fl_wai {m : Mm} {g c f a : Nat} {x : Int32} : fl (wai m f a x) g c = fl m g c := rfl
theorem fl_wal {m : Mm} {g c f a : Nat} {x : Int64} : fl (wal m f a x) g c = fl m g c := rfl
theorem ai_wfi {m : Mm} {g c f a : Nat} {x : Int32} : ai (wfi m f a x) g c = ai m g c := rfl
theorem ai_wfl {m : Mm} {g c f a : Nat} {x : Int64} : ai (wfl m f a x) g c = ai m g c := rfl
theorem ai_wal {m : Mm} {g c f a : Nat} {x : Int64} : ai (wal m f a x) g c = ai m g c := rfl
theorem al_wfi {m : Mm} {g c f a : Nat} {x : Int32} : al (wfi m f a x) g c = al m g c := rfl
theorem al_wfl {m : Mm} {g c f a : Nat} {x : Int64} : al (wfl m f a x) g c = al m g c := rfl
theorem al_wai {m : Mm} {g c f a : Nat} {x : Int32} : al (wai m f a x) g c = al m g c := rfl
-- numbers
theorem nadd {a b c : Nat} (h : a + b = c) : nI a + nI b = nI c := by
  subst h
  exact (Int32.ofNat_add a b).symm
theorem nmul {a b c : Nat} (h : a * b = c) : nI a * nI b = nI c := by
  subst h
  exact (Int32.ofNat_mul a b).symm
theorem nlt {a b : Nat} (h : nI a < nI b) (ha : a < 2 ^ 31) (hb : b < 2 ^ 31) : a < b := by
  rcases Nat.lt_or_ge a b with q | q
  · exact q
  · exact absurd h (nI_nlt q ha)
theorem nlt_ {a b : Nat} (h : a < b) (hb : b < 2 ^ 31) : nI a < nI b := nI_lt h hb
theorem nnlt {a b : Nat} (h : b ≤ a) (ha : a < 2 ^ 31) : ¬ nI a < nI b := nI_nlt h ha
theorem neq {a b : Nat} (h : nI a = nI b) (ha : a < 2 ^ 31) (hb : b < 2 ^ 31) : a = b := by
  have := congrArg Int32.toNatClampNeg h
  rwa [nIc ha, nIc hb] at this
theorem vinl {i : Int32} {n : Nat} (h : ¬ (i < 0 ∨ n ≤ i.toNatClampNeg)) : vp_in i n := h
theorem narz {x : Int32} (h : x = 0 ∨ x = 1) : narrow .boolean (.int x) = .int x := by rcases h with rfl | rfl <;> rfl
theorem rsv {G : Cx} {m : Mm} (i : Int32) (hF : Full G m) (h : i = 0 ∨ i = 1) : rr G (100000 + i.toNatClampNeg) (gB G + 139) = gB G + (140 + 69 * i.toNatClampNeg) := by
  unfold rr
  rw [Nat.add_sub_cancel_left, rfo_el (by omega)]
  rcases h with rfl | rfl <;> rfl
section VROWS
variable {G : Cx} {d : Nat} {b : Nat × Nat} {μ : MI} {pc : Nat} {L S : List Value} {m : Mm} {Q : Option Value → Mm → Prop}
theorem wp_iaddv {x y : Int32} (v : Int32) (hd : decode μ.2.1 pc = .ok (.iadd, 1)) (hv : x + y = v) (k : WP G d b μ (pc + 1) L (.int v :: S) m Q) : WP G d b μ pc L (.int y :: .int x :: S) m Q := wp_iadd hd (by rw [hv]; exact k)
theorem wp_isubv {x y : Int32} (v : Int32) (hd : decode μ.2.1 pc = .ok (.isub, 1)) (hv : x - y = v) (k : WP G d b μ (pc + 1) L (.int v :: S) m Q) : WP G d b μ pc L (.int y :: .int x :: S) m Q := wp_isub hd (by rw [hv]; exact k)
theorem wp_imulv {x y : Int32} (v : Int32) (hd : decode μ.2.1 pc = .ok (.imul, 1)) (hv : x * y = v) (k : WP G d b μ (pc + 1) L (.int v :: S) m Q) : WP G d b μ pc L (.int y :: .int x :: S) m Q := wp_imul hd (by rw [hv]; exact k)
end VROWS
theorem pX0 : plainName RX0 = true := by decide +kernel
theorem pX1 : plainName RX1 = true := by decide +kernel
theorem pX2 : plainName RX2 = true := by decide +kernel
theorem pX3 : plainName RX3 = true := by decide +kernel
theorem pX4 : plainName RX4 = true := by decide +kernel
theorem pX5 : plainName RX5 = true := by decide +kernel
theorem pX6 : plainName RX6 = true := by decide +kernel
theorem pX7 : plainName RX7 = true := by decide +kernel
theorem pX8 : plainName RX8 = true := by decide +kernel
theorem pX9 : plainName RX9 = true := by decide +kernel
theorem pX10 : plainName RX10 = true := by decide +kernel
theorem pL : plainName RL = true := by decide +kernel
section KROWS
variable {G : Cx} {d : Nat} {b : Nat × Nat} {μ : MI} {pc : Nat} {L S : List Value} {m : Mm} {Q : Option Value → Mm → Prop}
theorem wp_ialdk {a : Nat} {i : Int32} (kx : Nat) (v : Int32) {n : Nat} (hd : decode μ.2.1 pc = .ok (.iaload, 1)) (hk : isK G m a 21) (hl : ln (a - gB G) = n) (hin : vp_in i n) (hx : i.toNatClampNeg = kx) (hv : ai m a kx = v) (kk : WP G d b μ (pc + 1) L (.int v :: S) m Q) : WP G d b μ pc L (.int i :: .ref a :: S) m Q := wp_iald v hd hk hl hin (by rw [hx]; exact hv) kk
theorem wp_baldk {a : Nat} {i : Int32} (kx : Nat) (v : Int32) {n : Nat} (hd : decode μ.2.1 pc = .ok (.baload, 1)) (hk : isK G m a 20) (hl : ln (a - gB G) = n) (hin : vp_in i n) (hx : i.toNatClampNeg = kx) (hv : ai m a kx = v) (kk : WP G d b μ (pc + 1) L (.int v :: S) m Q) : WP G d b μ pc L (.int i :: .ref a :: S) m Q := wp_bald v hd hk hl hin (by rw [hx]; exact hv) kk
theorem wp_zaldk {a : Nat} {i : Int32} (kx : Nat) (v : Int32) {n : Nat} (hd : decode μ.2.1 pc = .ok (.baload, 1)) (hk : isK G m a 23) (hl : ln (a - gB G) = n) (hin : vp_in i n) (hx : i.toNatClampNeg = kx) (hv : ai m a kx = v) (kk : WP G d b μ (pc + 1) L (.int v :: S) m Q) : WP G d b μ pc L (.int i :: .ref a :: S) m Q := wp_zald v hd hk hl hin (by rw [hx]; exact hv) kk
theorem wp_laldk {a : Nat} {i : Int32} (kx : Nat) (v : Int64) {n : Nat} (hd : decode μ.2.1 pc = .ok (.laload, 1)) (hk : isK G m a 22) (hl : ln (a - gB G) = n) (hin : vp_in i n) (hx : i.toNatClampNeg = kx) (hv : al m a kx = v) (kk : WP G d b μ (pc + 1) L (.long v :: S) m Q) : WP G d b μ pc L (.int i :: .ref a :: S) m Q := wp_lald v hd hk hl hin (by rw [hx]; exact hv) kk
theorem wp_raldk {a q : Nat} {i : Int32} (kx v : Nat) {n : Nat} (hd : decode μ.2.1 pc = .ok (.aaload, 1)) (hk : isK G m a q) (hq1 : 24 ≤ q) (hq2 : q < 29) (hl : ln (a - gB G) = n) (hin : vp_in i n) (hx : i.toNatClampNeg = kx) (hi : mI m (100000 + kx) a = true) (hv : rr G (100000 + kx) a = v) (kk : WP G d b μ (pc + 1) L (.ref v :: S) m Q) : WP G d b μ pc L (.int i :: .ref a :: S) m Q := wp_rald v hd hk hq1 hq2 hl hin (by rw [hx]; exact hi) (by rw [hx]; exact hv) kk
theorem wp_iastk {a : Nat} {i : Int32} {x : Int32} (kx : Nat) {n : Nat} (hd : decode μ.2.1 pc = .ok (.iastore, 1)) (hk : isK G m a 21) (hl : ln (a - gB G) = n) (hin : vp_in i n) (hx : i.toNatClampNeg = kx) (kk : WP G d b μ (pc + 1) L S (wai m a kx x) Q) : WP G d b μ pc L (.int x :: .int i :: .ref a :: S) m Q := wp_iast hd hk hl hin (by rw [hx]; exact kk)
theorem wp_bastk {a : Nat} {i : Int32} {x : Int32} (kx : Nat) {n : Nat} (hd : decode μ.2.1 pc = .ok (.bastore, 1)) (hk : isK G m a 20) (hl : ln (a - gB G) = n) (hin : vp_in i n) (hx : i.toNatClampNeg = kx) (kk : WP G d b μ (pc + 1) L S (wai m a kx x.toInt8.toInt32) Q) : WP G d b μ pc L (.int x :: .int i :: .ref a :: S) m Q := wp_bast hd hk hl hin (by rw [hx]; exact kk)
theorem wp_zastk {a : Nat} {i : Int32} {x : Int32} (kx : Nat) {n : Nat} (hd : decode μ.2.1 pc = .ok (.bastore, 1)) (hk : isK G m a 23) (hl : ln (a - gB G) = n) (hin : vp_in i n) (hx01 : x = 0 ∨ x = 1) (hx : i.toNatClampNeg = kx) (kk : WP G d b μ (pc + 1) L S (wai m a kx x) Q) : WP G d b μ pc L (.int x :: .int i :: .ref a :: S) m Q := wp_zast hd hk hl hin hx01 (by rw [hx]; exact kk)
theorem wp_lastk {a : Nat} {i : Int32} {x : Int64} (kx : Nat) {n : Nat} (hd : decode μ.2.1 pc = .ok (.lastore, 1)) (hk : isK G m a 22) (hl : ln (a - gB G) = n) (hin : vp_in i n) (hx : i.toNatClampNeg = kx) (kk : WP G d b μ (pc + 1) L S (wal m a kx x) Q) : WP G d b μ pc L (.long x :: .int i :: .ref a :: S) m Q := wp_last hd hk hl hin (by rw [hx]; exact kk)
end KROWS
/-- what is not read again may be forgotten -/
def lvLe : List Value → List Value → Prop
  | [], [] => True
  | v :: a, w :: b => (w = v ∨ isU w = true) ∧ lvLe a b
  | _, _ => False
theorem lvLe_get : ∀ (L L' : List Value), lvLe L L' → ∀ (i : Nat) (v : Value), L'[i]? = some v → isU v = false → L[i]? = some v
  | [], [], _, i, v, h, _ => by simp at h
  | [], _ :: _, h, _, _, _, _ => h.elim
  | _ :: _, [], h, _, _, _, _ => h.elim
  | x :: a, w :: b, ⟨h1, h2⟩, i, v, h, hv => by
    cases i with
    | zero =>
      rw [List.getElem?_cons_zero] at h ⊢
      cases h
      rcases h1 with h1 | h1
      · rw [h1]
      · rw [h1] at hv
        cases hv
    | succ i =>
      rw [List.getElem?_cons_succ] at h ⊢
      exact lvLe_get a b h2 i v h hv
theorem wp_forget {G : Cx} {d : Nat} {b : Nat × Nat} {μ : MI} {pc : Nat} {L S : List Value} {m : Mm} {Q : Option Value → Mm → Prop} (L' : List Value) (h : lvLe L L') (k : WP G d b μ pc L' S m Q) : WP G d b μ pc L S m Q := by
  intro p e R s mi args below meth c H locs cells slots ls F hR hS hL
  refine k p e R s mi args below meth c H locs cells slots ls F hR hS (lv_weak hL ?_)
  rintro ⟨i, v⟩ hq
  obtain ⟨-, hg, hv⟩ := (ascF_mem _ 0 i v).mp hq
  exact (ascF_mem _ 0 i v).mpr ⟨Nat.zero_le _, lvLe_get L L' h _ v hg hv, hv⟩
/-- nothing outside of A has changed -/
def Out (A : Nat → Prop) (m' m : Mm) : Prop := mN m' = mN m ∧ mI m' = mI m ∧ ∀ a, ¬ A a → (∀ f, fi m' f a = fi m f a) ∧ (∀ f, fl m' f a = fl m f a) ∧ (∀ k, ai m' a k = ai m a k) ∧ ∀ k, al m' a k = al m a k
theorem Out.rf {A : Nat → Prop} {m : Mm} : Out A m m := ⟨rfl, rfl, fun _ _ => ⟨fun _ => rfl, fun _ => rfl, fun _ => rfl, fun _ => rfl⟩⟩
theorem Out.tr {A : Nat → Prop} {m m1 m2 : Mm} (h1 : Out A m2 m1) (h2 : Out A m1 m) : Out A m2 m := by
  obtain ⟨a1, a2, a3⟩ := h1
  obtain ⟨b1, b2, b3⟩ := h2
  refine ⟨a1.trans b1, a2.trans b2, fun a ha => ?_⟩
  obtain ⟨c1, c2, c3, c4⟩ := a3 a ha
  obtain ⟨d1, d2, d3, d4⟩ := b3 a ha
  exact ⟨fun f => (c1 f).trans (d1 f), fun f => (c2 f).trans (d2 f), fun f => (c3 f).trans (d3 f), fun f => (c4 f).trans (d4 f)⟩
theorem Out.mono {A B : Nat → Prop} {m m1 : Mm} (h : Out A m1 m) (hAB : ∀ a, A a → B a) : Out B m1 m := ⟨h.1, h.2.1, fun a ha => h.2.2 a (fun q => ha (hAB a q))⟩
theorem Out.wfi {A : Nat → Prop} {m m0 : Mm} {f a : Nat} {x : Int32} (h : Out A m m0) (ha : A a) : Out A (wfi m f a x) m0 := by
  refine Out.tr (m1 := m) ⟨rfl, rfl, fun c hc => ⟨fun g => fi_na (fun q => hc (q ▸ ha)), fun _ => rfl, fun _ => rfl, fun _ => rfl⟩⟩ h
theorem Out.wfl {A : Nat → Prop} {m m0 : Mm} {f a : Nat} {x : Int64} (h : Out A m m0) (ha : A a) : Out A (wfl m f a x) m0 := by
  refine Out.tr (m1 := m) ⟨rfl, rfl, fun c hc => ⟨fun _ => rfl, fun g => fl_na (fun q => hc (q ▸ ha)), fun _ => rfl, fun _ => rfl⟩⟩ h
theorem Out.wai {A : Nat → Prop} {m m0 : Mm} {k a : Nat} {x : Int32} (h : Out A m m0) (ha : A a) : Out A (wai m a k x) m0 := by
  refine Out.tr (m1 := m) ⟨rfl, rfl, fun c hc => ⟨fun _ => rfl, fun _ => rfl, fun j => ai_na (fun q => hc (q ▸ ha)), fun _ => rfl⟩⟩ h
theorem Out.wal {A : Nat → Prop} {m m0 : Mm} {k a : Nat} {x : Int64} (h : Out A m m0) (ha : A a) : Out A (wal m a k x) m0 := by
  refine Out.tr (m1 := m) ⟨rfl, rfl, fun c hc => ⟨fun _ => rfl, fun _ => rfl, fun _ => rfl, fun j => al_na (fun q => hc (q ▸ ha))⟩⟩ h
theorem Out.full {G : Cx} {A : Nat → Prop} {m m1 : Mm} (h : Out A m1 m) (hF : Full G m) : Full G m1 := ⟨h.1.trans hF.1, fun f a => by rw [h.2.1]; exact hF.2 f a⟩
theorem ai_wai_upd {m : Mm} {a k : Nat} {x : Int32} : ai (wai m a k x) a = upd (ai m a) k x := by
  funext j
  by_cases h : j = k
  · subst h
    rw [ai_eq]
    simp [upd]
  · rw [ai_nk h]
    simp [upd, h]
theorem al_wal_upd {m : Mm} {a k : Nat} {x : Int64} : al (wal m a k x) a = vp_updL (al m a) k x := by
  funext j
  by_cases h : j = k
  · subst h
    rw [al_eq]
    simp [vp_updL]
  · rw [al_nk h]
    simp [vp_updL, h]
theorem wp_tableD {G : Cx} {d : Nat} {b : Nat × Nat} {μ : MI} {pc : Nat} {L S : List Value} {m : Mm} {Q : Option Value → Mm → Prop} {x : Int32} {dflt lo hi : Int} {offs : Array Int} {len : Nat} {js : List Int32} (t : Nat) (hd : decode μ.2.1 pc = .ok (.tableswitch dflt lo hi offs, len)) (hn : ∀ j ∈ js, ¬ x = j)
    (hchk : (List.range offs.size).all (fun k => decide (offs[k]? = some dflt) || js.any (fun j => decide (j.toInt = lo + (k : Int)))) = true) (hsz : (offs.size : Int) = hi - lo + 1) (ht : (pc : Int) + dflt = (t : Int)) (k : WP G d b μ t L S m Q) : WP G d b μ pc L (.int x :: S) m Q := by
  by_cases h1 : x.toInt < lo
  · exact wp_tableOut t hd (Or.inl h1) ht k
  by_cases h2 : hi < x.toInt
  · exact wp_tableOut t hd (Or.inr h2) ht k
  have hi' : (x.toInt - lo).toNat < offs.size := by omega
  have := List.all_eq_true.mp hchk _ (List.mem_range.mpr hi')
  rw [Bool.or_eq_true] at this
  rcases this with h | h
  · exact wp_tableIn (off := dflt) t hd h1 h2 (of_decide_eq_true h) ht k
  · obtain ⟨j, hj, hjx⟩ := List.any_eq_true.mp h
    have e := of_decide_eq_true hjx
    refine absurd ?_ (hn j hj)
    apply Int32.toInt_inj.mp
    omega
theorem nsub {a b c : Nat} (h : c + b = a) : nI a - nI b = nI c := by
  rw [← nadd h, Int32.add_sub_cancel]
theorem ndec {a c : Nat} (h : c + 1 = a) : nI a + Int32.ofInt (-1) = nI c := by
  rw [← nadd h]
  show nI c + (1 : Int32) + (-1 : Int32) = nI c
  rw [Int32.add_assoc]
  show nI c + (0 : Int32) = nI c
  rw [Int32.add_zero]
