/-! CONTRACT: put -/
theorem or_nI (a b : Nat) : nI a ||| nI b = nI (a ||| b) := by
  apply Int32.toBitVec_inj.1
  show BitVec.ofNat 32 a ||| BitVec.ofNat 32 b = BitVec.ofNat 32 (a ||| b)
  apply BitVec.eq_of_getLsbD_eq
  intro i hi
  simp [hi]
theorem sh_or {a c : Nat} (hc : c < 256) (ha : a * 256 < 2 ^ 32) : (nI a <<< ((8 : Int32) &&& 31)) ||| nI c = nI (a * 256 + c) := by
  have e : nI a <<< ((8 : Int32) &&& 31) = nI (a * 2 ^ 8) := pk_shlN _ 8 (by decide) (by omega)
  rw [e, or_nI, Nat.mul_comm a, ← Nat.two_pow_add_eq_or_of_lt (show c < 2 ^ 8 by omega)]
theorem byt_n {n : Nat} (h : n < 2 ^ 31) : byt (nI n) = n % 256 := by
  show (BitVec.ofNat 32 n &&& 255#32).toNat = n % 256
  rw [BitVec.toNat_and, BitVec.toNat_ofNat, Nat.mod_eq_of_lt (show n < 2 ^ 32 by omega)]
  show n &&& 255 = n % 256
  exact Nat.and_two_pow_sub_one_eq_mod n 8
def wv (t : List Nat) (k : Nat) : Nat → Nat
  | 0 => 0
  | i + 1 => wv t k i * 256 + t.getD (k + i) 0
theorem app4_v {t : List Nat} {k : Nat} (hb : ∀ j, t.getD j 0 < 128) (T : List Nat) : app4 T (nI (wv t k 4)) = T ++ [t.getD (k + 0) 0, t.getD (k + 1) 0, t.getD (k + 2) 0, t.getD (k + 3) 0] := by
  have h0 := hb (k + 0)
  have h1 := hb (k + 1)
  have h2 := hb (k + 2)
  have h3 := hb (k + 3)
  have e : wv t k 4 = ((t.getD (k + 0) 0 * 256 + t.getD (k + 1) 0) * 256 + t.getD (k + 2) 0) * 256 + t.getD (k + 3) 0 := by
    show ((((0 * 256 + t.getD (k + 0) 0) * 256 + t.getD (k + 1) 0) * 256 + t.getD (k + 2) 0) * 256 + t.getD (k + 3) 0) = _
    rw [Nat.zero_mul, Nat.zero_add]
  rw [e]
  generalize t.getD (k + 0) 0 = c0 at *
  generalize t.getD (k + 1) 0 = c1 at *
  generalize t.getD (k + 2) 0 = c2 at *
  generalize t.getD (k + 3) 0 = c3 at *
  have hN : ((c0 * 256 + c1) * 256 + c2) * 256 + c3 < 2 ^ 31 := by omega
  unfold app4
  rw [pk_shrN hN _ 24 (by decide), pk_shrN hN _ 16 (by decide), pk_shrN hN _ 8 (by decide), pk_shrN hN _ 0 (by decide)]
  rw [byt_n (by omega), byt_n (by omega), byt_n (by omega), byt_n (by omega)]
  have e0 : (((c0 * 256 + c1) * 256 + c2) * 256 + c3) / 2 ^ 24 % 256 = c0 := by omega
  have e1 : (((c0 * 256 + c1) * 256 + c2) * 256 + c3) / 2 ^ 16 % 256 = c1 := by omega
  have e2 : (((c0 * 256 + c1) * 256 + c2) * 256 + c3) / 2 ^ 8 % 256 = c2 := by omega
  have e3 : (((c0 * 256 + c1) * 256 + c2) * 256 + c3) / 2 ^ 0 % 256 = c3 := by omega
  rw [e0, e1, e2, e3]
  simp only [List.append_assoc, List.cons_append, List.nil_append]
/-- T's letters are t's, with 0 behind them -/
def Pfx (t T : List Nat) : Prop := ∀ j, j < T.length → T.getD j 0 = t.getD j 0
theorem Pfx.app {t T : List Nat} (h : Pfx t T) : Pfx t (T ++ [t.getD (T.length + 0) 0, t.getD (T.length + 1) 0, t.getD (T.length + 2) 0, t.getD (T.length + 3) 0]) := by
  intro j hj
  rw [List.length_append] at hj
  have hj4 : j < T.length + 4 := hj
  by_cases c : j < T.length
  · rw [List.getD_eq_getElem?_getD, List.getElem?_append_left c, ← List.getD_eq_getElem?_getD]
    exact h j c
  · obtain ⟨q, rfl⟩ : ∃ q, j = T.length + q := ⟨j - T.length, by omega⟩
    rw [List.getD_eq_getElem?_getD, List.getElem?_append_right (by omega), Nat.add_sub_cancel_left, ← List.getD_eq_getElem?_getD]
    have : q = 0 ∨ q = 1 ∨ q = 2 ∨ q = 3 := by omega
    rcases this with e | e | e | e <;> subst e <;> rfl
theorem Pfx.take {t T : List Nat} (h : Pfx t T) (hl : t.length ≤ T.length) : T.take t.length = t := by
  apply List.ext_getElem?
  intro j
  by_cases c : j < t.length
  · rw [List.getElem?_take_of_lt c]
    have e := h j (by omega)
    rw [List.getD_eq_getElem?_getD, List.getD_eq_getElem?_getD, List.getElem?_eq_getElem (by omega), List.getElem?_eq_getElem c] at e
    rw [List.getElem?_eq_getElem (by omega), List.getElem?_eq_getElem c]
    exact congrArg some e
  · rw [List.getElem?_eq_none (by rw [List.length_take]; omega), List.getElem?_eq_none (by omega)]
theorem wvb3 {a b c : Nat} (ha : a < 128) (hb : b < 128) (hc : c < 128) : (0 * 256 + a) * 256 < 2 ^ 32 ∧ ((0 * 256 + a) * 256 + b) * 256 < 2 ^ 32 ∧ (((0 * 256 + a) * 256 + b) * 256 + c) * 256 < 2 ^ 32 := by omega
theorem w_put {G : Cx} {d : Nat} {Λ : Lc} {X : Lx} {ext : va_W} {m : Mm} {A : Ab} {ce : List (Nat × Mm)} {Q : Option Value → LM → Prop} {a v : Nat} {t : List Nat} (hC : CIv (atC G (lB Λ) false) m A) (ht : TxP G (lws G Λ X ext) a v t) (hQ : ∀ m', CIv (atC G (lB Λ) false) m' (A.1, A.2.1, t, aE A, aP A) → Q none (lm G Λ X ext m' ce)) : WZM G (d + 20) (0, 0) μL_put [.ref (gB G), .ref a] (lm G Λ X ext m ce) Q := by
  have hlt := ht.2.1
  have hb := fun j => ht.lb j
  refine pu_0 hC ht (fun m1 c1 => ?_)
  have outer : ∀ (r k : Nat) (T : List Nat) (m : Mm), t.length ≤ k + 4 * r → k ≤ 4 * (25 - r) → T.length = k → Pfx t T → CIv (atC G (lB Λ) false) m (A.1, A.2.1, T, aE A, aP A) → r ≤ 25 → WZ G (d + 20) (0, 0) μL_put 11 [.ref (gB G), .ref a, .int (nI k), lvU, lvU] [] (lm G Λ X ext m ce) Q := by
    intro r
    induction r with
    | zero =>
      intro k T m h1 h2 hT hp hc hr
      refine pu_1 (A := (A.1, A.2.1, T, aE A, aP A)) hc ht (by omega) (fun _ => by show t.length ≤ T.length; omega) (fun _ m3 c3 => hQ m3 ?_) (fun z => absurd z (by omega))
      have e := hp.take (by omega)
      have c3' : CIv (atC G (lB Λ) false) m3 (A.1, A.2.1, T.take t.length, aE A, aP A) := c3
      rw [e] at c3'
      exact c3'
    | succ r ih =>
      intro k T m h1 h2 hT hp hc hr
      refine pu_1 (A := (A.1, A.2.1, T, aE A, aP A)) hc ht (by omega) (fun _ => by show t.length ≤ T.length; omega) (fun _ m3 c3 => hQ m3 ?_) (fun hk => ?_)
      · have e := hp.take (by omega)
        have c3' : CIv (atC G (lB Λ) false) m3 (A.1, A.2.1, T.take t.length, aE A, aP A) := c3
        rw [e] at c3'
        exact c3'
      · have inner : ∀ (q i : Nat), i + q = 4 → WZ G (d + 20) (0, 0) μL_put 24 [.ref (gB G), .ref a, .int (nI k), .int (nI (wv t k i)), .int (nI i)] [] (lm G Λ X ext m ce) Q := by
          intro q
          induction q with
          | zero =>
            intro i hi
            have e4 : i = 4 := by omega
            subst e4
            refine pu_2 (A := (A.1, A.2.1, T, aE A, aP A)) hc ht (by omega) (by omega) (by show T.length + 4 ≤ 500; omega) (fun _ m3 c3 => ?_) (fun z => absurd z (by omega)) (fun z => absurd z (by omega))
            have c3' : CIv (atC G (lB Λ) false) m3 (A.1, A.2.1, app4 T (nI (wv t k 4)), aE A, aP A) := c3
            rw [app4_v hb, ← hT] at c3'
            refine ih (k + 4) _ m3 (by omega) (by omega) ?_ hp.app c3' (by omega)
            rw [List.length_append, hT]
            rfl
          | succ q ihq =>
            intro i hi
            have n := ihq (i + 1) (by omega)
            have hwb : wv t k i * 256 < 2 ^ 32 := by
              have hi3 : i = 0 ∨ i = 1 ∨ i = 2 ∨ i = 3 := by omega
              have b0 := hb (k + 0)
              have b1 := hb (k + 1)
              have b2 := hb (k + 2)
              rcases hi3 with e | e | e | e <;> subst e
              · rw [show wv t k 0 = 0 from rfl, Nat.zero_mul]
                exact Nat.two_pow_pos 32
              · exact (wvb3 b0 b1 b2).1
              · exact (wvb3 b0 b1 b2).2.1
              · exact (wvb3 b0 b1 b2).2.2
            have hs : wv t k (i + 1) = wv t k i * 256 + t.getD (k + i) 0 := rfl
            have hbi := hb (k + i)
            refine pu_2 (A := (A.1, A.2.1, T, aE A, aP A)) hc ht (by omega) (by omega) (by show T.length + 4 ≤ 500; omega) (fun z => absurd (show i < 4 by omega) z) (fun _ hout => ?_) (fun _ hin => ?_)
            · have z : t.getD (k + i) 0 = 0 := by
                rw [List.getD_eq_getElem?_getD, List.getElem?_eq_none (by omega)]
                rfl
              have e := sh_or (a := wv t k i) (c := 0) (by omega) hwb
              rw [hs, z] at n
              have e' : (nI (wv t k i) <<< ((8 : Int32) &&& 31)) ||| (0 : Int32) = nI (wv t k i * 256 + 0) := e
              rw [e']
              exact n
            · rw [(by_ok1 _ hbi).2.2, sh_or (by omega) hwb, ← hs]
              exact n
        exact inner 4 0 (by omega)
  refine outer 25 0 [] m1 (by omega) (by omega) rfl (fun j hj => absurd hj (Nat.not_lt_zero _)) ?_ (by omega)
  have c1' : CIv (atC G (lB Λ) false) m1 (A.1, A.2.1, (aT A).take 0, aE A, aP A) := c1
  rw [List.take_zero] at c1'
  exact c1'
