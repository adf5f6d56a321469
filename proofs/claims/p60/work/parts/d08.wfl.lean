/-! CONTRACT: flies -/
theorem WZ.mono {G : Cx} {d : Nat} {b b' : Nat × Nat} {μ : MI} {pc : Nat} {L S : List Value} {M : LM} {Q : Option Value → LM → Prop} (h1 : b.1 ≤ b'.1) (h2 : b.2 ≤ b'.2) (h : WZ G d b μ pc L S M Q) : WZ G d b' μ pc L S M Q := by
  intro p e R s mi args below meth c H locs cells slots ls F hR hS hL
  have hF : Fx G d b μ p R s mi args meth c (cells + (b'.1 - b.1)) (slots + (b'.2 - b.2)) := by
    obtain ⟨a1, a2, a3, a4, a5, a6, a7, a8, ⟨r1, r2, r3, r4⟩, a10⟩ := F
    exact ⟨a1, a2, a3, a4, a5, a6, a7, ⟨a8.1, Or.inr hR.1⟩, ⟨r1, r2, by omega, by omega⟩, a10⟩
  have key := h p e R s mi args below meth c H locs (cells + (b'.1 - b.1)) (slots + (b'.2 - b.2)) ls hF hR hS hL
  rw [show cells + (b'.1 - b.1) + b.1 = cells + b'.1 by omega, show slots + (b'.2 - b.2) + b.2 = slots + b'.2 by omega] at key
  exact W.widen (k := cells + (b'.1 - b.1)) (n := slots + (b'.2 - b.2)) (by omega) (by omega) key
theorem it_ok {X : Lx} {s : Sc} (hg : GdT 100000000 s) (hJ : LJ s) (hX : LX s X) : ∀ k : Nat, (sS s 0).toInt + 60 * (k : Int) ≤ 100000000 → GdT 100000000 (it s k) ∧ LJ (it s k) ∧ LX (it s k) X ∧ (sS (it s k) 0).toInt ≤ (sS s 0).toInt + 60 * (k : Int)
  | 0, _ => ⟨hg, hJ, hX, by show (sS s 0).toInt ≤ _; omega⟩
  | k + 1, hT => by
    obtain ⟨a1, a2, a3, a4⟩ := it_ok hg hJ hX k (by omega)
    have st := a1.g.2.1.2
    have tm := sp_tm a1
    exact ⟨gd_it (s := it s k) (i := 1) a1 (by omega) (by omega), LJ_sp a1 a2, LX_sp a1 a2.2.2.2.2 a3, by show (sS (sp (it s k)) 0).toInt ≤ _; omega⟩
theorem rrF_27 {st : Nat → Int32} : ∀ j i, i < j → rrF st j (11 * i + 27) = st (11 * i + 21) ∧ rrF st j (11 * i + 28) = st (11 * i + 21)
  | 0, i, h => by omega
  | j + 1, i, h => by
    rw [rrF_s]
    by_cases e : i = j
    · subst e
      refine ⟨?_, ?_⟩
      · rw [upd_ne (by omega), upd_ne (by omega), upd_ne (by omega), upd_eq]
      · rw [upd_ne (by omega), upd_ne (by omega), upd_eq]
    · obtain ⟨a, b⟩ := rrF_27 (st := st) j i (by omega)
      refine ⟨?_, ?_⟩
      · rw [upd_ne (by omega), upd_ne (by omega), upd_ne (by omega), upd_ne (by omega)]
        exact a
      · rw [upd_ne (by omega), upd_ne (by omega), upd_ne (by omega), upd_ne (by omega)]
        exact b
section WFL
variable {G : Cx} {d : Nat} {Λ : Lc} {X X' : Lx} {ext : va_W} {m m' : Mm} {A : Ab} {Q : Option Value → LM → Prop} {T : Int}
theorem LG.it {k : Nat} (h : LG G Λ T X m A) (hT : T + 60 * (k : Int) ≤ 100000000) (hC : CIv (atC G (lB Λ) false) m' (it (aS A) k, A.2)) : LG G Λ (T + 60 * (k : Int)) X m' (it (aS A) k, A.2) := by
  obtain ⟨h1, h2, h3, h4, h5⟩ := h
  obtain ⟨a1, a2, a3, a4⟩ := it_ok h1.gd h2 h3 k (by omega)
  refine ⟨hC, a2, a3, ?_, by show (sS (CLouvreCraftLaw_law_r3874_132e59.it (aS A) k) 0).toInt ≤ _; omega⟩
  show 1 ≤ sN (CLouvreCraftLaw_law_r3874_132e59.it (aS A) k)
  have e : sN (CLouvreCraftLaw_law_r3874_132e59.it (aS A) k) = sN (aS A) := by
    unfold sN
    rw [it_n]
  rw [e]
  exact h4
theorem LG.rr (h : LG G Λ T X m A) (hC : CIv (atC G (lB Λ) false) m' (((rrS (sS (aS A)) (sN (aS A)), rrE (sE (aS A)), (aS A).2.2), (A).2) : Ab)) : LG G Λ T X m' (((rrS (sS (aS A)) (sN (aS A)), rrE (sE (aS A)), (aS A).2.2), (A).2) : Ab) := by
  obtain ⟨h1, h2, h3, h4, h5⟩ := h
  have n12 := h1.gd.n12
  have t0 := h1.gd.g.1.1
  obtain ⟨j1, j2, ⟨j3, j4, j5⟩, j6, j7⟩ := h2
  have e : ∀ q, q < 16 ∨ (18 ≤ q ∧ q < 20) ∨ 152 ≤ q → rrS (sS (aS A)) (sN (aS A)) q = sS (aS A) q := fun q hq => rrS_ne n12 hq
  have en : ∀ i j, j < 7 → rrS (sS (aS A)) (sN (aS A)) (11 * i + 20 + j) = sS (aS A) (11 * i + 20 + j) := fun i j hj => rrS_n hj
  refine ⟨hC, ⟨fun i hi => ?_, fun i hi => ?_, ⟨?_, ?_, ?_⟩, ?_, j7⟩, ⟨fun i hi => ?_, fun i hi => ?_⟩, h4, ?_⟩
  · have hi' : i < sN (aS A) := hi
    have ji := j1 i hi
    show rg (rrS (sS (aS A)) (sN (aS A)) (11 * i + 22)) 0 10000 ∧ rg (rrS (sS (aS A)) (sN (aS A)) (11 * i + 23)) 0 10000 ∧ rg (rrS (sS (aS A)) (sN (aS A)) (11 * i + 24)) 0 1000000 ∧ rg (rrS (sS (aS A)) (sN (aS A)) (11 * i + 25)) (-200000) 200000 ∧ rg (rrS (sS (aS A)) (sN (aS A)) (11 * i + 26)) (-200000) 200000 ∧ (rrS (sS (aS A)) (sN (aS A)) (11 * i + 30) = -1 ∨ rg (rrS (sS (aS A)) (sN (aS A)) (11 * i + 30)) 0 (rrS (sS (aS A)) (sN (aS A)) 0).toInt)
    rw [show rrS (sS (aS A)) (sN (aS A)) (11 * i + 22) = sS (aS A) (11 * i + 22) from en i 2 (by omega), show rrS (sS (aS A)) (sN (aS A)) (11 * i + 23) = sS (aS A) (11 * i + 23) from en i 3 (by omega), show rrS (sS (aS A)) (sN (aS A)) (11 * i + 24) = sS (aS A) (11 * i + 24) from en i 4 (by omega), show rrS (sS (aS A)) (sN (aS A)) (11 * i + 25) = sS (aS A) (11 * i + 25) from en i 5 (by omega), show rrS (sS (aS A)) (sN (aS A)) (11 * i + 26) = sS (aS A) (11 * i + 26) from en i 6 (by omega)]
    exact ⟨ji.1, ji.2.1, ji.2.2.1, ji.2.2.2.1, ji.2.2.2.2.1, Or.inl (rrF_z _ i hi').2⟩
  · show rg (rrS (sS (aS A)) (sN (aS A)) (7 * i + 297)) 0 10000 ∧ rg (rrS (sS (aS A)) (sN (aS A)) (7 * i + 301)) 0 1000
    rw [e _ (by omega), e _ (by omega)]
    exact j2 i hi
  · show rg (rrS (sS (aS A)) (sN (aS A)) 5) 0 10000
    rw [e _ (by omega)]
    exact j3
  · show rg (rrS (sS (aS A)) (sN (aS A)) 6) 0 100
    rw [e _ (by omega)]
    exact j4
  · show rg (rrS (sS (aS A)) (sN (aS A)) 7) 0 10000
    rw [e _ (by omega)]
    exact j5
  · show 0 ≤ (0 : Int64).toInt ∧ (0 : Int64).toInt ≤ 1000000000 * (rrS (sS (aS A)) (sN (aS A)) 0).toInt
    rw [e _ (by omega)]
    have z : (0 : Int64).toInt = 0 := by decide
    omega
  · show xP X i = rrS (sS (aS A)) (sN (aS A)) (8 * i + 342) ∧ xW X i = rrS (sS (aS A)) (sN (aS A)) (8 * i + 339)
    rw [e _ (by omega), e _ (by omega)]
    exact h3.1 i hi
  · show xR X i = rrS (sS (aS A)) (sN (aS A)) (7 * i + 300)
    rw [e _ (by omega)]
    exact h3.2 i hi
  · show (rrS (sS (aS A)) (sN (aS A)) 0).toInt ≤ T
    rw [e _ (by omega)]
    exact h5
theorem tx_em (ws : va_W) : TxP G ws (gK G 5) (gV G 5) [] := TxK G ws (by decide) (fun b hb => absurd hb List.not_mem_nil) (by decide +kernel) (by decide) (fun j hj => absurd hj (Nat.not_lt_zero _))
/-- from the steps' end to the next round -/
theorem fl_rest {r B1 B2 : Nat} (hr : r < 10) (h : LG G Λ (2000 * (r : Int) + 720) X m A) (hs : gSl G ≤ 260) (hx : xN X ≤ 1002 + 1000 * r) (next : ∀ X' m' A', LG G Λ (2000 * ((r + 1 : Nat) : Int)) X' m' A' → xN X' ≤ 1000 + 1000 * (r + 1) → WZ G (d + 130) (B1, B2) μL_flies 16 [.ref (gB G), lvU, .int (nI (r + 1)), lvU, lvU] [] (lm G Λ X' [] m' []) Q) :
    WZ G (d + 130) (4 + (293 + (1 + B1)), 50 + (9628 + (12 + B2))) μL_flies 56 [.ref (gB G), lvU, .int (nI r), .int (-1 : Int32), lvU] [] (lm G Λ X [] m []) Q := by
  refine fl_5e (ext := []) (b := (293 + (1 + B1), 9628 + (12 + B2))) h.c ?_
  refine w_changes (d := d + 19) h hs (by omega) (fun m1 A1 X1 ext1 h1 hx1 => ?_)
  refine WZ.dropL [] ?_
  refine fl_9 (ext := []) h1.c hs (by omega) (fun v hv => ?_) (fun v hv m2 c2 => ?_)
  · have t1 := h1.2.2.2.2
    have st := h1.g.g.2.1
    have s1 := st.1
    have s2 := st.2
    have : ((1 + v : Nat) : Int) * (sS (aS A1) 1).toInt ≤ 5 * 60 := Int.mul_le_mul (by omega) s2 (by omega) (by omega)
    omega
  have h2 := (h1.it (k := 1 + v) (by omega) c2).x (X' := (xN X1 + 1, xP X1, xW X1, xR X1)) rfl
  have h2t : LG G Λ (2000 * (r : Int) + 1020) (xN X1 + 1, xP X1, xW X1, xR X1) m2 (it (aS A1) (1 + v), A1.2) := h2.t (by omega)
  refine w_hold (d := d + 109) h2t (by omega) hs (by show xN X1 + 1 + 100 < 2 ^ 30; omega) (fun m3 A3 h3 => ?_)
  refine fl_10 (ext := []) (b := (1 + B1, 12 + B2)) h3.c ?_
  refine w_rests (d := d + 109) h3 hs (by show xN X1 + 1 + 4 + 100 < 2 ^ 30; omega) (fun m4 A4 X4 ds h4 hx4 => ?_)
  refine WZ.dropL ds ?_
  refine fl_11 (ext := []) (b := (B1, B2)) h4.c ?_
  have hx4' : xN X4 ≤ xN X1 + 1 + 4 + 100 := hx4
  refine w_cools (d := d + 109) h4 (by omega) hs (by omega) (fun m5 A5 ext5 h5 => ?_)
  refine WZ.dropL [] ?_
  have z16 : rrS (sS (aS A5)) (sN (aS A5)) 16 = 0 := by
    unfold rrS
    rw [rrF_ne _ (fun i hi => by omega), upd_ne (by omega), upd_eq]
  have z17 : rrS (sS (aS A5)) (sN (aS A5)) 17 = 0 := by
    unfold rrS
    rw [rrF_ne _ (fun i hi => by omega), upd_eq]
  refine fl_12 (ext := []) h5.c hs (by show xN X4 + 3 < 2 ^ 30; omega) z16 z17 (fun v1 _ _ m6 c6 => ?_) (fun v1 _ _ => ?_)
  · have h6 := (h5.rr c6).x (X' := (xN (xN X4 + 3, X4.2) + 1, xP (xN X4 + 3, X4.2), xW (xN X4 + 3, X4.2), xR (xN X4 + 3, X4.2))) rfl
    obtain ⟨A6, hA6⟩ : ∃ A6 : Ab, A6 = (((rrS (sS (aS A5)) (sN (aS A5)), rrE (sE (aS A5)), (aS A5).2.2), (A5).2) : Ab) := ⟨_, rfl⟩
    have f6 : ∀ j, j < sN (aS A6) → sS (aS A6) (11 * j + 27) = sS (aS A6) (11 * j + 21) ∧ sS (aS A6) (11 * j + 28) = sS (aS A6) (11 * j + 21) ∧ sS (aS A6) (11 * j + 29) = 0 := fun j hj => by
      rw [hA6] at hj ⊢
      have hj' : j < sN (aS A5) := hj
      have n12 := h5.g.n12
      have r27 := rrF_27 (st := upd (upd (sS (aS A5)) 16 0) 17 0) (sN (aS A5)) j hj'
      have e21 : rrS (sS (aS A5)) (sN (aS A5)) (11 * j + 21) = upd (upd (sS (aS A5)) 16 0) 17 0 (11 * j + 21) := rrF_ne _ (fun i hi => by omega)
      show rrS (sS (aS A5)) (sN (aS A5)) (11 * j + 27) = rrS (sS (aS A5)) (sN (aS A5)) (11 * j + 21) ∧ rrS (sS (aS A5)) (sN (aS A5)) (11 * j + 28) = rrS (sS (aS A5)) (sN (aS A5)) (11 * j + 21) ∧ rrS (sS (aS A5)) (sN (aS A5)) (11 * j + 29) = 0
      rw [e21]
      exact ⟨r27.1, r27.2, (rrF_z _ j hj').1⟩
    rw [← hA6] at h6
    have loop : ∀ (q j : Nat), j + q = sN (aS A6) → WZ G (d + 130) (B1, B2) μL_flies 204 [.ref (gB G), lvU, .int (nI r), lvU, .int (nI j)] [] (lm G Λ (xN (xN X4 + 3, X4.2) + 1, xP (xN X4 + 3, X4.2), xW (xN X4 + 3, X4.2), xR (xN X4 + 3, X4.2)) [] m6 []) Q := by
      intro q
      induction q with
      | zero =>
        intro j hj
        refine fl_13 (ext := []) h6.c (by omega) (fun z => absurd z (by omega)) (fun _ => ?_) (fun z => absurd z (by omega))
        exact next _ m6 A6 (h6.t (by omega)) (by show xN X4 + 3 + 1 ≤ _; omega)
      | succ q ihq =>
        intro j hj
        exact fl_13 (ext := []) h6.c (by omega) (f6 j) (fun z => absurd (show j < sN (aS A6) by omega) z) (fun _ => ihq (j + 1) (by omega))
    exact loop (sN (aS A6)) 0 (by omega)
  · exact next _ m5 A5 ((h5.x rfl).t (by omega)) (by show xN X4 + 3 + 1 ≤ _; omega)
/-- the steps looked at, k of them left and one -/
theorem fl_steps {r B1 B2 : Nat} (hr : r < 10) (hs : gSl G ≤ 260) (next : ∀ X' m' A', LG G Λ (2000 * ((r + 1 : Nat) : Int)) X' m' A' → xN X' ≤ 1000 + 1000 * (r + 1) → WZ G (d + 130) (B1, B2) μL_flies 16 [.ref (gB G), lvU, .int (nI (r + 1)), lvU, lvU] [] (lm G Λ X' [] m' []) Q) :
    ∀ (k : Nat) (X : Lx) (m : Mm) (A : Ab), k < 12 → LG G Λ (2000 * (r : Int) + 60 * ((11 - k : Nat) : Int)) X m A → xN X ≤ 1002 + 1000 * r → WZ G (d + 130) (5 * (k + 1) + (4 + (293 + (1 + B1))), 39 * (k + 1) + (50 + (9628 + (12 + B2)))) μL_flies 56 [.ref (gB G), lvU, .int (nI r), .int (nI k), lvU] [] (lm G Λ X [] m []) Q := by
  intro k
  induction k with
  | zero =>
    intro X m A hk h hx
    refine fl_5 (ext := []) (k := 0) (b := (4 + (293 + (1 + B1)), 50 + (9628 + (12 + B2)))) h.c (by omega) (fun z => absurd z (Nat.not_lt_zero _)) (fun _ => ?_)
    refine w_moves (d := d + 109) h.c h.2.1 h.2.2.1 (by have := h.2.2.2.2; omega) (fun m1 ext1 c1 => ?_)
    have h1 := h.stp c1
    refine WZ.dropL [] ?_
    refine fl_6 (ext := []) h1.c ?_
    refine w_sheds (d := d + 109) h1.c h1.2.2.1 (sp_sh h.g) ?_
    refine fl_7 (ext := []) h1.c ?_
    refine w_balances (d := d + 109) h1.c h1.2.1 (fun m2 c2 => ?_)
    refine fl_8z (ext := []) c2 ?_
    exact fl_rest hr ((h1.s rfl c2).t (by omega)) hs hx next
  | succ k ih =>
    intro X m A hk h hx
    have e1 : 5 * (k + 1 + 1) + (4 + (293 + (1 + B1))) = 5 + (5 * (k + 1) + (4 + (293 + (1 + B1)))) := by omega
    have e2 : 39 * (k + 1 + 1) + (50 + (9628 + (12 + B2))) = 39 + (39 * (k + 1) + (50 + (9628 + (12 + B2)))) := by omega
    rw [e1, e2]
    refine fl_5 (ext := []) (k := k + 1) (b := (5 * (k + 1) + (4 + (293 + (1 + B1))), 39 * (k + 1) + (50 + (9628 + (12 + B2))))) h.c (by omega) (fun z => absurd z (Nat.not_lt_zero _)) (fun _ => ?_)
    refine w_moves (d := d + 109) h.c h.2.1 h.2.2.1 (by have := h.2.2.2.2; omega) (fun m1 ext1 c1 => ?_)
    have h1 := h.stp c1
    refine WZ.dropL [] ?_
    refine fl_6 (ext := []) h1.c ?_
    refine w_sheds (d := d + 109) h1.c h1.2.2.1 (sp_sh h.g) ?_
    refine fl_7 (ext := []) h1.c ?_
    refine w_balances (d := d + 109) h1.c h1.2.1 (fun m2 c2 => ?_)
    refine fl_8 (ext := []) c2 ?_
    exact ih X m2 _ (by omega) ((h1.s rfl c2).t (by omega)) hx
theorem fl_round (hs : gSl G ≤ 260) (hQ : ∀ m' A' X', LG G Λ 20000 X' m' A' → Q (some (.int (1 : Int32))) (lm G Λ X' [] m' [])) : ∀ (q r : Nat) (X : Lx) (m : Mm) (A : Ab), r + q = 10 → LG G Λ (2000 * (r : Int)) X m A → xN X ≤ 1000 + 1000 * r → WZ G (d + 130) (358 * q, 10158 * q) μL_flies 16 [.ref (gB G), lvU, .int (nI r), lvU, lvU] [] (lm G Λ X [] m []) Q := by
  intro q
  induction q with
  | zero =>
    intro r X m A hr h hx
    have e : r = 10 := by omega
    subst e
    exact fl_2e (ext := []) h.c (hQ m A X h)
  | succ q ih =>
    intro r X m A hr h hx
    refine fl_2 (ext := []) h.c (by omega) ?_
    refine w_balances (d := d + 109) h.c h.2.1 (fun m1 c1 => ?_)
    have h1 := h.s rfl c1
    refine fl_3 (ext := []) c1 ?_
    refine w_put (d := d + 109) c1 (tx_em _) (fun m2 c2 => ?_)
    have h2 : LG G Λ (2000 * (r : Int)) X m2 (A.1, A.2.1, [], aE A, aP A) := h.s rfl c2
    refine fl_4 (ext := []) c2 hs (by omega) rfl (fun m3 c3 v3 hv3 => ?_)
    have h3 := (h2.ld (L := []) (Or.inl rfl) rfl c3).x (X' := (xN X + 1, xP X, xW X, xR X)) rfl
    have key := fl_steps (d := d) (Q := Q) (r := r) (B1 := 358 * q) (B2 := 10158 * q) (by omega) hs (fun X' m' A' hL hX => ih (r + 1) X' m' A' (by omega) hL hX) v3 _ m3 _ hv3 (h3.t (by omega)) (by show xN X + 1 ≤ _; omega)
    exact key.mono (by show 5 * (v3 + 1) + (4 + (293 + (1 + 358 * q))) ≤ 358 * (q + 1); omega) (by show 39 * (v3 + 1) + (50 + (9628 + (12 + 10158 * q))) ≤ 10158 * (q + 1); omega)
end WFL
