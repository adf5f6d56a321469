theorem lim_hi {t : Int32} {v : Nat} (ht : rg t (-200000) 200000) (hv : v < 20000) : rg (imin 200000 (t + nI v)) (-200000) 200000 := by
  have e : (t + nI v).toInt = t.toInt + v := by
    have := ht.1
    have := ht.2
    rw [Int32.toInt_add, nI_toInt (n := v) (by omega)]
    exact Int.bmod_eq_of_le (by omega) (by omega)
  have z : (200000 : Int32).toInt = 200000 := by decide
  have := ht.1
  unfold imin
  by_cases h : t + nI v < 200000
  · rw [if_pos h]
    rw [Int32.lt_iff_toInt_lt] at h
    exact ⟨by omega, by omega⟩
  · rw [if_neg h]
    exact ⟨by omega, by omega⟩
theorem lim_ge {t : Int32} {v : Nat} (ht : rg t (-200000) 200000) (hv : v < 20000) : t.toInt ≤ (imin 200000 (t + nI v)).toInt := by
  have e : (t + nI v).toInt = t.toInt + v := by
    have := ht.1
    have := ht.2
    rw [Int32.toInt_add, nI_toInt (n := v) (by omega)]
    exact Int.bmod_eq_of_le (by omega) (by omega)
  have z : (200000 : Int32).toInt = 200000 := by decide
  have := ht.2
  unfold imin
  by_cases h : t + nI v < 200000
  · rw [if_pos h]
    omega
  · rw [if_neg h]
    omega
theorem lim_lo {t : Int32} {u : Nat} (ht : rg t (-200000) 200000) (hu : u < 20000) : -200000 ≤ (imax (-200000) (t - nI u)).toInt ∧ (imax (-200000) (t - nI u)).toInt ≤ t.toInt := by
  have e : (t - nI u).toInt = t.toInt - u := by
    have := ht.1
    have := ht.2
    rw [Int32.toInt_sub, nI_toInt (n := u) (by omega)]
    exact Int.bmod_eq_of_le (by omega) (by omega)
  have z : (-200000 : Int32).toInt = -200000 := by decide
  have := ht.1
  unfold imax
  by_cases h : -200000 < t - nI u
  · rw [if_pos h]
    rw [Int32.lt_iff_toInt_lt] at h
    omega
  · rw [if_neg h]
    omega
theorem lim_lo2 {t : Int32} {u v : Nat} (ht : rg t (-200000) 200000) (hu : u < 20000) (hv : v < 20000) : rg (imax (-200000) (t - nI u)) (-200000) (imin 200000 (t + nI v)).toInt := by
  have a := lim_lo ht hu
  have b := lim_ge ht hv
  exact ⟨a.1, by omega⟩
theorem imin_nn {p q : Int32} (hp : 0 ≤ p.toInt) (hq : 0 ≤ q.toInt) : ¬ imin p q < 0 := by
  have z : (0 : Int32).toInt = 0 := rfl
  rw [Int32.lt_iff_toInt_lt]
  unfold imin
  by_cases h : q < p
  · rw [if_pos h]
    omega
  · rw [if_neg h]
    omega
theorem limS_v {st : Nat → Int32} {k : Nat} {y z : Int32} : limS st k y z (11 * k + 21) = st (11 * k + 21) ∧ limS st k y z (11 * k + 25) = y ∧ limS st k y z (11 * k + 26) = z := by
  unfold limS
  refine ⟨?_, ?_, ?_⟩
  · rw [upd_ne (by omega), upd_ne (by omega)]
  · rw [upd_ne (by omega), upd_eq]
  · rw [upd_eq]
theorem lim_m2 {A : Ab} {k : Nat} {y z : Int32} : (imin (sS (aS (stA A (limS (sS (aS A)) k y z))) (11 * k + 21) - sS (aS (stA A (limS (sS (aS A)) k y z))) (11 * k + 25)) (sS (aS (stA A (limS (sS (aS A)) k y z))) (11 * k + 26) - sS (aS (stA A (limS (sS (aS A)) k y z))) (11 * k + 21))) = (imin ((sS (aS A) (11 * k + 21)) - y) (z - (sS (aS A) (11 * k + 21)))) := by
  show imin (limS (sS (aS A)) k y z (11 * k + 21) - limS (sS (aS A)) k y z (11 * k + 25)) (limS (sS (aS A)) k y z (11 * k + 26) - limS (sS (aS A)) k y z (11 * k + 21)) = _
  rw [limS_v.1, limS_v.2.1, limS_v.2.2]
theorem lim_m1 {A : Ab} {k u v : Nat} (ht : rg (sS (aS A) (11 * k + 21)) (-200000) 200000) (hu : u < 20000) (hv : v < 20000) : ¬ (imin (sS (aS (stA A (limS (sS (aS A)) k (imax (-200000 : Int32) ((sS (aS A) (11 * k + 21)) - (nI u))) (imin (200000 : Int32) ((sS (aS A) (11 * k + 21)) + (nI v)))))) (11 * k + 21) - sS (aS (stA A (limS (sS (aS A)) k (imax (-200000 : Int32) ((sS (aS A) (11 * k + 21)) - (nI u))) (imin (200000 : Int32) ((sS (aS A) (11 * k + 21)) + (nI v)))))) (11 * k + 25)) (sS (aS (stA A (limS (sS (aS A)) k (imax (-200000 : Int32) ((sS (aS A) (11 * k + 21)) - (nI u))) (imin (200000 : Int32) ((sS (aS A) (11 * k + 21)) + (nI v)))))) (11 * k + 26) - sS (aS (stA A (limS (sS (aS A)) k (imax (-200000 : Int32) ((sS (aS A) (11 * k + 21)) - (nI u))) (imin (200000 : Int32) ((sS (aS A) (11 * k + 21)) + (nI v)))))) (11 * k + 21))) < 0 := by
  rw [lim_m2]
  have a := lim_lo ht hu
  have b := lim_ge ht hv
  have b2 := lim_hi ht hv
  have e1 : (sS (aS A) (11 * k + 21) - imax (-200000 : Int32) (sS (aS A) (11 * k + 21) - nI u)).toInt = (sS (aS A) (11 * k + 21)).toInt - (imax (-200000 : Int32) (sS (aS A) (11 * k + 21) - nI u)).toInt := by
    have := ht.2
    rw [Int32.toInt_sub]
    exact Int.bmod_eq_of_le (by omega) (by omega)
  have e2 : (imin (200000 : Int32) (sS (aS A) (11 * k + 21) + nI v) - sS (aS A) (11 * k + 21)).toInt = (imin (200000 : Int32) (sS (aS A) (11 * k + 21) + nI v)).toInt - (sS (aS A) (11 * k + 21)).toInt := by
    have := ht.1
    have := b2.2
    rw [Int32.toInt_sub]
    exact Int.bmod_eq_of_le (by omega) (by omega)
  exact imin_nn (by omega) (by omega)
theorem mode3 {v : Nat} (h : v < 3) : nI v = 0 ∨ nI v = 1 ∨ nI v = 2 := by
  rcases (show v = 0 ∨ v = 1 ∨ v = 2 by omega) with rfl | rfl | rfl
  · exact Or.inl rfl
  · exact Or.inr (Or.inl rfl)
  · exact Or.inr (Or.inr rfl)
/-! FLIES: blocks (printed by gen_fl.py) -/
theorem fl_1 {G : Cx} {d : Nat} {Λ : Lc} {X : Lx} {ext : va_W} {m : Mm} {A : Ab} {ce : List (Nat × Mm)} {Q : Option Value → LM → Prop} {b : Nat × Nat}  (hC : CIv (atC G (lB Λ) false) m A) 
    (e1 : WZ G (d + 130) b μL_flies 16 [.ref (gB G), lvU, .int (0 : Int32), lvU, lvU] [] (lm G Λ X [] m ce) Q) :
    WZ G (d + 130) b μL_flies 9 [.ref (gB G), lvU, lvU, lvU, lvU] [.int (1 : Int32)] (lm G Λ X [] m ce) Q := by
  have hn12 := hC.nn.2
  have hl6 := hC.nl.2
  have hh8 := hC.nh.2
  refine wl_if_ne 14 dL_flies_9 (by decide) (fun _ => ?_) (fun z => absurd z (by decide))
  refine wl_iconst (0 : Int32) dL_flies_14 (by decide) ?_
  refine wl_istore_n dL_flies_15 (by decide) rfl ?_
  exact e1

theorem fl_2 {G : Cx} {d : Nat} {Λ : Lc} {X : Lx} {ext : va_W} {m : Mm} {A : Ab} {ce : List (Nat × Mm)} {Q : Option Value → LM → Prop} {b : Nat × Nat} {r : Nat} (hC : CIv (atC G (lB Λ) false) m A) (hr : r < 10)
    (e1 : WZM G (d + 129) (0, 0) μL_balances [.ref (gB G)] (lm G Λ X [] m ce) (fun r' m' => WZ G (d + 130) b μL_flies 26 [.ref (gB G), lvU, .int (nI r), lvU, lvU] (r'.toList ++ []) m' Q)) :
    WZ G (d + 130) b μL_flies 16 [.ref (gB G), lvU, .int (nI r), lvU, lvU] [] (lm G Λ X [] m ce) Q := by
  have hn12 := hC.nn.2
  have hl6 := hC.nl.2
  have hh8 := hC.nh.2
  refine wl_iload_n dL_flies_16 rfl ?_
  refine wl_bipush (10 : Int32) dL_flies_17 (by decide) ?_
  refine wl_icmp_ge 284 dL_flies_19 (by decide) (fun z => absurd (nlt_ (a := r) (b := 10) hr (by omega)) z) (fun _ => ?_)
  refine wl_aload_n dL_flies_22 rfl ?_
  refine wl_callV (As := []) (S := []) (b' := (0, 0)) (b := b) dL_flies_23 ML_238 ⟨0, _, rfl⟩ rfl rfl rfl (b00 _) (Nat.le_of_ble_eq_true rfl) ?_
  exact e1

theorem fl_2e {G : Cx} {d : Nat} {Λ : Lc} {X : Lx} {ext : va_W} {m : Mm} {A : Ab} {ce : List (Nat × Mm)} {Q : Option Value → LM → Prop} {b : Nat × Nat}  (hC : CIv (atC G (lB Λ) false) m A) 
    (e1 : Q (some (.int (1 : Int32))) (lm G Λ X [] m ce)) :
    WZ G (d + 130) b μL_flies 16 [.ref (gB G), lvU, .int (nI 10), lvU, lvU] [] (lm G Λ X [] m ce) Q := by
  have hn12 := hC.nn.2
  have hl6 := hC.nl.2
  have hh8 := hC.nh.2
  refine wl_iload_n dL_flies_16 rfl ?_
  refine wl_bipush (10 : Int32) dL_flies_17 (by decide) ?_
  refine wl_icmp_ge 284 dL_flies_19 (by decide) (fun _ => ?_) (fun z => absurd z (by decide))
  refine wl_iconst (1 : Int32) dL_flies_284 (by decide) ?_
  exact wl_zret dL_flies_285 rfl rfl (e1)

theorem fl_3 {G : Cx} {d : Nat} {Λ : Lc} {X : Lx} {ext : va_W} {m : Mm} {A : Ab} {ce : List (Nat × Mm)} {Q : Option Value → LM → Prop} {b : Nat × Nat} {r : Nat} (hC : CIv (atC G (lB Λ) false) m A) 
    (e1 : WZM G (d + 129) (0, 0) μL_put [.ref (gB G), .ref (gK G 5)] (lm G Λ X [] m ce) (fun r' m' => WZ G (d + 130) b μL_flies 37 [.ref (gB G), lvU, .int (nI r), lvU, lvU] (r'.toList ++ []) m' Q)) :
    WZ G (d + 130) b μL_flies 26 [.ref (gB G), lvU, .int (nI r), lvU, lvU] [.int (1 : Int32)] (lm G Λ X [] m ce) Q := by
  have hn12 := hC.nn.2
  have hl6 := hC.nl.2
  have hh8 := hC.nh.2
  refine wl_if_ne 31 dL_flies_26 (by decide) (fun _ => ?_) (fun z => absurd z (by decide))
  refine wl_aload_n dL_flies_31 rfl ?_
  refine wl_ldcS (own := "") (j := 5) dL_flies_32 (by decide) rfl ?_
  refine wl_callV (As := [.ref (gK G 5)]) (S := []) (b' := (0, 0)) (b := b) dL_flies_34 ML_219 ⟨0, _, rfl⟩ rfl rfl rfl (b00 _) (Nat.le_of_ble_eq_true rfl) ?_
  exact e1

theorem fl_4 {G : Cx} {d : Nat} {Λ : Lc} {X : Lx} {ext : va_W} {m : Mm} {A : Ab} {ce : List (Nat × Mm)} {Q : Option Value → LM → Prop} {b : Nat × Nat} {r : Nat} (hC : CIv (atC G (lB Λ) false) m A) (hs : gSl G ≤ 260) (hx : xN X < 2 ^ 30)
    (g1 : aT A = [])
    (e1 : ∀ m1 : Mm, CIv (atC G (lB Λ) false) m1 (ldA A []) → ∀ v3 : Nat, v3 < 12 → WZ G (d + 130) b μL_flies 56 [.ref (gB G), lvU, .int (nI r), .int (nI v3), lvU] [] (lm G Λ (xN X + 1, xP X, xW X, xR X) [] m1 ce) Q) :
    WZ G (d + 130) b μL_flies 37 [.ref (gB G), lvU, .int (nI r), lvU, lvU] [] (lm G Λ X [] m ce) Q := by
  have hn12 := hC.nn.2
  have hl6 := hC.nl.2
  have hh8 := hC.nh.2
  refine wl_aload_n dL_flies_37 rfl ?_
  refine wl_get 0 (.ref (lB Λ)) dL_flies_38 fL_10 rfl rfl ?_
  refine wl_callX (As := []) (S := []) [] ce dL_flies_41 ML_223 rfl rfl (Nat.le_of_ble_eq_true rfl) ?_
  refine a_loadRules (L := []) hC (by rw [(g1)]; exact pR_nil _ _ _) (fun m1 hC2 => ?_)
  show WZ G (d + 130) b μL_flies 44 [.ref (gB G), lvU, .int (nI r), lvU, lvU] [.int (0 : Int32)] (lm G Λ X [] m1 ce) Q
  refine wl_if_eq 49 dL_flies_44 (by decide) (fun _ => ?_) (fun z => absurd z (by decide))
  refine wl_aload_n dL_flies_49 rfl ?_
  refine wl_bipush (12 : Int32) dL_flies_50 (by decide) ?_
  refine wl_callV (As := [.int (12 : Int32)]) (S := []) (b' := (0, 0)) (b := b) dL_flies_52 ML_65 ⟨0, _, rfl⟩ rfl rfl rfl (b00 _) (Nat.le_of_ble_eq_true rfl) ?_
  refine wl_draw (X := X) hs (by show xN X + 0 + 1 < 2 ^ 31; omega) (by decide) (fun v3 hv4 => ?_)
  have hv4 : v3 < 12 := by have := hv4; rw [show (12 : Int32).toInt = 12 from by decide] at this; omega
  show WZ G (d + 130) b μL_flies 55 [.ref (gB G), lvU, .int (nI r), lvU, lvU] [.int (nI v3)] (lm G Λ (xN X + 1, xP X, xW X, xR X) [] m1 ce) Q
  refine wl_istore_n dL_flies_55 (by decide) rfl ?_
  exact e1 m1 hC2 v3 hv4

theorem fl_5 {G : Cx} {d : Nat} {Λ : Lc} {X : Lx} {ext : va_W} {m : Mm} {A : Ab} {ce : List (Nat × Mm)} {Q : Option Value → LM → Prop} {b : Nat × Nat} {r k : Nat} (hC : CIv (atC G (lB Λ) false) m A) (hk : k < 100)
    (e1 : k < 0 → WZ G (d + 130) (5 + b.1, 39 + b.2) μL_flies 89 [.ref (gB G), lvU, .int (nI r), lvU, lvU] [] (lm G Λ X [] m ce) Q)
    (e2 : ¬ k < 0 → WZM G (d + 129) (5, 39) μL_moves [.ref (gB G)] (lm G Λ X [] m ce) (fun r' m' => WZ G (d + 130) b μL_flies 64 [.ref (gB G), lvU, .int (nI r), .int (nI k), lvU] (r'.toList ++ []) m' Q)) :
    WZ G (d + 130) (5 + b.1, 39 + b.2) μL_flies 56 [.ref (gB G), lvU, .int (nI r), .int (nI k), lvU] [] (lm G Λ X [] m ce) Q := by
  have hn12 := hC.nn.2
  have hl6 := hC.nl.2
  have hh8 := hC.nh.2
  refine wl_iload_n dL_flies_56 rfl ?_
  refine wl_if_lt 89 dL_flies_57 (by decide) (fun q1 => ?_) (fun q1 => ?_)
  · have q2 : k < 0 := nlt (a := k) (b := 0) q1 (by omega) (by omega)
    refine wl_forget [.ref (gB G), lvU, .int (nI r), lvU, lvU] ⟨Or.inl rfl, Or.inl rfl, Or.inl rfl, Or.inr rfl, Or.inl rfl, trivial⟩ ?_
    exact e1 q2
  · have q3 : ¬ k < 0 := fun y => q1 (nlt_ (a := k) (b := 0) y (by omega))
    refine wl_aload_n dL_flies_60 rfl ?_
    refine wl_callV (As := []) (S := []) (b' := (5, 39)) (b := b) dL_flies_61 ML_243 ⟨0, _, rfl⟩ rfl rfl rfl rfl (Nat.le_of_ble_eq_true rfl) ?_
    exact e2 q3

theorem fl_5e {G : Cx} {d : Nat} {Λ : Lc} {X : Lx} {ext : va_W} {m : Mm} {A : Ab} {ce : List (Nat × Mm)} {Q : Option Value → LM → Prop} {b : Nat × Nat} {r : Nat} (hC : CIv (atC G (lB Λ) false) m A) 
    (e1 : WZM G (d + 129) (4, 50) μL_changes [.ref (gB G)] (lm G Λ X [] m ce) (fun r' m' => WZ G (d + 130) b μL_flies 93 [.ref (gB G), lvU, .int (nI r), lvU, lvU] (r'.toList ++ []) m' Q)) :
    WZ G (d + 130) (4 + b.1, 50 + b.2) μL_flies 56 [.ref (gB G), lvU, .int (nI r), .int (-1 : Int32), lvU] [] (lm G Λ X [] m ce) Q := by
  have hn12 := hC.nn.2
  have hl6 := hC.nl.2
  have hh8 := hC.nh.2
  refine wl_iload_n dL_flies_56 rfl ?_
  refine wl_if_lt 89 dL_flies_57 (by decide) (fun _ => ?_) (fun z => absurd z (by decide))
  refine wl_aload_n dL_flies_89 rfl ?_
  refine wl_forget [.ref (gB G), lvU, .int (nI r), lvU, lvU] ⟨Or.inl rfl, Or.inl rfl, Or.inl rfl, Or.inr rfl, Or.inl rfl, trivial⟩ ?_
  refine wl_callV (As := []) (S := []) (b' := (4, 50)) (b := b) dL_flies_90 ML_249 ⟨0, _, rfl⟩ rfl rfl rfl rfl (Nat.le_of_ble_eq_true rfl) ?_
  exact e1

theorem fl_6 {G : Cx} {d : Nat} {Λ : Lc} {X : Lx} {ext : va_W} {m : Mm} {A : Ab} {ce : List (Nat × Mm)} {Q : Option Value → LM → Prop} {b : Nat × Nat} {r k : Nat} (hC : CIv (atC G (lB Λ) false) m A) 
    (e1 : WZM G (d + 129) (0, 0) μL_sheds [.ref (gB G)] (lm G Λ X [] m ce) (fun r' m' => WZ G (d + 130) b μL_flies 71 [.ref (gB G), lvU, .int (nI r), .int (nI k), lvU] (r'.toList ++ []) m' Q)) :
    WZ G (d + 130) b μL_flies 64 [.ref (gB G), lvU, .int (nI r), .int (nI k), lvU] [.int (1 : Int32)] (lm G Λ X [] m ce) Q := by
  have hn12 := hC.nn.2
  have hl6 := hC.nl.2
  have hh8 := hC.nh.2
  refine wl_if_eq 81 dL_flies_64 (by decide) (fun z => absurd z (by decide)) (fun _ => ?_)
  refine wl_aload_n dL_flies_67 rfl ?_
  refine wl_callV (As := []) (S := []) (b' := (0, 0)) (b := b) dL_flies_68 ML_246 ⟨0, _, rfl⟩ rfl rfl rfl (b00 _) (Nat.le_of_ble_eq_true rfl) ?_
  exact e1

theorem fl_7 {G : Cx} {d : Nat} {Λ : Lc} {X : Lx} {ext : va_W} {m : Mm} {A : Ab} {ce : List (Nat × Mm)} {Q : Option Value → LM → Prop} {b : Nat × Nat} {r k : Nat} (hC : CIv (atC G (lB Λ) false) m A) 
    (e1 : WZM G (d + 129) (0, 0) μL_balances [.ref (gB G)] (lm G Λ X [] m ce) (fun r' m' => WZ G (d + 130) b μL_flies 78 [.ref (gB G), lvU, .int (nI r), .int (nI k), lvU] (r'.toList ++ []) m' Q)) :
    WZ G (d + 130) b μL_flies 71 [.ref (gB G), lvU, .int (nI r), .int (nI k), lvU] [.int (1 : Int32)] (lm G Λ X [] m ce) Q := by
  have hn12 := hC.nn.2
  have hl6 := hC.nl.2
  have hh8 := hC.nh.2
  refine wl_if_eq 81 dL_flies_71 (by decide) (fun z => absurd z (by decide)) (fun _ => ?_)
  refine wl_aload_n dL_flies_74 rfl ?_
  refine wl_callV (As := []) (S := []) (b' := (0, 0)) (b := b) dL_flies_75 ML_238 ⟨0, _, rfl⟩ rfl rfl rfl (b00 _) (Nat.le_of_ble_eq_true rfl) ?_
  exact e1

theorem fl_8 {G : Cx} {d : Nat} {Λ : Lc} {X : Lx} {ext : va_W} {m : Mm} {A : Ab} {ce : List (Nat × Mm)} {Q : Option Value → LM → Prop} {b : Nat × Nat} {r k : Nat} (hC : CIv (atC G (lB Λ) false) m A) 
    (e1 : WZ G (d + 130) b μL_flies 56 [.ref (gB G), lvU, .int (nI r), .int (nI k), lvU] [] (lm G Λ X [] m ce) Q) :
    WZ G (d + 130) b μL_flies 78 [.ref (gB G), lvU, .int (nI r), .int (nI (k + 1)), lvU] [.int (1 : Int32)] (lm G Λ X [] m ce) Q := by
  have hn12 := hC.nn.2
  have hl6 := hC.nl.2
  have hh8 := hC.nh.2
  refine wl_if_ne 83 dL_flies_78 (by decide) (fun _ => ?_) (fun z => absurd z (by decide))
  refine wl_iinc (nI k) dL_flies_83 rfl (by decide) (ndec rfl) rfl ?_
  refine wl_goto 56 dL_flies_86 (by decide) ?_
  exact e1

theorem fl_8z {G : Cx} {d : Nat} {Λ : Lc} {X : Lx} {ext : va_W} {m : Mm} {A : Ab} {ce : List (Nat × Mm)} {Q : Option Value → LM → Prop} {b : Nat × Nat} {r : Nat} (hC : CIv (atC G (lB Λ) false) m A) 
    (e1 : WZ G (d + 130) b μL_flies 56 [.ref (gB G), lvU, .int (nI r), .int (-1 : Int32), lvU] [] (lm G Λ X [] m ce) Q) :
    WZ G (d + 130) b μL_flies 78 [.ref (gB G), lvU, .int (nI r), .int (0 : Int32), lvU] [.int (1 : Int32)] (lm G Λ X [] m ce) Q := by
  have hn12 := hC.nn.2
  have hl6 := hC.nl.2
  have hh8 := hC.nh.2
  refine wl_if_ne 83 dL_flies_78 (by decide) (fun _ => ?_) (fun z => absurd z (by decide))
  refine wl_iinc (-1 : Int32) dL_flies_83 rfl (by decide) (by decide) rfl ?_
  refine wl_goto 56 dL_flies_86 (by decide) ?_
  exact e1

theorem fl_9 {G : Cx} {d : Nat} {Λ : Lc} {X : Lx} {ext : va_W} {m : Mm} {A : Ab} {ce : List (Nat × Mm)} {Q : Option Value → LM → Prop} {b : Nat × Nat} {r : Nat} (hC : CIv (atC G (lB Λ) false) m A) (hs : gSl G ≤ 260) (hx : xN X < 2 ^ 30)
    (g1 : ∀ v1 : Nat, v1 < 5 → (sS (aS A) 0).toInt + (1 + v1 : Nat) * (sS (aS A) 1).toInt ≤ 100000000)
    (e1 : ∀ v1 : Nat, v1 < 5 → ∀ m3 : Mm, CIv (atC G (lB Λ) false) m3 ((it (aS A) (1 + v1), (A).2) : Ab) → WZM G (d + 129) (0, 0) μL_holdsCharge [.ref (gB G)] (lm G Λ (xN X + 1, xP X, xW X, xR X) [] m3 ce) (fun r' m' => WZ G (d + 130) b μL_flies 117 [.ref (gB G), lvU, .int (nI r), lvU, lvU] (r'.toList ++ []) m' Q)) :
    WZ G (d + 130) b μL_flies 93 [.ref (gB G), lvU, .int (nI r), lvU, lvU] [.int (1 : Int32)] (lm G Λ X [] m ce) Q := by
  have hn12 := hC.nn.2
  have hl6 := hC.nl.2
  have hh8 := hC.nh.2
  refine wl_if_eq 134 dL_flies_93 (by decide) (fun z => absurd z (by decide)) (fun _ => ?_)
  refine wl_aload_n dL_flies_96 rfl ?_
  refine wl_get 0 (.ref (lB Λ)) dL_flies_97 fL_10 rfl rfl ?_
  refine wl_iconst (1 : Int32) dL_flies_100 (by decide) ?_
  refine wl_aload_n dL_flies_101 rfl ?_
  refine wl_iconst (5 : Int32) dL_flies_102 (by decide) ?_
  refine wl_callV (As := [.int (5 : Int32)]) (S := [.int (1 : Int32), .ref (lB Λ)]) (b' := (0, 0)) (b := b) dL_flies_103 ML_65 ⟨0, _, rfl⟩ rfl rfl rfl (b00 _) (Nat.le_of_ble_eq_true rfl) ?_
  refine wl_draw (X := X) hs (by show xN X + 0 + 1 < 2 ^ 31; omega) (by decide) (fun v1 hv2 => ?_)
  have hv2 : v1 < 5 := by have := hv2; rw [show (5 : Int32).toInt = 5 from by decide] at this; omega
  show WZ G (d + 130) b μL_flies 106 [.ref (gB G), lvU, .int (nI r), lvU, lvU] [.int (nI v1), .int (1 : Int32), .ref (lB Λ)] (lm G Λ (xN X + 1, xP X, xW X, xR X) [] m ce) Q
  refine wl_iaddv (nI (1 + v1)) dL_flies_106 (nadd rfl) ?_
  refine wl_callX (As := [.int (nI (1 + v1))]) (S := []) [] ce dL_flies_107 ML_153 rfl rfl (Nat.le_of_ble_eq_true rfl) ?_
  refine a_run (i := 1 + v1) hC (by omega) (by omega) (g1 v1 hv2) (fun m3 hC4 => ?_)
  show WZ G (d + 130) b μL_flies 110 [.ref (gB G), lvU, .int (nI r), lvU, lvU] [.int (vcs (aS A) (1 + v1))] (lm G Λ (xN X + 1, xP X, xW X, xR X) [] m3 ce) Q
  refine wl_if_lt 134 dL_flies_110 (by decide) (fun z => absurd z (vcs_nn _ _ (by omega))) (fun _ => ?_)
  refine wl_aload_n dL_flies_113 rfl ?_
  refine wl_callV (As := []) (S := []) (b' := (0, 0)) (b := b) dL_flies_114 ML_252 ⟨0, _, rfl⟩ rfl rfl rfl (b00 _) (Nat.le_of_ble_eq_true rfl) ?_
  exact e1 v1 hv2 m3 hC4

theorem fl_10 {G : Cx} {d : Nat} {Λ : Lc} {X : Lx} {ext : va_W} {m : Mm} {A : Ab} {ce : List (Nat × Mm)} {Q : Option Value → LM → Prop} {b : Nat × Nat} {r : Nat} (hC : CIv (atC G (lB Λ) false) m A) 
    (e1 : WZM G (d + 129) (293, 9628) μL_rests [.ref (gB G)] (lm G Λ X [] m ce) (fun r' m' => WZ G (d + 130) b μL_flies 124 [.ref (gB G), lvU, .int (nI r), lvU, lvU] (r'.toList ++ []) m' Q)) :
    WZ G (d + 130) (293 + b.1, 9628 + b.2) μL_flies 117 [.ref (gB G), lvU, .int (nI r), lvU, lvU] [.int (1 : Int32)] (lm G Λ X [] m ce) Q := by
  have hn12 := hC.nn.2
  have hl6 := hC.nl.2
  have hh8 := hC.nh.2
  refine wl_if_eq 134 dL_flies_117 (by decide) (fun z => absurd z (by decide)) (fun _ => ?_)
  refine wl_aload_n dL_flies_120 rfl ?_
  refine wl_callV (As := []) (S := []) (b' := (293, 9628)) (b := b) dL_flies_121 ML_255 ⟨0, _, rfl⟩ rfl rfl rfl rfl (Nat.le_of_ble_eq_true rfl) ?_
  exact e1

theorem fl_11 {G : Cx} {d : Nat} {Λ : Lc} {X : Lx} {ext : va_W} {m : Mm} {A : Ab} {ce : List (Nat × Mm)} {Q : Option Value → LM → Prop} {b : Nat × Nat} {r : Nat} (hC : CIv (atC G (lB Λ) false) m A) 
    (e1 : WZM G (d + 129) (1, 12) μL_cools [.ref (gB G)] (lm G Λ X [] m ce) (fun r' m' => WZ G (d + 130) b μL_flies 131 [.ref (gB G), lvU, .int (nI r), lvU, lvU] (r'.toList ++ []) m' Q)) :
    WZ G (d + 130) (1 + b.1, 12 + b.2) μL_flies 124 [.ref (gB G), lvU, .int (nI r), lvU, lvU] [.int (1 : Int32)] (lm G Λ X [] m ce) Q := by
  have hn12 := hC.nn.2
  have hl6 := hC.nl.2
  have hh8 := hC.nh.2
  refine wl_if_eq 134 dL_flies_124 (by decide) (fun z => absurd z (by decide)) (fun _ => ?_)
  refine wl_aload_n dL_flies_127 rfl ?_
  refine wl_callV (As := []) (S := []) (b' := (1, 12)) (b := b) dL_flies_128 ML_258 ⟨0, _, rfl⟩ rfl rfl rfl rfl (Nat.le_of_ble_eq_true rfl) ?_
  exact e1

theorem fl_12 {G : Cx} {d : Nat} {Λ : Lc} {X : Lx} {ext : va_W} {m : Mm} {A : Ab} {ce : List (Nat × Mm)} {Q : Option Value → LM → Prop} {b : Nat × Nat} {r : Nat} (hC : CIv (atC G (lB Λ) false) m A) (hs : gSl G ≤ 260) (hx : xN X < 2 ^ 30) (k1 : rrS (sS (aS A)) (sN (aS A)) 16 = 0) (k2 : rrS (sS (aS A)) (sN (aS A)) 17 = 0)
    (e1 : ∀ v1 : Nat, v1 < 4 → ¬ 0 < v1 → ∀ m5 : Mm, CIv (atC G (lB Λ) false) m5 (((rrS (sS (aS A)) (sN (aS A)), rrE (sE (aS A)), (aS A).2.2), (A).2) : Ab) → WZ G (d + 130) b μL_flies 204 [.ref (gB G), lvU, .int (nI r), lvU, .int (0 : Int32)] [] (lm G Λ (xN X + 1, xP X, xW X, xR X) [] m5 ce) Q)
    (e2 : ∀ v1 : Nat, v1 < 4 → 0 < v1 → WZ G (d + 130) b μL_flies 16 [.ref (gB G), lvU, .int (nI (r + 1)), lvU, lvU] [] (lm G Λ (xN X + 1, xP X, xW X, xR X) [] m ce) Q) :
    WZ G (d + 130) b μL_flies 131 [.ref (gB G), lvU, .int (nI r), lvU, lvU] [.int (1 : Int32)] (lm G Λ X [] m ce) Q := by
  have hn12 := hC.nn.2
  have hl6 := hC.nl.2
  have hh8 := hC.nh.2
  refine wl_if_ne 136 dL_flies_131 (by decide) (fun _ => ?_) (fun z => absurd z (by decide))
  refine wl_aload_n dL_flies_136 rfl ?_
  refine wl_iconst (4 : Int32) dL_flies_137 (by decide) ?_
  refine wl_callV (As := [.int (4 : Int32)]) (S := []) (b' := (0, 0)) (b := b) dL_flies_138 ML_65 ⟨0, _, rfl⟩ rfl rfl rfl (b00 _) (Nat.le_of_ble_eq_true rfl) ?_
  refine wl_draw (X := X) hs (by show xN X + 0 + 1 < 2 ^ 31; omega) (by decide) (fun v1 hv2 => ?_)
  have hv2 : v1 < 4 := by have := hv2; rw [show (4 : Int32).toInt = 4 from by decide] at this; omega
  show WZ G (d + 130) b μL_flies 141 [.ref (gB G), lvU, .int (nI r), lvU, lvU] [.int (nI v1)] (lm G Λ (xN X + 1, xP X, xW X, xR X) [] m ce) Q
  refine wl_if_le 147 dL_flies_141 (by decide) (fun q3 => ?_) (fun q3 => ?_)
  · have q4 : ¬ 0 < v1 := fun y => q3 (nlt_ (a := 0) (b := v1) y (by omega))
    refine wl_aload_n dL_flies_147 rfl ?_
    refine wl_get 0 (.ref (lB Λ)) dL_flies_148 fL_10 rfl rfl ?_
    refine wl_callX (As := []) (S := []) [] ce dL_flies_151 ML_135 rfl rfl (Nat.le_of_ble_eq_true rfl) ?_
    refine a_violatorCount hC ?_
    show WZ G (d + 130) b μL_flies 154 [.ref (gB G), lvU, .int (nI r), lvU, lvU] [.int (sS (aS A) 16)] (lm G Λ (xN X + 1, xP X, xW X, xR X) [] m ce) Q
    refine wl_istore_n dL_flies_154 (by decide) rfl ?_
    refine wl_aload_n dL_flies_155 rfl ?_
    refine wl_get 0 (.ref (lB Λ)) dL_flies_156 fL_10 rfl rfl ?_
    refine wl_callX (As := []) (S := []) [] ce dL_flies_159 ML_261 rfl rfl (Nat.le_of_ble_eq_true rfl) ?_
    refine a_resetRecords hC (fun m5 hC6 => ?_)
    show WZ G (d + 130) b μL_flies 162 [.ref (gB G), lvU, .int (nI r), .int (sS (aS A) 16), lvU] [.int (sS (aS A) 16)] (lm G Λ (xN X + 1, xP X, xW X, xR X) [] m5 ce) Q
    refine wl_iload_n dL_flies_162 rfl ?_
    refine wl_icmp_ne 199 dL_flies_163 (by decide) (fun z => absurd (rfl) z) (fun _ => ?_)
    refine wl_aload_n dL_flies_166 rfl ?_
    refine wl_get 0 (.ref (lB Λ)) dL_flies_167 fL_10 rfl rfl ?_
    refine wl_callX (As := []) (S := []) [] ce dL_flies_170 ML_135 rfl rfl (Nat.le_of_ble_eq_true rfl) ?_
    refine a_violatorCount hC6 ?_
    show WZ G (d + 130) b μL_flies 173 [.ref (gB G), lvU, .int (nI r), .int (sS (aS A) 16), lvU] [.int (sS (aS (((rrS (sS (aS A)) (sN (aS A)), rrE (sE (aS A)), (aS A).2.2), (A).2) : Ab)) 16)] (lm G Λ (xN X + 1, xP X, xW X, xR X) [] m5 ce) Q
    refine wl_if_ne 199 dL_flies_173 (by decide) (fun z => absurd (k1) z) (fun _ => ?_)
    refine wl_aload_n dL_flies_176 rfl ?_
    refine wl_get 0 (.ref (lB Λ)) dL_flies_177 fL_10 rfl rfl ?_
    refine wl_callX (As := []) (S := []) [] ce dL_flies_180 ML_132 rfl rfl (Nat.le_of_ble_eq_true rfl) ?_
    refine a_shedCount hC6 ?_
    show WZ G (d + 130) b μL_flies 183 [.ref (gB G), lvU, .int (nI r), .int (sS (aS A) 16), lvU] [.int (sS (aS (((rrS (sS (aS A)) (sN (aS A)), rrE (sE (aS A)), (aS A).2.2), (A).2) : Ab)) 17)] (lm G Λ (xN X + 1, xP X, xW X, xR X) [] m5 ce) Q
    refine wl_if_ne 199 dL_flies_183 (by decide) (fun z => absurd (k2) z) (fun _ => ?_)
    refine wl_aload_n dL_flies_186 rfl ?_
    refine wl_get 0 (.ref (lB Λ)) dL_flies_187 fL_10 rfl rfl ?_
    refine wl_iconst (0 : Int32) dL_flies_190 (by decide) ?_
    refine wl_callX (As := [.int (0 : Int32)]) (S := []) [] ce dL_flies_191 ML_138 rfl rfl (Nat.le_of_ble_eq_true rfl) ?_
    refine a_energy0 hC6 ?_
    show WZ G (d + 130) b μL_flies 194 [.ref (gB G), lvU, .int (nI r), .int (sS (aS A) 16), lvU] [.long (sE (aS (((rrS (sS (aS A)) (sN (aS A)), rrE (sE (aS A)), (aS A).2.2), (A).2) : Ab)) 0)] (lm G Λ (xN X + 1, xP X, xW X, xR X) [] m5 ce) Q
    refine wl_lconst (0 : Int64) dL_flies_194 (by decide) ?_
    refine wl_lc_eq 201 dL_flies_195 dL_flies_196 (by decide) (fun _ => ?_) (fun z => absurd (rfl) z)
    refine wl_iconst (0 : Int32) dL_flies_201 (by decide) ?_
    refine wl_istore dL_flies_202 (by decide) rfl ?_
    refine wl_forget [.ref (gB G), lvU, .int (nI r), lvU, .int (0 : Int32)] ⟨Or.inl rfl, Or.inl rfl, Or.inl rfl, Or.inr rfl, Or.inl rfl, trivial⟩ ?_
    exact e1 v1 hv2 q4 m5 hC6
  · have q7 : 0 < v1 := nlt (a := 0) (b := v1) q3 (by omega) (by omega)
    refine wl_goto 278 dL_flies_144 (by decide) ?_
    refine wl_iinc (nI (r + 1)) dL_flies_278 rfl (by decide) (nadd (a := r) (b := 1) rfl) rfl ?_
    refine wl_goto 16 dL_flies_281 (by decide) ?_
    exact e2 v1 hv2 q7

theorem fl_13 {G : Cx} {d : Nat} {Λ : Lc} {X : Lx} {ext : va_W} {m : Mm} {A : Ab} {ce : List (Nat × Mm)} {Q : Option Value → LM → Prop} {b : Nat × Nat} {r j : Nat} (hC : CIv (atC G (lB Λ) false) m A) (hj : j ≤ sN (aS A)) (k1 : j < sN (aS A) → sS (aS A) (11 * j + 27) = sS (aS A) (11 * j + 21) ∧ sS (aS A) (11 * j + 28) = sS (aS A) (11 * j + 21) ∧ sS (aS A) (11 * j + 29) = 0)
    (e1 : ¬ j < sN (aS A) → WZ G (d + 130) b μL_flies 16 [.ref (gB G), lvU, .int (nI (r + 1)), lvU, lvU] [] (lm G Λ X [] m ce) Q)
    (e2 : j < sN (aS A) → WZ G (d + 130) b μL_flies 204 [.ref (gB G), lvU, .int (nI r), lvU, .int (nI (j + 1))] [] (lm G Λ X [] m ce) Q) :
    WZ G (d + 130) b μL_flies 204 [.ref (gB G), lvU, .int (nI r), lvU, .int (nI j)] [] (lm G Λ X [] m ce) Q := by
  have hn12 := hC.nn.2
  have hl6 := hC.nl.2
  have hh8 := hC.nh.2
  refine wl_iload dL_flies_204 rfl ?_
  refine wl_aload_n dL_flies_206 rfl ?_
  refine wl_get 0 (.ref (lB Λ)) dL_flies_207 fL_10 rfl rfl ?_
  refine wl_callX (As := []) (S := [.int (nI j)]) [] ce dL_flies_210 ML_101 rfl rfl (Nat.le_of_ble_eq_true rfl) ?_
  refine a_nodeCount hC ?_
  show WZ G (d + 130) b μL_flies 213 [.ref (gB G), lvU, .int (nI r), lvU, .int (nI j)] [.int (nI (sN (aS A))), .int (nI j)] (lm G Λ X [] m ce) Q
  refine wl_icmp_ge 278 dL_flies_213 (by decide) (fun q1 => ?_) (fun q1 => ?_)
  · have q2 : ¬ j < sN (aS A) := fun y => q1 (nlt_ (a := j) (b := sN (aS A)) y (by omega))
    refine wl_iinc (nI (r + 1)) dL_flies_278 rfl (by decide) (nadd (a := r) (b := 1) rfl) rfl ?_
    refine wl_goto 16 dL_flies_281 (by decide) ?_
    refine wl_forget [.ref (gB G), lvU, .int (nI (r + 1)), lvU, lvU] ⟨Or.inl rfl, Or.inl rfl, Or.inl rfl, Or.inl rfl, Or.inr rfl, trivial⟩ ?_
    exact e1 q2
  · have q3 : j < sN (aS A) := nlt (a := j) (b := sN (aS A)) q1 (by omega) (by omega)
    refine wl_aload_n dL_flies_216 rfl ?_
    refine wl_get 0 (.ref (lB Λ)) dL_flies_217 fL_10 rfl rfl ?_
    refine wl_iload dL_flies_220 rfl ?_
    refine wl_callX (As := [.int (nI j)]) (S := []) [] ce dL_flies_222 ML_147 rfl rfl (Nat.le_of_ble_eq_true rfl) ?_
    refine a_lowest (i := j) hC (by omega) ?_
    show WZ G (d + 130) b μL_flies 225 [.ref (gB G), lvU, .int (nI r), lvU, .int (nI j)] [.int (sS (aS A) (11 * j + 27))] (lm G Λ X [] m ce) Q
    refine wl_aload_n dL_flies_225 rfl ?_
    refine wl_get 0 (.ref (lB Λ)) dL_flies_226 fL_10 rfl rfl ?_
    refine wl_iload dL_flies_229 rfl ?_
    refine wl_callX (As := [.int (nI j)]) (S := [.int (sS (aS A) (11 * j + 27))]) [] ce dL_flies_231 ML_168 rfl rfl (Nat.le_of_ble_eq_true rfl) ?_
    refine a_temperature (i := j) hC (by omega) ?_
    show WZ G (d + 130) b μL_flies 234 [.ref (gB G), lvU, .int (nI r), lvU, .int (nI j)] [.int (sS (aS A) (11 * j + 21)), .int (sS (aS A) (11 * j + 27))] (lm G Λ X [] m ce) Q
    refine wl_icmp_ne 270 dL_flies_234 (by decide) (fun z => absurd ((k1 q3).1) z) (fun _ => ?_)
    refine wl_aload_n dL_flies_237 rfl ?_
    refine wl_get 0 (.ref (lB Λ)) dL_flies_238 fL_10 rfl rfl ?_
    refine wl_iload dL_flies_241 rfl ?_
    refine wl_callX (As := [.int (nI j)]) (S := []) [] ce dL_flies_243 ML_150 rfl rfl (Nat.le_of_ble_eq_true rfl) ?_
    refine a_highest (i := j) hC (by omega) ?_
    show WZ G (d + 130) b μL_flies 246 [.ref (gB G), lvU, .int (nI r), lvU, .int (nI j)] [.int (sS (aS A) (11 * j + 28))] (lm G Λ X [] m ce) Q
    refine wl_aload_n dL_flies_246 rfl ?_
    refine wl_get 0 (.ref (lB Λ)) dL_flies_247 fL_10 rfl rfl ?_
    refine wl_iload dL_flies_250 rfl ?_
    refine wl_callX (As := [.int (nI j)]) (S := [.int (sS (aS A) (11 * j + 28))]) [] ce dL_flies_252 ML_168 rfl rfl (Nat.le_of_ble_eq_true rfl) ?_
    refine a_temperature (i := j) hC (by omega) ?_
    show WZ G (d + 130) b μL_flies 255 [.ref (gB G), lvU, .int (nI r), lvU, .int (nI j)] [.int (sS (aS A) (11 * j + 21)), .int (sS (aS A) (11 * j + 28))] (lm G Λ X [] m ce) Q
    refine wl_icmp_ne 270 dL_flies_255 (by decide) (fun z => absurd ((k1 q3).2.1) z) (fun _ => ?_)
    refine wl_aload_n dL_flies_258 rfl ?_
    refine wl_get 0 (.ref (lB Λ)) dL_flies_259 fL_10 rfl rfl ?_
    refine wl_iload dL_flies_262 rfl ?_
    refine wl_callX (As := [.int (nI j)]) (S := []) [] ce dL_flies_264 ML_176 rfl rfl (Nat.le_of_ble_eq_true rfl) ?_
    refine a_violations (i := j) hC (by omega) ?_
    show WZ G (d + 130) b μL_flies 267 [.ref (gB G), lvU, .int (nI r), lvU, .int (nI j)] [.int (sS (aS A) (11 * j + 29))] (lm G Λ X [] m ce) Q
    refine wl_if_eq 272 dL_flies_267 (by decide) (fun _ => ?_) (fun z => absurd ((k1 q3).2.2) z)
    refine wl_iinc (nI (j + 1)) dL_flies_272 rfl (by decide) (nadd (a := j) (b := 1) rfl) rfl ?_
    refine wl_goto 204 dL_flies_275 (by decide) ?_
    exact e2 q3

/-! CHANGES: blocks -/
theorem cg_0 {G : Cx} {d : Nat} {Λ : Lc} {X : Lx} {ext : va_W} {m : Mm} {A : Ab} {ce : List (Nat × Mm)} {Q : Option Value → LM → Prop} {b : Nat × Nat}  (hC : CIv (atC G (lB Λ) false) m A) (hs : gSl G ≤ 260) (hx : xN X < 2 ^ 30) (hn1 : 1 ≤ sN (aS A)) (km : ∀ j, j < sH (aS A) → ¬ sS (aS A) (8 * j + 343) < 0)
    (e1 : ∀ v1 : Nat, v1 < sN (aS A) → ¬ 0 < sH (aS A) → WZ G (d + 110) b μL_changes 48 [.ref (gB G), lvU, lvU, .int (nI v1), lvU, lvU, lvU] [] (lm G Λ (xN X + 1, xP X, xW X, xR X) ext m ce) Q)
    (e2 : ∀ v1 : Nat, v1 < sN (aS A) → 0 < sH (aS A) → ∀ v6 : Nat, v6 < sH (aS A) → ∀ v8 : Nat, v8 < 3 → ∀ m10 : Mm, CIv (atC G (lB Λ) false) m10 (stA A (upd (sS (aS A)) (8 * v6 + 343) (nI v8))) → WZ G (d + 110) b μL_changes 48 [.ref (gB G), lvU, lvU, .int (nI v1), lvU, lvU, lvU] [] (lm G Λ (xN X + 3, xP X, xW X, xR X) ext m10 ce) Q) :
    WZM G (d + 110) b μL_changes [.ref (gB G)] (lm G Λ X ext m ce) Q := by
  have hn12 := hC.nn.2
  have hl6 := hC.nl.2
  have hh8 := hC.nh.2
  refine WZM.of pL (Nat.le_of_ble_eq_true rfl) rfl ?_
  refine wl_aload_n dL_changes_0 rfl ?_
  refine wl_get 0 (.ref (lB Λ)) dL_changes_1 fL_10 rfl rfl ?_
  refine wl_callX (As := []) (S := []) [] ce dL_changes_4 ML_126 rfl rfl (Nat.le_of_ble_eq_true rfl) ?_
  refine a_heaterCount hC ?_
  show WZ G (d + 110) b μL_changes 7 [.ref (gB G), lvU, lvU, lvU, lvU, lvU, lvU] [.int (nI (sH (aS A)))] (lm G Λ X ext m ce) Q
  refine wl_istore_n dL_changes_7 (by decide) rfl ?_
  refine wl_aload_n dL_changes_8 rfl ?_
  refine wl_get 0 (.ref (lB Λ)) dL_changes_9 fL_10 rfl rfl ?_
  refine wl_callX (As := []) (S := []) [] ce dL_changes_12 ML_101 rfl rfl (Nat.le_of_ble_eq_true rfl) ?_
  refine a_nodeCount hC ?_
  show WZ G (d + 110) b μL_changes 15 [.ref (gB G), .int (nI (sH (aS A))), lvU, lvU, lvU, lvU, lvU] [.int (nI (sN (aS A)))] (lm G Λ X ext m ce) Q
  refine wl_istore_n dL_changes_15 (by decide) rfl ?_
  refine wl_aload_n dL_changes_16 rfl ?_
  refine wl_iload_n dL_changes_17 rfl ?_
  refine wl_callV (As := [.int (nI (sN (aS A)))]) (S := []) (b' := (0, 0)) (b := b) dL_changes_18 ML_65 ⟨0, _, rfl⟩ rfl rfl rfl (b00 _) (Nat.le_of_ble_eq_true rfl) ?_
  refine wl_draw (X := X) hs (by show xN X + 0 + 1 < 2 ^ 31; omega) (by rw [nI_toInt (by omega)]; omega) (fun v1 hv2 => ?_)
  have hv2 : v1 < sN (aS A) := by have := hv2; rw [nI_toInt (by omega)] at this; omega
  show WZ G (d + 110) b μL_changes 21 [.ref (gB G), .int (nI (sH (aS A))), .int (nI (sN (aS A))), lvU, lvU, lvU, lvU] [.int (nI v1)] (lm G Λ (xN X + 1, xP X, xW X, xR X) ext m ce) Q
  refine wl_istore_n dL_changes_21 (by decide) rfl ?_
  refine wl_iload_n dL_changes_22 rfl ?_
  refine wl_if_le 48 dL_changes_23 (by decide) (fun q3 => ?_) (fun q3 => ?_)
  · have q4 : ¬ 0 < sH (aS A) := fun y => q3 (nlt_ (a := 0) (b := sH (aS A)) y (by omega))
    refine wl_forget [.ref (gB G), lvU, lvU, .int (nI v1), lvU, lvU, lvU] ⟨Or.inl rfl, Or.inr rfl, Or.inr rfl, Or.inl rfl, Or.inl rfl, Or.inl rfl, Or.inl rfl, trivial⟩ ?_
    exact e1 v1 hv2 q4
  · have q5 : 0 < sH (aS A) := nlt (a := 0) (b := sH (aS A)) q3 (by omega) (by omega)
    refine wl_aload_n dL_changes_26 rfl ?_
    refine wl_get 0 (.ref (lB Λ)) dL_changes_27 fL_10 rfl rfl ?_
    refine wl_aload_n dL_changes_30 rfl ?_
    refine wl_iload_n dL_changes_31 rfl ?_
    refine wl_callV (As := [.int (nI (sH (aS A)))]) (S := [.ref (lB Λ)]) (b' := (0, 0)) (b := b) dL_changes_32 ML_65 ⟨0, _, rfl⟩ rfl rfl rfl (b00 _) (Nat.le_of_ble_eq_true rfl) ?_
    refine wl_draw (X := (xN X + 1, xP X, xW X, xR X)) hs (by show xN X + 1 + 1 < 2 ^ 31; omega) (by rw [nI_toInt (by omega)]; omega) (fun v6 hv7 => ?_)
    have hv7 : v6 < sH (aS A) := by have := hv7; rw [nI_toInt (by omega)] at this; omega
    show WZ G (d + 110) b μL_changes 35 [.ref (gB G), .int (nI (sH (aS A))), .int (nI (sN (aS A))), .int (nI v1), lvU, lvU, lvU] [.int (nI v6), .ref (lB Λ)] (lm G Λ (xN X + 2, xP X, xW X, xR X) ext m ce) Q
    refine wl_aload_n dL_changes_35 rfl ?_
    refine wl_iconst (3 : Int32) dL_changes_36 (by decide) ?_
    refine wl_callV (As := [.int (3 : Int32)]) (S := [.int (nI v6), .ref (lB Λ)]) (b' := (0, 0)) (b := b) dL_changes_37 ML_65 ⟨0, _, rfl⟩ rfl rfl rfl (b00 _) (Nat.le_of_ble_eq_true rfl) ?_
    refine wl_draw (X := (xN X + 2, xP X, xW X, xR X)) hs (by show xN X + 2 + 1 < 2 ^ 31; omega) (by decide) (fun v8 hv9 => ?_)
    have hv9 : v8 < 3 := by have := hv9; rw [show (3 : Int32).toInt = 3 from by decide] at this; omega
    show WZ G (d + 110) b μL_changes 40 [.ref (gB G), .int (nI (sH (aS A))), .int (nI (sN (aS A))), .int (nI v1), lvU, lvU, lvU] [.int (nI v8), .int (nI v6), .ref (lB Λ)] (lm G Λ (xN X + 3, xP X, xW X, xR X) ext m ce) Q
    refine wl_callX (As := [.int (nI v6), .int (nI v8)]) (S := []) [] ce dL_changes_40 ML_196 rfl rfl (Nat.le_of_ble_eq_true rfl) ?_
    refine a_setMode (j := v6) hC (by omega) (mode3 (by omega)) (fun m10 hC11 => ?_)
    show WZ G (d + 110) b μL_changes 43 [.ref (gB G), .int (nI (sH (aS A))), .int (nI (sN (aS A))), .int (nI v1), lvU, lvU, lvU] [.int (sS (aS A) (8 * v6 + 343))] (lm G Λ (xN X + 3, xP X, xW X, xR X) ext m10 ce) Q
    refine wl_if_ge 48 dL_changes_43 (by decide) (fun _ => ?_) (fun z => absurd z (km _ (by omega)))
    refine wl_forget [.ref (gB G), lvU, lvU, .int (nI v1), lvU, lvU, lvU] ⟨Or.inl rfl, Or.inr rfl, Or.inr rfl, Or.inl rfl, Or.inl rfl, Or.inl rfl, Or.inl rfl, trivial⟩ ?_
    exact e2 v1 hv2 q5 v6 hv7 v8 hv9 m10 hC11

theorem cg_1 {G : Cx} {d : Nat} {Λ : Lc} {X : Lx} {ext : va_W} {m : Mm} {A : Ab} {ce : List (Nat × Mm)} {Q : Option Value → LM → Prop} {b : Nat × Nat} {k : Nat} (hC : CIv (atC G (lB Λ) false) m A) 
    (e1 : ¬ 0 < sL (aS A) → WZ G (d + 110) b μL_changes 122 [.ref (gB G), lvU, lvU, .int (nI k), lvU, lvU, lvU] [] (lm G Λ X ext m ce) Q)
    (e2 : 0 < sL (aS A) → WZ G (d + 110) b μL_changes 58 [.ref (gB G), lvU, lvU, .int (nI k), lvU, lvU, lvU] [] (lm G Λ X ext m ce) Q) :
    WZ G (d + 110) b μL_changes 48 [.ref (gB G), lvU, lvU, .int (nI k), lvU, lvU, lvU] [] (lm G Λ X ext m ce) Q := by
  have hn12 := hC.nn.2
  have hl6 := hC.nl.2
  have hh8 := hC.nh.2
  refine wl_aload_n dL_changes_48 rfl ?_
  refine wl_get 0 (.ref (lB Λ)) dL_changes_49 fL_10 rfl rfl ?_
  refine wl_callX (As := []) (S := []) [] ce dL_changes_52 ML_123 rfl rfl (Nat.le_of_ble_eq_true rfl) ?_
  refine a_louvreCount hC ?_
  show WZ G (d + 110) b μL_changes 55 [.ref (gB G), lvU, lvU, .int (nI k), lvU, lvU, lvU] [.int (nI (sL (aS A)))] (lm G Λ X ext m ce) Q
  refine wl_if_le 122 dL_changes_55 (by decide) (fun q1 => ?_) (fun q1 => ?_)
  · have q2 : ¬ 0 < sL (aS A) := fun y => q1 (nlt_ (a := 0) (b := sL (aS A)) y (by omega))
    exact e1 q2
  · have q3 : 0 < sL (aS A) := nlt (a := 0) (b := sL (aS A)) q1 (by omega) (by omega)
    exact e2 q3

theorem cg_2 {G : Cx} {d : Nat} {Λ : Lc} {X : Lx} {ext : va_W} {m : Mm} {A : Ab} {ce : List (Nat × Mm)} {Q : Option Value → LM → Prop} {b : Nat × Nat} {k : Nat} {R : Ru} (hC : CIv (atC G (lB Λ) false) m A) (kr : pRls (sN (aS A)) (sL (aS A)) (sH (aS A)) 502 (toks (aT A) 501 0) [] = .ok [R])
    (e1 : ∀ m1 : Mm, CIv (atC G (lB Λ) false) m1 (ldA A [R]) → WZ G (d + 110) b μL_changes 122 [.ref (gB G), lvU, lvU, .int (nI k), lvU, lvU, lvU] [] (lm G Λ X ext m1 ce) Q) :
    WZ G (d + 110) b μL_changes 109 [.ref (gB G), lvU, lvU, .int (nI k), lvU, lvU, lvU] [] (lm G Λ X ext m ce) Q := by
  have hn12 := hC.nn.2
  have hl6 := hC.nl.2
  have hh8 := hC.nh.2
  refine wl_aload_n dL_changes_109 rfl ?_
  refine wl_get 0 (.ref (lB Λ)) dL_changes_110 fL_10 rfl rfl ?_
  refine wl_callX (As := []) (S := []) [] ce dL_changes_113 ML_223 rfl rfl (Nat.le_of_ble_eq_true rfl) ?_
  refine a_loadRules (L := [R]) hC kr (fun m1 hC2 => ?_)
  show WZ G (d + 110) b μL_changes 116 [.ref (gB G), lvU, lvU, .int (nI k), lvU, lvU, lvU] [.int (1 : Int32)] (lm G Λ X ext m1 ce) Q
  refine wl_iconst (1 : Int32) dL_changes_116 (by decide) ?_
  refine wl_icmp_eq 122 dL_changes_117 (by decide) (fun _ => ?_) (fun z => absurd z (by decide))
  exact e1 m1 hC2

theorem cg_3 {G : Cx} {d : Nat} {Λ : Lc} {X : Lx} {ext : va_W} {m : Mm} {A : Ab} {ce : List (Nat × Mm)} {Q : Option Value → LM → Prop} {b : Nat × Nat} {k : Nat} (hC : CIv (atC G (lB Λ) false) m A) (hs : gSl G ≤ 260) (hx : xN X < 2 ^ 30) (hk : k < sN (aS A)) (kt : rg (sS (aS A) (11 * k + 21)) (-200000) 200000)
    (g1 : ∀ v1 : Nat, v1 < 20000 → ∀ v3 : Nat, v3 < 20000 → rg (imin (200000 : Int32) ((sS (aS A) (11 * k + 21)) + (nI v3))) (-200000) 200000)
    (g2 : ∀ v1 : Nat, v1 < 20000 → ∀ v3 : Nat, v3 < 20000 → rg (imax (-200000 : Int32) ((sS (aS A) (11 * k + 21)) - (nI v1))) (-200000) (imin (200000 : Int32) ((sS (aS A) (11 * k + 21)) + (nI v3))).toInt)
    (e1 : ∀ v1 : Nat, v1 < 20000 → ∀ v3 : Nat, v3 < 20000 → ∀ m5 : Mm, CIv (atC G (lB Λ) false) m5 (stA A (limS (sS (aS A)) k (imax (-200000 : Int32) ((sS (aS A) (11 * k + 21)) - (nI v1))) (imin (200000 : Int32) ((sS (aS A) (11 * k + 21)) + (nI v3))))) → Q (some (.int (1 : Int32))) (lm G Λ (xN X + 2, xP X, xW X, xR X) ext m5 ce)) :
    WZ G (d + 110) b μL_changes 122 [.ref (gB G), lvU, lvU, .int (nI k), lvU, lvU, lvU] [] (lm G Λ X ext m ce) Q := by
  have hn12 := hC.nn.2
  have hl6 := hC.nl.2
  have hh8 := hC.nh.2
  refine wl_aload_n dL_changes_122 rfl ?_
  refine wl_get 0 (.ref (lB Λ)) dL_changes_123 fL_10 rfl rfl ?_
  refine wl_iload_n dL_changes_126 rfl ?_
  refine wl_callX (As := [.int (nI k)]) (S := []) [] ce dL_changes_127 ML_168 rfl rfl (Nat.le_of_ble_eq_true rfl) ?_
  refine a_temperature (i := k) hC (by omega) ?_
  show WZ G (d + 110) b μL_changes 130 [.ref (gB G), lvU, lvU, .int (nI k), lvU, lvU, lvU] [.int (sS (aS A) (11 * k + 21))] (lm G Λ X ext m ce) Q
  refine wl_istore dL_changes_130 (by decide) rfl ?_
  refine wl_ldc dL_changes_132 kL_174 ?_
  refine wl_iload dL_changes_134 rfl ?_
  refine wl_aload_n dL_changes_136 rfl ?_
  refine wl_sipush (20000 : Int32) dL_changes_137 (by decide) ?_
  refine wl_callV (As := [.int (20000 : Int32)]) (S := [.int (sS (aS A) (11 * k + 21)), .int (-200000 : Int32)]) (b' := (0, 0)) (b := b) dL_changes_140 ML_65 ⟨0, _, rfl⟩ rfl rfl rfl (b00 _) (Nat.le_of_ble_eq_true rfl) ?_
  refine wl_draw (X := X) hs (by show xN X + 0 + 1 < 2 ^ 31; omega) (by decide) (fun v1 hv2 => ?_)
  have hv2 : v1 < 20000 := by have := hv2; rw [show (20000 : Int32).toInt = 20000 from by decide] at this; omega
  show WZ G (d + 110) b μL_changes 143 [.ref (gB G), lvU, lvU, .int (nI k), .int (sS (aS A) (11 * k + 21)), lvU, lvU] [.int (nI v1), .int (sS (aS A) (11 * k + 21)), .int (-200000 : Int32)] (lm G Λ (xN X + 1, xP X, xW X, xR X) ext m ce) Q
  refine wl_isub dL_changes_143 ?_
  refine wl_maxI dL_changes_144 AL_35 (Nat.le_of_ble_eq_true rfl) ?_
  refine wl_istore dL_changes_147 (by decide) rfl ?_
  refine wl_ldc dL_changes_149 kL_175 ?_
  refine wl_iload dL_changes_151 rfl ?_
  refine wl_aload_n dL_changes_153 rfl ?_
  refine wl_sipush (20000 : Int32) dL_changes_154 (by decide) ?_
  refine wl_callV (As := [.int (20000 : Int32)]) (S := [.int (sS (aS A) (11 * k + 21)), .int (200000 : Int32)]) (b' := (0, 0)) (b := b) dL_changes_157 ML_65 ⟨0, _, rfl⟩ rfl rfl rfl (b00 _) (Nat.le_of_ble_eq_true rfl) ?_
  refine wl_draw (X := (xN X + 1, xP X, xW X, xR X)) hs (by show xN X + 1 + 1 < 2 ^ 31; omega) (by decide) (fun v3 hv4 => ?_)
  have hv4 : v3 < 20000 := by have := hv4; rw [show (20000 : Int32).toInt = 20000 from by decide] at this; omega
  show WZ G (d + 110) b μL_changes 160 [.ref (gB G), lvU, lvU, .int (nI k), .int (sS (aS A) (11 * k + 21)), .int (imax (-200000 : Int32) ((sS (aS A) (11 * k + 21)) - (nI v1))), lvU] [.int (nI v3), .int (sS (aS A) (11 * k + 21)), .int (200000 : Int32)] (lm G Λ (xN X + 2, xP X, xW X, xR X) ext m ce) Q
  refine wl_iadd dL_changes_160 ?_
  refine wl_minI dL_changes_161 AL_159 (Nat.le_of_ble_eq_true rfl) ?_
  refine wl_istore dL_changes_164 (by decide) rfl ?_
  refine wl_aload_n dL_changes_166 rfl ?_
  refine wl_get 0 (.ref (lB Λ)) dL_changes_167 fL_10 rfl rfl ?_
  refine wl_iload_n dL_changes_170 rfl ?_
  refine wl_iload dL_changes_171 rfl ?_
  refine wl_iload dL_changes_173 rfl ?_
  refine wl_callX (As := [.int (nI k), .int (imax (-200000 : Int32) ((sS (aS A) (11 * k + 21)) - (nI v1))), .int (imin (200000 : Int32) ((sS (aS A) (11 * k + 21)) + (nI v3)))]) (S := []) [] ce dL_changes_175 ML_226 rfl rfl (Nat.le_of_ble_eq_true rfl) ?_
  refine a_setLimits (j := k) hC (by omega) (g1 v1 hv2 v3 hv4) (g2 v1 hv2 v3 hv4) (fun m5 hC6 => ?_)
  show WZ G (d + 110) b μL_changes 178 [.ref (gB G), lvU, lvU, .int (nI k), .int (sS (aS A) (11 * k + 21)), .int (imax (-200000 : Int32) ((sS (aS A) (11 * k + 21)) - (nI v1))), .int (imin (200000 : Int32) ((sS (aS A) (11 * k + 21)) + (nI v3)))] [.int (0 : Int32)] (lm G Λ (xN X + 2, xP X, xW X, xR X) ext m5 ce) Q
  refine wl_if_ne 220 dL_changes_178 (by decide) (fun z => absurd z (by decide)) (fun _ => ?_)
  refine wl_aload_n dL_changes_181 rfl ?_
  refine wl_get 0 (.ref (lB Λ)) dL_changes_182 fL_10 rfl rfl ?_
  refine wl_iload_n dL_changes_185 rfl ?_
  refine wl_callX (As := [.int (nI k)]) (S := []) [] ce dL_changes_186 ML_171 rfl rfl (Nat.le_of_ble_eq_true rfl) ?_
  refine a_margin (i := k) hC6 (by omega) ?_
  show WZ G (d + 110) b μL_changes 189 [.ref (gB G), lvU, lvU, .int (nI k), .int (sS (aS A) (11 * k + 21)), .int (imax (-200000 : Int32) ((sS (aS A) (11 * k + 21)) - (nI v1))), .int (imin (200000 : Int32) ((sS (aS A) (11 * k + 21)) + (nI v3)))] [.int (imin (sS (aS (stA A (limS (sS (aS A)) k (imax (-200000 : Int32) ((sS (aS A) (11 * k + 21)) - (nI v1))) (imin (200000 : Int32) ((sS (aS A) (11 * k + 21)) + (nI v3)))))) (11 * k + 21) - sS (aS (stA A (limS (sS (aS A)) k (imax (-200000 : Int32) ((sS (aS A) (11 * k + 21)) - (nI v1))) (imin (200000 : Int32) ((sS (aS A) (11 * k + 21)) + (nI v3)))))) (11 * k + 25)) (sS (aS (stA A (limS (sS (aS A)) k (imax (-200000 : Int32) ((sS (aS A) (11 * k + 21)) - (nI v1))) (imin (200000 : Int32) ((sS (aS A) (11 * k + 21)) + (nI v3)))))) (11 * k + 26) - sS (aS (stA A (limS (sS (aS A)) k (imax (-200000 : Int32) ((sS (aS A) (11 * k + 21)) - (nI v1))) (imin (200000 : Int32) ((sS (aS A) (11 * k + 21)) + (nI v3)))))) (11 * k + 21)))] (lm G Λ (xN X + 2, xP X, xW X, xR X) ext m5 ce) Q
  refine wl_iload dL_changes_189 rfl ?_
  refine wl_iload dL_changes_191 rfl ?_
  refine wl_isub dL_changes_193 ?_
  refine wl_iload dL_changes_194 rfl ?_
  refine wl_iload dL_changes_196 rfl ?_
  refine wl_isub dL_changes_198 ?_
  refine wl_minI dL_changes_199 AL_159 (Nat.le_of_ble_eq_true rfl) ?_
  refine wl_icmp_ne 220 dL_changes_202 (by decide) (fun z => absurd (lim_m2) z) (fun _ => ?_)
  refine wl_aload_n dL_changes_205 rfl ?_
  refine wl_get 0 (.ref (lB Λ)) dL_changes_206 fL_10 rfl rfl ?_
  refine wl_iload_n dL_changes_209 rfl ?_
  refine wl_callX (As := [.int (nI k)]) (S := []) [] ce dL_changes_210 ML_171 rfl rfl (Nat.le_of_ble_eq_true rfl) ?_
  refine a_margin (i := k) hC6 (by omega) ?_
  show WZ G (d + 110) b μL_changes 213 [.ref (gB G), lvU, lvU, .int (nI k), .int (sS (aS A) (11 * k + 21)), .int (imax (-200000 : Int32) ((sS (aS A) (11 * k + 21)) - (nI v1))), .int (imin (200000 : Int32) ((sS (aS A) (11 * k + 21)) + (nI v3)))] [.int (imin (sS (aS (stA A (limS (sS (aS A)) k (imax (-200000 : Int32) ((sS (aS A) (11 * k + 21)) - (nI v1))) (imin (200000 : Int32) ((sS (aS A) (11 * k + 21)) + (nI v3)))))) (11 * k + 21) - sS (aS (stA A (limS (sS (aS A)) k (imax (-200000 : Int32) ((sS (aS A) (11 * k + 21)) - (nI v1))) (imin (200000 : Int32) ((sS (aS A) (11 * k + 21)) + (nI v3)))))) (11 * k + 25)) (sS (aS (stA A (limS (sS (aS A)) k (imax (-200000 : Int32) ((sS (aS A) (11 * k + 21)) - (nI v1))) (imin (200000 : Int32) ((sS (aS A) (11 * k + 21)) + (nI v3)))))) (11 * k + 26) - sS (aS (stA A (limS (sS (aS A)) k (imax (-200000 : Int32) ((sS (aS A) (11 * k + 21)) - (nI v1))) (imin (200000 : Int32) ((sS (aS A) (11 * k + 21)) + (nI v3)))))) (11 * k + 21)))] (lm G Λ (xN X + 2, xP X, xW X, xR X) ext m5 ce) Q
  refine wl_if_lt 220 dL_changes_213 (by decide) (fun z => absurd z (lim_m1 kt (by omega) (by omega))) (fun _ => ?_)
  refine wl_iconst (1 : Int32) dL_changes_216 (by decide) ?_
  refine wl_goto 221 dL_changes_217 (by decide) ?_
  exact wl_zret dL_changes_221 rfl rfl (e1 v1 hv2 v3 hv4 m5 hC6)

