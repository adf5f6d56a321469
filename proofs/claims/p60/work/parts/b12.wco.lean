/-! CONTRACT: cools -/
section WCO
variable {G : Cx} {d : Nat} {Λ : Lc} {X X' : Lx} {ext : va_W} {m m' : Mm} {A : Ab} {ce : List (Nat × Mm)} {Q : Option Value → LM → Prop} {T T' : Int}
theorem orbS_v {st : Nat → Int32} {x y z w u v : Int32} : orbS st x y z w u v 3 = y ∧ orbS st x y z w u v 4 = z ∧ orbS st x y z w u v 5 = w ∧ orbS st x y z w u v 6 = u ∧ orbS st x y z w u v 7 = v := ⟨rfl, rfl, rfl, rfl, rfl⟩
theorem LJ.orb {s : Sc} {x y z w u v : Int32} (hJ : LJ s) (hw : rg w 0 10000) (hu : rg u 0 100) (hv : rg v 0 10000) : LJ (orbS (sS s) x y z w u v, s.2) := by
  obtain ⟨j1, j2, j3, j6, j7⟩ := hJ
  refine ⟨fun i hi => ?_, fun l hl => ?_, ⟨hw, hu, hv⟩, j6, j7⟩
  · show rg (orbS (sS s) x y z w u v (11 * i + 22)) 0 10000 ∧ rg (orbS (sS s) x y z w u v (11 * i + 23)) 0 10000 ∧ rg (orbS (sS s) x y z w u v (11 * i + 24)) 0 1000000 ∧ rg (orbS (sS s) x y z w u v (11 * i + 25)) (-200000) 200000 ∧ rg (orbS (sS s) x y z w u v (11 * i + 26)) (-200000) 200000 ∧ (orbS (sS s) x y z w u v (11 * i + 30) = -1 ∨ rg (orbS (sS s) x y z w u v (11 * i + 30)) 0 (orbS (sS s) x y z w u v 0).toInt)
    rw [orbS_ne (by omega), orbS_ne (by omega), orbS_ne (by omega), orbS_ne (by omega), orbS_ne (by omega), orbS_ne (by omega), orbS_ne (by omega)]
    exact j1 i hi
  · show rg (orbS (sS s) x y z w u v (7 * l + 297)) 0 10000 ∧ rg (orbS (sS s) x y z w u v (7 * l + 301)) 0 1000
    rw [orbS_ne (by omega), orbS_ne (by omega)]
    exact j2 l hl
theorem LG.orb {x y z w u v : Int32} (h : LG G Λ T X m A) (hw : rg w 0 10000) (hu : rg u 0 100) (hv : rg v 0 10000) (hC : CIv (atC G (lB Λ) false) m' (stA A (orbS (sS (aS A)) x y z w u v))) : LG G Λ T X m' (stA A (orbS (sS (aS A)) x y z w u v)) := by
  obtain ⟨h1, h2, h3, h4, h5⟩ := h
  refine ⟨hC, h2.orb hw hu hv, ⟨fun j hj => ?_, fun l hl => ?_⟩, h4, ?_⟩
  · show xP X j = orbS (sS (aS A)) x y z w u v (8 * j + 342) ∧ xW X j = orbS (sS (aS A)) x y z w u v (8 * j + 339)
    rw [orbS_ne (by omega), orbS_ne (by omega)]
    exact h3.1 j hj
  · show xR X l = orbS (sS (aS A)) x y z w u v (7 * l + 300)
    rw [orbS_ne (by omega)]
    exact h3.2 l hl
  · show (orbS (sS (aS A)) x y z w u v 0).toInt ≤ T
    rw [orbS_ne (by omega)]
    exact h5
theorem LG.s (h : LG G Λ T X m A) {A' : Ab} (hs : aS A' = aS A) (hC : CIv (atC G (lB Λ) false) m' A') : LG G Λ T X m' A' := by
  obtain ⟨h1, h2, h3, h4, h5⟩ := h
  unfold LG
  rw [hs]
  exact ⟨hC, h2, h3, h4, h5⟩
theorem w_cools (h : LG G Λ T X m A) (hT : T + 60 ≤ 100000000) (hs : gSl G ≤ 260) (hx : xN X + 100 < 2 ^ 30) (hQ : ∀ m' A' ext', LG G Λ T (xN X + 3, X.2) m' A' → Q (some (.int (1 : Int32))) (lm G Λ (xN X + 3, X.2) ext' m' ce)) : WZM G (d + 20) (1, 12) μL_cools [.ref (gB G)] (lm G Λ X [] m ce) Q := by
  have step1 : ∀ s : Sc, (sS s 0).toInt ≤ T → rg (sS s 1) 1 60 → (sS s 0).toInt + ((1 : Nat) : Int) * (sS s 1).toInt ≤ 100000000 := fun s h1 h2 => by
    have := h2.2
    omega
  have mk : ∀ m1, CIv (atC G (lB Λ) false) m1 (((A).1, svV A 0, (A).2.2) : Ab) → ∀ m3, CIv (atC G (lB Λ) false) m3 (stA (((A).1, svV A 0, (A).2.2) : Ab) (orbS (sS (aS (((A).1, svV A 0, (A).2.2) : Ab))) (1000 : Int32) (0 : Int32) (0 : Int32) (3000 : Int32) (50 : Int32) (300 : Int32))) → LG G Λ T X m3 (stA (((A).1, svV A 0, (A).2.2) : Ab) (orbS (sS (aS (((A).1, svV A 0, (A).2.2) : Ab))) (1000 : Int32) (0 : Int32) (0 : Int32) (3000 : Int32) (50 : Int32) (300 : Int32))) := fun m1 c1 m3 c3 => (h.s (A' := (((A).1, svV A 0, (A).2.2) : Ab)) rfl c1).orb ⟨by decide, by decide⟩ ⟨by decide, by decide⟩ ⟨by decide, by decide⟩ c3
  refine cz_0 (ext := []) h.c (fun m1 c1 m3 c3 m5 c5 => ?_) (fun m1 c1 m3 c3 m5 c5 m7 c7 a9 => ?_)
  · have hB := mk m1 c1 m3 c3
    exact step1 _ hB.2.2.2.2 hB.g.g.2.1
  · have hB := mk m1 c1 m3 c3
    have z2 : sS (aS (stA (((A).1, svV A 0, (A).2.2) : Ab) (orbS (sS (aS (((A).1, svV A 0, (A).2.2) : Ab))) (1000 : Int32) (0 : Int32) (0 : Int32) (3000 : Int32) (50 : Int32) (300 : Int32)))) 2 = 1000 := rfl
    have z3 : sS (aS (stA (((A).1, svV A 0, (A).2.2) : Ab) (orbS (sS (aS (((A).1, svV A 0, (A).2.2) : Ab))) (1000 : Int32) (0 : Int32) (0 : Int32) (3000 : Int32) (50 : Int32) (300 : Int32)))) 3 = 0 := rfl
    have z4 : sS (aS (stA (((A).1, svV A 0, (A).2.2) : Ab) (orbS (sS (aS (((A).1, svV A 0, (A).2.2) : Ab))) (1000 : Int32) (0 : Int32) (0 : Int32) (3000 : Int32) (50 : Int32) (300 : Int32)))) 4 = 0 := rfl
    have z5 : sS (aS (stA (((A).1, svV A 0, (A).2.2) : Ab) (orbS (sS (aS (((A).1, svV A 0, (A).2.2) : Ab))) (1000 : Int32) (0 : Int32) (0 : Int32) (3000 : Int32) (50 : Int32) (300 : Int32)))) 5 = 3000 := rfl
    have z6 : sS (aS (stA (((A).1, svV A 0, (A).2.2) : Ab) (orbS (sS (aS (((A).1, svV A 0, (A).2.2) : Ab))) (1000 : Int32) (0 : Int32) (0 : Int32) (3000 : Int32) (50 : Int32) (300 : Int32)))) 6 = 50 := rfl
    have z7 : sS (aS (stA (((A).1, svV A 0, (A).2.2) : Ab) (orbS (sS (aS (((A).1, svV A 0, (A).2.2) : Ab))) (1000 : Int32) (0 : Int32) (0 : Int32) (3000 : Int32) (50 : Int32) (300 : Int32)))) 7 = 300 := rfl
    clear mk
    generalize stA (((A).1, svV A 0, (A).2.2) : Ab) (orbS (sS (aS (((A).1, svV A 0, (A).2.2) : Ab))) (1000 : Int32) (0 : Int32) (0 : Int32) (3000 : Int32) (50 : Int32) (300 : Int32)) = B at c3 c5 c7 hB z2 z3 z4 z5 z6 z7 ⊢
    have n12 := hB.g.n12
    obtain ⟨A7, hA7⟩ : ∃ A7 : Ab, A7 = (sp (aS B), svV B 0, B.2.2) := ⟨_, rfl⟩
    have c7' : CIv (atC G (lB Λ) false) m7 A7 := by
      rw [hA7]
      exact c7
    have e7 : aS A7 = sp (aS B) := by rw [hA7]
    have eN : sN (aS B) = sN (aS A7) := by rw [e7]; rfl
    have eV : aV A7 0 = some (aS B) := by rw [hA7]; rfl
    have eg : ∀ k, k < sN (aS B) → rg (sS (aS B) 0) 0 100000000 := fun _ _ => hB.g.g.1
    -- after the hot step
    have P3 : ∀ (f1 : Nat → Int32), (∀ j, j < sN (aS B) → f1 j = sS (sp (aS B)) (11 * j + 21)) → WZ G (d + 20) (0, 0) μL_cools 94 [.ref (gB G), .int (nI (sN (aS B))), .ref a9, lvU] [] (lm G Λ X [(((a9, Sum.inl (gY G 21, sN (aS B), Sum.inl f1)) : Nat × va_E))] m7 ce) Q := by
      intro f1 hf
      refine cz_2 (ext := []) (sv := aS B) c7' hs (by omega) eV (fun m1 c1 v3 _ v5 _ v7 _ m9 c9 => ?_) (fun m1 c1 v3 hv3 v5 hv5 v7 hv7 m9 c9 m11 c11 => ?_)
      · exact step1 _ hB.2.2.2.2 hB.g.g.2.1
      · have hB1 : LG G Λ T X m1 (((aS B), A7.2) : Ab) := hB.s rfl c1
        have hB2 := hB1.orb (x := 1000) (y := 0) (z := 0) (rgn (v := v3) (a := 0) (b := 10000) (by omega) (by omega) (by omega)) (rgn (v := v5) (a := 0) (b := 100) (by omega) (by omega) (by omega)) (rgn (v := v7) (a := 0) (b := 10000) (by omega) (by omega) (by omega)) c9
        obtain ⟨s2, hs2⟩ : ∃ s2 : Sc, s2 = (orbS (sS (aS B)) 1000 0 0 (nI v3) (nI v5) (nI v7), (aS B).2) := ⟨_, rfl⟩
        obtain ⟨A11, hA11⟩ : ∃ A11 : Ab, A11 = (sp s2, A7.2) := ⟨_, rfl⟩
        have g2 : GdT 100000000 s2 := by rw [hs2]; exact hB2.g
        have J2 : LJ s2 := by rw [hs2]; exact hB2.2.1
        have ag : Ag (sS s2) (sS (aS B)) := fun k hk => by
          rw [hs2]
          show orbS (sS (aS B)) 1000 0 0 (nI v3) (nI v5) (nI v7) k = sS (aS B) k
          by_cases q : k < 2 ∨ 8 ≤ k
          · exact orbS_ne q
          · have : k = 2 ∨ k = 3 ∨ k = 4 := by omega
            rcases this with e | e | e
            · rw [e, z2]
              rfl
            · rw [e, z3]
              rfl
            · rw [e, z4]
              rfl
        have c11' : CIv (atC G (lB Λ) false) m11 A11 := by
          rw [hA11, hs2]
          exact c11
        have eN11 : sN (aS B) = sN (aS A11) := by rw [hA11, hs2]; rfl
        have eV11 : aV A11 0 = some (aS B) := by
          rw [hA11]
          exact eV
        have cool : ∀ i, i < sN (aS B) → ¬ f1 i < sS (aS A11) (11 * i + 21) := fun i hi => by
          rw [hf i hi, hA11]
          refine cool_t hB.g g2 hB.2.1 J2 (by rw [hs2]) ag z3 z4 ?_ ?_ ?_ hi
          · rw [z5, hs2]
            show (nI v3).toInt ≤ _
            rw [nI_toInt (by omega), show (3000 : Int32).toInt = 3000 from by decide]
            omega
          · rw [z6, hs2]
            show (nI v5).toInt ≤ _
            rw [nI_toInt (by omega), show (50 : Int32).toInt = 50 from by decide]
            omega
          · rw [z7, hs2]
            show (nI v7).toInt ≤ _
            rw [nI_toInt (by omega), show (300 : Int32).toInt = 300 from by decide]
            omega
        have loop : ∀ k i, i + k = sN (aS B) → WZ G (d + 20) (0, 0) μL_cools 155 [.ref (gB G), .int (nI (sN (aS B))), .ref a9, .int (nI i)] [] (lm G Λ (xN X + 3, X.2) [(((a9, Sum.inl (gY G 21, sN (aS B), Sum.inl f1)) : Nat × va_E))] m11 ce) Q := by
          intro k
          induction k with
          | zero =>
            intro i hi
            have e0 : i = sN (aS B) := by omega
            subst e0
            have no : ¬ sN (aS B) < sN (aS B) := Nat.lt_irrefl _
            exact cz_3 (ext := []) (sv := aS B) c11' eN11 (Nat.le_refl _) (fun z => absurd z no) (fun _ => eV11) (fun _ m3 c3 => hQ m3 _ _ ((hB.s (A' := ((aS B, A11.2) : Ab)) rfl c3).x rfl)) (fun z => absurd z no)
          | succ k ih =>
            intro i hi
            have hi' : i < sN (aS B) := by omega
            exact cz_3 (ext := []) (sv := aS B) c11' eN11 (Nat.le_of_lt hi') (fun z => cool i z) (fun z => absurd hi' z) (fun z => absurd hi' z) (fun _ => ih (i + 1) (by omega))
        exact loop (sN (aS B)) 0 (by omega)
    have P1 : ∀ k i (f1 : Nat → Int32), (∀ j, j < i → f1 j = sS (sp (aS B)) (11 * j + 21)) → i + k = sN (aS B) → WZ G (d + 20) (0, 0) μL_cools 72 [.ref (gB G), .int (nI (sN (aS B))), .ref a9, .int (nI i)] [] (lm G Λ X [(((a9, Sum.inl (gY G 21, sN (aS B), Sum.inl f1)) : Nat × va_E))] m7 ce) Q := by
      intro k
      induction k with
      | zero =>
        intro i f1 hf hi
        have e0 : i = sN (aS B) := by omega
        subst e0
        have no : ¬ sN (aS B) < sN (aS B) := Nat.lt_irrefl _
        exact cz_1 (ext := []) c7' eN (Nat.le_refl _) (fun _ => P3 f1 hf) (fun z => absurd z no)
      | succ k ih =>
        intro i f1 hf hi
        have hi' : i < sN (aS B) := by omega
        refine cz_1 (ext := []) c7' eN (Nat.le_of_lt hi') (fun z => absurd hi' z) (fun _ => ih (i + 1) _ (fun j hj => ?_) (by omega))
        by_cases e : j = i
        · subst e
          rw [upd_eq, e7]
        · rw [upd_ne e]
          exact hf j (by omega)
    exact P1 (sN (aS B)) 0 _ (fun j hj => absurd hj (Nat.not_lt_zero _)) (by omega)
end WCO
