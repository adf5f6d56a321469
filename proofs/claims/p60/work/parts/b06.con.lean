/-! DROPPING; CONTRACTS: balances, sheds -/
theorem RepL.drop {G : Cx} {ws e : va_W} {cs ds : List (Nat × Mm)} {H : Heap} (h : RepL G (ws ++ e, cs ++ ds) H) : RepL G (ws, cs) H := by
  obtain ⟨h1, h2, h3, h4⟩ := h
  have hs : (ful G (ws, cs)).Sublist (ful G (ws ++ e, cs ++ ds)) := by
    show (ws ++ crf G cs).Sublist ((ws ++ e) ++ crf G (cs ++ ds))
    refine List.Sublist.append (List.sublist_append_left _ _) ?_
    unfold crf
    rw [List.flatMap_append]
    exact List.sublist_append_left _ _
  refine ⟨h1, fun k q hk => ?_, ⟨h3.1.sublist (hs.map _), fun a ha => h3.2 a ((hs.map _).subset ha)⟩, fun c hc => h4 c (List.mem_append_left _ hc)⟩
  obtain ⟨i, hi⟩ := List.getElem?_of_mem (hs.subset (List.mem_of_getElem? hk))
  exact h2 i q hi
theorem WZ.drop {G : Cx} {d : Nat} {b : Nat × Nat} {μ : MI} {pc : Nat} {L S : List Value} {ws : va_W} {cs : List (Nat × Mm)} {Q : Option Value → LM → Prop} (e : va_W) (ds : List (Nat × Mm)) (h : WZ G d b μ pc L S (ws, cs) Q) : WZ G d b μ pc L S (ws ++ e, cs ++ ds) Q := by
  intro p ev R s mi args below meth c H locs cells slots ls F hR hS hL
  exact h p ev R s mi args below meth c H locs cells slots ls F hR.drop hS hL
theorem WZ.dropL {G : Cx} {d : Nat} {b : Nat × Nat} {μ : MI} {pc : Nat} {L S : List Value} {Λ : Lc} {X : Lx} {ext : va_W} {m : Mm} {Q : Option Value → LM → Prop} (ds : List (Nat × Mm)) (h : WZ G d b μ pc L S (lm G Λ X [] m []) Q) : WZ G d b μ pc L S (lm G Λ X ext m ds) Q :=
  WZ.drop (ws := lws G Λ X []) (cs := [(lB Λ, m)]) ext ds h
/-- the craft, good for the law -/
def LX (s : Sc) (X : Lx) : Prop := (∀ j, j < sH s → xP X j = sS s (8 * j + 342) ∧ xW X j = sS s (8 * j + 339)) ∧ ∀ l, l < sL s → xR X l = sS s (7 * l + 300)
theorem LJ.ao {T : Int} {s : Sc} (h : GdT T s) (hJ : LJ s) {i : Nat} (hi : i < sN s) : AO (sS s) (sL s) i := ⟨(hJ.1 i hi).1, (h.nd hi).2.1, hJ.2.1⟩
section CON
variable {G : Cx} {d : Nat} {Λ : Lc} {X : Lx} {ext : va_W} {m : Mm} {A : Ab} {ce : List (Nat × Mm)} {Q : Option Value → LM → Prop}
theorem CIv.sym (hC : CIv G m A) {i j : Nat} (hi : i < sN (aS A)) (hj : j < sN (aS A)) : sS (aS A) (12 * i + j + 152) = sS (aS A) (12 * j + i + 152) := by
  have h := hC.cr.2.2.2.1
  rw [h i j hi hj, h j i hj hi, lkV_sym]
theorem w_balances (hC : CIv (atC G (lB Λ) false) m A) (hJ : LJ (aS A)) (hQ : ∀ m', CIv (atC G (lB Λ) false) m' A → Q (some (.int (1 : Int32))) (lm G Λ X ext m' ce)) : WZM G (d + 20) (0, 0) μL_balances [.ref (gB G)] (lm G Λ X ext m ce) Q := by
  have hg := hC.gd
  have n12 := hg.n12
  have h8 := hg.h8
  have l6 := hg.l6
  have hp : ∀ h, h < sH (aS A) → rg (sS (aS A) (8 * h + 339)) 0 100000 := fun h hh => (hg.he hh).2.1
  have et : cdT (sS (aS A)) (sN (aS A)) (sN (aS A)) = 0 := cdT_m n12 (fun j hj => (hg.nd hj).2.1) (fun i j hi hj => hC.sym hi hj)
  have eh : htS (sS (aS A)) (sH (aS A)) (sN (aS A)) = Int32.toInt64 (upF (sS (aS A)) (sH (aS A))) := (htS_m n12 (fun h hh => (hg.he hh).1) _ (Nat.le_refl _)).trans (upF_L _ h8 hp).1.symm
  have loop2 : ∀ k i m, i + k = sN (aS A) → CIv (atC G (lB Λ) false) m A → WZ G (d + 20) (0, 0) μL_balances 130 [.ref (gB G), .long (Int32.toInt64 (upF (sS (aS A)) (sH (aS A)))), lvU, .int (nI (sN (aS A))), .long (cdT (sS (aS A)) (sN (aS A)) i), lvU, .int (nI i), lvU, lvU] [] (lm G Λ X ext m ce) Q := by
    intro k
    induction k with
    | zero =>
      intro i m hi hC
      have e : i = sN (aS A) := by omega
      refine ba_2 hC (by omega) (fun _ => ⟨by rw [e]; exact et, rfl⟩) (fun _ => hQ m hC) (fun z => absurd z (by omega))
    | succ k ih =>
      intro i m hi hC
      exact ba_2 hC (by omega) (fun z => absurd (show i < sN (aS A) by omega) z) (fun z => absurd (show i < sN (aS A) by omega) z) (fun _ m4 h4 => ih (i + 1) m4 (by omega) h4)
  have loop1 : ∀ k i m, i + k = sN (aS A) → CIv (atC G (lB Λ) false) m A → WZ G (d + 20) (0, 0) μL_balances 13 [.ref (gB G), .long (htS (sS (aS A)) (sH (aS A)) i), lvU, .int (nI (sN (aS A))), .int (nI i), lvU, lvU, lvU, lvU] [] (lm G Λ X ext m ce) Q := by
    intro k
    induction k with
    | zero =>
      intro i m hi hC
      have e : i = sN (aS A) := by omega
      refine ba_1 hC (by omega) (fun z => absurd z (by omega)) (fun _ => ?_) (fun z => absurd z (by omega))
      rw [e, eh]
      exact loop2 (sN (aS A)) 0 m (by omega) hC
    | succ k ih =>
      intro i m hi hC
      refine ba_1 hC (by omega) (fun hi => ?_) (fun z => absurd (show i < sN (aS A) by omega) z) (fun hi m4 _ m6 _ m8 _ m10 _ m12 _ m14 h14 => ?_)
      · have e1 := em_rg (LJ.ao hg hJ hi) l6
        have e2 := ab_rg hJ.2.2.1 (hJ.1 i hi).1 (hJ.1 i hi).2.1
        have e3 := ht_rg (i := i) h8 hp _ (Nat.le_refl _)
        have e4 := cd_rg n12 hi (fun j hj => (hg.nd hj).2.1) _ (Nat.le_refl _)
        have e5 := toLr (hJ.1 i hi).2.2.1
        refine ⟨net_ok e5 ⟨e3.1, by omega⟩ e2 ⟨by omega, by omega⟩ e1, ?_, ?_⟩
        · rw [Int64.lt_iff_toInt_lt]
          have : (0 : Int64).toInt = 0 := by decide
          omega
        · rw [Int64.lt_iff_toInt_lt]
          have : (0 : Int64).toInt = 0 := by decide
          omega
      · have e : ∀ z l h a c q : Int64, z + (l + h + a + c - q - (l + a + c - q)) = z + h := fun z l h a c q => by grind
        rw [e]
        exact ih (i + 1) m14 (by omega) h14
  exact ba_0 hC (loop1 (sN (aS A)) 0 m (by omega) hC)
theorem w_sheds (hC : CIv (atC G (lB Λ) false) m A) (hX : LX (aS A) X) (hS : ShO (sS (aS A)) (sH (aS A))) (hQ : Q (some (.int (1 : Int32))) (lm G Λ X ext m ce)) : WZM G (d + 20) (0, 0) μL_sheds [.ref (gB G)] (lm G Λ X ext m ce) Q := by
  have h8 := hC.gd.h8
  have loop : ∀ k i, i + k = sH (aS A) → WZ G (d + 20) (0, 0) μL_sheds 10 [.ref (gB G), .int (nI (sH (aS A))), .int (nI i), lvU, lvU] [] (lm G Λ X ext m ce) Q := by
    intro k
    induction k with
    | zero =>
      intro i hi
      exact sh_1 hC (by omega) (fun _ => hQ) (fun z => absurd z (by omega))
    | succ k ih =>
      intro i hi
      refine sh_1 hC (by omega) (fun z => absurd (show i < sH (aS A) by omega) z) (fun hi' => ?_)
      have inner : ∀ q j, j + q = sH (aS A) → WZ G (d + 20) (0, 0) μL_sheds 17 [.ref (gB G), .int (nI (sH (aS A))), .int (nI i), .int (nI j), lvU] [] (lm G Λ X ext m ce) Q := by
        intro q
        induction q with
        | zero =>
          intro j hj
          exact sh_2 hC hi' (by omega) (fun z => absurd z (by omega)) (fun _ => ih (i + 1) (by omega)) (fun z => absurd z (by omega)) (fun z => absurd z (by omega)) (fun z => absurd z (by omega)) (fun z => absurd z (by omega)) (fun z => absurd z (by omega)) (fun z => absurd z (by omega)) (fun z => absurd z (by omega)) (fun z => absurd z (by omega))
        | succ q ihq =>
          intro j hj
          have n := ihq (j + 1) (by omega)
          refine sh_2 hC hi' (by omega) (fun hj' ha h2 h1 => ?_) (fun z => absurd (show j < sH (aS A) by omega) z) (fun _ _ _ => n) (fun _ _ _ _ => n) (fun _ _ _ _ => n) (fun _ _ _ => n) (fun _ _ _ _ => n) (fun _ _ _ _ _ => n) (fun _ _ _ _ _ _ => n) (fun _ _ _ _ _ _ => n)
          rw [(hX.1 i hi').1, (hX.1 j hj').1] at ha
          rw [(hX.1 i hi').2, (hX.1 j hj').2, Int32.lt_iff_toInt_lt]
          exact hS i j hi' hj' ha h2 h1
      exact inner (sH (aS A)) 0 (by omega)
  exact sh_0 hC (loop (sH (aS A)) 0 (by omega))
end CON
