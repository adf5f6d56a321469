/-! COPYING ARRAYS OF INTS -/
theorem wp_copyi {G : Cx} {d : Nat} {b : Nat × Nat} {μ : MI} {pc idx : Nat} {L S : List Value} {m : Mm} {Q : Option Value → Mm → Prop} {a0 a n0 n1 : Nat} {sp dp n : Int32} (sx dx nx : Nat) (hd : decode μ.2.1 pc = .ok (.invokestatic idx, 3)) (hl : Cond.methodLink μ.1.cls idx arraycopyName ∈ tbG) (hk0 : isK G m a0 21) (hk1 : isK G m a 21) (hl0 : ln (a0 - gB G) = n0) (hl1 : ln (a - gB G) = n1) (h1 : ¬ sp < 0) (h2 : ¬ dp < 0) (h3 : ¬ n < 0) (e1 : sp.toNatClampNeg = sx) (e2 : dp.toNatClampNeg = dx) (e3 : n.toNatClampNeg = nx) (h4 : sx + nx ≤ n0) (h5 : dx + nx ≤ n1) (hw : (S.map fun v => v.category).sum ≤ 8)
    (kk : WP G (d + 1) b μ (pc + 3) L S (waf m a (va_cpy (ai m a0) (ai m a) sx dx nx)) Q) : WP G (d + 1) b μ pc L (.int n :: .int dp :: .ref a :: .int sp :: .ref a0 :: S) m Q := by
  intro p e R s mi args below meth c H locs cells slots ls F hR hS hL
  obtain ⟨j0, rfl, hj0, hq0⟩ := hk0
  obtain ⟨j1, rfl, hj1, hq1⟩ := hk1
  rw [Nat.add_sub_cancel_left] at hl0 hl1
  subst hl0; subst hl1; subst e1; subst e2; subst e3
  have hts := F.2.2.2.2.2.1
  obtain ⟨g1, g2, -, -⟩ := F.2.2.2.2.2.2.2.2.1
  have toI : ∀ z : Int32, ¬ z < 0 → z.toInt = (z.toNatClampNeg : Int) := by
    intro z hz
    rw [Int32.lt_iff_toInt_lt] at hz
    have hz0 : (0 : Int32).toInt = 0 := rfl
    show z.toInt = ((z.toInt.toNat : Nat) : Int)
    omega
  have c0 : H[gB G + j0]? = some (vp_cell (gY G 21) (ln j0, .inl (ai m (gB G + j0)))) := by
    have z := hR.1 j0 (gB G + j0, .inl (gY G 21, ln j0, .inl (ai m (gB G + j0)))) (by rw [wld_at hj0, cel_int hq0 (by simp)])
    exact z
  have c1 : H[gB G + j1]? = some (vp_cell (gY G 21) (ln j1, .inl (ai m (gB G + j1)))) := by
    have z := hR.1 j1 (gB G + j1, .inl (gY G 21, ln j1, .inl (ai m (gB G + j1)))) (by rw [wld_at hj1, cel_int hq1 (by simp)])
    exact z
  have hA : ArrOfT s (gY G 21) .int := arrK F (k := 1) rfl
  obtain ⟨-, k0, hk0, cm0, hkk0⟩ := hA (ln j0) (fun j => .int (ai m (gB G + j0) j))
  obtain ⟨-, k1, hk1, cm1, hkk1⟩ := hA (ln j1) (fun j => .int (ai m (gB G + j1) j))
  intro T hT X
  obtain ⟨vm', X', step⟩ := X.arraycopy F.1 F.2.2.2.2.1 (hts _ hl) (hts _ Ync) (hts _ Yst) (hts _ Yin) (src := gB G + j0) (dst := gB G + j1) (cs := vp_cell (gY G 21) (ln j0, .inl (ai m (gB G + j0)))) (cd := vp_cell (gY G 21) (ln j1, .inl (ai m (gB G + j1)))) (srcPos := sp) (destPos := dp) (n := n) (by rw [hT]; exact c0) (by rw [hT]; exact c1)
    (fun _ h => by cases h) (fun _ h => by cases h) (fun h => by cases h) (fun h => by cases h) hk0 hk1 hkk0 hkk1 (by simp [refKind]) h1 h2 h3
    (by rw [toI sp h1, toI n h3]; show ¬ _ > ((arrV (gY G 21) (ln j0) _).slots.size : Int); rw [arrV_size]; omega)
    (by rw [toI dp h2, toI n h3]; show ¬ _ > ((arrV (gY G 21) (ln j1) _).slots.size : Int); rw [arrV_size]; omega)
    (fun vm₁ _ i hi => by
      have e : (vp_cell (gY G 21) (ln j0, .inl (ai m (gB G + j0)))).slots.getD (sp.toNatClampNeg + i) .null = .int (ai m (gB G + j0) (sp.toNatClampNeg + i)) := by
        show (arrV (gY G 21) (ln j0) (fun j => .int (ai m (gB G + j0) j))).slots.getD _ _ = _
        rw [Array.getD_eq_getD_getElem?, arrV_read _ _ (by omega)]
        rfl
      rw [e]
      exact ⟨rfl, trivial⟩)
    (g := F0 mi pc ls (.int n :: .int dp :: .ref (gB G + j1) :: .int sp :: .ref (gB G + j0) :: S)) rfl (hL.1.trans F.2.2.1.symm) (rest := S) rfl (by rw [F.2.1]; exact hd) (by omega) (by
      have : nativeFrameWords "java/lang/System" "arraycopy" 5 = 7 := by decide +kernel
      rw [this]
      show 2 * 0 + _ + _ ≤ _
      omega)
  have ec : copied (vp_cell (gY G 21) (ln j0, .inl (ai m (gB G + j0)))) (vp_cell (gY G 21) (ln j1, .inl (ai m (gB G + j1)))) sp dp n = vp_cell (gY G 21) (ln j1, .inl (va_cpy (ai m (gB G + j0)) (ai m (gB G + j1)) sp.toNatClampNeg dp.toNatClampNeg n.toNatClampNeg)) := va_copied (fun z => .int z) _ _ _ _ h4
  rw [ec] at X' step
  have hl : gB G + j1 < H.size := (Array.getElem?_eq_some_iff.mp c1).1
  have hz : (H.setIfInBounds (gB G + j1) (vp_cell (gY G 21) (ln j1, .inl (va_cpy (ai m (gB G + j0)) (ai m (gB G + j1)) sp.toNatClampNeg dp.toNatClampNeg n.toNatClampNeg)))).size = H.size := by simp
  have oq : ∀ q : Nat, q ≠ gB G + j1 → (H.setIfInBounds (gB G + j1) (vp_cell (gY G 21) (ln j1, .inl (va_cpy (ai m (gB G + j0)) (ai m (gB G + j1)) sp.toNatClampNeg dp.toNatClampNeg n.toNatClampNeg))))[q]? = H[q]? := fun q hq => by simp [Array.getElem?_setIfInBounds, Ne.symm hq]
  have hq : ai (waf m (gB G + j1) (va_cpy (ai m (gB G + j0)) (ai m (gB G + j1)) sp.toNatClampNeg dp.toNatClampNeg n.toNatClampNeg)) (gB G + j1) = va_cpy (ai m (gB G + j0)) (ai m (gB G + j1)) sp.toNatClampNeg dp.toNatClampNeg n.toNatClampNeg := by
    funext k
    exact if_pos rfl
  have key := fun (locs1 : List Loc) (hlo : ∀ q ∈ locs1, fr G q.base) => kk p e R s mi args below meth c _ locs1 cells slots ls F (hR.set (e := .inl (gY G 21, ln j1, .inl (va_cpy (ai m (gB G + j0)) (ai m (gB G + j1)) sp.toNatClampNeg dp.toNatClampNeg n.toNatClampNeg))) hj1 rfl (by rw [cel_int hq1 (by simp), hq]) (fun i hi => cel_waf (gbne hi)) (show (H.setIfInBounds (gB G + j1) _)[gB G + j1]? = some _ by simp [Array.getElem?_setIfInBounds, hl]) hz oq) ⟨by rw [hz]; exact hS.1, fun q q1 q2 => by
      rw [oq q (fun z => q2 (by rw [z]; exact hR.fr hj1))]
      exact hS.2.1 q q1 q2, hlo⟩ hL
  have hheap : ((T.setVm vm').setCell (gB G + j1) (vp_cell (gY G 21) (ln j1, .inl (va_cpy (ai m (gB G + j0)) (ai m (gB G + j1)) sp.toNatClampNeg dp.toNatClampNeg n.toNatClampNeg)))).heap = H.setIfInBounds (gB G + j1) (vp_cell (gY G 21) (ln j1, .inl (va_cpy (ai m (gB G + j0)) (ai m (gB G + j1)) sp.toNatClampNeg dp.toNatClampNeg n.toNatClampNeg))) := by rw [← hT]; rfl
  obtain ⟨t, b1, b2⟩ := key _ (fun q hq => by
      rcases List.mem_append.mp hq with h | h
      · exact hS.2.2 q h
      · obtain ⟨z, -, hz⟩ := List.mem_map.mp h
        rw [← hz]
        exact hR.fr hj1) _ hheap X'
  exact ⟨t, step t b1, b2⟩
theorem Full_wafz {G : Cx} {m : Mm} (a : Nat) (f : Nat → Int32) (h : Full G m) : Full G (waf m a f) := h
section WAF
variable {m : Mm} {a c g j : Nat} {f : Nat → Int32}
theorem ai_waf_na (h : c ≠ a) : ai (waf m a f) c j = ai m c j := if_neg h
theorem ai_waf_eq : ai (waf m a f) a = f := by
  funext j
  exact if_pos rfl
theorem fi_waf : fi (waf m a f) g c = fi m g c := rfl
theorem fl_waf : fl (waf m a f) g c = fl m g c := rfl
theorem al_waf : al (waf m a f) g c = al m g c := rfl
end WAF
theorem Out.waf {A : Nat → Prop} {m m0 : Mm} {a : Nat} {f : Nat → Int32} (h : Out A m m0) (ha : A a) : Out A (waf m a f) m0 := by
  refine Out.tr (m1 := m) ⟨rfl, rfl, fun c hc => ⟨fun _ => rfl, fun _ => rfl, fun j => ai_waf_na (fun q => hc (q ▸ ha)), fun _ => rfl⟩⟩ h
def Cpy (m m' : Mm) (a0 a sx dx nx : Nat) : Prop := m' = waf m a (va_cpy (ai m a0) (ai m a) sx dx nx)
section CPY
variable {m m' : Mm} {a0 a sx dx nx f x j : Nat}
theorem Cpy.fi (h : Cpy m m' a0 a sx dx nx) : fi m' f x = fi m f x := by rw [h]; rfl
theorem Cpy.fl (h : Cpy m m' a0 a sx dx nx) : fl m' f x = fl m f x := by rw [h]; rfl
theorem Cpy.al (h : Cpy m m' a0 a sx dx nx) : al m' f x = al m f x := by rw [h]; rfl
theorem Cpy.ai_na (h : Cpy m m' a0 a sx dx nx) (hx : x ≠ a) : ai m' x j = ai m x j := by rw [h]; exact ai_waf_na hx
theorem Cpy.ai_eq (h : Cpy m m' a0 a sx dx nx) : ai m' a j = va_cpy (ai m a0) (ai m a) sx dx nx j := by rw [h, ai_waf_eq]
theorem Cpy.full {G : Cx} (h : Cpy m m' a0 a sx dx nx) (hF : Full G m) : Full G m' := by rw [h]; exact hF
theorem Cpy.out {A : Nat → Prop} (h : Cpy m m' a0 a sx dx nx) (ha : A a) : Out A m' m := by rw [h]; exact Out.rf.waf ha
end CPY
theorem wp_cpy {G : Cx} {d : Nat} {b : Nat × Nat} {μ : MI} {pc idx : Nat} {L S : List Value} {m : Mm} {Q : Option Value → Mm → Prop} {a0 a n0 n1 : Nat} {sp dp n : Int32} (sx dx nx : Nat) (hd : decode μ.2.1 pc = .ok (.invokestatic idx, 3)) (hl : Cond.methodLink μ.1.cls idx arraycopyName ∈ tbG) (hk0 : isK G m a0 21) (hk1 : isK G m a 21) (hl0 : ln (a0 - gB G) = n0) (hl1 : ln (a - gB G) = n1) (h1 : ¬ sp < 0) (h2 : ¬ dp < 0) (h3 : ¬ n < 0) (e1 : sp.toNatClampNeg = sx) (e2 : dp.toNatClampNeg = dx) (e3 : n.toNatClampNeg = nx) (h4 : sx + nx ≤ n0) (h5 : dx + nx ≤ n1) (hw : (S.map fun v => v.category).sum ≤ 8)
    (kk : ∀ m', Cpy m m' a0 a sx dx nx → WP G (d + 1) b μ (pc + 3) L S m' Q) : WP G (d + 1) b μ pc L (.int n :: .int dp :: .ref a :: .int sp :: .ref a0 :: S) m Q :=
  wp_copyi sx dx nx hd hl hk0 hk1 hl0 hl1 h1 h2 h3 e1 e2 e3 h4 h5 hw (kk _ rfl)
