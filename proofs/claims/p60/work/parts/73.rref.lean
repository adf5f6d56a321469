/-! STORES OF REFERENCES -/
def FRk (own : String) (idx ci k : Nat) : Prop := ∃ (C : String) (T : u_T) (N : Nat), classes[ci]? = some (C, T, N) ∧ k < N ∧ (fty ci)[k]? = some 2 ∧ (∀ w ∈ u_ws C T N, w ∈ tbG) ∧ Cond.fieldLink own idx (T k).1 (T k).2.1 (T k).2.2.1 ∈ tbG ∧
  (∃ ty0 : Nat → FieldType, ∀ k, k < N → parseFieldDescriptor (T k).2.2.1 = some (ty0 k)) ∧ (∀ a, a < N → ∀ b, b < N → a ≠ b → (T a).2.1 ≠ (T b).2.1) ∧ ((∃ c, parseFieldDescriptor (T k).2.2.1 = some (.object c)) ∨ ∃ t, parseFieldDescriptor (T k).2.2.1 = some (.array t)) ∧ (T k).2.2.2 = true ∧ (T k).1 = own
theorem wp_putr {G : Cx} {d : Nat} {b : Nat × Nat} {μ : MI} {pc : Nat} {L S : List Value} {m : Mm} {Q : Option Value → Mm → Prop} {a q idx ci k : Nat} (hd : decode μ.2.1 pc = .ok (.putfield idx, 3)) (hi0 : μ.1.name = "<init>") (hf : FRk μ.1.cls idx ci k) (hk : isK G m a ci) (hq : rr G (100 * ci + k) a = q) (kk : WP G d b μ (pc + 3) L S (wI m (100 * ci + k) a) Q) : WP G d b μ pc L (.ref q :: .ref a :: S) m Q := by
  intro p e R s mi args below meth c H locs cells slots ls F hR hS hL
  obtain ⟨C, T, N, h1, h2, h3, h4, h5, ⟨ty0, h6⟩, h7, h8, h9, h10⟩ := hf
  obtain ⟨j, rfl, hj, hq0⟩ := hk
  have hts := F.2.2.2.2.2.1
  have hK := F.2.2.2.2.2.2.2.2.2.1
  have he : (wld G m)[j]? = some (gB G + j, .inr (ci, flds G m ci (gB G + j))) := by rw [wld_at hj, cel_obj hq0 (ci_lt h1)]
  have hl : k < (flds G m ci (gB G + j)).length := by rw [flds_len]; exact (List.getElem?_eq_some_iff.mp h3).1
  have hap := va_apart (own := μ.1.cls) hts h4 ty0 h6 h7 hK h1
  obtain ⟨r, g1, cell, q1, q2, q3, q4⟩ := hR.1 j _ he
  have hr : r = (C, T, N) := Option.some.inj (g1.symm.trans h1)
  subst hr
  obtain ⟨hSl, hfc, kC, hkC, hkind⟩ := hK.1 ci _ h1
  obtain ⟨cf, kf, fi0, f, hi, hsl⟩ := hSl k h2
  have hlay := hts _ (h4 _ (u_in_lay h2))
  unfold u_lay at hlay
  rw [if_pos h9] at hlay
  have hst := (u_facts hfc hkC (u_lays hts h4 h2) hi).1
  have hown : s.vm.findClass μ.1.cls = some mi.cls := F.2.2.2.2.1
  have hcf : mi.cls = cf := by
    obtain ⟨_, _, c', _, _, _, -, -, hf', -, -, -, hown2, -⟩ := Cond.laysFinal_spec hlay
    have e1 : c' = cf := by have := hi.symm.trans hf'; simp at this; exact this.1.symm
    rw [h10] at hown2
    rw [← e1]; exact Option.some.inj (hown.symm.trans hown2)
  have hfit : ∃ ty, parseFieldDescriptor (T k).2.2.1 = some ty ∧ narrow ty (.ref q) = .ref q ∧ fits ty (.ref q) = true := by
    rcases h8 with ⟨c', e⟩ | ⟨t, e⟩
    · exact ⟨_, e, rfl, rfl⟩
    · exact ⟨_, e, rfl, rfl⟩
  obtain ⟨ty, u1, u2, u3⟩ := hfit
  have h11 := u_fits hfc hkC hkind (Or.inr hlay) hi u1 u2 u3
  refine W.putFinK F.1 F.2.1 hown (hts _ h5) hi hst hcf (F.2.2.2.2.2.2.2.1.1 hi0) (by rw [q2]; exact h11) q1 q3 (by rw [hsl]; exact k2_hasslot (q4 k h2)) rfl rfl hd fun H' e1 e2 e3 => ?_
  rw [hsl] at e1 ⊢
  have hat : va_at (gD G) classes (gB G + j, .inr (ci, (flds G m ci (gB G + j)).set k (.ref q))) H' := ⟨_, h1, t_OB.to (V := updV (vp_V (flds G m ci (gB G + j))) k (.ref q)) ⟨_, e1, q2, q3, t_set q4 hap h2 _⟩ (fun j _ => vp_updV_set hl _ j)⟩
  have hmi : mI (wI m (100 * ci + k) (gB G + j)) (100 * ci + k) (gB G + j) = true := if_pos ⟨rfl, rfl⟩
  refine kk p e R s mi args below meth c H' _ cells slots ls F (hR.set hj rfl ?_ (fun i hi => cel_wI (gbne hi)) hat e2 e3) (hS.put e2 e3 ?_) hL
  · rw [cel_obj hq0 (ci_lt h1), flds_set h3 (v := .ref q) ?_ ?_]
    · show (if mI _ _ _ = true then Value.ref (rr G (100 * ci + k) (gB G + j)) else .null) = _
      rw [if_pos hmi, hq]
    · intro i t' hik _
      have e : mI (wI m (100 * ci + k) (gB G + j)) (100 * ci + i) (gB G + j) = mI m (100 * ci + i) (gB G + j) := if_neg (fun z => hik (by omega))
      unfold fval
      rw [e]
      rfl
  · exact hR.fr hj
theorem wp_rast {G : Cx} {d : Nat} {b : Nat × Nat} {μ : MI} {pc : Nat} {L S : List Value} {m : Mm} {Q : Option Value → Mm → Prop} {a v q ci k n : Nat} {r : vw_C} {i : Int32} (hd : decode μ.2.1 pc = .ok (.aastore, 1)) (hk : isK G m a q) (hq : 24 ≤ q) (hg : (gT G)[q - 20]? = some (gY G q, .object r.1)) (hl : ln (a - gB G) = n) (hi : i = nI k) (hkn : k < n) (hn : n < 10000) (hkv : isK G m v ci) (hc : classes[ci]? = some r) (hv : rr G (100000 + k) a = v) (kk : WP G d b μ (pc + 1) L S (wI m (100000 + k) a) Q) : WP G d b μ pc L (.ref v :: .int i :: .ref a :: S) m Q := by
  intro p e R s mi args below meth c H locs cells slots ls F hR hS hL
  obtain ⟨j, rfl, hj, hq0⟩ := hk
  obtain ⟨jv, ev, hjv, hqv⟩ := hkv
  rw [Nat.add_sub_cancel_left] at hl
  subst hi
  have he : (wld G m)[j]? = some (gB G + j, .inl (gY G q, n, .inr (.inr (.inr (.inr (elq G m (gB G + j))))))) := by rw [wld_at hj, cel_ref hq0 hq, hl]
  have hev : (wld G m)[jv]? = some (v, .inr (ci, flds G m ci v)) := by rw [ev, wld_at hjv, cel_obj hqv (ci_lt hc)]
  have hK := F.2.2.2.2.2.2.2.2.2.1
  obtain ⟨r', hr', cellV, g1, g2, g3, -⟩ := hR.1 jv _ hev
  have hcls := (hK.1 ci r hc).2
  obtain ⟨kA, comp, k1, k2, k3, -⟩ := (hK.2 (q - 20) _ hg).2
  have hcomp : comp = (gD G).1 ci := Option.some.inj (k3.symm.trans hcls.1)
  subst hcomp
  obtain ⟨kC, hkC, -⟩ := hcls.2
  have hlt : (nI k).toNatClampNeg < n := by rw [nIc (by omega)]; exact hkn
  refine W.aast F.1 F.2.1 (hR.1 j _ he) (fun q h => by cases h) (fun h => by cases h) k1 k2 rfl hkC ⟨nI_pos (by omega), by show _ < (arrV _ _ _).slots.size; rw [arrV_size]; exact hlt⟩ g1 (fun q h => by rw [g3] at h; cases h) (by rw [g2]; exact hkC) (by rw [g2]; exact va_assign hcls) rfl rfl hd fun H1 e1 z oq => ?_
  rw [nIc (by omega)] at e1
  have hcel : cel G (wI m (100000 + k) (gB G + j)) j = .inl (gY G q, n, .inr (.inr (.inr (.inr (va_up (elq G m (gB G + j)) k (some v)))))) := by
    rw [cel_ref hq0 hq, hl]
    congr 7
    funext t
    show (if mI (wI m (100000 + k) (gB G + j)) (100000 + t) (gB G + j) = true then some (rr G (100000 + t) (gB G + j)) else none) = va_up (elq G m (gB G + j)) k (some v) t
    by_cases ht : t = k
    · subst ht
      rw [if_pos (show mI (wI m (100000 + t) (gB G + j)) (100000 + t) (gB G + j) = true from if_pos ⟨rfl, rfl⟩), hv]
      simp [va_up]
    · have e : mI (wI m (100000 + k) (gB G + j)) (100000 + t) (gB G + j) = mI m (100000 + t) (gB G + j) := if_neg (fun z => ht (by omega))
      rw [e]
      simp [va_up, ht, elq]
  have hat : va_at (gD G) classes (gB G + j, .inl (gY G q, n, .inr (.inr (.inr (.inr (va_up (elq G m (gB G + j)) k (some v))))))) H1 := by
    show H1[gB G + j]? = some (vp_cell _ _)
    rw [e1]
    rw [vp_cell_q, vp_cell_q, arrV_store]
    congr 2
    funext q
    by_cases hq : q = k
    · subst hq
      simp [updV, va_up, va_rf]
    · simp [updV, va_up, hq]
  refine kk p e R s mi args below meth c H1 _ cells slots ls F (hR.set hj rfl hcel (fun i hi => cel_wI (gbne hi)) hat z oq) (hS.put z oq ?_) hL
  exact hR.fr hj
theorem rX6_9 : FRk RX6 9 6 0 := ⟨RX6, TX6, 6, rfl, by decide, rfl, uw6, (inT1 (List.mem_of_getElem? (i := 113) rfl) rfl), ⟨tyX6, tyX6_ok⟩, nmX6, Or.inr ⟨.int, rfl⟩, rfl, rfl⟩
theorem rX8_9 : FRk RX8 9 8 0 := ⟨RX8, TX8, 10, rfl, by decide, rfl, uw8, (inT1 (List.mem_of_getElem? (i := 147) rfl) rfl), ⟨tyX8, tyX8_ok⟩, nmX8, Or.inr ⟨.int, rfl⟩, rfl, rfl⟩
theorem rX8_15 : FRk RX8 15 8 1 := ⟨RX8, TX8, 10, rfl, by decide, rfl, uw8, (inT1 (List.mem_of_getElem? (i := 148) rfl) rfl), ⟨tyX8, tyX8_ok⟩, nmX8, Or.inr ⟨.int, rfl⟩, rfl, rfl⟩
theorem rX8_18 : FRk RX8 18 8 2 := ⟨RX8, TX8, 10, rfl, by decide, rfl, uw8, (inT1 (List.mem_of_getElem? (i := 149) rfl) rfl), ⟨tyX8, tyX8_ok⟩, nmX8, Or.inr ⟨.int, rfl⟩, rfl, rfl⟩
theorem rX8_21 : FRk RX8 21 8 3 := ⟨RX8, TX8, 10, rfl, by decide, rfl, uw8, (inT1 (List.mem_of_getElem? (i := 151) rfl) rfl), ⟨tyX8, tyX8_ok⟩, nmX8, Or.inr ⟨.int, rfl⟩, rfl, rfl⟩
theorem rX8_24 : FRk RX8 24 8 4 := ⟨RX8, TX8, 10, rfl, by decide, rfl, uw8, (inT1 (List.mem_of_getElem? (i := 153) rfl) rfl), ⟨tyX8, tyX8_ok⟩, nmX8, Or.inr ⟨.int, rfl⟩, rfl, rfl⟩
theorem rX8_27 : FRk RX8 27 8 5 := ⟨RX8, TX8, 10, rfl, by decide, rfl, uw8, (inT1 (List.mem_of_getElem? (i := 155) rfl) rfl), ⟨tyX8, tyX8_ok⟩, nmX8, Or.inr ⟨.int, rfl⟩, rfl, rfl⟩
theorem rX8_30 : FRk RX8 30 8 6 := ⟨RX8, TX8, 10, rfl, by decide, rfl, uw8, (inT1 (List.mem_of_getElem? (i := 157) rfl) rfl), ⟨tyX8, tyX8_ok⟩, nmX8, Or.inr ⟨.int, rfl⟩, rfl, rfl⟩
theorem rX8_33 : FRk RX8 33 8 9 := ⟨RX8, TX8, 10, rfl, by decide, rfl, uw8, (inT1 (List.mem_of_getElem? (i := 165) rfl) rfl), ⟨tyX8, tyX8_ok⟩, nmX8, Or.inr ⟨.long, rfl⟩, rfl, rfl⟩
theorem rX0_11 : FRk RX0 11 0 0 := ⟨RX0, TX0, 15, rfl, by decide, rfl, uw0, (inT2 (List.mem_of_getElem? (i := 124) rfl) rfl), ⟨tyX0, tyX0_ok⟩, nmX0, Or.inr ⟨.object "LouvreCraft$Node", rfl⟩, rfl, rfl⟩
theorem rX0_19 : FRk RX0 19 0 1 := ⟨RX0, TX0, 15, rfl, by decide, rfl, uw0, (inT2 (List.mem_of_getElem? (i := 127) rfl) rfl), ⟨tyX0, tyX0_ok⟩, nmX0, Or.inr ⟨.object "LouvreCraft$Link", rfl⟩, rfl, rfl⟩
theorem rX0_25 : FRk RX0 25 0 2 := ⟨RX0, TX0, 15, rfl, by decide, rfl, uw0, (inT2 (List.mem_of_getElem? (i := 129) rfl) rfl), ⟨tyX0, tyX0_ok⟩, nmX0, Or.inr ⟨.object "LouvreCraft$Louvre", rfl⟩, rfl, rfl⟩
theorem rX0_31 : FRk RX0 31 0 3 := ⟨RX0, TX0, 15, rfl, by decide, rfl, uw0, (inT2 (List.mem_of_getElem? (i := 132) rfl) rfl), ⟨tyX0, tyX0_ok⟩, nmX0, Or.inr ⟨.object "LouvreCraft$Heater", rfl⟩, rfl, rfl⟩
theorem rX0_35 : FRk RX0 35 0 4 := ⟨RX0, TX0, 15, rfl, by decide, rfl, uw0, (inT2 (List.mem_of_getElem? (i := 135) rfl) rfl), ⟨tyX0, tyX0_ok⟩, nmX0, Or.inr ⟨.int, rfl⟩, rfl, rfl⟩
theorem rX0_42 : FRk RX0 42 0 9 := ⟨RX0, TX0, 15, rfl, by decide, rfl, uw0, (inT2 (List.mem_of_getElem? (i := 144) rfl) rfl), ⟨tyX0, tyX0_ok⟩, nmX0, Or.inl ⟨"LouvreCraft$Orbit", rfl⟩, rfl, rfl⟩
theorem rX0_49 : FRk RX0 49 0 10 := ⟨RX0, TX0, 15, rfl, by decide, rfl, uw0, (inT2 (List.mem_of_getElem? (i := 146) rfl) rfl), ⟨tyX0, tyX0_ok⟩, nmX0, Or.inl ⟨"LouvreCraft$Supply", rfl⟩, rfl, rfl⟩
theorem rX0_56 : FRk RX0 56 0 11 := ⟨RX0, TX0, 15, rfl, by decide, rfl, uw0, (inT2 (List.mem_of_getElem? (i := 149) rfl) rfl), ⟨tyX0, tyX0_ok⟩, nmX0, Or.inl ⟨"LouvreCraft$Records", rfl⟩, rfl, rfl⟩
theorem rX0_63 : FRk RX0 63 0 12 := ⟨RX0, TX0, 15, rfl, by decide, rfl, uw0, (inT2 (List.mem_of_getElem? (i := 151) rfl) rfl), ⟨tyX0, tyX0_ok⟩, nmX0, Or.inl ⟨"LouvreCraft$Rules", rfl⟩, rfl, rfl⟩
theorem rX7_9 : FRk RX7 9 7 0 := ⟨RX7, TX7, 14, rfl, by decide, rfl, uw7, (inT2 (List.mem_of_getElem? (i := 197) rfl) rfl), ⟨tyX7, tyX7_ok⟩, nmX7, Or.inr ⟨.byte, rfl⟩, rfl, rfl⟩
theorem rX7_22 : FRk RX7 22 7 4 := ⟨RX7, TX7, 14, rfl, by decide, rfl, uw7, (inT2 (List.mem_of_getElem? (i := 203) rfl) rfl), ⟨tyX7, tyX7_ok⟩, nmX7, Or.inl ⟨"LouvreCraft$Rules", rfl⟩, rfl, rfl⟩
theorem rX7_26 : FRk RX7 26 7 5 := ⟨RX7, TX7, 14, rfl, by decide, rfl, uw7, (inT2 (List.mem_of_getElem? (i := 205) rfl) rfl), ⟨tyX7, tyX7_ok⟩, nmX7, Or.inr ⟨.int, rfl⟩, rfl, rfl⟩
theorem rX7_30 : FRk RX7 30 7 6 := ⟨RX7, TX7, 14, rfl, by decide, rfl, uw7, (inT2 (List.mem_of_getElem? (i := 206) rfl) rfl), ⟨tyX7, tyX7_ok⟩, nmX7, Or.inr ⟨.int, rfl⟩, rfl, rfl⟩
theorem rX7_33 : FRk RX7 33 7 7 := ⟨RX7, TX7, 14, rfl, by decide, rfl, uw7, (inT2 (List.mem_of_getElem? (i := 207) rfl) rfl), ⟨tyX7, tyX7_ok⟩, nmX7, Or.inr ⟨.int, rfl⟩, rfl, rfl⟩
theorem rX10_10 : FRk RX10 10 10 0 := ⟨RX10, TX10, 5, rfl, by decide, rfl, uw10, (inT3 (List.mem_of_getElem? (i := 5) rfl) rfl), ⟨tyX10, tyX10_ok⟩, nmX10, Or.inl ⟨"LouvreCraft$Craft", rfl⟩, rfl, rfl⟩
theorem rX10_16 : FRk RX10 16 10 1 := ⟨RX10, TX10, 5, rfl, by decide, rfl, uw10, (inT3 (List.mem_of_getElem? (i := 6) rfl) rfl), ⟨tyX10, tyX10_ok⟩, nmX10, Or.inl ⟨"LouvreCraft$Craft", rfl⟩, rfl, rfl⟩
theorem rX10_19 : FRk RX10 19 10 2 := ⟨RX10, TX10, 5, rfl, by decide, rfl, uw10, (inT3 (List.mem_of_getElem? (i := 7) rfl) rfl), ⟨tyX10, tyX10_ok⟩, nmX10, Or.inr ⟨.object "LouvreCraft$Craft", rfl⟩, rfl, rfl⟩
theorem rX10_23 : FRk RX10 23 10 3 := ⟨RX10, TX10, 5, rfl, by decide, rfl, uw10, (inT3 (List.mem_of_getElem? (i := 8) rfl) rfl), ⟨tyX10, tyX10_ok⟩, nmX10, Or.inr ⟨.boolean, rfl⟩, rfl, rfl⟩
theorem rX10_30 : FRk RX10 30 10 4 := ⟨RX10, TX10, 5, rfl, by decide, rfl, uw10, (inT3 (List.mem_of_getElem? (i := 9) rfl) rfl), ⟨tyX10, tyX10_ok⟩, nmX10, Or.inl ⟨"LouvreCraft$RuleReader", rfl⟩, rfl, rfl⟩
