/-! A CRAFT MADE BY THE LAW -/
/-- what lies below stays; the craft's cells are new -/
theorem RepL.newX {G : Cx} {ws : va_W} {cs : List (Nat × Mm)} {H H2 : Heap} {B : Nat} {m : Mm} (h : RepL G (ws, cs) H) (hb : gB G ≤ B) (hB : B = H.size) (hP : va_P (gD G) classes (wld (atC G B false) m) H2) (hm : mN m = 293) (o : ∀ q : Nat, q < H.size → H2[q]? = H[q]?) : RepL G (ws, cs ++ [(B, m)]) H2 := by
  subst hB
  obtain ⟨h1, h2, h3, h4⟩ := h
  have ef : ful G (ws, cs ++ [(H.size, m)]) = ful G (ws, cs) ++ wld (atC G H.size false) m := by
    show ws ++ crf G (cs ++ [(H.size, m)]) = (ws ++ crf G cs) ++ _
    unfold crf
    rw [List.flatMap_append, List.flatMap_singleton, List.append_assoc]
  have hlt : ∀ x ∈ ful G (ws, cs), x.1 < H.size := fun x hx => by
    obtain ⟨i, hi⟩ := List.getElem?_of_mem hx
    exact (h2 i x hi).lt
  have hw : (wld (atC G H.size false) m).map Prod.fst = (List.range 293).map (fun j => H.size + j) := by
    unfold wld
    rw [hm, List.map_map]
    rfl
  refine ⟨h1, fun k q hk => ?_, ?_, fun c hc => ?_⟩
  · have hq := List.mem_of_getElem? hk
    rw [ef] at hq
    rcases List.mem_append.mp hq with hq | hq
    · obtain ⟨i, hi⟩ := List.getElem?_of_mem hq
      exact (h2 i q hi).kept (o _ (h2 i q hi).lt)
    · obtain ⟨i, hi⟩ := List.getElem?_of_mem hq
      exact hP i q hi
  · rw [ef, List.map_append, hw]
    refine ⟨List.nodup_append.mpr ⟨h3.1, ?_, fun a ha b hb' e => ?_⟩, fun a ha => ?_⟩
    · rw [List.nodup_iff_pairwise_ne, List.pairwise_map]
      exact (List.nodup_iff_pairwise_ne.mp List.nodup_range).imp (fun hne z => hne (by omega))
    · obtain ⟨x, hx1, hx2⟩ := List.mem_map.mp ha
      obtain ⟨j, -, hj⟩ := List.mem_map.mp hb'
      have := hlt x hx1
      omega
    · rcases List.mem_append.mp ha with ha | ha
      · exact h3.2 a ha
      · obtain ⟨j, -, hj⟩ := List.mem_map.mp ha
        omega
  · rcases List.mem_append.mp hc with hc | hc
    · exact h4 c hc
    · rw [List.mem_singleton.mp hc]
      exact hm
section NEWX
variable {G : Cx} {d b1 b2 : Nat} {μ : MI} {pc idx idx2 : Nat} {L S : List Value} {ws : va_W} {cs : List (Nat × Mm)} {Q : Option Value → LM → Prop}
theorem wl_newX (hd0 : decode μ.2.1 pc = .ok (.new idx, 3)) (hd1 : decode μ.2.1 (pc + 3) = .ok (.dup, 1)) (hd2 : decode μ.2.1 (pc + 3 + 1) = .ok (.invokespecial idx2, 3)) (hcl : Cond.classLink μ.1.cls idx RX10 ∈ tbG) (hl : MLi μ.1.cls idx2 μX10_init 0) (hw : (S.map fun v => v.category).sum ≤ 7) (kk : ∀ B m, CIv (atC G B false) m A00 → WZ G (d + 4) (b1, b2) μ (pc + 3 + 1 + 3) L (.ref B :: S) (ws, cs ++ [(B, m)]) Q) : WZ G (d + 4) (b1 + 293, b2 + 9628) μ pc L S (ws, cs) Q := by
  intro p e R s mi args below meth c H locs cells slots ls F hR hS hL
  have hts := F.2.2.2.2.2.1
  have hE := F.2.2.2.2.2.2.2.2.2
  have hK := hE.1
  have hc : classes[10]? = some (RX10, TX10, 5) := rfl
  have hKn := hK.1 10 _ hc
  have hb0 : gB G ≤ H.size := Nat.le_trans hE.2.2.2.2.2.2.2.1 hS.1
  obtain ⟨r1, r2, r3, r4⟩ := F.2.2.2.2.2.2.2.2.1
  have r3' : cells + (b1 + 293) ≤ R.cells := r3
  have r4' : slots + (b2 + 9628) ≤ R.slots := r4
  refine W.newcK F.1 F.2.1 F.2.2.2.2.1 (hts _ hcl) (hts _ IX10) (hts _ iX10) rfl hd0 (by omega) (by omega) hKn.2.1 rfl fun H1 kC hkC e1 z1 o1 => ?_
  obtain ⟨G1, hG1⟩ : ∃ G1, G1 = atC G H.size true := ⟨_, rfl⟩
  obtain ⟨m1, hm1⟩ : ∃ m1, m1 = wN (m00 G1) 1 := ⟨_, rfl⟩
  have hB1 : gB G1 = H.size := by rw [hG1]; rfl
  have hM1 : gM G1 = true := by rw [hG1]; rfl
  have hD1 : gD G1 = gD G := by rw [hG1]; rfl
  have hL1 : gL G1 = gL G := by rw [hG1]; rfl
  have hn1 : mN m1 = 0 + 1 := by rw [hm1]; rfl
  have hF1 : Fr G1 m1 0 := by
    rw [hm1]
    exact Fr_00 G1
  have hkd : kd (mN (m00 G1)) = 10 := rfl
  have hat : va_at (gD G1) classes (gB G1 + 0, cel G1 m1 0) H1 := by
    rw [cel_obj (ci := 10) rfl (by decide), Nat.add_zero, hB1, hD1]
    refine ⟨_, hc, (u_born tyX10 hts uw10 hKn hkC e1 (fun k hk => (dvX10 k hk).1)).to (fun k hk => ?_)⟩
    obtain ⟨-, t, h1, h2⟩ := dvX10 k hk
    rw [h2]
    unfold vp_V
    rw [List.getD_eq_getElem?_getD, flds_at h1, hm1]
    have hz : ∀ k, k < 5 → ∀ t, (fty 10)[k]? = some t → fval G1 (wN (m00 G1) 1) t (100 * 10 + k) H.size = dvl t := by
      have hI : ∀ f, mI (wN (m00 G1) 1) f H.size = nrl 0 f := fun f => by
        show nrl (H.size - gB G1) f = nrl 0 f
        rw [hB1, Nat.sub_self]
      intro k hk t ht
      have hk5 : k = 0 ∨ k = 1 ∨ k = 2 ∨ k = 3 ∨ k = 4 := by omega
      unfold fval
      rw [hI]
      have ht2 : t = 2 := by
        rcases hk5 with e | e | e | e | e <;> subst e <;> exact (Option.some.inj ht).symm
      subst ht2
      rcases hk5 with e | e | e | e | e <;> subst e <;> rfl
    rw [hz k hk t h1]
    rfl
  have hR1 : Rep G1 m1 H1 := by
    refine ⟨fun k q hk => ?_, fun _ => ?_, fun z => ?_⟩
    · have hw1 : wld G1 m1 = [(gB G1 + 0, cel G1 m1 0)] := by
        unfold wld
        rw [hn1]
        rfl
      rw [hw1] at hk
      have hz : k = 0 := by
        have := (List.getElem?_eq_some_iff.mp hk).1
        simp at this
        exact this
      subst hz
      cases hk
      exact hat
    · rw [z1, hB1, hn1]
    · rw [hM1] at z
      cases z
  refine lv_dup F.1 F.2.1 hd1 rfl ?_
  -- the constructor
  have hS1 : va_S (fr G) s.heap H1 locs := ⟨Nat.le_trans hS.1 (by omega), fun x h1 h2 => (o1 x (by have := hS.1; omega)).trans (hS.2.1 x h1 h2), hS.2.2⟩
  obtain ⟨⟨h1, h2, h3, h4, h5⟩, h6, h7, h8⟩ := hl
  obtain ⟨c1, hc1⟩ : ∃ c1 : Nat, c1 = 292 := ⟨_, rfl⟩
  obtain ⟨c2, hc2⟩ : ∃ c2 : Nat, c2 = 9623 := ⟨_, rfl⟩
  have hM : WPM G1 (d + 3) (c1, c2) μX10_init [.ref (gB G1 + (0 + 0))] m1 (fun r m' => r = none ∧ Ct G1 m1 m' 0 293 VV Z2) := by
    subst hc1 hc2
    exact C_X10_init hn1 hF1 (fun m' hm' => ⟨rfl, hm'⟩)
  have hpre : PreS s H1 (Pcx G1 (c1, c2) [.ref (gB G1 + (0 + 0))] m1) [.ref (gB G1 + (0 + 0))] := ⟨Pcx.blind, fun U hU hW => ⟨rfl, by rw [hU]; exact hR1, by
    have := (F.env hS1 hU hW).at (B := H.size) (M := true) hb0 (by rw [hU]; omega)
    rw [hG1]
    exact this, Or.inr hM1⟩⟩
  have hg := wsM_ok h3
  unfold WPM at hM
  unfold wsM at hM hg
  rw [h8] at hM hg
  have ea : gB G1 + (0 + 0) = H.size := by omega
  rw [ea] at hM hpre
  rw [hL1] at hM
  have hrun := va_runI (As := []) (b := H.size) (rest := .ref H.size :: S) (e := e) (g := F0 mi (pc + 3 + 1) ls (.ref H.size :: .ref H.size :: S)) (below := below) (meth := meth) (locs := locs) (cells := cells + 1) (slots := slots + 5) ⟨F.1, F.2.1, F.2.2.1, F.2.2.2.2.1, hts⟩ hM ⟨callB_of 0 hts hg rfl rfl rfl (hts _ h2) (hts _ h1) h4 (rm_ok (b' := (c1, c2)) ⟨r1, r2⟩ h5), h7, hts _ h6⟩ hpre rfl rfl hL.1 rfl (lv_room (by show 1 + (S.map fun v => v.category).sum ≤ 8; omega)) hd2 ⟨by show cells + 1 + c1 ≤ R.cells; omega, by show slots + 5 + c2 ≤ R.slots; omega⟩
  intro T hT X
  obtain ⟨v, st₀, t, T', Lc, h0, X', hLc, f1, f2, ⟨⟨r, m', hQ, ho, hRep⟩, hz, hk⟩, st⟩ := hrun T hT X
  obtain ⟨hr0, hct⟩ := hQ
  subst hr0
  cases ho
  rw [h0] at hz hk
  have hfr : ∀ q, fr G1 q → fr G q := fun q hq => ⟨Nat.le_trans hb0 (by rw [← hB1]; exact hq.1), Or.inl hR.1⟩
  have hnf : ∀ q, q < H.size → ¬ fr G1 q := fun q hq z => by
    have := z.1
    rw [hB1] at this
    omega
  have hSn : va_S (fr G) s.heap T'.heap (locs ++ Lc) := by
    refine ⟨Nat.le_trans hS1.1 (by rw [f1]; exact hz), fun q q1 q2 => ?_, fun q hq => ?_⟩
    · rw [f1, hk q (Nat.lt_of_lt_of_le q1 hS1.1) (fun z => q2 (hfr q z))]
      exact hS1.2.1 q q1 q2
    · rcases List.mem_append.mp hq with h | h
      · exact hS1.2.2 q h
      · exact hfr _ (hLc q h)
  have hC0 : CIv G1 (mFl m') A00 := CIv_00 hct
  have hC : CIv (atC G H.size false) (mFl m') A00 := by
    rw [hG1] at hC0
    exact hC0
  have hm' : mN m' = 293 := by
    have := hct.1
    omega
  have hwF : wld (atC G H.size false) (mFl m') = wld G1 m' := by
    have e0 : wld (atC G H.size false) (mFl m') = wld G1 (mFl m') := by
      rw [hG1]
      rfl
    rw [e0]
    have l1 : (wld G1 (mFl m')).length = mN m' := by
      unfold wld
      rw [List.length_map, List.length_range]
      rfl
    have l2 : (wld G1 m').length = mN m' := by
      unfold wld
      rw [List.length_map, List.length_range]
    apply List.ext_getElem?
    intro i
    by_cases hi : i < 293
    · rw [wld_at (m := m') (by omega), wld_at (m := mFl m') (by show i < m'.1; have : m'.1 = 293 := hm'; omega), cel_Fl (fun f => ?_)]
      have := (hct.2.2 i hi f).1
      rw [Nat.zero_add] at this
      rcases this with h | h
      · exact h
      · exact absurd h (fun z => z)
    · have hi' : mN m' ≤ i := by omega
      rw [List.getElem?_eq_none (by rw [l1]; exact hi'), List.getElem?_eq_none (by rw [l2]; exact hi')]
  have hRn : RepL G (ws, cs ++ [(H.size, mFl m')]) T'.heap := by
    refine hR.newX hb0 rfl ?_ (show m'.1 = 293 from hm') (fun q hq => ?_)
    · rw [hwF, f1, ← hD1]
      exact hRep.1
    · rw [f1, hk q (by omega) (hnf q hq)]
      exact o1 q hq
  have hF' : Fx G (d + 4) (b1, b2) μ p R s mi args meth c (cells + 1 + c1) (slots + 5 + c2) := by
    obtain ⟨a1, a2, a3, a4, a5, a6, a7, a8, -, a10⟩ := F
    exact ⟨a1, a2, a3, a4, a5, a6, a7, ⟨a8.1, Or.inr hR.1⟩, ⟨r1, r2, by show cells + 1 + c1 + b1 ≤ R.cells; omega, by show slots + 5 + c2 + b2 ≤ R.slots; omega⟩, a10⟩
  have key := kk H.size (mFl m') hC p e R s mi args below meth c T'.heap (locs ++ Lc) (cells + 1 + c1) (slots + 5 + c2) ls hF' hRn hSn hL
  rw [show cells + 1 + c1 + (b1, b2).1 = cells + (b1 + 293, b2 + 9628).1 from by show cells + 1 + c1 + b1 = cells + (b1 + 293); omega, show slots + 5 + c2 + (b1, b2).2 = slots + (b1 + 293, b2 + 9628).2 from by show slots + 5 + c2 + b2 = slots + (b2 + 9628); omega] at key
  obtain ⟨t2, x1, y1⟩ := key T' rfl X'
  exact ⟨t2, st t2 x1, y1⟩
end NEWX
