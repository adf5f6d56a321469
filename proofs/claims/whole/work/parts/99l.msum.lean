/-! THE REFERENCE'S SUMS -/
theorem WOk_ef : ∀ {w : List Nat}, WOk w → WOk (efW w) ∧ (efW w).head? ≠ some 220
  | [], _ => ⟨trivial, fun z => by cases z⟩
  | k :: w, h => by
    show WOk (if k = 220 then efW w else k :: w) ∧ (if k = 220 then efW w else k :: w).head? ≠ some 220
    by_cases hk : k = 220
    · rw [if_pos hk]
      exact WOk_ef h.2
    · rw [if_neg hk]
      exact ⟨h, fun z => hk (Option.some.inj z)⟩
theorem WOk_pp (r : Nat) : ∀ {w : List Nat}, WOk w → WOk (ppW r w)
  | [], h => h
  | k :: w, h => by
    show WOk (if r ≤ rkW k then ppW r w else k :: w)
    split
    · exact WOk_pp r h.2
    · exact h
theorem WOk_push {k : Nat} {w : List Nat} (hb : binK k) (h : WOk w) (h0 : w.head? ≠ some 220) : WOk (k :: ppW (rkW k) w) := by
  have hr : 1 ≤ rkW k := by
    unfold binK at hb
    unfold rkW
    split
    · exact Nat.le_refl _
    · rw [if_pos (by omega)]
      decide
  obtain ⟨q1, q2⟩ := tp_pp (rkW k) hr h h0
  exact ⟨Or.inr (Or.inr ⟨hb, q1, q2⟩), WOk_pp _ h⟩
theorem op_ef : ∀ w : List Nat, opW (efW w) = opW w
  | [] => rfl
  | k :: w => by
    show opW (if k = 220 then efW w else k :: w) = _
    split
    · rename_i e
      rw [op_ef w, e]
      show opW w = (if 220 = 40 then 1 else 0) + opW w
      rw [if_neg (by decide), Nat.zero_add]
    · rfl
theorem dp_ef : ∀ w : List Nat, dpW (efW w) ≤ dpW w
  | [] => Nat.le_refl _
  | k :: w => by
    show dpW (if k = 220 then efW w else k :: w) ≤ _
    split
    · have := dp_ef w
      show _ ≤ _ + dpW w
      omega
    · exact Nat.le_refl _
theorem op_pp (r : Nat) (hr : 1 ≤ r) : ∀ w : List Nat, opW (ppW r w) = opW w ∧ dpW (ppW r w) = dpW w
  | [] => ⟨rfl, rfl⟩
  | k :: w => by
    show opW (if r ≤ rkW k then ppW r w else k :: w) = _ ∧ dpW (if r ≤ rkW k then ppW r w else k :: w) = _
    split
    · rename_i e
      have hb := rk_bin (k := k) (by omega)
      rw [opW_bin hb, dpW_bin hb]
      exact op_pp r hr w
    · exact ⟨rfl, rfl⟩
theorem opW_neg {w : List Nat} : opW (220 :: w) = opW w := by
  show (if 220 = 40 then 1 else 0) + opW w = _
  rw [if_neg (by decide), Nat.zero_add]
theorem opW_le : ∀ w : List Nat, opW w ≤ w.length
  | [] => Nat.le_refl _
  | k :: w => by
    have := opW_le w
    show (if k = 40 then 1 else 0) + opW w ≤ w.length + 1
    split <;> omega
section MSUM
variable {G : Cx} {C : Qc} {d : Nat} {m m1 : Mm} {Q : Option Value → Mm → Prop} {k : Tk} {r ts : List Tk} {out : List Cd} {w : List Nat} {c p : Nat}
theorem RQ.cnt (hG : QG G C) (h : RQ G C m ts out) : ai m (gB G + 294) 12 = nI (qN C) ∧ ai m (gB G + 294) 13 = nI (qL C) ∧ ai m (gB G + 294) 14 = nI (qH C) :=
  ⟨(h.2.1.ai (by unfold ME; omega) 12).trans hG.2.2.2.1, (h.2.1.ai (by unfold ME; omega) 13).trans hG.2.2.2.2.1, (h.2.1.ai (by unfold ME; omega) 14).trans hG.2.2.2.2.2.1⟩
theorem M_leaf (hG : QG G C) (h : RQ G C m (k :: r) out) (hw : Wf (k :: r)) (h45 : ¬ k.1 = 45) (h40 : ¬ k.1 = 40) (h5 : out.length < 500)
    (kO : ∀ m' ts' x, RQ G C m' ts' (out ++ [x]) → WS G m' m → (∀ w, run (qN C) (qL C) (qH C) (k :: r) 0 w out = runE (qN C) (qL C) (qH C) ts' w (out ++ [x])) → Wf ts' → ts'.length < r.length + 1 → Q none m')
    (kE : ∀ m' c p, RE G C m' c p → WS G m' m → (∀ w, run (qN C) (qL C) (qH C) (k :: r) 0 w out = .error (c, p)) → Q none m') : WPM G (d + 10) (0, 0) μX11_parseLeaf [.ref (gB G + 293)] m Q := by
  have hk := h.cs
  have h3 := hk.2.2.2.1
  by_cases e200 : k.1 = 200
  · rcases hk.2.2.2.2.1 e200 with ⟨v1, v2⟩ | ⟨v1, v2⟩
    · refine lfN h.1 h.2.2.2.1 (h3.mpr e200) v2 h.2.2.2.2.2.2.1 h5 v1 ?_
      refine M_adv (d := d + 2) hG (h.em h5 (x := (200, k.2.2)) rfl rfl) (by omega) (fun m' h' hs => lfNz h'.1 (kO m' r _ h' (hs.tr (((WS.rf.wc _ _).wc _ _).wf (by omega) _)) (fun w => run_num e200 v1) (hw.tl (by omega)) (Nat.lt_succ_self _)))
    · have hE := h.er (e := 2) (s := k.2.1) (by omega)
      exact lfNx h.1 h.2.2.2.1 (h3.mpr e200) rfl hk.1 v2 (M_advE (d := d + 2) hE (lfNz hE.1 (kE _ 2 k.2.1 hE ((WS.rf.wf (by omega) _).wf (by omega) _) (fun w => run_numx e200 (by omega)))))
  · refine lfA h.1 rfl (fun z => e200 (h3.mp z)) (M_ror (d := d + 1) h.1 hk ?_)
    have bad : ¬ leafK k.1 → WP G (d + 10) (0, 0) μX11_parseLeaf 46 [.ref (gB G + 293), lvU, lvU] [.int (-1 : Int32)] m Q := fun hb => by
      have hE := h.er (e := 1) (s := k.2.1) (by omega)
      exact lfBx h.1 h.2.2.2.1 hk.1 (M_advE (d := d + 2) hE (lfCx hE.1 rfl hE.c0 (kE _ 1 k.2.1 hE ((WS.rf.wf (by omega) _).wf (by omega) _) (fun w => run_bad hb))))
    have rdr : ∀ z, 205 ≤ z → z ≤ 211 → k.1 = z → rdR k.1 = nI (z - 204) := fun z a b e => by
      rw [e]
      exact if_pos ⟨a, b⟩
    have one : (k.1 = 208 ∨ k.1 = 209 ∨ k.1 = 210 ∨ k.1 = 211) → ∀ (m2 : Mm) (a b : Int32), RQ G C m2 r out → WS G m2 m → a = nI (trM k.1) → b = nI 0 → Q none (wfi (wai (wai m2 (gB G + 306) (2 * out.length) a) (gB G + 306) (2 * out.length + 1) b) 1124 (gB G + 293) (nI (out.length + 1))) := fun hk' m2 a b h2 hs ea eb =>
      kO _ r (k.1, 0) (h2.em h5 ea eb) (((hs.wc _ _).wc _ _).wf (by omega) _) (fun w => run_rd hk') (hw.tl (by omega)) (Nat.lt_succ_self _)
    have part : (k.1 = 205 ∨ k.1 = 206 ∨ k.1 = 207) → ∀ (m2 : Mm) (P : Option Value → Mm → Prop), RQ G C m2 r out → WS G m2 m →
        (∀ m3 v r2, RQ G C m3 r2 out → WS G m3 m → (∀ w, run (qN C) (qL C) (qH C) (k :: r) 0 w out = runE (qN C) (qL C) (qH C) r2 w (out ++ [(k.1, v)])) → Wf r2 → r2.length < r.length → P (some (.int (nI v))) m3) →
        (∀ m3 v, ∀ c p, RE G C m3 c p → WS G m3 m → (∀ w, run (qN C) (qL C) (qH C) (k :: r) 0 w out = .error (c, p)) → P (some (.int v)) m3) → WPM G (d + 1 + 8) (0, 0) μX11_parsePart [.ref (gB G + 293), .int (nI (cnF (qN C) (qL C) (qH C) k.1))] m2 P := by
      intro hk' m2 P h2 hs p1 p0
      obtain ⟨k2, r2, rfl⟩ := (hw.tl (show 1 < k.1 by omega)).cs
      have hc : cnF (qN C) (qL C) (qH C) k.1 ≤ 12 := by
        have := hG.2.2.2.2.2.2
        unfold cnF
        split
        · omega
        · split <;> omega
      have e2 := fun w => run_pt (nn := qN C) (nl := qL C) (nh := qH C) (ts := k2 :: r2) (w := w) (out := out) hk'
      refine M_pp hG h2 hc (fun f1 f2 m3 h3 hs3 => p1 m3 k2.2.2 r2 h3 (hs3.tr hs) (fun w => ?_) ((hw.tl (by omega)).tl (by omega)) (Nat.lt_succ_self _)) (fun f1 f2 m3 v h3 hs3 => p0 m3 v 2 k2.2.1 h3 (hs3.tr hs) (fun w => ?_)) (fun f1 m3 v h3 hs3 => p0 m3 v 1 k2.2.1 h3 (hs3.tr hs) (fun w => ?_))
      · rw [e2 w, run_ptn hk' f1 f2]
      · rw [e2 w, run_ptx hk' f1 f2]
      · rw [e2 w, run_pty hk' f1]
    by_cases e5 : k.1 = 205
    · rw [rdr 205 (by omega) (by omega) e5]
      refine lfB1 h.1 h.2.2.2.1 (M_adv (d := d + 2) hG h (by omega) (fun m2 h2 hs => lfC1 h2.1 h2.2.2.2.1 (c := qN C) (h2.cnt hG).1 ?_))
      have := part (Or.inl e5) m2 (fun r' m' => WP G (d + 10) (0, 0) μX11_parseLeaf 111 [.ref (gB G + 293), .int (1 : Int32), lvU] (r'.toList ++ []) m' Q) h2 hs (fun m3 v r2 h3 hs3 hr hw3 hl3 => lfD1 h3.1 h3.2.2.2.1 h3.2.2.2.2.2.2.1 h5 (kO _ r2 (k.1, v) (h3.em h5 (by rw [e5]; rfl) rfl) (((hs3.wc _ _).wc _ _).wf (by omega) _) hr hw3 (by omega))) (fun m3 v c p h3 hs3 hr => lfE1 h3.1 rfl h3.c0 (kE m3 c p h3 hs3 hr))
      rw [e5] at this
      exact this
    by_cases e6 : k.1 = 206
    · rw [rdr 206 (by omega) (by omega) e6]
      refine lfB2 h.1 h.2.2.2.1 (M_adv (d := d + 2) hG h (by omega) (fun m2 h2 hs => lfC2 h2.1 h2.2.2.2.1 (c := qL C) (h2.cnt hG).2.1 ?_))
      have := part (Or.inr (Or.inl e6)) m2 (fun r' m' => WP G (d + 10) (0, 0) μX11_parseLeaf 111 [.ref (gB G + 293), .int (2 : Int32), lvU] (r'.toList ++ []) m' Q) h2 hs (fun m3 v r2 h3 hs3 hr hw3 hl3 => lfD2 h3.1 h3.2.2.2.1 h3.2.2.2.2.2.2.1 h5 (kO _ r2 (k.1, v) (h3.em h5 (by rw [e6]; rfl) rfl) (((hs3.wc _ _).wc _ _).wf (by omega) _) hr hw3 (by omega))) (fun m3 v c p h3 hs3 hr => lfE2 h3.1 rfl h3.c0 (kE m3 c p h3 hs3 hr))
      rw [e6] at this
      exact this
    by_cases e7 : k.1 = 207
    · rw [rdr 207 (by omega) (by omega) e7]
      refine lfB3 h.1 h.2.2.2.1 (M_adv (d := d + 2) hG h (by omega) (fun m2 h2 hs => lfC3 h2.1 h2.2.2.2.1 (c := qH C) (h2.cnt hG).2.2 ?_))
      have := part (Or.inr (Or.inr e7)) m2 (fun r' m' => WP G (d + 10) (0, 0) μX11_parseLeaf 111 [.ref (gB G + 293), .int (3 : Int32), lvU] (r'.toList ++ []) m' Q) h2 hs (fun m3 v r2 h3 hs3 hr hw3 hl3 => lfD3 h3.1 h3.2.2.2.1 h3.2.2.2.2.2.2.1 h5 (kO _ r2 (k.1, v) (h3.em h5 (by rw [e7]; rfl) rfl) (((hs3.wc _ _).wc _ _).wf (by omega) _) hr hw3 (by omega))) (fun m3 v c p h3 hs3 hr => lfE3 h3.1 rfl h3.c0 (kE m3 c p h3 hs3 hr))
      rw [e7] at this
      exact this
    by_cases e8 : k.1 = 208
    · rw [rdr 208 (by omega) (by omega) e8]
      exact lfB4 h.1 h.2.2.2.1 (M_adv (d := d + 2) hG h (by omega) (fun m2 h2 hs => lfC4 h2.1 h2.2.2.2.1 h2.2.2.2.2.2.2.1 h5 (one (Or.inl e8) m2 _ _ h2 hs (by rw [e8]; rfl) rfl)))
    by_cases e9 : k.1 = 209
    · rw [rdr 209 (by omega) (by omega) e9]
      exact lfB5 h.1 h.2.2.2.1 (M_adv (d := d + 2) hG h (by omega) (fun m2 h2 hs => lfC5 h2.1 h2.2.2.2.1 h2.2.2.2.2.2.2.1 h5 (one (Or.inr (Or.inl e9)) m2 _ _ h2 hs (by rw [e9]; rfl) rfl)))
    by_cases e10 : k.1 = 210
    · rw [rdr 210 (by omega) (by omega) e10]
      exact lfB6 h.1 h.2.2.2.1 (M_adv (d := d + 2) hG h (by omega) (fun m2 h2 hs => lfC6 h2.1 h2.2.2.2.1 h2.2.2.2.2.2.2.1 h5 (one (Or.inr (Or.inr (Or.inl e10))) m2 _ _ h2 hs (by rw [e10]; rfl) rfl)))
    by_cases e11 : k.1 = 211
    · rw [rdr 211 (by omega) (by omega) e11]
      exact lfB7 h.1 h.2.2.2.1 (M_adv (d := d + 2) hG h (by omega) (fun m2 h2 hs => lfC7 h2.1 h2.2.2.2.1 h2.2.2.2.2.2.2.1 h5 (one (Or.inr (Or.inr (Or.inr e11))) m2 _ _ h2 hs (by rw [e11]; rfl) rfl)))
    · rw [show rdR k.1 = -1 from if_neg (by omega)]
      exact bad (by unfold leafK; omega)
/-- what parseFactorStart does -/
theorem M_pfs (hG : QG G C) (h : RQ G C m (k :: r) out) (hw : Wf (k :: r)) (hW : WtM G m w) (hcap : out.length + w.length + (r.length + 1) ≤ 501) (hd : dpW w ≤ 20)
    (k0 : ∀ m' x, RQ G C m' r out → WtM G m' (x :: w) → (x = 220 ∧ k.1 = 45 ∨ x = 40 ∧ k.1 = 40) → dpW w < 20 → run (qN C) (qL C) (qH C) (k :: r) 0 w out = run (qN C) (qL C) (qH C) r 0 (x :: w) out → Wf r → Q (some (.int 0)) m')
    (k1 : ∀ m' ts' out', RQ G C m' ts' out' → WtM G m' (efW w) → ¬ k.1 = 40 → run (qN C) (qL C) (qH C) (k :: r) 0 w out = run (qN C) (qL C) (qH C) ts' 1 (efW w) out' → Wf ts' → ts'.length < r.length + 1 → out'.length + (efW w).length + ts'.length ≤ 501 → Q (some (.int 1)) m')
    (kE : ∀ m' c p v, RE G C m' c p → run (qN C) (qL C) (qH C) (k :: r) 0 w out = .error (c, p) → v = 0 ∨ v = 1 → Q (some (.int v)) m') : WPM G (d + 12) (0, 0) μX11_parseFactorStart [.ref (gB G + 293)] m Q := by
  have hk := h.cs
  have hpos : 0 < r.length + 1 := Nat.succ_pos _
  by_cases e45 : k.1 = 45
  · have hwr := hw.tl (show 1 < k.1 by omega)
    have hrl : 0 < r.length := by obtain ⟨a, b, rfl⟩ := hwr.cs; exact Nat.succ_pos _
    refine fP45 h.1 h.2.2.2.1 (hk.2.1.trans (by rw [e45]; rfl)) hW.2.1 hW.1 hk.1 (by omega) hd (fun hdd => ?_) (fun hdd => ?_)
    · have hE := (((h.er (e := 4) (s := k.2.1) (by omega)).ww w.length 8).wf (Or.inl rfl) (nI (w.length + 1))).wf (Or.inr rfl) (nI (dpW w + 1))
      exact M_advE (d := d + 4) hE (fQ45 hE.1 (kE _ 4 k.2.1 0 hE (run_deep (Or.inl e45) hdd) (Or.inl rfl)))
    · have hR := ((h.ww w.length 8).wf (Or.inl rfl) (nI (w.length + 1))).wf (Or.inr rfl) (nI (dpW w + 1))
      refine M_adv (d := d + 4) hG hR (by omega) (fun m' h' hs => fQ45 h'.1 (k0 m' 220 h' (WtM.ws ⟨?_, ?_, ?_, Or.inl rfl, ?_⟩ hs) (Or.inl ⟨rfl, e45⟩) hdd (run_neg e45 hdd) hwr))
      · exact (fi_ne (by decide)).trans fi_eq
      · rw [dpW_neg]; exact fi_eq
      · exact ai_eq
      · exact WtA_eq (f := ai m (gB G + 307)) (fun j hj => ai_nk (by omega)) hW.2.2
  by_cases e40 : k.1 = 40
  · have hwr := hw.tl (show 1 < k.1 by omega)
    have hrl : 0 < r.length := by obtain ⟨a, b, rfl⟩ := hwr.cs; exact Nat.succ_pos _
    refine fP40 h.1 h.2.2.2.1 (hk.2.1.trans (by rw [e40]; rfl)) hW.2.1 hW.1 hk.1 (by omega) hd (fun hdd => ?_) (fun hdd => ?_)
    · have hE := (((h.er (e := 4) (s := k.2.1) (by omega)).ww w.length 19).wf (Or.inl rfl) (nI (w.length + 1))).wf (Or.inr rfl) (nI (dpW w + 1))
      exact M_advE (d := d + 4) hE (fQ40 hE.1 (kE _ 4 k.2.1 0 hE (run_deep (Or.inr e40) hdd) (Or.inl rfl)))
    · have hR := ((h.ww w.length 19).wf (Or.inl rfl) (nI (w.length + 1))).wf (Or.inr rfl) (nI (dpW w + 1))
      refine M_adv (d := d + 4) hG hR (by omega) (fun m' h' hs => fQ40 h'.1 (k0 m' 40 h' (WtM.ws ⟨?_, ?_, ?_, Or.inr (Or.inl rfl), ?_⟩ hs) (Or.inr ⟨rfl, e40⟩) hdd (run_par e40 hdd) hwr))
      · exact (fi_ne (by decide)).trans fi_eq
      · rw [dpW_par]; exact fi_eq
      · exact ai_eq
      · exact WtA_eq (f := ai m (gB G + 307)) (fun j hj => ai_nk (by omega)) hW.2.2
  · have e : ∀ z, 2 ≤ z ∧ z < 100 → ¬ k.1 = z → ¬ syK k.1 = z := fun z hz h q => h ((syK_eq hz).mp q)
    have h500 : out.length < 500 ∨ ¬ out.length < 500 := by omega
    by_cases h5 : out.length < 500
    · refine fL h.1 hk.2.1 (syK_lt _) (e 45 (by omega) e45) (e 40 (by omega) e40) (M_leaf (d := d + 1) hG h hw e45 e40 h5 (fun m1 ts' x h1 hs hr hw1 hl1 => ?_) (fun m1 c p h1 hs hr => ?_))
      · have hlx : (out ++ [x]).length = out.length + 1 := by rw [List.length_append]; rfl
        have hel := ef_len w
        have htl : 0 < ts'.length := by obtain ⟨a, b, rfl⟩ := hw1.cs; exact Nat.succ_pos _
        refine fM h1.1 (M_ef (d := d + 3) h1 (hW.ws hs) (by omega) (fun m2 h2 hW2 => fN h2.1 (k1 m2 ts' _ h2 hW2 e40 (hr w) hw1 hl1 ?_)))
        simp only [List.length_append, List.length_cons, List.length_nil]
        omega
      · exact fM h1.1 (M_efE (d := d + 3) h1 (hW.ws hs) (by omega) (fun m2 h2 => fN h2.1 (kE m2 c p 1 h2 (hr w) (Or.inr rfl))))
    · -- the text is at its end: no code can come
      have hr0 : r.length = 0 := by omega
      have hk1 : k.1 ≤ 1 := by
        by_cases z : k.1 ≤ 1
        · exact z
        · obtain ⟨a, b, rfl⟩ := (hw.tl (by omega)).cs
          rw [List.length_cons] at hr0
          omega
      have hb : ¬ leafK k.1 := by unfold leafK; omega
      have h3 : ¬ fi m 1114 (gB G + 293) = 3 := fun z => by
        have := hk.2.2.2.1.mp z
        omega
      have hE := h.er (e := 1) (s := k.2.1) (by omega)
      refine fL h.1 hk.2.1 (syK_lt _) (e 45 (by omega) e45) (e 40 (by omega) e40) (lfA (d := d + 1) h.1 rfl h3 (M_ror (d := d + 2) h.1 hk ?_))
      rw [show rdR k.1 = -1 from if_neg (by omega)]
      exact lfBx (d := d + 1) h.1 h.2.2.2.1 hk.1 (M_advE (d := d + 3) hE (lfCx (d := d + 1) hE.1 rfl hE.c0 (fM hE.1 (M_efE (d := d + 3) hE (hW.ws ((WS.rf.wf (by omega) _).wf (by omega) _)) (by omega) (fun m2 h2 => fN h2.1 (kE m2 1 k.2.1 1 h2 (run_bad hb) (Or.inr rfl)))))))
/-- the loop -/
theorem L_sum (hG : QG G C) {P : Rs} (kO : ∀ m' ts' out', P = .ok (ts', out') → RQ G C m' ts' out' → Wf ts' → Q none m') (kE : ∀ m' c p, P = .error (c, p) → RE G C m' c p → Q none m') :
    ∀ f ts md w out m, (md = 0 ∨ md = 1) → ts.length ≤ f → Wf ts → out.length + w.length + ts.length ≤ 501 → dpW w ≤ 20 → WOk w → (md = 1 → w.head? ≠ some 220) → RQ G C m ts out → WtM G m w → P = run (qN C) (qL C) (qH C) ts md w out →
      WP G (d + 14) (0, 0) μX11_parseSum 14 [.ref (gB G + 293), .int (nI (opW w)), .int (nI md), lvU] [] m Q := by
  intro f
  induction f with
  | zero =>
    intro ts md w out m _ h1 h2
    obtain ⟨k, r, rfl⟩ := h2.cs
    simp at h1
  | succ f ih =>
    intro ts md w out m hmd h1 h2 h3 h4 h5 h6 h hW hP
    obtain ⟨k, r, rfl⟩ := h2.cs
    rw [List.length_cons] at h1 h3
    have hk := h.cs
    have hop := opW_le w
    have z0 : ∀ (m' : Mm) (c p b op : Nat), (b = 0 ∨ b = 1) → P = .error (c, p) → RE G C m' c p → WP G (d + 14) (0, 0) μX11_parseSum 14 [.ref (gB G + 293), .int (nI op), .int (nI b), lvU] [] m' Q := fun m' c p b op hb e hE => by
      rcases hb with rfl | rfl
      · exact suZ0 hE.1 rfl hE.c0 (kE m' c p e hE)
      · exact suZ1 hE.1 rfl hE.c0 (kE m' c p e hE)
    rcases hmd with rfl | rfl
    · refine suB0 h.1 h.2.2.2.1 ?_
      have nx : ∀ (o : Int32), WP G (d + 14) (0, 0) μX11_parseSum 25 [.ref (gB G + 293), .int (nI (opW w)), .int (0 : Int32), lvU] [.int o] m Q := fun o => by
        refine suI h.1 hk.2.1 (syK_lt _) (by omega) (fun e => ?_) (fun e => ?_)
        · have e40 : ¬ k.1 = 40 := fun z => e ((syK_eq (by omega)).mpr z)
          refine M_pfs (d := d + 1) hG h h2 hW h3 h4 (fun m' x hR hW' hx hdd hr hwr => ?_) (fun m' ts' out' hR hW' _ hr hw' hl' hc' => ?_) (fun m' c p v hE hr hv => ?_)
          · rcases hx with ⟨rfl, hx⟩ | ⟨-, hx⟩
            · refine suJ0 hR.1 ?_
              have := ih r 0 (220 :: w) out m' (Or.inl rfl) (by omega) hwr (by rw [List.length_cons]; omega) (by rw [dpW_neg]; omega) ⟨Or.inl rfl, h5⟩ (fun z => by omega) hR hW' (hP.trans hr)
              rw [opW_neg] at this
              exact this
            · exact absurd hx e40
          · refine suJ1 hR.1 ?_
            have hd := dp_ef w
            have := ih ts' 1 (efW w) out' m' (Or.inr rfl) (by omega) hw' hc' (by omega) (WOk_ef h5).1 (fun _ => (WOk_ef h5).2) hR hW' (hP.trans hr)
            rw [op_ef] at this
            exact this
          · rcases hv with rfl | rfl
            · exact suJ0 hE.1 (z0 m' c p 0 _ (Or.inl rfl) (hP.trans hr) hE)
            · exact suJ1 hE.1 (z0 m' c p 1 _ (Or.inr rfl) (hP.trans hr) hE)
        · have e40 : k.1 = 40 := (syK_eq (by omega)).mp e
          refine M_pfs (d := d + 1) hG h h2 hW h3 h4 (fun m' x hR hW' hx hdd hr hwr => ?_) (fun m' ts' out' hR hW' h40 hr hw' hl' hc' => absurd e40 h40) (fun m' c p v hE hr hv => ?_)
          · rcases hx with ⟨-, hx⟩ | ⟨rfl, hx⟩
            · omega
            · refine suJ0 hR.1 ?_
              have := ih r 0 (40 :: w) out m' (Or.inl rfl) (by omega) hwr (by rw [List.length_cons]; omega) (by rw [dpW_par]; omega) ⟨Or.inr (Or.inl rfl), h5⟩ (fun z => by omega) hR hW' (hP.trans hr)
              rw [opW_par] at this
              exact this
          · rcases hv with rfl | rfl
            · exact suJ0 hE.1 (z0 m' c p 0 _ (Or.inl rfl) (hP.trans hr) hE)
            · exact suJ1 hE.1 (z0 m' c p 1 _ (Or.inr rfl) (hP.trans hr) hE)
      exact M_bin (d := d + 5) h.1 hk.2.1 (fun _ => nx _) (fun _ => nx _)
    · refine suB1 h.1 h.2.2.2.1 (M_bin (d := d + 5) h.1 hk.2.1 (fun hb => ?_) (fun hb => ?_))
      · have hwr := h2.tl (show 1 < k.1 by unfold binK at hb; omega)
        have hrl : 0 < r.length := by obtain ⟨a, b, rfl⟩ := hwr.cs; exact Nat.succ_pos _
        have hbw : wK k.1 := Or.inr (Or.inr hb)
        have htr : trM k.1 = trW k.1 := (trW_n (by unfold binK at hb; omega)).symm
        have hr1 : 1 ≤ rkW k.1 ∧ rkW k.1 < 10 := by
          have := rk_le2 k.1
          refine ⟨?_, by omega⟩
          unfold binK at hb
          unfold rkW
          split
          · exact Nat.le_refl _
          · rw [if_pos (by omega)]; decide
        rw [htr]
        refine suK h.1 (fun z => ?_) ?_
        · rcases hb with e | e | e | e <;> rw [e] at z <;> exact absurd z (by decide)
        · rw [rk_tr hbw]
          refine M_pr (d := d + 5) hr1 h hW (by omega) (fun m1 hR1 hW1 => ?_)
          have hpl := pp_len (rkW k.1) w
          have hops := op_pp (rkW k.1) hr1.1 w
          refine suL hR1.1 hW1.1 (by omega) ?_
          have hR2 := (hR1.ww (ppW (rkW k.1) w).length (nI (trW k.1))).wf (Or.inl rfl) (nI ((ppW (rkW k.1) w).length + 1))
          refine M_adv (d := d + 6) hG hR2 (by unfold binK at hb; omega) (fun m' h' hs => suM h'.1 ?_)
          have hW2a : WtM G (wfi (wai m1 (gB G + 307) (ppW (rkW k.1) w).length (nI (trW k.1))) 1126 (gB G + 293) (nI ((ppW (rkW k.1) w).length + 1))) (k.1 :: ppW (rkW k.1) w) := ⟨fi_eq, by rw [dpW_bin hb]; exact (fi_ne (by decide)).trans hW1.2.1, ai_eq, hbw, WtA_eq (f := ai m1 (gB G + 307)) (fun j hj => ai_nk (by omega)) hW1.2.2⟩
          have hW2 : WtM G m' (k.1 :: ppW (rkW k.1) w) := hW2a.ws hs
          have := ih r 0 (k.1 :: ppW (rkW k.1) w) _ m' (Or.inl rfl) (by omega) hwr ?_ (by rw [dpW_bin hb, hops.2]; exact h4) (WOk_push hb h5 (h6 rfl)) (fun z => by omega) h' hW2 (hP.trans (run_bin hb))
          · rw [opW_bin hb, hops.1] at this
            exact this
          · simp only [List.length_append, List.length_cons]
            omega
      · by_cases ho : opW w = 0
        · have hz := hP.trans (run_ok hb ho)
          have nx : WPM G (d + 5 + 8) (0, 0) μX11_popFromRank [.ref (gB G + 293), .int (nI 1)] m (fun r' m' => WP G (d + 14) (0, 0) μX11_parseSum 153 [lvU, lvU, lvU, lvU] (r'.toList ++ []) m' Q) := M_pr (by omega) h hW (by omega) (fun m1 hR1 _ => suH hR1.1 (kO m1 _ _ hz hR1 h2))
          rw [ho]
          exact suG h.1 h.2.2.2.1 hk.2.1 hk.1 (syK_lt _) (fun _ => nx) (fun _ => nx)
        · obtain ⟨op, eop⟩ : ∃ z, opW w = z + 1 := ⟨opW w - 1, by omega⟩
          by_cases e41 : k.1 = 41
          · have hwr := h2.tl (show 1 < k.1 by omega)
            have hrl : 0 < r.length := by obtain ⟨a, b, rfl⟩ := hwr.cs; exact Nat.succ_pos _
            obtain ⟨v, v1, v2⟩ := pp_par h5 (h6 rfl) (by omega)
            have hpl := pp_len 1 w
            have hops := op_pp 1 (by omega) w
            have hz := hP.trans (run_cl e41 (by omega))
            rw [v1] at hpl hops hz
            rw [opW_par, dpW_par] at hops
            rw [List.length_cons] at hpl
            rw [eop]
            refine suC h.1 (hk.2.1.trans (by rw [e41]; rfl)) (by omega) (M_pr (q := 1) (d := d + 5) (by omega) h hW (by omega) (fun m1 hR1 hW1 => ?_))
            rw [v1] at hW1
            obtain ⟨x1, x2, x3, x4, x5⟩ := hW1
            rw [dpW_par] at x2
            refine suD hR1.1 x1 x2 ?_
            have hR2 := (hR1.wf (Or.inl rfl) (nI v.length)).wf (Or.inr rfl) (nI (dpW v))
            refine M_adv (d := d + 6) hG hR2 (by omega) (fun m2 hR3 hs => suE hR3.1 ?_)
            have hW3 : WtM G m2 v := WtM.ws ⟨(fi_ne (by decide)).trans fi_eq, fi_eq, x5⟩ hs
            have hel := ef_len v
            refine M_ef (d := d + 5) hR3 hW3 (by simp only [List.length_append]; omega) (fun m3 hR4 hW4 => suF hR4.1 ?_)
            have hwv : WOk v := by
              have := WOk_pp 1 h5
              rw [v1] at this
              exact this.2
            have hdv := dp_ef v
            have := ih r 1 (efW v) _ m3 (Or.inr rfl) (by omega) hwr ?_ (by omega) (WOk_ef hwv).1 (fun _ => (WOk_ef hwv).2) hR4 hW4 hz
            · rw [op_ef, show opW v = op by omega] at this
              exact this
            · simp only [List.length_append]
              omega
          · have hz := hP.trans (run_op hb e41 ho)
            have hE := h.er (e := 1) (s := k.2.1) (by omega)
            rw [eop]
            exact suGx h.1 h.2.2.2.1 hk.2.1 hk.1 (syK_lt _) (fun z => e41 ((syK_eq (by omega)).mp z)) (by omega) (M_prE (q := 1) (d := d + 5) (by omega) hE (hW.ws ((WS.rf.wf (by omega) _).wf (by omega) _)) (by omega) (fun m2 h2' => suH h2'.1 (kE m2 1 k.2.1 hz h2')))
theorem M_sum (hG : QG G C) (h : RQ G C m ts out) (hw : Wf ts) (hcap : out.length + ts.length ≤ 501)
    (kO : ∀ m' ts' out', run (qN C) (qL C) (qH C) ts 0 [] out = .ok (ts', out') → RQ G C m' ts' out' → Wf ts' → Q none m') (kE : ∀ m' c p, run (qN C) (qL C) (qH C) ts 0 [] out = .error (c, p) → RE G C m' c p → Q none m') : WPM G (d + 14) (0, 0) μX11_parseSum [.ref (gB G + 293)] m Q := by
  refine suA h.1 ?_
  have hR := (h.wf (Or.inl rfl) (0 : Int32)).wf (Or.inr rfl) (0 : Int32)
  exact L_sum hG kO kE ts.length ts 0 [] out _ (Or.inl rfl) (Nat.le_refl _) hw hcap (by decide) trivial (fun z => by omega) hR ⟨(fi_ne (by decide)).trans fi_eq, fi_eq, trivial⟩ rfl
end MSUM
