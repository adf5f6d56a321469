/-! THE REFERENCE'S READER: its state, and the small contracts -/
def ME (G : Cx) (a : Nat) : Prop := a = gB G + 293 ∨ a = gB G + 306 ∨ a = gB G + 307
abbrev Qc : Type := Mm × List Nat × Nat × Nat × Nat × Nat
abbrev qM (C : Qc) : Mm := C.1
abbrev qT (C : Qc) : List Nat := C.2.1
abbrev qN (C : Qc) : Nat := C.2.2.1
abbrev qL (C : Qc) : Nat := C.2.2.2.1
abbrev qH (C : Qc) : Nat := C.2.2.2.2.1
abbrev qR (C : Qc) : Nat := C.2.2.2.2.2
def CodP (G : Cx) (m : Mm) : Nat → List Cd → Prop
  | _, [] => True
  | i, c :: cs => ai m (gB G + 306) (2 * i) = nI (trM c.1) ∧ ai m (gB G + 306) (2 * i + 1) = nI c.2 ∧ CodP G m (i + 1) cs
def QG (G : Cx) (C : Qc) : Prop := (∀ k b, (qT C)[k]? = some b → ai (qM C) (gB G + 304) k = nI b) ∧ (qT C).length ≤ 500 ∧ (∀ b ∈ qT C, b < 256) ∧ ai (qM C) (gB G + 294) 12 = nI (qN C) ∧ ai (qM C) (gB G + 294) 13 = nI (qL C) ∧ ai (qM C) (gB G + 294) 14 = nI (qH C) ∧ qN C ≤ 12 ∧ qL C ≤ 12 ∧ qH C ≤ 12 ∧ qR C ≤ 12
def RQ (G : Cx) (C : Qc) (m : Mm) (ts : List Tk) (out : List Cd) : Prop := Full G m ∧ Out (ME G) m (qM C) ∧ fi m 1111 (gB G + 293) = nI (qT C).length ∧ fi m 1118 (gB G + 293) = 0 ∧ fi m 1119 (gB G + 293) = -1 ∧ fi m 1123 (gB G + 293) = nI (qR C) ∧ fi m 1124 (gB G + 293) = nI out.length ∧ CodP G m 0 out ∧ RSt G m (qT C) ts
def RE (G : Cx) (C : Qc) (m : Mm) (c p : Nat) : Prop := Full G m ∧ Out (ME G) m (qM C) ∧ fi m 1111 (gB G + 293) = nI (qT C).length ∧ fi m 1118 (gB G + 293) = nI c ∧ (0 < c ∧ c < 10) ∧ fi m 1119 (gB G + 293) = nI p ∧ fi m 1123 (gB G + 293) = nI (qR C)
def trW (k : Nat) : Nat := if k = 40 then 19 else trM k
def wK (k : Nat) : Prop := k = 220 ∨ k = 40 ∨ binK k
def WtA (f : Nat → Int32) : List Nat → Prop
  | [] => True
  | k :: w => f w.length = nI (trW k) ∧ wK k ∧ WtA f w
def WtM (G : Cx) (m : Mm) (w : List Nat) : Prop := fi m 1126 (gB G + 293) = nI w.length ∧ fi m 1127 (gB G + 293) = nI (dpW w) ∧ WtA (ai m (gB G + 307)) w
theorem WtA_eq {f g : Nat → Int32} : ∀ {w : List Nat}, (∀ j, j < w.length → g j = f j) → WtA f w → WtA g w
  | [], _, _ => trivial
  | k :: w, he, ⟨h1, h2, h3⟩ => ⟨(he _ (Nat.lt_succ_self _)).trans h1, h2, WtA_eq (fun j hj => he j (Nat.lt_succ_of_lt hj)) h3⟩
theorem CodP_ai {G : Cx} {m m' : Mm} : ∀ {out : List Cd} {i : Nat}, (∀ j, 2 * i ≤ j → j < 2 * i + 2 * out.length → ai m' (gB G + 306) j = ai m (gB G + 306) j) → CodP G m i out → CodP G m' i out
  | [], _, _, _ => trivial
  | c :: out, i, he, ⟨h1, h2, h3⟩ => by
    have hl : (c :: out).length = out.length + 1 := rfl
    exact ⟨(he _ (by omega) (by omega)).trans h1, (he _ (by omega) (by omega)).trans h2, CodP_ai (fun j hj hj2 => he j (by omega) (by omega)) h3⟩
theorem CodP_snoc {G : Cx} {m : Mm} {c : Cd} : ∀ {out : List Cd} {i : Nat}, CodP G m i out → ai m (gB G + 306) (2 * (i + out.length)) = nI (trM c.1) → ai m (gB G + 306) (2 * (i + out.length) + 1) = nI c.2 → CodP G m i (out ++ [c])
  | [], _, _, e1, e2 => ⟨e1, e2, trivial⟩
  | x :: out, i, ⟨h1, h2, h3⟩, e1, e2 => by
    rw [List.length_cons, show i + (out.length + 1) = i + 1 + out.length by omega] at e1 e2
    exact ⟨h1, h2, CodP_snoc h3 e1 e2⟩
theorem rk_tr {k : Nat} (h : wK k) : rkM (nI (trW k)) = nI (rkW k) := by
  rcases h with rfl | rfl | rfl | rfl | rfl | rfl <;> decide
theorem rk_lt {k r : Nat} (h : wK k) (hr : r < 10) : rkM (nI (trW k)) < nI r ↔ ¬ r ≤ rkW k := by
  rw [rk_tr h, nI_ltI (by have := rk_le2 k; omega) (by omega)]
  omega
theorem tr8 {k : Nat} (h : wK k) : nI (trW k) = 8 ↔ k = 220 := by
  rcases h with rfl | rfl | rfl | rfl | rfl | rfl <;> decide
theorem trW_n {k : Nat} (h : k ≠ 40) : trW k = trM k := if_neg h
def WS (G : Cx) (m' m : Mm) : Prop := (∀ g, g = 1126 ∨ g = 1127 → fi m' g (gB G + 293) = fi m g (gB G + 293)) ∧ ai m' (gB G + 307) = ai m (gB G + 307)
theorem WS.rf {G : Cx} {m : Mm} : WS G m m := ⟨fun _ _ => rfl, rfl⟩
theorem WS.tr {G : Cx} {m m1 m2 : Mm} (h2 : WS G m2 m1) (h1 : WS G m1 m) : WS G m2 m := ⟨fun g hg => (h2.1 g hg).trans (h1.1 g hg), h2.2.trans h1.2⟩
theorem WS.wf {G : Cx} {m m1 : Mm} (h : WS G m1 m) {f : Nat} (hf : f < 1126) (x : Int32) : WS G (wfi m1 f (gB G + 293) x) m := ⟨fun g hg => (fi_ne (by omega)).trans (h.1 g hg), h.2⟩
theorem WS.wc {G : Cx} {m m1 : Mm} (h : WS G m1 m) (j : Nat) (x : Int32) : WS G (wai m1 (gB G + 306) j x) m := ⟨h.1, by
  rw [← h.2]
  funext i
  exact ai_na (by omega)⟩
theorem WtM.ws {G : Cx} {m m' : Mm} {w : List Nat} (h : WtM G m w) (hs : WS G m' m) : WtM G m' w := ⟨(hs.1 _ (Or.inl rfl)).trans h.1, (hs.1 _ (Or.inr rfl)).trans h.2.1, by rw [hs.2]; exact h.2.2⟩
section MCON
variable {G : Cx} {C : Qc} {d : Nat} {m m1 : Mm} {Q : Option Value → Mm → Prop} {k : Tk} {r ts : List Tk} {out : List Cd} {w : List Nat} {c p : Nat}
theorem RE.c0 (h : RE G C m c p) : ¬ fi m 1118 (gB G + 293) = 0 := fun e => by
  have h4 := h.2.2.2.1.symm.trans e
  exact nI_ne0 h.2.2.2.2.1.1 (by have := h.2.2.2.2.1.2; omega) h4
theorem RQ.tx (hG : QG G C) (h : RQ G C m ts out) : TxM G m (qT C) := ⟨h.2.2.1, fun k b hk => (h.2.1.ai (by unfold ME; omega) k).trans (hG.1 k b hk)⟩
theorem RQ.cs (h : RQ G C m (k :: r) out) : RTk G m k := by
  obtain ⟨k', r', e, h1, -⟩ := h.2.2.2.2.2.2.2.2
  cases e
  exact h1
theorem M_adv (hG : QG G C) (h : RQ G C m (k :: r) out) (hk : 1 < k.1) (kk : ∀ m', RQ G C m' r out → WS G m' m → Q none m') : WPM G (d + 7) (0, 0) μX11_advance [.ref (gB G + 293)] m Q := by
  have hT := h.tx hG
  obtain ⟨h1, h2, h3, h4, h5, h6, h7, h8, ⟨k', r', e, g1, g2⟩⟩ := h
  cases e
  obtain ⟨f, q, a1, a2, a3, rfl⟩ := g2 hk
  refine adA h1 h4 (M_nt h1 hT hG.2.1 hG.2.2.1 a1 a2 a3 (fun m' b1 b2 b3 b4 => adB b1 (kk m' ?_ ⟨?_, ?_⟩)))
  · exact ⟨b1, (b2.mono (fun a ha => Or.inl ha)).tr h2, (b3 1111 (by omega)).trans h3, (b3 1118 (by omega)).trans h4, (b3 1119 (by omega)).trans h5, (b3 1123 (by omega)).trans h6, (b3 1124 (by omega)).trans h7, CodP_ai (fun j _ _ => b2.ai (by unfold ON; omega) j) h8, b4⟩
  · intro g hg
    exact b3 g (by omega)
  · funext j
    exact b2.ai (by unfold ON; omega) j
theorem M_advE (h : RE G C m c p) (kk : Q none m) : WPM G (d + 7) (0, 0) μX11_advance [.ref (gB G + 293)] m Q := adE h.1 rfl h.c0 kk
/-- an error is noted -/
theorem RQ.er (h : RQ G C m ts out) {e s : Nat} (he : 0 < e ∧ e < 10) : RE G C (wfi (wfi m 1118 (gB G + 293) (nI e)) 1119 (gB G + 293) (nI s)) e s := by
  obtain ⟨h1, h2, h3, h4, h5, h6, h7, h8, h9⟩ := h
  have g : ∀ {f b : Nat}, f ≠ 1119 → f ≠ 1118 → fi (wfi (wfi m 1118 (gB G + 293) (nI e)) 1119 (gB G + 293) (nI s)) f b = fi m f b := fun q1 q2 => (fi_ne q1).trans (fi_ne q2)
  exact ⟨Full_wfi _ _ _ (Full_wfi _ _ _ h1), (h2.wfi (Or.inl rfl)).wfi (Or.inl rfl), (g (by decide) (by decide)).trans h3, (fi_ne (by decide)).trans fi_eq, he, fi_eq, (g (by decide) (by decide)).trans h6⟩
theorem syK_eq {y x : Nat} (hx : 2 ≤ x ∧ x < 100) : syK y = x ↔ y = x := by
  unfold syK
  split <;> omega
theorem syK_lt (y : Nat) : syK y < 1000 := by
  unfold syK
  split <;> omega
theorem M_rs {x : Nat} (hG : QG G C) (h : RQ G C m (k :: r) out) (hx : 2 ≤ x ∧ x < 100) (k1 : k.1 = x → ∀ m', RQ G C m' r out → Q none m') (k0 : ¬ k.1 = x → ∀ m', RE G C m' 1 k.2.1 → Q none m') : WPM G (d + 8) (0, 0) μX11_requireSymbol [.ref (gB G + 293), .int (nI x)] m Q := by
  have hk := h.cs
  refine rsA h.1 h.2.2.2.1 hk.2.1 hk.1 (syK_lt _) (by omega) (fun e => ?_) (fun e => ?_)
  · have hE := h.er (e := 1) (s := k.2.1) (by omega)
    exact M_advE hE (rsB hE.1 (k0 (fun z => e ((syK_eq hx).mpr z)) _ hE))
  · have e' := (syK_eq hx).mp e
    exact M_adv hG h (by omega) (fun m' h' _ => rsB h'.1 (k1 e' m' h'))
theorem M_rsE {x : Int32} (h : RE G C m c p) (kk : Q none m) : WPM G (d + 8) (0, 0) μX11_requireSymbol [.ref (gB G + 293), .int x] m Q :=
  rsE h.1 rfl h.c0 (fun _ => M_advE h (rsB h.1 kk)) (fun _ => M_advE h (rsB h.1 kk))
theorem NuR.lt {y : Int32} {v x : Nat} (h : NuR y v) (hx : x ≤ 12) : y < nI x ↔ v < x := by
  rcases h with ⟨h1, rfl⟩ | ⟨h1, h2⟩
  · rw [nI_ltI (by omega) (by omega)]
  · constructor
    · intro z
      rw [Int32.lt_iff_toInt_lt] at h2 z
      have e1 : (999999 : Int32).toInt = 999999 := by decide
      have e2 : (nI x).toInt = (x : Int) := nI_toInt (by omega)
      omega
    · intro z; omega
theorem M_pp {x : Nat} (hG : QG G C) (h : RQ G C m (k :: r) out) (hx : x ≤ 12) (k1 : k.1 = 200 → k.2.2 < x → ∀ m', RQ G C m' r out → WS G m' m → Q (some (.int (nI k.2.2))) m') (k2 : k.1 = 200 → ¬ k.2.2 < x → ∀ m' v, RE G C m' 2 k.2.1 → WS G m' m → Q (some (.int v)) m') (k0 : ¬ k.1 = 200 → ∀ m' v, RE G C m' 1 k.2.1 → WS G m' m → Q (some (.int v)) m') : WPM G (d + 8) (0, 0) μX11_parsePart [.ref (gB G + 293), .int (nI x)] m Q := by
  have hk := h.cs
  have h3 := hk.2.2.2.1
  have hn := hk.2.2.2.2.1
  have hE1 := h.er (e := 1) (s := k.2.1) (by omega)
  have hE2 := h.er (e := 2) (s := k.2.1) (by omega)
  refine ppA h.1 h.2.2.2.1 rfl hk.1 rfl (fun a _ => ?_) (fun a _ => ?_) (fun a b => ?_) (fun a b => ?_)
  · exact M_advE hE1 (ppB hE1.1 (k0 (fun z => a (h3.mpr z)) _ _ hE1 ((WS.rf.wf (by omega) _).wf (by omega) _)))
  · exact M_advE hE1 (ppB hE1.1 (k0 (fun z => a (h3.mpr z)) _ _ hE1 ((WS.rf.wf (by omega) _).wf (by omega) _)))
  · have h200 := h3.mp a
    exact M_advE hE2 (ppB hE2.1 (k2 h200 (fun z => b (((hn h200).lt hx).mpr z)) _ _ hE2 ((WS.rf.wf (by omega) _).wf (by omega) _)))
  · have h200 := h3.mp a
    have hlt := ((hn h200).lt hx).mp b
    have ey : fi m 1117 (gB G + 293) = nI k.2.2 := by
      rcases hn h200 with ⟨-, e⟩ | ⟨e, -⟩
      · exact e
      · omega
    rw [ey]
    exact M_adv hG h (by omega) (fun m' h' hs => ppB h'.1 (k1 h200 hlt m' h' hs))
def rdR (k : Nat) : Int32 := if 205 ≤ k ∧ k ≤ 211 then nI (k - 204) else -1
theorem M_ror (hF : Full G m) (hk : RTk G m k) (kk : Q (some (.int (rdR k.1))) m) : WPM G (d + 8) (0, 0) μX11_readerOfWord [.ref (gB G + 293)] m Q := by
  have y : ∀ {z : Nat}, k.1 = z → rdR z = rdR k.1 := fun e => by rw [e]
  refine rwA hF (M_isw (d := d + 1) hF (i := 2) (by omega) (by omega) hk ?_)
  rw [show 201 + wiJ 2 = 205 from rfl]
  by_cases e5 : k.1 = 205
  · rw [if_pos e5]; rw [← y e5] at kk; exact rw1y hF kk
  rw [if_neg e5]
  refine rw1n hF (M_isw (d := d + 1) hF (i := 3) (by omega) (by omega) hk ?_)
  rw [show 201 + wiJ 3 = 206 from rfl]
  by_cases e6 : k.1 = 206
  · rw [if_pos e6]; rw [← y e6] at kk; exact rw2y hF kk
  rw [if_neg e6]
  refine rw2n hF (M_isw (d := d + 1) hF (i := 4) (by omega) (by omega) hk ?_)
  rw [show 201 + wiJ 4 = 207 from rfl]
  by_cases e7 : k.1 = 207
  · rw [if_pos e7]; rw [← y e7] at kk; exact rw3y hF kk
  rw [if_neg e7]
  refine rw3n hF (M_isw (d := d + 1) hF (i := 5) (by omega) (by omega) hk ?_)
  rw [show 201 + wiJ 5 = 208 from rfl]
  by_cases e8 : k.1 = 208
  · rw [if_pos e8]; rw [← y e8] at kk; exact rw4y hF kk
  rw [if_neg e8]
  refine rw4n hF (M_isw (d := d + 1) hF (i := 6) (by omega) (by omega) hk ?_)
  rw [show 201 + wiJ 6 = 209 from rfl]
  by_cases e9 : k.1 = 209
  · rw [if_pos e9]; rw [← y e9] at kk; exact rw5y hF kk
  rw [if_neg e9]
  refine rw5n hF (M_isw (d := d + 1) hF (i := 7) (by omega) (by omega) hk ?_)
  rw [show 201 + wiJ 7 = 210 from rfl]
  by_cases e10 : k.1 = 210
  · rw [if_pos e10]; rw [← y e10] at kk; exact rw6y hF kk
  rw [if_neg e10]
  refine rw6n hF (M_isw (d := d + 1) hF (i := 8) (by omega) (by omega) hk ?_)
  rw [show 201 + wiJ 8 = 211 from rfl]
  by_cases e11 : k.1 = 211
  · rw [if_pos e11]; rw [← y e11] at kk; exact rw7y hF kk
  rw [if_neg e11]
  rw [show rdR k.1 = -1 from if_neg (by omega)] at kk
  exact rw7n hF kk
/-- one code given out -/
theorem RQ.em (h : RQ G C m ts out) (h5 : out.length < 500) {x : Cd} {a b : Int32} (ha : a = nI (trM x.1)) (hb : b = nI x.2) : RQ G C (wfi (wai (wai m (gB G + 306) (2 * out.length) a) (gB G + 306) (2 * out.length + 1) b) 1124 (gB G + 293) (nI (out.length + 1))) ts (out ++ [x]) := by
  obtain ⟨h1, h2, h3, h4, h5, h6, h7, h8, ⟨k, r, e, g1, g2⟩⟩ := h
  refine ⟨Full_wfi _ _ _ (Full_wai _ _ _ (Full_wai _ _ _ h1)), ((h2.wai (Or.inr (Or.inl rfl))).wai (Or.inr (Or.inl rfl))).wfi (Or.inl rfl), (fi_ne (by decide)).trans h3, (fi_ne (by decide)).trans h4, (fi_ne (by decide)).trans h5, (fi_ne (by decide)).trans h6, ?_, ?_, ⟨k, r, e, ?_, fun hk => ?_⟩⟩
  · rw [List.length_append]
    exact fi_eq
  · refine CodP_snoc (CodP_ai (fun j _ hj => ?_) h8) ?_ ?_
    · show ai (wai (wai m (gB G + 306) (2 * out.length) a) (gB G + 306) (2 * out.length + 1) b) (gB G + 306) j = _
      rw [ai_nk (by omega), ai_nk (by omega)]
    · show ai (wai (wai m (gB G + 306) (2 * out.length) a) (gB G + 306) (2 * out.length + 1) b) (gB G + 306) (2 * (0 + out.length)) = _
      rw [Nat.zero_add, ai_nk (by omega), ai_eq, ha]
    · show ai (wai (wai m (gB G + 306) (2 * out.length) a) (gB G + 306) (2 * out.length + 1) b) (gB G + 306) (2 * (0 + out.length) + 1) = _
      rw [Nat.zero_add, ai_eq, hb]
  · obtain ⟨r1, r2, r3, r4, r5, ⟨l, l1, l2, l3⟩, r7⟩ := g1
    have n : ∀ {f : Nat}, f ≠ 1124 → fi (wfi (wai (wai m (gB G + 306) (2 * out.length) a) (gB G + 306) (2 * out.length + 1) b) 1124 (gB G + 293) (nI (out.length + 1))) f (gB G + 293) = fi m f (gB G + 293) := fun q => fi_ne q
    refine ⟨(n (by decide)).trans r1, (n (by decide)).trans r2, ?_, ?_, ?_, ⟨l, l1, (n (by decide)).trans l2, ?_⟩, ?_⟩
    · rw [n (by decide)]; exact r3
    · rw [n (by decide)]; exact r4
    · rw [n (by decide)]; exact r5
    · rw [n (by decide)]; exact l3
    · rw [n (by decide)]; exact r7
  · obtain ⟨f, q, a1, a2, a3, a4⟩ := g2 hk
    exact ⟨f, q, a1, a2, (fi_ne (by decide)).trans a3, a4⟩
/-- a field of the stack written -/
theorem RQ.wf (h : RQ G C m ts out) {f : Nat} (hf : f = 1126 ∨ f = 1127) (x : Int32) : RQ G C (wfi m f (gB G + 293) x) ts out := by
  obtain ⟨h1, h2, h3, h4, h5, h6, h7, h8, ⟨k, r, e, g1, g2⟩⟩ := h
  have n : ∀ {g : Nat}, g < 1126 → fi (wfi m f (gB G + 293) x) g (gB G + 293) = fi m g (gB G + 293) := fun q => fi_ne (by omega)
  refine ⟨Full_wfi _ _ _ h1, h2.wfi (Or.inl rfl), (n (by decide)).trans h3, (n (by decide)).trans h4, (n (by decide)).trans h5, (n (by decide)).trans h6, (n (by decide)).trans h7, CodP_ai (m := m) (fun _ _ _ => rfl) h8, ⟨k, r, e, ?_, fun hk => ?_⟩⟩
  · obtain ⟨r1, r2, r3, r4, r5, ⟨l, l1, l2, l3⟩, r7⟩ := g1
    refine ⟨(n (by decide)).trans r1, (n (by decide)).trans r2, ?_, ?_, ?_, ⟨l, l1, (n (by decide)).trans l2, ?_⟩, ?_⟩
    · rw [n (by decide)]; exact r3
    · rw [n (by decide)]; exact r4
    · rw [n (by decide)]; exact r5
    · rw [n (by decide)]; exact l3
    · rw [n (by decide)]; exact r7
  · obtain ⟨f', q, a1, a2, a3, a4⟩ := g2 hk
    exact ⟨f', q, a1, a2, (n (by decide)).trans a3, a4⟩
theorem RQ.ww (h : RQ G C m ts out) (j : Nat) (x : Int32) : RQ G C (wai m (gB G + 307) j x) ts out := by
  obtain ⟨h1, h2, h3, h4, h5, h6, h7, h8, ⟨k, r, e, g1, g2⟩⟩ := h
  exact ⟨Full_wai _ _ _ h1, h2.wai (Or.inr (Or.inr rfl)), h3, h4, h5, h6, h7, CodP_ai (m := m) (fun _ _ _ => ai_na (by omega)) h8, ⟨k, r, e, g1, g2⟩⟩
theorem RE.wf (h : RE G C m c p) {f : Nat} (hf : f = 1126 ∨ f = 1127) (x : Int32) : RE G C (wfi m f (gB G + 293) x) c p := by
  obtain ⟨h1, h2, h3, h4, h5, h6, h7⟩ := h
  have n : ∀ {g : Nat}, g < 1126 → fi (wfi m f (gB G + 293) x) g (gB G + 293) = fi m g (gB G + 293) := fun q => fi_ne (by omega)
  exact ⟨Full_wfi _ _ _ h1, h2.wfi (Or.inl rfl), (n (by decide)).trans h3, (n (by decide)).trans h4, h5, (n (by decide)).trans h6, (n (by decide)).trans h7⟩
theorem RE.ww (h : RE G C m c p) (j : Nat) (x : Int32) : RE G C (wai m (gB G + 307) j x) c p := by
  obtain ⟨h1, h2, h3⟩ := h
  exact ⟨Full_wai _ _ _ h1, h2.wai (Or.inr (Or.inr rfl)), h3⟩
/-- endFactor -/
theorem L_ef : ∀ (w : List Nat) (m : Mm) (out : List Cd), RQ G C m ts out → WtM G m w → out.length + w.length ≤ 500 → (∀ m', RQ G C m' ts (out ++ efO w) → WtM G m' (efW w) → Q none m') → WP G (d + 8) (0, 0) μX11_endFactor 0 [.ref (gB G + 293)] [] m Q
  | [], m, out, h, hw, hl, kk => by
    refine ef0 h.1 hw.1 (kk m ?_ hw)
    show RQ G C m ts (out ++ [])
    rw [List.append_nil]
    exact h
  | k :: w, m, out, h, hw, hl, kk => by
    obtain ⟨w1, w2, w3, w4, w5⟩ := hw
    rw [List.length_cons] at hl w1
    by_cases e : k = 220
    · subst e
      rw [dpW_neg] at w2
      have e1 : efO (220 :: w) = (220, 0) :: efO w := if_pos rfl
      have e2 : efW (220 :: w) = efW w := if_pos rfl
      rw [e1, e2] at kk
      refine efo h.1 h.2.2.2.1 w1 w2 h.2.2.2.2.2.2.1 (by omega) (by omega) w3 (fun z => absurd ((tr8 w4).mpr rfl) z) (fun _ => ?_)
      have h1 := ((h.wf (Or.inl rfl) (nI w.length)).em (x := (220, 0)) (a := nI (trW 220)) (b := 0) (by omega) rfl rfl).wf (Or.inr rfl) (nI (dpW w))
      refine L_ef w _ _ h1 ⟨?_, fi_eq, WtA_eq (f := ai m (gB G + 307)) (fun j hj => ?_) w5⟩ (by rw [List.length_append]; show out.length + 1 + w.length ≤ 500; omega) (fun m' a1 a2 => kk m' ?_ a2)
      · exact (fi_ne (by decide)).trans ((fi_ne (by decide)).trans fi_eq)
      · show ai (wai (wai (wfi m 1126 (gB G + 293) (nI w.length)) (gB G + 306) (2 * out.length) (nI (trW 220))) (gB G + 306) (2 * out.length + 1) (0 : Int32)) (gB G + 307) j = _
        rw [ai_na (by omega), ai_na (by omega)]
        rfl
      · rw [List.append_assoc] at a1
        exact a1
    · have e1 : efO (k :: w) = [] := if_neg e
      have e2 : efW (k :: w) = k :: w := if_neg e
      rw [e1, e2, List.append_nil] at kk
      exact efx h.1 w1 (by omega) w3 (fun z => e ((tr8 w4).mp z)) (kk m h ⟨w1, w2, w3, w4, w5⟩)
theorem M_ef (h : RQ G C m ts out) (hw : WtM G m w) (hl : out.length + w.length ≤ 500) (kk : ∀ m', RQ G C m' ts (out ++ efO w) → WtM G m' (efW w) → Q none m') : WPM G (d + 8) (0, 0) μX11_endFactor [.ref (gB G + 293)] m Q := by
  refine WPM.of pX11 (Nat.le_of_ble_eq_true rfl) rfl ?_
  exact L_ef w m out h hw hl kk
theorem L_efE : ∀ (w : List Nat) (m : Mm), RE G C m c p → WtM G m w → w.length ≤ 500 → (∀ m', RE G C m' c p → Q none m') → WP G (d + 8) (0, 0) μX11_endFactor 0 [.ref (gB G + 293)] [] m Q
  | [], m, h, hw, hl, kk => ef0 h.1 hw.1 (kk m h)
  | k :: w, m, h, hw, hl, kk => by
    obtain ⟨w1, w2, w3, w4, w5⟩ := hw
    rw [List.length_cons] at hl w1
    by_cases e : k = 220
    · subst e
      rw [dpW_neg] at w2
      refine efe h.1 rfl h.c0 w1 w2 (by omega) w3 (fun _ => kk m h) (fun _ => ?_)
      exact L_efE w _ ((h.wf (Or.inl rfl) _).wf (Or.inr rfl) _) ⟨(fi_ne (by decide)).trans fi_eq, fi_eq, WtA_eq (f := ai m (gB G + 307)) (fun j hj => rfl) w5⟩ (by omega) kk
    · exact efx h.1 w1 (by omega) w3 (fun z => e ((tr8 w4).mp z)) (kk m h)
theorem M_efE (h : RE G C m c p) (hw : WtM G m w) (hl : w.length ≤ 500) (kk : ∀ m', RE G C m' c p → Q none m') : WPM G (d + 8) (0, 0) μX11_endFactor [.ref (gB G + 293)] m Q := by
  refine WPM.of pX11 (Nat.le_of_ble_eq_true rfl) rfl ?_
  exact L_efE w m h hw hl kk
/-- popFromRank -/
theorem L_pr {q : Nat} (hq : 1 ≤ q ∧ q < 10) : ∀ (w : List Nat) (m : Mm) (out : List Cd), RQ G C m ts out → WtM G m w → out.length + w.length ≤ 500 → (∀ m', RQ G C m' ts (out ++ ppO q w) → WtM G m' (ppW q w) → Q none m') → WP G (d + 8) (0, 0) μX11_popFromRank 0 [.ref (gB G + 293), .int (nI q)] [] m Q
  | [], m, out, h, hw, hl, kk => by
    refine pr0 h.1 hw.1 (kk m ?_ hw)
    show RQ G C m ts (out ++ [])
    rw [List.append_nil]
    exact h
  | k :: w, m, out, h, hw, hl, kk => by
    obtain ⟨w1, w2, w3, w4, w5⟩ := hw
    rw [List.length_cons] at hl w1
    by_cases e : q ≤ rkW k
    · have e1 : ppO q (k :: w) = (k, 0) :: ppO q w := if_pos e
      have e2 : ppW q (k :: w) = ppW q w := if_pos e
      rw [e1, e2] at kk
      have hb := rk_bin (k := k) (by omega)
      rw [dpW_bin hb] at w2
      refine pro (rk := 0) h.1 h.2.2.2.1 w1 h.2.2.2.2.2.2.1 (by omega) (by omega) w3 hq.2 (fun z => absurd ((rk_lt w4 hq.2).mp z) (fun z => z e)) (fun _ => ?_)
      have h1 := (h.wf (Or.inl rfl) (nI w.length)).em (x := (k, 0)) (a := nI (trW k)) (b := 0) (by omega) (congrArg nI (trW_n (by unfold binK at hb; omega))) rfl
      refine L_pr hq w _ _ h1 ⟨?_, ?_, WtA_eq (f := ai m (gB G + 307)) (fun j hj => ?_) w5⟩ (by rw [List.length_append]; show out.length + 1 + w.length ≤ 500; omega) (fun m' a1 a2 => kk m' ?_ a2)
      · exact (fi_ne (by decide)).trans fi_eq
      · refine (fi_ne (by decide)).trans ?_
        show fi (wfi m 1126 (gB G + 293) (nI w.length)) 1127 (gB G + 293) = _
        exact (fi_ne (by decide)).trans w2
      · show ai (wai (wai (wfi m 1126 (gB G + 293) (nI w.length)) (gB G + 306) (2 * out.length) (nI (trW k))) (gB G + 306) (2 * out.length + 1) (0 : Int32)) (gB G + 307) j = _
        rw [ai_na (by omega), ai_na (by omega)]
        rfl
      · rw [List.append_assoc] at a1
        exact a1
    · have e1 : ppO q (k :: w) = [] := if_neg e
      have e2 : ppW q (k :: w) = k :: w := if_neg e
      rw [e1, e2, List.append_nil] at kk
      exact pro (rk := 0) h.1 h.2.2.2.1 w1 h.2.2.2.2.2.2.1 (by omega) (by omega) w3 hq.2 (fun _ => kk m h ⟨w1, w2, w3, w4, w5⟩) (fun z => absurd ((rk_lt w4 hq.2).mpr e) z)
theorem M_pr {q : Nat} (hq : 1 ≤ q ∧ q < 10) (h : RQ G C m ts out) (hw : WtM G m w) (hl : out.length + w.length ≤ 500) (kk : ∀ m', RQ G C m' ts (out ++ ppO q w) → WtM G m' (ppW q w) → Q none m') : WPM G (d + 8) (0, 0) μX11_popFromRank [.ref (gB G + 293), .int (nI q)] m Q := by
  refine WPM.of pX11 (Nat.le_of_ble_eq_true rfl) rfl ?_
  exact L_pr hq w m out h hw hl kk
theorem L_prE {q : Nat} (hq : 1 ≤ q ∧ q < 10) : ∀ (w : List Nat) (m : Mm), RE G C m c p → WtM G m w → w.length ≤ 500 → (∀ m', RE G C m' c p → Q none m') → WP G (d + 8) (0, 0) μX11_popFromRank 0 [.ref (gB G + 293), .int (nI q)] [] m Q
  | [], m, h, hw, hl, kk => pr0 h.1 hw.1 (kk m h)
  | k :: w, m, h, hw, hl, kk => by
    obtain ⟨w1, w2, w3, w4, w5⟩ := hw
    rw [List.length_cons] at hl w1
    refine pre (rk := 0) h.1 rfl h.c0 w1 (by omega) w3 hq.2 (fun _ => kk m h) (fun z => ?_)
    have e : q ≤ rkW k := Classical.not_not.mp (fun y => z ((rk_lt w4 hq.2).mpr y))
    have hb := rk_bin (k := k) (by omega)
    rw [dpW_bin hb] at w2
    exact L_prE hq w _ (h.wf (Or.inl rfl) _) ⟨fi_eq, (fi_ne (by decide)).trans w2, WtA_eq (f := ai m (gB G + 307)) (fun j hj => rfl) w5⟩ (by omega) kk
theorem M_prE {q : Nat} (hq : 1 ≤ q ∧ q < 10) (h : RE G C m c p) (hw : WtM G m w) (hl : w.length ≤ 500) (kk : ∀ m', RE G C m' c p → Q none m') : WPM G (d + 8) (0, 0) μX11_popFromRank [.ref (gB G + 293), .int (nI q)] m Q := by
  refine WPM.of pX11 (Nat.le_of_ble_eq_true rfl) rfl ?_
  exact L_prE hq w m h hw hl kk
/-- binaryOperation -/
theorem M_bin {y : Nat} (hF : Full G m) (hy : fi m 1115 (gB G + 293) = nI (syK y)) (k1 : binK y → Q (some (.int (nI (trM y)))) m) (k0 : ¬ binK y → Q (some (.int (-1))) m) : WPM G (d + 8) (0, 0) μX11_binaryOperation [.ref (gB G + 293)] m Q := by
  by_cases h43 : y = 43
  · subst h43; exact boa hF hy (k1 (Or.inl rfl))
  by_cases h45 : y = 45
  · subst h45; exact bos hF hy (k1 (Or.inr (Or.inl rfl)))
  by_cases h42 : y = 42
  · subst h42; exact bom hF hy (k1 (Or.inr (Or.inr (Or.inl rfl))))
  by_cases h47 : y = 47
  · subst h47; exact bod hF hy (k1 (Or.inr (Or.inr (Or.inr rfl))))
  · have e : ∀ z, 2 ≤ z ∧ z < 100 → ¬ y = z → ¬ syK y = z := fun z hz h q => h ((syK_eq hz).mp q)
    exact box hF hy (syK_lt _) (e 43 (by omega) h43) (e 45 (by omega) h45) (e 42 (by omega) h42) (e 47 (by omega) h47) (fun _ _ _ _ => k0 (fun z => by unfold binK at z; omega))
end MCON
