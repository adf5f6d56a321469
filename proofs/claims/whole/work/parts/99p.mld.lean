/-! THE REFERENCE'S loadRules -/
def O4 (G : Cx) (a : Nat) : Prop := a = gB G + 294
def MR4 (G : Cx) (a : Nat) : Prop := a = gB G + 293 ∨ a = gB G + 294 ∨ a = gB G + 305 ∨ a = gB G + 306 ∨ a = gB G + 307
section MLD
variable {G : Cx} {t : List Nat} {nn nl nh c s d : Nat} {m m0 m1 : Mm} {Q : Option Value → Mm → Prop} {out : List Cd}
theorem L_ld1 (hc : c ≤ 12) (h23 : fi m1 1123 (gB G + 293) = nI c) (k : ∀ m', Full G m' → Out (O4 G) m' m1 → (∀ x, ai m' (gB G + 294) x = if 414 ≤ x ∧ x < 414 + 6 * c then ai m1 (gB G + 305) (x - 414) else ai m1 (gB G + 294) x) → WP G (d + 24) (0, 0) μX11_loadRules 103 [.ref (gB G + 293), .int (0 : Int32)] [] m' Q) :
    ∀ f i m2, 6 * c - i ≤ f → i ≤ 6 * c → Full G m2 → Out (O4 G) m2 m1 → (∀ x, ai m2 (gB G + 294) x = if 414 ≤ x ∧ x < 414 + i then ai m1 (gB G + 305) (x - 414) else ai m1 (gB G + 294) x) → WP G (d + 24) (0, 0) μX11_loadRules 68 [.ref (gB G + 293), .int (nI i)] [] m2 Q := by
  intro f
  induction f with
  | zero =>
    intro i m2 h1 h2 hF hO hx
    have e : i = 6 * c := by omega
    subst e
    exact ldD (c := c) hF ((hO.fi (by unfold O4; omega) _).trans h23) hc (by omega) rfl (fun _ => k m2 hF hO hx) (fun h => by omega)
  | succ f ih =>
    intro i m2 h1 h2 hF hO hx
    refine ldD (c := c) hF ((hO.fi (by unfold O4; omega) _).trans h23) hc (by omega) rfl (fun h => ?_) (fun h => ?_)
    · have e : i = 6 * c := by omega
      subst e
      exact k m2 hF hO hx
    · refine ih (i + 1) _ (by omega) (by omega) (Full_wai _ _ _ hF) (hO.wai rfl) (fun x => ?_)
      by_cases e : x = i + 414
      · subst e
        rw [ai_eq, if_pos ⟨by omega, by omega⟩, hO.ai (by unfold O4; omega)]
        rw [Nat.add_sub_cancel]
      · rw [ai_nk (by omega), hx x]
        by_cases z : 414 ≤ x ∧ x < 414 + i
        · rw [if_pos z, if_pos ⟨z.1, by omega⟩]
        · rw [if_neg z, if_neg (by omega)]
theorem L_ld2 (hs : s ≤ 500) (h24 : fi m1 1124 (gB G + 293) = nI s) (h23 : fi m1 1123 (gB G + 293) = nI c) (k : ∀ m', Full G m' → Out (O4 G) m' m1 → (∀ x, ai m' (gB G + 294) x = if 486 ≤ x ∧ x < 486 + 2 * s then ai m1 (gB G + 306) (x - 486) else ai m1 (gB G + 294) x) → Q (some (.int (nI c))) (wai m' (gB G + 294) 15 (nI c))) :
    ∀ f i m2, 2 * s - i ≤ f → i ≤ 2 * s → Full G m2 → Out (O4 G) m2 m1 → (∀ x, ai m2 (gB G + 294) x = if 486 ≤ x ∧ x < 486 + i then ai m1 (gB G + 306) (x - 486) else ai m1 (gB G + 294) x) → WP G (d + 24) (0, 0) μX11_loadRules 103 [.ref (gB G + 293), .int (nI i)] [] m2 Q := by
  intro f
  induction f with
  | zero =>
    intro i m2 h1 h2 hF hO hx
    have e : i = 2 * s := by omega
    subst e
    exact ldE (c := c) (s := s) hF ((hO.fi (by unfold O4; omega) _).trans h24) ((hO.fi (by unfold O4; omega) _).trans h23) hs (by omega) rfl (fun _ => k m2 hF hO hx) (fun h => by omega)
  | succ f ih =>
    intro i m2 h1 h2 hF hO hx
    refine ldE (c := c) (s := s) hF ((hO.fi (by unfold O4; omega) _).trans h24) ((hO.fi (by unfold O4; omega) _).trans h23) hs (by omega) rfl (fun h => ?_) (fun h => ?_)
    · have e : i = 2 * s := by omega
      subst e
      exact k m2 hF hO hx
    · refine ih (i + 1) _ (by omega) (by omega) (Full_wai _ _ _ hF) (hO.wai rfl) (fun x => ?_)
      by_cases e : x = i + 486
      · subst e
        rw [ai_eq, if_pos ⟨by omega, by omega⟩, hO.ai (by unfold O4; omega)]
        rw [Nat.add_sub_cancel]
      · rw [ai_nk (by omega), hx x]
        by_cases z : 486 ≤ x ∧ x < 486 + i
        · rw [if_pos z, if_pos ⟨z.1, by omega⟩]
        · rw [if_neg z, if_neg (by omega)]
theorem CodP_app : ∀ {a b : List Cd} {i : Nat}, CodP G m i (a ++ b) → CodP G m i a ∧ CodP G m (i + a.length) b
  | [], _, _, h => ⟨trivial, h⟩
  | c :: a, b, i, ⟨h1, h2, h3⟩ => by
    obtain ⟨q1, q2⟩ := CodP_app h3
    refine ⟨⟨h1, h2, q1⟩, ?_⟩
    rw [List.length_cons, show i + (a.length + 1) = i + 1 + a.length by omega]
    exact q2
theorem CodP_M {st : Nat → Int32} {n : Nat} (he : ∀ x, x < 2 * n → st (x + 486) = ai m (gB G + 306) x) : ∀ {cs : List Cd} {i : Nat}, i + cs.length ≤ n → CodP G m i cs → CodM st i cs
  | [], _, _, _ => trivial
  | c :: cs, i, hl, ⟨h1, h2, h3⟩ => by
    rw [List.length_cons] at hl
    exact ⟨(he (2 * i) (by omega)).trans h1, (he (2 * i + 1) (by omega)).trans h2, CodP_M he (by omega) h3⟩
theorem Seg.codM {st : Nat → Int32} {cs : List Cd} {i : Nat} (h : Seg out i cs) (hc : CodP G m 0 out) (he : ∀ x, x < 2 * out.length → st (x + 486) = ai m (gB G + 306) x) : CodM st i cs := by
  have hl := h.le
  obtain ⟨a, b, rfl, e⟩ := h
  have h1 := (CodP_app hc).2
  rw [Nat.zero_add, e] at h1
  exact CodP_M he hl (CodP_app h1).1
/-- rules as they lie in the state -/
def RulMs (st : Nat → Int32) (L : List Ru) : Prop := st 15 = nI L.length ∧ L.length ≤ 12 ∧ ∀ r R, L[r]? = some R → RulM st r R
theorem M_load (hF : Full G m) (hT : TxM G m t) (h5 : t.length ≤ 500) (hb : ∀ b ∈ t, b < 256) (hc : ai m (gB G + 294) 12 = nI nn ∧ ai m (gB G + 294) 13 = nI nl ∧ ai m (gB G + 294) 14 = nI nh) (hn : nn ≤ 12 ∧ nl ≤ 12 ∧ nh ≤ 12)
    (kE : ∀ m' e p, pRls nn nl nh 502 (toks t 501 0) [] = .error (e, p) → Full G m' → Out (MR G) m' m → fi m' 1111 (gB G + 293) = 0 → fi m' 1118 (gB G + 293) = nI e → fi m' 1119 (gB G + 293) = nI p → Q (some (.int (-1000000004 : Int32))) m')
    (kO : ∀ m' L, pRls nn nl nh 502 (toks t 501 0) [] = .ok L → Full G m' → Out (MR4 G) m' m → fi m' 1111 (gB G + 293) = 0 → fi m' 1118 (gB G + 293) = 0 → fi m' 1119 (gB G + 293) = -1 → RulMs (ai m' (gB G + 294)) L → (∀ x, x ≠ 15 → x < 414 → ai m' (gB G + 294) x = ai m (gB G + 294) x) → Q (some (.int (nI L.length))) m') :
    WPM G (d + 24) (0, 0) μX11_loadRules [.ref (gB G + 293)] m Q := by
  refine ldA hF ?_
  obtain ⟨m1, hm1⟩ : ∃ m1, m1 = wfi (wfi (wfi (wfi (wfi m 1118 (gB G + 293) (0 : Int32)) 1119 (gB G + 293) (-1 : Int32)) 1123 (gB G + 293) (0 : Int32)) 1124 (gB G + 293) (0 : Int32)) 1112 (gB G + 293) (0 : Int32) := ⟨_, rfl⟩
  rw [← hm1]
  have hF1 : Full G m1 := by rw [hm1]; exact Full_wfi _ _ _ (Full_wfi _ _ _ (Full_wfi _ _ _ (Full_wfi _ _ _ (Full_wfi _ _ _ hF))))
  have hO1 : Out (MR G) m1 m := by rw [hm1]; exact ((((Out.rf.wfi (Or.inl rfl)).wfi (Or.inl rfl)).wfi (Or.inl rfl)).wfi (Or.inl rfl)).wfi (Or.inl rfl)
  have e11 : fi m1 1111 (gB G + 293) = nI t.length := by
    rw [hm1]
    exact (fi_ne (by decide)).trans ((fi_ne (by decide)).trans ((fi_ne (by decide)).trans ((fi_ne (by decide)).trans ((fi_ne (by decide)).trans hT.1))))
  have e18 : fi m1 1118 (gB G + 293) = 0 := by
    rw [hm1]
    exact (fi_ne (by decide)).trans ((fi_ne (by decide)).trans ((fi_ne (by decide)).trans ((fi_ne (by decide)).trans fi_eq)))
  have e19 : fi m1 1119 (gB G + 293) = -1 := by
    rw [hm1]
    exact (fi_ne (by decide)).trans ((fi_ne (by decide)).trans ((fi_ne (by decide)).trans fi_eq))
  have e23 : fi m1 1123 (gB G + 293) = nI 0 := by
    rw [hm1]
    exact (fi_ne (by decide)).trans ((fi_ne (by decide)).trans fi_eq)
  have e24 : fi m1 1124 (gB G + 293) = nI 0 := by
    rw [hm1]
    exact (fi_ne (by decide)).trans fi_eq
  have e12 : fi m1 1112 (gB G + 293) = nI 0 := by
    rw [hm1]
    exact fi_eq
  have hT1 : TxM G m1 t := ⟨e11, fun k b hk => (hO1.ai (by unfold MR; omega) k).trans (hT.2 k b hk)⟩
  refine M_nt (f := 501) (p := 0) (d := d + 17) hF1 hT1 h5 hb (Nat.zero_le _) (by omega) e12 (fun m2 hF2 hO2 hf2 hS2 => ?_)
  have hO2' : Out (MR G) m2 m := (hO2.mono (fun a ha => Or.inl ha)).tr hO1
  have g2 : ∀ g, ¬ (1112 ≤ g ∧ g ≤ 1117) → fi m2 g (gB G + 293) = fi m1 g (gB G + 293) := hf2
  have hRP : RP G (t, nn, nl, nh, 0) m2 (toks t 501 0) [] :=
    ⟨⟨hF2, Out.rf, (g2 1111 (by omega)).trans e11, (g2 1118 (by omega)).trans e18, (g2 1119 (by omega)).trans e19, (g2 1123 (by omega)).trans e23, (g2 1124 (by omega)).trans e24, trivial, hS2⟩,
     ⟨fun k b hk => (hO2'.ai (by unfold MR; omega) k).trans (hT.2 k b hk), h5, hb, (hO2'.ai (by unfold MR; omega) 12).trans hc.1, (hO2'.ai (by unfold MR; omega) 13).trans hc.2.1, (hO2'.ai (by unfold MR; omega) 14).trans hc.2.2, hn.1, hn.2.1, hn.2.2, Nat.zero_le _⟩⟩
  have hTk := toks_len t 501 0
  have hwf : Wf (toks t 501 0) := toks_wf t 501 0 (Nat.zero_le _) (by omega)
  refine mrl_loop (m0 := m) (P := pRls nn nl nh 502 (toks t 501 0) []) (fun m3 e p he hR => ?_) (fun m3 ts3 out L he hP hl hL12 hO hR => ?_) 502 (toks t 501 0) [] [] m2 (by omega) hwf (by simp only [List.length_nil]; omega) (by decide) rfl hRP hO2' (fun q R h => by cases h)
  · obtain ⟨a1, a2, a3, a4, a5, a6⟩ := hR
    have hc0 : ¬ fi m3 1118 (gB G + 293) = 0 := fun z => nI_ne0 a5.1 (by omega) (a4.symm.trans z)
    exact ldCx a1 rfl hc0 (kE _ e p he (Full_wfi _ _ _ a1) (a2.wfi (Or.inl rfl)) fi_eq ((fi_ne (by decide)).trans a4) ((fi_ne (by decide)).trans a6))
  · obtain ⟨⟨b1, b2, b3, b4, b5, b6, b7, b8, b9⟩, hG⟩ := hP
    have hF4 := Full_wfi 1111 (gB G + 293) (0 : Int32) b1
    have f4 : ∀ g, g ≠ 1111 → fi (wfi m3 1111 (gB G + 293) (0 : Int32)) g (gB G + 293) = fi m3 g (gB G + 293) := fun g hg => fi_ne hg
    refine ldC b1 b4 ?_
    refine L_ld1 (c := L.length) (m1 := wfi m3 1111 (gB G + 293) (0 : Int32)) hL12 ((f4 1123 (by decide)).trans b6) (fun m5 hF5 hO5 hx5 => ?_) (6 * L.length) 0 _ (by omega) (by omega) hF4 Out.rf (fun x => (if_neg (by omega)).symm)
    refine L_ld2 (c := L.length) (s := out.length) (m1 := m5) hl ((hO5.fi (by unfold O4; omega) _).trans ((f4 1124 (by decide)).trans b7)) ((hO5.fi (by unfold O4; omega) _).trans ((f4 1123 (by decide)).trans b6)) (fun m6 hF6 hO6 hx6 => ?_) (2 * out.length) 0 m5 (by omega) (by omega) hF5 Out.rf (fun x => (if_neg (by omega)).symm)
    have fin : ∀ g, fi (wai m6 (gB G + 294) 15 (nI L.length)) g (gB G + 293) = fi (wfi m3 1111 (gB G + 293) (0 : Int32)) g (gB G + 293) := fun g => (hO6.fi (by unfold O4; omega) g).trans (hO5.fi (by unfold O4; omega) g)
    have h306 : ∀ x, ai m5 (gB G + 306) x = ai m3 (gB G + 306) x := fun x => hO5.ai (by unfold O4; omega) x
    have hs : ∀ x, x ≠ 15 → ai (wai m6 (gB G + 294) 15 (nI L.length)) (gB G + 294) x = if 486 ≤ x ∧ x < 486 + 2 * out.length then ai m3 (gB G + 306) (x - 486) else if 414 ≤ x ∧ x < 414 + 6 * L.length then ai m3 (gB G + 305) (x - 414) else ai m3 (gB G + 294) x := fun x hx => by
      rw [ai_nk hx, hx6 x, h306, hx5 x]
      rfl
    have h304 : ∀ x, ai m3 (gB G + 294) x = ai m (gB G + 294) x := fun x => hO.ai (by unfold MR; omega) x
    refine kO _ L he (Full_wai _ _ _ hF6) ?_ ((fin 1111).trans fi_eq) ((fin 1118).trans ((f4 1118 (by decide)).trans b4)) ((fin 1119).trans ((f4 1119 (by decide)).trans b5)) ⟨ai_eq, hL12, fun r R hr => ?_⟩ (fun x h15 h414 => ?_)
    · have o3 : Out (MR4 G) m3 m := hO.mono (fun a ha => by unfold MR at ha; unfold MR4; omega)
      have o4 : Out (MR4 G) (wfi m3 1111 (gB G + 293) (0 : Int32)) m := o3.wfi (Or.inl rfl)
      have o5 : Out (MR4 G) m5 m := (hO5.mono (fun a ha => Or.inr (Or.inl ha))).tr o4
      exact ((hO6.mono (fun a ha => Or.inr (Or.inl ha))).tr o5).wai (Or.inr (Or.inl rfl))
    · obtain ⟨i, j, ⟨t0, t1, t2, t3, t45⟩, s1, s2⟩ := hR r R hr
      have hrl := (List.getElem?_eq_some_iff.mp hr).1
      have hcd : ∀ x, x < 2 * out.length → ai (wai m6 (gB G + 294) 15 (nI L.length)) (gB G + 294) (x + 486) = ai m3 (gB G + 306) x := fun x hx => by
        rw [hs _ (by omega), if_pos ⟨by omega, by omega⟩]
        rw [Nat.add_sub_cancel]
      have htb : ∀ x, x < 6 * L.length → ai (wai m6 (gB G + 294) 15 (nI L.length)) (gB G + 294) (x + 414) = ai m3 (gB G + 305) x := fun x hx => by
        rw [hs _ (by omega), if_neg (by omega), if_pos ⟨by omega, by omega⟩]
        rw [Nat.add_sub_cancel]
      have l1 := s1.le
      have l2 := s2.le
      exact ⟨i, j, (htb _ (by omega)).trans t0, (htb (6 * r + 1) (by omega)).trans t1, by omega, s1.codM b8 hcd, (htb (6 * r + 2) (by omega)).trans t2, (htb (6 * r + 3) (by omega)).trans t3, fun e => ⟨(htb (6 * r + 4) (by omega)).trans (t45 e).1, (htb (6 * r + 5) (by omega)).trans (t45 e).2, by omega, s2.codM b8 hcd⟩⟩
    · rw [hs x h15, if_neg (by omega), if_neg (by omega), h304]
end MLD
