/-! loadRules over the abstract state -/
def PQ2 (G : Cx) (a : Nat) : Prop := PQ G a ∨ (gB G + 11 ≤ a ∧ a < gB G + 19)
theorem toks_num (t : List Nat) : ∀ f p, ∀ k ∈ toks t f p, k.1 < 1000 ∧ k.2.2 ≤ 1000000 := by
  intro f
  induction f with
  | zero => intro p k hk; exact absurd hk List.not_mem_nil
  | succ f ih =>
    intro p k hk
    unfold toks at hk
    rcases List.mem_cons.mp hk with rfl | hk
    · exact ⟨tkK_lt, nuA_le _ _ (by omega)⟩
    · split at hk
      · exact absurd hk List.not_mem_nil
      · exact ih _ k hk
theorem toks_Tks (t : List Nat) (h5 : t.length ≤ 500) : Tks 501 (toks t 501 0) :=
  ⟨toks_wf t 501 0 (Nat.zero_le _) (by omega), fun k hk => by have := (toks_num t 501 0 k hk).2; omega, toks_len t 501 0⟩
section LOADB
variable {G : Cx} {m m' : Mm} {A : Ab} {n nl nh : Nat} {st st' : Nat → Int32} {en : Nat → Int64}
theorem Iv.ldr {T : Int} (h : Iv T st n nl nh) (e : ∀ k, k ≠ 15 → k < 414 → st' k = st k) : Iv T st' n nl nh := by
  obtain ⟨⟨i1, i2, i3, i4, i5, i6, ⟨j1, j2, j3, j4, j5, j6, j7⟩, i8, i9, i10, i11⟩, i12⟩ := h
  refine ⟨⟨(e 12 (by omega) (by omega)).trans i1, i2, (e 13 (by omega) (by omega)).trans i3, i4, (e 14 (by omega) (by omega)).trans i5, i6, ⟨?_, ?_, ?_, ?_, ?_, ?_, ?_⟩, fun i hi => ?_, fun i hi => ?_, fun i hi => ?_, ?_⟩, fun i hi => ?_⟩
  · rw [e 0 (by omega) (by omega)]; exact j1
  · rw [e 1 (by omega) (by omega)]; exact j2
  · rw [e 2 (by omega) (by omega)]; exact j3
  · rw [e 8 (by omega) (by omega)]; exact j4
  · rw [e 9 (by omega) (by omega)]; exact j5
  · rw [e 10 (by omega) (by omega)]; exact j6
  · rw [e 11 (by omega) (by omega), e 10 (by omega) (by omega)]; exact j7
  · have := i8 i hi
    unfold InvN at this ⊢
    rw [e (11 * i + 20) (by omega) (by omega), e (11 * i + 21) (by omega) (by omega), e (11 * i + 29) (by omega) (by omega), e (11 * i + 30) (by omega) (by omega), e 0 (by omega) (by omega)]
    exact this
  · have := i9 i hi
    unfold InvL at this ⊢
    rw [e (7 * i + 296) (by omega) (by omega), e (7 * i + 298) (by omega) (by omega), e (7 * i + 299) (by omega) (by omega), e (7 * i + 300) (by omega) (by omega), e (7 * i + 302) (by omega) (by omega)]
    exact this
  · have := i10 i hi
    unfold InvH at this ⊢
    rw [e (8 * i + 338) (by omega) (by omega), e (8 * i + 339) (by omega) (by omega), e (8 * i + 342) (by omega) (by omega), e (8 * i + 344) (by omega) (by omega)]
    exact this
  · rw [e 16 (by omega) (by omega), i11]
    exact congrArg nI (vcnt_eq n (fun j hj => e _ (by omega) (by omega))).symm
  · rw [e _ (by omega) (by omega)]
    exact i12 i hi
theorem CR.ldr {T : Int} {c : Nat} {L0 L : List Ru} {l : List Lk} (h : CR m c st en n nl nh L0 l) (hI : Iv T st n nl nh) (hf : ∀ f j, j < 69 → ¬ (10 ≤ j ∧ j < 18) → fi m' f (c + j) = fi m f (c + j)) (hl : ∀ f, fl m' f (c + 8) = fl m f (c + 8)) (ha : ∀ j k, j < 10 → ai m' (c + j) k = ai m (c + j) k) (hR : RulsC m' (c + 10) L) (e : ∀ x, x ≠ 15 → x < 414 → st' x = st x) (e15 : st' 15 = nI L.length) (hL : ∀ R ∈ L, RuC n nl nh R) : CR m' c st' en n nl nh L l := by
  obtain ⟨⟨s1, s2, s3, ⟨e1, e2, e3⟩, s5⟩, ⟨b1, b2, b3⟩, a3, a4, a5, a6, a7, a8⟩ := h
  obtain ⟨⟨i1, i2, i3, i4, i5, i6, -, i8, i9, i10, i11⟩, i12⟩ := hI
  refine ⟨⟨Out.rf, K6.rf, fun k hk hd => ?_, ⟨(hl _).trans e1, (hl _).trans e2, (hl _).trans e3⟩, fun k hk => ?_⟩, ⟨(hf 6 0 (by omega) (by omega)).trans b1, b2, fun i x hx => ?_⟩, a3, fun i j hi hj => (e _ (by omega) (by omega)).trans (a4 i j hi hj), a5.of (fun k => ha 5 k (by omega)) (fun j hj => e _ (by omega) (by omega)), hR, hL, e15⟩
  · by_cases z : k = 15
    · subst z
      obtain ⟨sz, w1, w2, w3, -⟩ := hR
      exact w3.trans e15.symm
    · obtain ⟨-, -, v3, v4⟩ := vk_ok k hk.lt (by unfold VK at hk; exact hk)
      have := v4 z
      rw [hf _ _ v3 (by omega), e k z (by have := hk.lt; omega)]
      exact s3 k hk hd
  · have eo : own st' 16 = own st 16 := by unfold own; rw [e 16 (by omega) (by omega)]
    have hv := own_of i11 (by have := vcnt_le st n; omega)
    have := vcnt_le st n
    rw [eo] at hk
    exact (ha 9 k (by omega)).trans ((s5 k hk).trans (e _ (by omega) (by omega)).symm)
  · obtain ⟨c1, c2, c3⟩ := b3 i x hx
    have hi : i < l.length := (List.getElem?_eq_some_iff.mp hx).1
    have q : ∀ f, fi m' f (lk c i) = fi m f (lk c i) := fun f => by
      have := hf f (31 + i) (by omega) (by omega)
      unfold lk
      rwa [← Nat.add_assoc] at this
    exact ⟨(q _).trans c1, (q _).trans c2, (q _).trans c3⟩
theorem TxC_0 (h : fi m 701 (gB G + 279) = 0) : TxC G m [] := ⟨h, fun k b hk => by simp at hk⟩
theorem Cls.ldr {s' : Sc} {e p : Int32} (h : Cls G m A) (hO : Out (PQ2 G) m' m) (h0 : fi m' 701 (gB G + 279) = 0) (he : fi m' 702 (gB G + 279) = e) (hp : fi m' 703 (gB G + 279) = p) (hC : CRx m' (gB G + 1) s') : Cls G m' (s', A.2.1, [], e, p) := by
  obtain ⟨h1, h2, -, -, -⟩ := h
  refine ⟨hC, fun i hi => ⟨?_, fun s hs => ?_⟩, TxC_0 h0, he, hp⟩
  · rw [hO.ai (by unfold PQ2 PQ; omega)]; exact (h2 i hi).1
  · refine ((h2 i hi).2 s hs).ag (fun f j hj => hO.fi (by unfold PQ2 PQ; omega) f) (fun f => hO.fl (by unfold PQ2 PQ; omega) f) (fun j k hj => hO.ai (by unfold PQ2 PQ; omega) k)
theorem Cls.ldE {e p : Int32} (h : Cls G m A) (hO : Out (PQ G) m' m) (h0 : fi m' 701 (gB G + 279) = 0) (he : fi m' 702 (gB G + 279) = e) (hp : fi m' 703 (gB G + 279) = p) : Cls G m' (A.1, A.2.1, [], e, p) :=
  h.ldr (hO.mono (fun a ha => Or.inl ha)) h0 he hp (h.1.ag (fun f j hj => hO.fi (by unfold PQ; omega) f) (fun f => hO.fl (by unfold PQ; omega) f) (fun j k hj => hO.ai (by unfold PQ; omega) k))
theorem C_load {d nn : Nat} {t : List Nat} {Q : Option Value → Mm → Prop} (hF : Full G m) (hT : TxC G m t) (h5 : t.length ≤ 500) (hb : ∀ b ∈ t, b < 256) (c5 : fi m 5 (gB G + 1) = nI nn) (c7 : fi m 7 (gB G + 1) = nI nl) (c8 : fi m 8 (gB G + 1) = nI nh) (hn : nn ≤ 12 ∧ nl ≤ 12 ∧ nh ≤ 12)
    (kE : ∀ m' c p, pRls nn nl nh 502 (toks t 501 0) [] = .error (c, p) → Full G m' → Out (PQ G) m' m → fi m' 701 (gB G + 279) = 0 → fi m' 702 (gB G + 279) = nI c → fi m' 703 (gB G + 279) = nI p → Q (some (.int (-1000000004 : Int32))) m')
    (kO : ∀ m' L, pRls nn nl nh 502 (toks t 501 0) [] = .ok L → Full G m' → Out (PQ2 G) m' m → fi m' 701 (gB G + 279) = 0 → fi m' 702 (gB G + 279) = 0 → fi m' 703 (gB G + 279) = -1 → RulsC m' (gB G + 1 + 10) L → Q (some (.int (nI L.length))) m') :
    WPM G (d + 99) (0, 0) μX10_loadRules [.ref (gB G)] m Q := by
  refine lcA hF c5 c7 c8 ?_
  refine C_rules (d := d + 8) hF hT h5 hb hn (fun m1 c p he hP => ?_) (fun m1 L he hP hR => ?_)
  · obtain ⟨p1, p2, p3, p4, p5⟩ := hP
    exact lcB0 p1 (kE _ c p he (Full_wfi _ _ _ p1) (p2.wfi (Or.inl rfl)) fi_eq ((fi_ne (by decide)).trans p4) ((fi_ne (by decide)).trans p5))
  · obtain ⟨p1, p2, p3, p4, p5⟩ := hP
    refine lcB1 p1 ?_
    have hF2 : Full G (wfi m1 701 (gB G + 279) (0 : Int32)) := Full_wfi _ _ _ p1
    refine C_cpr (d := d + 97) hF2 (isRc (isC1 G)) (isRr G) (by omega) (hR.of (fun _ _ _ => rfl) (fun f => fi_na (by omega))) (fun m3 hO3 hR3 => ?_)
    have hF3 := hO3.full hF2
    have g : ∀ f, fi m3 f (gB G + 279) = fi (wfi m1 701 (gB G + 279) (0 : Int32)) f (gB G + 279) := fun f => hO3.fi (by omega) f
    have hO : Out (PQ2 G) m3 m := (hO3.mono (fun a ha => Or.inr (by omega))).tr ((p2.wfi (Or.inl rfl)).mono (fun a ha => Or.inl ha))
    obtain ⟨sz, w1, w2, w3, w4⟩ := hR3
    exact lcC hF3 w3 (kO m3 L he hF3 hO ((g _).trans fi_eq) ((g _).trans ((fi_ne (by decide)).trans p4)) ((g _).trans ((fi_ne (by decide)).trans p5)) ⟨sz, w1, w2, w3, w4⟩)
end LOADB
section LDR
variable {G : Cx} {m : Mm} {A : Ab} {d : Nat} {Q : Option Value → Mm → Prop}
abbrev ldA (A : Ab) (L : List Ru) : Ab := ((upd (sS (aS A)) 15 (nI L.length), sE (aS A), sN (aS A), sL (aS A), sH (aS A), L, sK (aS A)), A.2.1, [], 0, -1)
theorem a_loadRules {L : List Ru} (h : CIv G m A) (hp : pRls (sN (aS A)) (sL (aS A)) (sH (aS A)) 502 (toks (aT A) 501 0) [] = .ok L) (k : ∀ m', CIv G m' (ldA A L) → Q (some (.int (nI L.length))) m') : WPM G (d + 99) (0, 0) μX10_loadRules [.ref (gB G)] m Q := by
  obtain ⟨c5, hn⟩ := h.nn
  obtain ⟨c7, hnl⟩ := h.nl
  obtain ⟨c8, hnh⟩ := h.nh
  have h5 := h.2.2.2.2.1
  have hb := h.2.2.2.2.2
  refine C_load h.1 h.2.1.2.2.1 h5 hb c5 c7 c8 ⟨hn, by omega, by omega⟩ (fun m1 c p he hF1 hO1 a1 a2 a3 => ?_) (fun m1 L' he hF1 hO1 a1 a2 a3 hR1 => ?_)
  · rw [hp] at he
    cases he
  · rw [hp] at he
    cases he
    obtain ⟨hRu, hl12⟩ := pRls_ok 502 501 (toks (aT A) 501 0) [] L (toks_Tks _ h5) (fun x hx => absurd hx List.not_mem_nil) (Nat.zero_le _) hp
    have hst : ∀ x, x ≠ 15 → x < 414 → upd (sS (aS A)) 15 (nI L.length) x = sS (aS A) x := fun x h1 _ => upd_ne h1
    have hC : CRx m1 (gB G + 1) (upd (sS (aS A)) 15 (nI L.length), sE (aS A), sN (aS A), sL (aS A), sH (aS A), L, sK (aS A)) :=
      CR.ldr h.cr h.iv (fun f j h1 h2 => hO1.fi (by unfold PQ2 PQ; omega) f) (fun f => hO1.fl (by unfold PQ2 PQ; omega) f) (fun j k h => hO1.ai (by unfold PQ2 PQ; omega) k) hR1 hst (show upd (sS (aS A)) 15 (nI L.length) 15 = nI L.length from upd_eq) hRu
    exact k m1 ⟨hF1, h.2.1.ldr hO1 a1 a2 a3 hC, ⟨⟨h.iv.ldr hst, hRu⟩, h.2.2.2.1, Nat.zero_le _, fun b hb => absurd hb List.not_mem_nil⟩⟩
end LDR
theorem pR_nil (n nl nh : Nat) : pRls n nl nh 502 (toks [] 501 0) [] = .ok [] := rfl
def txH (d : Nat) : List Nat := [108, 111, 117, 118, 114, 101, 32, 48 + d, 32, 104, 111, 108, 100, 59]
def txF (d : Nat) : List Nat := [108, 111, 117, 118, 114, 101, 32, 48 + d, 32, 102, 114, 101, 101, 59]
theorem pR_H (n nl nh d : Nat) (h : d < nl) (h6 : nl ≤ 6) : pRls n nl nh 502 (toks (txH d) 501 0) [] = .ok [([], 3, d, [])] := by
  have hd : d = 0 ∨ d = 1 ∨ d = 2 ∨ d = 3 ∨ d = 4 ∨ d = 5 := by omega
  have hl : nl = 1 ∨ nl = 2 ∨ nl = 3 ∨ nl = 4 ∨ nl = 5 ∨ nl = 6 := by omega
  rcases hd with rfl | rfl | rfl | rfl | rfl | rfl <;> rcases hl with rfl | rfl | rfl | rfl | rfl | rfl <;> first | rfl | omega
theorem pR_F (n nl nh d : Nat) (h : d < nl) (h6 : nl ≤ 6) : pRls n nl nh 502 (toks (txF d) 501 0) [] = .ok [([], 4, d, [])] := by
  have hd : d = 0 ∨ d = 1 ∨ d = 2 ∨ d = 3 ∨ d = 4 ∨ d = 5 := by omega
  have hl : nl = 1 ∨ nl = 2 ∨ nl = 3 ∨ nl = 4 ∨ nl = 5 ∨ nl = 6 := by omega
  rcases hd with rfl | rfl | rfl | rfl | rfl | rfl <;> rcases hl with rfl | rfl | rfl | rfl | rfl | rfl <;> first | rfl | omega
