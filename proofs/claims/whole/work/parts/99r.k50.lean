/-! CASE 50: loadRules on both sides -/
def PQ2 (G : Cx) (a : Nat) : Prop := PQ G a ∨ (gB G + 11 ≤ a ∧ a < gB G + 19)
theorem toks_num (t : List Nat) : ∀ f p, ∀ k ∈ toks t f p, k.1 < 1000 ∧ k.2.2 ≤ 1000000 := by
  intro f
  induction f with
  | zero => intro p k hk; exact absurd hk List.not_mem_nil
  | succ f ih =>
    intro p k hk
    unfold toks at hk
    rcases List.mem_cons.mp hk with rfl | hk
    · exact ⟨tkK_lt, nuA_le _ _ (by omega)⟩
    · split at hk
      · exact absurd hk List.not_mem_nil
      · exact ih _ k hk
theorem toks_Tks (t : List Nat) (h5 : t.length ≤ 500) : Tks 501 (toks t 501 0) :=
  ⟨toks_wf t 501 0 (Nat.zero_le _) (by omega), fun k hk => by have := (toks_num t 501 0 k hk).2; omega, toks_len t 501 0⟩
section LOADB
variable {G : Cx} {m m' : Mm} {A : Ab} {n nl nh : Nat} {st st' : Nat → Int32} {en : Nat → Int64}
theorem Iv.ldr {T : Int} (h : Iv T st n nl nh) (e : ∀ k, k ≠ 15 → k < 414 → st' k = st k) : Iv T st' n nl nh := by
  obtain ⟨⟨i1, i2, i3, i4, i5, i6, ⟨j1, j2, j3, j4, j5, j6, j7⟩, i8, i9, i10, i11⟩, i12⟩ := h
  refine ⟨⟨(e 12 (by omega) (by omega)).trans i1, i2, (e 13 (by omega) (by omega)).trans i3, i4, (e 14 (by omega) (by omega)).trans i5, i6, ⟨?_, ?_, ?_, ?_, ?_, ?_, ?_⟩, fun i hi => ?_, fun i hi => ?_, fun i hi => ?_, ?_⟩, fun i hi => ?_⟩
  · rw [e 0 (by omega) (by omega)]; exact j1
  · rw [e 1 (by omega) (by omega)]; exact j2
  · rw [e 2 (by omega) (by omega)]; exact j3
  · rw [e 8 (by omega) (by omega)]; exact j4
  · rw [e 9 (by omega) (by omega)]; exact j5
  · rw [e 10 (by omega) (by omega)]; exact j6
  · rw [e 11 (by omega) (by omega), e 10 (by omega) (by omega)]; exact j7
  · have := i8 i hi
    unfold InvN at this ⊢
    rw [e (11 * i + 20) (by omega) (by omega), e (11 * i + 21) (by omega) (by omega), e (11 * i + 29) (by omega) (by omega), e (11 * i + 30) (by omega) (by omega), e 0 (by omega) (by omega)]
    exact this
  · have := i9 i hi
    unfold InvL at this ⊢
    rw [e (7 * i + 296) (by omega) (by omega), e (7 * i + 298) (by omega) (by omega), e (7 * i + 299) (by omega) (by omega), e (7 * i + 300) (by omega) (by omega), e (7 * i + 302) (by omega) (by omega)]
    exact this
  · have := i10 i hi
    unfold InvH at this ⊢
    rw [e (8 * i + 338) (by omega) (by omega), e (8 * i + 339) (by omega) (by omega), e (8 * i + 342) (by omega) (by omega), e (8 * i + 344) (by omega) (by omega)]
    exact this
  · rw [e 16 (by omega) (by omega), i11]
    exact congrArg nI (vcnt_eq n (fun j hj => e _ (by omega) (by omega))).symm
  · rw [e _ (by omega) (by omega)]
    exact i12 i hi
theorem CR.ldr {T : Int} {c : Nat} {L0 L : List Ru} {l : List Lk} (h : CR m c st en n nl nh L0 l) (hI : Iv T st n nl nh) (hf : ∀ f j, j < 69 → ¬ (10 ≤ j ∧ j < 18) → fi m' f (c + j) = fi m f (c + j)) (hl : ∀ f, fl m' f (c + 8) = fl m f (c + 8)) (ha : ∀ j k, j < 10 → ai m' (c + j) k = ai m (c + j) k) (hR : RulsC m' (c + 10) L) (e : ∀ x, x ≠ 15 → x < 414 → st' x = st x) (e15 : st' 15 = nI L.length) (hL : ∀ R ∈ L, RuC n nl nh R) : CR m' c st' en n nl nh L l := by
  obtain ⟨⟨s1, s2, s3, ⟨e1, e2, e3⟩, s5⟩, ⟨b1, b2, b3⟩, a3, a4, a5, a6, a7, a8⟩ := h
  obtain ⟨⟨i1, i2, i3, i4, i5, i6, -, i8, i9, i10, i11⟩, i12⟩ := hI
  refine ⟨⟨Out.rf, K6.rf, fun k hk hd => ?_, ⟨(hl _).trans e1, (hl _).trans e2, (hl _).trans e3⟩, fun k hk => ?_⟩, ⟨(hf 6 0 (by omega) (by omega)).trans b1, b2, fun i x hx => ?_⟩, a3, fun i j hi hj => (e _ (by omega) (by omega)).trans (a4 i j hi hj), a5.of (fun k => ha 5 k (by omega)) (fun j hj => e _ (by omega) (by omega)), hR, hL, e15⟩
  · by_cases z : k = 15
    · subst z
      obtain ⟨sz, w1, w2, w3, -⟩ := hR
      exact w3.trans e15.symm
    · obtain ⟨-, -, v3, v4⟩ := vk_ok k hk.lt (by unfold VK at hk; exact hk)
      have := v4 z
      rw [hf _ _ v3 (by omega), e k z (by have := hk.lt; omega)]
      exact s3 k hk hd
  · have eo : own st' 16 = own st 16 := by unfold own; rw [e 16 (by omega) (by omega)]
    have hv := own_of i11 (by have := vcnt_le st n; omega)
    have := vcnt_le st n
    rw [eo] at hk
    exact (ha 9 k (by omega)).trans ((s5 k hk).trans (e _ (by omega) (by omega)).symm)
  · obtain ⟨c1, c2, c3⟩ := b3 i x hx
    have hi : i < l.length := (List.getElem?_eq_some_iff.mp hx).1
    have q : ∀ f, fi m' f (lk c i) = fi m f (lk c i) := fun f => by
      have := hf f (31 + i) (by omega) (by omega)
      unfold lk
      rwa [← Nat.add_assoc] at this
    exact ⟨(q _).trans c1, (q _).trans c2, (q _).trans c3⟩
theorem TxC_0 (h : fi m 701 (gB G + 279) = 0) : TxC G m [] := ⟨h, fun k b hk => by simp at hk⟩
theorem TxM_0 (h : fi m 1111 (gB G + 293) = 0) : TxM G m [] := ⟨h, fun k b hk => by simp at hk⟩
theorem Cls.ldr {s' : Sc} {e p : Int32} (h : Cls G m A) (hO : Out (PQ2 G) m' m) (h0 : fi m' 701 (gB G + 279) = 0) (he : fi m' 702 (gB G + 279) = e) (hp : fi m' 703 (gB G + 279) = p) (hC : CRx m' (gB G + 1) s') : Cls G m' (s', A.2.1, [], e, p) := by
  obtain ⟨h1, h2, -, -, -⟩ := h
  refine ⟨hC, fun i hi => ⟨?_, fun s hs => ?_⟩, TxC_0 h0, he, hp⟩
  · rw [hO.ai (by unfold PQ2 PQ; omega)]; exact (h2 i hi).1
  · refine ((h2 i hi).2 s hs).ag (fun f j hj => hO.fi (by unfold PQ2 PQ; omega) f) (fun f => hO.fl (by unfold PQ2 PQ; omega) f) (fun j k hj => hO.ai (by unfold PQ2 PQ; omega) k)
theorem Cls.ldE {e p : Int32} (h : Cls G m A) (hO : Out (PQ G) m' m) (h0 : fi m' 701 (gB G + 279) = 0) (he : fi m' 702 (gB G + 279) = e) (hp : fi m' 703 (gB G + 279) = p) : Cls G m' (A.1, A.2.1, [], e, p) :=
  h.ldr (hO.mono (fun a ha => Or.inl ha)) h0 he hp (h.1.ag (fun f j hj => hO.fi (by unfold PQ; omega) f) (fun f => hO.fl (by unfold PQ; omega) f) (fun j k hj => hO.ai (by unfold PQ; omega) k))
theorem Ref.ldr {e p : Int32} {L : List Ru} (h : Ref G m A) (hO : Out (MR4 G) m' m) (h0 : fi m' 1111 (gB G + 293) = 0) (he : fi m' 1118 (gB G + 293) = e) (hp : fi m' 1119 (gB G + 293) = p) : Ref G m' ((ai m' (gB G + 294), sE (aS A), sN (aS A), sL (aS A), sH (aS A), L, sK (aS A)), A.2.1, [], e, p) := by
  obtain ⟨h1, h2, h3, -, -, -⟩ := h
  refine ⟨rfl, ?_, fun i hi => ⟨?_, fun s hs => ⟨fun k hk => ?_, fun w hw => ?_⟩⟩, TxM_0 h0, he, hp⟩
  · refine Eq.trans ?_ h2; funext k; exact hO.al (by unfold MR4; omega) k
  · rw [hO.ai (by unfold MR4; omega)]; exact (h3 i hi).1
  · rw [hO.ai (by unfold MR4; omega)]; exact ((h3 i hi).2 s hs).1 k hk
  · rw [hO.al (by unfold MR4; omega)]; exact ((h3 i hi).2 s hs).2 w hw
theorem Ref.ldE {e p : Int32} (h : Ref G m A) (hO : Out (MR G) m' m) (h0 : fi m' 1111 (gB G + 293) = 0) (he : fi m' 1118 (gB G + 293) = e) (hp : fi m' 1119 (gB G + 293) = p) : Ref G m' (A.1, A.2.1, [], e, p) := by
  obtain ⟨h1, h2, h3, -, -, -⟩ := h
  refine ⟨?_, ?_, fun i hi => ⟨?_, fun s hs => ⟨fun k hk => ?_, fun w hw => ?_⟩⟩, TxM_0 h0, he, hp⟩
  · refine Eq.trans ?_ h1; funext k; exact hO.ai (by unfold MR; omega) k
  · refine Eq.trans ?_ h2; funext k; exact hO.al (by unfold MR; omega) k
  · rw [hO.ai (by unfold MR; omega)]; exact (h3 i hi).1
  · rw [hO.ai (by unfold MR; omega)]; exact ((h3 i hi).2 s hs).1 k hk
  · rw [hO.al (by unfold MR; omega)]; exact ((h3 i hi).2 s hs).2 w hw
theorem C_load {d nn : Nat} {t : List Nat} {Q : Option Value → Mm → Prop} (hF : Full G m) (hT : TxC G m t) (h5 : t.length ≤ 500) (hb : ∀ b ∈ t, b < 256) (c5 : fi m 5 (gB G + 1) = nI nn) (c7 : fi m 7 (gB G + 1) = nI nl) (c8 : fi m 8 (gB G + 1) = nI nh) (hn : nn ≤ 12 ∧ nl ≤ 12 ∧ nh ≤ 12)
    (kE : ∀ m' c p, pRls nn nl nh 502 (toks t 501 0) [] = .error (c, p) → Full G m' → Out (PQ G) m' m → fi m' 701 (gB G + 279) = 0 → fi m' 702 (gB G + 279) = nI c → fi m' 703 (gB G + 279) = nI p → Q (some (.int (-1000000004 : Int32))) m')
    (kO : ∀ m' L, pRls nn nl nh 502 (toks t 501 0) [] = .ok L → Full G m' → Out (PQ2 G) m' m → fi m' 701 (gB G + 279) = 0 → fi m' 702 (gB G + 279) = 0 → fi m' 703 (gB G + 279) = -1 → RulsC m' (gB G + 1 + 10) L → Q (some (.int (nI L.length))) m') :
    WPM G (d + 99) (0, 0) μX10_loadRules [.ref (gB G)] m Q := by
  refine lcA hF c5 c7 c8 ?_
  refine C_rules (d := d + 8) hF hT h5 hb hn (fun m1 c p he hP => ?_) (fun m1 L he hP hR => ?_)
  · obtain ⟨p1, p2, p3, p4, p5⟩ := hP
    exact lcB0 p1 (kE _ c p he (Full_wfi _ _ _ p1) (p2.wfi (Or.inl rfl)) fi_eq ((fi_ne (by decide)).trans p4) ((fi_ne (by decide)).trans p5))
  · obtain ⟨p1, p2, p3, p4, p5⟩ := hP
    refine lcB1 p1 ?_
    have hF2 : Full G (wfi m1 701 (gB G + 279) (0 : Int32)) := Full_wfi _ _ _ p1
    refine C_cpr (d := d + 97) hF2 (isRc (isC1 G)) (isRr G) (by omega) (hR.of (fun _ _ _ => rfl) (fun f => fi_na (by omega))) (fun m3 hO3 hR3 => ?_)
    have hF3 := hO3.full hF2
    have g : ∀ f, fi m3 f (gB G + 279) = fi (wfi m1 701 (gB G + 279) (0 : Int32)) f (gB G + 279) := fun f => hO3.fi (by omega) f
    have hO : Out (PQ2 G) m3 m := (hO3.mono (fun a ha => Or.inr (by omega))).tr ((p2.wfi (Or.inl rfl)).mono (fun a ha => Or.inl ha))
    obtain ⟨sz, w1, w2, w3, w4⟩ := hR3
    exact lcC hF3 w3 (kO m3 L he hF3 hO ((g _).trans fi_eq) ((g _).trans ((fi_ne (by decide)).trans p4)) ((g _).trans ((fi_ne (by decide)).trans p5)) ⟨sz, w1, w2, w3, w4⟩)
end LOADB
theorem PQ2_CC {G : Cx} {a : Nat} (h : PQ2 G a) : CC G a := by unfold PQ2 PQ at h; unfold CC; omega
theorem MR4_RC {G : Cx} {a : Nat} (h : MR4 G a) : RC G a := by unfold MR4 at h; unfold RC; omega
theorem MR_MR4 {G : Cx} {a : Nat} (h : MR G a) : MR4 G a := by unfold MR at h; unfold MR4; omega
theorem K_50 (G : Cx) : Case50 G := by
  intro d i m A Q hL hi hl next
  obtain ⟨c5, c12, hn⟩ := hL.nn
  obtain ⟨c7, c13, hnl⟩ := hL.nl
  obtain ⟨c8, c14, hnh⟩ := hL.nh
  have hTC := hL.2.1.2.2.1
  have hTM := hL.2.2.1.2.2.2.1
  obtain ⟨⟨hI, hRM⟩, hGv, h5, hb⟩ := hL.2.2.2
  have tr : ∀ {m1 : Mm}, Out (PQ2 G) m1 m → TxM G m1 (aT A) ∧ (ai m1 (gB G + 294) 12 = nI (sN (aS A)) ∧ ai m1 (gB G + 294) 13 = nI (sL (aS A)) ∧ ai m1 (gB G + 294) 14 = nI (sH (aS A))) ∧ Ref G m1 A := fun hO =>
    ⟨⟨(hO.fi (by unfold PQ2 PQ; omega) _).trans hTM.1, fun k b hk => (hO.ai (by unfold PQ2 PQ; omega) k).trans (hTM.2 k b hk)⟩, ⟨(hO.ai (by unfold PQ2 PQ; omega) _).trans c12, (hO.ai (by unfold PQ2 PQ; omega) _).trans c13, (hO.ai (by unfold PQ2 PQ; omega) _).trans c14⟩, hL.2.2.1.cls (hO.mono (fun a ha => PQ2_CC ha))⟩
  refine bL_50a hL.1 hi hl ?_
  refine C_load hL.1 hTC h5 hb c5 c7 c8 ⟨hn, by omega, by omega⟩ (fun m1 c p he hF1 hO1 a1 a2 a3 => ?_) (fun m1 L he hF1 hO1 a1 a2 a3 hR1 => ?_)
  · obtain ⟨t1, t2, t3⟩ := tr (hO1.mono (fun a ha => Or.inl ha))
    refine bL_50b hF1 hi hl ?_
    refine M_load (d := d + 75) hF1 t1 h5 hb t2 ⟨hn, by omega, by omega⟩ (fun m2 c' p' he' hF2 hO2 b1 b2 b3 => ?_) (fun m2 L he' hF2 hO2 b1 b2 b3 hM hs => ?_)
    · rw [he] at he'
      cases he'
      refine bL_50c hF2 hi hl (fun _ => next m2 (A.1, A.2.1, [], nI c, nI p) ⟨hF2, (hL.2.1.ldE hO1 a1 a2 a3).ref (hO2.mono (fun a ha => MR4_RC (MR_MR4 ha))), t3.ldE hO2 b1 b2 b3, ⟨hI, hRM⟩, hGv, Nat.zero_le _, fun b hb => absurd hb List.not_mem_nil⟩) (fun z => absurd rfl z)
    · rw [he] at he'
      cases he'
  · obtain ⟨t1, t2, t3⟩ := tr hO1
    refine bL_50b hF1 hi hl ?_
    refine M_load (d := d + 75) hF1 t1 h5 hb t2 ⟨hn, by omega, by omega⟩ (fun m2 c' p' he' hF2 hO2 b1 b2 b3 => ?_) (fun m2 L' he' hF2 hO2 b1 b2 b3 hM hs => ?_)
    · rw [he] at he'
      cases he'
    · rw [he] at he'
      cases he'
      obtain ⟨hRu, hl12⟩ := pRls_ok 502 501 (toks (aT A) 501 0) [] L (toks_Tks _ h5) (fun x hx => absurd hx List.not_mem_nil) (Nat.zero_le _) he
      have hst : ∀ x, x ≠ 15 → x < 414 → ai m2 (gB G + 294) x = sS (aS A) x := fun x h1 h2 => by
        rw [hs x h1 h2, hO1.ai (by unfold PQ2 PQ; omega), hL.st]
      have hC : CRx m1 (gB G + 1) (ai m2 (gB G + 294), sE (aS A), sN (aS A), sL (aS A), sH (aS A), L, sK (aS A)) :=
        CR.ldr hL.2.1.1 hI (fun f j h1 h2 => hO1.fi (by unfold PQ2 PQ; omega) f) (fun f => hO1.fl (by unfold PQ2 PQ; omega) f) (fun j k h => hO1.ai (by unfold PQ2 PQ; omega) k) hR1 hst hM.1 hRu
      refine bL_50c hF2 hi hl (fun _ => next m2 ((ai m2 (gB G + 294), sE (aS A), sN (aS A), sL (aS A), sH (aS A), L, sK (aS A)), A.2.1, [], 0, -1) ⟨hF2, (hL.2.1.ldr hO1 a1 a2 a3 hC).ref (hO2.mono (fun a ha => MR4_RC ha)), t3.ldr hO2 b1 b2 b3, ⟨hI.ldr hst, hM.1, hM.2.1, fun r R hr => ⟨hM.2.2 r R hr, (hRu R (List.mem_of_getElem? hr)).ok⟩⟩, hGv, Nat.zero_le _, fun b hb => absurd hb List.not_mem_nil⟩) (fun z => absurd rfl z)
