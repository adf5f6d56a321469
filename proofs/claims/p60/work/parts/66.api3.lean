/-! LINKS, TEXT, SAVED STATES over the abstract state -/
theorem TxC.cut {G : Cx} {m : Mm} {t : List Nat} {i : Nat} (h : TxC G m t) (hi : i ≤ t.length) : TxC G (wfi m 701 (gB G + 279) (nI i)) (t.take i) := by
  refine ⟨fi_eq.trans (by rw [List.length_take, Nat.min_eq_left hi]), fun k b hk => h.2 k b ?_⟩
  rw [List.getElem?_take] at hk
  split at hk
  · exact hk
  · cases hk
section API3
variable {G : Cx} {d : Nat} {m m1 m' : Mm} {A : Ab} {Q : Option Value → Mm → Prop}
abbrev lnA (A : Ab) (j q : Nat) (z : Int32) (l' : List Lk) : Ab := ((nwS (sS (aS A)) j q z, sE (aS A), sN (aS A), sL (aS A), sH (aS A), sR (aS A), l'), A.2)
theorem CIv.lnk {j q : Nat} {z : Int32} {l' : List Lk} (hL : CIv G m A) (hj : j < sN (aS A)) (hq : q < sN (aS A)) (hO : Out (CT G) m1 m) (hf : ∀ f a, (f = 6 → a ≠ gB G + 1) → (∀ k, k < 24 → a ≠ lk (gB G + 1) k) → fi m1 f a = fi m f a) (hfl : ∀ f a, fl m1 f a = fl m f a) (hai : ∀ a k, ai m1 a k = ai m a k) (hC : LkC m1 (gB G + 1) l') (hOl : LkOK (sN (aS A)) l') (P : ∀ x, ¬ lkM x j q → (x ∈ l' ↔ x ∈ sK (aS A))) (hz : lkV j q l' = z) : CIv G m1 (lnA A j q z l') := by
  have h12 := hL.nn.2
  have hne : ∀ k, k < 152 ∨ 296 ≤ k → nwS (sS (aS A)) j q z k = sS (aS A) k := fun k hk => nwS_ne (by omega) (by omega) hk
  have hLS : LkS (nwS (sS (aS A)) j q z) (sN (aS A)) l' := LkS_chg hL.cr.2.2.2.1 hL.cr.2.2.1 hOl h12 hj hq P hz
  have hC2 : CRx m1 (gB G + 1) ((nwS (sS (aS A)) j q z, sE (aS A), sN (aS A), sL (aS A), sH (aS A), sR (aS A), l') : Sc) := hL.cr.lnk hf hfl hai hC hOl hLS hne
  exact hL.sc hO hC2 ⟨hL.iv.lnk hne, hL.gd.2⟩
theorem rg_i0 {x : Int32} {b : Int} (h : rg x 0 b) : ¬ x < 0 := rg_lo h (by decide)
/-- link: the old conductance comes back; what stands behind it has the new one -/
theorem a_link (h : CIv G m A) {j q : Nat} {z : Int32} (hj : j < sN (aS A)) (hq : q < sN (aS A)) (hne : ¬ j = q) (hz : rg z 0 100000) (h24 : (sK (aS A)).length < 24) (k : ∀ m' l', CIv G m' (lnA A j q z l') → lkV j q l' = z → Q (some (.int (lkV j q (sK (aS A))))) m') : WPM G (d + 6) (0, 0) μX10_link [.ref (gB G), .int (nI j), .int (nI q), .int z] m Q := by
  obtain ⟨p, hp⟩ : ∃ p, sN (aS A) = p + 1 := ⟨sN (aS A) - 1, by omega⟩
  have h12 := h.nn.2
  obtain ⟨-, hLk, hLO, hLS, -⟩ := h.cr
  refine iiC_link (n := p) h.1 (by rw [← hp]; exact h.nn.1) (by rw [← hp]; exact h.nn.2) (by omega) (by omega) (fun c => absurd c hne) (fun _ c => absurd c (rg_lo hz (by decide))) (fun _ _ c => absurd c (rg_hi hz (by decide))) (fun c1 c2 c3 => ?_)
  refine C_pol h.1 (isC1 G) hLk hLO h12 (by omega) (by omega) (fun hz0 => ?_) (fun r x hr hx hm => ?_)
  · have old0 : lkV j q (sK (aS A)) = 0 := lkV_z _ hz0
    rw [old0] at k
    refine jC_link0 h.1 (by omega) (by omega) ?_
    refine sC_mkl (d := d + 3) h.1 (isC1 G) hLk.1 hLk.2.1 (fun nz h24 => ?_) (fun nz h24' => absurd h24 h24') (fun ez => ?_)
    · refine wp_iret dX10_link_70 rfl ?_
      have hO : Out (CT G) _ m := (((Out.rf.wfi (m := m) (f := 200) (a := lk (gB G + 1) (sK (aS A)).length) (x := nI j) (by unfold CT lk; omega)).wfi (f := 201) (a := lk (gB G + 1) (sK (aS A)).length) (x := nI q) (by unfold CT lk; omega)).wfi (f := 202) (a := lk (gB G + 1) (sK (aS A)).length) (x := z) (by unfold CT lk; omega)).wfi (f := 6) (a := gB G + 1) (x := nI ((sK (aS A)).length + 1)) (by unfold CT; omega)
      have hv := lkV_in (a := j) (b := q) (x := (j, q, z)) (lkOK_add hLO hj hq hne (rg_nz hz nz) hz0) (List.mem_append.mpr (Or.inr (List.mem_singleton.mpr rfl))) (Or.inl ⟨rfl, rfl⟩)
      refine k _ _ (h.lnk hj hq hO (fun f a h6 hk => (fi_6 h6).trans ((fi_na (hk _ h24)).trans ((fi_na (hk _ h24)).trans (fi_na (hk _ h24))))) (fun _ _ => rfl) (fun _ _ => rfl) (LkC_add hLk h24) (lkOK_add hLO hj hq hne (rg_nz hz nz) hz0) (fun x hx => ?_) hv) hv
      rw [List.mem_append, List.mem_singleton]
      constructor
      · rintro (h | h)
        · exact h
        · rw [h] at hx
          exact absurd (Or.inl ⟨rfl, rfl⟩) hx
      · exact Or.inl
    · refine wp_iret dX10_link_70 rfl ?_
      subst ez
      exact k _ _ (h.lnk hj hq Out.rf (fun _ _ _ _ => rfl) (fun _ _ => rfl) (fun _ _ => rfl) hLk hLO (fun _ _ => Iff.rfl) (lkV_z _ hz0)) (lkV_z _ hz0)
  · have h24' := hLk.2.1
    have oldv : lkV j q (sK (aS A)) = x.2.2 := lkV_at hm _ hLO r hx
    rw [oldv] at k
    obtain ⟨X, Y, hXY, hX⟩ := lk_dec hx
    have fx := (hLk.2.2 r x hx).2.2
    have hLk' := hLk
    have hLO' := hLO
    rw [hXY] at hLk' hLO'
    refine jC_link1 h.1 (by omega) (by omega) (by omega) (fun _ nz => ?_) (fun _ ez => ?_) (fun h => absurd h (nI_ne1 (by omega)))
    · rw [fx]
      have hO : Out (CT G) _ m := Out.rf.wfi (m := m) (f := 202) (a := lk (gB G + 1) r) (x := z) (by unfold CT lk; omega)
      have hOn := lkOK_new (y := (x.1, x.2.1, z)) hLO' ⟨rfl, rfl⟩ (rg_nz hz nz)
      have hv := lkV_in (a := j) (b := q) (x := (x.1, x.2.1, z)) hOn (List.mem_append.mpr (Or.inr List.mem_cons_self)) hm
      refine k _ _ (h.lnk hj hq hO (fun f a h6 hk => fi_na (hk _ (by omega))) (fun _ _ => rfl) (fun _ _ => rfl) (LkC_set hLk' hX) hOn (fun w hw => ?_) hv) hv
      rw [hXY, List.mem_append, List.mem_append, List.mem_cons, List.mem_cons]
      constructor
      · rintro (h | h | h)
        · exact Or.inl h
        · rw [h] at hw
          exact absurd hm hw
        · exact Or.inr (Or.inr h)
      · rintro (h | h | h)
        · exact Or.inl h
        · rw [h] at hw
          exact absurd hm hw
        · exact Or.inr (Or.inr h)
    · obtain ⟨w, hw⟩ : ∃ w, (sK (aS A)).length = w + 1 := ⟨(sK (aS A)).length - 1, by omega⟩
      have hwX : (X ++ x :: Y).length = w + 1 := by rw [← hXY]; exact hw
      rw [fx]
      refine sC_drl (d := d + 3) (n := w) h.1 (isC1 G) (hLk.1.trans (congrArg nI hw)) (by omega) (by omega) ?_
      refine wp_goto 116 dX10_link_99 (by decide) ?_
      refine wp_iload dX10_link_116 rfl ?_
      refine wp_iret dX10_link_118 rfl ?_
      obtain ⟨Z, hZ, hCZ⟩ := LkC_off hLk' hX hwX
      have hO : Out (CT G) _ m := (((Out.rf.wfi (m := m) (f := 6) (a := gB G + 1) (x := nI w) (by unfold CT; omega)).wfi (f := 200) (a := lk (gB G + 1) r) (x := fi m 200 (lk (gB G + 1) w)) (by unfold CT lk; omega)).wfi (f := 201) (a := lk (gB G + 1) r) (x := fi m 201 (lk (gB G + 1) w)) (by unfold CT lk; omega)).wfi (f := 202) (a := lk (gB G + 1) r) (x := fi m 202 (lk (gB G + 1) w)) (by unfold CT lk; omega)
      have hOn : LkOK (sN (aS A)) Z := (lkOK_off hLO').perm hZ.symm
      have hv : lkV j q Z = 0 := lkV_z Z (fun u hu => lk_un hLO' hm (hZ.mem_iff.mp hu))
      subst ez
      refine k _ _ (h.lnk hj hq hO (fun f a h6 hk => (fi_na (hk _ (by omega))).trans ((fi_na (hk _ (by omega))).trans ((fi_na (hk _ (by omega))).trans (fi_6 h6)))) (fun _ _ => rfl) (fun _ _ => rfl) hCZ hOn (fun u hu => ?_) hv) hv
      rw [hZ.mem_iff, hXY, List.mem_append, List.mem_append, List.mem_cons]
      constructor
      · rintro (h | h)
        · exact Or.inl h
        · exact Or.inr (Or.inr h)
      · rintro (h | h | h)
        · exact Or.inl h
        · rw [h] at hu
          exact absurd hm hu
        · exact Or.inr h
theorem a_conductance (h : CIv G m A) {j q : Nat} (hj : j < sN (aS A)) (hq : q < sN (aS A)) (k : Q (some (.int (lkV j q (sK (aS A))))) m) : WPM G (d + 6) (0, 0) μX10_conductance [.ref (gB G), .int (nI j), .int (nI q)] m Q := by
  obtain ⟨p, hp⟩ : ∃ p, sN (aS A) = p + 1 := ⟨sN (aS A) - 1, by omega⟩
  have h12 := h.nn.2
  obtain ⟨-, hLk, hLO, hLS, -⟩ := h.cr
  refine iiC_conductance (n := p) h.1 (by rw [← hp]; exact h.nn.1) (by rw [← hp]; exact h.nn.2) (by omega) (by omega) ?_
  refine C_pol h.1 (isC1 G) hLk hLO h12 (by omega) (by omega) (fun hz0 => ?_) (fun r x hr hx hm => ?_)
  · rw [lkV_z _ hz0] at k
    exact jC_conductance0 h.1 k
  · have h24' := hLk.2.1
    rw [lkV_at hm _ hLO r hx] at k
    refine jC_conductance1 h.1 (by omega) (fun _ => ?_) (fun z => absurd z (nI_ne1 (by omega)))
    rw [(hLk.2.2 r x hx).2.2]
    exact k
theorem CIv.tx {t : List Nat} {e p : Int32} (h : CIv G m A) (hF : Full G m') (hO : Out (TA G) m' m) (hT : TxC G m' t) (he : fi m' 702 (gB G + 279) = e) (hp : fi m' 703 (gB G + 279) = p) (hl : t.length ≤ 500) (hb : ∀ b ∈ t, b < 256) : CIv G m' (A.1, A.2.1, t, e, p) :=
  ⟨hF, h.2.1.tx hO hT he hp, ⟨h.2.2.1, h.2.2.2.1, hl, hb⟩⟩
def app4 (t : List Nat) (x : Int32) : List Nat := t ++ [byt (x >>> ((24 : Int32) &&& 31))] ++ [byt (x >>> ((16 : Int32) &&& 31))] ++ [byt (x >>> ((8 : Int32) &&& 31))] ++ [byt (x >>> ((0 : Int32) &&& 31))]
theorem app4_len (t : List Nat) (x : Int32) : (app4 t x).length = t.length + 4 := by
  unfold app4
  rw [List.length_append, List.length_append, List.length_append, List.length_append]
  rfl
theorem a_appendText (h : CIv G m A) {x : Int32} (hl : (aT A).length + 4 ≤ 500) (k : ∀ m', CIv G m' (A.1, A.2.1, app4 (aT A) x, aE A, aP A) → Q (some (.int (nI ((aT A).length + 4)))) m') : WPM G (d + 1) (0, 0) μX10_appendText [.ref (gB G), .int x] m Q := by
  have hT := h.2.1.2.2.1
  have hb := h.2.2.2.2.2
  refine C_at h.1 hT hl (fun m1 hF1 hO1 e1 p1 hTc => ?_)
  refine k m1 (h.tx hF1 hO1 hTc (e1.trans h.2.1.2.2.2.1) (p1.trans h.2.1.2.2.2.2) (by rw [app4_len]; exact hl) (fun b hb' => ?_))
  rcases List.mem_append.mp hb' with h1 | h1
  · rcases List.mem_append.mp h1 with h2 | h2
    · rcases List.mem_append.mp h2 with h3 | h3
      · rcases List.mem_append.mp h3 with h4 | h4
        · exact hb b h4
        · rw [List.mem_singleton.mp h4]; exact byt_lt _
      · rw [List.mem_singleton.mp h3]; exact byt_lt _
    · rw [List.mem_singleton.mp h2]; exact byt_lt _
  · rw [List.mem_singleton.mp h1]; exact byt_lt _
theorem a_truncateText (h : CIv G m A) {j : Nat} (hj : j ≤ (aT A).length) (k : ∀ m', CIv G m' (A.1, A.2.1, (aT A).take j, aE A, aP A) → Q (some (.int (nI j))) m') : WPM G (d + 3) (0, 0) μX10_truncateText [.ref (gB G), .int (nI j)] m Q := by
  have hT := h.2.1.2.2.1
  have h5 := h.2.2.2.2.1
  have hb := h.2.2.2.2.2
  refine iC_tr h.1 hT.1 h5 hj ?_
  refine k _ (h.tx (Full_wfi 701 (gB G + 279) (nI j) h.1) (Out.rf.wfi (Or.inl rfl)) (hT.cut hj) ((fi_ne (by decide)).trans h.2.1.2.2.2.1) ((fi_ne (by decide)).trans h.2.1.2.2.2.2) ?_ (fun b hb' => hb b (List.mem_of_mem_take hb')))
  rw [List.length_take]
  omega
theorem a_save (h : CIv G m A) (k : ∀ m', CIv G m' (A.1, svV A 0, A.2.2) → Q (some (.int (1 : Int32))) m') : WPM G (d + 5) (0, 0) μX10_save [.ref (gB G), .int (0 : Int32)] m Q := by
  refine eC_sv0 h.1 ?_
  refine C_copy (d := d + 1) h.1 (isC3 G) (isC1 G) (by omega) h.cr h.iv (fun m1 hO hC => ?_)
  have hF1 := hO.full h.1
  refine bC_sv0 hF1 (k _ ⟨Full_wai (gB G + 278) 0 1 hF1, h.2.1.sv (q := 0) (by omega) hO hC, ⟨h.2.2.1, fun i s hi hs => ?_, h.2.2.2.2⟩⟩)
  unfold svV at hs
  by_cases e : i = 0
  · have hs' : (if i = 0 then some (aS A) else aV A i) = some s := hs
    rw [if_pos e] at hs'
    cases hs'
    exact h.2.2.1
  · have hs' : (if i = 0 then some (aS A) else aV A i) = some s := hs
    rw [if_neg e] at hs'
    exact h.2.2.2.1 i s hi hs'
theorem a_restore {s : Sc} (h : CIv G m A) (hs : aV A 0 = some s) (k : ∀ m', CIv G m' (s, A.2) → Q (some (.int (1 : Int32))) m') : WPM G (d + 5) (0, 0) μX10_restore [.ref (gB G), .int (0 : Int32)] m Q := by
  obtain ⟨c1, c2⟩ := h.2.1.2.1 0 (by omega)
  refine eC_rs01 h.1 (c1.trans (by unfold flag; rw [hs]; rfl)) ?_
  have hC := c2 s hs
  have hG := h.2.2.2.1 0 s (by omega) hs
  refine C_copy (d := d + 1) h.1 (isC1 G) (isC3 G) (by omega) hC hG.1 (fun m1 hO hC => ?_)
  exact bC_rs0 (hO.full h.1) (k _ (h.sc (hO.mono (fun a ha => CA_CT ha)) hC hG))
end API3
