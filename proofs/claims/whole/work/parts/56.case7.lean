/-! THE LAW'S CASES OF THE TEXT -/
theorem LIv_text {G : Cx} {m m1 m2 : Mm} {A : Ab} {t : List Nat} {e p : Int32} (hL : LIv G m A) (hF : Full G m2) (hO1 : Out (TA G) m1 m) (hT1 : TxC G m1 t) (he1 : fi m1 702 (gB G + 279) = e) (hp1 : fi m1 703 (gB G + 279) = p) (hO2 : Out (TB G) m2 m1) (hT2 : TxM G m2 t) (he2 : fi m2 1118 (gB G + 293) = e) (hp2 : fi m2 1119 (gB G + 293) = p) (hl : t.length ≤ 500) (hb : ∀ b ∈ t, b < 256) : LIv G m2 (A.1, A.2.1, t, e, p) :=
  ⟨hF, (hL.2.1.tx hO1 hT1 he1 hp1).ref (hO2.mono (fun a ha => TB_RC ha)), (hL.2.2.1.cls (hO1.mono (fun a ha => TA_CC ha))).tx hO2 hT2 he2 hp2, hL.2.2.2.1, hL.2.2.2.2.1, hl, hb⟩
theorem TxC.cut {G : Cx} {m : Mm} {t : List Nat} {i : Nat} (h : TxC G m t) (hi : i ≤ t.length) : TxC G (wfi m 701 (gB G + 279) (nI i)) (t.take i) := by
  refine ⟨fi_eq.trans (by rw [List.length_take, Nat.min_eq_left hi]), fun k b hk => h.2 k b ?_⟩
  rw [List.getElem?_take] at hk
  split at hk
  · exact hk
  · cases hk
theorem TxM.cut {G : Cx} {m : Mm} {t : List Nat} {i : Nat} (h : TxM G m t) (hi : i ≤ t.length) : TxM G (wfi m 1111 (gB G + 293) (nI i)) (t.take i) := by
  refine ⟨fi_eq.trans (by rw [List.length_take, Nat.min_eq_left hi]), fun k b hk => h.2 k b ?_⟩
  rw [List.getElem?_take] at hk
  split at hk
  · exact hk
  · cases hk
theorem K_48 {G : Cx} {d i : Nat} {m : Mm} {A : Ab} {Q : Option Value → Mm → Prop} (hL : LIv G m A) (hi : i + 7 ≤ gSl G) (hl : gSl G < 4000) (next : ∀ m' A', LIv G m' A' → WP G (d + 100) (0, 0) μL_law 18 [.ref (gSa G), .ref (gB G), .ref (gB G + 293), .int (nI (i + 7))] [] m' Q) : WP G (d + 100) (0, 0) μL_law 1623 [.ref (gSa G), .ref (gB G), .ref (gB G + 293), .int (nI i)] [] m Q := by
  have hT1 : TxC G m (aT A) := hL.2.1.2.2.1
  have hT2 : TxM G m (aT A) := hL.2.2.1.2.2.2.1
  have h5 : (aT A).length ≤ 500 := hL.2.2.2.2.2.1
  have hb : ∀ b ∈ aT A, b < 256 := hL.2.2.2.2.2.2
  refine bL_48a hL.1 hi hl ?_
  by_cases h : (aT A).length + 4 ≤ 500
  · refine C_at (d := d + 98) hL.1 hT1 h (fun m1 hF1 hO1 e1 p1 hTc => ?_)
    refine bL_48b hF1 hi hl ?_
    have hr := hL.2.2.1.cls (hO1.mono (fun a ha => TA_CC ha))
    refine M_at (d := d + 98) hF1 hr.2.2.2.1 h (fun m2 hF2 hO2 e2 p2 hTm => ?_)
    have hLn := LIv_text hL hF2 hO1 hTc (e1.trans hL.2.1.2.2.2.1) (p1.trans hL.2.1.2.2.2.2) hO2 hTm (e2.trans hr.2.2.2.2.1) (p2.trans hr.2.2.2.2.2) (by
      rw [List.length_append, List.length_append, List.length_append, List.length_append]
      exact h) (fun b hb' => by
      rcases List.mem_append.mp hb' with h1 | h1
      · rcases List.mem_append.mp h1 with h2 | h2
        · rcases List.mem_append.mp h2 with h3 | h3
          · rcases List.mem_append.mp h3 with h4 | h4
            · exact hb b h4
            · rw [List.mem_singleton.mp h4]; exact byt_lt _
          · rw [List.mem_singleton.mp h3]; exact byt_lt _
        · rw [List.mem_singleton.mp h2]; exact byt_lt _
      · rw [List.mem_singleton.mp h1]; exact byt_lt _)
    exact bL_48c hF2 hi hl (fun _ => next _ _ hLn) (fun z => absurd rfl z)
  · refine eC_at (d := d + 98) hL.1 hT1.1 h5 (fun z => by omega) (fun _ => ?_)
    refine bL_48b hL.1 hi hl ?_
    refine eM_at (d := d + 98) hL.1 hT2.1 h5 (fun z => by omega) (fun _ => ?_)
    exact bL_48c hL.1 hi hl (fun _ => next _ _ hL) (fun z => absurd rfl z)
theorem K_49 {G : Cx} {d i : Nat} {m : Mm} {A : Ab} {Q : Option Value → Mm → Prop} (hL : LIv G m A) (hi : i + 7 ≤ gSl G) (hl : gSl G < 4000) (next : ∀ m' A', LIv G m' A' → WP G (d + 100) (0, 0) μL_law 18 [.ref (gSa G), .ref (gB G), .ref (gB G + 293), .int (nI (i + 7))] [] m' Q) : WP G (d + 100) (0, 0) μL_law 1646 [.ref (gSa G), .ref (gB G), .ref (gB G + 293), .int (nI i)] [] m Q := by
  have hT1 : TxC G m (aT A) := hL.2.1.2.2.1
  have hT2 : TxM G m (aT A) := hL.2.2.1.2.2.2.1
  have h5 : (aT A).length ≤ 500 := hL.2.2.2.2.2.1
  have hb : ∀ b ∈ aT A, b < 256 := hL.2.2.2.2.2.2
  have fin : ∀ v : Int32, WP G (d + 100) (0, 0) μL_law 1664 [.ref (gSa G), .ref (gB G), .ref (gB G + 293), .int (nI i)] [.int v, .int v] m Q := fun v => bL_49c hL.1 hi hl (fun _ => next m A hL) (fun z => absurd rfl z)
  refine bL_49a hL.1 hi hl ?_
  rcases inr_cases (gSx G (i + 1)) ((aT A).length + 1) (by omega) with ⟨j, hj, e⟩ | e | ⟨e, e'⟩
  · rw [e]
    refine iC_tr (d := d + 96) hL.1 hT1.1 h5 (by omega) ?_
    have hF1 := Full_wfi 701 (gB G + 279) (nI j) hL.1
    have hO1 : Out (TA G) (wfi m 701 (gB G + 279) (nI j)) m := Out.rf.wfi (Or.inl rfl)
    have hr := hL.2.2.1.cls (hO1.mono (fun a ha => TA_CC ha))
    refine bL_49b hF1 hi hl ?_
    rw [e]
    refine iM_tr (d := d + 96) hF1 hr.2.2.2.1.1 h5 (by omega) ?_
    have hLn := LIv_text hL (Full_wfi 1111 (gB G + 293) (nI j) hF1) hO1 (hT1.cut (by omega : j ≤ (aT A).length)) ((fi_ne (by decide)).trans hL.2.1.2.2.2.1) ((fi_ne (by decide)).trans hL.2.1.2.2.2.2) (Out.rf.wfi (Or.inl rfl)) (hr.2.2.2.1.cut (by omega : j ≤ (aT A).length)) ((fi_ne (by decide)).trans hr.2.2.2.2.1) ((fi_ne (by decide)).trans hr.2.2.2.2.2) (by
      rw [List.length_take]
      omega) (fun b hb' => hb b (List.mem_of_mem_take hb'))
    exact bL_49c (Full_wfi 1111 (gB G + 293) (nI j) hF1) hi hl (fun _ => next _ _ hLn) (fun z => absurd rfl z)
  · exact aC_tr (d := d + 96) hL.1 hT1.1 h5 e (bL_49b hL.1 hi hl (aM_tr (d := d + 96) hL.1 hT2.1 h5 e (fin _)))
  · have g : nI (aT A).length < gSx G (i + 1) := sub_lt1 (by omega) e e'
    exact bC_tr (d := d + 96) hL.1 hT1.1 h5 e g (bL_49b hL.1 hi hl (bM_tr (d := d + 96) hL.1 hT2.1 h5 e g (fin _)))
