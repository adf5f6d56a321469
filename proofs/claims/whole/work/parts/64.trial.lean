/-! TRIALS -/
def RK (G : Cx) (a : Nat) : Prop := a = gB G + 294 ∨ a = gB G + 295 ∨ a = gB G + 297 ∨ a = gB G + 298 ∨ a = gB G + 301 ∨ a = gB G + 302 ∨ a = gB G + 303
section TRIAL
variable {G : Cx} {d : Nat} {m m' m0 m1 m2 : Mm} {A : Ab} {s s0 : Sc} {T : Int} {Q : Option Value → Mm → Prop}
theorem SM_RK {a : Nat} (h : SM G a) : RK G a := by unfold SM at h; unfold RK; omega
theorem RK_RC {a : Nat} (h : RK G a) : RC G a := by unfold RK at h; unfold RC; omega
/-- in the midst of a trial that began with s0 -/
def TR (G : Cx) (m0 m : Mm) (s0 s : Sc) : Prop := Full G m ∧ Out (RK G) m m0 ∧ ai m (gB G + 294) = sS s ∧ al m (gB G + 297) = sE s ∧ (∀ k, k < 1486 → ai m (gB G + 295) k = sS s0 k) ∧ (∀ w, w < 3 → al m (gB G + 298) w = sE s0 w) ∧ (∀ k, 1486 ≤ k → sS s k = sS s0 k) ∧ ∀ w, 3 ≤ w → sE s w = sE s0 w
theorem TR.ms (h : TR G m0 m s0 s) : MS G m m (sS s) (sE s) := ⟨h.1, Out.rf, h.2.2.1, h.2.2.2.1⟩
theorem enF_ne (st : Nat → Int32) (n nl nh : Nat) (en : Nat → Int64) {w : Nat} (hw : 3 ≤ w) : enF st n nl nh en w = en w := by
  unfold enF
  simp only [vp_updL]
  repeat first
    | rw [if_neg (by omega)]
    | rfl
theorem TR.of (h : TR G m0 m s0 s) {s' : Sc} (hM : MS G m m' (sS s') (sE s')) (h1 : ∀ k, 1486 ≤ k → sS s' k = sS s k) (h2 : ∀ w, 3 ≤ w → sE s' w = sE s w) : TR G m0 m' s0 s' := by
  obtain ⟨t1, t2, t3, t4, t5, t6, t7, t8⟩ := h
  obtain ⟨q1, q2, q3, q4⟩ := hM
  exact ⟨q1, (q2.mono (fun a ha => SM_RK ha)).tr t2, q3, q4, fun k hk => (q2.ai (by unfold SM; omega) k).trans (t5 k hk), fun w hw => (q2.al (by unfold SM; omega) w).trans (t6 w hw), fun k hk => (h1 k hk).trans (t7 k hk), fun w hw => (h2 w hw).trans (t8 w hw)⟩
theorem sp_hi (hG : GdT T s) (hT : T ≤ 1900000000) {k : Nat} (hk : 1486 ≤ k) : sS (sp s) k = sS s k := by
  have hn := hG.1.1.2.1
  have hl := hG.1.1.2.2.2.1
  have hh := hG.1.1.2.2.2.2.2.1
  refine stepS_ne hG.1 hT hG.2.2 ?_
  unfold NC
  refine ⟨by omega, by omega, by omega, by omega, fun i hi => by omega, fun i hi => by omega, fun i hi => by omega, by omega⟩
theorem sp_hiE {w : Nat} (hw : 3 ≤ w) : sE (sp s) w = sE s w := enF_ne _ _ _ _ _ hw
theorem TR.step (h : TR G m0 m s0 s) (hG : GdT T s) (hT : T ≤ 1900000000) (k : ∀ m', TR G m0 m' s0 (sp s) → Q (some (.int (svi s))) m') : WPM G (d + 7) (0, 0) μX11_step [.ref (gB G + 293)] m Q :=
  M_st h.ms hG hT (fun m' hM => k m' (h.of hM (fun k hk => sp_hi hG hT hk) (fun w hw => sp_hiE hw)))
theorem TR.put (h : TR G m0 m s0 s) {k : Nat} {x : Int32} (hk : k < 1486) : TR G m0 (wai m (gB G + 294) k x) s0 ((upd (sS s) k x, s.2) : Sc) :=
  h.of (h.ms.wst k x) (fun j hj => upd_ne (by omega)) (fun _ _ => rfl)
theorem M_ks (hM : MS G m m (sS s) (sE s)) (k : ∀ m', TR G m m' s s → Q none m') : WPM G (d + 1) (0, 0) μX11_keepState [.ref (gB G + 293)] m Q := by
  obtain ⟨hF, -, h3, h4⟩ := hM
  refine eM_ks hF ?_
  refine loopN (n := 1486) (P := fun j m1 => Full G m1 ∧ Out (RK G) m1 m ∧ ai m1 (gB G + 294) = sS s ∧ al m1 (gB G + 297) = sE s ∧ ∀ k, k < j → ai m1 (gB G + 295) k = sS s k) (W := fun j m1 => WP G (d + 1) (0, 0) μX11_keepState 2 [.ref (gB G + 293), .int (nI j)] [] m1 Q) ?_ 0 (by omega) m ⟨hF, Out.rf, h3, h4, fun k hk => by omega⟩
  intro j m1 hj ⟨a1, a2, a3, a4, a5⟩ ih
  refine bM_ks a1 hj (fun z => ?_) (fun z => ?_)
  · have e : j = 1486 := by omega
    subst e
    refine loopN (n := 3) (P := fun w m2 => Full G m2 ∧ Out (RK G) m2 m ∧ ai m2 (gB G + 294) = sS s ∧ al m2 (gB G + 297) = sE s ∧ (∀ k, k < 1486 → ai m2 (gB G + 295) k = sS s k) ∧ ∀ k, k < w → al m2 (gB G + 298) k = sE s k) (W := fun w m2 => WP G (d + 1) (0, 0) μX11_keepState 29 [.ref (gB G + 293), .int (nI w)] [] m2 Q) ?_ 0 (by omega) m1 ⟨a1, a2, a3, a4, a5, fun k hk => by omega⟩
    intro w m2 hw ⟨b1, b2, b3, b4, b5, b6⟩ ih2
    refine cM_ks b1 hw (fun z => ?_) (fun z => ?_)
    · have e : w = 3 := by omega
      subst e
      exact k m2 ⟨b1, b2, b3, b4, b5, b6, fun _ _ => rfl, fun _ _ => rfl⟩
    · refine ih2 z _ ⟨Full_wal _ _ _ b1, b2.wal (by unfold RK; omega), b3, ?_, b5, fun k hk => ?_⟩
      · rw [← b4]
        funext k
        exact al_na (by omega)
      · rw [al_wal_upd, b4]
        by_cases e : k = w
        · subst e
          simp [vp_updL]
        · have := b6 k (by omega)
          simp [vp_updL, e, this]
  · refine ih z _ ⟨Full_wai _ _ _ a1, a2.wai (by unfold RK; omega), ?_, a4, fun k hk => ?_⟩
    · rw [← a3]
      funext k
      exact ai_na (by omega)
    · rw [ai_wai_upd, a3]
      by_cases e : k = j
      · subst e
        rw [upd_eq]
      · rw [upd_ne e]
        exact a5 k (by omega)
theorem M_pb (h : TR G m0 m s0 s) (k : ∀ m', TR G m0 m' s0 s0 → Q none m') : WPM G (d + 1) (0, 0) μX11_putBackState [.ref (gB G + 293)] m Q := by
  obtain ⟨t1, t2, t3, t4, t5, t6, t7, t8⟩ := h
  refine eM_pb t1 ?_
  refine loopN (n := 1486) (P := fun j m1 => Full G m1 ∧ Out (RK G) m1 m0 ∧ (∀ k, k < j ∨ 1486 ≤ k → ai m1 (gB G + 294) k = sS s0 k) ∧ al m1 (gB G + 297) = sE s ∧ (∀ k, k < 1486 → ai m1 (gB G + 295) k = sS s0 k) ∧ ∀ w, w < 3 → al m1 (gB G + 298) w = sE s0 w) (W := fun j m1 => WP G (d + 1) (0, 0) μX11_putBackState 2 [.ref (gB G + 293), .int (nI j)] [] m1 Q) ?_ 0 (by omega) m ⟨t1, t2, fun k hk => (congrFun t3 k).trans (t7 k (by omega)), t4, t5, t6⟩
  intro j m1 hj ⟨a1, a2, a3, a4, a5, a6⟩ ih
  refine bM_pb a1 hj (fun z => ?_) (fun z => ?_)
  · have e : j = 1486 := by omega
    subst e
    refine loopN (n := 3) (P := fun w m2 => Full G m2 ∧ Out (RK G) m2 m0 ∧ ai m2 (gB G + 294) = sS s0 ∧ (∀ k, k < w ∨ 3 ≤ k → al m2 (gB G + 297) k = sE s0 k) ∧ (∀ k, k < 1486 → ai m2 (gB G + 295) k = sS s0 k) ∧ ∀ k, k < 3 → al m2 (gB G + 298) k = sE s0 k) (W := fun w m2 => WP G (d + 1) (0, 0) μX11_putBackState 29 [.ref (gB G + 293), .int (nI w)] [] m2 Q) ?_ 0 (by omega) m1 ⟨a1, a2, by funext k; exact a3 k (by omega), fun k hk => (congrFun a4 k).trans (t8 k (by omega)), a5, a6⟩
    intro w m2 hw ⟨b1, b2, b3, b4, b5, b6⟩ ih2
    refine cM_pb b1 hw (fun z => ?_) (fun z => ?_)
    · have e : w = 3 := by omega
      subst e
      exact k m2 ⟨b1, b2, b3, by funext k; exact b4 k (by omega), b5, b6, fun _ _ => rfl, fun _ _ => rfl⟩
    · refine ih2 z _ ⟨Full_wal _ _ _ b1, b2.wal (by unfold RK; omega), b3, fun k hk => ?_, b5, fun k hk => (al_na (by omega)).trans (b6 k hk)⟩
      rw [al_wal_upd]
      by_cases e : k = w
      · subst e
        have := b6 k z
        simp [vp_updL, this]
      · have := b4 k (by omega)
        simp [vp_updL, e, this]
  · refine ih z _ ⟨Full_wai _ _ _ a1, a2.wai (by unfold RK; omega), fun k hk => ?_, a4, fun k hk => (ai_na (by omega)).trans (a5 k hk), a6⟩
    rw [ai_wai_upd]
    by_cases e : k = j
    · subst e
      rw [upd_eq]
      exact a5 k z
    · rw [upd_ne e]
      exact a3 k (by omega)
theorem LIv_trial (hL : LIv G m A) (hO : Out (CA (gB G + 70)) m1 m) (h : TR G m1 m2 (aS A) (aS A)) : LIv G m2 A := by
  have c1 : Cls G m1 A := by
    have := hL.2.1.craft (hO.mono (fun a ha => CA_CT2 ha)) (hL.2.1.1.ag (fun f j hj => hO.fi (by unfold CA; omega) f) (fun f => hO.fl (by unfold CA; omega) f) (fun j k hj => hO.ai (by unfold CA; omega) k))
    exact this
  obtain ⟨h1, h2, h3, ⟨h4, h5⟩, h6, h7⟩ := hL.2.2.1.cls (hO.mono (fun a ha => CT_CC (CA_CT2 ha)))
  obtain ⟨t1, hO2, t3, t4, -⟩ := h
  refine ⟨t1, c1.ref (hO2.mono (fun a ha => RK_RC ha)), ⟨t3, t4, fun i hi => ⟨?_, fun s hs => ⟨fun k hk => ?_, fun w hw => ?_⟩⟩, ⟨?_, fun k b hb => ?_⟩, ?_, ?_⟩, hL.2.2.2⟩
  · rw [hO2.ai (by unfold RK; omega)]; exact (h3 i hi).1
  · rw [hO2.ai (by unfold RK; omega)]; exact ((h3 i hi).2 s hs).1 k hk
  · rw [hO2.al (by unfold RK; omega)]; exact ((h3 i hi).2 s hs).2 w hw
  · rw [hO2.fi (by unfold RK; omega)]; exact h4
  · rw [hO2.ai (by unfold RK; omega)]; exact h5 k b hb
  · rw [hO2.fi (by unfold RK; omega)]; exact h6
  · rw [hO2.fi (by unfold RK; omega)]; exact h7
/-- the class's trial craft begins as the craft -/
theorem C_trial (hF : Full G m) (hC : CRx m (gB G + 1) s) (hG : GdT T s) (k : ∀ m', Full G m' → Out (CA (gB G + 70)) m' m → CRx m' (gB G + 70) s → Q none m') : WPM G (d + 3) (0, 0) μX0_copyFrom [.ref (gB G + 70), .ref (gB G + 1)] m Q :=
  C_copy hF (isC2 G) (isC1 G) (by omega) hC hG.1 (fun m' hO hC' => k m' (hO.full hF) hO hC')
theorem SA_CA {c a : Nat} (h : SA c a) : CA c a := by unfold SA at h; unfold CA; omega
end TRIAL
