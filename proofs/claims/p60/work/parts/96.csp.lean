/-! THE CLASS'S WORDS, AND THE SPLITTING -/
def oWL : List Nat := [0, 5, 8, 12, 16, 21, 26, 32, 36, 42, 49, 54, 61, 68, 73, 76, 80, 85, 90, 95]
def oW (i : Nat) : Nat := oWL.getD i 0
def wW (i : Nat) : List Nat := WL.getD i []
theorem oW_ok : ∀ i, i < 19 → oW (i + 1) = oW i + (wW i).length + 1 ∧ oW i + (wW i).length < 95 ∧ chJ 1 (oW i + (wW i).length) = 32 ∧ ∀ j, j < (wW i).length → chJ 1 (oW i + j) ≠ 32 ∧ chJ 1 (oW i + j) = nI ((wW i).getD j 0) := by decide +kernel
theorem wW_ok : ∀ i, i < 19 → WL.drop i = wW i :: WL.drop (i + 1) ∧ ∀ b ∈ wW i, 97 ≤ b ∧ b ≤ 122 := by decide +kernel
theorem tw_all {P : Nat → Bool} : ∀ (l : List Nat), ∀ b ∈ l.takeWhile P, P b = true
  | [], b, h => absurd h List.not_mem_nil
  | a :: l, b, h => by
    rw [List.takeWhile_cons] at h
    split at h
    · rename_i e
      rcases List.mem_cons.mp h with rfl | h
      · exact e
      · exact tw_all l b h
    · exact absurd h List.not_mem_nil
theorem tw_get {P : Nat → Bool} : ∀ (l : List Nat) (j b : Nat), (l.takeWhile P)[j]? = some b → l[j]? = some b
  | [], j, b, h => h
  | a :: l, j, b, h => by
    rw [List.takeWhile_cons] at h
    split at h
    · cases j with
      | zero => exact h
      | succ j => exact tw_get l j b h
    · cases h
section CSP
variable {G : Cx} {d : Nat} {m : Mm} {Q : Option Value → Mm → Prop} {t : List Nat}
/-- the letters of the word at p, as they lie in the class's text -/
theorem wd_at (hT : TxC G m t) (hb : ∀ b ∈ t, b < 256) {p j b : Nat} (h : ((t.drop p).takeWhile leP)[j]? = some b) : ai m (gB G + 280) (j + p) = nI b ∧ 97 ≤ b ∧ b ≤ 122 := by
  have h1 := leP_rg (tw_all _ b (List.mem_of_getElem? h))
  have h2 := tw_get _ _ _ h
  rw [List.getElem?_drop] at h2
  have h3 := hT.2 _ _ h2
  rw [Nat.add_comm j p, h3, (sx_ok b (by omega)).2.2.2.2.1 (by omega)]
  exact ⟨rfl, h1⟩
theorem C_iw (hF : Full G m) (hT : TxC G m t) (h5 : t.length ≤ 500) (hb : ∀ b ∈ t, b < 256) {p i : Nat} (hi : i < 19) (hp : p ≤ t.length) (k1 : (t.drop p).takeWhile leP = wW i → Q (some (.int 1)) m) (k0 : (t.drop p).takeWhile leP ≠ wW i → Q (some (.int 0)) m) : WPM G (d + 4) (0, 0) μX7_isWord [.ref (gB G + 279), .int (nI (oW i)), .int (nI (oW i + (wW i).length)), .int (nI p), .int (nI (ruE leP t p))] m Q := by
  obtain ⟨o1, o2, o3, o4⟩ := oW_ok i hi
  have hle := ruE_le (P := leP) hp
  have hru : ruE leP t p = ((t.drop p).takeWhile leP).length + p := by unfold ruE; omega
  have hwd := fun j b => wd_at hT hb (p := p) (j := j) (b := b)
  rw [hru] at hle ⊢
  generalize (t.drop p).takeWhile leP = wd at hwd hle k1 k0 ⊢
  refine eC_iw hF o2 (by omega) (fun e => ?_) (fun e => k0 (fun z => e (by rw [z])))
  have loop : ∀ f j, wd.length - j ≤ f → j ≤ wd.length → (∀ k, k < j → wd[k]? = (wW i)[k]?) → WP G (d + 4) (0, 0) μX7_isWord 15 [.ref (gB G + 279), .int (nI (oW i)), .int (nI (oW i + (wW i).length)), .int (nI p), lvU, .int (nI j)] [] m Q := by
    intro f
    induction f with
    | zero =>
      intro j h1 h2 h3
      refine bC_iw hF o2 (by omega) (by omega) (fun _ => k1 (List.ext_getElem? (fun k => ?_))) (fun h => by omega) (fun h => by omega)
      by_cases hk : k < j
      · exact h3 k hk
      · rw [List.getElem?_eq_none (by omega), List.getElem?_eq_none (by omega)]
    | succ f ih =>
      intro j h1 h2 h3
      have hg : j < (wW i).length → ∃ b, wd[j]? = some b ∧ ai m (gB G + 280) (j + p) = nI b ∧ 97 ≤ b ∧ b ≤ 122 := fun h => by
        have hj : j < wd.length := by omega
        exact ⟨wd[j], List.getElem?_eq_getElem hj, hwd j _ (List.getElem?_eq_getElem hj)⟩
      have hwb : j < (wW i).length → (wW i)[j]? = some ((wW i).getD j 0) ∧ 97 ≤ (wW i).getD j 0 ∧ (wW i).getD j 0 ≤ 122 := fun h => by
        have e1 : (wW i)[j]? = some ((wW i).getD j 0) := by
          rw [List.getD_eq_getElem?_getD, List.getElem?_eq_getElem h]
          rfl
        exact ⟨e1, (wW_ok i hi).2 _ (List.mem_of_getElem? e1)⟩
      refine bC_iw hF o2 (by omega) (by omega) (fun h => k1 (List.ext_getElem? (fun k => ?_))) (fun h e2 => ?_) (fun h e2 => ?_)
      · by_cases hk : k < j
        · exact h3 k hk
        · rw [List.getElem?_eq_none (by omega), List.getElem?_eq_none (by omega)]
      · obtain ⟨b, g1, g2, g3, g4⟩ := hg h
        obtain ⟨w1, w2, w3⟩ := hwb h
        rw [g2, (o4 j h).2] at e2
        refine ih (j + 1) (by omega) (by omega) (fun k hk => ?_)
        by_cases hkj : k = j
        · rw [hkj, g1, w1, neq e2 (by omega) (by omega)]
        · exact h3 k (by omega)
      · obtain ⟨b, g1, g2, g3, g4⟩ := hg h
        obtain ⟨w1, w2, w3⟩ := hwb h
        rw [g2, (o4 j h).2] at e2
        refine k0 (fun z => e2 ?_)
        rw [z, w1] at g1
        rw [Option.some.inj g1]
  exact loop wd.length 0 (by omega) (by omega) (fun k hk => by omega)
theorem C_kw (hF : Full G m) (hT : TxC G m t) (h5 : t.length ≤ 500) (hb : ∀ b ∈ t, b < 256) {p : Nat} (hp : p ≤ t.length) (k : Q (some (.int (nI (wdK ((t.drop p).takeWhile leP))))) m) : WPM G (d + 5) (0, 0) μX7_kindOfWord [.ref (gB G + 279), .int (nI p), .int (nI (ruE leP t p))] m Q := by
  refine eC_kw hF ?_
  -- from the beginning of word i
  have scan : ∀ i, i < 19 → (∀ j, WP G (d + 5) (0, 0) μX7_kindOfWord 42 [.ref (gB G + 279), .int (nI p), .int (nI (ruE leP t p)), .int (nI (201 + i)), lvU, .int (nI (oW i + (wW i).length))] [.int (if (t.drop p).takeWhile leP = wW i then 1 else 0)] m j → True) → (WP G (d + 5) (0, 0) μX7_kindOfWord 42 [.ref (gB G + 279), .int (nI p), .int (nI (ruE leP t p)), .int (nI (201 + i)), lvU, .int (nI (oW i + (wW i).length))] [.int (if (t.drop p).takeWhile leP = wW i then 1 else 0)] m Q) → ∀ f s, (wW i).length - s ≤ f → s ≤ (wW i).length → WP G (d + 5) (0, 0) μX7_kindOfWord 10 [.ref (gB G + 279), .int (nI p), .int (nI (ruE leP t p)), .int (nI (201 + i)), .int (nI (oW i)), .int (nI (oW i + s))] [] m Q := by
    intro i hi _ hk f
    obtain ⟨o1, o2, o3, o4⟩ := oW_ok i hi
    have atend : WP G (d + 5) (0, 0) μX7_kindOfWord 10 [.ref (gB G + 279), .int (nI p), .int (nI (ruE leP t p)), .int (nI (201 + i)), .int (nI (oW i)), .int (nI (oW i + (wW i).length))] [] m Q := by
      refine bC_kw hF (by omega) (by omega) (fun h => by omega) (fun h e => absurd o3 e) (fun h e => ?_)
      refine C_iw hF hT h5 hb hi hp (fun z => ?_) (fun z => ?_)
      · rw [if_pos z] at hk
        exact hk
      · rw [if_neg z] at hk
        exact hk
    induction f with
    | zero =>
      intro s h1 h2
      have e : s = (wW i).length := by omega
      subst e
      exact atend
    | succ f ih =>
      intro s h1 h2
      by_cases e : s = (wW i).length
      · subst e
        exact atend
      · refine bC_kw hF (by omega) (by omega) (fun h => by omega) (fun h e2 => ?_) (fun h e2 => absurd e2 (o4 s (by omega)).1)
        exact ih (s + 1) (by omega) (by omega)
  have words : ∀ f i, 19 - i ≤ f → i ≤ 19 → Q (some (.int (nI (wdF ((t.drop p).takeWhile leP) (201 + i) (WL.drop i))))) m → WP G (d + 5) (0, 0) μX7_kindOfWord 10 [.ref (gB G + 279), .int (nI p), .int (nI (ruE leP t p)), .int (nI (201 + i)), .int (nI (oW i)), .int (nI (oW i))] [] m Q := by
    intro f
    induction f with
    | zero =>
      intro i h1 h2 kk
      have e : i = 19 := by omega
      subst e
      refine bC_kw hF (by decide) (by omega) (fun h => kk) (fun h => absurd h (by decide)) (fun h => absurd h (by decide))
    | succ f ih =>
      intro i h1 h2 kk
      by_cases e : i = 19
      · subst e
        refine bC_kw hF (by decide) (by omega) (fun h => kk) (fun h => absurd h (by decide)) (fun h => absurd h (by decide))
      · have hi : i < 19 := by omega
        obtain ⟨o1, o2, o3, o4⟩ := oW_ok i hi
        rw [(wW_ok i hi).1] at kk
        unfold wdF at kk
        refine scan i hi (fun _ _ => trivial) ?_ (wW i).length 0 (by omega) (by omega)
        by_cases z : (t.drop p).takeWhile leP = wW i
        · rw [if_pos z]
          rw [if_pos z] at kk
          exact cC_kw1 hF o2 (by omega) kk
        · rw [if_neg z]
          rw [if_neg z] at kk
          refine cC_kw0 hF o2 (by omega) ?_
          rw [← o1]
          exact ih (i + 1) (by omega) (by omega) kk
  exact words 19 0 (by omega) (by omega) k
theorem C_ko (hF : Full G m) (hT : TxC G m t) (h5 : t.length ≤ 500) (hb : ∀ b ∈ t, b < 256) {p : Nat} (hp : p ≤ t.length) (k : Q (some (.int (nI (tkK t p)))) m) : WPM G (d + 6) (0, 0) μX7_kindOf [.ref (gB G + 279), .int (nI p), .int (nI (tkN t p))] m Q := by
  have hle := tkN_le hp
  by_cases hpl : p < t.length
  · obtain ⟨b, g1, g2, g3⟩ := hT.b hb hpl
    have hgt := tkN_gt hpl
    obtain ⟨s1, s2, s3, s4, s5, s6⟩ := sx_ok b g2
    unfold tkK at k
    rw [g1] at k
    dsimp only at k
    refine eC_ko hF (by omega) (by omega) (fun _ e1 e2 => ?_) (fun _ e1 e2 => ?_) (fun _ e1 => ?_) (fun h => absurd hgt h)
    · rw [g3] at e1 e2 ⊢
      have d1 : ¬ diP b = true := fun z => by rw [s4, if_pos z] at e1; exact absurd e1 (by decide)
      have d2 : ¬ leP b = true := fun z => by rw [s3, if_pos z] at e2; exact absurd e2 (by decide)
      rw [if_neg d1, if_neg d2] at k
      rw [s6]
      refine M_iof g2 (fun v hv => ?_)
      refine cC_kos hF (fun h => ?_) (fun h => ?_)
      · rw [if_neg (hv.mp h)] at k
        exact k
      · have hm : b ∈ syL := Classical.not_not.mp (fun z => h (hv.mpr z))
        rw [if_pos hm] at k
        rw [s5 (by have := sy_rg hm; omega)]
        exact k
    · rw [g3] at e1 e2
      have d1 : ¬ diP b = true := fun z => by rw [s4, if_pos z] at e1; exact absurd e1 (by decide)
      have d2 : leP b = true := Classical.not_not.mp (fun z => e2 (by rw [s3, if_neg z]))
      rw [if_neg d1, if_pos d2] at k
      have e3 : tkN t p = ruE leP t p := by
        unfold tkN
        rw [g1]
        show (if diP b = true then _ else _) = _
        rw [if_neg d1, if_pos d2]
      rw [e3]
      exact C_kw hF hT h5 hb hp (cC_kow hF k)
    · rw [g3] at e1
      have d1 : diP b = true := Classical.not_not.mp (fun z => e1 (by rw [s4, if_neg z]))
      rw [if_pos d1] at k
      exact k
  · have e1 : tkN t p = p := by unfold tkN; rw [get_end hpl]
    have e2 : tkK t p = 0 := by unfold tkK; rw [get_end hpl]
    rw [e2] at k
    rw [e1]
    exact eC_ko hF (by omega) (Nat.le_refl _) (fun h => by omega) (fun h => by omega) (fun h => by omega) (fun _ => k)
/-- the tokens as they lie in the class's arrays -/
def TokA (G : Cx) (m : Mm) (T : List Tk) : Prop := ∀ i k, T[i]? = some k → ai m (gB G + 290) i = nI k.1 ∧ ai m (gB G + 291) i = nI k.2.1 ∧ ai m (gB G + 292) i = nI k.2.2
def TR' (G : Cx) (a : Nat) : Prop := a = gB G + 279 ∨ a = gB G + 290 ∨ a = gB G + 291 ∨ a = gB G + 292
theorem tkK_lt {t : List Nat} {p : Nat} : tkK t p < 1000 := by
  unfold tkK
  split
  · omega
  · rename_i b hb
    split
    · omega
    · split
      · rcases wdK_rg ((t.drop p).takeWhile leP) with h | h <;> omega
      · split
        · rename_i h
          have := sy_rg h
          omega
        · omega
theorem L_spl (hb : ∀ b ∈ t, b < 256) (h5 : t.length ≤ 500) {m0 : Mm} {T : List Tk} (k : ∀ m', Full G m' → Out (TR' G) m' m0 → (∀ f, f ≠ 708 → fi m' f (gB G + 279) = fi m0 f (gB G + 279)) → fi m' 708 (gB G + 279) = nI T.length → TokA G m' T → Q none m') :
    ∀ f p c m, f + c = 501 → p ≤ t.length → t.length - p < f → T.take c ++ toks t f p = T → c ≤ T.length → Full G m → Out (TR' G) m m0 → (∀ g, g ≠ 708 → fi m g (gB G + 279) = fi m0 g (gB G + 279)) → TxC G m t → fi m 708 (gB G + 279) = nI c → TokA G m (T.take c) → WP G (d + 7) (0, 0) μX7_splitText 9 [.ref (gB G + 279), .int (nI p), .int (1 : Int32), lvU] [] m Q := by
  intro f
  induction f with
  | zero => intro p c m _ _ h; omega
  | succ f ih =>
    intro p c m hfc hp hf hT0 hcT hF hO hfr hT hc hA
    have q1 := ruE_ge (P := blP) (t := t) (p := p)
    have q2 := ruE_le (P := blP) hp
    unfold toks at hT0
    generalize hq : ruE blP t p = q at q1 q2 hT0
    have hk9 := tkK_lt (t := t) (p := q)
    have hlen : T[c]? = some (tkK t q, q, tkV t q) := by
      rw [← hT0, List.getElem?_append_right (by rw [List.length_take]; omega), List.length_take, Nat.min_eq_left hcT, Nat.sub_self]
      rfl
    have hcl : c < T.length := (List.getElem?_eq_some_iff.mp hlen).1
    have htk : T.take (c + 1) = T.take c ++ [(tkK t q, q, tkV t q)] := by
      rw [List.take_add_one, hlen]
      rfl
    refine bC_spl hF hc (by omega) ?_
    refine C_sb (d := d + 6) hF hT h5 hb hp ?_
    rw [hq]
    refine b2C_spl hF ?_
    refine C_et (d := d + 5) hF hT h5 hb q2 ?_
    refine b3C_spl hF hc ?_
    refine C_ko hF hT h5 hb q2 ?_
    refine b4C_spl hF hc (by omega) ?_
    have hF1 := Full_wai (gB G + 291) c (nI q) (Full_wai (gB G + 290) c (nI (tkK t q)) hF)
    have hT1 : TxC G (wai (wai m (gB G + 290) c (nI (tkK t q))) (gB G + 291) c (nI q)) t := ⟨hT.1, fun z b hz => by
      rw [ai_na (by omega), ai_na (by omega)]
      exact hT.2 z b hz⟩
    refine C_ni (d := d + 5) hF1 hT1 h5 hb q2 ?_
    have hkk : ai (wai (wai m (gB G + 290) c (nI (tkK t q))) (gB G + 291) c (nI q)) (gB G + 290) c = nI (tkK t q) := (ai_na (by omega)).trans ai_eq
    have hF2 := Full_wfi 708 (gB G + 279) (nI (c + 1)) (Full_wai (gB G + 292) c (nI (tkV t q)) hF1)
    have hO2 : Out (TR' G) (wfi (wai (wai (wai m (gB G + 290) c (nI (tkK t q))) (gB G + 291) c (nI q)) (gB G + 292) c (nI (tkV t q))) 708 (gB G + 279) (nI (c + 1))) m0 := (((hO.wai (Or.inr (Or.inl rfl))).wai (Or.inr (Or.inr (Or.inl rfl)))).wai (Or.inr (Or.inr (Or.inr rfl)))).wfi (Or.inl rfl)
    have hfr2 : ∀ g, g ≠ 708 → fi (wfi (wai (wai (wai m (gB G + 290) c (nI (tkK t q))) (gB G + 291) c (nI q)) (gB G + 292) c (nI (tkV t q))) 708 (gB G + 279) (nI (c + 1))) g (gB G + 279) = fi m0 g (gB G + 279) := fun g hg => (fi_ne hg).trans (hfr g hg)
    have hA2 : TokA G (wfi (wai (wai (wai m (gB G + 290) c (nI (tkK t q))) (gB G + 291) c (nI q)) (gB G + 292) c (nI (tkV t q))) 708 (gB G + 279) (nI (c + 1))) (T.take (c + 1)) := by
      intro i x hx
      rw [htk] at hx
      show ai (wai (wai (wai m (gB G + 290) c (nI (tkK t q))) (gB G + 291) c (nI q)) (gB G + 292) c (nI (tkV t q))) (gB G + 290) i = _ ∧ ai (wai (wai (wai m (gB G + 290) c (nI (tkK t q))) (gB G + 291) c (nI q)) (gB G + 292) c (nI (tkV t q))) (gB G + 291) i = _ ∧ ai (wai (wai (wai m (gB G + 290) c (nI (tkK t q))) (gB G + 291) c (nI q)) (gB G + 292) c (nI (tkV t q))) (gB G + 292) i = _
      have hct : (T.take c).length = c := by rw [List.length_take]; omega
      by_cases hi : i < c
      · rw [List.getElem?_append_left (by omega)] at hx
        obtain ⟨a1, a2, a3⟩ := hA i x hx
        refine ⟨?_, ?_, ?_⟩
        · rw [ai_na (by omega), ai_na (by omega), ai_nk (by omega)]; exact a1
        · rw [ai_na (by omega), ai_nk (by omega), ai_na (by omega)]; exact a2
        · rw [ai_nk (by omega), ai_na (by omega), ai_na (by omega)]; exact a3
      · have hl := (List.getElem?_eq_some_iff.mp hx).1
        rw [List.length_append, hct] at hl
        have hl2 : i < c + 1 := hl
        have e : i = c := by omega
        subst e
        rw [List.getElem?_append_right (by omega), hct, Nat.sub_self] at hx
        cases hx
        refine ⟨?_, ?_, ?_⟩
        · rw [ai_na (by omega), ai_na (by omega), ai_eq]
        · rw [ai_na (by omega), ai_eq]
        · rw [ai_eq]
    have done : tkK t q ≤ 1 → Q none (wfi (wai (wai (wai m (gB G + 290) c (nI (tkK t q))) (gB G + 291) c (nI q)) (gB G + 292) c (nI (tkV t q))) 708 (gB G + 279) (nI (c + 1))) := fun h => by
      rw [if_pos h] at hT0
      have e1 : T.length = c + 1 := by
        rw [← hT0, List.length_append, List.length_take]
        show min c T.length + 1 = _
        omega
      refine k _ hF2 hO2 hfr2 (by rw [e1]; exact fi_eq) ?_
      rw [List.take_of_length_le (by omega)] at hA2
      exact hA2
    refine b5C_spl (p := 0) hF1 hc (by omega) hkk hk9 (fun h => zC_spl hF2 (done (by omega))) (fun _ h => zC_spl hF2 (done (by omega))) (fun h0 h1 => ?_)
    have h2 : ¬ tkK t q ≤ 1 := by omega
    have h3 := tkN_gt (tkK_end h2)
    rw [if_neg h2] at hT0
    refine ih (tkN t q) (c + 1) _ (by omega) (tkN_le q2) (by have := tkK_end h2; omega) ?_ (by omega) hF2 hO2 hfr2 ?_ fi_eq hA2
    · rw [htk, List.append_assoc]
      exact hT0
    · exact ⟨(fi_ne (by decide)).trans hT.1, fun z b hz => by
        show ai (wai (wai (wai m (gB G + 290) c (nI (tkK t q))) (gB G + 291) c (nI q)) (gB G + 292) c (nI (tkV t q))) (gB G + 280) z = _
        rw [ai_na (by omega)]
        exact hT1.2 z b hz⟩
theorem C_spl (hF : Full G m) (hT : TxC G m t) (h5 : t.length ≤ 500) (hb : ∀ b ∈ t, b < 256) (k : ∀ m', Full G m' → Out (TR' G) m' m → (∀ f, f ≠ 708 → fi m' f (gB G + 279) = fi m f (gB G + 279)) → fi m' 708 (gB G + 279) = nI (toks t 501 0).length → TokA G m' (toks t 501 0) → Q none m') : WPM G (d + 7) (0, 0) μX7_splitText [.ref (gB G + 279)] m Q := by
  refine eC_spl hF ?_
  refine L_spl hb h5 (m0 := m) (T := toks t 501 0) k 501 0 0 _ rfl (by omega) (by omega) rfl (Nat.zero_le _) (Full_wfi _ _ _ hF) (Out.rf.wfi (Or.inl rfl)) (fun g hg => fi_ne hg) ⟨(fi_ne (by decide)).trans hT.1, hT.2⟩ fi_eq (fun i k h => by simp at h)
end CSP
