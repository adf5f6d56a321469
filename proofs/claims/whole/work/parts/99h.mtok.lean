/-! THE REFERENCE'S TOKENS -/
def pkA : Nat → List Nat → Nat
  | a, [] => a
  | a, b :: l => pkA (27 * a + (b - 96)) l
theorem pkA_inj : ∀ (l l' : List Nat) (a a' : Nat), l.length = l'.length → (∀ b ∈ l, 97 ≤ b ∧ b ≤ 122) → (∀ b ∈ l', 97 ≤ b ∧ b ≤ 122) → pkA a l = pkA a' l' → a = a' ∧ l = l'
  | [], [], _, _, _, _, _, h => ⟨h, rfl⟩
  | [], _ :: _, _, _, h, _, _, _ => by simp at h
  | _ :: _, [], _, _, h, _, _, _ => by simp at h
  | b :: l, b' :: l', a, a', h, h1, h2, e => by
    have hb := h1 b List.mem_cons_self
    have hb' := h2 b' List.mem_cons_self
    obtain ⟨q1, q2⟩ := pkA_inj l l' _ _ (by simpa using h) (fun x hx => h1 x (List.mem_cons_of_mem _ hx)) (fun x hx => h2 x (List.mem_cons_of_mem _ hx)) e
    have e1 : a = a' := by omega
    have e2 : b = b' := by omega
    rw [e1, e2, q2]
    exact ⟨rfl, rfl⟩
theorem pkA_lt : ∀ (l : List Nat) (a n : Nat), (∀ b ∈ l, 97 ≤ b ∧ b ≤ 122) → a < 27 ^ n → pkA a l < 27 ^ (n + l.length)
  | [], a, n, _, h => h
  | b :: l, a, n, hb, h => by
    have h1 := hb b List.mem_cons_self
    have := pkA_lt l (27 * a + (b - 96)) (n + 1) (fun x hx => hb x (List.mem_cons_of_mem _ hx)) (by rw [Nat.pow_succ]; omega)
    rw [List.length_cons, show n + (l.length + 1) = n + 1 + l.length by omega]
    exact this
theorem pk_step {a b : Nat} (hb : 97 ≤ b ∧ b ≤ 122) : ((27 : Int64) * lN a + Int32.toInt64 (nI b)) - (96 : Int64) = lN (27 * a + (b - 96)) := by
  rw [show (27 : Int64) = lN 27 from rfl, show (96 : Int64) = lN 96 from rfl, nI_l (by omega), lN_mul, lN_add, lN_sub (by omega)]
  exact congrArg lN (by omega)
def wiL : List Nat := [0, 0, 4, 5, 6, 7, 8, 9, 10, 3, 2, 1, 14, 15, 16, 17, 18, 11, 12, 13, 0]
def wiJ (i : Nat) : Nat := wiL.getD i 0
theorem wiJ_ok : ∀ i, i < 21 → 2 ≤ i → wiJ i < 19 ∧ leJ i = (wW (wiJ i)).length ∧ leJ i ≤ 6 ∧ (∀ j, j < leJ i → chJ i j = nI ((wW (wiJ i)).getD j 0)) ∧ WL[wiJ i]? = some (wW (wiJ i)) := by decide +kernel
def NuR (y : Int32) (v : Nat) : Prop := (v ≤ 999999 ∧ y = nI v) ∨ (v = 1000000 ∧ (999999 : Int32) < y)
def syK (k : Nat) : Nat := if 2 ≤ k ∧ k < 100 then k else 0
/-- the reference's fields stand for the token k -/
def RTk (G : Cx) (m : Mm) (k : Tk) : Prop :=
  fi m 1113 (gB G + 293) = nI k.2.1 ∧ fi m 1115 (gB G + 293) = nI (syK k.1) ∧ (fi m 1114 (gB G + 293) = 0 ↔ k.1 = 0) ∧ (fi m 1114 (gB G + 293) = 3 ↔ k.1 = 200) ∧ (k.1 = 200 → NuR (fi m 1117 (gB G + 293)) k.2.2) ∧
  (∃ l, l ≤ 500 ∧ fi m 1116 (gB G + 293) = nI l ∧ (fi m 1114 (gB G + 293) = 2 → ∃ wd : List Nat, wd.length = l ∧ fl m 1120 (gB G + 293) = lN (pkA 0 (wd.take 8)) ∧ (∀ b ∈ wd, 97 ≤ b ∧ b ≤ 122) ∧ wdK wd = k.1)) ∧ (¬ fi m 1114 (gB G + 293) = 2 → k.1 ≤ 200)
def ON (G : Cx) (a : Nat) : Prop := a = gB G + 293
theorem leM_ok : ∀ b, b < 256 → leM (nI b) = (if leP b = true then 1 else 0) ∧ diM (nI b) = (if diP b = true then 1 else 0) ∧ (syM (nI b) = 0 ↔ b ∉ syL) ∧ (nI b = 32 ↔ b = 32) ∧ (nI b = 10 ↔ b = 10) ∧ ¬ nI b = -1 := by decide +kernel
section MTOK
variable {G : Cx} {d : Nat} {m : Mm} {Q : Option Value → Mm → Prop} {t : List Nat}
theorem TxM.b (hT : TxM G m t) (hb : ∀ b ∈ t, b < 256) {p : Nat} (hp : p < t.length) : ∃ b, t[p]? = some b ∧ b < 256 ∧ ai m (gB G + 304) p = nI b :=
  ⟨t[p], List.getElem?_eq_getElem hp, hb _ (List.getElem_mem hp), hT.2 p _ (List.getElem?_eq_getElem hp)⟩
theorem M_isw {i : Nat} {k : Tk} (hF : Full G m) (h2 : 2 ≤ i) (hi : i < 21) (hk : RTk G m k) (kk : Q (some (.int (if k.1 = 201 + wiJ i then 1 else 0))) m) : WPM G (d + 6) (0, 0) μX11_isWord [.ref (gB G + 293), .ref (gK G i)] m Q := by
  obtain ⟨w1, w2, w3, w4, w5⟩ := wiJ_ok i hi h2
  obtain ⟨k1, k2, k3, k4, k5, ⟨l, hl5, hl, hw⟩, k7⟩ := hk
  have hwl := (wW_ok (wiJ i) w1).2
  have no : ¬ k.1 = 201 + wiJ i → Q (some (.int 0)) m := fun h => by rw [if_neg h] at kk; exact kk
  refine wA hF rfl hl (show i < nJS from hi) rfl (by omega) hl5 (fun h => no (fun z => ?_)) (fun h e => ?_) (fun h e => no (fun z => e ?_))
  · have := k7 h
    omega
  · obtain ⟨wd, d1, d2, d3, d4⟩ := hw h
    have hlen : wd.length = (wW (wiJ i)).length := by omega
    have ht8 : wd.take 8 = wd := List.take_of_length_le (by omega)
    rw [ht8] at d2
    have b1 := pkA_lt wd 0 0 d3 (by decide)
    have b2 := pkA_lt (wW (wiJ i)) 0 0 hwl (by decide)
    have p6 : ∀ n, n ≤ 6 → 27 ^ (0 + n) < 2 ^ 31 := by decide
    have c1 := p6 wd.length (by omega)
    have c2 := p6 (wW (wiJ i)).length (by omega)
    have loop : ∀ f j a, leJ i - j ≤ f → j ≤ leJ i → pkA a ((wW (wiJ i)).drop j) = pkA 0 (wW (wiJ i)) → WP G (d + 6) (0, 0) μX11_isWord 26 [.ref (gB G + 293), .ref (gK G i), .long (lN a), lvU, .int (nI j)] [] m Q := by
      intro f
      induction f with
      | zero =>
        intro j a h1 h2' ha
        have ej : j = (wW (wiJ i)).length := by omega
        rw [ej, List.drop_length] at ha
        have ha' : a = pkA 0 (wW (wiJ i)) := ha
        refine wB hF (show i < nJS from hi) rfl (by omega) h2' d2 (fun _ e2 => no (fun z => e2 ?_)) (fun _ e2 => ?_) (fun h => by omega)
        · rw [ha', (wdK_iff w5).mp (d4.trans z)]
        · rw [ha'] at e2
          have e3 := (lN_eq (by omega) (by omega)).mp e2
          have e4 := (pkA_inj _ _ _ _ hlen d3 hwl e3).2
          rw [if_pos (by rw [← d4, e4]; exact (wdK_iff w5).mpr rfl)] at kk
          exact kk
      | succ f ih =>
        intro j a h1 h2' ha
        by_cases hj : j < leJ i
        · have hjb : (wW (wiJ i))[j]? = some ((wW (wiJ i)).getD j 0) := by
            rw [List.getD_eq_getElem?_getD, List.getElem?_eq_getElem (by omega)]
            rfl
          have hb := hwl _ (List.mem_of_getElem? hjb)
          refine wB hF (show i < nJS from hi) rfl (by omega) h2' d2 (fun z => absurd hj z) (fun z => absurd hj z) (fun _ => ?_)
          rw [w4 j hj, pk_step hb]
          refine ih (j + 1) _ (by omega) (by omega) ?_
          rw [drop_at hjb] at ha
          exact ha
        · have ej : j = (wW (wiJ i)).length := by omega
          rw [ej, List.drop_length] at ha
          have ha' : a = pkA 0 (wW (wiJ i)) := ha
          refine wB hF (show i < nJS from hi) rfl (by omega) h2' d2 (fun _ e2 => no (fun z => e2 ?_)) (fun _ e2 => ?_) (fun h => absurd h hj)
          · rw [ha', (wdK_iff w5).mp (d4.trans z)]
          · rw [ha'] at e2
            have e3 := (lN_eq (by omega) (by omega)).mp e2
            have e4 := (pkA_inj _ _ _ _ hlen d3 hwl e3).2
            rw [if_pos (by rw [← d4, e4]; exact (wdK_iff w5).mpr rfl)] at kk
            exact kk
    exact loop (leJ i) 0 0 (by omega) (by omega) rfl
  · obtain ⟨wd, d1, d2, d3, d4⟩ := hw h
    rw [← d1, (wdK_iff w5).mp (d4.trans z), w2]
/-- blanks -/
theorem L_nb (hb : ∀ b ∈ t, b < 256) (h5 : t.length ≤ 500) (hT : TxM G m t) {q : Nat} (k : ∀ m', Full G m' → Out (ON G) m' m → (∀ g, g ≠ 1112 → fi m' g (gB G + 293) = fi m g (gB G + 293)) → fi m' 1112 (gB G + 293) = nI q → WP G (d + 6) (0, 0) μX11_nextToken 39 [.ref (gB G + 293), lvU] [] m' Q) :
    ∀ f p m1, t.length - p ≤ f → p ≤ t.length → ruE blP t p = q → Full G m1 → Out (ON G) m1 m → (∀ g, g ≠ 1112 → fi m1 g (gB G + 293) = fi m g (gB G + 293)) → fi m1 1112 (gB G + 293) = nI p → WP G (d + 6) (0, 0) μX11_nextToken 0 [.ref (gB G + 293), lvU] [] m1 Q := by
  have hTm : ∀ {m1}, Out (ON G) m1 m → (∀ g, g ≠ 1112 → fi m1 g (gB G + 293) = fi m g (gB G + 293)) → TxM G m1 t := fun hO hf => ⟨(hf 1111 (by decide)).trans hT.1, fun z b hz => (hO.ai (by unfold ON; omega) z).trans (hT.2 z b hz)⟩
  intro f
  induction f with
  | zero =>
    intro p m1 h1 h2 hq hF hO hf hp
    rw [ruE_end (by omega)] at hq
    subst hq
    exact n0 hF (hTm hO hf).1 hp h5 h2 (fun _ _ => k m1 hF hO hf hp) (fun _ h => by omega) (fun _ h => by omega) (fun h => by omega) (fun h => by omega) (fun h => by omega) (fun h => by omega)
  | succ f ih =>
    intro p m1 h1 h2 hq hF hO hf hp
    have hT1 := hTm hO hf
    have go : ∀ b, t[p]? = some b → blP b = true → WP G (d + 6) (0, 0) μX11_nextToken 0 [.ref (gB G + 293), lvU] [] (wfi m1 1112 (gB G + 293) (nI (p + 1))) Q := fun b g1 g2 => by
      have hl := (List.getElem?_eq_some_iff.mp g1).1
      rw [ruE_in g1 g2] at hq
      exact ih (p + 1) _ (by omega) (by omega) hq (Full_wfi _ _ _ hF) (hO.wfi rfl) (fun g hg => (fi_ne hg).trans (hf g hg)) fi_eq
    refine n0 hF hT1.1 hp h5 h2 (fun h _ => ?_) (fun z h => absurd h z) (fun z h => absurd h z) (fun h e => ?_) (fun h _ z => absurd h z) (fun h e1 _ e2 => ?_) (fun h e1 _ e2 => ?_)
    · rw [ruE_end (by omega)] at hq
      subst hq
      exact k m1 hF hO hf hp
    · obtain ⟨b, g1, g2, g3⟩ := hT1.b hb h
      rw [g3] at e
      exact go b g1 (blP_iff.mpr (Or.inl ((leM_ok b g2).2.2.2.1.mp e)))
    · obtain ⟨b, g1, g2, g3⟩ := hT1.b hb h
      rw [g3] at e1 e2
      have hbl : blP b = false := by
        cases hz : blP b with
        | false => rfl
        | true => rcases blP_iff.mp hz with z | z
                  · exact absurd ((leM_ok b g2).2.2.2.1.mpr z) e1
                  · exact absurd ((leM_ok b g2).2.2.2.2.1.mpr z) e2
      rw [ruE_out g1 hbl] at hq
      subst hq
      exact k m1 hF hO hf hp
    · obtain ⟨b, g1, g2, g3⟩ := hT1.b hb h
      rw [g3] at e2
      exact go b g1 (blP_iff.mpr (Or.inr ((leM_ok b g2).2.2.2.2.1.mp e2)))
/-- letters -/
theorem L_nw (hb : ∀ b ∈ t, b < 256) (h5 : t.length ≤ 500) (hT : TxM G m t) {q L W : Nat} (k : ∀ m', Full G m' → Out (ON G) m' m → (∀ g, g ≠ 1112 → g ≠ 1116 → fi m' g (gB G + 293) = fi m g (gB G + 293)) → fi m' 1112 (gB G + 293) = nI q → fi m' 1116 (gB G + 293) = nI L → fl m' 1120 (gB G + 293) = lN W → Q none m') :
    ∀ f p l a m1, t.length - p ≤ f → p ≤ t.length → l ≤ p → ruE leP t p = q → l + ((t.drop p).takeWhile leP).length = L → pkA a (((t.drop p).takeWhile leP).take (8 - l)) = W → Full G m1 → Out (ON G) m1 m → (∀ g, g ≠ 1112 → g ≠ 1116 → fi m1 g (gB G + 293) = fi m g (gB G + 293)) → fi m1 1112 (gB G + 293) = nI p → fi m1 1116 (gB G + 293) = nI l → fl m1 1120 (gB G + 293) = lN a → WP G (d + 6) (0, 0) μX11_nextToken 101 [.ref (gB G + 293), lvU] [] m1 Q := by
  have hTm : ∀ {m1}, Out (ON G) m1 m → (∀ g, g ≠ 1112 → g ≠ 1116 → fi m1 g (gB G + 293) = fi m g (gB G + 293)) → TxM G m1 t := fun hO hf => ⟨(hf 1111 (by decide) (by decide)).trans hT.1, fun z b hz => (hO.ai (by unfold ON; omega) z).trans (hT.2 z b hz)⟩
  have lm1 : leM (-1) = 0 := by decide
  intro f
  induction f with
  | zero =>
    intro p l a m1 h1 h2 hlp hq hL hW hF hO hf hp hl hw
    have hpl : ¬ p < t.length := by omega
    rw [ruE_end (by omega)] at hq
    rw [List.drop_eq_nil_of_le (by omega)] at hL hW
    have e1 : l = L := hL
    have e2 : a = W := by
      have : pkA a (([] : List Nat).take (8 - l)) = a := by cases 8 - l <;> rfl
      exact this.symm.trans hW
    subst hq e1 e2
    exact n2e hF (hTm hO hf).1 hp h5 h2 hpl (fun _ => k m1 hF hO hf hp hl hw) (fun h => absurd lm1 h) (fun h => absurd lm1 h)
  | succ f ih =>
    intro p l a m1 h1 h2 hlp hq hL hW hF hO hf hp hl hw
    have hT1 := hTm hO hf
    by_cases hpl : p < t.length
    · obtain ⟨b, g1, g2, g3⟩ := hT1.b hb hpl
      obtain ⟨x1, x2, x3, x4, x5, x6⟩ := leM_ok b g2
      have hd := drop_at g1
      refine n2 hF hT1.1 hp h5 h2 hpl g3 x6 hl (by omega) hw (fun h => ?_) (fun h h8 => ?_) (fun h h8 => ?_)
      · have hn : ¬ leP b = true := fun z => by rw [x1, if_pos z] at h; exact absurd h (by decide)
        rw [hd, List.takeWhile_cons, if_neg hn] at hL hW
        rw [ruE_out g1 (by simpa using hn)] at hq
        have e1 : l = L := hL
        have e2 : a = W := by
          have : pkA a (([] : List Nat).take (8 - l)) = a := by cases 8 - l <;> rfl
          exact this.symm.trans hW
        subst hq e1 e2
        exact k m1 hF hO hf hp hl hw
      · have hn : leP b = true := Classical.not_not.mp (fun z => h (by rw [x1, if_neg z]))
        rw [hd, List.takeWhile_cons, if_pos hn] at hL hW
        rw [ruE_in g1 hn] at hq
        rw [List.length_cons] at hL
        refine ih (p + 1) (l + 1) a _ (by omega) (by omega) (by omega) hq (by omega) ?_ (Full_wfi _ _ _ (Full_wfi _ _ _ (Full_wfl _ _ _ hF))) (((hO.wfl rfl).wfi rfl).wfi rfl) (fun g ha hb' => (fi_ne ha).trans ((fi_ne hb').trans (hf g ha hb'))) fi_eq ((fi_ne (by decide)).trans fi_eq) fl_eq
        rw [← hW, show 8 - l = 0 by omega, show 8 - (l + 1) = 0 by omega]
        rfl
      · have hn : leP b = true := Classical.not_not.mp (fun z => h (by rw [x1, if_neg z]))
        rw [hd, List.takeWhile_cons, if_pos hn] at hL hW
        rw [ruE_in g1 hn] at hq
        rw [List.length_cons] at hL
        rw [pk_step (leP_rg hn)]
        refine ih (p + 1) (l + 1) _ _ (by omega) (by omega) (by omega) hq (by omega) ?_ (Full_wfi _ _ _ (Full_wfi _ _ _ (Full_wfl _ _ _ hF))) (((hO.wfl rfl).wfi rfl).wfi rfl) (fun g ha hb' => (fi_ne ha).trans ((fi_ne hb').trans (hf g ha hb'))) fi_eq ((fi_ne (by decide)).trans fi_eq) fl_eq
        rw [← hW, show 8 - l = (8 - (l + 1)) + 1 by omega]
        rfl
    · rw [ruE_end (by omega)] at hq
      rw [List.drop_eq_nil_of_le (by omega)] at hL hW
      have e1 : l = L := hL
      have e2 : a = W := by
        have : pkA a (([] : List Nat).take (8 - l)) = a := by cases 8 - l <;> rfl
        exact this.symm.trans hW
      subst hq e1 e2
      exact n2e hF hT1.1 hp h5 h2 hpl (fun _ => k m1 hF hO hf hp hl hw) (fun h => absurd lm1 h) (fun h => absurd lm1 h)
theorem NuR.step1 {y : Int32} {a b : Nat} (h : NuR y a) (hb : 48 ≤ b ∧ b ≤ 57) (hy : ¬ (999999 : Int32) < y) : NuR ((((10 : Int32) * y) + nI b) - (48 : Int32)) (min (a * 10 + (b - 48)) 1000000) := by
  rcases h with ⟨h1, h2⟩ | ⟨h1, h2⟩
  · have e1 : (((10 : Int32) * y) + nI b) - (48 : Int32) = nI (a * 10 + (b - 48)) := by
      rw [h2, show (10 : Int32) * nI a = nI (10 * a) from nmul (a := 10) (b := a) rfl, nI_add]
      exact nsub (a := 10 * a + b) (b := 48) (c := a * 10 + (b - 48)) (by omega)
    rw [e1]
    by_cases h : a * 10 + (b - 48) ≤ 999999
    · rw [Nat.min_eq_left (by omega)]
      exact Or.inl ⟨h, rfl⟩
    · rw [Nat.min_eq_right (by omega)]
      exact Or.inr ⟨rfl, nI_lt (a := 999999) (by omega) (by omega)⟩
  · exact absurd h2 hy
theorem NuR.step2 {y : Int32} {a b : Nat} (h : NuR y a) (hy : (999999 : Int32) < y) : NuR y (min (a * 10 + (b - 48)) 1000000) := by
  rcases h with ⟨h1, h2⟩ | ⟨h1, h2⟩
  · rw [h2] at hy
    exact absurd hy (nI_nlt (a := 999999) (b := a) h1 (by omega))
  · rw [h1, Nat.min_eq_right (by omega)]
    exact Or.inr ⟨rfl, h2⟩
/-- digits -/
theorem L_nd (hb : ∀ b ∈ t, b < 256) (h5 : t.length ≤ 500) (hT : TxM G m t) {q V : Nat} (k : ∀ m', Full G m' → Out (ON G) m' m → (∀ g, g ≠ 1112 → g ≠ 1117 → fi m' g (gB G + 293) = fi m g (gB G + 293)) → fi m' 1112 (gB G + 293) = nI q → NuR (fi m' 1117 (gB G + 293)) V → Q none m') :
    ∀ f p a m1, t.length - p ≤ f → p ≤ t.length → ruE diP t p = q → nuA a (t.drop p) = V → Full G m1 → Out (ON G) m1 m → (∀ g, g ≠ 1112 → g ≠ 1117 → fi m1 g (gB G + 293) = fi m g (gB G + 293)) → fi m1 1112 (gB G + 293) = nI p → NuR (fi m1 1117 (gB G + 293)) a → WP G (d + 6) (0, 0) μX11_nextToken 192 [.ref (gB G + 293), lvU] [] m1 Q := by
  have hTm : ∀ {m1}, Out (ON G) m1 m → (∀ g, g ≠ 1112 → g ≠ 1117 → fi m1 g (gB G + 293) = fi m g (gB G + 293)) → TxM G m1 t := fun hO hf => ⟨(hf 1111 (by decide) (by decide)).trans hT.1, fun z b hz => (hO.ai (by unfold ON; omega) z).trans (hT.2 z b hz)⟩
  have lm1 : diM (-1) = 0 := by decide
  have hend : ∀ p a m1, ¬ p < t.length → p ≤ t.length → ruE diP t p = q → nuA a (t.drop p) = V → Full G m1 → Out (ON G) m1 m → (∀ g, g ≠ 1112 → g ≠ 1117 → fi m1 g (gB G + 293) = fi m g (gB G + 293)) → fi m1 1112 (gB G + 293) = nI p → NuR (fi m1 1117 (gB G + 293)) a → WP G (d + 6) (0, 0) μX11_nextToken 192 [.ref (gB G + 293), lvU] [] m1 Q := by
    intro p a m1 hpl h2 hq hV hF hO hf hp hn
    rw [ruE_end (by omega)] at hq
    rw [List.drop_eq_nil_of_le (by omega)] at hV
    have e2 : a = V := hV
    subst hq e2
    exact n3e hF (hTm hO hf).1 hp h5 h2 hpl (fun _ => k m1 hF hO hf hp hn) (fun h => absurd lm1 h) (fun h => absurd lm1 h)
  intro f
  induction f with
  | zero =>
    intro p a m1 h1 h2
    exact hend p a m1 (by omega) h2
  | succ f ih =>
    intro p a m1 h1 h2 hq hV hF hO hf hp hn
    by_cases hpl : p < t.length
    · have hT1 := hTm hO hf
      obtain ⟨b, g1, g2, g3⟩ := hT1.b hb hpl
      obtain ⟨x1, x2, x3, x4, x5, x6⟩ := leM_ok b g2
      have hd := drop_at g1
      have stp : ¬ diM (nI b) = 0 → diP b = true := fun h => Classical.not_not.mp (fun z => h (by rw [x2, if_neg z]))
      refine n3 hF hT1.1 hp h5 h2 hpl g3 x6 rfl (fun h => ?_) (fun h h9 => ?_) (fun h h9 => ?_)
      · have hz : ¬ diP b = true := fun z => by rw [x2, if_pos z] at h; exact absurd h (by decide)
        have hz' : ruE diP t p = p := ruE_out g1 (by simpa using hz)
        rw [nuA_stop hz'] at hV
        rw [hz'] at hq
        subst hq hV
        exact k m1 hF hO hf hp hn
      · have hz := stp h
        rw [hd] at hV
        unfold nuA at hV
        rw [if_pos hz] at hV
        rw [ruE_in g1 hz] at hq
        refine ih (p + 1) _ _ (by omega) (by omega) hq hV (Full_wfi _ _ _ (Full_wfi _ _ _ hF)) ((hO.wfi rfl).wfi rfl) (fun g ha hb' => (fi_ne ha).trans ((fi_ne hb').trans (hf g ha hb'))) fi_eq ?_
        rw [show fi (wfi (wfi m1 1117 (gB G + 293) ((((10 : Int32) * (fi m1 1117 (gB G + 293))) + nI b) - (48 : Int32))) 1112 (gB G + 293) (nI (p + 1))) 1117 (gB G + 293) = (((10 : Int32) * (fi m1 1117 (gB G + 293))) + nI b) - (48 : Int32) from (fi_ne (by decide)).trans fi_eq]
        exact hn.step1 (diP_rg hz) h9
      · have hz := stp h
        rw [hd] at hV
        unfold nuA at hV
        rw [if_pos hz] at hV
        rw [ruE_in g1 hz] at hq
        refine ih (p + 1) _ _ (by omega) (by omega) hq hV (Full_wfi _ _ _ (Full_wfi _ _ _ hF)) ((hO.wfi rfl).wfi rfl) (fun g ha hb' => (fi_ne ha).trans ((fi_ne hb').trans (hf g ha hb'))) fi_eq ?_
        rw [show fi (wfi (wfi m1 1117 (gB G + 293) (fi m1 1117 (gB G + 293))) 1112 (gB G + 293) (nI (p + 1))) 1117 (gB G + 293) = fi m1 1117 (gB G + 293) from (fi_ne (by decide)).trans fi_eq]
        exact hn.step2 h9
    · exact hend p a m1 hpl h2 hq hV hF hO hf hp hn
end MTOK
