/-! THE CLASS'S TOKENS -/
theorem sx_ok : ∀ b, b < 256 → (sx8 b = 32 ↔ b = 32) ∧ (sx8 b = 10 ↔ b = 10) ∧ leI (sx8 b) = (if leP b = true then 1 else 0) ∧ diI (sx8 b) = (if diP b = true then 1 else 0) ∧ (b < 128 → sx8 b = nI b) ∧ UInt32.toInt32 (Int32.toUInt32 (sx8 b &&& (255 : Int32)) % 65536) = nI b := by decide +kernel
theorem diP_rg {b : Nat} (h : diP b = true) : 48 ≤ b ∧ b ≤ 57 := by
  unfold diP at h
  rw [Bool.and_eq_true] at h
  exact ⟨Nat.le_of_ble_eq_true h.1, Nat.le_of_ble_eq_true h.2⟩
theorem leP_rg {b : Nat} (h : leP b = true) : 97 ≤ b ∧ b ≤ 122 := by
  unfold leP at h
  rw [Bool.and_eq_true] at h
  exact ⟨Nat.le_of_ble_eq_true h.1, Nat.le_of_ble_eq_true h.2⟩
theorem blP_iff {b : Nat} : blP b = true ↔ b = 32 ∨ b = 10 := by
  unfold blP
  rw [Bool.or_eq_true, beq_iff_eq, beq_iff_eq]
section CTK
variable {G : Cx} {d : Nat} {m : Mm} {Q : Option Value → Mm → Prop} {t : List Nat}
theorem TxC.b (hT : TxC G m t) (hb : ∀ b ∈ t, b < 256) {p : Nat} (hp : p < t.length) : ∃ b, t[p]? = some b ∧ b < 256 ∧ ai m (gB G + 280) p = sx8 b :=
  ⟨t[p], List.getElem?_eq_getElem hp, hb _ (List.getElem_mem hp), hT.2 p _ (List.getElem?_eq_getElem hp)⟩
theorem L_sb (hF : Full G m) (hT : TxC G m t) (h5 : t.length ≤ 500) (hb : ∀ b ∈ t, b < 256) : ∀ f p, t.length - p ≤ f → p ≤ t.length → Q (some (.int (nI (ruE blP t p)))) m → WP G (d + 0) (0, 0) μX7_skipBlanks 2 [.ref (gB G + 279), lvU, .int (nI p)] [] m Q := by
  intro f
  induction f with
  | zero =>
    intro p h1 h2 k
    refine bC_sb hF hT.1 h5 h2 (fun h => ?_) (fun h => by omega) (fun h => by omega) (fun h => by omega)
    rw [ruE_end (by omega)] at k
    exact k
  | succ f ih =>
    intro p h1 h2 k
    refine bC_sb hF hT.1 h5 h2 (fun h => ?_) (fun h e => ?_) (fun h e1 e2 => ?_) (fun h e1 e2 => ?_)
    · rw [ruE_end (by omega)] at k
      exact k
    · obtain ⟨b, g1, g2, g3⟩ := hT.b hb h
      rw [g3] at e
      have hbl : blP b = true := blP_iff.mpr (Or.inl ((sx_ok b g2).1.mp e))
      rw [ruE_in g1 hbl] at k
      exact ih (p + 1) (by omega) (by omega) k
    · obtain ⟨b, g1, g2, g3⟩ := hT.b hb h
      rw [g3] at e1 e2
      have hbl : blP b = false := by
        cases hz : blP b with
        | false => rfl
        | true => rcases blP_iff.mp hz with z | z
                  · exact absurd ((sx_ok b g2).1.mpr z) e1
                  · exact absurd ((sx_ok b g2).2.1.mpr z) e2
      rw [ruE_out g1 hbl] at k
      exact k
    · obtain ⟨b, g1, g2, g3⟩ := hT.b hb h
      rw [g3] at e2
      have hbl : blP b = true := blP_iff.mpr (Or.inr ((sx_ok b g2).2.1.mp e2))
      rw [ruE_in g1 hbl] at k
      exact ih (p + 1) (by omega) (by omega) k
theorem C_sb (hF : Full G m) (hT : TxC G m t) (h5 : t.length ≤ 500) (hb : ∀ b ∈ t, b < 256) {p : Nat} (hp : p ≤ t.length) (k : Q (some (.int (nI (ruE blP t p)))) m) : WPM G (d + 0) (0, 0) μX7_skipBlanks [.ref (gB G + 279), .int (nI p)] m Q :=
  eC_sb hF (L_sb hF hT h5 hb t.length p (by omega) hp k)
def run1 (b : Nat) : Nat → Bool := if diP b = true then diP else if leP b = true then leP else fun _ => false
theorem tkN_run {p b : Nat} (h : t[p]? = some b) : tkN t p = ruE (run1 b) t (p + 1) := by
  unfold tkN run1
  rw [h]
  show (if diP b = true then ruE diP t p else if leP b = true then ruE leP t p else p + 1) = _
  split
  · rename_i e
    exact ruE_in h e
  · split
    · rename_i e
      exact ruE_in h e
    · unfold ruE
      have : ∀ l : List Nat, l.takeWhile (fun _ => false) = [] := fun l => by
        cases l with
        | nil => rfl
        | cons a l => rw [List.takeWhile_cons, if_neg (by decide)]
      rw [this]
      rfl
theorem L_et (hF : Full G m) (hT : TxC G m t) (h5 : t.length ≤ 500) (hb : ∀ b ∈ t, b < 256) {p b : Nat} (hp : t[p]? = some b) : ∀ f q, t.length - q ≤ f → q ≤ t.length → Q (some (.int (nI (ruE (run1 b) t q)))) m → WP G (d + 1) (0, 0) μX7_endOfToken 14 [.ref (gB G + 279), .int (nI p), .int (nI q)] [] m Q := by
  have hpl : p < t.length := (List.getElem?_eq_some_iff.mp hp).1
  have hx := hT.2 p b hp
  have hb2 : b < 256 := hb b (List.mem_of_getElem? hp)
  have l1 : leI (sx8 b) = 0 ↔ leP b = false := by
    rw [(sx_ok b hb2).2.2.1]
    cases leP b <;> decide
  have l2 : diI (sx8 b) = 0 ↔ diP b = false := by
    rw [(sx_ok b hb2).2.2.2.1]
    cases diP b <;> decide
  have hend : ∀ q, ¬ q < t.length → ruE (run1 b) t q = q := fun q h => ruE_end (by omega)
  have hstop : ∀ q c, t[q]? = some c → run1 b c = false → ruE (run1 b) t q = q := fun q c h1 h2 => ruE_out h1 h2
  intro f
  induction f with
  | zero =>
    intro q h1 h2 k
    refine bC_et hF hT.1 h5 hpl h2 hx (fun h => ?_) (fun h => by omega) (fun h => by omega) (fun h => by omega) (fun h => by omega) (fun h => by omega) (fun h => by omega) (fun h => by omega)
    rw [hend q h] at k
    exact k
  | succ f ih =>
    intro q h1 h2 k
    have hgo : ∀ c, t[q]? = some c → run1 b c = true → WP G (d + 1) (0, 0) μX7_endOfToken 14 [.ref (gB G + 279), .int (nI p), .int (nI (q + 1))] [] m Q := fun c g1 g2 => by
      have hl := (List.getElem?_eq_some_iff.mp g1).1
      rw [ruE_in g1 g2] at k
      exact ih (q + 1) (by omega) (by omega) k
    have hst : ∀ c, t[q]? = some c → run1 b c = false → Q (some (.int (nI q))) m := fun c g1 g2 => by
      rw [hstop q c g1 g2] at k
      exact k
    have hq : q < t.length → ∃ c, t[q]? = some c ∧ ai m (gB G + 280) q = sx8 c ∧ (leI (sx8 c) = 0 ↔ leP c = false) ∧ (diI (sx8 c) = 0 ↔ diP c = false) := fun h => by
      obtain ⟨c, g1, g2, g3⟩ := hT.b hb h
      refine ⟨c, g1, g3, ?_, ?_⟩
      · rw [(sx_ok c g2).2.2.1]
        cases leP c <;> decide
      · rw [(sx_ok c g2).2.2.2.1]
        cases diP c <;> decide
    have ld : diP b = true → leP b = false := fun h => by
      have z := diP_rg h
      cases hz : leP b with
      | false => rfl
      | true => have := leP_rg hz
                omega
    have tf : ∀ z : Bool, ¬ z = false → z = true := fun z h => by cases z with
      | false => exact absurd rfl h
      | true => rfl
    refine bC_et hF hT.1 h5 hpl h2 hx (fun h => ?_) (fun h a1 a2 => ?_) (fun h a1 a2 a3 => ?_) (fun h a1 a2 a3 => ?_) (fun h a1 a2 => ?_) (fun h a1 a2 a3 => ?_) (fun h a1 a2 a3 => ?_) (fun h a1 a2 a3 => ?_)
    · rw [hend q h] at k
      exact k
    · obtain ⟨c, g1, g2, g3, g4⟩ := hq h
      refine hst c g1 ?_
      unfold run1
      rw [if_neg (by rw [l2.mp a2]; decide), if_neg (by rw [l1.mp a1]; decide)]
    · obtain ⟨c, g1, g2, g3, g4⟩ := hq h
      refine hst c g1 ?_
      unfold run1
      rw [if_pos (tf _ (fun z => a2 (l2.mpr z)))]
      rw [g2] at a3
      exact g4.mp a3
    · obtain ⟨c, g1, g2, g3, g4⟩ := hq h
      refine hgo c g1 ?_
      unfold run1
      rw [if_pos (tf _ (fun z => a2 (l2.mpr z)))]
      rw [g2] at a3
      exact tf _ (fun z => a3 (g4.mpr z))
    · obtain ⟨c, g1, g2, g3, g4⟩ := hq h
      refine hgo c g1 ?_
      unfold run1
      have e1 := tf _ (fun z => a1 (l1.mpr z))
      rw [if_neg (fun z => by rw [ld z] at e1; cases e1), if_pos e1]
      rw [g2] at a2
      exact tf _ (fun z => a2 (g3.mpr z))
    · obtain ⟨c, g1, g2, g3, g4⟩ := hq h
      refine hst c g1 ?_
      unfold run1
      have e1 := tf _ (fun z => a1 (l1.mpr z))
      rw [if_neg (fun z => by rw [ld z] at e1; cases e1), if_pos e1]
      rw [g2] at a2
      exact g3.mp a2
    · have e1 := tf _ (fun z => a1 (l1.mpr z))
      have e2 := tf _ (fun z => a3 (l2.mpr z))
      rw [ld e2] at e1
      cases e1
    · have e1 := tf _ (fun z => a1 (l1.mpr z))
      have e2 := tf _ (fun z => a3 (l2.mpr z))
      rw [ld e2] at e1
      cases e1
theorem C_et (hF : Full G m) (hT : TxC G m t) (h5 : t.length ≤ 500) (hb : ∀ b ∈ t, b < 256) {p : Nat} (hp : p ≤ t.length) (k : Q (some (.int (nI (tkN t p)))) m) : WPM G (d + 1) (0, 0) μX7_endOfToken [.ref (gB G + 279), .int (nI p)] m Q := by
  refine eC_et hF hT.1 h5 hp (fun h => ?_) (fun h => ?_)
  · obtain ⟨b, g1, g2, g3⟩ := hT.b hb h
    rw [tkN_run g1] at k
    exact L_et hF hT h5 hb g1 t.length (p + 1) (by omega) (by omega) k
  · unfold tkN at k
    rw [get_end h] at k
    exact k
theorem nuA_stop {v p : Nat} (h : ruE diP t p = p) : nuA v (t.drop p) = v := by
  unfold ruE at h
  cases hl : t.drop p with
  | nil => rfl
  | cons b l =>
    rw [hl, List.takeWhile_cons] at h
    unfold nuA
    split at h
    · rw [List.length_cons] at h
      omega
    · rename_i e
      rw [if_neg e]
theorem dig_step {v b : Nat} (hv : v ≤ 1000000) (h1 : 48 ≤ b) (h2 : b ≤ 57) : imin (((nI (10 * v)) + nI b) - (48 : Int32)) (1000000 : Int32) = nI (min (v * 10 + (b - 48)) 1000000) := by
  have e1 : ((nI (10 * v)) + nI b) - (48 : Int32) = nI (v * 10 + (b - 48)) := by
    rw [nI_add]
    exact nsub (a := 10 * v + b) (b := 48) (c := v * 10 + (b - 48)) (by omega)
  rw [e1]
  unfold imin
  by_cases h : v * 10 + (b - 48) ≤ 1000000
  · rw [Nat.min_eq_left h, if_neg]
    exact nI_nlt (a := 1000000) (b := v * 10 + (b - 48)) h (by omega)
  · rw [Nat.min_eq_right (by omega), if_pos]
    · rfl
    · exact nI_lt (a := 1000000) (by omega) (by omega)
theorem L_ni (hF : Full G m) (hT : TxC G m t) (h5 : t.length ≤ 500) (hb : ∀ b ∈ t, b < 256) {q : Nat} (hq : q ≤ t.length) : ∀ f i v, q - i ≤ f → i ≤ q → v ≤ 1000000 → ruE diP t i ≤ q → Q (some (.int (nI (nuA v (t.drop i))))) m → WP G (d + 1) (0, 0) μX7_numberIn 5 [.ref (gB G + 279), lvU, .int (nI q), .int (nI v), .int (nI i)] [] m Q := by
  have hend : ∀ i v, ¬ i < q → i ≤ q → ruE diP t i ≤ q → nuA v (t.drop i) = v := fun i v h1 h2 h3 => by
    have := ruE_ge (P := diP) (t := t) (p := i)
    exact nuA_stop (by omega)
  intro f
  induction f with
  | zero =>
    intro i v h1 h2 h3 h4 k
    refine bC_ni hF (by omega) h2 h3 rfl (fun h => ?_) (fun h => by omega) (fun h => by omega)
    rw [hend i v h h2 h4] at k
    exact k
  | succ f ih =>
    intro i v h1 h2 h3 h4 k
    refine bC_ni hF (by omega) h2 h3 rfl (fun h => ?_) (fun h a1 => ?_) (fun h a1 => ?_)
    · rw [hend i v h h2 h4] at k
      exact k
    · obtain ⟨b, g1, g2, g3⟩ := hT.b hb (show i < t.length by omega)
      rw [g3, (sx_ok b g2).2.2.2.1] at a1
      have hd : diP b = false := by
        cases hz : diP b with
        | false => rfl
        | true => rw [hz] at a1; exact absurd a1 (by decide)
      rw [nuA_stop (ruE_out g1 hd)] at k
      exact k
    · obtain ⟨b, g1, g2, g3⟩ := hT.b hb (show i < t.length by omega)
      rw [g3, (sx_ok b g2).2.2.2.1] at a1
      have hd : diP b = true := by
        cases hz : diP b with
        | true => rfl
        | false => rw [hz] at a1; exact absurd rfl a1
      obtain ⟨d1, d2⟩ := diP_rg hd
      rw [g3, (sx_ok b g2).2.2.2.2.1 (by omega), dig_step h3 d1 d2]
      rw [drop_at g1] at k
      unfold nuA at k
      rw [if_pos hd] at k
      rw [ruE_in g1 hd] at h4
      exact ih (i + 1) _ (by omega) (by omega) (Nat.min_le_right _ _) h4 k
theorem C_ni (hF : Full G m) (hT : TxC G m t) (h5 : t.length ≤ 500) (hb : ∀ b ∈ t, b < 256) {p : Nat} (hp : p ≤ t.length) (k : Q (some (.int (nI (tkV t p)))) m) : WPM G (d + 1) (0, 0) μX7_numberIn [.ref (gB G + 279), .int (nI p), .int (nI (tkN t p))] m Q := by
  have h1 : p ≤ tkN t p := by
    by_cases h : p < t.length
    · exact Nat.le_of_lt (tkN_gt h)
    · unfold tkN
      rw [get_end h]
      exact Nat.le_refl _
  have h2 : ruE diP t p ≤ tkN t p := by
    by_cases h : p < t.length
    · obtain ⟨b, g1, -, -⟩ := hT.b hb h
      cases hz : diP b with
      | true =>
        unfold tkN
        rw [g1]
        show _ ≤ if diP b = true then _ else _
        rw [if_pos hz]
        exact Nat.le_refl _
      | false =>
        rw [ruE_out g1 hz]
        exact h1
    · rw [ruE_end (by omega)]
      exact h1
  exact eC_ni hF (L_ni hF hT h5 hb (tkN_le hp) (tkN t p) p 0 (by omega) h1 (by omega) h2 k)
end CTK
