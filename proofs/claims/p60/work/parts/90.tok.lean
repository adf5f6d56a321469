/-! TOKENS of a text, as pure functions -/
abbrev Tk : Type := Nat × Nat × Nat
def blP (b : Nat) : Bool := b == 32 || b == 10
def leP (b : Nat) : Bool := Nat.ble 97 b && Nat.ble b 122
def diP (b : Nat) : Bool := Nat.ble 48 b && Nat.ble b 57
/-- the end of the run of P from p on -/
def ruE (P : Nat → Bool) (t : List Nat) (p : Nat) : Nat := p + ((t.drop p).takeWhile P).length
theorem drop_at {t : List Nat} {p b : Nat} (h : t[p]? = some b) : t.drop p = b :: t.drop (p + 1) := by
  obtain ⟨hl, e⟩ := List.getElem?_eq_some_iff.mp h
  rw [List.drop_eq_getElem_cons hl, e]
theorem ruE_in {P : Nat → Bool} {t : List Nat} {p b : Nat} (h : t[p]? = some b) (hb : P b = true) : ruE P t p = ruE P t (p + 1) := by
  unfold ruE
  rw [drop_at h, List.takeWhile_cons, if_pos hb, List.length_cons]
  omega
theorem ruE_out {P : Nat → Bool} {t : List Nat} {p b : Nat} (h : t[p]? = some b) (hb : P b = false) : ruE P t p = p := by
  unfold ruE
  rw [drop_at h, List.takeWhile_cons, if_neg (by rw [hb]; decide)]
  rfl
theorem ruE_end {P : Nat → Bool} {t : List Nat} {p : Nat} (h : t.length ≤ p) : ruE P t p = p := by
  unfold ruE
  rw [List.drop_eq_nil_of_le h]
  rfl
theorem ruE_ge {P : Nat → Bool} {t : List Nat} {p : Nat} : p ≤ ruE P t p := Nat.le_add_right _ _
theorem tw_len {P : Nat → Bool} : ∀ l : List Nat, (l.takeWhile P).length ≤ l.length
  | [] => Nat.le_refl _
  | b :: l => by
    rw [List.takeWhile_cons]
    split
    · rw [List.length_cons, List.length_cons]
      have := tw_len (P := P) l
      omega
    · exact Nat.zero_le _
theorem ruE_le {P : Nat → Bool} {t : List Nat} {p : Nat} (h : p ≤ t.length) : ruE P t p ≤ t.length := by
  unfold ruE
  have := tw_len (P := P) (t.drop p)
  rw [List.length_drop] at this
  omega
theorem get_end {t : List Nat} {p : Nat} (h : ¬ p < t.length) : t[p]? = none := List.getElem?_eq_none (by omega)
/-- the digits' value, capped -/
def nuA (a : Nat) : List Nat → Nat
  | [] => a
  | b :: l => if diP b = true then nuA (min (a * 10 + (b - 48)) 1000000) l else a
theorem nuA_le : ∀ (l : List Nat) (a : Nat), a ≤ 1000000 → nuA a l ≤ 1000000
  | [], _, h => h
  | b :: l, a, h => by
    unfold nuA
    split
    · exact nuA_le l _ (Nat.min_le_right _ _)
    · exact h
def WL : List (List Nat) := [[119, 104, 101, 110], [111, 114], [97, 110, 100], [110, 111, 116], [116, 101, 109, 112], [111, 112, 101, 110], [115, 116, 97, 116, 101], [115, 117, 110], [112, 104, 97, 115, 101], [99, 104, 97, 114, 103, 101], [117, 115, 101, 100], [104, 101, 97, 116, 101, 114], [108, 111, 117, 118, 114, 101], [108, 111, 97, 100], [111, 110], [111, 102, 102], [97, 117, 116, 111], [104, 111, 108, 100], [102, 114, 101, 101]]
def wdF (wd : List Nat) : Nat → List (List Nat) → Nat
  | _, [] => 1
  | k, w :: l => if wd = w then k else wdF wd (k + 1) l
def wdK (wd : List Nat) : Nat := wdF wd 201 WL
theorem wdF_rg (wd : List Nat) : ∀ (l : List (List Nat)) (k : Nat), wdF wd k l = 1 ∨ (k ≤ wdF wd k l ∧ wdF wd k l < k + l.length)
  | [], _ => Or.inl rfl
  | w :: l, k => by
    unfold wdF
    split
    · exact Or.inr ⟨Nat.le_refl _, by rw [List.length_cons]; omega⟩
    · rcases wdF_rg wd l (k + 1) with h | ⟨h1, h2⟩
      · exact Or.inl h
      · exact Or.inr ⟨by omega, by rw [List.length_cons]; omega⟩
theorem wdF_iff (wd : List Nat) : ∀ (l : List (List Nat)) (k : Nat), l.Nodup → 1 < k → ∀ i w, l[i]? = some w → (wdF wd k l = k + i ↔ wd = w)
  | [], _, _, _, i, w, h => by simp at h
  | v :: l, k, hn, hk, i, w, h => by
    rw [List.nodup_cons] at hn
    unfold wdF
    cases i with
    | zero =>
      rw [List.getElem?_cons_zero] at h
      cases h
      split
      · rename_i e
        exact ⟨fun _ => e, fun _ => rfl⟩
      · rename_i e
        refine ⟨fun q => ?_, fun q => absurd q e⟩
        rcases wdF_rg wd l (k + 1) with z | ⟨z, -⟩ <;> omega
    | succ i =>
      rw [List.getElem?_cons_succ] at h
      split
      · rename_i e
        refine ⟨fun q => by omega, fun q => ?_⟩
        exfalso
        rw [e] at q
        subst q
        exact hn.1 (List.mem_of_getElem? h)
      · rename_i e
        rw [show k + (i + 1) = k + 1 + i by omega]
        exact wdF_iff wd l (k + 1) hn.2 (by omega) i w h
theorem WL_nodup : WL.Nodup := by decide
theorem wdK_iff {wd w : List Nat} {i : Nat} (h : WL[i]? = some w) : wdK wd = 201 + i ↔ wd = w := wdF_iff wd WL 201 WL_nodup (by omega) i w h
theorem wdK_rg (wd : List Nat) : wdK wd = 1 ∨ (201 ≤ wdK wd ∧ wdK wd < 220) := wdF_rg wd WL 201
theorem WL_len : ∀ w ∈ WL, w.length ≤ 6 ∧ 0 < w.length ∧ ∀ b ∈ w, 97 ≤ b ∧ b ≤ 122 := by decide
/-- kind, next place and value of the token at p (behind the blanks) -/
def tkK (t : List Nat) (p : Nat) : Nat := match t[p]? with
  | none => 0
  | some b => if diP b = true then 200 else if leP b = true then wdK ((t.drop p).takeWhile leP) else if b ∈ syL then b else 1
def tkN (t : List Nat) (p : Nat) : Nat := match t[p]? with
  | none => p
  | some b => if diP b = true then ruE diP t p else if leP b = true then ruE leP t p else p + 1
def tkV (t : List Nat) (p : Nat) : Nat := nuA 0 (t.drop p)
def toks (t : List Nat) : Nat → Nat → List Tk
  | 0, _ => []
  | f + 1, p => (tkK t (ruE blP t p), ruE blP t p, tkV t (ruE blP t p)) :: (if tkK t (ruE blP t p) ≤ 1 then [] else toks t f (tkN t (ruE blP t p)))
/-- tokens that end in END or UNKNOWN, and there alone -/
def Wf : List Tk → Prop
  | [] => False
  | k :: ts => if k.1 ≤ 1 then ts = [] else Wf ts
theorem sy_rg {b : Nat} (h : b ∈ syL) : 40 ≤ b ∧ b ≤ 62 := by
  have : ∀ x ∈ syL, 40 ≤ x ∧ x ≤ 62 := by decide
  exact this b h
theorem tkN_gt {t : List Nat} {p : Nat} (h : p < t.length) : p < tkN t p := by
  obtain ⟨b, hb⟩ : ∃ b, t[p]? = some b := ⟨_, List.getElem?_eq_getElem h⟩
  unfold tkN
  rw [hb]
  show p < if diP b = true then ruE diP t p else if leP b = true then ruE leP t p else p + 1
  have g : ∀ P, p + 1 ≤ ruE P t (p + 1) := fun P => ruE_ge
  split
  · rename_i e
    rw [ruE_in hb e]
    exact g _
  · split
    · rename_i e
      rw [ruE_in hb e]
      exact g _
    · omega
theorem tkN_le {t : List Nat} {p : Nat} (h : p ≤ t.length) : tkN t p ≤ t.length := by
  unfold tkN
  split
  · exact h
  · rename_i b hb
    have hl : p < t.length := (List.getElem?_eq_some_iff.mp hb).1
    split
    · exact ruE_le h
    · split
      · exact ruE_le h
      · omega
theorem tkK_end {t : List Nat} {p : Nat} (h : ¬ tkK t p ≤ 1) : p < t.length := by
  by_cases z : p < t.length
  · exact z
  · exfalso
    apply h
    unfold tkK
    rw [get_end z]
    exact Nat.zero_le _
theorem toks_wf (t : List Nat) : ∀ f p, p ≤ t.length → t.length - p < f → Wf (toks t f p)
  | 0, p, _, h => by omega
  | f + 1, p, hp, h => by
    have h1 := ruE_ge (P := blP) (t := t) (p := p)
    have h2 := ruE_le (P := blP) hp
    unfold toks Wf
    split
    · rfl
    · rename_i e
      have h3 := tkK_end e
      have h4 := tkN_gt h3
      exact toks_wf t f _ (tkN_le h2) (by omega)
theorem toks_len (t : List Nat) : ∀ f p, (toks t f p).length ≤ f
  | 0, _ => Nat.le_refl _
  | f + 1, p => by
    unfold toks
    rw [List.length_cons]
    split
    · exact Nat.succ_le_succ (Nat.zero_le _)
    · exact Nat.succ_le_succ (toks_len t f _)
theorem toks_len2 (t : List Nat) : ∀ f p, p ≤ t.length → (toks t f p).length + p ≤ t.length + 1
  | 0, p, h => by
    show 0 + p ≤ _
    omega
  | f + 1, p, h => by
    have h1 := ruE_ge (P := blP) (t := t) (p := p)
    have h2 := ruE_le (P := blP) h
    unfold toks
    rw [List.length_cons]
    split
    · show 0 + 1 + p ≤ _
      omega
    · rename_i e
      have h3 := tkK_end e
      have h4 := tkN_gt h3
      have := toks_len2 t f _ (tkN_le h2)
      omega
theorem Wf.ne {ts : List Tk} (h : Wf ts) : ts ≠ [] := by
  intro e
  rw [e] at h
  exact h
theorem Wf.tl {k : Tk} {ts : List Tk} (h : Wf (k :: ts)) (hk : 1 < k.1) : Wf ts := by
  unfold Wf at h
  rw [if_neg (by omega)] at h
  exact h
theorem Wf.cs {ts : List Tk} (h : Wf ts) : ∃ k r, ts = k :: r := by
  cases ts with
  | nil => exact absurd h id
  | cons k r => exact ⟨k, r, rfl⟩
