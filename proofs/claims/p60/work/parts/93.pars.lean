/-! RULES: the text's grammar over tokens -/
abbrev Er : Type := Nat × Nat
def hdK : List Tk → Nat
  | [] => 0
  | k :: _ => k.1
def hdS : List Tk → Nat
  | [] => 0
  | k :: _ => k.2.1
def hdV : List Tk → Nat
  | [] => 0
  | k :: _ => k.2.2
def cmK (k : Nat) : Prop := k = 60 ∨ k = 61 ∨ k = 62
def pBd {α β : Type} (x : Except Er α) (f : α → Except Er β) : Except Er β := match x with
  | .error e => .error e
  | .ok a => f a
theorem pBd_ok {α β : Type} {x : Except Er α} {f : α → Except Er β} {r : β} (h : pBd x f = .ok r) : ∃ a, x = .ok a ∧ f a = .ok r := by
  cases x with
  | error e => cases h
  | ok a => exact ⟨a, rfl, h⟩
def pCmp2 (nn nl nh : Nat) (ng : Bool) (k : Nat) (a : List Cd) (r : List Tk × List Cd) : Except Er (List Tk × List Cd) := .ok (r.1, a ++ (r.2 ++ ((k, 0) :: ngC ng)))
def pCmp1 (nn nl nh : Nat) (ng : Bool) (r : List Tk × List Cd) : Except Er (List Tk × List Cd) :=
  if hdK r.1 = 60 ∨ hdK r.1 = 61 ∨ hdK r.1 = 62 then pBd (run nn nl nh r.1.tail 0 [] []) (pCmp2 nn nl nh ng (hdK r.1) r.2) else .error (1, hdS r.1)
def pCmp (nn nl nh : Nat) (ts : List Tk) : Except Er (List Tk × List Cd) :=
  pBd (run nn nl nh (if hdK ts = 204 then ts.tail else ts) 0 [] []) (pCmp1 nn nl nh (decide (hdK ts = 204)))
def pBoth (nn nl nh : Nat) : Nat → List Tk → List (List Cd) → Except Er (List Tk × List (List Cd))
  | 0, _, _ => .error (0, 0)
  | f + 1, ts, g => pBd (pCmp nn nl nh ts) (fun r => if hdK r.1 = 203 then pBoth nn nl nh f r.1.tail (g ++ [r.2]) else .ok (r.1, g ++ [r.2]))
def pTst (nn nl nh : Nat) : Nat → List Tk → List (List (List Cd)) → Except Er (List Tk × List (List (List Cd)))
  | 0, _, _ => .error (0, 0)
  | f + 1, ts, gs => pBd (pBoth nn nl nh 502 ts []) (fun r => if hdK r.1 = 202 then pTst nn nl nh f r.1.tail (gs ++ [r.2]) else .ok (r.1, gs ++ [r.2]))
def pWhen (nn nl nh : Nat) (ts : List Tk) : Except Er (List Tk × List (List (List Cd))) :=
  if hdK ts = 201 then pBd (pTst nn nl nh 502 ts.tail []) (fun r => if hdK r.1 = 58 then .ok (r.1.tail, r.2) else .error (1, hdS r.1)) else .ok (ts, [])
def acN (k : Nat) : Nat := if k = 217 then 0 else if k = 215 then 1 else if k = 216 then 2 else if k = 218 then 3 else 4
def ctF (nn nl nh k : Nat) : Nat := if k = 212 then nh else if k = 213 then nl else nn
def pAct2 (nn nl nh : Nat) (k v : Nat) (ts : List Tk) : Except Er (List Tk × (Nat × Nat × List Cd)) :=
  if k = 212 then (if 215 ≤ hdK ts ∧ hdK ts ≤ 217 then .ok (ts.tail, (acN (hdK ts), v, [])) else .error (1, hdS ts))
  else if k = 213 then (if 218 ≤ hdK ts ∧ hdK ts ≤ 219 then .ok (ts.tail, (acN (hdK ts), v, [])) else .error (1, hdS ts))
  else if hdK ts = 61 then pBd (run nn nl nh ts.tail 0 [] []) (fun r => .ok (r.1, (5, v, r.2)))
  else .error (1, hdS ts)
def pAct (nn nl nh : Nat) (ts : List Tk) : Except Er (List Tk × (Nat × Nat × List Cd)) :=
  if 212 ≤ hdK ts ∧ hdK ts ≤ 214 then
    (if hdK ts.tail = 200 then (if hdV ts.tail < ctF nn nl nh (hdK ts) then pAct2 nn nl nh (hdK ts) (hdV ts.tail) ts.tail.tail else .error (2, hdS ts.tail)) else .error (1, hdS ts.tail))
  else .error (1, hdS ts)
def pRul2 (gs : List (List (List Cd))) (r : List Tk × (Nat × Nat × List Cd)) : Except Er (List Tk × Ru) := if hdK r.1 = 59 then .ok (r.1.tail, (gs, r.2)) else .error (1, hdS r.1)
def pRul (nn nl nh : Nat) (ts : List Tk) : Except Er (List Tk × Ru) := pBd (pWhen nn nl nh ts) (fun r => pBd (pAct nn nl nh r.1) (pRul2 r.2))
def bgK (k : Nat) : Prop := k = 201 ∨ k = 212 ∨ k = 213 ∨ k = 214
def pRls (nn nl nh : Nat) : Nat → List Tk → List Ru → Except Er (List Ru)
  | 0, _, _ => .error (0, 0)
  | f + 1, ts, L => if hdK ts = 0 then .ok L else if 12 ≤ L.length then .error (if hdK ts = 201 ∨ hdK ts = 212 ∨ hdK ts = 213 ∨ hdK ts = 214 then 3 else 1, hdS ts) else pBd (pRul nn nl nh ts) (fun r => pRls nn nl nh f r.1 (L ++ [r.2]))
/-- good tokens: they end well, and values are capped; what is left of them is shorter -/
def Tks (n : Nat) (ts : List Tk) : Prop := Wf ts ∧ (∀ k ∈ ts, k.2.2 < 1000001) ∧ ts.length ≤ n
theorem Tks.tl {n : Nat} {ts : List Tk} (h : Tks n ts) (hk : 1 < hdK ts) : Tks (n - 1) ts.tail ∧ ts.tail.length + 1 = ts.length := by
  obtain ⟨h1, h2, h3⟩ := h
  cases ts with
  | nil => exact absurd h1 id
  | cons k ts => exact ⟨⟨h1.tl hk, fun x hx => h2 x (List.mem_cons_of_mem _ hx), by rw [List.length_cons] at h3; show ts.length ≤ _; omega⟩, rfl⟩
theorem Tks.mono {n q : Nat} {ts : List Tk} (h : Tks n ts) (hq : n ≤ q) : Tks q ts := ⟨h.1, h.2.1, Nat.le_trans h.2.2 hq⟩
theorem Tks.pos {n : Nat} {ts : List Tk} (h : Tks n ts) : 0 < n := by
  obtain ⟨k, r, rfl⟩ := h.1.cs
  have := h.2.2
  rw [List.length_cons] at this
  omega
section PARS
variable {nn nl nh : Nat}
/-- a suffix of good tokens -/
theorem run_sfx : ∀ (ts : List Tk) (n md : Nat) (w : List Nat) (out : List Cd) (r : List Tk × List Cd), Tks n ts → run nn nl nh ts md w out = .ok r → Tks n r.1
  | [], n, _, _, _, _, h, _ => absurd h.1 id
  | k :: ts, n, md, w, out, r, h, e => by
    have go : ∀ md' w' out', 1 < k.1 → run nn nl nh ts md' w' out' = .ok r → Tks n r.1 := fun md' w' out' hk e' => by
      have := run_sfx ts (n - 1) md' w' out' r (h.tl hk).1 e'
      exact this.mono (by omega)
    rw [run] at e
    split at e
    · split at e
      · split at e
        · exact go _ _ _ (by omega) e
        · cases e
      · split at e
        · split at e
          · exact go _ _ _ (by omega) e
          · cases e
        · split at e
          · exact go _ _ _ (by omega) e
          · split at e
            · exact go _ _ _ (by omega) e
            · cases e
    · split at e
      · split at e
        · exact go _ _ _ (by omega) e
        · split at e
          · exact go _ _ _ (by omega) e
          · split at e
            · cases e
              exact h
            · cases e
      · split at e
        · split at e
          · exact go _ _ _ (by omega) e
          · cases e
        · cases e
theorem pCmp_ok {n : Nat} {ts : List Tk} {r : List Tk × List Cd} (h : Tks n ts) (e : pCmp nn nl nh ts = .ok r) : Tks n r.1 ∧ CmOK nn nl nh r.2 := by
  unfold pCmp at e
  obtain ⟨⟨ts1, a⟩, e1, e2⟩ := pBd_ok e
  have h1 : Tks n (if hdK ts = 204 then ts.tail else ts) := by
    split
    · exact (h.tl (by omega)).1.mono (by omega)
    · exact h
  have h2 := run_sfx _ _ _ _ _ _ h1 e1
  have h3 := run_sm h1.1 h1.2.1 e1
  unfold pCmp1 at e2
  split at e2
  · rename_i hk
    obtain ⟨⟨ts2, b⟩, e3, e4⟩ := pBd_ok e2
    have h4 := (h2.tl (by dsimp only at hk ⊢; omega)).1
    have h5 := run_sfx _ _ _ _ _ _ h4 e3
    have h6 := run_sm h4.1 h4.2.1 e3
    cases e4
    exact ⟨h5.mono (by omega), a, b, _, _, rfl, h3, h6, hk⟩
  · cases e2
theorem pBoth_ok : ∀ (f n : Nat) (ts : List Tk) (g : List (List Cd)) (r : List Tk × List (List Cd)), Tks n ts → (∀ s ∈ g, CmOK nn nl nh s) → pBoth nn nl nh f ts g = .ok r → Tks n r.1 ∧ r.2 ≠ [] ∧ ∀ s ∈ r.2, CmOK nn nl nh s
  | 0, _, _, _, _, _, _, e => by cases e
  | f + 1, n, ts, g, r, h, hg, e => by
    unfold pBoth at e
    obtain ⟨⟨ts1, s⟩, e1, e2⟩ := pBd_ok e
    obtain ⟨h1, h2⟩ := pCmp_ok h e1
    have h3 : ∀ x ∈ g ++ [s], CmOK nn nl nh x := fun x hx => (List.mem_append.mp hx).elim (hg x) (fun hx => by rw [List.mem_singleton.mp hx]; exact h2)
    dsimp only at e2
    split at e2
    · rename_i hk
      obtain ⟨h4, h5⟩ := pBoth_ok f (n - 1) _ _ r (h1.tl (by dsimp only; omega)).1 h3 e2
      exact ⟨h4.mono (by omega), h5⟩
    · cases e2
      exact ⟨h1, by simp, h3⟩
theorem pTst_ok : ∀ (f n : Nat) (ts : List Tk) (gs : List (List (List Cd))) (r : List Tk × List (List (List Cd))), Tks n ts → (∀ g ∈ gs, g ≠ [] ∧ ∀ s ∈ g, CmOK nn nl nh s) → pTst nn nl nh f ts gs = .ok r → Tks n r.1 ∧ ∀ g ∈ r.2, g ≠ [] ∧ ∀ s ∈ g, CmOK nn nl nh s
  | 0, _, _, _, _, _, _, e => by cases e
  | f + 1, n, ts, gs, r, h, hg, e => by
    unfold pTst at e
    obtain ⟨⟨ts1, g⟩, e1, e2⟩ := pBd_ok e
    obtain ⟨h1, h2⟩ := pBoth_ok _ _ _ _ _ h (fun s hs => absurd hs List.not_mem_nil) e1
    have h3 : ∀ x ∈ gs ++ [g], x ≠ [] ∧ ∀ s ∈ x, CmOK nn nl nh s := fun x hx => (List.mem_append.mp hx).elim (hg x) (fun hx => by rw [List.mem_singleton.mp hx]; exact h2)
    dsimp only at e2
    split at e2
    · rename_i hk
      obtain ⟨h4, h5⟩ := pTst_ok f (n - 1) _ _ r (h1.tl (by dsimp only; omega)).1 h3 e2
      exact ⟨h4.mono (by omega), h5⟩
    · cases e2
      exact ⟨h1, h3⟩
theorem pWhen_ok {n : Nat} {ts : List Tk} {r : List Tk × List (List (List Cd))} (h : Tks n ts) (e : pWhen nn nl nh ts = .ok r) : Tks n r.1 ∧ ∀ g ∈ r.2, g ≠ [] ∧ ∀ s ∈ g, CmOK nn nl nh s := by
  unfold pWhen at e
  split at e
  · rename_i hk
    obtain ⟨⟨ts1, gs⟩, e1, e2⟩ := pBd_ok e
    obtain ⟨h1, h2⟩ := pTst_ok _ _ _ _ _ (h.tl (by omega)).1 (fun s hs => absurd hs List.not_mem_nil) e1
    dsimp only at e2
    split at e2
    · rename_i hk
      cases e2
      exact ⟨(h1.tl (by dsimp only; omega)).1.mono (by omega), h2⟩
    · cases e2
  · cases e
    exact ⟨h, fun s hs => absurd hs List.not_mem_nil⟩
theorem pAct_ok {n : Nat} {ts : List Tk} {r : List Tk × (Nat × Nat × List Cd)} (h : Tks n ts) (e : pAct nn nl nh ts = .ok r) : Tks (n - 3) r.1 ∧ r.2.1 ≤ 5 ∧ (r.2.1 < 3 → r.2.2.1 < nh) ∧ (r.2.1 = 3 ∨ r.2.1 = 4 → r.2.2.1 < nl) ∧ (r.2.1 = 5 → r.2.2.1 < nn ∧ SmOK nn nl nh r.2.2.2) := by
  unfold pAct at e
  split at e
  · rename_i hk
    have h1 := (h.tl (by omega)).1
    split at e
    · rename_i hk1
      have h2 := (h1.tl (by omega)).1
      split at e
      · rename_i hv
        unfold ctF at hv
        unfold pAct2 at e
        split at e
        · rename_i hk2
          rw [if_pos hk2] at hv
          split at e
          · rename_i hk3
            cases e
            have ha : acN (hdK ts.tail.tail) < 3 := by unfold acN; repeat' split
                                                       all_goals omega
            exact ⟨(h2.tl (by omega)).1.mono (by omega), by dsimp only; omega, fun _ => hv, fun z => by dsimp only at z; omega, fun z => by dsimp only at z; omega⟩
          · cases e
        · rename_i hk2
          rw [if_neg hk2] at hv
          split at e
          · rename_i hk3
            rw [if_pos hk3] at hv
            split at e
            · rename_i hk4
              cases e
              have ha : acN (hdK ts.tail.tail) = 3 ∨ acN (hdK ts.tail.tail) = 4 := by unfold acN; repeat' split
                                                                                      all_goals omega
              exact ⟨(h2.tl (by omega)).1.mono (by omega), by dsimp only; omega, fun z => by dsimp only at z; omega, fun _ => hv, fun z => by dsimp only at z; omega⟩
            · cases e
          · rename_i hk3
            rw [if_neg hk3] at hv
            split at e
            · obtain ⟨⟨ts1, a⟩, e1, e2⟩ := pBd_ok e
              cases e2
              have h3 := (h2.tl (by omega)).1
              have h4 := run_sfx _ _ _ _ _ _ h3 e1
              exact ⟨h4.mono (by omega), Nat.le_refl _, fun z => absurd z (by decide : ¬ 5 < 3), fun z => absurd z (by decide : ¬ (5 = 3 ∨ 5 = 4)), fun _ => ⟨hv, run_sm h3.1 h3.2.1 e1⟩⟩
            · cases e
      · cases e
    · cases e
  · cases e
theorem pRul_ok {n : Nat} {ts : List Tk} {r : List Tk × Ru} (h : Tks n ts) (e : pRul nn nl nh ts = .ok r) : Tks (n - 4) r.1 ∧ RuC nn nl nh r.2 := by
  unfold pRul at e
  obtain ⟨⟨ts1, gs⟩, e1, e2⟩ := pBd_ok e
  obtain ⟨⟨ts2, a⟩, e3, e4⟩ := pBd_ok e2
  obtain ⟨h1, h2⟩ := pWhen_ok h e1
  obtain ⟨h3, h4⟩ := pAct_ok h1 e3
  unfold pRul2 at e4
  split at e4
  · rename_i hk
    cases e4
    exact ⟨(h3.tl (by dsimp only at hk ⊢; omega)).1.mono (by omega), h2, h4⟩
  · cases e4
theorem pRls_ok : ∀ (f n : Nat) (ts : List Tk) (L R : List Ru), Tks n ts → (∀ x ∈ L, RuC nn nl nh x) → L.length ≤ 12 → pRls nn nl nh f ts L = .ok R → (∀ x ∈ R, RuC nn nl nh x) ∧ R.length ≤ 12
  | 0, _, _, _, _, _, _, _, e => by cases e
  | f + 1, n, ts, L, R, h, hL, hl, e => by
    unfold pRls at e
    split at e
    · cases e
      exact ⟨hL, hl⟩
    · split at e
      · cases e
      · rename_i h12
        obtain ⟨⟨ts1, x⟩, e1, e2⟩ := pBd_ok e
        obtain ⟨h1, h2⟩ := pRul_ok h e1
        exact pRls_ok f _ _ _ R h1 (fun y hy => (List.mem_append.mp hy).elim (hL y) (fun hy => by rw [List.mem_singleton.mp hy]; exact h2)) (by rw [List.length_append]; show L.length + 1 ≤ 12; omega) e2
end PARS
