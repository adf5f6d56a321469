/-! WHAT THE MACHINE GIVES IS GOOD CODE -/
def bnW : List Nat → Nat
  | [] => 0
  | k :: w => (if k = 220 ∨ k = 40 then 0 else 1) + bnW w
def tpR : List Nat → Nat
  | [] => 0
  | k :: _ => rkW k
def WOk : List Nat → Prop
  | [] => True
  | k :: w => (k = 220 ∨ k = 40 ∨ (binK k ∧ tpR w < rkW k ∧ w.head? ≠ some 220)) ∧ WOk w
theorem bnW_le : ∀ {w : List Nat}, WOk w → bnW w ≤ 2 * dpW w + tpR w
  | [], _ => Nat.le_refl _
  | k :: w, ⟨h1, h2⟩ => by
    have ih := bnW_le h2
    have h3 : tpR w ≤ 2 := by
      cases w with
      | nil => exact Nat.zero_le _
      | cons x v => exact rk_le2 x
    show (if k = 220 ∨ k = 40 then 0 else 1) + bnW w ≤ 2 * ((if k = 220 ∨ k = 40 then 1 else 0) + dpW w) + rkW k
    rcases h1 with h1 | h1 | ⟨h1, h4, -⟩
    · rw [if_pos (Or.inl h1), if_pos (Or.inl h1)]; omega
    · rw [if_pos (Or.inr h1), if_pos (Or.inr h1)]; omega
    · unfold binK at h1
      rw [if_neg (by omega), if_neg (by omega)]; omega
theorem bnW_43 {w : List Nat} (h : WOk w) (hd : dpW w ≤ 20) : bnW w ≤ 42 := by
  have h1 := bnW_le h
  have h3 : tpR w ≤ 2 := by
    cases w with
    | nil => exact Nat.zero_le _
    | cons x v => exact rk_le2 x
  omega
theorem bnW_bin {op : Nat} {w : List Nat} (h : binK op) : bnW (op :: w) = bnW w + 1 := by
  unfold binK at h
  show (if op = 220 ∨ op = 40 then 0 else 1) + bnW w = _
  rw [if_neg (by omega), Nat.add_comm]
theorem bnW_n {op : Nat} {w : List Nat} (h : op = 220 ∨ op = 40) : bnW (op :: w) = bnW w := by
  show (if op = 220 ∨ op = 40 then 0 else 1) + bnW w = _
  rw [if_pos h, Nat.zero_add]
theorem rk_bin {k : Nat} (h : 1 ≤ rkW k) : binK k := by
  unfold rkW at h
  unfold binK
  by_cases h1 : k = 43 ∨ k = 45
  · omega
  · rw [if_neg h1] at h
    by_cases h2 : k = 42 ∨ k = 47
    · omega
    · rw [if_neg h2] at h
      omega
def okAll (nn nl nh : Nat) (out : List Cd) : Prop := ∀ c ∈ out, ArC c ∧ CdOK nn nl nh c
theorem okAll.app {nn nl nh : Nat} {a b : List Cd} (h1 : okAll nn nl nh a) (h2 : okAll nn nl nh b) : okAll nn nl nh (a ++ b) := fun c hc => (List.mem_append.mp hc).elim (h1 c) (h2 c)
theorem okAll.one {nn nl nh : Nat} {c : Cd} (h1 : ArC c) (h2 : CdOK nn nl nh c) : okAll nn nl nh [c] := fun x hx => by
  rw [List.mem_singleton] at hx
  rw [hx]
  exact ⟨h1, h2⟩
theorem okBin {nn nl nh k : Nat} (h : binK k) : okAll nn nl nh [(k, 0)] := by
  refine okAll.one ?_ (Or.inr (Or.inr (Or.inr (Or.inr (Or.inr (Or.inr (Or.inr ?_)))))))
  · exact Or.inr (Or.inr h)
  · unfold binK at h
    unfold isBin
    show k = 43 ∨ _
    omega
theorem okNeg {nn nl nh : Nat} : okAll nn nl nh [(220, 0)] := okAll.one (Or.inr (Or.inl rfl)) (Or.inr (Or.inr (Or.inr (Or.inr (Or.inr (Or.inl rfl))))))
theorem OkC_bin {k h : Nat} (hb : binK k) (hh : h < 59) : OkC 60 [(k, 0)] (h + 1 + 1) (h + 1) := by
  have e1 : nedC (k, 0) = 2 := by rcases hb with rfl | rfl | rfl | rfl <;> rfl
  have e2 : dpC (k, 0) (h + 1 + 1) = h + 1 := by rcases hb with rfl | rfl | rfl | rfl <;> rfl
  exact ⟨by rw [e1]; omega, by rw [e2]; omega, e2⟩
theorem OkC_neg {h : Nat} (hh : h < 59) : OkC 60 [(220, 0)] (h + 1) (h + 1) := ⟨Nat.succ_le_succ (Nat.zero_le _), show h + 1 < 60 by omega, rfl⟩
theorem OkC_val {c : Cd} {h : Nat} (hc : isVal c.1) (hh : h < 59) : OkC 60 [c] h (h + 1) := by
  have e1 : nedC c = 0 := by unfold nedC; unfold isVal at hc; rw [if_neg (by omega), if_neg (by omega)]
  have e2 : dpC c h = h + 1 := by unfold dpC; unfold isVal at hc; rw [if_neg (by omega), if_neg (by omega)]
  exact ⟨by rw [e1]; omega, by rw [e2]; omega, e2⟩
/-- what is so between two steps: md 0 (b = 0) or 1 (b = 1) -/
def SI (nn nl nh : Nat) (b : Nat) (w : List Nat) (out : List Cd) : Prop := WOk w ∧ dpW w ≤ 20 ∧ OkC 60 out 0 (bnW w + b) ∧ okAll nn nl nh out
section SI
variable {nn nl nh : Nat} {w : List Nat} {out : List Cd}
theorem SI.pp (r : Nat) (hr : 1 ≤ r) : ∀ {w : List Nat} {out : List Cd}, SI nn nl nh 1 w out → SI nn nl nh 1 (ppW r w) (out ++ ppO r w)
  | [], out, h => by
    show SI nn nl nh 1 [] (out ++ [])
    rw [List.append_nil]
    exact h
  | k :: w, out, h => by
    show SI nn nl nh 1 (if r ≤ rkW k then ppW r w else k :: w) (out ++ (if r ≤ rkW k then (k, 0) :: ppO r w else []))
    by_cases hk : r ≤ rkW k
    · rw [if_pos hk, if_pos hk, show (k, 0) :: ppO r w = [(k, 0)] ++ ppO r w from rfl, ← List.append_assoc]
      obtain ⟨h1, h2, h3, h4⟩ := h
      have hb := rk_bin (k := k) (by omega)
      rw [dpW_bin hb] at h2
      have h5 := bnW_43 h1.2 h2
      rw [bnW_bin hb] at h3
      exact SI.pp r hr ⟨h1.2, h2, OkC_app h3 (OkC_bin hb (by omega)), h4.app (okBin hb)⟩
    · rw [if_neg hk, if_neg hk, List.append_nil]
      exact h
theorem SI.ef : ∀ {w : List Nat} {out : List Cd}, SI nn nl nh 1 w out → SI nn nl nh 1 (efW w) (out ++ efO w) ∧ (efW w).head? ≠ some 220
  | [], out, h => by
    show SI nn nl nh 1 [] (out ++ []) ∧ _
    rw [List.append_nil]
    exact ⟨h, fun z => by cases z⟩
  | k :: w, out, h => by
    show SI nn nl nh 1 (if k = 220 then efW w else k :: w) (out ++ (if k = 220 then (220, 0) :: efO w else [])) ∧ (if k = 220 then efW w else k :: w).head? ≠ some 220
    by_cases hk : k = 220
    · subst hk
      rw [if_pos rfl, if_pos rfl, show (220, 0) :: efO w = [(220, 0)] ++ efO w from rfl, ← List.append_assoc]
      obtain ⟨h1, h2, h3, h4⟩ := h
      rw [dpW_neg] at h2
      have h5 := bnW_43 h1.2 (by omega)
      rw [bnW_n (Or.inl rfl)] at h3
      exact SI.ef ⟨h1.2, by omega, OkC_app h3 (OkC_neg (by omega)), h4.app okNeg⟩
    · rw [if_neg hk, if_neg hk, List.append_nil]
      exact ⟨h, fun z => hk (Option.some.inj z)⟩
theorem SI.leaf {c : Cd} (h : SI nn nl nh 0 w out) (hc : isVal c.1) (hk : CdOK nn nl nh c) : SI nn nl nh 1 w (out ++ [c]) := by
  obtain ⟨h1, h2, h3, h4⟩ := h
  have h5 := bnW_43 h1 h2
  exact ⟨h1, h2, OkC_app h3 (OkC_val hc (by omega)), h4.app (okAll.one (Or.inl hc) hk)⟩
theorem tp_pp (r : Nat) (hr : 1 ≤ r) : ∀ {w : List Nat}, WOk w → w.head? ≠ some 220 → tpR (ppW r w) < r ∧ (ppW r w).head? ≠ some 220
  | [], _, _ => ⟨show 0 < r by omega, fun z => by cases z⟩
  | k :: w, ⟨h1, h2⟩, h => by
    show tpR (if r ≤ rkW k then ppW r w else k :: w) < r ∧ (if r ≤ rkW k then ppW r w else k :: w).head? ≠ some 220
    by_cases hk : r ≤ rkW k
    · rw [if_pos hk]
      have hb := rk_bin (k := k) (by omega)
      unfold binK at hb
      exact tp_pp r hr h2 (h1.elim (fun z => by omega) (fun z => z.elim (fun z => by omega) (fun z => z.2.2)))
    · rw [if_neg hk]
      exact ⟨show rkW k < r by omega, h⟩
theorem SI.push {k : Nat} (hb : binK k) (h : SI nn nl nh 1 w out) (h0 : w.head? ≠ some 220) : SI nn nl nh 0 (k :: ppW (rkW k) w) (out ++ ppO (rkW k) w) := by
  have hr : 1 ≤ rkW k := by unfold binK at hb; unfold rkW; split; · exact Nat.le_refl _
                            · rw [if_pos (by omega)]; decide
  obtain ⟨q1, q2⟩ := tp_pp (rkW k) hr h.1 h0
  obtain ⟨h1, h2, h3, h4⟩ := h.pp (rkW k) hr
  exact ⟨⟨Or.inr (Or.inr ⟨hb, q1, q2⟩), h1⟩, by rw [dpW_bin hb]; exact h2, by rw [bnW_bin hb]; exact h3, h4⟩
theorem SI.stop {k : Nat} (hb : k = 220 ∨ k = 40) (h : SI nn nl nh 0 w out) (hd : dpW w < 20) : SI nn nl nh 0 (k :: w) out := by
  obtain ⟨h1, h2, h3, h4⟩ := h
  refine ⟨⟨hb.elim Or.inl (fun z => Or.inr (Or.inl z)), h1⟩, ?_, by rw [bnW_n hb]; exact h3, h4⟩
  rcases hb with rfl | rfl
  · rw [dpW_neg]; omega
  · rw [dpW_par]; omega
/-- a parenthesis below -/
theorem pp_par : ∀ {w : List Nat}, WOk w → w.head? ≠ some 220 → 0 < opW w → ∃ v, ppW 1 w = 40 :: v ∧ opW w = opW v + 1
  | [], _, _, h => absurd h (by decide)
  | k :: w, ⟨h1, h2⟩, h0, h => by
    show ∃ v, (if 1 ≤ rkW k then ppW 1 w else k :: w) = 40 :: v ∧ _
    rcases h1 with h1 | h1 | ⟨h1, h3, h4⟩
    · exact absurd (congrArg some h1) h0
    · subst h1
      exact ⟨w, by rw [if_neg (by decide)], opW_par⟩
    · have hr : 1 ≤ rkW k := by omega
      rw [if_pos hr]
      rw [opW_bin h1] at h ⊢
      exact pp_par h2 h4 h
theorem pp_nil : ∀ {w : List Nat}, WOk w → w.head? ≠ some 220 → opW w = 0 → ppW 1 w = []
  | [], _, _, _ => rfl
  | k :: w, ⟨h1, h2⟩, h0, h => by
    show (if 1 ≤ rkW k then ppW 1 w else k :: w) = []
    rcases h1 with h1 | h1 | ⟨h1, h3, h4⟩
    · exact absurd (congrArg some h1) h0
    · subst h1
      rw [opW_par] at h
      omega
    · rw [if_pos (by omega)]
      rw [opW_bin h1] at h
      exact pp_nil h2 h4 h
theorem run_good : ∀ (ts : List Tk), Wf ts → (∀ k ∈ ts, k.2.2 < 1000001) →
    (∀ w out r, SI nn nl nh 0 w out → run nn nl nh ts 0 w out = .ok r → SmOK nn nl nh r.2) ∧
    (∀ w out r, SI nn nl nh 1 w out → w.head? ≠ some 220 → run nn nl nh ts 1 w out = .ok r → SmOK nn nl nh r.2) ∧
    (∀ md w out r, (md = 205 ∨ md = 206 ∨ md = 207) → SI nn nl nh 0 w out → run nn nl nh ts md w out = .ok r → SmOK nn nl nh r.2)
  | [], h, _ => absurd h id
  | k :: ts, hw, hv => by
    have ih := fun (hk : 1 < k.1) => run_good ts (hw.tl hk) (fun x hx => hv x (List.mem_cons_of_mem _ hx))
    have fin : ∀ (w : List Nat) (out : List Cd) (r : List Tk × List Cd) (c : Cd), 1 < k.1 → isVal c.1 → CdOK nn nl nh c → SI nn nl nh 0 w out → runE nn nl nh ts w (out ++ [c]) = .ok r → SmOK nn nl nh r.2 := by
      intro w out r c hk h1 h2 h3 h4
      obtain ⟨h5, h6⟩ := (h3.leaf h1 h2).ef
      exact (ih hk).2.1 _ _ r h5 h6 h4
    refine ⟨fun w out r h e => ?_, fun w out r h h0 e => ?_, fun md w out r hm h e => ?_⟩
    · by_cases hl : leafK k.1
      · by_cases h1 : k.1 = 45 ∨ k.1 = 40
        · by_cases hd : dpW w < 20
          · rcases h1 with h1 | h1
            · rw [run_neg h1 hd] at e
              exact (ih (by omega)).1 _ _ r (h.stop (Or.inl rfl) hd) e
            · rw [run_par h1 hd] at e
              exact (ih (by omega)).1 _ _ r (h.stop (Or.inr rfl) hd) e
          · rw [run_deep h1 hd] at e
            cases e
        · by_cases h2 : k.1 = 200
          · by_cases h3 : k.2.2 ≤ 999999
            · rw [run_num h2 h3] at e
              exact fin w out r (200, k.2.2) (by omega) (Or.inl rfl) (Or.inl ⟨rfl, show k.2.2 < 1000000 by omega⟩) h e
            · rw [run_numx h2 h3] at e
              cases e
          · by_cases h3 : k.1 = 205 ∨ k.1 = 206 ∨ k.1 = 207
            · rw [run_pt h3] at e
              exact (ih (by omega)).2.2 _ _ _ r h3 h e
            · unfold leafK at hl
              have h4 : k.1 = 208 ∨ k.1 = 209 ∨ k.1 = 210 ∨ k.1 = 211 := by omega
              rw [run_rd h4] at e
              refine fin w out r _ (by omega) ?_ (Or.inr (Or.inr (Or.inr (Or.inr (Or.inl ⟨h4, show 0 < 1000000 by omega⟩))))) h e
              unfold isVal
              show k.1 = 200 ∨ _
              omega
      · rw [run_bad hl] at e
        cases e
    · by_cases hb : binK k.1
      · rw [run_bin hb] at e
        exact (ih (by unfold binK at hb; omega)).1 _ _ r (h.push hb h0) e
      · by_cases ho : opW w = 0
        · rw [run_ok hb ho] at e
          cases e
          obtain ⟨h1, h2, h3, h4⟩ := h.pp 1 (Nat.le_refl _)
          rw [pp_nil h.1 h0 ho] at h3
          exact ⟨h3, h4⟩
        · by_cases h41 : k.1 = 41
          · rw [run_cl h41 (by omega)] at e
            obtain ⟨v, hv1, hv2⟩ := pp_par h.1 h0 (by omega)
            obtain ⟨h1, h2, h3, h4⟩ := h.pp 1 (Nat.le_refl _)
            rw [hv1] at h1 h2 h3 e
            rw [dpW_par] at h2
            rw [bnW_n (Or.inr rfl)] at h3
            obtain ⟨h5, h6⟩ := SI.ef (nn := nn) (nl := nl) (nh := nh) (w := v) (out := out ++ ppO 1 w) ⟨h1.2, by omega, h3, h4⟩
            exact (ih (by omega)).2.1 _ _ r h5 h6 e
          · rw [run_op hb h41 ho] at e
            cases e
    · by_cases h2 : k.1 = 200
      · by_cases h3 : k.2.2 < cnF nn nl nh md
        · rw [run_ptn hm h2 h3] at e
          refine fin w out r _ (by omega) ?_ ?_ h e
          · unfold isVal
            show md = 200 ∨ _
            omega
          · unfold cnF at h3
            rcases hm with rfl | rfl | rfl
            · rw [if_pos rfl] at h3; exact Or.inr (Or.inl ⟨rfl, h3⟩)
            · rw [if_neg (by decide), if_pos rfl] at h3; exact Or.inr (Or.inr (Or.inl ⟨rfl, h3⟩))
            · rw [if_neg (by decide), if_neg (by decide)] at h3; exact Or.inr (Or.inr (Or.inr (Or.inl ⟨rfl, h3⟩)))
        · rw [run_ptx hm h2 h3] at e
          cases e
      · rw [run_pty hm h2] at e
        cases e
theorem SI.nil : SI nn nl nh 0 [] [] := ⟨trivial, Nat.zero_le _, rfl, fun c hc => absurd hc List.not_mem_nil⟩
theorem run_sm {ts : List Tk} {r : List Tk × List Cd} (hw : Wf ts) (hv : ∀ k ∈ ts, k.2.2 < 1000001) (e : run nn nl nh ts 0 [] [] = .ok r) : SmOK nn nl nh r.2 := (run_good ts hw hv).1 [] [] r SI.nil e
end SI
