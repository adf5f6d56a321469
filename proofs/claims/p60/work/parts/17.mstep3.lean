theorem p_ge : ∀ k, k < 10 → ¬ (9 - nI k : Int32) < 0 ∧ (9 - nI k : Int32) + (-1 : Int32) = 9 - nI (k + 1) := by decide +kernel
section MSTEP
variable {G : Cx} {d : Nat} {m0 m : Mm} {Q : Option Value → Mm → Prop} {st : Nat → Int32} {en : Nat → Int64} {n nl nh : Nat}
theorem swF_s (s : (Nat → Int32) × Int64) (nh k : Nat) : swF s nh (k + 1) = swP (9 - nI k) (swF s nh k) nh := rfl
theorem Safe.sw (h : Safe st n nl nh) (v : Int64) (q : Nat) : Safe (swF (st, v) nh q).1 n nl nh := by
  have q1 := h.2.1
  have q2 := h.2.2.2.1
  have q3 := h.2.2.2.2.2.1
  exact h.of (fun k hk => swF_ne _ _ (by omega) (fun j _ => by omega) q) (fun l hl => ⟨swF_ne _ _ (by omega) (fun j _ => by omega) q, swF_ne _ _ (by omega) (fun j _ => by omega) q, swF_ne _ _ (by omega) (fun j _ => by omega) q⟩) (fun l hl => swF_ne _ _ (by omega) (fun j _ => by omega) q) (fun l hl => swF_ne _ _ (by omega) (fun j _ => by omega) q)
theorem Safe.chg (h : Safe st n nl nh) (a : Int64) : Safe (chgF a nh st) n nl nh := by
  unfold chgF
  exact h.of (fun k hk => upd_ne (by omega)) (fun l hl => ⟨upd_ne (by omega), upd_ne (by omega), upd_ne (by omega)⟩) (fun l hl => upd_ne (by omega)) (fun l hl => upd_ne (by omega))
theorem emS_s (i : Nat) : emS st nl (i + 1) = emS st nl i + emF st nl i := rfl
theorem abS_s (i : Nat) : abS st (i + 1) = abS st i + absF st i := rfl
theorem Safe.warm (h : Safe st n nl nh) (i : Nat) (hi : i ≤ n) : Safe (warmF st n nl nh i) n nl nh := by
  have q1 := h.2.1
  have q2 := h.2.2.2.1
  have q3 := h.2.2.2.2.2.1
  exact h.of (fun k hk => warmF_ne st n nl nh i (fun j _ => by omega)) (fun l hl => ⟨warmF_ne st n nl nh i (fun j _ => by omega), warmF_ne st n nl nh i (fun j _ => by omega), warmF_ne st n nl nh i (fun j _ => by omega)⟩) (fun l hl => warmF_ne st n nl nh i (fun j _ => by omega)) (fun l hl => warmF_ne st n nl nh i (fun j _ => by omega))
end MSTEP
