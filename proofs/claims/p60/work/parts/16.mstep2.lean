theorem Safe.of {st st' : Nat → Int32} {n nl nh : Nat} (h : Safe st n nl nh) (h1 : ∀ k, k = 1 ∨ k = 2 ∨ k = 12 ∨ k = 13 ∨ k = 14 → st' k = st k) (h2 : ∀ l, l < nl → st' (7 * l + 296) = st (7 * l + 296) ∧ st' (7 * l + 298) = st (7 * l + 298) ∧ st' (7 * l + 299) = st (7 * l + 299)) (h3 : ∀ l, l < nh → st' (8 * l + 338) = st (8 * l + 338)) (h4 : ∀ i, i < n → st' (11 * i + 20) = st (11 * i + 20)) : Safe st' n nl nh := by
  obtain ⟨s1, s2, s3, s4, s5, s6, s7, s8, s9, s10, s11, s12⟩ := h
  refine ⟨(h1 12 (by omega)).trans s1, s2, (h1 13 (by omega)).trans s3, s4, (h1 14 (by omega)).trans s5, s6, ?_, ?_, fun l hl => ?_, fun l hl => ?_, fun l hl => ?_, fun i hi => ?_⟩
  · rw [h1 2 (by omega)]; exact s7
  · rw [h1 1 (by omega)]; exact s8
  · rw [(h2 l hl).1]; exact s9 l hl
  · rw [h3 l hl]; exact s10 l hl
  · rw [(h2 l hl).2.1, (h2 l hl).2.2]; exact s11 l hl
  · rw [h4 i hi]; exact s12 i hi
theorem own_of {st : Nat → Int32} {k o : Nat} (h : st k = nI o) (ho : o < 2 ^ 31) : own st k = o := by
  unfold own
  rw [h]
  exact nIc ho
section MSTEP
variable {G : Cx} {d : Nat} {m0 m : Mm} {Q : Option Value → Mm → Prop} {st : Nat → Int32} {en : Nat → Int64} {n nl nh : Nat}
theorem Safe.mv (h : Safe st n nl nh) (i : Nat) (hi : i ≤ nl) : Safe (mvF st i) n nl nh := by
  have q1 := h.2.1
  have q2 := h.2.2.2.1
  have q3 := h.2.2.2.2.2.1
  exact h.of (fun k hk => mvF_ne st i (fun j _ => by omega)) (fun l _ => ⟨mvF_ne st i (fun j _ => by omega), mvF_ne st i (fun j _ => by omega), mvF_ne st i (fun j _ => by omega)⟩) (fun l hl => mvF_ne st i (fun j _ => by omega)) (fun l hl => mvF_ne st i (fun j _ => by omega))
theorem Safe.w1 (h : Safe st n nl nh) (i : Nat) : Safe (w1F st i) n nl nh :=
  h.of (fun k hk => w1F_ne st i (fun j _ => by omega)) (fun l hl => by have := h.2.2.2.1; exact ⟨w1F_ne st i (fun j _ => by omega), w1F_ne st i (fun j _ => by omega), w1F_ne st i (fun j _ => by omega)⟩) (fun l hl => w1F_ne st i (fun j _ => by omega)) (fun l hl => w1F_ne st i (fun j _ => by have := h.2.1; omega))
theorem swP_s (p : Int32) (s : (Nat → Int32) × Int64) (h : Nat) : swP p s (h + 1) = if (swP p s h).1 (8 * h + 342) = p then swS (swP p s h) h else swP p s h := rfl
end MSTEP
