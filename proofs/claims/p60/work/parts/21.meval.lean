def StkA (f : Nat → Int64) : List Int64 → Prop
  | [] => True
  | x :: t => f t.length = x ∧ StkA f t
theorem StkA_upd {f : Nat → Int64} {k : Nat} {x : Int64} : ∀ (s : List Int64), s.length ≤ k → StkA f s → StkA (vp_updL f k x) s
  | [], _, _ => trivial
  | y :: t, h, ⟨h1, h2⟩ => by
    have h' : t.length + 1 ≤ k := h
    refine ⟨?_, StkA_upd t (by omega) h2⟩
    have e : ¬ t.length = k := by omega
    simp only [vp_updL, e, if_false]
    exact h1
theorem StkA_push {f : Nat → Int64} {x : Int64} (s : List Int64) (h : StkA f s) : StkA (vp_updL f s.length x) (x :: s) := ⟨by simp [vp_updL], StkA_upd s (Nat.le_refl _) h⟩
/-- the codes lie in the reference's array from place i on -/
def CodM (st : Nat → Int32) : Nat → List Cd → Prop
  | _, [] => True
  | i, c :: cs => st (2 * i + 486) = nI (trM c.1) ∧ st (2 * i + 487) = nI c.2 ∧ CodM st (i + 1) cs
section MRUL
variable {G : Cx} {d : Nat} {m0 m : Mm} {Q : Option Value → Mm → Prop} {st : Nat → Int32} {en : Nat → Int64} {n nl nh : Nat}
end MRUL
