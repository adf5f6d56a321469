/-! THE LAW'S FRAME -/
def μL_law : MI := (yL_law, cL_law, 4, some .boolean)
section LROWS
variable {G : Cx} {d : Nat} {b : Nat × Nat} {μ : MI} {pc : Nat} {L S : List Value} {m : Mm} {Q : Option Value → Mm → Prop}
theorem wp_sld {i : Int32} (k : Nat) (hd : decode μ.2.1 pc = .ok (.iaload, 1)) (hi : i = nI k) (hk : k < gSl G) (hl : gSl G < 2 ^ 31) (kk : WP G d b μ (pc + 1) L (.int (gSx G k) :: S) m Q) : WP G d b μ pc L (.int i :: .ref (gSa G) :: S) m Q := by
  intro p e R s mi args below meth c H locs cells slots ls F hR hS hL
  subst hi
  obtain ⟨-, -, -, -, -, -, -, h8, h9, h10⟩ := F.2.2.2.2.2.2.2.2.2
  have h0 := kk p e R s mi args below meth c H locs cells slots ls F hR hS hL
  have ek : (nI k).toNatClampNeg = k := nIc (by omega)
  refine va_sld F.1 F.2.1 h9 (Nat.lt_of_lt_of_le h10 h8) (fun z => absurd h10 (Nat.not_lt.mpr z)) hS (nI_in hk hl) hd ?_
  rw [ek]
  exact h0
theorem wp_slen (v : Int32) (hd : decode μ.2.1 pc = .ok (.arraylength, 1)) (hv : Int32.ofNat (gSl G) = v) (kk : WP G d b μ (pc + 1) L (.int v :: S) m Q) : WP G d b μ pc L (.ref (gSa G) :: S) m Q := by
  intro p e R s mi args below meth c H locs cells slots ls F hR hS hL
  subst hv
  obtain ⟨-, -, -, -, -, -, -, h8, h9, h10⟩ := F.2.2.2.2.2.2.2.2.2
  exact va_slen F.1 F.2.1 h9 (Nat.lt_of_lt_of_le h10 h8) (fun z => absurd h10 (Nat.not_lt.mpr z)) hS hd (kk p e R s mi args below meth c H locs cells slots ls F hR hS hL)
end LROWS
