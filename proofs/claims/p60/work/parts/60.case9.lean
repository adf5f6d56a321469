/-! THE LAW'S CASE 5: LINK -/
theorem fi_6 {m : Mm} {f a c : Nat} {x : Int32} (h : f = 6 → a ≠ c) : fi (wfi m 6 c x) f a = fi m f a := by
  by_cases e : f = 6
  · exact fi_na (h e)
  · exact fi_ne e
theorem pos_nz {z : Int32} (h1 : ¬ z < 0) (h2 : ¬ z = 0) : 0 < z := by
  rw [Int32.lt_iff_toInt_lt] at h1 ⊢
  have e : (0 : Int32).toInt = 0 := rfl
  have : z.toInt ≠ 0 := fun q => h2 (Int32.toInt_inj.mp (q.trans e.symm))
  omega
theorem rg_nz {z : Int32} {b : Int} (h : rg z 0 b) (h2 : ¬ z = 0) : rg z 1 b := by
  have e : (0 : Int32).toInt = 0 := rfl
  have : z.toInt ≠ 0 := fun q => h2 (Int32.toInt_inj.mp (q.trans e.symm))
  unfold rg at *
  omega
