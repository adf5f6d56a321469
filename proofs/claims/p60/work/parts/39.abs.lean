/-! WHAT BOTH OBJECTS STAND FOR -/
abbrev Sc : Type := (Nat → Int32) × (Nat → Int64) × Nat × Nat × Nat × List Ru × List Lk
abbrev sS (s : Sc) : Nat → Int32 := s.1
abbrev sE (s : Sc) : Nat → Int64 := s.2.1
abbrev sN (s : Sc) : Nat := s.2.2.1
abbrev sL (s : Sc) : Nat := s.2.2.2.1
abbrev sH (s : Sc) : Nat := s.2.2.2.2.1
abbrev sR (s : Sc) : List Ru := s.2.2.2.2.2.1
abbrev sK (s : Sc) : List Lk := s.2.2.2.2.2.2
abbrev CRx (m : Mm) (c : Nat) (s : Sc) : Prop := CR m c (sS s) (sE s) (sN s) (sL s) (sH s) (sR s) (sK s)
def GdT (T : Int) (s : Sc) : Prop := Iv T (sS s) (sN s) (sL s) (sH s) ∧ ∀ R ∈ sR s, RuC (sN s) (sL s) (sH s) R
def GdS (s : Sc) : Prop := GdT 100000000 s
/-- all: the craft, the saved ones, the text, the last error -/
abbrev Ab : Type := Sc × (Nat → Option Sc) × List Nat × Int32 × Int32
abbrev aS (A : Ab) : Sc := A.1
abbrev aV (A : Ab) : Nat → Option Sc := A.2.1
abbrev aT (A : Ab) : List Nat := A.2.2.1
abbrev aE (A : Ab) : Int32 := A.2.2.2.1
abbrev aP (A : Ab) : Int32 := A.2.2.2.2
def sx8 (b : Nat) : Int32 := Int8.toInt32 (Int32.toInt8 (nI b))
def flag (o : Option Sc) : Int32 := if o.isSome = true then 1 else 0
def TxC (G : Cx) (m : Mm) (t : List Nat) : Prop := fi m 701 (gB G + 279) = nI t.length ∧ ∀ k b, t[k]? = some b → ai m (gB G + 280) k = sx8 b
def Cls (G : Cx) (m : Mm) (A : Ab) : Prop := CRx m (gB G + 1) (aS A) ∧ (∀ i, i < 2 → ai m (gB G + 278) i = flag (aV A i) ∧ ∀ s, aV A i = some s → CRx m (gB G + (140 + 69 * i)) s) ∧ TxC G m (aT A) ∧ fi m 702 (gB G + 279) = aE A ∧ fi m 703 (gB G + 279) = aP A
def Gd (A : Ab) : Prop := GdS (aS A) ∧ (∀ i s, i < 2 → aV A i = some s → GdS s) ∧ (aT A).length ≤ 500 ∧ ∀ b ∈ aT A, b < 256
def CT (G : Cx) (a : Nat) : Prop := gB G + 1 ≤ a ∧ a < gB G + 139
theorem Out.al {A : Nat → Prop} {m m0 : Mm} (h : Out A m m0) {a : Nat} (ha : ¬ A a) (k : Nat) : al m a k = al m0 a k := (h.2.2 a ha).2.2.2 k
theorem Out.fl {A : Nat → Prop} {m m0 : Mm} (h : Out A m m0) {a : Nat} (ha : ¬ A a) (k : Nat) : fl m k a = fl m0 k a := (h.2.2 a ha).2.1 k
theorem CR.ag {m m' : Mm} {c : Nat} {st : Nat → Int32} {en : Nat → Int64} {n nl nh : Nat} {L : List Ru} {l : List Lk} (h : CR m c st en n nl nh L l) (hf : ∀ f j, j < 69 → fi m' f (c + j) = fi m f (c + j)) (hl : ∀ f, fl m' f (c + 8) = fl m f (c + 8)) (ha : ∀ j k, j < 18 → ai m' (c + j) k = ai m (c + j) k) : CR m' c st en n nl nh L l := by
  obtain ⟨⟨s1, s2, s3, ⟨e1, e2, e3⟩, s5⟩, ⟨b1, b2, b3⟩, a3, a4, a5, a6, a7, a8⟩ := h
  refine ⟨⟨Out.rf, K6.rf, fun k hk hd => ?_, ⟨(hl _).trans e1, (hl _).trans e2, (hl _).trans e3⟩, fun k hk => (ha 9 k (by omega)).trans (s5 k hk)⟩, ⟨(hf 6 0 (by omega)).trans b1, b2, fun i x hx => ?_⟩, a3, a4, fun i h hh => (ha 5 i (by omega)).trans (a5 i h hh), a6.of (fun j k hj => ?_) (fun f => hf f 10 (by omega)), a7, a8⟩
  · have := (vk_ok k hk.lt (by unfold VK at hk; exact hk)).2.2.1
    rw [hf _ _ this]
    exact s3 k hk hd
  · obtain ⟨c1, c2, c3⟩ := b3 i x hx
    have hi : i < l.length := (List.getElem?_eq_some_iff.mp hx).1
    have e : ∀ f, fi m' f (lk c i) = fi m f (lk c i) := fun f => by
      have := hf f (31 + i) (by omega)
      unfold lk
      rwa [← Nat.add_assoc] at this
    exact ⟨(e _).trans c1, (e _).trans c2, (e _).trans c3⟩
  · have := ha (10 + j) k (by omega)
    rwa [← Nat.add_assoc] at this
section ABS
variable {G : Cx} {m m' : Mm} {A : Ab} {s s' : Sc}
/-- only the craft and the trial craft changed -/
theorem Cls.craft (h : Cls G m A) (hO : Out (CT G) m' m) (hC : CRx m' (gB G + 1) s') : Cls G m' (s', A.2) := by
  obtain ⟨h1, h2, ⟨h3, h4⟩, h5, h6⟩ := h
  refine ⟨hC, fun i hi => ⟨?_, fun s hs => ?_⟩, ⟨?_, fun k b hb => ?_⟩, ?_, ?_⟩
  · rw [hO.ai (by unfold CT; omega)]; exact (h2 i hi).1
  · refine ((h2 i hi).2 s hs).ag (fun f j hj => hO.fi (by unfold CT; omega) f) (fun f => hO.fl (by unfold CT; omega) f) (fun j k hj => hO.ai (by unfold CT; omega) k)
  · rw [hO.fi (by unfold CT; omega)]; exact h3
  · rw [hO.ai (by unfold CT; omega)]; exact h4 k b hb
  · rw [hO.fi (by unfold CT; omega)]; exact h5
  · rw [hO.fi (by unfold CT; omega)]; exact h6
theorem SA_CT {a : Nat} (h : SA (gB G + 1) a) : CT G a := by unfold SA at h; unfold CT; omega
theorem CA_CT {a : Nat} (h : CA (gB G + 1) a) : CT G a := by unfold CA at h; unfold CT; omega
theorem CA_CT2 {a : Nat} (h : CA (gB G + 70) a) : CT G a := by unfold CA at h; unfold CT; omega
end ABS
def CIv (G : Cx) (m : Mm) (A : Ab) : Prop := Full G m ∧ Cls G m A ∧ Gd A
theorem inr_cases (x : Int32) (n : Nat) (hn : n < 1000) : (∃ i, i < n ∧ x = nI i) ∨ x < 0 ∨ (¬ x < 0 ∧ ¬ x < nI n) := by
  by_cases h : x < 0
  · exact Or.inr (Or.inl h)
  · by_cases h2 : x < nI n
    · refine Or.inl ⟨x.toNatClampNeg, ?_, ?_⟩
      · rw [Int32.lt_iff_toInt_lt] at h h2
        have z : (0 : Int32).toInt = 0 := rfl
        have e : (nI n).toInt = (n : Int) := nI_toInt (by omega)
        show x.toInt.toNat < n
        omega
      · apply Int32.toInt_inj.mp
        rw [Int32.lt_iff_toInt_lt] at h
        have z : (0 : Int32).toInt = 0 := rfl
        have hx := Int32.toInt_lt x
        have e : (nI x.toNatClampNeg).toInt = (x.toNatClampNeg : Int) := nI_toInt (by show x.toInt.toNat < _; omega)
        rw [e]
        show x.toInt = ((x.toInt.toNat : Nat) : Int)
        omega
    · exact Or.inr (Or.inr ⟨h, h2⟩)
theorem sub_lt {x : Int32} {n : Nat} (hn : n < 1000) (h1 : ¬ x < 0) (h2 : ¬ x < nI n) : nI n - (1 : Int32) < x := by
  rw [Int32.lt_iff_toInt_lt] at h1 h2 ⊢
  have z : (0 : Int32).toInt = 0 := rfl
  have o : (1 : Int32).toInt = 1 := rfl
  have e : (nI n).toInt = (n : Int) := nI_toInt (by omega)
  rw [Int32.toInt_sub, e, o, Int.bmod_eq_of_le (by omega) (by omega)]
  omega
theorem sub_lt1 {x : Int32} {n : Nat} (hn : n < 1000) (h1 : ¬ x < 0) (h2 : ¬ x < nI (n + 1)) : nI n < x := by
  rw [Int32.lt_iff_toInt_lt] at h1 h2 ⊢
  have e : (nI n).toInt = (n : Int) := nI_toInt (by omega)
  have e2 : (nI (n + 1)).toInt = ((n + 1 : Nat) : Int) := nI_toInt (by omega)
  have z : (0 : Int32).toInt = 0 := rfl
  omega
