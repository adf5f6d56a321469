/-! WHAT BOTH OBJECTS STAND FOR -/
abbrev Sc : Type := (Nat → Int32) × (Nat → Int64) × Nat × Nat × Nat × List Ru × List Lk
abbrev sS (s : Sc) : Nat → Int32 := s.1
abbrev sE (s : Sc) : Nat → Int64 := s.2.1
abbrev sN (s : Sc) : Nat := s.2.2.1
abbrev sL (s : Sc) : Nat := s.2.2.2.1
abbrev sH (s : Sc) : Nat := s.2.2.2.2.1
abbrev sR (s : Sc) : List Ru := s.2.2.2.2.2.1
abbrev sK (s : Sc) : List Lk := s.2.2.2.2.2.2
abbrev CRx (m : Mm) (c : Nat) (s : Sc) : Prop := CR m c (sS s) (sE s) (sN s) (sL s) (sH s) (sR s) (sK s)
def GdS (s : Sc) : Prop := Iv 100000000 (sS s) (sN s) (sL s) (sH s) ∧ RulsM (sS s) (sN s) (sL s) (sH s) (sR s)
/-- all: the craft, the saved ones, the text, the last error -/
abbrev Ab : Type := Sc × (Nat → Option Sc) × List Nat × Int32 × Int32
abbrev aS (A : Ab) : Sc := A.1
abbrev aV (A : Ab) : Nat → Option Sc := A.2.1
abbrev aT (A : Ab) : List Nat := A.2.2.1
abbrev aE (A : Ab) : Int32 := A.2.2.2.1
abbrev aP (A : Ab) : Int32 := A.2.2.2.2
def sx8 (b : Nat) : Int32 := Int8.toInt32 (Int32.toInt8 (nI b))
def flag (o : Option Sc) : Int32 := if o.isSome = true then 1 else 0
def TxC (G : Cx) (m : Mm) (t : List Nat) : Prop := fi m 701 (gB G + 279) = nI t.length ∧ ∀ k b, t[k]? = some b → ai m (gB G + 280) k = sx8 b
def TxM (G : Cx) (m : Mm) (t : List Nat) : Prop := fi m 1111 (gB G + 293) = nI t.length ∧ ∀ k b, t[k]? = some b → ai m (gB G + 304) k = nI b
def Cls (G : Cx) (m : Mm) (A : Ab) : Prop := CRx m (gB G + 1) (aS A) ∧ (∀ i, i < 2 → ai m (gB G + 278) i = flag (aV A i) ∧ ∀ s, aV A i = some s → CRx m (gB G + (140 + 69 * i)) s) ∧ TxC G m (aT A) ∧ fi m 702 (gB G + 279) = aE A ∧ fi m 703 (gB G + 279) = aP A
def Ref (G : Cx) (m : Mm) (A : Ab) : Prop := ai m (gB G + 294) = sS (aS A) ∧ al m (gB G + 297) = sE (aS A) ∧ (∀ i, i < 2 → ai m (gB G + 300) i = flag (aV A i) ∧ ∀ s, aV A i = some s → (∀ k, k < 1486 → ai m (gB G + 296) (1486 * i + k) = sS s k) ∧ ∀ w, w < 3 → al m (gB G + 299) (3 * i + w) = sE s w) ∧ TxM G m (aT A) ∧ fi m 1118 (gB G + 293) = aE A ∧ fi m 1119 (gB G + 293) = aP A
def Gd (A : Ab) : Prop := GdS (aS A) ∧ (∀ i s, i < 2 → aV A i = some s → GdS s) ∧ (aT A).length ≤ 500 ∧ ∀ b ∈ aT A, b < 256
def CC (G : Cx) (a : Nat) : Prop := a < gB G + 293
def RC (G : Cx) (a : Nat) : Prop := gB G + 293 ≤ a
def CT (G : Cx) (a : Nat) : Prop := gB G + 1 ≤ a ∧ a < gB G + 139
theorem Out.al {A : Nat → Prop} {m m0 : Mm} (h : Out A m m0) {a : Nat} (ha : ¬ A a) (k : Nat) : al m a k = al m0 a k := (h.2.2 a ha).2.2.2 k
theorem Out.fl {A : Nat → Prop} {m m0 : Mm} (h : Out A m m0) {a : Nat} (ha : ¬ A a) (k : Nat) : fl m k a = fl m0 k a := (h.2.2 a ha).2.1 k
theorem CR.ag {m m' : Mm} {c : Nat} {st : Nat → Int32} {en : Nat → Int64} {n nl nh : Nat} {L : List Ru} {l : List Lk} (h : CR m c st en n nl nh L l) (hf : ∀ f j, j < 69 → fi m' f (c + j) = fi m f (c + j)) (hl : ∀ f, fl m' f (c + 8) = fl m f (c + 8)) (ha : ∀ j k, j < 18 → ai m' (c + j) k = ai m (c + j) k) : CR m' c st en n nl nh L l := by
  obtain ⟨⟨s1, s2, s3, ⟨e1, e2, e3⟩, s5⟩, ⟨b1, b2, b3⟩, a3, a4, a5, a6, a7, a8⟩ := h
  refine ⟨⟨Out.rf, K6.rf, fun k hk hd => ?_, ⟨(hl _).trans e1, (hl _).trans e2, (hl _).trans e3⟩, fun k hk => (ha 9 k (by omega)).trans (s5 k hk)⟩, ⟨(hf 6 0 (by omega)).trans b1, b2, fun i x hx => ?_⟩, a3, a4, fun i h hh => (ha 5 i (by omega)).trans (a5 i h hh), a6.of (fun j k hj => ?_) (fun f => hf f 10 (by omega)), a7, a8⟩
  · have := (vk_ok k hk.lt (by unfold VK at hk; exact hk)).2.2.1
    rw [hf _ _ this]
    exact s3 k hk hd
  · obtain ⟨c1, c2, c3⟩ := b3 i x hx
    have hi : i < l.length := (List.getElem?_eq_some_iff.mp hx).1
    have e : ∀ f, fi m' f (lk c i) = fi m f (lk c i) := fun f => by
      have := hf f (31 + i) (by omega)
      unfold lk
      rwa [← Nat.add_assoc] at this
    exact ⟨(e _).trans c1, (e _).trans c2, (e _).trans c3⟩
  · have := ha (10 + j) k (by omega)
    rwa [← Nat.add_assoc] at this
section ABS
variable {G : Cx} {m m' : Mm} {A : Ab} {s s' : Sc}
/-- only the craft and the trial craft changed -/
theorem Cls.craft (h : Cls G m A) (hO : Out (CT G) m' m) (hC : CRx m' (gB G + 1) s') : Cls G m' (s', A.2) := by
  obtain ⟨h1, h2, ⟨h3, h4⟩, h5, h6⟩ := h
  refine ⟨hC, fun i hi => ⟨?_, fun s hs => ?_⟩, ⟨?_, fun k b hb => ?_⟩, ?_, ?_⟩
  · rw [hO.ai (by unfold CT; omega)]; exact (h2 i hi).1
  · refine ((h2 i hi).2 s hs).ag (fun f j hj => hO.fi (by unfold CT; omega) f) (fun f => hO.fl (by unfold CT; omega) f) (fun j k hj => hO.ai (by unfold CT; omega) k)
  · rw [hO.fi (by unfold CT; omega)]; exact h3
  · rw [hO.ai (by unfold CT; omega)]; exact h4 k b hb
  · rw [hO.fi (by unfold CT; omega)]; exact h5
  · rw [hO.fi (by unfold CT; omega)]; exact h6
theorem Cls.ref (h : Cls G m A) (hO : Out (RC G) m' m) : Cls G m' A := by
  obtain ⟨h1, h2, ⟨h3, h4⟩, h5, h6⟩ := h
  refine ⟨h1.ag (fun f j hj => hO.fi (by unfold RC; omega) f) (fun f => hO.fl (by unfold RC; omega) f) (fun j k hj => hO.ai (by unfold RC; omega) k), fun i hi => ⟨?_, fun s hs => ?_⟩, ⟨?_, fun k b hb => ?_⟩, ?_, ?_⟩
  · rw [hO.ai (by unfold RC; omega)]; exact (h2 i hi).1
  · refine ((h2 i hi).2 s hs).ag (fun f j hj => hO.fi (by unfold RC; omega) f) (fun f => hO.fl (by unfold RC; omega) f) (fun j k hj => hO.ai (by unfold RC; omega) k)
  · rw [hO.fi (by unfold RC; omega)]; exact h3
  · rw [hO.ai (by unfold RC; omega)]; exact h4 k b hb
  · rw [hO.fi (by unfold RC; omega)]; exact h5
  · rw [hO.fi (by unfold RC; omega)]; exact h6
theorem Ref.cls (h : Ref G m A) (hO : Out (CC G) m' m) : Ref G m' A := by
  obtain ⟨h1, h2, h3, ⟨h4, h5⟩, h6, h7⟩ := h
  have n : ∀ j, 293 ≤ j → ¬ CC G (gB G + j) := fun j hj => by unfold CC; omega
  refine ⟨?_, ?_, fun i hi => ⟨?_, fun s hs => ⟨fun k hk => ?_, fun w hw => ?_⟩⟩, ⟨?_, fun k b hb => ?_⟩, ?_, ?_⟩
  · rw [← h1]; funext k; exact hO.ai (n _ (by omega)) k
  · rw [← h2]; funext k; exact hO.al (n _ (by omega)) k
  · rw [hO.ai (n _ (by omega))]; exact (h3 i hi).1
  · rw [hO.ai (n _ (by omega))]; exact ((h3 i hi).2 s hs).1 k hk
  · rw [hO.al (n _ (by omega))]; exact ((h3 i hi).2 s hs).2 w hw
  · rw [hO.fi (n _ (by omega))]; exact h4
  · rw [hO.ai (n _ (by omega))]; exact h5 k b hb
  · rw [hO.fi (n _ (by omega))]; exact h6
  · rw [hO.fi (n _ (by omega))]; exact h7
/-- the reference's state changed -/
theorem Ref.ms (h : Ref G m A) {st : Nat → Int32} {en : Nat → Int64} (hM : MS G m m' st en) : Ref G m' ((st, en, A.1.2.2), A.2) := by
  obtain ⟨h1, h2, h3, ⟨h4, h5⟩, h6, h7⟩ := h
  obtain ⟨hF, hO, q1, q2⟩ := hM
  refine ⟨q1, q2, fun i hi => ⟨?_, fun s hs => ⟨fun k hk => ?_, fun w hw => ?_⟩⟩, ⟨?_, fun k b hb => ?_⟩, ?_, ?_⟩
  · rw [hO.ai (by unfold SM; omega)]; exact (h3 i hi).1
  · rw [hO.ai (by unfold SM; omega)]; exact ((h3 i hi).2 s hs).1 k hk
  · rw [hO.al (by unfold SM; omega)]; exact ((h3 i hi).2 s hs).2 w hw
  · rw [hO.fi (by unfold SM; omega)]; exact h4
  · rw [hO.ai (by unfold SM; omega)]; exact h5 k b hb
  · rw [hO.fi (by unfold SM; omega)]; exact h6
  · rw [hO.fi (by unfold SM; omega)]; exact h7
theorem Ref.MS (h : Ref G m A) (hF : Full G m) : MS G m m (sS (aS A)) (sE (aS A)) := ⟨hF, Out.rf, h.1, h.2.1⟩
theorem SM_RC {a : Nat} (h : SM G a) : RC G a := by unfold SM at h; unfold RC; omega
theorem CT_CC {a : Nat} (h : CT G a) : CC G a := by unfold CT at h; unfold CC; omega
theorem SA_CT {a : Nat} (h : SA (gB G + 1) a) : CT G a := by unfold SA at h; unfold CT; omega
theorem CA_CT {a : Nat} (h : CA (gB G + 1) a) : CT G a := by unfold CA at h; unfold CT; omega
theorem CA_CT2 {a : Nat} (h : CA (gB G + 70) a) : CT G a := by unfold CA at h; unfold CT; omega
end ABS
/-- the law's invariant -/
def LIv (G : Cx) (m : Mm) (A : Ab) : Prop := Full G m ∧ Cls G m A ∧ Ref G m A ∧ Gd A
section LIV
variable {G : Cx} {m : Mm} {A : Ab}
theorem LIv.full (h : LIv G m A) : Full G m := h.1
theorem LIv.iv (h : LIv G m A) : Iv 100000000 (sS (aS A)) (sN (aS A)) (sL (aS A)) (sH (aS A)) := h.2.2.2.1.1
theorem LIv.st (h : LIv G m A) : ai m (gB G + 294) = sS (aS A) := h.2.2.1.1
theorem LIv.rd (h : LIv G m A) {k f o : Nat} (hf : flC k = f) (ho : ofC k = o) (hk : VK k) (hD : UD (sN (aS A)) (sL (aS A)) (sH (aS A)) k) : fi m f (gB G + 1 + o) = ai m (gB G + 294) k := by
  rw [h.st]
  exact h.2.1.1.1.rG k hf ho hk hD
theorem LIv.nn (h : LIv G m A) : fi m 5 (gB G + 1) = nI (sN (aS A)) ∧ ai m (gB G + 294) 12 = nI (sN (aS A)) ∧ sN (aS A) ≤ 12 := by
  have h2 := h.iv.1
  have e : ai m (gB G + 294) 12 = nI (sN (aS A)) := by rw [h.st]; exact h2.1
  exact ⟨(h.rd (k := 12) rfl rfl (by unfold VK; omega) (by unfold UD; omega)).trans e, e, h2.2.1⟩
theorem LIv.nl (h : LIv G m A) : fi m 7 (gB G + 1) = nI (sL (aS A)) ∧ ai m (gB G + 294) 13 = nI (sL (aS A)) ∧ sL (aS A) ≤ 6 := by
  have h2 := h.iv.1
  have e : ai m (gB G + 294) 13 = nI (sL (aS A)) := by rw [h.st]; exact h2.2.2.1
  exact ⟨(h.rd (k := 13) rfl rfl (by unfold VK; omega) (by unfold UD; omega)).trans e, e, h2.2.2.2.1⟩
theorem LIv.nh (h : LIv G m A) : fi m 8 (gB G + 1) = nI (sH (aS A)) ∧ ai m (gB G + 294) 14 = nI (sH (aS A)) ∧ sH (aS A) ≤ 8 := by
  have h2 := h.iv.1
  have e : ai m (gB G + 294) 14 = nI (sH (aS A)) := by rw [h.st]; exact h2.2.2.2.2.1
  exact ⟨(h.rd (k := 14) rfl rfl (by unfold VK; omega) (by unfold UD; omega)).trans e, e, h2.2.2.2.2.2.1⟩
theorem LIv.N (h : LIv G m A) {i : Nat} (j : Nat) (hi : i < sN (aS A)) (hj : j < 11) : fi m (400 + j) (nd (gB G + 1) i) = ai m (gB G + 294) (11 * i + 20 + j) := by
  rw [h.st]
  have := h.nn.2.2
  exact h.2.1.1.1.rN j (by omega) hj (by unfold UD; omega)
theorem LIv.L (h : LIv G m A) {i : Nat} (j : Nat) (hi : i < sL (aS A)) (hj : j < 7) : fi m (300 + j) (lv (gB G + 1) i) = ai m (gB G + 294) (7 * i + 296 + j) := by
  rw [h.st]
  have := h.nl.2.2
  exact h.2.1.1.1.rL j (by omega) hj (by unfold UD; omega)
theorem LIv.H (h : LIv G m A) {i : Nat} (j : Nat) (hi : i < sH (aS A)) (hj : j < 8) : fi m (100 + j) (ht (gB G + 1) i) = ai m (gB G + 294) (8 * i + 338 + j) := by
  rw [h.st]
  have := h.nh.2.2
  exact h.2.1.1.1.rH j (by omega) hj (by unfold UD; omega)
end LIV
theorem inr_cases (x : Int32) (n : Nat) (hn : n < 1000) : (∃ i, i < n ∧ x = nI i) ∨ x < 0 ∨ (¬ x < 0 ∧ ¬ x < nI n) := by
  by_cases h : x < 0
  · exact Or.inr (Or.inl h)
  · by_cases h2 : x < nI n
    · refine Or.inl ⟨x.toNatClampNeg, ?_, ?_⟩
      · rw [Int32.lt_iff_toInt_lt] at h h2
        have z : (0 : Int32).toInt = 0 := rfl
        have e : (nI n).toInt = (n : Int) := nI_toInt (by omega)
        show x.toInt.toNat < n
        omega
      · apply Int32.toInt_inj.mp
        rw [Int32.lt_iff_toInt_lt] at h
        have z : (0 : Int32).toInt = 0 := rfl
        have hx := Int32.toInt_lt x
        have e : (nI x.toNatClampNeg).toInt = (x.toNatClampNeg : Int) := nI_toInt (by show x.toInt.toNat < _; omega)
        rw [e]
        show x.toInt = ((x.toInt.toNat : Nat) : Int)
        omega
    · exact Or.inr (Or.inr ⟨h, h2⟩)
theorem sub_lt {x : Int32} {n : Nat} (hn : n < 1000) (h1 : ¬ x < 0) (h2 : ¬ x < nI n) : nI n - (1 : Int32) < x := by
  rw [Int32.lt_iff_toInt_lt] at h1 h2 ⊢
  have z : (0 : Int32).toInt = 0 := rfl
  have o : (1 : Int32).toInt = 1 := rfl
  have e : (nI n).toInt = (n : Int) := nI_toInt (by omega)
  rw [Int32.toInt_sub, e, o, Int.bmod_eq_of_le (by omega) (by omega)]
  omega
theorem sub_lt1 {x : Int32} {n : Nat} (hn : n < 1000) (h1 : ¬ x < 0) (h2 : ¬ x < nI (n + 1)) : nI n < x := by
  rw [Int32.lt_iff_toInt_lt] at h1 h2 ⊢
  have e : (nI n).toInt = (n : Int) := nI_toInt (by omega)
  have e2 : (nI (n + 1)).toInt = ((n + 1 : Nat) : Int) := nI_toInt (by omega)
  have z : (0 : Int32).toInt = 0 := rfl
  omega
