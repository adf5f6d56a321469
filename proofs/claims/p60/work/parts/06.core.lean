/-! CORE: a judgement over a pure picture of the memory; the world is the cells from base on, laid by number -/
abbrev Cx : Type := Launch × va_G × (Nat → ClassId) × Nat × (Nat → Nat) × (Nat → Nat) × (Nat × Nat × (Nat → Int32) × Bool)
def gL (G : Cx) : Launch := G.1
def gD (G : Cx) : va_G := G.2.1
def gY (G : Cx) : Nat → ClassId := G.2.2.1
def gB (G : Cx) : Nat := G.2.2.2.1
def gK (G : Cx) : Nat → Nat := G.2.2.2.2.1
def gV (G : Cx) : Nat → Nat := G.2.2.2.2.2.1
def gSa (G : Cx) : Nat := G.2.2.2.2.2.2.1
def gSl (G : Cx) : Nat := G.2.2.2.2.2.2.2.1
def gSx (G : Cx) : Nat → Int32 := G.2.2.2.2.2.2.2.2.1
/-- still being made: the heap ends where the picture ends -/
def gM (G : Cx) : Bool := G.2.2.2.2.2.2.2.2.2
/-- memory: cells made; which reference slots are set; int fields (field, cell); long fields; ints of arrays (cell, place); longs of arrays -/
abbrev Mm : Type := Nat × (Nat → Nat → Bool) × (Nat → Nat → Int32) × (Nat → Nat → Int64) × (Nat → Nat → Int32) × (Nat → Nat → Int64)
def mN (m : Mm) : Nat := m.1
def mI (m : Mm) : Nat → Nat → Bool := m.2.1
def fi (m : Mm) : Nat → Nat → Int32 := m.2.2.1
def fl (m : Mm) : Nat → Nat → Int64 := m.2.2.2.1
def ai (m : Mm) : Nat → Nat → Int32 := m.2.2.2.2.1
def al (m : Mm) : Nat → Nat → Int64 := m.2.2.2.2.2
def up2 {α : Type} (f : Nat → Nat → α) (a k : Nat) (x : α) : Nat → Nat → α := fun b j => if b = a ∧ j = k then x else f b j
def wN (m : Mm) (n : Nat) : Mm := (n, m.2.1, m.2.2.1, m.2.2.2.1, m.2.2.2.2.1, m.2.2.2.2.2)
def wI (m : Mm) (f a : Nat) : Mm := (m.1, up2 m.2.1 f a true, m.2.2.1, m.2.2.2.1, m.2.2.2.2.1, m.2.2.2.2.2)
def wfi (m : Mm) (f a : Nat) (x : Int32) : Mm := (m.1, m.2.1, up2 m.2.2.1 f a x, m.2.2.2.1, m.2.2.2.2.1, m.2.2.2.2.2)
def wfl (m : Mm) (f a : Nat) (x : Int64) : Mm := (m.1, m.2.1, m.2.2.1, up2 m.2.2.2.1 f a x, m.2.2.2.2.1, m.2.2.2.2.2)
def wai (m : Mm) (a k : Nat) (x : Int32) : Mm := (m.1, m.2.1, m.2.2.1, m.2.2.2.1, up2 m.2.2.2.2.1 a k x, m.2.2.2.2.2)
def wal (m : Mm) (a k : Nat) (x : Int64) : Mm := (m.1, m.2.1, m.2.2.1, m.2.2.2.1, m.2.2.2.2.1, up2 m.2.2.2.2.2 a k x)
/-- a whole array of ints anew -/
def waf (m : Mm) (a : Nat) (f : Nat → Int32) : Mm := (m.1, m.2.1, m.2.2.1, m.2.2.2.1, (fun b j => if b = a then f j else m.2.2.2.2.1 b j), m.2.2.2.2.2)
-- the layout
def kC (j : Nat) : Nat := if j = 0 then 0 else if j = 1 then 24 else if j = 2 then 25 else if j = 3 then 26 else if j = 4 then 27 else if j = 5 then 21 else if j = 6 then 5 else if j = 7 then 9 else if j = 8 then 6 else if j = 9 then 21 else if j = 10 then 8 else if j < 18 then 21 else if j = 18 then 22 else if j < 31 then 4 else if j < 55 then 2 else if j < 61 then 3 else 1
def kd (j : Nat) : Nat := if j = 0 then 10 else if j < 70 then kC (j - 1) else if j < 139 then kC (j - 70) else if j = 139 then 28 else if j < 209 then kC (j - 140) else if j < 278 then kC (j - 209) else if j = 278 then 23 else if j = 279 then 7 else if j = 280 then 20 else if j = 281 then 8 else if j < 289 then 21 else if j = 289 then 22 else if j < 293 then 21 else if j = 293 then 11 else if j < 297 then 21 else if j < 300 then 22 else if j = 300 then 23 else if j = 301 then 22 else if j = 302 then 21 else if j = 303 then 22 else 21
def lnC (j : Nat) : Nat := if j = 1 then 12 else if j = 2 then 24 else if j = 3 then 6 else if j = 4 then 8 else if j = 5 then 8 else if j = 9 then 12 else if j = 11 then 500 else if j = 12 then 500 else if j = 18 then 64 else 12
def ln (j : Nat) : Nat := if j < 70 then lnC (j - 1) else if j < 139 then lnC (j - 70) else if j = 139 then 2 else if j < 209 then lnC (j - 140) else if j < 278 then lnC (j - 209) else if j = 278 then 2 else if j = 280 then 500 else if j = 282 then 500 else if j = 283 then 500 else if j < 289 then 12 else if j = 289 then 64 else if j < 293 then 501 else if j < 296 then 1486 else if j = 296 then 2972 else if j = 297 then 3 else if j = 298 then 3 else if j = 299 then 6 else if j = 300 then 2 else if j = 301 then 12 else if j = 302 then 12 else if j = 303 then 300 else if j = 304 then 500 else if j = 305 then 72 else if j = 306 then 1000 else 500
/-- where the reference slot id of the cell j points to -/
def rfo (id j : Nat) : Nat :=
  if id < 5 then j + 1 + id
  else if id = 9 then j + 6 else if id = 10 then j + 7 else if id = 11 then j + 8 else if id = 12 then j + 10
  else if id = 600 then j + 1
  else if id = 700 then j + 1 else if id = 704 then j + 2 else if id = 705 then j + 11 else if id = 706 then j + 12 else if id = 707 then j + 13
  else if id = 809 then j + 8 else if id < 809 then j + 1 + (id - 800)
  else if id = 1000 then j + 1 else if id = 1001 then j + 70 else if id = 1002 then j + 139 else if id = 1003 then j + 278 else if id = 1004 then j + 279
  else if id < 1111 then j + 1 + (id - 1100) else if id = 1121 then j + 12 else if id = 1122 then j + 13 else if id = 1125 then j + 14
  else if kd j = 24 then j + 18 + (id - 100000) else if kd j = 25 then j + 29 + (id - 100000) else if kd j = 26 then j + 52 + (id - 100000) else if kd j = 27 then j + 57 + (id - 100000)
  else j + 1 + 69 * (id - 100000)
def rr (G : Cx) (id a : Nat) : Nat := gB G + rfo id (a - gB G)
/-- field types: 0 int, 1 long, 2 reference, 3 boolean -/
def fty (ci : Nat) : List Nat := match ci with
  | 0 => [2, 2, 2, 2, 2, 0, 0, 0, 0, 2, 2, 2, 2, 0, 0]
  | 1 => [0, 0, 0, 0, 0, 0, 3, 0]
  | 2 => [0, 0, 0]
  | 3 => [0, 0, 0, 0, 0, 0, 3]
  | 4 => [0, 0, 0, 0, 0, 0, 0, 0, 0, 0, 0, 1, 1, 1, 1, 1, 0]
  | 5 => [0, 0, 0, 0, 0, 0]
  | 6 => [2, 0, 0, 1, 1, 1]
  | 7 => [2, 0, 0, 0, 2, 2, 2, 2, 0, 0, 0, 0, 0, 0]
  | 8 => [2, 2, 2, 2, 2, 2, 2, 0, 0, 2]
  | 9 => [0, 0, 0, 0]
  | 10 => [2, 2, 2, 2, 2]
  | _ => []
abbrev classes : List vw_C := [(RX0, TX0, 15), (RX1, TX1, 8), (RX2, TX2, 3), (RX3, TX3, 7), (RX4, TX4, 17), (RX5, TX5, 6), (RX6, TX6, 6), (RX7, TX7, 14), (RX8, TX8, 10), (RX9, TX9, 4), (RX10, TX10, 5), (RL, TL, 6), (RJ4, TJ4, 4), (RJ0, TJ0, 4)]
def gT (G : Cx) : List (ClassId × FieldType) := [(gY G 20, .byte), (gY G 21, .int), (gY G 22, .long), (gY G 23, .boolean), (gY G 24, .object RX4), (gY G 25, .object RX2), (gY G 26, .object RX3), (gY G 27, .object RX1), (gY G 28, .object RX0)]
def fval (G : Cx) (m : Mm) (ty id a : Nat) : Value := if ty = 1 then .long (fl m id a) else if ty = 2 then (if mI m id a = true then .ref (rr G id a) else .null) else .int (fi m id a)
def flds (G : Cx) (m : Mm) (ci a : Nat) : List Value := (List.range (fty ci).length).map (fun k => fval G m ((fty ci).getD k 0) (100 * ci + k) a)
def elq (G : Cx) (m : Mm) (a : Nat) : Nat → Option Nat := fun k => if mI m (100000 + k) a = true then some (rr G (100000 + k) a) else none
def cel (G : Cx) (m : Mm) (j : Nat) : va_E :=
  if kd j < 20 then .inr (kd j, flds G m (kd j) (gB G + j))
  else if kd j = 22 then .inl (gY G 22, ln j, .inr (.inl (al m (gB G + j))))
  else if kd j < 24 then .inl (gY G (kd j), ln j, .inl (ai m (gB G + j)))
  else .inl (gY G (kd j), ln j, .inr (.inr (.inr (.inr (elq G m (gB G + j))))))
def wld (G : Cx) (m : Mm) : va_W := (List.range (mN m)).map (fun j => (gB G + j, cel G m j))
def Rep (G : Cx) (m : Mm) (H : Heap) : Prop := va_P (gD G) classes (wld G m) H ∧ (gM G = true → H.size = gB G + mN m) ∧ (gM G = false → mN m = 293 ∧ gB G + 293 ≤ H.size)
abbrev ab (G : Cx) : Nat → Prop := fun q => gB G ≤ q
abbrev fr (G : Cx) : Nat → Prop := fun q => gB G ≤ q ∧ (gM G = true ∨ q < gB G + 293)
theorem fr_lt {G : Cx} {a : Nat} (h : a < gB G) : ¬ fr G a := fun q => Nat.not_le.mpr h q.1
theorem Rep.fr {G : Cx} {m : Mm} {H : Heap} {j : Nat} (h : Rep G m H) (hj : j < mN m) : fr G (gB G + j) := by
  refine ⟨Nat.le_add_right _ _, ?_⟩
  cases hM : gM G with
  | true => exact Or.inl rfl
  | false =>
    have := (h.2.2 hM).1
    exact Or.inr (by omega)
theorem wld_at {G : Cx} {m : Mm} {j : Nat} (h : j < mN m) : (wld G m)[j]? = some (gB G + j, cel G m j) := by
  simp [wld, h]
theorem wld_D (G : Cx) (m : Mm) : va_D (ab G) (wld G m) := by
  have key : ∀ (i : Nat) (p : Nat × va_E), (wld G m)[i]? = some p → p.1 = gB G + i := by
    intro i p h
    have hi : i < mN m := by
      have := (List.getElem?_eq_some_iff.mp h).1
      simpa [wld] using this
    rw [wld_at hi] at h
    cases h
    rfl
  refine ⟨fun i j p q hp hq e => ?_, fun k q hk => ?_⟩
  · have h1 := key i p hp
    have h2 := key j q hq
    omega
  · show gB G ≤ q.1
    rw [key k q hk]
    exact Nat.le_add_right _ _
/-- a cell of the world written: the world of the new memory -/
theorem wld_set {G : Cx} {m m' : Mm} {j : Nat} {e : va_E} (hn : mN m' = mN m) (hj : cel G m' j = e) (ho : ∀ i, i ≠ j → i < mN m → cel G m' i = cel G m i) : (wld G m).set j (gB G + j, e) = wld G m' := by
  apply List.ext_getElem?
  intro i
  by_cases hi : i < mN m
  · rw [wld_at (m := m') (by rw [hn]; exact hi)]
    by_cases hij : i = j
    · subst hij
      rw [List.getElem?_set_self (by simpa [wld] using hi), hj]
    · rw [List.getElem?_set_ne (Ne.symm hij), wld_at hi, ho i hij hi]
  · have h1 : (wld G m').length ≤ i := by simp [wld, hn]; omega
    have h2 : ((wld G m).set j (gB G + j, e)).length ≤ i := by simp [wld]; omega
    rw [List.getElem?_eq_none h1, List.getElem?_eq_none h2]
theorem flds_at {G : Cx} {m : Mm} {ci a k t : Nat} (h : (fty ci)[k]? = some t) : (flds G m ci a)[k]? = some (fval G m t (100 * ci + k) a) := by
  have hk : k < (fty ci).length := (List.getElem?_eq_some_iff.mp h).1
  unfold flds
  rw [List.getElem?_map, List.getElem?_range hk, Option.map_some, List.getD_eq_getElem?_getD, h]
  rfl
theorem flds_len {G : Cx} {m : Mm} {ci a : Nat} : (flds G m ci a).length = (fty ci).length := by simp [flds]
theorem flds_set {G : Cx} {m m' : Mm} {ci a k t : Nat} {v : Value} (h : (fty ci)[k]? = some t) (hv : fval G m' t (100 * ci + k) a = v) (ho : ∀ i t', i ≠ k → (fty ci)[i]? = some t' → fval G m' t' (100 * ci + i) a = fval G m t' (100 * ci + i) a) : (flds G m ci a).set k v = flds G m' ci a := by
  have hk : k < (fty ci).length := (List.getElem?_eq_some_iff.mp h).1
  apply List.ext_getElem?
  intro i
  by_cases hi : i < (fty ci).length
  · have e1 : (fty ci)[i]? = some (fty ci)[i] := List.getElem?_eq_getElem hi
    rw [flds_at e1]
    by_cases hik : i = k
    · subst hik
      rw [List.getElem?_set_self (by rw [flds_len]; exact hk)]
      rw [h] at e1
      rw [← Option.some.inj e1, hv]
    · rw [List.getElem?_set_ne (Ne.symm hik), flds_at e1, ho i _ hik e1]
  · rw [List.getElem?_eq_none (by rw [List.length_set, flds_len]; omega), List.getElem?_eq_none (by rw [flds_len]; omega)]
/-- the cell a is there, of kind q -/
def isK (G : Cx) (m : Mm) (a q : Nat) : Prop := ∃ j, a = gB G + j ∧ j < mN m ∧ kd j = q
theorem cel_obj {G : Cx} {m : Mm} {j ci : Nat} (h : kd j = ci) (hc : ci < 20) : cel G m j = .inr (ci, flds G m ci (gB G + j)) := by
  subst h
  simp [cel, hc]
theorem cel_int {G : Cx} {m : Mm} {j : Nat} {q : Nat} (h : kd j = q) (hq : q = 20 ∨ q = 21 ∨ q = 23) : cel G m j = .inl (gY G q, ln j, .inl (ai m (gB G + j))) := by
  rcases hq with hq | hq | hq <;> subst hq <;> simp [cel, h]
theorem cel_long {G : Cx} {m : Mm} {j : Nat} (h : kd j = 22) : cel G m j = .inl (gY G 22, ln j, .inr (.inl (al m (gB G + j)))) := by
  simp [cel, h]
theorem cel_ref {G : Cx} {m : Mm} {j : Nat} {q : Nat} (h : kd j = q) (hq : 24 ≤ q) : cel G m j = .inl (gY G q, ln j, .inr (.inr (.inr (.inr (elq G m (gB G + j)))))) := by
  subst h
  have h1 : ¬ kd j < 20 := by omega
  have h2 : ¬ kd j = 22 := by omega
  have h3 : ¬ kd j < 24 := by omega
  simp [cel, h1, h2, h3]
theorem cel_wfi {G : Cx} {m : Mm} {f a i : Nat} {x : Int32} (h : gB G + i ≠ a) : cel G (wfi m f a x) i = cel G m i := by
  have e : ∀ id, fi (wfi m f a x) id (gB G + i) = fi m id (gB G + i) := fun id => if_neg (fun q => h q.2 : ¬ (id = f ∧ gB G + i = a))
  have e2 : flds G (wfi m f a x) (kd i) (gB G + i) = flds G m (kd i) (gB G + i) := by
    unfold flds
    congr 1
    funext k
    unfold fval
    rw [e]
    rfl
  unfold cel
  rw [e2]
  rfl
theorem cel_wfl {G : Cx} {m : Mm} {f a i : Nat} {x : Int64} (h : gB G + i ≠ a) : cel G (wfl m f a x) i = cel G m i := by
  have e : ∀ id, fl (wfl m f a x) id (gB G + i) = fl m id (gB G + i) := fun id => if_neg (fun q => h q.2 : ¬ (id = f ∧ gB G + i = a))
  have e2 : flds G (wfl m f a x) (kd i) (gB G + i) = flds G m (kd i) (gB G + i) := by
    unfold flds
    congr 1
    funext k
    unfold fval
    rw [e]
    rfl
  unfold cel
  rw [e2]
  rfl
theorem cel_wI {G : Cx} {m : Mm} {f a i : Nat} (h : gB G + i ≠ a) : cel G (wI m f a) i = cel G m i := by
  have e : ∀ id, mI (wI m f a) id (gB G + i) = mI m id (gB G + i) := fun id => if_neg (fun q => h q.2 : ¬ (id = f ∧ gB G + i = a))
  have e1 : elq G (wI m f a) (gB G + i) = elq G m (gB G + i) := by
    funext k
    unfold elq
    rw [e]
  have e2 : flds G (wI m f a) (kd i) (gB G + i) = flds G m (kd i) (gB G + i) := by
    unfold flds
    congr 1
    funext k
    unfold fval
    rw [e]
    rfl
  unfold cel
  rw [e1, e2]
  rfl
theorem cel_wai {G : Cx} {m : Mm} {a k i : Nat} {x : Int32} (h : gB G + i ≠ a) : cel G (wai m a k x) i = cel G m i := by
  have e : ai (wai m a k x) (gB G + i) = ai m (gB G + i) := by
    funext j
    simp only [wai, ai, up2, h, false_and, if_false]
  simp only [cel, e]
  rfl
theorem cel_waf {G : Cx} {m : Mm} {a i : Nat} {f : Nat → Int32} (h : gB G + i ≠ a) : cel G (waf m a f) i = cel G m i := by
  have e : ai (waf m a f) (gB G + i) = ai m (gB G + i) := by
    funext j
    simp only [waf, ai, h, if_false]
  simp only [cel, e]
  rfl
theorem cel_wal {G : Cx} {m : Mm} {a k i : Nat} {x : Int64} (h : gB G + i ≠ a) : cel G (wal m a k x) i = cel G m i := by
  have e : al (wal m a k x) (gB G + i) = al m (gB G + i) := by
    funext j
    simp only [wal, al, up2, h, false_and, if_false]
  simp only [cel, e]
  rfl
