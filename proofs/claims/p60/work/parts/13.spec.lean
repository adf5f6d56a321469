/-! THE REFERENCE'S STATE, AS FUNCTIONS: st, the array of 1486 ints; en, the three energies -/
abbrev rg (x : Int32) (a b : Int) : Prop := a ≤ x.toInt ∧ x.toInt ≤ b
def phF (st : Nat → Int32) : Int32 := st 0 - st 0 / st 2 * st 2
def sunF (st : Nat → Int32) : Int32 := if phF st < st 3 then 1 else if phF st < st 4 then 0 else 1
def absF (st : Nat → Int32) (i : Nat) : Int64 := if sunF st = 0 then Int32.toInt64 (st (11 * i + 22)) * Int32.toInt64 (st 7) / 10 else Int32.toInt64 (st (11 * i + 22)) * Int32.toInt64 (st 7) / 10 + (Int32.toInt64 (st (11 * i + 23)) * Int32.toInt64 (st 5) / 10 + Int32.toInt64 (st (11 * i + 23)) * Int32.toInt64 (st 5) * Int32.toInt64 (st 6) / 1000)
def upF (st : Nat → Int32) : Nat → Int32
  | 0 => 0
  | h + 1 => upF st h + (if st (8 * h + 345) = 1 then st (8 * h + 339) else 0)
def areaF (st : Nat → Int32) (i : Nat) : Nat → Int64
  | 0 => Int32.toInt64 (st (11 * i + 22))
  | l + 1 => areaF st i l + (if st (7 * l + 296) = nI i then Int32.toInt64 (st (7 * l + 297) * st (7 * l + 301) / 1000) else 0)
def kelF (t : Int32) : Int64 := Int32.toInt64 ((t + 273150) / 1000)
def emA (a : Int64) (t : Int32) : Int64 := a * kelF t * kelF t * kelF t * kelF t * 567 / 100000000000
def emF (st : Nat → Int32) (nl i : Nat) : Int64 := emA (areaF st i nl) (st (11 * i + 21))
def flowF (c ta tb : Int32) : Int64 := Int32.toInt64 c * Int32.toInt64 (tb - ta) / 1000
def cdF (st : Nat → Int32) (i : Nat) : Nat → Int64
  | 0 => 0
  | j + 1 => cdF st i j + flowF (st (12 * i + j + 152)) (st (11 * i + 21)) (st (11 * j + 21))
def htF (st : Nat → Int32) (i : Nat) (a : Int64) : Nat → Int64
  | 0 => a
  | h + 1 => htF st i a h + (if st (8 * h + 338) = nI i ∧ st (8 * h + 345) = 1 then Int32.toInt64 (st (8 * h + 339)) else 0)
def netF (st : Nat → Int32) (n nl nh i : Nat) : Int64 := htF st i (Int32.toInt64 (st (11 * i + 24)) + absF st i + cdF st i n - emF st nl i) nh
-- louvres
def tgtF (st : Nat → Int32) (o l : Nat) : Int32 := Int64.toInt32 (lmax 0 (lmin 1000 (Int32.toInt64 (st (11 * o + 21) - st (7 * l + 298)) * 1000 / Int32.toInt64 (st (7 * l + 299) - st (7 * l + 298)))))
def opnF (st : Nat → Int32) (o l : Nat) : Int32 := st (7 * l + 301) + Int64.toInt32 (lmax (Int32.toInt64 (-(st (7 * l + 300)))) (lmin (Int32.toInt64 (st (7 * l + 300))) (Int32.toInt64 (tgtF st o l - st (7 * l + 301)))))
def own (st : Nat → Int32) (k : Nat) : Nat := (st k).toNatClampNeg
def mvS (st : Nat → Int32) (l : Nat) : Nat → Int32 := if st (7 * l + 302) = 1 then st else upd st (7 * l + 301) (opnF st (own st (7 * l + 296)) l)
def mvF (st : Nat → Int32) : Nat → (Nat → Int32)
  | 0 => st
  | l + 1 => mvS (mvF st l) l
-- heaters
def wshF (st : Nat → Int32) (o h : Nat) : Int32 := if st (8 * h + 343) = 0 then (if st (11 * o + 21) < st (8 * h + 340) then 1 else if st (8 * h + 341) < st (11 * o + 21) then 0 else st (8 * h + 344)) else if st (8 * h + 343) = 1 then 1 else 0
def w1S (st : Nat → Int32) (h : Nat) : Nat → Int32 := upd (upd st (8 * h + 344) (wshF st (own st (8 * h + 338)) h)) (8 * h + 345) 0
def w1F (st : Nat → Int32) : Nat → (Nat → Int32)
  | 0 => st
  | h + 1 => w1S (w1F st h) h
/-- one heater is given power, or shed -/
def swS (s : (Nat → Int32) × Int64) (h : Nat) : (Nat → Int32) × Int64 :=
  if s.1 (8 * h + 344) = 0 then s
  else if s.2 < Int32.toInt64 (s.1 (8 * h + 339)) then (upd (upd s.1 (8 * h + 345) 2) 17 (s.1 17 + 1), s.2)
  else (upd s.1 (8 * h + 345) 1, s.2 - Int32.toInt64 (s.1 (8 * h + 339)))
/-- those of priority p, by number -/
def swP (p : Int32) (s : (Nat → Int32) × Int64) : Nat → (Nat → Int32) × Int64
  | 0 => s
  | h + 1 => if (swP p s h).1 (8 * h + 342) = p then swS (swP p s h) h else swP p s h
/-- the priorities from 9 down, k of them -/
def swF (s : (Nat → Int32) × Int64) (nh : Nat) : Nat → (Nat → Int32) × Int64
  | 0 => s
  | k + 1 => swP (9 - nI k) (swF s nh k) nh
def arrF (st : Nat → Int32) : Int64 := if sunF st = 0 then 0 else Int32.toInt64 (st 8)
def avlF (st : Nat → Int32) : Int64 := lmax 0 (Int32.toInt64 (st 11 / st 1) - Int32.toInt64 (st 9) + arrF st)
def chgF (a : Int64) (nh : Nat) (st : Nat → Int32) : Nat → Int32 := upd st 11 (Int64.toInt32 (lmax 0 (lmin (Int32.toInt64 (st 10)) (Int32.toInt64 (st 11) + Int32.toInt64 (st 1) * (a - Int32.toInt64 (st 9) - Int32.toInt64 (upF st nh))))))
def switchF (st : Nat → Int32) (nh : Nat) : Nat → Int32 := chgF (arrF st) nh (swF (w1F st nh, avlF st) nh 10).1
-- heat
def emS (st : Nat → Int32) (nl : Nat) : Nat → Int64
  | 0 => 0
  | i + 1 => emS st nl i + emF st nl i
def abS (st : Nat → Int32) : Nat → Int64
  | 0 => 0
  | i + 1 => abS st i + absF st i
def tmpF (st0 : Nat → Int32) (n nl nh : Nat) (st : Nat → Int32) (i : Nat) : Int32 := Int64.toInt32 (lmax (-200000) (lmin 200000 (Int32.toInt64 (st (11 * i + 21)) + netF st0 n nl nh i * Int32.toInt64 (st 1) / Int32.toInt64 (st (11 * i + 20)))))
def warmF (st0 : Nat → Int32) (n nl nh : Nat) : Nat → (Nat → Int32)
  | 0 => st0
  | i + 1 => upd (warmF st0 n nl nh i) (11 * i + 21) (tmpF st0 n nl nh (warmF st0 n nl nh i) i)
def enF (st : Nat → Int32) (n nl nh : Nat) (en : Nat → Int64) : Nat → Int64 := vp_updL (vp_updL (vp_updL en 0 (en 0 + Int32.toInt64 (st 1) * emS st nl n)) 1 (en 1 + Int32.toInt64 (st 1) * abS st n)) 2 (en 2 + Int32.toInt64 (st 1) * Int32.toInt64 (upF st nh))
-- records
def outF (st : Nat → Int32) (i : Nat) : Bool := decide (st (11 * i + 21) < st (11 * i + 25)) || decide (st (11 * i + 26) < st (11 * i + 21))
def loS (st : Nat → Int32) (i : Nat) : Nat → Int32 := upd (upd st (11 * i + 27) (imin (st (11 * i + 21)) (st (11 * i + 27)))) (11 * i + 28) (imax (st (11 * i + 21)) (st (11 * i + 28)))
def viS (st : Nat → Int32) (i : Nat) : Nat → Int32 := if st (11 * i + 30) = -1 then upd (upd (upd (upd st (11 * i + 29) (st (11 * i + 29) + 1)) (11 * i + 30) (st 0)) (own st 16 + 402) (nI i)) 16 (nI (own st 16 + 1)) else upd st (11 * i + 29) (st (11 * i + 29) + 1)
def recS (st : Nat → Int32) (i : Nat) : Nat → Int32 := if outF st i = true then viS (loS st i) i else loS st i
def recF (st : Nat → Int32) : Nat → (Nat → Int32)
  | 0 => st
  | i + 1 => recS (recF st i) i
def vioF (st : Nat → Int32) : Nat → Int32
  | 0 => 0
  | i + 1 => if outF (recF st i) i = true then 1 else vioF st i
-- numbers of parts, and what holds of them
def InvG (T : Int) (st : Nat → Int32) : Prop := rg (st 0) 0 T ∧ rg (st 1) 1 60 ∧ rg (st 2) 1 100000 ∧ rg (st 8) 0 1000000 ∧ rg (st 9) 0 1000000 ∧ rg (st 10) 0 1000000000 ∧ rg (st 11) 0 (st 10).toInt
def InvN (st : Nat → Int32) (i : Nat) : Prop := rg (st (11 * i + 20)) 1 100000 ∧ rg (st (11 * i + 21)) (-200000) 200000 ∧ rg (st (11 * i + 29)) 0 (st 0).toInt ∧ (st (11 * i + 29) = 0 ↔ st (11 * i + 30) = -1)
def InvL (st : Nat → Int32) (n l : Nat) : Prop := (∃ o, o < n ∧ st (7 * l + 296) = nI o) ∧ rg (st (7 * l + 298)) (-200000) 199999 ∧ rg (st (7 * l + 299)) ((st (7 * l + 298)).toInt + 1) 200000 ∧ rg (st (7 * l + 300)) 1 1000 ∧ (st (7 * l + 302) = 0 ∨ st (7 * l + 302) = 1)
def InvH (st : Nat → Int32) (n h : Nat) : Prop := (∃ o, o < n ∧ st (8 * h + 338) = nI o) ∧ rg (st (8 * h + 339)) 0 100000 ∧ rg (st (8 * h + 342)) 0 9 ∧ (st (8 * h + 344) = 0 ∨ st (8 * h + 344) = 1)
def vcnt (st : Nat → Int32) : Nat → Nat
  | 0 => 0
  | i + 1 => vcnt st i + (if st (11 * i + 29) = 0 then 0 else 1)
def Inv (T : Int) (st : Nat → Int32) (n nl nh : Nat) : Prop := st 12 = nI n ∧ n ≤ 12 ∧ st 13 = nI nl ∧ nl ≤ 6 ∧ st 14 = nI nh ∧ nh ≤ 8 ∧ InvG T st ∧ (∀ i, i < n → InvN st i) ∧ (∀ l, l < nl → InvL st n l) ∧ (∀ h, h < nh → InvH st n h) ∧ st 16 = nI (vcnt st n)
-- what a loop's function leaves as it was
theorem upd_ne {st : Nat → Int32} {k j : Nat} {x : Int32} (h : j ≠ k) : upd st k x j = st j := by simp [upd, h]
theorem upd_eq {st : Nat → Int32} {k : Nat} {x : Int32} : upd st k x k = x := by simp [upd]
theorem mvF_ne (st : Nat → Int32) {k : Nat} : ∀ l, (∀ j, j < l → k ≠ 7 * j + 301) → mvF st l k = st k
  | 0, _ => rfl
  | l + 1, h => by
    have ih := mvF_ne st l (fun j hj => h j (by omega))
    show mvS (mvF st l) l k = st k
    unfold mvS
    split
    · exact ih
    · rw [upd_ne (h l (by omega))]
      exact ih
theorem w1F_ne (st : Nat → Int32) {k : Nat} : ∀ l, (∀ j, j < l → k ≠ 8 * j + 344 ∧ k ≠ 8 * j + 345) → w1F st l k = st k
  | 0, _ => rfl
  | l + 1, h => by
    have ih := w1F_ne st l (fun j hj => h j (by omega))
    show w1S (w1F st l) l k = st k
    unfold w1S
    rw [upd_ne (h l (by omega)).2, upd_ne (h l (by omega)).1]
    exact ih
theorem swS_ne {s : (Nat → Int32) × Int64} {h k : Nat} (h1 : k ≠ 8 * h + 345) (h2 : k ≠ 17) : (swS s h).1 k = s.1 k := by
  unfold swS
  split
  · rfl
  · split
    · show upd (upd s.1 _ _) _ _ k = _
      rw [upd_ne h2, upd_ne h1]
    · show upd s.1 _ _ k = _
      rw [upd_ne h1]
theorem swP_ne (p : Int32) (s : (Nat → Int32) × Int64) {k : Nat} (h2 : k ≠ 17) : ∀ h, (∀ j, j < h → k ≠ 8 * j + 345) → (swP p s h).1 k = s.1 k
  | 0, _ => rfl
  | h + 1, hk => by
    have ih := swP_ne p s h2 h (fun j hj => hk j (by omega))
    unfold swP
    split
    · rw [swS_ne (hk h (by omega)) h2, ih]
    · exact ih
theorem swF_ne (s : (Nat → Int32) × Int64) (nh : Nat) {k : Nat} (h2 : k ≠ 17) (hk : ∀ j, j < nh → k ≠ 8 * j + 345) : ∀ q, (swF s nh q).1 k = s.1 k
  | 0 => rfl
  | q + 1 => by
    have ih := swF_ne s nh h2 hk q
    unfold swF
    rw [swP_ne _ _ h2 nh hk, ih]
theorem warmF_ne (st : Nat → Int32) (n nl nh : Nat) {k : Nat} : ∀ l, (∀ j, j < l → k ≠ 11 * j + 21) → warmF st n nl nh l k = st k
  | 0, _ => rfl
  | l + 1, h => by
    have ih := warmF_ne st n nl nh l (fun j hj => h j (by omega))
    show upd (warmF st n nl nh l) _ _ k = st k
    rw [upd_ne (h l (by omega))]
    exact ih
theorem upF_s (st : Nat → Int32) (h : Nat) : upF st (h + 1) = upF st h + (if st (8 * h + 345) = 1 then st (8 * h + 339) else 0) := rfl
theorem areaF_s (st : Nat → Int32) (i l : Nat) : areaF st i (l + 1) = areaF st i l + (if st (7 * l + 296) = nI i then Int32.toInt64 (st (7 * l + 297) * st (7 * l + 301) / 1000) else 0) := rfl
theorem htF_s (st : Nat → Int32) (i : Nat) (a : Int64) (h : Nat) : htF st i a (h + 1) = htF st i a h + (if st (8 * h + 338) = nI i ∧ st (8 * h + 345) = 1 then Int32.toInt64 (st (8 * h + 339)) else 0) := rfl
