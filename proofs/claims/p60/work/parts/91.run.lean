/-! SUMS: the reference's machine over tokens. md: 0 a factor begins, 1 a factor is complete, 205.. the number of a part is due; w: what waits (codes; 40 a parenthesis) -/
abbrev Rs : Type := Except (Nat × Nat) (List Tk × List Cd)
def rkW (k : Nat) : Nat := if k = 43 ∨ k = 45 then 1 else if k = 42 ∨ k = 47 then 2 else 0
def efW : List Nat → List Nat
  | [] => []
  | k :: w => if k = 220 then efW w else k :: w
def efO : List Nat → List Cd
  | [] => []
  | k :: w => if k = 220 then (220, 0) :: efO w else []
def ppW (r : Nat) : List Nat → List Nat
  | [] => []
  | k :: w => if r ≤ rkW k then ppW r w else k :: w
def ppO (r : Nat) : List Nat → List Cd
  | [] => []
  | k :: w => if r ≤ rkW k then (k, 0) :: ppO r w else []
def dpW : List Nat → Nat
  | [] => 0
  | k :: w => (if k = 220 ∨ k = 40 then 1 else 0) + dpW w
def opW : List Nat → Nat
  | [] => 0
  | k :: w => (if k = 40 then 1 else 0) + opW w
def cnF (nn nl nh k : Nat) : Nat := if k = 205 then nn else if k = 206 then nl else nh
def run (nn nl nh : Nat) : List Tk → Nat → List Nat → List Cd → Rs
  | [], _, _, _ => .error (0, 0)
  | k :: ts, md, w, out =>
    if md = 0 then
      if k.1 = 45 ∨ k.1 = 40 then (if dpW w < 20 then run nn nl nh ts 0 ((if k.1 = 45 then 220 else 40) :: w) out else .error (4, k.2.1))
      else if k.1 = 200 then (if k.2.2 ≤ 999999 then run nn nl nh ts 1 (efW w) ((out ++ [(200, k.2.2)]) ++ efO w) else .error (2, k.2.1))
      else if k.1 = 205 ∨ k.1 = 206 ∨ k.1 = 207 then run nn nl nh ts k.1 w out
      else if k.1 = 208 ∨ k.1 = 209 ∨ k.1 = 210 ∨ k.1 = 211 then run nn nl nh ts 1 (efW w) ((out ++ [(k.1, 0)]) ++ efO w)
      else .error (1, k.2.1)
    else if md = 1 then
      if k.1 = 43 ∨ k.1 = 45 ∨ k.1 = 42 ∨ k.1 = 47 then run nn nl nh ts 0 (k.1 :: ppW (rkW k.1) w) (out ++ ppO (rkW k.1) w)
      else if k.1 = 41 ∧ 0 < opW w then run nn nl nh ts 1 (efW (ppW 1 w).tail) ((out ++ ppO 1 w) ++ efO (ppW 1 w).tail)
      else if opW w = 0 then .ok (k :: ts, out ++ ppO 1 w)
      else .error (1, k.2.1)
    else if k.1 = 200 then (if k.2.2 < cnF nn nl nh md then run nn nl nh ts 1 (efW w) ((out ++ [(md, k.2.2)]) ++ efO w) else .error (2, k.2.1))
    else .error (1, k.2.1)
/-- behind a factor: the minus signs ahead of it end -/
def runE (nn nl nh : Nat) (ts : List Tk) (w : List Nat) (out : List Cd) : Rs := run nn nl nh ts 1 (efW w) (out ++ efO w)
section RUN
variable {nn nl nh : Nat} {k : Tk} {ts : List Tk} {w : List Nat} {out : List Cd}
theorem run_neg (h : k.1 = 45) (hd : dpW w < 20) : run nn nl nh (k :: ts) 0 w out = run nn nl nh ts 0 (220 :: w) out := by
  rw [run, if_pos rfl, if_pos (Or.inl h), if_pos hd, if_pos h]
theorem run_par (h : k.1 = 40) (hd : dpW w < 20) : run nn nl nh (k :: ts) 0 w out = run nn nl nh ts 0 (40 :: w) out := by
  rw [run, if_pos rfl, if_pos (Or.inr h), if_pos hd, if_neg (by omega)]
theorem run_deep (h : k.1 = 45 ∨ k.1 = 40) (hd : ¬ dpW w < 20) : run nn nl nh (k :: ts) 0 w out = .error (4, k.2.1) := by
  rw [run, if_pos rfl, if_pos h, if_neg hd]
theorem run_num (h : k.1 = 200) (hv : k.2.2 ≤ 999999) : run nn nl nh (k :: ts) 0 w out = runE nn nl nh ts w (out ++ [(200, k.2.2)]) := by
  rw [run, if_pos rfl, if_neg (by omega), if_pos h, if_pos hv]
  rfl
theorem run_numx (h : k.1 = 200) (hv : ¬ k.2.2 ≤ 999999) : run nn nl nh (k :: ts) 0 w out = .error (2, k.2.1) := by
  rw [run, if_pos rfl, if_neg (by omega), if_pos h, if_neg hv]
theorem run_rd (h : k.1 = 208 ∨ k.1 = 209 ∨ k.1 = 210 ∨ k.1 = 211) : run nn nl nh (k :: ts) 0 w out = runE nn nl nh ts w (out ++ [(k.1, 0)]) := by
  rw [run, if_pos rfl, if_neg (by omega), if_neg (by omega), if_neg (by omega), if_pos h]
  rfl
theorem run_pt (h : k.1 = 205 ∨ k.1 = 206 ∨ k.1 = 207) : run nn nl nh (k :: ts) 0 w out = run nn nl nh ts k.1 w out := by
  rw [run, if_pos rfl, if_neg (by omega), if_neg (by omega), if_pos h]
theorem run_ptn {md : Nat} (hm : md = 205 ∨ md = 206 ∨ md = 207) (h : k.1 = 200) (hv : k.2.2 < cnF nn nl nh md) : run nn nl nh (k :: ts) md w out = runE nn nl nh ts w (out ++ [(md, k.2.2)]) := by
  rw [run, if_neg (by omega), if_neg (by omega), if_pos h, if_pos hv]
  rfl
theorem run_ptx {md : Nat} (hm : md = 205 ∨ md = 206 ∨ md = 207) (h : k.1 = 200) (hv : ¬ k.2.2 < cnF nn nl nh md) : run nn nl nh (k :: ts) md w out = .error (2, k.2.1) := by
  rw [run, if_neg (by omega), if_neg (by omega), if_pos h, if_neg hv]
theorem run_pty {md : Nat} (hm : md = 205 ∨ md = 206 ∨ md = 207) (h : ¬ k.1 = 200) : run nn nl nh (k :: ts) md w out = .error (1, k.2.1) := by
  rw [run, if_neg (by omega), if_neg (by omega), if_neg h]
def leafK (k : Nat) : Prop := k = 45 ∨ k = 40 ∨ k = 200 ∨ k = 205 ∨ k = 206 ∨ k = 207 ∨ k = 208 ∨ k = 209 ∨ k = 210 ∨ k = 211
theorem run_bad (h : ¬ leafK k.1) : run nn nl nh (k :: ts) 0 w out = .error (1, k.2.1) := by
  unfold leafK at h
  rw [run, if_pos rfl, if_neg (by omega), if_neg (by omega), if_neg (by omega), if_neg (by omega)]
def binK (k : Nat) : Prop := k = 43 ∨ k = 45 ∨ k = 42 ∨ k = 47
theorem run_bin (h : binK k.1) : run nn nl nh (k :: ts) 1 w out = run nn nl nh ts 0 (k.1 :: ppW (rkW k.1) w) (out ++ ppO (rkW k.1) w) := by
  rw [run, if_neg (by omega), if_pos rfl]
  exact if_pos h
theorem run_cl (h : k.1 = 41) (ho : 0 < opW w) : run nn nl nh (k :: ts) 1 w out = runE nn nl nh ts (ppW 1 w).tail (out ++ ppO 1 w) := by
  rw [run, if_neg (by omega), if_pos rfl, if_neg (by omega), if_pos ⟨h, ho⟩]
  rfl
theorem run_ok (h : ¬ binK k.1) (ho : opW w = 0) : run nn nl nh (k :: ts) 1 w out = .ok (k :: ts, out ++ ppO 1 w) := by
  rw [run, if_neg (by omega), if_pos rfl]
  exact (if_neg h).trans ((if_neg (by omega)).trans (if_pos ho))
theorem run_op (h : ¬ binK k.1) (h41 : ¬ k.1 = 41) (ho : ¬ opW w = 0) : run nn nl nh (k :: ts) 1 w out = .error (1, k.2.1) := by
  rw [run, if_neg (by omega), if_pos rfl]
  exact (if_neg h).trans ((if_neg (fun q => h41 q.1)).trans (if_neg ho))
theorem opW_bin {op : Nat} (h : binK op) : opW (op :: w) = opW w := by
  unfold binK at h
  show (if op = 40 then 1 else 0) + opW w = _
  rw [if_neg (by omega), Nat.zero_add]
theorem dpW_bin {op : Nat} (h : binK op) : dpW (op :: w) = dpW w := by
  unfold binK at h
  show (if op = 220 ∨ op = 40 then 1 else 0) + dpW w = _
  rw [if_neg (by omega), Nat.zero_add]
theorem dpW_neg : dpW (220 :: w) = dpW w + 1 := by
  show (if 220 = 220 ∨ 220 = 40 then 1 else 0) + dpW w = _
  rw [if_pos (Or.inl rfl), Nat.add_comm]
theorem dpW_par : dpW (40 :: w) = dpW w + 1 := by
  show (if 40 = 220 ∨ 40 = 40 then 1 else 0) + dpW w = _
  rw [if_pos (Or.inr rfl), Nat.add_comm]
theorem opW_par : opW (40 :: w) = opW w + 1 := by
  show (if 40 = 40 then 1 else 0) + opW w = _
  rw [if_pos rfl, Nat.add_comm]
/-- a waiting operation may as well be given out, if what comes next would -/
theorem run_lazy {op : Nat} (hop : binK op) (hk : rkW k.1 ≤ rkW op) : run nn nl nh (k :: ts) 1 (op :: w) out = run nn nl nh (k :: ts) 1 w (out ++ [(op, 0)]) := by
  have hr : 1 ≤ rkW op := by
    unfold binK at hop
    unfold rkW
    split
    · exact Nat.le_refl _
    · rw [if_pos (by omega)]
      decide
  have e1 : ∀ r, r ≤ rkW op → ppW r (op :: w) = ppW r w := fun r h => if_pos h
  have e2 : ∀ r, r ≤ rkW op → ppO r (op :: w) = (op, 0) :: ppO r w := fun r h => if_pos h
  have e3 : ∀ r, out ++ (op, 0) :: ppO r w = (out ++ [(op, 0)]) ++ ppO r w := fun r => by rw [List.append_assoc]; rfl
  have e4 : ∀ v o, run nn nl nh (k :: ts) 1 v o = (if k.1 = 43 ∨ k.1 = 45 ∨ k.1 = 42 ∨ k.1 = 47 then run nn nl nh ts 0 (k.1 :: ppW (rkW k.1) v) (o ++ ppO (rkW k.1) v)
      else if k.1 = 41 ∧ 0 < opW v then run nn nl nh ts 1 (efW (ppW 1 v).tail) ((o ++ ppO 1 v) ++ efO (ppW 1 v).tail)
      else if opW v = 0 then .ok (k :: ts, o ++ ppO 1 v)
      else .error (1, k.2.1)) := fun v o => by
    rw [run, if_neg (by decide), if_pos rfl]
  rw [e4, e4, opW_bin hop, e1 _ hk, e2 _ hk, e1 _ hr, e2 _ hr, e3, e3]
theorem runE_neg : runE nn nl nh ts (220 :: w) out = runE nn nl nh ts w (out ++ [(220, 0)]) := by
  show run nn nl nh ts 1 (if 220 = 220 then efW w else 220 :: w) (out ++ (if 220 = 220 then (220, 0) :: efO w else [])) = run nn nl nh ts 1 (efW w) ((out ++ [(220, 0)]) ++ efO w)
  rw [if_pos rfl, if_pos rfl, List.append_assoc]
  rfl
/-- the top of what waits -/
def Tp (r : Nat) (w : List Nat) : Prop := w = [] ∨ ∃ k v, w = k :: v ∧ k ≠ 220 ∧ rkW k ≤ r
theorem Tp.ef {r : Nat} (h : Tp r w) : efW w = w ∧ efO w = [] := by
  rcases h with rfl | ⟨k, v, rfl, h1, h2⟩
  · exact ⟨rfl, rfl⟩
  · exact ⟨if_neg h1, if_neg h1⟩
theorem Tp.rE {r : Nat} (h : Tp r w) : runE nn nl nh ts w out = run nn nl nh ts 1 w out := by
  unfold runE
  rw [h.ef.1, h.ef.2, List.append_nil]
theorem Tp.pp {r q : Nat} (h : Tp r w) (hq : r < q) : ppW q w = w ∧ ppO q w = [] := by
  rcases h with rfl | ⟨k, v, rfl, h1, h2⟩
  · exact ⟨rfl, rfl⟩
  · exact ⟨if_neg (by omega), if_neg (by omega)⟩
theorem Tp.mono {r q : Nat} (h : Tp r w) (hq : r ≤ q) : Tp q w := by
  rcases h with h | ⟨k, v, e, h1, h2⟩
  · exact Or.inl h
  · exact Or.inr ⟨k, v, e, h1, by omega⟩
theorem Tp.par : Tp 0 (40 :: w) := Or.inr ⟨40, w, rfl, by decide, by decide⟩
theorem Tp.nil : Tp 0 [] := Or.inl rfl
theorem Tp.bin {op : Nat} (h : binK op) : Tp (rkW op) (op :: w) := Or.inr ⟨op, w, rfl, by unfold binK at h; omega, Nat.le_refl _⟩
theorem rk_mul {op : Nat} (h : op = 42 ∨ op = 47) : rkW op = 2 := by rcases h with rfl | rfl <;> rfl
theorem rk_add {op : Nat} (h : op = 43 ∨ op = 45) : rkW op = 1 := by rcases h with rfl | rfl <;> rfl
theorem rk_le1 {k : Nat} (h : ¬ (k = 42 ∨ k = 47)) : rkW k ≤ 1 := by
  unfold rkW
  split
  · exact Nat.le_refl _
  · exact Nat.zero_le _
theorem rk_le2 (k : Nat) : rkW k ≤ 2 := by
  unfold rkW
  split
  · decide
  · split <;> decide
end RUN
