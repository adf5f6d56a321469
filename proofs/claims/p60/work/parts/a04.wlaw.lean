/-! THE LAW'S OBJECT -/
abbrev Lc : Type := Nat × Nat × Nat × Nat
def lB (Λ : Lc) : Nat := Λ.1
def lP (Λ : Lc) : Nat := Λ.2.1
def lW (Λ : Lc) : Nat := Λ.2.2.1
def lR (Λ : Lc) : Nat := Λ.2.2.2
/-- next, priority, power, rate -/
abbrev Lx : Type := Nat × (Nat → Int32) × (Nat → Int32) × (Nat → Int32)
def xN (X : Lx) : Nat := X.1
def xP (X : Lx) : Nat → Int32 := X.2.1
def xW (X : Lx) : Nat → Int32 := X.2.2.1
def xR (X : Lx) : Nat → Int32 := X.2.2.2
def lws (G : Cx) (Λ : Lc) (X : Lx) (ext : va_W) : va_W :=
  ((gB G, Sum.inr (11, [.ref (lB Λ), .ref (gSa G), .int (nI (xN X)), .ref (lP Λ), .ref (lW Λ), .ref (lR Λ)])) : Nat × va_E) :: ((lP Λ, Sum.inl (gY G 21, 8, Sum.inl (xP X))) : Nat × va_E) :: ((lW Λ, Sum.inl (gY G 21, 8, Sum.inl (xW X))) : Nat × va_E) :: ((lR Λ, Sum.inl (gY G 21, 6, Sum.inl (xR X))) : Nat × va_E) :: ext
def lm (G : Cx) (Λ : Lc) (X : Lx) (ext : va_W) (m : Mm) (ce : List (Nat × Mm)) : LM := (lws G Λ X ext, (lB Λ, m) :: ce)
theorem irem_nn {x y : Int32} (hx : 0 ≤ x.toInt) (hy : 0 < y.toInt) : (x - x / y * y).toInt = x.toInt % y.toInt := by
  have b1 := Int32.toInt_lt x
  have b2 := Int32.toInt_lt y
  have q1 : (x / y).toInt = x.toInt / y.toInt := by
    rw [Int32.toInt_div, Int.tdiv_eq_ediv_of_nonneg hx]
    have h0 : 0 ≤ x.toInt / y.toInt := Int.ediv_nonneg hx (by omega)
    have h1 : x.toInt / y.toInt ≤ x.toInt := Int.ediv_le_self _ hx
    exact Int.bmod_eq_of_le (by omega) (by omega)
  have h0 : 0 ≤ x.toInt / y.toInt := Int.ediv_nonneg hx (by omega)
  have hm := Int.mul_ediv_add_emod x.toInt y.toInt
  have hm0 := Int.emod_nonneg x.toInt (show y.toInt ≠ 0 by omega)
  have hp : 0 ≤ x.toInt / y.toInt * y.toInt := Int.mul_nonneg h0 (by omega)
  rw [Int.mul_comm] at hm
  have q2 : (x / y * y).toInt = x.toInt / y.toInt * y.toInt := by
    rw [Int32.toInt_mul, q1]
    exact Int.bmod_eq_of_le (by omega) (by omega)
  rw [Int32.toInt_sub, q2]
  have e : x.toInt - x.toInt / y.toInt * y.toInt = x.toInt % y.toInt := by omega
  have hlt := Int.emod_lt_of_pos x.toInt hy
  rw [e]
  exact Int.bmod_eq_of_le (by omega) (by omega)
theorem and_nn (x : Int32) : 0 ≤ (x &&& 2147483647).toInt := by
  have h : (x.toBitVec &&& 2147483647#32).msb = false := by
    rw [BitVec.msb_and, show (2147483647#32).msb = false from by decide, Bool.and_false]
  show 0 ≤ (x &&& 2147483647).toBitVec.toInt
  rw [Int32.toBitVec_and]
  show 0 ≤ (x.toBitVec &&& 2147483647#32).toInt
  rw [BitVec.toInt_eq_toNat_of_msb h]
  omega
theorem nI_ofI {x : Int32} {n : Nat} (h : x.toInt = (n : Int)) : x = nI n := by
  have hx := Int32.toInt_lt x
  apply Int32.toInt_inj.mp
  rw [h, nI_toInt (by omega)]
theorem rgn {v : Nat} {a b : Int} (ha : a ≤ (v : Int)) (hb : (v : Int) ≤ b) (h : v < 2 ^ 31) : rg (nI v) a b := by
  have e := nI_toInt h
  exact ⟨by rw [e]; exact ha, by rw [e]; exact hb⟩
theorem rgw {u v w : Nat} (h1 : u ≤ v) (h2 : v ≤ w) (h : w < 2 ^ 31) : rg (nI v) (nI u).toInt (nI w).toInt := by
  rw [nI_toInt h, nI_toInt (n := u) (by omega)]
  exact rgn (by omega) (by omega) (by omega)
theorem rgw0 {v w : Nat} (h2 : v ≤ w) (h : w < 2 ^ 31) : rg (nI v) 0 (nI w).toInt := by
  rw [nI_toInt h]
  exact rgn (by omega) (by omega) (by omega)
theorem rgs {v c : Nat} {a b : Int} (ha : a ≤ (v : Int) - c) (hb : (v : Int) - c ≤ b) (hv : v < 2 ^ 30) (hc : c < 2 ^ 30) : rg (nI v - nI c) a b := by
  have e1 := nI_toInt (n := v) (by omega)
  have e2 := nI_toInt (n := c) (by omega)
  have e : (nI v - nI c).toInt = (v : Int) - c := by
    rw [Int32.toInt_sub, e1, e2]
    exact Int.bmod_eq_of_le (by omega) (by omega)
  exact ⟨by rw [e]; exact ha, by rw [e]; exact hb⟩
theorem nsubI {v c : Nat} (hv : v < 2 ^ 30) (hc : c < 2 ^ 30) : (nI v - nI c).toInt = (v : Int) - c := by
  rw [Int32.toInt_sub, nI_toInt (n := v) (by omega), nI_toInt (n := c) (by omega)]
  exact Int.bmod_eq_of_le (by omega) (by omega)
section DRAW
variable {G : Cx} {d : Nat} {Q : Option Value → LM → Prop}
theorem wl_at {k : Nat} {M : LM} (hk : k < 2 ^ 31) (hs : gSl G ≤ 260) (kk : ∀ v, Q (some (.int v)) M) : WZM G d (0, 0) μL_at [.ref (gSa G), .int (nI k)] M Q := by
  refine WZM.of pL (Nat.le_of_ble_eq_true rfl) rfl ?_
  have tail2 : ∀ v w : Int32, WZ G d (0, 0) μL_at 38 [.ref (gSa G), .int (nI k), .int v] [.int w] M Q := fun v w => wl_iret dL_at_38 rfl (kk w)
  have tail : ∀ v : Int32, WZ G d (0, 0) μL_at 13 [.ref (gSa G), .int (nI k), lvU] [.int v] M Q := fun v => by
    refine wl_istore_n dL_at_13 (by decide) rfl ?_
    refine wl_iload_n dL_at_14 rfl ?_
    refine wl_if_le 37 dL_at_15 (by decide) (fun _ => ?_) (fun _ => ?_)
    · refine wl_iload_n dL_at_37 rfl ?_
      exact tail2 v v
    · refine wl_iload_n dL_at_18 rfl ?_
      refine wl_sipush (512 : Int32) dL_at_19 (by decide) ?_
      refine wl_icmp_ge 37 dL_at_22 (by decide) (fun _ => ?_) (fun _ => ?_)
      · refine wl_iload_n dL_at_37 rfl ?_
        exact tail2 v v
      · refine wl_iload_n dL_at_25 rfl ?_
        refine wl_ldc dL_at_26 kL_26 ?_
        refine wl_imul dL_at_28 ?_
        refine wl_iload_n dL_at_29 rfl ?_
        refine wl_ldc dL_at_30 kL_27 ?_
        refine wl_imul dL_at_32 ?_
        refine wl_ixor dL_at_33 ?_
        refine wl_goto 38 dL_at_34 (by decide) ?_
        exact tail2 v _
  refine wl_iload_n dL_at_0 rfl ?_
  refine wl_aload_n dL_at_1 rfl ?_
  refine wl_slen dL_at_2 ?_
  refine wl_icmp_ge 12 dL_at_3 (by decide) (fun _ => ?_) (fun h => ?_)
  · refine wl_iconst (0 : Int32) dL_at_12 (by decide) ?_
    exact tail 0
  · have hlt : k < gSl G := nlt h hk (by omega)
    refine wl_aload_n dL_at_6 rfl ?_
    refine wl_iload_n dL_at_7 rfl ?_
    refine wl_sld k dL_at_8 rfl hlt (by omega) ?_
    refine wl_goto 13 dL_at_9 (by decide) ?_
    exact tail _
theorem wl_draw {Λ : Lc} {X : Lx} {ext : va_W} {m : Mm} {ce : List (Nat × Mm)} {n : Int32} (hs : gSl G ≤ 260) (hx : xN X + 1 < 2 ^ 31) (hn : 0 < n.toInt) (kk : ∀ v : Nat, (v : Int) < n.toInt → Q (some (.int (nI v))) (lm G Λ (xN X + 1, X.2) ext m ce)) : WZM G (d + 2) (0, 0) μL_draw [.ref (gB G), .int n] (lm G Λ X ext m ce) Q := by
  refine WZM.of pL (Nat.le_of_ble_eq_true rfl) rfl ?_
  refine wl_aload_n dL_draw_0 rfl ?_
  refine wl_get 0 (.ref (gSa G)) dL_draw_1 fL_28 rfl rfl ?_
  refine wl_aload_n dL_draw_4 rfl ?_
  refine wl_get 0 (.int (nI (xN X))) dL_draw_5 fL_31 rfl rfl ?_
  refine wl_iconst (1 : Int32) dL_draw_8 (by decide) ?_
  refine wl_aload_n dL_draw_9 rfl ?_
  refine wl_get 0 (.ref (gSa G)) dL_draw_10 fL_28 rfl rfl ?_
  refine wl_slen dL_draw_13 ?_
  refine wl_maxI dL_draw_14 AL_35 (Nat.le_of_ble_eq_true rfl) ?_
  have em : 0 < (imax (1 : Int32) (nI (gSl G))).toInt := by
    have e1 : (1 : Int32).toInt = 1 := rfl
    have e2 : (nI (gSl G)).toInt = ((gSl G : Nat) : Int) := nI_toInt (by omega)
    unfold imax
    by_cases h : (1 : Int32) < nI (gSl G)
    · rw [if_pos h]
      rw [Int32.lt_iff_toInt_lt] at h
      omega
    · rw [if_neg h]
      omega
  have e0 : (nI (xN X)).toInt = ((xN X : Nat) : Int) := nI_toInt (by omega)
  refine wl_irem dL_draw_17 (fun z => by rw [z] at em; exact absurd em (by decide)) ?_
  have hr := irem_nn (x := nI (xN X)) (y := imax (1 : Int32) (nI (gSl G))) (by omega) em
  have hr0 := Int.emod_nonneg (nI (xN X)).toInt (show (imax (1 : Int32) (nI (gSl G))).toInt ≠ 0 by omega)
  obtain ⟨k, hk⟩ : ∃ k : Nat, (nI (xN X)).toInt % (imax (1 : Int32) (nI (gSl G))).toInt = (k : Int) := ⟨_, (Int.toNat_of_nonneg hr0).symm⟩
  have hkI : nI (xN X) - nI (xN X) / imax (1 : Int32) (nI (gSl G)) * imax (1 : Int32) (nI (gSl G)) = nI k := nI_ofI (hr.trans hk)
  have hkb : k < 2 ^ 31 := by
    have := Int32.toInt_lt (nI (xN X) - nI (xN X) / imax (1 : Int32) (nI (gSl G)) * imax (1 : Int32) (nI (gSl G)))
    omega
  rw [hkI]
  refine wl_callS (As := [.ref (gSa G), .int (nI k)]) (S := []) (b' := (0, 0)) (b := (0, 0)) dL_draw_18 ML_41 rfl rfl (Nat.le_of_ble_eq_true rfl) ?_
  refine wl_at hkb hs (fun v => ?_)
  show WZ G (d + 2) (0, 0) μL_draw 21 [.ref (gB G), .int n, lvU] [.int v] (lm G Λ X ext m ce) Q
  refine wl_aload_n dL_draw_21 rfl ?_
  refine wl_get 0 (.int (nI (xN X))) dL_draw_22 fL_31 rfl rfl ?_
  refine wl_ldc dL_draw_25 kL_45 ?_
  refine wl_imul dL_draw_27 ?_
  refine wl_iadd dL_draw_28 ?_
  refine wl_istore_n dL_draw_29 (by decide) rfl ?_
  refine wl_aload_n dL_draw_30 rfl ?_
  refine wl_dup dL_draw_31 rfl ?_
  refine wl_get 0 (.int (nI (xN X))) dL_draw_32 fL_31 rfl rfl ?_
  refine wl_iconst (1 : Int32) dL_draw_35 (by decide) ?_
  refine wl_iaddv (nI (xN X + 1)) dL_draw_36 (nadd rfl) ?_
  refine wl_put 0 (lws G Λ (xN X + 1, X.2) ext) dL_draw_37 pL_31 rfl (Nat.le_of_ble_eq_true rfl) rfl rfl rfl ?_
  refine wl_iload_n dL_draw_40 rfl ?_
  refine wl_iload_n dL_draw_41 rfl ?_
  refine wl_bipush (15 : Int32) dL_draw_42 (by decide) ?_
  refine wl_iushr dL_draw_44 ?_
  refine wl_ixor dL_draw_45 ?_
  refine wl_istore_n dL_draw_46 (by decide) rfl ?_
  refine wl_iload_n dL_draw_47 rfl ?_
  refine wl_ldc dL_draw_48 kL_46 ?_
  refine wl_imul dL_draw_50 ?_
  refine wl_istore_n dL_draw_51 (by decide) rfl ?_
  refine wl_iload_n dL_draw_52 rfl ?_
  refine wl_iload_n dL_draw_53 rfl ?_
  refine wl_bipush (13 : Int32) dL_draw_54 (by decide) ?_
  refine wl_iushr dL_draw_56 ?_
  refine wl_ixor dL_draw_57 ?_
  refine wl_istore_n dL_draw_58 (by decide) rfl ?_
  refine wl_iload_n dL_draw_59 rfl ?_
  refine wl_ldc dL_draw_60 kL_47 ?_
  refine wl_iand dL_draw_62 ?_
  have fin : ∀ x : Int32, WZ G (d + 2) (0, 0) μL_draw 63 [.ref (gB G), .int n, lvU] [.int (x &&& 2147483647)] (lm G Λ (xN X + 1, X.2) ext m ce) Q := fun x => by
    have hw := and_nn x
    refine wl_iload_n dL_draw_63 rfl ?_
    refine wl_irem dL_draw_64 (fun z => by rw [z] at hn; exact absurd hn (by decide)) ?_
    have hz := irem_nn hw hn
    have hz0 := Int.emod_nonneg (x &&& 2147483647).toInt (show n.toInt ≠ 0 by omega)
    have hz1 := Int.emod_lt_of_pos (x &&& 2147483647).toInt hn
    obtain ⟨w, hwk⟩ := Int.eq_ofNat_of_zero_le hz0
    have hwI := nI_ofI (hz.trans hwk)
    rw [hwI]
    exact wl_iret dL_draw_65 rfl (kk w (by omega))
  exact wl_forget [.ref (gB G), .int n, lvU] ⟨Or.inl rfl, Or.inl rfl, Or.inr rfl, trivial⟩ (fin _)
end DRAW
