/-! ROWS OF THE LAW'S LEVEL that read no cell (the class's rows over another memory) -/
section ROWS
variable {G : Cx} {d : Nat} {b : Nat × Nat} {μ : MI} {pc : Nat} {L S : List Value} {m : LM} {Q : Option Value → LM → Prop}
theorem wl_iadd {x y : Int32} (hd : decode μ.2.1 pc = .ok (.iadd, 1))  (k : WZ G d b μ (pc + 1) L (.int (x + y) :: S) m Q) : WZ G d b μ pc L (.int y :: .int x :: S) m Q := by
  intro p e R s mi args below meth c H locs cells slots ls F hR hS hL
  exact lv_iadd F.1 F.2.1 hd (k p e R s mi args below meth c H locs cells slots ls F hR hS hL)
theorem wl_isub {x y : Int32} (hd : decode μ.2.1 pc = .ok (.isub, 1))  (k : WZ G d b μ (pc + 1) L (.int (x - y) :: S) m Q) : WZ G d b μ pc L (.int y :: .int x :: S) m Q := by
  intro p e R s mi args below meth c H locs cells slots ls F hR hS hL
  exact lv_isub F.1 F.2.1 hd (k p e R s mi args below meth c H locs cells slots ls F hR hS hL)
theorem wl_imul {x y : Int32} (hd : decode μ.2.1 pc = .ok (.imul, 1))  (k : WZ G d b μ (pc + 1) L (.int (x * y) :: S) m Q) : WZ G d b μ pc L (.int y :: .int x :: S) m Q := by
  intro p e R s mi args below meth c H locs cells slots ls F hR hS hL
  exact lv_imul F.1 F.2.1 hd (k p e R s mi args below meth c H locs cells slots ls F hR hS hL)
theorem wl_iand {x y : Int32} (hd : decode μ.2.1 pc = .ok (.iand, 1))  (k : WZ G d b μ (pc + 1) L (.int (x &&& y) :: S) m Q) : WZ G d b μ pc L (.int y :: .int x :: S) m Q := by
  intro p e R s mi args below meth c H locs cells slots ls F hR hS hL
  exact lv_iand F.1 F.2.1 hd (k p e R s mi args below meth c H locs cells slots ls F hR hS hL)
theorem wl_idiv {x y : Int32} (hd : decode μ.2.1 pc = .ok (.idiv, 1)) (hne : ¬ y = 0) (k : WZ G d b μ (pc + 1) L (.int (x / y) :: S) m Q) : WZ G d b μ pc L (.int y :: .int x :: S) m Q := by
  intro p e R s mi args below meth c H locs cells slots ls F hR hS hL
  exact lv_idiv F.1 F.2.1 hd hne (k p e R s mi args below meth c H locs cells slots ls F hR hS hL)
theorem wl_irem {x y : Int32} (hd : decode μ.2.1 pc = .ok (.irem, 1)) (hne : ¬ y = 0) (k : WZ G d b μ (pc + 1) L (.int (x - x / y * y) :: S) m Q) : WZ G d b μ pc L (.int y :: .int x :: S) m Q := by
  intro p e R s mi args below meth c H locs cells slots ls F hR hS hL
  exact lv_irem F.1 F.2.1 hd hne (k p e R s mi args below meth c H locs cells slots ls F hR hS hL)
theorem wl_ishr {x y : Int32} (hd : decode μ.2.1 pc = .ok (.ishr, 1))  (k : WZ G d b μ (pc + 1) L (.int (x >>> (y &&& 31)) :: S) m Q) : WZ G d b μ pc L (.int y :: .int x :: S) m Q := by
  intro p e R s mi args below meth c H locs cells slots ls F hR hS hL
  exact lv_ishr F.1 F.2.1 hd (k p e R s mi args below meth c H locs cells slots ls F hR hS hL)
theorem wl_ineg {x : Int32} (hd : decode μ.2.1 pc = .ok (.ineg, 1))  (k : WZ G d b μ (pc + 1) L (.int (-x) :: S) m Q) : WZ G d b μ pc L (.int x :: S) m Q := by
  intro p e R s mi args below meth c H locs cells slots ls F hR hS hL
  exact lv_ineg F.1 F.2.1 hd (k p e R s mi args below meth c H locs cells slots ls F hR hS hL)
theorem wl_ladd {x y : Int64} (hd : decode μ.2.1 pc = .ok (.ladd, 1))  (k : WZ G d b μ (pc + 1) L (.long (x + y) :: S) m Q) : WZ G d b μ pc L (.long y :: .long x :: S) m Q := by
  intro p e R s mi args below meth c H locs cells slots ls F hR hS hL
  exact lv_ladd F.1 F.2.1 hd (k p e R s mi args below meth c H locs cells slots ls F hR hS hL)
theorem wl_lsub {x y : Int64} (hd : decode μ.2.1 pc = .ok (.lsub, 1))  (k : WZ G d b μ (pc + 1) L (.long (x - y) :: S) m Q) : WZ G d b μ pc L (.long y :: .long x :: S) m Q := by
  intro p e R s mi args below meth c H locs cells slots ls F hR hS hL
  exact lv_lsub F.1 F.2.1 hd (k p e R s mi args below meth c H locs cells slots ls F hR hS hL)
theorem wl_lmul {x y : Int64} (hd : decode μ.2.1 pc = .ok (.lmul, 1))  (k : WZ G d b μ (pc + 1) L (.long (x * y) :: S) m Q) : WZ G d b μ pc L (.long y :: .long x :: S) m Q := by
  intro p e R s mi args below meth c H locs cells slots ls F hR hS hL
  exact lv_lmul F.1 F.2.1 hd (k p e R s mi args below meth c H locs cells slots ls F hR hS hL)
theorem wl_ldiv {x y : Int64} (hd : decode μ.2.1 pc = .ok (.ldiv, 1)) (hne : ¬ y = 0) (k : WZ G d b μ (pc + 1) L (.long (x / y) :: S) m Q) : WZ G d b μ pc L (.long y :: .long x :: S) m Q := by
  intro p e R s mi args below meth c H locs cells slots ls F hR hS hL
  exact lv_ldiv F.1 F.2.1 hd hne (k p e R s mi args below meth c H locs cells slots ls F hR hS hL)
theorem wl_lneg {x : Int64} (hd : decode μ.2.1 pc = .ok (.lneg, 1))  (k : WZ G d b μ (pc + 1) L (.long (-x) :: S) m Q) : WZ G d b μ pc L (.long x :: S) m Q := by
  intro p e R s mi args below meth c H locs cells slots ls F hR hS hL
  exact lv_lneg F.1 F.2.1 hd (k p e R s mi args below meth c H locs cells slots ls F hR hS hL)
theorem wl_lcmp {x y : Int64} (hd : decode μ.2.1 pc = .ok (.lcmp, 1))  (k : WZ G d b μ (pc + 1) L (.int (lg_cmp x y) :: S) m Q) : WZ G d b μ pc L (.long y :: .long x :: S) m Q := by
  intro p e R s mi args below meth c H locs cells slots ls F hR hS hL
  exact W.lcmp F.1 F.2.1 hd (k p e R s mi args below meth c H locs cells slots ls F hR hS hL)
theorem wl_i2l {x : Int32} (hd : decode μ.2.1 pc = .ok (.i2l, 1))  (k : WZ G d b μ (pc + 1) L (.long x.toInt64 :: S) m Q) : WZ G d b μ pc L (.int x :: S) m Q := by
  intro p e R s mi args below meth c H locs cells slots ls F hR hS hL
  exact lv_i2l F.1 F.2.1 hd rfl (k p e R s mi args below meth c H locs cells slots ls F hR hS hL)
theorem wl_l2i {x : Int64} (hd : decode μ.2.1 pc = .ok (.l2i, 1))  (k : WZ G d b μ (pc + 1) L (.int x.toInt32 :: S) m Q) : WZ G d b μ pc L (.long x :: S) m Q := by
  intro p e R s mi args below meth c H locs cells slots ls F hR hS hL
  exact lv_l2i F.1 F.2.1 hd rfl (k p e R s mi args below meth c H locs cells slots ls F hR hS hL)
theorem wl_i2b {x : Int32} (hd : decode μ.2.1 pc = .ok (.i2b, 1))  (k : WZ G d b μ (pc + 1) L (.int x.toInt8.toInt32 :: S) m Q) : WZ G d b μ pc L (.int x :: S) m Q := by
  intro p e R s mi args below meth c H locs cells slots ls F hR hS hL
  exact lv_i2b F.1 F.2.1 hd rfl (k p e R s mi args below meth c H locs cells slots ls F hR hS hL)
theorem wl_i2c {x : Int32} (hd : decode μ.2.1 pc = .ok (.i2c, 1))  (k : WZ G d b μ (pc + 1) L (.int (x.toUInt32 % 65536).toInt32 :: S) m Q) : WZ G d b μ pc L (.int x :: S) m Q := by
  intro p e R s mi args below meth c H locs cells slots ls F hR hS hL
  exact lv_i2c F.1 F.2.1 hd rfl (k p e R s mi args below meth c H locs cells slots ls F hR hS hL)
theorem wl_dup {v : Value} (hd : decode μ.2.1 pc = .ok (.dup, 1)) (hv : v.category = 1) (k : WZ G d b μ (pc + 1) L (v :: v :: S) m Q) : WZ G d b μ pc L (v :: S) m Q := by
  intro p e R s mi args below meth c H locs cells slots ls F hR hS hL
  exact lv_dup F.1 F.2.1 hd hv (k p e R s mi args below meth c H locs cells slots ls F hR hS hL)
theorem wl_pop {v : Value} (hd : decode μ.2.1 pc = .ok (.pop, 1)) (hv : v.category = 1) (k : WZ G d b μ (pc + 1) L (S) m Q) : WZ G d b μ pc L (v :: S) m Q := by
  intro p e R s mi args below meth c H locs cells slots ls F hR hS hL
  exact lv_pop F.1 F.2.1 hd hv (k p e R s mi args below meth c H locs cells slots ls F hR hS hL)
theorem wl_dup2 {v w : Value} (hd : decode μ.2.1 pc = .ok (.dup2, 1)) (hv : v.category = 1) (hw : w.category = 1) (k : WZ G d b μ (pc + 1) L (v :: w :: v :: w :: S) m Q) : WZ G d b μ pc L (v :: w :: S) m Q := by
  intro p e R s mi args below meth c H locs cells slots ls F hR hS hL
  exact lv_dup2_11 F.1 F.2.1 hd hv hw (k p e R s mi args below meth c H locs cells slots ls F hR hS hL)
theorem wl_iconst {n : Int} (v : Int32) (hd : decode μ.2.1 pc = .ok (.iconst n, 1)) (hv : Int32.ofInt n = v) (k : WZ G d b μ (pc + 1) L (.int v :: S) m Q) : WZ G d b μ pc L (S) m Q := by
  intro p e R s mi args below meth c H locs cells slots ls F hR hS hL
  exact lv_iconst F.1 F.2.1 hd hv (k p e R s mi args below meth c H locs cells slots ls F hR hS hL)
theorem wl_bipush {n : Int} (v : Int32) (hd : decode μ.2.1 pc = .ok (.bipush n, 2)) (hv : (Int8.ofInt n).toInt32 = v) (k : WZ G d b μ (pc + 2) L (.int v :: S) m Q) : WZ G d b μ pc L (S) m Q := by
  intro p e R s mi args below meth c H locs cells slots ls F hR hS hL
  exact lv_bipush F.1 F.2.1 hd hv (k p e R s mi args below meth c H locs cells slots ls F hR hS hL)
theorem wl_sipush {n : Int} (v : Int32) (hd : decode μ.2.1 pc = .ok (.sipush n, 3)) (hv : (Int16.ofInt n).toInt32 = v) (k : WZ G d b μ (pc + 3) L (.int v :: S) m Q) : WZ G d b μ pc L (S) m Q := by
  intro p e R s mi args below meth c H locs cells slots ls F hR hS hL
  exact lv_sipush F.1 F.2.1 hd hv (k p e R s mi args below meth c H locs cells slots ls F hR hS hL)
theorem wl_lconst {n : Fin 2} (v : Int64) (hd : decode μ.2.1 pc = .ok (.lconst n, 1)) (hv : Int64.ofNat (n : Nat) = v) (k : WZ G d b μ (pc + 1) L (.long v :: S) m Q) : WZ G d b μ pc L (S) m Q := by
  intro p e R s mi args below meth c H locs cells slots ls F hR hS hL
  exact lv_lconst F.1 F.2.1 hd hv (k p e R s mi args below meth c H locs cells slots ls F hR hS hL)
theorem wl_iload_n {q : Fin 4} {x : Int32} (hd : decode μ.2.1 pc = .ok (.iload_n q, 1)) (hl : L[(q : Nat)]? = some (.int x)) (k : WZ G d b μ (pc + 1) L (.int x :: S) m Q) : WZ G d b μ pc L (S) m Q := by
  intro p e R s mi args below meth c H locs cells slots ls F hR hS hL
  exact lv_iload_n F.1 F.2.1 hd rfl (hL.at hl rfl) (k p e R s mi args below meth c H locs cells slots ls F hR hS hL)
theorem wl_iload {i : Nat} {x : Int32} (hd : decode μ.2.1 pc = .ok (.iload i, 2)) (hl : L[i]? = some (.int x)) (k : WZ G d b μ (pc + 2) L (.int x :: S) m Q) : WZ G d b μ pc L (S) m Q := by
  intro p e R s mi args below meth c H locs cells slots ls F hR hS hL
  exact lv_iload F.1 F.2.1 hd (hL.at hl rfl) (k p e R s mi args below meth c H locs cells slots ls F hR hS hL)
theorem wl_lload_n {q : Fin 4} {x : Int64} (hd : decode μ.2.1 pc = .ok (.lload_n q, 1)) (hl : L[(q : Nat)]? = some (.long x)) (k : WZ G d b μ (pc + 1) L (.long x :: S) m Q) : WZ G d b μ pc L (S) m Q := by
  intro p e R s mi args below meth c H locs cells slots ls F hR hS hL
  exact lv_lload_n F.1 F.2.1 hd rfl (hL.at hl rfl) (k p e R s mi args below meth c H locs cells slots ls F hR hS hL)
theorem wl_lload {i : Nat} {x : Int64} (hd : decode μ.2.1 pc = .ok (.lload i, 2)) (hl : L[i]? = some (.long x)) (k : WZ G d b μ (pc + 2) L (.long x :: S) m Q) : WZ G d b μ pc L (S) m Q := by
  intro p e R s mi args below meth c H locs cells slots ls F hR hS hL
  exact lv_lload F.1 F.2.1 hd (hL.at hl rfl) (k p e R s mi args below meth c H locs cells slots ls F hR hS hL)
theorem wl_aload_n {q : Fin 4} {x : Nat} (hd : decode μ.2.1 pc = .ok (.aload_n q, 1)) (hl : L[(q : Nat)]? = some (.ref x)) (k : WZ G d b μ (pc + 1) L (.ref x :: S) m Q) : WZ G d b μ pc L (S) m Q := by
  intro p e R s mi args below meth c H locs cells slots ls F hR hS hL
  exact lv_aload_n F.1 F.2.1 hd rfl (hL.at hl rfl) (k p e R s mi args below meth c H locs cells slots ls F hR hS hL)
theorem wl_aload {i : Nat} {x : Nat} (hd : decode μ.2.1 pc = .ok (.aload i, 2)) (hl : L[i]? = some (.ref x)) (k : WZ G d b μ (pc + 2) L (.ref x :: S) m Q) : WZ G d b μ pc L (S) m Q := by
  intro p e R s mi args below meth c H locs cells slots ls F hR hS hL
  exact lv_aload F.1 F.2.1 hd (hL.at hl rfl) (k p e R s mi args below meth c H locs cells slots ls F hR hS hL)
theorem wl_ldc {i : Nat} {x : Int32} (hd : decode μ.2.1 pc = .ok (.ldc i, 2)) (hw : Cond.constant μ.1.cls i x ∈ tbG) (k : WZ G d b μ (pc + 2) L (.int x :: S) m Q) : WZ G d b μ pc L (S) m Q := by
  intro p e R s mi args below meth c H locs cells slots ls F hR hS hL
  exact lv_ldc F.1 F.2.1 F.2.2.2.2.1 (F.2.2.2.2.2.1 _ hw) hd (k p e R s mi args below meth c H locs cells slots ls F hR hS hL)
theorem wl_ldcw {i : Nat} {x : Int32} (hd : decode μ.2.1 pc = .ok (.ldc_w i, 3)) (hw : Cond.constant μ.1.cls i x ∈ tbG) (k : WZ G d b μ (pc + 3) L (.int x :: S) m Q) : WZ G d b μ pc L (S) m Q := by
  intro p e R s mi args below meth c H locs cells slots ls F hR hS hL
  exact lv_ldcw F.1 F.2.1 F.2.2.2.2.1 (F.2.2.2.2.2.1 _ hw) hd (k p e R s mi args below meth c H locs cells slots ls F hR hS hL)
theorem wl_ldc2 {i : Nat} {x : Int64} (hd : decode μ.2.1 pc = .ok (.ldc2_w i, 3)) (hw : Cond.constantLong μ.1.cls i x ∈ tbG) (k : WZ G d b μ (pc + 3) L (.long x :: S) m Q) : WZ G d b μ pc L (S) m Q := by
  intro p e R s mi args below meth c H locs cells slots ls F hR hS hL
  exact lv_ldc2 F.1 F.2.1 F.2.2.2.2.1 (F.2.2.2.2.2.1 _ hw) hd (k p e R s mi args below meth c H locs cells slots ls F hR hS hL)
theorem wl_ldcS {i j : Nat} {own tx : String} (hd : decode μ.2.1 pc = .ok (.ldc i, 2)) (hlt : j < nJS) (hj : refJS.getD j ("", 0, "") = (μ.1.cls, i, tx)) (k : WZ G d b μ (pc + 2) L (.ref (gK G j) :: S) m Q) : WZ G d b μ pc L (S) m Q := by
  intro p e R s mi args below meth c H locs cells slots ls F hR hS hL
  exact va_ldcS F.1 F.2.1 F.2.2.2.2.1 (by have z := F.2.2.2.2.2.2.2.2.2.2.2.1 j hlt; rw [hj] at z; exact z : vk_R μ.1.cls i tx (gK G j) s) hd (k p e R s mi args below meth c H locs cells slots ls F hR hS hL)
theorem wl_goto {off : Int} (t : Nat) (hd : decode μ.2.1 pc = .ok (.goto off, 3)) (ht : (pc : Int) + off = (t : Int)) (k : WZ G d b μ t L S m Q) : WZ G d b μ pc L S m Q := by
  intro p e R s mi args below meth c H locs cells slots ls F hR hS hL
  exact lv_goto F.1 F.2.1 hd ht (k p e R s mi args below meth c H locs cells slots ls F hR hS hL)
theorem wl_if_eq {x : Int32} {off : Int} (t : Nat) (hd : decode μ.2.1 pc = .ok (.ifCond .eq off, 3)) (ht : (pc : Int) + off = (t : Int)) (kt : x = 0 → WZ G d b μ t L S m Q) (kf : ¬ x = 0 → WZ G d b μ (pc + 3) L S m Q) : WZ G d b μ pc L (.int x :: S) m Q := by
  intro p e R s mi args below meth c H locs cells slots ls F hR hS hL
  exact lv_if_eq F.1 F.2.1 hd ht (fun q => kt q p e R s mi args below meth c H locs cells slots ls F hR hS hL) (fun q => kf q p e R s mi args below meth c H locs cells slots ls F hR hS hL)
theorem wl_if_ne {x : Int32} {off : Int} (t : Nat) (hd : decode μ.2.1 pc = .ok (.ifCond .ne off, 3)) (ht : (pc : Int) + off = (t : Int)) (kt : ¬ x = 0 → WZ G d b μ t L S m Q) (kf : x = 0 → WZ G d b μ (pc + 3) L S m Q) : WZ G d b μ pc L (.int x :: S) m Q := by
  intro p e R s mi args below meth c H locs cells slots ls F hR hS hL
  exact lv_if_ne F.1 F.2.1 hd ht (fun q => kt q p e R s mi args below meth c H locs cells slots ls F hR hS hL) (fun q => kf q p e R s mi args below meth c H locs cells slots ls F hR hS hL)
theorem wl_if_lt {x : Int32} {off : Int} (t : Nat) (hd : decode μ.2.1 pc = .ok (.ifCond .lt off, 3)) (ht : (pc : Int) + off = (t : Int)) (kt : x < 0 → WZ G d b μ t L S m Q) (kf : ¬ x < 0 → WZ G d b μ (pc + 3) L S m Q) : WZ G d b μ pc L (.int x :: S) m Q := by
  intro p e R s mi args below meth c H locs cells slots ls F hR hS hL
  exact lv_if_lt F.1 F.2.1 hd ht (fun q => kt q p e R s mi args below meth c H locs cells slots ls F hR hS hL) (fun q => kf q p e R s mi args below meth c H locs cells slots ls F hR hS hL)
theorem wl_if_ge {x : Int32} {off : Int} (t : Nat) (hd : decode μ.2.1 pc = .ok (.ifCond .ge off, 3)) (ht : (pc : Int) + off = (t : Int)) (kt : ¬ x < 0 → WZ G d b μ t L S m Q) (kf : x < 0 → WZ G d b μ (pc + 3) L S m Q) : WZ G d b μ pc L (.int x :: S) m Q := by
  intro p e R s mi args below meth c H locs cells slots ls F hR hS hL
  exact lv_if_ge F.1 F.2.1 hd ht (fun q => kt (Int32.not_lt.mpr q) p e R s mi args below meth c H locs cells slots ls F hR hS hL) (fun q => kf (Int32.not_le.mp q) p e R s mi args below meth c H locs cells slots ls F hR hS hL)
theorem wl_if_gt {x : Int32} {off : Int} (t : Nat) (hd : decode μ.2.1 pc = .ok (.ifCond .gt off, 3)) (ht : (pc : Int) + off = (t : Int)) (kt : 0 < x → WZ G d b μ t L S m Q) (kf : ¬ 0 < x → WZ G d b μ (pc + 3) L S m Q) : WZ G d b μ pc L (.int x :: S) m Q := by
  intro p e R s mi args below meth c H locs cells slots ls F hR hS hL
  exact lv_if_gt F.1 F.2.1 hd ht (fun q => kt q p e R s mi args below meth c H locs cells slots ls F hR hS hL) (fun q => kf q p e R s mi args below meth c H locs cells slots ls F hR hS hL)
theorem wl_if_le {x : Int32} {off : Int} (t : Nat) (hd : decode μ.2.1 pc = .ok (.ifCond .le off, 3)) (ht : (pc : Int) + off = (t : Int)) (kt : ¬ 0 < x → WZ G d b μ t L S m Q) (kf : 0 < x → WZ G d b μ (pc + 3) L S m Q) : WZ G d b μ pc L (.int x :: S) m Q := by
  intro p e R s mi args below meth c H locs cells slots ls F hR hS hL
  exact lv_if_le F.1 F.2.1 hd ht (fun q => kt (Int32.not_lt.mpr q) p e R s mi args below meth c H locs cells slots ls F hR hS hL) (fun q => kf (Int32.not_le.mp q) p e R s mi args below meth c H locs cells slots ls F hR hS hL)
theorem wl_icmp_eq {x y : Int32} {off : Int} (t : Nat) (hd : decode μ.2.1 pc = .ok (.if_icmp .eq off, 3)) (ht : (pc : Int) + off = (t : Int)) (kt : x = y → WZ G d b μ t L S m Q) (kf : ¬ x = y → WZ G d b μ (pc + 3) L S m Q) : WZ G d b μ pc L (.int y :: .int x :: S) m Q := by
  intro p e R s mi args below meth c H locs cells slots ls F hR hS hL
  exact lv_icmp_eq F.1 F.2.1 hd ht (fun q => kt q p e R s mi args below meth c H locs cells slots ls F hR hS hL) (fun q => kf q p e R s mi args below meth c H locs cells slots ls F hR hS hL)
theorem wl_icmp_ne {x y : Int32} {off : Int} (t : Nat) (hd : decode μ.2.1 pc = .ok (.if_icmp .ne off, 3)) (ht : (pc : Int) + off = (t : Int)) (kt : ¬ x = y → WZ G d b μ t L S m Q) (kf : x = y → WZ G d b μ (pc + 3) L S m Q) : WZ G d b μ pc L (.int y :: .int x :: S) m Q := by
  intro p e R s mi args below meth c H locs cells slots ls F hR hS hL
  exact lv_icmp_ne F.1 F.2.1 hd ht (fun q => kt q p e R s mi args below meth c H locs cells slots ls F hR hS hL) (fun q => kf q p e R s mi args below meth c H locs cells slots ls F hR hS hL)
theorem wl_icmp_lt {x y : Int32} {off : Int} (t : Nat) (hd : decode μ.2.1 pc = .ok (.if_icmp .lt off, 3)) (ht : (pc : Int) + off = (t : Int)) (kt : x < y → WZ G d b μ t L S m Q) (kf : ¬ x < y → WZ G d b μ (pc + 3) L S m Q) : WZ G d b μ pc L (.int y :: .int x :: S) m Q := by
  intro p e R s mi args below meth c H locs cells slots ls F hR hS hL
  exact lv_icmp_lt F.1 F.2.1 hd ht (fun q => kt q p e R s mi args below meth c H locs cells slots ls F hR hS hL) (fun q => kf q p e R s mi args below meth c H locs cells slots ls F hR hS hL)
theorem wl_icmp_ge {x y : Int32} {off : Int} (t : Nat) (hd : decode μ.2.1 pc = .ok (.if_icmp .ge off, 3)) (ht : (pc : Int) + off = (t : Int)) (kt : ¬ x < y → WZ G d b μ t L S m Q) (kf : x < y → WZ G d b μ (pc + 3) L S m Q) : WZ G d b μ pc L (.int y :: .int x :: S) m Q := by
  intro p e R s mi args below meth c H locs cells slots ls F hR hS hL
  exact lv_icmp_ge F.1 F.2.1 hd ht (fun q => kt (Int32.not_lt.mpr q) p e R s mi args below meth c H locs cells slots ls F hR hS hL) (fun q => kf (Int32.not_le.mp q) p e R s mi args below meth c H locs cells slots ls F hR hS hL)
theorem wl_icmp_gt {x y : Int32} {off : Int} (t : Nat) (hd : decode μ.2.1 pc = .ok (.if_icmp .gt off, 3)) (ht : (pc : Int) + off = (t : Int)) (kt : y < x → WZ G d b μ t L S m Q) (kf : ¬ y < x → WZ G d b μ (pc + 3) L S m Q) : WZ G d b μ pc L (.int y :: .int x :: S) m Q := by
  intro p e R s mi args below meth c H locs cells slots ls F hR hS hL
  exact lv_icmp_gt F.1 F.2.1 hd ht (fun q => kt q p e R s mi args below meth c H locs cells slots ls F hR hS hL) (fun q => kf q p e R s mi args below meth c H locs cells slots ls F hR hS hL)
theorem wl_icmp_le {x y : Int32} {off : Int} (t : Nat) (hd : decode μ.2.1 pc = .ok (.if_icmp .le off, 3)) (ht : (pc : Int) + off = (t : Int)) (kt : ¬ y < x → WZ G d b μ t L S m Q) (kf : y < x → WZ G d b μ (pc + 3) L S m Q) : WZ G d b μ pc L (.int y :: .int x :: S) m Q := by
  intro p e R s mi args below meth c H locs cells slots ls F hR hS hL
  exact lv_icmp_le F.1 F.2.1 hd ht (fun q => kt (Int32.not_lt.mpr q) p e R s mi args below meth c H locs cells slots ls F hR hS hL) (fun q => kf (Int32.not_le.mp q) p e R s mi args below meth c H locs cells slots ls F hR hS hL)
theorem wl_lc_eq {x y : Int64} {off : Int} (t : Nat) (hd1 : decode μ.2.1 pc = .ok (.lcmp, 1)) (hd : decode μ.2.1 (pc + 1) = .ok (.ifCond .eq off, 3)) (ht : ((pc + 1 : Nat) : Int) + off = (t : Int)) (kt : x = y → WZ G d b μ t L S m Q) (kf : ¬ x = y → WZ G d b μ (pc + 1 + 3) L S m Q) : WZ G d b μ pc L (.long y :: .long x :: S) m Q :=
  wl_lcmp hd1 (wl_if_eq t hd ht (fun q => kt ((lg_cmp_eq _ _).mp q)) (fun q => kf (fun z => q ((lg_cmp_eq _ _).mpr z))))
theorem wl_lc_ne {x y : Int64} {off : Int} (t : Nat) (hd1 : decode μ.2.1 pc = .ok (.lcmp, 1)) (hd : decode μ.2.1 (pc + 1) = .ok (.ifCond .ne off, 3)) (ht : ((pc + 1 : Nat) : Int) + off = (t : Int)) (kt : ¬ x = y → WZ G d b μ t L S m Q) (kf : x = y → WZ G d b μ (pc + 1 + 3) L S m Q) : WZ G d b μ pc L (.long y :: .long x :: S) m Q :=
  wl_lcmp hd1 (wl_if_ne t hd ht (fun q => kt (fun z => q ((lg_cmp_eq _ _).mpr z))) (fun q => kf ((lg_cmp_eq _ _).mp q)))
theorem wl_lc_lt {x y : Int64} {off : Int} (t : Nat) (hd1 : decode μ.2.1 pc = .ok (.lcmp, 1)) (hd : decode μ.2.1 (pc + 1) = .ok (.ifCond .lt off, 3)) (ht : ((pc + 1 : Nat) : Int) + off = (t : Int)) (kt : x < y → WZ G d b μ t L S m Q) (kf : ¬ x < y → WZ G d b μ (pc + 1 + 3) L S m Q) : WZ G d b μ pc L (.long y :: .long x :: S) m Q :=
  wl_lcmp hd1 (wl_if_lt t hd ht (fun q => kt ((lg_cmp_lt _ _).mp q)) (fun q => kf (fun z => q ((lg_cmp_lt _ _).mpr z))))
theorem wl_lc_ge {x y : Int64} {off : Int} (t : Nat) (hd1 : decode μ.2.1 pc = .ok (.lcmp, 1)) (hd : decode μ.2.1 (pc + 1) = .ok (.ifCond .ge off, 3)) (ht : ((pc + 1 : Nat) : Int) + off = (t : Int)) (kt : ¬ x < y → WZ G d b μ t L S m Q) (kf : x < y → WZ G d b μ (pc + 1 + 3) L S m Q) : WZ G d b μ pc L (.long y :: .long x :: S) m Q :=
  wl_lcmp hd1 (wl_if_ge t hd ht (fun q => kt (fun z => q ((lg_cmp_lt _ _).mpr z))) (fun q => kf ((lg_cmp_lt _ _).mp q)))
theorem wl_lc_gt {x y : Int64} {off : Int} (t : Nat) (hd1 : decode μ.2.1 pc = .ok (.lcmp, 1)) (hd : decode μ.2.1 (pc + 1) = .ok (.ifCond .gt off, 3)) (ht : ((pc + 1 : Nat) : Int) + off = (t : Int)) (kt : y < x → WZ G d b μ t L S m Q) (kf : ¬ y < x → WZ G d b μ (pc + 1 + 3) L S m Q) : WZ G d b μ pc L (.long y :: .long x :: S) m Q :=
  wl_lcmp hd1 (wl_if_gt t hd ht (fun q => kt ((lg_cmp_gt _ _).mp q)) (fun q => kf (fun z => q ((lg_cmp_gt _ _).mpr z))))
theorem wl_lc_le {x y : Int64} {off : Int} (t : Nat) (hd1 : decode μ.2.1 pc = .ok (.lcmp, 1)) (hd : decode μ.2.1 (pc + 1) = .ok (.ifCond .le off, 3)) (ht : ((pc + 1 : Nat) : Int) + off = (t : Int)) (kt : ¬ y < x → WZ G d b μ t L S m Q) (kf : y < x → WZ G d b μ (pc + 1 + 3) L S m Q) : WZ G d b μ pc L (.long y :: .long x :: S) m Q :=
  wl_lcmp hd1 (wl_if_le t hd ht (fun q => kt (fun z => q ((lg_cmp_gt _ _).mpr z))) (fun q => kf ((lg_cmp_gt _ _).mp q)))
theorem wl_istore_n {q : Fin 4} {x : Int32} {L' : List Value} (hd : decode μ.2.1 pc = .ok (.istore_n q, 1)) (hn : (q : Nat) < μ.2.2.1) (hL' : st1 L (q : Nat) (.int x) = L') (k : WZ G d b μ (pc + 1) L' S m Q) : WZ G d b μ pc L (.int x :: S) m Q := by
  intro p e R s mi args below meth c H locs cells slots ls F hR hS hL
  obtain ⟨ls', e', h'⟩ := hL.store1 (v := .int x) hn rfl hL'
  have kk := k p e R s mi args below meth c H locs cells slots ls' F hR hS h'
  intro T hT X
  obtain ⟨t, a1, b1⟩ := kk T hT X
  refine ⟨t, ?_, b1⟩
  obtain ⟨hexec, hb, -⟩ := F
  jvm_step X.here [X.here.top, ↓top_set X.here.top, hexec, hb, hd, e']
  exact a1
theorem wl_istore {i : Nat} {x : Int32} {L' : List Value} (hd : decode μ.2.1 pc = .ok (.istore i, 2)) (hn : i < μ.2.2.1) (hL' : st1 L i (.int x) = L') (k : WZ G d b μ (pc + 2) L' S m Q) : WZ G d b μ pc L (.int x :: S) m Q := by
  intro p e R s mi args below meth c H locs cells slots ls F hR hS hL
  obtain ⟨ls', e', h'⟩ := hL.store1 (v := .int x) hn rfl hL'
  have kk := k p e R s mi args below meth c H locs cells slots ls' F hR hS h'
  intro T hT X
  obtain ⟨t, a1, b1⟩ := kk T hT X
  refine ⟨t, ?_, b1⟩
  obtain ⟨hexec, hb, -⟩ := F
  jvm_step X.here [X.here.top, ↓top_set X.here.top, hexec, hb, hd, e']
  exact a1
theorem wl_astore_n {q : Fin 4} {x : Nat} {L' : List Value} (hd : decode μ.2.1 pc = .ok (.astore_n q, 1)) (hn : (q : Nat) < μ.2.2.1) (hL' : st1 L (q : Nat) (.ref x) = L') (k : WZ G d b μ (pc + 1) L' S m Q) : WZ G d b μ pc L (.ref x :: S) m Q := by
  intro p e R s mi args below meth c H locs cells slots ls F hR hS hL
  obtain ⟨ls', e', h'⟩ := hL.store1 (v := .ref x) hn rfl hL'
  have kk := k p e R s mi args below meth c H locs cells slots ls' F hR hS h'
  intro T hT X
  obtain ⟨t, a1, b1⟩ := kk T hT X
  refine ⟨t, ?_, b1⟩
  obtain ⟨hexec, hb, -⟩ := F
  jvm_step X.here [X.here.top, ↓top_set X.here.top, hexec, hb, hd, e']
  exact ⟨rfl, a1⟩
theorem wl_astore {i : Nat} {x : Nat} {L' : List Value} (hd : decode μ.2.1 pc = .ok (.astore i, 2)) (hn : i < μ.2.2.1) (hL' : st1 L i (.ref x) = L') (k : WZ G d b μ (pc + 2) L' S m Q) : WZ G d b μ pc L (.ref x :: S) m Q := by
  intro p e R s mi args below meth c H locs cells slots ls F hR hS hL
  obtain ⟨ls', e', h'⟩ := hL.store1 (v := .ref x) hn rfl hL'
  have kk := k p e R s mi args below meth c H locs cells slots ls' F hR hS h'
  intro T hT X
  obtain ⟨t, a1, b1⟩ := kk T hT X
  refine ⟨t, ?_, b1⟩
  obtain ⟨hexec, hb, -⟩ := F
  jvm_step X.here [X.here.top, ↓top_set X.here.top, hexec, hb, hd, e']
  exact ⟨rfl, a1⟩
theorem wl_lstore_n {q : Fin 4} {x : Int64} {L' : List Value} (hd : decode μ.2.1 pc = .ok (.lstore_n q, 1)) (hn : (q : Nat) + 1 < μ.2.2.1) (hL' : st2 L (q : Nat) (.long x) = L') (k : WZ G d b μ (pc + 1) L' S m Q) : WZ G d b μ pc L (.long x :: S) m Q := by
  intro p e R s mi args below meth c H locs cells slots ls F hR hS hL
  obtain ⟨ls', e', h'⟩ := hL.store2 (v := .long x) hn rfl hL'
  have kk := k p e R s mi args below meth c H locs cells slots ls' F hR hS h'
  intro T hT X
  obtain ⟨t, a1, b1⟩ := kk T hT X
  refine ⟨t, ?_, b1⟩
  obtain ⟨hexec, hb, -⟩ := F
  jvm_step X.here [X.here.top, ↓top_set X.here.top, hexec, hb, hd, e']
  exact a1
theorem wl_lstore {i : Nat} {x : Int64} {L' : List Value} (hd : decode μ.2.1 pc = .ok (.lstore i, 2)) (hn : i + 1 < μ.2.2.1) (hL' : st2 L i (.long x) = L') (k : WZ G d b μ (pc + 2) L' S m Q) : WZ G d b μ pc L (.long x :: S) m Q := by
  intro p e R s mi args below meth c H locs cells slots ls F hR hS hL
  obtain ⟨ls', e', h'⟩ := hL.store2 (v := .long x) hn rfl hL'
  have kk := k p e R s mi args below meth c H locs cells slots ls' F hR hS h'
  intro T hT X
  obtain ⟨t, a1, b1⟩ := kk T hT X
  refine ⟨t, ?_, b1⟩
  obtain ⟨hexec, hb, -⟩ := F
  jvm_step X.here [X.here.top, ↓top_set X.here.top, hexec, hb, hd, e']
  exact a1
theorem wl_iinc {i : Nat} {n : Int} {x : Int32} (v : Int32) {L' : List Value} (hd : decode μ.2.1 pc = .ok (.iinc i n, 3)) (hl : L[i]? = some (.int x)) (hn : i < μ.2.2.1) (hv : x + Int32.ofInt n = v) (hL' : st1 L i (.int v) = L') (k : WZ G d b μ (pc + 3) L' S m Q) : WZ G d b μ pc L S m Q := by
  intro p e R s mi args below meth c H locs cells slots ls F hR hS hL
  subst hv
  have hg := hL.at hl rfl
  obtain ⟨ls', e', h'⟩ := hL.store1 (v := .int (x + Int32.ofInt n)) hn rfl hL'
  have kk := k p e R s mi args below meth c H locs cells slots ls' F hR hS h'
  intro T hT X
  obtain ⟨t, a1, b1⟩ := kk T hT X
  refine ⟨t, ?_, b1⟩
  obtain ⟨hexec, hb, -⟩ := F
  jvm_step X.here [X.here.top, ↓top_set X.here.top, hexec, hb, hd, hg, e']
  exact a1
theorem wl_iincw {i : Nat} {n : Int} {x : Int32} (v : Int32) {L' : List Value} (hd : decode μ.2.1 pc = .ok (.iinc i n, 6)) (hl : L[i]? = some (.int x)) (hn : i < μ.2.2.1) (hv : x + Int32.ofInt n = v) (hL' : st1 L i (.int v) = L') (k : WZ G d b μ (pc + 6) L' S m Q) : WZ G d b μ pc L S m Q := by
  intro p e R s mi args below meth c H locs cells slots ls F hR hS hL
  subst hv
  have hg := hL.at hl rfl
  obtain ⟨ls', e', h'⟩ := hL.store1 (v := .int (x + Int32.ofInt n)) hn rfl hL'
  have kk := k p e R s mi args below meth c H locs cells slots ls' F hR hS h'
  intro T hT X
  obtain ⟨t, a1, b1⟩ := kk T hT X
  refine ⟨t, ?_, b1⟩
  obtain ⟨hexec, hb, -⟩ := F
  jvm_step X.here [X.here.top, ↓top_set X.here.top, hexec, hb, hd, hg, e']
  exact a1
theorem wl_iret {x : Int32} (hd : decode μ.2.1 pc = .ok (.ireturn, 1)) (hr : μ.2.2.2 = some .int) (hq : Q (some (.int x)) m) : WZ G d b μ pc L ([.int x]) m Q := by
  intro p e R s mi args below meth c H locs cells slots ls F hR hS hL
  refine W.widen (k := cells + b.1) (n := slots + b.2) (Nat.le_add_right _ _) (Nat.le_add_right _ _) ?_
  refine W.iret F.1 F.2.1 (F.2.2.2.1.trans hr) (fun t ht _ => ⟨⟨_, m, hq, rfl, by rw [ht]; exact hR⟩, hS.F ht⟩) hS.2.2 hd F.2.2.2.2.2.2.1
theorem wl_zret {x : Int32} {ty : FieldType} (hd : decode μ.2.1 pc = .ok (.ireturn, 1)) (hr : μ.2.2.2 = some ty) (hn : narrow ty (.int x) = .int x) (hq : Q (some (.int x)) m) : WZ G d b μ pc L ([.int x]) m Q := by
  intro p e R s mi args below meth c H locs cells slots ls F hR hS hL
  refine W.widen (k := cells + b.1) (n := slots + b.2) (Nat.le_add_right _ _) (Nat.le_add_right _ _) ?_
  refine W.zret F.1 F.2.1 (F.2.2.2.1.trans hr) hn (fun t ht _ => ⟨⟨_, m, hq, rfl, by rw [ht]; exact hR⟩, hS.F ht⟩) hS.2.2 hd F.2.2.2.2.2.2.1
theorem wl_lret {x : Int64} (hd : decode μ.2.1 pc = .ok (.lreturn, 1)) (hr : μ.2.2.2 = some .long) (hq : Q (some (.long x)) m) : WZ G d b μ pc L ([.long x]) m Q := by
  intro p e R s mi args below meth c H locs cells slots ls F hR hS hL
  refine W.widen (k := cells + b.1) (n := slots + b.2) (Nat.le_add_right _ _) (Nat.le_add_right _ _) ?_
  refine W.lret F.1 F.2.1 (F.2.2.2.1.trans hr) (fun t ht _ => ⟨⟨_, m, hq, rfl, by rw [ht]; exact hR⟩, hS.F ht⟩) hS.2.2 hd F.2.2.2.2.2.2.1
theorem wl_vret  (hd : decode μ.2.1 pc = .ok (.return_, 1)) (hr : μ.2.2.2 = none) (hq : Q none m) : WZ G d b μ pc L ([]) m Q := by
  intro p e R s mi args below meth c H locs cells slots ls F hR hS hL
  refine W.widen (k := cells + b.1) (n := slots + b.2) (Nat.le_add_right _ _) (Nat.le_add_right _ _) ?_
  refine W.vret F.1 F.2.1 (F.2.2.2.1.trans hr) (fun t ht _ => ⟨⟨_, m, hq, rfl, by rw [ht]; exact hR⟩, hS.F ht⟩) hS.2.2 hd F.2.2.2.2.2.2.1
end ROWS
section LMATH
variable {G : Cx} {d : Nat} {b : Nat × Nat} {μ : MI} {pc idx : Nat} {L S : List Value} {m : LM} {Q : Option Value → LM → Prop}
theorem wl_objInit {a : Nat} (hd : decode μ.2.1 pc = .ok (.invokespecial idx, 3)) (h1 : Cond.methodLink μ.1.cls idx Lib.objectInit ∈ tbG) (h2 : Cond.instanceMethod Lib.objectInit ∈ tbG) (h3 : Cond.code Lib.objectInit ⟨#[0xb1]⟩ 1 none ∈ tbG) (hw : (S.map fun v => v.category).sum ≤ 8) (k : WZ G (d + 1) b μ (pc + 3) L S m Q) : WZ G (d + 1) b μ pc L (.ref a :: S) m Q := by
  intro p e R s mi args below meth c H locs cells slots ls F hR hS hL
  have hts := F.2.2.2.2.2.1
  obtain ⟨g1, g2, g3, g4⟩ := F.2.2.2.2.2.2.2.2.1
  refine W.objInit F.1 F.2.1 F.2.2.2.2.1 (hts _ h1) (hts _ h2) (hts _ h3) rfl (hL.1.trans F.2.2.1.symm) rfl hd (by omega) ?_ (k p e R s mi args below meth c H locs cells slots ls F hR hS hL)
  have := lv_room (m := mi) (pc := pc) (ls := ls) (rest := .ref a :: S) hw
  omega
theorem wl_maxI {x y : Int32} (hd : decode μ.2.1 pc = .ok (.invokestatic idx, 3)) (hl : MA μ.1.cls idx Lib.Math.max.name Lib.Math.max.code 2 (some .int)) (hw : (S.map fun v => v.category).sum ≤ 8) (k : WZ G (d + 1) b μ (pc + 3) L (.int (imax x y) :: S) m Q) : WZ G (d + 1) b μ pc L (.int y :: .int x :: S) m Q := by
  intro p e R s mi args below meth c H locs cells slots ls F hR hS hL
  have hts := F.2.2.2.2.2.1
  obtain ⟨g1, g2, g3, g4⟩ := F.2.2.2.2.2.2.2.2.1
  exact va_mmax F.1 F.2.1 (F.2.2.1.trans hL.1.symm) F.2.2.2.2.1 (hts _ hl.1) (hts _ hl.2.1) (hts _ hl.2.2.1) (hts _ hl.2.2.2) (by omega) (by omega) (by omega) (by omega) hd (k p e R s mi args below meth c H locs cells slots ls F hR hS hL)
theorem wl_minI {x y : Int32} (hd : decode μ.2.1 pc = .ok (.invokestatic idx, 3)) (hl : MA μ.1.cls idx Lib.Math.min.name Lib.Math.min.code 2 (some .int)) (hw : (S.map fun v => v.category).sum ≤ 8) (k : WZ G (d + 1) b μ (pc + 3) L (.int (imin x y) :: S) m Q) : WZ G (d + 1) b μ pc L (.int y :: .int x :: S) m Q := by
  intro p e R s mi args below meth c H locs cells slots ls F hR hS hL
  have hts := F.2.2.2.2.2.1
  obtain ⟨g1, g2, g3, g4⟩ := F.2.2.2.2.2.2.2.2.1
  exact va_mmin F.1 F.2.1 (F.2.2.1.trans hL.1.symm) F.2.2.2.2.1 (hts _ hl.1) (hts _ hl.2.1) (hts _ hl.2.2.1) (hts _ hl.2.2.2) (by omega) (by omega) (by omega) (by omega) hd (k p e R s mi args below meth c H locs cells slots ls F hR hS hL)
theorem wl_iaddv {x y : Int32} (v : Int32) (hd : decode μ.2.1 pc = .ok (.iadd, 1)) (hv : x + y = v) (k : WZ G d b μ (pc + 1) L (.int v :: S) m Q) : WZ G d b μ pc L (.int y :: .int x :: S) m Q := wl_iadd hd (by rw [hv]; exact k)
theorem wl_isubv {x y : Int32} (v : Int32) (hd : decode μ.2.1 pc = .ok (.isub, 1)) (hv : x - y = v) (k : WZ G d b μ (pc + 1) L (.int v :: S) m Q) : WZ G d b μ pc L (.int y :: .int x :: S) m Q := wl_isub hd (by rw [hv]; exact k)
theorem wl_imulv {x y : Int32} (v : Int32) (hd : decode μ.2.1 pc = .ok (.imul, 1)) (hv : x * y = v) (k : WZ G d b μ (pc + 1) L (.int v :: S) m Q) : WZ G d b μ pc L (.int y :: .int x :: S) m Q := wl_imul hd (by rw [hv]; exact k)
end LMATH
theorem wl_forget {G : Cx} {d : Nat} {b : Nat × Nat} {μ : MI} {pc : Nat} {L S : List Value} {m : LM} {Q : Option Value → LM → Prop} (L' : List Value) (h : lvLe L L') (k : WZ G d b μ pc L' S m Q) : WZ G d b μ pc L S m Q := by
  intro p e R s mi args below meth c H locs cells slots ls F hR hS hL
  refine k p e R s mi args below meth c H locs cells slots ls F hR hS (lv_weak hL ?_)
  rintro ⟨i, v⟩ hq
  obtain ⟨-, hg, hv⟩ := (ascF_mem _ 0 i v).mp hq
  exact (ascF_mem _ 0 i v).mpr ⟨Nat.zero_le _, lvLe_get L L' h _ v hg hv, hv⟩
