/-! PUT: blocks (printed by gen_put.py) -/
theorem pu_0 {G : Cx} {d : Nat} {Λ : Lc} {X : Lx} {ext : va_W} {m : Mm} {A : Ab} {ce : List (Nat × Mm)} {Q : Option Value → LM → Prop} {a v : Nat} {t : List Nat} (hC : CIv (atC G (lB Λ) false) m A) (ht : TxP G (lws G Λ X ext) a v t) 
    (e1 : ∀ m1 : Mm, CIv (atC G (lB Λ) false) m1 (((A).1, (A).2.1, (aT A).take 0, aE A, aP A) : Ab) → WZ G (d + 20) (0, 0) μL_put 11 [.ref (gB G), .ref a, .int (0 : Int32), lvU, lvU] [] (lm G Λ X ext m1 ce) Q) :
    WZM G (d + 20) (0, 0) μL_put [.ref (gB G), .ref a] (lm G Λ X ext m ce) Q := by
  have ht100 := ht.2.1
  refine WZM.of pL (Nat.le_of_ble_eq_true rfl) rfl ?_
  refine wl_aload_n dL_put_0 rfl ?_
  refine wl_get 0 (.ref (lB Λ)) dL_put_1 fL_10 rfl rfl ?_
  refine wl_iconst (0 : Int32) dL_put_4 (by decide) ?_
  refine wl_callX (As := [.int (0 : Int32)]) (S := []) [] ce dL_put_5 ML_48 rfl rfl (Nat.le_of_ble_eq_true rfl) ?_
  refine a_truncateText (j := 0) hC (by omega) (fun m1 hC2 => ?_)
  show WZ G (d + 20) (0, 0) μL_put 8 [.ref (gB G), .ref a, lvU, lvU, lvU] [.int (nI 0)] (lm G Λ X ext m1 ce) Q
  refine wl_pop dL_put_8 rfl ?_
  refine wl_iconst (0 : Int32) dL_put_9 (by decide) ?_
  refine wl_istore_n dL_put_10 (by decide) rfl ?_
  exact e1 m1 hC2

theorem pu_1 {G : Cx} {d : Nat} {Λ : Lc} {X : Lx} {ext : va_W} {m : Mm} {A : Ab} {ce : List (Nat × Mm)} {Q : Option Value → LM → Prop} {a v : Nat} {t : List Nat} {k : Nat} (hC : CIv (atC G (lB Λ) false) m A) (ht : TxP G (lws G Λ X ext) a v t) (hk : k < 200) (hl : ¬ k < t.length → t.length ≤ (aT A).length)
    (e1 : ¬ k < t.length → ∀ m3 : Mm, CIv (atC G (lB Λ) false) m3 (((A).1, (A).2.1, (aT A).take t.length, aE A, aP A) : Ab) → Q none (lm G Λ X ext m3 ce))
    (e2 : k < t.length → WZ G (d + 20) (0, 0) μL_put 24 [.ref (gB G), .ref a, .int (nI k), .int (0 : Int32), .int (0 : Int32)] [] (lm G Λ X ext m ce) Q) :
    WZ G (d + 20) (0, 0) μL_put 11 [.ref (gB G), .ref a, .int (nI k), lvU, lvU] [] (lm G Λ X ext m ce) Q := by
  have ht100 := ht.2.1
  refine wl_iload_n dL_put_11 rfl ?_
  refine wl_aload_n dL_put_12 rfl ?_
  refine wl_callT (As := []) (S := [.int (nI k)]) ht dL_put_13 ML_52 rfl rfl (Nat.le_of_ble_eq_true rfl) ?_
  refine t_length ht ?_
  show WZ G (d + 20) (0, 0) μL_put 16 [.ref (gB G), .ref a, .int (nI k), lvU, lvU] [.int (nI t.length), .int (nI k)] (lm G Λ X ext m ce) Q
  refine wl_icmp_ge 84 dL_put_16 (by decide) (fun q1 => ?_) (fun q1 => ?_)
  · have q2 : ¬ k < t.length := fun y => q1 (nlt_ (a := k) (b := t.length) y (by omega))
    refine wl_aload_n dL_put_84 rfl ?_
    refine wl_get 0 (.ref (lB Λ)) dL_put_85 fL_10 rfl rfl ?_
    refine wl_aload_n dL_put_88 rfl ?_
    refine wl_callT (As := []) (S := [.ref (lB Λ)]) ht dL_put_89 ML_52 rfl rfl (Nat.le_of_ble_eq_true rfl) ?_
    refine t_length ht ?_
    show WZ G (d + 20) (0, 0) μL_put 92 [.ref (gB G), .ref a, .int (nI k), lvU, lvU] [.int (nI t.length), .ref (lB Λ)] (lm G Λ X ext m ce) Q
    refine wl_callX (As := [.int (nI t.length)]) (S := []) [] ce dL_put_92 ML_48 rfl rfl (Nat.le_of_ble_eq_true rfl) ?_
    refine a_truncateText (j := t.length) hC (by omega) (fun m3 hC4 => ?_)
    show WZ G (d + 20) (0, 0) μL_put 95 [.ref (gB G), .ref a, .int (nI k), lvU, lvU] [.int (nI t.length)] (lm G Λ X ext m3 ce) Q
    refine wl_pop dL_put_95 rfl ?_
    exact wl_vret dL_put_96 rfl (e1 q2 m3 hC4)
  · have q5 : k < t.length := nlt (a := k) (b := t.length) q1 (by omega) (by omega)
    refine wl_iconst (0 : Int32) dL_put_19 (by decide) ?_
    refine wl_istore_n dL_put_20 (by decide) rfl ?_
    refine wl_iconst (0 : Int32) dL_put_21 (by decide) ?_
    refine wl_istore dL_put_22 (by decide) rfl ?_
    exact e2 q5

theorem pu_2 {G : Cx} {d : Nat} {Λ : Lc} {X : Lx} {ext : va_W} {m : Mm} {A : Ab} {ce : List (Nat × Mm)} {Q : Option Value → LM → Prop} {a v : Nat} {t : List Nat} {k i : Nat} {w : Int32} (hC : CIv (atC G (lB Λ) false) m A) (ht : TxP G (lws G Λ X ext) a v t) (hk : k < 200) (hi : i ≤ 4) (hl : (aT A).length + 4 ≤ 500)
    (e1 : ¬ i < 4 → ∀ m3 : Mm, CIv (atC G (lB Λ) false) m3 (((A).1, (A).2.1, app4 (aT A) w, aE A, aP A) : Ab) → WZ G (d + 20) (0, 0) μL_put 11 [.ref (gB G), .ref a, .int (nI (k + 4)), lvU, lvU] [] (lm G Λ X ext m3 ce) Q)
    (e2 : i < 4 → ¬ k + i < t.length → WZ G (d + 20) (0, 0) μL_put 24 [.ref (gB G), .ref a, .int (nI k), .int ((w <<< ((8 : Int32) &&& 31)) ||| (0 : Int32)), .int (nI (i + 1))] [] (lm G Λ X ext m ce) Q)
    (e3 : i < 4 → k + i < t.length → WZ G (d + 20) (0, 0) μL_put 24 [.ref (gB G), .ref a, .int (nI k), .int ((w <<< ((8 : Int32) &&& 31)) ||| ((nI (t.getD (k + i) 0)) &&& (255 : Int32))), .int (nI (i + 1))] [] (lm G Λ X ext m ce) Q) :
    WZ G (d + 20) (0, 0) μL_put 24 [.ref (gB G), .ref a, .int (nI k), .int w, .int (nI i)] [] (lm G Λ X ext m ce) Q := by
  have ht100 := ht.2.1
  refine wl_iload dL_put_24 rfl ?_
  refine wl_iconst (4 : Int32) dL_put_26 (by decide) ?_
  refine wl_icmp_ge 69 dL_put_27 (by decide) (fun q1 => ?_) (fun q1 => ?_)
  · have q2 : ¬ i < 4 := fun y => q1 (nlt_ (a := i) (b := 4) y (by omega))
    refine wl_aload_n dL_put_69 rfl ?_
    refine wl_get 0 (.ref (lB Λ)) dL_put_70 fL_10 rfl rfl ?_
    refine wl_iload_n dL_put_73 rfl ?_
    refine wl_callX (As := [.int w]) (S := []) [] ce dL_put_74 ML_62 rfl rfl (Nat.le_of_ble_eq_true rfl) ?_
    refine a_appendText hC (by omega) (fun m3 hC4 => ?_)
    show WZ G (d + 20) (0, 0) μL_put 77 [.ref (gB G), .ref a, .int (nI k), .int w, .int (nI i)] [.int (nI ((aT A).length + 4))] (lm G Λ X ext m3 ce) Q
    refine wl_pop dL_put_77 rfl ?_
    refine wl_iinc (nI (k + 4)) dL_put_78 rfl (by decide) (nadd (a := k) (b := 4) rfl) rfl ?_
    refine wl_goto 11 dL_put_81 (by decide) ?_
    refine wl_forget [.ref (gB G), .ref a, .int (nI (k + 4)), lvU, lvU] ⟨Or.inl rfl, Or.inl rfl, Or.inl rfl, Or.inr rfl, Or.inr rfl, trivial⟩ ?_
    exact e1 q2 m3 hC4
  · have q5 : i < 4 := nlt (a := i) (b := 4) q1 (by omega) (by omega)
    refine wl_iload_n dL_put_30 rfl ?_
    refine wl_bipush (8 : Int32) dL_put_31 (by decide) ?_
    refine wl_ishl dL_put_33 ?_
    refine wl_iload_n dL_put_34 rfl ?_
    refine wl_iload dL_put_35 rfl ?_
    refine wl_iaddv (nI (k + i)) dL_put_37 (nadd rfl) ?_
    refine wl_aload_n dL_put_38 rfl ?_
    refine wl_callT (As := []) (S := [.int (nI (k + i)), .int (w <<< ((8 : Int32) &&& 31))]) ht dL_put_39 ML_52 rfl rfl (Nat.le_of_ble_eq_true rfl) ?_
    refine t_length ht ?_
    show WZ G (d + 20) (0, 0) μL_put 42 [.ref (gB G), .ref a, .int (nI k), .int w, .int (nI i)] [.int (nI t.length), .int (nI (k + i)), .int (w <<< ((8 : Int32) &&& 31))] (lm G Λ X ext m ce) Q
    refine wl_icmp_ge 60 dL_put_42 (by decide) (fun q6 => ?_) (fun q6 => ?_)
    · have q7 : ¬ k + i < t.length := fun y => q6 (nlt_ (a := k + i) (b := t.length) y (by omega))
      refine wl_iconst (0 : Int32) dL_put_60 (by decide) ?_
      refine wl_ior dL_put_61 ?_
      refine wl_istore_n dL_put_62 (by decide) rfl ?_
      refine wl_iinc (nI (i + 1)) dL_put_63 rfl (by decide) (nadd (a := i) (b := 1) rfl) rfl ?_
      refine wl_goto 24 dL_put_66 (by decide) ?_
      exact e2 q5 q7
    · have q8 : k + i < t.length := nlt (a := k + i) (b := t.length) q6 (by omega) (by omega)
      refine wl_aload_n dL_put_45 rfl ?_
      refine wl_iload_n dL_put_46 rfl ?_
      refine wl_iload dL_put_47 rfl ?_
      refine wl_iaddv (nI (k + i)) dL_put_49 (nadd rfl) ?_
      refine wl_callT (As := [.int (nI (k + i))]) (S := [.int (w <<< ((8 : Int32) &&& 31))]) ht dL_put_50 ML_58 rfl rfl (Nat.le_of_ble_eq_true rfl) ?_
      refine t_charAt (j := k + i) ht (by omega) ?_
      show WZ G (d + 20) (0, 0) μL_put 53 [.ref (gB G), .ref a, .int (nI k), .int w, .int (nI i)] [.int (nI (t.getD (k + i) 0)), .int (w <<< ((8 : Int32) &&& 31))] (lm G Λ X ext m ce) Q
      refine wl_sipush (255 : Int32) dL_put_53 (by decide) ?_
      refine wl_iand dL_put_56 ?_
      refine wl_goto 61 dL_put_57 (by decide) ?_
      refine wl_ior dL_put_61 ?_
      refine wl_istore_n dL_put_62 (by decide) rfl ?_
      refine wl_iinc (nI (i + 1)) dL_put_63 rfl (by decide) (nadd (a := i) (b := 1) rfl) rfl ?_
      refine wl_goto 24 dL_put_66 (by decide) ?_
      exact e3 q5 q8

