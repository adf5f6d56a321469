/-! MOVES: blocks (printed by gen_moves.py) -/
theorem mo_0 {G : Cx} {d : Nat} {Λ : Lc} {X : Lx} {ext : va_W} {m : Mm} {A : Ab} {ce : List (Nat × Mm)} {Q : Option Value → LM → Prop}  (hC : CIv (atC G (lB Λ) false) m A) 
    (e1 : ∀ a1 : Nat, ∀ a2 : Nat, ∀ a3 : Nat, ∀ a4 : Nat, ∀ a5 : Nat, WZ G (d + 20) (0, 0) μL_moves 112 [.ref (gB G), .int (nI (sN (aS A))), .int (nI (sL (aS A))), .int (nI (sH (aS A))), .int (sS (aS A) 0), .int (sS (aS A) 17), .int (sS (aS A) 16), .ref a1, .ref a2, .ref a3, .ref a4, .ref a5, .int (0 : Int32), lvU, lvU, lvU, lvU, lvU, lvU, lvU, lvU] [] (lm G Λ X [(((a1, Sum.inl (gY G 21, sL (aS A), Sum.inl (fun _ => 0))) : Nat × va_E)), (((a2, Sum.inl (gY G 21, sL (aS A), Sum.inl (fun _ => 0))) : Nat × va_E)), (((a3, Sum.inl (gY G 21, sN (aS A), Sum.inl (fun _ => 0))) : Nat × va_E)), (((a4, Sum.inl (gY G 21, sN (aS A), Sum.inl (fun _ => 0))) : Nat × va_E)), (((a5, Sum.inl (gY G 22, 3, Sum.inr (Sum.inl (vp_updL (vp_updL (vp_updL (fun _ => 0) 0 (sE (aS A) 0)) 1 (sE (aS A) 1)) 2 (sE (aS A) 2))))) : Nat × va_E))] m ce) Q) :
    WZM G (d + 20) (5, 39) μL_moves [.ref (gB G)] (lm G Λ X [] m ce) Q := by
  have hn12 := hC.nn.2
  have hl6 := hC.nl.2
  have hh8 := hC.nh.2
  refine WZM.of pL (Nat.le_of_ble_eq_true rfl) rfl ?_
  refine wl_aload_n dL_moves_0 rfl ?_
  refine wl_get 0 (.ref (lB Λ)) dL_moves_1 fL_10 rfl rfl ?_
  refine wl_callX (As := []) (S := []) [] ce dL_moves_4 ML_101 rfl rfl (Nat.le_of_ble_eq_true rfl) ?_
  refine a_nodeCount hC ?_
  show WZ G (d + 20) (5, 39) μL_moves 7 [.ref (gB G), lvU, lvU, lvU, lvU, lvU, lvU, lvU, lvU, lvU, lvU, lvU, lvU, lvU, lvU, lvU, lvU, lvU, lvU, lvU, lvU] [.int (nI (sN (aS A)))] (lm G Λ X [] m ce) Q
  refine wl_istore_n dL_moves_7 (by decide) rfl ?_
  refine wl_aload_n dL_moves_8 rfl ?_
  refine wl_get 0 (.ref (lB Λ)) dL_moves_9 fL_10 rfl rfl ?_
  refine wl_callX (As := []) (S := []) [] ce dL_moves_12 ML_123 rfl rfl (Nat.le_of_ble_eq_true rfl) ?_
  refine a_louvreCount hC ?_
  show WZ G (d + 20) (5, 39) μL_moves 15 [.ref (gB G), .int (nI (sN (aS A))), lvU, lvU, lvU, lvU, lvU, lvU, lvU, lvU, lvU, lvU, lvU, lvU, lvU, lvU, lvU, lvU, lvU, lvU, lvU] [.int (nI (sL (aS A)))] (lm G Λ X [] m ce) Q
  refine wl_istore_n dL_moves_15 (by decide) rfl ?_
  refine wl_aload_n dL_moves_16 rfl ?_
  refine wl_get 0 (.ref (lB Λ)) dL_moves_17 fL_10 rfl rfl ?_
  refine wl_callX (As := []) (S := []) [] ce dL_moves_20 ML_126 rfl rfl (Nat.le_of_ble_eq_true rfl) ?_
  refine a_heaterCount hC ?_
  show WZ G (d + 20) (5, 39) μL_moves 23 [.ref (gB G), .int (nI (sN (aS A))), .int (nI (sL (aS A))), lvU, lvU, lvU, lvU, lvU, lvU, lvU, lvU, lvU, lvU, lvU, lvU, lvU, lvU, lvU, lvU, lvU, lvU] [.int (nI (sH (aS A)))] (lm G Λ X [] m ce) Q
  refine wl_istore_n dL_moves_23 (by decide) rfl ?_
  refine wl_aload_n dL_moves_24 rfl ?_
  refine wl_get 0 (.ref (lB Λ)) dL_moves_25 fL_10 rfl rfl ?_
  refine wl_callX (As := []) (S := []) [] ce dL_moves_28 ML_129 rfl rfl (Nat.le_of_ble_eq_true rfl) ?_
  refine a_time hC ?_
  show WZ G (d + 20) (5, 39) μL_moves 31 [.ref (gB G), .int (nI (sN (aS A))), .int (nI (sL (aS A))), .int (nI (sH (aS A))), lvU, lvU, lvU, lvU, lvU, lvU, lvU, lvU, lvU, lvU, lvU, lvU, lvU, lvU, lvU, lvU, lvU] [.int (sS (aS A) 0)] (lm G Λ X [] m ce) Q
  refine wl_istore dL_moves_31 (by decide) rfl ?_
  refine wl_aload_n dL_moves_33 rfl ?_
  refine wl_get 0 (.ref (lB Λ)) dL_moves_34 fL_10 rfl rfl ?_
  refine wl_callX (As := []) (S := []) [] ce dL_moves_37 ML_132 rfl rfl (Nat.le_of_ble_eq_true rfl) ?_
  refine a_shedCount hC ?_
  show WZ G (d + 20) (5, 39) μL_moves 40 [.ref (gB G), .int (nI (sN (aS A))), .int (nI (sL (aS A))), .int (nI (sH (aS A))), .int (sS (aS A) 0), lvU, lvU, lvU, lvU, lvU, lvU, lvU, lvU, lvU, lvU, lvU, lvU, lvU, lvU, lvU, lvU] [.int (sS (aS A) 17)] (lm G Λ X [] m ce) Q
  refine wl_istore dL_moves_40 (by decide) rfl ?_
  refine wl_aload_n dL_moves_42 rfl ?_
  refine wl_get 0 (.ref (lB Λ)) dL_moves_43 fL_10 rfl rfl ?_
  refine wl_callX (As := []) (S := []) [] ce dL_moves_46 ML_135 rfl rfl (Nat.le_of_ble_eq_true rfl) ?_
  refine a_violatorCount hC ?_
  show WZ G (d + 20) (5, 39) μL_moves 49 [.ref (gB G), .int (nI (sN (aS A))), .int (nI (sL (aS A))), .int (nI (sH (aS A))), .int (sS (aS A) 0), .int (sS (aS A) 17), lvU, lvU, lvU, lvU, lvU, lvU, lvU, lvU, lvU, lvU, lvU, lvU, lvU, lvU, lvU] [.int (sS (aS A) 16)] (lm G Λ X [] m ce) Q
  refine wl_istore dL_moves_49 (by decide) rfl ?_
  refine wl_iload_n dL_moves_51 rfl ?_
  refine wl_newi (n := sL (aS A)) (N := 6) (b1 := 4) (b2 := 33) dL_moves_52 Zint rfl (by first | omega | exact hn12 | exact hl6) (by omega) (fun a1 => ?_)
  show WZ G (d + 20) (4, 33) μL_moves 54 [.ref (gB G), .int (nI (sN (aS A))), .int (nI (sL (aS A))), .int (nI (sH (aS A))), .int (sS (aS A) 0), .int (sS (aS A) 17), .int (sS (aS A) 16), lvU, lvU, lvU, lvU, lvU, lvU, lvU, lvU, lvU, lvU, lvU, lvU, lvU, lvU] [.ref a1] (lm G Λ X [(((a1, Sum.inl (gY G 21, sL (aS A), Sum.inl (fun _ => 0))) : Nat × va_E))] m ce) Q
  refine wl_astore dL_moves_54 (by decide) rfl ?_
  refine wl_iload_n dL_moves_56 rfl ?_
  refine wl_newi (n := sL (aS A)) (N := 6) (b1 := 3) (b2 := 27) dL_moves_57 Zint rfl (by first | omega | exact hn12 | exact hl6) (by omega) (fun a2 => ?_)
  show WZ G (d + 20) (3, 27) μL_moves 59 [.ref (gB G), .int (nI (sN (aS A))), .int (nI (sL (aS A))), .int (nI (sH (aS A))), .int (sS (aS A) 0), .int (sS (aS A) 17), .int (sS (aS A) 16), .ref a1, lvU, lvU, lvU, lvU, lvU, lvU, lvU, lvU, lvU, lvU, lvU, lvU, lvU] [.ref a2] (lm G Λ X [(((a1, Sum.inl (gY G 21, sL (aS A), Sum.inl (fun _ => 0))) : Nat × va_E)), (((a2, Sum.inl (gY G 21, sL (aS A), Sum.inl (fun _ => 0))) : Nat × va_E))] m ce) Q
  refine wl_astore dL_moves_59 (by decide) rfl ?_
  refine wl_iload_n dL_moves_61 rfl ?_
  refine wl_newi (n := sN (aS A)) (N := 12) (b1 := 2) (b2 := 15) dL_moves_62 Zint rfl (by first | omega | exact hn12 | exact hl6) (by omega) (fun a3 => ?_)
  show WZ G (d + 20) (2, 15) μL_moves 64 [.ref (gB G), .int (nI (sN (aS A))), .int (nI (sL (aS A))), .int (nI (sH (aS A))), .int (sS (aS A) 0), .int (sS (aS A) 17), .int (sS (aS A) 16), .ref a1, .ref a2, lvU, lvU, lvU, lvU, lvU, lvU, lvU, lvU, lvU, lvU, lvU, lvU] [.ref a3] (lm G Λ X [(((a1, Sum.inl (gY G 21, sL (aS A), Sum.inl (fun _ => 0))) : Nat × va_E)), (((a2, Sum.inl (gY G 21, sL (aS A), Sum.inl (fun _ => 0))) : Nat × va_E)), (((a3, Sum.inl (gY G 21, sN (aS A), Sum.inl (fun _ => 0))) : Nat × va_E))] m ce) Q
  refine wl_astore dL_moves_64 (by decide) rfl ?_
  refine wl_iload_n dL_moves_66 rfl ?_
  refine wl_newi (n := sN (aS A)) (N := 12) (b1 := 1) (b2 := 3) dL_moves_67 Zint rfl (by first | omega | exact hn12 | exact hl6) (by omega) (fun a4 => ?_)
  show WZ G (d + 20) (1, 3) μL_moves 69 [.ref (gB G), .int (nI (sN (aS A))), .int (nI (sL (aS A))), .int (nI (sH (aS A))), .int (sS (aS A) 0), .int (sS (aS A) 17), .int (sS (aS A) 16), .ref a1, .ref a2, .ref a3, lvU, lvU, lvU, lvU, lvU, lvU, lvU, lvU, lvU, lvU, lvU] [.ref a4] (lm G Λ X [(((a1, Sum.inl (gY G 21, sL (aS A), Sum.inl (fun _ => 0))) : Nat × va_E)), (((a2, Sum.inl (gY G 21, sL (aS A), Sum.inl (fun _ => 0))) : Nat × va_E)), (((a3, Sum.inl (gY G 21, sN (aS A), Sum.inl (fun _ => 0))) : Nat × va_E)), (((a4, Sum.inl (gY G 21, sN (aS A), Sum.inl (fun _ => 0))) : Nat × va_E))] m ce) Q
  refine wl_astore dL_moves_69 (by decide) rfl ?_
  refine wl_iconst (3 : Int32) dL_moves_71 (by decide) ?_
  refine wl_newl (n := 3) (N := 3) (b1 := 0) (b2 := 0) dL_moves_72 Zlong rfl (by first | omega | exact hn12 | exact hl6) (by omega) (fun a5 => ?_)
  show WZ G (d + 20) (0, 0) μL_moves 74 [.ref (gB G), .int (nI (sN (aS A))), .int (nI (sL (aS A))), .int (nI (sH (aS A))), .int (sS (aS A) 0), .int (sS (aS A) 17), .int (sS (aS A) 16), .ref a1, .ref a2, .ref a3, .ref a4, lvU, lvU, lvU, lvU, lvU, lvU, lvU, lvU, lvU, lvU] [.ref a5] (lm G Λ X [(((a1, Sum.inl (gY G 21, sL (aS A), Sum.inl (fun _ => 0))) : Nat × va_E)), (((a2, Sum.inl (gY G 21, sL (aS A), Sum.inl (fun _ => 0))) : Nat × va_E)), (((a3, Sum.inl (gY G 21, sN (aS A), Sum.inl (fun _ => 0))) : Nat × va_E)), (((a4, Sum.inl (gY G 21, sN (aS A), Sum.inl (fun _ => 0))) : Nat × va_E)), (((a5, Sum.inl (gY G 22, 3, Sum.inr (Sum.inl (fun _ => 0)))) : Nat × va_E))] m ce) Q
  refine wl_dup dL_moves_74 rfl ?_
  refine wl_iconst (0 : Int32) dL_moves_75 (by decide) ?_
  refine wl_aload_n dL_moves_76 rfl ?_
  refine wl_get 0 (.ref (lB Λ)) dL_moves_77 fL_10 rfl rfl ?_
  refine wl_iconst (0 : Int32) dL_moves_80 (by decide) ?_
  refine wl_callX (As := [.int (0 : Int32)]) (S := [.int (0 : Int32), .ref a5, .ref a5]) [] ce dL_moves_81 ML_138 rfl rfl (Nat.le_of_ble_eq_true rfl) ?_
  refine a_energy0 hC ?_
  show WZ G (d + 20) (0, 0) μL_moves 84 [.ref (gB G), .int (nI (sN (aS A))), .int (nI (sL (aS A))), .int (nI (sH (aS A))), .int (sS (aS A) 0), .int (sS (aS A) 17), .int (sS (aS A) 16), .ref a1, .ref a2, .ref a3, .ref a4, lvU, lvU, lvU, lvU, lvU, lvU, lvU, lvU, lvU, lvU] [.long (sE (aS A) 0), .int (0 : Int32), .ref a5, .ref a5] (lm G Λ X [(((a1, Sum.inl (gY G 21, sL (aS A), Sum.inl (fun _ => 0))) : Nat × va_E)), (((a2, Sum.inl (gY G 21, sL (aS A), Sum.inl (fun _ => 0))) : Nat × va_E)), (((a3, Sum.inl (gY G 21, sN (aS A), Sum.inl (fun _ => 0))) : Nat × va_E)), (((a4, Sum.inl (gY G 21, sN (aS A), Sum.inl (fun _ => 0))) : Nat × va_E)), (((a5, Sum.inl (gY G 22, 3, Sum.inr (Sum.inl (fun _ => 0)))) : Nat × va_E))] m ce) Q
  refine wl_last (t0 := 2) 8 0 (lws G Λ X [(((a1, Sum.inl (gY G 21, sL (aS A), Sum.inl (fun _ => 0))) : Nat × va_E)), (((a2, Sum.inl (gY G 21, sL (aS A), Sum.inl (fun _ => 0))) : Nat × va_E)), (((a3, Sum.inl (gY G 21, sN (aS A), Sum.inl (fun _ => 0))) : Nat × va_E)), (((a4, Sum.inl (gY G 21, sN (aS A), Sum.inl (fun _ => 0))) : Nat × va_E)), (((a5, Sum.inl (gY G 22, 3, Sum.inr (Sum.inl (vp_updL (fun _ => 0) 0 (sE (aS A) 0))))) : Nat × va_E))]) dL_moves_84 rfl rfl rfl (by omega) (by omega) rfl ?_
  refine wl_dup dL_moves_85 rfl ?_
  refine wl_iconst (1 : Int32) dL_moves_86 (by decide) ?_
  refine wl_aload_n dL_moves_87 rfl ?_
  refine wl_get 0 (.ref (lB Λ)) dL_moves_88 fL_10 rfl rfl ?_
  refine wl_iconst (1 : Int32) dL_moves_91 (by decide) ?_
  refine wl_callX (As := [.int (1 : Int32)]) (S := [.int (1 : Int32), .ref a5, .ref a5]) [] ce dL_moves_92 ML_138 rfl rfl (Nat.le_of_ble_eq_true rfl) ?_
  refine a_energy1 hC ?_
  show WZ G (d + 20) (0, 0) μL_moves 95 [.ref (gB G), .int (nI (sN (aS A))), .int (nI (sL (aS A))), .int (nI (sH (aS A))), .int (sS (aS A) 0), .int (sS (aS A) 17), .int (sS (aS A) 16), .ref a1, .ref a2, .ref a3, .ref a4, lvU, lvU, lvU, lvU, lvU, lvU, lvU, lvU, lvU, lvU] [.long (sE (aS A) 1), .int (1 : Int32), .ref a5, .ref a5] (lm G Λ X [(((a1, Sum.inl (gY G 21, sL (aS A), Sum.inl (fun _ => 0))) : Nat × va_E)), (((a2, Sum.inl (gY G 21, sL (aS A), Sum.inl (fun _ => 0))) : Nat × va_E)), (((a3, Sum.inl (gY G 21, sN (aS A), Sum.inl (fun _ => 0))) : Nat × va_E)), (((a4, Sum.inl (gY G 21, sN (aS A), Sum.inl (fun _ => 0))) : Nat × va_E)), (((a5, Sum.inl (gY G 22, 3, Sum.inr (Sum.inl (vp_updL (fun _ => 0) 0 (sE (aS A) 0))))) : Nat × va_E))] m ce) Q
  refine wl_last (t0 := 2) 8 1 (lws G Λ X [(((a1, Sum.inl (gY G 21, sL (aS A), Sum.inl (fun _ => 0))) : Nat × va_E)), (((a2, Sum.inl (gY G 21, sL (aS A), Sum.inl (fun _ => 0))) : Nat × va_E)), (((a3, Sum.inl (gY G 21, sN (aS A), Sum.inl (fun _ => 0))) : Nat × va_E)), (((a4, Sum.inl (gY G 21, sN (aS A), Sum.inl (fun _ => 0))) : Nat × va_E)), (((a5, Sum.inl (gY G 22, 3, Sum.inr (Sum.inl (vp_updL (vp_updL (fun _ => 0) 0 (sE (aS A) 0)) 1 (sE (aS A) 1))))) : Nat × va_E))]) dL_moves_95 rfl rfl rfl (by omega) (by omega) rfl ?_
  refine wl_dup dL_moves_96 rfl ?_
  refine wl_iconst (2 : Int32) dL_moves_97 (by decide) ?_
  refine wl_aload_n dL_moves_98 rfl ?_
  refine wl_get 0 (.ref (lB Λ)) dL_moves_99 fL_10 rfl rfl ?_
  refine wl_iconst (2 : Int32) dL_moves_102 (by decide) ?_
  refine wl_callX (As := [.int (2 : Int32)]) (S := [.int (2 : Int32), .ref a5, .ref a5]) [] ce dL_moves_103 ML_138 rfl rfl (Nat.le_of_ble_eq_true rfl) ?_
  refine a_energy2 hC ?_
  show WZ G (d + 20) (0, 0) μL_moves 106 [.ref (gB G), .int (nI (sN (aS A))), .int (nI (sL (aS A))), .int (nI (sH (aS A))), .int (sS (aS A) 0), .int (sS (aS A) 17), .int (sS (aS A) 16), .ref a1, .ref a2, .ref a3, .ref a4, lvU, lvU, lvU, lvU, lvU, lvU, lvU, lvU, lvU, lvU] [.long (sE (aS A) 2), .int (2 : Int32), .ref a5, .ref a5] (lm G Λ X [(((a1, Sum.inl (gY G 21, sL (aS A), Sum.inl (fun _ => 0))) : Nat × va_E)), (((a2, Sum.inl (gY G 21, sL (aS A), Sum.inl (fun _ => 0))) : Nat × va_E)), (((a3, Sum.inl (gY G 21, sN (aS A), Sum.inl (fun _ => 0))) : Nat × va_E)), (((a4, Sum.inl (gY G 21, sN (aS A), Sum.inl (fun _ => 0))) : Nat × va_E)), (((a5, Sum.inl (gY G 22, 3, Sum.inr (Sum.inl (vp_updL (vp_updL (fun _ => 0) 0 (sE (aS A) 0)) 1 (sE (aS A) 1))))) : Nat × va_E))] m ce) Q
  refine wl_last (t0 := 2) 8 2 (lws G Λ X [(((a1, Sum.inl (gY G 21, sL (aS A), Sum.inl (fun _ => 0))) : Nat × va_E)), (((a2, Sum.inl (gY G 21, sL (aS A), Sum.inl (fun _ => 0))) : Nat × va_E)), (((a3, Sum.inl (gY G 21, sN (aS A), Sum.inl (fun _ => 0))) : Nat × va_E)), (((a4, Sum.inl (gY G 21, sN (aS A), Sum.inl (fun _ => 0))) : Nat × va_E)), (((a5, Sum.inl (gY G 22, 3, Sum.inr (Sum.inl (vp_updL (vp_updL (vp_updL (fun _ => 0) 0 (sE (aS A) 0)) 1 (sE (aS A) 1)) 2 (sE (aS A) 2))))) : Nat × va_E))]) dL_moves_106 rfl rfl rfl (by omega) (by omega) rfl ?_
  refine wl_astore dL_moves_107 (by decide) rfl ?_
  refine wl_iconst (0 : Int32) dL_moves_109 (by decide) ?_
  refine wl_istore dL_moves_110 (by decide) rfl ?_
  exact e1 a1 a2 a3 a4 a5

theorem mo_1 {G : Cx} {d : Nat} {Λ : Lc} {X : Lx} {ext : va_W} {m : Mm} {A : Ab} {ce : List (Nat × Mm)} {Q : Option Value → LM → Prop} {a1 a2 a3 a4 a5 : Nat} {f1 f2 f3 f4 : Nat → Int32} {f5 : Nat → Int64} {t0 s0 v0 : Int32} {i : Nat} (hC : CIv (atC G (lB Λ) false) m A) (hi : i ≤ sL (aS A))
    (e1 : ¬ i < sL (aS A) → WZ G (d + 20) (0, 0) μL_moves 155 [.ref (gB G), .int (nI (sN (aS A))), .int (nI (sL (aS A))), .int (nI (sH (aS A))), .int t0, .int s0, .int v0, .ref a1, .ref a2, .ref a3, .ref a4, .ref a5, .int (0 : Int32), lvU, lvU, lvU, lvU, lvU, lvU, lvU, lvU] [] (lm G Λ X [(((a1, Sum.inl (gY G 21, sL (aS A), Sum.inl f1)) : Nat × va_E)), (((a2, Sum.inl (gY G 21, sL (aS A), Sum.inl f2)) : Nat × va_E)), (((a3, Sum.inl (gY G 21, sN (aS A), Sum.inl f3)) : Nat × va_E)), (((a4, Sum.inl (gY G 21, sN (aS A), Sum.inl f4)) : Nat × va_E)), (((a5, Sum.inl (gY G 22, 3, Sum.inr (Sum.inl f5))) : Nat × va_E))] m ce) Q)
    (e2 : i < sL (aS A) → WZ G (d + 20) (0, 0) μL_moves 112 [.ref (gB G), .int (nI (sN (aS A))), .int (nI (sL (aS A))), .int (nI (sH (aS A))), .int t0, .int s0, .int v0, .ref a1, .ref a2, .ref a3, .ref a4, .ref a5, .int (nI (i + 1)), lvU, lvU, lvU, lvU, lvU, lvU, lvU, lvU] [] (lm G Λ X [(((a1, Sum.inl (gY G 21, sL (aS A), Sum.inl (upd f1 i (sS (aS A) (7 * i + 301))))) : Nat × va_E)), (((a2, Sum.inl (gY G 21, sL (aS A), Sum.inl (upd f2 i (tgtF (sS (aS A)) (own (sS (aS A)) (7 * i + 296)) i)))) : Nat × va_E)), (((a3, Sum.inl (gY G 21, sN (aS A), Sum.inl f3)) : Nat × va_E)), (((a4, Sum.inl (gY G 21, sN (aS A), Sum.inl f4)) : Nat × va_E)), (((a5, Sum.inl (gY G 22, 3, Sum.inr (Sum.inl f5))) : Nat × va_E))] m ce) Q) :
    WZ G (d + 20) (0, 0) μL_moves 112 [.ref (gB G), .int (nI (sN (aS A))), .int (nI (sL (aS A))), .int (nI (sH (aS A))), .int t0, .int s0, .int v0, .ref a1, .ref a2, .ref a3, .ref a4, .ref a5, .int (nI i), lvU, lvU, lvU, lvU, lvU, lvU, lvU, lvU] [] (lm G Λ X [(((a1, Sum.inl (gY G 21, sL (aS A), Sum.inl f1)) : Nat × va_E)), (((a2, Sum.inl (gY G 21, sL (aS A), Sum.inl f2)) : Nat × va_E)), (((a3, Sum.inl (gY G 21, sN (aS A), Sum.inl f3)) : Nat × va_E)), (((a4, Sum.inl (gY G 21, sN (aS A), Sum.inl f4)) : Nat × va_E)), (((a5, Sum.inl (gY G 22, 3, Sum.inr (Sum.inl f5))) : Nat × va_E))] m ce) Q := by
  have hn12 := hC.nn.2
  have hl6 := hC.nl.2
  have hh8 := hC.nh.2
  refine wl_iload dL_moves_112 rfl ?_
  refine wl_iload_n dL_moves_114 rfl ?_
  refine wl_icmp_ge 152 dL_moves_115 (by decide) (fun q1 => ?_) (fun q1 => ?_)
  · have q2 : ¬ i < sL (aS A) := fun y => q1 (nlt_ (a := i) (b := sL (aS A)) y (by omega))
    refine wl_iconst (0 : Int32) dL_moves_152 (by decide) ?_
    refine wl_istore dL_moves_153 (by decide) rfl ?_
    exact e1 q2
  · have q3 : i < sL (aS A) := nlt (a := i) (b := sL (aS A)) q1 (by omega) (by omega)
    refine wl_aload dL_moves_118 rfl ?_
    refine wl_iload dL_moves_120 rfl ?_
    refine wl_aload_n dL_moves_122 rfl ?_
    refine wl_get 0 (.ref (lB Λ)) dL_moves_123 fL_10 rfl rfl ?_
    refine wl_iload dL_moves_126 rfl ?_
    refine wl_callX (As := [.int (nI i)]) (S := [.int (nI i), .ref a1]) [] ce dL_moves_128 ML_141 rfl rfl (Nat.le_of_ble_eq_true rfl) ?_
    refine a_opening (i := i) hC (by omega) ?_
    show WZ G (d + 20) (0, 0) μL_moves 131 [.ref (gB G), .int (nI (sN (aS A))), .int (nI (sL (aS A))), .int (nI (sH (aS A))), .int t0, .int s0, .int v0, .ref a1, .ref a2, .ref a3, .ref a4, .ref a5, .int (nI i), lvU, lvU, lvU, lvU, lvU, lvU, lvU, lvU] [.int (sS (aS A) (7 * i + 301)), .int (nI i), .ref a1] (lm G Λ X [(((a1, Sum.inl (gY G 21, sL (aS A), Sum.inl f1)) : Nat × va_E)), (((a2, Sum.inl (gY G 21, sL (aS A), Sum.inl f2)) : Nat × va_E)), (((a3, Sum.inl (gY G 21, sN (aS A), Sum.inl f3)) : Nat × va_E)), (((a4, Sum.inl (gY G 21, sN (aS A), Sum.inl f4)) : Nat × va_E)), (((a5, Sum.inl (gY G 22, 3, Sum.inr (Sum.inl f5))) : Nat × va_E))] m ce) Q
    refine wl_iast (t0 := 1) 4 i (lws G Λ X [(((a1, Sum.inl (gY G 21, sL (aS A), Sum.inl (upd f1 i (sS (aS A) (7 * i + 301))))) : Nat × va_E)), (((a2, Sum.inl (gY G 21, sL (aS A), Sum.inl f2)) : Nat × va_E)), (((a3, Sum.inl (gY G 21, sN (aS A), Sum.inl f3)) : Nat × va_E)), (((a4, Sum.inl (gY G 21, sN (aS A), Sum.inl f4)) : Nat × va_E)), (((a5, Sum.inl (gY G 22, 3, Sum.inr (Sum.inl f5))) : Nat × va_E))]) dL_moves_131 rfl rfl rfl (by omega) (by omega) rfl ?_
    refine wl_aload dL_moves_132 rfl ?_
    refine wl_iload dL_moves_134 rfl ?_
    refine wl_aload_n dL_moves_136 rfl ?_
    refine wl_get 0 (.ref (lB Λ)) dL_moves_137 fL_10 rfl rfl ?_
    refine wl_iload dL_moves_140 rfl ?_
    refine wl_callX (As := [.int (nI i)]) (S := [.int (nI i), .ref a2]) [] ce dL_moves_142 ML_144 rfl rfl (Nat.le_of_ble_eq_true rfl) ?_
    refine a_target (i := i) hC (by omega) ?_
    show WZ G (d + 20) (0, 0) μL_moves 145 [.ref (gB G), .int (nI (sN (aS A))), .int (nI (sL (aS A))), .int (nI (sH (aS A))), .int t0, .int s0, .int v0, .ref a1, .ref a2, .ref a3, .ref a4, .ref a5, .int (nI i), lvU, lvU, lvU, lvU, lvU, lvU, lvU, lvU] [.int (tgtF (sS (aS A)) (own (sS (aS A)) (7 * i + 296)) i), .int (nI i), .ref a2] (lm G Λ X [(((a1, Sum.inl (gY G 21, sL (aS A), Sum.inl (upd f1 i (sS (aS A) (7 * i + 301))))) : Nat × va_E)), (((a2, Sum.inl (gY G 21, sL (aS A), Sum.inl f2)) : Nat × va_E)), (((a3, Sum.inl (gY G 21, sN (aS A), Sum.inl f3)) : Nat × va_E)), (((a4, Sum.inl (gY G 21, sN (aS A), Sum.inl f4)) : Nat × va_E)), (((a5, Sum.inl (gY G 22, 3, Sum.inr (Sum.inl f5))) : Nat × va_E))] m ce) Q
    refine wl_iast (t0 := 1) 5 i (lws G Λ X [(((a1, Sum.inl (gY G 21, sL (aS A), Sum.inl (upd f1 i (sS (aS A) (7 * i + 301))))) : Nat × va_E)), (((a2, Sum.inl (gY G 21, sL (aS A), Sum.inl (upd f2 i (tgtF (sS (aS A)) (own (sS (aS A)) (7 * i + 296)) i)))) : Nat × va_E)), (((a3, Sum.inl (gY G 21, sN (aS A), Sum.inl f3)) : Nat × va_E)), (((a4, Sum.inl (gY G 21, sN (aS A), Sum.inl f4)) : Nat × va_E)), (((a5, Sum.inl (gY G 22, 3, Sum.inr (Sum.inl f5))) : Nat × va_E))]) dL_moves_145 rfl rfl rfl (by omega) (by omega) rfl ?_
    refine wl_iinc (nI (i + 1)) dL_moves_146 rfl (by decide) (nadd (a := i) (b := 1) rfl) rfl ?_
    refine wl_goto 112 dL_moves_149 (by decide) ?_
    exact e2 q3

theorem mo_2 {G : Cx} {d : Nat} {Λ : Lc} {X : Lx} {ext : va_W} {m : Mm} {A : Ab} {ce : List (Nat × Mm)} {Q : Option Value → LM → Prop} {a1 a2 a3 a4 a5 : Nat} {f1 f2 f3 f4 : Nat → Int32} {f5 : Nat → Int64} {t0 s0 v0 : Int32} {i : Nat} (hC : CIv (atC G (lB Λ) false) m A) (hi : i ≤ sN (aS A))
    (e1 : ¬ i < sN (aS A) → WZ G (d + 20) (0, 0) μL_moves 201 [.ref (gB G), .int (nI (sN (aS A))), .int (nI (sL (aS A))), .int (nI (sH (aS A))), .int t0, .int s0, .int v0, .ref a1, .ref a2, .ref a3, .ref a4, .ref a5, .long (0 : Int64), lvU, .int (0 : Int32), lvU, lvU, lvU, lvU, lvU, lvU] [] (lm G Λ X [(((a1, Sum.inl (gY G 21, sL (aS A), Sum.inl f1)) : Nat × va_E)), (((a2, Sum.inl (gY G 21, sL (aS A), Sum.inl f2)) : Nat × va_E)), (((a3, Sum.inl (gY G 21, sN (aS A), Sum.inl f3)) : Nat × va_E)), (((a4, Sum.inl (gY G 21, sN (aS A), Sum.inl f4)) : Nat × va_E)), (((a5, Sum.inl (gY G 22, 3, Sum.inr (Sum.inl f5))) : Nat × va_E))] m ce) Q)
    (e2 : i < sN (aS A) → WZ G (d + 20) (0, 0) μL_moves 155 [.ref (gB G), .int (nI (sN (aS A))), .int (nI (sL (aS A))), .int (nI (sH (aS A))), .int t0, .int s0, .int v0, .ref a1, .ref a2, .ref a3, .ref a4, .ref a5, .int (nI (i + 1)), lvU, lvU, lvU, lvU, lvU, lvU, lvU, lvU] [] (lm G Λ X [(((a1, Sum.inl (gY G 21, sL (aS A), Sum.inl f1)) : Nat × va_E)), (((a2, Sum.inl (gY G 21, sL (aS A), Sum.inl f2)) : Nat × va_E)), (((a3, Sum.inl (gY G 21, sN (aS A), Sum.inl (upd f3 i (sS (aS A) (11 * i + 27))))) : Nat × va_E)), (((a4, Sum.inl (gY G 21, sN (aS A), Sum.inl (upd f4 i (sS (aS A) (11 * i + 28))))) : Nat × va_E)), (((a5, Sum.inl (gY G 22, 3, Sum.inr (Sum.inl f5))) : Nat × va_E))] m ce) Q) :
    WZ G (d + 20) (0, 0) μL_moves 155 [.ref (gB G), .int (nI (sN (aS A))), .int (nI (sL (aS A))), .int (nI (sH (aS A))), .int t0, .int s0, .int v0, .ref a1, .ref a2, .ref a3, .ref a4, .ref a5, .int (nI i), lvU, lvU, lvU, lvU, lvU, lvU, lvU, lvU] [] (lm G Λ X [(((a1, Sum.inl (gY G 21, sL (aS A), Sum.inl f1)) : Nat × va_E)), (((a2, Sum.inl (gY G 21, sL (aS A), Sum.inl f2)) : Nat × va_E)), (((a3, Sum.inl (gY G 21, sN (aS A), Sum.inl f3)) : Nat × va_E)), (((a4, Sum.inl (gY G 21, sN (aS A), Sum.inl f4)) : Nat × va_E)), (((a5, Sum.inl (gY G 22, 3, Sum.inr (Sum.inl f5))) : Nat × va_E))] m ce) Q := by
  have hn12 := hC.nn.2
  have hl6 := hC.nl.2
  have hh8 := hC.nh.2
  refine wl_iload dL_moves_155 rfl ?_
  refine wl_iload_n dL_moves_157 rfl ?_
  refine wl_icmp_ge 195 dL_moves_158 (by decide) (fun q1 => ?_) (fun q1 => ?_)
  · have q2 : ¬ i < sN (aS A) := fun y => q1 (nlt_ (a := i) (b := sN (aS A)) y (by omega))
    refine wl_lconst (0 : Int64) dL_moves_195 (by decide) ?_
    refine wl_lstore dL_moves_196 (by decide) rfl ?_
    refine wl_iconst (0 : Int32) dL_moves_198 (by decide) ?_
    refine wl_istore dL_moves_199 (by decide) rfl ?_
    exact e1 q2
  · have q3 : i < sN (aS A) := nlt (a := i) (b := sN (aS A)) q1 (by omega) (by omega)
    refine wl_aload dL_moves_161 rfl ?_
    refine wl_iload dL_moves_163 rfl ?_
    refine wl_aload_n dL_moves_165 rfl ?_
    refine wl_get 0 (.ref (lB Λ)) dL_moves_166 fL_10 rfl rfl ?_
    refine wl_iload dL_moves_169 rfl ?_
    refine wl_callX (As := [.int (nI i)]) (S := [.int (nI i), .ref a3]) [] ce dL_moves_171 ML_147 rfl rfl (Nat.le_of_ble_eq_true rfl) ?_
    refine a_lowest (i := i) hC (by omega) ?_
    show WZ G (d + 20) (0, 0) μL_moves 174 [.ref (gB G), .int (nI (sN (aS A))), .int (nI (sL (aS A))), .int (nI (sH (aS A))), .int t0, .int s0, .int v0, .ref a1, .ref a2, .ref a3, .ref a4, .ref a5, .int (nI i), lvU, lvU, lvU, lvU, lvU, lvU, lvU, lvU] [.int (sS (aS A) (11 * i + 27)), .int (nI i), .ref a3] (lm G Λ X [(((a1, Sum.inl (gY G 21, sL (aS A), Sum.inl f1)) : Nat × va_E)), (((a2, Sum.inl (gY G 21, sL (aS A), Sum.inl f2)) : Nat × va_E)), (((a3, Sum.inl (gY G 21, sN (aS A), Sum.inl f3)) : Nat × va_E)), (((a4, Sum.inl (gY G 21, sN (aS A), Sum.inl f4)) : Nat × va_E)), (((a5, Sum.inl (gY G 22, 3, Sum.inr (Sum.inl f5))) : Nat × va_E))] m ce) Q
    refine wl_iast (t0 := 1) 6 i (lws G Λ X [(((a1, Sum.inl (gY G 21, sL (aS A), Sum.inl f1)) : Nat × va_E)), (((a2, Sum.inl (gY G 21, sL (aS A), Sum.inl f2)) : Nat × va_E)), (((a3, Sum.inl (gY G 21, sN (aS A), Sum.inl (upd f3 i (sS (aS A) (11 * i + 27))))) : Nat × va_E)), (((a4, Sum.inl (gY G 21, sN (aS A), Sum.inl f4)) : Nat × va_E)), (((a5, Sum.inl (gY G 22, 3, Sum.inr (Sum.inl f5))) : Nat × va_E))]) dL_moves_174 rfl rfl rfl (by omega) (by omega) rfl ?_
    refine wl_aload dL_moves_175 rfl ?_
    refine wl_iload dL_moves_177 rfl ?_
    refine wl_aload_n dL_moves_179 rfl ?_
    refine wl_get 0 (.ref (lB Λ)) dL_moves_180 fL_10 rfl rfl ?_
    refine wl_iload dL_moves_183 rfl ?_
    refine wl_callX (As := [.int (nI i)]) (S := [.int (nI i), .ref a4]) [] ce dL_moves_185 ML_150 rfl rfl (Nat.le_of_ble_eq_true rfl) ?_
    refine a_highest (i := i) hC (by omega) ?_
    show WZ G (d + 20) (0, 0) μL_moves 188 [.ref (gB G), .int (nI (sN (aS A))), .int (nI (sL (aS A))), .int (nI (sH (aS A))), .int t0, .int s0, .int v0, .ref a1, .ref a2, .ref a3, .ref a4, .ref a5, .int (nI i), lvU, lvU, lvU, lvU, lvU, lvU, lvU, lvU] [.int (sS (aS A) (11 * i + 28)), .int (nI i), .ref a4] (lm G Λ X [(((a1, Sum.inl (gY G 21, sL (aS A), Sum.inl f1)) : Nat × va_E)), (((a2, Sum.inl (gY G 21, sL (aS A), Sum.inl f2)) : Nat × va_E)), (((a3, Sum.inl (gY G 21, sN (aS A), Sum.inl (upd f3 i (sS (aS A) (11 * i + 27))))) : Nat × va_E)), (((a4, Sum.inl (gY G 21, sN (aS A), Sum.inl f4)) : Nat × va_E)), (((a5, Sum.inl (gY G 22, 3, Sum.inr (Sum.inl f5))) : Nat × va_E))] m ce) Q
    refine wl_iast (t0 := 1) 7 i (lws G Λ X [(((a1, Sum.inl (gY G 21, sL (aS A), Sum.inl f1)) : Nat × va_E)), (((a2, Sum.inl (gY G 21, sL (aS A), Sum.inl f2)) : Nat × va_E)), (((a3, Sum.inl (gY G 21, sN (aS A), Sum.inl (upd f3 i (sS (aS A) (11 * i + 27))))) : Nat × va_E)), (((a4, Sum.inl (gY G 21, sN (aS A), Sum.inl (upd f4 i (sS (aS A) (11 * i + 28))))) : Nat × va_E)), (((a5, Sum.inl (gY G 22, 3, Sum.inr (Sum.inl f5))) : Nat × va_E))]) dL_moves_188 rfl rfl rfl (by omega) (by omega) rfl ?_
    refine wl_iinc (nI (i + 1)) dL_moves_189 rfl (by decide) (nadd (a := i) (b := 1) rfl) rfl ?_
    refine wl_goto 155 dL_moves_192 (by decide) ?_
    exact e2 q3

theorem mo_3 {G : Cx} {d : Nat} {Λ : Lc} {X : Lx} {ext : va_W} {m : Mm} {A : Ab} {ce : List (Nat × Mm)} {Q : Option Value → LM → Prop} {a1 a2 a3 a4 a5 : Nat} {f1 f2 f3 f4 : Nat → Int32} {f5 : Nat → Int64} {t0 s0 v0 : Int32} {i : Nat} {z : Int64} (hC : CIv (atC G (lB Λ) false) m A) (hi : i ≤ sN (aS A))
    (e1 : ¬ i < sN (aS A) → WZ G (d + 20) (0, 0) μL_moves 227 [.ref (gB G), .int (nI (sN (aS A))), .int (nI (sL (aS A))), .int (nI (sH (aS A))), .int t0, .int s0, .int v0, .ref a1, .ref a2, .ref a3, .ref a4, .ref a5, .long z, lvU, lvU, lvU, lvU, lvU, lvU, lvU, lvU] [] (lm G Λ X [(((a1, Sum.inl (gY G 21, sL (aS A), Sum.inl f1)) : Nat × va_E)), (((a2, Sum.inl (gY G 21, sL (aS A), Sum.inl f2)) : Nat × va_E)), (((a3, Sum.inl (gY G 21, sN (aS A), Sum.inl f3)) : Nat × va_E)), (((a4, Sum.inl (gY G 21, sN (aS A), Sum.inl f4)) : Nat × va_E)), (((a5, Sum.inl (gY G 22, 3, Sum.inr (Sum.inl f5))) : Nat × va_E))] m ce) Q)
    (e2 : i < sN (aS A) → ∀ m4 : Mm, CIv (atC G (lB Λ) false) m4 A → WZ G (d + 20) (0, 0) μL_moves 201 [.ref (gB G), .int (nI (sN (aS A))), .int (nI (sL (aS A))), .int (nI (sH (aS A))), .int t0, .int s0, .int v0, .ref a1, .ref a2, .ref a3, .ref a4, .ref a5, .long (z + (absF (sS (aS A)) i)), lvU, .int (nI (i + 1)), lvU, lvU, lvU, lvU, lvU, lvU] [] (lm G Λ X [(((a1, Sum.inl (gY G 21, sL (aS A), Sum.inl f1)) : Nat × va_E)), (((a2, Sum.inl (gY G 21, sL (aS A), Sum.inl f2)) : Nat × va_E)), (((a3, Sum.inl (gY G 21, sN (aS A), Sum.inl f3)) : Nat × va_E)), (((a4, Sum.inl (gY G 21, sN (aS A), Sum.inl f4)) : Nat × va_E)), (((a5, Sum.inl (gY G 22, 3, Sum.inr (Sum.inl f5))) : Nat × va_E))] m4 ce) Q) :
    WZ G (d + 20) (0, 0) μL_moves 201 [.ref (gB G), .int (nI (sN (aS A))), .int (nI (sL (aS A))), .int (nI (sH (aS A))), .int t0, .int s0, .int v0, .ref a1, .ref a2, .ref a3, .ref a4, .ref a5, .long z, lvU, .int (nI i), lvU, lvU, lvU, lvU, lvU, lvU] [] (lm G Λ X [(((a1, Sum.inl (gY G 21, sL (aS A), Sum.inl f1)) : Nat × va_E)), (((a2, Sum.inl (gY G 21, sL (aS A), Sum.inl f2)) : Nat × va_E)), (((a3, Sum.inl (gY G 21, sN (aS A), Sum.inl f3)) : Nat × va_E)), (((a4, Sum.inl (gY G 21, sN (aS A), Sum.inl f4)) : Nat × va_E)), (((a5, Sum.inl (gY G 22, 3, Sum.inr (Sum.inl f5))) : Nat × va_E))] m ce) Q := by
  have hn12 := hC.nn.2
  have hl6 := hC.nl.2
  have hh8 := hC.nh.2
  refine wl_iload dL_moves_201 rfl ?_
  refine wl_iload_n dL_moves_203 rfl ?_
  refine wl_icmp_ge 227 dL_moves_204 (by decide) (fun q1 => ?_) (fun q1 => ?_)
  · have q2 : ¬ i < sN (aS A) := fun y => q1 (nlt_ (a := i) (b := sN (aS A)) y (by omega))
    refine wl_forget [.ref (gB G), .int (nI (sN (aS A))), .int (nI (sL (aS A))), .int (nI (sH (aS A))), .int t0, .int s0, .int v0, .ref a1, .ref a2, .ref a3, .ref a4, .ref a5, .long z, lvU, lvU, lvU, lvU, lvU, lvU, lvU, lvU] ⟨Or.inl rfl, Or.inl rfl, Or.inl rfl, Or.inl rfl, Or.inl rfl, Or.inl rfl, Or.inl rfl, Or.inl rfl, Or.inl rfl, Or.inl rfl, Or.inl rfl, Or.inl rfl, Or.inl rfl, Or.inl rfl, Or.inr rfl, Or.inl rfl, Or.inl rfl, Or.inl rfl, Or.inl rfl, Or.inl rfl, Or.inl rfl, trivial⟩ ?_
    exact e1 q2
  · have q3 : i < sN (aS A) := nlt (a := i) (b := sN (aS A)) q1 (by omega) (by omega)
    refine wl_lload dL_moves_207 rfl ?_
    refine wl_aload_n dL_moves_209 rfl ?_
    refine wl_get 0 (.ref (lB Λ)) dL_moves_210 fL_10 rfl rfl ?_
    refine wl_iload dL_moves_213 rfl ?_
    refine wl_callX (As := [.int (nI i)]) (S := [.long z]) [] ce dL_moves_215 ML_107 rfl rfl (Nat.le_of_ble_eq_true rfl) ?_
    refine a_absorbedHeat (i := i) hC (by omega) (fun m4 hC5 => ?_)
    show WZ G (d + 20) (0, 0) μL_moves 218 [.ref (gB G), .int (nI (sN (aS A))), .int (nI (sL (aS A))), .int (nI (sH (aS A))), .int t0, .int s0, .int v0, .ref a1, .ref a2, .ref a3, .ref a4, .ref a5, .long z, lvU, .int (nI i), lvU, lvU, lvU, lvU, lvU, lvU] [.long (absF (sS (aS A)) i), .long z] (lm G Λ X [(((a1, Sum.inl (gY G 21, sL (aS A), Sum.inl f1)) : Nat × va_E)), (((a2, Sum.inl (gY G 21, sL (aS A), Sum.inl f2)) : Nat × va_E)), (((a3, Sum.inl (gY G 21, sN (aS A), Sum.inl f3)) : Nat × va_E)), (((a4, Sum.inl (gY G 21, sN (aS A), Sum.inl f4)) : Nat × va_E)), (((a5, Sum.inl (gY G 22, 3, Sum.inr (Sum.inl f5))) : Nat × va_E))] m4 ce) Q
    refine wl_ladd dL_moves_218 ?_
    refine wl_lstore dL_moves_219 (by decide) rfl ?_
    refine wl_iinc (nI (i + 1)) dL_moves_221 rfl (by decide) (nadd (a := i) (b := 1) rfl) rfl ?_
    refine wl_goto 201 dL_moves_224 (by decide) ?_
    exact e2 q3 m4 hC5

theorem mo_4 {G : Cx} {d : Nat} {Λ : Lc} {X : Lx} {ext : va_W} {m : Mm} {A : Ab} {ce : List (Nat × Mm)} {Q : Option Value → LM → Prop} {a1 a2 a3 a4 a5 : Nat} {f1 f2 f3 f4 : Nat → Int32} {f5 : Nat → Int64} {t0 s0 v0 : Int32} {i : Nat} {z : Int64} (hC : CIv (atC G (lB Λ) false) m A) 
    (g1 : ∀ m1 : Mm, CIv (atC G (lB Λ) false) m1 (stA A (upd (sS (aS A)) 1 (1 : Int32))) → rg (sS (aS A) 1) 1 60)
    (g2 : ∀ m1 : Mm, CIv (atC G (lB Λ) false) m1 (stA A (upd (sS (aS A)) 1 (1 : Int32))) → ∀ m3 : Mm, CIv (atC G (lB Λ) false) m3 (stA (stA A (upd (sS (aS A)) 1 (1 : Int32))) (upd (sS (aS (stA A (upd (sS (aS A)) 1 (1 : Int32))))) 1 (sS (aS A) 1))) → (sS (aS (stA A (upd (sS (aS A)) 1 (1 : Int32)))) 1) = (1 : Int32) → (sS (aS (stA (stA A (upd (sS (aS A)) 1 (1 : Int32))) (upd (sS (aS (stA A (upd (sS (aS A)) 1 (1 : Int32))))) 1 (sS (aS A) 1)))) 0).toInt + (1 : Nat) * (sS (aS (stA (stA A (upd (sS (aS A)) 1 (1 : Int32))) (upd (sS (aS (stA A (upd (sS (aS A)) 1 (1 : Int32))))) 1 (sS (aS A) 1)))) 1).toInt ≤ 100000000)
    (e1 : ∀ m1 : Mm, CIv (atC G (lB Λ) false) m1 (stA A (upd (sS (aS A)) 1 (1 : Int32))) → ∀ m3 : Mm, CIv (atC G (lB Λ) false) m3 (stA (stA A (upd (sS (aS A)) 1 (1 : Int32))) (upd (sS (aS (stA A (upd (sS (aS A)) 1 (1 : Int32))))) 1 (sS (aS A) 1))) → (sS (aS (stA A (upd (sS (aS A)) 1 (1 : Int32)))) 1) = (1 : Int32) → ∀ m6 : Mm, CIv (atC G (lB Λ) false) m6 ((it (aS (stA (stA A (upd (sS (aS A)) 1 (1 : Int32))) (upd (sS (aS (stA A (upd (sS (aS A)) 1 (1 : Int32))))) 1 (sS (aS A) 1)))) 1, ((stA (stA A (upd (sS (aS A)) 1 (1 : Int32))) (upd (sS (aS (stA A (upd (sS (aS A)) 1 (1 : Int32))))) 1 (sS (aS A) 1)))).2) : Ab) → WZ G (d + 20) (0, 0) μL_moves 265 [.ref (gB G), .int (nI (sN (aS A))), .int (nI (sL (aS A))), .int (nI (sH (aS A))), .int t0, .int s0, .int v0, .ref a1, .ref a2, .ref a3, .ref a4, .ref a5, .long z, lvU, .int (sS (aS A) 1), .int (vcs (aS (stA (stA A (upd (sS (aS A)) 1 (1 : Int32))) (upd (sS (aS (stA A (upd (sS (aS A)) 1 (1 : Int32))))) 1 (sS (aS A) 1)))) 1), .int (0 : Int32), lvU, lvU, lvU, lvU] [] (lm G Λ X [(((a1, Sum.inl (gY G 21, sL (aS A), Sum.inl f1)) : Nat × va_E)), (((a2, Sum.inl (gY G 21, sL (aS A), Sum.inl f2)) : Nat × va_E)), (((a3, Sum.inl (gY G 21, sN (aS A), Sum.inl f3)) : Nat × va_E)), (((a4, Sum.inl (gY G 21, sN (aS A), Sum.inl f4)) : Nat × va_E)), (((a5, Sum.inl (gY G 22, 3, Sum.inr (Sum.inl f5))) : Nat × va_E))] m6 ce) Q)
    (e2 : ∀ m1 : Mm, CIv (atC G (lB Λ) false) m1 (stA A (upd (sS (aS A)) 1 (1 : Int32))) → ∀ m3 : Mm, CIv (atC G (lB Λ) false) m3 (stA (stA A (upd (sS (aS A)) 1 (1 : Int32))) (upd (sS (aS (stA A (upd (sS (aS A)) 1 (1 : Int32))))) 1 (sS (aS A) 1))) → ¬ (sS (aS (stA A (upd (sS (aS A)) 1 (1 : Int32)))) 1) = (1 : Int32) → Q (some (.int (0 : Int32))) (lm G Λ X [(((a1, Sum.inl (gY G 21, sL (aS A), Sum.inl f1)) : Nat × va_E)), (((a2, Sum.inl (gY G 21, sL (aS A), Sum.inl f2)) : Nat × va_E)), (((a3, Sum.inl (gY G 21, sN (aS A), Sum.inl f3)) : Nat × va_E)), (((a4, Sum.inl (gY G 21, sN (aS A), Sum.inl f4)) : Nat × va_E)), (((a5, Sum.inl (gY G 22, 3, Sum.inr (Sum.inl f5))) : Nat × va_E))] m3 ce)) :
    WZ G (d + 20) (0, 0) μL_moves 227 [.ref (gB G), .int (nI (sN (aS A))), .int (nI (sL (aS A))), .int (nI (sH (aS A))), .int t0, .int s0, .int v0, .ref a1, .ref a2, .ref a3, .ref a4, .ref a5, .long z, lvU, lvU, lvU, lvU, lvU, lvU, lvU, lvU] [] (lm G Λ X [(((a1, Sum.inl (gY G 21, sL (aS A), Sum.inl f1)) : Nat × va_E)), (((a2, Sum.inl (gY G 21, sL (aS A), Sum.inl f2)) : Nat × va_E)), (((a3, Sum.inl (gY G 21, sN (aS A), Sum.inl f3)) : Nat × va_E)), (((a4, Sum.inl (gY G 21, sN (aS A), Sum.inl f4)) : Nat × va_E)), (((a5, Sum.inl (gY G 22, 3, Sum.inr (Sum.inl f5))) : Nat × va_E))] m ce) Q := by
  have hn12 := hC.nn.2
  have hl6 := hC.nl.2
  have hh8 := hC.nh.2
  refine wl_aload_n dL_moves_227 rfl ?_
  refine wl_get 0 (.ref (lB Λ)) dL_moves_228 fL_10 rfl rfl ?_
  refine wl_iconst (1 : Int32) dL_moves_231 (by decide) ?_
  refine wl_callX (As := [.int (1 : Int32)]) (S := []) [] ce dL_moves_232 ML_98 rfl rfl (Nat.le_of_ble_eq_true rfl) ?_
  refine a_setStepLength hC ⟨by decide, by decide⟩ (fun m1 hC2 => ?_)
  show WZ G (d + 20) (0, 0) μL_moves 235 [.ref (gB G), .int (nI (sN (aS A))), .int (nI (sL (aS A))), .int (nI (sH (aS A))), .int t0, .int s0, .int v0, .ref a1, .ref a2, .ref a3, .ref a4, .ref a5, .long z, lvU, lvU, lvU, lvU, lvU, lvU, lvU, lvU] [.int (sS (aS A) 1)] (lm G Λ X [(((a1, Sum.inl (gY G 21, sL (aS A), Sum.inl f1)) : Nat × va_E)), (((a2, Sum.inl (gY G 21, sL (aS A), Sum.inl f2)) : Nat × va_E)), (((a3, Sum.inl (gY G 21, sN (aS A), Sum.inl f3)) : Nat × va_E)), (((a4, Sum.inl (gY G 21, sN (aS A), Sum.inl f4)) : Nat × va_E)), (((a5, Sum.inl (gY G 22, 3, Sum.inr (Sum.inl f5))) : Nat × va_E))] m1 ce) Q
  refine wl_istore dL_moves_235 (by decide) rfl ?_
  refine wl_aload_n dL_moves_237 rfl ?_
  refine wl_get 0 (.ref (lB Λ)) dL_moves_238 fL_10 rfl rfl ?_
  refine wl_iload dL_moves_241 rfl ?_
  refine wl_callX (As := [.int (sS (aS A) 1)]) (S := []) [] ce dL_moves_243 ML_98 rfl rfl (Nat.le_of_ble_eq_true rfl) ?_
  refine a_setStepLength hC2 (g1 m1 hC2) (fun m3 hC4 => ?_)
  show WZ G (d + 20) (0, 0) μL_moves 246 [.ref (gB G), .int (nI (sN (aS A))), .int (nI (sL (aS A))), .int (nI (sH (aS A))), .int t0, .int s0, .int v0, .ref a1, .ref a2, .ref a3, .ref a4, .ref a5, .long z, lvU, .int (sS (aS A) 1), lvU, lvU, lvU, lvU, lvU, lvU] [.int (sS (aS (stA A (upd (sS (aS A)) 1 (1 : Int32)))) 1)] (lm G Λ X [(((a1, Sum.inl (gY G 21, sL (aS A), Sum.inl f1)) : Nat × va_E)), (((a2, Sum.inl (gY G 21, sL (aS A), Sum.inl f2)) : Nat × va_E)), (((a3, Sum.inl (gY G 21, sN (aS A), Sum.inl f3)) : Nat × va_E)), (((a4, Sum.inl (gY G 21, sN (aS A), Sum.inl f4)) : Nat × va_E)), (((a5, Sum.inl (gY G 22, 3, Sum.inr (Sum.inl f5))) : Nat × va_E))] m3 ce) Q
  refine wl_iconst (1 : Int32) dL_moves_246 (by decide) ?_
  refine wl_icmp_eq 252 dL_moves_247 (by decide) (fun q5 => ?_) (fun q5 => ?_)
  · refine wl_aload_n dL_moves_252 rfl ?_
    refine wl_get 0 (.ref (lB Λ)) dL_moves_253 fL_10 rfl rfl ?_
    refine wl_iconst (1 : Int32) dL_moves_256 (by decide) ?_
    refine wl_callX (As := [.int (1 : Int32)]) (S := []) [] ce dL_moves_257 ML_153 rfl rfl (Nat.le_of_ble_eq_true rfl) ?_
    refine a_run (i := 1) hC4 (by omega) (by omega) (g2 m1 hC2 m3 hC4 q5) (fun m6 hC7 => ?_)
    show WZ G (d + 20) (0, 0) μL_moves 260 [.ref (gB G), .int (nI (sN (aS A))), .int (nI (sL (aS A))), .int (nI (sH (aS A))), .int t0, .int s0, .int v0, .ref a1, .ref a2, .ref a3, .ref a4, .ref a5, .long z, lvU, .int (sS (aS A) 1), lvU, lvU, lvU, lvU, lvU, lvU] [.int (vcs (aS (stA (stA A (upd (sS (aS A)) 1 (1 : Int32))) (upd (sS (aS (stA A (upd (sS (aS A)) 1 (1 : Int32))))) 1 (sS (aS A) 1)))) 1)] (lm G Λ X [(((a1, Sum.inl (gY G 21, sL (aS A), Sum.inl f1)) : Nat × va_E)), (((a2, Sum.inl (gY G 21, sL (aS A), Sum.inl f2)) : Nat × va_E)), (((a3, Sum.inl (gY G 21, sN (aS A), Sum.inl f3)) : Nat × va_E)), (((a4, Sum.inl (gY G 21, sN (aS A), Sum.inl f4)) : Nat × va_E)), (((a5, Sum.inl (gY G 22, 3, Sum.inr (Sum.inl f5))) : Nat × va_E))] m6 ce) Q
    refine wl_istore dL_moves_260 (by decide) rfl ?_
    refine wl_iconst (0 : Int32) dL_moves_262 (by decide) ?_
    refine wl_istore dL_moves_263 (by decide) rfl ?_
    exact e1 m1 hC2 m3 hC4 q5 m6 hC7
  · refine wl_iconst (0 : Int32) dL_moves_250 (by decide) ?_
    exact wl_zret dL_moves_251 rfl rfl (e2 m1 hC2 m3 hC4 q5)

theorem mo_5 {G : Cx} {d : Nat} {Λ : Lc} {X : Lx} {ext : va_W} {m : Mm} {A : Ab} {ce : List (Nat × Mm)} {Q : Option Value → LM → Prop} {a1 a2 a3 a4 a5 : Nat} {f1 f2 f3 f4 : Nat → Int32} {f5 : Nat → Int64} {t0 s0 v0 : Int32} {i : Nat} {z : Int64} {st bd : Int32} (hC : CIv (atC G (lB Λ) false) m A) (hi : i ≤ sL (aS A)) (k1 : i < sL (aS A) → sS (aS A) (7 * i + 302) = 1 → sS (aS A) (7 * i + 301) - f1 i = 0) (k2 : i < sL (aS A) → ¬ sS (aS A) (7 * i + 302) = 1 → sS (aS A) (7 * i + 301) - f1 i = imax (-xR X i) (imin (xR X i) (f2 i - f1 i)) ∧ ¬ sS (aS A) (7 * i + 301) < 0 ∧ ¬ (1000 : Int32) < sS (aS A) (7 * i + 301))
    (e1 : ¬ i < sL (aS A) → WZ G (d + 20) (0, 0) μL_moves 397 [.ref (gB G), .int (nI (sN (aS A))), lvU, .int (nI (sH (aS A))), .int t0, .int s0, .int v0, lvU, lvU, .ref a3, .ref a4, .ref a5, .long z, lvU, .int st, .int bd, .int (0 : Int32), .int (0 : Int32), .int (0 : Int32), .int (0 : Int32), lvU] [] (lm G Λ X [(((a1, Sum.inl (gY G 21, sL (aS A), Sum.inl f1)) : Nat × va_E)), (((a2, Sum.inl (gY G 21, sL (aS A), Sum.inl f2)) : Nat × va_E)), (((a3, Sum.inl (gY G 21, sN (aS A), Sum.inl f3)) : Nat × va_E)), (((a4, Sum.inl (gY G 21, sN (aS A), Sum.inl f4)) : Nat × va_E)), (((a5, Sum.inl (gY G 22, 3, Sum.inr (Sum.inl f5))) : Nat × va_E))] m ce) Q)
    (e2 : i < sL (aS A) → ¬ (sS (aS A) (7 * i + 302)) = (1 : Int32) → WZ G (d + 20) (0, 0) μL_moves 265 [.ref (gB G), .int (nI (sN (aS A))), .int (nI (sL (aS A))), .int (nI (sH (aS A))), .int t0, .int s0, .int v0, .ref a1, .ref a2, .ref a3, .ref a4, .ref a5, .long z, lvU, .int st, .int bd, .int (nI (i + 1)), lvU, lvU, lvU, lvU] [] (lm G Λ X [(((a1, Sum.inl (gY G 21, sL (aS A), Sum.inl f1)) : Nat × va_E)), (((a2, Sum.inl (gY G 21, sL (aS A), Sum.inl f2)) : Nat × va_E)), (((a3, Sum.inl (gY G 21, sN (aS A), Sum.inl f3)) : Nat × va_E)), (((a4, Sum.inl (gY G 21, sN (aS A), Sum.inl f4)) : Nat × va_E)), (((a5, Sum.inl (gY G 22, 3, Sum.inr (Sum.inl f5))) : Nat × va_E))] m ce) Q)
    (e3 : i < sL (aS A) → (sS (aS A) (7 * i + 302)) = (1 : Int32) → WZ G (d + 20) (0, 0) μL_moves 265 [.ref (gB G), .int (nI (sN (aS A))), .int (nI (sL (aS A))), .int (nI (sH (aS A))), .int t0, .int s0, .int v0, .ref a1, .ref a2, .ref a3, .ref a4, .ref a5, .long z, lvU, .int st, .int bd, .int (nI (i + 1)), lvU, lvU, lvU, lvU] [] (lm G Λ X [(((a1, Sum.inl (gY G 21, sL (aS A), Sum.inl f1)) : Nat × va_E)), (((a2, Sum.inl (gY G 21, sL (aS A), Sum.inl f2)) : Nat × va_E)), (((a3, Sum.inl (gY G 21, sN (aS A), Sum.inl f3)) : Nat × va_E)), (((a4, Sum.inl (gY G 21, sN (aS A), Sum.inl f4)) : Nat × va_E)), (((a5, Sum.inl (gY G 22, 3, Sum.inr (Sum.inl f5))) : Nat × va_E))] m ce) Q) :
    WZ G (d + 20) (0, 0) μL_moves 265 [.ref (gB G), .int (nI (sN (aS A))), .int (nI (sL (aS A))), .int (nI (sH (aS A))), .int t0, .int s0, .int v0, .ref a1, .ref a2, .ref a3, .ref a4, .ref a5, .long z, lvU, .int st, .int bd, .int (nI i), lvU, lvU, lvU, lvU] [] (lm G Λ X [(((a1, Sum.inl (gY G 21, sL (aS A), Sum.inl f1)) : Nat × va_E)), (((a2, Sum.inl (gY G 21, sL (aS A), Sum.inl f2)) : Nat × va_E)), (((a3, Sum.inl (gY G 21, sN (aS A), Sum.inl f3)) : Nat × va_E)), (((a4, Sum.inl (gY G 21, sN (aS A), Sum.inl f4)) : Nat × va_E)), (((a5, Sum.inl (gY G 22, 3, Sum.inr (Sum.inl f5))) : Nat × va_E))] m ce) Q := by
  have hn12 := hC.nn.2
  have hl6 := hC.nl.2
  have hh8 := hC.nh.2
  refine wl_iload dL_moves_265 rfl ?_
  refine wl_iload_n dL_moves_267 rfl ?_
  refine wl_icmp_ge 385 dL_moves_268 (by decide) (fun q1 => ?_) (fun q1 => ?_)
  · have q2 : ¬ i < sL (aS A) := fun y => q1 (nlt_ (a := i) (b := sL (aS A)) y (by omega))
    refine wl_iconst (0 : Int32) dL_moves_385 (by decide) ?_
    refine wl_istore dL_moves_386 (by decide) rfl ?_
    refine wl_iconst (0 : Int32) dL_moves_388 (by decide) ?_
    refine wl_istore dL_moves_389 (by decide) rfl ?_
    refine wl_iconst (0 : Int32) dL_moves_391 (by decide) ?_
    refine wl_istore dL_moves_392 (by decide) rfl ?_
    refine wl_iconst (0 : Int32) dL_moves_394 (by decide) ?_
    refine wl_istore dL_moves_395 (by decide) rfl ?_
    refine wl_forget [.ref (gB G), .int (nI (sN (aS A))), lvU, .int (nI (sH (aS A))), .int t0, .int s0, .int v0, lvU, lvU, .ref a3, .ref a4, .ref a5, .long z, lvU, .int st, .int bd, .int (0 : Int32), .int (0 : Int32), .int (0 : Int32), .int (0 : Int32), lvU] ⟨Or.inl rfl, Or.inl rfl, Or.inr rfl, Or.inl rfl, Or.inl rfl, Or.inl rfl, Or.inl rfl, Or.inr rfl, Or.inr rfl, Or.inl rfl, Or.inl rfl, Or.inl rfl, Or.inl rfl, Or.inl rfl, Or.inl rfl, Or.inl rfl, Or.inl rfl, Or.inl rfl, Or.inl rfl, Or.inl rfl, Or.inl rfl, trivial⟩ ?_
    exact e1 q2
  · have q3 : i < sL (aS A) := nlt (a := i) (b := sL (aS A)) q1 (by omega) (by omega)
    refine wl_aload_n dL_moves_271 rfl ?_
    refine wl_get 0 (.ref (lB Λ)) dL_moves_272 fL_10 rfl rfl ?_
    refine wl_iload dL_moves_275 rfl ?_
    refine wl_callX (As := [.int (nI i)]) (S := []) [] ce dL_moves_277 ML_141 rfl rfl (Nat.le_of_ble_eq_true rfl) ?_
    refine a_opening (i := i) hC (by omega) ?_
    show WZ G (d + 20) (0, 0) μL_moves 280 [.ref (gB G), .int (nI (sN (aS A))), .int (nI (sL (aS A))), .int (nI (sH (aS A))), .int t0, .int s0, .int v0, .ref a1, .ref a2, .ref a3, .ref a4, .ref a5, .long z, lvU, .int st, .int bd, .int (nI i), lvU, lvU, lvU, lvU] [.int (sS (aS A) (7 * i + 301))] (lm G Λ X [(((a1, Sum.inl (gY G 21, sL (aS A), Sum.inl f1)) : Nat × va_E)), (((a2, Sum.inl (gY G 21, sL (aS A), Sum.inl f2)) : Nat × va_E)), (((a3, Sum.inl (gY G 21, sN (aS A), Sum.inl f3)) : Nat × va_E)), (((a4, Sum.inl (gY G 21, sN (aS A), Sum.inl f4)) : Nat × va_E)), (((a5, Sum.inl (gY G 22, 3, Sum.inr (Sum.inl f5))) : Nat × va_E))] m ce) Q
    refine wl_aload dL_moves_280 rfl ?_
    refine wl_iload dL_moves_282 rfl ?_
    refine wl_iald (t0 := 1) 4 i (f1 i) dL_moves_284 rfl rfl rfl (by omega) (by omega) rfl ?_
    refine wl_isub dL_moves_285 ?_
    refine wl_istore dL_moves_286 (by decide) rfl ?_
    refine wl_aload dL_moves_288 rfl ?_
    refine wl_iload dL_moves_290 rfl ?_
    refine wl_iald (t0 := 1) 5 i (f2 i) dL_moves_292 rfl rfl rfl (by omega) (by omega) rfl ?_
    refine wl_aload dL_moves_293 rfl ?_
    refine wl_iload dL_moves_295 rfl ?_
    refine wl_iald (t0 := 1) 4 i (f1 i) dL_moves_297 rfl rfl rfl (by omega) (by omega) rfl ?_
    refine wl_isub dL_moves_298 ?_
    refine wl_istore dL_moves_299 (by decide) rfl ?_
    refine wl_aload_n dL_moves_301 rfl ?_
    refine wl_get 0 (.ref (lB Λ)) dL_moves_302 fL_10 rfl rfl ?_
    refine wl_iload dL_moves_305 rfl ?_
    refine wl_callX (As := [.int (nI i)]) (S := []) [] ce dL_moves_307 ML_156 rfl rfl (Nat.le_of_ble_eq_true rfl) ?_
    refine a_isHeld (i := i) hC (by omega) ?_
    show WZ G (d + 20) (0, 0) μL_moves 310 [.ref (gB G), .int (nI (sN (aS A))), .int (nI (sL (aS A))), .int (nI (sH (aS A))), .int t0, .int s0, .int v0, .ref a1, .ref a2, .ref a3, .ref a4, .ref a5, .long z, lvU, .int st, .int bd, .int (nI i), .int ((sS (aS A) (7 * i + 301)) - (f1 i)), .int ((f2 i) - (f1 i)), lvU, lvU] [.int (sS (aS A) (7 * i + 302))] (lm G Λ X [(((a1, Sum.inl (gY G 21, sL (aS A), Sum.inl f1)) : Nat × va_E)), (((a2, Sum.inl (gY G 21, sL (aS A), Sum.inl f2)) : Nat × va_E)), (((a3, Sum.inl (gY G 21, sN (aS A), Sum.inl f3)) : Nat × va_E)), (((a4, Sum.inl (gY G 21, sN (aS A), Sum.inl f4)) : Nat × va_E)), (((a5, Sum.inl (gY G 22, 3, Sum.inr (Sum.inl f5))) : Nat × va_E))] m ce) Q
    refine wl_iconst (1 : Int32) dL_moves_310 (by decide) ?_
    refine wl_icmp_ne 322 dL_moves_311 (by decide) (fun q4 => ?_) (fun q4 => ?_)
    · refine wl_iload dL_moves_322 rfl ?_
      refine wl_aload_n dL_moves_324 rfl ?_
      refine wl_get 0 (.ref (lR Λ)) dL_moves_325 fL_23 rfl rfl ?_
      refine wl_iload dL_moves_328 rfl ?_
      refine wl_iald (t0 := 1) 3 i ((xR X) i) dL_moves_330 rfl rfl rfl (by omega) (by omega) rfl ?_
      refine wl_ineg dL_moves_331 ?_
      refine wl_aload_n dL_moves_332 rfl ?_
      refine wl_get 0 (.ref (lR Λ)) dL_moves_333 fL_23 rfl rfl ?_
      refine wl_iload dL_moves_336 rfl ?_
      refine wl_iald (t0 := 1) 3 i ((xR X) i) dL_moves_338 rfl rfl rfl (by omega) (by omega) rfl ?_
      refine wl_iload dL_moves_339 rfl ?_
      refine wl_minI dL_moves_341 AL_159 (Nat.le_of_ble_eq_true rfl) ?_
      refine wl_maxI dL_moves_344 AL_35 (Nat.le_of_ble_eq_true rfl) ?_
      refine wl_icmp_ne 377 dL_moves_347 (by decide) (fun z => absurd ((k2 q3 q4).1) z) (fun _ => ?_)
      refine wl_aload_n dL_moves_350 rfl ?_
      refine wl_get 0 (.ref (lB Λ)) dL_moves_351 fL_10 rfl rfl ?_
      refine wl_iload dL_moves_354 rfl ?_
      refine wl_callX (As := [.int (nI i)]) (S := []) [] ce dL_moves_356 ML_141 rfl rfl (Nat.le_of_ble_eq_true rfl) ?_
      refine a_opening (i := i) hC (by omega) ?_
      show WZ G (d + 20) (0, 0) μL_moves 359 [.ref (gB G), .int (nI (sN (aS A))), .int (nI (sL (aS A))), .int (nI (sH (aS A))), .int t0, .int s0, .int v0, .ref a1, .ref a2, .ref a3, .ref a4, .ref a5, .long z, lvU, .int st, .int bd, .int (nI i), .int ((sS (aS A) (7 * i + 301)) - (f1 i)), .int ((f2 i) - (f1 i)), lvU, lvU] [.int (sS (aS A) (7 * i + 301))] (lm G Λ X [(((a1, Sum.inl (gY G 21, sL (aS A), Sum.inl f1)) : Nat × va_E)), (((a2, Sum.inl (gY G 21, sL (aS A), Sum.inl f2)) : Nat × va_E)), (((a3, Sum.inl (gY G 21, sN (aS A), Sum.inl f3)) : Nat × va_E)), (((a4, Sum.inl (gY G 21, sN (aS A), Sum.inl f4)) : Nat × va_E)), (((a5, Sum.inl (gY G 22, 3, Sum.inr (Sum.inl f5))) : Nat × va_E))] m ce) Q
      refine wl_if_lt 377 dL_moves_359 (by decide) (fun z => absurd z ((k2 q3 q4).2.1)) (fun _ => ?_)
      refine wl_aload_n dL_moves_362 rfl ?_
      refine wl_get 0 (.ref (lB Λ)) dL_moves_363 fL_10 rfl rfl ?_
      refine wl_iload dL_moves_366 rfl ?_
      refine wl_callX (As := [.int (nI i)]) (S := []) [] ce dL_moves_368 ML_141 rfl rfl (Nat.le_of_ble_eq_true rfl) ?_
      refine a_opening (i := i) hC (by omega) ?_
      show WZ G (d + 20) (0, 0) μL_moves 371 [.ref (gB G), .int (nI (sN (aS A))), .int (nI (sL (aS A))), .int (nI (sH (aS A))), .int t0, .int s0, .int v0, .ref a1, .ref a2, .ref a3, .ref a4, .ref a5, .long z, lvU, .int st, .int bd, .int (nI i), .int ((sS (aS A) (7 * i + 301)) - (f1 i)), .int ((f2 i) - (f1 i)), lvU, lvU] [.int (sS (aS A) (7 * i + 301))] (lm G Λ X [(((a1, Sum.inl (gY G 21, sL (aS A), Sum.inl f1)) : Nat × va_E)), (((a2, Sum.inl (gY G 21, sL (aS A), Sum.inl f2)) : Nat × va_E)), (((a3, Sum.inl (gY G 21, sN (aS A), Sum.inl f3)) : Nat × va_E)), (((a4, Sum.inl (gY G 21, sN (aS A), Sum.inl f4)) : Nat × va_E)), (((a5, Sum.inl (gY G 22, 3, Sum.inr (Sum.inl f5))) : Nat × va_E))] m ce) Q
      refine wl_sipush (1000 : Int32) dL_moves_371 (by decide) ?_
      refine wl_icmp_le 379 dL_moves_374 (by decide) (fun _ => ?_) (fun z => absurd z ((k2 q3 q4).2.2))
      refine wl_iinc (nI (i + 1)) dL_moves_379 rfl (by decide) (nadd (a := i) (b := 1) rfl) rfl ?_
      refine wl_goto 265 dL_moves_382 (by decide) ?_
      refine wl_forget [.ref (gB G), .int (nI (sN (aS A))), .int (nI (sL (aS A))), .int (nI (sH (aS A))), .int t0, .int s0, .int v0, .ref a1, .ref a2, .ref a3, .ref a4, .ref a5, .long z, lvU, .int st, .int bd, .int (nI (i + 1)), lvU, lvU, lvU, lvU] ⟨Or.inl rfl, Or.inl rfl, Or.inl rfl, Or.inl rfl, Or.inl rfl, Or.inl rfl, Or.inl rfl, Or.inl rfl, Or.inl rfl, Or.inl rfl, Or.inl rfl, Or.inl rfl, Or.inl rfl, Or.inl rfl, Or.inl rfl, Or.inl rfl, Or.inl rfl, Or.inr rfl, Or.inr rfl, Or.inl rfl, Or.inl rfl, trivial⟩ ?_
      exact e2 q3 q4
    · refine wl_iload dL_moves_314 rfl ?_
      refine wl_if_eq 379 dL_moves_316 (by decide) (fun _ => ?_) (fun z => absurd (k1 q3 q4) z)
      refine wl_iinc (nI (i + 1)) dL_moves_379 rfl (by decide) (nadd (a := i) (b := 1) rfl) rfl ?_
      refine wl_goto 265 dL_moves_382 (by decide) ?_
      refine wl_forget [.ref (gB G), .int (nI (sN (aS A))), .int (nI (sL (aS A))), .int (nI (sH (aS A))), .int t0, .int s0, .int v0, .ref a1, .ref a2, .ref a3, .ref a4, .ref a5, .long z, lvU, .int st, .int bd, .int (nI (i + 1)), lvU, lvU, lvU, lvU] ⟨Or.inl rfl, Or.inl rfl, Or.inl rfl, Or.inl rfl, Or.inl rfl, Or.inl rfl, Or.inl rfl, Or.inl rfl, Or.inl rfl, Or.inl rfl, Or.inl rfl, Or.inl rfl, Or.inl rfl, Or.inl rfl, Or.inl rfl, Or.inl rfl, Or.inl rfl, Or.inr rfl, Or.inr rfl, Or.inl rfl, Or.inl rfl, trivial⟩ ?_
      exact e3 q3 q4

theorem mo_6 {G : Cx} {d : Nat} {Λ : Lc} {X : Lx} {ext : va_W} {m : Mm} {A : Ab} {ce : List (Nat × Mm)} {Q : Option Value → LM → Prop} {a1 a2 a3 a4 a5 : Nat} {f1 f2 f3 f4 : Nat → Int32} {f5 : Nat → Int64} {t0 s0 v0 : Int32} {i : Nat} {z : Int64} {st bd : Int32} {c1 c2 c3 : Int32} (hC : CIv (atC G (lB Λ) false) m A) (hi : i ≤ sH (aS A)) (k1 : i < sH (aS A) → (sS (aS A) (8 * i + 343)) = 1 → ¬ (sS (aS A) (8 * i + 345)) = 0) (k2 : i < sH (aS A) → (sS (aS A) (8 * i + 343)) = 2 → (sS (aS A) (8 * i + 345)) = 0)
    (e1 : ¬ i < sH (aS A) → WZ G (d + 20) (0, 0) μL_moves 516 [.ref (gB G), .int (nI (sN (aS A))), lvU, lvU, .int t0, .int s0, .int v0, lvU, lvU, .ref a3, .ref a4, .ref a5, .long z, lvU, .int st, .int bd, .int c1, .int c2, .int c3, .int (0 : Int32), lvU] [] (lm G Λ X [(((a1, Sum.inl (gY G 21, sL (aS A), Sum.inl f1)) : Nat × va_E)), (((a2, Sum.inl (gY G 21, sL (aS A), Sum.inl f2)) : Nat × va_E)), (((a3, Sum.inl (gY G 21, sN (aS A), Sum.inl f3)) : Nat × va_E)), (((a4, Sum.inl (gY G 21, sN (aS A), Sum.inl f4)) : Nat × va_E)), (((a5, Sum.inl (gY G 22, 3, Sum.inr (Sum.inl f5))) : Nat × va_E))] m ce) Q)
    (e2 : i < sH (aS A) → ¬ (sS (aS A) (8 * i + 345)) = (2 : Int32) → ¬ (sS (aS A) (8 * i + 345)) = (1 : Int32) → ¬ (sS (aS A) (8 * i + 343)) = (1 : Int32) → ¬ (sS (aS A) (8 * i + 343)) = (2 : Int32) → WZ G (d + 20) (0, 0) μL_moves 397 [.ref (gB G), .int (nI (sN (aS A))), lvU, .int (nI (sH (aS A))), .int t0, .int s0, .int v0, lvU, lvU, .ref a3, .ref a4, .ref a5, .long z, lvU, .int st, .int bd, .int (c1 + (0 : Int32)), .int (c2 + (0 : Int32)), .int c3, .int (nI (i + 1)), lvU] [] (lm G Λ X [(((a1, Sum.inl (gY G 21, sL (aS A), Sum.inl f1)) : Nat × va_E)), (((a2, Sum.inl (gY G 21, sL (aS A), Sum.inl f2)) : Nat × va_E)), (((a3, Sum.inl (gY G 21, sN (aS A), Sum.inl f3)) : Nat × va_E)), (((a4, Sum.inl (gY G 21, sN (aS A), Sum.inl f4)) : Nat × va_E)), (((a5, Sum.inl (gY G 22, 3, Sum.inr (Sum.inl f5))) : Nat × va_E))] m ce) Q)
    (e3 : i < sH (aS A) → ¬ (sS (aS A) (8 * i + 345)) = (2 : Int32) → ¬ (sS (aS A) (8 * i + 345)) = (1 : Int32) → ¬ (sS (aS A) (8 * i + 343)) = (1 : Int32) → (sS (aS A) (8 * i + 343)) = (2 : Int32) → WZ G (d + 20) (0, 0) μL_moves 397 [.ref (gB G), .int (nI (sN (aS A))), lvU, .int (nI (sH (aS A))), .int t0, .int s0, .int v0, lvU, lvU, .ref a3, .ref a4, .ref a5, .long z, lvU, .int st, .int bd, .int (c1 + (0 : Int32)), .int (c2 + (0 : Int32)), .int c3, .int (nI (i + 1)), lvU] [] (lm G Λ X [(((a1, Sum.inl (gY G 21, sL (aS A), Sum.inl f1)) : Nat × va_E)), (((a2, Sum.inl (gY G 21, sL (aS A), Sum.inl f2)) : Nat × va_E)), (((a3, Sum.inl (gY G 21, sN (aS A), Sum.inl f3)) : Nat × va_E)), (((a4, Sum.inl (gY G 21, sN (aS A), Sum.inl f4)) : Nat × va_E)), (((a5, Sum.inl (gY G 22, 3, Sum.inr (Sum.inl f5))) : Nat × va_E))] m ce) Q)
    (e4 : i < sH (aS A) → ¬ (sS (aS A) (8 * i + 345)) = (2 : Int32) → ¬ (sS (aS A) (8 * i + 345)) = (1 : Int32) → (sS (aS A) (8 * i + 343)) = (1 : Int32) → WZ G (d + 20) (0, 0) μL_moves 397 [.ref (gB G), .int (nI (sN (aS A))), lvU, .int (nI (sH (aS A))), .int t0, .int s0, .int v0, lvU, lvU, .ref a3, .ref a4, .ref a5, .long z, lvU, .int st, .int bd, .int (c1 + (0 : Int32)), .int (c2 + (0 : Int32)), .int c3, .int (nI (i + 1)), lvU] [] (lm G Λ X [(((a1, Sum.inl (gY G 21, sL (aS A), Sum.inl f1)) : Nat × va_E)), (((a2, Sum.inl (gY G 21, sL (aS A), Sum.inl f2)) : Nat × va_E)), (((a3, Sum.inl (gY G 21, sN (aS A), Sum.inl f3)) : Nat × va_E)), (((a4, Sum.inl (gY G 21, sN (aS A), Sum.inl f4)) : Nat × va_E)), (((a5, Sum.inl (gY G 22, 3, Sum.inr (Sum.inl f5))) : Nat × va_E))] m ce) Q)
    (e5 : i < sH (aS A) → ¬ (sS (aS A) (8 * i + 345)) = (2 : Int32) → (sS (aS A) (8 * i + 345)) = (1 : Int32) → ¬ (sS (aS A) (8 * i + 343)) = (1 : Int32) → ¬ (sS (aS A) (8 * i + 343)) = (2 : Int32) → WZ G (d + 20) (0, 0) μL_moves 397 [.ref (gB G), .int (nI (sN (aS A))), lvU, .int (nI (sH (aS A))), .int t0, .int s0, .int v0, lvU, lvU, .ref a3, .ref a4, .ref a5, .long z, lvU, .int st, .int bd, .int (c1 + (0 : Int32)), .int (c2 + ((xW X) i)), .int c3, .int (nI (i + 1)), lvU] [] (lm G Λ X [(((a1, Sum.inl (gY G 21, sL (aS A), Sum.inl f1)) : Nat × va_E)), (((a2, Sum.inl (gY G 21, sL (aS A), Sum.inl f2)) : Nat × va_E)), (((a3, Sum.inl (gY G 21, sN (aS A), Sum.inl f3)) : Nat × va_E)), (((a4, Sum.inl (gY G 21, sN (aS A), Sum.inl f4)) : Nat × va_E)), (((a5, Sum.inl (gY G 22, 3, Sum.inr (Sum.inl f5))) : Nat × va_E))] m ce) Q)
    (e6 : i < sH (aS A) → ¬ (sS (aS A) (8 * i + 345)) = (2 : Int32) → (sS (aS A) (8 * i + 345)) = (1 : Int32) → ¬ (sS (aS A) (8 * i + 343)) = (1 : Int32) → (sS (aS A) (8 * i + 343)) = (2 : Int32) → WZ G (d + 20) (0, 0) μL_moves 397 [.ref (gB G), .int (nI (sN (aS A))), lvU, .int (nI (sH (aS A))), .int t0, .int s0, .int v0, lvU, lvU, .ref a3, .ref a4, .ref a5, .long z, lvU, .int st, .int bd, .int (c1 + (0 : Int32)), .int (c2 + ((xW X) i)), .int c3, .int (nI (i + 1)), lvU] [] (lm G Λ X [(((a1, Sum.inl (gY G 21, sL (aS A), Sum.inl f1)) : Nat × va_E)), (((a2, Sum.inl (gY G 21, sL (aS A), Sum.inl f2)) : Nat × va_E)), (((a3, Sum.inl (gY G 21, sN (aS A), Sum.inl f3)) : Nat × va_E)), (((a4, Sum.inl (gY G 21, sN (aS A), Sum.inl f4)) : Nat × va_E)), (((a5, Sum.inl (gY G 22, 3, Sum.inr (Sum.inl f5))) : Nat × va_E))] m ce) Q)
    (e7 : i < sH (aS A) → ¬ (sS (aS A) (8 * i + 345)) = (2 : Int32) → (sS (aS A) (8 * i + 345)) = (1 : Int32) → (sS (aS A) (8 * i + 343)) = (1 : Int32) → WZ G (d + 20) (0, 0) μL_moves 397 [.ref (gB G), .int (nI (sN (aS A))), lvU, .int (nI (sH (aS A))), .int t0, .int s0, .int v0, lvU, lvU, .ref a3, .ref a4, .ref a5, .long z, lvU, .int st, .int bd, .int (c1 + (0 : Int32)), .int (c2 + ((xW X) i)), .int c3, .int (nI (i + 1)), lvU] [] (lm G Λ X [(((a1, Sum.inl (gY G 21, sL (aS A), Sum.inl f1)) : Nat × va_E)), (((a2, Sum.inl (gY G 21, sL (aS A), Sum.inl f2)) : Nat × va_E)), (((a3, Sum.inl (gY G 21, sN (aS A), Sum.inl f3)) : Nat × va_E)), (((a4, Sum.inl (gY G 21, sN (aS A), Sum.inl f4)) : Nat × va_E)), (((a5, Sum.inl (gY G 22, 3, Sum.inr (Sum.inl f5))) : Nat × va_E))] m ce) Q)
    (e8 : i < sH (aS A) → (sS (aS A) (8 * i + 345)) = (2 : Int32) → ¬ (sS (aS A) (8 * i + 343)) = (1 : Int32) → ¬ (sS (aS A) (8 * i + 343)) = (2 : Int32) → WZ G (d + 20) (0, 0) μL_moves 397 [.ref (gB G), .int (nI (sN (aS A))), lvU, .int (nI (sH (aS A))), .int t0, .int s0, .int v0, lvU, lvU, .ref a3, .ref a4, .ref a5, .long z, lvU, .int st, .int bd, .int (c1 + (1 : Int32)), .int (c2 + (0 : Int32)), .int c3, .int (nI (i + 1)), lvU] [] (lm G Λ X [(((a1, Sum.inl (gY G 21, sL (aS A), Sum.inl f1)) : Nat × va_E)), (((a2, Sum.inl (gY G 21, sL (aS A), Sum.inl f2)) : Nat × va_E)), (((a3, Sum.inl (gY G 21, sN (aS A), Sum.inl f3)) : Nat × va_E)), (((a4, Sum.inl (gY G 21, sN (aS A), Sum.inl f4)) : Nat × va_E)), (((a5, Sum.inl (gY G 22, 3, Sum.inr (Sum.inl f5))) : Nat × va_E))] m ce) Q)
    (e9 : i < sH (aS A) → (sS (aS A) (8 * i + 345)) = (2 : Int32) → ¬ (sS (aS A) (8 * i + 343)) = (1 : Int32) → (sS (aS A) (8 * i + 343)) = (2 : Int32) → WZ G (d + 20) (0, 0) μL_moves 397 [.ref (gB G), .int (nI (sN (aS A))), lvU, .int (nI (sH (aS A))), .int t0, .int s0, .int v0, lvU, lvU, .ref a3, .ref a4, .ref a5, .long z, lvU, .int st, .int bd, .int (c1 + (1 : Int32)), .int (c2 + (0 : Int32)), .int c3, .int (nI (i + 1)), lvU] [] (lm G Λ X [(((a1, Sum.inl (gY G 21, sL (aS A), Sum.inl f1)) : Nat × va_E)), (((a2, Sum.inl (gY G 21, sL (aS A), Sum.inl f2)) : Nat × va_E)), (((a3, Sum.inl (gY G 21, sN (aS A), Sum.inl f3)) : Nat × va_E)), (((a4, Sum.inl (gY G 21, sN (aS A), Sum.inl f4)) : Nat × va_E)), (((a5, Sum.inl (gY G 22, 3, Sum.inr (Sum.inl f5))) : Nat × va_E))] m ce) Q)
    (e10 : i < sH (aS A) → (sS (aS A) (8 * i + 345)) = (2 : Int32) → (sS (aS A) (8 * i + 343)) = (1 : Int32) → WZ G (d + 20) (0, 0) μL_moves 397 [.ref (gB G), .int (nI (sN (aS A))), lvU, .int (nI (sH (aS A))), .int t0, .int s0, .int v0, lvU, lvU, .ref a3, .ref a4, .ref a5, .long z, lvU, .int st, .int bd, .int (c1 + (1 : Int32)), .int (c2 + (0 : Int32)), .int c3, .int (nI (i + 1)), lvU] [] (lm G Λ X [(((a1, Sum.inl (gY G 21, sL (aS A), Sum.inl f1)) : Nat × va_E)), (((a2, Sum.inl (gY G 21, sL (aS A), Sum.inl f2)) : Nat × va_E)), (((a3, Sum.inl (gY G 21, sN (aS A), Sum.inl f3)) : Nat × va_E)), (((a4, Sum.inl (gY G 21, sN (aS A), Sum.inl f4)) : Nat × va_E)), (((a5, Sum.inl (gY G 22, 3, Sum.inr (Sum.inl f5))) : Nat × va_E))] m ce) Q) :
    WZ G (d + 20) (0, 0) μL_moves 397 [.ref (gB G), .int (nI (sN (aS A))), lvU, .int (nI (sH (aS A))), .int t0, .int s0, .int v0, lvU, lvU, .ref a3, .ref a4, .ref a5, .long z, lvU, .int st, .int bd, .int c1, .int c2, .int c3, .int (nI i), lvU] [] (lm G Λ X [(((a1, Sum.inl (gY G 21, sL (aS A), Sum.inl f1)) : Nat × va_E)), (((a2, Sum.inl (gY G 21, sL (aS A), Sum.inl f2)) : Nat × va_E)), (((a3, Sum.inl (gY G 21, sN (aS A), Sum.inl f3)) : Nat × va_E)), (((a4, Sum.inl (gY G 21, sN (aS A), Sum.inl f4)) : Nat × va_E)), (((a5, Sum.inl (gY G 22, 3, Sum.inr (Sum.inl f5))) : Nat × va_E))] m ce) Q := by
  have hn12 := hC.nn.2
  have hl6 := hC.nl.2
  have hh8 := hC.nh.2
  refine wl_iload dL_moves_397 rfl ?_
  refine wl_iload_n dL_moves_399 rfl ?_
  refine wl_icmp_ge 513 dL_moves_400 (by decide) (fun q1 => ?_) (fun q1 => ?_)
  · have q2 : ¬ i < sH (aS A) := fun y => q1 (nlt_ (a := i) (b := sH (aS A)) y (by omega))
    refine wl_iconst (0 : Int32) dL_moves_513 (by decide) ?_
    refine wl_istore dL_moves_514 (by decide) rfl ?_
    refine wl_forget [.ref (gB G), .int (nI (sN (aS A))), lvU, lvU, .int t0, .int s0, .int v0, lvU, lvU, .ref a3, .ref a4, .ref a5, .long z, lvU, .int st, .int bd, .int c1, .int c2, .int c3, .int (0 : Int32), lvU] ⟨Or.inl rfl, Or.inl rfl, Or.inl rfl, Or.inr rfl, Or.inl rfl, Or.inl rfl, Or.inl rfl, Or.inl rfl, Or.inl rfl, Or.inl rfl, Or.inl rfl, Or.inl rfl, Or.inl rfl, Or.inl rfl, Or.inl rfl, Or.inl rfl, Or.inl rfl, Or.inl rfl, Or.inl rfl, Or.inl rfl, Or.inl rfl, trivial⟩ ?_
    exact e1 q2
  · have q3 : i < sH (aS A) := nlt (a := i) (b := sH (aS A)) q1 (by omega) (by omega)
    refine wl_iload dL_moves_403 rfl ?_
    refine wl_aload_n dL_moves_405 rfl ?_
    refine wl_get 0 (.ref (lB Λ)) dL_moves_406 fL_10 rfl rfl ?_
    refine wl_iload dL_moves_409 rfl ?_
    refine wl_callX (As := [.int (nI i)]) (S := [.int c1]) [] ce dL_moves_411 ML_162 rfl rfl (Nat.le_of_ble_eq_true rfl) ?_
    refine a_heaterState (i := i) hC (by omega) ?_
    show WZ G (d + 20) (0, 0) μL_moves 414 [.ref (gB G), .int (nI (sN (aS A))), lvU, .int (nI (sH (aS A))), .int t0, .int s0, .int v0, lvU, lvU, .ref a3, .ref a4, .ref a5, .long z, lvU, .int st, .int bd, .int c1, .int c2, .int c3, .int (nI i), lvU] [.int (sS (aS A) (8 * i + 345)), .int c1] (lm G Λ X [(((a1, Sum.inl (gY G 21, sL (aS A), Sum.inl f1)) : Nat × va_E)), (((a2, Sum.inl (gY G 21, sL (aS A), Sum.inl f2)) : Nat × va_E)), (((a3, Sum.inl (gY G 21, sN (aS A), Sum.inl f3)) : Nat × va_E)), (((a4, Sum.inl (gY G 21, sN (aS A), Sum.inl f4)) : Nat × va_E)), (((a5, Sum.inl (gY G 22, 3, Sum.inr (Sum.inl f5))) : Nat × va_E))] m ce) Q
    refine wl_iconst (2 : Int32) dL_moves_414 (by decide) ?_
    refine wl_icmp_ne 422 dL_moves_415 (by decide) (fun q4 => ?_) (fun q4 => ?_)
    · refine wl_iconst (0 : Int32) dL_moves_422 (by decide) ?_
      refine wl_iadd dL_moves_423 ?_
      refine wl_istore dL_moves_424 (by decide) rfl ?_
      refine wl_iload dL_moves_426 rfl ?_
      refine wl_aload_n dL_moves_428 rfl ?_
      refine wl_get 0 (.ref (lB Λ)) dL_moves_429 fL_10 rfl rfl ?_
      refine wl_iload dL_moves_432 rfl ?_
      refine wl_callX (As := [.int (nI i)]) (S := [.int c2]) [] ce dL_moves_434 ML_162 rfl rfl (Nat.le_of_ble_eq_true rfl) ?_
      refine a_heaterState (i := i) hC (by omega) ?_
      show WZ G (d + 20) (0, 0) μL_moves 437 [.ref (gB G), .int (nI (sN (aS A))), lvU, .int (nI (sH (aS A))), .int t0, .int s0, .int v0, lvU, lvU, .ref a3, .ref a4, .ref a5, .long z, lvU, .int st, .int bd, .int (c1 + (0 : Int32)), .int c2, .int c3, .int (nI i), lvU] [.int (sS (aS A) (8 * i + 345)), .int c2] (lm G Λ X [(((a1, Sum.inl (gY G 21, sL (aS A), Sum.inl f1)) : Nat × va_E)), (((a2, Sum.inl (gY G 21, sL (aS A), Sum.inl f2)) : Nat × va_E)), (((a3, Sum.inl (gY G 21, sN (aS A), Sum.inl f3)) : Nat × va_E)), (((a4, Sum.inl (gY G 21, sN (aS A), Sum.inl f4)) : Nat × va_E)), (((a5, Sum.inl (gY G 22, 3, Sum.inr (Sum.inl f5))) : Nat × va_E))] m ce) Q
      refine wl_iconst (1 : Int32) dL_moves_437 (by decide) ?_
      refine wl_icmp_ne 451 dL_moves_438 (by decide) (fun q5 => ?_) (fun q5 => ?_)
      · refine wl_iconst (0 : Int32) dL_moves_451 (by decide) ?_
        refine wl_iadd dL_moves_452 ?_
        refine wl_istore dL_moves_453 (by decide) rfl ?_
        refine wl_aload_n dL_moves_455 rfl ?_
        refine wl_get 0 (.ref (lB Λ)) dL_moves_456 fL_10 rfl rfl ?_
        refine wl_iload dL_moves_459 rfl ?_
        refine wl_callX (As := [.int (nI i)]) (S := []) [] ce dL_moves_461 ML_165 rfl rfl (Nat.le_of_ble_eq_true rfl) ?_
        refine a_heaterMode (i := i) hC (by omega) ?_
        show WZ G (d + 20) (0, 0) μL_moves 464 [.ref (gB G), .int (nI (sN (aS A))), lvU, .int (nI (sH (aS A))), .int t0, .int s0, .int v0, lvU, lvU, .ref a3, .ref a4, .ref a5, .long z, lvU, .int st, .int bd, .int (c1 + (0 : Int32)), .int (c2 + (0 : Int32)), .int c3, .int (nI i), lvU] [.int (sS (aS A) (8 * i + 343))] (lm G Λ X [(((a1, Sum.inl (gY G 21, sL (aS A), Sum.inl f1)) : Nat × va_E)), (((a2, Sum.inl (gY G 21, sL (aS A), Sum.inl f2)) : Nat × va_E)), (((a3, Sum.inl (gY G 21, sN (aS A), Sum.inl f3)) : Nat × va_E)), (((a4, Sum.inl (gY G 21, sN (aS A), Sum.inl f4)) : Nat × va_E)), (((a5, Sum.inl (gY G 22, 3, Sum.inr (Sum.inl f5))) : Nat × va_E))] m ce) Q
        refine wl_iconst (1 : Int32) dL_moves_464 (by decide) ?_
        refine wl_icmp_ne 480 dL_moves_465 (by decide) (fun q6 => ?_) (fun q6 => ?_)
        · refine wl_aload_n dL_moves_480 rfl ?_
          refine wl_get 0 (.ref (lB Λ)) dL_moves_481 fL_10 rfl rfl ?_
          refine wl_iload dL_moves_484 rfl ?_
          refine wl_callX (As := [.int (nI i)]) (S := []) [] ce dL_moves_486 ML_165 rfl rfl (Nat.le_of_ble_eq_true rfl) ?_
          refine a_heaterMode (i := i) hC (by omega) ?_
          show WZ G (d + 20) (0, 0) μL_moves 489 [.ref (gB G), .int (nI (sN (aS A))), lvU, .int (nI (sH (aS A))), .int t0, .int s0, .int v0, lvU, lvU, .ref a3, .ref a4, .ref a5, .long z, lvU, .int st, .int bd, .int (c1 + (0 : Int32)), .int (c2 + (0 : Int32)), .int c3, .int (nI i), lvU] [.int (sS (aS A) (8 * i + 343))] (lm G Λ X [(((a1, Sum.inl (gY G 21, sL (aS A), Sum.inl f1)) : Nat × va_E)), (((a2, Sum.inl (gY G 21, sL (aS A), Sum.inl f2)) : Nat × va_E)), (((a3, Sum.inl (gY G 21, sN (aS A), Sum.inl f3)) : Nat × va_E)), (((a4, Sum.inl (gY G 21, sN (aS A), Sum.inl f4)) : Nat × va_E)), (((a5, Sum.inl (gY G 22, 3, Sum.inr (Sum.inl f5))) : Nat × va_E))] m ce) Q
          refine wl_iconst (2 : Int32) dL_moves_489 (by decide) ?_
          refine wl_icmp_ne 507 dL_moves_490 (by decide) (fun q7 => ?_) (fun q7 => ?_)
          · refine wl_iinc (nI (i + 1)) dL_moves_507 rfl (by decide) (nadd (a := i) (b := 1) rfl) rfl ?_
            refine wl_goto 397 dL_moves_510 (by decide) ?_
            exact e2 q3 q4 q5 q6 q7
          · refine wl_aload_n dL_moves_493 rfl ?_
            refine wl_get 0 (.ref (lB Λ)) dL_moves_494 fL_10 rfl rfl ?_
            refine wl_iload dL_moves_497 rfl ?_
            refine wl_callX (As := [.int (nI i)]) (S := []) [] ce dL_moves_499 ML_162 rfl rfl (Nat.le_of_ble_eq_true rfl) ?_
            refine a_heaterState (i := i) hC (by omega) ?_
            show WZ G (d + 20) (0, 0) μL_moves 502 [.ref (gB G), .int (nI (sN (aS A))), lvU, .int (nI (sH (aS A))), .int t0, .int s0, .int v0, lvU, lvU, .ref a3, .ref a4, .ref a5, .long z, lvU, .int st, .int bd, .int (c1 + (0 : Int32)), .int (c2 + (0 : Int32)), .int c3, .int (nI i), lvU] [.int (sS (aS A) (8 * i + 345))] (lm G Λ X [(((a1, Sum.inl (gY G 21, sL (aS A), Sum.inl f1)) : Nat × va_E)), (((a2, Sum.inl (gY G 21, sL (aS A), Sum.inl f2)) : Nat × va_E)), (((a3, Sum.inl (gY G 21, sN (aS A), Sum.inl f3)) : Nat × va_E)), (((a4, Sum.inl (gY G 21, sN (aS A), Sum.inl f4)) : Nat × va_E)), (((a5, Sum.inl (gY G 22, 3, Sum.inr (Sum.inl f5))) : Nat × va_E))] m ce) Q
            refine wl_if_eq 507 dL_moves_502 (by decide) (fun _ => ?_) (fun z => absurd (k2 q3 q7) z)
            refine wl_iinc (nI (i + 1)) dL_moves_507 rfl (by decide) (nadd (a := i) (b := 1) rfl) rfl ?_
            refine wl_goto 397 dL_moves_510 (by decide) ?_
            exact e3 q3 q4 q5 q6 q7
        · refine wl_aload_n dL_moves_468 rfl ?_
          refine wl_get 0 (.ref (lB Λ)) dL_moves_469 fL_10 rfl rfl ?_
          refine wl_iload dL_moves_472 rfl ?_
          refine wl_callX (As := [.int (nI i)]) (S := []) [] ce dL_moves_474 ML_162 rfl rfl (Nat.le_of_ble_eq_true rfl) ?_
          refine a_heaterState (i := i) hC (by omega) ?_
          show WZ G (d + 20) (0, 0) μL_moves 477 [.ref (gB G), .int (nI (sN (aS A))), lvU, .int (nI (sH (aS A))), .int t0, .int s0, .int v0, lvU, lvU, .ref a3, .ref a4, .ref a5, .long z, lvU, .int st, .int bd, .int (c1 + (0 : Int32)), .int (c2 + (0 : Int32)), .int c3, .int (nI i), lvU] [.int (sS (aS A) (8 * i + 345))] (lm G Λ X [(((a1, Sum.inl (gY G 21, sL (aS A), Sum.inl f1)) : Nat × va_E)), (((a2, Sum.inl (gY G 21, sL (aS A), Sum.inl f2)) : Nat × va_E)), (((a3, Sum.inl (gY G 21, sN (aS A), Sum.inl f3)) : Nat × va_E)), (((a4, Sum.inl (gY G 21, sN (aS A), Sum.inl f4)) : Nat × va_E)), (((a5, Sum.inl (gY G 22, 3, Sum.inr (Sum.inl f5))) : Nat × va_E))] m ce) Q
          refine wl_if_eq 505 dL_moves_477 (by decide) (fun z => absurd z (k1 q3 q6)) (fun _ => ?_)
          refine wl_aload_n dL_moves_480 rfl ?_
          refine wl_get 0 (.ref (lB Λ)) dL_moves_481 fL_10 rfl rfl ?_
          refine wl_iload dL_moves_484 rfl ?_
          refine wl_callX (As := [.int (nI i)]) (S := []) [] ce dL_moves_486 ML_165 rfl rfl (Nat.le_of_ble_eq_true rfl) ?_
          refine a_heaterMode (i := i) hC (by omega) ?_
          show WZ G (d + 20) (0, 0) μL_moves 489 [.ref (gB G), .int (nI (sN (aS A))), lvU, .int (nI (sH (aS A))), .int t0, .int s0, .int v0, lvU, lvU, .ref a3, .ref a4, .ref a5, .long z, lvU, .int st, .int bd, .int (c1 + (0 : Int32)), .int (c2 + (0 : Int32)), .int c3, .int (nI i), lvU] [.int (sS (aS A) (8 * i + 343))] (lm G Λ X [(((a1, Sum.inl (gY G 21, sL (aS A), Sum.inl f1)) : Nat × va_E)), (((a2, Sum.inl (gY G 21, sL (aS A), Sum.inl f2)) : Nat × va_E)), (((a3, Sum.inl (gY G 21, sN (aS A), Sum.inl f3)) : Nat × va_E)), (((a4, Sum.inl (gY G 21, sN (aS A), Sum.inl f4)) : Nat × va_E)), (((a5, Sum.inl (gY G 22, 3, Sum.inr (Sum.inl f5))) : Nat × va_E))] m ce) Q
          refine wl_iconst (2 : Int32) dL_moves_489 (by decide) ?_
          refine wl_icmp_ne 507 dL_moves_490 (by decide) (fun _ => ?_) (fun z => absurd z (by rw [q6]; decide))
          refine wl_iinc (nI (i + 1)) dL_moves_507 rfl (by decide) (nadd (a := i) (b := 1) rfl) rfl ?_
          refine wl_goto 397 dL_moves_510 (by decide) ?_
          exact e4 q3 q4 q5 q6
      · refine wl_aload_n dL_moves_441 rfl ?_
        refine wl_get 0 (.ref (lW Λ)) dL_moves_442 fL_20 rfl rfl ?_
        refine wl_iload dL_moves_445 rfl ?_
        refine wl_iald (t0 := 1) 2 i ((xW X) i) dL_moves_447 rfl rfl rfl (by omega) (by omega) rfl ?_
        refine wl_goto 452 dL_moves_448 (by decide) ?_
        refine wl_iadd dL_moves_452 ?_
        refine wl_istore dL_moves_453 (by decide) rfl ?_
        refine wl_aload_n dL_moves_455 rfl ?_
        refine wl_get 0 (.ref (lB Λ)) dL_moves_456 fL_10 rfl rfl ?_
        refine wl_iload dL_moves_459 rfl ?_
        refine wl_callX (As := [.int (nI i)]) (S := []) [] ce dL_moves_461 ML_165 rfl rfl (Nat.le_of_ble_eq_true rfl) ?_
        refine a_heaterMode (i := i) hC (by omega) ?_
        show WZ G (d + 20) (0, 0) μL_moves 464 [.ref (gB G), .int (nI (sN (aS A))), lvU, .int (nI (sH (aS A))), .int t0, .int s0, .int v0, lvU, lvU, .ref a3, .ref a4, .ref a5, .long z, lvU, .int st, .int bd, .int (c1 + (0 : Int32)), .int (c2 + ((xW X) i)), .int c3, .int (nI i), lvU] [.int (sS (aS A) (8 * i + 343))] (lm G Λ X [(((a1, Sum.inl (gY G 21, sL (aS A), Sum.inl f1)) : Nat × va_E)), (((a2, Sum.inl (gY G 21, sL (aS A), Sum.inl f2)) : Nat × va_E)), (((a3, Sum.inl (gY G 21, sN (aS A), Sum.inl f3)) : Nat × va_E)), (((a4, Sum.inl (gY G 21, sN (aS A), Sum.inl f4)) : Nat × va_E)), (((a5, Sum.inl (gY G 22, 3, Sum.inr (Sum.inl f5))) : Nat × va_E))] m ce) Q
        refine wl_iconst (1 : Int32) dL_moves_464 (by decide) ?_
        refine wl_icmp_ne 480 dL_moves_465 (by decide) (fun q8 => ?_) (fun q8 => ?_)
        · refine wl_aload_n dL_moves_480 rfl ?_
          refine wl_get 0 (.ref (lB Λ)) dL_moves_481 fL_10 rfl rfl ?_
          refine wl_iload dL_moves_484 rfl ?_
          refine wl_callX (As := [.int (nI i)]) (S := []) [] ce dL_moves_486 ML_165 rfl rfl (Nat.le_of_ble_eq_true rfl) ?_
          refine a_heaterMode (i := i) hC (by omega) ?_
          show WZ G (d + 20) (0, 0) μL_moves 489 [.ref (gB G), .int (nI (sN (aS A))), lvU, .int (nI (sH (aS A))), .int t0, .int s0, .int v0, lvU, lvU, .ref a3, .ref a4, .ref a5, .long z, lvU, .int st, .int bd, .int (c1 + (0 : Int32)), .int (c2 + ((xW X) i)), .int c3, .int (nI i), lvU] [.int (sS (aS A) (8 * i + 343))] (lm G Λ X [(((a1, Sum.inl (gY G 21, sL (aS A), Sum.inl f1)) : Nat × va_E)), (((a2, Sum.inl (gY G 21, sL (aS A), Sum.inl f2)) : Nat × va_E)), (((a3, Sum.inl (gY G 21, sN (aS A), Sum.inl f3)) : Nat × va_E)), (((a4, Sum.inl (gY G 21, sN (aS A), Sum.inl f4)) : Nat × va_E)), (((a5, Sum.inl (gY G 22, 3, Sum.inr (Sum.inl f5))) : Nat × va_E))] m ce) Q
          refine wl_iconst (2 : Int32) dL_moves_489 (by decide) ?_
          refine wl_icmp_ne 507 dL_moves_490 (by decide) (fun q9 => ?_) (fun q9 => ?_)
          · refine wl_iinc (nI (i + 1)) dL_moves_507 rfl (by decide) (nadd (a := i) (b := 1) rfl) rfl ?_
            refine wl_goto 397 dL_moves_510 (by decide) ?_
            exact e5 q3 q4 q5 q8 q9
          · refine wl_aload_n dL_moves_493 rfl ?_
            refine wl_get 0 (.ref (lB Λ)) dL_moves_494 fL_10 rfl rfl ?_
            refine wl_iload dL_moves_497 rfl ?_
            refine wl_callX (As := [.int (nI i)]) (S := []) [] ce dL_moves_499 ML_162 rfl rfl (Nat.le_of_ble_eq_true rfl) ?_
            refine a_heaterState (i := i) hC (by omega) ?_
            show WZ G (d + 20) (0, 0) μL_moves 502 [.ref (gB G), .int (nI (sN (aS A))), lvU, .int (nI (sH (aS A))), .int t0, .int s0, .int v0, lvU, lvU, .ref a3, .ref a4, .ref a5, .long z, lvU, .int st, .int bd, .int (c1 + (0 : Int32)), .int (c2 + ((xW X) i)), .int c3, .int (nI i), lvU] [.int (sS (aS A) (8 * i + 345))] (lm G Λ X [(((a1, Sum.inl (gY G 21, sL (aS A), Sum.inl f1)) : Nat × va_E)), (((a2, Sum.inl (gY G 21, sL (aS A), Sum.inl f2)) : Nat × va_E)), (((a3, Sum.inl (gY G 21, sN (aS A), Sum.inl f3)) : Nat × va_E)), (((a4, Sum.inl (gY G 21, sN (aS A), Sum.inl f4)) : Nat × va_E)), (((a5, Sum.inl (gY G 22, 3, Sum.inr (Sum.inl f5))) : Nat × va_E))] m ce) Q
            refine wl_if_eq 507 dL_moves_502 (by decide) (fun _ => ?_) (fun z => absurd (k2 q3 q9) z)
            refine wl_iinc (nI (i + 1)) dL_moves_507 rfl (by decide) (nadd (a := i) (b := 1) rfl) rfl ?_
            refine wl_goto 397 dL_moves_510 (by decide) ?_
            exact e6 q3 q4 q5 q8 q9
        · refine wl_aload_n dL_moves_468 rfl ?_
          refine wl_get 0 (.ref (lB Λ)) dL_moves_469 fL_10 rfl rfl ?_
          refine wl_iload dL_moves_472 rfl ?_
          refine wl_callX (As := [.int (nI i)]) (S := []) [] ce dL_moves_474 ML_162 rfl rfl (Nat.le_of_ble_eq_true rfl) ?_
          refine a_heaterState (i := i) hC (by omega) ?_
          show WZ G (d + 20) (0, 0) μL_moves 477 [.ref (gB G), .int (nI (sN (aS A))), lvU, .int (nI (sH (aS A))), .int t0, .int s0, .int v0, lvU, lvU, .ref a3, .ref a4, .ref a5, .long z, lvU, .int st, .int bd, .int (c1 + (0 : Int32)), .int (c2 + ((xW X) i)), .int c3, .int (nI i), lvU] [.int (sS (aS A) (8 * i + 345))] (lm G Λ X [(((a1, Sum.inl (gY G 21, sL (aS A), Sum.inl f1)) : Nat × va_E)), (((a2, Sum.inl (gY G 21, sL (aS A), Sum.inl f2)) : Nat × va_E)), (((a3, Sum.inl (gY G 21, sN (aS A), Sum.inl f3)) : Nat × va_E)), (((a4, Sum.inl (gY G 21, sN (aS A), Sum.inl f4)) : Nat × va_E)), (((a5, Sum.inl (gY G 22, 3, Sum.inr (Sum.inl f5))) : Nat × va_E))] m ce) Q
          refine wl_if_eq 505 dL_moves_477 (by decide) (fun z => absurd z (k1 q3 q8)) (fun _ => ?_)
          refine wl_aload_n dL_moves_480 rfl ?_
          refine wl_get 0 (.ref (lB Λ)) dL_moves_481 fL_10 rfl rfl ?_
          refine wl_iload dL_moves_484 rfl ?_
          refine wl_callX (As := [.int (nI i)]) (S := []) [] ce dL_moves_486 ML_165 rfl rfl (Nat.le_of_ble_eq_true rfl) ?_
          refine a_heaterMode (i := i) hC (by omega) ?_
          show WZ G (d + 20) (0, 0) μL_moves 489 [.ref (gB G), .int (nI (sN (aS A))), lvU, .int (nI (sH (aS A))), .int t0, .int s0, .int v0, lvU, lvU, .ref a3, .ref a4, .ref a5, .long z, lvU, .int st, .int bd, .int (c1 + (0 : Int32)), .int (c2 + ((xW X) i)), .int c3, .int (nI i), lvU] [.int (sS (aS A) (8 * i + 343))] (lm G Λ X [(((a1, Sum.inl (gY G 21, sL (aS A), Sum.inl f1)) : Nat × va_E)), (((a2, Sum.inl (gY G 21, sL (aS A), Sum.inl f2)) : Nat × va_E)), (((a3, Sum.inl (gY G 21, sN (aS A), Sum.inl f3)) : Nat × va_E)), (((a4, Sum.inl (gY G 21, sN (aS A), Sum.inl f4)) : Nat × va_E)), (((a5, Sum.inl (gY G 22, 3, Sum.inr (Sum.inl f5))) : Nat × va_E))] m ce) Q
          refine wl_iconst (2 : Int32) dL_moves_489 (by decide) ?_
          refine wl_icmp_ne 507 dL_moves_490 (by decide) (fun _ => ?_) (fun z => absurd z (by rw [q8]; decide))
          refine wl_iinc (nI (i + 1)) dL_moves_507 rfl (by decide) (nadd (a := i) (b := 1) rfl) rfl ?_
          refine wl_goto 397 dL_moves_510 (by decide) ?_
          exact e7 q3 q4 q5 q8
    · refine wl_iconst (1 : Int32) dL_moves_418 (by decide) ?_
      refine wl_goto 423 dL_moves_419 (by decide) ?_
      refine wl_iadd dL_moves_423 ?_
      refine wl_istore dL_moves_424 (by decide) rfl ?_
      refine wl_iload dL_moves_426 rfl ?_
      refine wl_aload_n dL_moves_428 rfl ?_
      refine wl_get 0 (.ref (lB Λ)) dL_moves_429 fL_10 rfl rfl ?_
      refine wl_iload dL_moves_432 rfl ?_
      refine wl_callX (As := [.int (nI i)]) (S := [.int c2]) [] ce dL_moves_434 ML_162 rfl rfl (Nat.le_of_ble_eq_true rfl) ?_
      refine a_heaterState (i := i) hC (by omega) ?_
      show WZ G (d + 20) (0, 0) μL_moves 437 [.ref (gB G), .int (nI (sN (aS A))), lvU, .int (nI (sH (aS A))), .int t0, .int s0, .int v0, lvU, lvU, .ref a3, .ref a4, .ref a5, .long z, lvU, .int st, .int bd, .int (c1 + (1 : Int32)), .int c2, .int c3, .int (nI i), lvU] [.int (sS (aS A) (8 * i + 345)), .int c2] (lm G Λ X [(((a1, Sum.inl (gY G 21, sL (aS A), Sum.inl f1)) : Nat × va_E)), (((a2, Sum.inl (gY G 21, sL (aS A), Sum.inl f2)) : Nat × va_E)), (((a3, Sum.inl (gY G 21, sN (aS A), Sum.inl f3)) : Nat × va_E)), (((a4, Sum.inl (gY G 21, sN (aS A), Sum.inl f4)) : Nat × va_E)), (((a5, Sum.inl (gY G 22, 3, Sum.inr (Sum.inl f5))) : Nat × va_E))] m ce) Q
      refine wl_iconst (1 : Int32) dL_moves_437 (by decide) ?_
      refine wl_icmp_ne 451 dL_moves_438 (by decide) (fun _ => ?_) (fun z => absurd z (by rw [q4]; decide))
      refine wl_iconst (0 : Int32) dL_moves_451 (by decide) ?_
      refine wl_iadd dL_moves_452 ?_
      refine wl_istore dL_moves_453 (by decide) rfl ?_
      refine wl_aload_n dL_moves_455 rfl ?_
      refine wl_get 0 (.ref (lB Λ)) dL_moves_456 fL_10 rfl rfl ?_
      refine wl_iload dL_moves_459 rfl ?_
      refine wl_callX (As := [.int (nI i)]) (S := []) [] ce dL_moves_461 ML_165 rfl rfl (Nat.le_of_ble_eq_true rfl) ?_
      refine a_heaterMode (i := i) hC (by omega) ?_
      show WZ G (d + 20) (0, 0) μL_moves 464 [.ref (gB G), .int (nI (sN (aS A))), lvU, .int (nI (sH (aS A))), .int t0, .int s0, .int v0, lvU, lvU, .ref a3, .ref a4, .ref a5, .long z, lvU, .int st, .int bd, .int (c1 + (1 : Int32)), .int (c2 + (0 : Int32)), .int c3, .int (nI i), lvU] [.int (sS (aS A) (8 * i + 343))] (lm G Λ X [(((a1, Sum.inl (gY G 21, sL (aS A), Sum.inl f1)) : Nat × va_E)), (((a2, Sum.inl (gY G 21, sL (aS A), Sum.inl f2)) : Nat × va_E)), (((a3, Sum.inl (gY G 21, sN (aS A), Sum.inl f3)) : Nat × va_E)), (((a4, Sum.inl (gY G 21, sN (aS A), Sum.inl f4)) : Nat × va_E)), (((a5, Sum.inl (gY G 22, 3, Sum.inr (Sum.inl f5))) : Nat × va_E))] m ce) Q
      refine wl_iconst (1 : Int32) dL_moves_464 (by decide) ?_
      refine wl_icmp_ne 480 dL_moves_465 (by decide) (fun q10 => ?_) (fun q10 => ?_)
      · refine wl_aload_n dL_moves_480 rfl ?_
        refine wl_get 0 (.ref (lB Λ)) dL_moves_481 fL_10 rfl rfl ?_
        refine wl_iload dL_moves_484 rfl ?_
        refine wl_callX (As := [.int (nI i)]) (S := []) [] ce dL_moves_486 ML_165 rfl rfl (Nat.le_of_ble_eq_true rfl) ?_
        refine a_heaterMode (i := i) hC (by omega) ?_
        show WZ G (d + 20) (0, 0) μL_moves 489 [.ref (gB G), .int (nI (sN (aS A))), lvU, .int (nI (sH (aS A))), .int t0, .int s0, .int v0, lvU, lvU, .ref a3, .ref a4, .ref a5, .long z, lvU, .int st, .int bd, .int (c1 + (1 : Int32)), .int (c2 + (0 : Int32)), .int c3, .int (nI i), lvU] [.int (sS (aS A) (8 * i + 343))] (lm G Λ X [(((a1, Sum.inl (gY G 21, sL (aS A), Sum.inl f1)) : Nat × va_E)), (((a2, Sum.inl (gY G 21, sL (aS A), Sum.inl f2)) : Nat × va_E)), (((a3, Sum.inl (gY G 21, sN (aS A), Sum.inl f3)) : Nat × va_E)), (((a4, Sum.inl (gY G 21, sN (aS A), Sum.inl f4)) : Nat × va_E)), (((a5, Sum.inl (gY G 22, 3, Sum.inr (Sum.inl f5))) : Nat × va_E))] m ce) Q
        refine wl_iconst (2 : Int32) dL_moves_489 (by decide) ?_
        refine wl_icmp_ne 507 dL_moves_490 (by decide) (fun q11 => ?_) (fun q11 => ?_)
        · refine wl_iinc (nI (i + 1)) dL_moves_507 rfl (by decide) (nadd (a := i) (b := 1) rfl) rfl ?_
          refine wl_goto 397 dL_moves_510 (by decide) ?_
          exact e8 q3 q4 q10 q11
        · refine wl_aload_n dL_moves_493 rfl ?_
          refine wl_get 0 (.ref (lB Λ)) dL_moves_494 fL_10 rfl rfl ?_
          refine wl_iload dL_moves_497 rfl ?_
          refine wl_callX (As := [.int (nI i)]) (S := []) [] ce dL_moves_499 ML_162 rfl rfl (Nat.le_of_ble_eq_true rfl) ?_
          refine a_heaterState (i := i) hC (by omega) ?_
          show WZ G (d + 20) (0, 0) μL_moves 502 [.ref (gB G), .int (nI (sN (aS A))), lvU, .int (nI (sH (aS A))), .int t0, .int s0, .int v0, lvU, lvU, .ref a3, .ref a4, .ref a5, .long z, lvU, .int st, .int bd, .int (c1 + (1 : Int32)), .int (c2 + (0 : Int32)), .int c3, .int (nI i), lvU] [.int (sS (aS A) (8 * i + 345))] (lm G Λ X [(((a1, Sum.inl (gY G 21, sL (aS A), Sum.inl f1)) : Nat × va_E)), (((a2, Sum.inl (gY G 21, sL (aS A), Sum.inl f2)) : Nat × va_E)), (((a3, Sum.inl (gY G 21, sN (aS A), Sum.inl f3)) : Nat × va_E)), (((a4, Sum.inl (gY G 21, sN (aS A), Sum.inl f4)) : Nat × va_E)), (((a5, Sum.inl (gY G 22, 3, Sum.inr (Sum.inl f5))) : Nat × va_E))] m ce) Q
          refine wl_if_eq 507 dL_moves_502 (by decide) (fun _ => ?_) (fun z => absurd (k2 q3 q11) z)
          refine wl_iinc (nI (i + 1)) dL_moves_507 rfl (by decide) (nadd (a := i) (b := 1) rfl) rfl ?_
          refine wl_goto 397 dL_moves_510 (by decide) ?_
          exact e9 q3 q4 q10 q11
      · refine wl_aload_n dL_moves_468 rfl ?_
        refine wl_get 0 (.ref (lB Λ)) dL_moves_469 fL_10 rfl rfl ?_
        refine wl_iload dL_moves_472 rfl ?_
        refine wl_callX (As := [.int (nI i)]) (S := []) [] ce dL_moves_474 ML_162 rfl rfl (Nat.le_of_ble_eq_true rfl) ?_
        refine a_heaterState (i := i) hC (by omega) ?_
        show WZ G (d + 20) (0, 0) μL_moves 477 [.ref (gB G), .int (nI (sN (aS A))), lvU, .int (nI (sH (aS A))), .int t0, .int s0, .int v0, lvU, lvU, .ref a3, .ref a4, .ref a5, .long z, lvU, .int st, .int bd, .int (c1 + (1 : Int32)), .int (c2 + (0 : Int32)), .int c3, .int (nI i), lvU] [.int (sS (aS A) (8 * i + 345))] (lm G Λ X [(((a1, Sum.inl (gY G 21, sL (aS A), Sum.inl f1)) : Nat × va_E)), (((a2, Sum.inl (gY G 21, sL (aS A), Sum.inl f2)) : Nat × va_E)), (((a3, Sum.inl (gY G 21, sN (aS A), Sum.inl f3)) : Nat × va_E)), (((a4, Sum.inl (gY G 21, sN (aS A), Sum.inl f4)) : Nat × va_E)), (((a5, Sum.inl (gY G 22, 3, Sum.inr (Sum.inl f5))) : Nat × va_E))] m ce) Q
        refine wl_if_eq 505 dL_moves_477 (by decide) (fun z => absurd z (k1 q3 q10)) (fun _ => ?_)
        refine wl_aload_n dL_moves_480 rfl ?_
        refine wl_get 0 (.ref (lB Λ)) dL_moves_481 fL_10 rfl rfl ?_
        refine wl_iload dL_moves_484 rfl ?_
        refine wl_callX (As := [.int (nI i)]) (S := []) [] ce dL_moves_486 ML_165 rfl rfl (Nat.le_of_ble_eq_true rfl) ?_
        refine a_heaterMode (i := i) hC (by omega) ?_
        show WZ G (d + 20) (0, 0) μL_moves 489 [.ref (gB G), .int (nI (sN (aS A))), lvU, .int (nI (sH (aS A))), .int t0, .int s0, .int v0, lvU, lvU, .ref a3, .ref a4, .ref a5, .long z, lvU, .int st, .int bd, .int (c1 + (1 : Int32)), .int (c2 + (0 : Int32)), .int c3, .int (nI i), lvU] [.int (sS (aS A) (8 * i + 343))] (lm G Λ X [(((a1, Sum.inl (gY G 21, sL (aS A), Sum.inl f1)) : Nat × va_E)), (((a2, Sum.inl (gY G 21, sL (aS A), Sum.inl f2)) : Nat × va_E)), (((a3, Sum.inl (gY G 21, sN (aS A), Sum.inl f3)) : Nat × va_E)), (((a4, Sum.inl (gY G 21, sN (aS A), Sum.inl f4)) : Nat × va_E)), (((a5, Sum.inl (gY G 22, 3, Sum.inr (Sum.inl f5))) : Nat × va_E))] m ce) Q
        refine wl_iconst (2 : Int32) dL_moves_489 (by decide) ?_
        refine wl_icmp_ne 507 dL_moves_490 (by decide) (fun _ => ?_) (fun z => absurd z (by rw [q10]; decide))
        refine wl_iinc (nI (i + 1)) dL_moves_507 rfl (by decide) (nadd (a := i) (b := 1) rfl) rfl ?_
        refine wl_goto 397 dL_moves_510 (by decide) ?_
        exact e10 q3 q4 q10

theorem mo_7 {G : Cx} {d : Nat} {Λ : Lc} {X : Lx} {ext : va_W} {m : Mm} {A : Ab} {ce : List (Nat × Mm)} {Q : Option Value → LM → Prop} {a1 a2 a3 a4 a5 : Nat} {f1 f2 f3 f4 : Nat → Int32} {f5 : Nat → Int64} {t0 s0 v0 : Int32} {i : Nat} {z : Int64} {st bd : Int32} {c1 c2 c3 : Int32} (hC : CIv (atC G (lB Λ) false) m A) (hi : i ≤ sN (aS A)) (k1 : i < sN (aS A) → (sS (aS A) (11 * i + 27)) = imin (f3 i) (sS (aS A) (11 * i + 21)) ∧ (sS (aS A) (11 * i + 28)) = imax (f4 i) (sS (aS A) (11 * i + 21)) ∧ ¬ (sS (aS A) (11 * i + 21)) < -200000 ∧ ¬ 200000 < (sS (aS A) (11 * i + 21)) ∧ (0 < (sS (aS A) (11 * i + 29)) → ¬ (sS (aS A) (11 * i + 30)) < 0) ∧ (¬ 0 < (sS (aS A) (11 * i + 29)) → (sS (aS A) (11 * i + 30)) < 0) ∧ ¬ sS (aS A) 0 < (sS (aS A) (11 * i + 30)))
    (e1 : ¬ i < sN (aS A) → WZ G (d + 20) (0, 0) μL_moves 677 [.ref (gB G), lvU, lvU, lvU, .int t0, .int s0, .int v0, lvU, lvU, lvU, lvU, .ref a5, .long z, lvU, .int st, .int bd, .int c1, .int c2, .int c3, lvU, lvU] [] (lm G Λ X [(((a1, Sum.inl (gY G 21, sL (aS A), Sum.inl f1)) : Nat × va_E)), (((a2, Sum.inl (gY G 21, sL (aS A), Sum.inl f2)) : Nat × va_E)), (((a3, Sum.inl (gY G 21, sN (aS A), Sum.inl f3)) : Nat × va_E)), (((a4, Sum.inl (gY G 21, sN (aS A), Sum.inl f4)) : Nat × va_E)), (((a5, Sum.inl (gY G 22, 3, Sum.inr (Sum.inl f5))) : Nat × va_E))] m ce) Q)
    (e2 : i < sN (aS A) → ¬ (imin (sS (aS A) (11 * i + 21) - sS (aS A) (11 * i + 25)) (sS (aS A) (11 * i + 26) - sS (aS A) (11 * i + 21))) < 0 → ¬ 0 < (sS (aS A) (11 * i + 29)) → WZ G (d + 20) (0, 0) μL_moves 516 [.ref (gB G), .int (nI (sN (aS A))), lvU, lvU, .int t0, .int s0, .int v0, lvU, lvU, .ref a3, .ref a4, .ref a5, .long z, lvU, .int st, .int bd, .int c1, .int c2, .int (c3 + (0 : Int32)), .int (nI (i + 1)), lvU] [] (lm G Λ X [(((a1, Sum.inl (gY G 21, sL (aS A), Sum.inl f1)) : Nat × va_E)), (((a2, Sum.inl (gY G 21, sL (aS A), Sum.inl f2)) : Nat × va_E)), (((a3, Sum.inl (gY G 21, sN (aS A), Sum.inl f3)) : Nat × va_E)), (((a4, Sum.inl (gY G 21, sN (aS A), Sum.inl f4)) : Nat × va_E)), (((a5, Sum.inl (gY G 22, 3, Sum.inr (Sum.inl f5))) : Nat × va_E))] m ce) Q)
    (e3 : i < sN (aS A) → ¬ (imin (sS (aS A) (11 * i + 21) - sS (aS A) (11 * i + 25)) (sS (aS A) (11 * i + 26) - sS (aS A) (11 * i + 21))) < 0 → 0 < (sS (aS A) (11 * i + 29)) → WZ G (d + 20) (0, 0) μL_moves 516 [.ref (gB G), .int (nI (sN (aS A))), lvU, lvU, .int t0, .int s0, .int v0, lvU, lvU, .ref a3, .ref a4, .ref a5, .long z, lvU, .int st, .int bd, .int c1, .int c2, .int (c3 + (0 : Int32)), .int (nI (i + 1)), lvU] [] (lm G Λ X [(((a1, Sum.inl (gY G 21, sL (aS A), Sum.inl f1)) : Nat × va_E)), (((a2, Sum.inl (gY G 21, sL (aS A), Sum.inl f2)) : Nat × va_E)), (((a3, Sum.inl (gY G 21, sN (aS A), Sum.inl f3)) : Nat × va_E)), (((a4, Sum.inl (gY G 21, sN (aS A), Sum.inl f4)) : Nat × va_E)), (((a5, Sum.inl (gY G 22, 3, Sum.inr (Sum.inl f5))) : Nat × va_E))] m ce) Q)
    (e4 : i < sN (aS A) → (imin (sS (aS A) (11 * i + 21) - sS (aS A) (11 * i + 25)) (sS (aS A) (11 * i + 26) - sS (aS A) (11 * i + 21))) < 0 → ¬ 0 < (sS (aS A) (11 * i + 29)) → WZ G (d + 20) (0, 0) μL_moves 516 [.ref (gB G), .int (nI (sN (aS A))), lvU, lvU, .int t0, .int s0, .int v0, lvU, lvU, .ref a3, .ref a4, .ref a5, .long z, lvU, .int st, .int bd, .int c1, .int c2, .int (c3 + (1 : Int32)), .int (nI (i + 1)), lvU] [] (lm G Λ X [(((a1, Sum.inl (gY G 21, sL (aS A), Sum.inl f1)) : Nat × va_E)), (((a2, Sum.inl (gY G 21, sL (aS A), Sum.inl f2)) : Nat × va_E)), (((a3, Sum.inl (gY G 21, sN (aS A), Sum.inl f3)) : Nat × va_E)), (((a4, Sum.inl (gY G 21, sN (aS A), Sum.inl f4)) : Nat × va_E)), (((a5, Sum.inl (gY G 22, 3, Sum.inr (Sum.inl f5))) : Nat × va_E))] m ce) Q)
    (e5 : i < sN (aS A) → (imin (sS (aS A) (11 * i + 21) - sS (aS A) (11 * i + 25)) (sS (aS A) (11 * i + 26) - sS (aS A) (11 * i + 21))) < 0 → 0 < (sS (aS A) (11 * i + 29)) → WZ G (d + 20) (0, 0) μL_moves 516 [.ref (gB G), .int (nI (sN (aS A))), lvU, lvU, .int t0, .int s0, .int v0, lvU, lvU, .ref a3, .ref a4, .ref a5, .long z, lvU, .int st, .int bd, .int c1, .int c2, .int (c3 + (1 : Int32)), .int (nI (i + 1)), lvU] [] (lm G Λ X [(((a1, Sum.inl (gY G 21, sL (aS A), Sum.inl f1)) : Nat × va_E)), (((a2, Sum.inl (gY G 21, sL (aS A), Sum.inl f2)) : Nat × va_E)), (((a3, Sum.inl (gY G 21, sN (aS A), Sum.inl f3)) : Nat × va_E)), (((a4, Sum.inl (gY G 21, sN (aS A), Sum.inl f4)) : Nat × va_E)), (((a5, Sum.inl (gY G 22, 3, Sum.inr (Sum.inl f5))) : Nat × va_E))] m ce) Q) :
    WZ G (d + 20) (0, 0) μL_moves 516 [.ref (gB G), .int (nI (sN (aS A))), lvU, lvU, .int t0, .int s0, .int v0, lvU, lvU, .ref a3, .ref a4, .ref a5, .long z, lvU, .int st, .int bd, .int c1, .int c2, .int c3, .int (nI i), lvU] [] (lm G Λ X [(((a1, Sum.inl (gY G 21, sL (aS A), Sum.inl f1)) : Nat × va_E)), (((a2, Sum.inl (gY G 21, sL (aS A), Sum.inl f2)) : Nat × va_E)), (((a3, Sum.inl (gY G 21, sN (aS A), Sum.inl f3)) : Nat × va_E)), (((a4, Sum.inl (gY G 21, sN (aS A), Sum.inl f4)) : Nat × va_E)), (((a5, Sum.inl (gY G 22, 3, Sum.inr (Sum.inl f5))) : Nat × va_E))] m ce) Q := by
  have hn12 := hC.nn.2
  have hl6 := hC.nl.2
  have hh8 := hC.nh.2
  refine wl_iload dL_moves_516 rfl ?_
  refine wl_iload_n dL_moves_518 rfl ?_
  refine wl_icmp_ge 677 dL_moves_519 (by decide) (fun q1 => ?_) (fun q1 => ?_)
  · have q2 : ¬ i < sN (aS A) := fun y => q1 (nlt_ (a := i) (b := sN (aS A)) y (by omega))
    refine wl_forget [.ref (gB G), lvU, lvU, lvU, .int t0, .int s0, .int v0, lvU, lvU, lvU, lvU, .ref a5, .long z, lvU, .int st, .int bd, .int c1, .int c2, .int c3, lvU, lvU] ⟨Or.inl rfl, Or.inr rfl, Or.inl rfl, Or.inl rfl, Or.inl rfl, Or.inl rfl, Or.inl rfl, Or.inl rfl, Or.inl rfl, Or.inr rfl, Or.inr rfl, Or.inl rfl, Or.inl rfl, Or.inl rfl, Or.inl rfl, Or.inl rfl, Or.inl rfl, Or.inl rfl, Or.inl rfl, Or.inr rfl, Or.inl rfl, trivial⟩ ?_
    exact e1 q2
  · have q3 : i < sN (aS A) := nlt (a := i) (b := sN (aS A)) q1 (by omega) (by omega)
    refine wl_aload_n dL_moves_522 rfl ?_
    refine wl_get 0 (.ref (lB Λ)) dL_moves_523 fL_10 rfl rfl ?_
    refine wl_iload dL_moves_526 rfl ?_
    refine wl_callX (As := [.int (nI i)]) (S := []) [] ce dL_moves_528 ML_168 rfl rfl (Nat.le_of_ble_eq_true rfl) ?_
    refine a_temperature (i := i) hC (by omega) ?_
    show WZ G (d + 20) (0, 0) μL_moves 531 [.ref (gB G), .int (nI (sN (aS A))), lvU, lvU, .int t0, .int s0, .int v0, lvU, lvU, .ref a3, .ref a4, .ref a5, .long z, lvU, .int st, .int bd, .int c1, .int c2, .int c3, .int (nI i), lvU] [.int (sS (aS A) (11 * i + 21))] (lm G Λ X [(((a1, Sum.inl (gY G 21, sL (aS A), Sum.inl f1)) : Nat × va_E)), (((a2, Sum.inl (gY G 21, sL (aS A), Sum.inl f2)) : Nat × va_E)), (((a3, Sum.inl (gY G 21, sN (aS A), Sum.inl f3)) : Nat × va_E)), (((a4, Sum.inl (gY G 21, sN (aS A), Sum.inl f4)) : Nat × va_E)), (((a5, Sum.inl (gY G 22, 3, Sum.inr (Sum.inl f5))) : Nat × va_E))] m ce) Q
    refine wl_istore dL_moves_531 (by decide) rfl ?_
    refine wl_iload dL_moves_533 rfl ?_
    refine wl_aload_n dL_moves_535 rfl ?_
    refine wl_get 0 (.ref (lB Λ)) dL_moves_536 fL_10 rfl rfl ?_
    refine wl_iload dL_moves_539 rfl ?_
    refine wl_callX (As := [.int (nI i)]) (S := [.int c3]) [] ce dL_moves_541 ML_171 rfl rfl (Nat.le_of_ble_eq_true rfl) ?_
    refine a_margin (i := i) hC (by omega) ?_
    show WZ G (d + 20) (0, 0) μL_moves 544 [.ref (gB G), .int (nI (sN (aS A))), lvU, lvU, .int t0, .int s0, .int v0, lvU, lvU, .ref a3, .ref a4, .ref a5, .long z, lvU, .int st, .int bd, .int c1, .int c2, .int c3, .int (nI i), .int (sS (aS A) (11 * i + 21))] [.int (imin (sS (aS A) (11 * i + 21) - sS (aS A) (11 * i + 25)) (sS (aS A) (11 * i + 26) - sS (aS A) (11 * i + 21))), .int c3] (lm G Λ X [(((a1, Sum.inl (gY G 21, sL (aS A), Sum.inl f1)) : Nat × va_E)), (((a2, Sum.inl (gY G 21, sL (aS A), Sum.inl f2)) : Nat × va_E)), (((a3, Sum.inl (gY G 21, sN (aS A), Sum.inl f3)) : Nat × va_E)), (((a4, Sum.inl (gY G 21, sN (aS A), Sum.inl f4)) : Nat × va_E)), (((a5, Sum.inl (gY G 22, 3, Sum.inr (Sum.inl f5))) : Nat × va_E))] m ce) Q
    refine wl_if_ge 551 dL_moves_544 (by decide) (fun q4 => ?_) (fun q4 => ?_)
    · refine wl_iconst (0 : Int32) dL_moves_551 (by decide) ?_
      refine wl_iadd dL_moves_552 ?_
      refine wl_istore dL_moves_553 (by decide) rfl ?_
      refine wl_aload_n dL_moves_555 rfl ?_
      refine wl_get 0 (.ref (lB Λ)) dL_moves_556 fL_10 rfl rfl ?_
      refine wl_iload dL_moves_559 rfl ?_
      refine wl_callX (As := [.int (nI i)]) (S := []) [] ce dL_moves_561 ML_147 rfl rfl (Nat.le_of_ble_eq_true rfl) ?_
      refine a_lowest (i := i) hC (by omega) ?_
      show WZ G (d + 20) (0, 0) μL_moves 564 [.ref (gB G), .int (nI (sN (aS A))), lvU, lvU, .int t0, .int s0, .int v0, lvU, lvU, .ref a3, .ref a4, .ref a5, .long z, lvU, .int st, .int bd, .int c1, .int c2, .int (c3 + (0 : Int32)), .int (nI i), .int (sS (aS A) (11 * i + 21))] [.int (sS (aS A) (11 * i + 27))] (lm G Λ X [(((a1, Sum.inl (gY G 21, sL (aS A), Sum.inl f1)) : Nat × va_E)), (((a2, Sum.inl (gY G 21, sL (aS A), Sum.inl f2)) : Nat × va_E)), (((a3, Sum.inl (gY G 21, sN (aS A), Sum.inl f3)) : Nat × va_E)), (((a4, Sum.inl (gY G 21, sN (aS A), Sum.inl f4)) : Nat × va_E)), (((a5, Sum.inl (gY G 22, 3, Sum.inr (Sum.inl f5))) : Nat × va_E))] m ce) Q
      refine wl_aload dL_moves_564 rfl ?_
      refine wl_iload dL_moves_566 rfl ?_
      refine wl_iald (t0 := 1) 6 i (f3 i) dL_moves_568 rfl rfl rfl (by omega) (by omega) rfl ?_
      refine wl_iload dL_moves_569 rfl ?_
      refine wl_minI dL_moves_571 AL_159 (Nat.le_of_ble_eq_true rfl) ?_
      refine wl_icmp_ne 669 dL_moves_574 (by decide) (fun z => absurd ((k1 q3).1) z) (fun _ => ?_)
      refine wl_aload_n dL_moves_577 rfl ?_
      refine wl_get 0 (.ref (lB Λ)) dL_moves_578 fL_10 rfl rfl ?_
      refine wl_iload dL_moves_581 rfl ?_
      refine wl_callX (As := [.int (nI i)]) (S := []) [] ce dL_moves_583 ML_150 rfl rfl (Nat.le_of_ble_eq_true rfl) ?_
      refine a_highest (i := i) hC (by omega) ?_
      show WZ G (d + 20) (0, 0) μL_moves 586 [.ref (gB G), .int (nI (sN (aS A))), lvU, lvU, .int t0, .int s0, .int v0, lvU, lvU, .ref a3, .ref a4, .ref a5, .long z, lvU, .int st, .int bd, .int c1, .int c2, .int (c3 + (0 : Int32)), .int (nI i), .int (sS (aS A) (11 * i + 21))] [.int (sS (aS A) (11 * i + 28))] (lm G Λ X [(((a1, Sum.inl (gY G 21, sL (aS A), Sum.inl f1)) : Nat × va_E)), (((a2, Sum.inl (gY G 21, sL (aS A), Sum.inl f2)) : Nat × va_E)), (((a3, Sum.inl (gY G 21, sN (aS A), Sum.inl f3)) : Nat × va_E)), (((a4, Sum.inl (gY G 21, sN (aS A), Sum.inl f4)) : Nat × va_E)), (((a5, Sum.inl (gY G 22, 3, Sum.inr (Sum.inl f5))) : Nat × va_E))] m ce) Q
      refine wl_aload dL_moves_586 rfl ?_
      refine wl_iload dL_moves_588 rfl ?_
      refine wl_iald (t0 := 1) 7 i (f4 i) dL_moves_590 rfl rfl rfl (by omega) (by omega) rfl ?_
      refine wl_iload dL_moves_591 rfl ?_
      refine wl_maxI dL_moves_593 AL_35 (Nat.le_of_ble_eq_true rfl) ?_
      refine wl_icmp_ne 669 dL_moves_596 (by decide) (fun z => absurd ((k1 q3).2.1) z) (fun _ => ?_)
      refine wl_iload dL_moves_599 rfl ?_
      refine wl_ldc dL_moves_601 kL_174 ?_
      refine wl_icmp_lt 669 dL_moves_603 (by decide) (fun z => absurd z ((k1 q3).2.2.1)) (fun _ => ?_)
      refine wl_iload dL_moves_606 rfl ?_
      refine wl_ldc dL_moves_608 kL_175 ?_
      refine wl_icmp_gt 669 dL_moves_610 (by decide) (fun z => absurd z ((k1 q3).2.2.2.1)) (fun _ => ?_)
      refine wl_aload_n dL_moves_613 rfl ?_
      refine wl_get 0 (.ref (lB Λ)) dL_moves_614 fL_10 rfl rfl ?_
      refine wl_iload dL_moves_617 rfl ?_
      refine wl_callX (As := [.int (nI i)]) (S := []) [] ce dL_moves_619 ML_176 rfl rfl (Nat.le_of_ble_eq_true rfl) ?_
      refine a_violations (i := i) hC (by omega) ?_
      show WZ G (d + 20) (0, 0) μL_moves 622 [.ref (gB G), .int (nI (sN (aS A))), lvU, lvU, .int t0, .int s0, .int v0, lvU, lvU, .ref a3, .ref a4, .ref a5, .long z, lvU, .int st, .int bd, .int c1, .int c2, .int (c3 + (0 : Int32)), .int (nI i), .int (sS (aS A) (11 * i + 21))] [.int (sS (aS A) (11 * i + 29))] (lm G Λ X [(((a1, Sum.inl (gY G 21, sL (aS A), Sum.inl f1)) : Nat × va_E)), (((a2, Sum.inl (gY G 21, sL (aS A), Sum.inl f2)) : Nat × va_E)), (((a3, Sum.inl (gY G 21, sN (aS A), Sum.inl f3)) : Nat × va_E)), (((a4, Sum.inl (gY G 21, sN (aS A), Sum.inl f4)) : Nat × va_E)), (((a5, Sum.inl (gY G 22, 3, Sum.inr (Sum.inl f5))) : Nat × va_E))] m ce) Q
      refine wl_if_le 629 dL_moves_622 (by decide) (fun q5 => ?_) (fun q5 => ?_)
      · refine wl_iconst (0 : Int32) dL_moves_629 (by decide) ?_
        refine wl_aload_n dL_moves_630 rfl ?_
        refine wl_get 0 (.ref (lB Λ)) dL_moves_631 fL_10 rfl rfl ?_
        refine wl_iload dL_moves_634 rfl ?_
        refine wl_callX (As := [.int (nI i)]) (S := [.int (0 : Int32)]) [] ce dL_moves_636 ML_179 rfl rfl (Nat.le_of_ble_eq_true rfl) ?_
        refine a_firstViolation (i := i) hC (by omega) ?_
        show WZ G (d + 20) (0, 0) μL_moves 639 [.ref (gB G), .int (nI (sN (aS A))), lvU, lvU, .int t0, .int s0, .int v0, lvU, lvU, .ref a3, .ref a4, .ref a5, .long z, lvU, .int st, .int bd, .int c1, .int c2, .int (c3 + (0 : Int32)), .int (nI i), .int (sS (aS A) (11 * i + 21))] [.int (sS (aS A) (11 * i + 30)), .int (0 : Int32)] (lm G Λ X [(((a1, Sum.inl (gY G 21, sL (aS A), Sum.inl f1)) : Nat × va_E)), (((a2, Sum.inl (gY G 21, sL (aS A), Sum.inl f2)) : Nat × va_E)), (((a3, Sum.inl (gY G 21, sN (aS A), Sum.inl f3)) : Nat × va_E)), (((a4, Sum.inl (gY G 21, sN (aS A), Sum.inl f4)) : Nat × va_E)), (((a5, Sum.inl (gY G 22, 3, Sum.inr (Sum.inl f5))) : Nat × va_E))] m ce) Q
        refine wl_if_lt 646 dL_moves_639 (by decide) (fun _ => ?_) (fun z => absurd ((k1 q3).2.2.2.2.2.1 q5) z)
        refine wl_iconst (0 : Int32) dL_moves_646 (by decide) ?_
        refine wl_icmp_ne 669 dL_moves_647 (by decide) (fun z => absurd z (by decide)) (fun _ => ?_)
        refine wl_aload_n dL_moves_650 rfl ?_
        refine wl_get 0 (.ref (lB Λ)) dL_moves_651 fL_10 rfl rfl ?_
        refine wl_iload dL_moves_654 rfl ?_
        refine wl_callX (As := [.int (nI i)]) (S := []) [] ce dL_moves_656 ML_179 rfl rfl (Nat.le_of_ble_eq_true rfl) ?_
        refine a_firstViolation (i := i) hC (by omega) ?_
        show WZ G (d + 20) (0, 0) μL_moves 659 [.ref (gB G), .int (nI (sN (aS A))), lvU, lvU, .int t0, .int s0, .int v0, lvU, lvU, .ref a3, .ref a4, .ref a5, .long z, lvU, .int st, .int bd, .int c1, .int c2, .int (c3 + (0 : Int32)), .int (nI i), .int (sS (aS A) (11 * i + 21))] [.int (sS (aS A) (11 * i + 30))] (lm G Λ X [(((a1, Sum.inl (gY G 21, sL (aS A), Sum.inl f1)) : Nat × va_E)), (((a2, Sum.inl (gY G 21, sL (aS A), Sum.inl f2)) : Nat × va_E)), (((a3, Sum.inl (gY G 21, sN (aS A), Sum.inl f3)) : Nat × va_E)), (((a4, Sum.inl (gY G 21, sN (aS A), Sum.inl f4)) : Nat × va_E)), (((a5, Sum.inl (gY G 22, 3, Sum.inr (Sum.inl f5))) : Nat × va_E))] m ce) Q
        refine wl_aload_n dL_moves_659 rfl ?_
        refine wl_get 0 (.ref (lB Λ)) dL_moves_660 fL_10 rfl rfl ?_
        refine wl_callX (As := []) (S := [.int (sS (aS A) (11 * i + 30))]) [] ce dL_moves_663 ML_129 rfl rfl (Nat.le_of_ble_eq_true rfl) ?_
        refine a_time hC ?_
        show WZ G (d + 20) (0, 0) μL_moves 666 [.ref (gB G), .int (nI (sN (aS A))), lvU, lvU, .int t0, .int s0, .int v0, lvU, lvU, .ref a3, .ref a4, .ref a5, .long z, lvU, .int st, .int bd, .int c1, .int c2, .int (c3 + (0 : Int32)), .int (nI i), .int (sS (aS A) (11 * i + 21))] [.int (sS (aS A) 0), .int (sS (aS A) (11 * i + 30))] (lm G Λ X [(((a1, Sum.inl (gY G 21, sL (aS A), Sum.inl f1)) : Nat × va_E)), (((a2, Sum.inl (gY G 21, sL (aS A), Sum.inl f2)) : Nat × va_E)), (((a3, Sum.inl (gY G 21, sN (aS A), Sum.inl f3)) : Nat × va_E)), (((a4, Sum.inl (gY G 21, sN (aS A), Sum.inl f4)) : Nat × va_E)), (((a5, Sum.inl (gY G 22, 3, Sum.inr (Sum.inl f5))) : Nat × va_E))] m ce) Q
        refine wl_icmp_le 671 dL_moves_666 (by decide) (fun _ => ?_) (fun z => absurd z ((k1 q3).2.2.2.2.2.2))
        refine wl_iinc (nI (i + 1)) dL_moves_671 rfl (by decide) (nadd (a := i) (b := 1) rfl) rfl ?_
        refine wl_goto 516 dL_moves_674 (by decide) ?_
        refine wl_forget [.ref (gB G), .int (nI (sN (aS A))), lvU, lvU, .int t0, .int s0, .int v0, lvU, lvU, .ref a3, .ref a4, .ref a5, .long z, lvU, .int st, .int bd, .int c1, .int c2, .int (c3 + (0 : Int32)), .int (nI (i + 1)), lvU] ⟨Or.inl rfl, Or.inl rfl, Or.inl rfl, Or.inl rfl, Or.inl rfl, Or.inl rfl, Or.inl rfl, Or.inl rfl, Or.inl rfl, Or.inl rfl, Or.inl rfl, Or.inl rfl, Or.inl rfl, Or.inl rfl, Or.inl rfl, Or.inl rfl, Or.inl rfl, Or.inl rfl, Or.inl rfl, Or.inl rfl, Or.inr rfl, trivial⟩ ?_
        exact e2 q3 q4 q5
      · refine wl_iconst (1 : Int32) dL_moves_625 (by decide) ?_
        refine wl_goto 630 dL_moves_626 (by decide) ?_
        refine wl_aload_n dL_moves_630 rfl ?_
        refine wl_get 0 (.ref (lB Λ)) dL_moves_631 fL_10 rfl rfl ?_
        refine wl_iload dL_moves_634 rfl ?_
        refine wl_callX (As := [.int (nI i)]) (S := [.int (1 : Int32)]) [] ce dL_moves_636 ML_179 rfl rfl (Nat.le_of_ble_eq_true rfl) ?_
        refine a_firstViolation (i := i) hC (by omega) ?_
        show WZ G (d + 20) (0, 0) μL_moves 639 [.ref (gB G), .int (nI (sN (aS A))), lvU, lvU, .int t0, .int s0, .int v0, lvU, lvU, .ref a3, .ref a4, .ref a5, .long z, lvU, .int st, .int bd, .int c1, .int c2, .int (c3 + (0 : Int32)), .int (nI i), .int (sS (aS A) (11 * i + 21))] [.int (sS (aS A) (11 * i + 30)), .int (1 : Int32)] (lm G Λ X [(((a1, Sum.inl (gY G 21, sL (aS A), Sum.inl f1)) : Nat × va_E)), (((a2, Sum.inl (gY G 21, sL (aS A), Sum.inl f2)) : Nat × va_E)), (((a3, Sum.inl (gY G 21, sN (aS A), Sum.inl f3)) : Nat × va_E)), (((a4, Sum.inl (gY G 21, sN (aS A), Sum.inl f4)) : Nat × va_E)), (((a5, Sum.inl (gY G 22, 3, Sum.inr (Sum.inl f5))) : Nat × va_E))] m ce) Q
        refine wl_if_lt 646 dL_moves_639 (by decide) (fun z => absurd z ((k1 q3).2.2.2.2.1 q5)) (fun _ => ?_)
        refine wl_iconst (1 : Int32) dL_moves_642 (by decide) ?_
        refine wl_goto 647 dL_moves_643 (by decide) ?_
        refine wl_icmp_ne 669 dL_moves_647 (by decide) (fun z => absurd z (by decide)) (fun _ => ?_)
        refine wl_aload_n dL_moves_650 rfl ?_
        refine wl_get 0 (.ref (lB Λ)) dL_moves_651 fL_10 rfl rfl ?_
        refine wl_iload dL_moves_654 rfl ?_
        refine wl_callX (As := [.int (nI i)]) (S := []) [] ce dL_moves_656 ML_179 rfl rfl (Nat.le_of_ble_eq_true rfl) ?_
        refine a_firstViolation (i := i) hC (by omega) ?_
        show WZ G (d + 20) (0, 0) μL_moves 659 [.ref (gB G), .int (nI (sN (aS A))), lvU, lvU, .int t0, .int s0, .int v0, lvU, lvU, .ref a3, .ref a4, .ref a5, .long z, lvU, .int st, .int bd, .int c1, .int c2, .int (c3 + (0 : Int32)), .int (nI i), .int (sS (aS A) (11 * i + 21))] [.int (sS (aS A) (11 * i + 30))] (lm G Λ X [(((a1, Sum.inl (gY G 21, sL (aS A), Sum.inl f1)) : Nat × va_E)), (((a2, Sum.inl (gY G 21, sL (aS A), Sum.inl f2)) : Nat × va_E)), (((a3, Sum.inl (gY G 21, sN (aS A), Sum.inl f3)) : Nat × va_E)), (((a4, Sum.inl (gY G 21, sN (aS A), Sum.inl f4)) : Nat × va_E)), (((a5, Sum.inl (gY G 22, 3, Sum.inr (Sum.inl f5))) : Nat × va_E))] m ce) Q
        refine wl_aload_n dL_moves_659 rfl ?_
        refine wl_get 0 (.ref (lB Λ)) dL_moves_660 fL_10 rfl rfl ?_
        refine wl_callX (As := []) (S := [.int (sS (aS A) (11 * i + 30))]) [] ce dL_moves_663 ML_129 rfl rfl (Nat.le_of_ble_eq_true rfl) ?_
        refine a_time hC ?_
        show WZ G (d + 20) (0, 0) μL_moves 666 [.ref (gB G), .int (nI (sN (aS A))), lvU, lvU, .int t0, .int s0, .int v0, lvU, lvU, .ref a3, .ref a4, .ref a5, .long z, lvU, .int st, .int bd, .int c1, .int c2, .int (c3 + (0 : Int32)), .int (nI i), .int (sS (aS A) (11 * i + 21))] [.int (sS (aS A) 0), .int (sS (aS A) (11 * i + 30))] (lm G Λ X [(((a1, Sum.inl (gY G 21, sL (aS A), Sum.inl f1)) : Nat × va_E)), (((a2, Sum.inl (gY G 21, sL (aS A), Sum.inl f2)) : Nat × va_E)), (((a3, Sum.inl (gY G 21, sN (aS A), Sum.inl f3)) : Nat × va_E)), (((a4, Sum.inl (gY G 21, sN (aS A), Sum.inl f4)) : Nat × va_E)), (((a5, Sum.inl (gY G 22, 3, Sum.inr (Sum.inl f5))) : Nat × va_E))] m ce) Q
        refine wl_icmp_le 671 dL_moves_666 (by decide) (fun _ => ?_) (fun z => absurd z ((k1 q3).2.2.2.2.2.2))
        refine wl_iinc (nI (i + 1)) dL_moves_671 rfl (by decide) (nadd (a := i) (b := 1) rfl) rfl ?_
        refine wl_goto 516 dL_moves_674 (by decide) ?_
        refine wl_forget [.ref (gB G), .int (nI (sN (aS A))), lvU, lvU, .int t0, .int s0, .int v0, lvU, lvU, .ref a3, .ref a4, .ref a5, .long z, lvU, .int st, .int bd, .int c1, .int c2, .int (c3 + (0 : Int32)), .int (nI (i + 1)), lvU] ⟨Or.inl rfl, Or.inl rfl, Or.inl rfl, Or.inl rfl, Or.inl rfl, Or.inl rfl, Or.inl rfl, Or.inl rfl, Or.inl rfl, Or.inl rfl, Or.inl rfl, Or.inl rfl, Or.inl rfl, Or.inl rfl, Or.inl rfl, Or.inl rfl, Or.inl rfl, Or.inl rfl, Or.inl rfl, Or.inl rfl, Or.inr rfl, trivial⟩ ?_
        exact e3 q3 q4 q5
    · refine wl_iconst (1 : Int32) dL_moves_547 (by decide) ?_
      refine wl_goto 552 dL_moves_548 (by decide) ?_
      refine wl_iadd dL_moves_552 ?_
      refine wl_istore dL_moves_553 (by decide) rfl ?_
      refine wl_aload_n dL_moves_555 rfl ?_
      refine wl_get 0 (.ref (lB Λ)) dL_moves_556 fL_10 rfl rfl ?_
      refine wl_iload dL_moves_559 rfl ?_
      refine wl_callX (As := [.int (nI i)]) (S := []) [] ce dL_moves_561 ML_147 rfl rfl (Nat.le_of_ble_eq_true rfl) ?_
      refine a_lowest (i := i) hC (by omega) ?_
      show WZ G (d + 20) (0, 0) μL_moves 564 [.ref (gB G), .int (nI (sN (aS A))), lvU, lvU, .int t0, .int s0, .int v0, lvU, lvU, .ref a3, .ref a4, .ref a5, .long z, lvU, .int st, .int bd, .int c1, .int c2, .int (c3 + (1 : Int32)), .int (nI i), .int (sS (aS A) (11 * i + 21))] [.int (sS (aS A) (11 * i + 27))] (lm G Λ X [(((a1, Sum.inl (gY G 21, sL (aS A), Sum.inl f1)) : Nat × va_E)), (((a2, Sum.inl (gY G 21, sL (aS A), Sum.inl f2)) : Nat × va_E)), (((a3, Sum.inl (gY G 21, sN (aS A), Sum.inl f3)) : Nat × va_E)), (((a4, Sum.inl (gY G 21, sN (aS A), Sum.inl f4)) : Nat × va_E)), (((a5, Sum.inl (gY G 22, 3, Sum.inr (Sum.inl f5))) : Nat × va_E))] m ce) Q
      refine wl_aload dL_moves_564 rfl ?_
      refine wl_iload dL_moves_566 rfl ?_
      refine wl_iald (t0 := 1) 6 i (f3 i) dL_moves_568 rfl rfl rfl (by omega) (by omega) rfl ?_
      refine wl_iload dL_moves_569 rfl ?_
      refine wl_minI dL_moves_571 AL_159 (Nat.le_of_ble_eq_true rfl) ?_
      refine wl_icmp_ne 669 dL_moves_574 (by decide) (fun z => absurd ((k1 q3).1) z) (fun _ => ?_)
      refine wl_aload_n dL_moves_577 rfl ?_
      refine wl_get 0 (.ref (lB Λ)) dL_moves_578 fL_10 rfl rfl ?_
      refine wl_iload dL_moves_581 rfl ?_
      refine wl_callX (As := [.int (nI i)]) (S := []) [] ce dL_moves_583 ML_150 rfl rfl (Nat.le_of_ble_eq_true rfl) ?_
      refine a_highest (i := i) hC (by omega) ?_
      show WZ G (d + 20) (0, 0) μL_moves 586 [.ref (gB G), .int (nI (sN (aS A))), lvU, lvU, .int t0, .int s0, .int v0, lvU, lvU, .ref a3, .ref a4, .ref a5, .long z, lvU, .int st, .int bd, .int c1, .int c2, .int (c3 + (1 : Int32)), .int (nI i), .int (sS (aS A) (11 * i + 21))] [.int (sS (aS A) (11 * i + 28))] (lm G Λ X [(((a1, Sum.inl (gY G 21, sL (aS A), Sum.inl f1)) : Nat × va_E)), (((a2, Sum.inl (gY G 21, sL (aS A), Sum.inl f2)) : Nat × va_E)), (((a3, Sum.inl (gY G 21, sN (aS A), Sum.inl f3)) : Nat × va_E)), (((a4, Sum.inl (gY G 21, sN (aS A), Sum.inl f4)) : Nat × va_E)), (((a5, Sum.inl (gY G 22, 3, Sum.inr (Sum.inl f5))) : Nat × va_E))] m ce) Q
      refine wl_aload dL_moves_586 rfl ?_
      refine wl_iload dL_moves_588 rfl ?_
      refine wl_iald (t0 := 1) 7 i (f4 i) dL_moves_590 rfl rfl rfl (by omega) (by omega) rfl ?_
      refine wl_iload dL_moves_591 rfl ?_
      refine wl_maxI dL_moves_593 AL_35 (Nat.le_of_ble_eq_true rfl) ?_
      refine wl_icmp_ne 669 dL_moves_596 (by decide) (fun z => absurd ((k1 q3).2.1) z) (fun _ => ?_)
      refine wl_iload dL_moves_599 rfl ?_
      refine wl_ldc dL_moves_601 kL_174 ?_
      refine wl_icmp_lt 669 dL_moves_603 (by decide) (fun z => absurd z ((k1 q3).2.2.1)) (fun _ => ?_)
      refine wl_iload dL_moves_606 rfl ?_
      refine wl_ldc dL_moves_608 kL_175 ?_
      refine wl_icmp_gt 669 dL_moves_610 (by decide) (fun z => absurd z ((k1 q3).2.2.2.1)) (fun _ => ?_)
      refine wl_aload_n dL_moves_613 rfl ?_
      refine wl_get 0 (.ref (lB Λ)) dL_moves_614 fL_10 rfl rfl ?_
      refine wl_iload dL_moves_617 rfl ?_
      refine wl_callX (As := [.int (nI i)]) (S := []) [] ce dL_moves_619 ML_176 rfl rfl (Nat.le_of_ble_eq_true rfl) ?_
      refine a_violations (i := i) hC (by omega) ?_
      show WZ G (d + 20) (0, 0) μL_moves 622 [.ref (gB G), .int (nI (sN (aS A))), lvU, lvU, .int t0, .int s0, .int v0, lvU, lvU, .ref a3, .ref a4, .ref a5, .long z, lvU, .int st, .int bd, .int c1, .int c2, .int (c3 + (1 : Int32)), .int (nI i), .int (sS (aS A) (11 * i + 21))] [.int (sS (aS A) (11 * i + 29))] (lm G Λ X [(((a1, Sum.inl (gY G 21, sL (aS A), Sum.inl f1)) : Nat × va_E)), (((a2, Sum.inl (gY G 21, sL (aS A), Sum.inl f2)) : Nat × va_E)), (((a3, Sum.inl (gY G 21, sN (aS A), Sum.inl f3)) : Nat × va_E)), (((a4, Sum.inl (gY G 21, sN (aS A), Sum.inl f4)) : Nat × va_E)), (((a5, Sum.inl (gY G 22, 3, Sum.inr (Sum.inl f5))) : Nat × va_E))] m ce) Q
      refine wl_if_le 629 dL_moves_622 (by decide) (fun q6 => ?_) (fun q6 => ?_)
      · refine wl_iconst (0 : Int32) dL_moves_629 (by decide) ?_
        refine wl_aload_n dL_moves_630 rfl ?_
        refine wl_get 0 (.ref (lB Λ)) dL_moves_631 fL_10 rfl rfl ?_
        refine wl_iload dL_moves_634 rfl ?_
        refine wl_callX (As := [.int (nI i)]) (S := [.int (0 : Int32)]) [] ce dL_moves_636 ML_179 rfl rfl (Nat.le_of_ble_eq_true rfl) ?_
        refine a_firstViolation (i := i) hC (by omega) ?_
        show WZ G (d + 20) (0, 0) μL_moves 639 [.ref (gB G), .int (nI (sN (aS A))), lvU, lvU, .int t0, .int s0, .int v0, lvU, lvU, .ref a3, .ref a4, .ref a5, .long z, lvU, .int st, .int bd, .int c1, .int c2, .int (c3 + (1 : Int32)), .int (nI i), .int (sS (aS A) (11 * i + 21))] [.int (sS (aS A) (11 * i + 30)), .int (0 : Int32)] (lm G Λ X [(((a1, Sum.inl (gY G 21, sL (aS A), Sum.inl f1)) : Nat × va_E)), (((a2, Sum.inl (gY G 21, sL (aS A), Sum.inl f2)) : Nat × va_E)), (((a3, Sum.inl (gY G 21, sN (aS A), Sum.inl f3)) : Nat × va_E)), (((a4, Sum.inl (gY G 21, sN (aS A), Sum.inl f4)) : Nat × va_E)), (((a5, Sum.inl (gY G 22, 3, Sum.inr (Sum.inl f5))) : Nat × va_E))] m ce) Q
        refine wl_if_lt 646 dL_moves_639 (by decide) (fun _ => ?_) (fun z => absurd ((k1 q3).2.2.2.2.2.1 q6) z)
        refine wl_iconst (0 : Int32) dL_moves_646 (by decide) ?_
        refine wl_icmp_ne 669 dL_moves_647 (by decide) (fun z => absurd z (by decide)) (fun _ => ?_)
        refine wl_aload_n dL_moves_650 rfl ?_
        refine wl_get 0 (.ref (lB Λ)) dL_moves_651 fL_10 rfl rfl ?_
        refine wl_iload dL_moves_654 rfl ?_
        refine wl_callX (As := [.int (nI i)]) (S := []) [] ce dL_moves_656 ML_179 rfl rfl (Nat.le_of_ble_eq_true rfl) ?_
        refine a_firstViolation (i := i) hC (by omega) ?_
        show WZ G (d + 20) (0, 0) μL_moves 659 [.ref (gB G), .int (nI (sN (aS A))), lvU, lvU, .int t0, .int s0, .int v0, lvU, lvU, .ref a3, .ref a4, .ref a5, .long z, lvU, .int st, .int bd, .int c1, .int c2, .int (c3 + (1 : Int32)), .int (nI i), .int (sS (aS A) (11 * i + 21))] [.int (sS (aS A) (11 * i + 30))] (lm G Λ X [(((a1, Sum.inl (gY G 21, sL (aS A), Sum.inl f1)) : Nat × va_E)), (((a2, Sum.inl (gY G 21, sL (aS A), Sum.inl f2)) : Nat × va_E)), (((a3, Sum.inl (gY G 21, sN (aS A), Sum.inl f3)) : Nat × va_E)), (((a4, Sum.inl (gY G 21, sN (aS A), Sum.inl f4)) : Nat × va_E)), (((a5, Sum.inl (gY G 22, 3, Sum.inr (Sum.inl f5))) : Nat × va_E))] m ce) Q
        refine wl_aload_n dL_moves_659 rfl ?_
        refine wl_get 0 (.ref (lB Λ)) dL_moves_660 fL_10 rfl rfl ?_
        refine wl_callX (As := []) (S := [.int (sS (aS A) (11 * i + 30))]) [] ce dL_moves_663 ML_129 rfl rfl (Nat.le_of_ble_eq_true rfl) ?_
        refine a_time hC ?_
        show WZ G (d + 20) (0, 0) μL_moves 666 [.ref (gB G), .int (nI (sN (aS A))), lvU, lvU, .int t0, .int s0, .int v0, lvU, lvU, .ref a3, .ref a4, .ref a5, .long z, lvU, .int st, .int bd, .int c1, .int c2, .int (c3 + (1 : Int32)), .int (nI i), .int (sS (aS A) (11 * i + 21))] [.int (sS (aS A) 0), .int (sS (aS A) (11 * i + 30))] (lm G Λ X [(((a1, Sum.inl (gY G 21, sL (aS A), Sum.inl f1)) : Nat × va_E)), (((a2, Sum.inl (gY G 21, sL (aS A), Sum.inl f2)) : Nat × va_E)), (((a3, Sum.inl (gY G 21, sN (aS A), Sum.inl f3)) : Nat × va_E)), (((a4, Sum.inl (gY G 21, sN (aS A), Sum.inl f4)) : Nat × va_E)), (((a5, Sum.inl (gY G 22, 3, Sum.inr (Sum.inl f5))) : Nat × va_E))] m ce) Q
        refine wl_icmp_le 671 dL_moves_666 (by decide) (fun _ => ?_) (fun z => absurd z ((k1 q3).2.2.2.2.2.2))
        refine wl_iinc (nI (i + 1)) dL_moves_671 rfl (by decide) (nadd (a := i) (b := 1) rfl) rfl ?_
        refine wl_goto 516 dL_moves_674 (by decide) ?_
        refine wl_forget [.ref (gB G), .int (nI (sN (aS A))), lvU, lvU, .int t0, .int s0, .int v0, lvU, lvU, .ref a3, .ref a4, .ref a5, .long z, lvU, .int st, .int bd, .int c1, .int c2, .int (c3 + (1 : Int32)), .int (nI (i + 1)), lvU] ⟨Or.inl rfl, Or.inl rfl, Or.inl rfl, Or.inl rfl, Or.inl rfl, Or.inl rfl, Or.inl rfl, Or.inl rfl, Or.inl rfl, Or.inl rfl, Or.inl rfl, Or.inl rfl, Or.inl rfl, Or.inl rfl, Or.inl rfl, Or.inl rfl, Or.inl rfl, Or.inl rfl, Or.inl rfl, Or.inl rfl, Or.inr rfl, trivial⟩ ?_
        exact e4 q3 q4 q6
      · refine wl_iconst (1 : Int32) dL_moves_625 (by decide) ?_
        refine wl_goto 630 dL_moves_626 (by decide) ?_
        refine wl_aload_n dL_moves_630 rfl ?_
        refine wl_get 0 (.ref (lB Λ)) dL_moves_631 fL_10 rfl rfl ?_
        refine wl_iload dL_moves_634 rfl ?_
        refine wl_callX (As := [.int (nI i)]) (S := [.int (1 : Int32)]) [] ce dL_moves_636 ML_179 rfl rfl (Nat.le_of_ble_eq_true rfl) ?_
        refine a_firstViolation (i := i) hC (by omega) ?_
        show WZ G (d + 20) (0, 0) μL_moves 639 [.ref (gB G), .int (nI (sN (aS A))), lvU, lvU, .int t0, .int s0, .int v0, lvU, lvU, .ref a3, .ref a4, .ref a5, .long z, lvU, .int st, .int bd, .int c1, .int c2, .int (c3 + (1 : Int32)), .int (nI i), .int (sS (aS A) (11 * i + 21))] [.int (sS (aS A) (11 * i + 30)), .int (1 : Int32)] (lm G Λ X [(((a1, Sum.inl (gY G 21, sL (aS A), Sum.inl f1)) : Nat × va_E)), (((a2, Sum.inl (gY G 21, sL (aS A), Sum.inl f2)) : Nat × va_E)), (((a3, Sum.inl (gY G 21, sN (aS A), Sum.inl f3)) : Nat × va_E)), (((a4, Sum.inl (gY G 21, sN (aS A), Sum.inl f4)) : Nat × va_E)), (((a5, Sum.inl (gY G 22, 3, Sum.inr (Sum.inl f5))) : Nat × va_E))] m ce) Q
        refine wl_if_lt 646 dL_moves_639 (by decide) (fun z => absurd z ((k1 q3).2.2.2.2.1 q6)) (fun _ => ?_)
        refine wl_iconst (1 : Int32) dL_moves_642 (by decide) ?_
        refine wl_goto 647 dL_moves_643 (by decide) ?_
        refine wl_icmp_ne 669 dL_moves_647 (by decide) (fun z => absurd z (by decide)) (fun _ => ?_)
        refine wl_aload_n dL_moves_650 rfl ?_
        refine wl_get 0 (.ref (lB Λ)) dL_moves_651 fL_10 rfl rfl ?_
        refine wl_iload dL_moves_654 rfl ?_
        refine wl_callX (As := [.int (nI i)]) (S := []) [] ce dL_moves_656 ML_179 rfl rfl (Nat.le_of_ble_eq_true rfl) ?_
        refine a_firstViolation (i := i) hC (by omega) ?_
        show WZ G (d + 20) (0, 0) μL_moves 659 [.ref (gB G), .int (nI (sN (aS A))), lvU, lvU, .int t0, .int s0, .int v0, lvU, lvU, .ref a3, .ref a4, .ref a5, .long z, lvU, .int st, .int bd, .int c1, .int c2, .int (c3 + (1 : Int32)), .int (nI i), .int (sS (aS A) (11 * i + 21))] [.int (sS (aS A) (11 * i + 30))] (lm G Λ X [(((a1, Sum.inl (gY G 21, sL (aS A), Sum.inl f1)) : Nat × va_E)), (((a2, Sum.inl (gY G 21, sL (aS A), Sum.inl f2)) : Nat × va_E)), (((a3, Sum.inl (gY G 21, sN (aS A), Sum.inl f3)) : Nat × va_E)), (((a4, Sum.inl (gY G 21, sN (aS A), Sum.inl f4)) : Nat × va_E)), (((a5, Sum.inl (gY G 22, 3, Sum.inr (Sum.inl f5))) : Nat × va_E))] m ce) Q
        refine wl_aload_n dL_moves_659 rfl ?_
        refine wl_get 0 (.ref (lB Λ)) dL_moves_660 fL_10 rfl rfl ?_
        refine wl_callX (As := []) (S := [.int (sS (aS A) (11 * i + 30))]) [] ce dL_moves_663 ML_129 rfl rfl (Nat.le_of_ble_eq_true rfl) ?_
        refine a_time hC ?_
        show WZ G (d + 20) (0, 0) μL_moves 666 [.ref (gB G), .int (nI (sN (aS A))), lvU, lvU, .int t0, .int s0, .int v0, lvU, lvU, .ref a3, .ref a4, .ref a5, .long z, lvU, .int st, .int bd, .int c1, .int c2, .int (c3 + (1 : Int32)), .int (nI i), .int (sS (aS A) (11 * i + 21))] [.int (sS (aS A) 0), .int (sS (aS A) (11 * i + 30))] (lm G Λ X [(((a1, Sum.inl (gY G 21, sL (aS A), Sum.inl f1)) : Nat × va_E)), (((a2, Sum.inl (gY G 21, sL (aS A), Sum.inl f2)) : Nat × va_E)), (((a3, Sum.inl (gY G 21, sN (aS A), Sum.inl f3)) : Nat × va_E)), (((a4, Sum.inl (gY G 21, sN (aS A), Sum.inl f4)) : Nat × va_E)), (((a5, Sum.inl (gY G 22, 3, Sum.inr (Sum.inl f5))) : Nat × va_E))] m ce) Q
        refine wl_icmp_le 671 dL_moves_666 (by decide) (fun _ => ?_) (fun z => absurd z ((k1 q3).2.2.2.2.2.2))
        refine wl_iinc (nI (i + 1)) dL_moves_671 rfl (by decide) (nadd (a := i) (b := 1) rfl) rfl ?_
        refine wl_goto 516 dL_moves_674 (by decide) ?_
        refine wl_forget [.ref (gB G), .int (nI (sN (aS A))), lvU, lvU, .int t0, .int s0, .int v0, lvU, lvU, .ref a3, .ref a4, .ref a5, .long z, lvU, .int st, .int bd, .int c1, .int c2, .int (c3 + (1 : Int32)), .int (nI (i + 1)), lvU] ⟨Or.inl rfl, Or.inl rfl, Or.inl rfl, Or.inl rfl, Or.inl rfl, Or.inl rfl, Or.inl rfl, Or.inl rfl, Or.inl rfl, Or.inl rfl, Or.inl rfl, Or.inl rfl, Or.inl rfl, Or.inl rfl, Or.inl rfl, Or.inl rfl, Or.inl rfl, Or.inl rfl, Or.inl rfl, Or.inl rfl, Or.inr rfl, trivial⟩ ?_
        exact e5 q3 q4 q6

theorem mo_8 {G : Cx} {d : Nat} {Λ : Lc} {X : Lx} {ext : va_W} {m : Mm} {A : Ab} {ce : List (Nat × Mm)} {Q : Option Value → LM → Prop} {a1 a2 a3 a4 a5 : Nat} {f1 f2 f3 f4 : Nat → Int32} {f5 : Nat → Int64} {t0 s0 v0 : Int32} {i : Nat} {z : Int64} {st bd : Int32} {c1 c2 c3 : Int32} (hC : CIv (atC G (lB Λ) false) m A) (k1 : sS (aS A) 0 = t0 + st) (k2 : upF (sS (aS A)) (sH (aS A)) = c2) (k3 : sS (aS A) 17 = s0 + c1) (k4 : ¬ sS (aS A) 16 < v0) (k5 : 0 < c3 → bd = 1) (k6 : ¬ 0 < c3 → bd = 0) (k7 : sE (aS A) 1 = f5 1 + Int32.toInt64 st * z) (k8 : sE (aS A) 2 = f5 2 + Int32.toInt64 st * Int32.toInt64 c2) (k9 : ¬ sE (aS A) 0 < f5 0)
    (e1 : ¬ 0 < c3 → Q (some (.int (1 : Int32))) (lm G Λ X [(((a1, Sum.inl (gY G 21, sL (aS A), Sum.inl f1)) : Nat × va_E)), (((a2, Sum.inl (gY G 21, sL (aS A), Sum.inl f2)) : Nat × va_E)), (((a3, Sum.inl (gY G 21, sN (aS A), Sum.inl f3)) : Nat × va_E)), (((a4, Sum.inl (gY G 21, sN (aS A), Sum.inl f4)) : Nat × va_E)), (((a5, Sum.inl (gY G 22, 3, Sum.inr (Sum.inl f5))) : Nat × va_E))] m ce))
    (e2 : 0 < c3 → Q (some (.int (1 : Int32))) (lm G Λ X [(((a1, Sum.inl (gY G 21, sL (aS A), Sum.inl f1)) : Nat × va_E)), (((a2, Sum.inl (gY G 21, sL (aS A), Sum.inl f2)) : Nat × va_E)), (((a3, Sum.inl (gY G 21, sN (aS A), Sum.inl f3)) : Nat × va_E)), (((a4, Sum.inl (gY G 21, sN (aS A), Sum.inl f4)) : Nat × va_E)), (((a5, Sum.inl (gY G 22, 3, Sum.inr (Sum.inl f5))) : Nat × va_E))] m ce)) :
    WZ G (d + 20) (0, 0) μL_moves 677 [.ref (gB G), lvU, lvU, lvU, .int t0, .int s0, .int v0, lvU, lvU, lvU, lvU, .ref a5, .long z, lvU, .int st, .int bd, .int c1, .int c2, .int c3, lvU, lvU] [] (lm G Λ X [(((a1, Sum.inl (gY G 21, sL (aS A), Sum.inl f1)) : Nat × va_E)), (((a2, Sum.inl (gY G 21, sL (aS A), Sum.inl f2)) : Nat × va_E)), (((a3, Sum.inl (gY G 21, sN (aS A), Sum.inl f3)) : Nat × va_E)), (((a4, Sum.inl (gY G 21, sN (aS A), Sum.inl f4)) : Nat × va_E)), (((a5, Sum.inl (gY G 22, 3, Sum.inr (Sum.inl f5))) : Nat × va_E))] m ce) Q := by
  have hn12 := hC.nn.2
  have hl6 := hC.nl.2
  have hh8 := hC.nh.2
  refine wl_aload_n dL_moves_677 rfl ?_
  refine wl_get 0 (.ref (lB Λ)) dL_moves_678 fL_10 rfl rfl ?_
  refine wl_callX (As := []) (S := []) [] ce dL_moves_681 ML_129 rfl rfl (Nat.le_of_ble_eq_true rfl) ?_
  refine a_time hC ?_
  show WZ G (d + 20) (0, 0) μL_moves 684 [.ref (gB G), lvU, lvU, lvU, .int t0, .int s0, .int v0, lvU, lvU, lvU, lvU, .ref a5, .long z, lvU, .int st, .int bd, .int c1, .int c2, .int c3, lvU, lvU] [.int (sS (aS A) 0)] (lm G Λ X [(((a1, Sum.inl (gY G 21, sL (aS A), Sum.inl f1)) : Nat × va_E)), (((a2, Sum.inl (gY G 21, sL (aS A), Sum.inl f2)) : Nat × va_E)), (((a3, Sum.inl (gY G 21, sN (aS A), Sum.inl f3)) : Nat × va_E)), (((a4, Sum.inl (gY G 21, sN (aS A), Sum.inl f4)) : Nat × va_E)), (((a5, Sum.inl (gY G 22, 3, Sum.inr (Sum.inl f5))) : Nat × va_E))] m ce) Q
  refine wl_iload dL_moves_684 rfl ?_
  refine wl_iload dL_moves_686 rfl ?_
  refine wl_iadd dL_moves_688 ?_
  refine wl_icmp_ne 746 dL_moves_689 (by decide) (fun z => absurd (k1) z) (fun _ => ?_)
  refine wl_aload_n dL_moves_692 rfl ?_
  refine wl_get 0 (.ref (lB Λ)) dL_moves_693 fL_10 rfl rfl ?_
  refine wl_callX (As := []) (S := []) [] ce dL_moves_696 ML_120 rfl rfl (Nat.le_of_ble_eq_true rfl) ?_
  refine a_usedPower hC ?_
  show WZ G (d + 20) (0, 0) μL_moves 699 [.ref (gB G), lvU, lvU, lvU, .int t0, .int s0, .int v0, lvU, lvU, lvU, lvU, .ref a5, .long z, lvU, .int st, .int bd, .int c1, .int c2, .int c3, lvU, lvU] [.int (upF (sS (aS A)) (sH (aS A)))] (lm G Λ X [(((a1, Sum.inl (gY G 21, sL (aS A), Sum.inl f1)) : Nat × va_E)), (((a2, Sum.inl (gY G 21, sL (aS A), Sum.inl f2)) : Nat × va_E)), (((a3, Sum.inl (gY G 21, sN (aS A), Sum.inl f3)) : Nat × va_E)), (((a4, Sum.inl (gY G 21, sN (aS A), Sum.inl f4)) : Nat × va_E)), (((a5, Sum.inl (gY G 22, 3, Sum.inr (Sum.inl f5))) : Nat × va_E))] m ce) Q
  refine wl_iload dL_moves_699 rfl ?_
  refine wl_icmp_ne 746 dL_moves_701 (by decide) (fun z => absurd (k2) z) (fun _ => ?_)
  refine wl_aload_n dL_moves_704 rfl ?_
  refine wl_get 0 (.ref (lB Λ)) dL_moves_705 fL_10 rfl rfl ?_
  refine wl_callX (As := []) (S := []) [] ce dL_moves_708 ML_132 rfl rfl (Nat.le_of_ble_eq_true rfl) ?_
  refine a_shedCount hC ?_
  show WZ G (d + 20) (0, 0) μL_moves 711 [.ref (gB G), lvU, lvU, lvU, .int t0, .int s0, .int v0, lvU, lvU, lvU, lvU, .ref a5, .long z, lvU, .int st, .int bd, .int c1, .int c2, .int c3, lvU, lvU] [.int (sS (aS A) 17)] (lm G Λ X [(((a1, Sum.inl (gY G 21, sL (aS A), Sum.inl f1)) : Nat × va_E)), (((a2, Sum.inl (gY G 21, sL (aS A), Sum.inl f2)) : Nat × va_E)), (((a3, Sum.inl (gY G 21, sN (aS A), Sum.inl f3)) : Nat × va_E)), (((a4, Sum.inl (gY G 21, sN (aS A), Sum.inl f4)) : Nat × va_E)), (((a5, Sum.inl (gY G 22, 3, Sum.inr (Sum.inl f5))) : Nat × va_E))] m ce) Q
  refine wl_iload dL_moves_711 rfl ?_
  refine wl_iload dL_moves_713 rfl ?_
  refine wl_iadd dL_moves_715 ?_
  refine wl_icmp_ne 746 dL_moves_716 (by decide) (fun z => absurd (k3) z) (fun _ => ?_)
  refine wl_aload_n dL_moves_719 rfl ?_
  refine wl_get 0 (.ref (lB Λ)) dL_moves_720 fL_10 rfl rfl ?_
  refine wl_callX (As := []) (S := []) [] ce dL_moves_723 ML_135 rfl rfl (Nat.le_of_ble_eq_true rfl) ?_
  refine a_violatorCount hC ?_
  show WZ G (d + 20) (0, 0) μL_moves 726 [.ref (gB G), lvU, lvU, lvU, .int t0, .int s0, .int v0, lvU, lvU, lvU, lvU, .ref a5, .long z, lvU, .int st, .int bd, .int c1, .int c2, .int c3, lvU, lvU] [.int (sS (aS A) 16)] (lm G Λ X [(((a1, Sum.inl (gY G 21, sL (aS A), Sum.inl f1)) : Nat × va_E)), (((a2, Sum.inl (gY G 21, sL (aS A), Sum.inl f2)) : Nat × va_E)), (((a3, Sum.inl (gY G 21, sN (aS A), Sum.inl f3)) : Nat × va_E)), (((a4, Sum.inl (gY G 21, sN (aS A), Sum.inl f4)) : Nat × va_E)), (((a5, Sum.inl (gY G 22, 3, Sum.inr (Sum.inl f5))) : Nat × va_E))] m ce) Q
  refine wl_iload dL_moves_726 rfl ?_
  refine wl_icmp_lt 746 dL_moves_728 (by decide) (fun z => absurd z (k4)) (fun _ => ?_)
  refine wl_iload dL_moves_731 rfl ?_
  refine wl_iload dL_moves_733 rfl ?_
  refine wl_if_le 742 dL_moves_735 (by decide) (fun q1 => ?_) (fun q1 => ?_)
  · refine wl_iconst (0 : Int32) dL_moves_742 (by decide) ?_
    refine wl_icmp_eq 748 dL_moves_743 (by decide) (fun _ => ?_) (fun z => absurd (k6 q1) z)
    refine wl_aload_n dL_moves_748 rfl ?_
    refine wl_get 0 (.ref (lB Λ)) dL_moves_749 fL_10 rfl rfl ?_
    refine wl_iconst (1 : Int32) dL_moves_752 (by decide) ?_
    refine wl_callX (As := [.int (1 : Int32)]) (S := []) [] ce dL_moves_753 ML_138 rfl rfl (Nat.le_of_ble_eq_true rfl) ?_
    refine a_energy1 hC ?_
    show WZ G (d + 20) (0, 0) μL_moves 756 [.ref (gB G), lvU, lvU, lvU, .int t0, .int s0, .int v0, lvU, lvU, lvU, lvU, .ref a5, .long z, lvU, .int st, .int bd, .int c1, .int c2, .int c3, lvU, lvU] [.long (sE (aS A) 1)] (lm G Λ X [(((a1, Sum.inl (gY G 21, sL (aS A), Sum.inl f1)) : Nat × va_E)), (((a2, Sum.inl (gY G 21, sL (aS A), Sum.inl f2)) : Nat × va_E)), (((a3, Sum.inl (gY G 21, sN (aS A), Sum.inl f3)) : Nat × va_E)), (((a4, Sum.inl (gY G 21, sN (aS A), Sum.inl f4)) : Nat × va_E)), (((a5, Sum.inl (gY G 22, 3, Sum.inr (Sum.inl f5))) : Nat × va_E))] m ce) Q
    refine wl_aload dL_moves_756 rfl ?_
    refine wl_iconst (1 : Int32) dL_moves_758 (by decide) ?_
    refine wl_lald (t0 := 2) 8 1 (f5 1) dL_moves_759 rfl rfl rfl (by omega) (by omega) rfl ?_
    refine wl_iload dL_moves_760 rfl ?_
    refine wl_i2l dL_moves_762 ?_
    refine wl_lload dL_moves_763 rfl ?_
    refine wl_lmul dL_moves_765 ?_
    refine wl_ladd dL_moves_766 ?_
    refine wl_lc_ne 815 dL_moves_767 dL_moves_768 (by decide) (fun z => absurd (k7) z) (fun _ => ?_)
    refine wl_aload_n dL_moves_771 rfl ?_
    refine wl_get 0 (.ref (lB Λ)) dL_moves_772 fL_10 rfl rfl ?_
    refine wl_iconst (2 : Int32) dL_moves_775 (by decide) ?_
    refine wl_callX (As := [.int (2 : Int32)]) (S := []) [] ce dL_moves_776 ML_138 rfl rfl (Nat.le_of_ble_eq_true rfl) ?_
    refine a_energy2 hC ?_
    show WZ G (d + 20) (0, 0) μL_moves 779 [.ref (gB G), lvU, lvU, lvU, .int t0, .int s0, .int v0, lvU, lvU, lvU, lvU, .ref a5, .long z, lvU, .int st, .int bd, .int c1, .int c2, .int c3, lvU, lvU] [.long (sE (aS A) 2)] (lm G Λ X [(((a1, Sum.inl (gY G 21, sL (aS A), Sum.inl f1)) : Nat × va_E)), (((a2, Sum.inl (gY G 21, sL (aS A), Sum.inl f2)) : Nat × va_E)), (((a3, Sum.inl (gY G 21, sN (aS A), Sum.inl f3)) : Nat × va_E)), (((a4, Sum.inl (gY G 21, sN (aS A), Sum.inl f4)) : Nat × va_E)), (((a5, Sum.inl (gY G 22, 3, Sum.inr (Sum.inl f5))) : Nat × va_E))] m ce) Q
    refine wl_aload dL_moves_779 rfl ?_
    refine wl_iconst (2 : Int32) dL_moves_781 (by decide) ?_
    refine wl_lald (t0 := 2) 8 2 (f5 2) dL_moves_782 rfl rfl rfl (by omega) (by omega) rfl ?_
    refine wl_iload dL_moves_783 rfl ?_
    refine wl_i2l dL_moves_785 ?_
    refine wl_iload dL_moves_786 rfl ?_
    refine wl_i2l dL_moves_788 ?_
    refine wl_lmul dL_moves_789 ?_
    refine wl_ladd dL_moves_790 ?_
    refine wl_lc_ne 815 dL_moves_791 dL_moves_792 (by decide) (fun z => absurd (k8) z) (fun _ => ?_)
    refine wl_aload_n dL_moves_795 rfl ?_
    refine wl_get 0 (.ref (lB Λ)) dL_moves_796 fL_10 rfl rfl ?_
    refine wl_iconst (0 : Int32) dL_moves_799 (by decide) ?_
    refine wl_callX (As := [.int (0 : Int32)]) (S := []) [] ce dL_moves_800 ML_138 rfl rfl (Nat.le_of_ble_eq_true rfl) ?_
    refine a_energy0 hC ?_
    show WZ G (d + 20) (0, 0) μL_moves 803 [.ref (gB G), lvU, lvU, lvU, .int t0, .int s0, .int v0, lvU, lvU, lvU, lvU, .ref a5, .long z, lvU, .int st, .int bd, .int c1, .int c2, .int c3, lvU, lvU] [.long (sE (aS A) 0)] (lm G Λ X [(((a1, Sum.inl (gY G 21, sL (aS A), Sum.inl f1)) : Nat × va_E)), (((a2, Sum.inl (gY G 21, sL (aS A), Sum.inl f2)) : Nat × va_E)), (((a3, Sum.inl (gY G 21, sN (aS A), Sum.inl f3)) : Nat × va_E)), (((a4, Sum.inl (gY G 21, sN (aS A), Sum.inl f4)) : Nat × va_E)), (((a5, Sum.inl (gY G 22, 3, Sum.inr (Sum.inl f5))) : Nat × va_E))] m ce) Q
    refine wl_aload dL_moves_803 rfl ?_
    refine wl_iconst (0 : Int32) dL_moves_805 (by decide) ?_
    refine wl_lald (t0 := 2) 8 0 (f5 0) dL_moves_806 rfl rfl rfl (by omega) (by omega) rfl ?_
    refine wl_lc_lt 815 dL_moves_807 dL_moves_808 (by decide) (fun z => absurd z (k9)) (fun _ => ?_)
    refine wl_iconst (1 : Int32) dL_moves_811 (by decide) ?_
    refine wl_goto 816 dL_moves_812 (by decide) ?_
    exact wl_zret dL_moves_816 rfl rfl (e1 q1)
  · refine wl_iconst (1 : Int32) dL_moves_738 (by decide) ?_
    refine wl_goto 743 dL_moves_739 (by decide) ?_
    refine wl_icmp_eq 748 dL_moves_743 (by decide) (fun _ => ?_) (fun z => absurd (k5 q1) z)
    refine wl_aload_n dL_moves_748 rfl ?_
    refine wl_get 0 (.ref (lB Λ)) dL_moves_749 fL_10 rfl rfl ?_
    refine wl_iconst (1 : Int32) dL_moves_752 (by decide) ?_
    refine wl_callX (As := [.int (1 : Int32)]) (S := []) [] ce dL_moves_753 ML_138 rfl rfl (Nat.le_of_ble_eq_true rfl) ?_
    refine a_energy1 hC ?_
    show WZ G (d + 20) (0, 0) μL_moves 756 [.ref (gB G), lvU, lvU, lvU, .int t0, .int s0, .int v0, lvU, lvU, lvU, lvU, .ref a5, .long z, lvU, .int st, .int bd, .int c1, .int c2, .int c3, lvU, lvU] [.long (sE (aS A) 1)] (lm G Λ X [(((a1, Sum.inl (gY G 21, sL (aS A), Sum.inl f1)) : Nat × va_E)), (((a2, Sum.inl (gY G 21, sL (aS A), Sum.inl f2)) : Nat × va_E)), (((a3, Sum.inl (gY G 21, sN (aS A), Sum.inl f3)) : Nat × va_E)), (((a4, Sum.inl (gY G 21, sN (aS A), Sum.inl f4)) : Nat × va_E)), (((a5, Sum.inl (gY G 22, 3, Sum.inr (Sum.inl f5))) : Nat × va_E))] m ce) Q
    refine wl_aload dL_moves_756 rfl ?_
    refine wl_iconst (1 : Int32) dL_moves_758 (by decide) ?_
    refine wl_lald (t0 := 2) 8 1 (f5 1) dL_moves_759 rfl rfl rfl (by omega) (by omega) rfl ?_
    refine wl_iload dL_moves_760 rfl ?_
    refine wl_i2l dL_moves_762 ?_
    refine wl_lload dL_moves_763 rfl ?_
    refine wl_lmul dL_moves_765 ?_
    refine wl_ladd dL_moves_766 ?_
    refine wl_lc_ne 815 dL_moves_767 dL_moves_768 (by decide) (fun z => absurd (k7) z) (fun _ => ?_)
    refine wl_aload_n dL_moves_771 rfl ?_
    refine wl_get 0 (.ref (lB Λ)) dL_moves_772 fL_10 rfl rfl ?_
    refine wl_iconst (2 : Int32) dL_moves_775 (by decide) ?_
    refine wl_callX (As := [.int (2 : Int32)]) (S := []) [] ce dL_moves_776 ML_138 rfl rfl (Nat.le_of_ble_eq_true rfl) ?_
    refine a_energy2 hC ?_
    show WZ G (d + 20) (0, 0) μL_moves 779 [.ref (gB G), lvU, lvU, lvU, .int t0, .int s0, .int v0, lvU, lvU, lvU, lvU, .ref a5, .long z, lvU, .int st, .int bd, .int c1, .int c2, .int c3, lvU, lvU] [.long (sE (aS A) 2)] (lm G Λ X [(((a1, Sum.inl (gY G 21, sL (aS A), Sum.inl f1)) : Nat × va_E)), (((a2, Sum.inl (gY G 21, sL (aS A), Sum.inl f2)) : Nat × va_E)), (((a3, Sum.inl (gY G 21, sN (aS A), Sum.inl f3)) : Nat × va_E)), (((a4, Sum.inl (gY G 21, sN (aS A), Sum.inl f4)) : Nat × va_E)), (((a5, Sum.inl (gY G 22, 3, Sum.inr (Sum.inl f5))) : Nat × va_E))] m ce) Q
    refine wl_aload dL_moves_779 rfl ?_
    refine wl_iconst (2 : Int32) dL_moves_781 (by decide) ?_
    refine wl_lald (t0 := 2) 8 2 (f5 2) dL_moves_782 rfl rfl rfl (by omega) (by omega) rfl ?_
    refine wl_iload dL_moves_783 rfl ?_
    refine wl_i2l dL_moves_785 ?_
    refine wl_iload dL_moves_786 rfl ?_
    refine wl_i2l dL_moves_788 ?_
    refine wl_lmul dL_moves_789 ?_
    refine wl_ladd dL_moves_790 ?_
    refine wl_lc_ne 815 dL_moves_791 dL_moves_792 (by decide) (fun z => absurd (k8) z) (fun _ => ?_)
    refine wl_aload_n dL_moves_795 rfl ?_
    refine wl_get 0 (.ref (lB Λ)) dL_moves_796 fL_10 rfl rfl ?_
    refine wl_iconst (0 : Int32) dL_moves_799 (by decide) ?_
    refine wl_callX (As := [.int (0 : Int32)]) (S := []) [] ce dL_moves_800 ML_138 rfl rfl (Nat.le_of_ble_eq_true rfl) ?_
    refine a_energy0 hC ?_
    show WZ G (d + 20) (0, 0) μL_moves 803 [.ref (gB G), lvU, lvU, lvU, .int t0, .int s0, .int v0, lvU, lvU, lvU, lvU, .ref a5, .long z, lvU, .int st, .int bd, .int c1, .int c2, .int c3, lvU, lvU] [.long (sE (aS A) 0)] (lm G Λ X [(((a1, Sum.inl (gY G 21, sL (aS A), Sum.inl f1)) : Nat × va_E)), (((a2, Sum.inl (gY G 21, sL (aS A), Sum.inl f2)) : Nat × va_E)), (((a3, Sum.inl (gY G 21, sN (aS A), Sum.inl f3)) : Nat × va_E)), (((a4, Sum.inl (gY G 21, sN (aS A), Sum.inl f4)) : Nat × va_E)), (((a5, Sum.inl (gY G 22, 3, Sum.inr (Sum.inl f5))) : Nat × va_E))] m ce) Q
    refine wl_aload dL_moves_803 rfl ?_
    refine wl_iconst (0 : Int32) dL_moves_805 (by decide) ?_
    refine wl_lald (t0 := 2) 8 0 (f5 0) dL_moves_806 rfl rfl rfl (by omega) (by omega) rfl ?_
    refine wl_lc_lt 815 dL_moves_807 dL_moves_808 (by decide) (fun z => absurd z (k9)) (fun _ => ?_)
    refine wl_iconst (1 : Int32) dL_moves_811 (by decide) ?_
    refine wl_goto 816 dL_moves_812 (by decide) ?_
    exact wl_zret dL_moves_816 rfl rfl (e2 q1)

