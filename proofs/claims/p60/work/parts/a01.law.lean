/-! THE LAW'S LEVEL: words of its own, and crafts at their own bases -/
abbrev LM : Type := va_W × List (Nat × Mm)
def atC (G : Cx) (B : Nat) (M : Bool) : Cx := (gL G, gD G, gY G, B, gK G, gV G, gSa G, gSl G, gSx G, M)
def crf (G : Cx) (cs : List (Nat × Mm)) : va_W := cs.flatMap (fun c => wld (atC G c.1 false) c.2)
def ful (G : Cx) (M : LM) : va_W := M.1 ++ crf G M.2
/-- the addresses are apart, and at base or above -/
def Apt (b : Nat) (as : List Nat) : Prop := as.Nodup ∧ ∀ a ∈ as, b ≤ a
def RepL (G : Cx) (M : LM) (H : Heap) : Prop := gM G = true ∧ va_P (gD G) classes (ful G M) H ∧ Apt (gB G) ((ful G M).map Prod.fst) ∧ ∀ c ∈ M.2, mN c.2 = 293
theorem Apt.D {b : Nat} {ws : va_W} (h : Apt b (ws.map Prod.fst)) {A : Nat → Prop} (hA : ∀ q, b ≤ q → A q) : va_D A ws := by
  refine ⟨fun i j p q hp hq e => ?_, fun k q hk => hA _ (h.2 _ (List.mem_map.mpr ⟨q, List.mem_of_getElem? hk, rfl⟩))⟩
  have hi : i < (ws.map Prod.fst).length := by
    rw [List.length_map]
    exact (List.getElem?_eq_some_iff.mp hp).1
  refine (List.getElem?_inj hi h.1).mp ?_
  rw [List.getElem?_map, List.getElem?_map, hp, hq]
  exact congrArg some e
theorem RepL.P {G : Cx} {M : LM} {H : Heap} (h : RepL G M H) : va_P (gD G) classes (ful G M) H := h.2.1
theorem RepL.D {G : Cx} {M : LM} {H : Heap} (h : RepL G M H) : va_D (fr G) (ful G M) := h.2.2.1.D (fun q hq => ⟨hq, Or.inl h.1⟩)
/-- a word written -/
theorem RepL.set {G : Cx} {ws ws' : va_W} {cs : List (Nat × Mm)} {H H1 : Heap} {q0 a : Nat} {e0 e : va_E} (h : RepL G (ws, cs) H) (hq : ws[q0]? = some (a, e0)) (hs : ws.set q0 (a, e) = ws') (hP : va_P (gD G) classes ((ful G (ws, cs)).set q0 (a, e)) H1) : RepL G (ws', cs) H1 := by
  have hl : q0 < ws.length := (List.getElem?_eq_some_iff.mp hq).1
  have e1 : (ful G (ws, cs)).set q0 (a, e) = ful G (ws', cs) := by
    show (ws ++ crf G cs).set q0 (a, e) = ws' ++ crf G cs
    rw [List.set_append_left _ _ hl, hs]
  refine ⟨h.1, by rw [← e1]; exact hP, ?_, h.2.2.2⟩
  have e2 : (ful G (ws', cs)).map Prod.fst = (ful G (ws, cs)).map Prod.fst := by
    rw [← e1, List.map_set]
    apply List.ext_getElem?
    intro i
    by_cases hi : i = q0
    · subst hi
      have hl2 : i < ((ful G (ws, cs)).map Prod.fst).length := by
        rw [List.length_map]
        show i < (ws ++ crf G cs).length
        rw [List.length_append]
        omega
      rw [List.getElem?_set_self hl2, List.getElem?_map]
      show some a = ((ws ++ crf G cs)[i]?).map Prod.fst
      rw [List.getElem?_append_left hl, hq]
      rfl
    · rw [List.getElem?_set_ne (Ne.symm hi)]
  rw [e2]
  exact h.2.2.1
theorem RepL.at {G : Cx} {ws : va_W} {cs : List (Nat × Mm)} {q0 : Nat} {w : Nat × va_E} (hq : ws[q0]? = some w) : (ful G (ws, cs))[q0]? = some w := by
  show (ws ++ crf G cs)[q0]? = some w
  rw [List.getElem?_append_left (List.getElem?_eq_some_iff.mp hq).1]
  exact hq
/-- a word more -/
theorem RepL.new {G : Cx} {ws : va_W} {cs : List (Nat × Mm)} {H H1 : Heap} {e : va_E} (h : RepL G (ws, cs) H) (hb : gB G ≤ H.size) (hat : va_at (gD G) classes (H.size, e) H1) (o : ∀ q : Nat, q < H.size → H1[q]? = H[q]?) : RepL G (ws ++ [(H.size, e)], cs) H1 := by
  obtain ⟨h1, h2, h3, h4⟩ := h
  have hlt : ∀ x ∈ ful G (ws, cs), x.1 < H.size := fun x hx => by
    obtain ⟨i, hi⟩ := List.getElem?_of_mem hx
    exact (h2 i x hi).lt
  refine ⟨h1, fun k q hk => ?_, ?_, h4⟩
  · have hm : q ∈ (ws ++ [(H.size, e)]) ++ crf G cs := List.mem_of_getElem? hk
    rw [List.mem_append, List.mem_append, List.mem_singleton] at hm
    have key : q ∈ ful G (ws, cs) → va_at (gD G) classes q H1 := fun hq => by
      obtain ⟨i, hi⟩ := List.getElem?_of_mem hq
      exact (h2 i q hi).kept (o _ (hlt q hq))
    rcases hm with (hm | hm) | hm
    · exact key (List.mem_append_left _ hm)
    · rw [hm]
      exact hat
    · exact key (List.mem_append_right _ hm)
  · have hp : (ful G (ws ++ [(H.size, e)], cs)).Perm ((H.size, e) :: ful G (ws, cs)) := by
      show ((ws ++ [(H.size, e)]) ++ crf G cs).Perm ((H.size, e) :: (ws ++ crf G cs))
      rw [List.append_assoc]
      exact List.perm_middle
    have hp2 := hp.map Prod.fst
    refine ⟨(hp2.nodup_iff).mpr (List.nodup_cons.mpr ⟨fun hx => ?_, h3.1⟩), fun a ha => ?_⟩
    · obtain ⟨x, hx1, hx2⟩ := List.mem_map.mp hx
      have := hlt x hx1
      omega
    · rcases List.mem_cons.mp (hp2.mem_iff.mp ha) with e | e
      · rw [e]
        exact hb
      · exact h3.2 a e
/-- a craft of the law's world, at its own base -/
theorem RepL.rep {G : Cx} {ws : va_W} {cs1 cs2 : List (Nat × Mm)} {B : Nat} {m : Mm} {H : Heap} (h : RepL G (ws, cs1 ++ (B, m) :: cs2) H) : Rep (atC G B false) m H ∧ gB G ≤ B := by
  obtain ⟨h1, h2, h3, h4⟩ := h
  have hm : mN m = 293 := h4 (B, m) (List.mem_append_right _ List.mem_cons_self)
  have hsub : ∀ x ∈ wld (atC G B false) m, x ∈ ful G (ws, cs1 ++ (B, m) :: cs2) := fun x hx => by
    refine List.mem_append_right _ ?_
    unfold crf
    rw [List.mem_flatMap]
    exact ⟨(B, m), List.mem_append_right _ List.mem_cons_self, hx⟩
  have hP : va_P (gD (atC G B false)) classes (wld (atC G B false) m) H := fun k q hk => by
    obtain ⟨i, hi⟩ := List.getElem?_of_mem (hsub q (List.mem_of_getElem? hk))
    exact h2 i q hi
  have e0 := wld_at (G := atC G B false) (m := m) (j := 292) (by omega)
  have l0 := (hP 292 _ e0).lt
  have e1 := wld_at (G := atC G B false) (m := m) (j := 0) (by omega)
  refine ⟨⟨hP, fun hM => (by cases hM), fun _ => ⟨hm, ?_⟩⟩, ?_⟩
  · show B + 293 ≤ H.size
    have : B + 292 < H.size := l0
    omega
  · exact h3.2 _ (List.mem_map.mpr ⟨_, hsub _ (List.mem_of_getElem? e1), rfl⟩)
theorem wld_fst {G : Cx} {m m' : Mm} (h : mN m' = mN m) : (wld G m').map Prod.fst = (wld G m).map Prod.fst := by
  unfold wld
  rw [h, List.map_map, List.map_map]
  rfl
theorem fr_at {G : Cx} {B a : Nat} (h : fr (atC G B false) a) : B ≤ a ∧ a < B + 293 := ⟨h.1, h.2.resolve_left (fun z => by cases z)⟩
/-- a craft's own cells changed -/
theorem RepL.upd {G : Cx} {ws : va_W} {cs1 cs2 : List (Nat × Mm)} {B : Nat} {m m' : Mm} {H H1 : Heap} (h : RepL G (ws, cs1 ++ (B, m) :: cs2) H) (hR : Rep (atC G B false) m' H1) (o : ∀ q : Nat, q < H.size → ¬ fr (atC G B false) q → H1[q]? = H[q]?) : RepL G (ws, cs1 ++ (B, m') :: cs2) H1 := by
  obtain ⟨h1, h2, h3, h4⟩ := h
  have hm : mN m = 293 := h4 (B, m) (List.mem_append_right _ List.mem_cons_self)
  have hm' : mN m' = 293 := (hR.2.2 rfl).1
  have ef : ∀ x, ful G (ws, cs1 ++ (B, x) :: cs2) = (ws ++ crf G cs1) ++ (wld (atC G B false) x ++ crf G cs2) := fun x => by
    show ws ++ crf G (cs1 ++ (B, x) :: cs2) = _
    unfold crf
    rw [List.flatMap_append, List.flatMap_cons, List.append_assoc]
  have emap : (ful G (ws, cs1 ++ (B, m') :: cs2)).map Prod.fst = (ful G (ws, cs1 ++ (B, m) :: cs2)).map Prod.fst := by
    rw [ef, ef]
    simp only [List.map_append]
    rw [wld_fst (hm'.trans hm.symm)]
  have hn : ∀ x ∈ (ws ++ crf G cs1) ++ crf G cs2, ¬ fr (atC G B false) x.1 := fun x hx hf => by
    obtain ⟨g1, g2⟩ := fr_at hf
    obtain ⟨j, hj⟩ : ∃ j, x.1 = B + j := ⟨x.1 - B, by omega⟩
    have hin : x.1 ∈ (wld (atC G B false) m).map Prod.fst := by
      refine List.mem_map.mpr ⟨_, List.mem_of_getElem? (wld_at (G := atC G B false) (m := m) (j := j) (by omega)), ?_⟩
      exact hj.symm
    have hnd := h3.1
    have ha : ∃ X, X = (ws ++ crf G cs1).map Prod.fst := ⟨_, rfl⟩
    obtain ⟨X, hX⟩ := ha
    rw [ef, List.map_append, ← hX, List.map_append, List.nodup_append] at hnd
    obtain ⟨d1, d2, d3⟩ := hnd
    rw [hX] at d3
    rcases List.mem_append.mp hx with hx | hx
    · exact d3 _ (List.mem_map.mpr ⟨x, hx, rfl⟩) _ (List.mem_append_left _ hin) rfl
    · rw [List.nodup_append] at d2
      exact d2.2.2 _ hin _ (List.mem_map.mpr ⟨x, hx, rfl⟩) rfl
  have hkeep : ∀ x ∈ (ws ++ crf G cs1) ++ crf G cs2, va_at (gD G) classes x H1 := fun x hx => by
    have hx' : x ∈ ful G (ws, cs1 ++ (B, m) :: cs2) := by
      rw [ef]
      rcases List.mem_append.mp hx with hx | hx
      · exact List.mem_append_left _ hx
      · exact List.mem_append_right _ (List.mem_append_right _ hx)
    obtain ⟨i, hi⟩ := List.getElem?_of_mem hx'
    exact (h2 i x hi).kept (o _ (h2 i x hi).lt (hn x hx))
  refine ⟨h1, fun k q hk => ?_, by rw [emap]; exact h3, fun c hc => ?_⟩
  · have hq := List.mem_of_getElem? hk
    rw [ef] at hq
    rcases List.mem_append.mp hq with hq | hq
    · exact hkeep q (List.mem_append_left _ hq)
    · rcases List.mem_append.mp hq with hq | hq
      · obtain ⟨i, hi⟩ := List.getElem?_of_mem hq
        exact hR.1 i q hi
      · exact hkeep q (List.mem_append_right _ hq)
  · rcases List.mem_append.mp hc with hc | hc
    · exact h4 c (List.mem_append_left _ hc)
    · rcases List.mem_cons.mp hc with hc | hc
      · rw [hc]
        exact hm'
      · exact h4 c (List.mem_append_right _ (List.mem_cons_of_mem _ hc))
theorem EnvOK.at {G : Cx} {B : Nat} {M : Bool} {s : State} (h : EnvOK G s) (hb : gB G ≤ B) (hs : B ≤ s.heap.size) : EnvOK (atC G B M) s := by
  obtain ⟨h1, h2, h3, ⟨cf, kf, fi', f, a, cell, z1, z2, z3, z4, z5, z6, z7, z8⟩, ⟨q, h5r, ⟨cf', kf', fi'', f', a', cell', y1, y2, y3, y4, y5, y6, y7, y8⟩, t, ⟨cg, kg, fg, g, ag, celg, w1, w2, w3, w4, w5, w6, w7, w8⟩, ⟨celt, u1, u2, u3, u4, u5, u6, u7⟩⟩, h6, h7, h8, h9, h10⟩ := h
  have n : ∀ a, ¬ ab G a → ¬ ab (atC G B M) a := fun a ha hz => ha (Nat.le_trans hb hz)
  refine ⟨h1, ⟨fun i hi => ?_, h2.2⟩, h3, ⟨cf, kf, fi', f, a, cell, z1, z2, z3, z4, z5, z6, z7, n _ z8⟩, ⟨q, h5r, ⟨cf', kf', fi'', f', a', cell', y1, y2, y3, y4, y5, y6, y7, n _ y8⟩, t, ⟨cg, kg, fg, g, ag, celg, w1, w2, w3, w4, w5, w6, w7, n _ w8⟩, ⟨celt, u1, u2, u3, u4, u5, u6, n _ u7⟩⟩, h6, h7, hs, h9, Nat.lt_of_lt_of_le h10 hb⟩
  obtain ⟨⟨c1, a1, a2, a3, a4⟩, ⟨c2, k2, i2, f2, e2, b1, b2, b3, b4, b5, b6⟩, ⟨c3, k3, i3, f3, e3, d1, d2, d3, d4, d5, d6⟩, ⟨c4, g1, g2, g3, g4, g5, g6, g7⟩⟩ := h2.1 i hi
  exact ⟨⟨c1, a1, a2, a3, n _ a4⟩, ⟨c2, k2, i2, f2, e2, b1, b2, b3, b4, b5, n _ b6⟩, ⟨c3, k3, i3, f3, e3, d1, d2, d3, d4, d5, n _ d6⟩, ⟨c4, g1, g2, g3, g4, g5, g6, n _ g7⟩⟩
def QmL (G : Cx) (Q : Option Value → LM → Prop) : Array Value → State → Outcome → State → Prop := fun _ st o t => (∃ (r : Option Value) (m' : LM), Q r m' ∧ o = .returned r ∧ RepL G m' t.heap) ∧ va_F (fr G) st t
def WZ (G : Cx) (d : Nat) (b : Nat × Nat) (μ : MI) (pc : Nat) (L S : List Value) (m : LM) (Q : Option Value → LM → Prop) : Prop :=
  ∀ (p : Program) (e : Env) (R : Room) (s : State) (mi : MethodId) (args : Array Value) (below : List Frame) (meth : Method) (c : Code) (H : Heap) (locs : List Loc) (cells slots : Nat) (ls : Array Slot),
    Fx G d b μ p R s mi args meth c cells slots → RepL G m H → va_S (fr G) s.heap H locs → LV ls μ.2.2.1 L →
    W p (gL G) e R s mi args below meth c H locs cells slots (MQ below (QmL G Q) args s (cells + b.1) (slots + b.2) (fr G)) (F0 mi pc ls S)
def PcxL (G : Cx) (As : List Value) (m : LM) : Array Value → State → Prop := va_Pc As (fun U => RepL G m U.heap ∧ EnvOK G U)
def WZM (G : Cx) (d : Nat) (b : Nat × Nat) (μ : MI) (As : List Value) (m : LM) (Q : Option Value → LM → Prop) : Prop :=
  Met (gL G) μ.1 (wsM μ) (rmD d b) (PcxL G As m) (QmL G Q) b.1 b.2 (fr G)
theorem WZM.of {G : Cx} {d : Nat} {b : Nat × Nat} {μ : MI} {As L : List Value} {m : LM} {Q : Option Value → LM → Prop} (hp : plainName μ.1.cls = true) (hn : (lg_sl As).length ≤ μ.2.2.1) (hL : iniL As μ.2.2.1 = L) (k : WZ G d b μ 0 L [] m Q) : WZM G d b μ As m Q := by
  subst hL
  refine Met.ofW (cc := μ.2.1) (maxL := μ.2.2.1) (ret := μ.2.2.2) (ws' := tbG) hp rfl ?_
  intro p e s mi args below meth c s₁ B hml hv
  obtain ⟨rfl, hR, hE⟩ := hv
  have hts := atoms_spec (ws := wsM μ) B.pre
  have h := k p e (rmD d b) s mi As.toArray below meth c s.heap [] 0 0 _ ⟨B.exec, B.bytes, hml, B.returns, findClass_of_methodNamed B.named, fun w hw => hts w (List.mem_cons_of_mem _ hw), B.notSynchronized, ⟨fun h => (name_of_methodNamed B.named B.method).1.trans h, Or.inr hR.1⟩, ⟨Nat.le_refl _, Nat.le_refl _, by simp [rmD], by simp [rmD]⟩, hE⟩ hR va_S.rf (LV.entry As hn)
  rw [Nat.zero_add, Nat.zero_add] at h
  rw [lg_entry_eq]
  exact h
theorem PcxL.blind {G : Cx} {As : List Value} {m : LM} : FrameBlind (PcxL G As m) := by
  intro a U g mk q
  obtain ⟨h1, h2, h3⟩ := q
  exact ⟨h1, h2, h3.warm (U := U.calling g mk a) (State.WarmedH.refl U) (fun _ _ _ => rfl) h3.2.2.2.2.2.2.2.1⟩
theorem Fx.preL {G : Cx} {d : Nat} {b : Nat × Nat} {μ : MI} {p : Program} {R : Room} {s : State} {mi : MethodId} {args : Array Value} {meth : Method} {c : Code} {cells slots : Nat} (F : Fx G d b μ p R s mi args meth c cells slots) {H : Heap} {locs : List Loc} {m : LM} {As : List Value} (hR : RepL G m H) (hS : va_S (fr G) s.heap H locs) : PreS s H (PcxL G As m) As :=
  ⟨PcxL.blind, fun U hU hW => ⟨rfl, by rw [hU]; exact hR, F.env hS hU hW⟩⟩
theorem run_wl {G : Cx} {d : Nat} {b b' b'' : Nat × Nat} {μ : MI} {pc : Nat} {L S S0 : List Value} {Q : Option Value → LM → Prop} {p : Program} {e : Env} {R : Room} {s : State} {mi : MethodId} {args aa : Array Value} {below : List Frame} {meth : Method} {c : Code} {H : Heap} {locs : List Loc} {cells slots : Nat} {ls : Array Slot}
    (hr : va_Run p (gL G) e R s mi args below meth c H locs cells slots b'.1 b'.2 (F0 mi pc ls S0) S (QmL G (fun r m' => WZ G d b μ (pc + 3) L (r.toList ++ S) m' Q) aa) (fr G))
    (F : Fx G d b'' μ p R s mi args meth c cells slots) (hb : b'' = (b'.1 + b.1, b'.2 + b.2)) (hS : va_S (fr G) s.heap H locs) (hL : LV ls μ.2.2.1 L) :
    W p (gL G) e R s mi args below meth c H locs cells slots (MQ below (QmL G Q) args s (cells + b''.1) (slots + b''.2) (fr G)) (F0 mi pc ls S0) := by
  subst hb
  intro T hT X
  obtain ⟨v, st₀, t, T', Lc, h0, X', hLc, e1, e2, ⟨⟨r, m', hQ, ho, hRep⟩, hz, hk⟩, st⟩ := hr T hT X
  cases ho
  rw [h0] at hz hk
  obtain ⟨f1, f2, f3, f4, f5, f6, f7, f8, ⟨g1, g2, g3, g4⟩, f9⟩ := F
  have hSn : va_S (fr G) s.heap T'.heap (locs ++ Lc) := by
    refine ⟨Nat.le_trans hS.1 (by rw [e1]; exact hz), fun q h1 h2 => ?_, fun q hq => ?_⟩
    · rw [e1, hk q (Nat.lt_of_lt_of_le h1 hS.1) h2]
      exact hS.2.1 q h1 h2
    · rcases List.mem_append.mp hq with h | h
      · exact hS.2.2 q h
      · exact hLc q h
  have key := hQ p e R s mi args below meth c T'.heap (locs ++ Lc) (cells + b'.1) (slots + b'.2) ls ⟨f1, f2, f3, f4, f5, f6, f7, ⟨f8.1, Or.inr hRep.1⟩, ⟨g1, g2, by dsimp only at g3; omega, by dsimp only at g4; omega⟩, f9⟩ (by rw [e1]; exact hRep) hSn hL
  rw [Nat.add_assoc, Nat.add_assoc] at key
  obtain ⟨t2, a1, b1⟩ := key T' rfl X'
  exact ⟨t2, st t2 a1, b1⟩
/-- an object of the law's own words -/
def isO (G : Cx) (M : LM) (a ci : Nat) : Prop := ∃ (q0 : Nat) (fs : List Value), M.1[q0]? = some ((a, Sum.inr (ci, fs)) : Nat × va_E)
section LCALL
variable {G : Cx} {d : Nat} {b b' b'' : Nat × Nat} {μ ν : MI} {pc idx n : Nat} {L S As : List Value} {m : LM} {Q : Option Value → LM → Prop}
theorem wl_callS (hd : decode μ.2.1 pc = .ok (.invokestatic idx, 3)) (hl : MLs μ.1.cls idx ν n) (hn : As.length = n) (hb : b'' = (b'.1 + b.1, b'.2 + b.2)) (hw : (S.map fun v => v.category).sum ≤ 8) (hM : WZM G d b' ν As m (fun r m' => WZ G (d + 1) b μ (pc + 3) L (r.toList ++ S) m' Q)) : WZ G (d + 1) b'' μ pc L (As.reverse ++ S) m Q := by
  intro p e R s mi args below meth c H locs cells slots ls F hR hS hL
  obtain ⟨⟨h1, h2, h3, h4, h5⟩, h6⟩ := hl
  have hts := F.2.2.2.2.2.1
  obtain ⟨g1, g2, g3, g4⟩ := F.2.2.2.2.2.2.2.2.1
  subst hb
  refine run_wl (va_runS (As := As) (rest := S) ⟨F.1, F.2.1, F.2.2.1, F.2.2.2.2.1, hts⟩ hM ⟨callB_of n hts (wsM_ok h3) rfl rfl rfl (hts _ h2) (hts _ h1) h4 (rm_ok ⟨g1, g2⟩ h5), hts _ h6⟩ (F.preL hR hS) rfl hn hL.1 rfl (lv_room hw) hd ⟨?_, ?_⟩) F rfl hS hL
  · dsimp only at g3; omega
  · dsimp only at g4; omega
theorem Fx.recvL {p : Program} {R : Room} {s : State} {mi : MethodId} {args : Array Value} {meth : Method} {c : Code} {cells slots : Nat} (F : Fx G d b μ p R s mi args meth c cells slots) {H : Heap} (hR : RepL G m H) {a ci : Nat} {r : vw_C} (hk : isO G m a ci) (hc : classes[ci]? = some r) : ∃ cell : Cell, H[a]? = some cell ∧ cell.vm.isStatics = false ∧ s.vm.findClass r.1 = some cell.cls := by
  obtain ⟨q0, fs, hq⟩ := hk
  exact va_recv F.2.2.2.2.2.2.2.2.2.1 hR.P hc (RepL.at (cs := m.2) hq)
theorem wl_callV {a ci : Nat} {r : vw_C} (hd : decode μ.2.1 pc = .ok (.invokevirtual idx, 3)) (hl : MLv μ.1.cls idx ν n) (hk : isO G m a ci) (hc : classes[ci]? = some r) (hr : r.1 = ν.1.cls) (hn : As.length = n) (hb : b'' = (b'.1 + b.1, b'.2 + b.2)) (hw : (S.map fun v => v.category).sum ≤ 8) (hM : WZM G d b' ν (.ref a :: As) m (fun r m' => WZ G (d + 1) b μ (pc + 3) L (r.toList ++ S) m' Q)) : WZ G (d + 1) b'' μ pc L (As.reverse ++ .ref a :: S) m Q := by
  intro p e R s mi args below meth c H locs cells slots ls F hR hS hL
  obtain ⟨⟨h1, h2, h3, h4, h5⟩, h6, h7⟩ := hl
  have hts := F.2.2.2.2.2.1
  obtain ⟨g1, g2, g3, g4⟩ := F.2.2.2.2.2.2.2.2.1
  subst hb
  have hpre := F.preL (As := .ref a :: As) hR hS
  have hrc := F.recvL hR hk hc
  rw [hr] at hrc
  refine run_wl (va_runV (As := As) (b := a) (rest := S) ⟨F.1, F.2.1, F.2.2.1, F.2.2.2.2.1, hts⟩ hM ⟨callB_of n hts (wsM_ok h3) rfl rfl rfl (hts _ h2) (hts _ h1) h4 (rm_ok ⟨g1, g2⟩ h5), hts _ h6, hts _ h7⟩ ⟨hpre.1, hrc, hpre.2⟩ rfl hn hL.1 rfl (lv_room hw) hd ⟨?_, ?_⟩) F rfl hS hL
  · dsimp only at g3; omega
  · dsimp only at g4; omega
theorem wl_callI {a : Nat} (hd : decode μ.2.1 pc = .ok (.invokespecial idx, 3)) (hl : MLi μ.1.cls idx ν n) (hn : As.length = n) (hb : b'' = (b'.1 + b.1, b'.2 + b.2)) (hw : (S.map fun v => v.category).sum ≤ 8) (hM : WZM G d b' ν (.ref a :: As) m (fun r m' => WZ G (d + 1) b μ (pc + 3) L (r.toList ++ S) m' Q)) : WZ G (d + 1) b'' μ pc L (As.reverse ++ .ref a :: S) m Q := by
  intro p e R s mi args below meth c H locs cells slots ls F hR hS hL
  obtain ⟨⟨h1, h2, h3, h4, h5⟩, h6, h7, h8⟩ := hl
  have hts := F.2.2.2.2.2.1
  obtain ⟨g1, g2, g3, g4⟩ := F.2.2.2.2.2.2.2.2.1
  subst hb
  have hpre := F.preL (As := .ref a :: As) hR hS
  have hg := wsM_ok h3
  unfold WZM at hM
  unfold wsM at hM hg
  rw [h8] at hM hg
  refine run_wl (va_runI (As := As) (b := a) (rest := S) ⟨F.1, F.2.1, F.2.2.1, F.2.2.2.2.1, hts⟩ hM ⟨callB_of n hts hg rfl rfl rfl (hts _ h2) (hts _ h1) h4 (rm_ok ⟨g1, g2⟩ h5), h7, hts _ h6⟩ hpre rfl hn hL.1 rfl (lv_room hw) hd ⟨?_, ?_⟩) F rfl hS hL
  · dsimp only at g3; omega
  · dsimp only at g4; omega
/-- a call of a craft's method -/
theorem wl_callX {ws : va_W} {B : Nat} {mx : Mm} (cs1 cs2 : List (Nat × Mm)) (hd : decode μ.2.1 pc = .ok (.invokevirtual idx, 3)) (hl : MLv μ.1.cls idx ν n) (hr : RX10 = ν.1.cls) (hn : As.length = n) (hw : (S.map fun v => v.category).sum ≤ 8) (hM : WPM (atC G B false) d (0, 0) ν (.ref B :: As) mx (fun r m' => WZ G (d + 1) b μ (pc + 3) L (r.toList ++ S) (ws, cs1 ++ (B, m') :: cs2) Q)) : WZ G (d + 1) b μ pc L (As.reverse ++ .ref B :: S) (ws, cs1 ++ (B, mx) :: cs2) Q := by
  intro p e R s mi args below meth c H locs cells slots ls F hR hS hL
  obtain ⟨⟨h1, h2, h3, h4, h5⟩, h6, h7⟩ := hl
  have hts := F.2.2.2.2.2.1
  obtain ⟨g1, g2, g3, g4⟩ := F.2.2.2.2.2.2.2.2.1
  obtain ⟨hRx, hB⟩ := hR.rep
  have hsz : B + 293 ≤ H.size := (hRx.2.2 rfl).2
  have hmx : mN mx = 293 := (hRx.2.2 rfl).1
  have hpre : PreS s H (Pcx (atC G B false) (0, 0) (.ref B :: As) mx) (.ref B :: As) := ⟨Pcx.blind, fun U hU hW => ⟨rfl, by rw [hU]; exact hRx, (F.env hS hU hW).at hB (by rw [hU]; omega), Or.inl rfl⟩⟩
  have hw0 := wld_at (G := atC G B false) (m := mx) (j := 0) (by omega)
  have hc0 : classes[10]? = some (RX10, TX10, 5) := rfl
  have e0 : (wld (atC G B false) mx)[0]? = some (B, .inr (10, flds (atC G B false) mx 10 B)) := by
    rw [hw0, cel_obj (ci := 10) rfl (by decide)]
    rfl
  have hrc := va_recv (tys := gT G) F.2.2.2.2.2.2.2.2.2.1 hRx.1 hc0 e0
  have hrc' : ∃ cell : Cell, H[B]? = some cell ∧ cell.vm.isStatics = false ∧ s.vm.findClass ν.1.cls = some cell.cls := by
    rw [← hr]
    exact hrc
  have hrun := va_runV (As := As) (b := B) (rest := S) (e := e) (g := F0 mi pc ls (As.reverse ++ .ref B :: S)) (below := below) (meth := meth) (locs := locs) (cells := cells) (slots := slots) ⟨F.1, F.2.1, F.2.2.1, F.2.2.2.2.1, hts⟩ hM ⟨callB_of n hts (wsM_ok h3) rfl rfl rfl (hts _ h2) (hts _ h1) h4 (rm_ok (b' := (0, 0)) ⟨g1, g2⟩ h5), hts _ h6, hts _ h7⟩ ⟨hpre.1, hrc', hpre.2⟩ rfl hn hL.1 rfl (lv_room hw) hd ⟨by show cells + 0 ≤ R.cells; omega, by show slots + 0 ≤ R.slots; omega⟩
  intro T hT X
  obtain ⟨v, st₀, t, T', Lc, h0, X', hLc, e1, e2, ⟨⟨r, m', hQ, ho, hRep⟩, hz, hk⟩, st⟩ := hrun T hT X
  cases ho
  rw [h0] at hz hk
  have hfr : ∀ q, fr (atC G B false) q → fr G q := fun q hq => ⟨Nat.le_trans hB hq.1, Or.inl hR.1⟩
  have hSn : va_S (fr G) s.heap T'.heap (locs ++ Lc) := by
    refine ⟨Nat.le_trans hS.1 (by rw [e1]; exact hz), fun q q1 q2 => ?_, fun q hq => ?_⟩
    · rw [e1, hk q (Nat.lt_of_lt_of_le q1 hS.1) (fun z => q2 (hfr q z))]
      exact hS.2.1 q q1 q2
    · rcases List.mem_append.mp hq with h | h
      · exact hS.2.2 q h
      · exact hfr _ (hLc q h)
  have hRn : RepL G (ws, cs1 ++ (B, m') :: cs2) T'.heap := by
    rw [e1]
    exact hR.upd hRep hk
  have key := hQ p e R s mi args below meth c T'.heap (locs ++ Lc) cells slots ls F hRn hSn hL
  obtain ⟨t2, a1, b1⟩ := key T' rfl X'
  exact ⟨t2, st t2 a1, b1⟩
end LCALL
