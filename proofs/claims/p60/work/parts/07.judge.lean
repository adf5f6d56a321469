/-! STRINGS of the claim: a constant is its place i < 6 -/
abbrev nJS : Nat := 6
def bytJS : List (List Int32) := [[60, 62, 61, 43, 45, 42, 47, 40, 41, 58, 59], [119, 104, 101, 110, 32, 111, 114, 32, 97, 110, 100, 32, 110, 111, 116, 32, 116, 101, 109, 112, 32, 111, 112, 101, 110, 32, 115, 116, 97, 116, 101, 32, 115, 117, 110, 32, 112, 104, 97, 115, 101, 32, 99, 104, 97, 114, 103, 101, 32, 117, 115, 101, 100, 32, 104, 101, 97, 116, 101, 114, 32, 108, 111, 117, 118, 114, 101, 32, 108, 111, 97, 100, 32, 111, 110, 32, 111, 102, 102, 32, 97, 117, 116, 111, 32, 104, 111, 108, 100, 32, 102, 114, 101, 101, 32], [108, 111, 117, 118, 114, 101, 32], [32, 104, 111, 108, 100, 59], [32, 102, 114, 101, 101, 59], []]
def lenJS : List Nat := [11, 95, 7, 6, 6, 0]
def refJS : List (String × Nat × String) := [(RX7, 107, "<>=+-*/():;"), (RX7, 114, "when or and not temp open state sun phase charge used heater louvre load on off auto hold free "), (RL, 202, "louvre "), (RL, 211, " hold;"), (RL, 213, " free;"), (RL, 241, "")]
theorem lenJS_ok : ∀ i, i < nJS → lenJS.getD i 0 = (bytJS.getD i []).length ∧ (bytJS.getD i []).length < 2 ^ 31 := by decide +kernel
/-! THE JUDGEMENT -/
abbrev MI : Type := MethodName × ByteArray × Nat × Option FieldType
def tbG : List Cond := lw_tbl.filter goodWord
def isNest : Cond → Bool
  | .methodLinkNest .. => true
  | .privateMethod .. => true
  | _ => false
theorem tbG_mem {w : Cond} (h : w ∈ lw_tbl) (hg : goodWord w = true) : w ∈ tbG := List.mem_filter.mpr ⟨h, hg⟩
theorem tbG_ok : GoodIn tbG tbG := fun w h => ⟨h, good_of_word (List.mem_filter.mp h).2⟩
/-- what holds of the launch's tables and of the cells below base -/
def EnvOK (G : Cx) (s : State) : Prop :=
  va_K (gD G) classes (gT G) s ∧ vk_S nJS lenJS bytJS (gK G) (gV G) (ab G) s s.heap ∧ (∀ i, i < nJS → vk_R (refJS.getD i ("", 0, "")).1 (refJS.getD i ("", 0, "")).2.1 (refJS.getD i ("", 0, "")).2.2 (gK G i) s) ∧
  va_Z "java/lang/String" "COMPACT_STRINGS" "Z" (.int 1) (ab G) s s.heap ∧ (∃ q : Value, q.isRef = true ∧ va_Z "jdk/internal/util/Preconditions" "SIOOBE_FORMATTER" "Ljava/util/function/BiFunction;" q (ab G) s s.heap ∧ ∃ t : Nat, va_Z "java/lang/Integer" "DigitOnes" "[B" (.ref t) (ab G) s s.heap ∧ va_T .byte t 100 (fun j => .int (nI (48 + j % 10))) (ab G) s s.heap) ∧
  (∀ w ∈ lw_tbl, isNest w = true → va_Nw w s) ∧ (∀ C, Cond.arrayOver (.object C) ∈ lw_tbl → va_AO C s) ∧ gB G ≤ s.heap.size ∧ va_X (gSa G) (gSl G) (gSx G) s s.heap ∧ gSa G < gB G
theorem EnvOK.warm {G : Cx} {s U : State} (h : EnvOK G s) (hW : s.WarmedH U.vm) (hq0 : ∀ a : Nat, a < s.heap.size → ¬ fr G a → U.heap[a]? = s.heap[a]?) (hz : gB G ≤ U.heap.size) : EnvOK G U := by
  obtain ⟨h1, h2, h3, h4, ⟨q, h5r, h5, t, h5a, h5b⟩, h6, h7, h8, h9, h10⟩ := h
  have hvm : s.vm.Alike U.vm := hW.alike
  have hq : ∀ a : Nat, a < s.heap.size → ¬ ab G a → U.heap[a]? = s.heap[a]? := fun a h1 h2 => hq0 a h1 (fun z => h2 z.1)
  refine ⟨h1.moved hvm, (h2.moved hvm).kept hq, fun i hi => (h3 i hi).warm hW, (h4.moved hvm).kept hq, ⟨q, h5r, (h5.moved hvm).kept hq, t, (h5a.moved hvm).kept hq, (h5b.moved hvm).kept hq⟩, fun w hw hn => ?_, fun C hC => (h7 C hC).moved hvm, hz, (h9.moved hvm).kept (hq _ (Nat.lt_of_lt_of_le h10 h8) (Nat.not_le.mpr h10)), h10⟩
  have h := h6 w hw hn
  cases w with
  | methodLinkNest a b c d => exact va_Nw.warmM hW h
  | privateMethod x =>
    have hb : (Cond.privateMethod x).before #[] (s.setVm U.vm) = true := by
      rw [Cond.privateMethod_setVm hW.alike]
      exact h
    exact va_tabs rfl (rfl : (s.setVm U.vm).vm = U.vm) hb
  | _ => cases hn
/-- locals: a list of values; a float stands for 'not known' -/
def lvU : Value := .float 0
def isU : Value → Bool
  | .float _ => true
  | .double _ => true
  | _ => false
def ascF : Nat → List Value → List (Nat × Value)
  | _, [] => []
  | i, v :: vs => if isU v = true then ascF (i + 1) vs else (i, v) :: ascF (i + 1) vs
theorem ascF_mem : ∀ (L : List Value) (n i : Nat) (v : Value), (i, v) ∈ ascF n L ↔ n ≤ i ∧ L[i - n]? = some v ∧ isU v = false := by
  intro L
  induction L with
  | nil => intro n i v; simp [ascF]
  | cons w L ih =>
    intro n i v
    have step : (i, v) ∈ ascF (n + 1) L ↔ n + 1 ≤ i ∧ L[i - (n + 1)]? = some v ∧ isU v = false := ih (n + 1) i v
    by_cases hu : isU w = true
    · rw [ascF, if_pos hu, step]
      constructor
      · rintro ⟨a, b, c⟩
        refine ⟨by omega, ?_, c⟩
        rw [show i - n = (i - (n + 1)) + 1 by omega, List.getElem?_cons_succ]
        exact b
      · rintro ⟨a, b, c⟩
        by_cases hi : i = n
        · subst hi
          rw [Nat.sub_self, List.getElem?_cons_zero] at b
          cases b
          rw [hu] at c
          cases c
        · refine ⟨by omega, ?_, c⟩
          rw [show i - n = (i - (n + 1)) + 1 by omega, List.getElem?_cons_succ] at b
          exact b
    · rw [ascF, if_neg hu, List.mem_cons, step]
      constructor
      · rintro (a | ⟨a, b, c⟩)
        · cases a
          refine ⟨Nat.le_refl _, by rw [Nat.sub_self, List.getElem?_cons_zero], by simpa using hu⟩
        · refine ⟨by omega, ?_, c⟩
          rw [show i - n = (i - (n + 1)) + 1 by omega, List.getElem?_cons_succ]
          exact b
      · rintro ⟨a, b, c⟩
        by_cases hi : i = n
        · subst hi
          rw [Nat.sub_self, List.getElem?_cons_zero] at b
          cases b
          exact Or.inl rfl
        · refine Or.inr ⟨by omega, ?_, c⟩
          rw [show i - n = (i - (n + 1)) + 1 by omega, List.getElem?_cons_succ] at b
          exact b
def LV (ls : Array Slot) (n : Nat) (L : List Value) : Prop := lv_has ls n (ascF 0 L)
theorem LV.at {ls : Array Slot} {n i : Nat} {L : List Value} {v : Value} (h : LV ls n L) (hi : L[i]? = some v) (hv : isU v = false) : ls[i]? = some (.val v) :=
  h.2.2 (i, v) ((ascF_mem L 0 i v).mpr ⟨Nat.zero_le _, hi, hv⟩)
theorem lv_weak {ls : Array Slot} {n : Nat} {l l' : List (Nat × Value)} (h : lv_has ls n l) (hs : ∀ q ∈ l', q ∈ l) : lv_has ls n l' := ⟨h.1, h.2.1, fun q hq => h.2.2 q (hs q hq)⟩
/-- a store of one word -/
def isL : Option Value → Bool
  | some (.long _) => true
  | _ => false
def st1 (L : List Value) (i : Nat) (v : Value) : List Value := match i with
  | 0 => L.set 0 v
  | k + 1 => if isL L[k]? = true then (L.set k lvU).set (k + 1) v else L.set (k + 1) v
def st2 (L : List Value) (i : Nat) (v : Value) : List Value := (st1 L i v).set (i + 1) lvU
theorem st1_get {L : List Value} {i j : Nat} {v w : Value} (h : (st1 L i v)[j]? = some w) (hw : isU w = false) : (j = i ∧ w = v) ∨ (j ≠ i ∧ L[j]? = some w ∧ ¬ (j + 1 = i ∧ w.category = 2)) := by
  have base : ∀ M : List Value, (M.set i v)[j]? = some w → (j = i ∧ w = v) ∨ (j ≠ i ∧ M[j]? = some w) := by
    intro M h
    by_cases hj : j = i
    · subst hj
      have hl : j < M.length := by
        have := (List.getElem?_eq_some_iff.mp h).1
        simpa using this
      rw [List.getElem?_set_self hl] at h
      exact Or.inl ⟨rfl, (Option.some.inj h).symm⟩
    · rw [List.getElem?_set_ne (Ne.symm hj)] at h
      exact Or.inr ⟨hj, h⟩
  cases i with
  | zero =>
    rcases base L h with h | ⟨h1, h2⟩
    · exact Or.inl h
    · exact Or.inr ⟨h1, h2, fun q => by omega⟩
  | succ k =>
    have h' : (if isL L[k]? = true then (L.set k lvU).set (k + 1) v else L.set (k + 1) v)[j]? = some w := h
    by_cases hx : isL L[k]? = true
    · rw [if_pos hx] at h'
      rcases base _ h' with h | ⟨h1, h2⟩
      · exact Or.inl h
      · by_cases hk : j = k
        · subst hk
          have hl : j < L.length := by
            have := (List.getElem?_eq_some_iff.mp h2).1
            simpa using this
          rw [List.getElem?_set_self hl] at h2
          cases h2
          cases hw
        · rw [List.getElem?_set_ne (Ne.symm hk)] at h2
          exact Or.inr ⟨h1, h2, fun q => hk (by omega)⟩
    · rw [if_neg hx] at h'
      rcases base _ h' with h | ⟨h1, h2⟩
      · exact Or.inl h
      · refine Or.inr ⟨h1, h2, fun q => ?_⟩
        have hk : j = k := by omega
        subst hk
        rw [h2] at hx
        cases w with
        | long y => exact hx rfl
        | float y => cases hw
        | double y => cases hw
        | _ => simp [Value.category] at q
theorem LV.store1 {ls : Array Slot} {n i : Nat} {L L' : List Value} {v : Value} (h : LV ls n L) (hi : i < n) (hc : v.category = 1) (hL : st1 L i v = L') : ∃ ls', storeLocals ls i v = some ls' ∧ LV ls' n L' := by
  subst hL
  obtain ⟨ls', h1, h2⟩ := lv_store1 h hi hc
  refine ⟨ls', h1, lv_weak h2 ?_⟩
  rintro ⟨j, w⟩ hq
  obtain ⟨-, hg, hw⟩ := (ascF_mem _ 0 j w).mp hq
  rcases st1_get hg hw with ⟨rfl, rfl⟩ | ⟨h3, h4, h5⟩
  · exact List.mem_cons_self
  · refine List.mem_cons_of_mem _ (List.mem_filter.mpr ⟨(ascF_mem _ 0 j w).mpr ⟨Nat.zero_le _, h4, hw⟩, ?_⟩)
    simp only [Bool.and_eq_true, Bool.not_eq_true', beq_eq_false_iff_ne, ne_eq, Bool.and_eq_false_imp, beq_iff_eq]
    exact ⟨h3, fun a b => h5 ⟨a, b⟩⟩
theorem LV.store2 {ls : Array Slot} {n i : Nat} {L L' : List Value} {v : Value} (h : LV ls n L) (hi : i + 1 < n) (hc : v.category = 2) (hL : st2 L i v = L') : ∃ ls', storeLocals ls i v = some ls' ∧ LV ls' n L' := by
  subst hL
  obtain ⟨ls', h1, h2⟩ := lv_store2 h hi hc
  refine ⟨ls', h1, lv_weak h2 ?_⟩
  rintro ⟨j, w⟩ hq
  obtain ⟨-, hg, hw⟩ := (ascF_mem _ 0 j w).mp hq
  unfold st2 at hg
  by_cases hj : j = i + 1
  · subst hj
    have hl : i + 1 < (st1 L i v).length := by
      have := (List.getElem?_eq_some_iff.mp hg).1
      simpa using this
    simp only [Nat.sub_zero] at hg
    rw [List.getElem?_set_self hl] at hg
    cases hg
    cases hw
  · simp only [Nat.sub_zero] at hg
    rw [List.getElem?_set_ne (Ne.symm hj)] at hg
    rcases st1_get hg hw with ⟨rfl, rfl⟩ | ⟨h3, h4, h5⟩
    · exact List.mem_cons_self
    · refine List.mem_cons_of_mem _ (List.mem_filter.mpr ⟨(ascF_mem _ 0 j w).mpr ⟨Nat.zero_le _, h4, hw⟩, ?_⟩)
      simp only [Bool.and_eq_true, Bool.not_eq_true', beq_eq_false_iff_ne, ne_eq, Bool.and_eq_false_imp, beq_iff_eq]
      exact ⟨h3, hj, fun a b => h5 ⟨a, b⟩⟩
/-- the locals behind the entry -/
def iniA : List Value → List Value
  | [] => []
  | v :: vs => if v.category = 2 then v :: lvU :: iniA vs else v :: iniA vs
def iniL (vs : List Value) (n : Nat) : List Value := iniA vs ++ List.replicate (n - (iniA vs).length) lvU
theorem iniA_mem : ∀ (vs : List Value) (n i : Nat) (v : Value), n ≤ i → (iniA vs)[i - n]? = some v → isU v = false → (i, v) ∈ lv_args n vs := by
  intro vs
  induction vs with
  | nil => intro n i v h1 h2 _; simp [iniA] at h2
  | cons w vs ih =>
    intro n i v h1 h2 h3
    rw [lv_args, List.mem_cons]
    by_cases hi : i = n
    · subst hi
      refine Or.inl ?_
      rw [Nat.sub_self] at h2
      by_cases hw : w.category = 2
      · rw [iniA, if_pos hw, List.getElem?_cons_zero] at h2
        cases h2
        rfl
      · rw [iniA, if_neg hw, List.getElem?_cons_zero] at h2
        cases h2
        rfl
    · refine Or.inr ?_
      have e : i - n = (i - (n + 1)) + 1 := by omega
      rw [e] at h2
      by_cases hw : w.category = 2
      · rw [iniA, if_pos hw, List.getElem?_cons_succ] at h2
        rw [if_pos hw]
        by_cases hi2 : i = n + 1
        · subst hi2
          rw [Nat.sub_self, List.getElem?_cons_zero] at h2
          cases h2
          cases h3
        · rw [show i - (n + 1) = (i - (n + 2)) + 1 by omega, List.getElem?_cons_succ] at h2
          exact ih (n + 2) i v (by omega) h2 h3
      · rw [iniA, if_neg hw, List.getElem?_cons_succ] at h2
        rw [if_neg hw]
        exact ih (n + 1) i v (by omega) h2 h3
theorem LV.entry (vs : List Value) {n : Nat} (h : (lg_sl vs).length ≤ n) : LV ((lg_sl vs ++ List.replicate (n - (lg_sl vs).length) Slot.unset).toArray) n (iniL vs n) := by
  refine lv_weak (lv_entry vs h) ?_
  rintro ⟨i, v⟩ hq
  obtain ⟨-, hg, hv⟩ := (ascF_mem _ 0 i v).mp hq
  by_cases hl : i < (iniA vs).length
  · unfold iniL at hg
    simp only [Nat.sub_zero] at hg
    rw [List.getElem?_append_left hl] at hg
    exact iniA_mem vs 0 i v (Nat.zero_le _) (by simpa using hg) hv
  · unfold iniL at hg
    simp only [Nat.sub_zero] at hg
    rw [List.getElem?_append_right (by omega)] at hg
    have := List.mem_of_getElem? hg
    rw [List.mem_replicate] at this
    rw [this.2] at hv
    cases hv
/-- what a walk in a method of base code μ rests on: depth d is left, b cells and slots may still be made -/
def Fx (G : Cx) (d : Nat) (b : Nat × Nat) (μ : MI) (p : Program) (R : Room) (s : State) (mi : MethodId) (args : Array Value) (meth : Method) (c : Code) (cells slots : Nat) : Prop :=
  p.tables.exec = Jvm.exec ∧ c.code = μ.2.1 ∧ c.maxLocals = μ.2.2.1 ∧ meth.sig.returnType = μ.2.2.2 ∧ s.vm.findClass μ.1.cls = some mi.cls ∧ (∀ w ∈ tbG, w.before args s = true) ∧ meth.locks = false ∧ ((μ.1.name = "<init>" → meth.name = "<init>") ∧ (b.1 = 0 ∨ gM G = true)) ∧
  (d ≤ R.frames ∧ 100 * d ≤ R.locals ∧ cells + b.1 ≤ R.cells ∧ slots + b.2 ≤ R.slots) ∧ EnvOK G s
def Qm (G : Cx) (Q : Option Value → Mm → Prop) : Array Value → State → Outcome → State → Prop := fun _ st o t => (∃ (r : Option Value) (m' : Mm), Q r m' ∧ o = .returned r ∧ Rep G m' t.heap) ∧ va_F (fr G) st t
def WP (G : Cx) (d : Nat) (b : Nat × Nat) (μ : MI) (pc : Nat) (L S : List Value) (m : Mm) (Q : Option Value → Mm → Prop) : Prop :=
  ∀ (p : Program) (e : Env) (R : Room) (s : State) (mi : MethodId) (args : Array Value) (below : List Frame) (meth : Method) (c : Code) (H : Heap) (locs : List Loc) (cells slots : Nat) (ls : Array Slot),
    Fx G d b μ p R s mi args meth c cells slots → Rep G m H → va_S (fr G) s.heap H locs → LV ls μ.2.2.1 L →
    W p (gL G) e R s mi args below meth c H locs cells slots (MQ below (Qm G Q) args s (cells + b.1) (slots + b.2) (fr G)) (F0 mi pc ls S)
def wsM (μ : MI) : List Cond := Cond.code μ.1 μ.2.1 μ.2.2.1 μ.2.2.2 :: tbG
def rmD (d : Nat) (b : Nat × Nat) : Room := { frames := d, cells := b.1, slots := b.2, locals := 100 * d }
def Pcx (G : Cx) (b : Nat × Nat) (As : List Value) (m : Mm) : Array Value → State → Prop := va_Pc As (fun U => Rep G m U.heap ∧ EnvOK G U ∧ (b.1 = 0 ∨ gM G = true))
/-- a method's contract at the memory m: it returns, with an answer and a memory of Q -/
def WPM (G : Cx) (d : Nat) (b : Nat × Nat) (μ : MI) (As : List Value) (m : Mm) (Q : Option Value → Mm → Prop) : Prop :=
  Met (gL G) μ.1 (wsM μ) (rmD d b) (Pcx G b As m) (Qm G Q) b.1 b.2 (fr G)
theorem WPM.of {G : Cx} {d : Nat} {b : Nat × Nat} {μ : MI} {As L : List Value} {m : Mm} {Q : Option Value → Mm → Prop} (hp : plainName μ.1.cls = true) (hn : (lg_sl As).length ≤ μ.2.2.1) (hL : iniL As μ.2.2.1 = L) (k : WP G d b μ 0 L [] m Q) : WPM G d b μ As m Q := by
  subst hL
  refine Met.ofW (cc := μ.2.1) (maxL := μ.2.2.1) (ret := μ.2.2.2) (ws' := tbG) hp rfl ?_
  intro p e s mi args below meth c s₁ B hml hv
  obtain ⟨rfl, hR, hE, hMb⟩ := hv
  have hts := atoms_spec (ws := wsM μ) B.pre
  have h := k p e (rmD d b) s mi As.toArray below meth c s.heap [] 0 0 _ ⟨B.exec, B.bytes, hml, B.returns, findClass_of_methodNamed B.named, fun w hw => hts w (List.mem_cons_of_mem _ hw), B.notSynchronized, ⟨fun h => (name_of_methodNamed B.named B.method).1.trans h, hMb⟩, ⟨Nat.le_refl _, Nat.le_refl _, by simp [rmD], by simp [rmD]⟩, hE⟩ hR va_S.rf (LV.entry As hn)
  rw [Nat.zero_add, Nat.zero_add] at h
  rw [lg_entry_eq]
  exact h
theorem Pcx.blind {G : Cx} {b : Nat × Nat} {As : List Value} {m : Mm} : FrameBlind (Pcx G b As m) := by
  intro a U g mk q
  obtain ⟨h1, h2, h3, h4⟩ := q
  exact ⟨h1, h2, h3.warm (U := U.calling g mk a) (State.WarmedH.refl U) (fun _ _ _ => rfl) h3.2.2.2.2.2.2.2.1, h4⟩
