section WHOLE2
theorem same_nil {s s' : State} {L : List Loc} {k n : Nat} (h : s.sameButNew s' L k n) (hL : ∀ q ∈ L, s.heap.size ≤ q.base) : s.sameButNew s' [] k n := by
  obtain ⟨a1, a2, a3, a4, a5, a6⟩ := h
  refine ⟨a1, a2, a3, a4, a5, fun a c hc => ?_⟩
  obtain ⟨c', b1, b2, b3, b4⟩ := a6 a c hc
  exact ⟨c', b1, b2, b3, fun i _ => b4 i (fun hm => absurd (Array.getElem?_eq_some_iff.mp hc).1 (Nat.not_lt.mpr (hL _ hm)))⟩
theorem RepL.nil {G : Cx} {H : Heap} (h : gM G = true) : RepL G ([], []) H := ⟨h, fun k q hk => by simp [ful, crf] at hk, ⟨by simp [ful, crf], fun a ha => by simp [ful, crf] at ha⟩, fun c hc => absurd hc List.not_mem_nil⟩
theorem whole_start {p : Program} {e : Env} {s : State} {m : MethodId} {below : List Frame} {meth : Method} {c : Code} (l : Launch) (hflags : l.flags = flags0) {b L : Nat} {xs : Nat → Int32} (hL : L ≤ 260) (C0 : lw_At p s m meth c b L xs) : W p l e room_1 s m #[Value.ref b] below meth c s.heap [] 0 0 (lw_Z below #[Value.ref b] s) (entryFrame m ([Value.ref b] : List Value).toArray 1) := by
  obtain ⟨a1, a2, a3, a4, a5, a6, a7, a8, a9, a10⟩ := C0
  obtain ⟨e1, e2⟩ := stat_ok a10
  obtain ⟨G, g1, g2, g3, g4, g5, g6, hE⟩ := env_ok (l := l) a6 a7 a8 a10 e1 e2
  have hw : WZ1 G (600 + 131) (3877, 111236) μL_law 0 [.ref (gSa G)] [] ([], []) (fun r _ => r = some (.int 1)) := w_law (d := 600) (by rw [g4]; exact hL) (fun _ => rfl)
  rw [g3] at hw
  have key := hw p e room_1 s m #[Value.ref b] below meth c s.heap [] 0 0 _ ⟨a1, a2.trans code_ok, a4, a3.trans ret_ok, a5, tb_of a6, a9, ⟨fun h => absurd h (by decide), Or.inr g6⟩, ⟨by decide, by decide, by decide, by decide⟩, hE⟩ (RepL.nil g6) va_S.rf (LV.entry [.ref b] (show 1 ≤ 1 by decide)) g2.symm
  rw [g1] at key
  rw [lg_entry_eq]
  intro T hT X
  obtain ⟨t, st, o, h1, h2, ⟨⟨r, m', hr, ho, -⟩, -⟩, Lc, hFE, hfree⟩ := key T hT X
  refine ⟨t, st, o, h1, h2, by rw [ho, hr], hFE.1, hFE.2.1, ((same_nil hFE.2.2 (fun q hq => ?_)).mono (by decide) (by decide))⟩
  have := hfree q hq
  rw [← g2]
  exact this.1
end WHOLE2
