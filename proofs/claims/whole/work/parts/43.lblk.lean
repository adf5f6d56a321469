theorem bL_0a {G : Cx} {d : Nat} {m : Mm} {Q : Option Value → Mm → Prop} {i : Nat} (hF : Full G m) (hi : i + 7 ≤ gSl G) (hl : gSl G < 4000) 
    (e1 : WPM G (d + 99) (0, 0) μX10_addNode [.ref (gB G), .int (gSx G (i + 1)), .int (gSx G (i + 2)), .int (gSx G (i + 3)), .int (gSx G (i + 4)), .int (gSx G (i + 5))] m (fun r' m' => WP G (d + 100) (0, 0) μL_law 305 [.ref (gSa G), .ref (gB G), .ref (gB G + 293), .int (nI i)] (r'.toList ++ []) m' Q)) :
    WP G (d + 100) (0, 0) μL_law 276 [.ref (gSa G), .ref (gB G), .ref (gB G + 293), .int (nI i)] [] m Q := by
  refine wp_aload_n dL_law_276 rfl ?_
  refine wp_aload_n dL_law_277 rfl ?_
  refine wp_iload_n dL_law_278 rfl ?_
  refine wp_iconst (1 : Int32) dL_law_279 (by decide) ?_
  refine wp_iaddv (nI (i + 1)) dL_law_280 (nadd (a := i) (b := 1) (by omega)) ?_
  refine wp_sld (i + 1) dL_law_281 rfl (by omega) (by omega) ?_
  refine wp_aload_n dL_law_282 rfl ?_
  refine wp_iload_n dL_law_283 rfl ?_
  refine wp_iconst (2 : Int32) dL_law_284 (by decide) ?_
  refine wp_iaddv (nI (i + 2)) dL_law_285 (nadd (a := i) (b := 2) (by omega)) ?_
  refine wp_sld (i + 2) dL_law_286 rfl (by omega) (by omega) ?_
  refine wp_aload_n dL_law_287 rfl ?_
  refine wp_iload_n dL_law_288 rfl ?_
  refine wp_iconst (3 : Int32) dL_law_289 (by decide) ?_
  refine wp_iaddv (nI (i + 3)) dL_law_290 (nadd (a := i) (b := 3) (by omega)) ?_
  refine wp_sld (i + 3) dL_law_291 rfl (by omega) (by omega) ?_
  refine wp_aload_n dL_law_292 rfl ?_
  refine wp_iload_n dL_law_293 rfl ?_
  refine wp_iconst (4 : Int32) dL_law_294 (by decide) ?_
  refine wp_iaddv (nI (i + 4)) dL_law_295 (nadd (a := i) (b := 4) (by omega)) ?_
  refine wp_sld (i + 4) dL_law_296 rfl (by omega) (by omega) ?_
  refine wp_aload_n dL_law_297 rfl ?_
  refine wp_iload_n dL_law_298 rfl ?_
  refine wp_iconst (5 : Int32) dL_law_299 (by decide) ?_
  refine wp_iaddv (nI (i + 5)) dL_law_300 (nadd (a := i) (b := 5) (by omega)) ?_
  refine wp_sld (i + 5) dL_law_301 rfl (by omega) (by omega) ?_
  refine wp_callV (As := [.int (gSx G (i + 1)), .int (gSx G (i + 2)), .int (gSx G (i + 3)), .int (gSx G (i + 4)), .int (gSx G (i + 5))]) (S := []) (b' := (0, 0)) (b := (0, 0)) dL_law_302 ML_13 (ka0 hF) rfl rfl rfl rfl (Nat.le_of_ble_eq_true rfl) ?_
  exact e1

theorem bL_0b {G : Cx} {d : Nat} {m : Mm} {Q : Option Value → Mm → Prop} {i : Nat} {r : Int32} (hF : Full G m) (hi : i + 7 ≤ gSl G) (hl : gSl G < 4000) 
    (e1 : WPM G (d + 99) (0, 0) μX11_addNode [.ref (gB G + 293), .int (gSx G (i + 1)), .int (gSx G (i + 2)), .int (gSx G (i + 3)), .int (gSx G (i + 4)), .int (gSx G (i + 5))] m (fun r' m' => WP G (d + 100) (0, 0) μL_law 334 [.ref (gSa G), .ref (gB G), .ref (gB G + 293), .int (nI i)] (r'.toList ++ [.int r]) m' Q)) :
    WP G (d + 100) (0, 0) μL_law 305 [.ref (gSa G), .ref (gB G), .ref (gB G + 293), .int (nI i)] [.int r] m Q := by
  refine wp_aload_n dL_law_305 rfl ?_
  refine wp_aload_n dL_law_306 rfl ?_
  refine wp_iload_n dL_law_307 rfl ?_
  refine wp_iconst (1 : Int32) dL_law_308 (by decide) ?_
  refine wp_iaddv (nI (i + 1)) dL_law_309 (nadd (a := i) (b := 1) (by omega)) ?_
  refine wp_sld (i + 1) dL_law_310 rfl (by omega) (by omega) ?_
  refine wp_aload_n dL_law_311 rfl ?_
  refine wp_iload_n dL_law_312 rfl ?_
  refine wp_iconst (2 : Int32) dL_law_313 (by decide) ?_
  refine wp_iaddv (nI (i + 2)) dL_law_314 (nadd (a := i) (b := 2) (by omega)) ?_
  refine wp_sld (i + 2) dL_law_315 rfl (by omega) (by omega) ?_
  refine wp_aload_n dL_law_316 rfl ?_
  refine wp_iload_n dL_law_317 rfl ?_
  refine wp_iconst (3 : Int32) dL_law_318 (by decide) ?_
  refine wp_iaddv (nI (i + 3)) dL_law_319 (nadd (a := i) (b := 3) (by omega)) ?_
  refine wp_sld (i + 3) dL_law_320 rfl (by omega) (by omega) ?_
  refine wp_aload_n dL_law_321 rfl ?_
  refine wp_iload_n dL_law_322 rfl ?_
  refine wp_iconst (4 : Int32) dL_law_323 (by decide) ?_
  refine wp_iaddv (nI (i + 4)) dL_law_324 (nadd (a := i) (b := 4) (by omega)) ?_
  refine wp_sld (i + 4) dL_law_325 rfl (by omega) (by omega) ?_
  refine wp_aload_n dL_law_326 rfl ?_
  refine wp_iload_n dL_law_327 rfl ?_
  refine wp_iconst (5 : Int32) dL_law_328 (by decide) ?_
  refine wp_iaddv (nI (i + 5)) dL_law_329 (nadd (a := i) (b := 5) (by omega)) ?_
  refine wp_sld (i + 5) dL_law_330 rfl (by omega) (by omega) ?_
  refine wp_callV (As := [.int (gSx G (i + 1)), .int (gSx G (i + 2)), .int (gSx G (i + 3)), .int (gSx G (i + 4)), .int (gSx G (i + 5))]) (S := [.int r]) (b' := (0, 0)) (b := (0, 0)) dL_law_331 ML_17 (ka hF 293 (by decide)) rfl rfl rfl rfl (Nat.le_of_ble_eq_true rfl) ?_
  exact e1

theorem bL_0c {G : Cx} {d : Nat} {m : Mm} {Q : Option Value → Mm → Prop} {i : Nat} {s0 : Int32} {r : Int32} (hF : Full G m) (hi : i + 7 ≤ gSl G) (hl : gSl G < 4000) 
    (e1 : s0 = r → WP G (d + 100) (0, 0) μL_law 18 [.ref (gSa G), .ref (gB G), .ref (gB G + 293), .int (nI (i + 7))] [] m Q)
    (e2 : ¬ s0 = r → Q (some (.int (0 : Int32))) m) :
    WP G (d + 100) (0, 0) μL_law 334 [.ref (gSa G), .ref (gB G), .ref (gB G + 293), .int (nI i)] [.int r, .int s0] m Q := by
  refine wp_icmp_eq 1790 dL_law_334 (by decide) (fun q1 => ?_) (fun q2 => ?_)
  · skip
    refine wp_iinc (nI (i + 7)) dL_law_1790 rfl (by decide) (nadd (a := i) (b := 7) (by omega)) rfl ?_
    refine wp_goto 18 dL_law_1793 (by decide) ?_
    refine wp_forget [.ref (gSa G), .ref (gB G), .ref (gB G + 293), .int (nI (i + 7))] ⟨Or.inl rfl, Or.inl rfl, Or.inl rfl, Or.inl rfl, trivial⟩ ?_
    exact e1 q1
  · skip
    refine wp_iconst (0 : Int32) dL_law_337 (by decide) ?_
    exact wp_zret dL_law_338 rfl rfl (e2 q2)

theorem bL_1a {G : Cx} {d : Nat} {m : Mm} {Q : Option Value → Mm → Prop} {i : Nat} (hF : Full G m) (hi : i + 7 ≤ gSl G) (hl : gSl G < 4000) 
    (e1 : WPM G (d + 99) (0, 0) μX10_nodeCount [.ref (gB G)] m (fun r' m' => WP G (d + 100) (0, 0) μL_law 343 [.ref (gSa G), .ref (gB G), .ref (gB G + 293), .int (nI i)] (r'.toList ++ []) m' Q)) :
    WP G (d + 100) (0, 0) μL_law 339 [.ref (gSa G), .ref (gB G), .ref (gB G + 293), .int (nI i)] [] m Q := by
  refine wp_aload_n dL_law_339 rfl ?_
  refine wp_callV (As := []) (S := []) (b' := (0, 0)) (b := (0, 0)) dL_law_340 ML_18 (ka0 hF) rfl rfl rfl rfl (Nat.le_of_ble_eq_true rfl) ?_
  exact e1

theorem bL_1b {G : Cx} {d : Nat} {m : Mm} {Q : Option Value → Mm → Prop} {i : Nat} {r : Int32} (hF : Full G m) (hi : i + 7 ≤ gSl G) (hl : gSl G < 4000) 
    (e1 : WPM G (d + 99) (0, 0) μX11_nodeCount [.ref (gB G + 293)] m (fun r' m' => WP G (d + 100) (0, 0) μL_law 347 [.ref (gSa G), .ref (gB G), .ref (gB G + 293), .int (nI i)] (r'.toList ++ [.int r]) m' Q)) :
    WP G (d + 100) (0, 0) μL_law 343 [.ref (gSa G), .ref (gB G), .ref (gB G + 293), .int (nI i)] [.int r] m Q := by
  refine wp_aload_n dL_law_343 rfl ?_
  refine wp_callV (As := []) (S := [.int r]) (b' := (0, 0)) (b := (0, 0)) dL_law_344 ML_22 (ka hF 293 (by decide)) rfl rfl rfl rfl (Nat.le_of_ble_eq_true rfl) ?_
  exact e1

theorem bL_1c {G : Cx} {d : Nat} {m : Mm} {Q : Option Value → Mm → Prop} {i : Nat} {s0 : Int32} {r : Int32} (hF : Full G m) (hi : i + 7 ≤ gSl G) (hl : gSl G < 4000) 
    (e1 : s0 = r → WP G (d + 100) (0, 0) μL_law 18 [.ref (gSa G), .ref (gB G), .ref (gB G + 293), .int (nI (i + 7))] [] m Q)
    (e2 : ¬ s0 = r → Q (some (.int (0 : Int32))) m) :
    WP G (d + 100) (0, 0) μL_law 347 [.ref (gSa G), .ref (gB G), .ref (gB G + 293), .int (nI i)] [.int r, .int s0] m Q := by
  refine wp_icmp_eq 1790 dL_law_347 (by decide) (fun q1 => ?_) (fun q2 => ?_)
  · skip
    refine wp_iinc (nI (i + 7)) dL_law_1790 rfl (by decide) (nadd (a := i) (b := 7) (by omega)) rfl ?_
    refine wp_goto 18 dL_law_1793 (by decide) ?_
    refine wp_forget [.ref (gSa G), .ref (gB G), .ref (gB G + 293), .int (nI (i + 7))] ⟨Or.inl rfl, Or.inl rfl, Or.inl rfl, Or.inl rfl, trivial⟩ ?_
    exact e1 q1
  · skip
    refine wp_iconst (0 : Int32) dL_law_350 (by decide) ?_
    exact wp_zret dL_law_351 rfl rfl (e2 q2)

theorem bL_2a {G : Cx} {d : Nat} {m : Mm} {Q : Option Value → Mm → Prop} {i : Nat} (hF : Full G m) (hi : i + 7 ≤ gSl G) (hl : gSl G < 4000) 
    (e1 : WPM G (d + 99) (0, 0) μX10_setLimits [.ref (gB G), .int (gSx G (i + 1)), .int (gSx G (i + 2)), .int (gSx G (i + 3))] m (fun r' m' => WP G (d + 100) (0, 0) μL_law 371 [.ref (gSa G), .ref (gB G), .ref (gB G + 293), .int (nI i)] (r'.toList ++ []) m' Q)) :
    WP G (d + 100) (0, 0) μL_law 352 [.ref (gSa G), .ref (gB G), .ref (gB G + 293), .int (nI i)] [] m Q := by
  refine wp_aload_n dL_law_352 rfl ?_
  refine wp_aload_n dL_law_353 rfl ?_
  refine wp_iload_n dL_law_354 rfl ?_
  refine wp_iconst (1 : Int32) dL_law_355 (by decide) ?_
  refine wp_iaddv (nI (i + 1)) dL_law_356 (nadd (a := i) (b := 1) (by omega)) ?_
  refine wp_sld (i + 1) dL_law_357 rfl (by omega) (by omega) ?_
  refine wp_aload_n dL_law_358 rfl ?_
  refine wp_iload_n dL_law_359 rfl ?_
  refine wp_iconst (2 : Int32) dL_law_360 (by decide) ?_
  refine wp_iaddv (nI (i + 2)) dL_law_361 (nadd (a := i) (b := 2) (by omega)) ?_
  refine wp_sld (i + 2) dL_law_362 rfl (by omega) (by omega) ?_
  refine wp_aload_n dL_law_363 rfl ?_
  refine wp_iload_n dL_law_364 rfl ?_
  refine wp_iconst (3 : Int32) dL_law_365 (by decide) ?_
  refine wp_iaddv (nI (i + 3)) dL_law_366 (nadd (a := i) (b := 3) (by omega)) ?_
  refine wp_sld (i + 3) dL_law_367 rfl (by omega) (by omega) ?_
  refine wp_callV (As := [.int (gSx G (i + 1)), .int (gSx G (i + 2)), .int (gSx G (i + 3))]) (S := []) (b' := (0, 0)) (b := (0, 0)) dL_law_368 ML_23 (ka0 hF) rfl rfl rfl rfl (Nat.le_of_ble_eq_true rfl) ?_
  exact e1

theorem bL_2b {G : Cx} {d : Nat} {m : Mm} {Q : Option Value → Mm → Prop} {i : Nat} {r : Int32} (hF : Full G m) (hi : i + 7 ≤ gSl G) (hl : gSl G < 4000) 
    (e1 : WPM G (d + 99) (0, 0) μX11_setLimits [.ref (gB G + 293), .int (gSx G (i + 1)), .int (gSx G (i + 2)), .int (gSx G (i + 3))] m (fun r' m' => WP G (d + 100) (0, 0) μL_law 390 [.ref (gSa G), .ref (gB G), .ref (gB G + 293), .int (nI i)] (r'.toList ++ [.int r]) m' Q)) :
    WP G (d + 100) (0, 0) μL_law 371 [.ref (gSa G), .ref (gB G), .ref (gB G + 293), .int (nI i)] [.int r] m Q := by
  refine wp_aload_n dL_law_371 rfl ?_
  refine wp_aload_n dL_law_372 rfl ?_
  refine wp_iload_n dL_law_373 rfl ?_
  refine wp_iconst (1 : Int32) dL_law_374 (by decide) ?_
  refine wp_iaddv (nI (i + 1)) dL_law_375 (nadd (a := i) (b := 1) (by omega)) ?_
  refine wp_sld (i + 1) dL_law_376 rfl (by omega) (by omega) ?_
  refine wp_aload_n dL_law_377 rfl ?_
  refine wp_iload_n dL_law_378 rfl ?_
  refine wp_iconst (2 : Int32) dL_law_379 (by decide) ?_
  refine wp_iaddv (nI (i + 2)) dL_law_380 (nadd (a := i) (b := 2) (by omega)) ?_
  refine wp_sld (i + 2) dL_law_381 rfl (by omega) (by omega) ?_
  refine wp_aload_n dL_law_382 rfl ?_
  refine wp_iload_n dL_law_383 rfl ?_
  refine wp_iconst (3 : Int32) dL_law_384 (by decide) ?_
  refine wp_iaddv (nI (i + 3)) dL_law_385 (nadd (a := i) (b := 3) (by omega)) ?_
  refine wp_sld (i + 3) dL_law_386 rfl (by omega) (by omega) ?_
  refine wp_callV (As := [.int (gSx G (i + 1)), .int (gSx G (i + 2)), .int (gSx G (i + 3))]) (S := [.int r]) (b' := (0, 0)) (b := (0, 0)) dL_law_387 ML_27 (ka hF 293 (by decide)) rfl rfl rfl rfl (Nat.le_of_ble_eq_true rfl) ?_
  exact e1

theorem bL_2c {G : Cx} {d : Nat} {m : Mm} {Q : Option Value → Mm → Prop} {i : Nat} {s0 : Int32} {r : Int32} (hF : Full G m) (hi : i + 7 ≤ gSl G) (hl : gSl G < 4000) 
    (e1 : s0 = r → WP G (d + 100) (0, 0) μL_law 18 [.ref (gSa G), .ref (gB G), .ref (gB G + 293), .int (nI (i + 7))] [] m Q)
    (e2 : ¬ s0 = r → Q (some (.int (0 : Int32))) m) :
    WP G (d + 100) (0, 0) μL_law 390 [.ref (gSa G), .ref (gB G), .ref (gB G + 293), .int (nI i)] [.int r, .int s0] m Q := by
  refine wp_icmp_eq 1790 dL_law_390 (by decide) (fun q1 => ?_) (fun q2 => ?_)
  · skip
    refine wp_iinc (nI (i + 7)) dL_law_1790 rfl (by decide) (nadd (a := i) (b := 7) (by omega)) rfl ?_
    refine wp_goto 18 dL_law_1793 (by decide) ?_
    refine wp_forget [.ref (gSa G), .ref (gB G), .ref (gB G + 293), .int (nI (i + 7))] ⟨Or.inl rfl, Or.inl rfl, Or.inl rfl, Or.inl rfl, trivial⟩ ?_
    exact e1 q1
  · skip
    refine wp_iconst (0 : Int32) dL_law_393 (by decide) ?_
    exact wp_zret dL_law_394 rfl rfl (e2 q2)

theorem bL_3a {G : Cx} {d : Nat} {m : Mm} {Q : Option Value → Mm → Prop} {i : Nat} (hF : Full G m) (hi : i + 7 ≤ gSl G) (hl : gSl G < 4000) 
    (e1 : WPM G (d + 99) (0, 0) μX10_setTemperature [.ref (gB G), .int (gSx G (i + 1)), .int (gSx G (i + 2))] m (fun r' m' => WP G (d + 100) (0, 0) μL_law 409 [.ref (gSa G), .ref (gB G), .ref (gB G + 293), .int (nI i)] (r'.toList ++ []) m' Q)) :
    WP G (d + 100) (0, 0) μL_law 395 [.ref (gSa G), .ref (gB G), .ref (gB G + 293), .int (nI i)] [] m Q := by
  refine wp_aload_n dL_law_395 rfl ?_
  refine wp_aload_n dL_law_396 rfl ?_
  refine wp_iload_n dL_law_397 rfl ?_
  refine wp_iconst (1 : Int32) dL_law_398 (by decide) ?_
  refine wp_iaddv (nI (i + 1)) dL_law_399 (nadd (a := i) (b := 1) (by omega)) ?_
  refine wp_sld (i + 1) dL_law_400 rfl (by omega) (by omega) ?_
  refine wp_aload_n dL_law_401 rfl ?_
  refine wp_iload_n dL_law_402 rfl ?_
  refine wp_iconst (2 : Int32) dL_law_403 (by decide) ?_
  refine wp_iaddv (nI (i + 2)) dL_law_404 (nadd (a := i) (b := 2) (by omega)) ?_
  refine wp_sld (i + 2) dL_law_405 rfl (by omega) (by omega) ?_
  refine wp_callV (As := [.int (gSx G (i + 1)), .int (gSx G (i + 2))]) (S := []) (b' := (0, 0)) (b := (0, 0)) dL_law_406 ML_28 (ka0 hF) rfl rfl rfl rfl (Nat.le_of_ble_eq_true rfl) ?_
  exact e1

theorem bL_3b {G : Cx} {d : Nat} {m : Mm} {Q : Option Value → Mm → Prop} {i : Nat} {r : Int32} (hF : Full G m) (hi : i + 7 ≤ gSl G) (hl : gSl G < 4000) 
    (e1 : WPM G (d + 99) (0, 0) μX11_setTemperature [.ref (gB G + 293), .int (gSx G (i + 1)), .int (gSx G (i + 2))] m (fun r' m' => WP G (d + 100) (0, 0) μL_law 423 [.ref (gSa G), .ref (gB G), .ref (gB G + 293), .int (nI i)] (r'.toList ++ [.int r]) m' Q)) :
    WP G (d + 100) (0, 0) μL_law 409 [.ref (gSa G), .ref (gB G), .ref (gB G + 293), .int (nI i)] [.int r] m Q := by
  refine wp_aload_n dL_law_409 rfl ?_
  refine wp_aload_n dL_law_410 rfl ?_
  refine wp_iload_n dL_law_411 rfl ?_
  refine wp_iconst (1 : Int32) dL_law_412 (by decide) ?_
  refine wp_iaddv (nI (i + 1)) dL_law_413 (nadd (a := i) (b := 1) (by omega)) ?_
  refine wp_sld (i + 1) dL_law_414 rfl (by omega) (by omega) ?_
  refine wp_aload_n dL_law_415 rfl ?_
  refine wp_iload_n dL_law_416 rfl ?_
  refine wp_iconst (2 : Int32) dL_law_417 (by decide) ?_
  refine wp_iaddv (nI (i + 2)) dL_law_418 (nadd (a := i) (b := 2) (by omega)) ?_
  refine wp_sld (i + 2) dL_law_419 rfl (by omega) (by omega) ?_
  refine wp_callV (As := [.int (gSx G (i + 1)), .int (gSx G (i + 2))]) (S := [.int r]) (b' := (0, 0)) (b := (0, 0)) dL_law_420 ML_32 (ka hF 293 (by decide)) rfl rfl rfl rfl (Nat.le_of_ble_eq_true rfl) ?_
  exact e1

theorem bL_3c {G : Cx} {d : Nat} {m : Mm} {Q : Option Value → Mm → Prop} {i : Nat} {s0 : Int32} {r : Int32} (hF : Full G m) (hi : i + 7 ≤ gSl G) (hl : gSl G < 4000) 
    (e1 : s0 = r → WP G (d + 100) (0, 0) μL_law 18 [.ref (gSa G), .ref (gB G), .ref (gB G + 293), .int (nI (i + 7))] [] m Q)
    (e2 : ¬ s0 = r → Q (some (.int (0 : Int32))) m) :
    WP G (d + 100) (0, 0) μL_law 423 [.ref (gSa G), .ref (gB G), .ref (gB G + 293), .int (nI i)] [.int r, .int s0] m Q := by
  refine wp_icmp_eq 1790 dL_law_423 (by decide) (fun q1 => ?_) (fun q2 => ?_)
  · skip
    refine wp_iinc (nI (i + 7)) dL_law_1790 rfl (by decide) (nadd (a := i) (b := 7) (by omega)) rfl ?_
    refine wp_goto 18 dL_law_1793 (by decide) ?_
    refine wp_forget [.ref (gSa G), .ref (gB G), .ref (gB G + 293), .int (nI (i + 7))] ⟨Or.inl rfl, Or.inl rfl, Or.inl rfl, Or.inl rfl, trivial⟩ ?_
    exact e1 q1
  · skip
    refine wp_iconst (0 : Int32) dL_law_426 (by decide) ?_
    exact wp_zret dL_law_427 rfl rfl (e2 q2)

theorem bL_4a {G : Cx} {d : Nat} {m : Mm} {Q : Option Value → Mm → Prop} {i : Nat} (hF : Full G m) (hi : i + 7 ≤ gSl G) (hl : gSl G < 4000) 
    (e1 : WPM G (d + 99) (0, 0) μX10_setLoad [.ref (gB G), .int (gSx G (i + 1)), .int (gSx G (i + 2))] m (fun r' m' => WP G (d + 100) (0, 0) μL_law 442 [.ref (gSa G), .ref (gB G), .ref (gB G + 293), .int (nI i)] (r'.toList ++ []) m' Q)) :
    WP G (d + 100) (0, 0) μL_law 428 [.ref (gSa G), .ref (gB G), .ref (gB G + 293), .int (nI i)] [] m Q := by
  refine wp_aload_n dL_law_428 rfl ?_
  refine wp_aload_n dL_law_429 rfl ?_
  refine wp_iload_n dL_law_430 rfl ?_
  refine wp_iconst (1 : Int32) dL_law_431 (by decide) ?_
  refine wp_iaddv (nI (i + 1)) dL_law_432 (nadd (a := i) (b := 1) (by omega)) ?_
  refine wp_sld (i + 1) dL_law_433 rfl (by omega) (by omega) ?_
  refine wp_aload_n dL_law_434 rfl ?_
  refine wp_iload_n dL_law_435 rfl ?_
  refine wp_iconst (2 : Int32) dL_law_436 (by decide) ?_
  refine wp_iaddv (nI (i + 2)) dL_law_437 (nadd (a := i) (b := 2) (by omega)) ?_
  refine wp_sld (i + 2) dL_law_438 rfl (by omega) (by omega) ?_
  refine wp_callV (As := [.int (gSx G (i + 1)), .int (gSx G (i + 2))]) (S := []) (b' := (0, 0)) (b := (0, 0)) dL_law_439 ML_33 (ka0 hF) rfl rfl rfl rfl (Nat.le_of_ble_eq_true rfl) ?_
  exact e1

theorem bL_4b {G : Cx} {d : Nat} {m : Mm} {Q : Option Value → Mm → Prop} {i : Nat} {r : Int32} (hF : Full G m) (hi : i + 7 ≤ gSl G) (hl : gSl G < 4000) 
    (e1 : WPM G (d + 99) (0, 0) μX11_setLoad [.ref (gB G + 293), .int (gSx G (i + 1)), .int (gSx G (i + 2))] m (fun r' m' => WP G (d + 100) (0, 0) μL_law 456 [.ref (gSa G), .ref (gB G), .ref (gB G + 293), .int (nI i)] (r'.toList ++ [.int r]) m' Q)) :
    WP G (d + 100) (0, 0) μL_law 442 [.ref (gSa G), .ref (gB G), .ref (gB G + 293), .int (nI i)] [.int r] m Q := by
  refine wp_aload_n dL_law_442 rfl ?_
  refine wp_aload_n dL_law_443 rfl ?_
  refine wp_iload_n dL_law_444 rfl ?_
  refine wp_iconst (1 : Int32) dL_law_445 (by decide) ?_
  refine wp_iaddv (nI (i + 1)) dL_law_446 (nadd (a := i) (b := 1) (by omega)) ?_
  refine wp_sld (i + 1) dL_law_447 rfl (by omega) (by omega) ?_
  refine wp_aload_n dL_law_448 rfl ?_
  refine wp_iload_n dL_law_449 rfl ?_
  refine wp_iconst (2 : Int32) dL_law_450 (by decide) ?_
  refine wp_iaddv (nI (i + 2)) dL_law_451 (nadd (a := i) (b := 2) (by omega)) ?_
  refine wp_sld (i + 2) dL_law_452 rfl (by omega) (by omega) ?_
  refine wp_callV (As := [.int (gSx G (i + 1)), .int (gSx G (i + 2))]) (S := [.int r]) (b' := (0, 0)) (b := (0, 0)) dL_law_453 ML_36 (ka hF 293 (by decide)) rfl rfl rfl rfl (Nat.le_of_ble_eq_true rfl) ?_
  exact e1

theorem bL_4c {G : Cx} {d : Nat} {m : Mm} {Q : Option Value → Mm → Prop} {i : Nat} {s0 : Int32} {r : Int32} (hF : Full G m) (hi : i + 7 ≤ gSl G) (hl : gSl G < 4000) 
    (e1 : s0 = r → WP G (d + 100) (0, 0) μL_law 18 [.ref (gSa G), .ref (gB G), .ref (gB G + 293), .int (nI (i + 7))] [] m Q)
    (e2 : ¬ s0 = r → Q (some (.int (0 : Int32))) m) :
    WP G (d + 100) (0, 0) μL_law 456 [.ref (gSa G), .ref (gB G), .ref (gB G + 293), .int (nI i)] [.int r, .int s0] m Q := by
  refine wp_icmp_eq 1790 dL_law_456 (by decide) (fun q1 => ?_) (fun q2 => ?_)
  · skip
    refine wp_iinc (nI (i + 7)) dL_law_1790 rfl (by decide) (nadd (a := i) (b := 7) (by omega)) rfl ?_
    refine wp_goto 18 dL_law_1793 (by decide) ?_
    refine wp_forget [.ref (gSa G), .ref (gB G), .ref (gB G + 293), .int (nI (i + 7))] ⟨Or.inl rfl, Or.inl rfl, Or.inl rfl, Or.inl rfl, trivial⟩ ?_
    exact e1 q1
  · skip
    refine wp_iconst (0 : Int32) dL_law_459 (by decide) ?_
    exact wp_zret dL_law_460 rfl rfl (e2 q2)

theorem bL_5a {G : Cx} {d : Nat} {m : Mm} {Q : Option Value → Mm → Prop} {i : Nat} (hF : Full G m) (hi : i + 7 ≤ gSl G) (hl : gSl G < 4000) 
    (e1 : WPM G (d + 99) (0, 0) μX10_link [.ref (gB G), .int (gSx G (i + 1)), .int (gSx G (i + 2)), .int (gSx G (i + 3))] m (fun r' m' => WP G (d + 100) (0, 0) μL_law 480 [.ref (gSa G), .ref (gB G), .ref (gB G + 293), .int (nI i)] (r'.toList ++ []) m' Q)) :
    WP G (d + 100) (0, 0) μL_law 461 [.ref (gSa G), .ref (gB G), .ref (gB G + 293), .int (nI i)] [] m Q := by
  refine wp_aload_n dL_law_461 rfl ?_
  refine wp_aload_n dL_law_462 rfl ?_
  refine wp_iload_n dL_law_463 rfl ?_
  refine wp_iconst (1 : Int32) dL_law_464 (by decide) ?_
  refine wp_iaddv (nI (i + 1)) dL_law_465 (nadd (a := i) (b := 1) (by omega)) ?_
  refine wp_sld (i + 1) dL_law_466 rfl (by omega) (by omega) ?_
  refine wp_aload_n dL_law_467 rfl ?_
  refine wp_iload_n dL_law_468 rfl ?_
  refine wp_iconst (2 : Int32) dL_law_469 (by decide) ?_
  refine wp_iaddv (nI (i + 2)) dL_law_470 (nadd (a := i) (b := 2) (by omega)) ?_
  refine wp_sld (i + 2) dL_law_471 rfl (by omega) (by omega) ?_
  refine wp_aload_n dL_law_472 rfl ?_
  refine wp_iload_n dL_law_473 rfl ?_
  refine wp_iconst (3 : Int32) dL_law_474 (by decide) ?_
  refine wp_iaddv (nI (i + 3)) dL_law_475 (nadd (a := i) (b := 3) (by omega)) ?_
  refine wp_sld (i + 3) dL_law_476 rfl (by omega) (by omega) ?_
  refine wp_callV (As := [.int (gSx G (i + 1)), .int (gSx G (i + 2)), .int (gSx G (i + 3))]) (S := []) (b' := (0, 0)) (b := (0, 0)) dL_law_477 ML_37 (ka0 hF) rfl rfl rfl rfl (Nat.le_of_ble_eq_true rfl) ?_
  exact e1

theorem bL_5b {G : Cx} {d : Nat} {m : Mm} {Q : Option Value → Mm → Prop} {i : Nat} {r : Int32} (hF : Full G m) (hi : i + 7 ≤ gSl G) (hl : gSl G < 4000) 
    (e1 : WPM G (d + 99) (0, 0) μX11_link [.ref (gB G + 293), .int (gSx G (i + 1)), .int (gSx G (i + 2)), .int (gSx G (i + 3))] m (fun r' m' => WP G (d + 100) (0, 0) μL_law 499 [.ref (gSa G), .ref (gB G), .ref (gB G + 293), .int (nI i)] (r'.toList ++ [.int r]) m' Q)) :
    WP G (d + 100) (0, 0) μL_law 480 [.ref (gSa G), .ref (gB G), .ref (gB G + 293), .int (nI i)] [.int r] m Q := by
  refine wp_aload_n dL_law_480 rfl ?_
  refine wp_aload_n dL_law_481 rfl ?_
  refine wp_iload_n dL_law_482 rfl ?_
  refine wp_iconst (1 : Int32) dL_law_483 (by decide) ?_
  refine wp_iaddv (nI (i + 1)) dL_law_484 (nadd (a := i) (b := 1) (by omega)) ?_
  refine wp_sld (i + 1) dL_law_485 rfl (by omega) (by omega) ?_
  refine wp_aload_n dL_law_486 rfl ?_
  refine wp_iload_n dL_law_487 rfl ?_
  refine wp_iconst (2 : Int32) dL_law_488 (by decide) ?_
  refine wp_iaddv (nI (i + 2)) dL_law_489 (nadd (a := i) (b := 2) (by omega)) ?_
  refine wp_sld (i + 2) dL_law_490 rfl (by omega) (by omega) ?_
  refine wp_aload_n dL_law_491 rfl ?_
  refine wp_iload_n dL_law_492 rfl ?_
  refine wp_iconst (3 : Int32) dL_law_493 (by decide) ?_
  refine wp_iaddv (nI (i + 3)) dL_law_494 (nadd (a := i) (b := 3) (by omega)) ?_
  refine wp_sld (i + 3) dL_law_495 rfl (by omega) (by omega) ?_
  refine wp_callV (As := [.int (gSx G (i + 1)), .int (gSx G (i + 2)), .int (gSx G (i + 3))]) (S := [.int r]) (b' := (0, 0)) (b := (0, 0)) dL_law_496 ML_40 (ka hF 293 (by decide)) rfl rfl rfl rfl (Nat.le_of_ble_eq_true rfl) ?_
  exact e1

theorem bL_5c {G : Cx} {d : Nat} {m : Mm} {Q : Option Value → Mm → Prop} {i : Nat} {s0 : Int32} {r : Int32} (hF : Full G m) (hi : i + 7 ≤ gSl G) (hl : gSl G < 4000) 
    (e1 : s0 = r → WP G (d + 100) (0, 0) μL_law 18 [.ref (gSa G), .ref (gB G), .ref (gB G + 293), .int (nI (i + 7))] [] m Q)
    (e2 : ¬ s0 = r → Q (some (.int (0 : Int32))) m) :
    WP G (d + 100) (0, 0) μL_law 499 [.ref (gSa G), .ref (gB G), .ref (gB G + 293), .int (nI i)] [.int r, .int s0] m Q := by
  refine wp_icmp_eq 1790 dL_law_499 (by decide) (fun q1 => ?_) (fun q2 => ?_)
  · skip
    refine wp_iinc (nI (i + 7)) dL_law_1790 rfl (by decide) (nadd (a := i) (b := 7) (by omega)) rfl ?_
    refine wp_goto 18 dL_law_1793 (by decide) ?_
    refine wp_forget [.ref (gSa G), .ref (gB G), .ref (gB G + 293), .int (nI (i + 7))] ⟨Or.inl rfl, Or.inl rfl, Or.inl rfl, Or.inl rfl, trivial⟩ ?_
    exact e1 q1
  · skip
    refine wp_iconst (0 : Int32) dL_law_502 (by decide) ?_
    exact wp_zret dL_law_503 rfl rfl (e2 q2)

theorem bL_6a {G : Cx} {d : Nat} {m : Mm} {Q : Option Value → Mm → Prop} {i : Nat} (hF : Full G m) (hi : i + 7 ≤ gSl G) (hl : gSl G < 4000) 
    (e1 : WPM G (d + 99) (0, 0) μX10_conductance [.ref (gB G), .int (gSx G (i + 1)), .int (gSx G (i + 2))] m (fun r' m' => WP G (d + 100) (0, 0) μL_law 518 [.ref (gSa G), .ref (gB G), .ref (gB G + 293), .int (nI i)] (r'.toList ++ []) m' Q)) :
    WP G (d + 100) (0, 0) μL_law 504 [.ref (gSa G), .ref (gB G), .ref (gB G + 293), .int (nI i)] [] m Q := by
  refine wp_aload_n dL_law_504 rfl ?_
  refine wp_aload_n dL_law_505 rfl ?_
  refine wp_iload_n dL_law_506 rfl ?_
  refine wp_iconst (1 : Int32) dL_law_507 (by decide) ?_
  refine wp_iaddv (nI (i + 1)) dL_law_508 (nadd (a := i) (b := 1) (by omega)) ?_
  refine wp_sld (i + 1) dL_law_509 rfl (by omega) (by omega) ?_
  refine wp_aload_n dL_law_510 rfl ?_
  refine wp_iload_n dL_law_511 rfl ?_
  refine wp_iconst (2 : Int32) dL_law_512 (by decide) ?_
  refine wp_iaddv (nI (i + 2)) dL_law_513 (nadd (a := i) (b := 2) (by omega)) ?_
  refine wp_sld (i + 2) dL_law_514 rfl (by omega) (by omega) ?_
  refine wp_callV (As := [.int (gSx G (i + 1)), .int (gSx G (i + 2))]) (S := []) (b' := (0, 0)) (b := (0, 0)) dL_law_515 ML_41 (ka0 hF) rfl rfl rfl rfl (Nat.le_of_ble_eq_true rfl) ?_
  exact e1

theorem bL_6b {G : Cx} {d : Nat} {m : Mm} {Q : Option Value → Mm → Prop} {i : Nat} {r : Int32} (hF : Full G m) (hi : i + 7 ≤ gSl G) (hl : gSl G < 4000) 
    (e1 : WPM G (d + 99) (0, 0) μX11_conductance [.ref (gB G + 293), .int (gSx G (i + 1)), .int (gSx G (i + 2))] m (fun r' m' => WP G (d + 100) (0, 0) μL_law 532 [.ref (gSa G), .ref (gB G), .ref (gB G + 293), .int (nI i)] (r'.toList ++ [.int r]) m' Q)) :
    WP G (d + 100) (0, 0) μL_law 518 [.ref (gSa G), .ref (gB G), .ref (gB G + 293), .int (nI i)] [.int r] m Q := by
  refine wp_aload_n dL_law_518 rfl ?_
  refine wp_aload_n dL_law_519 rfl ?_
  refine wp_iload_n dL_law_520 rfl ?_
  refine wp_iconst (1 : Int32) dL_law_521 (by decide) ?_
  refine wp_iaddv (nI (i + 1)) dL_law_522 (nadd (a := i) (b := 1) (by omega)) ?_
  refine wp_sld (i + 1) dL_law_523 rfl (by omega) (by omega) ?_
  refine wp_aload_n dL_law_524 rfl ?_
  refine wp_iload_n dL_law_525 rfl ?_
  refine wp_iconst (2 : Int32) dL_law_526 (by decide) ?_
  refine wp_iaddv (nI (i + 2)) dL_law_527 (nadd (a := i) (b := 2) (by omega)) ?_
  refine wp_sld (i + 2) dL_law_528 rfl (by omega) (by omega) ?_
  refine wp_callV (As := [.int (gSx G (i + 1)), .int (gSx G (i + 2))]) (S := [.int r]) (b' := (0, 0)) (b := (0, 0)) dL_law_529 ML_44 (ka hF 293 (by decide)) rfl rfl rfl rfl (Nat.le_of_ble_eq_true rfl) ?_
  exact e1

theorem bL_6c {G : Cx} {d : Nat} {m : Mm} {Q : Option Value → Mm → Prop} {i : Nat} {s0 : Int32} {r : Int32} (hF : Full G m) (hi : i + 7 ≤ gSl G) (hl : gSl G < 4000) 
    (e1 : s0 = r → WP G (d + 100) (0, 0) μL_law 18 [.ref (gSa G), .ref (gB G), .ref (gB G + 293), .int (nI (i + 7))] [] m Q)
    (e2 : ¬ s0 = r → Q (some (.int (0 : Int32))) m) :
    WP G (d + 100) (0, 0) μL_law 532 [.ref (gSa G), .ref (gB G), .ref (gB G + 293), .int (nI i)] [.int r, .int s0] m Q := by
  refine wp_icmp_eq 1790 dL_law_532 (by decide) (fun q1 => ?_) (fun q2 => ?_)
  · skip
    refine wp_iinc (nI (i + 7)) dL_law_1790 rfl (by decide) (nadd (a := i) (b := 7) (by omega)) rfl ?_
    refine wp_goto 18 dL_law_1793 (by decide) ?_
    refine wp_forget [.ref (gSa G), .ref (gB G), .ref (gB G + 293), .int (nI (i + 7))] ⟨Or.inl rfl, Or.inl rfl, Or.inl rfl, Or.inl rfl, trivial⟩ ?_
    exact e1 q1
  · skip
    refine wp_iconst (0 : Int32) dL_law_535 (by decide) ?_
    exact wp_zret dL_law_536 rfl rfl (e2 q2)

theorem bL_7a {G : Cx} {d : Nat} {m : Mm} {Q : Option Value → Mm → Prop} {i : Nat} (hF : Full G m) (hi : i + 7 ≤ gSl G) (hl : gSl G < 4000) 
    (e1 : WPM G (d + 99) (0, 0) μX10_linkCount [.ref (gB G)] m (fun r' m' => WP G (d + 100) (0, 0) μL_law 541 [.ref (gSa G), .ref (gB G), .ref (gB G + 293), .int (nI i)] (r'.toList ++ []) m' Q)) :
    WP G (d + 100) (0, 0) μL_law 537 [.ref (gSa G), .ref (gB G), .ref (gB G + 293), .int (nI i)] [] m Q := by
  refine wp_aload_n dL_law_537 rfl ?_
  refine wp_callV (As := []) (S := []) (b' := (0, 0)) (b := (0, 0)) dL_law_538 ML_45 (ka0 hF) rfl rfl rfl rfl (Nat.le_of_ble_eq_true rfl) ?_
  exact e1

theorem bL_7b {G : Cx} {d : Nat} {m : Mm} {Q : Option Value → Mm → Prop} {i : Nat} {r : Int32} (hF : Full G m) (hi : i + 7 ≤ gSl G) (hl : gSl G < 4000) 
    (e1 : WPM G (d + 99) (0, 0) μX11_linkCount [.ref (gB G + 293)] m (fun r' m' => WP G (d + 100) (0, 0) μL_law 545 [.ref (gSa G), .ref (gB G), .ref (gB G + 293), .int (nI i)] (r'.toList ++ [.int r]) m' Q)) :
    WP G (d + 100) (0, 0) μL_law 541 [.ref (gSa G), .ref (gB G), .ref (gB G + 293), .int (nI i)] [.int r] m Q := by
  refine wp_aload_n dL_law_541 rfl ?_
  refine wp_callV (As := []) (S := [.int r]) (b' := (0, 0)) (b := (0, 0)) dL_law_542 ML_48 (ka hF 293 (by decide)) rfl rfl rfl rfl (Nat.le_of_ble_eq_true rfl) ?_
  exact e1

theorem bL_7c {G : Cx} {d : Nat} {m : Mm} {Q : Option Value → Mm → Prop} {i : Nat} {s0 : Int32} {r : Int32} (hF : Full G m) (hi : i + 7 ≤ gSl G) (hl : gSl G < 4000) 
    (e1 : s0 = r → WP G (d + 100) (0, 0) μL_law 18 [.ref (gSa G), .ref (gB G), .ref (gB G + 293), .int (nI (i + 7))] [] m Q)
    (e2 : ¬ s0 = r → Q (some (.int (0 : Int32))) m) :
    WP G (d + 100) (0, 0) μL_law 545 [.ref (gSa G), .ref (gB G), .ref (gB G + 293), .int (nI i)] [.int r, .int s0] m Q := by
  refine wp_icmp_eq 1790 dL_law_545 (by decide) (fun q1 => ?_) (fun q2 => ?_)
  · skip
    refine wp_iinc (nI (i + 7)) dL_law_1790 rfl (by decide) (nadd (a := i) (b := 7) (by omega)) rfl ?_
    refine wp_goto 18 dL_law_1793 (by decide) ?_
    refine wp_forget [.ref (gSa G), .ref (gB G), .ref (gB G + 293), .int (nI (i + 7))] ⟨Or.inl rfl, Or.inl rfl, Or.inl rfl, Or.inl rfl, trivial⟩ ?_
    exact e1 q1
  · skip
    refine wp_iconst (0 : Int32) dL_law_548 (by decide) ?_
    exact wp_zret dL_law_549 rfl rfl (e2 q2)

theorem bL_8a {G : Cx} {d : Nat} {m : Mm} {Q : Option Value → Mm → Prop} {i : Nat} (hF : Full G m) (hi : i + 7 ≤ gSl G) (hl : gSl G < 4000) 
    (e1 : WPM G (d + 99) (0, 0) μX10_addLouvre [.ref (gB G), .int (gSx G (i + 1)), .int (gSx G (i + 2)), .int (gSx G (i + 3)), .int (gSx G (i + 4)), .int (gSx G (i + 5))] m (fun r' m' => WP G (d + 100) (0, 0) μL_law 579 [.ref (gSa G), .ref (gB G), .ref (gB G + 293), .int (nI i)] (r'.toList ++ []) m' Q)) :
    WP G (d + 100) (0, 0) μL_law 550 [.ref (gSa G), .ref (gB G), .ref (gB G + 293), .int (nI i)] [] m Q := by
  refine wp_aload_n dL_law_550 rfl ?_
  refine wp_aload_n dL_law_551 rfl ?_
  refine wp_iload_n dL_law_552 rfl ?_
  refine wp_iconst (1 : Int32) dL_law_553 (by decide) ?_
  refine wp_iaddv (nI (i + 1)) dL_law_554 (nadd (a := i) (b := 1) (by omega)) ?_
  refine wp_sld (i + 1) dL_law_555 rfl (by omega) (by omega) ?_
  refine wp_aload_n dL_law_556 rfl ?_
  refine wp_iload_n dL_law_557 rfl ?_
  refine wp_iconst (2 : Int32) dL_law_558 (by decide) ?_
  refine wp_iaddv (nI (i + 2)) dL_law_559 (nadd (a := i) (b := 2) (by omega)) ?_
  refine wp_sld (i + 2) dL_law_560 rfl (by omega) (by omega) ?_
  refine wp_aload_n dL_law_561 rfl ?_
  refine wp_iload_n dL_law_562 rfl ?_
  refine wp_iconst (3 : Int32) dL_law_563 (by decide) ?_
  refine wp_iaddv (nI (i + 3)) dL_law_564 (nadd (a := i) (b := 3) (by omega)) ?_
  refine wp_sld (i + 3) dL_law_565 rfl (by omega) (by omega) ?_
  refine wp_aload_n dL_law_566 rfl ?_
  refine wp_iload_n dL_law_567 rfl ?_
  refine wp_iconst (4 : Int32) dL_law_568 (by decide) ?_
  refine wp_iaddv (nI (i + 4)) dL_law_569 (nadd (a := i) (b := 4) (by omega)) ?_
  refine wp_sld (i + 4) dL_law_570 rfl (by omega) (by omega) ?_
  refine wp_aload_n dL_law_571 rfl ?_
  refine wp_iload_n dL_law_572 rfl ?_
  refine wp_iconst (5 : Int32) dL_law_573 (by decide) ?_
  refine wp_iaddv (nI (i + 5)) dL_law_574 (nadd (a := i) (b := 5) (by omega)) ?_
  refine wp_sld (i + 5) dL_law_575 rfl (by omega) (by omega) ?_
  refine wp_callV (As := [.int (gSx G (i + 1)), .int (gSx G (i + 2)), .int (gSx G (i + 3)), .int (gSx G (i + 4)), .int (gSx G (i + 5))]) (S := []) (b' := (0, 0)) (b := (0, 0)) dL_law_576 ML_49 (ka0 hF) rfl rfl rfl rfl (Nat.le_of_ble_eq_true rfl) ?_
  exact e1

theorem bL_8b {G : Cx} {d : Nat} {m : Mm} {Q : Option Value → Mm → Prop} {i : Nat} {r : Int32} (hF : Full G m) (hi : i + 7 ≤ gSl G) (hl : gSl G < 4000) 
    (e1 : WPM G (d + 99) (0, 0) μX11_addLouvre [.ref (gB G + 293), .int (gSx G (i + 1)), .int (gSx G (i + 2)), .int (gSx G (i + 3)), .int (gSx G (i + 4)), .int (gSx G (i + 5))] m (fun r' m' => WP G (d + 100) (0, 0) μL_law 608 [.ref (gSa G), .ref (gB G), .ref (gB G + 293), .int (nI i)] (r'.toList ++ [.int r]) m' Q)) :
    WP G (d + 100) (0, 0) μL_law 579 [.ref (gSa G), .ref (gB G), .ref (gB G + 293), .int (nI i)] [.int r] m Q := by
  refine wp_aload_n dL_law_579 rfl ?_
  refine wp_aload_n dL_law_580 rfl ?_
  refine wp_iload_n dL_law_581 rfl ?_
  refine wp_iconst (1 : Int32) dL_law_582 (by decide) ?_
  refine wp_iaddv (nI (i + 1)) dL_law_583 (nadd (a := i) (b := 1) (by omega)) ?_
  refine wp_sld (i + 1) dL_law_584 rfl (by omega) (by omega) ?_
  refine wp_aload_n dL_law_585 rfl ?_
  refine wp_iload_n dL_law_586 rfl ?_
  refine wp_iconst (2 : Int32) dL_law_587 (by decide) ?_
  refine wp_iaddv (nI (i + 2)) dL_law_588 (nadd (a := i) (b := 2) (by omega)) ?_
  refine wp_sld (i + 2) dL_law_589 rfl (by omega) (by omega) ?_
  refine wp_aload_n dL_law_590 rfl ?_
  refine wp_iload_n dL_law_591 rfl ?_
  refine wp_iconst (3 : Int32) dL_law_592 (by decide) ?_
  refine wp_iaddv (nI (i + 3)) dL_law_593 (nadd (a := i) (b := 3) (by omega)) ?_
  refine wp_sld (i + 3) dL_law_594 rfl (by omega) (by omega) ?_
  refine wp_aload_n dL_law_595 rfl ?_
  refine wp_iload_n dL_law_596 rfl ?_
  refine wp_iconst (4 : Int32) dL_law_597 (by decide) ?_
  refine wp_iaddv (nI (i + 4)) dL_law_598 (nadd (a := i) (b := 4) (by omega)) ?_
  refine wp_sld (i + 4) dL_law_599 rfl (by omega) (by omega) ?_
  refine wp_aload_n dL_law_600 rfl ?_
  refine wp_iload_n dL_law_601 rfl ?_
  refine wp_iconst (5 : Int32) dL_law_602 (by decide) ?_
  refine wp_iaddv (nI (i + 5)) dL_law_603 (nadd (a := i) (b := 5) (by omega)) ?_
  refine wp_sld (i + 5) dL_law_604 rfl (by omega) (by omega) ?_
  refine wp_callV (As := [.int (gSx G (i + 1)), .int (gSx G (i + 2)), .int (gSx G (i + 3)), .int (gSx G (i + 4)), .int (gSx G (i + 5))]) (S := [.int r]) (b' := (0, 0)) (b := (0, 0)) dL_law_605 ML_52 (ka hF 293 (by decide)) rfl rfl rfl rfl (Nat.le_of_ble_eq_true rfl) ?_
  exact e1

theorem bL_8c {G : Cx} {d : Nat} {m : Mm} {Q : Option Value → Mm → Prop} {i : Nat} {s0 : Int32} {r : Int32} (hF : Full G m) (hi : i + 7 ≤ gSl G) (hl : gSl G < 4000) 
    (e1 : s0 = r → WP G (d + 100) (0, 0) μL_law 18 [.ref (gSa G), .ref (gB G), .ref (gB G + 293), .int (nI (i + 7))] [] m Q)
    (e2 : ¬ s0 = r → Q (some (.int (0 : Int32))) m) :
    WP G (d + 100) (0, 0) μL_law 608 [.ref (gSa G), .ref (gB G), .ref (gB G + 293), .int (nI i)] [.int r, .int s0] m Q := by
  refine wp_icmp_eq 1790 dL_law_608 (by decide) (fun q1 => ?_) (fun q2 => ?_)
  · skip
    refine wp_iinc (nI (i + 7)) dL_law_1790 rfl (by decide) (nadd (a := i) (b := 7) (by omega)) rfl ?_
    refine wp_goto 18 dL_law_1793 (by decide) ?_
    refine wp_forget [.ref (gSa G), .ref (gB G), .ref (gB G + 293), .int (nI (i + 7))] ⟨Or.inl rfl, Or.inl rfl, Or.inl rfl, Or.inl rfl, trivial⟩ ?_
    exact e1 q1
  · skip
    refine wp_iconst (0 : Int32) dL_law_611 (by decide) ?_
    exact wp_zret dL_law_612 rfl rfl (e2 q2)

theorem bL_9a {G : Cx} {d : Nat} {m : Mm} {Q : Option Value → Mm → Prop} {i : Nat} (hF : Full G m) (hi : i + 7 ≤ gSl G) (hl : gSl G < 4000) 
    (e1 : WPM G (d + 99) (0, 0) μX10_addHeater [.ref (gB G), .int (gSx G (i + 1)), .int (gSx G (i + 2)), .int (gSx G (i + 3)), .int (gSx G (i + 4)), .int (gSx G (i + 5))] m (fun r' m' => WP G (d + 100) (0, 0) μL_law 642 [.ref (gSa G), .ref (gB G), .ref (gB G + 293), .int (nI i)] (r'.toList ++ []) m' Q)) :
    WP G (d + 100) (0, 0) μL_law 613 [.ref (gSa G), .ref (gB G), .ref (gB G + 293), .int (nI i)] [] m Q := by
  refine wp_aload_n dL_law_613 rfl ?_
  refine wp_aload_n dL_law_614 rfl ?_
  refine wp_iload_n dL_law_615 rfl ?_
  refine wp_iconst (1 : Int32) dL_law_616 (by decide) ?_
  refine wp_iaddv (nI (i + 1)) dL_law_617 (nadd (a := i) (b := 1) (by omega)) ?_
  refine wp_sld (i + 1) dL_law_618 rfl (by omega) (by omega) ?_
  refine wp_aload_n dL_law_619 rfl ?_
  refine wp_iload_n dL_law_620 rfl ?_
  refine wp_iconst (2 : Int32) dL_law_621 (by decide) ?_
  refine wp_iaddv (nI (i + 2)) dL_law_622 (nadd (a := i) (b := 2) (by omega)) ?_
  refine wp_sld (i + 2) dL_law_623 rfl (by omega) (by omega) ?_
  refine wp_aload_n dL_law_624 rfl ?_
  refine wp_iload_n dL_law_625 rfl ?_
  refine wp_iconst (3 : Int32) dL_law_626 (by decide) ?_
  refine wp_iaddv (nI (i + 3)) dL_law_627 (nadd (a := i) (b := 3) (by omega)) ?_
  refine wp_sld (i + 3) dL_law_628 rfl (by omega) (by omega) ?_
  refine wp_aload_n dL_law_629 rfl ?_
  refine wp_iload_n dL_law_630 rfl ?_
  refine wp_iconst (4 : Int32) dL_law_631 (by decide) ?_
  refine wp_iaddv (nI (i + 4)) dL_law_632 (nadd (a := i) (b := 4) (by omega)) ?_
  refine wp_sld (i + 4) dL_law_633 rfl (by omega) (by omega) ?_
  refine wp_aload_n dL_law_634 rfl ?_
  refine wp_iload_n dL_law_635 rfl ?_
  refine wp_iconst (5 : Int32) dL_law_636 (by decide) ?_
  refine wp_iaddv (nI (i + 5)) dL_law_637 (nadd (a := i) (b := 5) (by omega)) ?_
  refine wp_sld (i + 5) dL_law_638 rfl (by omega) (by omega) ?_
  refine wp_callV (As := [.int (gSx G (i + 1)), .int (gSx G (i + 2)), .int (gSx G (i + 3)), .int (gSx G (i + 4)), .int (gSx G (i + 5))]) (S := []) (b' := (0, 0)) (b := (0, 0)) dL_law_639 ML_53 (ka0 hF) rfl rfl rfl rfl (Nat.le_of_ble_eq_true rfl) ?_
  exact e1

theorem bL_9b {G : Cx} {d : Nat} {m : Mm} {Q : Option Value → Mm → Prop} {i : Nat} {r : Int32} (hF : Full G m) (hi : i + 7 ≤ gSl G) (hl : gSl G < 4000) 
    (e1 : WPM G (d + 99) (0, 0) μX11_addHeater [.ref (gB G + 293), .int (gSx G (i + 1)), .int (gSx G (i + 2)), .int (gSx G (i + 3)), .int (gSx G (i + 4)), .int (gSx G (i + 5))] m (fun r' m' => WP G (d + 100) (0, 0) μL_law 671 [.ref (gSa G), .ref (gB G), .ref (gB G + 293), .int (nI i)] (r'.toList ++ [.int r]) m' Q)) :
    WP G (d + 100) (0, 0) μL_law 642 [.ref (gSa G), .ref (gB G), .ref (gB G + 293), .int (nI i)] [.int r] m Q := by
  refine wp_aload_n dL_law_642 rfl ?_
  refine wp_aload_n dL_law_643 rfl ?_
  refine wp_iload_n dL_law_644 rfl ?_
  refine wp_iconst (1 : Int32) dL_law_645 (by decide) ?_
  refine wp_iaddv (nI (i + 1)) dL_law_646 (nadd (a := i) (b := 1) (by omega)) ?_
  refine wp_sld (i + 1) dL_law_647 rfl (by omega) (by omega) ?_
  refine wp_aload_n dL_law_648 rfl ?_
  refine wp_iload_n dL_law_649 rfl ?_
  refine wp_iconst (2 : Int32) dL_law_650 (by decide) ?_
  refine wp_iaddv (nI (i + 2)) dL_law_651 (nadd (a := i) (b := 2) (by omega)) ?_
  refine wp_sld (i + 2) dL_law_652 rfl (by omega) (by omega) ?_
  refine wp_aload_n dL_law_653 rfl ?_
  refine wp_iload_n dL_law_654 rfl ?_
  refine wp_iconst (3 : Int32) dL_law_655 (by decide) ?_
  refine wp_iaddv (nI (i + 3)) dL_law_656 (nadd (a := i) (b := 3) (by omega)) ?_
  refine wp_sld (i + 3) dL_law_657 rfl (by omega) (by omega) ?_
  refine wp_aload_n dL_law_658 rfl ?_
  refine wp_iload_n dL_law_659 rfl ?_
  refine wp_iconst (4 : Int32) dL_law_660 (by decide) ?_
  refine wp_iaddv (nI (i + 4)) dL_law_661 (nadd (a := i) (b := 4) (by omega)) ?_
  refine wp_sld (i + 4) dL_law_662 rfl (by omega) (by omega) ?_
  refine wp_aload_n dL_law_663 rfl ?_
  refine wp_iload_n dL_law_664 rfl ?_
  refine wp_iconst (5 : Int32) dL_law_665 (by decide) ?_
  refine wp_iaddv (nI (i + 5)) dL_law_666 (nadd (a := i) (b := 5) (by omega)) ?_
  refine wp_sld (i + 5) dL_law_667 rfl (by omega) (by omega) ?_
  refine wp_callV (As := [.int (gSx G (i + 1)), .int (gSx G (i + 2)), .int (gSx G (i + 3)), .int (gSx G (i + 4)), .int (gSx G (i + 5))]) (S := [.int r]) (b' := (0, 0)) (b := (0, 0)) dL_law_668 ML_56 (ka hF 293 (by decide)) rfl rfl rfl rfl (Nat.le_of_ble_eq_true rfl) ?_
  exact e1

theorem bL_9c {G : Cx} {d : Nat} {m : Mm} {Q : Option Value → Mm → Prop} {i : Nat} {s0 : Int32} {r : Int32} (hF : Full G m) (hi : i + 7 ≤ gSl G) (hl : gSl G < 4000) 
    (e1 : s0 = r → WP G (d + 100) (0, 0) μL_law 18 [.ref (gSa G), .ref (gB G), .ref (gB G + 293), .int (nI (i + 7))] [] m Q)
    (e2 : ¬ s0 = r → Q (some (.int (0 : Int32))) m) :
    WP G (d + 100) (0, 0) μL_law 671 [.ref (gSa G), .ref (gB G), .ref (gB G + 293), .int (nI i)] [.int r, .int s0] m Q := by
  refine wp_icmp_eq 1790 dL_law_671 (by decide) (fun q1 => ?_) (fun q2 => ?_)
  · skip
    refine wp_iinc (nI (i + 7)) dL_law_1790 rfl (by decide) (nadd (a := i) (b := 7) (by omega)) rfl ?_
    refine wp_goto 18 dL_law_1793 (by decide) ?_
    refine wp_forget [.ref (gSa G), .ref (gB G), .ref (gB G + 293), .int (nI (i + 7))] ⟨Or.inl rfl, Or.inl rfl, Or.inl rfl, Or.inl rfl, trivial⟩ ?_
    exact e1 q1
  · skip
    refine wp_iconst (0 : Int32) dL_law_674 (by decide) ?_
    exact wp_zret dL_law_675 rfl rfl (e2 q2)

theorem bL_10a {G : Cx} {d : Nat} {m : Mm} {Q : Option Value → Mm → Prop} {i : Nat} (hF : Full G m) (hi : i + 7 ≤ gSl G) (hl : gSl G < 4000) 
    (e1 : WPM G (d + 99) (0, 0) μX10_louvreCount [.ref (gB G)] m (fun r' m' => WP G (d + 100) (0, 0) μL_law 680 [.ref (gSa G), .ref (gB G), .ref (gB G + 293), .int (nI i)] (r'.toList ++ []) m' Q)) :
    WP G (d + 100) (0, 0) μL_law 676 [.ref (gSa G), .ref (gB G), .ref (gB G + 293), .int (nI i)] [] m Q := by
  refine wp_aload_n dL_law_676 rfl ?_
  refine wp_callV (As := []) (S := []) (b' := (0, 0)) (b := (0, 0)) dL_law_677 ML_57 (ka0 hF) rfl rfl rfl rfl (Nat.le_of_ble_eq_true rfl) ?_
  exact e1

theorem bL_10b {G : Cx} {d : Nat} {m : Mm} {Q : Option Value → Mm → Prop} {i : Nat} {r : Int32} (hF : Full G m) (hi : i + 7 ≤ gSl G) (hl : gSl G < 4000) 
    (e1 : WPM G (d + 99) (0, 0) μX11_louvreCount [.ref (gB G + 293)] m (fun r' m' => WP G (d + 100) (0, 0) μL_law 684 [.ref (gSa G), .ref (gB G), .ref (gB G + 293), .int (nI i)] (r'.toList ++ [.int r]) m' Q)) :
    WP G (d + 100) (0, 0) μL_law 680 [.ref (gSa G), .ref (gB G), .ref (gB G + 293), .int (nI i)] [.int r] m Q := by
  refine wp_aload_n dL_law_680 rfl ?_
  refine wp_callV (As := []) (S := [.int r]) (b' := (0, 0)) (b := (0, 0)) dL_law_681 ML_60 (ka hF 293 (by decide)) rfl rfl rfl rfl (Nat.le_of_ble_eq_true rfl) ?_
  exact e1

theorem bL_10c {G : Cx} {d : Nat} {m : Mm} {Q : Option Value → Mm → Prop} {i : Nat} {s0 : Int32} {r : Int32} (hF : Full G m) (hi : i + 7 ≤ gSl G) (hl : gSl G < 4000) 
    (e1 : s0 = r → WP G (d + 100) (0, 0) μL_law 18 [.ref (gSa G), .ref (gB G), .ref (gB G + 293), .int (nI (i + 7))] [] m Q)
    (e2 : ¬ s0 = r → Q (some (.int (0 : Int32))) m) :
    WP G (d + 100) (0, 0) μL_law 684 [.ref (gSa G), .ref (gB G), .ref (gB G + 293), .int (nI i)] [.int r, .int s0] m Q := by
  refine wp_icmp_eq 1790 dL_law_684 (by decide) (fun q1 => ?_) (fun q2 => ?_)
  · skip
    refine wp_iinc (nI (i + 7)) dL_law_1790 rfl (by decide) (nadd (a := i) (b := 7) (by omega)) rfl ?_
    refine wp_goto 18 dL_law_1793 (by decide) ?_
    refine wp_forget [.ref (gSa G), .ref (gB G), .ref (gB G + 293), .int (nI (i + 7))] ⟨Or.inl rfl, Or.inl rfl, Or.inl rfl, Or.inl rfl, trivial⟩ ?_
    exact e1 q1
  · skip
    refine wp_iconst (0 : Int32) dL_law_687 (by decide) ?_
    exact wp_zret dL_law_688 rfl rfl (e2 q2)

theorem bL_11a {G : Cx} {d : Nat} {m : Mm} {Q : Option Value → Mm → Prop} {i : Nat} (hF : Full G m) (hi : i + 7 ≤ gSl G) (hl : gSl G < 4000) 
    (e1 : WPM G (d + 99) (0, 0) μX10_opening [.ref (gB G), .int (gSx G (i + 1))] m (fun r' m' => WP G (d + 100) (0, 0) μL_law 698 [.ref (gSa G), .ref (gB G), .ref (gB G + 293), .int (nI i)] (r'.toList ++ []) m' Q)) :
    WP G (d + 100) (0, 0) μL_law 689 [.ref (gSa G), .ref (gB G), .ref (gB G + 293), .int (nI i)] [] m Q := by
  refine wp_aload_n dL_law_689 rfl ?_
  refine wp_aload_n dL_law_690 rfl ?_
  refine wp_iload_n dL_law_691 rfl ?_
  refine wp_iconst (1 : Int32) dL_law_692 (by decide) ?_
  refine wp_iaddv (nI (i + 1)) dL_law_693 (nadd (a := i) (b := 1) (by omega)) ?_
  refine wp_sld (i + 1) dL_law_694 rfl (by omega) (by omega) ?_
  refine wp_callV (As := [.int (gSx G (i + 1))]) (S := []) (b' := (0, 0)) (b := (0, 0)) dL_law_695 ML_61 (ka0 hF) rfl rfl rfl rfl (Nat.le_of_ble_eq_true rfl) ?_
  exact e1

theorem bL_11b {G : Cx} {d : Nat} {m : Mm} {Q : Option Value → Mm → Prop} {i : Nat} {r : Int32} (hF : Full G m) (hi : i + 7 ≤ gSl G) (hl : gSl G < 4000) 
    (e1 : WPM G (d + 99) (0, 0) μX11_opening [.ref (gB G + 293), .int (gSx G (i + 1))] m (fun r' m' => WP G (d + 100) (0, 0) μL_law 707 [.ref (gSa G), .ref (gB G), .ref (gB G + 293), .int (nI i)] (r'.toList ++ [.int r]) m' Q)) :
    WP G (d + 100) (0, 0) μL_law 698 [.ref (gSa G), .ref (gB G), .ref (gB G + 293), .int (nI i)] [.int r] m Q := by
  refine wp_aload_n dL_law_698 rfl ?_
  refine wp_aload_n dL_law_699 rfl ?_
  refine wp_iload_n dL_law_700 rfl ?_
  refine wp_iconst (1 : Int32) dL_law_701 (by decide) ?_
  refine wp_iaddv (nI (i + 1)) dL_law_702 (nadd (a := i) (b := 1) (by omega)) ?_
  refine wp_sld (i + 1) dL_law_703 rfl (by omega) (by omega) ?_
  refine wp_callV (As := [.int (gSx G (i + 1))]) (S := [.int r]) (b' := (0, 0)) (b := (0, 0)) dL_law_704 ML_65 (ka hF 293 (by decide)) rfl rfl rfl rfl (Nat.le_of_ble_eq_true rfl) ?_
  exact e1

theorem bL_11c {G : Cx} {d : Nat} {m : Mm} {Q : Option Value → Mm → Prop} {i : Nat} {s0 : Int32} {r : Int32} (hF : Full G m) (hi : i + 7 ≤ gSl G) (hl : gSl G < 4000) 
    (e1 : s0 = r → WP G (d + 100) (0, 0) μL_law 18 [.ref (gSa G), .ref (gB G), .ref (gB G + 293), .int (nI (i + 7))] [] m Q)
    (e2 : ¬ s0 = r → Q (some (.int (0 : Int32))) m) :
    WP G (d + 100) (0, 0) μL_law 707 [.ref (gSa G), .ref (gB G), .ref (gB G + 293), .int (nI i)] [.int r, .int s0] m Q := by
  refine wp_icmp_eq 1790 dL_law_707 (by decide) (fun q1 => ?_) (fun q2 => ?_)
  · skip
    refine wp_iinc (nI (i + 7)) dL_law_1790 rfl (by decide) (nadd (a := i) (b := 7) (by omega)) rfl ?_
    refine wp_goto 18 dL_law_1793 (by decide) ?_
    refine wp_forget [.ref (gSa G), .ref (gB G), .ref (gB G + 293), .int (nI (i + 7))] ⟨Or.inl rfl, Or.inl rfl, Or.inl rfl, Or.inl rfl, trivial⟩ ?_
    exact e1 q1
  · skip
    refine wp_iconst (0 : Int32) dL_law_710 (by decide) ?_
    exact wp_zret dL_law_711 rfl rfl (e2 q2)

theorem bL_12a {G : Cx} {d : Nat} {m : Mm} {Q : Option Value → Mm → Prop} {i : Nat} (hF : Full G m) (hi : i + 7 ≤ gSl G) (hl : gSl G < 4000) 
    (e1 : WPM G (d + 99) (0, 0) μX10_target [.ref (gB G), .int (gSx G (i + 1))] m (fun r' m' => WP G (d + 100) (0, 0) μL_law 721 [.ref (gSa G), .ref (gB G), .ref (gB G + 293), .int (nI i)] (r'.toList ++ []) m' Q)) :
    WP G (d + 100) (0, 0) μL_law 712 [.ref (gSa G), .ref (gB G), .ref (gB G + 293), .int (nI i)] [] m Q := by
  refine wp_aload_n dL_law_712 rfl ?_
  refine wp_aload_n dL_law_713 rfl ?_
  refine wp_iload_n dL_law_714 rfl ?_
  refine wp_iconst (1 : Int32) dL_law_715 (by decide) ?_
  refine wp_iaddv (nI (i + 1)) dL_law_716 (nadd (a := i) (b := 1) (by omega)) ?_
  refine wp_sld (i + 1) dL_law_717 rfl (by omega) (by omega) ?_
  refine wp_callV (As := [.int (gSx G (i + 1))]) (S := []) (b' := (0, 0)) (b := (0, 0)) dL_law_718 ML_66 (ka0 hF) rfl rfl rfl rfl (Nat.le_of_ble_eq_true rfl) ?_
  exact e1

theorem bL_12b {G : Cx} {d : Nat} {m : Mm} {Q : Option Value → Mm → Prop} {i : Nat} {r : Int32} (hF : Full G m) (hi : i + 7 ≤ gSl G) (hl : gSl G < 4000) 
    (e1 : WPM G (d + 99) (0, 0) μX11_target [.ref (gB G + 293), .int (gSx G (i + 1))] m (fun r' m' => WP G (d + 100) (0, 0) μL_law 730 [.ref (gSa G), .ref (gB G), .ref (gB G + 293), .int (nI i)] (r'.toList ++ [.int r]) m' Q)) :
    WP G (d + 100) (0, 0) μL_law 721 [.ref (gSa G), .ref (gB G), .ref (gB G + 293), .int (nI i)] [.int r] m Q := by
  refine wp_aload_n dL_law_721 rfl ?_
  refine wp_aload_n dL_law_722 rfl ?_
  refine wp_iload_n dL_law_723 rfl ?_
  refine wp_iconst (1 : Int32) dL_law_724 (by decide) ?_
  refine wp_iaddv (nI (i + 1)) dL_law_725 (nadd (a := i) (b := 1) (by omega)) ?_
  refine wp_sld (i + 1) dL_law_726 rfl (by omega) (by omega) ?_
  refine wp_callV (As := [.int (gSx G (i + 1))]) (S := [.int r]) (b' := (0, 0)) (b := (0, 0)) dL_law_727 ML_69 (ka hF 293 (by decide)) rfl rfl rfl rfl (Nat.le_of_ble_eq_true rfl) ?_
  exact e1

theorem bL_12c {G : Cx} {d : Nat} {m : Mm} {Q : Option Value → Mm → Prop} {i : Nat} {s0 : Int32} {r : Int32} (hF : Full G m) (hi : i + 7 ≤ gSl G) (hl : gSl G < 4000) 
    (e1 : s0 = r → WP G (d + 100) (0, 0) μL_law 18 [.ref (gSa G), .ref (gB G), .ref (gB G + 293), .int (nI (i + 7))] [] m Q)
    (e2 : ¬ s0 = r → Q (some (.int (0 : Int32))) m) :
    WP G (d + 100) (0, 0) μL_law 730 [.ref (gSa G), .ref (gB G), .ref (gB G + 293), .int (nI i)] [.int r, .int s0] m Q := by
  refine wp_icmp_eq 1790 dL_law_730 (by decide) (fun q1 => ?_) (fun q2 => ?_)
  · skip
    refine wp_iinc (nI (i + 7)) dL_law_1790 rfl (by decide) (nadd (a := i) (b := 7) (by omega)) rfl ?_
    refine wp_goto 18 dL_law_1793 (by decide) ?_
    refine wp_forget [.ref (gSa G), .ref (gB G), .ref (gB G + 293), .int (nI (i + 7))] ⟨Or.inl rfl, Or.inl rfl, Or.inl rfl, Or.inl rfl, trivial⟩ ?_
    exact e1 q1
  · skip
    refine wp_iconst (0 : Int32) dL_law_733 (by decide) ?_
    exact wp_zret dL_law_734 rfl rfl (e2 q2)

theorem bL_13a {G : Cx} {d : Nat} {m : Mm} {Q : Option Value → Mm → Prop} {i : Nat} (hF : Full G m) (hi : i + 7 ≤ gSl G) (hl : gSl G < 4000) 
    (e1 : WPM G (d + 99) (0, 0) μX10_isHeld [.ref (gB G), .int (gSx G (i + 1))] m (fun r' m' => WP G (d + 100) (0, 0) μL_law 744 [.ref (gSa G), .ref (gB G), .ref (gB G + 293), .int (nI i)] (r'.toList ++ []) m' Q)) :
    WP G (d + 100) (0, 0) μL_law 735 [.ref (gSa G), .ref (gB G), .ref (gB G + 293), .int (nI i)] [] m Q := by
  refine wp_aload_n dL_law_735 rfl ?_
  refine wp_aload_n dL_law_736 rfl ?_
  refine wp_iload_n dL_law_737 rfl ?_
  refine wp_iconst (1 : Int32) dL_law_738 (by decide) ?_
  refine wp_iaddv (nI (i + 1)) dL_law_739 (nadd (a := i) (b := 1) (by omega)) ?_
  refine wp_sld (i + 1) dL_law_740 rfl (by omega) (by omega) ?_
  refine wp_callV (As := [.int (gSx G (i + 1))]) (S := []) (b' := (0, 0)) (b := (0, 0)) dL_law_741 ML_70 (ka0 hF) rfl rfl rfl rfl (Nat.le_of_ble_eq_true rfl) ?_
  exact e1

theorem bL_13b {G : Cx} {d : Nat} {m : Mm} {Q : Option Value → Mm → Prop} {i : Nat} {r : Int32} (hF : Full G m) (hi : i + 7 ≤ gSl G) (hl : gSl G < 4000) 
    (e1 : WPM G (d + 99) (0, 0) μX11_isHeld [.ref (gB G + 293), .int (gSx G (i + 1))] m (fun r' m' => WP G (d + 100) (0, 0) μL_law 753 [.ref (gSa G), .ref (gB G), .ref (gB G + 293), .int (nI i)] (r'.toList ++ [.int r]) m' Q)) :
    WP G (d + 100) (0, 0) μL_law 744 [.ref (gSa G), .ref (gB G), .ref (gB G + 293), .int (nI i)] [.int r] m Q := by
  refine wp_aload_n dL_law_744 rfl ?_
  refine wp_aload_n dL_law_745 rfl ?_
  refine wp_iload_n dL_law_746 rfl ?_
  refine wp_iconst (1 : Int32) dL_law_747 (by decide) ?_
  refine wp_iaddv (nI (i + 1)) dL_law_748 (nadd (a := i) (b := 1) (by omega)) ?_
  refine wp_sld (i + 1) dL_law_749 rfl (by omega) (by omega) ?_
  refine wp_callV (As := [.int (gSx G (i + 1))]) (S := [.int r]) (b' := (0, 0)) (b := (0, 0)) dL_law_750 ML_73 (ka hF 293 (by decide)) rfl rfl rfl rfl (Nat.le_of_ble_eq_true rfl) ?_
  exact e1

theorem bL_13c {G : Cx} {d : Nat} {m : Mm} {Q : Option Value → Mm → Prop} {i : Nat} {s0 : Int32} {r : Int32} (hF : Full G m) (hi : i + 7 ≤ gSl G) (hl : gSl G < 4000) 
    (e1 : s0 = r → WP G (d + 100) (0, 0) μL_law 18 [.ref (gSa G), .ref (gB G), .ref (gB G + 293), .int (nI (i + 7))] [] m Q)
    (e2 : ¬ s0 = r → Q (some (.int (0 : Int32))) m) :
    WP G (d + 100) (0, 0) μL_law 753 [.ref (gSa G), .ref (gB G), .ref (gB G + 293), .int (nI i)] [.int r, .int s0] m Q := by
  refine wp_icmp_eq 1790 dL_law_753 (by decide) (fun q1 => ?_) (fun q2 => ?_)
  · skip
    refine wp_iinc (nI (i + 7)) dL_law_1790 rfl (by decide) (nadd (a := i) (b := 7) (by omega)) rfl ?_
    refine wp_goto 18 dL_law_1793 (by decide) ?_
    refine wp_forget [.ref (gSa G), .ref (gB G), .ref (gB G + 293), .int (nI (i + 7))] ⟨Or.inl rfl, Or.inl rfl, Or.inl rfl, Or.inl rfl, trivial⟩ ?_
    exact e1 q1
  · skip
    refine wp_iconst (0 : Int32) dL_law_756 (by decide) ?_
    exact wp_zret dL_law_757 rfl rfl (e2 q2)

theorem bL_14a {G : Cx} {d : Nat} {m : Mm} {Q : Option Value → Mm → Prop} {i : Nat} (hF : Full G m) (hi : i + 7 ≤ gSl G) (hl : gSl G < 4000) 
    (e1 : WPM G (d + 99) (0, 0) μX10_heaterCount [.ref (gB G)] m (fun r' m' => WP G (d + 100) (0, 0) μL_law 762 [.ref (gSa G), .ref (gB G), .ref (gB G + 293), .int (nI i)] (r'.toList ++ []) m' Q)) :
    WP G (d + 100) (0, 0) μL_law 758 [.ref (gSa G), .ref (gB G), .ref (gB G + 293), .int (nI i)] [] m Q := by
  refine wp_aload_n dL_law_758 rfl ?_
  refine wp_callV (As := []) (S := []) (b' := (0, 0)) (b := (0, 0)) dL_law_759 ML_74 (ka0 hF) rfl rfl rfl rfl (Nat.le_of_ble_eq_true rfl) ?_
  exact e1

theorem bL_14b {G : Cx} {d : Nat} {m : Mm} {Q : Option Value → Mm → Prop} {i : Nat} {r : Int32} (hF : Full G m) (hi : i + 7 ≤ gSl G) (hl : gSl G < 4000) 
    (e1 : WPM G (d + 99) (0, 0) μX11_heaterCount [.ref (gB G + 293)] m (fun r' m' => WP G (d + 100) (0, 0) μL_law 766 [.ref (gSa G), .ref (gB G), .ref (gB G + 293), .int (nI i)] (r'.toList ++ [.int r]) m' Q)) :
    WP G (d + 100) (0, 0) μL_law 762 [.ref (gSa G), .ref (gB G), .ref (gB G + 293), .int (nI i)] [.int r] m Q := by
  refine wp_aload_n dL_law_762 rfl ?_
  refine wp_callV (As := []) (S := [.int r]) (b' := (0, 0)) (b := (0, 0)) dL_law_763 ML_77 (ka hF 293 (by decide)) rfl rfl rfl rfl (Nat.le_of_ble_eq_true rfl) ?_
  exact e1

theorem bL_14c {G : Cx} {d : Nat} {m : Mm} {Q : Option Value → Mm → Prop} {i : Nat} {s0 : Int32} {r : Int32} (hF : Full G m) (hi : i + 7 ≤ gSl G) (hl : gSl G < 4000) 
    (e1 : s0 = r → WP G (d + 100) (0, 0) μL_law 18 [.ref (gSa G), .ref (gB G), .ref (gB G + 293), .int (nI (i + 7))] [] m Q)
    (e2 : ¬ s0 = r → Q (some (.int (0 : Int32))) m) :
    WP G (d + 100) (0, 0) μL_law 766 [.ref (gSa G), .ref (gB G), .ref (gB G + 293), .int (nI i)] [.int r, .int s0] m Q := by
  refine wp_icmp_eq 1790 dL_law_766 (by decide) (fun q1 => ?_) (fun q2 => ?_)
  · skip
    refine wp_iinc (nI (i + 7)) dL_law_1790 rfl (by decide) (nadd (a := i) (b := 7) (by omega)) rfl ?_
    refine wp_goto 18 dL_law_1793 (by decide) ?_
    refine wp_forget [.ref (gSa G), .ref (gB G), .ref (gB G + 293), .int (nI (i + 7))] ⟨Or.inl rfl, Or.inl rfl, Or.inl rfl, Or.inl rfl, trivial⟩ ?_
    exact e1 q1
  · skip
    refine wp_iconst (0 : Int32) dL_law_769 (by decide) ?_
    exact wp_zret dL_law_770 rfl rfl (e2 q2)

theorem bL_15a {G : Cx} {d : Nat} {m : Mm} {Q : Option Value → Mm → Prop} {i : Nat} (hF : Full G m) (hi : i + 7 ≤ gSl G) (hl : gSl G < 4000) 
    (e1 : WPM G (d + 99) (0, 0) μX10_heaterState [.ref (gB G), .int (gSx G (i + 1))] m (fun r' m' => WP G (d + 100) (0, 0) μL_law 780 [.ref (gSa G), .ref (gB G), .ref (gB G + 293), .int (nI i)] (r'.toList ++ []) m' Q)) :
    WP G (d + 100) (0, 0) μL_law 771 [.ref (gSa G), .ref (gB G), .ref (gB G + 293), .int (nI i)] [] m Q := by
  refine wp_aload_n dL_law_771 rfl ?_
  refine wp_aload_n dL_law_772 rfl ?_
  refine wp_iload_n dL_law_773 rfl ?_
  refine wp_iconst (1 : Int32) dL_law_774 (by decide) ?_
  refine wp_iaddv (nI (i + 1)) dL_law_775 (nadd (a := i) (b := 1) (by omega)) ?_
  refine wp_sld (i + 1) dL_law_776 rfl (by omega) (by omega) ?_
  refine wp_callV (As := [.int (gSx G (i + 1))]) (S := []) (b' := (0, 0)) (b := (0, 0)) dL_law_777 ML_78 (ka0 hF) rfl rfl rfl rfl (Nat.le_of_ble_eq_true rfl) ?_
  exact e1

theorem bL_15b {G : Cx} {d : Nat} {m : Mm} {Q : Option Value → Mm → Prop} {i : Nat} {r : Int32} (hF : Full G m) (hi : i + 7 ≤ gSl G) (hl : gSl G < 4000) 
    (e1 : WPM G (d + 99) (0, 0) μX11_heaterState [.ref (gB G + 293), .int (gSx G (i + 1))] m (fun r' m' => WP G (d + 100) (0, 0) μL_law 789 [.ref (gSa G), .ref (gB G), .ref (gB G + 293), .int (nI i)] (r'.toList ++ [.int r]) m' Q)) :
    WP G (d + 100) (0, 0) μL_law 780 [.ref (gSa G), .ref (gB G), .ref (gB G + 293), .int (nI i)] [.int r] m Q := by
  refine wp_aload_n dL_law_780 rfl ?_
  refine wp_aload_n dL_law_781 rfl ?_
  refine wp_iload_n dL_law_782 rfl ?_
  refine wp_iconst (1 : Int32) dL_law_783 (by decide) ?_
  refine wp_iaddv (nI (i + 1)) dL_law_784 (nadd (a := i) (b := 1) (by omega)) ?_
  refine wp_sld (i + 1) dL_law_785 rfl (by omega) (by omega) ?_
  refine wp_callV (As := [.int (gSx G (i + 1))]) (S := [.int r]) (b' := (0, 0)) (b := (0, 0)) dL_law_786 ML_81 (ka hF 293 (by decide)) rfl rfl rfl rfl (Nat.le_of_ble_eq_true rfl) ?_
  exact e1

theorem bL_15c {G : Cx} {d : Nat} {m : Mm} {Q : Option Value → Mm → Prop} {i : Nat} {s0 : Int32} {r : Int32} (hF : Full G m) (hi : i + 7 ≤ gSl G) (hl : gSl G < 4000) 
    (e1 : s0 = r → WP G (d + 100) (0, 0) μL_law 18 [.ref (gSa G), .ref (gB G), .ref (gB G + 293), .int (nI (i + 7))] [] m Q)
    (e2 : ¬ s0 = r → Q (some (.int (0 : Int32))) m) :
    WP G (d + 100) (0, 0) μL_law 789 [.ref (gSa G), .ref (gB G), .ref (gB G + 293), .int (nI i)] [.int r, .int s0] m Q := by
  refine wp_icmp_eq 1790 dL_law_789 (by decide) (fun q1 => ?_) (fun q2 => ?_)
  · skip
    refine wp_iinc (nI (i + 7)) dL_law_1790 rfl (by decide) (nadd (a := i) (b := 7) (by omega)) rfl ?_
    refine wp_goto 18 dL_law_1793 (by decide) ?_
    refine wp_forget [.ref (gSa G), .ref (gB G), .ref (gB G + 293), .int (nI (i + 7))] ⟨Or.inl rfl, Or.inl rfl, Or.inl rfl, Or.inl rfl, trivial⟩ ?_
    exact e1 q1
  · skip
    refine wp_iconst (0 : Int32) dL_law_792 (by decide) ?_
    exact wp_zret dL_law_793 rfl rfl (e2 q2)

theorem bL_16a {G : Cx} {d : Nat} {m : Mm} {Q : Option Value → Mm → Prop} {i : Nat} (hF : Full G m) (hi : i + 7 ≤ gSl G) (hl : gSl G < 4000) 
    (e1 : WPM G (d + 99) (0, 0) μX10_heaterMode [.ref (gB G), .int (gSx G (i + 1))] m (fun r' m' => WP G (d + 100) (0, 0) μL_law 803 [.ref (gSa G), .ref (gB G), .ref (gB G + 293), .int (nI i)] (r'.toList ++ []) m' Q)) :
    WP G (d + 100) (0, 0) μL_law 794 [.ref (gSa G), .ref (gB G), .ref (gB G + 293), .int (nI i)] [] m Q := by
  refine wp_aload_n dL_law_794 rfl ?_
  refine wp_aload_n dL_law_795 rfl ?_
  refine wp_iload_n dL_law_796 rfl ?_
  refine wp_iconst (1 : Int32) dL_law_797 (by decide) ?_
  refine wp_iaddv (nI (i + 1)) dL_law_798 (nadd (a := i) (b := 1) (by omega)) ?_
  refine wp_sld (i + 1) dL_law_799 rfl (by omega) (by omega) ?_
  refine wp_callV (As := [.int (gSx G (i + 1))]) (S := []) (b' := (0, 0)) (b := (0, 0)) dL_law_800 ML_82 (ka0 hF) rfl rfl rfl rfl (Nat.le_of_ble_eq_true rfl) ?_
  exact e1

theorem bL_16b {G : Cx} {d : Nat} {m : Mm} {Q : Option Value → Mm → Prop} {i : Nat} {r : Int32} (hF : Full G m) (hi : i + 7 ≤ gSl G) (hl : gSl G < 4000) 
    (e1 : WPM G (d + 99) (0, 0) μX11_heaterMode [.ref (gB G + 293), .int (gSx G (i + 1))] m (fun r' m' => WP G (d + 100) (0, 0) μL_law 812 [.ref (gSa G), .ref (gB G), .ref (gB G + 293), .int (nI i)] (r'.toList ++ [.int r]) m' Q)) :
    WP G (d + 100) (0, 0) μL_law 803 [.ref (gSa G), .ref (gB G), .ref (gB G + 293), .int (nI i)] [.int r] m Q := by
  refine wp_aload_n dL_law_803 rfl ?_
  refine wp_aload_n dL_law_804 rfl ?_
  refine wp_iload_n dL_law_805 rfl ?_
  refine wp_iconst (1 : Int32) dL_law_806 (by decide) ?_
  refine wp_iaddv (nI (i + 1)) dL_law_807 (nadd (a := i) (b := 1) (by omega)) ?_
  refine wp_sld (i + 1) dL_law_808 rfl (by omega) (by omega) ?_
  refine wp_callV (As := [.int (gSx G (i + 1))]) (S := [.int r]) (b' := (0, 0)) (b := (0, 0)) dL_law_809 ML_85 (ka hF 293 (by decide)) rfl rfl rfl rfl (Nat.le_of_ble_eq_true rfl) ?_
  exact e1

theorem bL_16c {G : Cx} {d : Nat} {m : Mm} {Q : Option Value → Mm → Prop} {i : Nat} {s0 : Int32} {r : Int32} (hF : Full G m) (hi : i + 7 ≤ gSl G) (hl : gSl G < 4000) 
    (e1 : s0 = r → WP G (d + 100) (0, 0) μL_law 18 [.ref (gSa G), .ref (gB G), .ref (gB G + 293), .int (nI (i + 7))] [] m Q)
    (e2 : ¬ s0 = r → Q (some (.int (0 : Int32))) m) :
    WP G (d + 100) (0, 0) μL_law 812 [.ref (gSa G), .ref (gB G), .ref (gB G + 293), .int (nI i)] [.int r, .int s0] m Q := by
  refine wp_icmp_eq 1790 dL_law_812 (by decide) (fun q1 => ?_) (fun q2 => ?_)
  · skip
    refine wp_iinc (nI (i + 7)) dL_law_1790 rfl (by decide) (nadd (a := i) (b := 7) (by omega)) rfl ?_
    refine wp_goto 18 dL_law_1793 (by decide) ?_
    refine wp_forget [.ref (gSa G), .ref (gB G), .ref (gB G + 293), .int (nI (i + 7))] ⟨Or.inl rfl, Or.inl rfl, Or.inl rfl, Or.inl rfl, trivial⟩ ?_
    exact e1 q1
  · skip
    refine wp_iconst (0 : Int32) dL_law_815 (by decide) ?_
    exact wp_zret dL_law_816 rfl rfl (e2 q2)

theorem bL_17a {G : Cx} {d : Nat} {m : Mm} {Q : Option Value → Mm → Prop} {i : Nat} (hF : Full G m) (hi : i + 7 ≤ gSl G) (hl : gSl G < 4000) 
    (e1 : WPM G (d + 99) (0, 0) μX10_setMode [.ref (gB G), .int (gSx G (i + 1)), .int (gSx G (i + 2))] m (fun r' m' => WP G (d + 100) (0, 0) μL_law 831 [.ref (gSa G), .ref (gB G), .ref (gB G + 293), .int (nI i)] (r'.toList ++ []) m' Q)) :
    WP G (d + 100) (0, 0) μL_law 817 [.ref (gSa G), .ref (gB G), .ref (gB G + 293), .int (nI i)] [] m Q := by
  refine wp_aload_n dL_law_817 rfl ?_
  refine wp_aload_n dL_law_818 rfl ?_
  refine wp_iload_n dL_law_819 rfl ?_
  refine wp_iconst (1 : Int32) dL_law_820 (by decide) ?_
  refine wp_iaddv (nI (i + 1)) dL_law_821 (nadd (a := i) (b := 1) (by omega)) ?_
  refine wp_sld (i + 1) dL_law_822 rfl (by omega) (by omega) ?_
  refine wp_aload_n dL_law_823 rfl ?_
  refine wp_iload_n dL_law_824 rfl ?_
  refine wp_iconst (2 : Int32) dL_law_825 (by decide) ?_
  refine wp_iaddv (nI (i + 2)) dL_law_826 (nadd (a := i) (b := 2) (by omega)) ?_
  refine wp_sld (i + 2) dL_law_827 rfl (by omega) (by omega) ?_
  refine wp_callV (As := [.int (gSx G (i + 1)), .int (gSx G (i + 2))]) (S := []) (b' := (0, 0)) (b := (0, 0)) dL_law_828 ML_86 (ka0 hF) rfl rfl rfl rfl (Nat.le_of_ble_eq_true rfl) ?_
  exact e1

theorem bL_17b {G : Cx} {d : Nat} {m : Mm} {Q : Option Value → Mm → Prop} {i : Nat} {r : Int32} (hF : Full G m) (hi : i + 7 ≤ gSl G) (hl : gSl G < 4000) 
    (e1 : WPM G (d + 99) (0, 0) μX11_setMode [.ref (gB G + 293), .int (gSx G (i + 1)), .int (gSx G (i + 2))] m (fun r' m' => WP G (d + 100) (0, 0) μL_law 845 [.ref (gSa G), .ref (gB G), .ref (gB G + 293), .int (nI i)] (r'.toList ++ [.int r]) m' Q)) :
    WP G (d + 100) (0, 0) μL_law 831 [.ref (gSa G), .ref (gB G), .ref (gB G + 293), .int (nI i)] [.int r] m Q := by
  refine wp_aload_n dL_law_831 rfl ?_
  refine wp_aload_n dL_law_832 rfl ?_
  refine wp_iload_n dL_law_833 rfl ?_
  refine wp_iconst (1 : Int32) dL_law_834 (by decide) ?_
  refine wp_iaddv (nI (i + 1)) dL_law_835 (nadd (a := i) (b := 1) (by omega)) ?_
  refine wp_sld (i + 1) dL_law_836 rfl (by omega) (by omega) ?_
  refine wp_aload_n dL_law_837 rfl ?_
  refine wp_iload_n dL_law_838 rfl ?_
  refine wp_iconst (2 : Int32) dL_law_839 (by decide) ?_
  refine wp_iaddv (nI (i + 2)) dL_law_840 (nadd (a := i) (b := 2) (by omega)) ?_
  refine wp_sld (i + 2) dL_law_841 rfl (by omega) (by omega) ?_
  refine wp_callV (As := [.int (gSx G (i + 1)), .int (gSx G (i + 2))]) (S := [.int r]) (b' := (0, 0)) (b := (0, 0)) dL_law_842 ML_89 (ka hF 293 (by decide)) rfl rfl rfl rfl (Nat.le_of_ble_eq_true rfl) ?_
  exact e1

theorem bL_17c {G : Cx} {d : Nat} {m : Mm} {Q : Option Value → Mm → Prop} {i : Nat} {s0 : Int32} {r : Int32} (hF : Full G m) (hi : i + 7 ≤ gSl G) (hl : gSl G < 4000) 
    (e1 : s0 = r → WP G (d + 100) (0, 0) μL_law 18 [.ref (gSa G), .ref (gB G), .ref (gB G + 293), .int (nI (i + 7))] [] m Q)
    (e2 : ¬ s0 = r → Q (some (.int (0 : Int32))) m) :
    WP G (d + 100) (0, 0) μL_law 845 [.ref (gSa G), .ref (gB G), .ref (gB G + 293), .int (nI i)] [.int r, .int s0] m Q := by
  refine wp_icmp_eq 1790 dL_law_845 (by decide) (fun q1 => ?_) (fun q2 => ?_)
  · skip
    refine wp_iinc (nI (i + 7)) dL_law_1790 rfl (by decide) (nadd (a := i) (b := 7) (by omega)) rfl ?_
    refine wp_goto 18 dL_law_1793 (by decide) ?_
    refine wp_forget [.ref (gSa G), .ref (gB G), .ref (gB G + 293), .int (nI (i + 7))] ⟨Or.inl rfl, Or.inl rfl, Or.inl rfl, Or.inl rfl, trivial⟩ ?_
    exact e1 q1
  · skip
    refine wp_iconst (0 : Int32) dL_law_848 (by decide) ?_
    exact wp_zret dL_law_849 rfl rfl (e2 q2)

theorem bL_18a {G : Cx} {d : Nat} {m : Mm} {Q : Option Value → Mm → Prop} {i : Nat} (hF : Full G m) (hi : i + 7 ≤ gSl G) (hl : gSl G < 4000) 
    (e1 : WPM G (d + 99) (0, 0) μX10_setOrbit [.ref (gB G), .int (gSx G (i + 1)), .int (gSx G (i + 2)), .int (gSx G (i + 3)), .int (gSx G (i + 4)), .int (gSx G (i + 5)), .int (gSx G (i + 6))] m (fun r' m' => WP G (d + 100) (0, 0) μL_law 885 [.ref (gSa G), .ref (gB G), .ref (gB G + 293), .int (nI i)] (r'.toList ++ []) m' Q)) :
    WP G (d + 100) (0, 0) μL_law 850 [.ref (gSa G), .ref (gB G), .ref (gB G + 293), .int (nI i)] [] m Q := by
  refine wp_aload_n dL_law_850 rfl ?_
  refine wp_aload_n dL_law_851 rfl ?_
  refine wp_iload_n dL_law_852 rfl ?_
  refine wp_iconst (1 : Int32) dL_law_853 (by decide) ?_
  refine wp_iaddv (nI (i + 1)) dL_law_854 (nadd (a := i) (b := 1) (by omega)) ?_
  refine wp_sld (i + 1) dL_law_855 rfl (by omega) (by omega) ?_
  refine wp_aload_n dL_law_856 rfl ?_
  refine wp_iload_n dL_law_857 rfl ?_
  refine wp_iconst (2 : Int32) dL_law_858 (by decide) ?_
  refine wp_iaddv (nI (i + 2)) dL_law_859 (nadd (a := i) (b := 2) (by omega)) ?_
  refine wp_sld (i + 2) dL_law_860 rfl (by omega) (by omega) ?_
  refine wp_aload_n dL_law_861 rfl ?_
  refine wp_iload_n dL_law_862 rfl ?_
  refine wp_iconst (3 : Int32) dL_law_863 (by decide) ?_
  refine wp_iaddv (nI (i + 3)) dL_law_864 (nadd (a := i) (b := 3) (by omega)) ?_
  refine wp_sld (i + 3) dL_law_865 rfl (by omega) (by omega) ?_
  refine wp_aload_n dL_law_866 rfl ?_
  refine wp_iload_n dL_law_867 rfl ?_
  refine wp_iconst (4 : Int32) dL_law_868 (by decide) ?_
  refine wp_iaddv (nI (i + 4)) dL_law_869 (nadd (a := i) (b := 4) (by omega)) ?_
  refine wp_sld (i + 4) dL_law_870 rfl (by omega) (by omega) ?_
  refine wp_aload_n dL_law_871 rfl ?_
  refine wp_iload_n dL_law_872 rfl ?_
  refine wp_iconst (5 : Int32) dL_law_873 (by decide) ?_
  refine wp_iaddv (nI (i + 5)) dL_law_874 (nadd (a := i) (b := 5) (by omega)) ?_
  refine wp_sld (i + 5) dL_law_875 rfl (by omega) (by omega) ?_
  refine wp_aload_n dL_law_876 rfl ?_
  refine wp_iload_n dL_law_877 rfl ?_
  refine wp_bipush (6 : Int32) dL_law_878 (by decide) ?_
  refine wp_iaddv (nI (i + 6)) dL_law_880 (nadd (a := i) (b := 6) (by omega)) ?_
  refine wp_sld (i + 6) dL_law_881 rfl (by omega) (by omega) ?_
  refine wp_callV (As := [.int (gSx G (i + 1)), .int (gSx G (i + 2)), .int (gSx G (i + 3)), .int (gSx G (i + 4)), .int (gSx G (i + 5)), .int (gSx G (i + 6))]) (S := []) (b' := (0, 0)) (b := (0, 0)) dL_law_882 ML_90 (ka0 hF) rfl rfl rfl rfl (Nat.le_of_ble_eq_true rfl) ?_
  exact e1

theorem bL_18b {G : Cx} {d : Nat} {m : Mm} {Q : Option Value → Mm → Prop} {i : Nat} {r : Int32} (hF : Full G m) (hi : i + 7 ≤ gSl G) (hl : gSl G < 4000) 
    (e1 : WPM G (d + 99) (0, 0) μX11_setOrbit [.ref (gB G + 293), .int (gSx G (i + 1)), .int (gSx G (i + 2)), .int (gSx G (i + 3)), .int (gSx G (i + 4)), .int (gSx G (i + 5)), .int (gSx G (i + 6))] m (fun r' m' => WP G (d + 100) (0, 0) μL_law 920 [.ref (gSa G), .ref (gB G), .ref (gB G + 293), .int (nI i)] (r'.toList ++ [.int r]) m' Q)) :
    WP G (d + 100) (0, 0) μL_law 885 [.ref (gSa G), .ref (gB G), .ref (gB G + 293), .int (nI i)] [.int r] m Q := by
  refine wp_aload_n dL_law_885 rfl ?_
  refine wp_aload_n dL_law_886 rfl ?_
  refine wp_iload_n dL_law_887 rfl ?_
  refine wp_iconst (1 : Int32) dL_law_888 (by decide) ?_
  refine wp_iaddv (nI (i + 1)) dL_law_889 (nadd (a := i) (b := 1) (by omega)) ?_
  refine wp_sld (i + 1) dL_law_890 rfl (by omega) (by omega) ?_
  refine wp_aload_n dL_law_891 rfl ?_
  refine wp_iload_n dL_law_892 rfl ?_
  refine wp_iconst (2 : Int32) dL_law_893 (by decide) ?_
  refine wp_iaddv (nI (i + 2)) dL_law_894 (nadd (a := i) (b := 2) (by omega)) ?_
  refine wp_sld (i + 2) dL_law_895 rfl (by omega) (by omega) ?_
  refine wp_aload_n dL_law_896 rfl ?_
  refine wp_iload_n dL_law_897 rfl ?_
  refine wp_iconst (3 : Int32) dL_law_898 (by decide) ?_
  refine wp_iaddv (nI (i + 3)) dL_law_899 (nadd (a := i) (b := 3) (by omega)) ?_
  refine wp_sld (i + 3) dL_law_900 rfl (by omega) (by omega) ?_
  refine wp_aload_n dL_law_901 rfl ?_
  refine wp_iload_n dL_law_902 rfl ?_
  refine wp_iconst (4 : Int32) dL_law_903 (by decide) ?_
  refine wp_iaddv (nI (i + 4)) dL_law_904 (nadd (a := i) (b := 4) (by omega)) ?_
  refine wp_sld (i + 4) dL_law_905 rfl (by omega) (by omega) ?_
  refine wp_aload_n dL_law_906 rfl ?_
  refine wp_iload_n dL_law_907 rfl ?_
  refine wp_iconst (5 : Int32) dL_law_908 (by decide) ?_
  refine wp_iaddv (nI (i + 5)) dL_law_909 (nadd (a := i) (b := 5) (by omega)) ?_
  refine wp_sld (i + 5) dL_law_910 rfl (by omega) (by omega) ?_
  refine wp_aload_n dL_law_911 rfl ?_
  refine wp_iload_n dL_law_912 rfl ?_
  refine wp_bipush (6 : Int32) dL_law_913 (by decide) ?_
  refine wp_iaddv (nI (i + 6)) dL_law_915 (nadd (a := i) (b := 6) (by omega)) ?_
  refine wp_sld (i + 6) dL_law_916 rfl (by omega) (by omega) ?_
  refine wp_callV (As := [.int (gSx G (i + 1)), .int (gSx G (i + 2)), .int (gSx G (i + 3)), .int (gSx G (i + 4)), .int (gSx G (i + 5)), .int (gSx G (i + 6))]) (S := [.int r]) (b' := (0, 0)) (b := (0, 0)) dL_law_917 ML_94 (ka hF 293 (by decide)) rfl rfl rfl rfl (Nat.le_of_ble_eq_true rfl) ?_
  exact e1

theorem bL_18c {G : Cx} {d : Nat} {m : Mm} {Q : Option Value → Mm → Prop} {i : Nat} {s0 : Int32} {r : Int32} (hF : Full G m) (hi : i + 7 ≤ gSl G) (hl : gSl G < 4000) 
    (e1 : s0 = r → WP G (d + 100) (0, 0) μL_law 18 [.ref (gSa G), .ref (gB G), .ref (gB G + 293), .int (nI (i + 7))] [] m Q)
    (e2 : ¬ s0 = r → Q (some (.int (0 : Int32))) m) :
    WP G (d + 100) (0, 0) μL_law 920 [.ref (gSa G), .ref (gB G), .ref (gB G + 293), .int (nI i)] [.int r, .int s0] m Q := by
  refine wp_icmp_eq 1790 dL_law_920 (by decide) (fun q1 => ?_) (fun q2 => ?_)
  · skip
    refine wp_iinc (nI (i + 7)) dL_law_1790 rfl (by decide) (nadd (a := i) (b := 7) (by omega)) rfl ?_
    refine wp_goto 18 dL_law_1793 (by decide) ?_
    refine wp_forget [.ref (gSa G), .ref (gB G), .ref (gB G + 293), .int (nI (i + 7))] ⟨Or.inl rfl, Or.inl rfl, Or.inl rfl, Or.inl rfl, trivial⟩ ?_
    exact e1 q1
  · skip
    refine wp_iconst (0 : Int32) dL_law_923 (by decide) ?_
    exact wp_zret dL_law_924 rfl rfl (e2 q2)

theorem bL_19a {G : Cx} {d : Nat} {m : Mm} {Q : Option Value → Mm → Prop} {i : Nat} (hF : Full G m) (hi : i + 7 ≤ gSl G) (hl : gSl G < 4000) 
    (e1 : WPM G (d + 99) (0, 0) μX10_setPower [.ref (gB G), .int (gSx G (i + 1)), .int (gSx G (i + 2)), .int (gSx G (i + 3)), .int (gSx G (i + 4))] m (fun r' m' => WP G (d + 100) (0, 0) μL_law 949 [.ref (gSa G), .ref (gB G), .ref (gB G + 293), .int (nI i)] (r'.toList ++ []) m' Q)) :
    WP G (d + 100) (0, 0) μL_law 925 [.ref (gSa G), .ref (gB G), .ref (gB G + 293), .int (nI i)] [] m Q := by
  refine wp_aload_n dL_law_925 rfl ?_
  refine wp_aload_n dL_law_926 rfl ?_
  refine wp_iload_n dL_law_927 rfl ?_
  refine wp_iconst (1 : Int32) dL_law_928 (by decide) ?_
  refine wp_iaddv (nI (i + 1)) dL_law_929 (nadd (a := i) (b := 1) (by omega)) ?_
  refine wp_sld (i + 1) dL_law_930 rfl (by omega) (by omega) ?_
  refine wp_aload_n dL_law_931 rfl ?_
  refine wp_iload_n dL_law_932 rfl ?_
  refine wp_iconst (2 : Int32) dL_law_933 (by decide) ?_
  refine wp_iaddv (nI (i + 2)) dL_law_934 (nadd (a := i) (b := 2) (by omega)) ?_
  refine wp_sld (i + 2) dL_law_935 rfl (by omega) (by omega) ?_
  refine wp_aload_n dL_law_936 rfl ?_
  refine wp_iload_n dL_law_937 rfl ?_
  refine wp_iconst (3 : Int32) dL_law_938 (by decide) ?_
  refine wp_iaddv (nI (i + 3)) dL_law_939 (nadd (a := i) (b := 3) (by omega)) ?_
  refine wp_sld (i + 3) dL_law_940 rfl (by omega) (by omega) ?_
  refine wp_aload_n dL_law_941 rfl ?_
  refine wp_iload_n dL_law_942 rfl ?_
  refine wp_iconst (4 : Int32) dL_law_943 (by decide) ?_
  refine wp_iaddv (nI (i + 4)) dL_law_944 (nadd (a := i) (b := 4) (by omega)) ?_
  refine wp_sld (i + 4) dL_law_945 rfl (by omega) (by omega) ?_
  refine wp_callV (As := [.int (gSx G (i + 1)), .int (gSx G (i + 2)), .int (gSx G (i + 3)), .int (gSx G (i + 4))]) (S := []) (b' := (0, 0)) (b := (0, 0)) dL_law_946 ML_95 (ka0 hF) rfl rfl rfl rfl (Nat.le_of_ble_eq_true rfl) ?_
  exact e1

theorem bL_19b {G : Cx} {d : Nat} {m : Mm} {Q : Option Value → Mm → Prop} {i : Nat} {r : Int32} (hF : Full G m) (hi : i + 7 ≤ gSl G) (hl : gSl G < 4000) 
    (e1 : WPM G (d + 99) (0, 0) μX11_setPower [.ref (gB G + 293), .int (gSx G (i + 1)), .int (gSx G (i + 2)), .int (gSx G (i + 3)), .int (gSx G (i + 4))] m (fun r' m' => WP G (d + 100) (0, 0) μL_law 973 [.ref (gSa G), .ref (gB G), .ref (gB G + 293), .int (nI i)] (r'.toList ++ [.int r]) m' Q)) :
    WP G (d + 100) (0, 0) μL_law 949 [.ref (gSa G), .ref (gB G), .ref (gB G + 293), .int (nI i)] [.int r] m Q := by
  refine wp_aload_n dL_law_949 rfl ?_
  refine wp_aload_n dL_law_950 rfl ?_
  refine wp_iload_n dL_law_951 rfl ?_
  refine wp_iconst (1 : Int32) dL_law_952 (by decide) ?_
  refine wp_iaddv (nI (i + 1)) dL_law_953 (nadd (a := i) (b := 1) (by omega)) ?_
  refine wp_sld (i + 1) dL_law_954 rfl (by omega) (by omega) ?_
  refine wp_aload_n dL_law_955 rfl ?_
  refine wp_iload_n dL_law_956 rfl ?_
  refine wp_iconst (2 : Int32) dL_law_957 (by decide) ?_
  refine wp_iaddv (nI (i + 2)) dL_law_958 (nadd (a := i) (b := 2) (by omega)) ?_
  refine wp_sld (i + 2) dL_law_959 rfl (by omega) (by omega) ?_
  refine wp_aload_n dL_law_960 rfl ?_
  refine wp_iload_n dL_law_961 rfl ?_
  refine wp_iconst (3 : Int32) dL_law_962 (by decide) ?_
  refine wp_iaddv (nI (i + 3)) dL_law_963 (nadd (a := i) (b := 3) (by omega)) ?_
  refine wp_sld (i + 3) dL_law_964 rfl (by omega) (by omega) ?_
  refine wp_aload_n dL_law_965 rfl ?_
  refine wp_iload_n dL_law_966 rfl ?_
  refine wp_iconst (4 : Int32) dL_law_967 (by decide) ?_
  refine wp_iaddv (nI (i + 4)) dL_law_968 (nadd (a := i) (b := 4) (by omega)) ?_
  refine wp_sld (i + 4) dL_law_969 rfl (by omega) (by omega) ?_
  refine wp_callV (As := [.int (gSx G (i + 1)), .int (gSx G (i + 2)), .int (gSx G (i + 3)), .int (gSx G (i + 4))]) (S := [.int r]) (b' := (0, 0)) (b := (0, 0)) dL_law_970 ML_99 (ka hF 293 (by decide)) rfl rfl rfl rfl (Nat.le_of_ble_eq_true rfl) ?_
  exact e1

theorem bL_19c {G : Cx} {d : Nat} {m : Mm} {Q : Option Value → Mm → Prop} {i : Nat} {s0 : Int32} {r : Int32} (hF : Full G m) (hi : i + 7 ≤ gSl G) (hl : gSl G < 4000) 
    (e1 : s0 = r → WP G (d + 100) (0, 0) μL_law 18 [.ref (gSa G), .ref (gB G), .ref (gB G + 293), .int (nI (i + 7))] [] m Q)
    (e2 : ¬ s0 = r → Q (some (.int (0 : Int32))) m) :
    WP G (d + 100) (0, 0) μL_law 973 [.ref (gSa G), .ref (gB G), .ref (gB G + 293), .int (nI i)] [.int r, .int s0] m Q := by
  refine wp_icmp_eq 1790 dL_law_973 (by decide) (fun q1 => ?_) (fun q2 => ?_)
  · skip
    refine wp_iinc (nI (i + 7)) dL_law_1790 rfl (by decide) (nadd (a := i) (b := 7) (by omega)) rfl ?_
    refine wp_goto 18 dL_law_1793 (by decide) ?_
    refine wp_forget [.ref (gSa G), .ref (gB G), .ref (gB G + 293), .int (nI (i + 7))] ⟨Or.inl rfl, Or.inl rfl, Or.inl rfl, Or.inl rfl, trivial⟩ ?_
    exact e1 q1
  · skip
    refine wp_iconst (0 : Int32) dL_law_976 (by decide) ?_
    exact wp_zret dL_law_977 rfl rfl (e2 q2)

theorem bL_20a {G : Cx} {d : Nat} {m : Mm} {Q : Option Value → Mm → Prop} {i : Nat} (hF : Full G m) (hi : i + 7 ≤ gSl G) (hl : gSl G < 4000) 
    (e1 : WPM G (d + 99) (0, 0) μX10_setStepLength [.ref (gB G), .int (gSx G (i + 1))] m (fun r' m' => WP G (d + 100) (0, 0) μL_law 987 [.ref (gSa G), .ref (gB G), .ref (gB G + 293), .int (nI i)] (r'.toList ++ []) m' Q)) :
    WP G (d + 100) (0, 0) μL_law 978 [.ref (gSa G), .ref (gB G), .ref (gB G + 293), .int (nI i)] [] m Q := by
  refine wp_aload_n dL_law_978 rfl ?_
  refine wp_aload_n dL_law_979 rfl ?_
  refine wp_iload_n dL_law_980 rfl ?_
  refine wp_iconst (1 : Int32) dL_law_981 (by decide) ?_
  refine wp_iaddv (nI (i + 1)) dL_law_982 (nadd (a := i) (b := 1) (by omega)) ?_
  refine wp_sld (i + 1) dL_law_983 rfl (by omega) (by omega) ?_
  refine wp_callV (As := [.int (gSx G (i + 1))]) (S := []) (b' := (0, 0)) (b := (0, 0)) dL_law_984 ML_100 (ka0 hF) rfl rfl rfl rfl (Nat.le_of_ble_eq_true rfl) ?_
  exact e1

theorem bL_20b {G : Cx} {d : Nat} {m : Mm} {Q : Option Value → Mm → Prop} {i : Nat} {r : Int32} (hF : Full G m) (hi : i + 7 ≤ gSl G) (hl : gSl G < 4000) 
    (e1 : WPM G (d + 99) (0, 0) μX11_setStepLength [.ref (gB G + 293), .int (gSx G (i + 1))] m (fun r' m' => WP G (d + 100) (0, 0) μL_law 996 [.ref (gSa G), .ref (gB G), .ref (gB G + 293), .int (nI i)] (r'.toList ++ [.int r]) m' Q)) :
    WP G (d + 100) (0, 0) μL_law 987 [.ref (gSa G), .ref (gB G), .ref (gB G + 293), .int (nI i)] [.int r] m Q := by
  refine wp_aload_n dL_law_987 rfl ?_
  refine wp_aload_n dL_law_988 rfl ?_
  refine wp_iload_n dL_law_989 rfl ?_
  refine wp_iconst (1 : Int32) dL_law_990 (by decide) ?_
  refine wp_iaddv (nI (i + 1)) dL_law_991 (nadd (a := i) (b := 1) (by omega)) ?_
  refine wp_sld (i + 1) dL_law_992 rfl (by omega) (by omega) ?_
  refine wp_callV (As := [.int (gSx G (i + 1))]) (S := [.int r]) (b' := (0, 0)) (b := (0, 0)) dL_law_993 ML_103 (ka hF 293 (by decide)) rfl rfl rfl rfl (Nat.le_of_ble_eq_true rfl) ?_
  exact e1

theorem bL_20c {G : Cx} {d : Nat} {m : Mm} {Q : Option Value → Mm → Prop} {i : Nat} {s0 : Int32} {r : Int32} (hF : Full G m) (hi : i + 7 ≤ gSl G) (hl : gSl G < 4000) 
    (e1 : s0 = r → WP G (d + 100) (0, 0) μL_law 18 [.ref (gSa G), .ref (gB G), .ref (gB G + 293), .int (nI (i + 7))] [] m Q)
    (e2 : ¬ s0 = r → Q (some (.int (0 : Int32))) m) :
    WP G (d + 100) (0, 0) μL_law 996 [.ref (gSa G), .ref (gB G), .ref (gB G + 293), .int (nI i)] [.int r, .int s0] m Q := by
  refine wp_icmp_eq 1790 dL_law_996 (by decide) (fun q1 => ?_) (fun q2 => ?_)
  · skip
    refine wp_iinc (nI (i + 7)) dL_law_1790 rfl (by decide) (nadd (a := i) (b := 7) (by omega)) rfl ?_
    refine wp_goto 18 dL_law_1793 (by decide) ?_
    refine wp_forget [.ref (gSa G), .ref (gB G), .ref (gB G + 293), .int (nI (i + 7))] ⟨Or.inl rfl, Or.inl rfl, Or.inl rfl, Or.inl rfl, trivial⟩ ?_
    exact e1 q1
  · skip
    refine wp_iconst (0 : Int32) dL_law_999 (by decide) ?_
    exact wp_zret dL_law_1000 rfl rfl (e2 q2)

theorem bL_21a {G : Cx} {d : Nat} {m : Mm} {Q : Option Value → Mm → Prop} {i : Nat} (hF : Full G m) (hi : i + 7 ≤ gSl G) (hl : gSl G < 4000) 
    (e1 : WPM G (d + 99) (0, 0) μX10_run [.ref (gB G), .int (gSx G (i + 1))] m (fun r' m' => WP G (d + 100) (0, 0) μL_law 1010 [.ref (gSa G), .ref (gB G), .ref (gB G + 293), .int (nI i)] (r'.toList ++ []) m' Q)) :
    WP G (d + 100) (0, 0) μL_law 1001 [.ref (gSa G), .ref (gB G), .ref (gB G + 293), .int (nI i)] [] m Q := by
  refine wp_aload_n dL_law_1001 rfl ?_
  refine wp_aload_n dL_law_1002 rfl ?_
  refine wp_iload_n dL_law_1003 rfl ?_
  refine wp_iconst (1 : Int32) dL_law_1004 (by decide) ?_
  refine wp_iaddv (nI (i + 1)) dL_law_1005 (nadd (a := i) (b := 1) (by omega)) ?_
  refine wp_sld (i + 1) dL_law_1006 rfl (by omega) (by omega) ?_
  refine wp_callV (As := [.int (gSx G (i + 1))]) (S := []) (b' := (0, 0)) (b := (0, 0)) dL_law_1007 ML_104 (ka0 hF) rfl rfl rfl rfl (Nat.le_of_ble_eq_true rfl) ?_
  exact e1

theorem bL_21b {G : Cx} {d : Nat} {m : Mm} {Q : Option Value → Mm → Prop} {i : Nat} {r : Int32} (hF : Full G m) (hi : i + 7 ≤ gSl G) (hl : gSl G < 4000) 
    (e1 : WPM G (d + 99) (0, 0) μX11_run [.ref (gB G + 293), .int (gSx G (i + 1))] m (fun r' m' => WP G (d + 100) (0, 0) μL_law 1019 [.ref (gSa G), .ref (gB G), .ref (gB G + 293), .int (nI i)] (r'.toList ++ [.int r]) m' Q)) :
    WP G (d + 100) (0, 0) μL_law 1010 [.ref (gSa G), .ref (gB G), .ref (gB G + 293), .int (nI i)] [.int r] m Q := by
  refine wp_aload_n dL_law_1010 rfl ?_
  refine wp_aload_n dL_law_1011 rfl ?_
  refine wp_iload_n dL_law_1012 rfl ?_
  refine wp_iconst (1 : Int32) dL_law_1013 (by decide) ?_
  refine wp_iaddv (nI (i + 1)) dL_law_1014 (nadd (a := i) (b := 1) (by omega)) ?_
  refine wp_sld (i + 1) dL_law_1015 rfl (by omega) (by omega) ?_
  refine wp_callV (As := [.int (gSx G (i + 1))]) (S := [.int r]) (b' := (0, 0)) (b := (0, 0)) dL_law_1016 ML_107 (ka hF 293 (by decide)) rfl rfl rfl rfl (Nat.le_of_ble_eq_true rfl) ?_
  exact e1

theorem bL_21c {G : Cx} {d : Nat} {m : Mm} {Q : Option Value → Mm → Prop} {i : Nat} {s0 : Int32} {r : Int32} (hF : Full G m) (hi : i + 7 ≤ gSl G) (hl : gSl G < 4000) 
    (e1 : s0 = r → WP G (d + 100) (0, 0) μL_law 18 [.ref (gSa G), .ref (gB G), .ref (gB G + 293), .int (nI (i + 7))] [] m Q)
    (e2 : ¬ s0 = r → Q (some (.int (0 : Int32))) m) :
    WP G (d + 100) (0, 0) μL_law 1019 [.ref (gSa G), .ref (gB G), .ref (gB G + 293), .int (nI i)] [.int r, .int s0] m Q := by
  refine wp_icmp_eq 1790 dL_law_1019 (by decide) (fun q1 => ?_) (fun q2 => ?_)
  · skip
    refine wp_iinc (nI (i + 7)) dL_law_1790 rfl (by decide) (nadd (a := i) (b := 7) (by omega)) rfl ?_
    refine wp_goto 18 dL_law_1793 (by decide) ?_
    refine wp_forget [.ref (gSa G), .ref (gB G), .ref (gB G + 293), .int (nI (i + 7))] ⟨Or.inl rfl, Or.inl rfl, Or.inl rfl, Or.inl rfl, trivial⟩ ?_
    exact e1 q1
  · skip
    refine wp_iconst (0 : Int32) dL_law_1022 (by decide) ?_
    exact wp_zret dL_law_1023 rfl rfl (e2 q2)

theorem bL_22a {G : Cx} {d : Nat} {m : Mm} {Q : Option Value → Mm → Prop} {i : Nat} (hF : Full G m) (hi : i + 7 ≤ gSl G) (hl : gSl G < 4000) 
    (e1 : WPM G (d + 99) (0, 0) μX10_time [.ref (gB G)] m (fun r' m' => WP G (d + 100) (0, 0) μL_law 1028 [.ref (gSa G), .ref (gB G), .ref (gB G + 293), .int (nI i)] (r'.toList ++ []) m' Q)) :
    WP G (d + 100) (0, 0) μL_law 1024 [.ref (gSa G), .ref (gB G), .ref (gB G + 293), .int (nI i)] [] m Q := by
  refine wp_aload_n dL_law_1024 rfl ?_
  refine wp_callV (As := []) (S := []) (b' := (0, 0)) (b := (0, 0)) dL_law_1025 ML_108 (ka0 hF) rfl rfl rfl rfl (Nat.le_of_ble_eq_true rfl) ?_
  exact e1

theorem bL_22b {G : Cx} {d : Nat} {m : Mm} {Q : Option Value → Mm → Prop} {i : Nat} {r : Int32} (hF : Full G m) (hi : i + 7 ≤ gSl G) (hl : gSl G < 4000) 
    (e1 : WPM G (d + 99) (0, 0) μX11_time [.ref (gB G + 293)] m (fun r' m' => WP G (d + 100) (0, 0) μL_law 1032 [.ref (gSa G), .ref (gB G), .ref (gB G + 293), .int (nI i)] (r'.toList ++ [.int r]) m' Q)) :
    WP G (d + 100) (0, 0) μL_law 1028 [.ref (gSa G), .ref (gB G), .ref (gB G + 293), .int (nI i)] [.int r] m Q := by
  refine wp_aload_n dL_law_1028 rfl ?_
  refine wp_callV (As := []) (S := [.int r]) (b' := (0, 0)) (b := (0, 0)) dL_law_1029 ML_111 (ka hF 293 (by decide)) rfl rfl rfl rfl (Nat.le_of_ble_eq_true rfl) ?_
  exact e1

theorem bL_22c {G : Cx} {d : Nat} {m : Mm} {Q : Option Value → Mm → Prop} {i : Nat} {s0 : Int32} {r : Int32} (hF : Full G m) (hi : i + 7 ≤ gSl G) (hl : gSl G < 4000) 
    (e1 : s0 = r → WP G (d + 100) (0, 0) μL_law 18 [.ref (gSa G), .ref (gB G), .ref (gB G + 293), .int (nI (i + 7))] [] m Q)
    (e2 : ¬ s0 = r → Q (some (.int (0 : Int32))) m) :
    WP G (d + 100) (0, 0) μL_law 1032 [.ref (gSa G), .ref (gB G), .ref (gB G + 293), .int (nI i)] [.int r, .int s0] m Q := by
  refine wp_icmp_eq 1790 dL_law_1032 (by decide) (fun q1 => ?_) (fun q2 => ?_)
  · skip
    refine wp_iinc (nI (i + 7)) dL_law_1790 rfl (by decide) (nadd (a := i) (b := 7) (by omega)) rfl ?_
    refine wp_goto 18 dL_law_1793 (by decide) ?_
    refine wp_forget [.ref (gSa G), .ref (gB G), .ref (gB G + 293), .int (nI (i + 7))] ⟨Or.inl rfl, Or.inl rfl, Or.inl rfl, Or.inl rfl, trivial⟩ ?_
    exact e1 q1
  · skip
    refine wp_iconst (0 : Int32) dL_law_1035 (by decide) ?_
    exact wp_zret dL_law_1036 rfl rfl (e2 q2)

theorem bL_23a {G : Cx} {d : Nat} {m : Mm} {Q : Option Value → Mm → Prop} {i : Nat} (hF : Full G m) (hi : i + 7 ≤ gSl G) (hl : gSl G < 4000) 
    (e1 : WPM G (d + 99) (0, 0) μX10_phase [.ref (gB G)] m (fun r' m' => WP G (d + 100) (0, 0) μL_law 1041 [.ref (gSa G), .ref (gB G), .ref (gB G + 293), .int (nI i)] (r'.toList ++ []) m' Q)) :
    WP G (d + 100) (0, 0) μL_law 1037 [.ref (gSa G), .ref (gB G), .ref (gB G + 293), .int (nI i)] [] m Q := by
  refine wp_aload_n dL_law_1037 rfl ?_
  refine wp_callV (As := []) (S := []) (b' := (0, 0)) (b := (0, 0)) dL_law_1038 ML_112 (ka0 hF) rfl rfl rfl rfl (Nat.le_of_ble_eq_true rfl) ?_
  exact e1

theorem bL_23b {G : Cx} {d : Nat} {m : Mm} {Q : Option Value → Mm → Prop} {i : Nat} {r : Int32} (hF : Full G m) (hi : i + 7 ≤ gSl G) (hl : gSl G < 4000) 
    (e1 : WPM G (d + 99) (0, 0) μX11_phase [.ref (gB G + 293)] m (fun r' m' => WP G (d + 100) (0, 0) μL_law 1045 [.ref (gSa G), .ref (gB G), .ref (gB G + 293), .int (nI i)] (r'.toList ++ [.int r]) m' Q)) :
    WP G (d + 100) (0, 0) μL_law 1041 [.ref (gSa G), .ref (gB G), .ref (gB G + 293), .int (nI i)] [.int r] m Q := by
  refine wp_aload_n dL_law_1041 rfl ?_
  refine wp_callV (As := []) (S := [.int r]) (b' := (0, 0)) (b := (0, 0)) dL_law_1042 ML_115 (ka hF 293 (by decide)) rfl rfl rfl rfl (Nat.le_of_ble_eq_true rfl) ?_
  exact e1

theorem bL_23c {G : Cx} {d : Nat} {m : Mm} {Q : Option Value → Mm → Prop} {i : Nat} {s0 : Int32} {r : Int32} (hF : Full G m) (hi : i + 7 ≤ gSl G) (hl : gSl G < 4000) 
    (e1 : s0 = r → WP G (d + 100) (0, 0) μL_law 18 [.ref (gSa G), .ref (gB G), .ref (gB G + 293), .int (nI (i + 7))] [] m Q)
    (e2 : ¬ s0 = r → Q (some (.int (0 : Int32))) m) :
    WP G (d + 100) (0, 0) μL_law 1045 [.ref (gSa G), .ref (gB G), .ref (gB G + 293), .int (nI i)] [.int r, .int s0] m Q := by
  refine wp_icmp_eq 1790 dL_law_1045 (by decide) (fun q1 => ?_) (fun q2 => ?_)
  · skip
    refine wp_iinc (nI (i + 7)) dL_law_1790 rfl (by decide) (nadd (a := i) (b := 7) (by omega)) rfl ?_
    refine wp_goto 18 dL_law_1793 (by decide) ?_
    refine wp_forget [.ref (gSa G), .ref (gB G), .ref (gB G + 293), .int (nI (i + 7))] ⟨Or.inl rfl, Or.inl rfl, Or.inl rfl, Or.inl rfl, trivial⟩ ?_
    exact e1 q1
  · skip
    refine wp_iconst (0 : Int32) dL_law_1048 (by decide) ?_
    exact wp_zret dL_law_1049 rfl rfl (e2 q2)

theorem bL_24a {G : Cx} {d : Nat} {m : Mm} {Q : Option Value → Mm → Prop} {i : Nat} (hF : Full G m) (hi : i + 7 ≤ gSl G) (hl : gSl G < 4000) 
    (e1 : WPM G (d + 99) (0, 0) μX10_isSunlit [.ref (gB G)] m (fun r' m' => WP G (d + 100) (0, 0) μL_law 1054 [.ref (gSa G), .ref (gB G), .ref (gB G + 293), .int (nI i)] (r'.toList ++ []) m' Q)) :
    WP G (d + 100) (0, 0) μL_law 1050 [.ref (gSa G), .ref (gB G), .ref (gB G + 293), .int (nI i)] [] m Q := by
  refine wp_aload_n dL_law_1050 rfl ?_
  refine wp_callV (As := []) (S := []) (b' := (0, 0)) (b := (0, 0)) dL_law_1051 ML_116 (ka0 hF) rfl rfl rfl rfl (Nat.le_of_ble_eq_true rfl) ?_
  exact e1

theorem bL_24b {G : Cx} {d : Nat} {m : Mm} {Q : Option Value → Mm → Prop} {i : Nat} {r : Int32} (hF : Full G m) (hi : i + 7 ≤ gSl G) (hl : gSl G < 4000) 
    (e1 : WPM G (d + 99) (0, 0) μX11_isSunlit [.ref (gB G + 293)] m (fun r' m' => WP G (d + 100) (0, 0) μL_law 1058 [.ref (gSa G), .ref (gB G), .ref (gB G + 293), .int (nI i)] (r'.toList ++ [.int r]) m' Q)) :
    WP G (d + 100) (0, 0) μL_law 1054 [.ref (gSa G), .ref (gB G), .ref (gB G + 293), .int (nI i)] [.int r] m Q := by
  refine wp_aload_n dL_law_1054 rfl ?_
  refine wp_callV (As := []) (S := [.int r]) (b' := (0, 0)) (b := (0, 0)) dL_law_1055 ML_120 (ka hF 293 (by decide)) rfl rfl rfl rfl (Nat.le_of_ble_eq_true rfl) ?_
  exact e1

theorem bL_24c {G : Cx} {d : Nat} {m : Mm} {Q : Option Value → Mm → Prop} {i : Nat} {s0 : Int32} {r : Int32} (hF : Full G m) (hi : i + 7 ≤ gSl G) (hl : gSl G < 4000) 
    (e1 : s0 = r → WP G (d + 100) (0, 0) μL_law 18 [.ref (gSa G), .ref (gB G), .ref (gB G + 293), .int (nI (i + 7))] [] m Q)
    (e2 : ¬ s0 = r → Q (some (.int (0 : Int32))) m) :
    WP G (d + 100) (0, 0) μL_law 1058 [.ref (gSa G), .ref (gB G), .ref (gB G + 293), .int (nI i)] [.int r, .int s0] m Q := by
  refine wp_icmp_eq 1790 dL_law_1058 (by decide) (fun q1 => ?_) (fun q2 => ?_)
  · skip
    refine wp_iinc (nI (i + 7)) dL_law_1790 rfl (by decide) (nadd (a := i) (b := 7) (by omega)) rfl ?_
    refine wp_goto 18 dL_law_1793 (by decide) ?_
    refine wp_forget [.ref (gSa G), .ref (gB G), .ref (gB G + 293), .int (nI (i + 7))] ⟨Or.inl rfl, Or.inl rfl, Or.inl rfl, Or.inl rfl, trivial⟩ ?_
    exact e1 q1
  · skip
    refine wp_iconst (0 : Int32) dL_law_1061 (by decide) ?_
    exact wp_zret dL_law_1062 rfl rfl (e2 q2)

theorem bL_25a {G : Cx} {d : Nat} {m : Mm} {Q : Option Value → Mm → Prop} {i : Nat} (hF : Full G m) (hi : i + 7 ≤ gSl G) (hl : gSl G < 4000) 
    (e1 : WPM G (d + 99) (0, 0) μX10_charge [.ref (gB G)] m (fun r' m' => WP G (d + 100) (0, 0) μL_law 1067 [.ref (gSa G), .ref (gB G), .ref (gB G + 293), .int (nI i)] (r'.toList ++ []) m' Q)) :
    WP G (d + 100) (0, 0) μL_law 1063 [.ref (gSa G), .ref (gB G), .ref (gB G + 293), .int (nI i)] [] m Q := by
  refine wp_aload_n dL_law_1063 rfl ?_
  refine wp_callV (As := []) (S := []) (b' := (0, 0)) (b := (0, 0)) dL_law_1064 ML_121 (ka0 hF) rfl rfl rfl rfl (Nat.le_of_ble_eq_true rfl) ?_
  exact e1

theorem bL_25b {G : Cx} {d : Nat} {m : Mm} {Q : Option Value → Mm → Prop} {i : Nat} {r : Int32} (hF : Full G m) (hi : i + 7 ≤ gSl G) (hl : gSl G < 4000) 
    (e1 : WPM G (d + 99) (0, 0) μX11_charge [.ref (gB G + 293)] m (fun r' m' => WP G (d + 100) (0, 0) μL_law 1071 [.ref (gSa G), .ref (gB G), .ref (gB G + 293), .int (nI i)] (r'.toList ++ [.int r]) m' Q)) :
    WP G (d + 100) (0, 0) μL_law 1067 [.ref (gSa G), .ref (gB G), .ref (gB G + 293), .int (nI i)] [.int r] m Q := by
  refine wp_aload_n dL_law_1067 rfl ?_
  refine wp_callV (As := []) (S := [.int r]) (b' := (0, 0)) (b := (0, 0)) dL_law_1068 ML_124 (ka hF 293 (by decide)) rfl rfl rfl rfl (Nat.le_of_ble_eq_true rfl) ?_
  exact e1

theorem bL_25c {G : Cx} {d : Nat} {m : Mm} {Q : Option Value → Mm → Prop} {i : Nat} {s0 : Int32} {r : Int32} (hF : Full G m) (hi : i + 7 ≤ gSl G) (hl : gSl G < 4000) 
    (e1 : s0 = r → WP G (d + 100) (0, 0) μL_law 18 [.ref (gSa G), .ref (gB G), .ref (gB G + 293), .int (nI (i + 7))] [] m Q)
    (e2 : ¬ s0 = r → Q (some (.int (0 : Int32))) m) :
    WP G (d + 100) (0, 0) μL_law 1071 [.ref (gSa G), .ref (gB G), .ref (gB G + 293), .int (nI i)] [.int r, .int s0] m Q := by
  refine wp_icmp_eq 1790 dL_law_1071 (by decide) (fun q1 => ?_) (fun q2 => ?_)
  · skip
    refine wp_iinc (nI (i + 7)) dL_law_1790 rfl (by decide) (nadd (a := i) (b := 7) (by omega)) rfl ?_
    refine wp_goto 18 dL_law_1793 (by decide) ?_
    refine wp_forget [.ref (gSa G), .ref (gB G), .ref (gB G + 293), .int (nI (i + 7))] ⟨Or.inl rfl, Or.inl rfl, Or.inl rfl, Or.inl rfl, trivial⟩ ?_
    exact e1 q1
  · skip
    refine wp_iconst (0 : Int32) dL_law_1074 (by decide) ?_
    exact wp_zret dL_law_1075 rfl rfl (e2 q2)

theorem bL_26a {G : Cx} {d : Nat} {m : Mm} {Q : Option Value → Mm → Prop} {i : Nat} (hF : Full G m) (hi : i + 7 ≤ gSl G) (hl : gSl G < 4000) 
    (e1 : WPM G (d + 99) (0, 0) μX10_usedPower [.ref (gB G)] m (fun r' m' => WP G (d + 100) (0, 0) μL_law 1080 [.ref (gSa G), .ref (gB G), .ref (gB G + 293), .int (nI i)] (r'.toList ++ []) m' Q)) :
    WP G (d + 100) (0, 0) μL_law 1076 [.ref (gSa G), .ref (gB G), .ref (gB G + 293), .int (nI i)] [] m Q := by
  refine wp_aload_n dL_law_1076 rfl ?_
  refine wp_callV (As := []) (S := []) (b' := (0, 0)) (b := (0, 0)) dL_law_1077 ML_125 (ka0 hF) rfl rfl rfl rfl (Nat.le_of_ble_eq_true rfl) ?_
  exact e1

theorem bL_26b {G : Cx} {d : Nat} {m : Mm} {Q : Option Value → Mm → Prop} {i : Nat} {r : Int32} (hF : Full G m) (hi : i + 7 ≤ gSl G) (hl : gSl G < 4000) 
    (e1 : WPM G (d + 99) (0, 0) μX11_usedPower [.ref (gB G + 293)] m (fun r' m' => WP G (d + 100) (0, 0) μL_law 1084 [.ref (gSa G), .ref (gB G), .ref (gB G + 293), .int (nI i)] (r'.toList ++ [.int r]) m' Q)) :
    WP G (d + 100) (0, 0) μL_law 1080 [.ref (gSa G), .ref (gB G), .ref (gB G + 293), .int (nI i)] [.int r] m Q := by
  refine wp_aload_n dL_law_1080 rfl ?_
  refine wp_callV (As := []) (S := [.int r]) (b' := (0, 0)) (b := (0, 0)) dL_law_1081 ML_128 (ka hF 293 (by decide)) rfl rfl rfl rfl (Nat.le_of_ble_eq_true rfl) ?_
  exact e1

theorem bL_26c {G : Cx} {d : Nat} {m : Mm} {Q : Option Value → Mm → Prop} {i : Nat} {s0 : Int32} {r : Int32} (hF : Full G m) (hi : i + 7 ≤ gSl G) (hl : gSl G < 4000) 
    (e1 : s0 = r → WP G (d + 100) (0, 0) μL_law 18 [.ref (gSa G), .ref (gB G), .ref (gB G + 293), .int (nI (i + 7))] [] m Q)
    (e2 : ¬ s0 = r → Q (some (.int (0 : Int32))) m) :
    WP G (d + 100) (0, 0) μL_law 1084 [.ref (gSa G), .ref (gB G), .ref (gB G + 293), .int (nI i)] [.int r, .int s0] m Q := by
  refine wp_icmp_eq 1790 dL_law_1084 (by decide) (fun q1 => ?_) (fun q2 => ?_)
  · skip
    refine wp_iinc (nI (i + 7)) dL_law_1790 rfl (by decide) (nadd (a := i) (b := 7) (by omega)) rfl ?_
    refine wp_goto 18 dL_law_1793 (by decide) ?_
    refine wp_forget [.ref (gSa G), .ref (gB G), .ref (gB G + 293), .int (nI (i + 7))] ⟨Or.inl rfl, Or.inl rfl, Or.inl rfl, Or.inl rfl, trivial⟩ ?_
    exact e1 q1
  · skip
    refine wp_iconst (0 : Int32) dL_law_1087 (by decide) ?_
    exact wp_zret dL_law_1088 rfl rfl (e2 q2)

theorem bL_27a {G : Cx} {d : Nat} {m : Mm} {Q : Option Value → Mm → Prop} {i : Nat} (hF : Full G m) (hi : i + 7 ≤ gSl G) (hl : gSl G < 4000) 
    (e1 : WPM G (d + 99) (0, 0) μX10_temperature [.ref (gB G), .int (gSx G (i + 1))] m (fun r' m' => WP G (d + 100) (0, 0) μL_law 1098 [.ref (gSa G), .ref (gB G), .ref (gB G + 293), .int (nI i)] (r'.toList ++ []) m' Q)) :
    WP G (d + 100) (0, 0) μL_law 1089 [.ref (gSa G), .ref (gB G), .ref (gB G + 293), .int (nI i)] [] m Q := by
  refine wp_aload_n dL_law_1089 rfl ?_
  refine wp_aload_n dL_law_1090 rfl ?_
  refine wp_iload_n dL_law_1091 rfl ?_
  refine wp_iconst (1 : Int32) dL_law_1092 (by decide) ?_
  refine wp_iaddv (nI (i + 1)) dL_law_1093 (nadd (a := i) (b := 1) (by omega)) ?_
  refine wp_sld (i + 1) dL_law_1094 rfl (by omega) (by omega) ?_
  refine wp_callV (As := [.int (gSx G (i + 1))]) (S := []) (b' := (0, 0)) (b := (0, 0)) dL_law_1095 ML_129 (ka0 hF) rfl rfl rfl rfl (Nat.le_of_ble_eq_true rfl) ?_
  exact e1

theorem bL_27b {G : Cx} {d : Nat} {m : Mm} {Q : Option Value → Mm → Prop} {i : Nat} {r : Int32} (hF : Full G m) (hi : i + 7 ≤ gSl G) (hl : gSl G < 4000) 
    (e1 : WPM G (d + 99) (0, 0) μX11_temperature [.ref (gB G + 293), .int (gSx G (i + 1))] m (fun r' m' => WP G (d + 100) (0, 0) μL_law 1107 [.ref (gSa G), .ref (gB G), .ref (gB G + 293), .int (nI i)] (r'.toList ++ [.int r]) m' Q)) :
    WP G (d + 100) (0, 0) μL_law 1098 [.ref (gSa G), .ref (gB G), .ref (gB G + 293), .int (nI i)] [.int r] m Q := by
  refine wp_aload_n dL_law_1098 rfl ?_
  refine wp_aload_n dL_law_1099 rfl ?_
  refine wp_iload_n dL_law_1100 rfl ?_
  refine wp_iconst (1 : Int32) dL_law_1101 (by decide) ?_
  refine wp_iaddv (nI (i + 1)) dL_law_1102 (nadd (a := i) (b := 1) (by omega)) ?_
  refine wp_sld (i + 1) dL_law_1103 rfl (by omega) (by omega) ?_
  refine wp_callV (As := [.int (gSx G (i + 1))]) (S := [.int r]) (b' := (0, 0)) (b := (0, 0)) dL_law_1104 ML_132 (ka hF 293 (by decide)) rfl rfl rfl rfl (Nat.le_of_ble_eq_true rfl) ?_
  exact e1

theorem bL_27c {G : Cx} {d : Nat} {m : Mm} {Q : Option Value → Mm → Prop} {i : Nat} {s0 : Int32} {r : Int32} (hF : Full G m) (hi : i + 7 ≤ gSl G) (hl : gSl G < 4000) 
    (e1 : s0 = r → WP G (d + 100) (0, 0) μL_law 18 [.ref (gSa G), .ref (gB G), .ref (gB G + 293), .int (nI (i + 7))] [] m Q)
    (e2 : ¬ s0 = r → Q (some (.int (0 : Int32))) m) :
    WP G (d + 100) (0, 0) μL_law 1107 [.ref (gSa G), .ref (gB G), .ref (gB G + 293), .int (nI i)] [.int r, .int s0] m Q := by
  refine wp_icmp_eq 1790 dL_law_1107 (by decide) (fun q1 => ?_) (fun q2 => ?_)
  · skip
    refine wp_iinc (nI (i + 7)) dL_law_1790 rfl (by decide) (nadd (a := i) (b := 7) (by omega)) rfl ?_
    refine wp_goto 18 dL_law_1793 (by decide) ?_
    refine wp_forget [.ref (gSa G), .ref (gB G), .ref (gB G + 293), .int (nI (i + 7))] ⟨Or.inl rfl, Or.inl rfl, Or.inl rfl, Or.inl rfl, trivial⟩ ?_
    exact e1 q1
  · skip
    refine wp_iconst (0 : Int32) dL_law_1110 (by decide) ?_
    exact wp_zret dL_law_1111 rfl rfl (e2 q2)

theorem bL_28a {G : Cx} {d : Nat} {m : Mm} {Q : Option Value → Mm → Prop} {i : Nat} (hF : Full G m) (hi : i + 7 ≤ gSl G) (hl : gSl G < 4000) 
    (e1 : WPM G (d + 99) (0, 0) μX10_load [.ref (gB G), .int (gSx G (i + 1))] m (fun r' m' => WP G (d + 100) (0, 0) μL_law 1121 [.ref (gSa G), .ref (gB G), .ref (gB G + 293), .int (nI i)] (r'.toList ++ []) m' Q)) :
    WP G (d + 100) (0, 0) μL_law 1112 [.ref (gSa G), .ref (gB G), .ref (gB G + 293), .int (nI i)] [] m Q := by
  refine wp_aload_n dL_law_1112 rfl ?_
  refine wp_aload_n dL_law_1113 rfl ?_
  refine wp_iload_n dL_law_1114 rfl ?_
  refine wp_iconst (1 : Int32) dL_law_1115 (by decide) ?_
  refine wp_iaddv (nI (i + 1)) dL_law_1116 (nadd (a := i) (b := 1) (by omega)) ?_
  refine wp_sld (i + 1) dL_law_1117 rfl (by omega) (by omega) ?_
  refine wp_callV (As := [.int (gSx G (i + 1))]) (S := []) (b' := (0, 0)) (b := (0, 0)) dL_law_1118 ML_133 (ka0 hF) rfl rfl rfl rfl (Nat.le_of_ble_eq_true rfl) ?_
  exact e1

theorem bL_28b {G : Cx} {d : Nat} {m : Mm} {Q : Option Value → Mm → Prop} {i : Nat} {r : Int32} (hF : Full G m) (hi : i + 7 ≤ gSl G) (hl : gSl G < 4000) 
    (e1 : WPM G (d + 99) (0, 0) μX11_load [.ref (gB G + 293), .int (gSx G (i + 1))] m (fun r' m' => WP G (d + 100) (0, 0) μL_law 1130 [.ref (gSa G), .ref (gB G), .ref (gB G + 293), .int (nI i)] (r'.toList ++ [.int r]) m' Q)) :
    WP G (d + 100) (0, 0) μL_law 1121 [.ref (gSa G), .ref (gB G), .ref (gB G + 293), .int (nI i)] [.int r] m Q := by
  refine wp_aload_n dL_law_1121 rfl ?_
  refine wp_aload_n dL_law_1122 rfl ?_
  refine wp_iload_n dL_law_1123 rfl ?_
  refine wp_iconst (1 : Int32) dL_law_1124 (by decide) ?_
  refine wp_iaddv (nI (i + 1)) dL_law_1125 (nadd (a := i) (b := 1) (by omega)) ?_
  refine wp_sld (i + 1) dL_law_1126 rfl (by omega) (by omega) ?_
  refine wp_callV (As := [.int (gSx G (i + 1))]) (S := [.int r]) (b' := (0, 0)) (b := (0, 0)) dL_law_1127 ML_136 (ka hF 293 (by decide)) rfl rfl rfl rfl (Nat.le_of_ble_eq_true rfl) ?_
  exact e1

theorem bL_28c {G : Cx} {d : Nat} {m : Mm} {Q : Option Value → Mm → Prop} {i : Nat} {s0 : Int32} {r : Int32} (hF : Full G m) (hi : i + 7 ≤ gSl G) (hl : gSl G < 4000) 
    (e1 : s0 = r → WP G (d + 100) (0, 0) μL_law 18 [.ref (gSa G), .ref (gB G), .ref (gB G + 293), .int (nI (i + 7))] [] m Q)
    (e2 : ¬ s0 = r → Q (some (.int (0 : Int32))) m) :
    WP G (d + 100) (0, 0) μL_law 1130 [.ref (gSa G), .ref (gB G), .ref (gB G + 293), .int (nI i)] [.int r, .int s0] m Q := by
  refine wp_icmp_eq 1790 dL_law_1130 (by decide) (fun q1 => ?_) (fun q2 => ?_)
  · skip
    refine wp_iinc (nI (i + 7)) dL_law_1790 rfl (by decide) (nadd (a := i) (b := 7) (by omega)) rfl ?_
    refine wp_goto 18 dL_law_1793 (by decide) ?_
    refine wp_forget [.ref (gSa G), .ref (gB G), .ref (gB G + 293), .int (nI (i + 7))] ⟨Or.inl rfl, Or.inl rfl, Or.inl rfl, Or.inl rfl, trivial⟩ ?_
    exact e1 q1
  · skip
    refine wp_iconst (0 : Int32) dL_law_1133 (by decide) ?_
    exact wp_zret dL_law_1134 rfl rfl (e2 q2)

theorem bL_29a {G : Cx} {d : Nat} {m : Mm} {Q : Option Value → Mm → Prop} {i : Nat} (hF : Full G m) (hi : i + 7 ≤ gSl G) (hl : gSl G < 4000) 
    (e1 : WPM G (d + 99) (0, 0) μX10_absorbedHeat [.ref (gB G), .int (gSx G (i + 1))] m (fun r' m' => WP G (d + 100) (0, 0) μL_law 1144 [.ref (gSa G), .ref (gB G), .ref (gB G + 293), .int (nI i)] (r'.toList ++ []) m' Q)) :
    WP G (d + 100) (0, 0) μL_law 1135 [.ref (gSa G), .ref (gB G), .ref (gB G + 293), .int (nI i)] [] m Q := by
  refine wp_aload_n dL_law_1135 rfl ?_
  refine wp_aload_n dL_law_1136 rfl ?_
  refine wp_iload_n dL_law_1137 rfl ?_
  refine wp_iconst (1 : Int32) dL_law_1138 (by decide) ?_
  refine wp_iaddv (nI (i + 1)) dL_law_1139 (nadd (a := i) (b := 1) (by omega)) ?_
  refine wp_sld (i + 1) dL_law_1140 rfl (by omega) (by omega) ?_
  refine wp_callV (As := [.int (gSx G (i + 1))]) (S := []) (b' := (0, 0)) (b := (0, 0)) dL_law_1141 ML_137 (ka0 hF) rfl rfl rfl rfl (Nat.le_of_ble_eq_true rfl) ?_
  exact e1

theorem bL_29b {G : Cx} {d : Nat} {m : Mm} {Q : Option Value → Mm → Prop} {i : Nat} {r : Int64} (hF : Full G m) (hi : i + 7 ≤ gSl G) (hl : gSl G < 4000) 
    (e1 : WPM G (d + 99) (0, 0) μX11_absorbedHeat [.ref (gB G + 293), .int (gSx G (i + 1))] m (fun r' m' => WP G (d + 100) (0, 0) μL_law 1153 [.ref (gSa G), .ref (gB G), .ref (gB G + 293), .int (nI i)] (r'.toList ++ [.long r]) m' Q)) :
    WP G (d + 100) (0, 0) μL_law 1144 [.ref (gSa G), .ref (gB G), .ref (gB G + 293), .int (nI i)] [.long r] m Q := by
  refine wp_aload_n dL_law_1144 rfl ?_
  refine wp_aload_n dL_law_1145 rfl ?_
  refine wp_iload_n dL_law_1146 rfl ?_
  refine wp_iconst (1 : Int32) dL_law_1147 (by decide) ?_
  refine wp_iaddv (nI (i + 1)) dL_law_1148 (nadd (a := i) (b := 1) (by omega)) ?_
  refine wp_sld (i + 1) dL_law_1149 rfl (by omega) (by omega) ?_
  refine wp_callV (As := [.int (gSx G (i + 1))]) (S := [.long r]) (b' := (0, 0)) (b := (0, 0)) dL_law_1150 ML_141 (ka hF 293 (by decide)) rfl rfl rfl rfl (Nat.le_of_ble_eq_true rfl) ?_
  exact e1

theorem bL_29c {G : Cx} {d : Nat} {m : Mm} {Q : Option Value → Mm → Prop} {i : Nat} {s0 : Int64} {r : Int64} (hF : Full G m) (hi : i + 7 ≤ gSl G) (hl : gSl G < 4000) 
    (e1 : s0 = r → WP G (d + 100) (0, 0) μL_law 18 [.ref (gSa G), .ref (gB G), .ref (gB G + 293), .int (nI (i + 7))] [] m Q)
    (e2 : ¬ s0 = r → Q (some (.int (0 : Int32))) m) :
    WP G (d + 100) (0, 0) μL_law 1153 [.ref (gSa G), .ref (gB G), .ref (gB G + 293), .int (nI i)] [.long r, .long s0] m Q := by
  refine wp_lc_eq 1790 dL_law_1153 dL_law_1154 (by decide) (fun q1 => ?_) (fun q2 => ?_)
  · skip
    refine wp_iinc (nI (i + 7)) dL_law_1790 rfl (by decide) (nadd (a := i) (b := 7) (by omega)) rfl ?_
    refine wp_goto 18 dL_law_1793 (by decide) ?_
    refine wp_forget [.ref (gSa G), .ref (gB G), .ref (gB G + 293), .int (nI (i + 7))] ⟨Or.inl rfl, Or.inl rfl, Or.inl rfl, Or.inl rfl, trivial⟩ ?_
    exact e1 q1
  · skip
    refine wp_iconst (0 : Int32) dL_law_1157 (by decide) ?_
    exact wp_zret dL_law_1158 rfl rfl (e2 q2)

theorem bL_30a {G : Cx} {d : Nat} {m : Mm} {Q : Option Value → Mm → Prop} {i : Nat} (hF : Full G m) (hi : i + 7 ≤ gSl G) (hl : gSl G < 4000) 
    (e1 : WPM G (d + 99) (0, 0) μX10_emittedHeat [.ref (gB G), .int (gSx G (i + 1))] m (fun r' m' => WP G (d + 100) (0, 0) μL_law 1168 [.ref (gSa G), .ref (gB G), .ref (gB G + 293), .int (nI i)] (r'.toList ++ []) m' Q)) :
    WP G (d + 100) (0, 0) μL_law 1159 [.ref (gSa G), .ref (gB G), .ref (gB G + 293), .int (nI i)] [] m Q := by
  refine wp_aload_n dL_law_1159 rfl ?_
  refine wp_aload_n dL_law_1160 rfl ?_
  refine wp_iload_n dL_law_1161 rfl ?_
  refine wp_iconst (1 : Int32) dL_law_1162 (by decide) ?_
  refine wp_iaddv (nI (i + 1)) dL_law_1163 (nadd (a := i) (b := 1) (by omega)) ?_
  refine wp_sld (i + 1) dL_law_1164 rfl (by omega) (by omega) ?_
  refine wp_callV (As := [.int (gSx G (i + 1))]) (S := []) (b' := (0, 0)) (b := (0, 0)) dL_law_1165 ML_142 (ka0 hF) rfl rfl rfl rfl (Nat.le_of_ble_eq_true rfl) ?_
  exact e1

theorem bL_30b {G : Cx} {d : Nat} {m : Mm} {Q : Option Value → Mm → Prop} {i : Nat} {r : Int64} (hF : Full G m) (hi : i + 7 ≤ gSl G) (hl : gSl G < 4000) 
    (e1 : WPM G (d + 99) (0, 0) μX11_emittedHeat [.ref (gB G + 293), .int (gSx G (i + 1))] m (fun r' m' => WP G (d + 100) (0, 0) μL_law 1177 [.ref (gSa G), .ref (gB G), .ref (gB G + 293), .int (nI i)] (r'.toList ++ [.long r]) m' Q)) :
    WP G (d + 100) (0, 0) μL_law 1168 [.ref (gSa G), .ref (gB G), .ref (gB G + 293), .int (nI i)] [.long r] m Q := by
  refine wp_aload_n dL_law_1168 rfl ?_
  refine wp_aload_n dL_law_1169 rfl ?_
  refine wp_iload_n dL_law_1170 rfl ?_
  refine wp_iconst (1 : Int32) dL_law_1171 (by decide) ?_
  refine wp_iaddv (nI (i + 1)) dL_law_1172 (nadd (a := i) (b := 1) (by omega)) ?_
  refine wp_sld (i + 1) dL_law_1173 rfl (by omega) (by omega) ?_
  refine wp_callV (As := [.int (gSx G (i + 1))]) (S := [.long r]) (b' := (0, 0)) (b := (0, 0)) dL_law_1174 ML_145 (ka hF 293 (by decide)) rfl rfl rfl rfl (Nat.le_of_ble_eq_true rfl) ?_
  exact e1

theorem bL_30c {G : Cx} {d : Nat} {m : Mm} {Q : Option Value → Mm → Prop} {i : Nat} {s0 : Int64} {r : Int64} (hF : Full G m) (hi : i + 7 ≤ gSl G) (hl : gSl G < 4000) 
    (e1 : s0 = r → WP G (d + 100) (0, 0) μL_law 18 [.ref (gSa G), .ref (gB G), .ref (gB G + 293), .int (nI (i + 7))] [] m Q)
    (e2 : ¬ s0 = r → Q (some (.int (0 : Int32))) m) :
    WP G (d + 100) (0, 0) μL_law 1177 [.ref (gSa G), .ref (gB G), .ref (gB G + 293), .int (nI i)] [.long r, .long s0] m Q := by
  refine wp_lc_eq 1790 dL_law_1177 dL_law_1178 (by decide) (fun q1 => ?_) (fun q2 => ?_)
  · skip
    refine wp_iinc (nI (i + 7)) dL_law_1790 rfl (by decide) (nadd (a := i) (b := 7) (by omega)) rfl ?_
    refine wp_goto 18 dL_law_1793 (by decide) ?_
    refine wp_forget [.ref (gSa G), .ref (gB G), .ref (gB G + 293), .int (nI (i + 7))] ⟨Or.inl rfl, Or.inl rfl, Or.inl rfl, Or.inl rfl, trivial⟩ ?_
    exact e1 q1
  · skip
    refine wp_iconst (0 : Int32) dL_law_1181 (by decide) ?_
    exact wp_zret dL_law_1182 rfl rfl (e2 q2)

theorem bL_31a {G : Cx} {d : Nat} {m : Mm} {Q : Option Value → Mm → Prop} {i : Nat} (hF : Full G m) (hi : i + 7 ≤ gSl G) (hl : gSl G < 4000) 
    (e1 : WPM G (d + 99) (0, 0) μX10_conductedHeat [.ref (gB G), .int (gSx G (i + 1))] m (fun r' m' => WP G (d + 100) (0, 0) μL_law 1192 [.ref (gSa G), .ref (gB G), .ref (gB G + 293), .int (nI i)] (r'.toList ++ []) m' Q)) :
    WP G (d + 100) (0, 0) μL_law 1183 [.ref (gSa G), .ref (gB G), .ref (gB G + 293), .int (nI i)] [] m Q := by
  refine wp_aload_n dL_law_1183 rfl ?_
  refine wp_aload_n dL_law_1184 rfl ?_
  refine wp_iload_n dL_law_1185 rfl ?_
  refine wp_iconst (1 : Int32) dL_law_1186 (by decide) ?_
  refine wp_iaddv (nI (i + 1)) dL_law_1187 (nadd (a := i) (b := 1) (by omega)) ?_
  refine wp_sld (i + 1) dL_law_1188 rfl (by omega) (by omega) ?_
  refine wp_callV (As := [.int (gSx G (i + 1))]) (S := []) (b' := (0, 0)) (b := (0, 0)) dL_law_1189 ML_146 (ka0 hF) rfl rfl rfl rfl (Nat.le_of_ble_eq_true rfl) ?_
  exact e1

theorem bL_31b {G : Cx} {d : Nat} {m : Mm} {Q : Option Value → Mm → Prop} {i : Nat} {r : Int64} (hF : Full G m) (hi : i + 7 ≤ gSl G) (hl : gSl G < 4000) 
    (e1 : WPM G (d + 99) (0, 0) μX11_conductedHeat [.ref (gB G + 293), .int (gSx G (i + 1))] m (fun r' m' => WP G (d + 100) (0, 0) μL_law 1201 [.ref (gSa G), .ref (gB G), .ref (gB G + 293), .int (nI i)] (r'.toList ++ [.long r]) m' Q)) :
    WP G (d + 100) (0, 0) μL_law 1192 [.ref (gSa G), .ref (gB G), .ref (gB G + 293), .int (nI i)] [.long r] m Q := by
  refine wp_aload_n dL_law_1192 rfl ?_
  refine wp_aload_n dL_law_1193 rfl ?_
  refine wp_iload_n dL_law_1194 rfl ?_
  refine wp_iconst (1 : Int32) dL_law_1195 (by decide) ?_
  refine wp_iaddv (nI (i + 1)) dL_law_1196 (nadd (a := i) (b := 1) (by omega)) ?_
  refine wp_sld (i + 1) dL_law_1197 rfl (by omega) (by omega) ?_
  refine wp_callV (As := [.int (gSx G (i + 1))]) (S := [.long r]) (b' := (0, 0)) (b := (0, 0)) dL_law_1198 ML_149 (ka hF 293 (by decide)) rfl rfl rfl rfl (Nat.le_of_ble_eq_true rfl) ?_
  exact e1

theorem bL_31c {G : Cx} {d : Nat} {m : Mm} {Q : Option Value → Mm → Prop} {i : Nat} {s0 : Int64} {r : Int64} (hF : Full G m) (hi : i + 7 ≤ gSl G) (hl : gSl G < 4000) 
    (e1 : s0 = r → WP G (d + 100) (0, 0) μL_law 18 [.ref (gSa G), .ref (gB G), .ref (gB G + 293), .int (nI (i + 7))] [] m Q)
    (e2 : ¬ s0 = r → Q (some (.int (0 : Int32))) m) :
    WP G (d + 100) (0, 0) μL_law 1201 [.ref (gSa G), .ref (gB G), .ref (gB G + 293), .int (nI i)] [.long r, .long s0] m Q := by
  refine wp_lc_eq 1790 dL_law_1201 dL_law_1202 (by decide) (fun q1 => ?_) (fun q2 => ?_)
  · skip
    refine wp_iinc (nI (i + 7)) dL_law_1790 rfl (by decide) (nadd (a := i) (b := 7) (by omega)) rfl ?_
    refine wp_goto 18 dL_law_1793 (by decide) ?_
    refine wp_forget [.ref (gSa G), .ref (gB G), .ref (gB G + 293), .int (nI (i + 7))] ⟨Or.inl rfl, Or.inl rfl, Or.inl rfl, Or.inl rfl, trivial⟩ ?_
    exact e1 q1
  · skip
    refine wp_iconst (0 : Int32) dL_law_1205 (by decide) ?_
    exact wp_zret dL_law_1206 rfl rfl (e2 q2)

theorem bL_32a {G : Cx} {d : Nat} {m : Mm} {Q : Option Value → Mm → Prop} {i : Nat} (hF : Full G m) (hi : i + 7 ≤ gSl G) (hl : gSl G < 4000) 
    (e1 : WPM G (d + 99) (0, 0) μX10_netHeat [.ref (gB G), .int (gSx G (i + 1))] m (fun r' m' => WP G (d + 100) (0, 0) μL_law 1216 [.ref (gSa G), .ref (gB G), .ref (gB G + 293), .int (nI i)] (r'.toList ++ []) m' Q)) :
    WP G (d + 100) (0, 0) μL_law 1207 [.ref (gSa G), .ref (gB G), .ref (gB G + 293), .int (nI i)] [] m Q := by
  refine wp_aload_n dL_law_1207 rfl ?_
  refine wp_aload_n dL_law_1208 rfl ?_
  refine wp_iload_n dL_law_1209 rfl ?_
  refine wp_iconst (1 : Int32) dL_law_1210 (by decide) ?_
  refine wp_iaddv (nI (i + 1)) dL_law_1211 (nadd (a := i) (b := 1) (by omega)) ?_
  refine wp_sld (i + 1) dL_law_1212 rfl (by omega) (by omega) ?_
  refine wp_callV (As := [.int (gSx G (i + 1))]) (S := []) (b' := (0, 0)) (b := (0, 0)) dL_law_1213 ML_150 (ka0 hF) rfl rfl rfl rfl (Nat.le_of_ble_eq_true rfl) ?_
  exact e1

theorem bL_32b {G : Cx} {d : Nat} {m : Mm} {Q : Option Value → Mm → Prop} {i : Nat} {r : Int64} (hF : Full G m) (hi : i + 7 ≤ gSl G) (hl : gSl G < 4000) 
    (e1 : WPM G (d + 99) (0, 0) μX11_netHeat [.ref (gB G + 293), .int (gSx G (i + 1))] m (fun r' m' => WP G (d + 100) (0, 0) μL_law 1225 [.ref (gSa G), .ref (gB G), .ref (gB G + 293), .int (nI i)] (r'.toList ++ [.long r]) m' Q)) :
    WP G (d + 100) (0, 0) μL_law 1216 [.ref (gSa G), .ref (gB G), .ref (gB G + 293), .int (nI i)] [.long r] m Q := by
  refine wp_aload_n dL_law_1216 rfl ?_
  refine wp_aload_n dL_law_1217 rfl ?_
  refine wp_iload_n dL_law_1218 rfl ?_
  refine wp_iconst (1 : Int32) dL_law_1219 (by decide) ?_
  refine wp_iaddv (nI (i + 1)) dL_law_1220 (nadd (a := i) (b := 1) (by omega)) ?_
  refine wp_sld (i + 1) dL_law_1221 rfl (by omega) (by omega) ?_
  refine wp_callV (As := [.int (gSx G (i + 1))]) (S := [.long r]) (b' := (0, 0)) (b := (0, 0)) dL_law_1222 ML_153 (ka hF 293 (by decide)) rfl rfl rfl rfl (Nat.le_of_ble_eq_true rfl) ?_
  exact e1

theorem bL_32c {G : Cx} {d : Nat} {m : Mm} {Q : Option Value → Mm → Prop} {i : Nat} {s0 : Int64} {r : Int64} (hF : Full G m) (hi : i + 7 ≤ gSl G) (hl : gSl G < 4000) 
    (e1 : s0 = r → WP G (d + 100) (0, 0) μL_law 18 [.ref (gSa G), .ref (gB G), .ref (gB G + 293), .int (nI (i + 7))] [] m Q)
    (e2 : ¬ s0 = r → Q (some (.int (0 : Int32))) m) :
    WP G (d + 100) (0, 0) μL_law 1225 [.ref (gSa G), .ref (gB G), .ref (gB G + 293), .int (nI i)] [.long r, .long s0] m Q := by
  refine wp_lc_eq 1790 dL_law_1225 dL_law_1226 (by decide) (fun q1 => ?_) (fun q2 => ?_)
  · skip
    refine wp_iinc (nI (i + 7)) dL_law_1790 rfl (by decide) (nadd (a := i) (b := 7) (by omega)) rfl ?_
    refine wp_goto 18 dL_law_1793 (by decide) ?_
    refine wp_forget [.ref (gSa G), .ref (gB G), .ref (gB G + 293), .int (nI (i + 7))] ⟨Or.inl rfl, Or.inl rfl, Or.inl rfl, Or.inl rfl, trivial⟩ ?_
    exact e1 q1
  · skip
    refine wp_iconst (0 : Int32) dL_law_1229 (by decide) ?_
    exact wp_zret dL_law_1230 rfl rfl (e2 q2)

theorem bL_33a {G : Cx} {d : Nat} {m : Mm} {Q : Option Value → Mm → Prop} {i : Nat} (hF : Full G m) (hi : i + 7 ≤ gSl G) (hl : gSl G < 4000) 
    (e1 : WPM G (d + 99) (0, 0) μX10_margin [.ref (gB G), .int (gSx G (i + 1))] m (fun r' m' => WP G (d + 100) (0, 0) μL_law 1240 [.ref (gSa G), .ref (gB G), .ref (gB G + 293), .int (nI i)] (r'.toList ++ []) m' Q)) :
    WP G (d + 100) (0, 0) μL_law 1231 [.ref (gSa G), .ref (gB G), .ref (gB G + 293), .int (nI i)] [] m Q := by
  refine wp_aload_n dL_law_1231 rfl ?_
  refine wp_aload_n dL_law_1232 rfl ?_
  refine wp_iload_n dL_law_1233 rfl ?_
  refine wp_iconst (1 : Int32) dL_law_1234 (by decide) ?_
  refine wp_iaddv (nI (i + 1)) dL_law_1235 (nadd (a := i) (b := 1) (by omega)) ?_
  refine wp_sld (i + 1) dL_law_1236 rfl (by omega) (by omega) ?_
  refine wp_callV (As := [.int (gSx G (i + 1))]) (S := []) (b' := (0, 0)) (b := (0, 0)) dL_law_1237 ML_154 (ka0 hF) rfl rfl rfl rfl (Nat.le_of_ble_eq_true rfl) ?_
  exact e1

theorem bL_33b {G : Cx} {d : Nat} {m : Mm} {Q : Option Value → Mm → Prop} {i : Nat} {r : Int32} (hF : Full G m) (hi : i + 7 ≤ gSl G) (hl : gSl G < 4000) 
    (e1 : WPM G (d + 99) (0, 0) μX11_margin [.ref (gB G + 293), .int (gSx G (i + 1))] m (fun r' m' => WP G (d + 100) (0, 0) μL_law 1249 [.ref (gSa G), .ref (gB G), .ref (gB G + 293), .int (nI i)] (r'.toList ++ [.int r]) m' Q)) :
    WP G (d + 100) (0, 0) μL_law 1240 [.ref (gSa G), .ref (gB G), .ref (gB G + 293), .int (nI i)] [.int r] m Q := by
  refine wp_aload_n dL_law_1240 rfl ?_
  refine wp_aload_n dL_law_1241 rfl ?_
  refine wp_iload_n dL_law_1242 rfl ?_
  refine wp_iconst (1 : Int32) dL_law_1243 (by decide) ?_
  refine wp_iaddv (nI (i + 1)) dL_law_1244 (nadd (a := i) (b := 1) (by omega)) ?_
  refine wp_sld (i + 1) dL_law_1245 rfl (by omega) (by omega) ?_
  refine wp_callV (As := [.int (gSx G (i + 1))]) (S := [.int r]) (b' := (0, 0)) (b := (0, 0)) dL_law_1246 ML_157 (ka hF 293 (by decide)) rfl rfl rfl rfl (Nat.le_of_ble_eq_true rfl) ?_
  exact e1

theorem bL_33c {G : Cx} {d : Nat} {m : Mm} {Q : Option Value → Mm → Prop} {i : Nat} {s0 : Int32} {r : Int32} (hF : Full G m) (hi : i + 7 ≤ gSl G) (hl : gSl G < 4000) 
    (e1 : s0 = r → WP G (d + 100) (0, 0) μL_law 18 [.ref (gSa G), .ref (gB G), .ref (gB G + 293), .int (nI (i + 7))] [] m Q)
    (e2 : ¬ s0 = r → Q (some (.int (0 : Int32))) m) :
    WP G (d + 100) (0, 0) μL_law 1249 [.ref (gSa G), .ref (gB G), .ref (gB G + 293), .int (nI i)] [.int r, .int s0] m Q := by
  refine wp_icmp_eq 1790 dL_law_1249 (by decide) (fun q1 => ?_) (fun q2 => ?_)
  · skip
    refine wp_iinc (nI (i + 7)) dL_law_1790 rfl (by decide) (nadd (a := i) (b := 7) (by omega)) rfl ?_
    refine wp_goto 18 dL_law_1793 (by decide) ?_
    refine wp_forget [.ref (gSa G), .ref (gB G), .ref (gB G + 293), .int (nI (i + 7))] ⟨Or.inl rfl, Or.inl rfl, Or.inl rfl, Or.inl rfl, trivial⟩ ?_
    exact e1 q1
  · skip
    refine wp_iconst (0 : Int32) dL_law_1252 (by decide) ?_
    exact wp_zret dL_law_1253 rfl rfl (e2 q2)

theorem bL_34a {G : Cx} {d : Nat} {m : Mm} {Q : Option Value → Mm → Prop} {i : Nat} (hF : Full G m) (hi : i + 7 ≤ gSl G) (hl : gSl G < 4000) 
    (e1 : WPM G (d + 99) (0, 0) μX10_resetRecords [.ref (gB G)] m (fun r' m' => WP G (d + 100) (0, 0) μL_law 1258 [.ref (gSa G), .ref (gB G), .ref (gB G + 293), .int (nI i)] (r'.toList ++ []) m' Q)) :
    WP G (d + 100) (0, 0) μL_law 1254 [.ref (gSa G), .ref (gB G), .ref (gB G + 293), .int (nI i)] [] m Q := by
  refine wp_aload_n dL_law_1254 rfl ?_
  refine wp_callV (As := []) (S := []) (b' := (0, 0)) (b := (0, 0)) dL_law_1255 ML_158 (ka0 hF) rfl rfl rfl rfl (Nat.le_of_ble_eq_true rfl) ?_
  exact e1

theorem bL_34b {G : Cx} {d : Nat} {m : Mm} {Q : Option Value → Mm → Prop} {i : Nat} {r : Int32} (hF : Full G m) (hi : i + 7 ≤ gSl G) (hl : gSl G < 4000) 
    (e1 : WPM G (d + 99) (0, 0) μX11_resetRecords [.ref (gB G + 293)] m (fun r' m' => WP G (d + 100) (0, 0) μL_law 1262 [.ref (gSa G), .ref (gB G), .ref (gB G + 293), .int (nI i)] (r'.toList ++ [.int r]) m' Q)) :
    WP G (d + 100) (0, 0) μL_law 1258 [.ref (gSa G), .ref (gB G), .ref (gB G + 293), .int (nI i)] [.int r] m Q := by
  refine wp_aload_n dL_law_1258 rfl ?_
  refine wp_callV (As := []) (S := [.int r]) (b' := (0, 0)) (b := (0, 0)) dL_law_1259 ML_161 (ka hF 293 (by decide)) rfl rfl rfl rfl (Nat.le_of_ble_eq_true rfl) ?_
  exact e1

theorem bL_34c {G : Cx} {d : Nat} {m : Mm} {Q : Option Value → Mm → Prop} {i : Nat} {s0 : Int32} {r : Int32} (hF : Full G m) (hi : i + 7 ≤ gSl G) (hl : gSl G < 4000) 
    (e1 : s0 = r → WP G (d + 100) (0, 0) μL_law 18 [.ref (gSa G), .ref (gB G), .ref (gB G + 293), .int (nI (i + 7))] [] m Q)
    (e2 : ¬ s0 = r → Q (some (.int (0 : Int32))) m) :
    WP G (d + 100) (0, 0) μL_law 1262 [.ref (gSa G), .ref (gB G), .ref (gB G + 293), .int (nI i)] [.int r, .int s0] m Q := by
  refine wp_icmp_eq 1790 dL_law_1262 (by decide) (fun q1 => ?_) (fun q2 => ?_)
  · skip
    refine wp_iinc (nI (i + 7)) dL_law_1790 rfl (by decide) (nadd (a := i) (b := 7) (by omega)) rfl ?_
    refine wp_goto 18 dL_law_1793 (by decide) ?_
    refine wp_forget [.ref (gSa G), .ref (gB G), .ref (gB G + 293), .int (nI (i + 7))] ⟨Or.inl rfl, Or.inl rfl, Or.inl rfl, Or.inl rfl, trivial⟩ ?_
    exact e1 q1
  · skip
    refine wp_iconst (0 : Int32) dL_law_1265 (by decide) ?_
    exact wp_zret dL_law_1266 rfl rfl (e2 q2)

theorem bL_35a {G : Cx} {d : Nat} {m : Mm} {Q : Option Value → Mm → Prop} {i : Nat} (hF : Full G m) (hi : i + 7 ≤ gSl G) (hl : gSl G < 4000) 
    (e1 : WPM G (d + 99) (0, 0) μX10_lowest [.ref (gB G), .int (gSx G (i + 1))] m (fun r' m' => WP G (d + 100) (0, 0) μL_law 1276 [.ref (gSa G), .ref (gB G), .ref (gB G + 293), .int (nI i)] (r'.toList ++ []) m' Q)) :
    WP G (d + 100) (0, 0) μL_law 1267 [.ref (gSa G), .ref (gB G), .ref (gB G + 293), .int (nI i)] [] m Q := by
  refine wp_aload_n dL_law_1267 rfl ?_
  refine wp_aload_n dL_law_1268 rfl ?_
  refine wp_iload_n dL_law_1269 rfl ?_
  refine wp_iconst (1 : Int32) dL_law_1270 (by decide) ?_
  refine wp_iaddv (nI (i + 1)) dL_law_1271 (nadd (a := i) (b := 1) (by omega)) ?_
  refine wp_sld (i + 1) dL_law_1272 rfl (by omega) (by omega) ?_
  refine wp_callV (As := [.int (gSx G (i + 1))]) (S := []) (b' := (0, 0)) (b := (0, 0)) dL_law_1273 ML_162 (ka0 hF) rfl rfl rfl rfl (Nat.le_of_ble_eq_true rfl) ?_
  exact e1

theorem bL_35b {G : Cx} {d : Nat} {m : Mm} {Q : Option Value → Mm → Prop} {i : Nat} {r : Int32} (hF : Full G m) (hi : i + 7 ≤ gSl G) (hl : gSl G < 4000) 
    (e1 : WPM G (d + 99) (0, 0) μX11_lowest [.ref (gB G + 293), .int (gSx G (i + 1))] m (fun r' m' => WP G (d + 100) (0, 0) μL_law 1285 [.ref (gSa G), .ref (gB G), .ref (gB G + 293), .int (nI i)] (r'.toList ++ [.int r]) m' Q)) :
    WP G (d + 100) (0, 0) μL_law 1276 [.ref (gSa G), .ref (gB G), .ref (gB G + 293), .int (nI i)] [.int r] m Q := by
  refine wp_aload_n dL_law_1276 rfl ?_
  refine wp_aload_n dL_law_1277 rfl ?_
  refine wp_iload_n dL_law_1278 rfl ?_
  refine wp_iconst (1 : Int32) dL_law_1279 (by decide) ?_
  refine wp_iaddv (nI (i + 1)) dL_law_1280 (nadd (a := i) (b := 1) (by omega)) ?_
  refine wp_sld (i + 1) dL_law_1281 rfl (by omega) (by omega) ?_
  refine wp_callV (As := [.int (gSx G (i + 1))]) (S := [.int r]) (b' := (0, 0)) (b := (0, 0)) dL_law_1282 ML_165 (ka hF 293 (by decide)) rfl rfl rfl rfl (Nat.le_of_ble_eq_true rfl) ?_
  exact e1

theorem bL_35c {G : Cx} {d : Nat} {m : Mm} {Q : Option Value → Mm → Prop} {i : Nat} {s0 : Int32} {r : Int32} (hF : Full G m) (hi : i + 7 ≤ gSl G) (hl : gSl G < 4000) 
    (e1 : s0 = r → WP G (d + 100) (0, 0) μL_law 18 [.ref (gSa G), .ref (gB G), .ref (gB G + 293), .int (nI (i + 7))] [] m Q)
    (e2 : ¬ s0 = r → Q (some (.int (0 : Int32))) m) :
    WP G (d + 100) (0, 0) μL_law 1285 [.ref (gSa G), .ref (gB G), .ref (gB G + 293), .int (nI i)] [.int r, .int s0] m Q := by
  refine wp_icmp_eq 1790 dL_law_1285 (by decide) (fun q1 => ?_) (fun q2 => ?_)
  · skip
    refine wp_iinc (nI (i + 7)) dL_law_1790 rfl (by decide) (nadd (a := i) (b := 7) (by omega)) rfl ?_
    refine wp_goto 18 dL_law_1793 (by decide) ?_
    refine wp_forget [.ref (gSa G), .ref (gB G), .ref (gB G + 293), .int (nI (i + 7))] ⟨Or.inl rfl, Or.inl rfl, Or.inl rfl, Or.inl rfl, trivial⟩ ?_
    exact e1 q1
  · skip
    refine wp_iconst (0 : Int32) dL_law_1288 (by decide) ?_
    exact wp_zret dL_law_1289 rfl rfl (e2 q2)

theorem bL_36a {G : Cx} {d : Nat} {m : Mm} {Q : Option Value → Mm → Prop} {i : Nat} (hF : Full G m) (hi : i + 7 ≤ gSl G) (hl : gSl G < 4000) 
    (e1 : WPM G (d + 99) (0, 0) μX10_highest [.ref (gB G), .int (gSx G (i + 1))] m (fun r' m' => WP G (d + 100) (0, 0) μL_law 1299 [.ref (gSa G), .ref (gB G), .ref (gB G + 293), .int (nI i)] (r'.toList ++ []) m' Q)) :
    WP G (d + 100) (0, 0) μL_law 1290 [.ref (gSa G), .ref (gB G), .ref (gB G + 293), .int (nI i)] [] m Q := by
  refine wp_aload_n dL_law_1290 rfl ?_
  refine wp_aload_n dL_law_1291 rfl ?_
  refine wp_iload_n dL_law_1292 rfl ?_
  refine wp_iconst (1 : Int32) dL_law_1293 (by decide) ?_
  refine wp_iaddv (nI (i + 1)) dL_law_1294 (nadd (a := i) (b := 1) (by omega)) ?_
  refine wp_sld (i + 1) dL_law_1295 rfl (by omega) (by omega) ?_
  refine wp_callV (As := [.int (gSx G (i + 1))]) (S := []) (b' := (0, 0)) (b := (0, 0)) dL_law_1296 ML_166 (ka0 hF) rfl rfl rfl rfl (Nat.le_of_ble_eq_true rfl) ?_
  exact e1

theorem bL_36b {G : Cx} {d : Nat} {m : Mm} {Q : Option Value → Mm → Prop} {i : Nat} {r : Int32} (hF : Full G m) (hi : i + 7 ≤ gSl G) (hl : gSl G < 4000) 
    (e1 : WPM G (d + 99) (0, 0) μX11_highest [.ref (gB G + 293), .int (gSx G (i + 1))] m (fun r' m' => WP G (d + 100) (0, 0) μL_law 1308 [.ref (gSa G), .ref (gB G), .ref (gB G + 293), .int (nI i)] (r'.toList ++ [.int r]) m' Q)) :
    WP G (d + 100) (0, 0) μL_law 1299 [.ref (gSa G), .ref (gB G), .ref (gB G + 293), .int (nI i)] [.int r] m Q := by
  refine wp_aload_n dL_law_1299 rfl ?_
  refine wp_aload_n dL_law_1300 rfl ?_
  refine wp_iload_n dL_law_1301 rfl ?_
  refine wp_iconst (1 : Int32) dL_law_1302 (by decide) ?_
  refine wp_iaddv (nI (i + 1)) dL_law_1303 (nadd (a := i) (b := 1) (by omega)) ?_
  refine wp_sld (i + 1) dL_law_1304 rfl (by omega) (by omega) ?_
  refine wp_callV (As := [.int (gSx G (i + 1))]) (S := [.int r]) (b' := (0, 0)) (b := (0, 0)) dL_law_1305 ML_169 (ka hF 293 (by decide)) rfl rfl rfl rfl (Nat.le_of_ble_eq_true rfl) ?_
  exact e1

theorem bL_36c {G : Cx} {d : Nat} {m : Mm} {Q : Option Value → Mm → Prop} {i : Nat} {s0 : Int32} {r : Int32} (hF : Full G m) (hi : i + 7 ≤ gSl G) (hl : gSl G < 4000) 
    (e1 : s0 = r → WP G (d + 100) (0, 0) μL_law 18 [.ref (gSa G), .ref (gB G), .ref (gB G + 293), .int (nI (i + 7))] [] m Q)
    (e2 : ¬ s0 = r → Q (some (.int (0 : Int32))) m) :
    WP G (d + 100) (0, 0) μL_law 1308 [.ref (gSa G), .ref (gB G), .ref (gB G + 293), .int (nI i)] [.int r, .int s0] m Q := by
  refine wp_icmp_eq 1790 dL_law_1308 (by decide) (fun q1 => ?_) (fun q2 => ?_)
  · skip
    refine wp_iinc (nI (i + 7)) dL_law_1790 rfl (by decide) (nadd (a := i) (b := 7) (by omega)) rfl ?_
    refine wp_goto 18 dL_law_1793 (by decide) ?_
    refine wp_forget [.ref (gSa G), .ref (gB G), .ref (gB G + 293), .int (nI (i + 7))] ⟨Or.inl rfl, Or.inl rfl, Or.inl rfl, Or.inl rfl, trivial⟩ ?_
    exact e1 q1
  · skip
    refine wp_iconst (0 : Int32) dL_law_1311 (by decide) ?_
    exact wp_zret dL_law_1312 rfl rfl (e2 q2)

theorem bL_37a {G : Cx} {d : Nat} {m : Mm} {Q : Option Value → Mm → Prop} {i : Nat} (hF : Full G m) (hi : i + 7 ≤ gSl G) (hl : gSl G < 4000) 
    (e1 : WPM G (d + 99) (0, 0) μX10_violations [.ref (gB G), .int (gSx G (i + 1))] m (fun r' m' => WP G (d + 100) (0, 0) μL_law 1322 [.ref (gSa G), .ref (gB G), .ref (gB G + 293), .int (nI i)] (r'.toList ++ []) m' Q)) :
    WP G (d + 100) (0, 0) μL_law 1313 [.ref (gSa G), .ref (gB G), .ref (gB G + 293), .int (nI i)] [] m Q := by
  refine wp_aload_n dL_law_1313 rfl ?_
  refine wp_aload_n dL_law_1314 rfl ?_
  refine wp_iload_n dL_law_1315 rfl ?_
  refine wp_iconst (1 : Int32) dL_law_1316 (by decide) ?_
  refine wp_iaddv (nI (i + 1)) dL_law_1317 (nadd (a := i) (b := 1) (by omega)) ?_
  refine wp_sld (i + 1) dL_law_1318 rfl (by omega) (by omega) ?_
  refine wp_callV (As := [.int (gSx G (i + 1))]) (S := []) (b' := (0, 0)) (b := (0, 0)) dL_law_1319 ML_170 (ka0 hF) rfl rfl rfl rfl (Nat.le_of_ble_eq_true rfl) ?_
  exact e1

theorem bL_37b {G : Cx} {d : Nat} {m : Mm} {Q : Option Value → Mm → Prop} {i : Nat} {r : Int32} (hF : Full G m) (hi : i + 7 ≤ gSl G) (hl : gSl G < 4000) 
    (e1 : WPM G (d + 99) (0, 0) μX11_violations [.ref (gB G + 293), .int (gSx G (i + 1))] m (fun r' m' => WP G (d + 100) (0, 0) μL_law 1331 [.ref (gSa G), .ref (gB G), .ref (gB G + 293), .int (nI i)] (r'.toList ++ [.int r]) m' Q)) :
    WP G (d + 100) (0, 0) μL_law 1322 [.ref (gSa G), .ref (gB G), .ref (gB G + 293), .int (nI i)] [.int r] m Q := by
  refine wp_aload_n dL_law_1322 rfl ?_
  refine wp_aload_n dL_law_1323 rfl ?_
  refine wp_iload_n dL_law_1324 rfl ?_
  refine wp_iconst (1 : Int32) dL_law_1325 (by decide) ?_
  refine wp_iaddv (nI (i + 1)) dL_law_1326 (nadd (a := i) (b := 1) (by omega)) ?_
  refine wp_sld (i + 1) dL_law_1327 rfl (by omega) (by omega) ?_
  refine wp_callV (As := [.int (gSx G (i + 1))]) (S := [.int r]) (b' := (0, 0)) (b := (0, 0)) dL_law_1328 ML_173 (ka hF 293 (by decide)) rfl rfl rfl rfl (Nat.le_of_ble_eq_true rfl) ?_
  exact e1

theorem bL_37c {G : Cx} {d : Nat} {m : Mm} {Q : Option Value → Mm → Prop} {i : Nat} {s0 : Int32} {r : Int32} (hF : Full G m) (hi : i + 7 ≤ gSl G) (hl : gSl G < 4000) 
    (e1 : s0 = r → WP G (d + 100) (0, 0) μL_law 18 [.ref (gSa G), .ref (gB G), .ref (gB G + 293), .int (nI (i + 7))] [] m Q)
    (e2 : ¬ s0 = r → Q (some (.int (0 : Int32))) m) :
    WP G (d + 100) (0, 0) μL_law 1331 [.ref (gSa G), .ref (gB G), .ref (gB G + 293), .int (nI i)] [.int r, .int s0] m Q := by
  refine wp_icmp_eq 1790 dL_law_1331 (by decide) (fun q1 => ?_) (fun q2 => ?_)
  · skip
    refine wp_iinc (nI (i + 7)) dL_law_1790 rfl (by decide) (nadd (a := i) (b := 7) (by omega)) rfl ?_
    refine wp_goto 18 dL_law_1793 (by decide) ?_
    refine wp_forget [.ref (gSa G), .ref (gB G), .ref (gB G + 293), .int (nI (i + 7))] ⟨Or.inl rfl, Or.inl rfl, Or.inl rfl, Or.inl rfl, trivial⟩ ?_
    exact e1 q1
  · skip
    refine wp_iconst (0 : Int32) dL_law_1334 (by decide) ?_
    exact wp_zret dL_law_1335 rfl rfl (e2 q2)

theorem bL_38a {G : Cx} {d : Nat} {m : Mm} {Q : Option Value → Mm → Prop} {i : Nat} (hF : Full G m) (hi : i + 7 ≤ gSl G) (hl : gSl G < 4000) 
    (e1 : WPM G (d + 99) (0, 0) μX10_firstViolation [.ref (gB G), .int (gSx G (i + 1))] m (fun r' m' => WP G (d + 100) (0, 0) μL_law 1345 [.ref (gSa G), .ref (gB G), .ref (gB G + 293), .int (nI i)] (r'.toList ++ []) m' Q)) :
    WP G (d + 100) (0, 0) μL_law 1336 [.ref (gSa G), .ref (gB G), .ref (gB G + 293), .int (nI i)] [] m Q := by
  refine wp_aload_n dL_law_1336 rfl ?_
  refine wp_aload_n dL_law_1337 rfl ?_
  refine wp_iload_n dL_law_1338 rfl ?_
  refine wp_iconst (1 : Int32) dL_law_1339 (by decide) ?_
  refine wp_iaddv (nI (i + 1)) dL_law_1340 (nadd (a := i) (b := 1) (by omega)) ?_
  refine wp_sld (i + 1) dL_law_1341 rfl (by omega) (by omega) ?_
  refine wp_callV (As := [.int (gSx G (i + 1))]) (S := []) (b' := (0, 0)) (b := (0, 0)) dL_law_1342 ML_174 (ka0 hF) rfl rfl rfl rfl (Nat.le_of_ble_eq_true rfl) ?_
  exact e1

theorem bL_38b {G : Cx} {d : Nat} {m : Mm} {Q : Option Value → Mm → Prop} {i : Nat} {r : Int32} (hF : Full G m) (hi : i + 7 ≤ gSl G) (hl : gSl G < 4000) 
    (e1 : WPM G (d + 99) (0, 0) μX11_firstViolation [.ref (gB G + 293), .int (gSx G (i + 1))] m (fun r' m' => WP G (d + 100) (0, 0) μL_law 1354 [.ref (gSa G), .ref (gB G), .ref (gB G + 293), .int (nI i)] (r'.toList ++ [.int r]) m' Q)) :
    WP G (d + 100) (0, 0) μL_law 1345 [.ref (gSa G), .ref (gB G), .ref (gB G + 293), .int (nI i)] [.int r] m Q := by
  refine wp_aload_n dL_law_1345 rfl ?_
  refine wp_aload_n dL_law_1346 rfl ?_
  refine wp_iload_n dL_law_1347 rfl ?_
  refine wp_iconst (1 : Int32) dL_law_1348 (by decide) ?_
  refine wp_iaddv (nI (i + 1)) dL_law_1349 (nadd (a := i) (b := 1) (by omega)) ?_
  refine wp_sld (i + 1) dL_law_1350 rfl (by omega) (by omega) ?_
  refine wp_callV (As := [.int (gSx G (i + 1))]) (S := [.int r]) (b' := (0, 0)) (b := (0, 0)) dL_law_1351 ML_177 (ka hF 293 (by decide)) rfl rfl rfl rfl (Nat.le_of_ble_eq_true rfl) ?_
  exact e1

theorem bL_38c {G : Cx} {d : Nat} {m : Mm} {Q : Option Value → Mm → Prop} {i : Nat} {s0 : Int32} {r : Int32} (hF : Full G m) (hi : i + 7 ≤ gSl G) (hl : gSl G < 4000) 
    (e1 : s0 = r → WP G (d + 100) (0, 0) μL_law 18 [.ref (gSa G), .ref (gB G), .ref (gB G + 293), .int (nI (i + 7))] [] m Q)
    (e2 : ¬ s0 = r → Q (some (.int (0 : Int32))) m) :
    WP G (d + 100) (0, 0) μL_law 1354 [.ref (gSa G), .ref (gB G), .ref (gB G + 293), .int (nI i)] [.int r, .int s0] m Q := by
  refine wp_icmp_eq 1790 dL_law_1354 (by decide) (fun q1 => ?_) (fun q2 => ?_)
  · skip
    refine wp_iinc (nI (i + 7)) dL_law_1790 rfl (by decide) (nadd (a := i) (b := 7) (by omega)) rfl ?_
    refine wp_goto 18 dL_law_1793 (by decide) ?_
    refine wp_forget [.ref (gSa G), .ref (gB G), .ref (gB G + 293), .int (nI (i + 7))] ⟨Or.inl rfl, Or.inl rfl, Or.inl rfl, Or.inl rfl, trivial⟩ ?_
    exact e1 q1
  · skip
    refine wp_iconst (0 : Int32) dL_law_1357 (by decide) ?_
    exact wp_zret dL_law_1358 rfl rfl (e2 q2)

theorem bL_39a {G : Cx} {d : Nat} {m : Mm} {Q : Option Value → Mm → Prop} {i : Nat} (hF : Full G m) (hi : i + 7 ≤ gSl G) (hl : gSl G < 4000) 
    (e1 : WPM G (d + 99) (0, 0) μX10_violatorCount [.ref (gB G)] m (fun r' m' => WP G (d + 100) (0, 0) μL_law 1363 [.ref (gSa G), .ref (gB G), .ref (gB G + 293), .int (nI i)] (r'.toList ++ []) m' Q)) :
    WP G (d + 100) (0, 0) μL_law 1359 [.ref (gSa G), .ref (gB G), .ref (gB G + 293), .int (nI i)] [] m Q := by
  refine wp_aload_n dL_law_1359 rfl ?_
  refine wp_callV (As := []) (S := []) (b' := (0, 0)) (b := (0, 0)) dL_law_1360 ML_178 (ka0 hF) rfl rfl rfl rfl (Nat.le_of_ble_eq_true rfl) ?_
  exact e1

theorem bL_39b {G : Cx} {d : Nat} {m : Mm} {Q : Option Value → Mm → Prop} {i : Nat} {r : Int32} (hF : Full G m) (hi : i + 7 ≤ gSl G) (hl : gSl G < 4000) 
    (e1 : WPM G (d + 99) (0, 0) μX11_violatorCount [.ref (gB G + 293)] m (fun r' m' => WP G (d + 100) (0, 0) μL_law 1367 [.ref (gSa G), .ref (gB G), .ref (gB G + 293), .int (nI i)] (r'.toList ++ [.int r]) m' Q)) :
    WP G (d + 100) (0, 0) μL_law 1363 [.ref (gSa G), .ref (gB G), .ref (gB G + 293), .int (nI i)] [.int r] m Q := by
  refine wp_aload_n dL_law_1363 rfl ?_
  refine wp_callV (As := []) (S := [.int r]) (b' := (0, 0)) (b := (0, 0)) dL_law_1364 ML_181 (ka hF 293 (by decide)) rfl rfl rfl rfl (Nat.le_of_ble_eq_true rfl) ?_
  exact e1

theorem bL_39c {G : Cx} {d : Nat} {m : Mm} {Q : Option Value → Mm → Prop} {i : Nat} {s0 : Int32} {r : Int32} (hF : Full G m) (hi : i + 7 ≤ gSl G) (hl : gSl G < 4000) 
    (e1 : s0 = r → WP G (d + 100) (0, 0) μL_law 18 [.ref (gSa G), .ref (gB G), .ref (gB G + 293), .int (nI (i + 7))] [] m Q)
    (e2 : ¬ s0 = r → Q (some (.int (0 : Int32))) m) :
    WP G (d + 100) (0, 0) μL_law 1367 [.ref (gSa G), .ref (gB G), .ref (gB G + 293), .int (nI i)] [.int r, .int s0] m Q := by
  refine wp_icmp_eq 1790 dL_law_1367 (by decide) (fun q1 => ?_) (fun q2 => ?_)
  · skip
    refine wp_iinc (nI (i + 7)) dL_law_1790 rfl (by decide) (nadd (a := i) (b := 7) (by omega)) rfl ?_
    refine wp_goto 18 dL_law_1793 (by decide) ?_
    refine wp_forget [.ref (gSa G), .ref (gB G), .ref (gB G + 293), .int (nI (i + 7))] ⟨Or.inl rfl, Or.inl rfl, Or.inl rfl, Or.inl rfl, trivial⟩ ?_
    exact e1 q1
  · skip
    refine wp_iconst (0 : Int32) dL_law_1370 (by decide) ?_
    exact wp_zret dL_law_1371 rfl rfl (e2 q2)

theorem bL_40a {G : Cx} {d : Nat} {m : Mm} {Q : Option Value → Mm → Prop} {i : Nat} (hF : Full G m) (hi : i + 7 ≤ gSl G) (hl : gSl G < 4000) 
    (e1 : WPM G (d + 99) (0, 0) μX10_violator [.ref (gB G), .int (gSx G (i + 1))] m (fun r' m' => WP G (d + 100) (0, 0) μL_law 1381 [.ref (gSa G), .ref (gB G), .ref (gB G + 293), .int (nI i)] (r'.toList ++ []) m' Q)) :
    WP G (d + 100) (0, 0) μL_law 1372 [.ref (gSa G), .ref (gB G), .ref (gB G + 293), .int (nI i)] [] m Q := by
  refine wp_aload_n dL_law_1372 rfl ?_
  refine wp_aload_n dL_law_1373 rfl ?_
  refine wp_iload_n dL_law_1374 rfl ?_
  refine wp_iconst (1 : Int32) dL_law_1375 (by decide) ?_
  refine wp_iaddv (nI (i + 1)) dL_law_1376 (nadd (a := i) (b := 1) (by omega)) ?_
  refine wp_sld (i + 1) dL_law_1377 rfl (by omega) (by omega) ?_
  refine wp_callV (As := [.int (gSx G (i + 1))]) (S := []) (b' := (0, 0)) (b := (0, 0)) dL_law_1378 ML_182 (ka0 hF) rfl rfl rfl rfl (Nat.le_of_ble_eq_true rfl) ?_
  exact e1

theorem bL_40b {G : Cx} {d : Nat} {m : Mm} {Q : Option Value → Mm → Prop} {i : Nat} {r : Int32} (hF : Full G m) (hi : i + 7 ≤ gSl G) (hl : gSl G < 4000) 
    (e1 : WPM G (d + 99) (0, 0) μX11_violator [.ref (gB G + 293), .int (gSx G (i + 1))] m (fun r' m' => WP G (d + 100) (0, 0) μL_law 1390 [.ref (gSa G), .ref (gB G), .ref (gB G + 293), .int (nI i)] (r'.toList ++ [.int r]) m' Q)) :
    WP G (d + 100) (0, 0) μL_law 1381 [.ref (gSa G), .ref (gB G), .ref (gB G + 293), .int (nI i)] [.int r] m Q := by
  refine wp_aload_n dL_law_1381 rfl ?_
  refine wp_aload_n dL_law_1382 rfl ?_
  refine wp_iload_n dL_law_1383 rfl ?_
  refine wp_iconst (1 : Int32) dL_law_1384 (by decide) ?_
  refine wp_iaddv (nI (i + 1)) dL_law_1385 (nadd (a := i) (b := 1) (by omega)) ?_
  refine wp_sld (i + 1) dL_law_1386 rfl (by omega) (by omega) ?_
  refine wp_callV (As := [.int (gSx G (i + 1))]) (S := [.int r]) (b' := (0, 0)) (b := (0, 0)) dL_law_1387 ML_185 (ka hF 293 (by decide)) rfl rfl rfl rfl (Nat.le_of_ble_eq_true rfl) ?_
  exact e1

theorem bL_40c {G : Cx} {d : Nat} {m : Mm} {Q : Option Value → Mm → Prop} {i : Nat} {s0 : Int32} {r : Int32} (hF : Full G m) (hi : i + 7 ≤ gSl G) (hl : gSl G < 4000) 
    (e1 : s0 = r → WP G (d + 100) (0, 0) μL_law 18 [.ref (gSa G), .ref (gB G), .ref (gB G + 293), .int (nI (i + 7))] [] m Q)
    (e2 : ¬ s0 = r → Q (some (.int (0 : Int32))) m) :
    WP G (d + 100) (0, 0) μL_law 1390 [.ref (gSa G), .ref (gB G), .ref (gB G + 293), .int (nI i)] [.int r, .int s0] m Q := by
  refine wp_icmp_eq 1790 dL_law_1390 (by decide) (fun q1 => ?_) (fun q2 => ?_)
  · skip
    refine wp_iinc (nI (i + 7)) dL_law_1790 rfl (by decide) (nadd (a := i) (b := 7) (by omega)) rfl ?_
    refine wp_goto 18 dL_law_1793 (by decide) ?_
    refine wp_forget [.ref (gSa G), .ref (gB G), .ref (gB G + 293), .int (nI (i + 7))] ⟨Or.inl rfl, Or.inl rfl, Or.inl rfl, Or.inl rfl, trivial⟩ ?_
    exact e1 q1
  · skip
    refine wp_iconst (0 : Int32) dL_law_1393 (by decide) ?_
    exact wp_zret dL_law_1394 rfl rfl (e2 q2)

theorem bL_41a {G : Cx} {d : Nat} {m : Mm} {Q : Option Value → Mm → Prop} {i : Nat} (hF : Full G m) (hi : i + 7 ≤ gSl G) (hl : gSl G < 4000) 
    (e1 : WPM G (d + 99) (0, 0) μX10_shedCount [.ref (gB G)] m (fun r' m' => WP G (d + 100) (0, 0) μL_law 1399 [.ref (gSa G), .ref (gB G), .ref (gB G + 293), .int (nI i)] (r'.toList ++ []) m' Q)) :
    WP G (d + 100) (0, 0) μL_law 1395 [.ref (gSa G), .ref (gB G), .ref (gB G + 293), .int (nI i)] [] m Q := by
  refine wp_aload_n dL_law_1395 rfl ?_
  refine wp_callV (As := []) (S := []) (b' := (0, 0)) (b := (0, 0)) dL_law_1396 ML_186 (ka0 hF) rfl rfl rfl rfl (Nat.le_of_ble_eq_true rfl) ?_
  exact e1

theorem bL_41b {G : Cx} {d : Nat} {m : Mm} {Q : Option Value → Mm → Prop} {i : Nat} {r : Int32} (hF : Full G m) (hi : i + 7 ≤ gSl G) (hl : gSl G < 4000) 
    (e1 : WPM G (d + 99) (0, 0) μX11_shedCount [.ref (gB G + 293)] m (fun r' m' => WP G (d + 100) (0, 0) μL_law 1403 [.ref (gSa G), .ref (gB G), .ref (gB G + 293), .int (nI i)] (r'.toList ++ [.int r]) m' Q)) :
    WP G (d + 100) (0, 0) μL_law 1399 [.ref (gSa G), .ref (gB G), .ref (gB G + 293), .int (nI i)] [.int r] m Q := by
  refine wp_aload_n dL_law_1399 rfl ?_
  refine wp_callV (As := []) (S := [.int r]) (b' := (0, 0)) (b := (0, 0)) dL_law_1400 ML_189 (ka hF 293 (by decide)) rfl rfl rfl rfl (Nat.le_of_ble_eq_true rfl) ?_
  exact e1

theorem bL_41c {G : Cx} {d : Nat} {m : Mm} {Q : Option Value → Mm → Prop} {i : Nat} {s0 : Int32} {r : Int32} (hF : Full G m) (hi : i + 7 ≤ gSl G) (hl : gSl G < 4000) 
    (e1 : s0 = r → WP G (d + 100) (0, 0) μL_law 18 [.ref (gSa G), .ref (gB G), .ref (gB G + 293), .int (nI (i + 7))] [] m Q)
    (e2 : ¬ s0 = r → Q (some (.int (0 : Int32))) m) :
    WP G (d + 100) (0, 0) μL_law 1403 [.ref (gSa G), .ref (gB G), .ref (gB G + 293), .int (nI i)] [.int r, .int s0] m Q := by
  refine wp_icmp_eq 1790 dL_law_1403 (by decide) (fun q1 => ?_) (fun q2 => ?_)
  · skip
    refine wp_iinc (nI (i + 7)) dL_law_1790 rfl (by decide) (nadd (a := i) (b := 7) (by omega)) rfl ?_
    refine wp_goto 18 dL_law_1793 (by decide) ?_
    refine wp_forget [.ref (gSa G), .ref (gB G), .ref (gB G + 293), .int (nI (i + 7))] ⟨Or.inl rfl, Or.inl rfl, Or.inl rfl, Or.inl rfl, trivial⟩ ?_
    exact e1 q1
  · skip
    refine wp_iconst (0 : Int32) dL_law_1406 (by decide) ?_
    exact wp_zret dL_law_1407 rfl rfl (e2 q2)

theorem bL_42a {G : Cx} {d : Nat} {m : Mm} {Q : Option Value → Mm → Prop} {i : Nat} (hF : Full G m) (hi : i + 7 ≤ gSl G) (hl : gSl G < 4000) 
    (e1 : WPM G (d + 99) (0, 0) μX10_energy [.ref (gB G), .int (gSx G (i + 1))] m (fun r' m' => WP G (d + 100) (0, 0) μL_law 1417 [.ref (gSa G), .ref (gB G), .ref (gB G + 293), .int (nI i)] (r'.toList ++ []) m' Q)) :
    WP G (d + 100) (0, 0) μL_law 1408 [.ref (gSa G), .ref (gB G), .ref (gB G + 293), .int (nI i)] [] m Q := by
  refine wp_aload_n dL_law_1408 rfl ?_
  refine wp_aload_n dL_law_1409 rfl ?_
  refine wp_iload_n dL_law_1410 rfl ?_
  refine wp_iconst (1 : Int32) dL_law_1411 (by decide) ?_
  refine wp_iaddv (nI (i + 1)) dL_law_1412 (nadd (a := i) (b := 1) (by omega)) ?_
  refine wp_sld (i + 1) dL_law_1413 rfl (by omega) (by omega) ?_
  refine wp_callV (As := [.int (gSx G (i + 1))]) (S := []) (b' := (0, 0)) (b := (0, 0)) dL_law_1414 ML_190 (ka0 hF) rfl rfl rfl rfl (Nat.le_of_ble_eq_true rfl) ?_
  exact e1

theorem bL_42b {G : Cx} {d : Nat} {m : Mm} {Q : Option Value → Mm → Prop} {i : Nat} {r : Int64} (hF : Full G m) (hi : i + 7 ≤ gSl G) (hl : gSl G < 4000) 
    (e1 : WPM G (d + 99) (0, 0) μX11_energy [.ref (gB G + 293), .int (gSx G (i + 1))] m (fun r' m' => WP G (d + 100) (0, 0) μL_law 1426 [.ref (gSa G), .ref (gB G), .ref (gB G + 293), .int (nI i)] (r'.toList ++ [.long r]) m' Q)) :
    WP G (d + 100) (0, 0) μL_law 1417 [.ref (gSa G), .ref (gB G), .ref (gB G + 293), .int (nI i)] [.long r] m Q := by
  refine wp_aload_n dL_law_1417 rfl ?_
  refine wp_aload_n dL_law_1418 rfl ?_
  refine wp_iload_n dL_law_1419 rfl ?_
  refine wp_iconst (1 : Int32) dL_law_1420 (by decide) ?_
  refine wp_iaddv (nI (i + 1)) dL_law_1421 (nadd (a := i) (b := 1) (by omega)) ?_
  refine wp_sld (i + 1) dL_law_1422 rfl (by omega) (by omega) ?_
  refine wp_callV (As := [.int (gSx G (i + 1))]) (S := [.long r]) (b' := (0, 0)) (b := (0, 0)) dL_law_1423 ML_193 (ka hF 293 (by decide)) rfl rfl rfl rfl (Nat.le_of_ble_eq_true rfl) ?_
  exact e1

theorem bL_42c {G : Cx} {d : Nat} {m : Mm} {Q : Option Value → Mm → Prop} {i : Nat} {s0 : Int64} {r : Int64} (hF : Full G m) (hi : i + 7 ≤ gSl G) (hl : gSl G < 4000) 
    (e1 : s0 = r → WP G (d + 100) (0, 0) μL_law 18 [.ref (gSa G), .ref (gB G), .ref (gB G + 293), .int (nI (i + 7))] [] m Q)
    (e2 : ¬ s0 = r → Q (some (.int (0 : Int32))) m) :
    WP G (d + 100) (0, 0) μL_law 1426 [.ref (gSa G), .ref (gB G), .ref (gB G + 293), .int (nI i)] [.long r, .long s0] m Q := by
  refine wp_lc_eq 1790 dL_law_1426 dL_law_1427 (by decide) (fun q1 => ?_) (fun q2 => ?_)
  · skip
    refine wp_iinc (nI (i + 7)) dL_law_1790 rfl (by decide) (nadd (a := i) (b := 7) (by omega)) rfl ?_
    refine wp_goto 18 dL_law_1793 (by decide) ?_
    refine wp_forget [.ref (gSa G), .ref (gB G), .ref (gB G + 293), .int (nI (i + 7))] ⟨Or.inl rfl, Or.inl rfl, Or.inl rfl, Or.inl rfl, trivial⟩ ?_
    exact e1 q1
  · skip
    refine wp_iconst (0 : Int32) dL_law_1430 (by decide) ?_
    exact wp_zret dL_law_1431 rfl rfl (e2 q2)

theorem bL_43a {G : Cx} {d : Nat} {m : Mm} {Q : Option Value → Mm → Prop} {i : Nat} (hF : Full G m) (hi : i + 7 ≤ gSl G) (hl : gSl G < 4000) 
    (e1 : WPM G (d + 99) (0, 0) μX10_stepsToViolation [.ref (gB G), .int (gSx G (i + 1)), .int (gSx G (i + 2))] m (fun r' m' => WP G (d + 100) (0, 0) μL_law 1446 [.ref (gSa G), .ref (gB G), .ref (gB G + 293), .int (nI i)] (r'.toList ++ []) m' Q)) :
    WP G (d + 100) (0, 0) μL_law 1432 [.ref (gSa G), .ref (gB G), .ref (gB G + 293), .int (nI i)] [] m Q := by
  refine wp_aload_n dL_law_1432 rfl ?_
  refine wp_aload_n dL_law_1433 rfl ?_
  refine wp_iload_n dL_law_1434 rfl ?_
  refine wp_iconst (1 : Int32) dL_law_1435 (by decide) ?_
  refine wp_iaddv (nI (i + 1)) dL_law_1436 (nadd (a := i) (b := 1) (by omega)) ?_
  refine wp_sld (i + 1) dL_law_1437 rfl (by omega) (by omega) ?_
  refine wp_aload_n dL_law_1438 rfl ?_
  refine wp_iload_n dL_law_1439 rfl ?_
  refine wp_iconst (2 : Int32) dL_law_1440 (by decide) ?_
  refine wp_iaddv (nI (i + 2)) dL_law_1441 (nadd (a := i) (b := 2) (by omega)) ?_
  refine wp_sld (i + 2) dL_law_1442 rfl (by omega) (by omega) ?_
  refine wp_callV (As := [.int (gSx G (i + 1)), .int (gSx G (i + 2))]) (S := []) (b' := (0, 0)) (b := (0, 0)) dL_law_1443 ML_194 (ka0 hF) rfl rfl rfl rfl (Nat.le_of_ble_eq_true rfl) ?_
  exact e1

theorem bL_43b {G : Cx} {d : Nat} {m : Mm} {Q : Option Value → Mm → Prop} {i : Nat} {r : Int32} (hF : Full G m) (hi : i + 7 ≤ gSl G) (hl : gSl G < 4000) 
    (e1 : WPM G (d + 99) (0, 0) μX11_stepsToViolation [.ref (gB G + 293), .int (gSx G (i + 1)), .int (gSx G (i + 2))] m (fun r' m' => WP G (d + 100) (0, 0) μL_law 1460 [.ref (gSa G), .ref (gB G), .ref (gB G + 293), .int (nI i)] (r'.toList ++ [.int r]) m' Q)) :
    WP G (d + 100) (0, 0) μL_law 1446 [.ref (gSa G), .ref (gB G), .ref (gB G + 293), .int (nI i)] [.int r] m Q := by
  refine wp_aload_n dL_law_1446 rfl ?_
  refine wp_aload_n dL_law_1447 rfl ?_
  refine wp_iload_n dL_law_1448 rfl ?_
  refine wp_iconst (1 : Int32) dL_law_1449 (by decide) ?_
  refine wp_iaddv (nI (i + 1)) dL_law_1450 (nadd (a := i) (b := 1) (by omega)) ?_
  refine wp_sld (i + 1) dL_law_1451 rfl (by omega) (by omega) ?_
  refine wp_aload_n dL_law_1452 rfl ?_
  refine wp_iload_n dL_law_1453 rfl ?_
  refine wp_iconst (2 : Int32) dL_law_1454 (by decide) ?_
  refine wp_iaddv (nI (i + 2)) dL_law_1455 (nadd (a := i) (b := 2) (by omega)) ?_
  refine wp_sld (i + 2) dL_law_1456 rfl (by omega) (by omega) ?_
  refine wp_callV (As := [.int (gSx G (i + 1)), .int (gSx G (i + 2))]) (S := [.int r]) (b' := (0, 0)) (b := (0, 0)) dL_law_1457 ML_197 (ka hF 293 (by decide)) rfl rfl rfl rfl (Nat.le_of_ble_eq_true rfl) ?_
  exact e1

theorem bL_43c {G : Cx} {d : Nat} {m : Mm} {Q : Option Value → Mm → Prop} {i : Nat} {s0 : Int32} {r : Int32} (hF : Full G m) (hi : i + 7 ≤ gSl G) (hl : gSl G < 4000) 
    (e1 : s0 = r → WP G (d + 100) (0, 0) μL_law 18 [.ref (gSa G), .ref (gB G), .ref (gB G + 293), .int (nI (i + 7))] [] m Q)
    (e2 : ¬ s0 = r → Q (some (.int (0 : Int32))) m) :
    WP G (d + 100) (0, 0) μL_law 1460 [.ref (gSa G), .ref (gB G), .ref (gB G + 293), .int (nI i)] [.int r, .int s0] m Q := by
  refine wp_icmp_eq 1790 dL_law_1460 (by decide) (fun q1 => ?_) (fun q2 => ?_)
  · skip
    refine wp_iinc (nI (i + 7)) dL_law_1790 rfl (by decide) (nadd (a := i) (b := 7) (by omega)) rfl ?_
    refine wp_goto 18 dL_law_1793 (by decide) ?_
    refine wp_forget [.ref (gSa G), .ref (gB G), .ref (gB G + 293), .int (nI (i + 7))] ⟨Or.inl rfl, Or.inl rfl, Or.inl rfl, Or.inl rfl, trivial⟩ ?_
    exact e1 q1
  · skip
    refine wp_iconst (0 : Int32) dL_law_1463 (by decide) ?_
    exact wp_zret dL_law_1464 rfl rfl (e2 q2)

theorem bL_44a {G : Cx} {d : Nat} {m : Mm} {Q : Option Value → Mm → Prop} {i : Nat} (hF : Full G m) (hi : i + 7 ≤ gSl G) (hl : gSl G < 4000) 
    (e1 : (gSx G (i + 3)) = 0 → WPM G (d + 99) (0, 0) μX10_extremeAhead [.ref (gB G), .int (gSx G (i + 1)), .int (gSx G (i + 2)), .int (0 : Int32)] m (fun r' m' => WP G (d + 100) (0, 0) μL_law 1492 [.ref (gSa G), .ref (gB G), .ref (gB G + 293), .int (nI i)] (r'.toList ++ []) m' Q))
    (e2 : ¬ (gSx G (i + 3)) = 0 → WPM G (d + 99) (0, 0) μX10_extremeAhead [.ref (gB G), .int (gSx G (i + 1)), .int (gSx G (i + 2)), .int (1 : Int32)] m (fun r' m' => WP G (d + 100) (0, 0) μL_law 1492 [.ref (gSa G), .ref (gB G), .ref (gB G + 293), .int (nI i)] (r'.toList ++ []) m' Q)) :
    WP G (d + 100) (0, 0) μL_law 1465 [.ref (gSa G), .ref (gB G), .ref (gB G + 293), .int (nI i)] [] m Q := by
  refine wp_aload_n dL_law_1465 rfl ?_
  refine wp_aload_n dL_law_1466 rfl ?_
  refine wp_iload_n dL_law_1467 rfl ?_
  refine wp_iconst (1 : Int32) dL_law_1468 (by decide) ?_
  refine wp_iaddv (nI (i + 1)) dL_law_1469 (nadd (a := i) (b := 1) (by omega)) ?_
  refine wp_sld (i + 1) dL_law_1470 rfl (by omega) (by omega) ?_
  refine wp_aload_n dL_law_1471 rfl ?_
  refine wp_iload_n dL_law_1472 rfl ?_
  refine wp_iconst (2 : Int32) dL_law_1473 (by decide) ?_
  refine wp_iaddv (nI (i + 2)) dL_law_1474 (nadd (a := i) (b := 2) (by omega)) ?_
  refine wp_sld (i + 2) dL_law_1475 rfl (by omega) (by omega) ?_
  refine wp_aload_n dL_law_1476 rfl ?_
  refine wp_iload_n dL_law_1477 rfl ?_
  refine wp_iconst (3 : Int32) dL_law_1478 (by decide) ?_
  refine wp_iaddv (nI (i + 3)) dL_law_1479 (nadd (a := i) (b := 3) (by omega)) ?_
  refine wp_sld (i + 3) dL_law_1480 rfl (by omega) (by omega) ?_
  refine wp_if_eq 1488 dL_law_1481 (by decide) (fun q1 => ?_) (fun q2 => ?_)
  · skip
    refine wp_iconst (0 : Int32) dL_law_1488 (by decide) ?_
    refine wp_callV (As := [.int (gSx G (i + 1)), .int (gSx G (i + 2)), .int (0 : Int32)]) (S := []) (b' := (0, 0)) (b := (0, 0)) dL_law_1489 ML_198 (ka0 hF) rfl rfl rfl rfl (Nat.le_of_ble_eq_true rfl) ?_
    exact e1 q1
  · skip
    refine wp_iconst (1 : Int32) dL_law_1484 (by decide) ?_
    refine wp_goto 1489 dL_law_1485 (by decide) ?_
    refine wp_callV (As := [.int (gSx G (i + 1)), .int (gSx G (i + 2)), .int (1 : Int32)]) (S := []) (b' := (0, 0)) (b := (0, 0)) dL_law_1489 ML_198 (ka0 hF) rfl rfl rfl rfl (Nat.le_of_ble_eq_true rfl) ?_
    exact e2 q2

theorem bL_44b0 {G : Cx} {d : Nat} {m : Mm} {Q : Option Value → Mm → Prop} {i : Nat} {r : Int32} (hF : Full G m) (hi : i + 7 ≤ gSl G) (hl : gSl G < 4000) 
    (e1 : (gSx G (i + 3)) = 0 → WPM G (d + 99) (0, 0) μX11_extremeAhead [.ref (gB G + 293), .int (gSx G (i + 1)), .int (gSx G (i + 2)), .int (0 : Int32)] m (fun r' m' => WP G (d + 100) (0, 0) μL_law 1519 [.ref (gSa G), .ref (gB G), .ref (gB G + 293), .int (nI i)] (r'.toList ++ [.int r]) m' Q))
    (e2 : ¬ (gSx G (i + 3)) = 0 → WPM G (d + 99) (0, 0) μX11_extremeAhead [.ref (gB G + 293), .int (gSx G (i + 1)), .int (gSx G (i + 2)), .int (1 : Int32)] m (fun r' m' => WP G (d + 100) (0, 0) μL_law 1519 [.ref (gSa G), .ref (gB G), .ref (gB G + 293), .int (nI i)] (r'.toList ++ [.int r]) m' Q)) :
    WP G (d + 100) (0, 0) μL_law 1492 [.ref (gSa G), .ref (gB G), .ref (gB G + 293), .int (nI i)] [.int r] m Q := by
  refine wp_aload_n dL_law_1492 rfl ?_
  refine wp_aload_n dL_law_1493 rfl ?_
  refine wp_iload_n dL_law_1494 rfl ?_
  refine wp_iconst (1 : Int32) dL_law_1495 (by decide) ?_
  refine wp_iaddv (nI (i + 1)) dL_law_1496 (nadd (a := i) (b := 1) (by omega)) ?_
  refine wp_sld (i + 1) dL_law_1497 rfl (by omega) (by omega) ?_
  refine wp_aload_n dL_law_1498 rfl ?_
  refine wp_iload_n dL_law_1499 rfl ?_
  refine wp_iconst (2 : Int32) dL_law_1500 (by decide) ?_
  refine wp_iaddv (nI (i + 2)) dL_law_1501 (nadd (a := i) (b := 2) (by omega)) ?_
  refine wp_sld (i + 2) dL_law_1502 rfl (by omega) (by omega) ?_
  refine wp_aload_n dL_law_1503 rfl ?_
  refine wp_iload_n dL_law_1504 rfl ?_
  refine wp_iconst (3 : Int32) dL_law_1505 (by decide) ?_
  refine wp_iaddv (nI (i + 3)) dL_law_1506 (nadd (a := i) (b := 3) (by omega)) ?_
  refine wp_sld (i + 3) dL_law_1507 rfl (by omega) (by omega) ?_
  refine wp_if_eq 1515 dL_law_1508 (by decide) (fun q1 => ?_) (fun q2 => ?_)
  · skip
    refine wp_iconst (0 : Int32) dL_law_1515 (by decide) ?_
    refine wp_callV (As := [.int (gSx G (i + 1)), .int (gSx G (i + 2)), .int (0 : Int32)]) (S := [.int r]) (b' := (0, 0)) (b := (0, 0)) dL_law_1516 ML_202 (ka hF 293 (by decide)) rfl rfl rfl rfl (Nat.le_of_ble_eq_true rfl) ?_
    exact e1 q1
  · skip
    refine wp_iconst (1 : Int32) dL_law_1511 (by decide) ?_
    refine wp_goto 1516 dL_law_1512 (by decide) ?_
    refine wp_callV (As := [.int (gSx G (i + 1)), .int (gSx G (i + 2)), .int (1 : Int32)]) (S := [.int r]) (b' := (0, 0)) (b := (0, 0)) dL_law_1516 ML_202 (ka hF 293 (by decide)) rfl rfl rfl rfl (Nat.le_of_ble_eq_true rfl) ?_
    exact e2 q2

theorem bL_44c00 {G : Cx} {d : Nat} {m : Mm} {Q : Option Value → Mm → Prop} {i : Nat} {s0 : Int32} {r : Int32} (hF : Full G m) (hi : i + 7 ≤ gSl G) (hl : gSl G < 4000) 
    (e1 : s0 = r → WP G (d + 100) (0, 0) μL_law 18 [.ref (gSa G), .ref (gB G), .ref (gB G + 293), .int (nI (i + 7))] [] m Q)
    (e2 : ¬ s0 = r → Q (some (.int (0 : Int32))) m) :
    WP G (d + 100) (0, 0) μL_law 1519 [.ref (gSa G), .ref (gB G), .ref (gB G + 293), .int (nI i)] [.int r, .int s0] m Q := by
  refine wp_icmp_eq 1790 dL_law_1519 (by decide) (fun q1 => ?_) (fun q2 => ?_)
  · skip
    refine wp_iinc (nI (i + 7)) dL_law_1790 rfl (by decide) (nadd (a := i) (b := 7) (by omega)) rfl ?_
    refine wp_goto 18 dL_law_1793 (by decide) ?_
    refine wp_forget [.ref (gSa G), .ref (gB G), .ref (gB G + 293), .int (nI (i + 7))] ⟨Or.inl rfl, Or.inl rfl, Or.inl rfl, Or.inl rfl, trivial⟩ ?_
    exact e1 q1
  · skip
    refine wp_iconst (0 : Int32) dL_law_1522 (by decide) ?_
    exact wp_zret dL_law_1523 rfl rfl (e2 q2)

theorem bL_44c01 {G : Cx} {d : Nat} {m : Mm} {Q : Option Value → Mm → Prop} {i : Nat} {s0 : Int32} {r : Int32} (hF : Full G m) (hi : i + 7 ≤ gSl G) (hl : gSl G < 4000) 
    (e1 : s0 = r → WP G (d + 100) (0, 0) μL_law 18 [.ref (gSa G), .ref (gB G), .ref (gB G + 293), .int (nI (i + 7))] [] m Q)
    (e2 : ¬ s0 = r → Q (some (.int (0 : Int32))) m) :
    WP G (d + 100) (0, 0) μL_law 1519 [.ref (gSa G), .ref (gB G), .ref (gB G + 293), .int (nI i)] [.int r, .int s0] m Q := by
  refine wp_icmp_eq 1790 dL_law_1519 (by decide) (fun q1 => ?_) (fun q2 => ?_)
  · skip
    refine wp_iinc (nI (i + 7)) dL_law_1790 rfl (by decide) (nadd (a := i) (b := 7) (by omega)) rfl ?_
    refine wp_goto 18 dL_law_1793 (by decide) ?_
    refine wp_forget [.ref (gSa G), .ref (gB G), .ref (gB G + 293), .int (nI (i + 7))] ⟨Or.inl rfl, Or.inl rfl, Or.inl rfl, Or.inl rfl, trivial⟩ ?_
    exact e1 q1
  · skip
    refine wp_iconst (0 : Int32) dL_law_1522 (by decide) ?_
    exact wp_zret dL_law_1523 rfl rfl (e2 q2)

theorem bL_44b1 {G : Cx} {d : Nat} {m : Mm} {Q : Option Value → Mm → Prop} {i : Nat} {r : Int32} (hF : Full G m) (hi : i + 7 ≤ gSl G) (hl : gSl G < 4000) 
    (e1 : (gSx G (i + 3)) = 0 → WPM G (d + 99) (0, 0) μX11_extremeAhead [.ref (gB G + 293), .int (gSx G (i + 1)), .int (gSx G (i + 2)), .int (0 : Int32)] m (fun r' m' => WP G (d + 100) (0, 0) μL_law 1519 [.ref (gSa G), .ref (gB G), .ref (gB G + 293), .int (nI i)] (r'.toList ++ [.int r]) m' Q))
    (e2 : ¬ (gSx G (i + 3)) = 0 → WPM G (d + 99) (0, 0) μX11_extremeAhead [.ref (gB G + 293), .int (gSx G (i + 1)), .int (gSx G (i + 2)), .int (1 : Int32)] m (fun r' m' => WP G (d + 100) (0, 0) μL_law 1519 [.ref (gSa G), .ref (gB G), .ref (gB G + 293), .int (nI i)] (r'.toList ++ [.int r]) m' Q)) :
    WP G (d + 100) (0, 0) μL_law 1492 [.ref (gSa G), .ref (gB G), .ref (gB G + 293), .int (nI i)] [.int r] m Q := by
  refine wp_aload_n dL_law_1492 rfl ?_
  refine wp_aload_n dL_law_1493 rfl ?_
  refine wp_iload_n dL_law_1494 rfl ?_
  refine wp_iconst (1 : Int32) dL_law_1495 (by decide) ?_
  refine wp_iaddv (nI (i + 1)) dL_law_1496 (nadd (a := i) (b := 1) (by omega)) ?_
  refine wp_sld (i + 1) dL_law_1497 rfl (by omega) (by omega) ?_
  refine wp_aload_n dL_law_1498 rfl ?_
  refine wp_iload_n dL_law_1499 rfl ?_
  refine wp_iconst (2 : Int32) dL_law_1500 (by decide) ?_
  refine wp_iaddv (nI (i + 2)) dL_law_1501 (nadd (a := i) (b := 2) (by omega)) ?_
  refine wp_sld (i + 2) dL_law_1502 rfl (by omega) (by omega) ?_
  refine wp_aload_n dL_law_1503 rfl ?_
  refine wp_iload_n dL_law_1504 rfl ?_
  refine wp_iconst (3 : Int32) dL_law_1505 (by decide) ?_
  refine wp_iaddv (nI (i + 3)) dL_law_1506 (nadd (a := i) (b := 3) (by omega)) ?_
  refine wp_sld (i + 3) dL_law_1507 rfl (by omega) (by omega) ?_
  refine wp_if_eq 1515 dL_law_1508 (by decide) (fun q1 => ?_) (fun q2 => ?_)
  · skip
    refine wp_iconst (0 : Int32) dL_law_1515 (by decide) ?_
    refine wp_callV (As := [.int (gSx G (i + 1)), .int (gSx G (i + 2)), .int (0 : Int32)]) (S := [.int r]) (b' := (0, 0)) (b := (0, 0)) dL_law_1516 ML_202 (ka hF 293 (by decide)) rfl rfl rfl rfl (Nat.le_of_ble_eq_true rfl) ?_
    exact e1 q1
  · skip
    refine wp_iconst (1 : Int32) dL_law_1511 (by decide) ?_
    refine wp_goto 1516 dL_law_1512 (by decide) ?_
    refine wp_callV (As := [.int (gSx G (i + 1)), .int (gSx G (i + 2)), .int (1 : Int32)]) (S := [.int r]) (b' := (0, 0)) (b := (0, 0)) dL_law_1516 ML_202 (ka hF 293 (by decide)) rfl rfl rfl rfl (Nat.le_of_ble_eq_true rfl) ?_
    exact e2 q2

theorem bL_44c10 {G : Cx} {d : Nat} {m : Mm} {Q : Option Value → Mm → Prop} {i : Nat} {s0 : Int32} {r : Int32} (hF : Full G m) (hi : i + 7 ≤ gSl G) (hl : gSl G < 4000) 
    (e1 : s0 = r → WP G (d + 100) (0, 0) μL_law 18 [.ref (gSa G), .ref (gB G), .ref (gB G + 293), .int (nI (i + 7))] [] m Q)
    (e2 : ¬ s0 = r → Q (some (.int (0 : Int32))) m) :
    WP G (d + 100) (0, 0) μL_law 1519 [.ref (gSa G), .ref (gB G), .ref (gB G + 293), .int (nI i)] [.int r, .int s0] m Q := by
  refine wp_icmp_eq 1790 dL_law_1519 (by decide) (fun q1 => ?_) (fun q2 => ?_)
  · skip
    refine wp_iinc (nI (i + 7)) dL_law_1790 rfl (by decide) (nadd (a := i) (b := 7) (by omega)) rfl ?_
    refine wp_goto 18 dL_law_1793 (by decide) ?_
    refine wp_forget [.ref (gSa G), .ref (gB G), .ref (gB G + 293), .int (nI (i + 7))] ⟨Or.inl rfl, Or.inl rfl, Or.inl rfl, Or.inl rfl, trivial⟩ ?_
    exact e1 q1
  · skip
    refine wp_iconst (0 : Int32) dL_law_1522 (by decide) ?_
    exact wp_zret dL_law_1523 rfl rfl (e2 q2)

theorem bL_44c11 {G : Cx} {d : Nat} {m : Mm} {Q : Option Value → Mm → Prop} {i : Nat} {s0 : Int32} {r : Int32} (hF : Full G m) (hi : i + 7 ≤ gSl G) (hl : gSl G < 4000) 
    (e1 : s0 = r → WP G (d + 100) (0, 0) μL_law 18 [.ref (gSa G), .ref (gB G), .ref (gB G + 293), .int (nI (i + 7))] [] m Q)
    (e2 : ¬ s0 = r → Q (some (.int (0 : Int32))) m) :
    WP G (d + 100) (0, 0) μL_law 1519 [.ref (gSa G), .ref (gB G), .ref (gB G + 293), .int (nI i)] [.int r, .int s0] m Q := by
  refine wp_icmp_eq 1790 dL_law_1519 (by decide) (fun q1 => ?_) (fun q2 => ?_)
  · skip
    refine wp_iinc (nI (i + 7)) dL_law_1790 rfl (by decide) (nadd (a := i) (b := 7) (by omega)) rfl ?_
    refine wp_goto 18 dL_law_1793 (by decide) ?_
    refine wp_forget [.ref (gSa G), .ref (gB G), .ref (gB G + 293), .int (nI (i + 7))] ⟨Or.inl rfl, Or.inl rfl, Or.inl rfl, Or.inl rfl, trivial⟩ ?_
    exact e1 q1
  · skip
    refine wp_iconst (0 : Int32) dL_law_1522 (by decide) ?_
    exact wp_zret dL_law_1523 rfl rfl (e2 q2)

theorem bL_45a {G : Cx} {d : Nat} {m : Mm} {Q : Option Value → Mm → Prop} {i : Nat} (hF : Full G m) (hi : i + 7 ≤ gSl G) (hl : gSl G < 4000) 
    (e1 : WPM G (d + 99) (0, 0) μX10_leastHeaterPower [.ref (gB G), .int (gSx G (i + 1)), .int (gSx G (i + 2))] m (fun r' m' => WP G (d + 100) (0, 0) μL_law 1538 [.ref (gSa G), .ref (gB G), .ref (gB G + 293), .int (nI i)] (r'.toList ++ []) m' Q)) :
    WP G (d + 100) (0, 0) μL_law 1524 [.ref (gSa G), .ref (gB G), .ref (gB G + 293), .int (nI i)] [] m Q := by
  refine wp_aload_n dL_law_1524 rfl ?_
  refine wp_aload_n dL_law_1525 rfl ?_
  refine wp_iload_n dL_law_1526 rfl ?_
  refine wp_iconst (1 : Int32) dL_law_1527 (by decide) ?_
  refine wp_iaddv (nI (i + 1)) dL_law_1528 (nadd (a := i) (b := 1) (by omega)) ?_
  refine wp_sld (i + 1) dL_law_1529 rfl (by omega) (by omega) ?_
  refine wp_aload_n dL_law_1530 rfl ?_
  refine wp_iload_n dL_law_1531 rfl ?_
  refine wp_iconst (2 : Int32) dL_law_1532 (by decide) ?_
  refine wp_iaddv (nI (i + 2)) dL_law_1533 (nadd (a := i) (b := 2) (by omega)) ?_
  refine wp_sld (i + 2) dL_law_1534 rfl (by omega) (by omega) ?_
  refine wp_callV (As := [.int (gSx G (i + 1)), .int (gSx G (i + 2))]) (S := []) (b' := (0, 0)) (b := (0, 0)) dL_law_1535 ML_203 (ka0 hF) rfl rfl rfl rfl (Nat.le_of_ble_eq_true rfl) ?_
  exact e1

theorem bL_45b {G : Cx} {d : Nat} {m : Mm} {Q : Option Value → Mm → Prop} {i : Nat} {r : Int32} (hF : Full G m) (hi : i + 7 ≤ gSl G) (hl : gSl G < 4000) 
    (e1 : WPM G (d + 99) (0, 0) μX11_leastHeaterPower [.ref (gB G + 293), .int (gSx G (i + 1)), .int (gSx G (i + 2))] m (fun r' m' => WP G (d + 100) (0, 0) μL_law 1552 [.ref (gSa G), .ref (gB G), .ref (gB G + 293), .int (nI i)] (r'.toList ++ [.int r]) m' Q)) :
    WP G (d + 100) (0, 0) μL_law 1538 [.ref (gSa G), .ref (gB G), .ref (gB G + 293), .int (nI i)] [.int r] m Q := by
  refine wp_aload_n dL_law_1538 rfl ?_
  refine wp_aload_n dL_law_1539 rfl ?_
  refine wp_iload_n dL_law_1540 rfl ?_
  refine wp_iconst (1 : Int32) dL_law_1541 (by decide) ?_
  refine wp_iaddv (nI (i + 1)) dL_law_1542 (nadd (a := i) (b := 1) (by omega)) ?_
  refine wp_sld (i + 1) dL_law_1543 rfl (by omega) (by omega) ?_
  refine wp_aload_n dL_law_1544 rfl ?_
  refine wp_iload_n dL_law_1545 rfl ?_
  refine wp_iconst (2 : Int32) dL_law_1546 (by decide) ?_
  refine wp_iaddv (nI (i + 2)) dL_law_1547 (nadd (a := i) (b := 2) (by omega)) ?_
  refine wp_sld (i + 2) dL_law_1548 rfl (by omega) (by omega) ?_
  refine wp_callV (As := [.int (gSx G (i + 1)), .int (gSx G (i + 2))]) (S := [.int r]) (b' := (0, 0)) (b := (0, 0)) dL_law_1549 ML_206 (ka hF 293 (by decide)) rfl rfl rfl rfl (Nat.le_of_ble_eq_true rfl) ?_
  exact e1

theorem bL_45c {G : Cx} {d : Nat} {m : Mm} {Q : Option Value → Mm → Prop} {i : Nat} {s0 : Int32} {r : Int32} (hF : Full G m) (hi : i + 7 ≤ gSl G) (hl : gSl G < 4000) 
    (e1 : s0 = r → WP G (d + 100) (0, 0) μL_law 18 [.ref (gSa G), .ref (gB G), .ref (gB G + 293), .int (nI (i + 7))] [] m Q)
    (e2 : ¬ s0 = r → Q (some (.int (0 : Int32))) m) :
    WP G (d + 100) (0, 0) μL_law 1552 [.ref (gSa G), .ref (gB G), .ref (gB G + 293), .int (nI i)] [.int r, .int s0] m Q := by
  refine wp_icmp_eq 1790 dL_law_1552 (by decide) (fun q1 => ?_) (fun q2 => ?_)
  · skip
    refine wp_iinc (nI (i + 7)) dL_law_1790 rfl (by decide) (nadd (a := i) (b := 7) (by omega)) rfl ?_
    refine wp_goto 18 dL_law_1793 (by decide) ?_
    refine wp_forget [.ref (gSa G), .ref (gB G), .ref (gB G + 293), .int (nI (i + 7))] ⟨Or.inl rfl, Or.inl rfl, Or.inl rfl, Or.inl rfl, trivial⟩ ?_
    exact e1 q1
  · skip
    refine wp_iconst (0 : Int32) dL_law_1555 (by decide) ?_
    exact wp_zret dL_law_1556 rfl rfl (e2 q2)

theorem bL_46a {G : Cx} {d : Nat} {m : Mm} {Q : Option Value → Mm → Prop} {i : Nat} (hF : Full G m) (hi : i + 7 ≤ gSl G) (hl : gSl G < 4000) 
    (e1 : WPM G (d + 99) (0, 0) μX10_leastLouvreArea [.ref (gB G), .int (gSx G (i + 1)), .int (gSx G (i + 2))] m (fun r' m' => WP G (d + 100) (0, 0) μL_law 1571 [.ref (gSa G), .ref (gB G), .ref (gB G + 293), .int (nI i)] (r'.toList ++ []) m' Q)) :
    WP G (d + 100) (0, 0) μL_law 1557 [.ref (gSa G), .ref (gB G), .ref (gB G + 293), .int (nI i)] [] m Q := by
  refine wp_aload_n dL_law_1557 rfl ?_
  refine wp_aload_n dL_law_1558 rfl ?_
  refine wp_iload_n dL_law_1559 rfl ?_
  refine wp_iconst (1 : Int32) dL_law_1560 (by decide) ?_
  refine wp_iaddv (nI (i + 1)) dL_law_1561 (nadd (a := i) (b := 1) (by omega)) ?_
  refine wp_sld (i + 1) dL_law_1562 rfl (by omega) (by omega) ?_
  refine wp_aload_n dL_law_1563 rfl ?_
  refine wp_iload_n dL_law_1564 rfl ?_
  refine wp_iconst (2 : Int32) dL_law_1565 (by decide) ?_
  refine wp_iaddv (nI (i + 2)) dL_law_1566 (nadd (a := i) (b := 2) (by omega)) ?_
  refine wp_sld (i + 2) dL_law_1567 rfl (by omega) (by omega) ?_
  refine wp_callV (As := [.int (gSx G (i + 1)), .int (gSx G (i + 2))]) (S := []) (b' := (0, 0)) (b := (0, 0)) dL_law_1568 ML_207 (ka0 hF) rfl rfl rfl rfl (Nat.le_of_ble_eq_true rfl) ?_
  exact e1

theorem bL_46b {G : Cx} {d : Nat} {m : Mm} {Q : Option Value → Mm → Prop} {i : Nat} {r : Int32} (hF : Full G m) (hi : i + 7 ≤ gSl G) (hl : gSl G < 4000) 
    (e1 : WPM G (d + 99) (0, 0) μX11_leastLouvreArea [.ref (gB G + 293), .int (gSx G (i + 1)), .int (gSx G (i + 2))] m (fun r' m' => WP G (d + 100) (0, 0) μL_law 1585 [.ref (gSa G), .ref (gB G), .ref (gB G + 293), .int (nI i)] (r'.toList ++ [.int r]) m' Q)) :
    WP G (d + 100) (0, 0) μL_law 1571 [.ref (gSa G), .ref (gB G), .ref (gB G + 293), .int (nI i)] [.int r] m Q := by
  refine wp_aload_n dL_law_1571 rfl ?_
  refine wp_aload_n dL_law_1572 rfl ?_
  refine wp_iload_n dL_law_1573 rfl ?_
  refine wp_iconst (1 : Int32) dL_law_1574 (by decide) ?_
  refine wp_iaddv (nI (i + 1)) dL_law_1575 (nadd (a := i) (b := 1) (by omega)) ?_
  refine wp_sld (i + 1) dL_law_1576 rfl (by omega) (by omega) ?_
  refine wp_aload_n dL_law_1577 rfl ?_
  refine wp_iload_n dL_law_1578 rfl ?_
  refine wp_iconst (2 : Int32) dL_law_1579 (by decide) ?_
  refine wp_iaddv (nI (i + 2)) dL_law_1580 (nadd (a := i) (b := 2) (by omega)) ?_
  refine wp_sld (i + 2) dL_law_1581 rfl (by omega) (by omega) ?_
  refine wp_callV (As := [.int (gSx G (i + 1)), .int (gSx G (i + 2))]) (S := [.int r]) (b' := (0, 0)) (b := (0, 0)) dL_law_1582 ML_210 (ka hF 293 (by decide)) rfl rfl rfl rfl (Nat.le_of_ble_eq_true rfl) ?_
  exact e1

theorem bL_46c {G : Cx} {d : Nat} {m : Mm} {Q : Option Value → Mm → Prop} {i : Nat} {s0 : Int32} {r : Int32} (hF : Full G m) (hi : i + 7 ≤ gSl G) (hl : gSl G < 4000) 
    (e1 : s0 = r → WP G (d + 100) (0, 0) μL_law 18 [.ref (gSa G), .ref (gB G), .ref (gB G + 293), .int (nI (i + 7))] [] m Q)
    (e2 : ¬ s0 = r → Q (some (.int (0 : Int32))) m) :
    WP G (d + 100) (0, 0) μL_law 1585 [.ref (gSa G), .ref (gB G), .ref (gB G + 293), .int (nI i)] [.int r, .int s0] m Q := by
  refine wp_icmp_eq 1790 dL_law_1585 (by decide) (fun q1 => ?_) (fun q2 => ?_)
  · skip
    refine wp_iinc (nI (i + 7)) dL_law_1790 rfl (by decide) (nadd (a := i) (b := 7) (by omega)) rfl ?_
    refine wp_goto 18 dL_law_1793 (by decide) ?_
    refine wp_forget [.ref (gSa G), .ref (gB G), .ref (gB G + 293), .int (nI (i + 7))] ⟨Or.inl rfl, Or.inl rfl, Or.inl rfl, Or.inl rfl, trivial⟩ ?_
    exact e1 q1
  · skip
    refine wp_iconst (0 : Int32) dL_law_1588 (by decide) ?_
    exact wp_zret dL_law_1589 rfl rfl (e2 q2)

theorem bL_47a {G : Cx} {d : Nat} {m : Mm} {Q : Option Value → Mm → Prop} {i : Nat} (hF : Full G m) (hi : i + 7 ≤ gSl G) (hl : gSl G < 4000) 
    (e1 : WPM G (d + 99) (0, 0) μX10_settlingOrbit [.ref (gB G), .int (gSx G (i + 1)), .int (gSx G (i + 2))] m (fun r' m' => WP G (d + 100) (0, 0) μL_law 1604 [.ref (gSa G), .ref (gB G), .ref (gB G + 293), .int (nI i)] (r'.toList ++ []) m' Q)) :
    WP G (d + 100) (0, 0) μL_law 1590 [.ref (gSa G), .ref (gB G), .ref (gB G + 293), .int (nI i)] [] m Q := by
  refine wp_aload_n dL_law_1590 rfl ?_
  refine wp_aload_n dL_law_1591 rfl ?_
  refine wp_iload_n dL_law_1592 rfl ?_
  refine wp_iconst (1 : Int32) dL_law_1593 (by decide) ?_
  refine wp_iaddv (nI (i + 1)) dL_law_1594 (nadd (a := i) (b := 1) (by omega)) ?_
  refine wp_sld (i + 1) dL_law_1595 rfl (by omega) (by omega) ?_
  refine wp_aload_n dL_law_1596 rfl ?_
  refine wp_iload_n dL_law_1597 rfl ?_
  refine wp_iconst (2 : Int32) dL_law_1598 (by decide) ?_
  refine wp_iaddv (nI (i + 2)) dL_law_1599 (nadd (a := i) (b := 2) (by omega)) ?_
  refine wp_sld (i + 2) dL_law_1600 rfl (by omega) (by omega) ?_
  refine wp_callV (As := [.int (gSx G (i + 1)), .int (gSx G (i + 2))]) (S := []) (b' := (0, 0)) (b := (0, 0)) dL_law_1601 ML_211 (ka0 hF) rfl rfl rfl rfl (Nat.le_of_ble_eq_true rfl) ?_
  exact e1

theorem bL_47b {G : Cx} {d : Nat} {m : Mm} {Q : Option Value → Mm → Prop} {i : Nat} {r : Int32} (hF : Full G m) (hi : i + 7 ≤ gSl G) (hl : gSl G < 4000) 
    (e1 : WPM G (d + 99) (0, 0) μX11_settlingOrbit [.ref (gB G + 293), .int (gSx G (i + 1)), .int (gSx G (i + 2))] m (fun r' m' => WP G (d + 100) (0, 0) μL_law 1618 [.ref (gSa G), .ref (gB G), .ref (gB G + 293), .int (nI i)] (r'.toList ++ [.int r]) m' Q)) :
    WP G (d + 100) (0, 0) μL_law 1604 [.ref (gSa G), .ref (gB G), .ref (gB G + 293), .int (nI i)] [.int r] m Q := by
  refine wp_aload_n dL_law_1604 rfl ?_
  refine wp_aload_n dL_law_1605 rfl ?_
  refine wp_iload_n dL_law_1606 rfl ?_
  refine wp_iconst (1 : Int32) dL_law_1607 (by decide) ?_
  refine wp_iaddv (nI (i + 1)) dL_law_1608 (nadd (a := i) (b := 1) (by omega)) ?_
  refine wp_sld (i + 1) dL_law_1609 rfl (by omega) (by omega) ?_
  refine wp_aload_n dL_law_1610 rfl ?_
  refine wp_iload_n dL_law_1611 rfl ?_
  refine wp_iconst (2 : Int32) dL_law_1612 (by decide) ?_
  refine wp_iaddv (nI (i + 2)) dL_law_1613 (nadd (a := i) (b := 2) (by omega)) ?_
  refine wp_sld (i + 2) dL_law_1614 rfl (by omega) (by omega) ?_
  refine wp_callV (As := [.int (gSx G (i + 1)), .int (gSx G (i + 2))]) (S := [.int r]) (b' := (0, 0)) (b := (0, 0)) dL_law_1615 ML_214 (ka hF 293 (by decide)) rfl rfl rfl rfl (Nat.le_of_ble_eq_true rfl) ?_
  exact e1

theorem bL_47c {G : Cx} {d : Nat} {m : Mm} {Q : Option Value → Mm → Prop} {i : Nat} {s0 : Int32} {r : Int32} (hF : Full G m) (hi : i + 7 ≤ gSl G) (hl : gSl G < 4000) 
    (e1 : s0 = r → WP G (d + 100) (0, 0) μL_law 18 [.ref (gSa G), .ref (gB G), .ref (gB G + 293), .int (nI (i + 7))] [] m Q)
    (e2 : ¬ s0 = r → Q (some (.int (0 : Int32))) m) :
    WP G (d + 100) (0, 0) μL_law 1618 [.ref (gSa G), .ref (gB G), .ref (gB G + 293), .int (nI i)] [.int r, .int s0] m Q := by
  refine wp_icmp_eq 1790 dL_law_1618 (by decide) (fun q1 => ?_) (fun q2 => ?_)
  · skip
    refine wp_iinc (nI (i + 7)) dL_law_1790 rfl (by decide) (nadd (a := i) (b := 7) (by omega)) rfl ?_
    refine wp_goto 18 dL_law_1793 (by decide) ?_
    refine wp_forget [.ref (gSa G), .ref (gB G), .ref (gB G + 293), .int (nI (i + 7))] ⟨Or.inl rfl, Or.inl rfl, Or.inl rfl, Or.inl rfl, trivial⟩ ?_
    exact e1 q1
  · skip
    refine wp_iconst (0 : Int32) dL_law_1621 (by decide) ?_
    exact wp_zret dL_law_1622 rfl rfl (e2 q2)

theorem bL_48a {G : Cx} {d : Nat} {m : Mm} {Q : Option Value → Mm → Prop} {i : Nat} (hF : Full G m) (hi : i + 7 ≤ gSl G) (hl : gSl G < 4000) 
    (e1 : WPM G (d + 99) (0, 0) μX10_appendText [.ref (gB G), .int (gSx G (i + 1))] m (fun r' m' => WP G (d + 100) (0, 0) μL_law 1632 [.ref (gSa G), .ref (gB G), .ref (gB G + 293), .int (nI i)] (r'.toList ++ []) m' Q)) :
    WP G (d + 100) (0, 0) μL_law 1623 [.ref (gSa G), .ref (gB G), .ref (gB G + 293), .int (nI i)] [] m Q := by
  refine wp_aload_n dL_law_1623 rfl ?_
  refine wp_aload_n dL_law_1624 rfl ?_
  refine wp_iload_n dL_law_1625 rfl ?_
  refine wp_iconst (1 : Int32) dL_law_1626 (by decide) ?_
  refine wp_iaddv (nI (i + 1)) dL_law_1627 (nadd (a := i) (b := 1) (by omega)) ?_
  refine wp_sld (i + 1) dL_law_1628 rfl (by omega) (by omega) ?_
  refine wp_callV (As := [.int (gSx G (i + 1))]) (S := []) (b' := (0, 0)) (b := (0, 0)) dL_law_1629 ML_215 (ka0 hF) rfl rfl rfl rfl (Nat.le_of_ble_eq_true rfl) ?_
  exact e1

theorem bL_48b {G : Cx} {d : Nat} {m : Mm} {Q : Option Value → Mm → Prop} {i : Nat} {r : Int32} (hF : Full G m) (hi : i + 7 ≤ gSl G) (hl : gSl G < 4000) 
    (e1 : WPM G (d + 99) (0, 0) μX11_appendText [.ref (gB G + 293), .int (gSx G (i + 1))] m (fun r' m' => WP G (d + 100) (0, 0) μL_law 1641 [.ref (gSa G), .ref (gB G), .ref (gB G + 293), .int (nI i)] (r'.toList ++ [.int r]) m' Q)) :
    WP G (d + 100) (0, 0) μL_law 1632 [.ref (gSa G), .ref (gB G), .ref (gB G + 293), .int (nI i)] [.int r] m Q := by
  refine wp_aload_n dL_law_1632 rfl ?_
  refine wp_aload_n dL_law_1633 rfl ?_
  refine wp_iload_n dL_law_1634 rfl ?_
  refine wp_iconst (1 : Int32) dL_law_1635 (by decide) ?_
  refine wp_iaddv (nI (i + 1)) dL_law_1636 (nadd (a := i) (b := 1) (by omega)) ?_
  refine wp_sld (i + 1) dL_law_1637 rfl (by omega) (by omega) ?_
  refine wp_callV (As := [.int (gSx G (i + 1))]) (S := [.int r]) (b' := (0, 0)) (b := (0, 0)) dL_law_1638 ML_218 (ka hF 293 (by decide)) rfl rfl rfl rfl (Nat.le_of_ble_eq_true rfl) ?_
  exact e1

theorem bL_48c {G : Cx} {d : Nat} {m : Mm} {Q : Option Value → Mm → Prop} {i : Nat} {s0 : Int32} {r : Int32} (hF : Full G m) (hi : i + 7 ≤ gSl G) (hl : gSl G < 4000) 
    (e1 : s0 = r → WP G (d + 100) (0, 0) μL_law 18 [.ref (gSa G), .ref (gB G), .ref (gB G + 293), .int (nI (i + 7))] [] m Q)
    (e2 : ¬ s0 = r → Q (some (.int (0 : Int32))) m) :
    WP G (d + 100) (0, 0) μL_law 1641 [.ref (gSa G), .ref (gB G), .ref (gB G + 293), .int (nI i)] [.int r, .int s0] m Q := by
  refine wp_icmp_eq 1790 dL_law_1641 (by decide) (fun q1 => ?_) (fun q2 => ?_)
  · skip
    refine wp_iinc (nI (i + 7)) dL_law_1790 rfl (by decide) (nadd (a := i) (b := 7) (by omega)) rfl ?_
    refine wp_goto 18 dL_law_1793 (by decide) ?_
    refine wp_forget [.ref (gSa G), .ref (gB G), .ref (gB G + 293), .int (nI (i + 7))] ⟨Or.inl rfl, Or.inl rfl, Or.inl rfl, Or.inl rfl, trivial⟩ ?_
    exact e1 q1
  · skip
    refine wp_iconst (0 : Int32) dL_law_1644 (by decide) ?_
    exact wp_zret dL_law_1645 rfl rfl (e2 q2)

theorem bL_49a {G : Cx} {d : Nat} {m : Mm} {Q : Option Value → Mm → Prop} {i : Nat} (hF : Full G m) (hi : i + 7 ≤ gSl G) (hl : gSl G < 4000) 
    (e1 : WPM G (d + 99) (0, 0) μX10_truncateText [.ref (gB G), .int (gSx G (i + 1))] m (fun r' m' => WP G (d + 100) (0, 0) μL_law 1655 [.ref (gSa G), .ref (gB G), .ref (gB G + 293), .int (nI i)] (r'.toList ++ []) m' Q)) :
    WP G (d + 100) (0, 0) μL_law 1646 [.ref (gSa G), .ref (gB G), .ref (gB G + 293), .int (nI i)] [] m Q := by
  refine wp_aload_n dL_law_1646 rfl ?_
  refine wp_aload_n dL_law_1647 rfl ?_
  refine wp_iload_n dL_law_1648 rfl ?_
  refine wp_iconst (1 : Int32) dL_law_1649 (by decide) ?_
  refine wp_iaddv (nI (i + 1)) dL_law_1650 (nadd (a := i) (b := 1) (by omega)) ?_
  refine wp_sld (i + 1) dL_law_1651 rfl (by omega) (by omega) ?_
  refine wp_callV (As := [.int (gSx G (i + 1))]) (S := []) (b' := (0, 0)) (b := (0, 0)) dL_law_1652 ML_219 (ka0 hF) rfl rfl rfl rfl (Nat.le_of_ble_eq_true rfl) ?_
  exact e1

theorem bL_49b {G : Cx} {d : Nat} {m : Mm} {Q : Option Value → Mm → Prop} {i : Nat} {r : Int32} (hF : Full G m) (hi : i + 7 ≤ gSl G) (hl : gSl G < 4000) 
    (e1 : WPM G (d + 99) (0, 0) μX11_truncateText [.ref (gB G + 293), .int (gSx G (i + 1))] m (fun r' m' => WP G (d + 100) (0, 0) μL_law 1664 [.ref (gSa G), .ref (gB G), .ref (gB G + 293), .int (nI i)] (r'.toList ++ [.int r]) m' Q)) :
    WP G (d + 100) (0, 0) μL_law 1655 [.ref (gSa G), .ref (gB G), .ref (gB G + 293), .int (nI i)] [.int r] m Q := by
  refine wp_aload_n dL_law_1655 rfl ?_
  refine wp_aload_n dL_law_1656 rfl ?_
  refine wp_iload_n dL_law_1657 rfl ?_
  refine wp_iconst (1 : Int32) dL_law_1658 (by decide) ?_
  refine wp_iaddv (nI (i + 1)) dL_law_1659 (nadd (a := i) (b := 1) (by omega)) ?_
  refine wp_sld (i + 1) dL_law_1660 rfl (by omega) (by omega) ?_
  refine wp_callV (As := [.int (gSx G (i + 1))]) (S := [.int r]) (b' := (0, 0)) (b := (0, 0)) dL_law_1661 ML_222 (ka hF 293 (by decide)) rfl rfl rfl rfl (Nat.le_of_ble_eq_true rfl) ?_
  exact e1

theorem bL_49c {G : Cx} {d : Nat} {m : Mm} {Q : Option Value → Mm → Prop} {i : Nat} {s0 : Int32} {r : Int32} (hF : Full G m) (hi : i + 7 ≤ gSl G) (hl : gSl G < 4000) 
    (e1 : s0 = r → WP G (d + 100) (0, 0) μL_law 18 [.ref (gSa G), .ref (gB G), .ref (gB G + 293), .int (nI (i + 7))] [] m Q)
    (e2 : ¬ s0 = r → Q (some (.int (0 : Int32))) m) :
    WP G (d + 100) (0, 0) μL_law 1664 [.ref (gSa G), .ref (gB G), .ref (gB G + 293), .int (nI i)] [.int r, .int s0] m Q := by
  refine wp_icmp_eq 1790 dL_law_1664 (by decide) (fun q1 => ?_) (fun q2 => ?_)
  · skip
    refine wp_iinc (nI (i + 7)) dL_law_1790 rfl (by decide) (nadd (a := i) (b := 7) (by omega)) rfl ?_
    refine wp_goto 18 dL_law_1793 (by decide) ?_
    refine wp_forget [.ref (gSa G), .ref (gB G), .ref (gB G + 293), .int (nI (i + 7))] ⟨Or.inl rfl, Or.inl rfl, Or.inl rfl, Or.inl rfl, trivial⟩ ?_
    exact e1 q1
  · skip
    refine wp_iconst (0 : Int32) dL_law_1667 (by decide) ?_
    exact wp_zret dL_law_1668 rfl rfl (e2 q2)

theorem bL_50a {G : Cx} {d : Nat} {m : Mm} {Q : Option Value → Mm → Prop} {i : Nat} (hF : Full G m) (hi : i + 7 ≤ gSl G) (hl : gSl G < 4000) 
    (e1 : WPM G (d + 99) (0, 0) μX10_loadRules [.ref (gB G)] m (fun r' m' => WP G (d + 100) (0, 0) μL_law 1673 [.ref (gSa G), .ref (gB G), .ref (gB G + 293), .int (nI i)] (r'.toList ++ []) m' Q)) :
    WP G (d + 100) (0, 0) μL_law 1669 [.ref (gSa G), .ref (gB G), .ref (gB G + 293), .int (nI i)] [] m Q := by
  refine wp_aload_n dL_law_1669 rfl ?_
  refine wp_callV (As := []) (S := []) (b' := (0, 0)) (b := (0, 0)) dL_law_1670 ML_223 (ka0 hF) rfl rfl rfl rfl (Nat.le_of_ble_eq_true rfl) ?_
  exact e1

theorem bL_50b {G : Cx} {d : Nat} {m : Mm} {Q : Option Value → Mm → Prop} {i : Nat} {r : Int32} (hF : Full G m) (hi : i + 7 ≤ gSl G) (hl : gSl G < 4000) 
    (e1 : WPM G (d + 99) (0, 0) μX11_loadRules [.ref (gB G + 293)] m (fun r' m' => WP G (d + 100) (0, 0) μL_law 1677 [.ref (gSa G), .ref (gB G), .ref (gB G + 293), .int (nI i)] (r'.toList ++ [.int r]) m' Q)) :
    WP G (d + 100) (0, 0) μL_law 1673 [.ref (gSa G), .ref (gB G), .ref (gB G + 293), .int (nI i)] [.int r] m Q := by
  refine wp_aload_n dL_law_1673 rfl ?_
  refine wp_callV (As := []) (S := [.int r]) (b' := (0, 0)) (b := (0, 0)) dL_law_1674 ML_226 (ka hF 293 (by decide)) rfl rfl rfl rfl (Nat.le_of_ble_eq_true rfl) ?_
  exact e1

theorem bL_50c {G : Cx} {d : Nat} {m : Mm} {Q : Option Value → Mm → Prop} {i : Nat} {s0 : Int32} {r : Int32} (hF : Full G m) (hi : i + 7 ≤ gSl G) (hl : gSl G < 4000) 
    (e1 : s0 = r → WP G (d + 100) (0, 0) μL_law 18 [.ref (gSa G), .ref (gB G), .ref (gB G + 293), .int (nI (i + 7))] [] m Q)
    (e2 : ¬ s0 = r → Q (some (.int (0 : Int32))) m) :
    WP G (d + 100) (0, 0) μL_law 1677 [.ref (gSa G), .ref (gB G), .ref (gB G + 293), .int (nI i)] [.int r, .int s0] m Q := by
  refine wp_icmp_eq 1790 dL_law_1677 (by decide) (fun q1 => ?_) (fun q2 => ?_)
  · skip
    refine wp_iinc (nI (i + 7)) dL_law_1790 rfl (by decide) (nadd (a := i) (b := 7) (by omega)) rfl ?_
    refine wp_goto 18 dL_law_1793 (by decide) ?_
    refine wp_forget [.ref (gSa G), .ref (gB G), .ref (gB G + 293), .int (nI (i + 7))] ⟨Or.inl rfl, Or.inl rfl, Or.inl rfl, Or.inl rfl, trivial⟩ ?_
    exact e1 q1
  · skip
    refine wp_iconst (0 : Int32) dL_law_1680 (by decide) ?_
    exact wp_zret dL_law_1681 rfl rfl (e2 q2)

theorem bL_51a {G : Cx} {d : Nat} {m : Mm} {Q : Option Value → Mm → Prop} {i : Nat} (hF : Full G m) (hi : i + 7 ≤ gSl G) (hl : gSl G < 4000) 
    (e1 : WPM G (d + 99) (0, 0) μX10_errorCode [.ref (gB G)] m (fun r' m' => WP G (d + 100) (0, 0) μL_law 1686 [.ref (gSa G), .ref (gB G), .ref (gB G + 293), .int (nI i)] (r'.toList ++ []) m' Q)) :
    WP G (d + 100) (0, 0) μL_law 1682 [.ref (gSa G), .ref (gB G), .ref (gB G + 293), .int (nI i)] [] m Q := by
  refine wp_aload_n dL_law_1682 rfl ?_
  refine wp_callV (As := []) (S := []) (b' := (0, 0)) (b := (0, 0)) dL_law_1683 ML_227 (ka0 hF) rfl rfl rfl rfl (Nat.le_of_ble_eq_true rfl) ?_
  exact e1

theorem bL_51b {G : Cx} {d : Nat} {m : Mm} {Q : Option Value → Mm → Prop} {i : Nat} {r : Int32} (hF : Full G m) (hi : i + 7 ≤ gSl G) (hl : gSl G < 4000) 
    (e1 : WPM G (d + 99) (0, 0) μX11_errorCode [.ref (gB G + 293)] m (fun r' m' => WP G (d + 100) (0, 0) μL_law 1690 [.ref (gSa G), .ref (gB G), .ref (gB G + 293), .int (nI i)] (r'.toList ++ [.int r]) m' Q)) :
    WP G (d + 100) (0, 0) μL_law 1686 [.ref (gSa G), .ref (gB G), .ref (gB G + 293), .int (nI i)] [.int r] m Q := by
  refine wp_aload_n dL_law_1686 rfl ?_
  refine wp_callV (As := []) (S := [.int r]) (b' := (0, 0)) (b := (0, 0)) dL_law_1687 ML_230 (ka hF 293 (by decide)) rfl rfl rfl rfl (Nat.le_of_ble_eq_true rfl) ?_
  exact e1

theorem bL_51c {G : Cx} {d : Nat} {m : Mm} {Q : Option Value → Mm → Prop} {i : Nat} {s0 : Int32} {r : Int32} (hF : Full G m) (hi : i + 7 ≤ gSl G) (hl : gSl G < 4000) 
    (e1 : s0 = r → WP G (d + 100) (0, 0) μL_law 18 [.ref (gSa G), .ref (gB G), .ref (gB G + 293), .int (nI (i + 7))] [] m Q)
    (e2 : ¬ s0 = r → Q (some (.int (0 : Int32))) m) :
    WP G (d + 100) (0, 0) μL_law 1690 [.ref (gSa G), .ref (gB G), .ref (gB G + 293), .int (nI i)] [.int r, .int s0] m Q := by
  refine wp_icmp_eq 1790 dL_law_1690 (by decide) (fun q1 => ?_) (fun q2 => ?_)
  · skip
    refine wp_iinc (nI (i + 7)) dL_law_1790 rfl (by decide) (nadd (a := i) (b := 7) (by omega)) rfl ?_
    refine wp_goto 18 dL_law_1793 (by decide) ?_
    refine wp_forget [.ref (gSa G), .ref (gB G), .ref (gB G + 293), .int (nI (i + 7))] ⟨Or.inl rfl, Or.inl rfl, Or.inl rfl, Or.inl rfl, trivial⟩ ?_
    exact e1 q1
  · skip
    refine wp_iconst (0 : Int32) dL_law_1693 (by decide) ?_
    exact wp_zret dL_law_1694 rfl rfl (e2 q2)

theorem bL_52a {G : Cx} {d : Nat} {m : Mm} {Q : Option Value → Mm → Prop} {i : Nat} (hF : Full G m) (hi : i + 7 ≤ gSl G) (hl : gSl G < 4000) 
    (e1 : WPM G (d + 99) (0, 0) μX10_errorPosition [.ref (gB G)] m (fun r' m' => WP G (d + 100) (0, 0) μL_law 1699 [.ref (gSa G), .ref (gB G), .ref (gB G + 293), .int (nI i)] (r'.toList ++ []) m' Q)) :
    WP G (d + 100) (0, 0) μL_law 1695 [.ref (gSa G), .ref (gB G), .ref (gB G + 293), .int (nI i)] [] m Q := by
  refine wp_aload_n dL_law_1695 rfl ?_
  refine wp_callV (As := []) (S := []) (b' := (0, 0)) (b := (0, 0)) dL_law_1696 ML_231 (ka0 hF) rfl rfl rfl rfl (Nat.le_of_ble_eq_true rfl) ?_
  exact e1

theorem bL_52b {G : Cx} {d : Nat} {m : Mm} {Q : Option Value → Mm → Prop} {i : Nat} {r : Int32} (hF : Full G m) (hi : i + 7 ≤ gSl G) (hl : gSl G < 4000) 
    (e1 : WPM G (d + 99) (0, 0) μX11_errorPosition [.ref (gB G + 293)] m (fun r' m' => WP G (d + 100) (0, 0) μL_law 1703 [.ref (gSa G), .ref (gB G), .ref (gB G + 293), .int (nI i)] (r'.toList ++ [.int r]) m' Q)) :
    WP G (d + 100) (0, 0) μL_law 1699 [.ref (gSa G), .ref (gB G), .ref (gB G + 293), .int (nI i)] [.int r] m Q := by
  refine wp_aload_n dL_law_1699 rfl ?_
  refine wp_callV (As := []) (S := [.int r]) (b' := (0, 0)) (b := (0, 0)) dL_law_1700 ML_234 (ka hF 293 (by decide)) rfl rfl rfl rfl (Nat.le_of_ble_eq_true rfl) ?_
  exact e1

theorem bL_52c {G : Cx} {d : Nat} {m : Mm} {Q : Option Value → Mm → Prop} {i : Nat} {s0 : Int32} {r : Int32} (hF : Full G m) (hi : i + 7 ≤ gSl G) (hl : gSl G < 4000) 
    (e1 : s0 = r → WP G (d + 100) (0, 0) μL_law 18 [.ref (gSa G), .ref (gB G), .ref (gB G + 293), .int (nI (i + 7))] [] m Q)
    (e2 : ¬ s0 = r → Q (some (.int (0 : Int32))) m) :
    WP G (d + 100) (0, 0) μL_law 1703 [.ref (gSa G), .ref (gB G), .ref (gB G + 293), .int (nI i)] [.int r, .int s0] m Q := by
  refine wp_icmp_eq 1790 dL_law_1703 (by decide) (fun q1 => ?_) (fun q2 => ?_)
  · skip
    refine wp_iinc (nI (i + 7)) dL_law_1790 rfl (by decide) (nadd (a := i) (b := 7) (by omega)) rfl ?_
    refine wp_goto 18 dL_law_1793 (by decide) ?_
    refine wp_forget [.ref (gSa G), .ref (gB G), .ref (gB G + 293), .int (nI (i + 7))] ⟨Or.inl rfl, Or.inl rfl, Or.inl rfl, Or.inl rfl, trivial⟩ ?_
    exact e1 q1
  · skip
    refine wp_iconst (0 : Int32) dL_law_1706 (by decide) ?_
    exact wp_zret dL_law_1707 rfl rfl (e2 q2)

theorem bL_53a {G : Cx} {d : Nat} {m : Mm} {Q : Option Value → Mm → Prop} {i : Nat} (hF : Full G m) (hi : i + 7 ≤ gSl G) (hl : gSl G < 4000) 
    (e1 : WPM G (d + 99) (0, 0) μX10_ruleCount [.ref (gB G)] m (fun r' m' => WP G (d + 100) (0, 0) μL_law 1712 [.ref (gSa G), .ref (gB G), .ref (gB G + 293), .int (nI i)] (r'.toList ++ []) m' Q)) :
    WP G (d + 100) (0, 0) μL_law 1708 [.ref (gSa G), .ref (gB G), .ref (gB G + 293), .int (nI i)] [] m Q := by
  refine wp_aload_n dL_law_1708 rfl ?_
  refine wp_callV (As := []) (S := []) (b' := (0, 0)) (b := (0, 0)) dL_law_1709 ML_235 (ka0 hF) rfl rfl rfl rfl (Nat.le_of_ble_eq_true rfl) ?_
  exact e1

theorem bL_53b {G : Cx} {d : Nat} {m : Mm} {Q : Option Value → Mm → Prop} {i : Nat} {r : Int32} (hF : Full G m) (hi : i + 7 ≤ gSl G) (hl : gSl G < 4000) 
    (e1 : WPM G (d + 99) (0, 0) μX11_ruleCount [.ref (gB G + 293)] m (fun r' m' => WP G (d + 100) (0, 0) μL_law 1716 [.ref (gSa G), .ref (gB G), .ref (gB G + 293), .int (nI i)] (r'.toList ++ [.int r]) m' Q)) :
    WP G (d + 100) (0, 0) μL_law 1712 [.ref (gSa G), .ref (gB G), .ref (gB G + 293), .int (nI i)] [.int r] m Q := by
  refine wp_aload_n dL_law_1712 rfl ?_
  refine wp_callV (As := []) (S := [.int r]) (b' := (0, 0)) (b := (0, 0)) dL_law_1713 ML_238 (ka hF 293 (by decide)) rfl rfl rfl rfl (Nat.le_of_ble_eq_true rfl) ?_
  exact e1

theorem bL_53c {G : Cx} {d : Nat} {m : Mm} {Q : Option Value → Mm → Prop} {i : Nat} {s0 : Int32} {r : Int32} (hF : Full G m) (hi : i + 7 ≤ gSl G) (hl : gSl G < 4000) 
    (e1 : s0 = r → WP G (d + 100) (0, 0) μL_law 18 [.ref (gSa G), .ref (gB G), .ref (gB G + 293), .int (nI (i + 7))] [] m Q)
    (e2 : ¬ s0 = r → Q (some (.int (0 : Int32))) m) :
    WP G (d + 100) (0, 0) μL_law 1716 [.ref (gSa G), .ref (gB G), .ref (gB G + 293), .int (nI i)] [.int r, .int s0] m Q := by
  refine wp_icmp_eq 1790 dL_law_1716 (by decide) (fun q1 => ?_) (fun q2 => ?_)
  · skip
    refine wp_iinc (nI (i + 7)) dL_law_1790 rfl (by decide) (nadd (a := i) (b := 7) (by omega)) rfl ?_
    refine wp_goto 18 dL_law_1793 (by decide) ?_
    refine wp_forget [.ref (gSa G), .ref (gB G), .ref (gB G + 293), .int (nI (i + 7))] ⟨Or.inl rfl, Or.inl rfl, Or.inl rfl, Or.inl rfl, trivial⟩ ?_
    exact e1 q1
  · skip
    refine wp_iconst (0 : Int32) dL_law_1719 (by decide) ?_
    exact wp_zret dL_law_1720 rfl rfl (e2 q2)

theorem bL_54a {G : Cx} {d : Nat} {m : Mm} {Q : Option Value → Mm → Prop} {i : Nat} (hF : Full G m) (hi : i + 7 ≤ gSl G) (hl : gSl G < 4000) 
    (e1 : WPM G (d + 99) (0, 0) μX10_ruleHolds [.ref (gB G), .int (gSx G (i + 1))] m (fun r' m' => WP G (d + 100) (0, 0) μL_law 1730 [.ref (gSa G), .ref (gB G), .ref (gB G + 293), .int (nI i)] (r'.toList ++ []) m' Q)) :
    WP G (d + 100) (0, 0) μL_law 1721 [.ref (gSa G), .ref (gB G), .ref (gB G + 293), .int (nI i)] [] m Q := by
  refine wp_aload_n dL_law_1721 rfl ?_
  refine wp_aload_n dL_law_1722 rfl ?_
  refine wp_iload_n dL_law_1723 rfl ?_
  refine wp_iconst (1 : Int32) dL_law_1724 (by decide) ?_
  refine wp_iaddv (nI (i + 1)) dL_law_1725 (nadd (a := i) (b := 1) (by omega)) ?_
  refine wp_sld (i + 1) dL_law_1726 rfl (by omega) (by omega) ?_
  refine wp_callV (As := [.int (gSx G (i + 1))]) (S := []) (b' := (0, 0)) (b := (0, 0)) dL_law_1727 ML_239 (ka0 hF) rfl rfl rfl rfl (Nat.le_of_ble_eq_true rfl) ?_
  exact e1

theorem bL_54b {G : Cx} {d : Nat} {m : Mm} {Q : Option Value → Mm → Prop} {i : Nat} {r : Int32} (hF : Full G m) (hi : i + 7 ≤ gSl G) (hl : gSl G < 4000) 
    (e1 : WPM G (d + 99) (0, 0) μX11_ruleHolds [.ref (gB G + 293), .int (gSx G (i + 1))] m (fun r' m' => WP G (d + 100) (0, 0) μL_law 1739 [.ref (gSa G), .ref (gB G), .ref (gB G + 293), .int (nI i)] (r'.toList ++ [.int r]) m' Q)) :
    WP G (d + 100) (0, 0) μL_law 1730 [.ref (gSa G), .ref (gB G), .ref (gB G + 293), .int (nI i)] [.int r] m Q := by
  refine wp_aload_n dL_law_1730 rfl ?_
  refine wp_aload_n dL_law_1731 rfl ?_
  refine wp_iload_n dL_law_1732 rfl ?_
  refine wp_iconst (1 : Int32) dL_law_1733 (by decide) ?_
  refine wp_iaddv (nI (i + 1)) dL_law_1734 (nadd (a := i) (b := 1) (by omega)) ?_
  refine wp_sld (i + 1) dL_law_1735 rfl (by omega) (by omega) ?_
  refine wp_callV (As := [.int (gSx G (i + 1))]) (S := [.int r]) (b' := (0, 0)) (b := (0, 0)) dL_law_1736 ML_242 (ka hF 293 (by decide)) rfl rfl rfl rfl (Nat.le_of_ble_eq_true rfl) ?_
  exact e1

theorem bL_54c {G : Cx} {d : Nat} {m : Mm} {Q : Option Value → Mm → Prop} {i : Nat} {s0 : Int32} {r : Int32} (hF : Full G m) (hi : i + 7 ≤ gSl G) (hl : gSl G < 4000) 
    (e1 : s0 = r → WP G (d + 100) (0, 0) μL_law 18 [.ref (gSa G), .ref (gB G), .ref (gB G + 293), .int (nI (i + 7))] [] m Q)
    (e2 : ¬ s0 = r → Q (some (.int (0 : Int32))) m) :
    WP G (d + 100) (0, 0) μL_law 1739 [.ref (gSa G), .ref (gB G), .ref (gB G + 293), .int (nI i)] [.int r, .int s0] m Q := by
  refine wp_icmp_eq 1790 dL_law_1739 (by decide) (fun q1 => ?_) (fun q2 => ?_)
  · skip
    refine wp_iinc (nI (i + 7)) dL_law_1790 rfl (by decide) (nadd (a := i) (b := 7) (by omega)) rfl ?_
    refine wp_goto 18 dL_law_1793 (by decide) ?_
    refine wp_forget [.ref (gSa G), .ref (gB G), .ref (gB G + 293), .int (nI (i + 7))] ⟨Or.inl rfl, Or.inl rfl, Or.inl rfl, Or.inl rfl, trivial⟩ ?_
    exact e1 q1
  · skip
    refine wp_iconst (0 : Int32) dL_law_1742 (by decide) ?_
    exact wp_zret dL_law_1743 rfl rfl (e2 q2)

theorem bL_55a {G : Cx} {d : Nat} {m : Mm} {Q : Option Value → Mm → Prop} {i : Nat} (hF : Full G m) (hi : i + 7 ≤ gSl G) (hl : gSl G < 4000) 
    (e1 : WPM G (d + 99) (0, 0) μX10_save [.ref (gB G), .int (gSx G (i + 1))] m (fun r' m' => WP G (d + 100) (0, 0) μL_law 1753 [.ref (gSa G), .ref (gB G), .ref (gB G + 293), .int (nI i)] (r'.toList ++ []) m' Q)) :
    WP G (d + 100) (0, 0) μL_law 1744 [.ref (gSa G), .ref (gB G), .ref (gB G + 293), .int (nI i)] [] m Q := by
  refine wp_aload_n dL_law_1744 rfl ?_
  refine wp_aload_n dL_law_1745 rfl ?_
  refine wp_iload_n dL_law_1746 rfl ?_
  refine wp_iconst (1 : Int32) dL_law_1747 (by decide) ?_
  refine wp_iaddv (nI (i + 1)) dL_law_1748 (nadd (a := i) (b := 1) (by omega)) ?_
  refine wp_sld (i + 1) dL_law_1749 rfl (by omega) (by omega) ?_
  refine wp_callV (As := [.int (gSx G (i + 1))]) (S := []) (b' := (0, 0)) (b := (0, 0)) dL_law_1750 ML_243 (ka0 hF) rfl rfl rfl rfl (Nat.le_of_ble_eq_true rfl) ?_
  exact e1

theorem bL_55b {G : Cx} {d : Nat} {m : Mm} {Q : Option Value → Mm → Prop} {i : Nat} {r : Int32} (hF : Full G m) (hi : i + 7 ≤ gSl G) (hl : gSl G < 4000) 
    (e1 : WPM G (d + 99) (0, 0) μX11_save [.ref (gB G + 293), .int (gSx G (i + 1))] m (fun r' m' => WP G (d + 100) (0, 0) μL_law 1762 [.ref (gSa G), .ref (gB G), .ref (gB G + 293), .int (nI i)] (r'.toList ++ [.int r]) m' Q)) :
    WP G (d + 100) (0, 0) μL_law 1753 [.ref (gSa G), .ref (gB G), .ref (gB G + 293), .int (nI i)] [.int r] m Q := by
  refine wp_aload_n dL_law_1753 rfl ?_
  refine wp_aload_n dL_law_1754 rfl ?_
  refine wp_iload_n dL_law_1755 rfl ?_
  refine wp_iconst (1 : Int32) dL_law_1756 (by decide) ?_
  refine wp_iaddv (nI (i + 1)) dL_law_1757 (nadd (a := i) (b := 1) (by omega)) ?_
  refine wp_sld (i + 1) dL_law_1758 rfl (by omega) (by omega) ?_
  refine wp_callV (As := [.int (gSx G (i + 1))]) (S := [.int r]) (b' := (0, 0)) (b := (0, 0)) dL_law_1759 ML_247 (ka hF 293 (by decide)) rfl rfl rfl rfl (Nat.le_of_ble_eq_true rfl) ?_
  exact e1

theorem bL_55c {G : Cx} {d : Nat} {m : Mm} {Q : Option Value → Mm → Prop} {i : Nat} {s0 : Int32} {r : Int32} (hF : Full G m) (hi : i + 7 ≤ gSl G) (hl : gSl G < 4000) 
    (e1 : s0 = r → WP G (d + 100) (0, 0) μL_law 18 [.ref (gSa G), .ref (gB G), .ref (gB G + 293), .int (nI (i + 7))] [] m Q)
    (e2 : ¬ s0 = r → Q (some (.int (0 : Int32))) m) :
    WP G (d + 100) (0, 0) μL_law 1762 [.ref (gSa G), .ref (gB G), .ref (gB G + 293), .int (nI i)] [.int r, .int s0] m Q := by
  refine wp_icmp_eq 1790 dL_law_1762 (by decide) (fun q1 => ?_) (fun q2 => ?_)
  · skip
    refine wp_iinc (nI (i + 7)) dL_law_1790 rfl (by decide) (nadd (a := i) (b := 7) (by omega)) rfl ?_
    refine wp_goto 18 dL_law_1793 (by decide) ?_
    refine wp_forget [.ref (gSa G), .ref (gB G), .ref (gB G + 293), .int (nI (i + 7))] ⟨Or.inl rfl, Or.inl rfl, Or.inl rfl, Or.inl rfl, trivial⟩ ?_
    exact e1 q1
  · skip
    refine wp_iconst (0 : Int32) dL_law_1765 (by decide) ?_
    exact wp_zret dL_law_1766 rfl rfl (e2 q2)

theorem bL_56a {G : Cx} {d : Nat} {m : Mm} {Q : Option Value → Mm → Prop} {i : Nat} (hF : Full G m) (hi : i + 7 ≤ gSl G) (hl : gSl G < 4000) 
    (e1 : WPM G (d + 99) (0, 0) μX10_restore [.ref (gB G), .int (gSx G (i + 1))] m (fun r' m' => WP G (d + 100) (0, 0) μL_law 1776 [.ref (gSa G), .ref (gB G), .ref (gB G + 293), .int (nI i)] (r'.toList ++ []) m' Q)) :
    WP G (d + 100) (0, 0) μL_law 1767 [.ref (gSa G), .ref (gB G), .ref (gB G + 293), .int (nI i)] [] m Q := by
  refine wp_aload_n dL_law_1767 rfl ?_
  refine wp_aload_n dL_law_1768 rfl ?_
  refine wp_iload_n dL_law_1769 rfl ?_
  refine wp_iconst (1 : Int32) dL_law_1770 (by decide) ?_
  refine wp_iaddv (nI (i + 1)) dL_law_1771 (nadd (a := i) (b := 1) (by omega)) ?_
  refine wp_sld (i + 1) dL_law_1772 rfl (by omega) (by omega) ?_
  refine wp_callV (As := [.int (gSx G (i + 1))]) (S := []) (b' := (0, 0)) (b := (0, 0)) dL_law_1773 ML_248 (ka0 hF) rfl rfl rfl rfl (Nat.le_of_ble_eq_true rfl) ?_
  exact e1

theorem bL_56b {G : Cx} {d : Nat} {m : Mm} {Q : Option Value → Mm → Prop} {i : Nat} {r : Int32} (hF : Full G m) (hi : i + 7 ≤ gSl G) (hl : gSl G < 4000) 
    (e1 : WPM G (d + 99) (0, 0) μX11_restore [.ref (gB G + 293), .int (gSx G (i + 1))] m (fun r' m' => WP G (d + 100) (0, 0) μL_law 1785 [.ref (gSa G), .ref (gB G), .ref (gB G + 293), .int (nI i)] (r'.toList ++ [.int r]) m' Q)) :
    WP G (d + 100) (0, 0) μL_law 1776 [.ref (gSa G), .ref (gB G), .ref (gB G + 293), .int (nI i)] [.int r] m Q := by
  refine wp_aload_n dL_law_1776 rfl ?_
  refine wp_aload_n dL_law_1777 rfl ?_
  refine wp_iload_n dL_law_1778 rfl ?_
  refine wp_iconst (1 : Int32) dL_law_1779 (by decide) ?_
  refine wp_iaddv (nI (i + 1)) dL_law_1780 (nadd (a := i) (b := 1) (by omega)) ?_
  refine wp_sld (i + 1) dL_law_1781 rfl (by omega) (by omega) ?_
  refine wp_callV (As := [.int (gSx G (i + 1))]) (S := [.int r]) (b' := (0, 0)) (b := (0, 0)) dL_law_1782 ML_251 (ka hF 293 (by decide)) rfl rfl rfl rfl (Nat.le_of_ble_eq_true rfl) ?_
  exact e1

theorem bL_56c {G : Cx} {d : Nat} {m : Mm} {Q : Option Value → Mm → Prop} {i : Nat} {s0 : Int32} {r : Int32} (hF : Full G m) (hi : i + 7 ≤ gSl G) (hl : gSl G < 4000) 
    (e1 : s0 = r → WP G (d + 100) (0, 0) μL_law 18 [.ref (gSa G), .ref (gB G), .ref (gB G + 293), .int (nI (i + 7))] [] m Q)
    (e2 : ¬ s0 = r → Q (some (.int (0 : Int32))) m) :
    WP G (d + 100) (0, 0) μL_law 1785 [.ref (gSa G), .ref (gB G), .ref (gB G + 293), .int (nI i)] [.int r, .int s0] m Q := by
  refine wp_icmp_eq 1790 dL_law_1785 (by decide) (fun q1 => ?_) (fun q2 => ?_)
  · skip
    refine wp_iinc (nI (i + 7)) dL_law_1790 rfl (by decide) (nadd (a := i) (b := 7) (by omega)) rfl ?_
    refine wp_goto 18 dL_law_1793 (by decide) ?_
    refine wp_forget [.ref (gSa G), .ref (gB G), .ref (gB G + 293), .int (nI (i + 7))] ⟨Or.inl rfl, Or.inl rfl, Or.inl rfl, Or.inl rfl, trivial⟩ ?_
    exact e1 q1
  · skip
    refine wp_iconst (0 : Int32) dL_law_1788 (by decide) ?_
    exact wp_zret dL_law_1789 rfl rfl (e2 q2)
