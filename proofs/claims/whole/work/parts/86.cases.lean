/-! the law: its calls, one by one -/
abbrev lvL (b : Nat) (G : Gl) (i : Nat) : List (Nat × Value) := [(3, .int (nI i)), (2, aR G 86), (1, aR G 0), (0, .ref b)]
section LC
variable {p : Program} {l : Launch} {e : Env} {s : State} {m : MethodId} {below : List Frame} {meth : Method} {c : Code} {b : Nat} {G : Gl} {L : Nat} {xs : Nat → Int32} {i : Nat}
theorem L_arg {pc j : Nat} {n : Int} {st : List Value} {M : Mm} (X : LX p s m meth c b G L xs) (hL : L ≤ 3072) (h0 : decode cL_law pc = .ok (.aload_n 0, 1)) (h1 : decode cL_law (pc + 1) = .ok (.iload_n 3, 1)) (h2 : decode cL_law (pc + 1 + 1) = .ok (.iconst n, 1)) (h3 : decode cL_law (pc + 1 + 1 + 1) = .ok (.iadd, 1)) (h4 : decode cL_law (pc + 1 + 1 + 1 + 1) = .ok (.iaload, 1)) (hv : Int32.ofInt n = nI j) (hij : i + j < L) (k : LW p l e s m below meth c b G 101 101 1976 (pc + 5) (lvL b G i) (.int (xs (i + j)) :: st) M) : LW p l e s m below meth c b G 101 101 1976 pc (lvL b G i) st M := by
  refine L_aload_n 3 X h0 rfl ?_
  refine L_iload_n 0 X h1 rfl ?_
  refine L_iconst X h2 hv ?_
  refine L_iadd X h3 ?_
  exact L_ld X h4 hij (by omega) (nI_add i j) k
theorem L_invi {Z : My} {f q o ci n idx pc : Nat} {a : Int32} {Ma M1 : Nm} {tc : Option (Int32 × Nm)} {C : String} {T : u_T} {nf : Nat} {st st0 : List Value} (X : LX p s m meth c b G L xs) (htc : tc = some (a, M1)) (hd : decode cL_law pc = .ok (.invokevirtual idx, 3)) (hZ : okY Z n) (hR : okR room_1 (zR f q) Z = true) (hlk : Cond.methodLink Y_law.1.cls idx Z.1 ∈ wG) (hin : Cond.instanceMethod Z.1 ∈ wG) (hse : Cond.selects C Z.1 Z.1 ∈ wG) (hk : kcl[ci]? = some (C, T, nf)) (hci : Nat.blt ci 20 = true) (hs : (sh o).1 = ci) (ho1 : o < 101) (vs : List Value) (hn : vs.length = n) (hlen : Nat.ble (lg_sl (aR G o :: vs)).length Z.2.2.1 = true) (hst : st0 = vs.reverse ++ aR G o :: st) (hcat : Nat.ble (st.map fun v => v.category).sum 8 = true) (kc : NJ l G Z (zR f q) eI 0 (lv_args 0 (aR G o :: vs)) [] Ma tc) (k : LW p l e s m below meth c b G 101 101 1976 (pc + 3) (lvL b G i) (.int a :: st) (toM M1)) : LW p l e s m below meth c b G 101 101 1976 pc (lvL b G i) st0 (toM Ma) :=
  L_inv (εc := eI) X htc hd hZ hR hlk hin hse hk hci hs ho1 vs hn hlen hst hcat ⟨rfl, rfl⟩ kc k
theorem L_invl {Z : My} {f q o ci n idx pc : Nat} {a : Int64} {Ma M1 : Nm} {tc : Option (Int64 × Nm)} {C : String} {T : u_T} {nf : Nat} {st st0 : List Value} (X : LX p s m meth c b G L xs) (htc : tc = some (a, M1)) (hd : decode cL_law pc = .ok (.invokevirtual idx, 3)) (hZ : okY Z n) (hR : okR room_1 (zR f q) Z = true) (hlk : Cond.methodLink Y_law.1.cls idx Z.1 ∈ wG) (hin : Cond.instanceMethod Z.1 ∈ wG) (hse : Cond.selects C Z.1 Z.1 ∈ wG) (hk : kcl[ci]? = some (C, T, nf)) (hci : Nat.blt ci 20 = true) (hs : (sh o).1 = ci) (ho1 : o < 101) (vs : List Value) (hn : vs.length = n) (hlen : Nat.ble (lg_sl (aR G o :: vs)).length Z.2.2.1 = true) (hst : st0 = vs.reverse ++ aR G o :: st) (hcat : Nat.ble (st.map fun v => v.category).sum 8 = true) (kc : NJ l G Z (zR f q) eL 0 (lv_args 0 (aR G o :: vs)) [] Ma tc) (k : LW p l e s m below meth c b G 101 101 1976 (pc + 3) (lvL b G i) (.long a :: st) (toM M1)) : LW p l e s m below meth c b G 101 101 1976 pc (lvL b G i) st0 (toM Ma) :=
  L_inv (εc := eL) X htc hd hZ hR hlk hin hse hk hci hs ho1 vs hn hlen hst hcat ⟨rfl, rfl⟩ kc k
theorem law_0 (X : LX p s m meth c b G L xs) (hL : L ≤ 3072) (hi : i + 6 ≤ L) {M : Nm} (hv : Iv M) (K : ∀ M2, Iv M2 → LW p l e s m below meth c b G 101 101 1976 1449 (lvL b G i) [] (toM M2)) : LW p l e s m below meth c b G 101 101 1976 212 (lvL b G i) [] (toM M) := by
  obtain ⟨a, M1, M2, e1, e2, hv2⟩ := b_smudge (xs (i + 1)) (xs (i + 2)) hv
  refine L_aload_n 2 X dL_law_212 rfl ?_
  refine L_arg (j := 1) X hL dL_law_213 dL_law_214 dL_law_215 dL_law_216 dL_law_217 (by decide) (by omega) ?_
  refine L_arg (j := 2) X hL dL_law_218 dL_law_219 dL_law_220 dL_law_221 dL_law_222 (by decide) (by omega) ?_
  refine L_invi (o := 0) (ci := 0) X e1 dL_law_223 ok_X11_smudge rfl wt_253 wt_254 wt_255 rfl rfl rfl (by decide) [.int (xs (i + 1)), .int (xs (i + 2))] rfl rfl rfl rfl (c_P_smudge l G (xs (i + 1)) (xs (i + 2)) M) ?_
  refine L_aload_n 1 X dL_law_226 rfl ?_
  refine L_arg (j := 1) X hL dL_law_227 dL_law_228 dL_law_229 dL_law_230 dL_law_231 (by decide) (by omega) ?_
  refine L_arg (j := 2) X hL dL_law_232 dL_law_233 dL_law_234 dL_law_235 dL_law_236 (by decide) (by omega) ?_
  refine L_invi (o := 86) (ci := 11) X e2 dL_law_237 ok_X12_smudge rfl wt_976 wt_977 wt_978 rfl rfl rfl (by decide) [.int (xs (i + 1)), .int (xs (i + 2))] rfl rfl rfl rfl (c_M_smudge l G (xs (i + 1)) (xs (i + 2)) M1) ?_
  refine L_eqY (tgt := 1449) X dL_law_240 rfl ?_
  exact K M2 hv2
theorem law_1 (X : LX p s m meth c b G L xs) (hL : L ≤ 3072) (hi : i + 6 ≤ L) {M : Nm} (hv : Iv M) (K : ∀ M2, Iv M2 → LW p l e s m below meth c b G 101 101 1976 1449 (lvL b G i) [] (toM M2)) : LW p l e s m below meth c b G 101 101 1976 245 (lvL b G i) [] (toM M) := by
  obtain ⟨a, M1, M2, e1, e2, hv2⟩ := b_cell (xs (i + 1)) (xs (i + 2)) hv
  refine L_aload_n 2 X dL_law_245 rfl ?_
  refine L_arg (j := 1) X hL dL_law_246 dL_law_247 dL_law_248 dL_law_249 dL_law_250 (by decide) (by omega) ?_
  refine L_arg (j := 2) X hL dL_law_251 dL_law_252 dL_law_253 dL_law_254 dL_law_255 (by decide) (by omega) ?_
  refine L_invi (o := 0) (ci := 0) X e1 dL_law_256 ok_X11_cell rfl wt_279 wt_280 wt_281 rfl rfl rfl (by decide) [.int (xs (i + 1)), .int (xs (i + 2))] rfl rfl rfl rfl (c_P_cell l G (xs (i + 1)) (xs (i + 2)) M) ?_
  refine L_aload_n 1 X dL_law_259 rfl ?_
  refine L_arg (j := 1) X hL dL_law_260 dL_law_261 dL_law_262 dL_law_263 dL_law_264 (by decide) (by omega) ?_
  refine L_arg (j := 2) X hL dL_law_265 dL_law_266 dL_law_267 dL_law_268 dL_law_269 (by decide) (by omega) ?_
  refine L_invi (o := 86) (ci := 11) X e2 dL_law_270 ok_X12_cell rfl wt_996 wt_997 wt_998 rfl rfl rfl (by decide) [.int (xs (i + 1)), .int (xs (i + 2))] rfl rfl rfl rfl (c_M_cell l G (xs (i + 1)) (xs (i + 2)) M1) ?_
  refine L_eqY (tgt := 1449) X dL_law_273 rfl ?_
  exact K M2 hv2
theorem law_2 (X : LX p s m meth c b G L xs) (hL : L ≤ 3072) (hi : i + 6 ≤ L) {M : Nm} (hv : Iv M) (K : ∀ M2, Iv M2 → LW p l e s m below meth c b G 101 101 1976 1449 (lvL b G i) [] (toM M2)) : LW p l e s m below meth c b G 101 101 1976 278 (lvL b G i) [] (toM M) := by
  obtain ⟨a, M1, M2, e1, e2, hv2⟩ := b_cells (xs (i + 1)) hv
  refine L_aload_n 2 X dL_law_278 rfl ?_
  refine L_arg (j := 1) X hL dL_law_279 dL_law_280 dL_law_281 dL_law_282 dL_law_283 (by decide) (by omega) ?_
  refine L_invl (o := 0) (ci := 0) X e1 dL_law_284 ok_X11_cells rfl wt_333 wt_334 wt_335 rfl rfl rfl (by decide) [.int (xs (i + 1))] rfl rfl rfl rfl (c_P_cells l G (xs (i + 1)) M) ?_
  refine L_aload_n 1 X dL_law_287 rfl ?_
  refine L_arg (j := 1) X hL dL_law_288 dL_law_289 dL_law_290 dL_law_291 dL_law_292 (by decide) (by omega) ?_
  refine L_invl (o := 86) (ci := 11) X e2 dL_law_293 ok_X12_cells rfl wt_1054 wt_1055 wt_1056 rfl rfl rfl (by decide) [.int (xs (i + 1))] rfl rfl rfl rfl (c_M_cells l G (xs (i + 1)) M1) ?_
  refine L_lcmp X dL_law_296 ?_
  refine L_ifeqY (tgt := 1449) X dL_law_297 rfl (lg0.mpr rfl) ?_
  exact K M2 hv2
theorem law_3 (X : LX p s m meth c b G L xs) (hL : L ≤ 3072) (hi : i + 6 ≤ L) {M : Nm} (hv : Iv M) (K : ∀ M2, Iv M2 → LW p l e s m below meth c b G 101 101 1976 1449 (lvL b G i) [] (toM M2)) : LW p l e s m below meth c b G 101 101 1976 302 (lvL b G i) [] (toM M) := by
  obtain ⟨a, M1, M2, e1, e2, hv2⟩ := b_hand (xs (i + 1)) (xs (i + 2)) hv
  refine L_aload_n 2 X dL_law_302 rfl ?_
  refine L_arg (j := 1) X hL dL_law_303 dL_law_304 dL_law_305 dL_law_306 dL_law_307 (by decide) (by omega) ?_
  refine L_arg (j := 2) X hL dL_law_308 dL_law_309 dL_law_310 dL_law_311 dL_law_312 (by decide) (by omega) ?_
  refine L_invi (o := 0) (ci := 0) X e1 dL_law_313 ok_X11_hand rfl wt_345 wt_346 wt_347 rfl rfl rfl (by decide) [.int (xs (i + 1)), .int (xs (i + 2))] rfl rfl rfl rfl (c_P_hand l G (xs (i + 1)) (xs (i + 2)) M) ?_
  refine L_aload_n 1 X dL_law_316 rfl ?_
  refine L_arg (j := 1) X hL dL_law_317 dL_law_318 dL_law_319 dL_law_320 dL_law_321 (by decide) (by omega) ?_
  refine L_arg (j := 2) X hL dL_law_322 dL_law_323 dL_law_324 dL_law_325 dL_law_326 (by decide) (by omega) ?_
  refine L_invi (o := 86) (ci := 11) X e2 dL_law_327 ok_X12_hand rfl wt_1063 wt_1064 wt_1065 rfl rfl rfl (by decide) [.int (xs (i + 1)), .int (xs (i + 2))] rfl rfl rfl rfl (c_M_hand l G (xs (i + 1)) (xs (i + 2)) M1) ?_
  refine L_eqY (tgt := 1449) X dL_law_330 rfl ?_
  exact K M2 hv2
theorem law_4 (X : LX p s m meth c b G L xs) (hL : L ≤ 3072) (hi : i + 6 ≤ L) {M : Nm} (hv : Iv M) (K : ∀ M2, Iv M2 → LW p l e s m below meth c b G 101 101 1976 1449 (lvL b G i) [] (toM M2)) : LW p l e s m below meth c b G 101 101 1976 335 (lvL b G i) [] (toM M) := by
  obtain ⟨a, M1, M2, e1, e2, hv2⟩ := b_stroke (xs (i + 1)) (xs (i + 2)) (xs (i + 3)) hv
  refine L_aload_n 2 X dL_law_335 rfl ?_
  refine L_arg (j := 1) X hL dL_law_336 dL_law_337 dL_law_338 dL_law_339 dL_law_340 (by decide) (by omega) ?_
  refine L_arg (j := 2) X hL dL_law_341 dL_law_342 dL_law_343 dL_law_344 dL_law_345 (by decide) (by omega) ?_
  refine L_arg (j := 3) X hL dL_law_346 dL_law_347 dL_law_348 dL_law_349 dL_law_350 (by decide) (by omega) ?_
  refine L_invi (o := 0) (ci := 0) X e1 dL_law_351 ok_X11_stroke rfl wt_366 wt_367 wt_368 rfl rfl rfl (by decide) [.int (xs (i + 1)), .int (xs (i + 2)), .int (xs (i + 3))] rfl rfl rfl rfl (c_P_stroke l G (xs (i + 1)) (xs (i + 2)) (xs (i + 3)) M) ?_
  refine L_aload_n 1 X dL_law_354 rfl ?_
  refine L_arg (j := 1) X hL dL_law_355 dL_law_356 dL_law_357 dL_law_358 dL_law_359 (by decide) (by omega) ?_
  refine L_arg (j := 2) X hL dL_law_360 dL_law_361 dL_law_362 dL_law_363 dL_law_364 (by decide) (by omega) ?_
  refine L_arg (j := 3) X hL dL_law_365 dL_law_366 dL_law_367 dL_law_368 dL_law_369 (by decide) (by omega) ?_
  refine L_invi (o := 86) (ci := 11) X e2 dL_law_370 ok_X12_stroke rfl wt_1076 wt_1077 wt_1078 rfl rfl rfl (by decide) [.int (xs (i + 1)), .int (xs (i + 2)), .int (xs (i + 3))] rfl rfl rfl rfl (c_M_stroke l G (xs (i + 1)) (xs (i + 2)) (xs (i + 3)) M1) ?_
  refine L_eqY (tgt := 1449) X dL_law_373 rfl ?_
  exact K M2 hv2
theorem law_5 (X : LX p s m meth c b G L xs) (hL : L ≤ 3072) (hi : i + 6 ≤ L) {M : Nm} (hv : Iv M) (K : ∀ M2, Iv M2 → LW p l e s m below meth c b G 101 101 1976 1449 (lvL b G i) [] (toM M2)) : LW p l e s m below meth c b G 101 101 1976 378 (lvL b G i) [] (toM M) := by
  obtain ⟨a, M1, M2, e1, e2, hv2⟩ := b_of (xs (i + 1)) (xs (i + 2)) hv
  refine L_aload_n 2 X dL_law_378 rfl ?_
  refine L_arg (j := 1) X hL dL_law_379 dL_law_380 dL_law_381 dL_law_382 dL_law_383 (by decide) (by omega) ?_
  refine L_arg (j := 2) X hL dL_law_384 dL_law_385 dL_law_386 dL_law_387 dL_law_388 (by decide) (by omega) ?_
  refine L_invi (o := 0) (ci := 0) X e1 dL_law_389 ok_X11_of rfl wt_432 wt_433 wt_434 rfl rfl rfl (by decide) [.int (xs (i + 1)), .int (xs (i + 2))] rfl rfl rfl rfl (c_P_of l G (xs (i + 1)) (xs (i + 2)) M) ?_
  refine L_aload_n 1 X dL_law_392 rfl ?_
  refine L_arg (j := 1) X hL dL_law_393 dL_law_394 dL_law_395 dL_law_396 dL_law_397 (by decide) (by omega) ?_
  refine L_arg (j := 2) X hL dL_law_398 dL_law_399 dL_law_400 dL_law_401 dL_law_402 (by decide) (by omega) ?_
  refine L_invi (o := 86) (ci := 11) X e2 dL_law_403 ok_X12_of rfl wt_1092 wt_1093 wt_1094 rfl rfl rfl (by decide) [.int (xs (i + 1)), .int (xs (i + 2))] rfl rfl rfl rfl (c_M_of l G (xs (i + 1)) (xs (i + 2)) M1) ?_
  refine L_eqY (tgt := 1449) X dL_law_406 rfl ?_
  exact K M2 hv2
theorem law_6 (X : LX p s m meth c b G L xs) (hL : L ≤ 3072) (hi : i + 6 ≤ L) {M : Nm} (hv : Iv M) (K : ∀ M2, Iv M2 → LW p l e s m below meth c b G 101 101 1976 1449 (lvL b G i) [] (toM M2)) : LW p l e s m below meth c b G 101 101 1976 411 (lvL b G i) [] (toM M) := by
  obtain ⟨a, M1, M2, e1, e2, hv2⟩ := b_told (xs (i + 1)) (xs (i + 2)) (xs (i + 3)) hv
  refine L_aload_n 2 X dL_law_411 rfl ?_
  refine L_arg (j := 1) X hL dL_law_412 dL_law_413 dL_law_414 dL_law_415 dL_law_416 (by decide) (by omega) ?_
  refine L_arg (j := 2) X hL dL_law_417 dL_law_418 dL_law_419 dL_law_420 dL_law_421 (by decide) (by omega) ?_
  refine L_arg (j := 3) X hL dL_law_422 dL_law_423 dL_law_424 dL_law_425 dL_law_426 (by decide) (by omega) ?_
  refine L_invi (o := 0) (ci := 0) X e1 dL_law_427 ok_X11_told rfl wt_478 wt_479 wt_480 rfl rfl rfl (by decide) [.int (xs (i + 1)), .int (xs (i + 2)), .int (xs (i + 3))] rfl rfl rfl rfl (c_P_told l G (xs (i + 1)) (xs (i + 2)) (xs (i + 3)) M) ?_
  refine L_aload_n 1 X dL_law_430 rfl ?_
  refine L_arg (j := 1) X hL dL_law_431 dL_law_432 dL_law_433 dL_law_434 dL_law_435 (by decide) (by omega) ?_
  refine L_arg (j := 2) X hL dL_law_436 dL_law_437 dL_law_438 dL_law_439 dL_law_440 (by decide) (by omega) ?_
  refine L_arg (j := 3) X hL dL_law_441 dL_law_442 dL_law_443 dL_law_444 dL_law_445 (by decide) (by omega) ?_
  refine L_invi (o := 86) (ci := 11) X e2 dL_law_446 ok_X12_told rfl wt_1108 wt_1109 wt_1110 rfl rfl rfl (by decide) [.int (xs (i + 1)), .int (xs (i + 2)), .int (xs (i + 3))] rfl rfl rfl rfl (c_M_told l G (xs (i + 1)) (xs (i + 2)) (xs (i + 3)) M1) ?_
  refine L_eqY (tgt := 1449) X dL_law_449 rfl ?_
  exact K M2 hv2
theorem law_7 (X : LX p s m meth c b G L xs) (hL : L ≤ 3072) (hi : i + 6 ≤ L) {M : Nm} (hv : Iv M) (K : ∀ M2, Iv M2 → LW p l e s m below meth c b G 101 101 1976 1449 (lvL b G i) [] (toM M2)) : LW p l e s m below meth c b G 101 101 1976 454 (lvL b G i) [] (toM M) := by
  obtain ⟨a, M1, M2, e1, e2, hv2⟩ := b_set (xs (i + 1)) (xs (i + 2)) (xs (i + 3)) hv
  refine L_aload_n 2 X dL_law_454 rfl ?_
  refine L_arg (j := 1) X hL dL_law_455 dL_law_456 dL_law_457 dL_law_458 dL_law_459 (by decide) (by omega) ?_
  refine L_arg (j := 2) X hL dL_law_460 dL_law_461 dL_law_462 dL_law_463 dL_law_464 (by decide) (by omega) ?_
  refine L_arg (j := 3) X hL dL_law_465 dL_law_466 dL_law_467 dL_law_468 dL_law_469 (by decide) (by omega) ?_
  refine L_invi (o := 0) (ci := 0) X e1 dL_law_470 ok_X11_set rfl wt_488 wt_489 wt_490 rfl rfl rfl (by decide) [.int (xs (i + 1)), .int (xs (i + 2)), .int (xs (i + 3))] rfl rfl rfl rfl (c_P_set l G (xs (i + 1)) (xs (i + 2)) (xs (i + 3)) M) ?_
  refine L_aload_n 1 X dL_law_473 rfl ?_
  refine L_arg (j := 1) X hL dL_law_474 dL_law_475 dL_law_476 dL_law_477 dL_law_478 (by decide) (by omega) ?_
  refine L_arg (j := 2) X hL dL_law_479 dL_law_480 dL_law_481 dL_law_482 dL_law_483 (by decide) (by omega) ?_
  refine L_arg (j := 3) X hL dL_law_484 dL_law_485 dL_law_486 dL_law_487 dL_law_488 (by decide) (by omega) ?_
  refine L_invi (o := 86) (ci := 11) X e2 dL_law_489 ok_X12_set rfl wt_1116 wt_1117 wt_1118 rfl rfl rfl (by decide) [.int (xs (i + 1)), .int (xs (i + 2)), .int (xs (i + 3))] rfl rfl rfl rfl (c_M_set l G (xs (i + 1)) (xs (i + 2)) (xs (i + 3)) M1) ?_
  refine L_eqY (tgt := 1449) X dL_law_492 rfl ?_
  exact K M2 hv2
theorem law_8 (X : LX p s m meth c b G L xs) (hL : L ≤ 3072) (hi : i + 6 ≤ L) {M : Nm} (hv : Iv M) (K : ∀ M2, Iv M2 → LW p l e s m below meth c b G 101 101 1976 1449 (lvL b G i) [] (toM M2)) : LW p l e s m below meth c b G 101 101 1976 497 (lvL b G i) [] (toM M) := by
  obtain ⟨a, M1, M2, e1, e2, hv2⟩ := b_alter (xs (i + 1)) (xs (i + 2)) (xs (i + 3)) (xs (i + 4)) hv
  refine L_aload_n 2 X dL_law_497 rfl ?_
  refine L_arg (j := 1) X hL dL_law_498 dL_law_499 dL_law_500 dL_law_501 dL_law_502 (by decide) (by omega) ?_
  refine L_arg (j := 2) X hL dL_law_503 dL_law_504 dL_law_505 dL_law_506 dL_law_507 (by decide) (by omega) ?_
  refine L_arg (j := 3) X hL dL_law_508 dL_law_509 dL_law_510 dL_law_511 dL_law_512 (by decide) (by omega) ?_
  refine L_arg (j := 4) X hL dL_law_513 dL_law_514 dL_law_515 dL_law_516 dL_law_517 (by decide) (by omega) ?_
  refine L_invi (o := 0) (ci := 0) X e1 dL_law_518 ok_X11_alter rfl wt_500 wt_501 wt_502 rfl rfl rfl (by decide) [.int (xs (i + 1)), .int (xs (i + 2)), .int (xs (i + 3)), .int (xs (i + 4))] rfl rfl rfl rfl (c_P_alter l G (xs (i + 1)) (xs (i + 2)) (xs (i + 3)) (xs (i + 4)) M) ?_
  refine L_aload_n 1 X dL_law_521 rfl ?_
  refine L_arg (j := 1) X hL dL_law_522 dL_law_523 dL_law_524 dL_law_525 dL_law_526 (by decide) (by omega) ?_
  refine L_arg (j := 2) X hL dL_law_527 dL_law_528 dL_law_529 dL_law_530 dL_law_531 (by decide) (by omega) ?_
  refine L_arg (j := 3) X hL dL_law_532 dL_law_533 dL_law_534 dL_law_535 dL_law_536 (by decide) (by omega) ?_
  refine L_arg (j := 4) X hL dL_law_537 dL_law_538 dL_law_539 dL_law_540 dL_law_541 (by decide) (by omega) ?_
  refine L_invi (o := 86) (ci := 11) X e2 dL_law_542 ok_X12_alter rfl wt_1121 wt_1122 wt_1123 rfl rfl rfl (by decide) [.int (xs (i + 1)), .int (xs (i + 2)), .int (xs (i + 3)), .int (xs (i + 4))] rfl rfl rfl rfl (c_M_alter l G (xs (i + 1)) (xs (i + 2)) (xs (i + 3)) (xs (i + 4)) M1) ?_
  refine L_eqY (tgt := 1449) X dL_law_545 rfl ?_
  exact K M2 hv2
theorem law_9 (X : LX p s m meth c b G L xs) (hL : L ≤ 3072) (hi : i + 6 ≤ L) {M : Nm} (hv : Iv M) (K : ∀ M2, Iv M2 → LW p l e s m below meth c b G 101 101 1976 1449 (lvL b G i) [] (toM M2)) : LW p l e s m below meth c b G 101 101 1976 550 (lvL b G i) [] (toM M) := by
  obtain ⟨a, M1, M2, e1, e2, hv2⟩ := b_cut (xs (i + 1)) (xs (i + 2)) hv
  refine L_aload_n 2 X dL_law_550 rfl ?_
  refine L_arg (j := 1) X hL dL_law_551 dL_law_552 dL_law_553 dL_law_554 dL_law_555 (by decide) (by omega) ?_
  refine L_arg (j := 2) X hL dL_law_556 dL_law_557 dL_law_558 dL_law_559 dL_law_560 (by decide) (by omega) ?_
  refine L_invi (o := 0) (ci := 0) X e1 dL_law_561 ok_X11_cut rfl wt_504 wt_505 wt_506 rfl rfl rfl (by decide) [.int (xs (i + 1)), .int (xs (i + 2))] rfl rfl rfl rfl (c_P_cut l G (xs (i + 1)) (xs (i + 2)) M) ?_
  refine L_aload_n 1 X dL_law_564 rfl ?_
  refine L_arg (j := 1) X hL dL_law_565 dL_law_566 dL_law_567 dL_law_568 dL_law_569 (by decide) (by omega) ?_
  refine L_arg (j := 2) X hL dL_law_570 dL_law_571 dL_law_572 dL_law_573 dL_law_574 (by decide) (by omega) ?_
  refine L_invi (o := 86) (ci := 11) X e2 dL_law_575 ok_X12_cut rfl wt_1125 wt_1126 wt_1127 rfl rfl rfl (by decide) [.int (xs (i + 1)), .int (xs (i + 2))] rfl rfl rfl rfl (c_M_cut l G (xs (i + 1)) (xs (i + 2)) M1) ?_
  refine L_eqY (tgt := 1449) X dL_law_578 rfl ?_
  exact K M2 hv2
theorem law_10 (X : LX p s m meth c b G L xs) (hL : L ≤ 3072) (hi : i + 6 ≤ L) {M : Nm} (hv : Iv M) (K : ∀ M2, Iv M2 → LW p l e s m below meth c b G 101 101 1976 1449 (lvL b G i) [] (toM M2)) : LW p l e s m below meth c b G 101 101 1976 583 (lvL b G i) [] (toM M) := by
  obtain ⟨a, M1, M2, e1, e2, hv2⟩ := b_turn (xs (i + 1)) (xs (i + 2)) hv
  refine L_aload_n 2 X dL_law_583 rfl ?_
  refine L_arg (j := 1) X hL dL_law_584 dL_law_585 dL_law_586 dL_law_587 dL_law_588 (by decide) (by omega) ?_
  refine L_arg (j := 2) X hL dL_law_589 dL_law_590 dL_law_591 dL_law_592 dL_law_593 (by decide) (by omega) ?_
  refine L_invi (o := 0) (ci := 0) X e1 dL_law_594 ok_X11_turn rfl wt_508 wt_509 wt_510 rfl rfl rfl (by decide) [.int (xs (i + 1)), .int (xs (i + 2))] rfl rfl rfl rfl (c_P_turn l G (xs (i + 1)) (xs (i + 2)) M) ?_
  refine L_aload_n 1 X dL_law_597 rfl ?_
  refine L_arg (j := 1) X hL dL_law_598 dL_law_599 dL_law_600 dL_law_601 dL_law_602 (by decide) (by omega) ?_
  refine L_arg (j := 2) X hL dL_law_603 dL_law_604 dL_law_605 dL_law_606 dL_law_607 (by decide) (by omega) ?_
  refine L_invi (o := 86) (ci := 11) X e2 dL_law_608 ok_X12_turn rfl wt_1129 wt_1130 wt_1131 rfl rfl rfl (by decide) [.int (xs (i + 1)), .int (xs (i + 2))] rfl rfl rfl rfl (c_M_turn l G (xs (i + 1)) (xs (i + 2)) M1) ?_
  refine L_eqY (tgt := 1449) X dL_law_611 rfl ?_
  exact K M2 hv2
theorem law_11 (X : LX p s m meth c b G L xs) (hL : L ≤ 3072) (hi : i + 6 ≤ L) {M : Nm} (hv : Iv M) (K : ∀ M2, Iv M2 → LW p l e s m below meth c b G 101 101 1976 1449 (lvL b G i) [] (toM M2)) : LW p l e s m below meth c b G 101 101 1976 616 (lvL b G i) [] (toM M) := by
  obtain ⟨a, M1, M2, e1, e2, hv2⟩ := b_as (xs (i + 1)) (xs (i + 2)) hv
  refine L_aload_n 2 X dL_law_616 rfl ?_
  refine L_arg (j := 1) X hL dL_law_617 dL_law_618 dL_law_619 dL_law_620 dL_law_621 (by decide) (by omega) ?_
  refine L_arg (j := 2) X hL dL_law_622 dL_law_623 dL_law_624 dL_law_625 dL_law_626 (by decide) (by omega) ?_
  refine L_invi (o := 0) (ci := 0) X e1 dL_law_627 ok_X11_as rfl wt_516 wt_517 wt_518 rfl rfl rfl (by decide) [.int (xs (i + 1)), .int (xs (i + 2))] rfl rfl rfl rfl (c_P_as l G (xs (i + 1)) (xs (i + 2)) M) ?_
  refine L_aload_n 1 X dL_law_630 rfl ?_
  refine L_arg (j := 1) X hL dL_law_631 dL_law_632 dL_law_633 dL_law_634 dL_law_635 (by decide) (by omega) ?_
  refine L_arg (j := 2) X hL dL_law_636 dL_law_637 dL_law_638 dL_law_639 dL_law_640 (by decide) (by omega) ?_
  refine L_invi (o := 86) (ci := 11) X e2 dL_law_641 ok_X12_as rfl wt_1133 wt_1134 wt_1135 rfl rfl rfl (by decide) [.int (xs (i + 1)), .int (xs (i + 2))] rfl rfl rfl rfl (c_M_as l G (xs (i + 1)) (xs (i + 2)) M1) ?_
  refine L_eqY (tgt := 1449) X dL_law_644 rfl ?_
  exact K M2 hv2
theorem law_12 (X : LX p s m meth c b G L xs) (hL : L ≤ 3072) (hi : i + 6 ≤ L) {M : Nm} (hv : Iv M) (K : ∀ M2, Iv M2 → LW p l e s m below meth c b G 101 101 1976 1449 (lvL b G i) [] (toM M2)) : LW p l e s m below meth c b G 101 101 1976 649 (lvL b G i) [] (toM M) := by
  obtain ⟨a, M1, M2, e1, e2, hv2⟩ := b_line (xs (i + 1)) hv
  refine L_aload_n 2 X dL_law_649 rfl ?_
  refine L_arg (j := 1) X hL dL_law_650 dL_law_651 dL_law_652 dL_law_653 dL_law_654 (by decide) (by omega) ?_
  refine L_invl (o := 0) (ci := 0) X e1 dL_law_655 ok_X11_line rfl wt_546 wt_547 wt_548 rfl rfl rfl (by decide) [.int (xs (i + 1))] rfl rfl rfl rfl (c_P_line l G (xs (i + 1)) M) ?_
  refine L_aload_n 1 X dL_law_658 rfl ?_
  refine L_arg (j := 1) X hL dL_law_659 dL_law_660 dL_law_661 dL_law_662 dL_law_663 (by decide) (by omega) ?_
  refine L_invl (o := 86) (ci := 11) X e2 dL_law_664 ok_X12_line rfl wt_1141 wt_1142 wt_1143 rfl rfl rfl (by decide) [.int (xs (i + 1))] rfl rfl rfl rfl (c_M_line l G (xs (i + 1)) M1) ?_
  refine L_lcmp X dL_law_667 ?_
  refine L_ifeqY (tgt := 1449) X dL_law_668 rfl (lg0.mpr rfl) ?_
  exact K M2 hv2
theorem law_13 (X : LX p s m meth c b G L xs) (hL : L ≤ 3072) (hi : i + 6 ≤ L) {M : Nm} (hv : Iv M) (K : ∀ M2, Iv M2 → LW p l e s m below meth c b G 101 101 1976 1449 (lvL b G i) [] (toM M2)) : LW p l e s m below meth c b G 101 101 1976 673 (lvL b G i) [] (toM M) := by
  obtain ⟨a, M1, M2, e1, e2, hv2⟩ := b_inside (xs (i + 1)) hv
  refine L_aload_n 2 X dL_law_673 rfl ?_
  refine L_arg (j := 1) X hL dL_law_674 dL_law_675 dL_law_676 dL_law_677 dL_law_678 (by decide) (by omega) ?_
  refine L_invl (o := 0) (ci := 0) X e1 dL_law_679 ok_X11_inside rfl wt_551 wt_552 wt_553 rfl rfl rfl (by decide) [.int (xs (i + 1))] rfl rfl rfl rfl (c_P_inside l G (xs (i + 1)) M) ?_
  refine L_aload_n 1 X dL_law_682 rfl ?_
  refine L_arg (j := 1) X hL dL_law_683 dL_law_684 dL_law_685 dL_law_686 dL_law_687 (by decide) (by omega) ?_
  refine L_invl (o := 86) (ci := 11) X e2 dL_law_688 ok_X12_inside rfl wt_1145 wt_1146 wt_1147 rfl rfl rfl (by decide) [.int (xs (i + 1))] rfl rfl rfl rfl (c_M_inside l G (xs (i + 1)) M1) ?_
  refine L_lcmp X dL_law_691 ?_
  refine L_ifeqY (tgt := 1449) X dL_law_692 rfl (lg0.mpr rfl) ?_
  exact K M2 hv2
theorem law_14 (X : LX p s m meth c b G L xs) (hL : L ≤ 3072) (hi : i + 6 ≤ L) {M : Nm} (hv : Iv M) (K : ∀ M2, Iv M2 → LW p l e s m below meth c b G 101 101 1976 1449 (lvL b G i) [] (toM M2)) : LW p l e s m below meth c b G 101 101 1976 697 (lvL b G i) [] (toM M) := by
  obtain ⟨a, M1, M2, e1, e2, hv2⟩ := b_years (xs (i + 1)) hv
  refine L_aload_n 2 X dL_law_697 rfl ?_
  refine L_arg (j := 1) X hL dL_law_698 dL_law_699 dL_law_700 dL_law_701 dL_law_702 (by decide) (by omega) ?_
  refine L_invi (o := 0) (ci := 0) X e1 dL_law_703 ok_X11_years rfl wt_556 wt_557 wt_558 rfl rfl rfl (by decide) [.int (xs (i + 1))] rfl rfl rfl rfl (c_P_years l G (xs (i + 1)) M) ?_
  refine L_aload_n 1 X dL_law_706 rfl ?_
  refine L_arg (j := 1) X hL dL_law_707 dL_law_708 dL_law_709 dL_law_710 dL_law_711 (by decide) (by omega) ?_
  refine L_invi (o := 86) (ci := 11) X e2 dL_law_712 ok_X12_years rfl wt_1149 wt_1150 wt_1151 rfl rfl rfl (by decide) [.int (xs (i + 1))] rfl rfl rfl rfl (c_M_years l G (xs (i + 1)) M1) ?_
  refine L_eqY (tgt := 1449) X dL_law_715 rfl ?_
  exact K M2 hv2
theorem law_15 (X : LX p s m meth c b G L xs) (hL : L ≤ 3072) (hi : i + 6 ≤ L) {M : Nm} (hv : Iv M) (K : ∀ M2, Iv M2 → LW p l e s m below meth c b G 101 101 1976 1449 (lvL b G i) [] (toM M2)) : LW p l e s m below meth c b G 101 101 1976 720 (lvL b G i) [] (toM M) := by
  obtain ⟨a, M1, M2, e1, e2, hv2⟩ := b_now (xs (i + 1)) hv
  refine L_aload_n 2 X dL_law_720 rfl ?_
  refine L_arg (j := 1) X hL dL_law_721 dL_law_722 dL_law_723 dL_law_724 dL_law_725 (by decide) (by omega) ?_
  refine L_invi (o := 0) (ci := 0) X e1 dL_law_726 ok_X11_now rfl wt_583 wt_584 wt_585 rfl rfl rfl (by decide) [.int (xs (i + 1))] rfl rfl rfl rfl (c_P_now l G (xs (i + 1)) M) ?_
  refine L_aload_n 1 X dL_law_729 rfl ?_
  refine L_arg (j := 1) X hL dL_law_730 dL_law_731 dL_law_732 dL_law_733 dL_law_734 (by decide) (by omega) ?_
  refine L_invi (o := 86) (ci := 11) X e2 dL_law_735 ok_X12_now rfl wt_1168 wt_1169 wt_1170 rfl rfl rfl (by decide) [.int (xs (i + 1))] rfl rfl rfl rfl (c_M_now l G (xs (i + 1)) M1) ?_
  refine L_eqY (tgt := 1449) X dL_law_738 rfl ?_
  exact K M2 hv2
theorem law_16 (X : LX p s m meth c b G L xs) (hL : L ≤ 3072) (hi : i + 6 ≤ L) {M : Nm} (hv : Iv M) (K : ∀ M2, Iv M2 → LW p l e s m below meth c b G 101 101 1976 1449 (lvL b G i) [] (toM M2)) : LW p l e s m below meth c b G 101 101 1976 743 (lvL b G i) [] (toM M) := by
  obtain ⟨a, M1, M2, e1, e2, hv2⟩ := b_on (xs (i + 1)) (xs (i + 2)) (xs (i + 3)) hv
  refine L_aload_n 2 X dL_law_743 rfl ?_
  refine L_arg (j := 1) X hL dL_law_744 dL_law_745 dL_law_746 dL_law_747 dL_law_748 (by decide) (by omega) ?_
  refine L_arg (j := 2) X hL dL_law_749 dL_law_750 dL_law_751 dL_law_752 dL_law_753 (by decide) (by omega) ?_
  refine L_arg (j := 3) X hL dL_law_754 dL_law_755 dL_law_756 dL_law_757 dL_law_758 (by decide) (by omega) ?_
  refine L_invi (o := 0) (ci := 0) X e1 dL_law_759 ok_X11_on rfl wt_596 wt_597 wt_598 rfl rfl rfl (by decide) [.int (xs (i + 1)), .int (xs (i + 2)), .int (xs (i + 3))] rfl rfl rfl rfl (c_P_on l G (xs (i + 1)) (xs (i + 2)) (xs (i + 3)) M) ?_
  refine L_aload_n 1 X dL_law_762 rfl ?_
  refine L_arg (j := 1) X hL dL_law_763 dL_law_764 dL_law_765 dL_law_766 dL_law_767 (by decide) (by omega) ?_
  refine L_arg (j := 2) X hL dL_law_768 dL_law_769 dL_law_770 dL_law_771 dL_law_772 (by decide) (by omega) ?_
  refine L_arg (j := 3) X hL dL_law_773 dL_law_774 dL_law_775 dL_law_776 dL_law_777 (by decide) (by omega) ?_
  refine L_invi (o := 86) (ci := 11) X e2 dL_law_778 ok_X12_on rfl wt_1176 wt_1177 wt_1178 rfl rfl rfl (by decide) [.int (xs (i + 1)), .int (xs (i + 2)), .int (xs (i + 3))] rfl rfl rfl rfl (c_M_on l G (xs (i + 1)) (xs (i + 2)) (xs (i + 3)) M1) ?_
  refine L_eqY (tgt := 1449) X dL_law_781 rfl ?_
  exact K M2 hv2
theorem law_17 (X : LX p s m meth c b G L xs) (hL : L ≤ 3072) (hi : i + 6 ≤ L) {M : Nm} (hv : Iv M) (K : ∀ M2, Iv M2 → LW p l e s m below meth c b G 101 101 1976 1449 (lvL b G i) [] (toM M2)) : LW p l e s m below meth c b G 101 101 1976 786 (lvL b G i) [] (toM M) := by
  obtain ⟨a, M1, M2, e1, e2, hv2⟩ := b_dry (xs (i + 1)) hv
  refine L_aload_n 2 X dL_law_786 rfl ?_
  refine L_arg (j := 1) X hL dL_law_787 dL_law_788 dL_law_789 dL_law_790 dL_law_791 (by decide) (by omega) ?_
  refine L_invi (o := 0) (ci := 0) X e1 dL_law_792 ok_X11_dry rfl wt_618 wt_619 wt_620 rfl rfl rfl (by decide) [.int (xs (i + 1))] rfl rfl rfl rfl (c_P_dry l G (xs (i + 1)) M) ?_
  refine L_aload_n 1 X dL_law_795 rfl ?_
  refine L_arg (j := 1) X hL dL_law_796 dL_law_797 dL_law_798 dL_law_799 dL_law_800 (by decide) (by omega) ?_
  refine L_invi (o := 86) (ci := 11) X e2 dL_law_801 ok_X12_dry rfl wt_1192 wt_1193 wt_1194 rfl rfl rfl (by decide) [.int (xs (i + 1))] rfl rfl rfl rfl (c_M_dry l G (xs (i + 1)) M1) ?_
  refine L_eqY (tgt := 1449) X dL_law_804 rfl ?_
  exact K M2 hv2
theorem law_18 (X : LX p s m meth c b G L xs) (hL : L ≤ 3072) (hi : i + 6 ≤ L) {M : Nm} (hv : Iv M) (K : ∀ M2, Iv M2 → LW p l e s m below meth c b G 101 101 1976 1449 (lvL b G i) [] (toM M2)) : LW p l e s m below meth c b G 101 101 1976 809 (lvL b G i) [] (toM M) := by
  obtain ⟨a, M1, M2, e1, e2, hv2⟩ := b_rich (xs (i + 1)) hv
  refine L_aload_n 2 X dL_law_809 rfl ?_
  refine L_arg (j := 1) X hL dL_law_810 dL_law_811 dL_law_812 dL_law_813 dL_law_814 (by decide) (by omega) ?_
  refine L_invi (o := 0) (ci := 0) X e1 dL_law_815 ok_X11_rich rfl wt_624 wt_625 wt_626 rfl rfl rfl (by decide) [.int (xs (i + 1))] rfl rfl rfl rfl (c_P_rich l G (xs (i + 1)) M) ?_
  refine L_aload_n 1 X dL_law_818 rfl ?_
  refine L_arg (j := 1) X hL dL_law_819 dL_law_820 dL_law_821 dL_law_822 dL_law_823 (by decide) (by omega) ?_
  refine L_invi (o := 86) (ci := 11) X e2 dL_law_824 ok_X12_rich rfl wt_1201 wt_1202 wt_1203 rfl rfl rfl (by decide) [.int (xs (i + 1))] rfl rfl rfl rfl (c_M_rich l G (xs (i + 1)) M1) ?_
  refine L_eqY (tgt := 1449) X dL_law_827 rfl ?_
  exact K M2 hv2
theorem law_19 (X : LX p s m meth c b G L xs) (hL : L ≤ 3072) (hi : i + 6 ≤ L) {M : Nm} (hv : Iv M) (K : ∀ M2, Iv M2 → LW p l e s m below meth c b G 101 101 1976 1449 (lvL b G i) [] (toM M2)) : LW p l e s m below meth c b G 101 101 1976 832 (lvL b G i) [] (toM M) := by
  obtain ⟨a, M1, M2, e1, e2, hv2⟩ := b_rain (xs (i + 1)) hv
  refine L_aload_n 2 X dL_law_832 rfl ?_
  refine L_arg (j := 1) X hL dL_law_833 dL_law_834 dL_law_835 dL_law_836 dL_law_837 (by decide) (by omega) ?_
  refine L_invi (o := 0) (ci := 0) X e1 dL_law_838 ok_X11_rain rfl wt_632 wt_633 wt_634 rfl rfl rfl (by decide) [.int (xs (i + 1))] rfl rfl rfl rfl (c_P_rain l G (xs (i + 1)) M) ?_
  refine L_aload_n 1 X dL_law_841 rfl ?_
  refine L_arg (j := 1) X hL dL_law_842 dL_law_843 dL_law_844 dL_law_845 dL_law_846 (by decide) (by omega) ?_
  refine L_invi (o := 86) (ci := 11) X e2 dL_law_847 ok_X12_rain rfl wt_1209 wt_1210 wt_1211 rfl rfl rfl (by decide) [.int (xs (i + 1))] rfl rfl rfl rfl (c_M_rain l G (xs (i + 1)) M1) ?_
  refine L_eqY (tgt := 1449) X dL_law_850 rfl ?_
  exact K M2 hv2
theorem law_20 (X : LX p s m meth c b G L xs) (hL : L ≤ 3072) (hi : i + 6 ≤ L) {M : Nm} (hv : Iv M) (K : ∀ M2, Iv M2 → LW p l e s m below meth c b G 101 101 1976 1449 (lvL b G i) [] (toM M2)) : LW p l e s m below meth c b G 101 101 1976 855 (lvL b G i) [] (toM M) := by
  obtain ⟨a, M1, M2, e1, e2, hv2⟩ := b_longer (xs (i + 1)) hv
  refine L_aload_n 2 X dL_law_855 rfl ?_
  refine L_arg (j := 1) X hL dL_law_856 dL_law_857 dL_law_858 dL_law_859 dL_law_860 (by decide) (by omega) ?_
  refine L_invi (o := 0) (ci := 0) X e1 dL_law_861 ok_X11_longer rfl wt_639 wt_640 wt_641 rfl rfl rfl (by decide) [.int (xs (i + 1))] rfl rfl rfl rfl (c_P_longer l G (xs (i + 1)) M) ?_
  refine L_aload_n 1 X dL_law_864 rfl ?_
  refine L_arg (j := 1) X hL dL_law_865 dL_law_866 dL_law_867 dL_law_868 dL_law_869 (by decide) (by omega) ?_
  refine L_invi (o := 86) (ci := 11) X e2 dL_law_870 ok_X12_longer rfl wt_1217 wt_1218 wt_1219 rfl rfl rfl (by decide) [.int (xs (i + 1))] rfl rfl rfl rfl (c_M_longer l G (xs (i + 1)) M1) ?_
  refine L_eqY (tgt := 1449) X dL_law_873 rfl ?_
  exact K M2 hv2
theorem law_21 (X : LX p s m meth c b G L xs) (hL : L ≤ 3072) (hi : i + 6 ≤ L) {M : Nm} (hv : Iv M) (K : ∀ M2, Iv M2 → LW p l e s m below meth c b G 101 101 1976 1449 (lvL b G i) [] (toM M2)) : LW p l e s m below meth c b G 101 101 1976 878 (lvL b G i) [] (toM M) := by
  obtain ⟨a, M1, M2, e1, e2, hv2⟩ := b_begin (xs (i + 1)) hv
  refine L_aload_n 2 X dL_law_878 rfl ?_
  refine L_arg (j := 1) X hL dL_law_879 dL_law_880 dL_law_881 dL_law_882 dL_law_883 (by decide) (by omega) ?_
  refine L_invi (o := 0) (ci := 0) X e1 dL_law_884 ok_X11_begin rfl wt_649 wt_650 wt_651 rfl rfl rfl (by decide) [.int (xs (i + 1))] rfl rfl rfl rfl (c_P_begin l G (xs (i + 1)) M) ?_
  refine L_aload_n 1 X dL_law_887 rfl ?_
  refine L_arg (j := 1) X hL dL_law_888 dL_law_889 dL_law_890 dL_law_891 dL_law_892 (by decide) (by omega) ?_
  refine L_invi (o := 86) (ci := 11) X e2 dL_law_893 ok_X12_begin rfl wt_1221 wt_1222 wt_1223 rfl rfl rfl (by decide) [.int (xs (i + 1))] rfl rfl rfl rfl (c_M_begin l G (xs (i + 1)) M1) ?_
  refine L_eqY (tgt := 1449) X dL_law_896 rfl ?_
  exact K M2 hv2
theorem law_22 (X : LX p s m meth c b G L xs) (hL : L ≤ 3072) (hi : i + 6 ≤ L) {M : Nm} (hv : Iv M) (K : ∀ M2, Iv M2 → LW p l e s m below meth c b G 101 101 1976 1449 (lvL b G i) [] (toM M2)) : LW p l e s m below meth c b G 101 101 1976 901 (lvL b G i) [] (toM M) := by
  obtain ⟨a, M1, M2, e1, e2, hv2⟩ := b_kind (xs (i + 1)) hv
  refine L_aload_n 2 X dL_law_901 rfl ?_
  refine L_arg (j := 1) X hL dL_law_902 dL_law_903 dL_law_904 dL_law_905 dL_law_906 (by decide) (by omega) ?_
  refine L_invi (o := 0) (ci := 0) X e1 dL_law_907 ok_X11_kind rfl wt_653 wt_654 wt_655 rfl rfl rfl (by decide) [.int (xs (i + 1))] rfl rfl rfl rfl (c_P_kind l G (xs (i + 1)) M) ?_
  refine L_aload_n 1 X dL_law_910 rfl ?_
  refine L_arg (j := 1) X hL dL_law_911 dL_law_912 dL_law_913 dL_law_914 dL_law_915 (by decide) (by omega) ?_
  refine L_invi (o := 86) (ci := 11) X e2 dL_law_916 ok_X12_kind rfl wt_1225 wt_1226 wt_1227 rfl rfl rfl (by decide) [.int (xs (i + 1))] rfl rfl rfl rfl (c_M_kind l G (xs (i + 1)) M1) ?_
  refine L_eqY (tgt := 1449) X dL_law_919 rfl ?_
  exact K M2 hv2
theorem law_23 (X : LX p s m meth c b G L xs) (hL : L ≤ 3072) (hi : i + 6 ≤ L) {M : Nm} (hv : Iv M) (K : ∀ M2, Iv M2 → LW p l e s m below meth c b G 101 101 1976 1449 (lvL b G i) [] (toM M2)) : LW p l e s m below meth c b G 101 101 1976 924 (lvL b G i) [] (toM M) := by
  obtain ⟨a, M1, M2, e1, e2, hv2⟩ := b_ink (xs (i + 1)) hv
  refine L_aload_n 2 X dL_law_924 rfl ?_
  refine L_arg (j := 1) X hL dL_law_925 dL_law_926 dL_law_927 dL_law_928 dL_law_929 (by decide) (by omega) ?_
  refine L_invi (o := 0) (ci := 0) X e1 dL_law_930 ok_X11_ink rfl wt_657 wt_658 wt_659 rfl rfl rfl (by decide) [.int (xs (i + 1))] rfl rfl rfl rfl (c_P_ink l G (xs (i + 1)) M) ?_
  refine L_aload_n 1 X dL_law_933 rfl ?_
  refine L_arg (j := 1) X hL dL_law_934 dL_law_935 dL_law_936 dL_law_937 dL_law_938 (by decide) (by omega) ?_
  refine L_invi (o := 86) (ci := 11) X e2 dL_law_939 ok_X12_ink rfl wt_1229 wt_1230 wt_1231 rfl rfl rfl (by decide) [.int (xs (i + 1))] rfl rfl rfl rfl (c_M_ink l G (xs (i + 1)) M1) ?_
  refine L_eqY (tgt := 1449) X dL_law_942 rfl ?_
  exact K M2 hv2
theorem law_24 (X : LX p s m meth c b G L xs) (hL : L ≤ 3072) (hi : i + 6 ≤ L) {M : Nm} (hv : Iv M) (K : ∀ M2, Iv M2 → LW p l e s m below meth c b G 101 101 1976 1449 (lvL b G i) [] (toM M2)) : LW p l e s m below meth c b G 101 101 1976 947 (lvL b G i) [] (toM M) := by
  obtain ⟨a, M1, M2, e1, e2, hv2⟩ := b_court (xs (i + 1)) (xs (i + 2)) hv
  refine L_aload_n 2 X dL_law_947 rfl ?_
  refine L_arg (j := 1) X hL dL_law_948 dL_law_949 dL_law_950 dL_law_951 dL_law_952 (by decide) (by omega) ?_
  refine L_arg (j := 2) X hL dL_law_953 dL_law_954 dL_law_955 dL_law_956 dL_law_957 (by decide) (by omega) ?_
  refine L_invi (o := 0) (ci := 0) X e1 dL_law_958 ok_X11_court rfl wt_661 wt_662 wt_663 rfl rfl rfl (by decide) [.int (xs (i + 1)), .int (xs (i + 2))] rfl rfl rfl rfl (c_P_court l G (xs (i + 1)) (xs (i + 2)) M) ?_
  refine L_aload_n 1 X dL_law_961 rfl ?_
  refine L_arg (j := 1) X hL dL_law_962 dL_law_963 dL_law_964 dL_law_965 dL_law_966 (by decide) (by omega) ?_
  refine L_arg (j := 2) X hL dL_law_967 dL_law_968 dL_law_969 dL_law_970 dL_law_971 (by decide) (by omega) ?_
  refine L_invi (o := 86) (ci := 11) X e2 dL_law_972 ok_X12_court rfl wt_1233 wt_1234 wt_1235 rfl rfl rfl (by decide) [.int (xs (i + 1)), .int (xs (i + 2))] rfl rfl rfl rfl (c_M_court l G (xs (i + 1)) (xs (i + 2)) M1) ?_
  refine L_eqY (tgt := 1449) X dL_law_975 rfl ?_
  exact K M2 hv2
theorem law_25 (X : LX p s m meth c b G L xs) (hL : L ≤ 3072) (hi : i + 6 ≤ L) {M : Nm} (hv : Iv M) (K : ∀ M2, Iv M2 → LW p l e s m below meth c b G 101 101 1976 1449 (lvL b G i) [] (toM M2)) : LW p l e s m below meth c b G 101 101 1976 980 (lvL b G i) [] (toM M) := by
  obtain ⟨a, M1, M2, e1, e2, hv2⟩ := b_way (xs (i + 1)) (xs (i + 2)) (xs (i + 3)) hv
  refine L_aload_n 2 X dL_law_980 rfl ?_
  refine L_arg (j := 1) X hL dL_law_981 dL_law_982 dL_law_983 dL_law_984 dL_law_985 (by decide) (by omega) ?_
  refine L_arg (j := 2) X hL dL_law_986 dL_law_987 dL_law_988 dL_law_989 dL_law_990 (by decide) (by omega) ?_
  refine L_arg (j := 3) X hL dL_law_991 dL_law_992 dL_law_993 dL_law_994 dL_law_995 (by decide) (by omega) ?_
  refine L_invi (o := 0) (ci := 0) X e1 dL_law_996 ok_X11_way rfl wt_665 wt_666 wt_667 rfl rfl rfl (by decide) [.int (xs (i + 1)), .int (xs (i + 2)), .int (xs (i + 3))] rfl rfl rfl rfl (c_P_way l G (xs (i + 1)) (xs (i + 2)) (xs (i + 3)) M) ?_
  refine L_aload_n 1 X dL_law_999 rfl ?_
  refine L_arg (j := 1) X hL dL_law_1000 dL_law_1001 dL_law_1002 dL_law_1003 dL_law_1004 (by decide) (by omega) ?_
  refine L_arg (j := 2) X hL dL_law_1005 dL_law_1006 dL_law_1007 dL_law_1008 dL_law_1009 (by decide) (by omega) ?_
  refine L_arg (j := 3) X hL dL_law_1010 dL_law_1011 dL_law_1012 dL_law_1013 dL_law_1014 (by decide) (by omega) ?_
  refine L_invi (o := 86) (ci := 11) X e2 dL_law_1015 ok_X12_way rfl wt_1237 wt_1238 wt_1239 rfl rfl rfl (by decide) [.int (xs (i + 1)), .int (xs (i + 2)), .int (xs (i + 3))] rfl rfl rfl rfl (c_M_way l G (xs (i + 1)) (xs (i + 2)) (xs (i + 3)) M1) ?_
  refine L_eqY (tgt := 1449) X dL_law_1018 rfl ?_
  exact K M2 hv2
theorem law_26 (X : LX p s m meth c b G L xs) (hL : L ≤ 3072) (hi : i + 6 ≤ L) {M : Nm} (hv : Iv M) (K : ∀ M2, Iv M2 → LW p l e s m below meth c b G 101 101 1976 1449 (lvL b G i) [] (toM M2)) : LW p l e s m below meth c b G 101 101 1976 1023 (lvL b G i) [] (toM M) := by
  obtain ⟨a, M1, M2, e1, e2, hv2⟩ := b_sea  hv
  refine L_aload_n 2 X dL_law_1023 rfl ?_
  refine L_invi (o := 0) (ci := 0) X e1 dL_law_1024 ok_X11_sea rfl wt_673 wt_674 wt_675 rfl rfl rfl (by decide) [] rfl rfl rfl rfl (c_P_sea l G  M) ?_
  refine L_aload_n 1 X dL_law_1027 rfl ?_
  refine L_invi (o := 86) (ci := 11) X e2 dL_law_1028 ok_X12_sea rfl wt_1241 wt_1242 wt_1243 rfl rfl rfl (by decide) [] rfl rfl rfl rfl (c_M_sea l G  M1) ?_
  refine L_eqY (tgt := 1449) X dL_law_1031 rfl ?_
  exact K M2 hv2
theorem law_27 (X : LX p s m meth c b G L xs) (hL : L ≤ 3072) (hi : i + 6 ≤ L) {M : Nm} (hv : Iv M) (K : ∀ M2, Iv M2 → LW p l e s m below meth c b G 101 101 1976 1449 (lvL b G i) [] (toM M2)) : LW p l e s m below meth c b G 101 101 1976 1036 (lvL b G i) [] (toM M) := by
  obtain ⟨a, M1, M2, e1, e2, hv2⟩ := b_feed (xs (i + 1)) (xs (i + 2)) hv
  refine L_aload_n 2 X dL_law_1036 rfl ?_
  refine L_arg (j := 1) X hL dL_law_1037 dL_law_1038 dL_law_1039 dL_law_1040 dL_law_1041 (by decide) (by omega) ?_
  refine L_arg (j := 2) X hL dL_law_1042 dL_law_1043 dL_law_1044 dL_law_1045 dL_law_1046 (by decide) (by omega) ?_
  refine L_invi (o := 0) (ci := 0) X e1 dL_law_1047 ok_X11_feed rfl wt_678 wt_679 wt_680 rfl rfl rfl (by decide) [.int (xs (i + 1)), .int (xs (i + 2))] rfl rfl rfl rfl (c_P_feed l G (xs (i + 1)) (xs (i + 2)) M) ?_
  refine L_aload_n 1 X dL_law_1050 rfl ?_
  refine L_arg (j := 1) X hL dL_law_1051 dL_law_1052 dL_law_1053 dL_law_1054 dL_law_1055 (by decide) (by omega) ?_
  refine L_arg (j := 2) X hL dL_law_1056 dL_law_1057 dL_law_1058 dL_law_1059 dL_law_1060 (by decide) (by omega) ?_
  refine L_invi (o := 86) (ci := 11) X e2 dL_law_1061 ok_X12_feed rfl wt_1245 wt_1246 wt_1247 rfl rfl rfl (by decide) [.int (xs (i + 1)), .int (xs (i + 2))] rfl rfl rfl rfl (c_M_feed l G (xs (i + 1)) (xs (i + 2)) M1) ?_
  refine L_eqY (tgt := 1449) X dL_law_1064 rfl ?_
  exact K M2 hv2
theorem law_28 (X : LX p s m meth c b G L xs) (hL : L ≤ 3072) (hi : i + 6 ≤ L) {M : Nm} (hv : Iv M) (K : ∀ M2, Iv M2 → LW p l e s m below meth c b G 101 101 1976 1449 (lvL b G i) [] (toM M2)) : LW p l e s m below meth c b G 101 101 1976 1069 (lvL b G i) [] (toM M) := by
  obtain ⟨a, M1, M2, e1, e2, hv2⟩ := b_wipe  hv
  refine L_aload_n 2 X dL_law_1069 rfl ?_
  refine L_invi (o := 0) (ci := 0) X e1 dL_law_1070 ok_X11_wipe rfl wt_686 wt_687 wt_688 rfl rfl rfl (by decide) [] rfl rfl rfl rfl (c_P_wipe l G  M) ?_
  refine L_aload_n 1 X dL_law_1073 rfl ?_
  refine L_invi (o := 86) (ci := 11) X e2 dL_law_1074 ok_X12_wipe rfl wt_1250 wt_1251 wt_1252 rfl rfl rfl (by decide) [] rfl rfl rfl rfl (c_M_wipe l G  M1) ?_
  refine L_eqY (tgt := 1449) X dL_law_1077 rfl ?_
  exact K M2 hv2
theorem law_29 (X : LX p s m meth c b G L xs) (hL : L ≤ 3072) (hi : i + 6 ≤ L) {M : Nm} (hv : Iv M) (K : ∀ M2, Iv M2 → LW p l e s m below meth c b G 101 101 1976 1449 (lvL b G i) [] (toM M2)) : LW p l e s m below meth c b G 101 101 1976 1082 (lvL b G i) [] (toM M) := by
  obtain ⟨a, M1, M2, e1, e2, hv2⟩ := b_field  hv
  refine L_aload_n 2 X dL_law_1082 rfl ?_
  refine L_invi (o := 0) (ci := 0) X e1 dL_law_1083 ok_X11_field rfl wt_690 wt_691 wt_692 rfl rfl rfl (by decide) [] rfl rfl rfl rfl (c_P_field l G  M) ?_
  refine L_aload_n 1 X dL_law_1086 rfl ?_
  refine L_invi (o := 86) (ci := 11) X e2 dL_law_1087 ok_X12_field rfl wt_1254 wt_1255 wt_1256 rfl rfl rfl (by decide) [] rfl rfl rfl rfl (c_M_field l G  M1) ?_
  refine L_eqY (tgt := 1449) X dL_law_1090 rfl ?_
  exact K M2 hv2
theorem law_30 (X : LX p s m meth c b G L xs) (hL : L ≤ 3072) (hi : i + 6 ≤ L) {M : Nm} (hv : Iv M) (K : ∀ M2, Iv M2 → LW p l e s m below meth c b G 101 101 1976 1449 (lvL b G i) [] (toM M2)) : LW p l e s m below meth c b G 101 101 1976 1095 (lvL b G i) [] (toM M) := by
  obtain ⟨a, M1, M2, e1, e2, hv2⟩ := b_sheet (xs (i + 1)) (xs (i + 2)) (xs (i + 3)) hv
  refine L_aload_n 2 X dL_law_1095 rfl ?_
  refine L_arg (j := 1) X hL dL_law_1096 dL_law_1097 dL_law_1098 dL_law_1099 dL_law_1100 (by decide) (by omega) ?_
  refine L_arg (j := 2) X hL dL_law_1101 dL_law_1102 dL_law_1103 dL_law_1104 dL_law_1105 (by decide) (by omega) ?_
  refine L_arg (j := 3) X hL dL_law_1106 dL_law_1107 dL_law_1108 dL_law_1109 dL_law_1110 (by decide) (by omega) ?_
  refine L_invi (o := 0) (ci := 0) X e1 dL_law_1111 ok_X11_sheet rfl wt_822 wt_823 wt_824 rfl rfl rfl (by decide) [.int (xs (i + 1)), .int (xs (i + 2)), .int (xs (i + 3))] rfl rfl rfl rfl (c_P_sheet l G (xs (i + 1)) (xs (i + 2)) (xs (i + 3)) M) ?_
  refine L_aload_n 1 X dL_law_1114 rfl ?_
  refine L_arg (j := 1) X hL dL_law_1115 dL_law_1116 dL_law_1117 dL_law_1118 dL_law_1119 (by decide) (by omega) ?_
  refine L_arg (j := 2) X hL dL_law_1120 dL_law_1121 dL_law_1122 dL_law_1123 dL_law_1124 (by decide) (by omega) ?_
  refine L_arg (j := 3) X hL dL_law_1125 dL_law_1126 dL_law_1127 dL_law_1128 dL_law_1129 (by decide) (by omega) ?_
  refine L_invi (o := 86) (ci := 11) X e2 dL_law_1130 ok_X12_sheet rfl wt_1328 wt_1329 wt_1330 rfl rfl rfl (by decide) [.int (xs (i + 1)), .int (xs (i + 2)), .int (xs (i + 3))] rfl rfl rfl rfl (c_M_sheet l G (xs (i + 1)) (xs (i + 2)) (xs (i + 3)) M1) ?_
  refine L_eqY (tgt := 1449) X dL_law_1133 rfl ?_
  exact K M2 hv2
theorem law_31 (X : LX p s m meth c b G L xs) (hL : L ≤ 3072) (hi : i + 6 ≤ L) {M : Nm} (hv : Iv M) (K : ∀ M2, Iv M2 → LW p l e s m below meth c b G 101 101 1976 1449 (lvL b G i) [] (toM M2)) : LW p l e s m below meth c b G 101 101 1976 1138 (lvL b G i) [] (toM M) := by
  obtain ⟨a, M1, M2, e1, e2, hv2⟩ := b_write (xs (i + 1)) (xs (i + 2)) (((xs (i + 3)).toInt64 <<< ((32 : Int32).toInt64 &&& 63)) ||| ((xs (i + 4)).toInt64 &&& 4294967295)) hv
  refine L_aload_n 2 X dL_law_1138 rfl ?_
  refine L_arg (j := 1) X hL dL_law_1139 dL_law_1140 dL_law_1141 dL_law_1142 dL_law_1143 (by decide) (by omega) ?_
  refine L_arg (j := 2) X hL dL_law_1144 dL_law_1145 dL_law_1146 dL_law_1147 dL_law_1148 (by decide) (by omega) ?_
  refine L_arg (j := 3) X hL dL_law_1149 dL_law_1150 dL_law_1151 dL_law_1152 dL_law_1153 (by decide) (by omega) ?_
  refine L_i2l X dL_law_1154 ?_
  refine L_bipush (v := 32) X dL_law_1155 (by decide) ?_
  refine L_lshl X dL_law_1157 ?_
  refine L_arg (j := 4) X hL dL_law_1158 dL_law_1159 dL_law_1160 dL_law_1161 dL_law_1162 (by decide) (by omega) ?_
  refine L_i2l X dL_law_1163 ?_
  refine L_ldc2 (v := 4294967295) X dL_law_1164 wt_1393 ?_
  refine L_land X dL_law_1167 ?_
  refine L_lor X dL_law_1168 ?_
  refine L_invl (o := 0) (ci := 0) X e1 dL_law_1169 ok_X11_write rfl wt_838 wt_839 wt_840 rfl rfl rfl (by decide) [.int (xs (i + 1)), .int (xs (i + 2)), .long (((xs (i + 3)).toInt64 <<< ((32 : Int32).toInt64 &&& 63)) ||| ((xs (i + 4)).toInt64 &&& 4294967295))] rfl rfl rfl rfl (c_P_write l G (xs (i + 1)) (xs (i + 2)) (((xs (i + 3)).toInt64 <<< ((32 : Int32).toInt64 &&& 63)) ||| ((xs (i + 4)).toInt64 &&& 4294967295)) M) ?_
  refine L_aload_n 1 X dL_law_1172 rfl ?_
  refine L_arg (j := 1) X hL dL_law_1173 dL_law_1174 dL_law_1175 dL_law_1176 dL_law_1177 (by decide) (by omega) ?_
  refine L_arg (j := 2) X hL dL_law_1178 dL_law_1179 dL_law_1180 dL_law_1181 dL_law_1182 (by decide) (by omega) ?_
  refine L_arg (j := 3) X hL dL_law_1183 dL_law_1184 dL_law_1185 dL_law_1186 dL_law_1187 (by decide) (by omega) ?_
  refine L_i2l X dL_law_1188 ?_
  refine L_bipush (v := 32) X dL_law_1189 (by decide) ?_
  refine L_lshl X dL_law_1191 ?_
  refine L_arg (j := 4) X hL dL_law_1192 dL_law_1193 dL_law_1194 dL_law_1195 dL_law_1196 (by decide) (by omega) ?_
  refine L_i2l X dL_law_1197 ?_
  refine L_ldc2 (v := 4294967295) X dL_law_1198 wt_1393 ?_
  refine L_land X dL_law_1201 ?_
  refine L_lor X dL_law_1202 ?_
  refine L_invl (o := 86) (ci := 11) X e2 dL_law_1203 ok_X12_write rfl wt_1336 wt_1337 wt_1338 rfl rfl rfl (by decide) [.int (xs (i + 1)), .int (xs (i + 2)), .long (((xs (i + 3)).toInt64 <<< ((32 : Int32).toInt64 &&& 63)) ||| ((xs (i + 4)).toInt64 &&& 4294967295))] rfl rfl rfl rfl (c_M_write l G (xs (i + 1)) (xs (i + 2)) (((xs (i + 3)).toInt64 <<< ((32 : Int32).toInt64 &&& 63)) ||| ((xs (i + 4)).toInt64 &&& 4294967295)) M1) ?_
  refine L_lcmp X dL_law_1206 ?_
  refine L_ifeqY (tgt := 1449) X dL_law_1207 rfl (lg0.mpr rfl) ?_
  exact K M2 hv2
theorem law_32 (X : LX p s m meth c b G L xs) (hL : L ≤ 3072) (hi : i + 6 ≤ L) {M : Nm} (hv : Iv M) (K : ∀ M2, Iv M2 → LW p l e s m below meth c b G 101 101 1976 1449 (lvL b G i) [] (toM M2)) : LW p l e s m below meth c b G 101 101 1976 1212 (lvL b G i) [] (toM M) := by
  obtain ⟨a, M1, M2, e1, e2, hv2⟩ := b_copy (xs (i + 1)) (xs (i + 2)) (xs (i + 3)) (xs (i + 4)) (xs (i + 5)) hv
  refine L_aload_n 2 X dL_law_1212 rfl ?_
  refine L_arg (j := 1) X hL dL_law_1213 dL_law_1214 dL_law_1215 dL_law_1216 dL_law_1217 (by decide) (by omega) ?_
  refine L_arg (j := 2) X hL dL_law_1218 dL_law_1219 dL_law_1220 dL_law_1221 dL_law_1222 (by decide) (by omega) ?_
  refine L_arg (j := 3) X hL dL_law_1223 dL_law_1224 dL_law_1225 dL_law_1226 dL_law_1227 (by decide) (by omega) ?_
  refine L_arg (j := 4) X hL dL_law_1228 dL_law_1229 dL_law_1230 dL_law_1231 dL_law_1232 (by decide) (by omega) ?_
  refine L_arg (j := 5) X hL dL_law_1233 dL_law_1234 dL_law_1235 dL_law_1236 dL_law_1237 (by decide) (by omega) ?_
  refine L_invi (o := 0) (ci := 0) X e1 dL_law_1238 ok_X11_copy rfl wt_855 wt_856 wt_857 rfl rfl rfl (by decide) [.int (xs (i + 1)), .int (xs (i + 2)), .int (xs (i + 3)), .int (xs (i + 4)), .int (xs (i + 5))] rfl rfl rfl rfl (c_P_copy l G (xs (i + 1)) (xs (i + 2)) (xs (i + 3)) (xs (i + 4)) (xs (i + 5)) M) ?_
  refine L_aload_n 1 X dL_law_1241 rfl ?_
  refine L_arg (j := 1) X hL dL_law_1242 dL_law_1243 dL_law_1244 dL_law_1245 dL_law_1246 (by decide) (by omega) ?_
  refine L_arg (j := 2) X hL dL_law_1247 dL_law_1248 dL_law_1249 dL_law_1250 dL_law_1251 (by decide) (by omega) ?_
  refine L_arg (j := 3) X hL dL_law_1252 dL_law_1253 dL_law_1254 dL_law_1255 dL_law_1256 (by decide) (by omega) ?_
  refine L_arg (j := 4) X hL dL_law_1257 dL_law_1258 dL_law_1259 dL_law_1260 dL_law_1261 (by decide) (by omega) ?_
  refine L_arg (j := 5) X hL dL_law_1262 dL_law_1263 dL_law_1264 dL_law_1265 dL_law_1266 (by decide) (by omega) ?_
  refine L_invi (o := 86) (ci := 11) X e2 dL_law_1267 ok_X12_copy rfl wt_1348 wt_1349 wt_1350 rfl rfl rfl (by decide) [.int (xs (i + 1)), .int (xs (i + 2)), .int (xs (i + 3)), .int (xs (i + 4)), .int (xs (i + 5))] rfl rfl rfl rfl (c_M_copy l G (xs (i + 1)) (xs (i + 2)) (xs (i + 3)) (xs (i + 4)) (xs (i + 5)) M1) ?_
  refine L_eqY (tgt := 1449) X dL_law_1270 rfl ?_
  exact K M2 hv2
theorem law_33 (X : LX p s m meth c b G L xs) (hL : L ≤ 3072) (hi : i + 6 ≤ L) {M : Nm} (hv : Iv M) (K : ∀ M2, Iv M2 → LW p l e s m below meth c b G 101 101 1976 1449 (lvL b G i) [] (toM M2)) : LW p l e s m below meth c b G 101 101 1976 1275 (lvL b G i) [] (toM M) := by
  obtain ⟨a, M1, M2, e1, e2, hv2⟩ := b_lays (xs (i + 1)) hv
  refine L_aload_n 2 X dL_law_1275 rfl ?_
  refine L_arg (j := 1) X hL dL_law_1276 dL_law_1277 dL_law_1278 dL_law_1279 dL_law_1280 (by decide) (by omega) ?_
  refine L_invi (o := 0) (ci := 0) X e1 dL_law_1281 ok_X11_lays rfl wt_864 wt_865 wt_866 rfl rfl rfl (by decide) [.int (xs (i + 1))] rfl rfl rfl rfl (c_P_lays l G (xs (i + 1)) M) ?_
  refine L_aload_n 1 X dL_law_1284 rfl ?_
  refine L_arg (j := 1) X hL dL_law_1285 dL_law_1286 dL_law_1287 dL_law_1288 dL_law_1289 (by decide) (by omega) ?_
  refine L_invi (o := 86) (ci := 11) X e2 dL_law_1290 ok_X12_lays rfl wt_1352 wt_1353 wt_1354 rfl rfl rfl (by decide) [.int (xs (i + 1))] rfl rfl rfl rfl (c_M_lays l G (xs (i + 1)) M1) ?_
  refine L_eqY (tgt := 1449) X dL_law_1293 rfl ?_
  exact K M2 hv2
theorem law_34 (X : LX p s m meth c b G L xs) (hL : L ≤ 3072) (hi : i + 6 ≤ L) {M : Nm} (hv : Iv M) (K : ∀ M2, Iv M2 → LW p l e s m below meth c b G 101 101 1976 1449 (lvL b G i) [] (toM M2)) : LW p l e s m below meth c b G 101 101 1976 1298 (lvL b G i) [] (toM M) := by
  obtain ⟨a, M1, M2, e1, e2, hv2⟩ := b_book (xs (i + 1)) (xs (i + 2)) hv
  refine L_aload_n 2 X dL_law_1298 rfl ?_
  refine L_arg (j := 1) X hL dL_law_1299 dL_law_1300 dL_law_1301 dL_law_1302 dL_law_1303 (by decide) (by omega) ?_
  refine L_arg (j := 2) X hL dL_law_1304 dL_law_1305 dL_law_1306 dL_law_1307 dL_law_1308 (by decide) (by omega) ?_
  refine L_invi (o := 0) (ci := 0) X e1 dL_law_1309 ok_X11_book rfl wt_869 wt_870 wt_871 rfl rfl rfl (by decide) [.int (xs (i + 1)), .int (xs (i + 2))] rfl rfl rfl rfl (c_P_book l G (xs (i + 1)) (xs (i + 2)) M) ?_
  refine L_aload_n 1 X dL_law_1312 rfl ?_
  refine L_arg (j := 1) X hL dL_law_1313 dL_law_1314 dL_law_1315 dL_law_1316 dL_law_1317 (by decide) (by omega) ?_
  refine L_arg (j := 2) X hL dL_law_1318 dL_law_1319 dL_law_1320 dL_law_1321 dL_law_1322 (by decide) (by omega) ?_
  refine L_invi (o := 86) (ci := 11) X e2 dL_law_1323 ok_X12_book rfl wt_1356 wt_1357 wt_1358 rfl rfl rfl (by decide) [.int (xs (i + 1)), .int (xs (i + 2))] rfl rfl rfl rfl (c_M_book l G (xs (i + 1)) (xs (i + 2)) M1) ?_
  refine L_eqY (tgt := 1449) X dL_law_1326 rfl ?_
  exact K M2 hv2
theorem law_35 (X : LX p s m meth c b G L xs) (hL : L ≤ 3072) (hi : i + 6 ≤ L) {M : Nm} (hv : Iv M) (K : ∀ M2, Iv M2 → LW p l e s m below meth c b G 101 101 1976 1449 (lvL b G i) [] (toM M2)) : LW p l e s m below meth c b G 101 101 1976 1331 (lvL b G i) [] (toM M) := by
  obtain ⟨a, M1, M2, e1, e2, hv2⟩ := b_read (xs (i + 1)) (xs (i + 2)) hv
  refine L_aload_n 2 X dL_law_1331 rfl ?_
  refine L_arg (j := 1) X hL dL_law_1332 dL_law_1333 dL_law_1334 dL_law_1335 dL_law_1336 (by decide) (by omega) ?_
  refine L_arg (j := 2) X hL dL_law_1337 dL_law_1338 dL_law_1339 dL_law_1340 dL_law_1341 (by decide) (by omega) ?_
  refine L_invi (o := 0) (ci := 0) X e1 dL_law_1342 ok_X11_read rfl wt_873 wt_874 wt_875 rfl rfl rfl (by decide) [.int (xs (i + 1)), .int (xs (i + 2))] rfl rfl rfl rfl (c_P_read l G (xs (i + 1)) (xs (i + 2)) M) ?_
  refine L_aload_n 1 X dL_law_1345 rfl ?_
  refine L_arg (j := 1) X hL dL_law_1346 dL_law_1347 dL_law_1348 dL_law_1349 dL_law_1350 (by decide) (by omega) ?_
  refine L_arg (j := 2) X hL dL_law_1351 dL_law_1352 dL_law_1353 dL_law_1354 dL_law_1355 (by decide) (by omega) ?_
  refine L_invi (o := 86) (ci := 11) X e2 dL_law_1356 ok_X12_read rfl wt_1360 wt_1361 wt_1362 rfl rfl rfl (by decide) [.int (xs (i + 1)), .int (xs (i + 2))] rfl rfl rfl rfl (c_M_read l G (xs (i + 1)) (xs (i + 2)) M1) ?_
  refine L_eqY (tgt := 1449) X dL_law_1359 rfl ?_
  exact K M2 hv2
theorem law_36 (X : LX p s m meth c b G L xs) (hL : L ≤ 3072) (hi : i + 6 ≤ L) {M : Nm} (hv : Iv M) (K : ∀ M2, Iv M2 → LW p l e s m below meth c b G 101 101 1976 1449 (lvL b G i) [] (toM M2)) : LW p l e s m below meth c b G 101 101 1976 1364 (lvL b G i) [] (toM M) := by
  obtain ⟨a, M1, M2, e1, e2, hv2⟩ := b_image  hv
  refine L_aload_n 2 X dL_law_1364 rfl ?_
  refine L_invi (o := 0) (ci := 0) X e1 dL_law_1365 ok_X11_image rfl wt_881 wt_882 wt_883 rfl rfl rfl (by decide) [] rfl rfl rfl rfl (c_P_image l G  M) ?_
  refine L_aload_n 1 X dL_law_1368 rfl ?_
  refine L_invi (o := 86) (ci := 11) X e2 dL_law_1369 ok_X12_image rfl wt_1368 wt_1369 wt_1370 rfl rfl rfl (by decide) [] rfl rfl rfl rfl (c_M_image l G  M1) ?_
  refine L_eqY (tgt := 1449) X dL_law_1372 rfl ?_
  exact K M2 hv2
theorem law_37 (X : LX p s m meth c b G L xs) (hL : L ≤ 3072) (hi : i + 6 ≤ L) {M : Nm} (hv : Iv M) (K : ∀ M2, Iv M2 → LW p l e s m below meth c b G 101 101 1976 1449 (lvL b G i) [] (toM M2)) : LW p l e s m below meth c b G 101 101 1976 1377 (lvL b G i) [] (toM M) := by
  obtain ⟨a, M1, M2, e1, e2, hv2⟩ := b_undo  hv
  refine L_aload_n 2 X dL_law_1377 rfl ?_
  refine L_invi (o := 0) (ci := 0) X e1 dL_law_1378 ok_X11_undo rfl wt_885 wt_886 wt_887 rfl rfl rfl (by decide) [] rfl rfl rfl rfl (c_P_undo l G  M) ?_
  refine L_aload_n 1 X dL_law_1381 rfl ?_
  refine L_invi (o := 86) (ci := 11) X e2 dL_law_1382 ok_X12_undo rfl wt_1372 wt_1373 wt_1374 rfl rfl rfl (by decide) [] rfl rfl rfl rfl (c_M_undo l G  M1) ?_
  refine L_eqY (tgt := 1449) X dL_law_1385 rfl ?_
  exact K M2 hv2
theorem law_38 (X : LX p s m meth c b G L xs) (hL : L ≤ 3072) (hi : i + 6 ≤ L) {M : Nm} (hv : Iv M) (K : ∀ M2, Iv M2 → LW p l e s m below meth c b G 101 101 1976 1449 (lvL b G i) [] (toM M2)) : LW p l e s m below meth c b G 101 101 1976 1390 (lvL b G i) [] (toM M) := by
  obtain ⟨a, M1, M2, e1, e2, hv2⟩ := b_tear  hv
  refine L_aload_n 2 X dL_law_1390 rfl ?_
  refine L_invi (o := 0) (ci := 0) X e1 dL_law_1391 ok_X11_tear rfl wt_889 wt_890 wt_891 rfl rfl rfl (by decide) [] rfl rfl rfl rfl (c_P_tear l G  M) ?_
  refine L_aload_n 1 X dL_law_1394 rfl ?_
  refine L_invi (o := 86) (ci := 11) X e2 dL_law_1395 ok_X12_tear rfl wt_1376 wt_1377 wt_1378 rfl rfl rfl (by decide) [] rfl rfl rfl rfl (c_M_tear l G  M1) ?_
  refine L_eqY (tgt := 1449) X dL_law_1398 rfl ?_
  exact K M2 hv2
theorem law_39 (X : LX p s m meth c b G L xs) (hL : L ≤ 3072) (hi : i + 6 ≤ L) {M : Nm} (hv : Iv M) (K : ∀ M2, Iv M2 → LW p l e s m below meth c b G 101 101 1976 1449 (lvL b G i) [] (toM M2)) : LW p l e s m below meth c b G 101 101 1976 1403 (lvL b G i) [] (toM M) := by
  obtain ⟨a, M1, M2, e1, e2, hv2⟩ := b_count (xs (i + 1)) hv
  refine L_aload_n 2 X dL_law_1403 rfl ?_
  refine L_arg (j := 1) X hL dL_law_1404 dL_law_1405 dL_law_1406 dL_law_1407 dL_law_1408 (by decide) (by omega) ?_
  refine L_invi (o := 0) (ci := 0) X e1 dL_law_1409 ok_X11_count rfl wt_893 wt_894 wt_895 rfl rfl rfl (by decide) [.int (xs (i + 1))] rfl rfl rfl rfl (c_P_count l G (xs (i + 1)) M) ?_
  refine L_aload_n 1 X dL_law_1412 rfl ?_
  refine L_arg (j := 1) X hL dL_law_1413 dL_law_1414 dL_law_1415 dL_law_1416 dL_law_1417 (by decide) (by omega) ?_
  refine L_invi (o := 86) (ci := 11) X e2 dL_law_1418 ok_X12_count rfl wt_1380 wt_1381 wt_1382 rfl rfl rfl (by decide) [.int (xs (i + 1))] rfl rfl rfl rfl (c_M_count l G (xs (i + 1)) M1) ?_
  refine L_eqY (tgt := 1449) X dL_law_1421 rfl ?_
  exact K M2 hv2
theorem law_40 (X : LX p s m meth c b G L xs) (hL : L ≤ 3072) (hi : i + 6 ≤ L) {M : Nm} (hv : Iv M) (K : ∀ M2, Iv M2 → LW p l e s m below meth c b G 101 101 1976 1449 (lvL b G i) [] (toM M2)) : LW p l e s m below meth c b G 101 101 1976 1426 (lvL b G i) [] (toM M) := by
  obtain ⟨a, M1, M2, e1, e2, hv2⟩ := b_status (xs (i + 1)) hv
  refine L_aload_n 2 X dL_law_1426 rfl ?_
  refine L_arg (j := 1) X hL dL_law_1427 dL_law_1428 dL_law_1429 dL_law_1430 dL_law_1431 (by decide) (by omega) ?_
  refine L_invi (o := 0) (ci := 0) X e1 dL_law_1432 ok_X11_status rfl wt_905 wt_906 wt_907 rfl rfl rfl (by decide) [.int (xs (i + 1))] rfl rfl rfl rfl (c_P_status l G (xs (i + 1)) M) ?_
  refine L_aload_n 1 X dL_law_1435 rfl ?_
  refine L_arg (j := 1) X hL dL_law_1436 dL_law_1437 dL_law_1438 dL_law_1439 dL_law_1440 (by decide) (by omega) ?_
  refine L_invi (o := 86) (ci := 11) X e2 dL_law_1441 ok_X12_status rfl wt_1388 wt_1389 wt_1390 rfl rfl rfl (by decide) [.int (xs (i + 1))] rfl rfl rfl rfl (c_M_status l G (xs (i + 1)) M1) ?_
  refine L_eqY (tgt := 1449) X dL_law_1444 rfl ?_
  exact K M2 hv2
end LC
