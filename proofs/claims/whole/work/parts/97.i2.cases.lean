/-! ===== the law, case by case ===== -/
section LAC
variable {p : Program} {l : Launch} {e : Env} {s : State} {m : MethodId} {below : List Frame} {meth : Method} {c : Code} {D : va_G} {g : Nat → ClassId} {z : Nat → Nat} {A : Nat → Prop} {b L : Nat} {xs : Nat → Int32} {H : Heap} {locs : List Loc} {cells slots : Nat} {Q : State → Prop} {ls : Array Slot} {h0 h1 i : Nat} {wc wm : va_W}
theorem law_c0 (X : LawCx p s m c D g z A b L xs) (hI : Inv g h0 h1 wc wm) (hSt : St A s.heap D (wc ++ wm) H locs) (hl : lv_has ls 4 [(0, .ref b), (1, .ref h0), (2, .ref h1), (3, .int (nI i))]) (hi : i + 6 ≤ L) (hr : cells + 24 ≤ room_1.cells ∧ slots + 1111 ≤ room_1.slots) (next : ∀ (wc' wm' : va_W) (H1 : Heap) (locs1 : List Loc), Inv g h0 h1 wc' wm' → St A s.heap D (wc' ++ wm') H1 locs1 → W p l e room_1 s m #[Value.ref b] below meth c H1 locs1 (cells + 24) (slots + 1111) Q (F0 m 1744 ls [])) : W p l e room_1 s m #[Value.ref b] below meth c H locs cells slots Q (F0 m 192 ls []) := by
  refine law_pair (pc := 192) (pc1 := 218) (pc2 := 247) X (o_feed (xs (i + 1)) (xs (i + 2)) (xs (i + 3)) (xs (i + 4)) (xs (i + 5))) (fun x => Nat.le_of_ble_eq_true rfl) hI hSt hl hr dL_law_192 (fun H locs cells slots rest hS k => ?_) dL_law_218 dL_law_221 (fun H locs cells slots rest hS k => ?_) dL_law_247 (fun x wc' wm' H1 locs1 q1 q2 => ?_)
  · show W p l e room_1 s m #[Value.ref b] below meth c H locs cells slots Q (F0 m 193 ls rest)
    refine law_arg (pc := 193) (k := 1) (kn := 1) X hS hl hi (by decide) (by decide) dL_law_193 dL_law_194 dL_law_195 dL_law_196 dL_law_197 ?_
    refine law_arg (pc := 198) (k := 2) (kn := 2) X hS hl hi (by decide) (by decide) dL_law_198 dL_law_199 dL_law_200 dL_law_201 dL_law_202 ?_
    refine law_arg (pc := 203) (k := 3) (kn := 3) X hS hl hi (by decide) (by decide) dL_law_203 dL_law_204 dL_law_205 dL_law_206 dL_law_207 ?_
    refine law_arg (pc := 208) (k := 4) (kn := 4) X hS hl hi (by decide) (by decide) dL_law_208 dL_law_209 dL_law_210 dL_law_211 dL_law_212 ?_
    refine law_arg (pc := 213) (k := 5) (kn := 5) X hS hl hi (by decide) (by decide) dL_law_213 dL_law_214 dL_law_215 dL_law_216 dL_law_217 ?_
    exact k
  · show W p l e room_1 s m #[Value.ref b] below meth c H locs cells slots Q (F0 m 222 ls rest)
    refine law_arg (pc := 222) (k := 1) (kn := 1) X hS hl hi (by decide) (by decide) dL_law_222 dL_law_223 dL_law_224 dL_law_225 dL_law_226 ?_
    refine law_arg (pc := 227) (k := 2) (kn := 2) X hS hl hi (by decide) (by decide) dL_law_227 dL_law_228 dL_law_229 dL_law_230 dL_law_231 ?_
    refine law_arg (pc := 232) (k := 3) (kn := 3) X hS hl hi (by decide) (by decide) dL_law_232 dL_law_233 dL_law_234 dL_law_235 dL_law_236 ?_
    refine law_arg (pc := 237) (k := 4) (kn := 4) X hS hl hi (by decide) (by decide) dL_law_237 dL_law_238 dL_law_239 dL_law_240 dL_law_241 ?_
    refine law_arg (pc := 242) (k := 5) (kn := 5) X hS hl hi (by decide) (by decide) dL_law_242 dL_law_243 dL_law_244 dL_law_245 dL_law_246 ?_
    exact k
  · exact law_eqI (pc := 250) X dL_law_250 (by decide) (next wc' wm' H1 locs1 q1 q2)
theorem law_c1 (X : LawCx p s m c D g z A b L xs) (hI : Inv g h0 h1 wc wm) (hSt : St A s.heap D (wc ++ wm) H locs) (hl : lv_has ls 4 [(0, .ref b), (1, .ref h0), (2, .ref h1), (3, .int (nI i))]) (hi : i + 6 ≤ L) (hr : cells + 24 ≤ room_1.cells ∧ slots + 1111 ≤ room_1.slots) (next : ∀ (wc' wm' : va_W) (H1 : Heap) (locs1 : List Loc), Inv g h0 h1 wc' wm' → St A s.heap D (wc' ++ wm') H1 locs1 → W p l e room_1 s m #[Value.ref b] below meth c H1 locs1 (cells + 24) (slots + 1111) Q (F0 m 1744 ls [])) : W p l e room_1 s m #[Value.ref b] below meth c H locs cells slots Q (F0 m 255 ls []) := by
  refine law_pair (pc := 255) (pc1 := 261) (pc2 := 270) X (o_end (xs (i + 1))) (fun x => Nat.le_of_ble_eq_true rfl) hI hSt hl hr dL_law_255 (fun H locs cells slots rest hS k => ?_) dL_law_261 dL_law_264 (fun H locs cells slots rest hS k => ?_) dL_law_270 (fun x wc' wm' H1 locs1 q1 q2 => ?_)
  · show W p l e room_1 s m #[Value.ref b] below meth c H locs cells slots Q (F0 m 256 ls rest)
    refine law_arg (pc := 256) (k := 1) (kn := 1) X hS hl hi (by decide) (by decide) dL_law_256 dL_law_257 dL_law_258 dL_law_259 dL_law_260 ?_
    exact k
  · show W p l e room_1 s m #[Value.ref b] below meth c H locs cells slots Q (F0 m 265 ls rest)
    refine law_arg (pc := 265) (k := 1) (kn := 1) X hS hl hi (by decide) (by decide) dL_law_265 dL_law_266 dL_law_267 dL_law_268 dL_law_269 ?_
    exact k
  · exact law_eqI (pc := 273) X dL_law_273 (by decide) (next wc' wm' H1 locs1 q1 q2)
theorem law_c2 (X : LawCx p s m c D g z A b L xs) (hI : Inv g h0 h1 wc wm) (hSt : St A s.heap D (wc ++ wm) H locs) (hl : lv_has ls 4 [(0, .ref b), (1, .ref h0), (2, .ref h1), (3, .int (nI i))]) (hi : i + 6 ≤ L) (hr : cells + 24 ≤ room_1.cells ∧ slots + 1111 ≤ room_1.slots) (next : ∀ (wc' wm' : va_W) (H1 : Heap) (locs1 : List Loc), Inv g h0 h1 wc' wm' → St A s.heap D (wc' ++ wm') H1 locs1 → W p l e room_1 s m #[Value.ref b] below meth c H1 locs1 (cells + 24) (slots + 1111) Q (F0 m 1744 ls [])) : W p l e room_1 s m #[Value.ref b] below meth c H locs cells slots Q (F0 m 278 ls []) := by
  refine law_pair (pc := 278) (pc1 := 289) (pc2 := 303) X (o_text (xs (i + 1)) (xs (i + 2))) (fun x => Nat.le_of_ble_eq_true rfl) hI hSt hl hr dL_law_278 (fun H locs cells slots rest hS k => ?_) dL_law_289 dL_law_292 (fun H locs cells slots rest hS k => ?_) dL_law_303 (fun x wc' wm' H1 locs1 q1 q2 => ?_)
  · show W p l e room_1 s m #[Value.ref b] below meth c H locs cells slots Q (F0 m 279 ls rest)
    refine law_arg (pc := 279) (k := 1) (kn := 1) X hS hl hi (by decide) (by decide) dL_law_279 dL_law_280 dL_law_281 dL_law_282 dL_law_283 ?_
    refine law_arg (pc := 284) (k := 2) (kn := 2) X hS hl hi (by decide) (by decide) dL_law_284 dL_law_285 dL_law_286 dL_law_287 dL_law_288 ?_
    exact k
  · show W p l e room_1 s m #[Value.ref b] below meth c H locs cells slots Q (F0 m 293 ls rest)
    refine law_arg (pc := 293) (k := 1) (kn := 1) X hS hl hi (by decide) (by decide) dL_law_293 dL_law_294 dL_law_295 dL_law_296 dL_law_297 ?_
    refine law_arg (pc := 298) (k := 2) (kn := 2) X hS hl hi (by decide) (by decide) dL_law_298 dL_law_299 dL_law_300 dL_law_301 dL_law_302 ?_
    exact k
  · exact law_eqI (pc := 306) X dL_law_306 (by decide) (next wc' wm' H1 locs1 q1 q2)
theorem law_c3 (X : LawCx p s m c D g z A b L xs) (hI : Inv g h0 h1 wc wm) (hSt : St A s.heap D (wc ++ wm) H locs) (hl : lv_has ls 4 [(0, .ref b), (1, .ref h0), (2, .ref h1), (3, .int (nI i))]) (hi : i + 6 ≤ L) (hr : cells + 24 ≤ room_1.cells ∧ slots + 1111 ≤ room_1.slots) (next : ∀ (wc' wm' : va_W) (H1 : Heap) (locs1 : List Loc), Inv g h0 h1 wc' wm' → St A s.heap D (wc' ++ wm') H1 locs1 → W p l e room_1 s m #[Value.ref b] below meth c H1 locs1 (cells + 24) (slots + 1111) Q (F0 m 1744 ls [])) : W p l e room_1 s m #[Value.ref b] below meth c H locs cells slots Q (F0 m 311 ls []) := by
  refine law_pair (pc := 311) (pc1 := 317) (pc2 := 326) X (o_fault (xs (i + 1))) (fun x => Nat.le_of_ble_eq_true rfl) hI hSt hl hr dL_law_311 (fun H locs cells slots rest hS k => ?_) dL_law_317 dL_law_320 (fun H locs cells slots rest hS k => ?_) dL_law_326 (fun x wc' wm' H1 locs1 q1 q2 => ?_)
  · show W p l e room_1 s m #[Value.ref b] below meth c H locs cells slots Q (F0 m 312 ls rest)
    refine law_arg (pc := 312) (k := 1) (kn := 1) X hS hl hi (by decide) (by decide) dL_law_312 dL_law_313 dL_law_314 dL_law_315 dL_law_316 ?_
    exact k
  · show W p l e room_1 s m #[Value.ref b] below meth c H locs cells slots Q (F0 m 321 ls rest)
    refine law_arg (pc := 321) (k := 1) (kn := 1) X hS hl hi (by decide) (by decide) dL_law_321 dL_law_322 dL_law_323 dL_law_324 dL_law_325 ?_
    exact k
  · exact law_eqI (pc := 329) X dL_law_329 (by decide) (next wc' wm' H1 locs1 q1 q2)
theorem law_c4 (X : LawCx p s m c D g z A b L xs) (hI : Inv g h0 h1 wc wm) (hSt : St A s.heap D (wc ++ wm) H locs) (hl : lv_has ls 4 [(0, .ref b), (1, .ref h0), (2, .ref h1), (3, .int (nI i))]) (hi : i + 6 ≤ L) (hr : cells + 24 ≤ room_1.cells ∧ slots + 1111 ≤ room_1.slots) (next : ∀ (wc' wm' : va_W) (H1 : Heap) (locs1 : List Loc), Inv g h0 h1 wc' wm' → St A s.heap D (wc' ++ wm') H1 locs1 → W p l e room_1 s m #[Value.ref b] below meth c H1 locs1 (cells + 24) (slots + 1111) Q (F0 m 1744 ls [])) : W p l e room_1 s m #[Value.ref b] below meth c H locs cells slots Q (F0 m 334 ls []) := by
  refine law_pair (pc := 334) (pc1 := 345) (pc2 := 359) X (o_town (xs (i + 1)) (xs (i + 2))) (fun x => Nat.le_of_ble_eq_true rfl) hI hSt hl hr dL_law_334 (fun H locs cells slots rest hS k => ?_) dL_law_345 dL_law_348 (fun H locs cells slots rest hS k => ?_) dL_law_359 (fun x wc' wm' H1 locs1 q1 q2 => ?_)
  · show W p l e room_1 s m #[Value.ref b] below meth c H locs cells slots Q (F0 m 335 ls rest)
    refine law_arg (pc := 335) (k := 1) (kn := 1) X hS hl hi (by decide) (by decide) dL_law_335 dL_law_336 dL_law_337 dL_law_338 dL_law_339 ?_
    refine law_arg (pc := 340) (k := 2) (kn := 2) X hS hl hi (by decide) (by decide) dL_law_340 dL_law_341 dL_law_342 dL_law_343 dL_law_344 ?_
    exact k
  · show W p l e room_1 s m #[Value.ref b] below meth c H locs cells slots Q (F0 m 349 ls rest)
    refine law_arg (pc := 349) (k := 1) (kn := 1) X hS hl hi (by decide) (by decide) dL_law_349 dL_law_350 dL_law_351 dL_law_352 dL_law_353 ?_
    refine law_arg (pc := 354) (k := 2) (kn := 2) X hS hl hi (by decide) (by decide) dL_law_354 dL_law_355 dL_law_356 dL_law_357 dL_law_358 ?_
    exact k
  · exact law_eqI (pc := 362) X dL_law_362 (by decide) (next wc' wm' H1 locs1 q1 q2)
theorem law_c5 (X : LawCx p s m c D g z A b L xs) (hI : Inv g h0 h1 wc wm) (hSt : St A s.heap D (wc ++ wm) H locs) (hl : lv_has ls 4 [(0, .ref b), (1, .ref h0), (2, .ref h1), (3, .int (nI i))]) (hi : i + 6 ≤ L) (hr : cells + 24 ≤ room_1.cells ∧ slots + 1111 ≤ room_1.slots) (next : ∀ (wc' wm' : va_W) (H1 : Heap) (locs1 : List Loc), Inv g h0 h1 wc' wm' → St A s.heap D (wc' ++ wm') H1 locs1 → W p l e room_1 s m #[Value.ref b] below meth c H1 locs1 (cells + 24) (slots + 1111) Q (F0 m 1744 ls [])) : W p l e room_1 s m #[Value.ref b] below meth c H locs cells slots Q (F0 m 367 ls []) := by
  refine law_pair (pc := 367) (pc1 := 383) (pc2 := 402) X (o_deed (xs (i + 1)) (xs (i + 2)) (xs (i + 3))) (fun x => Nat.le_of_ble_eq_true rfl) hI hSt hl hr dL_law_367 (fun H locs cells slots rest hS k => ?_) dL_law_383 dL_law_386 (fun H locs cells slots rest hS k => ?_) dL_law_402 (fun x wc' wm' H1 locs1 q1 q2 => ?_)
  · show W p l e room_1 s m #[Value.ref b] below meth c H locs cells slots Q (F0 m 368 ls rest)
    refine law_arg (pc := 368) (k := 1) (kn := 1) X hS hl hi (by decide) (by decide) dL_law_368 dL_law_369 dL_law_370 dL_law_371 dL_law_372 ?_
    refine law_arg (pc := 373) (k := 2) (kn := 2) X hS hl hi (by decide) (by decide) dL_law_373 dL_law_374 dL_law_375 dL_law_376 dL_law_377 ?_
    refine law_arg (pc := 378) (k := 3) (kn := 3) X hS hl hi (by decide) (by decide) dL_law_378 dL_law_379 dL_law_380 dL_law_381 dL_law_382 ?_
    exact k
  · show W p l e room_1 s m #[Value.ref b] below meth c H locs cells slots Q (F0 m 387 ls rest)
    refine law_arg (pc := 387) (k := 1) (kn := 1) X hS hl hi (by decide) (by decide) dL_law_387 dL_law_388 dL_law_389 dL_law_390 dL_law_391 ?_
    refine law_arg (pc := 392) (k := 2) (kn := 2) X hS hl hi (by decide) (by decide) dL_law_392 dL_law_393 dL_law_394 dL_law_395 dL_law_396 ?_
    refine law_arg (pc := 397) (k := 3) (kn := 3) X hS hl hi (by decide) (by decide) dL_law_397 dL_law_398 dL_law_399 dL_law_400 dL_law_401 ?_
    exact k
  · exact law_eqI (pc := 405) X dL_law_405 (by decide) (next wc' wm' H1 locs1 q1 q2)
theorem law_c6 (X : LawCx p s m c D g z A b L xs) (hI : Inv g h0 h1 wc wm) (hSt : St A s.heap D (wc ++ wm) H locs) (hl : lv_has ls 4 [(0, .ref b), (1, .ref h0), (2, .ref h1), (3, .int (nI i))]) (hi : i + 6 ≤ L) (hr : cells + 24 ≤ room_1.cells ∧ slots + 1111 ≤ room_1.slots) (next : ∀ (wc' wm' : va_W) (H1 : Heap) (locs1 : List Loc), Inv g h0 h1 wc' wm' → St A s.heap D (wc' ++ wm') H1 locs1 → W p l e room_1 s m #[Value.ref b] below meth c H1 locs1 (cells + 24) (slots + 1111) Q (F0 m 1744 ls [])) : W p l e room_1 s m #[Value.ref b] below meth c H locs cells slots Q (F0 m 410 ls []) := by
  refine law_pair (pc := 410) (pc1 := 421) (pc2 := 435) X (o_till (xs (i + 1)) (xs (i + 2))) (fun x => Nat.le_of_ble_eq_true rfl) hI hSt hl hr dL_law_410 (fun H locs cells slots rest hS k => ?_) dL_law_421 dL_law_424 (fun H locs cells slots rest hS k => ?_) dL_law_435 (fun x wc' wm' H1 locs1 q1 q2 => ?_)
  · show W p l e room_1 s m #[Value.ref b] below meth c H locs cells slots Q (F0 m 411 ls rest)
    refine law_arg (pc := 411) (k := 1) (kn := 1) X hS hl hi (by decide) (by decide) dL_law_411 dL_law_412 dL_law_413 dL_law_414 dL_law_415 ?_
    refine law_arg (pc := 416) (k := 2) (kn := 2) X hS hl hi (by decide) (by decide) dL_law_416 dL_law_417 dL_law_418 dL_law_419 dL_law_420 ?_
    exact k
  · show W p l e room_1 s m #[Value.ref b] below meth c H locs cells slots Q (F0 m 425 ls rest)
    refine law_arg (pc := 425) (k := 1) (kn := 1) X hS hl hi (by decide) (by decide) dL_law_425 dL_law_426 dL_law_427 dL_law_428 dL_law_429 ?_
    refine law_arg (pc := 430) (k := 2) (kn := 2) X hS hl hi (by decide) (by decide) dL_law_430 dL_law_431 dL_law_432 dL_law_433 dL_law_434 ?_
    exact k
  · exact law_eqI (pc := 438) X dL_law_438 (by decide) (next wc' wm' H1 locs1 q1 q2)
theorem law_c7 (X : LawCx p s m c D g z A b L xs) (hI : Inv g h0 h1 wc wm) (hSt : St A s.heap D (wc ++ wm) H locs) (hl : lv_has ls 4 [(0, .ref b), (1, .ref h0), (2, .ref h1), (3, .int (nI i))]) (hi : i + 6 ≤ L) (hr : cells + 24 ≤ room_1.cells ∧ slots + 1111 ≤ room_1.slots) (next : ∀ (wc' wm' : va_W) (H1 : Heap) (locs1 : List Loc), Inv g h0 h1 wc' wm' → St A s.heap D (wc' ++ wm') H1 locs1 → W p l e room_1 s m #[Value.ref b] below meth c H1 locs1 (cells + 24) (slots + 1111) Q (F0 m 1744 ls [])) : W p l e room_1 s m #[Value.ref b] below meth c H locs cells slots Q (F0 m 443 ls []) := by
  refine law_pair (pc := 443) (pc1 := 464) (pc2 := 488) X (o_state (xs (i + 1)) (xs (i + 2)) (xs (i + 3)) (xs (i + 4))) (fun x => Nat.le_of_ble_eq_true rfl) hI hSt hl hr dL_law_443 (fun H locs cells slots rest hS k => ?_) dL_law_464 dL_law_467 (fun H locs cells slots rest hS k => ?_) dL_law_488 (fun x wc' wm' H1 locs1 q1 q2 => ?_)
  · show W p l e room_1 s m #[Value.ref b] below meth c H locs cells slots Q (F0 m 444 ls rest)
    refine law_arg (pc := 444) (k := 1) (kn := 1) X hS hl hi (by decide) (by decide) dL_law_444 dL_law_445 dL_law_446 dL_law_447 dL_law_448 ?_
    refine law_arg (pc := 449) (k := 2) (kn := 2) X hS hl hi (by decide) (by decide) dL_law_449 dL_law_450 dL_law_451 dL_law_452 dL_law_453 ?_
    refine law_arg (pc := 454) (k := 3) (kn := 3) X hS hl hi (by decide) (by decide) dL_law_454 dL_law_455 dL_law_456 dL_law_457 dL_law_458 ?_
    refine law_arg (pc := 459) (k := 4) (kn := 4) X hS hl hi (by decide) (by decide) dL_law_459 dL_law_460 dL_law_461 dL_law_462 dL_law_463 ?_
    exact k
  · show W p l e room_1 s m #[Value.ref b] below meth c H locs cells slots Q (F0 m 468 ls rest)
    refine law_arg (pc := 468) (k := 1) (kn := 1) X hS hl hi (by decide) (by decide) dL_law_468 dL_law_469 dL_law_470 dL_law_471 dL_law_472 ?_
    refine law_arg (pc := 473) (k := 2) (kn := 2) X hS hl hi (by decide) (by decide) dL_law_473 dL_law_474 dL_law_475 dL_law_476 dL_law_477 ?_
    refine law_arg (pc := 478) (k := 3) (kn := 3) X hS hl hi (by decide) (by decide) dL_law_478 dL_law_479 dL_law_480 dL_law_481 dL_law_482 ?_
    refine law_arg (pc := 483) (k := 4) (kn := 4) X hS hl hi (by decide) (by decide) dL_law_483 dL_law_484 dL_law_485 dL_law_486 dL_law_487 ?_
    exact k
  · exact law_eqI (pc := 491) X dL_law_491 (by decide) (next wc' wm' H1 locs1 q1 q2)
theorem law_c8 (X : LawCx p s m c D g z A b L xs) (hI : Inv g h0 h1 wc wm) (hSt : St A s.heap D (wc ++ wm) H locs) (hl : lv_has ls 4 [(0, .ref b), (1, .ref h0), (2, .ref h1), (3, .int (nI i))]) (hi : i + 6 ≤ L) (hr : cells + 24 ≤ room_1.cells ∧ slots + 1111 ≤ room_1.slots) (next : ∀ (wc' wm' : va_W) (H1 : Heap) (locs1 : List Loc), Inv g h0 h1 wc' wm' → St A s.heap D (wc' ++ wm') H1 locs1 → W p l e room_1 s m #[Value.ref b] below meth c H1 locs1 (cells + 24) (slots + 1111) Q (F0 m 1744 ls [])) : W p l e room_1 s m #[Value.ref b] below meth c H locs cells slots Q (F0 m 496 ls []) := by
  refine law_pair (pc := 496) (pc1 := 520) (pc2 := 547) X (o_court (xs (i + 1)) (xs (i + 2)) (bN (xs (i + 3)))) (fun x => Nat.le_of_ble_eq_true rfl) hI hSt hl hr dL_law_496 (fun H locs cells slots rest hS k => ?_) dL_law_520 dL_law_523 (fun H locs cells slots rest hS k => ?_) dL_law_547 (fun x wc' wm' H1 locs1 q1 q2 => ?_)
  · show W p l e room_1 s m #[Value.ref b] below meth c H locs cells slots Q (F0 m 497 ls rest)
    refine law_arg (pc := 497) (k := 1) (kn := 1) X hS hl hi (by decide) (by decide) dL_law_497 dL_law_498 dL_law_499 dL_law_500 dL_law_501 ?_
    refine law_arg (pc := 502) (k := 2) (kn := 2) X hS hl hi (by decide) (by decide) dL_law_502 dL_law_503 dL_law_504 dL_law_505 dL_law_506 ?_
    refine law_argb (pc := 507) (k := 3) (kn := 3) X hS hl hi (by decide) (by decide) dL_law_507 dL_law_508 dL_law_509 dL_law_510 dL_law_511 dL_law_512 dL_law_515 dL_law_516 dL_law_519 ?_
    exact k
  · show W p l e room_1 s m #[Value.ref b] below meth c H locs cells slots Q (F0 m 524 ls rest)
    refine law_arg (pc := 524) (k := 1) (kn := 1) X hS hl hi (by decide) (by decide) dL_law_524 dL_law_525 dL_law_526 dL_law_527 dL_law_528 ?_
    refine law_arg (pc := 529) (k := 2) (kn := 2) X hS hl hi (by decide) (by decide) dL_law_529 dL_law_530 dL_law_531 dL_law_532 dL_law_533 ?_
    refine law_argb (pc := 534) (k := 3) (kn := 3) X hS hl hi (by decide) (by decide) dL_law_534 dL_law_535 dL_law_536 dL_law_537 dL_law_538 dL_law_539 dL_law_542 dL_law_543 dL_law_546 ?_
    exact k
  · exact law_eqI (pc := 550) X dL_law_550 (by decide) (next wc' wm' H1 locs1 q1 q2)
theorem law_c9 (X : LawCx p s m c D g z A b L xs) (hI : Inv g h0 h1 wc wm) (hSt : St A s.heap D (wc ++ wm) H locs) (hl : lv_has ls 4 [(0, .ref b), (1, .ref h0), (2, .ref h1), (3, .int (nI i))]) (hi : i + 6 ≤ L) (hr : cells + 24 ≤ room_1.cells ∧ slots + 1111 ≤ room_1.slots) (next : ∀ (wc' wm' : va_W) (H1 : Heap) (locs1 : List Loc), Inv g h0 h1 wc' wm' → St A s.heap D (wc' ++ wm') H1 locs1 → W p l e room_1 s m #[Value.ref b] below meth c H1 locs1 (cells + 24) (slots + 1111) Q (F0 m 1744 ls [])) : W p l e room_1 s m #[Value.ref b] below meth c H locs cells slots Q (F0 m 555 ls []) := by
  refine law_pair (pc := 555) (pc1 := 574) (pc2 := 596) X (o_rota (xs (i + 1)) (bN (xs (i + 2)))) (fun x => Nat.le_of_ble_eq_true rfl) hI hSt hl hr dL_law_555 (fun H locs cells slots rest hS k => ?_) dL_law_574 dL_law_577 (fun H locs cells slots rest hS k => ?_) dL_law_596 (fun x wc' wm' H1 locs1 q1 q2 => ?_)
  · show W p l e room_1 s m #[Value.ref b] below meth c H locs cells slots Q (F0 m 556 ls rest)
    refine law_arg (pc := 556) (k := 1) (kn := 1) X hS hl hi (by decide) (by decide) dL_law_556 dL_law_557 dL_law_558 dL_law_559 dL_law_560 ?_
    refine law_argb (pc := 561) (k := 2) (kn := 2) X hS hl hi (by decide) (by decide) dL_law_561 dL_law_562 dL_law_563 dL_law_564 dL_law_565 dL_law_566 dL_law_569 dL_law_570 dL_law_573 ?_
    exact k
  · show W p l e room_1 s m #[Value.ref b] below meth c H locs cells slots Q (F0 m 578 ls rest)
    refine law_arg (pc := 578) (k := 1) (kn := 1) X hS hl hi (by decide) (by decide) dL_law_578 dL_law_579 dL_law_580 dL_law_581 dL_law_582 ?_
    refine law_argb (pc := 583) (k := 2) (kn := 2) X hS hl hi (by decide) (by decide) dL_law_583 dL_law_584 dL_law_585 dL_law_586 dL_law_587 dL_law_588 dL_law_591 dL_law_592 dL_law_595 ?_
    exact k
  · exact law_eqI (pc := 599) X dL_law_599 (by decide) (next wc' wm' H1 locs1 q1 q2)
theorem law_c10 (X : LawCx p s m c D g z A b L xs) (hI : Inv g h0 h1 wc wm) (hSt : St A s.heap D (wc ++ wm) H locs) (hl : lv_has ls 4 [(0, .ref b), (1, .ref h0), (2, .ref h1), (3, .int (nI i))]) (hi : i + 6 ≤ L) (hr : cells + 24 ≤ room_1.cells ∧ slots + 1111 ≤ room_1.slots) (next : ∀ (wc' wm' : va_W) (H1 : Heap) (locs1 : List Loc), Inv g h0 h1 wc' wm' → St A s.heap D (wc' ++ wm') H1 locs1 → W p l e room_1 s m #[Value.ref b] below meth c H1 locs1 (cells + 24) (slots + 1111) Q (F0 m 1744 ls [])) : W p l e room_1 s m #[Value.ref b] below meth c H locs cells slots Q (F0 m 604 ls []) := by
  refine law_pair (pc := 604) (pc1 := 615) (pc2 := 629) X (o_net (xs (i + 1)) (xs (i + 2))) (fun x => Nat.le_of_ble_eq_true rfl) hI hSt hl hr dL_law_604 (fun H locs cells slots rest hS k => ?_) dL_law_615 dL_law_618 (fun H locs cells slots rest hS k => ?_) dL_law_629 (fun x wc' wm' H1 locs1 q1 q2 => ?_)
  · show W p l e room_1 s m #[Value.ref b] below meth c H locs cells slots Q (F0 m 605 ls rest)
    refine law_arg (pc := 605) (k := 1) (kn := 1) X hS hl hi (by decide) (by decide) dL_law_605 dL_law_606 dL_law_607 dL_law_608 dL_law_609 ?_
    refine law_arg (pc := 610) (k := 2) (kn := 2) X hS hl hi (by decide) (by decide) dL_law_610 dL_law_611 dL_law_612 dL_law_613 dL_law_614 ?_
    exact k
  · show W p l e room_1 s m #[Value.ref b] below meth c H locs cells slots Q (F0 m 619 ls rest)
    refine law_arg (pc := 619) (k := 1) (kn := 1) X hS hl hi (by decide) (by decide) dL_law_619 dL_law_620 dL_law_621 dL_law_622 dL_law_623 ?_
    refine law_arg (pc := 624) (k := 2) (kn := 2) X hS hl hi (by decide) (by decide) dL_law_624 dL_law_625 dL_law_626 dL_law_627 dL_law_628 ?_
    exact k
  · exact law_eqI (pc := 632) X dL_law_632 (by decide) (next wc' wm' H1 locs1 q1 q2)
theorem law_c11 (X : LawCx p s m c D g z A b L xs) (hI : Inv g h0 h1 wc wm) (hSt : St A s.heap D (wc ++ wm) H locs) (hl : lv_has ls 4 [(0, .ref b), (1, .ref h0), (2, .ref h1), (3, .int (nI i))]) (hi : i + 6 ≤ L) (hr : cells + 24 ≤ room_1.cells ∧ slots + 1111 ≤ room_1.slots) (next : ∀ (wc' wm' : va_W) (H1 : Heap) (locs1 : List Loc), Inv g h0 h1 wc' wm' → St A s.heap D (wc' ++ wm') H1 locs1 → W p l e room_1 s m #[Value.ref b] below meth c H1 locs1 (cells + 24) (slots + 1111) Q (F0 m 1744 ls [])) : W p l e room_1 s m #[Value.ref b] below meth c H locs cells slots Q (F0 m 637 ls []) := by
  refine law_pair (pc := 637) (pc1 := 643) (pc2 := 652) X (o_settled (xs (i + 1))) (fun x => Nat.le_of_ble_eq_true rfl) hI hSt hl hr dL_law_637 (fun H locs cells slots rest hS k => ?_) dL_law_643 dL_law_646 (fun H locs cells slots rest hS k => ?_) dL_law_652 (fun x wc' wm' H1 locs1 q1 q2 => ?_)
  · show W p l e room_1 s m #[Value.ref b] below meth c H locs cells slots Q (F0 m 638 ls rest)
    refine law_arg (pc := 638) (k := 1) (kn := 1) X hS hl hi (by decide) (by decide) dL_law_638 dL_law_639 dL_law_640 dL_law_641 dL_law_642 ?_
    exact k
  · show W p l e room_1 s m #[Value.ref b] below meth c H locs cells slots Q (F0 m 647 ls rest)
    refine law_arg (pc := 647) (k := 1) (kn := 1) X hS hl hi (by decide) (by decide) dL_law_647 dL_law_648 dL_law_649 dL_law_650 dL_law_651 ?_
    exact k
  · exact law_eqI (pc := 655) X dL_law_655 (by decide) (next wc' wm' H1 locs1 q1 q2)
theorem law_c12 (X : LawCx p s m c D g z A b L xs) (hI : Inv g h0 h1 wc wm) (hSt : St A s.heap D (wc ++ wm) H locs) (hl : lv_has ls 4 [(0, .ref b), (1, .ref h0), (2, .ref h1), (3, .int (nI i))]) (hi : i + 6 ≤ L) (hr : cells + 24 ≤ room_1.cells ∧ slots + 1111 ≤ room_1.slots) (next : ∀ (wc' wm' : va_W) (H1 : Heap) (locs1 : List Loc), Inv g h0 h1 wc' wm' → St A s.heap D (wc' ++ wm') H1 locs1 → W p l e room_1 s m #[Value.ref b] below meth c H1 locs1 (cells + 24) (slots + 1111) Q (F0 m 1744 ls [])) : W p l e room_1 s m #[Value.ref b] below meth c H locs cells slots Q (F0 m 660 ls []) := by
  refine law_pair (pc := 660) (pc1 := 671) (pc2 := 685) X (o_ruin (xs (i + 1)) (xs (i + 2))) (fun x => Nat.le_of_ble_eq_true rfl) hI hSt hl hr dL_law_660 (fun H locs cells slots rest hS k => ?_) dL_law_671 dL_law_674 (fun H locs cells slots rest hS k => ?_) dL_law_685 (fun x wc' wm' H1 locs1 q1 q2 => ?_)
  · show W p l e room_1 s m #[Value.ref b] below meth c H locs cells slots Q (F0 m 661 ls rest)
    refine law_arg (pc := 661) (k := 1) (kn := 1) X hS hl hi (by decide) (by decide) dL_law_661 dL_law_662 dL_law_663 dL_law_664 dL_law_665 ?_
    refine law_arg (pc := 666) (k := 2) (kn := 2) X hS hl hi (by decide) (by decide) dL_law_666 dL_law_667 dL_law_668 dL_law_669 dL_law_670 ?_
    exact k
  · show W p l e room_1 s m #[Value.ref b] below meth c H locs cells slots Q (F0 m 675 ls rest)
    refine law_arg (pc := 675) (k := 1) (kn := 1) X hS hl hi (by decide) (by decide) dL_law_675 dL_law_676 dL_law_677 dL_law_678 dL_law_679 ?_
    refine law_arg (pc := 680) (k := 2) (kn := 2) X hS hl hi (by decide) (by decide) dL_law_680 dL_law_681 dL_law_682 dL_law_683 dL_law_684 ?_
    exact k
  · exact law_eqI (pc := 688) X dL_law_688 (by decide) (next wc' wm' H1 locs1 q1 q2)
theorem law_c13 (X : LawCx p s m c D g z A b L xs) (hI : Inv g h0 h1 wc wm) (hSt : St A s.heap D (wc ++ wm) H locs) (hl : lv_has ls 4 [(0, .ref b), (1, .ref h0), (2, .ref h1), (3, .int (nI i))]) (hi : i + 6 ≤ L) (hr : cells + 24 ≤ room_1.cells ∧ slots + 1111 ≤ room_1.slots) (next : ∀ (wc' wm' : va_W) (H1 : Heap) (locs1 : List Loc), Inv g h0 h1 wc' wm' → St A s.heap D (wc' ++ wm') H1 locs1 → W p l e room_1 s m #[Value.ref b] below meth c H1 locs1 (cells + 24) (slots + 1111) Q (F0 m 1744 ls [])) : W p l e room_1 s m #[Value.ref b] below meth c H locs cells slots Q (F0 m 693 ls []) := by
  refine law_pair (pc := 693) (pc1 := 714) (pc2 := 738) X (o_borrow (xs (i + 1)) (xs (i + 2)) (xs (i + 3)) (xs (i + 4))) (fun x => Nat.le_of_ble_eq_true rfl) hI hSt hl hr dL_law_693 (fun H locs cells slots rest hS k => ?_) dL_law_714 dL_law_717 (fun H locs cells slots rest hS k => ?_) dL_law_738 (fun x wc' wm' H1 locs1 q1 q2 => ?_)
  · show W p l e room_1 s m #[Value.ref b] below meth c H locs cells slots Q (F0 m 694 ls rest)
    refine law_arg (pc := 694) (k := 1) (kn := 1) X hS hl hi (by decide) (by decide) dL_law_694 dL_law_695 dL_law_696 dL_law_697 dL_law_698 ?_
    refine law_arg (pc := 699) (k := 2) (kn := 2) X hS hl hi (by decide) (by decide) dL_law_699 dL_law_700 dL_law_701 dL_law_702 dL_law_703 ?_
    refine law_arg (pc := 704) (k := 3) (kn := 3) X hS hl hi (by decide) (by decide) dL_law_704 dL_law_705 dL_law_706 dL_law_707 dL_law_708 ?_
    refine law_arg (pc := 709) (k := 4) (kn := 4) X hS hl hi (by decide) (by decide) dL_law_709 dL_law_710 dL_law_711 dL_law_712 dL_law_713 ?_
    exact k
  · show W p l e room_1 s m #[Value.ref b] below meth c H locs cells slots Q (F0 m 718 ls rest)
    refine law_arg (pc := 718) (k := 1) (kn := 1) X hS hl hi (by decide) (by decide) dL_law_718 dL_law_719 dL_law_720 dL_law_721 dL_law_722 ?_
    refine law_arg (pc := 723) (k := 2) (kn := 2) X hS hl hi (by decide) (by decide) dL_law_723 dL_law_724 dL_law_725 dL_law_726 dL_law_727 ?_
    refine law_arg (pc := 728) (k := 3) (kn := 3) X hS hl hi (by decide) (by decide) dL_law_728 dL_law_729 dL_law_730 dL_law_731 dL_law_732 ?_
    refine law_arg (pc := 733) (k := 4) (kn := 4) X hS hl hi (by decide) (by decide) dL_law_733 dL_law_734 dL_law_735 dL_law_736 dL_law_737 ?_
    exact k
  · exact law_eqI (pc := 741) X dL_law_741 (by decide) (next wc' wm' H1 locs1 q1 q2)
theorem law_c14 (X : LawCx p s m c D g z A b L xs) (hI : Inv g h0 h1 wc wm) (hSt : St A s.heap D (wc ++ wm) H locs) (hl : lv_has ls 4 [(0, .ref b), (1, .ref h0), (2, .ref h1), (3, .int (nI i))]) (hi : i + 6 ≤ L) (hr : cells + 24 ≤ room_1.cells ∧ slots + 1111 ≤ room_1.slots) (next : ∀ (wc' wm' : va_W) (H1 : Heap) (locs1 : List Loc), Inv g h0 h1 wc' wm' → St A s.heap D (wc' ++ wm') H1 locs1 → W p l e room_1 s m #[Value.ref b] below meth c H1 locs1 (cells + 24) (slots + 1111) Q (F0 m 1744 ls [])) : W p l e room_1 s m #[Value.ref b] below meth c H locs cells slots Q (F0 m 746 ls []) := by
  refine law_pair (pc := 746) (pc1 := 757) (pc2 := 771) X (o_lenders (xs (i + 1)) (xs (i + 2))) (fun x => Nat.le_of_ble_eq_true rfl) hI hSt hl hr dL_law_746 (fun H locs cells slots rest hS k => ?_) dL_law_757 dL_law_760 (fun H locs cells slots rest hS k => ?_) dL_law_771 (fun x wc' wm' H1 locs1 q1 q2 => ?_)
  · show W p l e room_1 s m #[Value.ref b] below meth c H locs cells slots Q (F0 m 747 ls rest)
    refine law_arg (pc := 747) (k := 1) (kn := 1) X hS hl hi (by decide) (by decide) dL_law_747 dL_law_748 dL_law_749 dL_law_750 dL_law_751 ?_
    refine law_arg (pc := 752) (k := 2) (kn := 2) X hS hl hi (by decide) (by decide) dL_law_752 dL_law_753 dL_law_754 dL_law_755 dL_law_756 ?_
    exact k
  · show W p l e room_1 s m #[Value.ref b] below meth c H locs cells slots Q (F0 m 761 ls rest)
    refine law_arg (pc := 761) (k := 1) (kn := 1) X hS hl hi (by decide) (by decide) dL_law_761 dL_law_762 dL_law_763 dL_law_764 dL_law_765 ?_
    refine law_arg (pc := 766) (k := 2) (kn := 2) X hS hl hi (by decide) (by decide) dL_law_766 dL_law_767 dL_law_768 dL_law_769 dL_law_770 ?_
    exact k
  · exact law_eqI (pc := 774) X dL_law_774 (by decide) (next wc' wm' H1 locs1 q1 q2)
theorem law_c15 (X : LawCx p s m c D g z A b L xs) (hI : Inv g h0 h1 wc wm) (hSt : St A s.heap D (wc ++ wm) H locs) (hl : lv_has ls 4 [(0, .ref b), (1, .ref h0), (2, .ref h1), (3, .int (nI i))]) (hi : i + 6 ≤ L) (hr : cells + 24 ≤ room_1.cells ∧ slots + 1111 ≤ room_1.slots) (next : ∀ (wc' wm' : va_W) (H1 : Heap) (locs1 : List Loc), Inv g h0 h1 wc' wm' → St A s.heap D (wc' ++ wm') H1 locs1 → W p l e room_1 s m #[Value.ref b] below meth c H1 locs1 (cells + 24) (slots + 1111) Q (F0 m 1744 ls [])) : W p l e room_1 s m #[Value.ref b] below meth c H locs cells slots Q (F0 m 779 ls []) := by
  refine law_pair (pc := 779) (pc1 := 803) (pc2 := 830) X (o_choice (xs (i + 1)) (xs (i + 2)) (bN (xs (i + 3)))) (fun x => Nat.le_of_ble_eq_true rfl) hI hSt hl hr dL_law_779 (fun H locs cells slots rest hS k => ?_) dL_law_803 dL_law_806 (fun H locs cells slots rest hS k => ?_) dL_law_830 (fun x wc' wm' H1 locs1 q1 q2 => ?_)
  · show W p l e room_1 s m #[Value.ref b] below meth c H locs cells slots Q (F0 m 780 ls rest)
    refine law_arg (pc := 780) (k := 1) (kn := 1) X hS hl hi (by decide) (by decide) dL_law_780 dL_law_781 dL_law_782 dL_law_783 dL_law_784 ?_
    refine law_arg (pc := 785) (k := 2) (kn := 2) X hS hl hi (by decide) (by decide) dL_law_785 dL_law_786 dL_law_787 dL_law_788 dL_law_789 ?_
    refine law_argb (pc := 790) (k := 3) (kn := 3) X hS hl hi (by decide) (by decide) dL_law_790 dL_law_791 dL_law_792 dL_law_793 dL_law_794 dL_law_795 dL_law_798 dL_law_799 dL_law_802 ?_
    exact k
  · show W p l e room_1 s m #[Value.ref b] below meth c H locs cells slots Q (F0 m 807 ls rest)
    refine law_arg (pc := 807) (k := 1) (kn := 1) X hS hl hi (by decide) (by decide) dL_law_807 dL_law_808 dL_law_809 dL_law_810 dL_law_811 ?_
    refine law_arg (pc := 812) (k := 2) (kn := 2) X hS hl hi (by decide) (by decide) dL_law_812 dL_law_813 dL_law_814 dL_law_815 dL_law_816 ?_
    refine law_argb (pc := 817) (k := 3) (kn := 3) X hS hl hi (by decide) (by decide) dL_law_817 dL_law_818 dL_law_819 dL_law_820 dL_law_821 dL_law_822 dL_law_825 dL_law_826 dL_law_829 ?_
    exact k
  · exact law_eqI (pc := 833) X dL_law_833 (by decide) (next wc' wm' H1 locs1 q1 q2)
theorem law_c16 (X : LawCx p s m c D g z A b L xs) (hI : Inv g h0 h1 wc wm) (hSt : St A s.heap D (wc ++ wm) H locs) (hl : lv_has ls 4 [(0, .ref b), (1, .ref h0), (2, .ref h1), (3, .int (nI i))]) (hi : i + 6 ≤ L) (hr : cells + 24 ≤ room_1.cells ∧ slots + 1111 ≤ room_1.slots) (next : ∀ (wc' wm' : va_W) (H1 : Heap) (locs1 : List Loc), Inv g h0 h1 wc' wm' → St A s.heap D (wc' ++ wm') H1 locs1 → W p l e room_1 s m #[Value.ref b] below meth c H1 locs1 (cells + 24) (slots + 1111) Q (F0 m 1744 ls [])) : W p l e room_1 s m #[Value.ref b] below meth c H locs cells slots Q (F0 m 838 ls []) := by
  refine law_pair (pc := 838) (pc1 := 872) (pc2 := 909) X (o_talk (xs (i + 1)) (xs (i + 2)) (xs (i + 3)) (xs (i + 4)) (bN (xs (i + 5)))) (fun x => Nat.le_of_ble_eq_true rfl) hI hSt hl hr dL_law_838 (fun H locs cells slots rest hS k => ?_) dL_law_872 dL_law_875 (fun H locs cells slots rest hS k => ?_) dL_law_909 (fun x wc' wm' H1 locs1 q1 q2 => ?_)
  · show W p l e room_1 s m #[Value.ref b] below meth c H locs cells slots Q (F0 m 839 ls rest)
    refine law_arg (pc := 839) (k := 1) (kn := 1) X hS hl hi (by decide) (by decide) dL_law_839 dL_law_840 dL_law_841 dL_law_842 dL_law_843 ?_
    refine law_arg (pc := 844) (k := 2) (kn := 2) X hS hl hi (by decide) (by decide) dL_law_844 dL_law_845 dL_law_846 dL_law_847 dL_law_848 ?_
    refine law_arg (pc := 849) (k := 3) (kn := 3) X hS hl hi (by decide) (by decide) dL_law_849 dL_law_850 dL_law_851 dL_law_852 dL_law_853 ?_
    refine law_arg (pc := 854) (k := 4) (kn := 4) X hS hl hi (by decide) (by decide) dL_law_854 dL_law_855 dL_law_856 dL_law_857 dL_law_858 ?_
    refine law_argb (pc := 859) (k := 5) (kn := 5) X hS hl hi (by decide) (by decide) dL_law_859 dL_law_860 dL_law_861 dL_law_862 dL_law_863 dL_law_864 dL_law_867 dL_law_868 dL_law_871 ?_
    exact k
  · show W p l e room_1 s m #[Value.ref b] below meth c H locs cells slots Q (F0 m 876 ls rest)
    refine law_arg (pc := 876) (k := 1) (kn := 1) X hS hl hi (by decide) (by decide) dL_law_876 dL_law_877 dL_law_878 dL_law_879 dL_law_880 ?_
    refine law_arg (pc := 881) (k := 2) (kn := 2) X hS hl hi (by decide) (by decide) dL_law_881 dL_law_882 dL_law_883 dL_law_884 dL_law_885 ?_
    refine law_arg (pc := 886) (k := 3) (kn := 3) X hS hl hi (by decide) (by decide) dL_law_886 dL_law_887 dL_law_888 dL_law_889 dL_law_890 ?_
    refine law_arg (pc := 891) (k := 4) (kn := 4) X hS hl hi (by decide) (by decide) dL_law_891 dL_law_892 dL_law_893 dL_law_894 dL_law_895 ?_
    refine law_argb (pc := 896) (k := 5) (kn := 5) X hS hl hi (by decide) (by decide) dL_law_896 dL_law_897 dL_law_898 dL_law_899 dL_law_900 dL_law_901 dL_law_904 dL_law_905 dL_law_908 ?_
    exact k
  · exact law_eqL (pc := 912) X dL_law_912 dL_law_913 (by decide) (next wc' wm' H1 locs1 q1 q2)
theorem law_c17 (X : LawCx p s m c D g z A b L xs) (hI : Inv g h0 h1 wc wm) (hSt : St A s.heap D (wc ++ wm) H locs) (hl : lv_has ls 4 [(0, .ref b), (1, .ref h0), (2, .ref h1), (3, .int (nI i))]) (hi : i + 6 ≤ L) (hr : cells + 24 ≤ room_1.cells ∧ slots + 1111 ≤ room_1.slots) (next : ∀ (wc' wm' : va_W) (H1 : Heap) (locs1 : List Loc), Inv g h0 h1 wc' wm' → St A s.heap D (wc' ++ wm') H1 locs1 → W p l e room_1 s m #[Value.ref b] below meth c H1 locs1 (cells + 24) (slots + 1111) Q (F0 m 1744 ls [])) : W p l e room_1 s m #[Value.ref b] below meth c H locs cells slots Q (F0 m 918 ls []) := by
  refine law_pair (pc := 918) (pc1 := 934) (pc2 := 953) X (o_fact (xs (i + 1)) (xs (i + 2)) (xs (i + 3))) (fun x => Nat.le_of_ble_eq_true rfl) hI hSt hl hr dL_law_918 (fun H locs cells slots rest hS k => ?_) dL_law_934 dL_law_937 (fun H locs cells slots rest hS k => ?_) dL_law_953 (fun x wc' wm' H1 locs1 q1 q2 => ?_)
  · show W p l e room_1 s m #[Value.ref b] below meth c H locs cells slots Q (F0 m 919 ls rest)
    refine law_arg (pc := 919) (k := 1) (kn := 1) X hS hl hi (by decide) (by decide) dL_law_919 dL_law_920 dL_law_921 dL_law_922 dL_law_923 ?_
    refine law_arg (pc := 924) (k := 2) (kn := 2) X hS hl hi (by decide) (by decide) dL_law_924 dL_law_925 dL_law_926 dL_law_927 dL_law_928 ?_
    refine law_arg (pc := 929) (k := 3) (kn := 3) X hS hl hi (by decide) (by decide) dL_law_929 dL_law_930 dL_law_931 dL_law_932 dL_law_933 ?_
    exact k
  · show W p l e room_1 s m #[Value.ref b] below meth c H locs cells slots Q (F0 m 938 ls rest)
    refine law_arg (pc := 938) (k := 1) (kn := 1) X hS hl hi (by decide) (by decide) dL_law_938 dL_law_939 dL_law_940 dL_law_941 dL_law_942 ?_
    refine law_arg (pc := 943) (k := 2) (kn := 2) X hS hl hi (by decide) (by decide) dL_law_943 dL_law_944 dL_law_945 dL_law_946 dL_law_947 ?_
    refine law_arg (pc := 948) (k := 3) (kn := 3) X hS hl hi (by decide) (by decide) dL_law_948 dL_law_949 dL_law_950 dL_law_951 dL_law_952 ?_
    exact k
  · exact law_eqI (pc := 956) X dL_law_956 (by decide) (next wc' wm' H1 locs1 q1 q2)
theorem law_c18 (X : LawCx p s m c D g z A b L xs) (hI : Inv g h0 h1 wc wm) (hSt : St A s.heap D (wc ++ wm) H locs) (hl : lv_has ls 4 [(0, .ref b), (1, .ref h0), (2, .ref h1), (3, .int (nI i))]) (hi : i + 6 ≤ L) (hr : cells + 24 ≤ room_1.cells ∧ slots + 1111 ≤ room_1.slots) (next : ∀ (wc' wm' : va_W) (H1 : Heap) (locs1 : List Loc), Inv g h0 h1 wc' wm' → St A s.heap D (wc' ++ wm') H1 locs1 → W p l e room_1 s m #[Value.ref b] below meth c H1 locs1 (cells + 24) (slots + 1111) Q (F0 m 1744 ls [])) : W p l e room_1 s m #[Value.ref b] below meth c H locs cells slots Q (F0 m 961 ls []) := by
  refine law_pair (pc := 961) (pc1 := 977) (pc2 := 996) X (o_fits (xs (i + 1)) (xs (i + 2)) (xs (i + 3))) (fun x => Nat.le_of_ble_eq_true rfl) hI hSt hl hr dL_law_961 (fun H locs cells slots rest hS k => ?_) dL_law_977 dL_law_980 (fun H locs cells slots rest hS k => ?_) dL_law_996 (fun x wc' wm' H1 locs1 q1 q2 => ?_)
  · show W p l e room_1 s m #[Value.ref b] below meth c H locs cells slots Q (F0 m 962 ls rest)
    refine law_arg (pc := 962) (k := 1) (kn := 1) X hS hl hi (by decide) (by decide) dL_law_962 dL_law_963 dL_law_964 dL_law_965 dL_law_966 ?_
    refine law_arg (pc := 967) (k := 2) (kn := 2) X hS hl hi (by decide) (by decide) dL_law_967 dL_law_968 dL_law_969 dL_law_970 dL_law_971 ?_
    refine law_arg (pc := 972) (k := 3) (kn := 3) X hS hl hi (by decide) (by decide) dL_law_972 dL_law_973 dL_law_974 dL_law_975 dL_law_976 ?_
    exact k
  · show W p l e room_1 s m #[Value.ref b] below meth c H locs cells slots Q (F0 m 981 ls rest)
    refine law_arg (pc := 981) (k := 1) (kn := 1) X hS hl hi (by decide) (by decide) dL_law_981 dL_law_982 dL_law_983 dL_law_984 dL_law_985 ?_
    refine law_arg (pc := 986) (k := 2) (kn := 2) X hS hl hi (by decide) (by decide) dL_law_986 dL_law_987 dL_law_988 dL_law_989 dL_law_990 ?_
    refine law_arg (pc := 991) (k := 3) (kn := 3) X hS hl hi (by decide) (by decide) dL_law_991 dL_law_992 dL_law_993 dL_law_994 dL_law_995 ?_
    exact k
  · exact law_eqI (pc := 999) X dL_law_999 (by decide) (next wc' wm' H1 locs1 q1 q2)
theorem law_c19 (X : LawCx p s m c D g z A b L xs) (hI : Inv g h0 h1 wc wm) (hSt : St A s.heap D (wc ++ wm) H locs) (hl : lv_has ls 4 [(0, .ref b), (1, .ref h0), (2, .ref h1), (3, .int (nI i))]) (hi : i + 6 ≤ L) (hr : cells + 24 ≤ room_1.cells ∧ slots + 1111 ≤ room_1.slots) (next : ∀ (wc' wm' : va_W) (H1 : Heap) (locs1 : List Loc), Inv g h0 h1 wc' wm' → St A s.heap D (wc' ++ wm') H1 locs1 → W p l e room_1 s m #[Value.ref b] below meth c H1 locs1 (cells + 24) (slots + 1111) Q (F0 m 1744 ls [])) : W p l e room_1 s m #[Value.ref b] below meth c H locs cells slots Q (F0 m 1004 ls []) := by
  refine law_pair (pc := 1004) (pc1 := 1025) (pc2 := 1049) X (o_drawn (xs (i + 1)) (xs (i + 2)) (xs (i + 3)) (xs (i + 4))) (fun x => Nat.le_of_ble_eq_true rfl) hI hSt hl hr dL_law_1004 (fun H locs cells slots rest hS k => ?_) dL_law_1025 dL_law_1028 (fun H locs cells slots rest hS k => ?_) dL_law_1049 (fun x wc' wm' H1 locs1 q1 q2 => ?_)
  · show W p l e room_1 s m #[Value.ref b] below meth c H locs cells slots Q (F0 m 1005 ls rest)
    refine law_arg (pc := 1005) (k := 1) (kn := 1) X hS hl hi (by decide) (by decide) dL_law_1005 dL_law_1006 dL_law_1007 dL_law_1008 dL_law_1009 ?_
    refine law_arg (pc := 1010) (k := 2) (kn := 2) X hS hl hi (by decide) (by decide) dL_law_1010 dL_law_1011 dL_law_1012 dL_law_1013 dL_law_1014 ?_
    refine law_arg (pc := 1015) (k := 3) (kn := 3) X hS hl hi (by decide) (by decide) dL_law_1015 dL_law_1016 dL_law_1017 dL_law_1018 dL_law_1019 ?_
    refine law_arg (pc := 1020) (k := 4) (kn := 4) X hS hl hi (by decide) (by decide) dL_law_1020 dL_law_1021 dL_law_1022 dL_law_1023 dL_law_1024 ?_
    exact k
  · show W p l e room_1 s m #[Value.ref b] below meth c H locs cells slots Q (F0 m 1029 ls rest)
    refine law_arg (pc := 1029) (k := 1) (kn := 1) X hS hl hi (by decide) (by decide) dL_law_1029 dL_law_1030 dL_law_1031 dL_law_1032 dL_law_1033 ?_
    refine law_arg (pc := 1034) (k := 2) (kn := 2) X hS hl hi (by decide) (by decide) dL_law_1034 dL_law_1035 dL_law_1036 dL_law_1037 dL_law_1038 ?_
    refine law_arg (pc := 1039) (k := 3) (kn := 3) X hS hl hi (by decide) (by decide) dL_law_1039 dL_law_1040 dL_law_1041 dL_law_1042 dL_law_1043 ?_
    refine law_arg (pc := 1044) (k := 4) (kn := 4) X hS hl hi (by decide) (by decide) dL_law_1044 dL_law_1045 dL_law_1046 dL_law_1047 dL_law_1048 ?_
    exact k
  · exact law_eqI (pc := 1052) X dL_law_1052 (by decide) (next wc' wm' H1 locs1 q1 q2)
theorem law_c20 (X : LawCx p s m c D g z A b L xs) (hI : Inv g h0 h1 wc wm) (hSt : St A s.heap D (wc ++ wm) H locs) (hl : lv_has ls 4 [(0, .ref b), (1, .ref h0), (2, .ref h1), (3, .int (nI i))]) (hi : i + 6 ≤ L) (hr : cells + 24 ≤ room_1.cells ∧ slots + 1111 ≤ room_1.slots) (next : ∀ (wc' wm' : va_W) (H1 : Heap) (locs1 : List Loc), Inv g h0 h1 wc' wm' → St A s.heap D (wc' ++ wm') H1 locs1 → W p l e room_1 s m #[Value.ref b] below meth c H1 locs1 (cells + 24) (slots + 1111) Q (F0 m 1744 ls [])) : W p l e room_1 s m #[Value.ref b] below meth c H locs cells slots Q (F0 m 1057 ls []) := by
  refine law_pair (pc := 1057) (pc1 := 1068) (pc2 := 1082) X (o_ring (xs (i + 1)) (xs (i + 2))) (fun x => Nat.le_of_ble_eq_true rfl) hI hSt hl hr dL_law_1057 (fun H locs cells slots rest hS k => ?_) dL_law_1068 dL_law_1071 (fun H locs cells slots rest hS k => ?_) dL_law_1082 (fun x wc' wm' H1 locs1 q1 q2 => ?_)
  · show W p l e room_1 s m #[Value.ref b] below meth c H locs cells slots Q (F0 m 1058 ls rest)
    refine law_arg (pc := 1058) (k := 1) (kn := 1) X hS hl hi (by decide) (by decide) dL_law_1058 dL_law_1059 dL_law_1060 dL_law_1061 dL_law_1062 ?_
    refine law_arg (pc := 1063) (k := 2) (kn := 2) X hS hl hi (by decide) (by decide) dL_law_1063 dL_law_1064 dL_law_1065 dL_law_1066 dL_law_1067 ?_
    exact k
  · show W p l e room_1 s m #[Value.ref b] below meth c H locs cells slots Q (F0 m 1072 ls rest)
    refine law_arg (pc := 1072) (k := 1) (kn := 1) X hS hl hi (by decide) (by decide) dL_law_1072 dL_law_1073 dL_law_1074 dL_law_1075 dL_law_1076 ?_
    refine law_arg (pc := 1077) (k := 2) (kn := 2) X hS hl hi (by decide) (by decide) dL_law_1077 dL_law_1078 dL_law_1079 dL_law_1080 dL_law_1081 ?_
    exact k
  · exact law_eqI (pc := 1085) X dL_law_1085 (by decide) (next wc' wm' H1 locs1 q1 q2)
theorem law_c21 (X : LawCx p s m c D g z A b L xs) (hI : Inv g h0 h1 wc wm) (hSt : St A s.heap D (wc ++ wm) H locs) (hl : lv_has ls 4 [(0, .ref b), (1, .ref h0), (2, .ref h1), (3, .int (nI i))]) (hi : i + 6 ≤ L) (hr : cells + 24 ≤ room_1.cells ∧ slots + 1111 ≤ room_1.slots) (next : ∀ (wc' wm' : va_W) (H1 : Heap) (locs1 : List Loc), Inv g h0 h1 wc' wm' → St A s.heap D (wc' ++ wm') H1 locs1 → W p l e room_1 s m #[Value.ref b] below meth c H1 locs1 (cells + 24) (slots + 1111) Q (F0 m 1744 ls [])) : W p l e room_1 s m #[Value.ref b] below meth c H locs cells slots Q (F0 m 1090 ls []) := by
  refine law_pair (pc := 1090) (pc1 := 1101) (pc2 := 1115) X (o_chain (xs (i + 1)) (xs (i + 2))) (fun x => Nat.le_of_ble_eq_true rfl) hI hSt hl hr dL_law_1090 (fun H locs cells slots rest hS k => ?_) dL_law_1101 dL_law_1104 (fun H locs cells slots rest hS k => ?_) dL_law_1115 (fun x wc' wm' H1 locs1 q1 q2 => ?_)
  · show W p l e room_1 s m #[Value.ref b] below meth c H locs cells slots Q (F0 m 1091 ls rest)
    refine law_arg (pc := 1091) (k := 1) (kn := 1) X hS hl hi (by decide) (by decide) dL_law_1091 dL_law_1092 dL_law_1093 dL_law_1094 dL_law_1095 ?_
    refine law_arg (pc := 1096) (k := 2) (kn := 2) X hS hl hi (by decide) (by decide) dL_law_1096 dL_law_1097 dL_law_1098 dL_law_1099 dL_law_1100 ?_
    exact k
  · show W p l e room_1 s m #[Value.ref b] below meth c H locs cells slots Q (F0 m 1105 ls rest)
    refine law_arg (pc := 1105) (k := 1) (kn := 1) X hS hl hi (by decide) (by decide) dL_law_1105 dL_law_1106 dL_law_1107 dL_law_1108 dL_law_1109 ?_
    refine law_arg (pc := 1110) (k := 2) (kn := 2) X hS hl hi (by decide) (by decide) dL_law_1110 dL_law_1111 dL_law_1112 dL_law_1113 dL_law_1114 ?_
    exact k
  · exact law_eqI (pc := 1118) X dL_law_1118 (by decide) (next wc' wm' H1 locs1 q1 q2)
theorem law_c22 (X : LawCx p s m c D g z A b L xs) (hI : Inv g h0 h1 wc wm) (hSt : St A s.heap D (wc ++ wm) H locs) (hl : lv_has ls 4 [(0, .ref b), (1, .ref h0), (2, .ref h1), (3, .int (nI i))]) (hi : i + 6 ≤ L) (hr : cells + 24 ≤ room_1.cells ∧ slots + 1111 ≤ room_1.slots) (next : ∀ (wc' wm' : va_W) (H1 : Heap) (locs1 : List Loc), Inv g h0 h1 wc' wm' → St A s.heap D (wc' ++ wm') H1 locs1 → W p l e room_1 s m #[Value.ref b] below meth c H1 locs1 (cells + 24) (slots + 1111) Q (F0 m 1744 ls [])) : W p l e room_1 s m #[Value.ref b] below meth c H locs cells slots Q (F0 m 1123 ls []) := by
  refine law_pair (pc := 1123) (pc1 := 1134) (pc2 := 1148) X (o_wealth (xs (i + 1)) (xs (i + 2))) (fun x => Nat.le_of_ble_eq_true rfl) hI hSt hl hr dL_law_1123 (fun H locs cells slots rest hS k => ?_) dL_law_1134 dL_law_1137 (fun H locs cells slots rest hS k => ?_) dL_law_1148 (fun x wc' wm' H1 locs1 q1 q2 => ?_)
  · show W p l e room_1 s m #[Value.ref b] below meth c H locs cells slots Q (F0 m 1124 ls rest)
    refine law_arg (pc := 1124) (k := 1) (kn := 1) X hS hl hi (by decide) (by decide) dL_law_1124 dL_law_1125 dL_law_1126 dL_law_1127 dL_law_1128 ?_
    refine law_arg (pc := 1129) (k := 2) (kn := 2) X hS hl hi (by decide) (by decide) dL_law_1129 dL_law_1130 dL_law_1131 dL_law_1132 dL_law_1133 ?_
    exact k
  · show W p l e room_1 s m #[Value.ref b] below meth c H locs cells slots Q (F0 m 1138 ls rest)
    refine law_arg (pc := 1138) (k := 1) (kn := 1) X hS hl hi (by decide) (by decide) dL_law_1138 dL_law_1139 dL_law_1140 dL_law_1141 dL_law_1142 ?_
    refine law_arg (pc := 1143) (k := 2) (kn := 2) X hS hl hi (by decide) (by decide) dL_law_1143 dL_law_1144 dL_law_1145 dL_law_1146 dL_law_1147 ?_
    exact k
  · exact law_eqI (pc := 1151) X dL_law_1151 (by decide) (next wc' wm' H1 locs1 q1 q2)
theorem law_c23 (X : LawCx p s m c D g z A b L xs) (hI : Inv g h0 h1 wc wm) (hSt : St A s.heap D (wc ++ wm) H locs) (hl : lv_has ls 4 [(0, .ref b), (1, .ref h0), (2, .ref h1), (3, .int (nI i))]) (hi : i + 6 ≤ L) (hr : cells + 24 ≤ room_1.cells ∧ slots + 1111 ≤ room_1.slots) (next : ∀ (wc' wm' : va_W) (H1 : Heap) (locs1 : List Loc), Inv g h0 h1 wc' wm' → St A s.heap D (wc' ++ wm') H1 locs1 → W p l e room_1 s m #[Value.ref b] below meth c H1 locs1 (cells + 24) (slots + 1111) Q (F0 m 1744 ls [])) : W p l e room_1 s m #[Value.ref b] below meth c H locs cells slots Q (F0 m 1156 ls []) := by
  refine law_pair (pc := 1156) (pc1 := 1167) (pc2 := 1181) X (o_relief (xs (i + 1)) (xs (i + 2))) (fun x => Nat.le_of_ble_eq_true rfl) hI hSt hl hr dL_law_1156 (fun H locs cells slots rest hS k => ?_) dL_law_1167 dL_law_1170 (fun H locs cells slots rest hS k => ?_) dL_law_1181 (fun x wc' wm' H1 locs1 q1 q2 => ?_)
  · show W p l e room_1 s m #[Value.ref b] below meth c H locs cells slots Q (F0 m 1157 ls rest)
    refine law_arg (pc := 1157) (k := 1) (kn := 1) X hS hl hi (by decide) (by decide) dL_law_1157 dL_law_1158 dL_law_1159 dL_law_1160 dL_law_1161 ?_
    refine law_arg (pc := 1162) (k := 2) (kn := 2) X hS hl hi (by decide) (by decide) dL_law_1162 dL_law_1163 dL_law_1164 dL_law_1165 dL_law_1166 ?_
    exact k
  · show W p l e room_1 s m #[Value.ref b] below meth c H locs cells slots Q (F0 m 1171 ls rest)
    refine law_arg (pc := 1171) (k := 1) (kn := 1) X hS hl hi (by decide) (by decide) dL_law_1171 dL_law_1172 dL_law_1173 dL_law_1174 dL_law_1175 ?_
    refine law_arg (pc := 1176) (k := 2) (kn := 2) X hS hl hi (by decide) (by decide) dL_law_1176 dL_law_1177 dL_law_1178 dL_law_1179 dL_law_1180 ?_
    exact k
  · exact law_eqI (pc := 1184) X dL_law_1184 (by decide) (next wc' wm' H1 locs1 q1 q2)
theorem law_c24 (X : LawCx p s m c D g z A b L xs) (hI : Inv g h0 h1 wc wm) (hSt : St A s.heap D (wc ++ wm) H locs) (hl : lv_has ls 4 [(0, .ref b), (1, .ref h0), (2, .ref h1), (3, .int (nI i))]) (hi : i + 6 ≤ L) (hr : cells + 24 ≤ room_1.cells ∧ slots + 1111 ≤ room_1.slots) (next : ∀ (wc' wm' : va_W) (H1 : Heap) (locs1 : List Loc), Inv g h0 h1 wc' wm' → St A s.heap D (wc' ++ wm') H1 locs1 → W p l e room_1 s m #[Value.ref b] below meth c H1 locs1 (cells + 24) (slots + 1111) Q (F0 m 1744 ls [])) : W p l e room_1 s m #[Value.ref b] below meth c H locs cells slots Q (F0 m 1189 ls []) := by
  refine law_pair (pc := 1189) (pc1 := 1213) (pc2 := 1240) X (o_party (xs (i + 1)) (xs (i + 2)) (bN (xs (i + 3)))) (fun x => Nat.le_of_ble_eq_true rfl) hI hSt hl hr dL_law_1189 (fun H locs cells slots rest hS k => ?_) dL_law_1213 dL_law_1216 (fun H locs cells slots rest hS k => ?_) dL_law_1240 (fun x wc' wm' H1 locs1 q1 q2 => ?_)
  · show W p l e room_1 s m #[Value.ref b] below meth c H locs cells slots Q (F0 m 1190 ls rest)
    refine law_arg (pc := 1190) (k := 1) (kn := 1) X hS hl hi (by decide) (by decide) dL_law_1190 dL_law_1191 dL_law_1192 dL_law_1193 dL_law_1194 ?_
    refine law_arg (pc := 1195) (k := 2) (kn := 2) X hS hl hi (by decide) (by decide) dL_law_1195 dL_law_1196 dL_law_1197 dL_law_1198 dL_law_1199 ?_
    refine law_argb (pc := 1200) (k := 3) (kn := 3) X hS hl hi (by decide) (by decide) dL_law_1200 dL_law_1201 dL_law_1202 dL_law_1203 dL_law_1204 dL_law_1205 dL_law_1208 dL_law_1209 dL_law_1212 ?_
    exact k
  · show W p l e room_1 s m #[Value.ref b] below meth c H locs cells slots Q (F0 m 1217 ls rest)
    refine law_arg (pc := 1217) (k := 1) (kn := 1) X hS hl hi (by decide) (by decide) dL_law_1217 dL_law_1218 dL_law_1219 dL_law_1220 dL_law_1221 ?_
    refine law_arg (pc := 1222) (k := 2) (kn := 2) X hS hl hi (by decide) (by decide) dL_law_1222 dL_law_1223 dL_law_1224 dL_law_1225 dL_law_1226 ?_
    refine law_argb (pc := 1227) (k := 3) (kn := 3) X hS hl hi (by decide) (by decide) dL_law_1227 dL_law_1228 dL_law_1229 dL_law_1230 dL_law_1231 dL_law_1232 dL_law_1235 dL_law_1236 dL_law_1239 ?_
    exact k
  · exact law_eqI (pc := 1243) X dL_law_1243 (by decide) (next wc' wm' H1 locs1 q1 q2)
theorem law_c25 (X : LawCx p s m c D g z A b L xs) (hI : Inv g h0 h1 wc wm) (hSt : St A s.heap D (wc ++ wm) H locs) (hl : lv_has ls 4 [(0, .ref b), (1, .ref h0), (2, .ref h1), (3, .int (nI i))]) (hi : i + 6 ≤ L) (hr : cells + 24 ≤ room_1.cells ∧ slots + 1111 ≤ room_1.slots) (next : ∀ (wc' wm' : va_W) (H1 : Heap) (locs1 : List Loc), Inv g h0 h1 wc' wm' → St A s.heap D (wc' ++ wm') H1 locs1 → W p l e room_1 s m #[Value.ref b] below meth c H1 locs1 (cells + 24) (slots + 1111) Q (F0 m 1744 ls [])) : W p l e room_1 s m #[Value.ref b] below meth c H locs cells slots Q (F0 m 1248 ls []) := by
  refine law_pair (pc := 1248) (pc1 := 1259) (pc2 := 1273) X (o_tables (xs (i + 1)) (xs (i + 2))) (fun x => Nat.le_of_ble_eq_true rfl) hI hSt hl hr dL_law_1248 (fun H locs cells slots rest hS k => ?_) dL_law_1259 dL_law_1262 (fun H locs cells slots rest hS k => ?_) dL_law_1273 (fun x wc' wm' H1 locs1 q1 q2 => ?_)
  · show W p l e room_1 s m #[Value.ref b] below meth c H locs cells slots Q (F0 m 1249 ls rest)
    refine law_arg (pc := 1249) (k := 1) (kn := 1) X hS hl hi (by decide) (by decide) dL_law_1249 dL_law_1250 dL_law_1251 dL_law_1252 dL_law_1253 ?_
    refine law_arg (pc := 1254) (k := 2) (kn := 2) X hS hl hi (by decide) (by decide) dL_law_1254 dL_law_1255 dL_law_1256 dL_law_1257 dL_law_1258 ?_
    exact k
  · show W p l e room_1 s m #[Value.ref b] below meth c H locs cells slots Q (F0 m 1263 ls rest)
    refine law_arg (pc := 1263) (k := 1) (kn := 1) X hS hl hi (by decide) (by decide) dL_law_1263 dL_law_1264 dL_law_1265 dL_law_1266 dL_law_1267 ?_
    refine law_arg (pc := 1268) (k := 2) (kn := 2) X hS hl hi (by decide) (by decide) dL_law_1268 dL_law_1269 dL_law_1270 dL_law_1271 dL_law_1272 ?_
    exact k
  · exact law_eqI (pc := 1276) X dL_law_1276 (by decide) (next wc' wm' H1 locs1 q1 q2)
theorem law_c26 (X : LawCx p s m c D g z A b L xs) (hI : Inv g h0 h1 wc wm) (hSt : St A s.heap D (wc ++ wm) H locs) (hl : lv_has ls 4 [(0, .ref b), (1, .ref h0), (2, .ref h1), (3, .int (nI i))]) (hi : i + 6 ≤ L) (hr : cells + 24 ≤ room_1.cells ∧ slots + 1111 ≤ room_1.slots) (next : ∀ (wc' wm' : va_W) (H1 : Heap) (locs1 : List Loc), Inv g h0 h1 wc' wm' → St A s.heap D (wc' ++ wm') H1 locs1 → W p l e room_1 s m #[Value.ref b] below meth c H1 locs1 (cells + 24) (slots + 1111) Q (F0 m 1744 ls [])) : W p l e room_1 s m #[Value.ref b] below meth c H locs cells slots Q (F0 m 1281 ls []) := by
  refine law_pair (pc := 1281) (pc1 := 1292) (pc2 := 1306) X (o_hour (xs (i + 1)) (xs (i + 2))) (fun x => Nat.le_of_ble_eq_true rfl) hI hSt hl hr dL_law_1281 (fun H locs cells slots rest hS k => ?_) dL_law_1292 dL_law_1295 (fun H locs cells slots rest hS k => ?_) dL_law_1306 (fun x wc' wm' H1 locs1 q1 q2 => ?_)
  · show W p l e room_1 s m #[Value.ref b] below meth c H locs cells slots Q (F0 m 1282 ls rest)
    refine law_arg (pc := 1282) (k := 1) (kn := 1) X hS hl hi (by decide) (by decide) dL_law_1282 dL_law_1283 dL_law_1284 dL_law_1285 dL_law_1286 ?_
    refine law_arg (pc := 1287) (k := 2) (kn := 2) X hS hl hi (by decide) (by decide) dL_law_1287 dL_law_1288 dL_law_1289 dL_law_1290 dL_law_1291 ?_
    exact k
  · show W p l e room_1 s m #[Value.ref b] below meth c H locs cells slots Q (F0 m 1296 ls rest)
    refine law_arg (pc := 1296) (k := 1) (kn := 1) X hS hl hi (by decide) (by decide) dL_law_1296 dL_law_1297 dL_law_1298 dL_law_1299 dL_law_1300 ?_
    refine law_arg (pc := 1301) (k := 2) (kn := 2) X hS hl hi (by decide) (by decide) dL_law_1301 dL_law_1302 dL_law_1303 dL_law_1304 dL_law_1305 ?_
    exact k
  · exact law_eqI (pc := 1309) X dL_law_1309 (by decide) (next wc' wm' H1 locs1 q1 q2)
theorem law_c27 (X : LawCx p s m c D g z A b L xs) (hI : Inv g h0 h1 wc wm) (hSt : St A s.heap D (wc ++ wm) H locs) (hl : lv_has ls 4 [(0, .ref b), (1, .ref h0), (2, .ref h1), (3, .int (nI i))]) (hi : i + 6 ≤ L) (hr : cells + 24 ≤ room_1.cells ∧ slots + 1111 ≤ room_1.slots) (next : ∀ (wc' wm' : va_W) (H1 : Heap) (locs1 : List Loc), Inv g h0 h1 wc' wm' → St A s.heap D (wc' ++ wm') H1 locs1 → W p l e room_1 s m #[Value.ref b] below meth c H1 locs1 (cells + 24) (slots + 1111) Q (F0 m 1744 ls [])) : W p l e room_1 s m #[Value.ref b] below meth c H locs cells slots Q (F0 m 1314 ls []) := by
  refine law_pair (pc := 1314) (pc1 := 1330) (pc2 := 1349) X (o_grown (xs (i + 1)) (xs (i + 2)) (xs (i + 3))) (fun x => Nat.le_of_ble_eq_true rfl) hI hSt hl hr dL_law_1314 (fun H locs cells slots rest hS k => ?_) dL_law_1330 dL_law_1333 (fun H locs cells slots rest hS k => ?_) dL_law_1349 (fun x wc' wm' H1 locs1 q1 q2 => ?_)
  · show W p l e room_1 s m #[Value.ref b] below meth c H locs cells slots Q (F0 m 1315 ls rest)
    refine law_arg (pc := 1315) (k := 1) (kn := 1) X hS hl hi (by decide) (by decide) dL_law_1315 dL_law_1316 dL_law_1317 dL_law_1318 dL_law_1319 ?_
    refine law_arg (pc := 1320) (k := 2) (kn := 2) X hS hl hi (by decide) (by decide) dL_law_1320 dL_law_1321 dL_law_1322 dL_law_1323 dL_law_1324 ?_
    refine law_arg (pc := 1325) (k := 3) (kn := 3) X hS hl hi (by decide) (by decide) dL_law_1325 dL_law_1326 dL_law_1327 dL_law_1328 dL_law_1329 ?_
    exact k
  · show W p l e room_1 s m #[Value.ref b] below meth c H locs cells slots Q (F0 m 1334 ls rest)
    refine law_arg (pc := 1334) (k := 1) (kn := 1) X hS hl hi (by decide) (by decide) dL_law_1334 dL_law_1335 dL_law_1336 dL_law_1337 dL_law_1338 ?_
    refine law_arg (pc := 1339) (k := 2) (kn := 2) X hS hl hi (by decide) (by decide) dL_law_1339 dL_law_1340 dL_law_1341 dL_law_1342 dL_law_1343 ?_
    refine law_arg (pc := 1344) (k := 3) (kn := 3) X hS hl hi (by decide) (by decide) dL_law_1344 dL_law_1345 dL_law_1346 dL_law_1347 dL_law_1348 ?_
    exact k
  · exact law_eqI (pc := 1352) X dL_law_1352 (by decide) (next wc' wm' H1 locs1 q1 q2)
theorem law_c28 (X : LawCx p s m c D g z A b L xs) (hI : Inv g h0 h1 wc wm) (hSt : St A s.heap D (wc ++ wm) H locs) (hl : lv_has ls 4 [(0, .ref b), (1, .ref h0), (2, .ref h1), (3, .int (nI i))]) (hi : i + 6 ≤ L) (hr : cells + 24 ≤ room_1.cells ∧ slots + 1111 ≤ room_1.slots) (next : ∀ (wc' wm' : va_W) (H1 : Heap) (locs1 : List Loc), Inv g h0 h1 wc' wm' → St A s.heap D (wc' ++ wm') H1 locs1 → W p l e room_1 s m #[Value.ref b] below meth c H1 locs1 (cells + 24) (slots + 1111) Q (F0 m 1744 ls [])) : W p l e room_1 s m #[Value.ref b] below meth c H locs cells slots Q (F0 m 1357 ls []) := by
  refine law_pair (pc := 1357) (pc1 := 1389) (pc2 := 1424) X (o_meet (xs (i + 1)) (bN (xs (i + 2))) (bN (xs (i + 3)))) (fun x => Nat.le_of_ble_eq_true rfl) hI hSt hl hr dL_law_1357 (fun H locs cells slots rest hS k => ?_) dL_law_1389 dL_law_1392 (fun H locs cells slots rest hS k => ?_) dL_law_1424 (fun x wc' wm' H1 locs1 q1 q2 => ?_)
  · show W p l e room_1 s m #[Value.ref b] below meth c H locs cells slots Q (F0 m 1358 ls rest)
    refine law_arg (pc := 1358) (k := 1) (kn := 1) X hS hl hi (by decide) (by decide) dL_law_1358 dL_law_1359 dL_law_1360 dL_law_1361 dL_law_1362 ?_
    refine law_argb (pc := 1363) (k := 2) (kn := 2) X hS hl hi (by decide) (by decide) dL_law_1363 dL_law_1364 dL_law_1365 dL_law_1366 dL_law_1367 dL_law_1368 dL_law_1371 dL_law_1372 dL_law_1375 ?_
    refine law_argb (pc := 1376) (k := 3) (kn := 3) X hS hl hi (by decide) (by decide) dL_law_1376 dL_law_1377 dL_law_1378 dL_law_1379 dL_law_1380 dL_law_1381 dL_law_1384 dL_law_1385 dL_law_1388 ?_
    exact k
  · show W p l e room_1 s m #[Value.ref b] below meth c H locs cells slots Q (F0 m 1393 ls rest)
    refine law_arg (pc := 1393) (k := 1) (kn := 1) X hS hl hi (by decide) (by decide) dL_law_1393 dL_law_1394 dL_law_1395 dL_law_1396 dL_law_1397 ?_
    refine law_argb (pc := 1398) (k := 2) (kn := 2) X hS hl hi (by decide) (by decide) dL_law_1398 dL_law_1399 dL_law_1400 dL_law_1401 dL_law_1402 dL_law_1403 dL_law_1406 dL_law_1407 dL_law_1410 ?_
    refine law_argb (pc := 1411) (k := 3) (kn := 3) X hS hl hi (by decide) (by decide) dL_law_1411 dL_law_1412 dL_law_1413 dL_law_1414 dL_law_1415 dL_law_1416 dL_law_1419 dL_law_1420 dL_law_1423 ?_
    exact k
  · exact law_eqL (pc := 1427) X dL_law_1427 dL_law_1428 (by decide) (next wc' wm' H1 locs1 q1 q2)
theorem law_c29 (X : LawCx p s m c D g z A b L xs) (hI : Inv g h0 h1 wc wm) (hSt : St A s.heap D (wc ++ wm) H locs) (hl : lv_has ls 4 [(0, .ref b), (1, .ref h0), (2, .ref h1), (3, .int (nI i))]) (hi : i + 6 ≤ L) (hr : cells + 24 ≤ room_1.cells ∧ slots + 1111 ≤ room_1.slots) (next : ∀ (wc' wm' : va_W) (H1 : Heap) (locs1 : List Loc), Inv g h0 h1 wc' wm' → St A s.heap D (wc' ++ wm') H1 locs1 → W p l e room_1 s m #[Value.ref b] below meth c H1 locs1 (cells + 24) (slots + 1111) Q (F0 m 1744 ls [])) : W p l e room_1 s m #[Value.ref b] below meth c H locs cells slots Q (F0 m 1433 ls []) := by
  refine law_pair (pc := 1433) (pc1 := 1457) (pc2 := 1484) X (o_guest (xs (i + 1)) (xs (i + 2)) (bN (xs (i + 3)))) (fun x => Nat.le_of_ble_eq_true rfl) hI hSt hl hr dL_law_1433 (fun H locs cells slots rest hS k => ?_) dL_law_1457 dL_law_1460 (fun H locs cells slots rest hS k => ?_) dL_law_1484 (fun x wc' wm' H1 locs1 q1 q2 => ?_)
  · show W p l e room_1 s m #[Value.ref b] below meth c H locs cells slots Q (F0 m 1434 ls rest)
    refine law_arg (pc := 1434) (k := 1) (kn := 1) X hS hl hi (by decide) (by decide) dL_law_1434 dL_law_1435 dL_law_1436 dL_law_1437 dL_law_1438 ?_
    refine law_arg (pc := 1439) (k := 2) (kn := 2) X hS hl hi (by decide) (by decide) dL_law_1439 dL_law_1440 dL_law_1441 dL_law_1442 dL_law_1443 ?_
    refine law_argb (pc := 1444) (k := 3) (kn := 3) X hS hl hi (by decide) (by decide) dL_law_1444 dL_law_1445 dL_law_1446 dL_law_1447 dL_law_1448 dL_law_1449 dL_law_1452 dL_law_1453 dL_law_1456 ?_
    exact k
  · show W p l e room_1 s m #[Value.ref b] below meth c H locs cells slots Q (F0 m 1461 ls rest)
    refine law_arg (pc := 1461) (k := 1) (kn := 1) X hS hl hi (by decide) (by decide) dL_law_1461 dL_law_1462 dL_law_1463 dL_law_1464 dL_law_1465 ?_
    refine law_arg (pc := 1466) (k := 2) (kn := 2) X hS hl hi (by decide) (by decide) dL_law_1466 dL_law_1467 dL_law_1468 dL_law_1469 dL_law_1470 ?_
    refine law_argb (pc := 1471) (k := 3) (kn := 3) X hS hl hi (by decide) (by decide) dL_law_1471 dL_law_1472 dL_law_1473 dL_law_1474 dL_law_1475 dL_law_1476 dL_law_1479 dL_law_1480 dL_law_1483 ?_
    exact k
  · exact law_eqL (pc := 1487) X dL_law_1487 dL_law_1488 (by decide) (next wc' wm' H1 locs1 q1 q2)
theorem law_c30 (X : LawCx p s m c D g z A b L xs) (hI : Inv g h0 h1 wc wm) (hSt : St A s.heap D (wc ++ wm) H locs) (hl : lv_has ls 4 [(0, .ref b), (1, .ref h0), (2, .ref h1), (3, .int (nI i))]) (hi : i + 6 ≤ L) (hr : cells + 24 ≤ room_1.cells ∧ slots + 1111 ≤ room_1.slots) (next : ∀ (wc' wm' : va_W) (H1 : Heap) (locs1 : List Loc), Inv g h0 h1 wc' wm' → St A s.heap D (wc' ++ wm') H1 locs1 → W p l e room_1 s m #[Value.ref b] below meth c H1 locs1 (cells + 24) (slots + 1111) Q (F0 m 1744 ls [])) : W p l e room_1 s m #[Value.ref b] below meth c H locs cells slots Q (F0 m 1493 ls []) := by
  refine law_pair (pc := 1493) (pc1 := 1509) (pc2 := 1528) X (o_after (xs (i + 1)) (xs (i + 2)) (xs (i + 3))) (fun x => Nat.le_of_ble_eq_true rfl) hI hSt hl hr dL_law_1493 (fun H locs cells slots rest hS k => ?_) dL_law_1509 dL_law_1512 (fun H locs cells slots rest hS k => ?_) dL_law_1528 (fun x wc' wm' H1 locs1 q1 q2 => ?_)
  · show W p l e room_1 s m #[Value.ref b] below meth c H locs cells slots Q (F0 m 1494 ls rest)
    refine law_arg (pc := 1494) (k := 1) (kn := 1) X hS hl hi (by decide) (by decide) dL_law_1494 dL_law_1495 dL_law_1496 dL_law_1497 dL_law_1498 ?_
    refine law_arg (pc := 1499) (k := 2) (kn := 2) X hS hl hi (by decide) (by decide) dL_law_1499 dL_law_1500 dL_law_1501 dL_law_1502 dL_law_1503 ?_
    refine law_arg (pc := 1504) (k := 3) (kn := 3) X hS hl hi (by decide) (by decide) dL_law_1504 dL_law_1505 dL_law_1506 dL_law_1507 dL_law_1508 ?_
    exact k
  · show W p l e room_1 s m #[Value.ref b] below meth c H locs cells slots Q (F0 m 1513 ls rest)
    refine law_arg (pc := 1513) (k := 1) (kn := 1) X hS hl hi (by decide) (by decide) dL_law_1513 dL_law_1514 dL_law_1515 dL_law_1516 dL_law_1517 ?_
    refine law_arg (pc := 1518) (k := 2) (kn := 2) X hS hl hi (by decide) (by decide) dL_law_1518 dL_law_1519 dL_law_1520 dL_law_1521 dL_law_1522 ?_
    refine law_arg (pc := 1523) (k := 3) (kn := 3) X hS hl hi (by decide) (by decide) dL_law_1523 dL_law_1524 dL_law_1525 dL_law_1526 dL_law_1527 ?_
    exact k
  · exact law_eqI (pc := 1531) X dL_law_1531 (by decide) (next wc' wm' H1 locs1 q1 q2)
theorem law_c31 (X : LawCx p s m c D g z A b L xs) (hI : Inv g h0 h1 wc wm) (hSt : St A s.heap D (wc ++ wm) H locs) (hl : lv_has ls 4 [(0, .ref b), (1, .ref h0), (2, .ref h1), (3, .int (nI i))]) (hi : i + 6 ≤ L) (hr : cells + 24 ≤ room_1.cells ∧ slots + 1111 ≤ room_1.slots) (next : ∀ (wc' wm' : va_W) (H1 : Heap) (locs1 : List Loc), Inv g h0 h1 wc' wm' → St A s.heap D (wc' ++ wm') H1 locs1 → W p l e room_1 s m #[Value.ref b] below meth c H1 locs1 (cells + 24) (slots + 1111) Q (F0 m 1744 ls [])) : W p l e room_1 s m #[Value.ref b] below meth c H locs cells slots Q (F0 m 1536 ls []) := by
  refine law_pair (pc := 1536) (pc1 := 1570) (pc2 := 1607) X (o_share (xs (i + 1)) (xs (i + 2)) (xs (i + 3)) (xs (i + 4)) (bN (xs (i + 5)))) (fun x => Nat.le_of_ble_eq_true rfl) hI hSt hl hr dL_law_1536 (fun H locs cells slots rest hS k => ?_) dL_law_1570 dL_law_1573 (fun H locs cells slots rest hS k => ?_) dL_law_1607 (fun x wc' wm' H1 locs1 q1 q2 => ?_)
  · show W p l e room_1 s m #[Value.ref b] below meth c H locs cells slots Q (F0 m 1537 ls rest)
    refine law_arg (pc := 1537) (k := 1) (kn := 1) X hS hl hi (by decide) (by decide) dL_law_1537 dL_law_1538 dL_law_1539 dL_law_1540 dL_law_1541 ?_
    refine law_arg (pc := 1542) (k := 2) (kn := 2) X hS hl hi (by decide) (by decide) dL_law_1542 dL_law_1543 dL_law_1544 dL_law_1545 dL_law_1546 ?_
    refine law_arg (pc := 1547) (k := 3) (kn := 3) X hS hl hi (by decide) (by decide) dL_law_1547 dL_law_1548 dL_law_1549 dL_law_1550 dL_law_1551 ?_
    refine law_arg (pc := 1552) (k := 4) (kn := 4) X hS hl hi (by decide) (by decide) dL_law_1552 dL_law_1553 dL_law_1554 dL_law_1555 dL_law_1556 ?_
    refine law_argb (pc := 1557) (k := 5) (kn := 5) X hS hl hi (by decide) (by decide) dL_law_1557 dL_law_1558 dL_law_1559 dL_law_1560 dL_law_1561 dL_law_1562 dL_law_1565 dL_law_1566 dL_law_1569 ?_
    exact k
  · show W p l e room_1 s m #[Value.ref b] below meth c H locs cells slots Q (F0 m 1574 ls rest)
    refine law_arg (pc := 1574) (k := 1) (kn := 1) X hS hl hi (by decide) (by decide) dL_law_1574 dL_law_1575 dL_law_1576 dL_law_1577 dL_law_1578 ?_
    refine law_arg (pc := 1579) (k := 2) (kn := 2) X hS hl hi (by decide) (by decide) dL_law_1579 dL_law_1580 dL_law_1581 dL_law_1582 dL_law_1583 ?_
    refine law_arg (pc := 1584) (k := 3) (kn := 3) X hS hl hi (by decide) (by decide) dL_law_1584 dL_law_1585 dL_law_1586 dL_law_1587 dL_law_1588 ?_
    refine law_arg (pc := 1589) (k := 4) (kn := 4) X hS hl hi (by decide) (by decide) dL_law_1589 dL_law_1590 dL_law_1591 dL_law_1592 dL_law_1593 ?_
    refine law_argb (pc := 1594) (k := 5) (kn := 5) X hS hl hi (by decide) (by decide) dL_law_1594 dL_law_1595 dL_law_1596 dL_law_1597 dL_law_1598 dL_law_1599 dL_law_1602 dL_law_1603 dL_law_1606 ?_
    exact k
  · exact law_eqL (pc := 1610) X dL_law_1610 dL_law_1611 (by decide) (next wc' wm' H1 locs1 q1 q2)
theorem law_c32 (X : LawCx p s m c D g z A b L xs) (hI : Inv g h0 h1 wc wm) (hSt : St A s.heap D (wc ++ wm) H locs) (hl : lv_has ls 4 [(0, .ref b), (1, .ref h0), (2, .ref h1), (3, .int (nI i))]) (hi : i + 6 ≤ L) (hr : cells + 24 ≤ room_1.cells ∧ slots + 1111 ≤ room_1.slots) (next : ∀ (wc' wm' : va_W) (H1 : Heap) (locs1 : List Loc), Inv g h0 h1 wc' wm' → St A s.heap D (wc' ++ wm') H1 locs1 → W p l e room_1 s m #[Value.ref b] below meth c H1 locs1 (cells + 24) (slots + 1111) Q (F0 m 1744 ls [])) : W p l e room_1 s m #[Value.ref b] below meth c H locs cells slots Q (F0 m 1616 ls []) := by
  refine law_pair (pc := 1616) (pc1 := 1640) (pc2 := 1667) X (o_fewest (xs (i + 1)) (xs (i + 2)) (bN (xs (i + 3)))) (fun x => Nat.le_of_ble_eq_true rfl) hI hSt hl hr dL_law_1616 (fun H locs cells slots rest hS k => ?_) dL_law_1640 dL_law_1643 (fun H locs cells slots rest hS k => ?_) dL_law_1667 (fun x wc' wm' H1 locs1 q1 q2 => ?_)
  · show W p l e room_1 s m #[Value.ref b] below meth c H locs cells slots Q (F0 m 1617 ls rest)
    refine law_arg (pc := 1617) (k := 1) (kn := 1) X hS hl hi (by decide) (by decide) dL_law_1617 dL_law_1618 dL_law_1619 dL_law_1620 dL_law_1621 ?_
    refine law_arg (pc := 1622) (k := 2) (kn := 2) X hS hl hi (by decide) (by decide) dL_law_1622 dL_law_1623 dL_law_1624 dL_law_1625 dL_law_1626 ?_
    refine law_argb (pc := 1627) (k := 3) (kn := 3) X hS hl hi (by decide) (by decide) dL_law_1627 dL_law_1628 dL_law_1629 dL_law_1630 dL_law_1631 dL_law_1632 dL_law_1635 dL_law_1636 dL_law_1639 ?_
    exact k
  · show W p l e room_1 s m #[Value.ref b] below meth c H locs cells slots Q (F0 m 1644 ls rest)
    refine law_arg (pc := 1644) (k := 1) (kn := 1) X hS hl hi (by decide) (by decide) dL_law_1644 dL_law_1645 dL_law_1646 dL_law_1647 dL_law_1648 ?_
    refine law_arg (pc := 1649) (k := 2) (kn := 2) X hS hl hi (by decide) (by decide) dL_law_1649 dL_law_1650 dL_law_1651 dL_law_1652 dL_law_1653 ?_
    refine law_argb (pc := 1654) (k := 3) (kn := 3) X hS hl hi (by decide) (by decide) dL_law_1654 dL_law_1655 dL_law_1656 dL_law_1657 dL_law_1658 dL_law_1659 dL_law_1662 dL_law_1663 dL_law_1666 ?_
    exact k
  · exact law_eqI (pc := 1670) X dL_law_1670 (by decide) (next wc' wm' H1 locs1 q1 q2)
theorem law_c33 (X : LawCx p s m c D g z A b L xs) (hI : Inv g h0 h1 wc wm) (hSt : St A s.heap D (wc ++ wm) H locs) (hl : lv_has ls 4 [(0, .ref b), (1, .ref h0), (2, .ref h1), (3, .int (nI i))]) (hi : i + 6 ≤ L) (hr : cells + 24 ≤ room_1.cells ∧ slots + 1111 ≤ room_1.slots) (next : ∀ (wc' wm' : va_W) (H1 : Heap) (locs1 : List Loc), Inv g h0 h1 wc' wm' → St A s.heap D (wc' ++ wm') H1 locs1 → W p l e room_1 s m #[Value.ref b] below meth c H1 locs1 (cells + 24) (slots + 1111) Q (F0 m 1744 ls [])) : W p l e room_1 s m #[Value.ref b] below meth c H locs cells slots Q (F0 m 1675 ls []) := by
  refine law_pair (pc := 1675) (pc1 := 1681) (pc2 := 1690) X (o_count (xs (i + 1))) (fun x => Nat.le_of_ble_eq_true rfl) hI hSt hl hr dL_law_1675 (fun H locs cells slots rest hS k => ?_) dL_law_1681 dL_law_1684 (fun H locs cells slots rest hS k => ?_) dL_law_1690 (fun x wc' wm' H1 locs1 q1 q2 => ?_)
  · show W p l e room_1 s m #[Value.ref b] below meth c H locs cells slots Q (F0 m 1676 ls rest)
    refine law_arg (pc := 1676) (k := 1) (kn := 1) X hS hl hi (by decide) (by decide) dL_law_1676 dL_law_1677 dL_law_1678 dL_law_1679 dL_law_1680 ?_
    exact k
  · show W p l e room_1 s m #[Value.ref b] below meth c H locs cells slots Q (F0 m 1685 ls rest)
    refine law_arg (pc := 1685) (k := 1) (kn := 1) X hS hl hi (by decide) (by decide) dL_law_1685 dL_law_1686 dL_law_1687 dL_law_1688 dL_law_1689 ?_
    exact k
  · exact law_eqI (pc := 1693) X dL_law_1693 (by decide) (next wc' wm' H1 locs1 q1 q2)
theorem law_c34 (X : LawCx p s m c D g z A b L xs) (hI : Inv g h0 h1 wc wm) (hSt : St A s.heap D (wc ++ wm) H locs) (hl : lv_has ls 4 [(0, .ref b), (1, .ref h0), (2, .ref h1), (3, .int (nI i))]) (hi : i + 6 ≤ L) (hr : cells + 24 ≤ room_1.cells ∧ slots + 1111 ≤ room_1.slots) (next : ∀ (wc' wm' : va_W) (H1 : Heap) (locs1 : List Loc), Inv g h0 h1 wc' wm' → St A s.heap D (wc' ++ wm') H1 locs1 → W p l e room_1 s m #[Value.ref b] below meth c H1 locs1 (cells + 24) (slots + 1111) Q (F0 m 1744 ls [])) : W p l e room_1 s m #[Value.ref b] below meth c H locs cells slots Q (F0 m 1698 ls []) := by
  refine law_pair (pc := 1698) (pc1 := 1704) (pc2 := 1713) X (o_image (xs (i + 1))) (fun x => Nat.le_of_ble_eq_true rfl) hI hSt hl hr dL_law_1698 (fun H locs cells slots rest hS k => ?_) dL_law_1704 dL_law_1707 (fun H locs cells slots rest hS k => ?_) dL_law_1713 (fun x wc' wm' H1 locs1 q1 q2 => ?_)
  · show W p l e room_1 s m #[Value.ref b] below meth c H locs cells slots Q (F0 m 1699 ls rest)
    refine law_arg (pc := 1699) (k := 1) (kn := 1) X hS hl hi (by decide) (by decide) dL_law_1699 dL_law_1700 dL_law_1701 dL_law_1702 dL_law_1703 ?_
    exact k
  · show W p l e room_1 s m #[Value.ref b] below meth c H locs cells slots Q (F0 m 1708 ls rest)
    refine law_arg (pc := 1708) (k := 1) (kn := 1) X hS hl hi (by decide) (by decide) dL_law_1708 dL_law_1709 dL_law_1710 dL_law_1711 dL_law_1712 ?_
    exact k
  · exact law_eqI (pc := 1716) X dL_law_1716 (by decide) (next wc' wm' H1 locs1 q1 q2)
theorem law_c35 (X : LawCx p s m c D g z A b L xs) (hI : Inv g h0 h1 wc wm) (hSt : St A s.heap D (wc ++ wm) H locs) (hl : lv_has ls 4 [(0, .ref b), (1, .ref h0), (2, .ref h1), (3, .int (nI i))]) (hi : i + 6 ≤ L) (hr : cells + 24 ≤ room_1.cells ∧ slots + 1111 ≤ room_1.slots) (next : ∀ (wc' wm' : va_W) (H1 : Heap) (locs1 : List Loc), Inv g h0 h1 wc' wm' → St A s.heap D (wc' ++ wm') H1 locs1 → W p l e room_1 s m #[Value.ref b] below meth c H1 locs1 (cells + 24) (slots + 1111) Q (F0 m 1744 ls [])) : W p l e room_1 s m #[Value.ref b] below meth c H locs cells slots Q (F0 m 1721 ls []) := by
  refine law_pair (pc := 1721) (pc1 := 1727) (pc2 := 1736) X (o_again (xs (i + 1))) (fun x => Nat.le_of_ble_eq_true rfl) hI hSt hl hr dL_law_1721 (fun H locs cells slots rest hS k => ?_) dL_law_1727 dL_law_1730 (fun H locs cells slots rest hS k => ?_) dL_law_1736 (fun x wc' wm' H1 locs1 q1 q2 => ?_)
  · show W p l e room_1 s m #[Value.ref b] below meth c H locs cells slots Q (F0 m 1722 ls rest)
    refine law_arg (pc := 1722) (k := 1) (kn := 1) X hS hl hi (by decide) (by decide) dL_law_1722 dL_law_1723 dL_law_1724 dL_law_1725 dL_law_1726 ?_
    exact k
  · show W p l e room_1 s m #[Value.ref b] below meth c H locs cells slots Q (F0 m 1731 ls rest)
    refine law_arg (pc := 1731) (k := 1) (kn := 1) X hS hl hi (by decide) (by decide) dL_law_1731 dL_law_1732 dL_law_1733 dL_law_1734 dL_law_1735 ?_
    exact k
  · exact law_eqI (pc := 1739) X dL_law_1739 (by decide) (next wc' wm' H1 locs1 q1 q2)
end LAC
