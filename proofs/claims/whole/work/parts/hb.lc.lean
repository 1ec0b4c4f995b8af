/-! THE LAW: its cases -/
section
variable {p : Program} {l : Launch} {e : Env} {s : State} {m : MethodId} {below : List Frame} {meth : Method} {c : Code} {b L j S0 : Nat} {xs : Nat → Int32} {sv : Nat → Nat} {Rg : zGr}
variable {ad : Nat → Nat} {M : zM} {S : yZ} {H : Heap} {locs : List Loc} {cells slots : Nat} {lsA : Array Slot}
theorem lc_feed (X : lq_X p s m meth c b L xs sv Rg) (hS0 : S0 ≤ 200000) (hM : lq_M s Rg ad M S S0 H locs cells slots j) (hl : lv_has lsA 7 (lq_ls ad b (nI (6 * j)))) (hj : 6 * j + 5 < L) (K : lq_K p l e s m below meth c b Rg S0 j) : W p l e room_1 s m #[Value.ref b] below meth c H locs cells slots (lw_Z below #[Value.ref b] s) (F0 m 160 lsA []) := by
  have l0 := lv_at hl 4 rfl
  have l1 := lv_at hl 3 rfl
  have l2 := lv_at hl 2 rfl
  have l4 := lv_at hl 0 rfl
  refine lv_aload_n X.1.1 X.1.2.1 dz_160 rfl l1 ?_
  refine lq_arg (k := 1) X hM.2.1.2 l0 l4 (by omega) rfl dz_161 dz_162 dz_164 dz_165 dz_166 ?_
  refine lq_arg (k := 2) X hM.2.1.2 l0 l4 (by omega) rfl dz_167 dz_168 dz_170 dz_171 dz_172 ?_
  refine lq_arg (k := 3) X hM.2.1.2 l0 l4 (by omega) rfl dz_173 dz_174 dz_176 dz_177 dz_178 ?_
  refine lq_arg (k := 4) X hM.2.1.2 l0 l4 (by omega) rfl dz_179 dz_180 dz_182 dz_183 dz_184 ?_
  refine lq_arg (k := 5) X hM.2.1.2 l0 l4 (by omega) rfl dz_185 dz_186 dz_188 dz_189 dz_190 ?_
  refine lq_pair (n := 5) (pc1 := 191) (pc2 := 225) (idx1 := 19) (idx2 := 23) (c1 := 283) (c2 := 6) (as' := [.inl (xs (6 * j + 1)), .inl (xs (6 * j + 2)), .inl (xs (6 * j + 3)), .inl (xs (6 * j + 4)), .inl (xs (6 * j + 5))]) (off := 945) X hS0 hM hl hj K (j_feed (d := 205) hM.1 rfl (by omega) (by omega) (xs (6 * j + 1)) (xs (6 * j + 2)) (xs (6 * j + 3)) (xs (6 * j + 4)) (xs (6 * j + 5))) (fun so h => tie_cr_feed 205 0 (xs (6 * j + 1)) (xs (6 * j + 2)) (xs (6 * j + 3)) (xs (6 * j + 4)) (xs (6 * j + 5)) M so h) (fun M1 so h => tie_mo_feed 205 242 (xs (6 * j + 1)) (xs (6 * j + 2)) (xs (6 * j + 3)) (xs (6 * j + 4)) (xs (6 * j + 5)) M1 so h) (by simp) rfl rfl rfl (Nat.le_of_ble_eq_true rfl) (Nat.le_of_ble_eq_true rfl) dz_191 dz_225 dz_228 (by decide) (fun v H' locs' cells' slots' hS' hk => ?_)
  refine lv_aload_n X.1.1 X.1.2.1 dz_194 rfl l2 ?_
  refine lq_arg (k := 1) X hS' l0 l4 (by omega) rfl dz_195 dz_196 dz_198 dz_199 dz_200 ?_
  refine lq_arg (k := 2) X hS' l0 l4 (by omega) rfl dz_201 dz_202 dz_204 dz_205 dz_206 ?_
  refine lq_arg (k := 3) X hS' l0 l4 (by omega) rfl dz_207 dz_208 dz_210 dz_211 dz_212 ?_
  refine lq_arg (k := 4) X hS' l0 l4 (by omega) rfl dz_213 dz_214 dz_216 dz_217 dz_218 ?_
  refine lq_arg (k := 5) X hS' l0 l4 (by omega) rfl dz_219 dz_220 dz_222 dz_223 dz_224 ?_
  exact hk
theorem lc_end (X : lq_X p s m meth c b L xs sv Rg) (hS0 : S0 ≤ 200000) (hM : lq_M s Rg ad M S S0 H locs cells slots j) (hl : lv_has lsA 7 (lq_ls ad b (nI (6 * j)))) (hj : 6 * j + 5 < L) (K : lq_K p l e s m below meth c b Rg S0 j) : W p l e room_1 s m #[Value.ref b] below meth c H locs cells slots (lw_Z below #[Value.ref b] s) (F0 m 233 lsA []) := by
  have l0 := lv_at hl 4 rfl
  have l1 := lv_at hl 3 rfl
  have l2 := lv_at hl 2 rfl
  have l4 := lv_at hl 0 rfl
  refine lv_aload_n X.1.1 X.1.2.1 dz_233 rfl l1 ?_
  refine lq_arg (k := 1) X hM.2.1.2 l0 l4 (by omega) rfl dz_234 dz_235 dz_237 dz_238 dz_239 ?_
  refine lq_pair (n := 1) (pc1 := 240) (pc2 := 250) (idx1 := 24) (idx2 := 28) (c1 := 286) (c2 := 7) (as' := [.inl (xs (6 * j + 1))]) (off := 920) X hS0 hM hl hj K (j_end (d := 205) hM.1 rfl (by omega) (by omega) (xs (6 * j + 1))) (fun so h => tie_cr_end 205 0 (xs (6 * j + 1)) M so h) (fun M1 so h => tie_mo_end 205 242 (xs (6 * j + 1)) M1 so h) (by simp) rfl rfl rfl (Nat.le_of_ble_eq_true rfl) (Nat.le_of_ble_eq_true rfl) dz_240 dz_250 dz_253 (by decide) (fun v H' locs' cells' slots' hS' hk => ?_)
  refine lv_aload_n X.1.1 X.1.2.1 dz_243 rfl l2 ?_
  refine lq_arg (k := 1) X hS' l0 l4 (by omega) rfl dz_244 dz_245 dz_247 dz_248 dz_249 ?_
  exact hk
theorem lc_fault (X : lq_X p s m meth c b L xs sv Rg) (hS0 : S0 ≤ 200000) (hM : lq_M s Rg ad M S S0 H locs cells slots j) (hl : lv_has lsA 7 (lq_ls ad b (nI (6 * j)))) (hj : 6 * j + 5 < L) (K : lq_K p l e s m below meth c b Rg S0 j) : W p l e room_1 s m #[Value.ref b] below meth c H locs cells slots (lw_Z below #[Value.ref b] s) (F0 m 258 lsA []) := by
  have l0 := lv_at hl 4 rfl
  have l1 := lv_at hl 3 rfl
  have l2 := lv_at hl 2 rfl
  have l4 := lv_at hl 0 rfl
  refine lv_aload_n X.1.1 X.1.2.1 dz_258 rfl l1 ?_
  refine lq_arg (k := 1) X hM.2.1.2 l0 l4 (by omega) rfl dz_259 dz_260 dz_262 dz_263 dz_264 ?_
  refine lq_pair (n := 1) (pc1 := 265) (pc2 := 275) (idx1 := 29) (idx2 := 33) (c1 := 287) (c2 := 30) (as' := [.inl (xs (6 * j + 1))]) (off := 895) X hS0 hM hl hj K (j_fault (d := 205) hM.1 rfl (by omega) (by omega) (xs (6 * j + 1))) (fun so h => tie_cr_fault 205 0 (xs (6 * j + 1)) M so h) (fun M1 so h => tie_mo_fault 205 242 (xs (6 * j + 1)) M1 so h) (by simp) rfl rfl rfl (Nat.le_of_ble_eq_true rfl) (Nat.le_of_ble_eq_true rfl) dz_265 dz_275 dz_278 (by decide) (fun v H' locs' cells' slots' hS' hk => ?_)
  refine lv_aload_n X.1.1 X.1.2.1 dz_268 rfl l2 ?_
  refine lq_arg (k := 1) X hS' l0 l4 (by omega) rfl dz_269 dz_270 dz_272 dz_273 dz_274 ?_
  exact hk
theorem lc_rules (X : lq_X p s m meth c b L xs sv Rg) (hS0 : S0 ≤ 200000) (hM : lq_M s Rg ad M S S0 H locs cells slots j) (hl : lv_has lsA 7 (lq_ls ad b (nI (6 * j)))) (hj : 6 * j + 5 < L) (K : lq_K p l e s m below meth c b Rg S0 j) : W p l e room_1 s m #[Value.ref b] below meth c H locs cells slots (lw_Z below #[Value.ref b] s) (F0 m 283 lsA []) := by
  have l0 := lv_at hl 4 rfl
  have l1 := lv_at hl 3 rfl
  have l2 := lv_at hl 2 rfl
  have l4 := lv_at hl 0 rfl
  refine lv_aload_n X.1.1 X.1.2.1 dz_283 rfl l1 ?_
  refine lq_pair (n := 0) (pc1 := 284) (pc2 := 288) (idx1 := 34) (idx2 := 38) (c1 := 288) (c2 := 32) (as' := []) (off := 882) X hS0 hM hl hj K (j_rules (d := 205) hM.1 rfl (by omega) (by omega)) (fun so h => tie_cr_rules 205 0 M so h) (fun M1 so h => tie_mo_rules 205 242 M1 so h) (by simp) rfl rfl rfl (Nat.le_of_ble_eq_true rfl) (Nat.le_of_ble_eq_true rfl) dz_284 dz_288 dz_291 (by decide) (fun v H' locs' cells' slots' hS' hk => ?_)
  refine lv_aload_n X.1.1 X.1.2.1 dz_287 rfl l2 ?_
  exact hk
theorem lc_document (X : lq_X p s m meth c b L xs sv Rg) (hS0 : S0 ≤ 200000) (hM : lq_M s Rg ad M S S0 H locs cells slots j) (hl : lv_has lsA 7 (lq_ls ad b (nI (6 * j)))) (hj : 6 * j + 5 < L) (K : lq_K p l e s m below meth c b Rg S0 j) : W p l e room_1 s m #[Value.ref b] below meth c H locs cells slots (lw_Z below #[Value.ref b] s) (F0 m 296 lsA []) := by
  have l0 := lv_at hl 4 rfl
  have l1 := lv_at hl 3 rfl
  have l2 := lv_at hl 2 rfl
  have l4 := lv_at hl 0 rfl
  refine lv_aload_n X.1.1 X.1.2.1 dz_296 rfl l1 ?_
  refine lq_pair (n := 0) (pc1 := 297) (pc2 := 301) (idx1 := 39) (idx2 := 42) (c1 := 289) (c2 := 33) (as' := []) (off := 869) X hS0 hM hl hj K (j_document (d := 205) hM.1 rfl (by omega) (by omega)) (fun so h => tie_cr_document 205 0 M so h) (fun M1 so h => tie_mo_document 205 242 M1 so h) (by simp) rfl rfl rfl (Nat.le_of_ble_eq_true rfl) (Nat.le_of_ble_eq_true rfl) dz_297 dz_301 dz_304 (by decide) (fun v H' locs' cells' slots' hS' hk => ?_)
  refine lv_aload_n X.1.1 X.1.2.1 dz_300 rfl l2 ?_
  exact hk
theorem lc_occurrence (X : lq_X p s m meth c b L xs sv Rg) (hS0 : S0 ≤ 200000) (hM : lq_M s Rg ad M S S0 H locs cells slots j) (hl : lv_has lsA 7 (lq_ls ad b (nI (6 * j)))) (hj : 6 * j + 5 < L) (K : lq_K p l e s m below meth c b Rg S0 j) : W p l e room_1 s m #[Value.ref b] below meth c H locs cells slots (lw_Z below #[Value.ref b] s) (F0 m 377 lsA []) := by
  have l0 := lv_at hl 4 rfl
  have l1 := lv_at hl 3 rfl
  have l2 := lv_at hl 2 rfl
  have l4 := lv_at hl 0 rfl
  refine lv_aload_n X.1.1 X.1.2.1 dz_377 rfl l1 ?_
  refine lq_arg (k := 1) X hM.2.1.2 l0 l4 (by omega) rfl dz_378 dz_379 dz_381 dz_382 dz_383 ?_
  refine lq_arg (k := 2) X hM.2.1.2 l0 l4 (by omega) rfl dz_384 dz_385 dz_387 dz_388 dz_389 ?_
  refine lq_arg (k := 3) X hM.2.1.2 l0 l4 (by omega) rfl dz_390 dz_391 dz_393 dz_394 dz_395 ?_
  refine lq_pair (n := 3) (pc1 := 396) (pc2 := 418) (idx1 := 52) (idx2 := 56) (c1 := 294) (c2 := 85) (as' := [.inl (xs (6 * j + 1)), .inl (xs (6 * j + 2)), .inl (xs (6 * j + 3))]) (off := 752) X hS0 hM hl hj K (j_occurrence (d := 205) hM.1 rfl (by omega) (by omega) (xs (6 * j + 1)) (xs (6 * j + 2)) (xs (6 * j + 3))) (fun so h => tie_cr_occurrence 205 0 (xs (6 * j + 1)) (xs (6 * j + 2)) (xs (6 * j + 3)) M so h) (fun M1 so h => tie_mo_occurrence 205 242 (xs (6 * j + 1)) (xs (6 * j + 2)) (xs (6 * j + 3)) M1 so h) (by simp) rfl rfl rfl (Nat.le_of_ble_eq_true rfl) (Nat.le_of_ble_eq_true rfl) dz_396 dz_418 dz_421 (by decide) (fun v H' locs' cells' slots' hS' hk => ?_)
  refine lv_aload_n X.1.1 X.1.2.1 dz_399 rfl l2 ?_
  refine lq_arg (k := 1) X hS' l0 l4 (by omega) rfl dz_400 dz_401 dz_403 dz_404 dz_405 ?_
  refine lq_arg (k := 2) X hS' l0 l4 (by omega) rfl dz_406 dz_407 dz_409 dz_410 dz_411 ?_
  refine lq_arg (k := 3) X hS' l0 l4 (by omega) rfl dz_412 dz_413 dz_415 dz_416 dz_417 ?_
  exact hk
theorem lc_counted (X : lq_X p s m meth c b L xs sv Rg) (hS0 : S0 ≤ 200000) (hM : lq_M s Rg ad M S S0 H locs cells slots j) (hl : lv_has lsA 7 (lq_ls ad b (nI (6 * j)))) (hj : 6 * j + 5 < L) (K : lq_K p l e s m below meth c b Rg S0 j) : W p l e room_1 s m #[Value.ref b] below meth c H locs cells slots (lw_Z below #[Value.ref b] s) (F0 m 426 lsA []) := by
  have l0 := lv_at hl 4 rfl
  have l1 := lv_at hl 3 rfl
  have l2 := lv_at hl 2 rfl
  have l4 := lv_at hl 0 rfl
  refine lv_aload_n X.1.1 X.1.2.1 dz_426 rfl l1 ?_
  refine lq_arg (k := 1) X hM.2.1.2 l0 l4 (by omega) rfl dz_427 dz_428 dz_430 dz_431 dz_432 ?_
  refine lq_arg (k := 2) X hM.2.1.2 l0 l4 (by omega) rfl dz_433 dz_434 dz_436 dz_437 dz_438 ?_
  refine lq_arg (k := 3) X hM.2.1.2 l0 l4 (by omega) rfl dz_439 dz_440 dz_442 dz_443 dz_444 ?_
  refine lq_pair (n := 3) (pc1 := 445) (pc2 := 467) (idx1 := 57) (idx2 := 60) (c1 := 295) (c2 := 86) (as' := [.inl (xs (6 * j + 1)), .inl (xs (6 * j + 2)), .inl (xs (6 * j + 3))]) (off := 703) X hS0 hM hl hj K (j_counted (d := 205) hM.1 rfl (by omega) (by omega) (xs (6 * j + 1)) (xs (6 * j + 2)) (xs (6 * j + 3))) (fun so h => tie_cr_counted 205 0 (xs (6 * j + 1)) (xs (6 * j + 2)) (xs (6 * j + 3)) M so h) (fun M1 so h => tie_mo_counted 205 242 (xs (6 * j + 1)) (xs (6 * j + 2)) (xs (6 * j + 3)) M1 so h) (by simp) rfl rfl rfl (Nat.le_of_ble_eq_true rfl) (Nat.le_of_ble_eq_true rfl) dz_445 dz_467 dz_470 (by decide) (fun v H' locs' cells' slots' hS' hk => ?_)
  refine lv_aload_n X.1.1 X.1.2.1 dz_448 rfl l2 ?_
  refine lq_arg (k := 1) X hS' l0 l4 (by omega) rfl dz_449 dz_450 dz_452 dz_453 dz_454 ?_
  refine lq_arg (k := 2) X hS' l0 l4 (by omega) rfl dz_455 dz_456 dz_458 dz_459 dz_460 ?_
  refine lq_arg (k := 3) X hS' l0 l4 (by omega) rfl dz_461 dz_462 dz_464 dz_465 dz_466 ?_
  exact hk
theorem lc_any (X : lq_X p s m meth c b L xs sv Rg) (hS0 : S0 ≤ 200000) (hM : lq_M s Rg ad M S S0 H locs cells slots j) (hl : lv_has lsA 7 (lq_ls ad b (nI (6 * j)))) (hj : 6 * j + 5 < L) (K : lq_K p l e s m below meth c b Rg S0 j) : W p l e room_1 s m #[Value.ref b] below meth c H locs cells slots (lw_Z below #[Value.ref b] s) (F0 m 475 lsA []) := by
  have l0 := lv_at hl 4 rfl
  have l1 := lv_at hl 3 rfl
  have l2 := lv_at hl 2 rfl
  have l4 := lv_at hl 0 rfl
  refine lv_aload_n X.1.1 X.1.2.1 dz_475 rfl l1 ?_
  refine lq_arg (k := 1) X hM.2.1.2 l0 l4 (by omega) rfl dz_476 dz_477 dz_479 dz_480 dz_481 ?_
  refine lq_arg (k := 2) X hM.2.1.2 l0 l4 (by omega) rfl dz_482 dz_483 dz_485 dz_486 dz_487 ?_
  refine lq_arg (k := 3) X hM.2.1.2 l0 l4 (by omega) rfl dz_488 dz_489 dz_491 dz_492 dz_493 ?_
  refine lq_pair (n := 3) (pc1 := 494) (pc2 := 516) (idx1 := 61) (idx2 := 64) (c1 := 296) (c2 := 87) (as' := [.inl (xs (6 * j + 1)), .inl (xs (6 * j + 2)), .inl (xs (6 * j + 3))]) (off := 654) X hS0 hM hl hj K (j_any (d := 205) hM.1 rfl (by omega) (by omega) (xs (6 * j + 1)) (xs (6 * j + 2)) (xs (6 * j + 3))) (fun so h => tie_cr_any 205 0 (xs (6 * j + 1)) (xs (6 * j + 2)) (xs (6 * j + 3)) M so h) (fun M1 so h => tie_mo_any 205 242 (xs (6 * j + 1)) (xs (6 * j + 2)) (xs (6 * j + 3)) M1 so h) (by simp) rfl rfl rfl (Nat.le_of_ble_eq_true rfl) (Nat.le_of_ble_eq_true rfl) dz_494 dz_516 dz_519 (by decide) (fun v H' locs' cells' slots' hS' hk => ?_)
  refine lv_aload_n X.1.1 X.1.2.1 dz_497 rfl l2 ?_
  refine lq_arg (k := 1) X hS' l0 l4 (by omega) rfl dz_498 dz_499 dz_501 dz_502 dz_503 ?_
  refine lq_arg (k := 2) X hS' l0 l4 (by omega) rfl dz_504 dz_505 dz_507 dz_508 dz_509 ?_
  refine lq_arg (k := 3) X hS' l0 l4 (by omega) rfl dz_510 dz_511 dz_513 dz_514 dz_515 ?_
  exact hk
theorem lc_witness (X : lq_X p s m meth c b L xs sv Rg) (hS0 : S0 ≤ 200000) (hM : lq_M s Rg ad M S S0 H locs cells slots j) (hl : lv_has lsA 7 (lq_ls ad b (nI (6 * j)))) (hj : 6 * j + 5 < L) (K : lq_K p l e s m below meth c b Rg S0 j) : W p l e room_1 s m #[Value.ref b] below meth c H locs cells slots (lw_Z below #[Value.ref b] s) (F0 m 524 lsA []) := by
  have l0 := lv_at hl 4 rfl
  have l1 := lv_at hl 3 rfl
  have l2 := lv_at hl 2 rfl
  have l4 := lv_at hl 0 rfl
  by_cases cz : xs (6 * j + 2) = 0
  · refine lv_aload_n X.1.1 X.1.2.1 dz_524 rfl l1 ?_
    refine lq_arg (k := 1) X hM.2.1.2 l0 l4 (by omega) rfl dz_525 dz_526 dz_528 dz_529 dz_530 ?_
    refine lq_arg (k := 2) X hM.2.1.2 l0 l4 (by omega) rfl dz_531 dz_532 dz_534 dz_535 dz_536 ?_
    refine lv_if_eq X.1.1 X.1.2.1 (tgt := 544) dz_537 (by decide) (fun _ => ?_) (fun q => absurd cz q)
    refine lv_iconst (v := 0) X.1.1 X.1.2.1 dz_544 rfl ?_
    refine lq_arg (k := 3) X hM.2.1.2 l0 l4 (by omega) rfl dz_545 dz_546 dz_548 dz_549 dz_550 ?_
    refine lq_pair (n := 3) (pc1 := 551) (pc2 := 581) (idx1 := 65) (idx2 := 69) (c1 := 298) (c2 := 74) (as' := [.inl (xs (6 * j + 1)), .inl 0, .inl (xs (6 * j + 3))]) (off := 589) X hS0 hM hl hj K (j_witness (d := 205) hM.1 rfl (by omega) (by omega) (xs (6 * j + 1)) false (xs (6 * j + 3))) (fun so h => tie_cr_witness 205 0 (xs (6 * j + 1)) 0 (xs (6 * j + 3)) M so h) (fun M1 so h => tie_mo_witness 205 242 (xs (6 * j + 1)) 0 (xs (6 * j + 3)) M1 so h) (by simp) rfl rfl rfl (Nat.le_of_ble_eq_true rfl) (Nat.le_of_ble_eq_true rfl) dz_551 dz_581 dz_584 (by decide) (fun v H' locs' cells' slots' hS' hk => ?_)
    refine lv_aload_n X.1.1 X.1.2.1 dz_554 rfl l2 ?_
    refine lq_arg (k := 1) X hS' l0 l4 (by omega) rfl dz_555 dz_556 dz_558 dz_559 dz_560 ?_
    refine lq_arg (k := 2) X hS' l0 l4 (by omega) rfl dz_561 dz_562 dz_564 dz_565 dz_566 ?_
    refine lv_if_eq X.1.1 X.1.2.1 (tgt := 574) dz_567 (by decide) (fun _ => ?_) (fun q => absurd cz q)
    refine lv_iconst (v := 0) X.1.1 X.1.2.1 dz_574 rfl ?_
    refine lq_arg (k := 3) X hS' l0 l4 (by omega) rfl dz_575 dz_576 dz_578 dz_579 dz_580 ?_
    exact hk
  · refine lv_aload_n X.1.1 X.1.2.1 dz_524 rfl l1 ?_
    refine lq_arg (k := 1) X hM.2.1.2 l0 l4 (by omega) rfl dz_525 dz_526 dz_528 dz_529 dz_530 ?_
    refine lq_arg (k := 2) X hM.2.1.2 l0 l4 (by omega) rfl dz_531 dz_532 dz_534 dz_535 dz_536 ?_
    refine lv_if_eq X.1.1 X.1.2.1 (tgt := 544) dz_537 (by decide) (fun q => absurd q cz) (fun _ => ?_)
    refine lv_iconst (v := 1) X.1.1 X.1.2.1 dz_540 rfl ?_
    refine lv_goto (tgt := 545) X.1.1 X.1.2.1 dz_541 (by decide) ?_
    refine lq_arg (k := 3) X hM.2.1.2 l0 l4 (by omega) rfl dz_545 dz_546 dz_548 dz_549 dz_550 ?_
    refine lq_pair (n := 3) (pc1 := 551) (pc2 := 581) (idx1 := 65) (idx2 := 69) (c1 := 298) (c2 := 74) (as' := [.inl (xs (6 * j + 1)), .inl 1, .inl (xs (6 * j + 3))]) (off := 589) X hS0 hM hl hj K (j_witness (d := 205) hM.1 rfl (by omega) (by omega) (xs (6 * j + 1)) true (xs (6 * j + 3))) (fun so h => tie_cr_witness 205 0 (xs (6 * j + 1)) 1 (xs (6 * j + 3)) M so h) (fun M1 so h => tie_mo_witness 205 242 (xs (6 * j + 1)) 1 (xs (6 * j + 3)) M1 so h) (by simp) rfl rfl rfl (Nat.le_of_ble_eq_true rfl) (Nat.le_of_ble_eq_true rfl) dz_551 dz_581 dz_584 (by decide) (fun v H' locs' cells' slots' hS' hk => ?_)
    refine lv_aload_n X.1.1 X.1.2.1 dz_554 rfl l2 ?_
    refine lq_arg (k := 1) X hS' l0 l4 (by omega) rfl dz_555 dz_556 dz_558 dz_559 dz_560 ?_
    refine lq_arg (k := 2) X hS' l0 l4 (by omega) rfl dz_561 dz_562 dz_564 dz_565 dz_566 ?_
    refine lv_if_eq X.1.1 X.1.2.1 (tgt := 574) dz_567 (by decide) (fun q => absurd q cz) (fun _ => ?_)
    refine lv_iconst (v := 1) X.1.1 X.1.2.1 dz_570 rfl ?_
    refine lv_goto (tgt := 575) X.1.1 X.1.2.1 dz_571 (by decide) ?_
    refine lq_arg (k := 3) X hS' l0 l4 (by omega) rfl dz_575 dz_576 dz_578 dz_579 dz_580 ?_
    exact hk
theorem lc_shown (X : lq_X p s m meth c b L xs sv Rg) (hS0 : S0 ≤ 200000) (hM : lq_M s Rg ad M S S0 H locs cells slots j) (hl : lv_has lsA 7 (lq_ls ad b (nI (6 * j)))) (hj : 6 * j + 5 < L) (K : lq_K p l e s m below meth c b Rg S0 j) : W p l e room_1 s m #[Value.ref b] below meth c H locs cells slots (lw_Z below #[Value.ref b] s) (F0 m 589 lsA []) := by
  have l0 := lv_at hl 4 rfl
  have l1 := lv_at hl 3 rfl
  have l2 := lv_at hl 2 rfl
  have l4 := lv_at hl 0 rfl
  by_cases cz : xs (6 * j + 2) = 0
  · refine lv_aload_n X.1.1 X.1.2.1 dz_589 rfl l1 ?_
    refine lq_arg (k := 1) X hM.2.1.2 l0 l4 (by omega) rfl dz_590 dz_591 dz_593 dz_594 dz_595 ?_
    refine lq_arg (k := 2) X hM.2.1.2 l0 l4 (by omega) rfl dz_596 dz_597 dz_599 dz_600 dz_601 ?_
    refine lv_if_eq X.1.1 X.1.2.1 (tgt := 609) dz_602 (by decide) (fun _ => ?_) (fun q => absurd cz q)
    refine lv_iconst (v := 0) X.1.1 X.1.2.1 dz_609 rfl ?_
    refine lq_arg (k := 3) X hM.2.1.2 l0 l4 (by omega) rfl dz_610 dz_611 dz_613 dz_614 dz_615 ?_
    refine lq_pair (n := 3) (pc1 := 616) (pc2 := 646) (idx1 := 70) (idx2 := 73) (c1 := 299) (c2 := 75) (as' := [.inl (xs (6 * j + 1)), .inl 0, .inl (xs (6 * j + 3))]) (off := 524) X hS0 hM hl hj K (j_shown (d := 205) hM.1 rfl (by omega) (by omega) (xs (6 * j + 1)) false (xs (6 * j + 3))) (fun so h => tie_cr_shown 205 0 (xs (6 * j + 1)) 0 (xs (6 * j + 3)) M so h) (fun M1 so h => tie_mo_shown 205 242 (xs (6 * j + 1)) 0 (xs (6 * j + 3)) M1 so h) (by simp) rfl rfl rfl (Nat.le_of_ble_eq_true rfl) (Nat.le_of_ble_eq_true rfl) dz_616 dz_646 dz_649 (by decide) (fun v H' locs' cells' slots' hS' hk => ?_)
    refine lv_aload_n X.1.1 X.1.2.1 dz_619 rfl l2 ?_
    refine lq_arg (k := 1) X hS' l0 l4 (by omega) rfl dz_620 dz_621 dz_623 dz_624 dz_625 ?_
    refine lq_arg (k := 2) X hS' l0 l4 (by omega) rfl dz_626 dz_627 dz_629 dz_630 dz_631 ?_
    refine lv_if_eq X.1.1 X.1.2.1 (tgt := 639) dz_632 (by decide) (fun _ => ?_) (fun q => absurd cz q)
    refine lv_iconst (v := 0) X.1.1 X.1.2.1 dz_639 rfl ?_
    refine lq_arg (k := 3) X hS' l0 l4 (by omega) rfl dz_640 dz_641 dz_643 dz_644 dz_645 ?_
    exact hk
  · refine lv_aload_n X.1.1 X.1.2.1 dz_589 rfl l1 ?_
    refine lq_arg (k := 1) X hM.2.1.2 l0 l4 (by omega) rfl dz_590 dz_591 dz_593 dz_594 dz_595 ?_
    refine lq_arg (k := 2) X hM.2.1.2 l0 l4 (by omega) rfl dz_596 dz_597 dz_599 dz_600 dz_601 ?_
    refine lv_if_eq X.1.1 X.1.2.1 (tgt := 609) dz_602 (by decide) (fun q => absurd q cz) (fun _ => ?_)
    refine lv_iconst (v := 1) X.1.1 X.1.2.1 dz_605 rfl ?_
    refine lv_goto (tgt := 610) X.1.1 X.1.2.1 dz_606 (by decide) ?_
    refine lq_arg (k := 3) X hM.2.1.2 l0 l4 (by omega) rfl dz_610 dz_611 dz_613 dz_614 dz_615 ?_
    refine lq_pair (n := 3) (pc1 := 616) (pc2 := 646) (idx1 := 70) (idx2 := 73) (c1 := 299) (c2 := 75) (as' := [.inl (xs (6 * j + 1)), .inl 1, .inl (xs (6 * j + 3))]) (off := 524) X hS0 hM hl hj K (j_shown (d := 205) hM.1 rfl (by omega) (by omega) (xs (6 * j + 1)) true (xs (6 * j + 3))) (fun so h => tie_cr_shown 205 0 (xs (6 * j + 1)) 1 (xs (6 * j + 3)) M so h) (fun M1 so h => tie_mo_shown 205 242 (xs (6 * j + 1)) 1 (xs (6 * j + 3)) M1 so h) (by simp) rfl rfl rfl (Nat.le_of_ble_eq_true rfl) (Nat.le_of_ble_eq_true rfl) dz_616 dz_646 dz_649 (by decide) (fun v H' locs' cells' slots' hS' hk => ?_)
    refine lv_aload_n X.1.1 X.1.2.1 dz_619 rfl l2 ?_
    refine lq_arg (k := 1) X hS' l0 l4 (by omega) rfl dz_620 dz_621 dz_623 dz_624 dz_625 ?_
    refine lq_arg (k := 2) X hS' l0 l4 (by omega) rfl dz_626 dz_627 dz_629 dz_630 dz_631 ?_
    refine lv_if_eq X.1.1 X.1.2.1 (tgt := 639) dz_632 (by decide) (fun q => absurd q cz) (fun _ => ?_)
    refine lv_iconst (v := 1) X.1.1 X.1.2.1 dz_635 rfl ?_
    refine lv_goto (tgt := 640) X.1.1 X.1.2.1 dz_636 (by decide) ?_
    refine lq_arg (k := 3) X hS' l0 l4 (by omega) rfl dz_640 dz_641 dz_643 dz_644 dz_645 ?_
    exact hk
theorem lc_shortest (X : lq_X p s m meth c b L xs sv Rg) (hS0 : S0 ≤ 200000) (hM : lq_M s Rg ad M S S0 H locs cells slots j) (hl : lv_has lsA 7 (lq_ls ad b (nI (6 * j)))) (hj : 6 * j + 5 < L) (K : lq_K p l e s m below meth c b Rg S0 j) : W p l e room_1 s m #[Value.ref b] below meth c H locs cells slots (lw_Z below #[Value.ref b] s) (F0 m 654 lsA []) := by
  have l0 := lv_at hl 4 rfl
  have l1 := lv_at hl 3 rfl
  have l2 := lv_at hl 2 rfl
  have l4 := lv_at hl 0 rfl
  refine lv_aload_n X.1.1 X.1.2.1 dz_654 rfl l1 ?_
  refine lq_arg (k := 1) X hM.2.1.2 l0 l4 (by omega) rfl dz_655 dz_656 dz_658 dz_659 dz_660 ?_
  refine lq_arg (k := 2) X hM.2.1.2 l0 l4 (by omega) rfl dz_661 dz_662 dz_664 dz_665 dz_666 ?_
  refine lq_pair (n := 2) (pc1 := 667) (pc2 := 683) (idx1 := 74) (idx2 := 77) (c1 := 300) (c2 := 88) (as' := [.inl (xs (6 * j + 1)), .inl (xs (6 * j + 2))]) (off := 487) X hS0 hM hl hj K (j_shortest (d := 205) hM.1 rfl (by omega) (by omega) (xs (6 * j + 1)) (xs (6 * j + 2))) (fun so h => tie_cr_shortest 205 0 (xs (6 * j + 1)) (xs (6 * j + 2)) M so h) (fun M1 so h => tie_mo_shortest2 205 242 (xs (6 * j + 1)) (xs (6 * j + 2)) M1 so h) (by simp) rfl rfl rfl (Nat.le_of_ble_eq_true rfl) (Nat.le_of_ble_eq_true rfl) dz_667 dz_683 dz_686 (by decide) (fun v H' locs' cells' slots' hS' hk => ?_)
  refine lv_aload_n X.1.1 X.1.2.1 dz_670 rfl l2 ?_
  refine lq_arg (k := 1) X hS' l0 l4 (by omega) rfl dz_671 dz_672 dz_674 dz_675 dz_676 ?_
  refine lq_arg (k := 2) X hS' l0 l4 (by omega) rfl dz_677 dz_678 dz_680 dz_681 dz_682 ?_
  exact hk
theorem lc_words (X : lq_X p s m meth c b L xs sv Rg) (hS0 : S0 ≤ 200000) (hM : lq_M s Rg ad M S S0 H locs cells slots j) (hl : lv_has lsA 7 (lq_ls ad b (nI (6 * j)))) (hj : 6 * j + 5 < L) (K : lq_K p l e s m below meth c b Rg S0 j) : W p l e room_1 s m #[Value.ref b] below meth c H locs cells slots (lw_Z below #[Value.ref b] s) (F0 m 691 lsA []) := by
  have l0 := lv_at hl 4 rfl
  have l1 := lv_at hl 3 rfl
  have l2 := lv_at hl 2 rfl
  have l4 := lv_at hl 0 rfl
  refine lv_aload_n X.1.1 X.1.2.1 dz_691 rfl l1 ?_
  refine lq_arg (k := 1) X hM.2.1.2 l0 l4 (by omega) rfl dz_692 dz_693 dz_695 dz_696 dz_697 ?_
  refine lq_arg (k := 2) X hM.2.1.2 l0 l4 (by omega) rfl dz_698 dz_699 dz_701 dz_702 dz_703 ?_
  refine lq_pair (n := 2) (pc1 := 704) (pc2 := 720) (idx1 := 78) (idx2 := 81) (c1 := 301) (c2 := 102) (as' := [.inl (xs (6 * j + 1)), .inl (xs (6 * j + 2))]) (off := 450) X hS0 hM hl hj K (j_words (d := 205) hM.1 rfl (by omega) (by omega) (xs (6 * j + 1)) (xs (6 * j + 2))) (fun so h => tie_cr_words 205 0 (xs (6 * j + 1)) (xs (6 * j + 2)) M so h) (fun M1 so h => tie_mo_words 205 242 (xs (6 * j + 1)) (xs (6 * j + 2)) M1 so h) (by simp) rfl rfl rfl (Nat.le_of_ble_eq_true rfl) (Nat.le_of_ble_eq_true rfl) dz_704 dz_720 dz_723 (by decide) (fun v H' locs' cells' slots' hS' hk => ?_)
  refine lv_aload_n X.1.1 X.1.2.1 dz_707 rfl l2 ?_
  refine lq_arg (k := 1) X hS' l0 l4 (by omega) rfl dz_708 dz_709 dz_711 dz_712 dz_713 ?_
  refine lq_arg (k := 2) X hS' l0 l4 (by omega) rfl dz_714 dz_715 dz_717 dz_718 dz_719 ?_
  exact hk
theorem lc_reads (X : lq_X p s m meth c b L xs sv Rg) (hS0 : S0 ≤ 200000) (hM : lq_M s Rg ad M S S0 H locs cells slots j) (hl : lv_has lsA 7 (lq_ls ad b (nI (6 * j)))) (hj : 6 * j + 5 < L) (K : lq_K p l e s m below meth c b Rg S0 j) : W p l e room_1 s m #[Value.ref b] below meth c H locs cells slots (lw_Z below #[Value.ref b] s) (F0 m 728 lsA []) := by
  have l0 := lv_at hl 4 rfl
  have l1 := lv_at hl 3 rfl
  have l2 := lv_at hl 2 rfl
  have l4 := lv_at hl 0 rfl
  refine lv_aload_n X.1.1 X.1.2.1 dz_728 rfl l1 ?_
  refine lq_arg (k := 1) X hM.2.1.2 l0 l4 (by omega) rfl dz_729 dz_730 dz_732 dz_733 dz_734 ?_
  refine lq_pair (n := 1) (pc1 := 735) (pc2 := 745) (idx1 := 82) (idx2 := 85) (c1 := 303) (c2 := 104) (as' := [.inl (xs (6 * j + 1))]) (off := 425) X hS0 hM hl hj K (j_reads (d := 205) hM.1 rfl (by omega) (by omega) (xs (6 * j + 1))) (fun so h => tie_cr_reads 205 0 (xs (6 * j + 1)) M so h) (fun M1 so h => tie_mo_reads 205 242 (xs (6 * j + 1)) M1 so h) (by simp) rfl rfl rfl (Nat.le_of_ble_eq_true rfl) (Nat.le_of_ble_eq_true rfl) dz_735 dz_745 dz_748 (by decide) (fun v H' locs' cells' slots' hS' hk => ?_)
  refine lv_aload_n X.1.1 X.1.2.1 dz_738 rfl l2 ?_
  refine lq_arg (k := 1) X hS' l0 l4 (by omega) rfl dz_739 dz_740 dz_742 dz_743 dz_744 ?_
  exact hk
theorem lc_read (X : lq_X p s m meth c b L xs sv Rg) (hS0 : S0 ≤ 200000) (hM : lq_M s Rg ad M S S0 H locs cells slots j) (hl : lv_has lsA 7 (lq_ls ad b (nI (6 * j)))) (hj : 6 * j + 5 < L) (K : lq_K p l e s m below meth c b Rg S0 j) : W p l e room_1 s m #[Value.ref b] below meth c H locs cells slots (lw_Z below #[Value.ref b] s) (F0 m 753 lsA []) := by
  have l0 := lv_at hl 4 rfl
  have l1 := lv_at hl 3 rfl
  have l2 := lv_at hl 2 rfl
  have l4 := lv_at hl 0 rfl
  refine lv_aload_n X.1.1 X.1.2.1 dz_753 rfl l1 ?_
  refine lq_arg (k := 1) X hM.2.1.2 l0 l4 (by omega) rfl dz_754 dz_755 dz_757 dz_758 dz_759 ?_
  refine lq_pair (n := 1) (pc1 := 760) (pc2 := 770) (idx1 := 86) (idx2 := 89) (c1 := 304) (c2 := 105) (as' := [.inl (xs (6 * j + 1))]) (off := 400) X hS0 hM hl hj K (j_read (d := 205) hM.1 rfl (by omega) (by omega) (xs (6 * j + 1))) (fun so h => tie_cr_read 205 0 (xs (6 * j + 1)) M so h) (fun M1 so h => tie_mo_read 205 242 (xs (6 * j + 1)) M1 so h) (by simp) rfl rfl rfl (Nat.le_of_ble_eq_true rfl) (Nat.le_of_ble_eq_true rfl) dz_760 dz_770 dz_773 (by decide) (fun v H' locs' cells' slots' hS' hk => ?_)
  refine lv_aload_n X.1.1 X.1.2.1 dz_763 rfl l2 ?_
  refine lq_arg (k := 1) X hS' l0 l4 (by omega) rfl dz_764 dz_765 dz_767 dz_768 dz_769 ?_
  exact hk
theorem lc_taken (X : lq_X p s m meth c b L xs sv Rg) (hS0 : S0 ≤ 200000) (hM : lq_M s Rg ad M S S0 H locs cells slots j) (hl : lv_has lsA 7 (lq_ls ad b (nI (6 * j)))) (hj : 6 * j + 5 < L) (K : lq_K p l e s m below meth c b Rg S0 j) : W p l e room_1 s m #[Value.ref b] below meth c H locs cells slots (lw_Z below #[Value.ref b] s) (F0 m 778 lsA []) := by
  have l0 := lv_at hl 4 rfl
  have l1 := lv_at hl 3 rfl
  have l2 := lv_at hl 2 rfl
  have l4 := lv_at hl 0 rfl
  refine lv_aload_n X.1.1 X.1.2.1 dz_778 rfl l1 ?_
  refine lq_arg (k := 1) X hM.2.1.2 l0 l4 (by omega) rfl dz_779 dz_780 dz_782 dz_783 dz_784 ?_
  refine lq_arg (k := 2) X hM.2.1.2 l0 l4 (by omega) rfl dz_785 dz_786 dz_788 dz_789 dz_790 ?_
  refine lq_pair (n := 2) (pc1 := 791) (pc2 := 807) (idx1 := 90) (idx2 := 93) (c1 := 305) (c2 := 106) (as' := [.inl (xs (6 * j + 1)), .inl (xs (6 * j + 2))]) (off := 363) X hS0 hM hl hj K (j_taken (d := 205) hM.1 rfl (by omega) (by omega) (xs (6 * j + 1)) (xs (6 * j + 2))) (fun so h => tie_cr_taken 205 0 (xs (6 * j + 1)) (xs (6 * j + 2)) M so h) (fun M1 so h => tie_mo_taken 205 242 (xs (6 * j + 1)) (xs (6 * j + 2)) M1 so h) (by simp) rfl rfl rfl (Nat.le_of_ble_eq_true rfl) (Nat.le_of_ble_eq_true rfl) dz_791 dz_807 dz_810 (by decide) (fun v H' locs' cells' slots' hS' hk => ?_)
  refine lv_aload_n X.1.1 X.1.2.1 dz_794 rfl l2 ?_
  refine lq_arg (k := 1) X hS' l0 l4 (by omega) rfl dz_795 dz_796 dz_798 dz_799 dz_800 ?_
  refine lq_arg (k := 2) X hS' l0 l4 (by omega) rfl dz_801 dz_802 dz_804 dz_805 dz_806 ?_
  exact hk
theorem lc_times (X : lq_X p s m meth c b L xs sv Rg) (hS0 : S0 ≤ 200000) (hM : lq_M s Rg ad M S S0 H locs cells slots j) (hl : lv_has lsA 7 (lq_ls ad b (nI (6 * j)))) (hj : 6 * j + 5 < L) (K : lq_K p l e s m below meth c b Rg S0 j) : W p l e room_1 s m #[Value.ref b] below meth c H locs cells slots (lw_Z below #[Value.ref b] s) (F0 m 815 lsA []) := by
  have l0 := lv_at hl 4 rfl
  have l1 := lv_at hl 3 rfl
  have l2 := lv_at hl 2 rfl
  have l4 := lv_at hl 0 rfl
  refine lv_aload_n X.1.1 X.1.2.1 dz_815 rfl l1 ?_
  refine lq_arg (k := 1) X hM.2.1.2 l0 l4 (by omega) rfl dz_816 dz_817 dz_819 dz_820 dz_821 ?_
  refine lq_pair (n := 1) (pc1 := 822) (pc2 := 832) (idx1 := 94) (idx2 := 97) (c1 := 306) (c2 := 107) (as' := [.inl (xs (6 * j + 1))]) (off := 338) X hS0 hM hl hj K (j_times (d := 205) hM.1 rfl (by omega) (by omega) (xs (6 * j + 1))) (fun so h => tie_cr_times 205 0 (xs (6 * j + 1)) M so h) (fun M1 so h => tie_mo_times 205 242 (xs (6 * j + 1)) M1 so h) (by simp) rfl rfl rfl (Nat.le_of_ble_eq_true rfl) (Nat.le_of_ble_eq_true rfl) dz_822 dz_832 dz_835 (by decide) (fun v H' locs' cells' slots' hS' hk => ?_)
  refine lv_aload_n X.1.1 X.1.2.1 dz_825 rfl l2 ?_
  refine lq_arg (k := 1) X hS' l0 l4 (by omega) rfl dz_826 dz_827 dz_829 dz_830 dz_831 ?_
  exact hk
theorem lc_parts (X : lq_X p s m meth c b L xs sv Rg) (hS0 : S0 ≤ 200000) (hM : lq_M s Rg ad M S S0 H locs cells slots j) (hl : lv_has lsA 7 (lq_ls ad b (nI (6 * j)))) (hj : 6 * j + 5 < L) (K : lq_K p l e s m below meth c b Rg S0 j) : W p l e room_1 s m #[Value.ref b] below meth c H locs cells slots (lw_Z below #[Value.ref b] s) (F0 m 840 lsA []) := by
  have l0 := lv_at hl 4 rfl
  have l1 := lv_at hl 3 rfl
  have l2 := lv_at hl 2 rfl
  have l4 := lv_at hl 0 rfl
  refine lv_aload_n X.1.1 X.1.2.1 dz_840 rfl l1 ?_
  refine lq_arg (k := 1) X hM.2.1.2 l0 l4 (by omega) rfl dz_841 dz_842 dz_844 dz_845 dz_846 ?_
  refine lq_pair (n := 1) (pc1 := 847) (pc2 := 857) (idx1 := 98) (idx2 := 101) (c1 := 307) (c2 := 108) (as' := [.inl (xs (6 * j + 1))]) (off := 313) X hS0 hM hl hj K (j_parts (d := 205) hM.1 rfl (by omega) (by omega) (xs (6 * j + 1))) (fun so h => tie_cr_parts 205 0 (xs (6 * j + 1)) M so h) (fun M1 so h => tie_mo_parts 205 242 (xs (6 * j + 1)) M1 so h) (by simp) rfl rfl rfl (Nat.le_of_ble_eq_true rfl) (Nat.le_of_ble_eq_true rfl) dz_847 dz_857 dz_860 (by decide) (fun v H' locs' cells' slots' hS' hk => ?_)
  refine lv_aload_n X.1.1 X.1.2.1 dz_850 rfl l2 ?_
  refine lq_arg (k := 1) X hS' l0 l4 (by omega) rfl dz_851 dz_852 dz_854 dz_855 dz_856 ?_
  exact hk
theorem lc_mended (X : lq_X p s m meth c b L xs sv Rg) (hS0 : S0 ≤ 200000) (hM : lq_M s Rg ad M S S0 H locs cells slots j) (hl : lv_has lsA 7 (lq_ls ad b (nI (6 * j)))) (hj : 6 * j + 5 < L) (K : lq_K p l e s m below meth c b Rg S0 j) : W p l e room_1 s m #[Value.ref b] below meth c H locs cells slots (lw_Z below #[Value.ref b] s) (F0 m 865 lsA []) := by
  have l0 := lv_at hl 4 rfl
  have l1 := lv_at hl 3 rfl
  have l2 := lv_at hl 2 rfl
  have l4 := lv_at hl 0 rfl
  refine lv_aload_n X.1.1 X.1.2.1 dz_865 rfl l1 ?_
  refine lq_arg (k := 1) X hM.2.1.2 l0 l4 (by omega) rfl dz_866 dz_867 dz_869 dz_870 dz_871 ?_
  refine lq_pair (n := 1) (pc1 := 872) (pc2 := 882) (idx1 := 102) (idx2 := 105) (c1 := 308) (c2 := 111) (as' := [.inl (xs (6 * j + 1))]) (off := 288) X hS0 hM hl hj K (j_mended (d := 205) hM.1 rfl (by omega) (by omega) (xs (6 * j + 1))) (fun so h => tie_cr_mended 205 0 (xs (6 * j + 1)) M so h) (fun M1 so h => tie_mo_mended 205 242 (xs (6 * j + 1)) M1 so h) (by simp) rfl rfl rfl (Nat.le_of_ble_eq_true rfl) (Nat.le_of_ble_eq_true rfl) dz_872 dz_882 dz_885 (by decide) (fun v H' locs' cells' slots' hS' hk => ?_)
  refine lv_aload_n X.1.1 X.1.2.1 dz_875 rfl l2 ?_
  refine lq_arg (k := 1) X hS' l0 l4 (by omega) rfl dz_876 dz_877 dz_879 dz_880 dz_881 ?_
  exact hk
theorem lc_unlike (X : lq_X p s m meth c b L xs sv Rg) (hS0 : S0 ≤ 200000) (hM : lq_M s Rg ad M S S0 H locs cells slots j) (hl : lv_has lsA 7 (lq_ls ad b (nI (6 * j)))) (hj : 6 * j + 5 < L) (K : lq_K p l e s m below meth c b Rg S0 j) : W p l e room_1 s m #[Value.ref b] below meth c H locs cells slots (lw_Z below #[Value.ref b] s) (F0 m 890 lsA []) := by
  have l0 := lv_at hl 4 rfl
  have l1 := lv_at hl 3 rfl
  have l2 := lv_at hl 2 rfl
  have l4 := lv_at hl 0 rfl
  refine lv_aload_n X.1.1 X.1.2.1 dz_890 rfl l1 ?_
  refine lq_arg (k := 1) X hM.2.1.2 l0 l4 (by omega) rfl dz_891 dz_892 dz_894 dz_895 dz_896 ?_
  refine lq_arg (k := 2) X hM.2.1.2 l0 l4 (by omega) rfl dz_897 dz_898 dz_900 dz_901 dz_902 ?_
  refine lq_arg (k := 3) X hM.2.1.2 l0 l4 (by omega) rfl dz_903 dz_904 dz_906 dz_907 dz_908 ?_
  refine lq_pair (n := 3) (pc1 := 909) (pc2 := 931) (idx1 := 106) (idx2 := 109) (c1 := 302) (c2 := 113) (as' := [.inl (xs (6 * j + 1)), .inl (xs (6 * j + 2)), .inl (xs (6 * j + 3))]) (off := 239) X hS0 hM hl hj K (j_unlike (d := 205) hM.1 rfl (by omega) (by omega) (xs (6 * j + 1)) (xs (6 * j + 2)) (xs (6 * j + 3))) (fun so h => tie_cr_unlike 205 0 (xs (6 * j + 1)) (xs (6 * j + 2)) (xs (6 * j + 3)) M so h) (fun M1 so h => tie_mo_unlike 205 242 (xs (6 * j + 1)) (xs (6 * j + 2)) (xs (6 * j + 3)) M1 so h) (by simp) rfl rfl rfl (Nat.le_of_ble_eq_true rfl) (Nat.le_of_ble_eq_true rfl) dz_909 dz_931 dz_934 (by decide) (fun v H' locs' cells' slots' hS' hk => ?_)
  refine lv_aload_n X.1.1 X.1.2.1 dz_912 rfl l2 ?_
  refine lq_arg (k := 1) X hS' l0 l4 (by omega) rfl dz_913 dz_914 dz_916 dz_917 dz_918 ?_
  refine lq_arg (k := 2) X hS' l0 l4 (by omega) rfl dz_919 dz_920 dz_922 dz_923 dz_924 ?_
  refine lq_arg (k := 3) X hS' l0 l4 (by omega) rfl dz_925 dz_926 dz_928 dz_929 dz_930 ?_
  exact hk
theorem lc_thing (X : lq_X p s m meth c b L xs sv Rg) (hS0 : S0 ≤ 200000) (hM : lq_M s Rg ad M S S0 H locs cells slots j) (hl : lv_has lsA 7 (lq_ls ad b (nI (6 * j)))) (hj : 6 * j + 5 < L) (K : lq_K p l e s m below meth c b Rg S0 j) : W p l e room_1 s m #[Value.ref b] below meth c H locs cells slots (lw_Z below #[Value.ref b] s) (F0 m 939 lsA []) := by
  have l0 := lv_at hl 4 rfl
  have l1 := lv_at hl 3 rfl
  have l2 := lv_at hl 2 rfl
  have l4 := lv_at hl 0 rfl
  refine lv_aload_n X.1.1 X.1.2.1 dz_939 rfl l1 ?_
  refine lq_arg (k := 1) X hM.2.1.2 l0 l4 (by omega) rfl dz_940 dz_941 dz_943 dz_944 dz_945 ?_
  refine lq_arg (k := 2) X hM.2.1.2 l0 l4 (by omega) rfl dz_946 dz_947 dz_949 dz_950 dz_951 ?_
  refine lq_pair (n := 2) (pc1 := 952) (pc2 := 968) (idx1 := 110) (idx2 := 113) (c1 := 309) (c2 := 117) (as' := [.inl (xs (6 * j + 1)), .inl (xs (6 * j + 2))]) (off := 202) X hS0 hM hl hj K (j_thing (d := 205) hM.1 rfl (by omega) (by omega) (xs (6 * j + 1)) (xs (6 * j + 2))) (fun so h => tie_cr_thing 205 0 (xs (6 * j + 1)) (xs (6 * j + 2)) M so h) (fun M1 so h => tie_mo_thing 205 242 (xs (6 * j + 1)) (xs (6 * j + 2)) M1 so h) (by simp) rfl rfl rfl (Nat.le_of_ble_eq_true rfl) (Nat.le_of_ble_eq_true rfl) dz_952 dz_968 dz_971 (by decide) (fun v H' locs' cells' slots' hS' hk => ?_)
  refine lv_aload_n X.1.1 X.1.2.1 dz_955 rfl l2 ?_
  refine lq_arg (k := 1) X hS' l0 l4 (by omega) rfl dz_956 dz_957 dz_959 dz_960 dz_961 ?_
  refine lq_arg (k := 2) X hS' l0 l4 (by omega) rfl dz_962 dz_963 dz_965 dz_966 dz_967 ?_
  exact hk
theorem lc_wrong (X : lq_X p s m meth c b L xs sv Rg) (hS0 : S0 ≤ 200000) (hM : lq_M s Rg ad M S S0 H locs cells slots j) (hl : lv_has lsA 7 (lq_ls ad b (nI (6 * j)))) (hj : 6 * j + 5 < L) (K : lq_K p l e s m below meth c b Rg S0 j) : W p l e room_1 s m #[Value.ref b] below meth c H locs cells slots (lw_Z below #[Value.ref b] s) (F0 m 976 lsA []) := by
  have l0 := lv_at hl 4 rfl
  have l1 := lv_at hl 3 rfl
  have l2 := lv_at hl 2 rfl
  have l4 := lv_at hl 0 rfl
  refine lv_aload_n X.1.1 X.1.2.1 dz_976 rfl l1 ?_
  refine lq_arg (k := 1) X hM.2.1.2 l0 l4 (by omega) rfl dz_977 dz_978 dz_980 dz_981 dz_982 ?_
  refine lq_pair (n := 1) (pc1 := 983) (pc2 := 993) (idx1 := 114) (idx2 := 117) (c1 := 310) (c2 := 119) (as' := [.inl (xs (6 * j + 1))]) (off := 177) X hS0 hM hl hj K (j_wrong (d := 205) hM.1 rfl (by omega) (by omega) (xs (6 * j + 1))) (fun so h => tie_cr_wrong 205 0 (xs (6 * j + 1)) M so h) (fun M1 so h => tie_mo_wrong 205 242 (xs (6 * j + 1)) M1 so h) (by simp) rfl rfl rfl (Nat.le_of_ble_eq_true rfl) (Nat.le_of_ble_eq_true rfl) dz_983 dz_993 dz_996 (by decide) (fun v H' locs' cells' slots' hS' hk => ?_)
  refine lv_aload_n X.1.1 X.1.2.1 dz_986 rfl l2 ?_
  refine lq_arg (k := 1) X hS' l0 l4 (by omega) rfl dz_987 dz_988 dz_990 dz_991 dz_992 ?_
  exact hk
theorem lc_message (X : lq_X p s m meth c b L xs sv Rg) (hS0 : S0 ≤ 200000) (hM : lq_M s Rg ad M S S0 H locs cells slots j) (hl : lv_has lsA 7 (lq_ls ad b (nI (6 * j)))) (hj : 6 * j + 5 < L) (K : lq_K p l e s m below meth c b Rg S0 j) : W p l e room_1 s m #[Value.ref b] below meth c H locs cells slots (lw_Z below #[Value.ref b] s) (F0 m 1001 lsA []) := by
  have l0 := lv_at hl 4 rfl
  have l1 := lv_at hl 3 rfl
  have l2 := lv_at hl 2 rfl
  have l4 := lv_at hl 0 rfl
  refine lv_aload_n X.1.1 X.1.2.1 dz_1001 rfl l1 ?_
  refine lq_arg (k := 1) X hM.2.1.2 l0 l4 (by omega) rfl dz_1002 dz_1003 dz_1005 dz_1006 dz_1007 ?_
  refine lq_arg (k := 2) X hM.2.1.2 l0 l4 (by omega) rfl dz_1008 dz_1009 dz_1011 dz_1012 dz_1013 ?_
  refine lq_pair (n := 2) (pc1 := 1014) (pc2 := 1030) (idx1 := 118) (idx2 := 121) (c1 := 311) (c2 := 125) (as' := [.inl (xs (6 * j + 1)), .inl (xs (6 * j + 2))]) (off := 140) X hS0 hM hl hj K (j_message (d := 205) hM.1 rfl (by omega) (by omega) (xs (6 * j + 1)) (xs (6 * j + 2))) (fun so h => tie_cr_message 205 0 (xs (6 * j + 1)) (xs (6 * j + 2)) M so h) (fun M1 so h => tie_mo_message 205 242 (xs (6 * j + 1)) (xs (6 * j + 2)) M1 so h) (by simp) rfl rfl rfl (Nat.le_of_ble_eq_true rfl) (Nat.le_of_ble_eq_true rfl) dz_1014 dz_1030 dz_1033 (by decide) (fun v H' locs' cells' slots' hS' hk => ?_)
  refine lv_aload_n X.1.1 X.1.2.1 dz_1017 rfl l2 ?_
  refine lq_arg (k := 1) X hS' l0 l4 (by omega) rfl dz_1018 dz_1019 dz_1021 dz_1022 dz_1023 ?_
  refine lq_arg (k := 2) X hS' l0 l4 (by omega) rfl dz_1024 dz_1025 dz_1027 dz_1028 dz_1029 ?_
  exact hk
theorem lc_recount (X : lq_X p s m meth c b L xs sv Rg) (hS0 : S0 ≤ 200000) (hM : lq_M s Rg ad M S S0 H locs cells slots j) (hl : lv_has lsA 7 (lq_ls ad b (nI (6 * j)))) (hj : 6 * j + 5 < L) (K : lq_K p l e s m below meth c b Rg S0 j) : W p l e room_1 s m #[Value.ref b] below meth c H locs cells slots (lw_Z below #[Value.ref b] s) (F0 m 1038 lsA []) := by
  have l0 := lv_at hl 4 rfl
  have l1 := lv_at hl 3 rfl
  have l2 := lv_at hl 2 rfl
  have l4 := lv_at hl 0 rfl
  refine lv_aload_n X.1.1 X.1.2.1 dz_1038 rfl l1 ?_
  refine lq_arg (k := 1) X hM.2.1.2 l0 l4 (by omega) rfl dz_1039 dz_1040 dz_1042 dz_1043 dz_1044 ?_
  refine lq_arg (k := 2) X hM.2.1.2 l0 l4 (by omega) rfl dz_1045 dz_1046 dz_1048 dz_1049 dz_1050 ?_
  refine lq_arg (k := 3) X hM.2.1.2 l0 l4 (by omega) rfl dz_1051 dz_1052 dz_1054 dz_1055 dz_1056 ?_
  refine lq_arg (k := 4) X hM.2.1.2 l0 l4 (by omega) rfl dz_1057 dz_1058 dz_1060 dz_1061 dz_1062 ?_
  refine lq_pair (n := 4) (pc1 := 1063) (pc2 := 1091) (idx1 := 122) (idx2 := 126) (c1 := 312) (c2 := 126) (as' := [.inl (xs (6 * j + 1)), .inl (xs (6 * j + 2)), .inl (xs (6 * j + 3)), .inl (xs (6 * j + 4))]) (off := 79) X hS0 hM hl hj K (j_recount (d := 205) hM.1 rfl (by omega) (by omega) (xs (6 * j + 1)) (xs (6 * j + 2)) (xs (6 * j + 3)) (xs (6 * j + 4))) (fun so h => tie_cr_recount 205 0 (xs (6 * j + 1)) (xs (6 * j + 2)) (xs (6 * j + 3)) (xs (6 * j + 4)) M so h) (fun M1 so h => tie_mo_recount 205 242 (xs (6 * j + 1)) (xs (6 * j + 2)) (xs (6 * j + 3)) (xs (6 * j + 4)) M1 so h) (by simp) rfl rfl rfl (Nat.le_of_ble_eq_true rfl) (Nat.le_of_ble_eq_true rfl) dz_1063 dz_1091 dz_1094 (by decide) (fun v H' locs' cells' slots' hS' hk => ?_)
  refine lv_aload_n X.1.1 X.1.2.1 dz_1066 rfl l2 ?_
  refine lq_arg (k := 1) X hS' l0 l4 (by omega) rfl dz_1067 dz_1068 dz_1070 dz_1071 dz_1072 ?_
  refine lq_arg (k := 2) X hS' l0 l4 (by omega) rfl dz_1073 dz_1074 dz_1076 dz_1077 dz_1078 ?_
  refine lq_arg (k := 3) X hS' l0 l4 (by omega) rfl dz_1079 dz_1080 dz_1082 dz_1083 dz_1084 ?_
  refine lq_arg (k := 4) X hS' l0 l4 (by omega) rfl dz_1085 dz_1086 dz_1088 dz_1089 dz_1090 ?_
  exact hk
theorem lc_reletter (X : lq_X p s m meth c b L xs sv Rg) (hS0 : S0 ≤ 200000) (hM : lq_M s Rg ad M S S0 H locs cells slots j) (hl : lv_has lsA 7 (lq_ls ad b (nI (6 * j)))) (hj : 6 * j + 5 < L) (K : lq_K p l e s m below meth c b Rg S0 j) : W p l e room_1 s m #[Value.ref b] below meth c H locs cells slots (lw_Z below #[Value.ref b] s) (F0 m 1099 lsA []) := by
  have l0 := lv_at hl 4 rfl
  have l1 := lv_at hl 3 rfl
  have l2 := lv_at hl 2 rfl
  have l4 := lv_at hl 0 rfl
  refine lv_aload_n X.1.1 X.1.2.1 dz_1099 rfl l1 ?_
  refine lq_arg (k := 1) X hM.2.1.2 l0 l4 (by omega) rfl dz_1100 dz_1101 dz_1103 dz_1104 dz_1105 ?_
  refine lq_arg (k := 2) X hM.2.1.2 l0 l4 (by omega) rfl dz_1106 dz_1107 dz_1109 dz_1110 dz_1111 ?_
  refine lq_arg (k := 3) X hM.2.1.2 l0 l4 (by omega) rfl dz_1112 dz_1113 dz_1115 dz_1116 dz_1117 ?_
  refine lq_pair (n := 3) (pc1 := 1118) (pc2 := 1140) (idx1 := 127) (idx2 := 130) (c1 := 313) (c2 := 127) (as' := [.inl (xs (6 * j + 1)), .inl (xs (6 * j + 2)), .inl (xs (6 * j + 3))]) (off := 30) X hS0 hM hl hj K (j_reletter (d := 205) hM.1 rfl (by omega) (by omega) (xs (6 * j + 1)) (xs (6 * j + 2)) (xs (6 * j + 3))) (fun so h => tie_cr_reletter 205 0 (xs (6 * j + 1)) (xs (6 * j + 2)) (xs (6 * j + 3)) M so h) (fun M1 so h => tie_mo_reletter 205 242 (xs (6 * j + 1)) (xs (6 * j + 2)) (xs (6 * j + 3)) M1 so h) (by simp) rfl rfl rfl (Nat.le_of_ble_eq_true rfl) (Nat.le_of_ble_eq_true rfl) dz_1118 dz_1140 dz_1143 (by decide) (fun v H' locs' cells' slots' hS' hk => ?_)
  refine lv_aload_n X.1.1 X.1.2.1 dz_1121 rfl l2 ?_
  refine lq_arg (k := 1) X hS' l0 l4 (by omega) rfl dz_1122 dz_1123 dz_1125 dz_1126 dz_1127 ?_
  refine lq_arg (k := 2) X hS' l0 l4 (by omega) rfl dz_1128 dz_1129 dz_1131 dz_1132 dz_1133 ?_
  refine lq_arg (k := 3) X hS' l0 l4 (by omega) rfl dz_1134 dz_1135 dz_1137 dz_1138 dz_1139 ?_
  exact hk
theorem lc_count (X : lq_X p s m meth c b L xs sv Rg) (hS0 : S0 ≤ 200000) (hM : lq_M s Rg ad M S S0 H locs cells slots j) (hl : lv_has lsA 7 (lq_ls ad b (nI (6 * j)))) (hj : 6 * j + 5 < L) (K : lq_K p l e s m below meth c b Rg S0 j) : W p l e room_1 s m #[Value.ref b] below meth c H locs cells slots (lw_Z below #[Value.ref b] s) (F0 m 1148 lsA []) := by
  have l0 := lv_at hl 4 rfl
  have l1 := lv_at hl 3 rfl
  have l2 := lv_at hl 2 rfl
  have l4 := lv_at hl 0 rfl
  refine lv_aload_n X.1.1 X.1.2.1 dz_1148 rfl l1 ?_
  refine lq_arg (k := 1) X hM.2.1.2 l0 l4 (by omega) rfl dz_1149 dz_1150 dz_1152 dz_1153 dz_1154 ?_
  refine lq_pair (n := 1) (pc1 := 1155) (pc2 := 1165) (idx1 := 131) (idx2 := 134) (c1 := 315) (c2 := 131) (as' := [.inl (xs (6 * j + 1))]) (off := 5) X hS0 hM hl hj K (j_count (d := 205) hM.1 rfl (by omega) (by omega) (xs (6 * j + 1))) (fun so h => tie_cr_count 205 0 (xs (6 * j + 1)) M so h) (fun M1 so h => tie_mo_count 205 242 (xs (6 * j + 1)) M1 so h) (by simp) rfl rfl rfl (Nat.le_of_ble_eq_true rfl) (Nat.le_of_ble_eq_true rfl) dz_1155 dz_1165 dz_1168 (by decide) (fun v H' locs' cells' slots' hS' hk => ?_)
  refine lv_aload_n X.1.1 X.1.2.1 dz_1158 rfl l2 ?_
  refine lq_arg (k := 1) X hS' l0 l4 (by omega) rfl dz_1159 dz_1160 dz_1162 dz_1163 dz_1164 ?_
  exact hk
end
