/-! ===== the law's cases ===== -/
section
variable {K : jj_K} {b L i : Nat} {xs : Nat → Int32} {w : wo_T}
theorem ll_c0 (h : iv w) (hi : i + 6 ≤ L) (hL : L ≤ 3072) (kn : ∀ w1, iv w1 → ll_J K b L xs 1135 [(3, .int (nI i)), (0, .ref 200), (1, .ref 0), (2, .ref 58)] [] w1) : ll_J K b L xs 184 [(3, .int (nI i)), (0, .ref 200), (1, .ref 0), (2, .ref 58)] [] w := by
  refine ll_aload (pc := 184) dL_law_184 2 rfl ?_
  refine ll_arg (pc := 185) (i := i) (k := 1) (by omega) hL (by decide) dL_law_185 dL_law_186 dL_law_187 dL_law_188 dL_law_189 ?_
  refine ll_arg (pc := 190) (i := i) (k := 2) (by omega) hL (by decide) dL_law_190 dL_law_191 dL_law_192 dL_law_193 dL_law_194 ?_
  refine ll_calli (pc := 195) (N := mX6_point) (as := [.int (xs (i + 1)), .int (xs (i + 2))]) (ob := 0) dL_law_195 rfl rfl rfl lk_RL_13 hv_X6_point (Nat.le_of_ble_eq_true rfl) (Nat.le_of_ble_eq_true rfl) (Nat.le_of_ble_eq_true rfl) rfl (s_point h _ _) (fun v u hv => ?_)
  refine ll_aload (pc := 198) dL_law_198 3 rfl ?_
  refine ll_arg (pc := 199) (i := i) (k := 1) (by omega) hL (by decide) dL_law_199 dL_law_200 dL_law_201 dL_law_202 dL_law_203 ?_
  refine ll_arg (pc := 204) (i := i) (k := 2) (by omega) hL (by decide) dL_law_204 dL_law_205 dL_law_206 dL_law_207 dL_law_208 ?_
  refine ll_calli (pc := 209) (N := mX7_point) (as := [.int (xs (i + 1)), .int (xs (i + 2))]) (ob := 58) dL_law_209 rfl rfl rfl lk_RL_17 hv_X7_point (Nat.le_of_ble_eq_true rfl) (Nat.le_of_ble_eq_true rfl) (Nat.le_of_ble_eq_true rfl) rfl hv (fun v1 u1 h2 => ?_)
  exact ll_icmpeq (pc := 212) (tgt := 1135) dL_law_212 (by decide) h2.1.symm (kn u1 h2.2)
theorem ll_c1 (h : iv w) (hi : i + 6 ≤ L) (hL : L ≤ 3072) (kn : ∀ w1, iv w1 → ll_J K b L xs 1135 [(3, .int (nI i)), (0, .ref 200), (1, .ref 0), (2, .ref 58)] [] w1) : ll_J K b L xs 217 [(3, .int (nI i)), (0, .ref 200), (1, .ref 0), (2, .ref 58)] [] w := by
  refine ll_aload (pc := 217) dL_law_217 2 rfl ?_
  refine ll_calli (pc := 218) (N := mX6_back) (as := []) (ob := 0) dL_law_218 rfl rfl rfl lk_RL_18 hv_X6_back (Nat.le_of_ble_eq_true rfl) (Nat.le_of_ble_eq_true rfl) (Nat.le_of_ble_eq_true rfl) rfl (s_back h) (fun v u hv => ?_)
  refine ll_aload (pc := 221) dL_law_221 3 rfl ?_
  refine ll_calli (pc := 222) (N := mX7_back) (as := []) (ob := 58) dL_law_222 rfl rfl rfl lk_RL_22 hv_X7_back (Nat.le_of_ble_eq_true rfl) (Nat.le_of_ble_eq_true rfl) (Nat.le_of_ble_eq_true rfl) rfl hv (fun v1 u1 h2 => ?_)
  exact ll_icmpeq (pc := 225) (tgt := 1135) dL_law_225 (by decide) h2.1.symm (kn u1 h2.2)
theorem ll_c2 (h : iv w) (hi : i + 6 ≤ L) (hL : L ≤ 3072) (kn : ∀ w1, iv w1 → ll_J K b L xs 1135 [(3, .int (nI i)), (0, .ref 200), (1, .ref 0), (2, .ref 58)] [] w1) : ll_J K b L xs 230 [(3, .int (nI i)), (0, .ref 200), (1, .ref 0), (2, .ref 58)] [] w := by
  refine ll_aload (pc := 230) dL_law_230 2 rfl ?_
  refine ll_arg (pc := 231) (i := i) (k := 1) (by omega) hL (by decide) dL_law_231 dL_law_232 dL_law_233 dL_law_234 dL_law_235 ?_
  refine ll_arg (pc := 236) (i := i) (k := 2) (by omega) hL (by decide) dL_law_236 dL_law_237 dL_law_238 dL_law_239 dL_law_240 ?_
  refine ll_calli (pc := 241) (N := mX6_hold) (as := [.int (xs (i + 1)), .int (xs (i + 2))]) (ob := 0) dL_law_241 rfl rfl rfl lk_RL_23 hv_X6_hold (Nat.le_of_ble_eq_true rfl) (Nat.le_of_ble_eq_true rfl) (Nat.le_of_ble_eq_true rfl) rfl (s_hold h _ _) (fun v u hv => ?_)
  refine ll_aload (pc := 244) dL_law_244 3 rfl ?_
  refine ll_arg (pc := 245) (i := i) (k := 1) (by omega) hL (by decide) dL_law_245 dL_law_246 dL_law_247 dL_law_248 dL_law_249 ?_
  refine ll_arg (pc := 250) (i := i) (k := 2) (by omega) hL (by decide) dL_law_250 dL_law_251 dL_law_252 dL_law_253 dL_law_254 ?_
  refine ll_calli (pc := 255) (N := mX7_hold) (as := [.int (xs (i + 1)), .int (xs (i + 2))]) (ob := 58) dL_law_255 rfl rfl rfl lk_RL_26 hv_X7_hold (Nat.le_of_ble_eq_true rfl) (Nat.le_of_ble_eq_true rfl) (Nat.le_of_ble_eq_true rfl) rfl hv (fun v1 u1 h2 => ?_)
  exact ll_icmpeq (pc := 258) (tgt := 1135) dL_law_258 (by decide) h2.1.symm (kn u1 h2.2)
theorem ll_c3 (h : iv w) (hi : i + 6 ≤ L) (hL : L ≤ 3072) (kn : ∀ w1, iv w1 → ll_J K b L xs 1135 [(3, .int (nI i)), (0, .ref 200), (1, .ref 0), (2, .ref 58)] [] w1) : ll_J K b L xs 263 [(3, .int (nI i)), (0, .ref 200), (1, .ref 0), (2, .ref 58)] [] w := by
  refine ll_aload (pc := 263) dL_law_263 2 rfl ?_
  refine ll_arg (pc := 264) (i := i) (k := 1) (by omega) hL (by decide) dL_law_264 dL_law_265 dL_law_266 dL_law_267 dL_law_268 ?_
  refine ll_arg (pc := 269) (i := i) (k := 2) (by omega) hL (by decide) dL_law_269 dL_law_270 dL_law_271 dL_law_272 dL_law_273 ?_
  refine ll_arg (pc := 274) (i := i) (k := 3) (by omega) hL (by decide) dL_law_274 dL_law_275 dL_law_276 dL_law_277 dL_law_278 ?_
  refine ll_calli (pc := 279) (N := mX6_load) (as := [.int (xs (i + 1)), .int (xs (i + 2)), .int (xs (i + 3))]) (ob := 0) dL_law_279 rfl rfl rfl lk_RL_27 hv_X6_load (Nat.le_of_ble_eq_true rfl) (Nat.le_of_ble_eq_true rfl) (Nat.le_of_ble_eq_true rfl) rfl (s_load h _ _ _) (fun v u hv => ?_)
  refine ll_aload (pc := 282) dL_law_282 3 rfl ?_
  refine ll_arg (pc := 283) (i := i) (k := 1) (by omega) hL (by decide) dL_law_283 dL_law_284 dL_law_285 dL_law_286 dL_law_287 ?_
  refine ll_arg (pc := 288) (i := i) (k := 2) (by omega) hL (by decide) dL_law_288 dL_law_289 dL_law_290 dL_law_291 dL_law_292 ?_
  refine ll_arg (pc := 293) (i := i) (k := 3) (by omega) hL (by decide) dL_law_293 dL_law_294 dL_law_295 dL_law_296 dL_law_297 ?_
  refine ll_calli (pc := 298) (N := mX7_load) (as := [.int (xs (i + 1)), .int (xs (i + 2)), .int (xs (i + 3))]) (ob := 58) dL_law_298 rfl rfl rfl lk_RL_31 hv_X7_load (Nat.le_of_ble_eq_true rfl) (Nat.le_of_ble_eq_true rfl) (Nat.le_of_ble_eq_true rfl) rfl hv (fun v1 u1 h2 => ?_)
  exact ll_icmpeq (pc := 301) (tgt := 1135) dL_law_301 (by decide) h2.1.symm (kn u1 h2.2)
theorem ll_c4 (h : iv w) (hi : i + 6 ≤ L) (hL : L ≤ 3072) (kn : ∀ w1, iv w1 → ll_J K b L xs 1135 [(3, .int (nI i)), (0, .ref 200), (1, .ref 0), (2, .ref 58)] [] w1) : ll_J K b L xs 306 [(3, .int (nI i)), (0, .ref 200), (1, .ref 0), (2, .ref 58)] [] w := by
  refine ll_aload (pc := 306) dL_law_306 2 rfl ?_
  refine ll_arg (pc := 307) (i := i) (k := 1) (by omega) hL (by decide) dL_law_307 dL_law_308 dL_law_309 dL_law_310 dL_law_311 ?_
  refine ll_calli (pc := 312) (N := mX6_bar) (as := [.int (xs (i + 1))]) (ob := 0) dL_law_312 rfl rfl rfl lk_RL_32 hv_X6_bar (Nat.le_of_ble_eq_true rfl) (Nat.le_of_ble_eq_true rfl) (Nat.le_of_ble_eq_true rfl) rfl (s_bar h _) (fun v u hv => ?_)
  refine ll_aload (pc := 315) dL_law_315 3 rfl ?_
  refine ll_arg (pc := 316) (i := i) (k := 1) (by omega) hL (by decide) dL_law_316 dL_law_317 dL_law_318 dL_law_319 dL_law_320 ?_
  refine ll_calli (pc := 321) (N := mX7_bar) (as := [.int (xs (i + 1))]) (ob := 58) dL_law_321 rfl rfl rfl lk_RL_36 hv_X7_bar (Nat.le_of_ble_eq_true rfl) (Nat.le_of_ble_eq_true rfl) (Nat.le_of_ble_eq_true rfl) rfl hv (fun v1 u1 h2 => ?_)
  exact ll_icmpeq (pc := 324) (tgt := 1135) dL_law_324 (by decide) h2.1.symm (kn u1 h2.2)
theorem ll_c5 (h : iv w) (hi : i + 6 ≤ L) (hL : L ≤ 3072) (kn : ∀ w1, iv w1 → ll_J K b L xs 1135 [(3, .int (nI i)), (0, .ref 200), (1, .ref 0), (2, .ref 58)] [] w1) : ll_J K b L xs 329 [(3, .int (nI i)), (0, .ref 200), (1, .ref 0), (2, .ref 58)] [] w := by
  refine ll_aload (pc := 329) dL_law_329 2 rfl ?_
  refine ll_calli (pc := 330) (N := mX6_all) (as := []) (ob := 0) dL_law_330 rfl rfl rfl lk_RL_37 hv_X6_all (Nat.le_of_ble_eq_true rfl) (Nat.le_of_ble_eq_true rfl) (Nat.le_of_ble_eq_true rfl) rfl (s_all h) (fun v u hv => ?_)
  refine ll_aload (pc := 333) dL_law_333 3 rfl ?_
  refine ll_calli (pc := 334) (N := mX7_all) (as := []) (ob := 58) dL_law_334 rfl rfl rfl lk_RL_40 hv_X7_all (Nat.le_of_ble_eq_true rfl) (Nat.le_of_ble_eq_true rfl) (Nat.le_of_ble_eq_true rfl) rfl hv (fun v1 u1 h2 => ?_)
  exact ll_icmpeq (pc := 337) (tgt := 1135) dL_law_337 (by decide) h2.1.symm (kn u1 h2.2)
theorem ll_c6 (h : iv w) (hi : i + 6 ≤ L) (hL : L ≤ 3072) (kn : ∀ w1, iv w1 → ll_J K b L xs 1135 [(3, .int (nI i)), (0, .ref 200), (1, .ref 0), (2, .ref 58)] [] w1) : ll_J K b L xs 342 [(3, .int (nI i)), (0, .ref 200), (1, .ref 0), (2, .ref 58)] [] w := by
  refine ll_aload (pc := 342) dL_law_342 2 rfl ?_
  refine ll_arg (pc := 343) (i := i) (k := 1) (by omega) hL (by decide) dL_law_343 dL_law_344 dL_law_345 dL_law_346 dL_law_347 ?_
  refine ll_calli (pc := 348) (N := mX6_read) (as := [.int (xs (i + 1))]) (ob := 0) dL_law_348 rfl rfl rfl lk_RL_41 hv_X6_read (Nat.le_of_ble_eq_true rfl) (Nat.le_of_ble_eq_true rfl) (Nat.le_of_ble_eq_true rfl) rfl (s_read h _) (fun v u hv => ?_)
  refine ll_aload (pc := 351) dL_law_351 3 rfl ?_
  refine ll_arg (pc := 352) (i := i) (k := 1) (by omega) hL (by decide) dL_law_352 dL_law_353 dL_law_354 dL_law_355 dL_law_356 ?_
  refine ll_calli (pc := 357) (N := mX7_read) (as := [.int (xs (i + 1))]) (ob := 58) dL_law_357 rfl rfl rfl lk_RL_44 hv_X7_read (Nat.le_of_ble_eq_true rfl) (Nat.le_of_ble_eq_true rfl) (Nat.le_of_ble_eq_true rfl) rfl hv (fun v1 u1 h2 => ?_)
  exact ll_icmpeq (pc := 360) (tgt := 1135) dL_law_360 (by decide) h2.1.symm (kn u1 h2.2)
theorem ll_c7 (h : iv w) (hi : i + 6 ≤ L) (hL : L ≤ 3072) (kn : ∀ w1, iv w1 → ll_J K b L xs 1135 [(3, .int (nI i)), (0, .ref 200), (1, .ref 0), (2, .ref 58)] [] w1) : ll_J K b L xs 365 [(3, .int (nI i)), (0, .ref 200), (1, .ref 0), (2, .ref 58)] [] w := by
  refine ll_aload (pc := 365) dL_law_365 2 rfl ?_
  refine ll_arg (pc := 366) (i := i) (k := 1) (by omega) hL (by decide) dL_law_366 dL_law_367 dL_law_368 dL_law_369 dL_law_370 ?_
  refine ll_arg (pc := 371) (i := i) (k := 2) (by omega) hL (by decide) dL_law_371 dL_law_372 dL_law_373 dL_law_374 dL_law_375 ?_
  refine ll_calli (pc := 376) (N := mX6_info) (as := [.int (xs (i + 1)), .int (xs (i + 2))]) (ob := 0) dL_law_376 rfl rfl rfl lk_RL_45 hv_X6_info (Nat.le_of_ble_eq_true rfl) (Nat.le_of_ble_eq_true rfl) (Nat.le_of_ble_eq_true rfl) rfl (s_info h _ _) (fun v u hv => ?_)
  refine ll_aload (pc := 379) dL_law_379 3 rfl ?_
  refine ll_arg (pc := 380) (i := i) (k := 1) (by omega) hL (by decide) dL_law_380 dL_law_381 dL_law_382 dL_law_383 dL_law_384 ?_
  refine ll_arg (pc := 385) (i := i) (k := 2) (by omega) hL (by decide) dL_law_385 dL_law_386 dL_law_387 dL_law_388 dL_law_389 ?_
  refine ll_calli (pc := 390) (N := mX7_info) (as := [.int (xs (i + 1)), .int (xs (i + 2))]) (ob := 58) dL_law_390 rfl rfl rfl lk_RL_48 hv_X7_info (Nat.le_of_ble_eq_true rfl) (Nat.le_of_ble_eq_true rfl) (Nat.le_of_ble_eq_true rfl) rfl hv (fun v1 u1 h2 => ?_)
  exact ll_icmpeq (pc := 393) (tgt := 1135) dL_law_393 (by decide) h2.1.symm (kn u1 h2.2)
theorem ll_c8 (h : iv w) (hi : i + 6 ≤ L) (hL : L ≤ 3072) (kn : ∀ w1, iv w1 → ll_J K b L xs 1135 [(3, .int (nI i)), (0, .ref 200), (1, .ref 0), (2, .ref 58)] [] w1) : ll_J K b L xs 398 [(3, .int (nI i)), (0, .ref 200), (1, .ref 0), (2, .ref 58)] [] w := by
  refine ll_aload (pc := 398) dL_law_398 2 rfl ?_
  refine ll_arg (pc := 399) (i := i) (k := 1) (by omega) hL (by decide) dL_law_399 dL_law_400 dL_law_401 dL_law_402 dL_law_403 ?_
  refine ll_arg (pc := 404) (i := i) (k := 2) (by omega) hL (by decide) dL_law_404 dL_law_405 dL_law_406 dL_law_407 dL_law_408 ?_
  refine ll_calli (pc := 409) (N := mX6_pair) (as := [.int (xs (i + 1)), .int (xs (i + 2))]) (ob := 0) dL_law_409 rfl rfl rfl lk_RL_49 hv_X6_pair (Nat.le_of_ble_eq_true rfl) (Nat.le_of_ble_eq_true rfl) (Nat.le_of_ble_eq_true rfl) rfl (s_pair h _ _) (fun v u hv => ?_)
  refine ll_aload (pc := 412) dL_law_412 3 rfl ?_
  refine ll_arg (pc := 413) (i := i) (k := 1) (by omega) hL (by decide) dL_law_413 dL_law_414 dL_law_415 dL_law_416 dL_law_417 ?_
  refine ll_arg (pc := 418) (i := i) (k := 2) (by omega) hL (by decide) dL_law_418 dL_law_419 dL_law_420 dL_law_421 dL_law_422 ?_
  refine ll_calli (pc := 423) (N := mX7_pair) (as := [.int (xs (i + 1)), .int (xs (i + 2))]) (ob := 58) dL_law_423 rfl rfl rfl lk_RL_52 hv_X7_pair (Nat.le_of_ble_eq_true rfl) (Nat.le_of_ble_eq_true rfl) (Nat.le_of_ble_eq_true rfl) rfl hv (fun v1 u1 h2 => ?_)
  exact ll_icmpeq (pc := 426) (tgt := 1135) dL_law_426 (by decide) h2.1.symm (kn u1 h2.2)
theorem ll_c9 (h : iv w) (hi : i + 6 ≤ L) (hL : L ≤ 3072) (kn : ∀ w1, iv w1 → ll_J K b L xs 1135 [(3, .int (nI i)), (0, .ref 200), (1, .ref 0), (2, .ref 58)] [] w1) : ll_J K b L xs 431 [(3, .int (nI i)), (0, .ref 200), (1, .ref 0), (2, .ref 58)] [] w := by
  refine ll_aload (pc := 431) dL_law_431 2 rfl ?_
  refine ll_arg (pc := 432) (i := i) (k := 1) (by omega) hL (by decide) dL_law_432 dL_law_433 dL_law_434 dL_law_435 dL_law_436 ?_
  refine ll_calll (pc := 437) (N := mX6_least) (as := [.int (xs (i + 1))]) (ob := 0) dL_law_437 rfl rfl rfl lk_RL_53 hv_X6_least (Nat.le_of_ble_eq_true rfl) (Nat.le_of_ble_eq_true rfl) (Nat.le_of_ble_eq_true rfl) rfl (s_least h _) (fun v u hv => ?_)
  refine ll_aload (pc := 440) dL_law_440 3 rfl ?_
  refine ll_arg (pc := 441) (i := i) (k := 1) (by omega) hL (by decide) dL_law_441 dL_law_442 dL_law_443 dL_law_444 dL_law_445 ?_
  refine ll_calll (pc := 446) (N := mX7_least) (as := [.int (xs (i + 1))]) (ob := 58) dL_law_446 rfl rfl rfl lk_RL_57 hv_X7_least (Nat.le_of_ble_eq_true rfl) (Nat.le_of_ble_eq_true rfl) (Nat.le_of_ble_eq_true rfl) rfl hv (fun v1 u1 h2 => ?_)
  exact ll_lcmpeq (pc := 449) (tgt := 1135) dL_law_449 dL_law_450 (by decide) h2.1.symm (kn u1 h2.2)
theorem ll_c10 (h : iv w) (hi : i + 6 ≤ L) (hL : L ≤ 3072) (kn : ∀ w1, iv w1 → ll_J K b L xs 1135 [(3, .int (nI i)), (0, .ref 200), (1, .ref 0), (2, .ref 58)] [] w1) : ll_J K b L xs 455 [(3, .int (nI i)), (0, .ref 200), (1, .ref 0), (2, .ref 58)] [] w := by
  refine ll_aload (pc := 455) dL_law_455 2 rfl ?_
  refine ll_calli (pc := 456) (N := mX6_fault) (as := []) (ob := 0) dL_law_456 rfl rfl rfl lk_RL_58 hv_X6_fault (Nat.le_of_ble_eq_true rfl) (Nat.le_of_ble_eq_true rfl) (Nat.le_of_ble_eq_true rfl) rfl (s_fault h) (fun v u hv => ?_)
  refine ll_aload (pc := 459) dL_law_459 3 rfl ?_
  refine ll_calli (pc := 460) (N := mX7_fault) (as := []) (ob := 58) dL_law_460 rfl rfl rfl lk_RL_61 hv_X7_fault (Nat.le_of_ble_eq_true rfl) (Nat.le_of_ble_eq_true rfl) (Nat.le_of_ble_eq_true rfl) rfl hv (fun v1 u1 h2 => ?_)
  exact ll_icmpeq (pc := 463) (tgt := 1135) dL_law_463 (by decide) h2.1.symm (kn u1 h2.2)
theorem ll_c11 (h : iv w) (hi : i + 6 ≤ L) (hL : L ≤ 3072) (kn : ∀ w1, iv w1 → ll_J K b L xs 1135 [(3, .int (nI i)), (0, .ref 200), (1, .ref 0), (2, .ref 58)] [] w1) : ll_J K b L xs 468 [(3, .int (nI i)), (0, .ref 200), (1, .ref 0), (2, .ref 58)] [] w := by
  refine ll_aload (pc := 468) dL_law_468 2 rfl ?_
  refine ll_calli (pc := 469) (N := mX6_frame) (as := []) (ob := 0) dL_law_469 rfl rfl rfl lk_RL_62 hv_X6_frame (Nat.le_of_ble_eq_true rfl) (Nat.le_of_ble_eq_true rfl) (Nat.le_of_ble_eq_true rfl) rfl (s_frame h) (fun v u hv => ?_)
  refine ll_aload (pc := 472) dL_law_472 3 rfl ?_
  refine ll_calli (pc := 473) (N := mX7_frame) (as := []) (ob := 58) dL_law_473 rfl rfl rfl lk_RL_65 hv_X7_frame (Nat.le_of_ble_eq_true rfl) (Nat.le_of_ble_eq_true rfl) (Nat.le_of_ble_eq_true rfl) rfl hv (fun v1 u1 h2 => ?_)
  exact ll_icmpeq (pc := 476) (tgt := 1135) dL_law_476 (by decide) h2.1.symm (kn u1 h2.2)
theorem ll_c12 (h : iv w) (hi : i + 6 ≤ L) (hL : L ≤ 3072) (kn : ∀ w1, iv w1 → ll_J K b L xs 1135 [(3, .int (nI i)), (0, .ref 200), (1, .ref 0), (2, .ref 58)] [] w1) : ll_J K b L xs 481 [(3, .int (nI i)), (0, .ref 200), (1, .ref 0), (2, .ref 58)] [] w := by
  refine ll_aload (pc := 481) dL_law_481 2 rfl ?_
  refine ll_arg (pc := 482) (i := i) (k := 1) (by omega) hL (by decide) dL_law_482 dL_law_483 dL_law_484 dL_law_485 dL_law_486 ?_
  refine ll_arg (pc := 487) (i := i) (k := 2) (by omega) hL (by decide) dL_law_487 dL_law_488 dL_law_489 dL_law_490 dL_law_491 ?_
  refine ll_calll (pc := 492) (N := mX6_pull) (as := [.int (xs (i + 1)), .int (xs (i + 2))]) (ob := 0) dL_law_492 rfl rfl rfl lk_RL_66 hv_X6_pull (Nat.le_of_ble_eq_true rfl) (Nat.le_of_ble_eq_true rfl) (Nat.le_of_ble_eq_true rfl) rfl (s_pull h _ _) (fun v u hv => ?_)
  refine ll_aload (pc := 495) dL_law_495 3 rfl ?_
  refine ll_arg (pc := 496) (i := i) (k := 1) (by omega) hL (by decide) dL_law_496 dL_law_497 dL_law_498 dL_law_499 dL_law_500 ?_
  refine ll_arg (pc := 501) (i := i) (k := 2) (by omega) hL (by decide) dL_law_501 dL_law_502 dL_law_503 dL_law_504 dL_law_505 ?_
  refine ll_calll (pc := 506) (N := mX7_pull) (as := [.int (xs (i + 1)), .int (xs (i + 2))]) (ob := 58) dL_law_506 rfl rfl rfl lk_RL_70 hv_X7_pull (Nat.le_of_ble_eq_true rfl) (Nat.le_of_ble_eq_true rfl) (Nat.le_of_ble_eq_true rfl) rfl hv (fun v1 u1 h2 => ?_)
  exact ll_lcmpeq (pc := 509) (tgt := 1135) dL_law_509 dL_law_510 (by decide) h2.1.symm (kn u1 h2.2)
theorem ll_c13 (h : iv w) (hi : i + 6 ≤ L) (hL : L ≤ 3072) (kn : ∀ w1, iv w1 → ll_J K b L xs 1135 [(3, .int (nI i)), (0, .ref 200), (1, .ref 0), (2, .ref 58)] [] w1) : ll_J K b L xs 515 [(3, .int (nI i)), (0, .ref 200), (1, .ref 0), (2, .ref 58)] [] w := by
  refine ll_aload (pc := 515) dL_law_515 2 rfl ?_
  refine ll_arg (pc := 516) (i := i) (k := 1) (by omega) hL (by decide) dL_law_516 dL_law_517 dL_law_518 dL_law_519 dL_law_520 ?_
  refine ll_arg (pc := 521) (i := i) (k := 2) (by omega) hL (by decide) dL_law_521 dL_law_522 dL_law_523 dL_law_524 dL_law_525 ?_
  refine ll_calll (pc := 526) (N := mX6_without) (as := [.int (xs (i + 1)), .int (xs (i + 2))]) (ob := 0) dL_law_526 rfl rfl rfl lk_RL_71 hv_X6_without (Nat.le_of_ble_eq_true rfl) (Nat.le_of_ble_eq_true rfl) (Nat.le_of_ble_eq_true rfl) rfl (s_without h _ _) (fun v u hv => ?_)
  refine ll_aload (pc := 529) dL_law_529 3 rfl ?_
  refine ll_arg (pc := 530) (i := i) (k := 1) (by omega) hL (by decide) dL_law_530 dL_law_531 dL_law_532 dL_law_533 dL_law_534 ?_
  refine ll_arg (pc := 535) (i := i) (k := 2) (by omega) hL (by decide) dL_law_535 dL_law_536 dL_law_537 dL_law_538 dL_law_539 ?_
  refine ll_calll (pc := 540) (N := mX7_without) (as := [.int (xs (i + 1)), .int (xs (i + 2))]) (ob := 58) dL_law_540 rfl rfl rfl lk_RL_74 hv_X7_without (Nat.le_of_ble_eq_true rfl) (Nat.le_of_ble_eq_true rfl) (Nat.le_of_ble_eq_true rfl) rfl hv (fun v1 u1 h2 => ?_)
  exact ll_lcmpeq (pc := 543) (tgt := 1135) dL_law_543 dL_law_544 (by decide) h2.1.symm (kn u1 h2.2)
theorem ll_c14 (h : iv w) (hi : i + 6 ≤ L) (hL : L ≤ 3072) (kn : ∀ w1, iv w1 → ll_J K b L xs 1135 [(3, .int (nI i)), (0, .ref 200), (1, .ref 0), (2, .ref 58)] [] w1) : ll_J K b L xs 549 [(3, .int (nI i)), (0, .ref 200), (1, .ref 0), (2, .ref 58)] [] w := by
  refine ll_aload (pc := 549) dL_law_549 2 rfl ?_
  refine ll_arg (pc := 550) (i := i) (k := 1) (by omega) hL (by decide) dL_law_550 dL_law_551 dL_law_552 dL_law_553 dL_law_554 ?_
  refine ll_calli (pc := 555) (N := mX6_why) (as := [.int (xs (i + 1))]) (ob := 0) dL_law_555 rfl rfl rfl lk_RL_75 hv_X6_why (Nat.le_of_ble_eq_true rfl) (Nat.le_of_ble_eq_true rfl) (Nat.le_of_ble_eq_true rfl) rfl (s_why h _) (fun v u hv => ?_)
  refine ll_aload (pc := 558) dL_law_558 3 rfl ?_
  refine ll_arg (pc := 559) (i := i) (k := 1) (by omega) hL (by decide) dL_law_559 dL_law_560 dL_law_561 dL_law_562 dL_law_563 ?_
  refine ll_calli (pc := 564) (N := mX7_why) (as := [.int (xs (i + 1))]) (ob := 58) dL_law_564 rfl rfl rfl lk_RL_78 hv_X7_why (Nat.le_of_ble_eq_true rfl) (Nat.le_of_ble_eq_true rfl) (Nat.le_of_ble_eq_true rfl) rfl hv (fun v1 u1 h2 => ?_)
  exact ll_icmpeq (pc := 567) (tgt := 1135) dL_law_567 (by decide) h2.1.symm (kn u1 h2.2)
theorem ll_c15 (h : iv w) (hi : i + 6 ≤ L) (hL : L ≤ 3072) (kn : ∀ w1, iv w1 → ll_J K b L xs 1135 [(3, .int (nI i)), (0, .ref 200), (1, .ref 0), (2, .ref 58)] [] w1) : ll_J K b L xs 572 [(3, .int (nI i)), (0, .ref 200), (1, .ref 0), (2, .ref 58)] [] w := by
  refine ll_aload (pc := 572) dL_law_572 2 rfl ?_
  refine ll_calli (pc := 573) (N := mX6_needed) (as := []) (ob := 0) dL_law_573 rfl rfl rfl lk_RL_79 hv_X6_needed (Nat.le_of_ble_eq_true rfl) (Nat.le_of_ble_eq_true rfl) (Nat.le_of_ble_eq_true rfl) rfl (s_needed h) (fun v u hv => ?_)
  refine ll_aload (pc := 576) dL_law_576 3 rfl ?_
  refine ll_calli (pc := 577) (N := mX7_needed) (as := []) (ob := 58) dL_law_577 rfl rfl rfl lk_RL_82 hv_X7_needed (Nat.le_of_ble_eq_true rfl) (Nat.le_of_ble_eq_true rfl) (Nat.le_of_ble_eq_true rfl) rfl hv (fun v1 u1 h2 => ?_)
  exact ll_icmpeq (pc := 580) (tgt := 1135) dL_law_580 (by decide) h2.1.symm (kn u1 h2.2)
theorem ll_c16 (h : iv w) (hi : i + 6 ≤ L) (hL : L ≤ 3072) (kn : ∀ w1, iv w1 → ll_J K b L xs 1135 [(3, .int (nI i)), (0, .ref 200), (1, .ref 0), (2, .ref 58)] [] w1) : ll_J K b L xs 585 [(3, .int (nI i)), (0, .ref 200), (1, .ref 0), (2, .ref 58)] [] w := by
  refine ll_aload (pc := 585) dL_law_585 2 rfl ?_
  refine ll_calli (pc := 586) (N := mX6_dearest) (as := []) (ob := 0) dL_law_586 rfl rfl rfl lk_RL_83 hv_X6_dearest (Nat.le_of_ble_eq_true rfl) (Nat.le_of_ble_eq_true rfl) (Nat.le_of_ble_eq_true rfl) rfl (s_dearest h) (fun v u hv => ?_)
  refine ll_aload (pc := 589) dL_law_589 3 rfl ?_
  refine ll_calli (pc := 590) (N := mX7_dearest) (as := []) (ob := 58) dL_law_590 rfl rfl rfl lk_RL_86 hv_X7_dearest (Nat.le_of_ble_eq_true rfl) (Nat.le_of_ble_eq_true rfl) (Nat.le_of_ble_eq_true rfl) rfl hv (fun v1 u1 h2 => ?_)
  exact ll_icmpeq (pc := 593) (tgt := 1135) dL_law_593 (by decide) h2.1.symm (kn u1 h2.2)
theorem ll_c17 (h : iv w) (hi : i + 6 ≤ L) (hL : L ≤ 3072) (kn : ∀ w1, iv w1 → ll_J K b L xs 1135 [(3, .int (nI i)), (0, .ref 200), (1, .ref 0), (2, .ref 58)] [] w1) : ll_J K b L xs 598 [(3, .int (nI i)), (0, .ref 200), (1, .ref 0), (2, .ref 58)] [] w := by
  refine ll_aload (pc := 598) dL_law_598 2 rfl ?_
  refine ll_arg (pc := 599) (i := i) (k := 1) (by omega) hL (by decide) dL_law_599 dL_law_600 dL_law_601 dL_law_602 dL_law_603 ?_
  refine ll_arg (pc := 604) (i := i) (k := 2) (by omega) hL (by decide) dL_law_604 dL_law_605 dL_law_606 dL_law_607 dL_law_608 ?_
  refine ll_calll (pc := 609) (N := mX6_gain) (as := [.int (xs (i + 1)), .int (xs (i + 2))]) (ob := 0) dL_law_609 rfl rfl rfl lk_RL_87 hv_X6_gain (Nat.le_of_ble_eq_true rfl) (Nat.le_of_ble_eq_true rfl) (Nat.le_of_ble_eq_true rfl) rfl (s_gain h _ _) (fun v u hv => ?_)
  refine ll_aload (pc := 612) dL_law_612 3 rfl ?_
  refine ll_arg (pc := 613) (i := i) (k := 1) (by omega) hL (by decide) dL_law_613 dL_law_614 dL_law_615 dL_law_616 dL_law_617 ?_
  refine ll_arg (pc := 618) (i := i) (k := 2) (by omega) hL (by decide) dL_law_618 dL_law_619 dL_law_620 dL_law_621 dL_law_622 ?_
  refine ll_calll (pc := 623) (N := mX7_gain) (as := [.int (xs (i + 1)), .int (xs (i + 2))]) (ob := 58) dL_law_623 rfl rfl rfl lk_RL_90 hv_X7_gain (Nat.le_of_ble_eq_true rfl) (Nat.le_of_ble_eq_true rfl) (Nat.le_of_ble_eq_true rfl) rfl hv (fun v1 u1 h2 => ?_)
  exact ll_lcmpeq (pc := 626) (tgt := 1135) dL_law_626 dL_law_627 (by decide) h2.1.symm (kn u1 h2.2)
theorem ll_c18 (h : iv w) (hi : i + 6 ≤ L) (hL : L ≤ 3072) (kn : ∀ w1, iv w1 → ll_J K b L xs 1135 [(3, .int (nI i)), (0, .ref 200), (1, .ref 0), (2, .ref 58)] [] w1) : ll_J K b L xs 632 [(3, .int (nI i)), (0, .ref 200), (1, .ref 0), (2, .ref 58)] [] w := by
  refine ll_aload (pc := 632) dL_law_632 2 rfl ?_
  refine ll_calli (pc := 633) (N := mX6_grow) (as := []) (ob := 0) dL_law_633 rfl rfl rfl lk_RL_91 hv_X6_grow (Nat.le_of_ble_eq_true rfl) (Nat.le_of_ble_eq_true rfl) (Nat.le_of_ble_eq_true rfl) rfl (s_grow h) (fun v u hv => ?_)
  refine ll_aload (pc := 636) dL_law_636 3 rfl ?_
  refine ll_calli (pc := 637) (N := mX7_grow) (as := []) (ob := 58) dL_law_637 rfl rfl rfl lk_RL_94 hv_X7_grow (Nat.le_of_ble_eq_true rfl) (Nat.le_of_ble_eq_true rfl) (Nat.le_of_ble_eq_true rfl) rfl hv (fun v1 u1 h2 => ?_)
  exact ll_icmpeq (pc := 640) (tgt := 1135) dL_law_640 (by decide) h2.1.symm (kn u1 h2.2)
theorem ll_c19 (h : iv w) (hi : i + 6 ≤ L) (hL : L ≤ 3072) (kn : ∀ w1, iv w1 → ll_J K b L xs 1135 [(3, .int (nI i)), (0, .ref 200), (1, .ref 0), (2, .ref 58)] [] w1) : ll_J K b L xs 645 [(3, .int (nI i)), (0, .ref 200), (1, .ref 0), (2, .ref 58)] [] w := by
  refine ll_aload (pc := 645) dL_law_645 2 rfl ?_
  refine ll_calli (pc := 646) (N := mX6_prune) (as := []) (ob := 0) dL_law_646 rfl rfl rfl lk_RL_95 hv_X6_prune (Nat.le_of_ble_eq_true rfl) (Nat.le_of_ble_eq_true rfl) (Nat.le_of_ble_eq_true rfl) rfl (s_prune h) (fun v u hv => ?_)
  refine ll_aload (pc := 649) dL_law_649 3 rfl ?_
  refine ll_calli (pc := 650) (N := mX7_prune) (as := []) (ob := 58) dL_law_650 rfl rfl rfl lk_RL_98 hv_X7_prune (Nat.le_of_ble_eq_true rfl) (Nat.le_of_ble_eq_true rfl) (Nat.le_of_ble_eq_true rfl) rfl hv (fun v1 u1 h2 => ?_)
  exact ll_icmpeq (pc := 653) (tgt := 1135) dL_law_653 (by decide) h2.1.symm (kn u1 h2.2)
theorem ll_c20 (h : iv w) (hi : i + 6 ≤ L) (hL : L ≤ 3072) (kn : ∀ w1, iv w1 → ll_J K b L xs 1135 [(3, .int (nI i)), (0, .ref 200), (1, .ref 0), (2, .ref 58)] [] w1) : ll_J K b L xs 658 [(3, .int (nI i)), (0, .ref 200), (1, .ref 0), (2, .ref 58)] [] w := by
  refine ll_aload (pc := 658) dL_law_658 2 rfl ?_
  refine ll_arg (pc := 659) (i := i) (k := 1) (by omega) hL (by decide) dL_law_659 dL_law_660 dL_law_661 dL_law_662 dL_law_663 ?_
  refine ll_arg (pc := 664) (i := i) (k := 2) (by omega) hL (by decide) dL_law_664 dL_law_665 dL_law_666 dL_law_667 dL_law_668 ?_
  refine ll_arg (pc := 669) (i := i) (k := 3) (by omega) hL (by decide) dL_law_669 dL_law_670 dL_law_671 dL_law_672 dL_law_673 ?_
  refine ll_arg (pc := 674) (i := i) (k := 4) (by omega) hL (by decide) dL_law_674 dL_law_675 dL_law_676 dL_law_677 dL_law_678 ?_
  refine ll_calll (pc := 679) (N := mX6_would) (as := [.int (xs (i + 1)), .int (xs (i + 2)), .int (xs (i + 3)), .int (xs (i + 4))]) (ob := 0) dL_law_679 rfl rfl rfl lk_RL_99 hv_X6_would (Nat.le_of_ble_eq_true rfl) (Nat.le_of_ble_eq_true rfl) (Nat.le_of_ble_eq_true rfl) rfl (s_would h _ _ _ _) (fun v u hv => ?_)
  refine ll_aload (pc := 682) dL_law_682 3 rfl ?_
  refine ll_arg (pc := 683) (i := i) (k := 1) (by omega) hL (by decide) dL_law_683 dL_law_684 dL_law_685 dL_law_686 dL_law_687 ?_
  refine ll_arg (pc := 688) (i := i) (k := 2) (by omega) hL (by decide) dL_law_688 dL_law_689 dL_law_690 dL_law_691 dL_law_692 ?_
  refine ll_arg (pc := 693) (i := i) (k := 3) (by omega) hL (by decide) dL_law_693 dL_law_694 dL_law_695 dL_law_696 dL_law_697 ?_
  refine ll_arg (pc := 698) (i := i) (k := 4) (by omega) hL (by decide) dL_law_698 dL_law_699 dL_law_700 dL_law_701 dL_law_702 ?_
  refine ll_calll (pc := 703) (N := mX7_would) (as := [.int (xs (i + 1)), .int (xs (i + 2)), .int (xs (i + 3)), .int (xs (i + 4))]) (ob := 58) dL_law_703 rfl rfl rfl lk_RL_103 hv_X7_would (Nat.le_of_ble_eq_true rfl) (Nat.le_of_ble_eq_true rfl) (Nat.le_of_ble_eq_true rfl) rfl hv (fun v1 u1 h2 => ?_)
  exact ll_lcmpeq (pc := 706) (tgt := 1135) dL_law_706 dL_law_707 (by decide) h2.1.symm (kn u1 h2.2)
theorem ll_c21 (h : iv w) (hi : i + 6 ≤ L) (hL : L ≤ 3072) (kn : ∀ w1, iv w1 → ll_J K b L xs 1135 [(3, .int (nI i)), (0, .ref 200), (1, .ref 0), (2, .ref 58)] [] w1) : ll_J K b L xs 712 [(3, .int (nI i)), (0, .ref 200), (1, .ref 0), (2, .ref 58)] [] w := by
  refine ll_aload (pc := 712) dL_law_712 2 rfl ?_
  refine ll_arg (pc := 713) (i := i) (k := 1) (by omega) hL (by decide) dL_law_713 dL_law_714 dL_law_715 dL_law_716 dL_law_717 ?_
  refine ll_arg (pc := 718) (i := i) (k := 2) (by omega) hL (by decide) dL_law_718 dL_law_719 dL_law_720 dL_law_721 dL_law_722 ?_
  refine ll_arg (pc := 723) (i := i) (k := 3) (by omega) hL (by decide) dL_law_723 dL_law_724 dL_law_725 dL_law_726 dL_law_727 ?_
  refine ll_calli (pc := 728) (N := mX6_shift) (as := [.int (xs (i + 1)), .int (xs (i + 2)), .int (xs (i + 3))]) (ob := 0) dL_law_728 rfl rfl rfl lk_RL_104 hv_X6_shift (Nat.le_of_ble_eq_true rfl) (Nat.le_of_ble_eq_true rfl) (Nat.le_of_ble_eq_true rfl) rfl (s_shift h _ _ _) (fun v u hv => ?_)
  refine ll_aload (pc := 731) dL_law_731 3 rfl ?_
  refine ll_arg (pc := 732) (i := i) (k := 1) (by omega) hL (by decide) dL_law_732 dL_law_733 dL_law_734 dL_law_735 dL_law_736 ?_
  refine ll_arg (pc := 737) (i := i) (k := 2) (by omega) hL (by decide) dL_law_737 dL_law_738 dL_law_739 dL_law_740 dL_law_741 ?_
  refine ll_arg (pc := 742) (i := i) (k := 3) (by omega) hL (by decide) dL_law_742 dL_law_743 dL_law_744 dL_law_745 dL_law_746 ?_
  refine ll_calli (pc := 747) (N := mX7_shift) (as := [.int (xs (i + 1)), .int (xs (i + 2)), .int (xs (i + 3))]) (ob := 58) dL_law_747 rfl rfl rfl lk_RL_107 hv_X7_shift (Nat.le_of_ble_eq_true rfl) (Nat.le_of_ble_eq_true rfl) (Nat.le_of_ble_eq_true rfl) rfl hv (fun v1 u1 h2 => ?_)
  exact ll_icmpeq (pc := 750) (tgt := 1135) dL_law_750 (by decide) h2.1.symm (kn u1 h2.2)
theorem ll_c22 (h : iv w) (hi : i + 6 ≤ L) (hL : L ≤ 3072) (kn : ∀ w1, iv w1 → ll_J K b L xs 1135 [(3, .int (nI i)), (0, .ref 200), (1, .ref 0), (2, .ref 58)] [] w1) : ll_J K b L xs 755 [(3, .int (nI i)), (0, .ref 200), (1, .ref 0), (2, .ref 58)] [] w := by
  refine ll_aload (pc := 755) dL_law_755 2 rfl ?_
  refine ll_arg (pc := 756) (i := i) (k := 1) (by omega) hL (by decide) dL_law_756 dL_law_757 dL_law_758 dL_law_759 dL_law_760 ?_
  refine ll_arg (pc := 761) (i := i) (k := 2) (by omega) hL (by decide) dL_law_761 dL_law_762 dL_law_763 dL_law_764 dL_law_765 ?_
  refine ll_calll (pc := 766) (N := mX6_stretch) (as := [.int (xs (i + 1)), .int (xs (i + 2))]) (ob := 0) dL_law_766 rfl rfl rfl lk_RL_108 hv_X6_stretch (Nat.le_of_ble_eq_true rfl) (Nat.le_of_ble_eq_true rfl) (Nat.le_of_ble_eq_true rfl) rfl (s_stretch h _ _) (fun v u hv => ?_)
  refine ll_aload (pc := 769) dL_law_769 3 rfl ?_
  refine ll_arg (pc := 770) (i := i) (k := 1) (by omega) hL (by decide) dL_law_770 dL_law_771 dL_law_772 dL_law_773 dL_law_774 ?_
  refine ll_arg (pc := 775) (i := i) (k := 2) (by omega) hL (by decide) dL_law_775 dL_law_776 dL_law_777 dL_law_778 dL_law_779 ?_
  refine ll_calll (pc := 780) (N := mX7_stretch) (as := [.int (xs (i + 1)), .int (xs (i + 2))]) (ob := 58) dL_law_780 rfl rfl rfl lk_RL_111 hv_X7_stretch (Nat.le_of_ble_eq_true rfl) (Nat.le_of_ble_eq_true rfl) (Nat.le_of_ble_eq_true rfl) rfl hv (fun v1 u1 h2 => ?_)
  exact ll_lcmpeq (pc := 783) (tgt := 1135) dL_law_783 dL_law_784 (by decide) h2.1.symm (kn u1 h2.2)
theorem ll_c23 (h : iv w) (hi : i + 6 ≤ L) (hL : L ≤ 3072) (kn : ∀ w1, iv w1 → ll_J K b L xs 1135 [(3, .int (nI i)), (0, .ref 200), (1, .ref 0), (2, .ref 58)] [] w1) : ll_J K b L xs 789 [(3, .int (nI i)), (0, .ref 200), (1, .ref 0), (2, .ref 58)] [] w := by
  refine ll_aload (pc := 789) dL_law_789 2 rfl ?_
  refine ll_arg (pc := 790) (i := i) (k := 1) (by omega) hL (by decide) dL_law_790 dL_law_791 dL_law_792 dL_law_793 dL_law_794 ?_
  refine ll_calll (pc := 795) (N := mX6_work) (as := [.int (xs (i + 1))]) (ob := 0) dL_law_795 rfl rfl rfl lk_RL_112 hv_X6_work (Nat.le_of_ble_eq_true rfl) (Nat.le_of_ble_eq_true rfl) (Nat.le_of_ble_eq_true rfl) rfl (s_work h _) (fun v u hv => ?_)
  refine ll_aload (pc := 798) dL_law_798 3 rfl ?_
  refine ll_arg (pc := 799) (i := i) (k := 1) (by omega) hL (by decide) dL_law_799 dL_law_800 dL_law_801 dL_law_802 dL_law_803 ?_
  refine ll_calll (pc := 804) (N := mX7_work) (as := [.int (xs (i + 1))]) (ob := 58) dL_law_804 rfl rfl rfl lk_RL_115 hv_X7_work (Nat.le_of_ble_eq_true rfl) (Nat.le_of_ble_eq_true rfl) (Nat.le_of_ble_eq_true rfl) rfl hv (fun v1 u1 h2 => ?_)
  exact ll_lcmpeq (pc := 807) (tgt := 1135) dL_law_807 dL_law_808 (by decide) h2.1.symm (kn u1 h2.2)
theorem ll_c24 (h : iv w) (hi : i + 6 ≤ L) (hL : L ≤ 3072) (kn : ∀ w1, iv w1 → ll_J K b L xs 1135 [(3, .int (nI i)), (0, .ref 200), (1, .ref 0), (2, .ref 58)] [] w1) : ll_J K b L xs 813 [(3, .int (nI i)), (0, .ref 200), (1, .ref 0), (2, .ref 58)] [] w := by
  refine ll_aload (pc := 813) dL_law_813 2 rfl ?_
  refine ll_calli (pc := 814) (N := mX6_proves) (as := []) (ob := 0) dL_law_814 rfl rfl rfl lk_RL_116 hv_X6_proves (Nat.le_of_ble_eq_true rfl) (Nat.le_of_ble_eq_true rfl) (Nat.le_of_ble_eq_true rfl) rfl (s_proves h) (fun v u hv => ?_)
  refine ll_aload (pc := 817) dL_law_817 3 rfl ?_
  refine ll_calli (pc := 818) (N := mX7_proves) (as := []) (ob := 58) dL_law_818 rfl rfl rfl lk_RL_119 hv_X7_proves (Nat.le_of_ble_eq_true rfl) (Nat.le_of_ble_eq_true rfl) (Nat.le_of_ble_eq_true rfl) rfl hv (fun v1 u1 h2 => ?_)
  exact ll_icmpeq (pc := 821) (tgt := 1135) dL_law_821 (by decide) h2.1.symm (kn u1 h2.2)
theorem ll_c25 (h : iv w) (hi : i + 6 ≤ L) (hL : L ≤ 3072) (kn : ∀ w1, iv w1 → ll_J K b L xs 1135 [(3, .int (nI i)), (0, .ref 200), (1, .ref 0), (2, .ref 58)] [] w1) : ll_J K b L xs 826 [(3, .int (nI i)), (0, .ref 200), (1, .ref 0), (2, .ref 58)] [] w := by
  refine ll_aload (pc := 826) dL_law_826 2 rfl ?_
  refine ll_arg (pc := 827) (i := i) (k := 1) (by omega) hL (by decide) dL_law_827 dL_law_828 dL_law_829 dL_law_830 dL_law_831 ?_
  refine ll_arg (pc := 832) (i := i) (k := 2) (by omega) hL (by decide) dL_law_832 dL_law_833 dL_law_834 dL_law_835 dL_law_836 ?_
  refine ll_calli (pc := 837) (N := mX6_cross) (as := [.int (xs (i + 1)), .int (xs (i + 2))]) (ob := 0) dL_law_837 rfl rfl rfl lk_RL_120 hv_X6_cross (Nat.le_of_ble_eq_true rfl) (Nat.le_of_ble_eq_true rfl) (Nat.le_of_ble_eq_true rfl) rfl (s_cross h _ _) (fun v u hv => ?_)
  refine ll_aload (pc := 840) dL_law_840 3 rfl ?_
  refine ll_arg (pc := 841) (i := i) (k := 1) (by omega) hL (by decide) dL_law_841 dL_law_842 dL_law_843 dL_law_844 dL_law_845 ?_
  refine ll_arg (pc := 846) (i := i) (k := 2) (by omega) hL (by decide) dL_law_846 dL_law_847 dL_law_848 dL_law_849 dL_law_850 ?_
  refine ll_calli (pc := 851) (N := mX7_cross) (as := [.int (xs (i + 1)), .int (xs (i + 2))]) (ob := 58) dL_law_851 rfl rfl rfl lk_RL_123 hv_X7_cross (Nat.le_of_ble_eq_true rfl) (Nat.le_of_ble_eq_true rfl) (Nat.le_of_ble_eq_true rfl) rfl hv (fun v1 u1 h2 => ?_)
  exact ll_icmpeq (pc := 854) (tgt := 1135) dL_law_854 (by decide) h2.1.symm (kn u1 h2.2)
theorem ll_c26 (h : iv w) (hi : i + 6 ≤ L) (hL : L ≤ 3072) (kn : ∀ w1, iv w1 → ll_J K b L xs 1135 [(3, .int (nI i)), (0, .ref 200), (1, .ref 0), (2, .ref 58)] [] w1) : ll_J K b L xs 859 [(3, .int (nI i)), (0, .ref 200), (1, .ref 0), (2, .ref 58)] [] w := by
  refine ll_aload (pc := 859) dL_law_859 2 rfl ?_
  refine ll_arg (pc := 860) (i := i) (k := 1) (by omega) hL (by decide) dL_law_860 dL_law_861 dL_law_862 dL_law_863 dL_law_864 ?_
  refine ll_arg (pc := 865) (i := i) (k := 2) (by omega) hL (by decide) dL_law_865 dL_law_866 dL_law_867 dL_law_868 dL_law_869 ?_
  refine ll_arg (pc := 870) (i := i) (k := 3) (by omega) hL (by decide) dL_law_870 dL_law_871 dL_law_872 dL_law_873 dL_law_874 ?_
  refine ll_calli (pc := 875) (N := mX6_sheet) (as := [.int (xs (i + 1)), .int (xs (i + 2)), .int (xs (i + 3))]) (ob := 0) dL_law_875 rfl rfl rfl lk_RL_124 hv_X6_sheet (Nat.le_of_ble_eq_true rfl) (Nat.le_of_ble_eq_true rfl) (Nat.le_of_ble_eq_true rfl) rfl (s_sheet h _ _ _) (fun v u hv => ?_)
  refine ll_aload (pc := 878) dL_law_878 3 rfl ?_
  refine ll_arg (pc := 879) (i := i) (k := 1) (by omega) hL (by decide) dL_law_879 dL_law_880 dL_law_881 dL_law_882 dL_law_883 ?_
  refine ll_arg (pc := 884) (i := i) (k := 2) (by omega) hL (by decide) dL_law_884 dL_law_885 dL_law_886 dL_law_887 dL_law_888 ?_
  refine ll_arg (pc := 889) (i := i) (k := 3) (by omega) hL (by decide) dL_law_889 dL_law_890 dL_law_891 dL_law_892 dL_law_893 ?_
  refine ll_calli (pc := 894) (N := mX7_sheet) (as := [.int (xs (i + 1)), .int (xs (i + 2)), .int (xs (i + 3))]) (ob := 58) dL_law_894 rfl rfl rfl lk_RL_127 hv_X7_sheet (Nat.le_of_ble_eq_true rfl) (Nat.le_of_ble_eq_true rfl) (Nat.le_of_ble_eq_true rfl) rfl hv (fun v1 u1 h2 => ?_)
  exact ll_icmpeq (pc := 897) (tgt := 1135) dL_law_897 (by decide) h2.1.symm (kn u1 h2.2)
theorem ll_c27 (h : iv w) (hi : i + 6 ≤ L) (hL : L ≤ 3072) (kn : ∀ w1, iv w1 → ll_J K b L xs 1135 [(3, .int (nI i)), (0, .ref 200), (1, .ref 0), (2, .ref 58)] [] w1) : ll_J K b L xs 902 [(3, .int (nI i)), (0, .ref 200), (1, .ref 0), (2, .ref 58)] [] w := by
  refine ll_aload (pc := 902) dL_law_902 2 rfl ?_
  refine ll_arg (pc := 903) (i := i) (k := 1) (by omega) hL (by decide) dL_law_903 dL_law_904 dL_law_905 dL_law_906 dL_law_907 ?_
  refine ll_calli (pc := 908) (N := mX6_lose) (as := [.int (xs (i + 1))]) (ob := 0) dL_law_908 rfl rfl rfl lk_RL_128 hv_X6_lose (Nat.le_of_ble_eq_true rfl) (Nat.le_of_ble_eq_true rfl) (Nat.le_of_ble_eq_true rfl) rfl (s_lose h _) (fun v u hv => ?_)
  refine ll_aload (pc := 911) dL_law_911 3 rfl ?_
  refine ll_arg (pc := 912) (i := i) (k := 1) (by omega) hL (by decide) dL_law_912 dL_law_913 dL_law_914 dL_law_915 dL_law_916 ?_
  refine ll_calli (pc := 917) (N := mX7_lose) (as := [.int (xs (i + 1))]) (ob := 58) dL_law_917 rfl rfl rfl lk_RL_131 hv_X7_lose (Nat.le_of_ble_eq_true rfl) (Nat.le_of_ble_eq_true rfl) (Nat.le_of_ble_eq_true rfl) rfl hv (fun v1 u1 h2 => ?_)
  exact ll_icmpeq (pc := 920) (tgt := 1135) dL_law_920 (by decide) h2.1.symm (kn u1 h2.2)
theorem ll_c28 (h : iv w) (hi : i + 6 ≤ L) (hL : L ≤ 3072) (kn : ∀ w1, iv w1 → ll_J K b L xs 1135 [(3, .int (nI i)), (0, .ref 200), (1, .ref 0), (2, .ref 58)] [] w1) : ll_J K b L xs 925 [(3, .int (nI i)), (0, .ref 200), (1, .ref 0), (2, .ref 58)] [] w := by
  refine ll_aload (pc := 925) dL_law_925 2 rfl ?_
  refine ll_arg (pc := 926) (i := i) (k := 1) (by omega) hL (by decide) dL_law_926 dL_law_927 dL_law_928 dL_law_929 dL_law_930 ?_
  refine ll_arg (pc := 931) (i := i) (k := 2) (by omega) hL (by decide) dL_law_931 dL_law_932 dL_law_933 dL_law_934 dL_law_935 ?_
  refine ll_arg (pc := 936) (i := i) (k := 3) (by omega) hL (by decide) dL_law_936 dL_law_937 dL_law_938 dL_law_939 dL_law_940 ?_
  refine ll_arg (pc := 941) (i := i) (k := 4) (by omega) hL (by decide) dL_law_941 dL_law_942 dL_law_943 dL_law_944 dL_law_945 ?_
  refine ll_calli (pc := 946) (N := mX6_put) (as := [.int (xs (i + 1)), .int (xs (i + 2)), .int (xs (i + 3)), .int (xs (i + 4))]) (ob := 0) dL_law_946 rfl rfl rfl lk_RL_132 hv_X6_put (Nat.le_of_ble_eq_true rfl) (Nat.le_of_ble_eq_true rfl) (Nat.le_of_ble_eq_true rfl) rfl (s_put h _ _ _ _) (fun v u hv => ?_)
  refine ll_aload (pc := 949) dL_law_949 3 rfl ?_
  refine ll_arg (pc := 950) (i := i) (k := 1) (by omega) hL (by decide) dL_law_950 dL_law_951 dL_law_952 dL_law_953 dL_law_954 ?_
  refine ll_arg (pc := 955) (i := i) (k := 2) (by omega) hL (by decide) dL_law_955 dL_law_956 dL_law_957 dL_law_958 dL_law_959 ?_
  refine ll_arg (pc := 960) (i := i) (k := 3) (by omega) hL (by decide) dL_law_960 dL_law_961 dL_law_962 dL_law_963 dL_law_964 ?_
  refine ll_arg (pc := 965) (i := i) (k := 4) (by omega) hL (by decide) dL_law_965 dL_law_966 dL_law_967 dL_law_968 dL_law_969 ?_
  refine ll_calli (pc := 970) (N := mX7_put) (as := [.int (xs (i + 1)), .int (xs (i + 2)), .int (xs (i + 3)), .int (xs (i + 4))]) (ob := 58) dL_law_970 rfl rfl rfl lk_RL_136 hv_X7_put (Nat.le_of_ble_eq_true rfl) (Nat.le_of_ble_eq_true rfl) (Nat.le_of_ble_eq_true rfl) rfl hv (fun v1 u1 h2 => ?_)
  exact ll_icmpeq (pc := 973) (tgt := 1135) dL_law_973 (by decide) h2.1.symm (kn u1 h2.2)
theorem ll_c29 (h : iv w) (hi : i + 6 ≤ L) (hL : L ≤ 3072) (kn : ∀ w1, iv w1 → ll_J K b L xs 1135 [(3, .int (nI i)), (0, .ref 200), (1, .ref 0), (2, .ref 58)] [] w1) : ll_J K b L xs 978 [(3, .int (nI i)), (0, .ref 200), (1, .ref 0), (2, .ref 58)] [] w := by
  refine ll_aload (pc := 978) dL_law_978 2 rfl ?_
  refine ll_arg (pc := 979) (i := i) (k := 1) (by omega) hL (by decide) dL_law_979 dL_law_980 dL_law_981 dL_law_982 dL_law_983 ?_
  refine ll_arg (pc := 984) (i := i) (k := 2) (by omega) hL (by decide) dL_law_984 dL_law_985 dL_law_986 dL_law_987 dL_law_988 ?_
  refine ll_calll (pc := 989) (N := mX6_get) (as := [.int (xs (i + 1)), .int (xs (i + 2))]) (ob := 0) dL_law_989 rfl rfl rfl lk_RL_137 hv_X6_get (Nat.le_of_ble_eq_true rfl) (Nat.le_of_ble_eq_true rfl) (Nat.le_of_ble_eq_true rfl) rfl (s_get h _ _) (fun v u hv => ?_)
  refine ll_aload (pc := 992) dL_law_992 3 rfl ?_
  refine ll_arg (pc := 993) (i := i) (k := 1) (by omega) hL (by decide) dL_law_993 dL_law_994 dL_law_995 dL_law_996 dL_law_997 ?_
  refine ll_arg (pc := 998) (i := i) (k := 2) (by omega) hL (by decide) dL_law_998 dL_law_999 dL_law_1000 dL_law_1001 dL_law_1002 ?_
  refine ll_calll (pc := 1003) (N := mX7_get) (as := [.int (xs (i + 1)), .int (xs (i + 2))]) (ob := 58) dL_law_1003 rfl rfl rfl lk_RL_140 hv_X7_get (Nat.le_of_ble_eq_true rfl) (Nat.le_of_ble_eq_true rfl) (Nat.le_of_ble_eq_true rfl) rfl hv (fun v1 u1 h2 => ?_)
  exact ll_lcmpeq (pc := 1006) (tgt := 1135) dL_law_1006 dL_law_1007 (by decide) h2.1.symm (kn u1 h2.2)
theorem ll_c30 (h : iv w) (hi : i + 6 ≤ L) (hL : L ≤ 3072) (kn : ∀ w1, iv w1 → ll_J K b L xs 1135 [(3, .int (nI i)), (0, .ref 200), (1, .ref 0), (2, .ref 58)] [] w1) : ll_J K b L xs 1012 [(3, .int (nI i)), (0, .ref 200), (1, .ref 0), (2, .ref 58)] [] w := by
  refine ll_aload (pc := 1012) dL_law_1012 2 rfl ?_
  refine ll_arg (pc := 1013) (i := i) (k := 1) (by omega) hL (by decide) dL_law_1013 dL_law_1014 dL_law_1015 dL_law_1016 dL_law_1017 ?_
  refine ll_arg (pc := 1018) (i := i) (k := 2) (by omega) hL (by decide) dL_law_1018 dL_law_1019 dL_law_1020 dL_law_1021 dL_law_1022 ?_
  refine ll_arg (pc := 1023) (i := i) (k := 3) (by omega) hL (by decide) dL_law_1023 dL_law_1024 dL_law_1025 dL_law_1026 dL_law_1027 ?_
  refine ll_arg (pc := 1028) (i := i) (k := 4) (by omega) hL (by decide) dL_law_1028 dL_law_1029 dL_law_1030 dL_law_1031 dL_law_1032 ?_
  refine ll_arg (pc := 1033) (i := i) (k := 5) (by omega) hL (by decide) dL_law_1033 dL_law_1034 dL_law_1035 dL_law_1036 dL_law_1037 ?_
  refine ll_calli (pc := 1038) (N := mX6_copy) (as := [.int (xs (i + 1)), .int (xs (i + 2)), .int (xs (i + 3)), .int (xs (i + 4)), .int (xs (i + 5))]) (ob := 0) dL_law_1038 rfl rfl rfl lk_RL_141 hv_X6_copy (Nat.le_of_ble_eq_true rfl) (Nat.le_of_ble_eq_true rfl) (Nat.le_of_ble_eq_true rfl) rfl (s_copy h _ _ _ _ _) (fun v u hv => ?_)
  refine ll_aload (pc := 1041) dL_law_1041 3 rfl ?_
  refine ll_arg (pc := 1042) (i := i) (k := 1) (by omega) hL (by decide) dL_law_1042 dL_law_1043 dL_law_1044 dL_law_1045 dL_law_1046 ?_
  refine ll_arg (pc := 1047) (i := i) (k := 2) (by omega) hL (by decide) dL_law_1047 dL_law_1048 dL_law_1049 dL_law_1050 dL_law_1051 ?_
  refine ll_arg (pc := 1052) (i := i) (k := 3) (by omega) hL (by decide) dL_law_1052 dL_law_1053 dL_law_1054 dL_law_1055 dL_law_1056 ?_
  refine ll_arg (pc := 1057) (i := i) (k := 4) (by omega) hL (by decide) dL_law_1057 dL_law_1058 dL_law_1059 dL_law_1060 dL_law_1061 ?_
  refine ll_arg (pc := 1062) (i := i) (k := 5) (by omega) hL (by decide) dL_law_1062 dL_law_1063 dL_law_1064 dL_law_1065 dL_law_1066 ?_
  refine ll_calli (pc := 1067) (N := mX7_copy) (as := [.int (xs (i + 1)), .int (xs (i + 2)), .int (xs (i + 3)), .int (xs (i + 4)), .int (xs (i + 5))]) (ob := 58) dL_law_1067 rfl rfl rfl lk_RL_145 hv_X7_copy (Nat.le_of_ble_eq_true rfl) (Nat.le_of_ble_eq_true rfl) (Nat.le_of_ble_eq_true rfl) rfl hv (fun v1 u1 h2 => ?_)
  exact ll_icmpeq (pc := 1070) (tgt := 1135) dL_law_1070 (by decide) h2.1.symm (kn u1 h2.2)
theorem ll_c31 (h : iv w) (hi : i + 6 ≤ L) (hL : L ≤ 3072) (kn : ∀ w1, iv w1 → ll_J K b L xs 1135 [(3, .int (nI i)), (0, .ref 200), (1, .ref 0), (2, .ref 58)] [] w1) : ll_J K b L xs 1075 [(3, .int (nI i)), (0, .ref 200), (1, .ref 0), (2, .ref 58)] [] w := by
  refine ll_aload (pc := 1075) dL_law_1075 2 rfl ?_
  refine ll_arg (pc := 1076) (i := i) (k := 1) (by omega) hL (by decide) dL_law_1076 dL_law_1077 dL_law_1078 dL_law_1079 dL_law_1080 ?_
  refine ll_calli (pc := 1081) (N := mX6_write) (as := [.int (xs (i + 1))]) (ob := 0) dL_law_1081 rfl rfl rfl lk_RL_146 hv_X6_write (Nat.le_of_ble_eq_true rfl) (Nat.le_of_ble_eq_true rfl) (Nat.le_of_ble_eq_true rfl) rfl (s_write h _) (fun v u hv => ?_)
  refine ll_aload (pc := 1084) dL_law_1084 3 rfl ?_
  refine ll_arg (pc := 1085) (i := i) (k := 1) (by omega) hL (by decide) dL_law_1085 dL_law_1086 dL_law_1087 dL_law_1088 dL_law_1089 ?_
  refine ll_calli (pc := 1090) (N := mX7_write) (as := [.int (xs (i + 1))]) (ob := 58) dL_law_1090 rfl rfl rfl lk_RL_149 hv_X7_write (Nat.le_of_ble_eq_true rfl) (Nat.le_of_ble_eq_true rfl) (Nat.le_of_ble_eq_true rfl) rfl hv (fun v1 u1 h2 => ?_)
  exact ll_icmpeq (pc := 1093) (tgt := 1135) dL_law_1093 (by decide) h2.1.symm (kn u1 h2.2)
theorem ll_c32 (h : iv w) (hi : i + 6 ≤ L) (hL : L ≤ 3072) (kn : ∀ w1, iv w1 → ll_J K b L xs 1135 [(3, .int (nI i)), (0, .ref 200), (1, .ref 0), (2, .ref 58)] [] w1) : ll_J K b L xs 1098 [(3, .int (nI i)), (0, .ref 200), (1, .ref 0), (2, .ref 58)] [] w := by
  refine ll_aload (pc := 1098) dL_law_1098 2 rfl ?_
  refine ll_arg (pc := 1099) (i := i) (k := 1) (by omega) hL (by decide) dL_law_1099 dL_law_1100 dL_law_1101 dL_law_1102 dL_law_1103 ?_
  refine ll_calli (pc := 1104) (N := mX6_count) (as := [.int (xs (i + 1))]) (ob := 0) dL_law_1104 rfl rfl rfl lk_RL_150 hv_X6_count (Nat.le_of_ble_eq_true rfl) (Nat.le_of_ble_eq_true rfl) (Nat.le_of_ble_eq_true rfl) rfl (s_count h _) (fun v u hv => ?_)
  refine ll_aload (pc := 1107) dL_law_1107 3 rfl ?_
  refine ll_arg (pc := 1108) (i := i) (k := 1) (by omega) hL (by decide) dL_law_1108 dL_law_1109 dL_law_1110 dL_law_1111 dL_law_1112 ?_
  refine ll_calli (pc := 1113) (N := mX7_count) (as := [.int (xs (i + 1))]) (ob := 58) dL_law_1113 rfl rfl rfl lk_RL_153 hv_X7_count (Nat.le_of_ble_eq_true rfl) (Nat.le_of_ble_eq_true rfl) (Nat.le_of_ble_eq_true rfl) rfl hv (fun v1 u1 h2 => ?_)
  exact ll_icmpeq (pc := 1116) (tgt := 1135) dL_law_1116 (by decide) h2.1.symm (kn u1 h2.2)
theorem ll_c33 (h : iv w) (hi : i + 6 ≤ L) (hL : L ≤ 3072) (kn : ∀ w1, iv w1 → ll_J K b L xs 1135 [(3, .int (nI i)), (0, .ref 200), (1, .ref 0), (2, .ref 58)] [] w1) : ll_J K b L xs 1121 [(3, .int (nI i)), (0, .ref 200), (1, .ref 0), (2, .ref 58)] [] w := by
  refine ll_aload (pc := 1121) dL_law_1121 2 rfl ?_
  refine ll_calll (pc := 1122) (N := mX6_digest) (as := []) (ob := 0) dL_law_1122 rfl rfl rfl lk_RL_154 hv_X6_digest (Nat.le_of_ble_eq_true rfl) (Nat.le_of_ble_eq_true rfl) (Nat.le_of_ble_eq_true rfl) rfl (s_digest h) (fun v u hv => ?_)
  refine ll_aload (pc := 1125) dL_law_1125 3 rfl ?_
  refine ll_calll (pc := 1126) (N := mX7_digest) (as := []) (ob := 58) dL_law_1126 rfl rfl rfl lk_RL_158 hv_X7_digest (Nat.le_of_ble_eq_true rfl) (Nat.le_of_ble_eq_true rfl) (Nat.le_of_ble_eq_true rfl) rfl hv (fun v1 u1 h2 => ?_)
  exact ll_lcmpeq (pc := 1129) (tgt := 1135) dL_law_1129 dL_law_1130 (by decide) h2.1.symm (kn u1 h2.2)
end
