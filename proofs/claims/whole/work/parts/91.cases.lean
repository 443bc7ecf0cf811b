/-! THE LAW'S CASES: one call of either, and the same answer (printed by wip/gen/law.py) -/
section
variable {X : sm_VC} {wm : sm_WD} {b L : Nat} {xs : Nat → Int32} {Q : State → Prop} {σx σm : sm_St}
set_option maxRecDepth 4000 in
theorem la_c0 (C : la_Cx X wm b L xs) (hR : pr_R tx_cmp σx σm) {i : Nat} (hi : i + 6 ≤ L) (kk : ∀ s t, pr_R tx_cmp s t → la_V X wm Q s t 1060 (la_lv X wm b (nI i)) []) : la_V X wm Q σx σm 156 (la_lv X wm b (nI i)) [] := by
  obtain ⟨r, s, t, e1, e2, hR1⟩ := pr_set hR (xs (i + 1)) (xs (i + 2)) (xs (i + 3))
  refine la_aload_n C 2 dL_156 rfl rfl ?_
  refine la_arg C (j := 1) rfl (by omega) dL_157 dL_158 dL_159 dL_160 dL_161 ?_
  refine la_arg C (j := 2) rfl (by omega) dL_162 dL_163 dL_164 dL_165 dL_166 ?_
  refine la_arg C (j := 3) rfl (by omega) dL_167 dL_168 dL_169 dL_170 dL_171 ?_
  refine la_callXI (r := r) (σ' := s) C [.int (xs (i + 1)), .int (xs (i + 2)), .int (xs (i + 3))] (xc_X7_set C.2.2.1 (xs (i + 1)) (xs (i + 2)) (xs (i + 3))) gm_X7_set gl_Law_13 gi_X7_set ge_X7_set rfl rfl ⟨by decide, by decide⟩ rfl (Nat.le_of_ble_eq_true rfl) dL_172 e1 ?_
  refine la_aload_n C 1 dL_175 rfl rfl ?_
  refine la_arg C (j := 1) rfl (by omega) dL_176 dL_177 dL_178 dL_179 dL_180 ?_
  refine la_arg C (j := 2) rfl (by omega) dL_181 dL_182 dL_183 dL_184 dL_185 ?_
  refine la_arg C (j := 3) rfl (by omega) dL_186 dL_187 dL_188 dL_189 dL_190 ?_
  refine la_callMI (r := r) (σ' := t) C [.int (xs (i + 1)), .int (xs (i + 2)), .int (xs (i + 3))] (mc_X8_set C.2.2.2.1 (xs (i + 1)) (xs (i + 2)) (xs (i + 3))) gm_X8_set gl_Law_17 gi_X8_set ge_X8_set rfl rfl ⟨by decide, by decide⟩ rfl (Nat.le_of_ble_eq_true rfl) dL_191 e2 ?_
  exact la_eqI C 1060 dL_194 (by decide) (kk s t hR1)
set_option maxRecDepth 4000 in
theorem la_c1 (C : la_Cx X wm b L xs) (hR : pr_R tx_cmp σx σm) {i : Nat} (hi : i + 6 ≤ L) (kk : ∀ s t, pr_R tx_cmp s t → la_V X wm Q s t 1060 (la_lv X wm b (nI i)) []) : la_V X wm Q σx σm 199 (la_lv X wm b (nI i)) [] := by
  obtain ⟨r, s, t, e1, e2, hR1⟩ := pr_sitter hR (xs (i + 1)) (xs (i + 2)) (xs (i + 3))
  refine la_aload_n C 2 dL_199 rfl rfl ?_
  refine la_arg C (j := 1) rfl (by omega) dL_200 dL_201 dL_202 dL_203 dL_204 ?_
  refine la_arg C (j := 2) rfl (by omega) dL_205 dL_206 dL_207 dL_208 dL_209 ?_
  refine la_arg C (j := 3) rfl (by omega) dL_210 dL_211 dL_212 dL_213 dL_214 ?_
  refine la_callXI (r := r) (σ' := s) C [.int (xs (i + 1)), .int (xs (i + 2)), .int (xs (i + 3))] (xc_X7_sitter C.2.2.1 (xs (i + 1)) (xs (i + 2)) (xs (i + 3))) gm_X7_sitter gl_Law_18 gi_X7_sitter ge_X7_sitter rfl rfl ⟨by decide, by decide⟩ rfl (Nat.le_of_ble_eq_true rfl) dL_215 e1 ?_
  refine la_aload_n C 1 dL_218 rfl rfl ?_
  refine la_arg C (j := 1) rfl (by omega) dL_219 dL_220 dL_221 dL_222 dL_223 ?_
  refine la_arg C (j := 2) rfl (by omega) dL_224 dL_225 dL_226 dL_227 dL_228 ?_
  refine la_arg C (j := 3) rfl (by omega) dL_229 dL_230 dL_231 dL_232 dL_233 ?_
  refine la_callMI (r := r) (σ' := t) C [.int (xs (i + 1)), .int (xs (i + 2)), .int (xs (i + 3))] (mc_X8_sitter C.2.2.2.1 (xs (i + 1)) (xs (i + 2)) (xs (i + 3))) gm_X8_sitter gl_Law_21 gi_X8_sitter ge_X8_sitter rfl rfl ⟨by decide, by decide⟩ rfl (Nat.le_of_ble_eq_true rfl) dL_234 e2 ?_
  exact la_eqI C 1060 dL_237 (by decide) (kk s t hR1)
set_option maxRecDepth 4000 in
theorem la_c2 (C : la_Cx X wm b L xs) (hR : pr_R tx_cmp σx σm) {i : Nat} (hi : i + 6 ≤ L) (kk : ∀ s t, pr_R tx_cmp s t → la_V X wm Q s t 1060 (la_lv X wm b (nI i)) []) : la_V X wm Q σx σm 242 (la_lv X wm b (nI i)) [] := by
  obtain ⟨r, s, t, e1, e2, hR1⟩ := pr_told hR (xs (i + 1)) (xs (i + 2))
  refine la_aload_n C 2 dL_242 rfl rfl ?_
  refine la_arg C (j := 1) rfl (by omega) dL_243 dL_244 dL_245 dL_246 dL_247 ?_
  refine la_arg C (j := 2) rfl (by omega) dL_248 dL_249 dL_250 dL_251 dL_252 ?_
  refine la_callXI (r := r) (σ' := s) C [.int (xs (i + 1)), .int (xs (i + 2))] (xc_X7_told C.2.2.1 (xs (i + 1)) (xs (i + 2))) gm_X7_told gl_Law_22 gi_X7_told ge_X7_told rfl rfl ⟨by decide, by decide⟩ rfl (Nat.le_of_ble_eq_true rfl) dL_253 e1 ?_
  refine la_aload_n C 1 dL_256 rfl rfl ?_
  refine la_arg C (j := 1) rfl (by omega) dL_257 dL_258 dL_259 dL_260 dL_261 ?_
  refine la_arg C (j := 2) rfl (by omega) dL_262 dL_263 dL_264 dL_265 dL_266 ?_
  refine la_callMI (r := r) (σ' := t) C [.int (xs (i + 1)), .int (xs (i + 2))] (mc_X8_told C.2.2.2.1 (xs (i + 1)) (xs (i + 2))) gm_X8_told gl_Law_26 gi_X8_told ge_X8_told rfl rfl ⟨by decide, by decide⟩ rfl (Nat.le_of_ble_eq_true rfl) dL_267 e2 ?_
  exact la_eqI C 1060 dL_270 (by decide) (kk s t hR1)
set_option maxRecDepth 4000 in
theorem la_c3 (C : la_Cx X wm b L xs) (hR : pr_R tx_cmp σx σm) {i : Nat} (hi : i + 6 ≤ L) (kk : ∀ s t, pr_R tx_cmp s t → la_V X wm Q s t 1060 (la_lv X wm b (nI i)) []) : la_V X wm Q σx σm 275 (la_lv X wm b (nI i)) [] := by
  obtain ⟨r, s, t, e1, e2, hR1⟩ := pr_feed hR (xs (i + 1))
  refine la_aload_n C 2 dL_275 rfl rfl ?_
  refine la_arg C (j := 1) rfl (by omega) dL_276 dL_277 dL_278 dL_279 dL_280 ?_
  refine la_callXI (r := r) (σ' := s) C [.int (xs (i + 1))] (xc_X7_feed C.2.2.1 (xs (i + 1))) gm_X7_feed gl_Law_27 gi_X7_feed ge_X7_feed rfl rfl ⟨by decide, by decide⟩ rfl (Nat.le_of_ble_eq_true rfl) dL_281 e1 ?_
  refine la_aload_n C 1 dL_284 rfl rfl ?_
  refine la_arg C (j := 1) rfl (by omega) dL_285 dL_286 dL_287 dL_288 dL_289 ?_
  refine la_callMI (r := r) (σ' := t) C [.int (xs (i + 1))] (mc_X8_feed C.2.2.2.1 (xs (i + 1))) gm_X8_feed gl_Law_31 gi_X8_feed ge_X8_feed rfl rfl ⟨by decide, by decide⟩ rfl (Nat.le_of_ble_eq_true rfl) dL_290 e2 ?_
  exact la_eqI C 1060 dL_293 (by decide) (kk s t hR1)
set_option maxRecDepth 4000 in
theorem la_c4 (C : la_Cx X wm b L xs) (hR : pr_R tx_cmp σx σm) {i : Nat} (hi : i + 6 ≤ L) (kk : ∀ s t, pr_R tx_cmp s t → la_V X wm Q s t 1060 (la_lv X wm b (nI i)) []) : la_V X wm Q σx σm 298 (la_lv X wm b (nI i)) [] := by
  obtain ⟨r, s, t, e1, e2, hR1⟩ := pr_text hR 
  refine la_aload_n C 2 dL_298 rfl rfl ?_
  refine la_callXI (r := r) (σ' := s) C [] (xc_X7_text C.2.2.1) gm_X7_text gl_Law_32 gi_X7_text ge_X7_text rfl rfl ⟨by decide, by decide⟩ rfl (Nat.le_of_ble_eq_true rfl) dL_299 e1 ?_
  refine la_aload_n C 1 dL_302 rfl rfl ?_
  refine la_callMI (r := r) (σ' := t) C [] (mc_X8_text C.2.2.2.1) gm_X8_text gl_Law_36 gi_X8_text ge_X8_text rfl rfl ⟨by decide, by decide⟩ rfl (Nat.le_of_ble_eq_true rfl) dL_303 e2 ?_
  exact la_eqI C 1060 dL_306 (by decide) (kk s t hR1)
set_option maxRecDepth 4000 in
theorem la_c5 (C : la_Cx X wm b L xs) (hR : pr_R tx_cmp σx σm) {i : Nat} (hi : i + 6 ≤ L) (kk : ∀ s t, pr_R tx_cmp s t → la_V X wm Q s t 1060 (la_lv X wm b (nI i)) []) : la_V X wm Q σx σm 311 (la_lv X wm b (nI i)) [] := by
  obtain ⟨r, s, t, e1, e2, hR1⟩ := pr_force hR (xs (i + 1))
  refine la_aload_n C 2 dL_311 rfl rfl ?_
  refine la_arg C (j := 1) rfl (by omega) dL_312 dL_313 dL_314 dL_315 dL_316 ?_
  refine la_callXI (r := r) (σ' := s) C [.int (xs (i + 1))] (xc_X7_force C.2.2.1 (xs (i + 1))) gm_X7_force gl_Law_37 gi_X7_force ge_X7_force rfl rfl ⟨by decide, by decide⟩ rfl (Nat.le_of_ble_eq_true rfl) dL_317 e1 ?_
  refine la_aload_n C 1 dL_320 rfl rfl ?_
  refine la_arg C (j := 1) rfl (by omega) dL_321 dL_322 dL_323 dL_324 dL_325 ?_
  refine la_callMI (r := r) (σ' := t) C [.int (xs (i + 1))] (mc_X8_force C.2.2.2.1 (xs (i + 1))) gm_X8_force gl_Law_40 gi_X8_force ge_X8_force rfl rfl ⟨by decide, by decide⟩ rfl (Nat.le_of_ble_eq_true rfl) dL_326 e2 ?_
  exact la_eqI C 1060 dL_329 (by decide) (kk s t hR1)
set_option maxRecDepth 4000 in
theorem la_c6 (C : la_Cx X wm b L xs) (hR : pr_R tx_cmp σx σm) {i : Nat} (hi : i + 6 ≤ L) (kk : ∀ s t, pr_R tx_cmp s t → la_V X wm Q s t 1060 (la_lv X wm b (nI i)) []) : la_V X wm Q σx σm 334 (la_lv X wm b (nI i)) [] := by
  obtain ⟨r, s, t, e1, e2, hR1⟩ := pr_night tx_I hR (xs (i + 1)) (xs (i + 2))
  refine la_aload_n C 2 dL_334 rfl rfl ?_
  refine la_arg C (j := 1) rfl (by omega) dL_335 dL_336 dL_337 dL_338 dL_339 ?_
  refine la_arg C (j := 2) rfl (by omega) dL_340 dL_341 dL_342 dL_343 dL_344 ?_
  refine la_callXI (r := r) (σ' := s) C [.int (xs (i + 1)), .int (xs (i + 2))] (xc_X7_night C.2.2.1 (xs (i + 1)) (xs (i + 2))) gm_X7_night gl_Law_41 gi_X7_night ge_X7_night rfl rfl ⟨by decide, by decide⟩ rfl (Nat.le_of_ble_eq_true rfl) dL_345 e1 ?_
  refine la_aload_n C 1 dL_348 rfl rfl ?_
  refine la_arg C (j := 1) rfl (by omega) dL_349 dL_350 dL_351 dL_352 dL_353 ?_
  refine la_arg C (j := 2) rfl (by omega) dL_354 dL_355 dL_356 dL_357 dL_358 ?_
  refine la_callMI (r := r) (σ' := t) C [.int (xs (i + 1)), .int (xs (i + 2))] (mc_X8_night C.2.2.2.1 (xs (i + 1)) (xs (i + 2))) gm_X8_night gl_Law_44 gi_X8_night ge_X8_night rfl rfl ⟨by decide, by decide⟩ rfl (Nat.le_of_ble_eq_true rfl) dL_359 e2 ?_
  exact la_eqI C 1060 dL_362 (by decide) (kk s t hR1)
set_option maxRecDepth 4000 in
theorem la_c7 (C : la_Cx X wm b L xs) (hR : pr_R tx_cmp σx σm) {i : Nat} (hi : i + 6 ≤ L) (kk : ∀ s t, pr_R tx_cmp s t → la_V X wm Q s t 1060 (la_lv X wm b (nI i)) []) : la_V X wm Q σx σm 367 (la_lv X wm b (nI i)) [] := by
  obtain ⟨r, s, t, e1, e2, hR1⟩ := pr_sit tx_I hR (xs (i + 1))
  refine la_aload_n C 2 dL_367 rfl rfl ?_
  refine la_arg C (j := 1) rfl (by omega) dL_368 dL_369 dL_370 dL_371 dL_372 ?_
  refine la_callXI (r := r) (σ' := s) C [.int (xs (i + 1))] (xc_X7_sit C.2.2.1 (xs (i + 1))) gm_X7_sit gl_Law_45 gi_X7_sit ge_X7_sit rfl rfl ⟨by decide, by decide⟩ rfl (Nat.le_of_ble_eq_true rfl) dL_373 e1 ?_
  refine la_aload_n C 1 dL_376 rfl rfl ?_
  refine la_arg C (j := 1) rfl (by omega) dL_377 dL_378 dL_379 dL_380 dL_381 ?_
  refine la_callMI (r := r) (σ' := t) C [.int (xs (i + 1))] (mc_X8_sit C.2.2.2.1 (xs (i + 1))) gm_X8_sit gl_Law_48 gi_X8_sit ge_X8_sit rfl rfl ⟨by decide, by decide⟩ rfl (Nat.le_of_ble_eq_true rfl) dL_382 e2 ?_
  exact la_eqI C 1060 dL_385 (by decide) (kk s t hR1)
set_option maxRecDepth 4000 in
theorem la_c8 (C : la_Cx X wm b L xs) (hR : pr_R tx_cmp σx σm) {i : Nat} (hi : i + 6 ≤ L) (kk : ∀ s t, pr_R tx_cmp s t → la_V X wm Q s t 1060 (la_lv X wm b (nI i)) []) : la_V X wm Q σx σm 390 (la_lv X wm b (nI i)) [] := by
  obtain ⟨r, s, t, e1, e2, hR1⟩ := pr_likely hR (xs (i + 1)) (xs (i + 2)) (xs (i + 3))
  refine la_aload_n C 2 dL_390 rfl rfl ?_
  refine la_arg C (j := 1) rfl (by omega) dL_391 dL_392 dL_393 dL_394 dL_395 ?_
  refine la_arg C (j := 2) rfl (by omega) dL_396 dL_397 dL_398 dL_399 dL_400 ?_
  refine la_arg C (j := 3) rfl (by omega) dL_401 dL_402 dL_403 dL_404 dL_405 ?_
  refine la_callXL (r := r) (σ' := s) C [.int (xs (i + 1)), .int (xs (i + 2)), .int (xs (i + 3))] (xc_X7_likely C.2.2.1 (xs (i + 1)) (xs (i + 2)) (xs (i + 3))) gm_X7_likely gl_Law_49 gi_X7_likely ge_X7_likely rfl rfl ⟨by decide, by decide⟩ rfl (Nat.le_of_ble_eq_true rfl) dL_406 e1 ?_
  refine la_aload_n C 1 dL_409 rfl rfl ?_
  refine la_arg C (j := 1) rfl (by omega) dL_410 dL_411 dL_412 dL_413 dL_414 ?_
  refine la_arg C (j := 2) rfl (by omega) dL_415 dL_416 dL_417 dL_418 dL_419 ?_
  refine la_arg C (j := 3) rfl (by omega) dL_420 dL_421 dL_422 dL_423 dL_424 ?_
  refine la_callML (r := r) (σ' := t) C [.int (xs (i + 1)), .int (xs (i + 2)), .int (xs (i + 3))] (mc_X8_likely C.2.2.2.1 (xs (i + 1)) (xs (i + 2)) (xs (i + 3))) gm_X8_likely gl_Law_53 gi_X8_likely ge_X8_likely rfl rfl ⟨by decide, by decide⟩ rfl (Nat.le_of_ble_eq_true rfl) dL_425 e2 ?_
  refine la_lcmp C dL_428 ?_
  exact la_if0 C 1060 (lg_same r) dL_429 (by decide) (kk s t hR1)
set_option maxRecDepth 4000 in
theorem la_c9 (C : la_Cx X wm b L xs) (hR : pr_R tx_cmp σx σm) {i : Nat} (hi : i + 6 ≤ L) (kk : ∀ s t, pr_R tx_cmp s t → la_V X wm Q s t 1060 (la_lv X wm b (nI i)) []) : la_V X wm Q σx σm 434 (la_lv X wm b (nI i)) [] := by
  obtain ⟨r, s, t, e1, e2, hR1⟩ := pr_mean hR (xs (i + 1)) (xs (i + 2)) (xs (i + 3))
  refine la_aload_n C 2 dL_434 rfl rfl ?_
  refine la_arg C (j := 1) rfl (by omega) dL_435 dL_436 dL_437 dL_438 dL_439 ?_
  refine la_arg C (j := 2) rfl (by omega) dL_440 dL_441 dL_442 dL_443 dL_444 ?_
  refine la_arg C (j := 3) rfl (by omega) dL_445 dL_446 dL_447 dL_448 dL_449 ?_
  refine la_callXL (r := r) (σ' := s) C [.int (xs (i + 1)), .int (xs (i + 2)), .int (xs (i + 3))] (xc_X7_mean C.2.2.1 (xs (i + 1)) (xs (i + 2)) (xs (i + 3))) gm_X7_mean gl_Law_54 gi_X7_mean ge_X7_mean rfl rfl ⟨by decide, by decide⟩ rfl (Nat.le_of_ble_eq_true rfl) dL_450 e1 ?_
  refine la_aload_n C 1 dL_453 rfl rfl ?_
  refine la_arg C (j := 1) rfl (by omega) dL_454 dL_455 dL_456 dL_457 dL_458 ?_
  refine la_arg C (j := 2) rfl (by omega) dL_459 dL_460 dL_461 dL_462 dL_463 ?_
  refine la_arg C (j := 3) rfl (by omega) dL_464 dL_465 dL_466 dL_467 dL_468 ?_
  refine la_callML (r := r) (σ' := t) C [.int (xs (i + 1)), .int (xs (i + 2)), .int (xs (i + 3))] (mc_X8_mean C.2.2.2.1 (xs (i + 1)) (xs (i + 2)) (xs (i + 3))) gm_X8_mean gl_Law_57 gi_X8_mean ge_X8_mean rfl rfl ⟨by decide, by decide⟩ rfl (Nat.le_of_ble_eq_true rfl) dL_469 e2 ?_
  refine la_lcmp C dL_472 ?_
  exact la_if0 C 1060 (lg_same r) dL_473 (by decide) (kk s t hR1)
set_option maxRecDepth 4000 in
theorem la_c10 (C : la_Cx X wm b L xs) (hR : pr_R tx_cmp σx σm) {i : Nat} (hi : i + 6 ≤ L) (kk : ∀ s t, pr_R tx_cmp s t → la_V X wm Q s t 1060 (la_lv X wm b (nI i)) []) : la_V X wm Q σx σm 478 (la_lv X wm b (nI i)) [] := by
  obtain ⟨r, s, t, e1, e2, hR1⟩ := pr_seat hR (xs (i + 1)) (xs (i + 2))
  refine la_aload_n C 2 dL_478 rfl rfl ?_
  refine la_arg C (j := 1) rfl (by omega) dL_479 dL_480 dL_481 dL_482 dL_483 ?_
  refine la_arg C (j := 2) rfl (by omega) dL_484 dL_485 dL_486 dL_487 dL_488 ?_
  refine la_callXI (r := r) (σ' := s) C [.int (xs (i + 1)), .int (xs (i + 2))] (xc_X7_seat C.2.2.1 (xs (i + 1)) (xs (i + 2))) gm_X7_seat gl_Law_58 gi_X7_seat ge_X7_seat rfl rfl ⟨by decide, by decide⟩ rfl (Nat.le_of_ble_eq_true rfl) dL_489 e1 ?_
  refine la_aload_n C 1 dL_492 rfl rfl ?_
  refine la_arg C (j := 1) rfl (by omega) dL_493 dL_494 dL_495 dL_496 dL_497 ?_
  refine la_arg C (j := 2) rfl (by omega) dL_498 dL_499 dL_500 dL_501 dL_502 ?_
  refine la_callMI (r := r) (σ' := t) C [.int (xs (i + 1)), .int (xs (i + 2))] (mc_X8_seat C.2.2.2.1 (xs (i + 1)) (xs (i + 2))) gm_X8_seat gl_Law_61 gi_X8_seat ge_X8_seat rfl rfl ⟨by decide, by decide⟩ rfl (Nat.le_of_ble_eq_true rfl) dL_503 e2 ?_
  exact la_eqI C 1060 dL_506 (by decide) (kk s t hR1)
set_option maxRecDepth 4000 in
theorem la_c11 (C : la_Cx X wm b L xs) (hR : pr_R tx_cmp σx σm) {i : Nat} (hi : i + 6 ≤ L) (kk : ∀ s t, pr_R tx_cmp s t → la_V X wm Q s t 1060 (la_lv X wm b (nI i)) []) : la_V X wm Q σx σm 511 (la_lv X wm b (nI i)) [] := by
  obtain ⟨r, s, t, e1, e2, hR1⟩ := pr_gap hR (xs (i + 1)) (xs (i + 2))
  refine la_aload_n C 2 dL_511 rfl rfl ?_
  refine la_arg C (j := 1) rfl (by omega) dL_512 dL_513 dL_514 dL_515 dL_516 ?_
  refine la_arg C (j := 2) rfl (by omega) dL_517 dL_518 dL_519 dL_520 dL_521 ?_
  refine la_callXI (r := r) (σ' := s) C [.int (xs (i + 1)), .int (xs (i + 2))] (xc_X7_gap C.2.2.1 (xs (i + 1)) (xs (i + 2))) gm_X7_gap gl_Law_62 gi_X7_gap ge_X7_gap rfl rfl ⟨by decide, by decide⟩ rfl (Nat.le_of_ble_eq_true rfl) dL_522 e1 ?_
  refine la_aload_n C 1 dL_525 rfl rfl ?_
  refine la_arg C (j := 1) rfl (by omega) dL_526 dL_527 dL_528 dL_529 dL_530 ?_
  refine la_arg C (j := 2) rfl (by omega) dL_531 dL_532 dL_533 dL_534 dL_535 ?_
  refine la_callMI (r := r) (σ' := t) C [.int (xs (i + 1)), .int (xs (i + 2))] (mc_X8_gap C.2.2.2.1 (xs (i + 1)) (xs (i + 2))) gm_X8_gap gl_Law_65 gi_X8_gap ge_X8_gap rfl rfl ⟨by decide, by decide⟩ rfl (Nat.le_of_ble_eq_true rfl) dL_536 e2 ?_
  exact la_eqI C 1060 dL_539 (by decide) (kk s t hR1)
set_option maxRecDepth 4000 in
theorem la_c12 (C : la_Cx X wm b L xs) (hR : pr_R tx_cmp σx σm) {i : Nat} (hi : i + 6 ≤ L) (kk : ∀ s t, pr_R tx_cmp s t → la_V X wm Q s t 1060 (la_lv X wm b (nI i)) []) : la_V X wm Q σx σm 544 (la_lv X wm b (nI i)) [] := by
  obtain ⟨r, s, t, e1, e2, hR1⟩ := pr_stay tx_I hR (xs (i + 1))
  refine la_aload_n C 2 dL_544 rfl rfl ?_
  refine la_arg C (j := 1) rfl (by omega) dL_545 dL_546 dL_547 dL_548 dL_549 ?_
  refine la_callXI (r := r) (σ' := s) C [.int (xs (i + 1))] (xc_X7_stay C.2.2.1 (xs (i + 1))) gm_X7_stay gl_Law_66 gi_X7_stay ge_X7_stay rfl rfl ⟨by decide, by decide⟩ rfl (Nat.le_of_ble_eq_true rfl) dL_550 e1 ?_
  refine la_aload_n C 1 dL_553 rfl rfl ?_
  refine la_arg C (j := 1) rfl (by omega) dL_554 dL_555 dL_556 dL_557 dL_558 ?_
  refine la_callMI (r := r) (σ' := t) C [.int (xs (i + 1))] (mc_X8_stay C.2.2.2.1 (xs (i + 1))) gm_X8_stay gl_Law_69 gi_X8_stay ge_X8_stay rfl rfl ⟨by decide, by decide⟩ rfl (Nat.le_of_ble_eq_true rfl) dL_559 e2 ?_
  exact la_eqI C 1060 dL_562 (by decide) (kk s t hR1)
set_option maxRecDepth 4000 in
theorem la_c13 (C : la_Cx X wm b L xs) (hR : pr_R tx_cmp σx σm) {i : Nat} (hi : i + 6 ≤ L) (kk : ∀ s t, pr_R tx_cmp s t → la_V X wm Q s t 1060 (la_lv X wm b (nI i)) []) : la_V X wm Q σx σm 567 (la_lv X wm b (nI i)) [] := by
  obtain ⟨r, s, t, e1, e2, hR1⟩ := pr_eddies tx_I hR (xs (i + 1))
  refine la_aload_n C 2 dL_567 rfl rfl ?_
  refine la_arg C (j := 1) rfl (by omega) dL_568 dL_569 dL_570 dL_571 dL_572 ?_
  refine la_callXI (r := r) (σ' := s) C [.int (xs (i + 1))] (xc_X7_eddies C.2.2.1 (xs (i + 1))) gm_X7_eddies gl_Law_70 gi_X7_eddies ge_X7_eddies rfl rfl ⟨by decide, by decide⟩ rfl (Nat.le_of_ble_eq_true rfl) dL_573 e1 ?_
  refine la_aload_n C 1 dL_576 rfl rfl ?_
  refine la_arg C (j := 1) rfl (by omega) dL_577 dL_578 dL_579 dL_580 dL_581 ?_
  refine la_callMI (r := r) (σ' := t) C [.int (xs (i + 1))] (mc_X8_eddies C.2.2.2.1 (xs (i + 1))) gm_X8_eddies gl_Law_73 gi_X8_eddies ge_X8_eddies rfl rfl ⟨by decide, by decide⟩ rfl (Nat.le_of_ble_eq_true rfl) dL_582 e2 ?_
  exact la_eqI C 1060 dL_585 (by decide) (kk s t hR1)
set_option maxRecDepth 4000 in
theorem la_c14 (C : la_Cx X wm b L xs) (hR : pr_R tx_cmp σx σm) {i : Nat} (hi : i + 6 ≤ L) (kk : ∀ s t, pr_R tx_cmp s t → la_V X wm Q s t 1060 (la_lv X wm b (nI i)) []) : la_V X wm Q σx σm 590 (la_lv X wm b (nI i)) [] := by
  obtain ⟨r, s, t, e1, e2, hR1⟩ := pr_best tx_I hR (xs (i + 1)) (xs (i + 2)) (xs (i + 3))
  refine la_aload_n C 2 dL_590 rfl rfl ?_
  refine la_arg C (j := 1) rfl (by omega) dL_591 dL_592 dL_593 dL_594 dL_595 ?_
  refine la_arg C (j := 2) rfl (by omega) dL_596 dL_597 dL_598 dL_599 dL_600 ?_
  refine la_arg C (j := 3) rfl (by omega) dL_601 dL_602 dL_603 dL_604 dL_605 ?_
  refine la_callXI (r := r) (σ' := s) C [.int (xs (i + 1)), .int (xs (i + 2)), .int (xs (i + 3))] (xc_X7_best C.2.2.1 (xs (i + 1)) (xs (i + 2)) (xs (i + 3))) gm_X7_best gl_Law_74 gi_X7_best ge_X7_best rfl rfl ⟨by decide, by decide⟩ rfl (Nat.le_of_ble_eq_true rfl) dL_606 e1 ?_
  refine la_aload_n C 1 dL_609 rfl rfl ?_
  refine la_arg C (j := 1) rfl (by omega) dL_610 dL_611 dL_612 dL_613 dL_614 ?_
  refine la_arg C (j := 2) rfl (by omega) dL_615 dL_616 dL_617 dL_618 dL_619 ?_
  refine la_arg C (j := 3) rfl (by omega) dL_620 dL_621 dL_622 dL_623 dL_624 ?_
  refine la_callMI (r := r) (σ' := t) C [.int (xs (i + 1)), .int (xs (i + 2)), .int (xs (i + 3))] (mc_X8_best C.2.2.2.1 (xs (i + 1)) (xs (i + 2)) (xs (i + 3))) gm_X8_best gl_Law_77 gi_X8_best ge_X8_best rfl rfl ⟨by decide, by decide⟩ rfl (Nat.le_of_ble_eq_true rfl) dL_625 e2 ?_
  exact la_eqI C 1060 dL_628 (by decide) (kk s t hR1)
set_option maxRecDepth 4000 in
theorem la_c15 (C : la_Cx X wm b L xs) (hR : pr_R tx_cmp σx σm) {i : Nat} (hi : i + 6 ≤ L) (kk : ∀ s t, pr_R tx_cmp s t → la_V X wm Q s t 1060 (la_lv X wm b (nI i)) []) : la_V X wm Q σx σm 633 (la_lv X wm b (nI i)) [] := by
  obtain ⟨r, s, t, e1, e2, hR1⟩ := pr_eyes tx_I hR (xs (i + 1)) (xs (i + 2)) (xs (i + 3))
  refine la_aload_n C 2 dL_633 rfl rfl ?_
  refine la_arg C (j := 1) rfl (by omega) dL_634 dL_635 dL_636 dL_637 dL_638 ?_
  refine la_arg C (j := 2) rfl (by omega) dL_639 dL_640 dL_641 dL_642 dL_643 ?_
  refine la_arg C (j := 3) rfl (by omega) dL_644 dL_645 dL_646 dL_647 dL_648 ?_
  refine la_callXI (r := r) (σ' := s) C [.int (xs (i + 1)), .int (xs (i + 2)), .int (xs (i + 3))] (xc_X7_eyes C.2.2.1 (xs (i + 1)) (xs (i + 2)) (xs (i + 3))) gm_X7_eyes gl_Law_78 gi_X7_eyes ge_X7_eyes rfl rfl ⟨by decide, by decide⟩ rfl (Nat.le_of_ble_eq_true rfl) dL_649 e1 ?_
  refine la_aload_n C 1 dL_652 rfl rfl ?_
  refine la_arg C (j := 1) rfl (by omega) dL_653 dL_654 dL_655 dL_656 dL_657 ?_
  refine la_arg C (j := 2) rfl (by omega) dL_658 dL_659 dL_660 dL_661 dL_662 ?_
  refine la_arg C (j := 3) rfl (by omega) dL_663 dL_664 dL_665 dL_666 dL_667 ?_
  refine la_callMI (r := r) (σ' := t) C [.int (xs (i + 1)), .int (xs (i + 2)), .int (xs (i + 3))] (mc_X8_eyes C.2.2.2.1 (xs (i + 1)) (xs (i + 2)) (xs (i + 3))) gm_X8_eyes gl_Law_81 gi_X8_eyes ge_X8_eyes rfl rfl ⟨by decide, by decide⟩ rfl (Nat.le_of_ble_eq_true rfl) dL_668 e2 ?_
  exact la_eqI C 1060 dL_671 (by decide) (kk s t hR1)
set_option maxRecDepth 4000 in
theorem la_c16 (C : la_Cx X wm b L xs) (hR : pr_R tx_cmp σx σm) {i : Nat} (hi : i + 6 ≤ L) (kk : ∀ s t, pr_R tx_cmp s t → la_V X wm Q s t 1060 (la_lv X wm b (nI i)) []) : la_V X wm Q σx σm 676 (la_lv X wm b (nI i)) [] := by
  obtain ⟨r, s, t, e1, e2, hR1⟩ := pr_film tx_I hR (xs (i + 1)) (xs (i + 2))
  refine la_aload_n C 2 dL_676 rfl rfl ?_
  refine la_arg C (j := 1) rfl (by omega) dL_677 dL_678 dL_679 dL_680 dL_681 ?_
  refine la_arg C (j := 2) rfl (by omega) dL_682 dL_683 dL_684 dL_685 dL_686 ?_
  refine la_callXI (r := r) (σ' := s) C [.int (xs (i + 1)), .int (xs (i + 2))] (xc_X7_film C.2.2.1 (xs (i + 1)) (xs (i + 2))) gm_X7_film gl_Law_82 gi_X7_film ge_X7_film rfl rfl ⟨by decide, by decide⟩ rfl (Nat.le_of_ble_eq_true rfl) dL_687 e1 ?_
  refine la_aload_n C 1 dL_690 rfl rfl ?_
  refine la_arg C (j := 1) rfl (by omega) dL_691 dL_692 dL_693 dL_694 dL_695 ?_
  refine la_arg C (j := 2) rfl (by omega) dL_696 dL_697 dL_698 dL_699 dL_700 ?_
  refine la_callMI (r := r) (σ' := t) C [.int (xs (i + 1)), .int (xs (i + 2))] (mc_X8_film C.2.2.2.1 (xs (i + 1)) (xs (i + 2))) gm_X8_film gl_Law_85 gi_X8_film ge_X8_film rfl rfl ⟨by decide, by decide⟩ rfl (Nat.le_of_ble_eq_true rfl) dL_701 e2 ?_
  exact la_eqI C 1060 dL_704 (by decide) (kk s t hR1)
set_option maxRecDepth 4000 in
theorem la_c17 (C : la_Cx X wm b L xs) (hR : pr_R tx_cmp σx σm) {i : Nat} (hi : i + 6 ≤ L) (kk : ∀ s t, pr_R tx_cmp s t → la_V X wm Q s t 1060 (la_lv X wm b (nI i)) []) : la_V X wm Q σx σm 709 (la_lv X wm b (nI i)) [] := by
  obtain ⟨r, s, t, e1, e2, hR1⟩ := pr_drawn tx_I hR (xs (i + 1))
  refine la_aload_n C 2 dL_709 rfl rfl ?_
  refine la_arg C (j := 1) rfl (by omega) dL_710 dL_711 dL_712 dL_713 dL_714 ?_
  refine la_callXI (r := r) (σ' := s) C [.int (xs (i + 1))] (xc_X7_drawn C.2.2.1 (xs (i + 1))) gm_X7_drawn gl_Law_86 gi_X7_drawn ge_X7_drawn rfl rfl ⟨by decide, by decide⟩ rfl (Nat.le_of_ble_eq_true rfl) dL_715 e1 ?_
  refine la_aload_n C 1 dL_718 rfl rfl ?_
  refine la_arg C (j := 1) rfl (by omega) dL_719 dL_720 dL_721 dL_722 dL_723 ?_
  refine la_callMI (r := r) (σ' := t) C [.int (xs (i + 1))] (mc_X8_drawn C.2.2.2.1 (xs (i + 1))) gm_X8_drawn gl_Law_89 gi_X8_drawn ge_X8_drawn rfl rfl ⟨by decide, by decide⟩ rfl (Nat.le_of_ble_eq_true rfl) dL_724 e2 ?_
  exact la_eqI C 1060 dL_727 (by decide) (kk s t hR1)
set_option maxRecDepth 4000 in
theorem la_c18 (C : la_Cx X wm b L xs) (hR : pr_R tx_cmp σx σm) {i : Nat} (hi : i + 6 ≤ L) (kk : ∀ s t, pr_R tx_cmp s t → la_V X wm Q s t 1060 (la_lv X wm b (nI i)) []) : la_V X wm Q σx σm 732 (la_lv X wm b (nI i)) [] := by
  obtain ⟨r, s, t, e1, e2, hR1⟩ := pr_chance tx_I hR (xs (i + 1)) (xs (i + 2)) (xs (i + 3))
  refine la_aload_n C 2 dL_732 rfl rfl ?_
  refine la_arg C (j := 1) rfl (by omega) dL_733 dL_734 dL_735 dL_736 dL_737 ?_
  refine la_arg C (j := 2) rfl (by omega) dL_738 dL_739 dL_740 dL_741 dL_742 ?_
  refine la_arg C (j := 3) rfl (by omega) dL_743 dL_744 dL_745 dL_746 dL_747 ?_
  refine la_callXL (r := r) (σ' := s) C [.int (xs (i + 1)), .int (xs (i + 2)), .int (xs (i + 3))] (xc_X7_chance C.2.2.1 (xs (i + 1)) (xs (i + 2)) (xs (i + 3))) gm_X7_chance gl_Law_90 gi_X7_chance ge_X7_chance rfl rfl ⟨by decide, by decide⟩ rfl (Nat.le_of_ble_eq_true rfl) dL_748 e1 ?_
  refine la_aload_n C 1 dL_751 rfl rfl ?_
  refine la_arg C (j := 1) rfl (by omega) dL_752 dL_753 dL_754 dL_755 dL_756 ?_
  refine la_arg C (j := 2) rfl (by omega) dL_757 dL_758 dL_759 dL_760 dL_761 ?_
  refine la_arg C (j := 3) rfl (by omega) dL_762 dL_763 dL_764 dL_765 dL_766 ?_
  refine la_callML (r := r) (σ' := t) C [.int (xs (i + 1)), .int (xs (i + 2)), .int (xs (i + 3))] (mc_X8_chance C.2.2.2.1 (xs (i + 1)) (xs (i + 2)) (xs (i + 3))) gm_X8_chance gl_Law_93 gi_X8_chance ge_X8_chance rfl rfl ⟨by decide, by decide⟩ rfl (Nat.le_of_ble_eq_true rfl) dL_767 e2 ?_
  refine la_lcmp C dL_770 ?_
  exact la_if0 C 1060 (lg_same r) dL_771 (by decide) (kk s t hR1)
set_option maxRecDepth 4000 in
theorem la_c19 (C : la_Cx X wm b L xs) (hR : pr_R tx_cmp σx σm) {i : Nat} (hi : i + 6 ≤ L) (kk : ∀ s t, pr_R tx_cmp s t → la_V X wm Q s t 1060 (la_lv X wm b (nI i)) []) : la_V X wm Q σx σm 776 (la_lv X wm b (nI i)) [] := by
  obtain ⟨r, s, t, e1, e2, hR1⟩ := pr_image hR 
  refine la_aload_n C 2 dL_776 rfl rfl ?_
  refine la_callXI (r := r) (σ' := s) C [] (xc_X7_image C.2.2.1) gm_X7_image gl_Law_94 gi_X7_image ge_X7_image rfl rfl ⟨by decide, by decide⟩ rfl (Nat.le_of_ble_eq_true rfl) dL_777 e1 ?_
  refine la_aload_n C 1 dL_780 rfl rfl ?_
  refine la_callMI (r := r) (σ' := t) C [] (mc_X8_image C.2.2.2.1) gm_X8_image gl_Law_97 gi_X8_image ge_X8_image rfl rfl ⟨by decide, by decide⟩ rfl (Nat.le_of_ble_eq_true rfl) dL_781 e2 ?_
  exact la_eqI C 1060 dL_784 (by decide) (kk s t hR1)
set_option maxRecDepth 4000 in
theorem la_c20 (C : la_Cx X wm b L xs) (hR : pr_R tx_cmp σx σm) {i : Nat} (hi : i + 6 ≤ L) (kk : ∀ s t, pr_R tx_cmp s t → la_V X wm Q s t 1060 (la_lv X wm b (nI i)) []) : la_V X wm Q σx σm 789 (la_lv X wm b (nI i)) [] := by
  obtain ⟨r, s, t, e1, e2, hR1⟩ := pr_back hR 
  refine la_aload_n C 2 dL_789 rfl rfl ?_
  refine la_callXI (r := r) (σ' := s) C [] (xc_X7_back C.2.2.1) gm_X7_back gl_Law_98 gi_X7_back ge_X7_back rfl rfl ⟨by decide, by decide⟩ rfl (Nat.le_of_ble_eq_true rfl) dL_790 e1 ?_
  refine la_aload_n C 1 dL_793 rfl rfl ?_
  refine la_callMI (r := r) (σ' := t) C [] (mc_X8_back C.2.2.2.1) gm_X8_back gl_Law_101 gi_X8_back ge_X8_back rfl rfl ⟨by decide, by decide⟩ rfl (Nat.le_of_ble_eq_true rfl) dL_794 e2 ?_
  exact la_eqI C 1060 dL_797 (by decide) (kk s t hR1)
set_option maxRecDepth 4000 in
theorem la_c21 (C : la_Cx X wm b L xs) (hR : pr_R tx_cmp σx σm) {i : Nat} (hi : i + 6 ≤ L) (kk : ∀ s t, pr_R tx_cmp s t → la_V X wm Q s t 1060 (la_lv X wm b (nI i)) []) : la_V X wm Q σx σm 802 (la_lv X wm b (nI i)) [] := by
  obtain ⟨r, s, t, e1, e2, hR1⟩ := pr_count hR (xs (i + 1))
  refine la_aload_n C 2 dL_802 rfl rfl ?_
  refine la_arg C (j := 1) rfl (by omega) dL_803 dL_804 dL_805 dL_806 dL_807 ?_
  refine la_callXI (r := r) (σ' := s) C [.int (xs (i + 1))] (xc_X7_count C.2.2.1 (xs (i + 1))) gm_X7_count gl_Law_102 gi_X7_count ge_X7_count rfl rfl ⟨by decide, by decide⟩ rfl (Nat.le_of_ble_eq_true rfl) dL_808 e1 ?_
  refine la_aload_n C 1 dL_811 rfl rfl ?_
  refine la_arg C (j := 1) rfl (by omega) dL_812 dL_813 dL_814 dL_815 dL_816 ?_
  refine la_callMI (r := r) (σ' := t) C [.int (xs (i + 1))] (mc_X8_count C.2.2.2.1 (xs (i + 1))) gm_X8_count gl_Law_105 gi_X8_count ge_X8_count rfl rfl ⟨by decide, by decide⟩ rfl (Nat.le_of_ble_eq_true rfl) dL_817 e2 ?_
  exact la_eqI C 1060 dL_820 (by decide) (kk s t hR1)
set_option maxRecDepth 4000 in
theorem la_c22 (C : la_Cx X wm b L xs) (hR : pr_R tx_cmp σx σm) {i : Nat} (hi : i + 6 ≤ L) (kk : ∀ s t, pr_R tx_cmp s t → la_V X wm Q s t 1060 (la_lv X wm b (nI i)) []) : la_V X wm Q σx σm 825 (la_lv X wm b (nI i)) [] := by
  obtain ⟨r, s, t, e1, e2, hR1⟩ := pr_sheet hR (xs (i + 1)) (xs (i + 2)) (xs (i + 3))
  refine la_aload_n C 2 dL_825 rfl rfl ?_
  refine la_arg C (j := 1) rfl (by omega) dL_826 dL_827 dL_828 dL_829 dL_830 ?_
  refine la_arg C (j := 2) rfl (by omega) dL_831 dL_832 dL_833 dL_834 dL_835 ?_
  refine la_arg C (j := 3) rfl (by omega) dL_836 dL_837 dL_838 dL_839 dL_840 ?_
  refine la_callXI (r := r) (σ' := s) C [.int (xs (i + 1)), .int (xs (i + 2)), .int (xs (i + 3))] (xc_X7_sheet C.2.2.1 (xs (i + 1)) (xs (i + 2)) (xs (i + 3))) gm_X7_sheet gl_Law_106 gi_X7_sheet ge_X7_sheet rfl rfl ⟨by decide, by decide⟩ rfl (Nat.le_of_ble_eq_true rfl) dL_841 e1 ?_
  refine la_aload_n C 1 dL_844 rfl rfl ?_
  refine la_arg C (j := 1) rfl (by omega) dL_845 dL_846 dL_847 dL_848 dL_849 ?_
  refine la_arg C (j := 2) rfl (by omega) dL_850 dL_851 dL_852 dL_853 dL_854 ?_
  refine la_arg C (j := 3) rfl (by omega) dL_855 dL_856 dL_857 dL_858 dL_859 ?_
  refine la_callMI (r := r) (σ' := t) C [.int (xs (i + 1)), .int (xs (i + 2)), .int (xs (i + 3))] (mc_X8_sheet C.2.2.2.1 (xs (i + 1)) (xs (i + 2)) (xs (i + 3))) gm_X8_sheet gl_Law_109 gi_X8_sheet ge_X8_sheet rfl rfl ⟨by decide, by decide⟩ rfl (Nat.le_of_ble_eq_true rfl) dL_860 e2 ?_
  exact la_eqI C 1060 dL_863 (by decide) (kk s t hR1)
set_option maxRecDepth 4000 in
theorem la_c23 (C : la_Cx X wm b L xs) (hR : pr_R tx_cmp σx σm) {i : Nat} (hi : i + 6 ≤ L) (kk : ∀ s t, pr_R tx_cmp s t → la_V X wm Q s t 1060 (la_lv X wm b (nI i)) []) : la_V X wm Q σx σm 868 (la_lv X wm b (nI i)) [] := by
  obtain ⟨r, s, t, e1, e2, hR1⟩ := pr_cell hR (xs (i + 1)) (xs (i + 2)) (xs (i + 3))
  refine la_aload_n C 2 dL_868 rfl rfl ?_
  refine la_arg C (j := 1) rfl (by omega) dL_869 dL_870 dL_871 dL_872 dL_873 ?_
  refine la_arg C (j := 2) rfl (by omega) dL_874 dL_875 dL_876 dL_877 dL_878 ?_
  refine la_arg C (j := 3) rfl (by omega) dL_879 dL_880 dL_881 dL_882 dL_883 ?_
  refine la_callXI (r := r) (σ' := s) C [.int (xs (i + 1)), .int (xs (i + 2)), .int (xs (i + 3))] (xc_X7_cell C.2.2.1 (xs (i + 1)) (xs (i + 2)) (xs (i + 3))) gm_X7_cell gl_Law_110 gi_X7_cell ge_X7_cell rfl rfl ⟨by decide, by decide⟩ rfl (Nat.le_of_ble_eq_true rfl) dL_884 e1 ?_
  refine la_aload_n C 1 dL_887 rfl rfl ?_
  refine la_arg C (j := 1) rfl (by omega) dL_888 dL_889 dL_890 dL_891 dL_892 ?_
  refine la_arg C (j := 2) rfl (by omega) dL_893 dL_894 dL_895 dL_896 dL_897 ?_
  refine la_arg C (j := 3) rfl (by omega) dL_898 dL_899 dL_900 dL_901 dL_902 ?_
  refine la_callMI (r := r) (σ' := t) C [.int (xs (i + 1)), .int (xs (i + 2)), .int (xs (i + 3))] (mc_X8_cell C.2.2.2.1 (xs (i + 1)) (xs (i + 2)) (xs (i + 3))) gm_X8_cell gl_Law_113 gi_X8_cell ge_X8_cell rfl rfl ⟨by decide, by decide⟩ rfl (Nat.le_of_ble_eq_true rfl) dL_903 e2 ?_
  exact la_eqI C 1060 dL_906 (by decide) (kk s t hR1)
set_option maxRecDepth 4000 in
theorem la_c24 (C : la_Cx X wm b L xs) (hR : pr_R tx_cmp σx σm) {i : Nat} (hi : i + 6 ≤ L) (kk : ∀ s t, pr_R tx_cmp s t → la_V X wm Q s t 1060 (la_lv X wm b (nI i)) []) : la_V X wm Q σx σm 911 (la_lv X wm b (nI i)) [] := by
  obtain ⟨r, s, t, e1, e2, hR1⟩ := pr_copy hR (xs (i + 1)) (xs (i + 2)) (xs (i + 3)) (xs (i + 4)) (xs (i + 5))
  refine la_aload_n C 2 dL_911 rfl rfl ?_
  refine la_arg C (j := 1) rfl (by omega) dL_912 dL_913 dL_914 dL_915 dL_916 ?_
  refine la_arg C (j := 2) rfl (by omega) dL_917 dL_918 dL_919 dL_920 dL_921 ?_
  refine la_arg C (j := 3) rfl (by omega) dL_922 dL_923 dL_924 dL_925 dL_926 ?_
  refine la_arg C (j := 4) rfl (by omega) dL_927 dL_928 dL_929 dL_930 dL_931 ?_
  refine la_arg C (j := 5) rfl (by omega) dL_932 dL_933 dL_934 dL_935 dL_936 ?_
  refine la_callXI (r := r) (σ' := s) C [.int (xs (i + 1)), .int (xs (i + 2)), .int (xs (i + 3)), .int (xs (i + 4)), .int (xs (i + 5))] (xc_X7_copy C.2.2.1 (xs (i + 1)) (xs (i + 2)) (xs (i + 3)) (xs (i + 4)) (xs (i + 5))) gm_X7_copy gl_Law_114 gi_X7_copy ge_X7_copy rfl rfl ⟨by decide, by decide⟩ rfl (Nat.le_of_ble_eq_true rfl) dL_937 e1 ?_
  refine la_aload_n C 1 dL_940 rfl rfl ?_
  refine la_arg C (j := 1) rfl (by omega) dL_941 dL_942 dL_943 dL_944 dL_945 ?_
  refine la_arg C (j := 2) rfl (by omega) dL_946 dL_947 dL_948 dL_949 dL_950 ?_
  refine la_arg C (j := 3) rfl (by omega) dL_951 dL_952 dL_953 dL_954 dL_955 ?_
  refine la_arg C (j := 4) rfl (by omega) dL_956 dL_957 dL_958 dL_959 dL_960 ?_
  refine la_arg C (j := 5) rfl (by omega) dL_961 dL_962 dL_963 dL_964 dL_965 ?_
  refine la_callMI (r := r) (σ' := t) C [.int (xs (i + 1)), .int (xs (i + 2)), .int (xs (i + 3)), .int (xs (i + 4)), .int (xs (i + 5))] (mc_X8_copy C.2.2.2.1 (xs (i + 1)) (xs (i + 2)) (xs (i + 3)) (xs (i + 4)) (xs (i + 5))) gm_X8_copy gl_Law_118 gi_X8_copy ge_X8_copy rfl rfl ⟨by decide, by decide⟩ rfl (Nat.le_of_ble_eq_true rfl) dL_966 e2 ?_
  exact la_eqI C 1060 dL_969 (by decide) (kk s t hR1)
set_option maxRecDepth 4000 in
theorem la_c25 (C : la_Cx X wm b L xs) (hR : pr_R tx_cmp σx σm) {i : Nat} (hi : i + 6 ≤ L) (kk : ∀ s t, pr_R tx_cmp s t → la_V X wm Q s t 1060 (la_lv X wm b (nI i)) []) : la_V X wm Q σx σm 974 (la_lv X wm b (nI i)) [] := by
  obtain ⟨r, s, t, e1, e2, hR1⟩ := pr_sitters hR (xs (i + 1)) (xs (i + 2)) (xs (i + 3)) (xs (i + 4))
  refine la_aload_n C 2 dL_974 rfl rfl ?_
  refine la_arg C (j := 1) rfl (by omega) dL_975 dL_976 dL_977 dL_978 dL_979 ?_
  refine la_arg C (j := 2) rfl (by omega) dL_980 dL_981 dL_982 dL_983 dL_984 ?_
  refine la_arg C (j := 3) rfl (by omega) dL_985 dL_986 dL_987 dL_988 dL_989 ?_
  refine la_arg C (j := 4) rfl (by omega) dL_990 dL_991 dL_992 dL_993 dL_994 ?_
  refine la_callXI (r := r) (σ' := s) C [.int (xs (i + 1)), .int (xs (i + 2)), .int (xs (i + 3)), .int (xs (i + 4))] (xc_X7_sitters C.2.2.1 (xs (i + 1)) (xs (i + 2)) (xs (i + 3)) (xs (i + 4))) gm_X7_sitters gl_Law_119 gi_X7_sitters ge_X7_sitters rfl rfl ⟨by decide, by decide⟩ rfl (Nat.le_of_ble_eq_true rfl) dL_995 e1 ?_
  refine la_aload_n C 1 dL_998 rfl rfl ?_
  refine la_arg C (j := 1) rfl (by omega) dL_999 dL_1000 dL_1001 dL_1002 dL_1003 ?_
  refine la_arg C (j := 2) rfl (by omega) dL_1004 dL_1005 dL_1006 dL_1007 dL_1008 ?_
  refine la_arg C (j := 3) rfl (by omega) dL_1009 dL_1010 dL_1011 dL_1012 dL_1013 ?_
  refine la_arg C (j := 4) rfl (by omega) dL_1014 dL_1015 dL_1016 dL_1017 dL_1018 ?_
  refine la_callMI (r := r) (σ' := t) C [.int (xs (i + 1)), .int (xs (i + 2)), .int (xs (i + 3)), .int (xs (i + 4))] (mc_X8_sitters C.2.2.2.1 (xs (i + 1)) (xs (i + 2)) (xs (i + 3)) (xs (i + 4))) gm_X8_sitters gl_Law_123 gi_X8_sitters ge_X8_sitters rfl rfl ⟨by decide, by decide⟩ rfl (Nat.le_of_ble_eq_true rfl) dL_1019 e2 ?_
  exact la_eqI C 1060 dL_1022 (by decide) (kk s t hR1)
set_option maxRecDepth 4000 in
theorem la_c26 (C : la_Cx X wm b L xs) (hR : pr_R tx_cmp σx σm) {i : Nat} (hi : i + 6 ≤ L) (kk : ∀ s t, pr_R tx_cmp s t → la_V X wm Q s t 1060 (la_lv X wm b (nI i)) []) : la_V X wm Q σx σm 1027 (la_lv X wm b (nI i)) [] := by
  obtain ⟨r, s, t, e1, e2, hR1⟩ := pr_taken hR (xs (i + 1)) (xs (i + 2))
  refine la_aload_n C 2 dL_1027 rfl rfl ?_
  refine la_arg C (j := 1) rfl (by omega) dL_1028 dL_1029 dL_1030 dL_1031 dL_1032 ?_
  refine la_arg C (j := 2) rfl (by omega) dL_1033 dL_1034 dL_1035 dL_1036 dL_1037 ?_
  refine la_callXI (r := r) (σ' := s) C [.int (xs (i + 1)), .int (xs (i + 2))] (xc_X7_taken C.2.2.1 (xs (i + 1)) (xs (i + 2))) gm_X7_taken gl_Law_124 gi_X7_taken ge_X7_taken rfl rfl ⟨by decide, by decide⟩ rfl (Nat.le_of_ble_eq_true rfl) dL_1038 e1 ?_
  refine la_aload_n C 1 dL_1041 rfl rfl ?_
  refine la_arg C (j := 1) rfl (by omega) dL_1042 dL_1043 dL_1044 dL_1045 dL_1046 ?_
  refine la_arg C (j := 2) rfl (by omega) dL_1047 dL_1048 dL_1049 dL_1050 dL_1051 ?_
  refine la_callMI (r := r) (σ' := t) C [.int (xs (i + 1)), .int (xs (i + 2))] (mc_X8_taken C.2.2.2.1 (xs (i + 1)) (xs (i + 2))) gm_X8_taken gl_Law_127 gi_X8_taken ge_X8_taken rfl rfl ⟨by decide, by decide⟩ rfl (Nat.le_of_ble_eq_true rfl) dL_1052 e2 ?_
  exact la_eqI C 1060 dL_1055 (by decide) (kk s t hR1)
end
