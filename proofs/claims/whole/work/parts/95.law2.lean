/-! THE LAW: its cases -/
section LCASES
variable {l : Launch} {θ : ZT} {b0 L : Nat} {xs : Nat → Int32} {σ τ : ZM}
theorem lw_case_0 (hL : L ≤ 3072) {i : Nat} (hi : i + 6 ≤ L) (hR : zRel σ τ) (g : ∀ σ' τ', zRel σ' τ' → WL l θ b0 L xs σ' τ' (zLv θ b0 i) 1285 []) : WL l θ b0 L xs σ τ (zLv θ b0 i) 184 [] := by
  obtain ⟨r, σ', τ', e1, e2, hR1⟩ := op_loaf hR (xs (i + 1)) (xs (i + 2))
  refine l_aload_n 2 d_law_184 rfl rfl ?_
  refine l_arg (j := 1) (n3 := 3) (n0 := 0) hL hi (by decide) rfl rfl rfl 1 (by decide +kernel) 3 0 rfl rfl d_law_185 d_law_186 d_law_187 d_law_188 d_law_189 rfl ?_
  refine l_arg (j := 2) (n3 := 3) (n0 := 0) hL hi (by decide) rfl rfl rfl 2 (by decide +kernel) 3 0 rfl rfl d_law_190 d_law_191 d_law_192 d_law_193 d_law_194 rfl ?_
  refine l_callB (c_BB_loaf l θ e1) cf_BB_loaf rfl lq_340 d_law_195 rfl rfl (Nat.le_of_ble_eq_true rfl) rfl rfl ⟨Nat.le_of_ble_eq_true rfl, Nat.le_of_ble_eq_true rfl⟩ ?_
  refine l_aload_n 1 d_law_198 rfl rfl ?_
  refine l_arg (j := 1) (n3 := 3) (n0 := 0) hL hi (by decide) rfl rfl rfl 1 (by decide +kernel) 3 0 rfl rfl d_law_199 d_law_200 d_law_201 d_law_202 d_law_203 rfl ?_
  refine l_arg (j := 2) (n3 := 3) (n0 := 0) hL hi (by decide) rfl rfl rfl 2 (by decide +kernel) 3 0 rfl rfl d_law_204 d_law_205 d_law_206 d_law_207 d_law_208 rfl ?_
  refine l_callM (c_Model_loaf l θ e2) cf_Model_loaf rfl lq_1045 d_law_209 rfl rfl (Nat.le_of_ble_eq_true rfl) rfl rfl ⟨Nat.le_of_ble_eq_true rfl, Nat.le_of_ble_eq_true rfl⟩ ?_
  exact l_eq (tgt := 1285) d_law_212 (by decide) (g σ' τ' hR1)
theorem lw_case_1 (hL : L ≤ 3072) {i : Nat} (hi : i + 6 ≤ L) (hR : zRel σ τ) (g : ∀ σ' τ', zRel σ' τ' → WL l θ b0 L xs σ' τ' (zLv θ b0 i) 1285 []) : WL l θ b0 L xs σ τ (zLv θ b0 i) 217 [] := by
  obtain ⟨r, σ', τ', e1, e2, hR1⟩ := op_set hR (xs (i + 1)) (xs (i + 2)) (xs (i + 3)) (xs (i + 4))
  refine l_aload_n 2 d_law_217 rfl rfl ?_
  refine l_arg (j := 1) (n3 := 3) (n0 := 0) hL hi (by decide) rfl rfl rfl 1 (by decide +kernel) 3 0 rfl rfl d_law_218 d_law_219 d_law_220 d_law_221 d_law_222 rfl ?_
  refine l_arg (j := 2) (n3 := 3) (n0 := 0) hL hi (by decide) rfl rfl rfl 2 (by decide +kernel) 3 0 rfl rfl d_law_223 d_law_224 d_law_225 d_law_226 d_law_227 rfl ?_
  refine l_arg (j := 3) (n3 := 3) (n0 := 0) hL hi (by decide) rfl rfl rfl 3 (by decide +kernel) 3 0 rfl rfl d_law_228 d_law_229 d_law_230 d_law_231 d_law_232 rfl ?_
  refine l_arg (j := 4) (n3 := 3) (n0 := 0) hL hi (by decide) rfl rfl rfl 4 (by decide +kernel) 3 0 rfl rfl d_law_233 d_law_234 d_law_235 d_law_236 d_law_237 rfl ?_
  refine l_callB (c_BB_set l θ e1) cf_BB_set rfl lq_348 d_law_238 rfl rfl (Nat.le_of_ble_eq_true rfl) rfl rfl ⟨Nat.le_of_ble_eq_true rfl, Nat.le_of_ble_eq_true rfl⟩ ?_
  refine l_aload_n 1 d_law_241 rfl rfl ?_
  refine l_arg (j := 1) (n3 := 3) (n0 := 0) hL hi (by decide) rfl rfl rfl 1 (by decide +kernel) 3 0 rfl rfl d_law_242 d_law_243 d_law_244 d_law_245 d_law_246 rfl ?_
  refine l_arg (j := 2) (n3 := 3) (n0 := 0) hL hi (by decide) rfl rfl rfl 2 (by decide +kernel) 3 0 rfl rfl d_law_247 d_law_248 d_law_249 d_law_250 d_law_251 rfl ?_
  refine l_arg (j := 3) (n3 := 3) (n0 := 0) hL hi (by decide) rfl rfl rfl 3 (by decide +kernel) 3 0 rfl rfl d_law_252 d_law_253 d_law_254 d_law_255 d_law_256 rfl ?_
  refine l_arg (j := 4) (n3 := 3) (n0 := 0) hL hi (by decide) rfl rfl rfl 4 (by decide +kernel) 3 0 rfl rfl d_law_257 d_law_258 d_law_259 d_law_260 d_law_261 rfl ?_
  refine l_callM (c_Model_set l θ e2) cf_Model_set rfl lq_1049 d_law_262 rfl rfl (Nat.le_of_ble_eq_true rfl) rfl rfl ⟨Nat.le_of_ble_eq_true rfl, Nat.le_of_ble_eq_true rfl⟩ ?_
  exact l_eq (tgt := 1285) d_law_265 (by decide) (g σ' τ' hR1)
theorem lw_case_2 (hL : L ≤ 3072) {i : Nat} (hi : i + 6 ≤ L) (hR : zRel σ τ) (g : ∀ σ' τ', zRel σ' τ' → WL l θ b0 L xs σ' τ' (zLv θ b0 i) 1285 []) : WL l θ b0 L xs σ τ (zLv θ b0 i) 270 [] := by
  obtain ⟨r, σ', τ', e1, e2, hR1⟩ := op_of hR (xs (i + 1)) (xs (i + 2))
  refine l_aload_n 2 d_law_270 rfl rfl ?_
  refine l_arg (j := 1) (n3 := 3) (n0 := 0) hL hi (by decide) rfl rfl rfl 1 (by decide +kernel) 3 0 rfl rfl d_law_271 d_law_272 d_law_273 d_law_274 d_law_275 rfl ?_
  refine l_arg (j := 2) (n3 := 3) (n0 := 0) hL hi (by decide) rfl rfl rfl 2 (by decide +kernel) 3 0 rfl rfl d_law_276 d_law_277 d_law_278 d_law_279 d_law_280 rfl ?_
  refine l_callB (c_BB_of l θ e1) cf_BB_of rfl lq_359 d_law_281 rfl rfl (Nat.le_of_ble_eq_true rfl) rfl rfl ⟨Nat.le_of_ble_eq_true rfl, Nat.le_of_ble_eq_true rfl⟩ ?_
  refine l_aload_n 1 d_law_284 rfl rfl ?_
  refine l_arg (j := 1) (n3 := 3) (n0 := 0) hL hi (by decide) rfl rfl rfl 1 (by decide +kernel) 3 0 rfl rfl d_law_285 d_law_286 d_law_287 d_law_288 d_law_289 rfl ?_
  refine l_arg (j := 2) (n3 := 3) (n0 := 0) hL hi (by decide) rfl rfl rfl 2 (by decide +kernel) 3 0 rfl rfl d_law_290 d_law_291 d_law_292 d_law_293 d_law_294 rfl ?_
  refine l_callM (c_Model_of l θ e2) cf_Model_of rfl lq_1060 d_law_295 rfl rfl (Nat.le_of_ble_eq_true rfl) rfl rfl ⟨Nat.le_of_ble_eq_true rfl, Nat.le_of_ble_eq_true rfl⟩ ?_
  exact l_eq (tgt := 1285) d_law_298 (by decide) (g σ' τ' hR1)
theorem lw_case_3 (hL : L ≤ 3072) {i : Nat} (hi : i + 6 ≤ L) (hR : zRel σ τ) (g : ∀ σ' τ', zRel σ' τ' → WL l θ b0 L xs σ' τ' (zLv θ b0 i) 1285 []) : WL l θ b0 L xs σ τ (zLv θ b0 i) 303 [] := by
  obtain ⟨r, σ', τ', e1, e2, hR1⟩ := op_oven hR (xs (i + 1)) (xs (i + 2))
  refine l_aload_n 2 d_law_303 rfl rfl ?_
  refine l_arg (j := 1) (n3 := 3) (n0 := 0) hL hi (by decide) rfl rfl rfl 1 (by decide +kernel) 3 0 rfl rfl d_law_304 d_law_305 d_law_306 d_law_307 d_law_308 rfl ?_
  refine l_arg (j := 2) (n3 := 3) (n0 := 0) hL hi (by decide) rfl rfl rfl 2 (by decide +kernel) 3 0 rfl rfl d_law_309 d_law_310 d_law_311 d_law_312 d_law_313 rfl ?_
  refine l_callB (c_BB_oven l θ e1) cf_BB_oven rfl lq_413 d_law_314 rfl rfl (Nat.le_of_ble_eq_true rfl) rfl rfl ⟨Nat.le_of_ble_eq_true rfl, Nat.le_of_ble_eq_true rfl⟩ ?_
  refine l_aload_n 1 d_law_317 rfl rfl ?_
  refine l_arg (j := 1) (n3 := 3) (n0 := 0) hL hi (by decide) rfl rfl rfl 1 (by decide +kernel) 3 0 rfl rfl d_law_318 d_law_319 d_law_320 d_law_321 d_law_322 rfl ?_
  refine l_arg (j := 2) (n3 := 3) (n0 := 0) hL hi (by decide) rfl rfl rfl 2 (by decide +kernel) 3 0 rfl rfl d_law_323 d_law_324 d_law_325 d_law_326 d_law_327 rfl ?_
  refine l_callM (c_Model_oven l θ e2) cf_Model_oven rfl lq_1092 d_law_328 rfl rfl (Nat.le_of_ble_eq_true rfl) rfl rfl ⟨Nat.le_of_ble_eq_true rfl, Nat.le_of_ble_eq_true rfl⟩ ?_
  exact l_eq (tgt := 1285) d_law_331 (by decide) (g σ' τ' hR1)
theorem lw_case_4 (hL : L ≤ 3072) {i : Nat} (hi : i + 6 ≤ L) (hR : zRel σ τ) (g : ∀ σ' τ', zRel σ' τ' → WL l θ b0 L xs σ' τ' (zLv θ b0 i) 1285 []) : WL l θ b0 L xs σ τ (zLv θ b0 i) 336 [] := by
  obtain ⟨r, σ', τ', e1, e2, hR1⟩ := op_feed hR (xs (i + 1))
  refine l_aload_n 2 d_law_336 rfl rfl ?_
  refine l_arg (j := 1) (n3 := 3) (n0 := 0) hL hi (by decide) rfl rfl rfl 1 (by decide +kernel) 3 0 rfl rfl d_law_337 d_law_338 d_law_339 d_law_340 d_law_341 rfl ?_
  refine l_callB (c_BB_feed l θ e1) cf_BB_feed rfl lq_417 d_law_342 rfl rfl (Nat.le_of_ble_eq_true rfl) rfl rfl ⟨Nat.le_of_ble_eq_true rfl, Nat.le_of_ble_eq_true rfl⟩ ?_
  refine l_aload_n 1 d_law_345 rfl rfl ?_
  refine l_arg (j := 1) (n3 := 3) (n0 := 0) hL hi (by decide) rfl rfl rfl 1 (by decide +kernel) 3 0 rfl rfl d_law_346 d_law_347 d_law_348 d_law_349 d_law_350 rfl ?_
  refine l_callM (c_Model_feed l θ e2) cf_Model_feed rfl lq_965 d_law_351 rfl rfl (Nat.le_of_ble_eq_true rfl) rfl rfl ⟨Nat.le_of_ble_eq_true rfl, Nat.le_of_ble_eq_true rfl⟩ ?_
  exact l_eq (tgt := 1285) d_law_354 (by decide) (g σ' τ' hR1)
theorem lw_case_5 (hL : L ≤ 3072) {i : Nat} (hi : i + 6 ≤ L) (hR : zRel σ τ) (g : ∀ σ' τ', zRel σ' τ' → WL l θ b0 L xs σ' τ' (zLv θ b0 i) 1285 []) : WL l θ b0 L xs σ τ (zLv θ b0 i) 359 [] := by
  obtain ⟨r, σ', τ', e1, e2, hR1⟩ := op_kiln hR 
  refine l_aload_n 2 d_law_359 rfl rfl ?_
  refine l_callB (c_BB_kiln l θ e1) cf_BB_kiln rfl lq_425 d_law_360 rfl rfl (Nat.le_of_ble_eq_true rfl) rfl rfl ⟨Nat.le_of_ble_eq_true rfl, Nat.le_of_ble_eq_true rfl⟩ ?_
  refine l_aload_n 1 d_law_363 rfl rfl ?_
  refine l_callM (c_Model_kiln l θ e2) cf_Model_kiln rfl lq_972 d_law_364 rfl rfl (Nat.le_of_ble_eq_true rfl) rfl rfl ⟨Nat.le_of_ble_eq_true rfl, Nat.le_of_ble_eq_true rfl⟩ ?_
  exact l_eq (tgt := 1285) d_law_367 (by decide) (g σ' τ' hR1)
theorem lw_case_6 (hL : L ≤ 3072) {i : Nat} (hi : i + 6 ≤ L) (hR : zRel σ τ) (g : ∀ σ' τ', zRel σ' τ' → WL l θ b0 L xs σ' τ' (zLv θ b0 i) 1285 []) : WL l θ b0 L xs σ τ (zLv θ b0 i) 372 [] := by
  obtain ⟨r, σ', τ', e1, e2, hR1⟩ := op_told hR (xs (i + 1))
  refine l_aload_n 2 d_law_372 rfl rfl ?_
  refine l_arg (j := 1) (n3 := 3) (n0 := 0) hL hi (by decide) rfl rfl rfl 1 (by decide +kernel) 3 0 rfl rfl d_law_373 d_law_374 d_law_375 d_law_376 d_law_377 rfl ?_
  refine l_callB (c_BB_told l θ e1) cf_BB_told rfl lq_546 d_law_378 rfl rfl (Nat.le_of_ble_eq_true rfl) rfl rfl ⟨Nat.le_of_ble_eq_true rfl, Nat.le_of_ble_eq_true rfl⟩ ?_
  refine l_aload_n 1 d_law_381 rfl rfl ?_
  refine l_arg (j := 1) (n3 := 3) (n0 := 0) hL hi (by decide) rfl rfl rfl 1 (by decide +kernel) 3 0 rfl rfl d_law_382 d_law_383 d_law_384 d_law_385 d_law_386 rfl ?_
  refine l_callM (c_Model_told l θ e2) cf_Model_told rfl lq_1096 d_law_387 rfl rfl (Nat.le_of_ble_eq_true rfl) rfl rfl ⟨Nat.le_of_ble_eq_true rfl, Nat.le_of_ble_eq_true rfl⟩ ?_
  exact l_eq (tgt := 1285) d_law_390 (by decide) (g σ' τ' hR1)
theorem lw_case_7 (hL : L ≤ 3072) {i : Nat} (hi : i + 6 ≤ L) (hR : zRel σ τ) (g : ∀ σ' τ', zRel σ' τ' → WL l θ b0 L xs σ' τ' (zLv θ b0 i) 1285 []) : WL l θ b0 L xs σ τ (zLv θ b0 i) 395 [] := by
  obtain ⟨r, σ', τ', e1, e2, hR1⟩ := op_bake hR (xs (i + 1))
  refine l_aload_n 2 d_law_395 rfl rfl ?_
  refine l_arg (j := 1) (n3 := 3) (n0 := 0) hL hi (by decide) rfl rfl rfl 1 (by decide +kernel) 3 0 rfl rfl d_law_396 d_law_397 d_law_398 d_law_399 d_law_400 rfl ?_
  refine l_callB (c_BB_bake l θ e1) cf_BB_bake rfl lq_550 d_law_401 rfl rfl (Nat.le_of_ble_eq_true rfl) rfl rfl ⟨Nat.le_of_ble_eq_true rfl, Nat.le_of_ble_eq_true rfl⟩ ?_
  refine l_aload_n 1 d_law_404 rfl rfl ?_
  refine l_arg (j := 1) (n3 := 3) (n0 := 0) hL hi (by decide) rfl rfl rfl 1 (by decide +kernel) 3 0 rfl rfl d_law_405 d_law_406 d_law_407 d_law_408 d_law_409 rfl ?_
  refine l_callM (c_Model_bake l θ e2) cf_Model_bake rfl lq_1100 d_law_410 rfl rfl (Nat.le_of_ble_eq_true rfl) rfl rfl ⟨Nat.le_of_ble_eq_true rfl, Nat.le_of_ble_eq_true rfl⟩ ?_
  exact l_eq (tgt := 1285) d_law_413 (by decide) (g σ' τ' hR1)
theorem lw_case_8 (hL : L ≤ 3072) {i : Nat} (hi : i + 6 ≤ L) (hR : zRel σ τ) (g : ∀ σ' τ', zRel σ' τ' → WL l θ b0 L xs σ' τ' (zLv θ b0 i) 1285 []) : WL l θ b0 L xs σ τ (zLv θ b0 i) 418 [] := by
  obtain ⟨r, σ', τ', e1, e2, hR1⟩ := op_cold hR 
  refine l_aload_n 2 d_law_418 rfl rfl ?_
  refine l_callB (c_BB_cold l θ e1) cf_BB_cold rfl lq_564 d_law_419 rfl rfl (Nat.le_of_ble_eq_true rfl) rfl rfl ⟨Nat.le_of_ble_eq_true rfl, Nat.le_of_ble_eq_true rfl⟩ ?_
  refine l_aload_n 1 d_law_422 rfl rfl ?_
  refine l_callM (c_Model_cold l θ e2) cf_Model_cold rfl lq_1112 d_law_423 rfl rfl (Nat.le_of_ble_eq_true rfl) rfl rfl ⟨Nat.le_of_ble_eq_true rfl, Nat.le_of_ble_eq_true rfl⟩ ?_
  exact l_eq (tgt := 1285) d_law_426 (by decide) (g σ' τ' hR1)
theorem lw_case_9 (hL : L ≤ 3072) {i : Nat} (hi : i + 6 ≤ L) (hR : zRel σ τ) (g : ∀ σ' τ', zRel σ' τ' → WL l θ b0 L xs σ' τ' (zLv θ b0 i) 1285 []) : WL l θ b0 L xs σ τ (zLv θ b0 i) 431 [] := by
  obtain ⟨r, σ', τ', e1, e2, hR1⟩ := op_would hR (xs (i + 1)) (xs (i + 2)) (xs (i + 3))
  refine l_aload_n 2 d_law_431 rfl rfl ?_
  refine l_arg (j := 1) (n3 := 3) (n0 := 0) hL hi (by decide) rfl rfl rfl 1 (by decide +kernel) 3 0 rfl rfl d_law_432 d_law_433 d_law_434 d_law_435 d_law_436 rfl ?_
  refine l_arg (j := 2) (n3 := 3) (n0 := 0) hL hi (by decide) rfl rfl rfl 2 (by decide +kernel) 3 0 rfl rfl d_law_437 d_law_438 d_law_439 d_law_440 d_law_441 rfl ?_
  refine l_arg (j := 3) (n3 := 3) (n0 := 0) hL hi (by decide) rfl rfl rfl 3 (by decide +kernel) 3 0 rfl rfl d_law_442 d_law_443 d_law_444 d_law_445 d_law_446 rfl ?_
  refine l_callB (c_BB_would l θ e1) cf_BB_would rfl lq_572 d_law_447 rfl rfl (Nat.le_of_ble_eq_true rfl) rfl rfl ⟨Nat.le_of_ble_eq_true rfl, Nat.le_of_ble_eq_true rfl⟩ ?_
  refine l_aload_n 1 d_law_450 rfl rfl ?_
  refine l_arg (j := 1) (n3 := 3) (n0 := 0) hL hi (by decide) rfl rfl rfl 1 (by decide +kernel) 3 0 rfl rfl d_law_451 d_law_452 d_law_453 d_law_454 d_law_455 rfl ?_
  refine l_arg (j := 2) (n3 := 3) (n0 := 0) hL hi (by decide) rfl rfl rfl 2 (by decide +kernel) 3 0 rfl rfl d_law_456 d_law_457 d_law_458 d_law_459 d_law_460 rfl ?_
  refine l_arg (j := 3) (n3 := 3) (n0 := 0) hL hi (by decide) rfl rfl rfl 3 (by decide +kernel) 3 0 rfl rfl d_law_461 d_law_462 d_law_463 d_law_464 d_law_465 rfl ?_
  refine l_callM (c_Model_would l θ e2) cf_Model_would rfl lq_1120 d_law_466 rfl rfl (Nat.le_of_ble_eq_true rfl) rfl rfl ⟨Nat.le_of_ble_eq_true rfl, Nat.le_of_ble_eq_true rfl⟩ ?_
  exact l_eq (tgt := 1285) d_law_469 (by decide) (g σ' τ' hR1)
theorem lw_case_10 (hL : L ≤ 3072) {i : Nat} (hi : i + 6 ≤ L) (hR : zRel σ τ) (g : ∀ σ' τ', zRel σ' τ' → WL l θ b0 L xs σ' τ' (zLv θ b0 i) 1285 []) : WL l θ b0 L xs σ τ (zLv θ b0 i) 474 [] := by
  obtain ⟨r, σ', τ', e1, e2, hR1⟩ := op_order hR (xs (i + 1)) (xs (i + 2))
  refine l_aload_n 2 d_law_474 rfl rfl ?_
  refine l_arg (j := 1) (n3 := 3) (n0 := 0) hL hi (by decide) rfl rfl rfl 1 (by decide +kernel) 3 0 rfl rfl d_law_475 d_law_476 d_law_477 d_law_478 d_law_479 rfl ?_
  refine l_arg (j := 2) (n3 := 3) (n0 := 0) hL hi (by decide) rfl rfl rfl 2 (by decide +kernel) 3 0 rfl rfl d_law_480 d_law_481 d_law_482 d_law_483 d_law_484 rfl ?_
  refine l_callB (c_BB_order l θ e1) cf_BB_order rfl lq_588 d_law_485 rfl rfl (Nat.le_of_ble_eq_true rfl) rfl rfl ⟨Nat.le_of_ble_eq_true rfl, Nat.le_of_ble_eq_true rfl⟩ ?_
  refine l_aload_n 1 d_law_488 rfl rfl ?_
  refine l_arg (j := 1) (n3 := 3) (n0 := 0) hL hi (by decide) rfl rfl rfl 1 (by decide +kernel) 3 0 rfl rfl d_law_489 d_law_490 d_law_491 d_law_492 d_law_493 rfl ?_
  refine l_arg (j := 2) (n3 := 3) (n0 := 0) hL hi (by decide) rfl rfl rfl 2 (by decide +kernel) 3 0 rfl rfl d_law_494 d_law_495 d_law_496 d_law_497 d_law_498 rfl ?_
  refine l_callM (c_Model_order l θ e2) cf_Model_order rfl lq_1135 d_law_499 rfl rfl (Nat.le_of_ble_eq_true rfl) rfl rfl ⟨Nat.le_of_ble_eq_true rfl, Nat.le_of_ble_eq_true rfl⟩ ?_
  exact l_eq (tgt := 1285) d_law_502 (by decide) (g σ' τ' hR1)
theorem lw_case_11 (hL : L ≤ 3072) {i : Nat} (hi : i + 6 ≤ L) (hR : zRel σ τ) (g : ∀ σ' τ', zRel σ' τ' → WL l θ b0 L xs σ' τ' (zLv θ b0 i) 1285 []) : WL l θ b0 L xs σ τ (zLv θ b0 i) 507 [] := by
  obtain ⟨r, σ', τ', e1, e2, hR1⟩ := op_colds hR (xs (i + 1)) (xs (i + 2))
  refine l_aload_n 2 d_law_507 rfl rfl ?_
  refine l_arg (j := 1) (n3 := 3) (n0 := 0) hL hi (by decide) rfl rfl rfl 1 (by decide +kernel) 3 0 rfl rfl d_law_508 d_law_509 d_law_510 d_law_511 d_law_512 rfl ?_
  refine l_arg (j := 2) (n3 := 3) (n0 := 0) hL hi (by decide) rfl rfl rfl 2 (by decide +kernel) 3 0 rfl rfl d_law_513 d_law_514 d_law_515 d_law_516 d_law_517 rfl ?_
  refine l_callB (c_BB_colds l θ e1) cf_BB_colds rfl lq_616 d_law_518 rfl rfl (Nat.le_of_ble_eq_true rfl) rfl rfl ⟨Nat.le_of_ble_eq_true rfl, Nat.le_of_ble_eq_true rfl⟩ ?_
  refine l_aload_n 1 d_law_521 rfl rfl ?_
  refine l_arg (j := 1) (n3 := 3) (n0 := 0) hL hi (by decide) rfl rfl rfl 1 (by decide +kernel) 3 0 rfl rfl d_law_522 d_law_523 d_law_524 d_law_525 d_law_526 rfl ?_
  refine l_arg (j := 2) (n3 := 3) (n0 := 0) hL hi (by decide) rfl rfl rfl 2 (by decide +kernel) 3 0 rfl rfl d_law_527 d_law_528 d_law_529 d_law_530 d_law_531 rfl ?_
  refine l_callM (c_Model_colds l θ e2) cf_Model_colds rfl lq_1154 d_law_532 rfl rfl (Nat.le_of_ble_eq_true rfl) rfl rfl ⟨Nat.le_of_ble_eq_true rfl, Nat.le_of_ble_eq_true rfl⟩ ?_
  exact l_eq (tgt := 1285) d_law_535 (by decide) (g σ' τ' hR1)
theorem lw_case_12 (hL : L ≤ 3072) {i : Nat} (hi : i + 6 ≤ L) (hR : zRel σ τ) (g : ∀ σ' τ', zRel σ' τ' → WL l θ b0 L xs σ' τ' (zLv θ b0 i) 1285 []) : WL l θ b0 L xs σ τ (zLv θ b0 i) 540 [] := by
  obtain ⟨r, σ', τ', e1, e2, hR1⟩ := op_place hR (xs (i + 1)) (xs (i + 2))
  refine l_aload_n 2 d_law_540 rfl rfl ?_
  refine l_arg (j := 1) (n3 := 3) (n0 := 0) hL hi (by decide) rfl rfl rfl 1 (by decide +kernel) 3 0 rfl rfl d_law_541 d_law_542 d_law_543 d_law_544 d_law_545 rfl ?_
  refine l_arg (j := 2) (n3 := 3) (n0 := 0) hL hi (by decide) rfl rfl rfl 2 (by decide +kernel) 3 0 rfl rfl d_law_546 d_law_547 d_law_548 d_law_549 d_law_550 rfl ?_
  refine l_callB (c_BB_place l θ e1) cf_BB_place rfl lq_631 d_law_551 rfl rfl (Nat.le_of_ble_eq_true rfl) rfl rfl ⟨Nat.le_of_ble_eq_true rfl, Nat.le_of_ble_eq_true rfl⟩ ?_
  refine l_aload_n 1 d_law_554 rfl rfl ?_
  refine l_arg (j := 1) (n3 := 3) (n0 := 0) hL hi (by decide) rfl rfl rfl 1 (by decide +kernel) 3 0 rfl rfl d_law_555 d_law_556 d_law_557 d_law_558 d_law_559 rfl ?_
  refine l_arg (j := 2) (n3 := 3) (n0 := 0) hL hi (by decide) rfl rfl rfl 2 (by decide +kernel) 3 0 rfl rfl d_law_560 d_law_561 d_law_562 d_law_563 d_law_564 rfl ?_
  refine l_callM (c_Model_place l θ e2) cf_Model_place rfl lq_1165 d_law_565 rfl rfl (Nat.le_of_ble_eq_true rfl) rfl rfl ⟨Nat.le_of_ble_eq_true rfl, Nat.le_of_ble_eq_true rfl⟩ ?_
  exact l_eq (tgt := 1285) d_law_568 (by decide) (g σ' τ' hR1)
theorem lw_case_13 (hL : L ≤ 3072) {i : Nat} (hi : i + 6 ≤ L) (hR : zRel σ τ) (g : ∀ σ' τ', zRel σ' τ' → WL l θ b0 L xs σ' τ' (zLv θ b0 i) 1285 []) : WL l θ b0 L xs σ τ (zLv θ b0 i) 573 [] := by
  obtain ⟨r, σ', τ', e1, e2, hR1⟩ := op_guilty hR (xs (i + 1))
  refine l_aload_n 2 d_law_573 rfl rfl ?_
  refine l_arg (j := 1) (n3 := 3) (n0 := 0) hL hi (by decide) rfl rfl rfl 1 (by decide +kernel) 3 0 rfl rfl d_law_574 d_law_575 d_law_576 d_law_577 d_law_578 rfl ?_
  refine l_callB (c_BB_guilty l θ e1) cf_BB_guilty rfl lq_643 d_law_579 rfl rfl (Nat.le_of_ble_eq_true rfl) rfl rfl ⟨Nat.le_of_ble_eq_true rfl, Nat.le_of_ble_eq_true rfl⟩ ?_
  refine l_aload_n 1 d_law_582 rfl rfl ?_
  refine l_arg (j := 1) (n3 := 3) (n0 := 0) hL hi (by decide) rfl rfl rfl 1 (by decide +kernel) 3 0 rfl rfl d_law_583 d_law_584 d_law_585 d_law_586 d_law_587 rfl ?_
  refine l_callM (c_Model_guilty l θ e2) cf_Model_guilty rfl lq_1177 d_law_588 rfl rfl (Nat.le_of_ble_eq_true rfl) rfl rfl ⟨Nat.le_of_ble_eq_true rfl, Nat.le_of_ble_eq_true rfl⟩ ?_
  exact l_eq (tgt := 1285) d_law_591 (by decide) (g σ' τ' hR1)
theorem lw_case_14 (hL : L ≤ 3072) {i : Nat} (hi : i + 6 ≤ L) (hR : zRel σ τ) (g : ∀ σ' τ', zRel σ' τ' → WL l θ b0 L xs σ' τ' (zLv θ b0 i) 1285 []) : WL l θ b0 L xs σ τ (zLv θ b0 i) 596 [] := by
  obtain ⟨r, σ', τ', e1, e2, hR1⟩ := op_two hR (xs (i + 1))
  refine l_aload_n 2 d_law_596 rfl rfl ?_
  refine l_arg (j := 1) (n3 := 3) (n0 := 0) hL hi (by decide) rfl rfl rfl 1 (by decide +kernel) 3 0 rfl rfl d_law_597 d_law_598 d_law_599 d_law_600 d_law_601 rfl ?_
  refine l_callB (c_BB_two l θ e1) cf_BB_two rfl lq_655 d_law_602 rfl rfl (Nat.le_of_ble_eq_true rfl) rfl rfl ⟨Nat.le_of_ble_eq_true rfl, Nat.le_of_ble_eq_true rfl⟩ ?_
  refine l_aload_n 1 d_law_605 rfl rfl ?_
  refine l_arg (j := 1) (n3 := 3) (n0 := 0) hL hi (by decide) rfl rfl rfl 1 (by decide +kernel) 3 0 rfl rfl d_law_606 d_law_607 d_law_608 d_law_609 d_law_610 rfl ?_
  refine l_callM (c_Model_two l θ e2) cf_Model_two rfl lq_1185 d_law_611 rfl rfl (Nat.le_of_ble_eq_true rfl) rfl rfl ⟨Nat.le_of_ble_eq_true rfl, Nat.le_of_ble_eq_true rfl⟩ ?_
  exact l_eq (tgt := 1285) d_law_614 (by decide) (g σ' τ' hR1)
theorem lw_case_15 (hL : L ≤ 3072) {i : Nat} (hi : i + 6 ≤ L) (hR : zRel σ τ) (g : ∀ σ' τ', zRel σ' τ' → WL l θ b0 L xs σ' τ' (zLv θ b0 i) 1285 []) : WL l θ b0 L xs σ τ (zLv θ b0 i) 619 [] := by
  obtain ⟨r, σ', τ', e1, e2, hR1⟩ := op_has hR (xs (i + 1))
  refine l_aload_n 2 d_law_619 rfl rfl ?_
  refine l_arg (j := 1) (n3 := 3) (n0 := 0) hL hi (by decide) rfl rfl rfl 1 (by decide +kernel) 3 0 rfl rfl d_law_620 d_law_621 d_law_622 d_law_623 d_law_624 rfl ?_
  refine l_callB (c_BB_has l θ e1) cf_BB_has rfl lq_667 d_law_625 rfl rfl (Nat.le_of_ble_eq_true rfl) rfl rfl ⟨Nat.le_of_ble_eq_true rfl, Nat.le_of_ble_eq_true rfl⟩ ?_
  refine l_aload_n 1 d_law_628 rfl rfl ?_
  refine l_arg (j := 1) (n3 := 3) (n0 := 0) hL hi (by decide) rfl rfl rfl 1 (by decide +kernel) 3 0 rfl rfl d_law_629 d_law_630 d_law_631 d_law_632 d_law_633 rfl ?_
  refine l_callM (c_Model_has l θ e2) cf_Model_has rfl lq_1193 d_law_634 rfl rfl (Nat.le_of_ble_eq_true rfl) rfl rfl ⟨Nat.le_of_ble_eq_true rfl, Nat.le_of_ble_eq_true rfl⟩ ?_
  exact l_eq (tgt := 1285) d_law_637 (by decide) (g σ' τ' hR1)
theorem lw_case_16 (hL : L ≤ 3072) {i : Nat} (hi : i + 6 ≤ L) (hR : zRel σ τ) (g : ∀ σ' τ', zRel σ' τ' → WL l θ b0 L xs σ' τ' (zLv θ b0 i) 1285 []) : WL l θ b0 L xs σ τ (zLv θ b0 i) 642 [] := by
  obtain ⟨r, σ', τ', e1, e2, hR1⟩ := op_swaps hR (xs (i + 1))
  refine l_aload_n 2 d_law_642 rfl rfl ?_
  refine l_arg (j := 1) (n3 := 3) (n0 := 0) hL hi (by decide) rfl rfl rfl 1 (by decide +kernel) 3 0 rfl rfl d_law_643 d_law_644 d_law_645 d_law_646 d_law_647 rfl ?_
  refine l_callB (c_BB_swaps l θ e1) cf_BB_swaps rfl lq_681 d_law_648 rfl rfl (Nat.le_of_ble_eq_true rfl) rfl rfl ⟨Nat.le_of_ble_eq_true rfl, Nat.le_of_ble_eq_true rfl⟩ ?_
  refine l_aload_n 1 d_law_651 rfl rfl ?_
  refine l_arg (j := 1) (n3 := 3) (n0 := 0) hL hi (by decide) rfl rfl rfl 1 (by decide +kernel) 3 0 rfl rfl d_law_652 d_law_653 d_law_654 d_law_655 d_law_656 rfl ?_
  refine l_callM (c_Model_swaps l θ e2) cf_Model_swaps rfl lq_1202 d_law_657 rfl rfl (Nat.le_of_ble_eq_true rfl) rfl rfl ⟨Nat.le_of_ble_eq_true rfl, Nat.le_of_ble_eq_true rfl⟩ ?_
  exact l_eq (tgt := 1285) d_law_660 (by decide) (g σ' τ' hR1)
theorem lw_case_17 (hL : L ≤ 3072) {i : Nat} (hi : i + 6 ≤ L) (hR : zRel σ τ) (g : ∀ σ' τ', zRel σ' τ' → WL l θ b0 L xs σ' τ' (zLv θ b0 i) 1285 []) : WL l θ b0 L xs σ τ (zLv θ b0 i) 665 [] := by
  obtain ⟨r, σ', τ', e1, e2, hR1⟩ := op_span hR (xs (i + 1)) (xs (i + 2)) (xs (i + 3)) (xs (i + 4))
  refine l_aload_n 2 d_law_665 rfl rfl ?_
  refine l_arg (j := 1) (n3 := 3) (n0 := 0) hL hi (by decide) rfl rfl rfl 1 (by decide +kernel) 3 0 rfl rfl d_law_666 d_law_667 d_law_668 d_law_669 d_law_670 rfl ?_
  refine l_arg (j := 2) (n3 := 3) (n0 := 0) hL hi (by decide) rfl rfl rfl 2 (by decide +kernel) 3 0 rfl rfl d_law_671 d_law_672 d_law_673 d_law_674 d_law_675 rfl ?_
  refine l_arg (j := 3) (n3 := 3) (n0 := 0) hL hi (by decide) rfl rfl rfl 3 (by decide +kernel) 3 0 rfl rfl d_law_676 d_law_677 d_law_678 d_law_679 d_law_680 rfl ?_
  refine l_arg (j := 4) (n3 := 3) (n0 := 0) hL hi (by decide) rfl rfl rfl 4 (by decide +kernel) 3 0 rfl rfl d_law_681 d_law_682 d_law_683 d_law_684 d_law_685 rfl ?_
  refine l_callB (c_BB_span l θ e1) cf_BB_span rfl lq_693 d_law_686 rfl rfl (Nat.le_of_ble_eq_true rfl) rfl rfl ⟨Nat.le_of_ble_eq_true rfl, Nat.le_of_ble_eq_true rfl⟩ ?_
  refine l_aload_n 1 d_law_689 rfl rfl ?_
  refine l_arg (j := 1) (n3 := 3) (n0 := 0) hL hi (by decide) rfl rfl rfl 1 (by decide +kernel) 3 0 rfl rfl d_law_690 d_law_691 d_law_692 d_law_693 d_law_694 rfl ?_
  refine l_arg (j := 2) (n3 := 3) (n0 := 0) hL hi (by decide) rfl rfl rfl 2 (by decide +kernel) 3 0 rfl rfl d_law_695 d_law_696 d_law_697 d_law_698 d_law_699 rfl ?_
  refine l_arg (j := 3) (n3 := 3) (n0 := 0) hL hi (by decide) rfl rfl rfl 3 (by decide +kernel) 3 0 rfl rfl d_law_700 d_law_701 d_law_702 d_law_703 d_law_704 rfl ?_
  refine l_arg (j := 4) (n3 := 3) (n0 := 0) hL hi (by decide) rfl rfl rfl 4 (by decide +kernel) 3 0 rfl rfl d_law_705 d_law_706 d_law_707 d_law_708 d_law_709 rfl ?_
  refine l_callM (c_Model_span l θ e2) cf_Model_span rfl lq_1210 d_law_710 rfl rfl (Nat.le_of_ble_eq_true rfl) rfl rfl ⟨Nat.le_of_ble_eq_true rfl, Nat.le_of_ble_eq_true rfl⟩ ?_
  exact l_eq (tgt := 1285) d_law_713 (by decide) (g σ' τ' hR1)
theorem lw_case_18 (hL : L ≤ 3072) {i : Nat} (hi : i + 6 ≤ L) (hR : zRel σ τ) (g : ∀ σ' τ', zRel σ' τ' → WL l θ b0 L xs σ' τ' (zLv θ b0 i) 1285 []) : WL l θ b0 L xs σ τ (zLv θ b0 i) 718 [] := by
  obtain ⟨r, σ', τ', e1, e2, hR1⟩ := op_year hR (xs (i + 1)) (xs (i + 2)) (xs (i + 3))
  refine l_aload_n 2 d_law_718 rfl rfl ?_
  refine l_arg (j := 1) (n3 := 3) (n0 := 0) hL hi (by decide) rfl rfl rfl 1 (by decide +kernel) 3 0 rfl rfl d_law_719 d_law_720 d_law_721 d_law_722 d_law_723 rfl ?_
  refine l_arg (j := 2) (n3 := 3) (n0 := 0) hL hi (by decide) rfl rfl rfl 2 (by decide +kernel) 3 0 rfl rfl d_law_724 d_law_725 d_law_726 d_law_727 d_law_728 rfl ?_
  refine l_arg (j := 3) (n3 := 3) (n0 := 0) hL hi (by decide) rfl rfl rfl 3 (by decide +kernel) 3 0 rfl rfl d_law_729 d_law_730 d_law_731 d_law_732 d_law_733 rfl ?_
  refine l_callB (c_BB_year l θ e1) cf_BB_year rfl lq_706 d_law_734 rfl rfl (Nat.le_of_ble_eq_true rfl) rfl rfl ⟨Nat.le_of_ble_eq_true rfl, Nat.le_of_ble_eq_true rfl⟩ ?_
  refine l_aload_n 1 d_law_737 rfl rfl ?_
  refine l_arg (j := 1) (n3 := 3) (n0 := 0) hL hi (by decide) rfl rfl rfl 1 (by decide +kernel) 3 0 rfl rfl d_law_738 d_law_739 d_law_740 d_law_741 d_law_742 rfl ?_
  refine l_arg (j := 2) (n3 := 3) (n0 := 0) hL hi (by decide) rfl rfl rfl 2 (by decide +kernel) 3 0 rfl rfl d_law_743 d_law_744 d_law_745 d_law_746 d_law_747 rfl ?_
  refine l_arg (j := 3) (n3 := 3) (n0 := 0) hL hi (by decide) rfl rfl rfl 3 (by decide +kernel) 3 0 rfl rfl d_law_748 d_law_749 d_law_750 d_law_751 d_law_752 rfl ?_
  refine l_callM (c_Model_year l θ e2) cf_Model_year rfl lq_1214 d_law_753 rfl rfl (Nat.le_of_ble_eq_true rfl) rfl rfl ⟨Nat.le_of_ble_eq_true rfl, Nat.le_of_ble_eq_true rfl⟩ ?_
  exact l_eq (tgt := 1285) d_law_756 (by decide) (g σ' τ' hR1)
theorem lw_case_19 (hL : L ≤ 3072) {i : Nat} (hi : i + 6 ≤ L) (hR : zRel σ τ) (g : ∀ σ' τ', zRel σ' τ' → WL l θ b0 L xs σ' τ' (zLv θ b0 i) 1285 []) : WL l θ b0 L xs σ τ (zLv θ b0 i) 761 [] := by
  obtain ⟨r, σ', τ', e1, e2, hR1⟩ := op_odds hR (xs (i + 1)) (xs (i + 2))
  refine l_aload_n 2 d_law_761 rfl rfl ?_
  refine l_arg (j := 1) (n3 := 3) (n0 := 0) hL hi (by decide) rfl rfl rfl 1 (by decide +kernel) 3 0 rfl rfl d_law_762 d_law_763 d_law_764 d_law_765 d_law_766 rfl ?_
  refine l_arg (j := 2) (n3 := 3) (n0 := 0) hL hi (by decide) rfl rfl rfl 2 (by decide +kernel) 3 0 rfl rfl d_law_767 d_law_768 d_law_769 d_law_770 d_law_771 rfl ?_
  refine l_callB (c_BB_odds l θ e1) cf_BB_odds rfl lq_717 d_law_772 rfl rfl (Nat.le_of_ble_eq_true rfl) rfl rfl ⟨Nat.le_of_ble_eq_true rfl, Nat.le_of_ble_eq_true rfl⟩ ?_
  refine l_aload_n 1 d_law_775 rfl rfl ?_
  refine l_arg (j := 1) (n3 := 3) (n0 := 0) hL hi (by decide) rfl rfl rfl 1 (by decide +kernel) 3 0 rfl rfl d_law_776 d_law_777 d_law_778 d_law_779 d_law_780 rfl ?_
  refine l_arg (j := 2) (n3 := 3) (n0 := 0) hL hi (by decide) rfl rfl rfl 2 (by decide +kernel) 3 0 rfl rfl d_law_781 d_law_782 d_law_783 d_law_784 d_law_785 rfl ?_
  refine l_callM (c_Model_odds l θ e2) cf_Model_odds rfl lq_1220 d_law_786 rfl rfl (Nat.le_of_ble_eq_true rfl) rfl rfl ⟨Nat.le_of_ble_eq_true rfl, Nat.le_of_ble_eq_true rfl⟩ ?_
  exact l_leq (tgt := 1285) d_law_789 d_law_790 (by decide) (g σ' τ' hR1)
theorem lw_case_20 (hL : L ≤ 3072) {i : Nat} (hi : i + 6 ≤ L) (hR : zRel σ τ) (g : ∀ σ' τ', zRel σ' τ' → WL l θ b0 L xs σ' τ' (zLv θ b0 i) 1285 []) : WL l θ b0 L xs σ τ (zLv θ b0 i) 795 [] := by
  obtain ⟨r, σ', τ', e1, e2, hR1⟩ := op_mean hR (xs (i + 1)) (xs (i + 2))
  refine l_aload_n 2 d_law_795 rfl rfl ?_
  refine l_arg (j := 1) (n3 := 3) (n0 := 0) hL hi (by decide) rfl rfl rfl 1 (by decide +kernel) 3 0 rfl rfl d_law_796 d_law_797 d_law_798 d_law_799 d_law_800 rfl ?_
  refine l_arg (j := 2) (n3 := 3) (n0 := 0) hL hi (by decide) rfl rfl rfl 2 (by decide +kernel) 3 0 rfl rfl d_law_801 d_law_802 d_law_803 d_law_804 d_law_805 rfl ?_
  refine l_callB (c_BB_mean l θ e1) cf_BB_mean rfl lq_730 d_law_806 rfl rfl (Nat.le_of_ble_eq_true rfl) rfl rfl ⟨Nat.le_of_ble_eq_true rfl, Nat.le_of_ble_eq_true rfl⟩ ?_
  refine l_aload_n 1 d_law_809 rfl rfl ?_
  refine l_arg (j := 1) (n3 := 3) (n0 := 0) hL hi (by decide) rfl rfl rfl 1 (by decide +kernel) 3 0 rfl rfl d_law_810 d_law_811 d_law_812 d_law_813 d_law_814 rfl ?_
  refine l_arg (j := 2) (n3 := 3) (n0 := 0) hL hi (by decide) rfl rfl rfl 2 (by decide +kernel) 3 0 rfl rfl d_law_815 d_law_816 d_law_817 d_law_818 d_law_819 rfl ?_
  refine l_callM (c_Model_mean l θ e2) cf_Model_mean rfl lq_1231 d_law_820 rfl rfl (Nat.le_of_ble_eq_true rfl) rfl rfl ⟨Nat.le_of_ble_eq_true rfl, Nat.le_of_ble_eq_true rfl⟩ ?_
  exact l_leq (tgt := 1285) d_law_823 d_law_824 (by decide) (g σ' τ' hR1)
theorem lw_case_21 (hL : L ≤ 3072) {i : Nat} (hi : i + 6 ≤ L) (hR : zRel σ τ) (g : ∀ σ' τ', zRel σ' τ' → WL l θ b0 L xs σ' τ' (zLv θ b0 i) 1285 []) : WL l θ b0 L xs σ τ (zLv θ b0 i) 829 [] := by
  refine l_aload_n 2 d_law_829 rfl rfl ?_
  refine l_arg (j := 1) (n3 := 3) (n0 := 0) hL hi (by decide) rfl rfl rfl 1 (by decide +kernel) 3 0 rfl rfl d_law_830 d_law_831 d_law_832 d_law_833 d_law_834 rfl ?_
  refine l_arg (j := 2) (n3 := 3) (n0 := 0) hL hi (by decide) rfl rfl rfl 2 (by decide +kernel) 3 0 rfl rfl d_law_835 d_law_836 d_law_837 d_law_838 d_law_839 rfl ?_
  refine l_if0 (tgt := 847) d_law_840 (by decide) (fun hx => ?_) (fun hx => ?_)
  · obtain ⟨r, σ', τ', e1, e2, hR1⟩ := op_book hR (xs (i + 1)) 0 rfl
    refine l_iconst (v := 0) d_law_847 (by decide +kernel) ?_
    refine l_callB (c_BB_book l θ e1) cf_BB_book rfl lq_738 d_law_848 rfl rfl (Nat.le_of_ble_eq_true rfl) rfl rfl ⟨Nat.le_of_ble_eq_true rfl, Nat.le_of_ble_eq_true rfl⟩ ?_
    refine l_aload_n 1 d_law_851 rfl rfl ?_
    refine l_arg (j := 1) (n3 := 3) (n0 := 0) hL hi (by decide) rfl rfl rfl 1 (by decide +kernel) 3 0 rfl rfl d_law_852 d_law_853 d_law_854 d_law_855 d_law_856 rfl ?_
    refine l_arg (j := 2) (n3 := 3) (n0 := 0) hL hi (by decide) rfl rfl rfl 2 (by decide +kernel) 3 0 rfl rfl d_law_857 d_law_858 d_law_859 d_law_860 d_law_861 rfl ?_
    refine l_if0 (tgt := 869) d_law_862 (by decide) (fun _ => ?_) (fun h => absurd hx h)
    refine l_iconst (v := 0) d_law_869 (by decide +kernel) ?_
    refine l_callM (c_Model_book l θ e2) cf_Model_book rfl lq_1235 d_law_870 rfl rfl (Nat.le_of_ble_eq_true rfl) rfl rfl ⟨Nat.le_of_ble_eq_true rfl, Nat.le_of_ble_eq_true rfl⟩ ?_
    exact l_eq (tgt := 1285) d_law_873 (by decide) (g σ' τ' hR1)
  · obtain ⟨r, σ', τ', e1, e2, hR1⟩ := op_book hR (xs (i + 1)) 1 rfl
    refine l_iconst (v := 1) d_law_843 (by decide +kernel) ?_
    refine l_goto (tgt := 848) d_law_844 (by decide) ?_
    refine l_callB (c_BB_book l θ e1) cf_BB_book rfl lq_738 d_law_848 rfl rfl (Nat.le_of_ble_eq_true rfl) rfl rfl ⟨Nat.le_of_ble_eq_true rfl, Nat.le_of_ble_eq_true rfl⟩ ?_
    refine l_aload_n 1 d_law_851 rfl rfl ?_
    refine l_arg (j := 1) (n3 := 3) (n0 := 0) hL hi (by decide) rfl rfl rfl 1 (by decide +kernel) 3 0 rfl rfl d_law_852 d_law_853 d_law_854 d_law_855 d_law_856 rfl ?_
    refine l_arg (j := 2) (n3 := 3) (n0 := 0) hL hi (by decide) rfl rfl rfl 2 (by decide +kernel) 3 0 rfl rfl d_law_857 d_law_858 d_law_859 d_law_860 d_law_861 rfl ?_
    refine l_if0 (tgt := 869) d_law_862 (by decide) (fun h => absurd h hx) (fun _ => ?_)
    refine l_iconst (v := 1) d_law_865 (by decide +kernel) ?_
    refine l_goto (tgt := 870) d_law_866 (by decide) ?_
    refine l_callM (c_Model_book l θ e2) cf_Model_book rfl lq_1235 d_law_870 rfl rfl (Nat.le_of_ble_eq_true rfl) rfl rfl ⟨Nat.le_of_ble_eq_true rfl, Nat.le_of_ble_eq_true rfl⟩ ?_
    exact l_eq (tgt := 1285) d_law_873 (by decide) (g σ' τ' hR1)
theorem lw_case_22 (hL : L ≤ 3072) {i : Nat} (hi : i + 6 ≤ L) (hR : zRel σ τ) (g : ∀ σ' τ', zRel σ' τ' → WL l θ b0 L xs σ' τ' (zLv θ b0 i) 1285 []) : WL l θ b0 L xs σ τ (zLv θ b0 i) 878 [] := by
  obtain ⟨r, σ', τ', e1, e2, hR1⟩ := op_looked hR 
  refine l_aload_n 2 d_law_878 rfl rfl ?_
  refine l_callB (c_BB_looked l θ e1) cf_BB_looked rfl lq_746 d_law_879 rfl rfl (Nat.le_of_ble_eq_true rfl) rfl rfl ⟨Nat.le_of_ble_eq_true rfl, Nat.le_of_ble_eq_true rfl⟩ ?_
  refine l_aload_n 1 d_law_882 rfl rfl ?_
  refine l_callM (c_Model_looked l θ e2) cf_Model_looked rfl lq_1239 d_law_883 rfl rfl (Nat.le_of_ble_eq_true rfl) rfl rfl ⟨Nat.le_of_ble_eq_true rfl, Nat.le_of_ble_eq_true rfl⟩ ?_
  exact l_eq (tgt := 1285) d_law_886 (by decide) (g σ' τ' hR1)
theorem lw_case_23 (hL : L ≤ 3072) {i : Nat} (hi : i + 6 ≤ L) (hR : zRel σ τ) (g : ∀ σ' τ', zRel σ' τ' → WL l θ b0 L xs σ' τ' (zLv θ b0 i) 1285 []) : WL l θ b0 L xs σ τ (zLv θ b0 i) 891 [] := by
  obtain ⟨r, σ', τ', e1, e2, hR1⟩ := op_judge hR (xs (i + 1)) (xs (i + 2))
  refine l_aload_n 2 d_law_891 rfl rfl ?_
  refine l_arg (j := 1) (n3 := 3) (n0 := 0) hL hi (by decide) rfl rfl rfl 1 (by decide +kernel) 3 0 rfl rfl d_law_892 d_law_893 d_law_894 d_law_895 d_law_896 rfl ?_
  refine l_arg (j := 2) (n3 := 3) (n0 := 0) hL hi (by decide) rfl rfl rfl 2 (by decide +kernel) 3 0 rfl rfl d_law_897 d_law_898 d_law_899 d_law_900 d_law_901 rfl ?_
  refine l_callB (c_BB_judge l θ e1) cf_BB_judge rfl lq_754 d_law_902 rfl rfl (Nat.le_of_ble_eq_true rfl) rfl rfl ⟨Nat.le_of_ble_eq_true rfl, Nat.le_of_ble_eq_true rfl⟩ ?_
  refine l_aload_n 1 d_law_905 rfl rfl ?_
  refine l_arg (j := 1) (n3 := 3) (n0 := 0) hL hi (by decide) rfl rfl rfl 1 (by decide +kernel) 3 0 rfl rfl d_law_906 d_law_907 d_law_908 d_law_909 d_law_910 rfl ?_
  refine l_arg (j := 2) (n3 := 3) (n0 := 0) hL hi (by decide) rfl rfl rfl 2 (by decide +kernel) 3 0 rfl rfl d_law_911 d_law_912 d_law_913 d_law_914 d_law_915 rfl ?_
  refine l_callM (c_Model_judge l θ e2) cf_Model_judge rfl lq_1247 d_law_916 rfl rfl (Nat.le_of_ble_eq_true rfl) rfl rfl ⟨Nat.le_of_ble_eq_true rfl, Nat.le_of_ble_eq_true rfl⟩ ?_
  exact l_eq (tgt := 1285) d_law_919 (by decide) (g σ' τ' hR1)
theorem lw_case_24 (hL : L ≤ 3072) {i : Nat} (hi : i + 6 ≤ L) (hR : zRel σ τ) (g : ∀ σ' τ', zRel σ' τ' → WL l θ b0 L xs σ' τ' (zLv θ b0 i) 1285 []) : WL l θ b0 L xs σ τ (zLv θ b0 i) 924 [] := by
  obtain ⟨r, σ', τ', e1, e2, hR1⟩ := op_image hR 
  refine l_aload_n 2 d_law_924 rfl rfl ?_
  refine l_callB (c_BB_image l θ e1) cf_BB_image rfl lq_765 d_law_925 rfl rfl (Nat.le_of_ble_eq_true rfl) rfl rfl ⟨Nat.le_of_ble_eq_true rfl, Nat.le_of_ble_eq_true rfl⟩ ?_
  refine l_aload_n 1 d_law_928 rfl rfl ?_
  refine l_callM (c_Model_image l θ e2) cf_Model_image rfl lq_1254 d_law_929 rfl rfl (Nat.le_of_ble_eq_true rfl) rfl rfl ⟨Nat.le_of_ble_eq_true rfl, Nat.le_of_ble_eq_true rfl⟩ ?_
  exact l_eq (tgt := 1285) d_law_932 (by decide) (g σ' τ' hR1)
theorem lw_case_25 (hL : L ≤ 3072) {i : Nat} (hi : i + 6 ≤ L) (hR : zRel σ τ) (g : ∀ σ' τ', zRel σ' τ' → WL l θ b0 L xs σ' τ' (zLv θ b0 i) 1285 []) : WL l θ b0 L xs σ τ (zLv θ b0 i) 937 [] := by
  obtain ⟨r, σ', τ', e1, e2, hR1⟩ := op_undo hR 
  refine l_aload_n 2 d_law_937 rfl rfl ?_
  refine l_callB (c_BB_undo l θ e1) cf_BB_undo rfl lq_782 d_law_938 rfl rfl (Nat.le_of_ble_eq_true rfl) rfl rfl ⟨Nat.le_of_ble_eq_true rfl, Nat.le_of_ble_eq_true rfl⟩ ?_
  refine l_aload_n 1 d_law_941 rfl rfl ?_
  refine l_callM (c_Model_undo l θ e2) cf_Model_undo rfl lq_1258 d_law_942 rfl rfl (Nat.le_of_ble_eq_true rfl) rfl rfl ⟨Nat.le_of_ble_eq_true rfl, Nat.le_of_ble_eq_true rfl⟩ ?_
  exact l_eq (tgt := 1285) d_law_945 (by decide) (g σ' τ' hR1)
theorem lw_case_26 (hL : L ≤ 3072) {i : Nat} (hi : i + 6 ≤ L) (hR : zRel σ τ) (g : ∀ σ' τ', zRel σ' τ' → WL l θ b0 L xs σ' τ' (zLv θ b0 i) 1285 []) : WL l θ b0 L xs σ τ (zLv θ b0 i) 950 [] := by
  obtain ⟨r, σ', τ', e1, e2, hR1⟩ := op_act hR (xs (i + 1)) (xs (i + 2)) (xs (i + 3))
  refine l_aload_n 2 d_law_950 rfl rfl ?_
  refine l_arg (j := 1) (n3 := 3) (n0 := 0) hL hi (by decide) rfl rfl rfl 1 (by decide +kernel) 3 0 rfl rfl d_law_951 d_law_952 d_law_953 d_law_954 d_law_955 rfl ?_
  refine l_arg (j := 2) (n3 := 3) (n0 := 0) hL hi (by decide) rfl rfl rfl 2 (by decide +kernel) 3 0 rfl rfl d_law_956 d_law_957 d_law_958 d_law_959 d_law_960 rfl ?_
  refine l_arg (j := 3) (n3 := 3) (n0 := 0) hL hi (by decide) rfl rfl rfl 3 (by decide +kernel) 3 0 rfl rfl d_law_961 d_law_962 d_law_963 d_law_964 d_law_965 rfl ?_
  refine l_callB (c_BB_act l θ e1) cf_BB_act rfl lq_786 d_law_966 rfl rfl (Nat.le_of_ble_eq_true rfl) rfl rfl ⟨Nat.le_of_ble_eq_true rfl, Nat.le_of_ble_eq_true rfl⟩ ?_
  refine l_aload_n 1 d_law_969 rfl rfl ?_
  refine l_arg (j := 1) (n3 := 3) (n0 := 0) hL hi (by decide) rfl rfl rfl 1 (by decide +kernel) 3 0 rfl rfl d_law_970 d_law_971 d_law_972 d_law_973 d_law_974 rfl ?_
  refine l_arg (j := 2) (n3 := 3) (n0 := 0) hL hi (by decide) rfl rfl rfl 2 (by decide +kernel) 3 0 rfl rfl d_law_975 d_law_976 d_law_977 d_law_978 d_law_979 rfl ?_
  refine l_arg (j := 3) (n3 := 3) (n0 := 0) hL hi (by decide) rfl rfl rfl 3 (by decide +kernel) 3 0 rfl rfl d_law_980 d_law_981 d_law_982 d_law_983 d_law_984 rfl ?_
  refine l_callM (c_Model_act l θ e2) cf_Model_act rfl lq_1262 d_law_985 rfl rfl (Nat.le_of_ble_eq_true rfl) rfl rfl ⟨Nat.le_of_ble_eq_true rfl, Nat.le_of_ble_eq_true rfl⟩ ?_
  exact l_eq (tgt := 1285) d_law_988 (by decide) (g σ' τ' hR1)
theorem lw_case_27 (hL : L ≤ 3072) {i : Nat} (hi : i + 6 ≤ L) (hR : zRel σ τ) (g : ∀ σ' τ', zRel σ' τ' → WL l θ b0 L xs σ' τ' (zLv θ b0 i) 1285 []) : WL l θ b0 L xs σ τ (zLv θ b0 i) 993 [] := by
  obtain ⟨r, σ', τ', e1, e2, hR1⟩ := op_trace hR (xs (i + 1))
  refine l_aload_n 2 d_law_993 rfl rfl ?_
  refine l_arg (j := 1) (n3 := 3) (n0 := 0) hL hi (by decide) rfl rfl rfl 1 (by decide +kernel) 3 0 rfl rfl d_law_994 d_law_995 d_law_996 d_law_997 d_law_998 rfl ?_
  refine l_callB (c_BB_trace l θ e1) cf_BB_trace rfl lq_809 d_law_999 rfl rfl (Nat.le_of_ble_eq_true rfl) rfl rfl ⟨Nat.le_of_ble_eq_true rfl, Nat.le_of_ble_eq_true rfl⟩ ?_
  refine l_aload_n 1 d_law_1002 rfl rfl ?_
  refine l_arg (j := 1) (n3 := 3) (n0 := 0) hL hi (by decide) rfl rfl rfl 1 (by decide +kernel) 3 0 rfl rfl d_law_1003 d_law_1004 d_law_1005 d_law_1006 d_law_1007 rfl ?_
  refine l_callM (c_Model_trace l θ e2) cf_Model_trace rfl lq_1282 d_law_1008 rfl rfl (Nat.le_of_ble_eq_true rfl) rfl rfl ⟨Nat.le_of_ble_eq_true rfl, Nat.le_of_ble_eq_true rfl⟩ ?_
  exact l_eq (tgt := 1285) d_law_1011 (by decide) (g σ' τ' hR1)
theorem lw_case_28 (hL : L ≤ 3072) {i : Nat} (hi : i + 6 ≤ L) (hR : zRel σ τ) (g : ∀ σ' τ', zRel σ' τ' → WL l θ b0 L xs σ' τ' (zLv θ b0 i) 1285 []) : WL l θ b0 L xs σ τ (zLv θ b0 i) 1016 [] := by
  obtain ⟨r, σ', τ', e1, e2, hR1⟩ := op_taken hR (xs (i + 1)) (xs (i + 2))
  refine l_aload_n 2 d_law_1016 rfl rfl ?_
  refine l_arg (j := 1) (n3 := 3) (n0 := 0) hL hi (by decide) rfl rfl rfl 1 (by decide +kernel) 3 0 rfl rfl d_law_1017 d_law_1018 d_law_1019 d_law_1020 d_law_1021 rfl ?_
  refine l_arg (j := 2) (n3 := 3) (n0 := 0) hL hi (by decide) rfl rfl rfl 2 (by decide +kernel) 3 0 rfl rfl d_law_1022 d_law_1023 d_law_1024 d_law_1025 d_law_1026 rfl ?_
  refine l_callB (c_BB_taken l θ e1) cf_BB_taken rfl lq_813 d_law_1027 rfl rfl (Nat.le_of_ble_eq_true rfl) rfl rfl ⟨Nat.le_of_ble_eq_true rfl, Nat.le_of_ble_eq_true rfl⟩ ?_
  refine l_aload_n 1 d_law_1030 rfl rfl ?_
  refine l_arg (j := 1) (n3 := 3) (n0 := 0) hL hi (by decide) rfl rfl rfl 1 (by decide +kernel) 3 0 rfl rfl d_law_1031 d_law_1032 d_law_1033 d_law_1034 d_law_1035 rfl ?_
  refine l_arg (j := 2) (n3 := 3) (n0 := 0) hL hi (by decide) rfl rfl rfl 2 (by decide +kernel) 3 0 rfl rfl d_law_1036 d_law_1037 d_law_1038 d_law_1039 d_law_1040 rfl ?_
  refine l_callM (c_Model_taken l θ e2) cf_Model_taken rfl lq_1286 d_law_1041 rfl rfl (Nat.le_of_ble_eq_true rfl) rfl rfl ⟨Nat.le_of_ble_eq_true rfl, Nat.le_of_ble_eq_true rfl⟩ ?_
  exact l_eq (tgt := 1285) d_law_1044 (by decide) (g σ' τ' hR1)
theorem lw_case_29 (hL : L ≤ 3072) {i : Nat} (hi : i + 6 ≤ L) (hR : zRel σ τ) (g : ∀ σ' τ', zRel σ' τ' → WL l θ b0 L xs σ' τ' (zLv θ b0 i) 1285 []) : WL l θ b0 L xs σ τ (zLv θ b0 i) 1049 [] := by
  obtain ⟨r, σ', τ', e1, e2, hR1⟩ := op_count hR (xs (i + 1))
  refine l_aload_n 2 d_law_1049 rfl rfl ?_
  refine l_arg (j := 1) (n3 := 3) (n0 := 0) hL hi (by decide) rfl rfl rfl 1 (by decide +kernel) 3 0 rfl rfl d_law_1050 d_law_1051 d_law_1052 d_law_1053 d_law_1054 rfl ?_
  refine l_callB (c_BB_count l θ e1) cf_BB_count rfl lq_822 d_law_1055 rfl rfl (Nat.le_of_ble_eq_true rfl) rfl rfl ⟨Nat.le_of_ble_eq_true rfl, Nat.le_of_ble_eq_true rfl⟩ ?_
  refine l_aload_n 1 d_law_1058 rfl rfl ?_
  refine l_arg (j := 1) (n3 := 3) (n0 := 0) hL hi (by decide) rfl rfl rfl 1 (by decide +kernel) 3 0 rfl rfl d_law_1059 d_law_1060 d_law_1061 d_law_1062 d_law_1063 rfl ?_
  refine l_callM (c_Model_count l θ e2) cf_Model_count rfl lq_1293 d_law_1064 rfl rfl (Nat.le_of_ble_eq_true rfl) rfl rfl ⟨Nat.le_of_ble_eq_true rfl, Nat.le_of_ble_eq_true rfl⟩ ?_
  exact l_eq (tgt := 1285) d_law_1067 (by decide) (g σ' τ' hR1)
theorem lw_case_30 (hL : L ≤ 3072) {i : Nat} (hi : i + 6 ≤ L) (hR : zRel σ τ) (g : ∀ σ' τ', zRel σ' τ' → WL l θ b0 L xs σ' τ' (zLv θ b0 i) 1285 []) : WL l θ b0 L xs σ τ (zLv θ b0 i) 1072 [] := by
  obtain ⟨r, σ', τ', e1, e2, hR1⟩ := op_tape hR (xs (i + 1)) (xs (i + 2)) (xs (i + 3))
  refine l_aload_n 2 d_law_1072 rfl rfl ?_
  refine l_arg (j := 1) (n3 := 3) (n0 := 0) hL hi (by decide) rfl rfl rfl 1 (by decide +kernel) 3 0 rfl rfl d_law_1073 d_law_1074 d_law_1075 d_law_1076 d_law_1077 rfl ?_
  refine l_arg (j := 2) (n3 := 3) (n0 := 0) hL hi (by decide) rfl rfl rfl 2 (by decide +kernel) 3 0 rfl rfl d_law_1078 d_law_1079 d_law_1080 d_law_1081 d_law_1082 rfl ?_
  refine l_arg (j := 3) (n3 := 3) (n0 := 0) hL hi (by decide) rfl rfl rfl 3 (by decide +kernel) 3 0 rfl rfl d_law_1083 d_law_1084 d_law_1085 d_law_1086 d_law_1087 rfl ?_
  refine l_callB (c_BB_tape l θ e1) cf_BB_tape rfl lq_826 d_law_1088 rfl rfl (Nat.le_of_ble_eq_true rfl) rfl rfl ⟨Nat.le_of_ble_eq_true rfl, Nat.le_of_ble_eq_true rfl⟩ ?_
  refine l_aload_n 1 d_law_1091 rfl rfl ?_
  refine l_arg (j := 1) (n3 := 3) (n0 := 0) hL hi (by decide) rfl rfl rfl 1 (by decide +kernel) 3 0 rfl rfl d_law_1092 d_law_1093 d_law_1094 d_law_1095 d_law_1096 rfl ?_
  refine l_arg (j := 2) (n3 := 3) (n0 := 0) hL hi (by decide) rfl rfl rfl 2 (by decide +kernel) 3 0 rfl rfl d_law_1097 d_law_1098 d_law_1099 d_law_1100 d_law_1101 rfl ?_
  refine l_arg (j := 3) (n3 := 3) (n0 := 0) hL hi (by decide) rfl rfl rfl 3 (by decide +kernel) 3 0 rfl rfl d_law_1102 d_law_1103 d_law_1104 d_law_1105 d_law_1106 rfl ?_
  refine l_callM (c_Model_tape l θ e2) cf_Model_tape rfl lq_1297 d_law_1107 rfl rfl (Nat.le_of_ble_eq_true rfl) rfl rfl ⟨Nat.le_of_ble_eq_true rfl, Nat.le_of_ble_eq_true rfl⟩ ?_
  exact l_eq (tgt := 1285) d_law_1110 (by decide) (g σ' τ' hR1)
theorem lw_case_31 (hL : L ≤ 3072) {i : Nat} (hi : i + 6 ≤ L) (hR : zRel σ τ) (g : ∀ σ' τ', zRel σ' τ' → WL l θ b0 L xs σ' τ' (zLv θ b0 i) 1285 []) : WL l θ b0 L xs σ τ (zLv θ b0 i) 1115 [] := by
  obtain ⟨r, σ', τ', e1, e2, hR1⟩ := op_item hR (xs (i + 1)) (xs (i + 2)) ((((xs (i + 3))).toInt64 <<< ((32 : Int32).toInt64 &&& 63)) ||| (((xs (i + 4))).toInt64 &&& 4294967295))
  refine l_aload_n 2 d_law_1115 rfl rfl ?_
  refine l_arg (j := 1) (n3 := 3) (n0 := 0) hL hi (by decide) rfl rfl rfl 1 (by decide +kernel) 3 0 rfl rfl d_law_1116 d_law_1117 d_law_1118 d_law_1119 d_law_1120 rfl ?_
  refine l_arg (j := 2) (n3 := 3) (n0 := 0) hL hi (by decide) rfl rfl rfl 2 (by decide +kernel) 3 0 rfl rfl d_law_1121 d_law_1122 d_law_1123 d_law_1124 d_law_1125 rfl ?_
  refine l_arg (j := 3) (n3 := 3) (n0 := 0) hL hi (by decide) rfl rfl rfl 3 (by decide +kernel) 3 0 rfl rfl d_law_1126 d_law_1127 d_law_1128 d_law_1129 d_law_1130 rfl ?_
  refine l_i2l d_law_1131 rfl ?_
  refine l_bipush (v := 32) d_law_1132 (by decide +kernel) ?_
  refine l_lshl d_law_1134 rfl ?_
  refine l_arg (j := 4) (n3 := 3) (n0 := 0) hL hi (by decide) rfl rfl rfl 4 (by decide +kernel) 3 0 rfl rfl d_law_1135 d_law_1136 d_law_1137 d_law_1138 d_law_1139 rfl ?_
  refine l_i2l d_law_1140 rfl ?_
  refine l_ldc2 d_law_1141 lq_1316 ?_
  refine l_land d_law_1144 ?_
  refine l_lor d_law_1145 ?_
  refine l_callB (c_BB_item l θ e1) cf_BB_item rfl lq_834 d_law_1146 rfl rfl (Nat.le_of_ble_eq_true rfl) rfl rfl ⟨Nat.le_of_ble_eq_true rfl, Nat.le_of_ble_eq_true rfl⟩ ?_
  refine l_aload_n 1 d_law_1149 rfl rfl ?_
  refine l_arg (j := 1) (n3 := 3) (n0 := 0) hL hi (by decide) rfl rfl rfl 1 (by decide +kernel) 3 0 rfl rfl d_law_1150 d_law_1151 d_law_1152 d_law_1153 d_law_1154 rfl ?_
  refine l_arg (j := 2) (n3 := 3) (n0 := 0) hL hi (by decide) rfl rfl rfl 2 (by decide +kernel) 3 0 rfl rfl d_law_1155 d_law_1156 d_law_1157 d_law_1158 d_law_1159 rfl ?_
  refine l_arg (j := 3) (n3 := 3) (n0 := 0) hL hi (by decide) rfl rfl rfl 3 (by decide +kernel) 3 0 rfl rfl d_law_1160 d_law_1161 d_law_1162 d_law_1163 d_law_1164 rfl ?_
  refine l_i2l d_law_1165 rfl ?_
  refine l_bipush (v := 32) d_law_1166 (by decide +kernel) ?_
  refine l_lshl d_law_1168 rfl ?_
  refine l_arg (j := 4) (n3 := 3) (n0 := 0) hL hi (by decide) rfl rfl rfl 4 (by decide +kernel) 3 0 rfl rfl d_law_1169 d_law_1170 d_law_1171 d_law_1172 d_law_1173 rfl ?_
  refine l_i2l d_law_1174 rfl ?_
  refine l_ldc2 d_law_1175 lq_1316 ?_
  refine l_land d_law_1178 ?_
  refine l_lor d_law_1179 ?_
  refine l_callM (c_Model_item l θ e2) cf_Model_item rfl lq_1301 d_law_1180 rfl rfl (Nat.le_of_ble_eq_true rfl) rfl rfl ⟨Nat.le_of_ble_eq_true rfl, Nat.le_of_ble_eq_true rfl⟩ ?_
  exact l_eq (tgt := 1285) d_law_1183 (by decide) (g σ' τ' hR1)
theorem lw_case_32 (hL : L ≤ 3072) {i : Nat} (hi : i + 6 ≤ L) (hR : zRel σ τ) (g : ∀ σ' τ', zRel σ' τ' → WL l θ b0 L xs σ' τ' (zLv θ b0 i) 1285 []) : WL l θ b0 L xs σ τ (zLv θ b0 i) 1188 [] := by
  obtain ⟨r, σ', τ', e1, e2, hR1⟩ := op_read hR (xs (i + 1)) (xs (i + 2))
  refine l_aload_n 2 d_law_1188 rfl rfl ?_
  refine l_arg (j := 1) (n3 := 3) (n0 := 0) hL hi (by decide) rfl rfl rfl 1 (by decide +kernel) 3 0 rfl rfl d_law_1189 d_law_1190 d_law_1191 d_law_1192 d_law_1193 rfl ?_
  refine l_arg (j := 2) (n3 := 3) (n0 := 0) hL hi (by decide) rfl rfl rfl 2 (by decide +kernel) 3 0 rfl rfl d_law_1194 d_law_1195 d_law_1196 d_law_1197 d_law_1198 rfl ?_
  refine l_callB (c_BB_read l θ e1) cf_BB_read rfl lq_845 d_law_1199 rfl rfl (Nat.le_of_ble_eq_true rfl) rfl rfl ⟨Nat.le_of_ble_eq_true rfl, Nat.le_of_ble_eq_true rfl⟩ ?_
  refine l_aload_n 1 d_law_1202 rfl rfl ?_
  refine l_arg (j := 1) (n3 := 3) (n0 := 0) hL hi (by decide) rfl rfl rfl 1 (by decide +kernel) 3 0 rfl rfl d_law_1203 d_law_1204 d_law_1205 d_law_1206 d_law_1207 rfl ?_
  refine l_arg (j := 2) (n3 := 3) (n0 := 0) hL hi (by decide) rfl rfl rfl 2 (by decide +kernel) 3 0 rfl rfl d_law_1208 d_law_1209 d_law_1210 d_law_1211 d_law_1212 rfl ?_
  refine l_callM (c_Model_read l θ e2) cf_Model_read rfl lq_1308 d_law_1213 rfl rfl (Nat.le_of_ble_eq_true rfl) rfl rfl ⟨Nat.le_of_ble_eq_true rfl, Nat.le_of_ble_eq_true rfl⟩ ?_
  exact l_leq (tgt := 1285) d_law_1216 d_law_1217 (by decide) (g σ' τ' hR1)
theorem lw_case_33 (hL : L ≤ 3072) {i : Nat} (hi : i + 6 ≤ L) (hR : zRel σ τ) (g : ∀ σ' τ', zRel σ' τ' → WL l θ b0 L xs σ' τ' (zLv θ b0 i) 1285 []) : WL l θ b0 L xs σ τ (zLv θ b0 i) 1222 [] := by
  obtain ⟨r, σ', τ', e1, e2, hR1⟩ := op_shift hR (xs (i + 1)) (xs (i + 2)) (xs (i + 3)) (xs (i + 4)) (xs (i + 5))
  refine l_aload_n 2 d_law_1222 rfl rfl ?_
  refine l_arg (j := 1) (n3 := 3) (n0 := 0) hL hi (by decide) rfl rfl rfl 1 (by decide +kernel) 3 0 rfl rfl d_law_1223 d_law_1224 d_law_1225 d_law_1226 d_law_1227 rfl ?_
  refine l_arg (j := 2) (n3 := 3) (n0 := 0) hL hi (by decide) rfl rfl rfl 2 (by decide +kernel) 3 0 rfl rfl d_law_1228 d_law_1229 d_law_1230 d_law_1231 d_law_1232 rfl ?_
  refine l_arg (j := 3) (n3 := 3) (n0 := 0) hL hi (by decide) rfl rfl rfl 3 (by decide +kernel) 3 0 rfl rfl d_law_1233 d_law_1234 d_law_1235 d_law_1236 d_law_1237 rfl ?_
  refine l_arg (j := 4) (n3 := 3) (n0 := 0) hL hi (by decide) rfl rfl rfl 4 (by decide +kernel) 3 0 rfl rfl d_law_1238 d_law_1239 d_law_1240 d_law_1241 d_law_1242 rfl ?_
  refine l_arg (j := 5) (n3 := 3) (n0 := 0) hL hi (by decide) rfl rfl rfl 5 (by decide +kernel) 3 0 rfl rfl d_law_1243 d_law_1244 d_law_1245 d_law_1246 d_law_1247 rfl ?_
  refine l_callB (c_BB_shift l θ e1) cf_BB_shift rfl lq_854 d_law_1248 rfl rfl (Nat.le_of_ble_eq_true rfl) rfl rfl ⟨Nat.le_of_ble_eq_true rfl, Nat.le_of_ble_eq_true rfl⟩ ?_
  refine l_aload_n 1 d_law_1251 rfl rfl ?_
  refine l_arg (j := 1) (n3 := 3) (n0 := 0) hL hi (by decide) rfl rfl rfl 1 (by decide +kernel) 3 0 rfl rfl d_law_1252 d_law_1253 d_law_1254 d_law_1255 d_law_1256 rfl ?_
  refine l_arg (j := 2) (n3 := 3) (n0 := 0) hL hi (by decide) rfl rfl rfl 2 (by decide +kernel) 3 0 rfl rfl d_law_1257 d_law_1258 d_law_1259 d_law_1260 d_law_1261 rfl ?_
  refine l_arg (j := 3) (n3 := 3) (n0 := 0) hL hi (by decide) rfl rfl rfl 3 (by decide +kernel) 3 0 rfl rfl d_law_1262 d_law_1263 d_law_1264 d_law_1265 d_law_1266 rfl ?_
  refine l_arg (j := 4) (n3 := 3) (n0 := 0) hL hi (by decide) rfl rfl rfl 4 (by decide +kernel) 3 0 rfl rfl d_law_1267 d_law_1268 d_law_1269 d_law_1270 d_law_1271 rfl ?_
  refine l_arg (j := 5) (n3 := 3) (n0 := 0) hL hi (by decide) rfl rfl rfl 5 (by decide +kernel) 3 0 rfl rfl d_law_1272 d_law_1273 d_law_1274 d_law_1275 d_law_1276 rfl ?_
  refine l_callM (c_Model_shift l θ e2) cf_Model_shift rfl lq_1312 d_law_1277 rfl rfl (Nat.le_of_ble_eq_true rfl) rfl rfl ⟨Nat.le_of_ble_eq_true rfl, Nat.le_of_ble_eq_true rfl⟩ ?_
  exact l_eq (tgt := 1285) d_law_1280 (by decide) (g σ' τ' hR1)
end LCASES
