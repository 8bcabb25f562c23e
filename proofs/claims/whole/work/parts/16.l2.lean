section LC0
variable {p : Program} {l : Launch} {e : Env} {s : State} {m : MethodId} {below : List Frame} {meth : Method} {c : Code} {D : va_G} {cA : Nat → ClassId} {aX aM : Nat → Nat} {b L : Nat} {xs : Nat → Int32} {A M : Mem} {x3 : Int32}
set_option maxHeartbeats 4000000 in
set_option maxRecDepth 100000 in
theorem law_case_0 (B : Lx p s m meth c D cA aX aM b L xs) {n : Nat} (hn : n ≤ 64) (hR : Rel n A M) {v1 v2 v3 v4 : Int32} (h1 : vp_in (x3 + 1) L ∧ xs (x3 + 1).toNatClampNeg = v1) (h2 : vp_in (x3 + 2) L ∧ xs (x3 + 2).toNatClampNeg = v2) (h3 : vp_in (x3 + 3) L ∧ xs (x3 + 3).toNatClampNeg = v3) (h4 : vp_in (x3 + 4) L ∧ xs (x3 + 4).toNatClampNeg = v4) (next : ∀ A1 M1 : Mem, Rel (n + 1) A1 M1 → LG p l e s m below meth c D cA aX aM b A1 M1 x3 1224 []) : LG p l e s m below meth c D cA aX aM b A M x3 176 [] := by
  obtain ⟨r, A1, M1, e1, e2, hR1⟩ := sim_town hR v1 v2 v3 v4
  refine l_ax B dL_law_176 ?_
  refine l_arg (k := 1) B dL_law_177 dL_law_178 dL_law_179 dL_law_180 dL_law_181 (by decide) h1 ?_
  refine l_arg (k := 2) B dL_law_182 dL_law_183 dL_law_184 dL_law_185 dL_law_186 (by decide) h2 ?_
  refine l_arg (k := 3) B dL_law_187 dL_law_188 dL_law_189 dL_law_190 dL_law_191 (by decide) h3 ?_
  refine l_arg (k := 4) B dL_law_192 dL_law_193 dL_law_194 dL_law_195 dL_law_196 (by decide) h4 ?_
  refine l_callX (As := [.int v1, .int v2, .int v3, .int v4]) (st := []) B (k_X8_town l D cA aX B.2.2.2.2.2.2.2.2.2.2.2.1 v1 v2 v3 v4 A) (cwV 4 B.2.2.2.2.2.1 gL_law_X8_town rfl rfl rfl (by decide +kernel) ⟨Nat.le_of_ble_eq_true rfl, Nat.le_of_ble_eq_true rfl⟩) e1 rfl rfl (Nat.le_of_ble_eq_true rfl) dL_law_197 ?_
  refine l_am B dL_law_200 ?_
  refine l_arg (k := 1) B dL_law_201 dL_law_202 dL_law_203 dL_law_204 dL_law_205 (by decide) h1 ?_
  refine l_arg (k := 2) B dL_law_206 dL_law_207 dL_law_208 dL_law_209 dL_law_210 (by decide) h2 ?_
  refine l_arg (k := 3) B dL_law_211 dL_law_212 dL_law_213 dL_law_214 dL_law_215 (by decide) h3 ?_
  refine l_arg (k := 4) B dL_law_216 dL_law_217 dL_law_218 dL_law_219 dL_law_220 (by decide) h4 ?_
  refine l_callM (As := [.int v1, .int v2, .int v3, .int v4]) (st := [.int r]) B (k_X9_town l D cA aM B.2.2.2.2.2.2.2.2.2.2.2.2.1 v1 v2 v3 v4 M) (cwV 4 B.2.2.2.2.2.1 gL_law_X9_town rfl rfl rfl (by decide +kernel) ⟨Nat.le_of_ble_eq_true rfl, Nat.le_of_ble_eq_true rfl⟩) e2 rfl rfl (Nat.le_of_ble_eq_true rfl) dL_law_221 ?_
  exact l_eq B dL_law_224 (by decide) (next A1 M1 hR1)
set_option maxHeartbeats 4000000 in
set_option maxRecDepth 100000 in
theorem law_case_1 (B : Lx p s m meth c D cA aX aM b L xs) {n : Nat} (hn : n ≤ 64) (hR : Rel n A M) {v1 v2 : Int32} (h1 : vp_in (x3 + 1) L ∧ xs (x3 + 1).toNatClampNeg = v1) (h2 : vp_in (x3 + 2) L ∧ xs (x3 + 2).toNatClampNeg = v2) (next : ∀ A1 M1 : Mem, Rel (n + 1) A1 M1 → LG p l e s m below meth c D cA aX aM b A1 M1 x3 1224 []) : LG p l e s m below meth c D cA aX aM b A M x3 229 [] := by
  obtain ⟨r, A1, M1, e1, e2, hR1⟩ := sim_ofFootman hR hn v1 v2
  refine l_ax B dL_law_229 ?_
  refine l_arg (k := 1) B dL_law_230 dL_law_231 dL_law_232 dL_law_233 dL_law_234 (by decide) h1 ?_
  refine l_arg (k := 2) B dL_law_235 dL_law_236 dL_law_237 dL_law_238 dL_law_239 (by decide) h2 ?_
  refine l_callX (As := [.int v1, .int v2]) (st := []) B (k_X8_ofFootman l D cA aX B.2.2.2.2.2.2.2.2.2.2.2.1 v1 v2 A) (cwV 2 B.2.2.2.2.2.1 gL_law_X8_ofFootman rfl rfl rfl (by decide +kernel) ⟨Nat.le_of_ble_eq_true rfl, Nat.le_of_ble_eq_true rfl⟩) e1 rfl rfl (Nat.le_of_ble_eq_true rfl) dL_law_240 ?_
  refine l_am B dL_law_243 ?_
  refine l_arg (k := 1) B dL_law_244 dL_law_245 dL_law_246 dL_law_247 dL_law_248 (by decide) h1 ?_
  refine l_arg (k := 2) B dL_law_249 dL_law_250 dL_law_251 dL_law_252 dL_law_253 (by decide) h2 ?_
  refine l_callM (As := [.int v1, .int v2]) (st := [.int r]) B (k_X9_ofFootman l D cA aM B.2.2.2.2.2.2.2.2.2.2.2.2.1 v1 v2 M) (cwV 2 B.2.2.2.2.2.1 gL_law_X9_ofFootman rfl rfl rfl (by decide +kernel) ⟨Nat.le_of_ble_eq_true rfl, Nat.le_of_ble_eq_true rfl⟩) e2 rfl rfl (Nat.le_of_ble_eq_true rfl) dL_law_254 ?_
  exact l_eq B dL_law_257 (by decide) (next A1 M1 hR1)
set_option maxHeartbeats 4000000 in
set_option maxRecDepth 100000 in
theorem law_case_2 (B : Lx p s m meth c D cA aX aM b L xs) {n : Nat} (hn : n ≤ 64) (hR : Rel n A M) {v1 v2 : Int32} (h1 : vp_in (x3 + 1) L ∧ xs (x3 + 1).toNatClampNeg = v1) (h2 : vp_in (x3 + 2) L ∧ xs (x3 + 2).toNatClampNeg = v2) (next : ∀ A1 M1 : Mem, Rel (n + 1) A1 M1 → LG p l e s m below meth c D cA aX aM b A1 M1 x3 1224 []) : LG p l e s m below meth c D cA aX aM b A M x3 262 [] := by
  obtain ⟨r, A1, M1, e1, e2, hR1⟩ := sim_street hR v1 v2
  refine l_ax B dL_law_262 ?_
  refine l_arg (k := 1) B dL_law_263 dL_law_264 dL_law_265 dL_law_266 dL_law_267 (by decide) h1 ?_
  refine l_arg (k := 2) B dL_law_268 dL_law_269 dL_law_270 dL_law_271 dL_law_272 (by decide) h2 ?_
  refine l_callX (As := [.int v1, .int v2]) (st := []) B (k_X8_street l D cA aX B.2.2.2.2.2.2.2.2.2.2.2.1 v1 v2 A) (cwV 2 B.2.2.2.2.2.1 gL_law_X8_street rfl rfl rfl (by decide +kernel) ⟨Nat.le_of_ble_eq_true rfl, Nat.le_of_ble_eq_true rfl⟩) e1 rfl rfl (Nat.le_of_ble_eq_true rfl) dL_law_273 ?_
  refine l_am B dL_law_276 ?_
  refine l_arg (k := 1) B dL_law_277 dL_law_278 dL_law_279 dL_law_280 dL_law_281 (by decide) h1 ?_
  refine l_arg (k := 2) B dL_law_282 dL_law_283 dL_law_284 dL_law_285 dL_law_286 (by decide) h2 ?_
  refine l_callM (As := [.int v1, .int v2]) (st := [.int r]) B (k_X9_street l D cA aM B.2.2.2.2.2.2.2.2.2.2.2.2.1 v1 v2 M) (cwV 2 B.2.2.2.2.2.1 gL_law_X9_street rfl rfl rfl (by decide +kernel) ⟨Nat.le_of_ble_eq_true rfl, Nat.le_of_ble_eq_true rfl⟩) e2 rfl rfl (Nat.le_of_ble_eq_true rfl) dL_law_287 ?_
  exact l_eq B dL_law_290 (by decide) (next A1 M1 hR1)
set_option maxHeartbeats 4000000 in
set_option maxRecDepth 100000 in
theorem law_case_3 (B : Lx p s m meth c D cA aX aM b L xs) {n : Nat} (hn : n ≤ 64) (hR : Rel n A M) {v1 v2 v3 : Int32} (h1 : vp_in (x3 + 1) L ∧ xs (x3 + 1).toNatClampNeg = v1) (h2 : vp_in (x3 + 2) L ∧ xs (x3 + 2).toNatClampNeg = v2) (h3 : vp_in (x3 + 3) L ∧ xs (x3 + 3).toNatClampNeg = v3) (next : ∀ A1 M1 : Mem, Rel (n + 1) A1 M1 → LG p l e s m below meth c D cA aX aM b A1 M1 x3 1224 []) : LG p l e s m below meth c D cA aX aM b A M x3 295 [] := by
  obtain ⟨r, A1, M1, e1, e2, hR1⟩ := sim_pave hR v1 v2 v3
  refine l_ax B dL_law_295 ?_
  refine l_arg (k := 1) B dL_law_296 dL_law_297 dL_law_298 dL_law_299 dL_law_300 (by decide) h1 ?_
  refine l_arg (k := 2) B dL_law_301 dL_law_302 dL_law_303 dL_law_304 dL_law_305 (by decide) h2 ?_
  refine l_arg (k := 3) B dL_law_306 dL_law_307 dL_law_308 dL_law_309 dL_law_310 (by decide) h3 ?_
  refine l_callX (As := [.int v1, .int v2, .int v3]) (st := []) B (k_X8_pave l D cA aX B.2.2.2.2.2.2.2.2.2.2.2.1 v1 v2 v3 A) (cwV 3 B.2.2.2.2.2.1 gL_law_X8_pave rfl rfl rfl (by decide +kernel) ⟨Nat.le_of_ble_eq_true rfl, Nat.le_of_ble_eq_true rfl⟩) e1 rfl rfl (Nat.le_of_ble_eq_true rfl) dL_law_311 ?_
  refine l_am B dL_law_314 ?_
  refine l_arg (k := 1) B dL_law_315 dL_law_316 dL_law_317 dL_law_318 dL_law_319 (by decide) h1 ?_
  refine l_arg (k := 2) B dL_law_320 dL_law_321 dL_law_322 dL_law_323 dL_law_324 (by decide) h2 ?_
  refine l_arg (k := 3) B dL_law_325 dL_law_326 dL_law_327 dL_law_328 dL_law_329 (by decide) h3 ?_
  refine l_callM (As := [.int v1, .int v2, .int v3]) (st := [.int r]) B (k_X9_pave l D cA aM B.2.2.2.2.2.2.2.2.2.2.2.2.1 v1 v2 v3 M) (cwV 3 B.2.2.2.2.2.1 gL_law_X9_pave rfl rfl rfl (by decide +kernel) ⟨Nat.le_of_ble_eq_true rfl, Nat.le_of_ble_eq_true rfl⟩) e2 rfl rfl (Nat.le_of_ble_eq_true rfl) dL_law_330 ?_
  exact l_eq B dL_law_333 (by decide) (next A1 M1 hR1)
set_option maxHeartbeats 4000000 in
set_option maxRecDepth 100000 in
theorem law_case_4 (B : Lx p s m meth c D cA aX aM b L xs) {n : Nat} (hn : n ≤ 64) (hR : Rel n A M) {v1 v2 : Int32} (h1 : vp_in (x3 + 1) L ∧ xs (x3 + 1).toNatClampNeg = v1) (h2 : vp_in (x3 + 2) L ∧ xs (x3 + 2).toNatClampNeg = v2) (next : ∀ A1 M1 : Mem, Rel (n + 1) A1 M1 → LG p l e s m below meth c D cA aX aM b A1 M1 x3 1224 []) : LG p l e s m below meth c D cA aX aM b A M x3 338 [] := by
  obtain ⟨r, A1, M1, e1, e2, hR1⟩ := sim_far hR v1 v2
  refine l_ax B dL_law_338 ?_
  refine l_arg (k := 1) B dL_law_339 dL_law_340 dL_law_341 dL_law_342 dL_law_343 (by decide) h1 ?_
  refine l_arg (k := 2) B dL_law_344 dL_law_345 dL_law_346 dL_law_347 dL_law_348 (by decide) h2 ?_
  refine l_callX (As := [.int v1, .int v2]) (st := []) B (k_X8_far l D cA aX B.2.2.2.2.2.2.2.2.2.2.2.1 v1 v2 A) (cwV 2 B.2.2.2.2.2.1 gL_law_X8_far rfl rfl rfl (by decide +kernel) ⟨Nat.le_of_ble_eq_true rfl, Nat.le_of_ble_eq_true rfl⟩) e1 rfl rfl (Nat.le_of_ble_eq_true rfl) dL_law_349 ?_
  refine l_am B dL_law_352 ?_
  refine l_arg (k := 1) B dL_law_353 dL_law_354 dL_law_355 dL_law_356 dL_law_357 (by decide) h1 ?_
  refine l_arg (k := 2) B dL_law_358 dL_law_359 dL_law_360 dL_law_361 dL_law_362 (by decide) h2 ?_
  refine l_callM (As := [.int v1, .int v2]) (st := [.int r]) B (k_X9_far l D cA aM B.2.2.2.2.2.2.2.2.2.2.2.2.1 v1 v2 M) (cwV 2 B.2.2.2.2.2.1 gL_law_X9_far rfl rfl rfl (by decide +kernel) ⟨Nat.le_of_ble_eq_true rfl, Nat.le_of_ble_eq_true rfl⟩) e2 rfl rfl (Nat.le_of_ble_eq_true rfl) dL_law_363 ?_
  exact l_eq B dL_law_366 (by decide) (next A1 M1 hR1)
set_option maxHeartbeats 4000000 in
set_option maxRecDepth 100000 in
theorem law_case_5 (B : Lx p s m meth c D cA aX aM b L xs) {n : Nat} (hn : n ≤ 64) (hR : Rel n A M) {v1 : Int32} (h1 : vp_in (x3 + 1) L ∧ xs (x3 + 1).toNatClampNeg = v1) (next : ∀ A1 M1 : Mem, Rel (n + 1) A1 M1 → LG p l e s m below meth c D cA aX aM b A1 M1 x3 1224 []) : LG p l e s m below meth c D cA aX aM b A M x3 371 [] := by
  obtain ⟨r, A1, M1, e1, e2, hR1⟩ := sim_days hR hn v1
  refine l_ax B dL_law_371 ?_
  refine l_arg (k := 1) B dL_law_372 dL_law_373 dL_law_374 dL_law_375 dL_law_376 (by decide) h1 ?_
  refine l_callX (As := [.int v1]) (st := []) B (k_X8_days l D cA aX B.2.2.2.2.2.2.2.2.2.2.2.1 v1 A) (cwV 1 B.2.2.2.2.2.1 gL_law_X8_days rfl rfl rfl (by decide +kernel) ⟨Nat.le_of_ble_eq_true rfl, Nat.le_of_ble_eq_true rfl⟩) e1 rfl rfl (Nat.le_of_ble_eq_true rfl) dL_law_377 ?_
  refine l_am B dL_law_380 ?_
  refine l_arg (k := 1) B dL_law_381 dL_law_382 dL_law_383 dL_law_384 dL_law_385 (by decide) h1 ?_
  refine l_callM (As := [.int v1]) (st := [.int r]) B (k_X9_days l D cA aM B.2.2.2.2.2.2.2.2.2.2.2.2.1 v1 M) (cwV 1 B.2.2.2.2.2.1 gL_law_X9_days rfl rfl rfl (by decide +kernel) ⟨Nat.le_of_ble_eq_true rfl, Nat.le_of_ble_eq_true rfl⟩) e2 rfl rfl (Nat.le_of_ble_eq_true rfl) dL_law_386 ?_
  exact l_eq B dL_law_389 (by decide) (next A1 M1 hR1)
set_option maxHeartbeats 4000000 in
set_option maxRecDepth 100000 in
theorem law_case_6 (B : Lx p s m meth c D cA aX aM b L xs) {n : Nat} (hn : n ≤ 64) (hR : Rel n A M) {v1 : Int32} (h1 : vp_in (x3 + 1) L ∧ xs (x3 + 1).toNatClampNeg = v1) (next : ∀ A1 M1 : Mem, Rel (n + 1) A1 M1 → LG p l e s m below meth c D cA aX aM b A1 M1 x3 1224 []) : LG p l e s m below meth c D cA aX aM b A M x3 394 [] := by
  obtain ⟨r, A1, M1, e1, e2, hR1⟩ := sim_sit hR v1
  refine l_ax B dL_law_394 ?_
  refine l_arg (k := 1) B dL_law_395 dL_law_396 dL_law_397 dL_law_398 dL_law_399 (by decide) h1 ?_
  refine l_callX (As := [.int v1]) (st := []) B (k_X8_sit l D cA aX B.2.2.2.2.2.2.2.2.2.2.2.1 v1 A) (cwV 1 B.2.2.2.2.2.1 gL_law_X8_sit rfl rfl rfl (by decide +kernel) ⟨Nat.le_of_ble_eq_true rfl, Nat.le_of_ble_eq_true rfl⟩) e1 rfl rfl (Nat.le_of_ble_eq_true rfl) dL_law_400 ?_
  refine l_am B dL_law_403 ?_
  refine l_arg (k := 1) B dL_law_404 dL_law_405 dL_law_406 dL_law_407 dL_law_408 (by decide) h1 ?_
  refine l_callM (As := [.int v1]) (st := [.int r]) B (k_X9_sit l D cA aM B.2.2.2.2.2.2.2.2.2.2.2.2.1 v1 M) (cwV 1 B.2.2.2.2.2.1 gL_law_X9_sit rfl rfl rfl (by decide +kernel) ⟨Nat.le_of_ble_eq_true rfl, Nat.le_of_ble_eq_true rfl⟩) e2 rfl rfl (Nat.le_of_ble_eq_true rfl) dL_law_409 ?_
  exact l_eq B dL_law_412 (by decide) (next A1 M1 hR1)
set_option maxHeartbeats 4000000 in
set_option maxRecDepth 100000 in
theorem law_case_7 (B : Lx p s m meth c D cA aX aM b L xs) {n : Nat} (hn : n ≤ 64) (hR : Rel n A M) {v1 : Int32} (h1 : vp_in (x3 + 1) L ∧ xs (x3 + 1).toNatClampNeg = v1) (next : ∀ A1 M1 : Mem, Rel (n + 1) A1 M1 → LG p l e s m below meth c D cA aX aM b A1 M1 x3 1224 []) : LG p l e s m below meth c D cA aX aM b A M x3 417 [] := by
  obtain ⟨r, A1, M1, e1, e2, hR1⟩ := sim_rise hR v1
  refine l_ax B dL_law_417 ?_
  refine l_arg (k := 1) B dL_law_418 dL_law_419 dL_law_420 dL_law_421 dL_law_422 (by decide) h1 ?_
  refine l_callX (As := [.int v1]) (st := []) B (k_X8_rise l D cA aX B.2.2.2.2.2.2.2.2.2.2.2.1 v1 A) (cwV 1 B.2.2.2.2.2.1 gL_law_X8_rise rfl rfl rfl (by decide +kernel) ⟨Nat.le_of_ble_eq_true rfl, Nat.le_of_ble_eq_true rfl⟩) e1 rfl rfl (Nat.le_of_ble_eq_true rfl) dL_law_423 ?_
  refine l_am B dL_law_426 ?_
  refine l_arg (k := 1) B dL_law_427 dL_law_428 dL_law_429 dL_law_430 dL_law_431 (by decide) h1 ?_
  refine l_callM (As := [.int v1]) (st := [.int r]) B (k_X9_rise l D cA aM B.2.2.2.2.2.2.2.2.2.2.2.2.1 v1 M) (cwV 1 B.2.2.2.2.2.1 gL_law_X9_rise rfl rfl rfl (by decide +kernel) ⟨Nat.le_of_ble_eq_true rfl, Nat.le_of_ble_eq_true rfl⟩) e2 rfl rfl (Nat.le_of_ble_eq_true rfl) dL_law_432 ?_
  exact l_eq B dL_law_435 (by decide) (next A1 M1 hR1)
end LC0