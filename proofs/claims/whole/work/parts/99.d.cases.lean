section Cases
variable {p : Program} {l : Launch} {e : Env} {s : State} {m : MethodId} {below : List Frame} {meth : Method} {c : Code} {b L : Nat} {xs : Nat → Int32} {D : va_G} {cA : Nat → ClassId} {adr : Nat → Nat} {mc ms : Nat} {i : Int32} {h : AH}
theorem lc_modulus (X : Lc p s m meth c b L xs D cA adr) (hr : ∀ a : Int32, 1 ≤ a → a ≤ 5 → vp_in (i + a) L) (I : Inv h) (hmc : mc ≤ 600000) (hms : ms ≤ 7302250) (nx : ∀ h2, Inv h2 → LWs p l e s m below meth c b D cA adr mc ms 1006 [] i h2) : LWs p l e s m below meth c b D cA adr mc ms 172 [] i h := by
  obtain ⟨r, h1, h2, e1, e2, I2⟩ := st_modulus (xs (i + 1).toNatClampNeg) I
  refine ls_x X dL_law_172 ?_
  refine ls_arg (v := 1) X (by decide) (hr 1 (by decide) (by decide)) dL_law_173 dL_law_174 dL_law_175 dL_law_176 dL_law_177 ?_
  refine ls_cV (o := 0) (As := [.int (xs (i + 1).toNatClampNeg)]) X (okx_modulus _ _ _ e1) mlL_13 mtX11_modulus rfl rfl rfl rfl rfl (by decide) rfl (Nat.le_of_ble_eq_true rfl) dL_law_178 ?_ hmc hms
  refine ls_m X dL_law_181 ?_
  refine ls_arg (v := 1) X (by decide) (hr 1 (by decide) (by decide)) dL_law_182 dL_law_183 dL_law_184 dL_law_185 dL_law_186 ?_
  refine ls_cV (o := 75) (As := [.int (xs (i + 1).toNatClampNeg)]) X (okm_modulus _ _ _ e2) mlL_17 mtX12_modulus rfl rfl rfl rfl rfl (by decide) rfl (Nat.le_of_ble_eq_true rfl) dL_law_187 ?_ hmc hms
  exact ls_eq (tgt := 1006) X dL_law_190 (by decide) (nx h2 I2)
theorem lc_axiom (X : Lc p s m meth c b L xs D cA adr) (hr : ∀ a : Int32, 1 ≤ a → a ≤ 5 → vp_in (i + a) L) (I : Inv h) (hmc : mc ≤ 600000) (hms : ms ≤ 7302250) (nx : ∀ h2, Inv h2 → LWs p l e s m below meth c b D cA adr mc ms 1006 [] i h2) : LWs p l e s m below meth c b D cA adr mc ms 195 [] i h := by
  obtain ⟨r, h1, h2, e1, e2, I2⟩ := st_axiom (xs (i + 1).toNatClampNeg) (xs (i + 2).toNatClampNeg) I
  refine ls_x X dL_law_195 ?_
  refine ls_arg (v := 1) X (by decide) (hr 1 (by decide) (by decide)) dL_law_196 dL_law_197 dL_law_198 dL_law_199 dL_law_200 ?_
  refine ls_arg (v := 2) X (by decide) (hr 2 (by decide) (by decide)) dL_law_201 dL_law_202 dL_law_203 dL_law_204 dL_law_205 ?_
  refine ls_cV (o := 0) (As := [.int (xs (i + 1).toNatClampNeg), .int (xs (i + 2).toNatClampNeg)]) X (okx_axiom _ _ _ _ e1) mlL_18 mtX11_axiom rfl rfl rfl rfl rfl (by decide) rfl (Nat.le_of_ble_eq_true rfl) dL_law_206 ?_ hmc hms
  refine ls_m X dL_law_209 ?_
  refine ls_arg (v := 1) X (by decide) (hr 1 (by decide) (by decide)) dL_law_210 dL_law_211 dL_law_212 dL_law_213 dL_law_214 ?_
  refine ls_arg (v := 2) X (by decide) (hr 2 (by decide) (by decide)) dL_law_215 dL_law_216 dL_law_217 dL_law_218 dL_law_219 ?_
  refine ls_cV (o := 75) (As := [.int (xs (i + 1).toNatClampNeg), .int (xs (i + 2).toNatClampNeg)]) X (okm_axiom _ _ _ _ e2) mlL_22 mtX12_axiom rfl rfl rfl rfl rfl (by decide) rfl (Nat.le_of_ble_eq_true rfl) dL_law_220 ?_ hmc hms
  exact ls_eq (tgt := 1006) X dL_law_223 (by decide) (nx h2 I2)
theorem lc_feed (X : Lc p s m meth c b L xs D cA adr) (hr : ∀ a : Int32, 1 ≤ a → a ≤ 5 → vp_in (i + a) L) (I : Inv h) (hmc : mc ≤ 600000) (hms : ms ≤ 7302250) (nx : ∀ h2, Inv h2 → LWs p l e s m below meth c b D cA adr mc ms 1006 [] i h2) : LWs p l e s m below meth c b D cA adr mc ms 228 [] i h := by
  obtain ⟨r, h1, h2, e1, e2, I2⟩ := st_feed (xs (i + 1).toNatClampNeg) (xs (i + 2).toNatClampNeg) (xs (i + 3).toNatClampNeg) (xs (i + 4).toNatClampNeg) (xs (i + 5).toNatClampNeg) I
  refine ls_x X dL_law_228 ?_
  refine ls_arg (v := 1) X (by decide) (hr 1 (by decide) (by decide)) dL_law_229 dL_law_230 dL_law_231 dL_law_232 dL_law_233 ?_
  refine ls_arg (v := 2) X (by decide) (hr 2 (by decide) (by decide)) dL_law_234 dL_law_235 dL_law_236 dL_law_237 dL_law_238 ?_
  refine ls_arg (v := 3) X (by decide) (hr 3 (by decide) (by decide)) dL_law_239 dL_law_240 dL_law_241 dL_law_242 dL_law_243 ?_
  refine ls_arg (v := 4) X (by decide) (hr 4 (by decide) (by decide)) dL_law_244 dL_law_245 dL_law_246 dL_law_247 dL_law_248 ?_
  refine ls_arg (v := 5) X (by decide) (hr 5 (by decide) (by decide)) dL_law_249 dL_law_250 dL_law_251 dL_law_252 dL_law_253 ?_
  refine ls_cV (o := 0) (As := [.int (xs (i + 1).toNatClampNeg), .int (xs (i + 2).toNatClampNeg), .int (xs (i + 3).toNatClampNeg), .int (xs (i + 4).toNatClampNeg), .int (xs (i + 5).toNatClampNeg)]) X (okx_feed _ _ _ _ _ _ _ e1) mlL_23 mtX11_feed rfl rfl rfl rfl rfl (by decide) rfl (Nat.le_of_ble_eq_true rfl) dL_law_254 ?_ hmc hms
  refine ls_m X dL_law_257 ?_
  refine ls_arg (v := 1) X (by decide) (hr 1 (by decide) (by decide)) dL_law_258 dL_law_259 dL_law_260 dL_law_261 dL_law_262 ?_
  refine ls_arg (v := 2) X (by decide) (hr 2 (by decide) (by decide)) dL_law_263 dL_law_264 dL_law_265 dL_law_266 dL_law_267 ?_
  refine ls_arg (v := 3) X (by decide) (hr 3 (by decide) (by decide)) dL_law_268 dL_law_269 dL_law_270 dL_law_271 dL_law_272 ?_
  refine ls_arg (v := 4) X (by decide) (hr 4 (by decide) (by decide)) dL_law_273 dL_law_274 dL_law_275 dL_law_276 dL_law_277 ?_
  refine ls_arg (v := 5) X (by decide) (hr 5 (by decide) (by decide)) dL_law_278 dL_law_279 dL_law_280 dL_law_281 dL_law_282 ?_
  refine ls_cV (o := 75) (As := [.int (xs (i + 1).toNatClampNeg), .int (xs (i + 2).toNatClampNeg), .int (xs (i + 3).toNatClampNeg), .int (xs (i + 4).toNatClampNeg), .int (xs (i + 5).toNatClampNeg)]) X (okm_feed _ _ _ _ _ _ _ e2) mlL_27 mtX12_feed rfl rfl rfl rfl rfl (by decide) rfl (Nat.le_of_ble_eq_true rfl) dL_law_283 ?_ hmc hms
  exact ls_eq (tgt := 1006) X dL_law_286 (by decide) (nx h2 I2)
theorem lc_proof (X : Lc p s m meth c b L xs D cA adr) (hr : ∀ a : Int32, 1 ≤ a → a ≤ 5 → vp_in (i + a) L) (I : Inv h) (hmc : mc ≤ 600000) (hms : ms ≤ 7302250) (nx : ∀ h2, Inv h2 → LWs p l e s m below meth c b D cA adr mc ms 1006 [] i h2) : LWs p l e s m below meth c b D cA adr mc ms 291 [] i h := by
  obtain ⟨r, h1, h2, e1, e2, I2⟩ := st_proof (xs (i + 1).toNatClampNeg) I
  refine ls_x X dL_law_291 ?_
  refine ls_arg (v := 1) X (by decide) (hr 1 (by decide) (by decide)) dL_law_292 dL_law_293 dL_law_294 dL_law_295 dL_law_296 ?_
  refine ls_cV (o := 0) (As := [.int (xs (i + 1).toNatClampNeg)]) X (okx_proof _ _ _ e1) mlL_28 mtX11_proof rfl rfl rfl rfl rfl (by decide) rfl (Nat.le_of_ble_eq_true rfl) dL_law_297 ?_ hmc hms
  refine ls_m X dL_law_300 ?_
  refine ls_arg (v := 1) X (by decide) (hr 1 (by decide) (by decide)) dL_law_301 dL_law_302 dL_law_303 dL_law_304 dL_law_305 ?_
  refine ls_cV (o := 75) (As := [.int (xs (i + 1).toNatClampNeg)]) X (okm_proof _ _ _ e2) mlL_32 mtX12_proof rfl rfl rfl rfl rfl (by decide) rfl (Nat.le_of_ble_eq_true rfl) dL_law_306 ?_ hmc hms
  exact ls_eq (tgt := 1006) X dL_law_309 (by decide) (nx h2 I2)
theorem lc_law (X : Lc p s m meth c b L xs D cA adr) (hr : ∀ a : Int32, 1 ≤ a → a ≤ 5 → vp_in (i + a) L) (I : Inv h) (hmc : mc ≤ 600000) (hms : ms ≤ 7302250) (nx : ∀ h2, Inv h2 → LWs p l e s m below meth c b D cA adr mc ms 1006 [] i h2) : LWs p l e s m below meth c b D cA adr mc ms 314 [] i h := by
  obtain ⟨r, h1, h2, e1, e2, I2⟩ := st_law (xs (i + 1).toNatClampNeg) I
  refine ls_x X dL_law_314 ?_
  refine ls_arg (v := 1) X (by decide) (hr 1 (by decide) (by decide)) dL_law_315 dL_law_316 dL_law_317 dL_law_318 dL_law_319 ?_
  refine ls_cV (o := 0) (As := [.int (xs (i + 1).toNatClampNeg)]) X (okx_law _ _ _ e1) mlL_33 mtX11_law rfl rfl rfl rfl rfl (by decide) rfl (Nat.le_of_ble_eq_true rfl) dL_law_320 ?_ hmc hms
  refine ls_m X dL_law_323 ?_
  refine ls_arg (v := 1) X (by decide) (hr 1 (by decide) (by decide)) dL_law_324 dL_law_325 dL_law_326 dL_law_327 dL_law_328 ?_
  refine ls_cV (o := 75) (As := [.int (xs (i + 1).toNatClampNeg)]) X (okm_law _ _ _ e2) mlL_36 mtX12_law rfl rfl rfl rfl rfl (by decide) rfl (Nat.le_of_ble_eq_true rfl) dL_law_329 ?_ hmc hms
  exact ls_eq (tgt := 1006) X dL_law_332 (by decide) (nx h2 I2)
theorem lc_line (X : Lc p s m meth c b L xs D cA adr) (hr : ∀ a : Int32, 1 ≤ a → a ≤ 5 → vp_in (i + a) L) (I : Inv h) (hmc : mc ≤ 600000) (hms : ms ≤ 7302250) (nx : ∀ h2, Inv h2 → LWs p l e s m below meth c b D cA adr mc ms 1006 [] i h2) : LWs p l e s m below meth c b D cA adr mc ms 337 [] i h := by
  obtain ⟨r, h1, h2, e1, e2, I2⟩ := st_line (xs (i + 1).toNatClampNeg) (xs (i + 2).toNatClampNeg) I
  refine ls_x X dL_law_337 ?_
  refine ls_arg (v := 1) X (by decide) (hr 1 (by decide) (by decide)) dL_law_338 dL_law_339 dL_law_340 dL_law_341 dL_law_342 ?_
  refine ls_arg (v := 2) X (by decide) (hr 2 (by decide) (by decide)) dL_law_343 dL_law_344 dL_law_345 dL_law_346 dL_law_347 ?_
  refine ls_cV (o := 0) (As := [.int (xs (i + 1).toNatClampNeg), .int (xs (i + 2).toNatClampNeg)]) X (okx_line _ _ _ _ e1) mlL_37 mtX11_line rfl rfl rfl rfl rfl (by decide) rfl (Nat.le_of_ble_eq_true rfl) dL_law_348 ?_ hmc hms
  refine ls_m X dL_law_351 ?_
  refine ls_arg (v := 1) X (by decide) (hr 1 (by decide) (by decide)) dL_law_352 dL_law_353 dL_law_354 dL_law_355 dL_law_356 ?_
  refine ls_arg (v := 2) X (by decide) (hr 2 (by decide) (by decide)) dL_law_357 dL_law_358 dL_law_359 dL_law_360 dL_law_361 ?_
  refine ls_cV (o := 75) (As := [.int (xs (i + 1).toNatClampNeg), .int (xs (i + 2).toNatClampNeg)]) X (okm_line _ _ _ _ e2) mlL_41 mtX12_line rfl rfl rfl rfl rfl (by decide) rfl (Nat.le_of_ble_eq_true rfl) dL_law_362 ?_ hmc hms
  exact ls_eq (tgt := 1006) X dL_law_365 (by decide) (nx h2 I2)
theorem lc_wrong (X : Lc p s m meth c b L xs D cA adr) (hr : ∀ a : Int32, 1 ≤ a → a ≤ 5 → vp_in (i + a) L) (I : Inv h) (hmc : mc ≤ 600000) (hms : ms ≤ 7302250) (nx : ∀ h2, Inv h2 → LWs p l e s m below meth c b D cA adr mc ms 1006 [] i h2) : LWs p l e s m below meth c b D cA adr mc ms 370 [] i h := by
  obtain ⟨r, h1, h2, e1, e2, I2⟩ := st_wrong  I
  refine ls_x X dL_law_370 ?_
  refine ls_cV (o := 0) (As := []) X (okx_wrong  _ _ e1) mlL_42 mtX11_wrong rfl rfl rfl rfl rfl (by decide) rfl (Nat.le_of_ble_eq_true rfl) dL_law_371 ?_ hmc hms
  refine ls_m X dL_law_374 ?_
  refine ls_cV (o := 75) (As := []) X (okm_wrong  _ _ e2) mlL_46 mtX12_wrong rfl rfl rfl rfl rfl (by decide) rfl (Nat.le_of_ble_eq_true rfl) dL_law_375 ?_ hmc hms
  exact ls_eq (tgt := 1006) X dL_law_378 (by decide) (nx h2 I2)
theorem lc_untrue (X : Lc p s m meth c b L xs D cA adr) (hr : ∀ a : Int32, 1 ≤ a → a ≤ 5 → vp_in (i + a) L) (I : Inv h) (hmc : mc ≤ 600000) (hms : ms ≤ 7302250) (nx : ∀ h2, Inv h2 → LWs p l e s m below meth c b D cA adr mc ms 1006 [] i h2) : LWs p l e s m below meth c b D cA adr mc ms 383 [] i h := by
  obtain ⟨r, h1, h2, e1, e2, I2⟩ := st_untrue  I
  refine ls_x X dL_law_383 ?_
  refine ls_cV (o := 0) (As := []) X (okx_untrue  _ _ e1) mlL_47 mtX11_untrue rfl rfl rfl rfl rfl (by decide) rfl (Nat.le_of_ble_eq_true rfl) dL_law_384 ?_ hmc hms
  refine ls_m X dL_law_387 ?_
  refine ls_cV (o := 75) (As := []) X (okm_untrue  _ _ e2) mlL_50 mtX12_untrue rfl rfl rfl rfl rfl (by decide) rfl (Nat.le_of_ble_eq_true rfl) dL_law_388 ?_ hmc hms
  exact ls_eq (tgt := 1006) X dL_law_391 (by decide) (nx h2 I2)
theorem lc_slip (X : Lc p s m meth c b L xs D cA adr) (hr : ∀ a : Int32, 1 ≤ a → a ≤ 5 → vp_in (i + a) L) (I : Inv h) (hmc : mc ≤ 600000) (hms : ms ≤ 7302250) (nx : ∀ h2, Inv h2 → LWs p l e s m below meth c b D cA adr mc ms 1006 [] i h2) : LWs p l e s m below meth c b D cA adr mc ms 396 [] i h := by
  obtain ⟨r, h1, h2, e1, e2, I2⟩ := st_slip (xs (i + 1).toNatClampNeg) (xs (i + 2).toNatClampNeg) I
  refine ls_x X dL_law_396 ?_
  refine ls_arg (v := 1) X (by decide) (hr 1 (by decide) (by decide)) dL_law_397 dL_law_398 dL_law_399 dL_law_400 dL_law_401 ?_
  refine ls_arg (v := 2) X (by decide) (hr 2 (by decide) (by decide)) dL_law_402 dL_law_403 dL_law_404 dL_law_405 dL_law_406 ?_
  refine ls_cV (o := 0) (As := [.int (xs (i + 1).toNatClampNeg), .int (xs (i + 2).toNatClampNeg)]) X (okx_slip _ _ _ _ e1) mlL_51 mtX11_slip rfl rfl rfl rfl rfl (by decide) rfl (Nat.le_of_ble_eq_true rfl) dL_law_407 ?_ hmc hms
  refine ls_m X dL_law_410 ?_
  refine ls_arg (v := 1) X (by decide) (hr 1 (by decide) (by decide)) dL_law_411 dL_law_412 dL_law_413 dL_law_414 dL_law_415 ?_
  refine ls_arg (v := 2) X (by decide) (hr 2 (by decide) (by decide)) dL_law_416 dL_law_417 dL_law_418 dL_law_419 dL_law_420 ?_
  refine ls_cV (o := 75) (As := [.int (xs (i + 1).toNatClampNeg), .int (xs (i + 2).toNatClampNeg)]) X (okm_slip _ _ _ _ e2) mlL_54 mtX12_slip rfl rfl rfl rfl rfl (by decide) rfl (Nat.le_of_ble_eq_true rfl) dL_law_421 ?_ hmc hms
  exact ls_eq (tgt := 1006) X dL_law_424 (by decide) (nx h2 I2)
theorem lc_honest (X : Lc p s m meth c b L xs D cA adr) (hr : ∀ a : Int32, 1 ≤ a → a ≤ 5 → vp_in (i + a) L) (I : Inv h) (hmc : mc ≤ 600000) (hms : ms ≤ 7302250) (nx : ∀ h2, Inv h2 → LWs p l e s m below meth c b D cA adr mc ms 1006 [] i h2) : LWs p l e s m below meth c b D cA adr mc ms 429 [] i h := by
  obtain ⟨r, h1, h2, e1, e2, I2⟩ := st_honest  I
  refine ls_x X dL_law_429 ?_
  refine ls_cV (o := 0) (As := []) X (okx_honest  _ _ e1) mlL_55 mtX11_honest rfl rfl rfl rfl rfl (by decide) rfl (Nat.le_of_ble_eq_true rfl) dL_law_430 ?_ hmc hms
  refine ls_m X dL_law_433 ?_
  refine ls_cV (o := 75) (As := []) X (okm_honest  _ _ e2) mlL_58 mtX12_honest rfl rfl rfl rfl rfl (by decide) rfl (Nat.le_of_ble_eq_true rfl) dL_law_434 ?_ hmc hms
  exact ls_eq (tgt := 1006) X dL_law_437 (by decide) (nx h2 I2)
theorem lc_mended (X : Lc p s m meth c b L xs D cA adr) (hr : ∀ a : Int32, 1 ≤ a → a ≤ 5 → vp_in (i + a) L) (I : Inv h) (hmc : mc ≤ 600000) (hms : ms ≤ 7302250) (nx : ∀ h2, Inv h2 → LWs p l e s m below meth c b D cA adr mc ms 1006 [] i h2) : LWs p l e s m below meth c b D cA adr mc ms 442 [] i h := by
  obtain ⟨r, h1, h2, e1, e2, I2⟩ := st_mended (xs (i + 1).toNatClampNeg) I
  refine ls_x X dL_law_442 ?_
  refine ls_arg (v := 1) X (by decide) (hr 1 (by decide) (by decide)) dL_law_443 dL_law_444 dL_law_445 dL_law_446 dL_law_447 ?_
  refine ls_cV (o := 0) (As := [.int (xs (i + 1).toNatClampNeg)]) X (okx_mended _ _ _ e1) mlL_59 mtX11_mended rfl rfl rfl rfl rfl (by decide) rfl (Nat.le_of_ble_eq_true rfl) dL_law_448 ?_ hmc hms
  refine ls_m X dL_law_451 ?_
  refine ls_arg (v := 1) X (by decide) (hr 1 (by decide) (by decide)) dL_law_452 dL_law_453 dL_law_454 dL_law_455 dL_law_456 ?_
  refine ls_cV (o := 75) (As := [.int (xs (i + 1).toNatClampNeg)]) X (okm_mended _ _ _ e2) mlL_62 mtX12_mended rfl rfl rfl rfl rfl (by decide) rfl (Nat.le_of_ble_eq_true rfl) dL_law_457 ?_ hmc hms
  exact ls_eq (tgt := 1006) X dL_law_460 (by decide) (nx h2 I2)
theorem lc_referred (X : Lc p s m meth c b L xs D cA adr) (hr : ∀ a : Int32, 1 ≤ a → a ≤ 5 → vp_in (i + a) L) (I : Inv h) (hmc : mc ≤ 600000) (hms : ms ≤ 7302250) (nx : ∀ h2, Inv h2 → LWs p l e s m below meth c b D cA adr mc ms 1006 [] i h2) : LWs p l e s m below meth c b D cA adr mc ms 465 [] i h := by
  obtain ⟨r, h1, h2, e1, e2, I2⟩ := st_referred (xs (i + 1).toNatClampNeg) I
  refine ls_x X dL_law_465 ?_
  refine ls_arg (v := 1) X (by decide) (hr 1 (by decide) (by decide)) dL_law_466 dL_law_467 dL_law_468 dL_law_469 dL_law_470 ?_
  refine ls_cV (o := 0) (As := [.int (xs (i + 1).toNatClampNeg)]) X (okx_referred _ _ _ e1) mlL_63 mtX11_referred rfl rfl rfl rfl rfl (by decide) rfl (Nat.le_of_ble_eq_true rfl) dL_law_471 ?_ hmc hms
  refine ls_m X dL_law_474 ?_
  refine ls_arg (v := 1) X (by decide) (hr 1 (by decide) (by decide)) dL_law_475 dL_law_476 dL_law_477 dL_law_478 dL_law_479 ?_
  refine ls_cV (o := 75) (As := [.int (xs (i + 1).toNatClampNeg)]) X (okm_referred _ _ _ e2) mlL_66 mtX12_referred rfl rfl rfl rfl rfl (by decide) rfl (Nat.le_of_ble_eq_true rfl) dL_law_480 ?_ hmc hms
  exact ls_eq (tgt := 1006) X dL_law_483 (by decide) (nx h2 I2)
theorem lc_reads (X : Lc p s m meth c b L xs D cA adr) (hr : ∀ a : Int32, 1 ≤ a → a ≤ 5 → vp_in (i + a) L) (I : Inv h) (hmc : mc ≤ 600000) (hms : ms ≤ 7302250) (nx : ∀ h2, Inv h2 → LWs p l e s m below meth c b D cA adr mc ms 1006 [] i h2) : LWs p l e s m below meth c b D cA adr mc ms 488 [] i h := by
  obtain ⟨r, h1, h2, e1, e2, I2⟩ := st_reads (xs (i + 1).toNatClampNeg) (xs (i + 2).toNatClampNeg) I
  refine ls_x X dL_law_488 ?_
  refine ls_arg (v := 1) X (by decide) (hr 1 (by decide) (by decide)) dL_law_489 dL_law_490 dL_law_491 dL_law_492 dL_law_493 ?_
  refine ls_arg (v := 2) X (by decide) (hr 2 (by decide) (by decide)) dL_law_494 dL_law_495 dL_law_496 dL_law_497 dL_law_498 ?_
  refine ls_cV (o := 0) (As := [.int (xs (i + 1).toNatClampNeg), .int (xs (i + 2).toNatClampNeg)]) X (okx_reads _ _ _ _ e1) mlL_67 mtX11_reads rfl rfl rfl rfl rfl (by decide) rfl (Nat.le_of_ble_eq_true rfl) dL_law_499 ?_ hmc hms
  refine ls_m X dL_law_502 ?_
  refine ls_arg (v := 1) X (by decide) (hr 1 (by decide) (by decide)) dL_law_503 dL_law_504 dL_law_505 dL_law_506 dL_law_507 ?_
  refine ls_arg (v := 2) X (by decide) (hr 2 (by decide) (by decide)) dL_law_508 dL_law_509 dL_law_510 dL_law_511 dL_law_512 ?_
  refine ls_cV (o := 75) (As := [.int (xs (i + 1).toNatClampNeg), .int (xs (i + 2).toNatClampNeg)]) X (okm_reads _ _ _ _ e2) mlL_70 mtX12_reads rfl rfl rfl rfl rfl (by decide) rfl (Nat.le_of_ble_eq_true rfl) dL_law_513 ?_ hmc hms
  exact ls_eq (tgt := 1006) X dL_law_516 (by decide) (nx h2 I2)
theorem lc_hidden (X : Lc p s m meth c b L xs D cA adr) (hr : ∀ a : Int32, 1 ≤ a → a ≤ 5 → vp_in (i + a) L) (I : Inv h) (hmc : mc ≤ 600000) (hms : ms ≤ 7302250) (nx : ∀ h2, Inv h2 → LWs p l e s m below meth c b D cA adr mc ms 1006 [] i h2) : LWs p l e s m below meth c b D cA adr mc ms 521 [] i h := by
  obtain ⟨r, h1, h2, e1, e2, I2⟩ := st_hidden (xs (i + 1).toNatClampNeg) (xs (i + 2).toNatClampNeg) I
  refine ls_x X dL_law_521 ?_
  refine ls_arg (v := 1) X (by decide) (hr 1 (by decide) (by decide)) dL_law_522 dL_law_523 dL_law_524 dL_law_525 dL_law_526 ?_
  refine ls_arg (v := 2) X (by decide) (hr 2 (by decide) (by decide)) dL_law_527 dL_law_528 dL_law_529 dL_law_530 dL_law_531 ?_
  refine ls_cV (o := 0) (As := [.int (xs (i + 1).toNatClampNeg), .int (xs (i + 2).toNatClampNeg)]) X (okx_hidden _ _ _ _ e1) mlL_71 mtX11_hidden rfl rfl rfl rfl rfl (by decide) rfl (Nat.le_of_ble_eq_true rfl) dL_law_532 ?_ hmc hms
  refine ls_m X dL_law_535 ?_
  refine ls_arg (v := 1) X (by decide) (hr 1 (by decide) (by decide)) dL_law_536 dL_law_537 dL_law_538 dL_law_539 dL_law_540 ?_
  refine ls_arg (v := 2) X (by decide) (hr 2 (by decide) (by decide)) dL_law_541 dL_law_542 dL_law_543 dL_law_544 dL_law_545 ?_
  refine ls_cV (o := 75) (As := [.int (xs (i + 1).toNatClampNeg), .int (xs (i + 2).toNatClampNeg)]) X (okm_hidden _ _ _ _ e2) mlL_74 mtX12_hidden rfl rfl rfl rfl rfl (by decide) rfl (Nat.le_of_ble_eq_true rfl) dL_law_546 ?_ hmc hms
  exact ls_eq (tgt := 1006) X dL_law_549 (by decide) (nx h2 I2)
theorem lc_unread (X : Lc p s m meth c b L xs D cA adr) (hr : ∀ a : Int32, 1 ≤ a → a ≤ 5 → vp_in (i + a) L) (I : Inv h) (hmc : mc ≤ 600000) (hms : ms ≤ 7302250) (nx : ∀ h2, Inv h2 → LWs p l e s m below meth c b D cA adr mc ms 1006 [] i h2) : LWs p l e s m below meth c b D cA adr mc ms 554 [] i h := by
  obtain ⟨r, h1, h2, e1, e2, I2⟩ := st_unread (xs (i + 1).toNatClampNeg) I
  refine ls_x X dL_law_554 ?_
  refine ls_arg (v := 1) X (by decide) (hr 1 (by decide) (by decide)) dL_law_555 dL_law_556 dL_law_557 dL_law_558 dL_law_559 ?_
  refine ls_cV (o := 0) (As := [.int (xs (i + 1).toNatClampNeg)]) X (okx_unread _ _ _ e1) mlL_75 mtX11_unread rfl rfl rfl rfl rfl (by decide) rfl (Nat.le_of_ble_eq_true rfl) dL_law_560 ?_ hmc hms
  refine ls_m X dL_law_563 ?_
  refine ls_arg (v := 1) X (by decide) (hr 1 (by decide) (by decide)) dL_law_564 dL_law_565 dL_law_566 dL_law_567 dL_law_568 ?_
  refine ls_cV (o := 75) (As := [.int (xs (i + 1).toNatClampNeg)]) X (okm_unread _ _ _ e2) mlL_78 mtX12_unread rfl rfl rfl rfl rfl (by decide) rfl (Nat.le_of_ble_eq_true rfl) dL_law_569 ?_ hmc hms
  exact ls_eq (tgt := 1006) X dL_law_572 (by decide) (nx h2 I2)
theorem lc_readers (X : Lc p s m meth c b L xs D cA adr) (hr : ∀ a : Int32, 1 ≤ a → a ≤ 5 → vp_in (i + a) L) (I : Inv h) (hmc : mc ≤ 600000) (hms : ms ≤ 7302250) (nx : ∀ h2, Inv h2 → LWs p l e s m below meth c b D cA adr mc ms 1006 [] i h2) : LWs p l e s m below meth c b D cA adr mc ms 577 [] i h := by
  obtain ⟨r, h1, h2, e1, e2, I2⟩ := st_readers (xs (i + 1).toNatClampNeg) (xs (i + 2).toNatClampNeg) I
  refine ls_x X dL_law_577 ?_
  refine ls_arg (v := 1) X (by decide) (hr 1 (by decide) (by decide)) dL_law_578 dL_law_579 dL_law_580 dL_law_581 dL_law_582 ?_
  refine ls_arg (v := 2) X (by decide) (hr 2 (by decide) (by decide)) dL_law_583 dL_law_584 dL_law_585 dL_law_586 dL_law_587 ?_
  refine ls_cV (o := 0) (As := [.int (xs (i + 1).toNatClampNeg), .int (xs (i + 2).toNatClampNeg)]) X (okx_readers _ _ _ _ e1) mlL_79 mtX11_readers rfl rfl rfl rfl rfl (by decide) rfl (Nat.le_of_ble_eq_true rfl) dL_law_588 ?_ hmc hms
  refine ls_m X dL_law_591 ?_
  refine ls_arg (v := 1) X (by decide) (hr 1 (by decide) (by decide)) dL_law_592 dL_law_593 dL_law_594 dL_law_595 dL_law_596 ?_
  refine ls_arg (v := 2) X (by decide) (hr 2 (by decide) (by decide)) dL_law_597 dL_law_598 dL_law_599 dL_law_600 dL_law_601 ?_
  refine ls_cV (o := 75) (As := [.int (xs (i + 1).toNatClampNeg), .int (xs (i + 2).toNatClampNeg)]) X (okm_readers _ _ _ _ e2) mlL_82 mtX12_readers rfl rfl rfl rfl rfl (by decide) rfl (Nat.le_of_ble_eq_true rfl) dL_law_602 ?_ hmc hms
  exact ls_eq (tgt := 1006) X dL_law_605 (by decide) (nx h2 I2)
theorem lc_blind (X : Lc p s m meth c b L xs D cA adr) (hr : ∀ a : Int32, 1 ≤ a → a ≤ 5 → vp_in (i + a) L) (I : Inv h) (hmc : mc ≤ 600000) (hms : ms ≤ 7302250) (nx : ∀ h2, Inv h2 → LWs p l e s m below meth c b D cA adr mc ms 1006 [] i h2) : LWs p l e s m below meth c b D cA adr mc ms 610 [] i h := by
  obtain ⟨r, h1, h2, e1, e2, I2⟩ := st_blind (xs (i + 1).toNatClampNeg) I
  refine ls_x X dL_law_610 ?_
  refine ls_arg (v := 1) X (by decide) (hr 1 (by decide) (by decide)) dL_law_611 dL_law_612 dL_law_613 dL_law_614 dL_law_615 ?_
  refine ls_cV (o := 0) (As := [.int (xs (i + 1).toNatClampNeg)]) X (okx_blind _ _ _ e1) mlL_83 mtX11_blind rfl rfl rfl rfl rfl (by decide) rfl (Nat.le_of_ble_eq_true rfl) dL_law_616 ?_ hmc hms
  refine ls_m X dL_law_619 ?_
  refine ls_arg (v := 1) X (by decide) (hr 1 (by decide) (by decide)) dL_law_620 dL_law_621 dL_law_622 dL_law_623 dL_law_624 ?_
  refine ls_cV (o := 75) (As := [.int (xs (i + 1).toNatClampNeg)]) X (okm_blind _ _ _ e2) mlL_86 mtX12_blind rfl rfl rfl rfl rfl (by decide) rfl (Nat.le_of_ble_eq_true rfl) dL_law_625 ?_ hmc hms
  exact ls_eq (tgt := 1006) X dL_law_628 (by decide) (nx h2 I2)
theorem lc_cancel (X : Lc p s m meth c b L xs D cA adr) (hr : ∀ a : Int32, 1 ≤ a → a ≤ 5 → vp_in (i + a) L) (I : Inv h) (hmc : mc ≤ 600000) (hms : ms ≤ 7302250) (nx : ∀ h2, Inv h2 → LWs p l e s m below meth c b D cA adr mc ms 1006 [] i h2) : LWs p l e s m below meth c b D cA adr mc ms 633 [] i h := by
  obtain ⟨r, h1, h2, e1, e2, I2⟩ := st_cancel (xs (i + 1).toNatClampNeg) I
  refine ls_x X dL_law_633 ?_
  refine ls_arg (v := 1) X (by decide) (hr 1 (by decide) (by decide)) dL_law_634 dL_law_635 dL_law_636 dL_law_637 dL_law_638 ?_
  refine ls_cV (o := 0) (As := [.int (xs (i + 1).toNatClampNeg)]) X (okx_cancel _ _ _ e1) mlL_87 mtX11_cancel rfl rfl rfl rfl rfl (by decide) rfl (Nat.le_of_ble_eq_true rfl) dL_law_639 ?_ hmc hms
  refine ls_m X dL_law_642 ?_
  refine ls_arg (v := 1) X (by decide) (hr 1 (by decide) (by decide)) dL_law_643 dL_law_644 dL_law_645 dL_law_646 dL_law_647 ?_
  refine ls_cV (o := 75) (As := [.int (xs (i + 1).toNatClampNeg)]) X (okm_cancel _ _ _ e2) mlL_90 mtX12_cancel rfl rfl rfl rfl rfl (by decide) rfl (Nat.le_of_ble_eq_true rfl) dL_law_648 ?_ hmc hms
  exact ls_eq (tgt := 1006) X dL_law_651 (by decide) (nx h2 I2)
theorem lc_stands (X : Lc p s m meth c b L xs D cA adr) (hr : ∀ a : Int32, 1 ≤ a → a ≤ 5 → vp_in (i + a) L) (I : Inv h) (hmc : mc ≤ 600000) (hms : ms ≤ 7302250) (nx : ∀ h2, Inv h2 → LWs p l e s m below meth c b D cA adr mc ms 1006 [] i h2) : LWs p l e s m below meth c b D cA adr mc ms 656 [] i h := by
  obtain ⟨r, h1, h2, e1, e2, I2⟩ := st_stands (xs (i + 1).toNatClampNeg) (xs (i + 2).toNatClampNeg) I
  refine ls_x X dL_law_656 ?_
  refine ls_arg (v := 1) X (by decide) (hr 1 (by decide) (by decide)) dL_law_657 dL_law_658 dL_law_659 dL_law_660 dL_law_661 ?_
  refine ls_arg (v := 2) X (by decide) (hr 2 (by decide) (by decide)) dL_law_662 dL_law_663 dL_law_664 dL_law_665 dL_law_666 ?_
  refine ls_cV (o := 0) (As := [.int (xs (i + 1).toNatClampNeg), .int (xs (i + 2).toNatClampNeg)]) X (okx_stands _ _ _ _ e1) mlL_91 mtX11_stands rfl rfl rfl rfl rfl (by decide) rfl (Nat.le_of_ble_eq_true rfl) dL_law_667 ?_ hmc hms
  refine ls_m X dL_law_670 ?_
  refine ls_arg (v := 1) X (by decide) (hr 1 (by decide) (by decide)) dL_law_671 dL_law_672 dL_law_673 dL_law_674 dL_law_675 ?_
  refine ls_arg (v := 2) X (by decide) (hr 2 (by decide) (by decide)) dL_law_676 dL_law_677 dL_law_678 dL_law_679 dL_law_680 ?_
  refine ls_cV (o := 75) (As := [.int (xs (i + 1).toNatClampNeg), .int (xs (i + 2).toNatClampNeg)]) X (okm_stands _ _ _ _ e2) mlL_94 mtX12_stands rfl rfl rfl rfl rfl (by decide) rfl (Nat.le_of_ble_eq_true rfl) dL_law_681 ?_ hmc hms
  exact ls_eq (tgt := 1006) X dL_law_684 (by decide) (nx h2 I2)
theorem lc_anew (X : Lc p s m meth c b L xs D cA adr) (hr : ∀ a : Int32, 1 ≤ a → a ≤ 5 → vp_in (i + a) L) (I : Inv h) (hmc : mc ≤ 600000) (hms : ms ≤ 7302250) (nx : ∀ h2, Inv h2 → LWs p l e s m below meth c b D cA adr mc ms 1006 [] i h2) : LWs p l e s m below meth c b D cA adr mc ms 689 [] i h := by
  obtain ⟨r, h1, h2, e1, e2, I2⟩ := st_anew (xs (i + 1).toNatClampNeg) (xs (i + 2).toNatClampNeg) (xs (i + 3).toNatClampNeg) I
  refine ls_x X dL_law_689 ?_
  refine ls_arg (v := 1) X (by decide) (hr 1 (by decide) (by decide)) dL_law_690 dL_law_691 dL_law_692 dL_law_693 dL_law_694 ?_
  refine ls_arg (v := 2) X (by decide) (hr 2 (by decide) (by decide)) dL_law_695 dL_law_696 dL_law_697 dL_law_698 dL_law_699 ?_
  refine ls_arg (v := 3) X (by decide) (hr 3 (by decide) (by decide)) dL_law_700 dL_law_701 dL_law_702 dL_law_703 dL_law_704 ?_
  refine ls_cV (o := 0) (As := [.int (xs (i + 1).toNatClampNeg), .int (xs (i + 2).toNatClampNeg), .int (xs (i + 3).toNatClampNeg)]) X (okx_anew _ _ _ _ _ e1) mlL_95 mtX11_anew rfl rfl rfl rfl rfl (by decide) rfl (Nat.le_of_ble_eq_true rfl) dL_law_705 ?_ hmc hms
  refine ls_m X dL_law_708 ?_
  refine ls_arg (v := 1) X (by decide) (hr 1 (by decide) (by decide)) dL_law_709 dL_law_710 dL_law_711 dL_law_712 dL_law_713 ?_
  refine ls_arg (v := 2) X (by decide) (hr 2 (by decide) (by decide)) dL_law_714 dL_law_715 dL_law_716 dL_law_717 dL_law_718 ?_
  refine ls_arg (v := 3) X (by decide) (hr 3 (by decide) (by decide)) dL_law_719 dL_law_720 dL_law_721 dL_law_722 dL_law_723 ?_
  refine ls_cV (o := 75) (As := [.int (xs (i + 1).toNatClampNeg), .int (xs (i + 2).toNatClampNeg), .int (xs (i + 3).toNatClampNeg)]) X (okm_anew _ _ _ _ _ e2) mlL_99 mtX12_anew rfl rfl rfl rfl rfl (by decide) rfl (Nat.le_of_ble_eq_true rfl) dL_law_724 ?_ hmc hms
  exact ls_eq (tgt := 1006) X dL_law_727 (by decide) (nx h2 I2)
theorem lc_added (X : Lc p s m meth c b L xs D cA adr) (hr : ∀ a : Int32, 1 ≤ a → a ≤ 5 → vp_in (i + a) L) (I : Inv h) (hmc : mc ≤ 600000) (hms : ms ≤ 7302250) (nx : ∀ h2, Inv h2 → LWs p l e s m below meth c b D cA adr mc ms 1006 [] i h2) : LWs p l e s m below meth c b D cA adr mc ms 732 [] i h := by
  obtain ⟨r, h1, h2, e1, e2, I2⟩ := st_added (xs (i + 1).toNatClampNeg) I
  refine ls_x X dL_law_732 ?_
  refine ls_arg (v := 1) X (by decide) (hr 1 (by decide) (by decide)) dL_law_733 dL_law_734 dL_law_735 dL_law_736 dL_law_737 ?_
  refine ls_cV (o := 0) (As := [.int (xs (i + 1).toNatClampNeg)]) X (okx_added _ _ _ e1) mlL_100 mtX11_added rfl rfl rfl rfl rfl (by decide) rfl (Nat.le_of_ble_eq_true rfl) dL_law_738 ?_ hmc hms
  refine ls_m X dL_law_741 ?_
  refine ls_arg (v := 1) X (by decide) (hr 1 (by decide) (by decide)) dL_law_742 dL_law_743 dL_law_744 dL_law_745 dL_law_746 ?_
  refine ls_cV (o := 75) (As := [.int (xs (i + 1).toNatClampNeg)]) X (okm_added _ _ _ e2) mlL_103 mtX12_added rfl rfl rfl rfl rfl (by decide) rfl (Nat.le_of_ble_eq_true rfl) dL_law_747 ?_ hmc hms
  exact ls_eq (tgt := 1006) X dL_law_750 (by decide) (nx h2 I2)
theorem lc_order (X : Lc p s m meth c b L xs D cA adr) (hr : ∀ a : Int32, 1 ≤ a → a ≤ 5 → vp_in (i + a) L) (I : Inv h) (hmc : mc ≤ 600000) (hms : ms ≤ 7302250) (nx : ∀ h2, Inv h2 → LWs p l e s m below meth c b D cA adr mc ms 1006 [] i h2) : LWs p l e s m below meth c b D cA adr mc ms 755 [] i h := by
  obtain ⟨r, h1, h2, e1, e2, I2⟩ := st_order (xs (i + 1).toNatClampNeg) (xs (i + 2).toNatClampNeg) I
  refine ls_x X dL_law_755 ?_
  refine ls_arg (v := 1) X (by decide) (hr 1 (by decide) (by decide)) dL_law_756 dL_law_757 dL_law_758 dL_law_759 dL_law_760 ?_
  refine ls_arg (v := 2) X (by decide) (hr 2 (by decide) (by decide)) dL_law_761 dL_law_762 dL_law_763 dL_law_764 dL_law_765 ?_
  refine ls_cV (o := 0) (As := [.int (xs (i + 1).toNatClampNeg), .int (xs (i + 2).toNatClampNeg)]) X (okx_order _ _ _ _ e1) mlL_104 mtX11_order rfl rfl rfl rfl rfl (by decide) rfl (Nat.le_of_ble_eq_true rfl) dL_law_766 ?_ hmc hms
  refine ls_m X dL_law_769 ?_
  refine ls_arg (v := 1) X (by decide) (hr 1 (by decide) (by decide)) dL_law_770 dL_law_771 dL_law_772 dL_law_773 dL_law_774 ?_
  refine ls_arg (v := 2) X (by decide) (hr 2 (by decide) (by decide)) dL_law_775 dL_law_776 dL_law_777 dL_law_778 dL_law_779 ?_
  refine ls_cV (o := 75) (As := [.int (xs (i + 1).toNatClampNeg), .int (xs (i + 2).toNatClampNeg)]) X (okm_order _ _ _ _ e2) mlL_108 mtX12_order rfl rfl rfl rfl rfl (by decide) rfl (Nat.le_of_ble_eq_true rfl) dL_law_780 ?_ hmc hms
  exact ls_leq (tgt := 1006) X dL_law_783 dL_law_784 (by decide) (nx h2 I2)
theorem lc_seed (X : Lc p s m meth c b L xs D cA adr) (hr : ∀ a : Int32, 1 ≤ a → a ≤ 5 → vp_in (i + a) L) (I : Inv h) (hmc : mc ≤ 600000) (hms : ms ≤ 7302250) (nx : ∀ h2, Inv h2 → LWs p l e s m below meth c b D cA adr mc ms 1006 [] i h2) : LWs p l e s m below meth c b D cA adr mc ms 789 [] i h := by
  obtain ⟨r, h1, h2, e1, e2, I2⟩ := st_seed (xs (i + 1).toNatClampNeg) I
  refine ls_x X dL_law_789 ?_
  refine ls_arg (v := 1) X (by decide) (hr 1 (by decide) (by decide)) dL_law_790 dL_law_791 dL_law_792 dL_law_793 dL_law_794 ?_
  refine ls_cV (o := 0) (As := [.int (xs (i + 1).toNatClampNeg)]) X (okx_seed _ _ _ e1) mlL_109 mtX11_seed rfl rfl rfl rfl rfl (by decide) rfl (Nat.le_of_ble_eq_true rfl) dL_law_795 ?_ hmc hms
  refine ls_m X dL_law_798 ?_
  refine ls_arg (v := 1) X (by decide) (hr 1 (by decide) (by decide)) dL_law_799 dL_law_800 dL_law_801 dL_law_802 dL_law_803 ?_
  refine ls_cV (o := 75) (As := [.int (xs (i + 1).toNatClampNeg)]) X (okm_seed _ _ _ e2) mlL_112 mtX12_seed rfl rfl rfl rfl rfl (by decide) rfl (Nat.le_of_ble_eq_true rfl) dL_law_804 ?_ hmc hms
  exact ls_eq (tgt := 1006) X dL_law_807 (by decide) (nx h2 I2)
theorem lc_copied (X : Lc p s m meth c b L xs D cA adr) (hr : ∀ a : Int32, 1 ≤ a → a ≤ 5 → vp_in (i + a) L) (I : Inv h) (hmc : mc ≤ 600000) (hms : ms ≤ 7302250) (nx : ∀ h2, Inv h2 → LWs p l e s m below meth c b D cA adr mc ms 1006 [] i h2) : LWs p l e s m below meth c b D cA adr mc ms 812 [] i h := by
  obtain ⟨r, h1, h2, e1, e2, I2⟩ := st_copied (xs (i + 1).toNatClampNeg) I
  refine ls_x X dL_law_812 ?_
  refine ls_arg (v := 1) X (by decide) (hr 1 (by decide) (by decide)) dL_law_813 dL_law_814 dL_law_815 dL_law_816 dL_law_817 ?_
  refine ls_cV (o := 0) (As := [.int (xs (i + 1).toNatClampNeg)]) X (okx_copied _ _ _ e1) mlL_113 mtX11_copied rfl rfl rfl rfl rfl (by decide) rfl (Nat.le_of_ble_eq_true rfl) dL_law_818 ?_ hmc hms
  refine ls_m X dL_law_821 ?_
  refine ls_arg (v := 1) X (by decide) (hr 1 (by decide) (by decide)) dL_law_822 dL_law_823 dL_law_824 dL_law_825 dL_law_826 ?_
  refine ls_cV (o := 75) (As := [.int (xs (i + 1).toNatClampNeg)]) X (okm_copied _ _ _ e2) mlL_116 mtX12_copied rfl rfl rfl rfl rfl (by decide) rfl (Nat.le_of_ble_eq_true rfl) dL_law_827 ?_ hmc hms
  exact ls_eq (tgt := 1006) X dL_law_830 (by decide) (nx h2 I2)
theorem lc_author (X : Lc p s m meth c b L xs D cA adr) (hr : ∀ a : Int32, 1 ≤ a → a ≤ 5 → vp_in (i + a) L) (I : Inv h) (hmc : mc ≤ 600000) (hms : ms ≤ 7302250) (nx : ∀ h2, Inv h2 → LWs p l e s m below meth c b D cA adr mc ms 1006 [] i h2) : LWs p l e s m below meth c b D cA adr mc ms 835 [] i h := by
  obtain ⟨r, h1, h2, e1, e2, I2⟩ := st_author (xs (i + 1).toNatClampNeg) (xs (i + 2).toNatClampNeg) I
  refine ls_x X dL_law_835 ?_
  refine ls_arg (v := 1) X (by decide) (hr 1 (by decide) (by decide)) dL_law_836 dL_law_837 dL_law_838 dL_law_839 dL_law_840 ?_
  refine ls_arg (v := 2) X (by decide) (hr 2 (by decide) (by decide)) dL_law_841 dL_law_842 dL_law_843 dL_law_844 dL_law_845 ?_
  refine ls_cV (o := 0) (As := [.int (xs (i + 1).toNatClampNeg), .int (xs (i + 2).toNatClampNeg)]) X (okx_author _ _ _ _ e1) mlL_117 mtX11_author rfl rfl rfl rfl rfl (by decide) rfl (Nat.le_of_ble_eq_true rfl) dL_law_846 ?_ hmc hms
  refine ls_m X dL_law_849 ?_
  refine ls_arg (v := 1) X (by decide) (hr 1 (by decide) (by decide)) dL_law_850 dL_law_851 dL_law_852 dL_law_853 dL_law_854 ?_
  refine ls_arg (v := 2) X (by decide) (hr 2 (by decide) (by decide)) dL_law_855 dL_law_856 dL_law_857 dL_law_858 dL_law_859 ?_
  refine ls_cV (o := 75) (As := [.int (xs (i + 1).toNatClampNeg), .int (xs (i + 2).toNatClampNeg)]) X (okm_author _ _ _ _ e2) mlL_120 mtX12_author rfl rfl rfl rfl rfl (by decide) rfl (Nat.le_of_ble_eq_true rfl) dL_law_860 ?_ hmc hms
  exact ls_eq (tgt := 1006) X dL_law_863 (by decide) (nx h2 I2)
theorem lc_corrects (X : Lc p s m meth c b L xs D cA adr) (hr : ∀ a : Int32, 1 ≤ a → a ≤ 5 → vp_in (i + a) L) (I : Inv h) (hmc : mc ≤ 600000) (hms : ms ≤ 7302250) (nx : ∀ h2, Inv h2 → LWs p l e s m below meth c b D cA adr mc ms 1006 [] i h2) : LWs p l e s m below meth c b D cA adr mc ms 868 [] i h := by
  obtain ⟨r, h1, h2, e1, e2, I2⟩ := st_corrects (xs (i + 1).toNatClampNeg) (xs (i + 2).toNatClampNeg) (xs (i + 3).toNatClampNeg) I
  refine ls_x X dL_law_868 ?_
  refine ls_arg (v := 1) X (by decide) (hr 1 (by decide) (by decide)) dL_law_869 dL_law_870 dL_law_871 dL_law_872 dL_law_873 ?_
  refine ls_arg (v := 2) X (by decide) (hr 2 (by decide) (by decide)) dL_law_874 dL_law_875 dL_law_876 dL_law_877 dL_law_878 ?_
  refine ls_arg (v := 3) X (by decide) (hr 3 (by decide) (by decide)) dL_law_879 dL_law_880 dL_law_881 dL_law_882 dL_law_883 ?_
  refine ls_cV (o := 0) (As := [.int (xs (i + 1).toNatClampNeg), .int (xs (i + 2).toNatClampNeg), .int (xs (i + 3).toNatClampNeg)]) X (okx_corrects _ _ _ _ _ e1) mlL_121 mtX11_corrects rfl rfl rfl rfl rfl (by decide) rfl (Nat.le_of_ble_eq_true rfl) dL_law_884 ?_ hmc hms
  refine ls_m X dL_law_887 ?_
  refine ls_arg (v := 1) X (by decide) (hr 1 (by decide) (by decide)) dL_law_888 dL_law_889 dL_law_890 dL_law_891 dL_law_892 ?_
  refine ls_arg (v := 2) X (by decide) (hr 2 (by decide) (by decide)) dL_law_893 dL_law_894 dL_law_895 dL_law_896 dL_law_897 ?_
  refine ls_arg (v := 3) X (by decide) (hr 3 (by decide) (by decide)) dL_law_898 dL_law_899 dL_law_900 dL_law_901 dL_law_902 ?_
  refine ls_cV (o := 75) (As := [.int (xs (i + 1).toNatClampNeg), .int (xs (i + 2).toNatClampNeg), .int (xs (i + 3).toNatClampNeg)]) X (okm_corrects _ _ _ _ _ e2) mlL_124 mtX12_corrects rfl rfl rfl rfl rfl (by decide) rfl (Nat.le_of_ble_eq_true rfl) dL_law_903 ?_ hmc hms
  exact ls_eq (tgt := 1006) X dL_law_906 (by decide) (nx h2 I2)
theorem lc_points (X : Lc p s m meth c b L xs D cA adr) (hr : ∀ a : Int32, 1 ≤ a → a ≤ 5 → vp_in (i + a) L) (I : Inv h) (hmc : mc ≤ 600000) (hms : ms ≤ 7302250) (nx : ∀ h2, Inv h2 → LWs p l e s m below meth c b D cA adr mc ms 1006 [] i h2) : LWs p l e s m below meth c b D cA adr mc ms 911 [] i h := by
  obtain ⟨r, h1, h2, e1, e2, I2⟩ := st_points (xs (i + 1).toNatClampNeg) I
  refine ls_x X dL_law_911 ?_
  refine ls_arg (v := 1) X (by decide) (hr 1 (by decide) (by decide)) dL_law_912 dL_law_913 dL_law_914 dL_law_915 dL_law_916 ?_
  refine ls_cV (o := 0) (As := [.int (xs (i + 1).toNatClampNeg)]) X (okx_points _ _ _ e1) mlL_125 mtX11_points rfl rfl rfl rfl rfl (by decide) rfl (Nat.le_of_ble_eq_true rfl) dL_law_917 ?_ hmc hms
  refine ls_m X dL_law_920 ?_
  refine ls_arg (v := 1) X (by decide) (hr 1 (by decide) (by decide)) dL_law_921 dL_law_922 dL_law_923 dL_law_924 dL_law_925 ?_
  refine ls_cV (o := 75) (As := [.int (xs (i + 1).toNatClampNeg)]) X (okm_points _ _ _ e2) mlL_128 mtX12_points rfl rfl rfl rfl rfl (by decide) rfl (Nat.le_of_ble_eq_true rfl) dL_law_926 ?_ hmc hms
  exact ls_eq (tgt := 1006) X dL_law_929 (by decide) (nx h2 I2)
theorem lc_keep (X : Lc p s m meth c b L xs D cA adr) (hr : ∀ a : Int32, 1 ≤ a → a ≤ 5 → vp_in (i + a) L) (I : Inv h) (hmc : mc ≤ 600000) (hms : ms ≤ 7302250) (nx : ∀ h2, Inv h2 → LWs p l e s m below meth c b D cA adr mc ms 1006 [] i h2) : LWs p l e s m below meth c b D cA adr mc ms 934 [] i h := by
  obtain ⟨r, h1, h2, e1, e2, I2⟩ := st_keep  I
  refine ls_x X dL_law_934 ?_
  refine ls_cV (o := 0) (As := []) X (okx_keep  _ _ e1) mlL_129 mtX11_keep rfl rfl rfl rfl rfl (by decide) rfl (Nat.le_of_ble_eq_true rfl) dL_law_935 ?_ hmc hms
  refine ls_m X dL_law_938 ?_
  refine ls_cV (o := 75) (As := []) X (okm_keep  _ _ e2) mlL_132 mtX12_keep rfl rfl rfl rfl rfl (by decide) rfl (Nat.le_of_ble_eq_true rfl) dL_law_939 ?_ hmc hms
  exact ls_eq (tgt := 1006) X dL_law_942 (by decide) (nx h2 I2)
theorem lc_undo (X : Lc p s m meth c b L xs D cA adr) (hr : ∀ a : Int32, 1 ≤ a → a ≤ 5 → vp_in (i + a) L) (I : Inv h) (hmc : mc ≤ 600000) (hms : ms ≤ 7302250) (nx : ∀ h2, Inv h2 → LWs p l e s m below meth c b D cA adr mc ms 1006 [] i h2) : LWs p l e s m below meth c b D cA adr mc ms 947 [] i h := by
  obtain ⟨r, h1, h2, e1, e2, I2⟩ := st_undo  I
  refine ls_x X dL_law_947 ?_
  refine ls_cV (o := 0) (As := []) X (okx_undo  _ _ e1) mlL_133 mtX11_undo rfl rfl rfl rfl rfl (by decide) rfl (Nat.le_of_ble_eq_true rfl) dL_law_948 ?_ hmc hms
  refine ls_m X dL_law_951 ?_
  refine ls_cV (o := 75) (As := []) X (okm_undo  _ _ e2) mlL_137 mtX12_undo rfl rfl rfl rfl rfl (by decide) rfl (Nat.le_of_ble_eq_true rfl) dL_law_952 ?_ hmc hms
  exact ls_eq (tgt := 1006) X dL_law_955 (by decide) (nx h2 I2)
theorem lc_check (X : Lc p s m meth c b L xs D cA adr) (hr : ∀ a : Int32, 1 ≤ a → a ≤ 5 → vp_in (i + a) L) (I : Inv h) (hmc : mc ≤ 600000) (hms : ms ≤ 7302250) (nx : ∀ h2, Inv h2 → LWs p l e s m below meth c b D cA adr mc ms 1006 [] i h2) : LWs p l e s m below meth c b D cA adr mc ms 960 [] i h := by
  obtain ⟨r, h1, h2, e1, e2, I2⟩ := st_check (xs (i + 1).toNatClampNeg) I
  refine ls_x X dL_law_960 ?_
  refine ls_arg (v := 1) X (by decide) (hr 1 (by decide) (by decide)) dL_law_961 dL_law_962 dL_law_963 dL_law_964 dL_law_965 ?_
  refine ls_cV (o := 0) (As := [.int (xs (i + 1).toNatClampNeg)]) X (okx_check _ _ _ e1) mlL_138 mtX11_check rfl rfl rfl rfl rfl (by decide) rfl (Nat.le_of_ble_eq_true rfl) dL_law_966 ?_ hmc hms
  refine ls_m X dL_law_969 ?_
  refine ls_arg (v := 1) X (by decide) (hr 1 (by decide) (by decide)) dL_law_970 dL_law_971 dL_law_972 dL_law_973 dL_law_974 ?_
  refine ls_cV (o := 75) (As := [.int (xs (i + 1).toNatClampNeg)]) X (okm_check _ _ _ e2) mlL_141 mtX12_check rfl rfl rfl rfl rfl (by decide) rfl (Nat.le_of_ble_eq_true rfl) dL_law_975 ?_ hmc hms
  exact ls_eq (tgt := 1006) X dL_law_978 (by decide) (nx h2 I2)
theorem lc_count (X : Lc p s m meth c b L xs D cA adr) (hr : ∀ a : Int32, 1 ≤ a → a ≤ 5 → vp_in (i + a) L) (I : Inv h) (hmc : mc ≤ 600000) (hms : ms ≤ 7302250) (nx : ∀ h2, Inv h2 → LWs p l e s m below meth c b D cA adr mc ms 1006 [] i h2) : LWs p l e s m below meth c b D cA adr mc ms 983 [] i h := by
  obtain ⟨r, h1, h2, e1, e2, I2⟩ := st_count (xs (i + 1).toNatClampNeg) I
  refine ls_x X dL_law_983 ?_
  refine ls_arg (v := 1) X (by decide) (hr 1 (by decide) (by decide)) dL_law_984 dL_law_985 dL_law_986 dL_law_987 dL_law_988 ?_
  refine ls_cV (o := 0) (As := [.int (xs (i + 1).toNatClampNeg)]) X (okx_count _ _ _ e1) mlL_142 mtX11_count rfl rfl rfl rfl rfl (by decide) rfl (Nat.le_of_ble_eq_true rfl) dL_law_989 ?_ hmc hms
  refine ls_m X dL_law_992 ?_
  refine ls_arg (v := 1) X (by decide) (hr 1 (by decide) (by decide)) dL_law_993 dL_law_994 dL_law_995 dL_law_996 dL_law_997 ?_
  refine ls_cV (o := 75) (As := [.int (xs (i + 1).toNatClampNeg)]) X (okm_count _ _ _ e2) mlL_145 mtX12_count rfl rfl rfl rfl rfl (by decide) rfl (Nat.le_of_ble_eq_true rfl) dL_law_998 ?_ hmc hms
  exact ls_eq (tgt := 1006) X dL_law_1001 (by decide) (nx h2 I2)
/-- one turn of the loop: the switch -/
theorem l_switch {k : Nat} (hk : k < 32) (X : Lc p s m meth c b L xs D cA adr) (hr : ∀ a : Int32, 1 ≤ a → a ≤ 5 → vp_in (i + a) L) (I : Inv h) (hmc : mc ≤ 600000) (hms : ms ≤ 7302250) (nx : ∀ h2, Inv h2 → LWs p l e s m below meth c b D cA adr mc ms 1006 [] i h2) : LWs p l e s m below meth c b D cA adr mc ms 33 [.int (nI k)] i h := by
  intro H locs ls hP hS hl
  match k, hk with
  | 0, _ => exact lv_tableIn (off := 139) (tgt := 172) X.1.1 X.1.2.1 dL_law_33 (by decide) (by decide) (by decide) (by decide) (lc_modulus X hr I hmc hms nx H locs ls hP hS hl)
  | 1, _ => exact lv_tableIn (off := 162) (tgt := 195) X.1.1 X.1.2.1 dL_law_33 (by decide) (by decide) (by decide) (by decide) (lc_axiom X hr I hmc hms nx H locs ls hP hS hl)
  | 2, _ => exact lv_tableIn (off := 195) (tgt := 228) X.1.1 X.1.2.1 dL_law_33 (by decide) (by decide) (by decide) (by decide) (lc_feed X hr I hmc hms nx H locs ls hP hS hl)
  | 3, _ => exact lv_tableIn (off := 258) (tgt := 291) X.1.1 X.1.2.1 dL_law_33 (by decide) (by decide) (by decide) (by decide) (lc_proof X hr I hmc hms nx H locs ls hP hS hl)
  | 4, _ => exact lv_tableIn (off := 281) (tgt := 314) X.1.1 X.1.2.1 dL_law_33 (by decide) (by decide) (by decide) (by decide) (lc_law X hr I hmc hms nx H locs ls hP hS hl)
  | 5, _ => exact lv_tableIn (off := 304) (tgt := 337) X.1.1 X.1.2.1 dL_law_33 (by decide) (by decide) (by decide) (by decide) (lc_line X hr I hmc hms nx H locs ls hP hS hl)
  | 6, _ => exact lv_tableIn (off := 337) (tgt := 370) X.1.1 X.1.2.1 dL_law_33 (by decide) (by decide) (by decide) (by decide) (lc_wrong X hr I hmc hms nx H locs ls hP hS hl)
  | 7, _ => exact lv_tableIn (off := 350) (tgt := 383) X.1.1 X.1.2.1 dL_law_33 (by decide) (by decide) (by decide) (by decide) (lc_untrue X hr I hmc hms nx H locs ls hP hS hl)
  | 8, _ => exact lv_tableIn (off := 363) (tgt := 396) X.1.1 X.1.2.1 dL_law_33 (by decide) (by decide) (by decide) (by decide) (lc_slip X hr I hmc hms nx H locs ls hP hS hl)
  | 9, _ => exact lv_tableIn (off := 396) (tgt := 429) X.1.1 X.1.2.1 dL_law_33 (by decide) (by decide) (by decide) (by decide) (lc_honest X hr I hmc hms nx H locs ls hP hS hl)
  | 10, _ => exact lv_tableIn (off := 409) (tgt := 442) X.1.1 X.1.2.1 dL_law_33 (by decide) (by decide) (by decide) (by decide) (lc_mended X hr I hmc hms nx H locs ls hP hS hl)
  | 11, _ => exact lv_tableIn (off := 432) (tgt := 465) X.1.1 X.1.2.1 dL_law_33 (by decide) (by decide) (by decide) (by decide) (lc_referred X hr I hmc hms nx H locs ls hP hS hl)
  | 12, _ => exact lv_tableIn (off := 455) (tgt := 488) X.1.1 X.1.2.1 dL_law_33 (by decide) (by decide) (by decide) (by decide) (lc_reads X hr I hmc hms nx H locs ls hP hS hl)
  | 13, _ => exact lv_tableIn (off := 488) (tgt := 521) X.1.1 X.1.2.1 dL_law_33 (by decide) (by decide) (by decide) (by decide) (lc_hidden X hr I hmc hms nx H locs ls hP hS hl)
  | 14, _ => exact lv_tableIn (off := 521) (tgt := 554) X.1.1 X.1.2.1 dL_law_33 (by decide) (by decide) (by decide) (by decide) (lc_unread X hr I hmc hms nx H locs ls hP hS hl)
  | 15, _ => exact lv_tableIn (off := 544) (tgt := 577) X.1.1 X.1.2.1 dL_law_33 (by decide) (by decide) (by decide) (by decide) (lc_readers X hr I hmc hms nx H locs ls hP hS hl)
  | 16, _ => exact lv_tableIn (off := 577) (tgt := 610) X.1.1 X.1.2.1 dL_law_33 (by decide) (by decide) (by decide) (by decide) (lc_blind X hr I hmc hms nx H locs ls hP hS hl)
  | 17, _ => exact lv_tableIn (off := 600) (tgt := 633) X.1.1 X.1.2.1 dL_law_33 (by decide) (by decide) (by decide) (by decide) (lc_cancel X hr I hmc hms nx H locs ls hP hS hl)
  | 18, _ => exact lv_tableIn (off := 623) (tgt := 656) X.1.1 X.1.2.1 dL_law_33 (by decide) (by decide) (by decide) (by decide) (lc_stands X hr I hmc hms nx H locs ls hP hS hl)
  | 19, _ => exact lv_tableIn (off := 656) (tgt := 689) X.1.1 X.1.2.1 dL_law_33 (by decide) (by decide) (by decide) (by decide) (lc_anew X hr I hmc hms nx H locs ls hP hS hl)
  | 20, _ => exact lv_tableIn (off := 699) (tgt := 732) X.1.1 X.1.2.1 dL_law_33 (by decide) (by decide) (by decide) (by decide) (lc_added X hr I hmc hms nx H locs ls hP hS hl)
  | 21, _ => exact lv_tableIn (off := 722) (tgt := 755) X.1.1 X.1.2.1 dL_law_33 (by decide) (by decide) (by decide) (by decide) (lc_order X hr I hmc hms nx H locs ls hP hS hl)
  | 22, _ => exact lv_tableIn (off := 756) (tgt := 789) X.1.1 X.1.2.1 dL_law_33 (by decide) (by decide) (by decide) (by decide) (lc_seed X hr I hmc hms nx H locs ls hP hS hl)
  | 23, _ => exact lv_tableIn (off := 779) (tgt := 812) X.1.1 X.1.2.1 dL_law_33 (by decide) (by decide) (by decide) (by decide) (lc_copied X hr I hmc hms nx H locs ls hP hS hl)
  | 24, _ => exact lv_tableIn (off := 802) (tgt := 835) X.1.1 X.1.2.1 dL_law_33 (by decide) (by decide) (by decide) (by decide) (lc_author X hr I hmc hms nx H locs ls hP hS hl)
  | 25, _ => exact lv_tableIn (off := 835) (tgt := 868) X.1.1 X.1.2.1 dL_law_33 (by decide) (by decide) (by decide) (by decide) (lc_corrects X hr I hmc hms nx H locs ls hP hS hl)
  | 26, _ => exact lv_tableIn (off := 878) (tgt := 911) X.1.1 X.1.2.1 dL_law_33 (by decide) (by decide) (by decide) (by decide) (lc_points X hr I hmc hms nx H locs ls hP hS hl)
  | 27, _ => exact lv_tableIn (off := 901) (tgt := 934) X.1.1 X.1.2.1 dL_law_33 (by decide) (by decide) (by decide) (by decide) (lc_keep X hr I hmc hms nx H locs ls hP hS hl)
  | 28, _ => exact lv_tableIn (off := 914) (tgt := 947) X.1.1 X.1.2.1 dL_law_33 (by decide) (by decide) (by decide) (by decide) (lc_undo X hr I hmc hms nx H locs ls hP hS hl)
  | 29, _ => exact lv_tableIn (off := 927) (tgt := 960) X.1.1 X.1.2.1 dL_law_33 (by decide) (by decide) (by decide) (by decide) (lc_check X hr I hmc hms nx H locs ls hP hS hl)
  | 30, _ => exact lv_tableIn (off := 950) (tgt := 983) X.1.1 X.1.2.1 dL_law_33 (by decide) (by decide) (by decide) (by decide) (lc_count X hr I hmc hms nx H locs ls hP hS hl)
  | 31, _ => exact lv_tableOut (tgt := 1006) X.1.1 X.1.2.1 dL_law_33 (by decide) (by decide) (nx h I H locs ls hP hS hl)
  | k + 32, hk => exact absurd hk (by omega)
end Cases
