section
variable {p : Program} {l : Launch} {e : Env} {R : Room} {s : State} {m : MethodId} {args : Array Value} {below : List Frame} {meth : Method} {c : Code} {θ : TH} {ad ad2 : Nat → Nat} {b L : Nat} {xs : Nat → Int32} {F : Nat} {RR : Nat → St → Zt → St → Prop}
set_option maxRecDepth 20000 in
theorem lc_moon (hst : ST_moon F RR) : LCS p l e R s m args below meth c θ ad ad2 b L xs F RR 212 := by
  intro C hX hbl hbA t x3 hin ht S Z M Y k n hR hk hK
  obtain ⟨r, S1, M1, e1, e2, hR⟩ := hst t S Z M (xs (x3 + 1).toNatClampNeg) (xs (x3 + 2).toNatClampNeg) ht hR
  refine k_aload_n (q := 2) C dL_law_212 rfl rfl ?_
  refine k_aload_n (q := 1) C dL_law_213 rfl rfl ?_
  refine k_iload_n (q := 0) C dL_law_214 rfl rfl ?_
  refine k_iconst (v := 1) C dL_law_215 rfl ?_
  refine k_iadd C dL_law_216 ?_
  refine k_sld C hX hbl hbA (hin 1 (by decide) (by decide)) dL_law_217 ?_
  refine k_aload_n (q := 1) C dL_law_218 rfl rfl ?_
  refine k_iload_n (q := 0) C dL_law_219 rfl rfl ?_
  refine k_iconst (v := 2) C dL_law_220 rfl ?_
  refine k_iadd C dL_law_221 ?_
  refine k_sld C hX hbl hbA (hin 2 (by decide) (by decide)) dL_law_222 ?_
  refine k_fC C (ct_X10_moon ((r, S1)) e1) my_10_moon ml_L_13 rfl ⟨Nat.le_of_ble_eq_true rfl, Nat.le_of_ble_eq_true rfl⟩ (recvC (b := 200) (ci := 10) rfl ⟨rfl, rfl⟩ am_219 rfl rfl) rfl (Nat.le_of_ble_eq_true rfl) dL_law_223 (bud_0 hk) (fun v w hp => ?_)
  obtain ⟨rfl, rfl⟩ := hp
  refine k_aload_n (q := 3) C dL_law_226 rfl rfl ?_
  refine k_aload_n (q := 1) C dL_law_227 rfl rfl ?_
  refine k_iload_n (q := 0) C dL_law_228 rfl rfl ?_
  refine k_iconst (v := 1) C dL_law_229 rfl ?_
  refine k_iadd C dL_law_230 ?_
  refine k_sld C hX hbl hbA (hin 1 (by decide) (by decide)) dL_law_231 ?_
  refine k_aload_n (q := 1) C dL_law_232 rfl rfl ?_
  refine k_iload_n (q := 0) C dL_law_233 rfl rfl ?_
  refine k_iconst (v := 2) C dL_law_234 rfl ?_
  refine k_iadd C dL_law_235 ?_
  refine k_sld C hX hbl hbA (hin 2 (by decide) (by decide)) dL_law_236 ?_
  refine k_fM C (ct_X11_moon ((r, M1)) e2) my_11_moon ml_L_17 rfl ⟨Nat.le_of_ble_eq_true rfl, Nat.le_of_ble_eq_true rfl⟩ recvM rfl (Nat.le_of_ble_eq_true rfl) dL_law_237 (bud_0 hk) (fun v w hp => ?_)
  obtain ⟨rfl, rfl⟩ := hp
  refine k_icmp_eq_rf (tgt := 1666) C dL_law_240 (by decide) ?_
  exact hK _ _ _ _ _ _ hR (bud_f hk)
set_option maxRecDepth 20000 in
theorem lc_valley (hst : ST_valley F RR) : LCS p l e R s m args below meth c θ ad ad2 b L xs F RR 245 := by
  intro C hX hbl hbA t x3 hin ht S Z M Y k n hR hk hK
  obtain ⟨r, S1, M1, e1, e2, hR⟩ := hst t S Z M ht hR
  refine k_aload_n (q := 2) C dL_law_245 rfl rfl ?_
  refine k_fC C (ct_X10_valley ((r, S1)) e1) my_10_valley ml_L_18 rfl ⟨Nat.le_of_ble_eq_true rfl, Nat.le_of_ble_eq_true rfl⟩ (recvC (b := 200) (ci := 10) rfl ⟨rfl, rfl⟩ am_219 rfl rfl) rfl (Nat.le_of_ble_eq_true rfl) dL_law_246 (bud_0 hk) (fun v w hp => ?_)
  obtain ⟨rfl, rfl⟩ := hp
  refine k_aload_n (q := 3) C dL_law_249 rfl rfl ?_
  refine k_fM C (ct_X11_valley ((r, M1)) e2) my_11_valley ml_L_22 rfl ⟨Nat.le_of_ble_eq_true rfl, Nat.le_of_ble_eq_true rfl⟩ recvM rfl (Nat.le_of_ble_eq_true rfl) dL_law_250 (bud_0 hk) (fun v w hp => ?_)
  obtain ⟨rfl, rfl⟩ := hp
  refine k_icmp_eq_rf (tgt := 1666) C dL_law_253 (by decide) ?_
  exact hK _ _ _ _ _ _ hR (bud_f hk)
set_option maxRecDepth 20000 in
theorem lc_hills (hst : ST_hills F RR) : LCS p l e R s m args below meth c θ ad ad2 b L xs F RR 258 := by
  intro C hX hbl hbA t x3 hin ht S Z M Y k n hR hk hK
  obtain ⟨r, S1, M1, e1, e2, hR⟩ := hst t S Z M (xs (x3 + 1).toNatClampNeg) (xs (x3 + 2).toNatClampNeg) ht hR
  refine k_aload_n (q := 2) C dL_law_258 rfl rfl ?_
  refine k_aload_n (q := 1) C dL_law_259 rfl rfl ?_
  refine k_iload_n (q := 0) C dL_law_260 rfl rfl ?_
  refine k_iconst (v := 1) C dL_law_261 rfl ?_
  refine k_iadd C dL_law_262 ?_
  refine k_sld C hX hbl hbA (hin 1 (by decide) (by decide)) dL_law_263 ?_
  refine k_aload_n (q := 1) C dL_law_264 rfl rfl ?_
  refine k_iload_n (q := 0) C dL_law_265 rfl rfl ?_
  refine k_iconst (v := 2) C dL_law_266 rfl ?_
  refine k_iadd C dL_law_267 ?_
  refine k_sld C hX hbl hbA (hin 2 (by decide) (by decide)) dL_law_268 ?_
  refine k_fC C (ct_X10_hills ((r, S1)) e1) my_10_hills ml_L_23 rfl ⟨Nat.le_of_ble_eq_true rfl, Nat.le_of_ble_eq_true rfl⟩ (recvC (b := 200) (ci := 10) rfl ⟨rfl, rfl⟩ am_219 rfl rfl) rfl (Nat.le_of_ble_eq_true rfl) dL_law_269 (bud_0 hk) (fun v w hp => ?_)
  obtain ⟨rfl, rfl⟩ := hp
  refine k_aload_n (q := 3) C dL_law_272 rfl rfl ?_
  refine k_aload_n (q := 1) C dL_law_273 rfl rfl ?_
  refine k_iload_n (q := 0) C dL_law_274 rfl rfl ?_
  refine k_iconst (v := 1) C dL_law_275 rfl ?_
  refine k_iadd C dL_law_276 ?_
  refine k_sld C hX hbl hbA (hin 1 (by decide) (by decide)) dL_law_277 ?_
  refine k_aload_n (q := 1) C dL_law_278 rfl rfl ?_
  refine k_iload_n (q := 0) C dL_law_279 rfl rfl ?_
  refine k_iconst (v := 2) C dL_law_280 rfl ?_
  refine k_iadd C dL_law_281 ?_
  refine k_sld C hX hbl hbA (hin 2 (by decide) (by decide)) dL_law_282 ?_
  refine k_fM C (ct_X11_hills ((r, M1)) e2) my_11_hills ml_L_26 rfl ⟨Nat.le_of_ble_eq_true rfl, Nat.le_of_ble_eq_true rfl⟩ recvM rfl (Nat.le_of_ble_eq_true rfl) dL_law_283 (bud_0 hk) (fun v w hp => ?_)
  obtain ⟨rfl, rfl⟩ := hp
  refine k_icmp_eq_rf (tgt := 1666) C dL_law_286 (by decide) ?_
  exact hK _ _ _ _ _ _ hR (bud_f hk)
set_option maxRecDepth 20000 in
theorem lc_way (hst : ST_way F RR) : LCS p l e R s m args below meth c θ ad ad2 b L xs F RR 291 := by
  intro C hX hbl hbA t x3 hin ht S Z M Y k n hR hk hK
  obtain ⟨r, S1, M1, e1, e2, hR⟩ := hst t S Z M (xs (x3 + 1).toNatClampNeg) (xs (x3 + 2).toNatClampNeg) ht hR
  refine k_aload_n (q := 2) C dL_law_291 rfl rfl ?_
  refine k_aload_n (q := 1) C dL_law_292 rfl rfl ?_
  refine k_iload_n (q := 0) C dL_law_293 rfl rfl ?_
  refine k_iconst (v := 1) C dL_law_294 rfl ?_
  refine k_iadd C dL_law_295 ?_
  refine k_sld C hX hbl hbA (hin 1 (by decide) (by decide)) dL_law_296 ?_
  refine k_aload_n (q := 1) C dL_law_297 rfl rfl ?_
  refine k_iload_n (q := 0) C dL_law_298 rfl rfl ?_
  refine k_iconst (v := 2) C dL_law_299 rfl ?_
  refine k_iadd C dL_law_300 ?_
  refine k_sld C hX hbl hbA (hin 2 (by decide) (by decide)) dL_law_301 ?_
  refine k_fC C (ct_X10_way ((r, S1)) e1) my_10_way ml_L_27 rfl ⟨Nat.le_of_ble_eq_true rfl, Nat.le_of_ble_eq_true rfl⟩ (recvC (b := 200) (ci := 10) rfl ⟨rfl, rfl⟩ am_219 rfl rfl) rfl (Nat.le_of_ble_eq_true rfl) dL_law_302 (bud_0 hk) (fun v w hp => ?_)
  obtain ⟨rfl, rfl⟩ := hp
  refine k_aload_n (q := 3) C dL_law_305 rfl rfl ?_
  refine k_aload_n (q := 1) C dL_law_306 rfl rfl ?_
  refine k_iload_n (q := 0) C dL_law_307 rfl rfl ?_
  refine k_iconst (v := 1) C dL_law_308 rfl ?_
  refine k_iadd C dL_law_309 ?_
  refine k_sld C hX hbl hbA (hin 1 (by decide) (by decide)) dL_law_310 ?_
  refine k_aload_n (q := 1) C dL_law_311 rfl rfl ?_
  refine k_iload_n (q := 0) C dL_law_312 rfl rfl ?_
  refine k_iconst (v := 2) C dL_law_313 rfl ?_
  refine k_iadd C dL_law_314 ?_
  refine k_sld C hX hbl hbA (hin 2 (by decide) (by decide)) dL_law_315 ?_
  refine k_fM C (ct_X11_way ((r, M1)) e2) my_11_way ml_L_30 rfl ⟨Nat.le_of_ble_eq_true rfl, Nat.le_of_ble_eq_true rfl⟩ recvM rfl (Nat.le_of_ble_eq_true rfl) dL_law_316 (bud_0 hk) (fun v w hp => ?_)
  obtain ⟨rfl, rfl⟩ := hp
  refine k_icmp_eq_rf (tgt := 1666) C dL_law_319 (by decide) ?_
  exact hK _ _ _ _ _ _ hR (bud_f hk)
set_option maxRecDepth 20000 in
theorem lc_mend (hst : ST_mend F RR) : LCS p l e R s m args below meth c θ ad ad2 b L xs F RR 324 := by
  intro C hX hbl hbA t x3 hin ht S Z M Y k n hR hk hK
  obtain ⟨r, S1, M1, e1, e2, hR⟩ := hst t S Z M (xs (x3 + 1).toNatClampNeg) (xs (x3 + 2).toNatClampNeg) (xs (x3 + 3).toNatClampNeg) ht hR
  refine k_aload_n (q := 2) C dL_law_324 rfl rfl ?_
  refine k_aload_n (q := 1) C dL_law_325 rfl rfl ?_
  refine k_iload_n (q := 0) C dL_law_326 rfl rfl ?_
  refine k_iconst (v := 1) C dL_law_327 rfl ?_
  refine k_iadd C dL_law_328 ?_
  refine k_sld C hX hbl hbA (hin 1 (by decide) (by decide)) dL_law_329 ?_
  refine k_aload_n (q := 1) C dL_law_330 rfl rfl ?_
  refine k_iload_n (q := 0) C dL_law_331 rfl rfl ?_
  refine k_iconst (v := 2) C dL_law_332 rfl ?_
  refine k_iadd C dL_law_333 ?_
  refine k_sld C hX hbl hbA (hin 2 (by decide) (by decide)) dL_law_334 ?_
  refine k_aload_n (q := 1) C dL_law_335 rfl rfl ?_
  refine k_iload_n (q := 0) C dL_law_336 rfl rfl ?_
  refine k_iconst (v := 3) C dL_law_337 rfl ?_
  refine k_iadd C dL_law_338 ?_
  refine k_sld C hX hbl hbA (hin 3 (by decide) (by decide)) dL_law_339 ?_
  refine k_fC C (ct_X10_mend ((r, S1)) e1) my_10_mend ml_L_31 rfl ⟨Nat.le_of_ble_eq_true rfl, Nat.le_of_ble_eq_true rfl⟩ (recvC (b := 200) (ci := 10) rfl ⟨rfl, rfl⟩ am_219 rfl rfl) rfl (Nat.le_of_ble_eq_true rfl) dL_law_340 (bud_0 hk) (fun v w hp => ?_)
  obtain ⟨rfl, rfl⟩ := hp
  refine k_aload_n (q := 3) C dL_law_343 rfl rfl ?_
  refine k_aload_n (q := 1) C dL_law_344 rfl rfl ?_
  refine k_iload_n (q := 0) C dL_law_345 rfl rfl ?_
  refine k_iconst (v := 1) C dL_law_346 rfl ?_
  refine k_iadd C dL_law_347 ?_
  refine k_sld C hX hbl hbA (hin 1 (by decide) (by decide)) dL_law_348 ?_
  refine k_aload_n (q := 1) C dL_law_349 rfl rfl ?_
  refine k_iload_n (q := 0) C dL_law_350 rfl rfl ?_
  refine k_iconst (v := 2) C dL_law_351 rfl ?_
  refine k_iadd C dL_law_352 ?_
  refine k_sld C hX hbl hbA (hin 2 (by decide) (by decide)) dL_law_353 ?_
  refine k_aload_n (q := 1) C dL_law_354 rfl rfl ?_
  refine k_iload_n (q := 0) C dL_law_355 rfl rfl ?_
  refine k_iconst (v := 3) C dL_law_356 rfl ?_
  refine k_iadd C dL_law_357 ?_
  refine k_sld C hX hbl hbA (hin 3 (by decide) (by decide)) dL_law_358 ?_
  refine k_fM C (ct_X11_mend ((r, M1)) e2) my_11_mend ml_L_35 rfl ⟨Nat.le_of_ble_eq_true rfl, Nat.le_of_ble_eq_true rfl⟩ recvM rfl (Nat.le_of_ble_eq_true rfl) dL_law_359 (bud_0 hk) (fun v w hp => ?_)
  obtain ⟨rfl, rfl⟩ := hp
  refine k_icmp_eq_rf (tgt := 1666) C dL_law_362 (by decide) ?_
  exact hK _ _ _ _ _ _ hR (bud_f hk)
set_option maxRecDepth 20000 in
theorem lc_feed (hst : ST_feed F RR) : LCS p l e R s m args below meth c θ ad ad2 b L xs F RR 367 := by
  intro C hX hbl hbA t x3 hin ht S Z M Y k n hR hk hK
  obtain ⟨r, S1, M1, e1, e2, hR⟩ := hst t S Z M (xs (x3 + 1).toNatClampNeg) ht hR
  refine k_aload_n (q := 2) C dL_law_367 rfl rfl ?_
  refine k_aload_n (q := 1) C dL_law_368 rfl rfl ?_
  refine k_iload_n (q := 0) C dL_law_369 rfl rfl ?_
  refine k_iconst (v := 1) C dL_law_370 rfl ?_
  refine k_iadd C dL_law_371 ?_
  refine k_sld C hX hbl hbA (hin 1 (by decide) (by decide)) dL_law_372 ?_
  refine k_fC C (ct_X10_feed ((r, S1)) e1) my_10_feed ml_L_36 rfl ⟨Nat.le_of_ble_eq_true rfl, Nat.le_of_ble_eq_true rfl⟩ (recvC (b := 200) (ci := 10) rfl ⟨rfl, rfl⟩ am_219 rfl rfl) rfl (Nat.le_of_ble_eq_true rfl) dL_law_373 (bud_0 hk) (fun v w hp => ?_)
  obtain ⟨rfl, rfl⟩ := hp
  refine k_aload_n (q := 3) C dL_law_376 rfl rfl ?_
  refine k_aload_n (q := 1) C dL_law_377 rfl rfl ?_
  refine k_iload_n (q := 0) C dL_law_378 rfl rfl ?_
  refine k_iconst (v := 1) C dL_law_379 rfl ?_
  refine k_iadd C dL_law_380 ?_
  refine k_sld C hX hbl hbA (hin 1 (by decide) (by decide)) dL_law_381 ?_
  refine k_fM C (ct_X11_feed ((r, M1)) e2) my_11_feed ml_L_40 rfl ⟨Nat.le_of_ble_eq_true rfl, Nat.le_of_ble_eq_true rfl⟩ recvM rfl (Nat.le_of_ble_eq_true rfl) dL_law_382 (bud_0 hk) (fun v w hp => ?_)
  obtain ⟨rfl, rfl⟩ := hp
  refine k_icmp_eq_rf (tgt := 1666) C dL_law_385 (by decide) ?_
  exact hK _ _ _ _ _ _ hR (bud_f hk)
set_option maxRecDepth 20000 in
theorem lc_law (hst : ST_law F RR) : LCS p l e R s m args below meth c θ ad ad2 b L xs F RR 390 := by
  intro C hX hbl hbA t x3 hin ht S Z M Y k n hR hk hK
  obtain ⟨r, S1, Z1, M1, e1, e2, hR⟩ := hst t S Z M (xs (x3 + 1).toNatClampNeg) ht hR
  refine k_aload_n (q := 2) C dL_law_390 rfl rfl ?_
  refine k_aload_n (q := 1) C dL_law_391 rfl rfl ?_
  refine k_iload_n (q := 0) C dL_law_392 rfl rfl ?_
  refine k_iconst (v := 1) C dL_law_393 rfl ?_
  refine k_iadd C dL_law_394 ?_
  refine k_sld C hX hbl hbA (hin 1 (by decide) (by decide)) dL_law_395 ?_
  refine k_fC C (ct_X10_law ((r, S1, Z1)) e1) my_10_law ml_L_41 rfl ⟨Nat.le_of_ble_eq_true rfl, Nat.le_of_ble_eq_true rfl⟩ (recvC (b := 200) (ci := 10) rfl ⟨rfl, rfl⟩ am_219 rfl rfl) rfl (Nat.le_of_ble_eq_true rfl) dL_law_396 (bud_a hk (nd_L)) (fun v w hp => ?_)
  obtain ⟨rfl, Y1, rfl⟩ := hp
  refine k_aload_n (q := 3) C dL_law_399 rfl rfl ?_
  refine k_aload_n (q := 1) C dL_law_400 rfl rfl ?_
  refine k_iload_n (q := 0) C dL_law_401 rfl rfl ?_
  refine k_iconst (v := 1) C dL_law_402 rfl ?_
  refine k_iadd C dL_law_403 ?_
  refine k_sld C hX hbl hbA (hin 1 (by decide) (by decide)) dL_law_404 ?_
  refine k_fM C (ct_X11_law ((r, M1)) e2) my_11_law ml_L_44 rfl ⟨Nat.le_of_ble_eq_true rfl, Nat.le_of_ble_eq_true rfl⟩ recvM rfl (Nat.le_of_ble_eq_true rfl) dL_law_405 (bud_b hk (nd_L)) (fun v w hp => ?_)
  obtain ⟨rfl, rfl⟩ := hp
  refine k_icmp_eq_rf (tgt := 1666) C dL_law_408 (by decide) ?_
  exact hK _ _ _ _ _ _ hR (bud_e hk (nd_L))
set_option maxRecDepth 20000 in
theorem lc_state (hst : ST_state F RR) : LCS p l e R s m args below meth c θ ad ad2 b L xs F RR 413 := by
  intro C hX hbl hbA t x3 hin ht S Z M Y k n hR hk hK
  obtain ⟨r, e1, e2, hR⟩ := hst t S Z M (xs (x3 + 1).toNatClampNeg) (xs (x3 + 2).toNatClampNeg) ht hR
  refine k_aload_n (q := 2) C dL_law_413 rfl rfl ?_
  refine k_aload_n (q := 1) C dL_law_414 rfl rfl ?_
  refine k_iload_n (q := 0) C dL_law_415 rfl rfl ?_
  refine k_iconst (v := 1) C dL_law_416 rfl ?_
  refine k_iadd C dL_law_417 ?_
  refine k_sld C hX hbl hbA (hin 1 (by decide) (by decide)) dL_law_418 ?_
  refine k_aload_n (q := 1) C dL_law_419 rfl rfl ?_
  refine k_iload_n (q := 0) C dL_law_420 rfl rfl ?_
  refine k_iconst (v := 2) C dL_law_421 rfl ?_
  refine k_iadd C dL_law_422 ?_
  refine k_sld C hX hbl hbA (hin 2 (by decide) (by decide)) dL_law_423 ?_
  refine k_fC C (ct_X10_state (r) e1) my_10_state ml_L_45 rfl ⟨Nat.le_of_ble_eq_true rfl, Nat.le_of_ble_eq_true rfl⟩ (recvC (b := 200) (ci := 10) rfl ⟨rfl, rfl⟩ am_219 rfl rfl) rfl (Nat.le_of_ble_eq_true rfl) dL_law_424 (bud_0 hk) (fun v w hp => ?_)
  obtain ⟨rfl, rfl⟩ := hp
  refine k_aload_n (q := 3) C dL_law_427 rfl rfl ?_
  refine k_aload_n (q := 1) C dL_law_428 rfl rfl ?_
  refine k_iload_n (q := 0) C dL_law_429 rfl rfl ?_
  refine k_iconst (v := 1) C dL_law_430 rfl ?_
  refine k_iadd C dL_law_431 ?_
  refine k_sld C hX hbl hbA (hin 1 (by decide) (by decide)) dL_law_432 ?_
  refine k_aload_n (q := 1) C dL_law_433 rfl rfl ?_
  refine k_iload_n (q := 0) C dL_law_434 rfl rfl ?_
  refine k_iconst (v := 2) C dL_law_435 rfl ?_
  refine k_iadd C dL_law_436 ?_
  refine k_sld C hX hbl hbA (hin 2 (by decide) (by decide)) dL_law_437 ?_
  refine k_fM C (ct_X11_state (r) e2) my_11_state ml_L_48 rfl ⟨Nat.le_of_ble_eq_true rfl, Nat.le_of_ble_eq_true rfl⟩ recvM rfl (Nat.le_of_ble_eq_true rfl) dL_law_438 (bud_0 hk) (fun v w hp => ?_)
  obtain ⟨rfl, rfl⟩ := hp
  refine k_icmp_eq_rf (tgt := 1666) C dL_law_441 (by decide) ?_
  exact hK _ _ _ _ _ _ hR (bud_f hk)
set_option maxRecDepth 20000 in
theorem lc_deed (hst : ST_deed F RR) : LCS p l e R s m args below meth c θ ad ad2 b L xs F RR 446 := by
  intro C hX hbl hbA t x3 hin ht S Z M Y k n hR hk hK
  obtain ⟨r, S1, M1, e1, e2, hR⟩ := hst t S Z M (xs (x3 + 1).toNatClampNeg) (xs (x3 + 2).toNatClampNeg) ht hR
  refine k_aload_n (q := 2) C dL_law_446 rfl rfl ?_
  refine k_aload_n (q := 1) C dL_law_447 rfl rfl ?_
  refine k_iload_n (q := 0) C dL_law_448 rfl rfl ?_
  refine k_iconst (v := 1) C dL_law_449 rfl ?_
  refine k_iadd C dL_law_450 ?_
  refine k_sld C hX hbl hbA (hin 1 (by decide) (by decide)) dL_law_451 ?_
  refine k_aload_n (q := 1) C dL_law_452 rfl rfl ?_
  refine k_iload_n (q := 0) C dL_law_453 rfl rfl ?_
  refine k_iconst (v := 2) C dL_law_454 rfl ?_
  refine k_iadd C dL_law_455 ?_
  refine k_sld C hX hbl hbA (hin 2 (by decide) (by decide)) dL_law_456 ?_
  refine k_fC C (ct_X10_deed ((r, S1)) e1) my_10_deed ml_L_49 rfl ⟨Nat.le_of_ble_eq_true rfl, Nat.le_of_ble_eq_true rfl⟩ (recvC (b := 200) (ci := 10) rfl ⟨rfl, rfl⟩ am_219 rfl rfl) rfl (Nat.le_of_ble_eq_true rfl) dL_law_457 (bud_0 hk) (fun v w hp => ?_)
  obtain ⟨rfl, rfl⟩ := hp
  refine k_aload_n (q := 3) C dL_law_460 rfl rfl ?_
  refine k_aload_n (q := 1) C dL_law_461 rfl rfl ?_
  refine k_iload_n (q := 0) C dL_law_462 rfl rfl ?_
  refine k_iconst (v := 1) C dL_law_463 rfl ?_
  refine k_iadd C dL_law_464 ?_
  refine k_sld C hX hbl hbA (hin 1 (by decide) (by decide)) dL_law_465 ?_
  refine k_aload_n (q := 1) C dL_law_466 rfl rfl ?_
  refine k_iload_n (q := 0) C dL_law_467 rfl rfl ?_
  refine k_iconst (v := 2) C dL_law_468 rfl ?_
  refine k_iadd C dL_law_469 ?_
  refine k_sld C hX hbl hbA (hin 2 (by decide) (by decide)) dL_law_470 ?_
  refine k_fM C (ct_X11_deed ((r, M1)) e2) my_11_deed ml_L_52 rfl ⟨Nat.le_of_ble_eq_true rfl, Nat.le_of_ble_eq_true rfl⟩ recvM rfl (Nat.le_of_ble_eq_true rfl) dL_law_471 (bud_0 hk) (fun v w hp => ?_)
  obtain ⟨rfl, rfl⟩ := hp
  refine k_icmp_eq_rf (tgt := 1666) C dL_law_474 (by decide) ?_
  exact hK _ _ _ _ _ _ hR (bud_f hk)
set_option maxRecDepth 20000 in
theorem lc_deeds (hst : ST_deeds F RR) : LCS p l e R s m args below meth c θ ad ad2 b L xs F RR 479 := by
  intro C hX hbl hbA t x3 hin ht S Z M Y k n hR hk hK
  obtain ⟨r, S1, M1, e1, e2, hR⟩ := hst t S Z M (xs (x3 + 1).toNatClampNeg) (xs (x3 + 2).toNatClampNeg) (xs (x3 + 3).toNatClampNeg) ht hR
  refine k_aload_n (q := 2) C dL_law_479 rfl rfl ?_
  refine k_aload_n (q := 1) C dL_law_480 rfl rfl ?_
  refine k_iload_n (q := 0) C dL_law_481 rfl rfl ?_
  refine k_iconst (v := 1) C dL_law_482 rfl ?_
  refine k_iadd C dL_law_483 ?_
  refine k_sld C hX hbl hbA (hin 1 (by decide) (by decide)) dL_law_484 ?_
  refine k_aload_n (q := 1) C dL_law_485 rfl rfl ?_
  refine k_iload_n (q := 0) C dL_law_486 rfl rfl ?_
  refine k_iconst (v := 2) C dL_law_487 rfl ?_
  refine k_iadd C dL_law_488 ?_
  refine k_sld C hX hbl hbA (hin 2 (by decide) (by decide)) dL_law_489 ?_
  refine k_aload_n (q := 1) C dL_law_490 rfl rfl ?_
  refine k_iload_n (q := 0) C dL_law_491 rfl rfl ?_
  refine k_iconst (v := 3) C dL_law_492 rfl ?_
  refine k_iadd C dL_law_493 ?_
  refine k_sld C hX hbl hbA (hin 3 (by decide) (by decide)) dL_law_494 ?_
  refine k_fC C (ct_X10_deeds ((r, S1)) e1) my_10_deeds ml_L_53 rfl ⟨Nat.le_of_ble_eq_true rfl, Nat.le_of_ble_eq_true rfl⟩ (recvC (b := 200) (ci := 10) rfl ⟨rfl, rfl⟩ am_219 rfl rfl) rfl (Nat.le_of_ble_eq_true rfl) dL_law_495 (bud_0 hk) (fun v w hp => ?_)
  obtain ⟨rfl, rfl⟩ := hp
  refine k_aload_n (q := 3) C dL_law_498 rfl rfl ?_
  refine k_aload_n (q := 1) C dL_law_499 rfl rfl ?_
  refine k_iload_n (q := 0) C dL_law_500 rfl rfl ?_
  refine k_iconst (v := 1) C dL_law_501 rfl ?_
  refine k_iadd C dL_law_502 ?_
  refine k_sld C hX hbl hbA (hin 1 (by decide) (by decide)) dL_law_503 ?_
  refine k_aload_n (q := 1) C dL_law_504 rfl rfl ?_
  refine k_iload_n (q := 0) C dL_law_505 rfl rfl ?_
  refine k_iconst (v := 2) C dL_law_506 rfl ?_
  refine k_iadd C dL_law_507 ?_
  refine k_sld C hX hbl hbA (hin 2 (by decide) (by decide)) dL_law_508 ?_
  refine k_aload_n (q := 1) C dL_law_509 rfl rfl ?_
  refine k_iload_n (q := 0) C dL_law_510 rfl rfl ?_
  refine k_iconst (v := 3) C dL_law_511 rfl ?_
  refine k_iadd C dL_law_512 ?_
  refine k_sld C hX hbl hbA (hin 3 (by decide) (by decide)) dL_law_513 ?_
  refine k_fM C (ct_X11_deeds ((r, M1)) e2) my_11_deeds ml_L_56 rfl ⟨Nat.le_of_ble_eq_true rfl, Nat.le_of_ble_eq_true rfl⟩ recvM rfl (Nat.le_of_ble_eq_true rfl) dL_law_514 (bud_0 hk) (fun v w hp => ?_)
  obtain ⟨rfl, rfl⟩ := hp
  refine k_icmp_eq_rf (tgt := 1666) C dL_law_517 (by decide) ?_
  exact hK _ _ _ _ _ _ hR (bud_f hk)
set_option maxRecDepth 20000 in
theorem lc_of (hst : ST_of F RR) : LCS p l e R s m args below meth c θ ad ad2 b L xs F RR 522 := by
  intro C hX hbl hbA t x3 hin ht S Z M Y k n hR hk hK
  obtain ⟨r, e1, e2, hR⟩ := hst t S Z M (xs (x3 + 1).toNatClampNeg) (xs (x3 + 2).toNatClampNeg) ht hR
  refine k_aload_n (q := 2) C dL_law_522 rfl rfl ?_
  refine k_aload_n (q := 1) C dL_law_523 rfl rfl ?_
  refine k_iload_n (q := 0) C dL_law_524 rfl rfl ?_
  refine k_iconst (v := 1) C dL_law_525 rfl ?_
  refine k_iadd C dL_law_526 ?_
  refine k_sld C hX hbl hbA (hin 1 (by decide) (by decide)) dL_law_527 ?_
  refine k_aload_n (q := 1) C dL_law_528 rfl rfl ?_
  refine k_iload_n (q := 0) C dL_law_529 rfl rfl ?_
  refine k_iconst (v := 2) C dL_law_530 rfl ?_
  refine k_iadd C dL_law_531 ?_
  refine k_sld C hX hbl hbA (hin 2 (by decide) (by decide)) dL_law_532 ?_
  refine k_fC C (ct_X10_of (r) e1) my_10_of ml_L_57 rfl ⟨Nat.le_of_ble_eq_true rfl, Nat.le_of_ble_eq_true rfl⟩ (recvC (b := 200) (ci := 10) rfl ⟨rfl, rfl⟩ am_219 rfl rfl) rfl (Nat.le_of_ble_eq_true rfl) dL_law_533 (bud_0 hk) (fun v w hp => ?_)
  obtain ⟨rfl, rfl⟩ := hp
  refine k_aload_n (q := 3) C dL_law_536 rfl rfl ?_
  refine k_aload_n (q := 1) C dL_law_537 rfl rfl ?_
  refine k_iload_n (q := 0) C dL_law_538 rfl rfl ?_
  refine k_iconst (v := 1) C dL_law_539 rfl ?_
  refine k_iadd C dL_law_540 ?_
  refine k_sld C hX hbl hbA (hin 1 (by decide) (by decide)) dL_law_541 ?_
  refine k_aload_n (q := 1) C dL_law_542 rfl rfl ?_
  refine k_iload_n (q := 0) C dL_law_543 rfl rfl ?_
  refine k_iconst (v := 2) C dL_law_544 rfl ?_
  refine k_iadd C dL_law_545 ?_
  refine k_sld C hX hbl hbA (hin 2 (by decide) (by decide)) dL_law_546 ?_
  refine k_fM C (ct_X11_of (r) e2) my_11_of ml_L_60 rfl ⟨Nat.le_of_ble_eq_true rfl, Nat.le_of_ble_eq_true rfl⟩ recvM rfl (Nat.le_of_ble_eq_true rfl) dL_law_547 (bud_0 hk) (fun v w hp => ?_)
  obtain ⟨rfl, rfl⟩ := hp
  refine k_icmp_eq_rf (tgt := 1666) C dL_law_550 (by decide) ?_
  exact hK _ _ _ _ _ _ hR (bud_f hk)
set_option maxRecDepth 20000 in
theorem lc_costs (hst : ST_costs F RR) : LCS p l e R s m args below meth c θ ad ad2 b L xs F RR 555 := by
  intro C hX hbl hbA t x3 hin ht S Z M Y k n hR hk hK
  obtain ⟨r, S1, Z1, M1, e1, e2, hR⟩ := hst t S Z M (xs (x3 + 1).toNatClampNeg) (xs (x3 + 2).toNatClampNeg) (xs (x3 + 3).toNatClampNeg) ht hR
  refine k_aload_n (q := 2) C dL_law_555 rfl rfl ?_
  refine k_aload_n (q := 1) C dL_law_556 rfl rfl ?_
  refine k_iload_n (q := 0) C dL_law_557 rfl rfl ?_
  refine k_iconst (v := 1) C dL_law_558 rfl ?_
  refine k_iadd C dL_law_559 ?_
  refine k_sld C hX hbl hbA (hin 1 (by decide) (by decide)) dL_law_560 ?_
  refine k_aload_n (q := 1) C dL_law_561 rfl rfl ?_
  refine k_iload_n (q := 0) C dL_law_562 rfl rfl ?_
  refine k_iconst (v := 2) C dL_law_563 rfl ?_
  refine k_iadd C dL_law_564 ?_
  refine k_sld C hX hbl hbA (hin 2 (by decide) (by decide)) dL_law_565 ?_
  refine k_aload_n (q := 1) C dL_law_566 rfl rfl ?_
  refine k_iload_n (q := 0) C dL_law_567 rfl rfl ?_
  refine k_iconst (v := 3) C dL_law_568 rfl ?_
  refine k_iadd C dL_law_569 ?_
  refine k_sld C hX hbl hbA (hin 3 (by decide) (by decide)) dL_law_570 ?_
  refine k_fC C (ct_X10_costs ((r, S1, Z1)) e1) my_10_costs ml_L_61 rfl ⟨Nat.le_of_ble_eq_true rfl, Nat.le_of_ble_eq_true rfl⟩ (recvC (b := 200) (ci := 10) rfl ⟨rfl, rfl⟩ am_219 rfl rfl) rfl (Nat.le_of_ble_eq_true rfl) dL_law_571 (bud_a hk (nd_1 Z)) (fun v w hp => ?_)
  obtain ⟨rfl, Y1, rfl⟩ := hp
  refine k_aload_n (q := 3) C dL_law_574 rfl rfl ?_
  refine k_aload_n (q := 1) C dL_law_575 rfl rfl ?_
  refine k_iload_n (q := 0) C dL_law_576 rfl rfl ?_
  refine k_iconst (v := 1) C dL_law_577 rfl ?_
  refine k_iadd C dL_law_578 ?_
  refine k_sld C hX hbl hbA (hin 1 (by decide) (by decide)) dL_law_579 ?_
  refine k_aload_n (q := 1) C dL_law_580 rfl rfl ?_
  refine k_iload_n (q := 0) C dL_law_581 rfl rfl ?_
  refine k_iconst (v := 2) C dL_law_582 rfl ?_
  refine k_iadd C dL_law_583 ?_
  refine k_sld C hX hbl hbA (hin 2 (by decide) (by decide)) dL_law_584 ?_
  refine k_aload_n (q := 1) C dL_law_585 rfl rfl ?_
  refine k_iload_n (q := 0) C dL_law_586 rfl rfl ?_
  refine k_iconst (v := 3) C dL_law_587 rfl ?_
  refine k_iadd C dL_law_588 ?_
  refine k_sld C hX hbl hbA (hin 3 (by decide) (by decide)) dL_law_589 ?_
  refine k_fM C (ct_X11_costs ((r, M1)) e2) my_11_costs ml_L_64 rfl ⟨Nat.le_of_ble_eq_true rfl, Nat.le_of_ble_eq_true rfl⟩ recvM rfl (Nat.le_of_ble_eq_true rfl) dL_law_590 (bud_b hk (nd_1 Z)) (fun v w hp => ?_)
  obtain ⟨rfl, rfl⟩ := hp
  refine k_icmp_eq_rf (tgt := 1666) C dL_law_593 (by decide) ?_
  exact hK _ _ _ _ _ _ hR (bud_e hk (nd_1 Z))
set_option maxRecDepth 20000 in
theorem lc_may (hst : ST_may F RR) : LCS p l e R s m args below meth c θ ad ad2 b L xs F RR 598 := by
  intro C hX hbl hbA t x3 hin ht S Z M Y k n hR hk hK
  obtain ⟨r, S1, Z1, M1, e1, e2, hR⟩ := hst t S Z M (xs (x3 + 1).toNatClampNeg) (xs (x3 + 2).toNatClampNeg) ht hR
  refine k_aload_n (q := 2) C dL_law_598 rfl rfl ?_
  refine k_aload_n (q := 1) C dL_law_599 rfl rfl ?_
  refine k_iload_n (q := 0) C dL_law_600 rfl rfl ?_
  refine k_iconst (v := 1) C dL_law_601 rfl ?_
  refine k_iadd C dL_law_602 ?_
  refine k_sld C hX hbl hbA (hin 1 (by decide) (by decide)) dL_law_603 ?_
  refine k_aload_n (q := 1) C dL_law_604 rfl rfl ?_
  refine k_iload_n (q := 0) C dL_law_605 rfl rfl ?_
  refine k_iconst (v := 2) C dL_law_606 rfl ?_
  refine k_iadd C dL_law_607 ?_
  refine k_sld C hX hbl hbA (hin 2 (by decide) (by decide)) dL_law_608 ?_
  refine k_fC C (ct_X10_may ((r, S1, Z1)) e1) my_10_may ml_L_65 rfl ⟨Nat.le_of_ble_eq_true rfl, Nat.le_of_ble_eq_true rfl⟩ (recvC (b := 200) (ci := 10) rfl ⟨rfl, rfl⟩ am_219 rfl rfl) rfl (Nat.le_of_ble_eq_true rfl) dL_law_609 (bud_a hk (nd_1 Z)) (fun v w hp => ?_)
  obtain ⟨rfl, Y1, rfl⟩ := hp
  refine k_aload_n (q := 3) C dL_law_612 rfl rfl ?_
  refine k_aload_n (q := 1) C dL_law_613 rfl rfl ?_
  refine k_iload_n (q := 0) C dL_law_614 rfl rfl ?_
  refine k_iconst (v := 1) C dL_law_615 rfl ?_
  refine k_iadd C dL_law_616 ?_
  refine k_sld C hX hbl hbA (hin 1 (by decide) (by decide)) dL_law_617 ?_
  refine k_aload_n (q := 1) C dL_law_618 rfl rfl ?_
  refine k_iload_n (q := 0) C dL_law_619 rfl rfl ?_
  refine k_iconst (v := 2) C dL_law_620 rfl ?_
  refine k_iadd C dL_law_621 ?_
  refine k_sld C hX hbl hbA (hin 2 (by decide) (by decide)) dL_law_622 ?_
  refine k_fM C (ct_X11_may ((r, M1)) e2) my_11_may ml_L_68 rfl ⟨Nat.le_of_ble_eq_true rfl, Nat.le_of_ble_eq_true rfl⟩ recvM rfl (Nat.le_of_ble_eq_true rfl) dL_law_623 (bud_b hk (nd_1 Z)) (fun v w hp => ?_)
  obtain ⟨rfl, rfl⟩ := hp
  refine k_icmp_eq_rf (tgt := 1666) C dL_law_626 (by decide) ?_
  exact hK _ _ _ _ _ _ hR (bud_e hk (nd_1 Z))
set_option maxRecDepth 20000 in
theorem lc_now (hst : ST_now F RR) : LCS p l e R s m args below meth c θ ad ad2 b L xs F RR 631 := by
  intro C hX hbl hbA t x3 hin ht S Z M Y k n hR hk hK
  obtain ⟨r, S1, Z1, M1, e1, e2, hR⟩ := hst t S Z M (xs (x3 + 1).toNatClampNeg) (xs (x3 + 2).toNatClampNeg) ht hR
  refine k_aload_n (q := 2) C dL_law_631 rfl rfl ?_
  refine k_aload_n (q := 1) C dL_law_632 rfl rfl ?_
  refine k_iload_n (q := 0) C dL_law_633 rfl rfl ?_
  refine k_iconst (v := 1) C dL_law_634 rfl ?_
  refine k_iadd C dL_law_635 ?_
  refine k_sld C hX hbl hbA (hin 1 (by decide) (by decide)) dL_law_636 ?_
  refine k_aload_n (q := 1) C dL_law_637 rfl rfl ?_
  refine k_iload_n (q := 0) C dL_law_638 rfl rfl ?_
  refine k_iconst (v := 2) C dL_law_639 rfl ?_
  refine k_iadd C dL_law_640 ?_
  refine k_sld C hX hbl hbA (hin 2 (by decide) (by decide)) dL_law_641 ?_
  refine k_fC C (ct_X10_now ((r, S1, Z1)) e1) my_10_now ml_L_69 rfl ⟨Nat.le_of_ble_eq_true rfl, Nat.le_of_ble_eq_true rfl⟩ (recvC (b := 200) (ci := 10) rfl ⟨rfl, rfl⟩ am_219 rfl rfl) rfl (Nat.le_of_ble_eq_true rfl) dL_law_642 (bud_a hk (nd_1 Z)) (fun v w hp => ?_)
  obtain ⟨rfl, Y1, rfl⟩ := hp
  refine k_aload_n (q := 3) C dL_law_645 rfl rfl ?_
  refine k_aload_n (q := 1) C dL_law_646 rfl rfl ?_
  refine k_iload_n (q := 0) C dL_law_647 rfl rfl ?_
  refine k_iconst (v := 1) C dL_law_648 rfl ?_
  refine k_iadd C dL_law_649 ?_
  refine k_sld C hX hbl hbA (hin 1 (by decide) (by decide)) dL_law_650 ?_
  refine k_aload_n (q := 1) C dL_law_651 rfl rfl ?_
  refine k_iload_n (q := 0) C dL_law_652 rfl rfl ?_
  refine k_iconst (v := 2) C dL_law_653 rfl ?_
  refine k_iadd C dL_law_654 ?_
  refine k_sld C hX hbl hbA (hin 2 (by decide) (by decide)) dL_law_655 ?_
  refine k_fM C (ct_X11_now ((r, M1)) e2) my_11_now ml_L_72 rfl ⟨Nat.le_of_ble_eq_true rfl, Nat.le_of_ble_eq_true rfl⟩ recvM rfl (Nat.le_of_ble_eq_true rfl) dL_law_656 (bud_b hk (nd_1 Z)) (fun v w hp => ?_)
  obtain ⟨rfl, rfl⟩ := hp
  refine k_icmp_eq_rf (tgt := 1666) C dL_law_659 (by decide) ?_
  exact hK _ _ _ _ _ _ hR (bud_e hk (nd_1 Z))
set_option maxRecDepth 20000 in
theorem lc_when (hst : ST_when F RR) : LCS p l e R s m args below meth c θ ad ad2 b L xs F RR 664 := by
  intro C hX hbl hbA t x3 hin ht S Z M Y k n hR hk hK
  obtain ⟨r, S1, Z1, M1, e1, e2, hR⟩ := hst t S Z M (xs (x3 + 1).toNatClampNeg) (xs (x3 + 2).toNatClampNeg) (xs (x3 + 3).toNatClampNeg) ht hR
  refine k_aload_n (q := 2) C dL_law_664 rfl rfl ?_
  refine k_aload_n (q := 1) C dL_law_665 rfl rfl ?_
  refine k_iload_n (q := 0) C dL_law_666 rfl rfl ?_
  refine k_iconst (v := 1) C dL_law_667 rfl ?_
  refine k_iadd C dL_law_668 ?_
  refine k_sld C hX hbl hbA (hin 1 (by decide) (by decide)) dL_law_669 ?_
  refine k_aload_n (q := 1) C dL_law_670 rfl rfl ?_
  refine k_iload_n (q := 0) C dL_law_671 rfl rfl ?_
  refine k_iconst (v := 2) C dL_law_672 rfl ?_
  refine k_iadd C dL_law_673 ?_
  refine k_sld C hX hbl hbA (hin 2 (by decide) (by decide)) dL_law_674 ?_
  refine k_aload_n (q := 1) C dL_law_675 rfl rfl ?_
  refine k_iload_n (q := 0) C dL_law_676 rfl rfl ?_
  refine k_iconst (v := 3) C dL_law_677 rfl ?_
  refine k_iadd C dL_law_678 ?_
  refine k_sld C hX hbl hbA (hin 3 (by decide) (by decide)) dL_law_679 ?_
  refine k_fC C (ct_X10_when ((r, S1, Z1)) e1) my_10_when ml_L_73 rfl ⟨Nat.le_of_ble_eq_true rfl, Nat.le_of_ble_eq_true rfl⟩ (recvC (b := 200) (ci := 10) rfl ⟨rfl, rfl⟩ am_219 rfl rfl) rfl (Nat.le_of_ble_eq_true rfl) dL_law_680 (bud_a hk (nd_1 Z)) (fun v w hp => ?_)
  obtain ⟨rfl, Y1, rfl⟩ := hp
  refine k_aload_n (q := 3) C dL_law_683 rfl rfl ?_
  refine k_aload_n (q := 1) C dL_law_684 rfl rfl ?_
  refine k_iload_n (q := 0) C dL_law_685 rfl rfl ?_
  refine k_iconst (v := 1) C dL_law_686 rfl ?_
  refine k_iadd C dL_law_687 ?_
  refine k_sld C hX hbl hbA (hin 1 (by decide) (by decide)) dL_law_688 ?_
  refine k_aload_n (q := 1) C dL_law_689 rfl rfl ?_
  refine k_iload_n (q := 0) C dL_law_690 rfl rfl ?_
  refine k_iconst (v := 2) C dL_law_691 rfl ?_
  refine k_iadd C dL_law_692 ?_
  refine k_sld C hX hbl hbA (hin 2 (by decide) (by decide)) dL_law_693 ?_
  refine k_aload_n (q := 1) C dL_law_694 rfl rfl ?_
  refine k_iload_n (q := 0) C dL_law_695 rfl rfl ?_
  refine k_iconst (v := 3) C dL_law_696 rfl ?_
  refine k_iadd C dL_law_697 ?_
  refine k_sld C hX hbl hbA (hin 3 (by decide) (by decide)) dL_law_698 ?_
  refine k_fM C (ct_X11_when ((r, M1)) e2) my_11_when ml_L_76 rfl ⟨Nat.le_of_ble_eq_true rfl, Nat.le_of_ble_eq_true rfl⟩ recvM rfl (Nat.le_of_ble_eq_true rfl) dL_law_699 (bud_b hk (nd_1 Z)) (fun v w hp => ?_)
  obtain ⟨rfl, rfl⟩ := hp
  refine k_icmp_eq_rf (tgt := 1666) C dL_law_702 (by decide) ?_
  exact hK _ _ _ _ _ _ hR (bud_e hk (nd_1 Z))
set_option maxRecDepth 20000 in
theorem lc_cheapest (hst : ST_cheapest F RR) : LCS p l e R s m args below meth c θ ad ad2 b L xs F RR 707 := by
  intro C hX hbl hbA t x3 hin ht S Z M Y k n hR hk hK
  obtain ⟨r, S1, Z1, M1, e1, e2, hR⟩ := hst t S Z M (xs (x3 + 1).toNatClampNeg) (xs (x3 + 2).toNatClampNeg) (xs (x3 + 3).toNatClampNeg) (xs (x3 + 4).toNatClampNeg) ht hR
  refine k_aload_n (q := 2) C dL_law_707 rfl rfl ?_
  refine k_aload_n (q := 1) C dL_law_708 rfl rfl ?_
  refine k_iload_n (q := 0) C dL_law_709 rfl rfl ?_
  refine k_iconst (v := 1) C dL_law_710 rfl ?_
  refine k_iadd C dL_law_711 ?_
  refine k_sld C hX hbl hbA (hin 1 (by decide) (by decide)) dL_law_712 ?_
  refine k_aload_n (q := 1) C dL_law_713 rfl rfl ?_
  refine k_iload_n (q := 0) C dL_law_714 rfl rfl ?_
  refine k_iconst (v := 2) C dL_law_715 rfl ?_
  refine k_iadd C dL_law_716 ?_
  refine k_sld C hX hbl hbA (hin 2 (by decide) (by decide)) dL_law_717 ?_
  refine k_aload_n (q := 1) C dL_law_718 rfl rfl ?_
  refine k_iload_n (q := 0) C dL_law_719 rfl rfl ?_
  refine k_iconst (v := 3) C dL_law_720 rfl ?_
  refine k_iadd C dL_law_721 ?_
  refine k_sld C hX hbl hbA (hin 3 (by decide) (by decide)) dL_law_722 ?_
  refine k_aload_n (q := 1) C dL_law_723 rfl rfl ?_
  refine k_iload_n (q := 0) C dL_law_724 rfl rfl ?_
  refine k_iconst (v := 4) C dL_law_725 rfl ?_
  refine k_iadd C dL_law_726 ?_
  refine k_sld C hX hbl hbA (hin 4 (by decide) (by decide)) dL_law_727 ?_
  refine k_fC C (ct_X10_cheapest ((r, S1, Z1)) e1) my_10_cheapest ml_L_77 rfl ⟨Nat.le_of_ble_eq_true rfl, Nat.le_of_ble_eq_true rfl⟩ (recvC (b := 200) (ci := 10) rfl ⟨rfl, rfl⟩ am_219 rfl rfl) rfl (Nat.le_of_ble_eq_true rfl) dL_law_728 (bud_a hk (nd_1 Z)) (fun v w hp => ?_)
  obtain ⟨rfl, Y1, rfl⟩ := hp
  refine k_aload_n (q := 3) C dL_law_731 rfl rfl ?_
  refine k_aload_n (q := 1) C dL_law_732 rfl rfl ?_
  refine k_iload_n (q := 0) C dL_law_733 rfl rfl ?_
  refine k_iconst (v := 1) C dL_law_734 rfl ?_
  refine k_iadd C dL_law_735 ?_
  refine k_sld C hX hbl hbA (hin 1 (by decide) (by decide)) dL_law_736 ?_
  refine k_aload_n (q := 1) C dL_law_737 rfl rfl ?_
  refine k_iload_n (q := 0) C dL_law_738 rfl rfl ?_
  refine k_iconst (v := 2) C dL_law_739 rfl ?_
  refine k_iadd C dL_law_740 ?_
  refine k_sld C hX hbl hbA (hin 2 (by decide) (by decide)) dL_law_741 ?_
  refine k_aload_n (q := 1) C dL_law_742 rfl rfl ?_
  refine k_iload_n (q := 0) C dL_law_743 rfl rfl ?_
  refine k_iconst (v := 3) C dL_law_744 rfl ?_
  refine k_iadd C dL_law_745 ?_
  refine k_sld C hX hbl hbA (hin 3 (by decide) (by decide)) dL_law_746 ?_
  refine k_aload_n (q := 1) C dL_law_747 rfl rfl ?_
  refine k_iload_n (q := 0) C dL_law_748 rfl rfl ?_
  refine k_iconst (v := 4) C dL_law_749 rfl ?_
  refine k_iadd C dL_law_750 ?_
  refine k_sld C hX hbl hbA (hin 4 (by decide) (by decide)) dL_law_751 ?_
  refine k_fM C (ct_X11_cheapest ((r, M1)) e2) my_11_cheapest ml_L_81 rfl ⟨Nat.le_of_ble_eq_true rfl, Nat.le_of_ble_eq_true rfl⟩ recvM rfl (Nat.le_of_ble_eq_true rfl) dL_law_752 (bud_b hk (nd_1 Z)) (fun v w hp => ?_)
  obtain ⟨rfl, rfl⟩ := hp
  refine k_icmp_eq_rf (tgt := 1666) C dL_law_755 (by decide) ?_
  exact hK _ _ _ _ _ _ hR (bud_e hk (nd_1 Z))
set_option maxRecDepth 20000 in
theorem lc_broken (hst : ST_broken F RR) : LCS p l e R s m args below meth c θ ad ad2 b L xs F RR 760 := by
  intro C hX hbl hbA t x3 hin ht S Z M Y k n hR hk hK
  obtain ⟨r, S1, Z1, M1, e1, e2, hR⟩ := hst t S Z M (xs (x3 + 1).toNatClampNeg) (xs (x3 + 2).toNatClampNeg) (xs (x3 + 3).toNatClampNeg) ht hR
  refine k_aload_n (q := 2) C dL_law_760 rfl rfl ?_
  refine k_aload_n (q := 1) C dL_law_761 rfl rfl ?_
  refine k_iload_n (q := 0) C dL_law_762 rfl rfl ?_
  refine k_iconst (v := 1) C dL_law_763 rfl ?_
  refine k_iadd C dL_law_764 ?_
  refine k_sld C hX hbl hbA (hin 1 (by decide) (by decide)) dL_law_765 ?_
  refine k_aload_n (q := 1) C dL_law_766 rfl rfl ?_
  refine k_iload_n (q := 0) C dL_law_767 rfl rfl ?_
  refine k_iconst (v := 2) C dL_law_768 rfl ?_
  refine k_iadd C dL_law_769 ?_
  refine k_sld C hX hbl hbA (hin 2 (by decide) (by decide)) dL_law_770 ?_
  refine k_aload_n (q := 1) C dL_law_771 rfl rfl ?_
  refine k_iload_n (q := 0) C dL_law_772 rfl rfl ?_
  refine k_iconst (v := 3) C dL_law_773 rfl ?_
  refine k_iadd C dL_law_774 ?_
  refine k_sld C hX hbl hbA (hin 3 (by decide) (by decide)) dL_law_775 ?_
  refine k_fC C (ct_X10_broken ((r, S1, Z1)) e1) my_10_broken ml_L_82 rfl ⟨Nat.le_of_ble_eq_true rfl, Nat.le_of_ble_eq_true rfl⟩ (recvC (b := 200) (ci := 10) rfl ⟨rfl, rfl⟩ am_219 rfl rfl) rfl (Nat.le_of_ble_eq_true rfl) dL_law_776 (bud_a hk (nd_1 Z)) (fun v w hp => ?_)
  obtain ⟨rfl, Y1, rfl⟩ := hp
  refine k_aload_n (q := 3) C dL_law_779 rfl rfl ?_
  refine k_aload_n (q := 1) C dL_law_780 rfl rfl ?_
  refine k_iload_n (q := 0) C dL_law_781 rfl rfl ?_
  refine k_iconst (v := 1) C dL_law_782 rfl ?_
  refine k_iadd C dL_law_783 ?_
  refine k_sld C hX hbl hbA (hin 1 (by decide) (by decide)) dL_law_784 ?_
  refine k_aload_n (q := 1) C dL_law_785 rfl rfl ?_
  refine k_iload_n (q := 0) C dL_law_786 rfl rfl ?_
  refine k_iconst (v := 2) C dL_law_787 rfl ?_
  refine k_iadd C dL_law_788 ?_
  refine k_sld C hX hbl hbA (hin 2 (by decide) (by decide)) dL_law_789 ?_
  refine k_aload_n (q := 1) C dL_law_790 rfl rfl ?_
  refine k_iload_n (q := 0) C dL_law_791 rfl rfl ?_
  refine k_iconst (v := 3) C dL_law_792 rfl ?_
  refine k_iadd C dL_law_793 ?_
  refine k_sld C hX hbl hbA (hin 3 (by decide) (by decide)) dL_law_794 ?_
  refine k_fM C (ct_X11_broken ((r, M1)) e2) my_11_broken ml_L_85 rfl ⟨Nat.le_of_ble_eq_true rfl, Nat.le_of_ble_eq_true rfl⟩ recvM rfl (Nat.le_of_ble_eq_true rfl) dL_law_795 (bud_b hk (nd_1 Z)) (fun v w hp => ?_)
  obtain ⟨rfl, rfl⟩ := hp
  refine k_icmp_eq_rf (tgt := 1666) C dL_law_798 (by decide) ?_
  exact hK _ _ _ _ _ _ hR (bud_e hk (nd_1 Z))
set_option maxRecDepth 20000 in
theorem lc_elsewhere (hst : ST_elsewhere F RR) : LCS p l e R s m args below meth c θ ad ad2 b L xs F RR 803 := by
  intro C hX hbl hbA t x3 hin ht S Z M Y k n hR hk hK
  obtain ⟨r, S1, Z1, M1, e1, e2, hR⟩ := hst t S Z M (xs (x3 + 1).toNatClampNeg) (xs (x3 + 2).toNatClampNeg) (xs (x3 + 3).toNatClampNeg) ht hR
  refine k_aload_n (q := 2) C dL_law_803 rfl rfl ?_
  refine k_aload_n (q := 1) C dL_law_804 rfl rfl ?_
  refine k_iload_n (q := 0) C dL_law_805 rfl rfl ?_
  refine k_iconst (v := 1) C dL_law_806 rfl ?_
  refine k_iadd C dL_law_807 ?_
  refine k_sld C hX hbl hbA (hin 1 (by decide) (by decide)) dL_law_808 ?_
  refine k_aload_n (q := 1) C dL_law_809 rfl rfl ?_
  refine k_iload_n (q := 0) C dL_law_810 rfl rfl ?_
  refine k_iconst (v := 2) C dL_law_811 rfl ?_
  refine k_iadd C dL_law_812 ?_
  refine k_sld C hX hbl hbA (hin 2 (by decide) (by decide)) dL_law_813 ?_
  refine k_aload_n (q := 1) C dL_law_814 rfl rfl ?_
  refine k_iload_n (q := 0) C dL_law_815 rfl rfl ?_
  refine k_iconst (v := 3) C dL_law_816 rfl ?_
  refine k_iadd C dL_law_817 ?_
  refine k_sld C hX hbl hbA (hin 3 (by decide) (by decide)) dL_law_818 ?_
  refine k_fC C (ct_X10_elsewhere ((r, S1, Z1)) e1) my_10_elsewhere ml_L_86 rfl ⟨Nat.le_of_ble_eq_true rfl, Nat.le_of_ble_eq_true rfl⟩ (recvC (b := 200) (ci := 10) rfl ⟨rfl, rfl⟩ am_219 rfl rfl) rfl (Nat.le_of_ble_eq_true rfl) dL_law_819 (bud_a hk (nd_1 Z)) (fun v w hp => ?_)
  obtain ⟨rfl, Y1, rfl⟩ := hp
  refine k_aload_n (q := 3) C dL_law_822 rfl rfl ?_
  refine k_aload_n (q := 1) C dL_law_823 rfl rfl ?_
  refine k_iload_n (q := 0) C dL_law_824 rfl rfl ?_
  refine k_iconst (v := 1) C dL_law_825 rfl ?_
  refine k_iadd C dL_law_826 ?_
  refine k_sld C hX hbl hbA (hin 1 (by decide) (by decide)) dL_law_827 ?_
  refine k_aload_n (q := 1) C dL_law_828 rfl rfl ?_
  refine k_iload_n (q := 0) C dL_law_829 rfl rfl ?_
  refine k_iconst (v := 2) C dL_law_830 rfl ?_
  refine k_iadd C dL_law_831 ?_
  refine k_sld C hX hbl hbA (hin 2 (by decide) (by decide)) dL_law_832 ?_
  refine k_aload_n (q := 1) C dL_law_833 rfl rfl ?_
  refine k_iload_n (q := 0) C dL_law_834 rfl rfl ?_
  refine k_iconst (v := 3) C dL_law_835 rfl ?_
  refine k_iadd C dL_law_836 ?_
  refine k_sld C hX hbl hbA (hin 3 (by decide) (by decide)) dL_law_837 ?_
  refine k_fM C (ct_X11_elsewhere ((r, M1)) e2) my_11_elsewhere ml_L_89 rfl ⟨Nat.le_of_ble_eq_true rfl, Nat.le_of_ble_eq_true rfl⟩ recvM rfl (Nat.le_of_ble_eq_true rfl) dL_law_838 (bud_b hk (nd_1 Z)) (fun v w hp => ?_)
  obtain ⟨rfl, rfl⟩ := hp
  refine k_icmp_eq_rf (tgt := 1666) C dL_law_841 (by decide) ?_
  exact hK _ _ _ _ _ _ hR (bud_e hk (nd_1 Z))
set_option maxRecDepth 20000 in
theorem lc_harm (hst : ST_harm F RR) : LCS p l e R s m args below meth c θ ad ad2 b L xs F RR 846 := by
  intro C hX hbl hbA t x3 hin ht S Z M Y k n hR hk hK
  obtain ⟨r, S1, Z1, M1, e1, e2, hR⟩ := hst t S Z M (xs (x3 + 1).toNatClampNeg) (xs (x3 + 2).toNatClampNeg) (xs (x3 + 3).toNatClampNeg) ht hR
  refine k_aload_n (q := 2) C dL_law_846 rfl rfl ?_
  refine k_aload_n (q := 1) C dL_law_847 rfl rfl ?_
  refine k_iload_n (q := 0) C dL_law_848 rfl rfl ?_
  refine k_iconst (v := 1) C dL_law_849 rfl ?_
  refine k_iadd C dL_law_850 ?_
  refine k_sld C hX hbl hbA (hin 1 (by decide) (by decide)) dL_law_851 ?_
  refine k_aload_n (q := 1) C dL_law_852 rfl rfl ?_
  refine k_iload_n (q := 0) C dL_law_853 rfl rfl ?_
  refine k_iconst (v := 2) C dL_law_854 rfl ?_
  refine k_iadd C dL_law_855 ?_
  refine k_sld C hX hbl hbA (hin 2 (by decide) (by decide)) dL_law_856 ?_
  refine k_aload_n (q := 1) C dL_law_857 rfl rfl ?_
  refine k_iload_n (q := 0) C dL_law_858 rfl rfl ?_
  refine k_iconst (v := 3) C dL_law_859 rfl ?_
  refine k_iadd C dL_law_860 ?_
  refine k_sld C hX hbl hbA (hin 3 (by decide) (by decide)) dL_law_861 ?_
  refine k_fC C (ct_X10_harm ((r, S1, Z1)) e1) my_10_harm ml_L_90 rfl ⟨Nat.le_of_ble_eq_true rfl, Nat.le_of_ble_eq_true rfl⟩ (recvC (b := 200) (ci := 10) rfl ⟨rfl, rfl⟩ am_219 rfl rfl) rfl (Nat.le_of_ble_eq_true rfl) dL_law_862 (bud_a hk (nd_2 Z)) (fun v w hp => ?_)
  obtain ⟨rfl, Y1, rfl⟩ := hp
  refine k_aload_n (q := 3) C dL_law_865 rfl rfl ?_
  refine k_aload_n (q := 1) C dL_law_866 rfl rfl ?_
  refine k_iload_n (q := 0) C dL_law_867 rfl rfl ?_
  refine k_iconst (v := 1) C dL_law_868 rfl ?_
  refine k_iadd C dL_law_869 ?_
  refine k_sld C hX hbl hbA (hin 1 (by decide) (by decide)) dL_law_870 ?_
  refine k_aload_n (q := 1) C dL_law_871 rfl rfl ?_
  refine k_iload_n (q := 0) C dL_law_872 rfl rfl ?_
  refine k_iconst (v := 2) C dL_law_873 rfl ?_
  refine k_iadd C dL_law_874 ?_
  refine k_sld C hX hbl hbA (hin 2 (by decide) (by decide)) dL_law_875 ?_
  refine k_aload_n (q := 1) C dL_law_876 rfl rfl ?_
  refine k_iload_n (q := 0) C dL_law_877 rfl rfl ?_
  refine k_iconst (v := 3) C dL_law_878 rfl ?_
  refine k_iadd C dL_law_879 ?_
  refine k_sld C hX hbl hbA (hin 3 (by decide) (by decide)) dL_law_880 ?_
  refine k_fM C (ct_X11_harm ((r, M1)) e2) my_11_harm ml_L_93 rfl ⟨Nat.le_of_ble_eq_true rfl, Nat.le_of_ble_eq_true rfl⟩ recvM rfl (Nat.le_of_ble_eq_true rfl) dL_law_881 (bud_b hk (nd_2 Z)) (fun v w hp => ?_)
  obtain ⟨rfl, rfl⟩ := hp
  refine k_icmp_eq_rf (tgt := 1666) C dL_law_884 (by decide) ?_
  exact hK _ _ _ _ _ _ hR (bud_e hk (nd_2 Z))
set_option maxRecDepth 20000 in
theorem lc_next (hst : ST_next F RR) : LCS p l e R s m args below meth c θ ad ad2 b L xs F RR 889 := by
  intro C hX hbl hbA t x3 hin ht S Z M Y k n hR hk hK
  obtain ⟨r, e1, e2, hR⟩ := hst t S Z M (xs (x3 + 1).toNatClampNeg) (xs (x3 + 2).toNatClampNeg) (xs (x3 + 3).toNatClampNeg) ht hR
  refine k_aload_n (q := 2) C dL_law_889 rfl rfl ?_
  refine k_aload_n (q := 1) C dL_law_890 rfl rfl ?_
  refine k_iload_n (q := 0) C dL_law_891 rfl rfl ?_
  refine k_iconst (v := 1) C dL_law_892 rfl ?_
  refine k_iadd C dL_law_893 ?_
  refine k_sld C hX hbl hbA (hin 1 (by decide) (by decide)) dL_law_894 ?_
  refine k_aload_n (q := 1) C dL_law_895 rfl rfl ?_
  refine k_iload_n (q := 0) C dL_law_896 rfl rfl ?_
  refine k_iconst (v := 2) C dL_law_897 rfl ?_
  refine k_iadd C dL_law_898 ?_
  refine k_sld C hX hbl hbA (hin 2 (by decide) (by decide)) dL_law_899 ?_
  refine k_aload_n (q := 1) C dL_law_900 rfl rfl ?_
  refine k_iload_n (q := 0) C dL_law_901 rfl rfl ?_
  refine k_iconst (v := 3) C dL_law_902 rfl ?_
  refine k_iadd C dL_law_903 ?_
  refine k_sld C hX hbl hbA (hin 3 (by decide) (by decide)) dL_law_904 ?_
  refine k_fC C (ct_X10_next (r) e1) my_10_next ml_L_94 rfl ⟨Nat.le_of_ble_eq_true rfl, Nat.le_of_ble_eq_true rfl⟩ (recvC (b := 200) (ci := 10) rfl ⟨rfl, rfl⟩ am_219 rfl rfl) rfl (Nat.le_of_ble_eq_true rfl) dL_law_905 (bud_0 hk) (fun v w hp => ?_)
  obtain ⟨rfl, rfl⟩ := hp
  refine k_aload_n (q := 3) C dL_law_908 rfl rfl ?_
  refine k_aload_n (q := 1) C dL_law_909 rfl rfl ?_
  refine k_iload_n (q := 0) C dL_law_910 rfl rfl ?_
  refine k_iconst (v := 1) C dL_law_911 rfl ?_
  refine k_iadd C dL_law_912 ?_
  refine k_sld C hX hbl hbA (hin 1 (by decide) (by decide)) dL_law_913 ?_
  refine k_aload_n (q := 1) C dL_law_914 rfl rfl ?_
  refine k_iload_n (q := 0) C dL_law_915 rfl rfl ?_
  refine k_iconst (v := 2) C dL_law_916 rfl ?_
  refine k_iadd C dL_law_917 ?_
  refine k_sld C hX hbl hbA (hin 2 (by decide) (by decide)) dL_law_918 ?_
  refine k_aload_n (q := 1) C dL_law_919 rfl rfl ?_
  refine k_iload_n (q := 0) C dL_law_920 rfl rfl ?_
  refine k_iconst (v := 3) C dL_law_921 rfl ?_
  refine k_iadd C dL_law_922 ?_
  refine k_sld C hX hbl hbA (hin 3 (by decide) (by decide)) dL_law_923 ?_
  refine k_fM C (ct_X11_next (r) e2) my_11_next ml_L_97 rfl ⟨Nat.le_of_ble_eq_true rfl, Nat.le_of_ble_eq_true rfl⟩ recvM rfl (Nat.le_of_ble_eq_true rfl) dL_law_924 (bud_0 hk) (fun v w hp => ?_)
  obtain ⟨rfl, rfl⟩ := hp
  refine k_icmp_eq_rf (tgt := 1666) C dL_law_927 (by decide) ?_
  exact hK _ _ _ _ _ _ hR (bud_f hk)
set_option maxRecDepth 20000 in
theorem lc_many (hst : ST_many F RR) : LCS p l e R s m args below meth c θ ad ad2 b L xs F RR 932 := by
  intro C hX hbl hbA t x3 hin ht S Z M Y k n hR hk hK
  obtain ⟨r, e1, e2, hR⟩ := hst t S Z M (xs (x3 + 1).toNatClampNeg) (xs (x3 + 2).toNatClampNeg) (xs (x3 + 3).toNatClampNeg) (xs (x3 + 4).toNatClampNeg) ht hR
  refine k_aload_n (q := 2) C dL_law_932 rfl rfl ?_
  refine k_aload_n (q := 1) C dL_law_933 rfl rfl ?_
  refine k_iload_n (q := 0) C dL_law_934 rfl rfl ?_
  refine k_iconst (v := 1) C dL_law_935 rfl ?_
  refine k_iadd C dL_law_936 ?_
  refine k_sld C hX hbl hbA (hin 1 (by decide) (by decide)) dL_law_937 ?_
  refine k_aload_n (q := 1) C dL_law_938 rfl rfl ?_
  refine k_iload_n (q := 0) C dL_law_939 rfl rfl ?_
  refine k_iconst (v := 2) C dL_law_940 rfl ?_
  refine k_iadd C dL_law_941 ?_
  refine k_sld C hX hbl hbA (hin 2 (by decide) (by decide)) dL_law_942 ?_
  refine k_aload_n (q := 1) C dL_law_943 rfl rfl ?_
  refine k_iload_n (q := 0) C dL_law_944 rfl rfl ?_
  refine k_iconst (v := 3) C dL_law_945 rfl ?_
  refine k_iadd C dL_law_946 ?_
  refine k_sld C hX hbl hbA (hin 3 (by decide) (by decide)) dL_law_947 ?_
  refine k_aload_n (q := 1) C dL_law_948 rfl rfl ?_
  refine k_iload_n (q := 0) C dL_law_949 rfl rfl ?_
  refine k_iconst (v := 4) C dL_law_950 rfl ?_
  refine k_iadd C dL_law_951 ?_
  refine k_sld C hX hbl hbA (hin 4 (by decide) (by decide)) dL_law_952 ?_
  refine k_fC C (ct_X10_many (r) e1) my_10_many ml_L_98 rfl ⟨Nat.le_of_ble_eq_true rfl, Nat.le_of_ble_eq_true rfl⟩ (recvC (b := 200) (ci := 10) rfl ⟨rfl, rfl⟩ am_219 rfl rfl) rfl (Nat.le_of_ble_eq_true rfl) dL_law_953 (bud_0 hk) (fun v w hp => ?_)
  obtain ⟨rfl, rfl⟩ := hp
  refine k_aload_n (q := 3) C dL_law_956 rfl rfl ?_
  refine k_aload_n (q := 1) C dL_law_957 rfl rfl ?_
  refine k_iload_n (q := 0) C dL_law_958 rfl rfl ?_
  refine k_iconst (v := 1) C dL_law_959 rfl ?_
  refine k_iadd C dL_law_960 ?_
  refine k_sld C hX hbl hbA (hin 1 (by decide) (by decide)) dL_law_961 ?_
  refine k_aload_n (q := 1) C dL_law_962 rfl rfl ?_
  refine k_iload_n (q := 0) C dL_law_963 rfl rfl ?_
  refine k_iconst (v := 2) C dL_law_964 rfl ?_
  refine k_iadd C dL_law_965 ?_
  refine k_sld C hX hbl hbA (hin 2 (by decide) (by decide)) dL_law_966 ?_
  refine k_aload_n (q := 1) C dL_law_967 rfl rfl ?_
  refine k_iload_n (q := 0) C dL_law_968 rfl rfl ?_
  refine k_iconst (v := 3) C dL_law_969 rfl ?_
  refine k_iadd C dL_law_970 ?_
  refine k_sld C hX hbl hbA (hin 3 (by decide) (by decide)) dL_law_971 ?_
  refine k_aload_n (q := 1) C dL_law_972 rfl rfl ?_
  refine k_iload_n (q := 0) C dL_law_973 rfl rfl ?_
  refine k_iconst (v := 4) C dL_law_974 rfl ?_
  refine k_iadd C dL_law_975 ?_
  refine k_sld C hX hbl hbA (hin 4 (by decide) (by decide)) dL_law_976 ?_
  refine k_fM C (ct_X11_many (r) e2) my_11_many ml_L_101 rfl ⟨Nat.le_of_ble_eq_true rfl, Nat.le_of_ble_eq_true rfl⟩ recvM rfl (Nat.le_of_ble_eq_true rfl) dL_law_977 (bud_0 hk) (fun v w hp => ?_)
  obtain ⟨rfl, rfl⟩ := hp
  refine k_icmp_eq_rf (tgt := 1666) C dL_law_980 (by decide) ?_
  exact hK _ _ _ _ _ _ hR (bud_f hk)
set_option maxRecDepth 20000 in
theorem lc_longest (hst : ST_longest F RR) : LCS p l e R s m args below meth c θ ad ad2 b L xs F RR 985 := by
  intro C hX hbl hbA t x3 hin ht S Z M Y k n hR hk hK
  obtain ⟨r, e1, e2, hR⟩ := hst t S Z M (xs (x3 + 1).toNatClampNeg) (xs (x3 + 2).toNatClampNeg) (xs (x3 + 3).toNatClampNeg) (xs (x3 + 4).toNatClampNeg) ht hR
  refine k_aload_n (q := 2) C dL_law_985 rfl rfl ?_
  refine k_aload_n (q := 1) C dL_law_986 rfl rfl ?_
  refine k_iload_n (q := 0) C dL_law_987 rfl rfl ?_
  refine k_iconst (v := 1) C dL_law_988 rfl ?_
  refine k_iadd C dL_law_989 ?_
  refine k_sld C hX hbl hbA (hin 1 (by decide) (by decide)) dL_law_990 ?_
  refine k_aload_n (q := 1) C dL_law_991 rfl rfl ?_
  refine k_iload_n (q := 0) C dL_law_992 rfl rfl ?_
  refine k_iconst (v := 2) C dL_law_993 rfl ?_
  refine k_iadd C dL_law_994 ?_
  refine k_sld C hX hbl hbA (hin 2 (by decide) (by decide)) dL_law_995 ?_
  refine k_aload_n (q := 1) C dL_law_996 rfl rfl ?_
  refine k_iload_n (q := 0) C dL_law_997 rfl rfl ?_
  refine k_iconst (v := 3) C dL_law_998 rfl ?_
  refine k_iadd C dL_law_999 ?_
  refine k_sld C hX hbl hbA (hin 3 (by decide) (by decide)) dL_law_1000 ?_
  refine k_aload_n (q := 1) C dL_law_1001 rfl rfl ?_
  refine k_iload_n (q := 0) C dL_law_1002 rfl rfl ?_
  refine k_iconst (v := 4) C dL_law_1003 rfl ?_
  refine k_iadd C dL_law_1004 ?_
  refine k_sld C hX hbl hbA (hin 4 (by decide) (by decide)) dL_law_1005 ?_
  refine k_fC C (ct_X10_longest (r) e1) my_10_longest ml_L_102 rfl ⟨Nat.le_of_ble_eq_true rfl, Nat.le_of_ble_eq_true rfl⟩ (recvC (b := 200) (ci := 10) rfl ⟨rfl, rfl⟩ am_219 rfl rfl) rfl (Nat.le_of_ble_eq_true rfl) dL_law_1006 (bud_0 hk) (fun v w hp => ?_)
  obtain ⟨rfl, rfl⟩ := hp
  refine k_aload_n (q := 3) C dL_law_1009 rfl rfl ?_
  refine k_aload_n (q := 1) C dL_law_1010 rfl rfl ?_
  refine k_iload_n (q := 0) C dL_law_1011 rfl rfl ?_
  refine k_iconst (v := 1) C dL_law_1012 rfl ?_
  refine k_iadd C dL_law_1013 ?_
  refine k_sld C hX hbl hbA (hin 1 (by decide) (by decide)) dL_law_1014 ?_
  refine k_aload_n (q := 1) C dL_law_1015 rfl rfl ?_
  refine k_iload_n (q := 0) C dL_law_1016 rfl rfl ?_
  refine k_iconst (v := 2) C dL_law_1017 rfl ?_
  refine k_iadd C dL_law_1018 ?_
  refine k_sld C hX hbl hbA (hin 2 (by decide) (by decide)) dL_law_1019 ?_
  refine k_aload_n (q := 1) C dL_law_1020 rfl rfl ?_
  refine k_iload_n (q := 0) C dL_law_1021 rfl rfl ?_
  refine k_iconst (v := 3) C dL_law_1022 rfl ?_
  refine k_iadd C dL_law_1023 ?_
  refine k_sld C hX hbl hbA (hin 3 (by decide) (by decide)) dL_law_1024 ?_
  refine k_aload_n (q := 1) C dL_law_1025 rfl rfl ?_
  refine k_iload_n (q := 0) C dL_law_1026 rfl rfl ?_
  refine k_iconst (v := 4) C dL_law_1027 rfl ?_
  refine k_iadd C dL_law_1028 ?_
  refine k_sld C hX hbl hbA (hin 4 (by decide) (by decide)) dL_law_1029 ?_
  refine k_fM C (ct_X11_longest (r) e2) my_11_longest ml_L_105 rfl ⟨Nat.le_of_ble_eq_true rfl, Nat.le_of_ble_eq_true rfl⟩ recvM rfl (Nat.le_of_ble_eq_true rfl) dL_law_1030 (bud_0 hk) (fun v w hp => ?_)
  obtain ⟨rfl, rfl⟩ := hp
  refine k_icmp_eq_rf (tgt := 1666) C dL_law_1033 (by decide) ?_
  exact hK _ _ _ _ _ _ hR (bud_f hk)
set_option maxRecDepth 20000 in
theorem lc_round (hst : ST_round F RR) : LCS p l e R s m args below meth c θ ad ad2 b L xs F RR 1038 := by
  intro C hX hbl hbA t x3 hin ht S Z M Y k n hR hk hK
  obtain ⟨r, e1, e2, hR⟩ := hst t S Z M ht hR
  refine k_aload_n (q := 2) C dL_law_1038 rfl rfl ?_
  refine k_fC C (ct_X10_round (r) e1) my_10_round ml_L_106 rfl ⟨Nat.le_of_ble_eq_true rfl, Nat.le_of_ble_eq_true rfl⟩ (recvC (b := 200) (ci := 10) rfl ⟨rfl, rfl⟩ am_219 rfl rfl) rfl (Nat.le_of_ble_eq_true rfl) dL_law_1039 (bud_0 hk) (fun v w hp => ?_)
  obtain ⟨rfl, rfl⟩ := hp
  refine k_aload_n (q := 3) C dL_law_1042 rfl rfl ?_
  refine k_fM C (ct_X11_round (r) e2) my_11_round ml_L_109 rfl ⟨Nat.le_of_ble_eq_true rfl, Nat.le_of_ble_eq_true rfl⟩ recvM rfl (Nat.le_of_ble_eq_true rfl) dL_law_1043 (bud_0 hk) (fun v w hp => ?_)
  obtain ⟨rfl, rfl⟩ := hp
  refine k_icmp_eq_rf (tgt := 1666) C dL_law_1046 (by decide) ?_
  exact hK _ _ _ _ _ _ hR (bud_f hk)
set_option maxRecDepth 20000 in
theorem lc_odds (hst : ST_odds F RR) : LCS p l e R s m args below meth c θ ad ad2 b L xs F RR 1051 := by
  intro C hX hbl hbA t x3 hin ht S Z M Y k n hR hk hK
  obtain ⟨r, S1, Z1, M1, e1, e2, hR⟩ := hst t S Z M (xs (x3 + 1).toNatClampNeg) (xs (x3 + 2).toNatClampNeg) (xs (x3 + 3).toNatClampNeg) ht hR
  refine k_aload_n (q := 2) C dL_law_1051 rfl rfl ?_
  refine k_aload_n (q := 1) C dL_law_1052 rfl rfl ?_
  refine k_iload_n (q := 0) C dL_law_1053 rfl rfl ?_
  refine k_iconst (v := 1) C dL_law_1054 rfl ?_
  refine k_iadd C dL_law_1055 ?_
  refine k_sld C hX hbl hbA (hin 1 (by decide) (by decide)) dL_law_1056 ?_
  refine k_aload_n (q := 1) C dL_law_1057 rfl rfl ?_
  refine k_iload_n (q := 0) C dL_law_1058 rfl rfl ?_
  refine k_iconst (v := 2) C dL_law_1059 rfl ?_
  refine k_iadd C dL_law_1060 ?_
  refine k_sld C hX hbl hbA (hin 2 (by decide) (by decide)) dL_law_1061 ?_
  refine k_aload_n (q := 1) C dL_law_1062 rfl rfl ?_
  refine k_iload_n (q := 0) C dL_law_1063 rfl rfl ?_
  refine k_iconst (v := 3) C dL_law_1064 rfl ?_
  refine k_iadd C dL_law_1065 ?_
  refine k_sld C hX hbl hbA (hin 3 (by decide) (by decide)) dL_law_1066 ?_
  refine k_fC C (ct_X10_odds ((r, S1, Z1)) e1) my_10_odds ml_L_110 rfl ⟨Nat.le_of_ble_eq_true rfl, Nat.le_of_ble_eq_true rfl⟩ (recvC (b := 200) (ci := 10) rfl ⟨rfl, rfl⟩ am_219 rfl rfl) rfl (Nat.le_of_ble_eq_true rfl) dL_law_1067 (bud_a hk (nd_1 Z)) (fun v w hp => ?_)
  obtain ⟨rfl, Y1, rfl⟩ := hp
  refine k_aload_n (q := 3) C dL_law_1070 rfl rfl ?_
  refine k_aload_n (q := 1) C dL_law_1071 rfl rfl ?_
  refine k_iload_n (q := 0) C dL_law_1072 rfl rfl ?_
  refine k_iconst (v := 1) C dL_law_1073 rfl ?_
  refine k_iadd C dL_law_1074 ?_
  refine k_sld C hX hbl hbA (hin 1 (by decide) (by decide)) dL_law_1075 ?_
  refine k_aload_n (q := 1) C dL_law_1076 rfl rfl ?_
  refine k_iload_n (q := 0) C dL_law_1077 rfl rfl ?_
  refine k_iconst (v := 2) C dL_law_1078 rfl ?_
  refine k_iadd C dL_law_1079 ?_
  refine k_sld C hX hbl hbA (hin 2 (by decide) (by decide)) dL_law_1080 ?_
  refine k_aload_n (q := 1) C dL_law_1081 rfl rfl ?_
  refine k_iload_n (q := 0) C dL_law_1082 rfl rfl ?_
  refine k_iconst (v := 3) C dL_law_1083 rfl ?_
  refine k_iadd C dL_law_1084 ?_
  refine k_sld C hX hbl hbA (hin 3 (by decide) (by decide)) dL_law_1085 ?_
  refine k_fM C (ct_X11_odds ((r, M1)) e2) my_11_odds ml_L_113 rfl ⟨Nat.le_of_ble_eq_true rfl, Nat.le_of_ble_eq_true rfl⟩ recvM rfl (Nat.le_of_ble_eq_true rfl) dL_law_1086 (bud_b hk (nd_1 Z)) (fun v w hp => ?_)
  obtain ⟨rfl, rfl⟩ := hp
  refine k_icmp_eq_rf (tgt := 1666) C dL_law_1089 (by decide) ?_
  exact hK _ _ _ _ _ _ hR (bud_e hk (nd_1 Z))
set_option maxRecDepth 20000 in
theorem lc_promise (hst : ST_promise F RR) : LCS p l e R s m args below meth c θ ad ad2 b L xs F RR 1094 := by
  intro C hX hbl hbA t x3 hin ht S Z M Y k n hR hk hK
  obtain ⟨r, S1, M1, e1, e2, hR⟩ := hst t S Z M (xs (x3 + 1).toNatClampNeg) (xs (x3 + 2).toNatClampNeg) ht hR
  refine k_aload_n (q := 2) C dL_law_1094 rfl rfl ?_
  refine k_aload_n (q := 1) C dL_law_1095 rfl rfl ?_
  refine k_iload_n (q := 0) C dL_law_1096 rfl rfl ?_
  refine k_iconst (v := 1) C dL_law_1097 rfl ?_
  refine k_iadd C dL_law_1098 ?_
  refine k_sld C hX hbl hbA (hin 1 (by decide) (by decide)) dL_law_1099 ?_
  refine k_aload_n (q := 1) C dL_law_1100 rfl rfl ?_
  refine k_iload_n (q := 0) C dL_law_1101 rfl rfl ?_
  refine k_iconst (v := 2) C dL_law_1102 rfl ?_
  refine k_iadd C dL_law_1103 ?_
  refine k_sld C hX hbl hbA (hin 2 (by decide) (by decide)) dL_law_1104 ?_
  refine k_fC C (ct_X10_promise ((r, S1)) e1) my_10_promise ml_L_114 rfl ⟨Nat.le_of_ble_eq_true rfl, Nat.le_of_ble_eq_true rfl⟩ (recvC (b := 200) (ci := 10) rfl ⟨rfl, rfl⟩ am_219 rfl rfl) rfl (Nat.le_of_ble_eq_true rfl) dL_law_1105 (bud_0 hk) (fun v w hp => ?_)
  obtain ⟨rfl, rfl⟩ := hp
  refine k_aload_n (q := 3) C dL_law_1108 rfl rfl ?_
  refine k_aload_n (q := 1) C dL_law_1109 rfl rfl ?_
  refine k_iload_n (q := 0) C dL_law_1110 rfl rfl ?_
  refine k_iconst (v := 1) C dL_law_1111 rfl ?_
  refine k_iadd C dL_law_1112 ?_
  refine k_sld C hX hbl hbA (hin 1 (by decide) (by decide)) dL_law_1113 ?_
  refine k_aload_n (q := 1) C dL_law_1114 rfl rfl ?_
  refine k_iload_n (q := 0) C dL_law_1115 rfl rfl ?_
  refine k_iconst (v := 2) C dL_law_1116 rfl ?_
  refine k_iadd C dL_law_1117 ?_
  refine k_sld C hX hbl hbA (hin 2 (by decide) (by decide)) dL_law_1118 ?_
  refine k_fM C (ct_X11_promise ((r, M1)) e2) my_11_promise ml_L_117 rfl ⟨Nat.le_of_ble_eq_true rfl, Nat.le_of_ble_eq_true rfl⟩ recvM rfl (Nat.le_of_ble_eq_true rfl) dL_law_1119 (bud_0 hk) (fun v w hp => ?_)
  obtain ⟨rfl, rfl⟩ := hp
  refine k_icmp_eq_rf (tgt := 1666) C dL_law_1122 (by decide) ?_
  exact hK _ _ _ _ _ _ hR (bud_f hk)
set_option maxRecDepth 20000 in
theorem lc_judge (hst : ST_judge F RR) : LCS p l e R s m args below meth c θ ad ad2 b L xs F RR 1127 := by
  intro C hX hbl hbA t x3 hin ht S Z M Y k n hR hk hK
  obtain ⟨r, S1, Z1, M1, e1, e2, hR⟩ := hst t S Z M ht hR
  refine k_aload_n (q := 2) C dL_law_1127 rfl rfl ?_
  refine k_fC C (ct_X10_judge ((r, S1, Z1)) e1) my_10_judge ml_L_118 rfl ⟨Nat.le_of_ble_eq_true rfl, Nat.le_of_ble_eq_true rfl⟩ (recvC (b := 200) (ci := 10) rfl ⟨rfl, rfl⟩ am_219 rfl rfl) rfl (Nat.le_of_ble_eq_true rfl) dL_law_1128 (bud_a hk (nd_1 Z)) (fun v w hp => ?_)
  obtain ⟨rfl, Y1, rfl⟩ := hp
  refine k_aload_n (q := 3) C dL_law_1131 rfl rfl ?_
  refine k_fM C (ct_X11_judge ((r, M1)) e2) my_11_judge ml_L_121 rfl ⟨Nat.le_of_ble_eq_true rfl, Nat.le_of_ble_eq_true rfl⟩ recvM rfl (Nat.le_of_ble_eq_true rfl) dL_law_1132 (bud_b hk (nd_1 Z)) (fun v w hp => ?_)
  obtain ⟨rfl, rfl⟩ := hp
  refine k_icmp_eq_rf (tgt := 1666) C dL_law_1135 (by decide) ?_
  exact hK _ _ _ _ _ _ hR (bud_e hk (nd_1 Z))
set_option maxRecDepth 20000 in
theorem lc_dated (hst : ST_dated F RR) : LCS p l e R s m args below meth c θ ad ad2 b L xs F RR 1140 := by
  intro C hX hbl hbA t x3 hin ht S Z M Y k n hR hk hK
  obtain ⟨r, S1, Z1, M1, e1, e2, hR⟩ := hst t S Z M (xs (x3 + 1).toNatClampNeg) ht hR
  refine k_aload_n (q := 2) C dL_law_1140 rfl rfl ?_
  refine k_aload_n (q := 1) C dL_law_1141 rfl rfl ?_
  refine k_iload_n (q := 0) C dL_law_1142 rfl rfl ?_
  refine k_iconst (v := 1) C dL_law_1143 rfl ?_
  refine k_iadd C dL_law_1144 ?_
  refine k_sld C hX hbl hbA (hin 1 (by decide) (by decide)) dL_law_1145 ?_
  refine k_fC C (ct_X10_dated ((r, S1, Z1)) e1) my_10_dated ml_L_122 rfl ⟨Nat.le_of_ble_eq_true rfl, Nat.le_of_ble_eq_true rfl⟩ (recvC (b := 200) (ci := 10) rfl ⟨rfl, rfl⟩ am_219 rfl rfl) rfl (Nat.le_of_ble_eq_true rfl) dL_law_1146 (bud_a hk (nd_1 Z)) (fun v w hp => ?_)
  obtain ⟨rfl, Y1, rfl⟩ := hp
  refine k_aload_n (q := 3) C dL_law_1149 rfl rfl ?_
  refine k_aload_n (q := 1) C dL_law_1150 rfl rfl ?_
  refine k_iload_n (q := 0) C dL_law_1151 rfl rfl ?_
  refine k_iconst (v := 1) C dL_law_1152 rfl ?_
  refine k_iadd C dL_law_1153 ?_
  refine k_sld C hX hbl hbA (hin 1 (by decide) (by decide)) dL_law_1154 ?_
  refine k_fM C (ct_X11_dated ((r, M1)) e2) my_11_dated ml_L_125 rfl ⟨Nat.le_of_ble_eq_true rfl, Nat.le_of_ble_eq_true rfl⟩ recvM rfl (Nat.le_of_ble_eq_true rfl) dL_law_1155 (bud_b hk (nd_1 Z)) (fun v w hp => ?_)
  obtain ⟨rfl, rfl⟩ := hp
  refine k_icmp_eq_rf (tgt := 1666) C dL_law_1158 (by decide) ?_
  exact hK _ _ _ _ _ _ hR (bud_e hk (nd_1 Z))
set_option maxRecDepth 20000 in
theorem lc_claims (hst : ST_claims F RR) : LCS p l e R s m args below meth c θ ad ad2 b L xs F RR 1163 := by
  intro C hX hbl hbA t x3 hin ht S Z M Y k n hR hk hK
  obtain ⟨r, S1, Z1, M1, e1, e2, hR⟩ := hst t S Z M (xs (x3 + 1).toNatClampNeg) (xs (x3 + 2).toNatClampNeg) ht hR
  refine k_aload_n (q := 2) C dL_law_1163 rfl rfl ?_
  refine k_aload_n (q := 1) C dL_law_1164 rfl rfl ?_
  refine k_iload_n (q := 0) C dL_law_1165 rfl rfl ?_
  refine k_iconst (v := 1) C dL_law_1166 rfl ?_
  refine k_iadd C dL_law_1167 ?_
  refine k_sld C hX hbl hbA (hin 1 (by decide) (by decide)) dL_law_1168 ?_
  refine k_aload_n (q := 1) C dL_law_1169 rfl rfl ?_
  refine k_iload_n (q := 0) C dL_law_1170 rfl rfl ?_
  refine k_iconst (v := 2) C dL_law_1171 rfl ?_
  refine k_iadd C dL_law_1172 ?_
  refine k_sld C hX hbl hbA (hin 2 (by decide) (by decide)) dL_law_1173 ?_
  refine k_fC C (ct_X10_claims ((r, S1, Z1)) e1) my_10_claims ml_L_126 rfl ⟨Nat.le_of_ble_eq_true rfl, Nat.le_of_ble_eq_true rfl⟩ (recvC (b := 200) (ci := 10) rfl ⟨rfl, rfl⟩ am_219 rfl rfl) rfl (Nat.le_of_ble_eq_true rfl) dL_law_1174 (bud_a hk (nd_1 Z)) (fun v w hp => ?_)
  obtain ⟨rfl, Y1, rfl⟩ := hp
  refine k_aload_n (q := 3) C dL_law_1177 rfl rfl ?_
  refine k_aload_n (q := 1) C dL_law_1178 rfl rfl ?_
  refine k_iload_n (q := 0) C dL_law_1179 rfl rfl ?_
  refine k_iconst (v := 1) C dL_law_1180 rfl ?_
  refine k_iadd C dL_law_1181 ?_
  refine k_sld C hX hbl hbA (hin 1 (by decide) (by decide)) dL_law_1182 ?_
  refine k_aload_n (q := 1) C dL_law_1183 rfl rfl ?_
  refine k_iload_n (q := 0) C dL_law_1184 rfl rfl ?_
  refine k_iconst (v := 2) C dL_law_1185 rfl ?_
  refine k_iadd C dL_law_1186 ?_
  refine k_sld C hX hbl hbA (hin 2 (by decide) (by decide)) dL_law_1187 ?_
  refine k_fM C (ct_X11_claims ((r, M1)) e2) my_11_claims ml_L_129 rfl ⟨Nat.le_of_ble_eq_true rfl, Nat.le_of_ble_eq_true rfl⟩ recvM rfl (Nat.le_of_ble_eq_true rfl) dL_law_1188 (bud_b hk (nd_1 Z)) (fun v w hp => ?_)
  obtain ⟨rfl, rfl⟩ := hp
  refine k_icmp_eq_rf (tgt := 1666) C dL_law_1191 (by decide) ?_
  exact hK _ _ _ _ _ _ hR (bud_e hk (nd_1 Z))
set_option maxRecDepth 20000 in
theorem lc_year (hst : ST_year F RR) : LCS p l e R s m args below meth c θ ad ad2 b L xs F RR 1196 := by
  intro C hX hbl hbA t x3 hin ht S Z M Y k n hR hk hK
  obtain ⟨r, S1, Z1, M1, e1, e2, hR⟩ := hst t S Z M (xs (x3 + 1).toNatClampNeg) (xs (x3 + 2).toNatClampNeg) (xs (x3 + 3).toNatClampNeg) (xs (x3 + 4).toNatClampNeg) ht hR
  refine k_aload_n (q := 2) C dL_law_1196 rfl rfl ?_
  refine k_aload_n (q := 1) C dL_law_1197 rfl rfl ?_
  refine k_iload_n (q := 0) C dL_law_1198 rfl rfl ?_
  refine k_iconst (v := 1) C dL_law_1199 rfl ?_
  refine k_iadd C dL_law_1200 ?_
  refine k_sld C hX hbl hbA (hin 1 (by decide) (by decide)) dL_law_1201 ?_
  refine k_aload_n (q := 1) C dL_law_1202 rfl rfl ?_
  refine k_iload_n (q := 0) C dL_law_1203 rfl rfl ?_
  refine k_iconst (v := 2) C dL_law_1204 rfl ?_
  refine k_iadd C dL_law_1205 ?_
  refine k_sld C hX hbl hbA (hin 2 (by decide) (by decide)) dL_law_1206 ?_
  refine k_aload_n (q := 1) C dL_law_1207 rfl rfl ?_
  refine k_iload_n (q := 0) C dL_law_1208 rfl rfl ?_
  refine k_iconst (v := 3) C dL_law_1209 rfl ?_
  refine k_iadd C dL_law_1210 ?_
  refine k_sld C hX hbl hbA (hin 3 (by decide) (by decide)) dL_law_1211 ?_
  refine k_aload_n (q := 1) C dL_law_1212 rfl rfl ?_
  refine k_iload_n (q := 0) C dL_law_1213 rfl rfl ?_
  refine k_iconst (v := 4) C dL_law_1214 rfl ?_
  refine k_iadd C dL_law_1215 ?_
  refine k_sld C hX hbl hbA (hin 4 (by decide) (by decide)) dL_law_1216 ?_
  refine k_fC C (ct_X10_year ((r, S1, Z1)) e1) my_10_year ml_L_130 rfl ⟨Nat.le_of_ble_eq_true rfl, Nat.le_of_ble_eq_true rfl⟩ (recvC (b := 200) (ci := 10) rfl ⟨rfl, rfl⟩ am_219 rfl rfl) rfl (Nat.le_of_ble_eq_true rfl) dL_law_1217 (bud_a hk (nd_1 Z)) (fun v w hp => ?_)
  obtain ⟨rfl, Y1, rfl⟩ := hp
  refine k_aload_n (q := 3) C dL_law_1220 rfl rfl ?_
  refine k_aload_n (q := 1) C dL_law_1221 rfl rfl ?_
  refine k_iload_n (q := 0) C dL_law_1222 rfl rfl ?_
  refine k_iconst (v := 1) C dL_law_1223 rfl ?_
  refine k_iadd C dL_law_1224 ?_
  refine k_sld C hX hbl hbA (hin 1 (by decide) (by decide)) dL_law_1225 ?_
  refine k_aload_n (q := 1) C dL_law_1226 rfl rfl ?_
  refine k_iload_n (q := 0) C dL_law_1227 rfl rfl ?_
  refine k_iconst (v := 2) C dL_law_1228 rfl ?_
  refine k_iadd C dL_law_1229 ?_
  refine k_sld C hX hbl hbA (hin 2 (by decide) (by decide)) dL_law_1230 ?_
  refine k_aload_n (q := 1) C dL_law_1231 rfl rfl ?_
  refine k_iload_n (q := 0) C dL_law_1232 rfl rfl ?_
  refine k_iconst (v := 3) C dL_law_1233 rfl ?_
  refine k_iadd C dL_law_1234 ?_
  refine k_sld C hX hbl hbA (hin 3 (by decide) (by decide)) dL_law_1235 ?_
  refine k_aload_n (q := 1) C dL_law_1236 rfl rfl ?_
  refine k_iload_n (q := 0) C dL_law_1237 rfl rfl ?_
  refine k_iconst (v := 4) C dL_law_1238 rfl ?_
  refine k_iadd C dL_law_1239 ?_
  refine k_sld C hX hbl hbA (hin 4 (by decide) (by decide)) dL_law_1240 ?_
  refine k_fM C (ct_X11_year ((r, M1)) e2) my_11_year ml_L_133 rfl ⟨Nat.le_of_ble_eq_true rfl, Nat.le_of_ble_eq_true rfl⟩ recvM rfl (Nat.le_of_ble_eq_true rfl) dL_law_1241 (bud_b hk (nd_1 Z)) (fun v w hp => ?_)
  obtain ⟨rfl, rfl⟩ := hp
  refine k_icmp_eq_rf (tgt := 1666) C dL_law_1244 (by decide) ?_
  exact hK _ _ _ _ _ _ hR (bud_e hk (nd_1 Z))
set_option maxRecDepth 20000 in
theorem lc_undo (hst : ST_undo F RR) : LCS p l e R s m args below meth c θ ad ad2 b L xs F RR 1249 := by
  intro C hX hbl hbA t x3 hin ht S Z M Y k n hR hk hK
  obtain ⟨r, S1, M1, e1, e2, hR⟩ := hst t S Z M ht hR
  refine k_aload_n (q := 2) C dL_law_1249 rfl rfl ?_
  refine k_fC C (ct_X10_undo ((r, S1)) e1) my_10_undo ml_L_134 rfl ⟨Nat.le_of_ble_eq_true rfl, Nat.le_of_ble_eq_true rfl⟩ (recvC (b := 200) (ci := 10) rfl ⟨rfl, rfl⟩ am_219 rfl rfl) rfl (Nat.le_of_ble_eq_true rfl) dL_law_1250 (bud_0 hk) (fun v w hp => ?_)
  obtain ⟨rfl, rfl⟩ := hp
  refine k_aload_n (q := 3) C dL_law_1253 rfl rfl ?_
  refine k_fM C (ct_X11_undo ((r, M1)) e2) my_11_undo ml_L_137 rfl ⟨Nat.le_of_ble_eq_true rfl, Nat.le_of_ble_eq_true rfl⟩ recvM rfl (Nat.le_of_ble_eq_true rfl) dL_law_1254 (bud_0 hk) (fun v w hp => ?_)
  obtain ⟨rfl, rfl⟩ := hp
  refine k_icmp_eq_rf (tgt := 1666) C dL_law_1257 (by decide) ?_
  exact hK _ _ _ _ _ _ hR (bud_f hk)
set_option maxRecDepth 20000 in
theorem lc_redo (hst : ST_redo F RR) : LCS p l e R s m args below meth c θ ad ad2 b L xs F RR 1262 := by
  intro C hX hbl hbA t x3 hin ht S Z M Y k n hR hk hK
  obtain ⟨r, S1, M1, e1, e2, hR⟩ := hst t S Z M ht hR
  refine k_aload_n (q := 2) C dL_law_1262 rfl rfl ?_
  refine k_fC C (ct_X10_redo ((r, S1)) e1) my_10_redo ml_L_138 rfl ⟨Nat.le_of_ble_eq_true rfl, Nat.le_of_ble_eq_true rfl⟩ (recvC (b := 200) (ci := 10) rfl ⟨rfl, rfl⟩ am_219 rfl rfl) rfl (Nat.le_of_ble_eq_true rfl) dL_law_1263 (bud_0 hk) (fun v w hp => ?_)
  obtain ⟨rfl, rfl⟩ := hp
  refine k_aload_n (q := 3) C dL_law_1266 rfl rfl ?_
  refine k_fM C (ct_X11_redo ((r, M1)) e2) my_11_redo ml_L_141 rfl ⟨Nat.le_of_ble_eq_true rfl, Nat.le_of_ble_eq_true rfl⟩ recvM rfl (Nat.le_of_ble_eq_true rfl) dL_law_1267 (bud_0 hk) (fun v w hp => ?_)
  obtain ⟨rfl, rfl⟩ := hp
  refine k_icmp_eq_rf (tgt := 1666) C dL_law_1270 (by decide) ?_
  exact hK _ _ _ _ _ _ hR (bud_f hk)
set_option maxRecDepth 20000 in
theorem lc_body (hst : ST_body F RR) : LCS p l e R s m args below meth c θ ad ad2 b L xs F RR 1275 := by
  intro C hX hbl hbA t x3 hin ht S Z M Y k n hR hk hK
  obtain ⟨r, S1, M1, e1, e2, hR⟩ := hst t S Z M (xs (x3 + 1).toNatClampNeg) ht hR
  refine k_aload_n (q := 2) C dL_law_1275 rfl rfl ?_
  refine k_aload_n (q := 1) C dL_law_1276 rfl rfl ?_
  refine k_iload_n (q := 0) C dL_law_1277 rfl rfl ?_
  refine k_iconst (v := 1) C dL_law_1278 rfl ?_
  refine k_iadd C dL_law_1279 ?_
  refine k_sld C hX hbl hbA (hin 1 (by decide) (by decide)) dL_law_1280 ?_
  refine k_fC C (ct_X10_body ((r, S1)) e1) my_10_body ml_L_142 rfl ⟨Nat.le_of_ble_eq_true rfl, Nat.le_of_ble_eq_true rfl⟩ (recvC (b := 200) (ci := 10) rfl ⟨rfl, rfl⟩ am_219 rfl rfl) rfl (Nat.le_of_ble_eq_true rfl) dL_law_1281 (bud_0 hk) (fun v w hp => ?_)
  obtain ⟨rfl, rfl⟩ := hp
  refine k_aload_n (q := 3) C dL_law_1284 rfl rfl ?_
  refine k_aload_n (q := 1) C dL_law_1285 rfl rfl ?_
  refine k_iload_n (q := 0) C dL_law_1286 rfl rfl ?_
  refine k_iconst (v := 1) C dL_law_1287 rfl ?_
  refine k_iadd C dL_law_1288 ?_
  refine k_sld C hX hbl hbA (hin 1 (by decide) (by decide)) dL_law_1289 ?_
  refine k_fM C (ct_X11_body ((r, M1)) e2) my_11_body ml_L_145 rfl ⟨Nat.le_of_ble_eq_true rfl, Nat.le_of_ble_eq_true rfl⟩ recvM rfl (Nat.le_of_ble_eq_true rfl) dL_law_1290 (bud_0 hk) (fun v w hp => ?_)
  obtain ⟨rfl, rfl⟩ := hp
  refine k_icmp_eq_rf (tgt := 1666) C dL_law_1293 (by decide) ?_
  exact hK _ _ _ _ _ _ hR (bud_f hk)
set_option maxRecDepth 20000 in
theorem lc_act (hst : ST_act F RR) : LCS p l e R s m args below meth c θ ad ad2 b L xs F RR 1298 := by
  intro C hX hbl hbA t x3 hin ht S Z M Y k n hR hk hK
  obtain ⟨r, S1, M1, e1, e2, hR⟩ := hst t S Z M (xs (x3 + 1).toNatClampNeg) (xs (x3 + 2).toNatClampNeg) (xs (x3 + 3).toNatClampNeg) ht hR
  refine k_aload_n (q := 2) C dL_law_1298 rfl rfl ?_
  refine k_aload_n (q := 1) C dL_law_1299 rfl rfl ?_
  refine k_iload_n (q := 0) C dL_law_1300 rfl rfl ?_
  refine k_iconst (v := 1) C dL_law_1301 rfl ?_
  refine k_iadd C dL_law_1302 ?_
  refine k_sld C hX hbl hbA (hin 1 (by decide) (by decide)) dL_law_1303 ?_
  refine k_aload_n (q := 1) C dL_law_1304 rfl rfl ?_
  refine k_iload_n (q := 0) C dL_law_1305 rfl rfl ?_
  refine k_iconst (v := 2) C dL_law_1306 rfl ?_
  refine k_iadd C dL_law_1307 ?_
  refine k_sld C hX hbl hbA (hin 2 (by decide) (by decide)) dL_law_1308 ?_
  refine k_aload_n (q := 1) C dL_law_1309 rfl rfl ?_
  refine k_iload_n (q := 0) C dL_law_1310 rfl rfl ?_
  refine k_iconst (v := 3) C dL_law_1311 rfl ?_
  refine k_iadd C dL_law_1312 ?_
  refine k_sld C hX hbl hbA (hin 3 (by decide) (by decide)) dL_law_1313 ?_
  refine k_fC C (ct_X10_act ((r, S1)) e1) my_10_act ml_L_146 rfl ⟨Nat.le_of_ble_eq_true rfl, Nat.le_of_ble_eq_true rfl⟩ (recvC (b := 200) (ci := 10) rfl ⟨rfl, rfl⟩ am_219 rfl rfl) rfl (Nat.le_of_ble_eq_true rfl) dL_law_1314 (bud_0 hk) (fun v w hp => ?_)
  obtain ⟨rfl, rfl⟩ := hp
  refine k_aload_n (q := 3) C dL_law_1317 rfl rfl ?_
  refine k_aload_n (q := 1) C dL_law_1318 rfl rfl ?_
  refine k_iload_n (q := 0) C dL_law_1319 rfl rfl ?_
  refine k_iconst (v := 1) C dL_law_1320 rfl ?_
  refine k_iadd C dL_law_1321 ?_
  refine k_sld C hX hbl hbA (hin 1 (by decide) (by decide)) dL_law_1322 ?_
  refine k_aload_n (q := 1) C dL_law_1323 rfl rfl ?_
  refine k_iload_n (q := 0) C dL_law_1324 rfl rfl ?_
  refine k_iconst (v := 2) C dL_law_1325 rfl ?_
  refine k_iadd C dL_law_1326 ?_
  refine k_sld C hX hbl hbA (hin 2 (by decide) (by decide)) dL_law_1327 ?_
  refine k_aload_n (q := 1) C dL_law_1328 rfl rfl ?_
  refine k_iload_n (q := 0) C dL_law_1329 rfl rfl ?_
  refine k_iconst (v := 3) C dL_law_1330 rfl ?_
  refine k_iadd C dL_law_1331 ?_
  refine k_sld C hX hbl hbA (hin 3 (by decide) (by decide)) dL_law_1332 ?_
  refine k_fM C (ct_X11_act ((r, M1)) e2) my_11_act ml_L_149 rfl ⟨Nat.le_of_ble_eq_true rfl, Nat.le_of_ble_eq_true rfl⟩ recvM rfl (Nat.le_of_ble_eq_true rfl) dL_law_1333 (bud_0 hk) (fun v w hp => ?_)
  obtain ⟨rfl, rfl⟩ := hp
  refine k_icmp_eq_rf (tgt := 1666) C dL_law_1336 (by decide) ?_
  exact hK _ _ _ _ _ _ hR (bud_f hk)
set_option maxRecDepth 20000 in
theorem lc_trace (hst : ST_trace F RR) : LCS p l e R s m args below meth c θ ad ad2 b L xs F RR 1341 := by
  intro C hX hbl hbA t x3 hin ht S Z M Y k n hR hk hK
  obtain ⟨r, e1, e2, hR⟩ := hst t S Z M (xs (x3 + 1).toNatClampNeg) ht hR
  refine k_aload_n (q := 2) C dL_law_1341 rfl rfl ?_
  refine k_aload_n (q := 1) C dL_law_1342 rfl rfl ?_
  refine k_iload_n (q := 0) C dL_law_1343 rfl rfl ?_
  refine k_iconst (v := 1) C dL_law_1344 rfl ?_
  refine k_iadd C dL_law_1345 ?_
  refine k_sld C hX hbl hbA (hin 1 (by decide) (by decide)) dL_law_1346 ?_
  refine k_fC C (ct_X10_trace (r) e1) my_10_trace ml_L_150 rfl ⟨Nat.le_of_ble_eq_true rfl, Nat.le_of_ble_eq_true rfl⟩ (recvC (b := 200) (ci := 10) rfl ⟨rfl, rfl⟩ am_219 rfl rfl) rfl (Nat.le_of_ble_eq_true rfl) dL_law_1347 (bud_0 hk) (fun v w hp => ?_)
  obtain ⟨rfl, rfl⟩ := hp
  refine k_aload_n (q := 3) C dL_law_1350 rfl rfl ?_
  refine k_aload_n (q := 1) C dL_law_1351 rfl rfl ?_
  refine k_iload_n (q := 0) C dL_law_1352 rfl rfl ?_
  refine k_iconst (v := 1) C dL_law_1353 rfl ?_
  refine k_iadd C dL_law_1354 ?_
  refine k_sld C hX hbl hbA (hin 1 (by decide) (by decide)) dL_law_1355 ?_
  refine k_fM C (ct_X11_trace (r) e2) my_11_trace ml_L_153 rfl ⟨Nat.le_of_ble_eq_true rfl, Nat.le_of_ble_eq_true rfl⟩ recvM rfl (Nat.le_of_ble_eq_true rfl) dL_law_1356 (bud_0 hk) (fun v w hp => ?_)
  obtain ⟨rfl, rfl⟩ := hp
  refine k_icmp_eq_rf (tgt := 1666) C dL_law_1359 (by decide) ?_
  exact hK _ _ _ _ _ _ hR (bud_f hk)
set_option maxRecDepth 20000 in
theorem lc_keep (hst : ST_keep F RR) : LCS p l e R s m args below meth c θ ad ad2 b L xs F RR 1364 := by
  intro C hX hbl hbA t x3 hin ht S Z M Y k n hR hk hK
  obtain ⟨r, S1, M1, e1, e2, hR⟩ := hst t S Z M (xs (x3 + 1).toNatClampNeg) (xs (x3 + 2).toNatClampNeg) ht hR
  refine k_aload_n (q := 2) C dL_law_1364 rfl rfl ?_
  refine k_aload_n (q := 1) C dL_law_1365 rfl rfl ?_
  refine k_iload_n (q := 0) C dL_law_1366 rfl rfl ?_
  refine k_iconst (v := 1) C dL_law_1367 rfl ?_
  refine k_iadd C dL_law_1368 ?_
  refine k_sld C hX hbl hbA (hin 1 (by decide) (by decide)) dL_law_1369 ?_
  refine k_aload_n (q := 1) C dL_law_1370 rfl rfl ?_
  refine k_iload_n (q := 0) C dL_law_1371 rfl rfl ?_
  refine k_iconst (v := 2) C dL_law_1372 rfl ?_
  refine k_iadd C dL_law_1373 ?_
  refine k_sld C hX hbl hbA (hin 2 (by decide) (by decide)) dL_law_1374 ?_
  refine k_fC C (ct_X10_keep ((r, S1)) e1) my_10_keep ml_L_154 rfl ⟨Nat.le_of_ble_eq_true rfl, Nat.le_of_ble_eq_true rfl⟩ (recvC (b := 200) (ci := 10) rfl ⟨rfl, rfl⟩ am_219 rfl rfl) rfl (Nat.le_of_ble_eq_true rfl) dL_law_1375 (bud_0 hk) (fun v w hp => ?_)
  obtain ⟨rfl, rfl⟩ := hp
  refine k_aload_n (q := 3) C dL_law_1378 rfl rfl ?_
  refine k_aload_n (q := 1) C dL_law_1379 rfl rfl ?_
  refine k_iload_n (q := 0) C dL_law_1380 rfl rfl ?_
  refine k_iconst (v := 1) C dL_law_1381 rfl ?_
  refine k_iadd C dL_law_1382 ?_
  refine k_sld C hX hbl hbA (hin 1 (by decide) (by decide)) dL_law_1383 ?_
  refine k_aload_n (q := 1) C dL_law_1384 rfl rfl ?_
  refine k_iload_n (q := 0) C dL_law_1385 rfl rfl ?_
  refine k_iconst (v := 2) C dL_law_1386 rfl ?_
  refine k_iadd C dL_law_1387 ?_
  refine k_sld C hX hbl hbA (hin 2 (by decide) (by decide)) dL_law_1388 ?_
  refine k_fM C (ct_X11_keep ((r, M1)) e2) my_11_keep ml_L_157 rfl ⟨Nat.le_of_ble_eq_true rfl, Nat.le_of_ble_eq_true rfl⟩ recvM rfl (Nat.le_of_ble_eq_true rfl) dL_law_1389 (bud_0 hk) (fun v w hp => ?_)
  obtain ⟨rfl, rfl⟩ := hp
  refine k_icmp_eq_rf (tgt := 1666) C dL_law_1392 (by decide) ?_
  exact hK _ _ _ _ _ _ hR (bud_f hk)
set_option maxRecDepth 20000 in
theorem lc_row (hst : ST_row F RR) : LCS p l e R s m args below meth c θ ad ad2 b L xs F RR 1397 := by
  intro C hX hbl hbA t x3 hin ht S Z M Y k n hR hk hK
  obtain ⟨r, S1, M1, e1, e2, hR⟩ := hst t S Z M (xs (x3 + 1).toNatClampNeg) (xs (x3 + 2).toNatClampNeg) (xs (x3 + 3).toNatClampNeg) ht hR
  refine k_aload_n (q := 2) C dL_law_1397 rfl rfl ?_
  refine k_aload_n (q := 1) C dL_law_1398 rfl rfl ?_
  refine k_iload_n (q := 0) C dL_law_1399 rfl rfl ?_
  refine k_iconst (v := 1) C dL_law_1400 rfl ?_
  refine k_iadd C dL_law_1401 ?_
  refine k_sld C hX hbl hbA (hin 1 (by decide) (by decide)) dL_law_1402 ?_
  refine k_aload_n (q := 1) C dL_law_1403 rfl rfl ?_
  refine k_iload_n (q := 0) C dL_law_1404 rfl rfl ?_
  refine k_iconst (v := 2) C dL_law_1405 rfl ?_
  refine k_iadd C dL_law_1406 ?_
  refine k_sld C hX hbl hbA (hin 2 (by decide) (by decide)) dL_law_1407 ?_
  refine k_aload_n (q := 1) C dL_law_1408 rfl rfl ?_
  refine k_iload_n (q := 0) C dL_law_1409 rfl rfl ?_
  refine k_iconst (v := 3) C dL_law_1410 rfl ?_
  refine k_iadd C dL_law_1411 ?_
  refine k_sld C hX hbl hbA (hin 3 (by decide) (by decide)) dL_law_1412 ?_
  refine k_fC C (ct_X10_row ((r, S1)) e1) my_10_row ml_L_158 rfl ⟨Nat.le_of_ble_eq_true rfl, Nat.le_of_ble_eq_true rfl⟩ (recvC (b := 200) (ci := 10) rfl ⟨rfl, rfl⟩ am_219 rfl rfl) rfl (Nat.le_of_ble_eq_true rfl) dL_law_1413 (bud_0 hk) (fun v w hp => ?_)
  obtain ⟨rfl, rfl⟩ := hp
  refine k_aload_n (q := 3) C dL_law_1416 rfl rfl ?_
  refine k_aload_n (q := 1) C dL_law_1417 rfl rfl ?_
  refine k_iload_n (q := 0) C dL_law_1418 rfl rfl ?_
  refine k_iconst (v := 1) C dL_law_1419 rfl ?_
  refine k_iadd C dL_law_1420 ?_
  refine k_sld C hX hbl hbA (hin 1 (by decide) (by decide)) dL_law_1421 ?_
  refine k_aload_n (q := 1) C dL_law_1422 rfl rfl ?_
  refine k_iload_n (q := 0) C dL_law_1423 rfl rfl ?_
  refine k_iconst (v := 2) C dL_law_1424 rfl ?_
  refine k_iadd C dL_law_1425 ?_
  refine k_sld C hX hbl hbA (hin 2 (by decide) (by decide)) dL_law_1426 ?_
  refine k_aload_n (q := 1) C dL_law_1427 rfl rfl ?_
  refine k_iload_n (q := 0) C dL_law_1428 rfl rfl ?_
  refine k_iconst (v := 3) C dL_law_1429 rfl ?_
  refine k_iadd C dL_law_1430 ?_
  refine k_sld C hX hbl hbA (hin 3 (by decide) (by decide)) dL_law_1431 ?_
  refine k_fM C (ct_X11_row ((r, M1)) e2) my_11_row ml_L_161 rfl ⟨Nat.le_of_ble_eq_true rfl, Nat.le_of_ble_eq_true rfl⟩ recvM rfl (Nat.le_of_ble_eq_true rfl) dL_law_1432 (bud_0 hk) (fun v w hp => ?_)
  obtain ⟨rfl, rfl⟩ := hp
  refine k_icmp_eq_rf (tgt := 1666) C dL_law_1435 (by decide) ?_
  exact hK _ _ _ _ _ _ hR (bud_f hk)
set_option maxRecDepth 20000 in
theorem lc_put (hst : ST_put F RR) : LCS p l e R s m args below meth c θ ad ad2 b L xs F RR 1440 := by
  intro C hX hbl hbA t x3 hin ht S Z M Y k n hR hk hK
  obtain ⟨r, S1, M1, e1, e2, hR⟩ := hst t S Z M (xs (x3 + 1).toNatClampNeg) (xs (x3 + 2).toNatClampNeg) (((xs (x3 + 3).toNatClampNeg).toInt64 <<< ((32 : Int32).toInt64 &&& 63)) ||| ((xs (x3 + 4).toNatClampNeg).toInt64 &&& 4294967295)) ht hR
  refine k_aload_n (q := 2) C dL_law_1440 rfl rfl ?_
  refine k_aload_n (q := 1) C dL_law_1441 rfl rfl ?_
  refine k_iload_n (q := 0) C dL_law_1442 rfl rfl ?_
  refine k_iconst (v := 1) C dL_law_1443 rfl ?_
  refine k_iadd C dL_law_1444 ?_
  refine k_sld C hX hbl hbA (hin 1 (by decide) (by decide)) dL_law_1445 ?_
  refine k_aload_n (q := 1) C dL_law_1446 rfl rfl ?_
  refine k_iload_n (q := 0) C dL_law_1447 rfl rfl ?_
  refine k_iconst (v := 2) C dL_law_1448 rfl ?_
  refine k_iadd C dL_law_1449 ?_
  refine k_sld C hX hbl hbA (hin 2 (by decide) (by decide)) dL_law_1450 ?_
  refine k_aload_n (q := 1) C dL_law_1451 rfl rfl ?_
  refine k_iload_n (q := 0) C dL_law_1452 rfl rfl ?_
  refine k_iconst (v := 3) C dL_law_1453 rfl ?_
  refine k_iadd C dL_law_1454 ?_
  refine k_sld C hX hbl hbA (hin 3 (by decide) (by decide)) dL_law_1455 ?_
  refine k_i2l C dL_law_1456 ?_
  refine k_bipush (v := 32) C dL_law_1457 rfl ?_
  refine k_lshl C dL_law_1459 ?_
  refine k_aload_n (q := 1) C dL_law_1460 rfl rfl ?_
  refine k_iload_n (q := 0) C dL_law_1461 rfl rfl ?_
  refine k_iconst (v := 4) C dL_law_1462 rfl ?_
  refine k_iadd C dL_law_1463 ?_
  refine k_sld C hX hbl hbA (hin 4 (by decide) (by decide)) dL_law_1464 ?_
  refine k_i2l C dL_law_1465 ?_
  refine k_ldc2 C co_L_162 dL_law_1466 ?_
  refine k_land C dL_law_1469 ?_
  refine k_lor C dL_law_1470 ?_
  refine k_fC C (ct_X10_put ((r, S1)) e1) my_10_put ml_L_164 rfl ⟨Nat.le_of_ble_eq_true rfl, Nat.le_of_ble_eq_true rfl⟩ (recvC (b := 200) (ci := 10) rfl ⟨rfl, rfl⟩ am_219 rfl rfl) rfl (Nat.le_of_ble_eq_true rfl) dL_law_1471 (bud_0 hk) (fun v w hp => ?_)
  obtain ⟨rfl, rfl⟩ := hp
  refine k_aload_n (q := 3) C dL_law_1474 rfl rfl ?_
  refine k_aload_n (q := 1) C dL_law_1475 rfl rfl ?_
  refine k_iload_n (q := 0) C dL_law_1476 rfl rfl ?_
  refine k_iconst (v := 1) C dL_law_1477 rfl ?_
  refine k_iadd C dL_law_1478 ?_
  refine k_sld C hX hbl hbA (hin 1 (by decide) (by decide)) dL_law_1479 ?_
  refine k_aload_n (q := 1) C dL_law_1480 rfl rfl ?_
  refine k_iload_n (q := 0) C dL_law_1481 rfl rfl ?_
  refine k_iconst (v := 2) C dL_law_1482 rfl ?_
  refine k_iadd C dL_law_1483 ?_
  refine k_sld C hX hbl hbA (hin 2 (by decide) (by decide)) dL_law_1484 ?_
  refine k_aload_n (q := 1) C dL_law_1485 rfl rfl ?_
  refine k_iload_n (q := 0) C dL_law_1486 rfl rfl ?_
  refine k_iconst (v := 3) C dL_law_1487 rfl ?_
  refine k_iadd C dL_law_1488 ?_
  refine k_sld C hX hbl hbA (hin 3 (by decide) (by decide)) dL_law_1489 ?_
  refine k_i2l C dL_law_1490 ?_
  refine k_bipush (v := 32) C dL_law_1491 rfl ?_
  refine k_lshl C dL_law_1493 ?_
  refine k_aload_n (q := 1) C dL_law_1494 rfl rfl ?_
  refine k_iload_n (q := 0) C dL_law_1495 rfl rfl ?_
  refine k_iconst (v := 4) C dL_law_1496 rfl ?_
  refine k_iadd C dL_law_1497 ?_
  refine k_sld C hX hbl hbA (hin 4 (by decide) (by decide)) dL_law_1498 ?_
  refine k_i2l C dL_law_1499 ?_
  refine k_ldc2 C co_L_162 dL_law_1500 ?_
  refine k_land C dL_law_1503 ?_
  refine k_lor C dL_law_1504 ?_
  refine k_fM C (ct_X11_put ((r, M1)) e2) my_11_put ml_L_168 rfl ⟨Nat.le_of_ble_eq_true rfl, Nat.le_of_ble_eq_true rfl⟩ recvM rfl (Nat.le_of_ble_eq_true rfl) dL_law_1505 (bud_0 hk) (fun v w hp => ?_)
  obtain ⟨rfl, rfl⟩ := hp
  refine k_icmp_eq_rf (tgt := 1666) C dL_law_1508 (by decide) ?_
  exact hK _ _ _ _ _ _ hR (bud_f hk)
set_option maxRecDepth 20000 in
theorem lc_element (hst : ST_element F RR) : LCS p l e R s m args below meth c θ ad ad2 b L xs F RR 1513 := by
  intro C hX hbl hbA t x3 hin ht S Z M Y k n hR hk hK
  obtain ⟨r, e1, e2, hR⟩ := hst t S Z M (xs (x3 + 1).toNatClampNeg) (xs (x3 + 2).toNatClampNeg) ht hR
  refine k_aload_n (q := 2) C dL_law_1513 rfl rfl ?_
  refine k_aload_n (q := 1) C dL_law_1514 rfl rfl ?_
  refine k_iload_n (q := 0) C dL_law_1515 rfl rfl ?_
  refine k_iconst (v := 1) C dL_law_1516 rfl ?_
  refine k_iadd C dL_law_1517 ?_
  refine k_sld C hX hbl hbA (hin 1 (by decide) (by decide)) dL_law_1518 ?_
  refine k_aload_n (q := 1) C dL_law_1519 rfl rfl ?_
  refine k_iload_n (q := 0) C dL_law_1520 rfl rfl ?_
  refine k_iconst (v := 2) C dL_law_1521 rfl ?_
  refine k_iadd C dL_law_1522 ?_
  refine k_sld C hX hbl hbA (hin 2 (by decide) (by decide)) dL_law_1523 ?_
  refine k_fC C (ct_X10_element (r) e1) my_10_element ml_L_169 rfl ⟨Nat.le_of_ble_eq_true rfl, Nat.le_of_ble_eq_true rfl⟩ (recvC (b := 200) (ci := 10) rfl ⟨rfl, rfl⟩ am_219 rfl rfl) rfl (Nat.le_of_ble_eq_true rfl) dL_law_1524 (bud_0 hk) (fun v w hp => ?_)
  obtain ⟨rfl, rfl⟩ := hp
  refine k_aload_n (q := 3) C dL_law_1527 rfl rfl ?_
  refine k_aload_n (q := 1) C dL_law_1528 rfl rfl ?_
  refine k_iload_n (q := 0) C dL_law_1529 rfl rfl ?_
  refine k_iconst (v := 1) C dL_law_1530 rfl ?_
  refine k_iadd C dL_law_1531 ?_
  refine k_sld C hX hbl hbA (hin 1 (by decide) (by decide)) dL_law_1532 ?_
  refine k_aload_n (q := 1) C dL_law_1533 rfl rfl ?_
  refine k_iload_n (q := 0) C dL_law_1534 rfl rfl ?_
  refine k_iconst (v := 2) C dL_law_1535 rfl ?_
  refine k_iadd C dL_law_1536 ?_
  refine k_sld C hX hbl hbA (hin 2 (by decide) (by decide)) dL_law_1537 ?_
  refine k_fM C (ct_X11_element (r) e2) my_11_element ml_L_173 rfl ⟨Nat.le_of_ble_eq_true rfl, Nat.le_of_ble_eq_true rfl⟩ recvM rfl (Nat.le_of_ble_eq_true rfl) dL_law_1538 (bud_0 hk) (fun v w hp => ?_)
  obtain ⟨rfl, rfl⟩ := hp
  refine k_lcmp C dL_law_1541 ?_
  rw [lg_cmp_rf]
  refine k_if_eq_rf (tgt := 1666) C dL_law_1542 (by decide) ?_
  exact hK _ _ _ _ _ _ hR (bud_f hk)
set_option maxRecDepth 20000 in
theorem lc_shift (hst : ST_shift F RR) : LCS p l e R s m args below meth c θ ad ad2 b L xs F RR 1547 := by
  intro C hX hbl hbA t x3 hin ht S Z M Y k n hR hk hK
  obtain ⟨r, S1, M1, e1, e2, hR⟩ := hst t S Z M (xs (x3 + 1).toNatClampNeg) (xs (x3 + 2).toNatClampNeg) (xs (x3 + 3).toNatClampNeg) (xs (x3 + 4).toNatClampNeg) (xs (x3 + 5).toNatClampNeg) ht hR
  refine k_aload_n (q := 2) C dL_law_1547 rfl rfl ?_
  refine k_aload_n (q := 1) C dL_law_1548 rfl rfl ?_
  refine k_iload_n (q := 0) C dL_law_1549 rfl rfl ?_
  refine k_iconst (v := 1) C dL_law_1550 rfl ?_
  refine k_iadd C dL_law_1551 ?_
  refine k_sld C hX hbl hbA (hin 1 (by decide) (by decide)) dL_law_1552 ?_
  refine k_aload_n (q := 1) C dL_law_1553 rfl rfl ?_
  refine k_iload_n (q := 0) C dL_law_1554 rfl rfl ?_
  refine k_iconst (v := 2) C dL_law_1555 rfl ?_
  refine k_iadd C dL_law_1556 ?_
  refine k_sld C hX hbl hbA (hin 2 (by decide) (by decide)) dL_law_1557 ?_
  refine k_aload_n (q := 1) C dL_law_1558 rfl rfl ?_
  refine k_iload_n (q := 0) C dL_law_1559 rfl rfl ?_
  refine k_iconst (v := 3) C dL_law_1560 rfl ?_
  refine k_iadd C dL_law_1561 ?_
  refine k_sld C hX hbl hbA (hin 3 (by decide) (by decide)) dL_law_1562 ?_
  refine k_aload_n (q := 1) C dL_law_1563 rfl rfl ?_
  refine k_iload_n (q := 0) C dL_law_1564 rfl rfl ?_
  refine k_iconst (v := 4) C dL_law_1565 rfl ?_
  refine k_iadd C dL_law_1566 ?_
  refine k_sld C hX hbl hbA (hin 4 (by decide) (by decide)) dL_law_1567 ?_
  refine k_aload_n (q := 1) C dL_law_1568 rfl rfl ?_
  refine k_iload_n (q := 0) C dL_law_1569 rfl rfl ?_
  refine k_iconst (v := 5) C dL_law_1570 rfl ?_
  refine k_iadd C dL_law_1571 ?_
  refine k_sld C hX hbl hbA (hin 5 (by decide) (by decide)) dL_law_1572 ?_
  refine k_fC C (ct_X10_shift ((r, S1)) e1) my_10_shift ml_L_174 rfl ⟨Nat.le_of_ble_eq_true rfl, Nat.le_of_ble_eq_true rfl⟩ (recvC (b := 200) (ci := 10) rfl ⟨rfl, rfl⟩ am_219 rfl rfl) rfl (Nat.le_of_ble_eq_true rfl) dL_law_1573 (bud_0 hk) (fun v w hp => ?_)
  obtain ⟨rfl, rfl⟩ := hp
  refine k_aload_n (q := 3) C dL_law_1576 rfl rfl ?_
  refine k_aload_n (q := 1) C dL_law_1577 rfl rfl ?_
  refine k_iload_n (q := 0) C dL_law_1578 rfl rfl ?_
  refine k_iconst (v := 1) C dL_law_1579 rfl ?_
  refine k_iadd C dL_law_1580 ?_
  refine k_sld C hX hbl hbA (hin 1 (by decide) (by decide)) dL_law_1581 ?_
  refine k_aload_n (q := 1) C dL_law_1582 rfl rfl ?_
  refine k_iload_n (q := 0) C dL_law_1583 rfl rfl ?_
  refine k_iconst (v := 2) C dL_law_1584 rfl ?_
  refine k_iadd C dL_law_1585 ?_
  refine k_sld C hX hbl hbA (hin 2 (by decide) (by decide)) dL_law_1586 ?_
  refine k_aload_n (q := 1) C dL_law_1587 rfl rfl ?_
  refine k_iload_n (q := 0) C dL_law_1588 rfl rfl ?_
  refine k_iconst (v := 3) C dL_law_1589 rfl ?_
  refine k_iadd C dL_law_1590 ?_
  refine k_sld C hX hbl hbA (hin 3 (by decide) (by decide)) dL_law_1591 ?_
  refine k_aload_n (q := 1) C dL_law_1592 rfl rfl ?_
  refine k_iload_n (q := 0) C dL_law_1593 rfl rfl ?_
  refine k_iconst (v := 4) C dL_law_1594 rfl ?_
  refine k_iadd C dL_law_1595 ?_
  refine k_sld C hX hbl hbA (hin 4 (by decide) (by decide)) dL_law_1596 ?_
  refine k_aload_n (q := 1) C dL_law_1597 rfl rfl ?_
  refine k_iload_n (q := 0) C dL_law_1598 rfl rfl ?_
  refine k_iconst (v := 5) C dL_law_1599 rfl ?_
  refine k_iadd C dL_law_1600 ?_
  refine k_sld C hX hbl hbA (hin 5 (by decide) (by decide)) dL_law_1601 ?_
  refine k_fM C (ct_X11_shift ((r, M1)) e2) my_11_shift ml_L_178 rfl ⟨Nat.le_of_ble_eq_true rfl, Nat.le_of_ble_eq_true rfl⟩ recvM rfl (Nat.le_of_ble_eq_true rfl) dL_law_1602 (bud_0 hk) (fun v w hp => ?_)
  obtain ⟨rfl, rfl⟩ := hp
  refine k_icmp_eq_rf (tgt := 1666) C dL_law_1605 (by decide) ?_
  exact hK _ _ _ _ _ _ hR (bud_f hk)
set_option maxRecDepth 20000 in
theorem lc_taken (hst : ST_taken F RR) : LCS p l e R s m args below meth c θ ad ad2 b L xs F RR 1610 := by
  intro C hX hbl hbA t x3 hin ht S Z M Y k n hR hk hK
  obtain ⟨r, e1, e2, hR⟩ := hst t S Z M (xs (x3 + 1).toNatClampNeg) (xs (x3 + 2).toNatClampNeg) ht hR
  refine k_aload_n (q := 2) C dL_law_1610 rfl rfl ?_
  refine k_aload_n (q := 1) C dL_law_1611 rfl rfl ?_
  refine k_iload_n (q := 0) C dL_law_1612 rfl rfl ?_
  refine k_iconst (v := 1) C dL_law_1613 rfl ?_
  refine k_iadd C dL_law_1614 ?_
  refine k_sld C hX hbl hbA (hin 1 (by decide) (by decide)) dL_law_1615 ?_
  refine k_aload_n (q := 1) C dL_law_1616 rfl rfl ?_
  refine k_iload_n (q := 0) C dL_law_1617 rfl rfl ?_
  refine k_iconst (v := 2) C dL_law_1618 rfl ?_
  refine k_iadd C dL_law_1619 ?_
  refine k_sld C hX hbl hbA (hin 2 (by decide) (by decide)) dL_law_1620 ?_
  refine k_fC C (ct_X10_taken (r) e1) my_10_taken ml_L_179 rfl ⟨Nat.le_of_ble_eq_true rfl, Nat.le_of_ble_eq_true rfl⟩ (recvC (b := 200) (ci := 10) rfl ⟨rfl, rfl⟩ am_219 rfl rfl) rfl (Nat.le_of_ble_eq_true rfl) dL_law_1621 (bud_0 hk) (fun v w hp => ?_)
  obtain ⟨rfl, rfl⟩ := hp
  refine k_aload_n (q := 3) C dL_law_1624 rfl rfl ?_
  refine k_aload_n (q := 1) C dL_law_1625 rfl rfl ?_
  refine k_iload_n (q := 0) C dL_law_1626 rfl rfl ?_
  refine k_iconst (v := 1) C dL_law_1627 rfl ?_
  refine k_iadd C dL_law_1628 ?_
  refine k_sld C hX hbl hbA (hin 1 (by decide) (by decide)) dL_law_1629 ?_
  refine k_aload_n (q := 1) C dL_law_1630 rfl rfl ?_
  refine k_iload_n (q := 0) C dL_law_1631 rfl rfl ?_
  refine k_iconst (v := 2) C dL_law_1632 rfl ?_
  refine k_iadd C dL_law_1633 ?_
  refine k_sld C hX hbl hbA (hin 2 (by decide) (by decide)) dL_law_1634 ?_
  refine k_fM C (ct_X11_taken (r) e2) my_11_taken ml_L_182 rfl ⟨Nat.le_of_ble_eq_true rfl, Nat.le_of_ble_eq_true rfl⟩ recvM rfl (Nat.le_of_ble_eq_true rfl) dL_law_1635 (bud_0 hk) (fun v w hp => ?_)
  obtain ⟨rfl, rfl⟩ := hp
  refine k_icmp_eq_rf (tgt := 1666) C dL_law_1638 (by decide) ?_
  exact hK _ _ _ _ _ _ hR (bud_f hk)
set_option maxRecDepth 20000 in
theorem lc_count (hst : ST_count F RR) : LCS p l e R s m args below meth c θ ad ad2 b L xs F RR 1643 := by
  intro C hX hbl hbA t x3 hin ht S Z M Y k n hR hk hK
  obtain ⟨r, e1, e2, hR⟩ := hst t S Z M (xs (x3 + 1).toNatClampNeg) ht hR
  refine k_aload_n (q := 2) C dL_law_1643 rfl rfl ?_
  refine k_aload_n (q := 1) C dL_law_1644 rfl rfl ?_
  refine k_iload_n (q := 0) C dL_law_1645 rfl rfl ?_
  refine k_iconst (v := 1) C dL_law_1646 rfl ?_
  refine k_iadd C dL_law_1647 ?_
  refine k_sld C hX hbl hbA (hin 1 (by decide) (by decide)) dL_law_1648 ?_
  refine k_fC C (ct_X10_count (r) e1) my_10_count ml_L_183 rfl ⟨Nat.le_of_ble_eq_true rfl, Nat.le_of_ble_eq_true rfl⟩ (recvC (b := 200) (ci := 10) rfl ⟨rfl, rfl⟩ am_219 rfl rfl) rfl (Nat.le_of_ble_eq_true rfl) dL_law_1649 (bud_0 hk) (fun v w hp => ?_)
  obtain ⟨rfl, rfl⟩ := hp
  refine k_aload_n (q := 3) C dL_law_1652 rfl rfl ?_
  refine k_aload_n (q := 1) C dL_law_1653 rfl rfl ?_
  refine k_iload_n (q := 0) C dL_law_1654 rfl rfl ?_
  refine k_iconst (v := 1) C dL_law_1655 rfl ?_
  refine k_iadd C dL_law_1656 ?_
  refine k_sld C hX hbl hbA (hin 1 (by decide) (by decide)) dL_law_1657 ?_
  refine k_fM C (ct_X11_count (r) e2) my_11_count ml_L_186 rfl ⟨Nat.le_of_ble_eq_true rfl, Nat.le_of_ble_eq_true rfl⟩ recvM rfl (Nat.le_of_ble_eq_true rfl) dL_law_1658 (bud_0 hk) (fun v w hp => ?_)
  obtain ⟨rfl, rfl⟩ := hp
  refine k_icmp_eq_rf (tgt := 1666) C dL_law_1661 (by decide) ?_
  exact hK _ _ _ _ _ _ hR (bud_f hk)
end
