set_option maxHeartbeats 4000000 in
set_option maxRecDepth 100000 in
theorem lL_law_L18 (K : Kt) (X : Xt) (hX : xn X = 385) (b L : Nat) (xs : Nat → Int32) (hsc : Scr K X b L xs) (hka : ka K = #[Value.ref b]) (hxb : xB X = (ks K).heap.size) (cE sE : Nat)     (hcE : cE ≤ 600000) (hsE : sE ≤ 7302250) :
    ∀ (n c0 s0 : Nat), c0 + n * 804 ≤ cE → s0 + n * 9648 ≤ sE → ∀ (m1 : Mem) (x2 : Int32), gL_law K X c0 s0 18 [(0, .ref b), (1, .ref (xad X 0)), (2, .ref (xad X 362)), (3, .int x2)] [] m1 (fL_law_L18 L xs   n m1 x2) := by
  intro n
  induction n with
  | zero => intro c0 s0 h1 h2 m1 x2; exact ge_none
  | succ n ih =>
    intro c0 s0 h1 h2 m1 x2
    show gL_law K X c0 s0 18 [(0, .ref b), (1, .ref (xad X 0)), (2, .ref (xad X 362)), (3, .int x2)] [] m1 (fL_law_L18_b L xs   (fL_law_L18 L xs   n) m1 x2)
    delta fL_law_L18_b
    refine ge_iload_n 3 DL_law_18 rfl ?_
    refine ge_aload_n 0 DL_law_19 rfl ?_
    refine ge_scl hsc DL_law_20 ?_
    refine ge_iconst (v := (5 : Int32)) DL_law_21 rfl ?_
    refine ge_isub DL_law_22 ?_
    refine ge_icmp_gt (tgt := 1355) DL_law_23 (by decide) ?_ ?_
    · refine ge_iconst (v := (1 : Int32)) DL_law_1355 rfl ?_
      refine ge_widen (cells' := 600000) (slots' := 7302250) (by omega) (by omega) ?_
      exact ge_law1 hka hxb DL_law_1356
    · refine ge_aload_n 0 DL_law_26 rfl ?_
      refine ge_iload_n 3 DL_law_27 rfl ?_
      refine ge_scr hsc DL_law_28 ?_
      refine ge_bipush (v := (63 : Int32)) DL_law_29 rfl ?_
      refine ge_iand DL_law_31 ?_
      refine ge_jn (P := fun k => ∀ (m3 : Mem), gL_law K X (c0 + 804) (s0 + 9648) 1349 [(0, .ref b), (1, .ref (xad X 0)), (2, .ref (xad X 362)), (3, .int x2)] [] m3 (k m3)) (fun m3 => ?_) (fun j1349 hj1349 => ?_)
      · refine ge_iinc 3 (v := (x2 + (5 : Int32))) (ls' := [(3, .int (x2 + (5 : Int32))), (0, .ref b), (1, .ref (xad X 0)), (2, .ref (xad X 362))]) DL_law_1349 rfl rfl (by decide) rfl ?_
        refine ge_goto (tgt := 18) DL_law_1352 (by decide) ?_
        refine ge_sub [1, 2, 3, 0] rfl ?_
        exact ih _ _ (by omega) (by omega) m3 (x2 + (5 : Int32))
      refine ge_ite (fun hx4 => ?_) (fun hx4 => ?_)
      · refine ge_tsw (v := (0 : Int32)) (tgt := 208) DL_law_32 hx4 (by decide) (by decide) rfl (by decide) ?_
        refine ge_aload_n 1 DL_law_208 rfl ?_
        refine ge_aload_n 0 DL_law_209 rfl ?_
        refine ge_iload_n 3 DL_law_210 rfl ?_
        refine ge_iconst (v := (1 : Int32)) DL_law_211 rfl ?_
        refine ge_iadd DL_law_212 ?_
        refine ge_scr hsc DL_law_213 ?_
        refine ge_i2l DL_law_214 ?_
        refine ge_bipush (v := (32 : Int32)) DL_law_215 rfl ?_
        refine ge_lshl DL_law_217 ?_
        refine ge_aload_n 0 DL_law_218 rfl ?_
        refine ge_iload_n 3 DL_law_219 rfl ?_
        refine ge_iconst (v := (2 : Int32)) DL_law_220 rfl ?_
        refine ge_iadd DL_law_221 ?_
        refine ge_scr hsc DL_law_222 ?_
        refine ge_i2l DL_law_223 ?_
        refine ge_ldc2 (v := (4294967295 : Int64)) kw_L_13 DL_law_224 ?_
        refine ge_land DL_law_227 ?_
        refine ge_lor DL_law_228 ?_
        refine ge_aload_n 0 DL_law_229 rfl ?_
        refine ge_iload_n 3 DL_law_230 rfl ?_
        refine ge_iconst (v := (3 : Int32)) DL_law_231 rfl ?_
        refine ge_iadd DL_law_232 ?_
        refine ge_scr hsc DL_law_233 ?_
        refine ge_callVi0 (st := []) cm_L_15 DL_law_234 is_0 rfl (okX10_feed (kl K) X m1 (((((xs (ix (x2 + (1 : Int32))))).toInt64) <<< (((32 : Int32)).toInt64 &&& 63)) ||| ((((xs (ix (x2 + (2 : Int32))))).toInt64) &&& (4294967295 : Int64))) (xs (ix (x2 + (3 : Int32))))) rfl rfl (Nat.le_of_ble_eq_true rfl) (by decide) ⟨rfl, rfl⟩ ⟨by show _ ≤ (600000 : Nat); omega, by show _ ≤ (7302250 : Nat); omega⟩ (fun r6 m5 => ?_)
        refine ge_aload_n 2 DL_law_237 rfl ?_
        refine ge_aload_n 0 DL_law_238 rfl ?_
        refine ge_iload_n 3 DL_law_239 rfl ?_
        refine ge_iconst (v := (1 : Int32)) DL_law_240 rfl ?_
        refine ge_iadd DL_law_241 ?_
        refine ge_scr hsc DL_law_242 ?_
        refine ge_i2l DL_law_243 ?_
        refine ge_bipush (v := (32 : Int32)) DL_law_244 rfl ?_
        refine ge_lshl DL_law_246 ?_
        refine ge_aload_n 0 DL_law_247 rfl ?_
        refine ge_iload_n 3 DL_law_248 rfl ?_
        refine ge_iconst (v := (2 : Int32)) DL_law_249 rfl ?_
        refine ge_iadd DL_law_250 ?_
        refine ge_scr hsc DL_law_251 ?_
        refine ge_i2l DL_law_252 ?_
        refine ge_ldc2 (v := (4294967295 : Int64)) kw_L_13 DL_law_253 ?_
        refine ge_land DL_law_256 ?_
        refine ge_lor DL_law_257 ?_
        refine ge_aload_n 0 DL_law_258 rfl ?_
        refine ge_iload_n 3 DL_law_259 rfl ?_
        refine ge_iconst (v := (3 : Int32)) DL_law_260 rfl ?_
        refine ge_iadd DL_law_261 ?_
        refine ge_scr hsc DL_law_262 ?_
        refine ge_callVi0 (st := [.int r6]) cm_L_19 DL_law_263 is_362 rfl (okX11_feed (kl K) X m5 (((((xs (ix (x2 + (1 : Int32))))).toInt64) <<< (((32 : Int32)).toInt64 &&& 63)) ||| ((((xs (ix (x2 + (2 : Int32))))).toInt64) &&& (4294967295 : Int64))) (xs (ix (x2 + (3 : Int32))))) rfl rfl (Nat.le_of_ble_eq_true rfl) (by decide) ⟨rfl, rfl⟩ ⟨by show _ ≤ (600000 : Nat); omega, by show _ ≤ (7302250 : Nat); omega⟩ (fun r8 m7 => ?_)
        refine ge_icmp_eq (tgt := 1349) DL_law_266 (by decide) ?_ ?_
        · refine ge_widen (cells' := (c0 + 804)) (slots' := (s0 + 9648)) (by omega) (by omega) ?_
          exact hj1349 m7
        · refine ge_iconst (v := (0 : Int32)) DL_law_269 rfl ?_
          exact ge_law0
      refine ge_ite (fun hx9 => ?_) (fun hx9 => ?_)
      · refine ge_tsw (v := (1 : Int32)) (tgt := 271) DL_law_32 hx9 (by decide) (by decide) rfl (by decide) ?_
        refine ge_aload_n 1 DL_law_271 rfl ?_
        refine ge_callVi0 (st := []) cm_L_20 DL_law_272 is_0 rfl (okX10_wipe (kl K) X m1) rfl rfl (Nat.le_of_ble_eq_true rfl) (by decide) ⟨rfl, rfl⟩ ⟨by show _ ≤ (600000 : Nat); omega, by show _ ≤ (7302250 : Nat); omega⟩ (fun r11 m10 => ?_)
        refine ge_aload_n 2 DL_law_275 rfl ?_
        refine ge_callVi0 (st := [.int r11]) cm_L_24 DL_law_276 is_362 rfl (okX11_wipe (kl K) X m10) rfl rfl (Nat.le_of_ble_eq_true rfl) (by decide) ⟨rfl, rfl⟩ ⟨by show _ ≤ (600000 : Nat); omega, by show _ ≤ (7302250 : Nat); omega⟩ (fun r13 m12 => ?_)
        refine ge_icmp_eq (tgt := 1349) DL_law_279 (by decide) ?_ ?_
        · refine ge_widen (cells' := (c0 + 804)) (slots' := (s0 + 9648)) (by omega) (by omega) ?_
          exact hj1349 m12
        · refine ge_iconst (v := (0 : Int32)) DL_law_282 rfl ?_
          exact ge_law0
      refine ge_ite (fun hx14 => ?_) (fun hx14 => ?_)
      · refine ge_tsw (v := (2 : Int32)) (tgt := 284) DL_law_32 hx14 (by decide) (by decide) rfl (by decide) ?_
        refine ge_aload_n 1 DL_law_284 rfl ?_
        refine ge_callVi0 (st := []) cm_L_25 DL_law_285 is_0 rfl (okX10_text (kl K) X m1) rfl rfl (Nat.le_of_ble_eq_true rfl) (by decide) ⟨rfl, rfl⟩ ⟨by show _ ≤ (600000 : Nat); omega, by show _ ≤ (7302250 : Nat); omega⟩ (fun r16 m15 => ?_)
        refine ge_aload_n 2 DL_law_288 rfl ?_
        refine ge_callVi0 (st := [.int r16]) cm_L_28 DL_law_289 is_362 rfl (okX11_text (kl K) X m15) rfl rfl (Nat.le_of_ble_eq_true rfl) (by decide) ⟨rfl, rfl⟩ ⟨by show _ ≤ (600000 : Nat); omega, by show _ ≤ (7302250 : Nat); omega⟩ (fun r18 m17 => ?_)
        refine ge_icmp_eq (tgt := 1349) DL_law_292 (by decide) ?_ ?_
        · refine ge_widen (cells' := (c0 + 804)) (slots' := (s0 + 9648)) (by omega) (by omega) ?_
          exact hj1349 m17
        · refine ge_iconst (v := (0 : Int32)) DL_law_295 rfl ?_
          exact ge_law0
      refine ge_ite (fun hx19 => ?_) (fun hx19 => ?_)
      · refine ge_tsw (v := (3 : Int32)) (tgt := 297) DL_law_32 hx19 (by decide) (by decide) rfl (by decide) ?_
        refine ge_aload_n 1 DL_law_297 rfl ?_
        refine ge_aload_n 0 DL_law_298 rfl ?_
        refine ge_iload_n 3 DL_law_299 rfl ?_
        refine ge_iconst (v := (1 : Int32)) DL_law_300 rfl ?_
        refine ge_iadd DL_law_301 ?_
        refine ge_scr hsc DL_law_302 ?_
        refine ge_aload_n 0 DL_law_303 rfl ?_
        refine ge_iload_n 3 DL_law_304 rfl ?_
        refine ge_iconst (v := (2 : Int32)) DL_law_305 rfl ?_
        refine ge_iadd DL_law_306 ?_
        refine ge_scr hsc DL_law_307 ?_
        refine ge_callVi0 (st := []) cm_L_29 DL_law_308 is_0 rfl (okX10_formOf (kl K) X m1 (xs (ix (x2 + (1 : Int32)))) (xs (ix (x2 + (2 : Int32))))) rfl rfl (Nat.le_of_ble_eq_true rfl) (by decide) ⟨rfl, rfl⟩ ⟨by show _ ≤ (600000 : Nat); omega, by show _ ≤ (7302250 : Nat); omega⟩ (fun r21 m20 => ?_)
        refine ge_aload_n 2 DL_law_311 rfl ?_
        refine ge_aload_n 0 DL_law_312 rfl ?_
        refine ge_iload_n 3 DL_law_313 rfl ?_
        refine ge_iconst (v := (1 : Int32)) DL_law_314 rfl ?_
        refine ge_iadd DL_law_315 ?_
        refine ge_scr hsc DL_law_316 ?_
        refine ge_aload_n 0 DL_law_317 rfl ?_
        refine ge_iload_n 3 DL_law_318 rfl ?_
        refine ge_iconst (v := (2 : Int32)) DL_law_319 rfl ?_
        refine ge_iadd DL_law_320 ?_
        refine ge_scr hsc DL_law_321 ?_
        refine ge_callVi0 (st := [.int r21]) cm_L_33 DL_law_322 is_362 rfl (okX11_formOf (kl K) X m20 (xs (ix (x2 + (1 : Int32)))) (xs (ix (x2 + (2 : Int32))))) rfl rfl (Nat.le_of_ble_eq_true rfl) (by decide) ⟨rfl, rfl⟩ ⟨by show _ ≤ (600000 : Nat); omega, by show _ ≤ (7302250 : Nat); omega⟩ (fun r23 m22 => ?_)
        refine ge_icmp_eq (tgt := 1349) DL_law_325 (by decide) ?_ ?_
        · refine ge_widen (cells' := (c0 + 804)) (slots' := (s0 + 9648)) (by omega) (by omega) ?_
          exact hj1349 m22
        · refine ge_iconst (v := (0 : Int32)) DL_law_328 rfl ?_
          exact ge_law0
      refine ge_ite (fun hx24 => ?_) (fun hx24 => ?_)
      · refine ge_tsw (v := (4 : Int32)) (tgt := 330) DL_law_32 hx24 (by decide) (by decide) rfl (by decide) ?_
        refine ge_aload_n 1 DL_law_330 rfl ?_
        refine ge_aload_n 0 DL_law_331 rfl ?_
        refine ge_iload_n 3 DL_law_332 rfl ?_
        refine ge_iconst (v := (1 : Int32)) DL_law_333 rfl ?_
        refine ge_iadd DL_law_334 ?_
        refine ge_scr hsc DL_law_335 ?_
        refine ge_aload_n 0 DL_law_336 rfl ?_
        refine ge_iload_n 3 DL_law_337 rfl ?_
        refine ge_iconst (v := (2 : Int32)) DL_law_338 rfl ?_
        refine ge_iadd DL_law_339 ?_
        refine ge_scr hsc DL_law_340 ?_
        refine ge_aload_n 0 DL_law_341 rfl ?_
        refine ge_iload_n 3 DL_law_342 rfl ?_
        refine ge_iconst (v := (3 : Int32)) DL_law_343 rfl ?_
        refine ge_iadd DL_law_344 ?_
        refine ge_scr hsc DL_law_345 ?_
        refine ge_callVi0 (st := []) cm_L_34 DL_law_346 is_0 rfl (okX10_named (kl K) X m1 (xs (ix (x2 + (1 : Int32)))) (xs (ix (x2 + (2 : Int32)))) (xs (ix (x2 + (3 : Int32))))) rfl rfl (Nat.le_of_ble_eq_true rfl) (by decide) ⟨rfl, rfl⟩ ⟨by show _ ≤ (600000 : Nat); omega, by show _ ≤ (7302250 : Nat); omega⟩ (fun r26 m25 => ?_)
        refine ge_aload_n 2 DL_law_349 rfl ?_
        refine ge_aload_n 0 DL_law_350 rfl ?_
        refine ge_iload_n 3 DL_law_351 rfl ?_
        refine ge_iconst (v := (1 : Int32)) DL_law_352 rfl ?_
        refine ge_iadd DL_law_353 ?_
        refine ge_scr hsc DL_law_354 ?_
        refine ge_aload_n 0 DL_law_355 rfl ?_
        refine ge_iload_n 3 DL_law_356 rfl ?_
        refine ge_iconst (v := (2 : Int32)) DL_law_357 rfl ?_
        refine ge_iadd DL_law_358 ?_
        refine ge_scr hsc DL_law_359 ?_
        refine ge_aload_n 0 DL_law_360 rfl ?_
        refine ge_iload_n 3 DL_law_361 rfl ?_
        refine ge_iconst (v := (3 : Int32)) DL_law_362 rfl ?_
        refine ge_iadd DL_law_363 ?_
        refine ge_scr hsc DL_law_364 ?_
        refine ge_callVi0 (st := [.int r26]) cm_L_38 DL_law_365 is_362 rfl (okX11_named (kl K) X m25 (xs (ix (x2 + (1 : Int32)))) (xs (ix (x2 + (2 : Int32)))) (xs (ix (x2 + (3 : Int32))))) rfl rfl (Nat.le_of_ble_eq_true rfl) (by decide) ⟨rfl, rfl⟩ ⟨by show _ ≤ (600000 : Nat); omega, by show _ ≤ (7302250 : Nat); omega⟩ (fun r28 m27 => ?_)
        refine ge_icmp_eq (tgt := 1349) DL_law_368 (by decide) ?_ ?_
        · refine ge_widen (cells' := (c0 + 804)) (slots' := (s0 + 9648)) (by omega) (by omega) ?_
          exact hj1349 m27
        · refine ge_iconst (v := (0 : Int32)) DL_law_371 rfl ?_
          exact ge_law0
      refine ge_ite (fun hx29 => ?_) (fun hx29 => ?_)
      · refine ge_tsw (v := (5 : Int32)) (tgt := 373) DL_law_32 hx29 (by decide) (by decide) rfl (by decide) ?_
        refine ge_aload_n 1 DL_law_373 rfl ?_
        refine ge_aload_n 0 DL_law_374 rfl ?_
        refine ge_iload_n 3 DL_law_375 rfl ?_
        refine ge_iconst (v := (1 : Int32)) DL_law_376 rfl ?_
        refine ge_iadd DL_law_377 ?_
        refine ge_scr hsc DL_law_378 ?_
        refine ge_callVi0 (st := []) cm_L_39 DL_law_379 is_0 rfl (okX10_ofKind (kl K) X m1 (xs (ix (x2 + (1 : Int32))))) rfl rfl (Nat.le_of_ble_eq_true rfl) (by decide) ⟨rfl, rfl⟩ ⟨by show _ ≤ (600000 : Nat); omega, by show _ ≤ (7302250 : Nat); omega⟩ (fun r31 m30 => ?_)
        refine ge_aload_n 2 DL_law_382 rfl ?_
        refine ge_aload_n 0 DL_law_383 rfl ?_
        refine ge_iload_n 3 DL_law_384 rfl ?_
        refine ge_iconst (v := (1 : Int32)) DL_law_385 rfl ?_
        refine ge_iadd DL_law_386 ?_
        refine ge_scr hsc DL_law_387 ?_
        refine ge_callVi0 (st := [.int r31]) cm_L_43 DL_law_388 is_362 rfl (okX11_ofKind (kl K) X m30 (xs (ix (x2 + (1 : Int32))))) rfl rfl (Nat.le_of_ble_eq_true rfl) (by decide) ⟨rfl, rfl⟩ ⟨by show _ ≤ (600000 : Nat); omega, by show _ ≤ (7302250 : Nat); omega⟩ (fun r33 m32 => ?_)
        refine ge_icmp_eq (tgt := 1349) DL_law_391 (by decide) ?_ ?_
        · refine ge_widen (cells' := (c0 + 804)) (slots' := (s0 + 9648)) (by omega) (by omega) ?_
          exact hj1349 m32
        · refine ge_iconst (v := (0 : Int32)) DL_law_394 rfl ?_
          exact ge_law0
      refine ge_ite (fun hx34 => ?_) (fun hx34 => ?_)
      · refine ge_tsw (v := (6 : Int32)) (tgt := 396) DL_law_32 hx34 (by decide) (by decide) rfl (by decide) ?_
        refine ge_aload_n 1 DL_law_396 rfl ?_
        refine ge_aload_n 0 DL_law_397 rfl ?_
        refine ge_iload_n 3 DL_law_398 rfl ?_
        refine ge_iconst (v := (1 : Int32)) DL_law_399 rfl ?_
        refine ge_iadd DL_law_400 ?_
        refine ge_scr hsc DL_law_401 ?_
        refine ge_callVi0 (st := []) cm_L_44 DL_law_402 is_0 rfl (okX10_means (kl K) X m1 (xs (ix (x2 + (1 : Int32))))) rfl rfl (Nat.le_of_ble_eq_true rfl) (by decide) ⟨rfl, rfl⟩ ⟨by show _ ≤ (600000 : Nat); omega, by show _ ≤ (7302250 : Nat); omega⟩ (fun r36 m35 => ?_)
        refine ge_aload_n 2 DL_law_405 rfl ?_
        refine ge_aload_n 0 DL_law_406 rfl ?_
        refine ge_iload_n 3 DL_law_407 rfl ?_
        refine ge_iconst (v := (1 : Int32)) DL_law_408 rfl ?_
        refine ge_iadd DL_law_409 ?_
        refine ge_scr hsc DL_law_410 ?_
        refine ge_callViA (st := [.int r36]) cm_L_47 DL_law_411 is_362 rfl (okX11_means (kl K) X hX m35 (xs (ix (x2 + (1 : Int32))))) rfl rfl (Nat.le_of_ble_eq_true rfl) (by decide) (dc := 1) (ds := 12) ⟨rfl, rfl⟩ ⟨by show _ + 1 ≤ (600000 : Nat); omega, by show _ + 12 ≤ (7302250 : Nat); omega⟩ (fun r38 m37 => ?_)
        refine ge_icmp_eq (tgt := 1349) DL_law_414 (by decide) ?_ ?_
        · refine ge_widen (cells' := (c0 + 804)) (slots' := (s0 + 9648)) (by omega) (by omega) ?_
          exact hj1349 m37
        · refine ge_iconst (v := (0 : Int32)) DL_law_417 rfl ?_
          exact ge_law0
      refine ge_ite (fun hx39 => ?_) (fun hx39 => ?_)
      · refine ge_tsw (v := (7 : Int32)) (tgt := 419) DL_law_32 hx39 (by decide) (by decide) rfl (by decide) ?_
        refine ge_aload_n 1 DL_law_419 rfl ?_
        refine ge_aload_n 0 DL_law_420 rfl ?_
        refine ge_iload_n 3 DL_law_421 rfl ?_
        refine ge_iconst (v := (1 : Int32)) DL_law_422 rfl ?_
        refine ge_iadd DL_law_423 ?_
        refine ge_scr hsc DL_law_424 ?_
        refine ge_callVi0 (st := []) cm_L_48 DL_law_425 is_0 rfl (okX10_fits (kl K) X m1 (xs (ix (x2 + (1 : Int32))))) rfl rfl (Nat.le_of_ble_eq_true rfl) (by decide) ⟨rfl, rfl⟩ ⟨by show _ ≤ (600000 : Nat); omega, by show _ ≤ (7302250 : Nat); omega⟩ (fun r41 m40 => ?_)
        refine ge_aload_n 2 DL_law_428 rfl ?_
        refine ge_aload_n 0 DL_law_429 rfl ?_
        refine ge_iload_n 3 DL_law_430 rfl ?_
        refine ge_iconst (v := (1 : Int32)) DL_law_431 rfl ?_
        refine ge_iadd DL_law_432 ?_
        refine ge_scr hsc DL_law_433 ?_
        refine ge_callViA (st := [.int r41]) cm_L_51 DL_law_434 is_362 rfl (okX11_fits (kl K) X hX m40 (xs (ix (x2 + (1 : Int32))))) rfl rfl (Nat.le_of_ble_eq_true rfl) (by decide) (dc := 1) (ds := 12) ⟨rfl, rfl⟩ ⟨by show _ + 1 ≤ (600000 : Nat); omega, by show _ + 12 ≤ (7302250 : Nat); omega⟩ (fun r43 m42 => ?_)
        refine ge_icmp_eq (tgt := 1349) DL_law_437 (by decide) ?_ ?_
        · refine ge_widen (cells' := (c0 + 804)) (slots' := (s0 + 9648)) (by omega) (by omega) ?_
          exact hj1349 m42
        · refine ge_iconst (v := (0 : Int32)) DL_law_440 rfl ?_
          exact ge_law0
      refine ge_ite (fun hx44 => ?_) (fun hx44 => ?_)
      · refine ge_tsw (v := (8 : Int32)) (tgt := 442) DL_law_32 hx44 (by decide) (by decide) rfl (by decide) ?_
        refine ge_aload_n 1 DL_law_442 rfl ?_
        refine ge_aload_n 0 DL_law_443 rfl ?_
        refine ge_iload_n 3 DL_law_444 rfl ?_
        refine ge_iconst (v := (1 : Int32)) DL_law_445 rfl ?_
        refine ge_iadd DL_law_446 ?_
        refine ge_scr hsc DL_law_447 ?_
        refine ge_aload_n 0 DL_law_448 rfl ?_
        refine ge_iload_n 3 DL_law_449 rfl ?_
        refine ge_iconst (v := (2 : Int32)) DL_law_450 rfl ?_
        refine ge_iadd DL_law_451 ?_
        refine ge_scr hsc DL_law_452 ?_
        refine ge_callVi0 (st := []) cm_L_52 DL_law_453 is_0 rfl (okX10_over (kl K) X m1 (xs (ix (x2 + (1 : Int32)))) (xs (ix (x2 + (2 : Int32))))) rfl rfl (Nat.le_of_ble_eq_true rfl) (by decide) ⟨rfl, rfl⟩ ⟨by show _ ≤ (600000 : Nat); omega, by show _ ≤ (7302250 : Nat); omega⟩ (fun r46 m45 => ?_)
        refine ge_aload_n 2 DL_law_456 rfl ?_
        refine ge_aload_n 0 DL_law_457 rfl ?_
        refine ge_iload_n 3 DL_law_458 rfl ?_
        refine ge_iconst (v := (1 : Int32)) DL_law_459 rfl ?_
        refine ge_iadd DL_law_460 ?_
        refine ge_scr hsc DL_law_461 ?_
        refine ge_aload_n 0 DL_law_462 rfl ?_
        refine ge_iload_n 3 DL_law_463 rfl ?_
        refine ge_iconst (v := (2 : Int32)) DL_law_464 rfl ?_
        refine ge_iadd DL_law_465 ?_
        refine ge_scr hsc DL_law_466 ?_
        refine ge_callVi0 (st := [.int r46]) cm_L_55 DL_law_467 is_362 rfl (okX11_over (kl K) X m45 (xs (ix (x2 + (1 : Int32)))) (xs (ix (x2 + (2 : Int32))))) rfl rfl (Nat.le_of_ble_eq_true rfl) (by decide) ⟨rfl, rfl⟩ ⟨by show _ ≤ (600000 : Nat); omega, by show _ ≤ (7302250 : Nat); omega⟩ (fun r48 m47 => ?_)
        refine ge_icmp_eq (tgt := 1349) DL_law_470 (by decide) ?_ ?_
        · refine ge_widen (cells' := (c0 + 804)) (slots' := (s0 + 9648)) (by omega) (by omega) ?_
          exact hj1349 m47
        · refine ge_iconst (v := (0 : Int32)) DL_law_473 rfl ?_
          exact ge_law0
      refine ge_ite (fun hx49 => ?_) (fun hx49 => ?_)
      · refine ge_tsw (v := (9 : Int32)) (tgt := 475) DL_law_32 hx49 (by decide) (by decide) rfl (by decide) ?_
        refine ge_aload_n 1 DL_law_475 rfl ?_
        refine ge_aload_n 0 DL_law_476 rfl ?_
        refine ge_iload_n 3 DL_law_477 rfl ?_
        refine ge_iconst (v := (1 : Int32)) DL_law_478 rfl ?_
        refine ge_iadd DL_law_479 ?_
        refine ge_scr hsc DL_law_480 ?_
        refine ge_callVi0 (st := []) cm_L_56 DL_law_481 is_0 rfl (okX10_many (kl K) X m1 (xs (ix (x2 + (1 : Int32))))) rfl rfl (Nat.le_of_ble_eq_true rfl) (by decide) ⟨rfl, rfl⟩ ⟨by show _ ≤ (600000 : Nat); omega, by show _ ≤ (7302250 : Nat); omega⟩ (fun r51 m50 => ?_)
        refine ge_aload_n 2 DL_law_484 rfl ?_
        refine ge_aload_n 0 DL_law_485 rfl ?_
        refine ge_iload_n 3 DL_law_486 rfl ?_
        refine ge_iconst (v := (1 : Int32)) DL_law_487 rfl ?_
        refine ge_iadd DL_law_488 ?_
        refine ge_scr hsc DL_law_489 ?_
        refine ge_callViA (st := [.int r51]) cm_L_59 DL_law_490 is_362 rfl (okX11_many (kl K) X hX m50 (xs (ix (x2 + (1 : Int32))))) rfl rfl (Nat.le_of_ble_eq_true rfl) (by decide) (dc := 1) (ds := 12) ⟨rfl, rfl⟩ ⟨by show _ + 1 ≤ (600000 : Nat); omega, by show _ + 12 ≤ (7302250 : Nat); omega⟩ (fun r53 m52 => ?_)
        refine ge_icmp_eq (tgt := 1349) DL_law_493 (by decide) ?_ ?_
        · refine ge_widen (cells' := (c0 + 804)) (slots' := (s0 + 9648)) (by omega) (by omega) ?_
          exact hj1349 m52
        · refine ge_iconst (v := (0 : Int32)) DL_law_496 rfl ?_
          exact ge_law0
      refine ge_ite (fun hx54 => ?_) (fun hx54 => ?_)
      · refine ge_tsw (v := (10 : Int32)) (tgt := 498) DL_law_32 hx54 (by decide) (by decide) rfl (by decide) ?_
        refine ge_aload_n 1 DL_law_498 rfl ?_
        refine ge_aload_n 0 DL_law_499 rfl ?_
        refine ge_iload_n 3 DL_law_500 rfl ?_
        refine ge_iconst (v := (1 : Int32)) DL_law_501 rfl ?_
        refine ge_iadd DL_law_502 ?_
        refine ge_scr hsc DL_law_503 ?_
        refine ge_aload_n 0 DL_law_504 rfl ?_
        refine ge_iload_n 3 DL_law_505 rfl ?_
        refine ge_iconst (v := (2 : Int32)) DL_law_506 rfl ?_
        refine ge_iadd DL_law_507 ?_
        refine ge_scr hsc DL_law_508 ?_
        refine ge_callVl0 (st := []) cm_L_60 DL_law_509 is_0 rfl (okX10_covers (kl K) X m1 (xs (ix (x2 + (1 : Int32)))) (xs (ix (x2 + (2 : Int32))))) rfl rfl (Nat.le_of_ble_eq_true rfl) (by decide) ⟨rfl, rfl⟩ ⟨by show _ ≤ (600000 : Nat); omega, by show _ ≤ (7302250 : Nat); omega⟩ (fun r56 m55 => ?_)
        refine ge_aload_n 2 DL_law_512 rfl ?_
        refine ge_aload_n 0 DL_law_513 rfl ?_
        refine ge_iload_n 3 DL_law_514 rfl ?_
        refine ge_iconst (v := (1 : Int32)) DL_law_515 rfl ?_
        refine ge_iadd DL_law_516 ?_
        refine ge_scr hsc DL_law_517 ?_
        refine ge_aload_n 0 DL_law_518 rfl ?_
        refine ge_iload_n 3 DL_law_519 rfl ?_
        refine ge_iconst (v := (2 : Int32)) DL_law_520 rfl ?_
        refine ge_iadd DL_law_521 ?_
        refine ge_scr hsc DL_law_522 ?_
        refine ge_callVlA (st := [.long r56]) cm_L_64 DL_law_523 is_362 rfl (okX11_covers (kl K) X hX m55 (xs (ix (x2 + (1 : Int32)))) (xs (ix (x2 + (2 : Int32))))) rfl rfl (Nat.le_of_ble_eq_true rfl) (by decide) (dc := 1) (ds := 12) ⟨rfl, rfl⟩ ⟨by show _ + 1 ≤ (600000 : Nat); omega, by show _ + 12 ≤ (7302250 : Nat); omega⟩ (fun r58 m57 => ?_)
        refine ge_lcmp DL_law_526 ?_
        refine ge_if_eq (tgt := 1349) DL_law_527 (by decide) ?_ ?_
        · refine ge_widen (cells' := (c0 + 804)) (slots' := (s0 + 9648)) (by omega) (by omega) ?_
          exact hj1349 m57
        · refine ge_iconst (v := (0 : Int32)) DL_law_530 rfl ?_
          exact ge_law0
      refine ge_ite (fun hx59 => ?_) (fun hx59 => ?_)
      · refine ge_tsw (v := (11 : Int32)) (tgt := 532) DL_law_32 hx59 (by decide) (by decide) rfl (by decide) ?_
        refine ge_aload_n 1 DL_law_532 rfl ?_
        refine ge_aload_n 0 DL_law_533 rfl ?_
        refine ge_iload_n 3 DL_law_534 rfl ?_
        refine ge_iconst (v := (1 : Int32)) DL_law_535 rfl ?_
        refine ge_iadd DL_law_536 ?_
        refine ge_scr hsc DL_law_537 ?_
        refine ge_aload_n 0 DL_law_538 rfl ?_
        refine ge_iload_n 3 DL_law_539 rfl ?_
        refine ge_iconst (v := (2 : Int32)) DL_law_540 rfl ?_
        refine ge_iadd DL_law_541 ?_
        refine ge_scr hsc DL_law_542 ?_
        refine ge_callVi0 (st := []) cm_L_65 DL_law_543 is_0 rfl (okX10_next (kl K) X m1 (xs (ix (x2 + (1 : Int32)))) (xs (ix (x2 + (2 : Int32))))) rfl rfl (Nat.le_of_ble_eq_true rfl) (by decide) ⟨rfl, rfl⟩ ⟨by show _ ≤ (600000 : Nat); omega, by show _ ≤ (7302250 : Nat); omega⟩ (fun r61 m60 => ?_)
        refine ge_aload_n 2 DL_law_546 rfl ?_
        refine ge_aload_n 0 DL_law_547 rfl ?_
        refine ge_iload_n 3 DL_law_548 rfl ?_
        refine ge_iconst (v := (1 : Int32)) DL_law_549 rfl ?_
        refine ge_iadd DL_law_550 ?_
        refine ge_scr hsc DL_law_551 ?_
        refine ge_aload_n 0 DL_law_552 rfl ?_
        refine ge_iload_n 3 DL_law_553 rfl ?_
        refine ge_iconst (v := (2 : Int32)) DL_law_554 rfl ?_
        refine ge_iadd DL_law_555 ?_
        refine ge_scr hsc DL_law_556 ?_
        refine ge_callViA (st := [.int r61]) cm_L_68 DL_law_557 is_362 rfl (okX11_next (kl K) X hX m60 (xs (ix (x2 + (1 : Int32)))) (xs (ix (x2 + (2 : Int32))))) rfl rfl (Nat.le_of_ble_eq_true rfl) (by decide) (dc := 1) (ds := 12) ⟨rfl, rfl⟩ ⟨by show _ + 1 ≤ (600000 : Nat); omega, by show _ + 12 ≤ (7302250 : Nat); omega⟩ (fun r63 m62 => ?_)
        refine ge_icmp_eq (tgt := 1349) DL_law_560 (by decide) ?_ ?_
        · refine ge_widen (cells' := (c0 + 804)) (slots' := (s0 + 9648)) (by omega) (by omega) ?_
          exact hj1349 m62
        · refine ge_iconst (v := (0 : Int32)) DL_law_563 rfl ?_
          exact ge_law0
      refine ge_ite (fun hx64 => ?_) (fun hx64 => ?_)
      · refine ge_tsw (v := (12 : Int32)) (tgt := 565) DL_law_32 hx64 (by decide) (by decide) rfl (by decide) ?_
        refine ge_aload_n 1 DL_law_565 rfl ?_
        refine ge_aload_n 0 DL_law_566 rfl ?_
        refine ge_iload_n 3 DL_law_567 rfl ?_
        refine ge_iconst (v := (1 : Int32)) DL_law_568 rfl ?_
        refine ge_iadd DL_law_569 ?_
        refine ge_scr hsc DL_law_570 ?_
        refine ge_aload_n 0 DL_law_571 rfl ?_
        refine ge_iload_n 3 DL_law_572 rfl ?_
        refine ge_iconst (v := (2 : Int32)) DL_law_573 rfl ?_
        refine ge_iadd DL_law_574 ?_
        refine ge_scr hsc DL_law_575 ?_
        refine ge_callVi0 (st := []) cm_L_69 DL_law_576 is_0 rfl (okX10_clash (kl K) X m1 (xs (ix (x2 + (1 : Int32)))) (xs (ix (x2 + (2 : Int32))))) rfl rfl (Nat.le_of_ble_eq_true rfl) (by decide) ⟨rfl, rfl⟩ ⟨by show _ ≤ (600000 : Nat); omega, by show _ ≤ (7302250 : Nat); omega⟩ (fun r66 m65 => ?_)
        refine ge_aload_n 2 DL_law_579 rfl ?_
        refine ge_aload_n 0 DL_law_580 rfl ?_
        refine ge_iload_n 3 DL_law_581 rfl ?_
        refine ge_iconst (v := (1 : Int32)) DL_law_582 rfl ?_
        refine ge_iadd DL_law_583 ?_
        refine ge_scr hsc DL_law_584 ?_
        refine ge_aload_n 0 DL_law_585 rfl ?_
        refine ge_iload_n 3 DL_law_586 rfl ?_
        refine ge_iconst (v := (2 : Int32)) DL_law_587 rfl ?_
        refine ge_iadd DL_law_588 ?_
        refine ge_scr hsc DL_law_589 ?_
        refine ge_callViA (st := [.int r66]) cm_L_72 DL_law_590 is_362 rfl (okX11_clash (kl K) X hX m65 (xs (ix (x2 + (1 : Int32)))) (xs (ix (x2 + (2 : Int32))))) rfl rfl (Nat.le_of_ble_eq_true rfl) (by decide) (dc := 169) (ds := 2028) ⟨rfl, rfl⟩ ⟨by show _ + 169 ≤ (600000 : Nat); omega, by show _ + 2028 ≤ (7302250 : Nat); omega⟩ (fun r68 m67 => ?_)
        refine ge_icmp_eq (tgt := 1349) DL_law_593 (by decide) ?_ ?_
        · refine ge_widen (cells' := (c0 + 804)) (slots' := (s0 + 9648)) (by omega) (by omega) ?_
          exact hj1349 m67
        · refine ge_iconst (v := (0 : Int32)) DL_law_596 rfl ?_
          exact ge_law0
      refine ge_ite (fun hx69 => ?_) (fun hx69 => ?_)
      · refine ge_tsw (v := (13 : Int32)) (tgt := 598) DL_law_32 hx69 (by decide) (by decide) rfl (by decide) ?_
        refine ge_aload_n 1 DL_law_598 rfl ?_
        refine ge_aload_n 0 DL_law_599 rfl ?_
        refine ge_iload_n 3 DL_law_600 rfl ?_
        refine ge_iconst (v := (1 : Int32)) DL_law_601 rfl ?_
        refine ge_iadd DL_law_602 ?_
        refine ge_scr hsc DL_law_603 ?_
        refine ge_callVi0 (st := []) cm_L_73 DL_law_604 is_0 rfl (okX10_odd (kl K) X m1 (xs (ix (x2 + (1 : Int32))))) rfl rfl (Nat.le_of_ble_eq_true rfl) (by decide) ⟨rfl, rfl⟩ ⟨by show _ ≤ (600000 : Nat); omega, by show _ ≤ (7302250 : Nat); omega⟩ (fun r71 m70 => ?_)
        refine ge_aload_n 2 DL_law_607 rfl ?_
        refine ge_aload_n 0 DL_law_608 rfl ?_
        refine ge_iload_n 3 DL_law_609 rfl ?_
        refine ge_iconst (v := (1 : Int32)) DL_law_610 rfl ?_
        refine ge_iadd DL_law_611 ?_
        refine ge_scr hsc DL_law_612 ?_
        refine ge_callViA (st := [.int r71]) cm_L_76 DL_law_613 is_362 rfl (okX11_odd (kl K) X hX m70 (xs (ix (x2 + (1 : Int32))))) rfl rfl (Nat.le_of_ble_eq_true rfl) (by decide) (dc := 182) (ds := 2184) ⟨rfl, rfl⟩ ⟨by show _ + 182 ≤ (600000 : Nat); omega, by show _ + 2184 ≤ (7302250 : Nat); omega⟩ (fun r73 m72 => ?_)
        refine ge_icmp_eq (tgt := 1349) DL_law_616 (by decide) ?_ ?_
        · refine ge_widen (cells' := (c0 + 804)) (slots' := (s0 + 9648)) (by omega) (by omega) ?_
          exact hj1349 m72
        · refine ge_iconst (v := (0 : Int32)) DL_law_619 rfl ?_
          exact ge_law0
      refine ge_ite (fun hx74 => ?_) (fun hx74 => ?_)
      · refine ge_tsw (v := (14 : Int32)) (tgt := 621) DL_law_32 hx74 (by decide) (by decide) rfl (by decide) ?_
        refine ge_aload_n 1 DL_law_621 rfl ?_
        refine ge_aload_n 0 DL_law_622 rfl ?_
        refine ge_iload_n 3 DL_law_623 rfl ?_
        refine ge_iconst (v := (1 : Int32)) DL_law_624 rfl ?_
        refine ge_iadd DL_law_625 ?_
        refine ge_scr hsc DL_law_626 ?_
        refine ge_aload_n 0 DL_law_627 rfl ?_
        refine ge_iload_n 3 DL_law_628 rfl ?_
        refine ge_iconst (v := (2 : Int32)) DL_law_629 rfl ?_
        refine ge_iadd DL_law_630 ?_
        refine ge_scr hsc DL_law_631 ?_
        refine ge_callVi0 (st := []) cm_L_77 DL_law_632 is_0 rfl (okX10_greedy (kl K) X m1 (xs (ix (x2 + (1 : Int32)))) (xs (ix (x2 + (2 : Int32))))) rfl rfl (Nat.le_of_ble_eq_true rfl) (by decide) ⟨rfl, rfl⟩ ⟨by show _ ≤ (600000 : Nat); omega, by show _ ≤ (7302250 : Nat); omega⟩ (fun r76 m75 => ?_)
        refine ge_aload_n 2 DL_law_635 rfl ?_
        refine ge_aload_n 0 DL_law_636 rfl ?_
        refine ge_iload_n 3 DL_law_637 rfl ?_
        refine ge_iconst (v := (1 : Int32)) DL_law_638 rfl ?_
        refine ge_iadd DL_law_639 ?_
        refine ge_scr hsc DL_law_640 ?_
        refine ge_aload_n 0 DL_law_641 rfl ?_
        refine ge_iload_n 3 DL_law_642 rfl ?_
        refine ge_iconst (v := (2 : Int32)) DL_law_643 rfl ?_
        refine ge_iadd DL_law_644 ?_
        refine ge_scr hsc DL_law_645 ?_
        refine ge_callVi0 (st := [.int r76]) cm_L_80 DL_law_646 is_362 rfl (okX11_greedy (kl K) X m75 (xs (ix (x2 + (1 : Int32)))) (xs (ix (x2 + (2 : Int32))))) rfl rfl (Nat.le_of_ble_eq_true rfl) (by decide) ⟨rfl, rfl⟩ ⟨by show _ ≤ (600000 : Nat); omega, by show _ ≤ (7302250 : Nat); omega⟩ (fun r78 m77 => ?_)
        refine ge_icmp_eq (tgt := 1349) DL_law_649 (by decide) ?_ ?_
        · refine ge_widen (cells' := (c0 + 804)) (slots' := (s0 + 9648)) (by omega) (by omega) ?_
          exact hj1349 m77
        · refine ge_iconst (v := (0 : Int32)) DL_law_652 rfl ?_
          exact ge_law0
      refine ge_ite (fun hx79 => ?_) (fun hx79 => ?_)
      · refine ge_tsw (v := (15 : Int32)) (tgt := 654) DL_law_32 hx79 (by decide) (by decide) rfl (by decide) ?_
        refine ge_aload_n 1 DL_law_654 rfl ?_
        refine ge_aload_n 0 DL_law_655 rfl ?_
        refine ge_iload_n 3 DL_law_656 rfl ?_
        refine ge_iconst (v := (1 : Int32)) DL_law_657 rfl ?_
        refine ge_iadd DL_law_658 ?_
        refine ge_scr hsc DL_law_659 ?_
        refine ge_aload_n 0 DL_law_660 rfl ?_
        refine ge_iload_n 3 DL_law_661 rfl ?_
        refine ge_iconst (v := (2 : Int32)) DL_law_662 rfl ?_
        refine ge_iadd DL_law_663 ?_
        refine ge_scr hsc DL_law_664 ?_
        refine ge_callVi0 (st := []) cm_L_81 DL_law_665 is_0 rfl (okX10_least (kl K) X m1 (xs (ix (x2 + (1 : Int32)))) (xs (ix (x2 + (2 : Int32))))) rfl rfl (Nat.le_of_ble_eq_true rfl) (by decide) ⟨rfl, rfl⟩ ⟨by show _ ≤ (600000 : Nat); omega, by show _ ≤ (7302250 : Nat); omega⟩ (fun r81 m80 => ?_)
        refine ge_aload_n 2 DL_law_668 rfl ?_
        refine ge_aload_n 0 DL_law_669 rfl ?_
        refine ge_iload_n 3 DL_law_670 rfl ?_
        refine ge_iconst (v := (1 : Int32)) DL_law_671 rfl ?_
        refine ge_iadd DL_law_672 ?_
        refine ge_scr hsc DL_law_673 ?_
        refine ge_aload_n 0 DL_law_674 rfl ?_
        refine ge_iload_n 3 DL_law_675 rfl ?_
        refine ge_iconst (v := (2 : Int32)) DL_law_676 rfl ?_
        refine ge_iadd DL_law_677 ?_
        refine ge_scr hsc DL_law_678 ?_
        refine ge_callVi0 (st := [.int r81]) cm_L_84 DL_law_679 is_362 rfl (okX11_least (kl K) X m80 (xs (ix (x2 + (1 : Int32)))) (xs (ix (x2 + (2 : Int32))))) rfl rfl (Nat.le_of_ble_eq_true rfl) (by decide) ⟨rfl, rfl⟩ ⟨by show _ ≤ (600000 : Nat); omega, by show _ ≤ (7302250 : Nat); omega⟩ (fun r83 m82 => ?_)
        refine ge_icmp_eq (tgt := 1349) DL_law_682 (by decide) ?_ ?_
        · refine ge_widen (cells' := (c0 + 804)) (slots' := (s0 + 9648)) (by omega) (by omega) ?_
          exact hj1349 m82
        · refine ge_iconst (v := (0 : Int32)) DL_law_685 rfl ?_
          exact ge_law0
      refine ge_ite (fun hx84 => ?_) (fun hx84 => ?_)
      · refine ge_tsw (v := (16 : Int32)) (tgt := 687) DL_law_32 hx84 (by decide) (by decide) rfl (by decide) ?_
        refine ge_aload_n 1 DL_law_687 rfl ?_
        refine ge_aload_n 0 DL_law_688 rfl ?_
        refine ge_iload_n 3 DL_law_689 rfl ?_
        refine ge_iconst (v := (1 : Int32)) DL_law_690 rfl ?_
        refine ge_iadd DL_law_691 ?_
        refine ge_scr hsc DL_law_692 ?_
        refine ge_aload_n 0 DL_law_693 rfl ?_
        refine ge_iload_n 3 DL_law_694 rfl ?_
        refine ge_iconst (v := (2 : Int32)) DL_law_695 rfl ?_
        refine ge_iadd DL_law_696 ?_
        refine ge_scr hsc DL_law_697 ?_
        refine ge_callVi0 (st := []) cm_L_85 DL_law_698 is_0 rfl (okX10_leaf (kl K) X m1 (xs (ix (x2 + (1 : Int32)))) (xs (ix (x2 + (2 : Int32))))) rfl rfl (Nat.le_of_ble_eq_true rfl) (by decide) ⟨rfl, rfl⟩ ⟨by show _ ≤ (600000 : Nat); omega, by show _ ≤ (7302250 : Nat); omega⟩ (fun r86 m85 => ?_)
        refine ge_aload_n 2 DL_law_701 rfl ?_
        refine ge_aload_n 0 DL_law_702 rfl ?_
        refine ge_iload_n 3 DL_law_703 rfl ?_
        refine ge_iconst (v := (1 : Int32)) DL_law_704 rfl ?_
        refine ge_iadd DL_law_705 ?_
        refine ge_scr hsc DL_law_706 ?_
        refine ge_aload_n 0 DL_law_707 rfl ?_
        refine ge_iload_n 3 DL_law_708 rfl ?_
        refine ge_iconst (v := (2 : Int32)) DL_law_709 rfl ?_
        refine ge_iadd DL_law_710 ?_
        refine ge_scr hsc DL_law_711 ?_
        refine ge_callVi0 (st := [.int r86]) cm_L_88 DL_law_712 is_362 rfl (okX11_leaf (kl K) X m85 (xs (ix (x2 + (1 : Int32)))) (xs (ix (x2 + (2 : Int32))))) rfl rfl (Nat.le_of_ble_eq_true rfl) (by decide) ⟨rfl, rfl⟩ ⟨by show _ ≤ (600000 : Nat); omega, by show _ ≤ (7302250 : Nat); omega⟩ (fun r88 m87 => ?_)
        refine ge_icmp_eq (tgt := 1349) DL_law_715 (by decide) ?_ ?_
        · refine ge_widen (cells' := (c0 + 804)) (slots' := (s0 + 9648)) (by omega) (by omega) ?_
          exact hj1349 m87
        · refine ge_iconst (v := (0 : Int32)) DL_law_718 rfl ?_
          exact ge_law0
      refine ge_ite (fun hx89 => ?_) (fun hx89 => ?_)
      · refine ge_tsw (v := (17 : Int32)) (tgt := 720) DL_law_32 hx89 (by decide) (by decide) rfl (by decide) ?_
        refine ge_aload_n 1 DL_law_720 rfl ?_
        refine ge_aload_n 0 DL_law_721 rfl ?_
        refine ge_iload_n 3 DL_law_722 rfl ?_
        refine ge_iconst (v := (1 : Int32)) DL_law_723 rfl ?_
        refine ge_iadd DL_law_724 ?_
        refine ge_scr hsc DL_law_725 ?_
        refine ge_aload_n 0 DL_law_726 rfl ?_
        refine ge_iload_n 3 DL_law_727 rfl ?_
        refine ge_iconst (v := (2 : Int32)) DL_law_728 rfl ?_
        refine ge_iadd DL_law_729 ?_
        refine ge_scr hsc DL_law_730 ?_
        refine ge_aload_n 0 DL_law_731 rfl ?_
        refine ge_iload_n 3 DL_law_732 rfl ?_
        refine ge_iconst (v := (3 : Int32)) DL_law_733 rfl ?_
        refine ge_iadd DL_law_734 ?_
        refine ge_scr hsc DL_law_735 ?_
        refine ge_callVi0 (st := []) cm_L_89 DL_law_736 is_0 rfl (okX10_field (kl K) X m1 (xs (ix (x2 + (1 : Int32)))) (xs (ix (x2 + (2 : Int32)))) (xs (ix (x2 + (3 : Int32))))) rfl rfl (Nat.le_of_ble_eq_true rfl) (by decide) ⟨rfl, rfl⟩ ⟨by show _ ≤ (600000 : Nat); omega, by show _ ≤ (7302250 : Nat); omega⟩ (fun r91 m90 => ?_)
        refine ge_aload_n 2 DL_law_739 rfl ?_
        refine ge_aload_n 0 DL_law_740 rfl ?_
        refine ge_iload_n 3 DL_law_741 rfl ?_
        refine ge_iconst (v := (1 : Int32)) DL_law_742 rfl ?_
        refine ge_iadd DL_law_743 ?_
        refine ge_scr hsc DL_law_744 ?_
        refine ge_aload_n 0 DL_law_745 rfl ?_
        refine ge_iload_n 3 DL_law_746 rfl ?_
        refine ge_iconst (v := (2 : Int32)) DL_law_747 rfl ?_
        refine ge_iadd DL_law_748 ?_
        refine ge_scr hsc DL_law_749 ?_
        refine ge_aload_n 0 DL_law_750 rfl ?_
        refine ge_iload_n 3 DL_law_751 rfl ?_
        refine ge_iconst (v := (3 : Int32)) DL_law_752 rfl ?_
        refine ge_iadd DL_law_753 ?_
        refine ge_scr hsc DL_law_754 ?_
        refine ge_callVi0 (st := [.int r91]) cm_L_92 DL_law_755 is_362 rfl (okX11_field (kl K) X m90 (xs (ix (x2 + (1 : Int32)))) (xs (ix (x2 + (2 : Int32)))) (xs (ix (x2 + (3 : Int32))))) rfl rfl (Nat.le_of_ble_eq_true rfl) (by decide) ⟨rfl, rfl⟩ ⟨by show _ ≤ (600000 : Nat); omega, by show _ ≤ (7302250 : Nat); omega⟩ (fun r93 m92 => ?_)
        refine ge_icmp_eq (tgt := 1349) DL_law_758 (by decide) ?_ ?_
        · refine ge_widen (cells' := (c0 + 804)) (slots' := (s0 + 9648)) (by omega) (by omega) ?_
          exact hj1349 m92
        · refine ge_iconst (v := (0 : Int32)) DL_law_761 rfl ?_
          exact ge_law0
      refine ge_ite (fun hx94 => ?_) (fun hx94 => ?_)
      · refine ge_tsw (v := (18 : Int32)) (tgt := 763) DL_law_32 hx94 (by decide) (by decide) rfl (by decide) ?_
        refine ge_aload_n 1 DL_law_763 rfl ?_
        refine ge_aload_n 0 DL_law_764 rfl ?_
        refine ge_iload_n 3 DL_law_765 rfl ?_
        refine ge_iconst (v := (1 : Int32)) DL_law_766 rfl ?_
        refine ge_iadd DL_law_767 ?_
        refine ge_scr hsc DL_law_768 ?_
        refine ge_aload_n 0 DL_law_769 rfl ?_
        refine ge_iload_n 3 DL_law_770 rfl ?_
        refine ge_iconst (v := (2 : Int32)) DL_law_771 rfl ?_
        refine ge_iadd DL_law_772 ?_
        refine ge_scr hsc DL_law_773 ?_
        refine ge_aload_n 0 DL_law_774 rfl ?_
        refine ge_iload_n 3 DL_law_775 rfl ?_
        refine ge_iconst (v := (3 : Int32)) DL_law_776 rfl ?_
        refine ge_iadd DL_law_777 ?_
        refine ge_scr hsc DL_law_778 ?_
        refine ge_callVi0 (st := []) cm_L_93 DL_law_779 is_0 rfl (okX10_taken (kl K) X m1 (xs (ix (x2 + (1 : Int32)))) (xs (ix (x2 + (2 : Int32)))) (xs (ix (x2 + (3 : Int32))))) rfl rfl (Nat.le_of_ble_eq_true rfl) (by decide) ⟨rfl, rfl⟩ ⟨by show _ ≤ (600000 : Nat); omega, by show _ ≤ (7302250 : Nat); omega⟩ (fun r96 m95 => ?_)
        refine ge_aload_n 2 DL_law_782 rfl ?_
        refine ge_aload_n 0 DL_law_783 rfl ?_
        refine ge_iload_n 3 DL_law_784 rfl ?_
        refine ge_iconst (v := (1 : Int32)) DL_law_785 rfl ?_
        refine ge_iadd DL_law_786 ?_
        refine ge_scr hsc DL_law_787 ?_
        refine ge_aload_n 0 DL_law_788 rfl ?_
        refine ge_iload_n 3 DL_law_789 rfl ?_
        refine ge_iconst (v := (2 : Int32)) DL_law_790 rfl ?_
        refine ge_iadd DL_law_791 ?_
        refine ge_scr hsc DL_law_792 ?_
        refine ge_aload_n 0 DL_law_793 rfl ?_
        refine ge_iload_n 3 DL_law_794 rfl ?_
        refine ge_iconst (v := (3 : Int32)) DL_law_795 rfl ?_
        refine ge_iadd DL_law_796 ?_
        refine ge_scr hsc DL_law_797 ?_
        refine ge_callVi0 (st := [.int r96]) cm_L_96 DL_law_798 is_362 rfl (okX11_taken (kl K) X m95 (xs (ix (x2 + (1 : Int32)))) (xs (ix (x2 + (2 : Int32)))) (xs (ix (x2 + (3 : Int32))))) rfl rfl (Nat.le_of_ble_eq_true rfl) (by decide) ⟨rfl, rfl⟩ ⟨by show _ ≤ (600000 : Nat); omega, by show _ ≤ (7302250 : Nat); omega⟩ (fun r98 m97 => ?_)
        refine ge_icmp_eq (tgt := 1349) DL_law_801 (by decide) ?_ ?_
        · refine ge_widen (cells' := (c0 + 804)) (slots' := (s0 + 9648)) (by omega) (by omega) ?_
          exact hj1349 m97
        · refine ge_iconst (v := (0 : Int32)) DL_law_804 rfl ?_
          exact ge_law0
      refine ge_ite (fun hx99 => ?_) (fun hx99 => ?_)
      · refine ge_tsw (v := (19 : Int32)) (tgt := 806) DL_law_32 hx99 (by decide) (by decide) rfl (by decide) ?_
        refine ge_aload_n 1 DL_law_806 rfl ?_
        refine ge_aload_n 0 DL_law_807 rfl ?_
        refine ge_iload_n 3 DL_law_808 rfl ?_
        refine ge_iconst (v := (1 : Int32)) DL_law_809 rfl ?_
        refine ge_iadd DL_law_810 ?_
        refine ge_scr hsc DL_law_811 ?_
        refine ge_aload_n 0 DL_law_812 rfl ?_
        refine ge_iload_n 3 DL_law_813 rfl ?_
        refine ge_iconst (v := (2 : Int32)) DL_law_814 rfl ?_
        refine ge_iadd DL_law_815 ?_
        refine ge_scr hsc DL_law_816 ?_
        refine ge_aload_n 0 DL_law_817 rfl ?_
        refine ge_iload_n 3 DL_law_818 rfl ?_
        refine ge_iconst (v := (3 : Int32)) DL_law_819 rfl ?_
        refine ge_iadd DL_law_820 ?_
        refine ge_scr hsc DL_law_821 ?_
        refine ge_aload_n 0 DL_law_822 rfl ?_
        refine ge_iload_n 3 DL_law_823 rfl ?_
        refine ge_iconst (v := (4 : Int32)) DL_law_824 rfl ?_
        refine ge_iadd DL_law_825 ?_
        refine ge_scr hsc DL_law_826 ?_
        refine ge_callVi0 (st := []) cm_L_97 DL_law_827 is_0 rfl (okX10_laid (kl K) X m1 (xs (ix (x2 + (1 : Int32)))) (xs (ix (x2 + (2 : Int32)))) (xs (ix (x2 + (3 : Int32)))) (xs (ix (x2 + (4 : Int32))))) rfl rfl (Nat.le_of_ble_eq_true rfl) (by decide) ⟨rfl, rfl⟩ ⟨by show _ ≤ (600000 : Nat); omega, by show _ ≤ (7302250 : Nat); omega⟩ (fun r101 m100 => ?_)
        refine ge_aload_n 2 DL_law_830 rfl ?_
        refine ge_aload_n 0 DL_law_831 rfl ?_
        refine ge_iload_n 3 DL_law_832 rfl ?_
        refine ge_iconst (v := (1 : Int32)) DL_law_833 rfl ?_
        refine ge_iadd DL_law_834 ?_
        refine ge_scr hsc DL_law_835 ?_
        refine ge_aload_n 0 DL_law_836 rfl ?_
        refine ge_iload_n 3 DL_law_837 rfl ?_
        refine ge_iconst (v := (2 : Int32)) DL_law_838 rfl ?_
        refine ge_iadd DL_law_839 ?_
        refine ge_scr hsc DL_law_840 ?_
        refine ge_aload_n 0 DL_law_841 rfl ?_
        refine ge_iload_n 3 DL_law_842 rfl ?_
        refine ge_iconst (v := (3 : Int32)) DL_law_843 rfl ?_
        refine ge_iadd DL_law_844 ?_
        refine ge_scr hsc DL_law_845 ?_
        refine ge_aload_n 0 DL_law_846 rfl ?_
        refine ge_iload_n 3 DL_law_847 rfl ?_
        refine ge_iconst (v := (4 : Int32)) DL_law_848 rfl ?_
        refine ge_iadd DL_law_849 ?_
        refine ge_scr hsc DL_law_850 ?_
        refine ge_callVi0 (st := [.int r101]) cm_L_101 DL_law_851 is_362 rfl (okX11_laid (kl K) X m100 (xs (ix (x2 + (1 : Int32)))) (xs (ix (x2 + (2 : Int32)))) (xs (ix (x2 + (3 : Int32)))) (xs (ix (x2 + (4 : Int32))))) rfl rfl (Nat.le_of_ble_eq_true rfl) (by decide) ⟨rfl, rfl⟩ ⟨by show _ ≤ (600000 : Nat); omega, by show _ ≤ (7302250 : Nat); omega⟩ (fun r103 m102 => ?_)
        refine ge_icmp_eq (tgt := 1349) DL_law_854 (by decide) ?_ ?_
        · refine ge_widen (cells' := (c0 + 804)) (slots' := (s0 + 9648)) (by omega) (by omega) ?_
          exact hj1349 m102
        · refine ge_iconst (v := (0 : Int32)) DL_law_857 rfl ?_
          exact ge_law0
      refine ge_ite (fun hx104 => ?_) (fun hx104 => ?_)
      · refine ge_tsw (v := (20 : Int32)) (tgt := 859) DL_law_32 hx104 (by decide) (by decide) rfl (by decide) ?_
        refine ge_aload_n 1 DL_law_859 rfl ?_
        refine ge_aload_n 0 DL_law_860 rfl ?_
        refine ge_iload_n 3 DL_law_861 rfl ?_
        refine ge_iconst (v := (1 : Int32)) DL_law_862 rfl ?_
        refine ge_iadd DL_law_863 ?_
        refine ge_scr hsc DL_law_864 ?_
        refine ge_aload_n 0 DL_law_865 rfl ?_
        refine ge_iload_n 3 DL_law_866 rfl ?_
        refine ge_iconst (v := (2 : Int32)) DL_law_867 rfl ?_
        refine ge_iadd DL_law_868 ?_
        refine ge_scr hsc DL_law_869 ?_
        refine ge_callVi0 (st := []) cm_L_102 DL_law_870 is_0 rfl (okX10_hold (kl K) X m1 (xs (ix (x2 + (1 : Int32)))) (xs (ix (x2 + (2 : Int32))))) rfl rfl (Nat.le_of_ble_eq_true rfl) (by decide) ⟨rfl, rfl⟩ ⟨by show _ ≤ (600000 : Nat); omega, by show _ ≤ (7302250 : Nat); omega⟩ (fun r106 m105 => ?_)
        refine ge_aload_n 2 DL_law_873 rfl ?_
        refine ge_aload_n 0 DL_law_874 rfl ?_
        refine ge_iload_n 3 DL_law_875 rfl ?_
        refine ge_iconst (v := (1 : Int32)) DL_law_876 rfl ?_
        refine ge_iadd DL_law_877 ?_
        refine ge_scr hsc DL_law_878 ?_
        refine ge_aload_n 0 DL_law_879 rfl ?_
        refine ge_iload_n 3 DL_law_880 rfl ?_
        refine ge_iconst (v := (2 : Int32)) DL_law_881 rfl ?_
        refine ge_iadd DL_law_882 ?_
        refine ge_scr hsc DL_law_883 ?_
        refine ge_callVi0 (st := [.int r106]) cm_L_105 DL_law_884 is_362 rfl (okX11_hold (kl K) X m105 (xs (ix (x2 + (1 : Int32)))) (xs (ix (x2 + (2 : Int32))))) rfl rfl (Nat.le_of_ble_eq_true rfl) (by decide) ⟨rfl, rfl⟩ ⟨by show _ ≤ (600000 : Nat); omega, by show _ ≤ (7302250 : Nat); omega⟩ (fun r108 m107 => ?_)
        refine ge_icmp_eq (tgt := 1349) DL_law_887 (by decide) ?_ ?_
        · refine ge_widen (cells' := (c0 + 804)) (slots' := (s0 + 9648)) (by omega) (by omega) ?_
          exact hj1349 m107
        · refine ge_iconst (v := (0 : Int32)) DL_law_890 rfl ?_
          exact ge_law0
      refine ge_ite (fun hx109 => ?_) (fun hx109 => ?_)
      · refine ge_tsw (v := (21 : Int32)) (tgt := 892) DL_law_32 hx109 (by decide) (by decide) rfl (by decide) ?_
        refine ge_aload_n 1 DL_law_892 rfl ?_
        refine ge_aload_n 0 DL_law_893 rfl ?_
        refine ge_iload_n 3 DL_law_894 rfl ?_
        refine ge_iconst (v := (1 : Int32)) DL_law_895 rfl ?_
        refine ge_iadd DL_law_896 ?_
        refine ge_scr hsc DL_law_897 ?_
        refine ge_callVi0 (st := []) cm_L_106 DL_law_898 is_0 rfl (okX10_make (kl K) X m1 (xs (ix (x2 + (1 : Int32))))) rfl rfl (Nat.le_of_ble_eq_true rfl) (by decide) ⟨rfl, rfl⟩ ⟨by show _ ≤ (600000 : Nat); omega, by show _ ≤ (7302250 : Nat); omega⟩ (fun r111 m110 => ?_)
        refine ge_aload_n 2 DL_law_901 rfl ?_
        refine ge_aload_n 0 DL_law_902 rfl ?_
        refine ge_iload_n 3 DL_law_903 rfl ?_
        refine ge_iconst (v := (1 : Int32)) DL_law_904 rfl ?_
        refine ge_iadd DL_law_905 ?_
        refine ge_scr hsc DL_law_906 ?_
        refine ge_callViA (st := [.int r111]) cm_L_109 DL_law_907 is_362 rfl (okX11_make (kl K) X hX m110 (xs (ix (x2 + (1 : Int32))))) rfl rfl (Nat.le_of_ble_eq_true rfl) (by decide) (dc := 1) (ds := 12) ⟨rfl, rfl⟩ ⟨by show _ + 1 ≤ (600000 : Nat); omega, by show _ + 12 ≤ (7302250 : Nat); omega⟩ (fun r113 m112 => ?_)
        refine ge_icmp_eq (tgt := 1349) DL_law_910 (by decide) ?_ ?_
        · refine ge_widen (cells' := (c0 + 804)) (slots' := (s0 + 9648)) (by omega) (by omega) ?_
          exact hj1349 m112
        · refine ge_iconst (v := (0 : Int32)) DL_law_913 rfl ?_
          exact ge_law0
      refine ge_ite (fun hx114 => ?_) (fun hx114 => ?_)
      · refine ge_tsw (v := (22 : Int32)) (tgt := 915) DL_law_32 hx114 (by decide) (by decide) rfl (by decide) ?_
        refine ge_aload_n 1 DL_law_915 rfl ?_
        refine ge_aload_n 0 DL_law_916 rfl ?_
        refine ge_iload_n 3 DL_law_917 rfl ?_
        refine ge_iconst (v := (1 : Int32)) DL_law_918 rfl ?_
        refine ge_iadd DL_law_919 ?_
        refine ge_scr hsc DL_law_920 ?_
        refine ge_callVi0 (st := []) cm_L_110 DL_law_921 is_0 rfl (okX10_write (kl K) X m1 (xs (ix (x2 + (1 : Int32))))) rfl rfl (Nat.le_of_ble_eq_true rfl) (by decide) ⟨rfl, rfl⟩ ⟨by show _ ≤ (600000 : Nat); omega, by show _ ≤ (7302250 : Nat); omega⟩ (fun r116 m115 => ?_)
        refine ge_aload_n 2 DL_law_924 rfl ?_
        refine ge_aload_n 0 DL_law_925 rfl ?_
        refine ge_iload_n 3 DL_law_926 rfl ?_
        refine ge_iconst (v := (1 : Int32)) DL_law_927 rfl ?_
        refine ge_iadd DL_law_928 ?_
        refine ge_scr hsc DL_law_929 ?_
        refine ge_callViA (st := [.int r116]) cm_L_113 DL_law_930 is_362 rfl (okX11_write (kl K) X hX m115 (xs (ix (x2 + (1 : Int32))))) rfl rfl (Nat.le_of_ble_eq_true rfl) (by decide) (dc := 1) (ds := 12) ⟨rfl, rfl⟩ ⟨by show _ + 1 ≤ (600000 : Nat); omega, by show _ + 12 ≤ (7302250 : Nat); omega⟩ (fun r118 m117 => ?_)
        refine ge_icmp_eq (tgt := 1349) DL_law_933 (by decide) ?_ ?_
        · refine ge_widen (cells' := (c0 + 804)) (slots' := (s0 + 9648)) (by omega) (by omega) ?_
          exact hj1349 m117
        · refine ge_iconst (v := (0 : Int32)) DL_law_936 rfl ?_
          exact ge_law0
      refine ge_ite (fun hx119 => ?_) (fun hx119 => ?_)
      · refine ge_tsw (v := (23 : Int32)) (tgt := 938) DL_law_32 hx119 (by decide) (by decide) rfl (by decide) ?_
        refine ge_aload_n 1 DL_law_938 rfl ?_
        refine ge_aload_n 0 DL_law_939 rfl ?_
        refine ge_iload_n 3 DL_law_940 rfl ?_
        refine ge_iconst (v := (1 : Int32)) DL_law_941 rfl ?_
        refine ge_iadd DL_law_942 ?_
        refine ge_scr hsc DL_law_943 ?_
        refine ge_callVi0 (st := []) cm_L_114 DL_law_944 is_0 rfl (okX10_written (kl K) X m1 (xs (ix (x2 + (1 : Int32))))) rfl rfl (Nat.le_of_ble_eq_true rfl) (by decide) ⟨rfl, rfl⟩ ⟨by show _ ≤ (600000 : Nat); omega, by show _ ≤ (7302250 : Nat); omega⟩ (fun r121 m120 => ?_)
        refine ge_aload_n 2 DL_law_947 rfl ?_
        refine ge_aload_n 0 DL_law_948 rfl ?_
        refine ge_iload_n 3 DL_law_949 rfl ?_
        refine ge_iconst (v := (1 : Int32)) DL_law_950 rfl ?_
        refine ge_iadd DL_law_951 ?_
        refine ge_scr hsc DL_law_952 ?_
        refine ge_callVi0 (st := [.int r121]) cm_L_117 DL_law_953 is_362 rfl (okX11_written (kl K) X m120 (xs (ix (x2 + (1 : Int32))))) rfl rfl (Nat.le_of_ble_eq_true rfl) (by decide) ⟨rfl, rfl⟩ ⟨by show _ ≤ (600000 : Nat); omega, by show _ ≤ (7302250 : Nat); omega⟩ (fun r123 m122 => ?_)
        refine ge_icmp_eq (tgt := 1349) DL_law_956 (by decide) ?_ ?_
        · refine ge_widen (cells' := (c0 + 804)) (slots' := (s0 + 9648)) (by omega) (by omega) ?_
          exact hj1349 m122
        · refine ge_iconst (v := (0 : Int32)) DL_law_959 rfl ?_
          exact ge_law0
      refine ge_ite (fun hx124 => ?_) (fun hx124 => ?_)
      · refine ge_tsw (v := (24 : Int32)) (tgt := 961) DL_law_32 hx124 (by decide) (by decide) rfl (by decide) ?_
        refine ge_aload_n 1 DL_law_961 rfl ?_
        refine ge_callVi0 (st := []) cm_L_118 DL_law_962 is_0 rfl (okX10_read (kl K) X m1) rfl rfl (Nat.le_of_ble_eq_true rfl) (by decide) ⟨rfl, rfl⟩ ⟨by show _ ≤ (600000 : Nat); omega, by show _ ≤ (7302250 : Nat); omega⟩ (fun r126 m125 => ?_)
        refine ge_aload_n 2 DL_law_965 rfl ?_
        refine ge_callViA (st := [.int r126]) cm_L_121 DL_law_966 is_362 rfl (okX11_read (kl K) X hX m125) rfl rfl (Nat.le_of_ble_eq_true rfl) (by decide) (dc := 1) (ds := 12) ⟨rfl, rfl⟩ ⟨by show _ + 1 ≤ (600000 : Nat); omega, by show _ + 12 ≤ (7302250 : Nat); omega⟩ (fun r128 m127 => ?_)
        refine ge_icmp_eq (tgt := 1349) DL_law_969 (by decide) ?_ ?_
        · refine ge_widen (cells' := (c0 + 804)) (slots' := (s0 + 9648)) (by omega) (by omega) ?_
          exact hj1349 m127
        · refine ge_iconst (v := (0 : Int32)) DL_law_972 rfl ?_
          exact ge_law0
      refine ge_ite (fun hx129 => ?_) (fun hx129 => ?_)
      · refine ge_tsw (v := (25 : Int32)) (tgt := 974) DL_law_32 hx129 (by decide) (by decide) rfl (by decide) ?_
        refine ge_aload_n 1 DL_law_974 rfl ?_
        refine ge_aload_n 0 DL_law_975 rfl ?_
        refine ge_iload_n 3 DL_law_976 rfl ?_
        refine ge_iconst (v := (1 : Int32)) DL_law_977 rfl ?_
        refine ge_iadd DL_law_978 ?_
        refine ge_scr hsc DL_law_979 ?_
        refine ge_aload_n 0 DL_law_980 rfl ?_
        refine ge_iload_n 3 DL_law_981 rfl ?_
        refine ge_iconst (v := (2 : Int32)) DL_law_982 rfl ?_
        refine ge_iadd DL_law_983 ?_
        refine ge_scr hsc DL_law_984 ?_
        refine ge_callVi0 (st := []) cm_L_122 DL_law_985 is_0 rfl (okX10_put (kl K) X m1 (xs (ix (x2 + (1 : Int32)))) (xs (ix (x2 + (2 : Int32))))) rfl rfl (Nat.le_of_ble_eq_true rfl) (by decide) ⟨rfl, rfl⟩ ⟨by show _ ≤ (600000 : Nat); omega, by show _ ≤ (7302250 : Nat); omega⟩ (fun r131 m130 => ?_)
        refine ge_aload_n 2 DL_law_988 rfl ?_
        refine ge_aload_n 0 DL_law_989 rfl ?_
        refine ge_iload_n 3 DL_law_990 rfl ?_
        refine ge_iconst (v := (1 : Int32)) DL_law_991 rfl ?_
        refine ge_iadd DL_law_992 ?_
        refine ge_scr hsc DL_law_993 ?_
        refine ge_aload_n 0 DL_law_994 rfl ?_
        refine ge_iload_n 3 DL_law_995 rfl ?_
        refine ge_iconst (v := (2 : Int32)) DL_law_996 rfl ?_
        refine ge_iadd DL_law_997 ?_
        refine ge_scr hsc DL_law_998 ?_
        refine ge_callVi0 (st := [.int r131]) cm_L_125 DL_law_999 is_362 rfl (okX11_put (kl K) X m130 (xs (ix (x2 + (1 : Int32)))) (xs (ix (x2 + (2 : Int32))))) rfl rfl (Nat.le_of_ble_eq_true rfl) (by decide) ⟨rfl, rfl⟩ ⟨by show _ ≤ (600000 : Nat); omega, by show _ ≤ (7302250 : Nat); omega⟩ (fun r133 m132 => ?_)
        refine ge_icmp_eq (tgt := 1349) DL_law_1002 (by decide) ?_ ?_
        · refine ge_widen (cells' := (c0 + 804)) (slots' := (s0 + 9648)) (by omega) (by omega) ?_
          exact hj1349 m132
        · refine ge_iconst (v := (0 : Int32)) DL_law_1005 rfl ?_
          exact ge_law0
      refine ge_ite (fun hx134 => ?_) (fun hx134 => ?_)
      · refine ge_tsw (v := (26 : Int32)) (tgt := 1007) DL_law_32 hx134 (by decide) (by decide) rfl (by decide) ?_
        refine ge_aload_n 1 DL_law_1007 rfl ?_
        refine ge_aload_n 0 DL_law_1008 rfl ?_
        refine ge_iload_n 3 DL_law_1009 rfl ?_
        refine ge_iconst (v := (1 : Int32)) DL_law_1010 rfl ?_
        refine ge_iadd DL_law_1011 ?_
        refine ge_scr hsc DL_law_1012 ?_
        refine ge_callVi0 (st := []) cm_L_126 DL_law_1013 is_0 rfl (okX10_cell (kl K) X m1 (xs (ix (x2 + (1 : Int32))))) rfl rfl (Nat.le_of_ble_eq_true rfl) (by decide) ⟨rfl, rfl⟩ ⟨by show _ ≤ (600000 : Nat); omega, by show _ ≤ (7302250 : Nat); omega⟩ (fun r136 m135 => ?_)
        refine ge_aload_n 2 DL_law_1016 rfl ?_
        refine ge_aload_n 0 DL_law_1017 rfl ?_
        refine ge_iload_n 3 DL_law_1018 rfl ?_
        refine ge_iconst (v := (1 : Int32)) DL_law_1019 rfl ?_
        refine ge_iadd DL_law_1020 ?_
        refine ge_scr hsc DL_law_1021 ?_
        refine ge_callVi0 (st := [.int r136]) cm_L_129 DL_law_1022 is_362 rfl (okX11_cell (kl K) X m135 (xs (ix (x2 + (1 : Int32))))) rfl rfl (Nat.le_of_ble_eq_true rfl) (by decide) ⟨rfl, rfl⟩ ⟨by show _ ≤ (600000 : Nat); omega, by show _ ≤ (7302250 : Nat); omega⟩ (fun r138 m137 => ?_)
        refine ge_icmp_eq (tgt := 1349) DL_law_1025 (by decide) ?_ ?_
        · refine ge_widen (cells' := (c0 + 804)) (slots' := (s0 + 9648)) (by omega) (by omega) ?_
          exact hj1349 m137
        · refine ge_iconst (v := (0 : Int32)) DL_law_1028 rfl ?_
          exact ge_law0
      refine ge_ite (fun hx139 => ?_) (fun hx139 => ?_)
      · refine ge_tsw (v := (27 : Int32)) (tgt := 1030) DL_law_32 hx139 (by decide) (by decide) rfl (by decide) ?_
        refine ge_aload_n 1 DL_law_1030 rfl ?_
        refine ge_aload_n 0 DL_law_1031 rfl ?_
        refine ge_iload_n 3 DL_law_1032 rfl ?_
        refine ge_iconst (v := (1 : Int32)) DL_law_1033 rfl ?_
        refine ge_iadd DL_law_1034 ?_
        refine ge_scr hsc DL_law_1035 ?_
        refine ge_aload_n 0 DL_law_1036 rfl ?_
        refine ge_iload_n 3 DL_law_1037 rfl ?_
        refine ge_iconst (v := (2 : Int32)) DL_law_1038 rfl ?_
        refine ge_iadd DL_law_1039 ?_
        refine ge_scr hsc DL_law_1040 ?_
        refine ge_aload_n 0 DL_law_1041 rfl ?_
        refine ge_iload_n 3 DL_law_1042 rfl ?_
        refine ge_iconst (v := (3 : Int32)) DL_law_1043 rfl ?_
        refine ge_iadd DL_law_1044 ?_
        refine ge_scr hsc DL_law_1045 ?_
        refine ge_callVi0 (st := []) cm_L_130 DL_law_1046 is_0 rfl (okX10_copy (kl K) X m1 (xs (ix (x2 + (1 : Int32)))) (xs (ix (x2 + (2 : Int32)))) (xs (ix (x2 + (3 : Int32))))) rfl rfl (Nat.le_of_ble_eq_true rfl) (by decide) ⟨rfl, rfl⟩ ⟨by show _ ≤ (600000 : Nat); omega, by show _ ≤ (7302250 : Nat); omega⟩ (fun r141 m140 => ?_)
        refine ge_aload_n 2 DL_law_1049 rfl ?_
        refine ge_aload_n 0 DL_law_1050 rfl ?_
        refine ge_iload_n 3 DL_law_1051 rfl ?_
        refine ge_iconst (v := (1 : Int32)) DL_law_1052 rfl ?_
        refine ge_iadd DL_law_1053 ?_
        refine ge_scr hsc DL_law_1054 ?_
        refine ge_aload_n 0 DL_law_1055 rfl ?_
        refine ge_iload_n 3 DL_law_1056 rfl ?_
        refine ge_iconst (v := (2 : Int32)) DL_law_1057 rfl ?_
        refine ge_iadd DL_law_1058 ?_
        refine ge_scr hsc DL_law_1059 ?_
        refine ge_aload_n 0 DL_law_1060 rfl ?_
        refine ge_iload_n 3 DL_law_1061 rfl ?_
        refine ge_iconst (v := (3 : Int32)) DL_law_1062 rfl ?_
        refine ge_iadd DL_law_1063 ?_
        refine ge_scr hsc DL_law_1064 ?_
        refine ge_callVi0 (st := [.int r141]) cm_L_133 DL_law_1065 is_362 rfl (okX11_copy (kl K) X m140 (xs (ix (x2 + (1 : Int32)))) (xs (ix (x2 + (2 : Int32)))) (xs (ix (x2 + (3 : Int32))))) rfl rfl (Nat.le_of_ble_eq_true rfl) (by decide) ⟨rfl, rfl⟩ ⟨by show _ ≤ (600000 : Nat); omega, by show _ ≤ (7302250 : Nat); omega⟩ (fun r143 m142 => ?_)
        refine ge_icmp_eq (tgt := 1349) DL_law_1068 (by decide) ?_ ?_
        · refine ge_widen (cells' := (c0 + 804)) (slots' := (s0 + 9648)) (by omega) (by omega) ?_
          exact hj1349 m142
        · refine ge_iconst (v := (0 : Int32)) DL_law_1071 rfl ?_
          exact ge_law0
      refine ge_ite (fun hx144 => ?_) (fun hx144 => ?_)
      · refine ge_tsw (v := (28 : Int32)) (tgt := 1073) DL_law_32 hx144 (by decide) (by decide) rfl (by decide) ?_
        refine ge_aload_n 1 DL_law_1073 rfl ?_
        refine ge_aload_n 0 DL_law_1074 rfl ?_
        refine ge_iload_n 3 DL_law_1075 rfl ?_
        refine ge_iconst (v := (1 : Int32)) DL_law_1076 rfl ?_
        refine ge_iadd DL_law_1077 ?_
        refine ge_scr hsc DL_law_1078 ?_
        refine ge_callVi0 (st := []) cm_L_134 DL_law_1079 is_0 rfl (okX10_holders (kl K) X m1 (xs (ix (x2 + (1 : Int32))))) rfl rfl (Nat.le_of_ble_eq_true rfl) (by decide) ⟨rfl, rfl⟩ ⟨by show _ ≤ (600000 : Nat); omega, by show _ ≤ (7302250 : Nat); omega⟩ (fun r146 m145 => ?_)
        refine ge_aload_n 2 DL_law_1082 rfl ?_
        refine ge_aload_n 0 DL_law_1083 rfl ?_
        refine ge_iload_n 3 DL_law_1084 rfl ?_
        refine ge_iconst (v := (1 : Int32)) DL_law_1085 rfl ?_
        refine ge_iadd DL_law_1086 ?_
        refine ge_scr hsc DL_law_1087 ?_
        refine ge_callViA (st := [.int r146]) cm_L_137 DL_law_1088 is_362 rfl (okX11_holders (kl K) X hX m145 (xs (ix (x2 + (1 : Int32))))) rfl rfl (Nat.le_of_ble_eq_true rfl) (by decide) (dc := 33) (ds := 396) ⟨rfl, rfl⟩ ⟨by show _ + 33 ≤ (600000 : Nat); omega, by show _ + 396 ≤ (7302250 : Nat); omega⟩ (fun r148 m147 => ?_)
        refine ge_icmp_eq (tgt := 1349) DL_law_1091 (by decide) ?_ ?_
        · refine ge_widen (cells' := (c0 + 804)) (slots' := (s0 + 9648)) (by omega) (by omega) ?_
          exact hj1349 m147
        · refine ge_iconst (v := (0 : Int32)) DL_law_1094 rfl ?_
          exact ge_law0
      refine ge_ite (fun hx149 => ?_) (fun hx149 => ?_)
      · refine ge_tsw (v := (29 : Int32)) (tgt := 1096) DL_law_32 hx149 (by decide) (by decide) rfl (by decide) ?_
        refine ge_aload_n 1 DL_law_1096 rfl ?_
        refine ge_aload_n 0 DL_law_1097 rfl ?_
        refine ge_iload_n 3 DL_law_1098 rfl ?_
        refine ge_iconst (v := (1 : Int32)) DL_law_1099 rfl ?_
        refine ge_iadd DL_law_1100 ?_
        refine ge_scr hsc DL_law_1101 ?_
        refine ge_aload_n 0 DL_law_1102 rfl ?_
        refine ge_iload_n 3 DL_law_1103 rfl ?_
        refine ge_iconst (v := (2 : Int32)) DL_law_1104 rfl ?_
        refine ge_iadd DL_law_1105 ?_
        refine ge_scr hsc DL_law_1106 ?_
        refine ge_aload_n 0 DL_law_1107 rfl ?_
        refine ge_iload_n 3 DL_law_1108 rfl ?_
        refine ge_iconst (v := (3 : Int32)) DL_law_1109 rfl ?_
        refine ge_iadd DL_law_1110 ?_
        refine ge_scr hsc DL_law_1111 ?_
        refine ge_callVi0 (st := []) cm_L_138 DL_law_1112 is_0 rfl (okX10_walk (kl K) X m1 (xs (ix (x2 + (1 : Int32)))) (xs (ix (x2 + (2 : Int32)))) (xs (ix (x2 + (3 : Int32))))) rfl rfl (Nat.le_of_ble_eq_true rfl) (by decide) ⟨rfl, rfl⟩ ⟨by show _ ≤ (600000 : Nat); omega, by show _ ≤ (7302250 : Nat); omega⟩ (fun r151 m150 => ?_)
        refine ge_aload_n 2 DL_law_1115 rfl ?_
        refine ge_aload_n 0 DL_law_1116 rfl ?_
        refine ge_iload_n 3 DL_law_1117 rfl ?_
        refine ge_iconst (v := (1 : Int32)) DL_law_1118 rfl ?_
        refine ge_iadd DL_law_1119 ?_
        refine ge_scr hsc DL_law_1120 ?_
        refine ge_aload_n 0 DL_law_1121 rfl ?_
        refine ge_iload_n 3 DL_law_1122 rfl ?_
        refine ge_iconst (v := (2 : Int32)) DL_law_1123 rfl ?_
        refine ge_iadd DL_law_1124 ?_
        refine ge_scr hsc DL_law_1125 ?_
        refine ge_aload_n 0 DL_law_1126 rfl ?_
        refine ge_iload_n 3 DL_law_1127 rfl ?_
        refine ge_iconst (v := (3 : Int32)) DL_law_1128 rfl ?_
        refine ge_iadd DL_law_1129 ?_
        refine ge_scr hsc DL_law_1130 ?_
        refine ge_callViA (st := [.int r151]) cm_L_141 DL_law_1131 is_362 rfl (okX11_walk (kl K) X hX m150 (xs (ix (x2 + (1 : Int32)))) (xs (ix (x2 + (2 : Int32)))) (xs (ix (x2 + (3 : Int32))))) rfl rfl (Nat.le_of_ble_eq_true rfl) (by decide) (dc := 804) (ds := 9648) ⟨rfl, rfl⟩ ⟨by show _ + 804 ≤ (600000 : Nat); omega, by show _ + 9648 ≤ (7302250 : Nat); omega⟩ (fun r153 m152 => ?_)
        refine ge_icmp_eq (tgt := 1349) DL_law_1134 (by decide) ?_ ?_
        · refine ge_widen (cells' := (c0 + 804)) (slots' := (s0 + 9648)) (by omega) (by omega) ?_
          exact hj1349 m152
        · refine ge_iconst (v := (0 : Int32)) DL_law_1137 rfl ?_
          exact ge_law0
      refine ge_ite (fun hx154 => ?_) (fun hx154 => ?_)
      · refine ge_tsw (v := (30 : Int32)) (tgt := 1139) DL_law_32 hx154 (by decide) (by decide) rfl (by decide) ?_
        refine ge_aload_n 1 DL_law_1139 rfl ?_
        refine ge_aload_n 0 DL_law_1140 rfl ?_
        refine ge_iload_n 3 DL_law_1141 rfl ?_
        refine ge_iconst (v := (1 : Int32)) DL_law_1142 rfl ?_
        refine ge_iadd DL_law_1143 ?_
        refine ge_scr hsc DL_law_1144 ?_
        refine ge_callVi0 (st := []) cm_L_142 DL_law_1145 is_0 rfl (okX10_halts (kl K) X m1 (xs (ix (x2 + (1 : Int32))))) rfl rfl (Nat.le_of_ble_eq_true rfl) (by decide) ⟨rfl, rfl⟩ ⟨by show _ ≤ (600000 : Nat); omega, by show _ ≤ (7302250 : Nat); omega⟩ (fun r156 m155 => ?_)
        refine ge_aload_n 2 DL_law_1148 rfl ?_
        refine ge_aload_n 0 DL_law_1149 rfl ?_
        refine ge_iload_n 3 DL_law_1150 rfl ?_
        refine ge_iconst (v := (1 : Int32)) DL_law_1151 rfl ?_
        refine ge_iadd DL_law_1152 ?_
        refine ge_scr hsc DL_law_1153 ?_
        refine ge_callViA (st := [.int r156]) cm_L_145 DL_law_1154 is_362 rfl (okX11_halts (kl K) X hX m155 (xs (ix (x2 + (1 : Int32))))) rfl rfl (Nat.le_of_ble_eq_true rfl) (by decide) (dc := 404) (ds := 4848) ⟨rfl, rfl⟩ ⟨by show _ + 404 ≤ (600000 : Nat); omega, by show _ + 4848 ≤ (7302250 : Nat); omega⟩ (fun r158 m157 => ?_)
        refine ge_icmp_eq (tgt := 1349) DL_law_1157 (by decide) ?_ ?_
        · refine ge_widen (cells' := (c0 + 804)) (slots' := (s0 + 9648)) (by omega) (by omega) ?_
          exact hj1349 m157
        · refine ge_iconst (v := (0 : Int32)) DL_law_1160 rfl ?_
          exact ge_law0
      refine ge_ite (fun hx159 => ?_) (fun hx159 => ?_)
      · refine ge_tsw (v := (31 : Int32)) (tgt := 1162) DL_law_32 hx159 (by decide) (by decide) rfl (by decide) ?_
        refine ge_aload_n 1 DL_law_1162 rfl ?_
        refine ge_aload_n 0 DL_law_1163 rfl ?_
        refine ge_iload_n 3 DL_law_1164 rfl ?_
        refine ge_iconst (v := (1 : Int32)) DL_law_1165 rfl ?_
        refine ge_iadd DL_law_1166 ?_
        refine ge_scr hsc DL_law_1167 ?_
        refine ge_aload_n 0 DL_law_1168 rfl ?_
        refine ge_iload_n 3 DL_law_1169 rfl ?_
        refine ge_iconst (v := (2 : Int32)) DL_law_1170 rfl ?_
        refine ge_iadd DL_law_1171 ?_
        refine ge_scr hsc DL_law_1172 ?_
        refine ge_callVi0 (st := []) cm_L_146 DL_law_1173 is_0 rfl (okX10_run (kl K) X m1 (xs (ix (x2 + (1 : Int32)))) (xs (ix (x2 + (2 : Int32))))) rfl rfl (Nat.le_of_ble_eq_true rfl) (by decide) ⟨rfl, rfl⟩ ⟨by show _ ≤ (600000 : Nat); omega, by show _ ≤ (7302250 : Nat); omega⟩ (fun r161 m160 => ?_)
        refine ge_aload_n 2 DL_law_1176 rfl ?_
        refine ge_aload_n 0 DL_law_1177 rfl ?_
        refine ge_iload_n 3 DL_law_1178 rfl ?_
        refine ge_iconst (v := (1 : Int32)) DL_law_1179 rfl ?_
        refine ge_iadd DL_law_1180 ?_
        refine ge_scr hsc DL_law_1181 ?_
        refine ge_aload_n 0 DL_law_1182 rfl ?_
        refine ge_iload_n 3 DL_law_1183 rfl ?_
        refine ge_iconst (v := (2 : Int32)) DL_law_1184 rfl ?_
        refine ge_iadd DL_law_1185 ?_
        refine ge_scr hsc DL_law_1186 ?_
        refine ge_callViA (st := [.int r161]) cm_L_149 DL_law_1187 is_362 rfl (okX11_run (kl K) X hX m160 (xs (ix (x2 + (1 : Int32)))) (xs (ix (x2 + (2 : Int32))))) rfl rfl (Nat.le_of_ble_eq_true rfl) (by decide) (dc := 402) (ds := 4824) ⟨rfl, rfl⟩ ⟨by show _ + 402 ≤ (600000 : Nat); omega, by show _ + 4824 ≤ (7302250 : Nat); omega⟩ (fun r163 m162 => ?_)
        refine ge_icmp_eq (tgt := 1349) DL_law_1190 (by decide) ?_ ?_
        · refine ge_widen (cells' := (c0 + 804)) (slots' := (s0 + 9648)) (by omega) (by omega) ?_
          exact hj1349 m162
        · refine ge_iconst (v := (0 : Int32)) DL_law_1193 rfl ?_
          exact ge_law0
      refine ge_ite (fun hx164 => ?_) (fun hx164 => ?_)
      · refine ge_tsw (v := (32 : Int32)) (tgt := 1195) DL_law_32 hx164 (by decide) (by decide) rfl (by decide) ?_
        refine ge_aload_n 1 DL_law_1195 rfl ?_
        refine ge_aload_n 0 DL_law_1196 rfl ?_
        refine ge_iload_n 3 DL_law_1197 rfl ?_
        refine ge_iconst (v := (1 : Int32)) DL_law_1198 rfl ?_
        refine ge_iadd DL_law_1199 ?_
        refine ge_scr hsc DL_law_1200 ?_
        refine ge_callVi0 (st := []) cm_L_150 DL_law_1201 is_0 rfl (okX10_met (kl K) X m1 (xs (ix (x2 + (1 : Int32))))) rfl rfl (Nat.le_of_ble_eq_true rfl) (by decide) ⟨rfl, rfl⟩ ⟨by show _ ≤ (600000 : Nat); omega, by show _ ≤ (7302250 : Nat); omega⟩ (fun r166 m165 => ?_)
        refine ge_aload_n 2 DL_law_1204 rfl ?_
        refine ge_aload_n 0 DL_law_1205 rfl ?_
        refine ge_iload_n 3 DL_law_1206 rfl ?_
        refine ge_iconst (v := (1 : Int32)) DL_law_1207 rfl ?_
        refine ge_iadd DL_law_1208 ?_
        refine ge_scr hsc DL_law_1209 ?_
        refine ge_callVi0 (st := [.int r166]) cm_L_153 DL_law_1210 is_362 rfl (okX11_met (kl K) X m165 (xs (ix (x2 + (1 : Int32))))) rfl rfl (Nat.le_of_ble_eq_true rfl) (by decide) ⟨rfl, rfl⟩ ⟨by show _ ≤ (600000 : Nat); omega, by show _ ≤ (7302250 : Nat); omega⟩ (fun r168 m167 => ?_)
        refine ge_icmp_eq (tgt := 1349) DL_law_1213 (by decide) ?_ ?_
        · refine ge_widen (cells' := (c0 + 804)) (slots' := (s0 + 9648)) (by omega) (by omega) ?_
          exact hj1349 m167
        · refine ge_iconst (v := (0 : Int32)) DL_law_1216 rfl ?_
          exact ge_law0
      refine ge_ite (fun hx169 => ?_) (fun hx169 => ?_)
      · refine ge_tsw (v := (33 : Int32)) (tgt := 1218) DL_law_32 hx169 (by decide) (by decide) rfl (by decide) ?_
        refine ge_aload_n 1 DL_law_1218 rfl ?_
        refine ge_aload_n 0 DL_law_1219 rfl ?_
        refine ge_iload_n 3 DL_law_1220 rfl ?_
        refine ge_iconst (v := (1 : Int32)) DL_law_1221 rfl ?_
        refine ge_iadd DL_law_1222 ?_
        refine ge_scr hsc DL_law_1223 ?_
        refine ge_callVi0 (st := []) cm_L_154 DL_law_1224 is_0 rfl (okX10_order (kl K) X m1 (xs (ix (x2 + (1 : Int32))))) rfl rfl (Nat.le_of_ble_eq_true rfl) (by decide) ⟨rfl, rfl⟩ ⟨by show _ ≤ (600000 : Nat); omega, by show _ ≤ (7302250 : Nat); omega⟩ (fun r171 m170 => ?_)
        refine ge_aload_n 2 DL_law_1227 rfl ?_
        refine ge_aload_n 0 DL_law_1228 rfl ?_
        refine ge_iload_n 3 DL_law_1229 rfl ?_
        refine ge_iconst (v := (1 : Int32)) DL_law_1230 rfl ?_
        refine ge_iadd DL_law_1231 ?_
        refine ge_scr hsc DL_law_1232 ?_
        refine ge_callVi0 (st := [.int r171]) cm_L_157 DL_law_1233 is_362 rfl (okX11_order (kl K) X m170 (xs (ix (x2 + (1 : Int32))))) rfl rfl (Nat.le_of_ble_eq_true rfl) (by decide) ⟨rfl, rfl⟩ ⟨by show _ ≤ (600000 : Nat); omega, by show _ ≤ (7302250 : Nat); omega⟩ (fun r173 m172 => ?_)
        refine ge_icmp_eq (tgt := 1349) DL_law_1236 (by decide) ?_ ?_
        · refine ge_widen (cells' := (c0 + 804)) (slots' := (s0 + 9648)) (by omega) (by omega) ?_
          exact hj1349 m172
        · refine ge_iconst (v := (0 : Int32)) DL_law_1239 rfl ?_
          exact ge_law0
      refine ge_ite (fun hx174 => ?_) (fun hx174 => ?_)
      · refine ge_tsw (v := (34 : Int32)) (tgt := 1241) DL_law_32 hx174 (by decide) (by decide) rfl (by decide) ?_
        refine ge_aload_n 1 DL_law_1241 rfl ?_
        refine ge_aload_n 0 DL_law_1242 rfl ?_
        refine ge_iload_n 3 DL_law_1243 rfl ?_
        refine ge_iconst (v := (1 : Int32)) DL_law_1244 rfl ?_
        refine ge_iadd DL_law_1245 ?_
        refine ge_scr hsc DL_law_1246 ?_
        refine ge_callVi0 (st := []) cm_L_158 DL_law_1247 is_0 rfl (okX10_costs (kl K) X m1 (xs (ix (x2 + (1 : Int32))))) rfl rfl (Nat.le_of_ble_eq_true rfl) (by decide) ⟨rfl, rfl⟩ ⟨by show _ ≤ (600000 : Nat); omega, by show _ ≤ (7302250 : Nat); omega⟩ (fun r176 m175 => ?_)
        refine ge_aload_n 2 DL_law_1250 rfl ?_
        refine ge_aload_n 0 DL_law_1251 rfl ?_
        refine ge_iload_n 3 DL_law_1252 rfl ?_
        refine ge_iconst (v := (1 : Int32)) DL_law_1253 rfl ?_
        refine ge_iadd DL_law_1254 ?_
        refine ge_scr hsc DL_law_1255 ?_
        refine ge_callViA (st := [.int r176]) cm_L_161 DL_law_1256 is_362 rfl (okX11_costs (kl K) X hX m175 (xs (ix (x2 + (1 : Int32))))) rfl rfl (Nat.le_of_ble_eq_true rfl) (by decide) (dc := 2) (ds := 24) ⟨rfl, rfl⟩ ⟨by show _ + 2 ≤ (600000 : Nat); omega, by show _ + 24 ≤ (7302250 : Nat); omega⟩ (fun r178 m177 => ?_)
        refine ge_icmp_eq (tgt := 1349) DL_law_1259 (by decide) ?_ ?_
        · refine ge_widen (cells' := (c0 + 804)) (slots' := (s0 + 9648)) (by omega) (by omega) ?_
          exact hj1349 m177
        · refine ge_iconst (v := (0 : Int32)) DL_law_1262 rfl ?_
          exact ge_law0
      refine ge_ite (fun hx179 => ?_) (fun hx179 => ?_)
      · refine ge_tsw (v := (35 : Int32)) (tgt := 1264) DL_law_32 hx179 (by decide) (by decide) rfl (by decide) ?_
        refine ge_aload_n 1 DL_law_1264 rfl ?_
        refine ge_callVi0 (st := []) cm_L_162 DL_law_1265 is_0 rfl (okX10_undo (kl K) X m1) rfl rfl (Nat.le_of_ble_eq_true rfl) (by decide) ⟨rfl, rfl⟩ ⟨by show _ ≤ (600000 : Nat); omega, by show _ ≤ (7302250 : Nat); omega⟩ (fun r181 m180 => ?_)
        refine ge_aload_n 2 DL_law_1268 rfl ?_
        refine ge_callVi0 (st := [.int r181]) cm_L_165 DL_law_1269 is_362 rfl (okX11_undo (kl K) X m180) rfl rfl (Nat.le_of_ble_eq_true rfl) (by decide) ⟨rfl, rfl⟩ ⟨by show _ ≤ (600000 : Nat); omega, by show _ ≤ (7302250 : Nat); omega⟩ (fun r183 m182 => ?_)
        refine ge_icmp_eq (tgt := 1349) DL_law_1272 (by decide) ?_ ?_
        · refine ge_widen (cells' := (c0 + 804)) (slots' := (s0 + 9648)) (by omega) (by omega) ?_
          exact hj1349 m182
        · refine ge_iconst (v := (0 : Int32)) DL_law_1275 rfl ?_
          exact ge_law0
      refine ge_ite (fun hx184 => ?_) (fun hx184 => ?_)
      · refine ge_tsw (v := (36 : Int32)) (tgt := 1277) DL_law_32 hx184 (by decide) (by decide) rfl (by decide) ?_
        refine ge_aload_n 1 DL_law_1277 rfl ?_
        refine ge_callVi0 (st := []) cm_L_166 DL_law_1278 is_0 rfl (okX10_image (kl K) X m1) rfl rfl (Nat.le_of_ble_eq_true rfl) (by decide) ⟨rfl, rfl⟩ ⟨by show _ ≤ (600000 : Nat); omega, by show _ ≤ (7302250 : Nat); omega⟩ (fun r186 m185 => ?_)
        refine ge_aload_n 2 DL_law_1281 rfl ?_
        refine ge_callVi0 (st := [.int r186]) cm_L_169 DL_law_1282 is_362 rfl (okX11_image (kl K) X m185) rfl rfl (Nat.le_of_ble_eq_true rfl) (by decide) ⟨rfl, rfl⟩ ⟨by show _ ≤ (600000 : Nat); omega, by show _ ≤ (7302250 : Nat); omega⟩ (fun r188 m187 => ?_)
        refine ge_icmp_eq (tgt := 1349) DL_law_1285 (by decide) ?_ ?_
        · refine ge_widen (cells' := (c0 + 804)) (slots' := (s0 + 9648)) (by omega) (by omega) ?_
          exact hj1349 m187
        · refine ge_iconst (v := (0 : Int32)) DL_law_1288 rfl ?_
          exact ge_law0
      refine ge_ite (fun hx189 => ?_) (fun hx189 => ?_)
      · refine ge_tsw (v := (37 : Int32)) (tgt := 1290) DL_law_32 hx189 (by decide) (by decide) rfl (by decide) ?_
        refine ge_aload_n 1 DL_law_1290 rfl ?_
        refine ge_callVi0 (st := []) cm_L_170 DL_law_1291 is_0 rfl (okX10_back (kl K) X m1) rfl rfl (Nat.le_of_ble_eq_true rfl) (by decide) ⟨rfl, rfl⟩ ⟨by show _ ≤ (600000 : Nat); omega, by show _ ≤ (7302250 : Nat); omega⟩ (fun r191 m190 => ?_)
        refine ge_aload_n 2 DL_law_1294 rfl ?_
        refine ge_callVi0 (st := [.int r191]) cm_L_173 DL_law_1295 is_362 rfl (okX11_back (kl K) X m190) rfl rfl (Nat.le_of_ble_eq_true rfl) (by decide) ⟨rfl, rfl⟩ ⟨by show _ ≤ (600000 : Nat); omega, by show _ ≤ (7302250 : Nat); omega⟩ (fun r193 m192 => ?_)
        refine ge_icmp_eq (tgt := 1349) DL_law_1298 (by decide) ?_ ?_
        · refine ge_widen (cells' := (c0 + 804)) (slots' := (s0 + 9648)) (by omega) (by omega) ?_
          exact hj1349 m192
        · refine ge_iconst (v := (0 : Int32)) DL_law_1301 rfl ?_
          exact ge_law0
      refine ge_ite (fun hx194 => ?_) (fun hx194 => ?_)
      · refine ge_tsw (v := (38 : Int32)) (tgt := 1303) DL_law_32 hx194 (by decide) (by decide) rfl (by decide) ?_
        refine ge_aload_n 1 DL_law_1303 rfl ?_
        refine ge_aload_n 0 DL_law_1304 rfl ?_
        refine ge_iload_n 3 DL_law_1305 rfl ?_
        refine ge_iconst (v := (1 : Int32)) DL_law_1306 rfl ?_
        refine ge_iadd DL_law_1307 ?_
        refine ge_scr hsc DL_law_1308 ?_
        refine ge_callVi0 (st := []) cm_L_174 DL_law_1309 is_0 rfl (okX10_count (kl K) X m1 (xs (ix (x2 + (1 : Int32))))) rfl rfl (Nat.le_of_ble_eq_true rfl) (by decide) ⟨rfl, rfl⟩ ⟨by show _ ≤ (600000 : Nat); omega, by show _ ≤ (7302250 : Nat); omega⟩ (fun r196 m195 => ?_)
        refine ge_aload_n 2 DL_law_1312 rfl ?_
        refine ge_aload_n 0 DL_law_1313 rfl ?_
        refine ge_iload_n 3 DL_law_1314 rfl ?_
        refine ge_iconst (v := (1 : Int32)) DL_law_1315 rfl ?_
        refine ge_iadd DL_law_1316 ?_
        refine ge_scr hsc DL_law_1317 ?_
        refine ge_callVi0 (st := [.int r196]) cm_L_177 DL_law_1318 is_362 rfl (okX11_count (kl K) X m195 (xs (ix (x2 + (1 : Int32))))) rfl rfl (Nat.le_of_ble_eq_true rfl) (by decide) ⟨rfl, rfl⟩ ⟨by show _ ≤ (600000 : Nat); omega, by show _ ≤ (7302250 : Nat); omega⟩ (fun r198 m197 => ?_)
        refine ge_icmp_eq (tgt := 1349) DL_law_1321 (by decide) ?_ ?_
        · refine ge_widen (cells' := (c0 + 804)) (slots' := (s0 + 9648)) (by omega) (by omega) ?_
          exact hj1349 m197
        · refine ge_iconst (v := (0 : Int32)) DL_law_1324 rfl ?_
          exact ge_law0
      refine ge_ite (fun hx199 => ?_) (fun hx199 => ?_)
      · refine ge_tsw (v := (39 : Int32)) (tgt := 1326) DL_law_32 hx199 (by decide) (by decide) rfl (by decide) ?_
        refine ge_aload_n 1 DL_law_1326 rfl ?_
        refine ge_aload_n 0 DL_law_1327 rfl ?_
        refine ge_iload_n 3 DL_law_1328 rfl ?_
        refine ge_iconst (v := (1 : Int32)) DL_law_1329 rfl ?_
        refine ge_iadd DL_law_1330 ?_
        refine ge_scr hsc DL_law_1331 ?_
        refine ge_callVi0 (st := []) cm_L_178 DL_law_1332 is_0 rfl (okX10_refused (kl K) X m1 (xs (ix (x2 + (1 : Int32))))) rfl rfl (Nat.le_of_ble_eq_true rfl) (by decide) ⟨rfl, rfl⟩ ⟨by show _ ≤ (600000 : Nat); omega, by show _ ≤ (7302250 : Nat); omega⟩ (fun r201 m200 => ?_)
        refine ge_aload_n 2 DL_law_1335 rfl ?_
        refine ge_aload_n 0 DL_law_1336 rfl ?_
        refine ge_iload_n 3 DL_law_1337 rfl ?_
        refine ge_iconst (v := (1 : Int32)) DL_law_1338 rfl ?_
        refine ge_iadd DL_law_1339 ?_
        refine ge_scr hsc DL_law_1340 ?_
        refine ge_callVi0 (st := [.int r201]) cm_L_181 DL_law_1341 is_362 rfl (okX11_refused (kl K) X m200 (xs (ix (x2 + (1 : Int32))))) rfl rfl (Nat.le_of_ble_eq_true rfl) (by decide) ⟨rfl, rfl⟩ ⟨by show _ ≤ (600000 : Nat); omega, by show _ ≤ (7302250 : Nat); omega⟩ (fun r203 m202 => ?_)
        refine ge_icmp_eq (tgt := 1349) DL_law_1344 (by decide) ?_ ?_
        · refine ge_widen (cells' := (c0 + 804)) (slots' := (s0 + 9648)) (by omega) (by omega) ?_
          exact hj1349 m202
        · refine ge_iconst (v := (0 : Int32)) DL_law_1347 rfl ?_
          exact ge_law0
      refine ge_tswd (tgt := 1349) DL_law_32 (sw_out 0 40 rfl (by decide) (fun i hi => by rcases i with _ | _ | _ | _ | _ | _ | _ | _ | _ | _ | _ | _ | _ | _ | _ | _ | _ | _ | _ | _ | _ | _ | _ | _ | _ | _ | _ | _ | _ | _ | _ | _ | _ | _ | _ | _ | _ | _ | _ | _ | i <;> first | exact absurd hi (by omega) | assumption)) (by decide) ?_
      refine ge_widen (cells' := (c0 + 804)) (slots' := (s0 + 9648)) (by omega) (by omega) ?_
      exact hj1349 m1
