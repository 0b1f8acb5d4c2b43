def m_law : mu_M := (RL, yL_law, cL_law, 7, some .boolean)
theorem lc_0 {X : mu_X} {b L : Nat} {xs : Nat → Int32} {cs ss N : Nat} {Q : mu_Q} {i r : Int32} {h h1 h2 : mu_H} (hcs : cs ≤ room_1.cells ∧ ss ≤ room_1.slots) (hx1 : ix (i + 1) L = true) (hx2 : ix (i + 2) L = true) (hx3 : ix (i + 3) L = true) (hx4 : ix (i + 4) L = true) (hx5 : ix (i + 5) L = true) (hx6 : ix (i + 6) L = true) (hF : f_Owe_feed N h (xs (i + 1).toNatClampNeg) (xs (i + 2).toNatClampNeg) (xs (i + 3).toNatClampNeg) (xs (i + 4).toNatClampNeg) (xs (i + 5).toNatClampNeg) = some (r, h1)) (hG : f_Mod_feed N h1 (xs (i + 1).toNatClampNeg) (xs (i + 2).toNatClampNeg) (xs (i + 3).toNatClampNeg) (xs (i + 4).toNatClampNeg) (xs (i + 5).toNatClampNeg) = some (r, h2)) (k : aG X m_law room_1 lwA (lwE b L xs) cs ss (fun _ : Unit => Q) (some ()) 1638 [(0, .ref b), (1, .ref (xa X 0)), (2, .ref (xa X 51)), (3, .ref (xa X 79)), (4, .int i)] [] h2) : aG X m_law room_1 lwA (lwE b L xs) cs ss (fun _ : Unit => Q) (some ()) 220 [(0, .ref b), (1, .ref (xa X 0)), (2, .ref (xa X 51)), (3, .ref (xa X 79)), (4, .int i)] [] h := by
  refine ro_aload_n (pc := 220) 1 dL_law_220 rfl rfl ?_
  refine ro_aload_n (pc := 221) 0 dL_law_221 rfl rfl ?_
  refine ro_iload (pc := 222) 4 dL_law_222 rfl ?_
  refine ro_iconst (v := 1) (pc := 224) dL_law_224 (by decide) ?_
  refine ro_iadd (pc := 225) dL_law_225 ?_
  refine ao_sld (pc := 226) hx1 dL_law_226 ?_
  refine ro_aload_n (pc := 227) 0 dL_law_227 rfl rfl ?_
  refine ro_iload (pc := 228) 4 dL_law_228 rfl ?_
  refine ro_iconst (v := 2) (pc := 230) dL_law_230 (by decide) ?_
  refine ro_iadd (pc := 231) dL_law_231 ?_
  refine ao_sld (pc := 232) hx2 dL_law_232 ?_
  refine ro_aload_n (pc := 233) 0 dL_law_233 rfl rfl ?_
  refine ro_iload (pc := 234) 4 dL_law_234 rfl ?_
  refine ro_iconst (v := 3) (pc := 236) dL_law_236 (by decide) ?_
  refine ro_iadd (pc := 237) dL_law_237 ?_
  refine ao_sld (pc := 238) hx3 dL_law_238 ?_
  refine ro_aload_n (pc := 239) 0 dL_law_239 rfl rfl ?_
  refine ro_iload (pc := 240) 4 dL_law_240 rfl ?_
  refine ro_iconst (v := 4) (pc := 242) dL_law_242 (by decide) ?_
  refine ro_iadd (pc := 243) dL_law_243 ?_
  refine ao_sld (pc := 244) hx4 dL_law_244 ?_
  refine ro_aload_n (pc := 245) 0 dL_law_245 rfl rfl ?_
  refine ro_iload (pc := 246) 4 dL_law_246 rfl ?_
  refine ro_iconst (v := 5) (pc := 248) dL_law_248 (by decide) ?_
  refine ro_iadd (pc := 249) dL_law_249 ?_
  refine ao_sld (pc := 250) hx5 dL_law_250 ?_
  refine ao_cv (pc := 251) (kc := 2) (avs := [.int (xs (i + 1).toNatClampNeg), .int (xs (i + 2).toNatClampNeg), .int (xs (i + 3).toNatClampNeg), .int (xs (i + 4).toNatClampNeg), .int (xs (i + 5).toNatClampNeg)]) (st := []) ok_Owe_feed wd_384 cl_0 cv_0 rfl ⟨by decide, by decide⟩ hcs (c_Owe_feed X N h (xs (i + 1).toNatClampNeg) (xs (i + 2).toNatClampNeg) (xs (i + 3).toNatClampNeg) (xs (i + 4).toNatClampNeg) (xs (i + 5).toNatClampNeg) (r, h1) hF) rfl rfl (Nat.le_of_ble_eq_true rfl) dL_law_251 ?_
  refine ro_aload_n (pc := 254) 2 dL_law_254 rfl rfl ?_
  refine ro_aload_n (pc := 255) 0 dL_law_255 rfl rfl ?_
  refine ro_iload (pc := 256) 4 dL_law_256 rfl ?_
  refine ro_iconst (v := 1) (pc := 258) dL_law_258 (by decide) ?_
  refine ro_iadd (pc := 259) dL_law_259 ?_
  refine ao_sld (pc := 260) hx1 dL_law_260 ?_
  refine ro_aload_n (pc := 261) 0 dL_law_261 rfl rfl ?_
  refine ro_iload (pc := 262) 4 dL_law_262 rfl ?_
  refine ro_iconst (v := 2) (pc := 264) dL_law_264 (by decide) ?_
  refine ro_iadd (pc := 265) dL_law_265 ?_
  refine ao_sld (pc := 266) hx2 dL_law_266 ?_
  refine ro_aload_n (pc := 267) 0 dL_law_267 rfl rfl ?_
  refine ro_iload (pc := 268) 4 dL_law_268 rfl ?_
  refine ro_iconst (v := 3) (pc := 270) dL_law_270 (by decide) ?_
  refine ro_iadd (pc := 271) dL_law_271 ?_
  refine ao_sld (pc := 272) hx3 dL_law_272 ?_
  refine ro_aload_n (pc := 273) 0 dL_law_273 rfl rfl ?_
  refine ro_iload (pc := 274) 4 dL_law_274 rfl ?_
  refine ro_iconst (v := 4) (pc := 276) dL_law_276 (by decide) ?_
  refine ro_iadd (pc := 277) dL_law_277 ?_
  refine ao_sld (pc := 278) hx4 dL_law_278 ?_
  refine ro_aload_n (pc := 279) 0 dL_law_279 rfl rfl ?_
  refine ro_iload (pc := 280) 4 dL_law_280 rfl ?_
  refine ro_iconst (v := 5) (pc := 282) dL_law_282 (by decide) ?_
  refine ro_iadd (pc := 283) dL_law_283 ?_
  refine ao_sld (pc := 284) hx5 dL_law_284 ?_
  refine ao_cv (pc := 285) (kc := 2) (avs := [.int (xs (i + 1).toNatClampNeg), .int (xs (i + 2).toNatClampNeg), .int (xs (i + 3).toNatClampNeg), .int (xs (i + 4).toNatClampNeg), .int (xs (i + 5).toNatClampNeg)]) (st := [.int r]) ok_Mod_feed wd_1466 cl_51 cv_51 rfl ⟨by decide, by decide⟩ hcs (c_Mod_feed X N h1 (xs (i + 1).toNatClampNeg) (xs (i + 2).toNatClampNeg) (xs (i + 3).toNatClampNeg) (xs (i + 4).toNatClampNeg) (xs (i + 5).toNatClampNeg) (r, h2) hG) rfl rfl (Nat.le_of_ble_eq_true rfl) dL_law_285 ?_
  refine ao_icmp_eq_t (tgt := 1638) (pc := 288) dL_law_288 (by decide) rfl ?_
  exact k
theorem lc_1 {X : mu_X} {b L : Nat} {xs : Nat → Int32} {cs ss N : Nat} {Q : mu_Q} {i r : Int32} {h h1 h2 : mu_H} (hcs : cs ≤ room_1.cells ∧ ss ≤ room_1.slots) (hx1 : ix (i + 1) L = true) (hx2 : ix (i + 2) L = true) (hx3 : ix (i + 3) L = true) (hx4 : ix (i + 4) L = true) (hx5 : ix (i + 5) L = true) (hx6 : ix (i + 6) L = true) (hF : f_Owe_end N h (xs (i + 1).toNatClampNeg) = some (r, h1)) (hG : f_Mod_end N h1 (xs (i + 1).toNatClampNeg) = some (r, h2)) (k : aG X m_law room_1 lwA (lwE b L xs) cs ss (fun _ : Unit => Q) (some ()) 1638 [(0, .ref b), (1, .ref (xa X 0)), (2, .ref (xa X 51)), (3, .ref (xa X 79)), (4, .int i)] [] h2) : aG X m_law room_1 lwA (lwE b L xs) cs ss (fun _ : Unit => Q) (some ()) 293 [(0, .ref b), (1, .ref (xa X 0)), (2, .ref (xa X 51)), (3, .ref (xa X 79)), (4, .int i)] [] h := by
  refine ro_aload_n (pc := 293) 1 dL_law_293 rfl rfl ?_
  refine ro_aload_n (pc := 294) 0 dL_law_294 rfl rfl ?_
  refine ro_iload (pc := 295) 4 dL_law_295 rfl ?_
  refine ro_iconst (v := 1) (pc := 297) dL_law_297 (by decide) ?_
  refine ro_iadd (pc := 298) dL_law_298 ?_
  refine ao_sld (pc := 299) hx1 dL_law_299 ?_
  refine ao_cv (pc := 300) (kc := 2) (avs := [.int (xs (i + 1).toNatClampNeg)]) (st := []) ok_Owe_end wd_399 cl_0 cv_0 rfl ⟨by decide, by decide⟩ hcs (c_Owe_end X N h (xs (i + 1).toNatClampNeg) (r, h1) hF) rfl rfl (Nat.le_of_ble_eq_true rfl) dL_law_300 ?_
  refine ro_aload_n (pc := 303) 2 dL_law_303 rfl rfl ?_
  refine ro_aload_n (pc := 304) 0 dL_law_304 rfl rfl ?_
  refine ro_iload (pc := 305) 4 dL_law_305 rfl ?_
  refine ro_iconst (v := 1) (pc := 307) dL_law_307 (by decide) ?_
  refine ro_iadd (pc := 308) dL_law_308 ?_
  refine ao_sld (pc := 309) hx1 dL_law_309 ?_
  refine ao_cv (pc := 310) (kc := 1) (avs := [.int (xs (i + 1).toNatClampNeg)]) (st := [.int r]) ok_Mod_end wd_1473 cl_51 cv_51 rfl ⟨by decide, by decide⟩ hcs (c_Mod_end X N h1 (xs (i + 1).toNatClampNeg) (r, h2) hG) rfl rfl (Nat.le_of_ble_eq_true rfl) dL_law_310 ?_
  refine ao_icmp_eq_t (tgt := 1638) (pc := 313) dL_law_313 (by decide) rfl ?_
  exact k
theorem lc_2 {X : mu_X} {b L : Nat} {xs : Nat → Int32} {cs ss N : Nat} {Q : mu_Q} {i r : Int32} {h h1 h2 : mu_H} (hcs : cs ≤ room_1.cells ∧ ss ≤ room_1.slots) (hx1 : ix (i + 1) L = true) (hx2 : ix (i + 2) L = true) (hx3 : ix (i + 3) L = true) (hx4 : ix (i + 4) L = true) (hx5 : ix (i + 5) L = true) (hx6 : ix (i + 6) L = true) (hF : f_Owe_fault N h (xs (i + 1).toNatClampNeg) = some (r, h1)) (hG : f_Mod_fault N h1 (xs (i + 1).toNatClampNeg) = some (r, h2)) (k : aG X m_law room_1 lwA (lwE b L xs) cs ss (fun _ : Unit => Q) (some ()) 1638 [(0, .ref b), (1, .ref (xa X 0)), (2, .ref (xa X 51)), (3, .ref (xa X 79)), (4, .int i)] [] h2) : aG X m_law room_1 lwA (lwE b L xs) cs ss (fun _ : Unit => Q) (some ()) 318 [(0, .ref b), (1, .ref (xa X 0)), (2, .ref (xa X 51)), (3, .ref (xa X 79)), (4, .int i)] [] h := by
  refine ro_aload_n (pc := 318) 1 dL_law_318 rfl rfl ?_
  refine ro_aload_n (pc := 319) 0 dL_law_319 rfl rfl ?_
  refine ro_iload (pc := 320) 4 dL_law_320 rfl ?_
  refine ro_iconst (v := 1) (pc := 322) dL_law_322 (by decide) ?_
  refine ro_iadd (pc := 323) dL_law_323 ?_
  refine ao_sld (pc := 324) hx1 dL_law_324 ?_
  refine ao_cv (pc := 325) (kc := 68) (avs := [.int (xs (i + 1).toNatClampNeg)]) (st := []) ok_Owe_fault wd_407 cl_0 cv_0 rfl ⟨by decide, by decide⟩ hcs (c_Owe_fault X N h (xs (i + 1).toNatClampNeg) (r, h1) hF) rfl rfl (Nat.le_of_ble_eq_true rfl) dL_law_325 ?_
  refine ro_aload_n (pc := 328) 2 dL_law_328 rfl rfl ?_
  refine ro_aload_n (pc := 329) 0 dL_law_329 rfl rfl ?_
  refine ro_iload (pc := 330) 4 dL_law_330 rfl ?_
  refine ro_iconst (v := 1) (pc := 332) dL_law_332 (by decide) ?_
  refine ro_iadd (pc := 333) dL_law_333 ?_
  refine ao_sld (pc := 334) hx1 dL_law_334 ?_
  refine ao_cv (pc := 335) (kc := 80) (avs := [.int (xs (i + 1).toNatClampNeg)]) (st := [.int r]) ok_Mod_fault wd_1477 cl_51 cv_51 rfl ⟨by decide, by decide⟩ hcs (c_Mod_fault X N h1 (xs (i + 1).toNatClampNeg) (r, h2) hG) rfl rfl (Nat.le_of_ble_eq_true rfl) dL_law_335 ?_
  refine ao_icmp_eq_t (tgt := 1638) (pc := 338) dL_law_338 (by decide) rfl ?_
  exact k
theorem lc_3 {X : mu_X} {b L : Nat} {xs : Nat → Int32} {cs ss N : Nat} {Q : mu_Q} {i r : Int32} {h h1 h2 : mu_H} (hcs : cs ≤ room_1.cells ∧ ss ≤ room_1.slots) (hx1 : ix (i + 1) L = true) (hx2 : ix (i + 2) L = true) (hx3 : ix (i + 3) L = true) (hx4 : ix (i + 4) L = true) (hx5 : ix (i + 5) L = true) (hx6 : ix (i + 6) L = true) (hF : f_Owe_text N h (xs (i + 1).toNatClampNeg) = some (r, h1)) (hG : f_Mod_text N h1 (xs (i + 1).toNatClampNeg) = some (r, h2)) (k : aG X m_law room_1 lwA (lwE b L xs) cs ss (fun _ : Unit => Q) (some ()) 1638 [(0, .ref b), (1, .ref (xa X 0)), (2, .ref (xa X 51)), (3, .ref (xa X 79)), (4, .int i)] [] h2) : aG X m_law room_1 lwA (lwE b L xs) cs ss (fun _ : Unit => Q) (some ()) 343 [(0, .ref b), (1, .ref (xa X 0)), (2, .ref (xa X 51)), (3, .ref (xa X 79)), (4, .int i)] [] h := by
  refine ro_aload_n (pc := 343) 1 dL_law_343 rfl rfl ?_
  refine ro_aload_n (pc := 344) 0 dL_law_344 rfl rfl ?_
  refine ro_iload (pc := 345) 4 dL_law_345 rfl ?_
  refine ro_iconst (v := 1) (pc := 347) dL_law_347 (by decide) ?_
  refine ro_iadd (pc := 348) dL_law_348 ?_
  refine ao_sld (pc := 349) hx1 dL_law_349 ?_
  refine ao_cv (pc := 350) (kc := 68) (avs := [.int (xs (i + 1).toNatClampNeg)]) (st := []) ok_Owe_text wd_565 cl_0 cv_0 rfl ⟨by decide, by decide⟩ hcs (c_Owe_text X N h (xs (i + 1).toNatClampNeg) (r, h1) hF) rfl rfl (Nat.le_of_ble_eq_true rfl) dL_law_350 ?_
  refine ro_aload_n (pc := 353) 2 dL_law_353 rfl rfl ?_
  refine ro_aload_n (pc := 354) 0 dL_law_354 rfl rfl ?_
  refine ro_iload (pc := 355) 4 dL_law_355 rfl ?_
  refine ro_iconst (v := 1) (pc := 357) dL_law_357 (by decide) ?_
  refine ro_iadd (pc := 358) dL_law_358 ?_
  refine ao_sld (pc := 359) hx1 dL_law_359 ?_
  refine ao_cv (pc := 360) (kc := 80) (avs := [.int (xs (i + 1).toNatClampNeg)]) (st := [.int r]) ok_Mod_text wd_1600 cl_51 cv_51 rfl ⟨by decide, by decide⟩ hcs (c_Mod_text X N h1 (xs (i + 1).toNatClampNeg) (r, h2) hG) rfl rfl (Nat.le_of_ble_eq_true rfl) dL_law_360 ?_
  refine ao_icmp_eq_t (tgt := 1638) (pc := 363) dL_law_363 (by decide) rfl ?_
  exact k
theorem lc_4 {X : mu_X} {b L : Nat} {xs : Nat → Int32} {cs ss N : Nat} {Q : mu_Q} {i r : Int32} {h : mu_H} (hcs : cs ≤ room_1.cells ∧ ss ≤ room_1.slots) (hx1 : ix (i + 1) L = true) (hx2 : ix (i + 2) L = true) (hx3 : ix (i + 3) L = true) (hx4 : ix (i + 4) L = true) (hx5 : ix (i + 5) L = true) (hx6 : ix (i + 6) L = true) (hF : f_Owe_rule N h (xs (i + 1).toNatClampNeg) = some r) (hG : f_Mod_rule N h (xs (i + 1).toNatClampNeg) = some r) (k : aG X m_law room_1 lwA (lwE b L xs) cs ss (fun _ : Unit => Q) (some ()) 1638 [(0, .ref b), (1, .ref (xa X 0)), (2, .ref (xa X 51)), (3, .ref (xa X 79)), (4, .int i)] [] h) : aG X m_law room_1 lwA (lwE b L xs) cs ss (fun _ : Unit => Q) (some ()) 368 [(0, .ref b), (1, .ref (xa X 0)), (2, .ref (xa X 51)), (3, .ref (xa X 79)), (4, .int i)] [] h := by
  refine ro_aload_n (pc := 368) 1 dL_law_368 rfl rfl ?_
  refine ro_aload_n (pc := 369) 0 dL_law_369 rfl rfl ?_
  refine ro_iload (pc := 370) 4 dL_law_370 rfl ?_
  refine ro_iconst (v := 1) (pc := 372) dL_law_372 (by decide) ?_
  refine ro_iadd (pc := 373) dL_law_373 ?_
  refine ao_sld (pc := 374) hx1 dL_law_374 ?_
  refine ao_cv (pc := 375) (kc := 2) (avs := [.int (xs (i + 1).toNatClampNeg)]) (st := []) ok_Owe_rule wd_633 cl_0 cv_0 rfl ⟨by decide, by decide⟩ hcs (c_Owe_rule X N h (xs (i + 1).toNatClampNeg) r hF) rfl rfl (Nat.le_of_ble_eq_true rfl) dL_law_375 ?_
  refine ro_aload_n (pc := 378) 2 dL_law_378 rfl rfl ?_
  refine ro_aload_n (pc := 379) 0 dL_law_379 rfl rfl ?_
  refine ro_iload (pc := 380) 4 dL_law_380 rfl ?_
  refine ro_iconst (v := 1) (pc := 382) dL_law_382 (by decide) ?_
  refine ro_iadd (pc := 383) dL_law_383 ?_
  refine ao_sld (pc := 384) hx1 dL_law_384 ?_
  refine ao_cv (pc := 385) (kc := 2) (avs := [.int (xs (i + 1).toNatClampNeg)]) (st := [.int r]) ok_Mod_rule wd_1618 cl_51 cv_51 rfl ⟨by decide, by decide⟩ hcs (c_Mod_rule X N h (xs (i + 1).toNatClampNeg) r hG) rfl rfl (Nat.le_of_ble_eq_true rfl) dL_law_385 ?_
  refine ao_icmp_eq_t (tgt := 1638) (pc := 388) dL_law_388 (by decide) rfl ?_
  exact k
theorem lc_5 {X : mu_X} {b L : Nat} {xs : Nat → Int32} {cs ss N : Nat} {Q : mu_Q} {i r : Int32} {h : mu_H} (hcs : cs ≤ room_1.cells ∧ ss ≤ room_1.slots) (hx1 : ix (i + 1) L = true) (hx2 : ix (i + 2) L = true) (hx3 : ix (i + 3) L = true) (hx4 : ix (i + 4) L = true) (hx5 : ix (i + 5) L = true) (hx6 : ix (i + 6) L = true) (hF : f_Owe_stretch N h (xs (i + 1).toNatClampNeg) (xs (i + 2).toNatClampNeg) = some r) (hG : f_Mod_stretch N h (xs (i + 1).toNatClampNeg) (xs (i + 2).toNatClampNeg) = some r) (k : aG X m_law room_1 lwA (lwE b L xs) cs ss (fun _ : Unit => Q) (some ()) 1638 [(0, .ref b), (1, .ref (xa X 0)), (2, .ref (xa X 51)), (3, .ref (xa X 79)), (4, .int i)] [] h) : aG X m_law room_1 lwA (lwE b L xs) cs ss (fun _ : Unit => Q) (some ()) 393 [(0, .ref b), (1, .ref (xa X 0)), (2, .ref (xa X 51)), (3, .ref (xa X 79)), (4, .int i)] [] h := by
  refine ro_aload_n (pc := 393) 1 dL_law_393 rfl rfl ?_
  refine ro_aload_n (pc := 394) 0 dL_law_394 rfl rfl ?_
  refine ro_iload (pc := 395) 4 dL_law_395 rfl ?_
  refine ro_iconst (v := 1) (pc := 397) dL_law_397 (by decide) ?_
  refine ro_iadd (pc := 398) dL_law_398 ?_
  refine ao_sld (pc := 399) hx1 dL_law_399 ?_
  refine ro_aload_n (pc := 400) 0 dL_law_400 rfl rfl ?_
  refine ro_iload (pc := 401) 4 dL_law_401 rfl ?_
  refine ro_iconst (v := 2) (pc := 403) dL_law_403 (by decide) ?_
  refine ro_iadd (pc := 404) dL_law_404 ?_
  refine ao_sld (pc := 405) hx2 dL_law_405 ?_
  refine ao_cv (pc := 406) (kc := 2) (avs := [.int (xs (i + 1).toNatClampNeg), .int (xs (i + 2).toNatClampNeg)]) (st := []) ok_Owe_stretch wd_642 cl_0 cv_0 rfl ⟨by decide, by decide⟩ hcs (c_Owe_stretch X N h (xs (i + 1).toNatClampNeg) (xs (i + 2).toNatClampNeg) r hF) rfl rfl (Nat.le_of_ble_eq_true rfl) dL_law_406 ?_
  refine ro_aload_n (pc := 409) 2 dL_law_409 rfl rfl ?_
  refine ro_aload_n (pc := 410) 0 dL_law_410 rfl rfl ?_
  refine ro_iload (pc := 411) 4 dL_law_411 rfl ?_
  refine ro_iconst (v := 1) (pc := 413) dL_law_413 (by decide) ?_
  refine ro_iadd (pc := 414) dL_law_414 ?_
  refine ao_sld (pc := 415) hx1 dL_law_415 ?_
  refine ro_aload_n (pc := 416) 0 dL_law_416 rfl rfl ?_
  refine ro_iload (pc := 417) 4 dL_law_417 rfl ?_
  refine ro_iconst (v := 2) (pc := 419) dL_law_419 (by decide) ?_
  refine ro_iadd (pc := 420) dL_law_420 ?_
  refine ao_sld (pc := 421) hx2 dL_law_421 ?_
  refine ao_cv (pc := 422) (kc := 3) (avs := [.int (xs (i + 1).toNatClampNeg), .int (xs (i + 2).toNatClampNeg)]) (st := [.int r]) ok_Mod_stretch wd_1622 cl_51 cv_51 rfl ⟨by decide, by decide⟩ hcs (c_Mod_stretch X N h (xs (i + 1).toNatClampNeg) (xs (i + 2).toNatClampNeg) r hG) rfl rfl (Nat.le_of_ble_eq_true rfl) dL_law_422 ?_
  refine ao_icmp_eq_t (tgt := 1638) (pc := 425) dL_law_425 (by decide) rfl ?_
  exact k
theorem lc_7 {X : mu_X} {b L : Nat} {xs : Nat → Int32} {cs ss N : Nat} {Q : mu_Q} {i r : Int32} {h h1 h2 : mu_H} (hcs : cs ≤ room_1.cells ∧ ss ≤ room_1.slots) (hx1 : ix (i + 1) L = true) (hx2 : ix (i + 2) L = true) (hx3 : ix (i + 3) L = true) (hx4 : ix (i + 4) L = true) (hx5 : ix (i + 5) L = true) (hx6 : ix (i + 6) L = true) (hF : f_Owe_law N h (xs (i + 1).toNatClampNeg) = some (r, h1)) (hG : f_Mod_law N h1 (xs (i + 1).toNatClampNeg) = some (r, h2)) (k : aG X m_law room_1 lwA (lwE b L xs) cs ss (fun _ : Unit => Q) (some ()) 1638 [(0, .ref b), (1, .ref (xa X 0)), (2, .ref (xa X 51)), (3, .ref (xa X 79)), (4, .int i)] [] h2) : aG X m_law room_1 lwA (lwE b L xs) cs ss (fun _ : Unit => Q) (some ()) 498 [(0, .ref b), (1, .ref (xa X 0)), (2, .ref (xa X 51)), (3, .ref (xa X 79)), (4, .int i)] [] h := by
  refine ro_aload_n (pc := 498) 1 dL_law_498 rfl rfl ?_
  refine ro_aload_n (pc := 499) 0 dL_law_499 rfl rfl ?_
  refine ro_iload (pc := 500) 4 dL_law_500 rfl ?_
  refine ro_iconst (v := 1) (pc := 502) dL_law_502 (by decide) ?_
  refine ro_iadd (pc := 503) dL_law_503 ?_
  refine ao_sld (pc := 504) hx1 dL_law_504 ?_
  refine ao_cv (pc := 505) (kc := 2) (avs := [.int (xs (i + 1).toNatClampNeg)]) (st := []) ok_Owe_law wd_659 cl_0 cv_0 rfl ⟨by decide, by decide⟩ hcs (c_Owe_law X N h (xs (i + 1).toNatClampNeg) (r, h1) hF) rfl rfl (Nat.le_of_ble_eq_true rfl) dL_law_505 ?_
  refine ro_aload_n (pc := 508) 2 dL_law_508 rfl rfl ?_
  refine ro_aload_n (pc := 509) 0 dL_law_509 rfl rfl ?_
  refine ro_iload (pc := 510) 4 dL_law_510 rfl ?_
  refine ro_iconst (v := 1) (pc := 512) dL_law_512 (by decide) ?_
  refine ro_iadd (pc := 513) dL_law_513 ?_
  refine ao_sld (pc := 514) hx1 dL_law_514 ?_
  refine ao_cv (pc := 515) (kc := 2) (avs := [.int (xs (i + 1).toNatClampNeg)]) (st := [.int r]) ok_Mod_law wd_1642 cl_51 cv_51 rfl ⟨by decide, by decide⟩ hcs (c_Mod_law X N h1 (xs (i + 1).toNatClampNeg) (r, h2) hG) rfl rfl (Nat.le_of_ble_eq_true rfl) dL_law_515 ?_
  refine ao_icmp_eq_t (tgt := 1638) (pc := 518) dL_law_518 (by decide) rfl ?_
  exact k
theorem lc_8 {X : mu_X} {b L : Nat} {xs : Nat → Int32} {cs ss N : Nat} {Q : mu_Q} {i r : Int32} {h : mu_H} (hcs : cs ≤ room_1.cells ∧ ss ≤ room_1.slots) (hx1 : ix (i + 1) L = true) (hx2 : ix (i + 2) L = true) (hx3 : ix (i + 3) L = true) (hx4 : ix (i + 4) L = true) (hx5 : ix (i + 5) L = true) (hx6 : ix (i + 6) L = true) (hF : f_Owe_haul N h (xs (i + 1).toNatClampNeg) (xs (i + 2).toNatClampNeg) = some r) (hG : f_Mod_haul N h (xs (i + 1).toNatClampNeg) (xs (i + 2).toNatClampNeg) = some r) (k : aG X m_law room_1 lwA (lwE b L xs) cs ss (fun _ : Unit => Q) (some ()) 1638 [(0, .ref b), (1, .ref (xa X 0)), (2, .ref (xa X 51)), (3, .ref (xa X 79)), (4, .int i)] [] h) : aG X m_law room_1 lwA (lwE b L xs) cs ss (fun _ : Unit => Q) (some ()) 523 [(0, .ref b), (1, .ref (xa X 0)), (2, .ref (xa X 51)), (3, .ref (xa X 79)), (4, .int i)] [] h := by
  refine ro_aload_n (pc := 523) 1 dL_law_523 rfl rfl ?_
  refine ro_aload_n (pc := 524) 0 dL_law_524 rfl rfl ?_
  refine ro_iload (pc := 525) 4 dL_law_525 rfl ?_
  refine ro_iconst (v := 1) (pc := 527) dL_law_527 (by decide) ?_
  refine ro_iadd (pc := 528) dL_law_528 ?_
  refine ao_sld (pc := 529) hx1 dL_law_529 ?_
  refine ro_aload_n (pc := 530) 0 dL_law_530 rfl rfl ?_
  refine ro_iload (pc := 531) 4 dL_law_531 rfl ?_
  refine ro_iconst (v := 2) (pc := 533) dL_law_533 (by decide) ?_
  refine ro_iadd (pc := 534) dL_law_534 ?_
  refine ao_sld (pc := 535) hx2 dL_law_535 ?_
  refine ao_cv (pc := 536) (kc := 3) (avs := [.int (xs (i + 1).toNatClampNeg), .int (xs (i + 2).toNatClampNeg)]) (st := []) ok_Owe_haul wd_667 cl_0 cv_0 rfl ⟨by decide, by decide⟩ hcs (c_Owe_haul X N h (xs (i + 1).toNatClampNeg) (xs (i + 2).toNatClampNeg) r hF) rfl rfl (Nat.le_of_ble_eq_true rfl) dL_law_536 ?_
  refine ro_aload_n (pc := 539) 2 dL_law_539 rfl rfl ?_
  refine ro_aload_n (pc := 540) 0 dL_law_540 rfl rfl ?_
  refine ro_iload (pc := 541) 4 dL_law_541 rfl ?_
  refine ro_iconst (v := 1) (pc := 543) dL_law_543 (by decide) ?_
  refine ro_iadd (pc := 544) dL_law_544 ?_
  refine ao_sld (pc := 545) hx1 dL_law_545 ?_
  refine ro_aload_n (pc := 546) 0 dL_law_546 rfl rfl ?_
  refine ro_iload (pc := 547) 4 dL_law_547 rfl ?_
  refine ro_iconst (v := 2) (pc := 549) dL_law_549 (by decide) ?_
  refine ro_iadd (pc := 550) dL_law_550 ?_
  refine ao_sld (pc := 551) hx2 dL_law_551 ?_
  refine ao_cv (pc := 552) (kc := 4) (avs := [.int (xs (i + 1).toNatClampNeg), .int (xs (i + 2).toNatClampNeg)]) (st := [.int r]) ok_Mod_haul wd_1646 cl_51 cv_51 rfl ⟨by decide, by decide⟩ hcs (c_Mod_haul X N h (xs (i + 1).toNatClampNeg) (xs (i + 2).toNatClampNeg) r hG) rfl rfl (Nat.le_of_ble_eq_true rfl) dL_law_552 ?_
  refine ao_icmp_eq_t (tgt := 1638) (pc := 555) dL_law_555 (by decide) rfl ?_
  exact k
theorem lc_9 {X : mu_X} {b L : Nat} {xs : Nat → Int32} {cs ss N : Nat} {Q : mu_Q} {i r : Int32} {h h1 h2 : mu_H} (hcs : cs ≤ room_1.cells ∧ ss ≤ room_1.slots) (hx1 : ix (i + 1) L = true) (hx2 : ix (i + 2) L = true) (hx3 : ix (i + 3) L = true) (hx4 : ix (i + 4) L = true) (hx5 : ix (i + 5) L = true) (hx6 : ix (i + 6) L = true) (hF : f_Owe_does N h (xs (i + 1).toNatClampNeg) (xs (i + 2).toNatClampNeg) (xs (i + 3).toNatClampNeg) = some (r, h1)) (hG : f_Mod_does N h1 (xs (i + 1).toNatClampNeg) (xs (i + 2).toNatClampNeg) (xs (i + 3).toNatClampNeg) = some (r, h2)) (k : aG X m_law room_1 lwA (lwE b L xs) cs ss (fun _ : Unit => Q) (some ()) 1638 [(0, .ref b), (1, .ref (xa X 0)), (2, .ref (xa X 51)), (3, .ref (xa X 79)), (4, .int i)] [] h2) : aG X m_law room_1 lwA (lwE b L xs) cs ss (fun _ : Unit => Q) (some ()) 560 [(0, .ref b), (1, .ref (xa X 0)), (2, .ref (xa X 51)), (3, .ref (xa X 79)), (4, .int i)] [] h := by
  refine ro_aload_n (pc := 560) 1 dL_law_560 rfl rfl ?_
  refine ro_aload_n (pc := 561) 0 dL_law_561 rfl rfl ?_
  refine ro_iload (pc := 562) 4 dL_law_562 rfl ?_
  refine ro_iconst (v := 1) (pc := 564) dL_law_564 (by decide) ?_
  refine ro_iadd (pc := 565) dL_law_565 ?_
  refine ao_sld (pc := 566) hx1 dL_law_566 ?_
  refine ro_aload_n (pc := 567) 0 dL_law_567 rfl rfl ?_
  refine ro_iload (pc := 568) 4 dL_law_568 rfl ?_
  refine ro_iconst (v := 2) (pc := 570) dL_law_570 (by decide) ?_
  refine ro_iadd (pc := 571) dL_law_571 ?_
  refine ao_sld (pc := 572) hx2 dL_law_572 ?_
  refine ro_aload_n (pc := 573) 0 dL_law_573 rfl rfl ?_
  refine ro_iload (pc := 574) 4 dL_law_574 rfl ?_
  refine ro_iconst (v := 3) (pc := 576) dL_law_576 (by decide) ?_
  refine ro_iadd (pc := 577) dL_law_577 ?_
  refine ao_sld (pc := 578) hx3 dL_law_578 ?_
  refine ao_cv (pc := 579) (kc := 6) (avs := [.int (xs (i + 1).toNatClampNeg), .int (xs (i + 2).toNatClampNeg), .int (xs (i + 3).toNatClampNeg)]) (st := []) ok_Owe_does wd_683 cl_0 cv_0 rfl ⟨by decide, by decide⟩ hcs (c_Owe_does X N h (xs (i + 1).toNatClampNeg) (xs (i + 2).toNatClampNeg) (xs (i + 3).toNatClampNeg) (r, h1) hF) rfl rfl (Nat.le_of_ble_eq_true rfl) dL_law_579 ?_
  refine ro_aload_n (pc := 582) 2 dL_law_582 rfl rfl ?_
  refine ro_aload_n (pc := 583) 0 dL_law_583 rfl rfl ?_
  refine ro_iload (pc := 584) 4 dL_law_584 rfl ?_
  refine ro_iconst (v := 1) (pc := 586) dL_law_586 (by decide) ?_
  refine ro_iadd (pc := 587) dL_law_587 ?_
  refine ao_sld (pc := 588) hx1 dL_law_588 ?_
  refine ro_aload_n (pc := 589) 0 dL_law_589 rfl rfl ?_
  refine ro_iload (pc := 590) 4 dL_law_590 rfl ?_
  refine ro_iconst (v := 2) (pc := 592) dL_law_592 (by decide) ?_
  refine ro_iadd (pc := 593) dL_law_593 ?_
  refine ao_sld (pc := 594) hx2 dL_law_594 ?_
  refine ro_aload_n (pc := 595) 0 dL_law_595 rfl rfl ?_
  refine ro_iload (pc := 596) 4 dL_law_596 rfl ?_
  refine ro_iconst (v := 3) (pc := 598) dL_law_598 (by decide) ?_
  refine ro_iadd (pc := 599) dL_law_599 ?_
  refine ao_sld (pc := 600) hx3 dL_law_600 ?_
  refine ao_cv (pc := 601) (kc := 8) (avs := [.int (xs (i + 1).toNatClampNeg), .int (xs (i + 2).toNatClampNeg), .int (xs (i + 3).toNatClampNeg)]) (st := [.int r]) ok_Mod_does wd_1658 cl_51 cv_51 rfl ⟨by decide, by decide⟩ hcs (c_Mod_does X N h1 (xs (i + 1).toNatClampNeg) (xs (i + 2).toNatClampNeg) (xs (i + 3).toNatClampNeg) (r, h2) hG) rfl rfl (Nat.le_of_ble_eq_true rfl) dL_law_601 ?_
  refine ao_icmp_eq_t (tgt := 1638) (pc := 604) dL_law_604 (by decide) rfl ?_
  exact k
theorem lc_10 {X : mu_X} {b L : Nat} {xs : Nat → Int32} {cs ss N : Nat} {Q : mu_Q} {i r : Int32} {h h1 h2 : mu_H} (hcs : cs ≤ room_1.cells ∧ ss ≤ room_1.slots) (hx1 : ix (i + 1) L = true) (hx2 : ix (i + 2) L = true) (hx3 : ix (i + 3) L = true) (hx4 : ix (i + 4) L = true) (hx5 : ix (i + 5) L = true) (hx6 : ix (i + 6) L = true) (hF : f_Owe_work N h (xs (i + 1).toNatClampNeg) (xs (i + 2).toNatClampNeg) (xs (i + 3).toNatClampNeg) = some (r, h1)) (hG : f_Mod_work N h1 (xs (i + 1).toNatClampNeg) (xs (i + 2).toNatClampNeg) (xs (i + 3).toNatClampNeg) = some (r, h2)) (k : aG X m_law room_1 lwA (lwE b L xs) cs ss (fun _ : Unit => Q) (some ()) 1638 [(0, .ref b), (1, .ref (xa X 0)), (2, .ref (xa X 51)), (3, .ref (xa X 79)), (4, .int i)] [] h2) : aG X m_law room_1 lwA (lwE b L xs) cs ss (fun _ : Unit => Q) (some ()) 609 [(0, .ref b), (1, .ref (xa X 0)), (2, .ref (xa X 51)), (3, .ref (xa X 79)), (4, .int i)] [] h := by
  refine ro_aload_n (pc := 609) 1 dL_law_609 rfl rfl ?_
  refine ro_aload_n (pc := 610) 0 dL_law_610 rfl rfl ?_
  refine ro_iload (pc := 611) 4 dL_law_611 rfl ?_
  refine ro_iconst (v := 1) (pc := 613) dL_law_613 (by decide) ?_
  refine ro_iadd (pc := 614) dL_law_614 ?_
  refine ao_sld (pc := 615) hx1 dL_law_615 ?_
  refine ro_aload_n (pc := 616) 0 dL_law_616 rfl rfl ?_
  refine ro_iload (pc := 617) 4 dL_law_617 rfl ?_
  refine ro_iconst (v := 2) (pc := 619) dL_law_619 (by decide) ?_
  refine ro_iadd (pc := 620) dL_law_620 ?_
  refine ao_sld (pc := 621) hx2 dL_law_621 ?_
  refine ro_aload_n (pc := 622) 0 dL_law_622 rfl rfl ?_
  refine ro_iload (pc := 623) 4 dL_law_623 rfl ?_
  refine ro_iconst (v := 3) (pc := 625) dL_law_625 (by decide) ?_
  refine ro_iadd (pc := 626) dL_law_626 ?_
  refine ao_sld (pc := 627) hx3 dL_law_627 ?_
  refine ao_cv (pc := 628) (kc := 7) (avs := [.int (xs (i + 1).toNatClampNeg), .int (xs (i + 2).toNatClampNeg), .int (xs (i + 3).toNatClampNeg)]) (st := []) ok_Owe_work wd_728 cl_0 cv_0 rfl ⟨by decide, by decide⟩ hcs (c_Owe_work X N h (xs (i + 1).toNatClampNeg) (xs (i + 2).toNatClampNeg) (xs (i + 3).toNatClampNeg) (r, h1) hF) rfl rfl (Nat.le_of_ble_eq_true rfl) dL_law_628 ?_
  refine ro_aload_n (pc := 631) 2 dL_law_631 rfl rfl ?_
  refine ro_aload_n (pc := 632) 0 dL_law_632 rfl rfl ?_
  refine ro_iload (pc := 633) 4 dL_law_633 rfl ?_
  refine ro_iconst (v := 1) (pc := 635) dL_law_635 (by decide) ?_
  refine ro_iadd (pc := 636) dL_law_636 ?_
  refine ao_sld (pc := 637) hx1 dL_law_637 ?_
  refine ro_aload_n (pc := 638) 0 dL_law_638 rfl rfl ?_
  refine ro_iload (pc := 639) 4 dL_law_639 rfl ?_
  refine ro_iconst (v := 2) (pc := 641) dL_law_641 (by decide) ?_
  refine ro_iadd (pc := 642) dL_law_642 ?_
  refine ao_sld (pc := 643) hx2 dL_law_643 ?_
  refine ro_aload_n (pc := 644) 0 dL_law_644 rfl rfl ?_
  refine ro_iload (pc := 645) 4 dL_law_645 rfl ?_
  refine ro_iconst (v := 3) (pc := 647) dL_law_647 (by decide) ?_
  refine ro_iadd (pc := 648) dL_law_648 ?_
  refine ao_sld (pc := 649) hx3 dL_law_649 ?_
  refine ao_cv (pc := 650) (kc := 9) (avs := [.int (xs (i + 1).toNatClampNeg), .int (xs (i + 2).toNatClampNeg), .int (xs (i + 3).toNatClampNeg)]) (st := [.int r]) ok_Mod_work wd_1697 cl_51 cv_51 rfl ⟨by decide, by decide⟩ hcs (c_Mod_work X N h1 (xs (i + 1).toNatClampNeg) (xs (i + 2).toNatClampNeg) (xs (i + 3).toNatClampNeg) (r, h2) hG) rfl rfl (Nat.le_of_ble_eq_true rfl) dL_law_650 ?_
  refine ao_icmp_eq_t (tgt := 1638) (pc := 653) dL_law_653 (by decide) rfl ?_
  exact k
theorem lc_11 {X : mu_X} {b L : Nat} {xs : Nat → Int32} {cs ss N : Nat} {Q : mu_Q} {i r : Int32} {h h1 h2 : mu_H} (hcs : cs ≤ room_1.cells ∧ ss ≤ room_1.slots) (hx1 : ix (i + 1) L = true) (hx2 : ix (i + 2) L = true) (hx3 : ix (i + 3) L = true) (hx4 : ix (i + 4) L = true) (hx5 : ix (i + 5) L = true) (hx6 : ix (i + 6) L = true) (hF : f_Owe_pay N h (xs (i + 1).toNatClampNeg) (xs (i + 2).toNatClampNeg) = some (r, h1)) (hG : f_Mod_pay N h1 (xs (i + 1).toNatClampNeg) (xs (i + 2).toNatClampNeg) = some (r, h2)) (k : aG X m_law room_1 lwA (lwE b L xs) cs ss (fun _ : Unit => Q) (some ()) 1638 [(0, .ref b), (1, .ref (xa X 0)), (2, .ref (xa X 51)), (3, .ref (xa X 79)), (4, .int i)] [] h2) : aG X m_law room_1 lwA (lwE b L xs) cs ss (fun _ : Unit => Q) (some ()) 658 [(0, .ref b), (1, .ref (xa X 0)), (2, .ref (xa X 51)), (3, .ref (xa X 79)), (4, .int i)] [] h := by
  refine ro_aload_n (pc := 658) 1 dL_law_658 rfl rfl ?_
  refine ro_aload_n (pc := 659) 0 dL_law_659 rfl rfl ?_
  refine ro_iload (pc := 660) 4 dL_law_660 rfl ?_
  refine ro_iconst (v := 1) (pc := 662) dL_law_662 (by decide) ?_
  refine ro_iadd (pc := 663) dL_law_663 ?_
  refine ao_sld (pc := 664) hx1 dL_law_664 ?_
  refine ro_aload_n (pc := 665) 0 dL_law_665 rfl rfl ?_
  refine ro_iload (pc := 666) 4 dL_law_666 rfl ?_
  refine ro_iconst (v := 2) (pc := 668) dL_law_668 (by decide) ?_
  refine ro_iadd (pc := 669) dL_law_669 ?_
  refine ao_sld (pc := 670) hx2 dL_law_670 ?_
  refine ao_cv (pc := 671) (kc := 3) (avs := [.int (xs (i + 1).toNatClampNeg), .int (xs (i + 2).toNatClampNeg)]) (st := []) ok_Owe_pay wd_773 cl_0 cv_0 rfl ⟨by decide, by decide⟩ hcs (c_Owe_pay X N h (xs (i + 1).toNatClampNeg) (xs (i + 2).toNatClampNeg) (r, h1) hF) rfl rfl (Nat.le_of_ble_eq_true rfl) dL_law_671 ?_
  refine ro_aload_n (pc := 674) 2 dL_law_674 rfl rfl ?_
  refine ro_aload_n (pc := 675) 0 dL_law_675 rfl rfl ?_
  refine ro_iload (pc := 676) 4 dL_law_676 rfl ?_
  refine ro_iconst (v := 1) (pc := 678) dL_law_678 (by decide) ?_
  refine ro_iadd (pc := 679) dL_law_679 ?_
  refine ao_sld (pc := 680) hx1 dL_law_680 ?_
  refine ro_aload_n (pc := 681) 0 dL_law_681 rfl rfl ?_
  refine ro_iload (pc := 682) 4 dL_law_682 rfl ?_
  refine ro_iconst (v := 2) (pc := 684) dL_law_684 (by decide) ?_
  refine ro_iadd (pc := 685) dL_law_685 ?_
  refine ao_sld (pc := 686) hx2 dL_law_686 ?_
  refine ao_cv (pc := 687) (kc := 3) (avs := [.int (xs (i + 1).toNatClampNeg), .int (xs (i + 2).toNatClampNeg)]) (st := [.int r]) ok_Mod_pay wd_1713 cl_51 cv_51 rfl ⟨by decide, by decide⟩ hcs (c_Mod_pay X N h1 (xs (i + 1).toNatClampNeg) (xs (i + 2).toNatClampNeg) (r, h2) hG) rfl rfl (Nat.le_of_ble_eq_true rfl) dL_law_687 ?_
  refine ao_icmp_eq_t (tgt := 1638) (pc := 690) dL_law_690 (by decide) rfl ?_
  exact k
theorem lc_12 {X : mu_X} {b L : Nat} {xs : Nat → Int32} {cs ss N : Nat} {Q : mu_Q} {i r : Int32} {h h1 h2 : mu_H} (hcs : cs ≤ room_1.cells ∧ ss ≤ room_1.slots) (hx1 : ix (i + 1) L = true) (hx2 : ix (i + 2) L = true) (hx3 : ix (i + 3) L = true) (hx4 : ix (i + 4) L = true) (hx5 : ix (i + 5) L = true) (hx6 : ix (i + 6) L = true) (hF : f_Owe_ditch N h (xs (i + 1).toNatClampNeg) = some (r, h1)) (hG : f_Mod_ditch N h1 (xs (i + 1).toNatClampNeg) = some (r, h2)) (k : aG X m_law room_1 lwA (lwE b L xs) cs ss (fun _ : Unit => Q) (some ()) 1638 [(0, .ref b), (1, .ref (xa X 0)), (2, .ref (xa X 51)), (3, .ref (xa X 79)), (4, .int i)] [] h2) : aG X m_law room_1 lwA (lwE b L xs) cs ss (fun _ : Unit => Q) (some ()) 695 [(0, .ref b), (1, .ref (xa X 0)), (2, .ref (xa X 51)), (3, .ref (xa X 79)), (4, .int i)] [] h := by
  refine ro_aload_n (pc := 695) 1 dL_law_695 rfl rfl ?_
  refine ro_aload_n (pc := 696) 0 dL_law_696 rfl rfl ?_
  refine ro_iload (pc := 697) 4 dL_law_697 rfl ?_
  refine ro_iconst (v := 1) (pc := 699) dL_law_699 (by decide) ?_
  refine ro_iadd (pc := 700) dL_law_700 ?_
  refine ao_sld (pc := 701) hx1 dL_law_701 ?_
  refine ao_cv (pc := 702) (kc := 4) (avs := [.int (xs (i + 1).toNatClampNeg)]) (st := []) ok_Owe_ditch wd_783 cl_0 cv_0 rfl ⟨by decide, by decide⟩ hcs (c_Owe_ditch X N h (xs (i + 1).toNatClampNeg) (r, h1) hF) rfl rfl (Nat.le_of_ble_eq_true rfl) dL_law_702 ?_
  refine ro_aload_n (pc := 705) 2 dL_law_705 rfl rfl ?_
  refine ro_aload_n (pc := 706) 0 dL_law_706 rfl rfl ?_
  refine ro_iload (pc := 707) 4 dL_law_707 rfl ?_
  refine ro_iconst (v := 1) (pc := 709) dL_law_709 (by decide) ?_
  refine ro_iadd (pc := 710) dL_law_710 ?_
  refine ao_sld (pc := 711) hx1 dL_law_711 ?_
  refine ao_cv (pc := 712) (kc := 3) (avs := [.int (xs (i + 1).toNatClampNeg)]) (st := [.int r]) ok_Mod_ditch wd_1717 cl_51 cv_51 rfl ⟨by decide, by decide⟩ hcs (c_Mod_ditch X N h1 (xs (i + 1).toNatClampNeg) (r, h2) hG) rfl rfl (Nat.le_of_ble_eq_true rfl) dL_law_712 ?_
  refine ao_icmp_eq_t (tgt := 1638) (pc := 715) dL_law_715 (by decide) rfl ?_
  exact k
theorem lc_13 {X : mu_X} {b L : Nat} {xs : Nat → Int32} {cs ss N : Nat} {Q : mu_Q} {i r : Int32} {h h1 h2 : mu_H} (hcs : cs ≤ room_1.cells ∧ ss ≤ room_1.slots) (hx1 : ix (i + 1) L = true) (hx2 : ix (i + 2) L = true) (hx3 : ix (i + 3) L = true) (hx4 : ix (i + 4) L = true) (hx5 : ix (i + 5) L = true) (hx6 : ix (i + 6) L = true) (hF : f_Owe_seasons N h (xs (i + 1).toNatClampNeg) = some (r, h1)) (hG : f_Mod_seasons N h1 (xs (i + 1).toNatClampNeg) = some (r, h2)) (k : aG X m_law room_1 lwA (lwE b L xs) cs ss (fun _ : Unit => Q) (some ()) 1638 [(0, .ref b), (1, .ref (xa X 0)), (2, .ref (xa X 51)), (3, .ref (xa X 79)), (4, .int i)] [] h2) : aG X m_law room_1 lwA (lwE b L xs) cs ss (fun _ : Unit => Q) (some ()) 720 [(0, .ref b), (1, .ref (xa X 0)), (2, .ref (xa X 51)), (3, .ref (xa X 79)), (4, .int i)] [] h := by
  refine ro_aload_n (pc := 720) 1 dL_law_720 rfl rfl ?_
  refine ro_aload_n (pc := 721) 0 dL_law_721 rfl rfl ?_
  refine ro_iload (pc := 722) 4 dL_law_722 rfl ?_
  refine ro_iconst (v := 1) (pc := 724) dL_law_724 (by decide) ?_
  refine ro_iadd (pc := 725) dL_law_725 ?_
  refine ao_sld (pc := 726) hx1 dL_law_726 ?_
  refine ao_cv (pc := 727) (kc := 5) (avs := [.int (xs (i + 1).toNatClampNeg)]) (st := []) ok_Owe_seasons wd_801 cl_0 cv_0 rfl ⟨by decide, by decide⟩ hcs (c_Owe_seasons X N h (xs (i + 1).toNatClampNeg) (r, h1) hF) rfl rfl (Nat.le_of_ble_eq_true rfl) dL_law_727 ?_
  refine ro_aload_n (pc := 730) 2 dL_law_730 rfl rfl ?_
  refine ro_aload_n (pc := 731) 0 dL_law_731 rfl rfl ?_
  refine ro_iload (pc := 732) 4 dL_law_732 rfl ?_
  refine ro_iconst (v := 1) (pc := 734) dL_law_734 (by decide) ?_
  refine ro_iadd (pc := 735) dL_law_735 ?_
  refine ao_sld (pc := 736) hx1 dL_law_736 ?_
  refine ao_cv (pc := 737) (kc := 4) (avs := [.int (xs (i + 1).toNatClampNeg)]) (st := [.int r]) ok_Mod_seasons wd_1725 cl_51 cv_51 rfl ⟨by decide, by decide⟩ hcs (c_Mod_seasons X N h1 (xs (i + 1).toNatClampNeg) (r, h2) hG) rfl rfl (Nat.le_of_ble_eq_true rfl) dL_law_737 ?_
  refine ao_icmp_eq_t (tgt := 1638) (pc := 740) dL_law_740 (by decide) rfl ?_
  exact k
theorem lc_14 {X : mu_X} {b L : Nat} {xs : Nat → Int32} {cs ss N : Nat} {Q : mu_Q} {i r : Int32} {h h1 h2 : mu_H} (hcs : cs ≤ room_1.cells ∧ ss ≤ room_1.slots) (hx1 : ix (i + 1) L = true) (hx2 : ix (i + 2) L = true) (hx3 : ix (i + 3) L = true) (hx4 : ix (i + 4) L = true) (hx5 : ix (i + 5) L = true) (hx6 : ix (i + 6) L = true) (hF : f_Owe_years N h (xs (i + 1).toNatClampNeg) ((((xs (i + 2).toNatClampNeg).toInt64) <<< ((32 : Int32).toInt64 &&& 63)) ||| (((xs (i + 3).toNatClampNeg).toInt64) &&& 4294967295)) = some (r, h1)) (hG : f_Mod_years N h1 (xs (i + 1).toNatClampNeg) ((((xs (i + 2).toNatClampNeg).toInt64) <<< ((32 : Int32).toInt64 &&& 63)) ||| (((xs (i + 3).toNatClampNeg).toInt64) &&& 4294967295)) = some (r, h2)) (k : aG X m_law room_1 lwA (lwE b L xs) cs ss (fun _ : Unit => Q) (some ()) 1638 [(0, .ref b), (1, .ref (xa X 0)), (2, .ref (xa X 51)), (3, .ref (xa X 79)), (4, .int i)] [] h2) : aG X m_law room_1 lwA (lwE b L xs) cs ss (fun _ : Unit => Q) (some ()) 745 [(0, .ref b), (1, .ref (xa X 0)), (2, .ref (xa X 51)), (3, .ref (xa X 79)), (4, .int i)] [] h := by
  refine ro_aload_n (pc := 745) 1 dL_law_745 rfl rfl ?_
  refine ro_aload_n (pc := 746) 0 dL_law_746 rfl rfl ?_
  refine ro_iload (pc := 747) 4 dL_law_747 rfl ?_
  refine ro_iconst (v := 1) (pc := 749) dL_law_749 (by decide) ?_
  refine ro_iadd (pc := 750) dL_law_750 ?_
  refine ao_sld (pc := 751) hx1 dL_law_751 ?_
  refine ro_aload_n (pc := 752) 0 dL_law_752 rfl rfl ?_
  refine ro_iload (pc := 753) 4 dL_law_753 rfl ?_
  refine ro_iconst (v := 2) (pc := 755) dL_law_755 (by decide) ?_
  refine ro_iadd (pc := 756) dL_law_756 ?_
  refine ao_sld (pc := 757) hx2 dL_law_757 ?_
  refine ro_i2l (pc := 758) dL_law_758 ?_
  refine ro_bipush (v := 32) (pc := 759) dL_law_759 (by decide) ?_
  refine ro_lshl (pc := 761) dL_law_761 ?_
  refine ro_aload_n (pc := 762) 0 dL_law_762 rfl rfl ?_
  refine ro_iload (pc := 763) 4 dL_law_763 rfl ?_
  refine ro_iconst (v := 3) (pc := 765) dL_law_765 (by decide) ?_
  refine ro_iadd (pc := 766) dL_law_766 ?_
  refine ao_sld (pc := 767) hx3 dL_law_767 ?_
  refine ro_i2l (pc := 768) dL_law_768 ?_
  refine ro_ldc2 (v := 4294967295) (pc := 769) dL_law_769 wd_1924 ?_
  refine ro_land (pc := 772) dL_law_772 ?_
  refine ro_lor (pc := 773) dL_law_773 ?_
  refine ao_cv (pc := 774) (kc := 8) (avs := [.int (xs (i + 1).toNatClampNeg), .long ((((xs (i + 2).toNatClampNeg).toInt64) <<< ((32 : Int32).toInt64 &&& 63)) ||| (((xs (i + 3).toNatClampNeg).toInt64) &&& 4294967295))]) (st := []) ok_Owe_years wd_848 cl_0 cv_0 rfl ⟨by decide, by decide⟩ hcs (c_Owe_years X N h (xs (i + 1).toNatClampNeg) ((((xs (i + 2).toNatClampNeg).toInt64) <<< ((32 : Int32).toInt64 &&& 63)) ||| (((xs (i + 3).toNatClampNeg).toInt64) &&& 4294967295)) (r, h1) hF) rfl rfl (Nat.le_of_ble_eq_true rfl) dL_law_774 ?_
  refine ro_aload_n (pc := 777) 2 dL_law_777 rfl rfl ?_
  refine ro_aload_n (pc := 778) 0 dL_law_778 rfl rfl ?_
  refine ro_iload (pc := 779) 4 dL_law_779 rfl ?_
  refine ro_iconst (v := 1) (pc := 781) dL_law_781 (by decide) ?_
  refine ro_iadd (pc := 782) dL_law_782 ?_
  refine ao_sld (pc := 783) hx1 dL_law_783 ?_
  refine ro_aload_n (pc := 784) 0 dL_law_784 rfl rfl ?_
  refine ro_iload (pc := 785) 4 dL_law_785 rfl ?_
  refine ro_iconst (v := 2) (pc := 787) dL_law_787 (by decide) ?_
  refine ro_iadd (pc := 788) dL_law_788 ?_
  refine ao_sld (pc := 789) hx2 dL_law_789 ?_
  refine ro_i2l (pc := 790) dL_law_790 ?_
  refine ro_bipush (v := 32) (pc := 791) dL_law_791 (by decide) ?_
  refine ro_lshl (pc := 793) dL_law_793 ?_
  refine ro_aload_n (pc := 794) 0 dL_law_794 rfl rfl ?_
  refine ro_iload (pc := 795) 4 dL_law_795 rfl ?_
  refine ro_iconst (v := 3) (pc := 797) dL_law_797 (by decide) ?_
  refine ro_iadd (pc := 798) dL_law_798 ?_
  refine ao_sld (pc := 799) hx3 dL_law_799 ?_
  refine ro_i2l (pc := 800) dL_law_800 ?_
  refine ro_ldc2 (v := 4294967295) (pc := 801) dL_law_801 wd_1924 ?_
  refine ro_land (pc := 804) dL_law_804 ?_
  refine ro_lor (pc := 805) dL_law_805 ?_
  refine ao_cv (pc := 806) (kc := 10) (avs := [.int (xs (i + 1).toNatClampNeg), .long ((((xs (i + 2).toNatClampNeg).toInt64) <<< ((32 : Int32).toInt64 &&& 63)) ||| (((xs (i + 3).toNatClampNeg).toInt64) &&& 4294967295))]) (st := [.int r]) ok_Mod_years wd_1745 cl_51 cv_51 rfl ⟨by decide, by decide⟩ hcs (c_Mod_years X N h1 (xs (i + 1).toNatClampNeg) ((((xs (i + 2).toNatClampNeg).toInt64) <<< ((32 : Int32).toInt64 &&& 63)) ||| (((xs (i + 3).toNatClampNeg).toInt64) &&& 4294967295)) (r, h2) hG) rfl rfl (Nat.le_of_ble_eq_true rfl) dL_law_806 ?_
  refine ao_icmp_eq_t (tgt := 1638) (pc := 809) dL_law_809 (by decide) rfl ?_
  exact k
theorem lc_15 {X : mu_X} {b L : Nat} {xs : Nat → Int32} {cs ss N : Nat} {Q : mu_Q} {i r : Int32} {h : mu_H} (hcs : cs ≤ room_1.cells ∧ ss ≤ room_1.slots) (hx1 : ix (i + 1) L = true) (hx2 : ix (i + 2) L = true) (hx3 : ix (i + 3) L = true) (hx4 : ix (i + 4) L = true) (hx5 : ix (i + 5) L = true) (hx6 : ix (i + 6) L = true) (hF : f_Owe_status N h (xs (i + 1).toNatClampNeg) = some r) (hG : f_Mod_status N h (xs (i + 1).toNatClampNeg) = some r) (k : aG X m_law room_1 lwA (lwE b L xs) cs ss (fun _ : Unit => Q) (some ()) 1638 [(0, .ref b), (1, .ref (xa X 0)), (2, .ref (xa X 51)), (3, .ref (xa X 79)), (4, .int i)] [] h) : aG X m_law room_1 lwA (lwE b L xs) cs ss (fun _ : Unit => Q) (some ()) 814 [(0, .ref b), (1, .ref (xa X 0)), (2, .ref (xa X 51)), (3, .ref (xa X 79)), (4, .int i)] [] h := by
  refine ro_aload_n (pc := 814) 1 dL_law_814 rfl rfl ?_
  refine ro_aload_n (pc := 815) 0 dL_law_815 rfl rfl ?_
  refine ro_iload (pc := 816) 4 dL_law_816 rfl ?_
  refine ro_iconst (v := 1) (pc := 818) dL_law_818 (by decide) ?_
  refine ro_iadd (pc := 819) dL_law_819 ?_
  refine ao_sld (pc := 820) hx1 dL_law_820 ?_
  refine ao_cv (pc := 821) (kc := 1) (avs := [.int (xs (i + 1).toNatClampNeg)]) (st := []) ok_Owe_status wd_867 cl_0 cv_0 rfl ⟨by decide, by decide⟩ hcs (c_Owe_status X N h (xs (i + 1).toNatClampNeg) r hF) rfl rfl (Nat.le_of_ble_eq_true rfl) dL_law_821 ?_
  refine ro_aload_n (pc := 824) 2 dL_law_824 rfl rfl ?_
  refine ro_aload_n (pc := 825) 0 dL_law_825 rfl rfl ?_
  refine ro_iload (pc := 826) 4 dL_law_826 rfl ?_
  refine ro_iconst (v := 1) (pc := 828) dL_law_828 (by decide) ?_
  refine ro_iadd (pc := 829) dL_law_829 ?_
  refine ao_sld (pc := 830) hx1 dL_law_830 ?_
  refine ao_cv (pc := 831) (kc := 2) (avs := [.int (xs (i + 1).toNatClampNeg)]) (st := [.int r]) ok_Mod_status wd_1759 cl_51 cv_51 rfl ⟨by decide, by decide⟩ hcs (c_Mod_status X N h (xs (i + 1).toNatClampNeg) r hG) rfl rfl (Nat.le_of_ble_eq_true rfl) dL_law_831 ?_
  refine ao_icmp_eq_t (tgt := 1638) (pc := 834) dL_law_834 (by decide) rfl ?_
  exact k
theorem lc_16 {X : mu_X} {b L : Nat} {xs : Nat → Int32} {cs ss N : Nat} {Q : mu_Q} {i r : Int32} {h h1 h2 : mu_H} (hcs : cs ≤ room_1.cells ∧ ss ≤ room_1.slots) (hx1 : ix (i + 1) L = true) (hx2 : ix (i + 2) L = true) (hx3 : ix (i + 3) L = true) (hx4 : ix (i + 4) L = true) (hx5 : ix (i + 5) L = true) (hx6 : ix (i + 6) L = true) (hF : f_Owe_undo N h  = some (r, h1)) (hG : f_Mod_undo N h1  = some (r, h2)) (k : aG X m_law room_1 lwA (lwE b L xs) cs ss (fun _ : Unit => Q) (some ()) 1638 [(0, .ref b), (1, .ref (xa X 0)), (2, .ref (xa X 51)), (3, .ref (xa X 79)), (4, .int i)] [] h2) : aG X m_law room_1 lwA (lwE b L xs) cs ss (fun _ : Unit => Q) (some ()) 839 [(0, .ref b), (1, .ref (xa X 0)), (2, .ref (xa X 51)), (3, .ref (xa X 79)), (4, .int i)] [] h := by
  refine ro_aload_n (pc := 839) 1 dL_law_839 rfl rfl ?_
  refine ao_cv (pc := 840) (kc := 3) (avs := []) (st := []) ok_Owe_undo wd_871 cl_0 cv_0 rfl ⟨by decide, by decide⟩ hcs (c_Owe_undo X N h  (r, h1) hF) rfl rfl (Nat.le_of_ble_eq_true rfl) dL_law_840 ?_
  refine ro_aload_n (pc := 843) 2 dL_law_843 rfl rfl ?_
  refine ao_cv (pc := 844) (kc := 1) (avs := []) (st := [.int r]) ok_Mod_undo wd_1763 cl_51 cv_51 rfl ⟨by decide, by decide⟩ hcs (c_Mod_undo X N h1  (r, h2) hG) rfl rfl (Nat.le_of_ble_eq_true rfl) dL_law_844 ?_
  refine ao_icmp_eq_t (tgt := 1638) (pc := 847) dL_law_847 (by decide) rfl ?_
  exact k
theorem lc_17 {X : mu_X} {b L : Nat} {xs : Nat → Int32} {cs ss N : Nat} {Q : mu_Q} {i r : Int32} {h : mu_H} (hcs : cs ≤ room_1.cells ∧ ss ≤ room_1.slots) (hx1 : ix (i + 1) L = true) (hx2 : ix (i + 2) L = true) (hx3 : ix (i + 3) L = true) (hx4 : ix (i + 4) L = true) (hx5 : ix (i + 5) L = true) (hx6 : ix (i + 6) L = true) (hF : f_Owe_log N h (xs (i + 1).toNatClampNeg) (xs (i + 2).toNatClampNeg) = some r) (hG : f_Mod_log N h (xs (i + 1).toNatClampNeg) (xs (i + 2).toNatClampNeg) = some r) (k : aG X m_law room_1 lwA (lwE b L xs) cs ss (fun _ : Unit => Q) (some ()) 1638 [(0, .ref b), (1, .ref (xa X 0)), (2, .ref (xa X 51)), (3, .ref (xa X 79)), (4, .int i)] [] h) : aG X m_law room_1 lwA (lwE b L xs) cs ss (fun _ : Unit => Q) (some ()) 852 [(0, .ref b), (1, .ref (xa X 0)), (2, .ref (xa X 51)), (3, .ref (xa X 79)), (4, .int i)] [] h := by
  refine ro_aload_n (pc := 852) 1 dL_law_852 rfl rfl ?_
  refine ro_aload_n (pc := 853) 0 dL_law_853 rfl rfl ?_
  refine ro_iload (pc := 854) 4 dL_law_854 rfl ?_
  refine ro_iconst (v := 1) (pc := 856) dL_law_856 (by decide) ?_
  refine ro_iadd (pc := 857) dL_law_857 ?_
  refine ao_sld (pc := 858) hx1 dL_law_858 ?_
  refine ro_aload_n (pc := 859) 0 dL_law_859 rfl rfl ?_
  refine ro_iload (pc := 860) 4 dL_law_860 rfl ?_
  refine ro_iconst (v := 2) (pc := 862) dL_law_862 (by decide) ?_
  refine ro_iadd (pc := 863) dL_law_863 ?_
  refine ao_sld (pc := 864) hx2 dL_law_864 ?_
  refine ao_cv (pc := 865) (kc := 3) (avs := [.int (xs (i + 1).toNatClampNeg), .int (xs (i + 2).toNatClampNeg)]) (st := []) ok_Owe_log wd_887 cl_0 cv_0 rfl ⟨by decide, by decide⟩ hcs (c_Owe_log X N h (xs (i + 1).toNatClampNeg) (xs (i + 2).toNatClampNeg) r hF) rfl rfl (Nat.le_of_ble_eq_true rfl) dL_law_865 ?_
  refine ro_aload_n (pc := 868) 2 dL_law_868 rfl rfl ?_
  refine ro_aload_n (pc := 869) 0 dL_law_869 rfl rfl ?_
  refine ro_iload (pc := 870) 4 dL_law_870 rfl ?_
  refine ro_iconst (v := 1) (pc := 872) dL_law_872 (by decide) ?_
  refine ro_iadd (pc := 873) dL_law_873 ?_
  refine ao_sld (pc := 874) hx1 dL_law_874 ?_
  refine ro_aload_n (pc := 875) 0 dL_law_875 rfl rfl ?_
  refine ro_iload (pc := 876) 4 dL_law_876 rfl ?_
  refine ro_iconst (v := 2) (pc := 878) dL_law_878 (by decide) ?_
  refine ro_iadd (pc := 879) dL_law_879 ?_
  refine ao_sld (pc := 880) hx2 dL_law_880 ?_
  refine ao_cv (pc := 881) (kc := 2) (avs := [.int (xs (i + 1).toNatClampNeg), .int (xs (i + 2).toNatClampNeg)]) (st := [.int r]) ok_Mod_log wd_1767 cl_51 cv_51 rfl ⟨by decide, by decide⟩ hcs (c_Mod_log X N h (xs (i + 1).toNatClampNeg) (xs (i + 2).toNatClampNeg) r hG) rfl rfl (Nat.le_of_ble_eq_true rfl) dL_law_881 ?_
  refine ao_icmp_eq_t (tgt := 1638) (pc := 884) dL_law_884 (by decide) rfl ?_
  exact k
theorem lc_18 {X : mu_X} {b L : Nat} {xs : Nat → Int32} {cs ss N : Nat} {Q : mu_Q} {i r : Int32} {h h1 h2 : mu_H} (hcs : cs ≤ room_1.cells ∧ ss ≤ room_1.slots) (hx1 : ix (i + 1) L = true) (hx2 : ix (i + 2) L = true) (hx3 : ix (i + 3) L = true) (hx4 : ix (i + 4) L = true) (hx5 : ix (i + 5) L = true) (hx6 : ix (i + 6) L = true) (hF : f_Owe_least N h (xs (i + 1).toNatClampNeg) (xs (i + 2).toNatClampNeg) (xs (i + 3).toNatClampNeg) = some (r, h1)) (hG : f_Mod_least N h1 (xs (i + 1).toNatClampNeg) (xs (i + 2).toNatClampNeg) (xs (i + 3).toNatClampNeg) = some (r, h2)) (k : aG X m_law room_1 lwA (lwE b L xs) cs ss (fun _ : Unit => Q) (some ()) 1638 [(0, .ref b), (1, .ref (xa X 0)), (2, .ref (xa X 51)), (3, .ref (xa X 79)), (4, .int i)] [] h2) : aG X m_law room_1 lwA (lwE b L xs) cs ss (fun _ : Unit => Q) (some ()) 889 [(0, .ref b), (1, .ref (xa X 0)), (2, .ref (xa X 51)), (3, .ref (xa X 79)), (4, .int i)] [] h := by
  refine ro_aload_n (pc := 889) 1 dL_law_889 rfl rfl ?_
  refine ro_aload_n (pc := 890) 0 dL_law_890 rfl rfl ?_
  refine ro_iload (pc := 891) 4 dL_law_891 rfl ?_
  refine ro_iconst (v := 1) (pc := 893) dL_law_893 (by decide) ?_
  refine ro_iadd (pc := 894) dL_law_894 ?_
  refine ao_sld (pc := 895) hx1 dL_law_895 ?_
  refine ro_aload_n (pc := 896) 0 dL_law_896 rfl rfl ?_
  refine ro_iload (pc := 897) 4 dL_law_897 rfl ?_
  refine ro_iconst (v := 2) (pc := 899) dL_law_899 (by decide) ?_
  refine ro_iadd (pc := 900) dL_law_900 ?_
  refine ao_sld (pc := 901) hx2 dL_law_901 ?_
  refine ro_aload_n (pc := 902) 0 dL_law_902 rfl rfl ?_
  refine ro_iload (pc := 903) 4 dL_law_903 rfl ?_
  refine ro_iconst (v := 3) (pc := 905) dL_law_905 (by decide) ?_
  refine ro_iadd (pc := 906) dL_law_906 ?_
  refine ao_sld (pc := 907) hx3 dL_law_907 ?_
  refine ao_cv (pc := 908) (kc := 13) (avs := [.int (xs (i + 1).toNatClampNeg), .int (xs (i + 2).toNatClampNeg), .int (xs (i + 3).toNatClampNeg)]) (st := []) ok_Owe_least wd_899 cl_0 cv_0 rfl ⟨by decide, by decide⟩ hcs (c_Owe_least X N h (xs (i + 1).toNatClampNeg) (xs (i + 2).toNatClampNeg) (xs (i + 3).toNatClampNeg) (r, h1) hF) rfl rfl (Nat.le_of_ble_eq_true rfl) dL_law_908 ?_
  refine ro_aload_n (pc := 911) 2 dL_law_911 rfl rfl ?_
  refine ro_aload_n (pc := 912) 0 dL_law_912 rfl rfl ?_
  refine ro_iload (pc := 913) 4 dL_law_913 rfl ?_
  refine ro_iconst (v := 1) (pc := 915) dL_law_915 (by decide) ?_
  refine ro_iadd (pc := 916) dL_law_916 ?_
  refine ao_sld (pc := 917) hx1 dL_law_917 ?_
  refine ro_aload_n (pc := 918) 0 dL_law_918 rfl rfl ?_
  refine ro_iload (pc := 919) 4 dL_law_919 rfl ?_
  refine ro_iconst (v := 2) (pc := 921) dL_law_921 (by decide) ?_
  refine ro_iadd (pc := 922) dL_law_922 ?_
  refine ao_sld (pc := 923) hx2 dL_law_923 ?_
  refine ro_aload_n (pc := 924) 0 dL_law_924 rfl rfl ?_
  refine ro_iload (pc := 925) 4 dL_law_925 rfl ?_
  refine ro_iconst (v := 3) (pc := 927) dL_law_927 (by decide) ?_
  refine ro_iadd (pc := 928) dL_law_928 ?_
  refine ao_sld (pc := 929) hx3 dL_law_929 ?_
  refine ao_cv (pc := 930) (kc := 17) (avs := [.int (xs (i + 1).toNatClampNeg), .int (xs (i + 2).toNatClampNeg), .int (xs (i + 3).toNatClampNeg)]) (st := [.int r]) ok_Mod_least wd_1771 cl_51 cv_51 rfl ⟨by decide, by decide⟩ hcs (c_Mod_least X N h1 (xs (i + 1).toNatClampNeg) (xs (i + 2).toNatClampNeg) (xs (i + 3).toNatClampNeg) (r, h2) hG) rfl rfl (Nat.le_of_ble_eq_true rfl) dL_law_930 ?_
  refine ao_icmp_eq_t (tgt := 1638) (pc := 933) dL_law_933 (by decide) rfl ?_
  exact k
theorem lc_19 {X : mu_X} {b L : Nat} {xs : Nat → Int32} {cs ss N : Nat} {Q : mu_Q} {i r : Int32} {h h1 h2 : mu_H} (hcs : cs ≤ room_1.cells ∧ ss ≤ room_1.slots) (hx1 : ix (i + 1) L = true) (hx2 : ix (i + 2) L = true) (hx3 : ix (i + 3) L = true) (hx4 : ix (i + 4) L = true) (hx5 : ix (i + 5) L = true) (hx6 : ix (i + 6) L = true) (hF : f_Owe_way N h (xs (i + 1).toNatClampNeg) (xs (i + 2).toNatClampNeg) (xs (i + 3).toNatClampNeg) = some (r, h1)) (hG : f_Mod_way N h1 (xs (i + 1).toNatClampNeg) (xs (i + 2).toNatClampNeg) (xs (i + 3).toNatClampNeg) = some (r, h2)) (k : aG X m_law room_1 lwA (lwE b L xs) cs ss (fun _ : Unit => Q) (some ()) 1638 [(0, .ref b), (1, .ref (xa X 0)), (2, .ref (xa X 51)), (3, .ref (xa X 79)), (4, .int i)] [] h2) : aG X m_law room_1 lwA (lwE b L xs) cs ss (fun _ : Unit => Q) (some ()) 938 [(0, .ref b), (1, .ref (xa X 0)), (2, .ref (xa X 51)), (3, .ref (xa X 79)), (4, .int i)] [] h := by
  refine ro_aload_n (pc := 938) 1 dL_law_938 rfl rfl ?_
  refine ro_aload_n (pc := 939) 0 dL_law_939 rfl rfl ?_
  refine ro_iload (pc := 940) 4 dL_law_940 rfl ?_
  refine ro_iconst (v := 1) (pc := 942) dL_law_942 (by decide) ?_
  refine ro_iadd (pc := 943) dL_law_943 ?_
  refine ao_sld (pc := 944) hx1 dL_law_944 ?_
  refine ro_aload_n (pc := 945) 0 dL_law_945 rfl rfl ?_
  refine ro_iload (pc := 946) 4 dL_law_946 rfl ?_
  refine ro_iconst (v := 2) (pc := 948) dL_law_948 (by decide) ?_
  refine ro_iadd (pc := 949) dL_law_949 ?_
  refine ao_sld (pc := 950) hx2 dL_law_950 ?_
  refine ro_aload_n (pc := 951) 0 dL_law_951 rfl rfl ?_
  refine ro_iload (pc := 952) 4 dL_law_952 rfl ?_
  refine ro_iconst (v := 3) (pc := 954) dL_law_954 (by decide) ?_
  refine ro_iadd (pc := 955) dL_law_955 ?_
  refine ao_sld (pc := 956) hx3 dL_law_956 ?_
  refine ao_cv (pc := 957) (kc := 3) (avs := [.int (xs (i + 1).toNatClampNeg), .int (xs (i + 2).toNatClampNeg), .int (xs (i + 3).toNatClampNeg)]) (st := []) ok_Owe_way wd_933 cl_0 cv_0 rfl ⟨by decide, by decide⟩ hcs (c_Owe_way X N h (xs (i + 1).toNatClampNeg) (xs (i + 2).toNatClampNeg) (xs (i + 3).toNatClampNeg) (r, h1) hF) rfl rfl (Nat.le_of_ble_eq_true rfl) dL_law_957 ?_
  refine ro_aload_n (pc := 960) 2 dL_law_960 rfl rfl ?_
  refine ro_aload_n (pc := 961) 0 dL_law_961 rfl rfl ?_
  refine ro_iload (pc := 962) 4 dL_law_962 rfl ?_
  refine ro_iconst (v := 1) (pc := 964) dL_law_964 (by decide) ?_
  refine ro_iadd (pc := 965) dL_law_965 ?_
  refine ao_sld (pc := 966) hx1 dL_law_966 ?_
  refine ro_aload_n (pc := 967) 0 dL_law_967 rfl rfl ?_
  refine ro_iload (pc := 968) 4 dL_law_968 rfl ?_
  refine ro_iconst (v := 2) (pc := 970) dL_law_970 (by decide) ?_
  refine ro_iadd (pc := 971) dL_law_971 ?_
  refine ao_sld (pc := 972) hx2 dL_law_972 ?_
  refine ro_aload_n (pc := 973) 0 dL_law_973 rfl rfl ?_
  refine ro_iload (pc := 974) 4 dL_law_974 rfl ?_
  refine ro_iconst (v := 3) (pc := 976) dL_law_976 (by decide) ?_
  refine ro_iadd (pc := 977) dL_law_977 ?_
  refine ao_sld (pc := 978) hx3 dL_law_978 ?_
  refine ao_cv (pc := 979) (kc := 14) (avs := [.int (xs (i + 1).toNatClampNeg), .int (xs (i + 2).toNatClampNeg), .int (xs (i + 3).toNatClampNeg)]) (st := [.int r]) ok_Mod_way wd_1779 cl_51 cv_51 rfl ⟨by decide, by decide⟩ hcs (c_Mod_way X N h1 (xs (i + 1).toNatClampNeg) (xs (i + 2).toNatClampNeg) (xs (i + 3).toNatClampNeg) (r, h2) hG) rfl rfl (Nat.le_of_ble_eq_true rfl) dL_law_979 ?_
  refine ao_icmp_eq_t (tgt := 1638) (pc := 982) dL_law_982 (by decide) rfl ?_
  exact k
theorem lc_20 {X : mu_X} {b L : Nat} {xs : Nat → Int32} {cs ss N : Nat} {Q : mu_Q} {i r : Int32} {h h1 h2 : mu_H} (hcs : cs ≤ room_1.cells ∧ ss ≤ room_1.slots) (hx1 : ix (i + 1) L = true) (hx2 : ix (i + 2) L = true) (hx3 : ix (i + 3) L = true) (hx4 : ix (i + 4) L = true) (hx5 : ix (i + 5) L = true) (hx6 : ix (i + 6) L = true) (hF : f_Owe_worth N h (xs (i + 1).toNatClampNeg) = some (r, h1)) (hG : f_Mod_worth N h1 (xs (i + 1).toNatClampNeg) = some (r, h2)) (k : aG X m_law room_1 lwA (lwE b L xs) cs ss (fun _ : Unit => Q) (some ()) 1638 [(0, .ref b), (1, .ref (xa X 0)), (2, .ref (xa X 51)), (3, .ref (xa X 79)), (4, .int i)] [] h2) : aG X m_law room_1 lwA (lwE b L xs) cs ss (fun _ : Unit => Q) (some ()) 987 [(0, .ref b), (1, .ref (xa X 0)), (2, .ref (xa X 51)), (3, .ref (xa X 79)), (4, .int i)] [] h := by
  refine ro_aload_n (pc := 987) 1 dL_law_987 rfl rfl ?_
  refine ro_aload_n (pc := 988) 0 dL_law_988 rfl rfl ?_
  refine ro_iload (pc := 989) 4 dL_law_989 rfl ?_
  refine ro_iconst (v := 1) (pc := 991) dL_law_991 (by decide) ?_
  refine ro_iadd (pc := 992) dL_law_992 ?_
  refine ao_sld (pc := 993) hx1 dL_law_993 ?_
  refine ao_cv (pc := 994) (kc := 8) (avs := [.int (xs (i + 1).toNatClampNeg)]) (st := []) ok_Owe_worth wd_959 cl_0 cv_0 rfl ⟨by decide, by decide⟩ hcs (c_Owe_worth X N h (xs (i + 1).toNatClampNeg) (r, h1) hF) rfl rfl (Nat.le_of_ble_eq_true rfl) dL_law_994 ?_
  refine ro_aload_n (pc := 997) 2 dL_law_997 rfl rfl ?_
  refine ro_aload_n (pc := 998) 0 dL_law_998 rfl rfl ?_
  refine ro_iload (pc := 999) 4 dL_law_999 rfl ?_
  refine ro_iconst (v := 1) (pc := 1001) dL_law_1001 (by decide) ?_
  refine ro_iadd (pc := 1002) dL_law_1002 ?_
  refine ao_sld (pc := 1003) hx1 dL_law_1003 ?_
  refine ao_cv (pc := 1004) (kc := 8) (avs := [.int (xs (i + 1).toNatClampNeg)]) (st := [.int r]) ok_Mod_worth wd_1791 cl_51 cv_51 rfl ⟨by decide, by decide⟩ hcs (c_Mod_worth X N h1 (xs (i + 1).toNatClampNeg) (r, h2) hG) rfl rfl (Nat.le_of_ble_eq_true rfl) dL_law_1004 ?_
  refine ao_icmp_eq_t (tgt := 1638) (pc := 1007) dL_law_1007 (by decide) rfl ?_
  exact k
theorem lc_21 {X : mu_X} {b L : Nat} {xs : Nat → Int32} {cs ss N : Nat} {Q : mu_Q} {i r : Int32} {h h1 h2 : mu_H} (hcs : cs ≤ room_1.cells ∧ ss ≤ room_1.slots) (hx1 : ix (i + 1) L = true) (hx2 : ix (i + 2) L = true) (hx3 : ix (i + 3) L = true) (hx4 : ix (i + 4) L = true) (hx5 : ix (i + 5) L = true) (hx6 : ix (i + 6) L = true) (hF : f_Owe_buys N h  = some (r, h1)) (hG : f_Mod_buys N h1  = some (r, h2)) (k : aG X m_law room_1 lwA (lwE b L xs) cs ss (fun _ : Unit => Q) (some ()) 1638 [(0, .ref b), (1, .ref (xa X 0)), (2, .ref (xa X 51)), (3, .ref (xa X 79)), (4, .int i)] [] h2) : aG X m_law room_1 lwA (lwE b L xs) cs ss (fun _ : Unit => Q) (some ()) 1012 [(0, .ref b), (1, .ref (xa X 0)), (2, .ref (xa X 51)), (3, .ref (xa X 79)), (4, .int i)] [] h := by
  refine ro_aload_n (pc := 1012) 1 dL_law_1012 rfl rfl ?_
  refine ao_cv (pc := 1013) (kc := 8) (avs := []) (st := []) ok_Owe_buys wd_971 cl_0 cv_0 rfl ⟨by decide, by decide⟩ hcs (c_Owe_buys X N h  (r, h1) hF) rfl rfl (Nat.le_of_ble_eq_true rfl) dL_law_1013 ?_
  refine ro_aload_n (pc := 1016) 2 dL_law_1016 rfl rfl ?_
  refine ao_cv (pc := 1017) (kc := 8) (avs := []) (st := [.int r]) ok_Mod_buys wd_1795 cl_51 cv_51 rfl ⟨by decide, by decide⟩ hcs (c_Mod_buys X N h1  (r, h2) hG) rfl rfl (Nat.le_of_ble_eq_true rfl) dL_law_1017 ?_
  refine ao_icmp_eq_t (tgt := 1638) (pc := 1020) dL_law_1020 (by decide) rfl ?_
  exact k
theorem lc_22 {X : mu_X} {b L : Nat} {xs : Nat → Int32} {cs ss N : Nat} {Q : mu_Q} {i r : Int32} {h h1 h2 : mu_H} (hcs : cs ≤ room_1.cells ∧ ss ≤ room_1.slots) (hx1 : ix (i + 1) L = true) (hx2 : ix (i + 2) L = true) (hx3 : ix (i + 3) L = true) (hx4 : ix (i + 4) L = true) (hx5 : ix (i + 5) L = true) (hx6 : ix (i + 6) L = true) (hF : f_Owe_game N h (xs (i + 1).toNatClampNeg) (xs (i + 2).toNatClampNeg) (xs (i + 3).toNatClampNeg) (xs (i + 4).toNatClampNeg) (xs (i + 5).toNatClampNeg) (xs (i + 6).toNatClampNeg) = some (r, h1)) (hG : f_Mod_game N h1 (xs (i + 1).toNatClampNeg) (xs (i + 2).toNatClampNeg) (xs (i + 3).toNatClampNeg) (xs (i + 4).toNatClampNeg) (xs (i + 5).toNatClampNeg) (xs (i + 6).toNatClampNeg) = some (r, h2)) (k : aG X m_law room_1 lwA (lwE b L xs) cs ss (fun _ : Unit => Q) (some ()) 1638 [(0, .ref b), (1, .ref (xa X 0)), (2, .ref (xa X 51)), (3, .ref (xa X 79)), (4, .int i)] [] h2) : aG X m_law room_1 lwA (lwE b L xs) cs ss (fun _ : Unit => Q) (some ()) 1025 [(0, .ref b), (1, .ref (xa X 0)), (2, .ref (xa X 51)), (3, .ref (xa X 79)), (4, .int i)] [] h := by
  refine ro_aload_n (pc := 1025) 1 dL_law_1025 rfl rfl ?_
  refine ro_aload_n (pc := 1026) 0 dL_law_1026 rfl rfl ?_
  refine ro_iload (pc := 1027) 4 dL_law_1027 rfl ?_
  refine ro_iconst (v := 1) (pc := 1029) dL_law_1029 (by decide) ?_
  refine ro_iadd (pc := 1030) dL_law_1030 ?_
  refine ao_sld (pc := 1031) hx1 dL_law_1031 ?_
  refine ro_aload_n (pc := 1032) 0 dL_law_1032 rfl rfl ?_
  refine ro_iload (pc := 1033) 4 dL_law_1033 rfl ?_
  refine ro_iconst (v := 2) (pc := 1035) dL_law_1035 (by decide) ?_
  refine ro_iadd (pc := 1036) dL_law_1036 ?_
  refine ao_sld (pc := 1037) hx2 dL_law_1037 ?_
  refine ro_aload_n (pc := 1038) 0 dL_law_1038 rfl rfl ?_
  refine ro_iload (pc := 1039) 4 dL_law_1039 rfl ?_
  refine ro_iconst (v := 3) (pc := 1041) dL_law_1041 (by decide) ?_
  refine ro_iadd (pc := 1042) dL_law_1042 ?_
  refine ao_sld (pc := 1043) hx3 dL_law_1043 ?_
  refine ro_aload_n (pc := 1044) 0 dL_law_1044 rfl rfl ?_
  refine ro_iload (pc := 1045) 4 dL_law_1045 rfl ?_
  refine ro_iconst (v := 4) (pc := 1047) dL_law_1047 (by decide) ?_
  refine ro_iadd (pc := 1048) dL_law_1048 ?_
  refine ao_sld (pc := 1049) hx4 dL_law_1049 ?_
  refine ro_aload_n (pc := 1050) 0 dL_law_1050 rfl rfl ?_
  refine ro_iload (pc := 1051) 4 dL_law_1051 rfl ?_
  refine ro_iconst (v := 5) (pc := 1053) dL_law_1053 (by decide) ?_
  refine ro_iadd (pc := 1054) dL_law_1054 ?_
  refine ao_sld (pc := 1055) hx5 dL_law_1055 ?_
  refine ro_aload_n (pc := 1056) 0 dL_law_1056 rfl rfl ?_
  refine ro_iload (pc := 1057) 4 dL_law_1057 rfl ?_
  refine ro_bipush (v := 6) (pc := 1059) dL_law_1059 (by decide) ?_
  refine ro_iadd (pc := 1061) dL_law_1061 ?_
  refine ao_sld (pc := 1062) hx6 dL_law_1062 ?_
  refine ao_cv (pc := 1063) (kc := 8) (avs := [.int (xs (i + 1).toNatClampNeg), .int (xs (i + 2).toNatClampNeg), .int (xs (i + 3).toNatClampNeg), .int (xs (i + 4).toNatClampNeg), .int (xs (i + 5).toNatClampNeg), .int (xs (i + 6).toNatClampNeg)]) (st := []) ok_Owe_game wd_983 cl_0 cv_0 rfl ⟨by decide, by decide⟩ hcs (c_Owe_game X N h (xs (i + 1).toNatClampNeg) (xs (i + 2).toNatClampNeg) (xs (i + 3).toNatClampNeg) (xs (i + 4).toNatClampNeg) (xs (i + 5).toNatClampNeg) (xs (i + 6).toNatClampNeg) (r, h1) hF) rfl rfl (Nat.le_of_ble_eq_true rfl) dL_law_1063 ?_
  refine ro_aload_n (pc := 1066) 2 dL_law_1066 rfl rfl ?_
  refine ro_aload_n (pc := 1067) 0 dL_law_1067 rfl rfl ?_
  refine ro_iload (pc := 1068) 4 dL_law_1068 rfl ?_
  refine ro_iconst (v := 1) (pc := 1070) dL_law_1070 (by decide) ?_
  refine ro_iadd (pc := 1071) dL_law_1071 ?_
  refine ao_sld (pc := 1072) hx1 dL_law_1072 ?_
  refine ro_aload_n (pc := 1073) 0 dL_law_1073 rfl rfl ?_
  refine ro_iload (pc := 1074) 4 dL_law_1074 rfl ?_
  refine ro_iconst (v := 2) (pc := 1076) dL_law_1076 (by decide) ?_
  refine ro_iadd (pc := 1077) dL_law_1077 ?_
  refine ao_sld (pc := 1078) hx2 dL_law_1078 ?_
  refine ro_aload_n (pc := 1079) 0 dL_law_1079 rfl rfl ?_
  refine ro_iload (pc := 1080) 4 dL_law_1080 rfl ?_
  refine ro_iconst (v := 3) (pc := 1082) dL_law_1082 (by decide) ?_
  refine ro_iadd (pc := 1083) dL_law_1083 ?_
  refine ao_sld (pc := 1084) hx3 dL_law_1084 ?_
  refine ro_aload_n (pc := 1085) 0 dL_law_1085 rfl rfl ?_
  refine ro_iload (pc := 1086) 4 dL_law_1086 rfl ?_
  refine ro_iconst (v := 4) (pc := 1088) dL_law_1088 (by decide) ?_
  refine ro_iadd (pc := 1089) dL_law_1089 ?_
  refine ao_sld (pc := 1090) hx4 dL_law_1090 ?_
  refine ro_aload_n (pc := 1091) 0 dL_law_1091 rfl rfl ?_
  refine ro_iload (pc := 1092) 4 dL_law_1092 rfl ?_
  refine ro_iconst (v := 5) (pc := 1094) dL_law_1094 (by decide) ?_
  refine ro_iadd (pc := 1095) dL_law_1095 ?_
  refine ao_sld (pc := 1096) hx5 dL_law_1096 ?_
  refine ro_aload_n (pc := 1097) 0 dL_law_1097 rfl rfl ?_
  refine ro_iload (pc := 1098) 4 dL_law_1098 rfl ?_
  refine ro_bipush (v := 6) (pc := 1100) dL_law_1100 (by decide) ?_
  refine ro_iadd (pc := 1102) dL_law_1102 ?_
  refine ao_sld (pc := 1103) hx6 dL_law_1103 ?_
  refine ao_cv (pc := 1104) (kc := 9) (avs := [.int (xs (i + 1).toNatClampNeg), .int (xs (i + 2).toNatClampNeg), .int (xs (i + 3).toNatClampNeg), .int (xs (i + 4).toNatClampNeg), .int (xs (i + 5).toNatClampNeg), .int (xs (i + 6).toNatClampNeg)]) (st := [.int r]) ok_Mod_game wd_1799 cl_51 cv_51 rfl ⟨by decide, by decide⟩ hcs (c_Mod_game X N h1 (xs (i + 1).toNatClampNeg) (xs (i + 2).toNatClampNeg) (xs (i + 3).toNatClampNeg) (xs (i + 4).toNatClampNeg) (xs (i + 5).toNatClampNeg) (xs (i + 6).toNatClampNeg) (r, h2) hG) rfl rfl (Nat.le_of_ble_eq_true rfl) dL_law_1104 ?_
  refine ao_icmp_eq_t (tgt := 1638) (pc := 1107) dL_law_1107 (by decide) rfl ?_
  exact k
theorem lc_23 {X : mu_X} {b L : Nat} {xs : Nat → Int32} {cs ss N : Nat} {Q : mu_Q} {i r : Int32} {h h1 h2 : mu_H} (hcs : cs ≤ room_1.cells ∧ ss ≤ room_1.slots) (hx1 : ix (i + 1) L = true) (hx2 : ix (i + 2) L = true) (hx3 : ix (i + 3) L = true) (hx4 : ix (i + 4) L = true) (hx5 : ix (i + 5) L = true) (hx6 : ix (i + 6) L = true) (hF : f_Owe_rests N h (xs (i + 1).toNatClampNeg) (xs (i + 2).toNatClampNeg) (xs (i + 3).toNatClampNeg) (xs (i + 4).toNatClampNeg) = some (r, h1)) (hG : f_Mod_rests N h1 (xs (i + 1).toNatClampNeg) (xs (i + 2).toNatClampNeg) (xs (i + 3).toNatClampNeg) (xs (i + 4).toNatClampNeg) = some (r, h2)) (k : aG X m_law room_1 lwA (lwE b L xs) cs ss (fun _ : Unit => Q) (some ()) 1638 [(0, .ref b), (1, .ref (xa X 0)), (2, .ref (xa X 51)), (3, .ref (xa X 79)), (4, .int i)] [] h2) : aG X m_law room_1 lwA (lwE b L xs) cs ss (fun _ : Unit => Q) (some ()) 1112 [(0, .ref b), (1, .ref (xa X 0)), (2, .ref (xa X 51)), (3, .ref (xa X 79)), (4, .int i)] [] h := by
  refine ro_aload_n (pc := 1112) 1 dL_law_1112 rfl rfl ?_
  refine ro_aload_n (pc := 1113) 0 dL_law_1113 rfl rfl ?_
  refine ro_iload (pc := 1114) 4 dL_law_1114 rfl ?_
  refine ro_iconst (v := 1) (pc := 1116) dL_law_1116 (by decide) ?_
  refine ro_iadd (pc := 1117) dL_law_1117 ?_
  refine ao_sld (pc := 1118) hx1 dL_law_1118 ?_
  refine ro_aload_n (pc := 1119) 0 dL_law_1119 rfl rfl ?_
  refine ro_iload (pc := 1120) 4 dL_law_1120 rfl ?_
  refine ro_iconst (v := 2) (pc := 1122) dL_law_1122 (by decide) ?_
  refine ro_iadd (pc := 1123) dL_law_1123 ?_
  refine ao_sld (pc := 1124) hx2 dL_law_1124 ?_
  refine ro_aload_n (pc := 1125) 0 dL_law_1125 rfl rfl ?_
  refine ro_iload (pc := 1126) 4 dL_law_1126 rfl ?_
  refine ro_iconst (v := 3) (pc := 1128) dL_law_1128 (by decide) ?_
  refine ro_iadd (pc := 1129) dL_law_1129 ?_
  refine ao_sld (pc := 1130) hx3 dL_law_1130 ?_
  refine ro_aload_n (pc := 1131) 0 dL_law_1131 rfl rfl ?_
  refine ro_iload (pc := 1132) 4 dL_law_1132 rfl ?_
  refine ro_iconst (v := 4) (pc := 1134) dL_law_1134 (by decide) ?_
  refine ro_iadd (pc := 1135) dL_law_1135 ?_
  refine ao_sld (pc := 1136) hx4 dL_law_1136 ?_
  refine ao_cv (pc := 1137) (kc := 8) (avs := [.int (xs (i + 1).toNatClampNeg), .int (xs (i + 2).toNatClampNeg), .int (xs (i + 3).toNatClampNeg), .int (xs (i + 4).toNatClampNeg)]) (st := []) ok_Owe_rests wd_1012 cl_0 cv_0 rfl ⟨by decide, by decide⟩ hcs (c_Owe_rests X N h (xs (i + 1).toNatClampNeg) (xs (i + 2).toNatClampNeg) (xs (i + 3).toNatClampNeg) (xs (i + 4).toNatClampNeg) (r, h1) hF) rfl rfl (Nat.le_of_ble_eq_true rfl) dL_law_1137 ?_
  refine ro_aload_n (pc := 1140) 2 dL_law_1140 rfl rfl ?_
  refine ro_aload_n (pc := 1141) 0 dL_law_1141 rfl rfl ?_
  refine ro_iload (pc := 1142) 4 dL_law_1142 rfl ?_
  refine ro_iconst (v := 1) (pc := 1144) dL_law_1144 (by decide) ?_
  refine ro_iadd (pc := 1145) dL_law_1145 ?_
  refine ao_sld (pc := 1146) hx1 dL_law_1146 ?_
  refine ro_aload_n (pc := 1147) 0 dL_law_1147 rfl rfl ?_
  refine ro_iload (pc := 1148) 4 dL_law_1148 rfl ?_
  refine ro_iconst (v := 2) (pc := 1150) dL_law_1150 (by decide) ?_
  refine ro_iadd (pc := 1151) dL_law_1151 ?_
  refine ao_sld (pc := 1152) hx2 dL_law_1152 ?_
  refine ro_aload_n (pc := 1153) 0 dL_law_1153 rfl rfl ?_
  refine ro_iload (pc := 1154) 4 dL_law_1154 rfl ?_
  refine ro_iconst (v := 3) (pc := 1156) dL_law_1156 (by decide) ?_
  refine ro_iadd (pc := 1157) dL_law_1157 ?_
  refine ao_sld (pc := 1158) hx3 dL_law_1158 ?_
  refine ro_aload_n (pc := 1159) 0 dL_law_1159 rfl rfl ?_
  refine ro_iload (pc := 1160) 4 dL_law_1160 rfl ?_
  refine ro_iconst (v := 4) (pc := 1162) dL_law_1162 (by decide) ?_
  refine ro_iadd (pc := 1163) dL_law_1163 ?_
  refine ao_sld (pc := 1164) hx4 dL_law_1164 ?_
  refine ao_cv (pc := 1165) (kc := 10) (avs := [.int (xs (i + 1).toNatClampNeg), .int (xs (i + 2).toNatClampNeg), .int (xs (i + 3).toNatClampNeg), .int (xs (i + 4).toNatClampNeg)]) (st := [.int r]) ok_Mod_rests wd_1815 cl_51 cv_51 rfl ⟨by decide, by decide⟩ hcs (c_Mod_rests X N h1 (xs (i + 1).toNatClampNeg) (xs (i + 2).toNatClampNeg) (xs (i + 3).toNatClampNeg) (xs (i + 4).toNatClampNeg) (r, h2) hG) rfl rfl (Nat.le_of_ble_eq_true rfl) dL_law_1165 ?_
  refine ao_icmp_eq_t (tgt := 1638) (pc := 1168) dL_law_1168 (by decide) rfl ?_
  exact k
theorem lc_24 {X : mu_X} {b L : Nat} {xs : Nat → Int32} {cs ss N : Nat} {Q : mu_Q} {i r : Int32} {h h1 h2 : mu_H} (hcs : cs ≤ room_1.cells ∧ ss ≤ room_1.slots) (hx1 : ix (i + 1) L = true) (hx2 : ix (i + 2) L = true) (hx3 : ix (i + 3) L = true) (hx4 : ix (i + 4) L = true) (hx5 : ix (i + 5) L = true) (hx6 : ix (i + 6) L = true) (hF : f_Owe_road N h (xs (i + 1).toNatClampNeg) = some (r, h1)) (hG : f_Mod_road N h1 (xs (i + 1).toNatClampNeg) = some (r, h2)) (k : aG X m_law room_1 lwA (lwE b L xs) cs ss (fun _ : Unit => Q) (some ()) 1638 [(0, .ref b), (1, .ref (xa X 0)), (2, .ref (xa X 51)), (3, .ref (xa X 79)), (4, .int i)] [] h2) : aG X m_law room_1 lwA (lwE b L xs) cs ss (fun _ : Unit => Q) (some ()) 1173 [(0, .ref b), (1, .ref (xa X 0)), (2, .ref (xa X 51)), (3, .ref (xa X 79)), (4, .int i)] [] h := by
  refine ro_aload_n (pc := 1173) 1 dL_law_1173 rfl rfl ?_
  refine ro_aload_n (pc := 1174) 0 dL_law_1174 rfl rfl ?_
  refine ro_iload (pc := 1175) 4 dL_law_1175 rfl ?_
  refine ro_iconst (v := 1) (pc := 1177) dL_law_1177 (by decide) ?_
  refine ro_iadd (pc := 1178) dL_law_1178 ?_
  refine ao_sld (pc := 1179) hx1 dL_law_1179 ?_
  refine ao_cv (pc := 1180) (kc := 3) (avs := [.int (xs (i + 1).toNatClampNeg)]) (st := []) ok_Owe_road wd_1028 cl_0 cv_0 rfl ⟨by decide, by decide⟩ hcs (c_Owe_road X N h (xs (i + 1).toNatClampNeg) (r, h1) hF) rfl rfl (Nat.le_of_ble_eq_true rfl) dL_law_1180 ?_
  refine ro_aload_n (pc := 1183) 2 dL_law_1183 rfl rfl ?_
  refine ro_aload_n (pc := 1184) 0 dL_law_1184 rfl rfl ?_
  refine ro_iload (pc := 1185) 4 dL_law_1185 rfl ?_
  refine ro_iconst (v := 1) (pc := 1187) dL_law_1187 (by decide) ?_
  refine ro_iadd (pc := 1188) dL_law_1188 ?_
  refine ao_sld (pc := 1189) hx1 dL_law_1189 ?_
  refine ao_cv (pc := 1190) (kc := 15) (avs := [.int (xs (i + 1).toNatClampNeg)]) (st := [.int r]) ok_Mod_road wd_1823 cl_51 cv_51 rfl ⟨by decide, by decide⟩ hcs (c_Mod_road X N h1 (xs (i + 1).toNatClampNeg) (r, h2) hG) rfl rfl (Nat.le_of_ble_eq_true rfl) dL_law_1190 ?_
  refine ao_icmp_eq_t (tgt := 1638) (pc := 1193) dL_law_1193 (by decide) rfl ?_
  exact k
theorem lc_25 {X : mu_X} {b L : Nat} {xs : Nat → Int32} {cs ss N : Nat} {Q : mu_Q} {i r : Int32} {h h1 h2 : mu_H} (hcs : cs ≤ room_1.cells ∧ ss ≤ room_1.slots) (hx1 : ix (i + 1) L = true) (hx2 : ix (i + 2) L = true) (hx3 : ix (i + 3) L = true) (hx4 : ix (i + 4) L = true) (hx5 : ix (i + 5) L = true) (hx6 : ix (i + 6) L = true) (hF : f_Owe_shares N h (xs (i + 1).toNatClampNeg) (xs (i + 2).toNatClampNeg) = some (r, h1)) (hG : f_Mod_shares N h1 (xs (i + 1).toNatClampNeg) (xs (i + 2).toNatClampNeg) = some (r, h2)) (k : aG X m_law room_1 lwA (lwE b L xs) cs ss (fun _ : Unit => Q) (some ()) 1638 [(0, .ref b), (1, .ref (xa X 0)), (2, .ref (xa X 51)), (3, .ref (xa X 79)), (4, .int i)] [] h2) : aG X m_law room_1 lwA (lwE b L xs) cs ss (fun _ : Unit => Q) (some ()) 1198 [(0, .ref b), (1, .ref (xa X 0)), (2, .ref (xa X 51)), (3, .ref (xa X 79)), (4, .int i)] [] h := by
  refine ro_aload_n (pc := 1198) 1 dL_law_1198 rfl rfl ?_
  refine ro_aload_n (pc := 1199) 0 dL_law_1199 rfl rfl ?_
  refine ro_iload (pc := 1200) 4 dL_law_1200 rfl ?_
  refine ro_iconst (v := 1) (pc := 1202) dL_law_1202 (by decide) ?_
  refine ro_iadd (pc := 1203) dL_law_1203 ?_
  refine ao_sld (pc := 1204) hx1 dL_law_1204 ?_
  refine ro_aload_n (pc := 1205) 0 dL_law_1205 rfl rfl ?_
  refine ro_iload (pc := 1206) 4 dL_law_1206 rfl ?_
  refine ro_iconst (v := 2) (pc := 1208) dL_law_1208 (by decide) ?_
  refine ro_iadd (pc := 1209) dL_law_1209 ?_
  refine ao_sld (pc := 1210) hx2 dL_law_1210 ?_
  refine ao_cv (pc := 1211) (kc := 5) (avs := [.int (xs (i + 1).toNatClampNeg), .int (xs (i + 2).toNatClampNeg)]) (st := []) ok_Owe_shares wd_1039 cl_0 cv_0 rfl ⟨by decide, by decide⟩ hcs (c_Owe_shares X N h (xs (i + 1).toNatClampNeg) (xs (i + 2).toNatClampNeg) (r, h1) hF) rfl rfl (Nat.le_of_ble_eq_true rfl) dL_law_1211 ?_
  refine ro_aload_n (pc := 1214) 2 dL_law_1214 rfl rfl ?_
  refine ro_aload_n (pc := 1215) 0 dL_law_1215 rfl rfl ?_
  refine ro_iload (pc := 1216) 4 dL_law_1216 rfl ?_
  refine ro_iconst (v := 1) (pc := 1218) dL_law_1218 (by decide) ?_
  refine ro_iadd (pc := 1219) dL_law_1219 ?_
  refine ao_sld (pc := 1220) hx1 dL_law_1220 ?_
  refine ro_aload_n (pc := 1221) 0 dL_law_1221 rfl rfl ?_
  refine ro_iload (pc := 1222) 4 dL_law_1222 rfl ?_
  refine ro_iconst (v := 2) (pc := 1224) dL_law_1224 (by decide) ?_
  refine ro_iadd (pc := 1225) dL_law_1225 ?_
  refine ao_sld (pc := 1226) hx2 dL_law_1226 ?_
  refine ao_cv (pc := 1227) (kc := 16) (avs := [.int (xs (i + 1).toNatClampNeg), .int (xs (i + 2).toNatClampNeg)]) (st := [.int r]) ok_Mod_shares wd_1831 cl_51 cv_51 rfl ⟨by decide, by decide⟩ hcs (c_Mod_shares X N h1 (xs (i + 1).toNatClampNeg) (xs (i + 2).toNatClampNeg) (r, h2) hG) rfl rfl (Nat.le_of_ble_eq_true rfl) dL_law_1227 ?_
  refine ao_icmp_eq_t (tgt := 1638) (pc := 1230) dL_law_1230 (by decide) rfl ?_
  exact k
theorem lc_26_z {X : mu_X} {b L : Nat} {xs : Nat → Int32} {cs ss N : Nat} {Q : mu_Q} {i r : Int32} {h h1 h2 : mu_H} (hcs : cs ≤ room_1.cells ∧ ss ≤ room_1.slots) (hx1 : ix (i + 1) L = true) (hx2 : ix (i + 2) L = true) (hx3 : ix (i + 3) L = true) (hx4 : ix (i + 4) L = true) (hx5 : ix (i + 5) L = true) (hx6 : ix (i + 6) L = true) (hz : xs (i + 2).toNatClampNeg = 0) (hF : f_Owe_seen N h (xs (i + 1).toNatClampNeg) 0 = some (r, h1)) (hG : f_Mod_seen N h1 (xs (i + 1).toNatClampNeg) 0 = some (r, h2)) (k : aG X m_law room_1 lwA (lwE b L xs) cs ss (fun _ : Unit => Q) (some ()) 1638 [(0, .ref b), (1, .ref (xa X 0)), (2, .ref (xa X 51)), (3, .ref (xa X 79)), (4, .int i)] [] h2) : aG X m_law room_1 lwA (lwE b L xs) cs ss (fun _ : Unit => Q) (some ()) 1235 [(0, .ref b), (1, .ref (xa X 0)), (2, .ref (xa X 51)), (3, .ref (xa X 79)), (4, .int i)] [] h := by
  refine ro_aload_n (pc := 1235) 1 dL_law_1235 rfl rfl ?_
  refine ro_aload_n (pc := 1236) 0 dL_law_1236 rfl rfl ?_
  refine ro_iload (pc := 1237) 4 dL_law_1237 rfl ?_
  refine ro_iconst (v := 1) (pc := 1239) dL_law_1239 (by decide) ?_
  refine ro_iadd (pc := 1240) dL_law_1240 ?_
  refine ao_sld (pc := 1241) hx1 dL_law_1241 ?_
  refine ro_aload_n (pc := 1242) 0 dL_law_1242 rfl rfl ?_
  refine ro_iload (pc := 1243) 4 dL_law_1243 rfl ?_
  refine ro_iconst (v := 2) (pc := 1245) dL_law_1245 (by decide) ?_
  refine ro_iadd (pc := 1246) dL_law_1246 ?_
  refine ao_sld (pc := 1247) hx2 dL_law_1247 ?_
  refine ao_if_eq_t (tgt := 1255) (pc := 1248) dL_law_1248 (by decide) hz ?_
  refine ro_iconst (v := 0) (pc := 1255) dL_law_1255 (by decide) ?_
  refine ao_cv (pc := 1256) (kc := 4) (avs := [.int (xs (i + 1).toNatClampNeg), .int 0]) (st := []) ok_Owe_seen wd_1054 cl_0 cv_0 rfl ⟨by decide, by decide⟩ hcs (c_Owe_seen X N h (xs (i + 1).toNatClampNeg) 0 (r, h1) hF) rfl rfl (Nat.le_of_ble_eq_true rfl) dL_law_1256 ?_
  refine ro_aload_n (pc := 1259) 2 dL_law_1259 rfl rfl ?_
  refine ro_aload_n (pc := 1260) 0 dL_law_1260 rfl rfl ?_
  refine ro_iload (pc := 1261) 4 dL_law_1261 rfl ?_
  refine ro_iconst (v := 1) (pc := 1263) dL_law_1263 (by decide) ?_
  refine ro_iadd (pc := 1264) dL_law_1264 ?_
  refine ao_sld (pc := 1265) hx1 dL_law_1265 ?_
  refine ro_aload_n (pc := 1266) 0 dL_law_1266 rfl rfl ?_
  refine ro_iload (pc := 1267) 4 dL_law_1267 rfl ?_
  refine ro_iconst (v := 2) (pc := 1269) dL_law_1269 (by decide) ?_
  refine ro_iadd (pc := 1270) dL_law_1270 ?_
  refine ao_sld (pc := 1271) hx2 dL_law_1271 ?_
  refine ao_if_eq_t (tgt := 1279) (pc := 1272) dL_law_1272 (by decide) hz ?_
  refine ro_iconst (v := 0) (pc := 1279) dL_law_1279 (by decide) ?_
  refine ao_cv (pc := 1280) (kc := 2) (avs := [.int (xs (i + 1).toNatClampNeg), .int 0]) (st := [.int r]) ok_Mod_seen wd_1847 cl_51 cv_51 rfl ⟨by decide, by decide⟩ hcs (c_Mod_seen X N h1 (xs (i + 1).toNatClampNeg) 0 (r, h2) hG) rfl rfl (Nat.le_of_ble_eq_true rfl) dL_law_1280 ?_
  refine ao_icmp_eq_t (tgt := 1638) (pc := 1283) dL_law_1283 (by decide) rfl ?_
  exact k
theorem lc_26_n {X : mu_X} {b L : Nat} {xs : Nat → Int32} {cs ss N : Nat} {Q : mu_Q} {i r : Int32} {h h1 h2 : mu_H} (hcs : cs ≤ room_1.cells ∧ ss ≤ room_1.slots) (hx1 : ix (i + 1) L = true) (hx2 : ix (i + 2) L = true) (hx3 : ix (i + 3) L = true) (hx4 : ix (i + 4) L = true) (hx5 : ix (i + 5) L = true) (hx6 : ix (i + 6) L = true) (hz : ¬ xs (i + 2).toNatClampNeg = 0) (hF : f_Owe_seen N h (xs (i + 1).toNatClampNeg) 1 = some (r, h1)) (hG : f_Mod_seen N h1 (xs (i + 1).toNatClampNeg) 1 = some (r, h2)) (k : aG X m_law room_1 lwA (lwE b L xs) cs ss (fun _ : Unit => Q) (some ()) 1638 [(0, .ref b), (1, .ref (xa X 0)), (2, .ref (xa X 51)), (3, .ref (xa X 79)), (4, .int i)] [] h2) : aG X m_law room_1 lwA (lwE b L xs) cs ss (fun _ : Unit => Q) (some ()) 1235 [(0, .ref b), (1, .ref (xa X 0)), (2, .ref (xa X 51)), (3, .ref (xa X 79)), (4, .int i)] [] h := by
  refine ro_aload_n (pc := 1235) 1 dL_law_1235 rfl rfl ?_
  refine ro_aload_n (pc := 1236) 0 dL_law_1236 rfl rfl ?_
  refine ro_iload (pc := 1237) 4 dL_law_1237 rfl ?_
  refine ro_iconst (v := 1) (pc := 1239) dL_law_1239 (by decide) ?_
  refine ro_iadd (pc := 1240) dL_law_1240 ?_
  refine ao_sld (pc := 1241) hx1 dL_law_1241 ?_
  refine ro_aload_n (pc := 1242) 0 dL_law_1242 rfl rfl ?_
  refine ro_iload (pc := 1243) 4 dL_law_1243 rfl ?_
  refine ro_iconst (v := 2) (pc := 1245) dL_law_1245 (by decide) ?_
  refine ro_iadd (pc := 1246) dL_law_1246 ?_
  refine ao_sld (pc := 1247) hx2 dL_law_1247 ?_
  refine ao_if_eq_f (tgt := 1255) (pc := 1248) dL_law_1248 (by decide) hz ?_
  refine ro_iconst (v := 1) (pc := 1251) dL_law_1251 (by decide) ?_
  refine ro_goto (tgt := 1256) (pc := 1252) dL_law_1252 (by decide) ?_
  refine ao_cv (pc := 1256) (kc := 4) (avs := [.int (xs (i + 1).toNatClampNeg), .int 1]) (st := []) ok_Owe_seen wd_1054 cl_0 cv_0 rfl ⟨by decide, by decide⟩ hcs (c_Owe_seen X N h (xs (i + 1).toNatClampNeg) 1 (r, h1) hF) rfl rfl (Nat.le_of_ble_eq_true rfl) dL_law_1256 ?_
  refine ro_aload_n (pc := 1259) 2 dL_law_1259 rfl rfl ?_
  refine ro_aload_n (pc := 1260) 0 dL_law_1260 rfl rfl ?_
  refine ro_iload (pc := 1261) 4 dL_law_1261 rfl ?_
  refine ro_iconst (v := 1) (pc := 1263) dL_law_1263 (by decide) ?_
  refine ro_iadd (pc := 1264) dL_law_1264 ?_
  refine ao_sld (pc := 1265) hx1 dL_law_1265 ?_
  refine ro_aload_n (pc := 1266) 0 dL_law_1266 rfl rfl ?_
  refine ro_iload (pc := 1267) 4 dL_law_1267 rfl ?_
  refine ro_iconst (v := 2) (pc := 1269) dL_law_1269 (by decide) ?_
  refine ro_iadd (pc := 1270) dL_law_1270 ?_
  refine ao_sld (pc := 1271) hx2 dL_law_1271 ?_
  refine ao_if_eq_f (tgt := 1279) (pc := 1272) dL_law_1272 (by decide) hz ?_
  refine ro_iconst (v := 1) (pc := 1275) dL_law_1275 (by decide) ?_
  refine ro_goto (tgt := 1280) (pc := 1276) dL_law_1276 (by decide) ?_
  refine ao_cv (pc := 1280) (kc := 2) (avs := [.int (xs (i + 1).toNatClampNeg), .int 1]) (st := [.int r]) ok_Mod_seen wd_1847 cl_51 cv_51 rfl ⟨by decide, by decide⟩ hcs (c_Mod_seen X N h1 (xs (i + 1).toNatClampNeg) 1 (r, h2) hG) rfl rfl (Nat.le_of_ble_eq_true rfl) dL_law_1280 ?_
  refine ao_icmp_eq_t (tgt := 1638) (pc := 1283) dL_law_1283 (by decide) rfl ?_
  exact k
theorem lc_27 {X : mu_X} {b L : Nat} {xs : Nat → Int32} {cs ss N : Nat} {Q : mu_Q} {i r : Int32} {h : mu_H} (hcs : cs ≤ room_1.cells ∧ ss ≤ room_1.slots) (hx1 : ix (i + 1) L = true) (hx2 : ix (i + 2) L = true) (hx3 : ix (i + 3) L = true) (hx4 : ix (i + 4) L = true) (hx5 : ix (i + 5) L = true) (hx6 : ix (i + 6) L = true) (hF : f_Owe_feigned N h (xs (i + 1).toNatClampNeg) (xs (i + 2).toNatClampNeg) = some r) (hG : f_Mod_feigned N h (xs (i + 1).toNatClampNeg) (xs (i + 2).toNatClampNeg) = some r) (k : aG X m_law room_1 lwA (lwE b L xs) cs ss (fun _ : Unit => Q) (some ()) 1638 [(0, .ref b), (1, .ref (xa X 0)), (2, .ref (xa X 51)), (3, .ref (xa X 79)), (4, .int i)] [] h) : aG X m_law room_1 lwA (lwE b L xs) cs ss (fun _ : Unit => Q) (some ()) 1288 [(0, .ref b), (1, .ref (xa X 0)), (2, .ref (xa X 51)), (3, .ref (xa X 79)), (4, .int i)] [] h := by
  refine ro_aload_n (pc := 1288) 1 dL_law_1288 rfl rfl ?_
  refine ro_aload_n (pc := 1289) 0 dL_law_1289 rfl rfl ?_
  refine ro_iload (pc := 1290) 4 dL_law_1290 rfl ?_
  refine ro_iconst (v := 1) (pc := 1292) dL_law_1292 (by decide) ?_
  refine ro_iadd (pc := 1293) dL_law_1293 ?_
  refine ao_sld (pc := 1294) hx1 dL_law_1294 ?_
  refine ro_aload_n (pc := 1295) 0 dL_law_1295 rfl rfl ?_
  refine ro_iload (pc := 1296) 4 dL_law_1296 rfl ?_
  refine ro_iconst (v := 2) (pc := 1298) dL_law_1298 (by decide) ?_
  refine ro_iadd (pc := 1299) dL_law_1299 ?_
  refine ao_sld (pc := 1300) hx2 dL_law_1300 ?_
  refine ao_cv (pc := 1301) (kc := 4) (avs := [.int (xs (i + 1).toNatClampNeg), .int (xs (i + 2).toNatClampNeg)]) (st := []) ok_Owe_feigned wd_1067 cl_0 cv_0 rfl ⟨by decide, by decide⟩ hcs (c_Owe_feigned X N h (xs (i + 1).toNatClampNeg) (xs (i + 2).toNatClampNeg) r hF) rfl rfl (Nat.le_of_ble_eq_true rfl) dL_law_1301 ?_
  refine ro_aload_n (pc := 1304) 2 dL_law_1304 rfl rfl ?_
  refine ro_aload_n (pc := 1305) 0 dL_law_1305 rfl rfl ?_
  refine ro_iload (pc := 1306) 4 dL_law_1306 rfl ?_
  refine ro_iconst (v := 1) (pc := 1308) dL_law_1308 (by decide) ?_
  refine ro_iadd (pc := 1309) dL_law_1309 ?_
  refine ao_sld (pc := 1310) hx1 dL_law_1310 ?_
  refine ro_aload_n (pc := 1311) 0 dL_law_1311 rfl rfl ?_
  refine ro_iload (pc := 1312) 4 dL_law_1312 rfl ?_
  refine ro_iconst (v := 2) (pc := 1314) dL_law_1314 (by decide) ?_
  refine ro_iadd (pc := 1315) dL_law_1315 ?_
  refine ao_sld (pc := 1316) hx2 dL_law_1316 ?_
  refine ao_cv (pc := 1317) (kc := 3) (avs := [.int (xs (i + 1).toNatClampNeg), .int (xs (i + 2).toNatClampNeg)]) (st := [.int r]) ok_Mod_feigned wd_1851 cl_51 cv_51 rfl ⟨by decide, by decide⟩ hcs (c_Mod_feigned X N h (xs (i + 1).toNatClampNeg) (xs (i + 2).toNatClampNeg) r hG) rfl rfl (Nat.le_of_ble_eq_true rfl) dL_law_1317 ?_
  refine ao_icmp_eq_t (tgt := 1638) (pc := 1320) dL_law_1320 (by decide) rfl ?_
  exact k
theorem lc_28 {X : mu_X} {b L : Nat} {xs : Nat → Int32} {cs ss N : Nat} {Q : mu_Q} {i r : Int32} {h : mu_H} (hcs : cs ≤ room_1.cells ∧ ss ≤ room_1.slots) (hx1 : ix (i + 1) L = true) (hx2 : ix (i + 2) L = true) (hx3 : ix (i + 3) L = true) (hx4 : ix (i + 4) L = true) (hx5 : ix (i + 5) L = true) (hx6 : ix (i + 6) L = true) (hF : f_Owe_honest N h (xs (i + 1).toNatClampNeg) = some r) (hG : f_Mod_honest N h (xs (i + 1).toNatClampNeg) = some r) (k : aG X m_law room_1 lwA (lwE b L xs) cs ss (fun _ : Unit => Q) (some ()) 1638 [(0, .ref b), (1, .ref (xa X 0)), (2, .ref (xa X 51)), (3, .ref (xa X 79)), (4, .int i)] [] h) : aG X m_law room_1 lwA (lwE b L xs) cs ss (fun _ : Unit => Q) (some ()) 1325 [(0, .ref b), (1, .ref (xa X 0)), (2, .ref (xa X 51)), (3, .ref (xa X 79)), (4, .int i)] [] h := by
  refine ro_aload_n (pc := 1325) 1 dL_law_1325 rfl rfl ?_
  refine ro_aload_n (pc := 1326) 0 dL_law_1326 rfl rfl ?_
  refine ro_iload (pc := 1327) 4 dL_law_1327 rfl ?_
  refine ro_iconst (v := 1) (pc := 1329) dL_law_1329 (by decide) ?_
  refine ro_iadd (pc := 1330) dL_law_1330 ?_
  refine ao_sld (pc := 1331) hx1 dL_law_1331 ?_
  refine ao_cv (pc := 1332) (kc := 4) (avs := [.int (xs (i + 1).toNatClampNeg)]) (st := []) ok_Owe_honest wd_1094 cl_0 cv_0 rfl ⟨by decide, by decide⟩ hcs (c_Owe_honest X N h (xs (i + 1).toNatClampNeg) r hF) rfl rfl (Nat.le_of_ble_eq_true rfl) dL_law_1332 ?_
  refine ro_aload_n (pc := 1335) 2 dL_law_1335 rfl rfl ?_
  refine ro_aload_n (pc := 1336) 0 dL_law_1336 rfl rfl ?_
  refine ro_iload (pc := 1337) 4 dL_law_1337 rfl ?_
  refine ro_iconst (v := 1) (pc := 1339) dL_law_1339 (by decide) ?_
  refine ro_iadd (pc := 1340) dL_law_1340 ?_
  refine ao_sld (pc := 1341) hx1 dL_law_1341 ?_
  refine ao_cv (pc := 1342) (kc := 4) (avs := [.int (xs (i + 1).toNatClampNeg)]) (st := [.int r]) ok_Mod_honest wd_1864 cl_51 cv_51 rfl ⟨by decide, by decide⟩ hcs (c_Mod_honest X N h (xs (i + 1).toNatClampNeg) r hG) rfl rfl (Nat.le_of_ble_eq_true rfl) dL_law_1342 ?_
  refine ao_icmp_eq_t (tgt := 1638) (pc := 1345) dL_law_1345 (by decide) rfl ?_
  exact k
theorem lc_29 {X : mu_X} {b L : Nat} {xs : Nat → Int32} {cs ss N : Nat} {Q : mu_Q} {i r : Int32} {h : mu_H} (hcs : cs ≤ room_1.cells ∧ ss ≤ room_1.slots) (hx1 : ix (i + 1) L = true) (hx2 : ix (i + 2) L = true) (hx3 : ix (i + 3) L = true) (hx4 : ix (i + 4) L = true) (hx5 : ix (i + 5) L = true) (hx6 : ix (i + 6) L = true) (hF : f_Owe_best N h (xs (i + 1).toNatClampNeg) = some r) (hG : f_Mod_best N h (xs (i + 1).toNatClampNeg) = some r) (k : aG X m_law room_1 lwA (lwE b L xs) cs ss (fun _ : Unit => Q) (some ()) 1638 [(0, .ref b), (1, .ref (xa X 0)), (2, .ref (xa X 51)), (3, .ref (xa X 79)), (4, .int i)] [] h) : aG X m_law room_1 lwA (lwE b L xs) cs ss (fun _ : Unit => Q) (some ()) 1350 [(0, .ref b), (1, .ref (xa X 0)), (2, .ref (xa X 51)), (3, .ref (xa X 79)), (4, .int i)] [] h := by
  refine ro_aload_n (pc := 1350) 1 dL_law_1350 rfl rfl ?_
  refine ro_aload_n (pc := 1351) 0 dL_law_1351 rfl rfl ?_
  refine ro_iload (pc := 1352) 4 dL_law_1352 rfl ?_
  refine ro_iconst (v := 1) (pc := 1354) dL_law_1354 (by decide) ?_
  refine ro_iadd (pc := 1355) dL_law_1355 ?_
  refine ao_sld (pc := 1356) hx1 dL_law_1356 ?_
  refine ao_cv (pc := 1357) (kc := 5) (avs := [.int (xs (i + 1).toNatClampNeg)]) (st := []) ok_Owe_best wd_1102 cl_0 cv_0 rfl ⟨by decide, by decide⟩ hcs (c_Owe_best X N h (xs (i + 1).toNatClampNeg) r hF) rfl rfl (Nat.le_of_ble_eq_true rfl) dL_law_1357 ?_
  refine ro_aload_n (pc := 1360) 2 dL_law_1360 rfl rfl ?_
  refine ro_aload_n (pc := 1361) 0 dL_law_1361 rfl rfl ?_
  refine ro_iload (pc := 1362) 4 dL_law_1362 rfl ?_
  refine ro_iconst (v := 1) (pc := 1364) dL_law_1364 (by decide) ?_
  refine ro_iadd (pc := 1365) dL_law_1365 ?_
  refine ao_sld (pc := 1366) hx1 dL_law_1366 ?_
  refine ao_cv (pc := 1367) (kc := 4) (avs := [.int (xs (i + 1).toNatClampNeg)]) (st := [.int r]) ok_Mod_best wd_1869 cl_51 cv_51 rfl ⟨by decide, by decide⟩ hcs (c_Mod_best X N h (xs (i + 1).toNatClampNeg) r hG) rfl rfl (Nat.le_of_ble_eq_true rfl) dL_law_1367 ?_
  refine ao_icmp_eq_t (tgt := 1638) (pc := 1370) dL_law_1370 (by decide) rfl ?_
  exact k
theorem lc_30 {X : mu_X} {b L : Nat} {xs : Nat → Int32} {cs ss N : Nat} {Q : mu_Q} {i r : Int32} {h h1 h2 : mu_H} (hcs : cs ≤ room_1.cells ∧ ss ≤ room_1.slots) (hx1 : ix (i + 1) L = true) (hx2 : ix (i + 2) L = true) (hx3 : ix (i + 3) L = true) (hx4 : ix (i + 4) L = true) (hx5 : ix (i + 5) L = true) (hx6 : ix (i + 6) L = true) (hF : f_Owe_whose N h (xs (i + 1).toNatClampNeg) (xs (i + 2).toNatClampNeg) = some (r, h1)) (hG : f_Mod_whose N h1 (xs (i + 1).toNatClampNeg) (xs (i + 2).toNatClampNeg) = some (r, h2)) (k : aG X m_law room_1 lwA (lwE b L xs) cs ss (fun _ : Unit => Q) (some ()) 1638 [(0, .ref b), (1, .ref (xa X 0)), (2, .ref (xa X 51)), (3, .ref (xa X 79)), (4, .int i)] [] h2) : aG X m_law room_1 lwA (lwE b L xs) cs ss (fun _ : Unit => Q) (some ()) 1375 [(0, .ref b), (1, .ref (xa X 0)), (2, .ref (xa X 51)), (3, .ref (xa X 79)), (4, .int i)] [] h := by
  refine ro_aload_n (pc := 1375) 1 dL_law_1375 rfl rfl ?_
  refine ro_aload_n (pc := 1376) 0 dL_law_1376 rfl rfl ?_
  refine ro_iload (pc := 1377) 4 dL_law_1377 rfl ?_
  refine ro_iconst (v := 1) (pc := 1379) dL_law_1379 (by decide) ?_
  refine ro_iadd (pc := 1380) dL_law_1380 ?_
  refine ao_sld (pc := 1381) hx1 dL_law_1381 ?_
  refine ro_aload_n (pc := 1382) 0 dL_law_1382 rfl rfl ?_
  refine ro_iload (pc := 1383) 4 dL_law_1383 rfl ?_
  refine ro_iconst (v := 2) (pc := 1385) dL_law_1385 (by decide) ?_
  refine ro_iadd (pc := 1386) dL_law_1386 ?_
  refine ao_sld (pc := 1387) hx2 dL_law_1387 ?_
  refine ao_cv (pc := 1388) (kc := 8) (avs := [.int (xs (i + 1).toNatClampNeg), .int (xs (i + 2).toNatClampNeg)]) (st := []) ok_Owe_whose wd_1118 cl_0 cv_0 rfl ⟨by decide, by decide⟩ hcs (c_Owe_whose X N h (xs (i + 1).toNatClampNeg) (xs (i + 2).toNatClampNeg) (r, h1) hF) rfl rfl (Nat.le_of_ble_eq_true rfl) dL_law_1388 ?_
  refine ro_aload_n (pc := 1391) 2 dL_law_1391 rfl rfl ?_
  refine ro_aload_n (pc := 1392) 0 dL_law_1392 rfl rfl ?_
  refine ro_iload (pc := 1393) 4 dL_law_1393 rfl ?_
  refine ro_iconst (v := 1) (pc := 1395) dL_law_1395 (by decide) ?_
  refine ro_iadd (pc := 1396) dL_law_1396 ?_
  refine ao_sld (pc := 1397) hx1 dL_law_1397 ?_
  refine ro_aload_n (pc := 1398) 0 dL_law_1398 rfl rfl ?_
  refine ro_iload (pc := 1399) 4 dL_law_1399 rfl ?_
  refine ro_iconst (v := 2) (pc := 1401) dL_law_1401 (by decide) ?_
  refine ro_iadd (pc := 1402) dL_law_1402 ?_
  refine ao_sld (pc := 1403) hx2 dL_law_1403 ?_
  refine ao_cv (pc := 1404) (kc := 8) (avs := [.int (xs (i + 1).toNatClampNeg), .int (xs (i + 2).toNatClampNeg)]) (st := [.int r]) ok_Mod_whose wd_1874 cl_51 cv_51 rfl ⟨by decide, by decide⟩ hcs (c_Mod_whose X N h1 (xs (i + 1).toNatClampNeg) (xs (i + 2).toNatClampNeg) (r, h2) hG) rfl rfl (Nat.le_of_ble_eq_true rfl) dL_law_1404 ?_
  refine ao_icmp_eq_t (tgt := 1638) (pc := 1407) dL_law_1407 (by decide) rfl ?_
  exact k
theorem lc_31 {X : mu_X} {b L : Nat} {xs : Nat → Int32} {cs ss N : Nat} {Q : mu_Q} {i r : Int32} {h h2 : mu_H} (hcs : cs ≤ room_1.cells ∧ ss ≤ room_1.slots) (hx1 : ix (i + 1) L = true) (hx2 : ix (i + 2) L = true) (hx3 : ix (i + 3) L = true) (hx4 : ix (i + 4) L = true) (hx5 : ix (i + 5) L = true) (hx6 : ix (i + 6) L = true) (hF : f_Owe_fails N h (xs (i + 1).toNatClampNeg) = some r) (hG : f_Mod_fails N h (xs (i + 1).toNatClampNeg) = some (r, h2)) (k : aG X m_law room_1 lwA (lwE b L xs) cs ss (fun _ : Unit => Q) (some ()) 1638 [(0, .ref b), (1, .ref (xa X 0)), (2, .ref (xa X 51)), (3, .ref (xa X 79)), (4, .int i)] [] h2) : aG X m_law room_1 lwA (lwE b L xs) cs ss (fun _ : Unit => Q) (some ()) 1412 [(0, .ref b), (1, .ref (xa X 0)), (2, .ref (xa X 51)), (3, .ref (xa X 79)), (4, .int i)] [] h := by
  refine ro_aload_n (pc := 1412) 1 dL_law_1412 rfl rfl ?_
  refine ro_aload_n (pc := 1413) 0 dL_law_1413 rfl rfl ?_
  refine ro_iload (pc := 1414) 4 dL_law_1414 rfl ?_
  refine ro_iconst (v := 1) (pc := 1416) dL_law_1416 (by decide) ?_
  refine ro_iadd (pc := 1417) dL_law_1417 ?_
  refine ao_sld (pc := 1418) hx1 dL_law_1418 ?_
  refine ao_cv (pc := 1419) (kc := 5) (avs := [.int (xs (i + 1).toNatClampNeg)]) (st := []) ok_Owe_fails wd_1126 cl_0 cv_0 rfl ⟨by decide, by decide⟩ hcs (c_Owe_fails X N h (xs (i + 1).toNatClampNeg) r hF) rfl rfl (Nat.le_of_ble_eq_true rfl) dL_law_1419 ?_
  refine ro_aload_n (pc := 1422) 2 dL_law_1422 rfl rfl ?_
  refine ro_aload_n (pc := 1423) 0 dL_law_1423 rfl rfl ?_
  refine ro_iload (pc := 1424) 4 dL_law_1424 rfl ?_
  refine ro_iconst (v := 1) (pc := 1426) dL_law_1426 (by decide) ?_
  refine ro_iadd (pc := 1427) dL_law_1427 ?_
  refine ao_sld (pc := 1428) hx1 dL_law_1428 ?_
  refine ao_cv (pc := 1429) (kc := 3) (avs := [.int (xs (i + 1).toNatClampNeg)]) (st := [.int r]) ok_Mod_fails wd_1878 cl_51 cv_51 rfl ⟨by decide, by decide⟩ hcs (c_Mod_fails X N h (xs (i + 1).toNatClampNeg) (r, h2) hG) rfl rfl (Nat.le_of_ble_eq_true rfl) dL_law_1429 ?_
  refine ao_icmp_eq_t (tgt := 1638) (pc := 1432) dL_law_1432 (by decide) rfl ?_
  exact k
theorem lc_32 {X : mu_X} {b L : Nat} {xs : Nat → Int32} {cs ss N : Nat} {Q : mu_Q} {i r : Int32} {h h1 h2 : mu_H} (hcs : cs ≤ room_1.cells ∧ ss ≤ room_1.slots) (hx1 : ix (i + 1) L = true) (hx2 : ix (i + 2) L = true) (hx3 : ix (i + 3) L = true) (hx4 : ix (i + 4) L = true) (hx5 : ix (i + 5) L = true) (hx6 : ix (i + 6) L = true) (hF : f_Owe_odds N h (xs (i + 1).toNatClampNeg) (xs (i + 2).toNatClampNeg) (xs (i + 3).toNatClampNeg) = some (r, h1)) (hG : f_Mod_odds N h1 (xs (i + 1).toNatClampNeg) (xs (i + 2).toNatClampNeg) (xs (i + 3).toNatClampNeg) = some (r, h2)) (k : aG X m_law room_1 lwA (lwE b L xs) cs ss (fun _ : Unit => Q) (some ()) 1638 [(0, .ref b), (1, .ref (xa X 0)), (2, .ref (xa X 51)), (3, .ref (xa X 79)), (4, .int i)] [] h2) : aG X m_law room_1 lwA (lwE b L xs) cs ss (fun _ : Unit => Q) (some ()) 1437 [(0, .ref b), (1, .ref (xa X 0)), (2, .ref (xa X 51)), (3, .ref (xa X 79)), (4, .int i)] [] h := by
  refine ro_aload_n (pc := 1437) 1 dL_law_1437 rfl rfl ?_
  refine ro_aload_n (pc := 1438) 0 dL_law_1438 rfl rfl ?_
  refine ro_iload (pc := 1439) 4 dL_law_1439 rfl ?_
  refine ro_iconst (v := 1) (pc := 1441) dL_law_1441 (by decide) ?_
  refine ro_iadd (pc := 1442) dL_law_1442 ?_
  refine ao_sld (pc := 1443) hx1 dL_law_1443 ?_
  refine ro_aload_n (pc := 1444) 0 dL_law_1444 rfl rfl ?_
  refine ro_iload (pc := 1445) 4 dL_law_1445 rfl ?_
  refine ro_iconst (v := 2) (pc := 1447) dL_law_1447 (by decide) ?_
  refine ro_iadd (pc := 1448) dL_law_1448 ?_
  refine ao_sld (pc := 1449) hx2 dL_law_1449 ?_
  refine ro_aload_n (pc := 1450) 0 dL_law_1450 rfl rfl ?_
  refine ro_iload (pc := 1451) 4 dL_law_1451 rfl ?_
  refine ro_iconst (v := 3) (pc := 1453) dL_law_1453 (by decide) ?_
  refine ro_iadd (pc := 1454) dL_law_1454 ?_
  refine ao_sld (pc := 1455) hx3 dL_law_1455 ?_
  refine ao_cv (pc := 1456) (kc := 5) (avs := [.int (xs (i + 1).toNatClampNeg), .int (xs (i + 2).toNatClampNeg), .int (xs (i + 3).toNatClampNeg)]) (st := []) ok_Owe_odds wd_1142 cl_0 cv_0 rfl ⟨by decide, by decide⟩ hcs (c_Owe_odds X N h (xs (i + 1).toNatClampNeg) (xs (i + 2).toNatClampNeg) (xs (i + 3).toNatClampNeg) (r, h1) hF) rfl rfl (Nat.le_of_ble_eq_true rfl) dL_law_1456 ?_
  refine ro_aload_n (pc := 1459) 2 dL_law_1459 rfl rfl ?_
  refine ro_aload_n (pc := 1460) 0 dL_law_1460 rfl rfl ?_
  refine ro_iload (pc := 1461) 4 dL_law_1461 rfl ?_
  refine ro_iconst (v := 1) (pc := 1463) dL_law_1463 (by decide) ?_
  refine ro_iadd (pc := 1464) dL_law_1464 ?_
  refine ao_sld (pc := 1465) hx1 dL_law_1465 ?_
  refine ro_aload_n (pc := 1466) 0 dL_law_1466 rfl rfl ?_
  refine ro_iload (pc := 1467) 4 dL_law_1467 rfl ?_
  refine ro_iconst (v := 2) (pc := 1469) dL_law_1469 (by decide) ?_
  refine ro_iadd (pc := 1470) dL_law_1470 ?_
  refine ao_sld (pc := 1471) hx2 dL_law_1471 ?_
  refine ro_aload_n (pc := 1472) 0 dL_law_1472 rfl rfl ?_
  refine ro_iload (pc := 1473) 4 dL_law_1473 rfl ?_
  refine ro_iconst (v := 3) (pc := 1475) dL_law_1475 (by decide) ?_
  refine ro_iadd (pc := 1476) dL_law_1476 ?_
  refine ao_sld (pc := 1477) hx3 dL_law_1477 ?_
  refine ao_cv (pc := 1478) (kc := 3) (avs := [.int (xs (i + 1).toNatClampNeg), .int (xs (i + 2).toNatClampNeg), .int (xs (i + 3).toNatClampNeg)]) (st := [.int r]) ok_Mod_odds wd_1886 cl_51 cv_51 rfl ⟨by decide, by decide⟩ hcs (c_Mod_odds X N h1 (xs (i + 1).toNatClampNeg) (xs (i + 2).toNatClampNeg) (xs (i + 3).toNatClampNeg) (r, h2) hG) rfl rfl (Nat.le_of_ble_eq_true rfl) dL_law_1478 ?_
  refine ao_icmp_eq_t (tgt := 1638) (pc := 1481) dL_law_1481 (by decide) rfl ?_
  exact k
theorem lc_33 {X : mu_X} {b L : Nat} {xs : Nat → Int32} {cs ss N : Nat} {Q : mu_Q} {i r : Int32} {h h1 h2 : mu_H} (hcs : cs ≤ room_1.cells ∧ ss ≤ room_1.slots) (hx1 : ix (i + 1) L = true) (hx2 : ix (i + 2) L = true) (hx3 : ix (i + 3) L = true) (hx4 : ix (i + 4) L = true) (hx5 : ix (i + 5) L = true) (hx6 : ix (i + 6) L = true) (hF : f_Owe_toll N h (xs (i + 1).toNatClampNeg) (xs (i + 2).toNatClampNeg) = some (r, h1)) (hG : f_Mod_toll N h1 (xs (i + 1).toNatClampNeg) (xs (i + 2).toNatClampNeg) = some (r, h2)) (k : aG X m_law room_1 lwA (lwE b L xs) cs ss (fun _ : Unit => Q) (some ()) 1638 [(0, .ref b), (1, .ref (xa X 0)), (2, .ref (xa X 51)), (3, .ref (xa X 79)), (4, .int i)] [] h2) : aG X m_law room_1 lwA (lwE b L xs) cs ss (fun _ : Unit => Q) (some ()) 1486 [(0, .ref b), (1, .ref (xa X 0)), (2, .ref (xa X 51)), (3, .ref (xa X 79)), (4, .int i)] [] h := by
  refine ro_aload_n (pc := 1486) 1 dL_law_1486 rfl rfl ?_
  refine ro_aload_n (pc := 1487) 0 dL_law_1487 rfl rfl ?_
  refine ro_iload (pc := 1488) 4 dL_law_1488 rfl ?_
  refine ro_iconst (v := 1) (pc := 1490) dL_law_1490 (by decide) ?_
  refine ro_iadd (pc := 1491) dL_law_1491 ?_
  refine ao_sld (pc := 1492) hx1 dL_law_1492 ?_
  refine ro_aload_n (pc := 1493) 0 dL_law_1493 rfl rfl ?_
  refine ro_iload (pc := 1494) 4 dL_law_1494 rfl ?_
  refine ro_iconst (v := 2) (pc := 1496) dL_law_1496 (by decide) ?_
  refine ro_iadd (pc := 1497) dL_law_1497 ?_
  refine ao_sld (pc := 1498) hx2 dL_law_1498 ?_
  refine ao_cv (pc := 1499) (kc := 5) (avs := [.int (xs (i + 1).toNatClampNeg), .int (xs (i + 2).toNatClampNeg)]) (st := []) ok_Owe_toll wd_1156 cl_0 cv_0 rfl ⟨by decide, by decide⟩ hcs (c_Owe_toll X N h (xs (i + 1).toNatClampNeg) (xs (i + 2).toNatClampNeg) (r, h1) hF) rfl rfl (Nat.le_of_ble_eq_true rfl) dL_law_1499 ?_
  refine ro_aload_n (pc := 1502) 2 dL_law_1502 rfl rfl ?_
  refine ro_aload_n (pc := 1503) 0 dL_law_1503 rfl rfl ?_
  refine ro_iload (pc := 1504) 4 dL_law_1504 rfl ?_
  refine ro_iconst (v := 1) (pc := 1506) dL_law_1506 (by decide) ?_
  refine ro_iadd (pc := 1507) dL_law_1507 ?_
  refine ao_sld (pc := 1508) hx1 dL_law_1508 ?_
  refine ro_aload_n (pc := 1509) 0 dL_law_1509 rfl rfl ?_
  refine ro_iload (pc := 1510) 4 dL_law_1510 rfl ?_
  refine ro_iconst (v := 2) (pc := 1512) dL_law_1512 (by decide) ?_
  refine ro_iadd (pc := 1513) dL_law_1513 ?_
  refine ao_sld (pc := 1514) hx2 dL_law_1514 ?_
  refine ao_cv (pc := 1515) (kc := 16) (avs := [.int (xs (i + 1).toNatClampNeg), .int (xs (i + 2).toNatClampNeg)]) (st := [.int r]) ok_Mod_toll wd_1843 cl_51 cv_51 rfl ⟨by decide, by decide⟩ hcs (c_Mod_toll X N h1 (xs (i + 1).toNatClampNeg) (xs (i + 2).toNatClampNeg) (r, h2) hG) rfl rfl (Nat.le_of_ble_eq_true rfl) dL_law_1515 ?_
  refine ao_icmp_eq_t (tgt := 1638) (pc := 1518) dL_law_1518 (by decide) rfl ?_
  exact k
theorem lc_34 {X : mu_X} {b L : Nat} {xs : Nat → Int32} {cs ss N : Nat} {Q : mu_Q} {i r : Int32} {h : mu_H} (hcs : cs ≤ room_1.cells ∧ ss ≤ room_1.slots) (hx1 : ix (i + 1) L = true) (hx2 : ix (i + 2) L = true) (hx3 : ix (i + 3) L = true) (hx4 : ix (i + 4) L = true) (hx5 : ix (i + 5) L = true) (hx6 : ix (i + 6) L = true) (hF : f_Owe_worst N h  = some r) (hG : f_Mod_worst N h  = some r) (k : aG X m_law room_1 lwA (lwE b L xs) cs ss (fun _ : Unit => Q) (some ()) 1638 [(0, .ref b), (1, .ref (xa X 0)), (2, .ref (xa X 51)), (3, .ref (xa X 79)), (4, .int i)] [] h) : aG X m_law room_1 lwA (lwE b L xs) cs ss (fun _ : Unit => Q) (some ()) 1523 [(0, .ref b), (1, .ref (xa X 0)), (2, .ref (xa X 51)), (3, .ref (xa X 79)), (4, .int i)] [] h := by
  refine ro_aload_n (pc := 1523) 1 dL_law_1523 rfl rfl ?_
  refine ao_cv (pc := 1524) (kc := 3) (avs := []) (st := []) ok_Owe_worst wd_1164 cl_0 cv_0 rfl ⟨by decide, by decide⟩ hcs (c_Owe_worst X N h  r hF) rfl rfl (Nat.le_of_ble_eq_true rfl) dL_law_1524 ?_
  refine ro_aload_n (pc := 1527) 2 dL_law_1527 rfl rfl ?_
  refine ao_cv (pc := 1528) (kc := 1) (avs := []) (st := [.int r]) ok_Mod_worst wd_1892 cl_51 cv_51 rfl ⟨by decide, by decide⟩ hcs (c_Mod_worst X N h  r hG) rfl rfl (Nat.le_of_ble_eq_true rfl) dL_law_1528 ?_
  refine ao_icmp_eq_t (tgt := 1638) (pc := 1531) dL_law_1531 (by decide) rfl ?_
  exact k
theorem lc_35 {X : mu_X} {b L : Nat} {xs : Nat → Int32} {cs ss N : Nat} {Q : mu_Q} {i r : Int32} {h : mu_H} (hcs : cs ≤ room_1.cells ∧ ss ≤ room_1.slots) (hx1 : ix (i + 1) L = true) (hx2 : ix (i + 2) L = true) (hx3 : ix (i + 3) L = true) (hx4 : ix (i + 4) L = true) (hx5 : ix (i + 5) L = true) (hx6 : ix (i + 6) L = true) (hF : f_Owe_ends N h  = some r) (hG : f_Mod_ends N h  = some r) (k : aG X m_law room_1 lwA (lwE b L xs) cs ss (fun _ : Unit => Q) (some ()) 1638 [(0, .ref b), (1, .ref (xa X 0)), (2, .ref (xa X 51)), (3, .ref (xa X 79)), (4, .int i)] [] h) : aG X m_law room_1 lwA (lwE b L xs) cs ss (fun _ : Unit => Q) (some ()) 1536 [(0, .ref b), (1, .ref (xa X 0)), (2, .ref (xa X 51)), (3, .ref (xa X 79)), (4, .int i)] [] h := by
  refine ro_aload_n (pc := 1536) 1 dL_law_1536 rfl rfl ?_
  refine ao_cv (pc := 1537) (kc := 4) (avs := []) (st := []) ok_Owe_ends wd_1172 cl_0 cv_0 rfl ⟨by decide, by decide⟩ hcs (c_Owe_ends X N h  r hF) rfl rfl (Nat.le_of_ble_eq_true rfl) dL_law_1537 ?_
  refine ro_aload_n (pc := 1540) 2 dL_law_1540 rfl rfl ?_
  refine ao_cv (pc := 1541) (kc := 3) (avs := []) (st := [.int r]) ok_Mod_ends wd_1896 cl_51 cv_51 rfl ⟨by decide, by decide⟩ hcs (c_Mod_ends X N h  r hG) rfl rfl (Nat.le_of_ble_eq_true rfl) dL_law_1541 ?_
  refine ao_icmp_eq_t (tgt := 1638) (pc := 1544) dL_law_1544 (by decide) rfl ?_
  exact k
theorem lc_36 {X : mu_X} {b L : Nat} {xs : Nat → Int32} {cs ss N : Nat} {Q : mu_Q} {i r : Int32} {h : mu_H} (hcs : cs ≤ room_1.cells ∧ ss ≤ room_1.slots) (hx1 : ix (i + 1) L = true) (hx2 : ix (i + 2) L = true) (hx3 : ix (i + 3) L = true) (hx4 : ix (i + 4) L = true) (hx5 : ix (i + 5) L = true) (hx6 : ix (i + 6) L = true) (hF : f_Owe_cut N h  = some r) (hG : f_Mod_cut N h  = some r) (k : aG X m_law room_1 lwA (lwE b L xs) cs ss (fun _ : Unit => Q) (some ()) 1638 [(0, .ref b), (1, .ref (xa X 0)), (2, .ref (xa X 51)), (3, .ref (xa X 79)), (4, .int i)] [] h) : aG X m_law room_1 lwA (lwE b L xs) cs ss (fun _ : Unit => Q) (some ()) 1549 [(0, .ref b), (1, .ref (xa X 0)), (2, .ref (xa X 51)), (3, .ref (xa X 79)), (4, .int i)] [] h := by
  refine ro_aload_n (pc := 1549) 1 dL_law_1549 rfl rfl ?_
  refine ao_cv (pc := 1550) (kc := 4) (avs := []) (st := []) ok_Owe_cut wd_1181 cl_0 cv_0 rfl ⟨by decide, by decide⟩ hcs (c_Owe_cut X N h  r hF) rfl rfl (Nat.le_of_ble_eq_true rfl) dL_law_1550 ?_
  refine ro_aload_n (pc := 1553) 2 dL_law_1553 rfl rfl ?_
  refine ao_cv (pc := 1554) (kc := 3) (avs := []) (st := [.int r]) ok_Mod_cut wd_1900 cl_51 cv_51 rfl ⟨by decide, by decide⟩ hcs (c_Mod_cut X N h  r hG) rfl rfl (Nat.le_of_ble_eq_true rfl) dL_law_1554 ?_
  refine ao_icmp_eq_t (tgt := 1638) (pc := 1557) dL_law_1557 (by decide) rfl ?_
  exact k
theorem lc_37 {X : mu_X} {b L : Nat} {xs : Nat → Int32} {cs ss N : Nat} {Q : mu_Q} {i r : Int32} {h : mu_H} (hcs : cs ≤ room_1.cells ∧ ss ≤ room_1.slots) (hx1 : ix (i + 1) L = true) (hx2 : ix (i + 2) L = true) (hx3 : ix (i + 3) L = true) (hx4 : ix (i + 4) L = true) (hx5 : ix (i + 5) L = true) (hx6 : ix (i + 6) L = true) (hF : f_Owe_neighbours N h (xs (i + 1).toNatClampNeg) = some r) (hG : f_Mod_neighbours N h (xs (i + 1).toNatClampNeg) = some r) (k : aG X m_law room_1 lwA (lwE b L xs) cs ss (fun _ : Unit => Q) (some ()) 1638 [(0, .ref b), (1, .ref (xa X 0)), (2, .ref (xa X 51)), (3, .ref (xa X 79)), (4, .int i)] [] h) : aG X m_law room_1 lwA (lwE b L xs) cs ss (fun _ : Unit => Q) (some ()) 1562 [(0, .ref b), (1, .ref (xa X 0)), (2, .ref (xa X 51)), (3, .ref (xa X 79)), (4, .int i)] [] h := by
  refine ro_aload_n (pc := 1562) 1 dL_law_1562 rfl rfl ?_
  refine ro_aload_n (pc := 1563) 0 dL_law_1563 rfl rfl ?_
  refine ro_iload (pc := 1564) 4 dL_law_1564 rfl ?_
  refine ro_iconst (v := 1) (pc := 1566) dL_law_1566 (by decide) ?_
  refine ro_iadd (pc := 1567) dL_law_1567 ?_
  refine ao_sld (pc := 1568) hx1 dL_law_1568 ?_
  refine ao_cv (pc := 1569) (kc := 4) (avs := [.int (xs (i + 1).toNatClampNeg)]) (st := []) ok_Owe_neighbours wd_1193 cl_0 cv_0 rfl ⟨by decide, by decide⟩ hcs (c_Owe_neighbours X N h (xs (i + 1).toNatClampNeg) r hF) rfl rfl (Nat.le_of_ble_eq_true rfl) dL_law_1569 ?_
  refine ro_aload_n (pc := 1572) 2 dL_law_1572 rfl rfl ?_
  refine ro_aload_n (pc := 1573) 0 dL_law_1573 rfl rfl ?_
  refine ro_iload (pc := 1574) 4 dL_law_1574 rfl ?_
  refine ro_iconst (v := 1) (pc := 1576) dL_law_1576 (by decide) ?_
  refine ro_iadd (pc := 1577) dL_law_1577 ?_
  refine ao_sld (pc := 1578) hx1 dL_law_1578 ?_
  refine ao_cv (pc := 1579) (kc := 3) (avs := [.int (xs (i + 1).toNatClampNeg)]) (st := [.int r]) ok_Mod_neighbours wd_1908 cl_51 cv_51 rfl ⟨by decide, by decide⟩ hcs (c_Mod_neighbours X N h (xs (i + 1).toNatClampNeg) r hG) rfl rfl (Nat.le_of_ble_eq_true rfl) dL_law_1579 ?_
  refine ao_icmp_eq_t (tgt := 1638) (pc := 1582) dL_law_1582 (by decide) rfl ?_
  exact k
theorem lc_38 {X : mu_X} {b L : Nat} {xs : Nat → Int32} {cs ss N : Nat} {Q : mu_Q} {i r : Int32} {h h1 h2 : mu_H} (hcs : cs ≤ room_1.cells ∧ ss ≤ room_1.slots) (hx1 : ix (i + 1) L = true) (hx2 : ix (i + 2) L = true) (hx3 : ix (i + 3) L = true) (hx4 : ix (i + 4) L = true) (hx5 : ix (i + 5) L = true) (hx6 : ix (i + 6) L = true) (hF : f_Owe_image N h  = some (r, h1)) (hG : f_Mod_image N h1  = some (r, h2)) (k : aG X m_law room_1 lwA (lwE b L xs) cs ss (fun _ : Unit => Q) (some ()) 1638 [(0, .ref b), (1, .ref (xa X 0)), (2, .ref (xa X 51)), (3, .ref (xa X 79)), (4, .int i)] [] h2) : aG X m_law room_1 lwA (lwE b L xs) cs ss (fun _ : Unit => Q) (some ()) 1587 [(0, .ref b), (1, .ref (xa X 0)), (2, .ref (xa X 51)), (3, .ref (xa X 79)), (4, .int i)] [] h := by
  refine ro_aload_n (pc := 1587) 1 dL_law_1587 rfl rfl ?_
  refine ao_cv (pc := 1588) (kc := 2) (avs := []) (st := []) ok_Owe_image wd_1201 cl_0 cv_0 rfl ⟨by decide, by decide⟩ hcs (c_Owe_image X N h  (r, h1) hF) rfl rfl (Nat.le_of_ble_eq_true rfl) dL_law_1588 ?_
  refine ro_aload_n (pc := 1591) 2 dL_law_1591 rfl rfl ?_
  refine ao_cv (pc := 1592) (kc := 1) (avs := []) (st := [.int r]) ok_Mod_image wd_1912 cl_51 cv_51 rfl ⟨by decide, by decide⟩ hcs (c_Mod_image X N h1  (r, h2) hG) rfl rfl (Nat.le_of_ble_eq_true rfl) dL_law_1592 ?_
  refine ao_icmp_eq_t (tgt := 1638) (pc := 1595) dL_law_1595 (by decide) rfl ?_
  exact k
theorem lc_39 {X : mu_X} {b L : Nat} {xs : Nat → Int32} {cs ss N : Nat} {Q : mu_Q} {i r : Int32} {h h1 h2 : mu_H} (hcs : cs ≤ room_1.cells ∧ ss ≤ room_1.slots) (hx1 : ix (i + 1) L = true) (hx2 : ix (i + 2) L = true) (hx3 : ix (i + 3) L = true) (hx4 : ix (i + 4) L = true) (hx5 : ix (i + 5) L = true) (hx6 : ix (i + 6) L = true) (hF : f_Owe_back N h  = some (r, h1)) (hG : f_Mod_back N h1  = some (r, h2)) (k : aG X m_law room_1 lwA (lwE b L xs) cs ss (fun _ : Unit => Q) (some ()) 1638 [(0, .ref b), (1, .ref (xa X 0)), (2, .ref (xa X 51)), (3, .ref (xa X 79)), (4, .int i)] [] h2) : aG X m_law room_1 lwA (lwE b L xs) cs ss (fun _ : Unit => Q) (some ()) 1600 [(0, .ref b), (1, .ref (xa X 0)), (2, .ref (xa X 51)), (3, .ref (xa X 79)), (4, .int i)] [] h := by
  refine ro_aload_n (pc := 1600) 1 dL_law_1600 rfl rfl ?_
  refine ao_cv (pc := 1601) (kc := 2) (avs := []) (st := []) ok_Owe_back wd_1209 cl_0 cv_0 rfl ⟨by decide, by decide⟩ hcs (c_Owe_back X N h  (r, h1) hF) rfl rfl (Nat.le_of_ble_eq_true rfl) dL_law_1601 ?_
  refine ro_aload_n (pc := 1604) 2 dL_law_1604 rfl rfl ?_
  refine ao_cv (pc := 1605) (kc := 1) (avs := []) (st := [.int r]) ok_Mod_back wd_1916 cl_51 cv_51 rfl ⟨by decide, by decide⟩ hcs (c_Mod_back X N h1  (r, h2) hG) rfl rfl (Nat.le_of_ble_eq_true rfl) dL_law_1605 ?_
  refine ao_icmp_eq_t (tgt := 1638) (pc := 1608) dL_law_1608 (by decide) rfl ?_
  exact k
theorem lc_40 {X : mu_X} {b L : Nat} {xs : Nat → Int32} {cs ss N : Nat} {Q : mu_Q} {i r : Int32} {h : mu_H} (hcs : cs ≤ room_1.cells ∧ ss ≤ room_1.slots) (hx1 : ix (i + 1) L = true) (hx2 : ix (i + 2) L = true) (hx3 : ix (i + 3) L = true) (hx4 : ix (i + 4) L = true) (hx5 : ix (i + 5) L = true) (hx6 : ix (i + 6) L = true) (hF : f_Owe_count N h (xs (i + 1).toNatClampNeg) = some r) (hG : f_Mod_count N h (xs (i + 1).toNatClampNeg) = some r) (k : aG X m_law room_1 lwA (lwE b L xs) cs ss (fun _ : Unit => Q) (some ()) 1638 [(0, .ref b), (1, .ref (xa X 0)), (2, .ref (xa X 51)), (3, .ref (xa X 79)), (4, .int i)] [] h) : aG X m_law room_1 lwA (lwE b L xs) cs ss (fun _ : Unit => Q) (some ()) 1613 [(0, .ref b), (1, .ref (xa X 0)), (2, .ref (xa X 51)), (3, .ref (xa X 79)), (4, .int i)] [] h := by
  refine ro_aload_n (pc := 1613) 1 dL_law_1613 rfl rfl ?_
  refine ro_aload_n (pc := 1614) 0 dL_law_1614 rfl rfl ?_
  refine ro_iload (pc := 1615) 4 dL_law_1615 rfl ?_
  refine ro_iconst (v := 1) (pc := 1617) dL_law_1617 (by decide) ?_
  refine ro_iadd (pc := 1618) dL_law_1618 ?_
  refine ao_sld (pc := 1619) hx1 dL_law_1619 ?_
  refine ao_cv (pc := 1620) (kc := 3) (avs := [.int (xs (i + 1).toNatClampNeg)]) (st := []) ok_Owe_count wd_1213 cl_0 cv_0 rfl ⟨by decide, by decide⟩ hcs (c_Owe_count X N h (xs (i + 1).toNatClampNeg) r hF) rfl rfl (Nat.le_of_ble_eq_true rfl) dL_law_1620 ?_
  refine ro_aload_n (pc := 1623) 2 dL_law_1623 rfl rfl ?_
  refine ro_aload_n (pc := 1624) 0 dL_law_1624 rfl rfl ?_
  refine ro_iload (pc := 1625) 4 dL_law_1625 rfl ?_
  refine ro_iconst (v := 1) (pc := 1627) dL_law_1627 (by decide) ?_
  refine ro_iadd (pc := 1628) dL_law_1628 ?_
  refine ao_sld (pc := 1629) hx1 dL_law_1629 ?_
  refine ao_cv (pc := 1630) (kc := 2) (avs := [.int (xs (i + 1).toNatClampNeg)]) (st := [.int r]) ok_Mod_count wd_1920 cl_51 cv_51 rfl ⟨by decide, by decide⟩ hcs (c_Mod_count X N h (xs (i + 1).toNatClampNeg) r hG) rfl rfl (Nat.le_of_ble_eq_true rfl) dL_law_1630 ?_
  refine ao_icmp_eq_t (tgt := 1638) (pc := 1633) dL_law_1633 (by decide) rfl ?_
  exact k
