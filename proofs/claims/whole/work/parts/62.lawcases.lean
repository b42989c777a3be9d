theorem kin {x : Int32} {i L : Nat} (hi : x = nI i) (hL : L ≤ 3072) (hlt : i + 6 ≤ L) (c : Int32) (k : Nat) (hc : c = nI k) (hk : k < 6) : vp_in (x + c) L := by
  subst hi
  subst hc
  rw [nI_add]
  exact vp_in_nI (by omega) (by omega)
theorem klg (r : Int64) : lg_cmp r r = 0 := by simp [lg_cmp]

theorem k_case0 {Λ : kΛ} (hC : kOK Λ) {P : jM → jM → Prop} (hS : kS_row P) {i : Nat} {x3 : Int32} (hi : x3 = nI i) (hL : kL Λ ≤ 3072) (hlt : i + 6 ≤ kL Λ) {Mx Mm : jM} (hP : P Mx Mm) (K : ∀ Mx' Mm' : jM, P Mx' Mm' → kJ Λ 1312 [(0, .ref (kb Λ)), (1, .ref (kx Λ 0)), (2, .ref (km Λ 0)), (3, .int x3)] [] Mx' Mm') : kJ Λ 220 [(0, .ref (kb Λ)), (1, .ref (kx Λ 0)), (2, .ref (km Λ 0)), (3, .int x3)] [] Mx Mm := by
  obtain ⟨r, Mx', Mm', h1, h2, h3⟩ := hS (kxs Λ (x3 + 1).toNatClampNeg) (kxs Λ (x3 + 2).toNatClampNeg) Mx Mm hP
  refine k_aload_n 1 (pc' := 221) hC dL_law_220 rfl rfl ?_
  refine k_aload_n 0 (pc' := 222) hC dL_law_221 rfl rfl ?_
  refine k_iload_n 3 (pc' := 223) hC dL_law_222 rfl rfl ?_
  refine k_iconst (v := 1) (pc' := 224) hC dL_law_223 rfl rfl ?_
  refine k_iadd (pc' := 225) hC dL_law_224 rfl ?_
  refine k_sld (pc' := 226) hC dL_law_225 rfl (kin hi hL hlt 1 1 rfl (by decide)) ?_
  refine k_aload_n 0 (pc' := 227) hC dL_law_226 rfl rfl ?_
  refine k_iload_n 3 (pc' := 228) hC dL_law_227 rfl rfl ?_
  refine k_iconst (v := 2) (pc' := 229) hC dL_law_228 rfl rfl ?_
  refine k_iadd (pc' := 230) hC dL_law_229 rfl ?_
  refine k_sld (pc' := 231) hC dL_law_230 rfl (kin hi hL hlt 2 2 rfl (by decide)) ?_
  refine k_callXi [.int (kxs Λ (x3 + 1).toNatClampNeg), .int (kxs Λ (x3 + 2).toNatClampNeg)] (pc' := 234) hC dL_law_231 rfl (t_X5_row _ _ h1) gx0 vcl5 cv_L_13 ⟨⟨Nat.le_of_ble_eq_true rfl, Nat.le_of_ble_eq_true rfl⟩, rfl, Nat.le_of_ble_eq_true rfl⟩ (fun _ => rfl) rfl ?_
  refine k_aload_n 2 (pc' := 235) hC dL_law_234 rfl rfl ?_
  refine k_aload_n 0 (pc' := 236) hC dL_law_235 rfl rfl ?_
  refine k_iload_n 3 (pc' := 237) hC dL_law_236 rfl rfl ?_
  refine k_iconst (v := 1) (pc' := 238) hC dL_law_237 rfl rfl ?_
  refine k_iadd (pc' := 239) hC dL_law_238 rfl ?_
  refine k_sld (pc' := 240) hC dL_law_239 rfl (kin hi hL hlt 1 1 rfl (by decide)) ?_
  refine k_aload_n 0 (pc' := 241) hC dL_law_240 rfl rfl ?_
  refine k_iload_n 3 (pc' := 242) hC dL_law_241 rfl rfl ?_
  refine k_iconst (v := 2) (pc' := 243) hC dL_law_242 rfl rfl ?_
  refine k_iadd (pc' := 244) hC dL_law_243 rfl ?_
  refine k_sld (pc' := 245) hC dL_law_244 rfl (kin hi hL hlt 2 2 rfl (by decide)) ?_
  refine k_callMi [.int (kxs Λ (x3 + 1).toNatClampNeg), .int (kxs Λ (x3 + 2).toNatClampNeg)] (pc' := 248) hC dL_law_245 rfl (t_X6_row _ _ h2) gm0 vcl6 cv_L_17 ⟨⟨Nat.le_of_ble_eq_true rfl, Nat.le_of_ble_eq_true rfl⟩, rfl, Nat.le_of_ble_eq_true rfl⟩ (fun _ => rfl) rfl ?_
  exact k_icmp_eq (tgt := 1312) (pc' := 251) hC dL_law_248 (by decide) rfl (fun _ => K _ _ h3) (fun c => absurd rfl c)
theorem k_case1 {Λ : kΛ} (hC : kOK Λ) {P : jM → jM → Prop} (hS : kS_lay P) {i : Nat} {x3 : Int32} (hi : x3 = nI i) (hL : kL Λ ≤ 3072) (hlt : i + 6 ≤ kL Λ) {Mx Mm : jM} (hP : P Mx Mm) (K : ∀ Mx' Mm' : jM, P Mx' Mm' → kJ Λ 1312 [(0, .ref (kb Λ)), (1, .ref (kx Λ 0)), (2, .ref (km Λ 0)), (3, .int x3)] [] Mx' Mm') : kJ Λ 253 [(0, .ref (kb Λ)), (1, .ref (kx Λ 0)), (2, .ref (km Λ 0)), (3, .int x3)] [] Mx Mm := by
  obtain ⟨r, Mx', Mm', h1, h2, h3⟩ := hS (kxs Λ (x3 + 1).toNatClampNeg) (kxs Λ (x3 + 2).toNatClampNeg) (kxs Λ (x3 + 3).toNatClampNeg) Mx Mm hP
  refine k_aload_n 1 (pc' := 254) hC dL_law_253 rfl rfl ?_
  refine k_aload_n 0 (pc' := 255) hC dL_law_254 rfl rfl ?_
  refine k_iload_n 3 (pc' := 256) hC dL_law_255 rfl rfl ?_
  refine k_iconst (v := 1) (pc' := 257) hC dL_law_256 rfl rfl ?_
  refine k_iadd (pc' := 258) hC dL_law_257 rfl ?_
  refine k_sld (pc' := 259) hC dL_law_258 rfl (kin hi hL hlt 1 1 rfl (by decide)) ?_
  refine k_aload_n 0 (pc' := 260) hC dL_law_259 rfl rfl ?_
  refine k_iload_n 3 (pc' := 261) hC dL_law_260 rfl rfl ?_
  refine k_iconst (v := 2) (pc' := 262) hC dL_law_261 rfl rfl ?_
  refine k_iadd (pc' := 263) hC dL_law_262 rfl ?_
  refine k_sld (pc' := 264) hC dL_law_263 rfl (kin hi hL hlt 2 2 rfl (by decide)) ?_
  refine k_aload_n 0 (pc' := 265) hC dL_law_264 rfl rfl ?_
  refine k_iload_n 3 (pc' := 266) hC dL_law_265 rfl rfl ?_
  refine k_iconst (v := 3) (pc' := 267) hC dL_law_266 rfl rfl ?_
  refine k_iadd (pc' := 268) hC dL_law_267 rfl ?_
  refine k_sld (pc' := 269) hC dL_law_268 rfl (kin hi hL hlt 3 3 rfl (by decide)) ?_
  refine k_callXi [.int (kxs Λ (x3 + 1).toNatClampNeg), .int (kxs Λ (x3 + 2).toNatClampNeg), .int (kxs Λ (x3 + 3).toNatClampNeg)] (pc' := 272) hC dL_law_269 rfl (t_X5_lay _ _ h1) gx0 vcl5 cv_L_18 ⟨⟨Nat.le_of_ble_eq_true rfl, Nat.le_of_ble_eq_true rfl⟩, rfl, Nat.le_of_ble_eq_true rfl⟩ (fun _ => rfl) rfl ?_
  refine k_aload_n 2 (pc' := 273) hC dL_law_272 rfl rfl ?_
  refine k_aload_n 0 (pc' := 274) hC dL_law_273 rfl rfl ?_
  refine k_iload_n 3 (pc' := 275) hC dL_law_274 rfl rfl ?_
  refine k_iconst (v := 1) (pc' := 276) hC dL_law_275 rfl rfl ?_
  refine k_iadd (pc' := 277) hC dL_law_276 rfl ?_
  refine k_sld (pc' := 278) hC dL_law_277 rfl (kin hi hL hlt 1 1 rfl (by decide)) ?_
  refine k_aload_n 0 (pc' := 279) hC dL_law_278 rfl rfl ?_
  refine k_iload_n 3 (pc' := 280) hC dL_law_279 rfl rfl ?_
  refine k_iconst (v := 2) (pc' := 281) hC dL_law_280 rfl rfl ?_
  refine k_iadd (pc' := 282) hC dL_law_281 rfl ?_
  refine k_sld (pc' := 283) hC dL_law_282 rfl (kin hi hL hlt 2 2 rfl (by decide)) ?_
  refine k_aload_n 0 (pc' := 284) hC dL_law_283 rfl rfl ?_
  refine k_iload_n 3 (pc' := 285) hC dL_law_284 rfl rfl ?_
  refine k_iconst (v := 3) (pc' := 286) hC dL_law_285 rfl rfl ?_
  refine k_iadd (pc' := 287) hC dL_law_286 rfl ?_
  refine k_sld (pc' := 288) hC dL_law_287 rfl (kin hi hL hlt 3 3 rfl (by decide)) ?_
  refine k_callMi [.int (kxs Λ (x3 + 1).toNatClampNeg), .int (kxs Λ (x3 + 2).toNatClampNeg), .int (kxs Λ (x3 + 3).toNatClampNeg)] (pc' := 291) hC dL_law_288 rfl (t_X6_lay _ _ h2) gm0 vcl6 cv_L_22 ⟨⟨Nat.le_of_ble_eq_true rfl, Nat.le_of_ble_eq_true rfl⟩, rfl, Nat.le_of_ble_eq_true rfl⟩ (fun _ => rfl) rfl ?_
  exact k_icmp_eq (tgt := 1312) (pc' := 294) hC dL_law_291 (by decide) rfl (fun _ => K _ _ h3) (fun c => absurd rfl c)
theorem k_case2 {Λ : kΛ} (hC : kOK Λ) {P : jM → jM → Prop} (hS : kS_at P) {i : Nat} {x3 : Int32} (hi : x3 = nI i) (hL : kL Λ ≤ 3072) (hlt : i + 6 ≤ kL Λ) {Mx Mm : jM} (hP : P Mx Mm) (K : ∀ Mx' Mm' : jM, P Mx' Mm' → kJ Λ 1312 [(0, .ref (kb Λ)), (1, .ref (kx Λ 0)), (2, .ref (km Λ 0)), (3, .int x3)] [] Mx' Mm') : kJ Λ 296 [(0, .ref (kb Λ)), (1, .ref (kx Λ 0)), (2, .ref (km Λ 0)), (3, .int x3)] [] Mx Mm := by
  obtain ⟨r, Mx', Mm', h1, h2, h3⟩ := hS (kxs Λ (x3 + 1).toNatClampNeg) (kxs Λ (x3 + 2).toNatClampNeg) Mx Mm hP
  refine k_aload_n 1 (pc' := 297) hC dL_law_296 rfl rfl ?_
  refine k_aload_n 0 (pc' := 298) hC dL_law_297 rfl rfl ?_
  refine k_iload_n 3 (pc' := 299) hC dL_law_298 rfl rfl ?_
  refine k_iconst (v := 1) (pc' := 300) hC dL_law_299 rfl rfl ?_
  refine k_iadd (pc' := 301) hC dL_law_300 rfl ?_
  refine k_sld (pc' := 302) hC dL_law_301 rfl (kin hi hL hlt 1 1 rfl (by decide)) ?_
  refine k_aload_n 0 (pc' := 303) hC dL_law_302 rfl rfl ?_
  refine k_iload_n 3 (pc' := 304) hC dL_law_303 rfl rfl ?_
  refine k_iconst (v := 2) (pc' := 305) hC dL_law_304 rfl rfl ?_
  refine k_iadd (pc' := 306) hC dL_law_305 rfl ?_
  refine k_sld (pc' := 307) hC dL_law_306 rfl (kin hi hL hlt 2 2 rfl (by decide)) ?_
  refine k_callXi [.int (kxs Λ (x3 + 1).toNatClampNeg), .int (kxs Λ (x3 + 2).toNatClampNeg)] (pc' := 310) hC dL_law_307 rfl (t_X5_at _ _ h1) gx0 vcl5 cv_L_23 ⟨⟨Nat.le_of_ble_eq_true rfl, Nat.le_of_ble_eq_true rfl⟩, rfl, Nat.le_of_ble_eq_true rfl⟩ (fun _ => rfl) rfl ?_
  refine k_aload_n 2 (pc' := 311) hC dL_law_310 rfl rfl ?_
  refine k_aload_n 0 (pc' := 312) hC dL_law_311 rfl rfl ?_
  refine k_iload_n 3 (pc' := 313) hC dL_law_312 rfl rfl ?_
  refine k_iconst (v := 1) (pc' := 314) hC dL_law_313 rfl rfl ?_
  refine k_iadd (pc' := 315) hC dL_law_314 rfl ?_
  refine k_sld (pc' := 316) hC dL_law_315 rfl (kin hi hL hlt 1 1 rfl (by decide)) ?_
  refine k_aload_n 0 (pc' := 317) hC dL_law_316 rfl rfl ?_
  refine k_iload_n 3 (pc' := 318) hC dL_law_317 rfl rfl ?_
  refine k_iconst (v := 2) (pc' := 319) hC dL_law_318 rfl rfl ?_
  refine k_iadd (pc' := 320) hC dL_law_319 rfl ?_
  refine k_sld (pc' := 321) hC dL_law_320 rfl (kin hi hL hlt 2 2 rfl (by decide)) ?_
  refine k_callMi [.int (kxs Λ (x3 + 1).toNatClampNeg), .int (kxs Λ (x3 + 2).toNatClampNeg)] (pc' := 324) hC dL_law_321 rfl (t_X6_at _ _ h2) gm0 vcl6 cv_L_26 ⟨⟨Nat.le_of_ble_eq_true rfl, Nat.le_of_ble_eq_true rfl⟩, rfl, Nat.le_of_ble_eq_true rfl⟩ (fun _ => rfl) rfl ?_
  exact k_icmp_eq (tgt := 1312) (pc' := 327) hC dL_law_324 (by decide) rfl (fun _ => K _ _ h3) (fun c => absurd rfl c)
theorem k_case3 {Λ : kΛ} (hC : kOK Λ) {P : jM → jM → Prop} (hS : kS_tear P) {i : Nat} {x3 : Int32} (hi : x3 = nI i) (hL : kL Λ ≤ 3072) (hlt : i + 6 ≤ kL Λ) {Mx Mm : jM} (hP : P Mx Mm) (K : ∀ Mx' Mm' : jM, P Mx' Mm' → kJ Λ 1312 [(0, .ref (kb Λ)), (1, .ref (kx Λ 0)), (2, .ref (km Λ 0)), (3, .int x3)] [] Mx' Mm') : kJ Λ 329 [(0, .ref (kb Λ)), (1, .ref (kx Λ 0)), (2, .ref (km Λ 0)), (3, .int x3)] [] Mx Mm := by
  obtain ⟨r, Mx', Mm', h1, h2, h3⟩ := hS (kxs Λ (x3 + 1).toNatClampNeg) Mx Mm hP
  refine k_aload_n 1 (pc' := 330) hC dL_law_329 rfl rfl ?_
  refine k_aload_n 0 (pc' := 331) hC dL_law_330 rfl rfl ?_
  refine k_iload_n 3 (pc' := 332) hC dL_law_331 rfl rfl ?_
  refine k_iconst (v := 1) (pc' := 333) hC dL_law_332 rfl rfl ?_
  refine k_iadd (pc' := 334) hC dL_law_333 rfl ?_
  refine k_sld (pc' := 335) hC dL_law_334 rfl (kin hi hL hlt 1 1 rfl (by decide)) ?_
  refine k_callXi [.int (kxs Λ (x3 + 1).toNatClampNeg)] (pc' := 338) hC dL_law_335 rfl (t_X5_tear _ _ h1) gx0 vcl5 cv_L_27 ⟨⟨Nat.le_of_ble_eq_true rfl, Nat.le_of_ble_eq_true rfl⟩, rfl, Nat.le_of_ble_eq_true rfl⟩ (fun _ => rfl) rfl ?_
  refine k_aload_n 2 (pc' := 339) hC dL_law_338 rfl rfl ?_
  refine k_aload_n 0 (pc' := 340) hC dL_law_339 rfl rfl ?_
  refine k_iload_n 3 (pc' := 341) hC dL_law_340 rfl rfl ?_
  refine k_iconst (v := 1) (pc' := 342) hC dL_law_341 rfl rfl ?_
  refine k_iadd (pc' := 343) hC dL_law_342 rfl ?_
  refine k_sld (pc' := 344) hC dL_law_343 rfl (kin hi hL hlt 1 1 rfl (by decide)) ?_
  refine k_callMi [.int (kxs Λ (x3 + 1).toNatClampNeg)] (pc' := 347) hC dL_law_344 rfl (t_X6_tear _ _ h2) gm0 vcl6 cv_L_31 ⟨⟨Nat.le_of_ble_eq_true rfl, Nat.le_of_ble_eq_true rfl⟩, rfl, Nat.le_of_ble_eq_true rfl⟩ (fun _ => rfl) rfl ?_
  exact k_icmp_eq (tgt := 1312) (pc' := 350) hC dL_law_347 (by decide) rfl (fun _ => K _ _ h3) (fun c => absurd rfl c)
theorem k_case4 {Λ : kΛ} (hC : kOK Λ) {P : jM → jM → Prop} (hS : kS_copy P) {i : Nat} {x3 : Int32} (hi : x3 = nI i) (hL : kL Λ ≤ 3072) (hlt : i + 6 ≤ kL Λ) {Mx Mm : jM} (hP : P Mx Mm) (K : ∀ Mx' Mm' : jM, P Mx' Mm' → kJ Λ 1312 [(0, .ref (kb Λ)), (1, .ref (kx Λ 0)), (2, .ref (km Λ 0)), (3, .int x3)] [] Mx' Mm') : kJ Λ 352 [(0, .ref (kb Λ)), (1, .ref (kx Λ 0)), (2, .ref (km Λ 0)), (3, .int x3)] [] Mx Mm := by
  obtain ⟨r, Mx', Mm', h1, h2, h3⟩ := hS (kxs Λ (x3 + 1).toNatClampNeg) (kxs Λ (x3 + 2).toNatClampNeg) (kxs Λ (x3 + 3).toNatClampNeg) (kxs Λ (x3 + 4).toNatClampNeg) (kxs Λ (x3 + 5).toNatClampNeg) Mx Mm hP
  refine k_aload_n 1 (pc' := 353) hC dL_law_352 rfl rfl ?_
  refine k_aload_n 0 (pc' := 354) hC dL_law_353 rfl rfl ?_
  refine k_iload_n 3 (pc' := 355) hC dL_law_354 rfl rfl ?_
  refine k_iconst (v := 1) (pc' := 356) hC dL_law_355 rfl rfl ?_
  refine k_iadd (pc' := 357) hC dL_law_356 rfl ?_
  refine k_sld (pc' := 358) hC dL_law_357 rfl (kin hi hL hlt 1 1 rfl (by decide)) ?_
  refine k_aload_n 0 (pc' := 359) hC dL_law_358 rfl rfl ?_
  refine k_iload_n 3 (pc' := 360) hC dL_law_359 rfl rfl ?_
  refine k_iconst (v := 2) (pc' := 361) hC dL_law_360 rfl rfl ?_
  refine k_iadd (pc' := 362) hC dL_law_361 rfl ?_
  refine k_sld (pc' := 363) hC dL_law_362 rfl (kin hi hL hlt 2 2 rfl (by decide)) ?_
  refine k_aload_n 0 (pc' := 364) hC dL_law_363 rfl rfl ?_
  refine k_iload_n 3 (pc' := 365) hC dL_law_364 rfl rfl ?_
  refine k_iconst (v := 3) (pc' := 366) hC dL_law_365 rfl rfl ?_
  refine k_iadd (pc' := 367) hC dL_law_366 rfl ?_
  refine k_sld (pc' := 368) hC dL_law_367 rfl (kin hi hL hlt 3 3 rfl (by decide)) ?_
  refine k_aload_n 0 (pc' := 369) hC dL_law_368 rfl rfl ?_
  refine k_iload_n 3 (pc' := 370) hC dL_law_369 rfl rfl ?_
  refine k_iconst (v := 4) (pc' := 371) hC dL_law_370 rfl rfl ?_
  refine k_iadd (pc' := 372) hC dL_law_371 rfl ?_
  refine k_sld (pc' := 373) hC dL_law_372 rfl (kin hi hL hlt 4 4 rfl (by decide)) ?_
  refine k_aload_n 0 (pc' := 374) hC dL_law_373 rfl rfl ?_
  refine k_iload_n 3 (pc' := 375) hC dL_law_374 rfl rfl ?_
  refine k_iconst (v := 5) (pc' := 376) hC dL_law_375 rfl rfl ?_
  refine k_iadd (pc' := 377) hC dL_law_376 rfl ?_
  refine k_sld (pc' := 378) hC dL_law_377 rfl (kin hi hL hlt 5 5 rfl (by decide)) ?_
  refine k_callXi [.int (kxs Λ (x3 + 1).toNatClampNeg), .int (kxs Λ (x3 + 2).toNatClampNeg), .int (kxs Λ (x3 + 3).toNatClampNeg), .int (kxs Λ (x3 + 4).toNatClampNeg), .int (kxs Λ (x3 + 5).toNatClampNeg)] (pc' := 381) hC dL_law_378 rfl (t_X5_copy _ _ h1) gx0 vcl5 cv_L_32 ⟨⟨Nat.le_of_ble_eq_true rfl, Nat.le_of_ble_eq_true rfl⟩, rfl, Nat.le_of_ble_eq_true rfl⟩ (fun _ => rfl) rfl ?_
  refine k_aload_n 2 (pc' := 382) hC dL_law_381 rfl rfl ?_
  refine k_aload_n 0 (pc' := 383) hC dL_law_382 rfl rfl ?_
  refine k_iload_n 3 (pc' := 384) hC dL_law_383 rfl rfl ?_
  refine k_iconst (v := 1) (pc' := 385) hC dL_law_384 rfl rfl ?_
  refine k_iadd (pc' := 386) hC dL_law_385 rfl ?_
  refine k_sld (pc' := 387) hC dL_law_386 rfl (kin hi hL hlt 1 1 rfl (by decide)) ?_
  refine k_aload_n 0 (pc' := 388) hC dL_law_387 rfl rfl ?_
  refine k_iload_n 3 (pc' := 389) hC dL_law_388 rfl rfl ?_
  refine k_iconst (v := 2) (pc' := 390) hC dL_law_389 rfl rfl ?_
  refine k_iadd (pc' := 391) hC dL_law_390 rfl ?_
  refine k_sld (pc' := 392) hC dL_law_391 rfl (kin hi hL hlt 2 2 rfl (by decide)) ?_
  refine k_aload_n 0 (pc' := 393) hC dL_law_392 rfl rfl ?_
  refine k_iload_n 3 (pc' := 394) hC dL_law_393 rfl rfl ?_
  refine k_iconst (v := 3) (pc' := 395) hC dL_law_394 rfl rfl ?_
  refine k_iadd (pc' := 396) hC dL_law_395 rfl ?_
  refine k_sld (pc' := 397) hC dL_law_396 rfl (kin hi hL hlt 3 3 rfl (by decide)) ?_
  refine k_aload_n 0 (pc' := 398) hC dL_law_397 rfl rfl ?_
  refine k_iload_n 3 (pc' := 399) hC dL_law_398 rfl rfl ?_
  refine k_iconst (v := 4) (pc' := 400) hC dL_law_399 rfl rfl ?_
  refine k_iadd (pc' := 401) hC dL_law_400 rfl ?_
  refine k_sld (pc' := 402) hC dL_law_401 rfl (kin hi hL hlt 4 4 rfl (by decide)) ?_
  refine k_aload_n 0 (pc' := 403) hC dL_law_402 rfl rfl ?_
  refine k_iload_n 3 (pc' := 404) hC dL_law_403 rfl rfl ?_
  refine k_iconst (v := 5) (pc' := 405) hC dL_law_404 rfl rfl ?_
  refine k_iadd (pc' := 406) hC dL_law_405 rfl ?_
  refine k_sld (pc' := 407) hC dL_law_406 rfl (kin hi hL hlt 5 5 rfl (by decide)) ?_
  refine k_callMi [.int (kxs Λ (x3 + 1).toNatClampNeg), .int (kxs Λ (x3 + 2).toNatClampNeg), .int (kxs Λ (x3 + 3).toNatClampNeg), .int (kxs Λ (x3 + 4).toNatClampNeg), .int (kxs Λ (x3 + 5).toNatClampNeg)] (pc' := 410) hC dL_law_407 rfl (t_X6_copy _ _ h2) gm0 vcl6 cv_L_36 ⟨⟨Nat.le_of_ble_eq_true rfl, Nat.le_of_ble_eq_true rfl⟩, rfl, Nat.le_of_ble_eq_true rfl⟩ (fun _ => rfl) rfl ?_
  exact k_icmp_eq (tgt := 1312) (pc' := 413) hC dL_law_410 (by decide) rfl (fun _ => K _ _ h3) (fun c => absurd rfl c)
theorem k_case5 {Λ : kΛ} (hC : kOK Λ) {P : jM → jM → Prop} (hS : kS_mean P) {i : Nat} {x3 : Int32} (hi : x3 = nI i) (hL : kL Λ ≤ 3072) (hlt : i + 6 ≤ kL Λ) {Mx Mm : jM} (hP : P Mx Mm) (K : ∀ Mx' Mm' : jM, P Mx' Mm' → kJ Λ 1312 [(0, .ref (kb Λ)), (1, .ref (kx Λ 0)), (2, .ref (km Λ 0)), (3, .int x3)] [] Mx' Mm') : kJ Λ 415 [(0, .ref (kb Λ)), (1, .ref (kx Λ 0)), (2, .ref (km Λ 0)), (3, .int x3)] [] Mx Mm := by
  obtain ⟨r, Mx', Mm', h1, h2, h3⟩ := hS (kxs Λ (x3 + 1).toNatClampNeg) Mx Mm hP
  refine k_aload_n 1 (pc' := 416) hC dL_law_415 rfl rfl ?_
  refine k_aload_n 0 (pc' := 417) hC dL_law_416 rfl rfl ?_
  refine k_iload_n 3 (pc' := 418) hC dL_law_417 rfl rfl ?_
  refine k_iconst (v := 1) (pc' := 419) hC dL_law_418 rfl rfl ?_
  refine k_iadd (pc' := 420) hC dL_law_419 rfl ?_
  refine k_sld (pc' := 421) hC dL_law_420 rfl (kin hi hL hlt 1 1 rfl (by decide)) ?_
  refine k_callXi [.int (kxs Λ (x3 + 1).toNatClampNeg)] (pc' := 424) hC dL_law_421 rfl (t_X5_mean _ _ h1) gx0 vcl5 cv_L_37 ⟨⟨Nat.le_of_ble_eq_true rfl, Nat.le_of_ble_eq_true rfl⟩, rfl, Nat.le_of_ble_eq_true rfl⟩ (fun _ => rfl) rfl ?_
  refine k_aload_n 2 (pc' := 425) hC dL_law_424 rfl rfl ?_
  refine k_aload_n 0 (pc' := 426) hC dL_law_425 rfl rfl ?_
  refine k_iload_n 3 (pc' := 427) hC dL_law_426 rfl rfl ?_
  refine k_iconst (v := 1) (pc' := 428) hC dL_law_427 rfl rfl ?_
  refine k_iadd (pc' := 429) hC dL_law_428 rfl ?_
  refine k_sld (pc' := 430) hC dL_law_429 rfl (kin hi hL hlt 1 1 rfl (by decide)) ?_
  refine k_callMi [.int (kxs Λ (x3 + 1).toNatClampNeg)] (pc' := 433) hC dL_law_430 rfl (t_X6_mean _ _ h2) gm0 vcl6 cv_L_40 ⟨⟨Nat.le_of_ble_eq_true rfl, Nat.le_of_ble_eq_true rfl⟩, rfl, Nat.le_of_ble_eq_true rfl⟩ (fun _ => rfl) rfl ?_
  exact k_icmp_eq (tgt := 1312) (pc' := 436) hC dL_law_433 (by decide) rfl (fun _ => K _ _ h3) (fun c => absurd rfl c)
theorem k_case6 {Λ : kΛ} (hC : kOK Λ) {P : jM → jM → Prop} (hS : kS_text P) {i : Nat} {x3 : Int32} (hi : x3 = nI i) (hL : kL Λ ≤ 3072) (hlt : i + 6 ≤ kL Λ) {Mx Mm : jM} (hP : P Mx Mm) (K : ∀ Mx' Mm' : jM, P Mx' Mm' → kJ Λ 1312 [(0, .ref (kb Λ)), (1, .ref (kx Λ 0)), (2, .ref (km Λ 0)), (3, .int x3)] [] Mx' Mm') : kJ Λ 438 [(0, .ref (kb Λ)), (1, .ref (kx Λ 0)), (2, .ref (km Λ 0)), (3, .int x3)] [] Mx Mm := by
  obtain ⟨r, Mx', Mm', h1, h2, h3⟩ := hS (kxs Λ (x3 + 1).toNatClampNeg) (kxs Λ (x3 + 2).toNatClampNeg) Mx Mm hP
  refine k_aload_n 1 (pc' := 439) hC dL_law_438 rfl rfl ?_
  refine k_aload_n 0 (pc' := 440) hC dL_law_439 rfl rfl ?_
  refine k_iload_n 3 (pc' := 441) hC dL_law_440 rfl rfl ?_
  refine k_iconst (v := 1) (pc' := 442) hC dL_law_441 rfl rfl ?_
  refine k_iadd (pc' := 443) hC dL_law_442 rfl ?_
  refine k_sld (pc' := 444) hC dL_law_443 rfl (kin hi hL hlt 1 1 rfl (by decide)) ?_
  refine k_aload_n 0 (pc' := 445) hC dL_law_444 rfl rfl ?_
  refine k_iload_n 3 (pc' := 446) hC dL_law_445 rfl rfl ?_
  refine k_iconst (v := 2) (pc' := 447) hC dL_law_446 rfl rfl ?_
  refine k_iadd (pc' := 448) hC dL_law_447 rfl ?_
  refine k_sld (pc' := 449) hC dL_law_448 rfl (kin hi hL hlt 2 2 rfl (by decide)) ?_
  refine k_callXi [.int (kxs Λ (x3 + 1).toNatClampNeg), .int (kxs Λ (x3 + 2).toNatClampNeg)] (pc' := 452) hC dL_law_449 rfl (t_X5_text _ _ h1) gx0 vcl5 cv_L_41 ⟨⟨Nat.le_of_ble_eq_true rfl, Nat.le_of_ble_eq_true rfl⟩, rfl, Nat.le_of_ble_eq_true rfl⟩ (fun _ => rfl) rfl ?_
  refine k_aload_n 2 (pc' := 453) hC dL_law_452 rfl rfl ?_
  refine k_aload_n 0 (pc' := 454) hC dL_law_453 rfl rfl ?_
  refine k_iload_n 3 (pc' := 455) hC dL_law_454 rfl rfl ?_
  refine k_iconst (v := 1) (pc' := 456) hC dL_law_455 rfl rfl ?_
  refine k_iadd (pc' := 457) hC dL_law_456 rfl ?_
  refine k_sld (pc' := 458) hC dL_law_457 rfl (kin hi hL hlt 1 1 rfl (by decide)) ?_
  refine k_aload_n 0 (pc' := 459) hC dL_law_458 rfl rfl ?_
  refine k_iload_n 3 (pc' := 460) hC dL_law_459 rfl rfl ?_
  refine k_iconst (v := 2) (pc' := 461) hC dL_law_460 rfl rfl ?_
  refine k_iadd (pc' := 462) hC dL_law_461 rfl ?_
  refine k_sld (pc' := 463) hC dL_law_462 rfl (kin hi hL hlt 2 2 rfl (by decide)) ?_
  refine k_callMi [.int (kxs Λ (x3 + 1).toNatClampNeg), .int (kxs Λ (x3 + 2).toNatClampNeg)] (pc' := 466) hC dL_law_463 rfl (t_X6_text _ _ h2) gm0 vcl6 cv_L_44 ⟨⟨Nat.le_of_ble_eq_true rfl, Nat.le_of_ble_eq_true rfl⟩, rfl, Nat.le_of_ble_eq_true rfl⟩ (fun _ => rfl) rfl ?_
  exact k_icmp_eq (tgt := 1312) (pc' := 469) hC dL_law_466 (by decide) rfl (fun _ => K _ _ h3) (fun c => absurd rfl c)
theorem k_case7 {Λ : kΛ} (hC : kOK Λ) {P : jM → jM → Prop} (hS : kS_put P) {i : Nat} {x3 : Int32} (hi : x3 = nI i) (hL : kL Λ ≤ 3072) (hlt : i + 6 ≤ kL Λ) {Mx Mm : jM} (hP : P Mx Mm) (K : ∀ Mx' Mm' : jM, P Mx' Mm' → kJ Λ 1312 [(0, .ref (kb Λ)), (1, .ref (kx Λ 0)), (2, .ref (km Λ 0)), (3, .int x3)] [] Mx' Mm') : kJ Λ 471 [(0, .ref (kb Λ)), (1, .ref (kx Λ 0)), (2, .ref (km Λ 0)), (3, .int x3)] [] Mx Mm := by
  obtain ⟨r, Mx', Mm', h1, h2, h3⟩ := hS (kxs Λ (x3 + 1).toNatClampNeg) (kxs Λ (x3 + 2).toNatClampNeg) (kxs Λ (x3 + 3).toNatClampNeg) Mx Mm hP
  refine k_aload_n 1 (pc' := 472) hC dL_law_471 rfl rfl ?_
  refine k_aload_n 0 (pc' := 473) hC dL_law_472 rfl rfl ?_
  refine k_iload_n 3 (pc' := 474) hC dL_law_473 rfl rfl ?_
  refine k_iconst (v := 1) (pc' := 475) hC dL_law_474 rfl rfl ?_
  refine k_iadd (pc' := 476) hC dL_law_475 rfl ?_
  refine k_sld (pc' := 477) hC dL_law_476 rfl (kin hi hL hlt 1 1 rfl (by decide)) ?_
  refine k_aload_n 0 (pc' := 478) hC dL_law_477 rfl rfl ?_
  refine k_iload_n 3 (pc' := 479) hC dL_law_478 rfl rfl ?_
  refine k_iconst (v := 2) (pc' := 480) hC dL_law_479 rfl rfl ?_
  refine k_iadd (pc' := 481) hC dL_law_480 rfl ?_
  refine k_sld (pc' := 482) hC dL_law_481 rfl (kin hi hL hlt 2 2 rfl (by decide)) ?_
  refine k_aload_n 0 (pc' := 483) hC dL_law_482 rfl rfl ?_
  refine k_iload_n 3 (pc' := 484) hC dL_law_483 rfl rfl ?_
  refine k_iconst (v := 3) (pc' := 485) hC dL_law_484 rfl rfl ?_
  refine k_iadd (pc' := 486) hC dL_law_485 rfl ?_
  refine k_sld (pc' := 487) hC dL_law_486 rfl (kin hi hL hlt 3 3 rfl (by decide)) ?_
  refine k_callXi [.int (kxs Λ (x3 + 1).toNatClampNeg), .int (kxs Λ (x3 + 2).toNatClampNeg), .int (kxs Λ (x3 + 3).toNatClampNeg)] (pc' := 490) hC dL_law_487 rfl (t_X5_put _ _ h1) gx0 vcl5 cv_L_45 ⟨⟨Nat.le_of_ble_eq_true rfl, Nat.le_of_ble_eq_true rfl⟩, rfl, Nat.le_of_ble_eq_true rfl⟩ (fun _ => rfl) rfl ?_
  refine k_aload_n 2 (pc' := 491) hC dL_law_490 rfl rfl ?_
  refine k_aload_n 0 (pc' := 492) hC dL_law_491 rfl rfl ?_
  refine k_iload_n 3 (pc' := 493) hC dL_law_492 rfl rfl ?_
  refine k_iconst (v := 1) (pc' := 494) hC dL_law_493 rfl rfl ?_
  refine k_iadd (pc' := 495) hC dL_law_494 rfl ?_
  refine k_sld (pc' := 496) hC dL_law_495 rfl (kin hi hL hlt 1 1 rfl (by decide)) ?_
  refine k_aload_n 0 (pc' := 497) hC dL_law_496 rfl rfl ?_
  refine k_iload_n 3 (pc' := 498) hC dL_law_497 rfl rfl ?_
  refine k_iconst (v := 2) (pc' := 499) hC dL_law_498 rfl rfl ?_
  refine k_iadd (pc' := 500) hC dL_law_499 rfl ?_
  refine k_sld (pc' := 501) hC dL_law_500 rfl (kin hi hL hlt 2 2 rfl (by decide)) ?_
  refine k_aload_n 0 (pc' := 502) hC dL_law_501 rfl rfl ?_
  refine k_iload_n 3 (pc' := 503) hC dL_law_502 rfl rfl ?_
  refine k_iconst (v := 3) (pc' := 504) hC dL_law_503 rfl rfl ?_
  refine k_iadd (pc' := 505) hC dL_law_504 rfl ?_
  refine k_sld (pc' := 506) hC dL_law_505 rfl (kin hi hL hlt 3 3 rfl (by decide)) ?_
  refine k_callMi [.int (kxs Λ (x3 + 1).toNatClampNeg), .int (kxs Λ (x3 + 2).toNatClampNeg), .int (kxs Λ (x3 + 3).toNatClampNeg)] (pc' := 509) hC dL_law_506 rfl (t_X6_put _ _ h2) gm0 vcl6 cv_L_48 ⟨⟨Nat.le_of_ble_eq_true rfl, Nat.le_of_ble_eq_true rfl⟩, rfl, Nat.le_of_ble_eq_true rfl⟩ (fun _ => rfl) rfl ?_
  exact k_icmp_eq (tgt := 1312) (pc' := 512) hC dL_law_509 (by decide) rfl (fun _ => K _ _ h3) (fun c => absurd rfl c)
theorem k_case8 {Λ : kΛ} (hC : kOK Λ) {P : jM → jM → Prop} (hS : kS_fault P) {i : Nat} {x3 : Int32} (hi : x3 = nI i) (hL : kL Λ ≤ 3072) (hlt : i + 6 ≤ kL Λ) {Mx Mm : jM} (hP : P Mx Mm) (K : ∀ Mx' Mm' : jM, P Mx' Mm' → kJ Λ 1312 [(0, .ref (kb Λ)), (1, .ref (kx Λ 0)), (2, .ref (km Λ 0)), (3, .int x3)] [] Mx' Mm') : kJ Λ 514 [(0, .ref (kb Λ)), (1, .ref (kx Λ 0)), (2, .ref (km Λ 0)), (3, .int x3)] [] Mx Mm := by
  obtain ⟨r, Mx', Mm', h1, h2, h3⟩ := hS (kxs Λ (x3 + 1).toNatClampNeg) Mx Mm hP
  refine k_aload_n 1 (pc' := 515) hC dL_law_514 rfl rfl ?_
  refine k_aload_n 0 (pc' := 516) hC dL_law_515 rfl rfl ?_
  refine k_iload_n 3 (pc' := 517) hC dL_law_516 rfl rfl ?_
  refine k_iconst (v := 1) (pc' := 518) hC dL_law_517 rfl rfl ?_
  refine k_iadd (pc' := 519) hC dL_law_518 rfl ?_
  refine k_sld (pc' := 520) hC dL_law_519 rfl (kin hi hL hlt 1 1 rfl (by decide)) ?_
  refine k_callXi [.int (kxs Λ (x3 + 1).toNatClampNeg)] (pc' := 523) hC dL_law_520 rfl (t_X5_fault _ _ h1) gx0 vcl5 cv_L_49 ⟨⟨Nat.le_of_ble_eq_true rfl, Nat.le_of_ble_eq_true rfl⟩, rfl, Nat.le_of_ble_eq_true rfl⟩ (fun _ => rfl) rfl ?_
  refine k_aload_n 2 (pc' := 524) hC dL_law_523 rfl rfl ?_
  refine k_aload_n 0 (pc' := 525) hC dL_law_524 rfl rfl ?_
  refine k_iload_n 3 (pc' := 526) hC dL_law_525 rfl rfl ?_
  refine k_iconst (v := 1) (pc' := 527) hC dL_law_526 rfl rfl ?_
  refine k_iadd (pc' := 528) hC dL_law_527 rfl ?_
  refine k_sld (pc' := 529) hC dL_law_528 rfl (kin hi hL hlt 1 1 rfl (by decide)) ?_
  refine k_callMi [.int (kxs Λ (x3 + 1).toNatClampNeg)] (pc' := 532) hC dL_law_529 rfl (t_X6_fault _ _ h2) gm0 vcl6 cv_L_52 ⟨⟨Nat.le_of_ble_eq_true rfl, Nat.le_of_ble_eq_true rfl⟩, rfl, Nat.le_of_ble_eq_true rfl⟩ (fun _ => rfl) rfl ?_
  exact k_icmp_eq (tgt := 1312) (pc' := 535) hC dL_law_532 (by decide) rfl (fun _ => K _ _ h3) (fun c => absurd rfl c)
theorem k_case9 {Λ : kΛ} (hC : kOK Λ) {P : jM → jM → Prop} (hS : kS_house P) {i : Nat} {x3 : Int32} (hi : x3 = nI i) (hL : kL Λ ≤ 3072) (hlt : i + 6 ≤ kL Λ) {Mx Mm : jM} (hP : P Mx Mm) (K : ∀ Mx' Mm' : jM, P Mx' Mm' → kJ Λ 1312 [(0, .ref (kb Λ)), (1, .ref (kx Λ 0)), (2, .ref (km Λ 0)), (3, .int x3)] [] Mx' Mm') : kJ Λ 537 [(0, .ref (kb Λ)), (1, .ref (kx Λ 0)), (2, .ref (km Λ 0)), (3, .int x3)] [] Mx Mm := by
  obtain ⟨r, Mx', Mm', h1, h2, h3⟩ := hS (kxs Λ (x3 + 1).toNatClampNeg) Mx Mm hP
  refine k_aload_n 1 (pc' := 538) hC dL_law_537 rfl rfl ?_
  refine k_aload_n 0 (pc' := 539) hC dL_law_538 rfl rfl ?_
  refine k_iload_n 3 (pc' := 540) hC dL_law_539 rfl rfl ?_
  refine k_iconst (v := 1) (pc' := 541) hC dL_law_540 rfl rfl ?_
  refine k_iadd (pc' := 542) hC dL_law_541 rfl ?_
  refine k_sld (pc' := 543) hC dL_law_542 rfl (kin hi hL hlt 1 1 rfl (by decide)) ?_
  refine k_callXi [.int (kxs Λ (x3 + 1).toNatClampNeg)] (pc' := 546) hC dL_law_543 rfl (t_X5_house _ _ h1) gx0 vcl5 cv_L_53 ⟨⟨Nat.le_of_ble_eq_true rfl, Nat.le_of_ble_eq_true rfl⟩, rfl, Nat.le_of_ble_eq_true rfl⟩ (fun _ => rfl) rfl ?_
  refine k_aload_n 2 (pc' := 547) hC dL_law_546 rfl rfl ?_
  refine k_aload_n 0 (pc' := 548) hC dL_law_547 rfl rfl ?_
  refine k_iload_n 3 (pc' := 549) hC dL_law_548 rfl rfl ?_
  refine k_iconst (v := 1) (pc' := 550) hC dL_law_549 rfl rfl ?_
  refine k_iadd (pc' := 551) hC dL_law_550 rfl ?_
  refine k_sld (pc' := 552) hC dL_law_551 rfl (kin hi hL hlt 1 1 rfl (by decide)) ?_
  refine k_callMi [.int (kxs Λ (x3 + 1).toNatClampNeg)] (pc' := 555) hC dL_law_552 rfl (t_X6_house _ _ h2) gm0 vcl6 cv_L_56 ⟨⟨Nat.le_of_ble_eq_true rfl, Nat.le_of_ble_eq_true rfl⟩, rfl, Nat.le_of_ble_eq_true rfl⟩ (fun _ => rfl) rfl ?_
  exact k_icmp_eq (tgt := 1312) (pc' := 558) hC dL_law_555 (by decide) rfl (fun _ => K _ _ h3) (fun c => absurd rfl c)
theorem k_case10 {Λ : kΛ} (hC : kOK Λ) {P : jM → jM → Prop} (hS : kS_deed P) {i : Nat} {x3 : Int32} (hi : x3 = nI i) (hL : kL Λ ≤ 3072) (hlt : i + 6 ≤ kL Λ) {Mx Mm : jM} (hP : P Mx Mm) (K : ∀ Mx' Mm' : jM, P Mx' Mm' → kJ Λ 1312 [(0, .ref (kb Λ)), (1, .ref (kx Λ 0)), (2, .ref (km Λ 0)), (3, .int x3)] [] Mx' Mm') : kJ Λ 560 [(0, .ref (kb Λ)), (1, .ref (kx Λ 0)), (2, .ref (km Λ 0)), (3, .int x3)] [] Mx Mm := by
  obtain ⟨r, Mx', Mm', h1, h2, h3⟩ := hS (kxs Λ (x3 + 1).toNatClampNeg) (kxs Λ (x3 + 2).toNatClampNeg) Mx Mm hP
  refine k_aload_n 1 (pc' := 561) hC dL_law_560 rfl rfl ?_
  refine k_aload_n 0 (pc' := 562) hC dL_law_561 rfl rfl ?_
  refine k_iload_n 3 (pc' := 563) hC dL_law_562 rfl rfl ?_
  refine k_iconst (v := 1) (pc' := 564) hC dL_law_563 rfl rfl ?_
  refine k_iadd (pc' := 565) hC dL_law_564 rfl ?_
  refine k_sld (pc' := 566) hC dL_law_565 rfl (kin hi hL hlt 1 1 rfl (by decide)) ?_
  refine k_aload_n 0 (pc' := 567) hC dL_law_566 rfl rfl ?_
  refine k_iload_n 3 (pc' := 568) hC dL_law_567 rfl rfl ?_
  refine k_iconst (v := 2) (pc' := 569) hC dL_law_568 rfl rfl ?_
  refine k_iadd (pc' := 570) hC dL_law_569 rfl ?_
  refine k_sld (pc' := 571) hC dL_law_570 rfl (kin hi hL hlt 2 2 rfl (by decide)) ?_
  refine k_callXi [.int (kxs Λ (x3 + 1).toNatClampNeg), .int (kxs Λ (x3 + 2).toNatClampNeg)] (pc' := 574) hC dL_law_571 rfl (t_X5_deed _ _ h1) gx0 vcl5 cv_L_57 ⟨⟨Nat.le_of_ble_eq_true rfl, Nat.le_of_ble_eq_true rfl⟩, rfl, Nat.le_of_ble_eq_true rfl⟩ (fun _ => rfl) rfl ?_
  refine k_aload_n 2 (pc' := 575) hC dL_law_574 rfl rfl ?_
  refine k_aload_n 0 (pc' := 576) hC dL_law_575 rfl rfl ?_
  refine k_iload_n 3 (pc' := 577) hC dL_law_576 rfl rfl ?_
  refine k_iconst (v := 1) (pc' := 578) hC dL_law_577 rfl rfl ?_
  refine k_iadd (pc' := 579) hC dL_law_578 rfl ?_
  refine k_sld (pc' := 580) hC dL_law_579 rfl (kin hi hL hlt 1 1 rfl (by decide)) ?_
  refine k_aload_n 0 (pc' := 581) hC dL_law_580 rfl rfl ?_
  refine k_iload_n 3 (pc' := 582) hC dL_law_581 rfl rfl ?_
  refine k_iconst (v := 2) (pc' := 583) hC dL_law_582 rfl rfl ?_
  refine k_iadd (pc' := 584) hC dL_law_583 rfl ?_
  refine k_sld (pc' := 585) hC dL_law_584 rfl (kin hi hL hlt 2 2 rfl (by decide)) ?_
  refine k_callMi [.int (kxs Λ (x3 + 1).toNatClampNeg), .int (kxs Λ (x3 + 2).toNatClampNeg)] (pc' := 588) hC dL_law_585 rfl (t_X6_deed _ _ h2) gm0 vcl6 cv_L_60 ⟨⟨Nat.le_of_ble_eq_true rfl, Nat.le_of_ble_eq_true rfl⟩, rfl, Nat.le_of_ble_eq_true rfl⟩ (fun _ => rfl) rfl ?_
  exact k_icmp_eq (tgt := 1312) (pc' := 591) hC dL_law_588 (by decide) rfl (fun _ => K _ _ h3) (fun c => absurd rfl c)
theorem k_case11 {Λ : kΛ} (hC : kOK Λ) {P : jM → jM → Prop} (hS : kS_hour P) {i : Nat} {x3 : Int32} (hi : x3 = nI i) (hL : kL Λ ≤ 3072) (hlt : i + 6 ≤ kL Λ) {Mx Mm : jM} (hP : P Mx Mm) (K : ∀ Mx' Mm' : jM, P Mx' Mm' → kJ Λ 1312 [(0, .ref (kb Λ)), (1, .ref (kx Λ 0)), (2, .ref (km Λ 0)), (3, .int x3)] [] Mx' Mm') : kJ Λ 593 [(0, .ref (kb Λ)), (1, .ref (kx Λ 0)), (2, .ref (km Λ 0)), (3, .int x3)] [] Mx Mm := by
  obtain ⟨r, Mx', Mm', h1, h2, h3⟩ := hS (kxs Λ (x3 + 1).toNatClampNeg) (kxs Λ (x3 + 2).toNatClampNeg) Mx Mm hP
  refine k_aload_n 1 (pc' := 594) hC dL_law_593 rfl rfl ?_
  refine k_aload_n 0 (pc' := 595) hC dL_law_594 rfl rfl ?_
  refine k_iload_n 3 (pc' := 596) hC dL_law_595 rfl rfl ?_
  refine k_iconst (v := 1) (pc' := 597) hC dL_law_596 rfl rfl ?_
  refine k_iadd (pc' := 598) hC dL_law_597 rfl ?_
  refine k_sld (pc' := 599) hC dL_law_598 rfl (kin hi hL hlt 1 1 rfl (by decide)) ?_
  refine k_aload_n 0 (pc' := 600) hC dL_law_599 rfl rfl ?_
  refine k_iload_n 3 (pc' := 601) hC dL_law_600 rfl rfl ?_
  refine k_iconst (v := 2) (pc' := 602) hC dL_law_601 rfl rfl ?_
  refine k_iadd (pc' := 603) hC dL_law_602 rfl ?_
  refine k_sld (pc' := 604) hC dL_law_603 rfl (kin hi hL hlt 2 2 rfl (by decide)) ?_
  refine k_callXi [.int (kxs Λ (x3 + 1).toNatClampNeg), .int (kxs Λ (x3 + 2).toNatClampNeg)] (pc' := 607) hC dL_law_604 rfl (t_X5_hour _ _ h1) gx0 vcl5 cv_L_61 ⟨⟨Nat.le_of_ble_eq_true rfl, Nat.le_of_ble_eq_true rfl⟩, rfl, Nat.le_of_ble_eq_true rfl⟩ (fun _ => rfl) rfl ?_
  refine k_aload_n 2 (pc' := 608) hC dL_law_607 rfl rfl ?_
  refine k_aload_n 0 (pc' := 609) hC dL_law_608 rfl rfl ?_
  refine k_iload_n 3 (pc' := 610) hC dL_law_609 rfl rfl ?_
  refine k_iconst (v := 1) (pc' := 611) hC dL_law_610 rfl rfl ?_
  refine k_iadd (pc' := 612) hC dL_law_611 rfl ?_
  refine k_sld (pc' := 613) hC dL_law_612 rfl (kin hi hL hlt 1 1 rfl (by decide)) ?_
  refine k_aload_n 0 (pc' := 614) hC dL_law_613 rfl rfl ?_
  refine k_iload_n 3 (pc' := 615) hC dL_law_614 rfl rfl ?_
  refine k_iconst (v := 2) (pc' := 616) hC dL_law_615 rfl rfl ?_
  refine k_iadd (pc' := 617) hC dL_law_616 rfl ?_
  refine k_sld (pc' := 618) hC dL_law_617 rfl (kin hi hL hlt 2 2 rfl (by decide)) ?_
  refine k_callMi [.int (kxs Λ (x3 + 1).toNatClampNeg), .int (kxs Λ (x3 + 2).toNatClampNeg)] (pc' := 621) hC dL_law_618 rfl (t_X6_hour _ _ h2) gm0 vcl6 cv_L_64 ⟨⟨Nat.le_of_ble_eq_true rfl, Nat.le_of_ble_eq_true rfl⟩, rfl, Nat.le_of_ble_eq_true rfl⟩ (fun _ => rfl) rfl ?_
  exact k_icmp_eq (tgt := 1312) (pc' := 624) hC dL_law_621 (by decide) rfl (fun _ => K _ _ h3) (fun c => absurd rfl c)
theorem k_case12 {Λ : kΛ} (hC : kOK Λ) {P : jM → jM → Prop} (hS : kS_mark P) {i : Nat} {x3 : Int32} (hi : x3 = nI i) (hL : kL Λ ≤ 3072) (hlt : i + 6 ≤ kL Λ) {Mx Mm : jM} (hP : P Mx Mm) (K : ∀ Mx' Mm' : jM, P Mx' Mm' → kJ Λ 1312 [(0, .ref (kb Λ)), (1, .ref (kx Λ 0)), (2, .ref (km Λ 0)), (3, .int x3)] [] Mx' Mm') : kJ Λ 626 [(0, .ref (kb Λ)), (1, .ref (kx Λ 0)), (2, .ref (km Λ 0)), (3, .int x3)] [] Mx Mm := by
  obtain ⟨r, Mx', Mm', h1, h2, h3⟩ := hS (kxs Λ (x3 + 1).toNatClampNeg) (kxs Λ (x3 + 2).toNatClampNeg) Mx Mm hP
  refine k_aload_n 1 (pc' := 627) hC dL_law_626 rfl rfl ?_
  refine k_aload_n 0 (pc' := 628) hC dL_law_627 rfl rfl ?_
  refine k_iload_n 3 (pc' := 629) hC dL_law_628 rfl rfl ?_
  refine k_iconst (v := 1) (pc' := 630) hC dL_law_629 rfl rfl ?_
  refine k_iadd (pc' := 631) hC dL_law_630 rfl ?_
  refine k_sld (pc' := 632) hC dL_law_631 rfl (kin hi hL hlt 1 1 rfl (by decide)) ?_
  refine k_aload_n 0 (pc' := 633) hC dL_law_632 rfl rfl ?_
  refine k_iload_n 3 (pc' := 634) hC dL_law_633 rfl rfl ?_
  refine k_iconst (v := 2) (pc' := 635) hC dL_law_634 rfl rfl ?_
  refine k_iadd (pc' := 636) hC dL_law_635 rfl ?_
  refine k_sld (pc' := 637) hC dL_law_636 rfl (kin hi hL hlt 2 2 rfl (by decide)) ?_
  refine k_callXi [.int (kxs Λ (x3 + 1).toNatClampNeg), .int (kxs Λ (x3 + 2).toNatClampNeg)] (pc' := 640) hC dL_law_637 rfl (t_X5_mark _ _ h1) gx0 vcl5 cv_L_65 ⟨⟨Nat.le_of_ble_eq_true rfl, Nat.le_of_ble_eq_true rfl⟩, rfl, Nat.le_of_ble_eq_true rfl⟩ (fun _ => rfl) rfl ?_
  refine k_aload_n 2 (pc' := 641) hC dL_law_640 rfl rfl ?_
  refine k_aload_n 0 (pc' := 642) hC dL_law_641 rfl rfl ?_
  refine k_iload_n 3 (pc' := 643) hC dL_law_642 rfl rfl ?_
  refine k_iconst (v := 1) (pc' := 644) hC dL_law_643 rfl rfl ?_
  refine k_iadd (pc' := 645) hC dL_law_644 rfl ?_
  refine k_sld (pc' := 646) hC dL_law_645 rfl (kin hi hL hlt 1 1 rfl (by decide)) ?_
  refine k_aload_n 0 (pc' := 647) hC dL_law_646 rfl rfl ?_
  refine k_iload_n 3 (pc' := 648) hC dL_law_647 rfl rfl ?_
  refine k_iconst (v := 2) (pc' := 649) hC dL_law_648 rfl rfl ?_
  refine k_iadd (pc' := 650) hC dL_law_649 rfl ?_
  refine k_sld (pc' := 651) hC dL_law_650 rfl (kin hi hL hlt 2 2 rfl (by decide)) ?_
  refine k_callMi [.int (kxs Λ (x3 + 1).toNatClampNeg), .int (kxs Λ (x3 + 2).toNatClampNeg)] (pc' := 654) hC dL_law_651 rfl (t_X6_mark _ _ h2) gm0 vcl6 cv_L_68 ⟨⟨Nat.le_of_ble_eq_true rfl, Nat.le_of_ble_eq_true rfl⟩, rfl, Nat.le_of_ble_eq_true rfl⟩ (fun _ => rfl) rfl ?_
  exact k_icmp_eq (tgt := 1312) (pc' := 657) hC dL_law_654 (by decide) rfl (fun _ => K _ _ h3) (fun c => absurd rfl c)
theorem k_case13 {Λ : kΛ} (hC : kOK Λ) {P : jM → jM → Prop} (hS : kS_route P) {i : Nat} {x3 : Int32} (hi : x3 = nI i) (hL : kL Λ ≤ 3072) (hlt : i + 6 ≤ kL Λ) {Mx Mm : jM} (hP : P Mx Mm) (K : ∀ Mx' Mm' : jM, P Mx' Mm' → kJ Λ 1312 [(0, .ref (kb Λ)), (1, .ref (kx Λ 0)), (2, .ref (km Λ 0)), (3, .int x3)] [] Mx' Mm') : kJ Λ 659 [(0, .ref (kb Λ)), (1, .ref (kx Λ 0)), (2, .ref (km Λ 0)), (3, .int x3)] [] Mx Mm := by
  obtain ⟨r, Mx', Mm', h1, h2, h3⟩ := hS (kxs Λ (x3 + 1).toNatClampNeg) (kxs Λ (x3 + 2).toNatClampNeg) Mx Mm hP
  refine k_aload_n 1 (pc' := 660) hC dL_law_659 rfl rfl ?_
  refine k_aload_n 0 (pc' := 661) hC dL_law_660 rfl rfl ?_
  refine k_iload_n 3 (pc' := 662) hC dL_law_661 rfl rfl ?_
  refine k_iconst (v := 1) (pc' := 663) hC dL_law_662 rfl rfl ?_
  refine k_iadd (pc' := 664) hC dL_law_663 rfl ?_
  refine k_sld (pc' := 665) hC dL_law_664 rfl (kin hi hL hlt 1 1 rfl (by decide)) ?_
  refine k_aload_n 0 (pc' := 666) hC dL_law_665 rfl rfl ?_
  refine k_iload_n 3 (pc' := 667) hC dL_law_666 rfl rfl ?_
  refine k_iconst (v := 2) (pc' := 668) hC dL_law_667 rfl rfl ?_
  refine k_iadd (pc' := 669) hC dL_law_668 rfl ?_
  refine k_sld (pc' := 670) hC dL_law_669 rfl (kin hi hL hlt 2 2 rfl (by decide)) ?_
  refine k_callXi [.int (kxs Λ (x3 + 1).toNatClampNeg), .int (kxs Λ (x3 + 2).toNatClampNeg)] (pc' := 673) hC dL_law_670 rfl (t_X5_route _ _ h1) gx0 vcl5 cv_L_69 ⟨⟨Nat.le_of_ble_eq_true rfl, Nat.le_of_ble_eq_true rfl⟩, rfl, Nat.le_of_ble_eq_true rfl⟩ (fun _ => rfl) rfl ?_
  refine k_aload_n 2 (pc' := 674) hC dL_law_673 rfl rfl ?_
  refine k_aload_n 0 (pc' := 675) hC dL_law_674 rfl rfl ?_
  refine k_iload_n 3 (pc' := 676) hC dL_law_675 rfl rfl ?_
  refine k_iconst (v := 1) (pc' := 677) hC dL_law_676 rfl rfl ?_
  refine k_iadd (pc' := 678) hC dL_law_677 rfl ?_
  refine k_sld (pc' := 679) hC dL_law_678 rfl (kin hi hL hlt 1 1 rfl (by decide)) ?_
  refine k_aload_n 0 (pc' := 680) hC dL_law_679 rfl rfl ?_
  refine k_iload_n 3 (pc' := 681) hC dL_law_680 rfl rfl ?_
  refine k_iconst (v := 2) (pc' := 682) hC dL_law_681 rfl rfl ?_
  refine k_iadd (pc' := 683) hC dL_law_682 rfl ?_
  refine k_sld (pc' := 684) hC dL_law_683 rfl (kin hi hL hlt 2 2 rfl (by decide)) ?_
  refine k_callMi [.int (kxs Λ (x3 + 1).toNatClampNeg), .int (kxs Λ (x3 + 2).toNatClampNeg)] (pc' := 687) hC dL_law_684 rfl (t_X6_route _ _ h2) gm0 vcl6 cv_L_72 ⟨⟨Nat.le_of_ble_eq_true rfl, Nat.le_of_ble_eq_true rfl⟩, rfl, Nat.le_of_ble_eq_true rfl⟩ (fun _ => rfl) rfl ?_
  exact k_icmp_eq (tgt := 1312) (pc' := 690) hC dL_law_687 (by decide) rfl (fun _ => K _ _ h3) (fun c => absurd rfl c)
theorem k_case14 {Λ : kΛ} (hC : kOK Λ) {P : jM → jM → Prop} (hS : kS_day P) {i : Nat} {x3 : Int32} (hi : x3 = nI i) (hL : kL Λ ≤ 3072) (hlt : i + 6 ≤ kL Λ) {Mx Mm : jM} (hP : P Mx Mm) (K : ∀ Mx' Mm' : jM, P Mx' Mm' → kJ Λ 1312 [(0, .ref (kb Λ)), (1, .ref (kx Λ 0)), (2, .ref (km Λ 0)), (3, .int x3)] [] Mx' Mm') : kJ Λ 692 [(0, .ref (kb Λ)), (1, .ref (kx Λ 0)), (2, .ref (km Λ 0)), (3, .int x3)] [] Mx Mm := by
  obtain ⟨r, Mx', Mm', h1, h2, h3⟩ := hS  Mx Mm hP
  refine k_aload_n 1 (pc' := 693) hC dL_law_692 rfl rfl ?_
  refine k_callXi [] (pc' := 696) hC dL_law_693 rfl (t_X5_day _ _ h1) gx0 vcl5 cv_L_73 ⟨⟨Nat.le_of_ble_eq_true rfl, Nat.le_of_ble_eq_true rfl⟩, rfl, Nat.le_of_ble_eq_true rfl⟩ (fun _ => rfl) rfl ?_
  refine k_aload_n 2 (pc' := 697) hC dL_law_696 rfl rfl ?_
  refine k_callMi [] (pc' := 700) hC dL_law_697 rfl (t_X6_day _ _ h2) gm0 vcl6 cv_L_77 ⟨⟨Nat.le_of_ble_eq_true rfl, Nat.le_of_ble_eq_true rfl⟩, rfl, Nat.le_of_ble_eq_true rfl⟩ (fun _ => rfl) rfl ?_
  exact k_icmp_eq (tgt := 1312) (pc' := 703) hC dL_law_700 (by decide) rfl (fun _ => K _ _ h3) (fun c => absurd rfl c)
theorem k_case15 {Λ : kΛ} (hC : kOK Λ) {P : jM → jM → Prop} (hS : kS_open P) {i : Nat} {x3 : Int32} (hi : x3 = nI i) (hL : kL Λ ≤ 3072) (hlt : i + 6 ≤ kL Λ) {Mx Mm : jM} (hP : P Mx Mm) (K : ∀ Mx' Mm' : jM, P Mx' Mm' → kJ Λ 1312 [(0, .ref (kb Λ)), (1, .ref (kx Λ 0)), (2, .ref (km Λ 0)), (3, .int x3)] [] Mx' Mm') : kJ Λ 705 [(0, .ref (kb Λ)), (1, .ref (kx Λ 0)), (2, .ref (km Λ 0)), (3, .int x3)] [] Mx Mm := by
  obtain ⟨r, Mx', Mm', h1, h2, h3⟩ := hS (kxs Λ (x3 + 1).toNatClampNeg) (kxs Λ (x3 + 2).toNatClampNeg) Mx Mm hP
  refine k_aload_n 1 (pc' := 706) hC dL_law_705 rfl rfl ?_
  refine k_aload_n 0 (pc' := 707) hC dL_law_706 rfl rfl ?_
  refine k_iload_n 3 (pc' := 708) hC dL_law_707 rfl rfl ?_
  refine k_iconst (v := 1) (pc' := 709) hC dL_law_708 rfl rfl ?_
  refine k_iadd (pc' := 710) hC dL_law_709 rfl ?_
  refine k_sld (pc' := 711) hC dL_law_710 rfl (kin hi hL hlt 1 1 rfl (by decide)) ?_
  refine k_aload_n 0 (pc' := 712) hC dL_law_711 rfl rfl ?_
  refine k_iload_n 3 (pc' := 713) hC dL_law_712 rfl rfl ?_
  refine k_iconst (v := 2) (pc' := 714) hC dL_law_713 rfl rfl ?_
  refine k_iadd (pc' := 715) hC dL_law_714 rfl ?_
  refine k_sld (pc' := 716) hC dL_law_715 rfl (kin hi hL hlt 2 2 rfl (by decide)) ?_
  refine k_callXi [.int (kxs Λ (x3 + 1).toNatClampNeg), .int (kxs Λ (x3 + 2).toNatClampNeg)] (pc' := 719) hC dL_law_716 rfl (t_X5_open _ _ h1) gx0 vcl5 cv_L_78 ⟨⟨Nat.le_of_ble_eq_true rfl, Nat.le_of_ble_eq_true rfl⟩, rfl, Nat.le_of_ble_eq_true rfl⟩ (fun _ => rfl) rfl ?_
  refine k_aload_n 2 (pc' := 720) hC dL_law_719 rfl rfl ?_
  refine k_aload_n 0 (pc' := 721) hC dL_law_720 rfl rfl ?_
  refine k_iload_n 3 (pc' := 722) hC dL_law_721 rfl rfl ?_
  refine k_iconst (v := 1) (pc' := 723) hC dL_law_722 rfl rfl ?_
  refine k_iadd (pc' := 724) hC dL_law_723 rfl ?_
  refine k_sld (pc' := 725) hC dL_law_724 rfl (kin hi hL hlt 1 1 rfl (by decide)) ?_
  refine k_aload_n 0 (pc' := 726) hC dL_law_725 rfl rfl ?_
  refine k_iload_n 3 (pc' := 727) hC dL_law_726 rfl rfl ?_
  refine k_iconst (v := 2) (pc' := 728) hC dL_law_727 rfl rfl ?_
  refine k_iadd (pc' := 729) hC dL_law_728 rfl ?_
  refine k_sld (pc' := 730) hC dL_law_729 rfl (kin hi hL hlt 2 2 rfl (by decide)) ?_
  refine k_callMi [.int (kxs Λ (x3 + 1).toNatClampNeg), .int (kxs Λ (x3 + 2).toNatClampNeg)] (pc' := 733) hC dL_law_730 rfl (t_X6_open _ _ h2) gm0 vcl6 cv_L_81 ⟨⟨Nat.le_of_ble_eq_true rfl, Nat.le_of_ble_eq_true rfl⟩, rfl, Nat.le_of_ble_eq_true rfl⟩ (fun _ => rfl) rfl ?_
  exact k_icmp_eq (tgt := 1312) (pc' := 736) hC dL_law_733 (by decide) rfl (fun _ => K _ _ h3) (fun c => absurd rfl c)
theorem k_case16 {Λ : kΛ} (hC : kOK Λ) {P : jM → jM → Prop} (hS : kS_send P) {i : Nat} {x3 : Int32} (hi : x3 = nI i) (hL : kL Λ ≤ 3072) (hlt : i + 6 ≤ kL Λ) {Mx Mm : jM} (hP : P Mx Mm) (K : ∀ Mx' Mm' : jM, P Mx' Mm' → kJ Λ 1312 [(0, .ref (kb Λ)), (1, .ref (kx Λ 0)), (2, .ref (km Λ 0)), (3, .int x3)] [] Mx' Mm') : kJ Λ 738 [(0, .ref (kb Λ)), (1, .ref (kx Λ 0)), (2, .ref (km Λ 0)), (3, .int x3)] [] Mx Mm := by
  obtain ⟨r, Mx', Mm', h1, h2, h3⟩ := hS (kxs Λ (x3 + 1).toNatClampNeg) Mx Mm hP
  refine k_aload_n 1 (pc' := 739) hC dL_law_738 rfl rfl ?_
  refine k_aload_n 0 (pc' := 740) hC dL_law_739 rfl rfl ?_
  refine k_iload_n 3 (pc' := 741) hC dL_law_740 rfl rfl ?_
  refine k_iconst (v := 1) (pc' := 742) hC dL_law_741 rfl rfl ?_
  refine k_iadd (pc' := 743) hC dL_law_742 rfl ?_
  refine k_sld (pc' := 744) hC dL_law_743 rfl (kin hi hL hlt 1 1 rfl (by decide)) ?_
  refine k_callXi [.int (kxs Λ (x3 + 1).toNatClampNeg)] (pc' := 747) hC dL_law_744 rfl (t_X5_send _ _ h1) gx0 vcl5 cv_L_82 ⟨⟨Nat.le_of_ble_eq_true rfl, Nat.le_of_ble_eq_true rfl⟩, rfl, Nat.le_of_ble_eq_true rfl⟩ (fun _ => rfl) rfl ?_
  refine k_aload_n 2 (pc' := 748) hC dL_law_747 rfl rfl ?_
  refine k_aload_n 0 (pc' := 749) hC dL_law_748 rfl rfl ?_
  refine k_iload_n 3 (pc' := 750) hC dL_law_749 rfl rfl ?_
  refine k_iconst (v := 1) (pc' := 751) hC dL_law_750 rfl rfl ?_
  refine k_iadd (pc' := 752) hC dL_law_751 rfl ?_
  refine k_sld (pc' := 753) hC dL_law_752 rfl (kin hi hL hlt 1 1 rfl (by decide)) ?_
  refine k_callMi [.int (kxs Λ (x3 + 1).toNatClampNeg)] (pc' := 756) hC dL_law_753 rfl (t_X6_send _ _ h2) gm0 vcl6 cv_L_85 ⟨⟨Nat.le_of_ble_eq_true rfl, Nat.le_of_ble_eq_true rfl⟩, rfl, Nat.le_of_ble_eq_true rfl⟩ (fun _ => rfl) rfl ?_
  exact k_icmp_eq (tgt := 1312) (pc' := 759) hC dL_law_756 (by decide) rfl (fun _ => K _ _ h3) (fun c => absurd rfl c)
theorem k_case17 {Λ : kΛ} (hC : kOK Λ) {P : jM → jM → Prop} (hS : kS_undo P) {i : Nat} {x3 : Int32} (hi : x3 = nI i) (hL : kL Λ ≤ 3072) (hlt : i + 6 ≤ kL Λ) {Mx Mm : jM} (hP : P Mx Mm) (K : ∀ Mx' Mm' : jM, P Mx' Mm' → kJ Λ 1312 [(0, .ref (kb Λ)), (1, .ref (kx Λ 0)), (2, .ref (km Λ 0)), (3, .int x3)] [] Mx' Mm') : kJ Λ 761 [(0, .ref (kb Λ)), (1, .ref (kx Λ 0)), (2, .ref (km Λ 0)), (3, .int x3)] [] Mx Mm := by
  obtain ⟨r, Mx', Mm', h1, h2, h3⟩ := hS (kxs Λ (x3 + 1).toNatClampNeg) Mx Mm hP
  refine k_aload_n 1 (pc' := 762) hC dL_law_761 rfl rfl ?_
  refine k_aload_n 0 (pc' := 763) hC dL_law_762 rfl rfl ?_
  refine k_iload_n 3 (pc' := 764) hC dL_law_763 rfl rfl ?_
  refine k_iconst (v := 1) (pc' := 765) hC dL_law_764 rfl rfl ?_
  refine k_iadd (pc' := 766) hC dL_law_765 rfl ?_
  refine k_sld (pc' := 767) hC dL_law_766 rfl (kin hi hL hlt 1 1 rfl (by decide)) ?_
  refine k_callXi [.int (kxs Λ (x3 + 1).toNatClampNeg)] (pc' := 770) hC dL_law_767 rfl (t_X5_undo _ _ h1) gx0 vcl5 cv_L_86 ⟨⟨Nat.le_of_ble_eq_true rfl, Nat.le_of_ble_eq_true rfl⟩, rfl, Nat.le_of_ble_eq_true rfl⟩ (fun _ => rfl) rfl ?_
  refine k_aload_n 2 (pc' := 771) hC dL_law_770 rfl rfl ?_
  refine k_aload_n 0 (pc' := 772) hC dL_law_771 rfl rfl ?_
  refine k_iload_n 3 (pc' := 773) hC dL_law_772 rfl rfl ?_
  refine k_iconst (v := 1) (pc' := 774) hC dL_law_773 rfl rfl ?_
  refine k_iadd (pc' := 775) hC dL_law_774 rfl ?_
  refine k_sld (pc' := 776) hC dL_law_775 rfl (kin hi hL hlt 1 1 rfl (by decide)) ?_
  refine k_callMi [.int (kxs Λ (x3 + 1).toNatClampNeg)] (pc' := 779) hC dL_law_776 rfl (t_X6_undo _ _ h2) gm0 vcl6 cv_L_89 ⟨⟨Nat.le_of_ble_eq_true rfl, Nat.le_of_ble_eq_true rfl⟩, rfl, Nat.le_of_ble_eq_true rfl⟩ (fun _ => rfl) rfl ?_
  exact k_icmp_eq (tgt := 1312) (pc' := 782) hC dL_law_779 (by decide) rfl (fun _ => K _ _ h3) (fun c => absurd rfl c)
theorem k_case18 {Λ : kΛ} (hC : kOK Λ) {P : jM → jM → Prop} (hS : kS_shelf P) {i : Nat} {x3 : Int32} (hi : x3 = nI i) (hL : kL Λ ≤ 3072) (hlt : i + 6 ≤ kL Λ) {Mx Mm : jM} (hP : P Mx Mm) (K : ∀ Mx' Mm' : jM, P Mx' Mm' → kJ Λ 1312 [(0, .ref (kb Λ)), (1, .ref (kx Λ 0)), (2, .ref (km Λ 0)), (3, .int x3)] [] Mx' Mm') : kJ Λ 784 [(0, .ref (kb Λ)), (1, .ref (kx Λ 0)), (2, .ref (km Λ 0)), (3, .int x3)] [] Mx Mm := by
  obtain ⟨r, Mx', Mm', h1, h2, h3⟩ := hS  Mx Mm hP
  refine k_aload_n 1 (pc' := 785) hC dL_law_784 rfl rfl ?_
  refine k_callXi [] (pc' := 788) hC dL_law_785 rfl (t_X5_shelf _ _ h1) gx0 vcl5 cv_L_90 ⟨⟨Nat.le_of_ble_eq_true rfl, Nat.le_of_ble_eq_true rfl⟩, rfl, Nat.le_of_ble_eq_true rfl⟩ (fun _ => rfl) rfl ?_
  refine k_aload_n 2 (pc' := 789) hC dL_law_788 rfl rfl ?_
  refine k_callMi [] (pc' := 792) hC dL_law_789 rfl (t_X6_shelf _ _ h2) gm0 vcl6 cv_L_93 ⟨⟨Nat.le_of_ble_eq_true rfl, Nat.le_of_ble_eq_true rfl⟩, rfl, Nat.le_of_ble_eq_true rfl⟩ (fun _ => rfl) rfl ?_
  exact k_icmp_eq (tgt := 1312) (pc' := 795) hC dL_law_792 (by decide) rfl (fun _ => K _ _ h3) (fun c => absurd rfl c)
theorem k_case19 {Λ : kΛ} (hC : kOK Λ) {P : jM → jM → Prop} (hS : kS_keep P) {i : Nat} {x3 : Int32} (hi : x3 = nI i) (hL : kL Λ ≤ 3072) (hlt : i + 6 ≤ kL Λ) {Mx Mm : jM} (hP : P Mx Mm) (K : ∀ Mx' Mm' : jM, P Mx' Mm' → kJ Λ 1312 [(0, .ref (kb Λ)), (1, .ref (kx Λ 0)), (2, .ref (km Λ 0)), (3, .int x3)] [] Mx' Mm') : kJ Λ 797 [(0, .ref (kb Λ)), (1, .ref (kx Λ 0)), (2, .ref (km Λ 0)), (3, .int x3)] [] Mx Mm := by
  obtain ⟨r, Mx', Mm', h1, h2, h3⟩ := hS (kxs Λ (x3 + 1).toNatClampNeg) Mx Mm hP
  refine k_aload_n 1 (pc' := 798) hC dL_law_797 rfl rfl ?_
  refine k_aload_n 0 (pc' := 799) hC dL_law_798 rfl rfl ?_
  refine k_iload_n 3 (pc' := 800) hC dL_law_799 rfl rfl ?_
  refine k_iconst (v := 1) (pc' := 801) hC dL_law_800 rfl rfl ?_
  refine k_iadd (pc' := 802) hC dL_law_801 rfl ?_
  refine k_sld (pc' := 803) hC dL_law_802 rfl (kin hi hL hlt 1 1 rfl (by decide)) ?_
  refine k_callXi [.int (kxs Λ (x3 + 1).toNatClampNeg)] (pc' := 806) hC dL_law_803 rfl (t_X5_keep _ _ h1) gx0 vcl5 cv_L_94 ⟨⟨Nat.le_of_ble_eq_true rfl, Nat.le_of_ble_eq_true rfl⟩, rfl, Nat.le_of_ble_eq_true rfl⟩ (fun _ => rfl) rfl ?_
  refine k_aload_n 2 (pc' := 807) hC dL_law_806 rfl rfl ?_
  refine k_aload_n 0 (pc' := 808) hC dL_law_807 rfl rfl ?_
  refine k_iload_n 3 (pc' := 809) hC dL_law_808 rfl rfl ?_
  refine k_iconst (v := 1) (pc' := 810) hC dL_law_809 rfl rfl ?_
  refine k_iadd (pc' := 811) hC dL_law_810 rfl ?_
  refine k_sld (pc' := 812) hC dL_law_811 rfl (kin hi hL hlt 1 1 rfl (by decide)) ?_
  refine k_callMi [.int (kxs Λ (x3 + 1).toNatClampNeg)] (pc' := 815) hC dL_law_812 rfl (t_X6_keep _ _ h2) gm0 vcl6 cv_L_97 ⟨⟨Nat.le_of_ble_eq_true rfl, Nat.le_of_ble_eq_true rfl⟩, rfl, Nat.le_of_ble_eq_true rfl⟩ (fun _ => rfl) rfl ?_
  exact k_icmp_eq (tgt := 1312) (pc' := 818) hC dL_law_815 (by decide) rfl (fun _ => K _ _ h3) (fun c => absurd rfl c)
theorem k_case20 {Λ : kΛ} (hC : kOK Λ) {P : jM → jM → Prop} (hS : kS_on P) {i : Nat} {x3 : Int32} (hi : x3 = nI i) (hL : kL Λ ≤ 3072) (hlt : i + 6 ≤ kL Λ) {Mx Mm : jM} (hP : P Mx Mm) (K : ∀ Mx' Mm' : jM, P Mx' Mm' → kJ Λ 1312 [(0, .ref (kb Λ)), (1, .ref (kx Λ 0)), (2, .ref (km Λ 0)), (3, .int x3)] [] Mx' Mm') : kJ Λ 820 [(0, .ref (kb Λ)), (1, .ref (kx Λ 0)), (2, .ref (km Λ 0)), (3, .int x3)] [] Mx Mm := by
  obtain ⟨r, Mx', Mm', h1, h2, h3⟩ := hS (kxs Λ (x3 + 1).toNatClampNeg) Mx Mm hP
  refine k_aload_n 1 (pc' := 821) hC dL_law_820 rfl rfl ?_
  refine k_aload_n 0 (pc' := 822) hC dL_law_821 rfl rfl ?_
  refine k_iload_n 3 (pc' := 823) hC dL_law_822 rfl rfl ?_
  refine k_iconst (v := 1) (pc' := 824) hC dL_law_823 rfl rfl ?_
  refine k_iadd (pc' := 825) hC dL_law_824 rfl ?_
  refine k_sld (pc' := 826) hC dL_law_825 rfl (kin hi hL hlt 1 1 rfl (by decide)) ?_
  refine k_callXi [.int (kxs Λ (x3 + 1).toNatClampNeg)] (pc' := 829) hC dL_law_826 rfl (t_X5_on _ _ h1) gx0 vcl5 cv_L_98 ⟨⟨Nat.le_of_ble_eq_true rfl, Nat.le_of_ble_eq_true rfl⟩, rfl, Nat.le_of_ble_eq_true rfl⟩ (fun _ => rfl) rfl ?_
  refine k_aload_n 2 (pc' := 830) hC dL_law_829 rfl rfl ?_
  refine k_aload_n 0 (pc' := 831) hC dL_law_830 rfl rfl ?_
  refine k_iload_n 3 (pc' := 832) hC dL_law_831 rfl rfl ?_
  refine k_iconst (v := 1) (pc' := 833) hC dL_law_832 rfl rfl ?_
  refine k_iadd (pc' := 834) hC dL_law_833 rfl ?_
  refine k_sld (pc' := 835) hC dL_law_834 rfl (kin hi hL hlt 1 1 rfl (by decide)) ?_
  refine k_callMi [.int (kxs Λ (x3 + 1).toNatClampNeg)] (pc' := 838) hC dL_law_835 rfl (t_X6_on _ _ h2) gm0 vcl6 cv_L_101 ⟨⟨Nat.le_of_ble_eq_true rfl, Nat.le_of_ble_eq_true rfl⟩, rfl, Nat.le_of_ble_eq_true rfl⟩ (fun _ => rfl) rfl ?_
  exact k_icmp_eq (tgt := 1312) (pc' := 841) hC dL_law_838 (by decide) rfl (fun _ => K _ _ h3) (fun c => absurd rfl c)
theorem k_case21 {Λ : kΛ} (hC : kOK Λ) {P : jM → jM → Prop} (hS : kS_can P) {i : Nat} {x3 : Int32} (hi : x3 = nI i) (hL : kL Λ ≤ 3072) (hlt : i + 6 ≤ kL Λ) {Mx Mm : jM} (hP : P Mx Mm) (K : ∀ Mx' Mm' : jM, P Mx' Mm' → kJ Λ 1312 [(0, .ref (kb Λ)), (1, .ref (kx Λ 0)), (2, .ref (km Λ 0)), (3, .int x3)] [] Mx' Mm') : kJ Λ 843 [(0, .ref (kb Λ)), (1, .ref (kx Λ 0)), (2, .ref (km Λ 0)), (3, .int x3)] [] Mx Mm := by
  obtain ⟨r, h1, h2⟩ := hS (kxs Λ (x3 + 1).toNatClampNeg) Mx Mm hP
  refine k_aload_n 1 (pc' := 844) hC dL_law_843 rfl rfl ?_
  refine k_aload_n 0 (pc' := 845) hC dL_law_844 rfl rfl ?_
  refine k_iload_n 3 (pc' := 846) hC dL_law_845 rfl rfl ?_
  refine k_iconst (v := 1) (pc' := 847) hC dL_law_846 rfl rfl ?_
  refine k_iadd (pc' := 848) hC dL_law_847 rfl ?_
  refine k_sld (pc' := 849) hC dL_law_848 rfl (kin hi hL hlt 1 1 rfl (by decide)) ?_
  refine k_callXi [.int (kxs Λ (x3 + 1).toNatClampNeg)] (pc' := 852) hC dL_law_849 rfl (t_X5_can _ _ h1) gx0 vcl5 cv_L_102 ⟨⟨Nat.le_of_ble_eq_true rfl, Nat.le_of_ble_eq_true rfl⟩, rfl, Nat.le_of_ble_eq_true rfl⟩ (fun _ => rfl) rfl ?_
  refine k_aload_n 2 (pc' := 853) hC dL_law_852 rfl rfl ?_
  refine k_aload_n 0 (pc' := 854) hC dL_law_853 rfl rfl ?_
  refine k_iload_n 3 (pc' := 855) hC dL_law_854 rfl rfl ?_
  refine k_iconst (v := 1) (pc' := 856) hC dL_law_855 rfl rfl ?_
  refine k_iadd (pc' := 857) hC dL_law_856 rfl ?_
  refine k_sld (pc' := 858) hC dL_law_857 rfl (kin hi hL hlt 1 1 rfl (by decide)) ?_
  refine k_callMi [.int (kxs Λ (x3 + 1).toNatClampNeg)] (pc' := 861) hC dL_law_858 rfl (t_X6_can _ _ h2) gm0 vcl6 cv_L_105 ⟨⟨Nat.le_of_ble_eq_true rfl, Nat.le_of_ble_eq_true rfl⟩, rfl, Nat.le_of_ble_eq_true rfl⟩ (fun _ => rfl) rfl ?_
  exact k_icmp_eq (tgt := 1312) (pc' := 864) hC dL_law_861 (by decide) rfl (fun _ => K _ _ hP) (fun c => absurd rfl c)
theorem k_case22 {Λ : kΛ} (hC : kOK Λ) {P : jM → jM → Prop} (hS : kS_why P) {i : Nat} {x3 : Int32} (hi : x3 = nI i) (hL : kL Λ ≤ 3072) (hlt : i + 6 ≤ kL Λ) {Mx Mm : jM} (hP : P Mx Mm) (K : ∀ Mx' Mm' : jM, P Mx' Mm' → kJ Λ 1312 [(0, .ref (kb Λ)), (1, .ref (kx Λ 0)), (2, .ref (km Λ 0)), (3, .int x3)] [] Mx' Mm') : kJ Λ 866 [(0, .ref (kb Λ)), (1, .ref (kx Λ 0)), (2, .ref (km Λ 0)), (3, .int x3)] [] Mx Mm := by
  obtain ⟨r, Mx', Mm', h1, h2, h3⟩ := hS (kxs Λ (x3 + 1).toNatClampNeg) (kxs Λ (x3 + 2).toNatClampNeg) Mx Mm hP
  refine k_aload_n 1 (pc' := 867) hC dL_law_866 rfl rfl ?_
  refine k_aload_n 0 (pc' := 868) hC dL_law_867 rfl rfl ?_
  refine k_iload_n 3 (pc' := 869) hC dL_law_868 rfl rfl ?_
  refine k_iconst (v := 1) (pc' := 870) hC dL_law_869 rfl rfl ?_
  refine k_iadd (pc' := 871) hC dL_law_870 rfl ?_
  refine k_sld (pc' := 872) hC dL_law_871 rfl (kin hi hL hlt 1 1 rfl (by decide)) ?_
  refine k_aload_n 0 (pc' := 873) hC dL_law_872 rfl rfl ?_
  refine k_iload_n 3 (pc' := 874) hC dL_law_873 rfl rfl ?_
  refine k_iconst (v := 2) (pc' := 875) hC dL_law_874 rfl rfl ?_
  refine k_iadd (pc' := 876) hC dL_law_875 rfl ?_
  refine k_sld (pc' := 877) hC dL_law_876 rfl (kin hi hL hlt 2 2 rfl (by decide)) ?_
  refine k_callXi [.int (kxs Λ (x3 + 1).toNatClampNeg), .int (kxs Λ (x3 + 2).toNatClampNeg)] (pc' := 880) hC dL_law_877 rfl (t_X5_why _ _ h1) gx0 vcl5 cv_L_106 ⟨⟨Nat.le_of_ble_eq_true rfl, Nat.le_of_ble_eq_true rfl⟩, rfl, Nat.le_of_ble_eq_true rfl⟩ (fun _ => rfl) rfl ?_
  refine k_aload_n 2 (pc' := 881) hC dL_law_880 rfl rfl ?_
  refine k_aload_n 0 (pc' := 882) hC dL_law_881 rfl rfl ?_
  refine k_iload_n 3 (pc' := 883) hC dL_law_882 rfl rfl ?_
  refine k_iconst (v := 1) (pc' := 884) hC dL_law_883 rfl rfl ?_
  refine k_iadd (pc' := 885) hC dL_law_884 rfl ?_
  refine k_sld (pc' := 886) hC dL_law_885 rfl (kin hi hL hlt 1 1 rfl (by decide)) ?_
  refine k_aload_n 0 (pc' := 887) hC dL_law_886 rfl rfl ?_
  refine k_iload_n 3 (pc' := 888) hC dL_law_887 rfl rfl ?_
  refine k_iconst (v := 2) (pc' := 889) hC dL_law_888 rfl rfl ?_
  refine k_iadd (pc' := 890) hC dL_law_889 rfl ?_
  refine k_sld (pc' := 891) hC dL_law_890 rfl (kin hi hL hlt 2 2 rfl (by decide)) ?_
  refine k_callMi [.int (kxs Λ (x3 + 1).toNatClampNeg), .int (kxs Λ (x3 + 2).toNatClampNeg)] (pc' := 894) hC dL_law_891 rfl (t_X6_why _ _ h2) gm0 vcl6 cv_L_109 ⟨⟨Nat.le_of_ble_eq_true rfl, Nat.le_of_ble_eq_true rfl⟩, rfl, Nat.le_of_ble_eq_true rfl⟩ (fun _ => rfl) rfl ?_
  exact k_icmp_eq (tgt := 1312) (pc' := 897) hC dL_law_894 (by decide) rfl (fun _ => K _ _ h3) (fun c => absurd rfl c)
theorem k_case23 {Λ : kΛ} (hC : kOK Λ) {P : jM → jM → Prop} (hS : kS_opens P) {i : Nat} {x3 : Int32} (hi : x3 = nI i) (hL : kL Λ ≤ 3072) (hlt : i + 6 ≤ kL Λ) {Mx Mm : jM} (hP : P Mx Mm) (K : ∀ Mx' Mm' : jM, P Mx' Mm' → kJ Λ 1312 [(0, .ref (kb Λ)), (1, .ref (kx Λ 0)), (2, .ref (km Λ 0)), (3, .int x3)] [] Mx' Mm') : kJ Λ 899 [(0, .ref (kb Λ)), (1, .ref (kx Λ 0)), (2, .ref (km Λ 0)), (3, .int x3)] [] Mx Mm := by
  obtain ⟨r, Mx', Mm', h1, h2, h3⟩ := hS (kxs Λ (x3 + 1).toNatClampNeg) Mx Mm hP
  refine k_aload_n 1 (pc' := 900) hC dL_law_899 rfl rfl ?_
  refine k_aload_n 0 (pc' := 901) hC dL_law_900 rfl rfl ?_
  refine k_iload_n 3 (pc' := 902) hC dL_law_901 rfl rfl ?_
  refine k_iconst (v := 1) (pc' := 903) hC dL_law_902 rfl rfl ?_
  refine k_iadd (pc' := 904) hC dL_law_903 rfl ?_
  refine k_sld (pc' := 905) hC dL_law_904 rfl (kin hi hL hlt 1 1 rfl (by decide)) ?_
  refine k_callXi [.int (kxs Λ (x3 + 1).toNatClampNeg)] (pc' := 908) hC dL_law_905 rfl (t_X5_opens _ _ h1) gx0 vcl5 cv_L_110 ⟨⟨Nat.le_of_ble_eq_true rfl, Nat.le_of_ble_eq_true rfl⟩, rfl, Nat.le_of_ble_eq_true rfl⟩ (fun _ => rfl) rfl ?_
  refine k_aload_n 2 (pc' := 909) hC dL_law_908 rfl rfl ?_
  refine k_aload_n 0 (pc' := 910) hC dL_law_909 rfl rfl ?_
  refine k_iload_n 3 (pc' := 911) hC dL_law_910 rfl rfl ?_
  refine k_iconst (v := 1) (pc' := 912) hC dL_law_911 rfl rfl ?_
  refine k_iadd (pc' := 913) hC dL_law_912 rfl ?_
  refine k_sld (pc' := 914) hC dL_law_913 rfl (kin hi hL hlt 1 1 rfl (by decide)) ?_
  refine k_callMi [.int (kxs Λ (x3 + 1).toNatClampNeg)] (pc' := 917) hC dL_law_914 rfl (t_X6_opens _ _ h2) gm0 vcl6 cv_L_113 ⟨⟨Nat.le_of_ble_eq_true rfl, Nat.le_of_ble_eq_true rfl⟩, rfl, Nat.le_of_ble_eq_true rfl⟩ (fun _ => rfl) rfl ?_
  exact k_icmp_eq (tgt := 1312) (pc' := 920) hC dL_law_917 (by decide) rfl (fun _ => K _ _ h3) (fun c => absurd rfl c)
theorem k_case24 {Λ : kΛ} (hC : kOK Λ) {P : jM → jM → Prop} (hS : kS_late P) {i : Nat} {x3 : Int32} (hi : x3 = nI i) (hL : kL Λ ≤ 3072) (hlt : i + 6 ≤ kL Λ) {Mx Mm : jM} (hP : P Mx Mm) (K : ∀ Mx' Mm' : jM, P Mx' Mm' → kJ Λ 1312 [(0, .ref (kb Λ)), (1, .ref (kx Λ 0)), (2, .ref (km Λ 0)), (3, .int x3)] [] Mx' Mm') : kJ Λ 922 [(0, .ref (kb Λ)), (1, .ref (kx Λ 0)), (2, .ref (km Λ 0)), (3, .int x3)] [] Mx Mm := by
  obtain ⟨r, Mx', Mm', h1, h2, h3⟩ := hS  Mx Mm hP
  refine k_aload_n 1 (pc' := 923) hC dL_law_922 rfl rfl ?_
  refine k_callXi [] (pc' := 926) hC dL_law_923 rfl (t_X5_late _ _ h1) gx0 vcl5 cv_L_114 ⟨⟨Nat.le_of_ble_eq_true rfl, Nat.le_of_ble_eq_true rfl⟩, rfl, Nat.le_of_ble_eq_true rfl⟩ (fun _ => rfl) rfl ?_
  refine k_aload_n 2 (pc' := 927) hC dL_law_926 rfl rfl ?_
  refine k_callMi [] (pc' := 930) hC dL_law_927 rfl (t_X6_late _ _ h2) gm0 vcl6 cv_L_117 ⟨⟨Nat.le_of_ble_eq_true rfl, Nat.le_of_ble_eq_true rfl⟩, rfl, Nat.le_of_ble_eq_true rfl⟩ (fun _ => rfl) rfl ?_
  exact k_icmp_eq (tgt := 1312) (pc' := 933) hC dL_law_930 (by decide) rfl (fun _ => K _ _ h3) (fun c => absurd rfl c)
theorem k_case25 {Λ : kΛ} (hC : kOK Λ) {P : jM → jM → Prop} (hS : kS_run P) {i : Nat} {x3 : Int32} (hi : x3 = nI i) (hL : kL Λ ≤ 3072) (hlt : i + 6 ≤ kL Λ) {Mx Mm : jM} (hP : P Mx Mm) (K : ∀ Mx' Mm' : jM, P Mx' Mm' → kJ Λ 1312 [(0, .ref (kb Λ)), (1, .ref (kx Λ 0)), (2, .ref (km Λ 0)), (3, .int x3)] [] Mx' Mm') : kJ Λ 935 [(0, .ref (kb Λ)), (1, .ref (kx Λ 0)), (2, .ref (km Λ 0)), (3, .int x3)] [] Mx Mm := by
  obtain ⟨r, Mx', Mm', h1, h2, h3⟩ := hS (kxs Λ (x3 + 1).toNatClampNeg) Mx Mm hP
  refine k_aload_n 1 (pc' := 936) hC dL_law_935 rfl rfl ?_
  refine k_aload_n 0 (pc' := 937) hC dL_law_936 rfl rfl ?_
  refine k_iload_n 3 (pc' := 938) hC dL_law_937 rfl rfl ?_
  refine k_iconst (v := 1) (pc' := 939) hC dL_law_938 rfl rfl ?_
  refine k_iadd (pc' := 940) hC dL_law_939 rfl ?_
  refine k_sld (pc' := 941) hC dL_law_940 rfl (kin hi hL hlt 1 1 rfl (by decide)) ?_
  refine k_callXi [.int (kxs Λ (x3 + 1).toNatClampNeg)] (pc' := 944) hC dL_law_941 rfl (t_X5_run _ _ h1) gx0 vcl5 cv_L_118 ⟨⟨Nat.le_of_ble_eq_true rfl, Nat.le_of_ble_eq_true rfl⟩, rfl, Nat.le_of_ble_eq_true rfl⟩ (fun _ => rfl) rfl ?_
  refine k_aload_n 2 (pc' := 945) hC dL_law_944 rfl rfl ?_
  refine k_aload_n 0 (pc' := 946) hC dL_law_945 rfl rfl ?_
  refine k_iload_n 3 (pc' := 947) hC dL_law_946 rfl rfl ?_
  refine k_iconst (v := 1) (pc' := 948) hC dL_law_947 rfl rfl ?_
  refine k_iadd (pc' := 949) hC dL_law_948 rfl ?_
  refine k_sld (pc' := 950) hC dL_law_949 rfl (kin hi hL hlt 1 1 rfl (by decide)) ?_
  refine k_callMi [.int (kxs Λ (x3 + 1).toNatClampNeg)] (pc' := 953) hC dL_law_950 rfl (t_X6_run _ _ h2) gm0 vcl6 cv_L_121 ⟨⟨Nat.le_of_ble_eq_true rfl, Nat.le_of_ble_eq_true rfl⟩, rfl, Nat.le_of_ble_eq_true rfl⟩ (fun _ => rfl) rfl ?_
  exact k_icmp_eq (tgt := 1312) (pc' := 956) hC dL_law_953 (by decide) rfl (fun _ => K _ _ h3) (fun c => absurd rfl c)
theorem k_case26 {Λ : kΛ} (hC : kOK Λ) {P : jM → jM → Prop} (hS : kS_most P) {i : Nat} {x3 : Int32} (hi : x3 = nI i) (hL : kL Λ ≤ 3072) (hlt : i + 6 ≤ kL Λ) {Mx Mm : jM} (hP : P Mx Mm) (K : ∀ Mx' Mm' : jM, P Mx' Mm' → kJ Λ 1312 [(0, .ref (kb Λ)), (1, .ref (kx Λ 0)), (2, .ref (km Λ 0)), (3, .int x3)] [] Mx' Mm') : kJ Λ 958 [(0, .ref (kb Λ)), (1, .ref (kx Λ 0)), (2, .ref (km Λ 0)), (3, .int x3)] [] Mx Mm := by
  obtain ⟨r, Mx', Mm', h1, h2, h3⟩ := hS  Mx Mm hP
  refine k_aload_n 1 (pc' := 959) hC dL_law_958 rfl rfl ?_
  refine k_callXi [] (pc' := 962) hC dL_law_959 rfl (t_X5_most _ _ h1) gx0 vcl5 cv_L_122 ⟨⟨Nat.le_of_ble_eq_true rfl, Nat.le_of_ble_eq_true rfl⟩, rfl, Nat.le_of_ble_eq_true rfl⟩ (fun _ => rfl) rfl ?_
  refine k_aload_n 2 (pc' := 963) hC dL_law_962 rfl rfl ?_
  refine k_callMi [] (pc' := 966) hC dL_law_963 rfl (t_X6_most _ _ h2) gm0 vcl6 cv_L_125 ⟨⟨Nat.le_of_ble_eq_true rfl, Nat.le_of_ble_eq_true rfl⟩, rfl, Nat.le_of_ble_eq_true rfl⟩ (fun _ => rfl) rfl ?_
  exact k_icmp_eq (tgt := 1312) (pc' := 969) hC dL_law_966 (by decide) rfl (fun _ => K _ _ h3) (fun c => absurd rfl c)
theorem k_case27 {Λ : kΛ} (hC : kOK Λ) {P : jM → jM → Prop} (hS : kS_fewest P) {i : Nat} {x3 : Int32} (hi : x3 = nI i) (hL : kL Λ ≤ 3072) (hlt : i + 6 ≤ kL Λ) {Mx Mm : jM} (hP : P Mx Mm) (K : ∀ Mx' Mm' : jM, P Mx' Mm' → kJ Λ 1312 [(0, .ref (kb Λ)), (1, .ref (kx Λ 0)), (2, .ref (km Λ 0)), (3, .int x3)] [] Mx' Mm') : kJ Λ 971 [(0, .ref (kb Λ)), (1, .ref (kx Λ 0)), (2, .ref (km Λ 0)), (3, .int x3)] [] Mx Mm := by
  obtain ⟨r, Mx', Mm', h1, h2, h3⟩ := hS (kxs Λ (x3 + 1).toNatClampNeg) Mx Mm hP
  refine k_aload_n 1 (pc' := 972) hC dL_law_971 rfl rfl ?_
  refine k_aload_n 0 (pc' := 973) hC dL_law_972 rfl rfl ?_
  refine k_iload_n 3 (pc' := 974) hC dL_law_973 rfl rfl ?_
  refine k_iconst (v := 1) (pc' := 975) hC dL_law_974 rfl rfl ?_
  refine k_iadd (pc' := 976) hC dL_law_975 rfl ?_
  refine k_sld (pc' := 977) hC dL_law_976 rfl (kin hi hL hlt 1 1 rfl (by decide)) ?_
  refine k_callXi [.int (kxs Λ (x3 + 1).toNatClampNeg)] (pc' := 980) hC dL_law_977 rfl (t_X5_fewest _ _ h1) gx0 vcl5 cv_L_126 ⟨⟨Nat.le_of_ble_eq_true rfl, Nat.le_of_ble_eq_true rfl⟩, rfl, Nat.le_of_ble_eq_true rfl⟩ (fun _ => rfl) rfl ?_
  refine k_aload_n 2 (pc' := 981) hC dL_law_980 rfl rfl ?_
  refine k_aload_n 0 (pc' := 982) hC dL_law_981 rfl rfl ?_
  refine k_iload_n 3 (pc' := 983) hC dL_law_982 rfl rfl ?_
  refine k_iconst (v := 1) (pc' := 984) hC dL_law_983 rfl rfl ?_
  refine k_iadd (pc' := 985) hC dL_law_984 rfl ?_
  refine k_sld (pc' := 986) hC dL_law_985 rfl (kin hi hL hlt 1 1 rfl (by decide)) ?_
  refine k_callMi [.int (kxs Λ (x3 + 1).toNatClampNeg)] (pc' := 989) hC dL_law_986 rfl (t_X6_fewest _ _ h2) gm0 vcl6 cv_L_129 ⟨⟨Nat.le_of_ble_eq_true rfl, Nat.le_of_ble_eq_true rfl⟩, rfl, Nat.le_of_ble_eq_true rfl⟩ (fun _ => rfl) rfl ?_
  exact k_icmp_eq (tgt := 1312) (pc' := 992) hC dL_law_989 (by decide) rfl (fun _ => K _ _ h3) (fun c => absurd rfl c)
theorem k_case28 {Λ : kΛ} (hC : kOK Λ) {P : jM → jM → Prop} (hS : kS_order P) {i : Nat} {x3 : Int32} (hi : x3 = nI i) (hL : kL Λ ≤ 3072) (hlt : i + 6 ≤ kL Λ) {Mx Mm : jM} (hP : P Mx Mm) (K : ∀ Mx' Mm' : jM, P Mx' Mm' → kJ Λ 1312 [(0, .ref (kb Λ)), (1, .ref (kx Λ 0)), (2, .ref (km Λ 0)), (3, .int x3)] [] Mx' Mm') : kJ Λ 994 [(0, .ref (kb Λ)), (1, .ref (kx Λ 0)), (2, .ref (km Λ 0)), (3, .int x3)] [] Mx Mm := by
  obtain ⟨r, Mx', Mm', h1, h2, h3⟩ := hS (kxs Λ (x3 + 1).toNatClampNeg) (kxs Λ (x3 + 2).toNatClampNeg) Mx Mm hP
  refine k_aload_n 1 (pc' := 995) hC dL_law_994 rfl rfl ?_
  refine k_aload_n 0 (pc' := 996) hC dL_law_995 rfl rfl ?_
  refine k_iload_n 3 (pc' := 997) hC dL_law_996 rfl rfl ?_
  refine k_iconst (v := 1) (pc' := 998) hC dL_law_997 rfl rfl ?_
  refine k_iadd (pc' := 999) hC dL_law_998 rfl ?_
  refine k_sld (pc' := 1000) hC dL_law_999 rfl (kin hi hL hlt 1 1 rfl (by decide)) ?_
  refine k_aload_n 0 (pc' := 1001) hC dL_law_1000 rfl rfl ?_
  refine k_iload_n 3 (pc' := 1002) hC dL_law_1001 rfl rfl ?_
  refine k_iconst (v := 2) (pc' := 1003) hC dL_law_1002 rfl rfl ?_
  refine k_iadd (pc' := 1004) hC dL_law_1003 rfl ?_
  refine k_sld (pc' := 1005) hC dL_law_1004 rfl (kin hi hL hlt 2 2 rfl (by decide)) ?_
  refine k_callXi [.int (kxs Λ (x3 + 1).toNatClampNeg), .int (kxs Λ (x3 + 2).toNatClampNeg)] (pc' := 1008) hC dL_law_1005 rfl (t_X5_order _ _ h1) gx0 vcl5 cv_L_130 ⟨⟨Nat.le_of_ble_eq_true rfl, Nat.le_of_ble_eq_true rfl⟩, rfl, Nat.le_of_ble_eq_true rfl⟩ (fun _ => rfl) rfl ?_
  refine k_aload_n 2 (pc' := 1009) hC dL_law_1008 rfl rfl ?_
  refine k_aload_n 0 (pc' := 1010) hC dL_law_1009 rfl rfl ?_
  refine k_iload_n 3 (pc' := 1011) hC dL_law_1010 rfl rfl ?_
  refine k_iconst (v := 1) (pc' := 1012) hC dL_law_1011 rfl rfl ?_
  refine k_iadd (pc' := 1013) hC dL_law_1012 rfl ?_
  refine k_sld (pc' := 1014) hC dL_law_1013 rfl (kin hi hL hlt 1 1 rfl (by decide)) ?_
  refine k_aload_n 0 (pc' := 1015) hC dL_law_1014 rfl rfl ?_
  refine k_iload_n 3 (pc' := 1016) hC dL_law_1015 rfl rfl ?_
  refine k_iconst (v := 2) (pc' := 1017) hC dL_law_1016 rfl rfl ?_
  refine k_iadd (pc' := 1018) hC dL_law_1017 rfl ?_
  refine k_sld (pc' := 1019) hC dL_law_1018 rfl (kin hi hL hlt 2 2 rfl (by decide)) ?_
  refine k_callMi [.int (kxs Λ (x3 + 1).toNatClampNeg), .int (kxs Λ (x3 + 2).toNatClampNeg)] (pc' := 1022) hC dL_law_1019 rfl (t_X6_order _ _ h2) gm0 vcl6 cv_L_133 ⟨⟨Nat.le_of_ble_eq_true rfl, Nat.le_of_ble_eq_true rfl⟩, rfl, Nat.le_of_ble_eq_true rfl⟩ (fun _ => rfl) rfl ?_
  exact k_icmp_eq (tgt := 1312) (pc' := 1025) hC dL_law_1022 (by decide) rfl (fun _ => K _ _ h3) (fun c => absurd rfl c)
theorem k_case29 {Λ : kΛ} (hC : kOK Λ) {P : jM → jM → Prop} (hS : kS_shut P) {i : Nat} {x3 : Int32} (hi : x3 = nI i) (hL : kL Λ ≤ 3072) (hlt : i + 6 ≤ kL Λ) {Mx Mm : jM} (hP : P Mx Mm) (K : ∀ Mx' Mm' : jM, P Mx' Mm' → kJ Λ 1312 [(0, .ref (kb Λ)), (1, .ref (kx Λ 0)), (2, .ref (km Λ 0)), (3, .int x3)] [] Mx' Mm') : kJ Λ 1027 [(0, .ref (kb Λ)), (1, .ref (kx Λ 0)), (2, .ref (km Λ 0)), (3, .int x3)] [] Mx Mm := by
  obtain ⟨r, Mx', Mm', h1, h2, h3⟩ := hS  Mx Mm hP
  refine k_aload_n 1 (pc' := 1028) hC dL_law_1027 rfl rfl ?_
  refine k_callXi [] (pc' := 1031) hC dL_law_1028 rfl (t_X5_shut _ _ h1) gx0 vcl5 cv_L_134 ⟨⟨Nat.le_of_ble_eq_true rfl, Nat.le_of_ble_eq_true rfl⟩, rfl, Nat.le_of_ble_eq_true rfl⟩ (fun _ => rfl) rfl ?_
  refine k_aload_n 2 (pc' := 1032) hC dL_law_1031 rfl rfl ?_
  refine k_callMi [] (pc' := 1035) hC dL_law_1032 rfl (t_X6_shut _ _ h2) gm0 vcl6 cv_L_137 ⟨⟨Nat.le_of_ble_eq_true rfl, Nat.le_of_ble_eq_true rfl⟩, rfl, Nat.le_of_ble_eq_true rfl⟩ (fun _ => rfl) rfl ?_
  exact k_icmp_eq (tgt := 1312) (pc' := 1038) hC dL_law_1035 (by decide) rfl (fun _ => K _ _ h3) (fun c => absurd rfl c)
theorem k_case30 {Λ : kΛ} (hC : kOK Λ) {P : jM → jM → Prop} (hS : kS_waits P) {i : Nat} {x3 : Int32} (hi : x3 = nI i) (hL : kL Λ ≤ 3072) (hlt : i + 6 ≤ kL Λ) {Mx Mm : jM} (hP : P Mx Mm) (K : ∀ Mx' Mm' : jM, P Mx' Mm' → kJ Λ 1312 [(0, .ref (kb Λ)), (1, .ref (kx Λ 0)), (2, .ref (km Λ 0)), (3, .int x3)] [] Mx' Mm') : kJ Λ 1040 [(0, .ref (kb Λ)), (1, .ref (kx Λ 0)), (2, .ref (km Λ 0)), (3, .int x3)] [] Mx Mm := by
  obtain ⟨r, Mx', Mm', h1, h2, h3⟩ := hS (kxs Λ (x3 + 1).toNatClampNeg) Mx Mm hP
  refine k_aload_n 1 (pc' := 1041) hC dL_law_1040 rfl rfl ?_
  refine k_aload_n 0 (pc' := 1042) hC dL_law_1041 rfl rfl ?_
  refine k_iload_n 3 (pc' := 1043) hC dL_law_1042 rfl rfl ?_
  refine k_iconst (v := 1) (pc' := 1044) hC dL_law_1043 rfl rfl ?_
  refine k_iadd (pc' := 1045) hC dL_law_1044 rfl ?_
  refine k_sld (pc' := 1046) hC dL_law_1045 rfl (kin hi hL hlt 1 1 rfl (by decide)) ?_
  refine k_callXi [.int (kxs Λ (x3 + 1).toNatClampNeg)] (pc' := 1049) hC dL_law_1046 rfl (t_X5_waits _ _ h1) gx0 vcl5 cv_L_138 ⟨⟨Nat.le_of_ble_eq_true rfl, Nat.le_of_ble_eq_true rfl⟩, rfl, Nat.le_of_ble_eq_true rfl⟩ (fun _ => rfl) rfl ?_
  refine k_aload_n 2 (pc' := 1050) hC dL_law_1049 rfl rfl ?_
  refine k_aload_n 0 (pc' := 1051) hC dL_law_1050 rfl rfl ?_
  refine k_iload_n 3 (pc' := 1052) hC dL_law_1051 rfl rfl ?_
  refine k_iconst (v := 1) (pc' := 1053) hC dL_law_1052 rfl rfl ?_
  refine k_iadd (pc' := 1054) hC dL_law_1053 rfl ?_
  refine k_sld (pc' := 1055) hC dL_law_1054 rfl (kin hi hL hlt 1 1 rfl (by decide)) ?_
  refine k_callMi [.int (kxs Λ (x3 + 1).toNatClampNeg)] (pc' := 1058) hC dL_law_1055 rfl (t_X6_waits _ _ h2) gm0 vcl6 cv_L_141 ⟨⟨Nat.le_of_ble_eq_true rfl, Nat.le_of_ble_eq_true rfl⟩, rfl, Nat.le_of_ble_eq_true rfl⟩ (fun _ => rfl) rfl ?_
  exact k_icmp_eq (tgt := 1312) (pc' := 1061) hC dL_law_1058 (by decide) rfl (fun _ => K _ _ h3) (fun c => absurd rfl c)
theorem k_case31 {Λ : kΛ} (hC : kOK Λ) {P : jM → jM → Prop} (hS : kS_diary P) {i : Nat} {x3 : Int32} (hi : x3 = nI i) (hL : kL Λ ≤ 3072) (hlt : i + 6 ≤ kL Λ) {Mx Mm : jM} (hP : P Mx Mm) (K : ∀ Mx' Mm' : jM, P Mx' Mm' → kJ Λ 1312 [(0, .ref (kb Λ)), (1, .ref (kx Λ 0)), (2, .ref (km Λ 0)), (3, .int x3)] [] Mx' Mm') : kJ Λ 1063 [(0, .ref (kb Λ)), (1, .ref (kx Λ 0)), (2, .ref (km Λ 0)), (3, .int x3)] [] Mx Mm := by
  obtain ⟨r, Mx', Mm', h1, h2, h3⟩ := hS (kxs Λ (x3 + 1).toNatClampNeg) Mx Mm hP
  refine k_aload_n 1 (pc' := 1064) hC dL_law_1063 rfl rfl ?_
  refine k_aload_n 0 (pc' := 1065) hC dL_law_1064 rfl rfl ?_
  refine k_iload_n 3 (pc' := 1066) hC dL_law_1065 rfl rfl ?_
  refine k_iconst (v := 1) (pc' := 1067) hC dL_law_1066 rfl rfl ?_
  refine k_iadd (pc' := 1068) hC dL_law_1067 rfl ?_
  refine k_sld (pc' := 1069) hC dL_law_1068 rfl (kin hi hL hlt 1 1 rfl (by decide)) ?_
  refine k_callXi [.int (kxs Λ (x3 + 1).toNatClampNeg)] (pc' := 1072) hC dL_law_1069 rfl (t_X5_diary _ _ h1) gx0 vcl5 cv_L_142 ⟨⟨Nat.le_of_ble_eq_true rfl, Nat.le_of_ble_eq_true rfl⟩, rfl, Nat.le_of_ble_eq_true rfl⟩ (fun _ => rfl) rfl ?_
  refine k_aload_n 2 (pc' := 1073) hC dL_law_1072 rfl rfl ?_
  refine k_aload_n 0 (pc' := 1074) hC dL_law_1073 rfl rfl ?_
  refine k_iload_n 3 (pc' := 1075) hC dL_law_1074 rfl rfl ?_
  refine k_iconst (v := 1) (pc' := 1076) hC dL_law_1075 rfl rfl ?_
  refine k_iadd (pc' := 1077) hC dL_law_1076 rfl ?_
  refine k_sld (pc' := 1078) hC dL_law_1077 rfl (kin hi hL hlt 1 1 rfl (by decide)) ?_
  refine k_callMi [.int (kxs Λ (x3 + 1).toNatClampNeg)] (pc' := 1081) hC dL_law_1078 rfl (t_X6_diary _ _ h2) gm0 vcl6 cv_L_145 ⟨⟨Nat.le_of_ble_eq_true rfl, Nat.le_of_ble_eq_true rfl⟩, rfl, Nat.le_of_ble_eq_true rfl⟩ (fun _ => rfl) rfl ?_
  exact k_icmp_eq (tgt := 1312) (pc' := 1084) hC dL_law_1081 (by decide) rfl (fun _ => K _ _ h3) (fun c => absurd rfl c)
theorem k_case32 {Λ : kΛ} (hC : kOK Λ) {P : jM → jM → Prop} (hS : kS_forged P) {i : Nat} {x3 : Int32} (hi : x3 = nI i) (hL : kL Λ ≤ 3072) (hlt : i + 6 ≤ kL Λ) {Mx Mm : jM} (hP : P Mx Mm) (K : ∀ Mx' Mm' : jM, P Mx' Mm' → kJ Λ 1312 [(0, .ref (kb Λ)), (1, .ref (kx Λ 0)), (2, .ref (km Λ 0)), (3, .int x3)] [] Mx' Mm') : kJ Λ 1086 [(0, .ref (kb Λ)), (1, .ref (kx Λ 0)), (2, .ref (km Λ 0)), (3, .int x3)] [] Mx Mm := by
  obtain ⟨r, Mx', Mm', h1, h2, h3⟩ := hS (kxs Λ (x3 + 1).toNatClampNeg) Mx Mm hP
  refine k_aload_n 1 (pc' := 1087) hC dL_law_1086 rfl rfl ?_
  refine k_aload_n 0 (pc' := 1088) hC dL_law_1087 rfl rfl ?_
  refine k_iload_n 3 (pc' := 1089) hC dL_law_1088 rfl rfl ?_
  refine k_iconst (v := 1) (pc' := 1090) hC dL_law_1089 rfl rfl ?_
  refine k_iadd (pc' := 1091) hC dL_law_1090 rfl ?_
  refine k_sld (pc' := 1092) hC dL_law_1091 rfl (kin hi hL hlt 1 1 rfl (by decide)) ?_
  refine k_callXi [.int (kxs Λ (x3 + 1).toNatClampNeg)] (pc' := 1095) hC dL_law_1092 rfl (t_X5_forged _ _ h1) gx0 vcl5 cv_L_146 ⟨⟨Nat.le_of_ble_eq_true rfl, Nat.le_of_ble_eq_true rfl⟩, rfl, Nat.le_of_ble_eq_true rfl⟩ (fun _ => rfl) rfl ?_
  refine k_aload_n 2 (pc' := 1096) hC dL_law_1095 rfl rfl ?_
  refine k_aload_n 0 (pc' := 1097) hC dL_law_1096 rfl rfl ?_
  refine k_iload_n 3 (pc' := 1098) hC dL_law_1097 rfl rfl ?_
  refine k_iconst (v := 1) (pc' := 1099) hC dL_law_1098 rfl rfl ?_
  refine k_iadd (pc' := 1100) hC dL_law_1099 rfl ?_
  refine k_sld (pc' := 1101) hC dL_law_1100 rfl (kin hi hL hlt 1 1 rfl (by decide)) ?_
  refine k_callMi [.int (kxs Λ (x3 + 1).toNatClampNeg)] (pc' := 1104) hC dL_law_1101 rfl (t_X6_forged _ _ h2) gm0 vcl6 cv_L_149 ⟨⟨Nat.le_of_ble_eq_true rfl, Nat.le_of_ble_eq_true rfl⟩, rfl, Nat.le_of_ble_eq_true rfl⟩ (fun _ => rfl) rfl ?_
  exact k_icmp_eq (tgt := 1312) (pc' := 1107) hC dL_law_1104 (by decide) rfl (fun _ => K _ _ h3) (fun c => absurd rfl c)
theorem k_case33 {Λ : kΛ} (hC : kOK Λ) {P : jM → jM → Prop} (hS : kS_stolen P) {i : Nat} {x3 : Int32} (hi : x3 = nI i) (hL : kL Λ ≤ 3072) (hlt : i + 6 ≤ kL Λ) {Mx Mm : jM} (hP : P Mx Mm) (K : ∀ Mx' Mm' : jM, P Mx' Mm' → kJ Λ 1312 [(0, .ref (kb Λ)), (1, .ref (kx Λ 0)), (2, .ref (km Λ 0)), (3, .int x3)] [] Mx' Mm') : kJ Λ 1109 [(0, .ref (kb Λ)), (1, .ref (kx Λ 0)), (2, .ref (km Λ 0)), (3, .int x3)] [] Mx Mm := by
  obtain ⟨r, h1, h2⟩ := hS (kxs Λ (x3 + 1).toNatClampNeg) (kxs Λ (x3 + 2).toNatClampNeg) Mx Mm hP
  refine k_aload_n 1 (pc' := 1110) hC dL_law_1109 rfl rfl ?_
  refine k_aload_n 0 (pc' := 1111) hC dL_law_1110 rfl rfl ?_
  refine k_iload_n 3 (pc' := 1112) hC dL_law_1111 rfl rfl ?_
  refine k_iconst (v := 1) (pc' := 1113) hC dL_law_1112 rfl rfl ?_
  refine k_iadd (pc' := 1114) hC dL_law_1113 rfl ?_
  refine k_sld (pc' := 1115) hC dL_law_1114 rfl (kin hi hL hlt 1 1 rfl (by decide)) ?_
  refine k_aload_n 0 (pc' := 1116) hC dL_law_1115 rfl rfl ?_
  refine k_iload_n 3 (pc' := 1117) hC dL_law_1116 rfl rfl ?_
  refine k_iconst (v := 2) (pc' := 1118) hC dL_law_1117 rfl rfl ?_
  refine k_iadd (pc' := 1119) hC dL_law_1118 rfl ?_
  refine k_sld (pc' := 1120) hC dL_law_1119 rfl (kin hi hL hlt 2 2 rfl (by decide)) ?_
  refine k_callXi [.int (kxs Λ (x3 + 1).toNatClampNeg), .int (kxs Λ (x3 + 2).toNatClampNeg)] (pc' := 1123) hC dL_law_1120 rfl (t_X5_stolen _ _ h1) gx0 vcl5 cv_L_150 ⟨⟨Nat.le_of_ble_eq_true rfl, Nat.le_of_ble_eq_true rfl⟩, rfl, Nat.le_of_ble_eq_true rfl⟩ (fun _ => rfl) rfl ?_
  refine k_aload_n 2 (pc' := 1124) hC dL_law_1123 rfl rfl ?_
  refine k_aload_n 0 (pc' := 1125) hC dL_law_1124 rfl rfl ?_
  refine k_iload_n 3 (pc' := 1126) hC dL_law_1125 rfl rfl ?_
  refine k_iconst (v := 1) (pc' := 1127) hC dL_law_1126 rfl rfl ?_
  refine k_iadd (pc' := 1128) hC dL_law_1127 rfl ?_
  refine k_sld (pc' := 1129) hC dL_law_1128 rfl (kin hi hL hlt 1 1 rfl (by decide)) ?_
  refine k_aload_n 0 (pc' := 1130) hC dL_law_1129 rfl rfl ?_
  refine k_iload_n 3 (pc' := 1131) hC dL_law_1130 rfl rfl ?_
  refine k_iconst (v := 2) (pc' := 1132) hC dL_law_1131 rfl rfl ?_
  refine k_iadd (pc' := 1133) hC dL_law_1132 rfl ?_
  refine k_sld (pc' := 1134) hC dL_law_1133 rfl (kin hi hL hlt 2 2 rfl (by decide)) ?_
  refine k_callMi [.int (kxs Λ (x3 + 1).toNatClampNeg), .int (kxs Λ (x3 + 2).toNatClampNeg)] (pc' := 1137) hC dL_law_1134 rfl (t_X6_stolen _ _ h2) gm0 vcl6 cv_L_153 ⟨⟨Nat.le_of_ble_eq_true rfl, Nat.le_of_ble_eq_true rfl⟩, rfl, Nat.le_of_ble_eq_true rfl⟩ (fun _ => rfl) rfl ?_
  exact k_icmp_eq (tgt := 1312) (pc' := 1140) hC dL_law_1137 (by decide) rfl (fun _ => K _ _ hP) (fun c => absurd rfl c)
theorem k_case34 {Λ : kΛ} (hC : kOK Λ) {P : jM → jM → Prop} (hS : kS_odds P) {i : Nat} {x3 : Int32} (hi : x3 = nI i) (hL : kL Λ ≤ 3072) (hlt : i + 6 ≤ kL Λ) {Mx Mm : jM} (hP : P Mx Mm) (K : ∀ Mx' Mm' : jM, P Mx' Mm' → kJ Λ 1312 [(0, .ref (kb Λ)), (1, .ref (kx Λ 0)), (2, .ref (km Λ 0)), (3, .int x3)] [] Mx' Mm') : kJ Λ 1142 [(0, .ref (kb Λ)), (1, .ref (kx Λ 0)), (2, .ref (km Λ 0)), (3, .int x3)] [] Mx Mm := by
  obtain ⟨r, Mx', Mm', h1, h2, h3⟩ := hS (kxs Λ (x3 + 1).toNatClampNeg) Mx Mm hP
  refine k_aload_n 1 (pc' := 1143) hC dL_law_1142 rfl rfl ?_
  refine k_aload_n 0 (pc' := 1144) hC dL_law_1143 rfl rfl ?_
  refine k_iload_n 3 (pc' := 1145) hC dL_law_1144 rfl rfl ?_
  refine k_iconst (v := 1) (pc' := 1146) hC dL_law_1145 rfl rfl ?_
  refine k_iadd (pc' := 1147) hC dL_law_1146 rfl ?_
  refine k_sld (pc' := 1148) hC dL_law_1147 rfl (kin hi hL hlt 1 1 rfl (by decide)) ?_
  refine k_callXi [.int (kxs Λ (x3 + 1).toNatClampNeg)] (pc' := 1151) hC dL_law_1148 rfl (t_X5_odds _ _ h1) gx0 vcl5 cv_L_154 ⟨⟨Nat.le_of_ble_eq_true rfl, Nat.le_of_ble_eq_true rfl⟩, rfl, Nat.le_of_ble_eq_true rfl⟩ (fun _ => rfl) rfl ?_
  refine k_aload_n 2 (pc' := 1152) hC dL_law_1151 rfl rfl ?_
  refine k_aload_n 0 (pc' := 1153) hC dL_law_1152 rfl rfl ?_
  refine k_iload_n 3 (pc' := 1154) hC dL_law_1153 rfl rfl ?_
  refine k_iconst (v := 1) (pc' := 1155) hC dL_law_1154 rfl rfl ?_
  refine k_iadd (pc' := 1156) hC dL_law_1155 rfl ?_
  refine k_sld (pc' := 1157) hC dL_law_1156 rfl (kin hi hL hlt 1 1 rfl (by decide)) ?_
  refine k_callMi [.int (kxs Λ (x3 + 1).toNatClampNeg)] (pc' := 1160) hC dL_law_1157 rfl (t_X6_odds _ _ h2) gm0 vcl6 cv_L_157 ⟨⟨Nat.le_of_ble_eq_true rfl, Nat.le_of_ble_eq_true rfl⟩, rfl, Nat.le_of_ble_eq_true rfl⟩ (fun _ => rfl) rfl ?_
  exact k_icmp_eq (tgt := 1312) (pc' := 1163) hC dL_law_1160 (by decide) rfl (fun _ => K _ _ h3) (fun c => absurd rfl c)
theorem k_case35 {Λ : kΛ} (hC : kOK Λ) {P : jM → jM → Prop} (hS : kS_lots P) {i : Nat} {x3 : Int32} (hi : x3 = nI i) (hL : kL Λ ≤ 3072) (hlt : i + 6 ≤ kL Λ) {Mx Mm : jM} (hP : P Mx Mm) (K : ∀ Mx' Mm' : jM, P Mx' Mm' → kJ Λ 1312 [(0, .ref (kb Λ)), (1, .ref (kx Λ 0)), (2, .ref (km Λ 0)), (3, .int x3)] [] Mx' Mm') : kJ Λ 1165 [(0, .ref (kb Λ)), (1, .ref (kx Λ 0)), (2, .ref (km Λ 0)), (3, .int x3)] [] Mx Mm := by
  obtain ⟨r, Mx', Mm', h1, h2, h3⟩ := hS (kxs Λ (x3 + 1).toNatClampNeg) (kxs Λ (x3 + 2).toNatClampNeg) Mx Mm hP
  refine k_aload_n 1 (pc' := 1166) hC dL_law_1165 rfl rfl ?_
  refine k_aload_n 0 (pc' := 1167) hC dL_law_1166 rfl rfl ?_
  refine k_iload_n 3 (pc' := 1168) hC dL_law_1167 rfl rfl ?_
  refine k_iconst (v := 1) (pc' := 1169) hC dL_law_1168 rfl rfl ?_
  refine k_iadd (pc' := 1170) hC dL_law_1169 rfl ?_
  refine k_sld (pc' := 1171) hC dL_law_1170 rfl (kin hi hL hlt 1 1 rfl (by decide)) ?_
  refine k_aload_n 0 (pc' := 1172) hC dL_law_1171 rfl rfl ?_
  refine k_iload_n 3 (pc' := 1173) hC dL_law_1172 rfl rfl ?_
  refine k_iconst (v := 2) (pc' := 1174) hC dL_law_1173 rfl rfl ?_
  refine k_iadd (pc' := 1175) hC dL_law_1174 rfl ?_
  refine k_sld (pc' := 1176) hC dL_law_1175 rfl (kin hi hL hlt 2 2 rfl (by decide)) ?_
  refine k_callXi [.int (kxs Λ (x3 + 1).toNatClampNeg), .int (kxs Λ (x3 + 2).toNatClampNeg)] (pc' := 1179) hC dL_law_1176 rfl (t_X5_lots _ _ h1) gx0 vcl5 cv_L_158 ⟨⟨Nat.le_of_ble_eq_true rfl, Nat.le_of_ble_eq_true rfl⟩, rfl, Nat.le_of_ble_eq_true rfl⟩ (fun _ => rfl) rfl ?_
  refine k_aload_n 2 (pc' := 1180) hC dL_law_1179 rfl rfl ?_
  refine k_aload_n 0 (pc' := 1181) hC dL_law_1180 rfl rfl ?_
  refine k_iload_n 3 (pc' := 1182) hC dL_law_1181 rfl rfl ?_
  refine k_iconst (v := 1) (pc' := 1183) hC dL_law_1182 rfl rfl ?_
  refine k_iadd (pc' := 1184) hC dL_law_1183 rfl ?_
  refine k_sld (pc' := 1185) hC dL_law_1184 rfl (kin hi hL hlt 1 1 rfl (by decide)) ?_
  refine k_aload_n 0 (pc' := 1186) hC dL_law_1185 rfl rfl ?_
  refine k_iload_n 3 (pc' := 1187) hC dL_law_1186 rfl rfl ?_
  refine k_iconst (v := 2) (pc' := 1188) hC dL_law_1187 rfl rfl ?_
  refine k_iadd (pc' := 1189) hC dL_law_1188 rfl ?_
  refine k_sld (pc' := 1190) hC dL_law_1189 rfl (kin hi hL hlt 2 2 rfl (by decide)) ?_
  refine k_callMi [.int (kxs Λ (x3 + 1).toNatClampNeg), .int (kxs Λ (x3 + 2).toNatClampNeg)] (pc' := 1193) hC dL_law_1190 rfl (t_X6_lots _ _ h2) gm0 vcl6 cv_L_161 ⟨⟨Nat.le_of_ble_eq_true rfl, Nat.le_of_ble_eq_true rfl⟩, rfl, Nat.le_of_ble_eq_true rfl⟩ (fun _ => rfl) rfl ?_
  exact k_icmp_eq (tgt := 1312) (pc' := 1196) hC dL_law_1193 (by decide) rfl (fun _ => K _ _ h3) (fun c => absurd rfl c)
theorem k_case36 {Λ : kΛ} (hC : kOK Λ) {P : jM → jM → Prop} (hS : kS_asked P) {i : Nat} {x3 : Int32} (hi : x3 = nI i) (hL : kL Λ ≤ 3072) (hlt : i + 6 ≤ kL Λ) {Mx Mm : jM} (hP : P Mx Mm) (K : ∀ Mx' Mm' : jM, P Mx' Mm' → kJ Λ 1312 [(0, .ref (kb Λ)), (1, .ref (kx Λ 0)), (2, .ref (km Λ 0)), (3, .int x3)] [] Mx' Mm') : kJ Λ 1198 [(0, .ref (kb Λ)), (1, .ref (kx Λ 0)), (2, .ref (km Λ 0)), (3, .int x3)] [] Mx Mm := by
  obtain ⟨r, h1, h2⟩ := hS  Mx Mm hP
  refine k_aload_n 1 (pc' := 1199) hC dL_law_1198 rfl rfl ?_
  refine k_callXi [] (pc' := 1202) hC dL_law_1199 rfl (t_X5_asked _ _ h1) gx0 vcl5 cv_L_162 ⟨⟨Nat.le_of_ble_eq_true rfl, Nat.le_of_ble_eq_true rfl⟩, rfl, Nat.le_of_ble_eq_true rfl⟩ (fun _ => rfl) rfl ?_
  refine k_aload_n 2 (pc' := 1203) hC dL_law_1202 rfl rfl ?_
  refine k_callMi [] (pc' := 1206) hC dL_law_1203 rfl (t_X6_asked _ _ h2) gm0 vcl6 cv_L_165 ⟨⟨Nat.le_of_ble_eq_true rfl, Nat.le_of_ble_eq_true rfl⟩, rfl, Nat.le_of_ble_eq_true rfl⟩ (fun _ => rfl) rfl ?_
  exact k_icmp_eq (tgt := 1312) (pc' := 1209) hC dL_law_1206 (by decide) rfl (fun _ => K _ _ hP) (fun c => absurd rfl c)
theorem k_case37 {Λ : kΛ} (hC : kOK Λ) {P : jM → jM → Prop} (hS : kS_upper P) {i : Nat} {x3 : Int32} (hi : x3 = nI i) (hL : kL Λ ≤ 3072) (hlt : i + 6 ≤ kL Λ) {Mx Mm : jM} (hP : P Mx Mm) (K : ∀ Mx' Mm' : jM, P Mx' Mm' → kJ Λ 1312 [(0, .ref (kb Λ)), (1, .ref (kx Λ 0)), (2, .ref (km Λ 0)), (3, .int x3)] [] Mx' Mm') : kJ Λ 1211 [(0, .ref (kb Λ)), (1, .ref (kx Λ 0)), (2, .ref (km Λ 0)), (3, .int x3)] [] Mx Mm := by
  obtain ⟨r, h1, h2⟩ := hS  Mx Mm hP
  refine k_aload_n 1 (pc' := 1212) hC dL_law_1211 rfl rfl ?_
  refine k_callXl [] (pc' := 1215) hC dL_law_1212 rfl (t_X5_upper _ _ h1) gx0 vcl5 cv_L_166 ⟨⟨Nat.le_of_ble_eq_true rfl, Nat.le_of_ble_eq_true rfl⟩, rfl, Nat.le_of_ble_eq_true rfl⟩ (fun _ => rfl) rfl ?_
  refine k_aload_n 2 (pc' := 1216) hC dL_law_1215 rfl rfl ?_
  refine k_callMl [] (pc' := 1219) hC dL_law_1216 rfl (t_X6_upper _ _ h2) gm0 vcl6 cv_L_170 ⟨⟨Nat.le_of_ble_eq_true rfl, Nat.le_of_ble_eq_true rfl⟩, rfl, Nat.le_of_ble_eq_true rfl⟩ (fun _ => rfl) rfl ?_
  refine k_lcmp (pc' := 1220) hC dL_law_1219 rfl ?_
  exact k_if_eq (tgt := 1312) (pc' := 1223) hC dL_law_1220 (by decide) rfl (fun _ => K _ _ hP) (fun c => absurd (klg _) c)
theorem k_case38 {Λ : kΛ} (hC : kOK Λ) {P : jM → jM → Prop} (hS : kS_lower P) {i : Nat} {x3 : Int32} (hi : x3 = nI i) (hL : kL Λ ≤ 3072) (hlt : i + 6 ≤ kL Λ) {Mx Mm : jM} (hP : P Mx Mm) (K : ∀ Mx' Mm' : jM, P Mx' Mm' → kJ Λ 1312 [(0, .ref (kb Λ)), (1, .ref (kx Λ 0)), (2, .ref (km Λ 0)), (3, .int x3)] [] Mx' Mm') : kJ Λ 1225 [(0, .ref (kb Λ)), (1, .ref (kx Λ 0)), (2, .ref (km Λ 0)), (3, .int x3)] [] Mx Mm := by
  obtain ⟨r, h1, h2⟩ := hS  Mx Mm hP
  refine k_aload_n 1 (pc' := 1226) hC dL_law_1225 rfl rfl ?_
  refine k_callXl [] (pc' := 1229) hC dL_law_1226 rfl (t_X5_lower _ _ h1) gx0 vcl5 cv_L_171 ⟨⟨Nat.le_of_ble_eq_true rfl, Nat.le_of_ble_eq_true rfl⟩, rfl, Nat.le_of_ble_eq_true rfl⟩ (fun _ => rfl) rfl ?_
  refine k_aload_n 2 (pc' := 1230) hC dL_law_1229 rfl rfl ?_
  refine k_callMl [] (pc' := 1233) hC dL_law_1230 rfl (t_X6_lower _ _ h2) gm0 vcl6 cv_L_174 ⟨⟨Nat.le_of_ble_eq_true rfl, Nat.le_of_ble_eq_true rfl⟩, rfl, Nat.le_of_ble_eq_true rfl⟩ (fun _ => rfl) rfl ?_
  refine k_lcmp (pc' := 1234) hC dL_law_1233 rfl ?_
  exact k_if_eq (tgt := 1312) (pc' := 1237) hC dL_law_1234 (by decide) rfl (fun _ => K _ _ hP) (fun c => absurd (klg _) c)
theorem k_case39 {Λ : kΛ} (hC : kOK Λ) {P : jM → jM → Prop} (hS : kS_count P) {i : Nat} {x3 : Int32} (hi : x3 = nI i) (hL : kL Λ ≤ 3072) (hlt : i + 6 ≤ kL Λ) {Mx Mm : jM} (hP : P Mx Mm) (K : ∀ Mx' Mm' : jM, P Mx' Mm' → kJ Λ 1312 [(0, .ref (kb Λ)), (1, .ref (kx Λ 0)), (2, .ref (km Λ 0)), (3, .int x3)] [] Mx' Mm') : kJ Λ 1239 [(0, .ref (kb Λ)), (1, .ref (kx Λ 0)), (2, .ref (km Λ 0)), (3, .int x3)] [] Mx Mm := by
  obtain ⟨r, h1, h2⟩ := hS (kxs Λ (x3 + 1).toNatClampNeg) Mx Mm hP
  refine k_aload_n 1 (pc' := 1240) hC dL_law_1239 rfl rfl ?_
  refine k_aload_n 0 (pc' := 1241) hC dL_law_1240 rfl rfl ?_
  refine k_iload_n 3 (pc' := 1242) hC dL_law_1241 rfl rfl ?_
  refine k_iconst (v := 1) (pc' := 1243) hC dL_law_1242 rfl rfl ?_
  refine k_iadd (pc' := 1244) hC dL_law_1243 rfl ?_
  refine k_sld (pc' := 1245) hC dL_law_1244 rfl (kin hi hL hlt 1 1 rfl (by decide)) ?_
  refine k_callXi [.int (kxs Λ (x3 + 1).toNatClampNeg)] (pc' := 1248) hC dL_law_1245 rfl (t_X5_count _ _ h1) gx0 vcl5 cv_L_175 ⟨⟨Nat.le_of_ble_eq_true rfl, Nat.le_of_ble_eq_true rfl⟩, rfl, Nat.le_of_ble_eq_true rfl⟩ (fun _ => rfl) rfl ?_
  refine k_aload_n 2 (pc' := 1249) hC dL_law_1248 rfl rfl ?_
  refine k_aload_n 0 (pc' := 1250) hC dL_law_1249 rfl rfl ?_
  refine k_iload_n 3 (pc' := 1251) hC dL_law_1250 rfl rfl ?_
  refine k_iconst (v := 1) (pc' := 1252) hC dL_law_1251 rfl rfl ?_
  refine k_iadd (pc' := 1253) hC dL_law_1252 rfl ?_
  refine k_sld (pc' := 1254) hC dL_law_1253 rfl (kin hi hL hlt 1 1 rfl (by decide)) ?_
  refine k_callMi [.int (kxs Λ (x3 + 1).toNatClampNeg)] (pc' := 1257) hC dL_law_1254 rfl (t_X6_count _ _ h2) gm0 vcl6 cv_L_178 ⟨⟨Nat.le_of_ble_eq_true rfl, Nat.le_of_ble_eq_true rfl⟩, rfl, Nat.le_of_ble_eq_true rfl⟩ (fun _ => rfl) rfl ?_
  exact k_icmp_eq (tgt := 1312) (pc' := 1260) hC dL_law_1257 (by decide) rfl (fun _ => K _ _ hP) (fun c => absurd rfl c)
theorem k_case40 {Λ : kΛ} (hC : kOK Λ) {P : jM → jM → Prop} (hS : kS_finding P) {i : Nat} {x3 : Int32} (hi : x3 = nI i) (hL : kL Λ ≤ 3072) (hlt : i + 6 ≤ kL Λ) {Mx Mm : jM} (hP : P Mx Mm) (K : ∀ Mx' Mm' : jM, P Mx' Mm' → kJ Λ 1312 [(0, .ref (kb Λ)), (1, .ref (kx Λ 0)), (2, .ref (km Λ 0)), (3, .int x3)] [] Mx' Mm') : kJ Λ 1262 [(0, .ref (kb Λ)), (1, .ref (kx Λ 0)), (2, .ref (km Λ 0)), (3, .int x3)] [] Mx Mm := by
  obtain ⟨r, h1, h2⟩ := hS  Mx Mm hP
  refine k_aload_n 1 (pc' := 1263) hC dL_law_1262 rfl rfl ?_
  refine k_callXi [] (pc' := 1266) hC dL_law_1263 rfl (t_X5_finding _ _ h1) gx0 vcl5 cv_L_179 ⟨⟨Nat.le_of_ble_eq_true rfl, Nat.le_of_ble_eq_true rfl⟩, rfl, Nat.le_of_ble_eq_true rfl⟩ (fun _ => rfl) rfl ?_
  refine k_aload_n 2 (pc' := 1267) hC dL_law_1266 rfl rfl ?_
  refine k_callMi [] (pc' := 1270) hC dL_law_1267 rfl (t_X6_finding _ _ h2) gm0 vcl6 cv_L_182 ⟨⟨Nat.le_of_ble_eq_true rfl, Nat.le_of_ble_eq_true rfl⟩, rfl, Nat.le_of_ble_eq_true rfl⟩ (fun _ => rfl) rfl ?_
  exact k_icmp_eq (tgt := 1312) (pc' := 1273) hC dL_law_1270 (by decide) rfl (fun _ => K _ _ hP) (fun c => absurd rfl c)
theorem k_case41 {Λ : kΛ} (hC : kOK Λ) {P : jM → jM → Prop} (hS : kS_findings P) {i : Nat} {x3 : Int32} (hi : x3 = nI i) (hL : kL Λ ≤ 3072) (hlt : i + 6 ≤ kL Λ) {Mx Mm : jM} (hP : P Mx Mm) (K : ∀ Mx' Mm' : jM, P Mx' Mm' → kJ Λ 1312 [(0, .ref (kb Λ)), (1, .ref (kx Λ 0)), (2, .ref (km Λ 0)), (3, .int x3)] [] Mx' Mm') : kJ Λ 1275 [(0, .ref (kb Λ)), (1, .ref (kx Λ 0)), (2, .ref (km Λ 0)), (3, .int x3)] [] Mx Mm := by
  obtain ⟨r, h1, h2⟩ := hS (kxs Λ (x3 + 1).toNatClampNeg) Mx Mm hP
  refine k_aload_n 1 (pc' := 1276) hC dL_law_1275 rfl rfl ?_
  refine k_aload_n 0 (pc' := 1277) hC dL_law_1276 rfl rfl ?_
  refine k_iload_n 3 (pc' := 1278) hC dL_law_1277 rfl rfl ?_
  refine k_iconst (v := 1) (pc' := 1279) hC dL_law_1278 rfl rfl ?_
  refine k_iadd (pc' := 1280) hC dL_law_1279 rfl ?_
  refine k_sld (pc' := 1281) hC dL_law_1280 rfl (kin hi hL hlt 1 1 rfl (by decide)) ?_
  refine k_callXi [.int (kxs Λ (x3 + 1).toNatClampNeg)] (pc' := 1284) hC dL_law_1281 rfl (t_X5_findings _ _ h1) gx0 vcl5 cv_L_183 ⟨⟨Nat.le_of_ble_eq_true rfl, Nat.le_of_ble_eq_true rfl⟩, rfl, Nat.le_of_ble_eq_true rfl⟩ (fun _ => rfl) rfl ?_
  refine k_aload_n 2 (pc' := 1285) hC dL_law_1284 rfl rfl ?_
  refine k_aload_n 0 (pc' := 1286) hC dL_law_1285 rfl rfl ?_
  refine k_iload_n 3 (pc' := 1287) hC dL_law_1286 rfl rfl ?_
  refine k_iconst (v := 1) (pc' := 1288) hC dL_law_1287 rfl rfl ?_
  refine k_iadd (pc' := 1289) hC dL_law_1288 rfl ?_
  refine k_sld (pc' := 1290) hC dL_law_1289 rfl (kin hi hL hlt 1 1 rfl (by decide)) ?_
  refine k_callMi [.int (kxs Λ (x3 + 1).toNatClampNeg)] (pc' := 1293) hC dL_law_1290 rfl (t_X6_findings _ _ h2) gm0 vcl6 cv_L_186 ⟨⟨Nat.le_of_ble_eq_true rfl, Nat.le_of_ble_eq_true rfl⟩, rfl, Nat.le_of_ble_eq_true rfl⟩ (fun _ => rfl) rfl ?_
  exact k_icmp_eq (tgt := 1312) (pc' := 1296) hC dL_law_1293 (by decide) rfl (fun _ => K _ _ hP) (fun c => absurd rfl c)
theorem k_case42 {Λ : kΛ} (hC : kOK Λ) {P : jM → jM → Prop} (hS : kS_digest P) {i : Nat} {x3 : Int32} (hi : x3 = nI i) (hL : kL Λ ≤ 3072) (hlt : i + 6 ≤ kL Λ) {Mx Mm : jM} (hP : P Mx Mm) (K : ∀ Mx' Mm' : jM, P Mx' Mm' → kJ Λ 1312 [(0, .ref (kb Λ)), (1, .ref (kx Λ 0)), (2, .ref (km Λ 0)), (3, .int x3)] [] Mx' Mm') : kJ Λ 1298 [(0, .ref (kb Λ)), (1, .ref (kx Λ 0)), (2, .ref (km Λ 0)), (3, .int x3)] [] Mx Mm := by
  obtain ⟨r, Mm', h1, h2, h3⟩ := hS  Mx Mm hP
  refine k_aload_n 1 (pc' := 1299) hC dL_law_1298 rfl rfl ?_
  refine k_callXl [] (pc' := 1302) hC dL_law_1299 rfl (t_X5_digest _ _ h1) gx0 vcl5 cv_L_187 ⟨⟨Nat.le_of_ble_eq_true rfl, Nat.le_of_ble_eq_true rfl⟩, rfl, Nat.le_of_ble_eq_true rfl⟩ (fun _ => rfl) rfl ?_
  refine k_aload_n 2 (pc' := 1303) hC dL_law_1302 rfl rfl ?_
  refine k_callMl [] (pc' := 1306) hC dL_law_1303 rfl (t_X6_digest _ _ h2) gm0 vcl6 cv_L_190 ⟨⟨Nat.le_of_ble_eq_true rfl, Nat.le_of_ble_eq_true rfl⟩, rfl, Nat.le_of_ble_eq_true rfl⟩ (fun _ => rfl) rfl ?_
  refine k_lcmp (pc' := 1307) hC dL_law_1306 rfl ?_
  exact k_if_eq (tgt := 1312) (pc' := 1310) hC dL_law_1307 (by decide) rfl (fun _ => K _ _ h3) (fun c => absurd (klg _) c)
set_option maxHeartbeats 4000000 in
theorem k_loop {Λ : kΛ} (hC : kOK Λ) {P : jM → jM → Prop} (h0 : kS_row P) (h1 : kS_lay P) (h2 : kS_at P) (h3 : kS_tear P) (h4 : kS_copy P) (h5 : kS_mean P) (h6 : kS_text P) (h7 : kS_put P) (h8 : kS_fault P) (h9 : kS_house P) (h10 : kS_deed P) (h11 : kS_hour P) (h12 : kS_mark P) (h13 : kS_route P) (h14 : kS_day P) (h15 : kS_open P) (h16 : kS_send P) (h17 : kS_undo P) (h18 : kS_shelf P) (h19 : kS_keep P) (h20 : kS_on P) (h21 : kS_can P) (h22 : kS_why P) (h23 : kS_opens P) (h24 : kS_late P) (h25 : kS_run P) (h26 : kS_most P) (h27 : kS_fewest P) (h28 : kS_order P) (h29 : kS_shut P) (h30 : kS_waits P) (h31 : kS_diary P) (h32 : kS_forged P) (h33 : kS_stolen P) (h34 : kS_odds P) (h35 : kS_lots P) (h36 : kS_asked P) (h37 : kS_upper P) (h38 : kS_lower P) (h39 : kS_count P) (h40 : kS_finding P) (h41 : kS_findings P) (h42 : kS_digest P) (hL : kL Λ ≤ 3072) : ∀ (n i : Nat) (Mx Mm : jM), P Mx Mm → i ≤ kL Λ → kL Λ - i < n → kJ Λ 18 [(0, .ref (kb Λ)), (1, .ref (kx Λ 0)), (2, .ref (km Λ 0)), (3, .int (nI i))] [] Mx Mm := by
  intro n
  induction n with
  | zero => intro i Mx Mm hP hi hn; omega
  | succ n ih =>
    intro i Mx Mm hP hi hn
    refine k_iload_n 3 (pc' := 19) hC dL_law_18 rfl rfl ?_
    refine k_aload_n 0 (pc' := 20) hC dL_law_19 rfl rfl ?_
    refine k_slen (pc' := 21) hC dL_law_20 rfl ?_
    refine k_bipush (v := 6) (pc' := 23) hC dL_law_21 rfl rfl ?_
    refine k_isub (pc' := 24) hC dL_law_23 rfl ?_
    have hc : (nI (kL Λ) - 6 < nI i) ↔ ¬ (i + 6 ≤ kL Λ) := by
      rw [Int32.lt_iff_toInt_lt, show (6 : Int32) = nI 6 from rfl, pk_sub_toInt (by omega) (by omega), nI_toInt (by omega)]
      omega
    refine k_icmp_gt (tgt := 1318) (pc' := 27) hC dL_law_24 (by decide) rfl (fun c => ?_) (fun c => ?_)
    · refine k_iconst (v := 1) (pc' := 1319) hC dL_law_1318 rfl rfl ?_
      exact k_ret hC dL_law_1319
    · have hlt : i + 6 ≤ kL Λ := Classical.byContradiction (fun q => c (hc.mpr q))
      refine k_aload_n 0 (pc' := 28) hC dL_law_27 rfl rfl ?_
      refine k_iload_n 3 (pc' := 29) hC dL_law_28 rfl rfl ?_
      refine k_sld (pc' := 30) hC dL_law_29 rfl (vp_in_nI (by omega) (by omega)) ?_
      refine k_bipush (v := 63) (pc' := 32) hC dL_law_30 rfl rfl ?_
      refine k_iand (pc' := 33) hC dL_law_32 rfl ?_
      have K : ∀ Mx' Mm' : jM, P Mx' Mm' → kJ Λ 1312 [(0, .ref (kb Λ)), (1, .ref (kx Λ 0)), (2, .ref (km Λ 0)), (3, .int (nI i))] [] Mx' Mm' := fun Mx' Mm' hP' => by
        refine k_iinc 3 (c9 := 6) (v := nI (i + 6)) (pc' := 1315) hC dL_law_1312 rfl rfl rfl (nI_add i 6) (by decide) rfl ?_
        refine k_goto (tgt := 18) hC dL_law_1315 (by decide) ?_
        refine k_sub [1, 2, 3, 0] rfl ?_
        exact ih (i + 6) Mx' Mm' hP' (by omega) (by omega)
      by_cases e0 : (kxs Λ (nI i).toNatClampNeg &&& 63) = 0
      · exact k_tab (tgt := 220) hC dL_law_33 e0 (by decide) (by decide) rfl (by decide) (k_case0 hC h0 rfl hL hlt hP K)
      · by_cases e1 : (kxs Λ (nI i).toNatClampNeg &&& 63) = 1
        · exact k_tab (tgt := 253) hC dL_law_33 e1 (by decide) (by decide) rfl (by decide) (k_case1 hC h1 rfl hL hlt hP K)
        · by_cases e2 : (kxs Λ (nI i).toNatClampNeg &&& 63) = 2
          · exact k_tab (tgt := 296) hC dL_law_33 e2 (by decide) (by decide) rfl (by decide) (k_case2 hC h2 rfl hL hlt hP K)
          · by_cases e3 : (kxs Λ (nI i).toNatClampNeg &&& 63) = 3
            · exact k_tab (tgt := 329) hC dL_law_33 e3 (by decide) (by decide) rfl (by decide) (k_case3 hC h3 rfl hL hlt hP K)
            · by_cases e4 : (kxs Λ (nI i).toNatClampNeg &&& 63) = 4
              · exact k_tab (tgt := 352) hC dL_law_33 e4 (by decide) (by decide) rfl (by decide) (k_case4 hC h4 rfl hL hlt hP K)
              · by_cases e5 : (kxs Λ (nI i).toNatClampNeg &&& 63) = 5
                · exact k_tab (tgt := 415) hC dL_law_33 e5 (by decide) (by decide) rfl (by decide) (k_case5 hC h5 rfl hL hlt hP K)
                · by_cases e6 : (kxs Λ (nI i).toNatClampNeg &&& 63) = 6
                  · exact k_tab (tgt := 438) hC dL_law_33 e6 (by decide) (by decide) rfl (by decide) (k_case6 hC h6 rfl hL hlt hP K)
                  · by_cases e7 : (kxs Λ (nI i).toNatClampNeg &&& 63) = 7
                    · exact k_tab (tgt := 471) hC dL_law_33 e7 (by decide) (by decide) rfl (by decide) (k_case7 hC h7 rfl hL hlt hP K)
                    · by_cases e8 : (kxs Λ (nI i).toNatClampNeg &&& 63) = 8
                      · exact k_tab (tgt := 514) hC dL_law_33 e8 (by decide) (by decide) rfl (by decide) (k_case8 hC h8 rfl hL hlt hP K)
                      · by_cases e9 : (kxs Λ (nI i).toNatClampNeg &&& 63) = 9
                        · exact k_tab (tgt := 537) hC dL_law_33 e9 (by decide) (by decide) rfl (by decide) (k_case9 hC h9 rfl hL hlt hP K)
                        · by_cases e10 : (kxs Λ (nI i).toNatClampNeg &&& 63) = 10
                          · exact k_tab (tgt := 560) hC dL_law_33 e10 (by decide) (by decide) rfl (by decide) (k_case10 hC h10 rfl hL hlt hP K)
                          · by_cases e11 : (kxs Λ (nI i).toNatClampNeg &&& 63) = 11
                            · exact k_tab (tgt := 593) hC dL_law_33 e11 (by decide) (by decide) rfl (by decide) (k_case11 hC h11 rfl hL hlt hP K)
                            · by_cases e12 : (kxs Λ (nI i).toNatClampNeg &&& 63) = 12
                              · exact k_tab (tgt := 626) hC dL_law_33 e12 (by decide) (by decide) rfl (by decide) (k_case12 hC h12 rfl hL hlt hP K)
                              · by_cases e13 : (kxs Λ (nI i).toNatClampNeg &&& 63) = 13
                                · exact k_tab (tgt := 659) hC dL_law_33 e13 (by decide) (by decide) rfl (by decide) (k_case13 hC h13 rfl hL hlt hP K)
                                · by_cases e14 : (kxs Λ (nI i).toNatClampNeg &&& 63) = 14
                                  · exact k_tab (tgt := 692) hC dL_law_33 e14 (by decide) (by decide) rfl (by decide) (k_case14 hC h14 rfl hL hlt hP K)
                                  · by_cases e15 : (kxs Λ (nI i).toNatClampNeg &&& 63) = 15
                                    · exact k_tab (tgt := 705) hC dL_law_33 e15 (by decide) (by decide) rfl (by decide) (k_case15 hC h15 rfl hL hlt hP K)
                                    · by_cases e16 : (kxs Λ (nI i).toNatClampNeg &&& 63) = 16
                                      · exact k_tab (tgt := 738) hC dL_law_33 e16 (by decide) (by decide) rfl (by decide) (k_case16 hC h16 rfl hL hlt hP K)
                                      · by_cases e17 : (kxs Λ (nI i).toNatClampNeg &&& 63) = 17
                                        · exact k_tab (tgt := 761) hC dL_law_33 e17 (by decide) (by decide) rfl (by decide) (k_case17 hC h17 rfl hL hlt hP K)
                                        · by_cases e18 : (kxs Λ (nI i).toNatClampNeg &&& 63) = 18
                                          · exact k_tab (tgt := 784) hC dL_law_33 e18 (by decide) (by decide) rfl (by decide) (k_case18 hC h18 rfl hL hlt hP K)
                                          · by_cases e19 : (kxs Λ (nI i).toNatClampNeg &&& 63) = 19
                                            · exact k_tab (tgt := 797) hC dL_law_33 e19 (by decide) (by decide) rfl (by decide) (k_case19 hC h19 rfl hL hlt hP K)
                                            · by_cases e20 : (kxs Λ (nI i).toNatClampNeg &&& 63) = 20
                                              · exact k_tab (tgt := 820) hC dL_law_33 e20 (by decide) (by decide) rfl (by decide) (k_case20 hC h20 rfl hL hlt hP K)
                                              · by_cases e21 : (kxs Λ (nI i).toNatClampNeg &&& 63) = 21
                                                · exact k_tab (tgt := 843) hC dL_law_33 e21 (by decide) (by decide) rfl (by decide) (k_case21 hC h21 rfl hL hlt hP K)
                                                · by_cases e22 : (kxs Λ (nI i).toNatClampNeg &&& 63) = 22
                                                  · exact k_tab (tgt := 866) hC dL_law_33 e22 (by decide) (by decide) rfl (by decide) (k_case22 hC h22 rfl hL hlt hP K)
                                                  · by_cases e23 : (kxs Λ (nI i).toNatClampNeg &&& 63) = 23
                                                    · exact k_tab (tgt := 899) hC dL_law_33 e23 (by decide) (by decide) rfl (by decide) (k_case23 hC h23 rfl hL hlt hP K)
                                                    · by_cases e24 : (kxs Λ (nI i).toNatClampNeg &&& 63) = 24
                                                      · exact k_tab (tgt := 922) hC dL_law_33 e24 (by decide) (by decide) rfl (by decide) (k_case24 hC h24 rfl hL hlt hP K)
                                                      · by_cases e25 : (kxs Λ (nI i).toNatClampNeg &&& 63) = 25
                                                        · exact k_tab (tgt := 935) hC dL_law_33 e25 (by decide) (by decide) rfl (by decide) (k_case25 hC h25 rfl hL hlt hP K)
                                                        · by_cases e26 : (kxs Λ (nI i).toNatClampNeg &&& 63) = 26
                                                          · exact k_tab (tgt := 958) hC dL_law_33 e26 (by decide) (by decide) rfl (by decide) (k_case26 hC h26 rfl hL hlt hP K)
                                                          · by_cases e27 : (kxs Λ (nI i).toNatClampNeg &&& 63) = 27
                                                            · exact k_tab (tgt := 971) hC dL_law_33 e27 (by decide) (by decide) rfl (by decide) (k_case27 hC h27 rfl hL hlt hP K)
                                                            · by_cases e28 : (kxs Λ (nI i).toNatClampNeg &&& 63) = 28
                                                              · exact k_tab (tgt := 994) hC dL_law_33 e28 (by decide) (by decide) rfl (by decide) (k_case28 hC h28 rfl hL hlt hP K)
                                                              · by_cases e29 : (kxs Λ (nI i).toNatClampNeg &&& 63) = 29
                                                                · exact k_tab (tgt := 1027) hC dL_law_33 e29 (by decide) (by decide) rfl (by decide) (k_case29 hC h29 rfl hL hlt hP K)
                                                                · by_cases e30 : (kxs Λ (nI i).toNatClampNeg &&& 63) = 30
                                                                  · exact k_tab (tgt := 1040) hC dL_law_33 e30 (by decide) (by decide) rfl (by decide) (k_case30 hC h30 rfl hL hlt hP K)
                                                                  · by_cases e31 : (kxs Λ (nI i).toNatClampNeg &&& 63) = 31
                                                                    · exact k_tab (tgt := 1063) hC dL_law_33 e31 (by decide) (by decide) rfl (by decide) (k_case31 hC h31 rfl hL hlt hP K)
                                                                    · by_cases e32 : (kxs Λ (nI i).toNatClampNeg &&& 63) = 32
                                                                      · exact k_tab (tgt := 1086) hC dL_law_33 e32 (by decide) (by decide) rfl (by decide) (k_case32 hC h32 rfl hL hlt hP K)
                                                                      · by_cases e33 : (kxs Λ (nI i).toNatClampNeg &&& 63) = 33
                                                                        · exact k_tab (tgt := 1109) hC dL_law_33 e33 (by decide) (by decide) rfl (by decide) (k_case33 hC h33 rfl hL hlt hP K)
                                                                        · by_cases e34 : (kxs Λ (nI i).toNatClampNeg &&& 63) = 34
                                                                          · exact k_tab (tgt := 1142) hC dL_law_33 e34 (by decide) (by decide) rfl (by decide) (k_case34 hC h34 rfl hL hlt hP K)
                                                                          · by_cases e35 : (kxs Λ (nI i).toNatClampNeg &&& 63) = 35
                                                                            · exact k_tab (tgt := 1165) hC dL_law_33 e35 (by decide) (by decide) rfl (by decide) (k_case35 hC h35 rfl hL hlt hP K)
                                                                            · by_cases e36 : (kxs Λ (nI i).toNatClampNeg &&& 63) = 36
                                                                              · exact k_tab (tgt := 1198) hC dL_law_33 e36 (by decide) (by decide) rfl (by decide) (k_case36 hC h36 rfl hL hlt hP K)
                                                                              · by_cases e37 : (kxs Λ (nI i).toNatClampNeg &&& 63) = 37
                                                                                · exact k_tab (tgt := 1211) hC dL_law_33 e37 (by decide) (by decide) rfl (by decide) (k_case37 hC h37 rfl hL hlt hP K)
                                                                                · by_cases e38 : (kxs Λ (nI i).toNatClampNeg &&& 63) = 38
                                                                                  · exact k_tab (tgt := 1225) hC dL_law_33 e38 (by decide) (by decide) rfl (by decide) (k_case38 hC h38 rfl hL hlt hP K)
                                                                                  · by_cases e39 : (kxs Λ (nI i).toNatClampNeg &&& 63) = 39
                                                                                    · exact k_tab (tgt := 1239) hC dL_law_33 e39 (by decide) (by decide) rfl (by decide) (k_case39 hC h39 rfl hL hlt hP K)
                                                                                    · by_cases e40 : (kxs Λ (nI i).toNatClampNeg &&& 63) = 40
                                                                                      · exact k_tab (tgt := 1262) hC dL_law_33 e40 (by decide) (by decide) rfl (by decide) (k_case40 hC h40 rfl hL hlt hP K)
                                                                                      · by_cases e41 : (kxs Λ (nI i).toNatClampNeg &&& 63) = 41
                                                                                        · exact k_tab (tgt := 1275) hC dL_law_33 e41 (by decide) (by decide) rfl (by decide) (k_case41 hC h41 rfl hL hlt hP K)
                                                                                        · by_cases e42 : (kxs Λ (nI i).toNatClampNeg &&& 63) = 42
                                                                                          · exact k_tab (tgt := 1298) hC dL_law_33 e42 (by decide) (by decide) rfl (by decide) (k_case42 hC h42 rfl hL hlt hP K)
                                                                                          · have hz := pk_andE (kxs Λ (nI i).toNatClampNeg) (m := 63) 6 (by decide)
                                                                                            obtain ⟨j, hj, ej⟩ := hz
                                                                                            have hj2 : ((kxs Λ (nI i).toNatClampNeg &&& 63)).toInt = (j : Int) := by rw [ej, nI_toInt (by omega)]
                                                                                            refine k_tabOut (tgt := 1312) hC dL_law_33 (by have n0 := jneI (k := 0) rfl e0; have n1 := jneI (k := 1) rfl e1; have n2 := jneI (k := 2) rfl e2; have n3 := jneI (k := 3) rfl e3; have n4 := jneI (k := 4) rfl e4; have n5 := jneI (k := 5) rfl e5; have n6 := jneI (k := 6) rfl e6; have n7 := jneI (k := 7) rfl e7; have n8 := jneI (k := 8) rfl e8; have n9 := jneI (k := 9) rfl e9; have n10 := jneI (k := 10) rfl e10; have n11 := jneI (k := 11) rfl e11; have n12 := jneI (k := 12) rfl e12; have n13 := jneI (k := 13) rfl e13; have n14 := jneI (k := 14) rfl e14; have n15 := jneI (k := 15) rfl e15; have n16 := jneI (k := 16) rfl e16; have n17 := jneI (k := 17) rfl e17; have n18 := jneI (k := 18) rfl e18; have n19 := jneI (k := 19) rfl e19; have n20 := jneI (k := 20) rfl e20; have n21 := jneI (k := 21) rfl e21; have n22 := jneI (k := 22) rfl e22; have n23 := jneI (k := 23) rfl e23; have n24 := jneI (k := 24) rfl e24; have n25 := jneI (k := 25) rfl e25; have n26 := jneI (k := 26) rfl e26; have n27 := jneI (k := 27) rfl e27; have n28 := jneI (k := 28) rfl e28; have n29 := jneI (k := 29) rfl e29; have n30 := jneI (k := 30) rfl e30; have n31 := jneI (k := 31) rfl e31; have n32 := jneI (k := 32) rfl e32; have n33 := jneI (k := 33) rfl e33; have n34 := jneI (k := 34) rfl e34; have n35 := jneI (k := 35) rfl e35; have n36 := jneI (k := 36) rfl e36; have n37 := jneI (k := 37) rfl e37; have n38 := jneI (k := 38) rfl e38; have n39 := jneI (k := 39) rfl e39; have n40 := jneI (k := 40) rfl e40; have n41 := jneI (k := 41) rfl e41; have n42 := jneI (k := 42) rfl e42; omega) (by decide) (K _ _ hP)
