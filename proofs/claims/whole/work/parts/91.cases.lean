/-! THE LAW'S BODY, printed by gen/lawcases.py: the cases of its switch; the loop -/
theorem klL_13 : Cond.methodLink R_law 13 yX11_shop ∈ gtbl := gin 489 (by decide +kernel) rfl
theorem klL_18 : Cond.methodLink R_law 18 yX11_kind ∈ gtbl := gin 500 (by decide +kernel) rfl
theorem klL_23 : Cond.methodLink R_law 23 yX11_priceAt ∈ gtbl := gin 511 (by decide +kernel) rfl
theorem klL_28 : Cond.methodLink R_law 28 yX11_throwing ∈ gtbl := gin 524 (by decide +kernel) rfl
theorem klL_32 : Cond.methodLink R_law 32 yX11_weather ∈ gtbl := gin 528 (by decide +kernel) rfl
theorem klL_36 : Cond.methodLink R_law 36 yX11_hours ∈ gtbl := gin 532 (by decide +kernel) rfl
theorem klL_40 : Cond.methodLink R_law 40 yX11_cut ∈ gtbl := gin 608 (by decide +kernel) rfl
theorem klL_45 : Cond.methodLink R_law 45 yX11_step ∈ gtbl := gin 621 (by decide +kernel) rfl
theorem klL_49 : Cond.methodLink R_law 49 yX11_warm ∈ gtbl := gin 625 (by decide +kernel) rfl
theorem klL_53 : Cond.methodLink R_law 53 yX11_batch ∈ gtbl := gin 629 (by decide +kernel) rfl
theorem klL_57 : Cond.methodLink R_law 57 yX11_ofBatch ∈ gtbl := gin 641 (by decide +kernel) rfl
theorem klL_61 : Cond.methodLink R_law 61 yX11_shelf ∈ gtbl := gin 651 (by decide +kernel) rfl
theorem klL_65 : Cond.methodLink R_law 65 yX11_feed ∈ gtbl := gin 667 (by decide +kernel) rfl
theorem klL_70 : Cond.methodLink R_law 70 yX11_end ∈ gtbl := gin 675 (by decide +kernel) rfl
theorem klL_74 : Cond.methodLink R_law 74 yX11_law ∈ gtbl := gin 679 (by decide +kernel) rfl
theorem klL_78 : Cond.methodLink R_law 78 yX11_inForce ∈ gtbl := gin 724 (by decide +kernel) rfl
theorem klL_82 : Cond.methodLink R_law 82 yX11_says ∈ gtbl := gin 728 (by decide +kernel) rfl
theorem klL_86 : Cond.methodLink R_law 86 yX11_buy ∈ gtbl := gin 732 (by decide +kernel) rfl
theorem klL_90 : Cond.methodLink R_law 90 yX11_foretold ∈ gtbl := gin 762 (by decide +kernel) rfl
theorem klL_94 : Cond.methodLink R_law 94 yX11_plan ∈ gtbl := gin 773 (by decide +kernel) rfl
theorem klL_98 : Cond.methodLink R_law 98 yX11_planned ∈ gtbl := gin 803 (by decide +kernel) rfl
theorem klL_102 : Cond.methodLink R_law 102 yX11_left ∈ gtbl := gin 807 (by decide +kernel) rfl
theorem klL_107 : Cond.methodLink R_law 107 yX11_order ∈ gtbl := gin 811 (by decide +kernel) rfl
theorem klL_111 : Cond.methodLink R_law 111 yX11_loss ∈ gtbl := gin 837 (by decide +kernel) rfl
theorem klL_116 : Cond.methodLink R_law 116 yX11_crates ∈ gtbl := gin 846 (by decide +kernel) rfl
theorem klL_120 : Cond.methodLink R_law 120 yX11_ways ∈ gtbl := gin 850 (by decide +kernel) rfl
theorem klL_124 : Cond.methodLink R_law 124 yX11_comes ∈ gtbl := gin 893 (by decide +kernel) rfl
theorem klL_128 : Cond.methodLink R_law 128 yX11_move ∈ gtbl := gin 897 (by decide +kernel) rfl
theorem klL_132 : Cond.methodLink R_law 132 yX11_drawn ∈ gtbl := gin 910 (by decide +kernel) rfl
theorem klL_136 : Cond.methodLink R_law 136 yX11_early ∈ gtbl := gin 914 (by decide +kernel) rfl
theorem klL_140 : Cond.methodLink R_law 140 yX11_waiting ∈ gtbl := gin 926 (by decide +kernel) rfl
theorem klL_144 : Cond.methodLink R_law 144 yX11_kitchen ∈ gtbl := gin 959 (by decide +kernel) rfl
theorem klL_148 : Cond.methodLink R_law 148 yX11_gift ∈ gtbl := gin 963 (by decide +kernel) rfl
theorem klL_152 : Cond.methodLink R_law 152 yX11_bin ∈ gtbl := gin 968 (by decide +kernel) rfl
theorem klL_156 : Cond.methodLink R_law 156 yX11_tossed ∈ gtbl := gin 976 (by decide +kernel) rfl
theorem klL_160 : Cond.methodLink R_law 160 yX11_isBad ∈ gtbl := gin 980 (by decide +kernel) rfl
theorem klL_164 : Cond.methodLink R_law 164 yX11_since ∈ gtbl := gin 996 (by decide +kernel) rfl
theorem klL_168 : Cond.methodLink R_law 168 yX11_till ∈ gtbl := gin 1005 (by decide +kernel) rfl
theorem klL_172 : Cond.methodLink R_law 172 yX11_count ∈ gtbl := gin 1009 (by decide +kernel) rfl
theorem klL_17 : Cond.methodLink R_law 17 yX12_shop ∈ gtbl := gin 1263 (by decide +kernel) rfl
theorem klL_22 : Cond.methodLink R_law 22 yX12_kind ∈ gtbl := gin 1270 (by decide +kernel) rfl
theorem klL_27 : Cond.methodLink R_law 27 yX12_priceAt ∈ gtbl := gin 1274 (by decide +kernel) rfl
theorem klL_31 : Cond.methodLink R_law 31 yX12_throwing ∈ gtbl := gin 1286 (by decide +kernel) rfl
theorem klL_35 : Cond.methodLink R_law 35 yX12_weather ∈ gtbl := gin 1290 (by decide +kernel) rfl
theorem klL_44 : Cond.methodLink R_law 44 yX12_cut ∈ gtbl := gin 1297 (by decide +kernel) rfl
theorem klL_48 : Cond.methodLink R_law 48 yX12_step ∈ gtbl := gin 1309 (by decide +kernel) rfl
theorem klL_52 : Cond.methodLink R_law 52 yX12_warm ∈ gtbl := gin 1313 (by decide +kernel) rfl
theorem klL_56 : Cond.methodLink R_law 56 yX12_batch ∈ gtbl := gin 1317 (by decide +kernel) rfl
theorem klL_60 : Cond.methodLink R_law 60 yX12_ofBatch ∈ gtbl := gin 1329 (by decide +kernel) rfl
theorem klL_69 : Cond.methodLink R_law 69 yX12_feed ∈ gtbl := gin 1346 (by decide +kernel) rfl
theorem klL_73 : Cond.methodLink R_law 73 yX12_end ∈ gtbl := gin 1354 (by decide +kernel) rfl
theorem klL_77 : Cond.methodLink R_law 77 yX12_law ∈ gtbl := gin 1358 (by decide +kernel) rfl
theorem klL_81 : Cond.methodLink R_law 81 yX12_inForce ∈ gtbl := gin 1405 (by decide +kernel) rfl
theorem klL_85 : Cond.methodLink R_law 85 yX12_says ∈ gtbl := gin 1413 (by decide +kernel) rfl
theorem klL_64 : Cond.methodLink R_law 64 yX12_shelf ∈ gtbl := gin 1432 (by decide +kernel) rfl
theorem klL_39 : Cond.methodLink R_law 39 yX12_hours ∈ gtbl := gin 1444 (by decide +kernel) rfl
theorem klL_89 : Cond.methodLink R_law 89 yX12_buy ∈ gtbl := gin 1453 (by decide +kernel) rfl
theorem klL_93 : Cond.methodLink R_law 93 yX12_foretold ∈ gtbl := gin 1469 (by decide +kernel) rfl
theorem klL_97 : Cond.methodLink R_law 97 yX12_plan ∈ gtbl := gin 1477 (by decide +kernel) rfl
theorem klL_101 : Cond.methodLink R_law 101 yX12_planned ∈ gtbl := gin 1481 (by decide +kernel) rfl
theorem klL_106 : Cond.methodLink R_law 106 yX12_left ∈ gtbl := gin 1485 (by decide +kernel) rfl
theorem klL_110 : Cond.methodLink R_law 110 yX12_order ∈ gtbl := gin 1489 (by decide +kernel) rfl
theorem klL_115 : Cond.methodLink R_law 115 yX12_loss ∈ gtbl := gin 1505 (by decide +kernel) rfl
theorem klL_119 : Cond.methodLink R_law 119 yX12_crates ∈ gtbl := gin 1510 (by decide +kernel) rfl
theorem klL_123 : Cond.methodLink R_law 123 yX12_ways ∈ gtbl := gin 1514 (by decide +kernel) rfl
theorem klL_127 : Cond.methodLink R_law 127 yX12_comes ∈ gtbl := gin 1537 (by decide +kernel) rfl
theorem klL_131 : Cond.methodLink R_law 131 yX12_move ∈ gtbl := gin 1541 (by decide +kernel) rfl
theorem klL_135 : Cond.methodLink R_law 135 yX12_drawn ∈ gtbl := gin 1549 (by decide +kernel) rfl
theorem klL_139 : Cond.methodLink R_law 139 yX12_early ∈ gtbl := gin 1553 (by decide +kernel) rfl
theorem klL_143 : Cond.methodLink R_law 143 yX12_waiting ∈ gtbl := gin 1564 (by decide +kernel) rfl
theorem klL_147 : Cond.methodLink R_law 147 yX12_kitchen ∈ gtbl := gin 1571 (by decide +kernel) rfl
theorem klL_151 : Cond.methodLink R_law 151 yX12_gift ∈ gtbl := gin 1575 (by decide +kernel) rfl
theorem klL_155 : Cond.methodLink R_law 155 yX12_bin ∈ gtbl := gin 1579 (by decide +kernel) rfl
theorem klL_159 : Cond.methodLink R_law 159 yX12_tossed ∈ gtbl := gin 1583 (by decide +kernel) rfl
theorem klL_163 : Cond.methodLink R_law 163 yX12_isBad ∈ gtbl := gin 1587 (by decide +kernel) rfl
theorem klL_167 : Cond.methodLink R_law 167 yX12_since ∈ gtbl := gin 1599 (by decide +kernel) rfl
theorem klL_171 : Cond.methodLink R_law 171 yX12_till ∈ gtbl := gin 1603 (by decide +kernel) rfl
theorem klL_175 : Cond.methodLink R_law 175 yX12_count ∈ gtbl := gin 1607 (by decide +kernel) rfl
theorem lg_self (x : Int64) : lg_cmp x x = 0 := by
  unfold lg_cmp
  rw [if_neg (by simp), if_pos rfl]
theorem low6 (x : Int32) : ∃ k, k < 64 ∧ x &&& 63 = nI k := by
  refine ⟨(x &&& 63).toBitVec.toNat, ?_, ?_⟩
  · rw [Int32.toBitVec_and, BitVec.toNat_and]
    exact Nat.lt_of_le_of_lt Nat.and_le_right (by decide)
  · unfold nI
    apply Int32.toBitVec_inj.mp
    apply BitVec.eq_of_toNat_eq
    show _ = (BitVec.ofNat 32 _).toNat
    rw [BitVec.toNat_ofNat, Nat.mod_eq_of_lt (BitVec.isLt _)]
section GC
variable {Γ : GG} {l : Launch} {b L : Nat} {xs : Nat → Int32} {i : Int32} {j : Nat} {σ : St}
theorem G_0 (hi : i = nI j) (hj : j + 6 ≤ L) (hL0 : L < 2147483648) (hI : Inv σ) (k : ∀ σ', Inv σ' → JL Γ l b L xs 1672 i [] σ') : JL Γ l b L xs 204 i [] σ := by
  refine L_x dL_law_204 ?_
  refine L_arg 1 (n := 1) hi (by omega) hL0 rfl dL_law_205 dL_law_206 dL_law_207 dL_law_208 dL_law_209 ?_
  refine L_call [.int (xs (j + 1))] [] calX11_shop klL_13 (by decide) rfl rfl rfl rfl rfl (by decide) (by decide) dL_law_210 ((P_shop (d := 0) _ hI).mono (fun v σ1 h1 => ?_))
  obtain ⟨x, rfl, hM⟩ := h1
  refine L_m dL_law_213 ?_
  refine L_arg 1 (n := 1) hi (by omega) hL0 rfl dL_law_214 dL_law_215 dL_law_216 dL_law_217 dL_law_218 ?_
  refine L_call [.int (xs (j + 1))] [.int x] calX12_shop klL_17 (by decide) rfl rfl rfl rfl rfl (Nat.le_of_ble_eq_true rfl) (by decide) dL_law_219 (hM.mono (fun v σ2 h2 => ?_))
  obtain ⟨y, rfl, rfl, hI2⟩ := h2
  exact L_icmp_eq 1672 dL_law_222 rfl (fun _ => k _ hI2) (fun h => absurd rfl h)
theorem G_1 (hi : i = nI j) (hj : j + 6 ≤ L) (hL0 : L < 2147483648) (hI : Inv σ) (k : ∀ σ', Inv σ' → JL Γ l b L xs 1672 i [] σ') : JL Γ l b L xs 227 i [] σ := by
  refine L_x dL_law_227 ?_
  refine L_arg 1 (n := 1) hi (by omega) hL0 rfl dL_law_228 dL_law_229 dL_law_230 dL_law_231 dL_law_232 ?_
  refine L_arg 2 (n := 2) hi (by omega) hL0 rfl dL_law_233 dL_law_234 dL_law_235 dL_law_236 dL_law_237 ?_
  refine L_arg 3 (n := 3) hi (by omega) hL0 rfl dL_law_238 dL_law_239 dL_law_240 dL_law_241 dL_law_242 ?_
  refine L_arg 4 (n := 4) hi (by omega) hL0 rfl dL_law_243 dL_law_244 dL_law_245 dL_law_246 dL_law_247 ?_
  refine L_call [.int (xs (j + 1)), .int (xs (j + 2)), .int (xs (j + 3)), .int (xs (j + 4))] [] calX11_kind klL_18 (by decide) rfl rfl rfl rfl rfl (by decide) (by decide) dL_law_248 ((P_kind (d := 0) _ _ _ _ hI).mono (fun v σ1 h1 => ?_))
  obtain ⟨x, rfl, hM⟩ := h1
  refine L_m dL_law_251 ?_
  refine L_arg 1 (n := 1) hi (by omega) hL0 rfl dL_law_252 dL_law_253 dL_law_254 dL_law_255 dL_law_256 ?_
  refine L_arg 2 (n := 2) hi (by omega) hL0 rfl dL_law_257 dL_law_258 dL_law_259 dL_law_260 dL_law_261 ?_
  refine L_arg 3 (n := 3) hi (by omega) hL0 rfl dL_law_262 dL_law_263 dL_law_264 dL_law_265 dL_law_266 ?_
  refine L_arg 4 (n := 4) hi (by omega) hL0 rfl dL_law_267 dL_law_268 dL_law_269 dL_law_270 dL_law_271 ?_
  refine L_call [.int (xs (j + 1)), .int (xs (j + 2)), .int (xs (j + 3)), .int (xs (j + 4))] [.int x] calX12_kind klL_22 (by decide) rfl rfl rfl rfl rfl (Nat.le_of_ble_eq_true rfl) (by decide) dL_law_272 (hM.mono (fun v σ2 h2 => ?_))
  obtain ⟨y, rfl, rfl, hI2⟩ := h2
  exact L_icmp_eq 1672 dL_law_275 rfl (fun _ => k _ hI2) (fun h => absurd rfl h)
theorem G_2 (hi : i = nI j) (hj : j + 6 ≤ L) (hL0 : L < 2147483648) (hI : Inv σ) (k : ∀ σ', Inv σ' → JL Γ l b L xs 1672 i [] σ') : JL Γ l b L xs 280 i [] σ := by
  refine L_x dL_law_280 ?_
  refine L_arg 1 (n := 1) hi (by omega) hL0 rfl dL_law_281 dL_law_282 dL_law_283 dL_law_284 dL_law_285 ?_
  refine L_arg 2 (n := 2) hi (by omega) hL0 rfl dL_law_286 dL_law_287 dL_law_288 dL_law_289 dL_law_290 ?_
  refine L_call [.int (xs (j + 1)), .int (xs (j + 2))] [] calX11_priceAt klL_23 (by decide) rfl rfl rfl rfl rfl (by decide) (by decide) dL_law_291 ((P_priceAt (d := 0) _ _ hI).mono (fun v σ1 h1 => ?_))
  obtain ⟨x, rfl, hM⟩ := h1
  refine L_m dL_law_294 ?_
  refine L_arg 1 (n := 1) hi (by omega) hL0 rfl dL_law_295 dL_law_296 dL_law_297 dL_law_298 dL_law_299 ?_
  refine L_arg 2 (n := 2) hi (by omega) hL0 rfl dL_law_300 dL_law_301 dL_law_302 dL_law_303 dL_law_304 ?_
  refine L_call [.int (xs (j + 1)), .int (xs (j + 2))] [.int x] calX12_priceAt klL_27 (by decide) rfl rfl rfl rfl rfl (Nat.le_of_ble_eq_true rfl) (by decide) dL_law_305 (hM.mono (fun v σ2 h2 => ?_))
  obtain ⟨y, rfl, rfl, hI2⟩ := h2
  exact L_icmp_eq 1672 dL_law_308 rfl (fun _ => k _ hI2) (fun h => absurd rfl h)
theorem G_3 (hi : i = nI j) (hj : j + 6 ≤ L) (hL0 : L < 2147483648) (hI : Inv σ) (k : ∀ σ', Inv σ' → JL Γ l b L xs 1672 i [] σ') : JL Γ l b L xs 313 i [] σ := by
  refine L_x dL_law_313 ?_
  refine L_arg 1 (n := 1) hi (by omega) hL0 rfl dL_law_314 dL_law_315 dL_law_316 dL_law_317 dL_law_318 ?_
  refine L_arg 2 (n := 2) hi (by omega) hL0 rfl dL_law_319 dL_law_320 dL_law_321 dL_law_322 dL_law_323 ?_
  refine L_call [.int (xs (j + 1)), .int (xs (j + 2))] [] calX11_throwing klL_28 (by decide) rfl rfl rfl rfl rfl (by decide) (by decide) dL_law_324 ((P_throwing (d := 0) _ _ hI).mono (fun v σ1 h1 => ?_))
  obtain ⟨x, rfl, hM⟩ := h1
  refine L_m dL_law_327 ?_
  refine L_arg 1 (n := 1) hi (by omega) hL0 rfl dL_law_328 dL_law_329 dL_law_330 dL_law_331 dL_law_332 ?_
  refine L_arg 2 (n := 2) hi (by omega) hL0 rfl dL_law_333 dL_law_334 dL_law_335 dL_law_336 dL_law_337 ?_
  refine L_call [.int (xs (j + 1)), .int (xs (j + 2))] [.int x] calX12_throwing klL_31 (by decide) rfl rfl rfl rfl rfl (Nat.le_of_ble_eq_true rfl) (by decide) dL_law_338 (hM.mono (fun v σ2 h2 => ?_))
  obtain ⟨y, rfl, rfl, hI2⟩ := h2
  exact L_icmp_eq 1672 dL_law_341 rfl (fun _ => k _ hI2) (fun h => absurd rfl h)
theorem G_4 (hi : i = nI j) (hj : j + 6 ≤ L) (hL0 : L < 2147483648) (hI : Inv σ) (k : ∀ σ', Inv σ' → JL Γ l b L xs 1672 i [] σ') : JL Γ l b L xs 346 i [] σ := by
  refine L_x dL_law_346 ?_
  refine L_arg 1 (n := 1) hi (by omega) hL0 rfl dL_law_347 dL_law_348 dL_law_349 dL_law_350 dL_law_351 ?_
  refine L_arg 2 (n := 2) hi (by omega) hL0 rfl dL_law_352 dL_law_353 dL_law_354 dL_law_355 dL_law_356 ?_
  refine L_call [.int (xs (j + 1)), .int (xs (j + 2))] [] calX11_weather klL_32 (by decide) rfl rfl rfl rfl rfl (by decide) (by decide) dL_law_357 ((P_weather (d := 0) _ _ hI).mono (fun v σ1 h1 => ?_))
  obtain ⟨x, rfl, hM⟩ := h1
  refine L_m dL_law_360 ?_
  refine L_arg 1 (n := 1) hi (by omega) hL0 rfl dL_law_361 dL_law_362 dL_law_363 dL_law_364 dL_law_365 ?_
  refine L_arg 2 (n := 2) hi (by omega) hL0 rfl dL_law_366 dL_law_367 dL_law_368 dL_law_369 dL_law_370 ?_
  refine L_call [.int (xs (j + 1)), .int (xs (j + 2))] [.int x] calX12_weather klL_35 (by decide) rfl rfl rfl rfl rfl (Nat.le_of_ble_eq_true rfl) (by decide) dL_law_371 (hM.mono (fun v σ2 h2 => ?_))
  obtain ⟨y, rfl, rfl, hI2⟩ := h2
  exact L_icmp_eq 1672 dL_law_374 rfl (fun _ => k _ hI2) (fun h => absurd rfl h)
theorem G_5 (hi : i = nI j) (hj : j + 6 ≤ L) (hL0 : L < 2147483648) (hI : Inv σ) (k : ∀ σ', Inv σ' → JL Γ l b L xs 1672 i [] σ') : JL Γ l b L xs 379 i [] σ := by
  refine L_x dL_law_379 ?_
  refine L_arg 1 (n := 1) hi (by omega) hL0 rfl dL_law_380 dL_law_381 dL_law_382 dL_law_383 dL_law_384 ?_
  refine L_call [.int (xs (j + 1))] [] calX11_hours klL_36 (by decide) rfl rfl rfl rfl rfl (by decide) (by decide) dL_law_385 ((P_hours (d := 0) _ hI).mono (fun v σ1 h1 => ?_))
  obtain ⟨x, rfl, hM⟩ := h1
  refine L_m dL_law_388 ?_
  refine L_arg 1 (n := 1) hi (by omega) hL0 rfl dL_law_389 dL_law_390 dL_law_391 dL_law_392 dL_law_393 ?_
  refine L_call [.int (xs (j + 1))] [.int x] calX12_hours klL_39 (by decide) rfl rfl rfl rfl rfl (Nat.le_of_ble_eq_true rfl) (by decide) dL_law_394 (hM.mono (fun v σ2 h2 => ?_))
  obtain ⟨y, rfl, rfl, hI2⟩ := h2
  exact L_icmp_eq 1672 dL_law_397 rfl (fun _ => k _ hI2) (fun h => absurd rfl h)
theorem G_6 (hi : i = nI j) (hj : j + 6 ≤ L) (hL0 : L < 2147483648) (hI : Inv σ) (k : ∀ σ', Inv σ' → JL Γ l b L xs 1672 i [] σ') : JL Γ l b L xs 402 i [] σ := by
  refine L_x dL_law_402 ?_
  refine L_arg 1 (n := 1) hi (by omega) hL0 rfl dL_law_403 dL_law_404 dL_law_405 dL_law_406 dL_law_407 ?_
  refine L_arg 2 (n := 2) hi (by omega) hL0 rfl dL_law_408 dL_law_409 dL_law_410 dL_law_411 dL_law_412 ?_
  refine L_arg 3 (n := 3) hi (by omega) hL0 rfl dL_law_413 dL_law_414 dL_law_415 dL_law_416 dL_law_417 ?_
  refine L_call [.int (xs (j + 1)), .int (xs (j + 2)), .int (xs (j + 3))] [] calX11_cut klL_40 (by decide) rfl rfl rfl rfl rfl (by decide) (by decide) dL_law_418 ((P_cut (d := 0) _ _ _ hI).mono (fun v σ1 h1 => ?_))
  obtain ⟨x, rfl, hM⟩ := h1
  refine L_m dL_law_421 ?_
  refine L_arg 1 (n := 1) hi (by omega) hL0 rfl dL_law_422 dL_law_423 dL_law_424 dL_law_425 dL_law_426 ?_
  refine L_arg 2 (n := 2) hi (by omega) hL0 rfl dL_law_427 dL_law_428 dL_law_429 dL_law_430 dL_law_431 ?_
  refine L_arg 3 (n := 3) hi (by omega) hL0 rfl dL_law_432 dL_law_433 dL_law_434 dL_law_435 dL_law_436 ?_
  refine L_call [.int (xs (j + 1)), .int (xs (j + 2)), .int (xs (j + 3))] [.int x] calX12_cut klL_44 (by decide) rfl rfl rfl rfl rfl (Nat.le_of_ble_eq_true rfl) (by decide) dL_law_437 (hM.mono (fun v σ2 h2 => ?_))
  obtain ⟨y, rfl, rfl, hI2⟩ := h2
  exact L_icmp_eq 1672 dL_law_440 rfl (fun _ => k _ hI2) (fun h => absurd rfl h)
theorem G_7 (hi : i = nI j) (hj : j + 6 ≤ L) (hL0 : L < 2147483648) (hI : Inv σ) (k : ∀ σ', Inv σ' → JL Γ l b L xs 1672 i [] σ') : JL Γ l b L xs 445 i [] σ := by
  refine L_x dL_law_445 ?_
  refine L_arg 1 (n := 1) hi (by omega) hL0 rfl dL_law_446 dL_law_447 dL_law_448 dL_law_449 dL_law_450 ?_
  refine L_arg 2 (n := 2) hi (by omega) hL0 rfl dL_law_451 dL_law_452 dL_law_453 dL_law_454 dL_law_455 ?_
  refine L_call [.int (xs (j + 1)), .int (xs (j + 2))] [] calX11_step klL_45 (by decide) rfl rfl rfl rfl rfl (by decide) (by decide) dL_law_456 ((P_step (d := 0) _ _ hI).mono (fun v σ1 h1 => ?_))
  obtain ⟨x, rfl, hM⟩ := h1
  refine L_m dL_law_459 ?_
  refine L_arg 1 (n := 1) hi (by omega) hL0 rfl dL_law_460 dL_law_461 dL_law_462 dL_law_463 dL_law_464 ?_
  refine L_arg 2 (n := 2) hi (by omega) hL0 rfl dL_law_465 dL_law_466 dL_law_467 dL_law_468 dL_law_469 ?_
  refine L_call [.int (xs (j + 1)), .int (xs (j + 2))] [.int x] calX12_step klL_48 (by decide) rfl rfl rfl rfl rfl (Nat.le_of_ble_eq_true rfl) (by decide) dL_law_470 (hM.mono (fun v σ2 h2 => ?_))
  obtain ⟨y, rfl, rfl, hI2⟩ := h2
  exact L_icmp_eq 1672 dL_law_473 rfl (fun _ => k _ hI2) (fun h => absurd rfl h)
theorem G_8 (hi : i = nI j) (hj : j + 6 ≤ L) (hL0 : L < 2147483648) (hI : Inv σ) (k : ∀ σ', Inv σ' → JL Γ l b L xs 1672 i [] σ') : JL Γ l b L xs 478 i [] σ := by
  refine L_x dL_law_478 ?_
  refine L_arg 1 (n := 1) hi (by omega) hL0 rfl dL_law_479 dL_law_480 dL_law_481 dL_law_482 dL_law_483 ?_
  refine L_arg 2 (n := 2) hi (by omega) hL0 rfl dL_law_484 dL_law_485 dL_law_486 dL_law_487 dL_law_488 ?_
  refine L_arg 3 (n := 3) hi (by omega) hL0 rfl dL_law_489 dL_law_490 dL_law_491 dL_law_492 dL_law_493 ?_
  refine L_call [.int (xs (j + 1)), .int (xs (j + 2)), .int (xs (j + 3))] [] calX11_warm klL_49 (by decide) rfl rfl rfl rfl rfl (by decide) (by decide) dL_law_494 ((P_warm (d := 0) _ _ _ hI).mono (fun v σ1 h1 => ?_))
  obtain ⟨x, rfl, hM⟩ := h1
  refine L_m dL_law_497 ?_
  refine L_arg 1 (n := 1) hi (by omega) hL0 rfl dL_law_498 dL_law_499 dL_law_500 dL_law_501 dL_law_502 ?_
  refine L_arg 2 (n := 2) hi (by omega) hL0 rfl dL_law_503 dL_law_504 dL_law_505 dL_law_506 dL_law_507 ?_
  refine L_arg 3 (n := 3) hi (by omega) hL0 rfl dL_law_508 dL_law_509 dL_law_510 dL_law_511 dL_law_512 ?_
  refine L_call [.int (xs (j + 1)), .int (xs (j + 2)), .int (xs (j + 3))] [.int x] calX12_warm klL_52 (by decide) rfl rfl rfl rfl rfl (Nat.le_of_ble_eq_true rfl) (by decide) dL_law_513 (hM.mono (fun v σ2 h2 => ?_))
  obtain ⟨y, rfl, rfl, hI2⟩ := h2
  exact L_icmp_eq 1672 dL_law_516 rfl (fun _ => k _ hI2) (fun h => absurd rfl h)
theorem G_9 (hi : i = nI j) (hj : j + 6 ≤ L) (hL0 : L < 2147483648) (hI : Inv σ) (k : ∀ σ', Inv σ' → JL Γ l b L xs 1672 i [] σ') : JL Γ l b L xs 521 i [] σ := by
  refine L_x dL_law_521 ?_
  refine L_arg 1 (n := 1) hi (by omega) hL0 rfl dL_law_522 dL_law_523 dL_law_524 dL_law_525 dL_law_526 ?_
  refine L_arg 2 (n := 2) hi (by omega) hL0 rfl dL_law_527 dL_law_528 dL_law_529 dL_law_530 dL_law_531 ?_
  refine L_arg 3 (n := 3) hi (by omega) hL0 rfl dL_law_532 dL_law_533 dL_law_534 dL_law_535 dL_law_536 ?_
  refine L_arg 4 (n := 4) hi (by omega) hL0 rfl dL_law_537 dL_law_538 dL_law_539 dL_law_540 dL_law_541 ?_
  refine L_call [.int (xs (j + 1)), .int (xs (j + 2)), .int (xs (j + 3)), .int (xs (j + 4))] [] calX11_batch klL_53 (by decide) rfl rfl rfl rfl rfl (by decide) (by decide) dL_law_542 ((P_batch (d := 0) _ _ _ _ hI).mono (fun v σ1 h1 => ?_))
  obtain ⟨x, rfl, hM⟩ := h1
  refine L_m dL_law_545 ?_
  refine L_arg 1 (n := 1) hi (by omega) hL0 rfl dL_law_546 dL_law_547 dL_law_548 dL_law_549 dL_law_550 ?_
  refine L_arg 2 (n := 2) hi (by omega) hL0 rfl dL_law_551 dL_law_552 dL_law_553 dL_law_554 dL_law_555 ?_
  refine L_arg 3 (n := 3) hi (by omega) hL0 rfl dL_law_556 dL_law_557 dL_law_558 dL_law_559 dL_law_560 ?_
  refine L_arg 4 (n := 4) hi (by omega) hL0 rfl dL_law_561 dL_law_562 dL_law_563 dL_law_564 dL_law_565 ?_
  refine L_call [.int (xs (j + 1)), .int (xs (j + 2)), .int (xs (j + 3)), .int (xs (j + 4))] [.int x] calX12_batch klL_56 (by decide) rfl rfl rfl rfl rfl (Nat.le_of_ble_eq_true rfl) (by decide) dL_law_566 (hM.mono (fun v σ2 h2 => ?_))
  obtain ⟨y, rfl, rfl, hI2⟩ := h2
  exact L_icmp_eq 1672 dL_law_569 rfl (fun _ => k _ hI2) (fun h => absurd rfl h)
theorem G_10 (hi : i = nI j) (hj : j + 6 ≤ L) (hL0 : L < 2147483648) (hI : Inv σ) (k : ∀ σ', Inv σ' → JL Γ l b L xs 1672 i [] σ') : JL Γ l b L xs 574 i [] σ := by
  refine L_x dL_law_574 ?_
  refine L_arg 1 (n := 1) hi (by omega) hL0 rfl dL_law_575 dL_law_576 dL_law_577 dL_law_578 dL_law_579 ?_
  refine L_arg 2 (n := 2) hi (by omega) hL0 rfl dL_law_580 dL_law_581 dL_law_582 dL_law_583 dL_law_584 ?_
  refine L_call [.int (xs (j + 1)), .int (xs (j + 2))] [] calX11_ofBatch klL_57 (by decide) rfl rfl rfl rfl rfl (by decide) (by decide) dL_law_585 ((P_ofBatch (d := 0) _ _ hI).mono (fun v σ1 h1 => ?_))
  obtain ⟨x, rfl, hM⟩ := h1
  refine L_m dL_law_588 ?_
  refine L_arg 1 (n := 1) hi (by omega) hL0 rfl dL_law_589 dL_law_590 dL_law_591 dL_law_592 dL_law_593 ?_
  refine L_arg 2 (n := 2) hi (by omega) hL0 rfl dL_law_594 dL_law_595 dL_law_596 dL_law_597 dL_law_598 ?_
  refine L_call [.int (xs (j + 1)), .int (xs (j + 2))] [.int x] calX12_ofBatch klL_60 (by decide) rfl rfl rfl rfl rfl (Nat.le_of_ble_eq_true rfl) (by decide) dL_law_599 (hM.mono (fun v σ2 h2 => ?_))
  obtain ⟨y, rfl, rfl, hI2⟩ := h2
  exact L_icmp_eq 1672 dL_law_602 rfl (fun _ => k _ hI2) (fun h => absurd rfl h)
theorem G_11 (hi : i = nI j) (hj : j + 6 ≤ L) (hL0 : L < 2147483648) (hI : Inv σ) (k : ∀ σ', Inv σ' → JL Γ l b L xs 1672 i [] σ') : JL Γ l b L xs 607 i [] σ := by
  refine L_x dL_law_607 ?_
  refine L_arg 1 (n := 1) hi (by omega) hL0 rfl dL_law_608 dL_law_609 dL_law_610 dL_law_611 dL_law_612 ?_
  refine L_arg 2 (n := 2) hi (by omega) hL0 rfl dL_law_613 dL_law_614 dL_law_615 dL_law_616 dL_law_617 ?_
  refine L_arg 3 (n := 3) hi (by omega) hL0 rfl dL_law_618 dL_law_619 dL_law_620 dL_law_621 dL_law_622 ?_
  refine L_call [.int (xs (j + 1)), .int (xs (j + 2)), .int (xs (j + 3))] [] calX11_shelf klL_61 (by decide) rfl rfl rfl rfl rfl (by decide) (by decide) dL_law_623 ((P_shelf (d := 0) _ _ _ hI).mono (fun v σ1 h1 => ?_))
  obtain ⟨x, rfl, hM⟩ := h1
  refine L_m dL_law_626 ?_
  refine L_arg 1 (n := 1) hi (by omega) hL0 rfl dL_law_627 dL_law_628 dL_law_629 dL_law_630 dL_law_631 ?_
  refine L_arg 2 (n := 2) hi (by omega) hL0 rfl dL_law_632 dL_law_633 dL_law_634 dL_law_635 dL_law_636 ?_
  refine L_arg 3 (n := 3) hi (by omega) hL0 rfl dL_law_637 dL_law_638 dL_law_639 dL_law_640 dL_law_641 ?_
  refine L_call [.int (xs (j + 1)), .int (xs (j + 2)), .int (xs (j + 3))] [.int x] calX12_shelf klL_64 (by decide) rfl rfl rfl rfl rfl (Nat.le_of_ble_eq_true rfl) (by decide) dL_law_642 (hM.mono (fun v σ2 h2 => ?_))
  obtain ⟨y, rfl, rfl, hI2⟩ := h2
  exact L_icmp_eq 1672 dL_law_645 rfl (fun _ => k _ hI2) (fun h => absurd rfl h)
theorem G_12 (hi : i = nI j) (hj : j + 6 ≤ L) (hL0 : L < 2147483648) (hI : Inv σ) (k : ∀ σ', Inv σ' → JL Γ l b L xs 1672 i [] σ') : JL Γ l b L xs 650 i [] σ := by
  refine L_x dL_law_650 ?_
  refine L_arg 1 (n := 1) hi (by omega) hL0 rfl dL_law_651 dL_law_652 dL_law_653 dL_law_654 dL_law_655 ?_
  refine L_arg 2 (n := 2) hi (by omega) hL0 rfl dL_law_656 dL_law_657 dL_law_658 dL_law_659 dL_law_660 ?_
  refine L_arg 3 (n := 3) hi (by omega) hL0 rfl dL_law_661 dL_law_662 dL_law_663 dL_law_664 dL_law_665 ?_
  refine L_arg 4 (n := 4) hi (by omega) hL0 rfl dL_law_666 dL_law_667 dL_law_668 dL_law_669 dL_law_670 ?_
  refine L_arg 5 (n := 5) hi (by omega) hL0 rfl dL_law_671 dL_law_672 dL_law_673 dL_law_674 dL_law_675 ?_
  refine L_call [.int (xs (j + 1)), .int (xs (j + 2)), .int (xs (j + 3)), .int (xs (j + 4)), .int (xs (j + 5))] [] calX11_feed klL_65 (by decide) rfl rfl rfl rfl rfl (by decide) (by decide) dL_law_676 ((P_feed (d := 0) _ _ _ _ _ hI).mono (fun v σ1 h1 => ?_))
  obtain ⟨x, rfl, hM⟩ := h1
  refine L_m dL_law_679 ?_
  refine L_arg 1 (n := 1) hi (by omega) hL0 rfl dL_law_680 dL_law_681 dL_law_682 dL_law_683 dL_law_684 ?_
  refine L_arg 2 (n := 2) hi (by omega) hL0 rfl dL_law_685 dL_law_686 dL_law_687 dL_law_688 dL_law_689 ?_
  refine L_arg 3 (n := 3) hi (by omega) hL0 rfl dL_law_690 dL_law_691 dL_law_692 dL_law_693 dL_law_694 ?_
  refine L_arg 4 (n := 4) hi (by omega) hL0 rfl dL_law_695 dL_law_696 dL_law_697 dL_law_698 dL_law_699 ?_
  refine L_arg 5 (n := 5) hi (by omega) hL0 rfl dL_law_700 dL_law_701 dL_law_702 dL_law_703 dL_law_704 ?_
  refine L_call [.int (xs (j + 1)), .int (xs (j + 2)), .int (xs (j + 3)), .int (xs (j + 4)), .int (xs (j + 5))] [.int x] calX12_feed klL_69 (by decide) rfl rfl rfl rfl rfl (Nat.le_of_ble_eq_true rfl) (by decide) dL_law_705 (hM.mono (fun v σ2 h2 => ?_))
  obtain ⟨y, rfl, rfl, hI2⟩ := h2
  exact L_icmp_eq 1672 dL_law_708 rfl (fun _ => k _ hI2) (fun h => absurd rfl h)
theorem G_13 (hi : i = nI j) (hj : j + 6 ≤ L) (hL0 : L < 2147483648) (hI : Inv σ) (k : ∀ σ', Inv σ' → JL Γ l b L xs 1672 i [] σ') : JL Γ l b L xs 713 i [] σ := by
  refine L_x dL_law_713 ?_
  refine L_arg 1 (n := 1) hi (by omega) hL0 rfl dL_law_714 dL_law_715 dL_law_716 dL_law_717 dL_law_718 ?_
  refine L_call [.int (xs (j + 1))] [] calX11_end klL_70 (by decide) rfl rfl rfl rfl rfl (by decide) (by decide) dL_law_719 ((P_end (d := 0) _ hI).mono (fun v σ1 h1 => ?_))
  obtain ⟨x, rfl, hM⟩ := h1
  refine L_m dL_law_722 ?_
  refine L_arg 1 (n := 1) hi (by omega) hL0 rfl dL_law_723 dL_law_724 dL_law_725 dL_law_726 dL_law_727 ?_
  refine L_call [.int (xs (j + 1))] [.int x] calX12_end klL_73 (by decide) rfl rfl rfl rfl rfl (Nat.le_of_ble_eq_true rfl) (by decide) dL_law_728 (hM.mono (fun v σ2 h2 => ?_))
  obtain ⟨y, rfl, rfl, hI2⟩ := h2
  exact L_icmp_eq 1672 dL_law_731 rfl (fun _ => k _ hI2) (fun h => absurd rfl h)
theorem G_14 (hi : i = nI j) (hj : j + 6 ≤ L) (hL0 : L < 2147483648) (hI : Inv σ) (k : ∀ σ', Inv σ' → JL Γ l b L xs 1672 i [] σ') : JL Γ l b L xs 736 i [] σ := by
  refine L_x dL_law_736 ?_
  refine L_arg 1 (n := 1) hi (by omega) hL0 rfl dL_law_737 dL_law_738 dL_law_739 dL_law_740 dL_law_741 ?_
  refine L_arg 2 (n := 2) hi (by omega) hL0 rfl dL_law_742 dL_law_743 dL_law_744 dL_law_745 dL_law_746 ?_
  refine L_call [.int (xs (j + 1)), .int (xs (j + 2))] [] calX11_law klL_74 (by decide) rfl rfl rfl rfl rfl (by decide) (by decide) dL_law_747 ((P_law _ _ hI).mono (fun v σ1 h1 => ?_))
  obtain ⟨x, rfl, hM⟩ := h1
  refine L_m dL_law_750 ?_
  refine L_arg 1 (n := 1) hi (by omega) hL0 rfl dL_law_751 dL_law_752 dL_law_753 dL_law_754 dL_law_755 ?_
  refine L_arg 2 (n := 2) hi (by omega) hL0 rfl dL_law_756 dL_law_757 dL_law_758 dL_law_759 dL_law_760 ?_
  refine L_call [.int (xs (j + 1)), .int (xs (j + 2))] [.int x] calX12_law klL_77 (by decide) rfl rfl rfl rfl rfl (Nat.le_of_ble_eq_true rfl) (by decide) dL_law_761 (hM.mono (fun v σ2 h2 => ?_))
  obtain ⟨y, rfl, rfl, hI2⟩ := h2
  exact L_icmp_eq 1672 dL_law_764 rfl (fun _ => k _ hI2) (fun h => absurd rfl h)
theorem G_15 (hi : i = nI j) (hj : j + 6 ≤ L) (hL0 : L < 2147483648) (hI : Inv σ) (k : ∀ σ', Inv σ' → JL Γ l b L xs 1672 i [] σ') : JL Γ l b L xs 769 i [] σ := by
  refine L_x dL_law_769 ?_
  refine L_arg 1 (n := 1) hi (by omega) hL0 rfl dL_law_770 dL_law_771 dL_law_772 dL_law_773 dL_law_774 ?_
  refine L_arg 2 (n := 2) hi (by omega) hL0 rfl dL_law_775 dL_law_776 dL_law_777 dL_law_778 dL_law_779 ?_
  refine L_arg 3 (n := 3) hi (by omega) hL0 rfl dL_law_780 dL_law_781 dL_law_782 dL_law_783 dL_law_784 ?_
  refine L_call [.int (xs (j + 1)), .int (xs (j + 2)), .int (xs (j + 3))] [] calX11_inForce klL_78 (by decide) rfl rfl rfl rfl rfl (by decide) (by decide) dL_law_785 ((P_inForce (d := 0) _ _ _ hI).mono (fun v σ1 h1 => ?_))
  obtain ⟨x, rfl, hM⟩ := h1
  refine L_m dL_law_788 ?_
  refine L_arg 1 (n := 1) hi (by omega) hL0 rfl dL_law_789 dL_law_790 dL_law_791 dL_law_792 dL_law_793 ?_
  refine L_arg 2 (n := 2) hi (by omega) hL0 rfl dL_law_794 dL_law_795 dL_law_796 dL_law_797 dL_law_798 ?_
  refine L_arg 3 (n := 3) hi (by omega) hL0 rfl dL_law_799 dL_law_800 dL_law_801 dL_law_802 dL_law_803 ?_
  refine L_call [.int (xs (j + 1)), .int (xs (j + 2)), .int (xs (j + 3))] [.int x] calX12_inForce klL_81 (by decide) rfl rfl rfl rfl rfl (Nat.le_of_ble_eq_true rfl) (by decide) dL_law_804 (hM.mono (fun v σ2 h2 => ?_))
  obtain ⟨y, rfl, rfl, hI2⟩ := h2
  exact L_icmp_eq 1672 dL_law_807 rfl (fun _ => k _ hI2) (fun h => absurd rfl h)
theorem G_16 (hi : i = nI j) (hj : j + 6 ≤ L) (hL0 : L < 2147483648) (hI : Inv σ) (k : ∀ σ', Inv σ' → JL Γ l b L xs 1672 i [] σ') : JL Γ l b L xs 812 i [] σ := by
  refine L_x dL_law_812 ?_
  refine L_arg 1 (n := 1) hi (by omega) hL0 rfl dL_law_813 dL_law_814 dL_law_815 dL_law_816 dL_law_817 ?_
  refine L_arg 2 (n := 2) hi (by omega) hL0 rfl dL_law_818 dL_law_819 dL_law_820 dL_law_821 dL_law_822 ?_
  refine L_call [.int (xs (j + 1)), .int (xs (j + 2))] [] calX11_says klL_82 (by decide) rfl rfl rfl rfl rfl (by decide) (by decide) dL_law_823 ((P_says (d := 0) _ _ hI).mono (fun v σ1 h1 => ?_))
  obtain ⟨x, rfl, hM⟩ := h1
  refine L_m dL_law_826 ?_
  refine L_arg 1 (n := 1) hi (by omega) hL0 rfl dL_law_827 dL_law_828 dL_law_829 dL_law_830 dL_law_831 ?_
  refine L_arg 2 (n := 2) hi (by omega) hL0 rfl dL_law_832 dL_law_833 dL_law_834 dL_law_835 dL_law_836 ?_
  refine L_call [.int (xs (j + 1)), .int (xs (j + 2))] [.int x] calX12_says klL_85 (by decide) rfl rfl rfl rfl rfl (Nat.le_of_ble_eq_true rfl) (by decide) dL_law_837 (hM.mono (fun v σ2 h2 => ?_))
  obtain ⟨y, rfl, rfl, hI2⟩ := h2
  exact L_icmp_eq 1672 dL_law_840 rfl (fun _ => k _ hI2) (fun h => absurd rfl h)
theorem G_17 (hi : i = nI j) (hj : j + 6 ≤ L) (hL0 : L < 2147483648) (hI : Inv σ) (k : ∀ σ', Inv σ' → JL Γ l b L xs 1672 i [] σ') : JL Γ l b L xs 845 i [] σ := by
  refine L_x dL_law_845 ?_
  refine L_arg 1 (n := 1) hi (by omega) hL0 rfl dL_law_846 dL_law_847 dL_law_848 dL_law_849 dL_law_850 ?_
  refine L_arg 2 (n := 2) hi (by omega) hL0 rfl dL_law_851 dL_law_852 dL_law_853 dL_law_854 dL_law_855 ?_
  refine L_arg 3 (n := 3) hi (by omega) hL0 rfl dL_law_856 dL_law_857 dL_law_858 dL_law_859 dL_law_860 ?_
  refine L_call [.int (xs (j + 1)), .int (xs (j + 2)), .int (xs (j + 3))] [] calX11_buy klL_86 (by decide) rfl rfl rfl rfl rfl (by decide) (by decide) dL_law_861 ((P_buy (d := 0) _ _ _ hI).mono (fun v σ1 h1 => ?_))
  obtain ⟨x, rfl, hM⟩ := h1
  refine L_m dL_law_864 ?_
  refine L_arg 1 (n := 1) hi (by omega) hL0 rfl dL_law_865 dL_law_866 dL_law_867 dL_law_868 dL_law_869 ?_
  refine L_arg 2 (n := 2) hi (by omega) hL0 rfl dL_law_870 dL_law_871 dL_law_872 dL_law_873 dL_law_874 ?_
  refine L_arg 3 (n := 3) hi (by omega) hL0 rfl dL_law_875 dL_law_876 dL_law_877 dL_law_878 dL_law_879 ?_
  refine L_call [.int (xs (j + 1)), .int (xs (j + 2)), .int (xs (j + 3))] [.int x] calX12_buy klL_89 (by decide) rfl rfl rfl rfl rfl (Nat.le_of_ble_eq_true rfl) (by decide) dL_law_880 (hM.mono (fun v σ2 h2 => ?_))
  obtain ⟨y, rfl, rfl, hI2⟩ := h2
  exact L_icmp_eq 1672 dL_law_883 rfl (fun _ => k _ hI2) (fun h => absurd rfl h)
theorem G_18 (hi : i = nI j) (hj : j + 6 ≤ L) (hL0 : L < 2147483648) (hI : Inv σ) (k : ∀ σ', Inv σ' → JL Γ l b L xs 1672 i [] σ') : JL Γ l b L xs 888 i [] σ := by
  refine L_x dL_law_888 ?_
  refine L_arg 1 (n := 1) hi (by omega) hL0 rfl dL_law_889 dL_law_890 dL_law_891 dL_law_892 dL_law_893 ?_
  refine L_arg 2 (n := 2) hi (by omega) hL0 rfl dL_law_894 dL_law_895 dL_law_896 dL_law_897 dL_law_898 ?_
  refine L_arg 3 (n := 3) hi (by omega) hL0 rfl dL_law_899 dL_law_900 dL_law_901 dL_law_902 dL_law_903 ?_
  refine L_arg 4 (n := 4) hi (by omega) hL0 rfl dL_law_904 dL_law_905 dL_law_906 dL_law_907 dL_law_908 ?_
  refine L_call [.int (xs (j + 1)), .int (xs (j + 2)), .int (xs (j + 3)), .int (xs (j + 4))] [] calX11_foretold klL_90 (by decide) rfl rfl rfl rfl rfl (by decide) (by decide) dL_law_909 ((P_foretold (d := 0) _ _ _ _ hI).mono (fun v σ1 h1 => ?_))
  obtain ⟨x, rfl, hM⟩ := h1
  refine L_m dL_law_912 ?_
  refine L_arg 1 (n := 1) hi (by omega) hL0 rfl dL_law_913 dL_law_914 dL_law_915 dL_law_916 dL_law_917 ?_
  refine L_arg 2 (n := 2) hi (by omega) hL0 rfl dL_law_918 dL_law_919 dL_law_920 dL_law_921 dL_law_922 ?_
  refine L_arg 3 (n := 3) hi (by omega) hL0 rfl dL_law_923 dL_law_924 dL_law_925 dL_law_926 dL_law_927 ?_
  refine L_arg 4 (n := 4) hi (by omega) hL0 rfl dL_law_928 dL_law_929 dL_law_930 dL_law_931 dL_law_932 ?_
  refine L_call [.int (xs (j + 1)), .int (xs (j + 2)), .int (xs (j + 3)), .int (xs (j + 4))] [.int x] calX12_foretold klL_93 (by decide) rfl rfl rfl rfl rfl (Nat.le_of_ble_eq_true rfl) (by decide) dL_law_933 (hM.mono (fun v σ2 h2 => ?_))
  obtain ⟨y, rfl, rfl, hI2⟩ := h2
  exact L_icmp_eq 1672 dL_law_936 rfl (fun _ => k _ hI2) (fun h => absurd rfl h)
theorem G_19 (hi : i = nI j) (hj : j + 6 ≤ L) (hL0 : L < 2147483648) (hI : Inv σ) (k : ∀ σ', Inv σ' → JL Γ l b L xs 1672 i [] σ') : JL Γ l b L xs 941 i [] σ := by
  refine L_x dL_law_941 ?_
  refine L_arg 1 (n := 1) hi (by omega) hL0 rfl dL_law_942 dL_law_943 dL_law_944 dL_law_945 dL_law_946 ?_
  refine L_arg 2 (n := 2) hi (by omega) hL0 rfl dL_law_947 dL_law_948 dL_law_949 dL_law_950 dL_law_951 ?_
  refine L_call [.int (xs (j + 1)), .int (xs (j + 2))] [] calX11_plan klL_94 (by decide) rfl rfl rfl rfl rfl (by decide) (by decide) dL_law_952 ((P_plan (d := 0) _ _ hI).mono (fun v σ1 h1 => ?_))
  obtain ⟨x, rfl, hM⟩ := h1
  refine L_m dL_law_955 ?_
  refine L_arg 1 (n := 1) hi (by omega) hL0 rfl dL_law_956 dL_law_957 dL_law_958 dL_law_959 dL_law_960 ?_
  refine L_arg 2 (n := 2) hi (by omega) hL0 rfl dL_law_961 dL_law_962 dL_law_963 dL_law_964 dL_law_965 ?_
  refine L_call [.int (xs (j + 1)), .int (xs (j + 2))] [.int x] calX12_plan klL_97 (by decide) rfl rfl rfl rfl rfl (Nat.le_of_ble_eq_true rfl) (by decide) dL_law_966 (hM.mono (fun v σ2 h2 => ?_))
  obtain ⟨y, rfl, rfl, hI2⟩ := h2
  exact L_icmp_eq 1672 dL_law_969 rfl (fun _ => k _ hI2) (fun h => absurd rfl h)
theorem G_20 (hi : i = nI j) (hj : j + 6 ≤ L) (hL0 : L < 2147483648) (hI : Inv σ) (k : ∀ σ', Inv σ' → JL Γ l b L xs 1672 i [] σ') : JL Γ l b L xs 974 i [] σ := by
  refine L_x dL_law_974 ?_
  refine L_arg 1 (n := 1) hi (by omega) hL0 rfl dL_law_975 dL_law_976 dL_law_977 dL_law_978 dL_law_979 ?_
  refine L_call [.int (xs (j + 1))] [] calX11_planned klL_98 (by decide) rfl rfl rfl rfl rfl (by decide) (by decide) dL_law_980 ((P_planned (d := 0) _ hI).mono (fun v σ1 h1 => ?_))
  obtain ⟨x, rfl, hM⟩ := h1
  refine L_m dL_law_983 ?_
  refine L_arg 1 (n := 1) hi (by omega) hL0 rfl dL_law_984 dL_law_985 dL_law_986 dL_law_987 dL_law_988 ?_
  refine L_call [.int (xs (j + 1))] [.int x] calX12_planned klL_101 (by decide) rfl rfl rfl rfl rfl (Nat.le_of_ble_eq_true rfl) (by decide) dL_law_989 (hM.mono (fun v σ2 h2 => ?_))
  obtain ⟨y, rfl, rfl, hI2⟩ := h2
  exact L_icmp_eq 1672 dL_law_992 rfl (fun _ => k _ hI2) (fun h => absurd rfl h)
theorem G_21 (hi : i = nI j) (hj : j + 6 ≤ L) (hL0 : L < 2147483648) (hI : Inv σ) (k : ∀ σ', Inv σ' → JL Γ l b L xs 1672 i [] σ') : JL Γ l b L xs 997 i [] σ := by
  refine L_x dL_law_997 ?_
  refine L_call [] [] calX11_left klL_102 (by decide) rfl rfl rfl rfl rfl (by decide) (by decide) dL_law_998 ((P_left (d := 0) hI).mono (fun v σ1 h1 => ?_))
  obtain ⟨x, rfl, hM⟩ := h1
  refine L_m dL_law_1001 ?_
  refine L_call [] [.int x] calX12_left klL_106 (by decide) rfl rfl rfl rfl rfl (Nat.le_of_ble_eq_true rfl) (by decide) dL_law_1002 (hM.mono (fun v σ2 h2 => ?_))
  obtain ⟨y, rfl, rfl, hI2⟩ := h2
  exact L_icmp_eq 1672 dL_law_1005 rfl (fun _ => k _ hI2) (fun h => absurd rfl h)
theorem G_22 (hi : i = nI j) (hj : j + 6 ≤ L) (hL0 : L < 2147483648) (hI : Inv σ) (k : ∀ σ', Inv σ' → JL Γ l b L xs 1672 i [] σ') : JL Γ l b L xs 1010 i [] σ := by
  refine L_x dL_law_1010 ?_
  refine L_arg 1 (n := 1) hi (by omega) hL0 rfl dL_law_1011 dL_law_1012 dL_law_1013 dL_law_1014 dL_law_1015 ?_
  refine L_arg 2 (n := 2) hi (by omega) hL0 rfl dL_law_1016 dL_law_1017 dL_law_1018 dL_law_1019 dL_law_1020 ?_
  refine L_arg 3 (n := 3) hi (by omega) hL0 rfl dL_law_1021 dL_law_1022 dL_law_1023 dL_law_1024 dL_law_1025 ?_
  refine L_arg 4 (n := 4) hi (by omega) hL0 rfl dL_law_1026 dL_law_1027 dL_law_1028 dL_law_1029 dL_law_1030 ?_
  refine L_call [.int (xs (j + 1)), .int (xs (j + 2)), .int (xs (j + 3)), .int (xs (j + 4))] [] calX11_order klL_107 (by decide) rfl rfl rfl rfl rfl (by decide) (by decide) dL_law_1031 ((P_order (d := 0) _ _ _ _ hI).mono (fun v σ1 h1 => ?_))
  obtain ⟨x, rfl, hM⟩ := h1
  refine L_m dL_law_1034 ?_
  refine L_arg 1 (n := 1) hi (by omega) hL0 rfl dL_law_1035 dL_law_1036 dL_law_1037 dL_law_1038 dL_law_1039 ?_
  refine L_arg 2 (n := 2) hi (by omega) hL0 rfl dL_law_1040 dL_law_1041 dL_law_1042 dL_law_1043 dL_law_1044 ?_
  refine L_arg 3 (n := 3) hi (by omega) hL0 rfl dL_law_1045 dL_law_1046 dL_law_1047 dL_law_1048 dL_law_1049 ?_
  refine L_arg 4 (n := 4) hi (by omega) hL0 rfl dL_law_1050 dL_law_1051 dL_law_1052 dL_law_1053 dL_law_1054 ?_
  refine L_call [.int (xs (j + 1)), .int (xs (j + 2)), .int (xs (j + 3)), .int (xs (j + 4))] [.int x] calX12_order klL_110 (by decide) rfl rfl rfl rfl rfl (Nat.le_of_ble_eq_true rfl) (by decide) dL_law_1055 (hM.mono (fun v σ2 h2 => ?_))
  obtain ⟨y, rfl, rfl, hI2⟩ := h2
  exact L_icmp_eq 1672 dL_law_1058 rfl (fun _ => k _ hI2) (fun h => absurd rfl h)
theorem G_23 (hi : i = nI j) (hj : j + 6 ≤ L) (hL0 : L < 2147483648) (hI : Inv σ) (k : ∀ σ', Inv σ' → JL Γ l b L xs 1672 i [] σ') : JL Γ l b L xs 1063 i [] σ := by
  refine L_x dL_law_1063 ?_
  refine L_arg 1 (n := 1) hi (by omega) hL0 rfl dL_law_1064 dL_law_1065 dL_law_1066 dL_law_1067 dL_law_1068 ?_
  refine L_arg 2 (n := 2) hi (by omega) hL0 rfl dL_law_1069 dL_law_1070 dL_law_1071 dL_law_1072 dL_law_1073 ?_
  refine L_arg 3 (n := 3) hi (by omega) hL0 rfl dL_law_1074 dL_law_1075 dL_law_1076 dL_law_1077 dL_law_1078 ?_
  refine L_arg 4 (n := 4) hi (by omega) hL0 rfl dL_law_1079 dL_law_1080 dL_law_1081 dL_law_1082 dL_law_1083 ?_
  refine L_arg 5 (n := 5) hi (by omega) hL0 rfl dL_law_1084 dL_law_1085 dL_law_1086 dL_law_1087 dL_law_1088 ?_
  refine L_call [.int (xs (j + 1)), .int (xs (j + 2)), .int (xs (j + 3)), .int (xs (j + 4)), .int (xs (j + 5))] [] calX11_loss klL_111 (by decide) rfl rfl rfl rfl rfl (by decide) (by decide) dL_law_1089 ((P_loss (d := 0) _ _ _ _ _ hI).mono (fun v σ1 h1 => ?_))
  obtain ⟨x, rfl, hM⟩ := h1
  refine L_m dL_law_1092 ?_
  refine L_arg 1 (n := 1) hi (by omega) hL0 rfl dL_law_1093 dL_law_1094 dL_law_1095 dL_law_1096 dL_law_1097 ?_
  refine L_arg 2 (n := 2) hi (by omega) hL0 rfl dL_law_1098 dL_law_1099 dL_law_1100 dL_law_1101 dL_law_1102 ?_
  refine L_arg 3 (n := 3) hi (by omega) hL0 rfl dL_law_1103 dL_law_1104 dL_law_1105 dL_law_1106 dL_law_1107 ?_
  refine L_arg 4 (n := 4) hi (by omega) hL0 rfl dL_law_1108 dL_law_1109 dL_law_1110 dL_law_1111 dL_law_1112 ?_
  refine L_arg 5 (n := 5) hi (by omega) hL0 rfl dL_law_1113 dL_law_1114 dL_law_1115 dL_law_1116 dL_law_1117 ?_
  refine L_call [.int (xs (j + 1)), .int (xs (j + 2)), .int (xs (j + 3)), .int (xs (j + 4)), .int (xs (j + 5))] [.long x] calX12_loss klL_115 (by decide) rfl rfl rfl rfl rfl (Nat.le_of_ble_eq_true rfl) (by decide) dL_law_1118 (hM.mono (fun v σ2 h2 => ?_))
  obtain ⟨y, rfl, rfl, hI2⟩ := h2
  refine L_lcmp dL_law_1121 ?_
  exact L_if_eq 1672 dL_law_1122 rfl (fun _ => k _ hI2) (fun h => absurd (lg_self _) h)
theorem G_24 (hi : i = nI j) (hj : j + 6 ≤ L) (hL0 : L < 2147483648) (hI : Inv σ) (k : ∀ σ', Inv σ' → JL Γ l b L xs 1672 i [] σ') : JL Γ l b L xs 1127 i [] σ := by
  refine L_x dL_law_1127 ?_
  refine L_arg 1 (n := 1) hi (by omega) hL0 rfl dL_law_1128 dL_law_1129 dL_law_1130 dL_law_1131 dL_law_1132 ?_
  refine L_arg 2 (n := 2) hi (by omega) hL0 rfl dL_law_1133 dL_law_1134 dL_law_1135 dL_law_1136 dL_law_1137 ?_
  refine L_arg 3 (n := 3) hi (by omega) hL0 rfl dL_law_1138 dL_law_1139 dL_law_1140 dL_law_1141 dL_law_1142 ?_
  refine L_call [.int (xs (j + 1)), .int (xs (j + 2)), .int (xs (j + 3))] [] calX11_crates klL_116 (by decide) rfl rfl rfl rfl rfl (by decide) (by decide) dL_law_1143 ((P_crates (d := 0) _ _ _ hI).mono (fun v σ1 h1 => ?_))
  obtain ⟨x, rfl, hM⟩ := h1
  refine L_m dL_law_1146 ?_
  refine L_arg 1 (n := 1) hi (by omega) hL0 rfl dL_law_1147 dL_law_1148 dL_law_1149 dL_law_1150 dL_law_1151 ?_
  refine L_arg 2 (n := 2) hi (by omega) hL0 rfl dL_law_1152 dL_law_1153 dL_law_1154 dL_law_1155 dL_law_1156 ?_
  refine L_arg 3 (n := 3) hi (by omega) hL0 rfl dL_law_1157 dL_law_1158 dL_law_1159 dL_law_1160 dL_law_1161 ?_
  refine L_call [.int (xs (j + 1)), .int (xs (j + 2)), .int (xs (j + 3))] [.int x] calX12_crates klL_119 (by decide) rfl rfl rfl rfl rfl (Nat.le_of_ble_eq_true rfl) (by decide) dL_law_1162 (hM.mono (fun v σ2 h2 => ?_))
  obtain ⟨y, rfl, rfl, hI2⟩ := h2
  exact L_icmp_eq 1672 dL_law_1165 rfl (fun _ => k _ hI2) (fun h => absurd rfl h)
theorem G_25 (hi : i = nI j) (hj : j + 6 ≤ L) (hL0 : L < 2147483648) (hI : Inv σ) (k : ∀ σ', Inv σ' → JL Γ l b L xs 1672 i [] σ') : JL Γ l b L xs 1170 i [] σ := by
  refine L_x dL_law_1170 ?_
  refine L_call [] [] calX11_ways klL_120 (by decide) rfl rfl rfl rfl rfl (by decide) (by decide) dL_law_1171 ((P_ways (d := 0) hI).mono (fun v σ1 h1 => ?_))
  obtain ⟨x, rfl, hM⟩ := h1
  refine L_m dL_law_1174 ?_
  refine L_call [] [.int x] calX12_ways klL_123 (by decide) rfl rfl rfl rfl rfl (Nat.le_of_ble_eq_true rfl) (by decide) dL_law_1175 (hM.mono (fun v σ2 h2 => ?_))
  obtain ⟨y, rfl, rfl, hI2⟩ := h2
  exact L_icmp_eq 1672 dL_law_1178 rfl (fun _ => k _ hI2) (fun h => absurd rfl h)
theorem G_26 (hi : i = nI j) (hj : j + 6 ≤ L) (hL0 : L < 2147483648) (hI : Inv σ) (k : ∀ σ', Inv σ' → JL Γ l b L xs 1672 i [] σ') : JL Γ l b L xs 1183 i [] σ := by
  refine L_x dL_law_1183 ?_
  refine L_arg 1 (n := 1) hi (by omega) hL0 rfl dL_law_1184 dL_law_1185 dL_law_1186 dL_law_1187 dL_law_1188 ?_
  refine L_call [.int (xs (j + 1))] [] calX11_comes klL_124 (by decide) rfl rfl rfl rfl rfl (by decide) (by decide) dL_law_1189 ((P_comes (d := 0) _ hI).mono (fun v σ1 h1 => ?_))
  obtain ⟨x, rfl, hM⟩ := h1
  refine L_m dL_law_1192 ?_
  refine L_arg 1 (n := 1) hi (by omega) hL0 rfl dL_law_1193 dL_law_1194 dL_law_1195 dL_law_1196 dL_law_1197 ?_
  refine L_call [.int (xs (j + 1))] [.int x] calX12_comes klL_127 (by decide) rfl rfl rfl rfl rfl (Nat.le_of_ble_eq_true rfl) (by decide) dL_law_1198 (hM.mono (fun v σ2 h2 => ?_))
  obtain ⟨y, rfl, rfl, hI2⟩ := h2
  exact L_icmp_eq 1672 dL_law_1201 rfl (fun _ => k _ hI2) (fun h => absurd rfl h)
theorem G_27 (hi : i = nI j) (hj : j + 6 ≤ L) (hL0 : L < 2147483648) (hI : Inv σ) (k : ∀ σ', Inv σ' → JL Γ l b L xs 1672 i [] σ') : JL Γ l b L xs 1206 i [] σ := by
  refine L_x dL_law_1206 ?_
  refine L_arg 1 (n := 1) hi (by omega) hL0 rfl dL_law_1207 dL_law_1208 dL_law_1209 dL_law_1210 dL_law_1211 ?_
  refine L_arg 2 (n := 2) hi (by omega) hL0 rfl dL_law_1212 dL_law_1213 dL_law_1214 dL_law_1215 dL_law_1216 ?_
  refine L_arg 3 (n := 3) hi (by omega) hL0 rfl dL_law_1217 dL_law_1218 dL_law_1219 dL_law_1220 dL_law_1221 ?_
  refine L_arg 4 (n := 4) hi (by omega) hL0 rfl dL_law_1222 dL_law_1223 dL_law_1224 dL_law_1225 dL_law_1226 ?_
  refine L_call [.int (xs (j + 1)), .int (xs (j + 2)), .int (xs (j + 3)), .int (xs (j + 4))] [] calX11_move klL_128 (by decide) rfl rfl rfl rfl rfl (by decide) (by decide) dL_law_1227 ((P_move (d := 0) _ _ _ _ hI).mono (fun v σ1 h1 => ?_))
  obtain ⟨x, rfl, hM⟩ := h1
  refine L_m dL_law_1230 ?_
  refine L_arg 1 (n := 1) hi (by omega) hL0 rfl dL_law_1231 dL_law_1232 dL_law_1233 dL_law_1234 dL_law_1235 ?_
  refine L_arg 2 (n := 2) hi (by omega) hL0 rfl dL_law_1236 dL_law_1237 dL_law_1238 dL_law_1239 dL_law_1240 ?_
  refine L_arg 3 (n := 3) hi (by omega) hL0 rfl dL_law_1241 dL_law_1242 dL_law_1243 dL_law_1244 dL_law_1245 ?_
  refine L_arg 4 (n := 4) hi (by omega) hL0 rfl dL_law_1246 dL_law_1247 dL_law_1248 dL_law_1249 dL_law_1250 ?_
  refine L_call [.int (xs (j + 1)), .int (xs (j + 2)), .int (xs (j + 3)), .int (xs (j + 4))] [.int x] calX12_move klL_131 (by decide) rfl rfl rfl rfl rfl (Nat.le_of_ble_eq_true rfl) (by decide) dL_law_1251 (hM.mono (fun v σ2 h2 => ?_))
  obtain ⟨y, rfl, rfl, hI2⟩ := h2
  exact L_icmp_eq 1672 dL_law_1254 rfl (fun _ => k _ hI2) (fun h => absurd rfl h)
theorem G_28 (hi : i = nI j) (hj : j + 6 ≤ L) (hL0 : L < 2147483648) (hI : Inv σ) (k : ∀ σ', Inv σ' → JL Γ l b L xs 1672 i [] σ') : JL Γ l b L xs 1259 i [] σ := by
  refine L_x dL_law_1259 ?_
  refine L_arg 1 (n := 1) hi (by omega) hL0 rfl dL_law_1260 dL_law_1261 dL_law_1262 dL_law_1263 dL_law_1264 ?_
  refine L_arg 2 (n := 2) hi (by omega) hL0 rfl dL_law_1265 dL_law_1266 dL_law_1267 dL_law_1268 dL_law_1269 ?_
  refine L_call [.int (xs (j + 1)), .int (xs (j + 2))] [] calX11_drawn klL_132 (by decide) rfl rfl rfl rfl rfl (by decide) (by decide) dL_law_1270 ((P_drawn (d := 0) _ _ hI).mono (fun v σ1 h1 => ?_))
  obtain ⟨x, rfl, hM⟩ := h1
  refine L_m dL_law_1273 ?_
  refine L_arg 1 (n := 1) hi (by omega) hL0 rfl dL_law_1274 dL_law_1275 dL_law_1276 dL_law_1277 dL_law_1278 ?_
  refine L_arg 2 (n := 2) hi (by omega) hL0 rfl dL_law_1279 dL_law_1280 dL_law_1281 dL_law_1282 dL_law_1283 ?_
  refine L_call [.int (xs (j + 1)), .int (xs (j + 2))] [.int x] calX12_drawn klL_135 (by decide) rfl rfl rfl rfl rfl (Nat.le_of_ble_eq_true rfl) (by decide) dL_law_1284 (hM.mono (fun v σ2 h2 => ?_))
  obtain ⟨y, rfl, rfl, hI2⟩ := h2
  exact L_icmp_eq 1672 dL_law_1287 rfl (fun _ => k _ hI2) (fun h => absurd rfl h)
theorem G_29 (hi : i = nI j) (hj : j + 6 ≤ L) (hL0 : L < 2147483648) (hI : Inv σ) (k : ∀ σ', Inv σ' → JL Γ l b L xs 1672 i [] σ') : JL Γ l b L xs 1292 i [] σ := by
  refine L_x dL_law_1292 ?_
  refine L_arg 1 (n := 1) hi (by omega) hL0 rfl dL_law_1293 dL_law_1294 dL_law_1295 dL_law_1296 dL_law_1297 ?_
  refine L_arg 2 (n := 2) hi (by omega) hL0 rfl dL_law_1298 dL_law_1299 dL_law_1300 dL_law_1301 dL_law_1302 ?_
  refine L_arg 3 (n := 3) hi (by omega) hL0 rfl dL_law_1303 dL_law_1304 dL_law_1305 dL_law_1306 dL_law_1307 ?_
  refine L_arg 4 (n := 4) hi (by omega) hL0 rfl dL_law_1308 dL_law_1309 dL_law_1310 dL_law_1311 dL_law_1312 ?_
  refine L_call [.int (xs (j + 1)), .int (xs (j + 2)), .int (xs (j + 3)), .int (xs (j + 4))] [] calX11_early klL_136 (by decide) rfl rfl rfl rfl rfl (by decide) (by decide) dL_law_1313 ((P_early (d := 0) _ _ _ _ hI).mono (fun v σ1 h1 => ?_))
  obtain ⟨x, rfl, hM⟩ := h1
  refine L_m dL_law_1316 ?_
  refine L_arg 1 (n := 1) hi (by omega) hL0 rfl dL_law_1317 dL_law_1318 dL_law_1319 dL_law_1320 dL_law_1321 ?_
  refine L_arg 2 (n := 2) hi (by omega) hL0 rfl dL_law_1322 dL_law_1323 dL_law_1324 dL_law_1325 dL_law_1326 ?_
  refine L_arg 3 (n := 3) hi (by omega) hL0 rfl dL_law_1327 dL_law_1328 dL_law_1329 dL_law_1330 dL_law_1331 ?_
  refine L_arg 4 (n := 4) hi (by omega) hL0 rfl dL_law_1332 dL_law_1333 dL_law_1334 dL_law_1335 dL_law_1336 ?_
  refine L_call [.int (xs (j + 1)), .int (xs (j + 2)), .int (xs (j + 3)), .int (xs (j + 4))] [.int x] calX12_early klL_139 (by decide) rfl rfl rfl rfl rfl (Nat.le_of_ble_eq_true rfl) (by decide) dL_law_1337 (hM.mono (fun v σ2 h2 => ?_))
  obtain ⟨y, rfl, rfl, hI2⟩ := h2
  exact L_icmp_eq 1672 dL_law_1340 rfl (fun _ => k _ hI2) (fun h => absurd rfl h)
theorem G_30 (hi : i = nI j) (hj : j + 6 ≤ L) (hL0 : L < 2147483648) (hI : Inv σ) (k : ∀ σ', Inv σ' → JL Γ l b L xs 1672 i [] σ') : JL Γ l b L xs 1345 i [] σ := by
  refine L_x dL_law_1345 ?_
  refine L_arg 1 (n := 1) hi (by omega) hL0 rfl dL_law_1346 dL_law_1347 dL_law_1348 dL_law_1349 dL_law_1350 ?_
  refine L_arg 2 (n := 2) hi (by omega) hL0 rfl dL_law_1351 dL_law_1352 dL_law_1353 dL_law_1354 dL_law_1355 ?_
  refine L_arg 3 (n := 3) hi (by omega) hL0 rfl dL_law_1356 dL_law_1357 dL_law_1358 dL_law_1359 dL_law_1360 ?_
  refine L_arg 4 (n := 4) hi (by omega) hL0 rfl dL_law_1361 dL_law_1362 dL_law_1363 dL_law_1364 dL_law_1365 ?_
  refine L_call [.int (xs (j + 1)), .int (xs (j + 2)), .int (xs (j + 3)), .int (xs (j + 4))] [] calX11_waiting klL_140 (by decide) rfl rfl rfl rfl rfl (by decide) (by decide) dL_law_1366 ((P_waiting (d := 0) _ _ _ _ hI).mono (fun v σ1 h1 => ?_))
  obtain ⟨x, rfl, hM⟩ := h1
  refine L_m dL_law_1369 ?_
  refine L_arg 1 (n := 1) hi (by omega) hL0 rfl dL_law_1370 dL_law_1371 dL_law_1372 dL_law_1373 dL_law_1374 ?_
  refine L_arg 2 (n := 2) hi (by omega) hL0 rfl dL_law_1375 dL_law_1376 dL_law_1377 dL_law_1378 dL_law_1379 ?_
  refine L_arg 3 (n := 3) hi (by omega) hL0 rfl dL_law_1380 dL_law_1381 dL_law_1382 dL_law_1383 dL_law_1384 ?_
  refine L_arg 4 (n := 4) hi (by omega) hL0 rfl dL_law_1385 dL_law_1386 dL_law_1387 dL_law_1388 dL_law_1389 ?_
  refine L_call [.int (xs (j + 1)), .int (xs (j + 2)), .int (xs (j + 3)), .int (xs (j + 4))] [.int x] calX12_waiting klL_143 (by decide) rfl rfl rfl rfl rfl (Nat.le_of_ble_eq_true rfl) (by decide) dL_law_1390 (hM.mono (fun v σ2 h2 => ?_))
  obtain ⟨y, rfl, rfl, hI2⟩ := h2
  exact L_icmp_eq 1672 dL_law_1393 rfl (fun _ => k _ hI2) (fun h => absurd rfl h)
theorem G_31 (hi : i = nI j) (hj : j + 6 ≤ L) (hL0 : L < 2147483648) (hI : Inv σ) (k : ∀ σ', Inv σ' → JL Γ l b L xs 1672 i [] σ') : JL Γ l b L xs 1398 i [] σ := by
  refine L_x dL_law_1398 ?_
  refine L_arg 1 (n := 1) hi (by omega) hL0 rfl dL_law_1399 dL_law_1400 dL_law_1401 dL_law_1402 dL_law_1403 ?_
  refine L_arg 2 (n := 2) hi (by omega) hL0 rfl dL_law_1404 dL_law_1405 dL_law_1406 dL_law_1407 dL_law_1408 ?_
  refine L_call [.int (xs (j + 1)), .int (xs (j + 2))] [] calX11_kitchen klL_144 (by decide) rfl rfl rfl rfl rfl (by decide) (by decide) dL_law_1409 ((P_kitchen (d := 0) _ _ hI).mono (fun v σ1 h1 => ?_))
  obtain ⟨x, rfl, hM⟩ := h1
  refine L_m dL_law_1412 ?_
  refine L_arg 1 (n := 1) hi (by omega) hL0 rfl dL_law_1413 dL_law_1414 dL_law_1415 dL_law_1416 dL_law_1417 ?_
  refine L_arg 2 (n := 2) hi (by omega) hL0 rfl dL_law_1418 dL_law_1419 dL_law_1420 dL_law_1421 dL_law_1422 ?_
  refine L_call [.int (xs (j + 1)), .int (xs (j + 2))] [.int x] calX12_kitchen klL_147 (by decide) rfl rfl rfl rfl rfl (Nat.le_of_ble_eq_true rfl) (by decide) dL_law_1423 (hM.mono (fun v σ2 h2 => ?_))
  obtain ⟨y, rfl, rfl, hI2⟩ := h2
  exact L_icmp_eq 1672 dL_law_1426 rfl (fun _ => k _ hI2) (fun h => absurd rfl h)
theorem G_32 (hi : i = nI j) (hj : j + 6 ≤ L) (hL0 : L < 2147483648) (hI : Inv σ) (k : ∀ σ', Inv σ' → JL Γ l b L xs 1672 i [] σ') : JL Γ l b L xs 1431 i [] σ := by
  refine L_x dL_law_1431 ?_
  refine L_arg 1 (n := 1) hi (by omega) hL0 rfl dL_law_1432 dL_law_1433 dL_law_1434 dL_law_1435 dL_law_1436 ?_
  refine L_arg 2 (n := 2) hi (by omega) hL0 rfl dL_law_1437 dL_law_1438 dL_law_1439 dL_law_1440 dL_law_1441 ?_
  refine L_arg 3 (n := 3) hi (by omega) hL0 rfl dL_law_1442 dL_law_1443 dL_law_1444 dL_law_1445 dL_law_1446 ?_
  refine L_arg 4 (n := 4) hi (by omega) hL0 rfl dL_law_1447 dL_law_1448 dL_law_1449 dL_law_1450 dL_law_1451 ?_
  refine L_call [.int (xs (j + 1)), .int (xs (j + 2)), .int (xs (j + 3)), .int (xs (j + 4))] [] calX11_gift klL_148 (by decide) rfl rfl rfl rfl rfl (by decide) (by decide) dL_law_1452 ((P_gift (d := 0) _ _ _ _ hI).mono (fun v σ1 h1 => ?_))
  obtain ⟨x, rfl, hM⟩ := h1
  refine L_m dL_law_1455 ?_
  refine L_arg 1 (n := 1) hi (by omega) hL0 rfl dL_law_1456 dL_law_1457 dL_law_1458 dL_law_1459 dL_law_1460 ?_
  refine L_arg 2 (n := 2) hi (by omega) hL0 rfl dL_law_1461 dL_law_1462 dL_law_1463 dL_law_1464 dL_law_1465 ?_
  refine L_arg 3 (n := 3) hi (by omega) hL0 rfl dL_law_1466 dL_law_1467 dL_law_1468 dL_law_1469 dL_law_1470 ?_
  refine L_arg 4 (n := 4) hi (by omega) hL0 rfl dL_law_1471 dL_law_1472 dL_law_1473 dL_law_1474 dL_law_1475 ?_
  refine L_call [.int (xs (j + 1)), .int (xs (j + 2)), .int (xs (j + 3)), .int (xs (j + 4))] [.int x] calX12_gift klL_151 (by decide) rfl rfl rfl rfl rfl (Nat.le_of_ble_eq_true rfl) (by decide) dL_law_1476 (hM.mono (fun v σ2 h2 => ?_))
  obtain ⟨y, rfl, rfl, hI2⟩ := h2
  exact L_icmp_eq 1672 dL_law_1479 rfl (fun _ => k _ hI2) (fun h => absurd rfl h)
theorem G_33 (hi : i = nI j) (hj : j + 6 ≤ L) (hL0 : L < 2147483648) (hI : Inv σ) (k : ∀ σ', Inv σ' → JL Γ l b L xs 1672 i [] σ') : JL Γ l b L xs 1484 i [] σ := by
  refine L_x dL_law_1484 ?_
  refine L_arg 1 (n := 1) hi (by omega) hL0 rfl dL_law_1485 dL_law_1486 dL_law_1487 dL_law_1488 dL_law_1489 ?_
  refine L_arg 2 (n := 2) hi (by omega) hL0 rfl dL_law_1490 dL_law_1491 dL_law_1492 dL_law_1493 dL_law_1494 ?_
  refine L_arg 3 (n := 3) hi (by omega) hL0 rfl dL_law_1495 dL_law_1496 dL_law_1497 dL_law_1498 dL_law_1499 ?_
  refine L_call [.int (xs (j + 1)), .int (xs (j + 2)), .int (xs (j + 3))] [] calX11_bin klL_152 (by decide) rfl rfl rfl rfl rfl (by decide) (by decide) dL_law_1500 ((P_bin (d := 0) _ _ _ hI).mono (fun v σ1 h1 => ?_))
  obtain ⟨x, rfl, hM⟩ := h1
  refine L_m dL_law_1503 ?_
  refine L_arg 1 (n := 1) hi (by omega) hL0 rfl dL_law_1504 dL_law_1505 dL_law_1506 dL_law_1507 dL_law_1508 ?_
  refine L_arg 2 (n := 2) hi (by omega) hL0 rfl dL_law_1509 dL_law_1510 dL_law_1511 dL_law_1512 dL_law_1513 ?_
  refine L_arg 3 (n := 3) hi (by omega) hL0 rfl dL_law_1514 dL_law_1515 dL_law_1516 dL_law_1517 dL_law_1518 ?_
  refine L_call [.int (xs (j + 1)), .int (xs (j + 2)), .int (xs (j + 3))] [.int x] calX12_bin klL_155 (by decide) rfl rfl rfl rfl rfl (Nat.le_of_ble_eq_true rfl) (by decide) dL_law_1519 (hM.mono (fun v σ2 h2 => ?_))
  obtain ⟨y, rfl, rfl, hI2⟩ := h2
  exact L_icmp_eq 1672 dL_law_1522 rfl (fun _ => k _ hI2) (fun h => absurd rfl h)
theorem G_34 (hi : i = nI j) (hj : j + 6 ≤ L) (hL0 : L < 2147483648) (hI : Inv σ) (k : ∀ σ', Inv σ' → JL Γ l b L xs 1672 i [] σ') : JL Γ l b L xs 1527 i [] σ := by
  refine L_x dL_law_1527 ?_
  refine L_arg 1 (n := 1) hi (by omega) hL0 rfl dL_law_1528 dL_law_1529 dL_law_1530 dL_law_1531 dL_law_1532 ?_
  refine L_call [.int (xs (j + 1))] [] calX11_tossed klL_156 (by decide) rfl rfl rfl rfl rfl (by decide) (by decide) dL_law_1533 ((P_tossed (d := 0) _ hI).mono (fun v σ1 h1 => ?_))
  obtain ⟨x, rfl, hM⟩ := h1
  refine L_m dL_law_1536 ?_
  refine L_arg 1 (n := 1) hi (by omega) hL0 rfl dL_law_1537 dL_law_1538 dL_law_1539 dL_law_1540 dL_law_1541 ?_
  refine L_call [.int (xs (j + 1))] [.int x] calX12_tossed klL_159 (by decide) rfl rfl rfl rfl rfl (Nat.le_of_ble_eq_true rfl) (by decide) dL_law_1542 (hM.mono (fun v σ2 h2 => ?_))
  obtain ⟨y, rfl, rfl, hI2⟩ := h2
  exact L_icmp_eq 1672 dL_law_1545 rfl (fun _ => k _ hI2) (fun h => absurd rfl h)
theorem G_35 (hi : i = nI j) (hj : j + 6 ≤ L) (hL0 : L < 2147483648) (hI : Inv σ) (k : ∀ σ', Inv σ' → JL Γ l b L xs 1672 i [] σ') : JL Γ l b L xs 1550 i [] σ := by
  refine L_x dL_law_1550 ?_
  refine L_arg 1 (n := 1) hi (by omega) hL0 rfl dL_law_1551 dL_law_1552 dL_law_1553 dL_law_1554 dL_law_1555 ?_
  refine L_arg 2 (n := 2) hi (by omega) hL0 rfl dL_law_1556 dL_law_1557 dL_law_1558 dL_law_1559 dL_law_1560 ?_
  refine L_arg 3 (n := 3) hi (by omega) hL0 rfl dL_law_1561 dL_law_1562 dL_law_1563 dL_law_1564 dL_law_1565 ?_
  refine L_call [.int (xs (j + 1)), .int (xs (j + 2)), .int (xs (j + 3))] [] calX11_isBad klL_160 (by decide) rfl rfl rfl rfl rfl (by decide) (by decide) dL_law_1566 ((P_isBad (d := 0) _ _ _ hI).mono (fun v σ1 h1 => ?_))
  obtain ⟨x, rfl, hM⟩ := h1
  refine L_m dL_law_1569 ?_
  refine L_arg 1 (n := 1) hi (by omega) hL0 rfl dL_law_1570 dL_law_1571 dL_law_1572 dL_law_1573 dL_law_1574 ?_
  refine L_arg 2 (n := 2) hi (by omega) hL0 rfl dL_law_1575 dL_law_1576 dL_law_1577 dL_law_1578 dL_law_1579 ?_
  refine L_arg 3 (n := 3) hi (by omega) hL0 rfl dL_law_1580 dL_law_1581 dL_law_1582 dL_law_1583 dL_law_1584 ?_
  refine L_call [.int (xs (j + 1)), .int (xs (j + 2)), .int (xs (j + 3))] [.int x] calX12_isBad klL_163 (by decide) rfl rfl rfl rfl rfl (Nat.le_of_ble_eq_true rfl) (by decide) dL_law_1585 (hM.mono (fun v σ2 h2 => ?_))
  obtain ⟨y, rfl, rfl, hI2⟩ := h2
  exact L_icmp_eq 1672 dL_law_1588 rfl (fun _ => k _ hI2) (fun h => absurd rfl h)
theorem G_36 (hi : i = nI j) (hj : j + 6 ≤ L) (hL0 : L < 2147483648) (hI : Inv σ) (k : ∀ σ', Inv σ' → JL Γ l b L xs 1672 i [] σ') : JL Γ l b L xs 1593 i [] σ := by
  refine L_x dL_law_1593 ?_
  refine L_arg 1 (n := 1) hi (by omega) hL0 rfl dL_law_1594 dL_law_1595 dL_law_1596 dL_law_1597 dL_law_1598 ?_
  refine L_arg 2 (n := 2) hi (by omega) hL0 rfl dL_law_1599 dL_law_1600 dL_law_1601 dL_law_1602 dL_law_1603 ?_
  refine L_call [.int (xs (j + 1)), .int (xs (j + 2))] [] calX11_since klL_164 (by decide) rfl rfl rfl rfl rfl (by decide) (by decide) dL_law_1604 ((P_since (d := 0) _ _ hI).mono (fun v σ1 h1 => ?_))
  obtain ⟨x, rfl, hM⟩ := h1
  refine L_m dL_law_1607 ?_
  refine L_arg 1 (n := 1) hi (by omega) hL0 rfl dL_law_1608 dL_law_1609 dL_law_1610 dL_law_1611 dL_law_1612 ?_
  refine L_arg 2 (n := 2) hi (by omega) hL0 rfl dL_law_1613 dL_law_1614 dL_law_1615 dL_law_1616 dL_law_1617 ?_
  refine L_call [.int (xs (j + 1)), .int (xs (j + 2))] [.int x] calX12_since klL_167 (by decide) rfl rfl rfl rfl rfl (Nat.le_of_ble_eq_true rfl) (by decide) dL_law_1618 (hM.mono (fun v σ2 h2 => ?_))
  obtain ⟨y, rfl, rfl, hI2⟩ := h2
  exact L_icmp_eq 1672 dL_law_1621 rfl (fun _ => k _ hI2) (fun h => absurd rfl h)
theorem G_37 (hi : i = nI j) (hj : j + 6 ≤ L) (hL0 : L < 2147483648) (hI : Inv σ) (k : ∀ σ', Inv σ' → JL Γ l b L xs 1672 i [] σ') : JL Γ l b L xs 1626 i [] σ := by
  refine L_x dL_law_1626 ?_
  refine L_arg 1 (n := 1) hi (by omega) hL0 rfl dL_law_1627 dL_law_1628 dL_law_1629 dL_law_1630 dL_law_1631 ?_
  refine L_call [.int (xs (j + 1))] [] calX11_till klL_168 (by decide) rfl rfl rfl rfl rfl (by decide) (by decide) dL_law_1632 ((P_till (d := 0) _ hI).mono (fun v σ1 h1 => ?_))
  obtain ⟨x, rfl, hM⟩ := h1
  refine L_m dL_law_1635 ?_
  refine L_arg 1 (n := 1) hi (by omega) hL0 rfl dL_law_1636 dL_law_1637 dL_law_1638 dL_law_1639 dL_law_1640 ?_
  refine L_call [.int (xs (j + 1))] [.int x] calX12_till klL_171 (by decide) rfl rfl rfl rfl rfl (Nat.le_of_ble_eq_true rfl) (by decide) dL_law_1641 (hM.mono (fun v σ2 h2 => ?_))
  obtain ⟨y, rfl, rfl, hI2⟩ := h2
  exact L_icmp_eq 1672 dL_law_1644 rfl (fun _ => k _ hI2) (fun h => absurd rfl h)
theorem G_38 (hi : i = nI j) (hj : j + 6 ≤ L) (hL0 : L < 2147483648) (hI : Inv σ) (k : ∀ σ', Inv σ' → JL Γ l b L xs 1672 i [] σ') : JL Γ l b L xs 1649 i [] σ := by
  refine L_x dL_law_1649 ?_
  refine L_arg 1 (n := 1) hi (by omega) hL0 rfl dL_law_1650 dL_law_1651 dL_law_1652 dL_law_1653 dL_law_1654 ?_
  refine L_call [.int (xs (j + 1))] [] calX11_count klL_172 (by decide) rfl rfl rfl rfl rfl (by decide) (by decide) dL_law_1655 ((P_count (d := 0) _ hI).mono (fun v σ1 h1 => ?_))
  obtain ⟨x, rfl, hM⟩ := h1
  refine L_m dL_law_1658 ?_
  refine L_arg 1 (n := 1) hi (by omega) hL0 rfl dL_law_1659 dL_law_1660 dL_law_1661 dL_law_1662 dL_law_1663 ?_
  refine L_call [.int (xs (j + 1))] [.int x] calX12_count klL_175 (by decide) rfl rfl rfl rfl rfl (Nat.le_of_ble_eq_true rfl) (by decide) dL_law_1664 (hM.mono (fun v σ2 h2 => ?_))
  obtain ⟨y, rfl, rfl, hI2⟩ := h2
  exact L_icmp_eq 1672 dL_law_1667 rfl (fun _ => k _ hI2) (fun h => absurd rfl h)
end GC
section GL
variable {Γ : GG} {l : Launch} {b L : Nat} {xs : Nat → Int32}
theorem L_case {j t : Nat} {σ : St} (ht : t < 64) (hj : j + 6 ≤ L) (hL0 : L < 2147483648) (hI : Inv σ) (k : ∀ σ', Inv σ' → JL Γ l b L xs 1672 (nI j) [] σ') : JL Γ l b L xs 33 (nI j) [.int (nI t)] σ := by
  have e := ti_nI (n := t) (by omega)
  by_cases h : t < 39
  · clear e ht
    match t, h with
    | 0, _ => exact L_tableIn 204 dL_law_33 (by decide) (by decide) rfl rfl (G_0 rfl hj hL0 hI k)
    | 1, _ => exact L_tableIn 227 dL_law_33 (by decide) (by decide) rfl rfl (G_1 rfl hj hL0 hI k)
    | 2, _ => exact L_tableIn 280 dL_law_33 (by decide) (by decide) rfl rfl (G_2 rfl hj hL0 hI k)
    | 3, _ => exact L_tableIn 313 dL_law_33 (by decide) (by decide) rfl rfl (G_3 rfl hj hL0 hI k)
    | 4, _ => exact L_tableIn 346 dL_law_33 (by decide) (by decide) rfl rfl (G_4 rfl hj hL0 hI k)
    | 5, _ => exact L_tableIn 379 dL_law_33 (by decide) (by decide) rfl rfl (G_5 rfl hj hL0 hI k)
    | 6, _ => exact L_tableIn 402 dL_law_33 (by decide) (by decide) rfl rfl (G_6 rfl hj hL0 hI k)
    | 7, _ => exact L_tableIn 445 dL_law_33 (by decide) (by decide) rfl rfl (G_7 rfl hj hL0 hI k)
    | 8, _ => exact L_tableIn 478 dL_law_33 (by decide) (by decide) rfl rfl (G_8 rfl hj hL0 hI k)
    | 9, _ => exact L_tableIn 521 dL_law_33 (by decide) (by decide) rfl rfl (G_9 rfl hj hL0 hI k)
    | 10, _ => exact L_tableIn 574 dL_law_33 (by decide) (by decide) rfl rfl (G_10 rfl hj hL0 hI k)
    | 11, _ => exact L_tableIn 607 dL_law_33 (by decide) (by decide) rfl rfl (G_11 rfl hj hL0 hI k)
    | 12, _ => exact L_tableIn 650 dL_law_33 (by decide) (by decide) rfl rfl (G_12 rfl hj hL0 hI k)
    | 13, _ => exact L_tableIn 713 dL_law_33 (by decide) (by decide) rfl rfl (G_13 rfl hj hL0 hI k)
    | 14, _ => exact L_tableIn 736 dL_law_33 (by decide) (by decide) rfl rfl (G_14 rfl hj hL0 hI k)
    | 15, _ => exact L_tableIn 769 dL_law_33 (by decide) (by decide) rfl rfl (G_15 rfl hj hL0 hI k)
    | 16, _ => exact L_tableIn 812 dL_law_33 (by decide) (by decide) rfl rfl (G_16 rfl hj hL0 hI k)
    | 17, _ => exact L_tableIn 845 dL_law_33 (by decide) (by decide) rfl rfl (G_17 rfl hj hL0 hI k)
    | 18, _ => exact L_tableIn 888 dL_law_33 (by decide) (by decide) rfl rfl (G_18 rfl hj hL0 hI k)
    | 19, _ => exact L_tableIn 941 dL_law_33 (by decide) (by decide) rfl rfl (G_19 rfl hj hL0 hI k)
    | 20, _ => exact L_tableIn 974 dL_law_33 (by decide) (by decide) rfl rfl (G_20 rfl hj hL0 hI k)
    | 21, _ => exact L_tableIn 997 dL_law_33 (by decide) (by decide) rfl rfl (G_21 rfl hj hL0 hI k)
    | 22, _ => exact L_tableIn 1010 dL_law_33 (by decide) (by decide) rfl rfl (G_22 rfl hj hL0 hI k)
    | 23, _ => exact L_tableIn 1063 dL_law_33 (by decide) (by decide) rfl rfl (G_23 rfl hj hL0 hI k)
    | 24, _ => exact L_tableIn 1127 dL_law_33 (by decide) (by decide) rfl rfl (G_24 rfl hj hL0 hI k)
    | 25, _ => exact L_tableIn 1170 dL_law_33 (by decide) (by decide) rfl rfl (G_25 rfl hj hL0 hI k)
    | 26, _ => exact L_tableIn 1183 dL_law_33 (by decide) (by decide) rfl rfl (G_26 rfl hj hL0 hI k)
    | 27, _ => exact L_tableIn 1206 dL_law_33 (by decide) (by decide) rfl rfl (G_27 rfl hj hL0 hI k)
    | 28, _ => exact L_tableIn 1259 dL_law_33 (by decide) (by decide) rfl rfl (G_28 rfl hj hL0 hI k)
    | 29, _ => exact L_tableIn 1292 dL_law_33 (by decide) (by decide) rfl rfl (G_29 rfl hj hL0 hI k)
    | 30, _ => exact L_tableIn 1345 dL_law_33 (by decide) (by decide) rfl rfl (G_30 rfl hj hL0 hI k)
    | 31, _ => exact L_tableIn 1398 dL_law_33 (by decide) (by decide) rfl rfl (G_31 rfl hj hL0 hI k)
    | 32, _ => exact L_tableIn 1431 dL_law_33 (by decide) (by decide) rfl rfl (G_32 rfl hj hL0 hI k)
    | 33, _ => exact L_tableIn 1484 dL_law_33 (by decide) (by decide) rfl rfl (G_33 rfl hj hL0 hI k)
    | 34, _ => exact L_tableIn 1527 dL_law_33 (by decide) (by decide) rfl rfl (G_34 rfl hj hL0 hI k)
    | 35, _ => exact L_tableIn 1550 dL_law_33 (by decide) (by decide) rfl rfl (G_35 rfl hj hL0 hI k)
    | 36, _ => exact L_tableIn 1593 dL_law_33 (by decide) (by decide) rfl rfl (G_36 rfl hj hL0 hI k)
    | 37, _ => exact L_tableIn 1626 dL_law_33 (by decide) (by decide) rfl rfl (G_37 rfl hj hL0 hI k)
    | 38, _ => exact L_tableIn 1649 dL_law_33 (by decide) (by decide) rfl rfl (G_38 rfl hj hL0 hI k)
    | n + 39, h => exact absurd h (by omega)
  · exact L_tableOut 1672 dL_law_33 (Or.inr (by rw [e]; omega)) rfl (k _ hI)
theorem L_loop (hL : L ≤ 3072) : ∀ (g j : Nat) (σ : St), L ≤ j + g → j ≤ L → Inv σ → JL Γ l b L xs 18 (nI j) [] σ := by
  intro g
  induction g with
  | zero =>
    intro j σ h1 h2 hI
    have e1 := ti_nI (n := j) (by omega)
    have e2 := ti_nI (n := L) (by omega)
    have e3 : (6 : Int32).toInt = 6 := rfl
    refine L_iload dL_law_18 (L_s dL_law_19 (L_len dL_law_20 (L_bipush (v := 6) dL_law_21 rfl (L_isub dL_law_23 rfl ?_))))
    refine L_icmp_gt 1678 dL_law_24 rfl (fun _ => L_iconst (v := 1) dL_law_1678 rfl (L_ret dL_law_1679)) (fun h => absurd ?_ h)
    rw [ti_lt, ti_sub (by omega) (by omega), e1, e2, e3]
    omega
  | succ g ih =>
    intro j σ h1 h2 hI
    have e1 := ti_nI (n := j) (by omega)
    have e2 := ti_nI (n := L) (by omega)
    have e3 : (6 : Int32).toInt = 6 := rfl
    refine L_iload dL_law_18 (L_s dL_law_19 (L_len dL_law_20 (L_bipush (v := 6) dL_law_21 rfl (L_isub dL_law_23 rfl ?_))))
    refine L_icmp_gt 1678 dL_law_24 rfl (fun _ => L_iconst (v := 1) dL_law_1678 rfl (L_ret dL_law_1679)) (fun h => ?_)
    rw [ti_lt, ti_sub (by omega) (by omega), e1, e2, e3] at h
    have hj : j + 6 ≤ L := by omega
    refine L_s dL_law_27 (L_iload dL_law_28 (L_ld (by omega) (by omega) dL_law_29 (L_bipush (v := 63) dL_law_30 rfl ?_)))
    obtain ⟨t, ht, et⟩ := low6 (xs j)
    refine L_iand dL_law_32 et ?_
    refine L_case ht hj (by omega) hI (fun σ' hI' => ?_)
    exact L_iinc (v := nI (j + 6)) dL_law_1672 (nI_addn j 6) (L_goto (tgt := 18) dL_law_1675 rfl (ih (j + 6) σ' (by omega) (by omega) hI'))
end GL
