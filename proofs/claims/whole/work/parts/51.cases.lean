/-! THE 48 CASES OF THE LAW (printed by law.py) -/
theorem zl_303 : Cond.methodLink RL 13 yX6_row ∈ zT := zTi 303 (by decide +kernel) (by decide +kernel)
theorem zl_319 : Cond.methodLink RL 20 yX6_set ∈ zT := zTi 319 (by decide +kernel) (by decide +kernel)
theorem zl_342 : Cond.methodLink RL 25 yX6_copy ∈ zT := zTi 342 (by decide +kernel) (by decide +kernel)
theorem zl_355 : Cond.methodLink RL 30 yX6_element ∈ zT := zTi 355 (by decide +kernel) (by decide +kernel)
theorem zl_360 : Cond.methodLink RL 35 yX6_show ∈ zT := zTi 360 (by decide +kernel) (by decide +kernel)
theorem zl_376 : Cond.methodLink RL 40 yX6_holds ∈ zT := zTi 376 (by decide +kernel) (by decide +kernel)
theorem zl_384 : Cond.methodLink RL 45 yX6_says ∈ zT := zTi 384 (by decide +kernel) (by decide +kernel)
theorem zl_422 : Cond.methodLink RL 49 yX6_form ∈ zT := zTi 422 (by decide +kernel) (by decide +kernel)
theorem zl_439 : Cond.methodLink RL 53 yX6_formOf ∈ zT := zTi 439 (by decide +kernel) (by decide +kernel)
theorem zl_452 : Cond.methodLink RL 57 yX6_pane ∈ zT := zTi 452 (by decide +kernel) (by decide +kernel)
theorem zl_469 : Cond.methodLink RL 61 yX6_paneOf ∈ zT := zTi 469 (by decide +kernel) (by decide +kernel)
theorem zl_473 : Cond.methodLink RL 65 yX6_hang ∈ zT := zTi 473 (by decide +kernel) (by decide +kernel)
theorem zl_481 : Cond.methodLink RL 69 yX6_hangs ∈ zT := zTi 481 (by decide +kernel) (by decide +kernel)
theorem zl_489 : Cond.methodLink RL 73 yX6_ask ∈ zT := zTi 489 (by decide +kernel) (by decide +kernel)
theorem zl_503 : Cond.methodLink RL 77 yX6_room ∈ zT := zTi 503 (by decide +kernel) (by decide +kernel)
theorem zl_507 : Cond.methodLink RL 81 yX6_press ∈ zT := zTi 507 (by decide +kernel) (by decide +kernel)
theorem zl_640 : Cond.methodLink RL 85 yX6_fault ∈ zT := zTi 640 (by decide +kernel) (by decide +kernel)
theorem zl_644 : Cond.methodLink RL 90 yX6_melt ∈ zT := zTi 644 (by decide +kernel) (by decide +kernel)
theorem zl_648 : Cond.methodLink RL 94 yX6_ice ∈ zT := zTi 648 (by decide +kernel) (by decide +kernel)
theorem zl_717 : Cond.methodLink RL 99 yX6_shape ∈ zT := zTi 717 (by decide +kernel) (by decide +kernel)
theorem zl_722 : Cond.methodLink RL 103 yX6_reads ∈ zT := zTi 722 (by decide +kernel) (by decide +kernel)
theorem zl_735 : Cond.methodLink RL 107 yX6_readsAs ∈ zT := zTi 735 (by decide +kernel) (by decide +kernel)
theorem zl_739 : Cond.methodLink RL 111 yX6_lasts ∈ zT := zTi 739 (by decide +kernel) (by decide +kernel)
theorem zl_754 : Cond.methodLink RL 115 yX6_page ∈ zT := zTi 754 (by decide +kernel) (by decide +kernel)
theorem zl_763 : Cond.methodLink RL 119 yX6_prints ∈ zT := zTi 763 (by decide +kernel) (by decide +kernel)
theorem zl_798 : Cond.methodLink RL 123 yX6_becomes ∈ zT := zTi 798 (by decide +kernel) (by decide +kernel)
theorem zl_810 : Cond.methodLink RL 127 yX6_turns ∈ zT := zTi 810 (by decide +kernel) (by decide +kernel)
theorem zl_818 : Cond.methodLink RL 131 yX6_could ∈ zT := zTi 818 (by decide +kernel) (by decide +kernel)
theorem zl_826 : Cond.methodLink RL 135 yX6_unlike ∈ zT := zTi 826 (by decide +kernel) (by decide +kernel)
theorem zl_834 : Cond.methodLink RL 139 yX6_closest ∈ zT := zTi 834 (by decide +kernel) (by decide +kernel)
theorem zl_843 : Cond.methodLink RL 143 yX6_mend ∈ zT := zTi 843 (by decide +kernel) (by decide +kernel)
theorem zl_856 : Cond.methodLink RL 147 yX6_stove ∈ zT := zTi 856 (by decide +kernel) (by decide +kernel)
theorem zl_864 : Cond.methodLink RL 151 yX6_chill ∈ zT := zTi 864 (by decide +kernel) (by decide +kernel)
theorem zl_872 : Cond.methodLink RL 155 yX6_mistaken ∈ zT := zTi 872 (by decide +kernel) (by decide +kernel)
theorem zl_880 : Cond.methodLink RL 159 yX6_let ∈ zT := zTi 880 (by decide +kernel) (by decide +kernel)
theorem zl_896 : Cond.methodLink RL 163 yX6_night ∈ zT := zTi 896 (by decide +kernel) (by decide +kernel)
theorem zl_912 : Cond.methodLink RL 167 yX6_hours ∈ zT := zTi 912 (by decide +kernel) (by decide +kernel)
theorem zl_921 : Cond.methodLink RL 171 yX6_truth ∈ zT := zTi 921 (by decide +kernel) (by decide +kernel)
theorem zl_927 : Cond.methodLink RL 175 yX6_readOf ∈ zT := zTi 927 (by decide +kernel) (by decide +kernel)
theorem zl_931 : Cond.methodLink RL 179 yX6_breath ∈ zT := zTi 931 (by decide +kernel) (by decide +kernel)
theorem zl_939 : Cond.methodLink RL 183 yX6_scratch ∈ zT := zTi 939 (by decide +kernel) (by decide +kernel)
theorem zl_951 : Cond.methodLink RL 187 yX6_winter ∈ zT := zTi 951 (by decide +kernel) (by decide +kernel)
theorem zl_965 : Cond.methodLink RL 191 yX6_seed ∈ zT := zTi 965 (by decide +kernel) (by decide +kernel)
theorem zl_969 : Cond.methodLink RL 195 yX6_act ∈ zT := zTi 969 (by decide +kernel) (by decide +kernel)
theorem zl_1006 : Cond.methodLink RL 199 yX6_trace ∈ zT := zTi 1006 (by decide +kernel) (by decide +kernel)
theorem zl_1014 : Cond.methodLink RL 203 yX6_image ∈ zT := zTi 1014 (by decide +kernel) (by decide +kernel)
theorem zl_1018 : Cond.methodLink RL 207 yX6_restore ∈ zT := zTi 1018 (by decide +kernel) (by decide +kernel)
theorem zl_1022 : Cond.methodLink RL 211 yX6_status ∈ zT := zTi 1022 (by decide +kernel) (by decide +kernel)
theorem zl_1130 : Cond.methodLink RL 17 yX7_row ∈ zT := zTi 1130 (by decide +kernel) (by decide +kernel)
theorem zl_1141 : Cond.methodLink RL 24 yX7_set ∈ zT := zTi 1141 (by decide +kernel) (by decide +kernel)
theorem zl_1153 : Cond.methodLink RL 29 yX7_copy ∈ zT := zTi 1153 (by decide +kernel) (by decide +kernel)
theorem zl_1157 : Cond.methodLink RL 34 yX7_element ∈ zT := zTi 1157 (by decide +kernel) (by decide +kernel)
theorem zl_1161 : Cond.methodLink RL 39 yX7_show ∈ zT := zTi 1161 (by decide +kernel) (by decide +kernel)
theorem zl_1169 : Cond.methodLink RL 44 yX7_holds ∈ zT := zTi 1169 (by decide +kernel) (by decide +kernel)
theorem zl_1173 : Cond.methodLink RL 48 yX7_says ∈ zT := zTi 1173 (by decide +kernel) (by decide +kernel)
theorem zl_1192 : Cond.methodLink RL 52 yX7_form ∈ zT := zTi 1192 (by decide +kernel) (by decide +kernel)
theorem zl_1197 : Cond.methodLink RL 56 yX7_formOf ∈ zT := zTi 1197 (by decide +kernel) (by decide +kernel)
theorem zl_1205 : Cond.methodLink RL 60 yX7_pane ∈ zT := zTi 1205 (by decide +kernel) (by decide +kernel)
theorem zl_1209 : Cond.methodLink RL 64 yX7_paneOf ∈ zT := zTi 1209 (by decide +kernel) (by decide +kernel)
theorem zl_1213 : Cond.methodLink RL 68 yX7_hang ∈ zT := zTi 1213 (by decide +kernel) (by decide +kernel)
theorem zl_1217 : Cond.methodLink RL 72 yX7_hangs ∈ zT := zTi 1217 (by decide +kernel) (by decide +kernel)
theorem zl_1225 : Cond.methodLink RL 76 yX7_ask ∈ zT := zTi 1225 (by decide +kernel) (by decide +kernel)
theorem zl_1229 : Cond.methodLink RL 80 yX7_room ∈ zT := zTi 1229 (by decide +kernel) (by decide +kernel)
theorem zl_1233 : Cond.methodLink RL 84 yX7_press ∈ zT := zTi 1233 (by decide +kernel) (by decide +kernel)
theorem zl_1270 : Cond.methodLink RL 89 yX7_fault ∈ zT := zTi 1270 (by decide +kernel) (by decide +kernel)
theorem zl_1274 : Cond.methodLink RL 93 yX7_melt ∈ zT := zTi 1274 (by decide +kernel) (by decide +kernel)
theorem zl_1278 : Cond.methodLink RL 98 yX7_ice ∈ zT := zTi 1278 (by decide +kernel) (by decide +kernel)
theorem zl_1307 : Cond.methodLink RL 102 yX7_shape ∈ zT := zTi 1307 (by decide +kernel) (by decide +kernel)
theorem zl_1311 : Cond.methodLink RL 106 yX7_reads ∈ zT := zTi 1311 (by decide +kernel) (by decide +kernel)
theorem zl_1320 : Cond.methodLink RL 110 yX7_readsAs ∈ zT := zTi 1320 (by decide +kernel) (by decide +kernel)
theorem zl_1328 : Cond.methodLink RL 114 yX7_lasts ∈ zT := zTi 1328 (by decide +kernel) (by decide +kernel)
theorem zl_1332 : Cond.methodLink RL 118 yX7_page ∈ zT := zTi 1332 (by decide +kernel) (by decide +kernel)
theorem zl_1336 : Cond.methodLink RL 122 yX7_prints ∈ zT := zTi 1336 (by decide +kernel) (by decide +kernel)
theorem zl_1340 : Cond.methodLink RL 126 yX7_becomes ∈ zT := zTi 1340 (by decide +kernel) (by decide +kernel)
theorem zl_1344 : Cond.methodLink RL 130 yX7_turns ∈ zT := zTi 1344 (by decide +kernel) (by decide +kernel)
theorem zl_1348 : Cond.methodLink RL 134 yX7_could ∈ zT := zTi 1348 (by decide +kernel) (by decide +kernel)
theorem zl_1352 : Cond.methodLink RL 138 yX7_unlike ∈ zT := zTi 1352 (by decide +kernel) (by decide +kernel)
theorem zl_1356 : Cond.methodLink RL 142 yX7_closest ∈ zT := zTi 1356 (by decide +kernel) (by decide +kernel)
theorem zl_1360 : Cond.methodLink RL 146 yX7_mend ∈ zT := zTi 1360 (by decide +kernel) (by decide +kernel)
theorem zl_1364 : Cond.methodLink RL 150 yX7_stove ∈ zT := zTi 1364 (by decide +kernel) (by decide +kernel)
theorem zl_1368 : Cond.methodLink RL 154 yX7_chill ∈ zT := zTi 1368 (by decide +kernel) (by decide +kernel)
theorem zl_1372 : Cond.methodLink RL 158 yX7_mistaken ∈ zT := zTi 1372 (by decide +kernel) (by decide +kernel)
theorem zl_1376 : Cond.methodLink RL 162 yX7_let ∈ zT := zTi 1376 (by decide +kernel) (by decide +kernel)
theorem zl_1380 : Cond.methodLink RL 166 yX7_night ∈ zT := zTi 1380 (by decide +kernel) (by decide +kernel)
theorem zl_1384 : Cond.methodLink RL 170 yX7_hours ∈ zT := zTi 1384 (by decide +kernel) (by decide +kernel)
theorem zl_1392 : Cond.methodLink RL 174 yX7_truth ∈ zT := zTi 1392 (by decide +kernel) (by decide +kernel)
theorem zl_1396 : Cond.methodLink RL 178 yX7_readOf ∈ zT := zTi 1396 (by decide +kernel) (by decide +kernel)
theorem zl_1400 : Cond.methodLink RL 182 yX7_breath ∈ zT := zTi 1400 (by decide +kernel) (by decide +kernel)
theorem zl_1407 : Cond.methodLink RL 186 yX7_scratch ∈ zT := zTi 1407 (by decide +kernel) (by decide +kernel)
theorem zl_1411 : Cond.methodLink RL 190 yX7_winter ∈ zT := zTi 1411 (by decide +kernel) (by decide +kernel)
theorem zl_1421 : Cond.methodLink RL 194 yX7_seed ∈ zT := zTi 1421 (by decide +kernel) (by decide +kernel)
theorem zl_1425 : Cond.methodLink RL 198 yX7_act ∈ zT := zTi 1425 (by decide +kernel) (by decide +kernel)
theorem zl_1461 : Cond.methodLink RL 202 yX7_trace ∈ zT := zTi 1461 (by decide +kernel) (by decide +kernel)
theorem zl_1465 : Cond.methodLink RL 206 yX7_image ∈ zT := zTi 1465 (by decide +kernel) (by decide +kernel)
theorem zl_1469 : Cond.methodLink RL 210 yX7_restore ∈ zT := zTi 1469 (by decide +kernel) (by decide +kernel)
theorem zl_1473 : Cond.methodLink RL 214 yX7_status ∈ zT := zTi 1473 (by decide +kernel) (by decide +kernel)
theorem zl_1477 : Cond.constantLong RL 18 (4294967295) ∈ zT := zTi 1477 (by decide +kernel) (by decide +kernel)
theorem lcmp_self (x : Int64) : lg_cmp x x = 0 := by simp [lg_cmp]
section ZLC
variable {k : zK} {g : zG} {cs sl n : Nat} {xs : Nat → Int32}
theorem lc_row (X : zXl k g cs sl n xs) {i : Int32} (h1 : vp_in (i + 1) n) (h2 : vp_in (i + 2) n) (h3 : vp_in (i + 3) n) (h4 : vp_in (i + 4) n) (h5 : vp_in (i + 5) n) {I : zI} {L : zL} (hR : R I L) (nx : ∀ I2 L2, R I2 L2 → AG k g (PW g I2 L2) cs sl 4 1735 (lsL i) []) : AG k g (PW g I L) cs sl 4 240 (lsL i) [] := by
  refine ag_aload_n X.1 2 dL_law_240 rfl ?_
  refine al_arg X (v := 1) h1 (by decide) dL_law_241 dL_law_242 dL_law_243 dL_law_244 dL_law_245 ?_
  refine al_arg X (v := 2) h2 (by decide) dL_law_246 dL_law_247 dL_law_248 dL_law_249 dL_law_250 ?_
  refine al_arg X (v := 3) h3 (by decide) dL_law_251 dL_law_252 dL_law_253 dL_law_254 dL_law_255 ?_
  refine al_callV (recv := 1) (st := []) X.1 X.2.2.2.2.2.1 mf_X6_row zl_303 (sim_row _ _ _ (kl k) g I L hR) rfl rfl rfl (Nat.le_of_ble_eq_true rfl) (Nat.le_of_ble_eq_true rfl) dL_law_256 ?_
  rintro v I1 L1 ⟨r1, rfl, hC⟩
  show AG k g (PW g I1 L1) cs sl 4 259 (lsL i) [vI r1]
  refine ag_aload_n X.1 1 dL_law_259 rfl ?_
  refine al_arg X (v := 1) h1 (by decide) dL_law_260 dL_law_261 dL_law_262 dL_law_263 dL_law_264 ?_
  refine al_arg X (v := 2) h2 (by decide) dL_law_265 dL_law_266 dL_law_267 dL_law_268 dL_law_269 ?_
  refine al_arg X (v := 3) h3 (by decide) dL_law_270 dL_law_271 dL_law_272 dL_law_273 dL_law_274 ?_
  refine al_callV (recv := 87) (st := [vI r1]) X.1 X.2.2.2.2.2.1 mf_X7_row zl_1130 hC rfl rfl rfl (Nat.le_of_ble_eq_true rfl) (Nat.le_of_ble_eq_true rfl) dL_law_275 ?_
  rintro v2 I2 L2 ⟨r2, rfl, rfl, hR2⟩
  show AG k g (PW g I2 L2) cs sl 4 278 (lsL i) [vI r1, vI r1]
  exact ag_icmp_eq X.1 1735 dL_law_278 rfl (fun _ => nx I2 L2 hR2) (fun h => absurd rfl h)
theorem lc_set (X : zXl k g cs sl n xs) {i : Int32} (h1 : vp_in (i + 1) n) (h2 : vp_in (i + 2) n) (h3 : vp_in (i + 3) n) (h4 : vp_in (i + 4) n) (h5 : vp_in (i + 5) n) {I : zI} {L : zL} (hR : R I L) (nx : ∀ I2 L2, R I2 L2 → AG k g (PW g I2 L2) cs sl 4 1735 (lsL i) []) : AG k g (PW g I L) cs sl 4 283 (lsL i) [] := by
  refine ag_aload_n X.1 2 dL_law_283 rfl ?_
  refine al_arg X (v := 1) h1 (by decide) dL_law_284 dL_law_285 dL_law_286 dL_law_287 dL_law_288 ?_
  refine al_arg X (v := 2) h2 (by decide) dL_law_289 dL_law_290 dL_law_291 dL_law_292 dL_law_293 ?_
  refine al_arg X (v := 3) h3 (by decide) dL_law_294 dL_law_295 dL_law_296 dL_law_297 dL_law_298 ?_
  refine ag_i2l X.1 dL_law_299 ?_
  refine ag_bipush (v := 32) X.1 dL_law_300 (by decide) ?_
  refine ag_lshl X.1 dL_law_302 ?_
  refine al_arg X (v := 4) h4 (by decide) dL_law_303 dL_law_304 dL_law_305 dL_law_306 dL_law_307 ?_
  refine ag_i2l X.1 dL_law_308 ?_
  refine ag_ldc2 X.1 zl_1477 dL_law_309 ?_
  refine ag_land X.1 dL_law_312 ?_
  refine ag_lor X.1 dL_law_313 ?_
  refine al_callV (recv := 1) (st := []) X.1 X.2.2.2.2.2.1 mf_X6_set zl_319 (sim_set _ _ _ (kl k) g I L hR) rfl rfl rfl (Nat.le_of_ble_eq_true rfl) (Nat.le_of_ble_eq_true rfl) dL_law_314 ?_
  rintro v I1 L1 ⟨r1, rfl, hC⟩
  show AG k g (PW g I1 L1) cs sl 4 317 (lsL i) [vI r1]
  refine ag_aload_n X.1 1 dL_law_317 rfl ?_
  refine al_arg X (v := 1) h1 (by decide) dL_law_318 dL_law_319 dL_law_320 dL_law_321 dL_law_322 ?_
  refine al_arg X (v := 2) h2 (by decide) dL_law_323 dL_law_324 dL_law_325 dL_law_326 dL_law_327 ?_
  refine al_arg X (v := 3) h3 (by decide) dL_law_328 dL_law_329 dL_law_330 dL_law_331 dL_law_332 ?_
  refine ag_i2l X.1 dL_law_333 ?_
  refine ag_bipush (v := 32) X.1 dL_law_334 (by decide) ?_
  refine ag_lshl X.1 dL_law_336 ?_
  refine al_arg X (v := 4) h4 (by decide) dL_law_337 dL_law_338 dL_law_339 dL_law_340 dL_law_341 ?_
  refine ag_i2l X.1 dL_law_342 ?_
  refine ag_ldc2 X.1 zl_1477 dL_law_343 ?_
  refine ag_land X.1 dL_law_346 ?_
  refine ag_lor X.1 dL_law_347 ?_
  refine al_callV (recv := 87) (st := [vI r1]) X.1 X.2.2.2.2.2.1 mf_X7_set zl_1141 hC rfl rfl rfl (Nat.le_of_ble_eq_true rfl) (Nat.le_of_ble_eq_true rfl) dL_law_348 ?_
  rintro v2 I2 L2 ⟨r2, rfl, rfl, hR2⟩
  show AG k g (PW g I2 L2) cs sl 4 351 (lsL i) [vI r1, vI r1]
  exact ag_icmp_eq X.1 1735 dL_law_351 rfl (fun _ => nx I2 L2 hR2) (fun h => absurd rfl h)
theorem lc_copy (X : zXl k g cs sl n xs) {i : Int32} (h1 : vp_in (i + 1) n) (h2 : vp_in (i + 2) n) (h3 : vp_in (i + 3) n) (h4 : vp_in (i + 4) n) (h5 : vp_in (i + 5) n) {I : zI} {L : zL} (hR : R I L) (nx : ∀ I2 L2, R I2 L2 → AG k g (PW g I2 L2) cs sl 4 1735 (lsL i) []) : AG k g (PW g I L) cs sl 4 356 (lsL i) [] := by
  refine ag_aload_n X.1 2 dL_law_356 rfl ?_
  refine al_arg X (v := 1) h1 (by decide) dL_law_357 dL_law_358 dL_law_359 dL_law_360 dL_law_361 ?_
  refine al_arg X (v := 2) h2 (by decide) dL_law_362 dL_law_363 dL_law_364 dL_law_365 dL_law_366 ?_
  refine al_arg X (v := 3) h3 (by decide) dL_law_367 dL_law_368 dL_law_369 dL_law_370 dL_law_371 ?_
  refine al_arg X (v := 4) h4 (by decide) dL_law_372 dL_law_373 dL_law_374 dL_law_375 dL_law_376 ?_
  refine al_arg X (v := 5) h5 (by decide) dL_law_377 dL_law_378 dL_law_379 dL_law_380 dL_law_381 ?_
  refine al_callV (recv := 1) (st := []) X.1 X.2.2.2.2.2.1 mf_X6_copy zl_342 (sim_copy _ _ _ _ _ (kl k) g I L hR) rfl rfl rfl (Nat.le_of_ble_eq_true rfl) (Nat.le_of_ble_eq_true rfl) dL_law_382 ?_
  rintro v I1 L1 ⟨r1, rfl, hC⟩
  show AG k g (PW g I1 L1) cs sl 4 385 (lsL i) [vI r1]
  refine ag_aload_n X.1 1 dL_law_385 rfl ?_
  refine al_arg X (v := 1) h1 (by decide) dL_law_386 dL_law_387 dL_law_388 dL_law_389 dL_law_390 ?_
  refine al_arg X (v := 2) h2 (by decide) dL_law_391 dL_law_392 dL_law_393 dL_law_394 dL_law_395 ?_
  refine al_arg X (v := 3) h3 (by decide) dL_law_396 dL_law_397 dL_law_398 dL_law_399 dL_law_400 ?_
  refine al_arg X (v := 4) h4 (by decide) dL_law_401 dL_law_402 dL_law_403 dL_law_404 dL_law_405 ?_
  refine al_arg X (v := 5) h5 (by decide) dL_law_406 dL_law_407 dL_law_408 dL_law_409 dL_law_410 ?_
  refine al_callV (recv := 87) (st := [vI r1]) X.1 X.2.2.2.2.2.1 mf_X7_copy zl_1153 hC rfl rfl rfl (Nat.le_of_ble_eq_true rfl) (Nat.le_of_ble_eq_true rfl) dL_law_411 ?_
  rintro v2 I2 L2 ⟨r2, rfl, rfl, hR2⟩
  show AG k g (PW g I2 L2) cs sl 4 414 (lsL i) [vI r1, vI r1]
  exact ag_icmp_eq X.1 1735 dL_law_414 rfl (fun _ => nx I2 L2 hR2) (fun h => absurd rfl h)
theorem lc_element (X : zXl k g cs sl n xs) {i : Int32} (h1 : vp_in (i + 1) n) (h2 : vp_in (i + 2) n) (h3 : vp_in (i + 3) n) (h4 : vp_in (i + 4) n) (h5 : vp_in (i + 5) n) {I : zI} {L : zL} (hR : R I L) (nx : ∀ I2 L2, R I2 L2 → AG k g (PW g I2 L2) cs sl 4 1735 (lsL i) []) : AG k g (PW g I L) cs sl 4 419 (lsL i) [] := by
  refine ag_aload_n X.1 2 dL_law_419 rfl ?_
  refine al_arg X (v := 1) h1 (by decide) dL_law_420 dL_law_421 dL_law_422 dL_law_423 dL_law_424 ?_
  refine al_arg X (v := 2) h2 (by decide) dL_law_425 dL_law_426 dL_law_427 dL_law_428 dL_law_429 ?_
  refine al_callV (recv := 1) (st := []) X.1 X.2.2.2.2.2.1 mf_X6_element zl_355 (sim_element _ _ (kl k) g I L hR) rfl rfl rfl (Nat.le_of_ble_eq_true rfl) (Nat.le_of_ble_eq_true rfl) dL_law_430 ?_
  rintro v I1 L1 ⟨r1, rfl, hC⟩
  show AG k g (PW g I1 L1) cs sl 4 433 (lsL i) [vL r1]
  refine ag_aload_n X.1 1 dL_law_433 rfl ?_
  refine al_arg X (v := 1) h1 (by decide) dL_law_434 dL_law_435 dL_law_436 dL_law_437 dL_law_438 ?_
  refine al_arg X (v := 2) h2 (by decide) dL_law_439 dL_law_440 dL_law_441 dL_law_442 dL_law_443 ?_
  refine al_callV (recv := 87) (st := [vL r1]) X.1 X.2.2.2.2.2.1 mf_X7_element zl_1157 hC rfl rfl rfl (Nat.le_of_ble_eq_true rfl) (Nat.le_of_ble_eq_true rfl) dL_law_444 ?_
  rintro v2 I2 L2 ⟨r2, rfl, rfl, hR2⟩
  show AG k g (PW g I2 L2) cs sl 4 447 (lsL i) [vL r1, vL r1]
  refine ag_lcmp X.1 dL_law_447 ?_
  exact ag_if_eq X.1 1735 dL_law_448 rfl (fun _ => nx I2 L2 hR2) (fun h => absurd (lcmp_self r1) h)
theorem lc_show (X : zXl k g cs sl n xs) {i : Int32} (h1 : vp_in (i + 1) n) (h2 : vp_in (i + 2) n) (h3 : vp_in (i + 3) n) (h4 : vp_in (i + 4) n) (h5 : vp_in (i + 5) n) {I : zI} {L : zL} (hR : R I L) (nx : ∀ I2 L2, R I2 L2 → AG k g (PW g I2 L2) cs sl 4 1735 (lsL i) []) : AG k g (PW g I L) cs sl 4 453 (lsL i) [] := by
  refine ag_aload_n X.1 2 dL_law_453 rfl ?_
  refine al_arg X (v := 1) h1 (by decide) dL_law_454 dL_law_455 dL_law_456 dL_law_457 dL_law_458 ?_
  refine al_arg X (v := 2) h2 (by decide) dL_law_459 dL_law_460 dL_law_461 dL_law_462 dL_law_463 ?_
  refine al_callV (recv := 1) (st := []) X.1 X.2.2.2.2.2.1 mf_X6_show zl_360 (sim_show _ _ (kl k) g I L hR) rfl rfl rfl (Nat.le_of_ble_eq_true rfl) (Nat.le_of_ble_eq_true rfl) dL_law_464 ?_
  rintro v I1 L1 ⟨r1, rfl, hC⟩
  show AG k g (PW g I1 L1) cs sl 4 467 (lsL i) [vI r1]
  refine ag_aload_n X.1 1 dL_law_467 rfl ?_
  refine al_arg X (v := 1) h1 (by decide) dL_law_468 dL_law_469 dL_law_470 dL_law_471 dL_law_472 ?_
  refine al_arg X (v := 2) h2 (by decide) dL_law_473 dL_law_474 dL_law_475 dL_law_476 dL_law_477 ?_
  refine al_callV (recv := 87) (st := [vI r1]) X.1 X.2.2.2.2.2.1 mf_X7_show zl_1161 hC rfl rfl rfl (Nat.le_of_ble_eq_true rfl) (Nat.le_of_ble_eq_true rfl) dL_law_478 ?_
  rintro v2 I2 L2 ⟨r2, rfl, rfl, hR2⟩
  show AG k g (PW g I2 L2) cs sl 4 481 (lsL i) [vI r1, vI r1]
  exact ag_icmp_eq X.1 1735 dL_law_481 rfl (fun _ => nx I2 L2 hR2) (fun h => absurd rfl h)
theorem lc_holds (X : zXl k g cs sl n xs) {i : Int32} (h1 : vp_in (i + 1) n) (h2 : vp_in (i + 2) n) (h3 : vp_in (i + 3) n) (h4 : vp_in (i + 4) n) (h5 : vp_in (i + 5) n) {I : zI} {L : zL} (hR : R I L) (nx : ∀ I2 L2, R I2 L2 → AG k g (PW g I2 L2) cs sl 4 1735 (lsL i) []) : AG k g (PW g I L) cs sl 4 486 (lsL i) [] := by
  refine ag_aload_n X.1 2 dL_law_486 rfl ?_
  refine al_arg X (v := 1) h1 (by decide) dL_law_487 dL_law_488 dL_law_489 dL_law_490 dL_law_491 ?_
  refine al_callV (recv := 1) (st := []) X.1 X.2.2.2.2.2.1 mf_X6_holds zl_376 (sim_holds _ (kl k) g I L hR) rfl rfl rfl (Nat.le_of_ble_eq_true rfl) (Nat.le_of_ble_eq_true rfl) dL_law_492 ?_
  rintro v I1 L1 ⟨r1, rfl, hC⟩
  show AG k g (PW g I1 L1) cs sl 4 495 (lsL i) [vI r1]
  refine ag_aload_n X.1 1 dL_law_495 rfl ?_
  refine al_arg X (v := 1) h1 (by decide) dL_law_496 dL_law_497 dL_law_498 dL_law_499 dL_law_500 ?_
  refine al_callV (recv := 87) (st := [vI r1]) X.1 X.2.2.2.2.2.1 mf_X7_holds zl_1169 hC rfl rfl rfl (Nat.le_of_ble_eq_true rfl) (Nat.le_of_ble_eq_true rfl) dL_law_501 ?_
  rintro v2 I2 L2 ⟨r2, rfl, rfl, hR2⟩
  show AG k g (PW g I2 L2) cs sl 4 504 (lsL i) [vI r1, vI r1]
  exact ag_icmp_eq X.1 1735 dL_law_504 rfl (fun _ => nx I2 L2 hR2) (fun h => absurd rfl h)
theorem lc_says (X : zXl k g cs sl n xs) {i : Int32} (h1 : vp_in (i + 1) n) (h2 : vp_in (i + 2) n) (h3 : vp_in (i + 3) n) (h4 : vp_in (i + 4) n) (h5 : vp_in (i + 5) n) {I : zI} {L : zL} (hR : R I L) (nx : ∀ I2 L2, R I2 L2 → AG k g (PW g I2 L2) cs sl 4 1735 (lsL i) []) : AG k g (PW g I L) cs sl 4 509 (lsL i) [] := by
  refine ag_aload_n X.1 2 dL_law_509 rfl ?_
  refine al_arg X (v := 1) h1 (by decide) dL_law_510 dL_law_511 dL_law_512 dL_law_513 dL_law_514 ?_
  refine al_arg X (v := 2) h2 (by decide) dL_law_515 dL_law_516 dL_law_517 dL_law_518 dL_law_519 ?_
  refine al_callV (recv := 1) (st := []) X.1 X.2.2.2.2.2.1 mf_X6_says zl_384 (sim_says _ _ (kl k) g I L hR) rfl rfl rfl (Nat.le_of_ble_eq_true rfl) (Nat.le_of_ble_eq_true rfl) dL_law_520 ?_
  rintro v I1 L1 ⟨r1, rfl, hC⟩
  show AG k g (PW g I1 L1) cs sl 4 523 (lsL i) [vI r1]
  refine ag_aload_n X.1 1 dL_law_523 rfl ?_
  refine al_arg X (v := 1) h1 (by decide) dL_law_524 dL_law_525 dL_law_526 dL_law_527 dL_law_528 ?_
  refine al_arg X (v := 2) h2 (by decide) dL_law_529 dL_law_530 dL_law_531 dL_law_532 dL_law_533 ?_
  refine al_callV (recv := 87) (st := [vI r1]) X.1 X.2.2.2.2.2.1 mf_X7_says zl_1173 hC rfl rfl rfl (Nat.le_of_ble_eq_true rfl) (Nat.le_of_ble_eq_true rfl) dL_law_534 ?_
  rintro v2 I2 L2 ⟨r2, rfl, rfl, hR2⟩
  show AG k g (PW g I2 L2) cs sl 4 537 (lsL i) [vI r1, vI r1]
  exact ag_icmp_eq X.1 1735 dL_law_537 rfl (fun _ => nx I2 L2 hR2) (fun h => absurd rfl h)
theorem lc_form (X : zXl k g cs sl n xs) {i : Int32} (h1 : vp_in (i + 1) n) (h2 : vp_in (i + 2) n) (h3 : vp_in (i + 3) n) (h4 : vp_in (i + 4) n) (h5 : vp_in (i + 5) n) {I : zI} {L : zL} (hR : R I L) (nx : ∀ I2 L2, R I2 L2 → AG k g (PW g I2 L2) cs sl 4 1735 (lsL i) []) : AG k g (PW g I L) cs sl 4 542 (lsL i) [] := by
  refine ag_aload_n X.1 2 dL_law_542 rfl ?_
  refine al_arg X (v := 1) h1 (by decide) dL_law_543 dL_law_544 dL_law_545 dL_law_546 dL_law_547 ?_
  refine al_callV (recv := 1) (st := []) X.1 X.2.2.2.2.2.1 mf_X6_form zl_422 (sim_form _ (kl k) g I L hR) rfl rfl rfl (Nat.le_of_ble_eq_true rfl) (Nat.le_of_ble_eq_true rfl) dL_law_548 ?_
  rintro v I1 L1 ⟨r1, rfl, hC⟩
  show AG k g (PW g I1 L1) cs sl 4 551 (lsL i) [vI r1]
  refine ag_aload_n X.1 1 dL_law_551 rfl ?_
  refine al_arg X (v := 1) h1 (by decide) dL_law_552 dL_law_553 dL_law_554 dL_law_555 dL_law_556 ?_
  refine al_callV (recv := 87) (st := [vI r1]) X.1 X.2.2.2.2.2.1 mf_X7_form zl_1192 hC rfl rfl rfl (Nat.le_of_ble_eq_true rfl) (Nat.le_of_ble_eq_true rfl) dL_law_557 ?_
  rintro v2 I2 L2 ⟨r2, rfl, rfl, hR2⟩
  show AG k g (PW g I2 L2) cs sl 4 560 (lsL i) [vI r1, vI r1]
  exact ag_icmp_eq X.1 1735 dL_law_560 rfl (fun _ => nx I2 L2 hR2) (fun h => absurd rfl h)
theorem lc_formOf (X : zXl k g cs sl n xs) {i : Int32} (h1 : vp_in (i + 1) n) (h2 : vp_in (i + 2) n) (h3 : vp_in (i + 3) n) (h4 : vp_in (i + 4) n) (h5 : vp_in (i + 5) n) {I : zI} {L : zL} (hR : R I L) (nx : ∀ I2 L2, R I2 L2 → AG k g (PW g I2 L2) cs sl 4 1735 (lsL i) []) : AG k g (PW g I L) cs sl 4 565 (lsL i) [] := by
  refine ag_aload_n X.1 2 dL_law_565 rfl ?_
  refine al_arg X (v := 1) h1 (by decide) dL_law_566 dL_law_567 dL_law_568 dL_law_569 dL_law_570 ?_
  refine al_callV (recv := 1) (st := []) X.1 X.2.2.2.2.2.1 mf_X6_formOf zl_439 (sim_formOf _ (kl k) g I L hR) rfl rfl rfl (Nat.le_of_ble_eq_true rfl) (Nat.le_of_ble_eq_true rfl) dL_law_571 ?_
  rintro v I1 L1 ⟨r1, rfl, hC⟩
  show AG k g (PW g I1 L1) cs sl 4 574 (lsL i) [vI r1]
  refine ag_aload_n X.1 1 dL_law_574 rfl ?_
  refine al_arg X (v := 1) h1 (by decide) dL_law_575 dL_law_576 dL_law_577 dL_law_578 dL_law_579 ?_
  refine al_callV (recv := 87) (st := [vI r1]) X.1 X.2.2.2.2.2.1 mf_X7_formOf zl_1197 hC rfl rfl rfl (Nat.le_of_ble_eq_true rfl) (Nat.le_of_ble_eq_true rfl) dL_law_580 ?_
  rintro v2 I2 L2 ⟨r2, rfl, rfl, hR2⟩
  show AG k g (PW g I2 L2) cs sl 4 583 (lsL i) [vI r1, vI r1]
  exact ag_icmp_eq X.1 1735 dL_law_583 rfl (fun _ => nx I2 L2 hR2) (fun h => absurd rfl h)
theorem lc_pane (X : zXl k g cs sl n xs) {i : Int32} (h1 : vp_in (i + 1) n) (h2 : vp_in (i + 2) n) (h3 : vp_in (i + 3) n) (h4 : vp_in (i + 4) n) (h5 : vp_in (i + 5) n) {I : zI} {L : zL} (hR : R I L) (nx : ∀ I2 L2, R I2 L2 → AG k g (PW g I2 L2) cs sl 4 1735 (lsL i) []) : AG k g (PW g I L) cs sl 4 588 (lsL i) [] := by
  refine ag_aload_n X.1 2 dL_law_588 rfl ?_
  refine al_arg X (v := 1) h1 (by decide) dL_law_589 dL_law_590 dL_law_591 dL_law_592 dL_law_593 ?_
  refine al_arg X (v := 2) h2 (by decide) dL_law_594 dL_law_595 dL_law_596 dL_law_597 dL_law_598 ?_
  refine al_arg X (v := 3) h3 (by decide) dL_law_599 dL_law_600 dL_law_601 dL_law_602 dL_law_603 ?_
  refine al_callV (recv := 1) (st := []) X.1 X.2.2.2.2.2.1 mf_X6_pane zl_452 (sim_pane _ _ _ (kl k) g I L hR) rfl rfl rfl (Nat.le_of_ble_eq_true rfl) (Nat.le_of_ble_eq_true rfl) dL_law_604 ?_
  rintro v I1 L1 ⟨r1, rfl, hC⟩
  show AG k g (PW g I1 L1) cs sl 4 607 (lsL i) [vI r1]
  refine ag_aload_n X.1 1 dL_law_607 rfl ?_
  refine al_arg X (v := 1) h1 (by decide) dL_law_608 dL_law_609 dL_law_610 dL_law_611 dL_law_612 ?_
  refine al_arg X (v := 2) h2 (by decide) dL_law_613 dL_law_614 dL_law_615 dL_law_616 dL_law_617 ?_
  refine al_arg X (v := 3) h3 (by decide) dL_law_618 dL_law_619 dL_law_620 dL_law_621 dL_law_622 ?_
  refine al_callV (recv := 87) (st := [vI r1]) X.1 X.2.2.2.2.2.1 mf_X7_pane zl_1205 hC rfl rfl rfl (Nat.le_of_ble_eq_true rfl) (Nat.le_of_ble_eq_true rfl) dL_law_623 ?_
  rintro v2 I2 L2 ⟨r2, rfl, rfl, hR2⟩
  show AG k g (PW g I2 L2) cs sl 4 626 (lsL i) [vI r1, vI r1]
  exact ag_icmp_eq X.1 1735 dL_law_626 rfl (fun _ => nx I2 L2 hR2) (fun h => absurd rfl h)
theorem lc_paneOf (X : zXl k g cs sl n xs) {i : Int32} (h1 : vp_in (i + 1) n) (h2 : vp_in (i + 2) n) (h3 : vp_in (i + 3) n) (h4 : vp_in (i + 4) n) (h5 : vp_in (i + 5) n) {I : zI} {L : zL} (hR : R I L) (nx : ∀ I2 L2, R I2 L2 → AG k g (PW g I2 L2) cs sl 4 1735 (lsL i) []) : AG k g (PW g I L) cs sl 4 631 (lsL i) [] := by
  refine ag_aload_n X.1 2 dL_law_631 rfl ?_
  refine al_arg X (v := 1) h1 (by decide) dL_law_632 dL_law_633 dL_law_634 dL_law_635 dL_law_636 ?_
  refine al_arg X (v := 2) h2 (by decide) dL_law_637 dL_law_638 dL_law_639 dL_law_640 dL_law_641 ?_
  refine al_callV (recv := 1) (st := []) X.1 X.2.2.2.2.2.1 mf_X6_paneOf zl_469 (sim_paneOf _ _ (kl k) g I L hR) rfl rfl rfl (Nat.le_of_ble_eq_true rfl) (Nat.le_of_ble_eq_true rfl) dL_law_642 ?_
  rintro v I1 L1 ⟨r1, rfl, hC⟩
  show AG k g (PW g I1 L1) cs sl 4 645 (lsL i) [vI r1]
  refine ag_aload_n X.1 1 dL_law_645 rfl ?_
  refine al_arg X (v := 1) h1 (by decide) dL_law_646 dL_law_647 dL_law_648 dL_law_649 dL_law_650 ?_
  refine al_arg X (v := 2) h2 (by decide) dL_law_651 dL_law_652 dL_law_653 dL_law_654 dL_law_655 ?_
  refine al_callV (recv := 87) (st := [vI r1]) X.1 X.2.2.2.2.2.1 mf_X7_paneOf zl_1209 hC rfl rfl rfl (Nat.le_of_ble_eq_true rfl) (Nat.le_of_ble_eq_true rfl) dL_law_656 ?_
  rintro v2 I2 L2 ⟨r2, rfl, rfl, hR2⟩
  show AG k g (PW g I2 L2) cs sl 4 659 (lsL i) [vI r1, vI r1]
  exact ag_icmp_eq X.1 1735 dL_law_659 rfl (fun _ => nx I2 L2 hR2) (fun h => absurd rfl h)
theorem lc_hang (X : zXl k g cs sl n xs) {i : Int32} (h1 : vp_in (i + 1) n) (h2 : vp_in (i + 2) n) (h3 : vp_in (i + 3) n) (h4 : vp_in (i + 4) n) (h5 : vp_in (i + 5) n) {I : zI} {L : zL} (hR : R I L) (nx : ∀ I2 L2, R I2 L2 → AG k g (PW g I2 L2) cs sl 4 1735 (lsL i) []) : AG k g (PW g I L) cs sl 4 664 (lsL i) [] := by
  refine ag_aload_n X.1 2 dL_law_664 rfl ?_
  refine al_arg X (v := 1) h1 (by decide) dL_law_665 dL_law_666 dL_law_667 dL_law_668 dL_law_669 ?_
  refine al_arg X (v := 2) h2 (by decide) dL_law_670 dL_law_671 dL_law_672 dL_law_673 dL_law_674 ?_
  refine al_callV (recv := 1) (st := []) X.1 X.2.2.2.2.2.1 mf_X6_hang zl_473 (sim_hang _ _ (kl k) g I L hR) rfl rfl rfl (Nat.le_of_ble_eq_true rfl) (Nat.le_of_ble_eq_true rfl) dL_law_675 ?_
  rintro v I1 L1 ⟨r1, rfl, hC⟩
  show AG k g (PW g I1 L1) cs sl 4 678 (lsL i) [vI r1]
  refine ag_aload_n X.1 1 dL_law_678 rfl ?_
  refine al_arg X (v := 1) h1 (by decide) dL_law_679 dL_law_680 dL_law_681 dL_law_682 dL_law_683 ?_
  refine al_arg X (v := 2) h2 (by decide) dL_law_684 dL_law_685 dL_law_686 dL_law_687 dL_law_688 ?_
  refine al_callV (recv := 87) (st := [vI r1]) X.1 X.2.2.2.2.2.1 mf_X7_hang zl_1213 hC rfl rfl rfl (Nat.le_of_ble_eq_true rfl) (Nat.le_of_ble_eq_true rfl) dL_law_689 ?_
  rintro v2 I2 L2 ⟨r2, rfl, rfl, hR2⟩
  show AG k g (PW g I2 L2) cs sl 4 692 (lsL i) [vI r1, vI r1]
  exact ag_icmp_eq X.1 1735 dL_law_692 rfl (fun _ => nx I2 L2 hR2) (fun h => absurd rfl h)
theorem lc_hangs (X : zXl k g cs sl n xs) {i : Int32} (h1 : vp_in (i + 1) n) (h2 : vp_in (i + 2) n) (h3 : vp_in (i + 3) n) (h4 : vp_in (i + 4) n) (h5 : vp_in (i + 5) n) {I : zI} {L : zL} (hR : R I L) (nx : ∀ I2 L2, R I2 L2 → AG k g (PW g I2 L2) cs sl 4 1735 (lsL i) []) : AG k g (PW g I L) cs sl 4 697 (lsL i) [] := by
  refine ag_aload_n X.1 2 dL_law_697 rfl ?_
  refine al_arg X (v := 1) h1 (by decide) dL_law_698 dL_law_699 dL_law_700 dL_law_701 dL_law_702 ?_
  refine al_callV (recv := 1) (st := []) X.1 X.2.2.2.2.2.1 mf_X6_hangs zl_481 (sim_hangs _ (kl k) g I L hR) rfl rfl rfl (Nat.le_of_ble_eq_true rfl) (Nat.le_of_ble_eq_true rfl) dL_law_703 ?_
  rintro v I1 L1 ⟨r1, rfl, hC⟩
  show AG k g (PW g I1 L1) cs sl 4 706 (lsL i) [vI r1]
  refine ag_aload_n X.1 1 dL_law_706 rfl ?_
  refine al_arg X (v := 1) h1 (by decide) dL_law_707 dL_law_708 dL_law_709 dL_law_710 dL_law_711 ?_
  refine al_callV (recv := 87) (st := [vI r1]) X.1 X.2.2.2.2.2.1 mf_X7_hangs zl_1217 hC rfl rfl rfl (Nat.le_of_ble_eq_true rfl) (Nat.le_of_ble_eq_true rfl) dL_law_712 ?_
  rintro v2 I2 L2 ⟨r2, rfl, rfl, hR2⟩
  show AG k g (PW g I2 L2) cs sl 4 715 (lsL i) [vI r1, vI r1]
  exact ag_icmp_eq X.1 1735 dL_law_715 rfl (fun _ => nx I2 L2 hR2) (fun h => absurd rfl h)
theorem lc_ask (X : zXl k g cs sl n xs) {i : Int32} (h1 : vp_in (i + 1) n) (h2 : vp_in (i + 2) n) (h3 : vp_in (i + 3) n) (h4 : vp_in (i + 4) n) (h5 : vp_in (i + 5) n) {I : zI} {L : zL} (hR : R I L) (nx : ∀ I2 L2, R I2 L2 → AG k g (PW g I2 L2) cs sl 4 1735 (lsL i) []) : AG k g (PW g I L) cs sl 4 720 (lsL i) [] := by
  refine ag_aload_n X.1 2 dL_law_720 rfl ?_
  refine al_arg X (v := 1) h1 (by decide) dL_law_721 dL_law_722 dL_law_723 dL_law_724 dL_law_725 ?_
  refine al_arg X (v := 2) h2 (by decide) dL_law_726 dL_law_727 dL_law_728 dL_law_729 dL_law_730 ?_
  refine al_callV (recv := 1) (st := []) X.1 X.2.2.2.2.2.1 mf_X6_ask zl_489 (sim_ask _ _ (kl k) g I L hR) rfl rfl rfl (Nat.le_of_ble_eq_true rfl) (Nat.le_of_ble_eq_true rfl) dL_law_731 ?_
  rintro v I1 L1 ⟨r1, rfl, hC⟩
  show AG k g (PW g I1 L1) cs sl 4 734 (lsL i) [vI r1]
  refine ag_aload_n X.1 1 dL_law_734 rfl ?_
  refine al_arg X (v := 1) h1 (by decide) dL_law_735 dL_law_736 dL_law_737 dL_law_738 dL_law_739 ?_
  refine al_arg X (v := 2) h2 (by decide) dL_law_740 dL_law_741 dL_law_742 dL_law_743 dL_law_744 ?_
  refine al_callV (recv := 87) (st := [vI r1]) X.1 X.2.2.2.2.2.1 mf_X7_ask zl_1225 hC rfl rfl rfl (Nat.le_of_ble_eq_true rfl) (Nat.le_of_ble_eq_true rfl) dL_law_745 ?_
  rintro v2 I2 L2 ⟨r2, rfl, rfl, hR2⟩
  show AG k g (PW g I2 L2) cs sl 4 748 (lsL i) [vI r1, vI r1]
  exact ag_icmp_eq X.1 1735 dL_law_748 rfl (fun _ => nx I2 L2 hR2) (fun h => absurd rfl h)
theorem lc_room (X : zXl k g cs sl n xs) {i : Int32} (h1 : vp_in (i + 1) n) (h2 : vp_in (i + 2) n) (h3 : vp_in (i + 3) n) (h4 : vp_in (i + 4) n) (h5 : vp_in (i + 5) n) {I : zI} {L : zL} (hR : R I L) (nx : ∀ I2 L2, R I2 L2 → AG k g (PW g I2 L2) cs sl 4 1735 (lsL i) []) : AG k g (PW g I L) cs sl 4 753 (lsL i) [] := by
  refine ag_aload_n X.1 2 dL_law_753 rfl ?_
  refine al_arg X (v := 1) h1 (by decide) dL_law_754 dL_law_755 dL_law_756 dL_law_757 dL_law_758 ?_
  refine al_arg X (v := 2) h2 (by decide) dL_law_759 dL_law_760 dL_law_761 dL_law_762 dL_law_763 ?_
  refine al_callV (recv := 1) (st := []) X.1 X.2.2.2.2.2.1 mf_X6_room zl_503 (sim_room _ _ (kl k) g I L hR) rfl rfl rfl (Nat.le_of_ble_eq_true rfl) (Nat.le_of_ble_eq_true rfl) dL_law_764 ?_
  rintro v I1 L1 ⟨r1, rfl, hC⟩
  show AG k g (PW g I1 L1) cs sl 4 767 (lsL i) [vI r1]
  refine ag_aload_n X.1 1 dL_law_767 rfl ?_
  refine al_arg X (v := 1) h1 (by decide) dL_law_768 dL_law_769 dL_law_770 dL_law_771 dL_law_772 ?_
  refine al_arg X (v := 2) h2 (by decide) dL_law_773 dL_law_774 dL_law_775 dL_law_776 dL_law_777 ?_
  refine al_callV (recv := 87) (st := [vI r1]) X.1 X.2.2.2.2.2.1 mf_X7_room zl_1229 hC rfl rfl rfl (Nat.le_of_ble_eq_true rfl) (Nat.le_of_ble_eq_true rfl) dL_law_778 ?_
  rintro v2 I2 L2 ⟨r2, rfl, rfl, hR2⟩
  show AG k g (PW g I2 L2) cs sl 4 781 (lsL i) [vI r1, vI r1]
  exact ag_icmp_eq X.1 1735 dL_law_781 rfl (fun _ => nx I2 L2 hR2) (fun h => absurd rfl h)
theorem lc_press (X : zXl k g cs sl n xs) {i : Int32} (h1 : vp_in (i + 1) n) (h2 : vp_in (i + 2) n) (h3 : vp_in (i + 3) n) (h4 : vp_in (i + 4) n) (h5 : vp_in (i + 5) n) {I : zI} {L : zL} (hR : R I L) (nx : ∀ I2 L2, R I2 L2 → AG k g (PW g I2 L2) cs sl 4 1735 (lsL i) []) : AG k g (PW g I L) cs sl 4 786 (lsL i) [] := by
  refine ag_aload_n X.1 2 dL_law_786 rfl ?_
  refine al_arg X (v := 1) h1 (by decide) dL_law_787 dL_law_788 dL_law_789 dL_law_790 dL_law_791 ?_
  refine al_callV (recv := 1) (st := []) X.1 X.2.2.2.2.2.1 mf_X6_press zl_507 (sim_press _ (kl k) g I L hR) rfl rfl rfl (Nat.le_of_ble_eq_true rfl) (Nat.le_of_ble_eq_true rfl) dL_law_792 ?_
  rintro v I1 L1 ⟨r1, rfl, hC⟩
  show AG k g (PW g I1 L1) cs sl 4 795 (lsL i) [vI r1]
  refine ag_aload_n X.1 1 dL_law_795 rfl ?_
  refine al_arg X (v := 1) h1 (by decide) dL_law_796 dL_law_797 dL_law_798 dL_law_799 dL_law_800 ?_
  refine al_callV (recv := 87) (st := [vI r1]) X.1 X.2.2.2.2.2.1 mf_X7_press zl_1233 hC rfl rfl rfl (Nat.le_of_ble_eq_true rfl) (Nat.le_of_ble_eq_true rfl) dL_law_801 ?_
  rintro v2 I2 L2 ⟨r2, rfl, rfl, hR2⟩
  show AG k g (PW g I2 L2) cs sl 4 804 (lsL i) [vI r1, vI r1]
  exact ag_icmp_eq X.1 1735 dL_law_804 rfl (fun _ => nx I2 L2 hR2) (fun h => absurd rfl h)
theorem lc_fault (X : zXl k g cs sl n xs) {i : Int32} (h1 : vp_in (i + 1) n) (h2 : vp_in (i + 2) n) (h3 : vp_in (i + 3) n) (h4 : vp_in (i + 4) n) (h5 : vp_in (i + 5) n) {I : zI} {L : zL} (hR : R I L) (nx : ∀ I2 L2, R I2 L2 → AG k g (PW g I2 L2) cs sl 4 1735 (lsL i) []) : AG k g (PW g I L) cs sl 4 809 (lsL i) [] := by
  refine ag_aload_n X.1 2 dL_law_809 rfl ?_
  refine al_callV (recv := 1) (st := []) X.1 X.2.2.2.2.2.1 mf_X6_fault zl_640 (sim_fault (kl k) g I L hR) rfl rfl rfl (Nat.le_of_ble_eq_true rfl) (Nat.le_of_ble_eq_true rfl) dL_law_810 ?_
  rintro v I1 L1 ⟨r1, rfl, hC⟩
  show AG k g (PW g I1 L1) cs sl 4 813 (lsL i) [vI r1]
  refine ag_aload_n X.1 1 dL_law_813 rfl ?_
  refine al_callV (recv := 87) (st := [vI r1]) X.1 X.2.2.2.2.2.1 mf_X7_fault zl_1270 hC rfl rfl rfl (Nat.le_of_ble_eq_true rfl) (Nat.le_of_ble_eq_true rfl) dL_law_814 ?_
  rintro v2 I2 L2 ⟨r2, rfl, rfl, hR2⟩
  show AG k g (PW g I2 L2) cs sl 4 817 (lsL i) [vI r1, vI r1]
  exact ag_icmp_eq X.1 1735 dL_law_817 rfl (fun _ => nx I2 L2 hR2) (fun h => absurd rfl h)
theorem lc_melt (X : zXl k g cs sl n xs) {i : Int32} (h1 : vp_in (i + 1) n) (h2 : vp_in (i + 2) n) (h3 : vp_in (i + 3) n) (h4 : vp_in (i + 4) n) (h5 : vp_in (i + 5) n) {I : zI} {L : zL} (hR : R I L) (nx : ∀ I2 L2, R I2 L2 → AG k g (PW g I2 L2) cs sl 4 1735 (lsL i) []) : AG k g (PW g I L) cs sl 4 822 (lsL i) [] := by
  refine ag_aload_n X.1 2 dL_law_822 rfl ?_
  refine al_arg X (v := 1) h1 (by decide) dL_law_823 dL_law_824 dL_law_825 dL_law_826 dL_law_827 ?_
  refine al_arg X (v := 2) h2 (by decide) dL_law_828 dL_law_829 dL_law_830 dL_law_831 dL_law_832 ?_
  refine al_callV (recv := 1) (st := []) X.1 X.2.2.2.2.2.1 mf_X6_melt zl_644 (sim_melt _ _ (kl k) g I L hR) rfl rfl rfl (Nat.le_of_ble_eq_true rfl) (Nat.le_of_ble_eq_true rfl) dL_law_833 ?_
  rintro v I1 L1 ⟨r1, rfl, hC⟩
  show AG k g (PW g I1 L1) cs sl 4 836 (lsL i) [vI r1]
  refine ag_aload_n X.1 1 dL_law_836 rfl ?_
  refine al_arg X (v := 1) h1 (by decide) dL_law_837 dL_law_838 dL_law_839 dL_law_840 dL_law_841 ?_
  refine al_arg X (v := 2) h2 (by decide) dL_law_842 dL_law_843 dL_law_844 dL_law_845 dL_law_846 ?_
  refine al_callV (recv := 87) (st := [vI r1]) X.1 X.2.2.2.2.2.1 mf_X7_melt zl_1274 hC rfl rfl rfl (Nat.le_of_ble_eq_true rfl) (Nat.le_of_ble_eq_true rfl) dL_law_847 ?_
  rintro v2 I2 L2 ⟨r2, rfl, rfl, hR2⟩
  show AG k g (PW g I2 L2) cs sl 4 850 (lsL i) [vI r1, vI r1]
  exact ag_icmp_eq X.1 1735 dL_law_850 rfl (fun _ => nx I2 L2 hR2) (fun h => absurd rfl h)
theorem lc_ice (X : zXl k g cs sl n xs) {i : Int32} (h1 : vp_in (i + 1) n) (h2 : vp_in (i + 2) n) (h3 : vp_in (i + 3) n) (h4 : vp_in (i + 4) n) (h5 : vp_in (i + 5) n) {I : zI} {L : zL} (hR : R I L) (nx : ∀ I2 L2, R I2 L2 → AG k g (PW g I2 L2) cs sl 4 1735 (lsL i) []) : AG k g (PW g I L) cs sl 4 855 (lsL i) [] := by
  refine ag_aload_n X.1 2 dL_law_855 rfl ?_
  refine al_arg X (v := 1) h1 (by decide) dL_law_856 dL_law_857 dL_law_858 dL_law_859 dL_law_860 ?_
  refine al_arg X (v := 2) h2 (by decide) dL_law_861 dL_law_862 dL_law_863 dL_law_864 dL_law_865 ?_
  refine al_arg X (v := 3) h3 (by decide) dL_law_866 dL_law_867 dL_law_868 dL_law_869 dL_law_870 ?_
  refine al_arg X (v := 4) h4 (by decide) dL_law_871 dL_law_872 dL_law_873 dL_law_874 dL_law_875 ?_
  refine al_callV (recv := 1) (st := []) X.1 X.2.2.2.2.2.1 mf_X6_ice zl_648 (sim_ice _ _ _ _ (kl k) g I L hR) rfl rfl rfl (Nat.le_of_ble_eq_true rfl) (Nat.le_of_ble_eq_true rfl) dL_law_876 ?_
  rintro v I1 L1 ⟨r1, rfl, hC⟩
  show AG k g (PW g I1 L1) cs sl 4 879 (lsL i) [vI r1]
  refine ag_aload_n X.1 1 dL_law_879 rfl ?_
  refine al_arg X (v := 1) h1 (by decide) dL_law_880 dL_law_881 dL_law_882 dL_law_883 dL_law_884 ?_
  refine al_arg X (v := 2) h2 (by decide) dL_law_885 dL_law_886 dL_law_887 dL_law_888 dL_law_889 ?_
  refine al_arg X (v := 3) h3 (by decide) dL_law_890 dL_law_891 dL_law_892 dL_law_893 dL_law_894 ?_
  refine al_arg X (v := 4) h4 (by decide) dL_law_895 dL_law_896 dL_law_897 dL_law_898 dL_law_899 ?_
  refine al_callV (recv := 87) (st := [vI r1]) X.1 X.2.2.2.2.2.1 mf_X7_ice zl_1278 hC rfl rfl rfl (Nat.le_of_ble_eq_true rfl) (Nat.le_of_ble_eq_true rfl) dL_law_900 ?_
  rintro v2 I2 L2 ⟨r2, rfl, rfl, hR2⟩
  show AG k g (PW g I2 L2) cs sl 4 903 (lsL i) [vI r1, vI r1]
  exact ag_icmp_eq X.1 1735 dL_law_903 rfl (fun _ => nx I2 L2 hR2) (fun h => absurd rfl h)
theorem lc_shape (X : zXl k g cs sl n xs) {i : Int32} (h1 : vp_in (i + 1) n) (h2 : vp_in (i + 2) n) (h3 : vp_in (i + 3) n) (h4 : vp_in (i + 4) n) (h5 : vp_in (i + 5) n) {I : zI} {L : zL} (hR : R I L) (nx : ∀ I2 L2, R I2 L2 → AG k g (PW g I2 L2) cs sl 4 1735 (lsL i) []) : AG k g (PW g I L) cs sl 4 908 (lsL i) [] := by
  refine ag_aload_n X.1 2 dL_law_908 rfl ?_
  refine al_arg X (v := 1) h1 (by decide) dL_law_909 dL_law_910 dL_law_911 dL_law_912 dL_law_913 ?_
  refine al_arg X (v := 2) h2 (by decide) dL_law_914 dL_law_915 dL_law_916 dL_law_917 dL_law_918 ?_
  refine al_arg X (v := 3) h3 (by decide) dL_law_919 dL_law_920 dL_law_921 dL_law_922 dL_law_923 ?_
  refine al_callV (recv := 1) (st := []) X.1 X.2.2.2.2.2.1 mf_X6_shape zl_717 (sim_shape _ _ _ (kl k) g I L hR) rfl rfl rfl (Nat.le_of_ble_eq_true rfl) (Nat.le_of_ble_eq_true rfl) dL_law_924 ?_
  rintro v I1 L1 ⟨r1, rfl, hC⟩
  show AG k g (PW g I1 L1) cs sl 4 927 (lsL i) [vI r1]
  refine ag_aload_n X.1 1 dL_law_927 rfl ?_
  refine al_arg X (v := 1) h1 (by decide) dL_law_928 dL_law_929 dL_law_930 dL_law_931 dL_law_932 ?_
  refine al_arg X (v := 2) h2 (by decide) dL_law_933 dL_law_934 dL_law_935 dL_law_936 dL_law_937 ?_
  refine al_arg X (v := 3) h3 (by decide) dL_law_938 dL_law_939 dL_law_940 dL_law_941 dL_law_942 ?_
  refine al_callV (recv := 87) (st := [vI r1]) X.1 X.2.2.2.2.2.1 mf_X7_shape zl_1307 hC rfl rfl rfl (Nat.le_of_ble_eq_true rfl) (Nat.le_of_ble_eq_true rfl) dL_law_943 ?_
  rintro v2 I2 L2 ⟨r2, rfl, rfl, hR2⟩
  show AG k g (PW g I2 L2) cs sl 4 946 (lsL i) [vI r1, vI r1]
  exact ag_icmp_eq X.1 1735 dL_law_946 rfl (fun _ => nx I2 L2 hR2) (fun h => absurd rfl h)
theorem lc_reads (X : zXl k g cs sl n xs) {i : Int32} (h1 : vp_in (i + 1) n) (h2 : vp_in (i + 2) n) (h3 : vp_in (i + 3) n) (h4 : vp_in (i + 4) n) (h5 : vp_in (i + 5) n) {I : zI} {L : zL} (hR : R I L) (nx : ∀ I2 L2, R I2 L2 → AG k g (PW g I2 L2) cs sl 4 1735 (lsL i) []) : AG k g (PW g I L) cs sl 4 951 (lsL i) [] := by
  refine ag_aload_n X.1 2 dL_law_951 rfl ?_
  refine al_arg X (v := 1) h1 (by decide) dL_law_952 dL_law_953 dL_law_954 dL_law_955 dL_law_956 ?_
  refine al_callV (recv := 1) (st := []) X.1 X.2.2.2.2.2.1 mf_X6_reads zl_722 (sim_reads _ (kl k) g I L hR) rfl rfl rfl (Nat.le_of_ble_eq_true rfl) (Nat.le_of_ble_eq_true rfl) dL_law_957 ?_
  rintro v I1 L1 ⟨r1, rfl, hC⟩
  show AG k g (PW g I1 L1) cs sl 4 960 (lsL i) [vI r1]
  refine ag_aload_n X.1 1 dL_law_960 rfl ?_
  refine al_arg X (v := 1) h1 (by decide) dL_law_961 dL_law_962 dL_law_963 dL_law_964 dL_law_965 ?_
  refine al_callV (recv := 87) (st := [vI r1]) X.1 X.2.2.2.2.2.1 mf_X7_reads zl_1311 hC rfl rfl rfl (Nat.le_of_ble_eq_true rfl) (Nat.le_of_ble_eq_true rfl) dL_law_966 ?_
  rintro v2 I2 L2 ⟨r2, rfl, rfl, hR2⟩
  show AG k g (PW g I2 L2) cs sl 4 969 (lsL i) [vI r1, vI r1]
  exact ag_icmp_eq X.1 1735 dL_law_969 rfl (fun _ => nx I2 L2 hR2) (fun h => absurd rfl h)
theorem lc_readsAs (X : zXl k g cs sl n xs) {i : Int32} (h1 : vp_in (i + 1) n) (h2 : vp_in (i + 2) n) (h3 : vp_in (i + 3) n) (h4 : vp_in (i + 4) n) (h5 : vp_in (i + 5) n) {I : zI} {L : zL} (hR : R I L) (nx : ∀ I2 L2, R I2 L2 → AG k g (PW g I2 L2) cs sl 4 1735 (lsL i) []) : AG k g (PW g I L) cs sl 4 974 (lsL i) [] := by
  refine ag_aload_n X.1 2 dL_law_974 rfl ?_
  refine al_arg X (v := 1) h1 (by decide) dL_law_975 dL_law_976 dL_law_977 dL_law_978 dL_law_979 ?_
  refine al_arg X (v := 2) h2 (by decide) dL_law_980 dL_law_981 dL_law_982 dL_law_983 dL_law_984 ?_
  refine al_arg X (v := 3) h3 (by decide) dL_law_985 dL_law_986 dL_law_987 dL_law_988 dL_law_989 ?_
  refine al_callV (recv := 1) (st := []) X.1 X.2.2.2.2.2.1 mf_X6_readsAs zl_735 (sim_readsAs _ _ _ (kl k) g I L hR) rfl rfl rfl (Nat.le_of_ble_eq_true rfl) (Nat.le_of_ble_eq_true rfl) dL_law_990 ?_
  rintro v I1 L1 ⟨r1, rfl, hC⟩
  show AG k g (PW g I1 L1) cs sl 4 993 (lsL i) [vI r1]
  refine ag_aload_n X.1 1 dL_law_993 rfl ?_
  refine al_arg X (v := 1) h1 (by decide) dL_law_994 dL_law_995 dL_law_996 dL_law_997 dL_law_998 ?_
  refine al_arg X (v := 2) h2 (by decide) dL_law_999 dL_law_1000 dL_law_1001 dL_law_1002 dL_law_1003 ?_
  refine al_arg X (v := 3) h3 (by decide) dL_law_1004 dL_law_1005 dL_law_1006 dL_law_1007 dL_law_1008 ?_
  refine al_callV (recv := 87) (st := [vI r1]) X.1 X.2.2.2.2.2.1 mf_X7_readsAs zl_1320 hC rfl rfl rfl (Nat.le_of_ble_eq_true rfl) (Nat.le_of_ble_eq_true rfl) dL_law_1009 ?_
  rintro v2 I2 L2 ⟨r2, rfl, rfl, hR2⟩
  show AG k g (PW g I2 L2) cs sl 4 1012 (lsL i) [vI r1, vI r1]
  exact ag_icmp_eq X.1 1735 dL_law_1012 rfl (fun _ => nx I2 L2 hR2) (fun h => absurd rfl h)
theorem lc_lasts (X : zXl k g cs sl n xs) {i : Int32} (h1 : vp_in (i + 1) n) (h2 : vp_in (i + 2) n) (h3 : vp_in (i + 3) n) (h4 : vp_in (i + 4) n) (h5 : vp_in (i + 5) n) {I : zI} {L : zL} (hR : R I L) (nx : ∀ I2 L2, R I2 L2 → AG k g (PW g I2 L2) cs sl 4 1735 (lsL i) []) : AG k g (PW g I L) cs sl 4 1017 (lsL i) [] := by
  refine ag_aload_n X.1 2 dL_law_1017 rfl ?_
  refine al_arg X (v := 1) h1 (by decide) dL_law_1018 dL_law_1019 dL_law_1020 dL_law_1021 dL_law_1022 ?_
  refine al_arg X (v := 2) h2 (by decide) dL_law_1023 dL_law_1024 dL_law_1025 dL_law_1026 dL_law_1027 ?_
  refine al_callV (recv := 1) (st := []) X.1 X.2.2.2.2.2.1 mf_X6_lasts zl_739 (sim_lasts _ _ (kl k) g I L hR) rfl rfl rfl (Nat.le_of_ble_eq_true rfl) (Nat.le_of_ble_eq_true rfl) dL_law_1028 ?_
  rintro v I1 L1 ⟨r1, rfl, hC⟩
  show AG k g (PW g I1 L1) cs sl 4 1031 (lsL i) [vI r1]
  refine ag_aload_n X.1 1 dL_law_1031 rfl ?_
  refine al_arg X (v := 1) h1 (by decide) dL_law_1032 dL_law_1033 dL_law_1034 dL_law_1035 dL_law_1036 ?_
  refine al_arg X (v := 2) h2 (by decide) dL_law_1037 dL_law_1038 dL_law_1039 dL_law_1040 dL_law_1041 ?_
  refine al_callV (recv := 87) (st := [vI r1]) X.1 X.2.2.2.2.2.1 mf_X7_lasts zl_1328 hC rfl rfl rfl (Nat.le_of_ble_eq_true rfl) (Nat.le_of_ble_eq_true rfl) dL_law_1042 ?_
  rintro v2 I2 L2 ⟨r2, rfl, rfl, hR2⟩
  show AG k g (PW g I2 L2) cs sl 4 1045 (lsL i) [vI r1, vI r1]
  exact ag_icmp_eq X.1 1735 dL_law_1045 rfl (fun _ => nx I2 L2 hR2) (fun h => absurd rfl h)
theorem lc_page (X : zXl k g cs sl n xs) {i : Int32} (h1 : vp_in (i + 1) n) (h2 : vp_in (i + 2) n) (h3 : vp_in (i + 3) n) (h4 : vp_in (i + 4) n) (h5 : vp_in (i + 5) n) {I : zI} {L : zL} (hR : R I L) (nx : ∀ I2 L2, R I2 L2 → AG k g (PW g I2 L2) cs sl 4 1735 (lsL i) []) : AG k g (PW g I L) cs sl 4 1050 (lsL i) [] := by
  refine ag_aload_n X.1 2 dL_law_1050 rfl ?_
  refine al_arg X (v := 1) h1 (by decide) dL_law_1051 dL_law_1052 dL_law_1053 dL_law_1054 dL_law_1055 ?_
  refine al_callV (recv := 1) (st := []) X.1 X.2.2.2.2.2.1 mf_X6_page zl_754 (sim_page _ (kl k) g I L hR) rfl rfl rfl (Nat.le_of_ble_eq_true rfl) (Nat.le_of_ble_eq_true rfl) dL_law_1056 ?_
  rintro v I1 L1 ⟨r1, rfl, hC⟩
  show AG k g (PW g I1 L1) cs sl 4 1059 (lsL i) [vI r1]
  refine ag_aload_n X.1 1 dL_law_1059 rfl ?_
  refine al_arg X (v := 1) h1 (by decide) dL_law_1060 dL_law_1061 dL_law_1062 dL_law_1063 dL_law_1064 ?_
  refine al_callV (recv := 87) (st := [vI r1]) X.1 X.2.2.2.2.2.1 mf_X7_page zl_1332 hC rfl rfl rfl (Nat.le_of_ble_eq_true rfl) (Nat.le_of_ble_eq_true rfl) dL_law_1065 ?_
  rintro v2 I2 L2 ⟨r2, rfl, rfl, hR2⟩
  show AG k g (PW g I2 L2) cs sl 4 1068 (lsL i) [vI r1, vI r1]
  exact ag_icmp_eq X.1 1735 dL_law_1068 rfl (fun _ => nx I2 L2 hR2) (fun h => absurd rfl h)
theorem lc_prints (X : zXl k g cs sl n xs) {i : Int32} (h1 : vp_in (i + 1) n) (h2 : vp_in (i + 2) n) (h3 : vp_in (i + 3) n) (h4 : vp_in (i + 4) n) (h5 : vp_in (i + 5) n) {I : zI} {L : zL} (hR : R I L) (nx : ∀ I2 L2, R I2 L2 → AG k g (PW g I2 L2) cs sl 4 1735 (lsL i) []) : AG k g (PW g I L) cs sl 4 1073 (lsL i) [] := by
  refine ag_aload_n X.1 2 dL_law_1073 rfl ?_
  refine al_arg X (v := 1) h1 (by decide) dL_law_1074 dL_law_1075 dL_law_1076 dL_law_1077 dL_law_1078 ?_
  refine al_arg X (v := 2) h2 (by decide) dL_law_1079 dL_law_1080 dL_law_1081 dL_law_1082 dL_law_1083 ?_
  refine al_arg X (v := 3) h3 (by decide) dL_law_1084 dL_law_1085 dL_law_1086 dL_law_1087 dL_law_1088 ?_
  refine al_arg X (v := 4) h4 (by decide) dL_law_1089 dL_law_1090 dL_law_1091 dL_law_1092 dL_law_1093 ?_
  refine al_callV (recv := 1) (st := []) X.1 X.2.2.2.2.2.1 mf_X6_prints zl_763 (sim_prints _ _ _ _ (kl k) g I L hR) rfl rfl rfl (Nat.le_of_ble_eq_true rfl) (Nat.le_of_ble_eq_true rfl) dL_law_1094 ?_
  rintro v I1 L1 ⟨r1, rfl, hC⟩
  show AG k g (PW g I1 L1) cs sl 4 1097 (lsL i) [vI r1]
  refine ag_aload_n X.1 1 dL_law_1097 rfl ?_
  refine al_arg X (v := 1) h1 (by decide) dL_law_1098 dL_law_1099 dL_law_1100 dL_law_1101 dL_law_1102 ?_
  refine al_arg X (v := 2) h2 (by decide) dL_law_1103 dL_law_1104 dL_law_1105 dL_law_1106 dL_law_1107 ?_
  refine al_arg X (v := 3) h3 (by decide) dL_law_1108 dL_law_1109 dL_law_1110 dL_law_1111 dL_law_1112 ?_
  refine al_arg X (v := 4) h4 (by decide) dL_law_1113 dL_law_1114 dL_law_1115 dL_law_1116 dL_law_1117 ?_
  refine al_callV (recv := 87) (st := [vI r1]) X.1 X.2.2.2.2.2.1 mf_X7_prints zl_1336 hC rfl rfl rfl (Nat.le_of_ble_eq_true rfl) (Nat.le_of_ble_eq_true rfl) dL_law_1118 ?_
  rintro v2 I2 L2 ⟨r2, rfl, rfl, hR2⟩
  show AG k g (PW g I2 L2) cs sl 4 1121 (lsL i) [vI r1, vI r1]
  exact ag_icmp_eq X.1 1735 dL_law_1121 rfl (fun _ => nx I2 L2 hR2) (fun h => absurd rfl h)
theorem lc_becomes (X : zXl k g cs sl n xs) {i : Int32} (h1 : vp_in (i + 1) n) (h2 : vp_in (i + 2) n) (h3 : vp_in (i + 3) n) (h4 : vp_in (i + 4) n) (h5 : vp_in (i + 5) n) {I : zI} {L : zL} (hR : R I L) (nx : ∀ I2 L2, R I2 L2 → AG k g (PW g I2 L2) cs sl 4 1735 (lsL i) []) : AG k g (PW g I L) cs sl 4 1126 (lsL i) [] := by
  refine ag_aload_n X.1 2 dL_law_1126 rfl ?_
  refine al_arg X (v := 1) h1 (by decide) dL_law_1127 dL_law_1128 dL_law_1129 dL_law_1130 dL_law_1131 ?_
  refine al_callV (recv := 1) (st := []) X.1 X.2.2.2.2.2.1 mf_X6_becomes zl_798 (sim_becomes _ (kl k) g I L hR) rfl rfl rfl (Nat.le_of_ble_eq_true rfl) (Nat.le_of_ble_eq_true rfl) dL_law_1132 ?_
  rintro v I1 L1 ⟨r1, rfl, hC⟩
  show AG k g (PW g I1 L1) cs sl 4 1135 (lsL i) [vI r1]
  refine ag_aload_n X.1 1 dL_law_1135 rfl ?_
  refine al_arg X (v := 1) h1 (by decide) dL_law_1136 dL_law_1137 dL_law_1138 dL_law_1139 dL_law_1140 ?_
  refine al_callV (recv := 87) (st := [vI r1]) X.1 X.2.2.2.2.2.1 mf_X7_becomes zl_1340 hC rfl rfl rfl (Nat.le_of_ble_eq_true rfl) (Nat.le_of_ble_eq_true rfl) dL_law_1141 ?_
  rintro v2 I2 L2 ⟨r2, rfl, rfl, hR2⟩
  show AG k g (PW g I2 L2) cs sl 4 1144 (lsL i) [vI r1, vI r1]
  exact ag_icmp_eq X.1 1735 dL_law_1144 rfl (fun _ => nx I2 L2 hR2) (fun h => absurd rfl h)
theorem lc_turns (X : zXl k g cs sl n xs) {i : Int32} (h1 : vp_in (i + 1) n) (h2 : vp_in (i + 2) n) (h3 : vp_in (i + 3) n) (h4 : vp_in (i + 4) n) (h5 : vp_in (i + 5) n) {I : zI} {L : zL} (hR : R I L) (nx : ∀ I2 L2, R I2 L2 → AG k g (PW g I2 L2) cs sl 4 1735 (lsL i) []) : AG k g (PW g I L) cs sl 4 1149 (lsL i) [] := by
  refine ag_aload_n X.1 2 dL_law_1149 rfl ?_
  refine al_arg X (v := 1) h1 (by decide) dL_law_1150 dL_law_1151 dL_law_1152 dL_law_1153 dL_law_1154 ?_
  refine al_arg X (v := 2) h2 (by decide) dL_law_1155 dL_law_1156 dL_law_1157 dL_law_1158 dL_law_1159 ?_
  refine al_arg X (v := 3) h3 (by decide) dL_law_1160 dL_law_1161 dL_law_1162 dL_law_1163 dL_law_1164 ?_
  refine al_callV (recv := 1) (st := []) X.1 X.2.2.2.2.2.1 mf_X6_turns zl_810 (sim_turns _ _ _ (kl k) g I L hR) rfl rfl rfl (Nat.le_of_ble_eq_true rfl) (Nat.le_of_ble_eq_true rfl) dL_law_1165 ?_
  rintro v I1 L1 ⟨r1, rfl, hC⟩
  show AG k g (PW g I1 L1) cs sl 4 1168 (lsL i) [vI r1]
  refine ag_aload_n X.1 1 dL_law_1168 rfl ?_
  refine al_arg X (v := 1) h1 (by decide) dL_law_1169 dL_law_1170 dL_law_1171 dL_law_1172 dL_law_1173 ?_
  refine al_arg X (v := 2) h2 (by decide) dL_law_1174 dL_law_1175 dL_law_1176 dL_law_1177 dL_law_1178 ?_
  refine al_arg X (v := 3) h3 (by decide) dL_law_1179 dL_law_1180 dL_law_1181 dL_law_1182 dL_law_1183 ?_
  refine al_callV (recv := 87) (st := [vI r1]) X.1 X.2.2.2.2.2.1 mf_X7_turns zl_1344 hC rfl rfl rfl (Nat.le_of_ble_eq_true rfl) (Nat.le_of_ble_eq_true rfl) dL_law_1184 ?_
  rintro v2 I2 L2 ⟨r2, rfl, rfl, hR2⟩
  show AG k g (PW g I2 L2) cs sl 4 1187 (lsL i) [vI r1, vI r1]
  exact ag_icmp_eq X.1 1735 dL_law_1187 rfl (fun _ => nx I2 L2 hR2) (fun h => absurd rfl h)
theorem lc_could (X : zXl k g cs sl n xs) {i : Int32} (h1 : vp_in (i + 1) n) (h2 : vp_in (i + 2) n) (h3 : vp_in (i + 3) n) (h4 : vp_in (i + 4) n) (h5 : vp_in (i + 5) n) {I : zI} {L : zL} (hR : R I L) (nx : ∀ I2 L2, R I2 L2 → AG k g (PW g I2 L2) cs sl 4 1735 (lsL i) []) : AG k g (PW g I L) cs sl 4 1192 (lsL i) [] := by
  refine ag_aload_n X.1 2 dL_law_1192 rfl ?_
  refine al_arg X (v := 1) h1 (by decide) dL_law_1193 dL_law_1194 dL_law_1195 dL_law_1196 dL_law_1197 ?_
  refine al_arg X (v := 2) h2 (by decide) dL_law_1198 dL_law_1199 dL_law_1200 dL_law_1201 dL_law_1202 ?_
  refine al_arg X (v := 3) h3 (by decide) dL_law_1203 dL_law_1204 dL_law_1205 dL_law_1206 dL_law_1207 ?_
  refine al_callV (recv := 1) (st := []) X.1 X.2.2.2.2.2.1 mf_X6_could zl_818 (sim_could _ _ _ (kl k) g I L hR) rfl rfl rfl (Nat.le_of_ble_eq_true rfl) (Nat.le_of_ble_eq_true rfl) dL_law_1208 ?_
  rintro v I1 L1 ⟨r1, rfl, hC⟩
  show AG k g (PW g I1 L1) cs sl 4 1211 (lsL i) [vI r1]
  refine ag_aload_n X.1 1 dL_law_1211 rfl ?_
  refine al_arg X (v := 1) h1 (by decide) dL_law_1212 dL_law_1213 dL_law_1214 dL_law_1215 dL_law_1216 ?_
  refine al_arg X (v := 2) h2 (by decide) dL_law_1217 dL_law_1218 dL_law_1219 dL_law_1220 dL_law_1221 ?_
  refine al_arg X (v := 3) h3 (by decide) dL_law_1222 dL_law_1223 dL_law_1224 dL_law_1225 dL_law_1226 ?_
  refine al_callV (recv := 87) (st := [vI r1]) X.1 X.2.2.2.2.2.1 mf_X7_could zl_1348 hC rfl rfl rfl (Nat.le_of_ble_eq_true rfl) (Nat.le_of_ble_eq_true rfl) dL_law_1227 ?_
  rintro v2 I2 L2 ⟨r2, rfl, rfl, hR2⟩
  show AG k g (PW g I2 L2) cs sl 4 1230 (lsL i) [vI r1, vI r1]
  exact ag_icmp_eq X.1 1735 dL_law_1230 rfl (fun _ => nx I2 L2 hR2) (fun h => absurd rfl h)
theorem lc_unlike (X : zXl k g cs sl n xs) {i : Int32} (h1 : vp_in (i + 1) n) (h2 : vp_in (i + 2) n) (h3 : vp_in (i + 3) n) (h4 : vp_in (i + 4) n) (h5 : vp_in (i + 5) n) {I : zI} {L : zL} (hR : R I L) (nx : ∀ I2 L2, R I2 L2 → AG k g (PW g I2 L2) cs sl 4 1735 (lsL i) []) : AG k g (PW g I L) cs sl 4 1235 (lsL i) [] := by
  refine ag_aload_n X.1 2 dL_law_1235 rfl ?_
  refine al_arg X (v := 1) h1 (by decide) dL_law_1236 dL_law_1237 dL_law_1238 dL_law_1239 dL_law_1240 ?_
  refine al_arg X (v := 2) h2 (by decide) dL_law_1241 dL_law_1242 dL_law_1243 dL_law_1244 dL_law_1245 ?_
  refine al_callV (recv := 1) (st := []) X.1 X.2.2.2.2.2.1 mf_X6_unlike zl_826 (sim_unlike _ _ (kl k) g I L hR) rfl rfl rfl (Nat.le_of_ble_eq_true rfl) (Nat.le_of_ble_eq_true rfl) dL_law_1246 ?_
  rintro v I1 L1 ⟨r1, rfl, hC⟩
  show AG k g (PW g I1 L1) cs sl 4 1249 (lsL i) [vI r1]
  refine ag_aload_n X.1 1 dL_law_1249 rfl ?_
  refine al_arg X (v := 1) h1 (by decide) dL_law_1250 dL_law_1251 dL_law_1252 dL_law_1253 dL_law_1254 ?_
  refine al_arg X (v := 2) h2 (by decide) dL_law_1255 dL_law_1256 dL_law_1257 dL_law_1258 dL_law_1259 ?_
  refine al_callV (recv := 87) (st := [vI r1]) X.1 X.2.2.2.2.2.1 mf_X7_unlike zl_1352 hC rfl rfl rfl (Nat.le_of_ble_eq_true rfl) (Nat.le_of_ble_eq_true rfl) dL_law_1260 ?_
  rintro v2 I2 L2 ⟨r2, rfl, rfl, hR2⟩
  show AG k g (PW g I2 L2) cs sl 4 1263 (lsL i) [vI r1, vI r1]
  exact ag_icmp_eq X.1 1735 dL_law_1263 rfl (fun _ => nx I2 L2 hR2) (fun h => absurd rfl h)
theorem lc_closest (X : zXl k g cs sl n xs) {i : Int32} (h1 : vp_in (i + 1) n) (h2 : vp_in (i + 2) n) (h3 : vp_in (i + 3) n) (h4 : vp_in (i + 4) n) (h5 : vp_in (i + 5) n) {I : zI} {L : zL} (hR : R I L) (nx : ∀ I2 L2, R I2 L2 → AG k g (PW g I2 L2) cs sl 4 1735 (lsL i) []) : AG k g (PW g I L) cs sl 4 1268 (lsL i) [] := by
  refine ag_aload_n X.1 2 dL_law_1268 rfl ?_
  refine al_callV (recv := 1) (st := []) X.1 X.2.2.2.2.2.1 mf_X6_closest zl_834 (sim_closest (kl k) g I L hR) rfl rfl rfl (Nat.le_of_ble_eq_true rfl) (Nat.le_of_ble_eq_true rfl) dL_law_1269 ?_
  rintro v I1 L1 ⟨r1, rfl, hC⟩
  show AG k g (PW g I1 L1) cs sl 4 1272 (lsL i) [vI r1]
  refine ag_aload_n X.1 1 dL_law_1272 rfl ?_
  refine al_callV (recv := 87) (st := [vI r1]) X.1 X.2.2.2.2.2.1 mf_X7_closest zl_1356 hC rfl rfl rfl (Nat.le_of_ble_eq_true rfl) (Nat.le_of_ble_eq_true rfl) dL_law_1273 ?_
  rintro v2 I2 L2 ⟨r2, rfl, rfl, hR2⟩
  show AG k g (PW g I2 L2) cs sl 4 1276 (lsL i) [vI r1, vI r1]
  exact ag_icmp_eq X.1 1735 dL_law_1276 rfl (fun _ => nx I2 L2 hR2) (fun h => absurd rfl h)
theorem lc_mend (X : zXl k g cs sl n xs) {i : Int32} (h1 : vp_in (i + 1) n) (h2 : vp_in (i + 2) n) (h3 : vp_in (i + 3) n) (h4 : vp_in (i + 4) n) (h5 : vp_in (i + 5) n) {I : zI} {L : zL} (hR : R I L) (nx : ∀ I2 L2, R I2 L2 → AG k g (PW g I2 L2) cs sl 4 1735 (lsL i) []) : AG k g (PW g I L) cs sl 4 1281 (lsL i) [] := by
  refine ag_aload_n X.1 2 dL_law_1281 rfl ?_
  refine al_arg X (v := 1) h1 (by decide) dL_law_1282 dL_law_1283 dL_law_1284 dL_law_1285 dL_law_1286 ?_
  refine al_callV (recv := 1) (st := []) X.1 X.2.2.2.2.2.1 mf_X6_mend zl_843 (sim_mend _ (kl k) g I L hR) rfl rfl rfl (Nat.le_of_ble_eq_true rfl) (Nat.le_of_ble_eq_true rfl) dL_law_1287 ?_
  rintro v I1 L1 ⟨r1, rfl, hC⟩
  show AG k g (PW g I1 L1) cs sl 4 1290 (lsL i) [vI r1]
  refine ag_aload_n X.1 1 dL_law_1290 rfl ?_
  refine al_arg X (v := 1) h1 (by decide) dL_law_1291 dL_law_1292 dL_law_1293 dL_law_1294 dL_law_1295 ?_
  refine al_callV (recv := 87) (st := [vI r1]) X.1 X.2.2.2.2.2.1 mf_X7_mend zl_1360 hC rfl rfl rfl (Nat.le_of_ble_eq_true rfl) (Nat.le_of_ble_eq_true rfl) dL_law_1296 ?_
  rintro v2 I2 L2 ⟨r2, rfl, rfl, hR2⟩
  show AG k g (PW g I2 L2) cs sl 4 1299 (lsL i) [vI r1, vI r1]
  exact ag_icmp_eq X.1 1735 dL_law_1299 rfl (fun _ => nx I2 L2 hR2) (fun h => absurd rfl h)
theorem lc_stove (X : zXl k g cs sl n xs) {i : Int32} (h1 : vp_in (i + 1) n) (h2 : vp_in (i + 2) n) (h3 : vp_in (i + 3) n) (h4 : vp_in (i + 4) n) (h5 : vp_in (i + 5) n) {I : zI} {L : zL} (hR : R I L) (nx : ∀ I2 L2, R I2 L2 → AG k g (PW g I2 L2) cs sl 4 1735 (lsL i) []) : AG k g (PW g I L) cs sl 4 1304 (lsL i) [] := by
  refine ag_aload_n X.1 2 dL_law_1304 rfl ?_
  refine al_arg X (v := 1) h1 (by decide) dL_law_1305 dL_law_1306 dL_law_1307 dL_law_1308 dL_law_1309 ?_
  refine al_arg X (v := 2) h2 (by decide) dL_law_1310 dL_law_1311 dL_law_1312 dL_law_1313 dL_law_1314 ?_
  refine al_arg X (v := 3) h3 (by decide) dL_law_1315 dL_law_1316 dL_law_1317 dL_law_1318 dL_law_1319 ?_
  refine al_callV (recv := 1) (st := []) X.1 X.2.2.2.2.2.1 mf_X6_stove zl_856 (sim_stove _ _ _ (kl k) g I L hR) rfl rfl rfl (Nat.le_of_ble_eq_true rfl) (Nat.le_of_ble_eq_true rfl) dL_law_1320 ?_
  rintro v I1 L1 ⟨r1, rfl, hC⟩
  show AG k g (PW g I1 L1) cs sl 4 1323 (lsL i) [vI r1]
  refine ag_aload_n X.1 1 dL_law_1323 rfl ?_
  refine al_arg X (v := 1) h1 (by decide) dL_law_1324 dL_law_1325 dL_law_1326 dL_law_1327 dL_law_1328 ?_
  refine al_arg X (v := 2) h2 (by decide) dL_law_1329 dL_law_1330 dL_law_1331 dL_law_1332 dL_law_1333 ?_
  refine al_arg X (v := 3) h3 (by decide) dL_law_1334 dL_law_1335 dL_law_1336 dL_law_1337 dL_law_1338 ?_
  refine al_callV (recv := 87) (st := [vI r1]) X.1 X.2.2.2.2.2.1 mf_X7_stove zl_1364 hC rfl rfl rfl (Nat.le_of_ble_eq_true rfl) (Nat.le_of_ble_eq_true rfl) dL_law_1339 ?_
  rintro v2 I2 L2 ⟨r2, rfl, rfl, hR2⟩
  show AG k g (PW g I2 L2) cs sl 4 1342 (lsL i) [vI r1, vI r1]
  exact ag_icmp_eq X.1 1735 dL_law_1342 rfl (fun _ => nx I2 L2 hR2) (fun h => absurd rfl h)
theorem lc_chill (X : zXl k g cs sl n xs) {i : Int32} (h1 : vp_in (i + 1) n) (h2 : vp_in (i + 2) n) (h3 : vp_in (i + 3) n) (h4 : vp_in (i + 4) n) (h5 : vp_in (i + 5) n) {I : zI} {L : zL} (hR : R I L) (nx : ∀ I2 L2, R I2 L2 → AG k g (PW g I2 L2) cs sl 4 1735 (lsL i) []) : AG k g (PW g I L) cs sl 4 1347 (lsL i) [] := by
  refine ag_aload_n X.1 2 dL_law_1347 rfl ?_
  refine al_arg X (v := 1) h1 (by decide) dL_law_1348 dL_law_1349 dL_law_1350 dL_law_1351 dL_law_1352 ?_
  refine al_arg X (v := 2) h2 (by decide) dL_law_1353 dL_law_1354 dL_law_1355 dL_law_1356 dL_law_1357 ?_
  refine al_arg X (v := 3) h3 (by decide) dL_law_1358 dL_law_1359 dL_law_1360 dL_law_1361 dL_law_1362 ?_
  refine al_callV (recv := 1) (st := []) X.1 X.2.2.2.2.2.1 mf_X6_chill zl_864 (sim_chill _ _ _ (kl k) g I L hR) rfl rfl rfl (Nat.le_of_ble_eq_true rfl) (Nat.le_of_ble_eq_true rfl) dL_law_1363 ?_
  rintro v I1 L1 ⟨r1, rfl, hC⟩
  show AG k g (PW g I1 L1) cs sl 4 1366 (lsL i) [vI r1]
  refine ag_aload_n X.1 1 dL_law_1366 rfl ?_
  refine al_arg X (v := 1) h1 (by decide) dL_law_1367 dL_law_1368 dL_law_1369 dL_law_1370 dL_law_1371 ?_
  refine al_arg X (v := 2) h2 (by decide) dL_law_1372 dL_law_1373 dL_law_1374 dL_law_1375 dL_law_1376 ?_
  refine al_arg X (v := 3) h3 (by decide) dL_law_1377 dL_law_1378 dL_law_1379 dL_law_1380 dL_law_1381 ?_
  refine al_callV (recv := 87) (st := [vI r1]) X.1 X.2.2.2.2.2.1 mf_X7_chill zl_1368 hC rfl rfl rfl (Nat.le_of_ble_eq_true rfl) (Nat.le_of_ble_eq_true rfl) dL_law_1382 ?_
  rintro v2 I2 L2 ⟨r2, rfl, rfl, hR2⟩
  show AG k g (PW g I2 L2) cs sl 4 1385 (lsL i) [vI r1, vI r1]
  exact ag_icmp_eq X.1 1735 dL_law_1385 rfl (fun _ => nx I2 L2 hR2) (fun h => absurd rfl h)
theorem lc_mistaken (X : zXl k g cs sl n xs) {i : Int32} (h1 : vp_in (i + 1) n) (h2 : vp_in (i + 2) n) (h3 : vp_in (i + 3) n) (h4 : vp_in (i + 4) n) (h5 : vp_in (i + 5) n) {I : zI} {L : zL} (hR : R I L) (nx : ∀ I2 L2, R I2 L2 → AG k g (PW g I2 L2) cs sl 4 1735 (lsL i) []) : AG k g (PW g I L) cs sl 4 1390 (lsL i) [] := by
  refine ag_aload_n X.1 2 dL_law_1390 rfl ?_
  refine al_callV (recv := 1) (st := []) X.1 X.2.2.2.2.2.1 mf_X6_mistaken zl_872 (sim_mistaken (kl k) g I L hR) rfl rfl rfl (Nat.le_of_ble_eq_true rfl) (Nat.le_of_ble_eq_true rfl) dL_law_1391 ?_
  rintro v I1 L1 ⟨r1, rfl, hC⟩
  show AG k g (PW g I1 L1) cs sl 4 1394 (lsL i) [vI r1]
  refine ag_aload_n X.1 1 dL_law_1394 rfl ?_
  refine al_callV (recv := 87) (st := [vI r1]) X.1 X.2.2.2.2.2.1 mf_X7_mistaken zl_1372 hC rfl rfl rfl (Nat.le_of_ble_eq_true rfl) (Nat.le_of_ble_eq_true rfl) dL_law_1395 ?_
  rintro v2 I2 L2 ⟨r2, rfl, rfl, hR2⟩
  show AG k g (PW g I2 L2) cs sl 4 1398 (lsL i) [vI r1, vI r1]
  exact ag_icmp_eq X.1 1735 dL_law_1398 rfl (fun _ => nx I2 L2 hR2) (fun h => absurd rfl h)
theorem lc_let (X : zXl k g cs sl n xs) {i : Int32} (h1 : vp_in (i + 1) n) (h2 : vp_in (i + 2) n) (h3 : vp_in (i + 3) n) (h4 : vp_in (i + 4) n) (h5 : vp_in (i + 5) n) {I : zI} {L : zL} (hR : R I L) (nx : ∀ I2 L2, R I2 L2 → AG k g (PW g I2 L2) cs sl 4 1735 (lsL i) []) : AG k g (PW g I L) cs sl 4 1403 (lsL i) [] := by
  refine ag_aload_n X.1 2 dL_law_1403 rfl ?_
  refine al_callV (recv := 1) (st := []) X.1 X.2.2.2.2.2.1 mf_X6_let zl_880 (sim_let (kl k) g I L hR) rfl rfl rfl (Nat.le_of_ble_eq_true rfl) (Nat.le_of_ble_eq_true rfl) dL_law_1404 ?_
  rintro v I1 L1 ⟨r1, rfl, hC⟩
  show AG k g (PW g I1 L1) cs sl 4 1407 (lsL i) [vI r1]
  refine ag_aload_n X.1 1 dL_law_1407 rfl ?_
  refine al_callV (recv := 87) (st := [vI r1]) X.1 X.2.2.2.2.2.1 mf_X7_let zl_1376 hC rfl rfl rfl (Nat.le_of_ble_eq_true rfl) (Nat.le_of_ble_eq_true rfl) dL_law_1408 ?_
  rintro v2 I2 L2 ⟨r2, rfl, rfl, hR2⟩
  show AG k g (PW g I2 L2) cs sl 4 1411 (lsL i) [vI r1, vI r1]
  exact ag_icmp_eq X.1 1735 dL_law_1411 rfl (fun _ => nx I2 L2 hR2) (fun h => absurd rfl h)
theorem lc_night (X : zXl k g cs sl n xs) {i : Int32} (h1 : vp_in (i + 1) n) (h2 : vp_in (i + 2) n) (h3 : vp_in (i + 3) n) (h4 : vp_in (i + 4) n) (h5 : vp_in (i + 5) n) {I : zI} {L : zL} (hR : R I L) (nx : ∀ I2 L2, R I2 L2 → AG k g (PW g I2 L2) cs sl 4 1735 (lsL i) []) : AG k g (PW g I L) cs sl 4 1416 (lsL i) [] := by
  refine ag_aload_n X.1 2 dL_law_1416 rfl ?_
  refine al_callV (recv := 1) (st := []) X.1 X.2.2.2.2.2.1 mf_X6_night zl_896 (sim_night (kl k) g I L hR) rfl rfl rfl (Nat.le_of_ble_eq_true rfl) (Nat.le_of_ble_eq_true rfl) dL_law_1417 ?_
  rintro v I1 L1 ⟨r1, rfl, hC⟩
  show AG k g (PW g I1 L1) cs sl 4 1420 (lsL i) [vI r1]
  refine ag_aload_n X.1 1 dL_law_1420 rfl ?_
  refine al_callV (recv := 87) (st := [vI r1]) X.1 X.2.2.2.2.2.1 mf_X7_night zl_1380 hC rfl rfl rfl (Nat.le_of_ble_eq_true rfl) (Nat.le_of_ble_eq_true rfl) dL_law_1421 ?_
  rintro v2 I2 L2 ⟨r2, rfl, rfl, hR2⟩
  show AG k g (PW g I2 L2) cs sl 4 1424 (lsL i) [vI r1, vI r1]
  exact ag_icmp_eq X.1 1735 dL_law_1424 rfl (fun _ => nx I2 L2 hR2) (fun h => absurd rfl h)
theorem lc_hours (X : zXl k g cs sl n xs) {i : Int32} (h1 : vp_in (i + 1) n) (h2 : vp_in (i + 2) n) (h3 : vp_in (i + 3) n) (h4 : vp_in (i + 4) n) (h5 : vp_in (i + 5) n) {I : zI} {L : zL} (hR : R I L) (nx : ∀ I2 L2, R I2 L2 → AG k g (PW g I2 L2) cs sl 4 1735 (lsL i) []) : AG k g (PW g I L) cs sl 4 1429 (lsL i) [] := by
  refine ag_aload_n X.1 2 dL_law_1429 rfl ?_
  refine al_arg X (v := 1) h1 (by decide) dL_law_1430 dL_law_1431 dL_law_1432 dL_law_1433 dL_law_1434 ?_
  refine al_callV (recv := 1) (st := []) X.1 X.2.2.2.2.2.1 mf_X6_hours zl_912 (sim_hours _ (kl k) g I L hR) rfl rfl rfl (Nat.le_of_ble_eq_true rfl) (Nat.le_of_ble_eq_true rfl) dL_law_1435 ?_
  rintro v I1 L1 ⟨r1, rfl, hC⟩
  show AG k g (PW g I1 L1) cs sl 4 1438 (lsL i) [vI r1]
  refine ag_aload_n X.1 1 dL_law_1438 rfl ?_
  refine al_arg X (v := 1) h1 (by decide) dL_law_1439 dL_law_1440 dL_law_1441 dL_law_1442 dL_law_1443 ?_
  refine al_callV (recv := 87) (st := [vI r1]) X.1 X.2.2.2.2.2.1 mf_X7_hours zl_1384 hC rfl rfl rfl (Nat.le_of_ble_eq_true rfl) (Nat.le_of_ble_eq_true rfl) dL_law_1444 ?_
  rintro v2 I2 L2 ⟨r2, rfl, rfl, hR2⟩
  show AG k g (PW g I2 L2) cs sl 4 1447 (lsL i) [vI r1, vI r1]
  exact ag_icmp_eq X.1 1735 dL_law_1447 rfl (fun _ => nx I2 L2 hR2) (fun h => absurd rfl h)
theorem lc_truth (X : zXl k g cs sl n xs) {i : Int32} (h1 : vp_in (i + 1) n) (h2 : vp_in (i + 2) n) (h3 : vp_in (i + 3) n) (h4 : vp_in (i + 4) n) (h5 : vp_in (i + 5) n) {I : zI} {L : zL} (hR : R I L) (nx : ∀ I2 L2, R I2 L2 → AG k g (PW g I2 L2) cs sl 4 1735 (lsL i) []) : AG k g (PW g I L) cs sl 4 1452 (lsL i) [] := by
  refine ag_aload_n X.1 2 dL_law_1452 rfl ?_
  refine al_arg X (v := 1) h1 (by decide) dL_law_1453 dL_law_1454 dL_law_1455 dL_law_1456 dL_law_1457 ?_
  refine al_arg X (v := 2) h2 (by decide) dL_law_1458 dL_law_1459 dL_law_1460 dL_law_1461 dL_law_1462 ?_
  refine al_callV (recv := 1) (st := []) X.1 X.2.2.2.2.2.1 mf_X6_truth zl_921 (sim_truth _ _ (kl k) g I L hR) rfl rfl rfl (Nat.le_of_ble_eq_true rfl) (Nat.le_of_ble_eq_true rfl) dL_law_1463 ?_
  rintro v I1 L1 ⟨r1, rfl, hC⟩
  show AG k g (PW g I1 L1) cs sl 4 1466 (lsL i) [vI r1]
  refine ag_aload_n X.1 1 dL_law_1466 rfl ?_
  refine al_arg X (v := 1) h1 (by decide) dL_law_1467 dL_law_1468 dL_law_1469 dL_law_1470 dL_law_1471 ?_
  refine al_arg X (v := 2) h2 (by decide) dL_law_1472 dL_law_1473 dL_law_1474 dL_law_1475 dL_law_1476 ?_
  refine al_callV (recv := 87) (st := [vI r1]) X.1 X.2.2.2.2.2.1 mf_X7_truth zl_1392 hC rfl rfl rfl (Nat.le_of_ble_eq_true rfl) (Nat.le_of_ble_eq_true rfl) dL_law_1477 ?_
  rintro v2 I2 L2 ⟨r2, rfl, rfl, hR2⟩
  show AG k g (PW g I2 L2) cs sl 4 1480 (lsL i) [vI r1, vI r1]
  exact ag_icmp_eq X.1 1735 dL_law_1480 rfl (fun _ => nx I2 L2 hR2) (fun h => absurd rfl h)
theorem lc_readOf (X : zXl k g cs sl n xs) {i : Int32} (h1 : vp_in (i + 1) n) (h2 : vp_in (i + 2) n) (h3 : vp_in (i + 3) n) (h4 : vp_in (i + 4) n) (h5 : vp_in (i + 5) n) {I : zI} {L : zL} (hR : R I L) (nx : ∀ I2 L2, R I2 L2 → AG k g (PW g I2 L2) cs sl 4 1735 (lsL i) []) : AG k g (PW g I L) cs sl 4 1485 (lsL i) [] := by
  refine ag_aload_n X.1 2 dL_law_1485 rfl ?_
  refine al_arg X (v := 1) h1 (by decide) dL_law_1486 dL_law_1487 dL_law_1488 dL_law_1489 dL_law_1490 ?_
  refine al_callV (recv := 1) (st := []) X.1 X.2.2.2.2.2.1 mf_X6_readOf zl_927 (sim_readOf _ (kl k) g I L hR) rfl rfl rfl (Nat.le_of_ble_eq_true rfl) (Nat.le_of_ble_eq_true rfl) dL_law_1491 ?_
  rintro v I1 L1 ⟨r1, rfl, hC⟩
  show AG k g (PW g I1 L1) cs sl 4 1494 (lsL i) [vI r1]
  refine ag_aload_n X.1 1 dL_law_1494 rfl ?_
  refine al_arg X (v := 1) h1 (by decide) dL_law_1495 dL_law_1496 dL_law_1497 dL_law_1498 dL_law_1499 ?_
  refine al_callV (recv := 87) (st := [vI r1]) X.1 X.2.2.2.2.2.1 mf_X7_readOf zl_1396 hC rfl rfl rfl (Nat.le_of_ble_eq_true rfl) (Nat.le_of_ble_eq_true rfl) dL_law_1500 ?_
  rintro v2 I2 L2 ⟨r2, rfl, rfl, hR2⟩
  show AG k g (PW g I2 L2) cs sl 4 1503 (lsL i) [vI r1, vI r1]
  exact ag_icmp_eq X.1 1735 dL_law_1503 rfl (fun _ => nx I2 L2 hR2) (fun h => absurd rfl h)
theorem lc_breath (X : zXl k g cs sl n xs) {i : Int32} (h1 : vp_in (i + 1) n) (h2 : vp_in (i + 2) n) (h3 : vp_in (i + 3) n) (h4 : vp_in (i + 4) n) (h5 : vp_in (i + 5) n) {I : zI} {L : zL} (hR : R I L) (nx : ∀ I2 L2, R I2 L2 → AG k g (PW g I2 L2) cs sl 4 1735 (lsL i) []) : AG k g (PW g I L) cs sl 4 1508 (lsL i) [] := by
  refine ag_aload_n X.1 2 dL_law_1508 rfl ?_
  refine al_arg X (v := 1) h1 (by decide) dL_law_1509 dL_law_1510 dL_law_1511 dL_law_1512 dL_law_1513 ?_
  refine al_arg X (v := 2) h2 (by decide) dL_law_1514 dL_law_1515 dL_law_1516 dL_law_1517 dL_law_1518 ?_
  refine al_callV (recv := 1) (st := []) X.1 X.2.2.2.2.2.1 mf_X6_breath zl_931 (sim_breath _ _ (kl k) g I L hR) rfl rfl rfl (Nat.le_of_ble_eq_true rfl) (Nat.le_of_ble_eq_true rfl) dL_law_1519 ?_
  rintro v I1 L1 ⟨r1, rfl, hC⟩
  show AG k g (PW g I1 L1) cs sl 4 1522 (lsL i) [vI r1]
  refine ag_aload_n X.1 1 dL_law_1522 rfl ?_
  refine al_arg X (v := 1) h1 (by decide) dL_law_1523 dL_law_1524 dL_law_1525 dL_law_1526 dL_law_1527 ?_
  refine al_arg X (v := 2) h2 (by decide) dL_law_1528 dL_law_1529 dL_law_1530 dL_law_1531 dL_law_1532 ?_
  refine al_callV (recv := 87) (st := [vI r1]) X.1 X.2.2.2.2.2.1 mf_X7_breath zl_1400 hC rfl rfl rfl (Nat.le_of_ble_eq_true rfl) (Nat.le_of_ble_eq_true rfl) dL_law_1533 ?_
  rintro v2 I2 L2 ⟨r2, rfl, rfl, hR2⟩
  show AG k g (PW g I2 L2) cs sl 4 1536 (lsL i) [vI r1, vI r1]
  exact ag_icmp_eq X.1 1735 dL_law_1536 rfl (fun _ => nx I2 L2 hR2) (fun h => absurd rfl h)
theorem lc_scratch (X : zXl k g cs sl n xs) {i : Int32} (h1 : vp_in (i + 1) n) (h2 : vp_in (i + 2) n) (h3 : vp_in (i + 3) n) (h4 : vp_in (i + 4) n) (h5 : vp_in (i + 5) n) {I : zI} {L : zL} (hR : R I L) (nx : ∀ I2 L2, R I2 L2 → AG k g (PW g I2 L2) cs sl 4 1735 (lsL i) []) : AG k g (PW g I L) cs sl 4 1541 (lsL i) [] := by
  refine ag_aload_n X.1 2 dL_law_1541 rfl ?_
  refine al_arg X (v := 1) h1 (by decide) dL_law_1542 dL_law_1543 dL_law_1544 dL_law_1545 dL_law_1546 ?_
  refine al_arg X (v := 2) h2 (by decide) dL_law_1547 dL_law_1548 dL_law_1549 dL_law_1550 dL_law_1551 ?_
  refine al_callV (recv := 1) (st := []) X.1 X.2.2.2.2.2.1 mf_X6_scratch zl_939 (sim_scratch _ _ (kl k) g I L hR) rfl rfl rfl (Nat.le_of_ble_eq_true rfl) (Nat.le_of_ble_eq_true rfl) dL_law_1552 ?_
  rintro v I1 L1 ⟨r1, rfl, hC⟩
  show AG k g (PW g I1 L1) cs sl 4 1555 (lsL i) [vI r1]
  refine ag_aload_n X.1 1 dL_law_1555 rfl ?_
  refine al_arg X (v := 1) h1 (by decide) dL_law_1556 dL_law_1557 dL_law_1558 dL_law_1559 dL_law_1560 ?_
  refine al_arg X (v := 2) h2 (by decide) dL_law_1561 dL_law_1562 dL_law_1563 dL_law_1564 dL_law_1565 ?_
  refine al_callV (recv := 87) (st := [vI r1]) X.1 X.2.2.2.2.2.1 mf_X7_scratch zl_1407 hC rfl rfl rfl (Nat.le_of_ble_eq_true rfl) (Nat.le_of_ble_eq_true rfl) dL_law_1566 ?_
  rintro v2 I2 L2 ⟨r2, rfl, rfl, hR2⟩
  show AG k g (PW g I2 L2) cs sl 4 1569 (lsL i) [vI r1, vI r1]
  exact ag_icmp_eq X.1 1735 dL_law_1569 rfl (fun _ => nx I2 L2 hR2) (fun h => absurd rfl h)
theorem lc_winter (X : zXl k g cs sl n xs) {i : Int32} (h1 : vp_in (i + 1) n) (h2 : vp_in (i + 2) n) (h3 : vp_in (i + 3) n) (h4 : vp_in (i + 4) n) (h5 : vp_in (i + 5) n) {I : zI} {L : zL} (hR : R I L) (nx : ∀ I2 L2, R I2 L2 → AG k g (PW g I2 L2) cs sl 4 1735 (lsL i) []) : AG k g (PW g I L) cs sl 4 1574 (lsL i) [] := by
  refine ag_aload_n X.1 2 dL_law_1574 rfl ?_
  refine al_arg X (v := 1) h1 (by decide) dL_law_1575 dL_law_1576 dL_law_1577 dL_law_1578 dL_law_1579 ?_
  refine al_callV (recv := 1) (st := []) X.1 X.2.2.2.2.2.1 mf_X6_winter zl_951 (sim_winter _ (kl k) g I L hR) rfl rfl rfl (Nat.le_of_ble_eq_true rfl) (Nat.le_of_ble_eq_true rfl) dL_law_1580 ?_
  rintro v I1 L1 ⟨r1, rfl, hC⟩
  show AG k g (PW g I1 L1) cs sl 4 1583 (lsL i) [vI r1]
  refine ag_aload_n X.1 1 dL_law_1583 rfl ?_
  refine al_arg X (v := 1) h1 (by decide) dL_law_1584 dL_law_1585 dL_law_1586 dL_law_1587 dL_law_1588 ?_
  refine al_callV (recv := 87) (st := [vI r1]) X.1 X.2.2.2.2.2.1 mf_X7_winter zl_1411 hC rfl rfl rfl (Nat.le_of_ble_eq_true rfl) (Nat.le_of_ble_eq_true rfl) dL_law_1589 ?_
  rintro v2 I2 L2 ⟨r2, rfl, rfl, hR2⟩
  show AG k g (PW g I2 L2) cs sl 4 1592 (lsL i) [vI r1, vI r1]
  exact ag_icmp_eq X.1 1735 dL_law_1592 rfl (fun _ => nx I2 L2 hR2) (fun h => absurd rfl h)
theorem lc_seed (X : zXl k g cs sl n xs) {i : Int32} (h1 : vp_in (i + 1) n) (h2 : vp_in (i + 2) n) (h3 : vp_in (i + 3) n) (h4 : vp_in (i + 4) n) (h5 : vp_in (i + 5) n) {I : zI} {L : zL} (hR : R I L) (nx : ∀ I2 L2, R I2 L2 → AG k g (PW g I2 L2) cs sl 4 1735 (lsL i) []) : AG k g (PW g I L) cs sl 4 1597 (lsL i) [] := by
  refine ag_aload_n X.1 2 dL_law_1597 rfl ?_
  refine al_arg X (v := 1) h1 (by decide) dL_law_1598 dL_law_1599 dL_law_1600 dL_law_1601 dL_law_1602 ?_
  refine al_callV (recv := 1) (st := []) X.1 X.2.2.2.2.2.1 mf_X6_seed zl_965 (sim_seed _ (kl k) g I L hR) rfl rfl rfl (Nat.le_of_ble_eq_true rfl) (Nat.le_of_ble_eq_true rfl) dL_law_1603 ?_
  rintro v I1 L1 ⟨r1, rfl, hC⟩
  show AG k g (PW g I1 L1) cs sl 4 1606 (lsL i) [vI r1]
  refine ag_aload_n X.1 1 dL_law_1606 rfl ?_
  refine al_arg X (v := 1) h1 (by decide) dL_law_1607 dL_law_1608 dL_law_1609 dL_law_1610 dL_law_1611 ?_
  refine al_callV (recv := 87) (st := [vI r1]) X.1 X.2.2.2.2.2.1 mf_X7_seed zl_1421 hC rfl rfl rfl (Nat.le_of_ble_eq_true rfl) (Nat.le_of_ble_eq_true rfl) dL_law_1612 ?_
  rintro v2 I2 L2 ⟨r2, rfl, rfl, hR2⟩
  show AG k g (PW g I2 L2) cs sl 4 1615 (lsL i) [vI r1, vI r1]
  exact ag_icmp_eq X.1 1735 dL_law_1615 rfl (fun _ => nx I2 L2 hR2) (fun h => absurd rfl h)
theorem lc_act (X : zXl k g cs sl n xs) {i : Int32} (h1 : vp_in (i + 1) n) (h2 : vp_in (i + 2) n) (h3 : vp_in (i + 3) n) (h4 : vp_in (i + 4) n) (h5 : vp_in (i + 5) n) {I : zI} {L : zL} (hR : R I L) (nx : ∀ I2 L2, R I2 L2 → AG k g (PW g I2 L2) cs sl 4 1735 (lsL i) []) : AG k g (PW g I L) cs sl 4 1620 (lsL i) [] := by
  refine ag_aload_n X.1 2 dL_law_1620 rfl ?_
  refine al_arg X (v := 1) h1 (by decide) dL_law_1621 dL_law_1622 dL_law_1623 dL_law_1624 dL_law_1625 ?_
  refine al_arg X (v := 2) h2 (by decide) dL_law_1626 dL_law_1627 dL_law_1628 dL_law_1629 dL_law_1630 ?_
  refine al_arg X (v := 3) h3 (by decide) dL_law_1631 dL_law_1632 dL_law_1633 dL_law_1634 dL_law_1635 ?_
  refine al_callV (recv := 1) (st := []) X.1 X.2.2.2.2.2.1 mf_X6_act zl_969 (sim_act _ _ _ (kl k) g I L hR) rfl rfl rfl (Nat.le_of_ble_eq_true rfl) (Nat.le_of_ble_eq_true rfl) dL_law_1636 ?_
  rintro v I1 L1 ⟨r1, rfl, hC⟩
  show AG k g (PW g I1 L1) cs sl 4 1639 (lsL i) [vI r1]
  refine ag_aload_n X.1 1 dL_law_1639 rfl ?_
  refine al_arg X (v := 1) h1 (by decide) dL_law_1640 dL_law_1641 dL_law_1642 dL_law_1643 dL_law_1644 ?_
  refine al_arg X (v := 2) h2 (by decide) dL_law_1645 dL_law_1646 dL_law_1647 dL_law_1648 dL_law_1649 ?_
  refine al_arg X (v := 3) h3 (by decide) dL_law_1650 dL_law_1651 dL_law_1652 dL_law_1653 dL_law_1654 ?_
  refine al_callV (recv := 87) (st := [vI r1]) X.1 X.2.2.2.2.2.1 mf_X7_act zl_1425 hC rfl rfl rfl (Nat.le_of_ble_eq_true rfl) (Nat.le_of_ble_eq_true rfl) dL_law_1655 ?_
  rintro v2 I2 L2 ⟨r2, rfl, rfl, hR2⟩
  show AG k g (PW g I2 L2) cs sl 4 1658 (lsL i) [vI r1, vI r1]
  exact ag_icmp_eq X.1 1735 dL_law_1658 rfl (fun _ => nx I2 L2 hR2) (fun h => absurd rfl h)
theorem lc_trace (X : zXl k g cs sl n xs) {i : Int32} (h1 : vp_in (i + 1) n) (h2 : vp_in (i + 2) n) (h3 : vp_in (i + 3) n) (h4 : vp_in (i + 4) n) (h5 : vp_in (i + 5) n) {I : zI} {L : zL} (hR : R I L) (nx : ∀ I2 L2, R I2 L2 → AG k g (PW g I2 L2) cs sl 4 1735 (lsL i) []) : AG k g (PW g I L) cs sl 4 1663 (lsL i) [] := by
  refine ag_aload_n X.1 2 dL_law_1663 rfl ?_
  refine al_arg X (v := 1) h1 (by decide) dL_law_1664 dL_law_1665 dL_law_1666 dL_law_1667 dL_law_1668 ?_
  refine al_callV (recv := 1) (st := []) X.1 X.2.2.2.2.2.1 mf_X6_trace zl_1006 (sim_trace _ (kl k) g I L hR) rfl rfl rfl (Nat.le_of_ble_eq_true rfl) (Nat.le_of_ble_eq_true rfl) dL_law_1669 ?_
  rintro v I1 L1 ⟨r1, rfl, hC⟩
  show AG k g (PW g I1 L1) cs sl 4 1672 (lsL i) [vI r1]
  refine ag_aload_n X.1 1 dL_law_1672 rfl ?_
  refine al_arg X (v := 1) h1 (by decide) dL_law_1673 dL_law_1674 dL_law_1675 dL_law_1676 dL_law_1677 ?_
  refine al_callV (recv := 87) (st := [vI r1]) X.1 X.2.2.2.2.2.1 mf_X7_trace zl_1461 hC rfl rfl rfl (Nat.le_of_ble_eq_true rfl) (Nat.le_of_ble_eq_true rfl) dL_law_1678 ?_
  rintro v2 I2 L2 ⟨r2, rfl, rfl, hR2⟩
  show AG k g (PW g I2 L2) cs sl 4 1681 (lsL i) [vI r1, vI r1]
  exact ag_icmp_eq X.1 1735 dL_law_1681 rfl (fun _ => nx I2 L2 hR2) (fun h => absurd rfl h)
theorem lc_image (X : zXl k g cs sl n xs) {i : Int32} (h1 : vp_in (i + 1) n) (h2 : vp_in (i + 2) n) (h3 : vp_in (i + 3) n) (h4 : vp_in (i + 4) n) (h5 : vp_in (i + 5) n) {I : zI} {L : zL} (hR : R I L) (nx : ∀ I2 L2, R I2 L2 → AG k g (PW g I2 L2) cs sl 4 1735 (lsL i) []) : AG k g (PW g I L) cs sl 4 1686 (lsL i) [] := by
  refine ag_aload_n X.1 2 dL_law_1686 rfl ?_
  refine al_callV (recv := 1) (st := []) X.1 X.2.2.2.2.2.1 mf_X6_image zl_1014 (sim_image (kl k) g I L hR) rfl rfl rfl (Nat.le_of_ble_eq_true rfl) (Nat.le_of_ble_eq_true rfl) dL_law_1687 ?_
  rintro v I1 L1 ⟨r1, rfl, hC⟩
  show AG k g (PW g I1 L1) cs sl 4 1690 (lsL i) [vI r1]
  refine ag_aload_n X.1 1 dL_law_1690 rfl ?_
  refine al_callV (recv := 87) (st := [vI r1]) X.1 X.2.2.2.2.2.1 mf_X7_image zl_1465 hC rfl rfl rfl (Nat.le_of_ble_eq_true rfl) (Nat.le_of_ble_eq_true rfl) dL_law_1691 ?_
  rintro v2 I2 L2 ⟨r2, rfl, rfl, hR2⟩
  show AG k g (PW g I2 L2) cs sl 4 1694 (lsL i) [vI r1, vI r1]
  exact ag_icmp_eq X.1 1735 dL_law_1694 rfl (fun _ => nx I2 L2 hR2) (fun h => absurd rfl h)
theorem lc_restore (X : zXl k g cs sl n xs) {i : Int32} (h1 : vp_in (i + 1) n) (h2 : vp_in (i + 2) n) (h3 : vp_in (i + 3) n) (h4 : vp_in (i + 4) n) (h5 : vp_in (i + 5) n) {I : zI} {L : zL} (hR : R I L) (nx : ∀ I2 L2, R I2 L2 → AG k g (PW g I2 L2) cs sl 4 1735 (lsL i) []) : AG k g (PW g I L) cs sl 4 1699 (lsL i) [] := by
  refine ag_aload_n X.1 2 dL_law_1699 rfl ?_
  refine al_callV (recv := 1) (st := []) X.1 X.2.2.2.2.2.1 mf_X6_restore zl_1018 (sim_restore (kl k) g I L hR) rfl rfl rfl (Nat.le_of_ble_eq_true rfl) (Nat.le_of_ble_eq_true rfl) dL_law_1700 ?_
  rintro v I1 L1 ⟨r1, rfl, hC⟩
  show AG k g (PW g I1 L1) cs sl 4 1703 (lsL i) [vI r1]
  refine ag_aload_n X.1 1 dL_law_1703 rfl ?_
  refine al_callV (recv := 87) (st := [vI r1]) X.1 X.2.2.2.2.2.1 mf_X7_restore zl_1469 hC rfl rfl rfl (Nat.le_of_ble_eq_true rfl) (Nat.le_of_ble_eq_true rfl) dL_law_1704 ?_
  rintro v2 I2 L2 ⟨r2, rfl, rfl, hR2⟩
  show AG k g (PW g I2 L2) cs sl 4 1707 (lsL i) [vI r1, vI r1]
  exact ag_icmp_eq X.1 1735 dL_law_1707 rfl (fun _ => nx I2 L2 hR2) (fun h => absurd rfl h)
theorem lc_status (X : zXl k g cs sl n xs) {i : Int32} (h1 : vp_in (i + 1) n) (h2 : vp_in (i + 2) n) (h3 : vp_in (i + 3) n) (h4 : vp_in (i + 4) n) (h5 : vp_in (i + 5) n) {I : zI} {L : zL} (hR : R I L) (nx : ∀ I2 L2, R I2 L2 → AG k g (PW g I2 L2) cs sl 4 1735 (lsL i) []) : AG k g (PW g I L) cs sl 4 1712 (lsL i) [] := by
  refine ag_aload_n X.1 2 dL_law_1712 rfl ?_
  refine al_arg X (v := 1) h1 (by decide) dL_law_1713 dL_law_1714 dL_law_1715 dL_law_1716 dL_law_1717 ?_
  refine al_callV (recv := 1) (st := []) X.1 X.2.2.2.2.2.1 mf_X6_status zl_1022 (sim_status _ (kl k) g I L hR) rfl rfl rfl (Nat.le_of_ble_eq_true rfl) (Nat.le_of_ble_eq_true rfl) dL_law_1718 ?_
  rintro v I1 L1 ⟨r1, rfl, hC⟩
  show AG k g (PW g I1 L1) cs sl 4 1721 (lsL i) [vI r1]
  refine ag_aload_n X.1 1 dL_law_1721 rfl ?_
  refine al_arg X (v := 1) h1 (by decide) dL_law_1722 dL_law_1723 dL_law_1724 dL_law_1725 dL_law_1726 ?_
  refine al_callV (recv := 87) (st := [vI r1]) X.1 X.2.2.2.2.2.1 mf_X7_status zl_1473 hC rfl rfl rfl (Nat.le_of_ble_eq_true rfl) (Nat.le_of_ble_eq_true rfl) dL_law_1727 ?_
  rintro v2 I2 L2 ⟨r2, rfl, rfl, hR2⟩
  show AG k g (PW g I2 L2) cs sl 4 1730 (lsL i) [vI r1, vI r1]
  exact ag_icmp_eq X.1 1735 dL_law_1730 rfl (fun _ => nx I2 L2 hR2) (fun h => absurd rfl h)
end ZLC
