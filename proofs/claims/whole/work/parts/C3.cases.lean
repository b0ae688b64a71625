/-! the cases of the law -/
section LCS
variable {p : Program} {l : Launch} {e : Env} {s : State} {m : MethodId} {below : List Frame} {meth : Method} {c : Code} {H : Heap} {locs : List Loc} {cells slots : Nat}
variable {b L j N ax am ao : Nat} {xs : Nat → Int32} {ls : Array Slot} {D : va_G} {cy : Nat → ClassId}
set_option maxHeartbeats 4000000 in
set_option maxRecDepth 10000 in
theorem lc_feed (C : LCx p l s m meth c b L xs D cy) (hN : N < 1800) (hj : j + 7 ≤ L) (hcs : cells + 1 ≤ room_1.cells ∧ slots + 6 ≤ room_1.slots) (hl : lv_has ls 7 (lvL b ax am ao (nI j))) (hW : LW D cy s N ax am ao H locs) (kk : LK p l e s m below meth c cells slots b j N ax am ao D cy) : W p l e room_1 s m #[.ref b] below meth c H locs cells slots (lw_Z below #[.ref b] s) (F0 m 172 ls []) := by
  obtain ⟨wx, wm, bo, hI, hW⟩ := hW
  obtain ⟨C0, hK, hNs, -⟩ := id C
  have hA : ∀ q, s.heap.size ≤ q → LAf s q := fun _ h => h
  have hc0 : cells + 0 ≤ room_1.cells ∧ slots + 0 ≤ room_1.slots := ⟨by omega, by omega⟩
  obtain ⟨fx, hx⟩ := hI.x
  obtain ⟨fm, hm⟩ := hI.m
  obtain ⟨r, wx2, wm2, k8, k9, hI2⟩ := sp_feed l D (lg2 (xs (j + 1)) (xs (j + 2))) (lg2 (xs (j + 3)) (xs (j + 4))) (lg2 (xs (j + 5)) (xs (j + 6))) hN hI
  refine lv_aload_n C0.1 C0.2.1 dL_law_172 rfl (lv_at hl 1 rfl) ?_
  refine la_arg 1 C hW.2.2 (lv_at hl 0 rfl) (lv_at hl 4 rfl) hj (by decide) (by decide +kernel) dL_law_173 dL_law_174 dL_law_176 dL_law_177 dL_law_178 ?_
  refine la_hi C (by decide +kernel) dL_law_179 dL_law_180 dL_law_182 ?_
  refine la_arg 2 C hW.2.2 (lv_at hl 0 rfl) (lv_at hl 4 rfl) hj (by decide) (by decide +kernel) dL_law_183 dL_law_184 dL_law_186 dL_law_187 dL_law_188 ?_
  refine la_lo C dL_law_189 dL_law_190 dL_law_193 dL_law_194 ?_
  refine la_arg 3 C hW.2.2 (lv_at hl 0 rfl) (lv_at hl 4 rfl) hj (by decide) (by decide +kernel) dL_law_195 dL_law_196 dL_law_198 dL_law_199 dL_law_200 ?_
  refine la_hi C (by decide +kernel) dL_law_201 dL_law_202 dL_law_204 ?_
  refine la_arg 4 C hW.2.2 (lv_at hl 0 rfl) (lv_at hl 4 rfl) hj (by decide) (by decide +kernel) dL_law_205 dL_law_206 dL_law_208 dL_law_209 dL_law_210 ?_
  refine la_lo C dL_law_211 dL_law_212 dL_law_215 dL_law_216 ?_
  refine la_arg 5 C hW.2.2 (lv_at hl 0 rfl) (lv_at hl 4 rfl) hj (by decide) (by decide +kernel) dL_law_217 dL_law_218 dL_law_220 dL_law_221 dL_law_222 ?_
  refine la_hi C (by decide +kernel) dL_law_223 dL_law_224 dL_law_226 ?_
  refine la_arg6 C hW.2.2 (lv_at hl 0 rfl) (lv_at hl 4 rfl) hj (by decide +kernel) dL_law_227 dL_law_228 dL_law_230 dL_law_232 dL_law_233 ?_
  refine la_lo C dL_law_234 dL_law_235 dL_law_238 dL_law_239 ?_
  refine c_VAi C0 hK hNs hl.1 hW hA k8 (Uw_V uw_429 uw_430 uw_431 uw_1 uw_432) rfl rfl hd_X8_feed ⟨rfl, rfl⟩ rfl hx rfl rfl rfl dL_law_240 hc0 (fun H locs hW => ?_)
  refine lv_aload_n C0.1 C0.2.1 dL_law_243 rfl (lv_at hl 2 rfl) ?_
  refine la_arg 1 C hW.2.2 (lv_at hl 0 rfl) (lv_at hl 4 rfl) hj (by decide) (by decide +kernel) dL_law_244 dL_law_245 dL_law_247 dL_law_248 dL_law_249 ?_
  refine la_hi C (by decide +kernel) dL_law_250 dL_law_251 dL_law_253 ?_
  refine la_arg 2 C hW.2.2 (lv_at hl 0 rfl) (lv_at hl 4 rfl) hj (by decide) (by decide +kernel) dL_law_254 dL_law_255 dL_law_257 dL_law_258 dL_law_259 ?_
  refine la_lo C dL_law_260 dL_law_261 dL_law_264 dL_law_265 ?_
  refine la_arg 3 C hW.2.2 (lv_at hl 0 rfl) (lv_at hl 4 rfl) hj (by decide) (by decide +kernel) dL_law_266 dL_law_267 dL_law_269 dL_law_270 dL_law_271 ?_
  refine la_hi C (by decide +kernel) dL_law_272 dL_law_273 dL_law_275 ?_
  refine la_arg 4 C hW.2.2 (lv_at hl 0 rfl) (lv_at hl 4 rfl) hj (by decide) (by decide +kernel) dL_law_276 dL_law_277 dL_law_279 dL_law_280 dL_law_281 ?_
  refine la_lo C dL_law_282 dL_law_283 dL_law_286 dL_law_287 ?_
  refine la_arg 5 C hW.2.2 (lv_at hl 0 rfl) (lv_at hl 4 rfl) hj (by decide) (by decide +kernel) dL_law_288 dL_law_289 dL_law_291 dL_law_292 dL_law_293 ?_
  refine la_hi C (by decide +kernel) dL_law_294 dL_law_295 dL_law_297 ?_
  refine la_arg6 C hW.2.2 (lv_at hl 0 rfl) (lv_at hl 4 rfl) hj (by decide +kernel) dL_law_298 dL_law_299 dL_law_301 dL_law_303 dL_law_304 ?_
  refine la_lo C dL_law_305 dL_law_306 dL_law_309 dL_law_310 ?_
  have hW := wd_m hW
  refine c_VAi C0 hK hNs hl.1 hW hA k9 (Uw_V uw_1246 uw_1247 uw_1248 uw_14 uw_1249) rfl rfl hd_X9_feed ⟨rfl, rfl⟩ rfl hm rfl rfl rfl dL_law_311 hc0 (fun H locs hW => ?_)
  have hW := wd_b hW
  refine lv_icmp_eq (tgt := 1190) C0.1 C0.2.1 dL_law_314 (by decide) (fun _ => ?_) (fun h => absurd rfl h)
  refine W.widen (k := cells + 1) (n := slots + 6) (by omega) (by omega) ?_
  exact kk _ _ _ ⟨wx2, wm2, bo, hI2, hW⟩ hl
set_option maxHeartbeats 4000000 in
set_option maxRecDepth 10000 in
theorem lc_terrace (C : LCx p l s m meth c b L xs D cy) (hN : N < 1800) (hj : j + 7 ≤ L) (hcs : cells + 1 ≤ room_1.cells ∧ slots + 6 ≤ room_1.slots) (hl : lv_has ls 7 (lvL b ax am ao (nI j))) (hW : LW D cy s N ax am ao H locs) (kk : LK p l e s m below meth c cells slots b j N ax am ao D cy) : W p l e room_1 s m #[.ref b] below meth c H locs cells slots (lw_Z below #[.ref b] s) (F0 m 319 ls []) := by
  obtain ⟨wx, wm, bo, hI, hW⟩ := hW
  obtain ⟨C0, hK, hNs, -⟩ := id C
  have hA : ∀ q, s.heap.size ≤ q → LAf s q := fun _ h => h
  have hc0 : cells + 0 ≤ room_1.cells ∧ slots + 0 ≤ room_1.slots := ⟨by omega, by omega⟩
  obtain ⟨fx, hx⟩ := hI.x
  obtain ⟨fm, hm⟩ := hI.m
  obtain ⟨r, wx2, wm2, k8, k9, hI2⟩ := sp_terrace l D  hN hI
  refine lv_aload_n C0.1 C0.2.1 dL_law_319 rfl (lv_at hl 1 rfl) ?_
  refine c_VAi C0 hK hNs hl.1 hW hA k8 (Uw_V uw_438 uw_439 uw_440 uw_1 uw_441) rfl rfl hd_X8_terrace ⟨rfl, rfl⟩ rfl hx rfl rfl rfl dL_law_320 hc0 (fun H locs hW => ?_)
  refine lv_aload_n C0.1 C0.2.1 dL_law_323 rfl (lv_at hl 2 rfl) ?_
  have hW := wd_m hW
  refine c_VAi C0 hK hNs hl.1 hW hA k9 (Uw_V uw_1251 uw_1252 uw_1253 uw_14 uw_1254) rfl rfl hd_X9_terrace ⟨rfl, rfl⟩ rfl hm rfl rfl rfl dL_law_324 hc0 (fun H locs hW => ?_)
  have hW := wd_b hW
  refine lv_icmp_eq (tgt := 1190) C0.1 C0.2.1 dL_law_327 (by decide) (fun _ => ?_) (fun h => absurd rfl h)
  refine W.widen (k := cells + 1) (n := slots + 6) (by omega) (by omega) ?_
  exact kk _ _ _ ⟨wx2, wm2, bo, hI2, hW⟩ hl
set_option maxHeartbeats 4000000 in
set_option maxRecDepth 10000 in
theorem lc_winter (C : LCx p l s m meth c b L xs D cy) (hN : N < 1800) (hj : j + 7 ≤ L) (hcs : cells + 1 ≤ room_1.cells ∧ slots + 6 ≤ room_1.slots) (hl : lv_has ls 7 (lvL b ax am ao (nI j))) (hW : LW D cy s N ax am ao H locs) (kk : LK p l e s m below meth c cells slots b j N ax am ao D cy) : W p l e room_1 s m #[.ref b] below meth c H locs cells slots (lw_Z below #[.ref b] s) (F0 m 332 ls []) := by
  obtain ⟨wx, wm, bo, hI, hW⟩ := hW
  obtain ⟨C0, hK, hNs, -⟩ := id C
  have hA : ∀ q, s.heap.size ≤ q → LAf s q := fun _ h => h
  have hc0 : cells + 0 ≤ room_1.cells ∧ slots + 0 ≤ room_1.slots := ⟨by omega, by omega⟩
  obtain ⟨fx, hx⟩ := hI.x
  obtain ⟨fm, hm⟩ := hI.m
  obtain ⟨r, wx2, wm2, k8, k9, hI2⟩ := sp_winter l D  hN hI
  refine lv_aload_n C0.1 C0.2.1 dL_law_332 rfl (lv_at hl 1 rfl) ?_
  refine c_VAi C0 hK hNs hl.1 hW hA k8 (Uw_V uw_600 uw_601 uw_602 uw_1 uw_603) rfl rfl hd_X8_winter ⟨rfl, rfl⟩ rfl hx rfl rfl rfl dL_law_333 hc0 (fun H locs hW => ?_)
  refine lv_aload_n C0.1 C0.2.1 dL_law_336 rfl (lv_at hl 2 rfl) ?_
  have hW := wd_m hW
  refine c_VAi C0 hK hNs hl.1 hW hA k9 (Uw_V uw_1400 uw_1401 uw_1402 uw_14 uw_1403) rfl rfl hd_X9_winter ⟨rfl, rfl⟩ rfl hm rfl rfl rfl dL_law_337 hc0 (fun H locs hW => ?_)
  have hW := wd_b hW
  refine lv_icmp_eq (tgt := 1190) C0.1 C0.2.1 dL_law_340 (by decide) (fun _ => ?_) (fun h => absurd rfl h)
  refine W.widen (k := cells + 1) (n := slots + 6) (by omega) (by omega) ?_
  exact kk _ _ _ ⟨wx2, wm2, bo, hI2, hW⟩ hl
set_option maxHeartbeats 4000000 in
set_option maxRecDepth 10000 in
theorem lc_hole (C : LCx p l s m meth c b L xs D cy) (hN : N < 1800) (hj : j + 7 ≤ L) (hcs : cells + 1 ≤ room_1.cells ∧ slots + 6 ≤ room_1.slots) (hl : lv_has ls 7 (lvL b ax am ao (nI j))) (hW : LW D cy s N ax am ao H locs) (kk : LK p l e s m below meth c cells slots b j N ax am ao D cy) : W p l e room_1 s m #[.ref b] below meth c H locs cells slots (lw_Z below #[.ref b] s) (F0 m 345 ls []) := by
  obtain ⟨wx, wm, bo, hI, hW⟩ := hW
  obtain ⟨C0, hK, hNs, -⟩ := id C
  have hA : ∀ q, s.heap.size ≤ q → LAf s q := fun _ h => h
  have hc0 : cells + 0 ≤ room_1.cells ∧ slots + 0 ≤ room_1.slots := ⟨by omega, by omega⟩
  obtain ⟨fx, hx⟩ := hI.x
  obtain ⟨fm, hm⟩ := hI.m
  obtain ⟨r, wx2, wm2, k8, k9, hI2⟩ := sp_hole l D (xs (j + 1)) (xs (j + 2)) hN hI
  refine lv_aload_n C0.1 C0.2.1 dL_law_345 rfl (lv_at hl 1 rfl) ?_
  refine la_arg 1 C hW.2.2 (lv_at hl 0 rfl) (lv_at hl 4 rfl) hj (by decide) (by decide +kernel) dL_law_346 dL_law_347 dL_law_349 dL_law_350 dL_law_351 ?_
  refine la_arg 2 C hW.2.2 (lv_at hl 0 rfl) (lv_at hl 4 rfl) hj (by decide) (by decide +kernel) dL_law_352 dL_law_353 dL_law_355 dL_law_356 dL_law_357 ?_
  refine c_VAi C0 hK hNs hl.1 hW hA k8 (Uw_V uw_623 uw_624 uw_625 uw_1 uw_626) rfl rfl hd_X8_hole ⟨rfl, rfl⟩ rfl hx rfl rfl rfl dL_law_358 hc0 (fun H locs hW => ?_)
  refine lv_aload_n C0.1 C0.2.1 dL_law_361 rfl (lv_at hl 2 rfl) ?_
  refine la_arg 1 C hW.2.2 (lv_at hl 0 rfl) (lv_at hl 4 rfl) hj (by decide) (by decide +kernel) dL_law_362 dL_law_363 dL_law_365 dL_law_366 dL_law_367 ?_
  refine la_arg 2 C hW.2.2 (lv_at hl 0 rfl) (lv_at hl 4 rfl) hj (by decide) (by decide +kernel) dL_law_368 dL_law_369 dL_law_371 dL_law_372 dL_law_373 ?_
  have hW := wd_m hW
  refine c_VAi C0 hK hNs hl.1 hW hA k9 (Uw_V uw_1416 uw_1417 uw_1418 uw_14 uw_1419) rfl rfl hd_X9_hole ⟨rfl, rfl⟩ rfl hm rfl rfl rfl dL_law_374 hc0 (fun H locs hW => ?_)
  have hW := wd_b hW
  refine lv_icmp_eq (tgt := 1190) C0.1 C0.2.1 dL_law_377 (by decide) (fun _ => ?_) (fun h => absurd rfl h)
  refine W.widen (k := cells + 1) (n := slots + 6) (by omega) (by omega) ?_
  exact kk _ _ _ ⟨wx2, wm2, bo, hI2, hW⟩ hl
set_option maxHeartbeats 4000000 in
set_option maxRecDepth 10000 in
theorem lc_guest (C : LCx p l s m meth c b L xs D cy) (hN : N < 1800) (hj : j + 7 ≤ L) (hcs : cells + 1 ≤ room_1.cells ∧ slots + 6 ≤ room_1.slots) (hl : lv_has ls 7 (lvL b ax am ao (nI j))) (hW : LW D cy s N ax am ao H locs) (kk : LK p l e s m below meth c cells slots b j N ax am ao D cy) : W p l e room_1 s m #[.ref b] below meth c H locs cells slots (lw_Z below #[.ref b] s) (F0 m 382 ls []) := by
  obtain ⟨wx, wm, bo, hI, hW⟩ := hW
  obtain ⟨C0, hK, hNs, -⟩ := id C
  have hA : ∀ q, s.heap.size ≤ q → LAf s q := fun _ h => h
  have hc0 : cells + 0 ≤ room_1.cells ∧ slots + 0 ≤ room_1.slots := ⟨by omega, by omega⟩
  obtain ⟨fx, hx⟩ := hI.x
  obtain ⟨fm, hm⟩ := hI.m
  obtain ⟨r, wx2, wm2, k8, k9, hI2⟩ := sp_guest l D (xs (j + 1)) (xs (j + 2)) hN hI
  refine lv_aload_n C0.1 C0.2.1 dL_law_382 rfl (lv_at hl 1 rfl) ?_
  refine la_arg 1 C hW.2.2 (lv_at hl 0 rfl) (lv_at hl 4 rfl) hj (by decide) (by decide +kernel) dL_law_383 dL_law_384 dL_law_386 dL_law_387 dL_law_388 ?_
  refine la_arg 2 C hW.2.2 (lv_at hl 0 rfl) (lv_at hl 4 rfl) hj (by decide) (by decide +kernel) dL_law_389 dL_law_390 dL_law_392 dL_law_393 dL_law_394 ?_
  refine c_VAi C0 hK hNs hl.1 hW hA k8 (Uw_V uw_660 uw_661 uw_662 uw_1 uw_663) rfl rfl hd_X8_guest ⟨rfl, rfl⟩ rfl hx rfl rfl rfl dL_law_395 hc0 (fun H locs hW => ?_)
  refine lv_aload_n C0.1 C0.2.1 dL_law_398 rfl (lv_at hl 2 rfl) ?_
  refine la_arg 1 C hW.2.2 (lv_at hl 0 rfl) (lv_at hl 4 rfl) hj (by decide) (by decide +kernel) dL_law_399 dL_law_400 dL_law_402 dL_law_403 dL_law_404 ?_
  refine la_arg 2 C hW.2.2 (lv_at hl 0 rfl) (lv_at hl 4 rfl) hj (by decide) (by decide +kernel) dL_law_405 dL_law_406 dL_law_408 dL_law_409 dL_law_410 ?_
  have hW := wd_m hW
  refine c_VAi C0 hK hNs hl.1 hW hA k9 (Uw_V uw_1459 uw_1460 uw_1461 uw_14 uw_1462) rfl rfl hd_X9_guest ⟨rfl, rfl⟩ rfl hm rfl rfl rfl dL_law_411 hc0 (fun H locs hW => ?_)
  have hW := wd_b hW
  refine lv_icmp_eq (tgt := 1190) C0.1 C0.2.1 dL_law_414 (by decide) (fun _ => ?_) (fun h => absurd rfl h)
  refine W.widen (k := cells + 1) (n := slots + 6) (by omega) (by omega) ?_
  exact kk _ _ _ ⟨wx2, wm2, bo, hI2, hW⟩ hl
set_option maxHeartbeats 4000000 in
set_option maxRecDepth 10000 in
theorem lc_down (C : LCx p l s m meth c b L xs D cy) (hN : N < 1800) (hj : j + 7 ≤ L) (hcs : cells + 1 ≤ room_1.cells ∧ slots + 6 ≤ room_1.slots) (hl : lv_has ls 7 (lvL b ax am ao (nI j))) (hW : LW D cy s N ax am ao H locs) (kk : LK p l e s m below meth c cells slots b j N ax am ao D cy) : W p l e room_1 s m #[.ref b] below meth c H locs cells slots (lw_Z below #[.ref b] s) (F0 m 419 ls []) := by
  obtain ⟨wx, wm, bo, hI, hW⟩ := hW
  obtain ⟨C0, hK, hNs, -⟩ := id C
  have hA : ∀ q, s.heap.size ≤ q → LAf s q := fun _ h => h
  have hc0 : cells + 0 ≤ room_1.cells ∧ slots + 0 ≤ room_1.slots := ⟨by omega, by omega⟩
  obtain ⟨fx, hx⟩ := hI.x
  obtain ⟨fm, hm⟩ := hI.m
  obtain ⟨r, wx2, wm2, k8, k9, hI2⟩ := sp_down l D (xs (j + 1)) (xs (j + 2)) hN hI
  refine lv_aload_n C0.1 C0.2.1 dL_law_419 rfl (lv_at hl 1 rfl) ?_
  refine la_arg 1 C hW.2.2 (lv_at hl 0 rfl) (lv_at hl 4 rfl) hj (by decide) (by decide +kernel) dL_law_420 dL_law_421 dL_law_423 dL_law_424 dL_law_425 ?_
  refine la_arg 2 C hW.2.2 (lv_at hl 0 rfl) (lv_at hl 4 rfl) hj (by decide) (by decide +kernel) dL_law_426 dL_law_427 dL_law_429 dL_law_430 dL_law_431 ?_
  refine c_VAi C0 hK hNs hl.1 hW hA k8 (Uw_V uw_681 uw_682 uw_683 uw_1 uw_684) rfl rfl hd_X8_down ⟨rfl, rfl⟩ rfl hx rfl rfl rfl dL_law_432 hc0 (fun H locs hW => ?_)
  refine lv_aload_n C0.1 C0.2.1 dL_law_435 rfl (lv_at hl 2 rfl) ?_
  refine la_arg 1 C hW.2.2 (lv_at hl 0 rfl) (lv_at hl 4 rfl) hj (by decide) (by decide +kernel) dL_law_436 dL_law_437 dL_law_439 dL_law_440 dL_law_441 ?_
  refine la_arg 2 C hW.2.2 (lv_at hl 0 rfl) (lv_at hl 4 rfl) hj (by decide) (by decide +kernel) dL_law_442 dL_law_443 dL_law_445 dL_law_446 dL_law_447 ?_
  have hW := wd_m hW
  refine c_VAi C0 hK hNs hl.1 hW hA k9 (Uw_V uw_1483 uw_1484 uw_1485 uw_14 uw_1486) rfl rfl hd_X9_down ⟨rfl, rfl⟩ rfl hm rfl rfl rfl dL_law_448 hc0 (fun H locs hW => ?_)
  have hW := wd_b hW
  refine lv_icmp_eq (tgt := 1190) C0.1 C0.2.1 dL_law_451 (by decide) (fun _ => ?_) (fun h => absurd rfl h)
  refine W.widen (k := cells + 1) (n := slots + 6) (by omega) (by omega) ?_
  exact kk _ _ _ ⟨wx2, wm2, bo, hI2, hW⟩ hl
set_option maxHeartbeats 4000000 in
set_option maxRecDepth 10000 in
theorem lc_up (C : LCx p l s m meth c b L xs D cy) (hN : N < 1800) (hj : j + 7 ≤ L) (hcs : cells + 1 ≤ room_1.cells ∧ slots + 6 ≤ room_1.slots) (hl : lv_has ls 7 (lvL b ax am ao (nI j))) (hW : LW D cy s N ax am ao H locs) (kk : LK p l e s m below meth c cells slots b j N ax am ao D cy) : W p l e room_1 s m #[.ref b] below meth c H locs cells slots (lw_Z below #[.ref b] s) (F0 m 456 ls []) := by
  obtain ⟨wx, wm, bo, hI, hW⟩ := hW
  obtain ⟨C0, hK, hNs, -⟩ := id C
  have hA : ∀ q, s.heap.size ≤ q → LAf s q := fun _ h => h
  have hc0 : cells + 0 ≤ room_1.cells ∧ slots + 0 ≤ room_1.slots := ⟨by omega, by omega⟩
  obtain ⟨fx, hx⟩ := hI.x
  obtain ⟨fm, hm⟩ := hI.m
  obtain ⟨r, wx2, wm2, k8, k9, hI2⟩ := sp_up l D (xs (j + 1)) hN hI
  refine lv_aload_n C0.1 C0.2.1 dL_law_456 rfl (lv_at hl 1 rfl) ?_
  refine la_arg 1 C hW.2.2 (lv_at hl 0 rfl) (lv_at hl 4 rfl) hj (by decide) (by decide +kernel) dL_law_457 dL_law_458 dL_law_460 dL_law_461 dL_law_462 ?_
  refine c_VAi C0 hK hNs hl.1 hW hA k8 (Uw_V uw_706 uw_707 uw_708 uw_1 uw_709) rfl rfl hd_X8_up ⟨rfl, rfl⟩ rfl hx rfl rfl rfl dL_law_463 hc0 (fun H locs hW => ?_)
  refine lv_aload_n C0.1 C0.2.1 dL_law_466 rfl (lv_at hl 2 rfl) ?_
  refine la_arg 1 C hW.2.2 (lv_at hl 0 rfl) (lv_at hl 4 rfl) hj (by decide) (by decide +kernel) dL_law_467 dL_law_468 dL_law_470 dL_law_471 dL_law_472 ?_
  have hW := wd_m hW
  refine c_VAi C0 hK hNs hl.1 hW hA k9 (Uw_V uw_1498 uw_1499 uw_1500 uw_14 uw_1501) rfl rfl hd_X9_up ⟨rfl, rfl⟩ rfl hm rfl rfl rfl dL_law_473 hc0 (fun H locs hW => ?_)
  have hW := wd_b hW
  refine lv_icmp_eq (tgt := 1190) C0.1 C0.2.1 dL_law_476 (by decide) (fun _ => ?_) (fun h => absurd rfl h)
  refine W.widen (k := cells + 1) (n := slots + 6) (by omega) (by omega) ?_
  exact kk _ _ _ ⟨wx2, wm2, bo, hI2, hW⟩ hl
set_option maxHeartbeats 4000000 in
set_option maxRecDepth 10000 in
theorem lc_through (C : LCx p l s m meth c b L xs D cy) (hN : N < 1800) (hj : j + 7 ≤ L) (hcs : cells + 1 ≤ room_1.cells ∧ slots + 6 ≤ room_1.slots) (hl : lv_has ls 7 (lvL b ax am ao (nI j))) (hW : LW D cy s N ax am ao H locs) (kk : LK p l e s m below meth c cells slots b j N ax am ao D cy) : W p l e room_1 s m #[.ref b] below meth c H locs cells slots (lw_Z below #[.ref b] s) (F0 m 481 ls []) := by
  obtain ⟨wx, wm, bo, hI, hW⟩ := hW
  obtain ⟨C0, hK, hNs, -⟩ := id C
  have hA : ∀ q, s.heap.size ≤ q → LAf s q := fun _ h => h
  have hc0 : cells + 0 ≤ room_1.cells ∧ slots + 0 ≤ room_1.slots := ⟨by omega, by omega⟩
  obtain ⟨fx, hx⟩ := hI.x
  obtain ⟨fm, hm⟩ := hI.m
  obtain ⟨r, wx2, wm2, k8, k9, hI2⟩ := sp_through l D (xs (j + 1)) (xs (j + 2)) hN hI
  refine lv_aload_n C0.1 C0.2.1 dL_law_481 rfl (lv_at hl 1 rfl) ?_
  refine la_arg 1 C hW.2.2 (lv_at hl 0 rfl) (lv_at hl 4 rfl) hj (by decide) (by decide +kernel) dL_law_482 dL_law_483 dL_law_485 dL_law_486 dL_law_487 ?_
  refine la_arg 2 C hW.2.2 (lv_at hl 0 rfl) (lv_at hl 4 rfl) hj (by decide) (by decide +kernel) dL_law_488 dL_law_489 dL_law_491 dL_law_492 dL_law_493 ?_
  refine c_VAi C0 hK hNs hl.1 hW hA k8 (Uw_V uw_714 uw_715 uw_716 uw_1 uw_717) rfl rfl hd_X8_through ⟨rfl, rfl⟩ rfl hx rfl rfl rfl dL_law_494 hc0 (fun H locs hW => ?_)
  refine lv_aload_n C0.1 C0.2.1 dL_law_497 rfl (lv_at hl 2 rfl) ?_
  refine la_arg 1 C hW.2.2 (lv_at hl 0 rfl) (lv_at hl 4 rfl) hj (by decide) (by decide +kernel) dL_law_498 dL_law_499 dL_law_501 dL_law_502 dL_law_503 ?_
  refine la_arg 2 C hW.2.2 (lv_at hl 0 rfl) (lv_at hl 4 rfl) hj (by decide) (by decide +kernel) dL_law_504 dL_law_505 dL_law_507 dL_law_508 dL_law_509 ?_
  have hW := wd_m hW
  refine c_VAi C0 hK hNs hl.1 hW hA k9 (Uw_V uw_1502 uw_1503 uw_1504 uw_14 uw_1505) rfl rfl hd_X9_through ⟨rfl, rfl⟩ rfl hm rfl rfl rfl dL_law_510 hc0 (fun H locs hW => ?_)
  have hW := wd_b hW
  refine lv_icmp_eq (tgt := 1190) C0.1 C0.2.1 dL_law_513 (by decide) (fun _ => ?_) (fun h => absurd rfl h)
  refine W.widen (k := cells + 1) (n := slots + 6) (by omega) (by omega) ?_
  exact kk _ _ _ ⟨wx2, wm2, bo, hI2, hW⟩ hl
set_option maxHeartbeats 4000000 in
set_option maxRecDepth 10000 in
theorem lc_bring (C : LCx p l s m meth c b L xs D cy) (hN : N < 1800) (hj : j + 7 ≤ L) (hcs : cells + 1 ≤ room_1.cells ∧ slots + 6 ≤ room_1.slots) (hl : lv_has ls 7 (lvL b ax am ao (nI j))) (hW : LW D cy s N ax am ao H locs) (kk : LK p l e s m below meth c cells slots b j N ax am ao D cy) : W p l e room_1 s m #[.ref b] below meth c H locs cells slots (lw_Z below #[.ref b] s) (F0 m 518 ls []) := by
  obtain ⟨wx, wm, bo, hI, hW⟩ := hW
  obtain ⟨C0, hK, hNs, -⟩ := id C
  have hA : ∀ q, s.heap.size ≤ q → LAf s q := fun _ h => h
  have hc0 : cells + 0 ≤ room_1.cells ∧ slots + 0 ≤ room_1.slots := ⟨by omega, by omega⟩
  obtain ⟨fx, hx⟩ := hI.x
  obtain ⟨fm, hm⟩ := hI.m
  obtain ⟨r, wx2, wm2, k8, k9, hI2⟩ := sp_bring l D (xs (j + 1)) hN hI
  refine lv_aload_n C0.1 C0.2.1 dL_law_518 rfl (lv_at hl 1 rfl) ?_
  refine la_arg 1 C hW.2.2 (lv_at hl 0 rfl) (lv_at hl 4 rfl) hj (by decide) (by decide +kernel) dL_law_519 dL_law_520 dL_law_522 dL_law_523 dL_law_524 ?_
  refine c_VAi C0 hK hNs hl.1 hW hA k8 (Uw_V uw_723 uw_724 uw_725 uw_1 uw_726) rfl rfl hd_X8_bring ⟨rfl, rfl⟩ rfl hx rfl rfl rfl dL_law_525 hc0 (fun H locs hW => ?_)
  refine lv_aload_n C0.1 C0.2.1 dL_law_528 rfl (lv_at hl 2 rfl) ?_
  refine la_arg 1 C hW.2.2 (lv_at hl 0 rfl) (lv_at hl 4 rfl) hj (by decide) (by decide +kernel) dL_law_529 dL_law_530 dL_law_532 dL_law_533 dL_law_534 ?_
  have hW := wd_m hW
  refine c_VAi C0 hK hNs hl.1 hW hA k9 (Uw_V uw_1510 uw_1511 uw_1512 uw_14 uw_1513) rfl rfl hd_X9_bring ⟨rfl, rfl⟩ rfl hm rfl rfl rfl dL_law_535 hc0 (fun H locs hW => ?_)
  have hW := wd_b hW
  refine lv_icmp_eq (tgt := 1190) C0.1 C0.2.1 dL_law_538 (by decide) (fun _ => ?_) (fun h => absurd rfl h)
  refine W.widen (k := cells + 1) (n := slots + 6) (by omega) (by omega) ?_
  exact kk _ _ _ ⟨wx2, wm2, bo, hI2, hW⟩ hl
set_option maxHeartbeats 4000000 in
set_option maxRecDepth 10000 in
theorem lc_day (C : LCx p l s m meth c b L xs D cy) (hN : N < 1800) (hj : j + 7 ≤ L) (hcs : cells + 1 ≤ room_1.cells ∧ slots + 6 ≤ room_1.slots) (hl : lv_has ls 7 (lvL b ax am ao (nI j))) (hW : LW D cy s N ax am ao H locs) (kk : LK p l e s m below meth c cells slots b j N ax am ao D cy) : W p l e room_1 s m #[.ref b] below meth c H locs cells slots (lw_Z below #[.ref b] s) (F0 m 543 ls []) := by
  obtain ⟨wx, wm, bo, hI, hW⟩ := hW
  obtain ⟨C0, hK, hNs, -⟩ := id C
  have hA : ∀ q, s.heap.size ≤ q → LAf s q := fun _ h => h
  have hc0 : cells + 0 ≤ room_1.cells ∧ slots + 0 ≤ room_1.slots := ⟨by omega, by omega⟩
  obtain ⟨fx, hx⟩ := hI.x
  obtain ⟨fm, hm⟩ := hI.m
  obtain ⟨r, wx2, wm2, k8, k9, hI2⟩ := sp_day l D  hN hI
  refine lv_aload_n C0.1 C0.2.1 dL_law_543 rfl (lv_at hl 1 rfl) ?_
  refine c_VAi C0 hK hNs hl.1 hW hA k8 (Uw_V uw_732 uw_733 uw_734 uw_1 uw_735) rfl rfl hd_X8_day ⟨rfl, rfl⟩ rfl hx rfl rfl rfl dL_law_544 hc0 (fun H locs hW => ?_)
  refine lv_aload_n C0.1 C0.2.1 dL_law_547 rfl (lv_at hl 2 rfl) ?_
  have hW := wd_m hW
  refine c_VAi C0 hK hNs hl.1 hW hA k9 (Uw_V uw_1519 uw_1520 uw_1521 uw_14 uw_1522) rfl rfl hd_X9_day ⟨rfl, rfl⟩ rfl hm rfl rfl rfl dL_law_548 hc0 (fun H locs hW => ?_)
  have hW := wd_b hW
  refine lv_icmp_eq (tgt := 1190) C0.1 C0.2.1 dL_law_551 (by decide) (fun _ => ?_) (fun h => absurd rfl h)
  refine W.widen (k := cells + 1) (n := slots + 6) (by omega) (by omega) ?_
  exact kk _ _ _ ⟨wx2, wm2, bo, hI2, hW⟩ hl
set_option maxHeartbeats 4000000 in
set_option maxRecDepth 10000 in
theorem lc_undo (C : LCx p l s m meth c b L xs D cy) (hN : N < 1800) (hj : j + 7 ≤ L) (hcs : cells + 1 ≤ room_1.cells ∧ slots + 6 ≤ room_1.slots) (hl : lv_has ls 7 (lvL b ax am ao (nI j))) (hW : LW D cy s N ax am ao H locs) (kk : LK p l e s m below meth c cells slots b j N ax am ao D cy) : W p l e room_1 s m #[.ref b] below meth c H locs cells slots (lw_Z below #[.ref b] s) (F0 m 556 ls []) := by
  obtain ⟨wx, wm, bo, hI, hW⟩ := hW
  obtain ⟨C0, hK, hNs, -⟩ := id C
  have hA : ∀ q, s.heap.size ≤ q → LAf s q := fun _ h => h
  have hc0 : cells + 0 ≤ room_1.cells ∧ slots + 0 ≤ room_1.slots := ⟨by omega, by omega⟩
  obtain ⟨fx, hx⟩ := hI.x
  obtain ⟨fm, hm⟩ := hI.m
  obtain ⟨r, wx2, wm2, k8, k9, hI2⟩ := sp_undo l D  hN hI
  refine lv_aload_n C0.1 C0.2.1 dL_law_556 rfl (lv_at hl 1 rfl) ?_
  refine c_VAi C0 hK hNs hl.1 hW hA k8 (Uw_V uw_747 uw_748 uw_749 uw_1 uw_750) rfl rfl hd_X8_undo ⟨rfl, rfl⟩ rfl hx rfl rfl rfl dL_law_557 hc0 (fun H locs hW => ?_)
  refine lv_aload_n C0.1 C0.2.1 dL_law_560 rfl (lv_at hl 2 rfl) ?_
  have hW := wd_m hW
  refine c_VAi C0 hK hNs hl.1 hW hA k9 (Uw_V uw_1532 uw_1533 uw_1534 uw_14 uw_1535) rfl rfl hd_X9_undo ⟨rfl, rfl⟩ rfl hm rfl rfl rfl dL_law_561 hc0 (fun H locs hW => ?_)
  have hW := wd_b hW
  refine lv_icmp_eq (tgt := 1190) C0.1 C0.2.1 dL_law_564 (by decide) (fun _ => ?_) (fun h => absurd rfl h)
  refine W.widen (k := cells + 1) (n := slots + 6) (by omega) (by omega) ?_
  exact kk _ _ _ ⟨wx2, wm2, bo, hI2, hW⟩ hl
set_option maxHeartbeats 4000000 in
set_option maxRecDepth 10000 in
theorem lc_judged (C : LCx p l s m meth c b L xs D cy) (hN : N < 1800) (hj : j + 7 ≤ L) (hcs : cells + 1 ≤ room_1.cells ∧ slots + 6 ≤ room_1.slots) (hl : lv_has ls 7 (lvL b ax am ao (nI j))) (hW : LW D cy s N ax am ao H locs) (kk : LK p l e s m below meth c cells slots b j N ax am ao D cy) : W p l e room_1 s m #[.ref b] below meth c H locs cells slots (lw_Z below #[.ref b] s) (F0 m 569 ls []) := by
  obtain ⟨wx, wm, bo, hI, hW⟩ := hW
  obtain ⟨C0, hK, hNs, -⟩ := id C
  have hA : ∀ q, s.heap.size ≤ q → LAf s q := fun _ h => h
  have hc0 : cells + 0 ≤ room_1.cells ∧ slots + 0 ≤ room_1.slots := ⟨by omega, by omega⟩
  obtain ⟨fx, hx⟩ := hI.x
  obtain ⟨fm, hm⟩ := hI.m
  obtain ⟨r, wx2, wm2, k8, k9, hI2⟩ := sp_judged l D (xs (j + 1)) hN hI
  refine lv_aload_n C0.1 C0.2.1 dL_law_569 rfl (lv_at hl 1 rfl) ?_
  refine la_arg 1 C hW.2.2 (lv_at hl 0 rfl) (lv_at hl 4 rfl) hj (by decide) (by decide +kernel) dL_law_570 dL_law_571 dL_law_573 dL_law_574 dL_law_575 ?_
  refine c_VAi C0 hK hNs hl.1 hW hA k8 (Uw_V uw_751 uw_752 uw_753 uw_1 uw_754) rfl rfl hd_X8_judged ⟨rfl, rfl⟩ rfl hx rfl rfl rfl dL_law_576 hc0 (fun H locs hW => ?_)
  refine lv_aload_n C0.1 C0.2.1 dL_law_579 rfl (lv_at hl 2 rfl) ?_
  refine la_arg 1 C hW.2.2 (lv_at hl 0 rfl) (lv_at hl 4 rfl) hj (by decide) (by decide +kernel) dL_law_580 dL_law_581 dL_law_583 dL_law_584 dL_law_585 ?_
  have hW := wd_m hW
  refine c_VAi C0 hK hNs hl.1 hW hA k9 (Uw_V uw_1536 uw_1537 uw_1538 uw_14 uw_1539) rfl rfl hd_X9_judged ⟨rfl, rfl⟩ rfl hm rfl rfl rfl dL_law_586 hc0 (fun H locs hW => ?_)
  have hW := wd_b hW
  refine lv_icmp_eq (tgt := 1190) C0.1 C0.2.1 dL_law_589 (by decide) (fun _ => ?_) (fun h => absurd rfl h)
  refine W.widen (k := cells + 1) (n := slots + 6) (by omega) (by omega) ?_
  exact kk _ _ _ ⟨wx2, wm2, bo, hI2, hW⟩ hl
set_option maxHeartbeats 4000000 in
set_option maxRecDepth 10000 in
theorem lc_lasts (C : LCx p l s m meth c b L xs D cy) (hN : N < 1800) (hj : j + 7 ≤ L) (hcs : cells + 1 ≤ room_1.cells ∧ slots + 6 ≤ room_1.slots) (hl : lv_has ls 7 (lvL b ax am ao (nI j))) (hW : LW D cy s N ax am ao H locs) (kk : LK p l e s m below meth c cells slots b j N ax am ao D cy) : W p l e room_1 s m #[.ref b] below meth c H locs cells slots (lw_Z below #[.ref b] s) (F0 m 594 ls []) := by
  obtain ⟨wx, wm, bo, hI, hW⟩ := hW
  obtain ⟨C0, hK, hNs, -⟩ := id C
  have hA : ∀ q, s.heap.size ≤ q → LAf s q := fun _ h => h
  have hc0 : cells + 0 ≤ room_1.cells ∧ slots + 0 ≤ room_1.slots := ⟨by omega, by omega⟩
  obtain ⟨fx, hx⟩ := hI.x
  obtain ⟨fm, hm⟩ := hI.m
  obtain ⟨r, wx2, wm2, k8, k9, hI2⟩ := sp_lasts l D (xs (j + 1)) hN hI
  refine lv_aload_n C0.1 C0.2.1 dL_law_594 rfl (lv_at hl 1 rfl) ?_
  refine la_arg 1 C hW.2.2 (lv_at hl 0 rfl) (lv_at hl 4 rfl) hj (by decide) (by decide +kernel) dL_law_595 dL_law_596 dL_law_598 dL_law_599 dL_law_600 ?_
  refine c_VAi C0 hK hNs hl.1 hW hA k8 (Uw_V uw_771 uw_772 uw_773 uw_1 uw_774) rfl rfl hd_X8_lasts ⟨rfl, rfl⟩ rfl hx rfl rfl rfl dL_law_601 hc0 (fun H locs hW => ?_)
  refine lv_aload_n C0.1 C0.2.1 dL_law_604 rfl (lv_at hl 2 rfl) ?_
  refine la_arg 1 C hW.2.2 (lv_at hl 0 rfl) (lv_at hl 4 rfl) hj (by decide) (by decide +kernel) dL_law_605 dL_law_606 dL_law_608 dL_law_609 dL_law_610 ?_
  have hW := wd_m hW
  refine c_VAi C0 hK hNs hl.1 hW hA k9 (Uw_V uw_1544 uw_1545 uw_1546 uw_14 uw_1547) rfl rfl hd_X9_lasts ⟨rfl, rfl⟩ rfl hm rfl rfl rfl dL_law_611 hc0 (fun H locs hW => ?_)
  have hW := wd_b hW
  refine lv_icmp_eq (tgt := 1190) C0.1 C0.2.1 dL_law_614 (by decide) (fun _ => ?_) (fun h => absurd rfl h)
  refine W.widen (k := cells + 1) (n := slots + 6) (by omega) (by omega) ?_
  exact kk _ _ _ ⟨wx2, wm2, bo, hI2, hW⟩ hl
set_option maxHeartbeats 4000000 in
set_option maxRecDepth 10000 in
theorem lc_safe (C : LCx p l s m meth c b L xs D cy) (hN : N < 1800) (hj : j + 7 ≤ L) (hcs : cells + 1 ≤ room_1.cells ∧ slots + 6 ≤ room_1.slots) (hl : lv_has ls 7 (lvL b ax am ao (nI j))) (hW : LW D cy s N ax am ao H locs) (kk : LK p l e s m below meth c cells slots b j N ax am ao D cy) : W p l e room_1 s m #[.ref b] below meth c H locs cells slots (lw_Z below #[.ref b] s) (F0 m 619 ls []) := by
  obtain ⟨wx, wm, bo, hI, hW⟩ := hW
  obtain ⟨C0, hK, hNs, -⟩ := id C
  have hA : ∀ q, s.heap.size ≤ q → LAf s q := fun _ h => h
  have hc0 : cells + 0 ≤ room_1.cells ∧ slots + 0 ≤ room_1.slots := ⟨by omega, by omega⟩
  obtain ⟨fx, hx⟩ := hI.x
  obtain ⟨fm, hm⟩ := hI.m
  obtain ⟨r, wx2, wm2, k8, k9, hI2⟩ := sp_safe l D (xs (j + 1)) hN hI
  refine lv_aload_n C0.1 C0.2.1 dL_law_619 rfl (lv_at hl 1 rfl) ?_
  refine la_arg 1 C hW.2.2 (lv_at hl 0 rfl) (lv_at hl 4 rfl) hj (by decide) (by decide +kernel) dL_law_620 dL_law_621 dL_law_623 dL_law_624 dL_law_625 ?_
  refine c_VAi C0 hK hNs hl.1 hW hA k8 (Uw_V uw_779 uw_780 uw_781 uw_1 uw_782) rfl rfl hd_X8_safe ⟨rfl, rfl⟩ rfl hx rfl rfl rfl dL_law_626 hc0 (fun H locs hW => ?_)
  refine lv_aload_n C0.1 C0.2.1 dL_law_629 rfl (lv_at hl 2 rfl) ?_
  refine la_arg 1 C hW.2.2 (lv_at hl 0 rfl) (lv_at hl 4 rfl) hj (by decide) (by decide +kernel) dL_law_630 dL_law_631 dL_law_633 dL_law_634 dL_law_635 ?_
  have hW := wd_m hW
  refine c_VAi C0 hK hNs hl.1 hW hA k9 (Uw_V uw_1552 uw_1553 uw_1554 uw_14 uw_1555) rfl rfl hd_X9_safe ⟨rfl, rfl⟩ rfl hm rfl rfl rfl dL_law_636 hc0 (fun H locs hW => ?_)
  have hW := wd_b hW
  refine lv_icmp_eq (tgt := 1190) C0.1 C0.2.1 dL_law_639 (by decide) (fun _ => ?_) (fun h => absurd rfl h)
  refine W.widen (k := cells + 1) (n := slots + 6) (by omega) (by omega) ?_
  exact kk _ _ _ ⟨wx2, wm2, bo, hI2, hW⟩ hl
set_option maxHeartbeats 4000000 in
set_option maxRecDepth 10000 in
theorem lc_refuge (C : LCx p l s m meth c b L xs D cy) (hN : N < 1800) (hj : j + 7 ≤ L) (hcs : cells + 1 ≤ room_1.cells ∧ slots + 6 ≤ room_1.slots) (hl : lv_has ls 7 (lvL b ax am ao (nI j))) (hW : LW D cy s N ax am ao H locs) (kk : LK p l e s m below meth c cells slots b j N ax am ao D cy) : W p l e room_1 s m #[.ref b] below meth c H locs cells slots (lw_Z below #[.ref b] s) (F0 m 644 ls []) := by
  obtain ⟨wx, wm, bo, hI, hW⟩ := hW
  obtain ⟨C0, hK, hNs, -⟩ := id C
  have hA : ∀ q, s.heap.size ≤ q → LAf s q := fun _ h => h
  have hc0 : cells + 0 ≤ room_1.cells ∧ slots + 0 ≤ room_1.slots := ⟨by omega, by omega⟩
  obtain ⟨fx, hx⟩ := hI.x
  obtain ⟨fm, hm⟩ := hI.m
  obtain ⟨r, wx2, wm2, k8, k9, hI2⟩ := sp_refuge l D (xs (j + 1)) hN hI
  refine lv_aload_n C0.1 C0.2.1 dL_law_644 rfl (lv_at hl 1 rfl) ?_
  refine la_arg 1 C hW.2.2 (lv_at hl 0 rfl) (lv_at hl 4 rfl) hj (by decide) (by decide +kernel) dL_law_645 dL_law_646 dL_law_648 dL_law_649 dL_law_650 ?_
  refine c_VAi C0 hK hNs hl.1 hW hA k8 (Uw_V uw_788 uw_789 uw_790 uw_1 uw_791) rfl rfl hd_X8_refuge ⟨rfl, rfl⟩ rfl hx rfl rfl rfl dL_law_651 hc0 (fun H locs hW => ?_)
  refine lv_aload_n C0.1 C0.2.1 dL_law_654 rfl (lv_at hl 2 rfl) ?_
  refine la_arg 1 C hW.2.2 (lv_at hl 0 rfl) (lv_at hl 4 rfl) hj (by decide) (by decide +kernel) dL_law_655 dL_law_656 dL_law_658 dL_law_659 dL_law_660 ?_
  have hW := wd_m hW
  refine c_VAi C0 hK hNs hl.1 hW hA k9 (Uw_V uw_1560 uw_1561 uw_1562 uw_14 uw_1563) rfl rfl hd_X9_refuge ⟨rfl, rfl⟩ rfl hm rfl rfl rfl dL_law_661 hc0 (fun H locs hW => ?_)
  have hW := wd_b hW
  refine lv_icmp_eq (tgt := 1190) C0.1 C0.2.1 dL_law_664 (by decide) (fun _ => ?_) (fun h => absurd rfl h)
  refine W.widen (k := cells + 1) (n := slots + 6) (by omega) (by omega) ?_
  exact kk _ _ _ ⟨wx2, wm2, bo, hI2, hW⟩ hl
set_option maxHeartbeats 4000000 in
set_option maxRecDepth 10000 in
theorem lc_sacks (C : LCx p l s m meth c b L xs D cy) (hN : N < 1800) (hj : j + 7 ≤ L) (hcs : cells + 1 ≤ room_1.cells ∧ slots + 6 ≤ room_1.slots) (hl : lv_has ls 7 (lvL b ax am ao (nI j))) (hW : LW D cy s N ax am ao H locs) (kk : LK p l e s m below meth c cells slots b j N ax am ao D cy) : W p l e room_1 s m #[.ref b] below meth c H locs cells slots (lw_Z below #[.ref b] s) (F0 m 669 ls []) := by
  obtain ⟨wx, wm, bo, hI, hW⟩ := hW
  obtain ⟨C0, hK, hNs, -⟩ := id C
  have hA : ∀ q, s.heap.size ≤ q → LAf s q := fun _ h => h
  have hc0 : cells + 0 ≤ room_1.cells ∧ slots + 0 ≤ room_1.slots := ⟨by omega, by omega⟩
  obtain ⟨fx, hx⟩ := hI.x
  obtain ⟨fm, hm⟩ := hI.m
  obtain ⟨r, wx2, wm2, k8, k9, hI2⟩ := sp_sacks l D (xs (j + 1)) (xs (j + 2)) hN hI
  refine lv_aload_n C0.1 C0.2.1 dL_law_669 rfl (lv_at hl 1 rfl) ?_
  refine la_arg 1 C hW.2.2 (lv_at hl 0 rfl) (lv_at hl 4 rfl) hj (by decide) (by decide +kernel) dL_law_670 dL_law_671 dL_law_673 dL_law_674 dL_law_675 ?_
  refine la_arg 2 C hW.2.2 (lv_at hl 0 rfl) (lv_at hl 4 rfl) hj (by decide) (by decide +kernel) dL_law_676 dL_law_677 dL_law_679 dL_law_680 dL_law_681 ?_
  refine c_VAi C0 hK hNs hl.1 hW hA k8 (Uw_V uw_794 uw_795 uw_796 uw_1 uw_797) rfl rfl hd_X8_sacks ⟨rfl, rfl⟩ rfl hx rfl rfl rfl dL_law_682 hc0 (fun H locs hW => ?_)
  refine lv_aload_n C0.1 C0.2.1 dL_law_685 rfl (lv_at hl 2 rfl) ?_
  refine la_arg 1 C hW.2.2 (lv_at hl 0 rfl) (lv_at hl 4 rfl) hj (by decide) (by decide +kernel) dL_law_686 dL_law_687 dL_law_689 dL_law_690 dL_law_691 ?_
  refine la_arg 2 C hW.2.2 (lv_at hl 0 rfl) (lv_at hl 4 rfl) hj (by decide) (by decide +kernel) dL_law_692 dL_law_693 dL_law_695 dL_law_696 dL_law_697 ?_
  have hW := wd_m hW
  refine c_VAi C0 hK hNs hl.1 hW hA k9 (Uw_V uw_1564 uw_1565 uw_1566 uw_14 uw_1567) rfl rfl hd_X9_sacks ⟨rfl, rfl⟩ rfl hm rfl rfl rfl dL_law_698 hc0 (fun H locs hW => ?_)
  have hW := wd_b hW
  refine lv_icmp_eq (tgt := 1190) C0.1 C0.2.1 dL_law_701 (by decide) (fun _ => ?_) (fun h => absurd rfl h)
  refine W.widen (k := cells + 1) (n := slots + 6) (by omega) (by omega) ?_
  exact kk _ _ _ ⟨wx2, wm2, bo, hI2, hW⟩ hl
set_option maxHeartbeats 4000000 in
set_option maxRecDepth 10000 in
theorem lc_lodging (C : LCx p l s m meth c b L xs D cy) (hN : N < 1800) (hj : j + 7 ≤ L) (hcs : cells + 1 ≤ room_1.cells ∧ slots + 6 ≤ room_1.slots) (hl : lv_has ls 7 (lvL b ax am ao (nI j))) (hW : LW D cy s N ax am ao H locs) (kk : LK p l e s m below meth c cells slots b j N ax am ao D cy) : W p l e room_1 s m #[.ref b] below meth c H locs cells slots (lw_Z below #[.ref b] s) (F0 m 706 ls []) := by
  obtain ⟨wx, wm, bo, hI, hW⟩ := hW
  obtain ⟨C0, hK, hNs, -⟩ := id C
  have hA : ∀ q, s.heap.size ≤ q → LAf s q := fun _ h => h
  have hc0 : cells + 0 ≤ room_1.cells ∧ slots + 0 ≤ room_1.slots := ⟨by omega, by omega⟩
  obtain ⟨fx, hx⟩ := hI.x
  obtain ⟨fm, hm⟩ := hI.m
  obtain ⟨r, wx2, wm2, k8, k9, hI2⟩ := sp_lodging l D (xs (j + 1)) (xs (j + 2)) hN hI
  refine lv_aload_n C0.1 C0.2.1 dL_law_706 rfl (lv_at hl 1 rfl) ?_
  refine la_arg 1 C hW.2.2 (lv_at hl 0 rfl) (lv_at hl 4 rfl) hj (by decide) (by decide +kernel) dL_law_707 dL_law_708 dL_law_710 dL_law_711 dL_law_712 ?_
  refine la_arg 2 C hW.2.2 (lv_at hl 0 rfl) (lv_at hl 4 rfl) hj (by decide) (by decide +kernel) dL_law_713 dL_law_714 dL_law_716 dL_law_717 dL_law_718 ?_
  refine c_VAi C0 hK hNs hl.1 hW hA k8 (Uw_V uw_807 uw_808 uw_809 uw_1 uw_810) rfl rfl hd_X8_lodging ⟨rfl, rfl⟩ rfl hx rfl rfl rfl dL_law_719 hc0 (fun H locs hW => ?_)
  refine lv_aload_n C0.1 C0.2.1 dL_law_722 rfl (lv_at hl 2 rfl) ?_
  refine la_arg 1 C hW.2.2 (lv_at hl 0 rfl) (lv_at hl 4 rfl) hj (by decide) (by decide +kernel) dL_law_723 dL_law_724 dL_law_726 dL_law_727 dL_law_728 ?_
  refine la_arg 2 C hW.2.2 (lv_at hl 0 rfl) (lv_at hl 4 rfl) hj (by decide) (by decide +kernel) dL_law_729 dL_law_730 dL_law_732 dL_law_733 dL_law_734 ?_
  have hW := wd_m hW
  refine c_VAi C0 hK hNs hl.1 hW hA k9 (Uw_V uw_1576 uw_1577 uw_1578 uw_14 uw_1579) rfl rfl hd_X9_lodging ⟨rfl, rfl⟩ rfl hm rfl rfl rfl dL_law_735 hc0 (fun H locs hW => ?_)
  have hW := wd_b hW
  refine lv_icmp_eq (tgt := 1190) C0.1 C0.2.1 dL_law_738 (by decide) (fun _ => ?_) (fun h => absurd rfl h)
  refine W.widen (k := cells + 1) (n := slots + 6) (by omega) (by omega) ?_
  exact kk _ _ _ ⟨wx2, wm2, bo, hI2, hW⟩ hl
set_option maxHeartbeats 4000000 in
set_option maxRecDepth 10000 in
theorem lc_note (C : LCx p l s m meth c b L xs D cy) (hN : N < 1800) (hj : j + 7 ≤ L) (hcs : cells + 1 ≤ room_1.cells ∧ slots + 6 ≤ room_1.slots) (hl : lv_has ls 7 (lvL b ax am ao (nI j))) (hW : LW D cy s N ax am ao H locs) (kk : LK p l e s m below meth c cells slots b j N ax am ao D cy) : W p l e room_1 s m #[.ref b] below meth c H locs cells slots (lw_Z below #[.ref b] s) (F0 m 743 ls []) := by
  obtain ⟨wx, wm, bo, hI, hW⟩ := hW
  obtain ⟨C0, hK, hNs, -⟩ := id C
  have hA : ∀ q, s.heap.size ≤ q → LAf s q := fun _ h => h
  have hc0 : cells + 0 ≤ room_1.cells ∧ slots + 0 ≤ room_1.slots := ⟨by omega, by omega⟩
  obtain ⟨fx, hx⟩ := hI.x
  obtain ⟨fm, hm⟩ := hI.m
  obtain ⟨r, wx2, wm2, k8, k9, hI2⟩ := sp_note l D (xs (j + 1)) (xs (j + 2)) hN hI
  refine lv_aload_n C0.1 C0.2.1 dL_law_743 rfl (lv_at hl 1 rfl) ?_
  refine la_arg 1 C hW.2.2 (lv_at hl 0 rfl) (lv_at hl 4 rfl) hj (by decide) (by decide +kernel) dL_law_744 dL_law_745 dL_law_747 dL_law_748 dL_law_749 ?_
  refine la_arg 2 C hW.2.2 (lv_at hl 0 rfl) (lv_at hl 4 rfl) hj (by decide) (by decide +kernel) dL_law_750 dL_law_751 dL_law_753 dL_law_754 dL_law_755 ?_
  refine c_VAi C0 hK hNs hl.1 hW hA k8 (Uw_V uw_861 uw_862 uw_863 uw_1 uw_864) rfl rfl hd_X8_note ⟨rfl, rfl⟩ rfl hx rfl rfl rfl dL_law_756 hc0 (fun H locs hW => ?_)
  refine lv_aload_n C0.1 C0.2.1 dL_law_759 rfl (lv_at hl 2 rfl) ?_
  refine la_arg 1 C hW.2.2 (lv_at hl 0 rfl) (lv_at hl 4 rfl) hj (by decide) (by decide +kernel) dL_law_760 dL_law_761 dL_law_763 dL_law_764 dL_law_765 ?_
  refine la_arg 2 C hW.2.2 (lv_at hl 0 rfl) (lv_at hl 4 rfl) hj (by decide) (by decide +kernel) dL_law_766 dL_law_767 dL_law_769 dL_law_770 dL_law_771 ?_
  have hW := wd_m hW
  refine c_VAi C0 hK hNs hl.1 hW hA k9 (Uw_V uw_1584 uw_1585 uw_1586 uw_14 uw_1587) rfl rfl hd_X9_note ⟨rfl, rfl⟩ rfl hm rfl rfl rfl dL_law_772 hc0 (fun H locs hW => ?_)
  have hW := wd_b hW
  refine lv_icmp_eq (tgt := 1190) C0.1 C0.2.1 dL_law_775 (by decide) (fun _ => ?_) (fun h => absurd rfl h)
  refine W.widen (k := cells + 1) (n := slots + 6) (by omega) (by omega) ?_
  exact kk _ _ _ ⟨wx2, wm2, bo, hI2, hW⟩ hl
set_option maxHeartbeats 4000000 in
set_option maxRecDepth 10000 in
theorem lc_full (C : LCx p l s m meth c b L xs D cy) (hN : N < 1800) (hj : j + 7 ≤ L) (hcs : cells + 1 ≤ room_1.cells ∧ slots + 6 ≤ room_1.slots) (hl : lv_has ls 7 (lvL b ax am ao (nI j))) (hW : LW D cy s N ax am ao H locs) (kk : LK p l e s m below meth c cells slots b j N ax am ao D cy) : W p l e room_1 s m #[.ref b] below meth c H locs cells slots (lw_Z below #[.ref b] s) (F0 m 780 ls []) := by
  obtain ⟨wx, wm, bo, hI, hW⟩ := hW
  obtain ⟨C0, hK, hNs, -⟩ := id C
  have hA : ∀ q, s.heap.size ≤ q → LAf s q := fun _ h => h
  have hc0 : cells + 0 ≤ room_1.cells ∧ slots + 0 ≤ room_1.slots := ⟨by omega, by omega⟩
  obtain ⟨fx, hx⟩ := hI.x
  obtain ⟨fm, hm⟩ := hI.m
  obtain ⟨r, wx2, wm2, k8, k9, hI2⟩ := sp_full l D  hN hI
  refine lv_aload_n C0.1 C0.2.1 dL_law_780 rfl (lv_at hl 1 rfl) ?_
  refine c_VAi C0 hK hNs hl.1 hW hA k8 (Uw_V uw_869 uw_870 uw_871 uw_1 uw_872) rfl rfl hd_X8_full ⟨rfl, rfl⟩ rfl hx rfl rfl rfl dL_law_781 hc0 (fun H locs hW => ?_)
  refine lv_aload_n C0.1 C0.2.1 dL_law_784 rfl (lv_at hl 2 rfl) ?_
  have hW := wd_m hW
  refine c_VAi C0 hK hNs hl.1 hW hA k9 (Uw_V uw_1588 uw_1589 uw_1590 uw_14 uw_1591) rfl rfl hd_X9_full ⟨rfl, rfl⟩ rfl hm rfl rfl rfl dL_law_785 hc0 (fun H locs hW => ?_)
  have hW := wd_b hW
  refine lv_icmp_eq (tgt := 1190) C0.1 C0.2.1 dL_law_788 (by decide) (fun _ => ?_) (fun h => absurd rfl h)
  refine W.widen (k := cells + 1) (n := slots + 6) (by omega) (by omega) ?_
  exact kk _ _ _ ⟨wx2, wm2, bo, hI2, hW⟩ hl
set_option maxHeartbeats 4000000 in
set_option maxRecDepth 10000 in
theorem lc_pairs (C : LCx p l s m meth c b L xs D cy) (hN : N < 1800) (hj : j + 7 ≤ L) (hcs : cells + 1 ≤ room_1.cells ∧ slots + 6 ≤ room_1.slots) (hl : lv_has ls 7 (lvL b ax am ao (nI j))) (hW : LW D cy s N ax am ao H locs) (kk : LK p l e s m below meth c cells slots b j N ax am ao D cy) : W p l e room_1 s m #[.ref b] below meth c H locs cells slots (lw_Z below #[.ref b] s) (F0 m 793 ls []) := by
  obtain ⟨wx, wm, bo, hI, hW⟩ := hW
  obtain ⟨C0, hK, hNs, -⟩ := id C
  have hA : ∀ q, s.heap.size ≤ q → LAf s q := fun _ h => h
  have hc0 : cells + 0 ≤ room_1.cells ∧ slots + 0 ≤ room_1.slots := ⟨by omega, by omega⟩
  obtain ⟨fx, hx⟩ := hI.x
  obtain ⟨fm, hm⟩ := hI.m
  obtain ⟨r, wx2, wm2, k8, k9, hI2⟩ := sp_pairs l D  hN hI
  refine lv_aload_n C0.1 C0.2.1 dL_law_793 rfl (lv_at hl 1 rfl) ?_
  refine c_VAi C0 hK hNs hl.1 hW hA k8 (Uw_V uw_873 uw_874 uw_875 uw_1 uw_876) rfl rfl hd_X8_pairs ⟨rfl, rfl⟩ rfl hx rfl rfl rfl dL_law_794 hc0 (fun H locs hW => ?_)
  refine lv_aload_n C0.1 C0.2.1 dL_law_797 rfl (lv_at hl 2 rfl) ?_
  have hW := wd_m hW
  refine c_VAi C0 hK hNs hl.1 hW hA k9 (Uw_V uw_1592 uw_1593 uw_1594 uw_14 uw_1595) rfl rfl hd_X9_pairs ⟨rfl, rfl⟩ rfl hm rfl rfl rfl dL_law_798 hc0 (fun H locs hW => ?_)
  have hW := wd_b hW
  refine lv_icmp_eq (tgt := 1190) C0.1 C0.2.1 dL_law_801 (by decide) (fun _ => ?_) (fun h => absurd rfl h)
  refine W.widen (k := cells + 1) (n := slots + 6) (by omega) (by omega) ?_
  exact kk _ _ _ ⟨wx2, wm2, bo, hI2, hW⟩ hl
set_option maxHeartbeats 4000000 in
set_option maxRecDepth 10000 in
theorem lc_line (C : LCx p l s m meth c b L xs D cy) (hN : N < 1800) (hj : j + 7 ≤ L) (hcs : cells + 1 ≤ room_1.cells ∧ slots + 6 ≤ room_1.slots) (hl : lv_has ls 7 (lvL b ax am ao (nI j))) (hW : LW D cy s N ax am ao H locs) (kk : LK p l e s m below meth c cells slots b j N ax am ao D cy) : W p l e room_1 s m #[.ref b] below meth c H locs cells slots (lw_Z below #[.ref b] s) (F0 m 806 ls []) := by
  obtain ⟨wx, wm, bo, hI, hW⟩ := hW
  obtain ⟨C0, hK, hNs, -⟩ := id C
  have hA : ∀ q, s.heap.size ≤ q → LAf s q := fun _ h => h
  have hc0 : cells + 0 ≤ room_1.cells ∧ slots + 0 ≤ room_1.slots := ⟨by omega, by omega⟩
  obtain ⟨fx, hx⟩ := hI.x
  obtain ⟨fm, hm⟩ := hI.m
  obtain ⟨r, wx2, wm2, k8, k9, hI2⟩ := sp_line l D (xs (j + 1)) (xs (j + 2)) hN hI
  refine lv_aload_n C0.1 C0.2.1 dL_law_806 rfl (lv_at hl 1 rfl) ?_
  refine la_arg 1 C hW.2.2 (lv_at hl 0 rfl) (lv_at hl 4 rfl) hj (by decide) (by decide +kernel) dL_law_807 dL_law_808 dL_law_810 dL_law_811 dL_law_812 ?_
  refine la_arg 2 C hW.2.2 (lv_at hl 0 rfl) (lv_at hl 4 rfl) hj (by decide) (by decide +kernel) dL_law_813 dL_law_814 dL_law_816 dL_law_817 dL_law_818 ?_
  refine c_VAi C0 hK hNs hl.1 hW hA k8 (Uw_V uw_878 uw_879 uw_880 uw_1 uw_881) rfl rfl hd_X8_line ⟨rfl, rfl⟩ rfl hx rfl rfl rfl dL_law_819 hc0 (fun H locs hW => ?_)
  refine lv_aload_n C0.1 C0.2.1 dL_law_822 rfl (lv_at hl 2 rfl) ?_
  refine la_arg 1 C hW.2.2 (lv_at hl 0 rfl) (lv_at hl 4 rfl) hj (by decide) (by decide +kernel) dL_law_823 dL_law_824 dL_law_826 dL_law_827 dL_law_828 ?_
  refine la_arg 2 C hW.2.2 (lv_at hl 0 rfl) (lv_at hl 4 rfl) hj (by decide) (by decide +kernel) dL_law_829 dL_law_830 dL_law_832 dL_law_833 dL_law_834 ?_
  have hW := wd_m hW
  refine c_VAi C0 hK hNs hl.1 hW hA k9 (Uw_V uw_1596 uw_1597 uw_1598 uw_14 uw_1599) rfl rfl hd_X9_line ⟨rfl, rfl⟩ rfl hm rfl rfl rfl dL_law_835 hc0 (fun H locs hW => ?_)
  have hW := wd_b hW
  refine lv_icmp_eq (tgt := 1190) C0.1 C0.2.1 dL_law_838 (by decide) (fun _ => ?_) (fun h => absurd rfl h)
  refine W.widen (k := cells + 1) (n := slots + 6) (by omega) (by omega) ?_
  exact kk _ _ _ ⟨wx2, wm2, bo, hI2, hW⟩ hl
set_option maxHeartbeats 4000000 in
set_option maxRecDepth 10000 in
theorem lc_hear (C : LCx p l s m meth c b L xs D cy) (hN : N < 1800) (hj : j + 7 ≤ L) (hcs : cells + 1 ≤ room_1.cells ∧ slots + 6 ≤ room_1.slots) (hl : lv_has ls 7 (lvL b ax am ao (nI j))) (hW : LW D cy s N ax am ao H locs) (kk : LK p l e s m below meth c cells slots b j N ax am ao D cy) : W p l e room_1 s m #[.ref b] below meth c H locs cells slots (lw_Z below #[.ref b] s) (F0 m 843 ls []) := by
  obtain ⟨wx, wm, bo, hI, hW⟩ := hW
  obtain ⟨C0, hK, hNs, -⟩ := id C
  have hA : ∀ q, s.heap.size ≤ q → LAf s q := fun _ h => h
  have hc0 : cells + 0 ≤ room_1.cells ∧ slots + 0 ≤ room_1.slots := ⟨by omega, by omega⟩
  obtain ⟨fx, hx⟩ := hI.x
  obtain ⟨fm, hm⟩ := hI.m
  obtain ⟨r, wx2, wm2, k8, k9, hI2⟩ := sp_hear l D (xs (j + 1)) (zb (xs (j + 2))) hN hI
  refine lv_aload_n C0.1 C0.2.1 dL_law_843 rfl (lv_at hl 1 rfl) ?_
  refine la_arg 1 C hW.2.2 (lv_at hl 0 rfl) (lv_at hl 4 rfl) hj (by decide) (by decide +kernel) dL_law_844 dL_law_845 dL_law_847 dL_law_848 dL_law_849 ?_
  refine la_arg 2 C hW.2.2 (lv_at hl 0 rfl) (lv_at hl 4 rfl) hj (by decide) (by decide +kernel) dL_law_850 dL_law_851 dL_law_853 dL_law_854 dL_law_855 ?_
  refine la_bool C (by decide +kernel) (by decide +kernel) dL_law_856 dL_law_859 dL_law_860 dL_law_863 ?_
  refine c_VAi C0 hK hNs hl.1 hW hA k8 (Uw_V uw_887 uw_888 uw_889 uw_1 uw_890) rfl rfl hd_X8_hear ⟨rfl, rfl⟩ rfl hx rfl rfl rfl dL_law_864 hc0 (fun H locs hW => ?_)
  refine lv_aload_n C0.1 C0.2.1 dL_law_867 rfl (lv_at hl 2 rfl) ?_
  refine la_arg 1 C hW.2.2 (lv_at hl 0 rfl) (lv_at hl 4 rfl) hj (by decide) (by decide +kernel) dL_law_868 dL_law_869 dL_law_871 dL_law_872 dL_law_873 ?_
  refine la_arg 2 C hW.2.2 (lv_at hl 0 rfl) (lv_at hl 4 rfl) hj (by decide) (by decide +kernel) dL_law_874 dL_law_875 dL_law_877 dL_law_878 dL_law_879 ?_
  refine la_bool C (by decide +kernel) (by decide +kernel) dL_law_880 dL_law_883 dL_law_884 dL_law_887 ?_
  have hW := wd_m hW
  refine c_VAi C0 hK hNs hl.1 hW hA k9 (Uw_V uw_1600 uw_1601 uw_1602 uw_14 uw_1603) rfl rfl hd_X9_hear ⟨rfl, rfl⟩ rfl hm rfl rfl rfl dL_law_888 hc0 (fun H locs hW => ?_)
  have hW := wd_b hW
  refine lv_icmp_eq (tgt := 1190) C0.1 C0.2.1 dL_law_891 (by decide) (fun _ => ?_) (fun h => absurd rfl h)
  refine W.widen (k := cells + 1) (n := slots + 6) (by omega) (by omega) ?_
  exact kk _ _ _ ⟨wx2, wm2, bo, hI2, hW⟩ hl
set_option maxHeartbeats 4000000 in
set_option maxRecDepth 10000 in
theorem lc_coals (C : LCx p l s m meth c b L xs D cy) (hN : N < 1800) (hj : j + 7 ≤ L) (hcs : cells + 1 ≤ room_1.cells ∧ slots + 6 ≤ room_1.slots) (hl : lv_has ls 7 (lvL b ax am ao (nI j))) (hW : LW D cy s N ax am ao H locs) (kk : LK p l e s m below meth c cells slots b j N ax am ao D cy) : W p l e room_1 s m #[.ref b] below meth c H locs cells slots (lw_Z below #[.ref b] s) (F0 m 896 ls []) := by
  obtain ⟨wx, wm, bo, hI, hW⟩ := hW
  obtain ⟨C0, hK, hNs, -⟩ := id C
  have hA : ∀ q, s.heap.size ≤ q → LAf s q := fun _ h => h
  have hc0 : cells + 0 ≤ room_1.cells ∧ slots + 0 ≤ room_1.slots := ⟨by omega, by omega⟩
  obtain ⟨fx, hx⟩ := hI.x
  obtain ⟨fm, hm⟩ := hI.m
  obtain ⟨r, wx2, wm2, k8, k9, hI2⟩ := sp_coals l D (xs (j + 1)) hN hI
  refine lv_aload_n C0.1 C0.2.1 dL_law_896 rfl (lv_at hl 1 rfl) ?_
  refine la_arg 1 C hW.2.2 (lv_at hl 0 rfl) (lv_at hl 4 rfl) hj (by decide) (by decide +kernel) dL_law_897 dL_law_898 dL_law_900 dL_law_901 dL_law_902 ?_
  refine c_VAi C0 hK hNs hl.1 hW hA k8 (Uw_V uw_895 uw_896 uw_897 uw_1 uw_898) rfl rfl hd_X8_coals ⟨rfl, rfl⟩ rfl hx rfl rfl rfl dL_law_903 hc0 (fun H locs hW => ?_)
  refine lv_aload_n C0.1 C0.2.1 dL_law_906 rfl (lv_at hl 2 rfl) ?_
  refine la_arg 1 C hW.2.2 (lv_at hl 0 rfl) (lv_at hl 4 rfl) hj (by decide) (by decide +kernel) dL_law_907 dL_law_908 dL_law_910 dL_law_911 dL_law_912 ?_
  have hW := wd_m hW
  refine c_VAi C0 hK hNs hl.1 hW hA k9 (Uw_V uw_1604 uw_1605 uw_1606 uw_14 uw_1607) rfl rfl hd_X9_coals ⟨rfl, rfl⟩ rfl hm rfl rfl rfl dL_law_913 hc0 (fun H locs hW => ?_)
  have hW := wd_b hW
  refine lv_icmp_eq (tgt := 1190) C0.1 C0.2.1 dL_law_916 (by decide) (fun _ => ?_) (fun h => absurd rfl h)
  refine W.widen (k := cells + 1) (n := slots + 6) (by omega) (by omega) ?_
  exact kk _ _ _ ⟨wx2, wm2, bo, hI2, hW⟩ hl
set_option maxHeartbeats 4000000 in
set_option maxRecDepth 10000 in
theorem lc_ask (C : LCx p l s m meth c b L xs D cy) (hN : N < 1800) (hj : j + 7 ≤ L) (hcs : cells + 1 ≤ room_1.cells ∧ slots + 6 ≤ room_1.slots) (hl : lv_has ls 7 (lvL b ax am ao (nI j))) (hW : LW D cy s N ax am ao H locs) (kk : LK p l e s m below meth c cells slots b j N ax am ao D cy) : W p l e room_1 s m #[.ref b] below meth c H locs cells slots (lw_Z below #[.ref b] s) (F0 m 921 ls []) := by
  obtain ⟨wx, wm, bo, hI, hW⟩ := hW
  obtain ⟨C0, hK, hNs, -⟩ := id C
  have hA : ∀ q, s.heap.size ≤ q → LAf s q := fun _ h => h
  have hc0 : cells + 0 ≤ room_1.cells ∧ slots + 0 ≤ room_1.slots := ⟨by omega, by omega⟩
  obtain ⟨fx, hx⟩ := hI.x
  obtain ⟨fm, hm⟩ := hI.m
  obtain ⟨r, wx2, wm2, k8, k9, hI2⟩ := sp_ask l D  hN hI
  refine lv_aload_n C0.1 C0.2.1 dL_law_921 rfl (lv_at hl 1 rfl) ?_
  refine c_VAi C0 hK hNs hl.1 hW hA k8 (Uw_V uw_910 uw_911 uw_912 uw_1 uw_913) rfl rfl hd_X8_ask ⟨rfl, rfl⟩ rfl hx rfl rfl rfl dL_law_922 hc0 (fun H locs hW => ?_)
  refine lv_aload_n C0.1 C0.2.1 dL_law_925 rfl (lv_at hl 2 rfl) ?_
  have hW := wd_m hW
  refine c_VAi C0 hK hNs hl.1 hW hA k9 (Uw_V uw_1616 uw_1617 uw_1618 uw_14 uw_1619) rfl rfl hd_X9_ask ⟨rfl, rfl⟩ rfl hm rfl rfl rfl dL_law_926 hc0 (fun H locs hW => ?_)
  have hW := wd_b hW
  refine lv_icmp_eq (tgt := 1190) C0.1 C0.2.1 dL_law_929 (by decide) (fun _ => ?_) (fun h => absurd rfl h)
  refine W.widen (k := cells + 1) (n := slots + 6) (by omega) (by omega) ?_
  exact kk _ _ _ ⟨wx2, wm2, bo, hI2, hW⟩ hl
set_option maxHeartbeats 4000000 in
set_option maxRecDepth 10000 in
theorem lc_colder (C : LCx p l s m meth c b L xs D cy) (hN : N < 1800) (hj : j + 7 ≤ L) (hcs : cells + 1 ≤ room_1.cells ∧ slots + 6 ≤ room_1.slots) (hl : lv_has ls 7 (lvL b ax am ao (nI j))) (hW : LW D cy s N ax am ao H locs) (kk : LK p l e s m below meth c cells slots b j N ax am ao D cy) : W p l e room_1 s m #[.ref b] below meth c H locs cells slots (lw_Z below #[.ref b] s) (F0 m 934 ls []) := by
  obtain ⟨wx, wm, bo, hI, hW⟩ := hW
  obtain ⟨C0, hK, hNs, -⟩ := id C
  have hA : ∀ q, s.heap.size ≤ q → LAf s q := fun _ h => h
  have hc0 : cells + 0 ≤ room_1.cells ∧ slots + 0 ≤ room_1.slots := ⟨by omega, by omega⟩
  obtain ⟨fx, hx⟩ := hI.x
  obtain ⟨fm, hm⟩ := hI.m
  obtain ⟨r, wx2, wm2, k8, k9, hI2⟩ := sp_colder l D (xs (j + 1)) (xs (j + 2)) hN hI
  refine lv_aload_n C0.1 C0.2.1 dL_law_934 rfl (lv_at hl 1 rfl) ?_
  refine la_arg 1 C hW.2.2 (lv_at hl 0 rfl) (lv_at hl 4 rfl) hj (by decide) (by decide +kernel) dL_law_935 dL_law_936 dL_law_938 dL_law_939 dL_law_940 ?_
  refine la_arg 2 C hW.2.2 (lv_at hl 0 rfl) (lv_at hl 4 rfl) hj (by decide) (by decide +kernel) dL_law_941 dL_law_942 dL_law_944 dL_law_945 dL_law_946 ?_
  refine c_VAi C0 hK hNs hl.1 hW hA k8 (Uw_V uw_920 uw_921 uw_922 uw_1 uw_923) rfl rfl hd_X8_colder ⟨rfl, rfl⟩ rfl hx rfl rfl rfl dL_law_947 hc0 (fun H locs hW => ?_)
  refine lv_aload_n C0.1 C0.2.1 dL_law_950 rfl (lv_at hl 2 rfl) ?_
  refine la_arg 1 C hW.2.2 (lv_at hl 0 rfl) (lv_at hl 4 rfl) hj (by decide) (by decide +kernel) dL_law_951 dL_law_952 dL_law_954 dL_law_955 dL_law_956 ?_
  refine la_arg 2 C hW.2.2 (lv_at hl 0 rfl) (lv_at hl 4 rfl) hj (by decide) (by decide +kernel) dL_law_957 dL_law_958 dL_law_960 dL_law_961 dL_law_962 ?_
  have hW := wd_m hW
  refine c_VAi C0 hK hNs hl.1 hW hA k9 (Uw_V uw_1621 uw_1622 uw_1623 uw_14 uw_1624) rfl rfl hd_X9_colder ⟨rfl, rfl⟩ rfl hm rfl rfl rfl dL_law_963 hc0 (fun H locs hW => ?_)
  have hW := wd_b hW
  refine lv_icmp_eq (tgt := 1190) C0.1 C0.2.1 dL_law_966 (by decide) (fun _ => ?_) (fun h => absurd rfl h)
  refine W.widen (k := cells + 1) (n := slots + 6) (by omega) (by omega) ?_
  exact kk _ _ _ ⟨wx2, wm2, bo, hI2, hW⟩ hl
set_option maxHeartbeats 4000000 in
set_option maxRecDepth 10000 in
theorem lc_winters (C : LCx p l s m meth c b L xs D cy) (hN : N < 1800) (hj : j + 7 ≤ L) (hcs : cells + 1 ≤ room_1.cells ∧ slots + 6 ≤ room_1.slots) (hl : lv_has ls 7 (lvL b ax am ao (nI j))) (hW : LW D cy s N ax am ao H locs) (kk : LK p l e s m below meth c cells slots b j N ax am ao D cy) : W p l e room_1 s m #[.ref b] below meth c H locs cells slots (lw_Z below #[.ref b] s) (F0 m 1063 ls []) := by
  obtain ⟨wx, wm, bo, hI, hW⟩ := hW
  obtain ⟨C0, hK, hNs, -⟩ := id C
  have hA : ∀ q, s.heap.size ≤ q → LAf s q := fun _ h => h
  have hc0 : cells + 0 ≤ room_1.cells ∧ slots + 0 ≤ room_1.slots := ⟨by omega, by omega⟩
  obtain ⟨fx, hx⟩ := hI.x
  obtain ⟨fm, hm⟩ := hI.m
  obtain ⟨r, wx2, wm2, k8, k9, hI2⟩ := sp_winters l D (xs (j + 1)) (xs (j + 2)) (xs (j + 3)) hN hI
  refine lv_aload_n C0.1 C0.2.1 dL_law_1063 rfl (lv_at hl 1 rfl) ?_
  refine la_arg 1 C hW.2.2 (lv_at hl 0 rfl) (lv_at hl 4 rfl) hj (by decide) (by decide +kernel) dL_law_1064 dL_law_1065 dL_law_1067 dL_law_1068 dL_law_1069 ?_
  refine la_arg 2 C hW.2.2 (lv_at hl 0 rfl) (lv_at hl 4 rfl) hj (by decide) (by decide +kernel) dL_law_1070 dL_law_1071 dL_law_1073 dL_law_1074 dL_law_1075 ?_
  refine la_arg 3 C hW.2.2 (lv_at hl 0 rfl) (lv_at hl 4 rfl) hj (by decide) (by decide +kernel) dL_law_1076 dL_law_1077 dL_law_1079 dL_law_1080 dL_law_1081 ?_
  refine c_VAi C0 hK hNs hl.1 hW hA k8 (Uw_V uw_927 uw_928 uw_929 uw_1 uw_930) rfl rfl hd_X8_winters ⟨rfl, rfl⟩ rfl hx rfl rfl rfl dL_law_1082 hc0 (fun H locs hW => ?_)
  refine lv_aload_n C0.1 C0.2.1 dL_law_1085 rfl (lv_at hl 2 rfl) ?_
  refine la_arg 1 C hW.2.2 (lv_at hl 0 rfl) (lv_at hl 4 rfl) hj (by decide) (by decide +kernel) dL_law_1086 dL_law_1087 dL_law_1089 dL_law_1090 dL_law_1091 ?_
  refine la_arg 2 C hW.2.2 (lv_at hl 0 rfl) (lv_at hl 4 rfl) hj (by decide) (by decide +kernel) dL_law_1092 dL_law_1093 dL_law_1095 dL_law_1096 dL_law_1097 ?_
  refine la_arg 3 C hW.2.2 (lv_at hl 0 rfl) (lv_at hl 4 rfl) hj (by decide) (by decide +kernel) dL_law_1098 dL_law_1099 dL_law_1101 dL_law_1102 dL_law_1103 ?_
  have hW := wd_m hW
  refine c_VAi C0 hK hNs hl.1 hW hA k9 (Uw_V uw_1632 uw_1633 uw_1634 uw_14 uw_1635) rfl rfl hd_X9_winters ⟨rfl, rfl⟩ rfl hm rfl rfl rfl dL_law_1104 hc0 (fun H locs hW => ?_)
  have hW := wd_b hW
  refine lv_icmp_eq (tgt := 1190) C0.1 C0.2.1 dL_law_1107 (by decide) (fun _ => ?_) (fun h => absurd rfl h)
  refine W.widen (k := cells + 1) (n := slots + 6) (by omega) (by omega) ?_
  exact kk _ _ _ ⟨wx2, wm2, bo, hI2, hW⟩ hl
set_option maxHeartbeats 4000000 in
set_option maxRecDepth 10000 in
theorem lc_mark (C : LCx p l s m meth c b L xs D cy) (hN : N < 1800) (hj : j + 7 ≤ L) (hcs : cells + 1 ≤ room_1.cells ∧ slots + 6 ≤ room_1.slots) (hl : lv_has ls 7 (lvL b ax am ao (nI j))) (hW : LW D cy s N ax am ao H locs) (kk : LK p l e s m below meth c cells slots b j N ax am ao D cy) : W p l e room_1 s m #[.ref b] below meth c H locs cells slots (lw_Z below #[.ref b] s) (F0 m 1112 ls []) := by
  obtain ⟨wx, wm, bo, hI, hW⟩ := hW
  obtain ⟨C0, hK, hNs, -⟩ := id C
  have hA : ∀ q, s.heap.size ≤ q → LAf s q := fun _ h => h
  have hc0 : cells + 0 ≤ room_1.cells ∧ slots + 0 ≤ room_1.slots := ⟨by omega, by omega⟩
  obtain ⟨fx, hx⟩ := hI.x
  obtain ⟨fm, hm⟩ := hI.m
  obtain ⟨r, rm, wx2, wm2, hrm, k8, k9, hI2⟩ := sp_mark l D (xs (j + 1)) (zb (xs (j + 2))) hN hI
  refine lv_aload_n C0.1 C0.2.1 dL_law_1112 rfl (lv_at hl 1 rfl) ?_
  refine la_arg 1 C hW.2.2 (lv_at hl 0 rfl) (lv_at hl 4 rfl) hj (by decide) (by decide +kernel) dL_law_1113 dL_law_1114 dL_law_1116 dL_law_1117 dL_law_1118 ?_
  refine la_arg 2 C hW.2.2 (lv_at hl 0 rfl) (lv_at hl 4 rfl) hj (by decide) (by decide +kernel) dL_law_1119 dL_law_1120 dL_law_1122 dL_law_1123 dL_law_1124 ?_
  refine la_bool C (by decide +kernel) (by decide +kernel) dL_law_1125 dL_law_1128 dL_law_1129 dL_law_1132 ?_
  refine c_VAi C0 hK hNs hl.1 hW hA k8 (Uw_V uw_947 uw_948 uw_949 uw_1 uw_950) (by rcases hrm with rfl | rfl <;> rfl) (by rcases hrm with rfl | rfl <;> rfl) hd_X8_mark (by rcases hrm with rfl | rfl <;> exact ⟨rfl, rfl⟩) rfl hx rfl rfl rfl dL_law_1133 hc0 (fun H locs hW => ?_)
  refine lv_aload_n C0.1 C0.2.1 dL_law_1136 rfl (lv_at hl 2 rfl) ?_
  refine la_arg 1 C hW.2.2 (lv_at hl 0 rfl) (lv_at hl 4 rfl) hj (by decide) (by decide +kernel) dL_law_1137 dL_law_1138 dL_law_1140 dL_law_1141 dL_law_1142 ?_
  refine la_arg 2 C hW.2.2 (lv_at hl 0 rfl) (lv_at hl 4 rfl) hj (by decide) (by decide +kernel) dL_law_1143 dL_law_1144 dL_law_1146 dL_law_1147 dL_law_1148 ?_
  refine la_bool C (by decide +kernel) (by decide +kernel) dL_law_1149 dL_law_1152 dL_law_1153 dL_law_1156 ?_
  have hW := wd_m hW
  refine c_VAi C0 hK hNs hl.1 hW hA k9 (Uw_V uw_1652 uw_1653 uw_1654 uw_14 uw_1655) rfl rfl hd_X9_mark ⟨rfl, rfl⟩ rfl hm rfl rfl rfl dL_law_1157 hc0 (fun H locs hW => ?_)
  have hW := wd_b hW
  refine lv_icmp_eq (tgt := 1190) C0.1 C0.2.1 dL_law_1160 (by decide) (fun _ => ?_) (fun h => absurd rfl h)
  refine W.widen (k := cells + 1) (n := slots + 6) (by omega) (by omega) ?_
  exact kk _ _ _ ⟨wx2, wm2, bo, hI2, hW⟩ hl
set_option maxHeartbeats 4000000 in
set_option maxRecDepth 10000 in
theorem lc_count (C : LCx p l s m meth c b L xs D cy) (hN : N < 1800) (hj : j + 7 ≤ L) (hcs : cells + 1 ≤ room_1.cells ∧ slots + 6 ≤ room_1.slots) (hl : lv_has ls 7 (lvL b ax am ao (nI j))) (hW : LW D cy s N ax am ao H locs) (kk : LK p l e s m below meth c cells slots b j N ax am ao D cy) : W p l e room_1 s m #[.ref b] below meth c H locs cells slots (lw_Z below #[.ref b] s) (F0 m 1165 ls []) := by
  obtain ⟨wx, wm, bo, hI, hW⟩ := hW
  obtain ⟨C0, hK, hNs, -⟩ := id C
  have hA : ∀ q, s.heap.size ≤ q → LAf s q := fun _ h => h
  have hc0 : cells + 0 ≤ room_1.cells ∧ slots + 0 ≤ room_1.slots := ⟨by omega, by omega⟩
  obtain ⟨fx, hx⟩ := hI.x
  obtain ⟨fm, hm⟩ := hI.m
  obtain ⟨r, wx2, wm2, k8, k9, hI2⟩ := sp_count l D (xs (j + 1)) hN hI
  refine lv_aload_n C0.1 C0.2.1 dL_law_1165 rfl (lv_at hl 1 rfl) ?_
  refine la_arg 1 C hW.2.2 (lv_at hl 0 rfl) (lv_at hl 4 rfl) hj (by decide) (by decide +kernel) dL_law_1166 dL_law_1167 dL_law_1169 dL_law_1170 dL_law_1171 ?_
  refine c_VAi C0 hK hNs hl.1 hW hA k8 (Uw_V uw_968 uw_969 uw_970 uw_1 uw_971) rfl rfl hd_X8_count ⟨rfl, rfl⟩ rfl hx rfl rfl rfl dL_law_1172 hc0 (fun H locs hW => ?_)
  refine lv_aload_n C0.1 C0.2.1 dL_law_1175 rfl (lv_at hl 2 rfl) ?_
  refine la_arg 1 C hW.2.2 (lv_at hl 0 rfl) (lv_at hl 4 rfl) hj (by decide) (by decide +kernel) dL_law_1176 dL_law_1177 dL_law_1179 dL_law_1180 dL_law_1181 ?_
  have hW := wd_m hW
  refine c_VAi C0 hK hNs hl.1 hW hA k9 (Uw_V uw_1660 uw_1661 uw_1662 uw_14 uw_1663) rfl rfl hd_X9_count ⟨rfl, rfl⟩ rfl hm rfl rfl rfl dL_law_1182 hc0 (fun H locs hW => ?_)
  have hW := wd_b hW
  refine lv_icmp_eq (tgt := 1190) C0.1 C0.2.1 dL_law_1185 (by decide) (fun _ => ?_) (fun h => absurd rfl h)
  refine W.widen (k := cells + 1) (n := slots + 6) (by omega) (by omega) ?_
  exact kk _ _ _ ⟨wx2, wm2, bo, hI2, hW⟩ hl
end LCS
