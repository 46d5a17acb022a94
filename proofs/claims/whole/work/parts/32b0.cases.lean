/-! ===== the cases of the law ===== -/
theorem g_tale {p : Program} {l : Launch} {e : Env} {s : State} {m : MethodId} {args : Array Value} {below : List Frame} {meth : Method} {c : Code} {H : Heap} {locs : List Loc} {cells slots : Nat} {Q0 : State → Prop} {D : va_G} {cy : Nat → ClassId} {A : Nat → Prop} {ls : Array Slot} {b L i v ox om : Nat} {xs : Nat → Int32} {w : va_W} (hc : cX p m meth c s args D cy A RL code 4 ret) (hX : va_X b L xs s s.heap) (hbl : b < s.heap.size) (hbA : ¬ A b) (hL : L ≤ 3072) (hl : lv_has ls 4 [(3, .int (nI i)), (2, .ref om), (1, .ref ox), (0, .ref b)]) (hi : i + 6 ≤ L) (hw : wV D A s.heap w H locs) (hR : Rel cy ox om v w) (hv : v < 1000) (hcs : cells + 14 ≤ 600000 ∧ slots + 4239 ≤ 7302250) (kk : ∀ (H1 : Heap) (locs1 : List Loc) (w' : va_W), wV D A s.heap w' H1 locs1 → Rel cy ox om (v + 1) w' → W p l e room_1 s m args below meth c H1 locs1 (cells + 14) (slots + 4239) Q0 (F0 m 1187 ls [])) : W p l e room_1 s m args below meth c H locs cells slots Q0 (F0 m 196 ls []) := by
  have hx := hc.1.1
  have hb := hc.1.2.1
  refine lv_aload_n hx hb dL_law_196 rfl (lv_at hl 2 rfl) ?_
  refine rdA (k := 1) hc hX hbl hbA hw.2.2 hl (by omega) hL rfl dL_law_197 dL_law_198 dL_law_199 dL_law_200 dL_law_201 ?_
  refine rdA (k := 2) hc hX hbl hbA hw.2.2 hl (by omega) hL rfl dL_law_202 dL_law_203 dL_law_204 dL_law_205 dL_law_206 ?_
  refine rdA (k := 3) hc hX hbl hbA hw.2.2 hl (by omega) hL rfl dL_law_207 dL_law_208 dL_law_209 dL_law_210 dL_law_211 ?_
  refine rdA (k := 4) hc hX hbl hbA hw.2.2 hl (by omega) hL rfl dL_law_212 dL_law_213 dL_law_214 dL_law_215 dL_law_216 ?_
  refine cllC (As := [.int (xs (i + 1)), .int (xs (i + 2)), .int (xs (i + 3)), .int (xs (i + 4))]) hc hw (o_tale hR (nodup_ix.mp hw.2.1).1 hv) lk_L_13 rfl (by decide) hl.1 hcs rfl rfl dL_law_217 (fun r aM S wr' Q1 H1 locs1 e1 hw1 hP hQ => ?_)
  subst e1
  refine lv_aload_n hx hb dL_law_220 rfl (lv_at hl 1 rfl) ?_
  refine rdA (k := 1) hc hX hbl hbA hw1.2.2 hl (by omega) hL rfl dL_law_221 dL_law_222 dL_law_223 dL_law_224 dL_law_225 ?_
  refine rdA (k := 2) hc hX hbl hbA hw1.2.2 hl (by omega) hL rfl dL_law_226 dL_law_227 dL_law_228 dL_law_229 dL_law_230 ?_
  refine rdA (k := 3) hc hX hbl hbA hw1.2.2 hl (by omega) hL rfl dL_law_231 dL_law_232 dL_law_233 dL_law_234 dL_law_235 ?_
  refine rdA (k := 4) hc hX hbl hbA hw1.2.2 hl (by omega) hL rfl dL_law_236 dL_law_237 dL_law_238 dL_law_239 dL_law_240 ?_
  refine cllM (As := [.int (xs (i + 1)), .int (xs (i + 2)), .int (xs (i + 3)), .int (xs (i + 4))]) hc hw1 (c_M_tale hP) (fun r' u h => ⟨u, rfl, h⟩) lk_L_17 rfl (by decide) (by decide) hl.1 hcs rfl rfl dL_law_241 (fun r' S' H2 locs2 q hw2 => ?_)
  obtain ⟨e2, hR2⟩ := hQ r' S' q
  refine lv_icmp_eq hx hb dL_law_244 (tgt := 1187) rfl (fun _ => ?_) (fun ne => absurd e2 ne)
  exact kk _ _ _ hw2 hR2
theorem g_put {p : Program} {l : Launch} {e : Env} {s : State} {m : MethodId} {args : Array Value} {below : List Frame} {meth : Method} {c : Code} {H : Heap} {locs : List Loc} {cells slots : Nat} {Q0 : State → Prop} {D : va_G} {cy : Nat → ClassId} {A : Nat → Prop} {ls : Array Slot} {b L i v ox om : Nat} {xs : Nat → Int32} {w : va_W} (hc : cX p m meth c s args D cy A RL code 4 ret) (hX : va_X b L xs s s.heap) (hbl : b < s.heap.size) (hbA : ¬ A b) (hL : L ≤ 3072) (hl : lv_has ls 4 [(3, .int (nI i)), (2, .ref om), (1, .ref ox), (0, .ref b)]) (hi : i + 6 ≤ L) (hw : wV D A s.heap w H locs) (hR : Rel cy ox om v w) (hv : v < 1000) (hcs : cells + 14 ≤ 600000 ∧ slots + 4239 ≤ 7302250) (kk : ∀ (H1 : Heap) (locs1 : List Loc) (w' : va_W), wV D A s.heap w' H1 locs1 → Rel cy ox om (v + 1) w' → W p l e room_1 s m args below meth c H1 locs1 (cells + 14) (slots + 4239) Q0 (F0 m 1187 ls [])) : W p l e room_1 s m args below meth c H locs cells slots Q0 (F0 m 249 ls []) := by
  have hx := hc.1.1
  have hb := hc.1.2.1
  refine lv_aload_n hx hb dL_law_249 rfl (lv_at hl 2 rfl) ?_
  refine rdA (k := 1) hc hX hbl hbA hw.2.2 hl (by omega) hL rfl dL_law_250 dL_law_251 dL_law_252 dL_law_253 dL_law_254 ?_
  refine rdA (k := 2) hc hX hbl hbA hw.2.2 hl (by omega) hL rfl dL_law_255 dL_law_256 dL_law_257 dL_law_258 dL_law_259 ?_
  refine rdA (k := 3) hc hX hbl hbA hw.2.2 hl (by omega) hL rfl dL_law_260 dL_law_261 dL_law_262 dL_law_263 dL_law_264 ?_
  refine cllC (As := [.int (xs (i + 1)), .int (xs (i + 2)), .int (xs (i + 3))]) hc hw (o_put hR (nodup_ix.mp hw.2.1).1 hv) lk_L_18 rfl (by decide) hl.1 hcs rfl rfl dL_law_265 (fun r aM S wr' Q1 H1 locs1 e1 hw1 hP hQ => ?_)
  subst e1
  refine lv_aload_n hx hb dL_law_268 rfl (lv_at hl 1 rfl) ?_
  refine rdA (k := 1) hc hX hbl hbA hw1.2.2 hl (by omega) hL rfl dL_law_269 dL_law_270 dL_law_271 dL_law_272 dL_law_273 ?_
  refine rdA (k := 2) hc hX hbl hbA hw1.2.2 hl (by omega) hL rfl dL_law_274 dL_law_275 dL_law_276 dL_law_277 dL_law_278 ?_
  refine rdA (k := 3) hc hX hbl hbA hw1.2.2 hl (by omega) hL rfl dL_law_279 dL_law_280 dL_law_281 dL_law_282 dL_law_283 ?_
  refine cllM (As := [.int (xs (i + 1)), .int (xs (i + 2)), .int (xs (i + 3))]) hc hw1 (c_M_put hP) (fun r' u h => ⟨u, rfl, h⟩) lk_L_22 rfl (by decide) (by decide) hl.1 hcs rfl rfl dL_law_284 (fun r' S' H2 locs2 q hw2 => ?_)
  obtain ⟨e2, hR2⟩ := hQ r' S' q
  refine lv_icmp_eq hx hb dL_law_287 (tgt := 1187) rfl (fun _ => ?_) (fun ne => absurd e2 ne)
  exact kk _ _ _ hw2 hR2
theorem g_of {p : Program} {l : Launch} {e : Env} {s : State} {m : MethodId} {args : Array Value} {below : List Frame} {meth : Method} {c : Code} {H : Heap} {locs : List Loc} {cells slots : Nat} {Q0 : State → Prop} {D : va_G} {cy : Nat → ClassId} {A : Nat → Prop} {ls : Array Slot} {b L i v ox om : Nat} {xs : Nat → Int32} {w : va_W} (hc : cX p m meth c s args D cy A RL code 4 ret) (hX : va_X b L xs s s.heap) (hbl : b < s.heap.size) (hbA : ¬ A b) (hL : L ≤ 3072) (hl : lv_has ls 4 [(3, .int (nI i)), (2, .ref om), (1, .ref ox), (0, .ref b)]) (hi : i + 6 ≤ L) (hw : wV D A s.heap w H locs) (hR : Rel cy ox om v w) (hv : v < 1000) (hcs : cells + 14 ≤ 600000 ∧ slots + 4239 ≤ 7302250) (kk : ∀ (H1 : Heap) (locs1 : List Loc) (w' : va_W), wV D A s.heap w' H1 locs1 → Rel cy ox om (v + 1) w' → W p l e room_1 s m args below meth c H1 locs1 (cells + 14) (slots + 4239) Q0 (F0 m 1187 ls [])) : W p l e room_1 s m args below meth c H locs cells slots Q0 (F0 m 292 ls []) := by
  have hx := hc.1.1
  have hb := hc.1.2.1
  refine lv_aload_n hx hb dL_law_292 rfl (lv_at hl 2 rfl) ?_
  refine rdA (k := 1) hc hX hbl hbA hw.2.2 hl (by omega) hL rfl dL_law_293 dL_law_294 dL_law_295 dL_law_296 dL_law_297 ?_
  refine rdA (k := 2) hc hX hbl hbA hw.2.2 hl (by omega) hL rfl dL_law_298 dL_law_299 dL_law_300 dL_law_301 dL_law_302 ?_
  refine cllC (As := [.int (xs (i + 1)), .int (xs (i + 2))]) hc hw (o_of hR (nodup_ix.mp hw.2.1).1 hv) lk_L_23 rfl (by decide) hl.1 hcs rfl rfl dL_law_303 (fun r aM S wr' Q1 H1 locs1 e1 hw1 hP hQ => ?_)
  subst e1
  refine lv_aload_n hx hb dL_law_306 rfl (lv_at hl 1 rfl) ?_
  refine rdA (k := 1) hc hX hbl hbA hw1.2.2 hl (by omega) hL rfl dL_law_307 dL_law_308 dL_law_309 dL_law_310 dL_law_311 ?_
  refine rdA (k := 2) hc hX hbl hbA hw1.2.2 hl (by omega) hL rfl dL_law_312 dL_law_313 dL_law_314 dL_law_315 dL_law_316 ?_
  refine cllM (As := [.int (xs (i + 1)), .int (xs (i + 2))]) hc hw1 (c_M_of hP) (fun r' u h => ⟨u, rfl, h⟩) lk_L_27 rfl (by decide) (by decide) hl.1 hcs rfl rfl dL_law_317 (fun r' S' H2 locs2 q hw2 => ?_)
  obtain ⟨e2, hR2⟩ := hQ r' S' q
  refine lv_icmp_eq hx hb dL_law_320 (tgt := 1187) rfl (fun _ => ?_) (fun ne => absurd e2 ne)
  exact kk _ _ _ hw2 hR2
theorem g_can {p : Program} {l : Launch} {e : Env} {s : State} {m : MethodId} {args : Array Value} {below : List Frame} {meth : Method} {c : Code} {H : Heap} {locs : List Loc} {cells slots : Nat} {Q0 : State → Prop} {D : va_G} {cy : Nat → ClassId} {A : Nat → Prop} {ls : Array Slot} {b L i v ox om : Nat} {xs : Nat → Int32} {w : va_W} (hc : cX p m meth c s args D cy A RL code 4 ret) (hX : va_X b L xs s s.heap) (hbl : b < s.heap.size) (hbA : ¬ A b) (hL : L ≤ 3072) (hl : lv_has ls 4 [(3, .int (nI i)), (2, .ref om), (1, .ref ox), (0, .ref b)]) (hi : i + 6 ≤ L) (hw : wV D A s.heap w H locs) (hR : Rel cy ox om v w) (hv : v < 1000) (hcs : cells + 14 ≤ 600000 ∧ slots + 4239 ≤ 7302250) (kk : ∀ (H1 : Heap) (locs1 : List Loc) (w' : va_W), wV D A s.heap w' H1 locs1 → Rel cy ox om (v + 1) w' → W p l e room_1 s m args below meth c H1 locs1 (cells + 14) (slots + 4239) Q0 (F0 m 1187 ls [])) : W p l e room_1 s m args below meth c H locs cells slots Q0 (F0 m 325 ls []) := by
  have hx := hc.1.1
  have hb := hc.1.2.1
  refine lv_aload_n hx hb dL_law_325 rfl (lv_at hl 2 rfl) ?_
  refine rdA (k := 1) hc hX hbl hbA hw.2.2 hl (by omega) hL rfl dL_law_326 dL_law_327 dL_law_328 dL_law_329 dL_law_330 ?_
  refine rdA (k := 2) hc hX hbl hbA hw.2.2 hl (by omega) hL rfl dL_law_331 dL_law_332 dL_law_333 dL_law_334 dL_law_335 ?_
  refine cllC (As := [.int (xs (i + 1)), .int (xs (i + 2))]) hc hw (o_can hR (nodup_ix.mp hw.2.1).1 hv) lk_L_28 rfl (by decide) hl.1 hcs rfl rfl dL_law_336 (fun r aM S wr' Q1 H1 locs1 e1 hw1 hP hQ => ?_)
  subst e1
  refine lv_aload_n hx hb dL_law_339 rfl (lv_at hl 1 rfl) ?_
  refine rdA (k := 1) hc hX hbl hbA hw1.2.2 hl (by omega) hL rfl dL_law_340 dL_law_341 dL_law_342 dL_law_343 dL_law_344 ?_
  refine rdA (k := 2) hc hX hbl hbA hw1.2.2 hl (by omega) hL rfl dL_law_345 dL_law_346 dL_law_347 dL_law_348 dL_law_349 ?_
  refine cllM (As := [.int (xs (i + 1)), .int (xs (i + 2))]) hc hw1 (c_M_can hP) (fun r' u h => ⟨u, rfl, h⟩) lk_L_31 rfl (by decide) (by decide) hl.1 hcs rfl rfl dL_law_350 (fun r' S' H2 locs2 q hw2 => ?_)
  obtain ⟨e2, hR2⟩ := hQ r' S' q
  refine lv_icmp_eq hx hb dL_law_353 (tgt := 1187) rfl (fun _ => ?_) (fun ne => absurd e2 ne)
  exact kk _ _ _ hw2 hR2
theorem g_terms {p : Program} {l : Launch} {e : Env} {s : State} {m : MethodId} {args : Array Value} {below : List Frame} {meth : Method} {c : Code} {H : Heap} {locs : List Loc} {cells slots : Nat} {Q0 : State → Prop} {D : va_G} {cy : Nat → ClassId} {A : Nat → Prop} {ls : Array Slot} {b L i v ox om : Nat} {xs : Nat → Int32} {w : va_W} (hc : cX p m meth c s args D cy A RL code 4 ret) (hX : va_X b L xs s s.heap) (hbl : b < s.heap.size) (hbA : ¬ A b) (hL : L ≤ 3072) (hl : lv_has ls 4 [(3, .int (nI i)), (2, .ref om), (1, .ref ox), (0, .ref b)]) (hi : i + 6 ≤ L) (hw : wV D A s.heap w H locs) (hR : Rel cy ox om v w) (hv : v < 1000) (hcs : cells + 14 ≤ 600000 ∧ slots + 4239 ≤ 7302250) (kk : ∀ (H1 : Heap) (locs1 : List Loc) (w' : va_W), wV D A s.heap w' H1 locs1 → Rel cy ox om (v + 1) w' → W p l e room_1 s m args below meth c H1 locs1 (cells + 14) (slots + 4239) Q0 (F0 m 1187 ls [])) : W p l e room_1 s m args below meth c H locs cells slots Q0 (F0 m 358 ls []) := by
  have hx := hc.1.1
  have hb := hc.1.2.1
  refine lv_aload_n hx hb dL_law_358 rfl (lv_at hl 2 rfl) ?_
  refine rdA (k := 1) hc hX hbl hbA hw.2.2 hl (by omega) hL rfl dL_law_359 dL_law_360 dL_law_361 dL_law_362 dL_law_363 ?_
  refine rdA (k := 2) hc hX hbl hbA hw.2.2 hl (by omega) hL rfl dL_law_364 dL_law_365 dL_law_366 dL_law_367 dL_law_368 ?_
  refine cllC (As := [.int (xs (i + 1)), .int (xs (i + 2))]) hc hw (o_terms hR (nodup_ix.mp hw.2.1).1 hv) lk_L_32 rfl (by decide) hl.1 hcs rfl rfl dL_law_369 (fun r aM S wr' Q1 H1 locs1 e1 hw1 hP hQ => ?_)
  subst e1
  refine lv_aload_n hx hb dL_law_372 rfl (lv_at hl 1 rfl) ?_
  refine rdA (k := 1) hc hX hbl hbA hw1.2.2 hl (by omega) hL rfl dL_law_373 dL_law_374 dL_law_375 dL_law_376 dL_law_377 ?_
  refine rdA (k := 2) hc hX hbl hbA hw1.2.2 hl (by omega) hL rfl dL_law_378 dL_law_379 dL_law_380 dL_law_381 dL_law_382 ?_
  refine cllM (As := [.int (xs (i + 1)), .int (xs (i + 2))]) hc hw1 (c_M_terms hP) (fun r' u h => ⟨u, rfl, h⟩) lk_L_35 rfl (by decide) (by decide) hl.1 hcs rfl rfl dL_law_383 (fun r' S' H2 locs2 q hw2 => ?_)
  obtain ⟨e2, hR2⟩ := hQ r' S' q
  refine lv_icmp_eq hx hb dL_law_386 (tgt := 1187) rfl (fun _ => ?_) (fun ne => absurd e2 ne)
  exact kk _ _ _ hw2 hR2
theorem g_feed {p : Program} {l : Launch} {e : Env} {s : State} {m : MethodId} {args : Array Value} {below : List Frame} {meth : Method} {c : Code} {H : Heap} {locs : List Loc} {cells slots : Nat} {Q0 : State → Prop} {D : va_G} {cy : Nat → ClassId} {A : Nat → Prop} {ls : Array Slot} {b L i v ox om : Nat} {xs : Nat → Int32} {w : va_W} (hc : cX p m meth c s args D cy A RL code 4 ret) (hX : va_X b L xs s s.heap) (hbl : b < s.heap.size) (hbA : ¬ A b) (hL : L ≤ 3072) (hl : lv_has ls 4 [(3, .int (nI i)), (2, .ref om), (1, .ref ox), (0, .ref b)]) (hi : i + 6 ≤ L) (hw : wV D A s.heap w H locs) (hR : Rel cy ox om v w) (hv : v < 1000) (hcs : cells + 14 ≤ 600000 ∧ slots + 4239 ≤ 7302250) (kk : ∀ (H1 : Heap) (locs1 : List Loc) (w' : va_W), wV D A s.heap w' H1 locs1 → Rel cy ox om (v + 1) w' → W p l e room_1 s m args below meth c H1 locs1 (cells + 14) (slots + 4239) Q0 (F0 m 1187 ls [])) : W p l e room_1 s m args below meth c H locs cells slots Q0 (F0 m 391 ls []) := by
  have hx := hc.1.1
  have hb := hc.1.2.1
  refine lv_aload_n hx hb dL_law_391 rfl (lv_at hl 2 rfl) ?_
  refine rdA (k := 1) hc hX hbl hbA hw.2.2 hl (by omega) hL rfl dL_law_392 dL_law_393 dL_law_394 dL_law_395 dL_law_396 ?_
  refine rdA (k := 2) hc hX hbl hbA hw.2.2 hl (by omega) hL rfl dL_law_397 dL_law_398 dL_law_399 dL_law_400 dL_law_401 ?_
  refine rdA (k := 3) hc hX hbl hbA hw.2.2 hl (by omega) hL rfl dL_law_402 dL_law_403 dL_law_404 dL_law_405 dL_law_406 ?_
  refine rdA (k := 4) hc hX hbl hbA hw.2.2 hl (by omega) hL rfl dL_law_407 dL_law_408 dL_law_409 dL_law_410 dL_law_411 ?_
  refine rdA (k := 5) hc hX hbl hbA hw.2.2 hl (by omega) hL rfl dL_law_412 dL_law_413 dL_law_414 dL_law_415 dL_law_416 ?_
  refine cllC (As := [.int (xs (i + 1)), .int (xs (i + 2)), .int (xs (i + 3)), .int (xs (i + 4)), .int (xs (i + 5))]) hc hw (o_feed hR (nodup_ix.mp hw.2.1).1 hv) lk_L_36 rfl (by decide) hl.1 hcs rfl rfl dL_law_417 (fun r aM S wr' Q1 H1 locs1 e1 hw1 hP hQ => ?_)
  subst e1
  refine lv_aload_n hx hb dL_law_420 rfl (lv_at hl 1 rfl) ?_
  refine rdA (k := 1) hc hX hbl hbA hw1.2.2 hl (by omega) hL rfl dL_law_421 dL_law_422 dL_law_423 dL_law_424 dL_law_425 ?_
  refine rdA (k := 2) hc hX hbl hbA hw1.2.2 hl (by omega) hL rfl dL_law_426 dL_law_427 dL_law_428 dL_law_429 dL_law_430 ?_
  refine rdA (k := 3) hc hX hbl hbA hw1.2.2 hl (by omega) hL rfl dL_law_431 dL_law_432 dL_law_433 dL_law_434 dL_law_435 ?_
  refine rdA (k := 4) hc hX hbl hbA hw1.2.2 hl (by omega) hL rfl dL_law_436 dL_law_437 dL_law_438 dL_law_439 dL_law_440 ?_
  refine rdA (k := 5) hc hX hbl hbA hw1.2.2 hl (by omega) hL rfl dL_law_441 dL_law_442 dL_law_443 dL_law_444 dL_law_445 ?_
  refine cllM (As := [.int (xs (i + 1)), .int (xs (i + 2)), .int (xs (i + 3)), .int (xs (i + 4)), .int (xs (i + 5))]) hc hw1 (c_M_feed hP) (fun r' u h => ⟨u, rfl, h⟩) lk_L_40 rfl (by decide) (by decide) hl.1 hcs rfl rfl dL_law_446 (fun r' S' H2 locs2 q hw2 => ?_)
  obtain ⟨e2, hR2⟩ := hQ r' S' q
  refine lv_icmp_eq hx hb dL_law_449 (tgt := 1187) rfl (fun _ => ?_) (fun ne => absurd e2 ne)
  exact kk _ _ _ hw2 hR2
theorem g_end {p : Program} {l : Launch} {e : Env} {s : State} {m : MethodId} {args : Array Value} {below : List Frame} {meth : Method} {c : Code} {H : Heap} {locs : List Loc} {cells slots : Nat} {Q0 : State → Prop} {D : va_G} {cy : Nat → ClassId} {A : Nat → Prop} {ls : Array Slot} {b L i v ox om : Nat} {xs : Nat → Int32} {w : va_W} (hc : cX p m meth c s args D cy A RL code 4 ret) (hX : va_X b L xs s s.heap) (hbl : b < s.heap.size) (hbA : ¬ A b) (hL : L ≤ 3072) (hl : lv_has ls 4 [(3, .int (nI i)), (2, .ref om), (1, .ref ox), (0, .ref b)]) (hi : i + 6 ≤ L) (hw : wV D A s.heap w H locs) (hR : Rel cy ox om v w) (hv : v < 1000) (hcs : cells + 14 ≤ 600000 ∧ slots + 4239 ≤ 7302250) (kk : ∀ (H1 : Heap) (locs1 : List Loc) (w' : va_W), wV D A s.heap w' H1 locs1 → Rel cy ox om (v + 1) w' → W p l e room_1 s m args below meth c H1 locs1 (cells + 14) (slots + 4239) Q0 (F0 m 1187 ls [])) : W p l e room_1 s m args below meth c H locs cells slots Q0 (F0 m 454 ls []) := by
  have hx := hc.1.1
  have hb := hc.1.2.1
  refine lv_aload_n hx hb dL_law_454 rfl (lv_at hl 2 rfl) ?_
  refine rdA (k := 1) hc hX hbl hbA hw.2.2 hl (by omega) hL rfl dL_law_455 dL_law_456 dL_law_457 dL_law_458 dL_law_459 ?_
  refine cllC (As := [.int (xs (i + 1))]) hc hw (o_end hR (nodup_ix.mp hw.2.1).1 hv) lk_L_41 rfl (by decide) hl.1 hcs rfl rfl dL_law_460 (fun r aM S wr' Q1 H1 locs1 e1 hw1 hP hQ => ?_)
  subst e1
  refine lv_aload_n hx hb dL_law_463 rfl (lv_at hl 1 rfl) ?_
  refine rdA (k := 1) hc hX hbl hbA hw1.2.2 hl (by omega) hL rfl dL_law_464 dL_law_465 dL_law_466 dL_law_467 dL_law_468 ?_
  refine cllM (As := [.int (xs (i + 1))]) hc hw1 (c_M_end hP) (fun r' u h => ⟨u, rfl, h⟩) lk_L_45 rfl (by decide) (by decide) hl.1 hcs rfl rfl dL_law_469 (fun r' S' H2 locs2 q hw2 => ?_)
  obtain ⟨e2, hR2⟩ := hQ r' S' q
  refine lv_icmp_eq hx hb dL_law_472 (tgt := 1187) rfl (fun _ => ?_) (fun ne => absurd e2 ne)
  exact kk _ _ _ hw2 hR2
theorem g_row {p : Program} {l : Launch} {e : Env} {s : State} {m : MethodId} {args : Array Value} {below : List Frame} {meth : Method} {c : Code} {H : Heap} {locs : List Loc} {cells slots : Nat} {Q0 : State → Prop} {D : va_G} {cy : Nat → ClassId} {A : Nat → Prop} {ls : Array Slot} {b L i v ox om : Nat} {xs : Nat → Int32} {w : va_W} (hc : cX p m meth c s args D cy A RL code 4 ret) (hX : va_X b L xs s s.heap) (hbl : b < s.heap.size) (hbA : ¬ A b) (hL : L ≤ 3072) (hl : lv_has ls 4 [(3, .int (nI i)), (2, .ref om), (1, .ref ox), (0, .ref b)]) (hi : i + 6 ≤ L) (hw : wV D A s.heap w H locs) (hR : Rel cy ox om v w) (hv : v < 1000) (hcs : cells + 14 ≤ 600000 ∧ slots + 4239 ≤ 7302250) (kk : ∀ (H1 : Heap) (locs1 : List Loc) (w' : va_W), wV D A s.heap w' H1 locs1 → Rel cy ox om (v + 1) w' → W p l e room_1 s m args below meth c H1 locs1 (cells + 14) (slots + 4239) Q0 (F0 m 1187 ls [])) : W p l e room_1 s m args below meth c H locs cells slots Q0 (F0 m 477 ls []) := by
  have hx := hc.1.1
  have hb := hc.1.2.1
  refine lv_aload_n hx hb dL_law_477 rfl (lv_at hl 2 rfl) ?_
  refine cllC (As := []) hc hw (o_row hR (nodup_ix.mp hw.2.1).1 hv) lk_L_46 rfl (by decide) hl.1 hcs rfl rfl dL_law_478 (fun r aM S wr' Q1 H1 locs1 e1 hw1 hP hQ => ?_)
  subst e1
  refine lv_aload_n hx hb dL_law_481 rfl (lv_at hl 1 rfl) ?_
  refine cllM (As := []) hc hw1 (c_M_row hP) (fun r' u h => ⟨u, rfl, h⟩) lk_L_50 rfl (by decide) (by decide) hl.1 hcs rfl rfl dL_law_482 (fun r' S' H2 locs2 q hw2 => ?_)
  obtain ⟨e2, hR2⟩ := hQ r' S' q
  refine lv_icmp_eq hx hb dL_law_485 (tgt := 1187) rfl (fun _ => ?_) (fun ne => absurd e2 ne)
  exact kk _ _ _ hw2 hR2
theorem g_mumbled {p : Program} {l : Launch} {e : Env} {s : State} {m : MethodId} {args : Array Value} {below : List Frame} {meth : Method} {c : Code} {H : Heap} {locs : List Loc} {cells slots : Nat} {Q0 : State → Prop} {D : va_G} {cy : Nat → ClassId} {A : Nat → Prop} {ls : Array Slot} {b L i v ox om : Nat} {xs : Nat → Int32} {w : va_W} (hc : cX p m meth c s args D cy A RL code 4 ret) (hX : va_X b L xs s s.heap) (hbl : b < s.heap.size) (hbA : ¬ A b) (hL : L ≤ 3072) (hl : lv_has ls 4 [(3, .int (nI i)), (2, .ref om), (1, .ref ox), (0, .ref b)]) (hi : i + 6 ≤ L) (hw : wV D A s.heap w H locs) (hR : Rel cy ox om v w) (hv : v < 1000) (hcs : cells + 14 ≤ 600000 ∧ slots + 4239 ≤ 7302250) (kk : ∀ (H1 : Heap) (locs1 : List Loc) (w' : va_W), wV D A s.heap w' H1 locs1 → Rel cy ox om (v + 1) w' → W p l e room_1 s m args below meth c H1 locs1 (cells + 14) (slots + 4239) Q0 (F0 m 1187 ls [])) : W p l e room_1 s m args below meth c H locs cells slots Q0 (F0 m 490 ls []) := by
  have hx := hc.1.1
  have hb := hc.1.2.1
  refine lv_aload_n hx hb dL_law_490 rfl (lv_at hl 2 rfl) ?_
  refine cllC (As := []) hc hw (o_mumbled hR (nodup_ix.mp hw.2.1).1 hv) lk_L_51 rfl (by decide) hl.1 hcs rfl rfl dL_law_491 (fun r aM S wr' Q1 H1 locs1 e1 hw1 hP hQ => ?_)
  subst e1
  refine lv_aload_n hx hb dL_law_494 rfl (lv_at hl 1 rfl) ?_
  refine cllM (As := []) hc hw1 (c_M_mumbled hP) (fun r' u h => ⟨S, rfl, h⟩) lk_L_54 rfl (by decide) (by decide) hl.1 hcs rfl rfl dL_law_495 (fun r' S' H2 locs2 q hw2 => ?_)
  obtain ⟨e2, hR2⟩ := hQ r' S' q
  refine lv_icmp_eq hx hb dL_law_498 (tgt := 1187) rfl (fun _ => ?_) (fun ne => absurd e2 ne)
  exact kk _ _ _ hw2 hR2
theorem g_law {p : Program} {l : Launch} {e : Env} {s : State} {m : MethodId} {args : Array Value} {below : List Frame} {meth : Method} {c : Code} {H : Heap} {locs : List Loc} {cells slots : Nat} {Q0 : State → Prop} {D : va_G} {cy : Nat → ClassId} {A : Nat → Prop} {ls : Array Slot} {b L i v ox om : Nat} {xs : Nat → Int32} {w : va_W} (hc : cX p m meth c s args D cy A RL code 4 ret) (hX : va_X b L xs s s.heap) (hbl : b < s.heap.size) (hbA : ¬ A b) (hL : L ≤ 3072) (hl : lv_has ls 4 [(3, .int (nI i)), (2, .ref om), (1, .ref ox), (0, .ref b)]) (hi : i + 6 ≤ L) (hw : wV D A s.heap w H locs) (hR : Rel cy ox om v w) (hv : v < 1000) (hcs : cells + 14 ≤ 600000 ∧ slots + 4239 ≤ 7302250) (kk : ∀ (H1 : Heap) (locs1 : List Loc) (w' : va_W), wV D A s.heap w' H1 locs1 → Rel cy ox om (v + 1) w' → W p l e room_1 s m args below meth c H1 locs1 (cells + 14) (slots + 4239) Q0 (F0 m 1187 ls [])) : W p l e room_1 s m args below meth c H locs cells slots Q0 (F0 m 503 ls []) := by
  have hx := hc.1.1
  have hb := hc.1.2.1
  refine lv_aload_n hx hb dL_law_503 rfl (lv_at hl 2 rfl) ?_
  refine cllC (As := []) hc hw (o_law hR (nodup_ix.mp hw.2.1).1 hv) lk_L_55 rfl (by decide) hl.1 hcs rfl rfl dL_law_504 (fun r aM S wr' Q1 H1 locs1 e1 hw1 hP hQ => ?_)
  subst e1
  refine lv_aload_n hx hb dL_law_507 rfl (lv_at hl 1 rfl) ?_
  refine cllM (As := []) hc hw1 (c_M_law hP) (fun r' u h => ⟨u, rfl, h⟩) lk_L_58 rfl (by decide) (by decide) hl.1 hcs rfl rfl dL_law_508 (fun r' S' H2 locs2 q hw2 => ?_)
  obtain ⟨e2, hR2⟩ := hQ r' S' q
  refine lv_icmp_eq hx hb dL_law_511 (tgt := 1187) rfl (fun _ => ?_) (fun ne => absurd e2 ne)
  exact kk _ _ _ hw2 hR2
