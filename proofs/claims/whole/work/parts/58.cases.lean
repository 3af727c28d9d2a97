section CASES
variable {p : Program} {l : Launch} {e : Env} {s : State} {m : MethodId} {below : List Frame} {meth : Method} {c : Code} {H : Heap} {locs : List Loc} {Q : State → Prop} {ls : Array Slot} {D : va_G} {cy : Nat → ClassId} {b L i : Nat} {xs : Nat → Int32} {adC adR : Nat → Nat} {Mc Mr : Mm}
abbrev lwN (p : Program) (l : Launch) (e : Env) (s : State) (m : MethodId) (below : List Frame) (meth : Method) (c : Code) (D : va_G) (cy : Nat → ClassId) (b : Nat) (adC adR : Nat → Nat) (Q : State → Prop) (ls : Array Slot) : Prop := ∀ (Mc1 Mr1 : Mm) (H1 : Heap) (locs1 : List Loc), lwG D s cy adC adR Mc1 Mr1 H1 locs1 → Inv Mc1 Mr1 → W p l e room_1 s m #[Value.ref b] below meth c H1 locs1 108 2818 Q (F0 m 1303 ls [])
set_option maxHeartbeats 4000000 in
set_option maxRecDepth 100000 in
theorem lc_0 (X : lwX p s m meth c b L xs D cy adC adR) (hL : L ≤ 384) (G : lwG D s cy adC adR Mc Mr H locs) (hI : Inv Mc Mr) (h6 : i + 6 ≤ L) (hl : lv_has ls 4 [(0, .ref b), (1, .ref (adC 0)), (2, .ref (adR 0)), (3, .int (nI i))]) (kn : lwN p l e s m below meth c D cy b adC adR Q ls) : W p l e room_1 s m #[Value.ref b] below meth c H locs 108 2818 Q (F0 m 188 ls []) := by
  have hx := X.1.1
  have hb := X.1.2.1
  refine lv_aload_n hx hb dL_law_188 rfl (lv_at hl 1 rfl) ?_
  refine lw_ld (k := 1) (n := 1) X hL G hl (by decide) (by omega) dL_law_189 dL_law_190 dL_law_191 dL_law_192 dL_law_193 ?_
  refine lw_ld (k := 2) (n := 2) X hL G hl (by decide) (by omega) dL_law_194 dL_law_195 dL_law_196 dL_law_197 dL_law_198 ?_
  refine lw_ld (k := 3) (n := 3) X hL G hl (by decide) (by omega) dL_law_199 dL_law_200 dL_law_201 dL_law_202 dL_law_203 ?_
  refine lw_C (rest := []) X G hl.1 (m_X11_row X.2.2.1 (op_row hI (xs (i + 1)) (xs (i + 2)) (xs (i + 3)))) cw_X11_row qw_6_1 qw_6_2 qw_6_3 rfl rfl (Nat.le_of_ble_eq_true rfl) ⟨(Nat.le_of_ble_eq_true rfl), (Nat.le_of_ble_eq_true rfl)⟩ ⟨(Nat.le_of_ble_eq_true rfl), (Nat.le_of_ble_eq_true rfl)⟩ dL_law_204 (fun r M1 H locs G h => ?_)
  refine lv_aload_n hx hb dL_law_207 rfl (lv_at hl 2 rfl) ?_
  refine lw_ld (k := 1) (n := 1) X hL G hl (by decide) (by omega) dL_law_208 dL_law_209 dL_law_210 dL_law_211 dL_law_212 ?_
  refine lw_ld (k := 2) (n := 2) X hL G hl (by decide) (by omega) dL_law_213 dL_law_214 dL_law_215 dL_law_216 dL_law_217 ?_
  refine lw_ld (k := 3) (n := 3) X hL G hl (by decide) (by omega) dL_law_218 dL_law_219 dL_law_220 dL_law_221 dL_law_222 ?_
  refine lw_R (rest := [.int r]) X G hl.1 (m_X12_row X.2.2.2.1 h) cw_X12_row qw_7_4 qw_7_5 qw_7_6 rfl rfl (Nat.le_of_ble_eq_true rfl) ⟨(Nat.le_of_ble_eq_true rfl), (Nat.le_of_ble_eq_true rfl)⟩ ⟨(Nat.le_of_ble_eq_true rfl), (Nat.le_of_ble_eq_true rfl)⟩ dL_law_223 (fun r' M1 H locs G h => ?_)
  exact lv_icmp_eq (tgt := 1303) hx hb dL_law_226 (by decide) (fun _ => kn _ _ _ _ G h.2) (fun q => absurd h.1 q)
set_option maxHeartbeats 4000000 in
set_option maxRecDepth 100000 in
theorem lc_1 (X : lwX p s m meth c b L xs D cy adC adR) (hL : L ≤ 384) (G : lwG D s cy adC adR Mc Mr H locs) (hI : Inv Mc Mr) (h6 : i + 6 ≤ L) (hl : lv_has ls 4 [(0, .ref b), (1, .ref (adC 0)), (2, .ref (adR 0)), (3, .int (nI i))]) (kn : lwN p l e s m below meth c D cy b adC adR Q ls) : W p l e room_1 s m #[Value.ref b] below meth c H locs 108 2818 Q (F0 m 231 ls []) := by
  have hx := X.1.1
  have hb := X.1.2.1
  refine lv_aload_n hx hb dL_law_231 rfl (lv_at hl 1 rfl) ?_
  refine lw_ld (k := 1) (n := 1) X hL G hl (by decide) (by omega) dL_law_232 dL_law_233 dL_law_234 dL_law_235 dL_law_236 ?_
  refine lw_ld (k := 2) (n := 2) X hL G hl (by decide) (by omega) dL_law_237 dL_law_238 dL_law_239 dL_law_240 dL_law_241 ?_
  refine lw_ld (k := 3) (n := 3) X hL G hl (by decide) (by omega) dL_law_242 dL_law_243 dL_law_244 dL_law_245 dL_law_246 ?_
  refine lw_C (rest := []) X G hl.1 (m_X11_set X.2.2.1 (op_set hI (xs (i + 1)) (xs (i + 2)) (xs (i + 3)))) cw_X11_set qw_8_1 qw_8_2 qw_8_3 rfl rfl (Nat.le_of_ble_eq_true rfl) ⟨(Nat.le_of_ble_eq_true rfl), (Nat.le_of_ble_eq_true rfl)⟩ ⟨(Nat.le_of_ble_eq_true rfl), (Nat.le_of_ble_eq_true rfl)⟩ dL_law_247 (fun r M1 H locs G h => ?_)
  refine lv_aload_n hx hb dL_law_250 rfl (lv_at hl 2 rfl) ?_
  refine lw_ld (k := 1) (n := 1) X hL G hl (by decide) (by omega) dL_law_251 dL_law_252 dL_law_253 dL_law_254 dL_law_255 ?_
  refine lw_ld (k := 2) (n := 2) X hL G hl (by decide) (by omega) dL_law_256 dL_law_257 dL_law_258 dL_law_259 dL_law_260 ?_
  refine lw_ld (k := 3) (n := 3) X hL G hl (by decide) (by omega) dL_law_261 dL_law_262 dL_law_263 dL_law_264 dL_law_265 ?_
  refine lw_R (rest := [.int r]) X G hl.1 (m_X12_set X.2.2.2.1 h) cw_X12_set qw_8_14 qw_8_15 qw_8_16 rfl rfl (Nat.le_of_ble_eq_true rfl) ⟨(Nat.le_of_ble_eq_true rfl), (Nat.le_of_ble_eq_true rfl)⟩ ⟨(Nat.le_of_ble_eq_true rfl), (Nat.le_of_ble_eq_true rfl)⟩ dL_law_266 (fun r' M1 H locs G h => ?_)
  exact lv_icmp_eq (tgt := 1303) hx hb dL_law_269 (by decide) (fun _ => kn _ _ _ _ G h.2) (fun q => absurd h.1 q)
set_option maxHeartbeats 4000000 in
set_option maxRecDepth 100000 in
theorem lc_2 (X : lwX p s m meth c b L xs D cy adC adR) (hL : L ≤ 384) (G : lwG D s cy adC adR Mc Mr H locs) (hI : Inv Mc Mr) (h6 : i + 6 ≤ L) (hl : lv_has ls 4 [(0, .ref b), (1, .ref (adC 0)), (2, .ref (adR 0)), (3, .int (nI i))]) (kn : lwN p l e s m below meth c D cy b adC adR Q ls) : W p l e room_1 s m #[Value.ref b] below meth c H locs 108 2818 Q (F0 m 274 ls []) := by
  have hx := X.1.1
  have hb := X.1.2.1
  refine lv_aload_n hx hb dL_law_274 rfl (lv_at hl 1 rfl) ?_
  refine lw_ld (k := 1) (n := 1) X hL G hl (by decide) (by omega) dL_law_275 dL_law_276 dL_law_277 dL_law_278 dL_law_279 ?_
  refine lw_ld (k := 2) (n := 2) X hL G hl (by decide) (by omega) dL_law_280 dL_law_281 dL_law_282 dL_law_283 dL_law_284 ?_
  refine lw_ld (k := 3) (n := 3) X hL G hl (by decide) (by omega) dL_law_285 dL_law_286 dL_law_287 dL_law_288 dL_law_289 ?_
  refine lw_ld (k := 4) (n := 4) X hL G hl (by decide) (by omega) dL_law_290 dL_law_291 dL_law_292 dL_law_293 dL_law_294 ?_
  refine lw_ld (k := 5) (n := 5) X hL G hl (by decide) (by omega) dL_law_295 dL_law_296 dL_law_297 dL_law_298 dL_law_299 ?_
  refine lw_C (rest := []) X G hl.1 (m_X11_copy X.2.2.1 (op_copy hI (xs (i + 1)) (xs (i + 2)) (xs (i + 3)) (xs (i + 4)) (xs (i + 5)))) cw_X11_copy qw_8_18 qw_8_19 qw_8_20 rfl rfl (Nat.le_of_ble_eq_true rfl) ⟨(Nat.le_of_ble_eq_true rfl), (Nat.le_of_ble_eq_true rfl)⟩ ⟨(Nat.le_of_ble_eq_true rfl), (Nat.le_of_ble_eq_true rfl)⟩ dL_law_300 (fun r M1 H locs G h => ?_)
  refine lv_aload_n hx hb dL_law_303 rfl (lv_at hl 2 rfl) ?_
  refine lw_ld (k := 1) (n := 1) X hL G hl (by decide) (by omega) dL_law_304 dL_law_305 dL_law_306 dL_law_307 dL_law_308 ?_
  refine lw_ld (k := 2) (n := 2) X hL G hl (by decide) (by omega) dL_law_309 dL_law_310 dL_law_311 dL_law_312 dL_law_313 ?_
  refine lw_ld (k := 3) (n := 3) X hL G hl (by decide) (by omega) dL_law_314 dL_law_315 dL_law_316 dL_law_317 dL_law_318 ?_
  refine lw_ld (k := 4) (n := 4) X hL G hl (by decide) (by omega) dL_law_319 dL_law_320 dL_law_321 dL_law_322 dL_law_323 ?_
  refine lw_ld (k := 5) (n := 5) X hL G hl (by decide) (by omega) dL_law_324 dL_law_325 dL_law_326 dL_law_327 dL_law_328 ?_
  refine lw_R (rest := [.int r]) X G hl.1 (m_X12_copy X.2.2.2.1 h) cw_X12_copy qw_9_2 qw_9_3 qw_9_4 rfl rfl (Nat.le_of_ble_eq_true rfl) ⟨(Nat.le_of_ble_eq_true rfl), (Nat.le_of_ble_eq_true rfl)⟩ ⟨(Nat.le_of_ble_eq_true rfl), (Nat.le_of_ble_eq_true rfl)⟩ dL_law_329 (fun r' M1 H locs G h => ?_)
  exact lv_icmp_eq (tgt := 1303) hx hb dL_law_332 (by decide) (fun _ => kn _ _ _ _ G h.2) (fun q => absurd h.1 q)
set_option maxHeartbeats 4000000 in
set_option maxRecDepth 100000 in
theorem lc_3 (X : lwX p s m meth c b L xs D cy adC adR) (hL : L ≤ 384) (G : lwG D s cy adC adR Mc Mr H locs) (hI : Inv Mc Mr) (h6 : i + 6 ≤ L) (hl : lv_has ls 4 [(0, .ref b), (1, .ref (adC 0)), (2, .ref (adR 0)), (3, .int (nI i))]) (kn : lwN p l e s m below meth c D cy b adC adR Q ls) : W p l e room_1 s m #[Value.ref b] below meth c H locs 108 2818 Q (F0 m 337 ls []) := by
  have hx := X.1.1
  have hb := X.1.2.1
  refine lv_aload_n hx hb dL_law_337 rfl (lv_at hl 1 rfl) ?_
  refine lw_ld (k := 1) (n := 1) X hL G hl (by decide) (by omega) dL_law_338 dL_law_339 dL_law_340 dL_law_341 dL_law_342 ?_
  refine lw_C (rest := []) X G hl.1 (m_X11_drop X.2.2.1 (op_drop hI (xs (i + 1)))) cw_X11_drop qw_9_10 qw_9_11 qw_9_12 rfl rfl (Nat.le_of_ble_eq_true rfl) ⟨(Nat.le_of_ble_eq_true rfl), (Nat.le_of_ble_eq_true rfl)⟩ ⟨(Nat.le_of_ble_eq_true rfl), (Nat.le_of_ble_eq_true rfl)⟩ dL_law_343 (fun r M1 H locs G h => ?_)
  refine lv_aload_n hx hb dL_law_346 rfl (lv_at hl 2 rfl) ?_
  refine lw_ld (k := 1) (n := 1) X hL G hl (by decide) (by omega) dL_law_347 dL_law_348 dL_law_349 dL_law_350 dL_law_351 ?_
  refine lw_R (rest := [.int r]) X G hl.1 (m_X12_drop X.2.2.2.1 h) cw_X12_drop qw_9_17 qw_9_18 qw_9_19 rfl rfl (Nat.le_of_ble_eq_true rfl) ⟨(Nat.le_of_ble_eq_true rfl), (Nat.le_of_ble_eq_true rfl)⟩ ⟨(Nat.le_of_ble_eq_true rfl), (Nat.le_of_ble_eq_true rfl)⟩ dL_law_352 (fun r' M1 H locs G h => ?_)
  exact lv_icmp_eq (tgt := 1303) hx hb dL_law_355 (by decide) (fun _ => kn _ _ _ _ G h.2) (fun q => absurd h.1 q)
set_option maxHeartbeats 4000000 in
set_option maxRecDepth 100000 in
theorem lc_4 (X : lwX p s m meth c b L xs D cy adC adR) (hL : L ≤ 384) (G : lwG D s cy adC adR Mc Mr H locs) (hI : Inv Mc Mr) (h6 : i + 6 ≤ L) (hl : lv_has ls 4 [(0, .ref b), (1, .ref (adC 0)), (2, .ref (adR 0)), (3, .int (nI i))]) (kn : lwN p l e s m below meth c D cy b adC adR Q ls) : W p l e room_1 s m #[Value.ref b] below meth c H locs 108 2818 Q (F0 m 360 ls []) := by
  have hx := X.1.1
  have hb := X.1.2.1
  refine lv_aload_n hx hb dL_law_360 rfl (lv_at hl 1 rfl) ?_
  refine lw_ld (k := 1) (n := 1) X hL G hl (by decide) (by omega) dL_law_361 dL_law_362 dL_law_363 dL_law_364 dL_law_365 ?_
  refine lw_C (rest := []) X G hl.1 (m_X11_feed X.2.2.1 (op_feed hI (xs (i + 1)))) cw_X11_feed qw_9_21 qw_9_22 qw_9_23 rfl rfl (Nat.le_of_ble_eq_true rfl) ⟨(Nat.le_of_ble_eq_true rfl), (Nat.le_of_ble_eq_true rfl)⟩ ⟨(Nat.le_of_ble_eq_true rfl), (Nat.le_of_ble_eq_true rfl)⟩ dL_law_366 (fun r M1 H locs G h => ?_)
  refine lv_aload_n hx hb dL_law_369 rfl (lv_at hl 2 rfl) ?_
  refine lw_ld (k := 1) (n := 1) X hL G hl (by decide) (by omega) dL_law_370 dL_law_371 dL_law_372 dL_law_373 dL_law_374 ?_
  refine lw_R (rest := [.int r]) X G hl.1 (m_X12_feed X.2.2.2.1 h) cw_X12_feed qw_10_6 qw_10_7 qw_10_8 rfl rfl (Nat.le_of_ble_eq_true rfl) ⟨(Nat.le_of_ble_eq_true rfl), (Nat.le_of_ble_eq_true rfl)⟩ ⟨(Nat.le_of_ble_eq_true rfl), (Nat.le_of_ble_eq_true rfl)⟩ dL_law_375 (fun r' M1 H locs G h => ?_)
  exact lv_icmp_eq (tgt := 1303) hx hb dL_law_378 (by decide) (fun _ => kn _ _ _ _ G h.2) (fun q => absurd h.1 q)
set_option maxHeartbeats 4000000 in
set_option maxRecDepth 100000 in
theorem lc_5 (X : lwX p s m meth c b L xs D cy adC adR) (hL : L ≤ 384) (G : lwG D s cy adC adR Mc Mr H locs) (hI : Inv Mc Mr) (h6 : i + 6 ≤ L) (hl : lv_has ls 4 [(0, .ref b), (1, .ref (adC 0)), (2, .ref (adR 0)), (3, .int (nI i))]) (kn : lwN p l e s m below meth c D cy b adC adR Q ls) : W p l e room_1 s m #[Value.ref b] below meth c H locs 108 2818 Q (F0 m 383 ls []) := by
  have hx := X.1.1
  have hb := X.1.2.1
  refine lv_aload_n hx hb dL_law_383 rfl (lv_at hl 1 rfl) ?_
  refine lw_C (rest := []) X G hl.1 (m_X11_paper X.2.2.1 (op_paper hI)) cw_X11_paper qw_10_12 qw_10_13 qw_10_14 rfl rfl (Nat.le_of_ble_eq_true rfl) ⟨(Nat.le_of_ble_eq_true rfl), (Nat.le_of_ble_eq_true rfl)⟩ ⟨(Nat.le_of_ble_eq_true rfl), (Nat.le_of_ble_eq_true rfl)⟩ dL_law_384 (fun r M1 H locs G h => ?_)
  refine lv_aload_n hx hb dL_law_387 rfl (lv_at hl 2 rfl) ?_
  refine lw_R (rest := [.int r]) X G hl.1 (m_X12_paper X.2.2.2.1 h) cw_X12_paper qw_14_0 qw_14_1 qw_14_2 rfl rfl (Nat.le_of_ble_eq_true rfl) ⟨(Nat.le_of_ble_eq_true rfl), (Nat.le_of_ble_eq_true rfl)⟩ ⟨(Nat.le_of_ble_eq_true rfl), (Nat.le_of_ble_eq_true rfl)⟩ dL_law_388 (fun r' M1 H locs G h => ?_)
  exact lv_icmp_eq (tgt := 1303) hx hb dL_law_391 (by decide) (fun _ => kn _ _ _ _ G h.2) (fun q => absurd h.1 q)
set_option maxHeartbeats 4000000 in
set_option maxRecDepth 100000 in
theorem lc_6 (X : lwX p s m meth c b L xs D cy adC adR) (hL : L ≤ 384) (G : lwG D s cy adC adR Mc Mr H locs) (hI : Inv Mc Mr) (h6 : i + 6 ≤ L) (hl : lv_has ls 4 [(0, .ref b), (1, .ref (adC 0)), (2, .ref (adR 0)), (3, .int (nI i))]) (kn : lwN p l e s m below meth c D cy b adC adR Q ls) : W p l e room_1 s m #[Value.ref b] below meth c H locs 108 2818 Q (F0 m 396 ls []) := by
  have hx := X.1.1
  have hb := X.1.2.1
  refine lv_aload_n hx hb dL_law_396 rfl (lv_at hl 1 rfl) ?_
  refine lw_C (rest := []) X G hl.1 (m_X11_fault X.2.2.1 (op_fault hI)) cw_X11_fault qw_16_4 qw_16_5 qw_16_6 rfl rfl (Nat.le_of_ble_eq_true rfl) ⟨(Nat.le_of_ble_eq_true rfl), (Nat.le_of_ble_eq_true rfl)⟩ ⟨(Nat.le_of_ble_eq_true rfl), (Nat.le_of_ble_eq_true rfl)⟩ dL_law_397 (fun r M1 H locs G h => ?_)
  refine lv_aload_n hx hb dL_law_400 rfl (lv_at hl 2 rfl) ?_
  refine lw_R (rest := [.int r]) X G hl.1 (m_X12_fault X.2.2.2.1 h) cw_X12_fault qw_16_8 qw_16_9 qw_16_10 rfl rfl (Nat.le_of_ble_eq_true rfl) ⟨(Nat.le_of_ble_eq_true rfl), (Nat.le_of_ble_eq_true rfl)⟩ ⟨(Nat.le_of_ble_eq_true rfl), (Nat.le_of_ble_eq_true rfl)⟩ dL_law_401 (fun r' M1 H locs G h => ?_)
  exact lv_icmp_eq (tgt := 1303) hx hb dL_law_404 (by decide) (fun _ => kn _ _ _ _ G h.2) (fun q => absurd h.1 q)
set_option maxHeartbeats 4000000 in
set_option maxRecDepth 100000 in
theorem lc_7 (X : lwX p s m meth c b L xs D cy adC adR) (hL : L ≤ 384) (G : lwG D s cy adC adR Mc Mr H locs) (hI : Inv Mc Mr) (h6 : i + 6 ≤ L) (hl : lv_has ls 4 [(0, .ref b), (1, .ref (adC 0)), (2, .ref (adR 0)), (3, .int (nI i))]) (kn : lwN p l e s m below meth c D cy b adC adR Q ls) : W p l e room_1 s m #[Value.ref b] below meth c H locs 108 2818 Q (F0 m 409 ls []) := by
  have hx := X.1.1
  have hb := X.1.2.1
  refine lv_aload_n hx hb dL_law_409 rfl (lv_at hl 1 rfl) ?_
  refine lw_ld (k := 1) (n := 1) X hL G hl (by decide) (by omega) dL_law_410 dL_law_411 dL_law_412 dL_law_413 dL_law_414 ?_
  refine lw_C (rest := []) X G hl.1 (m_X11_days X.2.2.1 (op_days hI (xs (i + 1)))) cw_X11_days qw_16_12 qw_16_13 qw_16_14 rfl rfl (Nat.le_of_ble_eq_true rfl) ⟨(Nat.le_of_ble_eq_true rfl), (Nat.le_of_ble_eq_true rfl)⟩ ⟨(Nat.le_of_ble_eq_true rfl), (Nat.le_of_ble_eq_true rfl)⟩ dL_law_415 (fun r M1 H locs G h => ?_)
  refine lv_aload_n hx hb dL_law_418 rfl (lv_at hl 2 rfl) ?_
  refine lw_ld (k := 1) (n := 1) X hL G hl (by decide) (by omega) dL_law_419 dL_law_420 dL_law_421 dL_law_422 dL_law_423 ?_
  refine lw_R (rest := [.int r]) X G hl.1 (m_X12_days X.2.2.2.1 h) cw_X12_days qw_19_10 qw_19_11 qw_19_12 rfl rfl (Nat.le_of_ble_eq_true rfl) ⟨(Nat.le_of_ble_eq_true rfl), (Nat.le_of_ble_eq_true rfl)⟩ ⟨(Nat.le_of_ble_eq_true rfl), (Nat.le_of_ble_eq_true rfl)⟩ dL_law_424 (fun r' M1 H locs G h => ?_)
  exact lv_icmp_eq (tgt := 1303) hx hb dL_law_427 (by decide) (fun _ => kn _ _ _ _ G h.2) (fun q => absurd h.1 q)
set_option maxHeartbeats 4000000 in
set_option maxRecDepth 100000 in
theorem lc_8 (X : lwX p s m meth c b L xs D cy adC adR) (hL : L ≤ 384) (G : lwG D s cy adC adR Mc Mr H locs) (hI : Inv Mc Mr) (h6 : i + 6 ≤ L) (hl : lv_has ls 4 [(0, .ref b), (1, .ref (adC 0)), (2, .ref (adR 0)), (3, .int (nI i))]) (kn : lwN p l e s m below meth c D cy b adC adR Q ls) : W p l e room_1 s m #[Value.ref b] below meth c H locs 108 2818 Q (F0 m 432 ls []) := by
  have hx := X.1.1
  have hb := X.1.2.1
  refine lv_aload_n hx hb dL_law_432 rfl (lv_at hl 1 rfl) ?_
  refine lw_ld (k := 1) (n := 1) X hL G hl (by decide) (by omega) dL_law_433 dL_law_434 dL_law_435 dL_law_436 dL_law_437 ?_
  refine lw_ld (k := 2) (n := 2) X hL G hl (by decide) (by omega) dL_law_438 dL_law_439 dL_law_440 dL_law_441 dL_law_442 ?_
  refine lw_C (rest := []) X G hl.1 (m_X11_move X.2.2.1 (op_move hI (xs (i + 1)) (xs (i + 2)))) cw_X11_move qw_20_19 qw_20_20 qw_20_21 rfl rfl (Nat.le_of_ble_eq_true rfl) ⟨(Nat.le_of_ble_eq_true rfl), (Nat.le_of_ble_eq_true rfl)⟩ ⟨(Nat.le_of_ble_eq_true rfl), (Nat.le_of_ble_eq_true rfl)⟩ dL_law_443 (fun r M1 H locs G h => ?_)
  refine lv_aload_n hx hb dL_law_446 rfl (lv_at hl 2 rfl) ?_
  refine lw_ld (k := 1) (n := 1) X hL G hl (by decide) (by omega) dL_law_447 dL_law_448 dL_law_449 dL_law_450 dL_law_451 ?_
  refine lw_ld (k := 2) (n := 2) X hL G hl (by decide) (by omega) dL_law_452 dL_law_453 dL_law_454 dL_law_455 dL_law_456 ?_
  refine lw_R (rest := [.int r]) X G hl.1 (m_X12_move X.2.2.2.1 h) cw_X12_move qw_21_8 qw_21_9 qw_21_10 rfl rfl (Nat.le_of_ble_eq_true rfl) ⟨(Nat.le_of_ble_eq_true rfl), (Nat.le_of_ble_eq_true rfl)⟩ ⟨(Nat.le_of_ble_eq_true rfl), (Nat.le_of_ble_eq_true rfl)⟩ dL_law_457 (fun r' M1 H locs G h => ?_)
  exact lv_icmp_eq (tgt := 1303) hx hb dL_law_460 (by decide) (fun _ => kn _ _ _ _ G h.2) (fun q => absurd h.1 q)
set_option maxHeartbeats 4000000 in
set_option maxRecDepth 100000 in
theorem lc_9 (X : lwX p s m meth c b L xs D cy adC adR) (hL : L ≤ 384) (G : lwG D s cy adC adR Mc Mr H locs) (hI : Inv Mc Mr) (h6 : i + 6 ≤ L) (hl : lv_has ls 4 [(0, .ref b), (1, .ref (adC 0)), (2, .ref (adR 0)), (3, .int (nI i))]) (kn : lwN p l e s m below meth c D cy b adC adR Q ls) : W p l e room_1 s m #[Value.ref b] below meth c H locs 108 2818 Q (F0 m 465 ls []) := by
  have hx := X.1.1
  have hb := X.1.2.1
  refine lv_aload_n hx hb dL_law_465 rfl (lv_at hl 1 rfl) ?_
  refine lw_ld (k := 1) (n := 1) X hL G hl (by decide) (by omega) dL_law_466 dL_law_467 dL_law_468 dL_law_469 dL_law_470 ?_
  refine lw_ld (k := 2) (n := 2) X hL G hl (by decide) (by omega) dL_law_471 dL_law_472 dL_law_473 dL_law_474 dL_law_475 ?_
  refine lw_C (rest := []) X G hl.1 (m_X11_fade X.2.2.1 (op_fade hI (xs (i + 1)) (xs (i + 2)))) cw_X11_fade qw_21_16 qw_21_17 qw_21_18 rfl rfl (Nat.le_of_ble_eq_true rfl) ⟨(Nat.le_of_ble_eq_true rfl), (Nat.le_of_ble_eq_true rfl)⟩ ⟨(Nat.le_of_ble_eq_true rfl), (Nat.le_of_ble_eq_true rfl)⟩ dL_law_476 (fun r M1 H locs G h => ?_)
  refine lv_aload_n hx hb dL_law_479 rfl (lv_at hl 2 rfl) ?_
  refine lw_ld (k := 1) (n := 1) X hL G hl (by decide) (by omega) dL_law_480 dL_law_481 dL_law_482 dL_law_483 dL_law_484 ?_
  refine lw_ld (k := 2) (n := 2) X hL G hl (by decide) (by omega) dL_law_485 dL_law_486 dL_law_487 dL_law_488 dL_law_489 ?_
  refine lw_R (rest := [.int r]) X G hl.1 (m_X12_fade X.2.2.2.1 h) cw_X12_fade qw_22_2 qw_22_3 qw_22_4 rfl rfl (Nat.le_of_ble_eq_true rfl) ⟨(Nat.le_of_ble_eq_true rfl), (Nat.le_of_ble_eq_true rfl)⟩ ⟨(Nat.le_of_ble_eq_true rfl), (Nat.le_of_ble_eq_true rfl)⟩ dL_law_490 (fun r' M1 H locs G h => ?_)
  exact lv_icmp_eq (tgt := 1303) hx hb dL_law_493 (by decide) (fun _ => kn _ _ _ _ G h.2) (fun q => absurd h.1 q)
set_option maxHeartbeats 4000000 in
set_option maxRecDepth 100000 in
theorem lc_10 (X : lwX p s m meth c b L xs D cy adC adR) (hL : L ≤ 384) (G : lwG D s cy adC adR Mc Mr H locs) (hI : Inv Mc Mr) (h6 : i + 6 ≤ L) (hl : lv_has ls 4 [(0, .ref b), (1, .ref (adC 0)), (2, .ref (adR 0)), (3, .int (nI i))]) (kn : lwN p l e s m below meth c D cy b adC adR Q ls) : W p l e room_1 s m #[Value.ref b] below meth c H locs 108 2818 Q (F0 m 498 ls []) := by
  have hx := X.1.1
  have hb := X.1.2.1
  refine lv_aload_n hx hb dL_law_498 rfl (lv_at hl 1 rfl) ?_
  refine lw_ld (k := 1) (n := 1) X hL G hl (by decide) (by omega) dL_law_499 dL_law_500 dL_law_501 dL_law_502 dL_law_503 ?_
  refine lw_ld (k := 2) (n := 2) X hL G hl (by decide) (by omega) dL_law_504 dL_law_505 dL_law_506 dL_law_507 dL_law_508 ?_
  refine lw_C (rest := []) X G hl.1 (m_X11_put X.2.2.1 (op_put hI (xs (i + 1)) (xs (i + 2)))) cw_X11_put qw_22_13 qw_22_14 qw_22_15 rfl rfl (Nat.le_of_ble_eq_true rfl) ⟨(Nat.le_of_ble_eq_true rfl), (Nat.le_of_ble_eq_true rfl)⟩ ⟨(Nat.le_of_ble_eq_true rfl), (Nat.le_of_ble_eq_true rfl)⟩ dL_law_509 (fun r M1 H locs G h => ?_)
  refine lv_aload_n hx hb dL_law_512 rfl (lv_at hl 2 rfl) ?_
  refine lw_ld (k := 1) (n := 1) X hL G hl (by decide) (by omega) dL_law_513 dL_law_514 dL_law_515 dL_law_516 dL_law_517 ?_
  refine lw_ld (k := 2) (n := 2) X hL G hl (by decide) (by omega) dL_law_518 dL_law_519 dL_law_520 dL_law_521 dL_law_522 ?_
  refine lw_R (rest := [.int r]) X G hl.1 (m_X12_put X.2.2.2.1 h) cw_X12_put qw_22_23 qw_23_0 qw_23_1 rfl rfl (Nat.le_of_ble_eq_true rfl) ⟨(Nat.le_of_ble_eq_true rfl), (Nat.le_of_ble_eq_true rfl)⟩ ⟨(Nat.le_of_ble_eq_true rfl), (Nat.le_of_ble_eq_true rfl)⟩ dL_law_523 (fun r' M1 H locs G h => ?_)
  exact lv_icmp_eq (tgt := 1303) hx hb dL_law_526 (by decide) (fun _ => kn _ _ _ _ G h.2) (fun q => absurd h.1 q)
set_option maxHeartbeats 4000000 in
set_option maxRecDepth 100000 in
theorem lc_11 (X : lwX p s m meth c b L xs D cy adC adR) (hL : L ≤ 384) (G : lwG D s cy adC adR Mc Mr H locs) (hI : Inv Mc Mr) (h6 : i + 6 ≤ L) (hl : lv_has ls 4 [(0, .ref b), (1, .ref (adC 0)), (2, .ref (adR 0)), (3, .int (nI i))]) (kn : lwN p l e s m below meth c D cy b adC adR Q ls) : W p l e room_1 s m #[Value.ref b] below meth c H locs 108 2818 Q (F0 m 531 ls []) := by
  have hx := X.1.1
  have hb := X.1.2.1
  refine lv_aload_n hx hb dL_law_531 rfl (lv_at hl 1 rfl) ?_
  refine lw_C (rest := []) X G hl.1 (m_X11_undo X.2.2.1 (op_undo hI)) cw_X11_undo qw_23_11 qw_23_12 qw_23_13 rfl rfl (Nat.le_of_ble_eq_true rfl) ⟨(Nat.le_of_ble_eq_true rfl), (Nat.le_of_ble_eq_true rfl)⟩ ⟨(Nat.le_of_ble_eq_true rfl), (Nat.le_of_ble_eq_true rfl)⟩ dL_law_532 (fun r M1 H locs G h => ?_)
  refine lv_aload_n hx hb dL_law_535 rfl (lv_at hl 2 rfl) ?_
  refine lw_R (rest := [.int r]) X G hl.1 (m_X12_undo X.2.2.2.1 h) cw_X12_undo qw_23_18 qw_23_19 qw_23_20 rfl rfl (Nat.le_of_ble_eq_true rfl) ⟨(Nat.le_of_ble_eq_true rfl), (Nat.le_of_ble_eq_true rfl)⟩ ⟨(Nat.le_of_ble_eq_true rfl), (Nat.le_of_ble_eq_true rfl)⟩ dL_law_536 (fun r' M1 H locs G h => ?_)
  exact lv_icmp_eq (tgt := 1303) hx hb dL_law_539 (by decide) (fun _ => kn _ _ _ _ G h.2) (fun q => absurd h.1 q)
set_option maxHeartbeats 4000000 in
set_option maxRecDepth 100000 in
theorem lc_12 (X : lwX p s m meth c b L xs D cy adC adR) (hL : L ≤ 384) (G : lwG D s cy adC adR Mc Mr H locs) (hI : Inv Mc Mr) (h6 : i + 6 ≤ L) (hl : lv_has ls 4 [(0, .ref b), (1, .ref (adC 0)), (2, .ref (adR 0)), (3, .int (nI i))]) (kn : lwN p l e s m below meth c D cy b adC adR Q ls) : W p l e room_1 s m #[Value.ref b] below meth c H locs 108 2818 Q (F0 m 544 ls []) := by
  have hx := X.1.1
  have hb := X.1.2.1
  refine lv_aload_n hx hb dL_law_544 rfl (lv_at hl 1 rfl) ?_
  refine lw_ld (k := 1) (n := 1) X hL G hl (by decide) (by omega) dL_law_545 dL_law_546 dL_law_547 dL_law_548 dL_law_549 ?_
  refine lw_ld (k := 2) (n := 2) X hL G hl (by decide) (by omega) dL_law_550 dL_law_551 dL_law_552 dL_law_553 dL_law_554 ?_
  refine lw_C (rest := []) X G hl.1 (m_X11_cell X.2.2.1 (op_cell hI (xs (i + 1)) (xs (i + 2)))) cw_X11_cell qw_23_22 qw_23_23 qw_24_0 rfl rfl (Nat.le_of_ble_eq_true rfl) ⟨(Nat.le_of_ble_eq_true rfl), (Nat.le_of_ble_eq_true rfl)⟩ ⟨(Nat.le_of_ble_eq_true rfl), (Nat.le_of_ble_eq_true rfl)⟩ dL_law_555 (fun r M1 H locs G h => ?_)
  refine lv_aload_n hx hb dL_law_558 rfl (lv_at hl 2 rfl) ?_
  refine lw_ld (k := 1) (n := 1) X hL G hl (by decide) (by omega) dL_law_559 dL_law_560 dL_law_561 dL_law_562 dL_law_563 ?_
  refine lw_ld (k := 2) (n := 2) X hL G hl (by decide) (by omega) dL_law_564 dL_law_565 dL_law_566 dL_law_567 dL_law_568 ?_
  refine lw_R (rest := [.int r]) X G hl.1 (m_X12_cell X.2.2.2.1 h) cw_X12_cell qw_24_8 qw_24_9 qw_24_10 rfl rfl (Nat.le_of_ble_eq_true rfl) ⟨(Nat.le_of_ble_eq_true rfl), (Nat.le_of_ble_eq_true rfl)⟩ ⟨(Nat.le_of_ble_eq_true rfl), (Nat.le_of_ble_eq_true rfl)⟩ dL_law_569 (fun r' M1 H locs G h => ?_)
  exact lv_icmp_eq (tgt := 1303) hx hb dL_law_572 (by decide) (fun _ => kn _ _ _ _ G h.2) (fun q => absurd h.1 q)
set_option maxHeartbeats 4000000 in
set_option maxRecDepth 100000 in
theorem lc_13 (X : lwX p s m meth c b L xs D cy adC adR) (hL : L ≤ 384) (G : lwG D s cy adC adR Mc Mr H locs) (hI : Inv Mc Mr) (h6 : i + 6 ≤ L) (hl : lv_has ls 4 [(0, .ref b), (1, .ref (adC 0)), (2, .ref (adR 0)), (3, .int (nI i))]) (kn : lwN p l e s m below meth c D cy b adC adR Q ls) : W p l e room_1 s m #[Value.ref b] below meth c H locs 108 2818 Q (F0 m 577 ls []) := by
  have hx := X.1.1
  have hb := X.1.2.1
  refine lv_aload_n hx hb dL_law_577 rfl (lv_at hl 1 rfl) ?_
  refine lw_ld (k := 1) (n := 1) X hL G hl (by decide) (by omega) dL_law_578 dL_law_579 dL_law_580 dL_law_581 dL_law_582 ?_
  refine lw_ld (k := 2) (n := 2) X hL G hl (by decide) (by omega) dL_law_583 dL_law_584 dL_law_585 dL_law_586 dL_law_587 ?_
  refine lw_C (rest := []) X G hl.1 (m_X11_house X.2.2.1 (op_house hI (xs (i + 1)) (xs (i + 2)))) cw_X11_house qw_24_16 qw_24_17 qw_24_18 rfl rfl (Nat.le_of_ble_eq_true rfl) ⟨(Nat.le_of_ble_eq_true rfl), (Nat.le_of_ble_eq_true rfl)⟩ ⟨(Nat.le_of_ble_eq_true rfl), (Nat.le_of_ble_eq_true rfl)⟩ dL_law_588 (fun r M1 H locs G h => ?_)
  refine lv_aload_n hx hb dL_law_591 rfl (lv_at hl 2 rfl) ?_
  refine lw_ld (k := 1) (n := 1) X hL G hl (by decide) (by omega) dL_law_592 dL_law_593 dL_law_594 dL_law_595 dL_law_596 ?_
  refine lw_ld (k := 2) (n := 2) X hL G hl (by decide) (by omega) dL_law_597 dL_law_598 dL_law_599 dL_law_600 dL_law_601 ?_
  refine lw_R (rest := [.int r]) X G hl.1 (m_X12_house X.2.2.2.1 h) cw_X12_house qw_25_2 qw_25_3 qw_25_4 rfl rfl (Nat.le_of_ble_eq_true rfl) ⟨(Nat.le_of_ble_eq_true rfl), (Nat.le_of_ble_eq_true rfl)⟩ ⟨(Nat.le_of_ble_eq_true rfl), (Nat.le_of_ble_eq_true rfl)⟩ dL_law_602 (fun r' M1 H locs G h => ?_)
  exact lv_icmp_eq (tgt := 1303) hx hb dL_law_605 (by decide) (fun _ => kn _ _ _ _ G h.2) (fun q => absurd h.1 q)
set_option maxHeartbeats 4000000 in
set_option maxRecDepth 100000 in
theorem lc_14 (X : lwX p s m meth c b L xs D cy adC adR) (hL : L ≤ 384) (G : lwG D s cy adC adR Mc Mr H locs) (hI : Inv Mc Mr) (h6 : i + 6 ≤ L) (hl : lv_has ls 4 [(0, .ref b), (1, .ref (adC 0)), (2, .ref (adR 0)), (3, .int (nI i))]) (kn : lwN p l e s m below meth c D cy b adC adR Q ls) : W p l e room_1 s m #[Value.ref b] below meth c H locs 108 2818 Q (F0 m 610 ls []) := by
  have hx := X.1.1
  have hb := X.1.2.1
  refine lv_aload_n hx hb dL_law_610 rfl (lv_at hl 1 rfl) ?_
  refine lw_ld (k := 1) (n := 1) X hL G hl (by decide) (by omega) dL_law_611 dL_law_612 dL_law_613 dL_law_614 dL_law_615 ?_
  refine lw_ld (k := 2) (n := 2) X hL G hl (by decide) (by omega) dL_law_616 dL_law_617 dL_law_618 dL_law_619 dL_law_620 ?_
  refine lw_C (rest := []) X G hl.1 (m_X11_folk X.2.2.1 (op_folk hI (xs (i + 1)) (xs (i + 2)))) cw_X11_folk qw_25_6 qw_25_7 qw_25_8 rfl rfl (Nat.le_of_ble_eq_true rfl) ⟨(Nat.le_of_ble_eq_true rfl), (Nat.le_of_ble_eq_true rfl)⟩ ⟨(Nat.le_of_ble_eq_true rfl), (Nat.le_of_ble_eq_true rfl)⟩ dL_law_621 (fun r M1 H locs G h => ?_)
  refine lv_aload_n hx hb dL_law_624 rfl (lv_at hl 2 rfl) ?_
  refine lw_ld (k := 1) (n := 1) X hL G hl (by decide) (by omega) dL_law_625 dL_law_626 dL_law_627 dL_law_628 dL_law_629 ?_
  refine lw_ld (k := 2) (n := 2) X hL G hl (by decide) (by omega) dL_law_630 dL_law_631 dL_law_632 dL_law_633 dL_law_634 ?_
  refine lw_R (rest := [.int r]) X G hl.1 (m_X12_folk X.2.2.2.1 h) cw_X12_folk qw_25_17 qw_25_18 qw_25_19 rfl rfl (Nat.le_of_ble_eq_true rfl) ⟨(Nat.le_of_ble_eq_true rfl), (Nat.le_of_ble_eq_true rfl)⟩ ⟨(Nat.le_of_ble_eq_true rfl), (Nat.le_of_ble_eq_true rfl)⟩ dL_law_635 (fun r' M1 H locs G h => ?_)
  exact lv_icmp_eq (tgt := 1303) hx hb dL_law_638 (by decide) (fun _ => kn _ _ _ _ G h.2) (fun q => absurd h.1 q)
set_option maxHeartbeats 4000000 in
set_option maxRecDepth 100000 in
theorem lc_15 (X : lwX p s m meth c b L xs D cy adC adR) (hL : L ≤ 384) (G : lwG D s cy adC adR Mc Mr H locs) (hI : Inv Mc Mr) (h6 : i + 6 ≤ L) (hl : lv_has ls 4 [(0, .ref b), (1, .ref (adC 0)), (2, .ref (adR 0)), (3, .int (nI i))]) (kn : lwN p l e s m below meth c D cy b adC adR Q ls) : W p l e room_1 s m #[Value.ref b] below meth c H locs 108 2818 Q (F0 m 643 ls []) := by
  have hx := X.1.1
  have hb := X.1.2.1
  refine lv_aload_n hx hb dL_law_643 rfl (lv_at hl 1 rfl) ?_
  refine lw_ld (k := 1) (n := 1) X hL G hl (by decide) (by omega) dL_law_644 dL_law_645 dL_law_646 dL_law_647 dL_law_648 ?_
  refine lw_ld (k := 2) (n := 2) X hL G hl (by decide) (by omega) dL_law_649 dL_law_650 dL_law_651 dL_law_652 dL_law_653 ?_
  refine lw_ld (k := 3) (n := 3) X hL G hl (by decide) (by omega) dL_law_654 dL_law_655 dL_law_656 dL_law_657 dL_law_658 ?_
  refine lw_C (rest := []) X G hl.1 (m_X11_ahead X.2.2.1 (op_ahead hI (xs (i + 1)) (xs (i + 2)) (xs (i + 3)))) cw_X11_ahead qw_26_5 qw_26_6 qw_26_7 rfl rfl (Nat.le_of_ble_eq_true rfl) ⟨(Nat.le_of_ble_eq_true rfl), (Nat.le_of_ble_eq_true rfl)⟩ ⟨(Nat.le_of_ble_eq_true rfl), (Nat.le_of_ble_eq_true rfl)⟩ dL_law_659 (fun r M1 H locs G h => ?_)
  refine lv_aload_n hx hb dL_law_662 rfl (lv_at hl 2 rfl) ?_
  refine lw_ld (k := 1) (n := 1) X hL G hl (by decide) (by omega) dL_law_663 dL_law_664 dL_law_665 dL_law_666 dL_law_667 ?_
  refine lw_ld (k := 2) (n := 2) X hL G hl (by decide) (by omega) dL_law_668 dL_law_669 dL_law_670 dL_law_671 dL_law_672 ?_
  refine lw_ld (k := 3) (n := 3) X hL G hl (by decide) (by omega) dL_law_673 dL_law_674 dL_law_675 dL_law_676 dL_law_677 ?_
  refine lw_R (rest := [.int r]) X G hl.1 (m_X12_ahead X.2.2.2.1 h) cw_X12_ahead qw_26_16 qw_26_17 qw_26_18 rfl rfl (Nat.le_of_ble_eq_true rfl) ⟨(Nat.le_of_ble_eq_true rfl), (Nat.le_of_ble_eq_true rfl)⟩ ⟨(Nat.le_of_ble_eq_true rfl), (Nat.le_of_ble_eq_true rfl)⟩ dL_law_678 (fun r' M1 H locs G h => ?_)
  exact lv_icmp_eq (tgt := 1303) hx hb dL_law_681 (by decide) (fun _ => kn _ _ _ _ G h.2) (fun q => absurd h.1 q)
set_option maxHeartbeats 4000000 in
set_option maxRecDepth 100000 in
theorem lc_16 (X : lwX p s m meth c b L xs D cy adC adR) (hL : L ≤ 384) (G : lwG D s cy adC adR Mc Mr H locs) (hI : Inv Mc Mr) (h6 : i + 6 ≤ L) (hl : lv_has ls 4 [(0, .ref b), (1, .ref (adC 0)), (2, .ref (adR 0)), (3, .int (nI i))]) (kn : lwN p l e s m below meth c D cy b adC adR Q ls) : W p l e room_1 s m #[Value.ref b] below meth c H locs 108 2818 Q (F0 m 686 ls []) := by
  have hx := X.1.1
  have hb := X.1.2.1
  refine lv_aload_n hx hb dL_law_686 rfl (lv_at hl 1 rfl) ?_
  refine lw_ld (k := 1) (n := 1) X hL G hl (by decide) (by omega) dL_law_687 dL_law_688 dL_law_689 dL_law_690 dL_law_691 ?_
  refine lw_C (rest := []) X G hl.1 (m_X11_all X.2.2.1 (op_all hI (xs (i + 1)))) cw_X11_all qw_27_0 qw_27_1 qw_27_2 rfl rfl (Nat.le_of_ble_eq_true rfl) ⟨(Nat.le_of_ble_eq_true rfl), (Nat.le_of_ble_eq_true rfl)⟩ ⟨(Nat.le_of_ble_eq_true rfl), (Nat.le_of_ble_eq_true rfl)⟩ dL_law_692 (fun r M1 H locs G h => ?_)
  refine lv_aload_n hx hb dL_law_695 rfl (lv_at hl 2 rfl) ?_
  refine lw_ld (k := 1) (n := 1) X hL G hl (by decide) (by omega) dL_law_696 dL_law_697 dL_law_698 dL_law_699 dL_law_700 ?_
  refine lw_R (rest := [.int r]) X G hl.1 (m_X12_all X.2.2.2.1 h) cw_X12_all qw_27_8 qw_27_9 qw_27_10 rfl rfl (Nat.le_of_ble_eq_true rfl) ⟨(Nat.le_of_ble_eq_true rfl), (Nat.le_of_ble_eq_true rfl)⟩ ⟨(Nat.le_of_ble_eq_true rfl), (Nat.le_of_ble_eq_true rfl)⟩ dL_law_701 (fun r' M1 H locs G h => ?_)
  exact lv_icmp_eq (tgt := 1303) hx hb dL_law_704 (by decide) (fun _ => kn _ _ _ _ G h.2) (fun q => absurd h.1 q)
set_option maxHeartbeats 4000000 in
set_option maxRecDepth 100000 in
theorem lc_17 (X : lwX p s m meth c b L xs D cy adC adR) (hL : L ≤ 384) (G : lwG D s cy adC adR Mc Mr H locs) (hI : Inv Mc Mr) (h6 : i + 6 ≤ L) (hl : lv_has ls 4 [(0, .ref b), (1, .ref (adC 0)), (2, .ref (adR 0)), (3, .int (nI i))]) (kn : lwN p l e s m below meth c D cy b adC adR Q ls) : W p l e room_1 s m #[Value.ref b] below meth c H locs 108 2818 Q (F0 m 709 ls []) := by
  have hx := X.1.1
  have hb := X.1.2.1
  refine lv_aload_n hx hb dL_law_709 rfl (lv_at hl 1 rfl) ?_
  refine lw_ld (k := 1) (n := 1) X hL G hl (by decide) (by omega) dL_law_710 dL_law_711 dL_law_712 dL_law_713 dL_law_714 ?_
  refine lw_C (rest := []) X G hl.1 (m_X11_first X.2.2.1 (op_first hI (xs (i + 1)))) cw_X11_first qw_27_20 qw_27_21 qw_27_22 rfl rfl (Nat.le_of_ble_eq_true rfl) ⟨(Nat.le_of_ble_eq_true rfl), (Nat.le_of_ble_eq_true rfl)⟩ ⟨(Nat.le_of_ble_eq_true rfl), (Nat.le_of_ble_eq_true rfl)⟩ dL_law_715 (fun r M1 H locs G h => ?_)
  refine lv_aload_n hx hb dL_law_718 rfl (lv_at hl 2 rfl) ?_
  refine lw_ld (k := 1) (n := 1) X hL G hl (by decide) (by omega) dL_law_719 dL_law_720 dL_law_721 dL_law_722 dL_law_723 ?_
  refine lw_R (rest := [.int r]) X G hl.1 (m_X12_first X.2.2.2.1 h) cw_X12_first qw_28_4 qw_28_5 qw_28_6 rfl rfl (Nat.le_of_ble_eq_true rfl) ⟨(Nat.le_of_ble_eq_true rfl), (Nat.le_of_ble_eq_true rfl)⟩ ⟨(Nat.le_of_ble_eq_true rfl), (Nat.le_of_ble_eq_true rfl)⟩ dL_law_724 (fun r' M1 H locs G h => ?_)
  exact lv_icmp_eq (tgt := 1303) hx hb dL_law_727 (by decide) (fun _ => kn _ _ _ _ G h.2) (fun q => absurd h.1 q)
set_option maxHeartbeats 4000000 in
set_option maxRecDepth 100000 in
theorem lc_18 (X : lwX p s m meth c b L xs D cy adC adR) (hL : L ≤ 384) (G : lwG D s cy adC adR Mc Mr H locs) (hI : Inv Mc Mr) (h6 : i + 6 ≤ L) (hl : lv_has ls 4 [(0, .ref b), (1, .ref (adC 0)), (2, .ref (adR 0)), (3, .int (nI i))]) (kn : lwN p l e s m below meth c D cy b adC adR Q ls) : W p l e room_1 s m #[Value.ref b] below meth c H locs 108 2818 Q (F0 m 732 ls []) := by
  have hx := X.1.1
  have hb := X.1.2.1
  refine lv_aload_n hx hb dL_law_732 rfl (lv_at hl 1 rfl) ?_
  refine lw_ld (k := 1) (n := 1) X hL G hl (by decide) (by omega) dL_law_733 dL_law_734 dL_law_735 dL_law_736 dL_law_737 ?_
  refine lw_ld (k := 2) (n := 2) X hL G hl (by decide) (by omega) dL_law_738 dL_law_739 dL_law_740 dL_law_741 dL_law_742 ?_
  refine lw_ld (k := 3) (n := 3) X hL G hl (by decide) (by omega) dL_law_743 dL_law_744 dL_law_745 dL_law_746 dL_law_747 ?_
  refine lw_C (rest := []) X G hl.1 (m_X11_both X.2.2.1 (op_both hI (xs (i + 1)) (xs (i + 2)) (xs (i + 3)))) cw_X11_both qw_28_8 qw_28_9 qw_28_10 rfl rfl (Nat.le_of_ble_eq_true rfl) ⟨(Nat.le_of_ble_eq_true rfl), (Nat.le_of_ble_eq_true rfl)⟩ ⟨(Nat.le_of_ble_eq_true rfl), (Nat.le_of_ble_eq_true rfl)⟩ dL_law_748 (fun r M1 H locs G h => ?_)
  refine lv_aload_n hx hb dL_law_751 rfl (lv_at hl 2 rfl) ?_
  refine lw_ld (k := 1) (n := 1) X hL G hl (by decide) (by omega) dL_law_752 dL_law_753 dL_law_754 dL_law_755 dL_law_756 ?_
  refine lw_ld (k := 2) (n := 2) X hL G hl (by decide) (by omega) dL_law_757 dL_law_758 dL_law_759 dL_law_760 dL_law_761 ?_
  refine lw_ld (k := 3) (n := 3) X hL G hl (by decide) (by omega) dL_law_762 dL_law_763 dL_law_764 dL_law_765 dL_law_766 ?_
  refine lw_R (rest := [.int r]) X G hl.1 (m_X12_both X.2.2.2.1 h) cw_X12_both qw_28_19 qw_28_20 qw_28_21 rfl rfl (Nat.le_of_ble_eq_true rfl) ⟨(Nat.le_of_ble_eq_true rfl), (Nat.le_of_ble_eq_true rfl)⟩ ⟨(Nat.le_of_ble_eq_true rfl), (Nat.le_of_ble_eq_true rfl)⟩ dL_law_767 (fun r' M1 H locs G h => ?_)
  exact lv_icmp_eq (tgt := 1303) hx hb dL_law_770 (by decide) (fun _ => kn _ _ _ _ G h.2) (fun q => absurd h.1 q)
set_option maxHeartbeats 4000000 in
set_option maxRecDepth 100000 in
theorem lc_19 (X : lwX p s m meth c b L xs D cy adC adR) (hL : L ≤ 384) (G : lwG D s cy adC adR Mc Mr H locs) (hI : Inv Mc Mr) (h6 : i + 6 ≤ L) (hl : lv_has ls 4 [(0, .ref b), (1, .ref (adC 0)), (2, .ref (adR 0)), (3, .int (nI i))]) (kn : lwN p l e s m below meth c D cy b adC adR Q ls) : W p l e room_1 s m #[Value.ref b] below meth c H locs 108 2818 Q (F0 m 775 ls []) := by
  have hx := X.1.1
  have hb := X.1.2.1
  refine lv_aload_n hx hb dL_law_775 rfl (lv_at hl 1 rfl) ?_
  refine lw_ld (k := 1) (n := 1) X hL G hl (by decide) (by omega) dL_law_776 dL_law_777 dL_law_778 dL_law_779 dL_law_780 ?_
  refine lw_C (rest := []) X G hl.1 (m_X11_together X.2.2.1 (op_together hI (xs (i + 1)))) cw_X11_together qw_29_2 qw_29_3 qw_29_4 rfl rfl (Nat.le_of_ble_eq_true rfl) ⟨(Nat.le_of_ble_eq_true rfl), (Nat.le_of_ble_eq_true rfl)⟩ ⟨(Nat.le_of_ble_eq_true rfl), (Nat.le_of_ble_eq_true rfl)⟩ dL_law_781 (fun r M1 H locs G h => ?_)
  refine lv_aload_n hx hb dL_law_784 rfl (lv_at hl 2 rfl) ?_
  refine lw_ld (k := 1) (n := 1) X hL G hl (by decide) (by omega) dL_law_785 dL_law_786 dL_law_787 dL_law_788 dL_law_789 ?_
  refine lw_R (rest := [.int r]) X G hl.1 (m_X12_together X.2.2.2.1 h) cw_X12_together qw_29_16 qw_29_17 qw_29_18 rfl rfl (Nat.le_of_ble_eq_true rfl) ⟨(Nat.le_of_ble_eq_true rfl), (Nat.le_of_ble_eq_true rfl)⟩ ⟨(Nat.le_of_ble_eq_true rfl), (Nat.le_of_ble_eq_true rfl)⟩ dL_law_790 (fun r' M1 H locs G h => ?_)
  exact lv_icmp_eq (tgt := 1303) hx hb dL_law_793 (by decide) (fun _ => kn _ _ _ _ G h.2) (fun q => absurd h.1 q)
set_option maxHeartbeats 4000000 in
set_option maxRecDepth 100000 in
theorem lc_20 (X : lwX p s m meth c b L xs D cy adC adR) (hL : L ≤ 384) (G : lwG D s cy adC adR Mc Mr H locs) (hI : Inv Mc Mr) (h6 : i + 6 ≤ L) (hl : lv_has ls 4 [(0, .ref b), (1, .ref (adC 0)), (2, .ref (adR 0)), (3, .int (nI i))]) (kn : lwN p l e s m below meth c D cy b adC adR Q ls) : W p l e room_1 s m #[Value.ref b] below meth c H locs 108 2818 Q (F0 m 798 ls []) := by
  have hx := X.1.1
  have hb := X.1.2.1
  refine lv_aload_n hx hb dL_law_798 rfl (lv_at hl 1 rfl) ?_
  refine lw_ld (k := 1) (n := 1) X hL G hl (by decide) (by omega) dL_law_799 dL_law_800 dL_law_801 dL_law_802 dL_law_803 ?_
  refine lw_ld (k := 2) (n := 2) X hL G hl (by decide) (by omega) dL_law_804 dL_law_805 dL_law_806 dL_law_807 dL_law_808 ?_
  refine lw_C (rest := []) X G hl.1 (m_X11_beyond X.2.2.1 (op_beyond hI (xs (i + 1)) (xs (i + 2)))) cw_X11_beyond qw_29_20 qw_29_21 qw_29_22 rfl rfl (Nat.le_of_ble_eq_true rfl) ⟨(Nat.le_of_ble_eq_true rfl), (Nat.le_of_ble_eq_true rfl)⟩ ⟨(Nat.le_of_ble_eq_true rfl), (Nat.le_of_ble_eq_true rfl)⟩ dL_law_809 (fun r M1 H locs G h => ?_)
  refine lv_aload_n hx hb dL_law_812 rfl (lv_at hl 2 rfl) ?_
  refine lw_ld (k := 1) (n := 1) X hL G hl (by decide) (by omega) dL_law_813 dL_law_814 dL_law_815 dL_law_816 dL_law_817 ?_
  refine lw_ld (k := 2) (n := 2) X hL G hl (by decide) (by omega) dL_law_818 dL_law_819 dL_law_820 dL_law_821 dL_law_822 ?_
  refine lw_R (rest := [.int r]) X G hl.1 (m_X12_beyond X.2.2.2.1 h) cw_X12_beyond qw_30_5 qw_30_6 qw_30_7 rfl rfl (Nat.le_of_ble_eq_true rfl) ⟨(Nat.le_of_ble_eq_true rfl), (Nat.le_of_ble_eq_true rfl)⟩ ⟨(Nat.le_of_ble_eq_true rfl), (Nat.le_of_ble_eq_true rfl)⟩ dL_law_823 (fun r' M1 H locs G h => ?_)
  exact lv_icmp_eq (tgt := 1303) hx hb dL_law_826 (by decide) (fun _ => kn _ _ _ _ G h.2) (fun q => absurd h.1 q)
set_option maxHeartbeats 4000000 in
set_option maxRecDepth 100000 in
theorem lc_21 (X : lwX p s m meth c b L xs D cy adC adR) (hL : L ≤ 384) (G : lwG D s cy adC adR Mc Mr H locs) (hI : Inv Mc Mr) (h6 : i + 6 ≤ L) (hl : lv_has ls 4 [(0, .ref b), (1, .ref (adC 0)), (2, .ref (adR 0)), (3, .int (nI i))]) (kn : lwN p l e s m below meth c D cy b adC adR Q ls) : W p l e room_1 s m #[Value.ref b] below meth c H locs 108 2818 Q (F0 m 831 ls []) := by
  have hx := X.1.1
  have hb := X.1.2.1
  refine lv_aload_n hx hb dL_law_831 rfl (lv_at hl 1 rfl) ?_
  refine lw_ld (k := 1) (n := 1) X hL G hl (by decide) (by omega) dL_law_832 dL_law_833 dL_law_834 dL_law_835 dL_law_836 ?_
  refine lw_ld (k := 2) (n := 2) X hL G hl (by decide) (by omega) dL_law_837 dL_law_838 dL_law_839 dL_law_840 dL_law_841 ?_
  refine lw_ld (k := 3) (n := 3) X hL G hl (by decide) (by omega) dL_law_842 dL_law_843 dL_law_844 dL_law_845 dL_law_846 ?_
  refine lw_ld (k := 4) (n := 4) X hL G hl (by decide) (by omega) dL_law_847 dL_law_848 dL_law_849 dL_law_850 dL_law_851 ?_
  refine lw_C (rest := []) X G hl.1 (m_X11_piece X.2.2.1 (op_piece hI (xs (i + 1)) (xs (i + 2)) (xs (i + 3)) (xs (i + 4)))) cw_X11_piece qw_30_9 qw_30_10 qw_30_11 rfl rfl (Nat.le_of_ble_eq_true rfl) ⟨(Nat.le_of_ble_eq_true rfl), (Nat.le_of_ble_eq_true rfl)⟩ ⟨(Nat.le_of_ble_eq_true rfl), (Nat.le_of_ble_eq_true rfl)⟩ dL_law_852 (fun r M1 H locs G h => ?_)
  refine lv_aload_n hx hb dL_law_855 rfl (lv_at hl 2 rfl) ?_
  refine lw_ld (k := 1) (n := 1) X hL G hl (by decide) (by omega) dL_law_856 dL_law_857 dL_law_858 dL_law_859 dL_law_860 ?_
  refine lw_ld (k := 2) (n := 2) X hL G hl (by decide) (by omega) dL_law_861 dL_law_862 dL_law_863 dL_law_864 dL_law_865 ?_
  refine lw_ld (k := 3) (n := 3) X hL G hl (by decide) (by omega) dL_law_866 dL_law_867 dL_law_868 dL_law_869 dL_law_870 ?_
  refine lw_ld (k := 4) (n := 4) X hL G hl (by decide) (by omega) dL_law_871 dL_law_872 dL_law_873 dL_law_874 dL_law_875 ?_
  refine lw_R (rest := [.int r]) X G hl.1 (m_X12_piece X.2.2.2.1 h) cw_X12_piece qw_30_23 qw_31_0 qw_31_1 rfl rfl (Nat.le_of_ble_eq_true rfl) ⟨(Nat.le_of_ble_eq_true rfl), (Nat.le_of_ble_eq_true rfl)⟩ ⟨(Nat.le_of_ble_eq_true rfl), (Nat.le_of_ble_eq_true rfl)⟩ dL_law_876 (fun r' M1 H locs G h => ?_)
  exact lv_icmp_eq (tgt := 1303) hx hb dL_law_879 (by decide) (fun _ => kn _ _ _ _ G h.2) (fun q => absurd h.1 q)
set_option maxHeartbeats 4000000 in
set_option maxRecDepth 100000 in
theorem lc_22 (X : lwX p s m meth c b L xs D cy adC adR) (hL : L ≤ 384) (G : lwG D s cy adC adR Mc Mr H locs) (hI : Inv Mc Mr) (h6 : i + 6 ≤ L) (hl : lv_has ls 4 [(0, .ref b), (1, .ref (adC 0)), (2, .ref (adR 0)), (3, .int (nI i))]) (kn : lwN p l e s m below meth c D cy b adC adR Q ls) : W p l e room_1 s m #[Value.ref b] below meth c H locs 108 2818 Q (F0 m 884 ls []) := by
  have hx := X.1.1
  have hb := X.1.2.1
  refine lv_aload_n hx hb dL_law_884 rfl (lv_at hl 1 rfl) ?_
  refine lw_ld (k := 1) (n := 1) X hL G hl (by decide) (by omega) dL_law_885 dL_law_886 dL_law_887 dL_law_888 dL_law_889 ?_
  refine lw_C (rest := []) X G hl.1 (m_X11_room X.2.2.1 (op_room hI (xs (i + 1)))) cw_X11_room qw_31_3 qw_31_4 qw_31_5 rfl rfl (Nat.le_of_ble_eq_true rfl) ⟨(Nat.le_of_ble_eq_true rfl), (Nat.le_of_ble_eq_true rfl)⟩ ⟨(Nat.le_of_ble_eq_true rfl), (Nat.le_of_ble_eq_true rfl)⟩ dL_law_890 (fun r M1 H locs G h => ?_)
  refine lv_aload_n hx hb dL_law_893 rfl (lv_at hl 2 rfl) ?_
  refine lw_ld (k := 1) (n := 1) X hL G hl (by decide) (by omega) dL_law_894 dL_law_895 dL_law_896 dL_law_897 dL_law_898 ?_
  refine lw_R (rest := [.int r]) X G hl.1 (m_X12_room X.2.2.2.1 h) cw_X12_room qw_31_19 qw_31_20 qw_31_21 rfl rfl (Nat.le_of_ble_eq_true rfl) ⟨(Nat.le_of_ble_eq_true rfl), (Nat.le_of_ble_eq_true rfl)⟩ ⟨(Nat.le_of_ble_eq_true rfl), (Nat.le_of_ble_eq_true rfl)⟩ dL_law_899 (fun r' M1 H locs G h => ?_)
  exact lv_icmp_eq (tgt := 1303) hx hb dL_law_902 (by decide) (fun _ => kn _ _ _ _ G h.2) (fun q => absurd h.1 q)
set_option maxHeartbeats 4000000 in
set_option maxRecDepth 100000 in
theorem lc_23 (X : lwX p s m meth c b L xs D cy adC adR) (hL : L ≤ 384) (G : lwG D s cy adC adR Mc Mr H locs) (hI : Inv Mc Mr) (h6 : i + 6 ≤ L) (hl : lv_has ls 4 [(0, .ref b), (1, .ref (adC 0)), (2, .ref (adR 0)), (3, .int (nI i))]) (kn : lwN p l e s m below meth c D cy b adC adR Q ls) : W p l e room_1 s m #[Value.ref b] below meth c H locs 108 2818 Q (F0 m 907 ls []) := by
  have hx := X.1.1
  have hb := X.1.2.1
  refine lv_aload_n hx hb dL_law_907 rfl (lv_at hl 1 rfl) ?_
  refine lw_ld (k := 1) (n := 1) X hL G hl (by decide) (by omega) dL_law_908 dL_law_909 dL_law_910 dL_law_911 dL_law_912 ?_
  refine lw_ld (k := 2) (n := 2) X hL G hl (by decide) (by omega) dL_law_913 dL_law_914 dL_law_915 dL_law_916 dL_law_917 ?_
  refine lw_C (rest := []) X G hl.1 (m_X11_rent X.2.2.1 (op_rent hI (xs (i + 1)) (xs (i + 2)))) cw_X11_rent qw_32_0 qw_32_1 qw_32_2 rfl rfl (Nat.le_of_ble_eq_true rfl) ⟨(Nat.le_of_ble_eq_true rfl), (Nat.le_of_ble_eq_true rfl)⟩ ⟨(Nat.le_of_ble_eq_true rfl), (Nat.le_of_ble_eq_true rfl)⟩ dL_law_918 (fun r M1 H locs G h => ?_)
  refine lv_aload_n hx hb dL_law_921 rfl (lv_at hl 2 rfl) ?_
  refine lw_ld (k := 1) (n := 1) X hL G hl (by decide) (by omega) dL_law_922 dL_law_923 dL_law_924 dL_law_925 dL_law_926 ?_
  refine lw_ld (k := 2) (n := 2) X hL G hl (by decide) (by omega) dL_law_927 dL_law_928 dL_law_929 dL_law_930 dL_law_931 ?_
  refine lw_R (rest := [.int r]) X G hl.1 (m_X12_rent X.2.2.2.1 h) cw_X12_rent qw_32_12 qw_32_13 qw_32_14 rfl rfl (Nat.le_of_ble_eq_true rfl) ⟨(Nat.le_of_ble_eq_true rfl), (Nat.le_of_ble_eq_true rfl)⟩ ⟨(Nat.le_of_ble_eq_true rfl), (Nat.le_of_ble_eq_true rfl)⟩ dL_law_932 (fun r' M1 H locs G h => ?_)
  exact lv_icmp_eq (tgt := 1303) hx hb dL_law_935 (by decide) (fun _ => kn _ _ _ _ G h.2) (fun q => absurd h.1 q)
set_option maxHeartbeats 4000000 in
set_option maxRecDepth 100000 in
theorem lc_24 (X : lwX p s m meth c b L xs D cy adC adR) (hL : L ≤ 384) (G : lwG D s cy adC adR Mc Mr H locs) (hI : Inv Mc Mr) (h6 : i + 6 ≤ L) (hl : lv_has ls 4 [(0, .ref b), (1, .ref (adC 0)), (2, .ref (adR 0)), (3, .int (nI i))]) (kn : lwN p l e s m below meth c D cy b adC adR Q ls) : W p l e room_1 s m #[Value.ref b] below meth c H locs 108 2818 Q (F0 m 940 ls []) := by
  have hx := X.1.1
  have hb := X.1.2.1
  refine lv_aload_n hx hb dL_law_940 rfl (lv_at hl 1 rfl) ?_
  refine lw_ld (k := 1) (n := 1) X hL G hl (by decide) (by omega) dL_law_941 dL_law_942 dL_law_943 dL_law_944 dL_law_945 ?_
  refine lw_ld (k := 2) (n := 2) X hL G hl (by decide) (by omega) dL_law_946 dL_law_947 dL_law_948 dL_law_949 dL_law_950 ?_
  refine lw_ld (k := 3) (n := 3) X hL G hl (by decide) (by omega) dL_law_951 dL_law_952 dL_law_953 dL_law_954 dL_law_955 ?_
  refine lw_ld (k := 4) (n := 4) X hL G hl (by decide) (by omega) dL_law_956 dL_law_957 dL_law_958 dL_law_959 dL_law_960 ?_
  refine lw_ld (k := 5) (n := 5) X hL G hl (by decide) (by omega) dL_law_961 dL_law_962 dL_law_963 dL_law_964 dL_law_965 ?_
  refine lw_C (rest := []) X G hl.1 (m_X11_fits X.2.2.1 (op_fits hI (xs (i + 1)) (xs (i + 2)) (xs (i + 3)) (xs (i + 4)) (xs (i + 5)))) cw_X11_fits qw_32_16 qw_32_17 qw_32_18 rfl rfl (Nat.le_of_ble_eq_true rfl) ⟨(Nat.le_of_ble_eq_true rfl), (Nat.le_of_ble_eq_true rfl)⟩ ⟨(Nat.le_of_ble_eq_true rfl), (Nat.le_of_ble_eq_true rfl)⟩ dL_law_966 (fun r M1 H locs G h => ?_)
  refine lv_aload_n hx hb dL_law_969 rfl (lv_at hl 2 rfl) ?_
  refine lw_ld (k := 1) (n := 1) X hL G hl (by decide) (by omega) dL_law_970 dL_law_971 dL_law_972 dL_law_973 dL_law_974 ?_
  refine lw_ld (k := 2) (n := 2) X hL G hl (by decide) (by omega) dL_law_975 dL_law_976 dL_law_977 dL_law_978 dL_law_979 ?_
  refine lw_ld (k := 3) (n := 3) X hL G hl (by decide) (by omega) dL_law_980 dL_law_981 dL_law_982 dL_law_983 dL_law_984 ?_
  refine lw_ld (k := 4) (n := 4) X hL G hl (by decide) (by omega) dL_law_985 dL_law_986 dL_law_987 dL_law_988 dL_law_989 ?_
  refine lw_ld (k := 5) (n := 5) X hL G hl (by decide) (by omega) dL_law_990 dL_law_991 dL_law_992 dL_law_993 dL_law_994 ?_
  refine lw_R (rest := [.int r]) X G hl.1 (m_X12_fits X.2.2.2.1 h) cw_X12_fits qw_33_15 qw_33_16 qw_33_17 rfl rfl (Nat.le_of_ble_eq_true rfl) ⟨(Nat.le_of_ble_eq_true rfl), (Nat.le_of_ble_eq_true rfl)⟩ ⟨(Nat.le_of_ble_eq_true rfl), (Nat.le_of_ble_eq_true rfl)⟩ dL_law_995 (fun r' M1 H locs G h => ?_)
  exact lv_icmp_eq (tgt := 1303) hx hb dL_law_998 (by decide) (fun _ => kn _ _ _ _ G h.2) (fun q => absurd h.1 q)
set_option maxHeartbeats 4000000 in
set_option maxRecDepth 100000 in
theorem lc_25 (X : lwX p s m meth c b L xs D cy adC adR) (hL : L ≤ 384) (G : lwG D s cy adC adR Mc Mr H locs) (hI : Inv Mc Mr) (h6 : i + 6 ≤ L) (hl : lv_has ls 4 [(0, .ref b), (1, .ref (adC 0)), (2, .ref (adR 0)), (3, .int (nI i))]) (kn : lwN p l e s m below meth c D cy b adC adR Q ls) : W p l e room_1 s m #[Value.ref b] below meth c H locs 108 2818 Q (F0 m 1003 ls []) := by
  have hx := X.1.1
  have hb := X.1.2.1
  refine lv_aload_n hx hb dL_law_1003 rfl (lv_at hl 1 rfl) ?_
  refine lw_ld (k := 1) (n := 1) X hL G hl (by decide) (by omega) dL_law_1004 dL_law_1005 dL_law_1006 dL_law_1007 dL_law_1008 ?_
  refine lw_ld (k := 2) (n := 2) X hL G hl (by decide) (by omega) dL_law_1009 dL_law_1010 dL_law_1011 dL_law_1012 dL_law_1013 ?_
  refine lw_ld (k := 3) (n := 3) X hL G hl (by decide) (by omega) dL_law_1014 dL_law_1015 dL_law_1016 dL_law_1017 dL_law_1018 ?_
  refine lw_ld (k := 4) (n := 4) X hL G hl (by decide) (by omega) dL_law_1019 dL_law_1020 dL_law_1021 dL_law_1022 dL_law_1023 ?_
  refine lw_ld (k := 5) (n := 5) X hL G hl (by decide) (by omega) dL_law_1024 dL_law_1025 dL_law_1026 dL_law_1027 dL_law_1028 ?_
  refine lw_C (rest := []) X G hl.1 (m_X11_settled X.2.2.1 (op_settled hI (xs (i + 1)) (xs (i + 2)) (xs (i + 3)) (xs (i + 4)) (xs (i + 5)))) cw_X11_settled qw_33_23 qw_34_0 qw_34_1 rfl rfl (Nat.le_of_ble_eq_true rfl) ⟨(Nat.le_of_ble_eq_true rfl), (Nat.le_of_ble_eq_true rfl)⟩ ⟨(Nat.le_of_ble_eq_true rfl), (Nat.le_of_ble_eq_true rfl)⟩ dL_law_1029 (fun r M1 H locs G h => ?_)
  refine lv_aload_n hx hb dL_law_1032 rfl (lv_at hl 2 rfl) ?_
  refine lw_ld (k := 1) (n := 1) X hL G hl (by decide) (by omega) dL_law_1033 dL_law_1034 dL_law_1035 dL_law_1036 dL_law_1037 ?_
  refine lw_ld (k := 2) (n := 2) X hL G hl (by decide) (by omega) dL_law_1038 dL_law_1039 dL_law_1040 dL_law_1041 dL_law_1042 ?_
  refine lw_ld (k := 3) (n := 3) X hL G hl (by decide) (by omega) dL_law_1043 dL_law_1044 dL_law_1045 dL_law_1046 dL_law_1047 ?_
  refine lw_ld (k := 4) (n := 4) X hL G hl (by decide) (by omega) dL_law_1048 dL_law_1049 dL_law_1050 dL_law_1051 dL_law_1052 ?_
  refine lw_ld (k := 5) (n := 5) X hL G hl (by decide) (by omega) dL_law_1053 dL_law_1054 dL_law_1055 dL_law_1056 dL_law_1057 ?_
  refine lw_R (rest := [.int r]) X G hl.1 (m_X12_settled X.2.2.2.1 h) cw_X12_settled qw_35_1 qw_35_2 qw_35_3 rfl rfl (Nat.le_of_ble_eq_true rfl) ⟨(Nat.le_of_ble_eq_true rfl), (Nat.le_of_ble_eq_true rfl)⟩ ⟨(Nat.le_of_ble_eq_true rfl), (Nat.le_of_ble_eq_true rfl)⟩ dL_law_1058 (fun r' M1 H locs G h => ?_)
  exact lv_icmp_eq (tgt := 1303) hx hb dL_law_1061 (by decide) (fun _ => kn _ _ _ _ G h.2) (fun q => absurd h.1 q)
set_option maxHeartbeats 4000000 in
set_option maxRecDepth 100000 in
theorem lc_26 (X : lwX p s m meth c b L xs D cy adC adR) (hL : L ≤ 384) (G : lwG D s cy adC adR Mc Mr H locs) (hI : Inv Mc Mr) (h6 : i + 6 ≤ L) (hl : lv_has ls 4 [(0, .ref b), (1, .ref (adC 0)), (2, .ref (adR 0)), (3, .int (nI i))]) (kn : lwN p l e s m below meth c D cy b adC adR Q ls) : W p l e room_1 s m #[Value.ref b] below meth c H locs 108 2818 Q (F0 m 1066 ls []) := by
  have hx := X.1.1
  have hb := X.1.2.1
  refine lv_aload_n hx hb dL_law_1066 rfl (lv_at hl 1 rfl) ?_
  refine lw_ld (k := 1) (n := 1) X hL G hl (by decide) (by omega) dL_law_1067 dL_law_1068 dL_law_1069 dL_law_1070 dL_law_1071 ?_
  refine lw_ld (k := 2) (n := 2) X hL G hl (by decide) (by omega) dL_law_1072 dL_law_1073 dL_law_1074 dL_law_1075 dL_law_1076 ?_
  refine lw_ld (k := 3) (n := 3) X hL G hl (by decide) (by omega) dL_law_1077 dL_law_1078 dL_law_1079 dL_law_1080 dL_law_1081 ?_
  refine lw_C (rest := []) X G hl.1 (m_X11_drawn X.2.2.1 (op_drawn hI (xs (i + 1)) (xs (i + 2)) (xs (i + 3)))) cw_X11_drawn qw_35_5 qw_35_6 qw_35_7 rfl rfl (Nat.le_of_ble_eq_true rfl) ⟨(Nat.le_of_ble_eq_true rfl), (Nat.le_of_ble_eq_true rfl)⟩ ⟨(Nat.le_of_ble_eq_true rfl), (Nat.le_of_ble_eq_true rfl)⟩ dL_law_1082 (fun r M1 H locs G h => ?_)
  refine lv_aload_n hx hb dL_law_1085 rfl (lv_at hl 2 rfl) ?_
  refine lw_ld (k := 1) (n := 1) X hL G hl (by decide) (by omega) dL_law_1086 dL_law_1087 dL_law_1088 dL_law_1089 dL_law_1090 ?_
  refine lw_ld (k := 2) (n := 2) X hL G hl (by decide) (by omega) dL_law_1091 dL_law_1092 dL_law_1093 dL_law_1094 dL_law_1095 ?_
  refine lw_ld (k := 3) (n := 3) X hL G hl (by decide) (by omega) dL_law_1096 dL_law_1097 dL_law_1098 dL_law_1099 dL_law_1100 ?_
  refine lw_R (rest := [.int r]) X G hl.1 (m_X12_drawn X.2.2.2.1 h) cw_X12_drawn qw_35_16 qw_35_17 qw_35_18 rfl rfl (Nat.le_of_ble_eq_true rfl) ⟨(Nat.le_of_ble_eq_true rfl), (Nat.le_of_ble_eq_true rfl)⟩ ⟨(Nat.le_of_ble_eq_true rfl), (Nat.le_of_ble_eq_true rfl)⟩ dL_law_1101 (fun r' M1 H locs G h => ?_)
  exact lv_icmp_eq (tgt := 1303) hx hb dL_law_1104 (by decide) (fun _ => kn _ _ _ _ G h.2) (fun q => absurd h.1 q)
set_option maxHeartbeats 4000000 in
set_option maxRecDepth 100000 in
theorem lc_27 (X : lwX p s m meth c b L xs D cy adC adR) (hL : L ≤ 384) (G : lwG D s cy adC adR Mc Mr H locs) (hI : Inv Mc Mr) (h6 : i + 6 ≤ L) (hl : lv_has ls 4 [(0, .ref b), (1, .ref (adC 0)), (2, .ref (adR 0)), (3, .int (nI i))]) (kn : lwN p l e s m below meth c D cy b adC adR Q ls) : W p l e room_1 s m #[Value.ref b] below meth c H locs 108 2818 Q (F0 m 1109 ls []) := by
  have hx := X.1.1
  have hb := X.1.2.1
  refine lv_aload_n hx hb dL_law_1109 rfl (lv_at hl 1 rfl) ?_
  refine lw_ld (k := 1) (n := 1) X hL G hl (by decide) (by omega) dL_law_1110 dL_law_1111 dL_law_1112 dL_law_1113 dL_law_1114 ?_
  refine lw_C (rest := []) X G hl.1 (m_X11_image X.2.2.1 (op_image hI (xs (i + 1)))) cw_X11_image qw_35_23 qw_36_0 qw_36_1 rfl rfl (Nat.le_of_ble_eq_true rfl) ⟨(Nat.le_of_ble_eq_true rfl), (Nat.le_of_ble_eq_true rfl)⟩ ⟨(Nat.le_of_ble_eq_true rfl), (Nat.le_of_ble_eq_true rfl)⟩ dL_law_1115 (fun r M1 H locs G h => ?_)
  refine lv_aload_n hx hb dL_law_1118 rfl (lv_at hl 2 rfl) ?_
  refine lw_ld (k := 1) (n := 1) X hL G hl (by decide) (by omega) dL_law_1119 dL_law_1120 dL_law_1121 dL_law_1122 dL_law_1123 ?_
  refine lw_R (rest := [.int r]) X G hl.1 (m_X12_image X.2.2.2.1 h) cw_X12_image qw_36_7 qw_36_8 qw_36_9 rfl rfl (Nat.le_of_ble_eq_true rfl) ⟨(Nat.le_of_ble_eq_true rfl), (Nat.le_of_ble_eq_true rfl)⟩ ⟨(Nat.le_of_ble_eq_true rfl), (Nat.le_of_ble_eq_true rfl)⟩ dL_law_1124 (fun r' M1 H locs G h => ?_)
  exact lv_icmp_eq (tgt := 1303) hx hb dL_law_1127 (by decide) (fun _ => kn _ _ _ _ G h.2) (fun q => absurd h.1 q)
set_option maxHeartbeats 4000000 in
set_option maxRecDepth 100000 in
theorem lc_28 (X : lwX p s m meth c b L xs D cy adC adR) (hL : L ≤ 384) (G : lwG D s cy adC adR Mc Mr H locs) (hI : Inv Mc Mr) (h6 : i + 6 ≤ L) (hl : lv_has ls 4 [(0, .ref b), (1, .ref (adC 0)), (2, .ref (adR 0)), (3, .int (nI i))]) (kn : lwN p l e s m below meth c D cy b adC adR Q ls) : W p l e room_1 s m #[Value.ref b] below meth c H locs 108 2818 Q (F0 m 1132 ls []) := by
  have hx := X.1.1
  have hb := X.1.2.1
  refine lv_aload_n hx hb dL_law_1132 rfl (lv_at hl 1 rfl) ?_
  refine lw_ld (k := 1) (n := 1) X hL G hl (by decide) (by omega) dL_law_1133 dL_law_1134 dL_law_1135 dL_law_1136 dL_law_1137 ?_
  refine lw_C (rest := []) X G hl.1 (m_X11_restore X.2.2.1 (op_restore hI (xs (i + 1)))) cw_X11_restore qw_36_11 qw_36_12 qw_36_13 rfl rfl (Nat.le_of_ble_eq_true rfl) ⟨(Nat.le_of_ble_eq_true rfl), (Nat.le_of_ble_eq_true rfl)⟩ ⟨(Nat.le_of_ble_eq_true rfl), (Nat.le_of_ble_eq_true rfl)⟩ dL_law_1138 (fun r M1 H locs G h => ?_)
  refine lv_aload_n hx hb dL_law_1141 rfl (lv_at hl 2 rfl) ?_
  refine lw_ld (k := 1) (n := 1) X hL G hl (by decide) (by omega) dL_law_1142 dL_law_1143 dL_law_1144 dL_law_1145 dL_law_1146 ?_
  refine lw_R (rest := [.int r]) X G hl.1 (m_X12_restore X.2.2.2.1 h) cw_X12_restore qw_36_15 qw_36_16 qw_36_17 rfl rfl (Nat.le_of_ble_eq_true rfl) ⟨(Nat.le_of_ble_eq_true rfl), (Nat.le_of_ble_eq_true rfl)⟩ ⟨(Nat.le_of_ble_eq_true rfl), (Nat.le_of_ble_eq_true rfl)⟩ dL_law_1147 (fun r' M1 H locs G h => ?_)
  exact lv_icmp_eq (tgt := 1303) hx hb dL_law_1150 (by decide) (fun _ => kn _ _ _ _ G h.2) (fun q => absurd h.1 q)
set_option maxHeartbeats 4000000 in
set_option maxRecDepth 100000 in
theorem lc_29 (X : lwX p s m meth c b L xs D cy adC adR) (hL : L ≤ 384) (G : lwG D s cy adC adR Mc Mr H locs) (hI : Inv Mc Mr) (h6 : i + 6 ≤ L) (hl : lv_has ls 4 [(0, .ref b), (1, .ref (adC 0)), (2, .ref (adR 0)), (3, .int (nI i))]) (kn : lwN p l e s m below meth c D cy b adC adR Q ls) : W p l e room_1 s m #[Value.ref b] below meth c H locs 108 2818 Q (F0 m 1155 ls []) := by
  have hx := X.1.1
  have hb := X.1.2.1
  refine lv_aload_n hx hb dL_law_1155 rfl (lv_at hl 1 rfl) ?_
  refine lw_ld (k := 1) (n := 1) X hL G hl (by decide) (by omega) dL_law_1156 dL_law_1157 dL_law_1158 dL_law_1159 dL_law_1160 ?_
  refine lw_C (rest := []) X G hl.1 (m_X11_kind X.2.2.1 (op_kind hI (xs (i + 1)))) cw_X11_kind qw_36_19 qw_36_20 qw_36_21 rfl rfl (Nat.le_of_ble_eq_true rfl) ⟨(Nat.le_of_ble_eq_true rfl), (Nat.le_of_ble_eq_true rfl)⟩ ⟨(Nat.le_of_ble_eq_true rfl), (Nat.le_of_ble_eq_true rfl)⟩ dL_law_1161 (fun r M1 H locs G h => ?_)
  refine lv_aload_n hx hb dL_law_1164 rfl (lv_at hl 2 rfl) ?_
  refine lw_ld (k := 1) (n := 1) X hL G hl (by decide) (by omega) dL_law_1165 dL_law_1166 dL_law_1167 dL_law_1168 dL_law_1169 ?_
  refine lw_R (rest := [.int r]) X G hl.1 (m_X12_kind X.2.2.2.1 h) cw_X12_kind qw_36_23 qw_37_0 qw_37_1 rfl rfl (Nat.le_of_ble_eq_true rfl) ⟨(Nat.le_of_ble_eq_true rfl), (Nat.le_of_ble_eq_true rfl)⟩ ⟨(Nat.le_of_ble_eq_true rfl), (Nat.le_of_ble_eq_true rfl)⟩ dL_law_1170 (fun r' M1 H locs G h => ?_)
  exact lv_icmp_eq (tgt := 1303) hx hb dL_law_1173 (by decide) (fun _ => kn _ _ _ _ G h.2) (fun q => absurd h.1 q)
set_option maxHeartbeats 4000000 in
set_option maxRecDepth 100000 in
theorem lc_30 (X : lwX p s m meth c b L xs D cy adC adR) (hL : L ≤ 384) (G : lwG D s cy adC adR Mc Mr H locs) (hI : Inv Mc Mr) (h6 : i + 6 ≤ L) (hl : lv_has ls 4 [(0, .ref b), (1, .ref (adC 0)), (2, .ref (adR 0)), (3, .int (nI i))]) (kn : lwN p l e s m below meth c D cy b adC adR Q ls) : W p l e room_1 s m #[Value.ref b] below meth c H locs 108 2818 Q (F0 m 1178 ls []) := by
  have hx := X.1.1
  have hb := X.1.2.1
  refine lv_aload_n hx hb dL_law_1178 rfl (lv_at hl 1 rfl) ?_
  refine lw_ld (k := 1) (n := 1) X hL G hl (by decide) (by omega) dL_law_1179 dL_law_1180 dL_law_1181 dL_law_1182 dL_law_1183 ?_
  refine lw_ld (k := 2) (n := 2) X hL G hl (by decide) (by omega) dL_law_1184 dL_law_1185 dL_law_1186 dL_law_1187 dL_law_1188 ?_
  refine lw_C (rest := []) X G hl.1 (m_X11_as X.2.2.1 (op_as hI (xs (i + 1)) (xs (i + 2)))) cw_X11_as qw_37_3 qw_37_4 qw_37_5 rfl rfl (Nat.le_of_ble_eq_true rfl) ⟨(Nat.le_of_ble_eq_true rfl), (Nat.le_of_ble_eq_true rfl)⟩ ⟨(Nat.le_of_ble_eq_true rfl), (Nat.le_of_ble_eq_true rfl)⟩ dL_law_1189 (fun r M1 H locs G h => ?_)
  refine lv_aload_n hx hb dL_law_1192 rfl (lv_at hl 2 rfl) ?_
  refine lw_ld (k := 1) (n := 1) X hL G hl (by decide) (by omega) dL_law_1193 dL_law_1194 dL_law_1195 dL_law_1196 dL_law_1197 ?_
  refine lw_ld (k := 2) (n := 2) X hL G hl (by decide) (by omega) dL_law_1198 dL_law_1199 dL_law_1200 dL_law_1201 dL_law_1202 ?_
  refine lw_R (rest := [.int r]) X G hl.1 (m_X12_as X.2.2.2.1 h) cw_X12_as qw_37_15 qw_37_16 qw_37_17 rfl rfl (Nat.le_of_ble_eq_true rfl) ⟨(Nat.le_of_ble_eq_true rfl), (Nat.le_of_ble_eq_true rfl)⟩ ⟨(Nat.le_of_ble_eq_true rfl), (Nat.le_of_ble_eq_true rfl)⟩ dL_law_1203 (fun r' M1 H locs G h => ?_)
  exact lv_icmp_eq (tgt := 1303) hx hb dL_law_1206 (by decide) (fun _ => kn _ _ _ _ G h.2) (fun q => absurd h.1 q)
set_option maxHeartbeats 4000000 in
set_option maxRecDepth 100000 in
theorem lc_31 (X : lwX p s m meth c b L xs D cy adC adR) (hL : L ≤ 384) (G : lwG D s cy adC adR Mc Mr H locs) (hI : Inv Mc Mr) (h6 : i + 6 ≤ L) (hl : lv_has ls 4 [(0, .ref b), (1, .ref (adC 0)), (2, .ref (adR 0)), (3, .int (nI i))]) (kn : lwN p l e s m below meth c D cy b adC adR Q ls) : W p l e room_1 s m #[Value.ref b] below meth c H locs 108 2818 Q (F0 m 1211 ls []) := by
  have hx := X.1.1
  have hb := X.1.2.1
  refine lv_aload_n hx hb dL_law_1211 rfl (lv_at hl 1 rfl) ?_
  refine lw_ld (k := 1) (n := 1) X hL G hl (by decide) (by omega) dL_law_1212 dL_law_1213 dL_law_1214 dL_law_1215 dL_law_1216 ?_
  refine lw_ld (k := 2) (n := 2) X hL G hl (by decide) (by omega) dL_law_1217 dL_law_1218 dL_law_1219 dL_law_1220 dL_law_1221 ?_
  refine lw_C (rest := []) X G hl.1 (m_X11_ask X.2.2.1 (op_ask hI (xs (i + 1)) (xs (i + 2)))) cw_X11_ask qw_37_19 qw_37_20 qw_37_21 rfl rfl (Nat.le_of_ble_eq_true rfl) ⟨(Nat.le_of_ble_eq_true rfl), (Nat.le_of_ble_eq_true rfl)⟩ ⟨(Nat.le_of_ble_eq_true rfl), (Nat.le_of_ble_eq_true rfl)⟩ dL_law_1222 (fun r M1 H locs G h => ?_)
  refine lv_aload_n hx hb dL_law_1225 rfl (lv_at hl 2 rfl) ?_
  refine lw_ld (k := 1) (n := 1) X hL G hl (by decide) (by omega) dL_law_1226 dL_law_1227 dL_law_1228 dL_law_1229 dL_law_1230 ?_
  refine lw_ld (k := 2) (n := 2) X hL G hl (by decide) (by omega) dL_law_1231 dL_law_1232 dL_law_1233 dL_law_1234 dL_law_1235 ?_
  refine lw_R (rest := [.int r]) X G hl.1 (m_X12_ask X.2.2.2.1 h) cw_X12_ask qw_40_23 qw_41_0 qw_41_1 rfl rfl (Nat.le_of_ble_eq_true rfl) ⟨(Nat.le_of_ble_eq_true rfl), (Nat.le_of_ble_eq_true rfl)⟩ ⟨(Nat.le_of_ble_eq_true rfl), (Nat.le_of_ble_eq_true rfl)⟩ dL_law_1236 (fun r' M1 H locs G h => ?_)
  exact lv_icmp_eq (tgt := 1303) hx hb dL_law_1239 (by decide) (fun _ => kn _ _ _ _ G h.2) (fun q => absurd h.1 q)
set_option maxHeartbeats 4000000 in
set_option maxRecDepth 100000 in
theorem lc_32 (X : lwX p s m meth c b L xs D cy adC adR) (hL : L ≤ 384) (G : lwG D s cy adC adR Mc Mr H locs) (hI : Inv Mc Mr) (h6 : i + 6 ≤ L) (hl : lv_has ls 4 [(0, .ref b), (1, .ref (adC 0)), (2, .ref (adR 0)), (3, .int (nI i))]) (kn : lwN p l e s m below meth c D cy b adC adR Q ls) : W p l e room_1 s m #[Value.ref b] below meth c H locs 108 2818 Q (F0 m 1244 ls []) := by
  have hx := X.1.1
  have hb := X.1.2.1
  refine lv_aload_n hx hb dL_law_1244 rfl (lv_at hl 1 rfl) ?_
  refine lw_ld (k := 1) (n := 1) X hL G hl (by decide) (by omega) dL_law_1245 dL_law_1246 dL_law_1247 dL_law_1248 dL_law_1249 ?_
  refine lw_C (rest := []) X G hl.1 (m_X11_trace X.2.2.1 (op_trace hI (xs (i + 1)))) cw_X11_trace qw_42_20 qw_42_21 qw_42_22 rfl rfl (Nat.le_of_ble_eq_true rfl) ⟨(Nat.le_of_ble_eq_true rfl), (Nat.le_of_ble_eq_true rfl)⟩ ⟨(Nat.le_of_ble_eq_true rfl), (Nat.le_of_ble_eq_true rfl)⟩ dL_law_1250 (fun r M1 H locs G h => ?_)
  refine lv_aload_n hx hb dL_law_1253 rfl (lv_at hl 2 rfl) ?_
  refine lw_ld (k := 1) (n := 1) X hL G hl (by decide) (by omega) dL_law_1254 dL_law_1255 dL_law_1256 dL_law_1257 dL_law_1258 ?_
  refine lw_R (rest := [.int r]) X G hl.1 (m_X12_trace X.2.2.2.1 h) cw_X12_trace qw_43_0 qw_43_1 qw_43_2 rfl rfl (Nat.le_of_ble_eq_true rfl) ⟨(Nat.le_of_ble_eq_true rfl), (Nat.le_of_ble_eq_true rfl)⟩ ⟨(Nat.le_of_ble_eq_true rfl), (Nat.le_of_ble_eq_true rfl)⟩ dL_law_1259 (fun r' M1 H locs G h => ?_)
  exact lv_icmp_eq (tgt := 1303) hx hb dL_law_1262 (by decide) (fun _ => kn _ _ _ _ G h.2) (fun q => absurd h.1 q)
set_option maxHeartbeats 4000000 in
set_option maxRecDepth 100000 in
theorem lc_33 (X : lwX p s m meth c b L xs D cy adC adR) (hL : L ≤ 384) (G : lwG D s cy adC adR Mc Mr H locs) (hI : Inv Mc Mr) (h6 : i + 6 ≤ L) (hl : lv_has ls 4 [(0, .ref b), (1, .ref (adC 0)), (2, .ref (adR 0)), (3, .int (nI i))]) (kn : lwN p l e s m below meth c D cy b adC adR Q ls) : W p l e room_1 s m #[Value.ref b] below meth c H locs 108 2818 Q (F0 m 1267 ls []) := by
  have hx := X.1.1
  have hb := X.1.2.1
  refine lv_aload_n hx hb dL_law_1267 rfl (lv_at hl 1 rfl) ?_
  refine lw_ld (k := 1) (n := 1) X hL G hl (by decide) (by omega) dL_law_1268 dL_law_1269 dL_law_1270 dL_law_1271 dL_law_1272 ?_
  refine lw_C (rest := []) X G hl.1 (m_X11_count X.2.2.1 (op_count hI (xs (i + 1)))) cw_X11_count qw_43_4 qw_43_5 qw_43_6 rfl rfl (Nat.le_of_ble_eq_true rfl) ⟨(Nat.le_of_ble_eq_true rfl), (Nat.le_of_ble_eq_true rfl)⟩ ⟨(Nat.le_of_ble_eq_true rfl), (Nat.le_of_ble_eq_true rfl)⟩ dL_law_1273 (fun r M1 H locs G h => ?_)
  refine lv_aload_n hx hb dL_law_1276 rfl (lv_at hl 2 rfl) ?_
  refine lw_ld (k := 1) (n := 1) X hL G hl (by decide) (by omega) dL_law_1277 dL_law_1278 dL_law_1279 dL_law_1280 dL_law_1281 ?_
  refine lw_R (rest := [.int r]) X G hl.1 (m_X12_count X.2.2.2.1 h) cw_X12_count qw_43_12 qw_43_13 qw_43_14 rfl rfl (Nat.le_of_ble_eq_true rfl) ⟨(Nat.le_of_ble_eq_true rfl), (Nat.le_of_ble_eq_true rfl)⟩ ⟨(Nat.le_of_ble_eq_true rfl), (Nat.le_of_ble_eq_true rfl)⟩ dL_law_1282 (fun r' M1 H locs G h => ?_)
  exact lv_icmp_eq (tgt := 1303) hx hb dL_law_1285 (by decide) (fun _ => kn _ _ _ _ G h.2) (fun q => absurd h.1 q)
set_option maxHeartbeats 4000000 in
set_option maxRecDepth 100000 in
theorem lc_34 (X : lwX p s m meth c b L xs D cy adC adR) (hL : L ≤ 384) (G : lwG D s cy adC adR Mc Mr H locs) (hI : Inv Mc Mr) (h6 : i + 6 ≤ L) (hl : lv_has ls 4 [(0, .ref b), (1, .ref (adC 0)), (2, .ref (adR 0)), (3, .int (nI i))]) (kn : lwN p l e s m below meth c D cy b adC adR Q ls) : W p l e room_1 s m #[Value.ref b] below meth c H locs 108 2818 Q (F0 m 1290 ls []) := by
  have hx := X.1.1
  have hb := X.1.2.1
  refine lv_aload_n hx hb dL_law_1290 rfl (lv_at hl 1 rfl) ?_
  refine lw_C (rest := []) X G hl.1 (m_X11_status X.2.2.1 (op_status hI)) cw_X11_status qw_43_16 qw_43_17 qw_43_18 rfl rfl (Nat.le_of_ble_eq_true rfl) ⟨(Nat.le_of_ble_eq_true rfl), (Nat.le_of_ble_eq_true rfl)⟩ ⟨(Nat.le_of_ble_eq_true rfl), (Nat.le_of_ble_eq_true rfl)⟩ dL_law_1291 (fun r M1 H locs G h => ?_)
  refine lv_aload_n hx hb dL_law_1294 rfl (lv_at hl 2 rfl) ?_
  refine lw_R (rest := [.int r]) X G hl.1 (m_X12_status X.2.2.2.1 h) cw_X12_status qw_43_20 qw_43_21 qw_43_22 rfl rfl (Nat.le_of_ble_eq_true rfl) ⟨(Nat.le_of_ble_eq_true rfl), (Nat.le_of_ble_eq_true rfl)⟩ ⟨(Nat.le_of_ble_eq_true rfl), (Nat.le_of_ble_eq_true rfl)⟩ dL_law_1295 (fun r' M1 H locs G h => ?_)
  exact lv_icmp_eq (tgt := 1303) hx hb dL_law_1298 (by decide) (fun _ => kn _ _ _ _ G h.2) (fun q => absurd h.1 q)
end CASES
