/-! THE LAW: its cases -/
abbrev q_ML (nm : String) : q_M := (⟨RL, nm, "([I)Z"⟩, code, 4, ret)
section q_cases
variable {nm : String} {p : Program} {l : Launch} {e : Env} {s : State} {mi : MethodId} {args : Array Value} {below : List Frame} {meth : Method} {c : Code} {D : va_G} {cs : Nat → ClassId} {b : Nat} {ad adV : Nat → Nat} {Q : State → Prop} {cu su : Nat} {m : q_Mem} {L i : Nat} {xs : Nat → Int32}
theorem z_32 (x : Int32) : q_32 x.toInt := by
  have h1 := Int32.minValue_le_toInt x
  have h2 := Int32.toInt_lt x
  unfold q_32
  constructor
  · simpa using h1
  · simpa using h2
/-- an int of the script -/
theorem z_arg {j pc : Nat} {st : List q_V} {g : q_G} (C : q_Cx (q_ML nm) p s mi args meth c D cs b ad adV) (hX : va_X (ad 29) L xs s s.heap) (hbl : ad 29 < s.heap.size) (hb : b = s.heap.size) (hL : L ≤ 3072) (hij : i + j < L) (d0 : decode code pc = .ok (.aload_n 0, 1)) (d1 : decode code (pc + 1) = .ok (.iload_n 3, 1)) (d2 : decode code (pc + 2) = .ok (.iconst j, 1)) (d3 : decode code (pc + 3) = .ok (.iadd, 1)) (d4 : decode code (pc + 4) = .ok (.iaload, 1))
    (kk : q_K p l e s mi args below meth c D cs b ad 4 room_1 Q cu su g m (pc + 5) [q_S 29, q_A 0, q_A 81, q_I i] (q_I (xs (i + j)).toInt :: st)) : q_K p l e s mi args below meth c D cs b ad 4 room_1 Q cu su g m pc [q_S 29, q_A 0, q_A 81, q_I i] st := by
  refine z_aload_nS (M := q_ML nm) C (n := 0) (x := 29) d0 rfl ?_
  refine z_iload_n (M := q_ML nm) C (n := 3) (x := i) d1 rfl ?_
  refine z_iconst (M := q_ML nm) C d2 ?_
  refine z_iadd (M := q_ML nm) C d3 ?_
  exact z_sld (M := q_ML nm) (n := i + j) C hX hbl hb d4 (by rw [q_w_id (by omega) (by omega)]; omega) hij kk
theorem lc_0 (C : q_Cx (q_ML nm) p s mi args meth c D cs b ad adV) (hX : va_X (ad 29) L xs s s.heap) (hbl : ad 29 < s.heap.size) (hb : b = s.heap.size) (hL : L ≤ 3072) (hcu : cu ≤ 600000) (hsu : su ≤ 7302250) (hi : i + 6 ≤ L) (hJ : j_J m) (kk : ∀ m', j_J m' → q_K p l e s mi args below meth c D cs b ad 4 room_1 Q cu su (q_g 126) m' 1574 [q_S 29, q_A 0, q_A 81, q_I i] []) : q_K p l e s mi args below meth c D cs b ad 4 room_1 Q cu su (q_g 126) m 224 [q_S 29, q_A 0, q_A 81, q_I i] [] := by
  have hop : j_op (f_PG_feed ((xs (i + 1)).toInt) ((xs (i + 2)).toInt) ((xs (i + 3)).toInt) ((xs (i + 4)).toInt) ((xs (i + 5)).toInt)) (f_Mod_feed ((xs (i + 1)).toInt) ((xs (i + 2)).toInt) ((xs (i + 3)).toInt) ((xs (i + 4)).toInt) ((xs (i + 5)).toInt)) := a_feed _ _ _ _ _
  obtain ⟨r, r', m1, m2, e1, e2, ee, hJ2⟩ := hop m hJ
  refine z_aload_n (M := q_ML nm) C (pc := 224) (n := 1) (x := 0) dL_law_224 rfl (by decide) ?_
  refine z_arg C hX hbl hb hL (pc := 225) (j := 1) (by omega) dL_law_225 dL_law_226 dL_law_227 dL_law_228 dL_law_229 ?_
  refine z_arg C hX hbl hb hL (pc := 230) (j := 2) (by omega) dL_law_230 dL_law_231 dL_law_232 dL_law_233 dL_law_234 ?_
  refine z_arg C hX hbl hb hL (pc := 235) (j := 3) (by omega) dL_law_235 dL_law_236 dL_law_237 dL_law_238 dL_law_239 ?_
  refine z_arg C hX hbl hb hL (pc := 240) (j := 4) (by omega) dL_law_240 dL_law_241 dL_law_242 dL_law_243 dL_law_244 ?_
  refine z_arg C hX hbl hb hL (pc := 245) (j := 5) (by omega) dL_law_245 dL_law_246 dL_law_247 dL_law_248 dL_law_249 ?_
  refine z_callV (M := q_ML nm) C (pc := 250) (M' := md_X10_feed) (rm' := q_room 2) (mc' := 0) (ms' := 0) (n := 5) (k := 10) (av := [q_I ((xs (i + 1)).toInt), q_I ((xs (i + 2)).toInt), q_I ((xs (i + 3)).toInt), q_I ((xs (i + 4)).toInt), q_I ((xs (i + 5)).toInt)]) (r := 0) (v := some (q_I r)) (g' := q_g 126) (m' := m1) ml_12_13 im_X10_feed se_X10_feed dL_law_250 (ok_X10_feed (by decide) e1) rfl (is_0 (by decide)) ⟨_, _, rfl⟩ (by decide) (Nat.le_of_ble_eq_true rfl) ⟨rfl, rfl, Nat.le_of_ble_eq_true rfl, Nat.le_of_ble_eq_true rfl, hcu, hsu⟩ ?_
  refine z_aload_n (M := q_ML nm) C (pc := 253) (n := 2) (x := 81) dL_law_253 rfl (by decide) ?_
  refine z_arg C hX hbl hb hL (pc := 254) (j := 1) (by omega) dL_law_254 dL_law_255 dL_law_256 dL_law_257 dL_law_258 ?_
  refine z_arg C hX hbl hb hL (pc := 259) (j := 2) (by omega) dL_law_259 dL_law_260 dL_law_261 dL_law_262 dL_law_263 ?_
  refine z_arg C hX hbl hb hL (pc := 264) (j := 3) (by omega) dL_law_264 dL_law_265 dL_law_266 dL_law_267 dL_law_268 ?_
  refine z_arg C hX hbl hb hL (pc := 269) (j := 4) (by omega) dL_law_269 dL_law_270 dL_law_271 dL_law_272 dL_law_273 ?_
  refine z_arg C hX hbl hb hL (pc := 274) (j := 5) (by omega) dL_law_274 dL_law_275 dL_law_276 dL_law_277 dL_law_278 ?_
  refine z_callV (M := q_ML nm) C (pc := 279) (M' := md_X11_feed) (rm' := q_room 1) (mc' := 0) (ms' := 0) (n := 5) (k := 11) (av := [q_I ((xs (i + 1)).toInt), q_I ((xs (i + 2)).toInt), q_I ((xs (i + 3)).toInt), q_I ((xs (i + 4)).toInt), q_I ((xs (i + 5)).toInt)]) (r := 81) (v := some (q_I r')) (g' := q_g 126) (m' := m2) ml_12_17 im_X11_feed se_X11_feed dL_law_279 (ok_X11_feed (by decide) e2) rfl (is_81 (by decide)) ⟨_, _, rfl⟩ (by decide) (Nat.le_of_ble_eq_true rfl) ⟨rfl, rfl, Nat.le_of_ble_eq_true rfl, Nat.le_of_ble_eq_true rfl, hcu, hsu⟩ ?_
  exact z_icmp_eq (M := q_ML nm) C (pc := 282) (tgt := 1574) dL_law_282 (by decide) (fun _ => kk m2 hJ2) (fun h => absurd ee h)
theorem lc_1 (C : q_Cx (q_ML nm) p s mi args meth c D cs b ad adV) (hX : va_X (ad 29) L xs s s.heap) (hbl : ad 29 < s.heap.size) (hb : b = s.heap.size) (hL : L ≤ 3072) (hcu : cu ≤ 600000) (hsu : su ≤ 7302250) (hi : i + 6 ≤ L) (hJ : j_J m) (kk : ∀ m', j_J m' → q_K p l e s mi args below meth c D cs b ad 4 room_1 Q cu su (q_g 126) m' 1574 [q_S 29, q_A 0, q_A 81, q_I i] []) : q_K p l e s mi args below meth c D cs b ad 4 room_1 Q cu su (q_g 126) m 287 [q_S 29, q_A 0, q_A 81, q_I i] [] := by
  have hop : j_op (f_PG_end ((xs (i + 1)).toInt)) (f_Mod_end ((xs (i + 1)).toInt)) := a_end (z_32 _)
  obtain ⟨r, r', m1, m2, e1, e2, ee, hJ2⟩ := hop m hJ
  refine z_aload_n (M := q_ML nm) C (pc := 287) (n := 1) (x := 0) dL_law_287 rfl (by decide) ?_
  refine z_arg C hX hbl hb hL (pc := 288) (j := 1) (by omega) dL_law_288 dL_law_289 dL_law_290 dL_law_291 dL_law_292 ?_
  refine z_callV (M := q_ML nm) C (pc := 293) (M' := md_X10_end) (rm' := q_room 1) (mc' := 0) (ms' := 0) (n := 1) (k := 10) (av := [q_I ((xs (i + 1)).toInt)]) (r := 0) (v := some (q_I r)) (g' := q_g 126) (m' := m1) ml_12_18 im_X10_end se_X10_end dL_law_293 (ok_X10_end (by decide) e1) rfl (is_0 (by decide)) ⟨_, _, rfl⟩ (by decide) (Nat.le_of_ble_eq_true rfl) ⟨rfl, rfl, Nat.le_of_ble_eq_true rfl, Nat.le_of_ble_eq_true rfl, hcu, hsu⟩ ?_
  refine z_aload_n (M := q_ML nm) C (pc := 296) (n := 2) (x := 81) dL_law_296 rfl (by decide) ?_
  refine z_arg C hX hbl hb hL (pc := 297) (j := 1) (by omega) dL_law_297 dL_law_298 dL_law_299 dL_law_300 dL_law_301 ?_
  refine z_callV (M := q_ML nm) C (pc := 302) (M' := md_X11_end) (rm' := q_room 1) (mc' := 0) (ms' := 0) (n := 1) (k := 11) (av := [q_I ((xs (i + 1)).toInt)]) (r := 81) (v := some (q_I r')) (g' := q_g 126) (m' := m2) ml_12_22 im_X11_end se_X11_end dL_law_302 (ok_X11_end (by decide) e2) rfl (is_81 (by decide)) ⟨_, _, rfl⟩ (by decide) (Nat.le_of_ble_eq_true rfl) ⟨rfl, rfl, Nat.le_of_ble_eq_true rfl, Nat.le_of_ble_eq_true rfl, hcu, hsu⟩ ?_
  exact z_icmp_eq (M := q_ML nm) C (pc := 305) (tgt := 1574) dL_law_305 (by decide) (fun _ => kk m2 hJ2) (fun h => absurd ee h)
theorem lc_2 (C : q_Cx (q_ML nm) p s mi args meth c D cs b ad adV) (hX : va_X (ad 29) L xs s s.heap) (hbl : ad 29 < s.heap.size) (hb : b = s.heap.size) (hL : L ≤ 3072) (hcu : cu ≤ 600000) (hsu : su ≤ 7302250) (hi : i + 6 ≤ L) (hJ : j_J m) (kk : ∀ m', j_J m' → q_K p l e s mi args below meth c D cs b ad 4 room_1 Q cu su (q_g 126) m' 1574 [q_S 29, q_A 0, q_A 81, q_I i] []) : q_K p l e s mi args below meth c D cs b ad 4 room_1 Q cu su (q_g 126) m 310 [q_S 29, q_A 0, q_A 81, q_I i] [] := by
  have hop : j_op f_PG_loop f_Mod_loop := a_loop 
  obtain ⟨r, r', m1, m2, e1, e2, ee, hJ2⟩ := hop m hJ
  refine z_aload_n (M := q_ML nm) C (pc := 310) (n := 1) (x := 0) dL_law_310 rfl (by decide) ?_
  refine z_callV (M := q_ML nm) C (pc := 311) (M' := md_X10_loop) (rm' := q_room 63) (mc' := 0) (ms' := 0) (n := 0) (k := 10) (av := []) (r := 0) (v := some (q_I r)) (g' := q_g 126) (m' := m1) ml_12_23 im_X10_loop se_X10_loop dL_law_311 (ok_X10_loop (by decide) e1) rfl (is_0 (by decide)) ⟨_, _, rfl⟩ (by decide) (Nat.le_of_ble_eq_true rfl) ⟨rfl, rfl, Nat.le_of_ble_eq_true rfl, Nat.le_of_ble_eq_true rfl, hcu, hsu⟩ ?_
  refine z_aload_n (M := q_ML nm) C (pc := 314) (n := 2) (x := 81) dL_law_314 rfl (by decide) ?_
  refine z_callV (M := q_ML nm) C (pc := 315) (M' := md_X11_loop) (rm' := q_room 11) (mc' := 0) (ms' := 0) (n := 0) (k := 11) (av := []) (r := 81) (v := some (q_I r')) (g' := q_g 126) (m' := m2) ml_12_27 im_X11_loop se_X11_loop dL_law_315 (ok_X11_loop (by decide) e2) rfl (is_81 (by decide)) ⟨_, _, rfl⟩ (by decide) (Nat.le_of_ble_eq_true rfl) ⟨rfl, rfl, Nat.le_of_ble_eq_true rfl, Nat.le_of_ble_eq_true rfl, hcu, hsu⟩ ?_
  exact z_icmp_eq (M := q_ML nm) C (pc := 318) (tgt := 1574) dL_law_318 (by decide) (fun _ => kk m2 hJ2) (fun h => absurd ee h)
theorem lc_3 (C : q_Cx (q_ML nm) p s mi args meth c D cs b ad adV) (hX : va_X (ad 29) L xs s s.heap) (hbl : ad 29 < s.heap.size) (hb : b = s.heap.size) (hL : L ≤ 3072) (hcu : cu ≤ 600000) (hsu : su ≤ 7302250) (hi : i + 6 ≤ L) (hJ : j_J m) (kk : ∀ m', j_J m' → q_K p l e s mi args below meth c D cs b ad 4 room_1 Q cu su (q_g 126) m' 1574 [q_S 29, q_A 0, q_A 81, q_I i] []) : q_K p l e s mi args below meth c D cs b ad 4 room_1 Q cu su (q_g 126) m 323 [q_S 29, q_A 0, q_A 81, q_I i] [] := by
  have hop : j_op (f_PG_fault ((xs (i + 1)).toInt)) (f_Mod_fault ((xs (i + 1)).toInt)) := a_fault (z_32 _)
  obtain ⟨r, r', m1, m2, e1, e2, ee, hJ2⟩ := hop m hJ
  refine z_aload_n (M := q_ML nm) C (pc := 323) (n := 1) (x := 0) dL_law_323 rfl (by decide) ?_
  refine z_arg C hX hbl hb hL (pc := 324) (j := 1) (by omega) dL_law_324 dL_law_325 dL_law_326 dL_law_327 dL_law_328 ?_
  refine z_callV (M := q_ML nm) C (pc := 329) (M' := md_X10_fault) (rm' := q_room 1) (mc' := 0) (ms' := 0) (n := 1) (k := 10) (av := [q_I ((xs (i + 1)).toInt)]) (r := 0) (v := some (q_I r)) (g' := q_g 126) (m' := m1) ml_12_28 im_X10_fault se_X10_fault dL_law_329 (ok_X10_fault (by decide) e1) rfl (is_0 (by decide)) ⟨_, _, rfl⟩ (by decide) (Nat.le_of_ble_eq_true rfl) ⟨rfl, rfl, Nat.le_of_ble_eq_true rfl, Nat.le_of_ble_eq_true rfl, hcu, hsu⟩ ?_
  refine z_aload_n (M := q_ML nm) C (pc := 332) (n := 2) (x := 81) dL_law_332 rfl (by decide) ?_
  refine z_arg C hX hbl hb hL (pc := 333) (j := 1) (by omega) dL_law_333 dL_law_334 dL_law_335 dL_law_336 dL_law_337 ?_
  refine z_callV (M := q_ML nm) C (pc := 338) (M' := md_X11_fault) (rm' := q_room 1) (mc' := 0) (ms' := 0) (n := 1) (k := 11) (av := [q_I ((xs (i + 1)).toInt)]) (r := 81) (v := some (q_I r')) (g' := q_g 126) (m' := m2) ml_12_31 im_X11_fault se_X11_fault dL_law_338 (ok_X11_fault (by decide) e2) rfl (is_81 (by decide)) ⟨_, _, rfl⟩ (by decide) (Nat.le_of_ble_eq_true rfl) ⟨rfl, rfl, Nat.le_of_ble_eq_true rfl, Nat.le_of_ble_eq_true rfl, hcu, hsu⟩ ?_
  exact z_icmp_eq (M := q_ML nm) C (pc := 341) (tgt := 1574) dL_law_341 (by decide) (fun _ => kk m2 hJ2) (fun h => absurd ee h)
theorem lc_4 (C : q_Cx (q_ML nm) p s mi args meth c D cs b ad adV) (hX : va_X (ad 29) L xs s s.heap) (hbl : ad 29 < s.heap.size) (hb : b = s.heap.size) (hL : L ≤ 3072) (hcu : cu ≤ 600000) (hsu : su ≤ 7302250) (hi : i + 6 ≤ L) (hJ : j_J m) (kk : ∀ m', j_J m' → q_K p l e s mi args below meth c D cs b ad 4 room_1 Q cu su (q_g 126) m' 1574 [q_S 29, q_A 0, q_A 81, q_I i] []) : q_K p l e s mi args below meth c D cs b ad 4 room_1 Q cu su (q_g 126) m 346 [q_S 29, q_A 0, q_A 81, q_I i] [] := by
  have hop : j_op (f_PG_fire ((xs (i + 1)).toInt) ((xs (i + 2)).toInt)) (f_Mod_fire ((xs (i + 1)).toInt) ((xs (i + 2)).toInt)) := a_fire (z_32 _) (z_32 _)
  obtain ⟨r, r', m1, m2, e1, e2, ee, hJ2⟩ := hop m hJ
  refine z_aload_n (M := q_ML nm) C (pc := 346) (n := 1) (x := 0) dL_law_346 rfl (by decide) ?_
  refine z_arg C hX hbl hb hL (pc := 347) (j := 1) (by omega) dL_law_347 dL_law_348 dL_law_349 dL_law_350 dL_law_351 ?_
  refine z_arg C hX hbl hb hL (pc := 352) (j := 2) (by omega) dL_law_352 dL_law_353 dL_law_354 dL_law_355 dL_law_356 ?_
  refine z_callV (M := q_ML nm) C (pc := 357) (M' := md_X10_fire) (rm' := q_room 5) (mc' := 0) (ms' := 0) (n := 2) (k := 10) (av := [q_I ((xs (i + 1)).toInt), q_I ((xs (i + 2)).toInt)]) (r := 0) (v := some (q_I r)) (g' := q_g 126) (m' := m1) ml_12_32 im_X10_fire se_X10_fire dL_law_357 (ok_X10_fire (by decide) e1) rfl (is_0 (by decide)) ⟨_, _, rfl⟩ (by decide) (Nat.le_of_ble_eq_true rfl) ⟨rfl, rfl, Nat.le_of_ble_eq_true rfl, Nat.le_of_ble_eq_true rfl, hcu, hsu⟩ ?_
  refine z_aload_n (M := q_ML nm) C (pc := 360) (n := 2) (x := 81) dL_law_360 rfl (by decide) ?_
  refine z_arg C hX hbl hb hL (pc := 361) (j := 1) (by omega) dL_law_361 dL_law_362 dL_law_363 dL_law_364 dL_law_365 ?_
  refine z_arg C hX hbl hb hL (pc := 366) (j := 2) (by omega) dL_law_366 dL_law_367 dL_law_368 dL_law_369 dL_law_370 ?_
  refine z_callV (M := q_ML nm) C (pc := 371) (M' := md_X11_fire) (rm' := q_room 3) (mc' := 0) (ms' := 0) (n := 2) (k := 11) (av := [q_I ((xs (i + 1)).toInt), q_I ((xs (i + 2)).toInt)]) (r := 81) (v := some (q_I r')) (g' := q_g 126) (m' := m2) ml_12_36 im_X11_fire se_X11_fire dL_law_371 (ok_X11_fire (by decide) e2) rfl (is_81 (by decide)) ⟨_, _, rfl⟩ (by decide) (Nat.le_of_ble_eq_true rfl) ⟨rfl, rfl, Nat.le_of_ble_eq_true rfl, Nat.le_of_ble_eq_true rfl, hcu, hsu⟩ ?_
  exact z_icmp_eq (M := q_ML nm) C (pc := 374) (tgt := 1574) dL_law_374 (by decide) (fun _ => kk m2 hJ2) (fun h => absurd ee h)
theorem lc_5 (C : q_Cx (q_ML nm) p s mi args meth c D cs b ad adV) (hX : va_X (ad 29) L xs s s.heap) (hbl : ad 29 < s.heap.size) (hb : b = s.heap.size) (hL : L ≤ 3072) (hcu : cu ≤ 600000) (hsu : su ≤ 7302250) (hi : i + 6 ≤ L) (hJ : j_J m) (kk : ∀ m', j_J m' → q_K p l e s mi args below meth c D cs b ad 4 room_1 Q cu su (q_g 126) m' 1574 [q_S 29, q_A 0, q_A 81, q_I i] []) : q_K p l e s mi args below meth c D cs b ad 4 room_1 Q cu su (q_g 126) m 379 [q_S 29, q_A 0, q_A 81, q_I i] [] := by
  have hop : j_op (f_PG_onto ((xs (i + 1)).toInt) ((xs (i + 2)).toInt)) (f_Mod_onto ((xs (i + 1)).toInt) ((xs (i + 2)).toInt)) := a_onto (z_32 _) (z_32 _)
  obtain ⟨r, r', m1, m2, e1, e2, ee, hJ2⟩ := hop m hJ
  refine z_aload_n (M := q_ML nm) C (pc := 379) (n := 1) (x := 0) dL_law_379 rfl (by decide) ?_
  refine z_arg C hX hbl hb hL (pc := 380) (j := 1) (by omega) dL_law_380 dL_law_381 dL_law_382 dL_law_383 dL_law_384 ?_
  refine z_arg C hX hbl hb hL (pc := 385) (j := 2) (by omega) dL_law_385 dL_law_386 dL_law_387 dL_law_388 dL_law_389 ?_
  refine z_callV (M := q_ML nm) C (pc := 390) (M' := md_X10_onto) (rm' := q_room 5) (mc' := 0) (ms' := 0) (n := 2) (k := 10) (av := [q_I ((xs (i + 1)).toInt), q_I ((xs (i + 2)).toInt)]) (r := 0) (v := some (q_I r)) (g' := q_g 126) (m' := m1) ml_12_37 im_X10_onto se_X10_onto dL_law_390 (ok_X10_onto (by decide) e1) rfl (is_0 (by decide)) ⟨_, _, rfl⟩ (by decide) (Nat.le_of_ble_eq_true rfl) ⟨rfl, rfl, Nat.le_of_ble_eq_true rfl, Nat.le_of_ble_eq_true rfl, hcu, hsu⟩ ?_
  refine z_aload_n (M := q_ML nm) C (pc := 393) (n := 2) (x := 81) dL_law_393 rfl (by decide) ?_
  refine z_arg C hX hbl hb hL (pc := 394) (j := 1) (by omega) dL_law_394 dL_law_395 dL_law_396 dL_law_397 dL_law_398 ?_
  refine z_arg C hX hbl hb hL (pc := 399) (j := 2) (by omega) dL_law_399 dL_law_400 dL_law_401 dL_law_402 dL_law_403 ?_
  refine z_callV (M := q_ML nm) C (pc := 404) (M' := md_X11_onto) (rm' := q_room 7) (mc' := 0) (ms' := 0) (n := 2) (k := 11) (av := [q_I ((xs (i + 1)).toInt), q_I ((xs (i + 2)).toInt)]) (r := 81) (v := some (q_I r')) (g' := q_g 126) (m' := m2) ml_12_40 im_X11_onto se_X11_onto dL_law_404 (ok_X11_onto (by decide) e2) rfl (is_81 (by decide)) ⟨_, _, rfl⟩ (by decide) (Nat.le_of_ble_eq_true rfl) ⟨rfl, rfl, Nat.le_of_ble_eq_true rfl, Nat.le_of_ble_eq_true rfl, hcu, hsu⟩ ?_
  exact z_icmp_eq (M := q_ML nm) C (pc := 407) (tgt := 1574) dL_law_407 (by decide) (fun _ => kk m2 hJ2) (fun h => absurd ee h)
theorem lc_6 (C : q_Cx (q_ML nm) p s mi args meth c D cs b ad adV) (hX : va_X (ad 29) L xs s s.heap) (hbl : ad 29 < s.heap.size) (hb : b = s.heap.size) (hL : L ≤ 3072) (hcu : cu ≤ 600000) (hsu : su ≤ 7302250) (hi : i + 6 ≤ L) (hJ : j_J m) (kk : ∀ m', j_J m' → q_K p l e s mi args below meth c D cs b ad 4 room_1 Q cu su (q_g 126) m' 1574 [q_S 29, q_A 0, q_A 81, q_I i] []) : q_K p l e s mi args below meth c D cs b ad 4 room_1 Q cu su (q_g 126) m 412 [q_S 29, q_A 0, q_A 81, q_I i] [] := by
  have hop : j_op (f_PG_workers ((xs (i + 1)).toInt)) (f_Mod_workers ((xs (i + 1)).toInt)) := a_workers (z_32 _)
  obtain ⟨r, r', m1, m2, e1, e2, ee, hJ2⟩ := hop m hJ
  refine z_aload_n (M := q_ML nm) C (pc := 412) (n := 1) (x := 0) dL_law_412 rfl (by decide) ?_
  refine z_arg C hX hbl hb hL (pc := 413) (j := 1) (by omega) dL_law_413 dL_law_414 dL_law_415 dL_law_416 dL_law_417 ?_
  refine z_callV (M := q_ML nm) C (pc := 418) (M' := md_X10_workers) (rm' := q_room 3) (mc' := 0) (ms' := 0) (n := 1) (k := 10) (av := [q_I ((xs (i + 1)).toInt)]) (r := 0) (v := some (q_I r)) (g' := q_g 126) (m' := m1) ml_12_41 im_X10_workers se_X10_workers dL_law_418 (ok_X10_workers (by decide) e1) rfl (is_0 (by decide)) ⟨_, _, rfl⟩ (by decide) (Nat.le_of_ble_eq_true rfl) ⟨rfl, rfl, Nat.le_of_ble_eq_true rfl, Nat.le_of_ble_eq_true rfl, hcu, hsu⟩ ?_
  refine z_aload_n (M := q_ML nm) C (pc := 421) (n := 2) (x := 81) dL_law_421 rfl (by decide) ?_
  refine z_arg C hX hbl hb hL (pc := 422) (j := 1) (by omega) dL_law_422 dL_law_423 dL_law_424 dL_law_425 dL_law_426 ?_
  refine z_callV (M := q_ML nm) C (pc := 427) (M' := md_X11_workers) (rm' := q_room 2) (mc' := 0) (ms' := 0) (n := 1) (k := 11) (av := [q_I ((xs (i + 1)).toInt)]) (r := 81) (v := some (q_I r')) (g' := q_g 126) (m' := m2) ml_12_44 im_X11_workers se_X11_workers dL_law_427 (ok_X11_workers (by decide) e2) rfl (is_81 (by decide)) ⟨_, _, rfl⟩ (by decide) (Nat.le_of_ble_eq_true rfl) ⟨rfl, rfl, Nat.le_of_ble_eq_true rfl, Nat.le_of_ble_eq_true rfl, hcu, hsu⟩ ?_
  exact z_icmp_eq (M := q_ML nm) C (pc := 430) (tgt := 1574) dL_law_430 (by decide) (fun _ => kk m2 hJ2) (fun h => absurd ee h)
theorem lc_7 (C : q_Cx (q_ML nm) p s mi args meth c D cs b ad adV) (hX : va_X (ad 29) L xs s s.heap) (hbl : ad 29 < s.heap.size) (hb : b = s.heap.size) (hL : L ≤ 3072) (hcu : cu ≤ 600000) (hsu : su ≤ 7302250) (hi : i + 6 ≤ L) (hJ : j_J m) (kk : ∀ m', j_J m' → q_K p l e s mi args below meth c D cs b ad 4 room_1 Q cu su (q_g 126) m' 1574 [q_S 29, q_A 0, q_A 81, q_I i] []) : q_K p l e s mi args below meth c D cs b ad 4 room_1 Q cu su (q_g 126) m 435 [q_S 29, q_A 0, q_A 81, q_I i] [] := by
  by_cases hz : q_w (xs (i + 2)).toInt = 0
  · have hop : j_op (f_PG_broken ((xs (i + 1)).toInt) 0) (f_Mod_broken ((xs (i + 1)).toInt) 0) := a_broken (z_32 _) (Or.inl rfl)
    obtain ⟨r, r', m1, m2, e1, e2, ee, hJ2⟩ := hop m hJ
    refine z_aload_n (M := q_ML nm) C (pc := 435) (n := 1) (x := 0) dL_law_435 rfl (by decide) ?_
    refine z_arg C hX hbl hb hL (pc := 436) (j := 1) (by omega) dL_law_436 dL_law_437 dL_law_438 dL_law_439 dL_law_440 ?_
    refine z_arg C hX hbl hb hL (pc := 441) (j := 2) (by omega) dL_law_441 dL_law_442 dL_law_443 dL_law_444 dL_law_445 ?_
    refine z_if_eq (M := q_ML nm) C (pc := 446) (tgt := 453) dL_law_446 (by decide) (fun _ => ?_) (fun h => absurd hz h)
    refine z_iconst (M := q_ML nm) C (pc := 453) dL_law_453 ?_
    refine z_callV (M := q_ML nm) C (pc := 454) (M' := md_X10_broken) (rm' := q_room 5) (mc' := 0) (ms' := 0) (n := 2) (k := 10) (av := [q_I ((xs (i + 1)).toInt), q_I 0]) (r := 0) (v := some (q_I r)) (g' := q_g 126) (m' := m1) ml_12_45 im_X10_broken se_X10_broken dL_law_454 (ok_X10_broken (by decide) e1) rfl (is_0 (by decide)) ⟨_, _, rfl⟩ (by decide) (Nat.le_of_ble_eq_true rfl) ⟨rfl, rfl, Nat.le_of_ble_eq_true rfl, Nat.le_of_ble_eq_true rfl, hcu, hsu⟩ ?_
    refine z_aload_n (M := q_ML nm) C (pc := 457) (n := 2) (x := 81) dL_law_457 rfl (by decide) ?_
    refine z_arg C hX hbl hb hL (pc := 458) (j := 1) (by omega) dL_law_458 dL_law_459 dL_law_460 dL_law_461 dL_law_462 ?_
    refine z_arg C hX hbl hb hL (pc := 463) (j := 2) (by omega) dL_law_463 dL_law_464 dL_law_465 dL_law_466 dL_law_467 ?_
    refine z_if_eq (M := q_ML nm) C (pc := 468) (tgt := 475) dL_law_468 (by decide) (fun _ => ?_) (fun h => absurd hz h)
    refine z_iconst (M := q_ML nm) C (pc := 475) dL_law_475 ?_
    refine z_callV (M := q_ML nm) C (pc := 476) (M' := md_X11_broken) (rm' := q_room 8) (mc' := 0) (ms' := 0) (n := 2) (k := 11) (av := [q_I ((xs (i + 1)).toInt), q_I 0]) (r := 81) (v := some (q_I r')) (g' := q_g 126) (m' := m2) ml_12_49 im_X11_broken se_X11_broken dL_law_476 (ok_X11_broken (by decide) e2) rfl (is_81 (by decide)) ⟨_, _, rfl⟩ (by decide) (Nat.le_of_ble_eq_true rfl) ⟨rfl, rfl, Nat.le_of_ble_eq_true rfl, Nat.le_of_ble_eq_true rfl, hcu, hsu⟩ ?_
    exact z_icmp_eq (M := q_ML nm) C (pc := 479) (tgt := 1574) dL_law_479 (by decide) (fun _ => kk m2 hJ2) (fun h => absurd ee h)
  · have hop : j_op (f_PG_broken ((xs (i + 1)).toInt) 1) (f_Mod_broken ((xs (i + 1)).toInt) 1) := a_broken (z_32 _) (Or.inr rfl)
    obtain ⟨r, r', m1, m2, e1, e2, ee, hJ2⟩ := hop m hJ
    refine z_aload_n (M := q_ML nm) C (pc := 435) (n := 1) (x := 0) dL_law_435 rfl (by decide) ?_
    refine z_arg C hX hbl hb hL (pc := 436) (j := 1) (by omega) dL_law_436 dL_law_437 dL_law_438 dL_law_439 dL_law_440 ?_
    refine z_arg C hX hbl hb hL (pc := 441) (j := 2) (by omega) dL_law_441 dL_law_442 dL_law_443 dL_law_444 dL_law_445 ?_
    refine z_if_eq (M := q_ML nm) C (pc := 446) (tgt := 453) dL_law_446 (by decide) (fun h => absurd h hz) (fun _ => ?_)
    refine z_iconst (M := q_ML nm) C (pc := 449) dL_law_449 ?_
    refine z_goto (M := q_ML nm) C (pc := 450) (tgt := 454) dL_law_450 (by decide) ?_
    refine z_callV (M := q_ML nm) C (pc := 454) (M' := md_X10_broken) (rm' := q_room 5) (mc' := 0) (ms' := 0) (n := 2) (k := 10) (av := [q_I ((xs (i + 1)).toInt), q_I 1]) (r := 0) (v := some (q_I r)) (g' := q_g 126) (m' := m1) ml_12_45 im_X10_broken se_X10_broken dL_law_454 (ok_X10_broken (by decide) e1) rfl (is_0 (by decide)) ⟨_, _, rfl⟩ (by decide) (Nat.le_of_ble_eq_true rfl) ⟨rfl, rfl, Nat.le_of_ble_eq_true rfl, Nat.le_of_ble_eq_true rfl, hcu, hsu⟩ ?_
    refine z_aload_n (M := q_ML nm) C (pc := 457) (n := 2) (x := 81) dL_law_457 rfl (by decide) ?_
    refine z_arg C hX hbl hb hL (pc := 458) (j := 1) (by omega) dL_law_458 dL_law_459 dL_law_460 dL_law_461 dL_law_462 ?_
    refine z_arg C hX hbl hb hL (pc := 463) (j := 2) (by omega) dL_law_463 dL_law_464 dL_law_465 dL_law_466 dL_law_467 ?_
    refine z_if_eq (M := q_ML nm) C (pc := 468) (tgt := 475) dL_law_468 (by decide) (fun h => absurd h hz) (fun _ => ?_)
    refine z_iconst (M := q_ML nm) C (pc := 471) dL_law_471 ?_
    refine z_goto (M := q_ML nm) C (pc := 472) (tgt := 476) dL_law_472 (by decide) ?_
    refine z_callV (M := q_ML nm) C (pc := 476) (M' := md_X11_broken) (rm' := q_room 8) (mc' := 0) (ms' := 0) (n := 2) (k := 11) (av := [q_I ((xs (i + 1)).toInt), q_I 1]) (r := 81) (v := some (q_I r')) (g' := q_g 126) (m' := m2) ml_12_49 im_X11_broken se_X11_broken dL_law_476 (ok_X11_broken (by decide) e2) rfl (is_81 (by decide)) ⟨_, _, rfl⟩ (by decide) (Nat.le_of_ble_eq_true rfl) ⟨rfl, rfl, Nat.le_of_ble_eq_true rfl, Nat.le_of_ble_eq_true rfl, hcu, hsu⟩ ?_
    exact z_icmp_eq (M := q_ML nm) C (pc := 479) (tgt := 1574) dL_law_479 (by decide) (fun _ => kk m2 hJ2) (fun h => absurd ee h)
theorem lc_8 (C : q_Cx (q_ML nm) p s mi args meth c D cs b ad adV) (hX : va_X (ad 29) L xs s s.heap) (hbl : ad 29 < s.heap.size) (hb : b = s.heap.size) (hL : L ≤ 3072) (hcu : cu ≤ 600000) (hsu : su ≤ 7302250) (hi : i + 6 ≤ L) (hJ : j_J m) (kk : ∀ m', j_J m' → q_K p l e s mi args below meth c D cs b ad 4 room_1 Q cu su (q_g 126) m' 1574 [q_S 29, q_A 0, q_A 81, q_I i] []) : q_K p l e s mi args below meth c D cs b ad 4 room_1 Q cu su (q_g 126) m 484 [q_S 29, q_A 0, q_A 81, q_I i] [] := by
  have hop : j_op f_PG_undo f_Mod_undo := a_undo 
  obtain ⟨r, r', m1, m2, e1, e2, ee, hJ2⟩ := hop m hJ
  refine z_aload_n (M := q_ML nm) C (pc := 484) (n := 1) (x := 0) dL_law_484 rfl (by decide) ?_
  refine z_callV (M := q_ML nm) C (pc := 485) (M' := md_X10_undo) (rm' := q_room 5) (mc' := 0) (ms' := 0) (n := 0) (k := 10) (av := []) (r := 0) (v := some (q_I r)) (g' := q_g 126) (m' := m1) ml_12_50 im_X10_undo se_X10_undo dL_law_485 (ok_X10_undo (by decide) e1) rfl (is_0 (by decide)) ⟨_, _, rfl⟩ (by decide) (Nat.le_of_ble_eq_true rfl) ⟨rfl, rfl, Nat.le_of_ble_eq_true rfl, Nat.le_of_ble_eq_true rfl, hcu, hsu⟩ ?_
  refine z_aload_n (M := q_ML nm) C (pc := 488) (n := 2) (x := 81) dL_law_488 rfl (by decide) ?_
  refine z_callV (M := q_ML nm) C (pc := 489) (M' := md_X11_undo) (rm' := q_room 2) (mc' := 0) (ms' := 0) (n := 0) (k := 11) (av := []) (r := 81) (v := some (q_I r')) (g' := q_g 126) (m' := m2) ml_12_54 im_X11_undo se_X11_undo dL_law_489 (ok_X11_undo (by decide) e2) rfl (is_81 (by decide)) ⟨_, _, rfl⟩ (by decide) (Nat.le_of_ble_eq_true rfl) ⟨rfl, rfl, Nat.le_of_ble_eq_true rfl, Nat.le_of_ble_eq_true rfl, hcu, hsu⟩ ?_
  exact z_icmp_eq (M := q_ML nm) C (pc := 492) (tgt := 1574) dL_law_492 (by decide) (fun _ => kk m2 hJ2) (fun h => absurd ee h)
theorem lc_9 (C : q_Cx (q_ML nm) p s mi args meth c D cs b ad adV) (hX : va_X (ad 29) L xs s s.heap) (hbl : ad 29 < s.heap.size) (hb : b = s.heap.size) (hL : L ≤ 3072) (hcu : cu ≤ 600000) (hsu : su ≤ 7302250) (hi : i + 6 ≤ L) (hJ : j_J m) (kk : ∀ m', j_J m' → q_K p l e s mi args below meth c D cs b ad 4 room_1 Q cu su (q_g 126) m' 1574 [q_S 29, q_A 0, q_A 81, q_I i] []) : q_K p l e s mi args below meth c D cs b ad 4 room_1 Q cu su (q_g 126) m 497 [q_S 29, q_A 0, q_A 81, q_I i] [] := by
  have hop : j_op f_PG_redo f_Mod_redo := a_redo 
  obtain ⟨r, r', m1, m2, e1, e2, ee, hJ2⟩ := hop m hJ
  refine z_aload_n (M := q_ML nm) C (pc := 497) (n := 1) (x := 0) dL_law_497 rfl (by decide) ?_
  refine z_callV (M := q_ML nm) C (pc := 498) (M' := md_X10_redo) (rm' := q_room 5) (mc' := 0) (ms' := 0) (n := 0) (k := 10) (av := []) (r := 0) (v := some (q_I r)) (g' := q_g 126) (m' := m1) ml_12_55 im_X10_redo se_X10_redo dL_law_498 (ok_X10_redo (by decide) e1) rfl (is_0 (by decide)) ⟨_, _, rfl⟩ (by decide) (Nat.le_of_ble_eq_true rfl) ⟨rfl, rfl, Nat.le_of_ble_eq_true rfl, Nat.le_of_ble_eq_true rfl, hcu, hsu⟩ ?_
  refine z_aload_n (M := q_ML nm) C (pc := 501) (n := 2) (x := 81) dL_law_501 rfl (by decide) ?_
  refine z_callV (M := q_ML nm) C (pc := 502) (M' := md_X11_redo) (rm' := q_room 2) (mc' := 0) (ms' := 0) (n := 0) (k := 11) (av := []) (r := 81) (v := some (q_I r')) (g' := q_g 126) (m' := m2) ml_12_58 im_X11_redo se_X11_redo dL_law_502 (ok_X11_redo (by decide) e2) rfl (is_81 (by decide)) ⟨_, _, rfl⟩ (by decide) (Nat.le_of_ble_eq_true rfl) ⟨rfl, rfl, Nat.le_of_ble_eq_true rfl, Nat.le_of_ble_eq_true rfl, hcu, hsu⟩ ?_
  exact z_icmp_eq (M := q_ML nm) C (pc := 505) (tgt := 1574) dL_law_505 (by decide) (fun _ => kk m2 hJ2) (fun h => absurd ee h)
theorem lc_10 (C : q_Cx (q_ML nm) p s mi args meth c D cs b ad adV) (hX : va_X (ad 29) L xs s s.heap) (hbl : ad 29 < s.heap.size) (hb : b = s.heap.size) (hL : L ≤ 3072) (hcu : cu ≤ 600000) (hsu : su ≤ 7302250) (hi : i + 6 ≤ L) (hJ : j_J m) (kk : ∀ m', j_J m' → q_K p l e s mi args below meth c D cs b ad 4 room_1 Q cu su (q_g 126) m' 1574 [q_S 29, q_A 0, q_A 81, q_I i] []) : q_K p l e s mi args below meth c D cs b ad 4 room_1 Q cu su (q_g 126) m 510 [q_S 29, q_A 0, q_A 81, q_I i] [] := by
  have hop : j_op (f_PG_value ((xs (i + 1)).toInt) ((xs (i + 2)).toInt) ((xs (i + 3)).toInt)) (f_Mod_value ((xs (i + 1)).toInt) ((xs (i + 2)).toInt) ((xs (i + 3)).toInt)) := j_ask fun l o hk => b_value hk (z_32 _) (z_32 _) (z_32 _)
  obtain ⟨r, r', m1, m2, e1, e2, ee, hJ2⟩ := hop m hJ
  refine z_aload_n (M := q_ML nm) C (pc := 510) (n := 1) (x := 0) dL_law_510 rfl (by decide) ?_
  refine z_arg C hX hbl hb hL (pc := 511) (j := 1) (by omega) dL_law_511 dL_law_512 dL_law_513 dL_law_514 dL_law_515 ?_
  refine z_arg C hX hbl hb hL (pc := 516) (j := 2) (by omega) dL_law_516 dL_law_517 dL_law_518 dL_law_519 dL_law_520 ?_
  refine z_arg C hX hbl hb hL (pc := 521) (j := 3) (by omega) dL_law_521 dL_law_522 dL_law_523 dL_law_524 dL_law_525 ?_
  refine z_callV (M := q_ML nm) C (pc := 526) (M' := md_X10_value) (rm' := q_room 2) (mc' := 0) (ms' := 0) (n := 3) (k := 10) (av := [q_I ((xs (i + 1)).toInt), q_I ((xs (i + 2)).toInt), q_I ((xs (i + 3)).toInt)]) (r := 0) (v := some (q_I r)) (g' := q_g 126) (m' := m1) ml_12_59 im_X10_value se_X10_value dL_law_526 (ok_X10_value (by decide) e1) rfl (is_0 (by decide)) ⟨_, _, rfl⟩ (by decide) (Nat.le_of_ble_eq_true rfl) ⟨rfl, rfl, Nat.le_of_ble_eq_true rfl, Nat.le_of_ble_eq_true rfl, hcu, hsu⟩ ?_
  refine z_aload_n (M := q_ML nm) C (pc := 529) (n := 2) (x := 81) dL_law_529 rfl (by decide) ?_
  refine z_arg C hX hbl hb hL (pc := 530) (j := 1) (by omega) dL_law_530 dL_law_531 dL_law_532 dL_law_533 dL_law_534 ?_
  refine z_arg C hX hbl hb hL (pc := 535) (j := 2) (by omega) dL_law_535 dL_law_536 dL_law_537 dL_law_538 dL_law_539 ?_
  refine z_arg C hX hbl hb hL (pc := 540) (j := 3) (by omega) dL_law_540 dL_law_541 dL_law_542 dL_law_543 dL_law_544 ?_
  refine z_callV (M := q_ML nm) C (pc := 545) (M' := md_X11_value) (rm' := q_room 8) (mc' := 0) (ms' := 0) (n := 3) (k := 11) (av := [q_I ((xs (i + 1)).toInt), q_I ((xs (i + 2)).toInt), q_I ((xs (i + 3)).toInt)]) (r := 81) (v := some (q_I r')) (g' := q_g 126) (m' := m2) ml_12_63 im_X11_value se_X11_value dL_law_545 (ok_X11_value (by decide) e2) rfl (is_81 (by decide)) ⟨_, _, rfl⟩ (by decide) (Nat.le_of_ble_eq_true rfl) ⟨rfl, rfl, Nat.le_of_ble_eq_true rfl, Nat.le_of_ble_eq_true rfl, hcu, hsu⟩ ?_
  exact z_icmp_eq (M := q_ML nm) C (pc := 548) (tgt := 1574) dL_law_548 (by decide) (fun _ => kk m2 hJ2) (fun h => absurd ee h)
theorem lc_11 (C : q_Cx (q_ML nm) p s mi args meth c D cs b ad adV) (hX : va_X (ad 29) L xs s s.heap) (hbl : ad 29 < s.heap.size) (hb : b = s.heap.size) (hL : L ≤ 3072) (hcu : cu ≤ 600000) (hsu : su ≤ 7302250) (hi : i + 6 ≤ L) (hJ : j_J m) (kk : ∀ m', j_J m' → q_K p l e s mi args below meth c D cs b ad 4 room_1 Q cu su (q_g 126) m' 1574 [q_S 29, q_A 0, q_A 81, q_I i] []) : q_K p l e s mi args below meth c D cs b ad 4 room_1 Q cu su (q_g 126) m 553 [q_S 29, q_A 0, q_A 81, q_I i] [] := by
  have hop : j_op (f_PG_ordered ((xs (i + 1)).toInt) ((xs (i + 2)).toInt)) (f_Mod_ordered ((xs (i + 1)).toInt) ((xs (i + 2)).toInt)) := j_ask fun l o hk => b_ordered hk (z_32 _) (z_32 _)
  obtain ⟨r, r', m1, m2, e1, e2, ee, hJ2⟩ := hop m hJ
  refine z_aload_n (M := q_ML nm) C (pc := 553) (n := 1) (x := 0) dL_law_553 rfl (by decide) ?_
  refine z_arg C hX hbl hb hL (pc := 554) (j := 1) (by omega) dL_law_554 dL_law_555 dL_law_556 dL_law_557 dL_law_558 ?_
  refine z_arg C hX hbl hb hL (pc := 559) (j := 2) (by omega) dL_law_559 dL_law_560 dL_law_561 dL_law_562 dL_law_563 ?_
  refine z_callV (M := q_ML nm) C (pc := 564) (M' := md_X10_ordered) (rm' := q_room 2) (mc' := 0) (ms' := 0) (n := 2) (k := 10) (av := [q_I ((xs (i + 1)).toInt), q_I ((xs (i + 2)).toInt)]) (r := 0) (v := some (q_I r)) (g' := q_g 126) (m' := m1) ml_12_64 im_X10_ordered se_X10_ordered dL_law_564 (ok_X10_ordered (by decide) e1) rfl (is_0 (by decide)) ⟨_, _, rfl⟩ (by decide) (Nat.le_of_ble_eq_true rfl) ⟨rfl, rfl, Nat.le_of_ble_eq_true rfl, Nat.le_of_ble_eq_true rfl, hcu, hsu⟩ ?_
  refine z_aload_n (M := q_ML nm) C (pc := 567) (n := 2) (x := 81) dL_law_567 rfl (by decide) ?_
  refine z_arg C hX hbl hb hL (pc := 568) (j := 1) (by omega) dL_law_568 dL_law_569 dL_law_570 dL_law_571 dL_law_572 ?_
  refine z_arg C hX hbl hb hL (pc := 573) (j := 2) (by omega) dL_law_573 dL_law_574 dL_law_575 dL_law_576 dL_law_577 ?_
  refine z_callV (M := q_ML nm) C (pc := 578) (M' := md_X11_ordered) (rm' := q_room 6) (mc' := 0) (ms' := 0) (n := 2) (k := 11) (av := [q_I ((xs (i + 1)).toInt), q_I ((xs (i + 2)).toInt)]) (r := 81) (v := some (q_I r')) (g' := q_g 126) (m' := m2) ml_12_67 im_X11_ordered se_X11_ordered dL_law_578 (ok_X11_ordered (by decide) e2) rfl (is_81 (by decide)) ⟨_, _, rfl⟩ (by decide) (Nat.le_of_ble_eq_true rfl) ⟨rfl, rfl, Nat.le_of_ble_eq_true rfl, Nat.le_of_ble_eq_true rfl, hcu, hsu⟩ ?_
  exact z_icmp_eq (M := q_ML nm) C (pc := 581) (tgt := 1574) dL_law_581 (by decide) (fun _ => kk m2 hJ2) (fun h => absurd ee h)
theorem lc_12 (C : q_Cx (q_ML nm) p s mi args meth c D cs b ad adV) (hX : va_X (ad 29) L xs s s.heap) (hbl : ad 29 < s.heap.size) (hb : b = s.heap.size) (hL : L ≤ 3072) (hcu : cu ≤ 600000) (hsu : su ≤ 7302250) (hi : i + 6 ≤ L) (hJ : j_J m) (kk : ∀ m', j_J m' → q_K p l e s mi args below meth c D cs b ad 4 room_1 Q cu su (q_g 126) m' 1574 [q_S 29, q_A 0, q_A 81, q_I i] []) : q_K p l e s mi args below meth c D cs b ad 4 room_1 Q cu su (q_g 126) m 586 [q_S 29, q_A 0, q_A 81, q_I i] [] := by
  have hop : j_op (f_PG_depth ((xs (i + 1)).toInt) ((xs (i + 2)).toInt)) (f_Mod_depth ((xs (i + 1)).toInt) ((xs (i + 2)).toInt)) := j_ask fun l o hk => b_depth hk (z_32 _) (z_32 _)
  obtain ⟨r, r', m1, m2, e1, e2, ee, hJ2⟩ := hop m hJ
  refine z_aload_n (M := q_ML nm) C (pc := 586) (n := 1) (x := 0) dL_law_586 rfl (by decide) ?_
  refine z_arg C hX hbl hb hL (pc := 587) (j := 1) (by omega) dL_law_587 dL_law_588 dL_law_589 dL_law_590 dL_law_591 ?_
  refine z_arg C hX hbl hb hL (pc := 592) (j := 2) (by omega) dL_law_592 dL_law_593 dL_law_594 dL_law_595 dL_law_596 ?_
  refine z_callV (M := q_ML nm) C (pc := 597) (M' := md_X10_depth) (rm' := q_room 2) (mc' := 0) (ms' := 0) (n := 2) (k := 10) (av := [q_I ((xs (i + 1)).toInt), q_I ((xs (i + 2)).toInt)]) (r := 0) (v := some (q_I r)) (g' := q_g 126) (m' := m1) ml_12_68 im_X10_depth se_X10_depth dL_law_597 (ok_X10_depth (by decide) e1) rfl (is_0 (by decide)) ⟨_, _, rfl⟩ (by decide) (Nat.le_of_ble_eq_true rfl) ⟨rfl, rfl, Nat.le_of_ble_eq_true rfl, Nat.le_of_ble_eq_true rfl, hcu, hsu⟩ ?_
  refine z_aload_n (M := q_ML nm) C (pc := 600) (n := 2) (x := 81) dL_law_600 rfl (by decide) ?_
  refine z_arg C hX hbl hb hL (pc := 601) (j := 1) (by omega) dL_law_601 dL_law_602 dL_law_603 dL_law_604 dL_law_605 ?_
  refine z_arg C hX hbl hb hL (pc := 606) (j := 2) (by omega) dL_law_606 dL_law_607 dL_law_608 dL_law_609 dL_law_610 ?_
  refine z_callV (M := q_ML nm) C (pc := 611) (M' := md_X11_depth) (rm' := q_room 6) (mc' := 0) (ms' := 0) (n := 2) (k := 11) (av := [q_I ((xs (i + 1)).toInt), q_I ((xs (i + 2)).toInt)]) (r := 81) (v := some (q_I r')) (g' := q_g 126) (m' := m2) ml_12_71 im_X11_depth se_X11_depth dL_law_611 (ok_X11_depth (by decide) e2) rfl (is_81 (by decide)) ⟨_, _, rfl⟩ (by decide) (Nat.le_of_ble_eq_true rfl) ⟨rfl, rfl, Nat.le_of_ble_eq_true rfl, Nat.le_of_ble_eq_true rfl, hcu, hsu⟩ ?_
  exact z_icmp_eq (M := q_ML nm) C (pc := 614) (tgt := 1574) dL_law_614 (by decide) (fun _ => kk m2 hJ2) (fun h => absurd ee h)
theorem lc_13 (C : q_Cx (q_ML nm) p s mi args meth c D cs b ad adV) (hX : va_X (ad 29) L xs s s.heap) (hbl : ad 29 < s.heap.size) (hb : b = s.heap.size) (hL : L ≤ 3072) (hcu : cu ≤ 600000) (hsu : su ≤ 7302250) (hi : i + 6 ≤ L) (hJ : j_J m) (kk : ∀ m', j_J m' → q_K p l e s mi args below meth c D cs b ad 4 room_1 Q cu su (q_g 126) m' 1574 [q_S 29, q_A 0, q_A 81, q_I i] []) : q_K p l e s mi args below meth c D cs b ad 4 room_1 Q cu su (q_g 126) m 619 [q_S 29, q_A 0, q_A 81, q_I i] [] := by
  have hop : j_op (f_PG_run ((xs (i + 1)).toInt) ((xs (i + 2)).toInt) ((xs (i + 3)).toInt)) (f_Mod_run ((xs (i + 1)).toInt) ((xs (i + 2)).toInt) ((xs (i + 3)).toInt)) := j_ask fun l o hk => b_run hk (z_32 _) (z_32 _) (z_32 _)
  obtain ⟨r, r', m1, m2, e1, e2, ee, hJ2⟩ := hop m hJ
  refine z_aload_n (M := q_ML nm) C (pc := 619) (n := 1) (x := 0) dL_law_619 rfl (by decide) ?_
  refine z_arg C hX hbl hb hL (pc := 620) (j := 1) (by omega) dL_law_620 dL_law_621 dL_law_622 dL_law_623 dL_law_624 ?_
  refine z_arg C hX hbl hb hL (pc := 625) (j := 2) (by omega) dL_law_625 dL_law_626 dL_law_627 dL_law_628 dL_law_629 ?_
  refine z_arg C hX hbl hb hL (pc := 630) (j := 3) (by omega) dL_law_630 dL_law_631 dL_law_632 dL_law_633 dL_law_634 ?_
  refine z_callV (M := q_ML nm) C (pc := 635) (M' := md_X10_run) (rm' := q_room 7) (mc' := 0) (ms' := 0) (n := 3) (k := 10) (av := [q_I ((xs (i + 1)).toInt), q_I ((xs (i + 2)).toInt), q_I ((xs (i + 3)).toInt)]) (r := 0) (v := some (q_I r)) (g' := q_g 126) (m' := m1) ml_12_72 im_X10_run se_X10_run dL_law_635 (ok_X10_run (by decide) e1) rfl (is_0 (by decide)) ⟨_, _, rfl⟩ (by decide) (Nat.le_of_ble_eq_true rfl) ⟨rfl, rfl, Nat.le_of_ble_eq_true rfl, Nat.le_of_ble_eq_true rfl, hcu, hsu⟩ ?_
  refine z_aload_n (M := q_ML nm) C (pc := 638) (n := 2) (x := 81) dL_law_638 rfl (by decide) ?_
  refine z_arg C hX hbl hb hL (pc := 639) (j := 1) (by omega) dL_law_639 dL_law_640 dL_law_641 dL_law_642 dL_law_643 ?_
  refine z_arg C hX hbl hb hL (pc := 644) (j := 2) (by omega) dL_law_644 dL_law_645 dL_law_646 dL_law_647 dL_law_648 ?_
  refine z_arg C hX hbl hb hL (pc := 649) (j := 3) (by omega) dL_law_649 dL_law_650 dL_law_651 dL_law_652 dL_law_653 ?_
  refine z_callV (M := q_ML nm) C (pc := 654) (M' := md_X11_run) (rm' := q_room 8) (mc' := 0) (ms' := 0) (n := 3) (k := 11) (av := [q_I ((xs (i + 1)).toInt), q_I ((xs (i + 2)).toInt), q_I ((xs (i + 3)).toInt)]) (r := 81) (v := some (q_I r')) (g' := q_g 126) (m' := m2) ml_12_75 im_X11_run se_X11_run dL_law_654 (ok_X11_run (by decide) e2) rfl (is_81 (by decide)) ⟨_, _, rfl⟩ (by decide) (Nat.le_of_ble_eq_true rfl) ⟨rfl, rfl, Nat.le_of_ble_eq_true rfl, Nat.le_of_ble_eq_true rfl, hcu, hsu⟩ ?_
  exact z_icmp_eq (M := q_ML nm) C (pc := 657) (tgt := 1574) dL_law_657 (by decide) (fun _ => kk m2 hJ2) (fun h => absurd ee h)
theorem lc_14 (C : q_Cx (q_ML nm) p s mi args meth c D cs b ad adV) (hX : va_X (ad 29) L xs s s.heap) (hbl : ad 29 < s.heap.size) (hb : b = s.heap.size) (hL : L ≤ 3072) (hcu : cu ≤ 600000) (hsu : su ≤ 7302250) (hi : i + 6 ≤ L) (hJ : j_J m) (kk : ∀ m', j_J m' → q_K p l e s mi args below meth c D cs b ad 4 room_1 Q cu su (q_g 126) m' 1574 [q_S 29, q_A 0, q_A 81, q_I i] []) : q_K p l e s mi args below meth c D cs b ad 4 room_1 Q cu su (q_g 126) m 662 [q_S 29, q_A 0, q_A 81, q_I i] [] := by
  have hop : j_op f_PG_wrong f_Mod_wrong := j_ask fun l o hk => b_wrong hk 
  obtain ⟨r, r', m1, m2, e1, e2, ee, hJ2⟩ := hop m hJ
  refine z_aload_n (M := q_ML nm) C (pc := 662) (n := 1) (x := 0) dL_law_662 rfl (by decide) ?_
  refine z_callV (M := q_ML nm) C (pc := 663) (M' := md_X10_wrong) (rm' := q_room 7) (mc' := 0) (ms' := 0) (n := 0) (k := 10) (av := []) (r := 0) (v := some (q_I r)) (g' := q_g 126) (m' := m1) ml_12_76 im_X10_wrong se_X10_wrong dL_law_663 (ok_X10_wrong (by decide) e1) rfl (is_0 (by decide)) ⟨_, _, rfl⟩ (by decide) (Nat.le_of_ble_eq_true rfl) ⟨rfl, rfl, Nat.le_of_ble_eq_true rfl, Nat.le_of_ble_eq_true rfl, hcu, hsu⟩ ?_
  refine z_aload_n (M := q_ML nm) C (pc := 666) (n := 2) (x := 81) dL_law_666 rfl (by decide) ?_
  refine z_callV (M := q_ML nm) C (pc := 667) (M' := md_X11_wrong) (rm' := q_room 9) (mc' := 0) (ms' := 0) (n := 0) (k := 11) (av := []) (r := 81) (v := some (q_I r')) (g' := q_g 126) (m' := m2) ml_12_79 im_X11_wrong se_X11_wrong dL_law_667 (ok_X11_wrong (by decide) e2) rfl (is_81 (by decide)) ⟨_, _, rfl⟩ (by decide) (Nat.le_of_ble_eq_true rfl) ⟨rfl, rfl, Nat.le_of_ble_eq_true rfl, Nat.le_of_ble_eq_true rfl, hcu, hsu⟩ ?_
  exact z_icmp_eq (M := q_ML nm) C (pc := 670) (tgt := 1574) dL_law_670 (by decide) (fun _ => kk m2 hJ2) (fun h => absurd ee h)
theorem lc_15 (C : q_Cx (q_ML nm) p s mi args meth c D cs b ad adV) (hX : va_X (ad 29) L xs s s.heap) (hbl : ad 29 < s.heap.size) (hb : b = s.heap.size) (hL : L ≤ 3072) (hcu : cu ≤ 600000) (hsu : su ≤ 7302250) (hi : i + 6 ≤ L) (hJ : j_J m) (kk : ∀ m', j_J m' → q_K p l e s mi args below meth c D cs b ad 4 room_1 Q cu su (q_g 126) m' 1574 [q_S 29, q_A 0, q_A 81, q_I i] []) : q_K p l e s mi args below meth c D cs b ad 4 room_1 Q cu su (q_g 126) m 675 [q_S 29, q_A 0, q_A 81, q_I i] [] := by
  have hop : j_op (f_PG_tick ((xs (i + 1)).toInt) ((xs (i + 2)).toInt)) (f_Mod_tick ((xs (i + 1)).toInt) ((xs (i + 2)).toInt)) := j_ask fun l o hk => b_tick hk (z_32 _) (z_32 _)
  obtain ⟨r, r', m1, m2, e1, e2, ee, hJ2⟩ := hop m hJ
  refine z_aload_n (M := q_ML nm) C (pc := 675) (n := 1) (x := 0) dL_law_675 rfl (by decide) ?_
  refine z_arg C hX hbl hb hL (pc := 676) (j := 1) (by omega) dL_law_676 dL_law_677 dL_law_678 dL_law_679 dL_law_680 ?_
  refine z_arg C hX hbl hb hL (pc := 681) (j := 2) (by omega) dL_law_681 dL_law_682 dL_law_683 dL_law_684 dL_law_685 ?_
  refine z_callV (M := q_ML nm) C (pc := 686) (M' := md_X10_tick) (rm' := q_room 2) (mc' := 0) (ms' := 0) (n := 2) (k := 10) (av := [q_I ((xs (i + 1)).toInt), q_I ((xs (i + 2)).toInt)]) (r := 0) (v := some (q_I r)) (g' := q_g 126) (m' := m1) ml_12_80 im_X10_tick se_X10_tick dL_law_686 (ok_X10_tick (by decide) e1) rfl (is_0 (by decide)) ⟨_, _, rfl⟩ (by decide) (Nat.le_of_ble_eq_true rfl) ⟨rfl, rfl, Nat.le_of_ble_eq_true rfl, Nat.le_of_ble_eq_true rfl, hcu, hsu⟩ ?_
  refine z_aload_n (M := q_ML nm) C (pc := 689) (n := 2) (x := 81) dL_law_689 rfl (by decide) ?_
  refine z_arg C hX hbl hb hL (pc := 690) (j := 1) (by omega) dL_law_690 dL_law_691 dL_law_692 dL_law_693 dL_law_694 ?_
  refine z_arg C hX hbl hb hL (pc := 695) (j := 2) (by omega) dL_law_695 dL_law_696 dL_law_697 dL_law_698 dL_law_699 ?_
  refine z_callV (M := q_ML nm) C (pc := 700) (M' := md_X11_tick) (rm' := q_room 7) (mc' := 0) (ms' := 0) (n := 2) (k := 11) (av := [q_I ((xs (i + 1)).toInt), q_I ((xs (i + 2)).toInt)]) (r := 81) (v := some (q_I r')) (g' := q_g 126) (m' := m2) ml_12_83 im_X11_tick se_X11_tick dL_law_700 (ok_X11_tick (by decide) e2) rfl (is_81 (by decide)) ⟨_, _, rfl⟩ (by decide) (Nat.le_of_ble_eq_true rfl) ⟨rfl, rfl, Nat.le_of_ble_eq_true rfl, Nat.le_of_ble_eq_true rfl, hcu, hsu⟩ ?_
  exact z_icmp_eq (M := q_ML nm) C (pc := 703) (tgt := 1574) dL_law_703 (by decide) (fun _ => kk m2 hJ2) (fun h => absurd ee h)
theorem lc_16 (C : q_Cx (q_ML nm) p s mi args meth c D cs b ad adV) (hX : va_X (ad 29) L xs s s.heap) (hbl : ad 29 < s.heap.size) (hb : b = s.heap.size) (hL : L ≤ 3072) (hcu : cu ≤ 600000) (hsu : su ≤ 7302250) (hi : i + 6 ≤ L) (hJ : j_J m) (kk : ∀ m', j_J m' → q_K p l e s mi args below meth c D cs b ad 4 room_1 Q cu su (q_g 126) m' 1574 [q_S 29, q_A 0, q_A 81, q_I i] []) : q_K p l e s mi args below meth c D cs b ad 4 room_1 Q cu su (q_g 126) m 708 [q_S 29, q_A 0, q_A 81, q_I i] [] := by
  have hop : j_op (f_PG_cell ((xs (i + 1)).toInt) ((xs (i + 2)).toInt)) (f_Mod_cell ((xs (i + 1)).toInt) ((xs (i + 2)).toInt)) := j_ask fun l o hk => b_cell hk (z_32 _) (z_32 _)
  obtain ⟨r, r', m1, m2, e1, e2, ee, hJ2⟩ := hop m hJ
  refine z_aload_n (M := q_ML nm) C (pc := 708) (n := 1) (x := 0) dL_law_708 rfl (by decide) ?_
  refine z_arg C hX hbl hb hL (pc := 709) (j := 1) (by omega) dL_law_709 dL_law_710 dL_law_711 dL_law_712 dL_law_713 ?_
  refine z_arg C hX hbl hb hL (pc := 714) (j := 2) (by omega) dL_law_714 dL_law_715 dL_law_716 dL_law_717 dL_law_718 ?_
  refine z_callV (M := q_ML nm) C (pc := 719) (M' := md_X10_cell) (rm' := q_room 2) (mc' := 0) (ms' := 0) (n := 2) (k := 10) (av := [q_I ((xs (i + 1)).toInt), q_I ((xs (i + 2)).toInt)]) (r := 0) (v := some (q_I r)) (g' := q_g 126) (m' := m1) ml_12_84 im_X10_cell se_X10_cell dL_law_719 (ok_X10_cell (by decide) e1) rfl (is_0 (by decide)) ⟨_, _, rfl⟩ (by decide) (Nat.le_of_ble_eq_true rfl) ⟨rfl, rfl, Nat.le_of_ble_eq_true rfl, Nat.le_of_ble_eq_true rfl, hcu, hsu⟩ ?_
  refine z_aload_n (M := q_ML nm) C (pc := 722) (n := 2) (x := 81) dL_law_722 rfl (by decide) ?_
  refine z_arg C hX hbl hb hL (pc := 723) (j := 1) (by omega) dL_law_723 dL_law_724 dL_law_725 dL_law_726 dL_law_727 ?_
  refine z_arg C hX hbl hb hL (pc := 728) (j := 2) (by omega) dL_law_728 dL_law_729 dL_law_730 dL_law_731 dL_law_732 ?_
  refine z_callV (M := q_ML nm) C (pc := 733) (M' := md_X11_cell) (rm' := q_room 7) (mc' := 0) (ms' := 0) (n := 2) (k := 11) (av := [q_I ((xs (i + 1)).toInt), q_I ((xs (i + 2)).toInt)]) (r := 81) (v := some (q_I r')) (g' := q_g 126) (m' := m2) ml_12_87 im_X11_cell se_X11_cell dL_law_733 (ok_X11_cell (by decide) e2) rfl (is_81 (by decide)) ⟨_, _, rfl⟩ (by decide) (Nat.le_of_ble_eq_true rfl) ⟨rfl, rfl, Nat.le_of_ble_eq_true rfl, Nat.le_of_ble_eq_true rfl, hcu, hsu⟩ ?_
  exact z_icmp_eq (M := q_ML nm) C (pc := 736) (tgt := 1574) dL_law_736 (by decide) (fun _ => kk m2 hJ2) (fun h => absurd ee h)
theorem lc_17 (C : q_Cx (q_ML nm) p s mi args meth c D cs b ad adV) (hX : va_X (ad 29) L xs s s.heap) (hbl : ad 29 < s.heap.size) (hb : b = s.heap.size) (hL : L ≤ 3072) (hcu : cu ≤ 600000) (hsu : su ≤ 7302250) (hi : i + 6 ≤ L) (hJ : j_J m) (kk : ∀ m', j_J m' → q_K p l e s mi args below meth c D cs b ad 4 room_1 Q cu su (q_g 126) m' 1574 [q_S 29, q_A 0, q_A 81, q_I i] []) : q_K p l e s mi args below meth c D cs b ad 4 room_1 Q cu su (q_g 126) m 741 [q_S 29, q_A 0, q_A 81, q_I i] [] := by
  have hop : j_op (f_PG_point ((xs (i + 1)).toInt) ((xs (i + 2)).toInt)) (f_Mod_point ((xs (i + 1)).toInt) ((xs (i + 2)).toInt)) := j_ask fun l o hk => b_point hk (z_32 _) (z_32 _)
  obtain ⟨r, r', m1, m2, e1, e2, ee, hJ2⟩ := hop m hJ
  refine z_aload_n (M := q_ML nm) C (pc := 741) (n := 1) (x := 0) dL_law_741 rfl (by decide) ?_
  refine z_arg C hX hbl hb hL (pc := 742) (j := 1) (by omega) dL_law_742 dL_law_743 dL_law_744 dL_law_745 dL_law_746 ?_
  refine z_arg C hX hbl hb hL (pc := 747) (j := 2) (by omega) dL_law_747 dL_law_748 dL_law_749 dL_law_750 dL_law_751 ?_
  refine z_callV (M := q_ML nm) C (pc := 752) (M' := md_X10_point) (rm' := q_room 2) (mc' := 0) (ms' := 0) (n := 2) (k := 10) (av := [q_I ((xs (i + 1)).toInt), q_I ((xs (i + 2)).toInt)]) (r := 0) (v := some (q_I r)) (g' := q_g 126) (m' := m1) ml_12_88 im_X10_point se_X10_point dL_law_752 (ok_X10_point (by decide) e1) rfl (is_0 (by decide)) ⟨_, _, rfl⟩ (by decide) (Nat.le_of_ble_eq_true rfl) ⟨rfl, rfl, Nat.le_of_ble_eq_true rfl, Nat.le_of_ble_eq_true rfl, hcu, hsu⟩ ?_
  refine z_aload_n (M := q_ML nm) C (pc := 755) (n := 2) (x := 81) dL_law_755 rfl (by decide) ?_
  refine z_arg C hX hbl hb hL (pc := 756) (j := 1) (by omega) dL_law_756 dL_law_757 dL_law_758 dL_law_759 dL_law_760 ?_
  refine z_arg C hX hbl hb hL (pc := 761) (j := 2) (by omega) dL_law_761 dL_law_762 dL_law_763 dL_law_764 dL_law_765 ?_
  refine z_callV (M := q_ML nm) C (pc := 766) (M' := md_X11_point) (rm' := q_room 7) (mc' := 0) (ms' := 0) (n := 2) (k := 11) (av := [q_I ((xs (i + 1)).toInt), q_I ((xs (i + 2)).toInt)]) (r := 81) (v := some (q_I r')) (g' := q_g 126) (m' := m2) ml_12_91 im_X11_point se_X11_point dL_law_766 (ok_X11_point (by decide) e2) rfl (is_81 (by decide)) ⟨_, _, rfl⟩ (by decide) (Nat.le_of_ble_eq_true rfl) ⟨rfl, rfl, Nat.le_of_ble_eq_true rfl, Nat.le_of_ble_eq_true rfl, hcu, hsu⟩ ?_
  exact z_icmp_eq (M := q_ML nm) C (pc := 769) (tgt := 1574) dL_law_769 (by decide) (fun _ => kk m2 hJ2) (fun h => absurd ee h)
theorem lc_18 (C : q_Cx (q_ML nm) p s mi args meth c D cs b ad adV) (hX : va_X (ad 29) L xs s s.heap) (hbl : ad 29 < s.heap.size) (hb : b = s.heap.size) (hL : L ≤ 3072) (hcu : cu ≤ 600000) (hsu : su ≤ 7302250) (hi : i + 6 ≤ L) (hJ : j_J m) (kk : ∀ m', j_J m' → q_K p l e s mi args below meth c D cs b ad 4 room_1 Q cu su (q_g 126) m' 1574 [q_S 29, q_A 0, q_A 81, q_I i] []) : q_K p l e s mi args below meth c D cs b ad 4 room_1 Q cu su (q_g 126) m 774 [q_S 29, q_A 0, q_A 81, q_I i] [] := by
  have hop : j_op (f_PG_wave ((xs (i + 1)).toInt)) (f_Mod_wave ((xs (i + 1)).toInt)) := j_ask fun l o hk => b_wave hk (z_32 _)
  obtain ⟨r, r', m1, m2, e1, e2, ee, hJ2⟩ := hop m hJ
  refine z_aload_n (M := q_ML nm) C (pc := 774) (n := 1) (x := 0) dL_law_774 rfl (by decide) ?_
  refine z_arg C hX hbl hb hL (pc := 775) (j := 1) (by omega) dL_law_775 dL_law_776 dL_law_777 dL_law_778 dL_law_779 ?_
  refine z_callV (M := q_ML nm) C (pc := 780) (M' := md_X10_wave) (rm' := q_room 1) (mc' := 0) (ms' := 0) (n := 1) (k := 10) (av := [q_I ((xs (i + 1)).toInt)]) (r := 0) (v := some (q_I r)) (g' := q_g 126) (m' := m1) ml_12_92 im_X10_wave se_X10_wave dL_law_780 (ok_X10_wave (by decide) e1) rfl (is_0 (by decide)) ⟨_, _, rfl⟩ (by decide) (Nat.le_of_ble_eq_true rfl) ⟨rfl, rfl, Nat.le_of_ble_eq_true rfl, Nat.le_of_ble_eq_true rfl, hcu, hsu⟩ ?_
  refine z_aload_n (M := q_ML nm) C (pc := 783) (n := 2) (x := 81) dL_law_783 rfl (by decide) ?_
  refine z_arg C hX hbl hb hL (pc := 784) (j := 1) (by omega) dL_law_784 dL_law_785 dL_law_786 dL_law_787 dL_law_788 ?_
  refine z_callV (M := q_ML nm) C (pc := 789) (M' := md_X11_wave) (rm' := q_room 7) (mc' := 0) (ms' := 0) (n := 1) (k := 11) (av := [q_I ((xs (i + 1)).toInt)]) (r := 81) (v := some (q_I r')) (g' := q_g 126) (m' := m2) ml_12_95 im_X11_wave se_X11_wave dL_law_789 (ok_X11_wave (by decide) e2) rfl (is_81 (by decide)) ⟨_, _, rfl⟩ (by decide) (Nat.le_of_ble_eq_true rfl) ⟨rfl, rfl, Nat.le_of_ble_eq_true rfl, Nat.le_of_ble_eq_true rfl, hcu, hsu⟩ ?_
  exact z_icmp_eq (M := q_ML nm) C (pc := 792) (tgt := 1574) dL_law_792 (by decide) (fun _ => kk m2 hJ2) (fun h => absurd ee h)
theorem lc_19 (C : q_Cx (q_ML nm) p s mi args meth c D cs b ad adV) (hX : va_X (ad 29) L xs s s.heap) (hbl : ad 29 < s.heap.size) (hb : b = s.heap.size) (hL : L ≤ 3072) (hcu : cu ≤ 600000) (hsu : su ≤ 7302250) (hi : i + 6 ≤ L) (hJ : j_J m) (kk : ∀ m', j_J m' → q_K p l e s mi args below meth c D cs b ad 4 room_1 Q cu su (q_g 126) m' 1574 [q_S 29, q_A 0, q_A 81, q_I i] []) : q_K p l e s mi args below meth c D cs b ad 4 room_1 Q cu su (q_g 126) m 797 [q_S 29, q_A 0, q_A 81, q_I i] [] := by
  have hop : j_op (f_PG_busy ((xs (i + 1)).toInt) ((xs (i + 2)).toInt)) (f_Mod_busy ((xs (i + 1)).toInt) ((xs (i + 2)).toInt)) := j_ask fun l o hk => b_busy hk (z_32 _) (z_32 _)
  obtain ⟨r, r', m1, m2, e1, e2, ee, hJ2⟩ := hop m hJ
  refine z_aload_n (M := q_ML nm) C (pc := 797) (n := 1) (x := 0) dL_law_797 rfl (by decide) ?_
  refine z_arg C hX hbl hb hL (pc := 798) (j := 1) (by omega) dL_law_798 dL_law_799 dL_law_800 dL_law_801 dL_law_802 ?_
  refine z_arg C hX hbl hb hL (pc := 803) (j := 2) (by omega) dL_law_803 dL_law_804 dL_law_805 dL_law_806 dL_law_807 ?_
  refine z_callV (M := q_ML nm) C (pc := 808) (M' := md_X10_busy) (rm' := q_room 8) (mc' := 0) (ms' := 0) (n := 2) (k := 10) (av := [q_I ((xs (i + 1)).toInt), q_I ((xs (i + 2)).toInt)]) (r := 0) (v := some (q_I r)) (g' := q_g 126) (m' := m1) ml_12_96 im_X10_busy se_X10_busy dL_law_808 (ok_X10_busy (by decide) e1) rfl (is_0 (by decide)) ⟨_, _, rfl⟩ (by decide) (Nat.le_of_ble_eq_true rfl) ⟨rfl, rfl, Nat.le_of_ble_eq_true rfl, Nat.le_of_ble_eq_true rfl, hcu, hsu⟩ ?_
  refine z_aload_n (M := q_ML nm) C (pc := 811) (n := 2) (x := 81) dL_law_811 rfl (by decide) ?_
  refine z_arg C hX hbl hb hL (pc := 812) (j := 1) (by omega) dL_law_812 dL_law_813 dL_law_814 dL_law_815 dL_law_816 ?_
  refine z_arg C hX hbl hb hL (pc := 817) (j := 2) (by omega) dL_law_817 dL_law_818 dL_law_819 dL_law_820 dL_law_821 ?_
  refine z_callV (M := q_ML nm) C (pc := 822) (M' := md_X11_busy) (rm' := q_room 10) (mc' := 0) (ms' := 0) (n := 2) (k := 11) (av := [q_I ((xs (i + 1)).toInt), q_I ((xs (i + 2)).toInt)]) (r := 81) (v := some (q_I r')) (g' := q_g 126) (m' := m2) ml_12_99 im_X11_busy se_X11_busy dL_law_822 (ok_X11_busy (by decide) e2) rfl (is_81 (by decide)) ⟨_, _, rfl⟩ (by decide) (Nat.le_of_ble_eq_true rfl) ⟨rfl, rfl, Nat.le_of_ble_eq_true rfl, Nat.le_of_ble_eq_true rfl, hcu, hsu⟩ ?_
  exact z_icmp_eq (M := q_ML nm) C (pc := 825) (tgt := 1574) dL_law_825 (by decide) (fun _ => kk m2 hJ2) (fun h => absurd ee h)
theorem lc_20 (C : q_Cx (q_ML nm) p s mi args meth c D cs b ad adV) (hX : va_X (ad 29) L xs s s.heap) (hbl : ad 29 < s.heap.size) (hb : b = s.heap.size) (hL : L ≤ 3072) (hcu : cu ≤ 600000) (hsu : su ≤ 7302250) (hi : i + 6 ≤ L) (hJ : j_J m) (kk : ∀ m', j_J m' → q_K p l e s mi args below meth c D cs b ad 4 room_1 Q cu su (q_g 126) m' 1574 [q_S 29, q_A 0, q_A 81, q_I i] []) : q_K p l e s mi args below meth c D cs b ad 4 room_1 Q cu su (q_g 126) m 830 [q_S 29, q_A 0, q_A 81, q_I i] [] := by
  have hop : j_op (f_PG_plan ((xs (i + 1)).toInt)) (f_Mod_plan ((xs (i + 1)).toInt)) := j_ask fun l o hk => b_plan hk (z_32 _)
  obtain ⟨r, r', m1, m2, e1, e2, ee, hJ2⟩ := hop m hJ
  refine z_aload_n (M := q_ML nm) C (pc := 830) (n := 1) (x := 0) dL_law_830 rfl (by decide) ?_
  refine z_arg C hX hbl hb hL (pc := 831) (j := 1) (by omega) dL_law_831 dL_law_832 dL_law_833 dL_law_834 dL_law_835 ?_
  refine z_callV (M := q_ML nm) C (pc := 836) (M' := md_X10_plan) (rm' := q_room 3) (mc' := 0) (ms' := 0) (n := 1) (k := 10) (av := [q_I ((xs (i + 1)).toInt)]) (r := 0) (v := some (q_I r)) (g' := q_g 126) (m' := m1) ml_12_100 im_X10_plan se_X10_plan dL_law_836 (ok_X10_plan (by decide) e1) rfl (is_0 (by decide)) ⟨_, _, rfl⟩ (by decide) (Nat.le_of_ble_eq_true rfl) ⟨rfl, rfl, Nat.le_of_ble_eq_true rfl, Nat.le_of_ble_eq_true rfl, hcu, hsu⟩ ?_
  refine z_aload_n (M := q_ML nm) C (pc := 839) (n := 2) (x := 81) dL_law_839 rfl (by decide) ?_
  refine z_arg C hX hbl hb hL (pc := 840) (j := 1) (by omega) dL_law_840 dL_law_841 dL_law_842 dL_law_843 dL_law_844 ?_
  refine z_callV (M := q_ML nm) C (pc := 845) (M' := md_X11_plan) (rm' := q_room 7) (mc' := 0) (ms' := 0) (n := 1) (k := 11) (av := [q_I ((xs (i + 1)).toInt)]) (r := 81) (v := some (q_I r')) (g' := q_g 126) (m' := m2) ml_12_103 im_X11_plan se_X11_plan dL_law_845 (ok_X11_plan (by decide) e2) rfl (is_81 (by decide)) ⟨_, _, rfl⟩ (by decide) (Nat.le_of_ble_eq_true rfl) ⟨rfl, rfl, Nat.le_of_ble_eq_true rfl, Nat.le_of_ble_eq_true rfl, hcu, hsu⟩ ?_
  exact z_icmp_eq (M := q_ML nm) C (pc := 848) (tgt := 1574) dL_law_848 (by decide) (fun _ => kk m2 hJ2) (fun h => absurd ee h)
theorem lc_21 (C : q_Cx (q_ML nm) p s mi args meth c D cs b ad adV) (hX : va_X (ad 29) L xs s s.heap) (hbl : ad 29 < s.heap.size) (hb : b = s.heap.size) (hL : L ≤ 3072) (hcu : cu ≤ 600000) (hsu : su ≤ 7302250) (hi : i + 6 ≤ L) (hJ : j_J m) (kk : ∀ m', j_J m' → q_K p l e s mi args below meth c D cs b ad 4 room_1 Q cu su (q_g 126) m' 1574 [q_S 29, q_A 0, q_A 81, q_I i] []) : q_K p l e s mi args below meth c D cs b ad 4 room_1 Q cu su (q_g 126) m 853 [q_S 29, q_A 0, q_A 81, q_I i] [] := by
  have hop : j_op (f_PG_offset ((xs (i + 1)).toInt) ((xs (i + 2)).toInt)) (f_Mod_offset ((xs (i + 1)).toInt) ((xs (i + 2)).toInt)) := j_ask fun l o hk => b_offset hk (z_32 _) (z_32 _)
  obtain ⟨r, r', m1, m2, e1, e2, ee, hJ2⟩ := hop m hJ
  refine z_aload_n (M := q_ML nm) C (pc := 853) (n := 1) (x := 0) dL_law_853 rfl (by decide) ?_
  refine z_arg C hX hbl hb hL (pc := 854) (j := 1) (by omega) dL_law_854 dL_law_855 dL_law_856 dL_law_857 dL_law_858 ?_
  refine z_arg C hX hbl hb hL (pc := 859) (j := 2) (by omega) dL_law_859 dL_law_860 dL_law_861 dL_law_862 dL_law_863 ?_
  refine z_callV (M := q_ML nm) C (pc := 864) (M' := md_X10_offset) (rm' := q_room 2) (mc' := 0) (ms' := 0) (n := 2) (k := 10) (av := [q_I ((xs (i + 1)).toInt), q_I ((xs (i + 2)).toInt)]) (r := 0) (v := some (q_I r)) (g' := q_g 126) (m' := m1) ml_12_104 im_X10_offset se_X10_offset dL_law_864 (ok_X10_offset (by decide) e1) rfl (is_0 (by decide)) ⟨_, _, rfl⟩ (by decide) (Nat.le_of_ble_eq_true rfl) ⟨rfl, rfl, Nat.le_of_ble_eq_true rfl, Nat.le_of_ble_eq_true rfl, hcu, hsu⟩ ?_
  refine z_aload_n (M := q_ML nm) C (pc := 867) (n := 2) (x := 81) dL_law_867 rfl (by decide) ?_
  refine z_arg C hX hbl hb hL (pc := 868) (j := 1) (by omega) dL_law_868 dL_law_869 dL_law_870 dL_law_871 dL_law_872 ?_
  refine z_arg C hX hbl hb hL (pc := 873) (j := 2) (by omega) dL_law_873 dL_law_874 dL_law_875 dL_law_876 dL_law_877 ?_
  refine z_callV (M := q_ML nm) C (pc := 878) (M' := md_X11_offset) (rm' := q_room 5) (mc' := 0) (ms' := 0) (n := 2) (k := 11) (av := [q_I ((xs (i + 1)).toInt), q_I ((xs (i + 2)).toInt)]) (r := 81) (v := some (q_I r')) (g' := q_g 126) (m' := m2) ml_12_107 im_X11_offset se_X11_offset dL_law_878 (ok_X11_offset (by decide) e2) rfl (is_81 (by decide)) ⟨_, _, rfl⟩ (by decide) (Nat.le_of_ble_eq_true rfl) ⟨rfl, rfl, Nat.le_of_ble_eq_true rfl, Nat.le_of_ble_eq_true rfl, hcu, hsu⟩ ?_
  exact z_icmp_eq (M := q_ML nm) C (pc := 881) (tgt := 1574) dL_law_881 (by decide) (fun _ => kk m2 hJ2) (fun h => absurd ee h)
theorem lc_22 (C : q_Cx (q_ML nm) p s mi args meth c D cs b ad adV) (hX : va_X (ad 29) L xs s s.heap) (hbl : ad 29 < s.heap.size) (hb : b = s.heap.size) (hL : L ≤ 3072) (hcu : cu ≤ 600000) (hsu : su ≤ 7302250) (hi : i + 6 ≤ L) (hJ : j_J m) (kk : ∀ m', j_J m' → q_K p l e s mi args below meth c D cs b ad 4 room_1 Q cu su (q_g 126) m' 1574 [q_S 29, q_A 0, q_A 81, q_I i] []) : q_K p l e s mi args below meth c D cs b ad 4 room_1 Q cu su (q_g 126) m 886 [q_S 29, q_A 0, q_A 81, q_I i] [] := by
  have hop : j_op (f_PG_flow ((xs (i + 1)).toInt) ((xs (i + 2)).toInt)) (f_Mod_flow ((xs (i + 1)).toInt) ((xs (i + 2)).toInt)) := j_ask fun l o hk => b_flow hk (z_32 _) (z_32 _)
  obtain ⟨r, r', m1, m2, e1, e2, ee, hJ2⟩ := hop m hJ
  refine z_aload_n (M := q_ML nm) C (pc := 886) (n := 1) (x := 0) dL_law_886 rfl (by decide) ?_
  refine z_arg C hX hbl hb hL (pc := 887) (j := 1) (by omega) dL_law_887 dL_law_888 dL_law_889 dL_law_890 dL_law_891 ?_
  refine z_arg C hX hbl hb hL (pc := 892) (j := 2) (by omega) dL_law_892 dL_law_893 dL_law_894 dL_law_895 dL_law_896 ?_
  refine z_callV (M := q_ML nm) C (pc := 897) (M' := md_X10_flow) (rm' := q_room 4) (mc' := 0) (ms' := 0) (n := 2) (k := 10) (av := [q_I ((xs (i + 1)).toInt), q_I ((xs (i + 2)).toInt)]) (r := 0) (v := some (q_I r)) (g' := q_g 126) (m' := m1) ml_12_108 im_X10_flow se_X10_flow dL_law_897 (ok_X10_flow (by decide) e1) rfl (is_0 (by decide)) ⟨_, _, rfl⟩ (by decide) (Nat.le_of_ble_eq_true rfl) ⟨rfl, rfl, Nat.le_of_ble_eq_true rfl, Nat.le_of_ble_eq_true rfl, hcu, hsu⟩ ?_
  refine z_aload_n (M := q_ML nm) C (pc := 900) (n := 2) (x := 81) dL_law_900 rfl (by decide) ?_
  refine z_arg C hX hbl hb hL (pc := 901) (j := 1) (by omega) dL_law_901 dL_law_902 dL_law_903 dL_law_904 dL_law_905 ?_
  refine z_arg C hX hbl hb hL (pc := 906) (j := 2) (by omega) dL_law_906 dL_law_907 dL_law_908 dL_law_909 dL_law_910 ?_
  refine z_callV (M := q_ML nm) C (pc := 911) (M' := md_X11_flow) (rm' := q_room 7) (mc' := 0) (ms' := 0) (n := 2) (k := 11) (av := [q_I ((xs (i + 1)).toInt), q_I ((xs (i + 2)).toInt)]) (r := 81) (v := some (q_I r')) (g' := q_g 126) (m' := m2) ml_12_111 im_X11_flow se_X11_flow dL_law_911 (ok_X11_flow (by decide) e2) rfl (is_81 (by decide)) ⟨_, _, rfl⟩ (by decide) (Nat.le_of_ble_eq_true rfl) ⟨rfl, rfl, Nat.le_of_ble_eq_true rfl, Nat.le_of_ble_eq_true rfl, hcu, hsu⟩ ?_
  exact z_icmp_eq (M := q_ML nm) C (pc := 914) (tgt := 1574) dL_law_914 (by decide) (fun _ => kk m2 hJ2) (fun h => absurd ee h)
theorem lc_23 (C : q_Cx (q_ML nm) p s mi args meth c D cs b ad adV) (hX : va_X (ad 29) L xs s s.heap) (hbl : ad 29 < s.heap.size) (hb : b = s.heap.size) (hL : L ≤ 3072) (hcu : cu ≤ 600000) (hsu : su ≤ 7302250) (hi : i + 6 ≤ L) (hJ : j_J m) (kk : ∀ m', j_J m' → q_K p l e s mi args below meth c D cs b ad 4 room_1 Q cu su (q_g 126) m' 1574 [q_S 29, q_A 0, q_A 81, q_I i] []) : q_K p l e s mi args below meth c D cs b ad 4 room_1 Q cu su (q_g 126) m 919 [q_S 29, q_A 0, q_A 81, q_I i] [] := by
  have hop : j_op (f_PG_best ((xs (i + 1)).toInt) ((xs (i + 2)).toInt)) (f_Mod_best ((xs (i + 1)).toInt) ((xs (i + 2)).toInt)) := j_ask fun l o hk => b_best hk (z_32 _) (z_32 _)
  obtain ⟨r, r', m1, m2, e1, e2, ee, hJ2⟩ := hop m hJ
  refine z_aload_n (M := q_ML nm) C (pc := 919) (n := 1) (x := 0) dL_law_919 rfl (by decide) ?_
  refine z_arg C hX hbl hb hL (pc := 920) (j := 1) (by omega) dL_law_920 dL_law_921 dL_law_922 dL_law_923 dL_law_924 ?_
  refine z_arg C hX hbl hb hL (pc := 925) (j := 2) (by omega) dL_law_925 dL_law_926 dL_law_927 dL_law_928 dL_law_929 ?_
  refine z_callV (M := q_ML nm) C (pc := 930) (M' := md_X10_best) (rm' := q_room 4) (mc' := 0) (ms' := 0) (n := 2) (k := 10) (av := [q_I ((xs (i + 1)).toInt), q_I ((xs (i + 2)).toInt)]) (r := 0) (v := some (q_I r)) (g' := q_g 126) (m' := m1) ml_12_112 im_X10_best se_X10_best dL_law_930 (ok_X10_best (by decide) e1) rfl (is_0 (by decide)) ⟨_, _, rfl⟩ (by decide) (Nat.le_of_ble_eq_true rfl) ⟨rfl, rfl, Nat.le_of_ble_eq_true rfl, Nat.le_of_ble_eq_true rfl, hcu, hsu⟩ ?_
  refine z_aload_n (M := q_ML nm) C (pc := 933) (n := 2) (x := 81) dL_law_933 rfl (by decide) ?_
  refine z_arg C hX hbl hb hL (pc := 934) (j := 1) (by omega) dL_law_934 dL_law_935 dL_law_936 dL_law_937 dL_law_938 ?_
  refine z_arg C hX hbl hb hL (pc := 939) (j := 2) (by omega) dL_law_939 dL_law_940 dL_law_941 dL_law_942 dL_law_943 ?_
  refine z_callV (M := q_ML nm) C (pc := 944) (M' := md_X11_best) (rm' := q_room 6) (mc' := 0) (ms' := 0) (n := 2) (k := 11) (av := [q_I ((xs (i + 1)).toInt), q_I ((xs (i + 2)).toInt)]) (r := 81) (v := some (q_I r')) (g' := q_g 126) (m' := m2) ml_12_115 im_X11_best se_X11_best dL_law_944 (ok_X11_best (by decide) e2) rfl (is_81 (by decide)) ⟨_, _, rfl⟩ (by decide) (Nat.le_of_ble_eq_true rfl) ⟨rfl, rfl, Nat.le_of_ble_eq_true rfl, Nat.le_of_ble_eq_true rfl, hcu, hsu⟩ ?_
  exact z_icmp_eq (M := q_ML nm) C (pc := 947) (tgt := 1574) dL_law_947 (by decide) (fun _ => kk m2 hJ2) (fun h => absurd ee h)
theorem lc_24 (C : q_Cx (q_ML nm) p s mi args meth c D cs b ad adV) (hX : va_X (ad 29) L xs s s.heap) (hbl : ad 29 < s.heap.size) (hb : b = s.heap.size) (hL : L ≤ 3072) (hcu : cu ≤ 600000) (hsu : su ≤ 7302250) (hi : i + 6 ≤ L) (hJ : j_J m) (kk : ∀ m', j_J m' → q_K p l e s mi args below meth c D cs b ad 4 room_1 Q cu su (q_g 126) m' 1574 [q_S 29, q_A 0, q_A 81, q_I i] []) : q_K p l e s mi args below meth c D cs b ad 4 room_1 Q cu su (q_g 126) m 952 [q_S 29, q_A 0, q_A 81, q_I i] [] := by
  have hop : j_op (f_PG_line ((xs (i + 1)).toInt)) (f_Mod_line ((xs (i + 1)).toInt)) := j_ask fun l o hk => b_line hk (z_32 _)
  obtain ⟨r, r', m1, m2, e1, e2, ee, hJ2⟩ := hop m hJ
  refine z_aload_n (M := q_ML nm) C (pc := 952) (n := 1) (x := 0) dL_law_952 rfl (by decide) ?_
  refine z_arg C hX hbl hb hL (pc := 953) (j := 1) (by omega) dL_law_953 dL_law_954 dL_law_955 dL_law_956 dL_law_957 ?_
  refine z_callV (M := q_ML nm) C (pc := 958) (M' := md_X10_line) (rm' := q_room 4) (mc' := 0) (ms' := 0) (n := 1) (k := 10) (av := [q_I ((xs (i + 1)).toInt)]) (r := 0) (v := some (q_I r)) (g' := q_g 126) (m' := m1) ml_12_116 im_X10_line se_X10_line dL_law_958 (ok_X10_line (by decide) e1) rfl (is_0 (by decide)) ⟨_, _, rfl⟩ (by decide) (Nat.le_of_ble_eq_true rfl) ⟨rfl, rfl, Nat.le_of_ble_eq_true rfl, Nat.le_of_ble_eq_true rfl, hcu, hsu⟩ ?_
  refine z_aload_n (M := q_ML nm) C (pc := 961) (n := 2) (x := 81) dL_law_961 rfl (by decide) ?_
  refine z_arg C hX hbl hb hL (pc := 962) (j := 1) (by omega) dL_law_962 dL_law_963 dL_law_964 dL_law_965 dL_law_966 ?_
  refine z_callV (M := q_ML nm) C (pc := 967) (M' := md_X11_line) (rm' := q_room 6) (mc' := 0) (ms' := 0) (n := 1) (k := 11) (av := [q_I ((xs (i + 1)).toInt)]) (r := 81) (v := some (q_I r')) (g' := q_g 126) (m' := m2) ml_12_119 im_X11_line se_X11_line dL_law_967 (ok_X11_line (by decide) e2) rfl (is_81 (by decide)) ⟨_, _, rfl⟩ (by decide) (Nat.le_of_ble_eq_true rfl) ⟨rfl, rfl, Nat.le_of_ble_eq_true rfl, Nat.le_of_ble_eq_true rfl, hcu, hsu⟩ ?_
  exact z_icmp_eq (M := q_ML nm) C (pc := 970) (tgt := 1574) dL_law_970 (by decide) (fun _ => kk m2 hJ2) (fun h => absurd ee h)
theorem lc_25 (C : q_Cx (q_ML nm) p s mi args meth c D cs b ad adV) (hX : va_X (ad 29) L xs s s.heap) (hbl : ad 29 < s.heap.size) (hb : b = s.heap.size) (hL : L ≤ 3072) (hcu : cu ≤ 600000) (hsu : su ≤ 7302250) (hi : i + 6 ≤ L) (hJ : j_J m) (kk : ∀ m', j_J m' → q_K p l e s mi args below meth c D cs b ad 4 room_1 Q cu su (q_g 126) m' 1574 [q_S 29, q_A 0, q_A 81, q_I i] []) : q_K p l e s mi args below meth c D cs b ad 4 room_1 Q cu su (q_g 126) m 975 [q_S 29, q_A 0, q_A 81, q_I i] [] := by
  have hop : j_op (f_PG_pair ((xs (i + 1)).toInt) ((xs (i + 2)).toInt)) (f_Mod_pair ((xs (i + 1)).toInt) ((xs (i + 2)).toInt)) := j_ask fun l o hk => b_pair hk (z_32 _) (z_32 _)
  obtain ⟨r, r', m1, m2, e1, e2, ee, hJ2⟩ := hop m hJ
  refine z_aload_n (M := q_ML nm) C (pc := 975) (n := 1) (x := 0) dL_law_975 rfl (by decide) ?_
  refine z_arg C hX hbl hb hL (pc := 976) (j := 1) (by omega) dL_law_976 dL_law_977 dL_law_978 dL_law_979 dL_law_980 ?_
  refine z_arg C hX hbl hb hL (pc := 981) (j := 2) (by omega) dL_law_981 dL_law_982 dL_law_983 dL_law_984 dL_law_985 ?_
  refine z_callV (M := q_ML nm) C (pc := 986) (M' := md_X10_pair) (rm' := q_room 5) (mc' := 0) (ms' := 0) (n := 2) (k := 10) (av := [q_I ((xs (i + 1)).toInt), q_I ((xs (i + 2)).toInt)]) (r := 0) (v := some (q_I r)) (g' := q_g 126) (m' := m1) ml_12_120 im_X10_pair se_X10_pair dL_law_986 (ok_X10_pair (by decide) e1) rfl (is_0 (by decide)) ⟨_, _, rfl⟩ (by decide) (Nat.le_of_ble_eq_true rfl) ⟨rfl, rfl, Nat.le_of_ble_eq_true rfl, Nat.le_of_ble_eq_true rfl, hcu, hsu⟩ ?_
  refine z_aload_n (M := q_ML nm) C (pc := 989) (n := 2) (x := 81) dL_law_989 rfl (by decide) ?_
  refine z_arg C hX hbl hb hL (pc := 990) (j := 1) (by omega) dL_law_990 dL_law_991 dL_law_992 dL_law_993 dL_law_994 ?_
  refine z_arg C hX hbl hb hL (pc := 995) (j := 2) (by omega) dL_law_995 dL_law_996 dL_law_997 dL_law_998 dL_law_999 ?_
  refine z_callV (M := q_ML nm) C (pc := 1000) (M' := md_X11_pair) (rm' := q_room 7) (mc' := 0) (ms' := 0) (n := 2) (k := 11) (av := [q_I ((xs (i + 1)).toInt), q_I ((xs (i + 2)).toInt)]) (r := 81) (v := some (q_I r')) (g' := q_g 126) (m' := m2) ml_12_123 im_X11_pair se_X11_pair dL_law_1000 (ok_X11_pair (by decide) e2) rfl (is_81 (by decide)) ⟨_, _, rfl⟩ (by decide) (Nat.le_of_ble_eq_true rfl) ⟨rfl, rfl, Nat.le_of_ble_eq_true rfl, Nat.le_of_ble_eq_true rfl, hcu, hsu⟩ ?_
  exact z_icmp_eq (M := q_ML nm) C (pc := 1003) (tgt := 1574) dL_law_1003 (by decide) (fun _ => kk m2 hJ2) (fun h => absurd ee h)
theorem lc_26 (C : q_Cx (q_ML nm) p s mi args meth c D cs b ad adV) (hX : va_X (ad 29) L xs s s.heap) (hbl : ad 29 < s.heap.size) (hb : b = s.heap.size) (hL : L ≤ 3072) (hcu : cu ≤ 600000) (hsu : su ≤ 7302250) (hi : i + 6 ≤ L) (hJ : j_J m) (kk : ∀ m', j_J m' → q_K p l e s mi args below meth c D cs b ad 4 room_1 Q cu su (q_g 126) m' 1574 [q_S 29, q_A 0, q_A 81, q_I i] []) : q_K p l e s mi args below meth c D cs b ad 4 room_1 Q cu su (q_g 126) m 1008 [q_S 29, q_A 0, q_A 81, q_I i] [] := by
  by_cases hz : q_w (xs (i + 2)).toInt = 0
  · have hop : j_op (f_PG_beats ((xs (i + 1)).toInt) 0) (f_Mod_beats ((xs (i + 1)).toInt) 0) := j_ask fun l o hk => b_beats hk (z_32 _)
    obtain ⟨r, r', m1, m2, e1, e2, ee, hJ2⟩ := hop m hJ
    refine z_aload_n (M := q_ML nm) C (pc := 1008) (n := 1) (x := 0) dL_law_1008 rfl (by decide) ?_
    refine z_arg C hX hbl hb hL (pc := 1009) (j := 1) (by omega) dL_law_1009 dL_law_1010 dL_law_1011 dL_law_1012 dL_law_1013 ?_
    refine z_arg C hX hbl hb hL (pc := 1014) (j := 2) (by omega) dL_law_1014 dL_law_1015 dL_law_1016 dL_law_1017 dL_law_1018 ?_
    refine z_if_eq (M := q_ML nm) C (pc := 1019) (tgt := 1026) dL_law_1019 (by decide) (fun _ => ?_) (fun h => absurd hz h)
    refine z_iconst (M := q_ML nm) C (pc := 1026) dL_law_1026 ?_
    refine z_callV (M := q_ML nm) C (pc := 1027) (M' := md_X10_beats) (rm' := q_room 3) (mc' := 0) (ms' := 0) (n := 2) (k := 10) (av := [q_I ((xs (i + 1)).toInt), q_I 0]) (r := 0) (v := some (q_I r)) (g' := q_g 126) (m' := m1) ml_12_124 im_X10_beats se_X10_beats dL_law_1027 (ok_X10_beats (by decide) e1) rfl (is_0 (by decide)) ⟨_, _, rfl⟩ (by decide) (Nat.le_of_ble_eq_true rfl) ⟨rfl, rfl, Nat.le_of_ble_eq_true rfl, Nat.le_of_ble_eq_true rfl, hcu, hsu⟩ ?_
    refine z_aload_n (M := q_ML nm) C (pc := 1030) (n := 2) (x := 81) dL_law_1030 rfl (by decide) ?_
    refine z_arg C hX hbl hb hL (pc := 1031) (j := 1) (by omega) dL_law_1031 dL_law_1032 dL_law_1033 dL_law_1034 dL_law_1035 ?_
    refine z_arg C hX hbl hb hL (pc := 1036) (j := 2) (by omega) dL_law_1036 dL_law_1037 dL_law_1038 dL_law_1039 dL_law_1040 ?_
    refine z_if_eq (M := q_ML nm) C (pc := 1041) (tgt := 1048) dL_law_1041 (by decide) (fun _ => ?_) (fun h => absurd hz h)
    refine z_iconst (M := q_ML nm) C (pc := 1048) dL_law_1048 ?_
    refine z_callV (M := q_ML nm) C (pc := 1049) (M' := md_X11_beats) (rm' := q_room 8) (mc' := 0) (ms' := 0) (n := 2) (k := 11) (av := [q_I ((xs (i + 1)).toInt), q_I 0]) (r := 81) (v := some (q_I r')) (g' := q_g 126) (m' := m2) ml_12_127 im_X11_beats se_X11_beats dL_law_1049 (ok_X11_beats (by decide) e2) rfl (is_81 (by decide)) ⟨_, _, rfl⟩ (by decide) (Nat.le_of_ble_eq_true rfl) ⟨rfl, rfl, Nat.le_of_ble_eq_true rfl, Nat.le_of_ble_eq_true rfl, hcu, hsu⟩ ?_
    exact z_icmp_eq (M := q_ML nm) C (pc := 1052) (tgt := 1574) dL_law_1052 (by decide) (fun _ => kk m2 hJ2) (fun h => absurd ee h)
  · have hop : j_op (f_PG_beats ((xs (i + 1)).toInt) 1) (f_Mod_beats ((xs (i + 1)).toInt) 1) := j_ask fun l o hk => b_beats hk (z_32 _)
    obtain ⟨r, r', m1, m2, e1, e2, ee, hJ2⟩ := hop m hJ
    refine z_aload_n (M := q_ML nm) C (pc := 1008) (n := 1) (x := 0) dL_law_1008 rfl (by decide) ?_
    refine z_arg C hX hbl hb hL (pc := 1009) (j := 1) (by omega) dL_law_1009 dL_law_1010 dL_law_1011 dL_law_1012 dL_law_1013 ?_
    refine z_arg C hX hbl hb hL (pc := 1014) (j := 2) (by omega) dL_law_1014 dL_law_1015 dL_law_1016 dL_law_1017 dL_law_1018 ?_
    refine z_if_eq (M := q_ML nm) C (pc := 1019) (tgt := 1026) dL_law_1019 (by decide) (fun h => absurd h hz) (fun _ => ?_)
    refine z_iconst (M := q_ML nm) C (pc := 1022) dL_law_1022 ?_
    refine z_goto (M := q_ML nm) C (pc := 1023) (tgt := 1027) dL_law_1023 (by decide) ?_
    refine z_callV (M := q_ML nm) C (pc := 1027) (M' := md_X10_beats) (rm' := q_room 3) (mc' := 0) (ms' := 0) (n := 2) (k := 10) (av := [q_I ((xs (i + 1)).toInt), q_I 1]) (r := 0) (v := some (q_I r)) (g' := q_g 126) (m' := m1) ml_12_124 im_X10_beats se_X10_beats dL_law_1027 (ok_X10_beats (by decide) e1) rfl (is_0 (by decide)) ⟨_, _, rfl⟩ (by decide) (Nat.le_of_ble_eq_true rfl) ⟨rfl, rfl, Nat.le_of_ble_eq_true rfl, Nat.le_of_ble_eq_true rfl, hcu, hsu⟩ ?_
    refine z_aload_n (M := q_ML nm) C (pc := 1030) (n := 2) (x := 81) dL_law_1030 rfl (by decide) ?_
    refine z_arg C hX hbl hb hL (pc := 1031) (j := 1) (by omega) dL_law_1031 dL_law_1032 dL_law_1033 dL_law_1034 dL_law_1035 ?_
    refine z_arg C hX hbl hb hL (pc := 1036) (j := 2) (by omega) dL_law_1036 dL_law_1037 dL_law_1038 dL_law_1039 dL_law_1040 ?_
    refine z_if_eq (M := q_ML nm) C (pc := 1041) (tgt := 1048) dL_law_1041 (by decide) (fun h => absurd h hz) (fun _ => ?_)
    refine z_iconst (M := q_ML nm) C (pc := 1044) dL_law_1044 ?_
    refine z_goto (M := q_ML nm) C (pc := 1045) (tgt := 1049) dL_law_1045 (by decide) ?_
    refine z_callV (M := q_ML nm) C (pc := 1049) (M' := md_X11_beats) (rm' := q_room 8) (mc' := 0) (ms' := 0) (n := 2) (k := 11) (av := [q_I ((xs (i + 1)).toInt), q_I 1]) (r := 81) (v := some (q_I r')) (g' := q_g 126) (m' := m2) ml_12_127 im_X11_beats se_X11_beats dL_law_1049 (ok_X11_beats (by decide) e2) rfl (is_81 (by decide)) ⟨_, _, rfl⟩ (by decide) (Nat.le_of_ble_eq_true rfl) ⟨rfl, rfl, Nat.le_of_ble_eq_true rfl, Nat.le_of_ble_eq_true rfl, hcu, hsu⟩ ?_
    exact z_icmp_eq (M := q_ML nm) C (pc := 1052) (tgt := 1574) dL_law_1052 (by decide) (fun _ => kk m2 hJ2) (fun h => absurd ee h)
theorem lc_27 (C : q_Cx (q_ML nm) p s mi args meth c D cs b ad adV) (hX : va_X (ad 29) L xs s s.heap) (hbl : ad 29 < s.heap.size) (hb : b = s.heap.size) (hL : L ≤ 3072) (hcu : cu ≤ 600000) (hsu : su ≤ 7302250) (hi : i + 6 ≤ L) (hJ : j_J m) (kk : ∀ m', j_J m' → q_K p l e s mi args below meth c D cs b ad 4 room_1 Q cu su (q_g 126) m' 1574 [q_S 29, q_A 0, q_A 81, q_I i] []) : q_K p l e s mi args below meth c D cs b ad 4 room_1 Q cu su (q_g 126) m 1057 [q_S 29, q_A 0, q_A 81, q_I i] [] := by
  by_cases hz : q_w (xs (i + 2)).toInt = 0
  · have hop : j_op (f_PG_fewest ((xs (i + 1)).toInt) 0) (f_Mod_fewest ((xs (i + 1)).toInt) 0) := j_ask fun l o hk => b_fewest hk (z_32 _)
    obtain ⟨r, r', m1, m2, e1, e2, ee, hJ2⟩ := hop m hJ
    refine z_aload_n (M := q_ML nm) C (pc := 1057) (n := 1) (x := 0) dL_law_1057 rfl (by decide) ?_
    refine z_arg C hX hbl hb hL (pc := 1058) (j := 1) (by omega) dL_law_1058 dL_law_1059 dL_law_1060 dL_law_1061 dL_law_1062 ?_
    refine z_arg C hX hbl hb hL (pc := 1063) (j := 2) (by omega) dL_law_1063 dL_law_1064 dL_law_1065 dL_law_1066 dL_law_1067 ?_
    refine z_if_eq (M := q_ML nm) C (pc := 1068) (tgt := 1075) dL_law_1068 (by decide) (fun _ => ?_) (fun h => absurd hz h)
    refine z_iconst (M := q_ML nm) C (pc := 1075) dL_law_1075 ?_
    refine z_callV (M := q_ML nm) C (pc := 1076) (M' := md_X10_fewest) (rm' := q_room 3) (mc' := 0) (ms' := 0) (n := 2) (k := 10) (av := [q_I ((xs (i + 1)).toInt), q_I 0]) (r := 0) (v := some (q_I r)) (g' := q_g 126) (m' := m1) ml_12_128 im_X10_fewest se_X10_fewest dL_law_1076 (ok_X10_fewest (by decide) e1) rfl (is_0 (by decide)) ⟨_, _, rfl⟩ (by decide) (Nat.le_of_ble_eq_true rfl) ⟨rfl, rfl, Nat.le_of_ble_eq_true rfl, Nat.le_of_ble_eq_true rfl, hcu, hsu⟩ ?_
    refine z_aload_n (M := q_ML nm) C (pc := 1079) (n := 2) (x := 81) dL_law_1079 rfl (by decide) ?_
    refine z_arg C hX hbl hb hL (pc := 1080) (j := 1) (by omega) dL_law_1080 dL_law_1081 dL_law_1082 dL_law_1083 dL_law_1084 ?_
    refine z_arg C hX hbl hb hL (pc := 1085) (j := 2) (by omega) dL_law_1085 dL_law_1086 dL_law_1087 dL_law_1088 dL_law_1089 ?_
    refine z_if_eq (M := q_ML nm) C (pc := 1090) (tgt := 1097) dL_law_1090 (by decide) (fun _ => ?_) (fun h => absurd hz h)
    refine z_iconst (M := q_ML nm) C (pc := 1097) dL_law_1097 ?_
    refine z_callV (M := q_ML nm) C (pc := 1098) (M' := md_X11_fewest) (rm' := q_room 8) (mc' := 0) (ms' := 0) (n := 2) (k := 11) (av := [q_I ((xs (i + 1)).toInt), q_I 0]) (r := 81) (v := some (q_I r')) (g' := q_g 126) (m' := m2) ml_12_131 im_X11_fewest se_X11_fewest dL_law_1098 (ok_X11_fewest (by decide) e2) rfl (is_81 (by decide)) ⟨_, _, rfl⟩ (by decide) (Nat.le_of_ble_eq_true rfl) ⟨rfl, rfl, Nat.le_of_ble_eq_true rfl, Nat.le_of_ble_eq_true rfl, hcu, hsu⟩ ?_
    exact z_icmp_eq (M := q_ML nm) C (pc := 1101) (tgt := 1574) dL_law_1101 (by decide) (fun _ => kk m2 hJ2) (fun h => absurd ee h)
  · have hop : j_op (f_PG_fewest ((xs (i + 1)).toInt) 1) (f_Mod_fewest ((xs (i + 1)).toInt) 1) := j_ask fun l o hk => b_fewest hk (z_32 _)
    obtain ⟨r, r', m1, m2, e1, e2, ee, hJ2⟩ := hop m hJ
    refine z_aload_n (M := q_ML nm) C (pc := 1057) (n := 1) (x := 0) dL_law_1057 rfl (by decide) ?_
    refine z_arg C hX hbl hb hL (pc := 1058) (j := 1) (by omega) dL_law_1058 dL_law_1059 dL_law_1060 dL_law_1061 dL_law_1062 ?_
    refine z_arg C hX hbl hb hL (pc := 1063) (j := 2) (by omega) dL_law_1063 dL_law_1064 dL_law_1065 dL_law_1066 dL_law_1067 ?_
    refine z_if_eq (M := q_ML nm) C (pc := 1068) (tgt := 1075) dL_law_1068 (by decide) (fun h => absurd h hz) (fun _ => ?_)
    refine z_iconst (M := q_ML nm) C (pc := 1071) dL_law_1071 ?_
    refine z_goto (M := q_ML nm) C (pc := 1072) (tgt := 1076) dL_law_1072 (by decide) ?_
    refine z_callV (M := q_ML nm) C (pc := 1076) (M' := md_X10_fewest) (rm' := q_room 3) (mc' := 0) (ms' := 0) (n := 2) (k := 10) (av := [q_I ((xs (i + 1)).toInt), q_I 1]) (r := 0) (v := some (q_I r)) (g' := q_g 126) (m' := m1) ml_12_128 im_X10_fewest se_X10_fewest dL_law_1076 (ok_X10_fewest (by decide) e1) rfl (is_0 (by decide)) ⟨_, _, rfl⟩ (by decide) (Nat.le_of_ble_eq_true rfl) ⟨rfl, rfl, Nat.le_of_ble_eq_true rfl, Nat.le_of_ble_eq_true rfl, hcu, hsu⟩ ?_
    refine z_aload_n (M := q_ML nm) C (pc := 1079) (n := 2) (x := 81) dL_law_1079 rfl (by decide) ?_
    refine z_arg C hX hbl hb hL (pc := 1080) (j := 1) (by omega) dL_law_1080 dL_law_1081 dL_law_1082 dL_law_1083 dL_law_1084 ?_
    refine z_arg C hX hbl hb hL (pc := 1085) (j := 2) (by omega) dL_law_1085 dL_law_1086 dL_law_1087 dL_law_1088 dL_law_1089 ?_
    refine z_if_eq (M := q_ML nm) C (pc := 1090) (tgt := 1097) dL_law_1090 (by decide) (fun h => absurd h hz) (fun _ => ?_)
    refine z_iconst (M := q_ML nm) C (pc := 1093) dL_law_1093 ?_
    refine z_goto (M := q_ML nm) C (pc := 1094) (tgt := 1098) dL_law_1094 (by decide) ?_
    refine z_callV (M := q_ML nm) C (pc := 1098) (M' := md_X11_fewest) (rm' := q_room 8) (mc' := 0) (ms' := 0) (n := 2) (k := 11) (av := [q_I ((xs (i + 1)).toInt), q_I 1]) (r := 81) (v := some (q_I r')) (g' := q_g 126) (m' := m2) ml_12_131 im_X11_fewest se_X11_fewest dL_law_1098 (ok_X11_fewest (by decide) e2) rfl (is_81 (by decide)) ⟨_, _, rfl⟩ (by decide) (Nat.le_of_ble_eq_true rfl) ⟨rfl, rfl, Nat.le_of_ble_eq_true rfl, Nat.le_of_ble_eq_true rfl, hcu, hsu⟩ ?_
    exact z_icmp_eq (M := q_ML nm) C (pc := 1101) (tgt := 1574) dL_law_1101 (by decide) (fun _ => kk m2 hJ2) (fun h => absurd ee h)
theorem lc_28 (C : q_Cx (q_ML nm) p s mi args meth c D cs b ad adV) (hX : va_X (ad 29) L xs s s.heap) (hbl : ad 29 < s.heap.size) (hb : b = s.heap.size) (hL : L ≤ 3072) (hcu : cu ≤ 600000) (hsu : su ≤ 7302250) (hi : i + 6 ≤ L) (hJ : j_J m) (kk : ∀ m', j_J m' → q_K p l e s mi args below meth c D cs b ad 4 room_1 Q cu su (q_g 126) m' 1574 [q_S 29, q_A 0, q_A 81, q_I i] []) : q_K p l e s mi args below meth c D cs b ad 4 room_1 Q cu su (q_g 126) m 1106 [q_S 29, q_A 0, q_A 81, q_I i] [] := by
  have hop : j_op (f_PG_height ((xs (i + 1)).toInt) ((xs (i + 2)).toInt)) (f_Mod_height ((xs (i + 1)).toInt) ((xs (i + 2)).toInt)) := j_ask fun l o hk => b_height hk (z_32 _) (z_32 _)
  obtain ⟨r, r', m1, m2, e1, e2, ee, hJ2⟩ := hop m hJ
  refine z_aload_n (M := q_ML nm) C (pc := 1106) (n := 1) (x := 0) dL_law_1106 rfl (by decide) ?_
  refine z_arg C hX hbl hb hL (pc := 1107) (j := 1) (by omega) dL_law_1107 dL_law_1108 dL_law_1109 dL_law_1110 dL_law_1111 ?_
  refine z_arg C hX hbl hb hL (pc := 1112) (j := 2) (by omega) dL_law_1112 dL_law_1113 dL_law_1114 dL_law_1115 dL_law_1116 ?_
  refine z_callV (M := q_ML nm) C (pc := 1117) (M' := md_X10_height) (rm' := q_room 2) (mc' := 0) (ms' := 0) (n := 2) (k := 10) (av := [q_I ((xs (i + 1)).toInt), q_I ((xs (i + 2)).toInt)]) (r := 0) (v := some (q_I r)) (g' := q_g 126) (m' := m1) ml_12_132 im_X10_height se_X10_height dL_law_1117 (ok_X10_height (by decide) e1) rfl (is_0 (by decide)) ⟨_, _, rfl⟩ (by decide) (Nat.le_of_ble_eq_true rfl) ⟨rfl, rfl, Nat.le_of_ble_eq_true rfl, Nat.le_of_ble_eq_true rfl, hcu, hsu⟩ ?_
  refine z_aload_n (M := q_ML nm) C (pc := 1120) (n := 2) (x := 81) dL_law_1120 rfl (by decide) ?_
  refine z_arg C hX hbl hb hL (pc := 1121) (j := 1) (by omega) dL_law_1121 dL_law_1122 dL_law_1123 dL_law_1124 dL_law_1125 ?_
  refine z_arg C hX hbl hb hL (pc := 1126) (j := 2) (by omega) dL_law_1126 dL_law_1127 dL_law_1128 dL_law_1129 dL_law_1130 ?_
  refine z_callV (M := q_ML nm) C (pc := 1131) (M' := md_X11_height) (rm' := q_room 7) (mc' := 0) (ms' := 0) (n := 2) (k := 11) (av := [q_I ((xs (i + 1)).toInt), q_I ((xs (i + 2)).toInt)]) (r := 81) (v := some (q_I r')) (g' := q_g 126) (m' := m2) ml_12_135 im_X11_height se_X11_height dL_law_1131 (ok_X11_height (by decide) e2) rfl (is_81 (by decide)) ⟨_, _, rfl⟩ (by decide) (Nat.le_of_ble_eq_true rfl) ⟨rfl, rfl, Nat.le_of_ble_eq_true rfl, Nat.le_of_ble_eq_true rfl, hcu, hsu⟩ ?_
  exact z_icmp_eq (M := q_ML nm) C (pc := 1134) (tgt := 1574) dL_law_1134 (by decide) (fun _ => kk m2 hJ2) (fun h => absurd ee h)
theorem lc_29 (C : q_Cx (q_ML nm) p s mi args meth c D cs b ad adV) (hX : va_X (ad 29) L xs s s.heap) (hbl : ad 29 < s.heap.size) (hb : b = s.heap.size) (hL : L ≤ 3072) (hcu : cu ≤ 600000) (hsu : su ≤ 7302250) (hi : i + 6 ≤ L) (hJ : j_J m) (kk : ∀ m', j_J m' → q_K p l e s mi args below meth c D cs b ad 4 room_1 Q cu su (q_g 126) m' 1574 [q_S 29, q_A 0, q_A 81, q_I i] []) : q_K p l e s mi args below meth c D cs b ad 4 room_1 Q cu su (q_g 126) m 1139 [q_S 29, q_A 0, q_A 81, q_I i] [] := by
  have hop : j_op f_PG_critical f_Mod_critical := j_ask fun l o hk => b_critical hk 
  obtain ⟨r, r', m1, m2, e1, e2, ee, hJ2⟩ := hop m hJ
  refine z_aload_n (M := q_ML nm) C (pc := 1139) (n := 1) (x := 0) dL_law_1139 rfl (by decide) ?_
  refine z_callV (M := q_ML nm) C (pc := 1140) (M' := md_X10_critical) (rm' := q_room 2) (mc' := 0) (ms' := 0) (n := 0) (k := 10) (av := []) (r := 0) (v := some (q_I r)) (g' := q_g 126) (m' := m1) ml_12_136 im_X10_critical se_X10_critical dL_law_1140 (ok_X10_critical (by decide) e1) rfl (is_0 (by decide)) ⟨_, _, rfl⟩ (by decide) (Nat.le_of_ble_eq_true rfl) ⟨rfl, rfl, Nat.le_of_ble_eq_true rfl, Nat.le_of_ble_eq_true rfl, hcu, hsu⟩ ?_
  refine z_aload_n (M := q_ML nm) C (pc := 1143) (n := 2) (x := 81) dL_law_1143 rfl (by decide) ?_
  refine z_callV (M := q_ML nm) C (pc := 1144) (M' := md_X11_critical) (rm' := q_room 7) (mc' := 0) (ms' := 0) (n := 0) (k := 11) (av := []) (r := 81) (v := some (q_I r')) (g' := q_g 126) (m' := m2) ml_12_139 im_X11_critical se_X11_critical dL_law_1144 (ok_X11_critical (by decide) e2) rfl (is_81 (by decide)) ⟨_, _, rfl⟩ (by decide) (Nat.le_of_ble_eq_true rfl) ⟨rfl, rfl, Nat.le_of_ble_eq_true rfl, Nat.le_of_ble_eq_true rfl, hcu, hsu⟩ ?_
  exact z_icmp_eq (M := q_ML nm) C (pc := 1147) (tgt := 1574) dL_law_1147 (by decide) (fun _ => kk m2 hJ2) (fun h => absurd ee h)
theorem lc_30 (C : q_Cx (q_ML nm) p s mi args meth c D cs b ad adV) (hX : va_X (ad 29) L xs s s.heap) (hbl : ad 29 < s.heap.size) (hb : b = s.heap.size) (hL : L ≤ 3072) (hcu : cu ≤ 600000) (hsu : su ≤ 7302250) (hi : i + 6 ≤ L) (hJ : j_J m) (kk : ∀ m', j_J m' → q_K p l e s mi args below meth c D cs b ad 4 room_1 Q cu su (q_g 126) m' 1574 [q_S 29, q_A 0, q_A 81, q_I i] []) : q_K p l e s mi args below meth c D cs b ad 4 room_1 Q cu su (q_g 126) m 1152 [q_S 29, q_A 0, q_A 81, q_I i] [] := by
  have hop : j_op (f_PG_wrongAt ((xs (i + 1)).toInt)) (f_Mod_wrongAt ((xs (i + 1)).toInt)) := j_ask fun l o hk => b_wrongAt hk (z_32 _)
  obtain ⟨r, r', m1, m2, e1, e2, ee, hJ2⟩ := hop m hJ
  refine z_aload_n (M := q_ML nm) C (pc := 1152) (n := 1) (x := 0) dL_law_1152 rfl (by decide) ?_
  refine z_arg C hX hbl hb hL (pc := 1153) (j := 1) (by omega) dL_law_1153 dL_law_1154 dL_law_1155 dL_law_1156 dL_law_1157 ?_
  refine z_callV (M := q_ML nm) C (pc := 1158) (M' := md_X10_wrongAt) (rm' := q_room 7) (mc' := 0) (ms' := 0) (n := 1) (k := 10) (av := [q_I ((xs (i + 1)).toInt)]) (r := 0) (v := some (q_I r)) (g' := q_g 126) (m' := m1) ml_12_140 im_X10_wrongAt se_X10_wrongAt dL_law_1158 (ok_X10_wrongAt (by decide) e1) rfl (is_0 (by decide)) ⟨_, _, rfl⟩ (by decide) (Nat.le_of_ble_eq_true rfl) ⟨rfl, rfl, Nat.le_of_ble_eq_true rfl, Nat.le_of_ble_eq_true rfl, hcu, hsu⟩ ?_
  refine z_aload_n (M := q_ML nm) C (pc := 1161) (n := 2) (x := 81) dL_law_1161 rfl (by decide) ?_
  refine z_arg C hX hbl hb hL (pc := 1162) (j := 1) (by omega) dL_law_1162 dL_law_1163 dL_law_1164 dL_law_1165 dL_law_1166 ?_
  refine z_callV (M := q_ML nm) C (pc := 1167) (M' := md_X11_wrongAt) (rm' := q_room 9) (mc' := 0) (ms' := 0) (n := 1) (k := 11) (av := [q_I ((xs (i + 1)).toInt)]) (r := 81) (v := some (q_I r')) (g' := q_g 126) (m' := m2) ml_12_143 im_X11_wrongAt se_X11_wrongAt dL_law_1167 (ok_X11_wrongAt (by decide) e2) rfl (is_81 (by decide)) ⟨_, _, rfl⟩ (by decide) (Nat.le_of_ble_eq_true rfl) ⟨rfl, rfl, Nat.le_of_ble_eq_true rfl, Nat.le_of_ble_eq_true rfl, hcu, hsu⟩ ?_
  exact z_icmp_eq (M := q_ML nm) C (pc := 1170) (tgt := 1574) dL_law_1170 (by decide) (fun _ => kk m2 hJ2) (fun h => absurd ee h)
theorem lc_31 (C : q_Cx (q_ML nm) p s mi args meth c D cs b ad adV) (hX : va_X (ad 29) L xs s s.heap) (hbl : ad 29 < s.heap.size) (hb : b = s.heap.size) (hL : L ≤ 3072) (hcu : cu ≤ 600000) (hsu : su ≤ 7302250) (hi : i + 6 ≤ L) (hJ : j_J m) (kk : ∀ m', j_J m' → q_K p l e s mi args below meth c D cs b ad 4 room_1 Q cu su (q_g 126) m' 1574 [q_S 29, q_A 0, q_A 81, q_I i] []) : q_K p l e s mi args below meth c D cs b ad 4 room_1 Q cu su (q_g 126) m 1175 [q_S 29, q_A 0, q_A 81, q_I i] [] := by
  have hop : j_op (f_PG_peak ((xs (i + 1)).toInt)) (f_Mod_peak ((xs (i + 1)).toInt)) := j_ask fun l o hk => b_peak hk (z_32 _)
  obtain ⟨r, r', m1, m2, e1, e2, ee, hJ2⟩ := hop m hJ
  refine z_aload_n (M := q_ML nm) C (pc := 1175) (n := 1) (x := 0) dL_law_1175 rfl (by decide) ?_
  refine z_arg C hX hbl hb hL (pc := 1176) (j := 1) (by omega) dL_law_1176 dL_law_1177 dL_law_1178 dL_law_1179 dL_law_1180 ?_
  refine z_callV (M := q_ML nm) C (pc := 1181) (M' := md_X10_peak) (rm' := q_room 2) (mc' := 0) (ms' := 0) (n := 1) (k := 10) (av := [q_I ((xs (i + 1)).toInt)]) (r := 0) (v := some (q_I r)) (g' := q_g 126) (m' := m1) ml_12_144 im_X10_peak se_X10_peak dL_law_1181 (ok_X10_peak (by decide) e1) rfl (is_0 (by decide)) ⟨_, _, rfl⟩ (by decide) (Nat.le_of_ble_eq_true rfl) ⟨rfl, rfl, Nat.le_of_ble_eq_true rfl, Nat.le_of_ble_eq_true rfl, hcu, hsu⟩ ?_
  refine z_aload_n (M := q_ML nm) C (pc := 1184) (n := 2) (x := 81) dL_law_1184 rfl (by decide) ?_
  refine z_arg C hX hbl hb hL (pc := 1185) (j := 1) (by omega) dL_law_1185 dL_law_1186 dL_law_1187 dL_law_1188 dL_law_1189 ?_
  refine z_callV (M := q_ML nm) C (pc := 1190) (M' := md_X11_peak) (rm' := q_room 7) (mc' := 0) (ms' := 0) (n := 1) (k := 11) (av := [q_I ((xs (i + 1)).toInt)]) (r := 81) (v := some (q_I r')) (g' := q_g 126) (m' := m2) ml_12_147 im_X11_peak se_X11_peak dL_law_1190 (ok_X11_peak (by decide) e2) rfl (is_81 (by decide)) ⟨_, _, rfl⟩ (by decide) (Nat.le_of_ble_eq_true rfl) ⟨rfl, rfl, Nat.le_of_ble_eq_true rfl, Nat.le_of_ble_eq_true rfl, hcu, hsu⟩ ?_
  exact z_icmp_eq (M := q_ML nm) C (pc := 1193) (tgt := 1574) dL_law_1193 (by decide) (fun _ => kk m2 hJ2) (fun h => absurd ee h)
theorem lc_32 (C : q_Cx (q_ML nm) p s mi args meth c D cs b ad adV) (hX : va_X (ad 29) L xs s s.heap) (hbl : ad 29 < s.heap.size) (hb : b = s.heap.size) (hL : L ≤ 3072) (hcu : cu ≤ 600000) (hsu : su ≤ 7302250) (hi : i + 6 ≤ L) (hJ : j_J m) (kk : ∀ m', j_J m' → q_K p l e s mi args below meth c D cs b ad 4 room_1 Q cu su (q_g 126) m' 1574 [q_S 29, q_A 0, q_A 81, q_I i] []) : q_K p l e s mi args below meth c D cs b ad 4 room_1 Q cu su (q_g 126) m 1198 [q_S 29, q_A 0, q_A 81, q_I i] [] := by
  have hop : j_op (f_PG_tiles ((xs (i + 1)).toInt) ((xs (i + 2)).toInt) ((xs (i + 3)).toInt)) (f_Mod_tiles ((xs (i + 1)).toInt) ((xs (i + 2)).toInt) ((xs (i + 3)).toInt)) := j_ask fun l o hk => b_tiles hk (z_32 _) (z_32 _) (z_32 _)
  obtain ⟨r, r', m1, m2, e1, e2, ee, hJ2⟩ := hop m hJ
  refine z_aload_n (M := q_ML nm) C (pc := 1198) (n := 1) (x := 0) dL_law_1198 rfl (by decide) ?_
  refine z_arg C hX hbl hb hL (pc := 1199) (j := 1) (by omega) dL_law_1199 dL_law_1200 dL_law_1201 dL_law_1202 dL_law_1203 ?_
  refine z_arg C hX hbl hb hL (pc := 1204) (j := 2) (by omega) dL_law_1204 dL_law_1205 dL_law_1206 dL_law_1207 dL_law_1208 ?_
  refine z_arg C hX hbl hb hL (pc := 1209) (j := 3) (by omega) dL_law_1209 dL_law_1210 dL_law_1211 dL_law_1212 dL_law_1213 ?_
  refine z_callV (M := q_ML nm) C (pc := 1214) (M' := md_X10_tiles) (rm' := q_room 6) (mc' := 0) (ms' := 0) (n := 3) (k := 10) (av := [q_I ((xs (i + 1)).toInt), q_I ((xs (i + 2)).toInt), q_I ((xs (i + 3)).toInt)]) (r := 0) (v := some (q_I r)) (g' := q_g 126) (m' := m1) ml_12_148 im_X10_tiles se_X10_tiles dL_law_1214 (ok_X10_tiles (by decide) e1) rfl (is_0 (by decide)) ⟨_, _, rfl⟩ (by decide) (Nat.le_of_ble_eq_true rfl) ⟨rfl, rfl, Nat.le_of_ble_eq_true rfl, Nat.le_of_ble_eq_true rfl, hcu, hsu⟩ ?_
  refine z_aload_n (M := q_ML nm) C (pc := 1217) (n := 2) (x := 81) dL_law_1217 rfl (by decide) ?_
  refine z_arg C hX hbl hb hL (pc := 1218) (j := 1) (by omega) dL_law_1218 dL_law_1219 dL_law_1220 dL_law_1221 dL_law_1222 ?_
  refine z_arg C hX hbl hb hL (pc := 1223) (j := 2) (by omega) dL_law_1223 dL_law_1224 dL_law_1225 dL_law_1226 dL_law_1227 ?_
  refine z_arg C hX hbl hb hL (pc := 1228) (j := 3) (by omega) dL_law_1228 dL_law_1229 dL_law_1230 dL_law_1231 dL_law_1232 ?_
  refine z_callV (M := q_ML nm) C (pc := 1233) (M' := md_X11_tiles) (rm' := q_room 5) (mc' := 0) (ms' := 0) (n := 3) (k := 11) (av := [q_I ((xs (i + 1)).toInt), q_I ((xs (i + 2)).toInt), q_I ((xs (i + 3)).toInt)]) (r := 81) (v := some (q_I r')) (g' := q_g 126) (m' := m2) ml_12_151 im_X11_tiles se_X11_tiles dL_law_1233 (ok_X11_tiles (by decide) e2) rfl (is_81 (by decide)) ⟨_, _, rfl⟩ (by decide) (Nat.le_of_ble_eq_true rfl) ⟨rfl, rfl, Nat.le_of_ble_eq_true rfl, Nat.le_of_ble_eq_true rfl, hcu, hsu⟩ ?_
  exact z_icmp_eq (M := q_ML nm) C (pc := 1236) (tgt := 1574) dL_law_1236 (by decide) (fun _ => kk m2 hJ2) (fun h => absurd ee h)
theorem lc_33 (C : q_Cx (q_ML nm) p s mi args meth c D cs b ad adV) (hX : va_X (ad 29) L xs s s.heap) (hbl : ad 29 < s.heap.size) (hb : b = s.heap.size) (hL : L ≤ 3072) (hcu : cu ≤ 600000) (hsu : su ≤ 7302250) (hi : i + 6 ≤ L) (hJ : j_J m) (kk : ∀ m', j_J m' → q_K p l e s mi args below meth c D cs b ad 4 room_1 Q cu su (q_g 126) m' 1574 [q_S 29, q_A 0, q_A 81, q_I i] []) : q_K p l e s mi args below meth c D cs b ad 4 room_1 Q cu su (q_g 126) m 1241 [q_S 29, q_A 0, q_A 81, q_I i] [] := by
  have hop : j_op (f_PG_tiling ((xs (i + 1)).toInt) ((xs (i + 2)).toInt)) (f_Mod_tiling ((xs (i + 1)).toInt) ((xs (i + 2)).toInt)) := j_ask fun l o hk => b_tiling hk (z_32 _) (z_32 _)
  obtain ⟨r, r', m1, m2, e1, e2, ee, hJ2⟩ := hop m hJ
  refine z_aload_n (M := q_ML nm) C (pc := 1241) (n := 1) (x := 0) dL_law_1241 rfl (by decide) ?_
  refine z_arg C hX hbl hb hL (pc := 1242) (j := 1) (by omega) dL_law_1242 dL_law_1243 dL_law_1244 dL_law_1245 dL_law_1246 ?_
  refine z_arg C hX hbl hb hL (pc := 1247) (j := 2) (by omega) dL_law_1247 dL_law_1248 dL_law_1249 dL_law_1250 dL_law_1251 ?_
  refine z_callV (M := q_ML nm) C (pc := 1252) (M' := md_X10_tiling) (rm' := q_room 7) (mc' := 0) (ms' := 0) (n := 2) (k := 10) (av := [q_I ((xs (i + 1)).toInt), q_I ((xs (i + 2)).toInt)]) (r := 0) (v := some (q_I r)) (g' := q_g 126) (m' := m1) ml_12_152 im_X10_tiling se_X10_tiling dL_law_1252 (ok_X10_tiling (by decide) e1) rfl (is_0 (by decide)) ⟨_, _, rfl⟩ (by decide) (Nat.le_of_ble_eq_true rfl) ⟨rfl, rfl, Nat.le_of_ble_eq_true rfl, Nat.le_of_ble_eq_true rfl, hcu, hsu⟩ ?_
  refine z_aload_n (M := q_ML nm) C (pc := 1255) (n := 2) (x := 81) dL_law_1255 rfl (by decide) ?_
  refine z_arg C hX hbl hb hL (pc := 1256) (j := 1) (by omega) dL_law_1256 dL_law_1257 dL_law_1258 dL_law_1259 dL_law_1260 ?_
  refine z_arg C hX hbl hb hL (pc := 1261) (j := 2) (by omega) dL_law_1261 dL_law_1262 dL_law_1263 dL_law_1264 dL_law_1265 ?_
  refine z_callV (M := q_ML nm) C (pc := 1266) (M' := md_X11_tiling) (rm' := q_room 5) (mc' := 0) (ms' := 0) (n := 2) (k := 11) (av := [q_I ((xs (i + 1)).toInt), q_I ((xs (i + 2)).toInt)]) (r := 81) (v := some (q_I r')) (g' := q_g 126) (m' := m2) ml_12_155 im_X11_tiling se_X11_tiling dL_law_1266 (ok_X11_tiling (by decide) e2) rfl (is_81 (by decide)) ⟨_, _, rfl⟩ (by decide) (Nat.le_of_ble_eq_true rfl) ⟨rfl, rfl, Nat.le_of_ble_eq_true rfl, Nat.le_of_ble_eq_true rfl, hcu, hsu⟩ ?_
  exact z_icmp_eq (M := q_ML nm) C (pc := 1269) (tgt := 1574) dL_law_1269 (by decide) (fun _ => kk m2 hJ2) (fun h => absurd ee h)
theorem lc_34 (C : q_Cx (q_ML nm) p s mi args meth c D cs b ad adV) (hX : va_X (ad 29) L xs s s.heap) (hbl : ad 29 < s.heap.size) (hb : b = s.heap.size) (hL : L ≤ 3072) (hcu : cu ≤ 600000) (hsu : su ≤ 7302250) (hi : i + 6 ≤ L) (hJ : j_J m) (kk : ∀ m', j_J m' → q_K p l e s mi args below meth c D cs b ad 4 room_1 Q cu su (q_g 126) m' 1574 [q_S 29, q_A 0, q_A 81, q_I i] []) : q_K p l e s mi args below meth c D cs b ad 4 room_1 Q cu su (q_g 126) m 1274 [q_S 29, q_A 0, q_A 81, q_I i] [] := by
  have hop : j_op (f_PG_near ((xs (i + 1)).toInt) ((xs (i + 2)).toInt) ((xs (i + 3)).toInt)) (f_Mod_near ((xs (i + 1)).toInt) ((xs (i + 2)).toInt) ((xs (i + 3)).toInt)) := j_ask fun l o hk => b_near hk (z_32 _) (z_32 _) (z_32 _)
  obtain ⟨r, r', m1, m2, e1, e2, ee, hJ2⟩ := hop m hJ
  refine z_aload_n (M := q_ML nm) C (pc := 1274) (n := 1) (x := 0) dL_law_1274 rfl (by decide) ?_
  refine z_arg C hX hbl hb hL (pc := 1275) (j := 1) (by omega) dL_law_1275 dL_law_1276 dL_law_1277 dL_law_1278 dL_law_1279 ?_
  refine z_arg C hX hbl hb hL (pc := 1280) (j := 2) (by omega) dL_law_1280 dL_law_1281 dL_law_1282 dL_law_1283 dL_law_1284 ?_
  refine z_arg C hX hbl hb hL (pc := 1285) (j := 3) (by omega) dL_law_1285 dL_law_1286 dL_law_1287 dL_law_1288 dL_law_1289 ?_
  refine z_callV (M := q_ML nm) C (pc := 1290) (M' := md_X10_near) (rm' := q_room 4) (mc' := 0) (ms' := 0) (n := 3) (k := 10) (av := [q_I ((xs (i + 1)).toInt), q_I ((xs (i + 2)).toInt), q_I ((xs (i + 3)).toInt)]) (r := 0) (v := some (q_I r)) (g' := q_g 126) (m' := m1) ml_12_156 im_X10_near se_X10_near dL_law_1290 (ok_X10_near (by decide) e1) rfl (is_0 (by decide)) ⟨_, _, rfl⟩ (by decide) (Nat.le_of_ble_eq_true rfl) ⟨rfl, rfl, Nat.le_of_ble_eq_true rfl, Nat.le_of_ble_eq_true rfl, hcu, hsu⟩ ?_
  refine z_aload_n (M := q_ML nm) C (pc := 1293) (n := 2) (x := 81) dL_law_1293 rfl (by decide) ?_
  refine z_arg C hX hbl hb hL (pc := 1294) (j := 1) (by omega) dL_law_1294 dL_law_1295 dL_law_1296 dL_law_1297 dL_law_1298 ?_
  refine z_arg C hX hbl hb hL (pc := 1299) (j := 2) (by omega) dL_law_1299 dL_law_1300 dL_law_1301 dL_law_1302 dL_law_1303 ?_
  refine z_arg C hX hbl hb hL (pc := 1304) (j := 3) (by omega) dL_law_1304 dL_law_1305 dL_law_1306 dL_law_1307 dL_law_1308 ?_
  refine z_callV (M := q_ML nm) C (pc := 1309) (M' := md_X11_near) (rm' := q_room 4) (mc' := 0) (ms' := 0) (n := 3) (k := 11) (av := [q_I ((xs (i + 1)).toInt), q_I ((xs (i + 2)).toInt), q_I ((xs (i + 3)).toInt)]) (r := 81) (v := some (q_I r')) (g' := q_g 126) (m' := m2) ml_12_159 im_X11_near se_X11_near dL_law_1309 (ok_X11_near (by decide) e2) rfl (is_81 (by decide)) ⟨_, _, rfl⟩ (by decide) (Nat.le_of_ble_eq_true rfl) ⟨rfl, rfl, Nat.le_of_ble_eq_true rfl, Nat.le_of_ble_eq_true rfl, hcu, hsu⟩ ?_
  exact z_icmp_eq (M := q_ML nm) C (pc := 1312) (tgt := 1574) dL_law_1312 (by decide) (fun _ => kk m2 hJ2) (fun h => absurd ee h)
theorem lc_35 (C : q_Cx (q_ML nm) p s mi args meth c D cs b ad adV) (hX : va_X (ad 29) L xs s s.heap) (hbl : ad 29 < s.heap.size) (hb : b = s.heap.size) (hL : L ≤ 3072) (hcu : cu ≤ 600000) (hsu : su ≤ 7302250) (hi : i + 6 ≤ L) (hJ : j_J m) (kk : ∀ m', j_J m' → q_K p l e s mi args below meth c D cs b ad 4 room_1 Q cu su (q_g 126) m' 1574 [q_S 29, q_A 0, q_A 81, q_I i] []) : q_K p l e s mi args below meth c D cs b ad 4 room_1 Q cu su (q_g 126) m 1317 [q_S 29, q_A 0, q_A 81, q_I i] [] := by
  have hop : j_op (f_PG_idle ((xs (i + 1)).toInt)) (f_Mod_idle ((xs (i + 1)).toInt)) := j_ask fun l o hk => b_idle hk (z_32 _)
  obtain ⟨r, r', m1, m2, e1, e2, ee, hJ2⟩ := hop m hJ
  refine z_aload_n (M := q_ML nm) C (pc := 1317) (n := 1) (x := 0) dL_law_1317 rfl (by decide) ?_
  refine z_arg C hX hbl hb hL (pc := 1318) (j := 1) (by omega) dL_law_1318 dL_law_1319 dL_law_1320 dL_law_1321 dL_law_1322 ?_
  refine z_callV (M := q_ML nm) C (pc := 1323) (M' := md_X10_idle) (rm' := q_room 3) (mc' := 0) (ms' := 0) (n := 1) (k := 10) (av := [q_I ((xs (i + 1)).toInt)]) (r := 0) (v := some (q_I r)) (g' := q_g 126) (m' := m1) ml_12_160 im_X10_idle se_X10_idle dL_law_1323 (ok_X10_idle (by decide) e1) rfl (is_0 (by decide)) ⟨_, _, rfl⟩ (by decide) (Nat.le_of_ble_eq_true rfl) ⟨rfl, rfl, Nat.le_of_ble_eq_true rfl, Nat.le_of_ble_eq_true rfl, hcu, hsu⟩ ?_
  refine z_aload_n (M := q_ML nm) C (pc := 1326) (n := 2) (x := 81) dL_law_1326 rfl (by decide) ?_
  refine z_arg C hX hbl hb hL (pc := 1327) (j := 1) (by omega) dL_law_1327 dL_law_1328 dL_law_1329 dL_law_1330 dL_law_1331 ?_
  refine z_callV (M := q_ML nm) C (pc := 1332) (M' := md_X11_idle) (rm' := q_room 8) (mc' := 0) (ms' := 0) (n := 1) (k := 11) (av := [q_I ((xs (i + 1)).toInt)]) (r := 81) (v := some (q_I r')) (g' := q_g 126) (m' := m2) ml_12_163 im_X11_idle se_X11_idle dL_law_1332 (ok_X11_idle (by decide) e2) rfl (is_81 (by decide)) ⟨_, _, rfl⟩ (by decide) (Nat.le_of_ble_eq_true rfl) ⟨rfl, rfl, Nat.le_of_ble_eq_true rfl, Nat.le_of_ble_eq_true rfl, hcu, hsu⟩ ?_
  exact z_icmp_eq (M := q_ML nm) C (pc := 1335) (tgt := 1574) dL_law_1335 (by decide) (fun _ => kk m2 hJ2) (fun h => absurd ee h)
theorem lc_36 (C : q_Cx (q_ML nm) p s mi args meth c D cs b ad adV) (hX : va_X (ad 29) L xs s s.heap) (hbl : ad 29 < s.heap.size) (hb : b = s.heap.size) (hL : L ≤ 3072) (hcu : cu ≤ 600000) (hsu : su ≤ 7302250) (hi : i + 6 ≤ L) (hJ : j_J m) (kk : ∀ m', j_J m' → q_K p l e s mi args below meth c D cs b ad 4 room_1 Q cu su (q_g 126) m' 1574 [q_S 29, q_A 0, q_A 81, q_I i] []) : q_K p l e s mi args below meth c D cs b ad 4 room_1 Q cu su (q_g 126) m 1340 [q_S 29, q_A 0, q_A 81, q_I i] [] := by
  have hop : j_op (f_PG_hangs ((xs (i + 1)).toInt) ((xs (i + 2)).toInt)) (f_Mod_hangs ((xs (i + 1)).toInt) ((xs (i + 2)).toInt)) := j_ask fun l o hk => b_hangs hk (z_32 _) (z_32 _)
  obtain ⟨r, r', m1, m2, e1, e2, ee, hJ2⟩ := hop m hJ
  refine z_aload_n (M := q_ML nm) C (pc := 1340) (n := 1) (x := 0) dL_law_1340 rfl (by decide) ?_
  refine z_arg C hX hbl hb hL (pc := 1341) (j := 1) (by omega) dL_law_1341 dL_law_1342 dL_law_1343 dL_law_1344 dL_law_1345 ?_
  refine z_arg C hX hbl hb hL (pc := 1346) (j := 2) (by omega) dL_law_1346 dL_law_1347 dL_law_1348 dL_law_1349 dL_law_1350 ?_
  refine z_callV (M := q_ML nm) C (pc := 1351) (M' := md_X10_hangs) (rm' := q_room 5) (mc' := 0) (ms' := 0) (n := 2) (k := 10) (av := [q_I ((xs (i + 1)).toInt), q_I ((xs (i + 2)).toInt)]) (r := 0) (v := some (q_I r)) (g' := q_g 126) (m' := m1) ml_12_164 im_X10_hangs se_X10_hangs dL_law_1351 (ok_X10_hangs (by decide) e1) rfl (is_0 (by decide)) ⟨_, _, rfl⟩ (by decide) (Nat.le_of_ble_eq_true rfl) ⟨rfl, rfl, Nat.le_of_ble_eq_true rfl, Nat.le_of_ble_eq_true rfl, hcu, hsu⟩ ?_
  refine z_aload_n (M := q_ML nm) C (pc := 1354) (n := 2) (x := 81) dL_law_1354 rfl (by decide) ?_
  refine z_arg C hX hbl hb hL (pc := 1355) (j := 1) (by omega) dL_law_1355 dL_law_1356 dL_law_1357 dL_law_1358 dL_law_1359 ?_
  refine z_arg C hX hbl hb hL (pc := 1360) (j := 2) (by omega) dL_law_1360 dL_law_1361 dL_law_1362 dL_law_1363 dL_law_1364 ?_
  refine z_callV (M := q_ML nm) C (pc := 1365) (M' := md_X11_hangs) (rm' := q_room 5) (mc' := 0) (ms' := 0) (n := 2) (k := 11) (av := [q_I ((xs (i + 1)).toInt), q_I ((xs (i + 2)).toInt)]) (r := 81) (v := some (q_I r')) (g' := q_g 126) (m' := m2) ml_12_167 im_X11_hangs se_X11_hangs dL_law_1365 (ok_X11_hangs (by decide) e2) rfl (is_81 (by decide)) ⟨_, _, rfl⟩ (by decide) (Nat.le_of_ble_eq_true rfl) ⟨rfl, rfl, Nat.le_of_ble_eq_true rfl, Nat.le_of_ble_eq_true rfl, hcu, hsu⟩ ?_
  exact z_icmp_eq (M := q_ML nm) C (pc := 1368) (tgt := 1574) dL_law_1368 (by decide) (fun _ => kk m2 hJ2) (fun h => absurd ee h)
theorem lc_37 (C : q_Cx (q_ML nm) p s mi args meth c D cs b ad adV) (hX : va_X (ad 29) L xs s s.heap) (hbl : ad 29 < s.heap.size) (hb : b = s.heap.size) (hL : L ≤ 3072) (hcu : cu ≤ 600000) (hsu : su ≤ 7302250) (hi : i + 6 ≤ L) (hJ : j_J m) (kk : ∀ m', j_J m' → q_K p l e s mi args below meth c D cs b ad 4 room_1 Q cu su (q_g 126) m' 1574 [q_S 29, q_A 0, q_A 81, q_I i] []) : q_K p l e s mi args below meth c D cs b ad 4 room_1 Q cu su (q_g 126) m 1373 [q_S 29, q_A 0, q_A 81, q_I i] [] := by
  have hop : j_op (f_PG_stirs ((xs (i + 1)).toInt) ((xs (i + 2)).toInt) ((xs (i + 3)).toInt)) (f_Mod_stirs ((xs (i + 1)).toInt) ((xs (i + 2)).toInt) ((xs (i + 3)).toInt)) := j_ask fun l o hk => b_stirs hk (z_32 _) (z_32 _) (z_32 _)
  obtain ⟨r, r', m1, m2, e1, e2, ee, hJ2⟩ := hop m hJ
  refine z_aload_n (M := q_ML nm) C (pc := 1373) (n := 1) (x := 0) dL_law_1373 rfl (by decide) ?_
  refine z_arg C hX hbl hb hL (pc := 1374) (j := 1) (by omega) dL_law_1374 dL_law_1375 dL_law_1376 dL_law_1377 dL_law_1378 ?_
  refine z_arg C hX hbl hb hL (pc := 1379) (j := 2) (by omega) dL_law_1379 dL_law_1380 dL_law_1381 dL_law_1382 dL_law_1383 ?_
  refine z_arg C hX hbl hb hL (pc := 1384) (j := 3) (by omega) dL_law_1384 dL_law_1385 dL_law_1386 dL_law_1387 dL_law_1388 ?_
  refine z_callV (M := q_ML nm) C (pc := 1389) (M' := md_X10_stirs) (rm' := q_room 6) (mc' := 0) (ms' := 0) (n := 3) (k := 10) (av := [q_I ((xs (i + 1)).toInt), q_I ((xs (i + 2)).toInt), q_I ((xs (i + 3)).toInt)]) (r := 0) (v := some (q_I r)) (g' := q_g 126) (m' := m1) ml_12_168 im_X10_stirs se_X10_stirs dL_law_1389 (ok_X10_stirs (by decide) e1) rfl (is_0 (by decide)) ⟨_, _, rfl⟩ (by decide) (Nat.le_of_ble_eq_true rfl) ⟨rfl, rfl, Nat.le_of_ble_eq_true rfl, Nat.le_of_ble_eq_true rfl, hcu, hsu⟩ ?_
  refine z_aload_n (M := q_ML nm) C (pc := 1392) (n := 2) (x := 81) dL_law_1392 rfl (by decide) ?_
  refine z_arg C hX hbl hb hL (pc := 1393) (j := 1) (by omega) dL_law_1393 dL_law_1394 dL_law_1395 dL_law_1396 dL_law_1397 ?_
  refine z_arg C hX hbl hb hL (pc := 1398) (j := 2) (by omega) dL_law_1398 dL_law_1399 dL_law_1400 dL_law_1401 dL_law_1402 ?_
  refine z_arg C hX hbl hb hL (pc := 1403) (j := 3) (by omega) dL_law_1403 dL_law_1404 dL_law_1405 dL_law_1406 dL_law_1407 ?_
  refine z_callV (M := q_ML nm) C (pc := 1408) (M' := md_X11_stirs) (rm' := q_room 9) (mc' := 0) (ms' := 0) (n := 3) (k := 11) (av := [q_I ((xs (i + 1)).toInt), q_I ((xs (i + 2)).toInt), q_I ((xs (i + 3)).toInt)]) (r := 81) (v := some (q_I r')) (g' := q_g 126) (m' := m2) ml_12_171 im_X11_stirs se_X11_stirs dL_law_1408 (ok_X11_stirs (by decide) e2) rfl (is_81 (by decide)) ⟨_, _, rfl⟩ (by decide) (Nat.le_of_ble_eq_true rfl) ⟨rfl, rfl, Nat.le_of_ble_eq_true rfl, Nat.le_of_ble_eq_true rfl, hcu, hsu⟩ ?_
  exact z_icmp_eq (M := q_ML nm) C (pc := 1411) (tgt := 1574) dL_law_1411 (by decide) (fun _ => kk m2 hJ2) (fun h => absurd ee h)
theorem lc_38 (C : q_Cx (q_ML nm) p s mi args meth c D cs b ad adV) (hX : va_X (ad 29) L xs s s.heap) (hbl : ad 29 < s.heap.size) (hb : b = s.heap.size) (hL : L ≤ 3072) (hcu : cu ≤ 600000) (hsu : su ≤ 7302250) (hi : i + 6 ≤ L) (hJ : j_J m) (kk : ∀ m', j_J m' → q_K p l e s mi args below meth c D cs b ad 4 room_1 Q cu su (q_g 126) m' 1574 [q_S 29, q_A 0, q_A 81, q_I i] []) : q_K p l e s mi args below meth c D cs b ad 4 room_1 Q cu su (q_g 126) m 1416 [q_S 29, q_A 0, q_A 81, q_I i] [] := by
  have hop : j_op (f_PG_stirred ((xs (i + 1)).toInt) ((xs (i + 2)).toInt) ((xs (i + 3)).toInt)) (f_Mod_stirred ((xs (i + 1)).toInt) ((xs (i + 2)).toInt) ((xs (i + 3)).toInt)) := j_ask fun l o hk => b_stirred hk (z_32 _) (z_32 _) (z_32 _)
  obtain ⟨r, r', m1, m2, e1, e2, ee, hJ2⟩ := hop m hJ
  refine z_aload_n (M := q_ML nm) C (pc := 1416) (n := 1) (x := 0) dL_law_1416 rfl (by decide) ?_
  refine z_arg C hX hbl hb hL (pc := 1417) (j := 1) (by omega) dL_law_1417 dL_law_1418 dL_law_1419 dL_law_1420 dL_law_1421 ?_
  refine z_arg C hX hbl hb hL (pc := 1422) (j := 2) (by omega) dL_law_1422 dL_law_1423 dL_law_1424 dL_law_1425 dL_law_1426 ?_
  refine z_arg C hX hbl hb hL (pc := 1427) (j := 3) (by omega) dL_law_1427 dL_law_1428 dL_law_1429 dL_law_1430 dL_law_1431 ?_
  refine z_callV (M := q_ML nm) C (pc := 1432) (M' := md_X10_stirred) (rm' := q_room 6) (mc' := 0) (ms' := 0) (n := 3) (k := 10) (av := [q_I ((xs (i + 1)).toInt), q_I ((xs (i + 2)).toInt), q_I ((xs (i + 3)).toInt)]) (r := 0) (v := some (q_I r)) (g' := q_g 126) (m' := m1) ml_12_172 im_X10_stirred se_X10_stirred dL_law_1432 (ok_X10_stirred (by decide) e1) rfl (is_0 (by decide)) ⟨_, _, rfl⟩ (by decide) (Nat.le_of_ble_eq_true rfl) ⟨rfl, rfl, Nat.le_of_ble_eq_true rfl, Nat.le_of_ble_eq_true rfl, hcu, hsu⟩ ?_
  refine z_aload_n (M := q_ML nm) C (pc := 1435) (n := 2) (x := 81) dL_law_1435 rfl (by decide) ?_
  refine z_arg C hX hbl hb hL (pc := 1436) (j := 1) (by omega) dL_law_1436 dL_law_1437 dL_law_1438 dL_law_1439 dL_law_1440 ?_
  refine z_arg C hX hbl hb hL (pc := 1441) (j := 2) (by omega) dL_law_1441 dL_law_1442 dL_law_1443 dL_law_1444 dL_law_1445 ?_
  refine z_arg C hX hbl hb hL (pc := 1446) (j := 3) (by omega) dL_law_1446 dL_law_1447 dL_law_1448 dL_law_1449 dL_law_1450 ?_
  refine z_callV (M := q_ML nm) C (pc := 1451) (M' := md_X11_stirred) (rm' := q_room 9) (mc' := 0) (ms' := 0) (n := 3) (k := 11) (av := [q_I ((xs (i + 1)).toInt), q_I ((xs (i + 2)).toInt), q_I ((xs (i + 3)).toInt)]) (r := 81) (v := some (q_I r')) (g' := q_g 126) (m' := m2) ml_12_175 im_X11_stirred se_X11_stirred dL_law_1451 (ok_X11_stirred (by decide) e2) rfl (is_81 (by decide)) ⟨_, _, rfl⟩ (by decide) (Nat.le_of_ble_eq_true rfl) ⟨rfl, rfl, Nat.le_of_ble_eq_true rfl, Nat.le_of_ble_eq_true rfl, hcu, hsu⟩ ?_
  exact z_icmp_eq (M := q_ML nm) C (pc := 1454) (tgt := 1574) dL_law_1454 (by decide) (fun _ => kk m2 hJ2) (fun h => absurd ee h)
theorem lc_39 (C : q_Cx (q_ML nm) p s mi args meth c D cs b ad adV) (hX : va_X (ad 29) L xs s s.heap) (hbl : ad 29 < s.heap.size) (hb : b = s.heap.size) (hL : L ≤ 3072) (hcu : cu ≤ 600000) (hsu : su ≤ 7302250) (hi : i + 6 ≤ L) (hJ : j_J m) (kk : ∀ m', j_J m' → q_K p l e s mi args below meth c D cs b ad 4 room_1 Q cu su (q_g 126) m' 1574 [q_S 29, q_A 0, q_A 81, q_I i] []) : q_K p l e s mi args below meth c D cs b ad 4 room_1 Q cu su (q_g 126) m 1459 [q_S 29, q_A 0, q_A 81, q_I i] [] := by
  have hop : j_op (f_PG_total ((xs (i + 1)).toInt) ((xs (i + 2)).toInt)) (f_Mod_total ((xs (i + 1)).toInt) ((xs (i + 2)).toInt)) := j_ask fun l o hk => b_total hk (z_32 _) (z_32 _)
  obtain ⟨r, r', m1, m2, e1, e2, ee, hJ2⟩ := hop m hJ
  refine z_aload_n (M := q_ML nm) C (pc := 1459) (n := 1) (x := 0) dL_law_1459 rfl (by decide) ?_
  refine z_arg C hX hbl hb hL (pc := 1460) (j := 1) (by omega) dL_law_1460 dL_law_1461 dL_law_1462 dL_law_1463 dL_law_1464 ?_
  refine z_arg C hX hbl hb hL (pc := 1465) (j := 2) (by omega) dL_law_1465 dL_law_1466 dL_law_1467 dL_law_1468 dL_law_1469 ?_
  refine z_callV (M := q_ML nm) C (pc := 1470) (M' := md_X10_total) (rm' := q_room 3) (mc' := 0) (ms' := 0) (n := 2) (k := 10) (av := [q_I ((xs (i + 1)).toInt), q_I ((xs (i + 2)).toInt)]) (r := 0) (v := some (q_I r)) (g' := q_g 126) (m' := m1) ml_12_176 im_X10_total se_X10_total dL_law_1470 (ok_X10_total (by decide) e1) rfl (is_0 (by decide)) ⟨_, _, rfl⟩ (by decide) (Nat.le_of_ble_eq_true rfl) ⟨rfl, rfl, Nat.le_of_ble_eq_true rfl, Nat.le_of_ble_eq_true rfl, hcu, hsu⟩ ?_
  refine z_aload_n (M := q_ML nm) C (pc := 1473) (n := 2) (x := 81) dL_law_1473 rfl (by decide) ?_
  refine z_arg C hX hbl hb hL (pc := 1474) (j := 1) (by omega) dL_law_1474 dL_law_1475 dL_law_1476 dL_law_1477 dL_law_1478 ?_
  refine z_arg C hX hbl hb hL (pc := 1479) (j := 2) (by omega) dL_law_1479 dL_law_1480 dL_law_1481 dL_law_1482 dL_law_1483 ?_
  refine z_callV (M := q_ML nm) C (pc := 1484) (M' := md_X11_total) (rm' := q_room 8) (mc' := 0) (ms' := 0) (n := 2) (k := 11) (av := [q_I ((xs (i + 1)).toInt), q_I ((xs (i + 2)).toInt)]) (r := 81) (v := some (q_I r')) (g' := q_g 126) (m' := m2) ml_12_179 im_X11_total se_X11_total dL_law_1484 (ok_X11_total (by decide) e2) rfl (is_81 (by decide)) ⟨_, _, rfl⟩ (by decide) (Nat.le_of_ble_eq_true rfl) ⟨rfl, rfl, Nat.le_of_ble_eq_true rfl, Nat.le_of_ble_eq_true rfl, hcu, hsu⟩ ?_
  exact z_icmp_eq (M := q_ML nm) C (pc := 1487) (tgt := 1574) dL_law_1487 (by decide) (fun _ => kk m2 hJ2) (fun h => absurd ee h)
theorem lc_40 (C : q_Cx (q_ML nm) p s mi args meth c D cs b ad adV) (hX : va_X (ad 29) L xs s s.heap) (hbl : ad 29 < s.heap.size) (hb : b = s.heap.size) (hL : L ≤ 3072) (hcu : cu ≤ 600000) (hsu : su ≤ 7302250) (hi : i + 6 ≤ L) (hJ : j_J m) (kk : ∀ m', j_J m' → q_K p l e s mi args below meth c D cs b ad 4 room_1 Q cu su (q_g 126) m' 1574 [q_S 29, q_A 0, q_A 81, q_I i] []) : q_K p l e s mi args below meth c D cs b ad 4 room_1 Q cu su (q_g 126) m 1492 [q_S 29, q_A 0, q_A 81, q_I i] [] := by
  have hop : j_op f_PG_law f_Mod_law := j_ask fun l o hk => b_law hk 
  obtain ⟨r, r', m1, m2, e1, e2, ee, hJ2⟩ := hop m hJ
  refine z_aload_n (M := q_ML nm) C (pc := 1492) (n := 1) (x := 0) dL_law_1492 rfl (by decide) ?_
  refine z_callV (M := q_ML nm) C (pc := 1493) (M' := md_X10_law) (rm' := q_room 7) (mc' := 0) (ms' := 0) (n := 0) (k := 10) (av := []) (r := 0) (v := some (q_I r)) (g' := q_g 126) (m' := m1) ml_12_180 im_X10_law se_X10_law dL_law_1493 (ok_X10_law (by decide) e1) rfl (is_0 (by decide)) ⟨_, _, rfl⟩ (by decide) (Nat.le_of_ble_eq_true rfl) ⟨rfl, rfl, Nat.le_of_ble_eq_true rfl, Nat.le_of_ble_eq_true rfl, hcu, hsu⟩ ?_
  refine z_aload_n (M := q_ML nm) C (pc := 1496) (n := 2) (x := 81) dL_law_1496 rfl (by decide) ?_
  refine z_callV (M := q_ML nm) C (pc := 1497) (M' := md_X11_law) (rm' := q_room 9) (mc' := 0) (ms' := 0) (n := 0) (k := 11) (av := []) (r := 81) (v := some (q_I r')) (g' := q_g 126) (m' := m2) ml_12_183 im_X11_law se_X11_law dL_law_1497 (ok_X11_law (by decide) e2) rfl (is_81 (by decide)) ⟨_, _, rfl⟩ (by decide) (Nat.le_of_ble_eq_true rfl) ⟨rfl, rfl, Nat.le_of_ble_eq_true rfl, Nat.le_of_ble_eq_true rfl, hcu, hsu⟩ ?_
  exact z_icmp_eq (M := q_ML nm) C (pc := 1500) (tgt := 1574) dL_law_1500 (by decide) (fun _ => kk m2 hJ2) (fun h => absurd ee h)
theorem lc_41 (C : q_Cx (q_ML nm) p s mi args meth c D cs b ad adV) (hX : va_X (ad 29) L xs s s.heap) (hbl : ad 29 < s.heap.size) (hb : b = s.heap.size) (hL : L ≤ 3072) (hcu : cu ≤ 600000) (hsu : su ≤ 7302250) (hi : i + 6 ≤ L) (hJ : j_J m) (kk : ∀ m', j_J m' → q_K p l e s mi args below meth c D cs b ad 4 room_1 Q cu su (q_g 126) m' 1574 [q_S 29, q_A 0, q_A 81, q_I i] []) : q_K p l e s mi args below meth c D cs b ad 4 room_1 Q cu su (q_g 126) m 1505 [q_S 29, q_A 0, q_A 81, q_I i] [] := by
  have hop : j_op (f_PG_image ((xs (i + 1)).toInt)) (f_Mod_image ((xs (i + 1)).toInt)) := a_image (z_32 _)
  obtain ⟨r, r', m1, m2, e1, e2, ee, hJ2⟩ := hop m hJ
  refine z_aload_n (M := q_ML nm) C (pc := 1505) (n := 1) (x := 0) dL_law_1505 rfl (by decide) ?_
  refine z_arg C hX hbl hb hL (pc := 1506) (j := 1) (by omega) dL_law_1506 dL_law_1507 dL_law_1508 dL_law_1509 dL_law_1510 ?_
  refine z_callV (M := q_ML nm) C (pc := 1511) (M' := md_X10_image) (rm' := q_room 2) (mc' := 0) (ms' := 0) (n := 1) (k := 10) (av := [q_I ((xs (i + 1)).toInt)]) (r := 0) (v := some (q_I r)) (g' := q_g 126) (m' := m1) ml_12_184 im_X10_image se_X10_image dL_law_1511 (ok_X10_image (by decide) e1) rfl (is_0 (by decide)) ⟨_, _, rfl⟩ (by decide) (Nat.le_of_ble_eq_true rfl) ⟨rfl, rfl, Nat.le_of_ble_eq_true rfl, Nat.le_of_ble_eq_true rfl, hcu, hsu⟩ ?_
  refine z_aload_n (M := q_ML nm) C (pc := 1514) (n := 2) (x := 81) dL_law_1514 rfl (by decide) ?_
  refine z_arg C hX hbl hb hL (pc := 1515) (j := 1) (by omega) dL_law_1515 dL_law_1516 dL_law_1517 dL_law_1518 dL_law_1519 ?_
  refine z_callV (M := q_ML nm) C (pc := 1520) (M' := md_X11_image) (rm' := q_room 8) (mc' := 0) (ms' := 0) (n := 1) (k := 11) (av := [q_I ((xs (i + 1)).toInt)]) (r := 81) (v := some (q_I r')) (g' := q_g 126) (m' := m2) ml_12_187 im_X11_image se_X11_image dL_law_1520 (ok_X11_image (by decide) e2) rfl (is_81 (by decide)) ⟨_, _, rfl⟩ (by decide) (Nat.le_of_ble_eq_true rfl) ⟨rfl, rfl, Nat.le_of_ble_eq_true rfl, Nat.le_of_ble_eq_true rfl, hcu, hsu⟩ ?_
  exact z_icmp_eq (M := q_ML nm) C (pc := 1523) (tgt := 1574) dL_law_1523 (by decide) (fun _ => kk m2 hJ2) (fun h => absurd ee h)
theorem lc_42 (C : q_Cx (q_ML nm) p s mi args meth c D cs b ad adV) (hX : va_X (ad 29) L xs s s.heap) (hbl : ad 29 < s.heap.size) (hb : b = s.heap.size) (hL : L ≤ 3072) (hcu : cu ≤ 600000) (hsu : su ≤ 7302250) (hi : i + 6 ≤ L) (hJ : j_J m) (kk : ∀ m', j_J m' → q_K p l e s mi args below meth c D cs b ad 4 room_1 Q cu su (q_g 126) m' 1574 [q_S 29, q_A 0, q_A 81, q_I i] []) : q_K p l e s mi args below meth c D cs b ad 4 room_1 Q cu su (q_g 126) m 1528 [q_S 29, q_A 0, q_A 81, q_I i] [] := by
  have hop : j_op (f_PG_back ((xs (i + 1)).toInt)) (f_Mod_back ((xs (i + 1)).toInt)) := a_back (z_32 _)
  obtain ⟨r, r', m1, m2, e1, e2, ee, hJ2⟩ := hop m hJ
  refine z_aload_n (M := q_ML nm) C (pc := 1528) (n := 1) (x := 0) dL_law_1528 rfl (by decide) ?_
  refine z_arg C hX hbl hb hL (pc := 1529) (j := 1) (by omega) dL_law_1529 dL_law_1530 dL_law_1531 dL_law_1532 dL_law_1533 ?_
  refine z_callV (M := q_ML nm) C (pc := 1534) (M' := md_X10_back) (rm' := q_room 5) (mc' := 0) (ms' := 0) (n := 1) (k := 10) (av := [q_I ((xs (i + 1)).toInt)]) (r := 0) (v := some (q_I r)) (g' := q_g 126) (m' := m1) ml_12_188 im_X10_back se_X10_back dL_law_1534 (ok_X10_back (by decide) e1) rfl (is_0 (by decide)) ⟨_, _, rfl⟩ (by decide) (Nat.le_of_ble_eq_true rfl) ⟨rfl, rfl, Nat.le_of_ble_eq_true rfl, Nat.le_of_ble_eq_true rfl, hcu, hsu⟩ ?_
  refine z_aload_n (M := q_ML nm) C (pc := 1537) (n := 2) (x := 81) dL_law_1537 rfl (by decide) ?_
  refine z_arg C hX hbl hb hL (pc := 1538) (j := 1) (by omega) dL_law_1538 dL_law_1539 dL_law_1540 dL_law_1541 dL_law_1542 ?_
  refine z_callV (M := q_ML nm) C (pc := 1543) (M' := md_X11_back) (rm' := q_room 8) (mc' := 0) (ms' := 0) (n := 1) (k := 11) (av := [q_I ((xs (i + 1)).toInt)]) (r := 81) (v := some (q_I r')) (g' := q_g 126) (m' := m2) ml_12_191 im_X11_back se_X11_back dL_law_1543 (ok_X11_back (by decide) e2) rfl (is_81 (by decide)) ⟨_, _, rfl⟩ (by decide) (Nat.le_of_ble_eq_true rfl) ⟨rfl, rfl, Nat.le_of_ble_eq_true rfl, Nat.le_of_ble_eq_true rfl, hcu, hsu⟩ ?_
  exact z_icmp_eq (M := q_ML nm) C (pc := 1546) (tgt := 1574) dL_law_1546 (by decide) (fun _ => kk m2 hJ2) (fun h => absurd ee h)
theorem lc_43 (C : q_Cx (q_ML nm) p s mi args meth c D cs b ad adV) (hX : va_X (ad 29) L xs s s.heap) (hbl : ad 29 < s.heap.size) (hb : b = s.heap.size) (hL : L ≤ 3072) (hcu : cu ≤ 600000) (hsu : su ≤ 7302250) (hi : i + 6 ≤ L) (hJ : j_J m) (kk : ∀ m', j_J m' → q_K p l e s mi args below meth c D cs b ad 4 room_1 Q cu su (q_g 126) m' 1574 [q_S 29, q_A 0, q_A 81, q_I i] []) : q_K p l e s mi args below meth c D cs b ad 4 room_1 Q cu su (q_g 126) m 1551 [q_S 29, q_A 0, q_A 81, q_I i] [] := by
  have hop : j_op (f_PG_about ((xs (i + 1)).toInt)) (f_Mod_about ((xs (i + 1)).toInt)) := a_about (z_32 _)
  obtain ⟨r, r', m1, m2, e1, e2, ee, hJ2⟩ := hop m hJ
  refine z_aload_n (M := q_ML nm) C (pc := 1551) (n := 1) (x := 0) dL_law_1551 rfl (by decide) ?_
  refine z_arg C hX hbl hb hL (pc := 1552) (j := 1) (by omega) dL_law_1552 dL_law_1553 dL_law_1554 dL_law_1555 dL_law_1556 ?_
  refine z_callV (M := q_ML nm) C (pc := 1557) (M' := md_X10_about) (rm' := q_room 2) (mc' := 0) (ms' := 0) (n := 1) (k := 10) (av := [q_I ((xs (i + 1)).toInt)]) (r := 0) (v := some (q_I r)) (g' := q_g 126) (m' := m1) ml_12_192 im_X10_about se_X10_about dL_law_1557 (ok_X10_about (by decide) e1) rfl (is_0 (by decide)) ⟨_, _, rfl⟩ (by decide) (Nat.le_of_ble_eq_true rfl) ⟨rfl, rfl, Nat.le_of_ble_eq_true rfl, Nat.le_of_ble_eq_true rfl, hcu, hsu⟩ ?_
  refine z_aload_n (M := q_ML nm) C (pc := 1560) (n := 2) (x := 81) dL_law_1560 rfl (by decide) ?_
  refine z_arg C hX hbl hb hL (pc := 1561) (j := 1) (by omega) dL_law_1561 dL_law_1562 dL_law_1563 dL_law_1564 dL_law_1565 ?_
  refine z_callV (M := q_ML nm) C (pc := 1566) (M' := md_X11_about) (rm' := q_room 2) (mc' := 0) (ms' := 0) (n := 1) (k := 11) (av := [q_I ((xs (i + 1)).toInt)]) (r := 81) (v := some (q_I r')) (g' := q_g 126) (m' := m2) ml_12_195 im_X11_about se_X11_about dL_law_1566 (ok_X11_about (by decide) e2) rfl (is_81 (by decide)) ⟨_, _, rfl⟩ (by decide) (Nat.le_of_ble_eq_true rfl) ⟨rfl, rfl, Nat.le_of_ble_eq_true rfl, Nat.le_of_ble_eq_true rfl, hcu, hsu⟩ ?_
  exact z_icmp_eq (M := q_ML nm) C (pc := 1569) (tgt := 1574) dL_law_1569 (by decide) (fun _ => kk m2 hJ2) (fun h => absurd ee h)
theorem z_sw {x : Int} (C : q_Cx (q_ML nm) p s mi args meth c D cs b ad adV) (hX : va_X (ad 29) L xs s s.heap) (hbl : ad 29 < s.heap.size) (hb : b = s.heap.size) (hL : L ≤ 3072) (hcu : cu ≤ 600000) (hsu : su ≤ 7302250) (hi : i + 6 ≤ L) (hJ : j_J m) (kk : ∀ m', j_J m' → q_K p l e s mi args below meth c D cs b ad 4 room_1 Q cu su (q_g 126) m' 1574 [q_S 29, q_A 0, q_A 81, q_I i] []) (hx : 0 ≤ q_w x ∧ q_w x < 64) : q_K p l e s mi args below meth c D cs b ad 4 room_1 Q cu su (q_g 126) m 33 [q_S 29, q_A 0, q_A 81, q_I i] [q_I x] := by
  by_cases h43 : q_w x ≤ 43
  · obtain ⟨k, hk⟩ : ∃ k : Nat, q_w x = k := ⟨(q_w x).toNat, by omega⟩
    have hk' : k < 44 := by omega
    match k, hk, hk' with
    | 0, hk, _ => exact z_tabIn (M := q_ML nm) C (pc := 33) (off := 191) (tgt := 224) dL_law_33 (by omega) (by omega) (by rw [hk]; rfl) (by decide) (lc_0 C hX hbl hb hL hcu hsu hi hJ kk)
    | 1, hk, _ => exact z_tabIn (M := q_ML nm) C (pc := 33) (off := 254) (tgt := 287) dL_law_33 (by omega) (by omega) (by rw [hk]; rfl) (by decide) (lc_1 C hX hbl hb hL hcu hsu hi hJ kk)
    | 2, hk, _ => exact z_tabIn (M := q_ML nm) C (pc := 33) (off := 277) (tgt := 310) dL_law_33 (by omega) (by omega) (by rw [hk]; rfl) (by decide) (lc_2 C hX hbl hb hL hcu hsu hi hJ kk)
    | 3, hk, _ => exact z_tabIn (M := q_ML nm) C (pc := 33) (off := 290) (tgt := 323) dL_law_33 (by omega) (by omega) (by rw [hk]; rfl) (by decide) (lc_3 C hX hbl hb hL hcu hsu hi hJ kk)
    | 4, hk, _ => exact z_tabIn (M := q_ML nm) C (pc := 33) (off := 313) (tgt := 346) dL_law_33 (by omega) (by omega) (by rw [hk]; rfl) (by decide) (lc_4 C hX hbl hb hL hcu hsu hi hJ kk)
    | 5, hk, _ => exact z_tabIn (M := q_ML nm) C (pc := 33) (off := 346) (tgt := 379) dL_law_33 (by omega) (by omega) (by rw [hk]; rfl) (by decide) (lc_5 C hX hbl hb hL hcu hsu hi hJ kk)
    | 6, hk, _ => exact z_tabIn (M := q_ML nm) C (pc := 33) (off := 379) (tgt := 412) dL_law_33 (by omega) (by omega) (by rw [hk]; rfl) (by decide) (lc_6 C hX hbl hb hL hcu hsu hi hJ kk)
    | 7, hk, _ => exact z_tabIn (M := q_ML nm) C (pc := 33) (off := 402) (tgt := 435) dL_law_33 (by omega) (by omega) (by rw [hk]; rfl) (by decide) (lc_7 C hX hbl hb hL hcu hsu hi hJ kk)
    | 8, hk, _ => exact z_tabIn (M := q_ML nm) C (pc := 33) (off := 451) (tgt := 484) dL_law_33 (by omega) (by omega) (by rw [hk]; rfl) (by decide) (lc_8 C hX hbl hb hL hcu hsu hi hJ kk)
    | 9, hk, _ => exact z_tabIn (M := q_ML nm) C (pc := 33) (off := 464) (tgt := 497) dL_law_33 (by omega) (by omega) (by rw [hk]; rfl) (by decide) (lc_9 C hX hbl hb hL hcu hsu hi hJ kk)
    | 10, hk, _ => exact z_tabIn (M := q_ML nm) C (pc := 33) (off := 477) (tgt := 510) dL_law_33 (by omega) (by omega) (by rw [hk]; rfl) (by decide) (lc_10 C hX hbl hb hL hcu hsu hi hJ kk)
    | 11, hk, _ => exact z_tabIn (M := q_ML nm) C (pc := 33) (off := 520) (tgt := 553) dL_law_33 (by omega) (by omega) (by rw [hk]; rfl) (by decide) (lc_11 C hX hbl hb hL hcu hsu hi hJ kk)
    | 12, hk, _ => exact z_tabIn (M := q_ML nm) C (pc := 33) (off := 553) (tgt := 586) dL_law_33 (by omega) (by omega) (by rw [hk]; rfl) (by decide) (lc_12 C hX hbl hb hL hcu hsu hi hJ kk)
    | 13, hk, _ => exact z_tabIn (M := q_ML nm) C (pc := 33) (off := 586) (tgt := 619) dL_law_33 (by omega) (by omega) (by rw [hk]; rfl) (by decide) (lc_13 C hX hbl hb hL hcu hsu hi hJ kk)
    | 14, hk, _ => exact z_tabIn (M := q_ML nm) C (pc := 33) (off := 629) (tgt := 662) dL_law_33 (by omega) (by omega) (by rw [hk]; rfl) (by decide) (lc_14 C hX hbl hb hL hcu hsu hi hJ kk)
    | 15, hk, _ => exact z_tabIn (M := q_ML nm) C (pc := 33) (off := 642) (tgt := 675) dL_law_33 (by omega) (by omega) (by rw [hk]; rfl) (by decide) (lc_15 C hX hbl hb hL hcu hsu hi hJ kk)
    | 16, hk, _ => exact z_tabIn (M := q_ML nm) C (pc := 33) (off := 675) (tgt := 708) dL_law_33 (by omega) (by omega) (by rw [hk]; rfl) (by decide) (lc_16 C hX hbl hb hL hcu hsu hi hJ kk)
    | 17, hk, _ => exact z_tabIn (M := q_ML nm) C (pc := 33) (off := 708) (tgt := 741) dL_law_33 (by omega) (by omega) (by rw [hk]; rfl) (by decide) (lc_17 C hX hbl hb hL hcu hsu hi hJ kk)
    | 18, hk, _ => exact z_tabIn (M := q_ML nm) C (pc := 33) (off := 741) (tgt := 774) dL_law_33 (by omega) (by omega) (by rw [hk]; rfl) (by decide) (lc_18 C hX hbl hb hL hcu hsu hi hJ kk)
    | 19, hk, _ => exact z_tabIn (M := q_ML nm) C (pc := 33) (off := 764) (tgt := 797) dL_law_33 (by omega) (by omega) (by rw [hk]; rfl) (by decide) (lc_19 C hX hbl hb hL hcu hsu hi hJ kk)
    | 20, hk, _ => exact z_tabIn (M := q_ML nm) C (pc := 33) (off := 797) (tgt := 830) dL_law_33 (by omega) (by omega) (by rw [hk]; rfl) (by decide) (lc_20 C hX hbl hb hL hcu hsu hi hJ kk)
    | 21, hk, _ => exact z_tabIn (M := q_ML nm) C (pc := 33) (off := 820) (tgt := 853) dL_law_33 (by omega) (by omega) (by rw [hk]; rfl) (by decide) (lc_21 C hX hbl hb hL hcu hsu hi hJ kk)
    | 22, hk, _ => exact z_tabIn (M := q_ML nm) C (pc := 33) (off := 853) (tgt := 886) dL_law_33 (by omega) (by omega) (by rw [hk]; rfl) (by decide) (lc_22 C hX hbl hb hL hcu hsu hi hJ kk)
    | 23, hk, _ => exact z_tabIn (M := q_ML nm) C (pc := 33) (off := 886) (tgt := 919) dL_law_33 (by omega) (by omega) (by rw [hk]; rfl) (by decide) (lc_23 C hX hbl hb hL hcu hsu hi hJ kk)
    | 24, hk, _ => exact z_tabIn (M := q_ML nm) C (pc := 33) (off := 919) (tgt := 952) dL_law_33 (by omega) (by omega) (by rw [hk]; rfl) (by decide) (lc_24 C hX hbl hb hL hcu hsu hi hJ kk)
    | 25, hk, _ => exact z_tabIn (M := q_ML nm) C (pc := 33) (off := 942) (tgt := 975) dL_law_33 (by omega) (by omega) (by rw [hk]; rfl) (by decide) (lc_25 C hX hbl hb hL hcu hsu hi hJ kk)
    | 26, hk, _ => exact z_tabIn (M := q_ML nm) C (pc := 33) (off := 975) (tgt := 1008) dL_law_33 (by omega) (by omega) (by rw [hk]; rfl) (by decide) (lc_26 C hX hbl hb hL hcu hsu hi hJ kk)
    | 27, hk, _ => exact z_tabIn (M := q_ML nm) C (pc := 33) (off := 1024) (tgt := 1057) dL_law_33 (by omega) (by omega) (by rw [hk]; rfl) (by decide) (lc_27 C hX hbl hb hL hcu hsu hi hJ kk)
    | 28, hk, _ => exact z_tabIn (M := q_ML nm) C (pc := 33) (off := 1073) (tgt := 1106) dL_law_33 (by omega) (by omega) (by rw [hk]; rfl) (by decide) (lc_28 C hX hbl hb hL hcu hsu hi hJ kk)
    | 29, hk, _ => exact z_tabIn (M := q_ML nm) C (pc := 33) (off := 1106) (tgt := 1139) dL_law_33 (by omega) (by omega) (by rw [hk]; rfl) (by decide) (lc_29 C hX hbl hb hL hcu hsu hi hJ kk)
    | 30, hk, _ => exact z_tabIn (M := q_ML nm) C (pc := 33) (off := 1119) (tgt := 1152) dL_law_33 (by omega) (by omega) (by rw [hk]; rfl) (by decide) (lc_30 C hX hbl hb hL hcu hsu hi hJ kk)
    | 31, hk, _ => exact z_tabIn (M := q_ML nm) C (pc := 33) (off := 1142) (tgt := 1175) dL_law_33 (by omega) (by omega) (by rw [hk]; rfl) (by decide) (lc_31 C hX hbl hb hL hcu hsu hi hJ kk)
    | 32, hk, _ => exact z_tabIn (M := q_ML nm) C (pc := 33) (off := 1165) (tgt := 1198) dL_law_33 (by omega) (by omega) (by rw [hk]; rfl) (by decide) (lc_32 C hX hbl hb hL hcu hsu hi hJ kk)
    | 33, hk, _ => exact z_tabIn (M := q_ML nm) C (pc := 33) (off := 1208) (tgt := 1241) dL_law_33 (by omega) (by omega) (by rw [hk]; rfl) (by decide) (lc_33 C hX hbl hb hL hcu hsu hi hJ kk)
    | 34, hk, _ => exact z_tabIn (M := q_ML nm) C (pc := 33) (off := 1241) (tgt := 1274) dL_law_33 (by omega) (by omega) (by rw [hk]; rfl) (by decide) (lc_34 C hX hbl hb hL hcu hsu hi hJ kk)
    | 35, hk, _ => exact z_tabIn (M := q_ML nm) C (pc := 33) (off := 1284) (tgt := 1317) dL_law_33 (by omega) (by omega) (by rw [hk]; rfl) (by decide) (lc_35 C hX hbl hb hL hcu hsu hi hJ kk)
    | 36, hk, _ => exact z_tabIn (M := q_ML nm) C (pc := 33) (off := 1307) (tgt := 1340) dL_law_33 (by omega) (by omega) (by rw [hk]; rfl) (by decide) (lc_36 C hX hbl hb hL hcu hsu hi hJ kk)
    | 37, hk, _ => exact z_tabIn (M := q_ML nm) C (pc := 33) (off := 1340) (tgt := 1373) dL_law_33 (by omega) (by omega) (by rw [hk]; rfl) (by decide) (lc_37 C hX hbl hb hL hcu hsu hi hJ kk)
    | 38, hk, _ => exact z_tabIn (M := q_ML nm) C (pc := 33) (off := 1383) (tgt := 1416) dL_law_33 (by omega) (by omega) (by rw [hk]; rfl) (by decide) (lc_38 C hX hbl hb hL hcu hsu hi hJ kk)
    | 39, hk, _ => exact z_tabIn (M := q_ML nm) C (pc := 33) (off := 1426) (tgt := 1459) dL_law_33 (by omega) (by omega) (by rw [hk]; rfl) (by decide) (lc_39 C hX hbl hb hL hcu hsu hi hJ kk)
    | 40, hk, _ => exact z_tabIn (M := q_ML nm) C (pc := 33) (off := 1459) (tgt := 1492) dL_law_33 (by omega) (by omega) (by rw [hk]; rfl) (by decide) (lc_40 C hX hbl hb hL hcu hsu hi hJ kk)
    | 41, hk, _ => exact z_tabIn (M := q_ML nm) C (pc := 33) (off := 1472) (tgt := 1505) dL_law_33 (by omega) (by omega) (by rw [hk]; rfl) (by decide) (lc_41 C hX hbl hb hL hcu hsu hi hJ kk)
    | 42, hk, _ => exact z_tabIn (M := q_ML nm) C (pc := 33) (off := 1495) (tgt := 1528) dL_law_33 (by omega) (by omega) (by rw [hk]; rfl) (by decide) (lc_42 C hX hbl hb hL hcu hsu hi hJ kk)
    | 43, hk, _ => exact z_tabIn (M := q_ML nm) C (pc := 33) (off := 1518) (tgt := 1551) dL_law_33 (by omega) (by omega) (by rw [hk]; rfl) (by decide) (lc_43 C hX hbl hb hL hcu hsu hi hJ kk)
    | k + 44, _, h => omega
  · exact z_tabOut (M := q_ML nm) C (pc := 33) (tgt := 1574) dL_law_33 (Or.inr (by omega)) (by decide) (kk m hJ)
theorem z_and63 (x : Int32) : 0 ≤ q_w (q_and x.toInt 63) ∧ q_w (q_and x.toInt 63) < 64 := by
  have e : q_w (q_and x.toInt 63) = (x &&& 63).toInt := by
    unfold q_and q_w
    rw [Int32.ofInt_toInt, Int32.ofInt_toInt]
    rfl
  rw [e]
  have h : (x &&& 63).toBitVec.toNat < 64 := by
    show (x.toBitVec &&& 63#32).toNat < 64
    rw [BitVec.toNat_and]
    exact Nat.lt_of_le_of_lt Nat.and_le_right (by decide)
  have h2 : (x &&& 63).toInt = ((x &&& 63).toBitVec.toNat : Int) := by
    show (x &&& 63).toBitVec.toInt = _
    rw [BitVec.toInt_eq_toNat_of_lt (by omega)]
  rw [h2]
  omega
theorem z_loop (C : q_Cx (q_ML nm) p s mi args meth c D cs b ad adV) (hX : va_X (ad 29) L xs s s.heap) (hbl : ad 29 < s.heap.size) (hb : b = s.heap.size) (hL : L ≤ 3072) (hcu : cu ≤ 600000) (hsu : su ≤ 7302250) (kend : ∀ (m' : q_Mem) (i : Nat), q_K p l e s mi args below meth c D cs b ad 4 room_1 Q cu su (q_g 126) m' 1580 [q_S 29, q_A 0, q_A 81, q_I i] []) : ∀ (n i : Nat) (m : q_Mem), j_J m → i ≤ L → L ≤ i + n → q_K p l e s mi args below meth c D cs b ad 4 room_1 Q cu su (q_g 126) m 18 [q_S 29, q_A 0, q_A 81, q_I i] [] := by
  intro n
  induction n with
  | zero =>
    intro i m hJ hi hn
    refine z_iload_n (M := q_ML nm) C (pc := 18) (n := 3) (x := i) dL_law_18 rfl ?_
    refine z_aload_nS (M := q_ML nm) C (pc := 19) (n := 0) (x := 29) dL_law_19 rfl ?_
    refine z_slen (M := q_ML nm) C hX hbl hb (pc := 20) dL_law_20 ?_
    refine z_bipush (M := q_ML nm) C (pc := 21) (x := 6) dL_law_21 (by decide) ?_
    refine z_isub (M := q_ML nm) C (pc := 23) dL_law_23 ?_
    refine z_icmp_gt (M := q_ML nm) C (pc := 24) (tgt := 1580) dL_law_24 (by decide) (fun _ => kend m i) (fun h => ?_)
    rw [q_w_id (x := (i : Int)) (by omega) (by omega), q_w_id (x := (L : Int) - 6) (by omega) (by omega)] at h
    omega
  | succ n ih =>
    intro i m hJ hi hn
    refine z_iload_n (M := q_ML nm) C (pc := 18) (n := 3) (x := i) dL_law_18 rfl ?_
    refine z_aload_nS (M := q_ML nm) C (pc := 19) (n := 0) (x := 29) dL_law_19 rfl ?_
    refine z_slen (M := q_ML nm) C hX hbl hb (pc := 20) dL_law_20 ?_
    refine z_bipush (M := q_ML nm) C (pc := 21) (x := 6) dL_law_21 (by decide) ?_
    refine z_isub (M := q_ML nm) C (pc := 23) dL_law_23 ?_
    refine z_icmp_gt (M := q_ML nm) C (pc := 24) (tgt := 1580) dL_law_24 (by decide) (fun _ => kend m i) (fun h => ?_)
    rw [q_w_id (x := (i : Int)) (by omega) (by omega), q_w_id (x := (L : Int) - 6) (by omega) (by omega)] at h
    refine z_aload_nS (M := q_ML nm) C (pc := 27) (n := 0) (x := 29) dL_law_27 rfl ?_
    refine z_iload_n (M := q_ML nm) C (pc := 28) (n := 3) (x := i) dL_law_28 rfl ?_
    refine z_sld (M := q_ML nm) (n := i) C hX hbl hb (pc := 29) dL_law_29 (q_w_id (by omega) (by omega)) (by omega) ?_
    refine z_bipush (M := q_ML nm) C (pc := 30) (x := 63) dL_law_30 (by decide) ?_
    refine z_iand (M := q_ML nm) C (pc := 32) dL_law_32 ?_
    refine z_sw C hX hbl hb hL hcu hsu (by omega) hJ (fun m' hJ' => ?_) (z_and63 (xs i))
    refine z_iinc (M := q_ML nm) C (pc := 1574) (i := 3) (x := i) dL_law_1574 rfl (show 3 < 4 by decide) (q_pl rfl) ?_
    refine z_goto (M := q_ML nm) C (pc := 1577) (tgt := 18) dL_law_1577 (by decide) ?_
    exact ih (i + 6) m' hJ' (by omega) (by omega)
end q_cases
