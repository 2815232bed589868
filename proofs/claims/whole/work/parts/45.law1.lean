section LAWC
variable {p : Program} {l : Launch} {e : Env} {s : State} {m : MethodId} {below : List Frame} {meth : Method} {c : Code} {H : Heap} {locs : List Loc} {Q : State → Prop} {E : Ev} {S V : St} {ls : Array Slot} {b L : Nat} {xs : Nat → Int32} {x3 : Int32}
set_option maxRecDepth 20000 in
theorem case_person {RR : St → St → Prop} (hs : LS_person RR) (C : Cx p s m #[Value.ref b] meth c E code 4 RL ret) (hXs : va_X b L xs s s.heap) (hbl : b < s.heap.size) (hbA : ¬ eA E b) (hi : vp_in (x3 + 1) L ∧ vp_in (x3 + 2) L ∧ vp_in (x3 + 3) L ∧ vp_in (x3 + 4) L ∧ vp_in (x3 + 5) L)
    (nxt : ∀ (S V : St) (H : Heap) (locs : List Loc), RR S V → Wd E (wX V E) s.heap S H locs → ∀ (ls : Array Slot), lv_has ls 4 [(0, .ref b), (1, .ref (ea E 0)), (2, .ref (ea E 44)), (3, .int x3)] → W p l e room_1 s m #[Value.ref b] below meth c H locs 600000 7302250 Q (F0 m 1694 ls []))
    (hR : RR S V) (hw : Wd E (wX V E) s.heap S H locs) (hl : lv_has ls 4 [(0, .ref b), (1, .ref (ea E 0)), (2, .ref (ea E 44)), (3, .int x3)]) : W p l e room_1 s m #[Value.ref b] below meth c H locs 600000 7302250 Q (F0 m 228 ls []) := by
  have hx := C.1
  have hb := C.2.1
  obtain ⟨r, S1, V1, hX, hM, hR1⟩ := hs S V (xs (x3 + (1 : Int32)).toNatClampNeg) (xs (x3 + (2 : Int32)).toNatClampNeg) hR
  refine lv_aload_n hx hb dL_law_228 rfl (lv_at hl 1 rfl) ?_
  refine lv_aload_n hx hb dL_law_229 rfl (lv_at hl 0 rfl) ?_
  refine lv_iload_n hx hb dL_law_230 rfl (lv_at hl 3 rfl) ?_
  refine lv_iconst (v := 1) hx hb dL_law_231 kc_1 ?_
  refine lv_iadd hx hb dL_law_232 ?_
  refine va_sld hx hb hXs hbl hbA hw.2.2 hi.1 dL_law_233 ?_
  refine lv_aload_n hx hb dL_law_234 rfl (lv_at hl 0 rfl) ?_
  refine lv_iload_n hx hb dL_law_235 rfl (lv_at hl 3 rfl) ?_
  refine lv_iconst (v := 2) hx hb dL_law_236 kc_2 ?_
  refine lv_iadd hx hb dL_law_237 ?_
  refine va_sld hx hb hXs hbl hbA hw.2.2 hi.2.1 dL_law_238 ?_
  refine inv_Li (w := wX V) (q0 := 0) (ci := 10) (As := [.int (xs (x3 + (1 : Int32)).toNatClampNeg), .int (xs (x3 + (2 : Int32)).toNatClampNeg)]) (rest := []) lk_L_13 C hw rfl rfl rfl (t_Ch_person (V := V) hX) rfl hl.1 dL_law_239 rfl (Nat.le_of_ble_eq_true rfl) (by decide) (Nat.le_of_ble_eq_true rfl) rfl (fun H locs hw => ?_)
  refine lv_aload_n hx hb dL_law_242 rfl (lv_at hl 2 rfl) ?_
  refine lv_aload_n hx hb dL_law_243 rfl (lv_at hl 0 rfl) ?_
  refine lv_iload_n hx hb dL_law_244 rfl (lv_at hl 3 rfl) ?_
  refine lv_iconst (v := 1) hx hb dL_law_245 kc_1 ?_
  refine lv_iadd hx hb dL_law_246 ?_
  refine va_sld hx hb hXs hbl hbA hw.2.2 hi.1 dL_law_247 ?_
  refine lv_aload_n hx hb dL_law_248 rfl (lv_at hl 0 rfl) ?_
  refine lv_iload_n hx hb dL_law_249 rfl (lv_at hl 3 rfl) ?_
  refine lv_iconst (v := 2) hx hb dL_law_250 kc_2 ?_
  refine lv_iadd hx hb dL_law_251 ?_
  refine va_sld hx hb hXs hbl hbA hw.2.2 hi.2.1 dL_law_252 ?_
  refine inv_Li (w := wM S1) (q0 := 44) (ci := 11) (As := [.int (xs (x3 + (1 : Int32)).toNatClampNeg), .int (xs (x3 + (2 : Int32)).toNatClampNeg)]) (rest := [.int r]) lk_L_17 C hw rfl rfl rfl (t_Mo_person (V := S1) hM) rfl hl.1 dL_law_253 rfl (Nat.le_of_ble_eq_true rfl) (by decide) (Nat.le_of_ble_eq_true rfl) rfl (fun H locs hw => ?_)
  refine lv_icmp_eq (tgt := 1694) hx hb dL_law_256 (by decide) (fun q => ?_) (fun q => absurd rfl q)
  exact nxt S1 V1 H locs hR1 hw ls hl
set_option maxRecDepth 20000 in
theorem case_promise {RR : St → St → Prop} (hs : LS_promise RR) (C : Cx p s m #[Value.ref b] meth c E code 4 RL ret) (hXs : va_X b L xs s s.heap) (hbl : b < s.heap.size) (hbA : ¬ eA E b) (hi : vp_in (x3 + 1) L ∧ vp_in (x3 + 2) L ∧ vp_in (x3 + 3) L ∧ vp_in (x3 + 4) L ∧ vp_in (x3 + 5) L)
    (nxt : ∀ (S V : St) (H : Heap) (locs : List Loc), RR S V → Wd E (wX V E) s.heap S H locs → ∀ (ls : Array Slot), lv_has ls 4 [(0, .ref b), (1, .ref (ea E 0)), (2, .ref (ea E 44)), (3, .int x3)] → W p l e room_1 s m #[Value.ref b] below meth c H locs 600000 7302250 Q (F0 m 1694 ls []))
    (hR : RR S V) (hw : Wd E (wX V E) s.heap S H locs) (hl : lv_has ls 4 [(0, .ref b), (1, .ref (ea E 0)), (2, .ref (ea E 44)), (3, .int x3)]) : W p l e room_1 s m #[Value.ref b] below meth c H locs 600000 7302250 Q (F0 m 261 ls []) := by
  have hx := C.1
  have hb := C.2.1
  obtain ⟨r, S1, V1, hX, hM, hR1⟩ := hs S V (xs (x3 + (1 : Int32)).toNatClampNeg) (xs (x3 + (2 : Int32)).toNatClampNeg) hR
  refine lv_aload_n hx hb dL_law_261 rfl (lv_at hl 1 rfl) ?_
  refine lv_aload_n hx hb dL_law_262 rfl (lv_at hl 0 rfl) ?_
  refine lv_iload_n hx hb dL_law_263 rfl (lv_at hl 3 rfl) ?_
  refine lv_iconst (v := 1) hx hb dL_law_264 kc_1 ?_
  refine lv_iadd hx hb dL_law_265 ?_
  refine va_sld hx hb hXs hbl hbA hw.2.2 hi.1 dL_law_266 ?_
  refine lv_aload_n hx hb dL_law_267 rfl (lv_at hl 0 rfl) ?_
  refine lv_iload_n hx hb dL_law_268 rfl (lv_at hl 3 rfl) ?_
  refine lv_iconst (v := 2) hx hb dL_law_269 kc_2 ?_
  refine lv_iadd hx hb dL_law_270 ?_
  refine va_sld hx hb hXs hbl hbA hw.2.2 hi.2.1 dL_law_271 ?_
  refine inv_Li (w := wX V) (q0 := 0) (ci := 10) (As := [.int (xs (x3 + (1 : Int32)).toNatClampNeg), .int (xs (x3 + (2 : Int32)).toNatClampNeg)]) (rest := []) lk_L_18 C hw rfl rfl rfl (t_Ch_promise (V := V) hX) rfl hl.1 dL_law_272 rfl (Nat.le_of_ble_eq_true rfl) (by decide) (Nat.le_of_ble_eq_true rfl) rfl (fun H locs hw => ?_)
  refine lv_aload_n hx hb dL_law_275 rfl (lv_at hl 2 rfl) ?_
  refine lv_aload_n hx hb dL_law_276 rfl (lv_at hl 0 rfl) ?_
  refine lv_iload_n hx hb dL_law_277 rfl (lv_at hl 3 rfl) ?_
  refine lv_iconst (v := 1) hx hb dL_law_278 kc_1 ?_
  refine lv_iadd hx hb dL_law_279 ?_
  refine va_sld hx hb hXs hbl hbA hw.2.2 hi.1 dL_law_280 ?_
  refine lv_aload_n hx hb dL_law_281 rfl (lv_at hl 0 rfl) ?_
  refine lv_iload_n hx hb dL_law_282 rfl (lv_at hl 3 rfl) ?_
  refine lv_iconst (v := 2) hx hb dL_law_283 kc_2 ?_
  refine lv_iadd hx hb dL_law_284 ?_
  refine va_sld hx hb hXs hbl hbA hw.2.2 hi.2.1 dL_law_285 ?_
  refine inv_Li (w := wM S1) (q0 := 44) (ci := 11) (As := [.int (xs (x3 + (1 : Int32)).toNatClampNeg), .int (xs (x3 + (2 : Int32)).toNatClampNeg)]) (rest := [.int r]) lk_L_21 C hw rfl rfl rfl (t_Mo_promise (V := S1) hM) rfl hl.1 dL_law_286 rfl (Nat.le_of_ble_eq_true rfl) (by decide) (Nat.le_of_ble_eq_true rfl) rfl (fun H locs hw => ?_)
  refine lv_icmp_eq (tgt := 1694) hx hb dL_law_289 (by decide) (fun q => ?_) (fun q => absurd rfl q)
  exact nxt S1 V1 H locs hR1 hw ls hl
set_option maxRecDepth 20000 in
theorem case_promises {RR : St → St → Prop} (hs : LS_promises RR) (C : Cx p s m #[Value.ref b] meth c E code 4 RL ret) (hXs : va_X b L xs s s.heap) (hbl : b < s.heap.size) (hbA : ¬ eA E b) (hi : vp_in (x3 + 1) L ∧ vp_in (x3 + 2) L ∧ vp_in (x3 + 3) L ∧ vp_in (x3 + 4) L ∧ vp_in (x3 + 5) L)
    (nxt : ∀ (S V : St) (H : Heap) (locs : List Loc), RR S V → Wd E (wX V E) s.heap S H locs → ∀ (ls : Array Slot), lv_has ls 4 [(0, .ref b), (1, .ref (ea E 0)), (2, .ref (ea E 44)), (3, .int x3)] → W p l e room_1 s m #[Value.ref b] below meth c H locs 600000 7302250 Q (F0 m 1694 ls []))
    (hR : RR S V) (hw : Wd E (wX V E) s.heap S H locs) (hl : lv_has ls 4 [(0, .ref b), (1, .ref (ea E 0)), (2, .ref (ea E 44)), (3, .int x3)]) : W p l e room_1 s m #[Value.ref b] below meth c H locs 600000 7302250 Q (F0 m 294 ls []) := by
  have hx := C.1
  have hb := C.2.1
  obtain ⟨r, S1, V1, hX, hM, hR1⟩ := hs S V (xs (x3 + (1 : Int32)).toNatClampNeg) (xs (x3 + (2 : Int32)).toNatClampNeg) (xs (x3 + (3 : Int32)).toNatClampNeg) hR
  refine lv_aload_n hx hb dL_law_294 rfl (lv_at hl 1 rfl) ?_
  refine lv_aload_n hx hb dL_law_295 rfl (lv_at hl 0 rfl) ?_
  refine lv_iload_n hx hb dL_law_296 rfl (lv_at hl 3 rfl) ?_
  refine lv_iconst (v := 1) hx hb dL_law_297 kc_1 ?_
  refine lv_iadd hx hb dL_law_298 ?_
  refine va_sld hx hb hXs hbl hbA hw.2.2 hi.1 dL_law_299 ?_
  refine lv_aload_n hx hb dL_law_300 rfl (lv_at hl 0 rfl) ?_
  refine lv_iload_n hx hb dL_law_301 rfl (lv_at hl 3 rfl) ?_
  refine lv_iconst (v := 2) hx hb dL_law_302 kc_2 ?_
  refine lv_iadd hx hb dL_law_303 ?_
  refine va_sld hx hb hXs hbl hbA hw.2.2 hi.2.1 dL_law_304 ?_
  refine lv_aload_n hx hb dL_law_305 rfl (lv_at hl 0 rfl) ?_
  refine lv_iload_n hx hb dL_law_306 rfl (lv_at hl 3 rfl) ?_
  refine lv_iconst (v := 3) hx hb dL_law_307 kc_3 ?_
  refine lv_iadd hx hb dL_law_308 ?_
  refine va_sld hx hb hXs hbl hbA hw.2.2 hi.2.2.1 dL_law_309 ?_
  refine inv_Li (w := wX V) (q0 := 0) (ci := 10) (As := [.int (xs (x3 + (1 : Int32)).toNatClampNeg), .int (xs (x3 + (2 : Int32)).toNatClampNeg), .int (xs (x3 + (3 : Int32)).toNatClampNeg)]) (rest := []) lk_L_22 C hw rfl rfl rfl (t_Ch_promises (V := V) hX) rfl hl.1 dL_law_310 rfl (Nat.le_of_ble_eq_true rfl) (by decide) (Nat.le_of_ble_eq_true rfl) rfl (fun H locs hw => ?_)
  refine lv_aload_n hx hb dL_law_313 rfl (lv_at hl 2 rfl) ?_
  refine lv_aload_n hx hb dL_law_314 rfl (lv_at hl 0 rfl) ?_
  refine lv_iload_n hx hb dL_law_315 rfl (lv_at hl 3 rfl) ?_
  refine lv_iconst (v := 1) hx hb dL_law_316 kc_1 ?_
  refine lv_iadd hx hb dL_law_317 ?_
  refine va_sld hx hb hXs hbl hbA hw.2.2 hi.1 dL_law_318 ?_
  refine lv_aload_n hx hb dL_law_319 rfl (lv_at hl 0 rfl) ?_
  refine lv_iload_n hx hb dL_law_320 rfl (lv_at hl 3 rfl) ?_
  refine lv_iconst (v := 2) hx hb dL_law_321 kc_2 ?_
  refine lv_iadd hx hb dL_law_322 ?_
  refine va_sld hx hb hXs hbl hbA hw.2.2 hi.2.1 dL_law_323 ?_
  refine lv_aload_n hx hb dL_law_324 rfl (lv_at hl 0 rfl) ?_
  refine lv_iload_n hx hb dL_law_325 rfl (lv_at hl 3 rfl) ?_
  refine lv_iconst (v := 3) hx hb dL_law_326 kc_3 ?_
  refine lv_iadd hx hb dL_law_327 ?_
  refine va_sld hx hb hXs hbl hbA hw.2.2 hi.2.2.1 dL_law_328 ?_
  refine inv_Li (w := wM S1) (q0 := 44) (ci := 11) (As := [.int (xs (x3 + (1 : Int32)).toNatClampNeg), .int (xs (x3 + (2 : Int32)).toNatClampNeg), .int (xs (x3 + (3 : Int32)).toNatClampNeg)]) (rest := [.int r]) lk_L_26 C hw rfl rfl rfl (t_Mo_promises (V := S1) hM) rfl hl.1 dL_law_329 rfl (Nat.le_of_ble_eq_true rfl) (by decide) (Nat.le_of_ble_eq_true rfl) rfl (fun H locs hw => ?_)
  refine lv_icmp_eq (tgt := 1694) hx hb dL_law_332 (by decide) (fun q => ?_) (fun q => absurd rfl q)
  exact nxt S1 V1 H locs hR1 hw ls hl
set_option maxRecDepth 20000 in
theorem case_mend {RR : St → St → Prop} (hs : LS_mend RR) (C : Cx p s m #[Value.ref b] meth c E code 4 RL ret) (hXs : va_X b L xs s s.heap) (hbl : b < s.heap.size) (hbA : ¬ eA E b) (hi : vp_in (x3 + 1) L ∧ vp_in (x3 + 2) L ∧ vp_in (x3 + 3) L ∧ vp_in (x3 + 4) L ∧ vp_in (x3 + 5) L)
    (nxt : ∀ (S V : St) (H : Heap) (locs : List Loc), RR S V → Wd E (wX V E) s.heap S H locs → ∀ (ls : Array Slot), lv_has ls 4 [(0, .ref b), (1, .ref (ea E 0)), (2, .ref (ea E 44)), (3, .int x3)] → W p l e room_1 s m #[Value.ref b] below meth c H locs 600000 7302250 Q (F0 m 1694 ls []))
    (hR : RR S V) (hw : Wd E (wX V E) s.heap S H locs) (hl : lv_has ls 4 [(0, .ref b), (1, .ref (ea E 0)), (2, .ref (ea E 44)), (3, .int x3)]) : W p l e room_1 s m #[Value.ref b] below meth c H locs 600000 7302250 Q (F0 m 337 ls []) := by
  have hx := C.1
  have hb := C.2.1
  obtain ⟨r, S1, V1, hX, hM, hR1⟩ := hs S V (xs (x3 + (1 : Int32)).toNatClampNeg) (xs (x3 + (2 : Int32)).toNatClampNeg) (xs (x3 + (3 : Int32)).toNatClampNeg) hR
  refine lv_aload_n hx hb dL_law_337 rfl (lv_at hl 1 rfl) ?_
  refine lv_aload_n hx hb dL_law_338 rfl (lv_at hl 0 rfl) ?_
  refine lv_iload_n hx hb dL_law_339 rfl (lv_at hl 3 rfl) ?_
  refine lv_iconst (v := 1) hx hb dL_law_340 kc_1 ?_
  refine lv_iadd hx hb dL_law_341 ?_
  refine va_sld hx hb hXs hbl hbA hw.2.2 hi.1 dL_law_342 ?_
  refine lv_aload_n hx hb dL_law_343 rfl (lv_at hl 0 rfl) ?_
  refine lv_iload_n hx hb dL_law_344 rfl (lv_at hl 3 rfl) ?_
  refine lv_iconst (v := 2) hx hb dL_law_345 kc_2 ?_
  refine lv_iadd hx hb dL_law_346 ?_
  refine va_sld hx hb hXs hbl hbA hw.2.2 hi.2.1 dL_law_347 ?_
  refine lv_aload_n hx hb dL_law_348 rfl (lv_at hl 0 rfl) ?_
  refine lv_iload_n hx hb dL_law_349 rfl (lv_at hl 3 rfl) ?_
  refine lv_iconst (v := 3) hx hb dL_law_350 kc_3 ?_
  refine lv_iadd hx hb dL_law_351 ?_
  refine va_sld hx hb hXs hbl hbA hw.2.2 hi.2.2.1 dL_law_352 ?_
  refine inv_Li (w := wX V) (q0 := 0) (ci := 10) (As := [.int (xs (x3 + (1 : Int32)).toNatClampNeg), .int (xs (x3 + (2 : Int32)).toNatClampNeg), .int (xs (x3 + (3 : Int32)).toNatClampNeg)]) (rest := []) lk_L_27 C hw rfl rfl rfl (t_Ch_mend (V := V) hX) rfl hl.1 dL_law_353 rfl (Nat.le_of_ble_eq_true rfl) (by decide) (Nat.le_of_ble_eq_true rfl) rfl (fun H locs hw => ?_)
  refine lv_aload_n hx hb dL_law_356 rfl (lv_at hl 2 rfl) ?_
  refine lv_aload_n hx hb dL_law_357 rfl (lv_at hl 0 rfl) ?_
  refine lv_iload_n hx hb dL_law_358 rfl (lv_at hl 3 rfl) ?_
  refine lv_iconst (v := 1) hx hb dL_law_359 kc_1 ?_
  refine lv_iadd hx hb dL_law_360 ?_
  refine va_sld hx hb hXs hbl hbA hw.2.2 hi.1 dL_law_361 ?_
  refine lv_aload_n hx hb dL_law_362 rfl (lv_at hl 0 rfl) ?_
  refine lv_iload_n hx hb dL_law_363 rfl (lv_at hl 3 rfl) ?_
  refine lv_iconst (v := 2) hx hb dL_law_364 kc_2 ?_
  refine lv_iadd hx hb dL_law_365 ?_
  refine va_sld hx hb hXs hbl hbA hw.2.2 hi.2.1 dL_law_366 ?_
  refine lv_aload_n hx hb dL_law_367 rfl (lv_at hl 0 rfl) ?_
  refine lv_iload_n hx hb dL_law_368 rfl (lv_at hl 3 rfl) ?_
  refine lv_iconst (v := 3) hx hb dL_law_369 kc_3 ?_
  refine lv_iadd hx hb dL_law_370 ?_
  refine va_sld hx hb hXs hbl hbA hw.2.2 hi.2.2.1 dL_law_371 ?_
  refine inv_Li (w := wM S1) (q0 := 44) (ci := 11) (As := [.int (xs (x3 + (1 : Int32)).toNatClampNeg), .int (xs (x3 + (2 : Int32)).toNatClampNeg), .int (xs (x3 + (3 : Int32)).toNatClampNeg)]) (rest := [.int r]) lk_L_30 C hw rfl rfl rfl (t_Mo_mend (V := S1) hM) rfl hl.1 dL_law_372 rfl (Nat.le_of_ble_eq_true rfl) (by decide) (Nat.le_of_ble_eq_true rfl) rfl (fun H locs hw => ?_)
  refine lv_icmp_eq (tgt := 1694) hx hb dL_law_375 (by decide) (fun q => ?_) (fun q => absurd rfl q)
  exact nxt S1 V1 H locs hR1 hw ls hl
set_option maxRecDepth 20000 in
theorem case_of {RR : St → St → Prop} (hs : LS_of RR) (C : Cx p s m #[Value.ref b] meth c E code 4 RL ret) (hXs : va_X b L xs s s.heap) (hbl : b < s.heap.size) (hbA : ¬ eA E b) (hi : vp_in (x3 + 1) L ∧ vp_in (x3 + 2) L ∧ vp_in (x3 + 3) L ∧ vp_in (x3 + 4) L ∧ vp_in (x3 + 5) L)
    (nxt : ∀ (S V : St) (H : Heap) (locs : List Loc), RR S V → Wd E (wX V E) s.heap S H locs → ∀ (ls : Array Slot), lv_has ls 4 [(0, .ref b), (1, .ref (ea E 0)), (2, .ref (ea E 44)), (3, .int x3)] → W p l e room_1 s m #[Value.ref b] below meth c H locs 600000 7302250 Q (F0 m 1694 ls []))
    (hR : RR S V) (hw : Wd E (wX V E) s.heap S H locs) (hl : lv_has ls 4 [(0, .ref b), (1, .ref (ea E 0)), (2, .ref (ea E 44)), (3, .int x3)]) : W p l e room_1 s m #[Value.ref b] below meth c H locs 600000 7302250 Q (F0 m 380 ls []) := by
  have hx := C.1
  have hb := C.2.1
  obtain ⟨r, hX, hM, hR1⟩ := hs S V (xs (x3 + (1 : Int32)).toNatClampNeg) (xs (x3 + (2 : Int32)).toNatClampNeg) hR
  refine lv_aload_n hx hb dL_law_380 rfl (lv_at hl 1 rfl) ?_
  refine lv_aload_n hx hb dL_law_381 rfl (lv_at hl 0 rfl) ?_
  refine lv_iload_n hx hb dL_law_382 rfl (lv_at hl 3 rfl) ?_
  refine lv_iconst (v := 1) hx hb dL_law_383 kc_1 ?_
  refine lv_iadd hx hb dL_law_384 ?_
  refine va_sld hx hb hXs hbl hbA hw.2.2 hi.1 dL_law_385 ?_
  refine lv_aload_n hx hb dL_law_386 rfl (lv_at hl 0 rfl) ?_
  refine lv_iload_n hx hb dL_law_387 rfl (lv_at hl 3 rfl) ?_
  refine lv_iconst (v := 2) hx hb dL_law_388 kc_2 ?_
  refine lv_iadd hx hb dL_law_389 ?_
  refine va_sld hx hb hXs hbl hbA hw.2.2 hi.2.1 dL_law_390 ?_
  refine inv_Li (w := wX V) (q0 := 0) (ci := 10) (As := [.int (xs (x3 + (1 : Int32)).toNatClampNeg), .int (xs (x3 + (2 : Int32)).toNatClampNeg)]) (rest := []) lk_L_31 C hw rfl rfl rfl (t_Ch_of (V := V) hX) rfl hl.1 dL_law_391 rfl (Nat.le_of_ble_eq_true rfl) (by decide) (Nat.le_of_ble_eq_true rfl) rfl (fun H locs hw => ?_)
  refine lv_aload_n hx hb dL_law_394 rfl (lv_at hl 2 rfl) ?_
  refine lv_aload_n hx hb dL_law_395 rfl (lv_at hl 0 rfl) ?_
  refine lv_iload_n hx hb dL_law_396 rfl (lv_at hl 3 rfl) ?_
  refine lv_iconst (v := 1) hx hb dL_law_397 kc_1 ?_
  refine lv_iadd hx hb dL_law_398 ?_
  refine va_sld hx hb hXs hbl hbA hw.2.2 hi.1 dL_law_399 ?_
  refine lv_aload_n hx hb dL_law_400 rfl (lv_at hl 0 rfl) ?_
  refine lv_iload_n hx hb dL_law_401 rfl (lv_at hl 3 rfl) ?_
  refine lv_iconst (v := 2) hx hb dL_law_402 kc_2 ?_
  refine lv_iadd hx hb dL_law_403 ?_
  refine va_sld hx hb hXs hbl hbA hw.2.2 hi.2.1 dL_law_404 ?_
  refine inv_Li (w := wM S) (q0 := 44) (ci := 11) (As := [.int (xs (x3 + (1 : Int32)).toNatClampNeg), .int (xs (x3 + (2 : Int32)).toNatClampNeg)]) (rest := [.int r]) lk_L_34 C hw rfl rfl rfl (t_Mo_of (V := S) hM) rfl hl.1 dL_law_405 rfl (Nat.le_of_ble_eq_true rfl) (by decide) (Nat.le_of_ble_eq_true rfl) rfl (fun H locs hw => ?_)
  refine lv_icmp_eq (tgt := 1694) hx hb dL_law_408 (by decide) (fun q => ?_) (fun q => absurd rfl q)
  exact nxt S V H locs hR1 hw ls hl
set_option maxRecDepth 20000 in
theorem case_feed {RR : St → St → Prop} (hs : LS_feed RR) (C : Cx p s m #[Value.ref b] meth c E code 4 RL ret) (hXs : va_X b L xs s s.heap) (hbl : b < s.heap.size) (hbA : ¬ eA E b) (hi : vp_in (x3 + 1) L ∧ vp_in (x3 + 2) L ∧ vp_in (x3 + 3) L ∧ vp_in (x3 + 4) L ∧ vp_in (x3 + 5) L)
    (nxt : ∀ (S V : St) (H : Heap) (locs : List Loc), RR S V → Wd E (wX V E) s.heap S H locs → ∀ (ls : Array Slot), lv_has ls 4 [(0, .ref b), (1, .ref (ea E 0)), (2, .ref (ea E 44)), (3, .int x3)] → W p l e room_1 s m #[Value.ref b] below meth c H locs 600000 7302250 Q (F0 m 1694 ls []))
    (hR : RR S V) (hw : Wd E (wX V E) s.heap S H locs) (hl : lv_has ls 4 [(0, .ref b), (1, .ref (ea E 0)), (2, .ref (ea E 44)), (3, .int x3)]) : W p l e room_1 s m #[Value.ref b] below meth c H locs 600000 7302250 Q (F0 m 413 ls []) := by
  have hx := C.1
  have hb := C.2.1
  obtain ⟨r, S1, V1, hX, hM, hR1⟩ := hs S V (xs (x3 + (1 : Int32)).toNatClampNeg) hR
  refine lv_aload_n hx hb dL_law_413 rfl (lv_at hl 1 rfl) ?_
  refine lv_aload_n hx hb dL_law_414 rfl (lv_at hl 0 rfl) ?_
  refine lv_iload_n hx hb dL_law_415 rfl (lv_at hl 3 rfl) ?_
  refine lv_iconst (v := 1) hx hb dL_law_416 kc_1 ?_
  refine lv_iadd hx hb dL_law_417 ?_
  refine va_sld hx hb hXs hbl hbA hw.2.2 hi.1 dL_law_418 ?_
  refine inv_Li (w := wX V) (q0 := 0) (ci := 10) (As := [.int (xs (x3 + (1 : Int32)).toNatClampNeg)]) (rest := []) lk_L_35 C hw rfl rfl rfl (t_Ch_feed (V := V) hX) rfl hl.1 dL_law_419 rfl (Nat.le_of_ble_eq_true rfl) (by decide) (Nat.le_of_ble_eq_true rfl) rfl (fun H locs hw => ?_)
  refine lv_aload_n hx hb dL_law_422 rfl (lv_at hl 2 rfl) ?_
  refine lv_aload_n hx hb dL_law_423 rfl (lv_at hl 0 rfl) ?_
  refine lv_iload_n hx hb dL_law_424 rfl (lv_at hl 3 rfl) ?_
  refine lv_iconst (v := 1) hx hb dL_law_425 kc_1 ?_
  refine lv_iadd hx hb dL_law_426 ?_
  refine va_sld hx hb hXs hbl hbA hw.2.2 hi.1 dL_law_427 ?_
  refine inv_Li (w := wM S1) (q0 := 44) (ci := 11) (As := [.int (xs (x3 + (1 : Int32)).toNatClampNeg)]) (rest := [.int r]) lk_L_39 C hw rfl rfl rfl (t_Mo_feed (V := S1) hM) rfl hl.1 dL_law_428 rfl (Nat.le_of_ble_eq_true rfl) (by decide) (Nat.le_of_ble_eq_true rfl) rfl (fun H locs hw => ?_)
  refine lv_icmp_eq (tgt := 1694) hx hb dL_law_431 (by decide) (fun q => ?_) (fun q => absurd rfl q)
  exact nxt S1 V1 H locs hR1 hw ls hl
set_option maxRecDepth 20000 in
theorem case_law {RR : St → St → Prop} (hs : LS_law RR) (C : Cx p s m #[Value.ref b] meth c E code 4 RL ret) (hXs : va_X b L xs s s.heap) (hbl : b < s.heap.size) (hbA : ¬ eA E b) (hi : vp_in (x3 + 1) L ∧ vp_in (x3 + 2) L ∧ vp_in (x3 + 3) L ∧ vp_in (x3 + 4) L ∧ vp_in (x3 + 5) L)
    (nxt : ∀ (S V : St) (H : Heap) (locs : List Loc), RR S V → Wd E (wX V E) s.heap S H locs → ∀ (ls : Array Slot), lv_has ls 4 [(0, .ref b), (1, .ref (ea E 0)), (2, .ref (ea E 44)), (3, .int x3)] → W p l e room_1 s m #[Value.ref b] below meth c H locs 600000 7302250 Q (F0 m 1694 ls []))
    (hR : RR S V) (hw : Wd E (wX V E) s.heap S H locs) (hl : lv_has ls 4 [(0, .ref b), (1, .ref (ea E 0)), (2, .ref (ea E 44)), (3, .int x3)]) : W p l e room_1 s m #[Value.ref b] below meth c H locs 600000 7302250 Q (F0 m 436 ls []) := by
  have hx := C.1
  have hb := C.2.1
  obtain ⟨r, S1, V1, hX, hM, hR1⟩ := hs S V hR
  refine lv_aload_n hx hb dL_law_436 rfl (lv_at hl 1 rfl) ?_
  refine inv_Li (w := wX V) (q0 := 0) (ci := 10) (As := []) (rest := []) lk_L_40 C hw rfl rfl rfl (t_Ch_law (V := V) hX) rfl hl.1 dL_law_437 rfl (Nat.le_of_ble_eq_true rfl) (by decide) (Nat.le_of_ble_eq_true rfl) rfl (fun H locs hw => ?_)
  refine lv_aload_n hx hb dL_law_440 rfl (lv_at hl 2 rfl) ?_
  refine inv_Li (w := wM S1) (q0 := 44) (ci := 11) (As := []) (rest := [.int r]) lk_L_44 C hw rfl rfl rfl (t_Mo_law (V := S1) hM) rfl hl.1 dL_law_441 rfl (Nat.le_of_ble_eq_true rfl) (by decide) (Nat.le_of_ble_eq_true rfl) rfl (fun H locs hw => ?_)
  refine lv_icmp_eq (tgt := 1694) hx hb dL_law_444 (by decide) (fun q => ?_) (fun q => absurd rfl q)
  exact nxt S1 V1 H locs hR1 hw ls hl
set_option maxRecDepth 20000 in
theorem case_chain {RR : St → St → Prop} (hs : LS_chain RR) (C : Cx p s m #[Value.ref b] meth c E code 4 RL ret) (hXs : va_X b L xs s s.heap) (hbl : b < s.heap.size) (hbA : ¬ eA E b) (hi : vp_in (x3 + 1) L ∧ vp_in (x3 + 2) L ∧ vp_in (x3 + 3) L ∧ vp_in (x3 + 4) L ∧ vp_in (x3 + 5) L)
    (nxt : ∀ (S V : St) (H : Heap) (locs : List Loc), RR S V → Wd E (wX V E) s.heap S H locs → ∀ (ls : Array Slot), lv_has ls 4 [(0, .ref b), (1, .ref (ea E 0)), (2, .ref (ea E 44)), (3, .int x3)] → W p l e room_1 s m #[Value.ref b] below meth c H locs 600000 7302250 Q (F0 m 1694 ls []))
    (hR : RR S V) (hw : Wd E (wX V E) s.heap S H locs) (hl : lv_has ls 4 [(0, .ref b), (1, .ref (ea E 0)), (2, .ref (ea E 44)), (3, .int x3)]) : W p l e room_1 s m #[Value.ref b] below meth c H locs 600000 7302250 Q (F0 m 449 ls []) := by
  have hx := C.1
  have hb := C.2.1
  obtain ⟨r, S1, V1, hX, hM, hR1⟩ := hs S V (xs (x3 + (1 : Int32)).toNatClampNeg) (xs (x3 + (2 : Int32)).toNatClampNeg) (xs (x3 + (3 : Int32)).toNatClampNeg) hR
  refine lv_aload_n hx hb dL_law_449 rfl (lv_at hl 1 rfl) ?_
  refine lv_aload_n hx hb dL_law_450 rfl (lv_at hl 0 rfl) ?_
  refine lv_iload_n hx hb dL_law_451 rfl (lv_at hl 3 rfl) ?_
  refine lv_iconst (v := 1) hx hb dL_law_452 kc_1 ?_
  refine lv_iadd hx hb dL_law_453 ?_
  refine va_sld hx hb hXs hbl hbA hw.2.2 hi.1 dL_law_454 ?_
  refine lv_aload_n hx hb dL_law_455 rfl (lv_at hl 0 rfl) ?_
  refine lv_iload_n hx hb dL_law_456 rfl (lv_at hl 3 rfl) ?_
  refine lv_iconst (v := 2) hx hb dL_law_457 kc_2 ?_
  refine lv_iadd hx hb dL_law_458 ?_
  refine va_sld hx hb hXs hbl hbA hw.2.2 hi.2.1 dL_law_459 ?_
  refine lv_aload_n hx hb dL_law_460 rfl (lv_at hl 0 rfl) ?_
  refine lv_iload_n hx hb dL_law_461 rfl (lv_at hl 3 rfl) ?_
  refine lv_iconst (v := 3) hx hb dL_law_462 kc_3 ?_
  refine lv_iadd hx hb dL_law_463 ?_
  refine va_sld hx hb hXs hbl hbA hw.2.2 hi.2.2.1 dL_law_464 ?_
  refine inv_Li (w := wX V) (q0 := 0) (ci := 10) (As := [.int (xs (x3 + (1 : Int32)).toNatClampNeg), .int (xs (x3 + (2 : Int32)).toNatClampNeg), .int (xs (x3 + (3 : Int32)).toNatClampNeg)]) (rest := []) lk_L_45 C hw rfl rfl rfl (t_Ch_chain (V := V) hX) rfl hl.1 dL_law_465 rfl (Nat.le_of_ble_eq_true rfl) (by decide) (Nat.le_of_ble_eq_true rfl) rfl (fun H locs hw => ?_)
  refine lv_aload_n hx hb dL_law_468 rfl (lv_at hl 2 rfl) ?_
  refine lv_aload_n hx hb dL_law_469 rfl (lv_at hl 0 rfl) ?_
  refine lv_iload_n hx hb dL_law_470 rfl (lv_at hl 3 rfl) ?_
  refine lv_iconst (v := 1) hx hb dL_law_471 kc_1 ?_
  refine lv_iadd hx hb dL_law_472 ?_
  refine va_sld hx hb hXs hbl hbA hw.2.2 hi.1 dL_law_473 ?_
  refine lv_aload_n hx hb dL_law_474 rfl (lv_at hl 0 rfl) ?_
  refine lv_iload_n hx hb dL_law_475 rfl (lv_at hl 3 rfl) ?_
  refine lv_iconst (v := 2) hx hb dL_law_476 kc_2 ?_
  refine lv_iadd hx hb dL_law_477 ?_
  refine va_sld hx hb hXs hbl hbA hw.2.2 hi.2.1 dL_law_478 ?_
  refine lv_aload_n hx hb dL_law_479 rfl (lv_at hl 0 rfl) ?_
  refine lv_iload_n hx hb dL_law_480 rfl (lv_at hl 3 rfl) ?_
  refine lv_iconst (v := 3) hx hb dL_law_481 kc_3 ?_
  refine lv_iadd hx hb dL_law_482 ?_
  refine va_sld hx hb hXs hbl hbA hw.2.2 hi.2.2.1 dL_law_483 ?_
  refine inv_Li (w := wM S1) (q0 := 44) (ci := 11) (As := [.int (xs (x3 + (1 : Int32)).toNatClampNeg), .int (xs (x3 + (2 : Int32)).toNatClampNeg), .int (xs (x3 + (3 : Int32)).toNatClampNeg)]) (rest := [.int r]) lk_L_48 C hw rfl rfl rfl (t_Mo_chain (V := S1) hM) rfl hl.1 dL_law_484 rfl (Nat.le_of_ble_eq_true rfl) (by decide) (Nat.le_of_ble_eq_true rfl) rfl (fun H locs hw => ?_)
  refine lv_icmp_eq (tgt := 1694) hx hb dL_law_487 (by decide) (fun q => ?_) (fun q => absurd rfl q)
  exact nxt S1 V1 H locs hR1 hw ls hl
set_option maxRecDepth 20000 in
theorem case_creak {RR : St → St → Prop} (hs : LS_creak RR) (C : Cx p s m #[Value.ref b] meth c E code 4 RL ret) (hXs : va_X b L xs s s.heap) (hbl : b < s.heap.size) (hbA : ¬ eA E b) (hi : vp_in (x3 + 1) L ∧ vp_in (x3 + 2) L ∧ vp_in (x3 + 3) L ∧ vp_in (x3 + 4) L ∧ vp_in (x3 + 5) L)
    (nxt : ∀ (S V : St) (H : Heap) (locs : List Loc), RR S V → Wd E (wX V E) s.heap S H locs → ∀ (ls : Array Slot), lv_has ls 4 [(0, .ref b), (1, .ref (ea E 0)), (2, .ref (ea E 44)), (3, .int x3)] → W p l e room_1 s m #[Value.ref b] below meth c H locs 600000 7302250 Q (F0 m 1694 ls []))
    (hR : RR S V) (hw : Wd E (wX V E) s.heap S H locs) (hl : lv_has ls 4 [(0, .ref b), (1, .ref (ea E 0)), (2, .ref (ea E 44)), (3, .int x3)]) : W p l e room_1 s m #[Value.ref b] below meth c H locs 600000 7302250 Q (F0 m 492 ls []) := by
  have hx := C.1
  have hb := C.2.1
  obtain ⟨r, S1, V1, hX, hM, hR1⟩ := hs S V (xs (x3 + (1 : Int32)).toNatClampNeg) (xs (x3 + (2 : Int32)).toNatClampNeg) hR
  refine lv_aload_n hx hb dL_law_492 rfl (lv_at hl 1 rfl) ?_
  refine lv_aload_n hx hb dL_law_493 rfl (lv_at hl 0 rfl) ?_
  refine lv_iload_n hx hb dL_law_494 rfl (lv_at hl 3 rfl) ?_
  refine lv_iconst (v := 1) hx hb dL_law_495 kc_1 ?_
  refine lv_iadd hx hb dL_law_496 ?_
  refine va_sld hx hb hXs hbl hbA hw.2.2 hi.1 dL_law_497 ?_
  refine lv_aload_n hx hb dL_law_498 rfl (lv_at hl 0 rfl) ?_
  refine lv_iload_n hx hb dL_law_499 rfl (lv_at hl 3 rfl) ?_
  refine lv_iconst (v := 2) hx hb dL_law_500 kc_2 ?_
  refine lv_iadd hx hb dL_law_501 ?_
  refine va_sld hx hb hXs hbl hbA hw.2.2 hi.2.1 dL_law_502 ?_
  refine inv_Li (w := wX V) (q0 := 0) (ci := 10) (As := [.int (xs (x3 + (1 : Int32)).toNatClampNeg), .int (xs (x3 + (2 : Int32)).toNatClampNeg)]) (rest := []) lk_L_49 C hw rfl rfl rfl (t_Ch_creak (V := V) hX) rfl hl.1 dL_law_503 rfl (Nat.le_of_ble_eq_true rfl) (by decide) (Nat.le_of_ble_eq_true rfl) rfl (fun H locs hw => ?_)
  refine lv_aload_n hx hb dL_law_506 rfl (lv_at hl 2 rfl) ?_
  refine lv_aload_n hx hb dL_law_507 rfl (lv_at hl 0 rfl) ?_
  refine lv_iload_n hx hb dL_law_508 rfl (lv_at hl 3 rfl) ?_
  refine lv_iconst (v := 1) hx hb dL_law_509 kc_1 ?_
  refine lv_iadd hx hb dL_law_510 ?_
  refine va_sld hx hb hXs hbl hbA hw.2.2 hi.1 dL_law_511 ?_
  refine lv_aload_n hx hb dL_law_512 rfl (lv_at hl 0 rfl) ?_
  refine lv_iload_n hx hb dL_law_513 rfl (lv_at hl 3 rfl) ?_
  refine lv_iconst (v := 2) hx hb dL_law_514 kc_2 ?_
  refine lv_iadd hx hb dL_law_515 ?_
  refine va_sld hx hb hXs hbl hbA hw.2.2 hi.2.1 dL_law_516 ?_
  refine inv_Li (w := wM S1) (q0 := 44) (ci := 11) (As := [.int (xs (x3 + (1 : Int32)).toNatClampNeg), .int (xs (x3 + (2 : Int32)).toNatClampNeg)]) (rest := [.int r]) lk_L_52 C hw rfl rfl rfl (t_Mo_creak (V := S1) hM) rfl hl.1 dL_law_517 rfl (Nat.le_of_ble_eq_true rfl) (by decide) (Nat.le_of_ble_eq_true rfl) rfl (fun H locs hw => ?_)
  refine lv_icmp_eq (tgt := 1694) hx hb dL_law_520 (by decide) (fun q => ?_) (fun q => absurd rfl q)
  exact nxt S1 V1 H locs hR1 hw ls hl
set_option maxRecDepth 20000 in
theorem case_rides {RR : St → St → Prop} (hs : LS_rides RR) (C : Cx p s m #[Value.ref b] meth c E code 4 RL ret) (hXs : va_X b L xs s s.heap) (hbl : b < s.heap.size) (hbA : ¬ eA E b) (hi : vp_in (x3 + 1) L ∧ vp_in (x3 + 2) L ∧ vp_in (x3 + 3) L ∧ vp_in (x3 + 4) L ∧ vp_in (x3 + 5) L)
    (nxt : ∀ (S V : St) (H : Heap) (locs : List Loc), RR S V → Wd E (wX V E) s.heap S H locs → ∀ (ls : Array Slot), lv_has ls 4 [(0, .ref b), (1, .ref (ea E 0)), (2, .ref (ea E 44)), (3, .int x3)] → W p l e room_1 s m #[Value.ref b] below meth c H locs 600000 7302250 Q (F0 m 1694 ls []))
    (hR : RR S V) (hw : Wd E (wX V E) s.heap S H locs) (hl : lv_has ls 4 [(0, .ref b), (1, .ref (ea E 0)), (2, .ref (ea E 44)), (3, .int x3)]) : W p l e room_1 s m #[Value.ref b] below meth c H locs 600000 7302250 Q (F0 m 525 ls []) := by
  have hx := C.1
  have hb := C.2.1
  obtain ⟨r, S1, hX, hM, hR1⟩ := hs S V (xs (x3 + (1 : Int32)).toNatClampNeg) (xs (x3 + (2 : Int32)).toNatClampNeg) (xs (x3 + (3 : Int32)).toNatClampNeg) hR
  refine lv_aload_n hx hb dL_law_525 rfl (lv_at hl 1 rfl) ?_
  refine lv_aload_n hx hb dL_law_526 rfl (lv_at hl 0 rfl) ?_
  refine lv_iload_n hx hb dL_law_527 rfl (lv_at hl 3 rfl) ?_
  refine lv_iconst (v := 1) hx hb dL_law_528 kc_1 ?_
  refine lv_iadd hx hb dL_law_529 ?_
  refine va_sld hx hb hXs hbl hbA hw.2.2 hi.1 dL_law_530 ?_
  refine lv_aload_n hx hb dL_law_531 rfl (lv_at hl 0 rfl) ?_
  refine lv_iload_n hx hb dL_law_532 rfl (lv_at hl 3 rfl) ?_
  refine lv_iconst (v := 2) hx hb dL_law_533 kc_2 ?_
  refine lv_iadd hx hb dL_law_534 ?_
  refine va_sld hx hb hXs hbl hbA hw.2.2 hi.2.1 dL_law_535 ?_
  refine lv_aload_n hx hb dL_law_536 rfl (lv_at hl 0 rfl) ?_
  refine lv_iload_n hx hb dL_law_537 rfl (lv_at hl 3 rfl) ?_
  refine lv_iconst (v := 3) hx hb dL_law_538 kc_3 ?_
  refine lv_iadd hx hb dL_law_539 ?_
  refine va_sld hx hb hXs hbl hbA hw.2.2 hi.2.2.1 dL_law_540 ?_
  refine inv_Li (w := wX V) (q0 := 0) (ci := 10) (As := [.int (xs (x3 + (1 : Int32)).toNatClampNeg), .int (xs (x3 + (2 : Int32)).toNatClampNeg), .int (xs (x3 + (3 : Int32)).toNatClampNeg)]) (rest := []) lk_L_53 C hw rfl rfl rfl (t_Ch_rides (V := V) hX) rfl hl.1 dL_law_541 rfl (Nat.le_of_ble_eq_true rfl) (by decide) (Nat.le_of_ble_eq_true rfl) rfl (fun H locs hw => ?_)
  refine lv_aload_n hx hb dL_law_544 rfl (lv_at hl 2 rfl) ?_
  refine lv_aload_n hx hb dL_law_545 rfl (lv_at hl 0 rfl) ?_
  refine lv_iload_n hx hb dL_law_546 rfl (lv_at hl 3 rfl) ?_
  refine lv_iconst (v := 1) hx hb dL_law_547 kc_1 ?_
  refine lv_iadd hx hb dL_law_548 ?_
  refine va_sld hx hb hXs hbl hbA hw.2.2 hi.1 dL_law_549 ?_
  refine lv_aload_n hx hb dL_law_550 rfl (lv_at hl 0 rfl) ?_
  refine lv_iload_n hx hb dL_law_551 rfl (lv_at hl 3 rfl) ?_
  refine lv_iconst (v := 2) hx hb dL_law_552 kc_2 ?_
  refine lv_iadd hx hb dL_law_553 ?_
  refine va_sld hx hb hXs hbl hbA hw.2.2 hi.2.1 dL_law_554 ?_
  refine lv_aload_n hx hb dL_law_555 rfl (lv_at hl 0 rfl) ?_
  refine lv_iload_n hx hb dL_law_556 rfl (lv_at hl 3 rfl) ?_
  refine lv_iconst (v := 3) hx hb dL_law_557 kc_3 ?_
  refine lv_iadd hx hb dL_law_558 ?_
  refine va_sld hx hb hXs hbl hbA hw.2.2 hi.2.2.1 dL_law_559 ?_
  refine inv_Li (w := wM S1) (q0 := 44) (ci := 11) (As := [.int (xs (x3 + (1 : Int32)).toNatClampNeg), .int (xs (x3 + (2 : Int32)).toNatClampNeg), .int (xs (x3 + (3 : Int32)).toNatClampNeg)]) (rest := [.int r]) lk_L_56 C hw rfl rfl rfl (t_Mo_rides (V := S1) hM) rfl hl.1 dL_law_560 rfl (Nat.le_of_ble_eq_true rfl) (by decide) (Nat.le_of_ble_eq_true rfl) rfl (fun H locs hw => ?_)
  refine lv_icmp_eq (tgt := 1694) hx hb dL_law_563 (by decide) (fun q => ?_) (fun q => absurd rfl q)
  exact nxt S1 V H locs hR1 hw ls hl
set_option maxRecDepth 20000 in
theorem case_ride {RR : St → St → Prop} (hs : LS_ride RR) (C : Cx p s m #[Value.ref b] meth c E code 4 RL ret) (hXs : va_X b L xs s s.heap) (hbl : b < s.heap.size) (hbA : ¬ eA E b) (hi : vp_in (x3 + 1) L ∧ vp_in (x3 + 2) L ∧ vp_in (x3 + 3) L ∧ vp_in (x3 + 4) L ∧ vp_in (x3 + 5) L)
    (nxt : ∀ (S V : St) (H : Heap) (locs : List Loc), RR S V → Wd E (wX V E) s.heap S H locs → ∀ (ls : Array Slot), lv_has ls 4 [(0, .ref b), (1, .ref (ea E 0)), (2, .ref (ea E 44)), (3, .int x3)] → W p l e room_1 s m #[Value.ref b] below meth c H locs 600000 7302250 Q (F0 m 1694 ls []))
    (hR : RR S V) (hw : Wd E (wX V E) s.heap S H locs) (hl : lv_has ls 4 [(0, .ref b), (1, .ref (ea E 0)), (2, .ref (ea E 44)), (3, .int x3)]) : W p l e room_1 s m #[Value.ref b] below meth c H locs 600000 7302250 Q (F0 m 568 ls []) := by
  have hx := C.1
  have hb := C.2.1
  obtain ⟨r, S1, hX, hM, hR1⟩ := hs S V (xs (x3 + (1 : Int32)).toNatClampNeg) (xs (x3 + (2 : Int32)).toNatClampNeg) hR
  refine lv_aload_n hx hb dL_law_568 rfl (lv_at hl 1 rfl) ?_
  refine lv_aload_n hx hb dL_law_569 rfl (lv_at hl 0 rfl) ?_
  refine lv_iload_n hx hb dL_law_570 rfl (lv_at hl 3 rfl) ?_
  refine lv_iconst (v := 1) hx hb dL_law_571 kc_1 ?_
  refine lv_iadd hx hb dL_law_572 ?_
  refine va_sld hx hb hXs hbl hbA hw.2.2 hi.1 dL_law_573 ?_
  refine lv_aload_n hx hb dL_law_574 rfl (lv_at hl 0 rfl) ?_
  refine lv_iload_n hx hb dL_law_575 rfl (lv_at hl 3 rfl) ?_
  refine lv_iconst (v := 2) hx hb dL_law_576 kc_2 ?_
  refine lv_iadd hx hb dL_law_577 ?_
  refine va_sld hx hb hXs hbl hbA hw.2.2 hi.2.1 dL_law_578 ?_
  refine inv_Li (w := wX V) (q0 := 0) (ci := 10) (As := [.int (xs (x3 + (1 : Int32)).toNatClampNeg), .int (xs (x3 + (2 : Int32)).toNatClampNeg)]) (rest := []) lk_L_57 C hw rfl rfl rfl (t_Ch_ride (V := V) hX) rfl hl.1 dL_law_579 rfl (Nat.le_of_ble_eq_true rfl) (by decide) (Nat.le_of_ble_eq_true rfl) rfl (fun H locs hw => ?_)
  refine lv_aload_n hx hb dL_law_582 rfl (lv_at hl 2 rfl) ?_
  refine lv_aload_n hx hb dL_law_583 rfl (lv_at hl 0 rfl) ?_
  refine lv_iload_n hx hb dL_law_584 rfl (lv_at hl 3 rfl) ?_
  refine lv_iconst (v := 1) hx hb dL_law_585 kc_1 ?_
  refine lv_iadd hx hb dL_law_586 ?_
  refine va_sld hx hb hXs hbl hbA hw.2.2 hi.1 dL_law_587 ?_
  refine lv_aload_n hx hb dL_law_588 rfl (lv_at hl 0 rfl) ?_
  refine lv_iload_n hx hb dL_law_589 rfl (lv_at hl 3 rfl) ?_
  refine lv_iconst (v := 2) hx hb dL_law_590 kc_2 ?_
  refine lv_iadd hx hb dL_law_591 ?_
  refine va_sld hx hb hXs hbl hbA hw.2.2 hi.2.1 dL_law_592 ?_
  refine inv_Li (w := wM S1) (q0 := 44) (ci := 11) (As := [.int (xs (x3 + (1 : Int32)).toNatClampNeg), .int (xs (x3 + (2 : Int32)).toNatClampNeg)]) (rest := [.int r]) lk_L_60 C hw rfl rfl rfl (t_Mo_ride (V := S1) hM) rfl hl.1 dL_law_593 rfl (Nat.le_of_ble_eq_true rfl) (by decide) (Nat.le_of_ble_eq_true rfl) rfl (fun H locs hw => ?_)
  refine lv_icmp_eq (tgt := 1694) hx hb dL_law_596 (by decide) (fun q => ?_) (fun q => absurd rfl q)
  exact nxt S1 V H locs hR1 hw ls hl
set_option maxRecDepth 20000 in
theorem case_who {RR : St → St → Prop} (hs : LS_who RR) (C : Cx p s m #[Value.ref b] meth c E code 4 RL ret) (hXs : va_X b L xs s s.heap) (hbl : b < s.heap.size) (hbA : ¬ eA E b) (hi : vp_in (x3 + 1) L ∧ vp_in (x3 + 2) L ∧ vp_in (x3 + 3) L ∧ vp_in (x3 + 4) L ∧ vp_in (x3 + 5) L)
    (nxt : ∀ (S V : St) (H : Heap) (locs : List Loc), RR S V → Wd E (wX V E) s.heap S H locs → ∀ (ls : Array Slot), lv_has ls 4 [(0, .ref b), (1, .ref (ea E 0)), (2, .ref (ea E 44)), (3, .int x3)] → W p l e room_1 s m #[Value.ref b] below meth c H locs 600000 7302250 Q (F0 m 1694 ls []))
    (hR : RR S V) (hw : Wd E (wX V E) s.heap S H locs) (hl : lv_has ls 4 [(0, .ref b), (1, .ref (ea E 0)), (2, .ref (ea E 44)), (3, .int x3)]) : W p l e room_1 s m #[Value.ref b] below meth c H locs 600000 7302250 Q (F0 m 601 ls []) := by
  have hx := C.1
  have hb := C.2.1
  obtain ⟨r, hX, hM, hR1⟩ := hs S V (xs (x3 + (1 : Int32)).toNatClampNeg) hR
  refine lv_aload_n hx hb dL_law_601 rfl (lv_at hl 1 rfl) ?_
  refine lv_aload_n hx hb dL_law_602 rfl (lv_at hl 0 rfl) ?_
  refine lv_iload_n hx hb dL_law_603 rfl (lv_at hl 3 rfl) ?_
  refine lv_iconst (v := 1) hx hb dL_law_604 kc_1 ?_
  refine lv_iadd hx hb dL_law_605 ?_
  refine va_sld hx hb hXs hbl hbA hw.2.2 hi.1 dL_law_606 ?_
  refine inv_Li (w := wX V) (q0 := 0) (ci := 10) (As := [.int (xs (x3 + (1 : Int32)).toNatClampNeg)]) (rest := []) lk_L_61 C hw rfl rfl rfl (t_Ch_who (V := V) hX) rfl hl.1 dL_law_607 rfl (Nat.le_of_ble_eq_true rfl) (by decide) (Nat.le_of_ble_eq_true rfl) rfl (fun H locs hw => ?_)
  refine lv_aload_n hx hb dL_law_610 rfl (lv_at hl 2 rfl) ?_
  refine lv_aload_n hx hb dL_law_611 rfl (lv_at hl 0 rfl) ?_
  refine lv_iload_n hx hb dL_law_612 rfl (lv_at hl 3 rfl) ?_
  refine lv_iconst (v := 1) hx hb dL_law_613 kc_1 ?_
  refine lv_iadd hx hb dL_law_614 ?_
  refine va_sld hx hb hXs hbl hbA hw.2.2 hi.1 dL_law_615 ?_
  refine inv_Li (w := wM S) (q0 := 44) (ci := 11) (As := [.int (xs (x3 + (1 : Int32)).toNatClampNeg)]) (rest := [.int r]) lk_L_64 C hw rfl rfl rfl (t_Mo_who (V := S) hM) rfl hl.1 dL_law_616 rfl (Nat.le_of_ble_eq_true rfl) (by decide) (Nat.le_of_ble_eq_true rfl) rfl (fun H locs hw => ?_)
  refine lv_icmp_eq (tgt := 1694) hx hb dL_law_619 (by decide) (fun q => ?_) (fun q => absurd rfl q)
  exact nxt S V H locs hR1 hw ls hl
set_option maxRecDepth 20000 in
theorem case_best {RR : St → St → Prop} (hs : LS_best RR) (C : Cx p s m #[Value.ref b] meth c E code 4 RL ret) (hXs : va_X b L xs s s.heap) (hbl : b < s.heap.size) (hbA : ¬ eA E b) (hi : vp_in (x3 + 1) L ∧ vp_in (x3 + 2) L ∧ vp_in (x3 + 3) L ∧ vp_in (x3 + 4) L ∧ vp_in (x3 + 5) L)
    (nxt : ∀ (S V : St) (H : Heap) (locs : List Loc), RR S V → Wd E (wX V E) s.heap S H locs → ∀ (ls : Array Slot), lv_has ls 4 [(0, .ref b), (1, .ref (ea E 0)), (2, .ref (ea E 44)), (3, .int x3)] → W p l e room_1 s m #[Value.ref b] below meth c H locs 600000 7302250 Q (F0 m 1694 ls []))
    (hR : RR S V) (hw : Wd E (wX V E) s.heap S H locs) (hl : lv_has ls 4 [(0, .ref b), (1, .ref (ea E 0)), (2, .ref (ea E 44)), (3, .int x3)]) : W p l e room_1 s m #[Value.ref b] below meth c H locs 600000 7302250 Q (F0 m 624 ls []) := by
  have hx := C.1
  have hb := C.2.1
  obtain ⟨r, S1, hX, hM, hR1⟩ := hs S V (xs (x3 + (1 : Int32)).toNatClampNeg) hR
  refine lv_aload_n hx hb dL_law_624 rfl (lv_at hl 1 rfl) ?_
  refine lv_aload_n hx hb dL_law_625 rfl (lv_at hl 0 rfl) ?_
  refine lv_iload_n hx hb dL_law_626 rfl (lv_at hl 3 rfl) ?_
  refine lv_iconst (v := 1) hx hb dL_law_627 kc_1 ?_
  refine lv_iadd hx hb dL_law_628 ?_
  refine va_sld hx hb hXs hbl hbA hw.2.2 hi.1 dL_law_629 ?_
  refine inv_Li (w := wX V) (q0 := 0) (ci := 10) (As := [.int (xs (x3 + (1 : Int32)).toNatClampNeg)]) (rest := []) lk_L_65 C hw rfl rfl rfl (t_Ch_best (V := V) hX) rfl hl.1 dL_law_630 rfl (Nat.le_of_ble_eq_true rfl) (by decide) (Nat.le_of_ble_eq_true rfl) rfl (fun H locs hw => ?_)
  refine lv_aload_n hx hb dL_law_633 rfl (lv_at hl 2 rfl) ?_
  refine lv_aload_n hx hb dL_law_634 rfl (lv_at hl 0 rfl) ?_
  refine lv_iload_n hx hb dL_law_635 rfl (lv_at hl 3 rfl) ?_
  refine lv_iconst (v := 1) hx hb dL_law_636 kc_1 ?_
  refine lv_iadd hx hb dL_law_637 ?_
  refine va_sld hx hb hXs hbl hbA hw.2.2 hi.1 dL_law_638 ?_
  refine inv_Li (w := wM S1) (q0 := 44) (ci := 11) (As := [.int (xs (x3 + (1 : Int32)).toNatClampNeg)]) (rest := [.int r]) lk_L_68 C hw rfl rfl rfl (t_Mo_best (V := S1) hM) rfl hl.1 dL_law_639 rfl (Nat.le_of_ble_eq_true rfl) (by decide) (Nat.le_of_ble_eq_true rfl) rfl (fun H locs hw => ?_)
  refine lv_icmp_eq (tgt := 1694) hx hb dL_law_642 (by decide) (fun q => ?_) (fun q => absurd rfl q)
  exact nxt S1 V H locs hR1 hw ls hl
set_option maxRecDepth 20000 in
theorem case_keepBy {RR : St → St → Prop} (hs : LS_keepBy RR) (C : Cx p s m #[Value.ref b] meth c E code 4 RL ret) (hXs : va_X b L xs s s.heap) (hbl : b < s.heap.size) (hbA : ¬ eA E b) (hi : vp_in (x3 + 1) L ∧ vp_in (x3 + 2) L ∧ vp_in (x3 + 3) L ∧ vp_in (x3 + 4) L ∧ vp_in (x3 + 5) L)
    (nxt : ∀ (S V : St) (H : Heap) (locs : List Loc), RR S V → Wd E (wX V E) s.heap S H locs → ∀ (ls : Array Slot), lv_has ls 4 [(0, .ref b), (1, .ref (ea E 0)), (2, .ref (ea E 44)), (3, .int x3)] → W p l e room_1 s m #[Value.ref b] below meth c H locs 600000 7302250 Q (F0 m 1694 ls []))
    (hR : RR S V) (hw : Wd E (wX V E) s.heap S H locs) (hl : lv_has ls 4 [(0, .ref b), (1, .ref (ea E 0)), (2, .ref (ea E 44)), (3, .int x3)]) : W p l e room_1 s m #[Value.ref b] below meth c H locs 600000 7302250 Q (F0 m 647 ls []) := by
  have hx := C.1
  have hb := C.2.1
  obtain ⟨r, hX, hM, hR1⟩ := hs S V (xs (x3 + (1 : Int32)).toNatClampNeg) (xs (x3 + (2 : Int32)).toNatClampNeg) (xs (x3 + (3 : Int32)).toNatClampNeg) hR
  refine lv_aload_n hx hb dL_law_647 rfl (lv_at hl 1 rfl) ?_
  refine lv_aload_n hx hb dL_law_648 rfl (lv_at hl 0 rfl) ?_
  refine lv_iload_n hx hb dL_law_649 rfl (lv_at hl 3 rfl) ?_
  refine lv_iconst (v := 1) hx hb dL_law_650 kc_1 ?_
  refine lv_iadd hx hb dL_law_651 ?_
  refine va_sld hx hb hXs hbl hbA hw.2.2 hi.1 dL_law_652 ?_
  refine lv_aload_n hx hb dL_law_653 rfl (lv_at hl 0 rfl) ?_
  refine lv_iload_n hx hb dL_law_654 rfl (lv_at hl 3 rfl) ?_
  refine lv_iconst (v := 2) hx hb dL_law_655 kc_2 ?_
  refine lv_iadd hx hb dL_law_656 ?_
  refine va_sld hx hb hXs hbl hbA hw.2.2 hi.2.1 dL_law_657 ?_
  refine lv_aload_n hx hb dL_law_658 rfl (lv_at hl 0 rfl) ?_
  refine lv_iload_n hx hb dL_law_659 rfl (lv_at hl 3 rfl) ?_
  refine lv_iconst (v := 3) hx hb dL_law_660 kc_3 ?_
  refine lv_iadd hx hb dL_law_661 ?_
  refine va_sld hx hb hXs hbl hbA hw.2.2 hi.2.2.1 dL_law_662 ?_
  refine inv_Li (w := wX V) (q0 := 0) (ci := 10) (As := [.int (xs (x3 + (1 : Int32)).toNatClampNeg), .int (xs (x3 + (2 : Int32)).toNatClampNeg), .int (xs (x3 + (3 : Int32)).toNatClampNeg)]) (rest := []) lk_L_69 C hw rfl rfl rfl (t_Ch_keepBy (V := V) hX) rfl hl.1 dL_law_663 rfl (Nat.le_of_ble_eq_true rfl) (by decide) (Nat.le_of_ble_eq_true rfl) rfl (fun H locs hw => ?_)
  refine lv_aload_n hx hb dL_law_666 rfl (lv_at hl 2 rfl) ?_
  refine lv_aload_n hx hb dL_law_667 rfl (lv_at hl 0 rfl) ?_
  refine lv_iload_n hx hb dL_law_668 rfl (lv_at hl 3 rfl) ?_
  refine lv_iconst (v := 1) hx hb dL_law_669 kc_1 ?_
  refine lv_iadd hx hb dL_law_670 ?_
  refine va_sld hx hb hXs hbl hbA hw.2.2 hi.1 dL_law_671 ?_
  refine lv_aload_n hx hb dL_law_672 rfl (lv_at hl 0 rfl) ?_
  refine lv_iload_n hx hb dL_law_673 rfl (lv_at hl 3 rfl) ?_
  refine lv_iconst (v := 2) hx hb dL_law_674 kc_2 ?_
  refine lv_iadd hx hb dL_law_675 ?_
  refine va_sld hx hb hXs hbl hbA hw.2.2 hi.2.1 dL_law_676 ?_
  refine lv_aload_n hx hb dL_law_677 rfl (lv_at hl 0 rfl) ?_
  refine lv_iload_n hx hb dL_law_678 rfl (lv_at hl 3 rfl) ?_
  refine lv_iconst (v := 3) hx hb dL_law_679 kc_3 ?_
  refine lv_iadd hx hb dL_law_680 ?_
  refine va_sld hx hb hXs hbl hbA hw.2.2 hi.2.2.1 dL_law_681 ?_
  refine inv_Li (w := wM S) (q0 := 44) (ci := 11) (As := [.int (xs (x3 + (1 : Int32)).toNatClampNeg), .int (xs (x3 + (2 : Int32)).toNatClampNeg), .int (xs (x3 + (3 : Int32)).toNatClampNeg)]) (rest := [.int r]) lk_L_72 C hw rfl rfl rfl (t_Mo_keepBy (V := S) hM) rfl hl.1 dL_law_682 rfl (Nat.le_of_ble_eq_true rfl) (by decide) (Nat.le_of_ble_eq_true rfl) rfl (fun H locs hw => ?_)
  refine lv_icmp_eq (tgt := 1694) hx hb dL_law_685 (by decide) (fun q => ?_) (fun q => absurd rfl q)
  exact nxt S V H locs hR1 hw ls hl
set_option maxRecDepth 20000 in
theorem case_lightest {RR : St → St → Prop} (hs : LS_lightest RR) (C : Cx p s m #[Value.ref b] meth c E code 4 RL ret) (hXs : va_X b L xs s s.heap) (hbl : b < s.heap.size) (hbA : ¬ eA E b) (hi : vp_in (x3 + 1) L ∧ vp_in (x3 + 2) L ∧ vp_in (x3 + 3) L ∧ vp_in (x3 + 4) L ∧ vp_in (x3 + 5) L)
    (nxt : ∀ (S V : St) (H : Heap) (locs : List Loc), RR S V → Wd E (wX V E) s.heap S H locs → ∀ (ls : Array Slot), lv_has ls 4 [(0, .ref b), (1, .ref (ea E 0)), (2, .ref (ea E 44)), (3, .int x3)] → W p l e room_1 s m #[Value.ref b] below meth c H locs 600000 7302250 Q (F0 m 1694 ls []))
    (hR : RR S V) (hw : Wd E (wX V E) s.heap S H locs) (hl : lv_has ls 4 [(0, .ref b), (1, .ref (ea E 0)), (2, .ref (ea E 44)), (3, .int x3)]) : W p l e room_1 s m #[Value.ref b] below meth c H locs 600000 7302250 Q (F0 m 690 ls []) := by
  have hx := C.1
  have hb := C.2.1
  obtain ⟨r, hX, hM, hR1⟩ := hs S V (xs (x3 + (1 : Int32)).toNatClampNeg) (xs (x3 + (2 : Int32)).toNatClampNeg) (xs (x3 + (3 : Int32)).toNatClampNeg) hR
  refine lv_aload_n hx hb dL_law_690 rfl (lv_at hl 1 rfl) ?_
  refine lv_aload_n hx hb dL_law_691 rfl (lv_at hl 0 rfl) ?_
  refine lv_iload_n hx hb dL_law_692 rfl (lv_at hl 3 rfl) ?_
  refine lv_iconst (v := 1) hx hb dL_law_693 kc_1 ?_
  refine lv_iadd hx hb dL_law_694 ?_
  refine va_sld hx hb hXs hbl hbA hw.2.2 hi.1 dL_law_695 ?_
  refine lv_aload_n hx hb dL_law_696 rfl (lv_at hl 0 rfl) ?_
  refine lv_iload_n hx hb dL_law_697 rfl (lv_at hl 3 rfl) ?_
  refine lv_iconst (v := 2) hx hb dL_law_698 kc_2 ?_
  refine lv_iadd hx hb dL_law_699 ?_
  refine va_sld hx hb hXs hbl hbA hw.2.2 hi.2.1 dL_law_700 ?_
  refine lv_aload_n hx hb dL_law_701 rfl (lv_at hl 0 rfl) ?_
  refine lv_iload_n hx hb dL_law_702 rfl (lv_at hl 3 rfl) ?_
  refine lv_iconst (v := 3) hx hb dL_law_703 kc_3 ?_
  refine lv_iadd hx hb dL_law_704 ?_
  refine va_sld hx hb hXs hbl hbA hw.2.2 hi.2.2.1 dL_law_705 ?_
  refine inv_Li (w := wX V) (q0 := 0) (ci := 10) (As := [.int (xs (x3 + (1 : Int32)).toNatClampNeg), .int (xs (x3 + (2 : Int32)).toNatClampNeg), .int (xs (x3 + (3 : Int32)).toNatClampNeg)]) (rest := []) lk_L_73 C hw rfl rfl rfl (t_Ch_lightest (V := V) hX) rfl hl.1 dL_law_706 rfl (Nat.le_of_ble_eq_true rfl) (by decide) (Nat.le_of_ble_eq_true rfl) rfl (fun H locs hw => ?_)
  refine lv_aload_n hx hb dL_law_709 rfl (lv_at hl 2 rfl) ?_
  refine lv_aload_n hx hb dL_law_710 rfl (lv_at hl 0 rfl) ?_
  refine lv_iload_n hx hb dL_law_711 rfl (lv_at hl 3 rfl) ?_
  refine lv_iconst (v := 1) hx hb dL_law_712 kc_1 ?_
  refine lv_iadd hx hb dL_law_713 ?_
  refine va_sld hx hb hXs hbl hbA hw.2.2 hi.1 dL_law_714 ?_
  refine lv_aload_n hx hb dL_law_715 rfl (lv_at hl 0 rfl) ?_
  refine lv_iload_n hx hb dL_law_716 rfl (lv_at hl 3 rfl) ?_
  refine lv_iconst (v := 2) hx hb dL_law_717 kc_2 ?_
  refine lv_iadd hx hb dL_law_718 ?_
  refine va_sld hx hb hXs hbl hbA hw.2.2 hi.2.1 dL_law_719 ?_
  refine lv_aload_n hx hb dL_law_720 rfl (lv_at hl 0 rfl) ?_
  refine lv_iload_n hx hb dL_law_721 rfl (lv_at hl 3 rfl) ?_
  refine lv_iconst (v := 3) hx hb dL_law_722 kc_3 ?_
  refine lv_iadd hx hb dL_law_723 ?_
  refine va_sld hx hb hXs hbl hbA hw.2.2 hi.2.2.1 dL_law_724 ?_
  refine inv_Li (w := wM S) (q0 := 44) (ci := 11) (As := [.int (xs (x3 + (1 : Int32)).toNatClampNeg), .int (xs (x3 + (2 : Int32)).toNatClampNeg), .int (xs (x3 + (3 : Int32)).toNatClampNeg)]) (rest := [.int r]) lk_L_76 C hw rfl rfl rfl (t_Mo_lightest (V := S) hM) rfl hl.1 dL_law_725 rfl (Nat.le_of_ble_eq_true rfl) (by decide) (Nat.le_of_ble_eq_true rfl) rfl (fun H locs hw => ?_)
  refine lv_icmp_eq (tgt := 1694) hx hb dL_law_728 (by decide) (fun q => ?_) (fun q => absurd rfl q)
  exact nxt S V H locs hR1 hw ls hl
set_option maxRecDepth 20000 in
theorem case_ways {RR : St → St → Prop} (hs : LS_ways RR) (C : Cx p s m #[Value.ref b] meth c E code 4 RL ret) (hXs : va_X b L xs s s.heap) (hbl : b < s.heap.size) (hbA : ¬ eA E b) (hi : vp_in (x3 + 1) L ∧ vp_in (x3 + 2) L ∧ vp_in (x3 + 3) L ∧ vp_in (x3 + 4) L ∧ vp_in (x3 + 5) L)
    (nxt : ∀ (S V : St) (H : Heap) (locs : List Loc), RR S V → Wd E (wX V E) s.heap S H locs → ∀ (ls : Array Slot), lv_has ls 4 [(0, .ref b), (1, .ref (ea E 0)), (2, .ref (ea E 44)), (3, .int x3)] → W p l e room_1 s m #[Value.ref b] below meth c H locs 600000 7302250 Q (F0 m 1694 ls []))
    (hR : RR S V) (hw : Wd E (wX V E) s.heap S H locs) (hl : lv_has ls 4 [(0, .ref b), (1, .ref (ea E 0)), (2, .ref (ea E 44)), (3, .int x3)]) : W p l e room_1 s m #[Value.ref b] below meth c H locs 600000 7302250 Q (F0 m 733 ls []) := by
  have hx := C.1
  have hb := C.2.1
  obtain ⟨r, hX, hM, hR1⟩ := hs S V (xs (x3 + (1 : Int32)).toNatClampNeg) (xs (x3 + (2 : Int32)).toNatClampNeg) hR
  refine lv_aload_n hx hb dL_law_733 rfl (lv_at hl 1 rfl) ?_
  refine lv_aload_n hx hb dL_law_734 rfl (lv_at hl 0 rfl) ?_
  refine lv_iload_n hx hb dL_law_735 rfl (lv_at hl 3 rfl) ?_
  refine lv_iconst (v := 1) hx hb dL_law_736 kc_1 ?_
  refine lv_iadd hx hb dL_law_737 ?_
  refine va_sld hx hb hXs hbl hbA hw.2.2 hi.1 dL_law_738 ?_
  refine lv_aload_n hx hb dL_law_739 rfl (lv_at hl 0 rfl) ?_
  refine lv_iload_n hx hb dL_law_740 rfl (lv_at hl 3 rfl) ?_
  refine lv_iconst (v := 2) hx hb dL_law_741 kc_2 ?_
  refine lv_iadd hx hb dL_law_742 ?_
  refine va_sld hx hb hXs hbl hbA hw.2.2 hi.2.1 dL_law_743 ?_
  refine inv_Li (w := wX V) (q0 := 0) (ci := 10) (As := [.int (xs (x3 + (1 : Int32)).toNatClampNeg), .int (xs (x3 + (2 : Int32)).toNatClampNeg)]) (rest := []) lk_L_77 C hw rfl rfl rfl (t_Ch_ways (V := V) hX) rfl hl.1 dL_law_744 rfl (Nat.le_of_ble_eq_true rfl) (by decide) (Nat.le_of_ble_eq_true rfl) rfl (fun H locs hw => ?_)
  refine lv_aload_n hx hb dL_law_747 rfl (lv_at hl 2 rfl) ?_
  refine lv_aload_n hx hb dL_law_748 rfl (lv_at hl 0 rfl) ?_
  refine lv_iload_n hx hb dL_law_749 rfl (lv_at hl 3 rfl) ?_
  refine lv_iconst (v := 1) hx hb dL_law_750 kc_1 ?_
  refine lv_iadd hx hb dL_law_751 ?_
  refine va_sld hx hb hXs hbl hbA hw.2.2 hi.1 dL_law_752 ?_
  refine lv_aload_n hx hb dL_law_753 rfl (lv_at hl 0 rfl) ?_
  refine lv_iload_n hx hb dL_law_754 rfl (lv_at hl 3 rfl) ?_
  refine lv_iconst (v := 2) hx hb dL_law_755 kc_2 ?_
  refine lv_iadd hx hb dL_law_756 ?_
  refine va_sld hx hb hXs hbl hbA hw.2.2 hi.2.1 dL_law_757 ?_
  refine inv_Li (w := wM S) (q0 := 44) (ci := 11) (As := [.int (xs (x3 + (1 : Int32)).toNatClampNeg), .int (xs (x3 + (2 : Int32)).toNatClampNeg)]) (rest := [.int r]) lk_L_80 C hw rfl rfl rfl (t_Mo_ways (V := S) hM) rfl hl.1 dL_law_758 rfl (Nat.le_of_ble_eq_true rfl) (by decide) (Nat.le_of_ble_eq_true rfl) rfl (fun H locs hw => ?_)
  refine lv_icmp_eq (tgt := 1694) hx hb dL_law_761 (by decide) (fun q => ?_) (fun q => absurd rfl q)
  exact nxt S V H locs hR1 hw ls hl
set_option maxRecDepth 20000 in
theorem case_can {RR : St → St → Prop} (hs : LS_can RR) (C : Cx p s m #[Value.ref b] meth c E code 4 RL ret) (hXs : va_X b L xs s s.heap) (hbl : b < s.heap.size) (hbA : ¬ eA E b) (hi : vp_in (x3 + 1) L ∧ vp_in (x3 + 2) L ∧ vp_in (x3 + 3) L ∧ vp_in (x3 + 4) L ∧ vp_in (x3 + 5) L)
    (nxt : ∀ (S V : St) (H : Heap) (locs : List Loc), RR S V → Wd E (wX V E) s.heap S H locs → ∀ (ls : Array Slot), lv_has ls 4 [(0, .ref b), (1, .ref (ea E 0)), (2, .ref (ea E 44)), (3, .int x3)] → W p l e room_1 s m #[Value.ref b] below meth c H locs 600000 7302250 Q (F0 m 1694 ls []))
    (hR : RR S V) (hw : Wd E (wX V E) s.heap S H locs) (hl : lv_has ls 4 [(0, .ref b), (1, .ref (ea E 0)), (2, .ref (ea E 44)), (3, .int x3)]) : W p l e room_1 s m #[Value.ref b] below meth c H locs 600000 7302250 Q (F0 m 766 ls []) := by
  have hx := C.1
  have hb := C.2.1
  obtain ⟨r, S1, V1, hX, hM, hR1⟩ := hs S V (xs (x3 + (1 : Int32)).toNatClampNeg) (xs (x3 + (2 : Int32)).toNatClampNeg) hR
  refine lv_aload_n hx hb dL_law_766 rfl (lv_at hl 1 rfl) ?_
  refine lv_aload_n hx hb dL_law_767 rfl (lv_at hl 0 rfl) ?_
  refine lv_iload_n hx hb dL_law_768 rfl (lv_at hl 3 rfl) ?_
  refine lv_iconst (v := 1) hx hb dL_law_769 kc_1 ?_
  refine lv_iadd hx hb dL_law_770 ?_
  refine va_sld hx hb hXs hbl hbA hw.2.2 hi.1 dL_law_771 ?_
  refine lv_aload_n hx hb dL_law_772 rfl (lv_at hl 0 rfl) ?_
  refine lv_iload_n hx hb dL_law_773 rfl (lv_at hl 3 rfl) ?_
  refine lv_iconst (v := 2) hx hb dL_law_774 kc_2 ?_
  refine lv_iadd hx hb dL_law_775 ?_
  refine va_sld hx hb hXs hbl hbA hw.2.2 hi.2.1 dL_law_776 ?_
  refine inv_Li (w := wX V) (q0 := 0) (ci := 10) (As := [.int (xs (x3 + (1 : Int32)).toNatClampNeg), .int (xs (x3 + (2 : Int32)).toNatClampNeg)]) (rest := []) lk_L_81 C hw rfl rfl rfl (t_Ch_can (V := V) hX) rfl hl.1 dL_law_777 rfl (Nat.le_of_ble_eq_true rfl) (by decide) (Nat.le_of_ble_eq_true rfl) rfl (fun H locs hw => ?_)
  refine lv_aload_n hx hb dL_law_780 rfl (lv_at hl 2 rfl) ?_
  refine lv_aload_n hx hb dL_law_781 rfl (lv_at hl 0 rfl) ?_
  refine lv_iload_n hx hb dL_law_782 rfl (lv_at hl 3 rfl) ?_
  refine lv_iconst (v := 1) hx hb dL_law_783 kc_1 ?_
  refine lv_iadd hx hb dL_law_784 ?_
  refine va_sld hx hb hXs hbl hbA hw.2.2 hi.1 dL_law_785 ?_
  refine lv_aload_n hx hb dL_law_786 rfl (lv_at hl 0 rfl) ?_
  refine lv_iload_n hx hb dL_law_787 rfl (lv_at hl 3 rfl) ?_
  refine lv_iconst (v := 2) hx hb dL_law_788 kc_2 ?_
  refine lv_iadd hx hb dL_law_789 ?_
  refine va_sld hx hb hXs hbl hbA hw.2.2 hi.2.1 dL_law_790 ?_
  refine inv_Li (w := wM S1) (q0 := 44) (ci := 11) (As := [.int (xs (x3 + (1 : Int32)).toNatClampNeg), .int (xs (x3 + (2 : Int32)).toNatClampNeg)]) (rest := [.int r]) lk_L_84 C hw rfl rfl rfl (t_Mo_can (V := S1) hM) rfl hl.1 dL_law_791 rfl (Nat.le_of_ble_eq_true rfl) (by decide) (Nat.le_of_ble_eq_true rfl) rfl (fun H locs hw => ?_)
  refine lv_icmp_eq (tgt := 1694) hx hb dL_law_794 (by decide) (fun q => ?_) (fun q => absurd rfl q)
  exact nxt S1 V1 H locs hR1 hw ls hl
set_option maxRecDepth 20000 in
theorem case_most {RR : St → St → Prop} (hs : LS_most RR) (C : Cx p s m #[Value.ref b] meth c E code 4 RL ret) (hXs : va_X b L xs s s.heap) (hbl : b < s.heap.size) (hbA : ¬ eA E b) (hi : vp_in (x3 + 1) L ∧ vp_in (x3 + 2) L ∧ vp_in (x3 + 3) L ∧ vp_in (x3 + 4) L ∧ vp_in (x3 + 5) L)
    (nxt : ∀ (S V : St) (H : Heap) (locs : List Loc), RR S V → Wd E (wX V E) s.heap S H locs → ∀ (ls : Array Slot), lv_has ls 4 [(0, .ref b), (1, .ref (ea E 0)), (2, .ref (ea E 44)), (3, .int x3)] → W p l e room_1 s m #[Value.ref b] below meth c H locs 600000 7302250 Q (F0 m 1694 ls []))
    (hR : RR S V) (hw : Wd E (wX V E) s.heap S H locs) (hl : lv_has ls 4 [(0, .ref b), (1, .ref (ea E 0)), (2, .ref (ea E 44)), (3, .int x3)]) : W p l e room_1 s m #[Value.ref b] below meth c H locs 600000 7302250 Q (F0 m 799 ls []) := by
  have hx := C.1
  have hb := C.2.1
  obtain ⟨r, S1, V1, hX, hM, hR1⟩ := hs S V (xs (x3 + (1 : Int32)).toNatClampNeg) (xs (x3 + (2 : Int32)).toNatClampNeg) hR
  refine lv_aload_n hx hb dL_law_799 rfl (lv_at hl 1 rfl) ?_
  refine lv_aload_n hx hb dL_law_800 rfl (lv_at hl 0 rfl) ?_
  refine lv_iload_n hx hb dL_law_801 rfl (lv_at hl 3 rfl) ?_
  refine lv_iconst (v := 1) hx hb dL_law_802 kc_1 ?_
  refine lv_iadd hx hb dL_law_803 ?_
  refine va_sld hx hb hXs hbl hbA hw.2.2 hi.1 dL_law_804 ?_
  refine lv_aload_n hx hb dL_law_805 rfl (lv_at hl 0 rfl) ?_
  refine lv_iload_n hx hb dL_law_806 rfl (lv_at hl 3 rfl) ?_
  refine lv_iconst (v := 2) hx hb dL_law_807 kc_2 ?_
  refine lv_iadd hx hb dL_law_808 ?_
  refine va_sld hx hb hXs hbl hbA hw.2.2 hi.2.1 dL_law_809 ?_
  refine inv_Li (w := wX V) (q0 := 0) (ci := 10) (As := [.int (xs (x3 + (1 : Int32)).toNatClampNeg), .int (xs (x3 + (2 : Int32)).toNatClampNeg)]) (rest := []) lk_L_85 C hw rfl rfl rfl (t_Ch_most (V := V) hX) rfl hl.1 dL_law_810 rfl (Nat.le_of_ble_eq_true rfl) (by decide) (Nat.le_of_ble_eq_true rfl) rfl (fun H locs hw => ?_)
  refine lv_aload_n hx hb dL_law_813 rfl (lv_at hl 2 rfl) ?_
  refine lv_aload_n hx hb dL_law_814 rfl (lv_at hl 0 rfl) ?_
  refine lv_iload_n hx hb dL_law_815 rfl (lv_at hl 3 rfl) ?_
  refine lv_iconst (v := 1) hx hb dL_law_816 kc_1 ?_
  refine lv_iadd hx hb dL_law_817 ?_
  refine va_sld hx hb hXs hbl hbA hw.2.2 hi.1 dL_law_818 ?_
  refine lv_aload_n hx hb dL_law_819 rfl (lv_at hl 0 rfl) ?_
  refine lv_iload_n hx hb dL_law_820 rfl (lv_at hl 3 rfl) ?_
  refine lv_iconst (v := 2) hx hb dL_law_821 kc_2 ?_
  refine lv_iadd hx hb dL_law_822 ?_
  refine va_sld hx hb hXs hbl hbA hw.2.2 hi.2.1 dL_law_823 ?_
  refine inv_Li (w := wM S1) (q0 := 44) (ci := 11) (As := [.int (xs (x3 + (1 : Int32)).toNatClampNeg), .int (xs (x3 + (2 : Int32)).toNatClampNeg)]) (rest := [.int r]) lk_L_88 C hw rfl rfl rfl (t_Mo_most (V := S1) hM) rfl hl.1 dL_law_824 rfl (Nat.le_of_ble_eq_true rfl) (by decide) (Nat.le_of_ble_eq_true rfl) rfl (fun H locs hw => ?_)
  refine lv_icmp_eq (tgt := 1694) hx hb dL_law_827 (by decide) (fun q => ?_) (fun q => absurd rfl q)
  exact nxt S1 V1 H locs hR1 hw ls hl
set_option maxRecDepth 20000 in
theorem case_clashes {RR : St → St → Prop} (hs : LS_clashes RR) (C : Cx p s m #[Value.ref b] meth c E code 4 RL ret) (hXs : va_X b L xs s s.heap) (hbl : b < s.heap.size) (hbA : ¬ eA E b) (hi : vp_in (x3 + 1) L ∧ vp_in (x3 + 2) L ∧ vp_in (x3 + 3) L ∧ vp_in (x3 + 4) L ∧ vp_in (x3 + 5) L)
    (nxt : ∀ (S V : St) (H : Heap) (locs : List Loc), RR S V → Wd E (wX V E) s.heap S H locs → ∀ (ls : Array Slot), lv_has ls 4 [(0, .ref b), (1, .ref (ea E 0)), (2, .ref (ea E 44)), (3, .int x3)] → W p l e room_1 s m #[Value.ref b] below meth c H locs 600000 7302250 Q (F0 m 1694 ls []))
    (hR : RR S V) (hw : Wd E (wX V E) s.heap S H locs) (hl : lv_has ls 4 [(0, .ref b), (1, .ref (ea E 0)), (2, .ref (ea E 44)), (3, .int x3)]) : W p l e room_1 s m #[Value.ref b] below meth c H locs 600000 7302250 Q (F0 m 832 ls []) := by
  have hx := C.1
  have hb := C.2.1
  obtain ⟨r, S1, V1, hX, hM, hR1⟩ := hs S V (xs (x3 + (1 : Int32)).toNatClampNeg) (xs (x3 + (2 : Int32)).toNatClampNeg) hR
  refine lv_aload_n hx hb dL_law_832 rfl (lv_at hl 1 rfl) ?_
  refine lv_aload_n hx hb dL_law_833 rfl (lv_at hl 0 rfl) ?_
  refine lv_iload_n hx hb dL_law_834 rfl (lv_at hl 3 rfl) ?_
  refine lv_iconst (v := 1) hx hb dL_law_835 kc_1 ?_
  refine lv_iadd hx hb dL_law_836 ?_
  refine va_sld hx hb hXs hbl hbA hw.2.2 hi.1 dL_law_837 ?_
  refine lv_aload_n hx hb dL_law_838 rfl (lv_at hl 0 rfl) ?_
  refine lv_iload_n hx hb dL_law_839 rfl (lv_at hl 3 rfl) ?_
  refine lv_iconst (v := 2) hx hb dL_law_840 kc_2 ?_
  refine lv_iadd hx hb dL_law_841 ?_
  refine va_sld hx hb hXs hbl hbA hw.2.2 hi.2.1 dL_law_842 ?_
  refine inv_Li (w := wX V) (q0 := 0) (ci := 10) (As := [.int (xs (x3 + (1 : Int32)).toNatClampNeg), .int (xs (x3 + (2 : Int32)).toNatClampNeg)]) (rest := []) lk_L_89 C hw rfl rfl rfl (t_Ch_clashes (V := V) hX) rfl hl.1 dL_law_843 rfl (Nat.le_of_ble_eq_true rfl) (by decide) (Nat.le_of_ble_eq_true rfl) rfl (fun H locs hw => ?_)
  refine lv_aload_n hx hb dL_law_846 rfl (lv_at hl 2 rfl) ?_
  refine lv_aload_n hx hb dL_law_847 rfl (lv_at hl 0 rfl) ?_
  refine lv_iload_n hx hb dL_law_848 rfl (lv_at hl 3 rfl) ?_
  refine lv_iconst (v := 1) hx hb dL_law_849 kc_1 ?_
  refine lv_iadd hx hb dL_law_850 ?_
  refine va_sld hx hb hXs hbl hbA hw.2.2 hi.1 dL_law_851 ?_
  refine lv_aload_n hx hb dL_law_852 rfl (lv_at hl 0 rfl) ?_
  refine lv_iload_n hx hb dL_law_853 rfl (lv_at hl 3 rfl) ?_
  refine lv_iconst (v := 2) hx hb dL_law_854 kc_2 ?_
  refine lv_iadd hx hb dL_law_855 ?_
  refine va_sld hx hb hXs hbl hbA hw.2.2 hi.2.1 dL_law_856 ?_
  refine inv_Li (w := wM S1) (q0 := 44) (ci := 11) (As := [.int (xs (x3 + (1 : Int32)).toNatClampNeg), .int (xs (x3 + (2 : Int32)).toNatClampNeg)]) (rest := [.int r]) lk_L_92 C hw rfl rfl rfl (t_Mo_clashes (V := S1) hM) rfl hl.1 dL_law_857 rfl (Nat.le_of_ble_eq_true rfl) (by decide) (Nat.le_of_ble_eq_true rfl) rfl (fun H locs hw => ?_)
  refine lv_icmp_eq (tgt := 1694) hx hb dL_law_860 (by decide) (fun q => ?_) (fun q => absurd rfl q)
  exact nxt S1 V1 H locs hR1 hw ls hl
set_option maxRecDepth 20000 in
theorem case_hand {RR : St → St → Prop} (hs : LS_hand RR) (C : Cx p s m #[Value.ref b] meth c E code 4 RL ret) (hXs : va_X b L xs s s.heap) (hbl : b < s.heap.size) (hbA : ¬ eA E b) (hi : vp_in (x3 + 1) L ∧ vp_in (x3 + 2) L ∧ vp_in (x3 + 3) L ∧ vp_in (x3 + 4) L ∧ vp_in (x3 + 5) L)
    (nxt : ∀ (S V : St) (H : Heap) (locs : List Loc), RR S V → Wd E (wX V E) s.heap S H locs → ∀ (ls : Array Slot), lv_has ls 4 [(0, .ref b), (1, .ref (ea E 0)), (2, .ref (ea E 44)), (3, .int x3)] → W p l e room_1 s m #[Value.ref b] below meth c H locs 600000 7302250 Q (F0 m 1694 ls []))
    (hR : RR S V) (hw : Wd E (wX V E) s.heap S H locs) (hl : lv_has ls 4 [(0, .ref b), (1, .ref (ea E 0)), (2, .ref (ea E 44)), (3, .int x3)]) : W p l e room_1 s m #[Value.ref b] below meth c H locs 600000 7302250 Q (F0 m 865 ls []) := by
  have hx := C.1
  have hb := C.2.1
  obtain ⟨r, V1, hX, hM, hR1⟩ := hs S V (xs (x3 + (1 : Int32)).toNatClampNeg) (xs (x3 + (2 : Int32)).toNatClampNeg) hR
  refine lv_aload_n hx hb dL_law_865 rfl (lv_at hl 1 rfl) ?_
  refine lv_aload_n hx hb dL_law_866 rfl (lv_at hl 0 rfl) ?_
  refine lv_iload_n hx hb dL_law_867 rfl (lv_at hl 3 rfl) ?_
  refine lv_iconst (v := 1) hx hb dL_law_868 kc_1 ?_
  refine lv_iadd hx hb dL_law_869 ?_
  refine va_sld hx hb hXs hbl hbA hw.2.2 hi.1 dL_law_870 ?_
  refine lv_aload_n hx hb dL_law_871 rfl (lv_at hl 0 rfl) ?_
  refine lv_iload_n hx hb dL_law_872 rfl (lv_at hl 3 rfl) ?_
  refine lv_iconst (v := 2) hx hb dL_law_873 kc_2 ?_
  refine lv_iadd hx hb dL_law_874 ?_
  refine va_sld hx hb hXs hbl hbA hw.2.2 hi.2.1 dL_law_875 ?_
  refine inv_Li (w := wX V) (q0 := 0) (ci := 10) (As := [.int (xs (x3 + (1 : Int32)).toNatClampNeg), .int (xs (x3 + (2 : Int32)).toNatClampNeg)]) (rest := []) lk_L_93 C hw rfl rfl rfl (t_Ch_hand (V := V) hX) rfl hl.1 dL_law_876 rfl (Nat.le_of_ble_eq_true rfl) (by decide) (Nat.le_of_ble_eq_true rfl) rfl (fun H locs hw => ?_)
  refine lv_aload_n hx hb dL_law_879 rfl (lv_at hl 2 rfl) ?_
  refine lv_aload_n hx hb dL_law_880 rfl (lv_at hl 0 rfl) ?_
  refine lv_iload_n hx hb dL_law_881 rfl (lv_at hl 3 rfl) ?_
  refine lv_iconst (v := 1) hx hb dL_law_882 kc_1 ?_
  refine lv_iadd hx hb dL_law_883 ?_
  refine va_sld hx hb hXs hbl hbA hw.2.2 hi.1 dL_law_884 ?_
  refine lv_aload_n hx hb dL_law_885 rfl (lv_at hl 0 rfl) ?_
  refine lv_iload_n hx hb dL_law_886 rfl (lv_at hl 3 rfl) ?_
  refine lv_iconst (v := 2) hx hb dL_law_887 kc_2 ?_
  refine lv_iadd hx hb dL_law_888 ?_
  refine va_sld hx hb hXs hbl hbA hw.2.2 hi.2.1 dL_law_889 ?_
  refine inv_Li (w := wM S) (q0 := 44) (ci := 11) (As := [.int (xs (x3 + (1 : Int32)).toNatClampNeg), .int (xs (x3 + (2 : Int32)).toNatClampNeg)]) (rest := [.int r]) lk_L_96 C hw rfl rfl rfl (t_Mo_hand (V := S) hM) rfl hl.1 dL_law_890 rfl (Nat.le_of_ble_eq_true rfl) (by decide) (Nat.le_of_ble_eq_true rfl) rfl (fun H locs hw => ?_)
  refine lv_icmp_eq (tgt := 1694) hx hb dL_law_893 (by decide) (fun q => ?_) (fun q => absurd rfl q)
  exact nxt S V1 H locs hR1 hw ls hl
set_option maxRecDepth 20000 in
theorem case_handBest {RR : St → St → Prop} (hs : LS_handBest RR) (C : Cx p s m #[Value.ref b] meth c E code 4 RL ret) (hXs : va_X b L xs s s.heap) (hbl : b < s.heap.size) (hbA : ¬ eA E b) (hi : vp_in (x3 + 1) L ∧ vp_in (x3 + 2) L ∧ vp_in (x3 + 3) L ∧ vp_in (x3 + 4) L ∧ vp_in (x3 + 5) L)
    (nxt : ∀ (S V : St) (H : Heap) (locs : List Loc), RR S V → Wd E (wX V E) s.heap S H locs → ∀ (ls : Array Slot), lv_has ls 4 [(0, .ref b), (1, .ref (ea E 0)), (2, .ref (ea E 44)), (3, .int x3)] → W p l e room_1 s m #[Value.ref b] below meth c H locs 600000 7302250 Q (F0 m 1694 ls []))
    (hR : RR S V) (hw : Wd E (wX V E) s.heap S H locs) (hl : lv_has ls 4 [(0, .ref b), (1, .ref (ea E 0)), (2, .ref (ea E 44)), (3, .int x3)]) : W p l e room_1 s m #[Value.ref b] below meth c H locs 600000 7302250 Q (F0 m 898 ls []) := by
  have hx := C.1
  have hb := C.2.1
  obtain ⟨r, V1, hX, hM, hR1⟩ := hs S V (xs (x3 + (1 : Int32)).toNatClampNeg) (xs (x3 + (2 : Int32)).toNatClampNeg) hR
  refine lv_aload_n hx hb dL_law_898 rfl (lv_at hl 1 rfl) ?_
  refine lv_aload_n hx hb dL_law_899 rfl (lv_at hl 0 rfl) ?_
  refine lv_iload_n hx hb dL_law_900 rfl (lv_at hl 3 rfl) ?_
  refine lv_iconst (v := 1) hx hb dL_law_901 kc_1 ?_
  refine lv_iadd hx hb dL_law_902 ?_
  refine va_sld hx hb hXs hbl hbA hw.2.2 hi.1 dL_law_903 ?_
  refine lv_aload_n hx hb dL_law_904 rfl (lv_at hl 0 rfl) ?_
  refine lv_iload_n hx hb dL_law_905 rfl (lv_at hl 3 rfl) ?_
  refine lv_iconst (v := 2) hx hb dL_law_906 kc_2 ?_
  refine lv_iadd hx hb dL_law_907 ?_
  refine va_sld hx hb hXs hbl hbA hw.2.2 hi.2.1 dL_law_908 ?_
  refine inv_Li (w := wX V) (q0 := 0) (ci := 10) (As := [.int (xs (x3 + (1 : Int32)).toNatClampNeg), .int (xs (x3 + (2 : Int32)).toNatClampNeg)]) (rest := []) lk_L_97 C hw rfl rfl rfl (t_Ch_handBest (V := V) hX) rfl hl.1 dL_law_909 rfl (Nat.le_of_ble_eq_true rfl) (by decide) (Nat.le_of_ble_eq_true rfl) rfl (fun H locs hw => ?_)
  refine lv_aload_n hx hb dL_law_912 rfl (lv_at hl 2 rfl) ?_
  refine lv_aload_n hx hb dL_law_913 rfl (lv_at hl 0 rfl) ?_
  refine lv_iload_n hx hb dL_law_914 rfl (lv_at hl 3 rfl) ?_
  refine lv_iconst (v := 1) hx hb dL_law_915 kc_1 ?_
  refine lv_iadd hx hb dL_law_916 ?_
  refine va_sld hx hb hXs hbl hbA hw.2.2 hi.1 dL_law_917 ?_
  refine lv_aload_n hx hb dL_law_918 rfl (lv_at hl 0 rfl) ?_
  refine lv_iload_n hx hb dL_law_919 rfl (lv_at hl 3 rfl) ?_
  refine lv_iconst (v := 2) hx hb dL_law_920 kc_2 ?_
  refine lv_iadd hx hb dL_law_921 ?_
  refine va_sld hx hb hXs hbl hbA hw.2.2 hi.2.1 dL_law_922 ?_
  refine inv_Li (w := wM S) (q0 := 44) (ci := 11) (As := [.int (xs (x3 + (1 : Int32)).toNatClampNeg), .int (xs (x3 + (2 : Int32)).toNatClampNeg)]) (rest := [.int r]) lk_L_100 C hw rfl rfl rfl (t_Mo_handBest (V := S) hM) rfl hl.1 dL_law_923 rfl (Nat.le_of_ble_eq_true rfl) (by decide) (Nat.le_of_ble_eq_true rfl) rfl (fun H locs hw => ?_)
  refine lv_icmp_eq (tgt := 1694) hx hb dL_law_926 (by decide) (fun q => ?_) (fun q => absurd rfl q)
  exact nxt S V1 H locs hR1 hw ls hl
set_option maxRecDepth 20000 in
theorem case_judge {RR : St → St → Prop} (hs : LS_judge RR) (C : Cx p s m #[Value.ref b] meth c E code 4 RL ret) (hXs : va_X b L xs s s.heap) (hbl : b < s.heap.size) (hbA : ¬ eA E b) (hi : vp_in (x3 + 1) L ∧ vp_in (x3 + 2) L ∧ vp_in (x3 + 3) L ∧ vp_in (x3 + 4) L ∧ vp_in (x3 + 5) L)
    (nxt : ∀ (S V : St) (H : Heap) (locs : List Loc), RR S V → Wd E (wX V E) s.heap S H locs → ∀ (ls : Array Slot), lv_has ls 4 [(0, .ref b), (1, .ref (ea E 0)), (2, .ref (ea E 44)), (3, .int x3)] → W p l e room_1 s m #[Value.ref b] below meth c H locs 600000 7302250 Q (F0 m 1694 ls []))
    (hR : RR S V) (hw : Wd E (wX V E) s.heap S H locs) (hl : lv_has ls 4 [(0, .ref b), (1, .ref (ea E 0)), (2, .ref (ea E 44)), (3, .int x3)]) : W p l e room_1 s m #[Value.ref b] below meth c H locs 600000 7302250 Q (F0 m 931 ls []) := by
  have hx := C.1
  have hb := C.2.1
  obtain ⟨r, S1, V1, hX, hM, hR1⟩ := hs S V (xs (x3 + (1 : Int32)).toNatClampNeg) (xs (x3 + (2 : Int32)).toNatClampNeg) hR
  refine lv_aload_n hx hb dL_law_931 rfl (lv_at hl 1 rfl) ?_
  refine lv_aload_n hx hb dL_law_932 rfl (lv_at hl 0 rfl) ?_
  refine lv_iload_n hx hb dL_law_933 rfl (lv_at hl 3 rfl) ?_
  refine lv_iconst (v := 1) hx hb dL_law_934 kc_1 ?_
  refine lv_iadd hx hb dL_law_935 ?_
  refine va_sld hx hb hXs hbl hbA hw.2.2 hi.1 dL_law_936 ?_
  refine lv_aload_n hx hb dL_law_937 rfl (lv_at hl 0 rfl) ?_
  refine lv_iload_n hx hb dL_law_938 rfl (lv_at hl 3 rfl) ?_
  refine lv_iconst (v := 2) hx hb dL_law_939 kc_2 ?_
  refine lv_iadd hx hb dL_law_940 ?_
  refine va_sld hx hb hXs hbl hbA hw.2.2 hi.2.1 dL_law_941 ?_
  refine inv_Li (w := wX V) (q0 := 0) (ci := 10) (As := [.int (xs (x3 + (1 : Int32)).toNatClampNeg), .int (xs (x3 + (2 : Int32)).toNatClampNeg)]) (rest := []) lk_L_101 C hw rfl rfl rfl (t_Ch_judge (V := V) hX) rfl hl.1 dL_law_942 rfl (Nat.le_of_ble_eq_true rfl) (by decide) (Nat.le_of_ble_eq_true rfl) rfl (fun H locs hw => ?_)
  refine lv_aload_n hx hb dL_law_945 rfl (lv_at hl 2 rfl) ?_
  refine lv_aload_n hx hb dL_law_946 rfl (lv_at hl 0 rfl) ?_
  refine lv_iload_n hx hb dL_law_947 rfl (lv_at hl 3 rfl) ?_
  refine lv_iconst (v := 1) hx hb dL_law_948 kc_1 ?_
  refine lv_iadd hx hb dL_law_949 ?_
  refine va_sld hx hb hXs hbl hbA hw.2.2 hi.1 dL_law_950 ?_
  refine lv_aload_n hx hb dL_law_951 rfl (lv_at hl 0 rfl) ?_
  refine lv_iload_n hx hb dL_law_952 rfl (lv_at hl 3 rfl) ?_
  refine lv_iconst (v := 2) hx hb dL_law_953 kc_2 ?_
  refine lv_iadd hx hb dL_law_954 ?_
  refine va_sld hx hb hXs hbl hbA hw.2.2 hi.2.1 dL_law_955 ?_
  refine inv_Li (w := wM S1) (q0 := 44) (ci := 11) (As := [.int (xs (x3 + (1 : Int32)).toNatClampNeg), .int (xs (x3 + (2 : Int32)).toNatClampNeg)]) (rest := [.int r]) lk_L_104 C hw rfl rfl rfl (t_Mo_judge (V := S1) hM) rfl hl.1 dL_law_956 rfl (Nat.le_of_ble_eq_true rfl) (by decide) (Nat.le_of_ble_eq_true rfl) rfl (fun H locs hw => ?_)
  refine lv_icmp_eq (tgt := 1694) hx hb dL_law_959 (by decide) (fun q => ?_) (fun q => absurd rfl q)
  exact nxt S1 V1 H locs hR1 hw ls hl
set_option maxRecDepth 20000 in
theorem case_keptOn {RR : St → St → Prop} (hs : LS_keptOn RR) (C : Cx p s m #[Value.ref b] meth c E code 4 RL ret) (hXs : va_X b L xs s s.heap) (hbl : b < s.heap.size) (hbA : ¬ eA E b) (hi : vp_in (x3 + 1) L ∧ vp_in (x3 + 2) L ∧ vp_in (x3 + 3) L ∧ vp_in (x3 + 4) L ∧ vp_in (x3 + 5) L)
    (nxt : ∀ (S V : St) (H : Heap) (locs : List Loc), RR S V → Wd E (wX V E) s.heap S H locs → ∀ (ls : Array Slot), lv_has ls 4 [(0, .ref b), (1, .ref (ea E 0)), (2, .ref (ea E 44)), (3, .int x3)] → W p l e room_1 s m #[Value.ref b] below meth c H locs 600000 7302250 Q (F0 m 1694 ls []))
    (hR : RR S V) (hw : Wd E (wX V E) s.heap S H locs) (hl : lv_has ls 4 [(0, .ref b), (1, .ref (ea E 0)), (2, .ref (ea E 44)), (3, .int x3)]) : W p l e room_1 s m #[Value.ref b] below meth c H locs 600000 7302250 Q (F0 m 964 ls []) := by
  have hx := C.1
  have hb := C.2.1
  obtain ⟨r, S1, V1, hX, hM, hR1⟩ := hs S V (xs (x3 + (1 : Int32)).toNatClampNeg) (xs (x3 + (2 : Int32)).toNatClampNeg) (xs (x3 + (3 : Int32)).toNatClampNeg) (xs (x3 + (4 : Int32)).toNatClampNeg) hR
  refine lv_aload_n hx hb dL_law_964 rfl (lv_at hl 1 rfl) ?_
  refine lv_aload_n hx hb dL_law_965 rfl (lv_at hl 0 rfl) ?_
  refine lv_iload_n hx hb dL_law_966 rfl (lv_at hl 3 rfl) ?_
  refine lv_iconst (v := 1) hx hb dL_law_967 kc_1 ?_
  refine lv_iadd hx hb dL_law_968 ?_
  refine va_sld hx hb hXs hbl hbA hw.2.2 hi.1 dL_law_969 ?_
  refine lv_aload_n hx hb dL_law_970 rfl (lv_at hl 0 rfl) ?_
  refine lv_iload_n hx hb dL_law_971 rfl (lv_at hl 3 rfl) ?_
  refine lv_iconst (v := 2) hx hb dL_law_972 kc_2 ?_
  refine lv_iadd hx hb dL_law_973 ?_
  refine va_sld hx hb hXs hbl hbA hw.2.2 hi.2.1 dL_law_974 ?_
  refine lv_aload_n hx hb dL_law_975 rfl (lv_at hl 0 rfl) ?_
  refine lv_iload_n hx hb dL_law_976 rfl (lv_at hl 3 rfl) ?_
  refine lv_iconst (v := 3) hx hb dL_law_977 kc_3 ?_
  refine lv_iadd hx hb dL_law_978 ?_
  refine va_sld hx hb hXs hbl hbA hw.2.2 hi.2.2.1 dL_law_979 ?_
  refine lv_aload_n hx hb dL_law_980 rfl (lv_at hl 0 rfl) ?_
  refine lv_iload_n hx hb dL_law_981 rfl (lv_at hl 3 rfl) ?_
  refine lv_iconst (v := 4) hx hb dL_law_982 kc_4 ?_
  refine lv_iadd hx hb dL_law_983 ?_
  refine va_sld hx hb hXs hbl hbA hw.2.2 hi.2.2.2.1 dL_law_984 ?_
  refine inv_Li (w := wX V) (q0 := 0) (ci := 10) (As := [.int (xs (x3 + (1 : Int32)).toNatClampNeg), .int (xs (x3 + (2 : Int32)).toNatClampNeg), .int (xs (x3 + (3 : Int32)).toNatClampNeg), .int (xs (x3 + (4 : Int32)).toNatClampNeg)]) (rest := []) lk_L_105 C hw rfl rfl rfl (t_Ch_keptOn (V := V) hX) rfl hl.1 dL_law_985 rfl (Nat.le_of_ble_eq_true rfl) (by decide) (Nat.le_of_ble_eq_true rfl) rfl (fun H locs hw => ?_)
  refine lv_aload_n hx hb dL_law_988 rfl (lv_at hl 2 rfl) ?_
  refine lv_aload_n hx hb dL_law_989 rfl (lv_at hl 0 rfl) ?_
  refine lv_iload_n hx hb dL_law_990 rfl (lv_at hl 3 rfl) ?_
  refine lv_iconst (v := 1) hx hb dL_law_991 kc_1 ?_
  refine lv_iadd hx hb dL_law_992 ?_
  refine va_sld hx hb hXs hbl hbA hw.2.2 hi.1 dL_law_993 ?_
  refine lv_aload_n hx hb dL_law_994 rfl (lv_at hl 0 rfl) ?_
  refine lv_iload_n hx hb dL_law_995 rfl (lv_at hl 3 rfl) ?_
  refine lv_iconst (v := 2) hx hb dL_law_996 kc_2 ?_
  refine lv_iadd hx hb dL_law_997 ?_
  refine va_sld hx hb hXs hbl hbA hw.2.2 hi.2.1 dL_law_998 ?_
  refine lv_aload_n hx hb dL_law_999 rfl (lv_at hl 0 rfl) ?_
  refine lv_iload_n hx hb dL_law_1000 rfl (lv_at hl 3 rfl) ?_
  refine lv_iconst (v := 3) hx hb dL_law_1001 kc_3 ?_
  refine lv_iadd hx hb dL_law_1002 ?_
  refine va_sld hx hb hXs hbl hbA hw.2.2 hi.2.2.1 dL_law_1003 ?_
  refine lv_aload_n hx hb dL_law_1004 rfl (lv_at hl 0 rfl) ?_
  refine lv_iload_n hx hb dL_law_1005 rfl (lv_at hl 3 rfl) ?_
  refine lv_iconst (v := 4) hx hb dL_law_1006 kc_4 ?_
  refine lv_iadd hx hb dL_law_1007 ?_
  refine va_sld hx hb hXs hbl hbA hw.2.2 hi.2.2.2.1 dL_law_1008 ?_
  refine inv_Li (w := wM S1) (q0 := 44) (ci := 11) (As := [.int (xs (x3 + (1 : Int32)).toNatClampNeg), .int (xs (x3 + (2 : Int32)).toNatClampNeg), .int (xs (x3 + (3 : Int32)).toNatClampNeg), .int (xs (x3 + (4 : Int32)).toNatClampNeg)]) (rest := [.int r]) lk_L_109 C hw rfl rfl rfl (t_Mo_keptOn (V := S1) hM) rfl hl.1 dL_law_1009 rfl (Nat.le_of_ble_eq_true rfl) (by decide) (Nat.le_of_ble_eq_true rfl) rfl (fun H locs hw => ?_)
  refine lv_icmp_eq (tgt := 1694) hx hb dL_law_1012 (by decide) (fun q => ?_) (fun q => absurd rfl q)
  exact nxt S1 V1 H locs hR1 hw ls hl
set_option maxRecDepth 20000 in
theorem case_whose {RR : St → St → Prop} (hs : LS_whose RR) (C : Cx p s m #[Value.ref b] meth c E code 4 RL ret) (hXs : va_X b L xs s s.heap) (hbl : b < s.heap.size) (hbA : ¬ eA E b) (hi : vp_in (x3 + 1) L ∧ vp_in (x3 + 2) L ∧ vp_in (x3 + 3) L ∧ vp_in (x3 + 4) L ∧ vp_in (x3 + 5) L)
    (nxt : ∀ (S V : St) (H : Heap) (locs : List Loc), RR S V → Wd E (wX V E) s.heap S H locs → ∀ (ls : Array Slot), lv_has ls 4 [(0, .ref b), (1, .ref (ea E 0)), (2, .ref (ea E 44)), (3, .int x3)] → W p l e room_1 s m #[Value.ref b] below meth c H locs 600000 7302250 Q (F0 m 1694 ls []))
    (hR : RR S V) (hw : Wd E (wX V E) s.heap S H locs) (hl : lv_has ls 4 [(0, .ref b), (1, .ref (ea E 0)), (2, .ref (ea E 44)), (3, .int x3)]) : W p l e room_1 s m #[Value.ref b] below meth c H locs 600000 7302250 Q (F0 m 1017 ls []) := by
  have hx := C.1
  have hb := C.2.1
  obtain ⟨r, S1, V1, hX, hM, hR1⟩ := hs S V (xs (x3 + (1 : Int32)).toNatClampNeg) hR
  refine lv_aload_n hx hb dL_law_1017 rfl (lv_at hl 1 rfl) ?_
  refine lv_aload_n hx hb dL_law_1018 rfl (lv_at hl 0 rfl) ?_
  refine lv_iload_n hx hb dL_law_1019 rfl (lv_at hl 3 rfl) ?_
  refine lv_iconst (v := 1) hx hb dL_law_1020 kc_1 ?_
  refine lv_iadd hx hb dL_law_1021 ?_
  refine va_sld hx hb hXs hbl hbA hw.2.2 hi.1 dL_law_1022 ?_
  refine inv_Li (w := wX V) (q0 := 0) (ci := 10) (As := [.int (xs (x3 + (1 : Int32)).toNatClampNeg)]) (rest := []) lk_L_110 C hw rfl rfl rfl (t_Ch_whose (V := V) hX) rfl hl.1 dL_law_1023 rfl (Nat.le_of_ble_eq_true rfl) (by decide) (Nat.le_of_ble_eq_true rfl) rfl (fun H locs hw => ?_)
  refine lv_aload_n hx hb dL_law_1026 rfl (lv_at hl 2 rfl) ?_
  refine lv_aload_n hx hb dL_law_1027 rfl (lv_at hl 0 rfl) ?_
  refine lv_iload_n hx hb dL_law_1028 rfl (lv_at hl 3 rfl) ?_
  refine lv_iconst (v := 1) hx hb dL_law_1029 kc_1 ?_
  refine lv_iadd hx hb dL_law_1030 ?_
  refine va_sld hx hb hXs hbl hbA hw.2.2 hi.1 dL_law_1031 ?_
  refine inv_Li (w := wM S1) (q0 := 44) (ci := 11) (As := [.int (xs (x3 + (1 : Int32)).toNatClampNeg)]) (rest := [.int r]) lk_L_113 C hw rfl rfl rfl (t_Mo_whose (V := S1) hM) rfl hl.1 dL_law_1032 rfl (Nat.le_of_ble_eq_true rfl) (by decide) (Nat.le_of_ble_eq_true rfl) rfl (fun H locs hw => ?_)
  refine lv_icmp_eq (tgt := 1694) hx hb dL_law_1035 (by decide) (fun q => ?_) (fun q => absurd rfl q)
  exact nxt S1 V1 H locs hR1 hw ls hl
set_option maxRecDepth 20000 in
theorem case_byTurns {RR : St → St → Prop} (hs : LS_byTurns RR) (C : Cx p s m #[Value.ref b] meth c E code 4 RL ret) (hXs : va_X b L xs s s.heap) (hbl : b < s.heap.size) (hbA : ¬ eA E b) (hi : vp_in (x3 + 1) L ∧ vp_in (x3 + 2) L ∧ vp_in (x3 + 3) L ∧ vp_in (x3 + 4) L ∧ vp_in (x3 + 5) L)
    (nxt : ∀ (S V : St) (H : Heap) (locs : List Loc), RR S V → Wd E (wX V E) s.heap S H locs → ∀ (ls : Array Slot), lv_has ls 4 [(0, .ref b), (1, .ref (ea E 0)), (2, .ref (ea E 44)), (3, .int x3)] → W p l e room_1 s m #[Value.ref b] below meth c H locs 600000 7302250 Q (F0 m 1694 ls []))
    (hR : RR S V) (hw : Wd E (wX V E) s.heap S H locs) (hl : lv_has ls 4 [(0, .ref b), (1, .ref (ea E 0)), (2, .ref (ea E 44)), (3, .int x3)]) : W p l e room_1 s m #[Value.ref b] below meth c H locs 600000 7302250 Q (F0 m 1040 ls []) := by
  have hx := C.1
  have hb := C.2.1
  obtain ⟨r, hX, hM, hR1⟩ := hs S V (xs (x3 + (1 : Int32)).toNatClampNeg) (xs (x3 + (2 : Int32)).toNatClampNeg) (xs (x3 + (3 : Int32)).toNatClampNeg) hR
  refine lv_aload_n hx hb dL_law_1040 rfl (lv_at hl 1 rfl) ?_
  refine lv_aload_n hx hb dL_law_1041 rfl (lv_at hl 0 rfl) ?_
  refine lv_iload_n hx hb dL_law_1042 rfl (lv_at hl 3 rfl) ?_
  refine lv_iconst (v := 1) hx hb dL_law_1043 kc_1 ?_
  refine lv_iadd hx hb dL_law_1044 ?_
  refine va_sld hx hb hXs hbl hbA hw.2.2 hi.1 dL_law_1045 ?_
  refine lv_aload_n hx hb dL_law_1046 rfl (lv_at hl 0 rfl) ?_
  refine lv_iload_n hx hb dL_law_1047 rfl (lv_at hl 3 rfl) ?_
  refine lv_iconst (v := 2) hx hb dL_law_1048 kc_2 ?_
  refine lv_iadd hx hb dL_law_1049 ?_
  refine va_sld hx hb hXs hbl hbA hw.2.2 hi.2.1 dL_law_1050 ?_
  refine lv_aload_n hx hb dL_law_1051 rfl (lv_at hl 0 rfl) ?_
  refine lv_iload_n hx hb dL_law_1052 rfl (lv_at hl 3 rfl) ?_
  refine lv_iconst (v := 3) hx hb dL_law_1053 kc_3 ?_
  refine lv_iadd hx hb dL_law_1054 ?_
  refine va_sld hx hb hXs hbl hbA hw.2.2 hi.2.2.1 dL_law_1055 ?_
  refine inv_Li (w := wX V) (q0 := 0) (ci := 10) (As := [.int (xs (x3 + (1 : Int32)).toNatClampNeg), .int (xs (x3 + (2 : Int32)).toNatClampNeg), .int (xs (x3 + (3 : Int32)).toNatClampNeg)]) (rest := []) lk_L_114 C hw rfl rfl rfl (t_Ch_byTurns (V := V) hX) rfl hl.1 dL_law_1056 rfl (Nat.le_of_ble_eq_true rfl) (by decide) (Nat.le_of_ble_eq_true rfl) rfl (fun H locs hw => ?_)
  refine lv_aload_n hx hb dL_law_1059 rfl (lv_at hl 2 rfl) ?_
  refine lv_aload_n hx hb dL_law_1060 rfl (lv_at hl 0 rfl) ?_
  refine lv_iload_n hx hb dL_law_1061 rfl (lv_at hl 3 rfl) ?_
  refine lv_iconst (v := 1) hx hb dL_law_1062 kc_1 ?_
  refine lv_iadd hx hb dL_law_1063 ?_
  refine va_sld hx hb hXs hbl hbA hw.2.2 hi.1 dL_law_1064 ?_
  refine lv_aload_n hx hb dL_law_1065 rfl (lv_at hl 0 rfl) ?_
  refine lv_iload_n hx hb dL_law_1066 rfl (lv_at hl 3 rfl) ?_
  refine lv_iconst (v := 2) hx hb dL_law_1067 kc_2 ?_
  refine lv_iadd hx hb dL_law_1068 ?_
  refine va_sld hx hb hXs hbl hbA hw.2.2 hi.2.1 dL_law_1069 ?_
  refine lv_aload_n hx hb dL_law_1070 rfl (lv_at hl 0 rfl) ?_
  refine lv_iload_n hx hb dL_law_1071 rfl (lv_at hl 3 rfl) ?_
  refine lv_iconst (v := 3) hx hb dL_law_1072 kc_3 ?_
  refine lv_iadd hx hb dL_law_1073 ?_
  refine va_sld hx hb hXs hbl hbA hw.2.2 hi.2.2.1 dL_law_1074 ?_
  refine inv_Li (w := wM S) (q0 := 44) (ci := 11) (As := [.int (xs (x3 + (1 : Int32)).toNatClampNeg), .int (xs (x3 + (2 : Int32)).toNatClampNeg), .int (xs (x3 + (3 : Int32)).toNatClampNeg)]) (rest := [.int r]) lk_L_117 C hw rfl rfl rfl (t_Mo_byTurns (V := S) hM) rfl hl.1 dL_law_1075 rfl (Nat.le_of_ble_eq_true rfl) (by decide) (Nat.le_of_ble_eq_true rfl) rfl (fun H locs hw => ?_)
  refine lv_icmp_eq (tgt := 1694) hx hb dL_law_1078 (by decide) (fun q => ?_) (fun q => absurd rfl q)
  exact nxt S V H locs hR1 hw ls hl
set_option maxRecDepth 20000 in
theorem case_loudest {RR : St → St → Prop} (hs : LS_loudest RR) (C : Cx p s m #[Value.ref b] meth c E code 4 RL ret) (hXs : va_X b L xs s s.heap) (hbl : b < s.heap.size) (hbA : ¬ eA E b) (hi : vp_in (x3 + 1) L ∧ vp_in (x3 + 2) L ∧ vp_in (x3 + 3) L ∧ vp_in (x3 + 4) L ∧ vp_in (x3 + 5) L)
    (nxt : ∀ (S V : St) (H : Heap) (locs : List Loc), RR S V → Wd E (wX V E) s.heap S H locs → ∀ (ls : Array Slot), lv_has ls 4 [(0, .ref b), (1, .ref (ea E 0)), (2, .ref (ea E 44)), (3, .int x3)] → W p l e room_1 s m #[Value.ref b] below meth c H locs 600000 7302250 Q (F0 m 1694 ls []))
    (hR : RR S V) (hw : Wd E (wX V E) s.heap S H locs) (hl : lv_has ls 4 [(0, .ref b), (1, .ref (ea E 0)), (2, .ref (ea E 44)), (3, .int x3)]) : W p l e room_1 s m #[Value.ref b] below meth c H locs 600000 7302250 Q (F0 m 1083 ls []) := by
  have hx := C.1
  have hb := C.2.1
  obtain ⟨r, S1, V1, hX, hM, hR1⟩ := hs S V (xs (x3 + (1 : Int32)).toNatClampNeg) hR
  refine lv_aload_n hx hb dL_law_1083 rfl (lv_at hl 1 rfl) ?_
  refine lv_aload_n hx hb dL_law_1084 rfl (lv_at hl 0 rfl) ?_
  refine lv_iload_n hx hb dL_law_1085 rfl (lv_at hl 3 rfl) ?_
  refine lv_iconst (v := 1) hx hb dL_law_1086 kc_1 ?_
  refine lv_iadd hx hb dL_law_1087 ?_
  refine va_sld hx hb hXs hbl hbA hw.2.2 hi.1 dL_law_1088 ?_
  refine inv_Li (w := wX V) (q0 := 0) (ci := 10) (As := [.int (xs (x3 + (1 : Int32)).toNatClampNeg)]) (rest := []) lk_L_118 C hw rfl rfl rfl (t_Ch_loudest (V := V) hX) rfl hl.1 dL_law_1089 rfl (Nat.le_of_ble_eq_true rfl) (by decide) (Nat.le_of_ble_eq_true rfl) rfl (fun H locs hw => ?_)
  refine lv_aload_n hx hb dL_law_1092 rfl (lv_at hl 2 rfl) ?_
  refine lv_aload_n hx hb dL_law_1093 rfl (lv_at hl 0 rfl) ?_
  refine lv_iload_n hx hb dL_law_1094 rfl (lv_at hl 3 rfl) ?_
  refine lv_iconst (v := 1) hx hb dL_law_1095 kc_1 ?_
  refine lv_iadd hx hb dL_law_1096 ?_
  refine va_sld hx hb hXs hbl hbA hw.2.2 hi.1 dL_law_1097 ?_
  refine inv_Li (w := wM S1) (q0 := 44) (ci := 11) (As := [.int (xs (x3 + (1 : Int32)).toNatClampNeg)]) (rest := [.int r]) lk_L_121 C hw rfl rfl rfl (t_Mo_loudest (V := S1) hM) rfl hl.1 dL_law_1098 rfl (Nat.le_of_ble_eq_true rfl) (by decide) (Nat.le_of_ble_eq_true rfl) rfl (fun H locs hw => ?_)
  refine lv_icmp_eq (tgt := 1694) hx hb dL_law_1101 (by decide) (fun q => ?_) (fun q => absurd rfl q)
  exact nxt S1 V1 H locs hR1 hw ls hl
set_option maxRecDepth 20000 in
theorem case_drawn {RR : St → St → Prop} (hs : LS_drawn RR) (C : Cx p s m #[Value.ref b] meth c E code 4 RL ret) (hXs : va_X b L xs s s.heap) (hbl : b < s.heap.size) (hbA : ¬ eA E b) (hi : vp_in (x3 + 1) L ∧ vp_in (x3 + 2) L ∧ vp_in (x3 + 3) L ∧ vp_in (x3 + 4) L ∧ vp_in (x3 + 5) L)
    (nxt : ∀ (S V : St) (H : Heap) (locs : List Loc), RR S V → Wd E (wX V E) s.heap S H locs → ∀ (ls : Array Slot), lv_has ls 4 [(0, .ref b), (1, .ref (ea E 0)), (2, .ref (ea E 44)), (3, .int x3)] → W p l e room_1 s m #[Value.ref b] below meth c H locs 600000 7302250 Q (F0 m 1694 ls []))
    (hR : RR S V) (hw : Wd E (wX V E) s.heap S H locs) (hl : lv_has ls 4 [(0, .ref b), (1, .ref (ea E 0)), (2, .ref (ea E 44)), (3, .int x3)]) : W p l e room_1 s m #[Value.ref b] below meth c H locs 600000 7302250 Q (F0 m 1106 ls []) := by
  have hx := C.1
  have hb := C.2.1
  obtain ⟨r, S1, V1, hX, hM, hR1⟩ := hs S V (xs (x3 + (1 : Int32)).toNatClampNeg) (xs (x3 + (2 : Int32)).toNatClampNeg) (xs (x3 + (3 : Int32)).toNatClampNeg) (xs (x3 + (4 : Int32)).toNatClampNeg) hR
  refine lv_aload_n hx hb dL_law_1106 rfl (lv_at hl 1 rfl) ?_
  refine lv_aload_n hx hb dL_law_1107 rfl (lv_at hl 0 rfl) ?_
  refine lv_iload_n hx hb dL_law_1108 rfl (lv_at hl 3 rfl) ?_
  refine lv_iconst (v := 1) hx hb dL_law_1109 kc_1 ?_
  refine lv_iadd hx hb dL_law_1110 ?_
  refine va_sld hx hb hXs hbl hbA hw.2.2 hi.1 dL_law_1111 ?_
  refine lv_aload_n hx hb dL_law_1112 rfl (lv_at hl 0 rfl) ?_
  refine lv_iload_n hx hb dL_law_1113 rfl (lv_at hl 3 rfl) ?_
  refine lv_iconst (v := 2) hx hb dL_law_1114 kc_2 ?_
  refine lv_iadd hx hb dL_law_1115 ?_
  refine va_sld hx hb hXs hbl hbA hw.2.2 hi.2.1 dL_law_1116 ?_
  refine lv_aload_n hx hb dL_law_1117 rfl (lv_at hl 0 rfl) ?_
  refine lv_iload_n hx hb dL_law_1118 rfl (lv_at hl 3 rfl) ?_
  refine lv_iconst (v := 3) hx hb dL_law_1119 kc_3 ?_
  refine lv_iadd hx hb dL_law_1120 ?_
  refine va_sld hx hb hXs hbl hbA hw.2.2 hi.2.2.1 dL_law_1121 ?_
  refine lv_aload_n hx hb dL_law_1122 rfl (lv_at hl 0 rfl) ?_
  refine lv_iload_n hx hb dL_law_1123 rfl (lv_at hl 3 rfl) ?_
  refine lv_iconst (v := 4) hx hb dL_law_1124 kc_4 ?_
  refine lv_iadd hx hb dL_law_1125 ?_
  refine va_sld hx hb hXs hbl hbA hw.2.2 hi.2.2.2.1 dL_law_1126 ?_
  refine inv_Li (w := wX V) (q0 := 0) (ci := 10) (As := [.int (xs (x3 + (1 : Int32)).toNatClampNeg), .int (xs (x3 + (2 : Int32)).toNatClampNeg), .int (xs (x3 + (3 : Int32)).toNatClampNeg), .int (xs (x3 + (4 : Int32)).toNatClampNeg)]) (rest := []) lk_L_122 C hw rfl rfl rfl (t_Ch_drawn (V := V) hX) rfl hl.1 dL_law_1127 rfl (Nat.le_of_ble_eq_true rfl) (by decide) (Nat.le_of_ble_eq_true rfl) rfl (fun H locs hw => ?_)
  refine lv_aload_n hx hb dL_law_1130 rfl (lv_at hl 2 rfl) ?_
  refine lv_aload_n hx hb dL_law_1131 rfl (lv_at hl 0 rfl) ?_
  refine lv_iload_n hx hb dL_law_1132 rfl (lv_at hl 3 rfl) ?_
  refine lv_iconst (v := 1) hx hb dL_law_1133 kc_1 ?_
  refine lv_iadd hx hb dL_law_1134 ?_
  refine va_sld hx hb hXs hbl hbA hw.2.2 hi.1 dL_law_1135 ?_
  refine lv_aload_n hx hb dL_law_1136 rfl (lv_at hl 0 rfl) ?_
  refine lv_iload_n hx hb dL_law_1137 rfl (lv_at hl 3 rfl) ?_
  refine lv_iconst (v := 2) hx hb dL_law_1138 kc_2 ?_
  refine lv_iadd hx hb dL_law_1139 ?_
  refine va_sld hx hb hXs hbl hbA hw.2.2 hi.2.1 dL_law_1140 ?_
  refine lv_aload_n hx hb dL_law_1141 rfl (lv_at hl 0 rfl) ?_
  refine lv_iload_n hx hb dL_law_1142 rfl (lv_at hl 3 rfl) ?_
  refine lv_iconst (v := 3) hx hb dL_law_1143 kc_3 ?_
  refine lv_iadd hx hb dL_law_1144 ?_
  refine va_sld hx hb hXs hbl hbA hw.2.2 hi.2.2.1 dL_law_1145 ?_
  refine lv_aload_n hx hb dL_law_1146 rfl (lv_at hl 0 rfl) ?_
  refine lv_iload_n hx hb dL_law_1147 rfl (lv_at hl 3 rfl) ?_
  refine lv_iconst (v := 4) hx hb dL_law_1148 kc_4 ?_
  refine lv_iadd hx hb dL_law_1149 ?_
  refine va_sld hx hb hXs hbl hbA hw.2.2 hi.2.2.2.1 dL_law_1150 ?_
  refine inv_Li (w := wM S1) (q0 := 44) (ci := 11) (As := [.int (xs (x3 + (1 : Int32)).toNatClampNeg), .int (xs (x3 + (2 : Int32)).toNatClampNeg), .int (xs (x3 + (3 : Int32)).toNatClampNeg), .int (xs (x3 + (4 : Int32)).toNatClampNeg)]) (rest := [.int r]) lk_L_125 C hw rfl rfl rfl (t_Mo_drawn (V := S1) hM) rfl hl.1 dL_law_1151 rfl (Nat.le_of_ble_eq_true rfl) (by decide) (Nat.le_of_ble_eq_true rfl) rfl (fun H locs hw => ?_)
  refine lv_icmp_eq (tgt := 1694) hx hb dL_law_1154 (by decide) (fun q => ?_) (fun q => absurd rfl q)
  exact nxt S1 V1 H locs hR1 hw ls hl
set_option maxRecDepth 20000 in
theorem case_passes {RR : St → St → Prop} (hs : LS_passes RR) (C : Cx p s m #[Value.ref b] meth c E code 4 RL ret) (hXs : va_X b L xs s s.heap) (hbl : b < s.heap.size) (hbA : ¬ eA E b) (hi : vp_in (x3 + 1) L ∧ vp_in (x3 + 2) L ∧ vp_in (x3 + 3) L ∧ vp_in (x3 + 4) L ∧ vp_in (x3 + 5) L)
    (nxt : ∀ (S V : St) (H : Heap) (locs : List Loc), RR S V → Wd E (wX V E) s.heap S H locs → ∀ (ls : Array Slot), lv_has ls 4 [(0, .ref b), (1, .ref (ea E 0)), (2, .ref (ea E 44)), (3, .int x3)] → W p l e room_1 s m #[Value.ref b] below meth c H locs 600000 7302250 Q (F0 m 1694 ls []))
    (hR : RR S V) (hw : Wd E (wX V E) s.heap S H locs) (hl : lv_has ls 4 [(0, .ref b), (1, .ref (ea E 0)), (2, .ref (ea E 44)), (3, .int x3)]) : W p l e room_1 s m #[Value.ref b] below meth c H locs 600000 7302250 Q (F0 m 1159 ls []) := by
  have hx := C.1
  have hb := C.2.1
  obtain ⟨r, S1, V1, hX, hM, hR1⟩ := hs S V hR
  refine lv_aload_n hx hb dL_law_1159 rfl (lv_at hl 1 rfl) ?_
  refine inv_Li (w := wX V) (q0 := 0) (ci := 10) (As := []) (rest := []) lk_L_126 C hw rfl rfl rfl (t_Ch_passes (V := V) hX) rfl hl.1 dL_law_1160 rfl (Nat.le_of_ble_eq_true rfl) (by decide) (Nat.le_of_ble_eq_true rfl) rfl (fun H locs hw => ?_)
  refine lv_aload_n hx hb dL_law_1163 rfl (lv_at hl 2 rfl) ?_
  refine inv_Li (w := wM S1) (q0 := 44) (ci := 11) (As := []) (rest := [.int r]) lk_L_129 C hw rfl rfl rfl (t_Mo_passes (V := S1) hM) rfl hl.1 dL_law_1164 rfl (Nat.le_of_ble_eq_true rfl) (by decide) (Nat.le_of_ble_eq_true rfl) rfl (fun H locs hw => ?_)
  refine lv_icmp_eq (tgt := 1694) hx hb dL_law_1167 (by decide) (fun q => ?_) (fun q => absurd rfl q)
  exact nxt S1 V1 H locs hR1 hw ls hl
set_option maxRecDepth 20000 in
theorem case_vow {RR : St → St → Prop} (hs : LS_vow RR) (C : Cx p s m #[Value.ref b] meth c E code 4 RL ret) (hXs : va_X b L xs s s.heap) (hbl : b < s.heap.size) (hbA : ¬ eA E b) (hi : vp_in (x3 + 1) L ∧ vp_in (x3 + 2) L ∧ vp_in (x3 + 3) L ∧ vp_in (x3 + 4) L ∧ vp_in (x3 + 5) L)
    (nxt : ∀ (S V : St) (H : Heap) (locs : List Loc), RR S V → Wd E (wX V E) s.heap S H locs → ∀ (ls : Array Slot), lv_has ls 4 [(0, .ref b), (1, .ref (ea E 0)), (2, .ref (ea E 44)), (3, .int x3)] → W p l e room_1 s m #[Value.ref b] below meth c H locs 600000 7302250 Q (F0 m 1694 ls []))
    (hR : RR S V) (hw : Wd E (wX V E) s.heap S H locs) (hl : lv_has ls 4 [(0, .ref b), (1, .ref (ea E 0)), (2, .ref (ea E 44)), (3, .int x3)]) : W p l e room_1 s m #[Value.ref b] below meth c H locs 600000 7302250 Q (F0 m 1172 ls []) := by
  have hx := C.1
  have hb := C.2.1
  obtain ⟨r, S1, V1, hX, hM, hR1⟩ := hs S V (xs (x3 + (1 : Int32)).toNatClampNeg) (xs (x3 + (2 : Int32)).toNatClampNeg) hR
  refine lv_aload_n hx hb dL_law_1172 rfl (lv_at hl 1 rfl) ?_
  refine lv_aload_n hx hb dL_law_1173 rfl (lv_at hl 0 rfl) ?_
  refine lv_iload_n hx hb dL_law_1174 rfl (lv_at hl 3 rfl) ?_
  refine lv_iconst (v := 1) hx hb dL_law_1175 kc_1 ?_
  refine lv_iadd hx hb dL_law_1176 ?_
  refine va_sld hx hb hXs hbl hbA hw.2.2 hi.1 dL_law_1177 ?_
  refine lv_aload_n hx hb dL_law_1178 rfl (lv_at hl 0 rfl) ?_
  refine lv_iload_n hx hb dL_law_1179 rfl (lv_at hl 3 rfl) ?_
  refine lv_iconst (v := 2) hx hb dL_law_1180 kc_2 ?_
  refine lv_iadd hx hb dL_law_1181 ?_
  refine va_sld hx hb hXs hbl hbA hw.2.2 hi.2.1 dL_law_1182 ?_
  refine inv_Li (w := wX V) (q0 := 0) (ci := 10) (As := [.int (xs (x3 + (1 : Int32)).toNatClampNeg), .int (xs (x3 + (2 : Int32)).toNatClampNeg)]) (rest := []) lk_L_130 C hw rfl rfl rfl (t_Ch_vow (V := V) hX) rfl hl.1 dL_law_1183 rfl (Nat.le_of_ble_eq_true rfl) (by decide) (Nat.le_of_ble_eq_true rfl) rfl (fun H locs hw => ?_)
  refine lv_aload_n hx hb dL_law_1186 rfl (lv_at hl 2 rfl) ?_
  refine lv_aload_n hx hb dL_law_1187 rfl (lv_at hl 0 rfl) ?_
  refine lv_iload_n hx hb dL_law_1188 rfl (lv_at hl 3 rfl) ?_
  refine lv_iconst (v := 1) hx hb dL_law_1189 kc_1 ?_
  refine lv_iadd hx hb dL_law_1190 ?_
  refine va_sld hx hb hXs hbl hbA hw.2.2 hi.1 dL_law_1191 ?_
  refine lv_aload_n hx hb dL_law_1192 rfl (lv_at hl 0 rfl) ?_
  refine lv_iload_n hx hb dL_law_1193 rfl (lv_at hl 3 rfl) ?_
  refine lv_iconst (v := 2) hx hb dL_law_1194 kc_2 ?_
  refine lv_iadd hx hb dL_law_1195 ?_
  refine va_sld hx hb hXs hbl hbA hw.2.2 hi.2.1 dL_law_1196 ?_
  refine inv_Li (w := wM S1) (q0 := 44) (ci := 11) (As := [.int (xs (x3 + (1 : Int32)).toNatClampNeg), .int (xs (x3 + (2 : Int32)).toNatClampNeg)]) (rest := [.int r]) lk_L_133 C hw rfl rfl rfl (t_Mo_vow (V := S1) hM) rfl hl.1 dL_law_1197 rfl (Nat.le_of_ble_eq_true rfl) (by decide) (Nat.le_of_ble_eq_true rfl) rfl (fun H locs hw => ?_)
  refine lv_icmp_eq (tgt := 1694) hx hb dL_law_1200 (by decide) (fun q => ?_) (fun q => absurd rfl q)
  exact nxt S1 V1 H locs hR1 hw ls hl
set_option maxRecDepth 20000 in
theorem case_kept {RR : St → St → Prop} (hs : LS_kept RR) (C : Cx p s m #[Value.ref b] meth c E code 4 RL ret) (hXs : va_X b L xs s s.heap) (hbl : b < s.heap.size) (hbA : ¬ eA E b) (hi : vp_in (x3 + 1) L ∧ vp_in (x3 + 2) L ∧ vp_in (x3 + 3) L ∧ vp_in (x3 + 4) L ∧ vp_in (x3 + 5) L)
    (nxt : ∀ (S V : St) (H : Heap) (locs : List Loc), RR S V → Wd E (wX V E) s.heap S H locs → ∀ (ls : Array Slot), lv_has ls 4 [(0, .ref b), (1, .ref (ea E 0)), (2, .ref (ea E 44)), (3, .int x3)] → W p l e room_1 s m #[Value.ref b] below meth c H locs 600000 7302250 Q (F0 m 1694 ls []))
    (hR : RR S V) (hw : Wd E (wX V E) s.heap S H locs) (hl : lv_has ls 4 [(0, .ref b), (1, .ref (ea E 0)), (2, .ref (ea E 44)), (3, .int x3)]) : W p l e room_1 s m #[Value.ref b] below meth c H locs 600000 7302250 Q (F0 m 1205 ls []) := by
  have hx := C.1
  have hb := C.2.1
  obtain ⟨r, S1, V1, hX, hM, hR1⟩ := hs S V (xs (x3 + (1 : Int32)).toNatClampNeg) hR
  refine lv_aload_n hx hb dL_law_1205 rfl (lv_at hl 1 rfl) ?_
  refine lv_aload_n hx hb dL_law_1206 rfl (lv_at hl 0 rfl) ?_
  refine lv_iload_n hx hb dL_law_1207 rfl (lv_at hl 3 rfl) ?_
  refine lv_iconst (v := 1) hx hb dL_law_1208 kc_1 ?_
  refine lv_iadd hx hb dL_law_1209 ?_
  refine va_sld hx hb hXs hbl hbA hw.2.2 hi.1 dL_law_1210 ?_
  refine inv_Li (w := wX V) (q0 := 0) (ci := 10) (As := [.int (xs (x3 + (1 : Int32)).toNatClampNeg)]) (rest := []) lk_L_134 C hw rfl rfl rfl (t_Ch_kept (V := V) hX) rfl hl.1 dL_law_1211 rfl (Nat.le_of_ble_eq_true rfl) (by decide) (Nat.le_of_ble_eq_true rfl) rfl (fun H locs hw => ?_)
  refine lv_aload_n hx hb dL_law_1214 rfl (lv_at hl 2 rfl) ?_
  refine lv_aload_n hx hb dL_law_1215 rfl (lv_at hl 0 rfl) ?_
  refine lv_iload_n hx hb dL_law_1216 rfl (lv_at hl 3 rfl) ?_
  refine lv_iconst (v := 1) hx hb dL_law_1217 kc_1 ?_
  refine lv_iadd hx hb dL_law_1218 ?_
  refine va_sld hx hb hXs hbl hbA hw.2.2 hi.1 dL_law_1219 ?_
  refine inv_Li (w := wM S1) (q0 := 44) (ci := 11) (As := [.int (xs (x3 + (1 : Int32)).toNatClampNeg)]) (rest := [.int r]) lk_L_137 C hw rfl rfl rfl (t_Mo_kept (V := S1) hM) rfl hl.1 dL_law_1220 rfl (Nat.le_of_ble_eq_true rfl) (by decide) (Nat.le_of_ble_eq_true rfl) rfl (fun H locs hw => ?_)
  refine lv_icmp_eq (tgt := 1694) hx hb dL_law_1223 (by decide) (fun q => ?_) (fun q => absurd rfl q)
  exact nxt S1 V1 H locs hR1 hw ls hl
set_option maxRecDepth 20000 in
theorem case_led {RR : St → St → Prop} (hs : LS_led RR) (C : Cx p s m #[Value.ref b] meth c E code 4 RL ret) (hXs : va_X b L xs s s.heap) (hbl : b < s.heap.size) (hbA : ¬ eA E b) (hi : vp_in (x3 + 1) L ∧ vp_in (x3 + 2) L ∧ vp_in (x3 + 3) L ∧ vp_in (x3 + 4) L ∧ vp_in (x3 + 5) L)
    (nxt : ∀ (S V : St) (H : Heap) (locs : List Loc), RR S V → Wd E (wX V E) s.heap S H locs → ∀ (ls : Array Slot), lv_has ls 4 [(0, .ref b), (1, .ref (ea E 0)), (2, .ref (ea E 44)), (3, .int x3)] → W p l e room_1 s m #[Value.ref b] below meth c H locs 600000 7302250 Q (F0 m 1694 ls []))
    (hR : RR S V) (hw : Wd E (wX V E) s.heap S H locs) (hl : lv_has ls 4 [(0, .ref b), (1, .ref (ea E 0)), (2, .ref (ea E 44)), (3, .int x3)]) : W p l e room_1 s m #[Value.ref b] below meth c H locs 600000 7302250 Q (F0 m 1228 ls []) := by
  have hx := C.1
  have hb := C.2.1
  obtain ⟨r, hX, hM, hR1⟩ := hs S V (xs (x3 + (1 : Int32)).toNatClampNeg) hR
  refine lv_aload_n hx hb dL_law_1228 rfl (lv_at hl 1 rfl) ?_
  refine lv_aload_n hx hb dL_law_1229 rfl (lv_at hl 0 rfl) ?_
  refine lv_iload_n hx hb dL_law_1230 rfl (lv_at hl 3 rfl) ?_
  refine lv_iconst (v := 1) hx hb dL_law_1231 kc_1 ?_
  refine lv_iadd hx hb dL_law_1232 ?_
  refine va_sld hx hb hXs hbl hbA hw.2.2 hi.1 dL_law_1233 ?_
  refine inv_Li (w := wX V) (q0 := 0) (ci := 10) (As := [.int (xs (x3 + (1 : Int32)).toNatClampNeg)]) (rest := []) lk_L_138 C hw rfl rfl rfl (t_Ch_led (V := V) hX) rfl hl.1 dL_law_1234 rfl (Nat.le_of_ble_eq_true rfl) (by decide) (Nat.le_of_ble_eq_true rfl) rfl (fun H locs hw => ?_)
  refine lv_aload_n hx hb dL_law_1237 rfl (lv_at hl 2 rfl) ?_
  refine lv_aload_n hx hb dL_law_1238 rfl (lv_at hl 0 rfl) ?_
  refine lv_iload_n hx hb dL_law_1239 rfl (lv_at hl 3 rfl) ?_
  refine lv_iconst (v := 1) hx hb dL_law_1240 kc_1 ?_
  refine lv_iadd hx hb dL_law_1241 ?_
  refine va_sld hx hb hXs hbl hbA hw.2.2 hi.1 dL_law_1242 ?_
  refine inv_Li (w := wM S) (q0 := 44) (ci := 11) (As := [.int (xs (x3 + (1 : Int32)).toNatClampNeg)]) (rest := [.int r]) lk_L_141 C hw rfl rfl rfl (t_Mo_led (V := S) hM) rfl hl.1 dL_law_1243 rfl (Nat.le_of_ble_eq_true rfl) (by decide) (Nat.le_of_ble_eq_true rfl) rfl (fun H locs hw => ?_)
  refine lv_icmp_eq (tgt := 1694) hx hb dL_law_1246 (by decide) (fun q => ?_) (fun q => absurd rfl q)
  exact nxt S V H locs hR1 hw ls hl
set_option maxRecDepth 20000 in
theorem case_image {RR : St → St → Prop} (hs : LS_image RR) (C : Cx p s m #[Value.ref b] meth c E code 4 RL ret) (hXs : va_X b L xs s s.heap) (hbl : b < s.heap.size) (hbA : ¬ eA E b) (hi : vp_in (x3 + 1) L ∧ vp_in (x3 + 2) L ∧ vp_in (x3 + 3) L ∧ vp_in (x3 + 4) L ∧ vp_in (x3 + 5) L)
    (nxt : ∀ (S V : St) (H : Heap) (locs : List Loc), RR S V → Wd E (wX V E) s.heap S H locs → ∀ (ls : Array Slot), lv_has ls 4 [(0, .ref b), (1, .ref (ea E 0)), (2, .ref (ea E 44)), (3, .int x3)] → W p l e room_1 s m #[Value.ref b] below meth c H locs 600000 7302250 Q (F0 m 1694 ls []))
    (hR : RR S V) (hw : Wd E (wX V E) s.heap S H locs) (hl : lv_has ls 4 [(0, .ref b), (1, .ref (ea E 0)), (2, .ref (ea E 44)), (3, .int x3)]) : W p l e room_1 s m #[Value.ref b] below meth c H locs 600000 7302250 Q (F0 m 1251 ls []) := by
  have hx := C.1
  have hb := C.2.1
  obtain ⟨r, S1, V1, hX, hM, hR1⟩ := hs S V hR
  refine lv_aload_n hx hb dL_law_1251 rfl (lv_at hl 1 rfl) ?_
  refine inv_Li (w := wX V) (q0 := 0) (ci := 10) (As := []) (rest := []) lk_L_142 C hw rfl rfl rfl (t_Ch_image (V := V) hX) rfl hl.1 dL_law_1252 rfl (Nat.le_of_ble_eq_true rfl) (by decide) (Nat.le_of_ble_eq_true rfl) rfl (fun H locs hw => ?_)
  refine lv_aload_n hx hb dL_law_1255 rfl (lv_at hl 2 rfl) ?_
  refine inv_Li (w := wM S1) (q0 := 44) (ci := 11) (As := []) (rest := [.int r]) lk_L_145 C hw rfl rfl rfl (t_Mo_image (V := S1) hM) rfl hl.1 dL_law_1256 rfl (Nat.le_of_ble_eq_true rfl) (by decide) (Nat.le_of_ble_eq_true rfl) rfl (fun H locs hw => ?_)
  refine lv_icmp_eq (tgt := 1694) hx hb dL_law_1259 (by decide) (fun q => ?_) (fun q => absurd rfl q)
  exact nxt S1 V1 H locs hR1 hw ls hl
set_option maxRecDepth 20000 in
theorem case_back {RR : St → St → Prop} (hs : LS_back RR) (C : Cx p s m #[Value.ref b] meth c E code 4 RL ret) (hXs : va_X b L xs s s.heap) (hbl : b < s.heap.size) (hbA : ¬ eA E b) (hi : vp_in (x3 + 1) L ∧ vp_in (x3 + 2) L ∧ vp_in (x3 + 3) L ∧ vp_in (x3 + 4) L ∧ vp_in (x3 + 5) L)
    (nxt : ∀ (S V : St) (H : Heap) (locs : List Loc), RR S V → Wd E (wX V E) s.heap S H locs → ∀ (ls : Array Slot), lv_has ls 4 [(0, .ref b), (1, .ref (ea E 0)), (2, .ref (ea E 44)), (3, .int x3)] → W p l e room_1 s m #[Value.ref b] below meth c H locs 600000 7302250 Q (F0 m 1694 ls []))
    (hR : RR S V) (hw : Wd E (wX V E) s.heap S H locs) (hl : lv_has ls 4 [(0, .ref b), (1, .ref (ea E 0)), (2, .ref (ea E 44)), (3, .int x3)]) : W p l e room_1 s m #[Value.ref b] below meth c H locs 600000 7302250 Q (F0 m 1264 ls []) := by
  have hx := C.1
  have hb := C.2.1
  obtain ⟨r, S1, V1, hX, hM, hR1⟩ := hs S V hR
  refine lv_aload_n hx hb dL_law_1264 rfl (lv_at hl 1 rfl) ?_
  refine inv_Li (w := wX V) (q0 := 0) (ci := 10) (As := []) (rest := []) lk_L_146 C hw rfl rfl rfl (t_Ch_back (V := V) hX) rfl hl.1 dL_law_1265 rfl (Nat.le_of_ble_eq_true rfl) (by decide) (Nat.le_of_ble_eq_true rfl) rfl (fun H locs hw => ?_)
  refine lv_aload_n hx hb dL_law_1268 rfl (lv_at hl 2 rfl) ?_
  refine inv_Li (w := wM S1) (q0 := 44) (ci := 11) (As := []) (rest := [.int r]) lk_L_149 C hw rfl rfl rfl (t_Mo_back (V := S1) hM) rfl hl.1 dL_law_1269 rfl (Nat.le_of_ble_eq_true rfl) (by decide) (Nat.le_of_ble_eq_true rfl) rfl (fun H locs hw => ?_)
  refine lv_icmp_eq (tgt := 1694) hx hb dL_law_1272 (by decide) (fun q => ?_) (fun q => absurd rfl q)
  exact nxt S1 V1 H locs hR1 hw ls hl
set_option maxRecDepth 20000 in
theorem case_undo {RR : St → St → Prop} (hs : LS_undo RR) (C : Cx p s m #[Value.ref b] meth c E code 4 RL ret) (hXs : va_X b L xs s s.heap) (hbl : b < s.heap.size) (hbA : ¬ eA E b) (hi : vp_in (x3 + 1) L ∧ vp_in (x3 + 2) L ∧ vp_in (x3 + 3) L ∧ vp_in (x3 + 4) L ∧ vp_in (x3 + 5) L)
    (nxt : ∀ (S V : St) (H : Heap) (locs : List Loc), RR S V → Wd E (wX V E) s.heap S H locs → ∀ (ls : Array Slot), lv_has ls 4 [(0, .ref b), (1, .ref (ea E 0)), (2, .ref (ea E 44)), (3, .int x3)] → W p l e room_1 s m #[Value.ref b] below meth c H locs 600000 7302250 Q (F0 m 1694 ls []))
    (hR : RR S V) (hw : Wd E (wX V E) s.heap S H locs) (hl : lv_has ls 4 [(0, .ref b), (1, .ref (ea E 0)), (2, .ref (ea E 44)), (3, .int x3)]) : W p l e room_1 s m #[Value.ref b] below meth c H locs 600000 7302250 Q (F0 m 1277 ls []) := by
  have hx := C.1
  have hb := C.2.1
  obtain ⟨r, S1, V1, hX, hM, hR1⟩ := hs S V hR
  refine lv_aload_n hx hb dL_law_1277 rfl (lv_at hl 1 rfl) ?_
  refine inv_Li (w := wX V) (q0 := 0) (ci := 10) (As := []) (rest := []) lk_L_150 C hw rfl rfl rfl (t_Ch_undo (V := V) hX) rfl hl.1 dL_law_1278 rfl (Nat.le_of_ble_eq_true rfl) (by decide) (Nat.le_of_ble_eq_true rfl) rfl (fun H locs hw => ?_)
  refine lv_aload_n hx hb dL_law_1281 rfl (lv_at hl 2 rfl) ?_
  refine inv_Li (w := wM S1) (q0 := 44) (ci := 11) (As := []) (rest := [.int r]) lk_L_153 C hw rfl rfl rfl (t_Mo_undo (V := S1) hM) rfl hl.1 dL_law_1282 rfl (Nat.le_of_ble_eq_true rfl) (by decide) (Nat.le_of_ble_eq_true rfl) rfl (fun H locs hw => ?_)
  refine lv_icmp_eq (tgt := 1694) hx hb dL_law_1285 (by decide) (fun q => ?_) (fun q => absurd rfl q)
  exact nxt S1 V1 H locs hR1 hw ls hl
set_option maxRecDepth 20000 in
theorem case_redo {RR : St → St → Prop} (hs : LS_redo RR) (C : Cx p s m #[Value.ref b] meth c E code 4 RL ret) (hXs : va_X b L xs s s.heap) (hbl : b < s.heap.size) (hbA : ¬ eA E b) (hi : vp_in (x3 + 1) L ∧ vp_in (x3 + 2) L ∧ vp_in (x3 + 3) L ∧ vp_in (x3 + 4) L ∧ vp_in (x3 + 5) L)
    (nxt : ∀ (S V : St) (H : Heap) (locs : List Loc), RR S V → Wd E (wX V E) s.heap S H locs → ∀ (ls : Array Slot), lv_has ls 4 [(0, .ref b), (1, .ref (ea E 0)), (2, .ref (ea E 44)), (3, .int x3)] → W p l e room_1 s m #[Value.ref b] below meth c H locs 600000 7302250 Q (F0 m 1694 ls []))
    (hR : RR S V) (hw : Wd E (wX V E) s.heap S H locs) (hl : lv_has ls 4 [(0, .ref b), (1, .ref (ea E 0)), (2, .ref (ea E 44)), (3, .int x3)]) : W p l e room_1 s m #[Value.ref b] below meth c H locs 600000 7302250 Q (F0 m 1290 ls []) := by
  have hx := C.1
  have hb := C.2.1
  obtain ⟨r, S1, V1, hX, hM, hR1⟩ := hs S V hR
  refine lv_aload_n hx hb dL_law_1290 rfl (lv_at hl 1 rfl) ?_
  refine inv_Li (w := wX V) (q0 := 0) (ci := 10) (As := []) (rest := []) lk_L_154 C hw rfl rfl rfl (t_Ch_redo (V := V) hX) rfl hl.1 dL_law_1291 rfl (Nat.le_of_ble_eq_true rfl) (by decide) (Nat.le_of_ble_eq_true rfl) rfl (fun H locs hw => ?_)
  refine lv_aload_n hx hb dL_law_1294 rfl (lv_at hl 2 rfl) ?_
  refine inv_Li (w := wM S1) (q0 := 44) (ci := 11) (As := []) (rest := [.int r]) lk_L_157 C hw rfl rfl rfl (t_Mo_redo (V := S1) hM) rfl hl.1 dL_law_1295 rfl (Nat.le_of_ble_eq_true rfl) (by decide) (Nat.le_of_ble_eq_true rfl) rfl (fun H locs hw => ?_)
  refine lv_icmp_eq (tgt := 1694) hx hb dL_law_1298 (by decide) (fun q => ?_) (fun q => absurd rfl q)
  exact nxt S1 V1 H locs hR1 hw ls hl
set_option maxRecDepth 20000 in
theorem case_body {RR : St → St → Prop} (hs : LS_body RR) (C : Cx p s m #[Value.ref b] meth c E code 4 RL ret) (hXs : va_X b L xs s s.heap) (hbl : b < s.heap.size) (hbA : ¬ eA E b) (hi : vp_in (x3 + 1) L ∧ vp_in (x3 + 2) L ∧ vp_in (x3 + 3) L ∧ vp_in (x3 + 4) L ∧ vp_in (x3 + 5) L)
    (nxt : ∀ (S V : St) (H : Heap) (locs : List Loc), RR S V → Wd E (wX V E) s.heap S H locs → ∀ (ls : Array Slot), lv_has ls 4 [(0, .ref b), (1, .ref (ea E 0)), (2, .ref (ea E 44)), (3, .int x3)] → W p l e room_1 s m #[Value.ref b] below meth c H locs 600000 7302250 Q (F0 m 1694 ls []))
    (hR : RR S V) (hw : Wd E (wX V E) s.heap S H locs) (hl : lv_has ls 4 [(0, .ref b), (1, .ref (ea E 0)), (2, .ref (ea E 44)), (3, .int x3)]) : W p l e room_1 s m #[Value.ref b] below meth c H locs 600000 7302250 Q (F0 m 1303 ls []) := by
  have hx := C.1
  have hb := C.2.1
  obtain ⟨r, S1, V1, hX, hM, hR1⟩ := hs S V (xs (x3 + (1 : Int32)).toNatClampNeg) hR
  refine lv_aload_n hx hb dL_law_1303 rfl (lv_at hl 1 rfl) ?_
  refine lv_aload_n hx hb dL_law_1304 rfl (lv_at hl 0 rfl) ?_
  refine lv_iload_n hx hb dL_law_1305 rfl (lv_at hl 3 rfl) ?_
  refine lv_iconst (v := 1) hx hb dL_law_1306 kc_1 ?_
  refine lv_iadd hx hb dL_law_1307 ?_
  refine va_sld hx hb hXs hbl hbA hw.2.2 hi.1 dL_law_1308 ?_
  refine inv_Li (w := wX V) (q0 := 0) (ci := 10) (As := [.int (xs (x3 + (1 : Int32)).toNatClampNeg)]) (rest := []) lk_L_158 C hw rfl rfl rfl (t_Ch_body (V := V) hX) rfl hl.1 dL_law_1309 rfl (Nat.le_of_ble_eq_true rfl) (by decide) (Nat.le_of_ble_eq_true rfl) rfl (fun H locs hw => ?_)
  refine lv_aload_n hx hb dL_law_1312 rfl (lv_at hl 2 rfl) ?_
  refine lv_aload_n hx hb dL_law_1313 rfl (lv_at hl 0 rfl) ?_
  refine lv_iload_n hx hb dL_law_1314 rfl (lv_at hl 3 rfl) ?_
  refine lv_iconst (v := 1) hx hb dL_law_1315 kc_1 ?_
  refine lv_iadd hx hb dL_law_1316 ?_
  refine va_sld hx hb hXs hbl hbA hw.2.2 hi.1 dL_law_1317 ?_
  refine inv_Li (w := wM S1) (q0 := 44) (ci := 11) (As := [.int (xs (x3 + (1 : Int32)).toNatClampNeg)]) (rest := [.int r]) lk_L_161 C hw rfl rfl rfl (t_Mo_body (V := S1) hM) rfl hl.1 dL_law_1318 rfl (Nat.le_of_ble_eq_true rfl) (by decide) (Nat.le_of_ble_eq_true rfl) rfl (fun H locs hw => ?_)
  refine lv_icmp_eq (tgt := 1694) hx hb dL_law_1321 (by decide) (fun q => ?_) (fun q => absurd rfl q)
  exact nxt S1 V1 H locs hR1 hw ls hl
set_option maxRecDepth 20000 in
theorem case_act {RR : St → St → Prop} (hs : LS_act RR) (C : Cx p s m #[Value.ref b] meth c E code 4 RL ret) (hXs : va_X b L xs s s.heap) (hbl : b < s.heap.size) (hbA : ¬ eA E b) (hi : vp_in (x3 + 1) L ∧ vp_in (x3 + 2) L ∧ vp_in (x3 + 3) L ∧ vp_in (x3 + 4) L ∧ vp_in (x3 + 5) L)
    (nxt : ∀ (S V : St) (H : Heap) (locs : List Loc), RR S V → Wd E (wX V E) s.heap S H locs → ∀ (ls : Array Slot), lv_has ls 4 [(0, .ref b), (1, .ref (ea E 0)), (2, .ref (ea E 44)), (3, .int x3)] → W p l e room_1 s m #[Value.ref b] below meth c H locs 600000 7302250 Q (F0 m 1694 ls []))
    (hR : RR S V) (hw : Wd E (wX V E) s.heap S H locs) (hl : lv_has ls 4 [(0, .ref b), (1, .ref (ea E 0)), (2, .ref (ea E 44)), (3, .int x3)]) : W p l e room_1 s m #[Value.ref b] below meth c H locs 600000 7302250 Q (F0 m 1326 ls []) := by
  have hx := C.1
  have hb := C.2.1
  obtain ⟨r, S1, V1, hX, hM, hR1⟩ := hs S V (xs (x3 + (1 : Int32)).toNatClampNeg) (xs (x3 + (2 : Int32)).toNatClampNeg) (xs (x3 + (3 : Int32)).toNatClampNeg) hR
  refine lv_aload_n hx hb dL_law_1326 rfl (lv_at hl 1 rfl) ?_
  refine lv_aload_n hx hb dL_law_1327 rfl (lv_at hl 0 rfl) ?_
  refine lv_iload_n hx hb dL_law_1328 rfl (lv_at hl 3 rfl) ?_
  refine lv_iconst (v := 1) hx hb dL_law_1329 kc_1 ?_
  refine lv_iadd hx hb dL_law_1330 ?_
  refine va_sld hx hb hXs hbl hbA hw.2.2 hi.1 dL_law_1331 ?_
  refine lv_aload_n hx hb dL_law_1332 rfl (lv_at hl 0 rfl) ?_
  refine lv_iload_n hx hb dL_law_1333 rfl (lv_at hl 3 rfl) ?_
  refine lv_iconst (v := 2) hx hb dL_law_1334 kc_2 ?_
  refine lv_iadd hx hb dL_law_1335 ?_
  refine va_sld hx hb hXs hbl hbA hw.2.2 hi.2.1 dL_law_1336 ?_
  refine lv_aload_n hx hb dL_law_1337 rfl (lv_at hl 0 rfl) ?_
  refine lv_iload_n hx hb dL_law_1338 rfl (lv_at hl 3 rfl) ?_
  refine lv_iconst (v := 3) hx hb dL_law_1339 kc_3 ?_
  refine lv_iadd hx hb dL_law_1340 ?_
  refine va_sld hx hb hXs hbl hbA hw.2.2 hi.2.2.1 dL_law_1341 ?_
  refine inv_Li (w := wX V) (q0 := 0) (ci := 10) (As := [.int (xs (x3 + (1 : Int32)).toNatClampNeg), .int (xs (x3 + (2 : Int32)).toNatClampNeg), .int (xs (x3 + (3 : Int32)).toNatClampNeg)]) (rest := []) lk_L_162 C hw rfl rfl rfl (t_Ch_act (V := V) hX) rfl hl.1 dL_law_1342 rfl (Nat.le_of_ble_eq_true rfl) (by decide) (Nat.le_of_ble_eq_true rfl) rfl (fun H locs hw => ?_)
  refine lv_aload_n hx hb dL_law_1345 rfl (lv_at hl 2 rfl) ?_
  refine lv_aload_n hx hb dL_law_1346 rfl (lv_at hl 0 rfl) ?_
  refine lv_iload_n hx hb dL_law_1347 rfl (lv_at hl 3 rfl) ?_
  refine lv_iconst (v := 1) hx hb dL_law_1348 kc_1 ?_
  refine lv_iadd hx hb dL_law_1349 ?_
  refine va_sld hx hb hXs hbl hbA hw.2.2 hi.1 dL_law_1350 ?_
  refine lv_aload_n hx hb dL_law_1351 rfl (lv_at hl 0 rfl) ?_
  refine lv_iload_n hx hb dL_law_1352 rfl (lv_at hl 3 rfl) ?_
  refine lv_iconst (v := 2) hx hb dL_law_1353 kc_2 ?_
  refine lv_iadd hx hb dL_law_1354 ?_
  refine va_sld hx hb hXs hbl hbA hw.2.2 hi.2.1 dL_law_1355 ?_
  refine lv_aload_n hx hb dL_law_1356 rfl (lv_at hl 0 rfl) ?_
  refine lv_iload_n hx hb dL_law_1357 rfl (lv_at hl 3 rfl) ?_
  refine lv_iconst (v := 3) hx hb dL_law_1358 kc_3 ?_
  refine lv_iadd hx hb dL_law_1359 ?_
  refine va_sld hx hb hXs hbl hbA hw.2.2 hi.2.2.1 dL_law_1360 ?_
  refine inv_Li (w := wM S1) (q0 := 44) (ci := 11) (As := [.int (xs (x3 + (1 : Int32)).toNatClampNeg), .int (xs (x3 + (2 : Int32)).toNatClampNeg), .int (xs (x3 + (3 : Int32)).toNatClampNeg)]) (rest := [.int r]) lk_L_165 C hw rfl rfl rfl (t_Mo_act (V := S1) hM) rfl hl.1 dL_law_1361 rfl (Nat.le_of_ble_eq_true rfl) (by decide) (Nat.le_of_ble_eq_true rfl) rfl (fun H locs hw => ?_)
  refine lv_icmp_eq (tgt := 1694) hx hb dL_law_1364 (by decide) (fun q => ?_) (fun q => absurd rfl q)
  exact nxt S1 V1 H locs hR1 hw ls hl
set_option maxRecDepth 20000 in
theorem case_trace {RR : St → St → Prop} (hs : LS_trace RR) (C : Cx p s m #[Value.ref b] meth c E code 4 RL ret) (hXs : va_X b L xs s s.heap) (hbl : b < s.heap.size) (hbA : ¬ eA E b) (hi : vp_in (x3 + 1) L ∧ vp_in (x3 + 2) L ∧ vp_in (x3 + 3) L ∧ vp_in (x3 + 4) L ∧ vp_in (x3 + 5) L)
    (nxt : ∀ (S V : St) (H : Heap) (locs : List Loc), RR S V → Wd E (wX V E) s.heap S H locs → ∀ (ls : Array Slot), lv_has ls 4 [(0, .ref b), (1, .ref (ea E 0)), (2, .ref (ea E 44)), (3, .int x3)] → W p l e room_1 s m #[Value.ref b] below meth c H locs 600000 7302250 Q (F0 m 1694 ls []))
    (hR : RR S V) (hw : Wd E (wX V E) s.heap S H locs) (hl : lv_has ls 4 [(0, .ref b), (1, .ref (ea E 0)), (2, .ref (ea E 44)), (3, .int x3)]) : W p l e room_1 s m #[Value.ref b] below meth c H locs 600000 7302250 Q (F0 m 1369 ls []) := by
  have hx := C.1
  have hb := C.2.1
  obtain ⟨r, hX, hM, hR1⟩ := hs S V (xs (x3 + (1 : Int32)).toNatClampNeg) hR
  refine lv_aload_n hx hb dL_law_1369 rfl (lv_at hl 1 rfl) ?_
  refine lv_aload_n hx hb dL_law_1370 rfl (lv_at hl 0 rfl) ?_
  refine lv_iload_n hx hb dL_law_1371 rfl (lv_at hl 3 rfl) ?_
  refine lv_iconst (v := 1) hx hb dL_law_1372 kc_1 ?_
  refine lv_iadd hx hb dL_law_1373 ?_
  refine va_sld hx hb hXs hbl hbA hw.2.2 hi.1 dL_law_1374 ?_
  refine inv_Li (w := wX V) (q0 := 0) (ci := 10) (As := [.int (xs (x3 + (1 : Int32)).toNatClampNeg)]) (rest := []) lk_L_166 C hw rfl rfl rfl (t_Ch_trace (V := V) hX) rfl hl.1 dL_law_1375 rfl (Nat.le_of_ble_eq_true rfl) (by decide) (Nat.le_of_ble_eq_true rfl) rfl (fun H locs hw => ?_)
  refine lv_aload_n hx hb dL_law_1378 rfl (lv_at hl 2 rfl) ?_
  refine lv_aload_n hx hb dL_law_1379 rfl (lv_at hl 0 rfl) ?_
  refine lv_iload_n hx hb dL_law_1380 rfl (lv_at hl 3 rfl) ?_
  refine lv_iconst (v := 1) hx hb dL_law_1381 kc_1 ?_
  refine lv_iadd hx hb dL_law_1382 ?_
  refine va_sld hx hb hXs hbl hbA hw.2.2 hi.1 dL_law_1383 ?_
  refine inv_Li (w := wM S) (q0 := 44) (ci := 11) (As := [.int (xs (x3 + (1 : Int32)).toNatClampNeg)]) (rest := [.int r]) lk_L_169 C hw rfl rfl rfl (t_Mo_trace (V := S) hM) rfl hl.1 dL_law_1384 rfl (Nat.le_of_ble_eq_true rfl) (by decide) (Nat.le_of_ble_eq_true rfl) rfl (fun H locs hw => ?_)
  refine lv_icmp_eq (tgt := 1694) hx hb dL_law_1387 (by decide) (fun q => ?_) (fun q => absurd rfl q)
  exact nxt S V H locs hR1 hw ls hl
set_option maxRecDepth 20000 in
theorem case_keep {RR : St → St → Prop} (hs : LS_keep RR) (C : Cx p s m #[Value.ref b] meth c E code 4 RL ret) (hXs : va_X b L xs s s.heap) (hbl : b < s.heap.size) (hbA : ¬ eA E b) (hi : vp_in (x3 + 1) L ∧ vp_in (x3 + 2) L ∧ vp_in (x3 + 3) L ∧ vp_in (x3 + 4) L ∧ vp_in (x3 + 5) L)
    (nxt : ∀ (S V : St) (H : Heap) (locs : List Loc), RR S V → Wd E (wX V E) s.heap S H locs → ∀ (ls : Array Slot), lv_has ls 4 [(0, .ref b), (1, .ref (ea E 0)), (2, .ref (ea E 44)), (3, .int x3)] → W p l e room_1 s m #[Value.ref b] below meth c H locs 600000 7302250 Q (F0 m 1694 ls []))
    (hR : RR S V) (hw : Wd E (wX V E) s.heap S H locs) (hl : lv_has ls 4 [(0, .ref b), (1, .ref (ea E 0)), (2, .ref (ea E 44)), (3, .int x3)]) : W p l e room_1 s m #[Value.ref b] below meth c H locs 600000 7302250 Q (F0 m 1392 ls []) := by
  have hx := C.1
  have hb := C.2.1
  obtain ⟨r, S1, V1, hX, hM, hR1⟩ := hs S V (xs (x3 + (1 : Int32)).toNatClampNeg) (xs (x3 + (2 : Int32)).toNatClampNeg) hR
  refine lv_aload_n hx hb dL_law_1392 rfl (lv_at hl 1 rfl) ?_
  refine lv_aload_n hx hb dL_law_1393 rfl (lv_at hl 0 rfl) ?_
  refine lv_iload_n hx hb dL_law_1394 rfl (lv_at hl 3 rfl) ?_
  refine lv_iconst (v := 1) hx hb dL_law_1395 kc_1 ?_
  refine lv_iadd hx hb dL_law_1396 ?_
  refine va_sld hx hb hXs hbl hbA hw.2.2 hi.1 dL_law_1397 ?_
  refine lv_aload_n hx hb dL_law_1398 rfl (lv_at hl 0 rfl) ?_
  refine lv_iload_n hx hb dL_law_1399 rfl (lv_at hl 3 rfl) ?_
  refine lv_iconst (v := 2) hx hb dL_law_1400 kc_2 ?_
  refine lv_iadd hx hb dL_law_1401 ?_
  refine va_sld hx hb hXs hbl hbA hw.2.2 hi.2.1 dL_law_1402 ?_
  refine inv_Li (w := wX V) (q0 := 0) (ci := 10) (As := [.int (xs (x3 + (1 : Int32)).toNatClampNeg), .int (xs (x3 + (2 : Int32)).toNatClampNeg)]) (rest := []) lk_L_170 C hw rfl rfl rfl (t_Ch_keep (V := V) hX) rfl hl.1 dL_law_1403 rfl (Nat.le_of_ble_eq_true rfl) (by decide) (Nat.le_of_ble_eq_true rfl) rfl (fun H locs hw => ?_)
  refine lv_aload_n hx hb dL_law_1406 rfl (lv_at hl 2 rfl) ?_
  refine lv_aload_n hx hb dL_law_1407 rfl (lv_at hl 0 rfl) ?_
  refine lv_iload_n hx hb dL_law_1408 rfl (lv_at hl 3 rfl) ?_
  refine lv_iconst (v := 1) hx hb dL_law_1409 kc_1 ?_
  refine lv_iadd hx hb dL_law_1410 ?_
  refine va_sld hx hb hXs hbl hbA hw.2.2 hi.1 dL_law_1411 ?_
  refine lv_aload_n hx hb dL_law_1412 rfl (lv_at hl 0 rfl) ?_
  refine lv_iload_n hx hb dL_law_1413 rfl (lv_at hl 3 rfl) ?_
  refine lv_iconst (v := 2) hx hb dL_law_1414 kc_2 ?_
  refine lv_iadd hx hb dL_law_1415 ?_
  refine va_sld hx hb hXs hbl hbA hw.2.2 hi.2.1 dL_law_1416 ?_
  refine inv_Li (w := wM S1) (q0 := 44) (ci := 11) (As := [.int (xs (x3 + (1 : Int32)).toNatClampNeg), .int (xs (x3 + (2 : Int32)).toNatClampNeg)]) (rest := [.int r]) lk_L_173 C hw rfl rfl rfl (t_Mo_keep (V := S1) hM) rfl hl.1 dL_law_1417 rfl (Nat.le_of_ble_eq_true rfl) (by decide) (Nat.le_of_ble_eq_true rfl) rfl (fun H locs hw => ?_)
  refine lv_icmp_eq (tgt := 1694) hx hb dL_law_1420 (by decide) (fun q => ?_) (fun q => absurd rfl q)
  exact nxt S1 V1 H locs hR1 hw ls hl
set_option maxRecDepth 20000 in
theorem case_row {RR : St → St → Prop} (hs : LS_row RR) (C : Cx p s m #[Value.ref b] meth c E code 4 RL ret) (hXs : va_X b L xs s s.heap) (hbl : b < s.heap.size) (hbA : ¬ eA E b) (hi : vp_in (x3 + 1) L ∧ vp_in (x3 + 2) L ∧ vp_in (x3 + 3) L ∧ vp_in (x3 + 4) L ∧ vp_in (x3 + 5) L)
    (nxt : ∀ (S V : St) (H : Heap) (locs : List Loc), RR S V → Wd E (wX V E) s.heap S H locs → ∀ (ls : Array Slot), lv_has ls 4 [(0, .ref b), (1, .ref (ea E 0)), (2, .ref (ea E 44)), (3, .int x3)] → W p l e room_1 s m #[Value.ref b] below meth c H locs 600000 7302250 Q (F0 m 1694 ls []))
    (hR : RR S V) (hw : Wd E (wX V E) s.heap S H locs) (hl : lv_has ls 4 [(0, .ref b), (1, .ref (ea E 0)), (2, .ref (ea E 44)), (3, .int x3)]) : W p l e room_1 s m #[Value.ref b] below meth c H locs 600000 7302250 Q (F0 m 1425 ls []) := by
  have hx := C.1
  have hb := C.2.1
  obtain ⟨r, S1, V1, hX, hM, hR1⟩ := hs S V (xs (x3 + (1 : Int32)).toNatClampNeg) (xs (x3 + (2 : Int32)).toNatClampNeg) (xs (x3 + (3 : Int32)).toNatClampNeg) hR
  refine lv_aload_n hx hb dL_law_1425 rfl (lv_at hl 1 rfl) ?_
  refine lv_aload_n hx hb dL_law_1426 rfl (lv_at hl 0 rfl) ?_
  refine lv_iload_n hx hb dL_law_1427 rfl (lv_at hl 3 rfl) ?_
  refine lv_iconst (v := 1) hx hb dL_law_1428 kc_1 ?_
  refine lv_iadd hx hb dL_law_1429 ?_
  refine va_sld hx hb hXs hbl hbA hw.2.2 hi.1 dL_law_1430 ?_
  refine lv_aload_n hx hb dL_law_1431 rfl (lv_at hl 0 rfl) ?_
  refine lv_iload_n hx hb dL_law_1432 rfl (lv_at hl 3 rfl) ?_
  refine lv_iconst (v := 2) hx hb dL_law_1433 kc_2 ?_
  refine lv_iadd hx hb dL_law_1434 ?_
  refine va_sld hx hb hXs hbl hbA hw.2.2 hi.2.1 dL_law_1435 ?_
  refine lv_aload_n hx hb dL_law_1436 rfl (lv_at hl 0 rfl) ?_
  refine lv_iload_n hx hb dL_law_1437 rfl (lv_at hl 3 rfl) ?_
  refine lv_iconst (v := 3) hx hb dL_law_1438 kc_3 ?_
  refine lv_iadd hx hb dL_law_1439 ?_
  refine va_sld hx hb hXs hbl hbA hw.2.2 hi.2.2.1 dL_law_1440 ?_
  refine inv_Li (w := wX V) (q0 := 0) (ci := 10) (As := [.int (xs (x3 + (1 : Int32)).toNatClampNeg), .int (xs (x3 + (2 : Int32)).toNatClampNeg), .int (xs (x3 + (3 : Int32)).toNatClampNeg)]) (rest := []) lk_L_174 C hw rfl rfl rfl (t_Ch_row (V := V) hX) rfl hl.1 dL_law_1441 rfl (Nat.le_of_ble_eq_true rfl) (by decide) (Nat.le_of_ble_eq_true rfl) rfl (fun H locs hw => ?_)
  refine lv_aload_n hx hb dL_law_1444 rfl (lv_at hl 2 rfl) ?_
  refine lv_aload_n hx hb dL_law_1445 rfl (lv_at hl 0 rfl) ?_
  refine lv_iload_n hx hb dL_law_1446 rfl (lv_at hl 3 rfl) ?_
  refine lv_iconst (v := 1) hx hb dL_law_1447 kc_1 ?_
  refine lv_iadd hx hb dL_law_1448 ?_
  refine va_sld hx hb hXs hbl hbA hw.2.2 hi.1 dL_law_1449 ?_
  refine lv_aload_n hx hb dL_law_1450 rfl (lv_at hl 0 rfl) ?_
  refine lv_iload_n hx hb dL_law_1451 rfl (lv_at hl 3 rfl) ?_
  refine lv_iconst (v := 2) hx hb dL_law_1452 kc_2 ?_
  refine lv_iadd hx hb dL_law_1453 ?_
  refine va_sld hx hb hXs hbl hbA hw.2.2 hi.2.1 dL_law_1454 ?_
  refine lv_aload_n hx hb dL_law_1455 rfl (lv_at hl 0 rfl) ?_
  refine lv_iload_n hx hb dL_law_1456 rfl (lv_at hl 3 rfl) ?_
  refine lv_iconst (v := 3) hx hb dL_law_1457 kc_3 ?_
  refine lv_iadd hx hb dL_law_1458 ?_
  refine va_sld hx hb hXs hbl hbA hw.2.2 hi.2.2.1 dL_law_1459 ?_
  refine inv_Li (w := wM S1) (q0 := 44) (ci := 11) (As := [.int (xs (x3 + (1 : Int32)).toNatClampNeg), .int (xs (x3 + (2 : Int32)).toNatClampNeg), .int (xs (x3 + (3 : Int32)).toNatClampNeg)]) (rest := [.int r]) lk_L_177 C hw rfl rfl rfl (t_Mo_row (V := S1) hM) rfl hl.1 dL_law_1460 rfl (Nat.le_of_ble_eq_true rfl) (by decide) (Nat.le_of_ble_eq_true rfl) rfl (fun H locs hw => ?_)
  refine lv_icmp_eq (tgt := 1694) hx hb dL_law_1463 (by decide) (fun q => ?_) (fun q => absurd rfl q)
  exact nxt S1 V1 H locs hR1 hw ls hl
set_option maxRecDepth 20000 in
theorem case_put {RR : St → St → Prop} (hs : LS_put RR) (C : Cx p s m #[Value.ref b] meth c E code 4 RL ret) (hXs : va_X b L xs s s.heap) (hbl : b < s.heap.size) (hbA : ¬ eA E b) (hi : vp_in (x3 + 1) L ∧ vp_in (x3 + 2) L ∧ vp_in (x3 + 3) L ∧ vp_in (x3 + 4) L ∧ vp_in (x3 + 5) L)
    (nxt : ∀ (S V : St) (H : Heap) (locs : List Loc), RR S V → Wd E (wX V E) s.heap S H locs → ∀ (ls : Array Slot), lv_has ls 4 [(0, .ref b), (1, .ref (ea E 0)), (2, .ref (ea E 44)), (3, .int x3)] → W p l e room_1 s m #[Value.ref b] below meth c H locs 600000 7302250 Q (F0 m 1694 ls []))
    (hR : RR S V) (hw : Wd E (wX V E) s.heap S H locs) (hl : lv_has ls 4 [(0, .ref b), (1, .ref (ea E 0)), (2, .ref (ea E 44)), (3, .int x3)]) : W p l e room_1 s m #[Value.ref b] below meth c H locs 600000 7302250 Q (F0 m 1468 ls []) := by
  have hx := C.1
  have hb := C.2.1
  obtain ⟨r, S1, V1, hX, hM, hR1⟩ := hs S V (xs (x3 + (1 : Int32)).toNatClampNeg) (xs (x3 + (2 : Int32)).toNatClampNeg) (((Int32.toInt64 (xs (x3 + (3 : Int32)).toNatClampNeg)) <<< ((32 : Int32).toInt64 &&& 63)) ||| ((Int32.toInt64 (xs (x3 + (4 : Int32)).toNatClampNeg)) &&& (4294967295 : Int64))) hR
  refine lv_aload_n hx hb dL_law_1468 rfl (lv_at hl 1 rfl) ?_
  refine lv_aload_n hx hb dL_law_1469 rfl (lv_at hl 0 rfl) ?_
  refine lv_iload_n hx hb dL_law_1470 rfl (lv_at hl 3 rfl) ?_
  refine lv_iconst (v := 1) hx hb dL_law_1471 kc_1 ?_
  refine lv_iadd hx hb dL_law_1472 ?_
  refine va_sld hx hb hXs hbl hbA hw.2.2 hi.1 dL_law_1473 ?_
  refine lv_aload_n hx hb dL_law_1474 rfl (lv_at hl 0 rfl) ?_
  refine lv_iload_n hx hb dL_law_1475 rfl (lv_at hl 3 rfl) ?_
  refine lv_iconst (v := 2) hx hb dL_law_1476 kc_2 ?_
  refine lv_iadd hx hb dL_law_1477 ?_
  refine va_sld hx hb hXs hbl hbA hw.2.2 hi.2.1 dL_law_1478 ?_
  refine lv_aload_n hx hb dL_law_1479 rfl (lv_at hl 0 rfl) ?_
  refine lv_iload_n hx hb dL_law_1480 rfl (lv_at hl 3 rfl) ?_
  refine lv_iconst (v := 3) hx hb dL_law_1481 kc_3 ?_
  refine lv_iadd hx hb dL_law_1482 ?_
  refine va_sld hx hb hXs hbl hbA hw.2.2 hi.2.2.1 dL_law_1483 ?_
  refine lv_i2l hx hb dL_law_1484 rfl ?_
  refine lv_bipush (v := 32) hx hb dL_law_1485 kb_32 ?_
  refine lv_lshl hx hb dL_law_1487 rfl ?_
  refine lv_aload_n hx hb dL_law_1488 rfl (lv_at hl 0 rfl) ?_
  refine lv_iload_n hx hb dL_law_1489 rfl (lv_at hl 3 rfl) ?_
  refine lv_iconst (v := 4) hx hb dL_law_1490 kc_4 ?_
  refine lv_iadd hx hb dL_law_1491 ?_
  refine va_sld hx hb hXs hbl hbA hw.2.2 hi.2.2.2.1 dL_law_1492 ?_
  refine lv_i2l hx hb dL_law_1493 rfl ?_
  refine lv_ldc2 (v := 4294967295) hx hb C.2.2.2.1 (C.2.2.2.2.1 _ q_1665) dL_law_1494 ?_
  refine lv_land hx hb dL_law_1497 ?_
  refine lv_lor hx hb dL_law_1498 ?_
  refine inv_Li (w := wX V) (q0 := 0) (ci := 10) (As := [.int (xs (x3 + (1 : Int32)).toNatClampNeg), .int (xs (x3 + (2 : Int32)).toNatClampNeg), .long (((Int32.toInt64 (xs (x3 + (3 : Int32)).toNatClampNeg)) <<< ((32 : Int32).toInt64 &&& 63)) ||| ((Int32.toInt64 (xs (x3 + (4 : Int32)).toNatClampNeg)) &&& (4294967295 : Int64)))]) (rest := []) lk_L_180 C hw rfl rfl rfl (t_Ch_put (V := V) hX) rfl hl.1 dL_law_1499 rfl (Nat.le_of_ble_eq_true rfl) (by decide) (Nat.le_of_ble_eq_true rfl) rfl (fun H locs hw => ?_)
  refine lv_aload_n hx hb dL_law_1502 rfl (lv_at hl 2 rfl) ?_
  refine lv_aload_n hx hb dL_law_1503 rfl (lv_at hl 0 rfl) ?_
  refine lv_iload_n hx hb dL_law_1504 rfl (lv_at hl 3 rfl) ?_
  refine lv_iconst (v := 1) hx hb dL_law_1505 kc_1 ?_
  refine lv_iadd hx hb dL_law_1506 ?_
  refine va_sld hx hb hXs hbl hbA hw.2.2 hi.1 dL_law_1507 ?_
  refine lv_aload_n hx hb dL_law_1508 rfl (lv_at hl 0 rfl) ?_
  refine lv_iload_n hx hb dL_law_1509 rfl (lv_at hl 3 rfl) ?_
  refine lv_iconst (v := 2) hx hb dL_law_1510 kc_2 ?_
  refine lv_iadd hx hb dL_law_1511 ?_
  refine va_sld hx hb hXs hbl hbA hw.2.2 hi.2.1 dL_law_1512 ?_
  refine lv_aload_n hx hb dL_law_1513 rfl (lv_at hl 0 rfl) ?_
  refine lv_iload_n hx hb dL_law_1514 rfl (lv_at hl 3 rfl) ?_
  refine lv_iconst (v := 3) hx hb dL_law_1515 kc_3 ?_
  refine lv_iadd hx hb dL_law_1516 ?_
  refine va_sld hx hb hXs hbl hbA hw.2.2 hi.2.2.1 dL_law_1517 ?_
  refine lv_i2l hx hb dL_law_1518 rfl ?_
  refine lv_bipush (v := 32) hx hb dL_law_1519 kb_32 ?_
  refine lv_lshl hx hb dL_law_1521 rfl ?_
  refine lv_aload_n hx hb dL_law_1522 rfl (lv_at hl 0 rfl) ?_
  refine lv_iload_n hx hb dL_law_1523 rfl (lv_at hl 3 rfl) ?_
  refine lv_iconst (v := 4) hx hb dL_law_1524 kc_4 ?_
  refine lv_iadd hx hb dL_law_1525 ?_
  refine va_sld hx hb hXs hbl hbA hw.2.2 hi.2.2.2.1 dL_law_1526 ?_
  refine lv_i2l hx hb dL_law_1527 rfl ?_
  refine lv_ldc2 (v := 4294967295) hx hb C.2.2.2.1 (C.2.2.2.2.1 _ q_1665) dL_law_1528 ?_
  refine lv_land hx hb dL_law_1531 ?_
  refine lv_lor hx hb dL_law_1532 ?_
  refine inv_Li (w := wM S1) (q0 := 44) (ci := 11) (As := [.int (xs (x3 + (1 : Int32)).toNatClampNeg), .int (xs (x3 + (2 : Int32)).toNatClampNeg), .long (((Int32.toInt64 (xs (x3 + (3 : Int32)).toNatClampNeg)) <<< ((32 : Int32).toInt64 &&& 63)) ||| ((Int32.toInt64 (xs (x3 + (4 : Int32)).toNatClampNeg)) &&& (4294967295 : Int64)))]) (rest := [.int r]) lk_L_184 C hw rfl rfl rfl (t_Mo_put (V := S1) hM) rfl hl.1 dL_law_1533 rfl (Nat.le_of_ble_eq_true rfl) (by decide) (Nat.le_of_ble_eq_true rfl) rfl (fun H locs hw => ?_)
  refine lv_icmp_eq (tgt := 1694) hx hb dL_law_1536 (by decide) (fun q => ?_) (fun q => absurd rfl q)
  exact nxt S1 V1 H locs hR1 hw ls hl
set_option maxRecDepth 20000 in
theorem case_element {RR : St → St → Prop} (hs : LS_element RR) (C : Cx p s m #[Value.ref b] meth c E code 4 RL ret) (hXs : va_X b L xs s s.heap) (hbl : b < s.heap.size) (hbA : ¬ eA E b) (hi : vp_in (x3 + 1) L ∧ vp_in (x3 + 2) L ∧ vp_in (x3 + 3) L ∧ vp_in (x3 + 4) L ∧ vp_in (x3 + 5) L)
    (nxt : ∀ (S V : St) (H : Heap) (locs : List Loc), RR S V → Wd E (wX V E) s.heap S H locs → ∀ (ls : Array Slot), lv_has ls 4 [(0, .ref b), (1, .ref (ea E 0)), (2, .ref (ea E 44)), (3, .int x3)] → W p l e room_1 s m #[Value.ref b] below meth c H locs 600000 7302250 Q (F0 m 1694 ls []))
    (hR : RR S V) (hw : Wd E (wX V E) s.heap S H locs) (hl : lv_has ls 4 [(0, .ref b), (1, .ref (ea E 0)), (2, .ref (ea E 44)), (3, .int x3)]) : W p l e room_1 s m #[Value.ref b] below meth c H locs 600000 7302250 Q (F0 m 1541 ls []) := by
  have hx := C.1
  have hb := C.2.1
  obtain ⟨r, hX, hM, hR1⟩ := hs S V (xs (x3 + (1 : Int32)).toNatClampNeg) (xs (x3 + (2 : Int32)).toNatClampNeg) hR
  refine lv_aload_n hx hb dL_law_1541 rfl (lv_at hl 1 rfl) ?_
  refine lv_aload_n hx hb dL_law_1542 rfl (lv_at hl 0 rfl) ?_
  refine lv_iload_n hx hb dL_law_1543 rfl (lv_at hl 3 rfl) ?_
  refine lv_iconst (v := 1) hx hb dL_law_1544 kc_1 ?_
  refine lv_iadd hx hb dL_law_1545 ?_
  refine va_sld hx hb hXs hbl hbA hw.2.2 hi.1 dL_law_1546 ?_
  refine lv_aload_n hx hb dL_law_1547 rfl (lv_at hl 0 rfl) ?_
  refine lv_iload_n hx hb dL_law_1548 rfl (lv_at hl 3 rfl) ?_
  refine lv_iconst (v := 2) hx hb dL_law_1549 kc_2 ?_
  refine lv_iadd hx hb dL_law_1550 ?_
  refine va_sld hx hb hXs hbl hbA hw.2.2 hi.2.1 dL_law_1551 ?_
  refine inv_Ll (w := wX V) (q0 := 0) (ci := 10) (As := [.int (xs (x3 + (1 : Int32)).toNatClampNeg), .int (xs (x3 + (2 : Int32)).toNatClampNeg)]) (rest := []) lk_L_185 C hw rfl rfl rfl (t_Ch_element (V := V) hX) rfl hl.1 dL_law_1552 rfl (Nat.le_of_ble_eq_true rfl) (by decide) (Nat.le_of_ble_eq_true rfl) rfl (fun H locs hw => ?_)
  refine lv_aload_n hx hb dL_law_1555 rfl (lv_at hl 2 rfl) ?_
  refine lv_aload_n hx hb dL_law_1556 rfl (lv_at hl 0 rfl) ?_
  refine lv_iload_n hx hb dL_law_1557 rfl (lv_at hl 3 rfl) ?_
  refine lv_iconst (v := 1) hx hb dL_law_1558 kc_1 ?_
  refine lv_iadd hx hb dL_law_1559 ?_
  refine va_sld hx hb hXs hbl hbA hw.2.2 hi.1 dL_law_1560 ?_
  refine lv_aload_n hx hb dL_law_1561 rfl (lv_at hl 0 rfl) ?_
  refine lv_iload_n hx hb dL_law_1562 rfl (lv_at hl 3 rfl) ?_
  refine lv_iconst (v := 2) hx hb dL_law_1563 kc_2 ?_
  refine lv_iadd hx hb dL_law_1564 ?_
  refine va_sld hx hb hXs hbl hbA hw.2.2 hi.2.1 dL_law_1565 ?_
  refine inv_Ll (w := wM S) (q0 := 44) (ci := 11) (As := [.int (xs (x3 + (1 : Int32)).toNatClampNeg), .int (xs (x3 + (2 : Int32)).toNatClampNeg)]) (rest := [.long r]) lk_L_189 C hw rfl rfl rfl (t_Mo_element (V := S) hM) rfl hl.1 dL_law_1566 rfl (Nat.le_of_ble_eq_true rfl) (by decide) (Nat.le_of_ble_eq_true rfl) rfl (fun H locs hw => ?_)
  refine W.lcmp hx hb dL_law_1569 ?_
  refine lv_if_eq (tgt := 1694) hx hb dL_law_1570 (by decide) (fun q => ?_) (fun q => absurd (by simp [lg_cmp]) q)
  exact nxt S V H locs hR1 hw ls hl
set_option maxRecDepth 20000 in
theorem case_shift {RR : St → St → Prop} (hs : LS_shift RR) (C : Cx p s m #[Value.ref b] meth c E code 4 RL ret) (hXs : va_X b L xs s s.heap) (hbl : b < s.heap.size) (hbA : ¬ eA E b) (hi : vp_in (x3 + 1) L ∧ vp_in (x3 + 2) L ∧ vp_in (x3 + 3) L ∧ vp_in (x3 + 4) L ∧ vp_in (x3 + 5) L)
    (nxt : ∀ (S V : St) (H : Heap) (locs : List Loc), RR S V → Wd E (wX V E) s.heap S H locs → ∀ (ls : Array Slot), lv_has ls 4 [(0, .ref b), (1, .ref (ea E 0)), (2, .ref (ea E 44)), (3, .int x3)] → W p l e room_1 s m #[Value.ref b] below meth c H locs 600000 7302250 Q (F0 m 1694 ls []))
    (hR : RR S V) (hw : Wd E (wX V E) s.heap S H locs) (hl : lv_has ls 4 [(0, .ref b), (1, .ref (ea E 0)), (2, .ref (ea E 44)), (3, .int x3)]) : W p l e room_1 s m #[Value.ref b] below meth c H locs 600000 7302250 Q (F0 m 1575 ls []) := by
  have hx := C.1
  have hb := C.2.1
  obtain ⟨r, S1, V1, hX, hM, hR1⟩ := hs S V (xs (x3 + (1 : Int32)).toNatClampNeg) (xs (x3 + (2 : Int32)).toNatClampNeg) (xs (x3 + (3 : Int32)).toNatClampNeg) (xs (x3 + (4 : Int32)).toNatClampNeg) (xs (x3 + (5 : Int32)).toNatClampNeg) hR
  refine lv_aload_n hx hb dL_law_1575 rfl (lv_at hl 1 rfl) ?_
  refine lv_aload_n hx hb dL_law_1576 rfl (lv_at hl 0 rfl) ?_
  refine lv_iload_n hx hb dL_law_1577 rfl (lv_at hl 3 rfl) ?_
  refine lv_iconst (v := 1) hx hb dL_law_1578 kc_1 ?_
  refine lv_iadd hx hb dL_law_1579 ?_
  refine va_sld hx hb hXs hbl hbA hw.2.2 hi.1 dL_law_1580 ?_
  refine lv_aload_n hx hb dL_law_1581 rfl (lv_at hl 0 rfl) ?_
  refine lv_iload_n hx hb dL_law_1582 rfl (lv_at hl 3 rfl) ?_
  refine lv_iconst (v := 2) hx hb dL_law_1583 kc_2 ?_
  refine lv_iadd hx hb dL_law_1584 ?_
  refine va_sld hx hb hXs hbl hbA hw.2.2 hi.2.1 dL_law_1585 ?_
  refine lv_aload_n hx hb dL_law_1586 rfl (lv_at hl 0 rfl) ?_
  refine lv_iload_n hx hb dL_law_1587 rfl (lv_at hl 3 rfl) ?_
  refine lv_iconst (v := 3) hx hb dL_law_1588 kc_3 ?_
  refine lv_iadd hx hb dL_law_1589 ?_
  refine va_sld hx hb hXs hbl hbA hw.2.2 hi.2.2.1 dL_law_1590 ?_
  refine lv_aload_n hx hb dL_law_1591 rfl (lv_at hl 0 rfl) ?_
  refine lv_iload_n hx hb dL_law_1592 rfl (lv_at hl 3 rfl) ?_
  refine lv_iconst (v := 4) hx hb dL_law_1593 kc_4 ?_
  refine lv_iadd hx hb dL_law_1594 ?_
  refine va_sld hx hb hXs hbl hbA hw.2.2 hi.2.2.2.1 dL_law_1595 ?_
  refine lv_aload_n hx hb dL_law_1596 rfl (lv_at hl 0 rfl) ?_
  refine lv_iload_n hx hb dL_law_1597 rfl (lv_at hl 3 rfl) ?_
  refine lv_iconst (v := 5) hx hb dL_law_1598 kc_5 ?_
  refine lv_iadd hx hb dL_law_1599 ?_
  refine va_sld hx hb hXs hbl hbA hw.2.2 hi.2.2.2.2 dL_law_1600 ?_
  refine inv_Li (w := wX V) (q0 := 0) (ci := 10) (As := [.int (xs (x3 + (1 : Int32)).toNatClampNeg), .int (xs (x3 + (2 : Int32)).toNatClampNeg), .int (xs (x3 + (3 : Int32)).toNatClampNeg), .int (xs (x3 + (4 : Int32)).toNatClampNeg), .int (xs (x3 + (5 : Int32)).toNatClampNeg)]) (rest := []) lk_L_190 C hw rfl rfl rfl (t_Ch_shift (V := V) hX) rfl hl.1 dL_law_1601 rfl (Nat.le_of_ble_eq_true rfl) (by decide) (Nat.le_of_ble_eq_true rfl) rfl (fun H locs hw => ?_)
  refine lv_aload_n hx hb dL_law_1604 rfl (lv_at hl 2 rfl) ?_
  refine lv_aload_n hx hb dL_law_1605 rfl (lv_at hl 0 rfl) ?_
  refine lv_iload_n hx hb dL_law_1606 rfl (lv_at hl 3 rfl) ?_
  refine lv_iconst (v := 1) hx hb dL_law_1607 kc_1 ?_
  refine lv_iadd hx hb dL_law_1608 ?_
  refine va_sld hx hb hXs hbl hbA hw.2.2 hi.1 dL_law_1609 ?_
  refine lv_aload_n hx hb dL_law_1610 rfl (lv_at hl 0 rfl) ?_
  refine lv_iload_n hx hb dL_law_1611 rfl (lv_at hl 3 rfl) ?_
  refine lv_iconst (v := 2) hx hb dL_law_1612 kc_2 ?_
  refine lv_iadd hx hb dL_law_1613 ?_
  refine va_sld hx hb hXs hbl hbA hw.2.2 hi.2.1 dL_law_1614 ?_
  refine lv_aload_n hx hb dL_law_1615 rfl (lv_at hl 0 rfl) ?_
  refine lv_iload_n hx hb dL_law_1616 rfl (lv_at hl 3 rfl) ?_
  refine lv_iconst (v := 3) hx hb dL_law_1617 kc_3 ?_
  refine lv_iadd hx hb dL_law_1618 ?_
  refine va_sld hx hb hXs hbl hbA hw.2.2 hi.2.2.1 dL_law_1619 ?_
  refine lv_aload_n hx hb dL_law_1620 rfl (lv_at hl 0 rfl) ?_
  refine lv_iload_n hx hb dL_law_1621 rfl (lv_at hl 3 rfl) ?_
  refine lv_iconst (v := 4) hx hb dL_law_1622 kc_4 ?_
  refine lv_iadd hx hb dL_law_1623 ?_
  refine va_sld hx hb hXs hbl hbA hw.2.2 hi.2.2.2.1 dL_law_1624 ?_
  refine lv_aload_n hx hb dL_law_1625 rfl (lv_at hl 0 rfl) ?_
  refine lv_iload_n hx hb dL_law_1626 rfl (lv_at hl 3 rfl) ?_
  refine lv_iconst (v := 5) hx hb dL_law_1627 kc_5 ?_
  refine lv_iadd hx hb dL_law_1628 ?_
  refine va_sld hx hb hXs hbl hbA hw.2.2 hi.2.2.2.2 dL_law_1629 ?_
  refine inv_Li (w := wM S1) (q0 := 44) (ci := 11) (As := [.int (xs (x3 + (1 : Int32)).toNatClampNeg), .int (xs (x3 + (2 : Int32)).toNatClampNeg), .int (xs (x3 + (3 : Int32)).toNatClampNeg), .int (xs (x3 + (4 : Int32)).toNatClampNeg), .int (xs (x3 + (5 : Int32)).toNatClampNeg)]) (rest := [.int r]) lk_L_194 C hw rfl rfl rfl (t_Mo_shift (V := S1) hM) rfl hl.1 dL_law_1630 rfl (Nat.le_of_ble_eq_true rfl) (by decide) (Nat.le_of_ble_eq_true rfl) rfl (fun H locs hw => ?_)
  refine lv_icmp_eq (tgt := 1694) hx hb dL_law_1633 (by decide) (fun q => ?_) (fun q => absurd rfl q)
  exact nxt S1 V1 H locs hR1 hw ls hl
set_option maxRecDepth 20000 in
theorem case_taken {RR : St → St → Prop} (hs : LS_taken RR) (C : Cx p s m #[Value.ref b] meth c E code 4 RL ret) (hXs : va_X b L xs s s.heap) (hbl : b < s.heap.size) (hbA : ¬ eA E b) (hi : vp_in (x3 + 1) L ∧ vp_in (x3 + 2) L ∧ vp_in (x3 + 3) L ∧ vp_in (x3 + 4) L ∧ vp_in (x3 + 5) L)
    (nxt : ∀ (S V : St) (H : Heap) (locs : List Loc), RR S V → Wd E (wX V E) s.heap S H locs → ∀ (ls : Array Slot), lv_has ls 4 [(0, .ref b), (1, .ref (ea E 0)), (2, .ref (ea E 44)), (3, .int x3)] → W p l e room_1 s m #[Value.ref b] below meth c H locs 600000 7302250 Q (F0 m 1694 ls []))
    (hR : RR S V) (hw : Wd E (wX V E) s.heap S H locs) (hl : lv_has ls 4 [(0, .ref b), (1, .ref (ea E 0)), (2, .ref (ea E 44)), (3, .int x3)]) : W p l e room_1 s m #[Value.ref b] below meth c H locs 600000 7302250 Q (F0 m 1638 ls []) := by
  have hx := C.1
  have hb := C.2.1
  obtain ⟨r, hX, hM, hR1⟩ := hs S V (xs (x3 + (1 : Int32)).toNatClampNeg) (xs (x3 + (2 : Int32)).toNatClampNeg) hR
  refine lv_aload_n hx hb dL_law_1638 rfl (lv_at hl 1 rfl) ?_
  refine lv_aload_n hx hb dL_law_1639 rfl (lv_at hl 0 rfl) ?_
  refine lv_iload_n hx hb dL_law_1640 rfl (lv_at hl 3 rfl) ?_
  refine lv_iconst (v := 1) hx hb dL_law_1641 kc_1 ?_
  refine lv_iadd hx hb dL_law_1642 ?_
  refine va_sld hx hb hXs hbl hbA hw.2.2 hi.1 dL_law_1643 ?_
  refine lv_aload_n hx hb dL_law_1644 rfl (lv_at hl 0 rfl) ?_
  refine lv_iload_n hx hb dL_law_1645 rfl (lv_at hl 3 rfl) ?_
  refine lv_iconst (v := 2) hx hb dL_law_1646 kc_2 ?_
  refine lv_iadd hx hb dL_law_1647 ?_
  refine va_sld hx hb hXs hbl hbA hw.2.2 hi.2.1 dL_law_1648 ?_
  refine inv_Li (w := wX V) (q0 := 0) (ci := 10) (As := [.int (xs (x3 + (1 : Int32)).toNatClampNeg), .int (xs (x3 + (2 : Int32)).toNatClampNeg)]) (rest := []) lk_L_195 C hw rfl rfl rfl (t_Ch_taken (V := V) hX) rfl hl.1 dL_law_1649 rfl (Nat.le_of_ble_eq_true rfl) (by decide) (Nat.le_of_ble_eq_true rfl) rfl (fun H locs hw => ?_)
  refine lv_aload_n hx hb dL_law_1652 rfl (lv_at hl 2 rfl) ?_
  refine lv_aload_n hx hb dL_law_1653 rfl (lv_at hl 0 rfl) ?_
  refine lv_iload_n hx hb dL_law_1654 rfl (lv_at hl 3 rfl) ?_
  refine lv_iconst (v := 1) hx hb dL_law_1655 kc_1 ?_
  refine lv_iadd hx hb dL_law_1656 ?_
  refine va_sld hx hb hXs hbl hbA hw.2.2 hi.1 dL_law_1657 ?_
  refine lv_aload_n hx hb dL_law_1658 rfl (lv_at hl 0 rfl) ?_
  refine lv_iload_n hx hb dL_law_1659 rfl (lv_at hl 3 rfl) ?_
  refine lv_iconst (v := 2) hx hb dL_law_1660 kc_2 ?_
  refine lv_iadd hx hb dL_law_1661 ?_
  refine va_sld hx hb hXs hbl hbA hw.2.2 hi.2.1 dL_law_1662 ?_
  refine inv_Li (w := wM S) (q0 := 44) (ci := 11) (As := [.int (xs (x3 + (1 : Int32)).toNatClampNeg), .int (xs (x3 + (2 : Int32)).toNatClampNeg)]) (rest := [.int r]) lk_L_198 C hw rfl rfl rfl (t_Mo_taken (V := S) hM) rfl hl.1 dL_law_1663 rfl (Nat.le_of_ble_eq_true rfl) (by decide) (Nat.le_of_ble_eq_true rfl) rfl (fun H locs hw => ?_)
  refine lv_icmp_eq (tgt := 1694) hx hb dL_law_1666 (by decide) (fun q => ?_) (fun q => absurd rfl q)
  exact nxt S V H locs hR1 hw ls hl
set_option maxRecDepth 20000 in
theorem case_count {RR : St → St → Prop} (hs : LS_count RR) (C : Cx p s m #[Value.ref b] meth c E code 4 RL ret) (hXs : va_X b L xs s s.heap) (hbl : b < s.heap.size) (hbA : ¬ eA E b) (hi : vp_in (x3 + 1) L ∧ vp_in (x3 + 2) L ∧ vp_in (x3 + 3) L ∧ vp_in (x3 + 4) L ∧ vp_in (x3 + 5) L)
    (nxt : ∀ (S V : St) (H : Heap) (locs : List Loc), RR S V → Wd E (wX V E) s.heap S H locs → ∀ (ls : Array Slot), lv_has ls 4 [(0, .ref b), (1, .ref (ea E 0)), (2, .ref (ea E 44)), (3, .int x3)] → W p l e room_1 s m #[Value.ref b] below meth c H locs 600000 7302250 Q (F0 m 1694 ls []))
    (hR : RR S V) (hw : Wd E (wX V E) s.heap S H locs) (hl : lv_has ls 4 [(0, .ref b), (1, .ref (ea E 0)), (2, .ref (ea E 44)), (3, .int x3)]) : W p l e room_1 s m #[Value.ref b] below meth c H locs 600000 7302250 Q (F0 m 1671 ls []) := by
  have hx := C.1
  have hb := C.2.1
  obtain ⟨r, hX, hM, hR1⟩ := hs S V (xs (x3 + (1 : Int32)).toNatClampNeg) hR
  refine lv_aload_n hx hb dL_law_1671 rfl (lv_at hl 1 rfl) ?_
  refine lv_aload_n hx hb dL_law_1672 rfl (lv_at hl 0 rfl) ?_
  refine lv_iload_n hx hb dL_law_1673 rfl (lv_at hl 3 rfl) ?_
  refine lv_iconst (v := 1) hx hb dL_law_1674 kc_1 ?_
  refine lv_iadd hx hb dL_law_1675 ?_
  refine va_sld hx hb hXs hbl hbA hw.2.2 hi.1 dL_law_1676 ?_
  refine inv_Li (w := wX V) (q0 := 0) (ci := 10) (As := [.int (xs (x3 + (1 : Int32)).toNatClampNeg)]) (rest := []) lk_L_199 C hw rfl rfl rfl (t_Ch_count (V := V) hX) rfl hl.1 dL_law_1677 rfl (Nat.le_of_ble_eq_true rfl) (by decide) (Nat.le_of_ble_eq_true rfl) rfl (fun H locs hw => ?_)
  refine lv_aload_n hx hb dL_law_1680 rfl (lv_at hl 2 rfl) ?_
  refine lv_aload_n hx hb dL_law_1681 rfl (lv_at hl 0 rfl) ?_
  refine lv_iload_n hx hb dL_law_1682 rfl (lv_at hl 3 rfl) ?_
  refine lv_iconst (v := 1) hx hb dL_law_1683 kc_1 ?_
  refine lv_iadd hx hb dL_law_1684 ?_
  refine va_sld hx hb hXs hbl hbA hw.2.2 hi.1 dL_law_1685 ?_
  refine inv_Li (w := wM S) (q0 := 44) (ci := 11) (As := [.int (xs (x3 + (1 : Int32)).toNatClampNeg)]) (rest := [.int r]) lk_L_202 C hw rfl rfl rfl (t_Mo_count (V := S) hM) rfl hl.1 dL_law_1686 rfl (Nat.le_of_ble_eq_true rfl) (by decide) (Nat.le_of_ble_eq_true rfl) rfl (fun H locs hw => ?_)
  refine lv_icmp_eq (tgt := 1694) hx hb dL_law_1689 (by decide) (fun q => ?_) (fun q => absurd rfl q)
  exact nxt S V H locs hR1 hw ls hl
end LAWC
