theorem dX10_vow_0 : decode cX10_vow 0 = .ok (.aload_n 0, 1) := by decide +kernel
theorem dX10_vow_1 : decode cX10_vow 1 = .ok (.getfield 79, 3) := by decide +kernel
theorem dX10_vow_4 : decode cX10_vow 4 = .ok (.invokevirtual 275, 3) := by decide +kernel
theorem dX10_vow_7 : decode cX10_vow 7 = .ok (.istore_n 3, 1) := by decide +kernel
theorem dX10_vow_8 : decode cX10_vow 8 = .ok (.aload_n 0, 1) := by decide +kernel
theorem dX10_vow_9 : decode cX10_vow 9 = .ok (.getfield 10, 3) := by decide +kernel
theorem dX10_vow_12 : decode cX10_vow 12 = .ok (.iload_n 1, 1) := by decide +kernel
theorem dX10_vow_13 : decode cX10_vow 13 = .ok (.bipush 10, 2) := by decide +kernel
theorem dX10_vow_15 : decode cX10_vow 15 = .ok (.idiv, 1) := by decide +kernel
theorem dX10_vow_16 : decode cX10_vow 16 = .ok (.iload_n 3, 1) := by decide +kernel
theorem dX10_vow_17 : decode cX10_vow 17 = .ok (.iload_n 2, 1) := by decide +kernel
theorem dX10_vow_18 : decode cX10_vow 18 = .ok (.iload_n 1, 1) := by decide +kernel
theorem dX10_vow_19 : decode cX10_vow 19 = .ok (.bipush 10, 2) := by decide +kernel
theorem dX10_vow_21 : decode cX10_vow 21 = .ok (.irem, 1) := by decide +kernel
theorem dX10_vow_22 : decode cX10_vow 22 = .ok (.invokevirtual 95, 3) := by decide +kernel
theorem dX10_vow_25 : decode cX10_vow 25 = .ok (.ifCond .ne 5, 3) := by decide +kernel
theorem dX10_vow_28 : decode cX10_vow 28 = .ok (.iconst (-1), 1) := by decide +kernel
theorem dX10_vow_29 : decode cX10_vow 29 = .ok (.ireturn, 1) := by decide +kernel
theorem dX10_vow_30 : decode cX10_vow 30 = .ok (.aload_n 0, 1) := by decide +kernel
theorem dX10_vow_31 : decode cX10_vow 31 = .ok (.getfield 10, 3) := by decide +kernel
theorem dX10_vow_34 : decode cX10_vow 34 = .ok (.invokevirtual 99, 3) := by decide +kernel
theorem dX10_vow_37 : decode cX10_vow 37 = .ok (.ifCond .eq 8, 3) := by decide +kernel
theorem dX10_vow_40 : decode cX10_vow 40 = .ok (.bipush (-3), 2) := by decide +kernel
theorem dX10_vow_42 : decode cX10_vow 42 = .ok (.goto 19, 3) := by decide +kernel
theorem dX10_vow_45 : decode cX10_vow 45 = .ok (.aload_n 0, 1) := by decide +kernel
theorem dX10_vow_46 : decode cX10_vow 46 = .ok (.getfield 79, 3) := by decide +kernel
theorem dX10_vow_49 : decode cX10_vow 49 = .ok (.iload_n 1, 1) := by decide +kernel
theorem dX10_vow_50 : decode cX10_vow 50 = .ok (.bipush 10, 2) := by decide +kernel
theorem dX10_vow_52 : decode cX10_vow 52 = .ok (.idiv, 1) := by decide +kernel
theorem dX10_vow_53 : decode cX10_vow 53 = .ok (.iload_n 2, 1) := by decide +kernel
theorem dX10_vow_54 : decode cX10_vow 54 = .ok (.iload_n 1, 1) := by decide +kernel
theorem dX10_vow_55 : decode cX10_vow 55 = .ok (.bipush 10, 2) := by decide +kernel
theorem dX10_vow_57 : decode cX10_vow 57 = .ok (.irem, 1) := by decide +kernel
theorem dX10_vow_58 : decode cX10_vow 58 = .ok (.invokevirtual 281, 3) := by decide +kernel
theorem dX10_vow_61 : decode cX10_vow 61 = .ok (.ireturn, 1) := by decide +kernel
section
variable {p : Program} {l : Launch} {e : Env} {s : State} {m : MethodId} {args : Array Value} {below : List Frame} {meth : Method} {c : Code} {H : Heap} {locs : List Loc} {E : Ev} {S V : St} {ls : Array Slot}
set_option maxRecDepth 20000 in
theorem w_Ch_vow {p1 : Int32} {p2 : Int32} {r : Int32} {S9 : St} (C : Cx p s m args meth c E cX10_vow 4 RX10 (some .int)) (hw : Wd E (wX V E) s.heap S H locs) (hl : lv_has ls 4 [(0, .ref (ea E 0)), (1, .int p1), (2, .int p2)]) (hf : Ch_vow S p1 p2 = some (r, S9)) : W p l e (rmh 4) s m args below meth c H locs 0 0 (MQ below (QW E (wX V E) (some (.int r)) S9) args s 0 0 (eA E)) (F0 m 0 ls []) := by
  have hx := C.1
  have hb := C.2.1
  unfold Ch_vow at hf
  refine lv_aload_n hx hb dX10_vow_0 rfl (lv_at hl 0 rfl) ?_
  refine get_0_6 C hw q_381 dX10_vow_1 ?_
  obtain ⟨r1, hr, hf⟩ := hf_1 hf
  refine inv_Vi (q0 := 7) (ci := 3) (As := []) lk_X10_275 C hw rfl rfl rfl (t_De_now hr) rfl hl.1 dX10_vow_4 rfl (Nat.le_of_ble_eq_true rfl) (by decide) (Nat.le_of_ble_eq_true rfl) rfl (fun H locs hw => ?_)
  refine lv_istore_n (lv' := [(3, .int r1), (0, .ref (ea E 0)), (1, .int p1), (2, .int p2)]) hx hb dX10_vow_7 rfl hl (by decide) rfl (fun ls hl => ?_)
  refine lv_aload_n hx hb dX10_vow_8 rfl (lv_at hl 1 rfl) ?_
  refine get_0_0 C hw q_375 dX10_vow_9 ?_
  refine lv_iload_n hx hb dX10_vow_12 rfl (lv_at hl 2 rfl) ?_
  refine lv_bipush (v := 10) hx hb dX10_vow_13 kb_10 ?_
  refine lv_idiv hx hb dX10_vow_15 (by decide) ?_
  refine lv_iload_n hx hb dX10_vow_16 rfl (lv_at hl 0 rfl) ?_
  refine lv_iload_n hx hb dX10_vow_17 rfl (lv_at hl 3 rfl) ?_
  refine lv_iload_n hx hb dX10_vow_18 rfl (lv_at hl 2 rfl) ?_
  refine lv_bipush (v := 10) hx hb dX10_vow_19 kb_10 ?_
  refine lv_irem hx hb dX10_vow_21 (by decide) ?_
  obtain ⟨r2, hr, hf⟩ := hf_1 hf
  refine inv_Vi (q0 := 1) (ci := 8) (As := [.int (p1 / (10 : Int32)), .int r1, .int p2, .int (p1 - p1 / (10 : Int32) * (10 : Int32))]) lk_X10_95 C hw rfl rfl rfl (t_Sm_canPromise hr) rfl hl.1 dX10_vow_22 rfl (Nat.le_of_ble_eq_true rfl) (by decide) (Nat.le_of_ble_eq_true rfl) rfl (fun H locs hw => ?_)
  refine lv_if_ne (tgt := 30) hx hb dX10_vow_25 (by decide) (fun q => ?_) (fun q => ?_)
  · have hf := hf_f q hf
    refine lv_aload_n hx hb dX10_vow_30 rfl (lv_at hl 1 rfl) ?_
    refine get_0_0 C hw q_375 dX10_vow_31 ?_
    obtain ⟨r3, hr, hf⟩ := hf_1 hf
    refine inv_Vi (q0 := 1) (ci := 8) (As := []) lk_X10_99 C hw rfl rfl rfl (t_Sm_isFull hr) rfl hl.1 dX10_vow_34 rfl (Nat.le_of_ble_eq_true rfl) (by decide) (Nat.le_of_ble_eq_true rfl) rfl (fun H locs hw => ?_)
    refine lv_if_eq (tgt := 45) hx hb dX10_vow_37 (by decide) (fun q => ?_) (fun q => ?_)
    · have hf := hf_t q hf
      refine lv_aload_n hx hb dX10_vow_45 rfl (lv_at hl 1 rfl) ?_
      refine get_0_6 C hw q_381 dX10_vow_46 ?_
      refine lv_iload_n hx hb dX10_vow_49 rfl (lv_at hl 2 rfl) ?_
      refine lv_bipush (v := 10) hx hb dX10_vow_50 kb_10 ?_
      refine lv_idiv hx hb dX10_vow_52 (by decide) ?_
      refine lv_iload_n hx hb dX10_vow_53 rfl (lv_at hl 3 rfl) ?_
      refine lv_iload_n hx hb dX10_vow_54 rfl (lv_at hl 2 rfl) ?_
      refine lv_bipush (v := 10) hx hb dX10_vow_55 kb_10 ?_
      refine lv_irem hx hb dX10_vow_57 (by decide) ?_
      obtain ⟨r5, S4, hr, hf⟩ := hf_2 hf
      refine inv_Vi (q0 := 7) (ci := 3) (As := [.int (p1 / (10 : Int32)), .int p2, .int (p1 - p1 / (10 : Int32) * (10 : Int32))]) lk_X10_281 C hw rfl rfl rfl (t_De_makePromise hr) rfl hl.1 dX10_vow_58 rfl (Nat.le_of_ble_eq_true rfl) (by decide) (Nat.le_of_ble_eq_true rfl) rfl (fun H locs hw => ?_)
      exact ret_iS C hw dX10_vow_61 hf
    · have hf := hf_f q hf
      refine lv_bipush (v := -3) hx hb dX10_vow_40 kb_m3 ?_
      refine lv_goto (tgt := 61) hx hb dX10_vow_42 (by decide) ?_
      exact ret_iS C hw dX10_vow_61 hf
  · have hf := hf_t q hf
    refine lv_iconst (v := -1) hx hb dX10_vow_28 kc_m1 ?_
    exact ret_iS C hw dX10_vow_29 hf
end
theorem t_Ch_vow {l : Launch} {V : St} {S : St} {p1 : Int32} {p2 : Int32} {r : Int32} {S9 : St} (hf : Ch_vow S p1 p2 = some (r, S9)) : Ct l (wX V) yX10_vow cX10_vow 4 (some .int) 4 (fun E => [.ref (ea E 0), .int p1, .int p2]) S (fun E => some (.int r)) S9 :=
  ofBlock (by decide +kernel) (fun _ => Nat.le_of_ble_eq_true rfl) (fun E p e s m args below meth c ls C hw hl => w_Ch_vow C hw hl hf)
theorem dX10_kept_0 : decode cX10_kept 0 = .ok (.aload_n 0, 1) := by decide +kernel
theorem dX10_kept_1 : decode cX10_kept 1 = .ok (.getfield 10, 3) := by decide +kernel
theorem dX10_kept_4 : decode cX10_kept 4 = .ok (.iload_n 1, 1) := by decide +kernel
theorem dX10_kept_5 : decode cX10_kept 5 = .ok (.invokevirtual 173, 3) := by decide +kernel
theorem dX10_kept_8 : decode cX10_kept 8 = .ok (.ifCond .ne 5, 3) := by decide +kernel
theorem dX10_kept_11 : decode cX10_kept 11 = .ok (.iconst (-1), 1) := by decide +kernel
theorem dX10_kept_12 : decode cX10_kept 12 = .ok (.ireturn, 1) := by decide +kernel
theorem dX10_kept_13 : decode cX10_kept 13 = .ok (.aload_n 0, 1) := by decide +kernel
theorem dX10_kept_14 : decode cX10_kept 14 = .ok (.getfield 10, 3) := by decide +kernel
theorem dX10_kept_17 : decode cX10_kept 17 = .ok (.iload_n 1, 1) := by decide +kernel
theorem dX10_kept_18 : decode cX10_kept 18 = .ok (.aload_n 0, 1) := by decide +kernel
theorem dX10_kept_19 : decode cX10_kept 19 = .ok (.getfield 79, 3) := by decide +kernel
theorem dX10_kept_22 : decode cX10_kept 22 = .ok (.invokevirtual 275, 3) := by decide +kernel
theorem dX10_kept_25 : decode cX10_kept 25 = .ok (.invokevirtual 284, 3) := by decide +kernel
theorem dX10_kept_28 : decode cX10_kept 28 = .ok (.ifCond .eq 14, 3) := by decide +kernel
theorem dX10_kept_31 : decode cX10_kept 31 = .ok (.aload_n 0, 1) := by decide +kernel
theorem dX10_kept_32 : decode cX10_kept 32 = .ok (.getfield 79, 3) := by decide +kernel
theorem dX10_kept_35 : decode cX10_kept 35 = .ok (.iload_n 1, 1) := by decide +kernel
theorem dX10_kept_36 : decode cX10_kept 36 = .ok (.invokevirtual 287, 3) := by decide +kernel
theorem dX10_kept_39 : decode cX10_kept 39 = .ok (.goto 5, 3) := by decide +kernel
theorem dX10_kept_42 : decode cX10_kept 42 = .ok (.bipush (-5), 2) := by decide +kernel
theorem dX10_kept_44 : decode cX10_kept 44 = .ok (.ireturn, 1) := by decide +kernel
section
variable {p : Program} {l : Launch} {e : Env} {s : State} {m : MethodId} {args : Array Value} {below : List Frame} {meth : Method} {c : Code} {H : Heap} {locs : List Loc} {E : Ev} {S V : St} {ls : Array Slot}
set_option maxRecDepth 20000 in
theorem w_Ch_kept {N : Nat} {p1 : Int32} {r : Int32} {S9 : St} (C : Cx p s m args meth c E cX10_kept 2 RX10 (some .int)) (hw : Wd E (wX V E) s.heap S H locs) (hl : lv_has ls 2 [(0, .ref (ea E 0)), (1, .int p1)]) (hf : Ch_kept N S p1 = some (r, S9)) : W p l e (rmh 4) s m args below meth c H locs 0 0 (MQ below (QW E (wX V E) (some (.int r)) S9) args s 0 0 (eA E)) (F0 m 0 ls []) := by
  have hx := C.1
  have hb := C.2.1
  unfold Ch_kept at hf
  refine lv_aload_n hx hb dX10_kept_0 rfl (lv_at hl 0 rfl) ?_
  refine get_0_0 C hw q_375 dX10_kept_1 ?_
  refine lv_iload_n hx hb dX10_kept_4 rfl (lv_at hl 1 rfl) ?_
  obtain ⟨r1, hr, hf⟩ := hf_1 hf
  refine inv_Vi (q0 := 1) (ci := 8) (As := [.int p1]) lk_X10_173 C hw rfl rfl rfl (t_Sm_isPromise hr) rfl hl.1 dX10_kept_5 rfl (Nat.le_of_ble_eq_true rfl) (by decide) (Nat.le_of_ble_eq_true rfl) rfl (fun H locs hw => ?_)
  refine lv_if_ne (tgt := 13) hx hb dX10_kept_8 (by decide) (fun q => ?_) (fun q => ?_)
  · have hf := hf_f q hf
    refine lv_aload_n hx hb dX10_kept_13 rfl (lv_at hl 0 rfl) ?_
    refine get_0_0 C hw q_375 dX10_kept_14 ?_
    refine lv_iload_n hx hb dX10_kept_17 rfl (lv_at hl 1 rfl) ?_
    refine lv_aload_n hx hb dX10_kept_18 rfl (lv_at hl 0 rfl) ?_
    refine get_0_6 C hw q_381 dX10_kept_19 ?_
    obtain ⟨r2, hr, hf⟩ := hf_1 hf
    refine inv_Vi (q0 := 7) (ci := 3) (As := []) lk_X10_275 C hw rfl rfl rfl (t_De_now hr) rfl hl.1 dX10_kept_22 rfl (Nat.le_of_ble_eq_true rfl) (by decide) (Nat.le_of_ble_eq_true rfl) rfl (fun H locs hw => ?_)
    obtain ⟨r3, hr, hf⟩ := hf_1 hf
    refine inv_Vi (q0 := 1) (ci := 8) (As := [.int p1, .int r2]) lk_X10_284 C hw rfl rfl rfl (t_Sm_isOpen hr) rfl hl.1 dX10_kept_25 rfl (Nat.le_of_ble_eq_true rfl) (by decide) (Nat.le_of_ble_eq_true rfl) rfl (fun H locs hw => ?_)
    refine lv_if_eq (tgt := 42) hx hb dX10_kept_28 (by decide) (fun q => ?_) (fun q => ?_)
    · have hf := hf_t q hf
      refine lv_bipush (v := -5) hx hb dX10_kept_42 kb_m5 ?_
      exact ret_iS C hw dX10_kept_44 hf
    · have hf := hf_f q hf
      refine lv_aload_n hx hb dX10_kept_31 rfl (lv_at hl 0 rfl) ?_
      refine get_0_6 C hw q_381 dX10_kept_32 ?_
      refine lv_iload_n hx hb dX10_kept_35 rfl (lv_at hl 1 rfl) ?_
      obtain ⟨r5, S4, hr, hf⟩ := hf_2 hf
      refine inv_Vi (q0 := 7) (ci := 3) (As := [.int p1]) lk_X10_287 C hw rfl rfl rfl (t_De_keepPromise hr) rfl hl.1 dX10_kept_36 rfl (Nat.le_of_ble_eq_true rfl) (by decide) (Nat.le_of_ble_eq_true rfl) rfl (fun H locs hw => ?_)
      refine lv_goto (tgt := 44) hx hb dX10_kept_39 (by decide) ?_
      exact ret_iS C hw dX10_kept_44 hf
  · have hf := hf_t q hf
    refine lv_iconst (v := -1) hx hb dX10_kept_11 kc_m1 ?_
    exact ret_iS C hw dX10_kept_12 hf
end
theorem t_Ch_kept {l : Launch} {V : St} {N : Nat} {S : St} {p1 : Int32} {r : Int32} {S9 : St} (hf : Ch_kept N S p1 = some (r, S9)) : Ct l (wX V) yX10_kept cX10_kept 2 (some .int) 4 (fun E => [.ref (ea E 0), .int p1]) S (fun E => some (.int r)) S9 :=
  ofBlock (by decide +kernel) (fun _ => Nat.le_of_ble_eq_true rfl) (fun E p e s m args below meth c ls C hw hl => w_Ch_kept C hw hl hf)
theorem dX10_led_0 : decode cX10_led 0 = .ok (.iload_n 1, 1) := by decide +kernel
theorem dX10_led_1 : decode cX10_led 1 = .ok (.iconst 0, 1) := by decide +kernel
theorem dX10_led_2 : decode cX10_led 2 = .ok (.iconst 4, 1) := by decide +kernel
theorem dX10_led_3 : decode cX10_led 3 = .ok (.invokestatic 83, 3) := by decide +kernel
theorem dX10_led_6 : decode cX10_led 6 = .ok (.ifCond .eq 15, 3) := by decide +kernel
theorem dX10_led_9 : decode cX10_led 9 = .ok (.aload_n 0, 1) := by decide +kernel
theorem dX10_led_10 : decode cX10_led 10 = .ok (.getfield 79, 3) := by decide +kernel
theorem dX10_led_13 : decode cX10_led 13 = .ok (.getfield 290, 3) := by decide +kernel
theorem dX10_led_16 : decode cX10_led 16 = .ok (.iload_n 1, 1) := by decide +kernel
theorem dX10_led_17 : decode cX10_led 17 = .ok (.iaload, 1) := by decide +kernel
theorem dX10_led_18 : decode cX10_led 18 = .ok (.goto 4, 3) := by decide +kernel
theorem dX10_led_21 : decode cX10_led 21 = .ok (.iconst (-1), 1) := by decide +kernel
theorem dX10_led_22 : decode cX10_led 22 = .ok (.ireturn, 1) := by decide +kernel
section
variable {p : Program} {l : Launch} {e : Env} {s : State} {m : MethodId} {args : Array Value} {below : List Frame} {meth : Method} {c : Code} {H : Heap} {locs : List Loc} {E : Ev} {S V : St} {ls : Array Slot}
set_option maxRecDepth 20000 in
theorem w_Ch_led {p1 : Int32} {r : Int32} (C : Cx p s m args meth c E cX10_led 2 RX10 (some .int)) (hw : Wd E (wX V E) s.heap S H locs) (hl : lv_has ls 2 [(0, .ref (ea E 0)), (1, .int p1)]) (hf : Ch_led S p1 = some r) : W p l e (rmh 2) s m args below meth c H locs 0 0 (MQ below (QW E (wX V E) (some (.int r)) S) args s 0 0 (eA E)) (F0 m 0 ls []) := by
  have hx := C.1
  have hb := C.2.1
  unfold Ch_led at hf
  refine lv_iload_n hx hb dX10_led_0 rfl (lv_at hl 1 rfl) ?_
  refine lv_iconst (v := 0) hx hb dX10_led_1 kc_0 ?_
  refine lv_iconst (v := 4) hx hb dX10_led_2 kc_4 ?_
  obtain ⟨r1, hr, hf⟩ := hf_1 hf
  refine inv_Si (As := [.int p1, .int (0 : Int32), .int (4 : Int32)]) lk_X10_83 C hw (t_Ch_within hr) hl.1 dX10_led_3 rfl (Nat.le_of_ble_eq_true rfl) (by decide) (Nat.le_of_ble_eq_true rfl) rfl (fun H locs hw => ?_)
  refine lv_if_eq (tgt := 21) hx hb dX10_led_6 (by decide) (fun q => ?_) (fun q => ?_)
  · have hf := hf_t q hf
    refine lv_iconst (v := -1) hx hb dX10_led_21 kc_m1 ?_
    exact ret_i C hw dX10_led_22 hf
  · have hf := hf_f q hf
    refine lv_aload_n hx hb dX10_led_9 rfl (lv_at hl 0 rfl) ?_
    refine get_0_6 C hw q_381 dX10_led_10 ?_
    refine get_7_0 C hw q_355 dX10_led_13 ?_
    refine lv_iload_n hx hb dX10_led_16 rfl (lv_at hl 1 rfl) ?_
    obtain ⟨hc, hf⟩ := hf_ck hf
    refine ld_31 C hw hc dX10_led_17 ?_
    refine lv_goto (tgt := 22) hx hb dX10_led_18 (by decide) ?_
    exact ret_i C hw dX10_led_22 hf
end
theorem t_Ch_led {l : Launch} {V : St} {S : St} {p1 : Int32} {r : Int32} (hf : Ch_led S p1 = some r) : Ct l (wX V) yX10_led cX10_led 2 (some .int) 2 (fun E => [.ref (ea E 0), .int p1]) S (fun E => some (.int r)) S :=
  ofBlock (by decide +kernel) (fun _ => Nat.le_of_ble_eq_true rfl) (fun E p e s m args below meth c ls C hw hl => w_Ch_led C hw hl hf)
theorem dX10_image_0 : decode cX10_image 0 = .ok (.aload_n 0, 1) := by decide +kernel
theorem dX10_image_1 : decode cX10_image 1 = .ok (.getfield 79, 3) := by decide +kernel
theorem dX10_image_4 : decode cX10_image 4 = .ok (.invokevirtual 293, 3) := by decide +kernel
theorem dX10_image_7 : decode cX10_image 7 = .ok (.ireturn, 1) := by decide +kernel
section
variable {p : Program} {l : Launch} {e : Env} {s : State} {m : MethodId} {args : Array Value} {below : List Frame} {meth : Method} {c : Code} {H : Heap} {locs : List Loc} {E : Ev} {S V : St} {ls : Array Slot}
set_option maxRecDepth 20000 in
theorem w_Ch_image {r : Int32} {S9 : St} (C : Cx p s m args meth c E cX10_image 1 RX10 (some .int)) (hw : Wd E (wX V E) s.heap S H locs) (hl : lv_has ls 1 [(0, .ref (ea E 0))]) (hf : Ch_image S = some (r, S9)) : W p l e (rmh 2) s m args below meth c H locs 0 0 (MQ below (QW E (wX V E) (some (.int r)) S9) args s 0 0 (eA E)) (F0 m 0 ls []) := by
  have hx := C.1
  have hb := C.2.1
  unfold Ch_image at hf
  refine lv_aload_n hx hb dX10_image_0 rfl (lv_at hl 0 rfl) ?_
  refine get_0_6 C hw q_381 dX10_image_1 ?_
  obtain ⟨r2, S1, hr, hf⟩ := hf_2 hf
  refine inv_Vi (q0 := 7) (ci := 3) (As := []) lk_X10_293 C hw rfl rfl rfl (t_De_keepImage hr) rfl hl.1 dX10_image_4 rfl (Nat.le_of_ble_eq_true rfl) (by decide) (Nat.le_of_ble_eq_true rfl) rfl (fun H locs hw => ?_)
  exact ret_iS C hw dX10_image_7 hf
end
theorem t_Ch_image {l : Launch} {V : St} {S : St} {r : Int32} {S9 : St} (hf : Ch_image S = some (r, S9)) : Ct l (wX V) yX10_image cX10_image 1 (some .int) 2 (fun E => [.ref (ea E 0)]) S (fun E => some (.int r)) S9 :=
  ofBlock (by decide +kernel) (fun _ => Nat.le_of_ble_eq_true rfl) (fun E p e s m args below meth c ls C hw hl => w_Ch_image C hw hl hf)
theorem dX10_back_0 : decode cX10_back 0 = .ok (.aload_n 0, 1) := by decide +kernel
theorem dX10_back_1 : decode cX10_back 1 = .ok (.getfield 79, 3) := by decide +kernel
theorem dX10_back_4 : decode cX10_back 4 = .ok (.getfield 296, 3) := by decide +kernel
theorem dX10_back_7 : decode cX10_back 7 = .ok (.ifCond .eq 13, 3) := by decide +kernel
theorem dX10_back_10 : decode cX10_back 10 = .ok (.aload_n 0, 1) := by decide +kernel
theorem dX10_back_11 : decode cX10_back 11 = .ok (.getfield 79, 3) := by decide +kernel
theorem dX10_back_14 : decode cX10_back 14 = .ok (.invokevirtual 300, 3) := by decide +kernel
theorem dX10_back_17 : decode cX10_back 17 = .ok (.goto 5, 3) := by decide +kernel
theorem dX10_back_20 : decode cX10_back 20 = .ok (.bipush (-5), 2) := by decide +kernel
theorem dX10_back_22 : decode cX10_back 22 = .ok (.ireturn, 1) := by decide +kernel
section
variable {p : Program} {l : Launch} {e : Env} {s : State} {m : MethodId} {args : Array Value} {below : List Frame} {meth : Method} {c : Code} {H : Heap} {locs : List Loc} {E : Ev} {S V : St} {ls : Array Slot}
set_option maxRecDepth 20000 in
theorem w_Ch_back {r : Int32} {S9 : St} (C : Cx p s m args meth c E cX10_back 1 RX10 (some .int)) (hw : Wd E (wX V E) s.heap S H locs) (hl : lv_has ls 1 [(0, .ref (ea E 0))]) (hf : Ch_back S = some (r, S9)) : W p l e (rmh 2) s m args below meth c H locs 0 0 (MQ below (QW E (wX V E) (some (.int r)) S9) args s 0 0 (eA E)) (F0 m 0 ls []) := by
  have hx := C.1
  have hb := C.2.1
  unfold Ch_back at hf
  refine lv_aload_n hx hb dX10_back_0 rfl (lv_at hl 0 rfl) ?_
  refine get_0_6 C hw q_381 dX10_back_1 ?_
  refine get_7_1 C hw q_357 dX10_back_4 ?_
  refine lv_if_eq (tgt := 20) hx hb dX10_back_7 (by decide) (fun q => ?_) (fun q => ?_)
  · have hf := hf_t q hf
    refine lv_bipush (v := -5) hx hb dX10_back_20 kb_m5 ?_
    exact ret_iS C hw dX10_back_22 hf
  · have hf := hf_f q hf
    refine lv_aload_n hx hb dX10_back_10 rfl (lv_at hl 0 rfl) ?_
    refine get_0_6 C hw q_381 dX10_back_11 ?_
    obtain ⟨r2, S1, hr, hf⟩ := hf_2 hf
    refine inv_Vi (q0 := 7) (ci := 3) (As := []) lk_X10_300 C hw rfl rfl rfl (t_De_layBack hr) rfl hl.1 dX10_back_14 rfl (Nat.le_of_ble_eq_true rfl) (by decide) (Nat.le_of_ble_eq_true rfl) rfl (fun H locs hw => ?_)
    refine lv_goto (tgt := 22) hx hb dX10_back_17 (by decide) ?_
    exact ret_iS C hw dX10_back_22 hf
end
theorem t_Ch_back {l : Launch} {V : St} {S : St} {r : Int32} {S9 : St} (hf : Ch_back S = some (r, S9)) : Ct l (wX V) yX10_back cX10_back 1 (some .int) 2 (fun E => [.ref (ea E 0)]) S (fun E => some (.int r)) S9 :=
  ofBlock (by decide +kernel) (fun _ => Nat.le_of_ble_eq_true rfl) (fun E p e s m args below meth c ls C hw hl => w_Ch_back C hw hl hf)
theorem dX10_undo_0 : decode cX10_undo 0 = .ok (.aload_n 0, 1) := by decide +kernel
theorem dX10_undo_1 : decode cX10_undo 1 = .ok (.getfield 40, 3) := by decide +kernel
theorem dX10_undo_4 : decode cX10_undo 4 = .ok (.getfield 303, 3) := by decide +kernel
theorem dX10_undo_7 : decode cX10_undo 7 = .ok (.ifCond .ne 6, 3) := by decide +kernel
theorem dX10_undo_10 : decode cX10_undo 10 = .ok (.bipush (-5), 2) := by decide +kernel
theorem dX10_undo_12 : decode cX10_undo 12 = .ok (.ireturn, 1) := by decide +kernel
theorem dX10_undo_13 : decode cX10_undo 13 = .ok (.aload_n 0, 1) := by decide +kernel
theorem dX10_undo_14 : decode cX10_undo 14 = .ok (.getfield 40, 3) := by decide +kernel
theorem dX10_undo_17 : decode cX10_undo 17 = .ok (.aload_n 0, 1) := by decide +kernel
theorem dX10_undo_18 : decode cX10_undo 18 = .ok (.getfield 10, 3) := by decide +kernel
theorem dX10_undo_21 : decode cX10_undo 21 = .ok (.invokevirtual 306, 3) := by decide +kernel
theorem dX10_undo_24 : decode cX10_undo 24 = .ok (.aload_n 0, 1) := by decide +kernel
theorem dX10_undo_25 : decode cX10_undo 25 = .ok (.getfield 40, 3) := by decide +kernel
theorem dX10_undo_28 : decode cX10_undo 28 = .ok (.getfield 303, 3) := by decide +kernel
theorem dX10_undo_31 : decode cX10_undo 31 = .ok (.ireturn, 1) := by decide +kernel
section
variable {p : Program} {l : Launch} {e : Env} {s : State} {m : MethodId} {args : Array Value} {below : List Frame} {meth : Method} {c : Code} {H : Heap} {locs : List Loc} {E : Ev} {S V : St} {ls : Array Slot}
set_option maxRecDepth 20000 in
theorem w_Ch_undo {r : Int32} {S9 : St} (C : Cx p s m args meth c E cX10_undo 1 RX10 (some .int)) (hw : Wd E (wX V E) s.heap S H locs) (hl : lv_has ls 1 [(0, .ref (ea E 0))]) (hf : Ch_undo S = some (r, S9)) : W p l e (rmh 4) s m args below meth c H locs 0 0 (MQ below (QW E (wX V E) (some (.int r)) S9) args s 0 0 (eA E)) (F0 m 0 ls []) := by
  have hx := C.1
  have hb := C.2.1
  unfold Ch_undo at hf
  refine lv_aload_n hx hb dX10_undo_0 rfl (lv_at hl 0 rfl) ?_
  refine get_0_7 C hw q_382 dX10_undo_1 ?_
  refine get_8_0 C hw q_263 dX10_undo_4 ?_
  refine lv_if_ne (tgt := 13) hx hb dX10_undo_7 (by decide) (fun q => ?_) (fun q => ?_)
  · have hf := hf_f q hf
    refine lv_aload_n hx hb dX10_undo_13 rfl (lv_at hl 0 rfl) ?_
    refine get_0_7 C hw q_382 dX10_undo_14 ?_
    refine lv_aload_n hx hb dX10_undo_17 rfl (lv_at hl 0 rfl) ?_
    refine get_0_0 C hw q_375 dX10_undo_18 ?_
    obtain ⟨S1, hr, hf⟩ := hf_1 hf
    refine inv_VAv (q0 := 8) (ci := 0) (As := fun E => [.ref (ea E 1)]) lk_X10_306 C hw rfl rfl rfl (t_Cg_stepBack hr) rfl hl.1 dX10_undo_21 rfl (Nat.le_of_ble_eq_true rfl) (by decide) (Nat.le_of_ble_eq_true rfl) rfl (fun H locs hw => ?_)
    refine lv_aload_n hx hb dX10_undo_24 rfl (lv_at hl 0 rfl) ?_
    refine get_0_7 C hw q_382 dX10_undo_25 ?_
    refine get_8_0 C hw q_263 dX10_undo_28 ?_
    exact ret_iS C hw dX10_undo_31 hf
  · have hf := hf_t q hf
    refine lv_bipush (v := -5) hx hb dX10_undo_10 kb_m5 ?_
    exact ret_iS C hw dX10_undo_12 hf
end
theorem t_Ch_undo {l : Launch} {V : St} {S : St} {r : Int32} {S9 : St} (hf : Ch_undo S = some (r, S9)) : Ct l (wX V) yX10_undo cX10_undo 1 (some .int) 4 (fun E => [.ref (ea E 0)]) S (fun E => some (.int r)) S9 :=
  ofBlock (by decide +kernel) (fun _ => Nat.le_of_ble_eq_true rfl) (fun E p e s m args below meth c ls C hw hl => w_Ch_undo C hw hl hf)
theorem dX10_redo_0 : decode cX10_redo 0 = .ok (.aload_n 0, 1) := by decide +kernel
theorem dX10_redo_1 : decode cX10_redo 1 = .ok (.getfield 40, 3) := by decide +kernel
theorem dX10_redo_4 : decode cX10_redo 4 = .ok (.getfield 303, 3) := by decide +kernel
theorem dX10_redo_7 : decode cX10_redo 7 = .ok (.aload_n 0, 1) := by decide +kernel
theorem dX10_redo_8 : decode cX10_redo 8 = .ok (.getfield 40, 3) := by decide +kernel
theorem dX10_redo_11 : decode cX10_redo 11 = .ok (.getfield 309, 3) := by decide +kernel
theorem dX10_redo_14 : decode cX10_redo 14 = .ok (.if_icmp .ne 6, 3) := by decide +kernel
theorem dX10_redo_17 : decode cX10_redo 17 = .ok (.bipush (-5), 2) := by decide +kernel
theorem dX10_redo_19 : decode cX10_redo 19 = .ok (.ireturn, 1) := by decide +kernel
theorem dX10_redo_20 : decode cX10_redo 20 = .ok (.aload_n 0, 1) := by decide +kernel
theorem dX10_redo_21 : decode cX10_redo 21 = .ok (.getfield 40, 3) := by decide +kernel
theorem dX10_redo_24 : decode cX10_redo 24 = .ok (.aload_n 0, 1) := by decide +kernel
theorem dX10_redo_25 : decode cX10_redo 25 = .ok (.getfield 10, 3) := by decide +kernel
theorem dX10_redo_28 : decode cX10_redo 28 = .ok (.invokevirtual 312, 3) := by decide +kernel
theorem dX10_redo_31 : decode cX10_redo 31 = .ok (.aload_n 0, 1) := by decide +kernel
theorem dX10_redo_32 : decode cX10_redo 32 = .ok (.getfield 40, 3) := by decide +kernel
theorem dX10_redo_35 : decode cX10_redo 35 = .ok (.getfield 309, 3) := by decide +kernel
theorem dX10_redo_38 : decode cX10_redo 38 = .ok (.aload_n 0, 1) := by decide +kernel
theorem dX10_redo_39 : decode cX10_redo 39 = .ok (.getfield 40, 3) := by decide +kernel
theorem dX10_redo_42 : decode cX10_redo 42 = .ok (.getfield 303, 3) := by decide +kernel
theorem dX10_redo_45 : decode cX10_redo 45 = .ok (.isub, 1) := by decide +kernel
theorem dX10_redo_46 : decode cX10_redo 46 = .ok (.ireturn, 1) := by decide +kernel
section
variable {p : Program} {l : Launch} {e : Env} {s : State} {m : MethodId} {args : Array Value} {below : List Frame} {meth : Method} {c : Code} {H : Heap} {locs : List Loc} {E : Ev} {S V : St} {ls : Array Slot}
set_option maxRecDepth 20000 in
theorem w_Ch_redo {r : Int32} {S9 : St} (C : Cx p s m args meth c E cX10_redo 1 RX10 (some .int)) (hw : Wd E (wX V E) s.heap S H locs) (hl : lv_has ls 1 [(0, .ref (ea E 0))]) (hf : Ch_redo S = some (r, S9)) : W p l e (rmh 4) s m args below meth c H locs 0 0 (MQ below (QW E (wX V E) (some (.int r)) S9) args s 0 0 (eA E)) (F0 m 0 ls []) := by
  have hx := C.1
  have hb := C.2.1
  unfold Ch_redo at hf
  refine lv_aload_n hx hb dX10_redo_0 rfl (lv_at hl 0 rfl) ?_
  refine get_0_7 C hw q_382 dX10_redo_1 ?_
  refine get_8_0 C hw q_263 dX10_redo_4 ?_
  refine lv_aload_n hx hb dX10_redo_7 rfl (lv_at hl 0 rfl) ?_
  refine get_0_7 C hw q_382 dX10_redo_8 ?_
  refine get_8_1 C hw q_265 dX10_redo_11 ?_
  refine lv_icmp_ne (tgt := 20) hx hb dX10_redo_14 (by decide) (fun q => ?_) (fun q => ?_)
  · have hf := hf_f q hf
    refine lv_aload_n hx hb dX10_redo_20 rfl (lv_at hl 0 rfl) ?_
    refine get_0_7 C hw q_382 dX10_redo_21 ?_
    refine lv_aload_n hx hb dX10_redo_24 rfl (lv_at hl 0 rfl) ?_
    refine get_0_0 C hw q_375 dX10_redo_25 ?_
    obtain ⟨S1, hr, hf⟩ := hf_1 hf
    refine inv_VAv (q0 := 8) (ci := 0) (As := fun E => [.ref (ea E 1)]) lk_X10_312 C hw rfl rfl rfl (t_Cg_stepForward hr) rfl hl.1 dX10_redo_28 rfl (Nat.le_of_ble_eq_true rfl) (by decide) (Nat.le_of_ble_eq_true rfl) rfl (fun H locs hw => ?_)
    refine lv_aload_n hx hb dX10_redo_31 rfl (lv_at hl 0 rfl) ?_
    refine get_0_7 C hw q_382 dX10_redo_32 ?_
    refine get_8_1 C hw q_265 dX10_redo_35 ?_
    refine lv_aload_n hx hb dX10_redo_38 rfl (lv_at hl 0 rfl) ?_
    refine get_0_7 C hw q_382 dX10_redo_39 ?_
    refine get_8_0 C hw q_263 dX10_redo_42 ?_
    refine lv_isub hx hb dX10_redo_45 ?_
    exact ret_iS C hw dX10_redo_46 hf
  · have hf := hf_t q hf
    refine lv_bipush (v := -5) hx hb dX10_redo_17 kb_m5 ?_
    exact ret_iS C hw dX10_redo_19 hf
end
theorem t_Ch_redo {l : Launch} {V : St} {S : St} {r : Int32} {S9 : St} (hf : Ch_redo S = some (r, S9)) : Ct l (wX V) yX10_redo cX10_redo 1 (some .int) 4 (fun E => [.ref (ea E 0)]) S (fun E => some (.int r)) S9 :=
  ofBlock (by decide +kernel) (fun _ => Nat.le_of_ble_eq_true rfl) (fun E p e s m args below meth c ls C hw hl => w_Ch_redo C hw hl hf)
theorem dX10_body_0 : decode cX10_body 0 = .ok (.iload_n 1, 1) := by decide +kernel
theorem dX10_body_1 : decode cX10_body 1 = .ok (.iconst 0, 1) := by decide +kernel
theorem dX10_body_2 : decode cX10_body 2 = .ok (.bipush 7, 2) := by decide +kernel
theorem dX10_body_4 : decode cX10_body 4 = .ok (.invokestatic 83, 3) := by decide +kernel
theorem dX10_body_7 : decode cX10_body 7 = .ok (.ifCond .ne 5, 3) := by decide +kernel
theorem dX10_body_10 : decode cX10_body 10 = .ok (.iconst (-1), 1) := by decide +kernel
theorem dX10_body_11 : decode cX10_body 11 = .ok (.ireturn, 1) := by decide +kernel
theorem dX10_body_12 : decode cX10_body 12 = .ok (.aload_n 0, 1) := by decide +kernel
theorem dX10_body_13 : decode cX10_body 13 = .ok (.getfield 33, 3) := by decide +kernel
theorem dX10_body_16 : decode cX10_body 16 = .ok (.getfield 315, 3) := by decide +kernel
theorem dX10_body_19 : decode cX10_body 19 = .ok (.bipush 50, 2) := by decide +kernel
theorem dX10_body_21 : decode cX10_body 21 = .ok (.if_icmp .ne 8, 3) := by decide +kernel
theorem dX10_body_24 : decode cX10_body 24 = .ok (.bipush (-3), 2) := by decide +kernel
theorem dX10_body_26 : decode cX10_body 26 = .ok (.goto 11, 3) := by decide +kernel
theorem dX10_body_29 : decode cX10_body 29 = .ok (.aload_n 0, 1) := by decide +kernel
theorem dX10_body_30 : decode cX10_body 30 = .ok (.getfield 33, 3) := by decide +kernel
theorem dX10_body_33 : decode cX10_body 33 = .ok (.iload_n 1, 1) := by decide +kernel
theorem dX10_body_34 : decode cX10_body 34 = .ok (.invokevirtual 318, 3) := by decide +kernel
theorem dX10_body_37 : decode cX10_body 37 = .ok (.ireturn, 1) := by decide +kernel
section
variable {p : Program} {l : Launch} {e : Env} {s : State} {m : MethodId} {args : Array Value} {below : List Frame} {meth : Method} {c : Code} {H : Heap} {locs : List Loc} {E : Ev} {S V : St} {ls : Array Slot}
set_option maxRecDepth 20000 in
theorem w_Ch_body {p1 : Int32} {r : Int32} {S9 : St} (C : Cx p s m args meth c E cX10_body 2 RX10 (some .int)) (hw : Wd E (wX V E) s.heap S H locs) (hl : lv_has ls 2 [(0, .ref (ea E 0)), (1, .int p1)]) (hf : Ch_body S p1 = some (r, S9)) : W p l e (rmh 2) s m args below meth c H locs 0 0 (MQ below (QW E (wX V E) (some (.int r)) S9) args s 0 0 (eA E)) (F0 m 0 ls []) := by
  have hx := C.1
  have hb := C.2.1
  unfold Ch_body at hf
  refine lv_iload_n hx hb dX10_body_0 rfl (lv_at hl 1 rfl) ?_
  refine lv_iconst (v := 0) hx hb dX10_body_1 kc_0 ?_
  refine lv_bipush (v := 7) hx hb dX10_body_2 kb_7 ?_
  obtain ⟨r1, hr, hf⟩ := hf_1 hf
  refine inv_Si (As := [.int p1, .int (0 : Int32), .int (7 : Int32)]) lk_X10_83 C hw (t_Ch_within hr) hl.1 dX10_body_4 rfl (Nat.le_of_ble_eq_true rfl) (by decide) (Nat.le_of_ble_eq_true rfl) rfl (fun H locs hw => ?_)
  refine lv_if_ne (tgt := 12) hx hb dX10_body_7 (by decide) (fun q => ?_) (fun q => ?_)
  · have hf := hf_f q hf
    refine lv_aload_n hx hb dX10_body_12 rfl (lv_at hl 0 rfl) ?_
    refine get_0_8 C hw q_383 dX10_body_13 ?_
    refine get_9_0 C hw q_238 dX10_body_16 ?_
    refine lv_bipush (v := 50) hx hb dX10_body_19 kb_50 ?_
    refine lv_icmp_ne (tgt := 29) hx hb dX10_body_21 (by decide) (fun q => ?_) (fun q => ?_)
    · have hf := hf_f q hf
      refine lv_aload_n hx hb dX10_body_29 rfl (lv_at hl 0 rfl) ?_
      refine get_0_8 C hw q_383 dX10_body_30 ?_
      refine lv_iload_n hx hb dX10_body_33 rfl (lv_at hl 1 rfl) ?_
      obtain ⟨r3, S2, hr, hf⟩ := hf_2 hf
      refine inv_Vi (q0 := 9) (ci := 6) (As := [.int p1]) lk_X10_318 C hw rfl rfl rfl (t_Li_add hr) rfl hl.1 dX10_body_34 rfl (Nat.le_of_ble_eq_true rfl) (by decide) (Nat.le_of_ble_eq_true rfl) rfl (fun H locs hw => ?_)
      exact ret_iS C hw dX10_body_37 hf
    · have hf := hf_t q hf
      refine lv_bipush (v := -3) hx hb dX10_body_24 kb_m3 ?_
      refine lv_goto (tgt := 37) hx hb dX10_body_26 (by decide) ?_
      exact ret_iS C hw dX10_body_37 hf
  · have hf := hf_t q hf
    refine lv_iconst (v := -1) hx hb dX10_body_10 kc_m1 ?_
    exact ret_iS C hw dX10_body_11 hf
end
theorem t_Ch_body {l : Launch} {V : St} {S : St} {p1 : Int32} {r : Int32} {S9 : St} (hf : Ch_body S p1 = some (r, S9)) : Ct l (wX V) yX10_body cX10_body 2 (some .int) 2 (fun E => [.ref (ea E 0), .int p1]) S (fun E => some (.int r)) S9 :=
  ofBlock (by decide +kernel) (fun _ => Nat.le_of_ble_eq_true rfl) (fun E p e s m args below meth c ls C hw hl => w_Ch_body C hw hl hf)
theorem dX10_act_0 : decode cX10_act 0 = .ok (.aload_n 0, 1) := by decide +kernel
theorem dX10_act_1 : decode cX10_act 1 = .ok (.getfield 33, 3) := by decide +kernel
theorem dX10_act_4 : decode cX10_act 4 = .ok (.iload_n 1, 1) := by decide +kernel
theorem dX10_act_5 : decode cX10_act 5 = .ok (.iload_n 2, 1) := by decide +kernel
theorem dX10_act_6 : decode cX10_act 6 = .ok (.iload_n 3, 1) := by decide +kernel
theorem dX10_act_7 : decode cX10_act 7 = .ok (.invokevirtual 320, 3) := by decide +kernel
theorem dX10_act_10 : decode cX10_act 10 = .ok (.ireturn, 1) := by decide +kernel
section
variable {p : Program} {l : Launch} {e : Env} {s : State} {m : MethodId} {args : Array Value} {below : List Frame} {meth : Method} {c : Code} {H : Heap} {locs : List Loc} {E : Ev} {S V : St} {ls : Array Slot}
set_option maxRecDepth 20000 in
theorem w_Ch_act {N : Nat} {p1 : Int32} {p2 : Int32} {p3 : Int32} {r : Int32} {S9 : St} (C : Cx p s m args meth c E cX10_act 4 RX10 (some .int)) (hw : Wd E (wX V E) s.heap S H locs) (hl : lv_has ls 4 [(0, .ref (ea E 0)), (1, .int p1), (2, .int p2), (3, .int p3)]) (hf : Ch_act N S p1 p2 p3 = some (r, S9)) : W p l e (rmh (N + 4)) s m args below meth c H locs 0 0 (MQ below (QW E (wX V E) (some (.int r)) S9) args s 0 0 (eA E)) (F0 m 0 ls []) := by
  have hx := C.1
  have hb := C.2.1
  unfold Ch_act at hf
  refine lv_aload_n hx hb dX10_act_0 rfl (lv_at hl 0 rfl) ?_
  refine get_0_8 C hw q_383 dX10_act_1 ?_
  refine lv_iload_n hx hb dX10_act_4 rfl (lv_at hl 1 rfl) ?_
  refine lv_iload_n hx hb dX10_act_5 rfl (lv_at hl 2 rfl) ?_
  refine lv_iload_n hx hb dX10_act_6 rfl (lv_at hl 3 rfl) ?_
  obtain ⟨r2, S1, hr, hf⟩ := hf_2 hf
  refine inv_Vi (q0 := 9) (ci := 6) (As := [.int p1, .int p2, .int p3]) lk_X10_320 C hw rfl rfl rfl (t_Li_perform hr) rfl hl.1 dX10_act_7 rfl (by omega) (by decide) (Nat.le_of_ble_eq_true rfl) rfl (fun H locs hw => ?_)
  exact ret_iS C hw dX10_act_10 hf
end
theorem t_Ch_act {l : Launch} {V : St} {N : Nat} {S : St} {p1 : Int32} {p2 : Int32} {p3 : Int32} {r : Int32} {S9 : St} (hf : Ch_act N S p1 p2 p3 = some (r, S9)) : Ct l (wX V) yX10_act cX10_act 4 (some .int) (N + 4) (fun E => [.ref (ea E 0), .int p1, .int p2, .int p3]) S (fun E => some (.int r)) S9 :=
  ofBlock (by decide +kernel) (fun _ => Nat.le_of_ble_eq_true rfl) (fun E p e s m args below meth c ls C hw hl => w_Ch_act C hw hl hf)
theorem dX10_trace_0 : decode cX10_trace 0 = .ok (.iload_n 1, 1) := by decide +kernel
theorem dX10_trace_1 : decode cX10_trace 1 = .ok (.ifCond .lt 31, 3) := by decide +kernel
theorem dX10_trace_4 : decode cX10_trace 4 = .ok (.iload_n 1, 1) := by decide +kernel
theorem dX10_trace_5 : decode cX10_trace 5 = .ok (.aload_n 0, 1) := by decide +kernel
theorem dX10_trace_6 : decode cX10_trace 6 = .ok (.getfield 33, 3) := by decide +kernel
theorem dX10_trace_9 : decode cX10_trace 9 = .ok (.getfield 323, 3) := by decide +kernel
theorem dX10_trace_12 : decode cX10_trace 12 = .ok (.bipush 24, 2) := by decide +kernel
theorem dX10_trace_14 : decode cX10_trace 14 = .ok (.invokestatic 326, 3) := by decide +kernel
theorem dX10_trace_17 : decode cX10_trace 17 = .ok (.if_icmp .ge 15, 3) := by decide +kernel
theorem dX10_trace_20 : decode cX10_trace 20 = .ok (.aload_n 0, 1) := by decide +kernel
theorem dX10_trace_21 : decode cX10_trace 21 = .ok (.getfield 33, 3) := by decide +kernel
theorem dX10_trace_24 : decode cX10_trace 24 = .ok (.getfield 331, 3) := by decide +kernel
theorem dX10_trace_27 : decode cX10_trace 27 = .ok (.iload_n 1, 1) := by decide +kernel
theorem dX10_trace_28 : decode cX10_trace 28 = .ok (.iaload, 1) := by decide +kernel
theorem dX10_trace_29 : decode cX10_trace 29 = .ok (.goto 4, 3) := by decide +kernel
theorem dX10_trace_32 : decode cX10_trace 32 = .ok (.iconst (-1), 1) := by decide +kernel
theorem dX10_trace_33 : decode cX10_trace 33 = .ok (.ireturn, 1) := by decide +kernel
section
variable {p : Program} {l : Launch} {e : Env} {s : State} {m : MethodId} {args : Array Value} {below : List Frame} {meth : Method} {c : Code} {H : Heap} {locs : List Loc} {E : Ev} {S V : St} {ls : Array Slot}
set_option maxRecDepth 20000 in
theorem w_Ch_trace {p1 : Int32} {r : Int32} (C : Cx p s m args meth c E cX10_trace 2 RX10 (some .int)) (hw : Wd E (wX V E) s.heap S H locs) (hl : lv_has ls 2 [(0, .ref (ea E 0)), (1, .int p1)]) (hf : Ch_trace S p1 = some r) : W p l e (rmh 2) s m args below meth c H locs 0 0 (MQ below (QW E (wX V E) (some (.int r)) S) args s 0 0 (eA E)) (F0 m 0 ls []) := by
  have hx := C.1
  have hb := C.2.1
  unfold Ch_trace at hf
  refine lv_iload_n hx hb dX10_trace_0 rfl (lv_at hl 1 rfl) ?_
  refine lv_if_lt (tgt := 32) hx hb dX10_trace_1 (by decide) (fun q => ?_) (fun q => ?_)
  · have hf := hf_t q hf
    refine lv_iconst (v := -1) hx hb dX10_trace_32 kc_m1 ?_
    exact ret_i C hw dX10_trace_33 hf
  · have hf := hf_f q hf
    refine lv_iload_n hx hb dX10_trace_4 rfl (lv_at hl 1 rfl) ?_
    refine lv_aload_n hx hb dX10_trace_5 rfl (lv_at hl 0 rfl) ?_
    refine get_0_8 C hw q_383 dX10_trace_6 ?_
    refine get_9_1 C hw q_240 dX10_trace_9 ?_
    refine lv_bipush (v := 24) hx hb dX10_trace_12 kb_24 ?_
    obtain ⟨r1, hr, hf⟩ := hf_1 hf
    refine inv_Si (As := [.int (gi S 9 1), .int (24 : Int32)]) lk_X10_326 C hw (t_Ma_min hr) hl.1 dX10_trace_14 rfl (Nat.le_of_ble_eq_true rfl) (by decide) (Nat.le_of_ble_eq_true rfl) rfl (fun H locs hw => ?_)
    refine lv_icmp_ge (tgt := 32) hx hb dX10_trace_17 (by decide) (fun q => ?_) (fun q => ?_)
    · have hf := hf_t q hf
      refine lv_iconst (v := -1) hx hb dX10_trace_32 kc_m1 ?_
      exact ret_i C hw dX10_trace_33 hf
    · have hf := hf_f q hf
      refine lv_aload_n hx hb dX10_trace_20 rfl (lv_at hl 0 rfl) ?_
      refine get_0_8 C hw q_383 dX10_trace_21 ?_
      refine get_9_2 C hw q_242 dX10_trace_24 ?_
      refine lv_iload_n hx hb dX10_trace_27 rfl (lv_at hl 1 rfl) ?_
      obtain ⟨hc, hf⟩ := hf_ck hf
      refine ld_38 C hw hc dX10_trace_28 ?_
      refine lv_goto (tgt := 33) hx hb dX10_trace_29 (by decide) ?_
      exact ret_i C hw dX10_trace_33 hf
end
theorem t_Ch_trace {l : Launch} {V : St} {S : St} {p1 : Int32} {r : Int32} (hf : Ch_trace S p1 = some r) : Ct l (wX V) yX10_trace cX10_trace 2 (some .int) 2 (fun E => [.ref (ea E 0), .int p1]) S (fun E => some (.int r)) S :=
  ofBlock (by decide +kernel) (fun _ => Nat.le_of_ble_eq_true rfl) (fun E p e s m args below meth c ls C hw hl => w_Ch_trace C hw hl hf)
theorem dX10_keep_0 : decode cX10_keep 0 = .ok (.aload_n 0, 1) := by decide +kernel
theorem dX10_keep_1 : decode cX10_keep 1 = .ok (.getfield 26, 3) := by decide +kernel
theorem dX10_keep_4 : decode cX10_keep 4 = .ok (.iload_n 1, 1) := by decide +kernel
theorem dX10_keep_5 : decode cX10_keep 5 = .ok (.invokevirtual 107, 3) := by decide +kernel
theorem dX10_keep_8 : decode cX10_keep 8 = .ok (.ifCond .eq 19, 3) := by decide +kernel
theorem dX10_keep_11 : decode cX10_keep 11 = .ok (.iload_n 2, 1) := by decide +kernel
theorem dX10_keep_12 : decode cX10_keep 12 = .ok (.iconst (-1), 1) := by decide +kernel
theorem dX10_keep_13 : decode cX10_keep 13 = .ok (.if_icmp .eq 16, 3) := by decide +kernel
theorem dX10_keep_16 : decode cX10_keep 16 = .ok (.aload_n 0, 1) := by decide +kernel
theorem dX10_keep_17 : decode cX10_keep 17 = .ok (.getfield 33, 3) := by decide +kernel
theorem dX10_keep_20 : decode cX10_keep 20 = .ok (.iload_n 2, 1) := by decide +kernel
theorem dX10_keep_21 : decode cX10_keep 21 = .ok (.invokevirtual 334, 3) := by decide +kernel
theorem dX10_keep_24 : decode cX10_keep 24 = .ok (.ifCond .ne 5, 3) := by decide +kernel
theorem dX10_keep_27 : decode cX10_keep 27 = .ok (.iconst (-1), 1) := by decide +kernel
theorem dX10_keep_28 : decode cX10_keep 28 = .ok (.ireturn, 1) := by decide +kernel
theorem dX10_keep_29 : decode cX10_keep 29 = .ok (.iload_n 2, 1) := by decide +kernel
theorem dX10_keep_30 : decode cX10_keep 30 = .ok (.iconst (-1), 1) := by decide +kernel
theorem dX10_keep_31 : decode cX10_keep 31 = .ok (.if_icmp .ne 14, 3) := by decide +kernel
theorem dX10_keep_34 : decode cX10_keep 34 = .ok (.aload_n 0, 1) := by decide +kernel
theorem dX10_keep_35 : decode cX10_keep 35 = .ok (.getfield 26, 3) := by decide +kernel
theorem dX10_keep_38 : decode cX10_keep 38 = .ok (.iload_n 1, 1) := by decide +kernel
theorem dX10_keep_39 : decode cX10_keep 39 = .ok (.invokevirtual 337, 3) := by decide +kernel
theorem dX10_keep_42 : decode cX10_keep 42 = .ok (.goto 12, 3) := by decide +kernel
theorem dX10_keep_45 : decode cX10_keep 45 = .ok (.aload_n 0, 1) := by decide +kernel
theorem dX10_keep_46 : decode cX10_keep 46 = .ok (.getfield 26, 3) := by decide +kernel
theorem dX10_keep_49 : decode cX10_keep 49 = .ok (.iload_n 1, 1) := by decide +kernel
theorem dX10_keep_50 : decode cX10_keep 50 = .ok (.iload_n 2, 1) := by decide +kernel
theorem dX10_keep_51 : decode cX10_keep 51 = .ok (.invokevirtual 340, 3) := by decide +kernel
theorem dX10_keep_54 : decode cX10_keep 54 = .ok (.ireturn, 1) := by decide +kernel
section
variable {p : Program} {l : Launch} {e : Env} {s : State} {m : MethodId} {args : Array Value} {below : List Frame} {meth : Method} {c : Code} {H : Heap} {locs : List Loc} {E : Ev} {S V : St} {ls : Array Slot}
set_option maxRecDepth 20000 in
theorem w_Ch_keep_b29 {l1 : Int32} {l2 : Int32} {r : Int32} {S9 : St} (C : Cx p s m args meth c E cX10_keep 3 RX10 (some .int)) (hw : Wd E (wX V E) s.heap S H locs) (hl : lv_has ls 3 [(0, .ref (ea E 0)), (1, .int l1), (2, .int l2)]) (hf : Ch_keep_b29 S l1 l2 = some (r, S9)) : W p l e (rmh 2) s m args below meth c H locs 0 0 (MQ below (QW E (wX V E) (some (.int r)) S9) args s 0 0 (eA E)) (F0 m 29 ls []) := by
  have hx := C.1
  have hb := C.2.1
  unfold Ch_keep_b29 at hf
  refine lv_iload_n hx hb dX10_keep_29 rfl (lv_at hl 2 rfl) ?_
  refine lv_iconst (v := -1) hx hb dX10_keep_30 kc_m1 ?_
  refine lv_icmp_ne (tgt := 45) hx hb dX10_keep_31 (by decide) (fun q => ?_) (fun q => ?_)
  · have hf := hf_f q hf
    refine lv_aload_n hx hb dX10_keep_45 rfl (lv_at hl 0 rfl) ?_
    refine get_0_9 C hw q_384 dX10_keep_46 ?_
    refine lv_iload_n hx hb dX10_keep_49 rfl (lv_at hl 1 rfl) ?_
    refine lv_iload_n hx hb dX10_keep_50 rfl (lv_at hl 2 rfl) ?_
    obtain ⟨r2, S1, hr, hf⟩ := hf_2 hf
    refine inv_Vi (q0 := 10) (ci := 7) (As := [.int l1, .int l2]) lk_X10_340 C hw rfl rfl rfl (t_Sh_holdLink hr) rfl hl.1 dX10_keep_51 rfl (Nat.le_of_ble_eq_true rfl) (by decide) (Nat.le_of_ble_eq_true rfl) rfl (fun H locs hw => ?_)
    exact ret_iS C hw dX10_keep_54 hf
  · have hf := hf_t q hf
    refine lv_aload_n hx hb dX10_keep_34 rfl (lv_at hl 0 rfl) ?_
    refine get_0_9 C hw q_384 dX10_keep_35 ?_
    refine lv_iload_n hx hb dX10_keep_38 rfl (lv_at hl 1 rfl) ?_
    obtain ⟨r4, S3, hr, hf⟩ := hf_2 hf
    refine inv_Vi (q0 := 10) (ci := 7) (As := [.int l1]) lk_X10_337 C hw rfl rfl rfl (t_Sh_clear hr) rfl hl.1 dX10_keep_39 rfl (Nat.le_of_ble_eq_true rfl) (by decide) (Nat.le_of_ble_eq_true rfl) rfl (fun H locs hw => ?_)
    refine lv_goto (tgt := 54) hx hb dX10_keep_42 (by decide) ?_
    exact ret_iS C hw dX10_keep_54 hf
set_option maxRecDepth 20000 in
theorem w_Ch_keep {p1 : Int32} {p2 : Int32} {r : Int32} {S9 : St} (C : Cx p s m args meth c E cX10_keep 3 RX10 (some .int)) (hw : Wd E (wX V E) s.heap S H locs) (hl : lv_has ls 3 [(0, .ref (ea E 0)), (1, .int p1), (2, .int p2)]) (hf : Ch_keep S p1 p2 = some (r, S9)) : W p l e (rmh 2) s m args below meth c H locs 0 0 (MQ below (QW E (wX V E) (some (.int r)) S9) args s 0 0 (eA E)) (F0 m 0 ls []) := by
  have hx := C.1
  have hb := C.2.1
  unfold Ch_keep at hf
  refine lv_aload_n hx hb dX10_keep_0 rfl (lv_at hl 0 rfl) ?_
  refine get_0_9 C hw q_384 dX10_keep_1 ?_
  refine lv_iload_n hx hb dX10_keep_4 rfl (lv_at hl 1 rfl) ?_
  obtain ⟨r1, hr, hf⟩ := hf_1 hf
  refine inv_Vi (q0 := 10) (ci := 7) (As := [.int p1]) lk_X10_107 C hw rfl rfl rfl (t_Sh_isShelf hr) rfl hl.1 dX10_keep_5 rfl (Nat.le_of_ble_eq_true rfl) (by decide) (Nat.le_of_ble_eq_true rfl) rfl (fun H locs hw => ?_)
  refine lv_if_eq (tgt := 27) hx hb dX10_keep_8 (by decide) (fun q => ?_) (fun q => ?_)
  · have hf := hf_t q hf
    refine lv_iconst (v := -1) hx hb dX10_keep_27 kc_m1 ?_
    exact ret_iS C hw dX10_keep_28 hf
  · have hf := hf_f q hf
    refine lv_iload_n hx hb dX10_keep_11 rfl (lv_at hl 2 rfl) ?_
    refine lv_iconst (v := -1) hx hb dX10_keep_12 kc_m1 ?_
    refine lv_icmp_eq (tgt := 29) hx hb dX10_keep_13 (by decide) (fun q => ?_) (fun q => ?_)
    · have hf := hf_t q hf
      exact w_Ch_keep_b29 C hw (lv_sub hl [0, 1, 2] rfl) hf
    · have hf := hf_f q hf
      refine lv_aload_n hx hb dX10_keep_16 rfl (lv_at hl 0 rfl) ?_
      refine get_0_8 C hw q_383 dX10_keep_17 ?_
      refine lv_iload_n hx hb dX10_keep_20 rfl (lv_at hl 2 rfl) ?_
      obtain ⟨r2, hr, hf⟩ := hf_1 hf
      refine inv_Vi (q0 := 9) (ci := 6) (As := [.int p2]) lk_X10_334 C hw rfl rfl rfl (t_Li_isBody hr) rfl hl.1 dX10_keep_21 rfl (Nat.le_of_ble_eq_true rfl) (by decide) (Nat.le_of_ble_eq_true rfl) rfl (fun H locs hw => ?_)
      refine lv_if_ne (tgt := 29) hx hb dX10_keep_24 (by decide) (fun q => ?_) (fun q => ?_)
      · have hf := hf_f q hf
        exact w_Ch_keep_b29 C hw (lv_sub hl [0, 1, 2] rfl) hf
      · have hf := hf_t q hf
        refine lv_iconst (v := -1) hx hb dX10_keep_27 kc_m1 ?_
        exact ret_iS C hw dX10_keep_28 hf
end
theorem t_Ch_keep {l : Launch} {V : St} {S : St} {p1 : Int32} {p2 : Int32} {r : Int32} {S9 : St} (hf : Ch_keep S p1 p2 = some (r, S9)) : Ct l (wX V) yX10_keep cX10_keep 3 (some .int) 2 (fun E => [.ref (ea E 0), .int p1, .int p2]) S (fun E => some (.int r)) S9 :=
  ofBlock (by decide +kernel) (fun _ => Nat.le_of_ble_eq_true rfl) (fun E p e s m args below meth c ls C hw hl => w_Ch_keep C hw hl hf)
theorem dX10_row_0 : decode cX10_row 0 = .ok (.aload_n 0, 1) := by decide +kernel
theorem dX10_row_1 : decode cX10_row 1 = .ok (.getfield 26, 3) := by decide +kernel
theorem dX10_row_4 : decode cX10_row 4 = .ok (.iload_n 1, 1) := by decide +kernel
theorem dX10_row_5 : decode cX10_row 5 = .ok (.invokevirtual 107, 3) := by decide +kernel
theorem dX10_row_8 : decode cX10_row 8 = .ok (.ifCond .eq 18, 3) := by decide +kernel
theorem dX10_row_11 : decode cX10_row 11 = .ok (.iload_n 2, 1) := by decide +kernel
theorem dX10_row_12 : decode cX10_row 12 = .ok (.iconst 0, 1) := by decide +kernel
theorem dX10_row_13 : decode cX10_row 13 = .ok (.iconst 4, 1) := by decide +kernel
theorem dX10_row_14 : decode cX10_row 14 = .ok (.invokestatic 83, 3) := by decide +kernel
theorem dX10_row_17 : decode cX10_row 17 = .ok (.ifCond .eq 9, 3) := by decide +kernel
theorem dX10_row_20 : decode cX10_row 20 = .ok (.iload_n 3, 1) := by decide +kernel
theorem dX10_row_21 : decode cX10_row 21 = .ok (.bipush 60, 2) := by decide +kernel
theorem dX10_row_23 : decode cX10_row 23 = .ok (.if_icmp .le 5, 3) := by decide +kernel
theorem dX10_row_26 : decode cX10_row 26 = .ok (.iconst (-1), 1) := by decide +kernel
theorem dX10_row_27 : decode cX10_row 27 = .ok (.ireturn, 1) := by decide +kernel
theorem dX10_row_28 : decode cX10_row 28 = .ok (.iload_n 3, 1) := by decide +kernel
theorem dX10_row_29 : decode cX10_row 29 = .ok (.ifCond .ge 8, 3) := by decide +kernel
theorem dX10_row_32 : decode cX10_row 32 = .ok (.bipush (-14), 2) := by decide +kernel
theorem dX10_row_34 : decode cX10_row 34 = .ok (.goto 13, 3) := by decide +kernel
theorem dX10_row_37 : decode cX10_row 37 = .ok (.aload_n 0, 1) := by decide +kernel
theorem dX10_row_38 : decode cX10_row 38 = .ok (.getfield 26, 3) := by decide +kernel
theorem dX10_row_41 : decode cX10_row 41 = .ok (.iload_n 1, 1) := by decide +kernel
theorem dX10_row_42 : decode cX10_row 42 = .ok (.iload_n 2, 1) := by decide +kernel
theorem dX10_row_43 : decode cX10_row 43 = .ok (.iload_n 3, 1) := by decide +kernel
theorem dX10_row_44 : decode cX10_row 44 = .ok (.invokevirtual 343, 3) := by decide +kernel
theorem dX10_row_47 : decode cX10_row 47 = .ok (.ireturn, 1) := by decide +kernel
section
variable {p : Program} {l : Launch} {e : Env} {s : State} {m : MethodId} {args : Array Value} {below : List Frame} {meth : Method} {c : Code} {H : Heap} {locs : List Loc} {E : Ev} {S V : St} {ls : Array Slot}
set_option maxRecDepth 20000 in
theorem w_Ch_row {N : Nat} {p1 : Int32} {p2 : Int32} {p3 : Int32} {r : Int32} {S9 : St} (C : Cx p s m args meth c E cX10_row 4 RX10 (some .int)) (hw : Wd E (wX V E) s.heap S H locs) (hl : lv_has ls 4 [(0, .ref (ea E 0)), (1, .int p1), (2, .int p2), (3, .int p3)]) (hf : Ch_row N S p1 p2 p3 = some (r, S9)) : W p l e (rmh 4) s m args below meth c H locs 0 0 (MQ below (QW E (wX V E) (some (.int r)) S9) args s 0 0 (eA E)) (F0 m 0 ls []) := by
  have hx := C.1
  have hb := C.2.1
  unfold Ch_row at hf
  refine lv_aload_n hx hb dX10_row_0 rfl (lv_at hl 0 rfl) ?_
  refine get_0_9 C hw q_384 dX10_row_1 ?_
  refine lv_iload_n hx hb dX10_row_4 rfl (lv_at hl 1 rfl) ?_
  obtain ⟨r1, hr, hf⟩ := hf_1 hf
  refine inv_Vi (q0 := 10) (ci := 7) (As := [.int p1]) lk_X10_107 C hw rfl rfl rfl (t_Sh_isShelf hr) rfl hl.1 dX10_row_5 rfl (Nat.le_of_ble_eq_true rfl) (by decide) (Nat.le_of_ble_eq_true rfl) rfl (fun H locs hw => ?_)
  refine lv_if_eq (tgt := 26) hx hb dX10_row_8 (by decide) (fun q => ?_) (fun q => ?_)
  · have hf := hf_t q hf
    refine lv_iconst (v := -1) hx hb dX10_row_26 kc_m1 ?_
    exact ret_iS C hw dX10_row_27 hf
  · have hf := hf_f q hf
    refine lv_iload_n hx hb dX10_row_11 rfl (lv_at hl 2 rfl) ?_
    refine lv_iconst (v := 0) hx hb dX10_row_12 kc_0 ?_
    refine lv_iconst (v := 4) hx hb dX10_row_13 kc_4 ?_
    obtain ⟨r2, hr, hf⟩ := hf_1 hf
    refine inv_Si (As := [.int p2, .int (0 : Int32), .int (4 : Int32)]) lk_X10_83 C hw (t_Ch_within hr) hl.1 dX10_row_14 rfl (Nat.le_of_ble_eq_true rfl) (by decide) (Nat.le_of_ble_eq_true rfl) rfl (fun H locs hw => ?_)
    refine lv_if_eq (tgt := 26) hx hb dX10_row_17 (by decide) (fun q => ?_) (fun q => ?_)
    · have hf := hf_t q hf
      refine lv_iconst (v := -1) hx hb dX10_row_26 kc_m1 ?_
      exact ret_iS C hw dX10_row_27 hf
    · have hf := hf_f q hf
      refine lv_iload_n hx hb dX10_row_20 rfl (lv_at hl 3 rfl) ?_
      refine lv_bipush (v := 60) hx hb dX10_row_21 kb_60 ?_
      refine lv_icmp_le (tgt := 28) hx hb dX10_row_23 (by decide) (fun q => ?_) (fun q => ?_)
      · have hf := hf_t q hf
        refine lv_iload_n hx hb dX10_row_28 rfl (lv_at hl 3 rfl) ?_
        refine lv_if_ge (tgt := 37) hx hb dX10_row_29 (by decide) (fun q => ?_) (fun q => ?_)
        · have hf := hf_t q hf
          refine lv_aload_n hx hb dX10_row_37 rfl (lv_at hl 0 rfl) ?_
          refine get_0_9 C hw q_384 dX10_row_38 ?_
          refine lv_iload_n hx hb dX10_row_41 rfl (lv_at hl 1 rfl) ?_
          refine lv_iload_n hx hb dX10_row_42 rfl (lv_at hl 2 rfl) ?_
          refine lv_iload_n hx hb dX10_row_43 rfl (lv_at hl 3 rfl) ?_
          obtain ⟨r4, S3, hr, hf⟩ := hf_2 hf
          refine inv_Vi (q0 := 10) (ci := 7) (As := [.int p1, .int p2, .int p3]) lk_X10_343 C hw rfl rfl rfl (t_Sh_holdRow hr) rfl hl.1 dX10_row_44 rfl (Nat.le_of_ble_eq_true rfl) (by decide) (Nat.le_of_ble_eq_true rfl) rfl (fun H locs hw => ?_)
          exact ret_iS C hw dX10_row_47 hf
        · have hf := hf_f q hf
          refine lv_bipush (v := -14) hx hb dX10_row_32 kb_m14 ?_
          refine lv_goto (tgt := 47) hx hb dX10_row_34 (by decide) ?_
          exact ret_iS C hw dX10_row_47 hf
      · have hf := hf_f q hf
        refine lv_iconst (v := -1) hx hb dX10_row_26 kc_m1 ?_
        exact ret_iS C hw dX10_row_27 hf
end
theorem t_Ch_row {l : Launch} {V : St} {N : Nat} {S : St} {p1 : Int32} {p2 : Int32} {p3 : Int32} {r : Int32} {S9 : St} (hf : Ch_row N S p1 p2 p3 = some (r, S9)) : Ct l (wX V) yX10_row cX10_row 4 (some .int) 4 (fun E => [.ref (ea E 0), .int p1, .int p2, .int p3]) S (fun E => some (.int r)) S9 :=
  ofBlock (by decide +kernel) (fun _ => Nat.le_of_ble_eq_true rfl) (fun E p e s m args below meth c ls C hw hl => w_Ch_row C hw hl hf)
theorem dX10_put_0 : decode cX10_put 0 = .ok (.aload_n 0, 1) := by decide +kernel
theorem dX10_put_1 : decode cX10_put 1 = .ok (.getfield 26, 3) := by decide +kernel
theorem dX10_put_4 : decode cX10_put 4 = .ok (.iload_n 1, 1) := by decide +kernel
theorem dX10_put_5 : decode cX10_put 5 = .ok (.invokevirtual 107, 3) := by decide +kernel
theorem dX10_put_8 : decode cX10_put 8 = .ok (.ifCond .ne 5, 3) := by decide +kernel
theorem dX10_put_11 : decode cX10_put 11 = .ok (.iconst (-1), 1) := by decide +kernel
theorem dX10_put_12 : decode cX10_put 12 = .ok (.ireturn, 1) := by decide +kernel
theorem dX10_put_13 : decode cX10_put 13 = .ok (.aload_n 0, 1) := by decide +kernel
theorem dX10_put_14 : decode cX10_put 14 = .ok (.getfield 26, 3) := by decide +kernel
theorem dX10_put_17 : decode cX10_put 17 = .ok (.iload_n 1, 1) := by decide +kernel
theorem dX10_put_18 : decode cX10_put 18 = .ok (.iload_n 2, 1) := by decide +kernel
theorem dX10_put_19 : decode cX10_put 19 = .ok (.invokevirtual 346, 3) := by decide +kernel
theorem dX10_put_22 : decode cX10_put 22 = .ok (.istore 5, 2) := by decide +kernel
theorem dX10_put_24 : decode cX10_put 24 = .ok (.iload 5, 2) := by decide +kernel
theorem dX10_put_26 : decode cX10_put 26 = .ok (.ifCond .eq 8, 3) := by decide +kernel
theorem dX10_put_29 : decode cX10_put 29 = .ok (.iload 5, 2) := by decide +kernel
theorem dX10_put_31 : decode cX10_put 31 = .ok (.goto 13, 3) := by decide +kernel
theorem dX10_put_34 : decode cX10_put 34 = .ok (.aload_n 0, 1) := by decide +kernel
theorem dX10_put_35 : decode cX10_put 35 = .ok (.getfield 26, 3) := by decide +kernel
theorem dX10_put_38 : decode cX10_put 38 = .ok (.iload_n 1, 1) := by decide +kernel
theorem dX10_put_39 : decode cX10_put 39 = .ok (.iload_n 2, 1) := by decide +kernel
theorem dX10_put_40 : decode cX10_put 40 = .ok (.lload_n 3, 1) := by decide +kernel
theorem dX10_put_41 : decode cX10_put 41 = .ok (.invokevirtual 349, 3) := by decide +kernel
theorem dX10_put_44 : decode cX10_put 44 = .ok (.ireturn, 1) := by decide +kernel
section
variable {p : Program} {l : Launch} {e : Env} {s : State} {m : MethodId} {args : Array Value} {below : List Frame} {meth : Method} {c : Code} {H : Heap} {locs : List Loc} {E : Ev} {S V : St} {ls : Array Slot}
set_option maxRecDepth 20000 in
theorem w_Ch_put {p1 : Int32} {p2 : Int32} {p3 : Int64} {r : Int32} {S9 : St} (C : Cx p s m args meth c E cX10_put 6 RX10 (some .int)) (hw : Wd E (wX V E) s.heap S H locs) (hl : lv_has ls 6 [(0, .ref (ea E 0)), (1, .int p1), (2, .int p2), (3, .long p3)]) (hf : Ch_put S p1 p2 p3 = some (r, S9)) : W p l e (rmh 3) s m args below meth c H locs 0 0 (MQ below (QW E (wX V E) (some (.int r)) S9) args s 0 0 (eA E)) (F0 m 0 ls []) := by
  have hx := C.1
  have hb := C.2.1
  unfold Ch_put at hf
  refine lv_aload_n hx hb dX10_put_0 rfl (lv_at hl 0 rfl) ?_
  refine get_0_9 C hw q_384 dX10_put_1 ?_
  refine lv_iload_n hx hb dX10_put_4 rfl (lv_at hl 1 rfl) ?_
  obtain ⟨r1, hr, hf⟩ := hf_1 hf
  refine inv_Vi (q0 := 10) (ci := 7) (As := [.int p1]) lk_X10_107 C hw rfl rfl rfl (t_Sh_isShelf hr) rfl hl.1 dX10_put_5 rfl (Nat.le_of_ble_eq_true rfl) (by decide) (Nat.le_of_ble_eq_true rfl) rfl (fun H locs hw => ?_)
  refine lv_if_ne (tgt := 13) hx hb dX10_put_8 (by decide) (fun q => ?_) (fun q => ?_)
  · have hf := hf_f q hf
    refine lv_aload_n hx hb dX10_put_13 rfl (lv_at hl 0 rfl) ?_
    refine get_0_9 C hw q_384 dX10_put_14 ?_
    refine lv_iload_n hx hb dX10_put_17 rfl (lv_at hl 1 rfl) ?_
    refine lv_iload_n hx hb dX10_put_18 rfl (lv_at hl 2 rfl) ?_
    obtain ⟨r2, hr, hf⟩ := hf_1 hf
    refine inv_Vi (q0 := 10) (ci := 7) (As := [.int p1, .int p2]) lk_X10_346 C hw rfl rfl rfl (t_Sh_refusalOfPlace hr) rfl hl.1 dX10_put_19 rfl (Nat.le_of_ble_eq_true rfl) (by decide) (Nat.le_of_ble_eq_true rfl) rfl (fun H locs hw => ?_)
    refine lv_istore (lv' := [(5, .int r2), (0, .ref (ea E 0)), (1, .int p1), (2, .int p2), (3, .long p3)]) hx hb dX10_put_22 hl (by decide) rfl (fun ls hl => ?_)
    refine lv_iload hx hb dX10_put_24 (lv_at hl 0 rfl) ?_
    refine lv_if_eq (tgt := 34) hx hb dX10_put_26 (by decide) (fun q => ?_) (fun q => ?_)
    · have hf := hf_t q hf
      refine lv_aload_n hx hb dX10_put_34 rfl (lv_at hl 1 rfl) ?_
      refine get_0_9 C hw q_384 dX10_put_35 ?_
      refine lv_iload_n hx hb dX10_put_38 rfl (lv_at hl 2 rfl) ?_
      refine lv_iload_n hx hb dX10_put_39 rfl (lv_at hl 3 rfl) ?_
      refine lv_lload_n hx hb dX10_put_40 rfl (lv_at hl 4 rfl) ?_
      obtain ⟨r4, S3, hr, hf⟩ := hf_2 hf
      refine inv_Vi (q0 := 10) (ci := 7) (As := [.int p1, .int p2, .long p3]) lk_X10_349 C hw rfl rfl rfl (t_Sh_putAt hr) rfl hl.1 dX10_put_41 rfl (Nat.le_of_ble_eq_true rfl) (by decide) (Nat.le_of_ble_eq_true rfl) rfl (fun H locs hw => ?_)
      exact ret_iS C hw dX10_put_44 hf
    · have hf := hf_f q hf
      refine lv_iload hx hb dX10_put_29 (lv_at hl 0 rfl) ?_
      refine lv_goto (tgt := 44) hx hb dX10_put_31 (by decide) ?_
      exact ret_iS C hw dX10_put_44 hf
  · have hf := hf_t q hf
    refine lv_iconst (v := -1) hx hb dX10_put_11 kc_m1 ?_
    exact ret_iS C hw dX10_put_12 hf
end
theorem t_Ch_put {l : Launch} {V : St} {S : St} {p1 : Int32} {p2 : Int32} {p3 : Int64} {r : Int32} {S9 : St} (hf : Ch_put S p1 p2 p3 = some (r, S9)) : Ct l (wX V) yX10_put cX10_put 6 (some .int) 3 (fun E => [.ref (ea E 0), .int p1, .int p2, .long p3]) S (fun E => some (.int r)) S9 :=
  ofBlock (by decide +kernel) (fun _ => Nat.le_of_ble_eq_true rfl) (fun E p e s m args below meth c ls C hw hl => w_Ch_put C hw hl hf)
theorem dX10_element_0 : decode cX10_element 0 = .ok (.aload_n 0, 1) := by decide +kernel
theorem dX10_element_1 : decode cX10_element 1 = .ok (.getfield 26, 3) := by decide +kernel
theorem dX10_element_4 : decode cX10_element 4 = .ok (.iload_n 1, 1) := by decide +kernel
theorem dX10_element_5 : decode cX10_element 5 = .ok (.invokevirtual 107, 3) := by decide +kernel
theorem dX10_element_8 : decode cX10_element 8 = .ok (.ifCond .eq 15, 3) := by decide +kernel
theorem dX10_element_11 : decode cX10_element 11 = .ok (.aload_n 0, 1) := by decide +kernel
theorem dX10_element_12 : decode cX10_element 12 = .ok (.getfield 26, 3) := by decide +kernel
theorem dX10_element_15 : decode cX10_element 15 = .ok (.iload_n 1, 1) := by decide +kernel
theorem dX10_element_16 : decode cX10_element 16 = .ok (.iload_n 2, 1) := by decide +kernel
theorem dX10_element_17 : decode cX10_element 17 = .ok (.invokevirtual 346, 3) := by decide +kernel
theorem dX10_element_20 : decode cX10_element 20 = .ok (.ifCond .eq 7, 3) := by decide +kernel
theorem dX10_element_23 : decode cX10_element 23 = .ok (.ldc2_w 355, 3) := by decide +kernel
theorem dX10_element_26 : decode cX10_element 26 = .ok (.lreturn, 1) := by decide +kernel
theorem dX10_element_27 : decode cX10_element 27 = .ok (.aload_n 0, 1) := by decide +kernel
theorem dX10_element_28 : decode cX10_element 28 = .ok (.getfield 26, 3) := by decide +kernel
theorem dX10_element_31 : decode cX10_element 31 = .ok (.iload_n 1, 1) := by decide +kernel
theorem dX10_element_32 : decode cX10_element 32 = .ok (.iload_n 2, 1) := by decide +kernel
theorem dX10_element_33 : decode cX10_element 33 = .ok (.invokevirtual 121, 3) := by decide +kernel
theorem dX10_element_36 : decode cX10_element 36 = .ok (.lreturn, 1) := by decide +kernel
section
variable {p : Program} {l : Launch} {e : Env} {s : State} {m : MethodId} {args : Array Value} {below : List Frame} {meth : Method} {c : Code} {H : Heap} {locs : List Loc} {E : Ev} {S V : St} {ls : Array Slot}
set_option maxRecDepth 20000 in
theorem w_Ch_element {p1 : Int32} {p2 : Int32} {r : Int64} (C : Cx p s m args meth c E cX10_element 3 RX10 (some .long)) (hw : Wd E (wX V E) s.heap S H locs) (hl : lv_has ls 3 [(0, .ref (ea E 0)), (1, .int p1), (2, .int p2)]) (hf : Ch_element S p1 p2 = some r) : W p l e (rmh 3) s m args below meth c H locs 0 0 (MQ below (QW E (wX V E) (some (.long r)) S) args s 0 0 (eA E)) (F0 m 0 ls []) := by
  have hx := C.1
  have hb := C.2.1
  unfold Ch_element at hf
  refine lv_aload_n hx hb dX10_element_0 rfl (lv_at hl 0 rfl) ?_
  refine get_0_9 C hw q_384 dX10_element_1 ?_
  refine lv_iload_n hx hb dX10_element_4 rfl (lv_at hl 1 rfl) ?_
  obtain ⟨r1, hr, hf⟩ := hf_1 hf
  refine inv_Vi (q0 := 10) (ci := 7) (As := [.int p1]) lk_X10_107 C hw rfl rfl rfl (t_Sh_isShelf hr) rfl hl.1 dX10_element_5 rfl (Nat.le_of_ble_eq_true rfl) (by decide) (Nat.le_of_ble_eq_true rfl) rfl (fun H locs hw => ?_)
  refine lv_if_eq (tgt := 23) hx hb dX10_element_8 (by decide) (fun q => ?_) (fun q => ?_)
  · have hf := hf_t q hf
    refine lv_ldc2 (v := -9223372036854775808) hx hb C.2.2.2.1 (C.2.2.2.2.1 _ q_1111) dX10_element_23 ?_
    exact ret_l C hw dX10_element_26 hf
  · have hf := hf_f q hf
    refine lv_aload_n hx hb dX10_element_11 rfl (lv_at hl 0 rfl) ?_
    refine get_0_9 C hw q_384 dX10_element_12 ?_
    refine lv_iload_n hx hb dX10_element_15 rfl (lv_at hl 1 rfl) ?_
    refine lv_iload_n hx hb dX10_element_16 rfl (lv_at hl 2 rfl) ?_
    obtain ⟨r2, hr, hf⟩ := hf_1 hf
    refine inv_Vi (q0 := 10) (ci := 7) (As := [.int p1, .int p2]) lk_X10_346 C hw rfl rfl rfl (t_Sh_refusalOfPlace hr) rfl hl.1 dX10_element_17 rfl (Nat.le_of_ble_eq_true rfl) (by decide) (Nat.le_of_ble_eq_true rfl) rfl (fun H locs hw => ?_)
    refine lv_if_eq (tgt := 27) hx hb dX10_element_20 (by decide) (fun q => ?_) (fun q => ?_)
    · have hf := hf_t q hf
      refine lv_aload_n hx hb dX10_element_27 rfl (lv_at hl 0 rfl) ?_
      refine get_0_9 C hw q_384 dX10_element_28 ?_
      refine lv_iload_n hx hb dX10_element_31 rfl (lv_at hl 1 rfl) ?_
      refine lv_iload_n hx hb dX10_element_32 rfl (lv_at hl 2 rfl) ?_
      obtain ⟨r3, hr, hf⟩ := hf_1 hf
      refine inv_Vl (q0 := 10) (ci := 7) (As := [.int p1, .int p2]) lk_X10_121 C hw rfl rfl rfl (t_Sh_elementAt hr) rfl hl.1 dX10_element_33 rfl (Nat.le_of_ble_eq_true rfl) (by decide) (Nat.le_of_ble_eq_true rfl) rfl (fun H locs hw => ?_)
      exact ret_l C hw dX10_element_36 hf
    · have hf := hf_f q hf
      refine lv_ldc2 (v := -9223372036854775808) hx hb C.2.2.2.1 (C.2.2.2.2.1 _ q_1111) dX10_element_23 ?_
      exact ret_l C hw dX10_element_26 hf
end
theorem t_Ch_element {l : Launch} {V : St} {S : St} {p1 : Int32} {p2 : Int32} {r : Int64} (hf : Ch_element S p1 p2 = some r) : Ct l (wX V) yX10_element cX10_element 3 (some .long) 3 (fun E => [.ref (ea E 0), .int p1, .int p2]) S (fun E => some (.long r)) S :=
  ofBlock (by decide +kernel) (fun _ => Nat.le_of_ble_eq_true rfl) (fun E p e s m args below meth c ls C hw hl => w_Ch_element C hw hl hf)
theorem dX10_shift_0 : decode cX10_shift 0 = .ok (.aload_n 0, 1) := by decide +kernel
theorem dX10_shift_1 : decode cX10_shift 1 = .ok (.getfield 26, 3) := by decide +kernel
theorem dX10_shift_4 : decode cX10_shift 4 = .ok (.iload_n 1, 1) := by decide +kernel
theorem dX10_shift_5 : decode cX10_shift 5 = .ok (.invokevirtual 107, 3) := by decide +kernel
theorem dX10_shift_8 : decode cX10_shift 8 = .ok (.ifCond .eq 14, 3) := by decide +kernel
theorem dX10_shift_11 : decode cX10_shift 11 = .ok (.aload_n 0, 1) := by decide +kernel
theorem dX10_shift_12 : decode cX10_shift 12 = .ok (.getfield 26, 3) := by decide +kernel
theorem dX10_shift_15 : decode cX10_shift 15 = .ok (.iload_n 3, 1) := by decide +kernel
theorem dX10_shift_16 : decode cX10_shift 16 = .ok (.invokevirtual 107, 3) := by decide +kernel
theorem dX10_shift_19 : decode cX10_shift 19 = .ok (.ifCond .ne 5, 3) := by decide +kernel
theorem dX10_shift_22 : decode cX10_shift 22 = .ok (.iconst (-1), 1) := by decide +kernel
theorem dX10_shift_23 : decode cX10_shift 23 = .ok (.ireturn, 1) := by decide +kernel
theorem dX10_shift_24 : decode cX10_shift 24 = .ok (.aload_n 0, 1) := by decide +kernel
theorem dX10_shift_25 : decode cX10_shift 25 = .ok (.getfield 26, 3) := by decide +kernel
theorem dX10_shift_28 : decode cX10_shift 28 = .ok (.iload_n 1, 1) := by decide +kernel
theorem dX10_shift_29 : decode cX10_shift 29 = .ok (.iload_n 3, 1) := by decide +kernel
theorem dX10_shift_30 : decode cX10_shift 30 = .ok (.invokevirtual 357, 3) := by decide +kernel
theorem dX10_shift_33 : decode cX10_shift 33 = .ok (.istore 6, 2) := by decide +kernel
theorem dX10_shift_35 : decode cX10_shift 35 = .ok (.iload 6, 2) := by decide +kernel
theorem dX10_shift_37 : decode cX10_shift 37 = .ok (.ifCond .eq 6, 3) := by decide +kernel
theorem dX10_shift_40 : decode cX10_shift 40 = .ok (.iload 6, 2) := by decide +kernel
theorem dX10_shift_42 : decode cX10_shift 42 = .ok (.ireturn, 1) := by decide +kernel
theorem dX10_shift_43 : decode cX10_shift 43 = .ok (.aload_n 0, 1) := by decide +kernel
theorem dX10_shift_44 : decode cX10_shift 44 = .ok (.getfield 26, 3) := by decide +kernel
theorem dX10_shift_47 : decode cX10_shift 47 = .ok (.iload_n 1, 1) := by decide +kernel
theorem dX10_shift_48 : decode cX10_shift 48 = .ok (.iload_n 2, 1) := by decide +kernel
theorem dX10_shift_49 : decode cX10_shift 49 = .ok (.iload 5, 2) := by decide +kernel
theorem dX10_shift_51 : decode cX10_shift 51 = .ok (.invokevirtual 118, 3) := by decide +kernel
theorem dX10_shift_54 : decode cX10_shift 54 = .ok (.ifCond .eq 18, 3) := by decide +kernel
theorem dX10_shift_57 : decode cX10_shift 57 = .ok (.aload_n 0, 1) := by decide +kernel
theorem dX10_shift_58 : decode cX10_shift 58 = .ok (.getfield 26, 3) := by decide +kernel
theorem dX10_shift_61 : decode cX10_shift 61 = .ok (.iload_n 3, 1) := by decide +kernel
theorem dX10_shift_62 : decode cX10_shift 62 = .ok (.iload 4, 2) := by decide +kernel
theorem dX10_shift_64 : decode cX10_shift 64 = .ok (.iload 5, 2) := by decide +kernel
theorem dX10_shift_66 : decode cX10_shift 66 = .ok (.invokevirtual 118, 3) := by decide +kernel
theorem dX10_shift_69 : decode cX10_shift 69 = .ok (.ifCond .ne 6, 3) := by decide +kernel
theorem dX10_shift_72 : decode cX10_shift 72 = .ok (.bipush (-13), 2) := by decide +kernel
theorem dX10_shift_74 : decode cX10_shift 74 = .ok (.ireturn, 1) := by decide +kernel
theorem dX10_shift_75 : decode cX10_shift 75 = .ok (.aload_n 0, 1) := by decide +kernel
theorem dX10_shift_76 : decode cX10_shift 76 = .ok (.getfield 26, 3) := by decide +kernel
theorem dX10_shift_79 : decode cX10_shift 79 = .ok (.iload_n 1, 1) := by decide +kernel
theorem dX10_shift_80 : decode cX10_shift 80 = .ok (.iload_n 2, 1) := by decide +kernel
theorem dX10_shift_81 : decode cX10_shift 81 = .ok (.iload_n 3, 1) := by decide +kernel
theorem dX10_shift_82 : decode cX10_shift 82 = .ok (.iload 4, 2) := by decide +kernel
theorem dX10_shift_84 : decode cX10_shift 84 = .ok (.iload 5, 2) := by decide +kernel
theorem dX10_shift_86 : decode cX10_shift 86 = .ok (.invokevirtual 360, 3) := by decide +kernel
theorem dX10_shift_89 : decode cX10_shift 89 = .ok (.ireturn, 1) := by decide +kernel
section
variable {p : Program} {l : Launch} {e : Env} {s : State} {m : MethodId} {args : Array Value} {below : List Frame} {meth : Method} {c : Code} {H : Heap} {locs : List Loc} {E : Ev} {S V : St} {ls : Array Slot}
set_option maxRecDepth 20000 in
theorem w_Ch_shift {p1 : Int32} {p2 : Int32} {p3 : Int32} {p4 : Int32} {p5 : Int32} {r : Int32} {S9 : St} (C : Cx p s m args meth c E cX10_shift 7 RX10 (some .int)) (hw : Wd E (wX V E) s.heap S H locs) (hl : lv_has ls 7 [(0, .ref (ea E 0)), (1, .int p1), (2, .int p2), (3, .int p3), (4, .int p4), (5, .int p5)]) (hf : Ch_shift S p1 p2 p3 p4 p5 = some (r, S9)) : W p l e (rmh 3) s m args below meth c H locs 0 0 (MQ below (QW E (wX V E) (some (.int r)) S9) args s 0 0 (eA E)) (F0 m 0 ls []) := by
  have hx := C.1
  have hb := C.2.1
  unfold Ch_shift at hf
  refine lv_aload_n hx hb dX10_shift_0 rfl (lv_at hl 0 rfl) ?_
  refine get_0_9 C hw q_384 dX10_shift_1 ?_
  refine lv_iload_n hx hb dX10_shift_4 rfl (lv_at hl 1 rfl) ?_
  obtain ⟨r1, hr, hf⟩ := hf_1 hf
  refine inv_Vi (q0 := 10) (ci := 7) (As := [.int p1]) lk_X10_107 C hw rfl rfl rfl (t_Sh_isShelf hr) rfl hl.1 dX10_shift_5 rfl (Nat.le_of_ble_eq_true rfl) (by decide) (Nat.le_of_ble_eq_true rfl) rfl (fun H locs hw => ?_)
  refine lv_if_eq (tgt := 22) hx hb dX10_shift_8 (by decide) (fun q => ?_) (fun q => ?_)
  · have hf := hf_t q hf
    refine lv_iconst (v := -1) hx hb dX10_shift_22 kc_m1 ?_
    exact ret_iS C hw dX10_shift_23 hf
  · have hf := hf_f q hf
    refine lv_aload_n hx hb dX10_shift_11 rfl (lv_at hl 0 rfl) ?_
    refine get_0_9 C hw q_384 dX10_shift_12 ?_
    refine lv_iload_n hx hb dX10_shift_15 rfl (lv_at hl 3 rfl) ?_
    obtain ⟨r2, hr, hf⟩ := hf_1 hf
    refine inv_Vi (q0 := 10) (ci := 7) (As := [.int p3]) lk_X10_107 C hw rfl rfl rfl (t_Sh_isShelf hr) rfl hl.1 dX10_shift_16 rfl (Nat.le_of_ble_eq_true rfl) (by decide) (Nat.le_of_ble_eq_true rfl) rfl (fun H locs hw => ?_)
    refine lv_if_ne (tgt := 24) hx hb dX10_shift_19 (by decide) (fun q => ?_) (fun q => ?_)
    · have hf := hf_f q hf
      refine lv_aload_n hx hb dX10_shift_24 rfl (lv_at hl 0 rfl) ?_
      refine get_0_9 C hw q_384 dX10_shift_25 ?_
      refine lv_iload_n hx hb dX10_shift_28 rfl (lv_at hl 1 rfl) ?_
      refine lv_iload_n hx hb dX10_shift_29 rfl (lv_at hl 3 rfl) ?_
      obtain ⟨r3, hr, hf⟩ := hf_1 hf
      refine inv_Vi (q0 := 10) (ci := 7) (As := [.int p1, .int p3]) lk_X10_357 C hw rfl rfl rfl (t_Sh_refusalOfPair hr) rfl hl.1 dX10_shift_30 rfl (Nat.le_of_ble_eq_true rfl) (by decide) (Nat.le_of_ble_eq_true rfl) rfl (fun H locs hw => ?_)
      refine lv_istore (lv' := [(6, .int r3), (0, .ref (ea E 0)), (1, .int p1), (2, .int p2), (3, .int p3), (4, .int p4), (5, .int p5)]) hx hb dX10_shift_33 hl (by decide) rfl (fun ls hl => ?_)
      refine lv_iload hx hb dX10_shift_35 (lv_at hl 0 rfl) ?_
      refine lv_if_eq (tgt := 43) hx hb dX10_shift_37 (by decide) (fun q => ?_) (fun q => ?_)
      · have hf := hf_t q hf
        refine lv_aload_n hx hb dX10_shift_43 rfl (lv_at hl 1 rfl) ?_
        refine get_0_9 C hw q_384 dX10_shift_44 ?_
        refine lv_iload_n hx hb dX10_shift_47 rfl (lv_at hl 2 rfl) ?_
        refine lv_iload_n hx hb dX10_shift_48 rfl (lv_at hl 3 rfl) ?_
        refine lv_iload hx hb dX10_shift_49 (lv_at hl 6 rfl) ?_
        obtain ⟨r4, hr, hf⟩ := hf_1 hf
        refine inv_Vi (q0 := 10) (ci := 7) (As := [.int p1, .int p2, .int p5]) lk_X10_118 C hw rfl rfl rfl (t_Sh_hasPlaces hr) rfl hl.1 dX10_shift_51 rfl (Nat.le_of_ble_eq_true rfl) (by decide) (Nat.le_of_ble_eq_true rfl) rfl (fun H locs hw => ?_)
        refine lv_if_eq (tgt := 72) hx hb dX10_shift_54 (by decide) (fun q => ?_) (fun q => ?_)
        · have hf := hf_t q hf
          refine lv_bipush (v := -13) hx hb dX10_shift_72 kb_m13 ?_
          exact ret_iS C hw dX10_shift_74 hf
        · have hf := hf_f q hf
          refine lv_aload_n hx hb dX10_shift_57 rfl (lv_at hl 1 rfl) ?_
          refine get_0_9 C hw q_384 dX10_shift_58 ?_
          refine lv_iload_n hx hb dX10_shift_61 rfl (lv_at hl 4 rfl) ?_
          refine lv_iload hx hb dX10_shift_62 (lv_at hl 5 rfl) ?_
          refine lv_iload hx hb dX10_shift_64 (lv_at hl 6 rfl) ?_
          obtain ⟨r5, hr, hf⟩ := hf_1 hf
          refine inv_Vi (q0 := 10) (ci := 7) (As := [.int p3, .int p4, .int p5]) lk_X10_118 C hw rfl rfl rfl (t_Sh_hasPlaces hr) rfl hl.1 dX10_shift_66 rfl (Nat.le_of_ble_eq_true rfl) (by decide) (Nat.le_of_ble_eq_true rfl) rfl (fun H locs hw => ?_)
          refine lv_if_ne (tgt := 75) hx hb dX10_shift_69 (by decide) (fun q => ?_) (fun q => ?_)
          · have hf := hf_f q hf
            refine lv_aload_n hx hb dX10_shift_75 rfl (lv_at hl 1 rfl) ?_
            refine get_0_9 C hw q_384 dX10_shift_76 ?_
            refine lv_iload_n hx hb dX10_shift_79 rfl (lv_at hl 2 rfl) ?_
            refine lv_iload_n hx hb dX10_shift_80 rfl (lv_at hl 3 rfl) ?_
            refine lv_iload_n hx hb dX10_shift_81 rfl (lv_at hl 4 rfl) ?_
            refine lv_iload hx hb dX10_shift_82 (lv_at hl 5 rfl) ?_
            refine lv_iload hx hb dX10_shift_84 (lv_at hl 6 rfl) ?_
            obtain ⟨r7, S6, hr, hf⟩ := hf_2 hf
            refine inv_Vi (q0 := 10) (ci := 7) (As := [.int p1, .int p2, .int p3, .int p4, .int p5]) lk_X10_360 C hw rfl rfl rfl (t_Sh_move hr) rfl hl.1 dX10_shift_86 rfl (Nat.le_of_ble_eq_true rfl) (by decide) (Nat.le_of_ble_eq_true rfl) rfl (fun H locs hw => ?_)
            exact ret_iS C hw dX10_shift_89 hf
          · have hf := hf_t q hf
            refine lv_bipush (v := -13) hx hb dX10_shift_72 kb_m13 ?_
            exact ret_iS C hw dX10_shift_74 hf
      · have hf := hf_f q hf
        refine lv_iload hx hb dX10_shift_40 (lv_at hl 0 rfl) ?_
        exact ret_iS C hw dX10_shift_42 hf
    · have hf := hf_t q hf
      refine lv_iconst (v := -1) hx hb dX10_shift_22 kc_m1 ?_
      exact ret_iS C hw dX10_shift_23 hf
end
theorem t_Ch_shift {l : Launch} {V : St} {S : St} {p1 : Int32} {p2 : Int32} {p3 : Int32} {p4 : Int32} {p5 : Int32} {r : Int32} {S9 : St} (hf : Ch_shift S p1 p2 p3 p4 p5 = some (r, S9)) : Ct l (wX V) yX10_shift cX10_shift 7 (some .int) 3 (fun E => [.ref (ea E 0), .int p1, .int p2, .int p3, .int p4, .int p5]) S (fun E => some (.int r)) S9 :=
  ofBlock (by decide +kernel) (fun _ => Nat.le_of_ble_eq_true rfl) (fun E p e s m args below meth c ls C hw hl => w_Ch_shift C hw hl hf)
theorem dX10_taken_0 : decode cX10_taken 0 = .ok (.aload_n 0, 1) := by decide +kernel
theorem dX10_taken_1 : decode cX10_taken 1 = .ok (.getfield 26, 3) := by decide +kernel
theorem dX10_taken_4 : decode cX10_taken 4 = .ok (.iload_n 1, 1) := by decide +kernel
theorem dX10_taken_5 : decode cX10_taken 5 = .ok (.invokevirtual 107, 3) := by decide +kernel
theorem dX10_taken_8 : decode cX10_taken 8 = .ok (.ifCond .eq 13, 3) := by decide +kernel
theorem dX10_taken_11 : decode cX10_taken 11 = .ok (.iload_n 2, 1) := by decide +kernel
theorem dX10_taken_12 : decode cX10_taken 12 = .ok (.iconst 0, 1) := by decide +kernel
theorem dX10_taken_13 : decode cX10_taken 13 = .ok (.bipush 7, 2) := by decide +kernel
theorem dX10_taken_15 : decode cX10_taken 15 = .ok (.invokestatic 83, 3) := by decide +kernel
theorem dX10_taken_18 : decode cX10_taken 18 = .ok (.ifCond .ne 5, 3) := by decide +kernel
theorem dX10_taken_21 : decode cX10_taken 21 = .ok (.iconst (-1), 1) := by decide +kernel
theorem dX10_taken_22 : decode cX10_taken 22 = .ok (.ireturn, 1) := by decide +kernel
theorem dX10_taken_23 : decode cX10_taken 23 = .ok (.aload_n 0, 1) := by decide +kernel
theorem dX10_taken_24 : decode cX10_taken 24 = .ok (.getfield 26, 3) := by decide +kernel
theorem dX10_taken_27 : decode cX10_taken 27 = .ok (.iload_n 1, 1) := by decide +kernel
theorem dX10_taken_28 : decode cX10_taken 28 = .ok (.invokevirtual 364, 3) := by decide +kernel
theorem dX10_taken_31 : decode cX10_taken 31 = .ok (.istore_n 3, 1) := by decide +kernel
theorem dX10_taken_32 : decode cX10_taken 32 = .ok (.iload_n 3, 1) := by decide +kernel
theorem dX10_taken_33 : decode cX10_taken 33 = .ok (.ifCond .eq 5, 3) := by decide +kernel
theorem dX10_taken_36 : decode cX10_taken 36 = .ok (.iload_n 3, 1) := by decide +kernel
theorem dX10_taken_37 : decode cX10_taken 37 = .ok (.ireturn, 1) := by decide +kernel
theorem dX10_taken_38 : decode cX10_taken 38 = .ok (.aload_n 0, 1) := by decide +kernel
theorem dX10_taken_39 : decode cX10_taken 39 = .ok (.getfield 33, 3) := by decide +kernel
theorem dX10_taken_42 : decode cX10_taken 42 = .ok (.aload_n 0, 1) := by decide +kernel
theorem dX10_taken_43 : decode cX10_taken 43 = .ok (.getfield 26, 3) := by decide +kernel
theorem dX10_taken_46 : decode cX10_taken 46 = .ok (.getfield 367, 3) := by decide +kernel
theorem dX10_taken_49 : decode cX10_taken 49 = .ok (.iload_n 1, 1) := by decide +kernel
theorem dX10_taken_50 : decode cX10_taken 50 = .ok (.iaload, 1) := by decide +kernel
theorem dX10_taken_51 : decode cX10_taken 51 = .ok (.invokevirtual 370, 3) := by decide +kernel
theorem dX10_taken_54 : decode cX10_taken 54 = .ok (.istore 4, 2) := by decide +kernel
theorem dX10_taken_56 : decode cX10_taken 56 = .ok (.iload 4, 2) := by decide +kernel
theorem dX10_taken_58 : decode cX10_taken 58 = .ok (.iload_n 2, 1) := by decide +kernel
theorem dX10_taken_59 : decode cX10_taken 59 = .ok (.invokestatic 373, 3) := by decide +kernel
theorem dX10_taken_62 : decode cX10_taken 62 = .ok (.ifCond .eq 8, 3) := by decide +kernel
theorem dX10_taken_65 : decode cX10_taken 65 = .ok (.iload 4, 2) := by decide +kernel
theorem dX10_taken_67 : decode cX10_taken 67 = .ok (.goto 5, 3) := by decide +kernel
theorem dX10_taken_70 : decode cX10_taken 70 = .ok (.bipush (-12), 2) := by decide +kernel
theorem dX10_taken_72 : decode cX10_taken 72 = .ok (.ireturn, 1) := by decide +kernel
section
variable {p : Program} {l : Launch} {e : Env} {s : State} {m : MethodId} {args : Array Value} {below : List Frame} {meth : Method} {c : Code} {H : Heap} {locs : List Loc} {E : Ev} {S V : St} {ls : Array Slot}
set_option maxRecDepth 20000 in
theorem w_Ch_taken {N : Nat} {p1 : Int32} {p2 : Int32} {r : Int32} (C : Cx p s m args meth c E cX10_taken 5 RX10 (some .int)) (hw : Wd E (wX V E) s.heap S H locs) (hl : lv_has ls 5 [(0, .ref (ea E 0)), (1, .int p1), (2, .int p2)]) (hf : Ch_taken N S p1 p2 = some r) : W p l e (rmh 3) s m args below meth c H locs 0 0 (MQ below (QW E (wX V E) (some (.int r)) S) args s 0 0 (eA E)) (F0 m 0 ls []) := by
  have hx := C.1
  have hb := C.2.1
  unfold Ch_taken at hf
  refine lv_aload_n hx hb dX10_taken_0 rfl (lv_at hl 0 rfl) ?_
  refine get_0_9 C hw q_384 dX10_taken_1 ?_
  refine lv_iload_n hx hb dX10_taken_4 rfl (lv_at hl 1 rfl) ?_
  obtain ⟨r1, hr, hf⟩ := hf_1 hf
  refine inv_Vi (q0 := 10) (ci := 7) (As := [.int p1]) lk_X10_107 C hw rfl rfl rfl (t_Sh_isShelf hr) rfl hl.1 dX10_taken_5 rfl (Nat.le_of_ble_eq_true rfl) (by decide) (Nat.le_of_ble_eq_true rfl) rfl (fun H locs hw => ?_)
  refine lv_if_eq (tgt := 21) hx hb dX10_taken_8 (by decide) (fun q => ?_) (fun q => ?_)
  · have hf := hf_t q hf
    refine lv_iconst (v := -1) hx hb dX10_taken_21 kc_m1 ?_
    exact ret_i C hw dX10_taken_22 hf
  · have hf := hf_f q hf
    refine lv_iload_n hx hb dX10_taken_11 rfl (lv_at hl 2 rfl) ?_
    refine lv_iconst (v := 0) hx hb dX10_taken_12 kc_0 ?_
    refine lv_bipush (v := 7) hx hb dX10_taken_13 kb_7 ?_
    obtain ⟨r2, hr, hf⟩ := hf_1 hf
    refine inv_Si (As := [.int p2, .int (0 : Int32), .int (7 : Int32)]) lk_X10_83 C hw (t_Ch_within hr) hl.1 dX10_taken_15 rfl (Nat.le_of_ble_eq_true rfl) (by decide) (Nat.le_of_ble_eq_true rfl) rfl (fun H locs hw => ?_)
    refine lv_if_ne (tgt := 23) hx hb dX10_taken_18 (by decide) (fun q => ?_) (fun q => ?_)
    · have hf := hf_f q hf
      refine lv_aload_n hx hb dX10_taken_23 rfl (lv_at hl 0 rfl) ?_
      refine get_0_9 C hw q_384 dX10_taken_24 ?_
      refine lv_iload_n hx hb dX10_taken_27 rfl (lv_at hl 1 rfl) ?_
      obtain ⟨r3, hr, hf⟩ := hf_1 hf
      refine inv_Vi (q0 := 10) (ci := 7) (As := [.int p1]) lk_X10_364 C hw rfl rfl rfl (t_Sh_refusalOfLink hr) rfl hl.1 dX10_taken_28 rfl (Nat.le_of_ble_eq_true rfl) (by decide) (Nat.le_of_ble_eq_true rfl) rfl (fun H locs hw => ?_)
      refine lv_istore_n (lv' := [(3, .int r3), (0, .ref (ea E 0)), (1, .int p1), (2, .int p2)]) hx hb dX10_taken_31 rfl hl (by decide) rfl (fun ls hl => ?_)
      refine lv_iload_n hx hb dX10_taken_32 rfl (lv_at hl 0 rfl) ?_
      refine lv_if_eq (tgt := 38) hx hb dX10_taken_33 (by decide) (fun q => ?_) (fun q => ?_)
      · have hf := hf_t q hf
        refine lv_aload_n hx hb dX10_taken_38 rfl (lv_at hl 1 rfl) ?_
        refine get_0_8 C hw q_383 dX10_taken_39 ?_
        refine lv_aload_n hx hb dX10_taken_42 rfl (lv_at hl 1 rfl) ?_
        refine get_0_9 C hw q_384 dX10_taken_43 ?_
        refine get_10_1 C hw q_218 dX10_taken_46 ?_
        refine lv_iload_n hx hb dX10_taken_49 rfl (lv_at hl 2 rfl) ?_
        obtain ⟨hc, hf⟩ := hf_ck hf
        refine ld_41 C hw hc dX10_taken_50 ?_
        obtain ⟨r4, hr, hf⟩ := hf_1 hf
        refine inv_Vi (q0 := 9) (ci := 6) (As := [.int (gi S 41 p1.toNatClampNeg)]) lk_X10_370 C hw rfl rfl rfl (t_Li_kindOf hr) rfl hl.1 dX10_taken_51 rfl (Nat.le_of_ble_eq_true rfl) (by decide) (Nat.le_of_ble_eq_true rfl) rfl (fun H locs hw => ?_)
        refine lv_istore (lv' := [(4, .int r4), (3, .int r3), (0, .ref (ea E 0)), (1, .int p1), (2, .int p2)]) hx hb dX10_taken_54 hl (by decide) rfl (fun ls hl => ?_)
        refine lv_iload hx hb dX10_taken_56 (lv_at hl 0 rfl) ?_
        refine lv_iload_n hx hb dX10_taken_58 rfl (lv_at hl 4 rfl) ?_
        obtain ⟨r5, hr, hf⟩ := hf_1 hf
        refine inv_Si (As := [.int r4, .int p2]) lk_X10_373 C hw (t_Li_isUnder hr) hl.1 dX10_taken_59 rfl (Nat.le_of_ble_eq_true rfl) (by decide) (Nat.le_of_ble_eq_true rfl) rfl (fun H locs hw => ?_)
        refine lv_if_eq (tgt := 70) hx hb dX10_taken_62 (by decide) (fun q => ?_) (fun q => ?_)
        · have hf := hf_t q hf
          refine lv_bipush (v := -12) hx hb dX10_taken_70 kb_m12 ?_
          exact ret_i C hw dX10_taken_72 hf
        · have hf := hf_f q hf
          refine lv_iload hx hb dX10_taken_65 (lv_at hl 0 rfl) ?_
          refine lv_goto (tgt := 72) hx hb dX10_taken_67 (by decide) ?_
          exact ret_i C hw dX10_taken_72 hf
      · have hf := hf_f q hf
        refine lv_iload_n hx hb dX10_taken_36 rfl (lv_at hl 0 rfl) ?_
        exact ret_i C hw dX10_taken_37 hf
    · have hf := hf_t q hf
      refine lv_iconst (v := -1) hx hb dX10_taken_21 kc_m1 ?_
      exact ret_i C hw dX10_taken_22 hf
end
theorem t_Ch_taken {l : Launch} {V : St} {N : Nat} {S : St} {p1 : Int32} {p2 : Int32} {r : Int32} (hf : Ch_taken N S p1 p2 = some r) : Ct l (wX V) yX10_taken cX10_taken 5 (some .int) 3 (fun E => [.ref (ea E 0), .int p1, .int p2]) S (fun E => some (.int r)) S :=
  ofBlock (by decide +kernel) (fun _ => Nat.le_of_ble_eq_true rfl) (fun E p e s m args below meth c ls C hw hl => w_Ch_taken C hw hl hf)
theorem dX10_count_0 : decode cX10_count 0 = .ok (.iload_n 1, 1) := by decide +kernel
theorem dX10_count_1 : decode cX10_count 1 = .ok (.tableswitch 87 0 5 #[39, 47, 55, 63, 71, 79], 39) := by decide +kernel
theorem dX10_count_40 : decode cX10_count 40 = .ok (.aload_n 0, 1) := by decide +kernel
theorem dX10_count_41 : decode cX10_count 41 = .ok (.getfield 10, 3) := by decide +kernel
theorem dX10_count_44 : decode cX10_count 44 = .ok (.getfield 87, 3) := by decide +kernel
theorem dX10_count_47 : decode cX10_count 47 = .ok (.ireturn, 1) := by decide +kernel
theorem dX10_count_48 : decode cX10_count 48 = .ok (.aload_n 0, 1) := by decide +kernel
theorem dX10_count_49 : decode cX10_count 49 = .ok (.getfield 10, 3) := by decide +kernel
theorem dX10_count_52 : decode cX10_count 52 = .ok (.getfield 376, 3) := by decide +kernel
theorem dX10_count_55 : decode cX10_count 55 = .ok (.ireturn, 1) := by decide +kernel
theorem dX10_count_56 : decode cX10_count 56 = .ok (.aload_n 0, 1) := by decide +kernel
theorem dX10_count_57 : decode cX10_count 57 = .ok (.getfield 19, 3) := by decide +kernel
theorem dX10_count_60 : decode cX10_count 60 = .ok (.getfield 144, 3) := by decide +kernel
theorem dX10_count_63 : decode cX10_count 63 = .ok (.ireturn, 1) := by decide +kernel
theorem dX10_count_64 : decode cX10_count 64 = .ok (.aload_n 0, 1) := by decide +kernel
theorem dX10_count_65 : decode cX10_count 65 = .ok (.getfield 40, 3) := by decide +kernel
theorem dX10_count_68 : decode cX10_count 68 = .ok (.getfield 303, 3) := by decide +kernel
theorem dX10_count_71 : decode cX10_count 71 = .ok (.ireturn, 1) := by decide +kernel
theorem dX10_count_72 : decode cX10_count 72 = .ok (.aload_n 0, 1) := by decide +kernel
theorem dX10_count_73 : decode cX10_count 73 = .ok (.getfield 33, 3) := by decide +kernel
theorem dX10_count_76 : decode cX10_count 76 = .ok (.getfield 315, 3) := by decide +kernel
theorem dX10_count_79 : decode cX10_count 79 = .ok (.ireturn, 1) := by decide +kernel
theorem dX10_count_80 : decode cX10_count 80 = .ok (.aload_n 0, 1) := by decide +kernel
theorem dX10_count_81 : decode cX10_count 81 = .ok (.getfield 33, 3) := by decide +kernel
theorem dX10_count_84 : decode cX10_count 84 = .ok (.getfield 323, 3) := by decide +kernel
theorem dX10_count_87 : decode cX10_count 87 = .ok (.ireturn, 1) := by decide +kernel
theorem dX10_count_88 : decode cX10_count 88 = .ok (.iconst (-1), 1) := by decide +kernel
theorem dX10_count_89 : decode cX10_count 89 = .ok (.ireturn, 1) := by decide +kernel
section
variable {p : Program} {l : Launch} {e : Env} {s : State} {m : MethodId} {args : Array Value} {below : List Frame} {meth : Method} {c : Code} {H : Heap} {locs : List Loc} {E : Ev} {S V : St} {ls : Array Slot}
set_option maxRecDepth 20000 in
theorem w_Ch_count {p1 : Int32} {r : Int32} (C : Cx p s m args meth c E cX10_count 2 RX10 (some .int)) (hw : Wd E (wX V E) s.heap S H locs) (hl : lv_has ls 2 [(0, .ref (ea E 0)), (1, .int p1)]) (hf : Ch_count S p1 = some r) : W p l e (rmh 1) s m args below meth c H locs 0 0 (MQ below (QW E (wX V E) (some (.int r)) S) args s 0 0 (eA E)) (F0 m 0 ls []) := by
  have hx := C.1
  have hb := C.2.1
  unfold Ch_count at hf
  refine lv_iload_n hx hb dX10_count_0 rfl (lv_at hl 1 rfl) ?_
  by_cases q0 : p1 = 0
  · have hf := hf_t q0 hf
    refine lv_tableIn (off := 39) (tgt := 40) hx hb dX10_count_1 (by rw [q0]; decide) (by rw [q0]; decide) (by rw [q0]; rfl) (by decide) ?_
    refine lv_aload_n hx hb dX10_count_40 rfl (lv_at hl 0 rfl) ?_
    refine get_0_0 C hw q_375 dX10_count_41 ?_
    refine get_1_9 C hw q_134 dX10_count_44 ?_
    exact ret_i C hw dX10_count_47 hf
  have hf := hf_f q0 hf
  by_cases q1 : p1 = 1
  · have hf := hf_t q1 hf
    refine lv_tableIn (off := 47) (tgt := 48) hx hb dX10_count_1 (by rw [q1]; decide) (by rw [q1]; decide) (by rw [q1]; rfl) (by decide) ?_
    refine lv_aload_n hx hb dX10_count_48 rfl (lv_at hl 0 rfl) ?_
    refine get_0_0 C hw q_375 dX10_count_49 ?_
    refine get_1_10 C hw q_143 dX10_count_52 ?_
    exact ret_i C hw dX10_count_55 hf
  have hf := hf_f q1 hf
  by_cases q2 : p1 = 2
  · have hf := hf_t q2 hf
    refine lv_tableIn (off := 55) (tgt := 56) hx hb dX10_count_1 (by rw [q2]; decide) (by rw [q2]; decide) (by rw [q2]; rfl) (by decide) ?_
    refine lv_aload_n hx hb dX10_count_56 rfl (lv_at hl 0 rfl) ?_
    refine get_0_1 C hw q_376 dX10_count_57 ?_
    refine get_2_0 C hw q_175 dX10_count_60 ?_
    exact ret_i C hw dX10_count_63 hf
  have hf := hf_f q2 hf
  by_cases q3 : p1 = 3
  · have hf := hf_t q3 hf
    refine lv_tableIn (off := 63) (tgt := 64) hx hb dX10_count_1 (by rw [q3]; decide) (by rw [q3]; decide) (by rw [q3]; rfl) (by decide) ?_
    refine lv_aload_n hx hb dX10_count_64 rfl (lv_at hl 0 rfl) ?_
    refine get_0_7 C hw q_382 dX10_count_65 ?_
    refine get_8_0 C hw q_263 dX10_count_68 ?_
    exact ret_i C hw dX10_count_71 hf
  have hf := hf_f q3 hf
  by_cases q4 : p1 = 4
  · have hf := hf_t q4 hf
    refine lv_tableIn (off := 71) (tgt := 72) hx hb dX10_count_1 (by rw [q4]; decide) (by rw [q4]; decide) (by rw [q4]; rfl) (by decide) ?_
    refine lv_aload_n hx hb dX10_count_72 rfl (lv_at hl 0 rfl) ?_
    refine get_0_8 C hw q_383 dX10_count_73 ?_
    refine get_9_0 C hw q_238 dX10_count_76 ?_
    exact ret_i C hw dX10_count_79 hf
  have hf := hf_f q4 hf
  by_cases q5 : p1 = 5
  · have hf := hf_t q5 hf
    refine lv_tableIn (off := 79) (tgt := 80) hx hb dX10_count_1 (by rw [q5]; decide) (by rw [q5]; decide) (by rw [q5]; rfl) (by decide) ?_
    refine lv_aload_n hx hb dX10_count_80 rfl (lv_at hl 0 rfl) ?_
    refine get_0_8 C hw q_383 dX10_count_81 ?_
    refine get_9_1 C hw q_240 dX10_count_84 ?_
    exact ret_i C hw dX10_count_87 hf
  have hf := hf_f q5 hf
  refine lv_tableOut (tgt := 88) hx hb dX10_count_1 (by have h0 := lv_neT (a := 0) q0 rfl; have h1 := lv_neT (a := 1) q1 rfl; have h2 := lv_neT (a := 2) q2 rfl; have h3 := lv_neT (a := 3) q3 rfl; have h4 := lv_neT (a := 4) q4 rfl; have h5 := lv_neT (a := 5) q5 rfl; omega) (by decide) ?_
  refine lv_iconst (v := -1) hx hb dX10_count_88 kc_m1 ?_
  exact ret_i C hw dX10_count_89 hf
end
theorem t_Ch_count {l : Launch} {V : St} {S : St} {p1 : Int32} {r : Int32} (hf : Ch_count S p1 = some r) : Ct l (wX V) yX10_count cX10_count 2 (some .int) 1 (fun E => [.ref (ea E 0), .int p1]) S (fun E => some (.int r)) S :=
  ofBlock (by decide +kernel) (fun _ => Nat.le_of_ble_eq_true rfl) (fun E p e s m args below meth c ls C hw hl => w_Ch_count C hw hl hf)
theorem dX11_within_0 : decode cX11_within 0 = .ok (.lload_n 0, 1) := by decide +kernel
theorem dX11_within_1 : decode cX11_within 1 = .ok (.lload_n 2, 1) := by decide +kernel
theorem dX11_within_2 : decode cX11_within 2 = .ok (.lcmp, 1) := by decide +kernel
theorem dX11_within_3 : decode cX11_within 3 = .ok (.ifCond .lt 14, 3) := by decide +kernel
theorem dX11_within_6 : decode cX11_within 6 = .ok (.lload_n 0, 1) := by decide +kernel
theorem dX11_within_7 : decode cX11_within 7 = .ok (.lload 4, 2) := by decide +kernel
theorem dX11_within_9 : decode cX11_within 9 = .ok (.lcmp, 1) := by decide +kernel
theorem dX11_within_10 : decode cX11_within 10 = .ok (.ifCond .gt 7, 3) := by decide +kernel
theorem dX11_within_13 : decode cX11_within 13 = .ok (.iconst 1, 1) := by decide +kernel
theorem dX11_within_14 : decode cX11_within 14 = .ok (.goto 4, 3) := by decide +kernel
theorem dX11_within_17 : decode cX11_within 17 = .ok (.iconst 0, 1) := by decide +kernel
theorem dX11_within_18 : decode cX11_within 18 = .ok (.ireturn, 1) := by decide +kernel
section
variable {p : Program} {l : Launch} {e : Env} {s : State} {m : MethodId} {args : Array Value} {below : List Frame} {meth : Method} {c : Code} {H : Heap} {locs : List Loc} {E : Ev} {S V : St} {ls : Array Slot}
set_option maxRecDepth 20000 in
theorem w_Mo_within {p1 : Int64} {p2 : Int64} {p3 : Int64} {r : Int32} (C : Cx p s m args meth c E cX11_within 6 RX11 (some .boolean)) (hw : Wd E (wM V E) s.heap S H locs) (hl : lv_has ls 6 [(0, .long p1), (2, .long p2), (4, .long p3)]) (hf : Mo_within S p1 p2 p3 = some r) : W p l e (rmh 1) s m args below meth c H locs 0 0 (MQ below (QW E (wM V E) (some (.int r)) S) args s 0 0 (eA E)) (F0 m 0 ls []) := by
  have hx := C.1
  have hb := C.2.1
  unfold Mo_within at hf
  refine lv_lload_n hx hb dX11_within_0 rfl (lv_at hl 0 rfl) ?_
  refine lv_lload_n hx hb dX11_within_1 rfl (lv_at hl 1 rfl) ?_
  refine W.lcmp hx hb dX11_within_2 ?_
  refine lv_if_lt (tgt := 17) hx hb dX11_within_3 (by decide) (fun q => ?_) (fun q => ?_)
  · have hf := hf_t q hf
    refine lv_iconst (v := 0) hx hb dX11_within_17 kc_0 ?_
    exact ret_z rfl C hw dX11_within_18 hf
  · have hf := hf_f q hf
    refine lv_lload_n hx hb dX11_within_6 rfl (lv_at hl 0 rfl) ?_
    refine lv_lload hx hb dX11_within_7 (lv_at hl 2 rfl) ?_
    refine W.lcmp hx hb dX11_within_9 ?_
    refine lv_if_gt (tgt := 17) hx hb dX11_within_10 (by decide) (fun q => ?_) (fun q => ?_)
    · have hf := hf_t q hf
      refine lv_iconst (v := 0) hx hb dX11_within_17 kc_0 ?_
      exact ret_z rfl C hw dX11_within_18 hf
    · have hf := hf_f q hf
      refine lv_iconst (v := 1) hx hb dX11_within_13 kc_1 ?_
      refine lv_goto (tgt := 18) hx hb dX11_within_14 (by decide) ?_
      exact ret_z rfl C hw dX11_within_18 hf
end
theorem t_Mo_within {l : Launch} {V : St} {S : St} {p1 : Int64} {p2 : Int64} {p3 : Int64} {r : Int32} (hf : Mo_within S p1 p2 p3 = some r) : Ct l (wM V) yX11_within cX11_within 6 (some .boolean) 1 (fun E => [.long p1, .long p2, .long p3]) S (fun E => some (.int r)) S :=
  ofBlock (by decide +kernel) (fun _ => Nat.le_of_ble_eq_true rfl) (fun E p e s m args below meth c ls C hw hl => w_Mo_within C hw hl hf)
theorem dX11_isIn_0 : decode cX11_isIn 0 = .ok (.iload_n 0, 1) := by decide +kernel
theorem dX11_isIn_1 : decode cX11_isIn 1 = .ok (.iload_n 1, 1) := by decide +kernel
theorem dX11_isIn_2 : decode cX11_isIn 2 = .ok (.ishr, 1) := by decide +kernel
theorem dX11_isIn_3 : decode cX11_isIn 3 = .ok (.iconst 1, 1) := by decide +kernel
theorem dX11_isIn_4 : decode cX11_isIn 4 = .ok (.iand, 1) := by decide +kernel
theorem dX11_isIn_5 : decode cX11_isIn 5 = .ok (.iconst 1, 1) := by decide +kernel
theorem dX11_isIn_6 : decode cX11_isIn 6 = .ok (.if_icmp .ne 7, 3) := by decide +kernel
theorem dX11_isIn_9 : decode cX11_isIn 9 = .ok (.iconst 1, 1) := by decide +kernel
theorem dX11_isIn_10 : decode cX11_isIn 10 = .ok (.goto 4, 3) := by decide +kernel
theorem dX11_isIn_13 : decode cX11_isIn 13 = .ok (.iconst 0, 1) := by decide +kernel
theorem dX11_isIn_14 : decode cX11_isIn 14 = .ok (.ireturn, 1) := by decide +kernel
section
variable {p : Program} {l : Launch} {e : Env} {s : State} {m : MethodId} {args : Array Value} {below : List Frame} {meth : Method} {c : Code} {H : Heap} {locs : List Loc} {E : Ev} {S V : St} {ls : Array Slot}
set_option maxRecDepth 20000 in
theorem w_Mo_isIn {p1 : Int32} {p2 : Int32} {r : Int32} (C : Cx p s m args meth c E cX11_isIn 2 RX11 (some .boolean)) (hw : Wd E (wM V E) s.heap S H locs) (hl : lv_has ls 2 [(0, .int p1), (1, .int p2)]) (hf : Mo_isIn S p1 p2 = some r) : W p l e (rmh 1) s m args below meth c H locs 0 0 (MQ below (QW E (wM V E) (some (.int r)) S) args s 0 0 (eA E)) (F0 m 0 ls []) := by
  have hx := C.1
  have hb := C.2.1
  unfold Mo_isIn at hf
  refine lv_iload_n hx hb dX11_isIn_0 rfl (lv_at hl 0 rfl) ?_
  refine lv_iload_n hx hb dX11_isIn_1 rfl (lv_at hl 1 rfl) ?_
  refine lv_ishr hx hb dX11_isIn_2 ?_
  refine lv_iconst (v := 1) hx hb dX11_isIn_3 kc_1 ?_
  refine lv_iand hx hb dX11_isIn_4 ?_
  refine lv_iconst (v := 1) hx hb dX11_isIn_5 kc_1 ?_
  refine lv_icmp_ne (tgt := 13) hx hb dX11_isIn_6 (by decide) (fun q => ?_) (fun q => ?_)
  · have hf := hf_f q hf
    refine lv_iconst (v := 0) hx hb dX11_isIn_13 kc_0 ?_
    exact ret_z rfl C hw dX11_isIn_14 hf
  · have hf := hf_t q hf
    refine lv_iconst (v := 1) hx hb dX11_isIn_9 kc_1 ?_
    refine lv_goto (tgt := 14) hx hb dX11_isIn_10 (by decide) ?_
    exact ret_z rfl C hw dX11_isIn_14 hf
end
theorem t_Mo_isIn {l : Launch} {V : St} {S : St} {p1 : Int32} {p2 : Int32} {r : Int32} (hf : Mo_isIn S p1 p2 = some r) : Ct l (wM V) yX11_isIn cX11_isIn 2 (some .boolean) 1 (fun E => [.int p1, .int p2]) S (fun E => some (.int r)) S :=
  ofBlock (by decide +kernel) (fun _ => Nat.le_of_ble_eq_true rfl) (fun E p e s m args below meth c ls C hw hl => w_Mo_isIn C hw hl hf)
theorem dX11_bitsOf_0 : decode cX11_bitsOf 0 = .ok (.iconst 0, 1) := by decide +kernel
theorem dX11_bitsOf_1 : decode cX11_bitsOf 1 = .ok (.istore_n 1, 1) := by decide +kernel
theorem dX11_bitsOf_2 : decode cX11_bitsOf 2 = .ok (.iconst 0, 1) := by decide +kernel
theorem dX11_bitsOf_3 : decode cX11_bitsOf 3 = .ok (.istore_n 2, 1) := by decide +kernel
theorem dX11_bitsOf_4 : decode cX11_bitsOf 4 = .ok (.iload_n 2, 1) := by decide +kernel
theorem dX11_bitsOf_5 : decode cX11_bitsOf 5 = .ok (.bipush 10, 2) := by decide +kernel
theorem dX11_bitsOf_7 : decode cX11_bitsOf 7 = .ok (.if_icmp .ge 17, 3) := by decide +kernel
theorem dX11_bitsOf_10 : decode cX11_bitsOf 10 = .ok (.iload_n 1, 1) := by decide +kernel
theorem dX11_bitsOf_11 : decode cX11_bitsOf 11 = .ok (.iload_n 0, 1) := by decide +kernel
theorem dX11_bitsOf_12 : decode cX11_bitsOf 12 = .ok (.iload_n 2, 1) := by decide +kernel
theorem dX11_bitsOf_13 : decode cX11_bitsOf 13 = .ok (.ishr, 1) := by decide +kernel
theorem dX11_bitsOf_14 : decode cX11_bitsOf 14 = .ok (.iconst 1, 1) := by decide +kernel
theorem dX11_bitsOf_15 : decode cX11_bitsOf 15 = .ok (.iand, 1) := by decide +kernel
theorem dX11_bitsOf_16 : decode cX11_bitsOf 16 = .ok (.iadd, 1) := by decide +kernel
theorem dX11_bitsOf_17 : decode cX11_bitsOf 17 = .ok (.istore_n 1, 1) := by decide +kernel
theorem dX11_bitsOf_18 : decode cX11_bitsOf 18 = .ok (.iinc 2 1, 3) := by decide +kernel
theorem dX11_bitsOf_21 : decode cX11_bitsOf 21 = .ok (.goto (-17), 3) := by decide +kernel
theorem dX11_bitsOf_24 : decode cX11_bitsOf 24 = .ok (.iload_n 1, 1) := by decide +kernel
theorem dX11_bitsOf_25 : decode cX11_bitsOf 25 = .ok (.ireturn, 1) := by decide +kernel
section
variable {p : Program} {l : Launch} {e : Env} {s : State} {m : MethodId} {args : Array Value} {below : List Frame} {meth : Method} {c : Code} {H : Heap} {locs : List Loc} {E : Ev} {S V : St} {ls : Array Slot}
set_option maxRecDepth 20000 in
theorem w_Mo_bitsOf_b4 {N : Nat} {k4 : (Int32 × Int32) → Option Int32} {l0 : Int32} {l1 : Int32} {l2 : Int32} {r : Int32} (C : Cx p s m args meth c E cX11_bitsOf 3 RX11 (some .int)) (hk4 : ∀ x, k4 x = some r → ∀ (H : Heap) (locs : List Loc) (ls : Array Slot), Wd E (wM V E) s.heap S H locs → lv_has ls 3 [(0, .int l0), (1, .int x.1), (2, .int x.2)] → W p l e (rmh 1) s m args below meth c H locs 0 0 (MQ below (QW E (wM V E) (some (.int r)) S) args s 0 0 (eA E)) (F0 m 4 ls [])) (hw : Wd E (wM V E) s.heap S H locs) (hl : lv_has ls 3 [(0, .int l0), (1, .int l1), (2, .int l2)]) (hf : Mo_bitsOf_b4 N k4 S l0 l1 l2 = some r) : W p l e (rmh 1) s m args below meth c H locs 0 0 (MQ below (QW E (wM V E) (some (.int r)) S) args s 0 0 (eA E)) (F0 m 4 ls []) := by
  have hx := C.1
  have hb := C.2.1
  unfold Mo_bitsOf_b4 at hf
  refine lv_iload_n hx hb dX11_bitsOf_4 rfl (lv_at hl 2 rfl) ?_
  refine lv_bipush (v := 10) hx hb dX11_bitsOf_5 kb_10 ?_
  refine lv_icmp_ge (tgt := 24) hx hb dX11_bitsOf_7 (by decide) (fun q => ?_) (fun q => ?_)
  · have hf := hf_t q hf
    refine lv_iload_n hx hb dX11_bitsOf_24 rfl (lv_at hl 1 rfl) ?_
    exact ret_i C hw dX11_bitsOf_25 hf
  · have hf := hf_f q hf
    refine lv_iload_n hx hb dX11_bitsOf_10 rfl (lv_at hl 1 rfl) ?_
    refine lv_iload_n hx hb dX11_bitsOf_11 rfl (lv_at hl 0 rfl) ?_
    refine lv_iload_n hx hb dX11_bitsOf_12 rfl (lv_at hl 2 rfl) ?_
    refine lv_ishr hx hb dX11_bitsOf_13 ?_
    refine lv_iconst (v := 1) hx hb dX11_bitsOf_14 kc_1 ?_
    refine lv_iand hx hb dX11_bitsOf_15 ?_
    refine lv_iadd hx hb dX11_bitsOf_16 ?_
    refine nm_i hf (fun x1 hf => ?_)
    refine lv_istore_n (lv' := [(1, .int x1), (0, .int l0), (2, .int l2)]) hx hb dX11_bitsOf_17 rfl hl (by decide) rfl (fun ls hl => ?_)
    obtain ⟨x2, ex2, hf⟩ := nme hf
    refine lv_iinc (v := x2) (lv' := [(2, .int x2), (1, .int x1), (0, .int l0)]) hx hb dX11_bitsOf_18 hl (k := 2) rfl (ki_1 ex2) (by decide) rfl (fun ls hl => ?_)
    refine lv_goto (tgt := 4) hx hb dX11_bitsOf_21 (by decide) ?_
    exact hk4 _ hf _ _ _ hw (lv_sub hl [2, 1, 0] rfl)
theorem w_Mo_bitsOf_L4 {N : Nat} {l0 : Int32} {r : Int32} (C : Cx p s m args meth c E cX11_bitsOf 3 RX11 (some .int)) : ∀ x, Mo_bitsOf_L4 N S l0 x = some r → ∀ (H : Heap) (locs : List Loc) (ls : Array Slot), Wd E (wM V E) s.heap S H locs → lv_has ls 3 [(0, .int l0), (1, .int x.1), (2, .int x.2)] → W p l e (rmh 1) s m args below meth c H locs 0 0 (MQ below (QW E (wM V E) (some (.int r)) S) args s 0 0 (eA E)) (F0 m 4 ls []) :=
  lp_W (fun k x hk hf H locs ls hw hl => w_Mo_bitsOf_b4 C hk hw hl hf) N
set_option maxRecDepth 20000 in
theorem w_Mo_bitsOf {N : Nat} {p1 : Int32} {r : Int32} (C : Cx p s m args meth c E cX11_bitsOf 3 RX11 (some .int)) (hw : Wd E (wM V E) s.heap S H locs) (hl : lv_has ls 3 [(0, .int p1)]) (hf : Mo_bitsOf N S p1 = some r) : W p l e (rmh 1) s m args below meth c H locs 0 0 (MQ below (QW E (wM V E) (some (.int r)) S) args s 0 0 (eA E)) (F0 m 0 ls []) := by
  have hx := C.1
  have hb := C.2.1
  unfold Mo_bitsOf at hf
  refine lv_iconst (v := 0) hx hb dX11_bitsOf_0 kc_0 ?_
  refine lv_istore_n (lv' := [(1, .int (0 : Int32)), (0, .int p1)]) hx hb dX11_bitsOf_1 rfl hl (by decide) rfl (fun ls hl => ?_)
  refine lv_iconst (v := 0) hx hb dX11_bitsOf_2 kc_0 ?_
  refine lv_istore_n (lv' := [(2, .int (0 : Int32)), (1, .int (0 : Int32)), (0, .int p1)]) hx hb dX11_bitsOf_3 rfl hl (by decide) rfl (fun ls hl => ?_)
  exact w_Mo_bitsOf_L4 C _ hf _ _ _ hw (lv_sub hl [2, 1, 0] rfl)
end
theorem t_Mo_bitsOf {l : Launch} {V : St} {N : Nat} {S : St} {p1 : Int32} {r : Int32} (hf : Mo_bitsOf N S p1 = some r) : Ct l (wM V) yX11_bitsOf cX11_bitsOf 3 (some .int) 1 (fun E => [.int p1]) S (fun E => some (.int r)) S :=
  ofBlock (by decide +kernel) (fun _ => Nat.le_of_ble_eq_true rfl) (fun E p e s m args below meth c ls C hw hl => w_Mo_bitsOf C hw hl hf)
