theorem dJ6_bitCount_0f7a4_0 : decode cJ6_bitCount_0f7a4 0 = .ok (.iload_n 0, 1) := by decide +kernel
theorem dJ6_bitCount_0f7a4_1 : decode cJ6_bitCount_0f7a4 1 = .ok (.iload_n 0, 1) := by decide +kernel
theorem dJ6_bitCount_0f7a4_2 : decode cJ6_bitCount_0f7a4 2 = .ok (.iconst 1, 1) := by decide +kernel
theorem dJ6_bitCount_0f7a4_3 : decode cJ6_bitCount_0f7a4 3 = .ok (.iushr, 1) := by decide +kernel
theorem dJ6_bitCount_0f7a4_4 : decode cJ6_bitCount_0f7a4 4 = .ok (.ldc_w 265, 3) := by decide +kernel
theorem dJ6_bitCount_0f7a4_7 : decode cJ6_bitCount_0f7a4 7 = .ok (.iand, 1) := by decide +kernel
theorem dJ6_bitCount_0f7a4_8 : decode cJ6_bitCount_0f7a4 8 = .ok (.isub, 1) := by decide +kernel
theorem dJ6_bitCount_0f7a4_9 : decode cJ6_bitCount_0f7a4 9 = .ok (.istore_n 0, 1) := by decide +kernel
theorem dJ6_bitCount_0f7a4_10 : decode cJ6_bitCount_0f7a4 10 = .ok (.iload_n 0, 1) := by decide +kernel
theorem dJ6_bitCount_0f7a4_11 : decode cJ6_bitCount_0f7a4 11 = .ok (.ldc_w 266, 3) := by decide +kernel
theorem dJ6_bitCount_0f7a4_14 : decode cJ6_bitCount_0f7a4 14 = .ok (.iand, 1) := by decide +kernel
theorem dJ6_bitCount_0f7a4_15 : decode cJ6_bitCount_0f7a4 15 = .ok (.iload_n 0, 1) := by decide +kernel
theorem dJ6_bitCount_0f7a4_16 : decode cJ6_bitCount_0f7a4 16 = .ok (.iconst 2, 1) := by decide +kernel
theorem dJ6_bitCount_0f7a4_17 : decode cJ6_bitCount_0f7a4 17 = .ok (.iushr, 1) := by decide +kernel
theorem dJ6_bitCount_0f7a4_18 : decode cJ6_bitCount_0f7a4 18 = .ok (.ldc_w 266, 3) := by decide +kernel
theorem dJ6_bitCount_0f7a4_21 : decode cJ6_bitCount_0f7a4 21 = .ok (.iand, 1) := by decide +kernel
theorem dJ6_bitCount_0f7a4_22 : decode cJ6_bitCount_0f7a4 22 = .ok (.iadd, 1) := by decide +kernel
theorem dJ6_bitCount_0f7a4_23 : decode cJ6_bitCount_0f7a4 23 = .ok (.istore_n 0, 1) := by decide +kernel
theorem dJ6_bitCount_0f7a4_24 : decode cJ6_bitCount_0f7a4 24 = .ok (.iload_n 0, 1) := by decide +kernel
theorem dJ6_bitCount_0f7a4_25 : decode cJ6_bitCount_0f7a4 25 = .ok (.iload_n 0, 1) := by decide +kernel
theorem dJ6_bitCount_0f7a4_26 : decode cJ6_bitCount_0f7a4 26 = .ok (.iconst 4, 1) := by decide +kernel
theorem dJ6_bitCount_0f7a4_27 : decode cJ6_bitCount_0f7a4 27 = .ok (.iushr, 1) := by decide +kernel
theorem dJ6_bitCount_0f7a4_28 : decode cJ6_bitCount_0f7a4 28 = .ok (.iadd, 1) := by decide +kernel
theorem dJ6_bitCount_0f7a4_29 : decode cJ6_bitCount_0f7a4 29 = .ok (.ldc_w 267, 3) := by decide +kernel
theorem dJ6_bitCount_0f7a4_32 : decode cJ6_bitCount_0f7a4 32 = .ok (.iand, 1) := by decide +kernel
theorem dJ6_bitCount_0f7a4_33 : decode cJ6_bitCount_0f7a4 33 = .ok (.istore_n 0, 1) := by decide +kernel
theorem dJ6_bitCount_0f7a4_34 : decode cJ6_bitCount_0f7a4 34 = .ok (.iload_n 0, 1) := by decide +kernel
theorem dJ6_bitCount_0f7a4_35 : decode cJ6_bitCount_0f7a4 35 = .ok (.iload_n 0, 1) := by decide +kernel
theorem dJ6_bitCount_0f7a4_36 : decode cJ6_bitCount_0f7a4 36 = .ok (.bipush 8, 2) := by decide +kernel
theorem dJ6_bitCount_0f7a4_38 : decode cJ6_bitCount_0f7a4 38 = .ok (.iushr, 1) := by decide +kernel
theorem dJ6_bitCount_0f7a4_39 : decode cJ6_bitCount_0f7a4 39 = .ok (.iadd, 1) := by decide +kernel
theorem dJ6_bitCount_0f7a4_40 : decode cJ6_bitCount_0f7a4 40 = .ok (.istore_n 0, 1) := by decide +kernel
theorem dJ6_bitCount_0f7a4_41 : decode cJ6_bitCount_0f7a4 41 = .ok (.iload_n 0, 1) := by decide +kernel
theorem dJ6_bitCount_0f7a4_42 : decode cJ6_bitCount_0f7a4 42 = .ok (.iload_n 0, 1) := by decide +kernel
theorem dJ6_bitCount_0f7a4_43 : decode cJ6_bitCount_0f7a4 43 = .ok (.bipush 16, 2) := by decide +kernel
theorem dJ6_bitCount_0f7a4_45 : decode cJ6_bitCount_0f7a4 45 = .ok (.iushr, 1) := by decide +kernel
theorem dJ6_bitCount_0f7a4_46 : decode cJ6_bitCount_0f7a4 46 = .ok (.iadd, 1) := by decide +kernel
theorem dJ6_bitCount_0f7a4_47 : decode cJ6_bitCount_0f7a4 47 = .ok (.istore_n 0, 1) := by decide +kernel
theorem dJ6_bitCount_0f7a4_48 : decode cJ6_bitCount_0f7a4 48 = .ok (.iload_n 0, 1) := by decide +kernel
theorem dJ6_bitCount_0f7a4_49 : decode cJ6_bitCount_0f7a4 49 = .ok (.bipush 63, 2) := by decide +kernel
theorem dJ6_bitCount_0f7a4_51 : decode cJ6_bitCount_0f7a4 51 = .ok (.iand, 1) := by decide +kernel
theorem dJ6_bitCount_0f7a4_52 : decode cJ6_bitCount_0f7a4 52 = .ok (.ireturn, 1) := by decide +kernel
section
variable {p : Program} {l : Launch} {e : Env} {s : State} {m : MethodId} {args : Array Value} {below : List Frame} {meth : Method} {c : Code} {H : Heap} {locs : List Loc} {E : Ev} {S V : St} {ls : Array Slot}
set_option maxRecDepth 20000 in
theorem w_In_bitCount {p1 : Int32} {r : Int32} (C : Cx p s m args meth c E cJ6_bitCount_0f7a4 1 RJ6 (some .int)) (hw : Wd E (wX V E) s.heap S H locs) (hl : lv_has ls 1 [(0, .int p1)]) (hf : In_bitCount S p1 = some r) : W p l e (rmh 1) s m args below meth c H locs 0 0 (MQ below (QW E (wX V E) (some (.int r)) S) args s 0 0 (eA E)) (F0 m 0 ls []) := by
  have hx := C.1
  have hb := C.2.1
  unfold In_bitCount at hf
  refine lv_iload_n hx hb dJ6_bitCount_0f7a4_0 rfl (lv_at hl 0 rfl) ?_
  refine lv_iload_n hx hb dJ6_bitCount_0f7a4_1 rfl (lv_at hl 0 rfl) ?_
  refine lv_iconst (v := 1) hx hb dJ6_bitCount_0f7a4_2 kc_1 ?_
  refine lv_iushr hx hb dJ6_bitCount_0f7a4_3 rfl ?_
  refine lv_ldcw (v := 1431655765) hx hb C.2.2.2.1 (C.2.2.2.2.1 _ q_719) dJ6_bitCount_0f7a4_4 ?_
  refine lv_iand hx hb dJ6_bitCount_0f7a4_7 ?_
  refine lv_isub hx hb dJ6_bitCount_0f7a4_8 ?_
  refine nm_i hf (fun x1 hf => ?_)
  refine lv_istore_n (lv' := [(0, .int x1)]) hx hb dJ6_bitCount_0f7a4_9 rfl hl (by decide) rfl (fun ls hl => ?_)
  refine lv_iload_n hx hb dJ6_bitCount_0f7a4_10 rfl (lv_at hl 0 rfl) ?_
  refine lv_ldcw (v := 858993459) hx hb C.2.2.2.1 (C.2.2.2.2.1 _ q_720) dJ6_bitCount_0f7a4_11 ?_
  refine lv_iand hx hb dJ6_bitCount_0f7a4_14 ?_
  refine lv_iload_n hx hb dJ6_bitCount_0f7a4_15 rfl (lv_at hl 0 rfl) ?_
  refine lv_iconst (v := 2) hx hb dJ6_bitCount_0f7a4_16 kc_2 ?_
  refine lv_iushr hx hb dJ6_bitCount_0f7a4_17 rfl ?_
  refine lv_ldcw (v := 858993459) hx hb C.2.2.2.1 (C.2.2.2.2.1 _ q_720) dJ6_bitCount_0f7a4_18 ?_
  refine lv_iand hx hb dJ6_bitCount_0f7a4_21 ?_
  refine lv_iadd hx hb dJ6_bitCount_0f7a4_22 ?_
  refine nm_i hf (fun x2 hf => ?_)
  refine lv_istore_n (lv' := [(0, .int x2)]) hx hb dJ6_bitCount_0f7a4_23 rfl hl (by decide) rfl (fun ls hl => ?_)
  refine lv_iload_n hx hb dJ6_bitCount_0f7a4_24 rfl (lv_at hl 0 rfl) ?_
  refine lv_iload_n hx hb dJ6_bitCount_0f7a4_25 rfl (lv_at hl 0 rfl) ?_
  refine lv_iconst (v := 4) hx hb dJ6_bitCount_0f7a4_26 kc_4 ?_
  refine lv_iushr hx hb dJ6_bitCount_0f7a4_27 rfl ?_
  refine lv_iadd hx hb dJ6_bitCount_0f7a4_28 ?_
  refine lv_ldcw (v := 252645135) hx hb C.2.2.2.1 (C.2.2.2.2.1 _ q_721) dJ6_bitCount_0f7a4_29 ?_
  refine lv_iand hx hb dJ6_bitCount_0f7a4_32 ?_
  refine nm_i hf (fun x3 hf => ?_)
  refine lv_istore_n (lv' := [(0, .int x3)]) hx hb dJ6_bitCount_0f7a4_33 rfl hl (by decide) rfl (fun ls hl => ?_)
  refine lv_iload_n hx hb dJ6_bitCount_0f7a4_34 rfl (lv_at hl 0 rfl) ?_
  refine lv_iload_n hx hb dJ6_bitCount_0f7a4_35 rfl (lv_at hl 0 rfl) ?_
  refine lv_bipush (v := 8) hx hb dJ6_bitCount_0f7a4_36 kb_8 ?_
  refine lv_iushr hx hb dJ6_bitCount_0f7a4_38 rfl ?_
  refine lv_iadd hx hb dJ6_bitCount_0f7a4_39 ?_
  refine nm_i hf (fun x4 hf => ?_)
  refine lv_istore_n (lv' := [(0, .int x4)]) hx hb dJ6_bitCount_0f7a4_40 rfl hl (by decide) rfl (fun ls hl => ?_)
  refine lv_iload_n hx hb dJ6_bitCount_0f7a4_41 rfl (lv_at hl 0 rfl) ?_
  refine lv_iload_n hx hb dJ6_bitCount_0f7a4_42 rfl (lv_at hl 0 rfl) ?_
  refine lv_bipush (v := 16) hx hb dJ6_bitCount_0f7a4_43 kb_16 ?_
  refine lv_iushr hx hb dJ6_bitCount_0f7a4_45 rfl ?_
  refine lv_iadd hx hb dJ6_bitCount_0f7a4_46 ?_
  refine nm_i hf (fun x5 hf => ?_)
  refine lv_istore_n (lv' := [(0, .int x5)]) hx hb dJ6_bitCount_0f7a4_47 rfl hl (by decide) rfl (fun ls hl => ?_)
  refine lv_iload_n hx hb dJ6_bitCount_0f7a4_48 rfl (lv_at hl 0 rfl) ?_
  refine lv_bipush (v := 63) hx hb dJ6_bitCount_0f7a4_49 kb_63 ?_
  refine lv_iand hx hb dJ6_bitCount_0f7a4_51 ?_
  exact ret_i C hw dJ6_bitCount_0f7a4_52 hf
end
theorem t_In_bitCount {l : Launch} {V : St} {S : St} {p1 : Int32} {r : Int32} (hf : In_bitCount S p1 = some r) : Ct l (wX V) yJ6_bitCount_0f7a4 cJ6_bitCount_0f7a4 1 (some .int) 1 (fun E => [.int p1]) S (fun E => some (.int r)) S :=
  ofBlock (by decide +kernel) (fun _ => Nat.le_of_ble_eq_true rfl) (fun E p e s m args below meth c ls C hw hl => w_In_bitCount C hw hl hf)
theorem dX8_ridesOn_0 : decode cX8_ridesOn 0 = .ok (.aload_n 0, 1) := by decide +kernel
theorem dX8_ridesOn_1 : decode cX8_ridesOn 1 = .ok (.iload_n 1, 1) := by decide +kernel
theorem dX8_ridesOn_2 : decode cX8_ridesOn 2 = .ok (.aload_n 0, 1) := by decide +kernel
theorem dX8_ridesOn_3 : decode cX8_ridesOn 3 = .ok (.iload_n 1, 1) := by decide +kernel
theorem dX8_ridesOn_4 : decode cX8_ridesOn 4 = .ok (.iload_n 2, 1) := by decide +kernel
theorem dX8_ridesOn_5 : decode cX8_ridesOn 5 = .ok (.invokevirtual 71, 3) := by decide +kernel
theorem dX8_ridesOn_8 : decode cX8_ridesOn 8 = .ok (.invokevirtual 75, 3) := by decide +kernel
theorem dX8_ridesOn_11 : decode cX8_ridesOn 11 = .ok (.ireturn, 1) := by decide +kernel
section
variable {p : Program} {l : Launch} {e : Env} {s : State} {m : MethodId} {args : Array Value} {below : List Frame} {meth : Method} {c : Code} {H : Heap} {locs : List Loc} {E : Ev} {S V : St} {ls : Array Slot}
set_option maxRecDepth 20000 in
theorem w_Sm_ridesOn {N : Nat} {p1 : Int32} {p2 : Int32} {r : Int32} (C : Cx p s m args meth c E cX8_ridesOn 3 RX8 (some .boolean)) (hw : Wd E (wX V E) s.heap S H locs) (hl : lv_has ls 3 [(0, .ref (ea E 1)), (1, .int p1), (2, .int p2)]) (hf : Sm_ridesOn N S p1 p2 = some r) : W p l e (rmh 3) s m args below meth c H locs 0 0 (MQ below (QW E (wX V E) (some (.int r)) S) args s 0 0 (eA E)) (F0 m 0 ls []) := by
  have hx := C.1
  have hb := C.2.1
  unfold Sm_ridesOn at hf
  refine lv_aload_n hx hb dX8_ridesOn_0 rfl (lv_at hl 0 rfl) ?_
  refine lv_iload_n hx hb dX8_ridesOn_1 rfl (lv_at hl 1 rfl) ?_
  refine lv_aload_n hx hb dX8_ridesOn_2 rfl (lv_at hl 0 rfl) ?_
  refine lv_iload_n hx hb dX8_ridesOn_3 rfl (lv_at hl 1 rfl) ?_
  refine lv_iload_n hx hb dX8_ridesOn_4 rfl (lv_at hl 2 rfl) ?_
  obtain ⟨r1, hr, hf⟩ := hf_1 hf
  refine inv_Vi (q0 := 1) (ci := 8) (As := [.int p1, .int p2]) lk_X8_71 C hw rfl rfl rfl (t_Sm_lengthOn hr) rfl hl.1 dX8_ridesOn_5 rfl (Nat.le_of_ble_eq_true rfl) (by decide) (Nat.le_of_ble_eq_true rfl) rfl (fun H locs hw => ?_)
  obtain ⟨r2, hr, hf⟩ := hf_1 hf
  refine inv_Vi (q0 := 1) (ci := 8) (As := [.int p1, .int r1]) lk_X8_75 C hw rfl rfl rfl (t_Sm_goesRound hr) rfl hl.1 dX8_ridesOn_8 rfl (Nat.le_of_ble_eq_true rfl) (by decide) (Nat.le_of_ble_eq_true rfl) rfl (fun H locs hw => ?_)
  obtain ⟨hcb, hf⟩ := hf_ck hf
  exact ret_z (isB_nar hcb) C hw dX8_ridesOn_11 hf
end
theorem t_Sm_ridesOn {l : Launch} {V : St} {N : Nat} {S : St} {p1 : Int32} {p2 : Int32} {r : Int32} (hf : Sm_ridesOn N S p1 p2 = some r) : Ct l (wX V) yX8_ridesOn cX8_ridesOn 3 (some .boolean) 3 (fun E => [.ref (ea E 1), .int p1, .int p2]) S (fun E => some (.int r)) S :=
  ofBlock (by decide +kernel) (fun _ => Nat.le_of_ble_eq_true rfl) (fun E p e s m args below meth c ls C hw hl => w_Sm_ridesOn C hw hl hf)
theorem dX8_ridersOn_0 : decode cX8_ridersOn 0 = .ok (.iconst 0, 1) := by decide +kernel
theorem dX8_ridersOn_1 : decode cX8_ridersOn 1 = .ok (.istore_n 2, 1) := by decide +kernel
theorem dX8_ridersOn_2 : decode cX8_ridersOn 2 = .ok (.iconst 0, 1) := by decide +kernel
theorem dX8_ridersOn_3 : decode cX8_ridersOn 3 = .ok (.istore_n 3, 1) := by decide +kernel
theorem dX8_ridersOn_4 : decode cX8_ridersOn 4 = .ok (.iload_n 3, 1) := by decide +kernel
theorem dX8_ridersOn_5 : decode cX8_ridersOn 5 = .ok (.aload_n 0, 1) := by decide +kernel
theorem dX8_ridersOn_6 : decode cX8_ridersOn 6 = .ok (.getfield 39, 3) := by decide +kernel
theorem dX8_ridersOn_9 : decode cX8_ridersOn 9 = .ok (.if_icmp .ge 24, 3) := by decide +kernel
theorem dX8_ridersOn_12 : decode cX8_ridersOn 12 = .ok (.aload_n 0, 1) := by decide +kernel
theorem dX8_ridersOn_13 : decode cX8_ridersOn 13 = .ok (.iload_n 3, 1) := by decide +kernel
theorem dX8_ridersOn_14 : decode cX8_ridersOn 14 = .ok (.iload_n 1, 1) := by decide +kernel
theorem dX8_ridersOn_15 : decode cX8_ridersOn 15 = .ok (.invokevirtual 78, 3) := by decide +kernel
theorem dX8_ridersOn_18 : decode cX8_ridersOn 18 = .ok (.ifCond .eq 9, 3) := by decide +kernel
theorem dX8_ridersOn_21 : decode cX8_ridersOn 21 = .ok (.iload_n 2, 1) := by decide +kernel
theorem dX8_ridersOn_22 : decode cX8_ridersOn 22 = .ok (.iconst 1, 1) := by decide +kernel
theorem dX8_ridersOn_23 : decode cX8_ridersOn 23 = .ok (.iload_n 3, 1) := by decide +kernel
theorem dX8_ridersOn_24 : decode cX8_ridersOn 24 = .ok (.ishl, 1) := by decide +kernel
theorem dX8_ridersOn_25 : decode cX8_ridersOn 25 = .ok (.ior, 1) := by decide +kernel
theorem dX8_ridersOn_26 : decode cX8_ridersOn 26 = .ok (.istore_n 2, 1) := by decide +kernel
theorem dX8_ridersOn_27 : decode cX8_ridersOn 27 = .ok (.iinc 3 1, 3) := by decide +kernel
theorem dX8_ridersOn_30 : decode cX8_ridersOn 30 = .ok (.goto (-26), 3) := by decide +kernel
theorem dX8_ridersOn_33 : decode cX8_ridersOn 33 = .ok (.iload_n 2, 1) := by decide +kernel
theorem dX8_ridersOn_34 : decode cX8_ridersOn 34 = .ok (.ireturn, 1) := by decide +kernel
section
variable {p : Program} {l : Launch} {e : Env} {s : State} {m : MethodId} {args : Array Value} {below : List Frame} {meth : Method} {c : Code} {H : Heap} {locs : List Loc} {E : Ev} {S V : St} {ls : Array Slot}
set_option maxRecDepth 20000 in
theorem w_Sm_ridersOn_b4 {N : Nat} {k4 : (Int32 × Int32) → Option Int32} {l1 : Int32} {l2 : Int32} {l3 : Int32} {r : Int32} (C : Cx p s m args meth c E cX8_ridersOn 4 RX8 (some .int)) (hk4 : ∀ x, k4 x = some r → ∀ (H : Heap) (locs : List Loc) (ls : Array Slot), Wd E (wX V E) s.heap S H locs → lv_has ls 4 [(0, .ref (ea E 1)), (1, .int l1), (2, .int x.1), (3, .int x.2)] → W p l e (rmh 4) s m args below meth c H locs 0 0 (MQ below (QW E (wX V E) (some (.int r)) S) args s 0 0 (eA E)) (F0 m 4 ls [])) (hw : Wd E (wX V E) s.heap S H locs) (hl : lv_has ls 4 [(0, .ref (ea E 1)), (1, .int l1), (2, .int l2), (3, .int l3)]) (hf : Sm_ridersOn_b4 N k4 S l1 l2 l3 = some r) : W p l e (rmh 4) s m args below meth c H locs 0 0 (MQ below (QW E (wX V E) (some (.int r)) S) args s 0 0 (eA E)) (F0 m 4 ls []) := by
  have hx := C.1
  have hb := C.2.1
  unfold Sm_ridersOn_b4 at hf
  refine lv_iload_n hx hb dX8_ridersOn_4 rfl (lv_at hl 3 rfl) ?_
  refine lv_aload_n hx hb dX8_ridersOn_5 rfl (lv_at hl 0 rfl) ?_
  refine get_1_9 C hw q_133 dX8_ridersOn_6 ?_
  refine lv_icmp_ge (tgt := 33) hx hb dX8_ridersOn_9 (by decide) (fun q => ?_) (fun q => ?_)
  · have hf := hf_t q hf
    refine lv_iload_n hx hb dX8_ridersOn_33 rfl (lv_at hl 2 rfl) ?_
    exact ret_i C hw dX8_ridersOn_34 hf
  · have hf := hf_f q hf
    refine lv_aload_n hx hb dX8_ridersOn_12 rfl (lv_at hl 0 rfl) ?_
    refine lv_iload_n hx hb dX8_ridersOn_13 rfl (lv_at hl 3 rfl) ?_
    refine lv_iload_n hx hb dX8_ridersOn_14 rfl (lv_at hl 1 rfl) ?_
    obtain ⟨r1, hr, hf⟩ := hf_1 hf
    refine inv_Vi (q0 := 1) (ci := 8) (As := [.int l3, .int l1]) lk_X8_78 C hw rfl rfl rfl (t_Sm_ridesOn hr) rfl hl.1 dX8_ridersOn_15 rfl (Nat.le_of_ble_eq_true rfl) (by decide) (Nat.le_of_ble_eq_true rfl) rfl (fun H locs hw => ?_)
    refine lv_if_eq (tgt := 27) hx hb dX8_ridersOn_18 (by decide) (fun q => ?_) (fun q => ?_)
    · have hf := hf_t q hf
      obtain ⟨x2, ex2, hf⟩ := nme hf
      refine lv_iinc (v := x2) (lv' := [(3, .int x2), (0, .ref (ea E 1)), (1, .int l1), (2, .int l2)]) hx hb dX8_ridersOn_27 hl (k := 3) rfl (ki_1 ex2) (by decide) rfl (fun ls hl => ?_)
      refine lv_goto (tgt := 4) hx hb dX8_ridersOn_30 (by decide) ?_
      exact hk4 _ hf _ _ _ hw (lv_sub hl [1, 2, 3, 0] rfl)
    · have hf := hf_f q hf
      refine lv_iload_n hx hb dX8_ridersOn_21 rfl (lv_at hl 2 rfl) ?_
      refine lv_iconst (v := 1) hx hb dX8_ridersOn_22 kc_1 ?_
      refine lv_iload_n hx hb dX8_ridersOn_23 rfl (lv_at hl 3 rfl) ?_
      refine lv_ishl hx hb dX8_ridersOn_24 ?_
      refine lv_ior hx hb dX8_ridersOn_25 ?_
      refine nm_i hf (fun x3 hf => ?_)
      refine lv_istore_n (lv' := [(2, .int x3), (0, .ref (ea E 1)), (1, .int l1), (3, .int l3)]) hx hb dX8_ridersOn_26 rfl hl (by decide) rfl (fun ls hl => ?_)
      obtain ⟨x4, ex4, hf⟩ := nme hf
      refine lv_iinc (v := x4) (lv' := [(3, .int x4), (2, .int x3), (0, .ref (ea E 1)), (1, .int l1)]) hx hb dX8_ridersOn_27 hl (k := 3) rfl (ki_1 ex4) (by decide) rfl (fun ls hl => ?_)
      refine lv_goto (tgt := 4) hx hb dX8_ridersOn_30 (by decide) ?_
      exact hk4 _ hf _ _ _ hw (lv_sub hl [2, 3, 1, 0] rfl)
theorem w_Sm_ridersOn_L4 {N : Nat} {l1 : Int32} {r : Int32} (C : Cx p s m args meth c E cX8_ridersOn 4 RX8 (some .int)) : ∀ x, Sm_ridersOn_L4 N S l1 x = some r → ∀ (H : Heap) (locs : List Loc) (ls : Array Slot), Wd E (wX V E) s.heap S H locs → lv_has ls 4 [(0, .ref (ea E 1)), (1, .int l1), (2, .int x.1), (3, .int x.2)] → W p l e (rmh 4) s m args below meth c H locs 0 0 (MQ below (QW E (wX V E) (some (.int r)) S) args s 0 0 (eA E)) (F0 m 4 ls []) :=
  lp_W (fun k x hk hf H locs ls hw hl => w_Sm_ridersOn_b4 C hk hw hl hf) N
set_option maxRecDepth 20000 in
theorem w_Sm_ridersOn {N : Nat} {p1 : Int32} {r : Int32} (C : Cx p s m args meth c E cX8_ridersOn 4 RX8 (some .int)) (hw : Wd E (wX V E) s.heap S H locs) (hl : lv_has ls 4 [(0, .ref (ea E 1)), (1, .int p1)]) (hf : Sm_ridersOn N S p1 = some r) : W p l e (rmh 4) s m args below meth c H locs 0 0 (MQ below (QW E (wX V E) (some (.int r)) S) args s 0 0 (eA E)) (F0 m 0 ls []) := by
  have hx := C.1
  have hb := C.2.1
  unfold Sm_ridersOn at hf
  refine lv_iconst (v := 0) hx hb dX8_ridersOn_0 kc_0 ?_
  refine lv_istore_n (lv' := [(2, .int (0 : Int32)), (0, .ref (ea E 1)), (1, .int p1)]) hx hb dX8_ridersOn_1 rfl hl (by decide) rfl (fun ls hl => ?_)
  refine lv_iconst (v := 0) hx hb dX8_ridersOn_2 kc_0 ?_
  refine lv_istore_n (lv' := [(3, .int (0 : Int32)), (2, .int (0 : Int32)), (0, .ref (ea E 1)), (1, .int p1)]) hx hb dX8_ridersOn_3 rfl hl (by decide) rfl (fun ls hl => ?_)
  exact w_Sm_ridersOn_L4 C _ hf _ _ _ hw (lv_sub hl [2, 3, 1, 0] rfl)
end
theorem t_Sm_ridersOn {l : Launch} {V : St} {N : Nat} {S : St} {p1 : Int32} {r : Int32} (hf : Sm_ridersOn N S p1 = some r) : Ct l (wX V) yX8_ridersOn cX8_ridersOn 4 (some .int) 4 (fun E => [.ref (ea E 1), .int p1]) S (fun E => some (.int r)) S :=
  ofBlock (by decide +kernel) (fun _ => Nat.le_of_ble_eq_true rfl) (fun E p e s m args below meth c ls C hw hl => w_Sm_ridersOn C hw hl hf)
theorem dX2_bestHanding_0 : decode cX2_bestHanding 0 = .ok (.aload_n 0, 1) := by decide +kernel
theorem dX2_bestHanding_1 : decode cX2_bestHanding 1 = .ok (.getfield 21, 3) := by decide +kernel
theorem dX2_bestHanding_4 : decode cX2_bestHanding 4 = .ok (.iload_n 1, 1) := by decide +kernel
theorem dX2_bestHanding_5 : decode cX2_bestHanding 5 = .ok (.invokevirtual 85, 3) := by decide +kernel
theorem dX2_bestHanding_8 : decode cX2_bestHanding 8 = .ok (.invokestatic 88, 3) := by decide +kernel
theorem dX2_bestHanding_11 : decode cX2_bestHanding 11 = .ok (.istore_n 2, 1) := by decide +kernel
theorem dX2_bestHanding_12 : decode cX2_bestHanding 12 = .ok (.bipush (-2), 2) := by decide +kernel
theorem dX2_bestHanding_14 : decode cX2_bestHanding 14 = .ok (.istore_n 3, 1) := by decide +kernel
theorem dX2_bestHanding_15 : decode cX2_bestHanding 15 = .ok (.iconst 0, 1) := by decide +kernel
theorem dX2_bestHanding_16 : decode cX2_bestHanding 16 = .ok (.istore 4, 2) := by decide +kernel
theorem dX2_bestHanding_18 : decode cX2_bestHanding 18 = .ok (.iload 4, 2) := by decide +kernel
theorem dX2_bestHanding_20 : decode cX2_bestHanding 20 = .ok (.aload_n 0, 1) := by decide +kernel
theorem dX2_bestHanding_21 : decode cX2_bestHanding 21 = .ok (.getfield 21, 3) := by decide +kernel
theorem dX2_bestHanding_24 : decode cX2_bestHanding 24 = .ok (.getfield 36, 3) := by decide +kernel
theorem dX2_bestHanding_27 : decode cX2_bestHanding 27 = .ok (.if_icmp .ge 89, 3) := by decide +kernel
theorem dX2_bestHanding_30 : decode cX2_bestHanding 30 = .ok (.iconst 0, 1) := by decide +kernel
theorem dX2_bestHanding_31 : decode cX2_bestHanding 31 = .ok (.istore 5, 2) := by decide +kernel
theorem dX2_bestHanding_33 : decode cX2_bestHanding 33 = .ok (.iload 5, 2) := by decide +kernel
theorem dX2_bestHanding_35 : decode cX2_bestHanding 35 = .ok (.aload_n 0, 1) := by decide +kernel
theorem dX2_bestHanding_36 : decode cX2_bestHanding 36 = .ok (.getfield 21, 3) := by decide +kernel
theorem dX2_bestHanding_39 : decode cX2_bestHanding 39 = .ok (.getfield 67, 3) := by decide +kernel
theorem dX2_bestHanding_42 : decode cX2_bestHanding 42 = .ok (.if_icmp .ge 68, 3) := by decide +kernel
theorem dX2_bestHanding_45 : decode cX2_bestHanding 45 = .ok (.aload_n 0, 1) := by decide +kernel
theorem dX2_bestHanding_46 : decode cX2_bestHanding 46 = .ok (.getfield 21, 3) := by decide +kernel
theorem dX2_bestHanding_49 : decode cX2_bestHanding 49 = .ok (.iload 4, 2) := by decide +kernel
theorem dX2_bestHanding_51 : decode cX2_bestHanding 51 = .ok (.invokevirtual 93, 3) := by decide +kernel
theorem dX2_bestHanding_54 : decode cX2_bestHanding 54 = .ok (.ifCond .ne 50, 3) := by decide +kernel
theorem dX2_bestHanding_57 : decode cX2_bestHanding 57 = .ok (.iload 5, 2) := by decide +kernel
theorem dX2_bestHanding_59 : decode cX2_bestHanding 59 = .ok (.aload_n 0, 1) := by decide +kernel
theorem dX2_bestHanding_60 : decode cX2_bestHanding 60 = .ok (.getfield 21, 3) := by decide +kernel
theorem dX2_bestHanding_63 : decode cX2_bestHanding 63 = .ok (.getfield 82, 3) := by decide +kernel
theorem dX2_bestHanding_66 : decode cX2_bestHanding 66 = .ok (.iload 4, 2) := by decide +kernel
theorem dX2_bestHanding_68 : decode cX2_bestHanding 68 = .ok (.iaload, 1) := by decide +kernel
theorem dX2_bestHanding_69 : decode cX2_bestHanding 69 = .ok (.if_icmp .ne 6, 3) := by decide +kernel
theorem dX2_bestHanding_72 : decode cX2_bestHanding 72 = .ok (.goto 32, 3) := by decide +kernel
theorem dX2_bestHanding_75 : decode cX2_bestHanding 75 = .ok (.aload_n 0, 1) := by decide +kernel
theorem dX2_bestHanding_76 : decode cX2_bestHanding 76 = .ok (.iload 4, 2) := by decide +kernel
theorem dX2_bestHanding_78 : decode cX2_bestHanding 78 = .ok (.iload 5, 2) := by decide +kernel
theorem dX2_bestHanding_80 : decode cX2_bestHanding 80 = .ok (.iload_n 1, 1) := by decide +kernel
theorem dX2_bestHanding_81 : decode cX2_bestHanding 81 = .ok (.invokevirtual 97, 3) := by decide +kernel
theorem dX2_bestHanding_84 : decode cX2_bestHanding 84 = .ok (.istore 6, 2) := by decide +kernel
theorem dX2_bestHanding_86 : decode cX2_bestHanding 86 = .ok (.iload 6, 2) := by decide +kernel
theorem dX2_bestHanding_88 : decode cX2_bestHanding 88 = .ok (.iload_n 2, 1) := by decide +kernel
theorem dX2_bestHanding_89 : decode cX2_bestHanding 89 = .ok (.if_icmp .le 15, 3) := by decide +kernel
theorem dX2_bestHanding_92 : decode cX2_bestHanding 92 = .ok (.iload 6, 2) := by decide +kernel
theorem dX2_bestHanding_94 : decode cX2_bestHanding 94 = .ok (.istore_n 2, 1) := by decide +kernel
theorem dX2_bestHanding_95 : decode cX2_bestHanding 95 = .ok (.bipush 100, 2) := by decide +kernel
theorem dX2_bestHanding_97 : decode cX2_bestHanding 97 = .ok (.iload 4, 2) := by decide +kernel
theorem dX2_bestHanding_99 : decode cX2_bestHanding 99 = .ok (.imul, 1) := by decide +kernel
theorem dX2_bestHanding_100 : decode cX2_bestHanding 100 = .ok (.iload 5, 2) := by decide +kernel
theorem dX2_bestHanding_102 : decode cX2_bestHanding 102 = .ok (.iadd, 1) := by decide +kernel
theorem dX2_bestHanding_103 : decode cX2_bestHanding 103 = .ok (.istore_n 3, 1) := by decide +kernel
theorem dX2_bestHanding_104 : decode cX2_bestHanding 104 = .ok (.iinc 5 1, 3) := by decide +kernel
theorem dX2_bestHanding_107 : decode cX2_bestHanding 107 = .ok (.goto (-74), 3) := by decide +kernel
theorem dX2_bestHanding_110 : decode cX2_bestHanding 110 = .ok (.iinc 4 1, 3) := by decide +kernel
theorem dX2_bestHanding_113 : decode cX2_bestHanding 113 = .ok (.goto (-95), 3) := by decide +kernel
theorem dX2_bestHanding_116 : decode cX2_bestHanding 116 = .ok (.iload_n 3, 1) := by decide +kernel
theorem dX2_bestHanding_117 : decode cX2_bestHanding 117 = .ok (.ireturn, 1) := by decide +kernel
section
variable {p : Program} {l : Launch} {e : Env} {s : State} {m : MethodId} {args : Array Value} {below : List Frame} {meth : Method} {c : Code} {H : Heap} {locs : List Loc} {E : Ev} {S V : St} {ls : Array Slot}
set_option maxRecDepth 20000 in
theorem w_Dy_bestHanding_b33 {N : Nat} {k18 : (Int32 × Int32 × Int32) → Option Int32} {k33 : (Int32 × Int32 × Int32) → Option Int32} {l1 : Int32} {l4 : Int32} {l2 : Int32} {l3 : Int32} {l5 : Int32} {r : Int32} (C : Cx p s m args meth c E cX2_bestHanding 7 RX2 (some .int)) (hk18 : ∀ x, k18 x = some r → ∀ (H : Heap) (locs : List Loc) (ls : Array Slot), Wd E (wX V E) s.heap S H locs → lv_has ls 7 [(0, .ref (ea E 3)), (1, .int l1), (2, .int x.1), (3, .int x.2.1), (4, .int x.2.2)] → W p l e (rmh 5) s m args below meth c H locs 0 0 (MQ below (QW E (wX V E) (some (.int r)) S) args s 0 0 (eA E)) (F0 m 18 ls [])) (hk33 : ∀ x, k33 x = some r → ∀ (H : Heap) (locs : List Loc) (ls : Array Slot), Wd E (wX V E) s.heap S H locs → lv_has ls 7 [(0, .ref (ea E 3)), (1, .int l1), (2, .int x.1), (3, .int x.2.1), (4, .int l4), (5, .int x.2.2)] → W p l e (rmh 5) s m args below meth c H locs 0 0 (MQ below (QW E (wX V E) (some (.int r)) S) args s 0 0 (eA E)) (F0 m 33 ls [])) (hw : Wd E (wX V E) s.heap S H locs) (hl : lv_has ls 7 [(0, .ref (ea E 3)), (1, .int l1), (2, .int l2), (3, .int l3), (4, .int l4), (5, .int l5)]) (hf : Dy_bestHanding_b33 N k18 k33 S l1 l4 l2 l3 l5 = some r) : W p l e (rmh 5) s m args below meth c H locs 0 0 (MQ below (QW E (wX V E) (some (.int r)) S) args s 0 0 (eA E)) (F0 m 33 ls []) := by
  have hx := C.1
  have hb := C.2.1
  unfold Dy_bestHanding_b33 at hf
  refine lv_iload hx hb dX2_bestHanding_33 (lv_at hl 5 rfl) ?_
  refine lv_aload_n hx hb dX2_bestHanding_35 rfl (lv_at hl 0 rfl) ?_
  refine get_3_0 C hw q_289 dX2_bestHanding_36 ?_
  refine get_1_9 C hw q_136 dX2_bestHanding_39 ?_
  refine lv_icmp_ge (tgt := 110) hx hb dX2_bestHanding_42 (by decide) (fun q => ?_) (fun q => ?_)
  · have hf := hf_t q hf
    obtain ⟨x1, ex1, hf⟩ := nme hf
    refine lv_iinc (v := x1) (lv' := [(4, .int x1), (0, .ref (ea E 3)), (1, .int l1), (2, .int l2), (3, .int l3), (5, .int l5)]) hx hb dX2_bestHanding_110 hl (k := 4) rfl (ki_1 ex1) (by decide) rfl (fun ls hl => ?_)
    refine lv_goto (tgt := 18) hx hb dX2_bestHanding_113 (by decide) ?_
    exact hk18 _ hf _ _ _ hw (lv_sub hl [1, 2, 3, 4, 0] rfl)
  · have hf := hf_f q hf
    refine lv_aload_n hx hb dX2_bestHanding_45 rfl (lv_at hl 0 rfl) ?_
    refine get_3_0 C hw q_289 dX2_bestHanding_46 ?_
    refine lv_iload hx hb dX2_bestHanding_49 (lv_at hl 4 rfl) ?_
    obtain ⟨r2, hr, hf⟩ := hf_1 hf
    refine inv_Vi (q0 := 1) (ci := 8) (As := [.int l4]) lk_X2_93 C hw rfl rfl rfl (t_Sm_isTied hr) rfl hl.1 dX2_bestHanding_51 rfl (Nat.le_of_ble_eq_true rfl) (by decide) (Nat.le_of_ble_eq_true rfl) rfl (fun H locs hw => ?_)
    refine lv_if_ne (tgt := 104) hx hb dX2_bestHanding_54 (by decide) (fun q => ?_) (fun q => ?_)
    · have hf := hf_f q hf
      obtain ⟨x3, ex3, hf⟩ := nme hf
      refine lv_iinc (v := x3) (lv' := [(5, .int x3), (0, .ref (ea E 3)), (1, .int l1), (2, .int l2), (3, .int l3), (4, .int l4)]) hx hb dX2_bestHanding_104 hl (k := 5) rfl (ki_1 ex3) (by decide) rfl (fun ls hl => ?_)
      refine lv_goto (tgt := 33) hx hb dX2_bestHanding_107 (by decide) ?_
      exact hk33 _ hf _ _ _ hw (lv_sub hl [1, 2, 3, 4, 5, 0] rfl)
    · have hf := hf_t q hf
      refine lv_iload hx hb dX2_bestHanding_57 (lv_at hl 5 rfl) ?_
      refine lv_aload_n hx hb dX2_bestHanding_59 rfl (lv_at hl 0 rfl) ?_
      refine get_3_0 C hw q_289 dX2_bestHanding_60 ?_
      refine get_1_3 C hw q_115 dX2_bestHanding_63 ?_
      refine lv_iload hx hb dX2_bestHanding_66 (lv_at hl 4 rfl) ?_
      obtain ⟨hc, hf⟩ := hf_ck hf
      refine ld_14 C hw hc dX2_bestHanding_68 ?_
      refine lv_icmp_ne (tgt := 75) hx hb dX2_bestHanding_69 (by decide) (fun q => ?_) (fun q => ?_)
      · have hf := hf_f q hf
        refine lv_aload_n hx hb dX2_bestHanding_75 rfl (lv_at hl 0 rfl) ?_
        refine lv_iload hx hb dX2_bestHanding_76 (lv_at hl 4 rfl) ?_
        refine lv_iload hx hb dX2_bestHanding_78 (lv_at hl 5 rfl) ?_
        refine lv_iload_n hx hb dX2_bestHanding_80 rfl (lv_at hl 1 rfl) ?_
        obtain ⟨r4, hr, hf⟩ := hf_1 hf
        refine inv_Vi (q0 := 3) (ci := 2) (As := [.int l4, .int l5, .int l1]) lk_X2_97 C hw rfl rfl rfl (t_Dy_ridersIfHanded hr) rfl hl.1 dX2_bestHanding_81 rfl (Nat.le_of_ble_eq_true rfl) (by decide) (Nat.le_of_ble_eq_true rfl) rfl (fun H locs hw => ?_)
        refine lv_istore (lv' := [(6, .int r4), (0, .ref (ea E 3)), (1, .int l1), (2, .int l2), (3, .int l3), (4, .int l4), (5, .int l5)]) hx hb dX2_bestHanding_84 hl (by decide) rfl (fun ls hl => ?_)
        refine lv_iload hx hb dX2_bestHanding_86 (lv_at hl 0 rfl) ?_
        refine lv_iload_n hx hb dX2_bestHanding_88 rfl (lv_at hl 3 rfl) ?_
        refine lv_icmp_le (tgt := 104) hx hb dX2_bestHanding_89 (by decide) (fun q => ?_) (fun q => ?_)
        · have hf := hf_t q hf
          obtain ⟨x5, ex5, hf⟩ := nme hf
          refine lv_iinc (v := x5) (lv' := [(5, .int x5), (6, .int r4), (0, .ref (ea E 3)), (1, .int l1), (2, .int l2), (3, .int l3), (4, .int l4)]) hx hb dX2_bestHanding_104 hl (k := 6) rfl (ki_1 ex5) (by decide) rfl (fun ls hl => ?_)
          refine lv_goto (tgt := 33) hx hb dX2_bestHanding_107 (by decide) ?_
          exact hk33 _ hf _ _ _ hw (lv_sub hl [2, 3, 4, 5, 6, 0] rfl)
        · have hf := hf_f q hf
          refine lv_iload hx hb dX2_bestHanding_92 (lv_at hl 0 rfl) ?_
          refine lv_istore_n (lv' := [(2, .int r4), (6, .int r4), (0, .ref (ea E 3)), (1, .int l1), (3, .int l3), (4, .int l4), (5, .int l5)]) hx hb dX2_bestHanding_94 rfl hl (by decide) rfl (fun ls hl => ?_)
          refine lv_bipush (v := 100) hx hb dX2_bestHanding_95 kb_100 ?_
          refine lv_iload hx hb dX2_bestHanding_97 (lv_at hl 5 rfl) ?_
          refine lv_imul hx hb dX2_bestHanding_99 ?_
          refine lv_iload hx hb dX2_bestHanding_100 (lv_at hl 6 rfl) ?_
          refine lv_iadd hx hb dX2_bestHanding_102 ?_
          refine nm_i hf (fun x6 hf => ?_)
          refine lv_istore_n (lv' := [(3, .int x6), (2, .int r4), (6, .int r4), (0, .ref (ea E 3)), (1, .int l1), (4, .int l4), (5, .int l5)]) hx hb dX2_bestHanding_103 rfl hl (by decide) rfl (fun ls hl => ?_)
          obtain ⟨x7, ex7, hf⟩ := nme hf
          refine lv_iinc (v := x7) (lv' := [(5, .int x7), (3, .int x6), (2, .int r4), (6, .int r4), (0, .ref (ea E 3)), (1, .int l1), (4, .int l4)]) hx hb dX2_bestHanding_104 hl (k := 6) rfl (ki_1 ex7) (by decide) rfl (fun ls hl => ?_)
          refine lv_goto (tgt := 33) hx hb dX2_bestHanding_107 (by decide) ?_
          exact hk33 _ hf _ _ _ hw (lv_sub hl [4, 5, 2, 1, 6, 0] rfl)
      · have hf := hf_t q hf
        refine lv_goto (tgt := 104) hx hb dX2_bestHanding_72 (by decide) ?_
        obtain ⟨x8, ex8, hf⟩ := nme hf
        refine lv_iinc (v := x8) (lv' := [(5, .int x8), (0, .ref (ea E 3)), (1, .int l1), (2, .int l2), (3, .int l3), (4, .int l4)]) hx hb dX2_bestHanding_104 hl (k := 5) rfl (ki_1 ex8) (by decide) rfl (fun ls hl => ?_)
        refine lv_goto (tgt := 33) hx hb dX2_bestHanding_107 (by decide) ?_
        exact hk33 _ hf _ _ _ hw (lv_sub hl [1, 2, 3, 4, 5, 0] rfl)
theorem w_Dy_bestHanding_L33 {N : Nat} {k18 : (Int32 × Int32 × Int32) → Option Int32} {l1 : Int32} {l4 : Int32} {r : Int32} (C : Cx p s m args meth c E cX2_bestHanding 7 RX2 (some .int)) (hk18 : ∀ x, k18 x = some r → ∀ (H : Heap) (locs : List Loc) (ls : Array Slot), Wd E (wX V E) s.heap S H locs → lv_has ls 7 [(0, .ref (ea E 3)), (1, .int l1), (2, .int x.1), (3, .int x.2.1), (4, .int x.2.2)] → W p l e (rmh 5) s m args below meth c H locs 0 0 (MQ below (QW E (wX V E) (some (.int r)) S) args s 0 0 (eA E)) (F0 m 18 ls [])) : ∀ x, Dy_bestHanding_L33 N k18 S l1 l4 x = some r → ∀ (H : Heap) (locs : List Loc) (ls : Array Slot), Wd E (wX V E) s.heap S H locs → lv_has ls 7 [(0, .ref (ea E 3)), (1, .int l1), (2, .int x.1), (3, .int x.2.1), (4, .int l4), (5, .int x.2.2)] → W p l e (rmh 5) s m args below meth c H locs 0 0 (MQ below (QW E (wX V E) (some (.int r)) S) args s 0 0 (eA E)) (F0 m 33 ls []) :=
  lp_W (fun k x hk hf H locs ls hw hl => w_Dy_bestHanding_b33 C hk18 hk hw hl hf) N
set_option maxRecDepth 20000 in
theorem w_Dy_bestHanding_b18 {N : Nat} {k18 : (Int32 × Int32 × Int32) → Option Int32} {l1 : Int32} {l2 : Int32} {l3 : Int32} {l4 : Int32} {r : Int32} (C : Cx p s m args meth c E cX2_bestHanding 7 RX2 (some .int)) (hk18 : ∀ x, k18 x = some r → ∀ (H : Heap) (locs : List Loc) (ls : Array Slot), Wd E (wX V E) s.heap S H locs → lv_has ls 7 [(0, .ref (ea E 3)), (1, .int l1), (2, .int x.1), (3, .int x.2.1), (4, .int x.2.2)] → W p l e (rmh 5) s m args below meth c H locs 0 0 (MQ below (QW E (wX V E) (some (.int r)) S) args s 0 0 (eA E)) (F0 m 18 ls [])) (hw : Wd E (wX V E) s.heap S H locs) (hl : lv_has ls 7 [(0, .ref (ea E 3)), (1, .int l1), (2, .int l2), (3, .int l3), (4, .int l4)]) (hf : Dy_bestHanding_b18 N k18 S l1 l2 l3 l4 = some r) : W p l e (rmh 5) s m args below meth c H locs 0 0 (MQ below (QW E (wX V E) (some (.int r)) S) args s 0 0 (eA E)) (F0 m 18 ls []) := by
  have hx := C.1
  have hb := C.2.1
  unfold Dy_bestHanding_b18 at hf
  refine lv_iload hx hb dX2_bestHanding_18 (lv_at hl 4 rfl) ?_
  refine lv_aload_n hx hb dX2_bestHanding_20 rfl (lv_at hl 0 rfl) ?_
  refine get_3_0 C hw q_289 dX2_bestHanding_21 ?_
  refine get_1_10 C hw q_137 dX2_bestHanding_24 ?_
  refine lv_icmp_ge (tgt := 116) hx hb dX2_bestHanding_27 (by decide) (fun q => ?_) (fun q => ?_)
  · have hf := hf_t q hf
    refine lv_iload_n hx hb dX2_bestHanding_116 rfl (lv_at hl 3 rfl) ?_
    exact ret_i C hw dX2_bestHanding_117 hf
  · have hf := hf_f q hf
    refine lv_iconst (v := 0) hx hb dX2_bestHanding_30 kc_0 ?_
    refine lv_istore (lv' := [(5, .int (0 : Int32)), (0, .ref (ea E 3)), (1, .int l1), (2, .int l2), (3, .int l3), (4, .int l4)]) hx hb dX2_bestHanding_31 hl (by decide) rfl (fun ls hl => ?_)
    exact w_Dy_bestHanding_L33 C hk18 _ hf _ _ _ hw (lv_sub hl [1, 2, 3, 4, 5, 0] rfl)
theorem w_Dy_bestHanding_L18 {N : Nat} {l1 : Int32} {r : Int32} (C : Cx p s m args meth c E cX2_bestHanding 7 RX2 (some .int)) : ∀ x, Dy_bestHanding_L18 N S l1 x = some r → ∀ (H : Heap) (locs : List Loc) (ls : Array Slot), Wd E (wX V E) s.heap S H locs → lv_has ls 7 [(0, .ref (ea E 3)), (1, .int l1), (2, .int x.1), (3, .int x.2.1), (4, .int x.2.2)] → W p l e (rmh 5) s m args below meth c H locs 0 0 (MQ below (QW E (wX V E) (some (.int r)) S) args s 0 0 (eA E)) (F0 m 18 ls []) :=
  lp_W (fun k x hk hf H locs ls hw hl => w_Dy_bestHanding_b18 C hk hw hl hf) N
set_option maxRecDepth 20000 in
theorem w_Dy_bestHanding {N : Nat} {p1 : Int32} {r : Int32} (C : Cx p s m args meth c E cX2_bestHanding 7 RX2 (some .int)) (hw : Wd E (wX V E) s.heap S H locs) (hl : lv_has ls 7 [(0, .ref (ea E 3)), (1, .int p1)]) (hf : Dy_bestHanding N S p1 = some r) : W p l e (rmh 5) s m args below meth c H locs 0 0 (MQ below (QW E (wX V E) (some (.int r)) S) args s 0 0 (eA E)) (F0 m 0 ls []) := by
  have hx := C.1
  have hb := C.2.1
  unfold Dy_bestHanding at hf
  refine lv_aload_n hx hb dX2_bestHanding_0 rfl (lv_at hl 0 rfl) ?_
  refine get_3_0 C hw q_289 dX2_bestHanding_1 ?_
  refine lv_iload_n hx hb dX2_bestHanding_4 rfl (lv_at hl 1 rfl) ?_
  obtain ⟨r1, hr, hf⟩ := hf_1 hf
  refine inv_Vi (q0 := 1) (ci := 8) (As := [.int p1]) lk_X2_85 C hw rfl rfl rfl (t_Sm_ridersOn hr) rfl hl.1 dX2_bestHanding_5 rfl (Nat.le_of_ble_eq_true rfl) (by decide) (Nat.le_of_ble_eq_true rfl) rfl (fun H locs hw => ?_)
  obtain ⟨r2, hr, hf⟩ := hf_1 hf
  refine inv_Si (As := [.int r1]) lk_X2_88 C hw (t_In_bitCount hr) hl.1 dX2_bestHanding_8 rfl (Nat.le_of_ble_eq_true rfl) (by decide) (Nat.le_of_ble_eq_true rfl) rfl (fun H locs hw => ?_)
  refine lv_istore_n (lv' := [(2, .int r2), (0, .ref (ea E 3)), (1, .int p1)]) hx hb dX2_bestHanding_11 rfl hl (by decide) rfl (fun ls hl => ?_)
  refine lv_bipush (v := -2) hx hb dX2_bestHanding_12 kb_m2 ?_
  refine lv_istore_n (lv' := [(3, .int (-2 : Int32)), (2, .int r2), (0, .ref (ea E 3)), (1, .int p1)]) hx hb dX2_bestHanding_14 rfl hl (by decide) rfl (fun ls hl => ?_)
  refine lv_iconst (v := 0) hx hb dX2_bestHanding_15 kc_0 ?_
  refine lv_istore (lv' := [(4, .int (0 : Int32)), (3, .int (-2 : Int32)), (2, .int r2), (0, .ref (ea E 3)), (1, .int p1)]) hx hb dX2_bestHanding_16 hl (by decide) rfl (fun ls hl => ?_)
  exact w_Dy_bestHanding_L18 C _ hf _ _ _ hw (lv_sub hl [3, 4, 2, 1, 0] rfl)
end
theorem t_Dy_bestHanding {l : Launch} {V : St} {N : Nat} {S : St} {p1 : Int32} {r : Int32} (hf : Dy_bestHanding N S p1 = some r) : Ct l (wX V) yX2_bestHanding cX2_bestHanding 7 (some .int) 5 (fun E => [.ref (ea E 3), .int p1]) S (fun E => some (.int r)) S :=
  ofBlock (by decide +kernel) (fun _ => Nat.le_of_ble_eq_true rfl) (fun E p e s m args below meth c ls C hw hl => w_Dy_bestHanding C hw hl hf)
theorem dX3_now_0 : decode cX3_now 0 = .ok (.aload_n 0, 1) := by decide +kernel
theorem dX3_now_1 : decode cX3_now 1 = .ok (.getfield 11, 3) := by decide +kernel
theorem dX3_now_4 : decode cX3_now 4 = .ok (.iconst 4, 1) := by decide +kernel
theorem dX3_now_5 : decode cX3_now 5 = .ok (.iaload, 1) := by decide +kernel
theorem dX3_now_6 : decode cX3_now 6 = .ok (.ireturn, 1) := by decide +kernel
section
variable {p : Program} {l : Launch} {e : Env} {s : State} {m : MethodId} {args : Array Value} {below : List Frame} {meth : Method} {c : Code} {H : Heap} {locs : List Loc} {E : Ev} {S V : St} {ls : Array Slot}
set_option maxRecDepth 20000 in
theorem w_De_now {r : Int32} (C : Cx p s m args meth c E cX3_now 1 RX3 (some .int)) (hw : Wd E (wX V E) s.heap S H locs) (hl : lv_has ls 1 [(0, .ref (ea E 7))]) (hf : De_now S = some r) : W p l e (rmh 1) s m args below meth c H locs 0 0 (MQ below (QW E (wX V E) (some (.int r)) S) args s 0 0 (eA E)) (F0 m 0 ls []) := by
  have hx := C.1
  have hb := C.2.1
  unfold De_now at hf
  refine lv_aload_n hx hb dX3_now_0 rfl (lv_at hl 0 rfl) ?_
  refine get_7_0 C hw q_354 dX3_now_1 ?_
  refine lv_iconst (v := 4) hx hb dX3_now_4 kc_4 ?_
  refine ld_31 C hw (by decide) dX3_now_5 ?_
  exact ret_i C hw dX3_now_6 hf
end
theorem t_De_now {l : Launch} {V : St} {S : St} {r : Int32} (hf : De_now S = some r) : Ct l (wX V) yX3_now cX3_now 1 (some .int) 1 (fun E => [.ref (ea E 7)]) S (fun E => some (.int r)) S :=
  ofBlock (by decide +kernel) (fun _ => Nat.le_of_ble_eq_true rfl) (fun E p e s m args below meth c ls C hw hl => w_De_now C hw hl hf)
theorem dX3_endDay_0 : decode cX3_endDay 0 = .ok (.aload_n 0, 1) := by decide +kernel
theorem dX3_endDay_1 : decode cX3_endDay 1 = .ok (.getfield 11, 3) := by decide +kernel
theorem dX3_endDay_4 : decode cX3_endDay 4 = .ok (.iconst 3, 1) := by decide +kernel
theorem dX3_endDay_5 : decode cX3_endDay 5 = .ok (.dup2, 1) := by decide +kernel
theorem dX3_endDay_6 : decode cX3_endDay 6 = .ok (.iaload, 1) := by decide +kernel
theorem dX3_endDay_7 : decode cX3_endDay 7 = .ok (.aload_n 0, 1) := by decide +kernel
theorem dX3_endDay_8 : decode cX3_endDay 8 = .ok (.getfield 21, 3) := by decide +kernel
theorem dX3_endDay_11 : decode cX3_endDay 11 = .ok (.aload_n 0, 1) := by decide +kernel
theorem dX3_endDay_12 : decode cX3_endDay 12 = .ok (.getfield 11, 3) := by decide +kernel
theorem dX3_endDay_15 : decode cX3_endDay 15 = .ok (.iconst 4, 1) := by decide +kernel
theorem dX3_endDay_16 : decode cX3_endDay 16 = .ok (.iaload, 1) := by decide +kernel
theorem dX3_endDay_17 : decode cX3_endDay 17 = .ok (.invokevirtual 25, 3) := by decide +kernel
theorem dX3_endDay_20 : decode cX3_endDay 20 = .ok (.invokestatic 31, 3) := by decide +kernel
theorem dX3_endDay_23 : decode cX3_endDay 23 = .ok (.iadd, 1) := by decide +kernel
theorem dX3_endDay_24 : decode cX3_endDay 24 = .ok (.iastore, 1) := by decide +kernel
theorem dX3_endDay_25 : decode cX3_endDay 25 = .ok (.aload_n 0, 1) := by decide +kernel
theorem dX3_endDay_26 : decode cX3_endDay 26 = .ok (.getfield 11, 3) := by decide +kernel
theorem dX3_endDay_29 : decode cX3_endDay 29 = .ok (.iconst 0, 1) := by decide +kernel
theorem dX3_endDay_30 : decode cX3_endDay 30 = .ok (.dup2, 1) := by decide +kernel
theorem dX3_endDay_31 : decode cX3_endDay 31 = .ok (.iaload, 1) := by decide +kernel
theorem dX3_endDay_32 : decode cX3_endDay 32 = .ok (.iconst 1, 1) := by decide +kernel
theorem dX3_endDay_33 : decode cX3_endDay 33 = .ok (.iadd, 1) := by decide +kernel
theorem dX3_endDay_34 : decode cX3_endDay 34 = .ok (.iastore, 1) := by decide +kernel
theorem dX3_endDay_35 : decode cX3_endDay 35 = .ok (.aload_n 0, 1) := by decide +kernel
theorem dX3_endDay_36 : decode cX3_endDay 36 = .ok (.getfield 11, 3) := by decide +kernel
theorem dX3_endDay_39 : decode cX3_endDay 39 = .ok (.iconst 4, 1) := by decide +kernel
theorem dX3_endDay_40 : decode cX3_endDay 40 = .ok (.dup2, 1) := by decide +kernel
theorem dX3_endDay_41 : decode cX3_endDay 41 = .ok (.iaload, 1) := by decide +kernel
theorem dX3_endDay_42 : decode cX3_endDay 42 = .ok (.iconst 1, 1) := by decide +kernel
theorem dX3_endDay_43 : decode cX3_endDay 43 = .ok (.iadd, 1) := by decide +kernel
theorem dX3_endDay_44 : decode cX3_endDay 44 = .ok (.iastore, 1) := by decide +kernel
theorem dX3_endDay_45 : decode cX3_endDay 45 = .ok (.aload_n 0, 1) := by decide +kernel
theorem dX3_endDay_46 : decode cX3_endDay 46 = .ok (.getfield 11, 3) := by decide +kernel
theorem dX3_endDay_49 : decode cX3_endDay 49 = .ok (.iconst 4, 1) := by decide +kernel
theorem dX3_endDay_50 : decode cX3_endDay 50 = .ok (.iaload, 1) := by decide +kernel
theorem dX3_endDay_51 : decode cX3_endDay 51 = .ok (.ireturn, 1) := by decide +kernel
section
variable {p : Program} {l : Launch} {e : Env} {s : State} {m : MethodId} {args : Array Value} {below : List Frame} {meth : Method} {c : Code} {H : Heap} {locs : List Loc} {E : Ev} {S V : St} {ls : Array Slot}
set_option maxRecDepth 20000 in
theorem w_De_endDay {N : Nat} {r : Int32} {S9 : St} (C : Cx p s m args meth c E cX3_endDay 1 RX3 (some .int)) (hw : Wd E (wX V E) s.heap S H locs) (hl : lv_has ls 1 [(0, .ref (ea E 7))]) (hf : De_endDay N S = some (r, S9)) : W p l e (rmh 5) s m args below meth c H locs 0 0 (MQ below (QW E (wX V E) (some (.int r)) S9) args s 0 0 (eA E)) (F0 m 0 ls []) := by
  have hx := C.1
  have hb := C.2.1
  unfold De_endDay at hf
  refine lv_aload_n hx hb dX3_endDay_0 rfl (lv_at hl 0 rfl) ?_
  refine get_7_0 C hw q_354 dX3_endDay_1 ?_
  refine lv_iconst (v := 3) hx hb dX3_endDay_4 kc_3 ?_
  refine lv_dup2_11 hx hb dX3_endDay_5 rfl rfl ?_
  refine ld_31 C hw (by decide) dX3_endDay_6 ?_
  refine lv_aload_n hx hb dX3_endDay_7 rfl (lv_at hl 0 rfl) ?_
  refine get_7_2 C hw q_358 dX3_endDay_8 ?_
  refine lv_aload_n hx hb dX3_endDay_11 rfl (lv_at hl 0 rfl) ?_
  refine get_7_0 C hw q_354 dX3_endDay_12 ?_
  refine lv_iconst (v := 4) hx hb dX3_endDay_15 kc_4 ?_
  refine ld_31 C hw (by decide) dX3_endDay_16 ?_
  obtain ⟨r1, hr, hf⟩ := hf_1 hf
  refine inv_Vi (q0 := 1) (ci := 8) (As := [.int (gi S 31 (4 : Int32).toNatClampNeg)]) lk_X3_25 C hw rfl rfl rfl (t_Sm_ridersOn hr) rfl hl.1 dX3_endDay_17 rfl (Nat.le_of_ble_eq_true rfl) (by decide) (Nat.le_of_ble_eq_true rfl) rfl (fun H locs hw => ?_)
  obtain ⟨r2, hr, hf⟩ := hf_1 hf
  refine inv_Si (As := [.int r1]) lk_X3_31 C hw (t_In_bitCount hr) hl.1 dX3_endDay_20 rfl (Nat.le_of_ble_eq_true rfl) (by decide) (Nat.le_of_ble_eq_true rfl) rfl (fun H locs hw => ?_)
  refine lv_iadd hx hb dX3_endDay_23 ?_
  refine st_31 C hw (by decide) dX3_endDay_24 (fun H locs hw => ?_)
  refine nm_S hf hw (fun S3 hf hw => ?_)
  refine lv_aload_n hx hb dX3_endDay_25 rfl (lv_at hl 0 rfl) ?_
  refine get_7_0 C hw q_354 dX3_endDay_26 ?_
  refine lv_iconst (v := 0) hx hb dX3_endDay_29 kc_0 ?_
  refine lv_dup2_11 hx hb dX3_endDay_30 rfl rfl ?_
  refine ld_31 C hw (by decide) dX3_endDay_31 ?_
  refine lv_iconst (v := 1) hx hb dX3_endDay_32 kc_1 ?_
  refine lv_iadd hx hb dX3_endDay_33 ?_
  refine st_31 C hw (by decide) dX3_endDay_34 (fun H locs hw => ?_)
  refine nm_S hf hw (fun S4 hf hw => ?_)
  refine lv_aload_n hx hb dX3_endDay_35 rfl (lv_at hl 0 rfl) ?_
  refine get_7_0 C hw q_354 dX3_endDay_36 ?_
  refine lv_iconst (v := 4) hx hb dX3_endDay_39 kc_4 ?_
  refine lv_dup2_11 hx hb dX3_endDay_40 rfl rfl ?_
  refine ld_31 C hw (by decide) dX3_endDay_41 ?_
  refine lv_iconst (v := 1) hx hb dX3_endDay_42 kc_1 ?_
  refine lv_iadd hx hb dX3_endDay_43 ?_
  refine st_31 C hw (by decide) dX3_endDay_44 (fun H locs hw => ?_)
  refine nm_S hf hw (fun S5 hf hw => ?_)
  refine lv_aload_n hx hb dX3_endDay_45 rfl (lv_at hl 0 rfl) ?_
  refine get_7_0 C hw q_354 dX3_endDay_46 ?_
  refine lv_iconst (v := 4) hx hb dX3_endDay_49 kc_4 ?_
  refine ld_31 C hw (by decide) dX3_endDay_50 ?_
  exact ret_iS C hw dX3_endDay_51 hf
end
theorem t_De_endDay {l : Launch} {V : St} {N : Nat} {S : St} {r : Int32} {S9 : St} (hf : De_endDay N S = some (r, S9)) : Ct l (wX V) yX3_endDay cX3_endDay 1 (some .int) 5 (fun E => [.ref (ea E 7)]) S (fun E => some (.int r)) S9 :=
  ofBlock (by decide +kernel) (fun _ => Nat.le_of_ble_eq_true rfl) (fun E p e s m args below meth c ls C hw hl => w_De_endDay C hw hl hf)
theorem dX8_addPromise_0 : decode cX8_addPromise 0 = .ok (.aload_n 0, 1) := by decide +kernel
theorem dX8_addPromise_1 : decode cX8_addPromise 1 = .ok (.getfield 21, 3) := by decide +kernel
theorem dX8_addPromise_4 : decode cX8_addPromise 4 = .ok (.aload_n 0, 1) := by decide +kernel
theorem dX8_addPromise_5 : decode cX8_addPromise 5 = .ok (.getfield 43, 3) := by decide +kernel
theorem dX8_addPromise_8 : decode cX8_addPromise 8 = .ok (.iload_n 1, 1) := by decide +kernel
theorem dX8_addPromise_9 : decode cX8_addPromise 9 = .ok (.iastore, 1) := by decide +kernel
theorem dX8_addPromise_10 : decode cX8_addPromise 10 = .ok (.aload_n 0, 1) := by decide +kernel
theorem dX8_addPromise_11 : decode cX8_addPromise 11 = .ok (.getfield 24, 3) := by decide +kernel
theorem dX8_addPromise_14 : decode cX8_addPromise 14 = .ok (.aload_n 0, 1) := by decide +kernel
theorem dX8_addPromise_15 : decode cX8_addPromise 15 = .ok (.getfield 43, 3) := by decide +kernel
theorem dX8_addPromise_18 : decode cX8_addPromise 18 = .ok (.iload_n 2, 1) := by decide +kernel
theorem dX8_addPromise_19 : decode cX8_addPromise 19 = .ok (.iastore, 1) := by decide +kernel
theorem dX8_addPromise_20 : decode cX8_addPromise 20 = .ok (.aload_n 0, 1) := by decide +kernel
theorem dX8_addPromise_21 : decode cX8_addPromise 21 = .ok (.getfield 27, 3) := by decide +kernel
theorem dX8_addPromise_24 : decode cX8_addPromise 24 = .ok (.aload_n 0, 1) := by decide +kernel
theorem dX8_addPromise_25 : decode cX8_addPromise 25 = .ok (.getfield 43, 3) := by decide +kernel
theorem dX8_addPromise_28 : decode cX8_addPromise 28 = .ok (.iload_n 3, 1) := by decide +kernel
theorem dX8_addPromise_29 : decode cX8_addPromise 29 = .ok (.iastore, 1) := by decide +kernel
theorem dX8_addPromise_30 : decode cX8_addPromise 30 = .ok (.aload_n 0, 1) := by decide +kernel
theorem dX8_addPromise_31 : decode cX8_addPromise 31 = .ok (.getfield 30, 3) := by decide +kernel
theorem dX8_addPromise_34 : decode cX8_addPromise 34 = .ok (.aload_n 0, 1) := by decide +kernel
theorem dX8_addPromise_35 : decode cX8_addPromise 35 = .ok (.getfield 43, 3) := by decide +kernel
theorem dX8_addPromise_38 : decode cX8_addPromise 38 = .ok (.iload 4, 2) := by decide +kernel
theorem dX8_addPromise_40 : decode cX8_addPromise 40 = .ok (.iastore, 1) := by decide +kernel
theorem dX8_addPromise_41 : decode cX8_addPromise 41 = .ok (.aload_n 0, 1) := by decide +kernel
theorem dX8_addPromise_42 : decode cX8_addPromise 42 = .ok (.getfield 33, 3) := by decide +kernel
theorem dX8_addPromise_45 : decode cX8_addPromise 45 = .ok (.aload_n 0, 1) := by decide +kernel
theorem dX8_addPromise_46 : decode cX8_addPromise 46 = .ok (.getfield 43, 3) := by decide +kernel
theorem dX8_addPromise_49 : decode cX8_addPromise 49 = .ok (.iconst (-1), 1) := by decide +kernel
theorem dX8_addPromise_50 : decode cX8_addPromise 50 = .ok (.iastore, 1) := by decide +kernel
theorem dX8_addPromise_51 : decode cX8_addPromise 51 = .ok (.aload_n 0, 1) := by decide +kernel
theorem dX8_addPromise_52 : decode cX8_addPromise 52 = .ok (.getfield 36, 3) := by decide +kernel
theorem dX8_addPromise_55 : decode cX8_addPromise 55 = .ok (.aload_n 0, 1) := by decide +kernel
theorem dX8_addPromise_56 : decode cX8_addPromise 56 = .ok (.getfield 43, 3) := by decide +kernel
theorem dX8_addPromise_59 : decode cX8_addPromise 59 = .ok (.iconst (-1), 1) := by decide +kernel
theorem dX8_addPromise_60 : decode cX8_addPromise 60 = .ok (.iastore, 1) := by decide +kernel
theorem dX8_addPromise_61 : decode cX8_addPromise 61 = .ok (.aload_n 0, 1) := by decide +kernel
theorem dX8_addPromise_62 : decode cX8_addPromise 62 = .ok (.dup, 1) := by decide +kernel
theorem dX8_addPromise_63 : decode cX8_addPromise 63 = .ok (.getfield 43, 3) := by decide +kernel
theorem dX8_addPromise_66 : decode cX8_addPromise 66 = .ok (.dup_x1, 1) := by decide +kernel
theorem dX8_addPromise_67 : decode cX8_addPromise 67 = .ok (.iconst 1, 1) := by decide +kernel
theorem dX8_addPromise_68 : decode cX8_addPromise 68 = .ok (.iadd, 1) := by decide +kernel
theorem dX8_addPromise_69 : decode cX8_addPromise 69 = .ok (.putfield 43, 3) := by decide +kernel
theorem dX8_addPromise_72 : decode cX8_addPromise 72 = .ok (.ireturn, 1) := by decide +kernel
section
variable {p : Program} {l : Launch} {e : Env} {s : State} {m : MethodId} {args : Array Value} {below : List Frame} {meth : Method} {c : Code} {H : Heap} {locs : List Loc} {E : Ev} {S V : St} {ls : Array Slot}
set_option maxRecDepth 20000 in
theorem w_Sm_addPromise {p1 : Int32} {p2 : Int32} {p3 : Int32} {p4 : Int32} {r : Int32} {S9 : St} (C : Cx p s m args meth c E cX8_addPromise 5 RX8 (some .int)) (hw : Wd E (wX V E) s.heap S H locs) (hl : lv_has ls 5 [(0, .ref (ea E 1)), (1, .int p1), (2, .int p2), (3, .int p3), (4, .int p4)]) (hf : Sm_addPromise S p1 p2 p3 p4 = some (r, S9)) : W p l e (rmh 1) s m args below meth c H locs 0 0 (MQ below (QW E (wX V E) (some (.int r)) S9) args s 0 0 (eA E)) (F0 m 0 ls []) := by
  have hx := C.1
  have hb := C.2.1
  unfold Sm_addPromise at hf
  refine lv_aload_n hx hb dX8_addPromise_0 rfl (lv_at hl 0 rfl) ?_
  refine get_1_3 C hw q_113 dX8_addPromise_1 ?_
  refine lv_aload_n hx hb dX8_addPromise_4 rfl (lv_at hl 0 rfl) ?_
  refine get_1_10 C hw q_138 dX8_addPromise_5 ?_
  refine lv_iload_n hx hb dX8_addPromise_8 rfl (lv_at hl 1 rfl) ?_
  obtain ⟨hc, hf⟩ := hf_ck hf
  refine st_14 C hw hc dX8_addPromise_9 (fun H locs hw => ?_)
  refine nm_S hf hw (fun S1 hf hw => ?_)
  refine lv_aload_n hx hb dX8_addPromise_10 rfl (lv_at hl 0 rfl) ?_
  refine get_1_4 C hw q_117 dX8_addPromise_11 ?_
  refine lv_aload_n hx hb dX8_addPromise_14 rfl (lv_at hl 0 rfl) ?_
  refine get_1_10 C hw q_138 dX8_addPromise_15 ?_
  refine lv_iload_n hx hb dX8_addPromise_18 rfl (lv_at hl 2 rfl) ?_
  obtain ⟨hc, hf⟩ := hf_ck hf
  refine st_15 C hw hc dX8_addPromise_19 (fun H locs hw => ?_)
  refine nm_S hf hw (fun S2 hf hw => ?_)
  refine lv_aload_n hx hb dX8_addPromise_20 rfl (lv_at hl 0 rfl) ?_
  refine get_1_5 C hw q_120 dX8_addPromise_21 ?_
  refine lv_aload_n hx hb dX8_addPromise_24 rfl (lv_at hl 0 rfl) ?_
  refine get_1_10 C hw q_138 dX8_addPromise_25 ?_
  refine lv_iload_n hx hb dX8_addPromise_28 rfl (lv_at hl 3 rfl) ?_
  obtain ⟨hc, hf⟩ := hf_ck hf
  refine st_16 C hw hc dX8_addPromise_29 (fun H locs hw => ?_)
  refine nm_S hf hw (fun S3 hf hw => ?_)
  refine lv_aload_n hx hb dX8_addPromise_30 rfl (lv_at hl 0 rfl) ?_
  refine get_1_6 C hw q_123 dX8_addPromise_31 ?_
  refine lv_aload_n hx hb dX8_addPromise_34 rfl (lv_at hl 0 rfl) ?_
  refine get_1_10 C hw q_138 dX8_addPromise_35 ?_
  refine lv_iload hx hb dX8_addPromise_38 (lv_at hl 4 rfl) ?_
  obtain ⟨hc, hf⟩ := hf_ck hf
  refine st_17 C hw hc dX8_addPromise_40 (fun H locs hw => ?_)
  refine nm_S hf hw (fun S4 hf hw => ?_)
  refine lv_aload_n hx hb dX8_addPromise_41 rfl (lv_at hl 0 rfl) ?_
  refine get_1_7 C hw q_128 dX8_addPromise_42 ?_
  refine lv_aload_n hx hb dX8_addPromise_45 rfl (lv_at hl 0 rfl) ?_
  refine get_1_10 C hw q_138 dX8_addPromise_46 ?_
  refine lv_iconst (v := -1) hx hb dX8_addPromise_49 kc_m1 ?_
  obtain ⟨hc, hf⟩ := hf_ck hf
  refine st_18 C hw hc dX8_addPromise_50 (fun H locs hw => ?_)
  refine nm_S hf hw (fun S5 hf hw => ?_)
  refine lv_aload_n hx hb dX8_addPromise_51 rfl (lv_at hl 0 rfl) ?_
  refine get_1_8 C hw q_132 dX8_addPromise_52 ?_
  refine lv_aload_n hx hb dX8_addPromise_55 rfl (lv_at hl 0 rfl) ?_
  refine get_1_10 C hw q_138 dX8_addPromise_56 ?_
  refine lv_iconst (v := -1) hx hb dX8_addPromise_59 kc_m1 ?_
  obtain ⟨hc, hf⟩ := hf_ck hf
  refine st_19 C hw hc dX8_addPromise_60 (fun H locs hw => ?_)
  refine nm_S hf hw (fun S6 hf hw => ?_)
  refine lv_aload_n hx hb dX8_addPromise_61 rfl (lv_at hl 0 rfl) ?_
  refine lv_dup hx hb dX8_addPromise_62 rfl ?_
  refine get_1_10 C hw q_138 dX8_addPromise_63 ?_
  refine nm_i hf (fun x7 hf => ?_)
  refine lv_dup_x1 hx hb dX8_addPromise_66 rfl rfl ?_
  refine lv_iconst (v := 1) hx hb dX8_addPromise_67 kc_1 ?_
  refine lv_iadd hx hb dX8_addPromise_68 ?_
  refine put_1_10 C hw q_138 dX8_addPromise_69 (fun H locs hw => ?_)
  refine nm_S hf hw (fun S8 hf hw => ?_)
  exact ret_iS C hw dX8_addPromise_72 hf
end
theorem t_Sm_addPromise {l : Launch} {V : St} {S : St} {p1 : Int32} {p2 : Int32} {p3 : Int32} {p4 : Int32} {r : Int32} {S9 : St} (hf : Sm_addPromise S p1 p2 p3 p4 = some (r, S9)) : Ct l (wX V) yX8_addPromise cX8_addPromise 5 (some .int) 1 (fun E => [.ref (ea E 1), .int p1, .int p2, .int p3, .int p4]) S (fun E => some (.int r)) S9 :=
  ofBlock (by decide +kernel) (fun _ => Nat.le_of_ble_eq_true rfl) (fun E p e s m args below meth c ls C hw hl => w_Sm_addPromise C hw hl hf)
theorem dX3_makePromise_0 : decode cX3_makePromise 0 = .ok (.aload_n 0, 1) := by decide +kernel
theorem dX3_makePromise_1 : decode cX3_makePromise 1 = .ok (.getfield 11, 3) := by decide +kernel
theorem dX3_makePromise_4 : decode cX3_makePromise 4 = .ok (.iconst 1, 1) := by decide +kernel
theorem dX3_makePromise_5 : decode cX3_makePromise 5 = .ok (.dup2, 1) := by decide +kernel
theorem dX3_makePromise_6 : decode cX3_makePromise 6 = .ok (.iaload, 1) := by decide +kernel
theorem dX3_makePromise_7 : decode cX3_makePromise 7 = .ok (.iconst 1, 1) := by decide +kernel
theorem dX3_makePromise_8 : decode cX3_makePromise 8 = .ok (.iadd, 1) := by decide +kernel
theorem dX3_makePromise_9 : decode cX3_makePromise 9 = .ok (.iastore, 1) := by decide +kernel
theorem dX3_makePromise_10 : decode cX3_makePromise 10 = .ok (.aload_n 0, 1) := by decide +kernel
theorem dX3_makePromise_11 : decode cX3_makePromise 11 = .ok (.getfield 21, 3) := by decide +kernel
theorem dX3_makePromise_14 : decode cX3_makePromise 14 = .ok (.iload_n 1, 1) := by decide +kernel
theorem dX3_makePromise_15 : decode cX3_makePromise 15 = .ok (.aload_n 0, 1) := by decide +kernel
theorem dX3_makePromise_16 : decode cX3_makePromise 16 = .ok (.getfield 11, 3) := by decide +kernel
theorem dX3_makePromise_19 : decode cX3_makePromise 19 = .ok (.iconst 4, 1) := by decide +kernel
theorem dX3_makePromise_20 : decode cX3_makePromise 20 = .ok (.iaload, 1) := by decide +kernel
theorem dX3_makePromise_21 : decode cX3_makePromise 21 = .ok (.iload_n 2, 1) := by decide +kernel
theorem dX3_makePromise_22 : decode cX3_makePromise 22 = .ok (.iload_n 3, 1) := by decide +kernel
theorem dX3_makePromise_23 : decode cX3_makePromise 23 = .ok (.invokevirtual 36, 3) := by decide +kernel
theorem dX3_makePromise_26 : decode cX3_makePromise 26 = .ok (.ireturn, 1) := by decide +kernel
section
variable {p : Program} {l : Launch} {e : Env} {s : State} {m : MethodId} {args : Array Value} {below : List Frame} {meth : Method} {c : Code} {H : Heap} {locs : List Loc} {E : Ev} {S V : St} {ls : Array Slot}
set_option maxRecDepth 20000 in
theorem w_De_makePromise {p1 : Int32} {p2 : Int32} {p3 : Int32} {r : Int32} {S9 : St} (C : Cx p s m args meth c E cX3_makePromise 4 RX3 (some .int)) (hw : Wd E (wX V E) s.heap S H locs) (hl : lv_has ls 4 [(0, .ref (ea E 7)), (1, .int p1), (2, .int p2), (3, .int p3)]) (hf : De_makePromise S p1 p2 p3 = some (r, S9)) : W p l e (rmh 2) s m args below meth c H locs 0 0 (MQ below (QW E (wX V E) (some (.int r)) S9) args s 0 0 (eA E)) (F0 m 0 ls []) := by
  have hx := C.1
  have hb := C.2.1
  unfold De_makePromise at hf
  refine lv_aload_n hx hb dX3_makePromise_0 rfl (lv_at hl 0 rfl) ?_
  refine get_7_0 C hw q_354 dX3_makePromise_1 ?_
  refine lv_iconst (v := 1) hx hb dX3_makePromise_4 kc_1 ?_
  refine lv_dup2_11 hx hb dX3_makePromise_5 rfl rfl ?_
  refine ld_31 C hw (by decide) dX3_makePromise_6 ?_
  refine lv_iconst (v := 1) hx hb dX3_makePromise_7 kc_1 ?_
  refine lv_iadd hx hb dX3_makePromise_8 ?_
  refine st_31 C hw (by decide) dX3_makePromise_9 (fun H locs hw => ?_)
  refine nm_S hf hw (fun S1 hf hw => ?_)
  refine lv_aload_n hx hb dX3_makePromise_10 rfl (lv_at hl 0 rfl) ?_
  refine get_7_2 C hw q_358 dX3_makePromise_11 ?_
  refine lv_iload_n hx hb dX3_makePromise_14 rfl (lv_at hl 1 rfl) ?_
  refine lv_aload_n hx hb dX3_makePromise_15 rfl (lv_at hl 0 rfl) ?_
  refine get_7_0 C hw q_354 dX3_makePromise_16 ?_
  refine lv_iconst (v := 4) hx hb dX3_makePromise_19 kc_4 ?_
  refine ld_31 C hw (by decide) dX3_makePromise_20 ?_
  refine lv_iload_n hx hb dX3_makePromise_21 rfl (lv_at hl 2 rfl) ?_
  refine lv_iload_n hx hb dX3_makePromise_22 rfl (lv_at hl 3 rfl) ?_
  obtain ⟨r3, S2, hr, hf⟩ := hf_2 hf
  refine inv_Vi (q0 := 1) (ci := 8) (As := [.int p1, .int (gi S1 31 (4 : Int32).toNatClampNeg), .int p2, .int p3]) lk_X3_36 C hw rfl rfl rfl (t_Sm_addPromise hr) rfl hl.1 dX3_makePromise_23 rfl (Nat.le_of_ble_eq_true rfl) (by decide) (Nat.le_of_ble_eq_true rfl) rfl (fun H locs hw => ?_)
  exact ret_iS C hw dX3_makePromise_26 hf
end
theorem t_De_makePromise {l : Launch} {V : St} {S : St} {p1 : Int32} {p2 : Int32} {p3 : Int32} {r : Int32} {S9 : St} (hf : De_makePromise S p1 p2 p3 = some (r, S9)) : Ct l (wX V) yX3_makePromise cX3_makePromise 4 (some .int) 2 (fun E => [.ref (ea E 7), .int p1, .int p2, .int p3]) S (fun E => some (.int r)) S9 :=
  ofBlock (by decide +kernel) (fun _ => Nat.le_of_ble_eq_true rfl) (fun E p e s m args below meth c ls C hw hl => w_De_makePromise C hw hl hf)
theorem dX8_openOnes_0 : decode cX8_openOnes 0 = .ok (.iconst 0, 1) := by decide +kernel
theorem dX8_openOnes_1 : decode cX8_openOnes 1 = .ok (.istore_n 2, 1) := by decide +kernel
theorem dX8_openOnes_2 : decode cX8_openOnes 2 = .ok (.iconst 0, 1) := by decide +kernel
theorem dX8_openOnes_3 : decode cX8_openOnes 3 = .ok (.istore_n 3, 1) := by decide +kernel
theorem dX8_openOnes_4 : decode cX8_openOnes 4 = .ok (.iload_n 3, 1) := by decide +kernel
theorem dX8_openOnes_5 : decode cX8_openOnes 5 = .ok (.aload_n 0, 1) := by decide +kernel
theorem dX8_openOnes_6 : decode cX8_openOnes 6 = .ok (.getfield 43, 3) := by decide +kernel
theorem dX8_openOnes_9 : decode cX8_openOnes 9 = .ok (.if_icmp .ge 24, 3) := by decide +kernel
theorem dX8_openOnes_12 : decode cX8_openOnes 12 = .ok (.aload_n 0, 1) := by decide +kernel
theorem dX8_openOnes_13 : decode cX8_openOnes 13 = .ok (.iload_n 3, 1) := by decide +kernel
theorem dX8_openOnes_14 : decode cX8_openOnes 14 = .ok (.iload_n 1, 1) := by decide +kernel
theorem dX8_openOnes_15 : decode cX8_openOnes 15 = .ok (.invokevirtual 64, 3) := by decide +kernel
theorem dX8_openOnes_18 : decode cX8_openOnes 18 = .ok (.ifCond .eq 9, 3) := by decide +kernel
theorem dX8_openOnes_21 : decode cX8_openOnes 21 = .ok (.iload_n 2, 1) := by decide +kernel
theorem dX8_openOnes_22 : decode cX8_openOnes 22 = .ok (.iconst 1, 1) := by decide +kernel
theorem dX8_openOnes_23 : decode cX8_openOnes 23 = .ok (.iload_n 3, 1) := by decide +kernel
theorem dX8_openOnes_24 : decode cX8_openOnes 24 = .ok (.ishl, 1) := by decide +kernel
theorem dX8_openOnes_25 : decode cX8_openOnes 25 = .ok (.ior, 1) := by decide +kernel
theorem dX8_openOnes_26 : decode cX8_openOnes 26 = .ok (.istore_n 2, 1) := by decide +kernel
theorem dX8_openOnes_27 : decode cX8_openOnes 27 = .ok (.iinc 3 1, 3) := by decide +kernel
theorem dX8_openOnes_30 : decode cX8_openOnes 30 = .ok (.goto (-26), 3) := by decide +kernel
theorem dX8_openOnes_33 : decode cX8_openOnes 33 = .ok (.iload_n 2, 1) := by decide +kernel
theorem dX8_openOnes_34 : decode cX8_openOnes 34 = .ok (.ireturn, 1) := by decide +kernel
section
variable {p : Program} {l : Launch} {e : Env} {s : State} {m : MethodId} {args : Array Value} {below : List Frame} {meth : Method} {c : Code} {H : Heap} {locs : List Loc} {E : Ev} {S V : St} {ls : Array Slot}
set_option maxRecDepth 20000 in
theorem w_Sm_openOnes_b4 {N : Nat} {k4 : (Int32 × Int32) → Option Int32} {l1 : Int32} {l2 : Int32} {l3 : Int32} {r : Int32} (C : Cx p s m args meth c E cX8_openOnes 4 RX8 (some .int)) (hk4 : ∀ x, k4 x = some r → ∀ (H : Heap) (locs : List Loc) (ls : Array Slot), Wd E (wX V E) s.heap S H locs → lv_has ls 4 [(0, .ref (ea E 1)), (1, .int l1), (2, .int x.1), (3, .int x.2)] → W p l e (rmh 2) s m args below meth c H locs 0 0 (MQ below (QW E (wX V E) (some (.int r)) S) args s 0 0 (eA E)) (F0 m 4 ls [])) (hw : Wd E (wX V E) s.heap S H locs) (hl : lv_has ls 4 [(0, .ref (ea E 1)), (1, .int l1), (2, .int l2), (3, .int l3)]) (hf : Sm_openOnes_b4 N k4 S l1 l2 l3 = some r) : W p l e (rmh 2) s m args below meth c H locs 0 0 (MQ below (QW E (wX V E) (some (.int r)) S) args s 0 0 (eA E)) (F0 m 4 ls []) := by
  have hx := C.1
  have hb := C.2.1
  unfold Sm_openOnes_b4 at hf
  refine lv_iload_n hx hb dX8_openOnes_4 rfl (lv_at hl 3 rfl) ?_
  refine lv_aload_n hx hb dX8_openOnes_5 rfl (lv_at hl 0 rfl) ?_
  refine get_1_10 C hw q_138 dX8_openOnes_6 ?_
  refine lv_icmp_ge (tgt := 33) hx hb dX8_openOnes_9 (by decide) (fun q => ?_) (fun q => ?_)
  · have hf := hf_t q hf
    refine lv_iload_n hx hb dX8_openOnes_33 rfl (lv_at hl 2 rfl) ?_
    exact ret_i C hw dX8_openOnes_34 hf
  · have hf := hf_f q hf
    refine lv_aload_n hx hb dX8_openOnes_12 rfl (lv_at hl 0 rfl) ?_
    refine lv_iload_n hx hb dX8_openOnes_13 rfl (lv_at hl 3 rfl) ?_
    refine lv_iload_n hx hb dX8_openOnes_14 rfl (lv_at hl 1 rfl) ?_
    obtain ⟨r1, hr, hf⟩ := hf_1 hf
    refine inv_Vi (q0 := 1) (ci := 8) (As := [.int l3, .int l1]) lk_X8_64 C hw rfl rfl rfl (t_Sm_isOpen hr) rfl hl.1 dX8_openOnes_15 rfl (Nat.le_of_ble_eq_true rfl) (by decide) (Nat.le_of_ble_eq_true rfl) rfl (fun H locs hw => ?_)
    refine lv_if_eq (tgt := 27) hx hb dX8_openOnes_18 (by decide) (fun q => ?_) (fun q => ?_)
    · have hf := hf_t q hf
      obtain ⟨x2, ex2, hf⟩ := nme hf
      refine lv_iinc (v := x2) (lv' := [(3, .int x2), (0, .ref (ea E 1)), (1, .int l1), (2, .int l2)]) hx hb dX8_openOnes_27 hl (k := 3) rfl (ki_1 ex2) (by decide) rfl (fun ls hl => ?_)
      refine lv_goto (tgt := 4) hx hb dX8_openOnes_30 (by decide) ?_
      exact hk4 _ hf _ _ _ hw (lv_sub hl [1, 2, 3, 0] rfl)
    · have hf := hf_f q hf
      refine lv_iload_n hx hb dX8_openOnes_21 rfl (lv_at hl 2 rfl) ?_
      refine lv_iconst (v := 1) hx hb dX8_openOnes_22 kc_1 ?_
      refine lv_iload_n hx hb dX8_openOnes_23 rfl (lv_at hl 3 rfl) ?_
      refine lv_ishl hx hb dX8_openOnes_24 ?_
      refine lv_ior hx hb dX8_openOnes_25 ?_
      refine nm_i hf (fun x3 hf => ?_)
      refine lv_istore_n (lv' := [(2, .int x3), (0, .ref (ea E 1)), (1, .int l1), (3, .int l3)]) hx hb dX8_openOnes_26 rfl hl (by decide) rfl (fun ls hl => ?_)
      obtain ⟨x4, ex4, hf⟩ := nme hf
      refine lv_iinc (v := x4) (lv' := [(3, .int x4), (2, .int x3), (0, .ref (ea E 1)), (1, .int l1)]) hx hb dX8_openOnes_27 hl (k := 3) rfl (ki_1 ex4) (by decide) rfl (fun ls hl => ?_)
      refine lv_goto (tgt := 4) hx hb dX8_openOnes_30 (by decide) ?_
      exact hk4 _ hf _ _ _ hw (lv_sub hl [2, 3, 1, 0] rfl)
theorem w_Sm_openOnes_L4 {N : Nat} {l1 : Int32} {r : Int32} (C : Cx p s m args meth c E cX8_openOnes 4 RX8 (some .int)) : ∀ x, Sm_openOnes_L4 N S l1 x = some r → ∀ (H : Heap) (locs : List Loc) (ls : Array Slot), Wd E (wX V E) s.heap S H locs → lv_has ls 4 [(0, .ref (ea E 1)), (1, .int l1), (2, .int x.1), (3, .int x.2)] → W p l e (rmh 2) s m args below meth c H locs 0 0 (MQ below (QW E (wX V E) (some (.int r)) S) args s 0 0 (eA E)) (F0 m 4 ls []) :=
  lp_W (fun k x hk hf H locs ls hw hl => w_Sm_openOnes_b4 C hk hw hl hf) N
set_option maxRecDepth 20000 in
theorem w_Sm_openOnes {N : Nat} {p1 : Int32} {r : Int32} (C : Cx p s m args meth c E cX8_openOnes 4 RX8 (some .int)) (hw : Wd E (wX V E) s.heap S H locs) (hl : lv_has ls 4 [(0, .ref (ea E 1)), (1, .int p1)]) (hf : Sm_openOnes N S p1 = some r) : W p l e (rmh 2) s m args below meth c H locs 0 0 (MQ below (QW E (wX V E) (some (.int r)) S) args s 0 0 (eA E)) (F0 m 0 ls []) := by
  have hx := C.1
  have hb := C.2.1
  unfold Sm_openOnes at hf
  refine lv_iconst (v := 0) hx hb dX8_openOnes_0 kc_0 ?_
  refine lv_istore_n (lv' := [(2, .int (0 : Int32)), (0, .ref (ea E 1)), (1, .int p1)]) hx hb dX8_openOnes_1 rfl hl (by decide) rfl (fun ls hl => ?_)
  refine lv_iconst (v := 0) hx hb dX8_openOnes_2 kc_0 ?_
  refine lv_istore_n (lv' := [(3, .int (0 : Int32)), (2, .int (0 : Int32)), (0, .ref (ea E 1)), (1, .int p1)]) hx hb dX8_openOnes_3 rfl hl (by decide) rfl (fun ls hl => ?_)
  exact w_Sm_openOnes_L4 C _ hf _ _ _ hw (lv_sub hl [2, 3, 1, 0] rfl)
end
theorem t_Sm_openOnes {l : Launch} {V : St} {N : Nat} {S : St} {p1 : Int32} {r : Int32} (hf : Sm_openOnes N S p1 = some r) : Ct l (wX V) yX8_openOnes cX8_openOnes 4 (some .int) 2 (fun E => [.ref (ea E 1), .int p1]) S (fun E => some (.int r)) S :=
  ofBlock (by decide +kernel) (fun _ => Nat.le_of_ble_eq_true rfl) (fun E p e s m args below meth c ls C hw hl => w_Sm_openOnes C hw hl hf)
theorem dX3_keepPromise_0 : decode cX3_keepPromise 0 = .ok (.aload_n 0, 1) := by decide +kernel
theorem dX3_keepPromise_1 : decode cX3_keepPromise 1 = .ok (.getfield 11, 3) := by decide +kernel
theorem dX3_keepPromise_4 : decode cX3_keepPromise 4 = .ok (.iconst 2, 1) := by decide +kernel
theorem dX3_keepPromise_5 : decode cX3_keepPromise 5 = .ok (.dup2, 1) := by decide +kernel
theorem dX3_keepPromise_6 : decode cX3_keepPromise 6 = .ok (.iaload, 1) := by decide +kernel
theorem dX3_keepPromise_7 : decode cX3_keepPromise 7 = .ok (.iconst 1, 1) := by decide +kernel
theorem dX3_keepPromise_8 : decode cX3_keepPromise 8 = .ok (.iadd, 1) := by decide +kernel
theorem dX3_keepPromise_9 : decode cX3_keepPromise 9 = .ok (.iastore, 1) := by decide +kernel
theorem dX3_keepPromise_10 : decode cX3_keepPromise 10 = .ok (.aload_n 0, 1) := by decide +kernel
theorem dX3_keepPromise_11 : decode cX3_keepPromise 11 = .ok (.getfield 21, 3) := by decide +kernel
theorem dX3_keepPromise_14 : decode cX3_keepPromise 14 = .ok (.getfield 40, 3) := by decide +kernel
theorem dX3_keepPromise_17 : decode cX3_keepPromise 17 = .ok (.iload_n 1, 1) := by decide +kernel
theorem dX3_keepPromise_18 : decode cX3_keepPromise 18 = .ok (.aload_n 0, 1) := by decide +kernel
theorem dX3_keepPromise_19 : decode cX3_keepPromise 19 = .ok (.getfield 11, 3) := by decide +kernel
theorem dX3_keepPromise_22 : decode cX3_keepPromise 22 = .ok (.iconst 4, 1) := by decide +kernel
theorem dX3_keepPromise_23 : decode cX3_keepPromise 23 = .ok (.iaload, 1) := by decide +kernel
theorem dX3_keepPromise_24 : decode cX3_keepPromise 24 = .ok (.iastore, 1) := by decide +kernel
theorem dX3_keepPromise_25 : decode cX3_keepPromise 25 = .ok (.aload_n 0, 1) := by decide +kernel
theorem dX3_keepPromise_26 : decode cX3_keepPromise 26 = .ok (.getfield 21, 3) := by decide +kernel
theorem dX3_keepPromise_29 : decode cX3_keepPromise 29 = .ok (.aload_n 0, 1) := by decide +kernel
theorem dX3_keepPromise_30 : decode cX3_keepPromise 30 = .ok (.getfield 11, 3) := by decide +kernel
theorem dX3_keepPromise_33 : decode cX3_keepPromise 33 = .ok (.iconst 4, 1) := by decide +kernel
theorem dX3_keepPromise_34 : decode cX3_keepPromise 34 = .ok (.iaload, 1) := by decide +kernel
theorem dX3_keepPromise_35 : decode cX3_keepPromise 35 = .ok (.invokevirtual 43, 3) := by decide +kernel
theorem dX3_keepPromise_38 : decode cX3_keepPromise 38 = .ok (.invokestatic 31, 3) := by decide +kernel
theorem dX3_keepPromise_41 : decode cX3_keepPromise 41 = .ok (.ireturn, 1) := by decide +kernel
section
variable {p : Program} {l : Launch} {e : Env} {s : State} {m : MethodId} {args : Array Value} {below : List Frame} {meth : Method} {c : Code} {H : Heap} {locs : List Loc} {E : Ev} {S V : St} {ls : Array Slot}
set_option maxRecDepth 20000 in
theorem w_De_keepPromise {N : Nat} {p1 : Int32} {r : Int32} {S9 : St} (C : Cx p s m args meth c E cX3_keepPromise 2 RX3 (some .int)) (hw : Wd E (wX V E) s.heap S H locs) (hl : lv_has ls 2 [(0, .ref (ea E 7)), (1, .int p1)]) (hf : De_keepPromise N S p1 = some (r, S9)) : W p l e (rmh 3) s m args below meth c H locs 0 0 (MQ below (QW E (wX V E) (some (.int r)) S9) args s 0 0 (eA E)) (F0 m 0 ls []) := by
  have hx := C.1
  have hb := C.2.1
  unfold De_keepPromise at hf
  refine lv_aload_n hx hb dX3_keepPromise_0 rfl (lv_at hl 0 rfl) ?_
  refine get_7_0 C hw q_354 dX3_keepPromise_1 ?_
  refine lv_iconst (v := 2) hx hb dX3_keepPromise_4 kc_2 ?_
  refine lv_dup2_11 hx hb dX3_keepPromise_5 rfl rfl ?_
  refine ld_31 C hw (by decide) dX3_keepPromise_6 ?_
  refine lv_iconst (v := 1) hx hb dX3_keepPromise_7 kc_1 ?_
  refine lv_iadd hx hb dX3_keepPromise_8 ?_
  refine st_31 C hw (by decide) dX3_keepPromise_9 (fun H locs hw => ?_)
  refine nm_S hf hw (fun S1 hf hw => ?_)
  refine lv_aload_n hx hb dX3_keepPromise_10 rfl (lv_at hl 0 rfl) ?_
  refine get_7_2 C hw q_358 dX3_keepPromise_11 ?_
  refine get_1_7 C hw q_130 dX3_keepPromise_14 ?_
  refine lv_iload_n hx hb dX3_keepPromise_17 rfl (lv_at hl 1 rfl) ?_
  refine lv_aload_n hx hb dX3_keepPromise_18 rfl (lv_at hl 0 rfl) ?_
  refine get_7_0 C hw q_354 dX3_keepPromise_19 ?_
  refine lv_iconst (v := 4) hx hb dX3_keepPromise_22 kc_4 ?_
  refine ld_31 C hw (by decide) dX3_keepPromise_23 ?_
  obtain ⟨hc, hf⟩ := hf_ck hf
  refine st_18 C hw hc dX3_keepPromise_24 (fun H locs hw => ?_)
  refine nm_S hf hw (fun S2 hf hw => ?_)
  refine lv_aload_n hx hb dX3_keepPromise_25 rfl (lv_at hl 0 rfl) ?_
  refine get_7_2 C hw q_358 dX3_keepPromise_26 ?_
  refine lv_aload_n hx hb dX3_keepPromise_29 rfl (lv_at hl 0 rfl) ?_
  refine get_7_0 C hw q_354 dX3_keepPromise_30 ?_
  refine lv_iconst (v := 4) hx hb dX3_keepPromise_33 kc_4 ?_
  refine ld_31 C hw (by decide) dX3_keepPromise_34 ?_
  obtain ⟨r3, hr, hf⟩ := hf_1 hf
  refine inv_Vi (q0 := 1) (ci := 8) (As := [.int (gi S2 31 (4 : Int32).toNatClampNeg)]) lk_X3_43 C hw rfl rfl rfl (t_Sm_openOnes hr) rfl hl.1 dX3_keepPromise_35 rfl (Nat.le_of_ble_eq_true rfl) (by decide) (Nat.le_of_ble_eq_true rfl) rfl (fun H locs hw => ?_)
  obtain ⟨r4, hr, hf⟩ := hf_1 hf
  refine inv_Si (As := [.int r3]) lk_X3_31 C hw (t_In_bitCount hr) hl.1 dX3_keepPromise_38 rfl (Nat.le_of_ble_eq_true rfl) (by decide) (Nat.le_of_ble_eq_true rfl) rfl (fun H locs hw => ?_)
  exact ret_iS C hw dX3_keepPromise_41 hf
end
theorem t_De_keepPromise {l : Launch} {V : St} {N : Nat} {S : St} {p1 : Int32} {r : Int32} {S9 : St} (hf : De_keepPromise N S p1 = some (r, S9)) : Ct l (wX V) yX3_keepPromise cX3_keepPromise 2 (some .int) 3 (fun E => [.ref (ea E 7), .int p1]) S (fun E => some (.int r)) S9 :=
  ofBlock (by decide +kernel) (fun _ => Nat.le_of_ble_eq_true rfl) (fun E p e s m args below meth c ls C hw hl => w_De_keepPromise C hw hl hf)
theorem dX3_keepImage_0 : decode cX3_keepImage 0 = .ok (.aload_n 0, 1) := by decide +kernel
theorem dX3_keepImage_1 : decode cX3_keepImage 1 = .ok (.getfield 11, 3) := by decide +kernel
theorem dX3_keepImage_4 : decode cX3_keepImage 4 = .ok (.iconst 0, 1) := by decide +kernel
theorem dX3_keepImage_5 : decode cX3_keepImage 5 = .ok (.aload_n 0, 1) := by decide +kernel
theorem dX3_keepImage_6 : decode cX3_keepImage 6 = .ok (.getfield 15, 3) := by decide +kernel
theorem dX3_keepImage_9 : decode cX3_keepImage 9 = .ok (.iconst 0, 1) := by decide +kernel
theorem dX3_keepImage_10 : decode cX3_keepImage 10 = .ok (.aload_n 0, 1) := by decide +kernel
theorem dX3_keepImage_11 : decode cX3_keepImage 11 = .ok (.getfield 11, 3) := by decide +kernel
theorem dX3_keepImage_14 : decode cX3_keepImage 14 = .ok (.arraylength, 1) := by decide +kernel
theorem dX3_keepImage_15 : decode cX3_keepImage 15 = .ok (.invokestatic 46, 3) := by decide +kernel
theorem dX3_keepImage_18 : decode cX3_keepImage 18 = .ok (.aload_n 0, 1) := by decide +kernel
theorem dX3_keepImage_19 : decode cX3_keepImage 19 = .ok (.getfield 21, 3) := by decide +kernel
theorem dX3_keepImage_22 : decode cX3_keepImage 22 = .ok (.getfield 40, 3) := by decide +kernel
theorem dX3_keepImage_25 : decode cX3_keepImage 25 = .ok (.iconst 0, 1) := by decide +kernel
theorem dX3_keepImage_26 : decode cX3_keepImage 26 = .ok (.aload_n 0, 1) := by decide +kernel
theorem dX3_keepImage_27 : decode cX3_keepImage 27 = .ok (.getfield 18, 3) := by decide +kernel
theorem dX3_keepImage_30 : decode cX3_keepImage 30 = .ok (.iconst 0, 1) := by decide +kernel
theorem dX3_keepImage_31 : decode cX3_keepImage 31 = .ok (.aload_n 0, 1) := by decide +kernel
theorem dX3_keepImage_32 : decode cX3_keepImage 32 = .ok (.getfield 21, 3) := by decide +kernel
theorem dX3_keepImage_35 : decode cX3_keepImage 35 = .ok (.getfield 52, 3) := by decide +kernel
theorem dX3_keepImage_38 : decode cX3_keepImage 38 = .ok (.invokestatic 46, 3) := by decide +kernel
theorem dX3_keepImage_41 : decode cX3_keepImage 41 = .ok (.aload_n 0, 1) := by decide +kernel
theorem dX3_keepImage_42 : decode cX3_keepImage 42 = .ok (.aload_n 0, 1) := by decide +kernel
theorem dX3_keepImage_43 : decode cX3_keepImage 43 = .ok (.getfield 21, 3) := by decide +kernel
theorem dX3_keepImage_46 : decode cX3_keepImage 46 = .ok (.getfield 52, 3) := by decide +kernel
theorem dX3_keepImage_49 : decode cX3_keepImage 49 = .ok (.putfield 56, 3) := by decide +kernel
theorem dX3_keepImage_52 : decode cX3_keepImage 52 = .ok (.aload_n 0, 1) := by decide +kernel
theorem dX3_keepImage_53 : decode cX3_keepImage 53 = .ok (.iconst 1, 1) := by decide +kernel
theorem dX3_keepImage_54 : decode cX3_keepImage 54 = .ok (.putfield 59, 3) := by decide +kernel
theorem dX3_keepImage_57 : decode cX3_keepImage 57 = .ok (.aload_n 0, 1) := by decide +kernel
theorem dX3_keepImage_58 : decode cX3_keepImage 58 = .ok (.getfield 11, 3) := by decide +kernel
theorem dX3_keepImage_61 : decode cX3_keepImage 61 = .ok (.iconst 4, 1) := by decide +kernel
theorem dX3_keepImage_62 : decode cX3_keepImage 62 = .ok (.iaload, 1) := by decide +kernel
theorem dX3_keepImage_63 : decode cX3_keepImage 63 = .ok (.ireturn, 1) := by decide +kernel
section
variable {p : Program} {l : Launch} {e : Env} {s : State} {m : MethodId} {args : Array Value} {below : List Frame} {meth : Method} {c : Code} {H : Heap} {locs : List Loc} {E : Ev} {S V : St} {ls : Array Slot}
set_option maxRecDepth 20000 in
theorem w_De_keepImage {r : Int32} {S9 : St} (C : Cx p s m args meth c E cX3_keepImage 1 RX3 (some .int)) (hw : Wd E (wX V E) s.heap S H locs) (hl : lv_has ls 1 [(0, .ref (ea E 7))]) (hf : De_keepImage S = some (r, S9)) : W p l e (rmh 1) s m args below meth c H locs 0 0 (MQ below (QW E (wX V E) (some (.int r)) S9) args s 0 0 (eA E)) (F0 m 0 ls []) := by
  have hx := C.1
  have hb := C.2.1
  unfold De_keepImage at hf
  refine lv_aload_n hx hb dX3_keepImage_0 rfl (lv_at hl 0 rfl) ?_
  refine get_7_0 C hw q_354 dX3_keepImage_1 ?_
  refine lv_iconst (v := 0) hx hb dX3_keepImage_4 kc_0 ?_
  refine lv_aload_n hx hb dX3_keepImage_5 rfl (lv_at hl 0 rfl) ?_
  refine get_7_3 C hw q_359 dX3_keepImage_6 ?_
  refine lv_iconst (v := 0) hx hb dX3_keepImage_9 kc_0 ?_
  refine lv_aload_n hx hb dX3_keepImage_10 rfl (lv_at hl 0 rfl) ?_
  refine get_7_0 C hw q_354 dX3_keepImage_11 ?_
  refine len_31 C hw dX3_keepImage_14 ?_
  obtain ⟨hc, hf⟩ := hf_ck hf
  refine copy_31_32 C hw hc q_985 hl.1 dX3_keepImage_15 (Nat.le_of_ble_eq_true rfl) (fun H locs hw => ?_)
  refine nm_S hf hw (fun S1 hf hw => ?_)
  refine lv_aload_n hx hb dX3_keepImage_18 rfl (lv_at hl 0 rfl) ?_
  refine get_7_2 C hw q_358 dX3_keepImage_19 ?_
  refine get_1_7 C hw q_130 dX3_keepImage_22 ?_
  refine lv_iconst (v := 0) hx hb dX3_keepImage_25 kc_0 ?_
  refine lv_aload_n hx hb dX3_keepImage_26 rfl (lv_at hl 0 rfl) ?_
  refine get_7_4 C hw q_360 dX3_keepImage_27 ?_
  refine lv_iconst (v := 0) hx hb dX3_keepImage_30 kc_0 ?_
  refine lv_aload_n hx hb dX3_keepImage_31 rfl (lv_at hl 0 rfl) ?_
  refine get_7_2 C hw q_358 dX3_keepImage_32 ?_
  refine get_1_10 C hw q_140 dX3_keepImage_35 ?_
  obtain ⟨hc, hf⟩ := hf_ck hf
  refine copy_18_33 C hw hc q_985 hl.1 dX3_keepImage_38 (Nat.le_of_ble_eq_true rfl) (fun H locs hw => ?_)
  refine nm_S hf hw (fun S2 hf hw => ?_)
  refine lv_aload_n hx hb dX3_keepImage_41 rfl (lv_at hl 0 rfl) ?_
  refine lv_aload_n hx hb dX3_keepImage_42 rfl (lv_at hl 0 rfl) ?_
  refine get_7_2 C hw q_358 dX3_keepImage_43 ?_
  refine get_1_10 C hw q_140 dX3_keepImage_46 ?_
  refine put_7_5 C hw q_361 dX3_keepImage_49 (fun H locs hw => ?_)
  refine nm_S hf hw (fun S3 hf hw => ?_)
  refine lv_aload_n hx hb dX3_keepImage_52 rfl (lv_at hl 0 rfl) ?_
  refine lv_iconst (v := 1) hx hb dX3_keepImage_53 kc_1 ?_
  refine put_7_1 C hw (by decide) q_356 dX3_keepImage_54 (fun H locs hw => ?_)
  refine nm_S hf hw (fun S4 hf hw => ?_)
  refine lv_aload_n hx hb dX3_keepImage_57 rfl (lv_at hl 0 rfl) ?_
  refine get_7_0 C hw q_354 dX3_keepImage_58 ?_
  refine lv_iconst (v := 4) hx hb dX3_keepImage_61 kc_4 ?_
  refine ld_31 C hw (by decide) dX3_keepImage_62 ?_
  exact ret_iS C hw dX3_keepImage_63 hf
end
theorem t_De_keepImage {l : Launch} {V : St} {S : St} {r : Int32} {S9 : St} (hf : De_keepImage S = some (r, S9)) : Ct l (wX V) yX3_keepImage cX3_keepImage 1 (some .int) 1 (fun E => [.ref (ea E 7)]) S (fun E => some (.int r)) S9 :=
  ofBlock (by decide +kernel) (fun _ => Nat.le_of_ble_eq_true rfl) (fun E p e s m args below meth c ls C hw hl => w_De_keepImage C hw hl hf)
theorem dX3_layBack_0 : decode cX3_layBack 0 = .ok (.aload_n 0, 1) := by decide +kernel
theorem dX3_layBack_1 : decode cX3_layBack 1 = .ok (.getfield 15, 3) := by decide +kernel
theorem dX3_layBack_4 : decode cX3_layBack 4 = .ok (.iconst 0, 1) := by decide +kernel
theorem dX3_layBack_5 : decode cX3_layBack 5 = .ok (.aload_n 0, 1) := by decide +kernel
theorem dX3_layBack_6 : decode cX3_layBack 6 = .ok (.getfield 11, 3) := by decide +kernel
theorem dX3_layBack_9 : decode cX3_layBack 9 = .ok (.iconst 0, 1) := by decide +kernel
theorem dX3_layBack_10 : decode cX3_layBack 10 = .ok (.aload_n 0, 1) := by decide +kernel
theorem dX3_layBack_11 : decode cX3_layBack 11 = .ok (.getfield 11, 3) := by decide +kernel
theorem dX3_layBack_14 : decode cX3_layBack 14 = .ok (.arraylength, 1) := by decide +kernel
theorem dX3_layBack_15 : decode cX3_layBack 15 = .ok (.invokestatic 46, 3) := by decide +kernel
theorem dX3_layBack_18 : decode cX3_layBack 18 = .ok (.aload_n 0, 1) := by decide +kernel
theorem dX3_layBack_19 : decode cX3_layBack 19 = .ok (.getfield 18, 3) := by decide +kernel
theorem dX3_layBack_22 : decode cX3_layBack 22 = .ok (.iconst 0, 1) := by decide +kernel
theorem dX3_layBack_23 : decode cX3_layBack 23 = .ok (.aload_n 0, 1) := by decide +kernel
theorem dX3_layBack_24 : decode cX3_layBack 24 = .ok (.getfield 21, 3) := by decide +kernel
theorem dX3_layBack_27 : decode cX3_layBack 27 = .ok (.getfield 40, 3) := by decide +kernel
theorem dX3_layBack_30 : decode cX3_layBack 30 = .ok (.iconst 0, 1) := by decide +kernel
theorem dX3_layBack_31 : decode cX3_layBack 31 = .ok (.aload_n 0, 1) := by decide +kernel
theorem dX3_layBack_32 : decode cX3_layBack 32 = .ok (.getfield 56, 3) := by decide +kernel
theorem dX3_layBack_35 : decode cX3_layBack 35 = .ok (.invokestatic 46, 3) := by decide +kernel
theorem dX3_layBack_38 : decode cX3_layBack 38 = .ok (.aload_n 0, 1) := by decide +kernel
theorem dX3_layBack_39 : decode cX3_layBack 39 = .ok (.getfield 11, 3) := by decide +kernel
theorem dX3_layBack_42 : decode cX3_layBack 42 = .ok (.iconst 4, 1) := by decide +kernel
theorem dX3_layBack_43 : decode cX3_layBack 43 = .ok (.iaload, 1) := by decide +kernel
theorem dX3_layBack_44 : decode cX3_layBack 44 = .ok (.ireturn, 1) := by decide +kernel
section
variable {p : Program} {l : Launch} {e : Env} {s : State} {m : MethodId} {args : Array Value} {below : List Frame} {meth : Method} {c : Code} {H : Heap} {locs : List Loc} {E : Ev} {S V : St} {ls : Array Slot}
set_option maxRecDepth 20000 in
theorem w_De_layBack {r : Int32} {S9 : St} (C : Cx p s m args meth c E cX3_layBack 1 RX3 (some .int)) (hw : Wd E (wX V E) s.heap S H locs) (hl : lv_has ls 1 [(0, .ref (ea E 7))]) (hf : De_layBack S = some (r, S9)) : W p l e (rmh 1) s m args below meth c H locs 0 0 (MQ below (QW E (wX V E) (some (.int r)) S9) args s 0 0 (eA E)) (F0 m 0 ls []) := by
  have hx := C.1
  have hb := C.2.1
  unfold De_layBack at hf
  refine lv_aload_n hx hb dX3_layBack_0 rfl (lv_at hl 0 rfl) ?_
  refine get_7_3 C hw q_359 dX3_layBack_1 ?_
  refine lv_iconst (v := 0) hx hb dX3_layBack_4 kc_0 ?_
  refine lv_aload_n hx hb dX3_layBack_5 rfl (lv_at hl 0 rfl) ?_
  refine get_7_0 C hw q_354 dX3_layBack_6 ?_
  refine lv_iconst (v := 0) hx hb dX3_layBack_9 kc_0 ?_
  refine lv_aload_n hx hb dX3_layBack_10 rfl (lv_at hl 0 rfl) ?_
  refine get_7_0 C hw q_354 dX3_layBack_11 ?_
  refine len_31 C hw dX3_layBack_14 ?_
  obtain ⟨hc, hf⟩ := hf_ck hf
  refine copy_32_31 C hw hc q_985 hl.1 dX3_layBack_15 (Nat.le_of_ble_eq_true rfl) (fun H locs hw => ?_)
  refine nm_S hf hw (fun S1 hf hw => ?_)
  refine lv_aload_n hx hb dX3_layBack_18 rfl (lv_at hl 0 rfl) ?_
  refine get_7_4 C hw q_360 dX3_layBack_19 ?_
  refine lv_iconst (v := 0) hx hb dX3_layBack_22 kc_0 ?_
  refine lv_aload_n hx hb dX3_layBack_23 rfl (lv_at hl 0 rfl) ?_
  refine get_7_2 C hw q_358 dX3_layBack_24 ?_
  refine get_1_7 C hw q_130 dX3_layBack_27 ?_
  refine lv_iconst (v := 0) hx hb dX3_layBack_30 kc_0 ?_
  refine lv_aload_n hx hb dX3_layBack_31 rfl (lv_at hl 0 rfl) ?_
  refine get_7_5 C hw q_361 dX3_layBack_32 ?_
  obtain ⟨hc, hf⟩ := hf_ck hf
  refine copy_33_18 C hw hc q_985 hl.1 dX3_layBack_35 (Nat.le_of_ble_eq_true rfl) (fun H locs hw => ?_)
  refine nm_S hf hw (fun S2 hf hw => ?_)
  refine lv_aload_n hx hb dX3_layBack_38 rfl (lv_at hl 0 rfl) ?_
  refine get_7_0 C hw q_354 dX3_layBack_39 ?_
  refine lv_iconst (v := 4) hx hb dX3_layBack_42 kc_4 ?_
  refine ld_31 C hw (by decide) dX3_layBack_43 ?_
  exact ret_iS C hw dX3_layBack_44 hf
end
theorem t_De_layBack {l : Launch} {V : St} {S : St} {r : Int32} {S9 : St} (hf : De_layBack S = some (r, S9)) : Ct l (wX V) yX3_layBack cX3_layBack 1 (some .int) 1 (fun E => [.ref (ea E 7)]) S (fun E => some (.int r)) S9 :=
  ofBlock (by decide +kernel) (fun _ => Nat.le_of_ble_eq_true rfl) (fun E p e s m args below meth c ls C hw hl => w_De_layBack C hw hl hf)
theorem dX8_promisesOf_0 : decode cX8_promisesOf 0 = .ok (.iconst 0, 1) := by decide +kernel
theorem dX8_promisesOf_1 : decode cX8_promisesOf 1 = .ok (.istore_n 2, 1) := by decide +kernel
theorem dX8_promisesOf_2 : decode cX8_promisesOf 2 = .ok (.iconst 0, 1) := by decide +kernel
theorem dX8_promisesOf_3 : decode cX8_promisesOf 3 = .ok (.istore_n 3, 1) := by decide +kernel
theorem dX8_promisesOf_4 : decode cX8_promisesOf 4 = .ok (.iload_n 3, 1) := by decide +kernel
theorem dX8_promisesOf_5 : decode cX8_promisesOf 5 = .ok (.aload_n 0, 1) := by decide +kernel
theorem dX8_promisesOf_6 : decode cX8_promisesOf 6 = .ok (.getfield 43, 3) := by decide +kernel
theorem dX8_promisesOf_9 : decode cX8_promisesOf 9 = .ok (.if_icmp .ge 25, 3) := by decide +kernel
theorem dX8_promisesOf_12 : decode cX8_promisesOf 12 = .ok (.aload_n 0, 1) := by decide +kernel
theorem dX8_promisesOf_13 : decode cX8_promisesOf 13 = .ok (.getfield 21, 3) := by decide +kernel
theorem dX8_promisesOf_16 : decode cX8_promisesOf 16 = .ok (.iload_n 3, 1) := by decide +kernel
theorem dX8_promisesOf_17 : decode cX8_promisesOf 17 = .ok (.iaload, 1) := by decide +kernel
theorem dX8_promisesOf_18 : decode cX8_promisesOf 18 = .ok (.iload_n 1, 1) := by decide +kernel
theorem dX8_promisesOf_19 : decode cX8_promisesOf 19 = .ok (.if_icmp .ne 9, 3) := by decide +kernel
theorem dX8_promisesOf_22 : decode cX8_promisesOf 22 = .ok (.iload_n 2, 1) := by decide +kernel
theorem dX8_promisesOf_23 : decode cX8_promisesOf 23 = .ok (.iconst 1, 1) := by decide +kernel
theorem dX8_promisesOf_24 : decode cX8_promisesOf 24 = .ok (.iload_n 3, 1) := by decide +kernel
theorem dX8_promisesOf_25 : decode cX8_promisesOf 25 = .ok (.ishl, 1) := by decide +kernel
theorem dX8_promisesOf_26 : decode cX8_promisesOf 26 = .ok (.ior, 1) := by decide +kernel
theorem dX8_promisesOf_27 : decode cX8_promisesOf 27 = .ok (.istore_n 2, 1) := by decide +kernel
theorem dX8_promisesOf_28 : decode cX8_promisesOf 28 = .ok (.iinc 3 1, 3) := by decide +kernel
theorem dX8_promisesOf_31 : decode cX8_promisesOf 31 = .ok (.goto (-27), 3) := by decide +kernel
theorem dX8_promisesOf_34 : decode cX8_promisesOf 34 = .ok (.iload_n 2, 1) := by decide +kernel
theorem dX8_promisesOf_35 : decode cX8_promisesOf 35 = .ok (.ireturn, 1) := by decide +kernel
section
variable {p : Program} {l : Launch} {e : Env} {s : State} {m : MethodId} {args : Array Value} {below : List Frame} {meth : Method} {c : Code} {H : Heap} {locs : List Loc} {E : Ev} {S V : St} {ls : Array Slot}
set_option maxRecDepth 20000 in
theorem w_Sm_promisesOf_b4 {N : Nat} {k4 : (Int32 × Int32) → Option Int32} {l1 : Int32} {l2 : Int32} {l3 : Int32} {r : Int32} (C : Cx p s m args meth c E cX8_promisesOf 4 RX8 (some .int)) (hk4 : ∀ x, k4 x = some r → ∀ (H : Heap) (locs : List Loc) (ls : Array Slot), Wd E (wX V E) s.heap S H locs → lv_has ls 4 [(0, .ref (ea E 1)), (1, .int l1), (2, .int x.1), (3, .int x.2)] → W p l e (rmh 1) s m args below meth c H locs 0 0 (MQ below (QW E (wX V E) (some (.int r)) S) args s 0 0 (eA E)) (F0 m 4 ls [])) (hw : Wd E (wX V E) s.heap S H locs) (hl : lv_has ls 4 [(0, .ref (ea E 1)), (1, .int l1), (2, .int l2), (3, .int l3)]) (hf : Sm_promisesOf_b4 N k4 S l1 l2 l3 = some r) : W p l e (rmh 1) s m args below meth c H locs 0 0 (MQ below (QW E (wX V E) (some (.int r)) S) args s 0 0 (eA E)) (F0 m 4 ls []) := by
  have hx := C.1
  have hb := C.2.1
  unfold Sm_promisesOf_b4 at hf
  refine lv_iload_n hx hb dX8_promisesOf_4 rfl (lv_at hl 3 rfl) ?_
  refine lv_aload_n hx hb dX8_promisesOf_5 rfl (lv_at hl 0 rfl) ?_
  refine get_1_10 C hw q_138 dX8_promisesOf_6 ?_
  refine lv_icmp_ge (tgt := 34) hx hb dX8_promisesOf_9 (by decide) (fun q => ?_) (fun q => ?_)
  · have hf := hf_t q hf
    refine lv_iload_n hx hb dX8_promisesOf_34 rfl (lv_at hl 2 rfl) ?_
    exact ret_i C hw dX8_promisesOf_35 hf
  · have hf := hf_f q hf
    refine lv_aload_n hx hb dX8_promisesOf_12 rfl (lv_at hl 0 rfl) ?_
    refine get_1_3 C hw q_113 dX8_promisesOf_13 ?_
    refine lv_iload_n hx hb dX8_promisesOf_16 rfl (lv_at hl 3 rfl) ?_
    obtain ⟨hc, hf⟩ := hf_ck hf
    refine ld_14 C hw hc dX8_promisesOf_17 ?_
    refine lv_iload_n hx hb dX8_promisesOf_18 rfl (lv_at hl 1 rfl) ?_
    refine lv_icmp_ne (tgt := 28) hx hb dX8_promisesOf_19 (by decide) (fun q => ?_) (fun q => ?_)
    · have hf := hf_f q hf
      obtain ⟨x1, ex1, hf⟩ := nme hf
      refine lv_iinc (v := x1) (lv' := [(3, .int x1), (0, .ref (ea E 1)), (1, .int l1), (2, .int l2)]) hx hb dX8_promisesOf_28 hl (k := 3) rfl (ki_1 ex1) (by decide) rfl (fun ls hl => ?_)
      refine lv_goto (tgt := 4) hx hb dX8_promisesOf_31 (by decide) ?_
      exact hk4 _ hf _ _ _ hw (lv_sub hl [1, 2, 3, 0] rfl)
    · have hf := hf_t q hf
      refine lv_iload_n hx hb dX8_promisesOf_22 rfl (lv_at hl 2 rfl) ?_
      refine lv_iconst (v := 1) hx hb dX8_promisesOf_23 kc_1 ?_
      refine lv_iload_n hx hb dX8_promisesOf_24 rfl (lv_at hl 3 rfl) ?_
      refine lv_ishl hx hb dX8_promisesOf_25 ?_
      refine lv_ior hx hb dX8_promisesOf_26 ?_
      refine nm_i hf (fun x2 hf => ?_)
      refine lv_istore_n (lv' := [(2, .int x2), (0, .ref (ea E 1)), (1, .int l1), (3, .int l3)]) hx hb dX8_promisesOf_27 rfl hl (by decide) rfl (fun ls hl => ?_)
      obtain ⟨x3, ex3, hf⟩ := nme hf
      refine lv_iinc (v := x3) (lv' := [(3, .int x3), (2, .int x2), (0, .ref (ea E 1)), (1, .int l1)]) hx hb dX8_promisesOf_28 hl (k := 3) rfl (ki_1 ex3) (by decide) rfl (fun ls hl => ?_)
      refine lv_goto (tgt := 4) hx hb dX8_promisesOf_31 (by decide) ?_
      exact hk4 _ hf _ _ _ hw (lv_sub hl [2, 3, 1, 0] rfl)
theorem w_Sm_promisesOf_L4 {N : Nat} {l1 : Int32} {r : Int32} (C : Cx p s m args meth c E cX8_promisesOf 4 RX8 (some .int)) : ∀ x, Sm_promisesOf_L4 N S l1 x = some r → ∀ (H : Heap) (locs : List Loc) (ls : Array Slot), Wd E (wX V E) s.heap S H locs → lv_has ls 4 [(0, .ref (ea E 1)), (1, .int l1), (2, .int x.1), (3, .int x.2)] → W p l e (rmh 1) s m args below meth c H locs 0 0 (MQ below (QW E (wX V E) (some (.int r)) S) args s 0 0 (eA E)) (F0 m 4 ls []) :=
  lp_W (fun k x hk hf H locs ls hw hl => w_Sm_promisesOf_b4 C hk hw hl hf) N
set_option maxRecDepth 20000 in
theorem w_Sm_promisesOf {N : Nat} {p1 : Int32} {r : Int32} (C : Cx p s m args meth c E cX8_promisesOf 4 RX8 (some .int)) (hw : Wd E (wX V E) s.heap S H locs) (hl : lv_has ls 4 [(0, .ref (ea E 1)), (1, .int p1)]) (hf : Sm_promisesOf N S p1 = some r) : W p l e (rmh 1) s m args below meth c H locs 0 0 (MQ below (QW E (wX V E) (some (.int r)) S) args s 0 0 (eA E)) (F0 m 0 ls []) := by
  have hx := C.1
  have hb := C.2.1
  unfold Sm_promisesOf at hf
  refine lv_iconst (v := 0) hx hb dX8_promisesOf_0 kc_0 ?_
  refine lv_istore_n (lv' := [(2, .int (0 : Int32)), (0, .ref (ea E 1)), (1, .int p1)]) hx hb dX8_promisesOf_1 rfl hl (by decide) rfl (fun ls hl => ?_)
  refine lv_iconst (v := 0) hx hb dX8_promisesOf_2 kc_0 ?_
  refine lv_istore_n (lv' := [(3, .int (0 : Int32)), (2, .int (0 : Int32)), (0, .ref (ea E 1)), (1, .int p1)]) hx hb dX8_promisesOf_3 rfl hl (by decide) rfl (fun ls hl => ?_)
  exact w_Sm_promisesOf_L4 C _ hf _ _ _ hw (lv_sub hl [2, 3, 1, 0] rfl)
end
theorem t_Sm_promisesOf {l : Launch} {V : St} {N : Nat} {S : St} {p1 : Int32} {r : Int32} (hf : Sm_promisesOf N S p1 = some r) : Ct l (wX V) yX8_promisesOf cX8_promisesOf 4 (some .int) 1 (fun E => [.ref (ea E 1), .int p1]) S (fun E => some (.int r)) S :=
  ofBlock (by decide +kernel) (fun _ => Nat.le_of_ble_eq_true rfl) (fun E p e s m args below meth c ls C hw hl => w_Sm_promisesOf C hw hl hf)
theorem dX4_mayKeep_0 : decode cX4_mayKeep 0 = .ok (.aload_n 0, 1) := by decide +kernel
theorem dX4_mayKeep_1 : decode cX4_mayKeep 1 = .ok (.getfield 9, 3) := by decide +kernel
theorem dX4_mayKeep_4 : decode cX4_mayKeep 4 = .ok (.iload_n 1, 1) := by decide +kernel
theorem dX4_mayKeep_5 : decode cX4_mayKeep 5 = .ok (.invokevirtual 15, 3) := by decide +kernel
theorem dX4_mayKeep_8 : decode cX4_mayKeep 8 = .ok (.aload_n 0, 1) := by decide +kernel
theorem dX4_mayKeep_9 : decode cX4_mayKeep 9 = .ok (.getfield 9, 3) := by decide +kernel
theorem dX4_mayKeep_12 : decode cX4_mayKeep 12 = .ok (.iload_n 2, 1) := by decide +kernel
theorem dX4_mayKeep_13 : decode cX4_mayKeep 13 = .ok (.invokevirtual 21, 3) := by decide +kernel
theorem dX4_mayKeep_16 : decode cX4_mayKeep 16 = .ok (.iand, 1) := by decide +kernel
theorem dX4_mayKeep_17 : decode cX4_mayKeep 17 = .ok (.ireturn, 1) := by decide +kernel
section
variable {p : Program} {l : Launch} {e : Env} {s : State} {m : MethodId} {args : Array Value} {below : List Frame} {meth : Method} {c : Code} {H : Heap} {locs : List Loc} {E : Ev} {S V : St} {ls : Array Slot}
set_option maxRecDepth 20000 in
theorem w_Kp_mayKeep {N : Nat} {p1 : Int32} {p2 : Int32} {r : Int32} (C : Cx p s m args meth c E cX4_mayKeep 3 RX4 (some .int)) (hw : Wd E (wX V E) s.heap S H locs) (hl : lv_has ls 3 [(0, .ref (ea E 4)), (1, .int p1), (2, .int p2)]) (hf : Kp_mayKeep N S p1 p2 = some r) : W p l e (rmh 3) s m args below meth c H locs 0 0 (MQ below (QW E (wX V E) (some (.int r)) S) args s 0 0 (eA E)) (F0 m 0 ls []) := by
  have hx := C.1
  have hb := C.2.1
  unfold Kp_mayKeep at hf
  refine lv_aload_n hx hb dX4_mayKeep_0 rfl (lv_at hl 0 rfl) ?_
  refine get_4_0 C hw q_308 dX4_mayKeep_1 ?_
  refine lv_iload_n hx hb dX4_mayKeep_4 rfl (lv_at hl 1 rfl) ?_
  obtain ⟨r1, hr, hf⟩ := hf_1 hf
  refine inv_Vi (q0 := 1) (ci := 8) (As := [.int p1]) lk_X4_15 C hw rfl rfl rfl (t_Sm_promisesOf hr) rfl hl.1 dX4_mayKeep_5 rfl (Nat.le_of_ble_eq_true rfl) (by decide) (Nat.le_of_ble_eq_true rfl) rfl (fun H locs hw => ?_)
  refine lv_aload_n hx hb dX4_mayKeep_8 rfl (lv_at hl 0 rfl) ?_
  refine get_4_0 C hw q_308 dX4_mayKeep_9 ?_
  refine lv_iload_n hx hb dX4_mayKeep_12 rfl (lv_at hl 2 rfl) ?_
  obtain ⟨r2, hr, hf⟩ := hf_1 hf
  refine inv_Vi (q0 := 1) (ci := 8) (As := [.int p2]) lk_X4_21 C hw rfl rfl rfl (t_Sm_openOnes hr) rfl hl.1 dX4_mayKeep_13 rfl (Nat.le_of_ble_eq_true rfl) (by decide) (Nat.le_of_ble_eq_true rfl) rfl (fun H locs hw => ?_)
  refine lv_iand hx hb dX4_mayKeep_16 ?_
  exact ret_i C hw dX4_mayKeep_17 hf
end
theorem t_Kp_mayKeep {l : Launch} {V : St} {N : Nat} {S : St} {p1 : Int32} {p2 : Int32} {r : Int32} (hf : Kp_mayKeep N S p1 p2 = some r) : Ct l (wX V) yX4_mayKeep cX4_mayKeep 3 (some .int) 3 (fun E => [.ref (ea E 4), .int p1, .int p2]) S (fun E => some (.int r)) S :=
  ofBlock (by decide +kernel) (fun _ => Nat.le_of_ble_eq_true rfl) (fun E p e s m args below meth c ls C hw hl => w_Kp_mayKeep C hw hl hf)
theorem dX10_isIn_0 : decode cX10_isIn 0 = .ok (.iload_n 0, 1) := by decide +kernel
theorem dX10_isIn_1 : decode cX10_isIn 1 = .ok (.iload_n 1, 1) := by decide +kernel
theorem dX10_isIn_2 : decode cX10_isIn 2 = .ok (.ishr, 1) := by decide +kernel
theorem dX10_isIn_3 : decode cX10_isIn 3 = .ok (.iconst 1, 1) := by decide +kernel
theorem dX10_isIn_4 : decode cX10_isIn 4 = .ok (.iand, 1) := by decide +kernel
theorem dX10_isIn_5 : decode cX10_isIn 5 = .ok (.ifCond .eq 7, 3) := by decide +kernel
theorem dX10_isIn_8 : decode cX10_isIn 8 = .ok (.iconst 1, 1) := by decide +kernel
theorem dX10_isIn_9 : decode cX10_isIn 9 = .ok (.goto 4, 3) := by decide +kernel
theorem dX10_isIn_12 : decode cX10_isIn 12 = .ok (.iconst 0, 1) := by decide +kernel
theorem dX10_isIn_13 : decode cX10_isIn 13 = .ok (.ireturn, 1) := by decide +kernel
section
variable {p : Program} {l : Launch} {e : Env} {s : State} {m : MethodId} {args : Array Value} {below : List Frame} {meth : Method} {c : Code} {H : Heap} {locs : List Loc} {E : Ev} {S V : St} {ls : Array Slot}
set_option maxRecDepth 20000 in
theorem w_Ch_isIn {p1 : Int32} {p2 : Int32} {r : Int32} (C : Cx p s m args meth c E cX10_isIn 2 RX10 (some .boolean)) (hw : Wd E (wX V E) s.heap S H locs) (hl : lv_has ls 2 [(0, .int p1), (1, .int p2)]) (hf : Ch_isIn S p1 p2 = some r) : W p l e (rmh 1) s m args below meth c H locs 0 0 (MQ below (QW E (wX V E) (some (.int r)) S) args s 0 0 (eA E)) (F0 m 0 ls []) := by
  have hx := C.1
  have hb := C.2.1
  unfold Ch_isIn at hf
  refine lv_iload_n hx hb dX10_isIn_0 rfl (lv_at hl 0 rfl) ?_
  refine lv_iload_n hx hb dX10_isIn_1 rfl (lv_at hl 1 rfl) ?_
  refine lv_ishr hx hb dX10_isIn_2 ?_
  refine lv_iconst (v := 1) hx hb dX10_isIn_3 kc_1 ?_
  refine lv_iand hx hb dX10_isIn_4 ?_
  refine lv_if_eq (tgt := 12) hx hb dX10_isIn_5 (by decide) (fun q => ?_) (fun q => ?_)
  · have hf := hf_t q hf
    refine lv_iconst (v := 0) hx hb dX10_isIn_12 kc_0 ?_
    exact ret_z rfl C hw dX10_isIn_13 hf
  · have hf := hf_f q hf
    refine lv_iconst (v := 1) hx hb dX10_isIn_8 kc_1 ?_
    refine lv_goto (tgt := 13) hx hb dX10_isIn_9 (by decide) ?_
    exact ret_z rfl C hw dX10_isIn_13 hf
end
theorem t_Ch_isIn {l : Launch} {V : St} {S : St} {p1 : Int32} {p2 : Int32} {r : Int32} (hf : Ch_isIn S p1 p2 = some r) : Ct l (wX V) yX10_isIn cX10_isIn 2 (some .boolean) 1 (fun E => [.int p1, .int p2]) S (fun E => some (.int r)) S :=
  ofBlock (by decide +kernel) (fun _ => Nat.le_of_ble_eq_true rfl) (fun E p e s m args below meth c ls C hw hl => w_Ch_isIn C hw hl hf)
