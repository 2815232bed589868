theorem dX10_lightest_0 : decode cX10_lightest 0 = .ok (.aload_n 0, 1) := by decide +kernel
theorem dX10_lightest_1 : decode cX10_lightest 1 = .ok (.getfield 10, 3) := by decide +kernel
theorem dX10_lightest_4 : decode cX10_lightest 4 = .ok (.iload_n 1, 1) := by decide +kernel
theorem dX10_lightest_5 : decode cX10_lightest 5 = .ok (.invokevirtual 155, 3) := by decide +kernel
theorem dX10_lightest_8 : decode cX10_lightest 8 = .ok (.ifCond .eq 17, 3) := by decide +kernel
theorem dX10_lightest_11 : decode cX10_lightest 11 = .ok (.iload_n 2, 1) := by decide +kernel
theorem dX10_lightest_12 : decode cX10_lightest 12 = .ok (.invokestatic 158, 3) := by decide +kernel
theorem dX10_lightest_15 : decode cX10_lightest 15 = .ok (.ifCond .eq 10, 3) := by decide +kernel
theorem dX10_lightest_18 : decode cX10_lightest 18 = .ok (.iload_n 3, 1) := by decide +kernel
theorem dX10_lightest_19 : decode cX10_lightest 19 = .ok (.invokestatic 185, 3) := by decide +kernel
theorem dX10_lightest_22 : decode cX10_lightest 22 = .ok (.ifCond .ne 5, 3) := by decide +kernel
theorem dX10_lightest_25 : decode cX10_lightest 25 = .ok (.iconst (-1), 1) := by decide +kernel
theorem dX10_lightest_26 : decode cX10_lightest 26 = .ok (.ireturn, 1) := by decide +kernel
theorem dX10_lightest_27 : decode cX10_lightest 27 = .ok (.aload_n 0, 1) := by decide +kernel
theorem dX10_lightest_28 : decode cX10_lightest 28 = .ok (.getfield 56, 3) := by decide +kernel
theorem dX10_lightest_31 : decode cX10_lightest 31 = .ok (.iload_n 1, 1) := by decide +kernel
theorem dX10_lightest_32 : decode cX10_lightest 32 = .ok (.iload_n 2, 1) := by decide +kernel
theorem dX10_lightest_33 : decode cX10_lightest 33 = .ok (.invokevirtual 208, 3) := by decide +kernel
theorem dX10_lightest_36 : decode cX10_lightest 36 = .ok (.istore 4, 2) := by decide +kernel
theorem dX10_lightest_38 : decode cX10_lightest 38 = .ok (.iload 4, 2) := by decide +kernel
theorem dX10_lightest_40 : decode cX10_lightest 40 = .ok (.bipush (-2), 2) := by decide +kernel
theorem dX10_lightest_42 : decode cX10_lightest 42 = .ok (.if_icmp .eq 7, 3) := by decide +kernel
theorem dX10_lightest_45 : decode cX10_lightest 45 = .ok (.iload_n 3, 1) := by decide +kernel
theorem dX10_lightest_46 : decode cX10_lightest 46 = .ok (.ifCond .ne 8, 3) := by decide +kernel
theorem dX10_lightest_49 : decode cX10_lightest 49 = .ok (.iload 4, 2) := by decide +kernel
theorem dX10_lightest_51 : decode cX10_lightest 51 = .ok (.goto 12, 3) := by decide +kernel
theorem dX10_lightest_54 : decode cX10_lightest 54 = .ok (.aload_n 0, 1) := by decide +kernel
theorem dX10_lightest_55 : decode cX10_lightest 55 = .ok (.getfield 10, 3) := by decide +kernel
theorem dX10_lightest_58 : decode cX10_lightest 58 = .ok (.iload 4, 2) := by decide +kernel
theorem dX10_lightest_60 : decode cX10_lightest 60 = .ok (.invokevirtual 211, 3) := by decide +kernel
theorem dX10_lightest_63 : decode cX10_lightest 63 = .ok (.ireturn, 1) := by decide +kernel
section
variable {p : Program} {l : Launch} {e : Env} {s : State} {m : MethodId} {args : Array Value} {below : List Frame} {meth : Method} {c : Code} {H : Heap} {locs : List Loc} {E : Ev} {S V : St} {ls : Array Slot}
set_option maxRecDepth 20000 in
theorem w_Ch_lightest {N : Nat} {p1 : Int32} {p2 : Int32} {p3 : Int32} {r : Int32} (C : Cx p s m args meth c E cX10_lightest 5 RX10 (some .int)) (hw : Wd E (wX V E) s.heap S H locs) (hl : lv_has ls 5 [(0, .ref (ea E 0)), (1, .int p1), (2, .int p2), (3, .int p3)]) (hf : Ch_lightest N S p1 p2 p3 = some r) : W p l e (rmh 5) s m args below meth c H locs 0 0 (MQ below (QW E (wX V E) (some (.int r)) S) args s 0 0 (eA E)) (F0 m 0 ls []) := by
  have hx := C.1
  have hb := C.2.1
  unfold Ch_lightest at hf
  refine lv_aload_n hx hb dX10_lightest_0 rfl (lv_at hl 0 rfl) ?_
  refine get_0_0 C hw q_375 dX10_lightest_1 ?_
  refine lv_iload_n hx hb dX10_lightest_4 rfl (lv_at hl 1 rfl) ?_
  obtain ⟨r1, hr, hf⟩ := hf_1 hf
  refine inv_Vi (q0 := 1) (ci := 8) (As := [.int p1]) lk_X10_155 C hw rfl rfl rfl (t_Sm_isOne hr) rfl hl.1 dX10_lightest_5 rfl (Nat.le_of_ble_eq_true rfl) (by decide) (Nat.le_of_ble_eq_true rfl) rfl (fun H locs hw => ?_)
  refine lv_if_eq (tgt := 25) hx hb dX10_lightest_8 (by decide) (fun q => ?_) (fun q => ?_)
  · have hf := hf_t q hf
    refine lv_iconst (v := -1) hx hb dX10_lightest_25 kc_m1 ?_
    exact ret_i C hw dX10_lightest_26 hf
  · have hf := hf_f q hf
    refine lv_iload_n hx hb dX10_lightest_11 rfl (lv_at hl 2 rfl) ?_
    obtain ⟨r2, hr, hf⟩ := hf_1 hf
    refine inv_Si (As := [.int p2]) lk_X10_158 C hw (t_Ch_isDay hr) hl.1 dX10_lightest_12 rfl (Nat.le_of_ble_eq_true rfl) (by decide) (Nat.le_of_ble_eq_true rfl) rfl (fun H locs hw => ?_)
    refine lv_if_eq (tgt := 25) hx hb dX10_lightest_15 (by decide) (fun q => ?_) (fun q => ?_)
    · have hf := hf_t q hf
      refine lv_iconst (v := -1) hx hb dX10_lightest_25 kc_m1 ?_
      exact ret_i C hw dX10_lightest_26 hf
    · have hf := hf_f q hf
      refine lv_iload_n hx hb dX10_lightest_18 rfl (lv_at hl 3 rfl) ?_
      obtain ⟨r3, hr, hf⟩ := hf_1 hf
      refine inv_Si (As := [.int p3]) lk_X10_185 C hw (t_Ch_isEither hr) hl.1 dX10_lightest_19 rfl (Nat.le_of_ble_eq_true rfl) (by decide) (Nat.le_of_ble_eq_true rfl) rfl (fun H locs hw => ?_)
      refine lv_if_ne (tgt := 27) hx hb dX10_lightest_22 (by decide) (fun q => ?_) (fun q => ?_)
      · have hf := hf_f q hf
        refine lv_aload_n hx hb dX10_lightest_27 rfl (lv_at hl 0 rfl) ?_
        refine get_0_3 C hw q_378 dX10_lightest_28 ?_
        refine lv_iload_n hx hb dX10_lightest_31 rfl (lv_at hl 1 rfl) ?_
        refine lv_iload_n hx hb dX10_lightest_32 rfl (lv_at hl 2 rfl) ?_
        obtain ⟨r4, hr, hf⟩ := hf_1 hf
        refine inv_Vi (q0 := 4) (ci := 4) (As := [.int p1, .int p2]) lk_X10_208 C hw rfl rfl rfl (t_Kp_lightestSet hr) rfl hl.1 dX10_lightest_33 rfl (Nat.le_of_ble_eq_true rfl) (by decide) (Nat.le_of_ble_eq_true rfl) rfl (fun H locs hw => ?_)
        refine lv_istore (lv' := [(4, .int r4), (0, .ref (ea E 0)), (1, .int p1), (2, .int p2), (3, .int p3)]) hx hb dX10_lightest_36 hl (by decide) rfl (fun ls hl => ?_)
        refine lv_iload hx hb dX10_lightest_38 (lv_at hl 0 rfl) ?_
        refine lv_bipush (v := -2) hx hb dX10_lightest_40 kb_m2 ?_
        refine lv_icmp_eq (tgt := 49) hx hb dX10_lightest_42 (by decide) (fun q => ?_) (fun q => ?_)
        · have hf := hf_t q hf
          refine lv_iload hx hb dX10_lightest_49 (lv_at hl 0 rfl) ?_
          refine lv_goto (tgt := 63) hx hb dX10_lightest_51 (by decide) ?_
          exact ret_i C hw dX10_lightest_63 hf
        · have hf := hf_f q hf
          refine lv_iload_n hx hb dX10_lightest_45 rfl (lv_at hl 4 rfl) ?_
          refine lv_if_ne (tgt := 54) hx hb dX10_lightest_46 (by decide) (fun q => ?_) (fun q => ?_)
          · have hf := hf_f q hf
            refine lv_aload_n hx hb dX10_lightest_54 rfl (lv_at hl 1 rfl) ?_
            refine get_0_0 C hw q_375 dX10_lightest_55 ?_
            refine lv_iload hx hb dX10_lightest_58 (lv_at hl 0 rfl) ?_
            obtain ⟨r5, hr, hf⟩ := hf_1 hf
            refine inv_Vi (q0 := 1) (ci := 8) (As := [.int r4]) lk_X10_211 C hw rfl rfl rfl (t_Sm_linksOf hr) rfl hl.1 dX10_lightest_60 rfl (Nat.le_of_ble_eq_true rfl) (by decide) (Nat.le_of_ble_eq_true rfl) rfl (fun H locs hw => ?_)
            exact ret_i C hw dX10_lightest_63 hf
          · have hf := hf_t q hf
            refine lv_iload hx hb dX10_lightest_49 (lv_at hl 0 rfl) ?_
            refine lv_goto (tgt := 63) hx hb dX10_lightest_51 (by decide) ?_
            exact ret_i C hw dX10_lightest_63 hf
      · have hf := hf_t q hf
        refine lv_iconst (v := -1) hx hb dX10_lightest_25 kc_m1 ?_
        exact ret_i C hw dX10_lightest_26 hf
end
theorem t_Ch_lightest {l : Launch} {V : St} {N : Nat} {S : St} {p1 : Int32} {p2 : Int32} {p3 : Int32} {r : Int32} (hf : Ch_lightest N S p1 p2 p3 = some r) : Ct l (wX V) yX10_lightest cX10_lightest 5 (some .int) 5 (fun E => [.ref (ea E 0), .int p1, .int p2, .int p3]) S (fun E => some (.int r)) S :=
  ofBlock (by decide +kernel) (fun _ => Nat.le_of_ble_eq_true rfl) (fun E p e s m args below meth c ls C hw hl => w_Ch_lightest C hw hl hf)
theorem dX10_ways_0 : decode cX10_ways 0 = .ok (.aload_n 0, 1) := by decide +kernel
theorem dX10_ways_1 : decode cX10_ways 1 = .ok (.getfield 10, 3) := by decide +kernel
theorem dX10_ways_4 : decode cX10_ways 4 = .ok (.iload_n 1, 1) := by decide +kernel
theorem dX10_ways_5 : decode cX10_ways 5 = .ok (.invokevirtual 155, 3) := by decide +kernel
theorem dX10_ways_8 : decode cX10_ways 8 = .ok (.ifCond .eq 22, 3) := by decide +kernel
theorem dX10_ways_11 : decode cX10_ways 11 = .ok (.iload_n 2, 1) := by decide +kernel
theorem dX10_ways_12 : decode cX10_ways 12 = .ok (.invokestatic 158, 3) := by decide +kernel
theorem dX10_ways_15 : decode cX10_ways 15 = .ok (.ifCond .eq 15, 3) := by decide +kernel
theorem dX10_ways_18 : decode cX10_ways 18 = .ok (.aload_n 0, 1) := by decide +kernel
theorem dX10_ways_19 : decode cX10_ways 19 = .ok (.getfield 56, 3) := by decide +kernel
theorem dX10_ways_22 : decode cX10_ways 22 = .ok (.iload_n 1, 1) := by decide +kernel
theorem dX10_ways_23 : decode cX10_ways 23 = .ok (.iload_n 2, 1) := by decide +kernel
theorem dX10_ways_24 : decode cX10_ways 24 = .ok (.invokevirtual 214, 3) := by decide +kernel
theorem dX10_ways_27 : decode cX10_ways 27 = .ok (.goto 4, 3) := by decide +kernel
theorem dX10_ways_30 : decode cX10_ways 30 = .ok (.iconst (-1), 1) := by decide +kernel
theorem dX10_ways_31 : decode cX10_ways 31 = .ok (.ireturn, 1) := by decide +kernel
section
variable {p : Program} {l : Launch} {e : Env} {s : State} {m : MethodId} {args : Array Value} {below : List Frame} {meth : Method} {c : Code} {H : Heap} {locs : List Loc} {E : Ev} {S V : St} {ls : Array Slot}
set_option maxRecDepth 20000 in
theorem w_Ch_ways {N : Nat} {p1 : Int32} {p2 : Int32} {r : Int32} (C : Cx p s m args meth c E cX10_ways 3 RX10 (some .int)) (hw : Wd E (wX V E) s.heap S H locs) (hl : lv_has ls 3 [(0, .ref (ea E 0)), (1, .int p1), (2, .int p2)]) (hf : Ch_ways N S p1 p2 = some r) : W p l e (rmh 5) s m args below meth c H locs 0 0 (MQ below (QW E (wX V E) (some (.int r)) S) args s 0 0 (eA E)) (F0 m 0 ls []) := by
  have hx := C.1
  have hb := C.2.1
  unfold Ch_ways at hf
  refine lv_aload_n hx hb dX10_ways_0 rfl (lv_at hl 0 rfl) ?_
  refine get_0_0 C hw q_375 dX10_ways_1 ?_
  refine lv_iload_n hx hb dX10_ways_4 rfl (lv_at hl 1 rfl) ?_
  obtain ⟨r1, hr, hf⟩ := hf_1 hf
  refine inv_Vi (q0 := 1) (ci := 8) (As := [.int p1]) lk_X10_155 C hw rfl rfl rfl (t_Sm_isOne hr) rfl hl.1 dX10_ways_5 rfl (Nat.le_of_ble_eq_true rfl) (by decide) (Nat.le_of_ble_eq_true rfl) rfl (fun H locs hw => ?_)
  refine lv_if_eq (tgt := 30) hx hb dX10_ways_8 (by decide) (fun q => ?_) (fun q => ?_)
  · have hf := hf_t q hf
    refine lv_iconst (v := -1) hx hb dX10_ways_30 kc_m1 ?_
    exact ret_i C hw dX10_ways_31 hf
  · have hf := hf_f q hf
    refine lv_iload_n hx hb dX10_ways_11 rfl (lv_at hl 2 rfl) ?_
    obtain ⟨r2, hr, hf⟩ := hf_1 hf
    refine inv_Si (As := [.int p2]) lk_X10_158 C hw (t_Ch_isDay hr) hl.1 dX10_ways_12 rfl (Nat.le_of_ble_eq_true rfl) (by decide) (Nat.le_of_ble_eq_true rfl) rfl (fun H locs hw => ?_)
    refine lv_if_eq (tgt := 30) hx hb dX10_ways_15 (by decide) (fun q => ?_) (fun q => ?_)
    · have hf := hf_t q hf
      refine lv_iconst (v := -1) hx hb dX10_ways_30 kc_m1 ?_
      exact ret_i C hw dX10_ways_31 hf
    · have hf := hf_f q hf
      refine lv_aload_n hx hb dX10_ways_18 rfl (lv_at hl 0 rfl) ?_
      refine get_0_3 C hw q_378 dX10_ways_19 ?_
      refine lv_iload_n hx hb dX10_ways_22 rfl (lv_at hl 1 rfl) ?_
      refine lv_iload_n hx hb dX10_ways_23 rfl (lv_at hl 2 rfl) ?_
      obtain ⟨r3, hr, hf⟩ := hf_1 hf
      refine inv_Vi (q0 := 4) (ci := 4) (As := [.int p1, .int p2]) lk_X10_214 C hw rfl rfl rfl (t_Kp_howManySets hr) rfl hl.1 dX10_ways_24 rfl (Nat.le_of_ble_eq_true rfl) (by decide) (Nat.le_of_ble_eq_true rfl) rfl (fun H locs hw => ?_)
      refine lv_goto (tgt := 31) hx hb dX10_ways_27 (by decide) ?_
      exact ret_i C hw dX10_ways_31 hf
end
theorem t_Ch_ways {l : Launch} {V : St} {N : Nat} {S : St} {p1 : Int32} {p2 : Int32} {r : Int32} (hf : Ch_ways N S p1 p2 = some r) : Ct l (wX V) yX10_ways cX10_ways 3 (some .int) 5 (fun E => [.ref (ea E 0), .int p1, .int p2]) S (fun E => some (.int r)) S :=
  ofBlock (by decide +kernel) (fun _ => Nat.le_of_ble_eq_true rfl) (fun E p e s m args below meth c ls C hw hl => w_Ch_ways C hw hl hf)
theorem dX10_can_0 : decode cX10_can 0 = .ok (.aload_n 0, 1) := by decide +kernel
theorem dX10_can_1 : decode cX10_can 1 = .ok (.getfield 10, 3) := by decide +kernel
theorem dX10_can_4 : decode cX10_can 4 = .ok (.iload_n 1, 1) := by decide +kernel
theorem dX10_can_5 : decode cX10_can 5 = .ok (.invokevirtual 155, 3) := by decide +kernel
theorem dX10_can_8 : decode cX10_can 8 = .ok (.ifCond .eq 18, 3) := by decide +kernel
theorem dX10_can_11 : decode cX10_can 11 = .ok (.iload_n 2, 1) := by decide +kernel
theorem dX10_can_12 : decode cX10_can 12 = .ok (.aload_n 0, 1) := by decide +kernel
theorem dX10_can_13 : decode cX10_can 13 = .ok (.getfield 10, 3) := by decide +kernel
theorem dX10_can_16 : decode cX10_can 16 = .ok (.iload_n 1, 1) := by decide +kernel
theorem dX10_can_17 : decode cX10_can 17 = .ok (.invokevirtual 217, 3) := by decide +kernel
theorem dX10_can_20 : decode cX10_can 20 = .ok (.iconst (-1), 1) := by decide +kernel
theorem dX10_can_21 : decode cX10_can 21 = .ok (.ixor, 1) := by decide +kernel
theorem dX10_can_22 : decode cX10_can 22 = .ok (.iand, 1) := by decide +kernel
theorem dX10_can_23 : decode cX10_can 23 = .ok (.ifCond .eq 5, 3) := by decide +kernel
theorem dX10_can_26 : decode cX10_can 26 = .ok (.iconst (-1), 1) := by decide +kernel
theorem dX10_can_27 : decode cX10_can 27 = .ok (.ireturn, 1) := by decide +kernel
theorem dX10_can_28 : decode cX10_can 28 = .ok (.aload_n 0, 1) := by decide +kernel
theorem dX10_can_29 : decode cX10_can 29 = .ok (.getfield 63, 3) := by decide +kernel
theorem dX10_can_32 : decode cX10_can 32 = .ok (.iload_n 2, 1) := by decide +kernel
theorem dX10_can_33 : decode cX10_can 33 = .ok (.invokevirtual 220, 3) := by decide +kernel
theorem dX10_can_36 : decode cX10_can 36 = .ok (.ifCond .eq 7, 3) := by decide +kernel
theorem dX10_can_39 : decode cX10_can 39 = .ok (.iconst 1, 1) := by decide +kernel
theorem dX10_can_40 : decode cX10_can 40 = .ok (.goto 4, 3) := by decide +kernel
theorem dX10_can_43 : decode cX10_can 43 = .ok (.iconst 0, 1) := by decide +kernel
theorem dX10_can_44 : decode cX10_can 44 = .ok (.ireturn, 1) := by decide +kernel
section
variable {p : Program} {l : Launch} {e : Env} {s : State} {m : MethodId} {args : Array Value} {below : List Frame} {meth : Method} {c : Code} {H : Heap} {locs : List Loc} {E : Ev} {S V : St} {ls : Array Slot}
set_option maxRecDepth 20000 in
theorem w_Ch_can {N : Nat} {p1 : Int32} {p2 : Int32} {r : Int32} {S9 : St} (C : Cx p s m args meth c E cX10_can 3 RX10 (some .int)) (hw : Wd E (wX V E) s.heap S H locs) (hl : lv_has ls 3 [(0, .ref (ea E 0)), (1, .int p1), (2, .int p2)]) (hf : Ch_can N S p1 p2 = some (r, S9)) : W p l e (rmh 5) s m args below meth c H locs 0 0 (MQ below (QW E (wX V E) (some (.int r)) S9) args s 0 0 (eA E)) (F0 m 0 ls []) := by
  have hx := C.1
  have hb := C.2.1
  unfold Ch_can at hf
  refine lv_aload_n hx hb dX10_can_0 rfl (lv_at hl 0 rfl) ?_
  refine get_0_0 C hw q_375 dX10_can_1 ?_
  refine lv_iload_n hx hb dX10_can_4 rfl (lv_at hl 1 rfl) ?_
  obtain ⟨r1, hr, hf⟩ := hf_1 hf
  refine inv_Vi (q0 := 1) (ci := 8) (As := [.int p1]) lk_X10_155 C hw rfl rfl rfl (t_Sm_isOne hr) rfl hl.1 dX10_can_5 rfl (Nat.le_of_ble_eq_true rfl) (by decide) (Nat.le_of_ble_eq_true rfl) rfl (fun H locs hw => ?_)
  refine lv_if_eq (tgt := 26) hx hb dX10_can_8 (by decide) (fun q => ?_) (fun q => ?_)
  · have hf := hf_t q hf
    refine lv_iconst (v := -1) hx hb dX10_can_26 kc_m1 ?_
    exact ret_iS C hw dX10_can_27 hf
  · have hf := hf_f q hf
    refine lv_iload_n hx hb dX10_can_11 rfl (lv_at hl 2 rfl) ?_
    refine lv_aload_n hx hb dX10_can_12 rfl (lv_at hl 0 rfl) ?_
    refine get_0_0 C hw q_375 dX10_can_13 ?_
    refine lv_iload_n hx hb dX10_can_16 rfl (lv_at hl 1 rfl) ?_
    obtain ⟨r2, hr, hf⟩ := hf_1 hf
    refine inv_Vi (q0 := 1) (ci := 8) (As := [.int p1]) lk_X10_217 C hw rfl rfl rfl (t_Sm_promisesOf hr) rfl hl.1 dX10_can_17 rfl (Nat.le_of_ble_eq_true rfl) (by decide) (Nat.le_of_ble_eq_true rfl) rfl (fun H locs hw => ?_)
    refine lv_iconst (v := -1) hx hb dX10_can_20 kc_m1 ?_
    refine lv_ixor hx hb dX10_can_21 ?_
    refine lv_iand hx hb dX10_can_22 ?_
    refine lv_if_eq (tgt := 28) hx hb dX10_can_23 (by decide) (fun q => ?_) (fun q => ?_)
    · have hf := hf_t q hf
      refine lv_aload_n hx hb dX10_can_28 rfl (lv_at hl 0 rfl) ?_
      refine get_0_4 C hw q_379 dX10_can_29 ?_
      refine lv_iload_n hx hb dX10_can_32 rfl (lv_at hl 2 rfl) ?_
      obtain ⟨r4, S3, hr, hf⟩ := hf_2 hf
      refine inv_Vi (q0 := 5) (ci := 9) (As := [.int p2]) lk_X10_220 C hw rfl rfl rfl (t_Wk_canAll hr) rfl hl.1 dX10_can_33 rfl (Nat.le_of_ble_eq_true rfl) (by decide) (Nat.le_of_ble_eq_true rfl) rfl (fun H locs hw => ?_)
      refine lv_if_eq (tgt := 43) hx hb dX10_can_36 (by decide) (fun q => ?_) (fun q => ?_)
      · have hf := hf_t q hf
        refine lv_iconst (v := 0) hx hb dX10_can_43 kc_0 ?_
        exact ret_iS C hw dX10_can_44 hf
      · have hf := hf_f q hf
        refine lv_iconst (v := 1) hx hb dX10_can_39 kc_1 ?_
        refine lv_goto (tgt := 44) hx hb dX10_can_40 (by decide) ?_
        exact ret_iS C hw dX10_can_44 hf
    · have hf := hf_f q hf
      refine lv_iconst (v := -1) hx hb dX10_can_26 kc_m1 ?_
      exact ret_iS C hw dX10_can_27 hf
end
theorem t_Ch_can {l : Launch} {V : St} {N : Nat} {S : St} {p1 : Int32} {p2 : Int32} {r : Int32} {S9 : St} (hf : Ch_can N S p1 p2 = some (r, S9)) : Ct l (wX V) yX10_can cX10_can 3 (some .int) 5 (fun E => [.ref (ea E 0), .int p1, .int p2]) S (fun E => some (.int r)) S9 :=
  ofBlock (by decide +kernel) (fun _ => Nat.le_of_ble_eq_true rfl) (fun E p e s m args below meth c ls C hw hl => w_Ch_can C hw hl hf)
theorem dX10_most_0 : decode cX10_most 0 = .ok (.aload_n 0, 1) := by decide +kernel
theorem dX10_most_1 : decode cX10_most 1 = .ok (.getfield 10, 3) := by decide +kernel
theorem dX10_most_4 : decode cX10_most 4 = .ok (.iload_n 1, 1) := by decide +kernel
theorem dX10_most_5 : decode cX10_most 5 = .ok (.invokevirtual 155, 3) := by decide +kernel
theorem dX10_most_8 : decode cX10_most 8 = .ok (.ifCond .eq 10, 3) := by decide +kernel
theorem dX10_most_11 : decode cX10_most 11 = .ok (.iload_n 2, 1) := by decide +kernel
theorem dX10_most_12 : decode cX10_most 12 = .ok (.invokestatic 185, 3) := by decide +kernel
theorem dX10_most_15 : decode cX10_most 15 = .ok (.ifCond .ne 5, 3) := by decide +kernel
theorem dX10_most_18 : decode cX10_most 18 = .ok (.iconst (-1), 1) := by decide +kernel
theorem dX10_most_19 : decode cX10_most 19 = .ok (.ireturn, 1) := by decide +kernel
theorem dX10_most_20 : decode cX10_most 20 = .ok (.aload_n 0, 1) := by decide +kernel
theorem dX10_most_21 : decode cX10_most 21 = .ok (.getfield 63, 3) := by decide +kernel
theorem dX10_most_24 : decode cX10_most 24 = .ok (.aload_n 0, 1) := by decide +kernel
theorem dX10_most_25 : decode cX10_most 25 = .ok (.getfield 10, 3) := by decide +kernel
theorem dX10_most_28 : decode cX10_most 28 = .ok (.iload_n 1, 1) := by decide +kernel
theorem dX10_most_29 : decode cX10_most 29 = .ok (.invokevirtual 217, 3) := by decide +kernel
theorem dX10_most_32 : decode cX10_most 32 = .ok (.invokevirtual 223, 3) := by decide +kernel
theorem dX10_most_35 : decode cX10_most 35 = .ok (.istore_n 3, 1) := by decide +kernel
theorem dX10_most_36 : decode cX10_most 36 = .ok (.iload_n 2, 1) := by decide +kernel
theorem dX10_most_37 : decode cX10_most 37 = .ok (.iconst 1, 1) := by decide +kernel
theorem dX10_most_38 : decode cX10_most 38 = .ok (.if_icmp .ne 7, 3) := by decide +kernel
theorem dX10_most_41 : decode cX10_most 41 = .ok (.iload_n 3, 1) := by decide +kernel
theorem dX10_most_42 : decode cX10_most 42 = .ok (.goto 7, 3) := by decide +kernel
theorem dX10_most_45 : decode cX10_most 45 = .ok (.iload_n 3, 1) := by decide +kernel
theorem dX10_most_46 : decode cX10_most 46 = .ok (.invokestatic 200, 3) := by decide +kernel
theorem dX10_most_49 : decode cX10_most 49 = .ok (.ireturn, 1) := by decide +kernel
section
variable {p : Program} {l : Launch} {e : Env} {s : State} {m : MethodId} {args : Array Value} {below : List Frame} {meth : Method} {c : Code} {H : Heap} {locs : List Loc} {E : Ev} {S V : St} {ls : Array Slot}
set_option maxRecDepth 20000 in
theorem w_Ch_most {N : Nat} {p1 : Int32} {p2 : Int32} {r : Int32} {S9 : St} (C : Cx p s m args meth c E cX10_most 4 RX10 (some .int)) (hw : Wd E (wX V E) s.heap S H locs) (hl : lv_has ls 4 [(0, .ref (ea E 0)), (1, .int p1), (2, .int p2)]) (hf : Ch_most N S p1 p2 = some (r, S9)) : W p l e (rmh 5) s m args below meth c H locs 0 0 (MQ below (QW E (wX V E) (some (.int r)) S9) args s 0 0 (eA E)) (F0 m 0 ls []) := by
  have hx := C.1
  have hb := C.2.1
  unfold Ch_most at hf
  refine lv_aload_n hx hb dX10_most_0 rfl (lv_at hl 0 rfl) ?_
  refine get_0_0 C hw q_375 dX10_most_1 ?_
  refine lv_iload_n hx hb dX10_most_4 rfl (lv_at hl 1 rfl) ?_
  obtain ⟨r1, hr, hf⟩ := hf_1 hf
  refine inv_Vi (q0 := 1) (ci := 8) (As := [.int p1]) lk_X10_155 C hw rfl rfl rfl (t_Sm_isOne hr) rfl hl.1 dX10_most_5 rfl (Nat.le_of_ble_eq_true rfl) (by decide) (Nat.le_of_ble_eq_true rfl) rfl (fun H locs hw => ?_)
  refine lv_if_eq (tgt := 18) hx hb dX10_most_8 (by decide) (fun q => ?_) (fun q => ?_)
  · have hf := hf_t q hf
    refine lv_iconst (v := -1) hx hb dX10_most_18 kc_m1 ?_
    exact ret_iS C hw dX10_most_19 hf
  · have hf := hf_f q hf
    refine lv_iload_n hx hb dX10_most_11 rfl (lv_at hl 2 rfl) ?_
    obtain ⟨r2, hr, hf⟩ := hf_1 hf
    refine inv_Si (As := [.int p2]) lk_X10_185 C hw (t_Ch_isEither hr) hl.1 dX10_most_12 rfl (Nat.le_of_ble_eq_true rfl) (by decide) (Nat.le_of_ble_eq_true rfl) rfl (fun H locs hw => ?_)
    refine lv_if_ne (tgt := 20) hx hb dX10_most_15 (by decide) (fun q => ?_) (fun q => ?_)
    · have hf := hf_f q hf
      refine lv_aload_n hx hb dX10_most_20 rfl (lv_at hl 0 rfl) ?_
      refine get_0_4 C hw q_379 dX10_most_21 ?_
      refine lv_aload_n hx hb dX10_most_24 rfl (lv_at hl 0 rfl) ?_
      refine get_0_0 C hw q_375 dX10_most_25 ?_
      refine lv_iload_n hx hb dX10_most_28 rfl (lv_at hl 1 rfl) ?_
      obtain ⟨r3, hr, hf⟩ := hf_1 hf
      refine inv_Vi (q0 := 1) (ci := 8) (As := [.int p1]) lk_X10_217 C hw rfl rfl rfl (t_Sm_promisesOf hr) rfl hl.1 dX10_most_29 rfl (Nat.le_of_ble_eq_true rfl) (by decide) (Nat.le_of_ble_eq_true rfl) rfl (fun H locs hw => ?_)
      obtain ⟨r5, S4, hr, hf⟩ := hf_2 hf
      refine inv_Vi (q0 := 5) (ci := 9) (As := [.int r3]) lk_X10_223 C hw rfl rfl rfl (t_Wk_greatestSet hr) rfl hl.1 dX10_most_32 rfl (Nat.le_of_ble_eq_true rfl) (by decide) (Nat.le_of_ble_eq_true rfl) rfl (fun H locs hw => ?_)
      refine lv_istore_n (lv' := [(3, .int r5), (0, .ref (ea E 0)), (1, .int p1), (2, .int p2)]) hx hb dX10_most_35 rfl hl (by decide) rfl (fun ls hl => ?_)
      refine lv_iload_n hx hb dX10_most_36 rfl (lv_at hl 3 rfl) ?_
      refine lv_iconst (v := 1) hx hb dX10_most_37 kc_1 ?_
      refine lv_icmp_ne (tgt := 45) hx hb dX10_most_38 (by decide) (fun q => ?_) (fun q => ?_)
      · have hf := hf_f q hf
        refine lv_iload_n hx hb dX10_most_45 rfl (lv_at hl 0 rfl) ?_
        obtain ⟨r6, hr, hf⟩ := hf_1 hf
        refine inv_Si (As := [.int r5]) lk_X10_200 C hw (t_In_bitCount hr) hl.1 dX10_most_46 rfl (Nat.le_of_ble_eq_true rfl) (by decide) (Nat.le_of_ble_eq_true rfl) rfl (fun H locs hw => ?_)
        exact ret_iS C hw dX10_most_49 hf
      · have hf := hf_t q hf
        refine lv_iload_n hx hb dX10_most_41 rfl (lv_at hl 0 rfl) ?_
        refine lv_goto (tgt := 49) hx hb dX10_most_42 (by decide) ?_
        exact ret_iS C hw dX10_most_49 hf
    · have hf := hf_t q hf
      refine lv_iconst (v := -1) hx hb dX10_most_18 kc_m1 ?_
      exact ret_iS C hw dX10_most_19 hf
end
theorem t_Ch_most {l : Launch} {V : St} {N : Nat} {S : St} {p1 : Int32} {p2 : Int32} {r : Int32} {S9 : St} (hf : Ch_most N S p1 p2 = some (r, S9)) : Ct l (wX V) yX10_most cX10_most 4 (some .int) 5 (fun E => [.ref (ea E 0), .int p1, .int p2]) S (fun E => some (.int r)) S9 :=
  ofBlock (by decide +kernel) (fun _ => Nat.le_of_ble_eq_true rfl) (fun E p e s m args below meth c ls C hw hl => w_Ch_most C hw hl hf)
theorem dX10_clashes_0 : decode cX10_clashes 0 = .ok (.aload_n 0, 1) := by decide +kernel
theorem dX10_clashes_1 : decode cX10_clashes 1 = .ok (.getfield 10, 3) := by decide +kernel
theorem dX10_clashes_4 : decode cX10_clashes 4 = .ok (.iload_n 1, 1) := by decide +kernel
theorem dX10_clashes_5 : decode cX10_clashes 5 = .ok (.invokevirtual 155, 3) := by decide +kernel
theorem dX10_clashes_8 : decode cX10_clashes 8 = .ok (.ifCond .eq 10, 3) := by decide +kernel
theorem dX10_clashes_11 : decode cX10_clashes 11 = .ok (.iload_n 2, 1) := by decide +kernel
theorem dX10_clashes_12 : decode cX10_clashes 12 = .ok (.invokestatic 185, 3) := by decide +kernel
theorem dX10_clashes_15 : decode cX10_clashes 15 = .ok (.ifCond .ne 5, 3) := by decide +kernel
theorem dX10_clashes_18 : decode cX10_clashes 18 = .ok (.iconst (-1), 1) := by decide +kernel
theorem dX10_clashes_19 : decode cX10_clashes 19 = .ok (.ireturn, 1) := by decide +kernel
theorem dX10_clashes_20 : decode cX10_clashes 20 = .ok (.aload_n 0, 1) := by decide +kernel
theorem dX10_clashes_21 : decode cX10_clashes 21 = .ok (.getfield 10, 3) := by decide +kernel
theorem dX10_clashes_24 : decode cX10_clashes 24 = .ok (.iload_n 1, 1) := by decide +kernel
theorem dX10_clashes_25 : decode cX10_clashes 25 = .ok (.invokevirtual 217, 3) := by decide +kernel
theorem dX10_clashes_28 : decode cX10_clashes 28 = .ok (.istore_n 3, 1) := by decide +kernel
theorem dX10_clashes_29 : decode cX10_clashes 29 = .ok (.iload_n 2, 1) := by decide +kernel
theorem dX10_clashes_30 : decode cX10_clashes 30 = .ok (.ifCond .ne 14, 3) := by decide +kernel
theorem dX10_clashes_33 : decode cX10_clashes 33 = .ok (.aload_n 0, 1) := by decide +kernel
theorem dX10_clashes_34 : decode cX10_clashes 34 = .ok (.getfield 63, 3) := by decide +kernel
theorem dX10_clashes_37 : decode cX10_clashes 37 = .ok (.iload_n 3, 1) := by decide +kernel
theorem dX10_clashes_38 : decode cX10_clashes 38 = .ok (.invokevirtual 226, 3) := by decide +kernel
theorem dX10_clashes_41 : decode cX10_clashes 41 = .ok (.goto 11, 3) := by decide +kernel
theorem dX10_clashes_44 : decode cX10_clashes 44 = .ok (.aload_n 0, 1) := by decide +kernel
theorem dX10_clashes_45 : decode cX10_clashes 45 = .ok (.getfield 63, 3) := by decide +kernel
theorem dX10_clashes_48 : decode cX10_clashes 48 = .ok (.iload_n 3, 1) := by decide +kernel
theorem dX10_clashes_49 : decode cX10_clashes 49 = .ok (.invokevirtual 229, 3) := by decide +kernel
theorem dX10_clashes_52 : decode cX10_clashes 52 = .ok (.ireturn, 1) := by decide +kernel
section
variable {p : Program} {l : Launch} {e : Env} {s : State} {m : MethodId} {args : Array Value} {below : List Frame} {meth : Method} {c : Code} {H : Heap} {locs : List Loc} {E : Ev} {S V : St} {ls : Array Slot}
set_option maxRecDepth 20000 in
theorem w_Ch_clashes {N : Nat} {p1 : Int32} {p2 : Int32} {r : Int32} {S9 : St} (C : Cx p s m args meth c E cX10_clashes 4 RX10 (some .int)) (hw : Wd E (wX V E) s.heap S H locs) (hl : lv_has ls 4 [(0, .ref (ea E 0)), (1, .int p1), (2, .int p2)]) (hf : Ch_clashes N S p1 p2 = some (r, S9)) : W p l e (rmh 5) s m args below meth c H locs 0 0 (MQ below (QW E (wX V E) (some (.int r)) S9) args s 0 0 (eA E)) (F0 m 0 ls []) := by
  have hx := C.1
  have hb := C.2.1
  unfold Ch_clashes at hf
  refine lv_aload_n hx hb dX10_clashes_0 rfl (lv_at hl 0 rfl) ?_
  refine get_0_0 C hw q_375 dX10_clashes_1 ?_
  refine lv_iload_n hx hb dX10_clashes_4 rfl (lv_at hl 1 rfl) ?_
  obtain ⟨r1, hr, hf⟩ := hf_1 hf
  refine inv_Vi (q0 := 1) (ci := 8) (As := [.int p1]) lk_X10_155 C hw rfl rfl rfl (t_Sm_isOne hr) rfl hl.1 dX10_clashes_5 rfl (Nat.le_of_ble_eq_true rfl) (by decide) (Nat.le_of_ble_eq_true rfl) rfl (fun H locs hw => ?_)
  refine lv_if_eq (tgt := 18) hx hb dX10_clashes_8 (by decide) (fun q => ?_) (fun q => ?_)
  · have hf := hf_t q hf
    refine lv_iconst (v := -1) hx hb dX10_clashes_18 kc_m1 ?_
    exact ret_iS C hw dX10_clashes_19 hf
  · have hf := hf_f q hf
    refine lv_iload_n hx hb dX10_clashes_11 rfl (lv_at hl 2 rfl) ?_
    obtain ⟨r2, hr, hf⟩ := hf_1 hf
    refine inv_Si (As := [.int p2]) lk_X10_185 C hw (t_Ch_isEither hr) hl.1 dX10_clashes_12 rfl (Nat.le_of_ble_eq_true rfl) (by decide) (Nat.le_of_ble_eq_true rfl) rfl (fun H locs hw => ?_)
    refine lv_if_ne (tgt := 20) hx hb dX10_clashes_15 (by decide) (fun q => ?_) (fun q => ?_)
    · have hf := hf_f q hf
      refine lv_aload_n hx hb dX10_clashes_20 rfl (lv_at hl 0 rfl) ?_
      refine get_0_0 C hw q_375 dX10_clashes_21 ?_
      refine lv_iload_n hx hb dX10_clashes_24 rfl (lv_at hl 1 rfl) ?_
      obtain ⟨r3, hr, hf⟩ := hf_1 hf
      refine inv_Vi (q0 := 1) (ci := 8) (As := [.int p1]) lk_X10_217 C hw rfl rfl rfl (t_Sm_promisesOf hr) rfl hl.1 dX10_clashes_25 rfl (Nat.le_of_ble_eq_true rfl) (by decide) (Nat.le_of_ble_eq_true rfl) rfl (fun H locs hw => ?_)
      refine lv_istore_n (lv' := [(3, .int r3), (0, .ref (ea E 0)), (1, .int p1), (2, .int p2)]) hx hb dX10_clashes_28 rfl hl (by decide) rfl (fun ls hl => ?_)
      refine lv_iload_n hx hb dX10_clashes_29 rfl (lv_at hl 3 rfl) ?_
      refine lv_if_ne (tgt := 44) hx hb dX10_clashes_30 (by decide) (fun q => ?_) (fun q => ?_)
      · have hf := hf_f q hf
        refine lv_aload_n hx hb dX10_clashes_44 rfl (lv_at hl 1 rfl) ?_
        refine get_0_4 C hw q_379 dX10_clashes_45 ?_
        refine lv_iload_n hx hb dX10_clashes_48 rfl (lv_at hl 0 rfl) ?_
        obtain ⟨r5, S4, hr, hf⟩ := hf_2 hf
        refine inv_Vi (q0 := 5) (ci := 9) (As := [.int r3]) lk_X10_229 C hw rfl rfl rfl (t_Wk_leastClash hr) rfl hl.1 dX10_clashes_49 rfl (Nat.le_of_ble_eq_true rfl) (by decide) (Nat.le_of_ble_eq_true rfl) rfl (fun H locs hw => ?_)
        exact ret_iS C hw dX10_clashes_52 hf
      · have hf := hf_t q hf
        refine lv_aload_n hx hb dX10_clashes_33 rfl (lv_at hl 1 rfl) ?_
        refine get_0_4 C hw q_379 dX10_clashes_34 ?_
        refine lv_iload_n hx hb dX10_clashes_37 rfl (lv_at hl 0 rfl) ?_
        obtain ⟨r7, S6, hr, hf⟩ := hf_2 hf
        refine inv_Vi (q0 := 5) (ci := 9) (As := [.int r3]) lk_X10_226 C hw rfl rfl rfl (t_Wk_howManyClashes hr) rfl hl.1 dX10_clashes_38 rfl (Nat.le_of_ble_eq_true rfl) (by decide) (Nat.le_of_ble_eq_true rfl) rfl (fun H locs hw => ?_)
        refine lv_goto (tgt := 52) hx hb dX10_clashes_41 (by decide) ?_
        exact ret_iS C hw dX10_clashes_52 hf
    · have hf := hf_t q hf
      refine lv_iconst (v := -1) hx hb dX10_clashes_18 kc_m1 ?_
      exact ret_iS C hw dX10_clashes_19 hf
end
theorem t_Ch_clashes {l : Launch} {V : St} {N : Nat} {S : St} {p1 : Int32} {p2 : Int32} {r : Int32} {S9 : St} (hf : Ch_clashes N S p1 p2 = some (r, S9)) : Ct l (wX V) yX10_clashes cX10_clashes 4 (some .int) 5 (fun E => [.ref (ea E 0), .int p1, .int p2]) S (fun E => some (.int r)) S9 :=
  ofBlock (by decide +kernel) (fun _ => Nat.le_of_ble_eq_true rfl) (fun E p e s m args below meth c ls C hw hl => w_Ch_clashes C hw hl hf)
theorem dX10_hand_0 : decode cX10_hand 0 = .ok (.iload_n 1, 1) := by decide +kernel
theorem dX10_hand_1 : decode cX10_hand 1 = .ok (.bipush 100, 2) := by decide +kernel
theorem dX10_hand_3 : decode cX10_hand 3 = .ok (.idiv, 1) := by decide +kernel
theorem dX10_hand_4 : decode cX10_hand 4 = .ok (.istore_n 3, 1) := by decide +kernel
theorem dX10_hand_5 : decode cX10_hand 5 = .ok (.iload_n 1, 1) := by decide +kernel
theorem dX10_hand_6 : decode cX10_hand 6 = .ok (.bipush 100, 2) := by decide +kernel
theorem dX10_hand_8 : decode cX10_hand 8 = .ok (.irem, 1) := by decide +kernel
theorem dX10_hand_9 : decode cX10_hand 9 = .ok (.istore 4, 2) := by decide +kernel
theorem dX10_hand_11 : decode cX10_hand 11 = .ok (.aload_n 0, 1) := by decide +kernel
theorem dX10_hand_12 : decode cX10_hand 12 = .ok (.getfield 10, 3) := by decide +kernel
theorem dX10_hand_15 : decode cX10_hand 15 = .ok (.iload_n 3, 1) := by decide +kernel
theorem dX10_hand_16 : decode cX10_hand 16 = .ok (.invokevirtual 173, 3) := by decide +kernel
theorem dX10_hand_19 : decode cX10_hand 19 = .ok (.ifCond .eq 36, 3) := by decide +kernel
theorem dX10_hand_22 : decode cX10_hand 22 = .ok (.aload_n 0, 1) := by decide +kernel
theorem dX10_hand_23 : decode cX10_hand 23 = .ok (.getfield 10, 3) := by decide +kernel
theorem dX10_hand_26 : decode cX10_hand 26 = .ok (.iload 4, 2) := by decide +kernel
theorem dX10_hand_28 : decode cX10_hand 28 = .ok (.invokevirtual 155, 3) := by decide +kernel
theorem dX10_hand_31 : decode cX10_hand 31 = .ok (.ifCond .eq 24, 3) := by decide +kernel
theorem dX10_hand_34 : decode cX10_hand 34 = .ok (.iload 4, 2) := by decide +kernel
theorem dX10_hand_36 : decode cX10_hand 36 = .ok (.aload_n 0, 1) := by decide +kernel
theorem dX10_hand_37 : decode cX10_hand 37 = .ok (.getfield 10, 3) := by decide +kernel
theorem dX10_hand_40 : decode cX10_hand 40 = .ok (.getfield 232, 3) := by decide +kernel
theorem dX10_hand_43 : decode cX10_hand 43 = .ok (.iload_n 3, 1) := by decide +kernel
theorem dX10_hand_44 : decode cX10_hand 44 = .ok (.iaload, 1) := by decide +kernel
theorem dX10_hand_45 : decode cX10_hand 45 = .ok (.if_icmp .eq 10, 3) := by decide +kernel
theorem dX10_hand_48 : decode cX10_hand 48 = .ok (.iload_n 2, 1) := by decide +kernel
theorem dX10_hand_49 : decode cX10_hand 49 = .ok (.invokestatic 158, 3) := by decide +kernel
theorem dX10_hand_52 : decode cX10_hand 52 = .ok (.ifCond .ne 5, 3) := by decide +kernel
theorem dX10_hand_55 : decode cX10_hand 55 = .ok (.iconst (-1), 1) := by decide +kernel
theorem dX10_hand_56 : decode cX10_hand 56 = .ok (.ireturn, 1) := by decide +kernel
theorem dX10_hand_57 : decode cX10_hand 57 = .ok (.aload_n 0, 1) := by decide +kernel
theorem dX10_hand_58 : decode cX10_hand 58 = .ok (.getfield 10, 3) := by decide +kernel
theorem dX10_hand_61 : decode cX10_hand 61 = .ok (.iload_n 3, 1) := by decide +kernel
theorem dX10_hand_62 : decode cX10_hand 62 = .ok (.invokevirtual 236, 3) := by decide +kernel
theorem dX10_hand_65 : decode cX10_hand 65 = .ok (.ifCond .eq 8, 3) := by decide +kernel
theorem dX10_hand_68 : decode cX10_hand 68 = .ok (.bipush (-5), 2) := by decide +kernel
theorem dX10_hand_70 : decode cX10_hand 70 = .ok (.goto 14, 3) := by decide +kernel
theorem dX10_hand_73 : decode cX10_hand 73 = .ok (.aload_n 0, 1) := by decide +kernel
theorem dX10_hand_74 : decode cX10_hand 74 = .ok (.getfield 49, 3) := by decide +kernel
theorem dX10_hand_77 : decode cX10_hand 77 = .ok (.iload_n 3, 1) := by decide +kernel
theorem dX10_hand_78 : decode cX10_hand 78 = .ok (.iload 4, 2) := by decide +kernel
theorem dX10_hand_80 : decode cX10_hand 80 = .ok (.iload_n 2, 1) := by decide +kernel
theorem dX10_hand_81 : decode cX10_hand 81 = .ok (.invokevirtual 239, 3) := by decide +kernel
theorem dX10_hand_84 : decode cX10_hand 84 = .ok (.ireturn, 1) := by decide +kernel
section
variable {p : Program} {l : Launch} {e : Env} {s : State} {m : MethodId} {args : Array Value} {below : List Frame} {meth : Method} {c : Code} {H : Heap} {locs : List Loc} {E : Ev} {S V : St} {ls : Array Slot}
set_option maxRecDepth 20000 in
theorem w_Ch_hand {N : Nat} {p1 : Int32} {p2 : Int32} {r : Int32} (C : Cx p s m args meth c E cX10_hand 5 RX10 (some .int)) (hw : Wd E (wX V E) s.heap S H locs) (hl : lv_has ls 5 [(0, .ref (ea E 0)), (1, .int p1), (2, .int p2)]) (hf : Ch_hand N S p1 p2 = some r) : W p l e (rmh 4) s m args below meth c H locs 0 0 (MQ below (QW E (wX V E) (some (.int r)) S) args s 0 0 (eA E)) (F0 m 0 ls []) := by
  have hx := C.1
  have hb := C.2.1
  unfold Ch_hand at hf
  refine lv_iload_n hx hb dX10_hand_0 rfl (lv_at hl 1 rfl) ?_
  refine lv_bipush (v := 100) hx hb dX10_hand_1 kb_100 ?_
  refine lv_idiv hx hb dX10_hand_3 (by decide) ?_
  refine nm_i hf (fun x1 hf => ?_)
  refine lv_istore_n (lv' := [(3, .int x1), (0, .ref (ea E 0)), (1, .int p1), (2, .int p2)]) hx hb dX10_hand_4 rfl hl (by decide) rfl (fun ls hl => ?_)
  refine lv_iload_n hx hb dX10_hand_5 rfl (lv_at hl 2 rfl) ?_
  refine lv_bipush (v := 100) hx hb dX10_hand_6 kb_100 ?_
  refine lv_irem hx hb dX10_hand_8 (by decide) ?_
  refine nm_i hf (fun x2 hf => ?_)
  refine lv_istore (lv' := [(4, .int x2), (3, .int x1), (0, .ref (ea E 0)), (1, .int p1), (2, .int p2)]) hx hb dX10_hand_9 hl (by decide) rfl (fun ls hl => ?_)
  refine lv_aload_n hx hb dX10_hand_11 rfl (lv_at hl 2 rfl) ?_
  refine get_0_0 C hw q_375 dX10_hand_12 ?_
  refine lv_iload_n hx hb dX10_hand_15 rfl (lv_at hl 1 rfl) ?_
  obtain ⟨r3, hr, hf⟩ := hf_1 hf
  refine inv_Vi (q0 := 1) (ci := 8) (As := [.int x1]) lk_X10_173 C hw rfl rfl rfl (t_Sm_isPromise hr) rfl hl.1 dX10_hand_16 rfl (Nat.le_of_ble_eq_true rfl) (by decide) (Nat.le_of_ble_eq_true rfl) rfl (fun H locs hw => ?_)
  refine lv_if_eq (tgt := 55) hx hb dX10_hand_19 (by decide) (fun q => ?_) (fun q => ?_)
  · have hf := hf_t q hf
    refine lv_iconst (v := -1) hx hb dX10_hand_55 kc_m1 ?_
    exact ret_i C hw dX10_hand_56 hf
  · have hf := hf_f q hf
    refine lv_aload_n hx hb dX10_hand_22 rfl (lv_at hl 2 rfl) ?_
    refine get_0_0 C hw q_375 dX10_hand_23 ?_
    refine lv_iload hx hb dX10_hand_26 (lv_at hl 0 rfl) ?_
    obtain ⟨r4, hr, hf⟩ := hf_1 hf
    refine inv_Vi (q0 := 1) (ci := 8) (As := [.int x2]) lk_X10_155 C hw rfl rfl rfl (t_Sm_isOne hr) rfl hl.1 dX10_hand_28 rfl (Nat.le_of_ble_eq_true rfl) (by decide) (Nat.le_of_ble_eq_true rfl) rfl (fun H locs hw => ?_)
    refine lv_if_eq (tgt := 55) hx hb dX10_hand_31 (by decide) (fun q => ?_) (fun q => ?_)
    · have hf := hf_t q hf
      refine lv_iconst (v := -1) hx hb dX10_hand_55 kc_m1 ?_
      exact ret_i C hw dX10_hand_56 hf
    · have hf := hf_f q hf
      refine lv_iload hx hb dX10_hand_34 (lv_at hl 0 rfl) ?_
      refine lv_aload_n hx hb dX10_hand_36 rfl (lv_at hl 2 rfl) ?_
      refine get_0_0 C hw q_375 dX10_hand_37 ?_
      refine get_1_3 C hw q_116 dX10_hand_40 ?_
      refine lv_iload_n hx hb dX10_hand_43 rfl (lv_at hl 1 rfl) ?_
      obtain ⟨hc, hf⟩ := hf_ck hf
      refine ld_14 C hw hc dX10_hand_44 ?_
      refine lv_icmp_eq (tgt := 55) hx hb dX10_hand_45 (by decide) (fun q => ?_) (fun q => ?_)
      · have hf := hf_t q hf
        refine lv_iconst (v := -1) hx hb dX10_hand_55 kc_m1 ?_
        exact ret_i C hw dX10_hand_56 hf
      · have hf := hf_f q hf
        refine lv_iload_n hx hb dX10_hand_48 rfl (lv_at hl 4 rfl) ?_
        obtain ⟨r5, hr, hf⟩ := hf_1 hf
        refine inv_Si (As := [.int p2]) lk_X10_158 C hw (t_Ch_isDay hr) hl.1 dX10_hand_49 rfl (Nat.le_of_ble_eq_true rfl) (by decide) (Nat.le_of_ble_eq_true rfl) rfl (fun H locs hw => ?_)
        refine lv_if_ne (tgt := 57) hx hb dX10_hand_52 (by decide) (fun q => ?_) (fun q => ?_)
        · have hf := hf_f q hf
          refine lv_aload_n hx hb dX10_hand_57 rfl (lv_at hl 2 rfl) ?_
          refine get_0_0 C hw q_375 dX10_hand_58 ?_
          refine lv_iload_n hx hb dX10_hand_61 rfl (lv_at hl 1 rfl) ?_
          obtain ⟨r6, hr, hf⟩ := hf_1 hf
          refine inv_Vi (q0 := 1) (ci := 8) (As := [.int x1]) lk_X10_236 C hw rfl rfl rfl (t_Sm_isTied hr) rfl hl.1 dX10_hand_62 rfl (Nat.le_of_ble_eq_true rfl) (by decide) (Nat.le_of_ble_eq_true rfl) rfl (fun H locs hw => ?_)
          refine lv_if_eq (tgt := 73) hx hb dX10_hand_65 (by decide) (fun q => ?_) (fun q => ?_)
          · have hf := hf_t q hf
            refine lv_aload_n hx hb dX10_hand_73 rfl (lv_at hl 2 rfl) ?_
            refine get_0_2 C hw q_377 dX10_hand_74 ?_
            refine lv_iload_n hx hb dX10_hand_77 rfl (lv_at hl 1 rfl) ?_
            refine lv_iload hx hb dX10_hand_78 (lv_at hl 0 rfl) ?_
            refine lv_iload_n hx hb dX10_hand_80 rfl (lv_at hl 4 rfl) ?_
            obtain ⟨r7, hr, hf⟩ := hf_1 hf
            refine inv_Vi (q0 := 3) (ci := 2) (As := [.int x1, .int x2, .int p2]) lk_X10_239 C hw rfl rfl rfl (t_Dy_ridersIfHanded hr) rfl hl.1 dX10_hand_81 rfl (Nat.le_of_ble_eq_true rfl) (by decide) (Nat.le_of_ble_eq_true rfl) rfl (fun H locs hw => ?_)
            exact ret_i C hw dX10_hand_84 hf
          · have hf := hf_f q hf
            refine lv_bipush (v := -5) hx hb dX10_hand_68 kb_m5 ?_
            refine lv_goto (tgt := 84) hx hb dX10_hand_70 (by decide) ?_
            exact ret_i C hw dX10_hand_84 hf
        · have hf := hf_t q hf
          refine lv_iconst (v := -1) hx hb dX10_hand_55 kc_m1 ?_
          exact ret_i C hw dX10_hand_56 hf
end
theorem t_Ch_hand {l : Launch} {V : St} {N : Nat} {S : St} {p1 : Int32} {p2 : Int32} {r : Int32} (hf : Ch_hand N S p1 p2 = some r) : Ct l (wX V) yX10_hand cX10_hand 5 (some .int) 4 (fun E => [.ref (ea E 0), .int p1, .int p2]) S (fun E => some (.int r)) S :=
  ofBlock (by decide +kernel) (fun _ => Nat.le_of_ble_eq_true rfl) (fun E p e s m args below meth c ls C hw hl => w_Ch_hand C hw hl hf)
theorem dX10_handBest_0 : decode cX10_handBest 0 = .ok (.iload_n 1, 1) := by decide +kernel
theorem dX10_handBest_1 : decode cX10_handBest 1 = .ok (.invokestatic 158, 3) := by decide +kernel
theorem dX10_handBest_4 : decode cX10_handBest 4 = .ok (.ifCond .eq 10, 3) := by decide +kernel
theorem dX10_handBest_7 : decode cX10_handBest 7 = .ok (.iload_n 2, 1) := by decide +kernel
theorem dX10_handBest_8 : decode cX10_handBest 8 = .ok (.invokestatic 185, 3) := by decide +kernel
theorem dX10_handBest_11 : decode cX10_handBest 11 = .ok (.ifCond .ne 5, 3) := by decide +kernel
theorem dX10_handBest_14 : decode cX10_handBest 14 = .ok (.iconst (-1), 1) := by decide +kernel
theorem dX10_handBest_15 : decode cX10_handBest 15 = .ok (.ireturn, 1) := by decide +kernel
theorem dX10_handBest_16 : decode cX10_handBest 16 = .ok (.aload_n 0, 1) := by decide +kernel
theorem dX10_handBest_17 : decode cX10_handBest 17 = .ok (.getfield 49, 3) := by decide +kernel
theorem dX10_handBest_20 : decode cX10_handBest 20 = .ok (.iload_n 1, 1) := by decide +kernel
theorem dX10_handBest_21 : decode cX10_handBest 21 = .ok (.invokevirtual 242, 3) := by decide +kernel
theorem dX10_handBest_24 : decode cX10_handBest 24 = .ok (.istore_n 3, 1) := by decide +kernel
theorem dX10_handBest_25 : decode cX10_handBest 25 = .ok (.iload_n 3, 1) := by decide +kernel
theorem dX10_handBest_26 : decode cX10_handBest 26 = .ok (.bipush (-2), 2) := by decide +kernel
theorem dX10_handBest_28 : decode cX10_handBest 28 = .ok (.if_icmp .eq 7, 3) := by decide +kernel
theorem dX10_handBest_31 : decode cX10_handBest 31 = .ok (.iload_n 2, 1) := by decide +kernel
theorem dX10_handBest_32 : decode cX10_handBest 32 = .ok (.ifCond .ne 7, 3) := by decide +kernel
theorem dX10_handBest_35 : decode cX10_handBest 35 = .ok (.iload_n 3, 1) := by decide +kernel
theorem dX10_handBest_36 : decode cX10_handBest 36 = .ok (.goto 19, 3) := by decide +kernel
theorem dX10_handBest_39 : decode cX10_handBest 39 = .ok (.aload_n 0, 1) := by decide +kernel
theorem dX10_handBest_40 : decode cX10_handBest 40 = .ok (.getfield 49, 3) := by decide +kernel
theorem dX10_handBest_43 : decode cX10_handBest 43 = .ok (.iload_n 3, 1) := by decide +kernel
theorem dX10_handBest_44 : decode cX10_handBest 44 = .ok (.bipush 100, 2) := by decide +kernel
theorem dX10_handBest_46 : decode cX10_handBest 46 = .ok (.idiv, 1) := by decide +kernel
theorem dX10_handBest_47 : decode cX10_handBest 47 = .ok (.iload_n 3, 1) := by decide +kernel
theorem dX10_handBest_48 : decode cX10_handBest 48 = .ok (.bipush 100, 2) := by decide +kernel
theorem dX10_handBest_50 : decode cX10_handBest 50 = .ok (.irem, 1) := by decide +kernel
theorem dX10_handBest_51 : decode cX10_handBest 51 = .ok (.iload_n 1, 1) := by decide +kernel
theorem dX10_handBest_52 : decode cX10_handBest 52 = .ok (.invokevirtual 239, 3) := by decide +kernel
theorem dX10_handBest_55 : decode cX10_handBest 55 = .ok (.ireturn, 1) := by decide +kernel
section
variable {p : Program} {l : Launch} {e : Env} {s : State} {m : MethodId} {args : Array Value} {below : List Frame} {meth : Method} {c : Code} {H : Heap} {locs : List Loc} {E : Ev} {S V : St} {ls : Array Slot}
set_option maxRecDepth 20000 in
theorem w_Ch_handBest {N : Nat} {p1 : Int32} {p2 : Int32} {r : Int32} (C : Cx p s m args meth c E cX10_handBest 4 RX10 (some .int)) (hw : Wd E (wX V E) s.heap S H locs) (hl : lv_has ls 4 [(0, .ref (ea E 0)), (1, .int p1), (2, .int p2)]) (hf : Ch_handBest N S p1 p2 = some r) : W p l e (rmh 6) s m args below meth c H locs 0 0 (MQ below (QW E (wX V E) (some (.int r)) S) args s 0 0 (eA E)) (F0 m 0 ls []) := by
  have hx := C.1
  have hb := C.2.1
  unfold Ch_handBest at hf
  refine lv_iload_n hx hb dX10_handBest_0 rfl (lv_at hl 1 rfl) ?_
  obtain ⟨r1, hr, hf⟩ := hf_1 hf
  refine inv_Si (As := [.int p1]) lk_X10_158 C hw (t_Ch_isDay hr) hl.1 dX10_handBest_1 rfl (Nat.le_of_ble_eq_true rfl) (by decide) (Nat.le_of_ble_eq_true rfl) rfl (fun H locs hw => ?_)
  refine lv_if_eq (tgt := 14) hx hb dX10_handBest_4 (by decide) (fun q => ?_) (fun q => ?_)
  · have hf := hf_t q hf
    refine lv_iconst (v := -1) hx hb dX10_handBest_14 kc_m1 ?_
    exact ret_i C hw dX10_handBest_15 hf
  · have hf := hf_f q hf
    refine lv_iload_n hx hb dX10_handBest_7 rfl (lv_at hl 2 rfl) ?_
    obtain ⟨r2, hr, hf⟩ := hf_1 hf
    refine inv_Si (As := [.int p2]) lk_X10_185 C hw (t_Ch_isEither hr) hl.1 dX10_handBest_8 rfl (Nat.le_of_ble_eq_true rfl) (by decide) (Nat.le_of_ble_eq_true rfl) rfl (fun H locs hw => ?_)
    refine lv_if_ne (tgt := 16) hx hb dX10_handBest_11 (by decide) (fun q => ?_) (fun q => ?_)
    · have hf := hf_f q hf
      refine lv_aload_n hx hb dX10_handBest_16 rfl (lv_at hl 0 rfl) ?_
      refine get_0_2 C hw q_377 dX10_handBest_17 ?_
      refine lv_iload_n hx hb dX10_handBest_20 rfl (lv_at hl 1 rfl) ?_
      obtain ⟨r3, hr, hf⟩ := hf_1 hf
      refine inv_Vi (q0 := 3) (ci := 2) (As := [.int p1]) lk_X10_242 C hw rfl rfl rfl (t_Dy_bestHanding hr) rfl hl.1 dX10_handBest_21 rfl (Nat.le_of_ble_eq_true rfl) (by decide) (Nat.le_of_ble_eq_true rfl) rfl (fun H locs hw => ?_)
      refine lv_istore_n (lv' := [(3, .int r3), (0, .ref (ea E 0)), (1, .int p1), (2, .int p2)]) hx hb dX10_handBest_24 rfl hl (by decide) rfl (fun ls hl => ?_)
      refine lv_iload_n hx hb dX10_handBest_25 rfl (lv_at hl 0 rfl) ?_
      refine lv_bipush (v := -2) hx hb dX10_handBest_26 kb_m2 ?_
      refine lv_icmp_eq (tgt := 35) hx hb dX10_handBest_28 (by decide) (fun q => ?_) (fun q => ?_)
      · have hf := hf_t q hf
        refine lv_iload_n hx hb dX10_handBest_35 rfl (lv_at hl 0 rfl) ?_
        refine lv_goto (tgt := 55) hx hb dX10_handBest_36 (by decide) ?_
        exact ret_i C hw dX10_handBest_55 hf
      · have hf := hf_f q hf
        refine lv_iload_n hx hb dX10_handBest_31 rfl (lv_at hl 3 rfl) ?_
        refine lv_if_ne (tgt := 39) hx hb dX10_handBest_32 (by decide) (fun q => ?_) (fun q => ?_)
        · have hf := hf_f q hf
          refine lv_aload_n hx hb dX10_handBest_39 rfl (lv_at hl 1 rfl) ?_
          refine get_0_2 C hw q_377 dX10_handBest_40 ?_
          refine lv_iload_n hx hb dX10_handBest_43 rfl (lv_at hl 0 rfl) ?_
          refine lv_bipush (v := 100) hx hb dX10_handBest_44 kb_100 ?_
          refine lv_idiv hx hb dX10_handBest_46 (by decide) ?_
          refine lv_iload_n hx hb dX10_handBest_47 rfl (lv_at hl 0 rfl) ?_
          refine lv_bipush (v := 100) hx hb dX10_handBest_48 kb_100 ?_
          refine lv_irem hx hb dX10_handBest_50 (by decide) ?_
          refine lv_iload_n hx hb dX10_handBest_51 rfl (lv_at hl 2 rfl) ?_
          obtain ⟨r4, hr, hf⟩ := hf_1 hf
          refine inv_Vi (q0 := 3) (ci := 2) (As := [.int (r3 / (100 : Int32)), .int (r3 - r3 / (100 : Int32) * (100 : Int32)), .int p1]) lk_X10_239 C hw rfl rfl rfl (t_Dy_ridersIfHanded hr) rfl hl.1 dX10_handBest_52 rfl (Nat.le_of_ble_eq_true rfl) (by decide) (Nat.le_of_ble_eq_true rfl) rfl (fun H locs hw => ?_)
          exact ret_i C hw dX10_handBest_55 hf
        · have hf := hf_t q hf
          refine lv_iload_n hx hb dX10_handBest_35 rfl (lv_at hl 0 rfl) ?_
          refine lv_goto (tgt := 55) hx hb dX10_handBest_36 (by decide) ?_
          exact ret_i C hw dX10_handBest_55 hf
    · have hf := hf_t q hf
      refine lv_iconst (v := -1) hx hb dX10_handBest_14 kc_m1 ?_
      exact ret_i C hw dX10_handBest_15 hf
end
theorem t_Ch_handBest {l : Launch} {V : St} {N : Nat} {S : St} {p1 : Int32} {p2 : Int32} {r : Int32} (hf : Ch_handBest N S p1 p2 = some r) : Ct l (wX V) yX10_handBest cX10_handBest 4 (some .int) 6 (fun E => [.ref (ea E 0), .int p1, .int p2]) S (fun E => some (.int r)) S :=
  ofBlock (by decide +kernel) (fun _ => Nat.le_of_ble_eq_true rfl) (fun E p e s m args below meth c ls C hw hl => w_Ch_handBest C hw hl hf)
theorem dX10_judge_0 : decode cX10_judge 0 = .ok (.aload_n 0, 1) := by decide +kernel
theorem dX10_judge_1 : decode cX10_judge 1 = .ok (.getfield 26, 3) := by decide +kernel
theorem dX10_judge_4 : decode cX10_judge 4 = .ok (.iload_n 1, 1) := by decide +kernel
theorem dX10_judge_5 : decode cX10_judge 5 = .ok (.invokevirtual 107, 3) := by decide +kernel
theorem dX10_judge_8 : decode cX10_judge 8 = .ok (.ifCond .eq 14, 3) := by decide +kernel
theorem dX10_judge_11 : decode cX10_judge 11 = .ok (.aload_n 0, 1) := by decide +kernel
theorem dX10_judge_12 : decode cX10_judge 12 = .ok (.getfield 10, 3) := by decide +kernel
theorem dX10_judge_15 : decode cX10_judge 15 = .ok (.iload_n 2, 1) := by decide +kernel
theorem dX10_judge_16 : decode cX10_judge 16 = .ok (.invokevirtual 155, 3) := by decide +kernel
theorem dX10_judge_19 : decode cX10_judge 19 = .ok (.ifCond .ne 5, 3) := by decide +kernel
theorem dX10_judge_22 : decode cX10_judge 22 = .ok (.iconst (-1), 1) := by decide +kernel
theorem dX10_judge_23 : decode cX10_judge 23 = .ok (.ireturn, 1) := by decide +kernel
theorem dX10_judge_24 : decode cX10_judge 24 = .ok (.aload_n 0, 1) := by decide +kernel
theorem dX10_judge_25 : decode cX10_judge 25 = .ok (.getfield 26, 3) := by decide +kernel
theorem dX10_judge_28 : decode cX10_judge 28 = .ok (.iload_n 1, 1) := by decide +kernel
theorem dX10_judge_29 : decode cX10_judge 29 = .ok (.iconst 1, 1) := by decide +kernel
theorem dX10_judge_30 : decode cX10_judge 30 = .ok (.invokevirtual 111, 3) := by decide +kernel
theorem dX10_judge_33 : decode cX10_judge 33 = .ok (.istore_n 3, 1) := by decide +kernel
theorem dX10_judge_34 : decode cX10_judge 34 = .ok (.iload_n 3, 1) := by decide +kernel
theorem dX10_judge_35 : decode cX10_judge 35 = .ok (.ifCond .eq 7, 3) := by decide +kernel
theorem dX10_judge_38 : decode cX10_judge 38 = .ok (.iload_n 3, 1) := by decide +kernel
theorem dX10_judge_39 : decode cX10_judge 39 = .ok (.goto 12, 3) := by decide +kernel
theorem dX10_judge_42 : decode cX10_judge 42 = .ok (.aload_n 0, 1) := by decide +kernel
theorem dX10_judge_43 : decode cX10_judge 43 = .ok (.getfield 72, 3) := by decide +kernel
theorem dX10_judge_46 : decode cX10_judge 46 = .ok (.iload_n 1, 1) := by decide +kernel
theorem dX10_judge_47 : decode cX10_judge 47 = .ok (.iload_n 2, 1) := by decide +kernel
theorem dX10_judge_48 : decode cX10_judge 48 = .ok (.invokevirtual 245, 3) := by decide +kernel
theorem dX10_judge_51 : decode cX10_judge 51 = .ok (.ireturn, 1) := by decide +kernel
section
variable {p : Program} {l : Launch} {e : Env} {s : State} {m : MethodId} {args : Array Value} {below : List Frame} {meth : Method} {c : Code} {H : Heap} {locs : List Loc} {E : Ev} {S V : St} {ls : Array Slot}
set_option maxRecDepth 20000 in
theorem w_Ch_judge {N : Nat} {p1 : Int32} {p2 : Int32} {r : Int32} {S9 : St} (C : Cx p s m args meth c E cX10_judge 4 RX10 (some .int)) (hw : Wd E (wX V E) s.heap S H locs) (hl : lv_has ls 4 [(0, .ref (ea E 0)), (1, .int p1), (2, .int p2)]) (hf : Ch_judge N S p1 p2 = some (r, S9)) : W p l e (rmh 7) s m args below meth c H locs 0 0 (MQ below (QW E (wX V E) (some (.int r)) S9) args s 0 0 (eA E)) (F0 m 0 ls []) := by
  have hx := C.1
  have hb := C.2.1
  unfold Ch_judge at hf
  refine lv_aload_n hx hb dX10_judge_0 rfl (lv_at hl 0 rfl) ?_
  refine get_0_9 C hw q_384 dX10_judge_1 ?_
  refine lv_iload_n hx hb dX10_judge_4 rfl (lv_at hl 1 rfl) ?_
  obtain ⟨r1, hr, hf⟩ := hf_1 hf
  refine inv_Vi (q0 := 10) (ci := 7) (As := [.int p1]) lk_X10_107 C hw rfl rfl rfl (t_Sh_isShelf hr) rfl hl.1 dX10_judge_5 rfl (Nat.le_of_ble_eq_true rfl) (by decide) (Nat.le_of_ble_eq_true rfl) rfl (fun H locs hw => ?_)
  refine lv_if_eq (tgt := 22) hx hb dX10_judge_8 (by decide) (fun q => ?_) (fun q => ?_)
  · have hf := hf_t q hf
    refine lv_iconst (v := -1) hx hb dX10_judge_22 kc_m1 ?_
    exact ret_iS C hw dX10_judge_23 hf
  · have hf := hf_f q hf
    refine lv_aload_n hx hb dX10_judge_11 rfl (lv_at hl 0 rfl) ?_
    refine get_0_0 C hw q_375 dX10_judge_12 ?_
    refine lv_iload_n hx hb dX10_judge_15 rfl (lv_at hl 2 rfl) ?_
    obtain ⟨r2, hr, hf⟩ := hf_1 hf
    refine inv_Vi (q0 := 1) (ci := 8) (As := [.int p2]) lk_X10_155 C hw rfl rfl rfl (t_Sm_isOne hr) rfl hl.1 dX10_judge_16 rfl (Nat.le_of_ble_eq_true rfl) (by decide) (Nat.le_of_ble_eq_true rfl) rfl (fun H locs hw => ?_)
    refine lv_if_ne (tgt := 24) hx hb dX10_judge_19 (by decide) (fun q => ?_) (fun q => ?_)
    · have hf := hf_f q hf
      refine lv_aload_n hx hb dX10_judge_24 rfl (lv_at hl 0 rfl) ?_
      refine get_0_9 C hw q_384 dX10_judge_25 ?_
      refine lv_iload_n hx hb dX10_judge_28 rfl (lv_at hl 1 rfl) ?_
      refine lv_iconst (v := 1) hx hb dX10_judge_29 kc_1 ?_
      obtain ⟨r3, hr, hf⟩ := hf_1 hf
      refine inv_Vi (q0 := 10) (ci := 7) (As := [.int p1, .int (1 : Int32)]) lk_X10_111 C hw rfl rfl rfl (t_Sh_refusalOfRow hr) rfl hl.1 dX10_judge_30 rfl (Nat.le_of_ble_eq_true rfl) (by decide) (Nat.le_of_ble_eq_true rfl) rfl (fun H locs hw => ?_)
      refine lv_istore_n (lv' := [(3, .int r3), (0, .ref (ea E 0)), (1, .int p1), (2, .int p2)]) hx hb dX10_judge_33 rfl hl (by decide) rfl (fun ls hl => ?_)
      refine lv_iload_n hx hb dX10_judge_34 rfl (lv_at hl 0 rfl) ?_
      refine lv_if_eq (tgt := 42) hx hb dX10_judge_35 (by decide) (fun q => ?_) (fun q => ?_)
      · have hf := hf_t q hf
        refine lv_aload_n hx hb dX10_judge_42 rfl (lv_at hl 1 rfl) ?_
        refine get_0_5 C hw q_380 dX10_judge_43 ?_
        refine lv_iload_n hx hb dX10_judge_46 rfl (lv_at hl 2 rfl) ?_
        refine lv_iload_n hx hb dX10_judge_47 rfl (lv_at hl 3 rfl) ?_
        obtain ⟨r5, S4, hr, hf⟩ := hf_2 hf
        refine inv_Vi (q0 := 6) (ci := 1) (As := [.int p1, .int p2]) lk_X10_245 C hw rfl rfl rfl (t_Cr_firstWrongDay hr) rfl hl.1 dX10_judge_48 rfl (Nat.le_of_ble_eq_true rfl) (by decide) (Nat.le_of_ble_eq_true rfl) rfl (fun H locs hw => ?_)
        exact ret_iS C hw dX10_judge_51 hf
      · have hf := hf_f q hf
        refine lv_iload_n hx hb dX10_judge_38 rfl (lv_at hl 0 rfl) ?_
        refine lv_goto (tgt := 51) hx hb dX10_judge_39 (by decide) ?_
        exact ret_iS C hw dX10_judge_51 hf
    · have hf := hf_t q hf
      refine lv_iconst (v := -1) hx hb dX10_judge_22 kc_m1 ?_
      exact ret_iS C hw dX10_judge_23 hf
end
theorem t_Ch_judge {l : Launch} {V : St} {N : Nat} {S : St} {p1 : Int32} {p2 : Int32} {r : Int32} {S9 : St} (hf : Ch_judge N S p1 p2 = some (r, S9)) : Ct l (wX V) yX10_judge cX10_judge 4 (some .int) 7 (fun E => [.ref (ea E 0), .int p1, .int p2]) S (fun E => some (.int r)) S9 :=
  ofBlock (by decide +kernel) (fun _ => Nat.le_of_ble_eq_true rfl) (fun E p e s m args below meth c ls C hw hl => w_Ch_judge C hw hl hf)
theorem dX10_keptOn_0 : decode cX10_keptOn 0 = .ok (.aload_n 0, 1) := by decide +kernel
theorem dX10_keptOn_1 : decode cX10_keptOn 1 = .ok (.getfield 26, 3) := by decide +kernel
theorem dX10_keptOn_4 : decode cX10_keptOn 4 = .ok (.iload_n 1, 1) := by decide +kernel
theorem dX10_keptOn_5 : decode cX10_keptOn 5 = .ok (.invokevirtual 107, 3) := by decide +kernel
theorem dX10_keptOn_8 : decode cX10_keptOn 8 = .ok (.ifCond .eq 45, 3) := by decide +kernel
theorem dX10_keptOn_11 : decode cX10_keptOn 11 = .ok (.aload_n 0, 1) := by decide +kernel
theorem dX10_keptOn_12 : decode cX10_keptOn 12 = .ok (.getfield 10, 3) := by decide +kernel
theorem dX10_keptOn_15 : decode cX10_keptOn 15 = .ok (.iload_n 2, 1) := by decide +kernel
theorem dX10_keptOn_16 : decode cX10_keptOn 16 = .ok (.invokevirtual 173, 3) := by decide +kernel
theorem dX10_keptOn_19 : decode cX10_keptOn 19 = .ok (.ifCond .eq 34, 3) := by decide +kernel
theorem dX10_keptOn_22 : decode cX10_keptOn 22 = .ok (.aload_n 0, 1) := by decide +kernel
theorem dX10_keptOn_23 : decode cX10_keptOn 23 = .ok (.getfield 10, 3) := by decide +kernel
theorem dX10_keptOn_26 : decode cX10_keptOn 26 = .ok (.iload_n 3, 1) := by decide +kernel
theorem dX10_keptOn_27 : decode cX10_keptOn 27 = .ok (.invokevirtual 155, 3) := by decide +kernel
theorem dX10_keptOn_30 : decode cX10_keptOn 30 = .ok (.ifCond .eq 23, 3) := by decide +kernel
theorem dX10_keptOn_33 : decode cX10_keptOn 33 = .ok (.iload 4, 2) := by decide +kernel
theorem dX10_keptOn_35 : decode cX10_keptOn 35 = .ok (.invokestatic 185, 3) := by decide +kernel
theorem dX10_keptOn_38 : decode cX10_keptOn 38 = .ok (.ifCond .eq 15, 3) := by decide +kernel
theorem dX10_keptOn_41 : decode cX10_keptOn 41 = .ok (.aload_n 0, 1) := by decide +kernel
theorem dX10_keptOn_42 : decode cX10_keptOn 42 = .ok (.getfield 26, 3) := by decide +kernel
theorem dX10_keptOn_45 : decode cX10_keptOn 45 = .ok (.iload_n 1, 1) := by decide +kernel
theorem dX10_keptOn_46 : decode cX10_keptOn 46 = .ok (.iconst 1, 1) := by decide +kernel
theorem dX10_keptOn_47 : decode cX10_keptOn 47 = .ok (.invokevirtual 111, 3) := by decide +kernel
theorem dX10_keptOn_50 : decode cX10_keptOn 50 = .ok (.ifCond .eq 6, 3) := by decide +kernel
theorem dX10_keptOn_53 : decode cX10_keptOn 53 = .ok (.ldc 132, 2) := by decide +kernel
theorem dX10_keptOn_55 : decode cX10_keptOn 55 = .ok (.ireturn, 1) := by decide +kernel
theorem dX10_keptOn_56 : decode cX10_keptOn 56 = .ok (.aload_n 0, 1) := by decide +kernel
theorem dX10_keptOn_57 : decode cX10_keptOn 57 = .ok (.getfield 72, 3) := by decide +kernel
theorem dX10_keptOn_60 : decode cX10_keptOn 60 = .ok (.iload_n 1, 1) := by decide +kernel
theorem dX10_keptOn_61 : decode cX10_keptOn 61 = .ok (.iload_n 2, 1) := by decide +kernel
theorem dX10_keptOn_62 : decode cX10_keptOn 62 = .ok (.iload_n 3, 1) := by decide +kernel
theorem dX10_keptOn_63 : decode cX10_keptOn 63 = .ok (.invokevirtual 248, 3) := by decide +kernel
theorem dX10_keptOn_66 : decode cX10_keptOn 66 = .ok (.iload 4, 2) := by decide +kernel
theorem dX10_keptOn_68 : decode cX10_keptOn 68 = .ok (.ifCond .ne 14, 3) := by decide +kernel
theorem dX10_keptOn_71 : decode cX10_keptOn 71 = .ok (.aload_n 0, 1) := by decide +kernel
theorem dX10_keptOn_72 : decode cX10_keptOn 72 = .ok (.getfield 72, 3) := by decide +kernel
theorem dX10_keptOn_75 : decode cX10_keptOn 75 = .ok (.iload_n 1, 1) := by decide +kernel
theorem dX10_keptOn_76 : decode cX10_keptOn 76 = .ok (.invokevirtual 251, 3) := by decide +kernel
theorem dX10_keptOn_79 : decode cX10_keptOn 79 = .ok (.goto 11, 3) := by decide +kernel
theorem dX10_keptOn_82 : decode cX10_keptOn 82 = .ok (.aload_n 0, 1) := by decide +kernel
theorem dX10_keptOn_83 : decode cX10_keptOn 83 = .ok (.getfield 72, 3) := by decide +kernel
theorem dX10_keptOn_86 : decode cX10_keptOn 86 = .ok (.iload_n 1, 1) := by decide +kernel
theorem dX10_keptOn_87 : decode cX10_keptOn 87 = .ok (.invokevirtual 254, 3) := by decide +kernel
theorem dX10_keptOn_90 : decode cX10_keptOn 90 = .ok (.ireturn, 1) := by decide +kernel
section
variable {p : Program} {l : Launch} {e : Env} {s : State} {m : MethodId} {args : Array Value} {below : List Frame} {meth : Method} {c : Code} {H : Heap} {locs : List Loc} {E : Ev} {S V : St} {ls : Array Slot}
set_option maxRecDepth 20000 in
theorem w_Ch_keptOn {N : Nat} {p1 : Int32} {p2 : Int32} {p3 : Int32} {p4 : Int32} {r : Int32} {S9 : St} (C : Cx p s m args meth c E cX10_keptOn 5 RX10 (some .int)) (hw : Wd E (wX V E) s.heap S H locs) (hl : lv_has ls 5 [(0, .ref (ea E 0)), (1, .int p1), (2, .int p2), (3, .int p3), (4, .int p4)]) (hf : Ch_keptOn N S p1 p2 p3 p4 = some (r, S9)) : W p l e (rmh 7) s m args below meth c H locs 0 0 (MQ below (QW E (wX V E) (some (.int r)) S9) args s 0 0 (eA E)) (F0 m 0 ls []) := by
  have hx := C.1
  have hb := C.2.1
  unfold Ch_keptOn at hf
  refine lv_aload_n hx hb dX10_keptOn_0 rfl (lv_at hl 0 rfl) ?_
  refine get_0_9 C hw q_384 dX10_keptOn_1 ?_
  refine lv_iload_n hx hb dX10_keptOn_4 rfl (lv_at hl 1 rfl) ?_
  obtain ⟨r1, hr, hf⟩ := hf_1 hf
  refine inv_Vi (q0 := 10) (ci := 7) (As := [.int p1]) lk_X10_107 C hw rfl rfl rfl (t_Sh_isShelf hr) rfl hl.1 dX10_keptOn_5 rfl (Nat.le_of_ble_eq_true rfl) (by decide) (Nat.le_of_ble_eq_true rfl) rfl (fun H locs hw => ?_)
  refine lv_if_eq (tgt := 53) hx hb dX10_keptOn_8 (by decide) (fun q => ?_) (fun q => ?_)
  · have hf := hf_t q hf
    refine lv_ldc (v := -2000000000) hx hb C.2.2.2.1 (C.2.2.2.2.1 _ q_481) dX10_keptOn_53 ?_
    exact ret_iS C hw dX10_keptOn_55 hf
  · have hf := hf_f q hf
    refine lv_aload_n hx hb dX10_keptOn_11 rfl (lv_at hl 0 rfl) ?_
    refine get_0_0 C hw q_375 dX10_keptOn_12 ?_
    refine lv_iload_n hx hb dX10_keptOn_15 rfl (lv_at hl 2 rfl) ?_
    obtain ⟨r2, hr, hf⟩ := hf_1 hf
    refine inv_Vi (q0 := 1) (ci := 8) (As := [.int p2]) lk_X10_173 C hw rfl rfl rfl (t_Sm_isPromise hr) rfl hl.1 dX10_keptOn_16 rfl (Nat.le_of_ble_eq_true rfl) (by decide) (Nat.le_of_ble_eq_true rfl) rfl (fun H locs hw => ?_)
    refine lv_if_eq (tgt := 53) hx hb dX10_keptOn_19 (by decide) (fun q => ?_) (fun q => ?_)
    · have hf := hf_t q hf
      refine lv_ldc (v := -2000000000) hx hb C.2.2.2.1 (C.2.2.2.2.1 _ q_481) dX10_keptOn_53 ?_
      exact ret_iS C hw dX10_keptOn_55 hf
    · have hf := hf_f q hf
      refine lv_aload_n hx hb dX10_keptOn_22 rfl (lv_at hl 0 rfl) ?_
      refine get_0_0 C hw q_375 dX10_keptOn_23 ?_
      refine lv_iload_n hx hb dX10_keptOn_26 rfl (lv_at hl 3 rfl) ?_
      obtain ⟨r3, hr, hf⟩ := hf_1 hf
      refine inv_Vi (q0 := 1) (ci := 8) (As := [.int p3]) lk_X10_155 C hw rfl rfl rfl (t_Sm_isOne hr) rfl hl.1 dX10_keptOn_27 rfl (Nat.le_of_ble_eq_true rfl) (by decide) (Nat.le_of_ble_eq_true rfl) rfl (fun H locs hw => ?_)
      refine lv_if_eq (tgt := 53) hx hb dX10_keptOn_30 (by decide) (fun q => ?_) (fun q => ?_)
      · have hf := hf_t q hf
        refine lv_ldc (v := -2000000000) hx hb C.2.2.2.1 (C.2.2.2.2.1 _ q_481) dX10_keptOn_53 ?_
        exact ret_iS C hw dX10_keptOn_55 hf
      · have hf := hf_f q hf
        refine lv_iload hx hb dX10_keptOn_33 (lv_at hl 4 rfl) ?_
        obtain ⟨r4, hr, hf⟩ := hf_1 hf
        refine inv_Si (As := [.int p4]) lk_X10_185 C hw (t_Ch_isEither hr) hl.1 dX10_keptOn_35 rfl (Nat.le_of_ble_eq_true rfl) (by decide) (Nat.le_of_ble_eq_true rfl) rfl (fun H locs hw => ?_)
        refine lv_if_eq (tgt := 53) hx hb dX10_keptOn_38 (by decide) (fun q => ?_) (fun q => ?_)
        · have hf := hf_t q hf
          refine lv_ldc (v := -2000000000) hx hb C.2.2.2.1 (C.2.2.2.2.1 _ q_481) dX10_keptOn_53 ?_
          exact ret_iS C hw dX10_keptOn_55 hf
        · have hf := hf_f q hf
          refine lv_aload_n hx hb dX10_keptOn_41 rfl (lv_at hl 0 rfl) ?_
          refine get_0_9 C hw q_384 dX10_keptOn_42 ?_
          refine lv_iload_n hx hb dX10_keptOn_45 rfl (lv_at hl 1 rfl) ?_
          refine lv_iconst (v := 1) hx hb dX10_keptOn_46 kc_1 ?_
          obtain ⟨r5, hr, hf⟩ := hf_1 hf
          refine inv_Vi (q0 := 10) (ci := 7) (As := [.int p1, .int (1 : Int32)]) lk_X10_111 C hw rfl rfl rfl (t_Sh_refusalOfRow hr) rfl hl.1 dX10_keptOn_47 rfl (Nat.le_of_ble_eq_true rfl) (by decide) (Nat.le_of_ble_eq_true rfl) rfl (fun H locs hw => ?_)
          refine lv_if_eq (tgt := 56) hx hb dX10_keptOn_50 (by decide) (fun q => ?_) (fun q => ?_)
          · have hf := hf_t q hf
            refine lv_aload_n hx hb dX10_keptOn_56 rfl (lv_at hl 0 rfl) ?_
            refine get_0_5 C hw q_380 dX10_keptOn_57 ?_
            refine lv_iload_n hx hb dX10_keptOn_60 rfl (lv_at hl 1 rfl) ?_
            refine lv_iload_n hx hb dX10_keptOn_61 rfl (lv_at hl 2 rfl) ?_
            refine lv_iload_n hx hb dX10_keptOn_62 rfl (lv_at hl 3 rfl) ?_
            obtain ⟨S6, hr, hf⟩ := hf_1 hf
            refine inv_Vv (q0 := 6) (ci := 1) (As := [.int p1, .int p2, .int p3]) lk_X10_248 C hw rfl rfl rfl (t_Cr_compareOpenAndKept hr) rfl hl.1 dX10_keptOn_63 rfl (Nat.le_of_ble_eq_true rfl) (by decide) (Nat.le_of_ble_eq_true rfl) rfl (fun H locs hw => ?_)
            refine lv_iload hx hb dX10_keptOn_66 (lv_at hl 4 rfl) ?_
            refine lv_if_ne (tgt := 82) hx hb dX10_keptOn_68 (by decide) (fun q => ?_) (fun q => ?_)
            · have hf := hf_f q hf
              refine lv_aload_n hx hb dX10_keptOn_82 rfl (lv_at hl 0 rfl) ?_
              refine get_0_5 C hw q_380 dX10_keptOn_83 ?_
              refine lv_iload_n hx hb dX10_keptOn_86 rfl (lv_at hl 1 rfl) ?_
              obtain ⟨r7, hr, hf⟩ := hf_1 hf
              refine inv_Vi (q0 := 6) (ci := 1) (As := [.int p1]) lk_X10_254 C hw rfl rfl rfl (t_Cr_leastKept hr) rfl hl.1 dX10_keptOn_87 rfl (Nat.le_of_ble_eq_true rfl) (by decide) (Nat.le_of_ble_eq_true rfl) rfl (fun H locs hw => ?_)
              exact ret_iS C hw dX10_keptOn_90 hf
            · have hf := hf_t q hf
              refine lv_aload_n hx hb dX10_keptOn_71 rfl (lv_at hl 0 rfl) ?_
              refine get_0_5 C hw q_380 dX10_keptOn_72 ?_
              refine lv_iload_n hx hb dX10_keptOn_75 rfl (lv_at hl 1 rfl) ?_
              obtain ⟨r8, hr, hf⟩ := hf_1 hf
              refine inv_Vi (q0 := 6) (ci := 1) (As := [.int p1]) lk_X10_251 C hw rfl rfl rfl (t_Cr_howManyKepts hr) rfl hl.1 dX10_keptOn_76 rfl (Nat.le_of_ble_eq_true rfl) (by decide) (Nat.le_of_ble_eq_true rfl) rfl (fun H locs hw => ?_)
              refine lv_goto (tgt := 90) hx hb dX10_keptOn_79 (by decide) ?_
              exact ret_iS C hw dX10_keptOn_90 hf
          · have hf := hf_f q hf
            refine lv_ldc (v := -2000000000) hx hb C.2.2.2.1 (C.2.2.2.2.1 _ q_481) dX10_keptOn_53 ?_
            exact ret_iS C hw dX10_keptOn_55 hf
end
theorem t_Ch_keptOn {l : Launch} {V : St} {N : Nat} {S : St} {p1 : Int32} {p2 : Int32} {p3 : Int32} {p4 : Int32} {r : Int32} {S9 : St} (hf : Ch_keptOn N S p1 p2 p3 p4 = some (r, S9)) : Ct l (wX V) yX10_keptOn cX10_keptOn 5 (some .int) 7 (fun E => [.ref (ea E 0), .int p1, .int p2, .int p3, .int p4]) S (fun E => some (.int r)) S9 :=
  ofBlock (by decide +kernel) (fun _ => Nat.le_of_ble_eq_true rfl) (fun E p e s m args below meth c ls C hw hl => w_Ch_keptOn C hw hl hf)
theorem dX10_whose_0 : decode cX10_whose 0 = .ok (.aload_n 0, 1) := by decide +kernel
theorem dX10_whose_1 : decode cX10_whose 1 = .ok (.getfield 26, 3) := by decide +kernel
theorem dX10_whose_4 : decode cX10_whose 4 = .ok (.iload_n 1, 1) := by decide +kernel
theorem dX10_whose_5 : decode cX10_whose 5 = .ok (.invokevirtual 107, 3) := by decide +kernel
theorem dX10_whose_8 : decode cX10_whose 8 = .ok (.ifCond .ne 5, 3) := by decide +kernel
theorem dX10_whose_11 : decode cX10_whose 11 = .ok (.iconst (-1), 1) := by decide +kernel
theorem dX10_whose_12 : decode cX10_whose 12 = .ok (.ireturn, 1) := by decide +kernel
theorem dX10_whose_13 : decode cX10_whose 13 = .ok (.aload_n 0, 1) := by decide +kernel
theorem dX10_whose_14 : decode cX10_whose 14 = .ok (.getfield 26, 3) := by decide +kernel
theorem dX10_whose_17 : decode cX10_whose 17 = .ok (.iload_n 1, 1) := by decide +kernel
theorem dX10_whose_18 : decode cX10_whose 18 = .ok (.iconst 1, 1) := by decide +kernel
theorem dX10_whose_19 : decode cX10_whose 19 = .ok (.invokevirtual 111, 3) := by decide +kernel
theorem dX10_whose_22 : decode cX10_whose 22 = .ok (.istore_n 2, 1) := by decide +kernel
theorem dX10_whose_23 : decode cX10_whose 23 = .ok (.iload_n 2, 1) := by decide +kernel
theorem dX10_whose_24 : decode cX10_whose 24 = .ok (.ifCond .eq 7, 3) := by decide +kernel
theorem dX10_whose_27 : decode cX10_whose 27 = .ok (.iload_n 2, 1) := by decide +kernel
theorem dX10_whose_28 : decode cX10_whose 28 = .ok (.goto 11, 3) := by decide +kernel
theorem dX10_whose_31 : decode cX10_whose 31 = .ok (.aload_n 0, 1) := by decide +kernel
theorem dX10_whose_32 : decode cX10_whose 32 = .ok (.getfield 72, 3) := by decide +kernel
theorem dX10_whose_35 : decode cX10_whose 35 = .ok (.iload_n 1, 1) := by decide +kernel
theorem dX10_whose_36 : decode cX10_whose 36 = .ok (.invokevirtual 257, 3) := by decide +kernel
theorem dX10_whose_39 : decode cX10_whose 39 = .ok (.ireturn, 1) := by decide +kernel
section
variable {p : Program} {l : Launch} {e : Env} {s : State} {m : MethodId} {args : Array Value} {below : List Frame} {meth : Method} {c : Code} {H : Heap} {locs : List Loc} {E : Ev} {S V : St} {ls : Array Slot}
set_option maxRecDepth 20000 in
theorem w_Ch_whose {N : Nat} {p1 : Int32} {r : Int32} {S9 : St} (C : Cx p s m args meth c E cX10_whose 3 RX10 (some .int)) (hw : Wd E (wX V E) s.heap S H locs) (hl : lv_has ls 3 [(0, .ref (ea E 0)), (1, .int p1)]) (hf : Ch_whose N S p1 = some (r, S9)) : W p l e (rmh 8) s m args below meth c H locs 0 0 (MQ below (QW E (wX V E) (some (.int r)) S9) args s 0 0 (eA E)) (F0 m 0 ls []) := by
  have hx := C.1
  have hb := C.2.1
  unfold Ch_whose at hf
  refine lv_aload_n hx hb dX10_whose_0 rfl (lv_at hl 0 rfl) ?_
  refine get_0_9 C hw q_384 dX10_whose_1 ?_
  refine lv_iload_n hx hb dX10_whose_4 rfl (lv_at hl 1 rfl) ?_
  obtain ⟨r1, hr, hf⟩ := hf_1 hf
  refine inv_Vi (q0 := 10) (ci := 7) (As := [.int p1]) lk_X10_107 C hw rfl rfl rfl (t_Sh_isShelf hr) rfl hl.1 dX10_whose_5 rfl (Nat.le_of_ble_eq_true rfl) (by decide) (Nat.le_of_ble_eq_true rfl) rfl (fun H locs hw => ?_)
  refine lv_if_ne (tgt := 13) hx hb dX10_whose_8 (by decide) (fun q => ?_) (fun q => ?_)
  · have hf := hf_f q hf
    refine lv_aload_n hx hb dX10_whose_13 rfl (lv_at hl 0 rfl) ?_
    refine get_0_9 C hw q_384 dX10_whose_14 ?_
    refine lv_iload_n hx hb dX10_whose_17 rfl (lv_at hl 1 rfl) ?_
    refine lv_iconst (v := 1) hx hb dX10_whose_18 kc_1 ?_
    obtain ⟨r2, hr, hf⟩ := hf_1 hf
    refine inv_Vi (q0 := 10) (ci := 7) (As := [.int p1, .int (1 : Int32)]) lk_X10_111 C hw rfl rfl rfl (t_Sh_refusalOfRow hr) rfl hl.1 dX10_whose_19 rfl (Nat.le_of_ble_eq_true rfl) (by decide) (Nat.le_of_ble_eq_true rfl) rfl (fun H locs hw => ?_)
    refine lv_istore_n (lv' := [(2, .int r2), (0, .ref (ea E 0)), (1, .int p1)]) hx hb dX10_whose_22 rfl hl (by decide) rfl (fun ls hl => ?_)
    refine lv_iload_n hx hb dX10_whose_23 rfl (lv_at hl 0 rfl) ?_
    refine lv_if_eq (tgt := 31) hx hb dX10_whose_24 (by decide) (fun q => ?_) (fun q => ?_)
    · have hf := hf_t q hf
      refine lv_aload_n hx hb dX10_whose_31 rfl (lv_at hl 1 rfl) ?_
      refine get_0_5 C hw q_380 dX10_whose_32 ?_
      refine lv_iload_n hx hb dX10_whose_35 rfl (lv_at hl 2 rfl) ?_
      obtain ⟨r4, S3, hr, hf⟩ := hf_2 hf
      refine inv_Vi (q0 := 6) (ci := 1) (As := [.int p1]) lk_X10_257 C hw rfl rfl rfl (t_Cr_ownersOf hr) rfl hl.1 dX10_whose_36 rfl (Nat.le_of_ble_eq_true rfl) (by decide) (Nat.le_of_ble_eq_true rfl) rfl (fun H locs hw => ?_)
      exact ret_iS C hw dX10_whose_39 hf
    · have hf := hf_f q hf
      refine lv_iload_n hx hb dX10_whose_27 rfl (lv_at hl 0 rfl) ?_
      refine lv_goto (tgt := 39) hx hb dX10_whose_28 (by decide) ?_
      exact ret_iS C hw dX10_whose_39 hf
  · have hf := hf_t q hf
    refine lv_iconst (v := -1) hx hb dX10_whose_11 kc_m1 ?_
    exact ret_iS C hw dX10_whose_12 hf
end
theorem t_Ch_whose {l : Launch} {V : St} {N : Nat} {S : St} {p1 : Int32} {r : Int32} {S9 : St} (hf : Ch_whose N S p1 = some (r, S9)) : Ct l (wX V) yX10_whose cX10_whose 3 (some .int) 8 (fun E => [.ref (ea E 0), .int p1]) S (fun E => some (.int r)) S9 :=
  ofBlock (by decide +kernel) (fun _ => Nat.le_of_ble_eq_true rfl) (fun E p e s m args below meth c ls C hw hl => w_Ch_whose C hw hl hf)
theorem dX10_byTurns_0 : decode cX10_byTurns 0 = .ok (.iload_n 2, 1) := by decide +kernel
theorem dX10_byTurns_1 : decode cX10_byTurns 1 = .ok (.bipush 10, 2) := by decide +kernel
theorem dX10_byTurns_3 : decode cX10_byTurns 3 = .ok (.idiv, 1) := by decide +kernel
theorem dX10_byTurns_4 : decode cX10_byTurns 4 = .ok (.istore 4, 2) := by decide +kernel
theorem dX10_byTurns_6 : decode cX10_byTurns 6 = .ok (.iload_n 2, 1) := by decide +kernel
theorem dX10_byTurns_7 : decode cX10_byTurns 7 = .ok (.bipush 10, 2) := by decide +kernel
theorem dX10_byTurns_9 : decode cX10_byTurns 9 = .ok (.irem, 1) := by decide +kernel
theorem dX10_byTurns_10 : decode cX10_byTurns 10 = .ok (.istore 5, 2) := by decide +kernel
theorem dX10_byTurns_12 : decode cX10_byTurns 12 = .ok (.aload_n 0, 1) := by decide +kernel
theorem dX10_byTurns_13 : decode cX10_byTurns 13 = .ok (.getfield 10, 3) := by decide +kernel
theorem dX10_byTurns_16 : decode cX10_byTurns 16 = .ok (.iload_n 1, 1) := by decide +kernel
theorem dX10_byTurns_17 : decode cX10_byTurns 17 = .ok (.invokevirtual 155, 3) := by decide +kernel
theorem dX10_byTurns_20 : decode cX10_byTurns 20 = .ok (.ifCond .eq 29, 3) := by decide +kernel
theorem dX10_byTurns_23 : decode cX10_byTurns 23 = .ok (.iload 4, 2) := by decide +kernel
theorem dX10_byTurns_25 : decode cX10_byTurns 25 = .ok (.invokestatic 158, 3) := by decide +kernel
theorem dX10_byTurns_28 : decode cX10_byTurns 28 = .ok (.ifCond .eq 21, 3) := by decide +kernel
theorem dX10_byTurns_31 : decode cX10_byTurns 31 = .ok (.iload 5, 2) := by decide +kernel
theorem dX10_byTurns_33 : decode cX10_byTurns 33 = .ok (.iconst 1, 1) := by decide +kernel
theorem dX10_byTurns_34 : decode cX10_byTurns 34 = .ok (.bipush 6, 2) := by decide +kernel
theorem dX10_byTurns_36 : decode cX10_byTurns 36 = .ok (.invokestatic 83, 3) := by decide +kernel
theorem dX10_byTurns_39 : decode cX10_byTurns 39 = .ok (.ifCond .eq 10, 3) := by decide +kernel
theorem dX10_byTurns_42 : decode cX10_byTurns 42 = .ok (.iload_n 3, 1) := by decide +kernel
theorem dX10_byTurns_43 : decode cX10_byTurns 43 = .ok (.invokestatic 185, 3) := by decide +kernel
theorem dX10_byTurns_46 : decode cX10_byTurns 46 = .ok (.ifCond .ne 5, 3) := by decide +kernel
theorem dX10_byTurns_49 : decode cX10_byTurns 49 = .ok (.iconst (-1), 1) := by decide +kernel
theorem dX10_byTurns_50 : decode cX10_byTurns 50 = .ok (.ireturn, 1) := by decide +kernel
theorem dX10_byTurns_51 : decode cX10_byTurns 51 = .ok (.iload_n 3, 1) := by decide +kernel
theorem dX10_byTurns_52 : decode cX10_byTurns 52 = .ok (.iconst 1, 1) := by decide +kernel
theorem dX10_byTurns_53 : decode cX10_byTurns 53 = .ok (.if_icmp .ne 16, 3) := by decide +kernel
theorem dX10_byTurns_56 : decode cX10_byTurns 56 = .ok (.aload_n 0, 1) := by decide +kernel
theorem dX10_byTurns_57 : decode cX10_byTurns 57 = .ok (.getfield 56, 3) := by decide +kernel
theorem dX10_byTurns_60 : decode cX10_byTurns 60 = .ok (.iload_n 1, 1) := by decide +kernel
theorem dX10_byTurns_61 : decode cX10_byTurns 61 = .ok (.iload 4, 2) := by decide +kernel
theorem dX10_byTurns_63 : decode cX10_byTurns 63 = .ok (.iload 5, 2) := by decide +kernel
theorem dX10_byTurns_65 : decode cX10_byTurns 65 = .ok (.invokevirtual 260, 3) := by decide +kernel
theorem dX10_byTurns_68 : decode cX10_byTurns 68 = .ok (.ireturn, 1) := by decide +kernel
theorem dX10_byTurns_69 : decode cX10_byTurns 69 = .ok (.aload_n 0, 1) := by decide +kernel
theorem dX10_byTurns_70 : decode cX10_byTurns 70 = .ok (.getfield 56, 3) := by decide +kernel
theorem dX10_byTurns_73 : decode cX10_byTurns 73 = .ok (.iload_n 1, 1) := by decide +kernel
theorem dX10_byTurns_74 : decode cX10_byTurns 74 = .ok (.iload 4, 2) := by decide +kernel
theorem dX10_byTurns_76 : decode cX10_byTurns 76 = .ok (.iload 5, 2) := by decide +kernel
theorem dX10_byTurns_78 : decode cX10_byTurns 78 = .ok (.invokevirtual 263, 3) := by decide +kernel
theorem dX10_byTurns_81 : decode cX10_byTurns 81 = .ok (.ifCond .eq 7, 3) := by decide +kernel
theorem dX10_byTurns_84 : decode cX10_byTurns 84 = .ok (.iconst 1, 1) := by decide +kernel
theorem dX10_byTurns_85 : decode cX10_byTurns 85 = .ok (.goto 4, 3) := by decide +kernel
theorem dX10_byTurns_88 : decode cX10_byTurns 88 = .ok (.iconst 0, 1) := by decide +kernel
theorem dX10_byTurns_89 : decode cX10_byTurns 89 = .ok (.ireturn, 1) := by decide +kernel
section
variable {p : Program} {l : Launch} {e : Env} {s : State} {m : MethodId} {args : Array Value} {below : List Frame} {meth : Method} {c : Code} {H : Heap} {locs : List Loc} {E : Ev} {S V : St} {ls : Array Slot}
set_option maxRecDepth 20000 in
theorem w_Ch_byTurns {N : Nat} {p1 : Int32} {p2 : Int32} {p3 : Int32} {r : Int32} (C : Cx p s m args meth c E cX10_byTurns 6 RX10 (some .int)) (hw : Wd E (wX V E) s.heap S H locs) (hl : lv_has ls 6 [(0, .ref (ea E 0)), (1, .int p1), (2, .int p2), (3, .int p3)]) (hf : Ch_byTurns N S p1 p2 p3 = some r) : W p l e (rmh (N + 5)) s m args below meth c H locs 0 0 (MQ below (QW E (wX V E) (some (.int r)) S) args s 0 0 (eA E)) (F0 m 0 ls []) := by
  have hx := C.1
  have hb := C.2.1
  unfold Ch_byTurns at hf
  refine lv_iload_n hx hb dX10_byTurns_0 rfl (lv_at hl 2 rfl) ?_
  refine lv_bipush (v := 10) hx hb dX10_byTurns_1 kb_10 ?_
  refine lv_idiv hx hb dX10_byTurns_3 (by decide) ?_
  refine nm_i hf (fun x1 hf => ?_)
  refine lv_istore (lv' := [(4, .int x1), (0, .ref (ea E 0)), (1, .int p1), (2, .int p2), (3, .int p3)]) hx hb dX10_byTurns_4 hl (by decide) rfl (fun ls hl => ?_)
  refine lv_iload_n hx hb dX10_byTurns_6 rfl (lv_at hl 3 rfl) ?_
  refine lv_bipush (v := 10) hx hb dX10_byTurns_7 kb_10 ?_
  refine lv_irem hx hb dX10_byTurns_9 (by decide) ?_
  refine nm_i hf (fun x2 hf => ?_)
  refine lv_istore (lv' := [(5, .int x2), (4, .int x1), (0, .ref (ea E 0)), (1, .int p1), (2, .int p2), (3, .int p3)]) hx hb dX10_byTurns_10 hl (by decide) rfl (fun ls hl => ?_)
  refine lv_aload_n hx hb dX10_byTurns_12 rfl (lv_at hl 2 rfl) ?_
  refine get_0_0 C hw q_375 dX10_byTurns_13 ?_
  refine lv_iload_n hx hb dX10_byTurns_16 rfl (lv_at hl 3 rfl) ?_
  obtain ⟨r3, hr, hf⟩ := hf_1 hf
  refine inv_Vi (q0 := 1) (ci := 8) (As := [.int p1]) lk_X10_155 C hw rfl rfl rfl (t_Sm_isOne hr) rfl hl.1 dX10_byTurns_17 rfl (Nat.le_of_ble_eq_true rfl) (by decide) (Nat.le_of_ble_eq_true rfl) rfl (fun H locs hw => ?_)
  refine lv_if_eq (tgt := 49) hx hb dX10_byTurns_20 (by decide) (fun q => ?_) (fun q => ?_)
  · have hf := hf_t q hf
    refine lv_iconst (v := -1) hx hb dX10_byTurns_49 kc_m1 ?_
    exact ret_i C hw dX10_byTurns_50 hf
  · have hf := hf_f q hf
    refine lv_iload hx hb dX10_byTurns_23 (lv_at hl 1 rfl) ?_
    obtain ⟨r4, hr, hf⟩ := hf_1 hf
    refine inv_Si (As := [.int x1]) lk_X10_158 C hw (t_Ch_isDay hr) hl.1 dX10_byTurns_25 rfl (Nat.le_of_ble_eq_true rfl) (by decide) (Nat.le_of_ble_eq_true rfl) rfl (fun H locs hw => ?_)
    refine lv_if_eq (tgt := 49) hx hb dX10_byTurns_28 (by decide) (fun q => ?_) (fun q => ?_)
    · have hf := hf_t q hf
      refine lv_iconst (v := -1) hx hb dX10_byTurns_49 kc_m1 ?_
      exact ret_i C hw dX10_byTurns_50 hf
    · have hf := hf_f q hf
      refine lv_iload hx hb dX10_byTurns_31 (lv_at hl 0 rfl) ?_
      refine lv_iconst (v := 1) hx hb dX10_byTurns_33 kc_1 ?_
      refine lv_bipush (v := 6) hx hb dX10_byTurns_34 kb_6 ?_
      obtain ⟨r5, hr, hf⟩ := hf_1 hf
      refine inv_Si (As := [.int x2, .int (1 : Int32), .int (6 : Int32)]) lk_X10_83 C hw (t_Ch_within hr) hl.1 dX10_byTurns_36 rfl (Nat.le_of_ble_eq_true rfl) (by decide) (Nat.le_of_ble_eq_true rfl) rfl (fun H locs hw => ?_)
      refine lv_if_eq (tgt := 49) hx hb dX10_byTurns_39 (by decide) (fun q => ?_) (fun q => ?_)
      · have hf := hf_t q hf
        refine lv_iconst (v := -1) hx hb dX10_byTurns_49 kc_m1 ?_
        exact ret_i C hw dX10_byTurns_50 hf
      · have hf := hf_f q hf
        refine lv_iload_n hx hb dX10_byTurns_42 rfl (lv_at hl 5 rfl) ?_
        obtain ⟨r6, hr, hf⟩ := hf_1 hf
        refine inv_Si (As := [.int p3]) lk_X10_185 C hw (t_Ch_isEither hr) hl.1 dX10_byTurns_43 rfl (Nat.le_of_ble_eq_true rfl) (by decide) (Nat.le_of_ble_eq_true rfl) rfl (fun H locs hw => ?_)
        refine lv_if_ne (tgt := 51) hx hb dX10_byTurns_46 (by decide) (fun q => ?_) (fun q => ?_)
        · have hf := hf_f q hf
          refine lv_iload_n hx hb dX10_byTurns_51 rfl (lv_at hl 5 rfl) ?_
          refine lv_iconst (v := 1) hx hb dX10_byTurns_52 kc_1 ?_
          refine lv_icmp_ne (tgt := 69) hx hb dX10_byTurns_53 (by decide) (fun q => ?_) (fun q => ?_)
          · have hf := hf_f q hf
            refine lv_aload_n hx hb dX10_byTurns_69 rfl (lv_at hl 2 rfl) ?_
            refine get_0_3 C hw q_378 dX10_byTurns_70 ?_
            refine lv_iload_n hx hb dX10_byTurns_73 rfl (lv_at hl 3 rfl) ?_
            refine lv_iload hx hb dX10_byTurns_74 (lv_at hl 1 rfl) ?_
            refine lv_iload hx hb dX10_byTurns_76 (lv_at hl 0 rfl) ?_
            obtain ⟨r7, hr, hf⟩ := hf_1 hf
            refine inv_Vi (q0 := 4) (ci := 4) (As := [.int p1, .int x1, .int x2]) lk_X10_263 C hw rfl rfl rfl (t_Kp_winsByTurns hr) rfl hl.1 dX10_byTurns_78 rfl (by omega) (by decide) (Nat.le_of_ble_eq_true rfl) rfl (fun H locs hw => ?_)
            refine lv_if_eq (tgt := 88) hx hb dX10_byTurns_81 (by decide) (fun q => ?_) (fun q => ?_)
            · have hf := hf_t q hf
              refine lv_iconst (v := 0) hx hb dX10_byTurns_88 kc_0 ?_
              exact ret_i C hw dX10_byTurns_89 hf
            · have hf := hf_f q hf
              refine lv_iconst (v := 1) hx hb dX10_byTurns_84 kc_1 ?_
              refine lv_goto (tgt := 89) hx hb dX10_byTurns_85 (by decide) ?_
              exact ret_i C hw dX10_byTurns_89 hf
          · have hf := hf_t q hf
            refine lv_aload_n hx hb dX10_byTurns_56 rfl (lv_at hl 2 rfl) ?_
            refine get_0_3 C hw q_378 dX10_byTurns_57 ?_
            refine lv_iload_n hx hb dX10_byTurns_60 rfl (lv_at hl 3 rfl) ?_
            refine lv_iload hx hb dX10_byTurns_61 (lv_at hl 1 rfl) ?_
            refine lv_iload hx hb dX10_byTurns_63 (lv_at hl 0 rfl) ?_
            obtain ⟨r8, hr, hf⟩ := hf_1 hf
            refine inv_Vi (q0 := 4) (ci := 4) (As := [.int p1, .int x1, .int x2]) lk_X10_260 C hw rfl rfl rfl (t_Kp_bestFirstTurn hr) rfl hl.1 dX10_byTurns_65 rfl (by omega) (by decide) (Nat.le_of_ble_eq_true rfl) rfl (fun H locs hw => ?_)
            exact ret_i C hw dX10_byTurns_68 hf
        · have hf := hf_t q hf
          refine lv_iconst (v := -1) hx hb dX10_byTurns_49 kc_m1 ?_
          exact ret_i C hw dX10_byTurns_50 hf
end
theorem t_Ch_byTurns {l : Launch} {V : St} {N : Nat} {S : St} {p1 : Int32} {p2 : Int32} {p3 : Int32} {r : Int32} (hf : Ch_byTurns N S p1 p2 p3 = some r) : Ct l (wX V) yX10_byTurns cX10_byTurns 6 (some .int) (N + 5) (fun E => [.ref (ea E 0), .int p1, .int p2, .int p3]) S (fun E => some (.int r)) S :=
  ofBlock (by decide +kernel) (fun _ => Nat.le_of_ble_eq_true rfl) (fun E p e s m args below meth c ls C hw hl => w_Ch_byTurns C hw hl hf)
theorem dX10_loudest_0 : decode cX10_loudest 0 = .ok (.iload_n 1, 1) := by decide +kernel
theorem dX10_loudest_1 : decode cX10_loudest 1 = .ok (.invokestatic 185, 3) := by decide +kernel
theorem dX10_loudest_4 : decode cX10_loudest 4 = .ok (.ifCond .ne 5, 3) := by decide +kernel
theorem dX10_loudest_7 : decode cX10_loudest 7 = .ok (.iconst (-1), 1) := by decide +kernel
theorem dX10_loudest_8 : decode cX10_loudest 8 = .ok (.ireturn, 1) := by decide +kernel
theorem dX10_loudest_9 : decode cX10_loudest 9 = .ok (.aload_n 0, 1) := by decide +kernel
theorem dX10_loudest_10 : decode cX10_loudest 10 = .ok (.getfield 72, 3) := by decide +kernel
theorem dX10_loudest_13 : decode cX10_loudest 13 = .ok (.invokevirtual 266, 3) := by decide +kernel
theorem dX10_loudest_16 : decode cX10_loudest 16 = .ok (.istore_n 2, 1) := by decide +kernel
theorem dX10_loudest_17 : decode cX10_loudest 17 = .ok (.iload_n 1, 1) := by decide +kernel
theorem dX10_loudest_18 : decode cX10_loudest 18 = .ok (.ifCond .ne 7, 3) := by decide +kernel
theorem dX10_loudest_21 : decode cX10_loudest 21 = .ok (.iload_n 2, 1) := by decide +kernel
theorem dX10_loudest_22 : decode cX10_loudest 22 = .ok (.goto 11, 3) := by decide +kernel
theorem dX10_loudest_25 : decode cX10_loudest 25 = .ok (.aload_n 0, 1) := by decide +kernel
theorem dX10_loudest_26 : decode cX10_loudest 26 = .ok (.getfield 72, 3) := by decide +kernel
theorem dX10_loudest_29 : decode cX10_loudest 29 = .ok (.iload_n 2, 1) := by decide +kernel
theorem dX10_loudest_30 : decode cX10_loudest 30 = .ok (.invokevirtual 269, 3) := by decide +kernel
theorem dX10_loudest_33 : decode cX10_loudest 33 = .ok (.ireturn, 1) := by decide +kernel
section
variable {p : Program} {l : Launch} {e : Env} {s : State} {m : MethodId} {args : Array Value} {below : List Frame} {meth : Method} {c : Code} {H : Heap} {locs : List Loc} {E : Ev} {S V : St} {ls : Array Slot}
set_option maxRecDepth 20000 in
theorem w_Ch_loudest {N : Nat} {p1 : Int32} {r : Int32} {S9 : St} (C : Cx p s m args meth c E cX10_loudest 3 RX10 (some .int)) (hw : Wd E (wX V E) s.heap S H locs) (hl : lv_has ls 3 [(0, .ref (ea E 0)), (1, .int p1)]) (hf : Ch_loudest N S p1 = some (r, S9)) : W p l e (rmh 7) s m args below meth c H locs 0 0 (MQ below (QW E (wX V E) (some (.int r)) S9) args s 0 0 (eA E)) (F0 m 0 ls []) := by
  have hx := C.1
  have hb := C.2.1
  unfold Ch_loudest at hf
  refine lv_iload_n hx hb dX10_loudest_0 rfl (lv_at hl 1 rfl) ?_
  obtain ⟨r1, hr, hf⟩ := hf_1 hf
  refine inv_Si (As := [.int p1]) lk_X10_185 C hw (t_Ch_isEither hr) hl.1 dX10_loudest_1 rfl (Nat.le_of_ble_eq_true rfl) (by decide) (Nat.le_of_ble_eq_true rfl) rfl (fun H locs hw => ?_)
  refine lv_if_ne (tgt := 9) hx hb dX10_loudest_4 (by decide) (fun q => ?_) (fun q => ?_)
  · have hf := hf_f q hf
    refine lv_aload_n hx hb dX10_loudest_9 rfl (lv_at hl 0 rfl) ?_
    refine get_0_5 C hw q_380 dX10_loudest_10 ?_
    obtain ⟨r3, S2, hr, hf⟩ := hf_2 hf
    refine inv_Vi (q0 := 6) (ci := 1) (As := []) lk_X10_266 C hw rfl rfl rfl (t_Cr_loudestDay hr) rfl hl.1 dX10_loudest_13 rfl (Nat.le_of_ble_eq_true rfl) (by decide) (Nat.le_of_ble_eq_true rfl) rfl (fun H locs hw => ?_)
    refine lv_istore_n (lv' := [(2, .int r3), (0, .ref (ea E 0)), (1, .int p1)]) hx hb dX10_loudest_16 rfl hl (by decide) rfl (fun ls hl => ?_)
    refine lv_iload_n hx hb dX10_loudest_17 rfl (lv_at hl 2 rfl) ?_
    refine lv_if_ne (tgt := 25) hx hb dX10_loudest_18 (by decide) (fun q => ?_) (fun q => ?_)
    · have hf := hf_f q hf
      refine lv_aload_n hx hb dX10_loudest_25 rfl (lv_at hl 1 rfl) ?_
      refine get_0_5 C hw q_380 dX10_loudest_26 ?_
      refine lv_iload_n hx hb dX10_loudest_29 rfl (lv_at hl 0 rfl) ?_
      obtain ⟨r5, S4, hr, hf⟩ := hf_2 hf
      refine inv_Vi (q0 := 6) (ci := 1) (As := [.int r3]) lk_X10_269 C hw rfl rfl rfl (t_Cr_ofAll hr) rfl hl.1 dX10_loudest_30 rfl (Nat.le_of_ble_eq_true rfl) (by decide) (Nat.le_of_ble_eq_true rfl) rfl (fun H locs hw => ?_)
      exact ret_iS C hw dX10_loudest_33 hf
    · have hf := hf_t q hf
      refine lv_iload_n hx hb dX10_loudest_21 rfl (lv_at hl 0 rfl) ?_
      refine lv_goto (tgt := 33) hx hb dX10_loudest_22 (by decide) ?_
      exact ret_iS C hw dX10_loudest_33 hf
  · have hf := hf_t q hf
    refine lv_iconst (v := -1) hx hb dX10_loudest_7 kc_m1 ?_
    exact ret_iS C hw dX10_loudest_8 hf
end
theorem t_Ch_loudest {l : Launch} {V : St} {N : Nat} {S : St} {p1 : Int32} {r : Int32} {S9 : St} (hf : Ch_loudest N S p1 = some (r, S9)) : Ct l (wX V) yX10_loudest cX10_loudest 3 (some .int) 7 (fun E => [.ref (ea E 0), .int p1]) S (fun E => some (.int r)) S9 :=
  ofBlock (by decide +kernel) (fun _ => Nat.le_of_ble_eq_true rfl) (fun E p e s m args below meth c ls C hw hl => w_Ch_loudest C hw hl hf)
theorem dX10_drawn_0 : decode cX10_drawn 0 = .ok (.iload_n 2, 1) := by decide +kernel
theorem dX10_drawn_1 : decode cX10_drawn 1 = .ok (.iconst 1, 1) := by decide +kernel
theorem dX10_drawn_2 : decode cX10_drawn 2 = .ok (.bipush 30, 2) := by decide +kernel
theorem dX10_drawn_4 : decode cX10_drawn 4 = .ok (.invokestatic 83, 3) := by decide +kernel
theorem dX10_drawn_7 : decode cX10_drawn 7 = .ok (.ifCond .eq 25, 3) := by decide +kernel
theorem dX10_drawn_10 : decode cX10_drawn 10 = .ok (.aload_n 0, 1) := by decide +kernel
theorem dX10_drawn_11 : decode cX10_drawn 11 = .ok (.getfield 10, 3) := by decide +kernel
theorem dX10_drawn_14 : decode cX10_drawn 14 = .ok (.iload_n 3, 1) := by decide +kernel
theorem dX10_drawn_15 : decode cX10_drawn 15 = .ok (.invokevirtual 155, 3) := by decide +kernel
theorem dX10_drawn_18 : decode cX10_drawn 18 = .ok (.ifCond .eq 14, 3) := by decide +kernel
theorem dX10_drawn_21 : decode cX10_drawn 21 = .ok (.iload 4, 2) := by decide +kernel
theorem dX10_drawn_23 : decode cX10_drawn 23 = .ok (.iconst (-1), 1) := by decide +kernel
theorem dX10_drawn_24 : decode cX10_drawn 24 = .ok (.bipush 99, 2) := by decide +kernel
theorem dX10_drawn_26 : decode cX10_drawn 26 = .ok (.invokestatic 83, 3) := by decide +kernel
theorem dX10_drawn_29 : decode cX10_drawn 29 = .ok (.ifCond .ne 5, 3) := by decide +kernel
theorem dX10_drawn_32 : decode cX10_drawn 32 = .ok (.iconst (-1), 1) := by decide +kernel
theorem dX10_drawn_33 : decode cX10_drawn 33 = .ok (.ireturn, 1) := by decide +kernel
theorem dX10_drawn_34 : decode cX10_drawn 34 = .ok (.aload_n 0, 1) := by decide +kernel
theorem dX10_drawn_35 : decode cX10_drawn 35 = .ok (.getfield 49, 3) := by decide +kernel
theorem dX10_drawn_38 : decode cX10_drawn 38 = .ok (.iload_n 1, 1) := by decide +kernel
theorem dX10_drawn_39 : decode cX10_drawn 39 = .ok (.iload_n 2, 1) := by decide +kernel
theorem dX10_drawn_40 : decode cX10_drawn 40 = .ok (.iload_n 3, 1) := by decide +kernel
theorem dX10_drawn_41 : decode cX10_drawn 41 = .ok (.iload 4, 2) := by decide +kernel
theorem dX10_drawn_43 : decode cX10_drawn 43 = .ok (.invokevirtual 272, 3) := by decide +kernel
theorem dX10_drawn_46 : decode cX10_drawn 46 = .ok (.ireturn, 1) := by decide +kernel
section
variable {p : Program} {l : Launch} {e : Env} {s : State} {m : MethodId} {args : Array Value} {below : List Frame} {meth : Method} {c : Code} {H : Heap} {locs : List Loc} {E : Ev} {S V : St} {ls : Array Slot}
set_option maxRecDepth 20000 in
theorem w_Ch_drawn {N : Nat} {p1 : Int32} {p2 : Int32} {p3 : Int32} {p4 : Int32} {r : Int32} {S9 : St} (C : Cx p s m args meth c E cX10_drawn 5 RX10 (some .int)) (hw : Wd E (wX V E) s.heap S H locs) (hl : lv_has ls 5 [(0, .ref (ea E 0)), (1, .int p1), (2, .int p2), (3, .int p3), (4, .int p4)]) (hf : Ch_drawn N S p1 p2 p3 p4 = some (r, S9)) : W p l e (rmh 6) s m args below meth c H locs 0 0 (MQ below (QW E (wX V E) (some (.int r)) S9) args s 0 0 (eA E)) (F0 m 0 ls []) := by
  have hx := C.1
  have hb := C.2.1
  unfold Ch_drawn at hf
  refine lv_iload_n hx hb dX10_drawn_0 rfl (lv_at hl 2 rfl) ?_
  refine lv_iconst (v := 1) hx hb dX10_drawn_1 kc_1 ?_
  refine lv_bipush (v := 30) hx hb dX10_drawn_2 kb_30 ?_
  obtain ⟨r1, hr, hf⟩ := hf_1 hf
  refine inv_Si (As := [.int p2, .int (1 : Int32), .int (30 : Int32)]) lk_X10_83 C hw (t_Ch_within hr) hl.1 dX10_drawn_4 rfl (Nat.le_of_ble_eq_true rfl) (by decide) (Nat.le_of_ble_eq_true rfl) rfl (fun H locs hw => ?_)
  refine lv_if_eq (tgt := 32) hx hb dX10_drawn_7 (by decide) (fun q => ?_) (fun q => ?_)
  · have hf := hf_t q hf
    refine lv_iconst (v := -1) hx hb dX10_drawn_32 kc_m1 ?_
    exact ret_iS C hw dX10_drawn_33 hf
  · have hf := hf_f q hf
    refine lv_aload_n hx hb dX10_drawn_10 rfl (lv_at hl 0 rfl) ?_
    refine get_0_0 C hw q_375 dX10_drawn_11 ?_
    refine lv_iload_n hx hb dX10_drawn_14 rfl (lv_at hl 3 rfl) ?_
    obtain ⟨r2, hr, hf⟩ := hf_1 hf
    refine inv_Vi (q0 := 1) (ci := 8) (As := [.int p3]) lk_X10_155 C hw rfl rfl rfl (t_Sm_isOne hr) rfl hl.1 dX10_drawn_15 rfl (Nat.le_of_ble_eq_true rfl) (by decide) (Nat.le_of_ble_eq_true rfl) rfl (fun H locs hw => ?_)
    refine lv_if_eq (tgt := 32) hx hb dX10_drawn_18 (by decide) (fun q => ?_) (fun q => ?_)
    · have hf := hf_t q hf
      refine lv_iconst (v := -1) hx hb dX10_drawn_32 kc_m1 ?_
      exact ret_iS C hw dX10_drawn_33 hf
    · have hf := hf_f q hf
      refine lv_iload hx hb dX10_drawn_21 (lv_at hl 4 rfl) ?_
      refine lv_iconst (v := -1) hx hb dX10_drawn_23 kc_m1 ?_
      refine lv_bipush (v := 99) hx hb dX10_drawn_24 kb_99 ?_
      obtain ⟨r3, hr, hf⟩ := hf_1 hf
      refine inv_Si (As := [.int p4, .int (-1 : Int32), .int (99 : Int32)]) lk_X10_83 C hw (t_Ch_within hr) hl.1 dX10_drawn_26 rfl (Nat.le_of_ble_eq_true rfl) (by decide) (Nat.le_of_ble_eq_true rfl) rfl (fun H locs hw => ?_)
      refine lv_if_ne (tgt := 34) hx hb dX10_drawn_29 (by decide) (fun q => ?_) (fun q => ?_)
      · have hf := hf_f q hf
        refine lv_aload_n hx hb dX10_drawn_34 rfl (lv_at hl 0 rfl) ?_
        refine get_0_2 C hw q_377 dX10_drawn_35 ?_
        refine lv_iload_n hx hb dX10_drawn_38 rfl (lv_at hl 1 rfl) ?_
        refine lv_iload_n hx hb dX10_drawn_39 rfl (lv_at hl 2 rfl) ?_
        refine lv_iload_n hx hb dX10_drawn_40 rfl (lv_at hl 3 rfl) ?_
        refine lv_iload hx hb dX10_drawn_41 (lv_at hl 4 rfl) ?_
        obtain ⟨r5, S4, hr, hf⟩ := hf_2 hf
        refine inv_Vi (q0 := 3) (ci := 2) (As := [.int p1, .int p2, .int p3, .int p4]) lk_X10_272 C hw rfl rfl rfl (t_Dy_drawnRides hr) rfl hl.1 dX10_drawn_43 rfl (Nat.le_of_ble_eq_true rfl) (by decide) (Nat.le_of_ble_eq_true rfl) rfl (fun H locs hw => ?_)
        exact ret_iS C hw dX10_drawn_46 hf
      · have hf := hf_t q hf
        refine lv_iconst (v := -1) hx hb dX10_drawn_32 kc_m1 ?_
        exact ret_iS C hw dX10_drawn_33 hf
end
theorem t_Ch_drawn {l : Launch} {V : St} {N : Nat} {S : St} {p1 : Int32} {p2 : Int32} {p3 : Int32} {p4 : Int32} {r : Int32} {S9 : St} (hf : Ch_drawn N S p1 p2 p3 p4 = some (r, S9)) : Ct l (wX V) yX10_drawn cX10_drawn 5 (some .int) 6 (fun E => [.ref (ea E 0), .int p1, .int p2, .int p3, .int p4]) S (fun E => some (.int r)) S9 :=
  ofBlock (by decide +kernel) (fun _ => Nat.le_of_ble_eq_true rfl) (fun E p e s m args below meth c ls C hw hl => w_Ch_drawn C hw hl hf)
theorem dX10_passes_0 : decode cX10_passes 0 = .ok (.aload_n 0, 1) := by decide +kernel
theorem dX10_passes_1 : decode cX10_passes 1 = .ok (.getfield 79, 3) := by decide +kernel
theorem dX10_passes_4 : decode cX10_passes 4 = .ok (.invokevirtual 275, 3) := by decide +kernel
theorem dX10_passes_7 : decode cX10_passes 7 = .ok (.bipush 99, 2) := by decide +kernel
theorem dX10_passes_9 : decode cX10_passes 9 = .ok (.if_icmp .ne 8, 3) := by decide +kernel
theorem dX10_passes_12 : decode cX10_passes 12 = .ok (.bipush (-5), 2) := by decide +kernel
theorem dX10_passes_14 : decode cX10_passes 14 = .ok (.goto 10, 3) := by decide +kernel
theorem dX10_passes_17 : decode cX10_passes 17 = .ok (.aload_n 0, 1) := by decide +kernel
theorem dX10_passes_18 : decode cX10_passes 18 = .ok (.getfield 79, 3) := by decide +kernel
theorem dX10_passes_21 : decode cX10_passes 21 = .ok (.invokevirtual 278, 3) := by decide +kernel
theorem dX10_passes_24 : decode cX10_passes 24 = .ok (.ireturn, 1) := by decide +kernel
section
variable {p : Program} {l : Launch} {e : Env} {s : State} {m : MethodId} {args : Array Value} {below : List Frame} {meth : Method} {c : Code} {H : Heap} {locs : List Loc} {E : Ev} {S V : St} {ls : Array Slot}
set_option maxRecDepth 20000 in
theorem w_Ch_passes {N : Nat} {r : Int32} {S9 : St} (C : Cx p s m args meth c E cX10_passes 1 RX10 (some .int)) (hw : Wd E (wX V E) s.heap S H locs) (hl : lv_has ls 1 [(0, .ref (ea E 0))]) (hf : Ch_passes N S = some (r, S9)) : W p l e (rmh 6) s m args below meth c H locs 0 0 (MQ below (QW E (wX V E) (some (.int r)) S9) args s 0 0 (eA E)) (F0 m 0 ls []) := by
  have hx := C.1
  have hb := C.2.1
  unfold Ch_passes at hf
  refine lv_aload_n hx hb dX10_passes_0 rfl (lv_at hl 0 rfl) ?_
  refine get_0_6 C hw q_381 dX10_passes_1 ?_
  obtain ⟨r1, hr, hf⟩ := hf_1 hf
  refine inv_Vi (q0 := 7) (ci := 3) (As := []) lk_X10_275 C hw rfl rfl rfl (t_De_now hr) rfl hl.1 dX10_passes_4 rfl (Nat.le_of_ble_eq_true rfl) (by decide) (Nat.le_of_ble_eq_true rfl) rfl (fun H locs hw => ?_)
  refine lv_bipush (v := 99) hx hb dX10_passes_7 kb_99 ?_
  refine lv_icmp_ne (tgt := 17) hx hb dX10_passes_9 (by decide) (fun q => ?_) (fun q => ?_)
  · have hf := hf_f q hf
    refine lv_aload_n hx hb dX10_passes_17 rfl (lv_at hl 0 rfl) ?_
    refine get_0_6 C hw q_381 dX10_passes_18 ?_
    obtain ⟨r3, S2, hr, hf⟩ := hf_2 hf
    refine inv_Vi (q0 := 7) (ci := 3) (As := []) lk_X10_278 C hw rfl rfl rfl (t_De_endDay hr) rfl hl.1 dX10_passes_21 rfl (Nat.le_of_ble_eq_true rfl) (by decide) (Nat.le_of_ble_eq_true rfl) rfl (fun H locs hw => ?_)
    exact ret_iS C hw dX10_passes_24 hf
  · have hf := hf_t q hf
    refine lv_bipush (v := -5) hx hb dX10_passes_12 kb_m5 ?_
    refine lv_goto (tgt := 24) hx hb dX10_passes_14 (by decide) ?_
    exact ret_iS C hw dX10_passes_24 hf
end
theorem t_Ch_passes {l : Launch} {V : St} {N : Nat} {S : St} {r : Int32} {S9 : St} (hf : Ch_passes N S = some (r, S9)) : Ct l (wX V) yX10_passes cX10_passes 1 (some .int) 6 (fun E => [.ref (ea E 0)]) S (fun E => some (.int r)) S9 :=
  ofBlock (by decide +kernel) (fun _ => Nat.le_of_ble_eq_true rfl) (fun E p e s m args below meth c ls C hw hl => w_Ch_passes C hw hl hf)
