theorem dX10_put_0 : decode cX10_put 0 = .ok (.aload_n 0, 1) := by decide +kernel
theorem dX10_put_1 : decode cX10_put 1 = .ok (.getfield 26, 3) := by decide +kernel
theorem dX10_put_4 : decode cX10_put 4 = .ok (.iload_n 1, 1) := by decide +kernel
theorem dX10_put_5 : decode cX10_put 5 = .ok (.invokevirtual 107, 3) := by decide +kernel
theorem dX10_put_8 : decode cX10_put 8 = .ok (.ifCond .ne 5, 3) := by decide +kernel
theorem dX10_put_11 : decode cX10_put 11 = .ok (.iconst (-1), 1) := by decide +kernel
theorem dX10_put_12 : decode cX10_put 12 = .ok (.ireturn, 1) := by decide +kernel
theorem dX10_put_13 : decode cX10_put 13 = .ok (.aload_n 0, 1) := by decide +kernel
theorem dX10_put_14 : decode cX10_put 14 = .ok (.getfield 26, 3) := by decide +kernel
theorem dX10_put_17 : decode cX10_put 17 = .ok (.iload_n 1, 1) := by decide +kernel
theorem dX10_put_18 : decode cX10_put 18 = .ok (.iload_n 2, 1) := by decide +kernel
theorem dX10_put_19 : decode cX10_put 19 = .ok (.invokevirtual 346, 3) := by decide +kernel
theorem dX10_put_22 : decode cX10_put 22 = .ok (.istore 5, 2) := by decide +kernel
theorem dX10_put_24 : decode cX10_put 24 = .ok (.iload 5, 2) := by decide +kernel
theorem dX10_put_26 : decode cX10_put 26 = .ok (.ifCond .eq 8, 3) := by decide +kernel
theorem dX10_put_29 : decode cX10_put 29 = .ok (.iload 5, 2) := by decide +kernel
theorem dX10_put_31 : decode cX10_put 31 = .ok (.goto 13, 3) := by decide +kernel
theorem dX10_put_34 : decode cX10_put 34 = .ok (.aload_n 0, 1) := by decide +kernel
theorem dX10_put_35 : decode cX10_put 35 = .ok (.getfield 26, 3) := by decide +kernel
theorem dX10_put_38 : decode cX10_put 38 = .ok (.iload_n 1, 1) := by decide +kernel
theorem dX10_put_39 : decode cX10_put 39 = .ok (.iload_n 2, 1) := by decide +kernel
theorem dX10_put_40 : decode cX10_put 40 = .ok (.lload_n 3, 1) := by decide +kernel
theorem dX10_put_41 : decode cX10_put 41 = .ok (.invokevirtual 349, 3) := by decide +kernel
theorem dX10_put_44 : decode cX10_put 44 = .ok (.ireturn, 1) := by decide +kernel
def Ch_put (S : St) (p1 : Int32) (p2 : Int32) (p3 : Int64) : Option (Int32 × St) :=
  bd1 (Sh_isShelf S p1) fun r1 =>
  if r1 = 0 then
    some ((-1 : Int32), S)
  else
    bd1 (Sh_refusalOfPlace S p1 p2) fun r2 =>
    if r2 = 0 then
      bd2 (Sh_putAt S p1 p2 p3) fun r4 S3 =>
      some (r4, S3)
    else
      some (r2, S)
section
variable {p : Program} {l : Launch} {e : Env} {s : State} {m : MethodId} {args : Array Value} {below : List Frame} {meth : Method} {c : Code} {H : Heap} {locs : List Loc} {E : Ev} {S V : St} {ls : Array Slot}
set_option maxRecDepth 20000 in
theorem w_Ch_put {p1 : Int32} {p2 : Int32} {p3 : Int64} {r : Int32} {S9 : St} (C : Cx p s m args meth c E cX10_put 6 RX10 (some .int)) (hw : Wd E (wX V E) s.heap S H locs) (hl : lv_has ls 6 [(0, .ref (ea E 0)), (1, .int p1), (2, .int p2), (3, .long p3)]) (hf : Ch_put S p1 p2 p3 = some (r, S9)) : W p l e (rmh 3) s m args below meth c H locs 0 0 (MQ below (QW E (wX V E) (some (.int r)) S9) args s 0 0 (eA E)) (F0 m 0 ls []) := by
  have hx := C.1
  have hb := C.2.1
  unfold Ch_put at hf
  refine lv_aload_n hx hb dX10_put_0 rfl (lv_at hl 0 rfl) ?_
  refine get_0_9 C hw q_383 dX10_put_1 ?_
  refine lv_iload_n hx hb dX10_put_4 rfl (lv_at hl 1 rfl) ?_
  obtain ⟨r1, hr, hf⟩ := hf_1 hf
  refine inv_Vi (q0 := 10) (ci := 7) (As := [.int p1]) lk_X10_107 C hw rfl rfl rfl (t_Sh_isShelf hr) rfl hl.1 dX10_put_5 rfl (Nat.le_of_ble_eq_true rfl) (by decide) (Nat.le_of_ble_eq_true rfl) rfl (fun H locs hw => ?_)
  refine lv_if_ne (tgt := 13) hx hb dX10_put_8 (by decide) (fun q => ?_) (fun q => ?_)
  · have hf := hf_f q hf
    refine lv_aload_n hx hb dX10_put_13 rfl (lv_at hl 0 rfl) ?_
    refine get_0_9 C hw q_383 dX10_put_14 ?_
    refine lv_iload_n hx hb dX10_put_17 rfl (lv_at hl 1 rfl) ?_
    refine lv_iload_n hx hb dX10_put_18 rfl (lv_at hl 2 rfl) ?_
    obtain ⟨r2, hr, hf⟩ := hf_1 hf
    refine inv_Vi (q0 := 10) (ci := 7) (As := [.int p1, .int p2]) lk_X10_346 C hw rfl rfl rfl (t_Sh_refusalOfPlace hr) rfl hl.1 dX10_put_19 rfl (Nat.le_of_ble_eq_true rfl) (by decide) (Nat.le_of_ble_eq_true rfl) rfl (fun H locs hw => ?_)
    refine lv_istore (lv' := [(5, .int r2), (0, .ref (ea E 0)), (1, .int p1), (2, .int p2), (3, .long p3)]) hx hb dX10_put_22 hl (by decide) rfl (fun ls hl => ?_)
    refine lv_iload hx hb dX10_put_24 (lv_at hl 0 rfl) ?_
    refine lv_if_eq (tgt := 34) hx hb dX10_put_26 (by decide) (fun q => ?_) (fun q => ?_)
    · have hf := hf_t q hf
      refine lv_aload_n hx hb dX10_put_34 rfl (lv_at hl 1 rfl) ?_
      refine get_0_9 C hw q_383 dX10_put_35 ?_
      refine lv_iload_n hx hb dX10_put_38 rfl (lv_at hl 2 rfl) ?_
      refine lv_iload_n hx hb dX10_put_39 rfl (lv_at hl 3 rfl) ?_
      refine lv_lload_n hx hb dX10_put_40 rfl (lv_at hl 4 rfl) ?_
      obtain ⟨r4, S3, hr, hf⟩ := hf_2 hf
      refine inv_Vi (q0 := 10) (ci := 7) (As := [.int p1, .int p2, .long p3]) lk_X10_349 C hw rfl rfl rfl (t_Sh_putAt hr) rfl hl.1 dX10_put_41 rfl (Nat.le_of_ble_eq_true rfl) (by decide) (Nat.le_of_ble_eq_true rfl) rfl (fun H locs hw => ?_)
      exact ret_iS C hw dX10_put_44 hf
    · have hf := hf_f q hf
      refine lv_iload hx hb dX10_put_29 (lv_at hl 0 rfl) ?_
      refine lv_goto (tgt := 44) hx hb dX10_put_31 (by decide) ?_
      exact ret_iS C hw dX10_put_44 hf
  · have hf := hf_t q hf
    refine lv_iconst (v := -1) hx hb dX10_put_11 kc_m1 ?_
    exact ret_iS C hw dX10_put_12 hf
end
theorem t_Ch_put {l : Launch} {V : St} {S : St} {p1 : Int32} {p2 : Int32} {p3 : Int64} {r : Int32} {S9 : St} (hf : Ch_put S p1 p2 p3 = some (r, S9)) : Ct l (wX V) yX10_put cX10_put 6 (some .int) 3 (fun E => [.ref (ea E 0), .int p1, .int p2, .long p3]) S (fun E => some (.int r)) S9 :=
  ofBlock (by decide +kernel) (fun _ => Nat.le_of_ble_eq_true rfl) (fun E p e s m args below meth c ls C hw hl => w_Ch_put C hw hl hf)
theorem dX10_element_0 : decode cX10_element 0 = .ok (.aload_n 0, 1) := by decide +kernel
theorem dX10_element_1 : decode cX10_element 1 = .ok (.getfield 26, 3) := by decide +kernel
theorem dX10_element_4 : decode cX10_element 4 = .ok (.iload_n 1, 1) := by decide +kernel
theorem dX10_element_5 : decode cX10_element 5 = .ok (.invokevirtual 107, 3) := by decide +kernel
theorem dX10_element_8 : decode cX10_element 8 = .ok (.ifCond .eq 15, 3) := by decide +kernel
theorem dX10_element_11 : decode cX10_element 11 = .ok (.aload_n 0, 1) := by decide +kernel
theorem dX10_element_12 : decode cX10_element 12 = .ok (.getfield 26, 3) := by decide +kernel
theorem dX10_element_15 : decode cX10_element 15 = .ok (.iload_n 1, 1) := by decide +kernel
theorem dX10_element_16 : decode cX10_element 16 = .ok (.iload_n 2, 1) := by decide +kernel
theorem dX10_element_17 : decode cX10_element 17 = .ok (.invokevirtual 346, 3) := by decide +kernel
theorem dX10_element_20 : decode cX10_element 20 = .ok (.ifCond .eq 7, 3) := by decide +kernel
theorem dX10_element_23 : decode cX10_element 23 = .ok (.ldc2_w 355, 3) := by decide +kernel
theorem dX10_element_26 : decode cX10_element 26 = .ok (.lreturn, 1) := by decide +kernel
theorem dX10_element_27 : decode cX10_element 27 = .ok (.aload_n 0, 1) := by decide +kernel
theorem dX10_element_28 : decode cX10_element 28 = .ok (.getfield 26, 3) := by decide +kernel
theorem dX10_element_31 : decode cX10_element 31 = .ok (.iload_n 1, 1) := by decide +kernel
theorem dX10_element_32 : decode cX10_element 32 = .ok (.iload_n 2, 1) := by decide +kernel
theorem dX10_element_33 : decode cX10_element 33 = .ok (.invokevirtual 121, 3) := by decide +kernel
theorem dX10_element_36 : decode cX10_element 36 = .ok (.lreturn, 1) := by decide +kernel
def Ch_element (S : St) (p1 : Int32) (p2 : Int32) : Option Int64 :=
  bd1 (Sh_isShelf S p1) fun r1 =>
  if r1 = 0 then
    some (-9223372036854775808 : Int64)
  else
    bd1 (Sh_refusalOfPlace S p1 p2) fun r2 =>
    if r2 = 0 then
      bd1 (Sh_elementAt S p1 p2) fun r3 =>
      some r3
    else
      some (-9223372036854775808 : Int64)
section
variable {p : Program} {l : Launch} {e : Env} {s : State} {m : MethodId} {args : Array Value} {below : List Frame} {meth : Method} {c : Code} {H : Heap} {locs : List Loc} {E : Ev} {S V : St} {ls : Array Slot}
set_option maxRecDepth 20000 in
theorem w_Ch_element {p1 : Int32} {p2 : Int32} {r : Int64} (C : Cx p s m args meth c E cX10_element 3 RX10 (some .long)) (hw : Wd E (wX V E) s.heap S H locs) (hl : lv_has ls 3 [(0, .ref (ea E 0)), (1, .int p1), (2, .int p2)]) (hf : Ch_element S p1 p2 = some r) : W p l e (rmh 3) s m args below meth c H locs 0 0 (MQ below (QW E (wX V E) (some (.long r)) S) args s 0 0 (eA E)) (F0 m 0 ls []) := by
  have hx := C.1
  have hb := C.2.1
  unfold Ch_element at hf
  refine lv_aload_n hx hb dX10_element_0 rfl (lv_at hl 0 rfl) ?_
  refine get_0_9 C hw q_383 dX10_element_1 ?_
  refine lv_iload_n hx hb dX10_element_4 rfl (lv_at hl 1 rfl) ?_
  obtain ⟨r1, hr, hf⟩ := hf_1 hf
  refine inv_Vi (q0 := 10) (ci := 7) (As := [.int p1]) lk_X10_107 C hw rfl rfl rfl (t_Sh_isShelf hr) rfl hl.1 dX10_element_5 rfl (Nat.le_of_ble_eq_true rfl) (by decide) (Nat.le_of_ble_eq_true rfl) rfl (fun H locs hw => ?_)
  refine lv_if_eq (tgt := 23) hx hb dX10_element_8 (by decide) (fun q => ?_) (fun q => ?_)
  · have hf := hf_t q hf
    refine lv_ldc2 (v := -9223372036854775808) hx hb C.2.2.2.1 (C.2.2.2.2.1 _ q_1103) dX10_element_23 ?_
    exact ret_l C hw dX10_element_26 hf
  · have hf := hf_f q hf
    refine lv_aload_n hx hb dX10_element_11 rfl (lv_at hl 0 rfl) ?_
    refine get_0_9 C hw q_383 dX10_element_12 ?_
    refine lv_iload_n hx hb dX10_element_15 rfl (lv_at hl 1 rfl) ?_
    refine lv_iload_n hx hb dX10_element_16 rfl (lv_at hl 2 rfl) ?_
    obtain ⟨r2, hr, hf⟩ := hf_1 hf
    refine inv_Vi (q0 := 10) (ci := 7) (As := [.int p1, .int p2]) lk_X10_346 C hw rfl rfl rfl (t_Sh_refusalOfPlace hr) rfl hl.1 dX10_element_17 rfl (Nat.le_of_ble_eq_true rfl) (by decide) (Nat.le_of_ble_eq_true rfl) rfl (fun H locs hw => ?_)
    refine lv_if_eq (tgt := 27) hx hb dX10_element_20 (by decide) (fun q => ?_) (fun q => ?_)
    · have hf := hf_t q hf
      refine lv_aload_n hx hb dX10_element_27 rfl (lv_at hl 0 rfl) ?_
      refine get_0_9 C hw q_383 dX10_element_28 ?_
      refine lv_iload_n hx hb dX10_element_31 rfl (lv_at hl 1 rfl) ?_
      refine lv_iload_n hx hb dX10_element_32 rfl (lv_at hl 2 rfl) ?_
      obtain ⟨r3, hr, hf⟩ := hf_1 hf
      refine inv_Vl (q0 := 10) (ci := 7) (As := [.int p1, .int p2]) lk_X10_121 C hw rfl rfl rfl (t_Sh_elementAt hr) rfl hl.1 dX10_element_33 rfl (Nat.le_of_ble_eq_true rfl) (by decide) (Nat.le_of_ble_eq_true rfl) rfl (fun H locs hw => ?_)
      exact ret_l C hw dX10_element_36 hf
    · have hf := hf_f q hf
      refine lv_ldc2 (v := -9223372036854775808) hx hb C.2.2.2.1 (C.2.2.2.2.1 _ q_1103) dX10_element_23 ?_
      exact ret_l C hw dX10_element_26 hf
end
theorem t_Ch_element {l : Launch} {V : St} {S : St} {p1 : Int32} {p2 : Int32} {r : Int64} (hf : Ch_element S p1 p2 = some r) : Ct l (wX V) yX10_element cX10_element 3 (some .long) 3 (fun E => [.ref (ea E 0), .int p1, .int p2]) S (fun E => some (.long r)) S :=
  ofBlock (by decide +kernel) (fun _ => Nat.le_of_ble_eq_true rfl) (fun E p e s m args below meth c ls C hw hl => w_Ch_element C hw hl hf)
theorem dX10_shift_0 : decode cX10_shift 0 = .ok (.aload_n 0, 1) := by decide +kernel
theorem dX10_shift_1 : decode cX10_shift 1 = .ok (.getfield 26, 3) := by decide +kernel
theorem dX10_shift_4 : decode cX10_shift 4 = .ok (.iload_n 1, 1) := by decide +kernel
theorem dX10_shift_5 : decode cX10_shift 5 = .ok (.invokevirtual 107, 3) := by decide +kernel
theorem dX10_shift_8 : decode cX10_shift 8 = .ok (.ifCond .eq 14, 3) := by decide +kernel
theorem dX10_shift_11 : decode cX10_shift 11 = .ok (.aload_n 0, 1) := by decide +kernel
theorem dX10_shift_12 : decode cX10_shift 12 = .ok (.getfield 26, 3) := by decide +kernel
theorem dX10_shift_15 : decode cX10_shift 15 = .ok (.iload_n 3, 1) := by decide +kernel
theorem dX10_shift_16 : decode cX10_shift 16 = .ok (.invokevirtual 107, 3) := by decide +kernel
theorem dX10_shift_19 : decode cX10_shift 19 = .ok (.ifCond .ne 5, 3) := by decide +kernel
theorem dX10_shift_22 : decode cX10_shift 22 = .ok (.iconst (-1), 1) := by decide +kernel
theorem dX10_shift_23 : decode cX10_shift 23 = .ok (.ireturn, 1) := by decide +kernel
theorem dX10_shift_24 : decode cX10_shift 24 = .ok (.aload_n 0, 1) := by decide +kernel
theorem dX10_shift_25 : decode cX10_shift 25 = .ok (.getfield 26, 3) := by decide +kernel
theorem dX10_shift_28 : decode cX10_shift 28 = .ok (.iload_n 1, 1) := by decide +kernel
theorem dX10_shift_29 : decode cX10_shift 29 = .ok (.iload_n 3, 1) := by decide +kernel
theorem dX10_shift_30 : decode cX10_shift 30 = .ok (.invokevirtual 357, 3) := by decide +kernel
theorem dX10_shift_33 : decode cX10_shift 33 = .ok (.istore 6, 2) := by decide +kernel
theorem dX10_shift_35 : decode cX10_shift 35 = .ok (.iload 6, 2) := by decide +kernel
theorem dX10_shift_37 : decode cX10_shift 37 = .ok (.ifCond .eq 6, 3) := by decide +kernel
theorem dX10_shift_40 : decode cX10_shift 40 = .ok (.iload 6, 2) := by decide +kernel
theorem dX10_shift_42 : decode cX10_shift 42 = .ok (.ireturn, 1) := by decide +kernel
theorem dX10_shift_43 : decode cX10_shift 43 = .ok (.aload_n 0, 1) := by decide +kernel
theorem dX10_shift_44 : decode cX10_shift 44 = .ok (.getfield 26, 3) := by decide +kernel
theorem dX10_shift_47 : decode cX10_shift 47 = .ok (.iload_n 1, 1) := by decide +kernel
theorem dX10_shift_48 : decode cX10_shift 48 = .ok (.iload_n 2, 1) := by decide +kernel
theorem dX10_shift_49 : decode cX10_shift 49 = .ok (.iload 5, 2) := by decide +kernel
theorem dX10_shift_51 : decode cX10_shift 51 = .ok (.invokevirtual 118, 3) := by decide +kernel
theorem dX10_shift_54 : decode cX10_shift 54 = .ok (.ifCond .eq 18, 3) := by decide +kernel
theorem dX10_shift_57 : decode cX10_shift 57 = .ok (.aload_n 0, 1) := by decide +kernel
theorem dX10_shift_58 : decode cX10_shift 58 = .ok (.getfield 26, 3) := by decide +kernel
theorem dX10_shift_61 : decode cX10_shift 61 = .ok (.iload_n 3, 1) := by decide +kernel
theorem dX10_shift_62 : decode cX10_shift 62 = .ok (.iload 4, 2) := by decide +kernel
theorem dX10_shift_64 : decode cX10_shift 64 = .ok (.iload 5, 2) := by decide +kernel
theorem dX10_shift_66 : decode cX10_shift 66 = .ok (.invokevirtual 118, 3) := by decide +kernel
theorem dX10_shift_69 : decode cX10_shift 69 = .ok (.ifCond .ne 6, 3) := by decide +kernel
theorem dX10_shift_72 : decode cX10_shift 72 = .ok (.bipush (-13), 2) := by decide +kernel
theorem dX10_shift_74 : decode cX10_shift 74 = .ok (.ireturn, 1) := by decide +kernel
theorem dX10_shift_75 : decode cX10_shift 75 = .ok (.aload_n 0, 1) := by decide +kernel
theorem dX10_shift_76 : decode cX10_shift 76 = .ok (.getfield 26, 3) := by decide +kernel
theorem dX10_shift_79 : decode cX10_shift 79 = .ok (.iload_n 1, 1) := by decide +kernel
theorem dX10_shift_80 : decode cX10_shift 80 = .ok (.iload_n 2, 1) := by decide +kernel
theorem dX10_shift_81 : decode cX10_shift 81 = .ok (.iload_n 3, 1) := by decide +kernel
theorem dX10_shift_82 : decode cX10_shift 82 = .ok (.iload 4, 2) := by decide +kernel
theorem dX10_shift_84 : decode cX10_shift 84 = .ok (.iload 5, 2) := by decide +kernel
theorem dX10_shift_86 : decode cX10_shift 86 = .ok (.invokevirtual 360, 3) := by decide +kernel
theorem dX10_shift_89 : decode cX10_shift 89 = .ok (.ireturn, 1) := by decide +kernel
def Ch_shift (S : St) (p1 : Int32) (p2 : Int32) (p3 : Int32) (p4 : Int32) (p5 : Int32) : Option (Int32 × St) :=
  bd1 (Sh_isShelf S p1) fun r1 =>
  if r1 = 0 then
    some ((-1 : Int32), S)
  else
    bd1 (Sh_isShelf S p3) fun r2 =>
    if r2 = 0 then
      some ((-1 : Int32), S)
    else
      bd1 (Sh_refusalOfPair S p1 p3) fun r3 =>
      if r3 = 0 then
        bd1 (Sh_hasPlaces S p1 p2 p5) fun r4 =>
        if r4 = 0 then
          some ((-13 : Int32), S)
        else
          bd1 (Sh_hasPlaces S p3 p4 p5) fun r5 =>
          if r5 = 0 then
            some ((-13 : Int32), S)
          else
            bd2 (Sh_move S p1 p2 p3 p4 p5) fun r7 S6 =>
            some (r7, S6)
      else
        some (r3, S)
section
variable {p : Program} {l : Launch} {e : Env} {s : State} {m : MethodId} {args : Array Value} {below : List Frame} {meth : Method} {c : Code} {H : Heap} {locs : List Loc} {E : Ev} {S V : St} {ls : Array Slot}
set_option maxRecDepth 20000 in
theorem w_Ch_shift {p1 : Int32} {p2 : Int32} {p3 : Int32} {p4 : Int32} {p5 : Int32} {r : Int32} {S9 : St} (C : Cx p s m args meth c E cX10_shift 7 RX10 (some .int)) (hw : Wd E (wX V E) s.heap S H locs) (hl : lv_has ls 7 [(0, .ref (ea E 0)), (1, .int p1), (2, .int p2), (3, .int p3), (4, .int p4), (5, .int p5)]) (hf : Ch_shift S p1 p2 p3 p4 p5 = some (r, S9)) : W p l e (rmh 3) s m args below meth c H locs 0 0 (MQ below (QW E (wX V E) (some (.int r)) S9) args s 0 0 (eA E)) (F0 m 0 ls []) := by
  have hx := C.1
  have hb := C.2.1
  unfold Ch_shift at hf
  refine lv_aload_n hx hb dX10_shift_0 rfl (lv_at hl 0 rfl) ?_
  refine get_0_9 C hw q_383 dX10_shift_1 ?_
  refine lv_iload_n hx hb dX10_shift_4 rfl (lv_at hl 1 rfl) ?_
  obtain ⟨r1, hr, hf⟩ := hf_1 hf
  refine inv_Vi (q0 := 10) (ci := 7) (As := [.int p1]) lk_X10_107 C hw rfl rfl rfl (t_Sh_isShelf hr) rfl hl.1 dX10_shift_5 rfl (Nat.le_of_ble_eq_true rfl) (by decide) (Nat.le_of_ble_eq_true rfl) rfl (fun H locs hw => ?_)
  refine lv_if_eq (tgt := 22) hx hb dX10_shift_8 (by decide) (fun q => ?_) (fun q => ?_)
  · have hf := hf_t q hf
    refine lv_iconst (v := -1) hx hb dX10_shift_22 kc_m1 ?_
    exact ret_iS C hw dX10_shift_23 hf
  · have hf := hf_f q hf
    refine lv_aload_n hx hb dX10_shift_11 rfl (lv_at hl 0 rfl) ?_
    refine get_0_9 C hw q_383 dX10_shift_12 ?_
    refine lv_iload_n hx hb dX10_shift_15 rfl (lv_at hl 3 rfl) ?_
    obtain ⟨r2, hr, hf⟩ := hf_1 hf
    refine inv_Vi (q0 := 10) (ci := 7) (As := [.int p3]) lk_X10_107 C hw rfl rfl rfl (t_Sh_isShelf hr) rfl hl.1 dX10_shift_16 rfl (Nat.le_of_ble_eq_true rfl) (by decide) (Nat.le_of_ble_eq_true rfl) rfl (fun H locs hw => ?_)
    refine lv_if_ne (tgt := 24) hx hb dX10_shift_19 (by decide) (fun q => ?_) (fun q => ?_)
    · have hf := hf_f q hf
      refine lv_aload_n hx hb dX10_shift_24 rfl (lv_at hl 0 rfl) ?_
      refine get_0_9 C hw q_383 dX10_shift_25 ?_
      refine lv_iload_n hx hb dX10_shift_28 rfl (lv_at hl 1 rfl) ?_
      refine lv_iload_n hx hb dX10_shift_29 rfl (lv_at hl 3 rfl) ?_
      obtain ⟨r3, hr, hf⟩ := hf_1 hf
      refine inv_Vi (q0 := 10) (ci := 7) (As := [.int p1, .int p3]) lk_X10_357 C hw rfl rfl rfl (t_Sh_refusalOfPair hr) rfl hl.1 dX10_shift_30 rfl (Nat.le_of_ble_eq_true rfl) (by decide) (Nat.le_of_ble_eq_true rfl) rfl (fun H locs hw => ?_)
      refine lv_istore (lv' := [(6, .int r3), (0, .ref (ea E 0)), (1, .int p1), (2, .int p2), (3, .int p3), (4, .int p4), (5, .int p5)]) hx hb dX10_shift_33 hl (by decide) rfl (fun ls hl => ?_)
      refine lv_iload hx hb dX10_shift_35 (lv_at hl 0 rfl) ?_
      refine lv_if_eq (tgt := 43) hx hb dX10_shift_37 (by decide) (fun q => ?_) (fun q => ?_)
      · have hf := hf_t q hf
        refine lv_aload_n hx hb dX10_shift_43 rfl (lv_at hl 1 rfl) ?_
        refine get_0_9 C hw q_383 dX10_shift_44 ?_
        refine lv_iload_n hx hb dX10_shift_47 rfl (lv_at hl 2 rfl) ?_
        refine lv_iload_n hx hb dX10_shift_48 rfl (lv_at hl 3 rfl) ?_
        refine lv_iload hx hb dX10_shift_49 (lv_at hl 6 rfl) ?_
        obtain ⟨r4, hr, hf⟩ := hf_1 hf
        refine inv_Vi (q0 := 10) (ci := 7) (As := [.int p1, .int p2, .int p5]) lk_X10_118 C hw rfl rfl rfl (t_Sh_hasPlaces hr) rfl hl.1 dX10_shift_51 rfl (Nat.le_of_ble_eq_true rfl) (by decide) (Nat.le_of_ble_eq_true rfl) rfl (fun H locs hw => ?_)
        refine lv_if_eq (tgt := 72) hx hb dX10_shift_54 (by decide) (fun q => ?_) (fun q => ?_)
        · have hf := hf_t q hf
          refine lv_bipush (v := -13) hx hb dX10_shift_72 kb_m13 ?_
          exact ret_iS C hw dX10_shift_74 hf
        · have hf := hf_f q hf
          refine lv_aload_n hx hb dX10_shift_57 rfl (lv_at hl 1 rfl) ?_
          refine get_0_9 C hw q_383 dX10_shift_58 ?_
          refine lv_iload_n hx hb dX10_shift_61 rfl (lv_at hl 4 rfl) ?_
          refine lv_iload hx hb dX10_shift_62 (lv_at hl 5 rfl) ?_
          refine lv_iload hx hb dX10_shift_64 (lv_at hl 6 rfl) ?_
          obtain ⟨r5, hr, hf⟩ := hf_1 hf
          refine inv_Vi (q0 := 10) (ci := 7) (As := [.int p3, .int p4, .int p5]) lk_X10_118 C hw rfl rfl rfl (t_Sh_hasPlaces hr) rfl hl.1 dX10_shift_66 rfl (Nat.le_of_ble_eq_true rfl) (by decide) (Nat.le_of_ble_eq_true rfl) rfl (fun H locs hw => ?_)
          refine lv_if_ne (tgt := 75) hx hb dX10_shift_69 (by decide) (fun q => ?_) (fun q => ?_)
          · have hf := hf_f q hf
            refine lv_aload_n hx hb dX10_shift_75 rfl (lv_at hl 1 rfl) ?_
            refine get_0_9 C hw q_383 dX10_shift_76 ?_
            refine lv_iload_n hx hb dX10_shift_79 rfl (lv_at hl 2 rfl) ?_
            refine lv_iload_n hx hb dX10_shift_80 rfl (lv_at hl 3 rfl) ?_
            refine lv_iload_n hx hb dX10_shift_81 rfl (lv_at hl 4 rfl) ?_
            refine lv_iload hx hb dX10_shift_82 (lv_at hl 5 rfl) ?_
            refine lv_iload hx hb dX10_shift_84 (lv_at hl 6 rfl) ?_
            obtain ⟨r7, S6, hr, hf⟩ := hf_2 hf
            refine inv_Vi (q0 := 10) (ci := 7) (As := [.int p1, .int p2, .int p3, .int p4, .int p5]) lk_X10_360 C hw rfl rfl rfl (t_Sh_move hr) rfl hl.1 dX10_shift_86 rfl (Nat.le_of_ble_eq_true rfl) (by decide) (Nat.le_of_ble_eq_true rfl) rfl (fun H locs hw => ?_)
            exact ret_iS C hw dX10_shift_89 hf
          · have hf := hf_t q hf
            refine lv_bipush (v := -13) hx hb dX10_shift_72 kb_m13 ?_
            exact ret_iS C hw dX10_shift_74 hf
      · have hf := hf_f q hf
        refine lv_iload hx hb dX10_shift_40 (lv_at hl 0 rfl) ?_
        exact ret_iS C hw dX10_shift_42 hf
    · have hf := hf_t q hf
      refine lv_iconst (v := -1) hx hb dX10_shift_22 kc_m1 ?_
      exact ret_iS C hw dX10_shift_23 hf
end
theorem t_Ch_shift {l : Launch} {V : St} {S : St} {p1 : Int32} {p2 : Int32} {p3 : Int32} {p4 : Int32} {p5 : Int32} {r : Int32} {S9 : St} (hf : Ch_shift S p1 p2 p3 p4 p5 = some (r, S9)) : Ct l (wX V) yX10_shift cX10_shift 7 (some .int) 3 (fun E => [.ref (ea E 0), .int p1, .int p2, .int p3, .int p4, .int p5]) S (fun E => some (.int r)) S9 :=
  ofBlock (by decide +kernel) (fun _ => Nat.le_of_ble_eq_true rfl) (fun E p e s m args below meth c ls C hw hl => w_Ch_shift C hw hl hf)
theorem dX10_taken_0 : decode cX10_taken 0 = .ok (.aload_n 0, 1) := by decide +kernel
theorem dX10_taken_1 : decode cX10_taken 1 = .ok (.getfield 26, 3) := by decide +kernel
theorem dX10_taken_4 : decode cX10_taken 4 = .ok (.iload_n 1, 1) := by decide +kernel
theorem dX10_taken_5 : decode cX10_taken 5 = .ok (.invokevirtual 107, 3) := by decide +kernel
theorem dX10_taken_8 : decode cX10_taken 8 = .ok (.ifCond .eq 13, 3) := by decide +kernel
theorem dX10_taken_11 : decode cX10_taken 11 = .ok (.iload_n 2, 1) := by decide +kernel
theorem dX10_taken_12 : decode cX10_taken 12 = .ok (.iconst 0, 1) := by decide +kernel
theorem dX10_taken_13 : decode cX10_taken 13 = .ok (.bipush 7, 2) := by decide +kernel
theorem dX10_taken_15 : decode cX10_taken 15 = .ok (.invokestatic 83, 3) := by decide +kernel
theorem dX10_taken_18 : decode cX10_taken 18 = .ok (.ifCond .ne 5, 3) := by decide +kernel
theorem dX10_taken_21 : decode cX10_taken 21 = .ok (.iconst (-1), 1) := by decide +kernel
theorem dX10_taken_22 : decode cX10_taken 22 = .ok (.ireturn, 1) := by decide +kernel
theorem dX10_taken_23 : decode cX10_taken 23 = .ok (.aload_n 0, 1) := by decide +kernel
theorem dX10_taken_24 : decode cX10_taken 24 = .ok (.getfield 26, 3) := by decide +kernel
theorem dX10_taken_27 : decode cX10_taken 27 = .ok (.iload_n 1, 1) := by decide +kernel
theorem dX10_taken_28 : decode cX10_taken 28 = .ok (.invokevirtual 364, 3) := by decide +kernel
theorem dX10_taken_31 : decode cX10_taken 31 = .ok (.istore_n 3, 1) := by decide +kernel
theorem dX10_taken_32 : decode cX10_taken 32 = .ok (.iload_n 3, 1) := by decide +kernel
theorem dX10_taken_33 : decode cX10_taken 33 = .ok (.ifCond .eq 5, 3) := by decide +kernel
theorem dX10_taken_36 : decode cX10_taken 36 = .ok (.iload_n 3, 1) := by decide +kernel
theorem dX10_taken_37 : decode cX10_taken 37 = .ok (.ireturn, 1) := by decide +kernel
theorem dX10_taken_38 : decode cX10_taken 38 = .ok (.aload_n 0, 1) := by decide +kernel
theorem dX10_taken_39 : decode cX10_taken 39 = .ok (.getfield 33, 3) := by decide +kernel
theorem dX10_taken_42 : decode cX10_taken 42 = .ok (.aload_n 0, 1) := by decide +kernel
theorem dX10_taken_43 : decode cX10_taken 43 = .ok (.getfield 26, 3) := by decide +kernel
theorem dX10_taken_46 : decode cX10_taken 46 = .ok (.getfield 367, 3) := by decide +kernel
theorem dX10_taken_49 : decode cX10_taken 49 = .ok (.iload_n 1, 1) := by decide +kernel
theorem dX10_taken_50 : decode cX10_taken 50 = .ok (.iaload, 1) := by decide +kernel
theorem dX10_taken_51 : decode cX10_taken 51 = .ok (.invokevirtual 370, 3) := by decide +kernel
theorem dX10_taken_54 : decode cX10_taken 54 = .ok (.istore 4, 2) := by decide +kernel
theorem dX10_taken_56 : decode cX10_taken 56 = .ok (.iload 4, 2) := by decide +kernel
theorem dX10_taken_58 : decode cX10_taken 58 = .ok (.iload_n 2, 1) := by decide +kernel
theorem dX10_taken_59 : decode cX10_taken 59 = .ok (.invokestatic 373, 3) := by decide +kernel
theorem dX10_taken_62 : decode cX10_taken 62 = .ok (.ifCond .eq 8, 3) := by decide +kernel
theorem dX10_taken_65 : decode cX10_taken 65 = .ok (.iload 4, 2) := by decide +kernel
theorem dX10_taken_67 : decode cX10_taken 67 = .ok (.goto 5, 3) := by decide +kernel
theorem dX10_taken_70 : decode cX10_taken 70 = .ok (.bipush (-12), 2) := by decide +kernel
theorem dX10_taken_72 : decode cX10_taken 72 = .ok (.ireturn, 1) := by decide +kernel
def Ch_taken (N : Nat) (S : St) (p1 : Int32) (p2 : Int32) : Option Int32 :=
  bd1 (Sh_isShelf S p1) fun r1 =>
  if r1 = 0 then
    some (-1 : Int32)
  else
    bd1 (Ch_within S p2 (0 : Int32) (7 : Int32)) fun r2 =>
    if r2 = 0 then
      some (-1 : Int32)
    else
      bd1 (Sh_refusalOfLink S p1) fun r3 =>
      if r3 = 0 then
        ck (inb p1 6) <|
        bd1 (Li_kindOf S (gi S 41 p1.toNatClampNeg)) fun r4 =>
        bd1 (Li_isUnder N S r4 p2) fun r5 =>
        if r5 = 0 then
          some (-12 : Int32)
        else
          some r4
      else
        some r3
section
variable {p : Program} {l : Launch} {e : Env} {s : State} {m : MethodId} {args : Array Value} {below : List Frame} {meth : Method} {c : Code} {H : Heap} {locs : List Loc} {E : Ev} {S V : St} {ls : Array Slot}
set_option maxRecDepth 20000 in
theorem w_Ch_taken {N : Nat} {p1 : Int32} {p2 : Int32} {r : Int32} (C : Cx p s m args meth c E cX10_taken 5 RX10 (some .int)) (hw : Wd E (wX V E) s.heap S H locs) (hl : lv_has ls 5 [(0, .ref (ea E 0)), (1, .int p1), (2, .int p2)]) (hf : Ch_taken N S p1 p2 = some r) : W p l e (rmh 3) s m args below meth c H locs 0 0 (MQ below (QW E (wX V E) (some (.int r)) S) args s 0 0 (eA E)) (F0 m 0 ls []) := by
  have hx := C.1
  have hb := C.2.1
  unfold Ch_taken at hf
  refine lv_aload_n hx hb dX10_taken_0 rfl (lv_at hl 0 rfl) ?_
  refine get_0_9 C hw q_383 dX10_taken_1 ?_
  refine lv_iload_n hx hb dX10_taken_4 rfl (lv_at hl 1 rfl) ?_
  obtain ⟨r1, hr, hf⟩ := hf_1 hf
  refine inv_Vi (q0 := 10) (ci := 7) (As := [.int p1]) lk_X10_107 C hw rfl rfl rfl (t_Sh_isShelf hr) rfl hl.1 dX10_taken_5 rfl (Nat.le_of_ble_eq_true rfl) (by decide) (Nat.le_of_ble_eq_true rfl) rfl (fun H locs hw => ?_)
  refine lv_if_eq (tgt := 21) hx hb dX10_taken_8 (by decide) (fun q => ?_) (fun q => ?_)
  · have hf := hf_t q hf
    refine lv_iconst (v := -1) hx hb dX10_taken_21 kc_m1 ?_
    exact ret_i C hw dX10_taken_22 hf
  · have hf := hf_f q hf
    refine lv_iload_n hx hb dX10_taken_11 rfl (lv_at hl 2 rfl) ?_
    refine lv_iconst (v := 0) hx hb dX10_taken_12 kc_0 ?_
    refine lv_bipush (v := 7) hx hb dX10_taken_13 kb_7 ?_
    obtain ⟨r2, hr, hf⟩ := hf_1 hf
    refine inv_Si (As := [.int p2, .int (0 : Int32), .int (7 : Int32)]) lk_X10_83 C hw (t_Ch_within hr) hl.1 dX10_taken_15 rfl (Nat.le_of_ble_eq_true rfl) (by decide) (Nat.le_of_ble_eq_true rfl) rfl (fun H locs hw => ?_)
    refine lv_if_ne (tgt := 23) hx hb dX10_taken_18 (by decide) (fun q => ?_) (fun q => ?_)
    · have hf := hf_f q hf
      refine lv_aload_n hx hb dX10_taken_23 rfl (lv_at hl 0 rfl) ?_
      refine get_0_9 C hw q_383 dX10_taken_24 ?_
      refine lv_iload_n hx hb dX10_taken_27 rfl (lv_at hl 1 rfl) ?_
      obtain ⟨r3, hr, hf⟩ := hf_1 hf
      refine inv_Vi (q0 := 10) (ci := 7) (As := [.int p1]) lk_X10_364 C hw rfl rfl rfl (t_Sh_refusalOfLink hr) rfl hl.1 dX10_taken_28 rfl (Nat.le_of_ble_eq_true rfl) (by decide) (Nat.le_of_ble_eq_true rfl) rfl (fun H locs hw => ?_)
      refine lv_istore_n (lv' := [(3, .int r3), (0, .ref (ea E 0)), (1, .int p1), (2, .int p2)]) hx hb dX10_taken_31 rfl hl (by decide) rfl (fun ls hl => ?_)
      refine lv_iload_n hx hb dX10_taken_32 rfl (lv_at hl 0 rfl) ?_
      refine lv_if_eq (tgt := 38) hx hb dX10_taken_33 (by decide) (fun q => ?_) (fun q => ?_)
      · have hf := hf_t q hf
        refine lv_aload_n hx hb dX10_taken_38 rfl (lv_at hl 1 rfl) ?_
        refine get_0_8 C hw q_382 dX10_taken_39 ?_
        refine lv_aload_n hx hb dX10_taken_42 rfl (lv_at hl 1 rfl) ?_
        refine get_0_9 C hw q_383 dX10_taken_43 ?_
        refine get_10_1 C hw q_217 dX10_taken_46 ?_
        refine lv_iload_n hx hb dX10_taken_49 rfl (lv_at hl 2 rfl) ?_
        obtain ⟨hc, hf⟩ := hf_ck hf
        refine ld_41 C hw hc dX10_taken_50 ?_
        obtain ⟨r4, hr, hf⟩ := hf_1 hf
        refine inv_Vi (q0 := 9) (ci := 6) (As := [.int (gi S 41 p1.toNatClampNeg)]) lk_X10_370 C hw rfl rfl rfl (t_Li_kindOf hr) rfl hl.1 dX10_taken_51 rfl (Nat.le_of_ble_eq_true rfl) (by decide) (Nat.le_of_ble_eq_true rfl) rfl (fun H locs hw => ?_)
        refine lv_istore (lv' := [(4, .int r4), (3, .int r3), (0, .ref (ea E 0)), (1, .int p1), (2, .int p2)]) hx hb dX10_taken_54 hl (by decide) rfl (fun ls hl => ?_)
        refine lv_iload hx hb dX10_taken_56 (lv_at hl 0 rfl) ?_
        refine lv_iload_n hx hb dX10_taken_58 rfl (lv_at hl 4 rfl) ?_
        obtain ⟨r5, hr, hf⟩ := hf_1 hf
        refine inv_Si (As := [.int r4, .int p2]) lk_X10_373 C hw (t_Li_isUnder hr) hl.1 dX10_taken_59 rfl (Nat.le_of_ble_eq_true rfl) (by decide) (Nat.le_of_ble_eq_true rfl) rfl (fun H locs hw => ?_)
        refine lv_if_eq (tgt := 70) hx hb dX10_taken_62 (by decide) (fun q => ?_) (fun q => ?_)
        · have hf := hf_t q hf
          refine lv_bipush (v := -12) hx hb dX10_taken_70 kb_m12 ?_
          exact ret_i C hw dX10_taken_72 hf
        · have hf := hf_f q hf
          refine lv_iload hx hb dX10_taken_65 (lv_at hl 0 rfl) ?_
          refine lv_goto (tgt := 72) hx hb dX10_taken_67 (by decide) ?_
          exact ret_i C hw dX10_taken_72 hf
      · have hf := hf_f q hf
        refine lv_iload_n hx hb dX10_taken_36 rfl (lv_at hl 0 rfl) ?_
        exact ret_i C hw dX10_taken_37 hf
    · have hf := hf_t q hf
      refine lv_iconst (v := -1) hx hb dX10_taken_21 kc_m1 ?_
      exact ret_i C hw dX10_taken_22 hf
end
theorem t_Ch_taken {l : Launch} {V : St} {N : Nat} {S : St} {p1 : Int32} {p2 : Int32} {r : Int32} (hf : Ch_taken N S p1 p2 = some r) : Ct l (wX V) yX10_taken cX10_taken 5 (some .int) 3 (fun E => [.ref (ea E 0), .int p1, .int p2]) S (fun E => some (.int r)) S :=
  ofBlock (by decide +kernel) (fun _ => Nat.le_of_ble_eq_true rfl) (fun E p e s m args below meth c ls C hw hl => w_Ch_taken C hw hl hf)
theorem dX10_count_0 : decode cX10_count 0 = .ok (.iload_n 1, 1) := by decide +kernel
theorem dX10_count_1 : decode cX10_count 1 = .ok (.tableswitch 87 0 5 #[39, 47, 55, 63, 71, 79], 39) := by decide +kernel
theorem dX10_count_40 : decode cX10_count 40 = .ok (.aload_n 0, 1) := by decide +kernel
theorem dX10_count_41 : decode cX10_count 41 = .ok (.getfield 10, 3) := by decide +kernel
theorem dX10_count_44 : decode cX10_count 44 = .ok (.getfield 87, 3) := by decide +kernel
theorem dX10_count_47 : decode cX10_count 47 = .ok (.ireturn, 1) := by decide +kernel
theorem dX10_count_48 : decode cX10_count 48 = .ok (.aload_n 0, 1) := by decide +kernel
theorem dX10_count_49 : decode cX10_count 49 = .ok (.getfield 10, 3) := by decide +kernel
theorem dX10_count_52 : decode cX10_count 52 = .ok (.getfield 376, 3) := by decide +kernel
theorem dX10_count_55 : decode cX10_count 55 = .ok (.ireturn, 1) := by decide +kernel
theorem dX10_count_56 : decode cX10_count 56 = .ok (.aload_n 0, 1) := by decide +kernel
theorem dX10_count_57 : decode cX10_count 57 = .ok (.getfield 19, 3) := by decide +kernel
theorem dX10_count_60 : decode cX10_count 60 = .ok (.getfield 144, 3) := by decide +kernel
theorem dX10_count_63 : decode cX10_count 63 = .ok (.ireturn, 1) := by decide +kernel
theorem dX10_count_64 : decode cX10_count 64 = .ok (.aload_n 0, 1) := by decide +kernel
theorem dX10_count_65 : decode cX10_count 65 = .ok (.getfield 40, 3) := by decide +kernel
theorem dX10_count_68 : decode cX10_count 68 = .ok (.getfield 303, 3) := by decide +kernel
theorem dX10_count_71 : decode cX10_count 71 = .ok (.ireturn, 1) := by decide +kernel
theorem dX10_count_72 : decode cX10_count 72 = .ok (.aload_n 0, 1) := by decide +kernel
theorem dX10_count_73 : decode cX10_count 73 = .ok (.getfield 33, 3) := by decide +kernel
theorem dX10_count_76 : decode cX10_count 76 = .ok (.getfield 315, 3) := by decide +kernel
theorem dX10_count_79 : decode cX10_count 79 = .ok (.ireturn, 1) := by decide +kernel
theorem dX10_count_80 : decode cX10_count 80 = .ok (.aload_n 0, 1) := by decide +kernel
theorem dX10_count_81 : decode cX10_count 81 = .ok (.getfield 33, 3) := by decide +kernel
theorem dX10_count_84 : decode cX10_count 84 = .ok (.getfield 323, 3) := by decide +kernel
theorem dX10_count_87 : decode cX10_count 87 = .ok (.ireturn, 1) := by decide +kernel
theorem dX10_count_88 : decode cX10_count 88 = .ok (.iconst (-1), 1) := by decide +kernel
theorem dX10_count_89 : decode cX10_count 89 = .ok (.ireturn, 1) := by decide +kernel
def Ch_count (S : St) (p1 : Int32) : Option Int32 :=
  if p1 = 0 then
    some (gi S 1 9)
  else
  if p1 = 1 then
    some (gi S 1 10)
  else
  if p1 = 2 then
    some (gi S 2 0)
  else
  if p1 = 3 then
    some (gi S 8 0)
  else
  if p1 = 4 then
    some (gi S 9 0)
  else
  if p1 = 5 then
    some (gi S 9 1)
  else
  some (-1 : Int32)
section
variable {p : Program} {l : Launch} {e : Env} {s : State} {m : MethodId} {args : Array Value} {below : List Frame} {meth : Method} {c : Code} {H : Heap} {locs : List Loc} {E : Ev} {S V : St} {ls : Array Slot}
set_option maxRecDepth 20000 in
theorem w_Ch_count {p1 : Int32} {r : Int32} (C : Cx p s m args meth c E cX10_count 2 RX10 (some .int)) (hw : Wd E (wX V E) s.heap S H locs) (hl : lv_has ls 2 [(0, .ref (ea E 0)), (1, .int p1)]) (hf : Ch_count S p1 = some r) : W p l e (rmh 1) s m args below meth c H locs 0 0 (MQ below (QW E (wX V E) (some (.int r)) S) args s 0 0 (eA E)) (F0 m 0 ls []) := by
  have hx := C.1
  have hb := C.2.1
  unfold Ch_count at hf
  refine lv_iload_n hx hb dX10_count_0 rfl (lv_at hl 1 rfl) ?_
  by_cases q0 : p1 = 0
  · have hf := hf_t q0 hf
    refine lv_tableIn (off := 39) (tgt := 40) hx hb dX10_count_1 (by rw [q0]; decide) (by rw [q0]; decide) (by rw [q0]; rfl) (by decide) ?_
    refine lv_aload_n hx hb dX10_count_40 rfl (lv_at hl 0 rfl) ?_
    refine get_0_0 C hw q_374 dX10_count_41 ?_
    refine get_1_9 C hw q_133 dX10_count_44 ?_
    exact ret_i C hw dX10_count_47 hf
  have hf := hf_f q0 hf
  by_cases q1 : p1 = 1
  · have hf := hf_t q1 hf
    refine lv_tableIn (off := 47) (tgt := 48) hx hb dX10_count_1 (by rw [q1]; decide) (by rw [q1]; decide) (by rw [q1]; rfl) (by decide) ?_
    refine lv_aload_n hx hb dX10_count_48 rfl (lv_at hl 0 rfl) ?_
    refine get_0_0 C hw q_374 dX10_count_49 ?_
    refine get_1_10 C hw q_142 dX10_count_52 ?_
    exact ret_i C hw dX10_count_55 hf
  have hf := hf_f q1 hf
  by_cases q2 : p1 = 2
  · have hf := hf_t q2 hf
    refine lv_tableIn (off := 55) (tgt := 56) hx hb dX10_count_1 (by rw [q2]; decide) (by rw [q2]; decide) (by rw [q2]; rfl) (by decide) ?_
    refine lv_aload_n hx hb dX10_count_56 rfl (lv_at hl 0 rfl) ?_
    refine get_0_1 C hw q_375 dX10_count_57 ?_
    refine get_2_0 C hw q_174 dX10_count_60 ?_
    exact ret_i C hw dX10_count_63 hf
  have hf := hf_f q2 hf
  by_cases q3 : p1 = 3
  · have hf := hf_t q3 hf
    refine lv_tableIn (off := 63) (tgt := 64) hx hb dX10_count_1 (by rw [q3]; decide) (by rw [q3]; decide) (by rw [q3]; rfl) (by decide) ?_
    refine lv_aload_n hx hb dX10_count_64 rfl (lv_at hl 0 rfl) ?_
    refine get_0_7 C hw q_381 dX10_count_65 ?_
    refine get_8_0 C hw q_262 dX10_count_68 ?_
    exact ret_i C hw dX10_count_71 hf
  have hf := hf_f q3 hf
  by_cases q4 : p1 = 4
  · have hf := hf_t q4 hf
    refine lv_tableIn (off := 71) (tgt := 72) hx hb dX10_count_1 (by rw [q4]; decide) (by rw [q4]; decide) (by rw [q4]; rfl) (by decide) ?_
    refine lv_aload_n hx hb dX10_count_72 rfl (lv_at hl 0 rfl) ?_
    refine get_0_8 C hw q_382 dX10_count_73 ?_
    refine get_9_0 C hw q_237 dX10_count_76 ?_
    exact ret_i C hw dX10_count_79 hf
  have hf := hf_f q4 hf
  by_cases q5 : p1 = 5
  · have hf := hf_t q5 hf
    refine lv_tableIn (off := 79) (tgt := 80) hx hb dX10_count_1 (by rw [q5]; decide) (by rw [q5]; decide) (by rw [q5]; rfl) (by decide) ?_
    refine lv_aload_n hx hb dX10_count_80 rfl (lv_at hl 0 rfl) ?_
    refine get_0_8 C hw q_382 dX10_count_81 ?_
    refine get_9_1 C hw q_239 dX10_count_84 ?_
    exact ret_i C hw dX10_count_87 hf
  have hf := hf_f q5 hf
  refine lv_tableOut (tgt := 88) hx hb dX10_count_1 (by have h0 := lv_neT (a := 0) q0 rfl; have h1 := lv_neT (a := 1) q1 rfl; have h2 := lv_neT (a := 2) q2 rfl; have h3 := lv_neT (a := 3) q3 rfl; have h4 := lv_neT (a := 4) q4 rfl; have h5 := lv_neT (a := 5) q5 rfl; omega) (by decide) ?_
  refine lv_iconst (v := -1) hx hb dX10_count_88 kc_m1 ?_
  exact ret_i C hw dX10_count_89 hf
end
theorem t_Ch_count {l : Launch} {V : St} {S : St} {p1 : Int32} {r : Int32} (hf : Ch_count S p1 = some r) : Ct l (wX V) yX10_count cX10_count 2 (some .int) 1 (fun E => [.ref (ea E 0), .int p1]) S (fun E => some (.int r)) S :=
  ofBlock (by decide +kernel) (fun _ => Nat.le_of_ble_eq_true rfl) (fun E p e s m args below meth c ls C hw hl => w_Ch_count C hw hl hf)
theorem dX11_within_0 : decode cX11_within 0 = .ok (.lload_n 0, 1) := by decide +kernel
theorem dX11_within_1 : decode cX11_within 1 = .ok (.lload_n 2, 1) := by decide +kernel
theorem dX11_within_2 : decode cX11_within 2 = .ok (.lcmp, 1) := by decide +kernel
theorem dX11_within_3 : decode cX11_within 3 = .ok (.ifCond .lt 14, 3) := by decide +kernel
theorem dX11_within_6 : decode cX11_within 6 = .ok (.lload_n 0, 1) := by decide +kernel
theorem dX11_within_7 : decode cX11_within 7 = .ok (.lload 4, 2) := by decide +kernel
theorem dX11_within_9 : decode cX11_within 9 = .ok (.lcmp, 1) := by decide +kernel
theorem dX11_within_10 : decode cX11_within 10 = .ok (.ifCond .gt 7, 3) := by decide +kernel
theorem dX11_within_13 : decode cX11_within 13 = .ok (.iconst 1, 1) := by decide +kernel
theorem dX11_within_14 : decode cX11_within 14 = .ok (.goto 4, 3) := by decide +kernel
theorem dX11_within_17 : decode cX11_within 17 = .ok (.iconst 0, 1) := by decide +kernel
theorem dX11_within_18 : decode cX11_within 18 = .ok (.ireturn, 1) := by decide +kernel
def Mo_within (S : St) (p1 : Int64) (p2 : Int64) (p3 : Int64) : Option Int32 :=
  if (lg_cmp p1 p2) < 0 then
    some (0 : Int32)
  else
    if 0 < (lg_cmp p1 p3) then
      some (0 : Int32)
    else
      some (1 : Int32)
section
variable {p : Program} {l : Launch} {e : Env} {s : State} {m : MethodId} {args : Array Value} {below : List Frame} {meth : Method} {c : Code} {H : Heap} {locs : List Loc} {E : Ev} {S V : St} {ls : Array Slot}
set_option maxRecDepth 20000 in
theorem w_Mo_within {p1 : Int64} {p2 : Int64} {p3 : Int64} {r : Int32} (C : Cx p s m args meth c E cX11_within 6 RX11 (some .boolean)) (hw : Wd E (wM V E) s.heap S H locs) (hl : lv_has ls 6 [(0, .long p1), (2, .long p2), (4, .long p3)]) (hf : Mo_within S p1 p2 p3 = some r) : W p l e (rmh 1) s m args below meth c H locs 0 0 (MQ below (QW E (wM V E) (some (.int r)) S) args s 0 0 (eA E)) (F0 m 0 ls []) := by
  have hx := C.1
  have hb := C.2.1
  unfold Mo_within at hf
  refine lv_lload_n hx hb dX11_within_0 rfl (lv_at hl 0 rfl) ?_
  refine lv_lload_n hx hb dX11_within_1 rfl (lv_at hl 1 rfl) ?_
  refine W.lcmp hx hb dX11_within_2 ?_
  refine lv_if_lt (tgt := 17) hx hb dX11_within_3 (by decide) (fun q => ?_) (fun q => ?_)
  · have hf := hf_t q hf
    refine lv_iconst (v := 0) hx hb dX11_within_17 kc_0 ?_
    exact ret_z rfl C hw dX11_within_18 hf
  · have hf := hf_f q hf
    refine lv_lload_n hx hb dX11_within_6 rfl (lv_at hl 0 rfl) ?_
    refine lv_lload hx hb dX11_within_7 (lv_at hl 2 rfl) ?_
    refine W.lcmp hx hb dX11_within_9 ?_
    refine lv_if_gt (tgt := 17) hx hb dX11_within_10 (by decide) (fun q => ?_) (fun q => ?_)
    · have hf := hf_t q hf
      refine lv_iconst (v := 0) hx hb dX11_within_17 kc_0 ?_
      exact ret_z rfl C hw dX11_within_18 hf
    · have hf := hf_f q hf
      refine lv_iconst (v := 1) hx hb dX11_within_13 kc_1 ?_
      refine lv_goto (tgt := 18) hx hb dX11_within_14 (by decide) ?_
      exact ret_z rfl C hw dX11_within_18 hf
end
theorem t_Mo_within {l : Launch} {V : St} {S : St} {p1 : Int64} {p2 : Int64} {p3 : Int64} {r : Int32} (hf : Mo_within S p1 p2 p3 = some r) : Ct l (wM V) yX11_within cX11_within 6 (some .boolean) 1 (fun E => [.long p1, .long p2, .long p3]) S (fun E => some (.int r)) S :=
  ofBlock (by decide +kernel) (fun _ => Nat.le_of_ble_eq_true rfl) (fun E p e s m args below meth c ls C hw hl => w_Mo_within C hw hl hf)
theorem dX11_isIn_0 : decode cX11_isIn 0 = .ok (.iload_n 0, 1) := by decide +kernel
theorem dX11_isIn_1 : decode cX11_isIn 1 = .ok (.iload_n 1, 1) := by decide +kernel
theorem dX11_isIn_2 : decode cX11_isIn 2 = .ok (.ishr, 1) := by decide +kernel
theorem dX11_isIn_3 : decode cX11_isIn 3 = .ok (.iconst 1, 1) := by decide +kernel
theorem dX11_isIn_4 : decode cX11_isIn 4 = .ok (.iand, 1) := by decide +kernel
theorem dX11_isIn_5 : decode cX11_isIn 5 = .ok (.iconst 1, 1) := by decide +kernel
theorem dX11_isIn_6 : decode cX11_isIn 6 = .ok (.if_icmp .ne 7, 3) := by decide +kernel
theorem dX11_isIn_9 : decode cX11_isIn 9 = .ok (.iconst 1, 1) := by decide +kernel
theorem dX11_isIn_10 : decode cX11_isIn 10 = .ok (.goto 4, 3) := by decide +kernel
theorem dX11_isIn_13 : decode cX11_isIn 13 = .ok (.iconst 0, 1) := by decide +kernel
theorem dX11_isIn_14 : decode cX11_isIn 14 = .ok (.ireturn, 1) := by decide +kernel
def Mo_isIn (S : St) (p1 : Int32) (p2 : Int32) : Option Int32 :=
  if ((p1 >>> (p2 &&& 31)) &&& (1 : Int32)) = (1 : Int32) then
    some (1 : Int32)
  else
    some (0 : Int32)
section
variable {p : Program} {l : Launch} {e : Env} {s : State} {m : MethodId} {args : Array Value} {below : List Frame} {meth : Method} {c : Code} {H : Heap} {locs : List Loc} {E : Ev} {S V : St} {ls : Array Slot}
set_option maxRecDepth 20000 in
theorem w_Mo_isIn {p1 : Int32} {p2 : Int32} {r : Int32} (C : Cx p s m args meth c E cX11_isIn 2 RX11 (some .boolean)) (hw : Wd E (wM V E) s.heap S H locs) (hl : lv_has ls 2 [(0, .int p1), (1, .int p2)]) (hf : Mo_isIn S p1 p2 = some r) : W p l e (rmh 1) s m args below meth c H locs 0 0 (MQ below (QW E (wM V E) (some (.int r)) S) args s 0 0 (eA E)) (F0 m 0 ls []) := by
  have hx := C.1
  have hb := C.2.1
  unfold Mo_isIn at hf
  refine lv_iload_n hx hb dX11_isIn_0 rfl (lv_at hl 0 rfl) ?_
  refine lv_iload_n hx hb dX11_isIn_1 rfl (lv_at hl 1 rfl) ?_
  refine lv_ishr hx hb dX11_isIn_2 ?_
  refine lv_iconst (v := 1) hx hb dX11_isIn_3 kc_1 ?_
  refine lv_iand hx hb dX11_isIn_4 ?_
  refine lv_iconst (v := 1) hx hb dX11_isIn_5 kc_1 ?_
  refine lv_icmp_ne (tgt := 13) hx hb dX11_isIn_6 (by decide) (fun q => ?_) (fun q => ?_)
  · have hf := hf_f q hf
    refine lv_iconst (v := 0) hx hb dX11_isIn_13 kc_0 ?_
    exact ret_z rfl C hw dX11_isIn_14 hf
  · have hf := hf_t q hf
    refine lv_iconst (v := 1) hx hb dX11_isIn_9 kc_1 ?_
    refine lv_goto (tgt := 14) hx hb dX11_isIn_10 (by decide) ?_
    exact ret_z rfl C hw dX11_isIn_14 hf
end
theorem t_Mo_isIn {l : Launch} {V : St} {S : St} {p1 : Int32} {p2 : Int32} {r : Int32} (hf : Mo_isIn S p1 p2 = some r) : Ct l (wM V) yX11_isIn cX11_isIn 2 (some .boolean) 1 (fun E => [.int p1, .int p2]) S (fun E => some (.int r)) S :=
  ofBlock (by decide +kernel) (fun _ => Nat.le_of_ble_eq_true rfl) (fun E p e s m args below meth c ls C hw hl => w_Mo_isIn C hw hl hf)
theorem dX11_bitsOf_0 : decode cX11_bitsOf 0 = .ok (.iconst 0, 1) := by decide +kernel
theorem dX11_bitsOf_1 : decode cX11_bitsOf 1 = .ok (.istore_n 1, 1) := by decide +kernel
theorem dX11_bitsOf_2 : decode cX11_bitsOf 2 = .ok (.iconst 0, 1) := by decide +kernel
theorem dX11_bitsOf_3 : decode cX11_bitsOf 3 = .ok (.istore_n 2, 1) := by decide +kernel
theorem dX11_bitsOf_4 : decode cX11_bitsOf 4 = .ok (.iload_n 2, 1) := by decide +kernel
theorem dX11_bitsOf_5 : decode cX11_bitsOf 5 = .ok (.bipush 10, 2) := by decide +kernel
theorem dX11_bitsOf_7 : decode cX11_bitsOf 7 = .ok (.if_icmp .ge 17, 3) := by decide +kernel
theorem dX11_bitsOf_10 : decode cX11_bitsOf 10 = .ok (.iload_n 1, 1) := by decide +kernel
theorem dX11_bitsOf_11 : decode cX11_bitsOf 11 = .ok (.iload_n 0, 1) := by decide +kernel
theorem dX11_bitsOf_12 : decode cX11_bitsOf 12 = .ok (.iload_n 2, 1) := by decide +kernel
theorem dX11_bitsOf_13 : decode cX11_bitsOf 13 = .ok (.ishr, 1) := by decide +kernel
theorem dX11_bitsOf_14 : decode cX11_bitsOf 14 = .ok (.iconst 1, 1) := by decide +kernel
theorem dX11_bitsOf_15 : decode cX11_bitsOf 15 = .ok (.iand, 1) := by decide +kernel
theorem dX11_bitsOf_16 : decode cX11_bitsOf 16 = .ok (.iadd, 1) := by decide +kernel
theorem dX11_bitsOf_17 : decode cX11_bitsOf 17 = .ok (.istore_n 1, 1) := by decide +kernel
theorem dX11_bitsOf_18 : decode cX11_bitsOf 18 = .ok (.iinc 2 1, 3) := by decide +kernel
theorem dX11_bitsOf_21 : decode cX11_bitsOf 21 = .ok (.goto (-17), 3) := by decide +kernel
theorem dX11_bitsOf_24 : decode cX11_bitsOf 24 = .ok (.iload_n 1, 1) := by decide +kernel
theorem dX11_bitsOf_25 : decode cX11_bitsOf 25 = .ok (.ireturn, 1) := by decide +kernel
def Mo_bitsOf_b4 (N : Nat) (k4 : (Int32 × Int32) → Option Int32) (S : St) (l0 : Int32) (l1 : Int32) (l2 : Int32) : Option Int32 :=
  if (10 : Int32) ≤ l2 then
    some l1
  else
    nm ((l1 + ((l0 >>> (l2 &&& 31)) &&& (1 : Int32)))) fun x1 =>
    nm (l2 + (1)) fun x2 =>
    k4 (x1, x2)
def Mo_bitsOf_L4 (N : Nat) (S : St) (l0 : Int32) : (Int32 × Int32) → Option Int32 :=
  lp (fun k x => Mo_bitsOf_b4 N k S l0 x.1 x.2) N
def Mo_bitsOf (N : Nat) (S : St) (p1 : Int32) : Option Int32 :=
  Mo_bitsOf_L4 N S p1 ((0 : Int32), (0 : Int32))
section
variable {p : Program} {l : Launch} {e : Env} {s : State} {m : MethodId} {args : Array Value} {below : List Frame} {meth : Method} {c : Code} {H : Heap} {locs : List Loc} {E : Ev} {S V : St} {ls : Array Slot}
set_option maxRecDepth 20000 in
theorem w_Mo_bitsOf_b4 {N : Nat} {k4 : (Int32 × Int32) → Option Int32} {l0 : Int32} {l1 : Int32} {l2 : Int32} {r : Int32} (C : Cx p s m args meth c E cX11_bitsOf 3 RX11 (some .int)) (hk4 : ∀ x, k4 x = some r → ∀ (H : Heap) (locs : List Loc) (ls : Array Slot), Wd E (wM V E) s.heap S H locs → lv_has ls 3 [(0, .int l0), (1, .int x.1), (2, .int x.2)] → W p l e (rmh 1) s m args below meth c H locs 0 0 (MQ below (QW E (wM V E) (some (.int r)) S) args s 0 0 (eA E)) (F0 m 4 ls [])) (hw : Wd E (wM V E) s.heap S H locs) (hl : lv_has ls 3 [(0, .int l0), (1, .int l1), (2, .int l2)]) (hf : Mo_bitsOf_b4 N k4 S l0 l1 l2 = some r) : W p l e (rmh 1) s m args below meth c H locs 0 0 (MQ below (QW E (wM V E) (some (.int r)) S) args s 0 0 (eA E)) (F0 m 4 ls []) := by
  have hx := C.1
  have hb := C.2.1
  unfold Mo_bitsOf_b4 at hf
  refine lv_iload_n hx hb dX11_bitsOf_4 rfl (lv_at hl 2 rfl) ?_
  refine lv_bipush (v := 10) hx hb dX11_bitsOf_5 kb_10 ?_
  refine lv_icmp_ge (tgt := 24) hx hb dX11_bitsOf_7 (by decide) (fun q => ?_) (fun q => ?_)
  · have hf := hf_t q hf
    refine lv_iload_n hx hb dX11_bitsOf_24 rfl (lv_at hl 1 rfl) ?_
    exact ret_i C hw dX11_bitsOf_25 hf
  · have hf := hf_f q hf
    refine lv_iload_n hx hb dX11_bitsOf_10 rfl (lv_at hl 1 rfl) ?_
    refine lv_iload_n hx hb dX11_bitsOf_11 rfl (lv_at hl 0 rfl) ?_
    refine lv_iload_n hx hb dX11_bitsOf_12 rfl (lv_at hl 2 rfl) ?_
    refine lv_ishr hx hb dX11_bitsOf_13 ?_
    refine lv_iconst (v := 1) hx hb dX11_bitsOf_14 kc_1 ?_
    refine lv_iand hx hb dX11_bitsOf_15 ?_
    refine lv_iadd hx hb dX11_bitsOf_16 ?_
    refine nm_i hf (fun x1 hf => ?_)
    refine lv_istore_n (lv' := [(1, .int x1), (0, .int l0), (2, .int l2)]) hx hb dX11_bitsOf_17 rfl hl (by decide) rfl (fun ls hl => ?_)
    obtain ⟨x2, ex2, hf⟩ := nme hf
    refine lv_iinc (v := x2) (lv' := [(2, .int x2), (1, .int x1), (0, .int l0)]) hx hb dX11_bitsOf_18 hl (k := 2) rfl (ki_1 ex2) (by decide) rfl (fun ls hl => ?_)
    refine lv_goto (tgt := 4) hx hb dX11_bitsOf_21 (by decide) ?_
    exact hk4 _ hf _ _ _ hw (lv_sub hl [2, 1, 0] rfl)
theorem w_Mo_bitsOf_L4 {N : Nat} {l0 : Int32} {r : Int32} (C : Cx p s m args meth c E cX11_bitsOf 3 RX11 (some .int)) : ∀ x, Mo_bitsOf_L4 N S l0 x = some r → ∀ (H : Heap) (locs : List Loc) (ls : Array Slot), Wd E (wM V E) s.heap S H locs → lv_has ls 3 [(0, .int l0), (1, .int x.1), (2, .int x.2)] → W p l e (rmh 1) s m args below meth c H locs 0 0 (MQ below (QW E (wM V E) (some (.int r)) S) args s 0 0 (eA E)) (F0 m 4 ls []) :=
  lp_W (fun k x hk hf H locs ls hw hl => w_Mo_bitsOf_b4 C hk hw hl hf) N
set_option maxRecDepth 20000 in
theorem w_Mo_bitsOf {N : Nat} {p1 : Int32} {r : Int32} (C : Cx p s m args meth c E cX11_bitsOf 3 RX11 (some .int)) (hw : Wd E (wM V E) s.heap S H locs) (hl : lv_has ls 3 [(0, .int p1)]) (hf : Mo_bitsOf N S p1 = some r) : W p l e (rmh 1) s m args below meth c H locs 0 0 (MQ below (QW E (wM V E) (some (.int r)) S) args s 0 0 (eA E)) (F0 m 0 ls []) := by
  have hx := C.1
  have hb := C.2.1
  unfold Mo_bitsOf at hf
  refine lv_iconst (v := 0) hx hb dX11_bitsOf_0 kc_0 ?_
  refine lv_istore_n (lv' := [(1, .int (0 : Int32)), (0, .int p1)]) hx hb dX11_bitsOf_1 rfl hl (by decide) rfl (fun ls hl => ?_)
  refine lv_iconst (v := 0) hx hb dX11_bitsOf_2 kc_0 ?_
  refine lv_istore_n (lv' := [(2, .int (0 : Int32)), (1, .int (0 : Int32)), (0, .int p1)]) hx hb dX11_bitsOf_3 rfl hl (by decide) rfl (fun ls hl => ?_)
  exact w_Mo_bitsOf_L4 C _ hf _ _ _ hw (lv_sub hl [2, 1, 0] rfl)
end
theorem t_Mo_bitsOf {l : Launch} {V : St} {N : Nat} {S : St} {p1 : Int32} {r : Int32} (hf : Mo_bitsOf N S p1 = some r) : Ct l (wM V) yX11_bitsOf cX11_bitsOf 3 (some .int) 1 (fun E => [.int p1]) S (fun E => some (.int r)) S :=
  ofBlock (by decide +kernel) (fun _ => Nat.le_of_ble_eq_true rfl) (fun E p e s m args below meth c ls C hw hl => w_Mo_bitsOf C hw hl hf)
theorem dX11_becomes_0 : decode cX11_becomes 0 = .ok (.aload_n 0, 1) := by decide +kernel
theorem dX11_becomes_1 : decode cX11_becomes 1 = .ok (.getfield 9, 3) := by decide +kernel
theorem dX11_becomes_4 : decode cX11_becomes 4 = .ok (.iload_n 1, 1) := by decide +kernel
theorem dX11_becomes_5 : decode cX11_becomes 5 = .ok (.iaload, 1) := by decide +kernel
theorem dX11_becomes_6 : decode cX11_becomes 6 = .ok (.istore_n 3, 1) := by decide +kernel
theorem dX11_becomes_7 : decode cX11_becomes 7 = .ok (.iload_n 3, 1) := by decide +kernel
theorem dX11_becomes_8 : decode cX11_becomes 8 = .ok (.iload_n 2, 1) := by decide +kernel
theorem dX11_becomes_9 : decode cX11_becomes 9 = .ok (.if_icmp .ne 5, 3) := by decide +kernel
theorem dX11_becomes_12 : decode cX11_becomes 12 = .ok (.iload_n 3, 1) := by decide +kernel
theorem dX11_becomes_13 : decode cX11_becomes 13 = .ok (.ireturn, 1) := by decide +kernel
theorem dX11_becomes_14 : decode cX11_becomes 14 = .ok (.aload_n 0, 1) := by decide +kernel
theorem dX11_becomes_15 : decode cX11_becomes 15 = .ok (.getfield 75, 3) := by decide +kernel
theorem dX11_becomes_18 : decode cX11_becomes 18 = .ok (.bipush 40, 2) := by decide +kernel
theorem dX11_becomes_20 : decode cX11_becomes 20 = .ok (.if_icmp .ne 77, 3) := by decide +kernel
theorem dX11_becomes_23 : decode cX11_becomes 23 = .ok (.iconst 1, 1) := by decide +kernel
theorem dX11_becomes_24 : decode cX11_becomes 24 = .ok (.istore 4, 2) := by decide +kernel
theorem dX11_becomes_26 : decode cX11_becomes 26 = .ok (.iload 4, 2) := by decide +kernel
theorem dX11_becomes_28 : decode cX11_becomes 28 = .ok (.bipush 40, 2) := by decide +kernel
theorem dX11_becomes_30 : decode cX11_becomes 30 = .ok (.if_icmp .ge 57, 3) := by decide +kernel
theorem dX11_becomes_33 : decode cX11_becomes 33 = .ok (.aload_n 0, 1) := by decide +kernel
theorem dX11_becomes_34 : decode cX11_becomes 34 = .ok (.getfield 13, 3) := by decide +kernel
theorem dX11_becomes_37 : decode cX11_becomes 37 = .ok (.iload 4, 2) := by decide +kernel
theorem dX11_becomes_39 : decode cX11_becomes 39 = .ok (.iconst 1, 1) := by decide +kernel
theorem dX11_becomes_40 : decode cX11_becomes 40 = .ok (.isub, 1) := by decide +kernel
theorem dX11_becomes_41 : decode cX11_becomes 41 = .ok (.aload_n 0, 1) := by decide +kernel
theorem dX11_becomes_42 : decode cX11_becomes 42 = .ok (.getfield 13, 3) := by decide +kernel
theorem dX11_becomes_45 : decode cX11_becomes 45 = .ok (.iload 4, 2) := by decide +kernel
theorem dX11_becomes_47 : decode cX11_becomes 47 = .ok (.iaload, 1) := by decide +kernel
theorem dX11_becomes_48 : decode cX11_becomes 48 = .ok (.iastore, 1) := by decide +kernel
theorem dX11_becomes_49 : decode cX11_becomes 49 = .ok (.aload_n 0, 1) := by decide +kernel
theorem dX11_becomes_50 : decode cX11_becomes 50 = .ok (.getfield 16, 3) := by decide +kernel
theorem dX11_becomes_53 : decode cX11_becomes 53 = .ok (.iload 4, 2) := by decide +kernel
theorem dX11_becomes_55 : decode cX11_becomes 55 = .ok (.iconst 1, 1) := by decide +kernel
theorem dX11_becomes_56 : decode cX11_becomes 56 = .ok (.isub, 1) := by decide +kernel
theorem dX11_becomes_57 : decode cX11_becomes 57 = .ok (.aload_n 0, 1) := by decide +kernel
theorem dX11_becomes_58 : decode cX11_becomes 58 = .ok (.getfield 16, 3) := by decide +kernel
theorem dX11_becomes_61 : decode cX11_becomes 61 = .ok (.iload 4, 2) := by decide +kernel
theorem dX11_becomes_63 : decode cX11_becomes 63 = .ok (.iaload, 1) := by decide +kernel
theorem dX11_becomes_64 : decode cX11_becomes 64 = .ok (.iastore, 1) := by decide +kernel
theorem dX11_becomes_65 : decode cX11_becomes 65 = .ok (.aload_n 0, 1) := by decide +kernel
theorem dX11_becomes_66 : decode cX11_becomes 66 = .ok (.getfield 19, 3) := by decide +kernel
theorem dX11_becomes_69 : decode cX11_becomes 69 = .ok (.iload 4, 2) := by decide +kernel
theorem dX11_becomes_71 : decode cX11_becomes 71 = .ok (.iconst 1, 1) := by decide +kernel
theorem dX11_becomes_72 : decode cX11_becomes 72 = .ok (.isub, 1) := by decide +kernel
theorem dX11_becomes_73 : decode cX11_becomes 73 = .ok (.aload_n 0, 1) := by decide +kernel
theorem dX11_becomes_74 : decode cX11_becomes 74 = .ok (.getfield 19, 3) := by decide +kernel
theorem dX11_becomes_77 : decode cX11_becomes 77 = .ok (.iload 4, 2) := by decide +kernel
theorem dX11_becomes_79 : decode cX11_becomes 79 = .ok (.iaload, 1) := by decide +kernel
theorem dX11_becomes_80 : decode cX11_becomes 80 = .ok (.iastore, 1) := by decide +kernel
theorem dX11_becomes_81 : decode cX11_becomes 81 = .ok (.iinc 4 1, 3) := by decide +kernel
theorem dX11_becomes_84 : decode cX11_becomes 84 = .ok (.goto (-58), 3) := by decide +kernel
theorem dX11_becomes_87 : decode cX11_becomes 87 = .ok (.aload_n 0, 1) := by decide +kernel
theorem dX11_becomes_88 : decode cX11_becomes 88 = .ok (.dup, 1) := by decide +kernel
theorem dX11_becomes_89 : decode cX11_becomes 89 = .ok (.getfield 75, 3) := by decide +kernel
theorem dX11_becomes_92 : decode cX11_becomes 92 = .ok (.iconst 1, 1) := by decide +kernel
theorem dX11_becomes_93 : decode cX11_becomes 93 = .ok (.isub, 1) := by decide +kernel
theorem dX11_becomes_94 : decode cX11_becomes 94 = .ok (.putfield 75, 3) := by decide +kernel
theorem dX11_becomes_97 : decode cX11_becomes 97 = .ok (.aload_n 0, 1) := by decide +kernel
theorem dX11_becomes_98 : decode cX11_becomes 98 = .ok (.getfield 13, 3) := by decide +kernel
theorem dX11_becomes_101 : decode cX11_becomes 101 = .ok (.aload_n 0, 1) := by decide +kernel
theorem dX11_becomes_102 : decode cX11_becomes 102 = .ok (.getfield 75, 3) := by decide +kernel
theorem dX11_becomes_105 : decode cX11_becomes 105 = .ok (.iload_n 1, 1) := by decide +kernel
theorem dX11_becomes_106 : decode cX11_becomes 106 = .ok (.iastore, 1) := by decide +kernel
theorem dX11_becomes_107 : decode cX11_becomes 107 = .ok (.aload_n 0, 1) := by decide +kernel
theorem dX11_becomes_108 : decode cX11_becomes 108 = .ok (.getfield 16, 3) := by decide +kernel
theorem dX11_becomes_111 : decode cX11_becomes 111 = .ok (.aload_n 0, 1) := by decide +kernel
theorem dX11_becomes_112 : decode cX11_becomes 112 = .ok (.getfield 75, 3) := by decide +kernel
theorem dX11_becomes_115 : decode cX11_becomes 115 = .ok (.iload_n 3, 1) := by decide +kernel
theorem dX11_becomes_116 : decode cX11_becomes 116 = .ok (.iastore, 1) := by decide +kernel
theorem dX11_becomes_117 : decode cX11_becomes 117 = .ok (.aload_n 0, 1) := by decide +kernel
theorem dX11_becomes_118 : decode cX11_becomes 118 = .ok (.getfield 19, 3) := by decide +kernel
theorem dX11_becomes_121 : decode cX11_becomes 121 = .ok (.aload_n 0, 1) := by decide +kernel
theorem dX11_becomes_122 : decode cX11_becomes 122 = .ok (.getfield 75, 3) := by decide +kernel
theorem dX11_becomes_125 : decode cX11_becomes 125 = .ok (.iload_n 2, 1) := by decide +kernel
theorem dX11_becomes_126 : decode cX11_becomes 126 = .ok (.iastore, 1) := by decide +kernel
theorem dX11_becomes_127 : decode cX11_becomes 127 = .ok (.aload_n 0, 1) := by decide +kernel
theorem dX11_becomes_128 : decode cX11_becomes 128 = .ok (.dup, 1) := by decide +kernel
theorem dX11_becomes_129 : decode cX11_becomes 129 = .ok (.getfield 75, 3) := by decide +kernel
theorem dX11_becomes_132 : decode cX11_becomes 132 = .ok (.iconst 1, 1) := by decide +kernel
theorem dX11_becomes_133 : decode cX11_becomes 133 = .ok (.iadd, 1) := by decide +kernel
theorem dX11_becomes_134 : decode cX11_becomes 134 = .ok (.putfield 75, 3) := by decide +kernel
theorem dX11_becomes_137 : decode cX11_becomes 137 = .ok (.aload_n 0, 1) := by decide +kernel
theorem dX11_becomes_138 : decode cX11_becomes 138 = .ok (.aload_n 0, 1) := by decide +kernel
theorem dX11_becomes_139 : decode cX11_becomes 139 = .ok (.getfield 75, 3) := by decide +kernel
theorem dX11_becomes_142 : decode cX11_becomes 142 = .ok (.putfield 78, 3) := by decide +kernel
theorem dX11_becomes_145 : decode cX11_becomes 145 = .ok (.aload_n 0, 1) := by decide +kernel
theorem dX11_becomes_146 : decode cX11_becomes 146 = .ok (.getfield 9, 3) := by decide +kernel
theorem dX11_becomes_149 : decode cX11_becomes 149 = .ok (.iload_n 1, 1) := by decide +kernel
theorem dX11_becomes_150 : decode cX11_becomes 150 = .ok (.iload_n 2, 1) := by decide +kernel
theorem dX11_becomes_151 : decode cX11_becomes 151 = .ok (.iastore, 1) := by decide +kernel
theorem dX11_becomes_152 : decode cX11_becomes 152 = .ok (.iload_n 3, 1) := by decide +kernel
theorem dX11_becomes_153 : decode cX11_becomes 153 = .ok (.ireturn, 1) := by decide +kernel
def Mo_becomes_b97 (N : Nat) (S : St) (l1 : Int32) (l2 : Int32) (l3 : Int32) : Option (Int32 × St) :=
  ck (inb (gi S 44 5) 40) <|
  nm (si S 46 (gi S 44 5).toNatClampNeg l1) fun S1 =>
  ck (inb (gi S1 44 5) 40) <|
  nm (si S1 47 (gi S1 44 5).toNatClampNeg l3) fun S2 =>
  ck (inb (gi S2 44 5) 40) <|
  nm (si S2 48 (gi S2 44 5).toNatClampNeg l2) fun S3 =>
  nm (si S3 44 5 ((gi S3 44 5) + (1 : Int32))) fun S4 =>
  nm (si S4 44 4 (gi S4 44 5)) fun S5 =>
  ck (inb l1 58) <|
  nm (si S5 45 l1.toNatClampNeg l2) fun S6 =>
  some (l3, S6)
def Mo_becomes_b26 (N : Nat) (k26 : (St × Int32) → Option (Int32 × St)) (S : St) (l1 : Int32) (l2 : Int32) (l3 : Int32) (l4 : Int32) : Option (Int32 × St) :=
  if (40 : Int32) ≤ l4 then
    nm (si S 44 5 ((gi S 44 5) - (1 : Int32))) fun S1 =>
    Mo_becomes_b97 N S1 l1 l2 l3
  else
    ck (inb l4 40) <|
    ck (inb (l4 - (1 : Int32)) 40) <|
    nm (si S 46 (l4 - (1 : Int32)).toNatClampNeg (gi S 46 l4.toNatClampNeg)) fun S2 =>
    ck (inb l4 40) <|
    ck (inb (l4 - (1 : Int32)) 40) <|
    nm (si S2 47 (l4 - (1 : Int32)).toNatClampNeg (gi S2 47 l4.toNatClampNeg)) fun S3 =>
    ck (inb l4 40) <|
    ck (inb (l4 - (1 : Int32)) 40) <|
    nm (si S3 48 (l4 - (1 : Int32)).toNatClampNeg (gi S3 48 l4.toNatClampNeg)) fun S4 =>
    nm (l4 + (1)) fun x5 =>
    k26 (S4, x5)
def Mo_becomes_L26 (N : Nat) (l1 : Int32) (l2 : Int32) (l3 : Int32) : (St × Int32) → Option (Int32 × St) :=
  lp (fun k x => Mo_becomes_b26 N k x.1 l1 l2 l3 x.2) N
def Mo_becomes (N : Nat) (S : St) (p1 : Int32) (p2 : Int32) : Option (Int32 × St) :=
  ck (inb p1 58) <|
  nm ((gi S 45 p1.toNatClampNeg)) fun x1 =>
  if x1 = p2 then
    some (x1, S)
  else
    if (gi S 44 5) = (40 : Int32) then
      Mo_becomes_L26 N p1 p2 x1 (S, (1 : Int32))
    else
      Mo_becomes_b97 N S p1 p2 x1
section
variable {p : Program} {l : Launch} {e : Env} {s : State} {m : MethodId} {args : Array Value} {below : List Frame} {meth : Method} {c : Code} {H : Heap} {locs : List Loc} {E : Ev} {S V : St} {ls : Array Slot}
set_option maxRecDepth 20000 in
theorem w_Mo_becomes_b97 {N : Nat} {l1 : Int32} {l2 : Int32} {l3 : Int32} {r : Int32} {S9 : St} (C : Cx p s m args meth c E cX11_becomes 5 RX11 (some .int)) (hw : Wd E (wM V E) s.heap S H locs) (hl : lv_has ls 5 [(0, .ref (ea E 44)), (1, .int l1), (2, .int l2), (3, .int l3)]) (hf : Mo_becomes_b97 N S l1 l2 l3 = some (r, S9)) : W p l e (rmh 1) s m args below meth c H locs 0 0 (MQ below (QW E (wM V E) (some (.int r)) S9) args s 0 0 (eA E)) (F0 m 97 ls []) := by
  have hx := C.1
  have hb := C.2.1
  unfold Mo_becomes_b97 at hf
  refine lv_aload_n hx hb dX11_becomes_97 rfl (lv_at hl 0 rfl) ?_
  refine get_44_1 C hw q_1144 dX11_becomes_98 ?_
  refine lv_aload_n hx hb dX11_becomes_101 rfl (lv_at hl 0 rfl) ?_
  refine get_44_5 C hw q_1148 dX11_becomes_102 ?_
  refine lv_iload_n hx hb dX11_becomes_105 rfl (lv_at hl 1 rfl) ?_
  obtain ⟨hc, hf⟩ := hf_ck hf
  refine st_46 C hw hc dX11_becomes_106 (fun H locs hw => ?_)
  refine nm_S hf hw (fun S1 hf hw => ?_)
  refine lv_aload_n hx hb dX11_becomes_107 rfl (lv_at hl 0 rfl) ?_
  refine get_44_2 C hw q_1145 dX11_becomes_108 ?_
  refine lv_aload_n hx hb dX11_becomes_111 rfl (lv_at hl 0 rfl) ?_
  refine get_44_5 C hw q_1148 dX11_becomes_112 ?_
  refine lv_iload_n hx hb dX11_becomes_115 rfl (lv_at hl 3 rfl) ?_
  obtain ⟨hc, hf⟩ := hf_ck hf
  refine st_47 C hw hc dX11_becomes_116 (fun H locs hw => ?_)
  refine nm_S hf hw (fun S2 hf hw => ?_)
  refine lv_aload_n hx hb dX11_becomes_117 rfl (lv_at hl 0 rfl) ?_
  refine get_44_3 C hw q_1146 dX11_becomes_118 ?_
  refine lv_aload_n hx hb dX11_becomes_121 rfl (lv_at hl 0 rfl) ?_
  refine get_44_5 C hw q_1148 dX11_becomes_122 ?_
  refine lv_iload_n hx hb dX11_becomes_125 rfl (lv_at hl 2 rfl) ?_
  obtain ⟨hc, hf⟩ := hf_ck hf
  refine st_48 C hw hc dX11_becomes_126 (fun H locs hw => ?_)
  refine nm_S hf hw (fun S3 hf hw => ?_)
  refine lv_aload_n hx hb dX11_becomes_127 rfl (lv_at hl 0 rfl) ?_
  refine lv_dup hx hb dX11_becomes_128 rfl ?_
  refine get_44_5 C hw q_1148 dX11_becomes_129 ?_
  refine lv_iconst (v := 1) hx hb dX11_becomes_132 kc_1 ?_
  refine lv_iadd hx hb dX11_becomes_133 ?_
  refine put_44_5 C hw q_1148 dX11_becomes_134 (fun H locs hw => ?_)
  refine nm_S hf hw (fun S4 hf hw => ?_)
  refine lv_aload_n hx hb dX11_becomes_137 rfl (lv_at hl 0 rfl) ?_
  refine lv_aload_n hx hb dX11_becomes_138 rfl (lv_at hl 0 rfl) ?_
  refine get_44_5 C hw q_1148 dX11_becomes_139 ?_
  refine put_44_4 C hw q_1147 dX11_becomes_142 (fun H locs hw => ?_)
  refine nm_S hf hw (fun S5 hf hw => ?_)
  refine lv_aload_n hx hb dX11_becomes_145 rfl (lv_at hl 0 rfl) ?_
  refine get_44_0 C hw q_1143 dX11_becomes_146 ?_
  refine lv_iload_n hx hb dX11_becomes_149 rfl (lv_at hl 1 rfl) ?_
  refine lv_iload_n hx hb dX11_becomes_150 rfl (lv_at hl 2 rfl) ?_
  obtain ⟨hc, hf⟩ := hf_ck hf
  refine st_45 C hw hc dX11_becomes_151 (fun H locs hw => ?_)
  refine nm_S hf hw (fun S6 hf hw => ?_)
  refine lv_iload_n hx hb dX11_becomes_152 rfl (lv_at hl 3 rfl) ?_
  exact ret_iS C hw dX11_becomes_153 hf
set_option maxRecDepth 20000 in
theorem w_Mo_becomes_b26 {N : Nat} {k26 : (St × Int32) → Option (Int32 × St)} {l1 : Int32} {l2 : Int32} {l3 : Int32} {l4 : Int32} {r : Int32} {S9 : St} (C : Cx p s m args meth c E cX11_becomes 5 RX11 (some .int)) (hk26 : ∀ x, k26 x = some (r, S9) → ∀ (H : Heap) (locs : List Loc) (ls : Array Slot), Wd E (wM V E) s.heap x.1 H locs → lv_has ls 5 [(0, .ref (ea E 44)), (1, .int l1), (2, .int l2), (3, .int l3), (4, .int x.2)] → W p l e (rmh 1) s m args below meth c H locs 0 0 (MQ below (QW E (wM V E) (some (.int r)) S9) args s 0 0 (eA E)) (F0 m 26 ls [])) (hw : Wd E (wM V E) s.heap S H locs) (hl : lv_has ls 5 [(0, .ref (ea E 44)), (1, .int l1), (2, .int l2), (3, .int l3), (4, .int l4)]) (hf : Mo_becomes_b26 N k26 S l1 l2 l3 l4 = some (r, S9)) : W p l e (rmh 1) s m args below meth c H locs 0 0 (MQ below (QW E (wM V E) (some (.int r)) S9) args s 0 0 (eA E)) (F0 m 26 ls []) := by
  have hx := C.1
  have hb := C.2.1
  unfold Mo_becomes_b26 at hf
  refine lv_iload hx hb dX11_becomes_26 (lv_at hl 4 rfl) ?_
  refine lv_bipush (v := 40) hx hb dX11_becomes_28 kb_40 ?_
  refine lv_icmp_ge (tgt := 87) hx hb dX11_becomes_30 (by decide) (fun q => ?_) (fun q => ?_)
  · have hf := hf_t q hf
    refine lv_aload_n hx hb dX11_becomes_87 rfl (lv_at hl 0 rfl) ?_
    refine lv_dup hx hb dX11_becomes_88 rfl ?_
    refine get_44_5 C hw q_1148 dX11_becomes_89 ?_
    refine lv_iconst (v := 1) hx hb dX11_becomes_92 kc_1 ?_
    refine lv_isub hx hb dX11_becomes_93 ?_
    refine put_44_5 C hw q_1148 dX11_becomes_94 (fun H locs hw => ?_)
    refine nm_S hf hw (fun S1 hf hw => ?_)
    exact w_Mo_becomes_b97 C hw (lv_sub hl [0, 1, 2, 3] rfl) hf
  · have hf := hf_f q hf
    refine lv_aload_n hx hb dX11_becomes_33 rfl (lv_at hl 0 rfl) ?_
    refine get_44_1 C hw q_1144 dX11_becomes_34 ?_
    refine lv_iload hx hb dX11_becomes_37 (lv_at hl 4 rfl) ?_
    refine lv_iconst (v := 1) hx hb dX11_becomes_39 kc_1 ?_
    refine lv_isub hx hb dX11_becomes_40 ?_
    refine lv_aload_n hx hb dX11_becomes_41 rfl (lv_at hl 0 rfl) ?_
    refine get_44_1 C hw q_1144 dX11_becomes_42 ?_
    refine lv_iload hx hb dX11_becomes_45 (lv_at hl 4 rfl) ?_
    obtain ⟨hc, hf⟩ := hf_ck hf
    refine ld_46 C hw hc dX11_becomes_47 ?_
    obtain ⟨hc, hf⟩ := hf_ck hf
    refine st_46 C hw hc dX11_becomes_48 (fun H locs hw => ?_)
    refine nm_S hf hw (fun S2 hf hw => ?_)
    refine lv_aload_n hx hb dX11_becomes_49 rfl (lv_at hl 0 rfl) ?_
    refine get_44_2 C hw q_1145 dX11_becomes_50 ?_
    refine lv_iload hx hb dX11_becomes_53 (lv_at hl 4 rfl) ?_
    refine lv_iconst (v := 1) hx hb dX11_becomes_55 kc_1 ?_
    refine lv_isub hx hb dX11_becomes_56 ?_
    refine lv_aload_n hx hb dX11_becomes_57 rfl (lv_at hl 0 rfl) ?_
    refine get_44_2 C hw q_1145 dX11_becomes_58 ?_
    refine lv_iload hx hb dX11_becomes_61 (lv_at hl 4 rfl) ?_
    obtain ⟨hc, hf⟩ := hf_ck hf
    refine ld_47 C hw hc dX11_becomes_63 ?_
    obtain ⟨hc, hf⟩ := hf_ck hf
    refine st_47 C hw hc dX11_becomes_64 (fun H locs hw => ?_)
    refine nm_S hf hw (fun S3 hf hw => ?_)
    refine lv_aload_n hx hb dX11_becomes_65 rfl (lv_at hl 0 rfl) ?_
    refine get_44_3 C hw q_1146 dX11_becomes_66 ?_
    refine lv_iload hx hb dX11_becomes_69 (lv_at hl 4 rfl) ?_
    refine lv_iconst (v := 1) hx hb dX11_becomes_71 kc_1 ?_
    refine lv_isub hx hb dX11_becomes_72 ?_
    refine lv_aload_n hx hb dX11_becomes_73 rfl (lv_at hl 0 rfl) ?_
    refine get_44_3 C hw q_1146 dX11_becomes_74 ?_
    refine lv_iload hx hb dX11_becomes_77 (lv_at hl 4 rfl) ?_
    obtain ⟨hc, hf⟩ := hf_ck hf
    refine ld_48 C hw hc dX11_becomes_79 ?_
    obtain ⟨hc, hf⟩ := hf_ck hf
    refine st_48 C hw hc dX11_becomes_80 (fun H locs hw => ?_)
    refine nm_S hf hw (fun S4 hf hw => ?_)
    obtain ⟨x5, ex5, hf⟩ := nme hf
    refine lv_iinc (v := x5) (lv' := [(4, .int x5), (0, .ref (ea E 44)), (1, .int l1), (2, .int l2), (3, .int l3)]) hx hb dX11_becomes_81 hl (k := 4) rfl (ki_1 ex5) (by decide) rfl (fun ls hl => ?_)
    refine lv_goto (tgt := 26) hx hb dX11_becomes_84 (by decide) ?_
    exact hk26 _ hf _ _ _ hw (lv_sub hl [1, 2, 3, 4, 0] rfl)
theorem w_Mo_becomes_L26 {N : Nat} {l1 : Int32} {l2 : Int32} {l3 : Int32} {r : Int32} {S9 : St} (C : Cx p s m args meth c E cX11_becomes 5 RX11 (some .int)) : ∀ x, Mo_becomes_L26 N l1 l2 l3 x = some (r, S9) → ∀ (H : Heap) (locs : List Loc) (ls : Array Slot), Wd E (wM V E) s.heap x.1 H locs → lv_has ls 5 [(0, .ref (ea E 44)), (1, .int l1), (2, .int l2), (3, .int l3), (4, .int x.2)] → W p l e (rmh 1) s m args below meth c H locs 0 0 (MQ below (QW E (wM V E) (some (.int r)) S9) args s 0 0 (eA E)) (F0 m 26 ls []) :=
  lp_W (fun k x hk hf H locs ls hw hl => w_Mo_becomes_b26 C hk hw hl hf) N
set_option maxRecDepth 20000 in
theorem w_Mo_becomes {N : Nat} {p1 : Int32} {p2 : Int32} {r : Int32} {S9 : St} (C : Cx p s m args meth c E cX11_becomes 5 RX11 (some .int)) (hw : Wd E (wM V E) s.heap S H locs) (hl : lv_has ls 5 [(0, .ref (ea E 44)), (1, .int p1), (2, .int p2)]) (hf : Mo_becomes N S p1 p2 = some (r, S9)) : W p l e (rmh 1) s m args below meth c H locs 0 0 (MQ below (QW E (wM V E) (some (.int r)) S9) args s 0 0 (eA E)) (F0 m 0 ls []) := by
  have hx := C.1
  have hb := C.2.1
  unfold Mo_becomes at hf
  refine lv_aload_n hx hb dX11_becomes_0 rfl (lv_at hl 0 rfl) ?_
  refine get_44_0 C hw q_1143 dX11_becomes_1 ?_
  refine lv_iload_n hx hb dX11_becomes_4 rfl (lv_at hl 1 rfl) ?_
  obtain ⟨hc, hf⟩ := hf_ck hf
  refine ld_45 C hw hc dX11_becomes_5 ?_
  refine nm_i hf (fun x1 hf => ?_)
  refine lv_istore_n (lv' := [(3, .int x1), (0, .ref (ea E 44)), (1, .int p1), (2, .int p2)]) hx hb dX11_becomes_6 rfl hl (by decide) rfl (fun ls hl => ?_)
  refine lv_iload_n hx hb dX11_becomes_7 rfl (lv_at hl 0 rfl) ?_
  refine lv_iload_n hx hb dX11_becomes_8 rfl (lv_at hl 3 rfl) ?_
  refine lv_icmp_ne (tgt := 14) hx hb dX11_becomes_9 (by decide) (fun q => ?_) (fun q => ?_)
  · have hf := hf_f q hf
    refine lv_aload_n hx hb dX11_becomes_14 rfl (lv_at hl 1 rfl) ?_
    refine get_44_5 C hw q_1148 dX11_becomes_15 ?_
    refine lv_bipush (v := 40) hx hb dX11_becomes_18 kb_40 ?_
    refine lv_icmp_ne (tgt := 97) hx hb dX11_becomes_20 (by decide) (fun q => ?_) (fun q => ?_)
    · have hf := hf_f q hf
      exact w_Mo_becomes_b97 C hw (lv_sub hl [1, 2, 3, 0] rfl) hf
    · have hf := hf_t q hf
      refine lv_iconst (v := 1) hx hb dX11_becomes_23 kc_1 ?_
      refine lv_istore (lv' := [(4, .int (1 : Int32)), (3, .int x1), (0, .ref (ea E 44)), (1, .int p1), (2, .int p2)]) hx hb dX11_becomes_24 hl (by decide) rfl (fun ls hl => ?_)
      exact w_Mo_becomes_L26 C _ hf _ _ _ hw (lv_sub hl [2, 3, 4, 1, 0] rfl)
  · have hf := hf_t q hf
    refine lv_iload_n hx hb dX11_becomes_12 rfl (lv_at hl 0 rfl) ?_
    exact ret_iS C hw dX11_becomes_13 hf
end
theorem t_Mo_becomes {l : Launch} {V : St} {N : Nat} {S : St} {p1 : Int32} {p2 : Int32} {r : Int32} {S9 : St} (hf : Mo_becomes N S p1 p2 = some (r, S9)) : Ct l (wM V) yX11_becomes cX11_becomes 5 (some .int) 1 (fun E => [.ref (ea E 44), .int p1, .int p2]) S (fun E => some (.int r)) S9 :=
  ofBlock (by decide +kernel) (fun _ => Nat.le_of_ble_eq_true rfl) (fun E p e s m args below meth c ls C hw hl => w_Mo_becomes C hw hl hf)
theorem dX11_undo_0 : decode cX11_undo 0 = .ok (.aload_n 0, 1) := by decide +kernel
theorem dX11_undo_1 : decode cX11_undo 1 = .ok (.getfield 75, 3) := by decide +kernel
theorem dX11_undo_4 : decode cX11_undo 4 = .ok (.ifCond .ne 6, 3) := by decide +kernel
theorem dX11_undo_7 : decode cX11_undo 7 = .ok (.bipush (-5), 2) := by decide +kernel
theorem dX11_undo_9 : decode cX11_undo 9 = .ok (.ireturn, 1) := by decide +kernel
theorem dX11_undo_10 : decode cX11_undo 10 = .ok (.aload_n 0, 1) := by decide +kernel
theorem dX11_undo_11 : decode cX11_undo 11 = .ok (.dup, 1) := by decide +kernel
theorem dX11_undo_12 : decode cX11_undo 12 = .ok (.getfield 75, 3) := by decide +kernel
theorem dX11_undo_15 : decode cX11_undo 15 = .ok (.iconst 1, 1) := by decide +kernel
theorem dX11_undo_16 : decode cX11_undo 16 = .ok (.isub, 1) := by decide +kernel
theorem dX11_undo_17 : decode cX11_undo 17 = .ok (.putfield 75, 3) := by decide +kernel
theorem dX11_undo_20 : decode cX11_undo 20 = .ok (.aload_n 0, 1) := by decide +kernel
theorem dX11_undo_21 : decode cX11_undo 21 = .ok (.getfield 9, 3) := by decide +kernel
theorem dX11_undo_24 : decode cX11_undo 24 = .ok (.aload_n 0, 1) := by decide +kernel
theorem dX11_undo_25 : decode cX11_undo 25 = .ok (.getfield 13, 3) := by decide +kernel
theorem dX11_undo_28 : decode cX11_undo 28 = .ok (.aload_n 0, 1) := by decide +kernel
theorem dX11_undo_29 : decode cX11_undo 29 = .ok (.getfield 75, 3) := by decide +kernel
theorem dX11_undo_32 : decode cX11_undo 32 = .ok (.iaload, 1) := by decide +kernel
theorem dX11_undo_33 : decode cX11_undo 33 = .ok (.aload_n 0, 1) := by decide +kernel
theorem dX11_undo_34 : decode cX11_undo 34 = .ok (.getfield 16, 3) := by decide +kernel
theorem dX11_undo_37 : decode cX11_undo 37 = .ok (.aload_n 0, 1) := by decide +kernel
theorem dX11_undo_38 : decode cX11_undo 38 = .ok (.getfield 75, 3) := by decide +kernel
theorem dX11_undo_41 : decode cX11_undo 41 = .ok (.iaload, 1) := by decide +kernel
theorem dX11_undo_42 : decode cX11_undo 42 = .ok (.iastore, 1) := by decide +kernel
theorem dX11_undo_43 : decode cX11_undo 43 = .ok (.aload_n 0, 1) := by decide +kernel
theorem dX11_undo_44 : decode cX11_undo 44 = .ok (.getfield 75, 3) := by decide +kernel
theorem dX11_undo_47 : decode cX11_undo 47 = .ok (.ireturn, 1) := by decide +kernel
def Mo_undo (S : St) : Option (Int32 × St) :=
  if (gi S 44 5) = 0 then
    some ((-5 : Int32), S)
  else
    nm (si S 44 5 ((gi S 44 5) - (1 : Int32))) fun S1 =>
    ck (inb (gi S1 44 5) 40) <|
    ck (inb (gi S1 44 5) 40) <|
    ck (inb (gi S1 46 (gi S1 44 5).toNatClampNeg) 58) <|
    nm (si S1 45 (gi S1 46 (gi S1 44 5).toNatClampNeg).toNatClampNeg (gi S1 47 (gi S1 44 5).toNatClampNeg)) fun S2 =>
    some ((gi S2 44 5), S2)
section
variable {p : Program} {l : Launch} {e : Env} {s : State} {m : MethodId} {args : Array Value} {below : List Frame} {meth : Method} {c : Code} {H : Heap} {locs : List Loc} {E : Ev} {S V : St} {ls : Array Slot}
set_option maxRecDepth 20000 in
theorem w_Mo_undo {r : Int32} {S9 : St} (C : Cx p s m args meth c E cX11_undo 1 RX11 (some .int)) (hw : Wd E (wM V E) s.heap S H locs) (hl : lv_has ls 1 [(0, .ref (ea E 44))]) (hf : Mo_undo S = some (r, S9)) : W p l e (rmh 1) s m args below meth c H locs 0 0 (MQ below (QW E (wM V E) (some (.int r)) S9) args s 0 0 (eA E)) (F0 m 0 ls []) := by
  have hx := C.1
  have hb := C.2.1
  unfold Mo_undo at hf
  refine lv_aload_n hx hb dX11_undo_0 rfl (lv_at hl 0 rfl) ?_
  refine get_44_5 C hw q_1148 dX11_undo_1 ?_
  refine lv_if_ne (tgt := 10) hx hb dX11_undo_4 (by decide) (fun q => ?_) (fun q => ?_)
  · have hf := hf_f q hf
    refine lv_aload_n hx hb dX11_undo_10 rfl (lv_at hl 0 rfl) ?_
    refine lv_dup hx hb dX11_undo_11 rfl ?_
    refine get_44_5 C hw q_1148 dX11_undo_12 ?_
    refine lv_iconst (v := 1) hx hb dX11_undo_15 kc_1 ?_
    refine lv_isub hx hb dX11_undo_16 ?_
    refine put_44_5 C hw q_1148 dX11_undo_17 (fun H locs hw => ?_)
    refine nm_S hf hw (fun S1 hf hw => ?_)
    refine lv_aload_n hx hb dX11_undo_20 rfl (lv_at hl 0 rfl) ?_
    refine get_44_0 C hw q_1143 dX11_undo_21 ?_
    refine lv_aload_n hx hb dX11_undo_24 rfl (lv_at hl 0 rfl) ?_
    refine get_44_1 C hw q_1144 dX11_undo_25 ?_
    refine lv_aload_n hx hb dX11_undo_28 rfl (lv_at hl 0 rfl) ?_
    refine get_44_5 C hw q_1148 dX11_undo_29 ?_
    obtain ⟨hc, hf⟩ := hf_ck hf
    refine ld_46 C hw hc dX11_undo_32 ?_
    refine lv_aload_n hx hb dX11_undo_33 rfl (lv_at hl 0 rfl) ?_
    refine get_44_2 C hw q_1145 dX11_undo_34 ?_
    refine lv_aload_n hx hb dX11_undo_37 rfl (lv_at hl 0 rfl) ?_
    refine get_44_5 C hw q_1148 dX11_undo_38 ?_
    obtain ⟨hc, hf⟩ := hf_ck hf
    refine ld_47 C hw hc dX11_undo_41 ?_
    obtain ⟨hc, hf⟩ := hf_ck hf
    refine st_45 C hw hc dX11_undo_42 (fun H locs hw => ?_)
    refine nm_S hf hw (fun S2 hf hw => ?_)
    refine lv_aload_n hx hb dX11_undo_43 rfl (lv_at hl 0 rfl) ?_
    refine get_44_5 C hw q_1148 dX11_undo_44 ?_
    exact ret_iS C hw dX11_undo_47 hf
  · have hf := hf_t q hf
    refine lv_bipush (v := -5) hx hb dX11_undo_7 kb_m5 ?_
    exact ret_iS C hw dX11_undo_9 hf
end
theorem t_Mo_undo {l : Launch} {V : St} {S : St} {r : Int32} {S9 : St} (hf : Mo_undo S = some (r, S9)) : Ct l (wM V) yX11_undo cX11_undo 1 (some .int) 1 (fun E => [.ref (ea E 44)]) S (fun E => some (.int r)) S9 :=
  ofBlock (by decide +kernel) (fun _ => Nat.le_of_ble_eq_true rfl) (fun E p e s m args below meth c ls C hw hl => w_Mo_undo C hw hl hf)
theorem dX11_redo_0 : decode cX11_redo 0 = .ok (.aload_n 0, 1) := by decide +kernel
theorem dX11_redo_1 : decode cX11_redo 1 = .ok (.getfield 75, 3) := by decide +kernel
theorem dX11_redo_4 : decode cX11_redo 4 = .ok (.aload_n 0, 1) := by decide +kernel
theorem dX11_redo_5 : decode cX11_redo 5 = .ok (.getfield 78, 3) := by decide +kernel
theorem dX11_redo_8 : decode cX11_redo 8 = .ok (.if_icmp .ne 6, 3) := by decide +kernel
theorem dX11_redo_11 : decode cX11_redo 11 = .ok (.bipush (-5), 2) := by decide +kernel
theorem dX11_redo_13 : decode cX11_redo 13 = .ok (.ireturn, 1) := by decide +kernel
theorem dX11_redo_14 : decode cX11_redo 14 = .ok (.aload_n 0, 1) := by decide +kernel
theorem dX11_redo_15 : decode cX11_redo 15 = .ok (.getfield 9, 3) := by decide +kernel
theorem dX11_redo_18 : decode cX11_redo 18 = .ok (.aload_n 0, 1) := by decide +kernel
theorem dX11_redo_19 : decode cX11_redo 19 = .ok (.getfield 13, 3) := by decide +kernel
theorem dX11_redo_22 : decode cX11_redo 22 = .ok (.aload_n 0, 1) := by decide +kernel
theorem dX11_redo_23 : decode cX11_redo 23 = .ok (.getfield 75, 3) := by decide +kernel
theorem dX11_redo_26 : decode cX11_redo 26 = .ok (.iaload, 1) := by decide +kernel
theorem dX11_redo_27 : decode cX11_redo 27 = .ok (.aload_n 0, 1) := by decide +kernel
theorem dX11_redo_28 : decode cX11_redo 28 = .ok (.getfield 19, 3) := by decide +kernel
theorem dX11_redo_31 : decode cX11_redo 31 = .ok (.aload_n 0, 1) := by decide +kernel
theorem dX11_redo_32 : decode cX11_redo 32 = .ok (.getfield 75, 3) := by decide +kernel
theorem dX11_redo_35 : decode cX11_redo 35 = .ok (.iaload, 1) := by decide +kernel
theorem dX11_redo_36 : decode cX11_redo 36 = .ok (.iastore, 1) := by decide +kernel
theorem dX11_redo_37 : decode cX11_redo 37 = .ok (.aload_n 0, 1) := by decide +kernel
theorem dX11_redo_38 : decode cX11_redo 38 = .ok (.dup, 1) := by decide +kernel
theorem dX11_redo_39 : decode cX11_redo 39 = .ok (.getfield 75, 3) := by decide +kernel
theorem dX11_redo_42 : decode cX11_redo 42 = .ok (.iconst 1, 1) := by decide +kernel
theorem dX11_redo_43 : decode cX11_redo 43 = .ok (.iadd, 1) := by decide +kernel
theorem dX11_redo_44 : decode cX11_redo 44 = .ok (.putfield 75, 3) := by decide +kernel
theorem dX11_redo_47 : decode cX11_redo 47 = .ok (.aload_n 0, 1) := by decide +kernel
theorem dX11_redo_48 : decode cX11_redo 48 = .ok (.getfield 78, 3) := by decide +kernel
theorem dX11_redo_51 : decode cX11_redo 51 = .ok (.aload_n 0, 1) := by decide +kernel
theorem dX11_redo_52 : decode cX11_redo 52 = .ok (.getfield 75, 3) := by decide +kernel
theorem dX11_redo_55 : decode cX11_redo 55 = .ok (.isub, 1) := by decide +kernel
theorem dX11_redo_56 : decode cX11_redo 56 = .ok (.ireturn, 1) := by decide +kernel
def Mo_redo (S : St) : Option (Int32 × St) :=
  if (gi S 44 5) = (gi S 44 4) then
    some ((-5 : Int32), S)
  else
    ck (inb (gi S 44 5) 40) <|
    ck (inb (gi S 44 5) 40) <|
    ck (inb (gi S 46 (gi S 44 5).toNatClampNeg) 58) <|
    nm (si S 45 (gi S 46 (gi S 44 5).toNatClampNeg).toNatClampNeg (gi S 48 (gi S 44 5).toNatClampNeg)) fun S1 =>
    nm (si S1 44 5 ((gi S1 44 5) + (1 : Int32))) fun S2 =>
    some (((gi S2 44 4) - (gi S2 44 5)), S2)
section
variable {p : Program} {l : Launch} {e : Env} {s : State} {m : MethodId} {args : Array Value} {below : List Frame} {meth : Method} {c : Code} {H : Heap} {locs : List Loc} {E : Ev} {S V : St} {ls : Array Slot}
set_option maxRecDepth 20000 in
theorem w_Mo_redo {r : Int32} {S9 : St} (C : Cx p s m args meth c E cX11_redo 1 RX11 (some .int)) (hw : Wd E (wM V E) s.heap S H locs) (hl : lv_has ls 1 [(0, .ref (ea E 44))]) (hf : Mo_redo S = some (r, S9)) : W p l e (rmh 1) s m args below meth c H locs 0 0 (MQ below (QW E (wM V E) (some (.int r)) S9) args s 0 0 (eA E)) (F0 m 0 ls []) := by
  have hx := C.1
  have hb := C.2.1
  unfold Mo_redo at hf
  refine lv_aload_n hx hb dX11_redo_0 rfl (lv_at hl 0 rfl) ?_
  refine get_44_5 C hw q_1148 dX11_redo_1 ?_
  refine lv_aload_n hx hb dX11_redo_4 rfl (lv_at hl 0 rfl) ?_
  refine get_44_4 C hw q_1147 dX11_redo_5 ?_
  refine lv_icmp_ne (tgt := 14) hx hb dX11_redo_8 (by decide) (fun q => ?_) (fun q => ?_)
  · have hf := hf_f q hf
    refine lv_aload_n hx hb dX11_redo_14 rfl (lv_at hl 0 rfl) ?_
    refine get_44_0 C hw q_1143 dX11_redo_15 ?_
    refine lv_aload_n hx hb dX11_redo_18 rfl (lv_at hl 0 rfl) ?_
    refine get_44_1 C hw q_1144 dX11_redo_19 ?_
    refine lv_aload_n hx hb dX11_redo_22 rfl (lv_at hl 0 rfl) ?_
    refine get_44_5 C hw q_1148 dX11_redo_23 ?_
    obtain ⟨hc, hf⟩ := hf_ck hf
    refine ld_46 C hw hc dX11_redo_26 ?_
    refine lv_aload_n hx hb dX11_redo_27 rfl (lv_at hl 0 rfl) ?_
    refine get_44_3 C hw q_1146 dX11_redo_28 ?_
    refine lv_aload_n hx hb dX11_redo_31 rfl (lv_at hl 0 rfl) ?_
    refine get_44_5 C hw q_1148 dX11_redo_32 ?_
    obtain ⟨hc, hf⟩ := hf_ck hf
    refine ld_48 C hw hc dX11_redo_35 ?_
    obtain ⟨hc, hf⟩ := hf_ck hf
    refine st_45 C hw hc dX11_redo_36 (fun H locs hw => ?_)
    refine nm_S hf hw (fun S1 hf hw => ?_)
    refine lv_aload_n hx hb dX11_redo_37 rfl (lv_at hl 0 rfl) ?_
    refine lv_dup hx hb dX11_redo_38 rfl ?_
    refine get_44_5 C hw q_1148 dX11_redo_39 ?_
    refine lv_iconst (v := 1) hx hb dX11_redo_42 kc_1 ?_
    refine lv_iadd hx hb dX11_redo_43 ?_
    refine put_44_5 C hw q_1148 dX11_redo_44 (fun H locs hw => ?_)
    refine nm_S hf hw (fun S2 hf hw => ?_)
    refine lv_aload_n hx hb dX11_redo_47 rfl (lv_at hl 0 rfl) ?_
    refine get_44_4 C hw q_1147 dX11_redo_48 ?_
    refine lv_aload_n hx hb dX11_redo_51 rfl (lv_at hl 0 rfl) ?_
    refine get_44_5 C hw q_1148 dX11_redo_52 ?_
    refine lv_isub hx hb dX11_redo_55 ?_
    exact ret_iS C hw dX11_redo_56 hf
  · have hf := hf_t q hf
    refine lv_bipush (v := -5) hx hb dX11_redo_11 kb_m5 ?_
    exact ret_iS C hw dX11_redo_13 hf
end
theorem t_Mo_redo {l : Launch} {V : St} {S : St} {r : Int32} {S9 : St} (hf : Mo_redo S = some (r, S9)) : Ct l (wM V) yX11_redo cX11_redo 1 (some .int) 1 (fun E => [.ref (ea E 44)]) S (fun E => some (.int r)) S9 :=
  ofBlock (by decide +kernel) (fun _ => Nat.le_of_ble_eq_true rfl) (fun E p e s m args below meth c ls C hw hl => w_Mo_redo C hw hl hf)
theorem dX11_isOne_0 : decode cX11_isOne 0 = .ok (.lload_n 1, 1) := by decide +kernel
theorem dX11_isOne_1 : decode cX11_isOne 1 = .ok (.lconst 0, 1) := by decide +kernel
theorem dX11_isOne_2 : decode cX11_isOne 2 = .ok (.aload_n 0, 1) := by decide +kernel
theorem dX11_isOne_3 : decode cX11_isOne 3 = .ok (.getfield 81, 3) := by decide +kernel
theorem dX11_isOne_6 : decode cX11_isOne 6 = .ok (.iconst 1, 1) := by decide +kernel
theorem dX11_isOne_7 : decode cX11_isOne 7 = .ok (.isub, 1) := by decide +kernel
theorem dX11_isOne_8 : decode cX11_isOne 8 = .ok (.i2l, 1) := by decide +kernel
theorem dX11_isOne_9 : decode cX11_isOne 9 = .ok (.invokestatic 84, 3) := by decide +kernel
theorem dX11_isOne_12 : decode cX11_isOne 12 = .ok (.ireturn, 1) := by decide +kernel
def Mo_isOne (S : St) (p1 : Int64) : Option Int32 :=
  bd1 (Mo_within S p1 (0 : Int64) (Int32.toInt64 ((gi S 44 6) - (1 : Int32)))) fun r1 =>
  ck (isB r1) <|
  some r1
section
variable {p : Program} {l : Launch} {e : Env} {s : State} {m : MethodId} {args : Array Value} {below : List Frame} {meth : Method} {c : Code} {H : Heap} {locs : List Loc} {E : Ev} {S V : St} {ls : Array Slot}
set_option maxRecDepth 20000 in
theorem w_Mo_isOne {p1 : Int64} {r : Int32} (C : Cx p s m args meth c E cX11_isOne 3 RX11 (some .boolean)) (hw : Wd E (wM V E) s.heap S H locs) (hl : lv_has ls 3 [(0, .ref (ea E 44)), (1, .long p1)]) (hf : Mo_isOne S p1 = some r) : W p l e (rmh 2) s m args below meth c H locs 0 0 (MQ below (QW E (wM V E) (some (.int r)) S) args s 0 0 (eA E)) (F0 m 0 ls []) := by
  have hx := C.1
  have hb := C.2.1
  unfold Mo_isOne at hf
  refine lv_lload_n hx hb dX11_isOne_0 rfl (lv_at hl 1 rfl) ?_
  refine lv_lconst (v := 0) hx hb dX11_isOne_1 rfl ?_
  refine lv_aload_n hx hb dX11_isOne_2 rfl (lv_at hl 0 rfl) ?_
  refine get_44_6 C hw q_1149 dX11_isOne_3 ?_
  refine lv_iconst (v := 1) hx hb dX11_isOne_6 kc_1 ?_
  refine lv_isub hx hb dX11_isOne_7 ?_
  refine lv_i2l hx hb dX11_isOne_8 rfl ?_
  obtain ⟨r1, hr, hf⟩ := hf_1 hf
  refine inv_Si (As := [.long p1, .long (0 : Int64), .long (Int32.toInt64 ((gi S 44 6) - (1 : Int32)))]) lk_X11_84 C hw (t_Mo_within hr) hl.1 dX11_isOne_9 rfl (Nat.le_of_ble_eq_true rfl) (by decide) (Nat.le_of_ble_eq_true rfl) rfl (fun H locs hw => ?_)
  obtain ⟨hcb, hf⟩ := hf_ck hf
  exact ret_z (isB_nar hcb) C hw dX11_isOne_12 hf
end
theorem t_Mo_isOne {l : Launch} {V : St} {S : St} {p1 : Int64} {r : Int32} (hf : Mo_isOne S p1 = some r) : Ct l (wM V) yX11_isOne cX11_isOne 3 (some .boolean) 2 (fun E => [.ref (ea E 44), .long p1]) S (fun E => some (.int r)) S :=
  ofBlock (by decide +kernel) (fun _ => Nat.le_of_ble_eq_true rfl) (fun E p e s m args below meth c ls C hw hl => w_Mo_isOne C hw hl hf)
theorem dX11_isPromise_0 : decode cX11_isPromise 0 = .ok (.lload_n 1, 1) := by decide +kernel
theorem dX11_isPromise_1 : decode cX11_isPromise 1 = .ok (.lconst 0, 1) := by decide +kernel
theorem dX11_isPromise_2 : decode cX11_isPromise 2 = .ok (.aload_n 0, 1) := by decide +kernel
theorem dX11_isPromise_3 : decode cX11_isPromise 3 = .ok (.getfield 88, 3) := by decide +kernel
theorem dX11_isPromise_6 : decode cX11_isPromise 6 = .ok (.iconst 1, 1) := by decide +kernel
theorem dX11_isPromise_7 : decode cX11_isPromise 7 = .ok (.isub, 1) := by decide +kernel
theorem dX11_isPromise_8 : decode cX11_isPromise 8 = .ok (.i2l, 1) := by decide +kernel
theorem dX11_isPromise_9 : decode cX11_isPromise 9 = .ok (.invokestatic 84, 3) := by decide +kernel
theorem dX11_isPromise_12 : decode cX11_isPromise 12 = .ok (.ireturn, 1) := by decide +kernel
def Mo_isPromise (S : St) (p1 : Int64) : Option Int32 :=
  bd1 (Mo_within S p1 (0 : Int64) (Int32.toInt64 ((gi S 44 7) - (1 : Int32)))) fun r1 =>
  ck (isB r1) <|
  some r1
section
variable {p : Program} {l : Launch} {e : Env} {s : State} {m : MethodId} {args : Array Value} {below : List Frame} {meth : Method} {c : Code} {H : Heap} {locs : List Loc} {E : Ev} {S V : St} {ls : Array Slot}
set_option maxRecDepth 20000 in
theorem w_Mo_isPromise {p1 : Int64} {r : Int32} (C : Cx p s m args meth c E cX11_isPromise 3 RX11 (some .boolean)) (hw : Wd E (wM V E) s.heap S H locs) (hl : lv_has ls 3 [(0, .ref (ea E 44)), (1, .long p1)]) (hf : Mo_isPromise S p1 = some r) : W p l e (rmh 2) s m args below meth c H locs 0 0 (MQ below (QW E (wM V E) (some (.int r)) S) args s 0 0 (eA E)) (F0 m 0 ls []) := by
  have hx := C.1
  have hb := C.2.1
  unfold Mo_isPromise at hf
  refine lv_lload_n hx hb dX11_isPromise_0 rfl (lv_at hl 1 rfl) ?_
  refine lv_lconst (v := 0) hx hb dX11_isPromise_1 rfl ?_
  refine lv_aload_n hx hb dX11_isPromise_2 rfl (lv_at hl 0 rfl) ?_
  refine get_44_7 C hw q_1150 dX11_isPromise_3 ?_
  refine lv_iconst (v := 1) hx hb dX11_isPromise_6 kc_1 ?_
  refine lv_isub hx hb dX11_isPromise_7 ?_
  refine lv_i2l hx hb dX11_isPromise_8 rfl ?_
  obtain ⟨r1, hr, hf⟩ := hf_1 hf
  refine inv_Si (As := [.long p1, .long (0 : Int64), .long (Int32.toInt64 ((gi S 44 7) - (1 : Int32)))]) lk_X11_84 C hw (t_Mo_within hr) hl.1 dX11_isPromise_9 rfl (Nat.le_of_ble_eq_true rfl) (by decide) (Nat.le_of_ble_eq_true rfl) rfl (fun H locs hw => ?_)
  obtain ⟨hcb, hf⟩ := hf_ck hf
  exact ret_z (isB_nar hcb) C hw dX11_isPromise_12 hf
end
theorem t_Mo_isPromise {l : Launch} {V : St} {S : St} {p1 : Int64} {r : Int32} (hf : Mo_isPromise S p1 = some r) : Ct l (wM V) yX11_isPromise cX11_isPromise 3 (some .boolean) 2 (fun E => [.ref (ea E 44), .long p1]) S (fun E => some (.int r)) S :=
  ofBlock (by decide +kernel) (fun _ => Nat.le_of_ble_eq_true rfl) (fun E p e s m args below meth c ls C hw hl => w_Mo_isPromise C hw hl hf)
theorem dX11_isDay_0 : decode cX11_isDay 0 = .ok (.lload_n 0, 1) := by decide +kernel
theorem dX11_isDay_1 : decode cX11_isDay 1 = .ok (.lconst 0, 1) := by decide +kernel
theorem dX11_isDay_2 : decode cX11_isDay 2 = .ok (.ldc2_w 91, 3) := by decide +kernel
theorem dX11_isDay_5 : decode cX11_isDay 5 = .ok (.invokestatic 84, 3) := by decide +kernel
theorem dX11_isDay_8 : decode cX11_isDay 8 = .ok (.ireturn, 1) := by decide +kernel
def Mo_isDay (S : St) (p1 : Int64) : Option Int32 :=
  bd1 (Mo_within S p1 (0 : Int64) (99 : Int64)) fun r1 =>
  ck (isB r1) <|
  some r1
section
variable {p : Program} {l : Launch} {e : Env} {s : State} {m : MethodId} {args : Array Value} {below : List Frame} {meth : Method} {c : Code} {H : Heap} {locs : List Loc} {E : Ev} {S V : St} {ls : Array Slot}
set_option maxRecDepth 20000 in
theorem w_Mo_isDay {p1 : Int64} {r : Int32} (C : Cx p s m args meth c E cX11_isDay 2 RX11 (some .boolean)) (hw : Wd E (wM V E) s.heap S H locs) (hl : lv_has ls 2 [(0, .long p1)]) (hf : Mo_isDay S p1 = some r) : W p l e (rmh 2) s m args below meth c H locs 0 0 (MQ below (QW E (wM V E) (some (.int r)) S) args s 0 0 (eA E)) (F0 m 0 ls []) := by
  have hx := C.1
  have hb := C.2.1
  unfold Mo_isDay at hf
  refine lv_lload_n hx hb dX11_isDay_0 rfl (lv_at hl 0 rfl) ?_
  refine lv_lconst (v := 0) hx hb dX11_isDay_1 rfl ?_
  refine lv_ldc2 (v := 99) hx hb C.2.2.2.1 (C.2.2.2.2.1 _ q_1293) dX11_isDay_2 ?_
  obtain ⟨r1, hr, hf⟩ := hf_1 hf
  refine inv_Si (As := [.long p1, .long (0 : Int64), .long (99 : Int64)]) lk_X11_84 C hw (t_Mo_within hr) hl.1 dX11_isDay_5 rfl (Nat.le_of_ble_eq_true rfl) (by decide) (Nat.le_of_ble_eq_true rfl) rfl (fun H locs hw => ?_)
  obtain ⟨hcb, hf⟩ := hf_ck hf
  exact ret_z (isB_nar hcb) C hw dX11_isDay_8 hf
end
theorem t_Mo_isDay {l : Launch} {V : St} {S : St} {p1 : Int64} {r : Int32} (hf : Mo_isDay S p1 = some r) : Ct l (wM V) yX11_isDay cX11_isDay 2 (some .boolean) 2 (fun E => [.long p1]) S (fun E => some (.int r)) S :=
  ofBlock (by decide +kernel) (fun _ => Nat.le_of_ble_eq_true rfl) (fun E p e s m args below meth c ls C hw hl => w_Mo_isDay C hw hl hf)
theorem dX11_person_0 : decode cX11_person 0 = .ok (.iload_n 1, 1) := by decide +kernel
theorem dX11_person_1 : decode cX11_person 1 = .ok (.i2l, 1) := by decide +kernel
theorem dX11_person_2 : decode cX11_person 2 = .ok (.lconst 0, 1) := by decide +kernel
theorem dX11_person_3 : decode cX11_person 3 = .ok (.ldc2_w 93, 3) := by decide +kernel
theorem dX11_person_6 : decode cX11_person 6 = .ok (.invokestatic 84, 3) := by decide +kernel
theorem dX11_person_9 : decode cX11_person 9 = .ok (.ifCond .eq 15, 3) := by decide +kernel
theorem dX11_person_12 : decode cX11_person 12 = .ok (.iload_n 2, 1) := by decide +kernel
theorem dX11_person_13 : decode cX11_person 13 = .ok (.i2l, 1) := by decide +kernel
theorem dX11_person_14 : decode cX11_person 14 = .ok (.lconst 1, 1) := by decide +kernel
theorem dX11_person_15 : decode cX11_person 15 = .ok (.ldc2_w 95, 3) := by decide +kernel
theorem dX11_person_18 : decode cX11_person 18 = .ok (.invokestatic 84, 3) := by decide +kernel
theorem dX11_person_21 : decode cX11_person 21 = .ok (.ifCond .ne 5, 3) := by decide +kernel
theorem dX11_person_24 : decode cX11_person 24 = .ok (.iconst (-1), 1) := by decide +kernel
theorem dX11_person_25 : decode cX11_person 25 = .ok (.ireturn, 1) := by decide +kernel
theorem dX11_person_26 : decode cX11_person 26 = .ok (.aload_n 0, 1) := by decide +kernel
theorem dX11_person_27 : decode cX11_person 27 = .ok (.getfield 81, 3) := by decide +kernel
theorem dX11_person_30 : decode cX11_person 30 = .ok (.bipush 6, 2) := by decide +kernel
theorem dX11_person_32 : decode cX11_person 32 = .ok (.if_icmp .ne 6, 3) := by decide +kernel
theorem dX11_person_35 : decode cX11_person 35 = .ok (.bipush (-3), 2) := by decide +kernel
theorem dX11_person_37 : decode cX11_person 37 = .ok (.ireturn, 1) := by decide +kernel
theorem dX11_person_38 : decode cX11_person 38 = .ok (.aload_n 0, 1) := by decide +kernel
theorem dX11_person_39 : decode cX11_person 39 = .ok (.getfield 9, 3) := by decide +kernel
theorem dX11_person_42 : decode cX11_person 42 = .ok (.aload_n 0, 1) := by decide +kernel
theorem dX11_person_43 : decode cX11_person 43 = .ok (.getfield 81, 3) := by decide +kernel
theorem dX11_person_46 : decode cX11_person 46 = .ok (.iload_n 1, 1) := by decide +kernel
theorem dX11_person_47 : decode cX11_person 47 = .ok (.iastore, 1) := by decide +kernel
theorem dX11_person_48 : decode cX11_person 48 = .ok (.aload_n 0, 1) := by decide +kernel
theorem dX11_person_49 : decode cX11_person 49 = .ok (.getfield 9, 3) := by decide +kernel
theorem dX11_person_52 : decode cX11_person 52 = .ok (.bipush 6, 2) := by decide +kernel
theorem dX11_person_54 : decode cX11_person 54 = .ok (.aload_n 0, 1) := by decide +kernel
theorem dX11_person_55 : decode cX11_person 55 = .ok (.getfield 81, 3) := by decide +kernel
theorem dX11_person_58 : decode cX11_person 58 = .ok (.iadd, 1) := by decide +kernel
theorem dX11_person_59 : decode cX11_person 59 = .ok (.iload_n 2, 1) := by decide +kernel
theorem dX11_person_60 : decode cX11_person 60 = .ok (.iastore, 1) := by decide +kernel
theorem dX11_person_61 : decode cX11_person 61 = .ok (.aload_n 0, 1) := by decide +kernel
theorem dX11_person_62 : decode cX11_person 62 = .ok (.getfield 9, 3) := by decide +kernel
theorem dX11_person_65 : decode cX11_person 65 = .ok (.bipush 12, 2) := by decide +kernel
theorem dX11_person_67 : decode cX11_person 67 = .ok (.aload_n 0, 1) := by decide +kernel
theorem dX11_person_68 : decode cX11_person 68 = .ok (.getfield 81, 3) := by decide +kernel
theorem dX11_person_71 : decode cX11_person 71 = .ok (.iadd, 1) := by decide +kernel
theorem dX11_person_72 : decode cX11_person 72 = .ok (.iconst 2, 1) := by decide +kernel
theorem dX11_person_73 : decode cX11_person 73 = .ok (.iastore, 1) := by decide +kernel
theorem dX11_person_74 : decode cX11_person 74 = .ok (.aload_n 0, 1) := by decide +kernel
theorem dX11_person_75 : decode cX11_person 75 = .ok (.dup, 1) := by decide +kernel
theorem dX11_person_76 : decode cX11_person 76 = .ok (.getfield 81, 3) := by decide +kernel
theorem dX11_person_79 : decode cX11_person 79 = .ok (.iconst 1, 1) := by decide +kernel
theorem dX11_person_80 : decode cX11_person 80 = .ok (.iadd, 1) := by decide +kernel
theorem dX11_person_81 : decode cX11_person 81 = .ok (.putfield 81, 3) := by decide +kernel
theorem dX11_person_84 : decode cX11_person 84 = .ok (.aload_n 0, 1) := by decide +kernel
theorem dX11_person_85 : decode cX11_person 85 = .ok (.getfield 81, 3) := by decide +kernel
theorem dX11_person_88 : decode cX11_person 88 = .ok (.iconst 1, 1) := by decide +kernel
theorem dX11_person_89 : decode cX11_person 89 = .ok (.isub, 1) := by decide +kernel
theorem dX11_person_90 : decode cX11_person 90 = .ok (.ireturn, 1) := by decide +kernel
def Mo_person (S : St) (p1 : Int32) (p2 : Int32) : Option (Int32 × St) :=
  bd1 (Mo_within S (Int32.toInt64 p1) (0 : Int64) (30 : Int64)) fun r1 =>
  if r1 = 0 then
    some ((-1 : Int32), S)
  else
    bd1 (Mo_within S (Int32.toInt64 p2) (1 : Int64) (60 : Int64)) fun r2 =>
    if r2 = 0 then
      some ((-1 : Int32), S)
    else
      if (gi S 44 6) = (6 : Int32) then
        some ((-3 : Int32), S)
      else
        ck (inb (gi S 44 6) 58) <|
        nm (si S 45 (gi S 44 6).toNatClampNeg p1) fun S3 =>
        ck (inb ((6 : Int32) + (gi S3 44 6)) 58) <|
        nm (si S3 45 ((6 : Int32) + (gi S3 44 6)).toNatClampNeg p2) fun S4 =>
        ck (inb ((12 : Int32) + (gi S4 44 6)) 58) <|
        nm (si S4 45 ((12 : Int32) + (gi S4 44 6)).toNatClampNeg (2 : Int32)) fun S5 =>
        nm (si S5 44 6 ((gi S5 44 6) + (1 : Int32))) fun S6 =>
        some (((gi S6 44 6) - (1 : Int32)), S6)
section
variable {p : Program} {l : Launch} {e : Env} {s : State} {m : MethodId} {args : Array Value} {below : List Frame} {meth : Method} {c : Code} {H : Heap} {locs : List Loc} {E : Ev} {S V : St} {ls : Array Slot}
set_option maxRecDepth 20000 in
theorem w_Mo_person {p1 : Int32} {p2 : Int32} {r : Int32} {S9 : St} (C : Cx p s m args meth c E cX11_person 3 RX11 (some .int)) (hw : Wd E (wM V E) s.heap S H locs) (hl : lv_has ls 3 [(0, .ref (ea E 44)), (1, .int p1), (2, .int p2)]) (hf : Mo_person S p1 p2 = some (r, S9)) : W p l e (rmh 2) s m args below meth c H locs 0 0 (MQ below (QW E (wM V E) (some (.int r)) S9) args s 0 0 (eA E)) (F0 m 0 ls []) := by
  have hx := C.1
  have hb := C.2.1
  unfold Mo_person at hf
  refine lv_iload_n hx hb dX11_person_0 rfl (lv_at hl 1 rfl) ?_
  refine lv_i2l hx hb dX11_person_1 rfl ?_
  refine lv_lconst (v := 0) hx hb dX11_person_2 rfl ?_
  refine lv_ldc2 (v := 30) hx hb C.2.2.2.1 (C.2.2.2.2.1 _ q_1273) dX11_person_3 ?_
  obtain ⟨r1, hr, hf⟩ := hf_1 hf
  refine inv_Si (As := [.long (Int32.toInt64 p1), .long (0 : Int64), .long (30 : Int64)]) lk_X11_84 C hw (t_Mo_within hr) hl.1 dX11_person_6 rfl (Nat.le_of_ble_eq_true rfl) (by decide) (Nat.le_of_ble_eq_true rfl) rfl (fun H locs hw => ?_)
  refine lv_if_eq (tgt := 24) hx hb dX11_person_9 (by decide) (fun q => ?_) (fun q => ?_)
  · have hf := hf_t q hf
    refine lv_iconst (v := -1) hx hb dX11_person_24 kc_m1 ?_
    exact ret_iS C hw dX11_person_25 hf
  · have hf := hf_f q hf
    refine lv_iload_n hx hb dX11_person_12 rfl (lv_at hl 2 rfl) ?_
    refine lv_i2l hx hb dX11_person_13 rfl ?_
    refine lv_lconst (v := 1) hx hb dX11_person_14 rfl ?_
    refine lv_ldc2 (v := 60) hx hb C.2.2.2.1 (C.2.2.2.2.1 _ q_1277) dX11_person_15 ?_
    obtain ⟨r2, hr, hf⟩ := hf_1 hf
    refine inv_Si (As := [.long (Int32.toInt64 p2), .long (1 : Int64), .long (60 : Int64)]) lk_X11_84 C hw (t_Mo_within hr) hl.1 dX11_person_18 rfl (Nat.le_of_ble_eq_true rfl) (by decide) (Nat.le_of_ble_eq_true rfl) rfl (fun H locs hw => ?_)
    refine lv_if_ne (tgt := 26) hx hb dX11_person_21 (by decide) (fun q => ?_) (fun q => ?_)
    · have hf := hf_f q hf
      refine lv_aload_n hx hb dX11_person_26 rfl (lv_at hl 0 rfl) ?_
      refine get_44_6 C hw q_1149 dX11_person_27 ?_
      refine lv_bipush (v := 6) hx hb dX11_person_30 kb_6 ?_
      refine lv_icmp_ne (tgt := 38) hx hb dX11_person_32 (by decide) (fun q => ?_) (fun q => ?_)
      · have hf := hf_f q hf
        refine lv_aload_n hx hb dX11_person_38 rfl (lv_at hl 0 rfl) ?_
        refine get_44_0 C hw q_1143 dX11_person_39 ?_
        refine lv_aload_n hx hb dX11_person_42 rfl (lv_at hl 0 rfl) ?_
        refine get_44_6 C hw q_1149 dX11_person_43 ?_
        refine lv_iload_n hx hb dX11_person_46 rfl (lv_at hl 1 rfl) ?_
        obtain ⟨hc, hf⟩ := hf_ck hf
        refine st_45 C hw hc dX11_person_47 (fun H locs hw => ?_)
        refine nm_S hf hw (fun S3 hf hw => ?_)
        refine lv_aload_n hx hb dX11_person_48 rfl (lv_at hl 0 rfl) ?_
        refine get_44_0 C hw q_1143 dX11_person_49 ?_
        refine lv_bipush (v := 6) hx hb dX11_person_52 kb_6 ?_
        refine lv_aload_n hx hb dX11_person_54 rfl (lv_at hl 0 rfl) ?_
        refine get_44_6 C hw q_1149 dX11_person_55 ?_
        refine lv_iadd hx hb dX11_person_58 ?_
        refine lv_iload_n hx hb dX11_person_59 rfl (lv_at hl 2 rfl) ?_
        obtain ⟨hc, hf⟩ := hf_ck hf
        refine st_45 C hw hc dX11_person_60 (fun H locs hw => ?_)
        refine nm_S hf hw (fun S4 hf hw => ?_)
        refine lv_aload_n hx hb dX11_person_61 rfl (lv_at hl 0 rfl) ?_
        refine get_44_0 C hw q_1143 dX11_person_62 ?_
        refine lv_bipush (v := 12) hx hb dX11_person_65 kb_12 ?_
        refine lv_aload_n hx hb dX11_person_67 rfl (lv_at hl 0 rfl) ?_
        refine get_44_6 C hw q_1149 dX11_person_68 ?_
        refine lv_iadd hx hb dX11_person_71 ?_
        refine lv_iconst (v := 2) hx hb dX11_person_72 kc_2 ?_
        obtain ⟨hc, hf⟩ := hf_ck hf
        refine st_45 C hw hc dX11_person_73 (fun H locs hw => ?_)
        refine nm_S hf hw (fun S5 hf hw => ?_)
        refine lv_aload_n hx hb dX11_person_74 rfl (lv_at hl 0 rfl) ?_
        refine lv_dup hx hb dX11_person_75 rfl ?_
        refine get_44_6 C hw q_1149 dX11_person_76 ?_
        refine lv_iconst (v := 1) hx hb dX11_person_79 kc_1 ?_
        refine lv_iadd hx hb dX11_person_80 ?_
        refine put_44_6 C hw q_1149 dX11_person_81 (fun H locs hw => ?_)
        refine nm_S hf hw (fun S6 hf hw => ?_)
        refine lv_aload_n hx hb dX11_person_84 rfl (lv_at hl 0 rfl) ?_
        refine get_44_6 C hw q_1149 dX11_person_85 ?_
        refine lv_iconst (v := 1) hx hb dX11_person_88 kc_1 ?_
        refine lv_isub hx hb dX11_person_89 ?_
        exact ret_iS C hw dX11_person_90 hf
      · have hf := hf_t q hf
        refine lv_bipush (v := -3) hx hb dX11_person_35 kb_m3 ?_
        exact ret_iS C hw dX11_person_37 hf
    · have hf := hf_t q hf
      refine lv_iconst (v := -1) hx hb dX11_person_24 kc_m1 ?_
      exact ret_iS C hw dX11_person_25 hf
end
theorem t_Mo_person {l : Launch} {V : St} {S : St} {p1 : Int32} {p2 : Int32} {r : Int32} {S9 : St} (hf : Mo_person S p1 p2 = some (r, S9)) : Ct l (wM V) yX11_person cX11_person 3 (some .int) 2 (fun E => [.ref (ea E 44), .int p1, .int p2]) S (fun E => some (.int r)) S9 :=
  ofBlock (by decide +kernel) (fun _ => Nat.le_of_ble_eq_true rfl) (fun E p e s m args below meth c ls C hw hl => w_Mo_person C hw hl hf)
theorem dX11_mayCome_0 : decode cX11_mayCome 0 = .ok (.aload_n 0, 1) := by decide +kernel
theorem dX11_mayCome_1 : decode cX11_mayCome 1 = .ok (.lload_n 1, 1) := by decide +kernel
theorem dX11_mayCome_2 : decode cX11_mayCome 2 = .ok (.invokevirtual 97, 3) := by decide +kernel
theorem dX11_mayCome_5 : decode cX11_mayCome 5 = .ok (.ifCond .eq 38, 3) := by decide +kernel
theorem dX11_mayCome_8 : decode cX11_mayCome 8 = .ok (.lload_n 3, 1) := by decide +kernel
theorem dX11_mayCome_9 : decode cX11_mayCome 9 = .ok (.invokestatic 101, 3) := by decide +kernel
theorem dX11_mayCome_12 : decode cX11_mayCome 12 = .ok (.ifCond .eq 31, 3) := by decide +kernel
theorem dX11_mayCome_15 : decode cX11_mayCome 15 = .ok (.lload 5, 2) := by decide +kernel
theorem dX11_mayCome_17 : decode cX11_mayCome 17 = .ok (.lload_n 3, 1) := by decide +kernel
theorem dX11_mayCome_18 : decode cX11_mayCome 18 = .ok (.ldc2_w 91, 3) := by decide +kernel
theorem dX11_mayCome_21 : decode cX11_mayCome 21 = .ok (.invokestatic 84, 3) := by decide +kernel
theorem dX11_mayCome_24 : decode cX11_mayCome 24 = .ok (.ifCond .eq 19, 3) := by decide +kernel
theorem dX11_mayCome_27 : decode cX11_mayCome 27 = .ok (.lload 7, 2) := by decide +kernel
theorem dX11_mayCome_29 : decode cX11_mayCome 29 = .ok (.lconst 1, 1) := by decide +kernel
theorem dX11_mayCome_30 : decode cX11_mayCome 30 = .ok (.ldc2_w 104, 3) := by decide +kernel
theorem dX11_mayCome_33 : decode cX11_mayCome 33 = .ok (.invokestatic 84, 3) := by decide +kernel
theorem dX11_mayCome_36 : decode cX11_mayCome 36 = .ok (.ifCond .eq 7, 3) := by decide +kernel
theorem dX11_mayCome_39 : decode cX11_mayCome 39 = .ok (.iconst 1, 1) := by decide +kernel
theorem dX11_mayCome_40 : decode cX11_mayCome 40 = .ok (.goto 4, 3) := by decide +kernel
theorem dX11_mayCome_43 : decode cX11_mayCome 43 = .ok (.iconst 0, 1) := by decide +kernel
theorem dX11_mayCome_44 : decode cX11_mayCome 44 = .ok (.ireturn, 1) := by decide +kernel
def Mo_mayCome (S : St) (p1 : Int64) (p2 : Int64) (p3 : Int64) (p4 : Int64) : Option Int32 :=
  bd1 (Mo_isOne S p1) fun r1 =>
  if r1 = 0 then
    some (0 : Int32)
  else
    bd1 (Mo_isDay S p2) fun r2 =>
    if r2 = 0 then
      some (0 : Int32)
    else
      bd1 (Mo_within S p3 p2 (99 : Int64)) fun r3 =>
      if r3 = 0 then
        some (0 : Int32)
      else
        bd1 (Mo_within S p4 (1 : Int64) (9 : Int64)) fun r4 =>
        if r4 = 0 then
          some (0 : Int32)
        else
          some (1 : Int32)
section
variable {p : Program} {l : Launch} {e : Env} {s : State} {m : MethodId} {args : Array Value} {below : List Frame} {meth : Method} {c : Code} {H : Heap} {locs : List Loc} {E : Ev} {S V : St} {ls : Array Slot}
set_option maxRecDepth 20000 in
theorem w_Mo_mayCome {p1 : Int64} {p2 : Int64} {p3 : Int64} {p4 : Int64} {r : Int32} (C : Cx p s m args meth c E cX11_mayCome 9 RX11 (some .boolean)) (hw : Wd E (wM V E) s.heap S H locs) (hl : lv_has ls 9 [(0, .ref (ea E 44)), (1, .long p1), (3, .long p2), (5, .long p3), (7, .long p4)]) (hf : Mo_mayCome S p1 p2 p3 p4 = some r) : W p l e (rmh 3) s m args below meth c H locs 0 0 (MQ below (QW E (wM V E) (some (.int r)) S) args s 0 0 (eA E)) (F0 m 0 ls []) := by
  have hx := C.1
  have hb := C.2.1
  unfold Mo_mayCome at hf
  refine lv_aload_n hx hb dX11_mayCome_0 rfl (lv_at hl 0 rfl) ?_
  refine lv_lload_n hx hb dX11_mayCome_1 rfl (lv_at hl 1 rfl) ?_
  obtain ⟨r1, hr, hf⟩ := hf_1 hf
  refine inv_Vi (q0 := 44) (ci := 11) (As := [.long p1]) lk_X11_97 C hw rfl rfl rfl (t_Mo_isOne hr) rfl hl.1 dX11_mayCome_2 rfl (Nat.le_of_ble_eq_true rfl) (by decide) (Nat.le_of_ble_eq_true rfl) rfl (fun H locs hw => ?_)
  refine lv_if_eq (tgt := 43) hx hb dX11_mayCome_5 (by decide) (fun q => ?_) (fun q => ?_)
  · have hf := hf_t q hf
    refine lv_iconst (v := 0) hx hb dX11_mayCome_43 kc_0 ?_
    exact ret_z rfl C hw dX11_mayCome_44 hf
  · have hf := hf_f q hf
    refine lv_lload_n hx hb dX11_mayCome_8 rfl (lv_at hl 2 rfl) ?_
    obtain ⟨r2, hr, hf⟩ := hf_1 hf
    refine inv_Si (As := [.long p2]) lk_X11_101 C hw (t_Mo_isDay hr) hl.1 dX11_mayCome_9 rfl (Nat.le_of_ble_eq_true rfl) (by decide) (Nat.le_of_ble_eq_true rfl) rfl (fun H locs hw => ?_)
    refine lv_if_eq (tgt := 43) hx hb dX11_mayCome_12 (by decide) (fun q => ?_) (fun q => ?_)
    · have hf := hf_t q hf
      refine lv_iconst (v := 0) hx hb dX11_mayCome_43 kc_0 ?_
      exact ret_z rfl C hw dX11_mayCome_44 hf
    · have hf := hf_f q hf
      refine lv_lload hx hb dX11_mayCome_15 (lv_at hl 3 rfl) ?_
      refine lv_lload_n hx hb dX11_mayCome_17 rfl (lv_at hl 2 rfl) ?_
      refine lv_ldc2 (v := 99) hx hb C.2.2.2.1 (C.2.2.2.2.1 _ q_1293) dX11_mayCome_18 ?_
      obtain ⟨r3, hr, hf⟩ := hf_1 hf
      refine inv_Si (As := [.long p3, .long p2, .long (99 : Int64)]) lk_X11_84 C hw (t_Mo_within hr) hl.1 dX11_mayCome_21 rfl (Nat.le_of_ble_eq_true rfl) (by decide) (Nat.le_of_ble_eq_true rfl) rfl (fun H locs hw => ?_)
      refine lv_if_eq (tgt := 43) hx hb dX11_mayCome_24 (by decide) (fun q => ?_) (fun q => ?_)
      · have hf := hf_t q hf
        refine lv_iconst (v := 0) hx hb dX11_mayCome_43 kc_0 ?_
        exact ret_z rfl C hw dX11_mayCome_44 hf
      · have hf := hf_f q hf
        refine lv_lload hx hb dX11_mayCome_27 (lv_at hl 4 rfl) ?_
        refine lv_lconst (v := 1) hx hb dX11_mayCome_29 rfl ?_
        refine lv_ldc2 (v := 9) hx hb C.2.2.2.1 (C.2.2.2.2.1 _ q_1294) dX11_mayCome_30 ?_
        obtain ⟨r4, hr, hf⟩ := hf_1 hf
        refine inv_Si (As := [.long p4, .long (1 : Int64), .long (9 : Int64)]) lk_X11_84 C hw (t_Mo_within hr) hl.1 dX11_mayCome_33 rfl (Nat.le_of_ble_eq_true rfl) (by decide) (Nat.le_of_ble_eq_true rfl) rfl (fun H locs hw => ?_)
        refine lv_if_eq (tgt := 43) hx hb dX11_mayCome_36 (by decide) (fun q => ?_) (fun q => ?_)
        · have hf := hf_t q hf
          refine lv_iconst (v := 0) hx hb dX11_mayCome_43 kc_0 ?_
          exact ret_z rfl C hw dX11_mayCome_44 hf
        · have hf := hf_f q hf
          refine lv_iconst (v := 1) hx hb dX11_mayCome_39 kc_1 ?_
          refine lv_goto (tgt := 44) hx hb dX11_mayCome_40 (by decide) ?_
          exact ret_z rfl C hw dX11_mayCome_44 hf
end
theorem t_Mo_mayCome {l : Launch} {V : St} {S : St} {p1 : Int64} {p2 : Int64} {p3 : Int64} {p4 : Int64} {r : Int32} (hf : Mo_mayCome S p1 p2 p3 p4 = some r) : Ct l (wM V) yX11_mayCome cX11_mayCome 9 (some .boolean) 3 (fun E => [.ref (ea E 44), .long p1, .long p2, .long p3, .long p4]) S (fun E => some (.int r)) S :=
  ofBlock (by decide +kernel) (fun _ => Nat.le_of_ble_eq_true rfl) (fun E p e s m args below meth c ls C hw hl => w_Mo_mayCome C hw hl hf)
