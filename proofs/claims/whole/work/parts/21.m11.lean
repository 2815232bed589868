theorem dX10_judge_0 : decode cX10_judge 0 = .ok (.aload_n 0, 1) := by decide +kernel
theorem dX10_judge_1 : decode cX10_judge 1 = .ok (.getfield 26, 3) := by decide +kernel
theorem dX10_judge_4 : decode cX10_judge 4 = .ok (.iload_n 1, 1) := by decide +kernel
theorem dX10_judge_5 : decode cX10_judge 5 = .ok (.invokevirtual 107, 3) := by decide +kernel
theorem dX10_judge_8 : decode cX10_judge 8 = .ok (.ifCond .eq 14, 3) := by decide +kernel
theorem dX10_judge_11 : decode cX10_judge 11 = .ok (.aload_n 0, 1) := by decide +kernel
theorem dX10_judge_12 : decode cX10_judge 12 = .ok (.getfield 10, 3) := by decide +kernel
theorem dX10_judge_15 : decode cX10_judge 15 = .ok (.iload_n 2, 1) := by decide +kernel
theorem dX10_judge_16 : decode cX10_judge 16 = .ok (.invokevirtual 155, 3) := by decide +kernel
theorem dX10_judge_19 : decode cX10_judge 19 = .ok (.ifCond .ne 5, 3) := by decide +kernel
theorem dX10_judge_22 : decode cX10_judge 22 = .ok (.iconst (-1), 1) := by decide +kernel
theorem dX10_judge_23 : decode cX10_judge 23 = .ok (.ireturn, 1) := by decide +kernel
theorem dX10_judge_24 : decode cX10_judge 24 = .ok (.aload_n 0, 1) := by decide +kernel
theorem dX10_judge_25 : decode cX10_judge 25 = .ok (.getfield 26, 3) := by decide +kernel
theorem dX10_judge_28 : decode cX10_judge 28 = .ok (.iload_n 1, 1) := by decide +kernel
theorem dX10_judge_29 : decode cX10_judge 29 = .ok (.iconst 1, 1) := by decide +kernel
theorem dX10_judge_30 : decode cX10_judge 30 = .ok (.invokevirtual 111, 3) := by decide +kernel
theorem dX10_judge_33 : decode cX10_judge 33 = .ok (.istore_n 3, 1) := by decide +kernel
theorem dX10_judge_34 : decode cX10_judge 34 = .ok (.iload_n 3, 1) := by decide +kernel
theorem dX10_judge_35 : decode cX10_judge 35 = .ok (.ifCond .eq 7, 3) := by decide +kernel
theorem dX10_judge_38 : decode cX10_judge 38 = .ok (.iload_n 3, 1) := by decide +kernel
theorem dX10_judge_39 : decode cX10_judge 39 = .ok (.goto 12, 3) := by decide +kernel
theorem dX10_judge_42 : decode cX10_judge 42 = .ok (.aload_n 0, 1) := by decide +kernel
theorem dX10_judge_43 : decode cX10_judge 43 = .ok (.getfield 72, 3) := by decide +kernel
theorem dX10_judge_46 : decode cX10_judge 46 = .ok (.iload_n 1, 1) := by decide +kernel
theorem dX10_judge_47 : decode cX10_judge 47 = .ok (.iload_n 2, 1) := by decide +kernel
theorem dX10_judge_48 : decode cX10_judge 48 = .ok (.invokevirtual 245, 3) := by decide +kernel
theorem dX10_judge_51 : decode cX10_judge 51 = .ok (.ireturn, 1) := by decide +kernel
def Ch_judge (N : Nat) (S : St) (p1 : Int32) (p2 : Int32) : Option (Int32 × St) :=
  bd1 (Sh_isShelf S p1) fun r1 =>
  if r1 = 0 then
    some ((-1 : Int32), S)
  else
    bd1 (Sm_isOne S p2) fun r2 =>
    if r2 = 0 then
      some ((-1 : Int32), S)
    else
      bd1 (Sh_refusalOfRow S p1 (1 : Int32)) fun r3 =>
      if r3 = 0 then
        bd2 (Cr_firstWrongDay N S p1 p2) fun r5 S4 =>
        some (r5, S4)
      else
        some (r3, S)
section
variable {p : Program} {l : Launch} {e : Env} {s : State} {m : MethodId} {args : Array Value} {below : List Frame} {meth : Method} {c : Code} {H : Heap} {locs : List Loc} {E : Ev} {S V : St} {ls : Array Slot}
set_option maxRecDepth 20000 in
theorem w_Ch_judge {N : Nat} {p1 : Int32} {p2 : Int32} {r : Int32} {S9 : St} (C : Cx p s m args meth c E cX10_judge 4 RX10 (some .int)) (hw : Wd E (wX V E) s.heap S H locs) (hl : lv_has ls 4 [(0, .ref (ea E 0)), (1, .int p1), (2, .int p2)]) (hf : Ch_judge N S p1 p2 = some (r, S9)) : W p l e (rmh 7) s m args below meth c H locs 0 0 (MQ below (QW E (wX V E) (some (.int r)) S9) args s 0 0 (eA E)) (F0 m 0 ls []) := by
  have hx := C.1
  have hb := C.2.1
  unfold Ch_judge at hf
  refine lv_aload_n hx hb dX10_judge_0 rfl (lv_at hl 0 rfl) ?_
  refine get_0_9 C hw q_383 dX10_judge_1 ?_
  refine lv_iload_n hx hb dX10_judge_4 rfl (lv_at hl 1 rfl) ?_
  obtain ⟨r1, hr, hf⟩ := hf_1 hf
  refine inv_Vi (q0 := 10) (ci := 7) (As := [.int p1]) lk_X10_107 C hw rfl rfl rfl (t_Sh_isShelf hr) rfl hl.1 dX10_judge_5 rfl (Nat.le_of_ble_eq_true rfl) (by decide) (Nat.le_of_ble_eq_true rfl) rfl (fun H locs hw => ?_)
  refine lv_if_eq (tgt := 22) hx hb dX10_judge_8 (by decide) (fun q => ?_) (fun q => ?_)
  · have hf := hf_t q hf
    refine lv_iconst (v := -1) hx hb dX10_judge_22 kc_m1 ?_
    exact ret_iS C hw dX10_judge_23 hf
  · have hf := hf_f q hf
    refine lv_aload_n hx hb dX10_judge_11 rfl (lv_at hl 0 rfl) ?_
    refine get_0_0 C hw q_374 dX10_judge_12 ?_
    refine lv_iload_n hx hb dX10_judge_15 rfl (lv_at hl 2 rfl) ?_
    obtain ⟨r2, hr, hf⟩ := hf_1 hf
    refine inv_Vi (q0 := 1) (ci := 8) (As := [.int p2]) lk_X10_155 C hw rfl rfl rfl (t_Sm_isOne hr) rfl hl.1 dX10_judge_16 rfl (Nat.le_of_ble_eq_true rfl) (by decide) (Nat.le_of_ble_eq_true rfl) rfl (fun H locs hw => ?_)
    refine lv_if_ne (tgt := 24) hx hb dX10_judge_19 (by decide) (fun q => ?_) (fun q => ?_)
    · have hf := hf_f q hf
      refine lv_aload_n hx hb dX10_judge_24 rfl (lv_at hl 0 rfl) ?_
      refine get_0_9 C hw q_383 dX10_judge_25 ?_
      refine lv_iload_n hx hb dX10_judge_28 rfl (lv_at hl 1 rfl) ?_
      refine lv_iconst (v := 1) hx hb dX10_judge_29 kc_1 ?_
      obtain ⟨r3, hr, hf⟩ := hf_1 hf
      refine inv_Vi (q0 := 10) (ci := 7) (As := [.int p1, .int (1 : Int32)]) lk_X10_111 C hw rfl rfl rfl (t_Sh_refusalOfRow hr) rfl hl.1 dX10_judge_30 rfl (Nat.le_of_ble_eq_true rfl) (by decide) (Nat.le_of_ble_eq_true rfl) rfl (fun H locs hw => ?_)
      refine lv_istore_n (lv' := [(3, .int r3), (0, .ref (ea E 0)), (1, .int p1), (2, .int p2)]) hx hb dX10_judge_33 rfl hl (by decide) rfl (fun ls hl => ?_)
      refine lv_iload_n hx hb dX10_judge_34 rfl (lv_at hl 0 rfl) ?_
      refine lv_if_eq (tgt := 42) hx hb dX10_judge_35 (by decide) (fun q => ?_) (fun q => ?_)
      · have hf := hf_t q hf
        refine lv_aload_n hx hb dX10_judge_42 rfl (lv_at hl 1 rfl) ?_
        refine get_0_5 C hw q_379 dX10_judge_43 ?_
        refine lv_iload_n hx hb dX10_judge_46 rfl (lv_at hl 2 rfl) ?_
        refine lv_iload_n hx hb dX10_judge_47 rfl (lv_at hl 3 rfl) ?_
        obtain ⟨r5, S4, hr, hf⟩ := hf_2 hf
        refine inv_Vi (q0 := 6) (ci := 1) (As := [.int p1, .int p2]) lk_X10_245 C hw rfl rfl rfl (t_Cr_firstWrongDay hr) rfl hl.1 dX10_judge_48 rfl (Nat.le_of_ble_eq_true rfl) (by decide) (Nat.le_of_ble_eq_true rfl) rfl (fun H locs hw => ?_)
        exact ret_iS C hw dX10_judge_51 hf
      · have hf := hf_f q hf
        refine lv_iload_n hx hb dX10_judge_38 rfl (lv_at hl 0 rfl) ?_
        refine lv_goto (tgt := 51) hx hb dX10_judge_39 (by decide) ?_
        exact ret_iS C hw dX10_judge_51 hf
    · have hf := hf_t q hf
      refine lv_iconst (v := -1) hx hb dX10_judge_22 kc_m1 ?_
      exact ret_iS C hw dX10_judge_23 hf
end
theorem t_Ch_judge {l : Launch} {V : St} {N : Nat} {S : St} {p1 : Int32} {p2 : Int32} {r : Int32} {S9 : St} (hf : Ch_judge N S p1 p2 = some (r, S9)) : Ct l (wX V) yX10_judge cX10_judge 4 (some .int) 7 (fun E => [.ref (ea E 0), .int p1, .int p2]) S (fun E => some (.int r)) S9 :=
  ofBlock (by decide +kernel) (fun _ => Nat.le_of_ble_eq_true rfl) (fun E p e s m args below meth c ls C hw hl => w_Ch_judge C hw hl hf)
theorem dX10_keptOn_0 : decode cX10_keptOn 0 = .ok (.aload_n 0, 1) := by decide +kernel
theorem dX10_keptOn_1 : decode cX10_keptOn 1 = .ok (.getfield 26, 3) := by decide +kernel
theorem dX10_keptOn_4 : decode cX10_keptOn 4 = .ok (.iload_n 1, 1) := by decide +kernel
theorem dX10_keptOn_5 : decode cX10_keptOn 5 = .ok (.invokevirtual 107, 3) := by decide +kernel
theorem dX10_keptOn_8 : decode cX10_keptOn 8 = .ok (.ifCond .eq 45, 3) := by decide +kernel
theorem dX10_keptOn_11 : decode cX10_keptOn 11 = .ok (.aload_n 0, 1) := by decide +kernel
theorem dX10_keptOn_12 : decode cX10_keptOn 12 = .ok (.getfield 10, 3) := by decide +kernel
theorem dX10_keptOn_15 : decode cX10_keptOn 15 = .ok (.iload_n 2, 1) := by decide +kernel
theorem dX10_keptOn_16 : decode cX10_keptOn 16 = .ok (.invokevirtual 173, 3) := by decide +kernel
theorem dX10_keptOn_19 : decode cX10_keptOn 19 = .ok (.ifCond .eq 34, 3) := by decide +kernel
theorem dX10_keptOn_22 : decode cX10_keptOn 22 = .ok (.aload_n 0, 1) := by decide +kernel
theorem dX10_keptOn_23 : decode cX10_keptOn 23 = .ok (.getfield 10, 3) := by decide +kernel
theorem dX10_keptOn_26 : decode cX10_keptOn 26 = .ok (.iload_n 3, 1) := by decide +kernel
theorem dX10_keptOn_27 : decode cX10_keptOn 27 = .ok (.invokevirtual 155, 3) := by decide +kernel
theorem dX10_keptOn_30 : decode cX10_keptOn 30 = .ok (.ifCond .eq 23, 3) := by decide +kernel
theorem dX10_keptOn_33 : decode cX10_keptOn 33 = .ok (.iload 4, 2) := by decide +kernel
theorem dX10_keptOn_35 : decode cX10_keptOn 35 = .ok (.invokestatic 185, 3) := by decide +kernel
theorem dX10_keptOn_38 : decode cX10_keptOn 38 = .ok (.ifCond .eq 15, 3) := by decide +kernel
theorem dX10_keptOn_41 : decode cX10_keptOn 41 = .ok (.aload_n 0, 1) := by decide +kernel
theorem dX10_keptOn_42 : decode cX10_keptOn 42 = .ok (.getfield 26, 3) := by decide +kernel
theorem dX10_keptOn_45 : decode cX10_keptOn 45 = .ok (.iload_n 1, 1) := by decide +kernel
theorem dX10_keptOn_46 : decode cX10_keptOn 46 = .ok (.iconst 1, 1) := by decide +kernel
theorem dX10_keptOn_47 : decode cX10_keptOn 47 = .ok (.invokevirtual 111, 3) := by decide +kernel
theorem dX10_keptOn_50 : decode cX10_keptOn 50 = .ok (.ifCond .eq 6, 3) := by decide +kernel
theorem dX10_keptOn_53 : decode cX10_keptOn 53 = .ok (.ldc 132, 2) := by decide +kernel
theorem dX10_keptOn_55 : decode cX10_keptOn 55 = .ok (.ireturn, 1) := by decide +kernel
theorem dX10_keptOn_56 : decode cX10_keptOn 56 = .ok (.aload_n 0, 1) := by decide +kernel
theorem dX10_keptOn_57 : decode cX10_keptOn 57 = .ok (.getfield 72, 3) := by decide +kernel
theorem dX10_keptOn_60 : decode cX10_keptOn 60 = .ok (.iload_n 1, 1) := by decide +kernel
theorem dX10_keptOn_61 : decode cX10_keptOn 61 = .ok (.iload_n 2, 1) := by decide +kernel
theorem dX10_keptOn_62 : decode cX10_keptOn 62 = .ok (.iload_n 3, 1) := by decide +kernel
theorem dX10_keptOn_63 : decode cX10_keptOn 63 = .ok (.invokevirtual 248, 3) := by decide +kernel
theorem dX10_keptOn_66 : decode cX10_keptOn 66 = .ok (.iload 4, 2) := by decide +kernel
theorem dX10_keptOn_68 : decode cX10_keptOn 68 = .ok (.ifCond .ne 14, 3) := by decide +kernel
theorem dX10_keptOn_71 : decode cX10_keptOn 71 = .ok (.aload_n 0, 1) := by decide +kernel
theorem dX10_keptOn_72 : decode cX10_keptOn 72 = .ok (.getfield 72, 3) := by decide +kernel
theorem dX10_keptOn_75 : decode cX10_keptOn 75 = .ok (.iload_n 1, 1) := by decide +kernel
theorem dX10_keptOn_76 : decode cX10_keptOn 76 = .ok (.invokevirtual 251, 3) := by decide +kernel
theorem dX10_keptOn_79 : decode cX10_keptOn 79 = .ok (.goto 11, 3) := by decide +kernel
theorem dX10_keptOn_82 : decode cX10_keptOn 82 = .ok (.aload_n 0, 1) := by decide +kernel
theorem dX10_keptOn_83 : decode cX10_keptOn 83 = .ok (.getfield 72, 3) := by decide +kernel
theorem dX10_keptOn_86 : decode cX10_keptOn 86 = .ok (.iload_n 1, 1) := by decide +kernel
theorem dX10_keptOn_87 : decode cX10_keptOn 87 = .ok (.invokevirtual 254, 3) := by decide +kernel
theorem dX10_keptOn_90 : decode cX10_keptOn 90 = .ok (.ireturn, 1) := by decide +kernel
def Ch_keptOn (N : Nat) (S : St) (p1 : Int32) (p2 : Int32) (p3 : Int32) (p4 : Int32) : Option (Int32 × St) :=
  bd1 (Sh_isShelf S p1) fun r1 =>
  if r1 = 0 then
    some ((-2000000000 : Int32), S)
  else
    bd1 (Sm_isPromise S p2) fun r2 =>
    if r2 = 0 then
      some ((-2000000000 : Int32), S)
    else
      bd1 (Sm_isOne S p3) fun r3 =>
      if r3 = 0 then
        some ((-2000000000 : Int32), S)
      else
        bd1 (Ch_isEither S p4) fun r4 =>
        if r4 = 0 then
          some ((-2000000000 : Int32), S)
        else
          bd1 (Sh_refusalOfRow S p1 (1 : Int32)) fun r5 =>
          if r5 = 0 then
            bd1 (Cr_compareOpenAndKept N S p1 p2 p3) fun S6 =>
            if p4 = 0 then
              bd1 (Cr_howManyKepts N S6 p1) fun r8 =>
              some (r8, S6)
            else
              bd1 (Cr_leastKept N S6 p1) fun r7 =>
              some (r7, S6)
          else
            some ((-2000000000 : Int32), S)
section
variable {p : Program} {l : Launch} {e : Env} {s : State} {m : MethodId} {args : Array Value} {below : List Frame} {meth : Method} {c : Code} {H : Heap} {locs : List Loc} {E : Ev} {S V : St} {ls : Array Slot}
set_option maxRecDepth 20000 in
theorem w_Ch_keptOn {N : Nat} {p1 : Int32} {p2 : Int32} {p3 : Int32} {p4 : Int32} {r : Int32} {S9 : St} (C : Cx p s m args meth c E cX10_keptOn 5 RX10 (some .int)) (hw : Wd E (wX V E) s.heap S H locs) (hl : lv_has ls 5 [(0, .ref (ea E 0)), (1, .int p1), (2, .int p2), (3, .int p3), (4, .int p4)]) (hf : Ch_keptOn N S p1 p2 p3 p4 = some (r, S9)) : W p l e (rmh 7) s m args below meth c H locs 0 0 (MQ below (QW E (wX V E) (some (.int r)) S9) args s 0 0 (eA E)) (F0 m 0 ls []) := by
  have hx := C.1
  have hb := C.2.1
  unfold Ch_keptOn at hf
  refine lv_aload_n hx hb dX10_keptOn_0 rfl (lv_at hl 0 rfl) ?_
  refine get_0_9 C hw q_383 dX10_keptOn_1 ?_
  refine lv_iload_n hx hb dX10_keptOn_4 rfl (lv_at hl 1 rfl) ?_
  obtain ⟨r1, hr, hf⟩ := hf_1 hf
  refine inv_Vi (q0 := 10) (ci := 7) (As := [.int p1]) lk_X10_107 C hw rfl rfl rfl (t_Sh_isShelf hr) rfl hl.1 dX10_keptOn_5 rfl (Nat.le_of_ble_eq_true rfl) (by decide) (Nat.le_of_ble_eq_true rfl) rfl (fun H locs hw => ?_)
  refine lv_if_eq (tgt := 53) hx hb dX10_keptOn_8 (by decide) (fun q => ?_) (fun q => ?_)
  · have hf := hf_t q hf
    refine lv_ldc (v := -2000000000) hx hb C.2.2.2.1 (C.2.2.2.2.1 _ q_480) dX10_keptOn_53 ?_
    exact ret_iS C hw dX10_keptOn_55 hf
  · have hf := hf_f q hf
    refine lv_aload_n hx hb dX10_keptOn_11 rfl (lv_at hl 0 rfl) ?_
    refine get_0_0 C hw q_374 dX10_keptOn_12 ?_
    refine lv_iload_n hx hb dX10_keptOn_15 rfl (lv_at hl 2 rfl) ?_
    obtain ⟨r2, hr, hf⟩ := hf_1 hf
    refine inv_Vi (q0 := 1) (ci := 8) (As := [.int p2]) lk_X10_173 C hw rfl rfl rfl (t_Sm_isPromise hr) rfl hl.1 dX10_keptOn_16 rfl (Nat.le_of_ble_eq_true rfl) (by decide) (Nat.le_of_ble_eq_true rfl) rfl (fun H locs hw => ?_)
    refine lv_if_eq (tgt := 53) hx hb dX10_keptOn_19 (by decide) (fun q => ?_) (fun q => ?_)
    · have hf := hf_t q hf
      refine lv_ldc (v := -2000000000) hx hb C.2.2.2.1 (C.2.2.2.2.1 _ q_480) dX10_keptOn_53 ?_
      exact ret_iS C hw dX10_keptOn_55 hf
    · have hf := hf_f q hf
      refine lv_aload_n hx hb dX10_keptOn_22 rfl (lv_at hl 0 rfl) ?_
      refine get_0_0 C hw q_374 dX10_keptOn_23 ?_
      refine lv_iload_n hx hb dX10_keptOn_26 rfl (lv_at hl 3 rfl) ?_
      obtain ⟨r3, hr, hf⟩ := hf_1 hf
      refine inv_Vi (q0 := 1) (ci := 8) (As := [.int p3]) lk_X10_155 C hw rfl rfl rfl (t_Sm_isOne hr) rfl hl.1 dX10_keptOn_27 rfl (Nat.le_of_ble_eq_true rfl) (by decide) (Nat.le_of_ble_eq_true rfl) rfl (fun H locs hw => ?_)
      refine lv_if_eq (tgt := 53) hx hb dX10_keptOn_30 (by decide) (fun q => ?_) (fun q => ?_)
      · have hf := hf_t q hf
        refine lv_ldc (v := -2000000000) hx hb C.2.2.2.1 (C.2.2.2.2.1 _ q_480) dX10_keptOn_53 ?_
        exact ret_iS C hw dX10_keptOn_55 hf
      · have hf := hf_f q hf
        refine lv_iload hx hb dX10_keptOn_33 (lv_at hl 4 rfl) ?_
        obtain ⟨r4, hr, hf⟩ := hf_1 hf
        refine inv_Si (As := [.int p4]) lk_X10_185 C hw (t_Ch_isEither hr) hl.1 dX10_keptOn_35 rfl (Nat.le_of_ble_eq_true rfl) (by decide) (Nat.le_of_ble_eq_true rfl) rfl (fun H locs hw => ?_)
        refine lv_if_eq (tgt := 53) hx hb dX10_keptOn_38 (by decide) (fun q => ?_) (fun q => ?_)
        · have hf := hf_t q hf
          refine lv_ldc (v := -2000000000) hx hb C.2.2.2.1 (C.2.2.2.2.1 _ q_480) dX10_keptOn_53 ?_
          exact ret_iS C hw dX10_keptOn_55 hf
        · have hf := hf_f q hf
          refine lv_aload_n hx hb dX10_keptOn_41 rfl (lv_at hl 0 rfl) ?_
          refine get_0_9 C hw q_383 dX10_keptOn_42 ?_
          refine lv_iload_n hx hb dX10_keptOn_45 rfl (lv_at hl 1 rfl) ?_
          refine lv_iconst (v := 1) hx hb dX10_keptOn_46 kc_1 ?_
          obtain ⟨r5, hr, hf⟩ := hf_1 hf
          refine inv_Vi (q0 := 10) (ci := 7) (As := [.int p1, .int (1 : Int32)]) lk_X10_111 C hw rfl rfl rfl (t_Sh_refusalOfRow hr) rfl hl.1 dX10_keptOn_47 rfl (Nat.le_of_ble_eq_true rfl) (by decide) (Nat.le_of_ble_eq_true rfl) rfl (fun H locs hw => ?_)
          refine lv_if_eq (tgt := 56) hx hb dX10_keptOn_50 (by decide) (fun q => ?_) (fun q => ?_)
          · have hf := hf_t q hf
            refine lv_aload_n hx hb dX10_keptOn_56 rfl (lv_at hl 0 rfl) ?_
            refine get_0_5 C hw q_379 dX10_keptOn_57 ?_
            refine lv_iload_n hx hb dX10_keptOn_60 rfl (lv_at hl 1 rfl) ?_
            refine lv_iload_n hx hb dX10_keptOn_61 rfl (lv_at hl 2 rfl) ?_
            refine lv_iload_n hx hb dX10_keptOn_62 rfl (lv_at hl 3 rfl) ?_
            obtain ⟨S6, hr, hf⟩ := hf_1 hf
            refine inv_Vv (q0 := 6) (ci := 1) (As := [.int p1, .int p2, .int p3]) lk_X10_248 C hw rfl rfl rfl (t_Cr_compareOpenAndKept hr) rfl hl.1 dX10_keptOn_63 rfl (Nat.le_of_ble_eq_true rfl) (by decide) (Nat.le_of_ble_eq_true rfl) rfl (fun H locs hw => ?_)
            refine lv_iload hx hb dX10_keptOn_66 (lv_at hl 4 rfl) ?_
            refine lv_if_ne (tgt := 82) hx hb dX10_keptOn_68 (by decide) (fun q => ?_) (fun q => ?_)
            · have hf := hf_f q hf
              refine lv_aload_n hx hb dX10_keptOn_82 rfl (lv_at hl 0 rfl) ?_
              refine get_0_5 C hw q_379 dX10_keptOn_83 ?_
              refine lv_iload_n hx hb dX10_keptOn_86 rfl (lv_at hl 1 rfl) ?_
              obtain ⟨r7, hr, hf⟩ := hf_1 hf
              refine inv_Vi (q0 := 6) (ci := 1) (As := [.int p1]) lk_X10_254 C hw rfl rfl rfl (t_Cr_leastKept hr) rfl hl.1 dX10_keptOn_87 rfl (Nat.le_of_ble_eq_true rfl) (by decide) (Nat.le_of_ble_eq_true rfl) rfl (fun H locs hw => ?_)
              exact ret_iS C hw dX10_keptOn_90 hf
            · have hf := hf_t q hf
              refine lv_aload_n hx hb dX10_keptOn_71 rfl (lv_at hl 0 rfl) ?_
              refine get_0_5 C hw q_379 dX10_keptOn_72 ?_
              refine lv_iload_n hx hb dX10_keptOn_75 rfl (lv_at hl 1 rfl) ?_
              obtain ⟨r8, hr, hf⟩ := hf_1 hf
              refine inv_Vi (q0 := 6) (ci := 1) (As := [.int p1]) lk_X10_251 C hw rfl rfl rfl (t_Cr_howManyKepts hr) rfl hl.1 dX10_keptOn_76 rfl (Nat.le_of_ble_eq_true rfl) (by decide) (Nat.le_of_ble_eq_true rfl) rfl (fun H locs hw => ?_)
              refine lv_goto (tgt := 90) hx hb dX10_keptOn_79 (by decide) ?_
              exact ret_iS C hw dX10_keptOn_90 hf
          · have hf := hf_f q hf
            refine lv_ldc (v := -2000000000) hx hb C.2.2.2.1 (C.2.2.2.2.1 _ q_480) dX10_keptOn_53 ?_
            exact ret_iS C hw dX10_keptOn_55 hf
end
theorem t_Ch_keptOn {l : Launch} {V : St} {N : Nat} {S : St} {p1 : Int32} {p2 : Int32} {p3 : Int32} {p4 : Int32} {r : Int32} {S9 : St} (hf : Ch_keptOn N S p1 p2 p3 p4 = some (r, S9)) : Ct l (wX V) yX10_keptOn cX10_keptOn 5 (some .int) 7 (fun E => [.ref (ea E 0), .int p1, .int p2, .int p3, .int p4]) S (fun E => some (.int r)) S9 :=
  ofBlock (by decide +kernel) (fun _ => Nat.le_of_ble_eq_true rfl) (fun E p e s m args below meth c ls C hw hl => w_Ch_keptOn C hw hl hf)
theorem dX10_whose_0 : decode cX10_whose 0 = .ok (.aload_n 0, 1) := by decide +kernel
theorem dX10_whose_1 : decode cX10_whose 1 = .ok (.getfield 26, 3) := by decide +kernel
theorem dX10_whose_4 : decode cX10_whose 4 = .ok (.iload_n 1, 1) := by decide +kernel
theorem dX10_whose_5 : decode cX10_whose 5 = .ok (.invokevirtual 107, 3) := by decide +kernel
theorem dX10_whose_8 : decode cX10_whose 8 = .ok (.ifCond .ne 5, 3) := by decide +kernel
theorem dX10_whose_11 : decode cX10_whose 11 = .ok (.iconst (-1), 1) := by decide +kernel
theorem dX10_whose_12 : decode cX10_whose 12 = .ok (.ireturn, 1) := by decide +kernel
theorem dX10_whose_13 : decode cX10_whose 13 = .ok (.aload_n 0, 1) := by decide +kernel
theorem dX10_whose_14 : decode cX10_whose 14 = .ok (.getfield 26, 3) := by decide +kernel
theorem dX10_whose_17 : decode cX10_whose 17 = .ok (.iload_n 1, 1) := by decide +kernel
theorem dX10_whose_18 : decode cX10_whose 18 = .ok (.iconst 1, 1) := by decide +kernel
theorem dX10_whose_19 : decode cX10_whose 19 = .ok (.invokevirtual 111, 3) := by decide +kernel
theorem dX10_whose_22 : decode cX10_whose 22 = .ok (.istore_n 2, 1) := by decide +kernel
theorem dX10_whose_23 : decode cX10_whose 23 = .ok (.iload_n 2, 1) := by decide +kernel
theorem dX10_whose_24 : decode cX10_whose 24 = .ok (.ifCond .eq 7, 3) := by decide +kernel
theorem dX10_whose_27 : decode cX10_whose 27 = .ok (.iload_n 2, 1) := by decide +kernel
theorem dX10_whose_28 : decode cX10_whose 28 = .ok (.goto 11, 3) := by decide +kernel
theorem dX10_whose_31 : decode cX10_whose 31 = .ok (.aload_n 0, 1) := by decide +kernel
theorem dX10_whose_32 : decode cX10_whose 32 = .ok (.getfield 72, 3) := by decide +kernel
theorem dX10_whose_35 : decode cX10_whose 35 = .ok (.iload_n 1, 1) := by decide +kernel
theorem dX10_whose_36 : decode cX10_whose 36 = .ok (.invokevirtual 257, 3) := by decide +kernel
theorem dX10_whose_39 : decode cX10_whose 39 = .ok (.ireturn, 1) := by decide +kernel
def Ch_whose (N : Nat) (S : St) (p1 : Int32) : Option (Int32 × St) :=
  bd1 (Sh_isShelf S p1) fun r1 =>
  if r1 = 0 then
    some ((-1 : Int32), S)
  else
    bd1 (Sh_refusalOfRow S p1 (1 : Int32)) fun r2 =>
    if r2 = 0 then
      bd2 (Cr_ownersOf N S p1) fun r4 S3 =>
      some (r4, S3)
    else
      some (r2, S)
section
variable {p : Program} {l : Launch} {e : Env} {s : State} {m : MethodId} {args : Array Value} {below : List Frame} {meth : Method} {c : Code} {H : Heap} {locs : List Loc} {E : Ev} {S V : St} {ls : Array Slot}
set_option maxRecDepth 20000 in
theorem w_Ch_whose {N : Nat} {p1 : Int32} {r : Int32} {S9 : St} (C : Cx p s m args meth c E cX10_whose 3 RX10 (some .int)) (hw : Wd E (wX V E) s.heap S H locs) (hl : lv_has ls 3 [(0, .ref (ea E 0)), (1, .int p1)]) (hf : Ch_whose N S p1 = some (r, S9)) : W p l e (rmh 8) s m args below meth c H locs 0 0 (MQ below (QW E (wX V E) (some (.int r)) S9) args s 0 0 (eA E)) (F0 m 0 ls []) := by
  have hx := C.1
  have hb := C.2.1
  unfold Ch_whose at hf
  refine lv_aload_n hx hb dX10_whose_0 rfl (lv_at hl 0 rfl) ?_
  refine get_0_9 C hw q_383 dX10_whose_1 ?_
  refine lv_iload_n hx hb dX10_whose_4 rfl (lv_at hl 1 rfl) ?_
  obtain ⟨r1, hr, hf⟩ := hf_1 hf
  refine inv_Vi (q0 := 10) (ci := 7) (As := [.int p1]) lk_X10_107 C hw rfl rfl rfl (t_Sh_isShelf hr) rfl hl.1 dX10_whose_5 rfl (Nat.le_of_ble_eq_true rfl) (by decide) (Nat.le_of_ble_eq_true rfl) rfl (fun H locs hw => ?_)
  refine lv_if_ne (tgt := 13) hx hb dX10_whose_8 (by decide) (fun q => ?_) (fun q => ?_)
  · have hf := hf_f q hf
    refine lv_aload_n hx hb dX10_whose_13 rfl (lv_at hl 0 rfl) ?_
    refine get_0_9 C hw q_383 dX10_whose_14 ?_
    refine lv_iload_n hx hb dX10_whose_17 rfl (lv_at hl 1 rfl) ?_
    refine lv_iconst (v := 1) hx hb dX10_whose_18 kc_1 ?_
    obtain ⟨r2, hr, hf⟩ := hf_1 hf
    refine inv_Vi (q0 := 10) (ci := 7) (As := [.int p1, .int (1 : Int32)]) lk_X10_111 C hw rfl rfl rfl (t_Sh_refusalOfRow hr) rfl hl.1 dX10_whose_19 rfl (Nat.le_of_ble_eq_true rfl) (by decide) (Nat.le_of_ble_eq_true rfl) rfl (fun H locs hw => ?_)
    refine lv_istore_n (lv' := [(2, .int r2), (0, .ref (ea E 0)), (1, .int p1)]) hx hb dX10_whose_22 rfl hl (by decide) rfl (fun ls hl => ?_)
    refine lv_iload_n hx hb dX10_whose_23 rfl (lv_at hl 0 rfl) ?_
    refine lv_if_eq (tgt := 31) hx hb dX10_whose_24 (by decide) (fun q => ?_) (fun q => ?_)
    · have hf := hf_t q hf
      refine lv_aload_n hx hb dX10_whose_31 rfl (lv_at hl 1 rfl) ?_
      refine get_0_5 C hw q_379 dX10_whose_32 ?_
      refine lv_iload_n hx hb dX10_whose_35 rfl (lv_at hl 2 rfl) ?_
      obtain ⟨r4, S3, hr, hf⟩ := hf_2 hf
      refine inv_Vi (q0 := 6) (ci := 1) (As := [.int p1]) lk_X10_257 C hw rfl rfl rfl (t_Cr_ownersOf hr) rfl hl.1 dX10_whose_36 rfl (Nat.le_of_ble_eq_true rfl) (by decide) (Nat.le_of_ble_eq_true rfl) rfl (fun H locs hw => ?_)
      exact ret_iS C hw dX10_whose_39 hf
    · have hf := hf_f q hf
      refine lv_iload_n hx hb dX10_whose_27 rfl (lv_at hl 0 rfl) ?_
      refine lv_goto (tgt := 39) hx hb dX10_whose_28 (by decide) ?_
      exact ret_iS C hw dX10_whose_39 hf
  · have hf := hf_t q hf
    refine lv_iconst (v := -1) hx hb dX10_whose_11 kc_m1 ?_
    exact ret_iS C hw dX10_whose_12 hf
end
theorem t_Ch_whose {l : Launch} {V : St} {N : Nat} {S : St} {p1 : Int32} {r : Int32} {S9 : St} (hf : Ch_whose N S p1 = some (r, S9)) : Ct l (wX V) yX10_whose cX10_whose 3 (some .int) 8 (fun E => [.ref (ea E 0), .int p1]) S (fun E => some (.int r)) S9 :=
  ofBlock (by decide +kernel) (fun _ => Nat.le_of_ble_eq_true rfl) (fun E p e s m args below meth c ls C hw hl => w_Ch_whose C hw hl hf)
theorem dX10_byTurns_0 : decode cX10_byTurns 0 = .ok (.iload_n 2, 1) := by decide +kernel
theorem dX10_byTurns_1 : decode cX10_byTurns 1 = .ok (.bipush 10, 2) := by decide +kernel
theorem dX10_byTurns_3 : decode cX10_byTurns 3 = .ok (.idiv, 1) := by decide +kernel
theorem dX10_byTurns_4 : decode cX10_byTurns 4 = .ok (.istore 4, 2) := by decide +kernel
theorem dX10_byTurns_6 : decode cX10_byTurns 6 = .ok (.iload_n 2, 1) := by decide +kernel
theorem dX10_byTurns_7 : decode cX10_byTurns 7 = .ok (.bipush 10, 2) := by decide +kernel
theorem dX10_byTurns_9 : decode cX10_byTurns 9 = .ok (.irem, 1) := by decide +kernel
theorem dX10_byTurns_10 : decode cX10_byTurns 10 = .ok (.istore 5, 2) := by decide +kernel
theorem dX10_byTurns_12 : decode cX10_byTurns 12 = .ok (.aload_n 0, 1) := by decide +kernel
theorem dX10_byTurns_13 : decode cX10_byTurns 13 = .ok (.getfield 10, 3) := by decide +kernel
theorem dX10_byTurns_16 : decode cX10_byTurns 16 = .ok (.iload_n 1, 1) := by decide +kernel
theorem dX10_byTurns_17 : decode cX10_byTurns 17 = .ok (.invokevirtual 155, 3) := by decide +kernel
theorem dX10_byTurns_20 : decode cX10_byTurns 20 = .ok (.ifCond .eq 29, 3) := by decide +kernel
theorem dX10_byTurns_23 : decode cX10_byTurns 23 = .ok (.iload 4, 2) := by decide +kernel
theorem dX10_byTurns_25 : decode cX10_byTurns 25 = .ok (.invokestatic 158, 3) := by decide +kernel
theorem dX10_byTurns_28 : decode cX10_byTurns 28 = .ok (.ifCond .eq 21, 3) := by decide +kernel
theorem dX10_byTurns_31 : decode cX10_byTurns 31 = .ok (.iload 5, 2) := by decide +kernel
theorem dX10_byTurns_33 : decode cX10_byTurns 33 = .ok (.iconst 1, 1) := by decide +kernel
theorem dX10_byTurns_34 : decode cX10_byTurns 34 = .ok (.bipush 6, 2) := by decide +kernel
theorem dX10_byTurns_36 : decode cX10_byTurns 36 = .ok (.invokestatic 83, 3) := by decide +kernel
theorem dX10_byTurns_39 : decode cX10_byTurns 39 = .ok (.ifCond .eq 10, 3) := by decide +kernel
theorem dX10_byTurns_42 : decode cX10_byTurns 42 = .ok (.iload_n 3, 1) := by decide +kernel
theorem dX10_byTurns_43 : decode cX10_byTurns 43 = .ok (.invokestatic 185, 3) := by decide +kernel
theorem dX10_byTurns_46 : decode cX10_byTurns 46 = .ok (.ifCond .ne 5, 3) := by decide +kernel
theorem dX10_byTurns_49 : decode cX10_byTurns 49 = .ok (.iconst (-1), 1) := by decide +kernel
theorem dX10_byTurns_50 : decode cX10_byTurns 50 = .ok (.ireturn, 1) := by decide +kernel
theorem dX10_byTurns_51 : decode cX10_byTurns 51 = .ok (.iload_n 3, 1) := by decide +kernel
theorem dX10_byTurns_52 : decode cX10_byTurns 52 = .ok (.iconst 1, 1) := by decide +kernel
theorem dX10_byTurns_53 : decode cX10_byTurns 53 = .ok (.if_icmp .ne 16, 3) := by decide +kernel
theorem dX10_byTurns_56 : decode cX10_byTurns 56 = .ok (.aload_n 0, 1) := by decide +kernel
theorem dX10_byTurns_57 : decode cX10_byTurns 57 = .ok (.getfield 56, 3) := by decide +kernel
theorem dX10_byTurns_60 : decode cX10_byTurns 60 = .ok (.iload_n 1, 1) := by decide +kernel
theorem dX10_byTurns_61 : decode cX10_byTurns 61 = .ok (.iload 4, 2) := by decide +kernel
theorem dX10_byTurns_63 : decode cX10_byTurns 63 = .ok (.iload 5, 2) := by decide +kernel
theorem dX10_byTurns_65 : decode cX10_byTurns 65 = .ok (.invokevirtual 260, 3) := by decide +kernel
theorem dX10_byTurns_68 : decode cX10_byTurns 68 = .ok (.ireturn, 1) := by decide +kernel
theorem dX10_byTurns_69 : decode cX10_byTurns 69 = .ok (.aload_n 0, 1) := by decide +kernel
theorem dX10_byTurns_70 : decode cX10_byTurns 70 = .ok (.getfield 56, 3) := by decide +kernel
theorem dX10_byTurns_73 : decode cX10_byTurns 73 = .ok (.iload_n 1, 1) := by decide +kernel
theorem dX10_byTurns_74 : decode cX10_byTurns 74 = .ok (.iload 4, 2) := by decide +kernel
theorem dX10_byTurns_76 : decode cX10_byTurns 76 = .ok (.iload 5, 2) := by decide +kernel
theorem dX10_byTurns_78 : decode cX10_byTurns 78 = .ok (.invokevirtual 263, 3) := by decide +kernel
theorem dX10_byTurns_81 : decode cX10_byTurns 81 = .ok (.ifCond .eq 7, 3) := by decide +kernel
theorem dX10_byTurns_84 : decode cX10_byTurns 84 = .ok (.iconst 1, 1) := by decide +kernel
theorem dX10_byTurns_85 : decode cX10_byTurns 85 = .ok (.goto 4, 3) := by decide +kernel
theorem dX10_byTurns_88 : decode cX10_byTurns 88 = .ok (.iconst 0, 1) := by decide +kernel
theorem dX10_byTurns_89 : decode cX10_byTurns 89 = .ok (.ireturn, 1) := by decide +kernel
def Ch_byTurns (N : Nat) (S : St) (p1 : Int32) (p2 : Int32) (p3 : Int32) : Option Int32 :=
  nm ((p2 / (10 : Int32))) fun x1 =>
  nm ((p2 - p2 / (10 : Int32) * (10 : Int32))) fun x2 =>
  bd1 (Sm_isOne S p1) fun r3 =>
  if r3 = 0 then
    some (-1 : Int32)
  else
    bd1 (Ch_isDay S x1) fun r4 =>
    if r4 = 0 then
      some (-1 : Int32)
    else
      bd1 (Ch_within S x2 (1 : Int32) (6 : Int32)) fun r5 =>
      if r5 = 0 then
        some (-1 : Int32)
      else
        bd1 (Ch_isEither S p3) fun r6 =>
        if r6 = 0 then
          some (-1 : Int32)
        else
          if p3 = (1 : Int32) then
            bd1 (Kp_bestFirstTurn N S p1 x1 x2) fun r8 =>
            some r8
          else
            bd1 (Kp_winsByTurns N S p1 x1 x2) fun r7 =>
            if r7 = 0 then
              some (0 : Int32)
            else
              some (1 : Int32)
section
variable {p : Program} {l : Launch} {e : Env} {s : State} {m : MethodId} {args : Array Value} {below : List Frame} {meth : Method} {c : Code} {H : Heap} {locs : List Loc} {E : Ev} {S V : St} {ls : Array Slot}
set_option maxRecDepth 20000 in
theorem w_Ch_byTurns {N : Nat} {p1 : Int32} {p2 : Int32} {p3 : Int32} {r : Int32} (C : Cx p s m args meth c E cX10_byTurns 6 RX10 (some .int)) (hw : Wd E (wX V E) s.heap S H locs) (hl : lv_has ls 6 [(0, .ref (ea E 0)), (1, .int p1), (2, .int p2), (3, .int p3)]) (hf : Ch_byTurns N S p1 p2 p3 = some r) : W p l e (rmh (N + 5)) s m args below meth c H locs 0 0 (MQ below (QW E (wX V E) (some (.int r)) S) args s 0 0 (eA E)) (F0 m 0 ls []) := by
  have hx := C.1
  have hb := C.2.1
  unfold Ch_byTurns at hf
  refine lv_iload_n hx hb dX10_byTurns_0 rfl (lv_at hl 2 rfl) ?_
  refine lv_bipush (v := 10) hx hb dX10_byTurns_1 kb_10 ?_
  refine lv_idiv hx hb dX10_byTurns_3 (by decide) ?_
  refine nm_i hf (fun x1 hf => ?_)
  refine lv_istore (lv' := [(4, .int x1), (0, .ref (ea E 0)), (1, .int p1), (2, .int p2), (3, .int p3)]) hx hb dX10_byTurns_4 hl (by decide) rfl (fun ls hl => ?_)
  refine lv_iload_n hx hb dX10_byTurns_6 rfl (lv_at hl 3 rfl) ?_
  refine lv_bipush (v := 10) hx hb dX10_byTurns_7 kb_10 ?_
  refine lv_irem hx hb dX10_byTurns_9 (by decide) ?_
  refine nm_i hf (fun x2 hf => ?_)
  refine lv_istore (lv' := [(5, .int x2), (4, .int x1), (0, .ref (ea E 0)), (1, .int p1), (2, .int p2), (3, .int p3)]) hx hb dX10_byTurns_10 hl (by decide) rfl (fun ls hl => ?_)
  refine lv_aload_n hx hb dX10_byTurns_12 rfl (lv_at hl 2 rfl) ?_
  refine get_0_0 C hw q_374 dX10_byTurns_13 ?_
  refine lv_iload_n hx hb dX10_byTurns_16 rfl (lv_at hl 3 rfl) ?_
  obtain ⟨r3, hr, hf⟩ := hf_1 hf
  refine inv_Vi (q0 := 1) (ci := 8) (As := [.int p1]) lk_X10_155 C hw rfl rfl rfl (t_Sm_isOne hr) rfl hl.1 dX10_byTurns_17 rfl (Nat.le_of_ble_eq_true rfl) (by decide) (Nat.le_of_ble_eq_true rfl) rfl (fun H locs hw => ?_)
  refine lv_if_eq (tgt := 49) hx hb dX10_byTurns_20 (by decide) (fun q => ?_) (fun q => ?_)
  · have hf := hf_t q hf
    refine lv_iconst (v := -1) hx hb dX10_byTurns_49 kc_m1 ?_
    exact ret_i C hw dX10_byTurns_50 hf
  · have hf := hf_f q hf
    refine lv_iload hx hb dX10_byTurns_23 (lv_at hl 1 rfl) ?_
    obtain ⟨r4, hr, hf⟩ := hf_1 hf
    refine inv_Si (As := [.int x1]) lk_X10_158 C hw (t_Ch_isDay hr) hl.1 dX10_byTurns_25 rfl (Nat.le_of_ble_eq_true rfl) (by decide) (Nat.le_of_ble_eq_true rfl) rfl (fun H locs hw => ?_)
    refine lv_if_eq (tgt := 49) hx hb dX10_byTurns_28 (by decide) (fun q => ?_) (fun q => ?_)
    · have hf := hf_t q hf
      refine lv_iconst (v := -1) hx hb dX10_byTurns_49 kc_m1 ?_
      exact ret_i C hw dX10_byTurns_50 hf
    · have hf := hf_f q hf
      refine lv_iload hx hb dX10_byTurns_31 (lv_at hl 0 rfl) ?_
      refine lv_iconst (v := 1) hx hb dX10_byTurns_33 kc_1 ?_
      refine lv_bipush (v := 6) hx hb dX10_byTurns_34 kb_6 ?_
      obtain ⟨r5, hr, hf⟩ := hf_1 hf
      refine inv_Si (As := [.int x2, .int (1 : Int32), .int (6 : Int32)]) lk_X10_83 C hw (t_Ch_within hr) hl.1 dX10_byTurns_36 rfl (Nat.le_of_ble_eq_true rfl) (by decide) (Nat.le_of_ble_eq_true rfl) rfl (fun H locs hw => ?_)
      refine lv_if_eq (tgt := 49) hx hb dX10_byTurns_39 (by decide) (fun q => ?_) (fun q => ?_)
      · have hf := hf_t q hf
        refine lv_iconst (v := -1) hx hb dX10_byTurns_49 kc_m1 ?_
        exact ret_i C hw dX10_byTurns_50 hf
      · have hf := hf_f q hf
        refine lv_iload_n hx hb dX10_byTurns_42 rfl (lv_at hl 5 rfl) ?_
        obtain ⟨r6, hr, hf⟩ := hf_1 hf
        refine inv_Si (As := [.int p3]) lk_X10_185 C hw (t_Ch_isEither hr) hl.1 dX10_byTurns_43 rfl (Nat.le_of_ble_eq_true rfl) (by decide) (Nat.le_of_ble_eq_true rfl) rfl (fun H locs hw => ?_)
        refine lv_if_ne (tgt := 51) hx hb dX10_byTurns_46 (by decide) (fun q => ?_) (fun q => ?_)
        · have hf := hf_f q hf
          refine lv_iload_n hx hb dX10_byTurns_51 rfl (lv_at hl 5 rfl) ?_
          refine lv_iconst (v := 1) hx hb dX10_byTurns_52 kc_1 ?_
          refine lv_icmp_ne (tgt := 69) hx hb dX10_byTurns_53 (by decide) (fun q => ?_) (fun q => ?_)
          · have hf := hf_f q hf
            refine lv_aload_n hx hb dX10_byTurns_69 rfl (lv_at hl 2 rfl) ?_
            refine get_0_3 C hw q_377 dX10_byTurns_70 ?_
            refine lv_iload_n hx hb dX10_byTurns_73 rfl (lv_at hl 3 rfl) ?_
            refine lv_iload hx hb dX10_byTurns_74 (lv_at hl 1 rfl) ?_
            refine lv_iload hx hb dX10_byTurns_76 (lv_at hl 0 rfl) ?_
            obtain ⟨r7, hr, hf⟩ := hf_1 hf
            refine inv_Vi (q0 := 4) (ci := 4) (As := [.int p1, .int x1, .int x2]) lk_X10_263 C hw rfl rfl rfl (t_Kp_winsByTurns hr) rfl hl.1 dX10_byTurns_78 rfl (by omega) (by decide) (Nat.le_of_ble_eq_true rfl) rfl (fun H locs hw => ?_)
            refine lv_if_eq (tgt := 88) hx hb dX10_byTurns_81 (by decide) (fun q => ?_) (fun q => ?_)
            · have hf := hf_t q hf
              refine lv_iconst (v := 0) hx hb dX10_byTurns_88 kc_0 ?_
              exact ret_i C hw dX10_byTurns_89 hf
            · have hf := hf_f q hf
              refine lv_iconst (v := 1) hx hb dX10_byTurns_84 kc_1 ?_
              refine lv_goto (tgt := 89) hx hb dX10_byTurns_85 (by decide) ?_
              exact ret_i C hw dX10_byTurns_89 hf
          · have hf := hf_t q hf
            refine lv_aload_n hx hb dX10_byTurns_56 rfl (lv_at hl 2 rfl) ?_
            refine get_0_3 C hw q_377 dX10_byTurns_57 ?_
            refine lv_iload_n hx hb dX10_byTurns_60 rfl (lv_at hl 3 rfl) ?_
            refine lv_iload hx hb dX10_byTurns_61 (lv_at hl 1 rfl) ?_
            refine lv_iload hx hb dX10_byTurns_63 (lv_at hl 0 rfl) ?_
            obtain ⟨r8, hr, hf⟩ := hf_1 hf
            refine inv_Vi (q0 := 4) (ci := 4) (As := [.int p1, .int x1, .int x2]) lk_X10_260 C hw rfl rfl rfl (t_Kp_bestFirstTurn hr) rfl hl.1 dX10_byTurns_65 rfl (by omega) (by decide) (Nat.le_of_ble_eq_true rfl) rfl (fun H locs hw => ?_)
            exact ret_i C hw dX10_byTurns_68 hf
        · have hf := hf_t q hf
          refine lv_iconst (v := -1) hx hb dX10_byTurns_49 kc_m1 ?_
          exact ret_i C hw dX10_byTurns_50 hf
end
theorem t_Ch_byTurns {l : Launch} {V : St} {N : Nat} {S : St} {p1 : Int32} {p2 : Int32} {p3 : Int32} {r : Int32} (hf : Ch_byTurns N S p1 p2 p3 = some r) : Ct l (wX V) yX10_byTurns cX10_byTurns 6 (some .int) (N + 5) (fun E => [.ref (ea E 0), .int p1, .int p2, .int p3]) S (fun E => some (.int r)) S :=
  ofBlock (by decide +kernel) (fun _ => Nat.le_of_ble_eq_true rfl) (fun E p e s m args below meth c ls C hw hl => w_Ch_byTurns C hw hl hf)
theorem dX10_loudest_0 : decode cX10_loudest 0 = .ok (.iload_n 1, 1) := by decide +kernel
theorem dX10_loudest_1 : decode cX10_loudest 1 = .ok (.invokestatic 185, 3) := by decide +kernel
theorem dX10_loudest_4 : decode cX10_loudest 4 = .ok (.ifCond .ne 5, 3) := by decide +kernel
theorem dX10_loudest_7 : decode cX10_loudest 7 = .ok (.iconst (-1), 1) := by decide +kernel
theorem dX10_loudest_8 : decode cX10_loudest 8 = .ok (.ireturn, 1) := by decide +kernel
theorem dX10_loudest_9 : decode cX10_loudest 9 = .ok (.aload_n 0, 1) := by decide +kernel
theorem dX10_loudest_10 : decode cX10_loudest 10 = .ok (.getfield 72, 3) := by decide +kernel
theorem dX10_loudest_13 : decode cX10_loudest 13 = .ok (.invokevirtual 266, 3) := by decide +kernel
theorem dX10_loudest_16 : decode cX10_loudest 16 = .ok (.istore_n 2, 1) := by decide +kernel
theorem dX10_loudest_17 : decode cX10_loudest 17 = .ok (.iload_n 1, 1) := by decide +kernel
theorem dX10_loudest_18 : decode cX10_loudest 18 = .ok (.ifCond .ne 7, 3) := by decide +kernel
theorem dX10_loudest_21 : decode cX10_loudest 21 = .ok (.iload_n 2, 1) := by decide +kernel
theorem dX10_loudest_22 : decode cX10_loudest 22 = .ok (.goto 11, 3) := by decide +kernel
theorem dX10_loudest_25 : decode cX10_loudest 25 = .ok (.aload_n 0, 1) := by decide +kernel
theorem dX10_loudest_26 : decode cX10_loudest 26 = .ok (.getfield 72, 3) := by decide +kernel
theorem dX10_loudest_29 : decode cX10_loudest 29 = .ok (.iload_n 2, 1) := by decide +kernel
theorem dX10_loudest_30 : decode cX10_loudest 30 = .ok (.invokevirtual 269, 3) := by decide +kernel
theorem dX10_loudest_33 : decode cX10_loudest 33 = .ok (.ireturn, 1) := by decide +kernel
def Ch_loudest (N : Nat) (S : St) (p1 : Int32) : Option (Int32 × St) :=
  bd1 (Ch_isEither S p1) fun r1 =>
  if r1 = 0 then
    some ((-1 : Int32), S)
  else
    bd2 (Cr_loudestDay N S) fun r3 S2 =>
    if p1 = 0 then
      some (r3, S2)
    else
      bd2 (Cr_ofAll N S2 r3) fun r5 S4 =>
      some (r5, S4)
section
variable {p : Program} {l : Launch} {e : Env} {s : State} {m : MethodId} {args : Array Value} {below : List Frame} {meth : Method} {c : Code} {H : Heap} {locs : List Loc} {E : Ev} {S V : St} {ls : Array Slot}
set_option maxRecDepth 20000 in
theorem w_Ch_loudest {N : Nat} {p1 : Int32} {r : Int32} {S9 : St} (C : Cx p s m args meth c E cX10_loudest 3 RX10 (some .int)) (hw : Wd E (wX V E) s.heap S H locs) (hl : lv_has ls 3 [(0, .ref (ea E 0)), (1, .int p1)]) (hf : Ch_loudest N S p1 = some (r, S9)) : W p l e (rmh 7) s m args below meth c H locs 0 0 (MQ below (QW E (wX V E) (some (.int r)) S9) args s 0 0 (eA E)) (F0 m 0 ls []) := by
  have hx := C.1
  have hb := C.2.1
  unfold Ch_loudest at hf
  refine lv_iload_n hx hb dX10_loudest_0 rfl (lv_at hl 1 rfl) ?_
  obtain ⟨r1, hr, hf⟩ := hf_1 hf
  refine inv_Si (As := [.int p1]) lk_X10_185 C hw (t_Ch_isEither hr) hl.1 dX10_loudest_1 rfl (Nat.le_of_ble_eq_true rfl) (by decide) (Nat.le_of_ble_eq_true rfl) rfl (fun H locs hw => ?_)
  refine lv_if_ne (tgt := 9) hx hb dX10_loudest_4 (by decide) (fun q => ?_) (fun q => ?_)
  · have hf := hf_f q hf
    refine lv_aload_n hx hb dX10_loudest_9 rfl (lv_at hl 0 rfl) ?_
    refine get_0_5 C hw q_379 dX10_loudest_10 ?_
    obtain ⟨r3, S2, hr, hf⟩ := hf_2 hf
    refine inv_Vi (q0 := 6) (ci := 1) (As := []) lk_X10_266 C hw rfl rfl rfl (t_Cr_loudestDay hr) rfl hl.1 dX10_loudest_13 rfl (Nat.le_of_ble_eq_true rfl) (by decide) (Nat.le_of_ble_eq_true rfl) rfl (fun H locs hw => ?_)
    refine lv_istore_n (lv' := [(2, .int r3), (0, .ref (ea E 0)), (1, .int p1)]) hx hb dX10_loudest_16 rfl hl (by decide) rfl (fun ls hl => ?_)
    refine lv_iload_n hx hb dX10_loudest_17 rfl (lv_at hl 2 rfl) ?_
    refine lv_if_ne (tgt := 25) hx hb dX10_loudest_18 (by decide) (fun q => ?_) (fun q => ?_)
    · have hf := hf_f q hf
      refine lv_aload_n hx hb dX10_loudest_25 rfl (lv_at hl 1 rfl) ?_
      refine get_0_5 C hw q_379 dX10_loudest_26 ?_
      refine lv_iload_n hx hb dX10_loudest_29 rfl (lv_at hl 0 rfl) ?_
      obtain ⟨r5, S4, hr, hf⟩ := hf_2 hf
      refine inv_Vi (q0 := 6) (ci := 1) (As := [.int r3]) lk_X10_269 C hw rfl rfl rfl (t_Cr_ofAll hr) rfl hl.1 dX10_loudest_30 rfl (Nat.le_of_ble_eq_true rfl) (by decide) (Nat.le_of_ble_eq_true rfl) rfl (fun H locs hw => ?_)
      exact ret_iS C hw dX10_loudest_33 hf
    · have hf := hf_t q hf
      refine lv_iload_n hx hb dX10_loudest_21 rfl (lv_at hl 0 rfl) ?_
      refine lv_goto (tgt := 33) hx hb dX10_loudest_22 (by decide) ?_
      exact ret_iS C hw dX10_loudest_33 hf
  · have hf := hf_t q hf
    refine lv_iconst (v := -1) hx hb dX10_loudest_7 kc_m1 ?_
    exact ret_iS C hw dX10_loudest_8 hf
end
theorem t_Ch_loudest {l : Launch} {V : St} {N : Nat} {S : St} {p1 : Int32} {r : Int32} {S9 : St} (hf : Ch_loudest N S p1 = some (r, S9)) : Ct l (wX V) yX10_loudest cX10_loudest 3 (some .int) 7 (fun E => [.ref (ea E 0), .int p1]) S (fun E => some (.int r)) S9 :=
  ofBlock (by decide +kernel) (fun _ => Nat.le_of_ble_eq_true rfl) (fun E p e s m args below meth c ls C hw hl => w_Ch_loudest C hw hl hf)
theorem dX10_drawn_0 : decode cX10_drawn 0 = .ok (.iload_n 2, 1) := by decide +kernel
theorem dX10_drawn_1 : decode cX10_drawn 1 = .ok (.iconst 1, 1) := by decide +kernel
theorem dX10_drawn_2 : decode cX10_drawn 2 = .ok (.bipush 30, 2) := by decide +kernel
theorem dX10_drawn_4 : decode cX10_drawn 4 = .ok (.invokestatic 83, 3) := by decide +kernel
theorem dX10_drawn_7 : decode cX10_drawn 7 = .ok (.ifCond .eq 25, 3) := by decide +kernel
theorem dX10_drawn_10 : decode cX10_drawn 10 = .ok (.aload_n 0, 1) := by decide +kernel
theorem dX10_drawn_11 : decode cX10_drawn 11 = .ok (.getfield 10, 3) := by decide +kernel
theorem dX10_drawn_14 : decode cX10_drawn 14 = .ok (.iload_n 3, 1) := by decide +kernel
theorem dX10_drawn_15 : decode cX10_drawn 15 = .ok (.invokevirtual 155, 3) := by decide +kernel
theorem dX10_drawn_18 : decode cX10_drawn 18 = .ok (.ifCond .eq 14, 3) := by decide +kernel
theorem dX10_drawn_21 : decode cX10_drawn 21 = .ok (.iload 4, 2) := by decide +kernel
theorem dX10_drawn_23 : decode cX10_drawn 23 = .ok (.iconst (-1), 1) := by decide +kernel
theorem dX10_drawn_24 : decode cX10_drawn 24 = .ok (.bipush 99, 2) := by decide +kernel
theorem dX10_drawn_26 : decode cX10_drawn 26 = .ok (.invokestatic 83, 3) := by decide +kernel
theorem dX10_drawn_29 : decode cX10_drawn 29 = .ok (.ifCond .ne 5, 3) := by decide +kernel
theorem dX10_drawn_32 : decode cX10_drawn 32 = .ok (.iconst (-1), 1) := by decide +kernel
theorem dX10_drawn_33 : decode cX10_drawn 33 = .ok (.ireturn, 1) := by decide +kernel
theorem dX10_drawn_34 : decode cX10_drawn 34 = .ok (.aload_n 0, 1) := by decide +kernel
theorem dX10_drawn_35 : decode cX10_drawn 35 = .ok (.getfield 49, 3) := by decide +kernel
theorem dX10_drawn_38 : decode cX10_drawn 38 = .ok (.iload_n 1, 1) := by decide +kernel
theorem dX10_drawn_39 : decode cX10_drawn 39 = .ok (.iload_n 2, 1) := by decide +kernel
theorem dX10_drawn_40 : decode cX10_drawn 40 = .ok (.iload_n 3, 1) := by decide +kernel
theorem dX10_drawn_41 : decode cX10_drawn 41 = .ok (.iload 4, 2) := by decide +kernel
theorem dX10_drawn_43 : decode cX10_drawn 43 = .ok (.invokevirtual 272, 3) := by decide +kernel
theorem dX10_drawn_46 : decode cX10_drawn 46 = .ok (.ireturn, 1) := by decide +kernel
def Ch_drawn (N : Nat) (S : St) (p1 : Int32) (p2 : Int32) (p3 : Int32) (p4 : Int32) : Option (Int32 × St) :=
  bd1 (Ch_within S p2 (1 : Int32) (30 : Int32)) fun r1 =>
  if r1 = 0 then
    some ((-1 : Int32), S)
  else
    bd1 (Sm_isOne S p3) fun r2 =>
    if r2 = 0 then
      some ((-1 : Int32), S)
    else
      bd1 (Ch_within S p4 (-1 : Int32) (99 : Int32)) fun r3 =>
      if r3 = 0 then
        some ((-1 : Int32), S)
      else
        bd2 (Dy_drawnRides N S p1 p2 p3 p4) fun r5 S4 =>
        some (r5, S4)
section
variable {p : Program} {l : Launch} {e : Env} {s : State} {m : MethodId} {args : Array Value} {below : List Frame} {meth : Method} {c : Code} {H : Heap} {locs : List Loc} {E : Ev} {S V : St} {ls : Array Slot}
set_option maxRecDepth 20000 in
theorem w_Ch_drawn {N : Nat} {p1 : Int32} {p2 : Int32} {p3 : Int32} {p4 : Int32} {r : Int32} {S9 : St} (C : Cx p s m args meth c E cX10_drawn 5 RX10 (some .int)) (hw : Wd E (wX V E) s.heap S H locs) (hl : lv_has ls 5 [(0, .ref (ea E 0)), (1, .int p1), (2, .int p2), (3, .int p3), (4, .int p4)]) (hf : Ch_drawn N S p1 p2 p3 p4 = some (r, S9)) : W p l e (rmh 6) s m args below meth c H locs 0 0 (MQ below (QW E (wX V E) (some (.int r)) S9) args s 0 0 (eA E)) (F0 m 0 ls []) := by
  have hx := C.1
  have hb := C.2.1
  unfold Ch_drawn at hf
  refine lv_iload_n hx hb dX10_drawn_0 rfl (lv_at hl 2 rfl) ?_
  refine lv_iconst (v := 1) hx hb dX10_drawn_1 kc_1 ?_
  refine lv_bipush (v := 30) hx hb dX10_drawn_2 kb_30 ?_
  obtain ⟨r1, hr, hf⟩ := hf_1 hf
  refine inv_Si (As := [.int p2, .int (1 : Int32), .int (30 : Int32)]) lk_X10_83 C hw (t_Ch_within hr) hl.1 dX10_drawn_4 rfl (Nat.le_of_ble_eq_true rfl) (by decide) (Nat.le_of_ble_eq_true rfl) rfl (fun H locs hw => ?_)
  refine lv_if_eq (tgt := 32) hx hb dX10_drawn_7 (by decide) (fun q => ?_) (fun q => ?_)
  · have hf := hf_t q hf
    refine lv_iconst (v := -1) hx hb dX10_drawn_32 kc_m1 ?_
    exact ret_iS C hw dX10_drawn_33 hf
  · have hf := hf_f q hf
    refine lv_aload_n hx hb dX10_drawn_10 rfl (lv_at hl 0 rfl) ?_
    refine get_0_0 C hw q_374 dX10_drawn_11 ?_
    refine lv_iload_n hx hb dX10_drawn_14 rfl (lv_at hl 3 rfl) ?_
    obtain ⟨r2, hr, hf⟩ := hf_1 hf
    refine inv_Vi (q0 := 1) (ci := 8) (As := [.int p3]) lk_X10_155 C hw rfl rfl rfl (t_Sm_isOne hr) rfl hl.1 dX10_drawn_15 rfl (Nat.le_of_ble_eq_true rfl) (by decide) (Nat.le_of_ble_eq_true rfl) rfl (fun H locs hw => ?_)
    refine lv_if_eq (tgt := 32) hx hb dX10_drawn_18 (by decide) (fun q => ?_) (fun q => ?_)
    · have hf := hf_t q hf
      refine lv_iconst (v := -1) hx hb dX10_drawn_32 kc_m1 ?_
      exact ret_iS C hw dX10_drawn_33 hf
    · have hf := hf_f q hf
      refine lv_iload hx hb dX10_drawn_21 (lv_at hl 4 rfl) ?_
      refine lv_iconst (v := -1) hx hb dX10_drawn_23 kc_m1 ?_
      refine lv_bipush (v := 99) hx hb dX10_drawn_24 kb_99 ?_
      obtain ⟨r3, hr, hf⟩ := hf_1 hf
      refine inv_Si (As := [.int p4, .int (-1 : Int32), .int (99 : Int32)]) lk_X10_83 C hw (t_Ch_within hr) hl.1 dX10_drawn_26 rfl (Nat.le_of_ble_eq_true rfl) (by decide) (Nat.le_of_ble_eq_true rfl) rfl (fun H locs hw => ?_)
      refine lv_if_ne (tgt := 34) hx hb dX10_drawn_29 (by decide) (fun q => ?_) (fun q => ?_)
      · have hf := hf_f q hf
        refine lv_aload_n hx hb dX10_drawn_34 rfl (lv_at hl 0 rfl) ?_
        refine get_0_2 C hw q_376 dX10_drawn_35 ?_
        refine lv_iload_n hx hb dX10_drawn_38 rfl (lv_at hl 1 rfl) ?_
        refine lv_iload_n hx hb dX10_drawn_39 rfl (lv_at hl 2 rfl) ?_
        refine lv_iload_n hx hb dX10_drawn_40 rfl (lv_at hl 3 rfl) ?_
        refine lv_iload hx hb dX10_drawn_41 (lv_at hl 4 rfl) ?_
        obtain ⟨r5, S4, hr, hf⟩ := hf_2 hf
        refine inv_Vi (q0 := 3) (ci := 2) (As := [.int p1, .int p2, .int p3, .int p4]) lk_X10_272 C hw rfl rfl rfl (t_Dy_drawnRides hr) rfl hl.1 dX10_drawn_43 rfl (Nat.le_of_ble_eq_true rfl) (by decide) (Nat.le_of_ble_eq_true rfl) rfl (fun H locs hw => ?_)
        exact ret_iS C hw dX10_drawn_46 hf
      · have hf := hf_t q hf
        refine lv_iconst (v := -1) hx hb dX10_drawn_32 kc_m1 ?_
        exact ret_iS C hw dX10_drawn_33 hf
end
theorem t_Ch_drawn {l : Launch} {V : St} {N : Nat} {S : St} {p1 : Int32} {p2 : Int32} {p3 : Int32} {p4 : Int32} {r : Int32} {S9 : St} (hf : Ch_drawn N S p1 p2 p3 p4 = some (r, S9)) : Ct l (wX V) yX10_drawn cX10_drawn 5 (some .int) 6 (fun E => [.ref (ea E 0), .int p1, .int p2, .int p3, .int p4]) S (fun E => some (.int r)) S9 :=
  ofBlock (by decide +kernel) (fun _ => Nat.le_of_ble_eq_true rfl) (fun E p e s m args below meth c ls C hw hl => w_Ch_drawn C hw hl hf)
theorem dX10_passes_0 : decode cX10_passes 0 = .ok (.aload_n 0, 1) := by decide +kernel
theorem dX10_passes_1 : decode cX10_passes 1 = .ok (.getfield 79, 3) := by decide +kernel
theorem dX10_passes_4 : decode cX10_passes 4 = .ok (.invokevirtual 275, 3) := by decide +kernel
theorem dX10_passes_7 : decode cX10_passes 7 = .ok (.bipush 99, 2) := by decide +kernel
theorem dX10_passes_9 : decode cX10_passes 9 = .ok (.if_icmp .ne 8, 3) := by decide +kernel
theorem dX10_passes_12 : decode cX10_passes 12 = .ok (.bipush (-5), 2) := by decide +kernel
theorem dX10_passes_14 : decode cX10_passes 14 = .ok (.goto 10, 3) := by decide +kernel
theorem dX10_passes_17 : decode cX10_passes 17 = .ok (.aload_n 0, 1) := by decide +kernel
theorem dX10_passes_18 : decode cX10_passes 18 = .ok (.getfield 79, 3) := by decide +kernel
theorem dX10_passes_21 : decode cX10_passes 21 = .ok (.invokevirtual 278, 3) := by decide +kernel
theorem dX10_passes_24 : decode cX10_passes 24 = .ok (.ireturn, 1) := by decide +kernel
def Ch_passes (N : Nat) (S : St) : Option (Int32 × St) :=
  bd1 (De_now S) fun r1 =>
  if r1 = (99 : Int32) then
    some ((-5 : Int32), S)
  else
    bd2 (De_endDay N S) fun r3 S2 =>
    some (r3, S2)
section
variable {p : Program} {l : Launch} {e : Env} {s : State} {m : MethodId} {args : Array Value} {below : List Frame} {meth : Method} {c : Code} {H : Heap} {locs : List Loc} {E : Ev} {S V : St} {ls : Array Slot}
set_option maxRecDepth 20000 in
theorem w_Ch_passes {N : Nat} {r : Int32} {S9 : St} (C : Cx p s m args meth c E cX10_passes 1 RX10 (some .int)) (hw : Wd E (wX V E) s.heap S H locs) (hl : lv_has ls 1 [(0, .ref (ea E 0))]) (hf : Ch_passes N S = some (r, S9)) : W p l e (rmh 6) s m args below meth c H locs 0 0 (MQ below (QW E (wX V E) (some (.int r)) S9) args s 0 0 (eA E)) (F0 m 0 ls []) := by
  have hx := C.1
  have hb := C.2.1
  unfold Ch_passes at hf
  refine lv_aload_n hx hb dX10_passes_0 rfl (lv_at hl 0 rfl) ?_
  refine get_0_6 C hw q_380 dX10_passes_1 ?_
  obtain ⟨r1, hr, hf⟩ := hf_1 hf
  refine inv_Vi (q0 := 7) (ci := 3) (As := []) lk_X10_275 C hw rfl rfl rfl (t_De_now hr) rfl hl.1 dX10_passes_4 rfl (Nat.le_of_ble_eq_true rfl) (by decide) (Nat.le_of_ble_eq_true rfl) rfl (fun H locs hw => ?_)
  refine lv_bipush (v := 99) hx hb dX10_passes_7 kb_99 ?_
  refine lv_icmp_ne (tgt := 17) hx hb dX10_passes_9 (by decide) (fun q => ?_) (fun q => ?_)
  · have hf := hf_f q hf
    refine lv_aload_n hx hb dX10_passes_17 rfl (lv_at hl 0 rfl) ?_
    refine get_0_6 C hw q_380 dX10_passes_18 ?_
    obtain ⟨r3, S2, hr, hf⟩ := hf_2 hf
    refine inv_Vi (q0 := 7) (ci := 3) (As := []) lk_X10_278 C hw rfl rfl rfl (t_De_endDay hr) rfl hl.1 dX10_passes_21 rfl (Nat.le_of_ble_eq_true rfl) (by decide) (Nat.le_of_ble_eq_true rfl) rfl (fun H locs hw => ?_)
    exact ret_iS C hw dX10_passes_24 hf
  · have hf := hf_t q hf
    refine lv_bipush (v := -5) hx hb dX10_passes_12 kb_m5 ?_
    refine lv_goto (tgt := 24) hx hb dX10_passes_14 (by decide) ?_
    exact ret_iS C hw dX10_passes_24 hf
end
theorem t_Ch_passes {l : Launch} {V : St} {N : Nat} {S : St} {r : Int32} {S9 : St} (hf : Ch_passes N S = some (r, S9)) : Ct l (wX V) yX10_passes cX10_passes 1 (some .int) 6 (fun E => [.ref (ea E 0)]) S (fun E => some (.int r)) S9 :=
  ofBlock (by decide +kernel) (fun _ => Nat.le_of_ble_eq_true rfl) (fun E p e s m args below meth c ls C hw hl => w_Ch_passes C hw hl hf)
theorem dX10_vow_0 : decode cX10_vow 0 = .ok (.aload_n 0, 1) := by decide +kernel
theorem dX10_vow_1 : decode cX10_vow 1 = .ok (.getfield 79, 3) := by decide +kernel
theorem dX10_vow_4 : decode cX10_vow 4 = .ok (.invokevirtual 275, 3) := by decide +kernel
theorem dX10_vow_7 : decode cX10_vow 7 = .ok (.istore_n 3, 1) := by decide +kernel
theorem dX10_vow_8 : decode cX10_vow 8 = .ok (.aload_n 0, 1) := by decide +kernel
theorem dX10_vow_9 : decode cX10_vow 9 = .ok (.getfield 10, 3) := by decide +kernel
theorem dX10_vow_12 : decode cX10_vow 12 = .ok (.iload_n 1, 1) := by decide +kernel
theorem dX10_vow_13 : decode cX10_vow 13 = .ok (.bipush 10, 2) := by decide +kernel
theorem dX10_vow_15 : decode cX10_vow 15 = .ok (.idiv, 1) := by decide +kernel
theorem dX10_vow_16 : decode cX10_vow 16 = .ok (.iload_n 3, 1) := by decide +kernel
theorem dX10_vow_17 : decode cX10_vow 17 = .ok (.iload_n 2, 1) := by decide +kernel
theorem dX10_vow_18 : decode cX10_vow 18 = .ok (.iload_n 1, 1) := by decide +kernel
theorem dX10_vow_19 : decode cX10_vow 19 = .ok (.bipush 10, 2) := by decide +kernel
theorem dX10_vow_21 : decode cX10_vow 21 = .ok (.irem, 1) := by decide +kernel
theorem dX10_vow_22 : decode cX10_vow 22 = .ok (.invokevirtual 95, 3) := by decide +kernel
theorem dX10_vow_25 : decode cX10_vow 25 = .ok (.ifCond .ne 5, 3) := by decide +kernel
theorem dX10_vow_28 : decode cX10_vow 28 = .ok (.iconst (-1), 1) := by decide +kernel
theorem dX10_vow_29 : decode cX10_vow 29 = .ok (.ireturn, 1) := by decide +kernel
theorem dX10_vow_30 : decode cX10_vow 30 = .ok (.aload_n 0, 1) := by decide +kernel
theorem dX10_vow_31 : decode cX10_vow 31 = .ok (.getfield 10, 3) := by decide +kernel
theorem dX10_vow_34 : decode cX10_vow 34 = .ok (.invokevirtual 99, 3) := by decide +kernel
theorem dX10_vow_37 : decode cX10_vow 37 = .ok (.ifCond .eq 8, 3) := by decide +kernel
theorem dX10_vow_40 : decode cX10_vow 40 = .ok (.bipush (-3), 2) := by decide +kernel
theorem dX10_vow_42 : decode cX10_vow 42 = .ok (.goto 19, 3) := by decide +kernel
theorem dX10_vow_45 : decode cX10_vow 45 = .ok (.aload_n 0, 1) := by decide +kernel
theorem dX10_vow_46 : decode cX10_vow 46 = .ok (.getfield 79, 3) := by decide +kernel
theorem dX10_vow_49 : decode cX10_vow 49 = .ok (.iload_n 1, 1) := by decide +kernel
theorem dX10_vow_50 : decode cX10_vow 50 = .ok (.bipush 10, 2) := by decide +kernel
theorem dX10_vow_52 : decode cX10_vow 52 = .ok (.idiv, 1) := by decide +kernel
theorem dX10_vow_53 : decode cX10_vow 53 = .ok (.iload_n 2, 1) := by decide +kernel
theorem dX10_vow_54 : decode cX10_vow 54 = .ok (.iload_n 1, 1) := by decide +kernel
theorem dX10_vow_55 : decode cX10_vow 55 = .ok (.bipush 10, 2) := by decide +kernel
theorem dX10_vow_57 : decode cX10_vow 57 = .ok (.irem, 1) := by decide +kernel
theorem dX10_vow_58 : decode cX10_vow 58 = .ok (.invokevirtual 281, 3) := by decide +kernel
theorem dX10_vow_61 : decode cX10_vow 61 = .ok (.ireturn, 1) := by decide +kernel
def Ch_vow (S : St) (p1 : Int32) (p2 : Int32) : Option (Int32 × St) :=
  bd1 (De_now S) fun r1 =>
  bd1 (Sm_canPromise S (p1 / (10 : Int32)) r1 p2 (p1 - p1 / (10 : Int32) * (10 : Int32))) fun r2 =>
  if r2 = 0 then
    some ((-1 : Int32), S)
  else
    bd1 (Sm_isFull S) fun r3 =>
    if r3 = 0 then
      bd2 (De_makePromise S (p1 / (10 : Int32)) p2 (p1 - p1 / (10 : Int32) * (10 : Int32))) fun r5 S4 =>
      some (r5, S4)
    else
      some ((-3 : Int32), S)
section
variable {p : Program} {l : Launch} {e : Env} {s : State} {m : MethodId} {args : Array Value} {below : List Frame} {meth : Method} {c : Code} {H : Heap} {locs : List Loc} {E : Ev} {S V : St} {ls : Array Slot}
set_option maxRecDepth 20000 in
theorem w_Ch_vow {p1 : Int32} {p2 : Int32} {r : Int32} {S9 : St} (C : Cx p s m args meth c E cX10_vow 4 RX10 (some .int)) (hw : Wd E (wX V E) s.heap S H locs) (hl : lv_has ls 4 [(0, .ref (ea E 0)), (1, .int p1), (2, .int p2)]) (hf : Ch_vow S p1 p2 = some (r, S9)) : W p l e (rmh 4) s m args below meth c H locs 0 0 (MQ below (QW E (wX V E) (some (.int r)) S9) args s 0 0 (eA E)) (F0 m 0 ls []) := by
  have hx := C.1
  have hb := C.2.1
  unfold Ch_vow at hf
  refine lv_aload_n hx hb dX10_vow_0 rfl (lv_at hl 0 rfl) ?_
  refine get_0_6 C hw q_380 dX10_vow_1 ?_
  obtain ⟨r1, hr, hf⟩ := hf_1 hf
  refine inv_Vi (q0 := 7) (ci := 3) (As := []) lk_X10_275 C hw rfl rfl rfl (t_De_now hr) rfl hl.1 dX10_vow_4 rfl (Nat.le_of_ble_eq_true rfl) (by decide) (Nat.le_of_ble_eq_true rfl) rfl (fun H locs hw => ?_)
  refine lv_istore_n (lv' := [(3, .int r1), (0, .ref (ea E 0)), (1, .int p1), (2, .int p2)]) hx hb dX10_vow_7 rfl hl (by decide) rfl (fun ls hl => ?_)
  refine lv_aload_n hx hb dX10_vow_8 rfl (lv_at hl 1 rfl) ?_
  refine get_0_0 C hw q_374 dX10_vow_9 ?_
  refine lv_iload_n hx hb dX10_vow_12 rfl (lv_at hl 2 rfl) ?_
  refine lv_bipush (v := 10) hx hb dX10_vow_13 kb_10 ?_
  refine lv_idiv hx hb dX10_vow_15 (by decide) ?_
  refine lv_iload_n hx hb dX10_vow_16 rfl (lv_at hl 0 rfl) ?_
  refine lv_iload_n hx hb dX10_vow_17 rfl (lv_at hl 3 rfl) ?_
  refine lv_iload_n hx hb dX10_vow_18 rfl (lv_at hl 2 rfl) ?_
  refine lv_bipush (v := 10) hx hb dX10_vow_19 kb_10 ?_
  refine lv_irem hx hb dX10_vow_21 (by decide) ?_
  obtain ⟨r2, hr, hf⟩ := hf_1 hf
  refine inv_Vi (q0 := 1) (ci := 8) (As := [.int (p1 / (10 : Int32)), .int r1, .int p2, .int (p1 - p1 / (10 : Int32) * (10 : Int32))]) lk_X10_95 C hw rfl rfl rfl (t_Sm_canPromise hr) rfl hl.1 dX10_vow_22 rfl (Nat.le_of_ble_eq_true rfl) (by decide) (Nat.le_of_ble_eq_true rfl) rfl (fun H locs hw => ?_)
  refine lv_if_ne (tgt := 30) hx hb dX10_vow_25 (by decide) (fun q => ?_) (fun q => ?_)
  · have hf := hf_f q hf
    refine lv_aload_n hx hb dX10_vow_30 rfl (lv_at hl 1 rfl) ?_
    refine get_0_0 C hw q_374 dX10_vow_31 ?_
    obtain ⟨r3, hr, hf⟩ := hf_1 hf
    refine inv_Vi (q0 := 1) (ci := 8) (As := []) lk_X10_99 C hw rfl rfl rfl (t_Sm_isFull hr) rfl hl.1 dX10_vow_34 rfl (Nat.le_of_ble_eq_true rfl) (by decide) (Nat.le_of_ble_eq_true rfl) rfl (fun H locs hw => ?_)
    refine lv_if_eq (tgt := 45) hx hb dX10_vow_37 (by decide) (fun q => ?_) (fun q => ?_)
    · have hf := hf_t q hf
      refine lv_aload_n hx hb dX10_vow_45 rfl (lv_at hl 1 rfl) ?_
      refine get_0_6 C hw q_380 dX10_vow_46 ?_
      refine lv_iload_n hx hb dX10_vow_49 rfl (lv_at hl 2 rfl) ?_
      refine lv_bipush (v := 10) hx hb dX10_vow_50 kb_10 ?_
      refine lv_idiv hx hb dX10_vow_52 (by decide) ?_
      refine lv_iload_n hx hb dX10_vow_53 rfl (lv_at hl 3 rfl) ?_
      refine lv_iload_n hx hb dX10_vow_54 rfl (lv_at hl 2 rfl) ?_
      refine lv_bipush (v := 10) hx hb dX10_vow_55 kb_10 ?_
      refine lv_irem hx hb dX10_vow_57 (by decide) ?_
      obtain ⟨r5, S4, hr, hf⟩ := hf_2 hf
      refine inv_Vi (q0 := 7) (ci := 3) (As := [.int (p1 / (10 : Int32)), .int p2, .int (p1 - p1 / (10 : Int32) * (10 : Int32))]) lk_X10_281 C hw rfl rfl rfl (t_De_makePromise hr) rfl hl.1 dX10_vow_58 rfl (Nat.le_of_ble_eq_true rfl) (by decide) (Nat.le_of_ble_eq_true rfl) rfl (fun H locs hw => ?_)
      exact ret_iS C hw dX10_vow_61 hf
    · have hf := hf_f q hf
      refine lv_bipush (v := -3) hx hb dX10_vow_40 kb_m3 ?_
      refine lv_goto (tgt := 61) hx hb dX10_vow_42 (by decide) ?_
      exact ret_iS C hw dX10_vow_61 hf
  · have hf := hf_t q hf
    refine lv_iconst (v := -1) hx hb dX10_vow_28 kc_m1 ?_
    exact ret_iS C hw dX10_vow_29 hf
end
theorem t_Ch_vow {l : Launch} {V : St} {S : St} {p1 : Int32} {p2 : Int32} {r : Int32} {S9 : St} (hf : Ch_vow S p1 p2 = some (r, S9)) : Ct l (wX V) yX10_vow cX10_vow 4 (some .int) 4 (fun E => [.ref (ea E 0), .int p1, .int p2]) S (fun E => some (.int r)) S9 :=
  ofBlock (by decide +kernel) (fun _ => Nat.le_of_ble_eq_true rfl) (fun E p e s m args below meth c ls C hw hl => w_Ch_vow C hw hl hf)
theorem dX10_kept_0 : decode cX10_kept 0 = .ok (.aload_n 0, 1) := by decide +kernel
theorem dX10_kept_1 : decode cX10_kept 1 = .ok (.getfield 10, 3) := by decide +kernel
theorem dX10_kept_4 : decode cX10_kept 4 = .ok (.iload_n 1, 1) := by decide +kernel
theorem dX10_kept_5 : decode cX10_kept 5 = .ok (.invokevirtual 173, 3) := by decide +kernel
theorem dX10_kept_8 : decode cX10_kept 8 = .ok (.ifCond .ne 5, 3) := by decide +kernel
theorem dX10_kept_11 : decode cX10_kept 11 = .ok (.iconst (-1), 1) := by decide +kernel
theorem dX10_kept_12 : decode cX10_kept 12 = .ok (.ireturn, 1) := by decide +kernel
theorem dX10_kept_13 : decode cX10_kept 13 = .ok (.aload_n 0, 1) := by decide +kernel
theorem dX10_kept_14 : decode cX10_kept 14 = .ok (.getfield 10, 3) := by decide +kernel
theorem dX10_kept_17 : decode cX10_kept 17 = .ok (.iload_n 1, 1) := by decide +kernel
theorem dX10_kept_18 : decode cX10_kept 18 = .ok (.aload_n 0, 1) := by decide +kernel
theorem dX10_kept_19 : decode cX10_kept 19 = .ok (.getfield 79, 3) := by decide +kernel
theorem dX10_kept_22 : decode cX10_kept 22 = .ok (.invokevirtual 275, 3) := by decide +kernel
theorem dX10_kept_25 : decode cX10_kept 25 = .ok (.invokevirtual 284, 3) := by decide +kernel
theorem dX10_kept_28 : decode cX10_kept 28 = .ok (.ifCond .eq 14, 3) := by decide +kernel
theorem dX10_kept_31 : decode cX10_kept 31 = .ok (.aload_n 0, 1) := by decide +kernel
theorem dX10_kept_32 : decode cX10_kept 32 = .ok (.getfield 79, 3) := by decide +kernel
theorem dX10_kept_35 : decode cX10_kept 35 = .ok (.iload_n 1, 1) := by decide +kernel
theorem dX10_kept_36 : decode cX10_kept 36 = .ok (.invokevirtual 287, 3) := by decide +kernel
theorem dX10_kept_39 : decode cX10_kept 39 = .ok (.goto 5, 3) := by decide +kernel
theorem dX10_kept_42 : decode cX10_kept 42 = .ok (.bipush (-5), 2) := by decide +kernel
theorem dX10_kept_44 : decode cX10_kept 44 = .ok (.ireturn, 1) := by decide +kernel
def Ch_kept (N : Nat) (S : St) (p1 : Int32) : Option (Int32 × St) :=
  bd1 (Sm_isPromise S p1) fun r1 =>
  if r1 = 0 then
    some ((-1 : Int32), S)
  else
    bd1 (De_now S) fun r2 =>
    bd1 (Sm_isOpen S p1 r2) fun r3 =>
    if r3 = 0 then
      some ((-5 : Int32), S)
    else
      bd2 (De_keepPromise N S p1) fun r5 S4 =>
      some (r5, S4)
section
variable {p : Program} {l : Launch} {e : Env} {s : State} {m : MethodId} {args : Array Value} {below : List Frame} {meth : Method} {c : Code} {H : Heap} {locs : List Loc} {E : Ev} {S V : St} {ls : Array Slot}
set_option maxRecDepth 20000 in
theorem w_Ch_kept {N : Nat} {p1 : Int32} {r : Int32} {S9 : St} (C : Cx p s m args meth c E cX10_kept 2 RX10 (some .int)) (hw : Wd E (wX V E) s.heap S H locs) (hl : lv_has ls 2 [(0, .ref (ea E 0)), (1, .int p1)]) (hf : Ch_kept N S p1 = some (r, S9)) : W p l e (rmh 4) s m args below meth c H locs 0 0 (MQ below (QW E (wX V E) (some (.int r)) S9) args s 0 0 (eA E)) (F0 m 0 ls []) := by
  have hx := C.1
  have hb := C.2.1
  unfold Ch_kept at hf
  refine lv_aload_n hx hb dX10_kept_0 rfl (lv_at hl 0 rfl) ?_
  refine get_0_0 C hw q_374 dX10_kept_1 ?_
  refine lv_iload_n hx hb dX10_kept_4 rfl (lv_at hl 1 rfl) ?_
  obtain ⟨r1, hr, hf⟩ := hf_1 hf
  refine inv_Vi (q0 := 1) (ci := 8) (As := [.int p1]) lk_X10_173 C hw rfl rfl rfl (t_Sm_isPromise hr) rfl hl.1 dX10_kept_5 rfl (Nat.le_of_ble_eq_true rfl) (by decide) (Nat.le_of_ble_eq_true rfl) rfl (fun H locs hw => ?_)
  refine lv_if_ne (tgt := 13) hx hb dX10_kept_8 (by decide) (fun q => ?_) (fun q => ?_)
  · have hf := hf_f q hf
    refine lv_aload_n hx hb dX10_kept_13 rfl (lv_at hl 0 rfl) ?_
    refine get_0_0 C hw q_374 dX10_kept_14 ?_
    refine lv_iload_n hx hb dX10_kept_17 rfl (lv_at hl 1 rfl) ?_
    refine lv_aload_n hx hb dX10_kept_18 rfl (lv_at hl 0 rfl) ?_
    refine get_0_6 C hw q_380 dX10_kept_19 ?_
    obtain ⟨r2, hr, hf⟩ := hf_1 hf
    refine inv_Vi (q0 := 7) (ci := 3) (As := []) lk_X10_275 C hw rfl rfl rfl (t_De_now hr) rfl hl.1 dX10_kept_22 rfl (Nat.le_of_ble_eq_true rfl) (by decide) (Nat.le_of_ble_eq_true rfl) rfl (fun H locs hw => ?_)
    obtain ⟨r3, hr, hf⟩ := hf_1 hf
    refine inv_Vi (q0 := 1) (ci := 8) (As := [.int p1, .int r2]) lk_X10_284 C hw rfl rfl rfl (t_Sm_isOpen hr) rfl hl.1 dX10_kept_25 rfl (Nat.le_of_ble_eq_true rfl) (by decide) (Nat.le_of_ble_eq_true rfl) rfl (fun H locs hw => ?_)
    refine lv_if_eq (tgt := 42) hx hb dX10_kept_28 (by decide) (fun q => ?_) (fun q => ?_)
    · have hf := hf_t q hf
      refine lv_bipush (v := -5) hx hb dX10_kept_42 kb_m5 ?_
      exact ret_iS C hw dX10_kept_44 hf
    · have hf := hf_f q hf
      refine lv_aload_n hx hb dX10_kept_31 rfl (lv_at hl 0 rfl) ?_
      refine get_0_6 C hw q_380 dX10_kept_32 ?_
      refine lv_iload_n hx hb dX10_kept_35 rfl (lv_at hl 1 rfl) ?_
      obtain ⟨r5, S4, hr, hf⟩ := hf_2 hf
      refine inv_Vi (q0 := 7) (ci := 3) (As := [.int p1]) lk_X10_287 C hw rfl rfl rfl (t_De_keepPromise hr) rfl hl.1 dX10_kept_36 rfl (Nat.le_of_ble_eq_true rfl) (by decide) (Nat.le_of_ble_eq_true rfl) rfl (fun H locs hw => ?_)
      refine lv_goto (tgt := 44) hx hb dX10_kept_39 (by decide) ?_
      exact ret_iS C hw dX10_kept_44 hf
  · have hf := hf_t q hf
    refine lv_iconst (v := -1) hx hb dX10_kept_11 kc_m1 ?_
    exact ret_iS C hw dX10_kept_12 hf
end
theorem t_Ch_kept {l : Launch} {V : St} {N : Nat} {S : St} {p1 : Int32} {r : Int32} {S9 : St} (hf : Ch_kept N S p1 = some (r, S9)) : Ct l (wX V) yX10_kept cX10_kept 2 (some .int) 4 (fun E => [.ref (ea E 0), .int p1]) S (fun E => some (.int r)) S9 :=
  ofBlock (by decide +kernel) (fun _ => Nat.le_of_ble_eq_true rfl) (fun E p e s m args below meth c ls C hw hl => w_Ch_kept C hw hl hf)
theorem dX10_led_0 : decode cX10_led 0 = .ok (.iload_n 1, 1) := by decide +kernel
theorem dX10_led_1 : decode cX10_led 1 = .ok (.iconst 0, 1) := by decide +kernel
theorem dX10_led_2 : decode cX10_led 2 = .ok (.iconst 4, 1) := by decide +kernel
theorem dX10_led_3 : decode cX10_led 3 = .ok (.invokestatic 83, 3) := by decide +kernel
theorem dX10_led_6 : decode cX10_led 6 = .ok (.ifCond .eq 15, 3) := by decide +kernel
theorem dX10_led_9 : decode cX10_led 9 = .ok (.aload_n 0, 1) := by decide +kernel
theorem dX10_led_10 : decode cX10_led 10 = .ok (.getfield 79, 3) := by decide +kernel
theorem dX10_led_13 : decode cX10_led 13 = .ok (.getfield 290, 3) := by decide +kernel
theorem dX10_led_16 : decode cX10_led 16 = .ok (.iload_n 1, 1) := by decide +kernel
theorem dX10_led_17 : decode cX10_led 17 = .ok (.iaload, 1) := by decide +kernel
theorem dX10_led_18 : decode cX10_led 18 = .ok (.goto 4, 3) := by decide +kernel
theorem dX10_led_21 : decode cX10_led 21 = .ok (.iconst (-1), 1) := by decide +kernel
theorem dX10_led_22 : decode cX10_led 22 = .ok (.ireturn, 1) := by decide +kernel
def Ch_led (S : St) (p1 : Int32) : Option Int32 :=
  bd1 (Ch_within S p1 (0 : Int32) (4 : Int32)) fun r1 =>
  if r1 = 0 then
    some (-1 : Int32)
  else
    ck (inb p1 5) <|
    some (gi S 31 p1.toNatClampNeg)
section
variable {p : Program} {l : Launch} {e : Env} {s : State} {m : MethodId} {args : Array Value} {below : List Frame} {meth : Method} {c : Code} {H : Heap} {locs : List Loc} {E : Ev} {S V : St} {ls : Array Slot}
set_option maxRecDepth 20000 in
theorem w_Ch_led {p1 : Int32} {r : Int32} (C : Cx p s m args meth c E cX10_led 2 RX10 (some .int)) (hw : Wd E (wX V E) s.heap S H locs) (hl : lv_has ls 2 [(0, .ref (ea E 0)), (1, .int p1)]) (hf : Ch_led S p1 = some r) : W p l e (rmh 2) s m args below meth c H locs 0 0 (MQ below (QW E (wX V E) (some (.int r)) S) args s 0 0 (eA E)) (F0 m 0 ls []) := by
  have hx := C.1
  have hb := C.2.1
  unfold Ch_led at hf
  refine lv_iload_n hx hb dX10_led_0 rfl (lv_at hl 1 rfl) ?_
  refine lv_iconst (v := 0) hx hb dX10_led_1 kc_0 ?_
  refine lv_iconst (v := 4) hx hb dX10_led_2 kc_4 ?_
  obtain ⟨r1, hr, hf⟩ := hf_1 hf
  refine inv_Si (As := [.int p1, .int (0 : Int32), .int (4 : Int32)]) lk_X10_83 C hw (t_Ch_within hr) hl.1 dX10_led_3 rfl (Nat.le_of_ble_eq_true rfl) (by decide) (Nat.le_of_ble_eq_true rfl) rfl (fun H locs hw => ?_)
  refine lv_if_eq (tgt := 21) hx hb dX10_led_6 (by decide) (fun q => ?_) (fun q => ?_)
  · have hf := hf_t q hf
    refine lv_iconst (v := -1) hx hb dX10_led_21 kc_m1 ?_
    exact ret_i C hw dX10_led_22 hf
  · have hf := hf_f q hf
    refine lv_aload_n hx hb dX10_led_9 rfl (lv_at hl 0 rfl) ?_
    refine get_0_6 C hw q_380 dX10_led_10 ?_
    refine get_7_0 C hw q_354 dX10_led_13 ?_
    refine lv_iload_n hx hb dX10_led_16 rfl (lv_at hl 1 rfl) ?_
    obtain ⟨hc, hf⟩ := hf_ck hf
    refine ld_31 C hw hc dX10_led_17 ?_
    refine lv_goto (tgt := 22) hx hb dX10_led_18 (by decide) ?_
    exact ret_i C hw dX10_led_22 hf
end
theorem t_Ch_led {l : Launch} {V : St} {S : St} {p1 : Int32} {r : Int32} (hf : Ch_led S p1 = some r) : Ct l (wX V) yX10_led cX10_led 2 (some .int) 2 (fun E => [.ref (ea E 0), .int p1]) S (fun E => some (.int r)) S :=
  ofBlock (by decide +kernel) (fun _ => Nat.le_of_ble_eq_true rfl) (fun E p e s m args below meth c ls C hw hl => w_Ch_led C hw hl hf)
theorem dX10_image_0 : decode cX10_image 0 = .ok (.aload_n 0, 1) := by decide +kernel
theorem dX10_image_1 : decode cX10_image 1 = .ok (.getfield 79, 3) := by decide +kernel
theorem dX10_image_4 : decode cX10_image 4 = .ok (.invokevirtual 293, 3) := by decide +kernel
theorem dX10_image_7 : decode cX10_image 7 = .ok (.ireturn, 1) := by decide +kernel
def Ch_image (S : St) : Option (Int32 × St) :=
  bd2 (De_keepImage S) fun r2 S1 =>
  some (r2, S1)
section
variable {p : Program} {l : Launch} {e : Env} {s : State} {m : MethodId} {args : Array Value} {below : List Frame} {meth : Method} {c : Code} {H : Heap} {locs : List Loc} {E : Ev} {S V : St} {ls : Array Slot}
set_option maxRecDepth 20000 in
theorem w_Ch_image {r : Int32} {S9 : St} (C : Cx p s m args meth c E cX10_image 1 RX10 (some .int)) (hw : Wd E (wX V E) s.heap S H locs) (hl : lv_has ls 1 [(0, .ref (ea E 0))]) (hf : Ch_image S = some (r, S9)) : W p l e (rmh 2) s m args below meth c H locs 0 0 (MQ below (QW E (wX V E) (some (.int r)) S9) args s 0 0 (eA E)) (F0 m 0 ls []) := by
  have hx := C.1
  have hb := C.2.1
  unfold Ch_image at hf
  refine lv_aload_n hx hb dX10_image_0 rfl (lv_at hl 0 rfl) ?_
  refine get_0_6 C hw q_380 dX10_image_1 ?_
  obtain ⟨r2, S1, hr, hf⟩ := hf_2 hf
  refine inv_Vi (q0 := 7) (ci := 3) (As := []) lk_X10_293 C hw rfl rfl rfl (t_De_keepImage hr) rfl hl.1 dX10_image_4 rfl (Nat.le_of_ble_eq_true rfl) (by decide) (Nat.le_of_ble_eq_true rfl) rfl (fun H locs hw => ?_)
  exact ret_iS C hw dX10_image_7 hf
end
theorem t_Ch_image {l : Launch} {V : St} {S : St} {r : Int32} {S9 : St} (hf : Ch_image S = some (r, S9)) : Ct l (wX V) yX10_image cX10_image 1 (some .int) 2 (fun E => [.ref (ea E 0)]) S (fun E => some (.int r)) S9 :=
  ofBlock (by decide +kernel) (fun _ => Nat.le_of_ble_eq_true rfl) (fun E p e s m args below meth c ls C hw hl => w_Ch_image C hw hl hf)
theorem dX10_back_0 : decode cX10_back 0 = .ok (.aload_n 0, 1) := by decide +kernel
theorem dX10_back_1 : decode cX10_back 1 = .ok (.getfield 79, 3) := by decide +kernel
theorem dX10_back_4 : decode cX10_back 4 = .ok (.getfield 296, 3) := by decide +kernel
theorem dX10_back_7 : decode cX10_back 7 = .ok (.ifCond .eq 13, 3) := by decide +kernel
theorem dX10_back_10 : decode cX10_back 10 = .ok (.aload_n 0, 1) := by decide +kernel
theorem dX10_back_11 : decode cX10_back 11 = .ok (.getfield 79, 3) := by decide +kernel
theorem dX10_back_14 : decode cX10_back 14 = .ok (.invokevirtual 300, 3) := by decide +kernel
theorem dX10_back_17 : decode cX10_back 17 = .ok (.goto 5, 3) := by decide +kernel
theorem dX10_back_20 : decode cX10_back 20 = .ok (.bipush (-5), 2) := by decide +kernel
theorem dX10_back_22 : decode cX10_back 22 = .ok (.ireturn, 1) := by decide +kernel
def Ch_back (S : St) : Option (Int32 × St) :=
  if (gi S 7 1) = 0 then
    some ((-5 : Int32), S)
  else
    bd2 (De_layBack S) fun r2 S1 =>
    some (r2, S1)
section
variable {p : Program} {l : Launch} {e : Env} {s : State} {m : MethodId} {args : Array Value} {below : List Frame} {meth : Method} {c : Code} {H : Heap} {locs : List Loc} {E : Ev} {S V : St} {ls : Array Slot}
set_option maxRecDepth 20000 in
theorem w_Ch_back {r : Int32} {S9 : St} (C : Cx p s m args meth c E cX10_back 1 RX10 (some .int)) (hw : Wd E (wX V E) s.heap S H locs) (hl : lv_has ls 1 [(0, .ref (ea E 0))]) (hf : Ch_back S = some (r, S9)) : W p l e (rmh 2) s m args below meth c H locs 0 0 (MQ below (QW E (wX V E) (some (.int r)) S9) args s 0 0 (eA E)) (F0 m 0 ls []) := by
  have hx := C.1
  have hb := C.2.1
  unfold Ch_back at hf
  refine lv_aload_n hx hb dX10_back_0 rfl (lv_at hl 0 rfl) ?_
  refine get_0_6 C hw q_380 dX10_back_1 ?_
  refine get_7_1 C hw q_356 dX10_back_4 ?_
  refine lv_if_eq (tgt := 20) hx hb dX10_back_7 (by decide) (fun q => ?_) (fun q => ?_)
  · have hf := hf_t q hf
    refine lv_bipush (v := -5) hx hb dX10_back_20 kb_m5 ?_
    exact ret_iS C hw dX10_back_22 hf
  · have hf := hf_f q hf
    refine lv_aload_n hx hb dX10_back_10 rfl (lv_at hl 0 rfl) ?_
    refine get_0_6 C hw q_380 dX10_back_11 ?_
    obtain ⟨r2, S1, hr, hf⟩ := hf_2 hf
    refine inv_Vi (q0 := 7) (ci := 3) (As := []) lk_X10_300 C hw rfl rfl rfl (t_De_layBack hr) rfl hl.1 dX10_back_14 rfl (Nat.le_of_ble_eq_true rfl) (by decide) (Nat.le_of_ble_eq_true rfl) rfl (fun H locs hw => ?_)
    refine lv_goto (tgt := 22) hx hb dX10_back_17 (by decide) ?_
    exact ret_iS C hw dX10_back_22 hf
end
theorem t_Ch_back {l : Launch} {V : St} {S : St} {r : Int32} {S9 : St} (hf : Ch_back S = some (r, S9)) : Ct l (wX V) yX10_back cX10_back 1 (some .int) 2 (fun E => [.ref (ea E 0)]) S (fun E => some (.int r)) S9 :=
  ofBlock (by decide +kernel) (fun _ => Nat.le_of_ble_eq_true rfl) (fun E p e s m args below meth c ls C hw hl => w_Ch_back C hw hl hf)
theorem dX10_undo_0 : decode cX10_undo 0 = .ok (.aload_n 0, 1) := by decide +kernel
theorem dX10_undo_1 : decode cX10_undo 1 = .ok (.getfield 40, 3) := by decide +kernel
theorem dX10_undo_4 : decode cX10_undo 4 = .ok (.getfield 303, 3) := by decide +kernel
theorem dX10_undo_7 : decode cX10_undo 7 = .ok (.ifCond .ne 6, 3) := by decide +kernel
theorem dX10_undo_10 : decode cX10_undo 10 = .ok (.bipush (-5), 2) := by decide +kernel
theorem dX10_undo_12 : decode cX10_undo 12 = .ok (.ireturn, 1) := by decide +kernel
theorem dX10_undo_13 : decode cX10_undo 13 = .ok (.aload_n 0, 1) := by decide +kernel
theorem dX10_undo_14 : decode cX10_undo 14 = .ok (.getfield 40, 3) := by decide +kernel
theorem dX10_undo_17 : decode cX10_undo 17 = .ok (.aload_n 0, 1) := by decide +kernel
theorem dX10_undo_18 : decode cX10_undo 18 = .ok (.getfield 10, 3) := by decide +kernel
theorem dX10_undo_21 : decode cX10_undo 21 = .ok (.invokevirtual 306, 3) := by decide +kernel
theorem dX10_undo_24 : decode cX10_undo 24 = .ok (.aload_n 0, 1) := by decide +kernel
theorem dX10_undo_25 : decode cX10_undo 25 = .ok (.getfield 40, 3) := by decide +kernel
theorem dX10_undo_28 : decode cX10_undo 28 = .ok (.getfield 303, 3) := by decide +kernel
theorem dX10_undo_31 : decode cX10_undo 31 = .ok (.ireturn, 1) := by decide +kernel
def Ch_undo (S : St) : Option (Int32 × St) :=
  if (gi S 8 0) = 0 then
    some ((-5 : Int32), S)
  else
    bd1 (Cg_stepBack S) fun S1 =>
    some ((gi S1 8 0), S1)
section
variable {p : Program} {l : Launch} {e : Env} {s : State} {m : MethodId} {args : Array Value} {below : List Frame} {meth : Method} {c : Code} {H : Heap} {locs : List Loc} {E : Ev} {S V : St} {ls : Array Slot}
set_option maxRecDepth 20000 in
theorem w_Ch_undo {r : Int32} {S9 : St} (C : Cx p s m args meth c E cX10_undo 1 RX10 (some .int)) (hw : Wd E (wX V E) s.heap S H locs) (hl : lv_has ls 1 [(0, .ref (ea E 0))]) (hf : Ch_undo S = some (r, S9)) : W p l e (rmh 4) s m args below meth c H locs 0 0 (MQ below (QW E (wX V E) (some (.int r)) S9) args s 0 0 (eA E)) (F0 m 0 ls []) := by
  have hx := C.1
  have hb := C.2.1
  unfold Ch_undo at hf
  refine lv_aload_n hx hb dX10_undo_0 rfl (lv_at hl 0 rfl) ?_
  refine get_0_7 C hw q_381 dX10_undo_1 ?_
  refine get_8_0 C hw q_262 dX10_undo_4 ?_
  refine lv_if_ne (tgt := 13) hx hb dX10_undo_7 (by decide) (fun q => ?_) (fun q => ?_)
  · have hf := hf_f q hf
    refine lv_aload_n hx hb dX10_undo_13 rfl (lv_at hl 0 rfl) ?_
    refine get_0_7 C hw q_381 dX10_undo_14 ?_
    refine lv_aload_n hx hb dX10_undo_17 rfl (lv_at hl 0 rfl) ?_
    refine get_0_0 C hw q_374 dX10_undo_18 ?_
    obtain ⟨S1, hr, hf⟩ := hf_1 hf
    refine inv_VAv (q0 := 8) (ci := 0) (As := fun E => [.ref (ea E 1)]) lk_X10_306 C hw rfl rfl rfl (t_Cg_stepBack hr) rfl hl.1 dX10_undo_21 rfl (Nat.le_of_ble_eq_true rfl) (by decide) (Nat.le_of_ble_eq_true rfl) rfl (fun H locs hw => ?_)
    refine lv_aload_n hx hb dX10_undo_24 rfl (lv_at hl 0 rfl) ?_
    refine get_0_7 C hw q_381 dX10_undo_25 ?_
    refine get_8_0 C hw q_262 dX10_undo_28 ?_
    exact ret_iS C hw dX10_undo_31 hf
  · have hf := hf_t q hf
    refine lv_bipush (v := -5) hx hb dX10_undo_10 kb_m5 ?_
    exact ret_iS C hw dX10_undo_12 hf
end
theorem t_Ch_undo {l : Launch} {V : St} {S : St} {r : Int32} {S9 : St} (hf : Ch_undo S = some (r, S9)) : Ct l (wX V) yX10_undo cX10_undo 1 (some .int) 4 (fun E => [.ref (ea E 0)]) S (fun E => some (.int r)) S9 :=
  ofBlock (by decide +kernel) (fun _ => Nat.le_of_ble_eq_true rfl) (fun E p e s m args below meth c ls C hw hl => w_Ch_undo C hw hl hf)
theorem dX10_redo_0 : decode cX10_redo 0 = .ok (.aload_n 0, 1) := by decide +kernel
theorem dX10_redo_1 : decode cX10_redo 1 = .ok (.getfield 40, 3) := by decide +kernel
theorem dX10_redo_4 : decode cX10_redo 4 = .ok (.getfield 303, 3) := by decide +kernel
theorem dX10_redo_7 : decode cX10_redo 7 = .ok (.aload_n 0, 1) := by decide +kernel
theorem dX10_redo_8 : decode cX10_redo 8 = .ok (.getfield 40, 3) := by decide +kernel
theorem dX10_redo_11 : decode cX10_redo 11 = .ok (.getfield 309, 3) := by decide +kernel
theorem dX10_redo_14 : decode cX10_redo 14 = .ok (.if_icmp .ne 6, 3) := by decide +kernel
theorem dX10_redo_17 : decode cX10_redo 17 = .ok (.bipush (-5), 2) := by decide +kernel
theorem dX10_redo_19 : decode cX10_redo 19 = .ok (.ireturn, 1) := by decide +kernel
theorem dX10_redo_20 : decode cX10_redo 20 = .ok (.aload_n 0, 1) := by decide +kernel
theorem dX10_redo_21 : decode cX10_redo 21 = .ok (.getfield 40, 3) := by decide +kernel
theorem dX10_redo_24 : decode cX10_redo 24 = .ok (.aload_n 0, 1) := by decide +kernel
theorem dX10_redo_25 : decode cX10_redo 25 = .ok (.getfield 10, 3) := by decide +kernel
theorem dX10_redo_28 : decode cX10_redo 28 = .ok (.invokevirtual 312, 3) := by decide +kernel
theorem dX10_redo_31 : decode cX10_redo 31 = .ok (.aload_n 0, 1) := by decide +kernel
theorem dX10_redo_32 : decode cX10_redo 32 = .ok (.getfield 40, 3) := by decide +kernel
theorem dX10_redo_35 : decode cX10_redo 35 = .ok (.getfield 309, 3) := by decide +kernel
theorem dX10_redo_38 : decode cX10_redo 38 = .ok (.aload_n 0, 1) := by decide +kernel
theorem dX10_redo_39 : decode cX10_redo 39 = .ok (.getfield 40, 3) := by decide +kernel
theorem dX10_redo_42 : decode cX10_redo 42 = .ok (.getfield 303, 3) := by decide +kernel
theorem dX10_redo_45 : decode cX10_redo 45 = .ok (.isub, 1) := by decide +kernel
theorem dX10_redo_46 : decode cX10_redo 46 = .ok (.ireturn, 1) := by decide +kernel
def Ch_redo (S : St) : Option (Int32 × St) :=
  if (gi S 8 0) = (gi S 8 1) then
    some ((-5 : Int32), S)
  else
    bd1 (Cg_stepForward S) fun S1 =>
    some (((gi S1 8 1) - (gi S1 8 0)), S1)
section
variable {p : Program} {l : Launch} {e : Env} {s : State} {m : MethodId} {args : Array Value} {below : List Frame} {meth : Method} {c : Code} {H : Heap} {locs : List Loc} {E : Ev} {S V : St} {ls : Array Slot}
set_option maxRecDepth 20000 in
theorem w_Ch_redo {r : Int32} {S9 : St} (C : Cx p s m args meth c E cX10_redo 1 RX10 (some .int)) (hw : Wd E (wX V E) s.heap S H locs) (hl : lv_has ls 1 [(0, .ref (ea E 0))]) (hf : Ch_redo S = some (r, S9)) : W p l e (rmh 4) s m args below meth c H locs 0 0 (MQ below (QW E (wX V E) (some (.int r)) S9) args s 0 0 (eA E)) (F0 m 0 ls []) := by
  have hx := C.1
  have hb := C.2.1
  unfold Ch_redo at hf
  refine lv_aload_n hx hb dX10_redo_0 rfl (lv_at hl 0 rfl) ?_
  refine get_0_7 C hw q_381 dX10_redo_1 ?_
  refine get_8_0 C hw q_262 dX10_redo_4 ?_
  refine lv_aload_n hx hb dX10_redo_7 rfl (lv_at hl 0 rfl) ?_
  refine get_0_7 C hw q_381 dX10_redo_8 ?_
  refine get_8_1 C hw q_264 dX10_redo_11 ?_
  refine lv_icmp_ne (tgt := 20) hx hb dX10_redo_14 (by decide) (fun q => ?_) (fun q => ?_)
  · have hf := hf_f q hf
    refine lv_aload_n hx hb dX10_redo_20 rfl (lv_at hl 0 rfl) ?_
    refine get_0_7 C hw q_381 dX10_redo_21 ?_
    refine lv_aload_n hx hb dX10_redo_24 rfl (lv_at hl 0 rfl) ?_
    refine get_0_0 C hw q_374 dX10_redo_25 ?_
    obtain ⟨S1, hr, hf⟩ := hf_1 hf
    refine inv_VAv (q0 := 8) (ci := 0) (As := fun E => [.ref (ea E 1)]) lk_X10_312 C hw rfl rfl rfl (t_Cg_stepForward hr) rfl hl.1 dX10_redo_28 rfl (Nat.le_of_ble_eq_true rfl) (by decide) (Nat.le_of_ble_eq_true rfl) rfl (fun H locs hw => ?_)
    refine lv_aload_n hx hb dX10_redo_31 rfl (lv_at hl 0 rfl) ?_
    refine get_0_7 C hw q_381 dX10_redo_32 ?_
    refine get_8_1 C hw q_264 dX10_redo_35 ?_
    refine lv_aload_n hx hb dX10_redo_38 rfl (lv_at hl 0 rfl) ?_
    refine get_0_7 C hw q_381 dX10_redo_39 ?_
    refine get_8_0 C hw q_262 dX10_redo_42 ?_
    refine lv_isub hx hb dX10_redo_45 ?_
    exact ret_iS C hw dX10_redo_46 hf
  · have hf := hf_t q hf
    refine lv_bipush (v := -5) hx hb dX10_redo_17 kb_m5 ?_
    exact ret_iS C hw dX10_redo_19 hf
end
theorem t_Ch_redo {l : Launch} {V : St} {S : St} {r : Int32} {S9 : St} (hf : Ch_redo S = some (r, S9)) : Ct l (wX V) yX10_redo cX10_redo 1 (some .int) 4 (fun E => [.ref (ea E 0)]) S (fun E => some (.int r)) S9 :=
  ofBlock (by decide +kernel) (fun _ => Nat.le_of_ble_eq_true rfl) (fun E p e s m args below meth c ls C hw hl => w_Ch_redo C hw hl hf)
theorem dX10_body_0 : decode cX10_body 0 = .ok (.iload_n 1, 1) := by decide +kernel
theorem dX10_body_1 : decode cX10_body 1 = .ok (.iconst 0, 1) := by decide +kernel
theorem dX10_body_2 : decode cX10_body 2 = .ok (.bipush 7, 2) := by decide +kernel
theorem dX10_body_4 : decode cX10_body 4 = .ok (.invokestatic 83, 3) := by decide +kernel
theorem dX10_body_7 : decode cX10_body 7 = .ok (.ifCond .ne 5, 3) := by decide +kernel
theorem dX10_body_10 : decode cX10_body 10 = .ok (.iconst (-1), 1) := by decide +kernel
theorem dX10_body_11 : decode cX10_body 11 = .ok (.ireturn, 1) := by decide +kernel
theorem dX10_body_12 : decode cX10_body 12 = .ok (.aload_n 0, 1) := by decide +kernel
theorem dX10_body_13 : decode cX10_body 13 = .ok (.getfield 33, 3) := by decide +kernel
theorem dX10_body_16 : decode cX10_body 16 = .ok (.getfield 315, 3) := by decide +kernel
theorem dX10_body_19 : decode cX10_body 19 = .ok (.bipush 50, 2) := by decide +kernel
theorem dX10_body_21 : decode cX10_body 21 = .ok (.if_icmp .ne 8, 3) := by decide +kernel
theorem dX10_body_24 : decode cX10_body 24 = .ok (.bipush (-3), 2) := by decide +kernel
theorem dX10_body_26 : decode cX10_body 26 = .ok (.goto 11, 3) := by decide +kernel
theorem dX10_body_29 : decode cX10_body 29 = .ok (.aload_n 0, 1) := by decide +kernel
theorem dX10_body_30 : decode cX10_body 30 = .ok (.getfield 33, 3) := by decide +kernel
theorem dX10_body_33 : decode cX10_body 33 = .ok (.iload_n 1, 1) := by decide +kernel
theorem dX10_body_34 : decode cX10_body 34 = .ok (.invokevirtual 318, 3) := by decide +kernel
theorem dX10_body_37 : decode cX10_body 37 = .ok (.ireturn, 1) := by decide +kernel
def Ch_body (S : St) (p1 : Int32) : Option (Int32 × St) :=
  bd1 (Ch_within S p1 (0 : Int32) (7 : Int32)) fun r1 =>
  if r1 = 0 then
    some ((-1 : Int32), S)
  else
    if (gi S 9 0) = (50 : Int32) then
      some ((-3 : Int32), S)
    else
      bd2 (Li_add S p1) fun r3 S2 =>
      some (r3, S2)
section
variable {p : Program} {l : Launch} {e : Env} {s : State} {m : MethodId} {args : Array Value} {below : List Frame} {meth : Method} {c : Code} {H : Heap} {locs : List Loc} {E : Ev} {S V : St} {ls : Array Slot}
set_option maxRecDepth 20000 in
theorem w_Ch_body {p1 : Int32} {r : Int32} {S9 : St} (C : Cx p s m args meth c E cX10_body 2 RX10 (some .int)) (hw : Wd E (wX V E) s.heap S H locs) (hl : lv_has ls 2 [(0, .ref (ea E 0)), (1, .int p1)]) (hf : Ch_body S p1 = some (r, S9)) : W p l e (rmh 2) s m args below meth c H locs 0 0 (MQ below (QW E (wX V E) (some (.int r)) S9) args s 0 0 (eA E)) (F0 m 0 ls []) := by
  have hx := C.1
  have hb := C.2.1
  unfold Ch_body at hf
  refine lv_iload_n hx hb dX10_body_0 rfl (lv_at hl 1 rfl) ?_
  refine lv_iconst (v := 0) hx hb dX10_body_1 kc_0 ?_
  refine lv_bipush (v := 7) hx hb dX10_body_2 kb_7 ?_
  obtain ⟨r1, hr, hf⟩ := hf_1 hf
  refine inv_Si (As := [.int p1, .int (0 : Int32), .int (7 : Int32)]) lk_X10_83 C hw (t_Ch_within hr) hl.1 dX10_body_4 rfl (Nat.le_of_ble_eq_true rfl) (by decide) (Nat.le_of_ble_eq_true rfl) rfl (fun H locs hw => ?_)
  refine lv_if_ne (tgt := 12) hx hb dX10_body_7 (by decide) (fun q => ?_) (fun q => ?_)
  · have hf := hf_f q hf
    refine lv_aload_n hx hb dX10_body_12 rfl (lv_at hl 0 rfl) ?_
    refine get_0_8 C hw q_382 dX10_body_13 ?_
    refine get_9_0 C hw q_237 dX10_body_16 ?_
    refine lv_bipush (v := 50) hx hb dX10_body_19 kb_50 ?_
    refine lv_icmp_ne (tgt := 29) hx hb dX10_body_21 (by decide) (fun q => ?_) (fun q => ?_)
    · have hf := hf_f q hf
      refine lv_aload_n hx hb dX10_body_29 rfl (lv_at hl 0 rfl) ?_
      refine get_0_8 C hw q_382 dX10_body_30 ?_
      refine lv_iload_n hx hb dX10_body_33 rfl (lv_at hl 1 rfl) ?_
      obtain ⟨r3, S2, hr, hf⟩ := hf_2 hf
      refine inv_Vi (q0 := 9) (ci := 6) (As := [.int p1]) lk_X10_318 C hw rfl rfl rfl (t_Li_add hr) rfl hl.1 dX10_body_34 rfl (Nat.le_of_ble_eq_true rfl) (by decide) (Nat.le_of_ble_eq_true rfl) rfl (fun H locs hw => ?_)
      exact ret_iS C hw dX10_body_37 hf
    · have hf := hf_t q hf
      refine lv_bipush (v := -3) hx hb dX10_body_24 kb_m3 ?_
      refine lv_goto (tgt := 37) hx hb dX10_body_26 (by decide) ?_
      exact ret_iS C hw dX10_body_37 hf
  · have hf := hf_t q hf
    refine lv_iconst (v := -1) hx hb dX10_body_10 kc_m1 ?_
    exact ret_iS C hw dX10_body_11 hf
end
theorem t_Ch_body {l : Launch} {V : St} {S : St} {p1 : Int32} {r : Int32} {S9 : St} (hf : Ch_body S p1 = some (r, S9)) : Ct l (wX V) yX10_body cX10_body 2 (some .int) 2 (fun E => [.ref (ea E 0), .int p1]) S (fun E => some (.int r)) S9 :=
  ofBlock (by decide +kernel) (fun _ => Nat.le_of_ble_eq_true rfl) (fun E p e s m args below meth c ls C hw hl => w_Ch_body C hw hl hf)
theorem dX10_act_0 : decode cX10_act 0 = .ok (.aload_n 0, 1) := by decide +kernel
theorem dX10_act_1 : decode cX10_act 1 = .ok (.getfield 33, 3) := by decide +kernel
theorem dX10_act_4 : decode cX10_act 4 = .ok (.iload_n 1, 1) := by decide +kernel
theorem dX10_act_5 : decode cX10_act 5 = .ok (.iload_n 2, 1) := by decide +kernel
theorem dX10_act_6 : decode cX10_act 6 = .ok (.iload_n 3, 1) := by decide +kernel
theorem dX10_act_7 : decode cX10_act 7 = .ok (.invokevirtual 320, 3) := by decide +kernel
theorem dX10_act_10 : decode cX10_act 10 = .ok (.ireturn, 1) := by decide +kernel
def Ch_act (N : Nat) (S : St) (p1 : Int32) (p2 : Int32) (p3 : Int32) : Option (Int32 × St) :=
  bd2 (Li_perform N S p1 p2 p3) fun r2 S1 =>
  some (r2, S1)
section
variable {p : Program} {l : Launch} {e : Env} {s : State} {m : MethodId} {args : Array Value} {below : List Frame} {meth : Method} {c : Code} {H : Heap} {locs : List Loc} {E : Ev} {S V : St} {ls : Array Slot}
set_option maxRecDepth 20000 in
theorem w_Ch_act {N : Nat} {p1 : Int32} {p2 : Int32} {p3 : Int32} {r : Int32} {S9 : St} (C : Cx p s m args meth c E cX10_act 4 RX10 (some .int)) (hw : Wd E (wX V E) s.heap S H locs) (hl : lv_has ls 4 [(0, .ref (ea E 0)), (1, .int p1), (2, .int p2), (3, .int p3)]) (hf : Ch_act N S p1 p2 p3 = some (r, S9)) : W p l e (rmh (N + 4)) s m args below meth c H locs 0 0 (MQ below (QW E (wX V E) (some (.int r)) S9) args s 0 0 (eA E)) (F0 m 0 ls []) := by
  have hx := C.1
  have hb := C.2.1
  unfold Ch_act at hf
  refine lv_aload_n hx hb dX10_act_0 rfl (lv_at hl 0 rfl) ?_
  refine get_0_8 C hw q_382 dX10_act_1 ?_
  refine lv_iload_n hx hb dX10_act_4 rfl (lv_at hl 1 rfl) ?_
  refine lv_iload_n hx hb dX10_act_5 rfl (lv_at hl 2 rfl) ?_
  refine lv_iload_n hx hb dX10_act_6 rfl (lv_at hl 3 rfl) ?_
  obtain ⟨r2, S1, hr, hf⟩ := hf_2 hf
  refine inv_Vi (q0 := 9) (ci := 6) (As := [.int p1, .int p2, .int p3]) lk_X10_320 C hw rfl rfl rfl (t_Li_perform hr) rfl hl.1 dX10_act_7 rfl (by omega) (by decide) (Nat.le_of_ble_eq_true rfl) rfl (fun H locs hw => ?_)
  exact ret_iS C hw dX10_act_10 hf
end
theorem t_Ch_act {l : Launch} {V : St} {N : Nat} {S : St} {p1 : Int32} {p2 : Int32} {p3 : Int32} {r : Int32} {S9 : St} (hf : Ch_act N S p1 p2 p3 = some (r, S9)) : Ct l (wX V) yX10_act cX10_act 4 (some .int) (N + 4) (fun E => [.ref (ea E 0), .int p1, .int p2, .int p3]) S (fun E => some (.int r)) S9 :=
  ofBlock (by decide +kernel) (fun _ => Nat.le_of_ble_eq_true rfl) (fun E p e s m args below meth c ls C hw hl => w_Ch_act C hw hl hf)
theorem dX10_trace_0 : decode cX10_trace 0 = .ok (.iload_n 1, 1) := by decide +kernel
theorem dX10_trace_1 : decode cX10_trace 1 = .ok (.ifCond .lt 31, 3) := by decide +kernel
theorem dX10_trace_4 : decode cX10_trace 4 = .ok (.iload_n 1, 1) := by decide +kernel
theorem dX10_trace_5 : decode cX10_trace 5 = .ok (.aload_n 0, 1) := by decide +kernel
theorem dX10_trace_6 : decode cX10_trace 6 = .ok (.getfield 33, 3) := by decide +kernel
theorem dX10_trace_9 : decode cX10_trace 9 = .ok (.getfield 323, 3) := by decide +kernel
theorem dX10_trace_12 : decode cX10_trace 12 = .ok (.bipush 24, 2) := by decide +kernel
theorem dX10_trace_14 : decode cX10_trace 14 = .ok (.invokestatic 326, 3) := by decide +kernel
theorem dX10_trace_17 : decode cX10_trace 17 = .ok (.if_icmp .ge 15, 3) := by decide +kernel
theorem dX10_trace_20 : decode cX10_trace 20 = .ok (.aload_n 0, 1) := by decide +kernel
theorem dX10_trace_21 : decode cX10_trace 21 = .ok (.getfield 33, 3) := by decide +kernel
theorem dX10_trace_24 : decode cX10_trace 24 = .ok (.getfield 331, 3) := by decide +kernel
theorem dX10_trace_27 : decode cX10_trace 27 = .ok (.iload_n 1, 1) := by decide +kernel
theorem dX10_trace_28 : decode cX10_trace 28 = .ok (.iaload, 1) := by decide +kernel
theorem dX10_trace_29 : decode cX10_trace 29 = .ok (.goto 4, 3) := by decide +kernel
theorem dX10_trace_32 : decode cX10_trace 32 = .ok (.iconst (-1), 1) := by decide +kernel
theorem dX10_trace_33 : decode cX10_trace 33 = .ok (.ireturn, 1) := by decide +kernel
def Ch_trace (S : St) (p1 : Int32) : Option Int32 :=
  if p1 < 0 then
    some (-1 : Int32)
  else
    bd1 (Ma_min S (gi S 9 1) (24 : Int32)) fun r1 =>
    if r1 ≤ p1 then
      some (-1 : Int32)
    else
      ck (inb p1 24) <|
      some (gi S 38 p1.toNatClampNeg)
section
variable {p : Program} {l : Launch} {e : Env} {s : State} {m : MethodId} {args : Array Value} {below : List Frame} {meth : Method} {c : Code} {H : Heap} {locs : List Loc} {E : Ev} {S V : St} {ls : Array Slot}
set_option maxRecDepth 20000 in
theorem w_Ch_trace {p1 : Int32} {r : Int32} (C : Cx p s m args meth c E cX10_trace 2 RX10 (some .int)) (hw : Wd E (wX V E) s.heap S H locs) (hl : lv_has ls 2 [(0, .ref (ea E 0)), (1, .int p1)]) (hf : Ch_trace S p1 = some r) : W p l e (rmh 2) s m args below meth c H locs 0 0 (MQ below (QW E (wX V E) (some (.int r)) S) args s 0 0 (eA E)) (F0 m 0 ls []) := by
  have hx := C.1
  have hb := C.2.1
  unfold Ch_trace at hf
  refine lv_iload_n hx hb dX10_trace_0 rfl (lv_at hl 1 rfl) ?_
  refine lv_if_lt (tgt := 32) hx hb dX10_trace_1 (by decide) (fun q => ?_) (fun q => ?_)
  · have hf := hf_t q hf
    refine lv_iconst (v := -1) hx hb dX10_trace_32 kc_m1 ?_
    exact ret_i C hw dX10_trace_33 hf
  · have hf := hf_f q hf
    refine lv_iload_n hx hb dX10_trace_4 rfl (lv_at hl 1 rfl) ?_
    refine lv_aload_n hx hb dX10_trace_5 rfl (lv_at hl 0 rfl) ?_
    refine get_0_8 C hw q_382 dX10_trace_6 ?_
    refine get_9_1 C hw q_239 dX10_trace_9 ?_
    refine lv_bipush (v := 24) hx hb dX10_trace_12 kb_24 ?_
    obtain ⟨r1, hr, hf⟩ := hf_1 hf
    refine inv_Si (As := [.int (gi S 9 1), .int (24 : Int32)]) lk_X10_326 C hw (t_Ma_min hr) hl.1 dX10_trace_14 rfl (Nat.le_of_ble_eq_true rfl) (by decide) (Nat.le_of_ble_eq_true rfl) rfl (fun H locs hw => ?_)
    refine lv_icmp_ge (tgt := 32) hx hb dX10_trace_17 (by decide) (fun q => ?_) (fun q => ?_)
    · have hf := hf_t q hf
      refine lv_iconst (v := -1) hx hb dX10_trace_32 kc_m1 ?_
      exact ret_i C hw dX10_trace_33 hf
    · have hf := hf_f q hf
      refine lv_aload_n hx hb dX10_trace_20 rfl (lv_at hl 0 rfl) ?_
      refine get_0_8 C hw q_382 dX10_trace_21 ?_
      refine get_9_2 C hw q_241 dX10_trace_24 ?_
      refine lv_iload_n hx hb dX10_trace_27 rfl (lv_at hl 1 rfl) ?_
      obtain ⟨hc, hf⟩ := hf_ck hf
      refine ld_38 C hw hc dX10_trace_28 ?_
      refine lv_goto (tgt := 33) hx hb dX10_trace_29 (by decide) ?_
      exact ret_i C hw dX10_trace_33 hf
end
theorem t_Ch_trace {l : Launch} {V : St} {S : St} {p1 : Int32} {r : Int32} (hf : Ch_trace S p1 = some r) : Ct l (wX V) yX10_trace cX10_trace 2 (some .int) 2 (fun E => [.ref (ea E 0), .int p1]) S (fun E => some (.int r)) S :=
  ofBlock (by decide +kernel) (fun _ => Nat.le_of_ble_eq_true rfl) (fun E p e s m args below meth c ls C hw hl => w_Ch_trace C hw hl hf)
theorem dX10_keep_0 : decode cX10_keep 0 = .ok (.aload_n 0, 1) := by decide +kernel
theorem dX10_keep_1 : decode cX10_keep 1 = .ok (.getfield 26, 3) := by decide +kernel
theorem dX10_keep_4 : decode cX10_keep 4 = .ok (.iload_n 1, 1) := by decide +kernel
theorem dX10_keep_5 : decode cX10_keep 5 = .ok (.invokevirtual 107, 3) := by decide +kernel
theorem dX10_keep_8 : decode cX10_keep 8 = .ok (.ifCond .eq 19, 3) := by decide +kernel
theorem dX10_keep_11 : decode cX10_keep 11 = .ok (.iload_n 2, 1) := by decide +kernel
theorem dX10_keep_12 : decode cX10_keep 12 = .ok (.iconst (-1), 1) := by decide +kernel
theorem dX10_keep_13 : decode cX10_keep 13 = .ok (.if_icmp .eq 16, 3) := by decide +kernel
theorem dX10_keep_16 : decode cX10_keep 16 = .ok (.aload_n 0, 1) := by decide +kernel
theorem dX10_keep_17 : decode cX10_keep 17 = .ok (.getfield 33, 3) := by decide +kernel
theorem dX10_keep_20 : decode cX10_keep 20 = .ok (.iload_n 2, 1) := by decide +kernel
theorem dX10_keep_21 : decode cX10_keep 21 = .ok (.invokevirtual 334, 3) := by decide +kernel
theorem dX10_keep_24 : decode cX10_keep 24 = .ok (.ifCond .ne 5, 3) := by decide +kernel
theorem dX10_keep_27 : decode cX10_keep 27 = .ok (.iconst (-1), 1) := by decide +kernel
theorem dX10_keep_28 : decode cX10_keep 28 = .ok (.ireturn, 1) := by decide +kernel
theorem dX10_keep_29 : decode cX10_keep 29 = .ok (.iload_n 2, 1) := by decide +kernel
theorem dX10_keep_30 : decode cX10_keep 30 = .ok (.iconst (-1), 1) := by decide +kernel
theorem dX10_keep_31 : decode cX10_keep 31 = .ok (.if_icmp .ne 14, 3) := by decide +kernel
theorem dX10_keep_34 : decode cX10_keep 34 = .ok (.aload_n 0, 1) := by decide +kernel
theorem dX10_keep_35 : decode cX10_keep 35 = .ok (.getfield 26, 3) := by decide +kernel
theorem dX10_keep_38 : decode cX10_keep 38 = .ok (.iload_n 1, 1) := by decide +kernel
theorem dX10_keep_39 : decode cX10_keep 39 = .ok (.invokevirtual 337, 3) := by decide +kernel
theorem dX10_keep_42 : decode cX10_keep 42 = .ok (.goto 12, 3) := by decide +kernel
theorem dX10_keep_45 : decode cX10_keep 45 = .ok (.aload_n 0, 1) := by decide +kernel
theorem dX10_keep_46 : decode cX10_keep 46 = .ok (.getfield 26, 3) := by decide +kernel
theorem dX10_keep_49 : decode cX10_keep 49 = .ok (.iload_n 1, 1) := by decide +kernel
theorem dX10_keep_50 : decode cX10_keep 50 = .ok (.iload_n 2, 1) := by decide +kernel
theorem dX10_keep_51 : decode cX10_keep 51 = .ok (.invokevirtual 340, 3) := by decide +kernel
theorem dX10_keep_54 : decode cX10_keep 54 = .ok (.ireturn, 1) := by decide +kernel
def Ch_keep_b29 (S : St) (l1 : Int32) (l2 : Int32) : Option (Int32 × St) :=
  if l2 = (-1 : Int32) then
    bd2 (Sh_clear S l1) fun r4 S3 =>
    some (r4, S3)
  else
    bd2 (Sh_holdLink S l1 l2) fun r2 S1 =>
    some (r2, S1)
def Ch_keep (S : St) (p1 : Int32) (p2 : Int32) : Option (Int32 × St) :=
  bd1 (Sh_isShelf S p1) fun r1 =>
  if r1 = 0 then
    some ((-1 : Int32), S)
  else
    if p2 = (-1 : Int32) then
      Ch_keep_b29 S p1 p2
    else
      bd1 (Li_isBody S p2) fun r2 =>
      if r2 = 0 then
        some ((-1 : Int32), S)
      else
        Ch_keep_b29 S p1 p2
section
variable {p : Program} {l : Launch} {e : Env} {s : State} {m : MethodId} {args : Array Value} {below : List Frame} {meth : Method} {c : Code} {H : Heap} {locs : List Loc} {E : Ev} {S V : St} {ls : Array Slot}
set_option maxRecDepth 20000 in
theorem w_Ch_keep_b29 {l1 : Int32} {l2 : Int32} {r : Int32} {S9 : St} (C : Cx p s m args meth c E cX10_keep 3 RX10 (some .int)) (hw : Wd E (wX V E) s.heap S H locs) (hl : lv_has ls 3 [(0, .ref (ea E 0)), (1, .int l1), (2, .int l2)]) (hf : Ch_keep_b29 S l1 l2 = some (r, S9)) : W p l e (rmh 2) s m args below meth c H locs 0 0 (MQ below (QW E (wX V E) (some (.int r)) S9) args s 0 0 (eA E)) (F0 m 29 ls []) := by
  have hx := C.1
  have hb := C.2.1
  unfold Ch_keep_b29 at hf
  refine lv_iload_n hx hb dX10_keep_29 rfl (lv_at hl 2 rfl) ?_
  refine lv_iconst (v := -1) hx hb dX10_keep_30 kc_m1 ?_
  refine lv_icmp_ne (tgt := 45) hx hb dX10_keep_31 (by decide) (fun q => ?_) (fun q => ?_)
  · have hf := hf_f q hf
    refine lv_aload_n hx hb dX10_keep_45 rfl (lv_at hl 0 rfl) ?_
    refine get_0_9 C hw q_383 dX10_keep_46 ?_
    refine lv_iload_n hx hb dX10_keep_49 rfl (lv_at hl 1 rfl) ?_
    refine lv_iload_n hx hb dX10_keep_50 rfl (lv_at hl 2 rfl) ?_
    obtain ⟨r2, S1, hr, hf⟩ := hf_2 hf
    refine inv_Vi (q0 := 10) (ci := 7) (As := [.int l1, .int l2]) lk_X10_340 C hw rfl rfl rfl (t_Sh_holdLink hr) rfl hl.1 dX10_keep_51 rfl (Nat.le_of_ble_eq_true rfl) (by decide) (Nat.le_of_ble_eq_true rfl) rfl (fun H locs hw => ?_)
    exact ret_iS C hw dX10_keep_54 hf
  · have hf := hf_t q hf
    refine lv_aload_n hx hb dX10_keep_34 rfl (lv_at hl 0 rfl) ?_
    refine get_0_9 C hw q_383 dX10_keep_35 ?_
    refine lv_iload_n hx hb dX10_keep_38 rfl (lv_at hl 1 rfl) ?_
    obtain ⟨r4, S3, hr, hf⟩ := hf_2 hf
    refine inv_Vi (q0 := 10) (ci := 7) (As := [.int l1]) lk_X10_337 C hw rfl rfl rfl (t_Sh_clear hr) rfl hl.1 dX10_keep_39 rfl (Nat.le_of_ble_eq_true rfl) (by decide) (Nat.le_of_ble_eq_true rfl) rfl (fun H locs hw => ?_)
    refine lv_goto (tgt := 54) hx hb dX10_keep_42 (by decide) ?_
    exact ret_iS C hw dX10_keep_54 hf
set_option maxRecDepth 20000 in
theorem w_Ch_keep {p1 : Int32} {p2 : Int32} {r : Int32} {S9 : St} (C : Cx p s m args meth c E cX10_keep 3 RX10 (some .int)) (hw : Wd E (wX V E) s.heap S H locs) (hl : lv_has ls 3 [(0, .ref (ea E 0)), (1, .int p1), (2, .int p2)]) (hf : Ch_keep S p1 p2 = some (r, S9)) : W p l e (rmh 2) s m args below meth c H locs 0 0 (MQ below (QW E (wX V E) (some (.int r)) S9) args s 0 0 (eA E)) (F0 m 0 ls []) := by
  have hx := C.1
  have hb := C.2.1
  unfold Ch_keep at hf
  refine lv_aload_n hx hb dX10_keep_0 rfl (lv_at hl 0 rfl) ?_
  refine get_0_9 C hw q_383 dX10_keep_1 ?_
  refine lv_iload_n hx hb dX10_keep_4 rfl (lv_at hl 1 rfl) ?_
  obtain ⟨r1, hr, hf⟩ := hf_1 hf
  refine inv_Vi (q0 := 10) (ci := 7) (As := [.int p1]) lk_X10_107 C hw rfl rfl rfl (t_Sh_isShelf hr) rfl hl.1 dX10_keep_5 rfl (Nat.le_of_ble_eq_true rfl) (by decide) (Nat.le_of_ble_eq_true rfl) rfl (fun H locs hw => ?_)
  refine lv_if_eq (tgt := 27) hx hb dX10_keep_8 (by decide) (fun q => ?_) (fun q => ?_)
  · have hf := hf_t q hf
    refine lv_iconst (v := -1) hx hb dX10_keep_27 kc_m1 ?_
    exact ret_iS C hw dX10_keep_28 hf
  · have hf := hf_f q hf
    refine lv_iload_n hx hb dX10_keep_11 rfl (lv_at hl 2 rfl) ?_
    refine lv_iconst (v := -1) hx hb dX10_keep_12 kc_m1 ?_
    refine lv_icmp_eq (tgt := 29) hx hb dX10_keep_13 (by decide) (fun q => ?_) (fun q => ?_)
    · have hf := hf_t q hf
      exact w_Ch_keep_b29 C hw (lv_sub hl [0, 1, 2] rfl) hf
    · have hf := hf_f q hf
      refine lv_aload_n hx hb dX10_keep_16 rfl (lv_at hl 0 rfl) ?_
      refine get_0_8 C hw q_382 dX10_keep_17 ?_
      refine lv_iload_n hx hb dX10_keep_20 rfl (lv_at hl 2 rfl) ?_
      obtain ⟨r2, hr, hf⟩ := hf_1 hf
      refine inv_Vi (q0 := 9) (ci := 6) (As := [.int p2]) lk_X10_334 C hw rfl rfl rfl (t_Li_isBody hr) rfl hl.1 dX10_keep_21 rfl (Nat.le_of_ble_eq_true rfl) (by decide) (Nat.le_of_ble_eq_true rfl) rfl (fun H locs hw => ?_)
      refine lv_if_ne (tgt := 29) hx hb dX10_keep_24 (by decide) (fun q => ?_) (fun q => ?_)
      · have hf := hf_f q hf
        exact w_Ch_keep_b29 C hw (lv_sub hl [0, 1, 2] rfl) hf
      · have hf := hf_t q hf
        refine lv_iconst (v := -1) hx hb dX10_keep_27 kc_m1 ?_
        exact ret_iS C hw dX10_keep_28 hf
end
theorem t_Ch_keep {l : Launch} {V : St} {S : St} {p1 : Int32} {p2 : Int32} {r : Int32} {S9 : St} (hf : Ch_keep S p1 p2 = some (r, S9)) : Ct l (wX V) yX10_keep cX10_keep 3 (some .int) 2 (fun E => [.ref (ea E 0), .int p1, .int p2]) S (fun E => some (.int r)) S9 :=
  ofBlock (by decide +kernel) (fun _ => Nat.le_of_ble_eq_true rfl) (fun E p e s m args below meth c ls C hw hl => w_Ch_keep C hw hl hf)
theorem dX10_row_0 : decode cX10_row 0 = .ok (.aload_n 0, 1) := by decide +kernel
theorem dX10_row_1 : decode cX10_row 1 = .ok (.getfield 26, 3) := by decide +kernel
theorem dX10_row_4 : decode cX10_row 4 = .ok (.iload_n 1, 1) := by decide +kernel
theorem dX10_row_5 : decode cX10_row 5 = .ok (.invokevirtual 107, 3) := by decide +kernel
theorem dX10_row_8 : decode cX10_row 8 = .ok (.ifCond .eq 18, 3) := by decide +kernel
theorem dX10_row_11 : decode cX10_row 11 = .ok (.iload_n 2, 1) := by decide +kernel
theorem dX10_row_12 : decode cX10_row 12 = .ok (.iconst 0, 1) := by decide +kernel
theorem dX10_row_13 : decode cX10_row 13 = .ok (.iconst 4, 1) := by decide +kernel
theorem dX10_row_14 : decode cX10_row 14 = .ok (.invokestatic 83, 3) := by decide +kernel
theorem dX10_row_17 : decode cX10_row 17 = .ok (.ifCond .eq 9, 3) := by decide +kernel
theorem dX10_row_20 : decode cX10_row 20 = .ok (.iload_n 3, 1) := by decide +kernel
theorem dX10_row_21 : decode cX10_row 21 = .ok (.bipush 60, 2) := by decide +kernel
theorem dX10_row_23 : decode cX10_row 23 = .ok (.if_icmp .le 5, 3) := by decide +kernel
theorem dX10_row_26 : decode cX10_row 26 = .ok (.iconst (-1), 1) := by decide +kernel
theorem dX10_row_27 : decode cX10_row 27 = .ok (.ireturn, 1) := by decide +kernel
theorem dX10_row_28 : decode cX10_row 28 = .ok (.iload_n 3, 1) := by decide +kernel
theorem dX10_row_29 : decode cX10_row 29 = .ok (.ifCond .ge 8, 3) := by decide +kernel
theorem dX10_row_32 : decode cX10_row 32 = .ok (.bipush (-14), 2) := by decide +kernel
theorem dX10_row_34 : decode cX10_row 34 = .ok (.goto 13, 3) := by decide +kernel
theorem dX10_row_37 : decode cX10_row 37 = .ok (.aload_n 0, 1) := by decide +kernel
theorem dX10_row_38 : decode cX10_row 38 = .ok (.getfield 26, 3) := by decide +kernel
theorem dX10_row_41 : decode cX10_row 41 = .ok (.iload_n 1, 1) := by decide +kernel
theorem dX10_row_42 : decode cX10_row 42 = .ok (.iload_n 2, 1) := by decide +kernel
theorem dX10_row_43 : decode cX10_row 43 = .ok (.iload_n 3, 1) := by decide +kernel
theorem dX10_row_44 : decode cX10_row 44 = .ok (.invokevirtual 343, 3) := by decide +kernel
theorem dX10_row_47 : decode cX10_row 47 = .ok (.ireturn, 1) := by decide +kernel
def Ch_row (N : Nat) (S : St) (p1 : Int32) (p2 : Int32) (p3 : Int32) : Option (Int32 × St) :=
  bd1 (Sh_isShelf S p1) fun r1 =>
  if r1 = 0 then
    some ((-1 : Int32), S)
  else
    bd1 (Ch_within S p2 (0 : Int32) (4 : Int32)) fun r2 =>
    if r2 = 0 then
      some ((-1 : Int32), S)
    else
      if p3 ≤ (60 : Int32) then
        if 0 ≤ p3 then
          bd2 (Sh_holdRow N S p1 p2 p3) fun r4 S3 =>
          some (r4, S3)
        else
          some ((-14 : Int32), S)
      else
        some ((-1 : Int32), S)
section
variable {p : Program} {l : Launch} {e : Env} {s : State} {m : MethodId} {args : Array Value} {below : List Frame} {meth : Method} {c : Code} {H : Heap} {locs : List Loc} {E : Ev} {S V : St} {ls : Array Slot}
set_option maxRecDepth 20000 in
theorem w_Ch_row {N : Nat} {p1 : Int32} {p2 : Int32} {p3 : Int32} {r : Int32} {S9 : St} (C : Cx p s m args meth c E cX10_row 4 RX10 (some .int)) (hw : Wd E (wX V E) s.heap S H locs) (hl : lv_has ls 4 [(0, .ref (ea E 0)), (1, .int p1), (2, .int p2), (3, .int p3)]) (hf : Ch_row N S p1 p2 p3 = some (r, S9)) : W p l e (rmh 4) s m args below meth c H locs 0 0 (MQ below (QW E (wX V E) (some (.int r)) S9) args s 0 0 (eA E)) (F0 m 0 ls []) := by
  have hx := C.1
  have hb := C.2.1
  unfold Ch_row at hf
  refine lv_aload_n hx hb dX10_row_0 rfl (lv_at hl 0 rfl) ?_
  refine get_0_9 C hw q_383 dX10_row_1 ?_
  refine lv_iload_n hx hb dX10_row_4 rfl (lv_at hl 1 rfl) ?_
  obtain ⟨r1, hr, hf⟩ := hf_1 hf
  refine inv_Vi (q0 := 10) (ci := 7) (As := [.int p1]) lk_X10_107 C hw rfl rfl rfl (t_Sh_isShelf hr) rfl hl.1 dX10_row_5 rfl (Nat.le_of_ble_eq_true rfl) (by decide) (Nat.le_of_ble_eq_true rfl) rfl (fun H locs hw => ?_)
  refine lv_if_eq (tgt := 26) hx hb dX10_row_8 (by decide) (fun q => ?_) (fun q => ?_)
  · have hf := hf_t q hf
    refine lv_iconst (v := -1) hx hb dX10_row_26 kc_m1 ?_
    exact ret_iS C hw dX10_row_27 hf
  · have hf := hf_f q hf
    refine lv_iload_n hx hb dX10_row_11 rfl (lv_at hl 2 rfl) ?_
    refine lv_iconst (v := 0) hx hb dX10_row_12 kc_0 ?_
    refine lv_iconst (v := 4) hx hb dX10_row_13 kc_4 ?_
    obtain ⟨r2, hr, hf⟩ := hf_1 hf
    refine inv_Si (As := [.int p2, .int (0 : Int32), .int (4 : Int32)]) lk_X10_83 C hw (t_Ch_within hr) hl.1 dX10_row_14 rfl (Nat.le_of_ble_eq_true rfl) (by decide) (Nat.le_of_ble_eq_true rfl) rfl (fun H locs hw => ?_)
    refine lv_if_eq (tgt := 26) hx hb dX10_row_17 (by decide) (fun q => ?_) (fun q => ?_)
    · have hf := hf_t q hf
      refine lv_iconst (v := -1) hx hb dX10_row_26 kc_m1 ?_
      exact ret_iS C hw dX10_row_27 hf
    · have hf := hf_f q hf
      refine lv_iload_n hx hb dX10_row_20 rfl (lv_at hl 3 rfl) ?_
      refine lv_bipush (v := 60) hx hb dX10_row_21 kb_60 ?_
      refine lv_icmp_le (tgt := 28) hx hb dX10_row_23 (by decide) (fun q => ?_) (fun q => ?_)
      · have hf := hf_t q hf
        refine lv_iload_n hx hb dX10_row_28 rfl (lv_at hl 3 rfl) ?_
        refine lv_if_ge (tgt := 37) hx hb dX10_row_29 (by decide) (fun q => ?_) (fun q => ?_)
        · have hf := hf_t q hf
          refine lv_aload_n hx hb dX10_row_37 rfl (lv_at hl 0 rfl) ?_
          refine get_0_9 C hw q_383 dX10_row_38 ?_
          refine lv_iload_n hx hb dX10_row_41 rfl (lv_at hl 1 rfl) ?_
          refine lv_iload_n hx hb dX10_row_42 rfl (lv_at hl 2 rfl) ?_
          refine lv_iload_n hx hb dX10_row_43 rfl (lv_at hl 3 rfl) ?_
          obtain ⟨r4, S3, hr, hf⟩ := hf_2 hf
          refine inv_Vi (q0 := 10) (ci := 7) (As := [.int p1, .int p2, .int p3]) lk_X10_343 C hw rfl rfl rfl (t_Sh_holdRow hr) rfl hl.1 dX10_row_44 rfl (Nat.le_of_ble_eq_true rfl) (by decide) (Nat.le_of_ble_eq_true rfl) rfl (fun H locs hw => ?_)
          exact ret_iS C hw dX10_row_47 hf
        · have hf := hf_f q hf
          refine lv_bipush (v := -14) hx hb dX10_row_32 kb_m14 ?_
          refine lv_goto (tgt := 47) hx hb dX10_row_34 (by decide) ?_
          exact ret_iS C hw dX10_row_47 hf
      · have hf := hf_f q hf
        refine lv_iconst (v := -1) hx hb dX10_row_26 kc_m1 ?_
        exact ret_iS C hw dX10_row_27 hf
end
theorem t_Ch_row {l : Launch} {V : St} {N : Nat} {S : St} {p1 : Int32} {p2 : Int32} {p3 : Int32} {r : Int32} {S9 : St} (hf : Ch_row N S p1 p2 p3 = some (r, S9)) : Ct l (wX V) yX10_row cX10_row 4 (some .int) 4 (fun E => [.ref (ea E 0), .int p1, .int p2, .int p3]) S (fun E => some (.int r)) S9 :=
  ofBlock (by decide +kernel) (fun _ => Nat.le_of_ble_eq_true rfl) (fun E p e s m args below meth c ls C hw hl => w_Ch_row C hw hl hf)
