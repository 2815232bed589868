theorem dX10_chain_0 : decode cX10_chain 0 = .ok (.aload_n 0, 1) := by decide +kernel
theorem dX10_chain_1 : decode cX10_chain 1 = .ok (.getfield 10, 3) := by decide +kernel
theorem dX10_chain_4 : decode cX10_chain 4 = .ok (.iload_n 1, 1) := by decide +kernel
theorem dX10_chain_5 : decode cX10_chain 5 = .ok (.invokevirtual 155, 3) := by decide +kernel
theorem dX10_chain_8 : decode cX10_chain 8 = .ok (.ifCond .eq 10, 3) := by decide +kernel
theorem dX10_chain_11 : decode cX10_chain 11 = .ok (.iload_n 2, 1) := by decide +kernel
theorem dX10_chain_12 : decode cX10_chain 12 = .ok (.invokestatic 158, 3) := by decide +kernel
theorem dX10_chain_15 : decode cX10_chain 15 = .ok (.ifCond .ne 5, 3) := by decide +kernel
theorem dX10_chain_18 : decode cX10_chain 18 = .ok (.iconst (-1), 1) := by decide +kernel
theorem dX10_chain_19 : decode cX10_chain 19 = .ok (.ireturn, 1) := by decide +kernel
theorem dX10_chain_20 : decode cX10_chain 20 = .ok (.iload_n 3, 1) := by decide +kernel
theorem dX10_chain_21 : decode cX10_chain 21 = .ok (.tableswitch 79 0 3 #[31, 41, 59, 69], 31) := by decide +kernel
theorem dX10_chain_52 : decode cX10_chain 52 = .ok (.aload_n 0, 1) := by decide +kernel
theorem dX10_chain_53 : decode cX10_chain 53 = .ok (.getfield 10, 3) := by decide +kernel
theorem dX10_chain_56 : decode cX10_chain 56 = .ok (.iload_n 1, 1) := by decide +kernel
theorem dX10_chain_57 : decode cX10_chain 57 = .ok (.iload_n 2, 1) := by decide +kernel
theorem dX10_chain_58 : decode cX10_chain 58 = .ok (.invokevirtual 161, 3) := by decide +kernel
theorem dX10_chain_61 : decode cX10_chain 61 = .ok (.ireturn, 1) := by decide +kernel
theorem dX10_chain_62 : decode cX10_chain 62 = .ok (.aload_n 0, 1) := by decide +kernel
theorem dX10_chain_63 : decode cX10_chain 63 = .ok (.getfield 10, 3) := by decide +kernel
theorem dX10_chain_66 : decode cX10_chain 66 = .ok (.iload_n 1, 1) := by decide +kernel
theorem dX10_chain_67 : decode cX10_chain 67 = .ok (.iload_n 2, 1) := by decide +kernel
theorem dX10_chain_68 : decode cX10_chain 68 = .ok (.invokevirtual 164, 3) := by decide +kernel
theorem dX10_chain_71 : decode cX10_chain 71 = .ok (.ifCond .eq 7, 3) := by decide +kernel
theorem dX10_chain_74 : decode cX10_chain 74 = .ok (.iconst 1, 1) := by decide +kernel
theorem dX10_chain_75 : decode cX10_chain 75 = .ok (.goto 4, 3) := by decide +kernel
theorem dX10_chain_78 : decode cX10_chain 78 = .ok (.iconst 0, 1) := by decide +kernel
theorem dX10_chain_79 : decode cX10_chain 79 = .ok (.ireturn, 1) := by decide +kernel
theorem dX10_chain_80 : decode cX10_chain 80 = .ok (.aload_n 0, 1) := by decide +kernel
theorem dX10_chain_81 : decode cX10_chain 81 = .ok (.getfield 72, 3) := by decide +kernel
theorem dX10_chain_84 : decode cX10_chain 84 = .ok (.iload_n 1, 1) := by decide +kernel
theorem dX10_chain_85 : decode cX10_chain 85 = .ok (.iload_n 2, 1) := by decide +kernel
theorem dX10_chain_86 : decode cX10_chain 86 = .ok (.invokevirtual 167, 3) := by decide +kernel
theorem dX10_chain_89 : decode cX10_chain 89 = .ok (.ireturn, 1) := by decide +kernel
theorem dX10_chain_90 : decode cX10_chain 90 = .ok (.aload_n 0, 1) := by decide +kernel
theorem dX10_chain_91 : decode cX10_chain 91 = .ok (.getfield 72, 3) := by decide +kernel
theorem dX10_chain_94 : decode cX10_chain 94 = .ok (.iload_n 1, 1) := by decide +kernel
theorem dX10_chain_95 : decode cX10_chain 95 = .ok (.iload_n 2, 1) := by decide +kernel
theorem dX10_chain_96 : decode cX10_chain 96 = .ok (.invokevirtual 170, 3) := by decide +kernel
theorem dX10_chain_99 : decode cX10_chain 99 = .ok (.ireturn, 1) := by decide +kernel
theorem dX10_chain_100 : decode cX10_chain 100 = .ok (.iconst (-1), 1) := by decide +kernel
theorem dX10_chain_101 : decode cX10_chain 101 = .ok (.ireturn, 1) := by decide +kernel
def Ch_chain (N : Nat) (S : St) (p1 : Int32) (p2 : Int32) (p3 : Int32) : Option (Int32 × St) :=
  bd1 (Sm_isOne S p1) fun r1 =>
  if r1 = 0 then
    some ((-1 : Int32), S)
  else
    bd1 (Ch_isDay S p2) fun r2 =>
    if r2 = 0 then
      some ((-1 : Int32), S)
    else
      if p3 = 0 then
        bd1 (Sm_lengthOn N S p1 p2) fun r3 =>
        some (r3, S)
      else
      if p3 = 1 then
        bd1 (Sm_ridesOn N S p1 p2) fun r4 =>
        if r4 = 0 then
          some ((0 : Int32), S)
        else
          some ((1 : Int32), S)
      else
      if p3 = 2 then
        bd2 (Cr_ofOne N S p1 p2) fun r6 S5 =>
        some (r6, S5)
      else
      if p3 = 3 then
        bd1 (Cr_debtOf N S p1 p2) fun r7 =>
        some (r7, S)
      else
      some ((-1 : Int32), S)
section
variable {p : Program} {l : Launch} {e : Env} {s : State} {m : MethodId} {args : Array Value} {below : List Frame} {meth : Method} {c : Code} {H : Heap} {locs : List Loc} {E : Ev} {S V : St} {ls : Array Slot}
set_option maxRecDepth 20000 in
theorem w_Ch_chain {N : Nat} {p1 : Int32} {p2 : Int32} {p3 : Int32} {r : Int32} {S9 : St} (C : Cx p s m args meth c E cX10_chain 4 RX10 (some .int)) (hw : Wd E (wX V E) s.heap S H locs) (hl : lv_has ls 4 [(0, .ref (ea E 0)), (1, .int p1), (2, .int p2), (3, .int p3)]) (hf : Ch_chain N S p1 p2 p3 = some (r, S9)) : W p l e (rmh 6) s m args below meth c H locs 0 0 (MQ below (QW E (wX V E) (some (.int r)) S9) args s 0 0 (eA E)) (F0 m 0 ls []) := by
  have hx := C.1
  have hb := C.2.1
  unfold Ch_chain at hf
  refine lv_aload_n hx hb dX10_chain_0 rfl (lv_at hl 0 rfl) ?_
  refine get_0_0 C hw q_374 dX10_chain_1 ?_
  refine lv_iload_n hx hb dX10_chain_4 rfl (lv_at hl 1 rfl) ?_
  obtain ⟨r1, hr, hf⟩ := hf_1 hf
  refine inv_Vi (q0 := 1) (ci := 8) (As := [.int p1]) lk_X10_155 C hw rfl rfl rfl (t_Sm_isOne hr) rfl hl.1 dX10_chain_5 rfl (Nat.le_of_ble_eq_true rfl) (by decide) (Nat.le_of_ble_eq_true rfl) rfl (fun H locs hw => ?_)
  refine lv_if_eq (tgt := 18) hx hb dX10_chain_8 (by decide) (fun q => ?_) (fun q => ?_)
  · have hf := hf_t q hf
    refine lv_iconst (v := -1) hx hb dX10_chain_18 kc_m1 ?_
    exact ret_iS C hw dX10_chain_19 hf
  · have hf := hf_f q hf
    refine lv_iload_n hx hb dX10_chain_11 rfl (lv_at hl 2 rfl) ?_
    obtain ⟨r2, hr, hf⟩ := hf_1 hf
    refine inv_Si (As := [.int p2]) lk_X10_158 C hw (t_Ch_isDay hr) hl.1 dX10_chain_12 rfl (Nat.le_of_ble_eq_true rfl) (by decide) (Nat.le_of_ble_eq_true rfl) rfl (fun H locs hw => ?_)
    refine lv_if_ne (tgt := 20) hx hb dX10_chain_15 (by decide) (fun q => ?_) (fun q => ?_)
    · have hf := hf_f q hf
      refine lv_iload_n hx hb dX10_chain_20 rfl (lv_at hl 3 rfl) ?_
      by_cases q0 : p3 = 0
      · have hf := hf_t q0 hf
        refine lv_tableIn (off := 31) (tgt := 52) hx hb dX10_chain_21 (by rw [q0]; decide) (by rw [q0]; decide) (by rw [q0]; rfl) (by decide) ?_
        refine lv_aload_n hx hb dX10_chain_52 rfl (lv_at hl 0 rfl) ?_
        refine get_0_0 C hw q_374 dX10_chain_53 ?_
        refine lv_iload_n hx hb dX10_chain_56 rfl (lv_at hl 1 rfl) ?_
        refine lv_iload_n hx hb dX10_chain_57 rfl (lv_at hl 2 rfl) ?_
        obtain ⟨r3, hr, hf⟩ := hf_1 hf
        refine inv_Vi (q0 := 1) (ci := 8) (As := [.int p1, .int p2]) lk_X10_161 C hw rfl rfl rfl (t_Sm_lengthOn hr) rfl hl.1 dX10_chain_58 rfl (Nat.le_of_ble_eq_true rfl) (by decide) (Nat.le_of_ble_eq_true rfl) rfl (fun H locs hw => ?_)
        exact ret_iS C hw dX10_chain_61 hf
      have hf := hf_f q0 hf
      by_cases q1 : p3 = 1
      · have hf := hf_t q1 hf
        refine lv_tableIn (off := 41) (tgt := 62) hx hb dX10_chain_21 (by rw [q1]; decide) (by rw [q1]; decide) (by rw [q1]; rfl) (by decide) ?_
        refine lv_aload_n hx hb dX10_chain_62 rfl (lv_at hl 0 rfl) ?_
        refine get_0_0 C hw q_374 dX10_chain_63 ?_
        refine lv_iload_n hx hb dX10_chain_66 rfl (lv_at hl 1 rfl) ?_
        refine lv_iload_n hx hb dX10_chain_67 rfl (lv_at hl 2 rfl) ?_
        obtain ⟨r4, hr, hf⟩ := hf_1 hf
        refine inv_Vi (q0 := 1) (ci := 8) (As := [.int p1, .int p2]) lk_X10_164 C hw rfl rfl rfl (t_Sm_ridesOn hr) rfl hl.1 dX10_chain_68 rfl (Nat.le_of_ble_eq_true rfl) (by decide) (Nat.le_of_ble_eq_true rfl) rfl (fun H locs hw => ?_)
        refine lv_if_eq (tgt := 78) hx hb dX10_chain_71 (by decide) (fun q => ?_) (fun q => ?_)
        · have hf := hf_t q hf
          refine lv_iconst (v := 0) hx hb dX10_chain_78 kc_0 ?_
          exact ret_iS C hw dX10_chain_79 hf
        · have hf := hf_f q hf
          refine lv_iconst (v := 1) hx hb dX10_chain_74 kc_1 ?_
          refine lv_goto (tgt := 79) hx hb dX10_chain_75 (by decide) ?_
          exact ret_iS C hw dX10_chain_79 hf
      have hf := hf_f q1 hf
      by_cases q2 : p3 = 2
      · have hf := hf_t q2 hf
        refine lv_tableIn (off := 59) (tgt := 80) hx hb dX10_chain_21 (by rw [q2]; decide) (by rw [q2]; decide) (by rw [q2]; rfl) (by decide) ?_
        refine lv_aload_n hx hb dX10_chain_80 rfl (lv_at hl 0 rfl) ?_
        refine get_0_5 C hw q_379 dX10_chain_81 ?_
        refine lv_iload_n hx hb dX10_chain_84 rfl (lv_at hl 1 rfl) ?_
        refine lv_iload_n hx hb dX10_chain_85 rfl (lv_at hl 2 rfl) ?_
        obtain ⟨r6, S5, hr, hf⟩ := hf_2 hf
        refine inv_Vi (q0 := 6) (ci := 1) (As := [.int p1, .int p2]) lk_X10_167 C hw rfl rfl rfl (t_Cr_ofOne hr) rfl hl.1 dX10_chain_86 rfl (Nat.le_of_ble_eq_true rfl) (by decide) (Nat.le_of_ble_eq_true rfl) rfl (fun H locs hw => ?_)
        exact ret_iS C hw dX10_chain_89 hf
      have hf := hf_f q2 hf
      by_cases q3 : p3 = 3
      · have hf := hf_t q3 hf
        refine lv_tableIn (off := 69) (tgt := 90) hx hb dX10_chain_21 (by rw [q3]; decide) (by rw [q3]; decide) (by rw [q3]; rfl) (by decide) ?_
        refine lv_aload_n hx hb dX10_chain_90 rfl (lv_at hl 0 rfl) ?_
        refine get_0_5 C hw q_379 dX10_chain_91 ?_
        refine lv_iload_n hx hb dX10_chain_94 rfl (lv_at hl 1 rfl) ?_
        refine lv_iload_n hx hb dX10_chain_95 rfl (lv_at hl 2 rfl) ?_
        obtain ⟨r7, hr, hf⟩ := hf_1 hf
        refine inv_Vi (q0 := 6) (ci := 1) (As := [.int p1, .int p2]) lk_X10_170 C hw rfl rfl rfl (t_Cr_debtOf hr) rfl hl.1 dX10_chain_96 rfl (Nat.le_of_ble_eq_true rfl) (by decide) (Nat.le_of_ble_eq_true rfl) rfl (fun H locs hw => ?_)
        exact ret_iS C hw dX10_chain_99 hf
      have hf := hf_f q3 hf
      refine lv_tableOut (tgt := 100) hx hb dX10_chain_21 (by have h0 := lv_neT (a := 0) q0 rfl; have h1 := lv_neT (a := 1) q1 rfl; have h2 := lv_neT (a := 2) q2 rfl; have h3 := lv_neT (a := 3) q3 rfl; omega) (by decide) ?_
      refine lv_iconst (v := -1) hx hb dX10_chain_100 kc_m1 ?_
      exact ret_iS C hw dX10_chain_101 hf
    · have hf := hf_t q hf
      refine lv_iconst (v := -1) hx hb dX10_chain_18 kc_m1 ?_
      exact ret_iS C hw dX10_chain_19 hf
end
theorem t_Ch_chain {l : Launch} {V : St} {N : Nat} {S : St} {p1 : Int32} {p2 : Int32} {p3 : Int32} {r : Int32} {S9 : St} (hf : Ch_chain N S p1 p2 p3 = some (r, S9)) : Ct l (wX V) yX10_chain cX10_chain 4 (some .int) 6 (fun E => [.ref (ea E 0), .int p1, .int p2, .int p3]) S (fun E => some (.int r)) S9 :=
  ofBlock (by decide +kernel) (fun _ => Nat.le_of_ble_eq_true rfl) (fun E p e s m args below meth c ls C hw hl => w_Ch_chain C hw hl hf)
theorem dX10_creak_0 : decode cX10_creak 0 = .ok (.aload_n 0, 1) := by decide +kernel
theorem dX10_creak_1 : decode cX10_creak 1 = .ok (.getfield 10, 3) := by decide +kernel
theorem dX10_creak_4 : decode cX10_creak 4 = .ok (.iload_n 1, 1) := by decide +kernel
theorem dX10_creak_5 : decode cX10_creak 5 = .ok (.invokevirtual 173, 3) := by decide +kernel
theorem dX10_creak_8 : decode cX10_creak 8 = .ok (.ifCond .eq 22, 3) := by decide +kernel
theorem dX10_creak_11 : decode cX10_creak 11 = .ok (.iload_n 2, 1) := by decide +kernel
theorem dX10_creak_12 : decode cX10_creak 12 = .ok (.invokestatic 158, 3) := by decide +kernel
theorem dX10_creak_15 : decode cX10_creak 15 = .ok (.ifCond .eq 15, 3) := by decide +kernel
theorem dX10_creak_18 : decode cX10_creak 18 = .ok (.aload_n 0, 1) := by decide +kernel
theorem dX10_creak_19 : decode cX10_creak 19 = .ok (.getfield 72, 3) := by decide +kernel
theorem dX10_creak_22 : decode cX10_creak 22 = .ok (.iload_n 1, 1) := by decide +kernel
theorem dX10_creak_23 : decode cX10_creak 23 = .ok (.iload_n 2, 1) := by decide +kernel
theorem dX10_creak_24 : decode cX10_creak 24 = .ok (.invokevirtual 176, 3) := by decide +kernel
theorem dX10_creak_27 : decode cX10_creak 27 = .ok (.goto 4, 3) := by decide +kernel
theorem dX10_creak_30 : decode cX10_creak 30 = .ok (.iconst (-1), 1) := by decide +kernel
theorem dX10_creak_31 : decode cX10_creak 31 = .ok (.ireturn, 1) := by decide +kernel
def Ch_creak (N : Nat) (S : St) (p1 : Int32) (p2 : Int32) : Option (Int32 × St) :=
  bd1 (Sm_isPromise S p1) fun r1 =>
  if r1 = 0 then
    some ((-1 : Int32), S)
  else
    bd1 (Ch_isDay S p2) fun r2 =>
    if r2 = 0 then
      some ((-1 : Int32), S)
    else
      bd2 (Cr_ofPromise N S p1 p2) fun r4 S3 =>
      some (r4, S3)
section
variable {p : Program} {l : Launch} {e : Env} {s : State} {m : MethodId} {args : Array Value} {below : List Frame} {meth : Method} {c : Code} {H : Heap} {locs : List Loc} {E : Ev} {S V : St} {ls : Array Slot}
set_option maxRecDepth 20000 in
theorem w_Ch_creak {N : Nat} {p1 : Int32} {p2 : Int32} {r : Int32} {S9 : St} (C : Cx p s m args meth c E cX10_creak 3 RX10 (some .int)) (hw : Wd E (wX V E) s.heap S H locs) (hl : lv_has ls 3 [(0, .ref (ea E 0)), (1, .int p1), (2, .int p2)]) (hf : Ch_creak N S p1 p2 = some (r, S9)) : W p l e (rmh 5) s m args below meth c H locs 0 0 (MQ below (QW E (wX V E) (some (.int r)) S9) args s 0 0 (eA E)) (F0 m 0 ls []) := by
  have hx := C.1
  have hb := C.2.1
  unfold Ch_creak at hf
  refine lv_aload_n hx hb dX10_creak_0 rfl (lv_at hl 0 rfl) ?_
  refine get_0_0 C hw q_374 dX10_creak_1 ?_
  refine lv_iload_n hx hb dX10_creak_4 rfl (lv_at hl 1 rfl) ?_
  obtain ⟨r1, hr, hf⟩ := hf_1 hf
  refine inv_Vi (q0 := 1) (ci := 8) (As := [.int p1]) lk_X10_173 C hw rfl rfl rfl (t_Sm_isPromise hr) rfl hl.1 dX10_creak_5 rfl (Nat.le_of_ble_eq_true rfl) (by decide) (Nat.le_of_ble_eq_true rfl) rfl (fun H locs hw => ?_)
  refine lv_if_eq (tgt := 30) hx hb dX10_creak_8 (by decide) (fun q => ?_) (fun q => ?_)
  · have hf := hf_t q hf
    refine lv_iconst (v := -1) hx hb dX10_creak_30 kc_m1 ?_
    exact ret_iS C hw dX10_creak_31 hf
  · have hf := hf_f q hf
    refine lv_iload_n hx hb dX10_creak_11 rfl (lv_at hl 2 rfl) ?_
    obtain ⟨r2, hr, hf⟩ := hf_1 hf
    refine inv_Si (As := [.int p2]) lk_X10_158 C hw (t_Ch_isDay hr) hl.1 dX10_creak_12 rfl (Nat.le_of_ble_eq_true rfl) (by decide) (Nat.le_of_ble_eq_true rfl) rfl (fun H locs hw => ?_)
    refine lv_if_eq (tgt := 30) hx hb dX10_creak_15 (by decide) (fun q => ?_) (fun q => ?_)
    · have hf := hf_t q hf
      refine lv_iconst (v := -1) hx hb dX10_creak_30 kc_m1 ?_
      exact ret_iS C hw dX10_creak_31 hf
    · have hf := hf_f q hf
      refine lv_aload_n hx hb dX10_creak_18 rfl (lv_at hl 0 rfl) ?_
      refine get_0_5 C hw q_379 dX10_creak_19 ?_
      refine lv_iload_n hx hb dX10_creak_22 rfl (lv_at hl 1 rfl) ?_
      refine lv_iload_n hx hb dX10_creak_23 rfl (lv_at hl 2 rfl) ?_
      obtain ⟨r4, S3, hr, hf⟩ := hf_2 hf
      refine inv_Vi (q0 := 6) (ci := 1) (As := [.int p1, .int p2]) lk_X10_176 C hw rfl rfl rfl (t_Cr_ofPromise hr) rfl hl.1 dX10_creak_24 rfl (Nat.le_of_ble_eq_true rfl) (by decide) (Nat.le_of_ble_eq_true rfl) rfl (fun H locs hw => ?_)
      refine lv_goto (tgt := 31) hx hb dX10_creak_27 (by decide) ?_
      exact ret_iS C hw dX10_creak_31 hf
end
theorem t_Ch_creak {l : Launch} {V : St} {N : Nat} {S : St} {p1 : Int32} {p2 : Int32} {r : Int32} {S9 : St} (hf : Ch_creak N S p1 p2 = some (r, S9)) : Ct l (wX V) yX10_creak cX10_creak 3 (some .int) 5 (fun E => [.ref (ea E 0), .int p1, .int p2]) S (fun E => some (.int r)) S9 :=
  ofBlock (by decide +kernel) (fun _ => Nat.le_of_ble_eq_true rfl) (fun E p e s m args below meth c ls C hw hl => w_Ch_creak C hw hl hf)
theorem dX10_rides_0 : decode cX10_rides 0 = .ok (.aload_n 0, 1) := by decide +kernel
theorem dX10_rides_1 : decode cX10_rides 1 = .ok (.getfield 10, 3) := by decide +kernel
theorem dX10_rides_4 : decode cX10_rides 4 = .ok (.iload_n 1, 1) := by decide +kernel
theorem dX10_rides_5 : decode cX10_rides 5 = .ok (.invokevirtual 155, 3) := by decide +kernel
theorem dX10_rides_8 : decode cX10_rides 8 = .ok (.ifCond .eq 10, 3) := by decide +kernel
theorem dX10_rides_11 : decode cX10_rides 11 = .ok (.iload_n 2, 1) := by decide +kernel
theorem dX10_rides_12 : decode cX10_rides 12 = .ok (.invokestatic 158, 3) := by decide +kernel
theorem dX10_rides_15 : decode cX10_rides 15 = .ok (.ifCond .ne 5, 3) := by decide +kernel
theorem dX10_rides_18 : decode cX10_rides 18 = .ok (.iconst (-1), 1) := by decide +kernel
theorem dX10_rides_19 : decode cX10_rides 19 = .ok (.ireturn, 1) := by decide +kernel
theorem dX10_rides_20 : decode cX10_rides 20 = .ok (.iload_n 3, 1) := by decide +kernel
theorem dX10_rides_21 : decode cX10_rides 21 = .ok (.iconst (-1), 1) := by decide +kernel
theorem dX10_rides_22 : decode cX10_rides 22 = .ok (.if_icmp .ne 13, 3) := by decide +kernel
theorem dX10_rides_25 : decode cX10_rides 25 = .ok (.aload_n 0, 1) := by decide +kernel
theorem dX10_rides_26 : decode cX10_rides 26 = .ok (.getfield 49, 3) := by decide +kernel
theorem dX10_rides_29 : decode cX10_rides 29 = .ok (.iload_n 1, 1) := by decide +kernel
theorem dX10_rides_30 : decode cX10_rides 30 = .ok (.iload_n 2, 1) := by decide +kernel
theorem dX10_rides_31 : decode cX10_rides 31 = .ok (.invokevirtual 179, 3) := by decide +kernel
theorem dX10_rides_34 : decode cX10_rides 34 = .ok (.ireturn, 1) := by decide +kernel
theorem dX10_rides_35 : decode cX10_rides 35 = .ok (.iload_n 3, 1) := by decide +kernel
theorem dX10_rides_36 : decode cX10_rides 36 = .ok (.invokestatic 158, 3) := by decide +kernel
theorem dX10_rides_39 : decode cX10_rides 39 = .ok (.ifCond .eq 21, 3) := by decide +kernel
theorem dX10_rides_42 : decode cX10_rides 42 = .ok (.iload_n 3, 1) := by decide +kernel
theorem dX10_rides_43 : decode cX10_rides 43 = .ok (.iload_n 2, 1) := by decide +kernel
theorem dX10_rides_44 : decode cX10_rides 44 = .ok (.if_icmp .lt 16, 3) := by decide +kernel
theorem dX10_rides_47 : decode cX10_rides 47 = .ok (.aload_n 0, 1) := by decide +kernel
theorem dX10_rides_48 : decode cX10_rides 48 = .ok (.getfield 49, 3) := by decide +kernel
theorem dX10_rides_51 : decode cX10_rides 51 = .ok (.iload_n 1, 1) := by decide +kernel
theorem dX10_rides_52 : decode cX10_rides 52 = .ok (.iload_n 2, 1) := by decide +kernel
theorem dX10_rides_53 : decode cX10_rides 53 = .ok (.iload_n 3, 1) := by decide +kernel
theorem dX10_rides_54 : decode cX10_rides 54 = .ok (.invokevirtual 182, 3) := by decide +kernel
theorem dX10_rides_57 : decode cX10_rides 57 = .ok (.goto 4, 3) := by decide +kernel
theorem dX10_rides_60 : decode cX10_rides 60 = .ok (.iconst (-1), 1) := by decide +kernel
theorem dX10_rides_61 : decode cX10_rides 61 = .ok (.ireturn, 1) := by decide +kernel
def Ch_rides (N : Nat) (S : St) (p1 : Int32) (p2 : Int32) (p3 : Int32) : Option (Int32 × St) :=
  bd1 (Sm_isOne S p1) fun r1 =>
  if r1 = 0 then
    some ((-1 : Int32), S)
  else
    bd1 (Ch_isDay S p2) fun r2 =>
    if r2 = 0 then
      some ((-1 : Int32), S)
    else
      if p3 = (-1 : Int32) then
        bd2 (Dy_firstRideFrom N S p1 p2) fun r7 S6 =>
        some (r7, S6)
      else
        bd1 (Ch_isDay S p3) fun r3 =>
        if r3 = 0 then
          some ((-1 : Int32), S)
        else
          if p3 < p2 then
            some ((-1 : Int32), S)
          else
            bd2 (Dy_ridesWithin N S p1 p2 p3) fun r5 S4 =>
            some (r5, S4)
section
variable {p : Program} {l : Launch} {e : Env} {s : State} {m : MethodId} {args : Array Value} {below : List Frame} {meth : Method} {c : Code} {H : Heap} {locs : List Loc} {E : Ev} {S V : St} {ls : Array Slot}
set_option maxRecDepth 20000 in
theorem w_Ch_rides {N : Nat} {p1 : Int32} {p2 : Int32} {p3 : Int32} {r : Int32} {S9 : St} (C : Cx p s m args meth c E cX10_rides 4 RX10 (some .int)) (hw : Wd E (wX V E) s.heap S H locs) (hl : lv_has ls 4 [(0, .ref (ea E 0)), (1, .int p1), (2, .int p2), (3, .int p3)]) (hf : Ch_rides N S p1 p2 p3 = some (r, S9)) : W p l e (rmh 6) s m args below meth c H locs 0 0 (MQ below (QW E (wX V E) (some (.int r)) S9) args s 0 0 (eA E)) (F0 m 0 ls []) := by
  have hx := C.1
  have hb := C.2.1
  unfold Ch_rides at hf
  refine lv_aload_n hx hb dX10_rides_0 rfl (lv_at hl 0 rfl) ?_
  refine get_0_0 C hw q_374 dX10_rides_1 ?_
  refine lv_iload_n hx hb dX10_rides_4 rfl (lv_at hl 1 rfl) ?_
  obtain ⟨r1, hr, hf⟩ := hf_1 hf
  refine inv_Vi (q0 := 1) (ci := 8) (As := [.int p1]) lk_X10_155 C hw rfl rfl rfl (t_Sm_isOne hr) rfl hl.1 dX10_rides_5 rfl (Nat.le_of_ble_eq_true rfl) (by decide) (Nat.le_of_ble_eq_true rfl) rfl (fun H locs hw => ?_)
  refine lv_if_eq (tgt := 18) hx hb dX10_rides_8 (by decide) (fun q => ?_) (fun q => ?_)
  · have hf := hf_t q hf
    refine lv_iconst (v := -1) hx hb dX10_rides_18 kc_m1 ?_
    exact ret_iS C hw dX10_rides_19 hf
  · have hf := hf_f q hf
    refine lv_iload_n hx hb dX10_rides_11 rfl (lv_at hl 2 rfl) ?_
    obtain ⟨r2, hr, hf⟩ := hf_1 hf
    refine inv_Si (As := [.int p2]) lk_X10_158 C hw (t_Ch_isDay hr) hl.1 dX10_rides_12 rfl (Nat.le_of_ble_eq_true rfl) (by decide) (Nat.le_of_ble_eq_true rfl) rfl (fun H locs hw => ?_)
    refine lv_if_ne (tgt := 20) hx hb dX10_rides_15 (by decide) (fun q => ?_) (fun q => ?_)
    · have hf := hf_f q hf
      refine lv_iload_n hx hb dX10_rides_20 rfl (lv_at hl 3 rfl) ?_
      refine lv_iconst (v := -1) hx hb dX10_rides_21 kc_m1 ?_
      refine lv_icmp_ne (tgt := 35) hx hb dX10_rides_22 (by decide) (fun q => ?_) (fun q => ?_)
      · have hf := hf_f q hf
        refine lv_iload_n hx hb dX10_rides_35 rfl (lv_at hl 3 rfl) ?_
        obtain ⟨r3, hr, hf⟩ := hf_1 hf
        refine inv_Si (As := [.int p3]) lk_X10_158 C hw (t_Ch_isDay hr) hl.1 dX10_rides_36 rfl (Nat.le_of_ble_eq_true rfl) (by decide) (Nat.le_of_ble_eq_true rfl) rfl (fun H locs hw => ?_)
        refine lv_if_eq (tgt := 60) hx hb dX10_rides_39 (by decide) (fun q => ?_) (fun q => ?_)
        · have hf := hf_t q hf
          refine lv_iconst (v := -1) hx hb dX10_rides_60 kc_m1 ?_
          exact ret_iS C hw dX10_rides_61 hf
        · have hf := hf_f q hf
          refine lv_iload_n hx hb dX10_rides_42 rfl (lv_at hl 3 rfl) ?_
          refine lv_iload_n hx hb dX10_rides_43 rfl (lv_at hl 2 rfl) ?_
          refine lv_icmp_lt (tgt := 60) hx hb dX10_rides_44 (by decide) (fun q => ?_) (fun q => ?_)
          · have hf := hf_t q hf
            refine lv_iconst (v := -1) hx hb dX10_rides_60 kc_m1 ?_
            exact ret_iS C hw dX10_rides_61 hf
          · have hf := hf_f q hf
            refine lv_aload_n hx hb dX10_rides_47 rfl (lv_at hl 0 rfl) ?_
            refine get_0_2 C hw q_376 dX10_rides_48 ?_
            refine lv_iload_n hx hb dX10_rides_51 rfl (lv_at hl 1 rfl) ?_
            refine lv_iload_n hx hb dX10_rides_52 rfl (lv_at hl 2 rfl) ?_
            refine lv_iload_n hx hb dX10_rides_53 rfl (lv_at hl 3 rfl) ?_
            obtain ⟨r5, S4, hr, hf⟩ := hf_2 hf
            refine inv_Vi (q0 := 3) (ci := 2) (As := [.int p1, .int p2, .int p3]) lk_X10_182 C hw rfl rfl rfl (t_Dy_ridesWithin hr) rfl hl.1 dX10_rides_54 rfl (Nat.le_of_ble_eq_true rfl) (by decide) (Nat.le_of_ble_eq_true rfl) rfl (fun H locs hw => ?_)
            refine lv_goto (tgt := 61) hx hb dX10_rides_57 (by decide) ?_
            exact ret_iS C hw dX10_rides_61 hf
      · have hf := hf_t q hf
        refine lv_aload_n hx hb dX10_rides_25 rfl (lv_at hl 0 rfl) ?_
        refine get_0_2 C hw q_376 dX10_rides_26 ?_
        refine lv_iload_n hx hb dX10_rides_29 rfl (lv_at hl 1 rfl) ?_
        refine lv_iload_n hx hb dX10_rides_30 rfl (lv_at hl 2 rfl) ?_
        obtain ⟨r7, S6, hr, hf⟩ := hf_2 hf
        refine inv_Vi (q0 := 3) (ci := 2) (As := [.int p1, .int p2]) lk_X10_179 C hw rfl rfl rfl (t_Dy_firstRideFrom hr) rfl hl.1 dX10_rides_31 rfl (Nat.le_of_ble_eq_true rfl) (by decide) (Nat.le_of_ble_eq_true rfl) rfl (fun H locs hw => ?_)
        exact ret_iS C hw dX10_rides_34 hf
    · have hf := hf_t q hf
      refine lv_iconst (v := -1) hx hb dX10_rides_18 kc_m1 ?_
      exact ret_iS C hw dX10_rides_19 hf
end
theorem t_Ch_rides {l : Launch} {V : St} {N : Nat} {S : St} {p1 : Int32} {p2 : Int32} {p3 : Int32} {r : Int32} {S9 : St} (hf : Ch_rides N S p1 p2 p3 = some (r, S9)) : Ct l (wX V) yX10_rides cX10_rides 4 (some .int) 6 (fun E => [.ref (ea E 0), .int p1, .int p2, .int p3]) S (fun E => some (.int r)) S9 :=
  ofBlock (by decide +kernel) (fun _ => Nat.le_of_ble_eq_true rfl) (fun E p e s m args below meth c ls C hw hl => w_Ch_rides C hw hl hf)
theorem dX10_isEither_0 : decode cX10_isEither 0 = .ok (.iload_n 0, 1) := by decide +kernel
theorem dX10_isEither_1 : decode cX10_isEither 1 = .ok (.ifCond .eq 8, 3) := by decide +kernel
theorem dX10_isEither_4 : decode cX10_isEither 4 = .ok (.iload_n 0, 1) := by decide +kernel
theorem dX10_isEither_5 : decode cX10_isEither 5 = .ok (.iconst 1, 1) := by decide +kernel
theorem dX10_isEither_6 : decode cX10_isEither 6 = .ok (.if_icmp .ne 7, 3) := by decide +kernel
theorem dX10_isEither_9 : decode cX10_isEither 9 = .ok (.iconst 1, 1) := by decide +kernel
theorem dX10_isEither_10 : decode cX10_isEither 10 = .ok (.goto 4, 3) := by decide +kernel
theorem dX10_isEither_13 : decode cX10_isEither 13 = .ok (.iconst 0, 1) := by decide +kernel
theorem dX10_isEither_14 : decode cX10_isEither 14 = .ok (.ireturn, 1) := by decide +kernel
def Ch_isEither (S : St) (p1 : Int32) : Option Int32 :=
  if p1 = 0 then
    some (1 : Int32)
  else
    if p1 = (1 : Int32) then
      some (1 : Int32)
    else
      some (0 : Int32)
section
variable {p : Program} {l : Launch} {e : Env} {s : State} {m : MethodId} {args : Array Value} {below : List Frame} {meth : Method} {c : Code} {H : Heap} {locs : List Loc} {E : Ev} {S V : St} {ls : Array Slot}
set_option maxRecDepth 20000 in
theorem w_Ch_isEither {p1 : Int32} {r : Int32} (C : Cx p s m args meth c E cX10_isEither 1 RX10 (some .boolean)) (hw : Wd E (wX V E) s.heap S H locs) (hl : lv_has ls 1 [(0, .int p1)]) (hf : Ch_isEither S p1 = some r) : W p l e (rmh 1) s m args below meth c H locs 0 0 (MQ below (QW E (wX V E) (some (.int r)) S) args s 0 0 (eA E)) (F0 m 0 ls []) := by
  have hx := C.1
  have hb := C.2.1
  unfold Ch_isEither at hf
  refine lv_iload_n hx hb dX10_isEither_0 rfl (lv_at hl 0 rfl) ?_
  refine lv_if_eq (tgt := 9) hx hb dX10_isEither_1 (by decide) (fun q => ?_) (fun q => ?_)
  · have hf := hf_t q hf
    refine lv_iconst (v := 1) hx hb dX10_isEither_9 kc_1 ?_
    refine lv_goto (tgt := 14) hx hb dX10_isEither_10 (by decide) ?_
    exact ret_z rfl C hw dX10_isEither_14 hf
  · have hf := hf_f q hf
    refine lv_iload_n hx hb dX10_isEither_4 rfl (lv_at hl 0 rfl) ?_
    refine lv_iconst (v := 1) hx hb dX10_isEither_5 kc_1 ?_
    refine lv_icmp_ne (tgt := 13) hx hb dX10_isEither_6 (by decide) (fun q => ?_) (fun q => ?_)
    · have hf := hf_f q hf
      refine lv_iconst (v := 0) hx hb dX10_isEither_13 kc_0 ?_
      exact ret_z rfl C hw dX10_isEither_14 hf
    · have hf := hf_t q hf
      refine lv_iconst (v := 1) hx hb dX10_isEither_9 kc_1 ?_
      refine lv_goto (tgt := 14) hx hb dX10_isEither_10 (by decide) ?_
      exact ret_z rfl C hw dX10_isEither_14 hf
end
theorem t_Ch_isEither {l : Launch} {V : St} {S : St} {p1 : Int32} {r : Int32} (hf : Ch_isEither S p1 = some r) : Ct l (wX V) yX10_isEither cX10_isEither 1 (some .boolean) 1 (fun E => [.int p1]) S (fun E => some (.int r)) S :=
  ofBlock (by decide +kernel) (fun _ => Nat.le_of_ble_eq_true rfl) (fun E p e s m args below meth c ls C hw hl => w_Ch_isEither C hw hl hf)
theorem dX10_ride_0 : decode cX10_ride 0 = .ok (.aload_n 0, 1) := by decide +kernel
theorem dX10_ride_1 : decode cX10_ride 1 = .ok (.getfield 10, 3) := by decide +kernel
theorem dX10_ride_4 : decode cX10_ride 4 = .ok (.iload_n 1, 1) := by decide +kernel
theorem dX10_ride_5 : decode cX10_ride 5 = .ok (.invokevirtual 155, 3) := by decide +kernel
theorem dX10_ride_8 : decode cX10_ride 8 = .ok (.ifCond .eq 10, 3) := by decide +kernel
theorem dX10_ride_11 : decode cX10_ride 11 = .ok (.iload_n 2, 1) := by decide +kernel
theorem dX10_ride_12 : decode cX10_ride 12 = .ok (.invokestatic 185, 3) := by decide +kernel
theorem dX10_ride_15 : decode cX10_ride 15 = .ok (.ifCond .ne 5, 3) := by decide +kernel
theorem dX10_ride_18 : decode cX10_ride 18 = .ok (.iconst (-1), 1) := by decide +kernel
theorem dX10_ride_19 : decode cX10_ride 19 = .ok (.ireturn, 1) := by decide +kernel
theorem dX10_ride_20 : decode cX10_ride 20 = .ok (.aload_n 0, 1) := by decide +kernel
theorem dX10_ride_21 : decode cX10_ride 21 = .ok (.getfield 49, 3) := by decide +kernel
theorem dX10_ride_24 : decode cX10_ride 24 = .ok (.iload_n 1, 1) := by decide +kernel
theorem dX10_ride_25 : decode cX10_ride 25 = .ok (.invokevirtual 188, 3) := by decide +kernel
theorem dX10_ride_28 : decode cX10_ride 28 = .ok (.istore_n 3, 1) := by decide +kernel
theorem dX10_ride_29 : decode cX10_ride 29 = .ok (.iload_n 2, 1) := by decide +kernel
theorem dX10_ride_30 : decode cX10_ride 30 = .ok (.iconst 1, 1) := by decide +kernel
theorem dX10_ride_31 : decode cX10_ride 31 = .ok (.if_icmp .ne 5, 3) := by decide +kernel
theorem dX10_ride_34 : decode cX10_ride 34 = .ok (.iload_n 3, 1) := by decide +kernel
theorem dX10_ride_35 : decode cX10_ride 35 = .ok (.ireturn, 1) := by decide +kernel
theorem dX10_ride_36 : decode cX10_ride 36 = .ok (.iload_n 3, 1) := by decide +kernel
theorem dX10_ride_37 : decode cX10_ride 37 = .ok (.bipush (-2), 2) := by decide +kernel
theorem dX10_ride_39 : decode cX10_ride 39 = .ok (.if_icmp .ne 7, 3) := by decide +kernel
theorem dX10_ride_42 : decode cX10_ride 42 = .ok (.iconst 0, 1) := by decide +kernel
theorem dX10_ride_43 : decode cX10_ride 43 = .ok (.goto 12, 3) := by decide +kernel
theorem dX10_ride_46 : decode cX10_ride 46 = .ok (.aload_n 0, 1) := by decide +kernel
theorem dX10_ride_47 : decode cX10_ride 47 = .ok (.getfield 49, 3) := by decide +kernel
theorem dX10_ride_50 : decode cX10_ride 50 = .ok (.iload_n 1, 1) := by decide +kernel
theorem dX10_ride_51 : decode cX10_ride 51 = .ok (.iload_n 3, 1) := by decide +kernel
theorem dX10_ride_52 : decode cX10_ride 52 = .ok (.invokevirtual 191, 3) := by decide +kernel
theorem dX10_ride_55 : decode cX10_ride 55 = .ok (.ireturn, 1) := by decide +kernel
def Ch_ride (N : Nat) (S : St) (p1 : Int32) (p2 : Int32) : Option (Int32 × St) :=
  bd1 (Sm_isOne S p1) fun r1 =>
  if r1 = 0 then
    some ((-1 : Int32), S)
  else
    bd1 (Ch_isEither S p2) fun r2 =>
    if r2 = 0 then
      some ((-1 : Int32), S)
    else
      bd2 (Dy_longestRideStart N S p1) fun r4 S3 =>
      if p2 = (1 : Int32) then
        some (r4, S3)
      else
        if r4 = (-2 : Int32) then
          some ((0 : Int32), S3)
        else
          bd2 (Dy_rideFrom N S3 p1 r4) fun r6 S5 =>
          some (r6, S5)
section
variable {p : Program} {l : Launch} {e : Env} {s : State} {m : MethodId} {args : Array Value} {below : List Frame} {meth : Method} {c : Code} {H : Heap} {locs : List Loc} {E : Ev} {S V : St} {ls : Array Slot}
set_option maxRecDepth 20000 in
theorem w_Ch_ride {N : Nat} {p1 : Int32} {p2 : Int32} {r : Int32} {S9 : St} (C : Cx p s m args meth c E cX10_ride 4 RX10 (some .int)) (hw : Wd E (wX V E) s.heap S H locs) (hl : lv_has ls 4 [(0, .ref (ea E 0)), (1, .int p1), (2, .int p2)]) (hf : Ch_ride N S p1 p2 = some (r, S9)) : W p l e (rmh 5) s m args below meth c H locs 0 0 (MQ below (QW E (wX V E) (some (.int r)) S9) args s 0 0 (eA E)) (F0 m 0 ls []) := by
  have hx := C.1
  have hb := C.2.1
  unfold Ch_ride at hf
  refine lv_aload_n hx hb dX10_ride_0 rfl (lv_at hl 0 rfl) ?_
  refine get_0_0 C hw q_374 dX10_ride_1 ?_
  refine lv_iload_n hx hb dX10_ride_4 rfl (lv_at hl 1 rfl) ?_
  obtain ⟨r1, hr, hf⟩ := hf_1 hf
  refine inv_Vi (q0 := 1) (ci := 8) (As := [.int p1]) lk_X10_155 C hw rfl rfl rfl (t_Sm_isOne hr) rfl hl.1 dX10_ride_5 rfl (Nat.le_of_ble_eq_true rfl) (by decide) (Nat.le_of_ble_eq_true rfl) rfl (fun H locs hw => ?_)
  refine lv_if_eq (tgt := 18) hx hb dX10_ride_8 (by decide) (fun q => ?_) (fun q => ?_)
  · have hf := hf_t q hf
    refine lv_iconst (v := -1) hx hb dX10_ride_18 kc_m1 ?_
    exact ret_iS C hw dX10_ride_19 hf
  · have hf := hf_f q hf
    refine lv_iload_n hx hb dX10_ride_11 rfl (lv_at hl 2 rfl) ?_
    obtain ⟨r2, hr, hf⟩ := hf_1 hf
    refine inv_Si (As := [.int p2]) lk_X10_185 C hw (t_Ch_isEither hr) hl.1 dX10_ride_12 rfl (Nat.le_of_ble_eq_true rfl) (by decide) (Nat.le_of_ble_eq_true rfl) rfl (fun H locs hw => ?_)
    refine lv_if_ne (tgt := 20) hx hb dX10_ride_15 (by decide) (fun q => ?_) (fun q => ?_)
    · have hf := hf_f q hf
      refine lv_aload_n hx hb dX10_ride_20 rfl (lv_at hl 0 rfl) ?_
      refine get_0_2 C hw q_376 dX10_ride_21 ?_
      refine lv_iload_n hx hb dX10_ride_24 rfl (lv_at hl 1 rfl) ?_
      obtain ⟨r4, S3, hr, hf⟩ := hf_2 hf
      refine inv_Vi (q0 := 3) (ci := 2) (As := [.int p1]) lk_X10_188 C hw rfl rfl rfl (t_Dy_longestRideStart hr) rfl hl.1 dX10_ride_25 rfl (Nat.le_of_ble_eq_true rfl) (by decide) (Nat.le_of_ble_eq_true rfl) rfl (fun H locs hw => ?_)
      refine lv_istore_n (lv' := [(3, .int r4), (0, .ref (ea E 0)), (1, .int p1), (2, .int p2)]) hx hb dX10_ride_28 rfl hl (by decide) rfl (fun ls hl => ?_)
      refine lv_iload_n hx hb dX10_ride_29 rfl (lv_at hl 3 rfl) ?_
      refine lv_iconst (v := 1) hx hb dX10_ride_30 kc_1 ?_
      refine lv_icmp_ne (tgt := 36) hx hb dX10_ride_31 (by decide) (fun q => ?_) (fun q => ?_)
      · have hf := hf_f q hf
        refine lv_iload_n hx hb dX10_ride_36 rfl (lv_at hl 0 rfl) ?_
        refine lv_bipush (v := -2) hx hb dX10_ride_37 kb_m2 ?_
        refine lv_icmp_ne (tgt := 46) hx hb dX10_ride_39 (by decide) (fun q => ?_) (fun q => ?_)
        · have hf := hf_f q hf
          refine lv_aload_n hx hb dX10_ride_46 rfl (lv_at hl 1 rfl) ?_
          refine get_0_2 C hw q_376 dX10_ride_47 ?_
          refine lv_iload_n hx hb dX10_ride_50 rfl (lv_at hl 2 rfl) ?_
          refine lv_iload_n hx hb dX10_ride_51 rfl (lv_at hl 0 rfl) ?_
          obtain ⟨r6, S5, hr, hf⟩ := hf_2 hf
          refine inv_Vi (q0 := 3) (ci := 2) (As := [.int p1, .int r4]) lk_X10_191 C hw rfl rfl rfl (t_Dy_rideFrom hr) rfl hl.1 dX10_ride_52 rfl (Nat.le_of_ble_eq_true rfl) (by decide) (Nat.le_of_ble_eq_true rfl) rfl (fun H locs hw => ?_)
          exact ret_iS C hw dX10_ride_55 hf
        · have hf := hf_t q hf
          refine lv_iconst (v := 0) hx hb dX10_ride_42 kc_0 ?_
          refine lv_goto (tgt := 55) hx hb dX10_ride_43 (by decide) ?_
          exact ret_iS C hw dX10_ride_55 hf
      · have hf := hf_t q hf
        refine lv_iload_n hx hb dX10_ride_34 rfl (lv_at hl 0 rfl) ?_
        exact ret_iS C hw dX10_ride_35 hf
    · have hf := hf_t q hf
      refine lv_iconst (v := -1) hx hb dX10_ride_18 kc_m1 ?_
      exact ret_iS C hw dX10_ride_19 hf
end
theorem t_Ch_ride {l : Launch} {V : St} {N : Nat} {S : St} {p1 : Int32} {p2 : Int32} {r : Int32} {S9 : St} (hf : Ch_ride N S p1 p2 = some (r, S9)) : Ct l (wX V) yX10_ride cX10_ride 4 (some .int) 5 (fun E => [.ref (ea E 0), .int p1, .int p2]) S (fun E => some (.int r)) S9 :=
  ofBlock (by decide +kernel) (fun _ => Nat.le_of_ble_eq_true rfl) (fun E p e s m args below meth c ls C hw hl => w_Ch_ride C hw hl hf)
theorem dX10_who_0 : decode cX10_who 0 = .ok (.iload_n 1, 1) := by decide +kernel
theorem dX10_who_1 : decode cX10_who 1 = .ok (.invokestatic 158, 3) := by decide +kernel
theorem dX10_who_4 : decode cX10_who 4 = .ok (.ifCond .eq 14, 3) := by decide +kernel
theorem dX10_who_7 : decode cX10_who 7 = .ok (.aload_n 0, 1) := by decide +kernel
theorem dX10_who_8 : decode cX10_who 8 = .ok (.getfield 10, 3) := by decide +kernel
theorem dX10_who_11 : decode cX10_who 11 = .ok (.iload_n 1, 1) := by decide +kernel
theorem dX10_who_12 : decode cX10_who 12 = .ok (.invokevirtual 194, 3) := by decide +kernel
theorem dX10_who_15 : decode cX10_who 15 = .ok (.goto 4, 3) := by decide +kernel
theorem dX10_who_18 : decode cX10_who 18 = .ok (.iconst (-1), 1) := by decide +kernel
theorem dX10_who_19 : decode cX10_who 19 = .ok (.ireturn, 1) := by decide +kernel
def Ch_who (N : Nat) (S : St) (p1 : Int32) : Option Int32 :=
  bd1 (Ch_isDay S p1) fun r1 =>
  if r1 = 0 then
    some (-1 : Int32)
  else
    bd1 (Sm_ridersOn N S p1) fun r2 =>
    some r2
section
variable {p : Program} {l : Launch} {e : Env} {s : State} {m : MethodId} {args : Array Value} {below : List Frame} {meth : Method} {c : Code} {H : Heap} {locs : List Loc} {E : Ev} {S V : St} {ls : Array Slot}
set_option maxRecDepth 20000 in
theorem w_Ch_who {N : Nat} {p1 : Int32} {r : Int32} (C : Cx p s m args meth c E cX10_who 2 RX10 (some .int)) (hw : Wd E (wX V E) s.heap S H locs) (hl : lv_has ls 2 [(0, .ref (ea E 0)), (1, .int p1)]) (hf : Ch_who N S p1 = some r) : W p l e (rmh 5) s m args below meth c H locs 0 0 (MQ below (QW E (wX V E) (some (.int r)) S) args s 0 0 (eA E)) (F0 m 0 ls []) := by
  have hx := C.1
  have hb := C.2.1
  unfold Ch_who at hf
  refine lv_iload_n hx hb dX10_who_0 rfl (lv_at hl 1 rfl) ?_
  obtain ⟨r1, hr, hf⟩ := hf_1 hf
  refine inv_Si (As := [.int p1]) lk_X10_158 C hw (t_Ch_isDay hr) hl.1 dX10_who_1 rfl (Nat.le_of_ble_eq_true rfl) (by decide) (Nat.le_of_ble_eq_true rfl) rfl (fun H locs hw => ?_)
  refine lv_if_eq (tgt := 18) hx hb dX10_who_4 (by decide) (fun q => ?_) (fun q => ?_)
  · have hf := hf_t q hf
    refine lv_iconst (v := -1) hx hb dX10_who_18 kc_m1 ?_
    exact ret_i C hw dX10_who_19 hf
  · have hf := hf_f q hf
    refine lv_aload_n hx hb dX10_who_7 rfl (lv_at hl 0 rfl) ?_
    refine get_0_0 C hw q_374 dX10_who_8 ?_
    refine lv_iload_n hx hb dX10_who_11 rfl (lv_at hl 1 rfl) ?_
    obtain ⟨r2, hr, hf⟩ := hf_1 hf
    refine inv_Vi (q0 := 1) (ci := 8) (As := [.int p1]) lk_X10_194 C hw rfl rfl rfl (t_Sm_ridersOn hr) rfl hl.1 dX10_who_12 rfl (Nat.le_of_ble_eq_true rfl) (by decide) (Nat.le_of_ble_eq_true rfl) rfl (fun H locs hw => ?_)
    refine lv_goto (tgt := 19) hx hb dX10_who_15 (by decide) ?_
    exact ret_i C hw dX10_who_19 hf
end
theorem t_Ch_who {l : Launch} {V : St} {N : Nat} {S : St} {p1 : Int32} {r : Int32} (hf : Ch_who N S p1 = some r) : Ct l (wX V) yX10_who cX10_who 2 (some .int) 5 (fun E => [.ref (ea E 0), .int p1]) S (fun E => some (.int r)) S :=
  ofBlock (by decide +kernel) (fun _ => Nat.le_of_ble_eq_true rfl) (fun E p e s m args below meth c ls C hw hl => w_Ch_who C hw hl hf)
theorem dX10_best_0 : decode cX10_best 0 = .ok (.iload_n 1, 1) := by decide +kernel
theorem dX10_best_1 : decode cX10_best 1 = .ok (.invokestatic 185, 3) := by decide +kernel
theorem dX10_best_4 : decode cX10_best 4 = .ok (.ifCond .ne 5, 3) := by decide +kernel
theorem dX10_best_7 : decode cX10_best 7 = .ok (.iconst (-1), 1) := by decide +kernel
theorem dX10_best_8 : decode cX10_best 8 = .ok (.ireturn, 1) := by decide +kernel
theorem dX10_best_9 : decode cX10_best 9 = .ok (.aload_n 0, 1) := by decide +kernel
theorem dX10_best_10 : decode cX10_best 10 = .ok (.getfield 49, 3) := by decide +kernel
theorem dX10_best_13 : decode cX10_best 13 = .ok (.invokevirtual 197, 3) := by decide +kernel
theorem dX10_best_16 : decode cX10_best 16 = .ok (.istore_n 2, 1) := by decide +kernel
theorem dX10_best_17 : decode cX10_best 17 = .ok (.iload_n 1, 1) := by decide +kernel
theorem dX10_best_18 : decode cX10_best 18 = .ok (.ifCond .ne 7, 3) := by decide +kernel
theorem dX10_best_21 : decode cX10_best 21 = .ok (.iload_n 2, 1) := by decide +kernel
theorem dX10_best_22 : decode cX10_best 22 = .ok (.goto 14, 3) := by decide +kernel
theorem dX10_best_25 : decode cX10_best 25 = .ok (.aload_n 0, 1) := by decide +kernel
theorem dX10_best_26 : decode cX10_best 26 = .ok (.getfield 10, 3) := by decide +kernel
theorem dX10_best_29 : decode cX10_best 29 = .ok (.iload_n 2, 1) := by decide +kernel
theorem dX10_best_30 : decode cX10_best 30 = .ok (.invokevirtual 194, 3) := by decide +kernel
theorem dX10_best_33 : decode cX10_best 33 = .ok (.invokestatic 200, 3) := by decide +kernel
theorem dX10_best_36 : decode cX10_best 36 = .ok (.ireturn, 1) := by decide +kernel
def Ch_best (N : Nat) (S : St) (p1 : Int32) : Option (Int32 × St) :=
  bd1 (Ch_isEither S p1) fun r1 =>
  if r1 = 0 then
    some ((-1 : Int32), S)
  else
    bd2 (Dy_fullestDay N S) fun r3 S2 =>
    if p1 = 0 then
      some (r3, S2)
    else
      bd1 (Sm_ridersOn N S2 r3) fun r4 =>
      bd1 (In_bitCount S2 r4) fun r5 =>
      some (r5, S2)
section
variable {p : Program} {l : Launch} {e : Env} {s : State} {m : MethodId} {args : Array Value} {below : List Frame} {meth : Method} {c : Code} {H : Heap} {locs : List Loc} {E : Ev} {S V : St} {ls : Array Slot}
set_option maxRecDepth 20000 in
theorem w_Ch_best {N : Nat} {p1 : Int32} {r : Int32} {S9 : St} (C : Cx p s m args meth c E cX10_best 3 RX10 (some .int)) (hw : Wd E (wX V E) s.heap S H locs) (hl : lv_has ls 3 [(0, .ref (ea E 0)), (1, .int p1)]) (hf : Ch_best N S p1 = some (r, S9)) : W p l e (rmh 5) s m args below meth c H locs 0 0 (MQ below (QW E (wX V E) (some (.int r)) S9) args s 0 0 (eA E)) (F0 m 0 ls []) := by
  have hx := C.1
  have hb := C.2.1
  unfold Ch_best at hf
  refine lv_iload_n hx hb dX10_best_0 rfl (lv_at hl 1 rfl) ?_
  obtain ⟨r1, hr, hf⟩ := hf_1 hf
  refine inv_Si (As := [.int p1]) lk_X10_185 C hw (t_Ch_isEither hr) hl.1 dX10_best_1 rfl (Nat.le_of_ble_eq_true rfl) (by decide) (Nat.le_of_ble_eq_true rfl) rfl (fun H locs hw => ?_)
  refine lv_if_ne (tgt := 9) hx hb dX10_best_4 (by decide) (fun q => ?_) (fun q => ?_)
  · have hf := hf_f q hf
    refine lv_aload_n hx hb dX10_best_9 rfl (lv_at hl 0 rfl) ?_
    refine get_0_2 C hw q_376 dX10_best_10 ?_
    obtain ⟨r3, S2, hr, hf⟩ := hf_2 hf
    refine inv_Vi (q0 := 3) (ci := 2) (As := []) lk_X10_197 C hw rfl rfl rfl (t_Dy_fullestDay hr) rfl hl.1 dX10_best_13 rfl (Nat.le_of_ble_eq_true rfl) (by decide) (Nat.le_of_ble_eq_true rfl) rfl (fun H locs hw => ?_)
    refine lv_istore_n (lv' := [(2, .int r3), (0, .ref (ea E 0)), (1, .int p1)]) hx hb dX10_best_16 rfl hl (by decide) rfl (fun ls hl => ?_)
    refine lv_iload_n hx hb dX10_best_17 rfl (lv_at hl 2 rfl) ?_
    refine lv_if_ne (tgt := 25) hx hb dX10_best_18 (by decide) (fun q => ?_) (fun q => ?_)
    · have hf := hf_f q hf
      refine lv_aload_n hx hb dX10_best_25 rfl (lv_at hl 1 rfl) ?_
      refine get_0_0 C hw q_374 dX10_best_26 ?_
      refine lv_iload_n hx hb dX10_best_29 rfl (lv_at hl 0 rfl) ?_
      obtain ⟨r4, hr, hf⟩ := hf_1 hf
      refine inv_Vi (q0 := 1) (ci := 8) (As := [.int r3]) lk_X10_194 C hw rfl rfl rfl (t_Sm_ridersOn hr) rfl hl.1 dX10_best_30 rfl (Nat.le_of_ble_eq_true rfl) (by decide) (Nat.le_of_ble_eq_true rfl) rfl (fun H locs hw => ?_)
      obtain ⟨r5, hr, hf⟩ := hf_1 hf
      refine inv_Si (As := [.int r4]) lk_X10_200 C hw (t_In_bitCount hr) hl.1 dX10_best_33 rfl (Nat.le_of_ble_eq_true rfl) (by decide) (Nat.le_of_ble_eq_true rfl) rfl (fun H locs hw => ?_)
      exact ret_iS C hw dX10_best_36 hf
    · have hf := hf_t q hf
      refine lv_iload_n hx hb dX10_best_21 rfl (lv_at hl 0 rfl) ?_
      refine lv_goto (tgt := 36) hx hb dX10_best_22 (by decide) ?_
      exact ret_iS C hw dX10_best_36 hf
  · have hf := hf_t q hf
    refine lv_iconst (v := -1) hx hb dX10_best_7 kc_m1 ?_
    exact ret_iS C hw dX10_best_8 hf
end
theorem t_Ch_best {l : Launch} {V : St} {N : Nat} {S : St} {p1 : Int32} {r : Int32} {S9 : St} (hf : Ch_best N S p1 = some (r, S9)) : Ct l (wX V) yX10_best cX10_best 3 (some .int) 5 (fun E => [.ref (ea E 0), .int p1]) S (fun E => some (.int r)) S9 :=
  ofBlock (by decide +kernel) (fun _ => Nat.le_of_ble_eq_true rfl) (fun E p e s m args below meth c ls C hw hl => w_Ch_best C hw hl hf)
theorem dX10_keepBy_0 : decode cX10_keepBy 0 = .ok (.aload_n 0, 1) := by decide +kernel
theorem dX10_keepBy_1 : decode cX10_keepBy 1 = .ok (.getfield 10, 3) := by decide +kernel
theorem dX10_keepBy_4 : decode cX10_keepBy 4 = .ok (.iload_n 1, 1) := by decide +kernel
theorem dX10_keepBy_5 : decode cX10_keepBy 5 = .ok (.invokevirtual 155, 3) := by decide +kernel
theorem dX10_keepBy_8 : decode cX10_keepBy 8 = .ok (.ifCond .eq 17, 3) := by decide +kernel
theorem dX10_keepBy_11 : decode cX10_keepBy 11 = .ok (.iload_n 2, 1) := by decide +kernel
theorem dX10_keepBy_12 : decode cX10_keepBy 12 = .ok (.invokestatic 158, 3) := by decide +kernel
theorem dX10_keepBy_15 : decode cX10_keepBy 15 = .ok (.ifCond .eq 10, 3) := by decide +kernel
theorem dX10_keepBy_18 : decode cX10_keepBy 18 = .ok (.iload_n 3, 1) := by decide +kernel
theorem dX10_keepBy_19 : decode cX10_keepBy 19 = .ok (.invokestatic 185, 3) := by decide +kernel
theorem dX10_keepBy_22 : decode cX10_keepBy 22 = .ok (.ifCond .ne 5, 3) := by decide +kernel
theorem dX10_keepBy_25 : decode cX10_keepBy 25 = .ok (.iconst (-1), 1) := by decide +kernel
theorem dX10_keepBy_26 : decode cX10_keepBy 26 = .ok (.ireturn, 1) := by decide +kernel
theorem dX10_keepBy_27 : decode cX10_keepBy 27 = .ok (.aload_n 0, 1) := by decide +kernel
theorem dX10_keepBy_28 : decode cX10_keepBy 28 = .ok (.getfield 56, 3) := by decide +kernel
theorem dX10_keepBy_31 : decode cX10_keepBy 31 = .ok (.iload_n 1, 1) := by decide +kernel
theorem dX10_keepBy_32 : decode cX10_keepBy 32 = .ok (.iload_n 2, 1) := by decide +kernel
theorem dX10_keepBy_33 : decode cX10_keepBy 33 = .ok (.invokevirtual 205, 3) := by decide +kernel
theorem dX10_keepBy_36 : decode cX10_keepBy 36 = .ok (.istore 4, 2) := by decide +kernel
theorem dX10_keepBy_38 : decode cX10_keepBy 38 = .ok (.iload 4, 2) := by decide +kernel
theorem dX10_keepBy_40 : decode cX10_keepBy 40 = .ok (.bipush (-2), 2) := by decide +kernel
theorem dX10_keepBy_42 : decode cX10_keepBy 42 = .ok (.if_icmp .eq 8, 3) := by decide +kernel
theorem dX10_keepBy_45 : decode cX10_keepBy 45 = .ok (.iload_n 3, 1) := by decide +kernel
theorem dX10_keepBy_46 : decode cX10_keepBy 46 = .ok (.iconst 1, 1) := by decide +kernel
theorem dX10_keepBy_47 : decode cX10_keepBy 47 = .ok (.if_icmp .ne 8, 3) := by decide +kernel
theorem dX10_keepBy_50 : decode cX10_keepBy 50 = .ok (.iload 4, 2) := by decide +kernel
theorem dX10_keepBy_52 : decode cX10_keepBy 52 = .ok (.goto 8, 3) := by decide +kernel
theorem dX10_keepBy_55 : decode cX10_keepBy 55 = .ok (.iload 4, 2) := by decide +kernel
theorem dX10_keepBy_57 : decode cX10_keepBy 57 = .ok (.invokestatic 200, 3) := by decide +kernel
theorem dX10_keepBy_60 : decode cX10_keepBy 60 = .ok (.ireturn, 1) := by decide +kernel
def Ch_keepBy (N : Nat) (S : St) (p1 : Int32) (p2 : Int32) (p3 : Int32) : Option Int32 :=
  bd1 (Sm_isOne S p1) fun r1 =>
  if r1 = 0 then
    some (-1 : Int32)
  else
    bd1 (Ch_isDay S p2) fun r2 =>
    if r2 = 0 then
      some (-1 : Int32)
    else
      bd1 (Ch_isEither S p3) fun r3 =>
      if r3 = 0 then
        some (-1 : Int32)
      else
        bd1 (Kp_fewestSet N S p1 p2) fun r4 =>
        if r4 = (-2 : Int32) then
          some r4
        else
          if p3 = (1 : Int32) then
            some r4
          else
            bd1 (In_bitCount S r4) fun r5 =>
            some r5
section
variable {p : Program} {l : Launch} {e : Env} {s : State} {m : MethodId} {args : Array Value} {below : List Frame} {meth : Method} {c : Code} {H : Heap} {locs : List Loc} {E : Ev} {S V : St} {ls : Array Slot}
set_option maxRecDepth 20000 in
theorem w_Ch_keepBy {N : Nat} {p1 : Int32} {p2 : Int32} {p3 : Int32} {r : Int32} (C : Cx p s m args meth c E cX10_keepBy 5 RX10 (some .int)) (hw : Wd E (wX V E) s.heap S H locs) (hl : lv_has ls 5 [(0, .ref (ea E 0)), (1, .int p1), (2, .int p2), (3, .int p3)]) (hf : Ch_keepBy N S p1 p2 p3 = some r) : W p l e (rmh 5) s m args below meth c H locs 0 0 (MQ below (QW E (wX V E) (some (.int r)) S) args s 0 0 (eA E)) (F0 m 0 ls []) := by
  have hx := C.1
  have hb := C.2.1
  unfold Ch_keepBy at hf
  refine lv_aload_n hx hb dX10_keepBy_0 rfl (lv_at hl 0 rfl) ?_
  refine get_0_0 C hw q_374 dX10_keepBy_1 ?_
  refine lv_iload_n hx hb dX10_keepBy_4 rfl (lv_at hl 1 rfl) ?_
  obtain ⟨r1, hr, hf⟩ := hf_1 hf
  refine inv_Vi (q0 := 1) (ci := 8) (As := [.int p1]) lk_X10_155 C hw rfl rfl rfl (t_Sm_isOne hr) rfl hl.1 dX10_keepBy_5 rfl (Nat.le_of_ble_eq_true rfl) (by decide) (Nat.le_of_ble_eq_true rfl) rfl (fun H locs hw => ?_)
  refine lv_if_eq (tgt := 25) hx hb dX10_keepBy_8 (by decide) (fun q => ?_) (fun q => ?_)
  · have hf := hf_t q hf
    refine lv_iconst (v := -1) hx hb dX10_keepBy_25 kc_m1 ?_
    exact ret_i C hw dX10_keepBy_26 hf
  · have hf := hf_f q hf
    refine lv_iload_n hx hb dX10_keepBy_11 rfl (lv_at hl 2 rfl) ?_
    obtain ⟨r2, hr, hf⟩ := hf_1 hf
    refine inv_Si (As := [.int p2]) lk_X10_158 C hw (t_Ch_isDay hr) hl.1 dX10_keepBy_12 rfl (Nat.le_of_ble_eq_true rfl) (by decide) (Nat.le_of_ble_eq_true rfl) rfl (fun H locs hw => ?_)
    refine lv_if_eq (tgt := 25) hx hb dX10_keepBy_15 (by decide) (fun q => ?_) (fun q => ?_)
    · have hf := hf_t q hf
      refine lv_iconst (v := -1) hx hb dX10_keepBy_25 kc_m1 ?_
      exact ret_i C hw dX10_keepBy_26 hf
    · have hf := hf_f q hf
      refine lv_iload_n hx hb dX10_keepBy_18 rfl (lv_at hl 3 rfl) ?_
      obtain ⟨r3, hr, hf⟩ := hf_1 hf
      refine inv_Si (As := [.int p3]) lk_X10_185 C hw (t_Ch_isEither hr) hl.1 dX10_keepBy_19 rfl (Nat.le_of_ble_eq_true rfl) (by decide) (Nat.le_of_ble_eq_true rfl) rfl (fun H locs hw => ?_)
      refine lv_if_ne (tgt := 27) hx hb dX10_keepBy_22 (by decide) (fun q => ?_) (fun q => ?_)
      · have hf := hf_f q hf
        refine lv_aload_n hx hb dX10_keepBy_27 rfl (lv_at hl 0 rfl) ?_
        refine get_0_3 C hw q_377 dX10_keepBy_28 ?_
        refine lv_iload_n hx hb dX10_keepBy_31 rfl (lv_at hl 1 rfl) ?_
        refine lv_iload_n hx hb dX10_keepBy_32 rfl (lv_at hl 2 rfl) ?_
        obtain ⟨r4, hr, hf⟩ := hf_1 hf
        refine inv_Vi (q0 := 4) (ci := 4) (As := [.int p1, .int p2]) lk_X10_205 C hw rfl rfl rfl (t_Kp_fewestSet hr) rfl hl.1 dX10_keepBy_33 rfl (Nat.le_of_ble_eq_true rfl) (by decide) (Nat.le_of_ble_eq_true rfl) rfl (fun H locs hw => ?_)
        refine lv_istore (lv' := [(4, .int r4), (0, .ref (ea E 0)), (1, .int p1), (2, .int p2), (3, .int p3)]) hx hb dX10_keepBy_36 hl (by decide) rfl (fun ls hl => ?_)
        refine lv_iload hx hb dX10_keepBy_38 (lv_at hl 0 rfl) ?_
        refine lv_bipush (v := -2) hx hb dX10_keepBy_40 kb_m2 ?_
        refine lv_icmp_eq (tgt := 50) hx hb dX10_keepBy_42 (by decide) (fun q => ?_) (fun q => ?_)
        · have hf := hf_t q hf
          refine lv_iload hx hb dX10_keepBy_50 (lv_at hl 0 rfl) ?_
          refine lv_goto (tgt := 60) hx hb dX10_keepBy_52 (by decide) ?_
          exact ret_i C hw dX10_keepBy_60 hf
        · have hf := hf_f q hf
          refine lv_iload_n hx hb dX10_keepBy_45 rfl (lv_at hl 4 rfl) ?_
          refine lv_iconst (v := 1) hx hb dX10_keepBy_46 kc_1 ?_
          refine lv_icmp_ne (tgt := 55) hx hb dX10_keepBy_47 (by decide) (fun q => ?_) (fun q => ?_)
          · have hf := hf_f q hf
            refine lv_iload hx hb dX10_keepBy_55 (lv_at hl 0 rfl) ?_
            obtain ⟨r5, hr, hf⟩ := hf_1 hf
            refine inv_Si (As := [.int r4]) lk_X10_200 C hw (t_In_bitCount hr) hl.1 dX10_keepBy_57 rfl (Nat.le_of_ble_eq_true rfl) (by decide) (Nat.le_of_ble_eq_true rfl) rfl (fun H locs hw => ?_)
            exact ret_i C hw dX10_keepBy_60 hf
          · have hf := hf_t q hf
            refine lv_iload hx hb dX10_keepBy_50 (lv_at hl 0 rfl) ?_
            refine lv_goto (tgt := 60) hx hb dX10_keepBy_52 (by decide) ?_
            exact ret_i C hw dX10_keepBy_60 hf
      · have hf := hf_t q hf
        refine lv_iconst (v := -1) hx hb dX10_keepBy_25 kc_m1 ?_
        exact ret_i C hw dX10_keepBy_26 hf
end
theorem t_Ch_keepBy {l : Launch} {V : St} {N : Nat} {S : St} {p1 : Int32} {p2 : Int32} {p3 : Int32} {r : Int32} (hf : Ch_keepBy N S p1 p2 p3 = some r) : Ct l (wX V) yX10_keepBy cX10_keepBy 5 (some .int) 5 (fun E => [.ref (ea E 0), .int p1, .int p2, .int p3]) S (fun E => some (.int r)) S :=
  ofBlock (by decide +kernel) (fun _ => Nat.le_of_ble_eq_true rfl) (fun E p e s m args below meth c ls C hw hl => w_Ch_keepBy C hw hl hf)
theorem dX10_lightest_0 : decode cX10_lightest 0 = .ok (.aload_n 0, 1) := by decide +kernel
theorem dX10_lightest_1 : decode cX10_lightest 1 = .ok (.getfield 10, 3) := by decide +kernel
theorem dX10_lightest_4 : decode cX10_lightest 4 = .ok (.iload_n 1, 1) := by decide +kernel
theorem dX10_lightest_5 : decode cX10_lightest 5 = .ok (.invokevirtual 155, 3) := by decide +kernel
theorem dX10_lightest_8 : decode cX10_lightest 8 = .ok (.ifCond .eq 17, 3) := by decide +kernel
theorem dX10_lightest_11 : decode cX10_lightest 11 = .ok (.iload_n 2, 1) := by decide +kernel
theorem dX10_lightest_12 : decode cX10_lightest 12 = .ok (.invokestatic 158, 3) := by decide +kernel
theorem dX10_lightest_15 : decode cX10_lightest 15 = .ok (.ifCond .eq 10, 3) := by decide +kernel
theorem dX10_lightest_18 : decode cX10_lightest 18 = .ok (.iload_n 3, 1) := by decide +kernel
theorem dX10_lightest_19 : decode cX10_lightest 19 = .ok (.invokestatic 185, 3) := by decide +kernel
theorem dX10_lightest_22 : decode cX10_lightest 22 = .ok (.ifCond .ne 5, 3) := by decide +kernel
theorem dX10_lightest_25 : decode cX10_lightest 25 = .ok (.iconst (-1), 1) := by decide +kernel
theorem dX10_lightest_26 : decode cX10_lightest 26 = .ok (.ireturn, 1) := by decide +kernel
theorem dX10_lightest_27 : decode cX10_lightest 27 = .ok (.aload_n 0, 1) := by decide +kernel
theorem dX10_lightest_28 : decode cX10_lightest 28 = .ok (.getfield 56, 3) := by decide +kernel
theorem dX10_lightest_31 : decode cX10_lightest 31 = .ok (.iload_n 1, 1) := by decide +kernel
theorem dX10_lightest_32 : decode cX10_lightest 32 = .ok (.iload_n 2, 1) := by decide +kernel
theorem dX10_lightest_33 : decode cX10_lightest 33 = .ok (.invokevirtual 208, 3) := by decide +kernel
theorem dX10_lightest_36 : decode cX10_lightest 36 = .ok (.istore 4, 2) := by decide +kernel
theorem dX10_lightest_38 : decode cX10_lightest 38 = .ok (.iload 4, 2) := by decide +kernel
theorem dX10_lightest_40 : decode cX10_lightest 40 = .ok (.bipush (-2), 2) := by decide +kernel
theorem dX10_lightest_42 : decode cX10_lightest 42 = .ok (.if_icmp .eq 7, 3) := by decide +kernel
theorem dX10_lightest_45 : decode cX10_lightest 45 = .ok (.iload_n 3, 1) := by decide +kernel
theorem dX10_lightest_46 : decode cX10_lightest 46 = .ok (.ifCond .ne 8, 3) := by decide +kernel
theorem dX10_lightest_49 : decode cX10_lightest 49 = .ok (.iload 4, 2) := by decide +kernel
theorem dX10_lightest_51 : decode cX10_lightest 51 = .ok (.goto 12, 3) := by decide +kernel
theorem dX10_lightest_54 : decode cX10_lightest 54 = .ok (.aload_n 0, 1) := by decide +kernel
theorem dX10_lightest_55 : decode cX10_lightest 55 = .ok (.getfield 10, 3) := by decide +kernel
theorem dX10_lightest_58 : decode cX10_lightest 58 = .ok (.iload 4, 2) := by decide +kernel
theorem dX10_lightest_60 : decode cX10_lightest 60 = .ok (.invokevirtual 211, 3) := by decide +kernel
theorem dX10_lightest_63 : decode cX10_lightest 63 = .ok (.ireturn, 1) := by decide +kernel
def Ch_lightest (N : Nat) (S : St) (p1 : Int32) (p2 : Int32) (p3 : Int32) : Option Int32 :=
  bd1 (Sm_isOne S p1) fun r1 =>
  if r1 = 0 then
    some (-1 : Int32)
  else
    bd1 (Ch_isDay S p2) fun r2 =>
    if r2 = 0 then
      some (-1 : Int32)
    else
      bd1 (Ch_isEither S p3) fun r3 =>
      if r3 = 0 then
        some (-1 : Int32)
      else
        bd1 (Kp_lightestSet N S p1 p2) fun r4 =>
        if r4 = (-2 : Int32) then
          some r4
        else
          if p3 = 0 then
            some r4
          else
            bd1 (Sm_linksOf N S r4) fun r5 =>
            some r5
section
variable {p : Program} {l : Launch} {e : Env} {s : State} {m : MethodId} {args : Array Value} {below : List Frame} {meth : Method} {c : Code} {H : Heap} {locs : List Loc} {E : Ev} {S V : St} {ls : Array Slot}
set_option maxRecDepth 20000 in
theorem w_Ch_lightest {N : Nat} {p1 : Int32} {p2 : Int32} {p3 : Int32} {r : Int32} (C : Cx p s m args meth c E cX10_lightest 5 RX10 (some .int)) (hw : Wd E (wX V E) s.heap S H locs) (hl : lv_has ls 5 [(0, .ref (ea E 0)), (1, .int p1), (2, .int p2), (3, .int p3)]) (hf : Ch_lightest N S p1 p2 p3 = some r) : W p l e (rmh 5) s m args below meth c H locs 0 0 (MQ below (QW E (wX V E) (some (.int r)) S) args s 0 0 (eA E)) (F0 m 0 ls []) := by
  have hx := C.1
  have hb := C.2.1
  unfold Ch_lightest at hf
  refine lv_aload_n hx hb dX10_lightest_0 rfl (lv_at hl 0 rfl) ?_
  refine get_0_0 C hw q_374 dX10_lightest_1 ?_
  refine lv_iload_n hx hb dX10_lightest_4 rfl (lv_at hl 1 rfl) ?_
  obtain ⟨r1, hr, hf⟩ := hf_1 hf
  refine inv_Vi (q0 := 1) (ci := 8) (As := [.int p1]) lk_X10_155 C hw rfl rfl rfl (t_Sm_isOne hr) rfl hl.1 dX10_lightest_5 rfl (Nat.le_of_ble_eq_true rfl) (by decide) (Nat.le_of_ble_eq_true rfl) rfl (fun H locs hw => ?_)
  refine lv_if_eq (tgt := 25) hx hb dX10_lightest_8 (by decide) (fun q => ?_) (fun q => ?_)
  · have hf := hf_t q hf
    refine lv_iconst (v := -1) hx hb dX10_lightest_25 kc_m1 ?_
    exact ret_i C hw dX10_lightest_26 hf
  · have hf := hf_f q hf
    refine lv_iload_n hx hb dX10_lightest_11 rfl (lv_at hl 2 rfl) ?_
    obtain ⟨r2, hr, hf⟩ := hf_1 hf
    refine inv_Si (As := [.int p2]) lk_X10_158 C hw (t_Ch_isDay hr) hl.1 dX10_lightest_12 rfl (Nat.le_of_ble_eq_true rfl) (by decide) (Nat.le_of_ble_eq_true rfl) rfl (fun H locs hw => ?_)
    refine lv_if_eq (tgt := 25) hx hb dX10_lightest_15 (by decide) (fun q => ?_) (fun q => ?_)
    · have hf := hf_t q hf
      refine lv_iconst (v := -1) hx hb dX10_lightest_25 kc_m1 ?_
      exact ret_i C hw dX10_lightest_26 hf
    · have hf := hf_f q hf
      refine lv_iload_n hx hb dX10_lightest_18 rfl (lv_at hl 3 rfl) ?_
      obtain ⟨r3, hr, hf⟩ := hf_1 hf
      refine inv_Si (As := [.int p3]) lk_X10_185 C hw (t_Ch_isEither hr) hl.1 dX10_lightest_19 rfl (Nat.le_of_ble_eq_true rfl) (by decide) (Nat.le_of_ble_eq_true rfl) rfl (fun H locs hw => ?_)
      refine lv_if_ne (tgt := 27) hx hb dX10_lightest_22 (by decide) (fun q => ?_) (fun q => ?_)
      · have hf := hf_f q hf
        refine lv_aload_n hx hb dX10_lightest_27 rfl (lv_at hl 0 rfl) ?_
        refine get_0_3 C hw q_377 dX10_lightest_28 ?_
        refine lv_iload_n hx hb dX10_lightest_31 rfl (lv_at hl 1 rfl) ?_
        refine lv_iload_n hx hb dX10_lightest_32 rfl (lv_at hl 2 rfl) ?_
        obtain ⟨r4, hr, hf⟩ := hf_1 hf
        refine inv_Vi (q0 := 4) (ci := 4) (As := [.int p1, .int p2]) lk_X10_208 C hw rfl rfl rfl (t_Kp_lightestSet hr) rfl hl.1 dX10_lightest_33 rfl (Nat.le_of_ble_eq_true rfl) (by decide) (Nat.le_of_ble_eq_true rfl) rfl (fun H locs hw => ?_)
        refine lv_istore (lv' := [(4, .int r4), (0, .ref (ea E 0)), (1, .int p1), (2, .int p2), (3, .int p3)]) hx hb dX10_lightest_36 hl (by decide) rfl (fun ls hl => ?_)
        refine lv_iload hx hb dX10_lightest_38 (lv_at hl 0 rfl) ?_
        refine lv_bipush (v := -2) hx hb dX10_lightest_40 kb_m2 ?_
        refine lv_icmp_eq (tgt := 49) hx hb dX10_lightest_42 (by decide) (fun q => ?_) (fun q => ?_)
        · have hf := hf_t q hf
          refine lv_iload hx hb dX10_lightest_49 (lv_at hl 0 rfl) ?_
          refine lv_goto (tgt := 63) hx hb dX10_lightest_51 (by decide) ?_
          exact ret_i C hw dX10_lightest_63 hf
        · have hf := hf_f q hf
          refine lv_iload_n hx hb dX10_lightest_45 rfl (lv_at hl 4 rfl) ?_
          refine lv_if_ne (tgt := 54) hx hb dX10_lightest_46 (by decide) (fun q => ?_) (fun q => ?_)
          · have hf := hf_f q hf
            refine lv_aload_n hx hb dX10_lightest_54 rfl (lv_at hl 1 rfl) ?_
            refine get_0_0 C hw q_374 dX10_lightest_55 ?_
            refine lv_iload hx hb dX10_lightest_58 (lv_at hl 0 rfl) ?_
            obtain ⟨r5, hr, hf⟩ := hf_1 hf
            refine inv_Vi (q0 := 1) (ci := 8) (As := [.int r4]) lk_X10_211 C hw rfl rfl rfl (t_Sm_linksOf hr) rfl hl.1 dX10_lightest_60 rfl (Nat.le_of_ble_eq_true rfl) (by decide) (Nat.le_of_ble_eq_true rfl) rfl (fun H locs hw => ?_)
            exact ret_i C hw dX10_lightest_63 hf
          · have hf := hf_t q hf
            refine lv_iload hx hb dX10_lightest_49 (lv_at hl 0 rfl) ?_
            refine lv_goto (tgt := 63) hx hb dX10_lightest_51 (by decide) ?_
            exact ret_i C hw dX10_lightest_63 hf
      · have hf := hf_t q hf
        refine lv_iconst (v := -1) hx hb dX10_lightest_25 kc_m1 ?_
        exact ret_i C hw dX10_lightest_26 hf
end
theorem t_Ch_lightest {l : Launch} {V : St} {N : Nat} {S : St} {p1 : Int32} {p2 : Int32} {p3 : Int32} {r : Int32} (hf : Ch_lightest N S p1 p2 p3 = some r) : Ct l (wX V) yX10_lightest cX10_lightest 5 (some .int) 5 (fun E => [.ref (ea E 0), .int p1, .int p2, .int p3]) S (fun E => some (.int r)) S :=
  ofBlock (by decide +kernel) (fun _ => Nat.le_of_ble_eq_true rfl) (fun E p e s m args below meth c ls C hw hl => w_Ch_lightest C hw hl hf)
theorem dX10_ways_0 : decode cX10_ways 0 = .ok (.aload_n 0, 1) := by decide +kernel
theorem dX10_ways_1 : decode cX10_ways 1 = .ok (.getfield 10, 3) := by decide +kernel
theorem dX10_ways_4 : decode cX10_ways 4 = .ok (.iload_n 1, 1) := by decide +kernel
theorem dX10_ways_5 : decode cX10_ways 5 = .ok (.invokevirtual 155, 3) := by decide +kernel
theorem dX10_ways_8 : decode cX10_ways 8 = .ok (.ifCond .eq 22, 3) := by decide +kernel
theorem dX10_ways_11 : decode cX10_ways 11 = .ok (.iload_n 2, 1) := by decide +kernel
theorem dX10_ways_12 : decode cX10_ways 12 = .ok (.invokestatic 158, 3) := by decide +kernel
theorem dX10_ways_15 : decode cX10_ways 15 = .ok (.ifCond .eq 15, 3) := by decide +kernel
theorem dX10_ways_18 : decode cX10_ways 18 = .ok (.aload_n 0, 1) := by decide +kernel
theorem dX10_ways_19 : decode cX10_ways 19 = .ok (.getfield 56, 3) := by decide +kernel
theorem dX10_ways_22 : decode cX10_ways 22 = .ok (.iload_n 1, 1) := by decide +kernel
theorem dX10_ways_23 : decode cX10_ways 23 = .ok (.iload_n 2, 1) := by decide +kernel
theorem dX10_ways_24 : decode cX10_ways 24 = .ok (.invokevirtual 214, 3) := by decide +kernel
theorem dX10_ways_27 : decode cX10_ways 27 = .ok (.goto 4, 3) := by decide +kernel
theorem dX10_ways_30 : decode cX10_ways 30 = .ok (.iconst (-1), 1) := by decide +kernel
theorem dX10_ways_31 : decode cX10_ways 31 = .ok (.ireturn, 1) := by decide +kernel
def Ch_ways (N : Nat) (S : St) (p1 : Int32) (p2 : Int32) : Option Int32 :=
  bd1 (Sm_isOne S p1) fun r1 =>
  if r1 = 0 then
    some (-1 : Int32)
  else
    bd1 (Ch_isDay S p2) fun r2 =>
    if r2 = 0 then
      some (-1 : Int32)
    else
      bd1 (Kp_howManySets N S p1 p2) fun r3 =>
      some r3
section
variable {p : Program} {l : Launch} {e : Env} {s : State} {m : MethodId} {args : Array Value} {below : List Frame} {meth : Method} {c : Code} {H : Heap} {locs : List Loc} {E : Ev} {S V : St} {ls : Array Slot}
set_option maxRecDepth 20000 in
theorem w_Ch_ways {N : Nat} {p1 : Int32} {p2 : Int32} {r : Int32} (C : Cx p s m args meth c E cX10_ways 3 RX10 (some .int)) (hw : Wd E (wX V E) s.heap S H locs) (hl : lv_has ls 3 [(0, .ref (ea E 0)), (1, .int p1), (2, .int p2)]) (hf : Ch_ways N S p1 p2 = some r) : W p l e (rmh 5) s m args below meth c H locs 0 0 (MQ below (QW E (wX V E) (some (.int r)) S) args s 0 0 (eA E)) (F0 m 0 ls []) := by
  have hx := C.1
  have hb := C.2.1
  unfold Ch_ways at hf
  refine lv_aload_n hx hb dX10_ways_0 rfl (lv_at hl 0 rfl) ?_
  refine get_0_0 C hw q_374 dX10_ways_1 ?_
  refine lv_iload_n hx hb dX10_ways_4 rfl (lv_at hl 1 rfl) ?_
  obtain ⟨r1, hr, hf⟩ := hf_1 hf
  refine inv_Vi (q0 := 1) (ci := 8) (As := [.int p1]) lk_X10_155 C hw rfl rfl rfl (t_Sm_isOne hr) rfl hl.1 dX10_ways_5 rfl (Nat.le_of_ble_eq_true rfl) (by decide) (Nat.le_of_ble_eq_true rfl) rfl (fun H locs hw => ?_)
  refine lv_if_eq (tgt := 30) hx hb dX10_ways_8 (by decide) (fun q => ?_) (fun q => ?_)
  · have hf := hf_t q hf
    refine lv_iconst (v := -1) hx hb dX10_ways_30 kc_m1 ?_
    exact ret_i C hw dX10_ways_31 hf
  · have hf := hf_f q hf
    refine lv_iload_n hx hb dX10_ways_11 rfl (lv_at hl 2 rfl) ?_
    obtain ⟨r2, hr, hf⟩ := hf_1 hf
    refine inv_Si (As := [.int p2]) lk_X10_158 C hw (t_Ch_isDay hr) hl.1 dX10_ways_12 rfl (Nat.le_of_ble_eq_true rfl) (by decide) (Nat.le_of_ble_eq_true rfl) rfl (fun H locs hw => ?_)
    refine lv_if_eq (tgt := 30) hx hb dX10_ways_15 (by decide) (fun q => ?_) (fun q => ?_)
    · have hf := hf_t q hf
      refine lv_iconst (v := -1) hx hb dX10_ways_30 kc_m1 ?_
      exact ret_i C hw dX10_ways_31 hf
    · have hf := hf_f q hf
      refine lv_aload_n hx hb dX10_ways_18 rfl (lv_at hl 0 rfl) ?_
      refine get_0_3 C hw q_377 dX10_ways_19 ?_
      refine lv_iload_n hx hb dX10_ways_22 rfl (lv_at hl 1 rfl) ?_
      refine lv_iload_n hx hb dX10_ways_23 rfl (lv_at hl 2 rfl) ?_
      obtain ⟨r3, hr, hf⟩ := hf_1 hf
      refine inv_Vi (q0 := 4) (ci := 4) (As := [.int p1, .int p2]) lk_X10_214 C hw rfl rfl rfl (t_Kp_howManySets hr) rfl hl.1 dX10_ways_24 rfl (Nat.le_of_ble_eq_true rfl) (by decide) (Nat.le_of_ble_eq_true rfl) rfl (fun H locs hw => ?_)
      refine lv_goto (tgt := 31) hx hb dX10_ways_27 (by decide) ?_
      exact ret_i C hw dX10_ways_31 hf
end
theorem t_Ch_ways {l : Launch} {V : St} {N : Nat} {S : St} {p1 : Int32} {p2 : Int32} {r : Int32} (hf : Ch_ways N S p1 p2 = some r) : Ct l (wX V) yX10_ways cX10_ways 3 (some .int) 5 (fun E => [.ref (ea E 0), .int p1, .int p2]) S (fun E => some (.int r)) S :=
  ofBlock (by decide +kernel) (fun _ => Nat.le_of_ble_eq_true rfl) (fun E p e s m args below meth c ls C hw hl => w_Ch_ways C hw hl hf)
theorem dX10_can_0 : decode cX10_can 0 = .ok (.aload_n 0, 1) := by decide +kernel
theorem dX10_can_1 : decode cX10_can 1 = .ok (.getfield 10, 3) := by decide +kernel
theorem dX10_can_4 : decode cX10_can 4 = .ok (.iload_n 1, 1) := by decide +kernel
theorem dX10_can_5 : decode cX10_can 5 = .ok (.invokevirtual 155, 3) := by decide +kernel
theorem dX10_can_8 : decode cX10_can 8 = .ok (.ifCond .eq 18, 3) := by decide +kernel
theorem dX10_can_11 : decode cX10_can 11 = .ok (.iload_n 2, 1) := by decide +kernel
theorem dX10_can_12 : decode cX10_can 12 = .ok (.aload_n 0, 1) := by decide +kernel
theorem dX10_can_13 : decode cX10_can 13 = .ok (.getfield 10, 3) := by decide +kernel
theorem dX10_can_16 : decode cX10_can 16 = .ok (.iload_n 1, 1) := by decide +kernel
theorem dX10_can_17 : decode cX10_can 17 = .ok (.invokevirtual 217, 3) := by decide +kernel
theorem dX10_can_20 : decode cX10_can 20 = .ok (.iconst (-1), 1) := by decide +kernel
theorem dX10_can_21 : decode cX10_can 21 = .ok (.ixor, 1) := by decide +kernel
theorem dX10_can_22 : decode cX10_can 22 = .ok (.iand, 1) := by decide +kernel
theorem dX10_can_23 : decode cX10_can 23 = .ok (.ifCond .eq 5, 3) := by decide +kernel
theorem dX10_can_26 : decode cX10_can 26 = .ok (.iconst (-1), 1) := by decide +kernel
theorem dX10_can_27 : decode cX10_can 27 = .ok (.ireturn, 1) := by decide +kernel
theorem dX10_can_28 : decode cX10_can 28 = .ok (.aload_n 0, 1) := by decide +kernel
theorem dX10_can_29 : decode cX10_can 29 = .ok (.getfield 63, 3) := by decide +kernel
theorem dX10_can_32 : decode cX10_can 32 = .ok (.iload_n 2, 1) := by decide +kernel
theorem dX10_can_33 : decode cX10_can 33 = .ok (.invokevirtual 220, 3) := by decide +kernel
theorem dX10_can_36 : decode cX10_can 36 = .ok (.ifCond .eq 7, 3) := by decide +kernel
theorem dX10_can_39 : decode cX10_can 39 = .ok (.iconst 1, 1) := by decide +kernel
theorem dX10_can_40 : decode cX10_can 40 = .ok (.goto 4, 3) := by decide +kernel
theorem dX10_can_43 : decode cX10_can 43 = .ok (.iconst 0, 1) := by decide +kernel
theorem dX10_can_44 : decode cX10_can 44 = .ok (.ireturn, 1) := by decide +kernel
def Ch_can (N : Nat) (S : St) (p1 : Int32) (p2 : Int32) : Option (Int32 × St) :=
  bd1 (Sm_isOne S p1) fun r1 =>
  if r1 = 0 then
    some ((-1 : Int32), S)
  else
    bd1 (Sm_promisesOf N S p1) fun r2 =>
    if (p2 &&& (r2 ^^^ (-1 : Int32))) = 0 then
      bd2 (Wk_canAll N S p2) fun r4 S3 =>
      if r4 = 0 then
        some ((0 : Int32), S3)
      else
        some ((1 : Int32), S3)
    else
      some ((-1 : Int32), S)
section
variable {p : Program} {l : Launch} {e : Env} {s : State} {m : MethodId} {args : Array Value} {below : List Frame} {meth : Method} {c : Code} {H : Heap} {locs : List Loc} {E : Ev} {S V : St} {ls : Array Slot}
set_option maxRecDepth 20000 in
theorem w_Ch_can {N : Nat} {p1 : Int32} {p2 : Int32} {r : Int32} {S9 : St} (C : Cx p s m args meth c E cX10_can 3 RX10 (some .int)) (hw : Wd E (wX V E) s.heap S H locs) (hl : lv_has ls 3 [(0, .ref (ea E 0)), (1, .int p1), (2, .int p2)]) (hf : Ch_can N S p1 p2 = some (r, S9)) : W p l e (rmh 5) s m args below meth c H locs 0 0 (MQ below (QW E (wX V E) (some (.int r)) S9) args s 0 0 (eA E)) (F0 m 0 ls []) := by
  have hx := C.1
  have hb := C.2.1
  unfold Ch_can at hf
  refine lv_aload_n hx hb dX10_can_0 rfl (lv_at hl 0 rfl) ?_
  refine get_0_0 C hw q_374 dX10_can_1 ?_
  refine lv_iload_n hx hb dX10_can_4 rfl (lv_at hl 1 rfl) ?_
  obtain ⟨r1, hr, hf⟩ := hf_1 hf
  refine inv_Vi (q0 := 1) (ci := 8) (As := [.int p1]) lk_X10_155 C hw rfl rfl rfl (t_Sm_isOne hr) rfl hl.1 dX10_can_5 rfl (Nat.le_of_ble_eq_true rfl) (by decide) (Nat.le_of_ble_eq_true rfl) rfl (fun H locs hw => ?_)
  refine lv_if_eq (tgt := 26) hx hb dX10_can_8 (by decide) (fun q => ?_) (fun q => ?_)
  · have hf := hf_t q hf
    refine lv_iconst (v := -1) hx hb dX10_can_26 kc_m1 ?_
    exact ret_iS C hw dX10_can_27 hf
  · have hf := hf_f q hf
    refine lv_iload_n hx hb dX10_can_11 rfl (lv_at hl 2 rfl) ?_
    refine lv_aload_n hx hb dX10_can_12 rfl (lv_at hl 0 rfl) ?_
    refine get_0_0 C hw q_374 dX10_can_13 ?_
    refine lv_iload_n hx hb dX10_can_16 rfl (lv_at hl 1 rfl) ?_
    obtain ⟨r2, hr, hf⟩ := hf_1 hf
    refine inv_Vi (q0 := 1) (ci := 8) (As := [.int p1]) lk_X10_217 C hw rfl rfl rfl (t_Sm_promisesOf hr) rfl hl.1 dX10_can_17 rfl (Nat.le_of_ble_eq_true rfl) (by decide) (Nat.le_of_ble_eq_true rfl) rfl (fun H locs hw => ?_)
    refine lv_iconst (v := -1) hx hb dX10_can_20 kc_m1 ?_
    refine lv_ixor hx hb dX10_can_21 ?_
    refine lv_iand hx hb dX10_can_22 ?_
    refine lv_if_eq (tgt := 28) hx hb dX10_can_23 (by decide) (fun q => ?_) (fun q => ?_)
    · have hf := hf_t q hf
      refine lv_aload_n hx hb dX10_can_28 rfl (lv_at hl 0 rfl) ?_
      refine get_0_4 C hw q_378 dX10_can_29 ?_
      refine lv_iload_n hx hb dX10_can_32 rfl (lv_at hl 2 rfl) ?_
      obtain ⟨r4, S3, hr, hf⟩ := hf_2 hf
      refine inv_Vi (q0 := 5) (ci := 9) (As := [.int p2]) lk_X10_220 C hw rfl rfl rfl (t_Wk_canAll hr) rfl hl.1 dX10_can_33 rfl (Nat.le_of_ble_eq_true rfl) (by decide) (Nat.le_of_ble_eq_true rfl) rfl (fun H locs hw => ?_)
      refine lv_if_eq (tgt := 43) hx hb dX10_can_36 (by decide) (fun q => ?_) (fun q => ?_)
      · have hf := hf_t q hf
        refine lv_iconst (v := 0) hx hb dX10_can_43 kc_0 ?_
        exact ret_iS C hw dX10_can_44 hf
      · have hf := hf_f q hf
        refine lv_iconst (v := 1) hx hb dX10_can_39 kc_1 ?_
        refine lv_goto (tgt := 44) hx hb dX10_can_40 (by decide) ?_
        exact ret_iS C hw dX10_can_44 hf
    · have hf := hf_f q hf
      refine lv_iconst (v := -1) hx hb dX10_can_26 kc_m1 ?_
      exact ret_iS C hw dX10_can_27 hf
end
theorem t_Ch_can {l : Launch} {V : St} {N : Nat} {S : St} {p1 : Int32} {p2 : Int32} {r : Int32} {S9 : St} (hf : Ch_can N S p1 p2 = some (r, S9)) : Ct l (wX V) yX10_can cX10_can 3 (some .int) 5 (fun E => [.ref (ea E 0), .int p1, .int p2]) S (fun E => some (.int r)) S9 :=
  ofBlock (by decide +kernel) (fun _ => Nat.le_of_ble_eq_true rfl) (fun E p e s m args below meth c ls C hw hl => w_Ch_can C hw hl hf)
theorem dX10_most_0 : decode cX10_most 0 = .ok (.aload_n 0, 1) := by decide +kernel
theorem dX10_most_1 : decode cX10_most 1 = .ok (.getfield 10, 3) := by decide +kernel
theorem dX10_most_4 : decode cX10_most 4 = .ok (.iload_n 1, 1) := by decide +kernel
theorem dX10_most_5 : decode cX10_most 5 = .ok (.invokevirtual 155, 3) := by decide +kernel
theorem dX10_most_8 : decode cX10_most 8 = .ok (.ifCond .eq 10, 3) := by decide +kernel
theorem dX10_most_11 : decode cX10_most 11 = .ok (.iload_n 2, 1) := by decide +kernel
theorem dX10_most_12 : decode cX10_most 12 = .ok (.invokestatic 185, 3) := by decide +kernel
theorem dX10_most_15 : decode cX10_most 15 = .ok (.ifCond .ne 5, 3) := by decide +kernel
theorem dX10_most_18 : decode cX10_most 18 = .ok (.iconst (-1), 1) := by decide +kernel
theorem dX10_most_19 : decode cX10_most 19 = .ok (.ireturn, 1) := by decide +kernel
theorem dX10_most_20 : decode cX10_most 20 = .ok (.aload_n 0, 1) := by decide +kernel
theorem dX10_most_21 : decode cX10_most 21 = .ok (.getfield 63, 3) := by decide +kernel
theorem dX10_most_24 : decode cX10_most 24 = .ok (.aload_n 0, 1) := by decide +kernel
theorem dX10_most_25 : decode cX10_most 25 = .ok (.getfield 10, 3) := by decide +kernel
theorem dX10_most_28 : decode cX10_most 28 = .ok (.iload_n 1, 1) := by decide +kernel
theorem dX10_most_29 : decode cX10_most 29 = .ok (.invokevirtual 217, 3) := by decide +kernel
theorem dX10_most_32 : decode cX10_most 32 = .ok (.invokevirtual 223, 3) := by decide +kernel
theorem dX10_most_35 : decode cX10_most 35 = .ok (.istore_n 3, 1) := by decide +kernel
theorem dX10_most_36 : decode cX10_most 36 = .ok (.iload_n 2, 1) := by decide +kernel
theorem dX10_most_37 : decode cX10_most 37 = .ok (.iconst 1, 1) := by decide +kernel
theorem dX10_most_38 : decode cX10_most 38 = .ok (.if_icmp .ne 7, 3) := by decide +kernel
theorem dX10_most_41 : decode cX10_most 41 = .ok (.iload_n 3, 1) := by decide +kernel
theorem dX10_most_42 : decode cX10_most 42 = .ok (.goto 7, 3) := by decide +kernel
theorem dX10_most_45 : decode cX10_most 45 = .ok (.iload_n 3, 1) := by decide +kernel
theorem dX10_most_46 : decode cX10_most 46 = .ok (.invokestatic 200, 3) := by decide +kernel
theorem dX10_most_49 : decode cX10_most 49 = .ok (.ireturn, 1) := by decide +kernel
def Ch_most (N : Nat) (S : St) (p1 : Int32) (p2 : Int32) : Option (Int32 × St) :=
  bd1 (Sm_isOne S p1) fun r1 =>
  if r1 = 0 then
    some ((-1 : Int32), S)
  else
    bd1 (Ch_isEither S p2) fun r2 =>
    if r2 = 0 then
      some ((-1 : Int32), S)
    else
      bd1 (Sm_promisesOf N S p1) fun r3 =>
      bd2 (Wk_greatestSet N S r3) fun r5 S4 =>
      if p2 = (1 : Int32) then
        some (r5, S4)
      else
        bd1 (In_bitCount S4 r5) fun r6 =>
        some (r6, S4)
section
variable {p : Program} {l : Launch} {e : Env} {s : State} {m : MethodId} {args : Array Value} {below : List Frame} {meth : Method} {c : Code} {H : Heap} {locs : List Loc} {E : Ev} {S V : St} {ls : Array Slot}
set_option maxRecDepth 20000 in
theorem w_Ch_most {N : Nat} {p1 : Int32} {p2 : Int32} {r : Int32} {S9 : St} (C : Cx p s m args meth c E cX10_most 4 RX10 (some .int)) (hw : Wd E (wX V E) s.heap S H locs) (hl : lv_has ls 4 [(0, .ref (ea E 0)), (1, .int p1), (2, .int p2)]) (hf : Ch_most N S p1 p2 = some (r, S9)) : W p l e (rmh 5) s m args below meth c H locs 0 0 (MQ below (QW E (wX V E) (some (.int r)) S9) args s 0 0 (eA E)) (F0 m 0 ls []) := by
  have hx := C.1
  have hb := C.2.1
  unfold Ch_most at hf
  refine lv_aload_n hx hb dX10_most_0 rfl (lv_at hl 0 rfl) ?_
  refine get_0_0 C hw q_374 dX10_most_1 ?_
  refine lv_iload_n hx hb dX10_most_4 rfl (lv_at hl 1 rfl) ?_
  obtain ⟨r1, hr, hf⟩ := hf_1 hf
  refine inv_Vi (q0 := 1) (ci := 8) (As := [.int p1]) lk_X10_155 C hw rfl rfl rfl (t_Sm_isOne hr) rfl hl.1 dX10_most_5 rfl (Nat.le_of_ble_eq_true rfl) (by decide) (Nat.le_of_ble_eq_true rfl) rfl (fun H locs hw => ?_)
  refine lv_if_eq (tgt := 18) hx hb dX10_most_8 (by decide) (fun q => ?_) (fun q => ?_)
  · have hf := hf_t q hf
    refine lv_iconst (v := -1) hx hb dX10_most_18 kc_m1 ?_
    exact ret_iS C hw dX10_most_19 hf
  · have hf := hf_f q hf
    refine lv_iload_n hx hb dX10_most_11 rfl (lv_at hl 2 rfl) ?_
    obtain ⟨r2, hr, hf⟩ := hf_1 hf
    refine inv_Si (As := [.int p2]) lk_X10_185 C hw (t_Ch_isEither hr) hl.1 dX10_most_12 rfl (Nat.le_of_ble_eq_true rfl) (by decide) (Nat.le_of_ble_eq_true rfl) rfl (fun H locs hw => ?_)
    refine lv_if_ne (tgt := 20) hx hb dX10_most_15 (by decide) (fun q => ?_) (fun q => ?_)
    · have hf := hf_f q hf
      refine lv_aload_n hx hb dX10_most_20 rfl (lv_at hl 0 rfl) ?_
      refine get_0_4 C hw q_378 dX10_most_21 ?_
      refine lv_aload_n hx hb dX10_most_24 rfl (lv_at hl 0 rfl) ?_
      refine get_0_0 C hw q_374 dX10_most_25 ?_
      refine lv_iload_n hx hb dX10_most_28 rfl (lv_at hl 1 rfl) ?_
      obtain ⟨r3, hr, hf⟩ := hf_1 hf
      refine inv_Vi (q0 := 1) (ci := 8) (As := [.int p1]) lk_X10_217 C hw rfl rfl rfl (t_Sm_promisesOf hr) rfl hl.1 dX10_most_29 rfl (Nat.le_of_ble_eq_true rfl) (by decide) (Nat.le_of_ble_eq_true rfl) rfl (fun H locs hw => ?_)
      obtain ⟨r5, S4, hr, hf⟩ := hf_2 hf
      refine inv_Vi (q0 := 5) (ci := 9) (As := [.int r3]) lk_X10_223 C hw rfl rfl rfl (t_Wk_greatestSet hr) rfl hl.1 dX10_most_32 rfl (Nat.le_of_ble_eq_true rfl) (by decide) (Nat.le_of_ble_eq_true rfl) rfl (fun H locs hw => ?_)
      refine lv_istore_n (lv' := [(3, .int r5), (0, .ref (ea E 0)), (1, .int p1), (2, .int p2)]) hx hb dX10_most_35 rfl hl (by decide) rfl (fun ls hl => ?_)
      refine lv_iload_n hx hb dX10_most_36 rfl (lv_at hl 3 rfl) ?_
      refine lv_iconst (v := 1) hx hb dX10_most_37 kc_1 ?_
      refine lv_icmp_ne (tgt := 45) hx hb dX10_most_38 (by decide) (fun q => ?_) (fun q => ?_)
      · have hf := hf_f q hf
        refine lv_iload_n hx hb dX10_most_45 rfl (lv_at hl 0 rfl) ?_
        obtain ⟨r6, hr, hf⟩ := hf_1 hf
        refine inv_Si (As := [.int r5]) lk_X10_200 C hw (t_In_bitCount hr) hl.1 dX10_most_46 rfl (Nat.le_of_ble_eq_true rfl) (by decide) (Nat.le_of_ble_eq_true rfl) rfl (fun H locs hw => ?_)
        exact ret_iS C hw dX10_most_49 hf
      · have hf := hf_t q hf
        refine lv_iload_n hx hb dX10_most_41 rfl (lv_at hl 0 rfl) ?_
        refine lv_goto (tgt := 49) hx hb dX10_most_42 (by decide) ?_
        exact ret_iS C hw dX10_most_49 hf
    · have hf := hf_t q hf
      refine lv_iconst (v := -1) hx hb dX10_most_18 kc_m1 ?_
      exact ret_iS C hw dX10_most_19 hf
end
theorem t_Ch_most {l : Launch} {V : St} {N : Nat} {S : St} {p1 : Int32} {p2 : Int32} {r : Int32} {S9 : St} (hf : Ch_most N S p1 p2 = some (r, S9)) : Ct l (wX V) yX10_most cX10_most 4 (some .int) 5 (fun E => [.ref (ea E 0), .int p1, .int p2]) S (fun E => some (.int r)) S9 :=
  ofBlock (by decide +kernel) (fun _ => Nat.le_of_ble_eq_true rfl) (fun E p e s m args below meth c ls C hw hl => w_Ch_most C hw hl hf)
theorem dX10_clashes_0 : decode cX10_clashes 0 = .ok (.aload_n 0, 1) := by decide +kernel
theorem dX10_clashes_1 : decode cX10_clashes 1 = .ok (.getfield 10, 3) := by decide +kernel
theorem dX10_clashes_4 : decode cX10_clashes 4 = .ok (.iload_n 1, 1) := by decide +kernel
theorem dX10_clashes_5 : decode cX10_clashes 5 = .ok (.invokevirtual 155, 3) := by decide +kernel
theorem dX10_clashes_8 : decode cX10_clashes 8 = .ok (.ifCond .eq 10, 3) := by decide +kernel
theorem dX10_clashes_11 : decode cX10_clashes 11 = .ok (.iload_n 2, 1) := by decide +kernel
theorem dX10_clashes_12 : decode cX10_clashes 12 = .ok (.invokestatic 185, 3) := by decide +kernel
theorem dX10_clashes_15 : decode cX10_clashes 15 = .ok (.ifCond .ne 5, 3) := by decide +kernel
theorem dX10_clashes_18 : decode cX10_clashes 18 = .ok (.iconst (-1), 1) := by decide +kernel
theorem dX10_clashes_19 : decode cX10_clashes 19 = .ok (.ireturn, 1) := by decide +kernel
theorem dX10_clashes_20 : decode cX10_clashes 20 = .ok (.aload_n 0, 1) := by decide +kernel
theorem dX10_clashes_21 : decode cX10_clashes 21 = .ok (.getfield 10, 3) := by decide +kernel
theorem dX10_clashes_24 : decode cX10_clashes 24 = .ok (.iload_n 1, 1) := by decide +kernel
theorem dX10_clashes_25 : decode cX10_clashes 25 = .ok (.invokevirtual 217, 3) := by decide +kernel
theorem dX10_clashes_28 : decode cX10_clashes 28 = .ok (.istore_n 3, 1) := by decide +kernel
theorem dX10_clashes_29 : decode cX10_clashes 29 = .ok (.iload_n 2, 1) := by decide +kernel
theorem dX10_clashes_30 : decode cX10_clashes 30 = .ok (.ifCond .ne 14, 3) := by decide +kernel
theorem dX10_clashes_33 : decode cX10_clashes 33 = .ok (.aload_n 0, 1) := by decide +kernel
theorem dX10_clashes_34 : decode cX10_clashes 34 = .ok (.getfield 63, 3) := by decide +kernel
theorem dX10_clashes_37 : decode cX10_clashes 37 = .ok (.iload_n 3, 1) := by decide +kernel
theorem dX10_clashes_38 : decode cX10_clashes 38 = .ok (.invokevirtual 226, 3) := by decide +kernel
theorem dX10_clashes_41 : decode cX10_clashes 41 = .ok (.goto 11, 3) := by decide +kernel
theorem dX10_clashes_44 : decode cX10_clashes 44 = .ok (.aload_n 0, 1) := by decide +kernel
theorem dX10_clashes_45 : decode cX10_clashes 45 = .ok (.getfield 63, 3) := by decide +kernel
theorem dX10_clashes_48 : decode cX10_clashes 48 = .ok (.iload_n 3, 1) := by decide +kernel
theorem dX10_clashes_49 : decode cX10_clashes 49 = .ok (.invokevirtual 229, 3) := by decide +kernel
theorem dX10_clashes_52 : decode cX10_clashes 52 = .ok (.ireturn, 1) := by decide +kernel
def Ch_clashes (N : Nat) (S : St) (p1 : Int32) (p2 : Int32) : Option (Int32 × St) :=
  bd1 (Sm_isOne S p1) fun r1 =>
  if r1 = 0 then
    some ((-1 : Int32), S)
  else
    bd1 (Ch_isEither S p2) fun r2 =>
    if r2 = 0 then
      some ((-1 : Int32), S)
    else
      bd1 (Sm_promisesOf N S p1) fun r3 =>
      if p2 = 0 then
        bd2 (Wk_howManyClashes N S r3) fun r7 S6 =>
        some (r7, S6)
      else
        bd2 (Wk_leastClash N S r3) fun r5 S4 =>
        some (r5, S4)
section
variable {p : Program} {l : Launch} {e : Env} {s : State} {m : MethodId} {args : Array Value} {below : List Frame} {meth : Method} {c : Code} {H : Heap} {locs : List Loc} {E : Ev} {S V : St} {ls : Array Slot}
set_option maxRecDepth 20000 in
theorem w_Ch_clashes {N : Nat} {p1 : Int32} {p2 : Int32} {r : Int32} {S9 : St} (C : Cx p s m args meth c E cX10_clashes 4 RX10 (some .int)) (hw : Wd E (wX V E) s.heap S H locs) (hl : lv_has ls 4 [(0, .ref (ea E 0)), (1, .int p1), (2, .int p2)]) (hf : Ch_clashes N S p1 p2 = some (r, S9)) : W p l e (rmh 5) s m args below meth c H locs 0 0 (MQ below (QW E (wX V E) (some (.int r)) S9) args s 0 0 (eA E)) (F0 m 0 ls []) := by
  have hx := C.1
  have hb := C.2.1
  unfold Ch_clashes at hf
  refine lv_aload_n hx hb dX10_clashes_0 rfl (lv_at hl 0 rfl) ?_
  refine get_0_0 C hw q_374 dX10_clashes_1 ?_
  refine lv_iload_n hx hb dX10_clashes_4 rfl (lv_at hl 1 rfl) ?_
  obtain ⟨r1, hr, hf⟩ := hf_1 hf
  refine inv_Vi (q0 := 1) (ci := 8) (As := [.int p1]) lk_X10_155 C hw rfl rfl rfl (t_Sm_isOne hr) rfl hl.1 dX10_clashes_5 rfl (Nat.le_of_ble_eq_true rfl) (by decide) (Nat.le_of_ble_eq_true rfl) rfl (fun H locs hw => ?_)
  refine lv_if_eq (tgt := 18) hx hb dX10_clashes_8 (by decide) (fun q => ?_) (fun q => ?_)
  · have hf := hf_t q hf
    refine lv_iconst (v := -1) hx hb dX10_clashes_18 kc_m1 ?_
    exact ret_iS C hw dX10_clashes_19 hf
  · have hf := hf_f q hf
    refine lv_iload_n hx hb dX10_clashes_11 rfl (lv_at hl 2 rfl) ?_
    obtain ⟨r2, hr, hf⟩ := hf_1 hf
    refine inv_Si (As := [.int p2]) lk_X10_185 C hw (t_Ch_isEither hr) hl.1 dX10_clashes_12 rfl (Nat.le_of_ble_eq_true rfl) (by decide) (Nat.le_of_ble_eq_true rfl) rfl (fun H locs hw => ?_)
    refine lv_if_ne (tgt := 20) hx hb dX10_clashes_15 (by decide) (fun q => ?_) (fun q => ?_)
    · have hf := hf_f q hf
      refine lv_aload_n hx hb dX10_clashes_20 rfl (lv_at hl 0 rfl) ?_
      refine get_0_0 C hw q_374 dX10_clashes_21 ?_
      refine lv_iload_n hx hb dX10_clashes_24 rfl (lv_at hl 1 rfl) ?_
      obtain ⟨r3, hr, hf⟩ := hf_1 hf
      refine inv_Vi (q0 := 1) (ci := 8) (As := [.int p1]) lk_X10_217 C hw rfl rfl rfl (t_Sm_promisesOf hr) rfl hl.1 dX10_clashes_25 rfl (Nat.le_of_ble_eq_true rfl) (by decide) (Nat.le_of_ble_eq_true rfl) rfl (fun H locs hw => ?_)
      refine lv_istore_n (lv' := [(3, .int r3), (0, .ref (ea E 0)), (1, .int p1), (2, .int p2)]) hx hb dX10_clashes_28 rfl hl (by decide) rfl (fun ls hl => ?_)
      refine lv_iload_n hx hb dX10_clashes_29 rfl (lv_at hl 3 rfl) ?_
      refine lv_if_ne (tgt := 44) hx hb dX10_clashes_30 (by decide) (fun q => ?_) (fun q => ?_)
      · have hf := hf_f q hf
        refine lv_aload_n hx hb dX10_clashes_44 rfl (lv_at hl 1 rfl) ?_
        refine get_0_4 C hw q_378 dX10_clashes_45 ?_
        refine lv_iload_n hx hb dX10_clashes_48 rfl (lv_at hl 0 rfl) ?_
        obtain ⟨r5, S4, hr, hf⟩ := hf_2 hf
        refine inv_Vi (q0 := 5) (ci := 9) (As := [.int r3]) lk_X10_229 C hw rfl rfl rfl (t_Wk_leastClash hr) rfl hl.1 dX10_clashes_49 rfl (Nat.le_of_ble_eq_true rfl) (by decide) (Nat.le_of_ble_eq_true rfl) rfl (fun H locs hw => ?_)
        exact ret_iS C hw dX10_clashes_52 hf
      · have hf := hf_t q hf
        refine lv_aload_n hx hb dX10_clashes_33 rfl (lv_at hl 1 rfl) ?_
        refine get_0_4 C hw q_378 dX10_clashes_34 ?_
        refine lv_iload_n hx hb dX10_clashes_37 rfl (lv_at hl 0 rfl) ?_
        obtain ⟨r7, S6, hr, hf⟩ := hf_2 hf
        refine inv_Vi (q0 := 5) (ci := 9) (As := [.int r3]) lk_X10_226 C hw rfl rfl rfl (t_Wk_howManyClashes hr) rfl hl.1 dX10_clashes_38 rfl (Nat.le_of_ble_eq_true rfl) (by decide) (Nat.le_of_ble_eq_true rfl) rfl (fun H locs hw => ?_)
        refine lv_goto (tgt := 52) hx hb dX10_clashes_41 (by decide) ?_
        exact ret_iS C hw dX10_clashes_52 hf
    · have hf := hf_t q hf
      refine lv_iconst (v := -1) hx hb dX10_clashes_18 kc_m1 ?_
      exact ret_iS C hw dX10_clashes_19 hf
end
theorem t_Ch_clashes {l : Launch} {V : St} {N : Nat} {S : St} {p1 : Int32} {p2 : Int32} {r : Int32} {S9 : St} (hf : Ch_clashes N S p1 p2 = some (r, S9)) : Ct l (wX V) yX10_clashes cX10_clashes 4 (some .int) 5 (fun E => [.ref (ea E 0), .int p1, .int p2]) S (fun E => some (.int r)) S9 :=
  ofBlock (by decide +kernel) (fun _ => Nat.le_of_ble_eq_true rfl) (fun E p e s m args below meth c ls C hw hl => w_Ch_clashes C hw hl hf)
theorem dX10_hand_0 : decode cX10_hand 0 = .ok (.iload_n 1, 1) := by decide +kernel
theorem dX10_hand_1 : decode cX10_hand 1 = .ok (.bipush 100, 2) := by decide +kernel
theorem dX10_hand_3 : decode cX10_hand 3 = .ok (.idiv, 1) := by decide +kernel
theorem dX10_hand_4 : decode cX10_hand 4 = .ok (.istore_n 3, 1) := by decide +kernel
theorem dX10_hand_5 : decode cX10_hand 5 = .ok (.iload_n 1, 1) := by decide +kernel
theorem dX10_hand_6 : decode cX10_hand 6 = .ok (.bipush 100, 2) := by decide +kernel
theorem dX10_hand_8 : decode cX10_hand 8 = .ok (.irem, 1) := by decide +kernel
theorem dX10_hand_9 : decode cX10_hand 9 = .ok (.istore 4, 2) := by decide +kernel
theorem dX10_hand_11 : decode cX10_hand 11 = .ok (.aload_n 0, 1) := by decide +kernel
theorem dX10_hand_12 : decode cX10_hand 12 = .ok (.getfield 10, 3) := by decide +kernel
theorem dX10_hand_15 : decode cX10_hand 15 = .ok (.iload_n 3, 1) := by decide +kernel
theorem dX10_hand_16 : decode cX10_hand 16 = .ok (.invokevirtual 173, 3) := by decide +kernel
theorem dX10_hand_19 : decode cX10_hand 19 = .ok (.ifCond .eq 36, 3) := by decide +kernel
theorem dX10_hand_22 : decode cX10_hand 22 = .ok (.aload_n 0, 1) := by decide +kernel
theorem dX10_hand_23 : decode cX10_hand 23 = .ok (.getfield 10, 3) := by decide +kernel
theorem dX10_hand_26 : decode cX10_hand 26 = .ok (.iload 4, 2) := by decide +kernel
theorem dX10_hand_28 : decode cX10_hand 28 = .ok (.invokevirtual 155, 3) := by decide +kernel
theorem dX10_hand_31 : decode cX10_hand 31 = .ok (.ifCond .eq 24, 3) := by decide +kernel
theorem dX10_hand_34 : decode cX10_hand 34 = .ok (.iload 4, 2) := by decide +kernel
theorem dX10_hand_36 : decode cX10_hand 36 = .ok (.aload_n 0, 1) := by decide +kernel
theorem dX10_hand_37 : decode cX10_hand 37 = .ok (.getfield 10, 3) := by decide +kernel
theorem dX10_hand_40 : decode cX10_hand 40 = .ok (.getfield 232, 3) := by decide +kernel
theorem dX10_hand_43 : decode cX10_hand 43 = .ok (.iload_n 3, 1) := by decide +kernel
theorem dX10_hand_44 : decode cX10_hand 44 = .ok (.iaload, 1) := by decide +kernel
theorem dX10_hand_45 : decode cX10_hand 45 = .ok (.if_icmp .eq 10, 3) := by decide +kernel
theorem dX10_hand_48 : decode cX10_hand 48 = .ok (.iload_n 2, 1) := by decide +kernel
theorem dX10_hand_49 : decode cX10_hand 49 = .ok (.invokestatic 158, 3) := by decide +kernel
theorem dX10_hand_52 : decode cX10_hand 52 = .ok (.ifCond .ne 5, 3) := by decide +kernel
theorem dX10_hand_55 : decode cX10_hand 55 = .ok (.iconst (-1), 1) := by decide +kernel
theorem dX10_hand_56 : decode cX10_hand 56 = .ok (.ireturn, 1) := by decide +kernel
theorem dX10_hand_57 : decode cX10_hand 57 = .ok (.aload_n 0, 1) := by decide +kernel
theorem dX10_hand_58 : decode cX10_hand 58 = .ok (.getfield 10, 3) := by decide +kernel
theorem dX10_hand_61 : decode cX10_hand 61 = .ok (.iload_n 3, 1) := by decide +kernel
theorem dX10_hand_62 : decode cX10_hand 62 = .ok (.invokevirtual 236, 3) := by decide +kernel
theorem dX10_hand_65 : decode cX10_hand 65 = .ok (.ifCond .eq 8, 3) := by decide +kernel
theorem dX10_hand_68 : decode cX10_hand 68 = .ok (.bipush (-5), 2) := by decide +kernel
theorem dX10_hand_70 : decode cX10_hand 70 = .ok (.goto 14, 3) := by decide +kernel
theorem dX10_hand_73 : decode cX10_hand 73 = .ok (.aload_n 0, 1) := by decide +kernel
theorem dX10_hand_74 : decode cX10_hand 74 = .ok (.getfield 49, 3) := by decide +kernel
theorem dX10_hand_77 : decode cX10_hand 77 = .ok (.iload_n 3, 1) := by decide +kernel
theorem dX10_hand_78 : decode cX10_hand 78 = .ok (.iload 4, 2) := by decide +kernel
theorem dX10_hand_80 : decode cX10_hand 80 = .ok (.iload_n 2, 1) := by decide +kernel
theorem dX10_hand_81 : decode cX10_hand 81 = .ok (.invokevirtual 239, 3) := by decide +kernel
theorem dX10_hand_84 : decode cX10_hand 84 = .ok (.ireturn, 1) := by decide +kernel
def Ch_hand (N : Nat) (S : St) (p1 : Int32) (p2 : Int32) : Option Int32 :=
  nm ((p1 / (100 : Int32))) fun x1 =>
  nm ((p1 - p1 / (100 : Int32) * (100 : Int32))) fun x2 =>
  bd1 (Sm_isPromise S x1) fun r3 =>
  if r3 = 0 then
    some (-1 : Int32)
  else
    bd1 (Sm_isOne S x2) fun r4 =>
    if r4 = 0 then
      some (-1 : Int32)
    else
      ck (inb x1 10) <|
      if x2 = (gi S 14 x1.toNatClampNeg) then
        some (-1 : Int32)
      else
        bd1 (Ch_isDay S p2) fun r5 =>
        if r5 = 0 then
          some (-1 : Int32)
        else
          bd1 (Sm_isTied S x1) fun r6 =>
          if r6 = 0 then
            bd1 (Dy_ridersIfHanded N S x1 x2 p2) fun r7 =>
            some r7
          else
            some (-5 : Int32)
section
variable {p : Program} {l : Launch} {e : Env} {s : State} {m : MethodId} {args : Array Value} {below : List Frame} {meth : Method} {c : Code} {H : Heap} {locs : List Loc} {E : Ev} {S V : St} {ls : Array Slot}
set_option maxRecDepth 20000 in
theorem w_Ch_hand {N : Nat} {p1 : Int32} {p2 : Int32} {r : Int32} (C : Cx p s m args meth c E cX10_hand 5 RX10 (some .int)) (hw : Wd E (wX V E) s.heap S H locs) (hl : lv_has ls 5 [(0, .ref (ea E 0)), (1, .int p1), (2, .int p2)]) (hf : Ch_hand N S p1 p2 = some r) : W p l e (rmh 4) s m args below meth c H locs 0 0 (MQ below (QW E (wX V E) (some (.int r)) S) args s 0 0 (eA E)) (F0 m 0 ls []) := by
  have hx := C.1
  have hb := C.2.1
  unfold Ch_hand at hf
  refine lv_iload_n hx hb dX10_hand_0 rfl (lv_at hl 1 rfl) ?_
  refine lv_bipush (v := 100) hx hb dX10_hand_1 kb_100 ?_
  refine lv_idiv hx hb dX10_hand_3 (by decide) ?_
  refine nm_i hf (fun x1 hf => ?_)
  refine lv_istore_n (lv' := [(3, .int x1), (0, .ref (ea E 0)), (1, .int p1), (2, .int p2)]) hx hb dX10_hand_4 rfl hl (by decide) rfl (fun ls hl => ?_)
  refine lv_iload_n hx hb dX10_hand_5 rfl (lv_at hl 2 rfl) ?_
  refine lv_bipush (v := 100) hx hb dX10_hand_6 kb_100 ?_
  refine lv_irem hx hb dX10_hand_8 (by decide) ?_
  refine nm_i hf (fun x2 hf => ?_)
  refine lv_istore (lv' := [(4, .int x2), (3, .int x1), (0, .ref (ea E 0)), (1, .int p1), (2, .int p2)]) hx hb dX10_hand_9 hl (by decide) rfl (fun ls hl => ?_)
  refine lv_aload_n hx hb dX10_hand_11 rfl (lv_at hl 2 rfl) ?_
  refine get_0_0 C hw q_374 dX10_hand_12 ?_
  refine lv_iload_n hx hb dX10_hand_15 rfl (lv_at hl 1 rfl) ?_
  obtain ⟨r3, hr, hf⟩ := hf_1 hf
  refine inv_Vi (q0 := 1) (ci := 8) (As := [.int x1]) lk_X10_173 C hw rfl rfl rfl (t_Sm_isPromise hr) rfl hl.1 dX10_hand_16 rfl (Nat.le_of_ble_eq_true rfl) (by decide) (Nat.le_of_ble_eq_true rfl) rfl (fun H locs hw => ?_)
  refine lv_if_eq (tgt := 55) hx hb dX10_hand_19 (by decide) (fun q => ?_) (fun q => ?_)
  · have hf := hf_t q hf
    refine lv_iconst (v := -1) hx hb dX10_hand_55 kc_m1 ?_
    exact ret_i C hw dX10_hand_56 hf
  · have hf := hf_f q hf
    refine lv_aload_n hx hb dX10_hand_22 rfl (lv_at hl 2 rfl) ?_
    refine get_0_0 C hw q_374 dX10_hand_23 ?_
    refine lv_iload hx hb dX10_hand_26 (lv_at hl 0 rfl) ?_
    obtain ⟨r4, hr, hf⟩ := hf_1 hf
    refine inv_Vi (q0 := 1) (ci := 8) (As := [.int x2]) lk_X10_155 C hw rfl rfl rfl (t_Sm_isOne hr) rfl hl.1 dX10_hand_28 rfl (Nat.le_of_ble_eq_true rfl) (by decide) (Nat.le_of_ble_eq_true rfl) rfl (fun H locs hw => ?_)
    refine lv_if_eq (tgt := 55) hx hb dX10_hand_31 (by decide) (fun q => ?_) (fun q => ?_)
    · have hf := hf_t q hf
      refine lv_iconst (v := -1) hx hb dX10_hand_55 kc_m1 ?_
      exact ret_i C hw dX10_hand_56 hf
    · have hf := hf_f q hf
      refine lv_iload hx hb dX10_hand_34 (lv_at hl 0 rfl) ?_
      refine lv_aload_n hx hb dX10_hand_36 rfl (lv_at hl 2 rfl) ?_
      refine get_0_0 C hw q_374 dX10_hand_37 ?_
      refine get_1_3 C hw q_115 dX10_hand_40 ?_
      refine lv_iload_n hx hb dX10_hand_43 rfl (lv_at hl 1 rfl) ?_
      obtain ⟨hc, hf⟩ := hf_ck hf
      refine ld_14 C hw hc dX10_hand_44 ?_
      refine lv_icmp_eq (tgt := 55) hx hb dX10_hand_45 (by decide) (fun q => ?_) (fun q => ?_)
      · have hf := hf_t q hf
        refine lv_iconst (v := -1) hx hb dX10_hand_55 kc_m1 ?_
        exact ret_i C hw dX10_hand_56 hf
      · have hf := hf_f q hf
        refine lv_iload_n hx hb dX10_hand_48 rfl (lv_at hl 4 rfl) ?_
        obtain ⟨r5, hr, hf⟩ := hf_1 hf
        refine inv_Si (As := [.int p2]) lk_X10_158 C hw (t_Ch_isDay hr) hl.1 dX10_hand_49 rfl (Nat.le_of_ble_eq_true rfl) (by decide) (Nat.le_of_ble_eq_true rfl) rfl (fun H locs hw => ?_)
        refine lv_if_ne (tgt := 57) hx hb dX10_hand_52 (by decide) (fun q => ?_) (fun q => ?_)
        · have hf := hf_f q hf
          refine lv_aload_n hx hb dX10_hand_57 rfl (lv_at hl 2 rfl) ?_
          refine get_0_0 C hw q_374 dX10_hand_58 ?_
          refine lv_iload_n hx hb dX10_hand_61 rfl (lv_at hl 1 rfl) ?_
          obtain ⟨r6, hr, hf⟩ := hf_1 hf
          refine inv_Vi (q0 := 1) (ci := 8) (As := [.int x1]) lk_X10_236 C hw rfl rfl rfl (t_Sm_isTied hr) rfl hl.1 dX10_hand_62 rfl (Nat.le_of_ble_eq_true rfl) (by decide) (Nat.le_of_ble_eq_true rfl) rfl (fun H locs hw => ?_)
          refine lv_if_eq (tgt := 73) hx hb dX10_hand_65 (by decide) (fun q => ?_) (fun q => ?_)
          · have hf := hf_t q hf
            refine lv_aload_n hx hb dX10_hand_73 rfl (lv_at hl 2 rfl) ?_
            refine get_0_2 C hw q_376 dX10_hand_74 ?_
            refine lv_iload_n hx hb dX10_hand_77 rfl (lv_at hl 1 rfl) ?_
            refine lv_iload hx hb dX10_hand_78 (lv_at hl 0 rfl) ?_
            refine lv_iload_n hx hb dX10_hand_80 rfl (lv_at hl 4 rfl) ?_
            obtain ⟨r7, hr, hf⟩ := hf_1 hf
            refine inv_Vi (q0 := 3) (ci := 2) (As := [.int x1, .int x2, .int p2]) lk_X10_239 C hw rfl rfl rfl (t_Dy_ridersIfHanded hr) rfl hl.1 dX10_hand_81 rfl (Nat.le_of_ble_eq_true rfl) (by decide) (Nat.le_of_ble_eq_true rfl) rfl (fun H locs hw => ?_)
            exact ret_i C hw dX10_hand_84 hf
          · have hf := hf_f q hf
            refine lv_bipush (v := -5) hx hb dX10_hand_68 kb_m5 ?_
            refine lv_goto (tgt := 84) hx hb dX10_hand_70 (by decide) ?_
            exact ret_i C hw dX10_hand_84 hf
        · have hf := hf_t q hf
          refine lv_iconst (v := -1) hx hb dX10_hand_55 kc_m1 ?_
          exact ret_i C hw dX10_hand_56 hf
end
theorem t_Ch_hand {l : Launch} {V : St} {N : Nat} {S : St} {p1 : Int32} {p2 : Int32} {r : Int32} (hf : Ch_hand N S p1 p2 = some r) : Ct l (wX V) yX10_hand cX10_hand 5 (some .int) 4 (fun E => [.ref (ea E 0), .int p1, .int p2]) S (fun E => some (.int r)) S :=
  ofBlock (by decide +kernel) (fun _ => Nat.le_of_ble_eq_true rfl) (fun E p e s m args below meth c ls C hw hl => w_Ch_hand C hw hl hf)
theorem dX10_handBest_0 : decode cX10_handBest 0 = .ok (.iload_n 1, 1) := by decide +kernel
theorem dX10_handBest_1 : decode cX10_handBest 1 = .ok (.invokestatic 158, 3) := by decide +kernel
theorem dX10_handBest_4 : decode cX10_handBest 4 = .ok (.ifCond .eq 10, 3) := by decide +kernel
theorem dX10_handBest_7 : decode cX10_handBest 7 = .ok (.iload_n 2, 1) := by decide +kernel
theorem dX10_handBest_8 : decode cX10_handBest 8 = .ok (.invokestatic 185, 3) := by decide +kernel
theorem dX10_handBest_11 : decode cX10_handBest 11 = .ok (.ifCond .ne 5, 3) := by decide +kernel
theorem dX10_handBest_14 : decode cX10_handBest 14 = .ok (.iconst (-1), 1) := by decide +kernel
theorem dX10_handBest_15 : decode cX10_handBest 15 = .ok (.ireturn, 1) := by decide +kernel
theorem dX10_handBest_16 : decode cX10_handBest 16 = .ok (.aload_n 0, 1) := by decide +kernel
theorem dX10_handBest_17 : decode cX10_handBest 17 = .ok (.getfield 49, 3) := by decide +kernel
theorem dX10_handBest_20 : decode cX10_handBest 20 = .ok (.iload_n 1, 1) := by decide +kernel
theorem dX10_handBest_21 : decode cX10_handBest 21 = .ok (.invokevirtual 242, 3) := by decide +kernel
theorem dX10_handBest_24 : decode cX10_handBest 24 = .ok (.istore_n 3, 1) := by decide +kernel
theorem dX10_handBest_25 : decode cX10_handBest 25 = .ok (.iload_n 3, 1) := by decide +kernel
theorem dX10_handBest_26 : decode cX10_handBest 26 = .ok (.bipush (-2), 2) := by decide +kernel
theorem dX10_handBest_28 : decode cX10_handBest 28 = .ok (.if_icmp .eq 7, 3) := by decide +kernel
theorem dX10_handBest_31 : decode cX10_handBest 31 = .ok (.iload_n 2, 1) := by decide +kernel
theorem dX10_handBest_32 : decode cX10_handBest 32 = .ok (.ifCond .ne 7, 3) := by decide +kernel
theorem dX10_handBest_35 : decode cX10_handBest 35 = .ok (.iload_n 3, 1) := by decide +kernel
theorem dX10_handBest_36 : decode cX10_handBest 36 = .ok (.goto 19, 3) := by decide +kernel
theorem dX10_handBest_39 : decode cX10_handBest 39 = .ok (.aload_n 0, 1) := by decide +kernel
theorem dX10_handBest_40 : decode cX10_handBest 40 = .ok (.getfield 49, 3) := by decide +kernel
theorem dX10_handBest_43 : decode cX10_handBest 43 = .ok (.iload_n 3, 1) := by decide +kernel
theorem dX10_handBest_44 : decode cX10_handBest 44 = .ok (.bipush 100, 2) := by decide +kernel
theorem dX10_handBest_46 : decode cX10_handBest 46 = .ok (.idiv, 1) := by decide +kernel
theorem dX10_handBest_47 : decode cX10_handBest 47 = .ok (.iload_n 3, 1) := by decide +kernel
theorem dX10_handBest_48 : decode cX10_handBest 48 = .ok (.bipush 100, 2) := by decide +kernel
theorem dX10_handBest_50 : decode cX10_handBest 50 = .ok (.irem, 1) := by decide +kernel
theorem dX10_handBest_51 : decode cX10_handBest 51 = .ok (.iload_n 1, 1) := by decide +kernel
theorem dX10_handBest_52 : decode cX10_handBest 52 = .ok (.invokevirtual 239, 3) := by decide +kernel
theorem dX10_handBest_55 : decode cX10_handBest 55 = .ok (.ireturn, 1) := by decide +kernel
def Ch_handBest (N : Nat) (S : St) (p1 : Int32) (p2 : Int32) : Option Int32 :=
  bd1 (Ch_isDay S p1) fun r1 =>
  if r1 = 0 then
    some (-1 : Int32)
  else
    bd1 (Ch_isEither S p2) fun r2 =>
    if r2 = 0 then
      some (-1 : Int32)
    else
      bd1 (Dy_bestHanding N S p1) fun r3 =>
      if r3 = (-2 : Int32) then
        some r3
      else
        if p2 = 0 then
          some r3
        else
          bd1 (Dy_ridersIfHanded N S (r3 / (100 : Int32)) (r3 - r3 / (100 : Int32) * (100 : Int32)) p1) fun r4 =>
          some r4
section
variable {p : Program} {l : Launch} {e : Env} {s : State} {m : MethodId} {args : Array Value} {below : List Frame} {meth : Method} {c : Code} {H : Heap} {locs : List Loc} {E : Ev} {S V : St} {ls : Array Slot}
set_option maxRecDepth 20000 in
theorem w_Ch_handBest {N : Nat} {p1 : Int32} {p2 : Int32} {r : Int32} (C : Cx p s m args meth c E cX10_handBest 4 RX10 (some .int)) (hw : Wd E (wX V E) s.heap S H locs) (hl : lv_has ls 4 [(0, .ref (ea E 0)), (1, .int p1), (2, .int p2)]) (hf : Ch_handBest N S p1 p2 = some r) : W p l e (rmh 6) s m args below meth c H locs 0 0 (MQ below (QW E (wX V E) (some (.int r)) S) args s 0 0 (eA E)) (F0 m 0 ls []) := by
  have hx := C.1
  have hb := C.2.1
  unfold Ch_handBest at hf
  refine lv_iload_n hx hb dX10_handBest_0 rfl (lv_at hl 1 rfl) ?_
  obtain ⟨r1, hr, hf⟩ := hf_1 hf
  refine inv_Si (As := [.int p1]) lk_X10_158 C hw (t_Ch_isDay hr) hl.1 dX10_handBest_1 rfl (Nat.le_of_ble_eq_true rfl) (by decide) (Nat.le_of_ble_eq_true rfl) rfl (fun H locs hw => ?_)
  refine lv_if_eq (tgt := 14) hx hb dX10_handBest_4 (by decide) (fun q => ?_) (fun q => ?_)
  · have hf := hf_t q hf
    refine lv_iconst (v := -1) hx hb dX10_handBest_14 kc_m1 ?_
    exact ret_i C hw dX10_handBest_15 hf
  · have hf := hf_f q hf
    refine lv_iload_n hx hb dX10_handBest_7 rfl (lv_at hl 2 rfl) ?_
    obtain ⟨r2, hr, hf⟩ := hf_1 hf
    refine inv_Si (As := [.int p2]) lk_X10_185 C hw (t_Ch_isEither hr) hl.1 dX10_handBest_8 rfl (Nat.le_of_ble_eq_true rfl) (by decide) (Nat.le_of_ble_eq_true rfl) rfl (fun H locs hw => ?_)
    refine lv_if_ne (tgt := 16) hx hb dX10_handBest_11 (by decide) (fun q => ?_) (fun q => ?_)
    · have hf := hf_f q hf
      refine lv_aload_n hx hb dX10_handBest_16 rfl (lv_at hl 0 rfl) ?_
      refine get_0_2 C hw q_376 dX10_handBest_17 ?_
      refine lv_iload_n hx hb dX10_handBest_20 rfl (lv_at hl 1 rfl) ?_
      obtain ⟨r3, hr, hf⟩ := hf_1 hf
      refine inv_Vi (q0 := 3) (ci := 2) (As := [.int p1]) lk_X10_242 C hw rfl rfl rfl (t_Dy_bestHanding hr) rfl hl.1 dX10_handBest_21 rfl (Nat.le_of_ble_eq_true rfl) (by decide) (Nat.le_of_ble_eq_true rfl) rfl (fun H locs hw => ?_)
      refine lv_istore_n (lv' := [(3, .int r3), (0, .ref (ea E 0)), (1, .int p1), (2, .int p2)]) hx hb dX10_handBest_24 rfl hl (by decide) rfl (fun ls hl => ?_)
      refine lv_iload_n hx hb dX10_handBest_25 rfl (lv_at hl 0 rfl) ?_
      refine lv_bipush (v := -2) hx hb dX10_handBest_26 kb_m2 ?_
      refine lv_icmp_eq (tgt := 35) hx hb dX10_handBest_28 (by decide) (fun q => ?_) (fun q => ?_)
      · have hf := hf_t q hf
        refine lv_iload_n hx hb dX10_handBest_35 rfl (lv_at hl 0 rfl) ?_
        refine lv_goto (tgt := 55) hx hb dX10_handBest_36 (by decide) ?_
        exact ret_i C hw dX10_handBest_55 hf
      · have hf := hf_f q hf
        refine lv_iload_n hx hb dX10_handBest_31 rfl (lv_at hl 3 rfl) ?_
        refine lv_if_ne (tgt := 39) hx hb dX10_handBest_32 (by decide) (fun q => ?_) (fun q => ?_)
        · have hf := hf_f q hf
          refine lv_aload_n hx hb dX10_handBest_39 rfl (lv_at hl 1 rfl) ?_
          refine get_0_2 C hw q_376 dX10_handBest_40 ?_
          refine lv_iload_n hx hb dX10_handBest_43 rfl (lv_at hl 0 rfl) ?_
          refine lv_bipush (v := 100) hx hb dX10_handBest_44 kb_100 ?_
          refine lv_idiv hx hb dX10_handBest_46 (by decide) ?_
          refine lv_iload_n hx hb dX10_handBest_47 rfl (lv_at hl 0 rfl) ?_
          refine lv_bipush (v := 100) hx hb dX10_handBest_48 kb_100 ?_
          refine lv_irem hx hb dX10_handBest_50 (by decide) ?_
          refine lv_iload_n hx hb dX10_handBest_51 rfl (lv_at hl 2 rfl) ?_
          obtain ⟨r4, hr, hf⟩ := hf_1 hf
          refine inv_Vi (q0 := 3) (ci := 2) (As := [.int (r3 / (100 : Int32)), .int (r3 - r3 / (100 : Int32) * (100 : Int32)), .int p1]) lk_X10_239 C hw rfl rfl rfl (t_Dy_ridersIfHanded hr) rfl hl.1 dX10_handBest_52 rfl (Nat.le_of_ble_eq_true rfl) (by decide) (Nat.le_of_ble_eq_true rfl) rfl (fun H locs hw => ?_)
          exact ret_i C hw dX10_handBest_55 hf
        · have hf := hf_t q hf
          refine lv_iload_n hx hb dX10_handBest_35 rfl (lv_at hl 0 rfl) ?_
          refine lv_goto (tgt := 55) hx hb dX10_handBest_36 (by decide) ?_
          exact ret_i C hw dX10_handBest_55 hf
    · have hf := hf_t q hf
      refine lv_iconst (v := -1) hx hb dX10_handBest_14 kc_m1 ?_
      exact ret_i C hw dX10_handBest_15 hf
end
theorem t_Ch_handBest {l : Launch} {V : St} {N : Nat} {S : St} {p1 : Int32} {p2 : Int32} {r : Int32} (hf : Ch_handBest N S p1 p2 = some r) : Ct l (wX V) yX10_handBest cX10_handBest 4 (some .int) 6 (fun E => [.ref (ea E 0), .int p1, .int p2]) S (fun E => some (.int r)) S :=
  ofBlock (by decide +kernel) (fun _ => Nat.le_of_ble_eq_true rfl) (fun E p e s m args below meth c ls C hw hl => w_Ch_handBest C hw hl hf)
