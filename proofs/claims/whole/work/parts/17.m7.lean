theorem dX5_readLine_0 : decode cX5_readLine 0 = .ok (.aload_n 0, 1) := by decide +kernel
theorem dX5_readLine_1 : decode cX5_readLine 1 = .ok (.iconst 0, 1) := by decide +kernel
theorem dX5_readLine_2 : decode cX5_readLine 2 = .ok (.iconst 0, 1) := by decide +kernel
theorem dX5_readLine_3 : decode cX5_readLine 3 = .ok (.invokevirtual 57, 3) := by decide +kernel
theorem dX5_readLine_6 : decode cX5_readLine 6 = .ok (.aload_n 0, 1) := by decide +kernel
theorem dX5_readLine_7 : decode cX5_readLine 7 = .ok (.invokevirtual 44, 3) := by decide +kernel
theorem dX5_readLine_10 : decode cX5_readLine 10 = .ok (.bipush 63, 2) := by decide +kernel
theorem dX5_readLine_12 : decode cX5_readLine 12 = .ok (.if_icmp .ne 25, 3) := by decide +kernel
theorem dX5_readLine_15 : decode cX5_readLine 15 = .ok (.aload_n 0, 1) := by decide +kernel
theorem dX5_readLine_16 : decode cX5_readLine 16 = .ok (.dup, 1) := by decide +kernel
theorem dX5_readLine_17 : decode cX5_readLine 17 = .ok (.getfield 32, 3) := by decide +kernel
theorem dX5_readLine_20 : decode cX5_readLine 20 = .ok (.iconst 1, 1) := by decide +kernel
theorem dX5_readLine_21 : decode cX5_readLine 21 = .ok (.iadd, 1) := by decide +kernel
theorem dX5_readLine_22 : decode cX5_readLine 22 = .ok (.putfield 32, 3) := by decide +kernel
theorem dX5_readLine_25 : decode cX5_readLine 25 = .ok (.aload_n 0, 1) := by decide +kernel
theorem dX5_readLine_26 : decode cX5_readLine 26 = .ok (.bipush 63, 2) := by decide +kernel
theorem dX5_readLine_28 : decode cX5_readLine 28 = .ok (.invokevirtual 61, 3) := by decide +kernel
theorem dX5_readLine_31 : decode cX5_readLine 31 = .ok (.aload_n 0, 1) := by decide +kernel
theorem dX5_readLine_32 : decode cX5_readLine 32 = .ok (.iconst 0, 1) := by decide +kernel
theorem dX5_readLine_33 : decode cX5_readLine 33 = .ok (.iconst 0, 1) := by decide +kernel
theorem dX5_readLine_34 : decode cX5_readLine 34 = .ok (.invokevirtual 57, 3) := by decide +kernel
theorem dX5_readLine_37 : decode cX5_readLine 37 = .ok (.aload_n 0, 1) := by decide +kernel
theorem dX5_readLine_38 : decode cX5_readLine 38 = .ok (.bipush 59, 2) := by decide +kernel
theorem dX5_readLine_40 : decode cX5_readLine 40 = .ok (.invokevirtual 61, 3) := by decide +kernel
theorem dX5_readLine_43 : decode cX5_readLine 43 = .ok (.return_, 1) := by decide +kernel
section
variable {p : Program} {l : Launch} {e : Env} {s : State} {m : MethodId} {args : Array Value} {below : List Frame} {meth : Method} {c : Code} {H : Heap} {locs : List Loc} {E : Ev} {S V : St} {ls : Array Slot}
set_option maxRecDepth 20000 in
theorem w_La_readLine {N : Nat} {S9 : St} (C : Cx p s m args meth c E cX5_readLine 1 RX5 none) (hw : Wd E (wX V E) s.heap S H locs) (hl : lv_has ls 1 [(0, .ref (ea E 2))]) (hf : La_readLine N S = some S9) : W p l e (rmh (N + 4)) s m args below meth c H locs 0 0 (MQ below (QW E (wX V E) (none) S9) args s 0 0 (eA E)) (F0 m 0 ls []) := by
  have hx := C.1
  have hb := C.2.1
  unfold La_readLine at hf
  refine lv_aload_n hx hb dX5_readLine_0 rfl (lv_at hl 0 rfl) ?_
  refine lv_iconst (v := 0) hx hb dX5_readLine_1 kc_0 ?_
  refine lv_iconst (v := 0) hx hb dX5_readLine_2 kc_0 ?_
  obtain ⟨S1, hr, hf⟩ := hf_1 hf
  refine inv_Vv (q0 := 2) (ci := 5) (As := [.int (0 : Int32), .int (0 : Int32)]) lk_X5_57 C hw rfl rfl rfl (t_La_readLevel hr) rfl hl.1 dX5_readLine_3 rfl (by omega) (by decide) (Nat.le_of_ble_eq_true rfl) rfl (fun H locs hw => ?_)
  refine lv_aload_n hx hb dX5_readLine_6 rfl (lv_at hl 0 rfl) ?_
  obtain ⟨r2, hr, hf⟩ := hf_1 hf
  refine inv_Vi (q0 := 2) (ci := 5) (As := []) lk_X5_44 C hw rfl rfl rfl (t_La_next hr) rfl hl.1 dX5_readLine_7 rfl (Nat.le_of_ble_eq_true rfl) (by decide) (Nat.le_of_ble_eq_true rfl) rfl (fun H locs hw => ?_)
  refine lv_bipush (v := 63) hx hb dX5_readLine_10 kb_63 ?_
  refine lv_icmp_ne (tgt := 37) hx hb dX5_readLine_12 (by decide) (fun q => ?_) (fun q => ?_)
  · have hf := hf_f q hf
    refine lv_aload_n hx hb dX5_readLine_37 rfl (lv_at hl 0 rfl) ?_
    refine lv_bipush (v := 59) hx hb dX5_readLine_38 kb_59 ?_
    obtain ⟨S3, hr, hf⟩ := hf_1 hf
    refine inv_Vv (q0 := 2) (ci := 5) (As := [.int (59 : Int32)]) lk_X5_61 C hw rfl rfl rfl (t_La_write hr) rfl hl.1 dX5_readLine_40 rfl (Nat.le_of_ble_eq_true rfl) (by decide) (Nat.le_of_ble_eq_true rfl) rfl (fun H locs hw => ?_)
    exact ret_vS C hw dX5_readLine_43 hf
  · have hf := hf_t q hf
    refine lv_aload_n hx hb dX5_readLine_15 rfl (lv_at hl 0 rfl) ?_
    refine lv_dup hx hb dX5_readLine_16 rfl ?_
    refine get_2_8 C hw q_183 dX5_readLine_17 ?_
    refine lv_iconst (v := 1) hx hb dX5_readLine_20 kc_1 ?_
    refine lv_iadd hx hb dX5_readLine_21 ?_
    refine put_2_8 C hw q_183 dX5_readLine_22 (fun H locs hw => ?_)
    refine nm_S hf hw (fun S4 hf hw => ?_)
    refine lv_aload_n hx hb dX5_readLine_25 rfl (lv_at hl 0 rfl) ?_
    refine lv_bipush (v := 63) hx hb dX5_readLine_26 kb_63 ?_
    obtain ⟨S5, hr, hf⟩ := hf_1 hf
    refine inv_Vv (q0 := 2) (ci := 5) (As := [.int (63 : Int32)]) lk_X5_61 C hw rfl rfl rfl (t_La_write hr) rfl hl.1 dX5_readLine_28 rfl (Nat.le_of_ble_eq_true rfl) (by decide) (Nat.le_of_ble_eq_true rfl) rfl (fun H locs hw => ?_)
    refine lv_aload_n hx hb dX5_readLine_31 rfl (lv_at hl 0 rfl) ?_
    refine lv_iconst (v := 0) hx hb dX5_readLine_32 kc_0 ?_
    refine lv_iconst (v := 0) hx hb dX5_readLine_33 kc_0 ?_
    obtain ⟨S6, hr, hf⟩ := hf_1 hf
    refine inv_Vv (q0 := 2) (ci := 5) (As := [.int (0 : Int32), .int (0 : Int32)]) lk_X5_57 C hw rfl rfl rfl (t_La_readLevel hr) rfl hl.1 dX5_readLine_34 rfl (by omega) (by decide) (Nat.le_of_ble_eq_true rfl) rfl (fun H locs hw => ?_)
    refine lv_aload_n hx hb dX5_readLine_37 rfl (lv_at hl 0 rfl) ?_
    refine lv_bipush (v := 59) hx hb dX5_readLine_38 kb_59 ?_
    obtain ⟨S7, hr, hf⟩ := hf_1 hf
    refine inv_Vv (q0 := 2) (ci := 5) (As := [.int (59 : Int32)]) lk_X5_61 C hw rfl rfl rfl (t_La_write hr) rfl hl.1 dX5_readLine_40 rfl (Nat.le_of_ble_eq_true rfl) (by decide) (Nat.le_of_ble_eq_true rfl) rfl (fun H locs hw => ?_)
    exact ret_vS C hw dX5_readLine_43 hf
end
theorem t_La_readLine {l : Launch} {V : St} {N : Nat} {S : St} {S9 : St} (hf : La_readLine N S = some S9) : Ct l (wX V) yX5_readLine cX5_readLine 1 none (N + 4) (fun E => [.ref (ea E 2)]) S (fun E => none) S9 :=
  ofBlock (by decide +kernel) (fun _ => Nat.le_of_ble_eq_true rfl) (fun E p e s m args below meth c ls C hw hl => w_La_readLine C hw hl hf)
theorem dX5_read_0 : decode cX5_read 0 = .ok (.aload_n 0, 1) := by decide +kernel
theorem dX5_read_1 : decode cX5_read 1 = .ok (.iconst 0, 1) := by decide +kernel
theorem dX5_read_2 : decode cX5_read 2 = .ok (.putfield 32, 3) := by decide +kernel
theorem dX5_read_5 : decode cX5_read 5 = .ok (.aload_n 0, 1) := by decide +kernel
theorem dX5_read_6 : decode cX5_read 6 = .ok (.iconst 0, 1) := by decide +kernel
theorem dX5_read_7 : decode cX5_read 7 = .ok (.putfield 35, 3) := by decide +kernel
theorem dX5_read_10 : decode cX5_read 10 = .ok (.aload_n 0, 1) := by decide +kernel
theorem dX5_read_11 : decode cX5_read 11 = .ok (.iconst (-1), 1) := by decide +kernel
theorem dX5_read_12 : decode cX5_read 12 = .ok (.putfield 38, 3) := by decide +kernel
theorem dX5_read_15 : decode cX5_read 15 = .ok (.aload_n 0, 1) := by decide +kernel
theorem dX5_read_16 : decode cX5_read 16 = .ok (.invokevirtual 41, 3) := by decide +kernel
theorem dX5_read_19 : decode cX5_read 19 = .ok (.iconst 1, 1) := by decide +kernel
theorem dX5_read_20 : decode cX5_read 20 = .ok (.istore_n 1, 1) := by decide +kernel
theorem dX5_read_21 : decode cX5_read 21 = .ok (.iload_n 1, 1) := by decide +kernel
theorem dX5_read_22 : decode cX5_read 22 = .ok (.bipush 120, 2) := by decide +kernel
theorem dX5_read_24 : decode cX5_read 24 = .ok (.if_icmp .gt 32, 3) := by decide +kernel
theorem dX5_read_27 : decode cX5_read 27 = .ok (.aload_n 0, 1) := by decide +kernel
theorem dX5_read_28 : decode cX5_read 28 = .ok (.invokevirtual 44, 3) := by decide +kernel
theorem dX5_read_31 : decode cX5_read 31 = .ok (.bipush 59, 2) := by decide +kernel
theorem dX5_read_33 : decode cX5_read 33 = .ok (.if_icmp .ne 23, 3) := by decide +kernel
theorem dX5_read_36 : decode cX5_read 36 = .ok (.aload_n 0, 1) := by decide +kernel
theorem dX5_read_37 : decode cX5_read 37 = .ok (.dup, 1) := by decide +kernel
theorem dX5_read_38 : decode cX5_read 38 = .ok (.getfield 32, 3) := by decide +kernel
theorem dX5_read_41 : decode cX5_read 41 = .ok (.iconst 1, 1) := by decide +kernel
theorem dX5_read_42 : decode cX5_read 42 = .ok (.iadd, 1) := by decide +kernel
theorem dX5_read_43 : decode cX5_read 43 = .ok (.putfield 32, 3) := by decide +kernel
theorem dX5_read_46 : decode cX5_read 46 = .ok (.aload_n 0, 1) := by decide +kernel
theorem dX5_read_47 : decode cX5_read 47 = .ok (.invokevirtual 41, 3) := by decide +kernel
theorem dX5_read_50 : decode cX5_read 50 = .ok (.iinc 1 1, 3) := by decide +kernel
theorem dX5_read_53 : decode cX5_read 53 = .ok (.goto (-32), 3) := by decide +kernel
theorem dX5_read_56 : decode cX5_read 56 = .ok (.aload_n 0, 1) := by decide +kernel
theorem dX5_read_57 : decode cX5_read 57 = .ok (.getfield 32, 3) := by decide +kernel
theorem dX5_read_60 : decode cX5_read 60 = .ok (.aload_n 0, 1) := by decide +kernel
theorem dX5_read_61 : decode cX5_read 61 = .ok (.getfield 25, 3) := by decide +kernel
theorem dX5_read_64 : decode cX5_read 64 = .ok (.if_icmp .ge 7, 3) := by decide +kernel
theorem dX5_read_67 : decode cX5_read 67 = .ok (.aload_n 0, 1) := by decide +kernel
theorem dX5_read_68 : decode cX5_read 68 = .ok (.invokevirtual 48, 3) := by decide +kernel
theorem dX5_read_71 : decode cX5_read 71 = .ok (.aload_n 0, 1) := by decide +kernel
theorem dX5_read_72 : decode cX5_read 72 = .ok (.iconst 0, 1) := by decide +kernel
theorem dX5_read_73 : decode cX5_read 73 = .ok (.putfield 25, 3) := by decide +kernel
theorem dX5_read_76 : decode cX5_read 76 = .ok (.aload_n 0, 1) := by decide +kernel
theorem dX5_read_77 : decode cX5_read 77 = .ok (.getfield 38, 3) := by decide +kernel
theorem dX5_read_80 : decode cX5_read 80 = .ok (.iconst (-1), 1) := by decide +kernel
theorem dX5_read_81 : decode cX5_read 81 = .ok (.if_icmp .ne 28, 3) := by decide +kernel
theorem dX5_read_84 : decode cX5_read 84 = .ok (.aload_n 0, 1) := by decide +kernel
theorem dX5_read_85 : decode cX5_read 85 = .ok (.getfield 16, 3) := by decide +kernel
theorem dX5_read_88 : decode cX5_read 88 = .ok (.iconst 0, 1) := by decide +kernel
theorem dX5_read_89 : decode cX5_read 89 = .ok (.aload_n 0, 1) := by decide +kernel
theorem dX5_read_90 : decode cX5_read 90 = .ok (.getfield 13, 3) := by decide +kernel
theorem dX5_read_93 : decode cX5_read 93 = .ok (.iconst 0, 1) := by decide +kernel
theorem dX5_read_94 : decode cX5_read 94 = .ok (.aload_n 0, 1) := by decide +kernel
theorem dX5_read_95 : decode cX5_read 95 = .ok (.getfield 35, 3) := by decide +kernel
theorem dX5_read_98 : decode cX5_read 98 = .ok (.invokestatic 51, 3) := by decide +kernel
theorem dX5_read_101 : decode cX5_read 101 = .ok (.aload_n 0, 1) := by decide +kernel
theorem dX5_read_102 : decode cX5_read 102 = .ok (.aload_n 0, 1) := by decide +kernel
theorem dX5_read_103 : decode cX5_read 103 = .ok (.getfield 35, 3) := by decide +kernel
theorem dX5_read_106 : decode cX5_read 106 = .ok (.putfield 29, 3) := by decide +kernel
theorem dX5_read_109 : decode cX5_read 109 = .ok (.aload_n 0, 1) := by decide +kernel
theorem dX5_read_110 : decode cX5_read 110 = .ok (.getfield 38, 3) := by decide +kernel
theorem dX5_read_113 : decode cX5_read 113 = .ok (.ireturn, 1) := by decide +kernel
section
variable {p : Program} {l : Launch} {e : Env} {s : State} {m : MethodId} {args : Array Value} {below : List Frame} {meth : Method} {c : Code} {H : Heap} {locs : List Loc} {E : Ev} {S V : St} {ls : Array Slot}
set_option maxRecDepth 20000 in
theorem w_La_read_b71 {N : Nat} {r : Int32} {S9 : St} (C : Cx p s m args meth c E cX5_read 2 RX5 (some .int)) (hw : Wd E (wX V E) s.heap S H locs) (hl : lv_has ls 2 [(0, .ref (ea E 2))]) (hf : La_read_b71 N S = some (r, S9)) : W p l e (rmh (N + 5)) s m args below meth c H locs 0 0 (MQ below (QW E (wX V E) (some (.int r)) S9) args s 0 0 (eA E)) (F0 m 71 ls []) := by
  have hx := C.1
  have hb := C.2.1
  unfold La_read_b71 at hf
  refine lv_aload_n hx hb dX5_read_71 rfl (lv_at hl 0 rfl) ?_
  refine lv_iconst (v := 0) hx hb dX5_read_72 kc_0 ?_
  refine put_2_0 C hw q_174 dX5_read_73 (fun H locs hw => ?_)
  refine nm_S hf hw (fun S1 hf hw => ?_)
  refine lv_aload_n hx hb dX5_read_76 rfl (lv_at hl 0 rfl) ?_
  refine get_2_9 C hw q_184 dX5_read_77 ?_
  refine lv_iconst (v := -1) hx hb dX5_read_80 kc_m1 ?_
  refine lv_icmp_ne (tgt := 109) hx hb dX5_read_81 (by decide) (fun q => ?_) (fun q => ?_)
  · have hf := hf_f q hf
    refine lv_aload_n hx hb dX5_read_109 rfl (lv_at hl 0 rfl) ?_
    refine get_2_9 C hw q_184 dX5_read_110 ?_
    exact ret_iS C hw dX5_read_113 hf
  · have hf := hf_t q hf
    refine lv_aload_n hx hb dX5_read_84 rfl (lv_at hl 0 rfl) ?_
    refine get_2_3 C hw q_178 dX5_read_85 ?_
    refine lv_iconst (v := 0) hx hb dX5_read_88 kc_0 ?_
    refine lv_aload_n hx hb dX5_read_89 rfl (lv_at hl 0 rfl) ?_
    refine get_2_2 C hw q_177 dX5_read_90 ?_
    refine lv_iconst (v := 0) hx hb dX5_read_93 kc_0 ?_
    refine lv_aload_n hx hb dX5_read_94 rfl (lv_at hl 0 rfl) ?_
    refine get_2_7 C hw q_182 dX5_read_95 ?_
    obtain ⟨hc, hf⟩ := hf_ck hf
    refine copy_22_21 C hw hc q_570 hl.1 dX5_read_98 (Nat.le_of_ble_eq_true rfl) (fun H locs hw => ?_)
    refine nm_S hf hw (fun S2 hf hw => ?_)
    refine lv_aload_n hx hb dX5_read_101 rfl (lv_at hl 0 rfl) ?_
    refine lv_aload_n hx hb dX5_read_102 rfl (lv_at hl 0 rfl) ?_
    refine get_2_7 C hw q_182 dX5_read_103 ?_
    refine put_2_6 C hw q_181 dX5_read_106 (fun H locs hw => ?_)
    refine nm_S hf hw (fun S3 hf hw => ?_)
    refine lv_aload_n hx hb dX5_read_109 rfl (lv_at hl 0 rfl) ?_
    refine get_2_9 C hw q_184 dX5_read_110 ?_
    exact ret_iS C hw dX5_read_113 hf
set_option maxRecDepth 20000 in
theorem w_La_read_b56 {N : Nat} {r : Int32} {S9 : St} (C : Cx p s m args meth c E cX5_read 2 RX5 (some .int)) (hw : Wd E (wX V E) s.heap S H locs) (hl : lv_has ls 2 [(0, .ref (ea E 2))]) (hf : La_read_b56 N S = some (r, S9)) : W p l e (rmh (N + 5)) s m args below meth c H locs 0 0 (MQ below (QW E (wX V E) (some (.int r)) S9) args s 0 0 (eA E)) (F0 m 56 ls []) := by
  have hx := C.1
  have hb := C.2.1
  unfold La_read_b56 at hf
  refine lv_aload_n hx hb dX5_read_56 rfl (lv_at hl 0 rfl) ?_
  refine get_2_8 C hw q_183 dX5_read_57 ?_
  refine lv_aload_n hx hb dX5_read_60 rfl (lv_at hl 0 rfl) ?_
  refine get_2_0 C hw q_174 dX5_read_61 ?_
  refine lv_icmp_ge (tgt := 71) hx hb dX5_read_64 (by decide) (fun q => ?_) (fun q => ?_)
  · have hf := hf_t q hf
    exact w_La_read_b71 C hw (lv_sub hl [0] rfl) hf
  · have hf := hf_f q hf
    refine lv_aload_n hx hb dX5_read_67 rfl (lv_at hl 0 rfl) ?_
    obtain ⟨S1, hr, hf⟩ := hf_1 hf
    refine inv_Vv (q0 := 2) (ci := 5) (As := []) lk_X5_48 C hw rfl rfl rfl (t_La_fail hr) rfl hl.1 dX5_read_68 rfl (Nat.le_of_ble_eq_true rfl) (by decide) (Nat.le_of_ble_eq_true rfl) rfl (fun H locs hw => ?_)
    exact w_La_read_b71 C hw (lv_sub hl [0] rfl) hf
set_option maxRecDepth 20000 in
theorem w_La_read_b21 {N : Nat} {k21 : (St × Int32) → Option (Int32 × St)} {l1 : Int32} {r : Int32} {S9 : St} (C : Cx p s m args meth c E cX5_read 2 RX5 (some .int)) (hk21 : ∀ x, k21 x = some (r, S9) → ∀ (H : Heap) (locs : List Loc) (ls : Array Slot), Wd E (wX V E) s.heap x.1 H locs → lv_has ls 2 [(0, .ref (ea E 2)), (1, .int x.2)] → W p l e (rmh (N + 5)) s m args below meth c H locs 0 0 (MQ below (QW E (wX V E) (some (.int r)) S9) args s 0 0 (eA E)) (F0 m 21 ls [])) (hw : Wd E (wX V E) s.heap S H locs) (hl : lv_has ls 2 [(0, .ref (ea E 2)), (1, .int l1)]) (hf : La_read_b21 N k21 S l1 = some (r, S9)) : W p l e (rmh (N + 5)) s m args below meth c H locs 0 0 (MQ below (QW E (wX V E) (some (.int r)) S9) args s 0 0 (eA E)) (F0 m 21 ls []) := by
  have hx := C.1
  have hb := C.2.1
  unfold La_read_b21 at hf
  refine lv_iload_n hx hb dX5_read_21 rfl (lv_at hl 1 rfl) ?_
  refine lv_bipush (v := 120) hx hb dX5_read_22 kb_120 ?_
  refine lv_icmp_gt (tgt := 56) hx hb dX5_read_24 (by decide) (fun q => ?_) (fun q => ?_)
  · have hf := hf_t q hf
    exact w_La_read_b56 C hw (lv_sub hl [0] rfl) hf
  · have hf := hf_f q hf
    refine lv_aload_n hx hb dX5_read_27 rfl (lv_at hl 0 rfl) ?_
    obtain ⟨r1, hr, hf⟩ := hf_1 hf
    refine inv_Vi (q0 := 2) (ci := 5) (As := []) lk_X5_44 C hw rfl rfl rfl (t_La_next hr) rfl hl.1 dX5_read_28 rfl (Nat.le_of_ble_eq_true rfl) (by decide) (Nat.le_of_ble_eq_true rfl) rfl (fun H locs hw => ?_)
    refine lv_bipush (v := 59) hx hb dX5_read_31 kb_59 ?_
    refine lv_icmp_ne (tgt := 56) hx hb dX5_read_33 (by decide) (fun q => ?_) (fun q => ?_)
    · have hf := hf_f q hf
      exact w_La_read_b56 C hw (lv_sub hl [0] rfl) hf
    · have hf := hf_t q hf
      refine lv_aload_n hx hb dX5_read_36 rfl (lv_at hl 0 rfl) ?_
      refine lv_dup hx hb dX5_read_37 rfl ?_
      refine get_2_8 C hw q_183 dX5_read_38 ?_
      refine lv_iconst (v := 1) hx hb dX5_read_41 kc_1 ?_
      refine lv_iadd hx hb dX5_read_42 ?_
      refine put_2_8 C hw q_183 dX5_read_43 (fun H locs hw => ?_)
      refine nm_S hf hw (fun S2 hf hw => ?_)
      refine lv_aload_n hx hb dX5_read_46 rfl (lv_at hl 0 rfl) ?_
      obtain ⟨S3, hr, hf⟩ := hf_1 hf
      refine inv_Vv (q0 := 2) (ci := 5) (As := []) lk_X5_41 C hw rfl rfl rfl (t_La_readLine hr) rfl hl.1 dX5_read_47 rfl (by omega) (by decide) (Nat.le_of_ble_eq_true rfl) rfl (fun H locs hw => ?_)
      obtain ⟨x4, ex4, hf⟩ := nme hf
      refine lv_iinc (v := x4) (lv' := [(1, .int x4), (0, .ref (ea E 2))]) hx hb dX5_read_50 hl (k := 1) rfl (ki_1 ex4) (by decide) rfl (fun ls hl => ?_)
      refine lv_goto (tgt := 21) hx hb dX5_read_53 (by decide) ?_
      exact hk21 _ hf _ _ _ hw (lv_sub hl [1, 0] rfl)
theorem w_La_read_L21 {N : Nat} {r : Int32} {S9 : St} (C : Cx p s m args meth c E cX5_read 2 RX5 (some .int)) : ∀ x, La_read_L21 N x = some (r, S9) → ∀ (H : Heap) (locs : List Loc) (ls : Array Slot), Wd E (wX V E) s.heap x.1 H locs → lv_has ls 2 [(0, .ref (ea E 2)), (1, .int x.2)] → W p l e (rmh (N + 5)) s m args below meth c H locs 0 0 (MQ below (QW E (wX V E) (some (.int r)) S9) args s 0 0 (eA E)) (F0 m 21 ls []) :=
  lp_W (fun k x hk hf H locs ls hw hl => w_La_read_b21 C hk hw hl hf) N
set_option maxRecDepth 20000 in
theorem w_La_read {N : Nat} {r : Int32} {S9 : St} (C : Cx p s m args meth c E cX5_read 2 RX5 (some .int)) (hw : Wd E (wX V E) s.heap S H locs) (hl : lv_has ls 2 [(0, .ref (ea E 2))]) (hf : La_read N S = some (r, S9)) : W p l e (rmh (N + 5)) s m args below meth c H locs 0 0 (MQ below (QW E (wX V E) (some (.int r)) S9) args s 0 0 (eA E)) (F0 m 0 ls []) := by
  have hx := C.1
  have hb := C.2.1
  unfold La_read at hf
  refine lv_aload_n hx hb dX5_read_0 rfl (lv_at hl 0 rfl) ?_
  refine lv_iconst (v := 0) hx hb dX5_read_1 kc_0 ?_
  refine put_2_8 C hw q_183 dX5_read_2 (fun H locs hw => ?_)
  refine nm_S hf hw (fun S1 hf hw => ?_)
  refine lv_aload_n hx hb dX5_read_5 rfl (lv_at hl 0 rfl) ?_
  refine lv_iconst (v := 0) hx hb dX5_read_6 kc_0 ?_
  refine put_2_7 C hw q_182 dX5_read_7 (fun H locs hw => ?_)
  refine nm_S hf hw (fun S2 hf hw => ?_)
  refine lv_aload_n hx hb dX5_read_10 rfl (lv_at hl 0 rfl) ?_
  refine lv_iconst (v := -1) hx hb dX5_read_11 kc_m1 ?_
  refine put_2_9 C hw q_184 dX5_read_12 (fun H locs hw => ?_)
  refine nm_S hf hw (fun S3 hf hw => ?_)
  refine lv_aload_n hx hb dX5_read_15 rfl (lv_at hl 0 rfl) ?_
  obtain ⟨S4, hr, hf⟩ := hf_1 hf
  refine inv_Vv (q0 := 2) (ci := 5) (As := []) lk_X5_41 C hw rfl rfl rfl (t_La_readLine hr) rfl hl.1 dX5_read_16 rfl (by omega) (by decide) (Nat.le_of_ble_eq_true rfl) rfl (fun H locs hw => ?_)
  refine lv_iconst (v := 1) hx hb dX5_read_19 kc_1 ?_
  refine lv_istore_n (lv' := [(1, .int (1 : Int32)), (0, .ref (ea E 2))]) hx hb dX5_read_20 rfl hl (by decide) rfl (fun ls hl => ?_)
  exact w_La_read_L21 C _ hf _ _ _ hw (lv_sub hl [1, 0] rfl)
end
theorem t_La_read {l : Launch} {V : St} {N : Nat} {S : St} {r : Int32} {S9 : St} (hf : La_read N S = some (r, S9)) : Ct l (wX V) yX5_read cX5_read 2 (some .int) (N + 5) (fun E => [.ref (ea E 2)]) S (fun E => some (.int r)) S9 :=
  ofBlock (by decide +kernel) (fun _ => Nat.le_of_ble_eq_true rfl) (fun E p e s m args below meth c ls C hw hl => w_La_read C hw hl hf)
theorem dX6_isBody_0 : decode cX6_isBody 0 = .ok (.iload_n 1, 1) := by decide +kernel
theorem dX6_isBody_1 : decode cX6_isBody 1 = .ok (.ifCond .lt 15, 3) := by decide +kernel
theorem dX6_isBody_4 : decode cX6_isBody 4 = .ok (.iload_n 1, 1) := by decide +kernel
theorem dX6_isBody_5 : decode cX6_isBody 5 = .ok (.aload_n 0, 1) := by decide +kernel
theorem dX6_isBody_6 : decode cX6_isBody 6 = .ok (.getfield 18, 3) := by decide +kernel
theorem dX6_isBody_9 : decode cX6_isBody 9 = .ok (.if_icmp .ge 7, 3) := by decide +kernel
theorem dX6_isBody_12 : decode cX6_isBody 12 = .ok (.iconst 1, 1) := by decide +kernel
theorem dX6_isBody_13 : decode cX6_isBody 13 = .ok (.goto 4, 3) := by decide +kernel
theorem dX6_isBody_16 : decode cX6_isBody 16 = .ok (.iconst 0, 1) := by decide +kernel
theorem dX6_isBody_17 : decode cX6_isBody 17 = .ok (.ireturn, 1) := by decide +kernel
section
variable {p : Program} {l : Launch} {e : Env} {s : State} {m : MethodId} {args : Array Value} {below : List Frame} {meth : Method} {c : Code} {H : Heap} {locs : List Loc} {E : Ev} {S V : St} {ls : Array Slot}
set_option maxRecDepth 20000 in
theorem w_Li_isBody {p1 : Int32} {r : Int32} (C : Cx p s m args meth c E cX6_isBody 2 RX6 (some .boolean)) (hw : Wd E (wX V E) s.heap S H locs) (hl : lv_has ls 2 [(0, .ref (ea E 9)), (1, .int p1)]) (hf : Li_isBody S p1 = some r) : W p l e (rmh 1) s m args below meth c H locs 0 0 (MQ below (QW E (wX V E) (some (.int r)) S) args s 0 0 (eA E)) (F0 m 0 ls []) := by
  have hx := C.1
  have hb := C.2.1
  unfold Li_isBody at hf
  refine lv_iload_n hx hb dX6_isBody_0 rfl (lv_at hl 1 rfl) ?_
  refine lv_if_lt (tgt := 16) hx hb dX6_isBody_1 (by decide) (fun q => ?_) (fun q => ?_)
  · have hf := hf_t q hf
    refine lv_iconst (v := 0) hx hb dX6_isBody_16 kc_0 ?_
    exact ret_z rfl C hw dX6_isBody_17 hf
  · have hf := hf_f q hf
    refine lv_iload_n hx hb dX6_isBody_4 rfl (lv_at hl 1 rfl) ?_
    refine lv_aload_n hx hb dX6_isBody_5 rfl (lv_at hl 0 rfl) ?_
    refine get_9_0 C hw q_237 dX6_isBody_6 ?_
    refine lv_icmp_ge (tgt := 16) hx hb dX6_isBody_9 (by decide) (fun q => ?_) (fun q => ?_)
    · have hf := hf_t q hf
      refine lv_iconst (v := 0) hx hb dX6_isBody_16 kc_0 ?_
      exact ret_z rfl C hw dX6_isBody_17 hf
    · have hf := hf_f q hf
      refine lv_iconst (v := 1) hx hb dX6_isBody_12 kc_1 ?_
      refine lv_goto (tgt := 17) hx hb dX6_isBody_13 (by decide) ?_
      exact ret_z rfl C hw dX6_isBody_17 hf
end
theorem t_Li_isBody {l : Launch} {V : St} {S : St} {p1 : Int32} {r : Int32} (hf : Li_isBody S p1 = some r) : Ct l (wX V) yX6_isBody cX6_isBody 2 (some .boolean) 1 (fun E => [.ref (ea E 9), .int p1]) S (fun E => some (.int r)) S :=
  ofBlock (by decide +kernel) (fun _ => Nat.le_of_ble_eq_true rfl) (fun E p e s m args below meth c ls C hw hl => w_Li_isBody C hw hl hf)
theorem dX6_add_0 : decode cX6_add 0 = .ok (.aload_n 0, 1) := by decide +kernel
theorem dX6_add_1 : decode cX6_add 1 = .ok (.getfield 15, 3) := by decide +kernel
theorem dX6_add_4 : decode cX6_add 4 = .ok (.aload_n 0, 1) := by decide +kernel
theorem dX6_add_5 : decode cX6_add 5 = .ok (.getfield 18, 3) := by decide +kernel
theorem dX6_add_8 : decode cX6_add 8 = .ok (.iload_n 1, 1) := by decide +kernel
theorem dX6_add_9 : decode cX6_add 9 = .ok (.iastore, 1) := by decide +kernel
theorem dX6_add_10 : decode cX6_add 10 = .ok (.aload_n 0, 1) := by decide +kernel
theorem dX6_add_11 : decode cX6_add 11 = .ok (.dup, 1) := by decide +kernel
theorem dX6_add_12 : decode cX6_add 12 = .ok (.getfield 18, 3) := by decide +kernel
theorem dX6_add_15 : decode cX6_add 15 = .ok (.dup_x1, 1) := by decide +kernel
theorem dX6_add_16 : decode cX6_add 16 = .ok (.iconst 1, 1) := by decide +kernel
theorem dX6_add_17 : decode cX6_add 17 = .ok (.iadd, 1) := by decide +kernel
theorem dX6_add_18 : decode cX6_add 18 = .ok (.putfield 18, 3) := by decide +kernel
theorem dX6_add_21 : decode cX6_add 21 = .ok (.ireturn, 1) := by decide +kernel
section
variable {p : Program} {l : Launch} {e : Env} {s : State} {m : MethodId} {args : Array Value} {below : List Frame} {meth : Method} {c : Code} {H : Heap} {locs : List Loc} {E : Ev} {S V : St} {ls : Array Slot}
set_option maxRecDepth 20000 in
theorem w_Li_add {p1 : Int32} {r : Int32} {S9 : St} (C : Cx p s m args meth c E cX6_add 2 RX6 (some .int)) (hw : Wd E (wX V E) s.heap S H locs) (hl : lv_has ls 2 [(0, .ref (ea E 9)), (1, .int p1)]) (hf : Li_add S p1 = some (r, S9)) : W p l e (rmh 1) s m args below meth c H locs 0 0 (MQ below (QW E (wX V E) (some (.int r)) S9) args s 0 0 (eA E)) (F0 m 0 ls []) := by
  have hx := C.1
  have hb := C.2.1
  unfold Li_add at hf
  refine lv_aload_n hx hb dX6_add_0 rfl (lv_at hl 0 rfl) ?_
  refine get_9_3 C hw q_243 dX6_add_1 ?_
  refine lv_aload_n hx hb dX6_add_4 rfl (lv_at hl 0 rfl) ?_
  refine get_9_0 C hw q_237 dX6_add_5 ?_
  refine lv_iload_n hx hb dX6_add_8 rfl (lv_at hl 1 rfl) ?_
  obtain ⟨hc, hf⟩ := hf_ck hf
  refine st_39 C hw hc dX6_add_9 (fun H locs hw => ?_)
  refine nm_S hf hw (fun S1 hf hw => ?_)
  refine lv_aload_n hx hb dX6_add_10 rfl (lv_at hl 0 rfl) ?_
  refine lv_dup hx hb dX6_add_11 rfl ?_
  refine get_9_0 C hw q_237 dX6_add_12 ?_
  refine nm_i hf (fun x2 hf => ?_)
  refine lv_dup_x1 hx hb dX6_add_15 rfl rfl ?_
  refine lv_iconst (v := 1) hx hb dX6_add_16 kc_1 ?_
  refine lv_iadd hx hb dX6_add_17 ?_
  refine put_9_0 C hw q_237 dX6_add_18 (fun H locs hw => ?_)
  refine nm_S hf hw (fun S3 hf hw => ?_)
  exact ret_iS C hw dX6_add_21 hf
end
theorem t_Li_add {l : Launch} {V : St} {S : St} {p1 : Int32} {r : Int32} {S9 : St} (hf : Li_add S p1 = some (r, S9)) : Ct l (wX V) yX6_add cX6_add 2 (some .int) 1 (fun E => [.ref (ea E 9), .int p1]) S (fun E => some (.int r)) S9 :=
  ofBlock (by decide +kernel) (fun _ => Nat.le_of_ble_eq_true rfl) (fun E p e s m args below meth c ls C hw hl => w_Li_add C hw hl hf)
theorem dX6_kindOf_0 : decode cX6_kindOf 0 = .ok (.aload_n 0, 1) := by decide +kernel
theorem dX6_kindOf_1 : decode cX6_kindOf 1 = .ok (.iload_n 1, 1) := by decide +kernel
theorem dX6_kindOf_2 : decode cX6_kindOf 2 = .ok (.invokevirtual 22, 3) := by decide +kernel
theorem dX6_kindOf_5 : decode cX6_kindOf 5 = .ok (.ifCond .eq 12, 3) := by decide +kernel
theorem dX6_kindOf_8 : decode cX6_kindOf 8 = .ok (.aload_n 0, 1) := by decide +kernel
theorem dX6_kindOf_9 : decode cX6_kindOf 9 = .ok (.getfield 15, 3) := by decide +kernel
theorem dX6_kindOf_12 : decode cX6_kindOf 12 = .ok (.iload_n 1, 1) := by decide +kernel
theorem dX6_kindOf_13 : decode cX6_kindOf 13 = .ok (.iaload, 1) := by decide +kernel
theorem dX6_kindOf_14 : decode cX6_kindOf 14 = .ok (.goto 4, 3) := by decide +kernel
theorem dX6_kindOf_17 : decode cX6_kindOf 17 = .ok (.iconst (-1), 1) := by decide +kernel
theorem dX6_kindOf_18 : decode cX6_kindOf 18 = .ok (.ireturn, 1) := by decide +kernel
section
variable {p : Program} {l : Launch} {e : Env} {s : State} {m : MethodId} {args : Array Value} {below : List Frame} {meth : Method} {c : Code} {H : Heap} {locs : List Loc} {E : Ev} {S V : St} {ls : Array Slot}
set_option maxRecDepth 20000 in
theorem w_Li_kindOf {p1 : Int32} {r : Int32} (C : Cx p s m args meth c E cX6_kindOf 2 RX6 (some .int)) (hw : Wd E (wX V E) s.heap S H locs) (hl : lv_has ls 2 [(0, .ref (ea E 9)), (1, .int p1)]) (hf : Li_kindOf S p1 = some r) : W p l e (rmh 2) s m args below meth c H locs 0 0 (MQ below (QW E (wX V E) (some (.int r)) S) args s 0 0 (eA E)) (F0 m 0 ls []) := by
  have hx := C.1
  have hb := C.2.1
  unfold Li_kindOf at hf
  refine lv_aload_n hx hb dX6_kindOf_0 rfl (lv_at hl 0 rfl) ?_
  refine lv_iload_n hx hb dX6_kindOf_1 rfl (lv_at hl 1 rfl) ?_
  obtain ⟨r1, hr, hf⟩ := hf_1 hf
  refine inv_Vi (q0 := 9) (ci := 6) (As := [.int p1]) lk_X6_22 C hw rfl rfl rfl (t_Li_isBody hr) rfl hl.1 dX6_kindOf_2 rfl (Nat.le_of_ble_eq_true rfl) (by decide) (Nat.le_of_ble_eq_true rfl) rfl (fun H locs hw => ?_)
  refine lv_if_eq (tgt := 17) hx hb dX6_kindOf_5 (by decide) (fun q => ?_) (fun q => ?_)
  · have hf := hf_t q hf
    refine lv_iconst (v := -1) hx hb dX6_kindOf_17 kc_m1 ?_
    exact ret_i C hw dX6_kindOf_18 hf
  · have hf := hf_f q hf
    refine lv_aload_n hx hb dX6_kindOf_8 rfl (lv_at hl 0 rfl) ?_
    refine get_9_3 C hw q_243 dX6_kindOf_9 ?_
    refine lv_iload_n hx hb dX6_kindOf_12 rfl (lv_at hl 1 rfl) ?_
    obtain ⟨hc, hf⟩ := hf_ck hf
    refine ld_39 C hw hc dX6_kindOf_13 ?_
    refine lv_goto (tgt := 18) hx hb dX6_kindOf_14 (by decide) ?_
    exact ret_i C hw dX6_kindOf_18 hf
end
theorem t_Li_kindOf {l : Launch} {V : St} {S : St} {p1 : Int32} {r : Int32} (hf : Li_kindOf S p1 = some r) : Ct l (wX V) yX6_kindOf cX6_kindOf 2 (some .int) 2 (fun E => [.ref (ea E 9), .int p1]) S (fun E => some (.int r)) S :=
  ofBlock (by decide +kernel) (fun _ => Nat.le_of_ble_eq_true rfl) (fun E p e s m args below meth c ls C hw hl => w_Li_kindOf C hw hl hf)
theorem dX6_isUnder_0 : decode cX6_isUnder 0 = .ok (.iload_n 0, 1) := by decide +kernel
theorem dX6_isUnder_1 : decode cX6_isUnder 1 = .ok (.istore_n 2, 1) := by decide +kernel
theorem dX6_isUnder_2 : decode cX6_isUnder 2 = .ok (.iconst 0, 1) := by decide +kernel
theorem dX6_isUnder_3 : decode cX6_isUnder 3 = .ok (.istore_n 3, 1) := by decide +kernel
theorem dX6_isUnder_4 : decode cX6_isUnder 4 = .ok (.iload_n 3, 1) := by decide +kernel
theorem dX6_isUnder_5 : decode cX6_isUnder 5 = .ok (.bipush 8, 2) := by decide +kernel
theorem dX6_isUnder_7 : decode cX6_isUnder 7 = .ok (.if_icmp .ge 32, 3) := by decide +kernel
theorem dX6_isUnder_10 : decode cX6_isUnder 10 = .ok (.iload_n 2, 1) := by decide +kernel
theorem dX6_isUnder_11 : decode cX6_isUnder 11 = .ok (.ifCond .lt 28, 3) := by decide +kernel
theorem dX6_isUnder_14 : decode cX6_isUnder 14 = .ok (.iload_n 2, 1) := by decide +kernel
theorem dX6_isUnder_15 : decode cX6_isUnder 15 = .ok (.bipush 8, 2) := by decide +kernel
theorem dX6_isUnder_17 : decode cX6_isUnder 17 = .ok (.if_icmp .ge 22, 3) := by decide +kernel
theorem dX6_isUnder_20 : decode cX6_isUnder 20 = .ok (.iload_n 2, 1) := by decide +kernel
theorem dX6_isUnder_21 : decode cX6_isUnder 21 = .ok (.iload_n 1, 1) := by decide +kernel
theorem dX6_isUnder_22 : decode cX6_isUnder 22 = .ok (.if_icmp .ne 5, 3) := by decide +kernel
theorem dX6_isUnder_25 : decode cX6_isUnder 25 = .ok (.iconst 1, 1) := by decide +kernel
theorem dX6_isUnder_26 : decode cX6_isUnder 26 = .ok (.ireturn, 1) := by decide +kernel
theorem dX6_isUnder_27 : decode cX6_isUnder 27 = .ok (.getstatic 26, 3) := by decide +kernel
theorem dX6_isUnder_30 : decode cX6_isUnder 30 = .ok (.iload_n 2, 1) := by decide +kernel
theorem dX6_isUnder_31 : decode cX6_isUnder 31 = .ok (.iaload, 1) := by decide +kernel
theorem dX6_isUnder_32 : decode cX6_isUnder 32 = .ok (.istore_n 2, 1) := by decide +kernel
theorem dX6_isUnder_33 : decode cX6_isUnder 33 = .ok (.iinc 3 1, 3) := by decide +kernel
theorem dX6_isUnder_36 : decode cX6_isUnder 36 = .ok (.goto (-32), 3) := by decide +kernel
theorem dX6_isUnder_39 : decode cX6_isUnder 39 = .ok (.iconst 0, 1) := by decide +kernel
theorem dX6_isUnder_40 : decode cX6_isUnder 40 = .ok (.ireturn, 1) := by decide +kernel
section
variable {p : Program} {l : Launch} {e : Env} {s : State} {m : MethodId} {args : Array Value} {below : List Frame} {meth : Method} {c : Code} {H : Heap} {locs : List Loc} {E : Ev} {S V : St} {ls : Array Slot}
set_option maxRecDepth 20000 in
theorem w_Li_isUnder_b4 {N : Nat} {k4 : (Int32 × Int32) → Option Int32} {l1 : Int32} {l2 : Int32} {l3 : Int32} {r : Int32} (C : Cx p s m args meth c E cX6_isUnder 4 RX6 (some .boolean)) (hk4 : ∀ x, k4 x = some r → ∀ (H : Heap) (locs : List Loc) (ls : Array Slot), Wd E (wX V E) s.heap S H locs → lv_has ls 4 [(1, .int l1), (2, .int x.1), (3, .int x.2)] → W p l e (rmh 1) s m args below meth c H locs 0 0 (MQ below (QW E (wX V E) (some (.int r)) S) args s 0 0 (eA E)) (F0 m 4 ls [])) (hw : Wd E (wX V E) s.heap S H locs) (hl : lv_has ls 4 [(1, .int l1), (2, .int l2), (3, .int l3)]) (hf : Li_isUnder_b4 N k4 S l1 l2 l3 = some r) : W p l e (rmh 1) s m args below meth c H locs 0 0 (MQ below (QW E (wX V E) (some (.int r)) S) args s 0 0 (eA E)) (F0 m 4 ls []) := by
  have hx := C.1
  have hb := C.2.1
  unfold Li_isUnder_b4 at hf
  refine lv_iload_n hx hb dX6_isUnder_4 rfl (lv_at hl 2 rfl) ?_
  refine lv_bipush (v := 8) hx hb dX6_isUnder_5 kb_8 ?_
  refine lv_icmp_ge (tgt := 39) hx hb dX6_isUnder_7 (by decide) (fun q => ?_) (fun q => ?_)
  · have hf := hf_t q hf
    refine lv_iconst (v := 0) hx hb dX6_isUnder_39 kc_0 ?_
    exact ret_z rfl C hw dX6_isUnder_40 hf
  · have hf := hf_f q hf
    refine lv_iload_n hx hb dX6_isUnder_10 rfl (lv_at hl 1 rfl) ?_
    refine lv_if_lt (tgt := 39) hx hb dX6_isUnder_11 (by decide) (fun q => ?_) (fun q => ?_)
    · have hf := hf_t q hf
      refine lv_iconst (v := 0) hx hb dX6_isUnder_39 kc_0 ?_
      exact ret_z rfl C hw dX6_isUnder_40 hf
    · have hf := hf_f q hf
      refine lv_iload_n hx hb dX6_isUnder_14 rfl (lv_at hl 1 rfl) ?_
      refine lv_bipush (v := 8) hx hb dX6_isUnder_15 kb_8 ?_
      refine lv_icmp_ge (tgt := 39) hx hb dX6_isUnder_17 (by decide) (fun q => ?_) (fun q => ?_)
      · have hf := hf_t q hf
        refine lv_iconst (v := 0) hx hb dX6_isUnder_39 kc_0 ?_
        exact ret_z rfl C hw dX6_isUnder_40 hf
      · have hf := hf_f q hf
        refine lv_iload_n hx hb dX6_isUnder_20 rfl (lv_at hl 1 rfl) ?_
        refine lv_iload_n hx hb dX6_isUnder_21 rfl (lv_at hl 0 rfl) ?_
        refine lv_icmp_ne (tgt := 27) hx hb dX6_isUnder_22 (by decide) (fun q => ?_) (fun q => ?_)
        · have hf := hf_f q hf
          refine gsA C hw q_1045 dX6_isUnder_27 ?_
          refine lv_iload_n hx hb dX6_isUnder_30 rfl (lv_at hl 1 rfl) ?_
          obtain ⟨hc, hf⟩ := hf_ck hf
          refine ldA C hw hc dX6_isUnder_31 ?_
          refine nm_i hf (fun x1 hf => ?_)
          refine lv_istore_n (lv' := [(2, .int x1), (1, .int l1), (3, .int l3)]) hx hb dX6_isUnder_32 rfl hl (by decide) rfl (fun ls hl => ?_)
          obtain ⟨x2, ex2, hf⟩ := nme hf
          refine lv_iinc (v := x2) (lv' := [(3, .int x2), (2, .int x1), (1, .int l1)]) hx hb dX6_isUnder_33 hl (k := 2) rfl (ki_1 ex2) (by decide) rfl (fun ls hl => ?_)
          refine lv_goto (tgt := 4) hx hb dX6_isUnder_36 (by decide) ?_
          exact hk4 _ hf _ _ _ hw (lv_sub hl [2, 1, 0] rfl)
        · have hf := hf_t q hf
          refine lv_iconst (v := 1) hx hb dX6_isUnder_25 kc_1 ?_
          exact ret_z rfl C hw dX6_isUnder_26 hf
theorem w_Li_isUnder_L4 {N : Nat} {l1 : Int32} {r : Int32} (C : Cx p s m args meth c E cX6_isUnder 4 RX6 (some .boolean)) : ∀ x, Li_isUnder_L4 N S l1 x = some r → ∀ (H : Heap) (locs : List Loc) (ls : Array Slot), Wd E (wX V E) s.heap S H locs → lv_has ls 4 [(1, .int l1), (2, .int x.1), (3, .int x.2)] → W p l e (rmh 1) s m args below meth c H locs 0 0 (MQ below (QW E (wX V E) (some (.int r)) S) args s 0 0 (eA E)) (F0 m 4 ls []) :=
  lp_W (fun k x hk hf H locs ls hw hl => w_Li_isUnder_b4 C hk hw hl hf) N
set_option maxRecDepth 20000 in
theorem w_Li_isUnder {N : Nat} {p1 : Int32} {p2 : Int32} {r : Int32} (C : Cx p s m args meth c E cX6_isUnder 4 RX6 (some .boolean)) (hw : Wd E (wX V E) s.heap S H locs) (hl : lv_has ls 4 [(0, .int p1), (1, .int p2)]) (hf : Li_isUnder N S p1 p2 = some r) : W p l e (rmh 1) s m args below meth c H locs 0 0 (MQ below (QW E (wX V E) (some (.int r)) S) args s 0 0 (eA E)) (F0 m 0 ls []) := by
  have hx := C.1
  have hb := C.2.1
  unfold Li_isUnder at hf
  refine lv_iload_n hx hb dX6_isUnder_0 rfl (lv_at hl 0 rfl) ?_
  refine lv_istore_n (lv' := [(2, .int p1), (0, .int p1), (1, .int p2)]) hx hb dX6_isUnder_1 rfl hl (by decide) rfl (fun ls hl => ?_)
  refine lv_iconst (v := 0) hx hb dX6_isUnder_2 kc_0 ?_
  refine lv_istore_n (lv' := [(3, .int (0 : Int32)), (2, .int p1), (0, .int p1), (1, .int p2)]) hx hb dX6_isUnder_3 rfl hl (by decide) rfl (fun ls hl => ?_)
  exact w_Li_isUnder_L4 C _ hf _ _ _ hw (lv_sub hl [3, 1, 0] rfl)
end
theorem t_Li_isUnder {l : Launch} {V : St} {N : Nat} {S : St} {p1 : Int32} {p2 : Int32} {r : Int32} (hf : Li_isUnder N S p1 p2 = some r) : Ct l (wX V) yX6_isUnder cX6_isUnder 4 (some .boolean) 1 (fun E => [.int p1, .int p2]) S (fun E => some (.int r)) S :=
  ofBlock (by decide +kernel) (fun _ => Nat.le_of_ble_eq_true rfl) (fun E p e s m args below meth c ls C hw hl => w_Li_isUnder C hw hl hf)
theorem dX6_kindWith_0 : decode cX6_kindWith 0 = .ok (.iload_n 0, 1) := by decide +kernel
theorem dX6_kindWith_1 : decode cX6_kindWith 1 = .ok (.istore_n 2, 1) := by decide +kernel
theorem dX6_kindWith_2 : decode cX6_kindWith 2 = .ok (.iconst 0, 1) := by decide +kernel
theorem dX6_kindWith_3 : decode cX6_kindWith 3 = .ok (.istore_n 3, 1) := by decide +kernel
theorem dX6_kindWith_4 : decode cX6_kindWith 4 = .ok (.iload_n 3, 1) := by decide +kernel
theorem dX6_kindWith_5 : decode cX6_kindWith 5 = .ok (.bipush 8, 2) := by decide +kernel
theorem dX6_kindWith_7 : decode cX6_kindWith 7 = .ok (.if_icmp .ge 39, 3) := by decide +kernel
theorem dX6_kindWith_10 : decode cX6_kindWith 10 = .ok (.iload_n 2, 1) := by decide +kernel
theorem dX6_kindWith_11 : decode cX6_kindWith 11 = .ok (.ifCond .lt 35, 3) := by decide +kernel
theorem dX6_kindWith_14 : decode cX6_kindWith 14 = .ok (.iload_n 2, 1) := by decide +kernel
theorem dX6_kindWith_15 : decode cX6_kindWith 15 = .ok (.bipush 8, 2) := by decide +kernel
theorem dX6_kindWith_17 : decode cX6_kindWith 17 = .ok (.if_icmp .ge 29, 3) := by decide +kernel
theorem dX6_kindWith_20 : decode cX6_kindWith 20 = .ok (.getstatic 51, 3) := by decide +kernel
theorem dX6_kindWith_23 : decode cX6_kindWith 23 = .ok (.iload_n 2, 1) := by decide +kernel
theorem dX6_kindWith_24 : decode cX6_kindWith 24 = .ok (.iconst 4, 1) := by decide +kernel
theorem dX6_kindWith_25 : decode cX6_kindWith 25 = .ok (.imul, 1) := by decide +kernel
theorem dX6_kindWith_26 : decode cX6_kindWith 26 = .ok (.iload_n 1, 1) := by decide +kernel
theorem dX6_kindWith_27 : decode cX6_kindWith 27 = .ok (.iadd, 1) := by decide +kernel
theorem dX6_kindWith_28 : decode cX6_kindWith 28 = .ok (.iaload, 1) := by decide +kernel
theorem dX6_kindWith_29 : decode cX6_kindWith 29 = .ok (.ifCond .eq 5, 3) := by decide +kernel
theorem dX6_kindWith_32 : decode cX6_kindWith 32 = .ok (.iload_n 2, 1) := by decide +kernel
theorem dX6_kindWith_33 : decode cX6_kindWith 33 = .ok (.ireturn, 1) := by decide +kernel
theorem dX6_kindWith_34 : decode cX6_kindWith 34 = .ok (.getstatic 26, 3) := by decide +kernel
theorem dX6_kindWith_37 : decode cX6_kindWith 37 = .ok (.iload_n 2, 1) := by decide +kernel
theorem dX6_kindWith_38 : decode cX6_kindWith 38 = .ok (.iaload, 1) := by decide +kernel
theorem dX6_kindWith_39 : decode cX6_kindWith 39 = .ok (.istore_n 2, 1) := by decide +kernel
theorem dX6_kindWith_40 : decode cX6_kindWith 40 = .ok (.iinc 3 1, 3) := by decide +kernel
theorem dX6_kindWith_43 : decode cX6_kindWith 43 = .ok (.goto (-39), 3) := by decide +kernel
theorem dX6_kindWith_46 : decode cX6_kindWith 46 = .ok (.iconst (-1), 1) := by decide +kernel
theorem dX6_kindWith_47 : decode cX6_kindWith 47 = .ok (.ireturn, 1) := by decide +kernel
section
variable {p : Program} {l : Launch} {e : Env} {s : State} {m : MethodId} {args : Array Value} {below : List Frame} {meth : Method} {c : Code} {H : Heap} {locs : List Loc} {E : Ev} {S V : St} {ls : Array Slot}
set_option maxRecDepth 20000 in
theorem w_Li_kindWith_b4 {N : Nat} {k4 : (Int32 × Int32) → Option Int32} {l1 : Int32} {l2 : Int32} {l3 : Int32} {r : Int32} (C : Cx p s m args meth c E cX6_kindWith 4 RX6 (some .int)) (hk4 : ∀ x, k4 x = some r → ∀ (H : Heap) (locs : List Loc) (ls : Array Slot), Wd E (wX V E) s.heap S H locs → lv_has ls 4 [(1, .int l1), (2, .int x.1), (3, .int x.2)] → W p l e (rmh 1) s m args below meth c H locs 0 0 (MQ below (QW E (wX V E) (some (.int r)) S) args s 0 0 (eA E)) (F0 m 4 ls [])) (hw : Wd E (wX V E) s.heap S H locs) (hl : lv_has ls 4 [(1, .int l1), (2, .int l2), (3, .int l3)]) (hf : Li_kindWith_b4 N k4 S l1 l2 l3 = some r) : W p l e (rmh 1) s m args below meth c H locs 0 0 (MQ below (QW E (wX V E) (some (.int r)) S) args s 0 0 (eA E)) (F0 m 4 ls []) := by
  have hx := C.1
  have hb := C.2.1
  unfold Li_kindWith_b4 at hf
  refine lv_iload_n hx hb dX6_kindWith_4 rfl (lv_at hl 2 rfl) ?_
  refine lv_bipush (v := 8) hx hb dX6_kindWith_5 kb_8 ?_
  refine lv_icmp_ge (tgt := 46) hx hb dX6_kindWith_7 (by decide) (fun q => ?_) (fun q => ?_)
  · have hf := hf_t q hf
    refine lv_iconst (v := -1) hx hb dX6_kindWith_46 kc_m1 ?_
    exact ret_i C hw dX6_kindWith_47 hf
  · have hf := hf_f q hf
    refine lv_iload_n hx hb dX6_kindWith_10 rfl (lv_at hl 1 rfl) ?_
    refine lv_if_lt (tgt := 46) hx hb dX6_kindWith_11 (by decide) (fun q => ?_) (fun q => ?_)
    · have hf := hf_t q hf
      refine lv_iconst (v := -1) hx hb dX6_kindWith_46 kc_m1 ?_
      exact ret_i C hw dX6_kindWith_47 hf
    · have hf := hf_f q hf
      refine lv_iload_n hx hb dX6_kindWith_14 rfl (lv_at hl 1 rfl) ?_
      refine lv_bipush (v := 8) hx hb dX6_kindWith_15 kb_8 ?_
      refine lv_icmp_ge (tgt := 46) hx hb dX6_kindWith_17 (by decide) (fun q => ?_) (fun q => ?_)
      · have hf := hf_t q hf
        refine lv_iconst (v := -1) hx hb dX6_kindWith_46 kc_m1 ?_
        exact ret_i C hw dX6_kindWith_47 hf
      · have hf := hf_f q hf
        refine gsO C hw q_1043 dX6_kindWith_20 ?_
        refine lv_iload_n hx hb dX6_kindWith_23 rfl (lv_at hl 1 rfl) ?_
        refine lv_iconst (v := 4) hx hb dX6_kindWith_24 kc_4 ?_
        refine lv_imul hx hb dX6_kindWith_25 ?_
        refine lv_iload_n hx hb dX6_kindWith_26 rfl (lv_at hl 0 rfl) ?_
        refine lv_iadd hx hb dX6_kindWith_27 ?_
        obtain ⟨hc, hf⟩ := hf_ck hf
        refine ldO C hw hc dX6_kindWith_28 ?_
        refine lv_if_eq (tgt := 34) hx hb dX6_kindWith_29 (by decide) (fun q => ?_) (fun q => ?_)
        · have hf := hf_t q hf
          refine gsA C hw q_1045 dX6_kindWith_34 ?_
          refine lv_iload_n hx hb dX6_kindWith_37 rfl (lv_at hl 1 rfl) ?_
          obtain ⟨hc, hf⟩ := hf_ck hf
          refine ldA C hw hc dX6_kindWith_38 ?_
          refine nm_i hf (fun x1 hf => ?_)
          refine lv_istore_n (lv' := [(2, .int x1), (1, .int l1), (3, .int l3)]) hx hb dX6_kindWith_39 rfl hl (by decide) rfl (fun ls hl => ?_)
          obtain ⟨x2, ex2, hf⟩ := nme hf
          refine lv_iinc (v := x2) (lv' := [(3, .int x2), (2, .int x1), (1, .int l1)]) hx hb dX6_kindWith_40 hl (k := 2) rfl (ki_1 ex2) (by decide) rfl (fun ls hl => ?_)
          refine lv_goto (tgt := 4) hx hb dX6_kindWith_43 (by decide) ?_
          exact hk4 _ hf _ _ _ hw (lv_sub hl [2, 1, 0] rfl)
        · have hf := hf_f q hf
          refine lv_iload_n hx hb dX6_kindWith_32 rfl (lv_at hl 1 rfl) ?_
          exact ret_i C hw dX6_kindWith_33 hf
theorem w_Li_kindWith_L4 {N : Nat} {l1 : Int32} {r : Int32} (C : Cx p s m args meth c E cX6_kindWith 4 RX6 (some .int)) : ∀ x, Li_kindWith_L4 N S l1 x = some r → ∀ (H : Heap) (locs : List Loc) (ls : Array Slot), Wd E (wX V E) s.heap S H locs → lv_has ls 4 [(1, .int l1), (2, .int x.1), (3, .int x.2)] → W p l e (rmh 1) s m args below meth c H locs 0 0 (MQ below (QW E (wX V E) (some (.int r)) S) args s 0 0 (eA E)) (F0 m 4 ls []) :=
  lp_W (fun k x hk hf H locs ls hw hl => w_Li_kindWith_b4 C hk hw hl hf) N
set_option maxRecDepth 20000 in
theorem w_Li_kindWith {N : Nat} {p1 : Int32} {p2 : Int32} {r : Int32} (C : Cx p s m args meth c E cX6_kindWith 4 RX6 (some .int)) (hw : Wd E (wX V E) s.heap S H locs) (hl : lv_has ls 4 [(0, .int p1), (1, .int p2)]) (hf : Li_kindWith N S p1 p2 = some r) : W p l e (rmh 1) s m args below meth c H locs 0 0 (MQ below (QW E (wX V E) (some (.int r)) S) args s 0 0 (eA E)) (F0 m 0 ls []) := by
  have hx := C.1
  have hb := C.2.1
  unfold Li_kindWith at hf
  refine lv_iload_n hx hb dX6_kindWith_0 rfl (lv_at hl 0 rfl) ?_
  refine lv_istore_n (lv' := [(2, .int p1), (0, .int p1), (1, .int p2)]) hx hb dX6_kindWith_1 rfl hl (by decide) rfl (fun ls hl => ?_)
  refine lv_iconst (v := 0) hx hb dX6_kindWith_2 kc_0 ?_
  refine lv_istore_n (lv' := [(3, .int (0 : Int32)), (2, .int p1), (0, .int p1), (1, .int p2)]) hx hb dX6_kindWith_3 rfl hl (by decide) rfl (fun ls hl => ?_)
  exact w_Li_kindWith_L4 C _ hf _ _ _ hw (lv_sub hl [3, 1, 0] rfl)
end
theorem t_Li_kindWith {l : Launch} {V : St} {N : Nat} {S : St} {p1 : Int32} {p2 : Int32} {r : Int32} (hf : Li_kindWith N S p1 p2 = some r) : Ct l (wX V) yX6_kindWith cX6_kindWith 4 (some .int) 1 (fun E => [.int p1, .int p2]) S (fun E => some (.int r)) S :=
  ofBlock (by decide +kernel) (fun _ => Nat.le_of_ble_eq_true rfl) (fun E p e s m args below meth c ls C hw hl => w_Li_kindWith C hw hl hf)
theorem dX6_note_0 : decode cX6_note 0 = .ok (.aload_n 0, 1) := by decide +kernel
theorem dX6_note_1 : decode cX6_note 1 = .ok (.getfield 29, 3) := by decide +kernel
theorem dX6_note_4 : decode cX6_note 4 = .ok (.bipush 24, 2) := by decide +kernel
theorem dX6_note_6 : decode cX6_note 6 = .ok (.if_icmp .ge 13, 3) := by decide +kernel
theorem dX6_note_9 : decode cX6_note 9 = .ok (.aload_n 0, 1) := by decide +kernel
theorem dX6_note_10 : decode cX6_note 10 = .ok (.getfield 11, 3) := by decide +kernel
theorem dX6_note_13 : decode cX6_note 13 = .ok (.aload_n 0, 1) := by decide +kernel
theorem dX6_note_14 : decode cX6_note 14 = .ok (.getfield 29, 3) := by decide +kernel
theorem dX6_note_17 : decode cX6_note 17 = .ok (.iload_n 1, 1) := by decide +kernel
theorem dX6_note_18 : decode cX6_note 18 = .ok (.iastore, 1) := by decide +kernel
theorem dX6_note_19 : decode cX6_note 19 = .ok (.aload_n 0, 1) := by decide +kernel
theorem dX6_note_20 : decode cX6_note 20 = .ok (.dup, 1) := by decide +kernel
theorem dX6_note_21 : decode cX6_note 21 = .ok (.getfield 29, 3) := by decide +kernel
theorem dX6_note_24 : decode cX6_note 24 = .ok (.iconst 1, 1) := by decide +kernel
theorem dX6_note_25 : decode cX6_note 25 = .ok (.iadd, 1) := by decide +kernel
theorem dX6_note_26 : decode cX6_note 26 = .ok (.putfield 29, 3) := by decide +kernel
theorem dX6_note_29 : decode cX6_note 29 = .ok (.return_, 1) := by decide +kernel
section
variable {p : Program} {l : Launch} {e : Env} {s : State} {m : MethodId} {args : Array Value} {below : List Frame} {meth : Method} {c : Code} {H : Heap} {locs : List Loc} {E : Ev} {S V : St} {ls : Array Slot}
set_option maxRecDepth 20000 in
theorem w_Li_note_b19 {S9 : St} (C : Cx p s m args meth c E cX6_note 2 RX6 none) (hw : Wd E (wX V E) s.heap S H locs) (hl : lv_has ls 2 [(0, .ref (ea E 9))]) (hf : Li_note_b19 S = some S9) : W p l e (rmh 1) s m args below meth c H locs 0 0 (MQ below (QW E (wX V E) (none) S9) args s 0 0 (eA E)) (F0 m 19 ls []) := by
  have hx := C.1
  have hb := C.2.1
  unfold Li_note_b19 at hf
  refine lv_aload_n hx hb dX6_note_19 rfl (lv_at hl 0 rfl) ?_
  refine lv_dup hx hb dX6_note_20 rfl ?_
  refine get_9_1 C hw q_239 dX6_note_21 ?_
  refine lv_iconst (v := 1) hx hb dX6_note_24 kc_1 ?_
  refine lv_iadd hx hb dX6_note_25 ?_
  refine put_9_1 C hw q_239 dX6_note_26 (fun H locs hw => ?_)
  refine nm_S hf hw (fun S1 hf hw => ?_)
  exact ret_vS C hw dX6_note_29 hf
set_option maxRecDepth 20000 in
theorem w_Li_note {p1 : Int32} {S9 : St} (C : Cx p s m args meth c E cX6_note 2 RX6 none) (hw : Wd E (wX V E) s.heap S H locs) (hl : lv_has ls 2 [(0, .ref (ea E 9)), (1, .int p1)]) (hf : Li_note S p1 = some S9) : W p l e (rmh 1) s m args below meth c H locs 0 0 (MQ below (QW E (wX V E) (none) S9) args s 0 0 (eA E)) (F0 m 0 ls []) := by
  have hx := C.1
  have hb := C.2.1
  unfold Li_note at hf
  refine lv_aload_n hx hb dX6_note_0 rfl (lv_at hl 0 rfl) ?_
  refine get_9_1 C hw q_239 dX6_note_1 ?_
  refine lv_bipush (v := 24) hx hb dX6_note_4 kb_24 ?_
  refine lv_icmp_ge (tgt := 19) hx hb dX6_note_6 (by decide) (fun q => ?_) (fun q => ?_)
  · have hf := hf_t q hf
    exact w_Li_note_b19 C hw (lv_sub hl [0] rfl) hf
  · have hf := hf_f q hf
    refine lv_aload_n hx hb dX6_note_9 rfl (lv_at hl 0 rfl) ?_
    refine get_9_2 C hw q_241 dX6_note_10 ?_
    refine lv_aload_n hx hb dX6_note_13 rfl (lv_at hl 0 rfl) ?_
    refine get_9_1 C hw q_239 dX6_note_14 ?_
    refine lv_iload_n hx hb dX6_note_17 rfl (lv_at hl 1 rfl) ?_
    obtain ⟨hc, hf⟩ := hf_ck hf
    refine st_38 C hw hc dX6_note_18 (fun H locs hw => ?_)
    refine nm_S hf hw (fun S1 hf hw => ?_)
    exact w_Li_note_b19 C hw (lv_sub hl [0] rfl) hf
end
theorem t_Li_note {l : Launch} {V : St} {S : St} {p1 : Int32} {S9 : St} (hf : Li_note S p1 = some S9) : Ct l (wX V) yX6_note cX6_note 2 none 1 (fun E => [.ref (ea E 9), .int p1]) S (fun E => none) S9 :=
  ofBlock (by decide +kernel) (fun _ => Nat.le_of_ble_eq_true rfl) (fun E p e s m args below meth c ls C hw hl => w_Li_note C hw hl hf)
theorem dX6_fromAbove_0 : decode cX6_fromAbove 0 = .ok (.aload_n 0, 1) := by decide +kernel
theorem dX6_fromAbove_1 : decode cX6_fromAbove 1 = .ok (.getstatic 26, 3) := by decide +kernel
theorem dX6_fromAbove_4 : decode cX6_fromAbove 4 = .ok (.iload_n 1, 1) := by decide +kernel
theorem dX6_fromAbove_5 : decode cX6_fromAbove 5 = .ok (.iaload, 1) := by decide +kernel
theorem dX6_fromAbove_6 : decode cX6_fromAbove 6 = .ok (.iload_n 2, 1) := by decide +kernel
theorem dX6_fromAbove_7 : decode cX6_fromAbove 7 = .ok (.iload_n 3, 1) := by decide +kernel
theorem dX6_fromAbove_8 : decode cX6_fromAbove 8 = .ok (.iload 4, 2) := by decide +kernel
theorem dX6_fromAbove_10 : decode cX6_fromAbove 10 = .ok (.invokevirtual 43, 3) := by decide +kernel
theorem dX6_fromAbove_13 : decode cX6_fromAbove 13 = .ok (.ireturn, 1) := by decide +kernel
theorem dX6_own_0 : decode cX6_own 0 = .ok (.aload_n 0, 1) := by decide +kernel
theorem dX6_own_1 : decode cX6_own 1 = .ok (.aload_n 0, 1) := by decide +kernel
theorem dX6_own_2 : decode cX6_own 2 = .ok (.getfield 15, 3) := by decide +kernel
theorem dX6_own_5 : decode cX6_own 5 = .ok (.aload_n 0, 1) := by decide +kernel
theorem dX6_own_6 : decode cX6_own 6 = .ok (.getfield 36, 3) := by decide +kernel
theorem dX6_own_9 : decode cX6_own 9 = .ok (.iaload, 1) := by decide +kernel
theorem dX6_own_10 : decode cX6_own 10 = .ok (.iload_n 1, 1) := by decide +kernel
theorem dX6_own_11 : decode cX6_own 11 = .ok (.iload_n 2, 1) := by decide +kernel
theorem dX6_own_12 : decode cX6_own 12 = .ok (.iload_n 3, 1) := by decide +kernel
theorem dX6_own_13 : decode cX6_own 13 = .ok (.invokevirtual 43, 3) := by decide +kernel
theorem dX6_own_16 : decode cX6_own 16 = .ok (.ireturn, 1) := by decide +kernel
theorem dX6_run_0 : decode cX6_run 0 = .ok (.iload_n 1, 1) := by decide +kernel
theorem dX6_run_1 : decode cX6_run 1 = .ok (.iload_n 2, 1) := by decide +kernel
theorem dX6_run_2 : decode cX6_run 2 = .ok (.invokestatic 47, 3) := by decide +kernel
theorem dX6_run_5 : decode cX6_run 5 = .ok (.istore 5, 2) := by decide +kernel
theorem dX6_run_7 : decode cX6_run 7 = .ok (.iload 5, 2) := by decide +kernel
theorem dX6_run_9 : decode cX6_run 9 = .ok (.ifCond .lt 10, 3) := by decide +kernel
theorem dX6_run_12 : decode cX6_run 12 = .ok (.iload 4, 2) := by decide +kernel
theorem dX6_run_14 : decode cX6_run 14 = .ok (.bipush 30, 2) := by decide +kernel
theorem dX6_run_16 : decode cX6_run 16 = .ok (.if_icmp .lt 5, 3) := by decide +kernel
theorem dX6_run_19 : decode cX6_run 19 = .ok (.iconst 0, 1) := by decide +kernel
theorem dX6_run_20 : decode cX6_run 20 = .ok (.ireturn, 1) := by decide +kernel
theorem dX6_run_21 : decode cX6_run 21 = .ok (.getstatic 51, 3) := by decide +kernel
theorem dX6_run_24 : decode cX6_run 24 = .ok (.iload 5, 2) := by decide +kernel
theorem dX6_run_26 : decode cX6_run 26 = .ok (.iconst 4, 1) := by decide +kernel
theorem dX6_run_27 : decode cX6_run 27 = .ok (.imul, 1) := by decide +kernel
theorem dX6_run_28 : decode cX6_run 28 = .ok (.iload_n 2, 1) := by decide +kernel
theorem dX6_run_29 : decode cX6_run 29 = .ok (.iadd, 1) := by decide +kernel
theorem dX6_run_30 : decode cX6_run 30 = .ok (.iaload, 1) := by decide +kernel
theorem dX6_run_31 : decode cX6_run 31 = .ok (.istore 6, 2) := by decide +kernel
theorem dX6_run_33 : decode cX6_run 33 = .ok (.aload_n 0, 1) := by decide +kernel
theorem dX6_run_34 : decode cX6_run 34 = .ok (.iload 6, 2) := by decide +kernel
theorem dX6_run_36 : decode cX6_run 36 = .ok (.invokevirtual 54, 3) := by decide +kernel
theorem dX6_run_39 : decode cX6_run 39 = .ok (.iload 4, 2) := by decide +kernel
theorem dX6_run_41 : decode cX6_run 41 = .ok (.iconst 1, 1) := by decide +kernel
theorem dX6_run_42 : decode cX6_run 42 = .ok (.iadd, 1) := by decide +kernel
theorem dX6_run_43 : decode cX6_run 43 = .ok (.istore 7, 2) := by decide +kernel
theorem dX6_run_45 : decode cX6_run 45 = .ok (.iload 6, 2) := by decide +kernel
theorem dX6_run_47 : decode cX6_run 47 = .ok (.lookupswitch 286 #[(1, 113), (2, 120), (10, 138), (11, 149), (20, 156), (30, 169), (40, 181), (41, 194), (50, 207), (60, 227), (70, 240), (80, 253), (81, 273)], 113) := by decide +kernel
theorem dX6_run_160 : decode cX6_run 160 = .ok (.iload_n 3, 1) := by decide +kernel
theorem dX6_run_161 : decode cX6_run 161 = .ok (.aload_n 0, 1) := by decide +kernel
theorem dX6_run_162 : decode cX6_run 162 = .ok (.getfield 36, 3) := by decide +kernel
theorem dX6_run_165 : decode cX6_run 165 = .ok (.iadd, 1) := by decide +kernel
theorem dX6_run_166 : decode cX6_run 166 = .ok (.ireturn, 1) := by decide +kernel
theorem dX6_run_167 : decode cX6_run 167 = .ok (.aload_n 0, 1) := by decide +kernel
theorem dX6_run_168 : decode cX6_run 168 = .ok (.iconst 1, 1) := by decide +kernel
theorem dX6_run_169 : decode cX6_run 169 = .ok (.iload_n 3, 1) := by decide +kernel
theorem dX6_run_170 : decode cX6_run 170 = .ok (.iload 7, 2) := by decide +kernel
theorem dX6_run_172 : decode cX6_run 172 = .ok (.invokevirtual 39, 3) := by decide +kernel
theorem dX6_run_175 : decode cX6_run 175 = .ok (.aload_n 0, 1) := by decide +kernel
theorem dX6_run_176 : decode cX6_run 176 = .ok (.iconst 2, 1) := by decide +kernel
theorem dX6_run_177 : decode cX6_run 177 = .ok (.iconst 1, 1) := by decide +kernel
theorem dX6_run_178 : decode cX6_run 178 = .ok (.iload 7, 2) := by decide +kernel
theorem dX6_run_180 : decode cX6_run 180 = .ok (.invokevirtual 39, 3) := by decide +kernel
theorem dX6_run_183 : decode cX6_run 183 = .ok (.isub, 1) := by decide +kernel
theorem dX6_run_184 : decode cX6_run 184 = .ok (.ireturn, 1) := by decide +kernel
theorem dX6_run_185 : decode cX6_run 185 = .ok (.aload_n 0, 1) := by decide +kernel
theorem dX6_run_186 : decode cX6_run 186 = .ok (.iconst 0, 1) := by decide +kernel
theorem dX6_run_187 : decode cX6_run 187 = .ok (.iload_n 3, 1) := by decide +kernel
theorem dX6_run_188 : decode cX6_run 188 = .ok (.iload 7, 2) := by decide +kernel
theorem dX6_run_190 : decode cX6_run 190 = .ok (.invokevirtual 39, 3) := by decide +kernel
theorem dX6_run_193 : decode cX6_run 193 = .ok (.iconst 2, 1) := by decide +kernel
theorem dX6_run_194 : decode cX6_run 194 = .ok (.imul, 1) := by decide +kernel
theorem dX6_run_195 : decode cX6_run 195 = .ok (.ireturn, 1) := by decide +kernel
theorem dX6_run_196 : decode cX6_run 196 = .ok (.iload_n 3, 1) := by decide +kernel
theorem dX6_run_197 : decode cX6_run 197 = .ok (.aload_n 0, 1) := by decide +kernel
theorem dX6_run_198 : decode cX6_run 198 = .ok (.getfield 36, 3) := by decide +kernel
theorem dX6_run_201 : decode cX6_run 201 = .ok (.ixor, 1) := by decide +kernel
theorem dX6_run_202 : decode cX6_run 202 = .ok (.ireturn, 1) := by decide +kernel
theorem dX6_run_203 : decode cX6_run 203 = .ok (.aload_n 0, 1) := by decide +kernel
theorem dX6_run_204 : decode cX6_run 204 = .ok (.iload 5, 2) := by decide +kernel
theorem dX6_run_206 : decode cX6_run 206 = .ok (.iconst 0, 1) := by decide +kernel
theorem dX6_run_207 : decode cX6_run 207 = .ok (.iload_n 3, 1) := by decide +kernel
theorem dX6_run_208 : decode cX6_run 208 = .ok (.iload 7, 2) := by decide +kernel
theorem dX6_run_210 : decode cX6_run 210 = .ok (.invokevirtual 58, 3) := by decide +kernel
theorem dX6_run_213 : decode cX6_run 213 = .ok (.iconst 3, 1) := by decide +kernel
theorem dX6_run_214 : decode cX6_run 214 = .ok (.iadd, 1) := by decide +kernel
theorem dX6_run_215 : decode cX6_run 215 = .ok (.ireturn, 1) := by decide +kernel
theorem dX6_run_216 : decode cX6_run 216 = .ok (.aload_n 0, 1) := by decide +kernel
theorem dX6_run_217 : decode cX6_run 217 = .ok (.iload 5, 2) := by decide +kernel
theorem dX6_run_219 : decode cX6_run 219 = .ok (.iconst 1, 1) := by decide +kernel
theorem dX6_run_220 : decode cX6_run 220 = .ok (.iload_n 3, 1) := by decide +kernel
theorem dX6_run_221 : decode cX6_run 221 = .ok (.iload 7, 2) := by decide +kernel
theorem dX6_run_223 : decode cX6_run 223 = .ok (.invokevirtual 58, 3) := by decide +kernel
theorem dX6_run_226 : decode cX6_run 226 = .ok (.ineg, 1) := by decide +kernel
theorem dX6_run_227 : decode cX6_run 227 = .ok (.ireturn, 1) := by decide +kernel
theorem dX6_run_228 : decode cX6_run 228 = .ok (.aload_n 0, 1) := by decide +kernel
theorem dX6_run_229 : decode cX6_run 229 = .ok (.iload 5, 2) := by decide +kernel
theorem dX6_run_231 : decode cX6_run 231 = .ok (.iconst 2, 1) := by decide +kernel
theorem dX6_run_232 : decode cX6_run 232 = .ok (.iload_n 3, 1) := by decide +kernel
theorem dX6_run_233 : decode cX6_run 233 = .ok (.iload 7, 2) := by decide +kernel
theorem dX6_run_235 : decode cX6_run 235 = .ok (.invokevirtual 58, 3) := by decide +kernel
theorem dX6_run_238 : decode cX6_run 238 = .ok (.iconst 3, 1) := by decide +kernel
theorem dX6_run_239 : decode cX6_run 239 = .ok (.imul, 1) := by decide +kernel
theorem dX6_run_240 : decode cX6_run 240 = .ok (.ireturn, 1) := by decide +kernel
theorem dX6_run_241 : decode cX6_run 241 = .ok (.aload_n 0, 1) := by decide +kernel
theorem dX6_run_242 : decode cX6_run 242 = .ok (.iload 5, 2) := by decide +kernel
theorem dX6_run_244 : decode cX6_run 244 = .ok (.iconst 1, 1) := by decide +kernel
theorem dX6_run_245 : decode cX6_run 245 = .ok (.iload_n 3, 1) := by decide +kernel
theorem dX6_run_246 : decode cX6_run 246 = .ok (.iconst 1, 1) := by decide +kernel
theorem dX6_run_247 : decode cX6_run 247 = .ok (.iadd, 1) := by decide +kernel
theorem dX6_run_248 : decode cX6_run 248 = .ok (.iload 7, 2) := by decide +kernel
theorem dX6_run_250 : decode cX6_run 250 = .ok (.invokevirtual 58, 3) := by decide +kernel
theorem dX6_run_253 : decode cX6_run 253 = .ok (.ireturn, 1) := by decide +kernel
theorem dX6_run_254 : decode cX6_run 254 = .ok (.aload_n 0, 1) := by decide +kernel
theorem dX6_run_255 : decode cX6_run 255 = .ok (.iload 5, 2) := by decide +kernel
theorem dX6_run_257 : decode cX6_run 257 = .ok (.iconst 2, 1) := by decide +kernel
theorem dX6_run_258 : decode cX6_run 258 = .ok (.iload_n 3, 1) := by decide +kernel
theorem dX6_run_259 : decode cX6_run 259 = .ok (.iload 7, 2) := by decide +kernel
theorem dX6_run_261 : decode cX6_run 261 = .ok (.invokevirtual 58, 3) := by decide +kernel
theorem dX6_run_264 : decode cX6_run 264 = .ok (.aload_n 0, 1) := by decide +kernel
theorem dX6_run_265 : decode cX6_run 265 = .ok (.iconst 0, 1) := by decide +kernel
theorem dX6_run_266 : decode cX6_run 266 = .ok (.iconst 2, 1) := by decide +kernel
theorem dX6_run_267 : decode cX6_run 267 = .ok (.iload 7, 2) := by decide +kernel
theorem dX6_run_269 : decode cX6_run 269 = .ok (.invokevirtual 39, 3) := by decide +kernel
theorem dX6_run_272 : decode cX6_run 272 = .ok (.isub, 1) := by decide +kernel
theorem dX6_run_273 : decode cX6_run 273 = .ok (.ireturn, 1) := by decide +kernel
theorem dX6_run_274 : decode cX6_run 274 = .ok (.aload_n 0, 1) := by decide +kernel
theorem dX6_run_275 : decode cX6_run 275 = .ok (.iload 5, 2) := by decide +kernel
theorem dX6_run_277 : decode cX6_run 277 = .ok (.iconst 3, 1) := by decide +kernel
theorem dX6_run_278 : decode cX6_run 278 = .ok (.iload_n 3, 1) := by decide +kernel
theorem dX6_run_279 : decode cX6_run 279 = .ok (.iload 7, 2) := by decide +kernel
theorem dX6_run_281 : decode cX6_run 281 = .ok (.invokevirtual 58, 3) := by decide +kernel
theorem dX6_run_284 : decode cX6_run 284 = .ok (.iconst 5, 1) := by decide +kernel
theorem dX6_run_285 : decode cX6_run 285 = .ok (.ixor, 1) := by decide +kernel
theorem dX6_run_286 : decode cX6_run 286 = .ok (.ireturn, 1) := by decide +kernel
theorem dX6_run_287 : decode cX6_run 287 = .ok (.aload_n 0, 1) := by decide +kernel
theorem dX6_run_288 : decode cX6_run 288 = .ok (.iload 5, 2) := by decide +kernel
theorem dX6_run_290 : decode cX6_run 290 = .ok (.iconst 0, 1) := by decide +kernel
theorem dX6_run_291 : decode cX6_run 291 = .ok (.iload_n 3, 1) := by decide +kernel
theorem dX6_run_292 : decode cX6_run 292 = .ok (.iload 7, 2) := by decide +kernel
theorem dX6_run_294 : decode cX6_run 294 = .ok (.invokevirtual 58, 3) := by decide +kernel
theorem dX6_run_297 : decode cX6_run 297 = .ok (.iconst 2, 1) := by decide +kernel
theorem dX6_run_298 : decode cX6_run 298 = .ok (.imul, 1) := by decide +kernel
theorem dX6_run_299 : decode cX6_run 299 = .ok (.ireturn, 1) := by decide +kernel
theorem dX6_run_300 : decode cX6_run 300 = .ok (.aload_n 0, 1) := by decide +kernel
theorem dX6_run_301 : decode cX6_run 301 = .ok (.iload 5, 2) := by decide +kernel
theorem dX6_run_303 : decode cX6_run 303 = .ok (.iconst 1, 1) := by decide +kernel
theorem dX6_run_304 : decode cX6_run 304 = .ok (.iload_n 3, 1) := by decide +kernel
theorem dX6_run_305 : decode cX6_run 305 = .ok (.iload 7, 2) := by decide +kernel
theorem dX6_run_307 : decode cX6_run 307 = .ok (.invokevirtual 58, 3) := by decide +kernel
theorem dX6_run_310 : decode cX6_run 310 = .ok (.aload_n 0, 1) := by decide +kernel
theorem dX6_run_311 : decode cX6_run 311 = .ok (.iconst 2, 1) := by decide +kernel
theorem dX6_run_312 : decode cX6_run 312 = .ok (.iconst 2, 1) := by decide +kernel
theorem dX6_run_313 : decode cX6_run 313 = .ok (.iload 7, 2) := by decide +kernel
theorem dX6_run_315 : decode cX6_run 315 = .ok (.invokevirtual 39, 3) := by decide +kernel
theorem dX6_run_318 : decode cX6_run 318 = .ok (.iadd, 1) := by decide +kernel
theorem dX6_run_319 : decode cX6_run 319 = .ok (.ireturn, 1) := by decide +kernel
theorem dX6_run_320 : decode cX6_run 320 = .ok (.aload_n 0, 1) := by decide +kernel
theorem dX6_run_321 : decode cX6_run 321 = .ok (.iload 5, 2) := by decide +kernel
theorem dX6_run_323 : decode cX6_run 323 = .ok (.iconst 3, 1) := by decide +kernel
theorem dX6_run_324 : decode cX6_run 324 = .ok (.iload_n 3, 1) := by decide +kernel
theorem dX6_run_325 : decode cX6_run 325 = .ok (.iload 7, 2) := by decide +kernel
theorem dX6_run_327 : decode cX6_run 327 = .ok (.invokevirtual 58, 3) := by decide +kernel
theorem dX6_run_330 : decode cX6_run 330 = .ok (.iconst 1, 1) := by decide +kernel
theorem dX6_run_331 : decode cX6_run 331 = .ok (.isub, 1) := by decide +kernel
theorem dX6_run_332 : decode cX6_run 332 = .ok (.ireturn, 1) := by decide +kernel
theorem dX6_run_333 : decode cX6_run 333 = .ok (.iconst 0, 1) := by decide +kernel
theorem dX6_run_334 : decode cX6_run 334 = .ok (.ireturn, 1) := by decide +kernel
theorem Li_fromAbove_succ (N : Nat) (d : Nat) : Li_fromAbove N (d + 1) = Li_fromAbove_B N (Li_fromAbove N d) (Li_own N d) (Li_run N d) := rfl
theorem Li_own_succ (N : Nat) (d : Nat) : Li_own N (d + 1) = Li_own_B N (Li_fromAbove N d) (Li_own N d) (Li_run N d) := rfl
theorem Li_run_succ (N : Nat) (d : Nat) : Li_run N (d + 1) = Li_run_B N (Li_fromAbove N d) (Li_own N d) (Li_run N d) := rfl
section
variable {p : Program} {l : Launch} {e : Env} {s : State} {m : MethodId} {args : Array Value} {below : List Frame} {meth : Method} {c : Code} {H : Heap} {locs : List Loc} {E : Ev} {S V : St} {ls : Array Slot}
set_option maxRecDepth 20000 in
theorem w_Li_fromAbove_B {N : Nat} {d : Nat} {f_fromAbove : St → Int32 → Int32 → Int32 → Int32 → Option (Int32 × St)} {f_own : St → Int32 → Int32 → Int32 → Option (Int32 × St)} {f_run : St → Int32 → Int32 → Int32 → Int32 → Option (Int32 × St)} {p1 : Int32} {p2 : Int32} {p3 : Int32} {p4 : Int32} {r : Int32} {S9 : St} (C : Cx p s m args meth c E cX6_fromAbove 5 RX6 (some .int)) (hr_fromAbove : ∀ {S : St} {p1 : Int32} {p2 : Int32} {p3 : Int32} {p4 : Int32} {r : Int32} {S9 : St}, f_fromAbove S p1 p2 p3 p4 = some (r, S9) → Ct l (wX V) yX6_fromAbove cX6_fromAbove 5 (some .int) (d + 2) (fun E => [.ref (ea E 9), .int p1, .int p2, .int p3, .int p4]) S (fun E => some (.int r)) S9) (hr_own : ∀ {S : St} {p1 : Int32} {p2 : Int32} {p3 : Int32} {r : Int32} {S9 : St}, f_own S p1 p2 p3 = some (r, S9) → Ct l (wX V) yX6_own cX6_own 4 (some .int) (d + 2) (fun E => [.ref (ea E 9), .int p1, .int p2, .int p3]) S (fun E => some (.int r)) S9) (hr_run : ∀ {S : St} {p1 : Int32} {p2 : Int32} {p3 : Int32} {p4 : Int32} {r : Int32} {S9 : St}, f_run S p1 p2 p3 p4 = some (r, S9) → Ct l (wX V) yX6_run cX6_run 8 (some .int) (d + 2) (fun E => [.ref (ea E 9), .int p1, .int p2, .int p3, .int p4]) S (fun E => some (.int r)) S9) (hw : Wd E (wX V E) s.heap S H locs) (hl : lv_has ls 5 [(0, .ref (ea E 9)), (1, .int p1), (2, .int p2), (3, .int p3), (4, .int p4)]) (hf : Li_fromAbove_B N f_fromAbove f_own f_run S p1 p2 p3 p4 = some (r, S9)) : W p l e (rmh (d + 1 + 2)) s m args below meth c H locs 0 0 (MQ below (QW E (wX V E) (some (.int r)) S9) args s 0 0 (eA E)) (F0 m 0 ls []) := by
  have hx := C.1
  have hb := C.2.1
  unfold Li_fromAbove_B at hf
  refine lv_aload_n hx hb dX6_fromAbove_0 rfl (lv_at hl 0 rfl) ?_
  refine gsA C hw q_1045 dX6_fromAbove_1 ?_
  refine lv_iload_n hx hb dX6_fromAbove_4 rfl (lv_at hl 1 rfl) ?_
  obtain ⟨hc, hf⟩ := hf_ck hf
  refine ldA C hw hc dX6_fromAbove_5 ?_
  refine lv_iload_n hx hb dX6_fromAbove_6 rfl (lv_at hl 2 rfl) ?_
  refine lv_iload_n hx hb dX6_fromAbove_7 rfl (lv_at hl 3 rfl) ?_
  refine lv_iload hx hb dX6_fromAbove_8 (lv_at hl 4 rfl) ?_
  obtain ⟨r2, S1, hr, hf⟩ := hf_2 hf
  refine inv_Vi (q0 := 9) (ci := 6) (As := [.int (tblA p1.toNatClampNeg), .int p2, .int p3, .int p4]) lk_X6_43 C hw rfl rfl rfl (hr_run hr) rfl hl.1 dX6_fromAbove_10 rfl (by omega) (by decide) (Nat.le_of_ble_eq_true rfl) rfl (fun H locs hw => ?_)
  exact ret_iS C hw dX6_fromAbove_13 hf
set_option maxRecDepth 20000 in
theorem w_Li_own_B {N : Nat} {d : Nat} {f_fromAbove : St → Int32 → Int32 → Int32 → Int32 → Option (Int32 × St)} {f_own : St → Int32 → Int32 → Int32 → Option (Int32 × St)} {f_run : St → Int32 → Int32 → Int32 → Int32 → Option (Int32 × St)} {p1 : Int32} {p2 : Int32} {p3 : Int32} {r : Int32} {S9 : St} (C : Cx p s m args meth c E cX6_own 4 RX6 (some .int)) (hr_fromAbove : ∀ {S : St} {p1 : Int32} {p2 : Int32} {p3 : Int32} {p4 : Int32} {r : Int32} {S9 : St}, f_fromAbove S p1 p2 p3 p4 = some (r, S9) → Ct l (wX V) yX6_fromAbove cX6_fromAbove 5 (some .int) (d + 2) (fun E => [.ref (ea E 9), .int p1, .int p2, .int p3, .int p4]) S (fun E => some (.int r)) S9) (hr_own : ∀ {S : St} {p1 : Int32} {p2 : Int32} {p3 : Int32} {r : Int32} {S9 : St}, f_own S p1 p2 p3 = some (r, S9) → Ct l (wX V) yX6_own cX6_own 4 (some .int) (d + 2) (fun E => [.ref (ea E 9), .int p1, .int p2, .int p3]) S (fun E => some (.int r)) S9) (hr_run : ∀ {S : St} {p1 : Int32} {p2 : Int32} {p3 : Int32} {p4 : Int32} {r : Int32} {S9 : St}, f_run S p1 p2 p3 p4 = some (r, S9) → Ct l (wX V) yX6_run cX6_run 8 (some .int) (d + 2) (fun E => [.ref (ea E 9), .int p1, .int p2, .int p3, .int p4]) S (fun E => some (.int r)) S9) (hw : Wd E (wX V E) s.heap S H locs) (hl : lv_has ls 4 [(0, .ref (ea E 9)), (1, .int p1), (2, .int p2), (3, .int p3)]) (hf : Li_own_B N f_fromAbove f_own f_run S p1 p2 p3 = some (r, S9)) : W p l e (rmh (d + 1 + 2)) s m args below meth c H locs 0 0 (MQ below (QW E (wX V E) (some (.int r)) S9) args s 0 0 (eA E)) (F0 m 0 ls []) := by
  have hx := C.1
  have hb := C.2.1
  unfold Li_own_B at hf
  refine lv_aload_n hx hb dX6_own_0 rfl (lv_at hl 0 rfl) ?_
  refine lv_aload_n hx hb dX6_own_1 rfl (lv_at hl 0 rfl) ?_
  refine get_9_3 C hw q_243 dX6_own_2 ?_
  refine lv_aload_n hx hb dX6_own_5 rfl (lv_at hl 0 rfl) ?_
  refine get_9_4 C hw q_244 dX6_own_6 ?_
  obtain ⟨hc, hf⟩ := hf_ck hf
  refine ld_39 C hw hc dX6_own_9 ?_
  refine lv_iload_n hx hb dX6_own_10 rfl (lv_at hl 1 rfl) ?_
  refine lv_iload_n hx hb dX6_own_11 rfl (lv_at hl 2 rfl) ?_
  refine lv_iload_n hx hb dX6_own_12 rfl (lv_at hl 3 rfl) ?_
  obtain ⟨r2, S1, hr, hf⟩ := hf_2 hf
  refine inv_Vi (q0 := 9) (ci := 6) (As := [.int (gi S 39 (gi S 9 4).toNatClampNeg), .int p1, .int p2, .int p3]) lk_X6_43 C hw rfl rfl rfl (hr_run hr) rfl hl.1 dX6_own_13 rfl (by omega) (by decide) (Nat.le_of_ble_eq_true rfl) rfl (fun H locs hw => ?_)
  exact ret_iS C hw dX6_own_16 hf
set_option maxRecDepth 20000 in
theorem w_Li_run_B {N : Nat} {d : Nat} {f_fromAbove : St → Int32 → Int32 → Int32 → Int32 → Option (Int32 × St)} {f_own : St → Int32 → Int32 → Int32 → Option (Int32 × St)} {f_run : St → Int32 → Int32 → Int32 → Int32 → Option (Int32 × St)} {p1 : Int32} {p2 : Int32} {p3 : Int32} {p4 : Int32} {r : Int32} {S9 : St} (C : Cx p s m args meth c E cX6_run 8 RX6 (some .int)) (hr_fromAbove : ∀ {S : St} {p1 : Int32} {p2 : Int32} {p3 : Int32} {p4 : Int32} {r : Int32} {S9 : St}, f_fromAbove S p1 p2 p3 p4 = some (r, S9) → Ct l (wX V) yX6_fromAbove cX6_fromAbove 5 (some .int) (d + 2) (fun E => [.ref (ea E 9), .int p1, .int p2, .int p3, .int p4]) S (fun E => some (.int r)) S9) (hr_own : ∀ {S : St} {p1 : Int32} {p2 : Int32} {p3 : Int32} {r : Int32} {S9 : St}, f_own S p1 p2 p3 = some (r, S9) → Ct l (wX V) yX6_own cX6_own 4 (some .int) (d + 2) (fun E => [.ref (ea E 9), .int p1, .int p2, .int p3]) S (fun E => some (.int r)) S9) (hr_run : ∀ {S : St} {p1 : Int32} {p2 : Int32} {p3 : Int32} {p4 : Int32} {r : Int32} {S9 : St}, f_run S p1 p2 p3 p4 = some (r, S9) → Ct l (wX V) yX6_run cX6_run 8 (some .int) (d + 2) (fun E => [.ref (ea E 9), .int p1, .int p2, .int p3, .int p4]) S (fun E => some (.int r)) S9) (hw : Wd E (wX V E) s.heap S H locs) (hl : lv_has ls 8 [(0, .ref (ea E 9)), (1, .int p1), (2, .int p2), (3, .int p3), (4, .int p4)]) (hf : Li_run_B N f_fromAbove f_own f_run S p1 p2 p3 p4 = some (r, S9)) : W p l e (rmh (d + 1 + 2)) s m args below meth c H locs 0 0 (MQ below (QW E (wX V E) (some (.int r)) S9) args s 0 0 (eA E)) (F0 m 0 ls []) := by
  have hx := C.1
  have hb := C.2.1
  unfold Li_run_B at hf
  refine lv_iload_n hx hb dX6_run_0 rfl (lv_at hl 1 rfl) ?_
  refine lv_iload_n hx hb dX6_run_1 rfl (lv_at hl 2 rfl) ?_
  obtain ⟨r1, hr, hf⟩ := hf_1 hf
  refine inv_Si (As := [.int p1, .int p2]) lk_X6_47 C hw (t_Li_kindWith hr) hl.1 dX6_run_2 rfl (by omega) (by decide) (Nat.le_of_ble_eq_true rfl) rfl (fun H locs hw => ?_)
  refine lv_istore (lv' := [(5, .int r1), (0, .ref (ea E 9)), (1, .int p1), (2, .int p2), (3, .int p3), (4, .int p4)]) hx hb dX6_run_5 hl (by decide) rfl (fun ls hl => ?_)
  refine lv_iload hx hb dX6_run_7 (lv_at hl 0 rfl) ?_
  refine lv_if_lt (tgt := 19) hx hb dX6_run_9 (by decide) (fun q => ?_) (fun q => ?_)
  · have hf := hf_t q hf
    refine lv_iconst (v := 0) hx hb dX6_run_19 kc_0 ?_
    exact ret_iS C hw dX6_run_20 hf
  · have hf := hf_f q hf
    refine lv_iload hx hb dX6_run_12 (lv_at hl 5 rfl) ?_
    refine lv_bipush (v := 30) hx hb dX6_run_14 kb_30 ?_
    refine lv_icmp_lt (tgt := 21) hx hb dX6_run_16 (by decide) (fun q => ?_) (fun q => ?_)
    · have hf := hf_t q hf
      refine gsO C hw q_1043 dX6_run_21 ?_
      refine lv_iload hx hb dX6_run_24 (lv_at hl 0 rfl) ?_
      refine lv_iconst (v := 4) hx hb dX6_run_26 kc_4 ?_
      refine lv_imul hx hb dX6_run_27 ?_
      refine lv_iload_n hx hb dX6_run_28 rfl (lv_at hl 3 rfl) ?_
      refine lv_iadd hx hb dX6_run_29 ?_
      obtain ⟨hc, hf⟩ := hf_ck hf
      refine ldO C hw hc dX6_run_30 ?_
      refine nm_i hf (fun x2 hf => ?_)
      refine lv_istore (lv' := [(6, .int x2), (5, .int r1), (0, .ref (ea E 9)), (1, .int p1), (2, .int p2), (3, .int p3), (4, .int p4)]) hx hb dX6_run_31 hl (by decide) rfl (fun ls hl => ?_)
      refine lv_aload_n hx hb dX6_run_33 rfl (lv_at hl 2 rfl) ?_
      refine lv_iload hx hb dX6_run_34 (lv_at hl 0 rfl) ?_
      obtain ⟨S3, hr, hf⟩ := hf_1 hf
      refine inv_Vv (q0 := 9) (ci := 6) (As := [.int x2]) lk_X6_54 C hw rfl rfl rfl (t_Li_note hr) rfl hl.1 dX6_run_36 rfl (by omega) (by decide) (Nat.le_of_ble_eq_true rfl) rfl (fun H locs hw => ?_)
      refine lv_iload hx hb dX6_run_39 (lv_at hl 6 rfl) ?_
      refine lv_iconst (v := 1) hx hb dX6_run_41 kc_1 ?_
      refine lv_iadd hx hb dX6_run_42 ?_
      refine nm_i hf (fun x4 hf => ?_)
      refine lv_istore (lv' := [(7, .int x4), (6, .int x2), (5, .int r1), (0, .ref (ea E 9)), (1, .int p1), (2, .int p2), (3, .int p3), (4, .int p4)]) hx hb dX6_run_43 hl (by decide) rfl (fun ls hl => ?_)
      refine lv_iload hx hb dX6_run_45 (lv_at hl 1 rfl) ?_
      by_cases q0 : x2 = 1
      · have hf := hf_t q0 hf
        refine lv_lookup (off := 113) (tgt := 160) hx hb dX6_run_47 (by decide) (by rw [q0]; rfl) (by decide) ?_
        refine lv_iload_n hx hb dX6_run_160 rfl (lv_at hl 6 rfl) ?_
        refine lv_aload_n hx hb dX6_run_161 rfl (lv_at hl 3 rfl) ?_
        refine get_9_4 C hw q_244 dX6_run_162 ?_
        refine lv_iadd hx hb dX6_run_165 ?_
        exact ret_iS C hw dX6_run_166 hf
      have hf := hf_f q0 hf
      by_cases q1 : x2 = 2
      · have hf := hf_t q1 hf
        refine lv_lookup (off := 120) (tgt := 167) hx hb dX6_run_47 (by decide) (by rw [q1]; rfl) (by decide) ?_
        refine lv_aload_n hx hb dX6_run_167 rfl (lv_at hl 3 rfl) ?_
        refine lv_iconst (v := 1) hx hb dX6_run_168 kc_1 ?_
        refine lv_iload_n hx hb dX6_run_169 rfl (lv_at hl 6 rfl) ?_
        refine lv_iload hx hb dX6_run_170 (lv_at hl 0 rfl) ?_
        obtain ⟨r6, S5, hr, hf⟩ := hf_2 hf
        refine inv_Vi (q0 := 9) (ci := 6) (As := [.int (1 : Int32), .int p3, .int x4]) lk_X6_39 C hw rfl rfl rfl (hr_own hr) rfl hl.1 dX6_run_172 rfl (by omega) (by decide) (Nat.le_of_ble_eq_true rfl) rfl (fun H locs hw => ?_)
        refine lv_aload_n hx hb dX6_run_175 rfl (lv_at hl 3 rfl) ?_
        refine lv_iconst (v := 2) hx hb dX6_run_176 kc_2 ?_
        refine lv_iconst (v := 1) hx hb dX6_run_177 kc_1 ?_
        refine lv_iload hx hb dX6_run_178 (lv_at hl 0 rfl) ?_
        obtain ⟨r8, S7, hr, hf⟩ := hf_2 hf
        refine inv_Vi (q0 := 9) (ci := 6) (As := [.int (2 : Int32), .int (1 : Int32), .int x4]) lk_X6_39 C hw rfl rfl rfl (hr_own hr) rfl hl.1 dX6_run_180 rfl (by omega) (by decide) (Nat.le_of_ble_eq_true rfl) rfl (fun H locs hw => ?_)
        refine lv_isub hx hb dX6_run_183 ?_
        exact ret_iS C hw dX6_run_184 hf
      have hf := hf_f q1 hf
      by_cases q2 : x2 = 10
      · have hf := hf_t q2 hf
        refine lv_lookup (off := 138) (tgt := 185) hx hb dX6_run_47 (by decide) (by rw [q2]; rfl) (by decide) ?_
        refine lv_aload_n hx hb dX6_run_185 rfl (lv_at hl 3 rfl) ?_
        refine lv_iconst (v := 0) hx hb dX6_run_186 kc_0 ?_
        refine lv_iload_n hx hb dX6_run_187 rfl (lv_at hl 6 rfl) ?_
        refine lv_iload hx hb dX6_run_188 (lv_at hl 0 rfl) ?_
        obtain ⟨r10, S9, hr, hf⟩ := hf_2 hf
        refine inv_Vi (q0 := 9) (ci := 6) (As := [.int (0 : Int32), .int p3, .int x4]) lk_X6_39 C hw rfl rfl rfl (hr_own hr) rfl hl.1 dX6_run_190 rfl (by omega) (by decide) (Nat.le_of_ble_eq_true rfl) rfl (fun H locs hw => ?_)
        refine lv_iconst (v := 2) hx hb dX6_run_193 kc_2 ?_
        refine lv_imul hx hb dX6_run_194 ?_
        exact ret_iS C hw dX6_run_195 hf
      have hf := hf_f q2 hf
      by_cases q3 : x2 = 11
      · have hf := hf_t q3 hf
        refine lv_lookup (off := 149) (tgt := 196) hx hb dX6_run_47 (by decide) (by rw [q3]; rfl) (by decide) ?_
        refine lv_iload_n hx hb dX6_run_196 rfl (lv_at hl 6 rfl) ?_
        refine lv_aload_n hx hb dX6_run_197 rfl (lv_at hl 3 rfl) ?_
        refine get_9_4 C hw q_244 dX6_run_198 ?_
        refine lv_ixor hx hb dX6_run_201 ?_
        exact ret_iS C hw dX6_run_202 hf
      have hf := hf_f q3 hf
      by_cases q4 : x2 = 20
      · have hf := hf_t q4 hf
        refine lv_lookup (off := 156) (tgt := 203) hx hb dX6_run_47 (by decide) (by rw [q4]; rfl) (by decide) ?_
        refine lv_aload_n hx hb dX6_run_203 rfl (lv_at hl 3 rfl) ?_
        refine lv_iload hx hb dX6_run_204 (lv_at hl 2 rfl) ?_
        refine lv_iconst (v := 0) hx hb dX6_run_206 kc_0 ?_
        refine lv_iload_n hx hb dX6_run_207 rfl (lv_at hl 6 rfl) ?_
        refine lv_iload hx hb dX6_run_208 (lv_at hl 0 rfl) ?_
        obtain ⟨r12, S11, hr, hf⟩ := hf_2 hf
        refine inv_Vi (q0 := 9) (ci := 6) (As := [.int r1, .int (0 : Int32), .int p3, .int x4]) lk_X6_58 C hw rfl rfl rfl (hr_fromAbove hr) rfl hl.1 dX6_run_210 rfl (by omega) (by decide) (Nat.le_of_ble_eq_true rfl) rfl (fun H locs hw => ?_)
        refine lv_iconst (v := 3) hx hb dX6_run_213 kc_3 ?_
        refine lv_iadd hx hb dX6_run_214 ?_
        exact ret_iS C hw dX6_run_215 hf
      have hf := hf_f q4 hf
      by_cases q5 : x2 = 30
      · have hf := hf_t q5 hf
        refine lv_lookup (off := 169) (tgt := 216) hx hb dX6_run_47 (by decide) (by rw [q5]; rfl) (by decide) ?_
        refine lv_aload_n hx hb dX6_run_216 rfl (lv_at hl 3 rfl) ?_
        refine lv_iload hx hb dX6_run_217 (lv_at hl 2 rfl) ?_
        refine lv_iconst (v := 1) hx hb dX6_run_219 kc_1 ?_
        refine lv_iload_n hx hb dX6_run_220 rfl (lv_at hl 6 rfl) ?_
        refine lv_iload hx hb dX6_run_221 (lv_at hl 0 rfl) ?_
        obtain ⟨r14, S13, hr, hf⟩ := hf_2 hf
        refine inv_Vi (q0 := 9) (ci := 6) (As := [.int r1, .int (1 : Int32), .int p3, .int x4]) lk_X6_58 C hw rfl rfl rfl (hr_fromAbove hr) rfl hl.1 dX6_run_223 rfl (by omega) (by decide) (Nat.le_of_ble_eq_true rfl) rfl (fun H locs hw => ?_)
        refine lv_ineg hx hb dX6_run_226 ?_
        exact ret_iS C hw dX6_run_227 hf
      have hf := hf_f q5 hf
      by_cases q6 : x2 = 40
      · have hf := hf_t q6 hf
        refine lv_lookup (off := 181) (tgt := 228) hx hb dX6_run_47 (by decide) (by rw [q6]; rfl) (by decide) ?_
        refine lv_aload_n hx hb dX6_run_228 rfl (lv_at hl 3 rfl) ?_
        refine lv_iload hx hb dX6_run_229 (lv_at hl 2 rfl) ?_
        refine lv_iconst (v := 2) hx hb dX6_run_231 kc_2 ?_
        refine lv_iload_n hx hb dX6_run_232 rfl (lv_at hl 6 rfl) ?_
        refine lv_iload hx hb dX6_run_233 (lv_at hl 0 rfl) ?_
        obtain ⟨r16, S15, hr, hf⟩ := hf_2 hf
        refine inv_Vi (q0 := 9) (ci := 6) (As := [.int r1, .int (2 : Int32), .int p3, .int x4]) lk_X6_58 C hw rfl rfl rfl (hr_fromAbove hr) rfl hl.1 dX6_run_235 rfl (by omega) (by decide) (Nat.le_of_ble_eq_true rfl) rfl (fun H locs hw => ?_)
        refine lv_iconst (v := 3) hx hb dX6_run_238 kc_3 ?_
        refine lv_imul hx hb dX6_run_239 ?_
        exact ret_iS C hw dX6_run_240 hf
      have hf := hf_f q6 hf
      by_cases q7 : x2 = 41
      · have hf := hf_t q7 hf
        refine lv_lookup (off := 194) (tgt := 241) hx hb dX6_run_47 (by decide) (by rw [q7]; rfl) (by decide) ?_
        refine lv_aload_n hx hb dX6_run_241 rfl (lv_at hl 3 rfl) ?_
        refine lv_iload hx hb dX6_run_242 (lv_at hl 2 rfl) ?_
        refine lv_iconst (v := 1) hx hb dX6_run_244 kc_1 ?_
        refine lv_iload_n hx hb dX6_run_245 rfl (lv_at hl 6 rfl) ?_
        refine lv_iconst (v := 1) hx hb dX6_run_246 kc_1 ?_
        refine lv_iadd hx hb dX6_run_247 ?_
        refine lv_iload hx hb dX6_run_248 (lv_at hl 0 rfl) ?_
        obtain ⟨r18, S17, hr, hf⟩ := hf_2 hf
        refine inv_Vi (q0 := 9) (ci := 6) (As := [.int r1, .int (1 : Int32), .int (p3 + (1 : Int32)), .int x4]) lk_X6_58 C hw rfl rfl rfl (hr_fromAbove hr) rfl hl.1 dX6_run_250 rfl (by omega) (by decide) (Nat.le_of_ble_eq_true rfl) rfl (fun H locs hw => ?_)
        exact ret_iS C hw dX6_run_253 hf
      have hf := hf_f q7 hf
      by_cases q8 : x2 = 50
      · have hf := hf_t q8 hf
        refine lv_lookup (off := 207) (tgt := 254) hx hb dX6_run_47 (by decide) (by rw [q8]; rfl) (by decide) ?_
        refine lv_aload_n hx hb dX6_run_254 rfl (lv_at hl 3 rfl) ?_
        refine lv_iload hx hb dX6_run_255 (lv_at hl 2 rfl) ?_
        refine lv_iconst (v := 2) hx hb dX6_run_257 kc_2 ?_
        refine lv_iload_n hx hb dX6_run_258 rfl (lv_at hl 6 rfl) ?_
        refine lv_iload hx hb dX6_run_259 (lv_at hl 0 rfl) ?_
        obtain ⟨r20, S19, hr, hf⟩ := hf_2 hf
        refine inv_Vi (q0 := 9) (ci := 6) (As := [.int r1, .int (2 : Int32), .int p3, .int x4]) lk_X6_58 C hw rfl rfl rfl (hr_fromAbove hr) rfl hl.1 dX6_run_261 rfl (by omega) (by decide) (Nat.le_of_ble_eq_true rfl) rfl (fun H locs hw => ?_)
        refine lv_aload_n hx hb dX6_run_264 rfl (lv_at hl 3 rfl) ?_
        refine lv_iconst (v := 0) hx hb dX6_run_265 kc_0 ?_
        refine lv_iconst (v := 2) hx hb dX6_run_266 kc_2 ?_
        refine lv_iload hx hb dX6_run_267 (lv_at hl 0 rfl) ?_
        obtain ⟨r22, S21, hr, hf⟩ := hf_2 hf
        refine inv_Vi (q0 := 9) (ci := 6) (As := [.int (0 : Int32), .int (2 : Int32), .int x4]) lk_X6_39 C hw rfl rfl rfl (hr_own hr) rfl hl.1 dX6_run_269 rfl (by omega) (by decide) (Nat.le_of_ble_eq_true rfl) rfl (fun H locs hw => ?_)
        refine lv_isub hx hb dX6_run_272 ?_
        exact ret_iS C hw dX6_run_273 hf
      have hf := hf_f q8 hf
      by_cases q9 : x2 = 60
      · have hf := hf_t q9 hf
        refine lv_lookup (off := 227) (tgt := 274) hx hb dX6_run_47 (by decide) (by rw [q9]; rfl) (by decide) ?_
        refine lv_aload_n hx hb dX6_run_274 rfl (lv_at hl 3 rfl) ?_
        refine lv_iload hx hb dX6_run_275 (lv_at hl 2 rfl) ?_
        refine lv_iconst (v := 3) hx hb dX6_run_277 kc_3 ?_
        refine lv_iload_n hx hb dX6_run_278 rfl (lv_at hl 6 rfl) ?_
        refine lv_iload hx hb dX6_run_279 (lv_at hl 0 rfl) ?_
        obtain ⟨r24, S23, hr, hf⟩ := hf_2 hf
        refine inv_Vi (q0 := 9) (ci := 6) (As := [.int r1, .int (3 : Int32), .int p3, .int x4]) lk_X6_58 C hw rfl rfl rfl (hr_fromAbove hr) rfl hl.1 dX6_run_281 rfl (by omega) (by decide) (Nat.le_of_ble_eq_true rfl) rfl (fun H locs hw => ?_)
        refine lv_iconst (v := 5) hx hb dX6_run_284 kc_5 ?_
        refine lv_ixor hx hb dX6_run_285 ?_
        exact ret_iS C hw dX6_run_286 hf
      have hf := hf_f q9 hf
      by_cases q10 : x2 = 70
      · have hf := hf_t q10 hf
        refine lv_lookup (off := 240) (tgt := 287) hx hb dX6_run_47 (by decide) (by rw [q10]; rfl) (by decide) ?_
        refine lv_aload_n hx hb dX6_run_287 rfl (lv_at hl 3 rfl) ?_
        refine lv_iload hx hb dX6_run_288 (lv_at hl 2 rfl) ?_
        refine lv_iconst (v := 0) hx hb dX6_run_290 kc_0 ?_
        refine lv_iload_n hx hb dX6_run_291 rfl (lv_at hl 6 rfl) ?_
        refine lv_iload hx hb dX6_run_292 (lv_at hl 0 rfl) ?_
        obtain ⟨r26, S25, hr, hf⟩ := hf_2 hf
        refine inv_Vi (q0 := 9) (ci := 6) (As := [.int r1, .int (0 : Int32), .int p3, .int x4]) lk_X6_58 C hw rfl rfl rfl (hr_fromAbove hr) rfl hl.1 dX6_run_294 rfl (by omega) (by decide) (Nat.le_of_ble_eq_true rfl) rfl (fun H locs hw => ?_)
        refine lv_iconst (v := 2) hx hb dX6_run_297 kc_2 ?_
        refine lv_imul hx hb dX6_run_298 ?_
        exact ret_iS C hw dX6_run_299 hf
      have hf := hf_f q10 hf
      by_cases q11 : x2 = 80
      · have hf := hf_t q11 hf
        refine lv_lookup (off := 253) (tgt := 300) hx hb dX6_run_47 (by decide) (by rw [q11]; rfl) (by decide) ?_
        refine lv_aload_n hx hb dX6_run_300 rfl (lv_at hl 3 rfl) ?_
        refine lv_iload hx hb dX6_run_301 (lv_at hl 2 rfl) ?_
        refine lv_iconst (v := 1) hx hb dX6_run_303 kc_1 ?_
        refine lv_iload_n hx hb dX6_run_304 rfl (lv_at hl 6 rfl) ?_
        refine lv_iload hx hb dX6_run_305 (lv_at hl 0 rfl) ?_
        obtain ⟨r28, S27, hr, hf⟩ := hf_2 hf
        refine inv_Vi (q0 := 9) (ci := 6) (As := [.int r1, .int (1 : Int32), .int p3, .int x4]) lk_X6_58 C hw rfl rfl rfl (hr_fromAbove hr) rfl hl.1 dX6_run_307 rfl (by omega) (by decide) (Nat.le_of_ble_eq_true rfl) rfl (fun H locs hw => ?_)
        refine lv_aload_n hx hb dX6_run_310 rfl (lv_at hl 3 rfl) ?_
        refine lv_iconst (v := 2) hx hb dX6_run_311 kc_2 ?_
        refine lv_iconst (v := 2) hx hb dX6_run_312 kc_2 ?_
        refine lv_iload hx hb dX6_run_313 (lv_at hl 0 rfl) ?_
        obtain ⟨r30, S29, hr, hf⟩ := hf_2 hf
        refine inv_Vi (q0 := 9) (ci := 6) (As := [.int (2 : Int32), .int (2 : Int32), .int x4]) lk_X6_39 C hw rfl rfl rfl (hr_own hr) rfl hl.1 dX6_run_315 rfl (by omega) (by decide) (Nat.le_of_ble_eq_true rfl) rfl (fun H locs hw => ?_)
        refine lv_iadd hx hb dX6_run_318 ?_
        exact ret_iS C hw dX6_run_319 hf
      have hf := hf_f q11 hf
      by_cases q12 : x2 = 81
      · have hf := hf_t q12 hf
        refine lv_lookup (off := 273) (tgt := 320) hx hb dX6_run_47 (by decide) (by rw [q12]; rfl) (by decide) ?_
        refine lv_aload_n hx hb dX6_run_320 rfl (lv_at hl 3 rfl) ?_
        refine lv_iload hx hb dX6_run_321 (lv_at hl 2 rfl) ?_
        refine lv_iconst (v := 3) hx hb dX6_run_323 kc_3 ?_
        refine lv_iload_n hx hb dX6_run_324 rfl (lv_at hl 6 rfl) ?_
        refine lv_iload hx hb dX6_run_325 (lv_at hl 0 rfl) ?_
        obtain ⟨r32, S31, hr, hf⟩ := hf_2 hf
        refine inv_Vi (q0 := 9) (ci := 6) (As := [.int r1, .int (3 : Int32), .int p3, .int x4]) lk_X6_58 C hw rfl rfl rfl (hr_fromAbove hr) rfl hl.1 dX6_run_327 rfl (by omega) (by decide) (Nat.le_of_ble_eq_true rfl) rfl (fun H locs hw => ?_)
        refine lv_iconst (v := 1) hx hb dX6_run_330 kc_1 ?_
        refine lv_isub hx hb dX6_run_331 ?_
        exact ret_iS C hw dX6_run_332 hf
      have hf := hf_f q12 hf
      refine lv_lookup (off := 286) (tgt := 333) hx hb dX6_run_47 (by decide) (by show Op.lookupswitch.offset [(1, 113), (2, 120), (10, 138), (11, 149), (20, 156), (30, 169), (40, 181), (41, 194), (50, 207), (60, 227), (70, 240), (80, 253), (81, 273)] 286 _ = _; rw [lv_osw (a := 1) q0 rfl, lv_osw (a := 2) q1 rfl, lv_osw (a := 10) q2 rfl, lv_osw (a := 11) q3 rfl, lv_osw (a := 20) q4 rfl, lv_osw (a := 30) q5 rfl, lv_osw (a := 40) q6 rfl, lv_osw (a := 41) q7 rfl, lv_osw (a := 50) q8 rfl, lv_osw (a := 60) q9 rfl, lv_osw (a := 70) q10 rfl, lv_osw (a := 80) q11 rfl, lv_osw (a := 81) q12 rfl]; rfl) (by decide) ?_
      refine lv_iconst (v := 0) hx hb dX6_run_333 kc_0 ?_
      exact ret_iS C hw dX6_run_334 hf
    · have hf := hf_f q hf
      refine lv_iconst (v := 0) hx hb dX6_run_19 kc_0 ?_
      exact ret_iS C hw dX6_run_20 hf
end
theorem g_Li_fromAbove {l : Launch} {V : St} {N : Nat} : ∀ d : Nat, (∀ {S : St} {p1 : Int32} {p2 : Int32} {p3 : Int32} {p4 : Int32} {r : Int32} {S9 : St}, Li_fromAbove N d S p1 p2 p3 p4 = some (r, S9) → Ct l (wX V) yX6_fromAbove cX6_fromAbove 5 (some .int) (d + 2) (fun E => [.ref (ea E 9), .int p1, .int p2, .int p3, .int p4]) S (fun E => some (.int r)) S9) ∧ (∀ {S : St} {p1 : Int32} {p2 : Int32} {p3 : Int32} {r : Int32} {S9 : St}, Li_own N d S p1 p2 p3 = some (r, S9) → Ct l (wX V) yX6_own cX6_own 4 (some .int) (d + 2) (fun E => [.ref (ea E 9), .int p1, .int p2, .int p3]) S (fun E => some (.int r)) S9) ∧ (∀ {S : St} {p1 : Int32} {p2 : Int32} {p3 : Int32} {p4 : Int32} {r : Int32} {S9 : St}, Li_run N d S p1 p2 p3 p4 = some (r, S9) → Ct l (wX V) yX6_run cX6_run 8 (some .int) (d + 2) (fun E => [.ref (ea E 9), .int p1, .int p2, .int p3, .int p4]) S (fun E => some (.int r)) S9) := by
  intro d
  induction d with
  | zero => exact ⟨(by intros; rename_i hf; cases hf), (by intros; rename_i hf; cases hf), (by intros; rename_i hf; cases hf)⟩
  | succ d ih =>
    obtain ⟨h0, h1, h2⟩ := ih
    exact ⟨(by intros; rename_i hf; exact ofBlock (by decide +kernel) (fun _ => Nat.le_of_ble_eq_true rfl) (fun E p e s m args below meth c ls C hw hl => w_Li_fromAbove_B (N := N) (d := d) (f_fromAbove := Li_fromAbove N d) (f_own := Li_own N d) (f_run := Li_run N d) C h0 h1 h2 hw hl hf)),
     (by intros; rename_i hf; exact ofBlock (by decide +kernel) (fun _ => Nat.le_of_ble_eq_true rfl) (fun E p e s m args below meth c ls C hw hl => w_Li_own_B (N := N) (d := d) (f_fromAbove := Li_fromAbove N d) (f_own := Li_own N d) (f_run := Li_run N d) C h0 h1 h2 hw hl hf)),
     (by intros; rename_i hf; exact ofBlock (by decide +kernel) (fun _ => Nat.le_of_ble_eq_true rfl) (fun E p e s m args below meth c ls C hw hl => w_Li_run_B (N := N) (d := d) (f_fromAbove := Li_fromAbove N d) (f_own := Li_own N d) (f_run := Li_run N d) C h0 h1 h2 hw hl hf))⟩
theorem t_Li_fromAbove {l : Launch} {V : St} {N : Nat} {S : St} {p1 : Int32} {p2 : Int32} {p3 : Int32} {p4 : Int32} {r : Int32} {S9 : St} (hf : Li_fromAbove N N S p1 p2 p3 p4 = some (r, S9)) : Ct l (wX V) yX6_fromAbove cX6_fromAbove 5 (some .int) (N + 2) (fun E => [.ref (ea E 9), .int p1, .int p2, .int p3, .int p4]) S (fun E => some (.int r)) S9 := ((g_Li_fromAbove (l := l) (V := V) (N := N) N).1) hf
theorem t_Li_own {l : Launch} {V : St} {N : Nat} {S : St} {p1 : Int32} {p2 : Int32} {p3 : Int32} {r : Int32} {S9 : St} (hf : Li_own N N S p1 p2 p3 = some (r, S9)) : Ct l (wX V) yX6_own cX6_own 4 (some .int) (N + 2) (fun E => [.ref (ea E 9), .int p1, .int p2, .int p3]) S (fun E => some (.int r)) S9 := ((g_Li_fromAbove (l := l) (V := V) (N := N) N).2.1) hf
theorem t_Li_run {l : Launch} {V : St} {N : Nat} {S : St} {p1 : Int32} {p2 : Int32} {p3 : Int32} {p4 : Int32} {r : Int32} {S9 : St} (hf : Li_run N N S p1 p2 p3 p4 = some (r, S9)) : Ct l (wX V) yX6_run cX6_run 8 (some .int) (N + 2) (fun E => [.ref (ea E 9), .int p1, .int p2, .int p3, .int p4]) S (fun E => some (.int r)) S9 := ((g_Li_fromAbove (l := l) (V := V) (N := N) N).2.2) hf
theorem dX6_perform_0 : decode cX6_perform 0 = .ok (.aload_n 0, 1) := by decide +kernel
theorem dX6_perform_1 : decode cX6_perform 1 = .ok (.iconst 0, 1) := by decide +kernel
theorem dX6_perform_2 : decode cX6_perform 2 = .ok (.putfield 29, 3) := by decide +kernel
theorem dX6_perform_5 : decode cX6_perform 5 = .ok (.aload_n 0, 1) := by decide +kernel
theorem dX6_perform_6 : decode cX6_perform 6 = .ok (.iload_n 1, 1) := by decide +kernel
theorem dX6_perform_7 : decode cX6_perform 7 = .ok (.invokevirtual 22, 3) := by decide +kernel
theorem dX6_perform_10 : decode cX6_perform 10 = .ok (.ifCond .eq 12, 3) := by decide +kernel
theorem dX6_perform_13 : decode cX6_perform 13 = .ok (.iload_n 2, 1) := by decide +kernel
theorem dX6_perform_14 : decode cX6_perform 14 = .ok (.iconst 0, 1) := by decide +kernel
theorem dX6_perform_15 : decode cX6_perform 15 = .ok (.iconst 3, 1) := by decide +kernel
theorem dX6_perform_16 : decode cX6_perform 16 = .ok (.invokestatic 32, 3) := by decide +kernel
theorem dX6_perform_19 : decode cX6_perform 19 = .ok (.ifCond .ne 5, 3) := by decide +kernel
theorem dX6_perform_22 : decode cX6_perform 22 = .ok (.iconst 0, 1) := by decide +kernel
theorem dX6_perform_23 : decode cX6_perform 23 = .ok (.ireturn, 1) := by decide +kernel
theorem dX6_perform_24 : decode cX6_perform 24 = .ok (.aload_n 0, 1) := by decide +kernel
theorem dX6_perform_25 : decode cX6_perform 25 = .ok (.iload_n 1, 1) := by decide +kernel
theorem dX6_perform_26 : decode cX6_perform 26 = .ok (.putfield 36, 3) := by decide +kernel
theorem dX6_perform_29 : decode cX6_perform 29 = .ok (.aload_n 0, 1) := by decide +kernel
theorem dX6_perform_30 : decode cX6_perform 30 = .ok (.iload_n 2, 1) := by decide +kernel
theorem dX6_perform_31 : decode cX6_perform 31 = .ok (.iload_n 3, 1) := by decide +kernel
theorem dX6_perform_32 : decode cX6_perform 32 = .ok (.iconst 0, 1) := by decide +kernel
theorem dX6_perform_33 : decode cX6_perform 33 = .ok (.invokevirtual 39, 3) := by decide +kernel
theorem dX6_perform_36 : decode cX6_perform 36 = .ok (.ireturn, 1) := by decide +kernel
section
variable {p : Program} {l : Launch} {e : Env} {s : State} {m : MethodId} {args : Array Value} {below : List Frame} {meth : Method} {c : Code} {H : Heap} {locs : List Loc} {E : Ev} {S V : St} {ls : Array Slot}
set_option maxRecDepth 20000 in
theorem w_Li_perform {N : Nat} {p1 : Int32} {p2 : Int32} {p3 : Int32} {r : Int32} {S9 : St} (C : Cx p s m args meth c E cX6_perform 4 RX6 (some .int)) (hw : Wd E (wX V E) s.heap S H locs) (hl : lv_has ls 4 [(0, .ref (ea E 9)), (1, .int p1), (2, .int p2), (3, .int p3)]) (hf : Li_perform N S p1 p2 p3 = some (r, S9)) : W p l e (rmh (N + 3)) s m args below meth c H locs 0 0 (MQ below (QW E (wX V E) (some (.int r)) S9) args s 0 0 (eA E)) (F0 m 0 ls []) := by
  have hx := C.1
  have hb := C.2.1
  unfold Li_perform at hf
  refine lv_aload_n hx hb dX6_perform_0 rfl (lv_at hl 0 rfl) ?_
  refine lv_iconst (v := 0) hx hb dX6_perform_1 kc_0 ?_
  refine put_9_1 C hw q_239 dX6_perform_2 (fun H locs hw => ?_)
  refine nm_S hf hw (fun S1 hf hw => ?_)
  refine lv_aload_n hx hb dX6_perform_5 rfl (lv_at hl 0 rfl) ?_
  refine lv_iload_n hx hb dX6_perform_6 rfl (lv_at hl 1 rfl) ?_
  obtain ⟨r2, hr, hf⟩ := hf_1 hf
  refine inv_Vi (q0 := 9) (ci := 6) (As := [.int p1]) lk_X6_22 C hw rfl rfl rfl (t_Li_isBody hr) rfl hl.1 dX6_perform_7 rfl (Nat.le_of_ble_eq_true rfl) (by decide) (Nat.le_of_ble_eq_true rfl) rfl (fun H locs hw => ?_)
  refine lv_if_eq (tgt := 22) hx hb dX6_perform_10 (by decide) (fun q => ?_) (fun q => ?_)
  · have hf := hf_t q hf
    refine lv_iconst (v := 0) hx hb dX6_perform_22 kc_0 ?_
    exact ret_iS C hw dX6_perform_23 hf
  · have hf := hf_f q hf
    refine lv_iload_n hx hb dX6_perform_13 rfl (lv_at hl 2 rfl) ?_
    refine lv_iconst (v := 0) hx hb dX6_perform_14 kc_0 ?_
    refine lv_iconst (v := 3) hx hb dX6_perform_15 kc_3 ?_
    obtain ⟨r3, hr, hf⟩ := hf_1 hf
    refine inv_Ni (As := [.int p2, .int (0 : Int32), .int (3 : Int32)]) lk_X6_32 C hw (t_Ch_within hr) hl.1 dX6_perform_16 rfl (Nat.le_of_ble_eq_true rfl) (by decide) (Nat.le_of_ble_eq_true rfl) rfl (fun H locs hw => ?_)
    refine lv_if_ne (tgt := 24) hx hb dX6_perform_19 (by decide) (fun q => ?_) (fun q => ?_)
    · have hf := hf_f q hf
      refine lv_aload_n hx hb dX6_perform_24 rfl (lv_at hl 0 rfl) ?_
      refine lv_iload_n hx hb dX6_perform_25 rfl (lv_at hl 1 rfl) ?_
      refine put_9_4 C hw q_244 dX6_perform_26 (fun H locs hw => ?_)
      refine nm_S hf hw (fun S4 hf hw => ?_)
      refine lv_aload_n hx hb dX6_perform_29 rfl (lv_at hl 0 rfl) ?_
      refine lv_iload_n hx hb dX6_perform_30 rfl (lv_at hl 2 rfl) ?_
      refine lv_iload_n hx hb dX6_perform_31 rfl (lv_at hl 3 rfl) ?_
      refine lv_iconst (v := 0) hx hb dX6_perform_32 kc_0 ?_
      obtain ⟨r6, S5, hr, hf⟩ := hf_2 hf
      refine inv_Vi (q0 := 9) (ci := 6) (As := [.int p2, .int p3, .int (0 : Int32)]) lk_X6_39 C hw rfl rfl rfl (t_Li_own hr) rfl hl.1 dX6_perform_33 rfl (by omega) (by decide) (Nat.le_of_ble_eq_true rfl) rfl (fun H locs hw => ?_)
      exact ret_iS C hw dX6_perform_36 hf
    · have hf := hf_t q hf
      refine lv_iconst (v := 0) hx hb dX6_perform_22 kc_0 ?_
      exact ret_iS C hw dX6_perform_23 hf
end
theorem t_Li_perform {l : Launch} {V : St} {N : Nat} {S : St} {p1 : Int32} {p2 : Int32} {p3 : Int32} {r : Int32} {S9 : St} (hf : Li_perform N S p1 p2 p3 = some (r, S9)) : Ct l (wX V) yX6_perform cX6_perform 4 (some .int) (N + 3) (fun E => [.ref (ea E 9), .int p1, .int p2, .int p3]) S (fun E => some (.int r)) S9 :=
  ofBlock (by decide +kernel) (fun _ => Nat.le_of_ble_eq_true rfl) (fun E p e s m args below meth c ls C hw hl => w_Li_perform C hw hl hf)
theorem dX7_isShelf_0 : decode cX7_isShelf 0 = .ok (.iload_n 1, 1) := by decide +kernel
theorem dX7_isShelf_1 : decode cX7_isShelf 1 = .ok (.ifCond .lt 13, 3) := by decide +kernel
theorem dX7_isShelf_4 : decode cX7_isShelf 4 = .ok (.iload_n 1, 1) := by decide +kernel
theorem dX7_isShelf_5 : decode cX7_isShelf 5 = .ok (.bipush 6, 2) := by decide +kernel
theorem dX7_isShelf_7 : decode cX7_isShelf 7 = .ok (.if_icmp .ge 7, 3) := by decide +kernel
theorem dX7_isShelf_10 : decode cX7_isShelf 10 = .ok (.iconst 1, 1) := by decide +kernel
theorem dX7_isShelf_11 : decode cX7_isShelf 11 = .ok (.goto 4, 3) := by decide +kernel
theorem dX7_isShelf_14 : decode cX7_isShelf 14 = .ok (.iconst 0, 1) := by decide +kernel
theorem dX7_isShelf_15 : decode cX7_isShelf 15 = .ok (.ireturn, 1) := by decide +kernel
section
variable {p : Program} {l : Launch} {e : Env} {s : State} {m : MethodId} {args : Array Value} {below : List Frame} {meth : Method} {c : Code} {H : Heap} {locs : List Loc} {E : Ev} {S V : St} {ls : Array Slot}
set_option maxRecDepth 20000 in
theorem w_Sh_isShelf {p1 : Int32} {r : Int32} (C : Cx p s m args meth c E cX7_isShelf 2 RX7 (some .boolean)) (hw : Wd E (wX V E) s.heap S H locs) (hl : lv_has ls 2 [(0, .ref (ea E 10)), (1, .int p1)]) (hf : Sh_isShelf S p1 = some r) : W p l e (rmh 1) s m args below meth c H locs 0 0 (MQ below (QW E (wX V E) (some (.int r)) S) args s 0 0 (eA E)) (F0 m 0 ls []) := by
  have hx := C.1
  have hb := C.2.1
  unfold Sh_isShelf at hf
  refine lv_iload_n hx hb dX7_isShelf_0 rfl (lv_at hl 1 rfl) ?_
  refine lv_if_lt (tgt := 14) hx hb dX7_isShelf_1 (by decide) (fun q => ?_) (fun q => ?_)
  · have hf := hf_t q hf
    refine lv_iconst (v := 0) hx hb dX7_isShelf_14 kc_0 ?_
    exact ret_z rfl C hw dX7_isShelf_15 hf
  · have hf := hf_f q hf
    refine lv_iload_n hx hb dX7_isShelf_4 rfl (lv_at hl 1 rfl) ?_
    refine lv_bipush (v := 6) hx hb dX7_isShelf_5 kb_6 ?_
    refine lv_icmp_ge (tgt := 14) hx hb dX7_isShelf_7 (by decide) (fun q => ?_) (fun q => ?_)
    · have hf := hf_t q hf
      refine lv_iconst (v := 0) hx hb dX7_isShelf_14 kc_0 ?_
      exact ret_z rfl C hw dX7_isShelf_15 hf
    · have hf := hf_f q hf
      refine lv_iconst (v := 1) hx hb dX7_isShelf_10 kc_1 ?_
      refine lv_goto (tgt := 15) hx hb dX7_isShelf_11 (by decide) ?_
      exact ret_z rfl C hw dX7_isShelf_15 hf
end
theorem t_Sh_isShelf {l : Launch} {V : St} {S : St} {p1 : Int32} {r : Int32} (hf : Sh_isShelf S p1 = some r) : Ct l (wX V) yX7_isShelf cX7_isShelf 2 (some .boolean) 1 (fun E => [.ref (ea E 10), .int p1]) S (fun E => some (.int r)) S :=
  ofBlock (by decide +kernel) (fun _ => Nat.le_of_ble_eq_true rfl) (fun E p e s m args below meth c ls C hw hl => w_Sh_isShelf C hw hl hf)
theorem dX7_clear_0 : decode cX7_clear 0 = .ok (.aload_n 0, 1) := by decide +kernel
theorem dX7_clear_1 : decode cX7_clear 1 = .ok (.getfield 18, 3) := by decide +kernel
theorem dX7_clear_4 : decode cX7_clear 4 = .ok (.iload_n 1, 1) := by decide +kernel
theorem dX7_clear_5 : decode cX7_clear 5 = .ok (.iconst (-1), 1) := by decide +kernel
theorem dX7_clear_6 : decode cX7_clear 6 = .ok (.iastore, 1) := by decide +kernel
theorem dX7_clear_7 : decode cX7_clear 7 = .ok (.iconst 1, 1) := by decide +kernel
theorem dX7_clear_8 : decode cX7_clear 8 = .ok (.ireturn, 1) := by decide +kernel
section
variable {p : Program} {l : Launch} {e : Env} {s : State} {m : MethodId} {args : Array Value} {below : List Frame} {meth : Method} {c : Code} {H : Heap} {locs : List Loc} {E : Ev} {S V : St} {ls : Array Slot}
set_option maxRecDepth 20000 in
theorem w_Sh_clear {p1 : Int32} {r : Int32} {S9 : St} (C : Cx p s m args meth c E cX7_clear 2 RX7 (some .int)) (hw : Wd E (wX V E) s.heap S H locs) (hl : lv_has ls 2 [(0, .ref (ea E 10)), (1, .int p1)]) (hf : Sh_clear S p1 = some (r, S9)) : W p l e (rmh 1) s m args below meth c H locs 0 0 (MQ below (QW E (wX V E) (some (.int r)) S9) args s 0 0 (eA E)) (F0 m 0 ls []) := by
  have hx := C.1
  have hb := C.2.1
  unfold Sh_clear at hf
  refine lv_aload_n hx hb dX7_clear_0 rfl (lv_at hl 0 rfl) ?_
  refine get_10_2 C hw q_219 dX7_clear_1 ?_
  refine lv_iload_n hx hb dX7_clear_4 rfl (lv_at hl 1 rfl) ?_
  refine lv_iconst (v := -1) hx hb dX7_clear_5 kc_m1 ?_
  obtain ⟨hc, hf⟩ := hf_ck hf
  refine st_42 C hw hc dX7_clear_6 (fun H locs hw => ?_)
  refine nm_S hf hw (fun S1 hf hw => ?_)
  refine lv_iconst (v := 1) hx hb dX7_clear_7 kc_1 ?_
  exact ret_iS C hw dX7_clear_8 hf
end
theorem t_Sh_clear {l : Launch} {V : St} {S : St} {p1 : Int32} {r : Int32} {S9 : St} (hf : Sh_clear S p1 = some (r, S9)) : Ct l (wX V) yX7_clear cX7_clear 2 (some .int) 1 (fun E => [.ref (ea E 10), .int p1]) S (fun E => some (.int r)) S9 :=
  ofBlock (by decide +kernel) (fun _ => Nat.le_of_ble_eq_true rfl) (fun E p e s m args below meth c ls C hw hl => w_Sh_clear C hw hl hf)
