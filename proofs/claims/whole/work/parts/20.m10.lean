theorem dX10_promisesFromRow_0 : decode cX10_promisesFromRow 0 = .ok (.iconst 0, 1) := by decide +kernel
theorem dX10_promisesFromRow_1 : decode cX10_promisesFromRow 1 = .ok (.istore 4, 2) := by decide +kernel
theorem dX10_promisesFromRow_3 : decode cX10_promisesFromRow 3 = .ok (.iload 4, 2) := by decide +kernel
theorem dX10_promisesFromRow_5 : decode cX10_promisesFromRow 5 = .ok (.iload_n 3, 1) := by decide +kernel
theorem dX10_promisesFromRow_6 : decode cX10_promisesFromRow 6 = .ok (.if_icmp .ge 140, 3) := by decide +kernel
theorem dX10_promisesFromRow_9 : decode cX10_promisesFromRow 9 = .ok (.aload_n 0, 1) := by decide +kernel
theorem dX10_promisesFromRow_10 : decode cX10_promisesFromRow 10 = .ok (.getfield 10, 3) := by decide +kernel
theorem dX10_promisesFromRow_13 : decode cX10_promisesFromRow 13 = .ok (.invokevirtual 99, 3) := by decide +kernel
theorem dX10_promisesFromRow_16 : decode cX10_promisesFromRow 16 = .ok (.ifCond .ne 130, 3) := by decide +kernel
theorem dX10_promisesFromRow_19 : decode cX10_promisesFromRow 19 = .ok (.aload_n 0, 1) := by decide +kernel
theorem dX10_promisesFromRow_20 : decode cX10_promisesFromRow 20 = .ok (.getfield 26, 3) := by decide +kernel
theorem dX10_promisesFromRow_23 : decode cX10_promisesFromRow 23 = .ok (.iload_n 1, 1) := by decide +kernel
theorem dX10_promisesFromRow_24 : decode cX10_promisesFromRow 24 = .ok (.iload_n 2, 1) := by decide +kernel
theorem dX10_promisesFromRow_25 : decode cX10_promisesFromRow 25 = .ok (.iconst 4, 1) := by decide +kernel
theorem dX10_promisesFromRow_26 : decode cX10_promisesFromRow 26 = .ok (.iload 4, 2) := by decide +kernel
theorem dX10_promisesFromRow_28 : decode cX10_promisesFromRow 28 = .ok (.imul, 1) := by decide +kernel
theorem dX10_promisesFromRow_29 : decode cX10_promisesFromRow 29 = .ok (.iconst 4, 1) := by decide +kernel
theorem dX10_promisesFromRow_30 : decode cX10_promisesFromRow 30 = .ok (.iadd, 1) := by decide +kernel
theorem dX10_promisesFromRow_31 : decode cX10_promisesFromRow 31 = .ok (.invokevirtual 118, 3) := by decide +kernel
theorem dX10_promisesFromRow_34 : decode cX10_promisesFromRow 34 = .ok (.ifCond .eq 112, 3) := by decide +kernel
theorem dX10_promisesFromRow_37 : decode cX10_promisesFromRow 37 = .ok (.iload_n 2, 1) := by decide +kernel
theorem dX10_promisesFromRow_38 : decode cX10_promisesFromRow 38 = .ok (.iconst 4, 1) := by decide +kernel
theorem dX10_promisesFromRow_39 : decode cX10_promisesFromRow 39 = .ok (.iload 4, 2) := by decide +kernel
theorem dX10_promisesFromRow_41 : decode cX10_promisesFromRow 41 = .ok (.imul, 1) := by decide +kernel
theorem dX10_promisesFromRow_42 : decode cX10_promisesFromRow 42 = .ok (.iadd, 1) := by decide +kernel
theorem dX10_promisesFromRow_43 : decode cX10_promisesFromRow 43 = .ok (.istore 5, 2) := by decide +kernel
theorem dX10_promisesFromRow_45 : decode cX10_promisesFromRow 45 = .ok (.aload_n 0, 1) := by decide +kernel
theorem dX10_promisesFromRow_46 : decode cX10_promisesFromRow 46 = .ok (.getfield 26, 3) := by decide +kernel
theorem dX10_promisesFromRow_49 : decode cX10_promisesFromRow 49 = .ok (.iload_n 1, 1) := by decide +kernel
theorem dX10_promisesFromRow_50 : decode cX10_promisesFromRow 50 = .ok (.iload 5, 2) := by decide +kernel
theorem dX10_promisesFromRow_52 : decode cX10_promisesFromRow 52 = .ok (.invokevirtual 121, 3) := by decide +kernel
theorem dX10_promisesFromRow_55 : decode cX10_promisesFromRow 55 = .ok (.l2i, 1) := by decide +kernel
theorem dX10_promisesFromRow_56 : decode cX10_promisesFromRow 56 = .ok (.istore 6, 2) := by decide +kernel
theorem dX10_promisesFromRow_58 : decode cX10_promisesFromRow 58 = .ok (.aload_n 0, 1) := by decide +kernel
theorem dX10_promisesFromRow_59 : decode cX10_promisesFromRow 59 = .ok (.getfield 26, 3) := by decide +kernel
theorem dX10_promisesFromRow_62 : decode cX10_promisesFromRow 62 = .ok (.iload_n 1, 1) := by decide +kernel
theorem dX10_promisesFromRow_63 : decode cX10_promisesFromRow 63 = .ok (.iload 5, 2) := by decide +kernel
theorem dX10_promisesFromRow_65 : decode cX10_promisesFromRow 65 = .ok (.iconst 1, 1) := by decide +kernel
theorem dX10_promisesFromRow_66 : decode cX10_promisesFromRow 66 = .ok (.iadd, 1) := by decide +kernel
theorem dX10_promisesFromRow_67 : decode cX10_promisesFromRow 67 = .ok (.invokevirtual 121, 3) := by decide +kernel
theorem dX10_promisesFromRow_70 : decode cX10_promisesFromRow 70 = .ok (.l2i, 1) := by decide +kernel
theorem dX10_promisesFromRow_71 : decode cX10_promisesFromRow 71 = .ok (.istore 7, 2) := by decide +kernel
theorem dX10_promisesFromRow_73 : decode cX10_promisesFromRow 73 = .ok (.aload_n 0, 1) := by decide +kernel
theorem dX10_promisesFromRow_74 : decode cX10_promisesFromRow 74 = .ok (.getfield 26, 3) := by decide +kernel
theorem dX10_promisesFromRow_77 : decode cX10_promisesFromRow 77 = .ok (.iload_n 1, 1) := by decide +kernel
theorem dX10_promisesFromRow_78 : decode cX10_promisesFromRow 78 = .ok (.iload 5, 2) := by decide +kernel
theorem dX10_promisesFromRow_80 : decode cX10_promisesFromRow 80 = .ok (.iconst 2, 1) := by decide +kernel
theorem dX10_promisesFromRow_81 : decode cX10_promisesFromRow 81 = .ok (.iadd, 1) := by decide +kernel
theorem dX10_promisesFromRow_82 : decode cX10_promisesFromRow 82 = .ok (.invokevirtual 121, 3) := by decide +kernel
theorem dX10_promisesFromRow_85 : decode cX10_promisesFromRow 85 = .ok (.l2i, 1) := by decide +kernel
theorem dX10_promisesFromRow_86 : decode cX10_promisesFromRow 86 = .ok (.istore 8, 2) := by decide +kernel
theorem dX10_promisesFromRow_88 : decode cX10_promisesFromRow 88 = .ok (.aload_n 0, 1) := by decide +kernel
theorem dX10_promisesFromRow_89 : decode cX10_promisesFromRow 89 = .ok (.getfield 26, 3) := by decide +kernel
theorem dX10_promisesFromRow_92 : decode cX10_promisesFromRow 92 = .ok (.iload_n 1, 1) := by decide +kernel
theorem dX10_promisesFromRow_93 : decode cX10_promisesFromRow 93 = .ok (.iload 5, 2) := by decide +kernel
theorem dX10_promisesFromRow_95 : decode cX10_promisesFromRow 95 = .ok (.iconst 3, 1) := by decide +kernel
theorem dX10_promisesFromRow_96 : decode cX10_promisesFromRow 96 = .ok (.iadd, 1) := by decide +kernel
theorem dX10_promisesFromRow_97 : decode cX10_promisesFromRow 97 = .ok (.invokevirtual 121, 3) := by decide +kernel
theorem dX10_promisesFromRow_100 : decode cX10_promisesFromRow 100 = .ok (.l2i, 1) := by decide +kernel
theorem dX10_promisesFromRow_101 : decode cX10_promisesFromRow 101 = .ok (.istore 9, 2) := by decide +kernel
theorem dX10_promisesFromRow_103 : decode cX10_promisesFromRow 103 = .ok (.aload_n 0, 1) := by decide +kernel
theorem dX10_promisesFromRow_104 : decode cX10_promisesFromRow 104 = .ok (.getfield 10, 3) := by decide +kernel
theorem dX10_promisesFromRow_107 : decode cX10_promisesFromRow 107 = .ok (.iload 6, 2) := by decide +kernel
theorem dX10_promisesFromRow_109 : decode cX10_promisesFromRow 109 = .ok (.iload 7, 2) := by decide +kernel
theorem dX10_promisesFromRow_111 : decode cX10_promisesFromRow 111 = .ok (.iload 8, 2) := by decide +kernel
theorem dX10_promisesFromRow_113 : decode cX10_promisesFromRow 113 = .ok (.iload 9, 2) := by decide +kernel
theorem dX10_promisesFromRow_115 : decode cX10_promisesFromRow 115 = .ok (.invokevirtual 95, 3) := by decide +kernel
theorem dX10_promisesFromRow_118 : decode cX10_promisesFromRow 118 = .ok (.ifCond .ne 6, 3) := by decide +kernel
theorem dX10_promisesFromRow_121 : decode cX10_promisesFromRow 121 = .ok (.goto 25, 3) := by decide +kernel
theorem dX10_promisesFromRow_124 : decode cX10_promisesFromRow 124 = .ok (.aload_n 0, 1) := by decide +kernel
theorem dX10_promisesFromRow_125 : decode cX10_promisesFromRow 125 = .ok (.getfield 10, 3) := by decide +kernel
theorem dX10_promisesFromRow_128 : decode cX10_promisesFromRow 128 = .ok (.iload 6, 2) := by decide +kernel
theorem dX10_promisesFromRow_130 : decode cX10_promisesFromRow 130 = .ok (.iload 7, 2) := by decide +kernel
theorem dX10_promisesFromRow_132 : decode cX10_promisesFromRow 132 = .ok (.iload 8, 2) := by decide +kernel
theorem dX10_promisesFromRow_134 : decode cX10_promisesFromRow 134 = .ok (.iload 9, 2) := by decide +kernel
theorem dX10_promisesFromRow_136 : decode cX10_promisesFromRow 136 = .ok (.invokevirtual 103, 3) := by decide +kernel
theorem dX10_promisesFromRow_139 : decode cX10_promisesFromRow 139 = .ok (.pop, 1) := by decide +kernel
theorem dX10_promisesFromRow_140 : decode cX10_promisesFromRow 140 = .ok (.iinc 4 1, 3) := by decide +kernel
theorem dX10_promisesFromRow_143 : decode cX10_promisesFromRow 143 = .ok (.goto (-140), 3) := by decide +kernel
theorem dX10_promisesFromRow_146 : decode cX10_promisesFromRow 146 = .ok (.iload 4, 2) := by decide +kernel
theorem dX10_promisesFromRow_148 : decode cX10_promisesFromRow 148 = .ok (.ireturn, 1) := by decide +kernel
section
variable {p : Program} {l : Launch} {e : Env} {s : State} {m : MethodId} {args : Array Value} {below : List Frame} {meth : Method} {c : Code} {H : Heap} {locs : List Loc} {E : Ev} {S V : St} {ls : Array Slot}
set_option maxRecDepth 20000 in
theorem w_Ch_promisesFromRow_b3 {N : Nat} {k3 : (St × Int32) → Option (Int32 × St)} {l1 : Int32} {l2 : Int32} {l3 : Int32} {l4 : Int32} {r : Int32} {S9 : St} (C : Cx p s m args meth c E cX10_promisesFromRow 10 RX10 (some .int)) (hk3 : ∀ x, k3 x = some (r, S9) → ∀ (H : Heap) (locs : List Loc) (ls : Array Slot), Wd E (wX V E) s.heap x.1 H locs → lv_has ls 10 [(0, .ref (ea E 0)), (1, .int l1), (2, .int l2), (3, .int l3), (4, .int x.2)] → W p l e (rmh 4) s m args below meth c H locs 0 0 (MQ below (QW E (wX V E) (some (.int r)) S9) args s 0 0 (eA E)) (F0 m 3 ls [])) (hw : Wd E (wX V E) s.heap S H locs) (hl : lv_has ls 10 [(0, .ref (ea E 0)), (1, .int l1), (2, .int l2), (3, .int l3), (4, .int l4)]) (hf : Ch_promisesFromRow_b3 N k3 S l1 l2 l3 l4 = some (r, S9)) : W p l e (rmh 4) s m args below meth c H locs 0 0 (MQ below (QW E (wX V E) (some (.int r)) S9) args s 0 0 (eA E)) (F0 m 3 ls []) := by
  have hx := C.1
  have hb := C.2.1
  unfold Ch_promisesFromRow_b3 at hf
  refine lv_iload hx hb dX10_promisesFromRow_3 (lv_at hl 4 rfl) ?_
  refine lv_iload_n hx hb dX10_promisesFromRow_5 rfl (lv_at hl 3 rfl) ?_
  refine lv_icmp_ge (tgt := 146) hx hb dX10_promisesFromRow_6 (by decide) (fun q => ?_) (fun q => ?_)
  · have hf := hf_t q hf
    refine lv_iload hx hb dX10_promisesFromRow_146 (lv_at hl 4 rfl) ?_
    exact ret_iS C hw dX10_promisesFromRow_148 hf
  · have hf := hf_f q hf
    refine lv_aload_n hx hb dX10_promisesFromRow_9 rfl (lv_at hl 0 rfl) ?_
    refine get_0_0 C hw q_375 dX10_promisesFromRow_10 ?_
    obtain ⟨r1, hr, hf⟩ := hf_1 hf
    refine inv_Vi (q0 := 1) (ci := 8) (As := []) lk_X10_99 C hw rfl rfl rfl (t_Sm_isFull hr) rfl hl.1 dX10_promisesFromRow_13 rfl (Nat.le_of_ble_eq_true rfl) (by decide) (Nat.le_of_ble_eq_true rfl) rfl (fun H locs hw => ?_)
    refine lv_if_ne (tgt := 146) hx hb dX10_promisesFromRow_16 (by decide) (fun q => ?_) (fun q => ?_)
    · have hf := hf_f q hf
      refine lv_iload hx hb dX10_promisesFromRow_146 (lv_at hl 4 rfl) ?_
      exact ret_iS C hw dX10_promisesFromRow_148 hf
    · have hf := hf_t q hf
      refine lv_aload_n hx hb dX10_promisesFromRow_19 rfl (lv_at hl 0 rfl) ?_
      refine get_0_9 C hw q_384 dX10_promisesFromRow_20 ?_
      refine lv_iload_n hx hb dX10_promisesFromRow_23 rfl (lv_at hl 1 rfl) ?_
      refine lv_iload_n hx hb dX10_promisesFromRow_24 rfl (lv_at hl 2 rfl) ?_
      refine lv_iconst (v := 4) hx hb dX10_promisesFromRow_25 kc_4 ?_
      refine lv_iload hx hb dX10_promisesFromRow_26 (lv_at hl 4 rfl) ?_
      refine lv_imul hx hb dX10_promisesFromRow_28 ?_
      refine lv_iconst (v := 4) hx hb dX10_promisesFromRow_29 kc_4 ?_
      refine lv_iadd hx hb dX10_promisesFromRow_30 ?_
      obtain ⟨r2, hr, hf⟩ := hf_1 hf
      refine inv_Vi (q0 := 10) (ci := 7) (As := [.int l1, .int l2, .int (((4 : Int32) * l4) + (4 : Int32))]) lk_X10_118 C hw rfl rfl rfl (t_Sh_hasPlaces hr) rfl hl.1 dX10_promisesFromRow_31 rfl (Nat.le_of_ble_eq_true rfl) (by decide) (Nat.le_of_ble_eq_true rfl) rfl (fun H locs hw => ?_)
      refine lv_if_eq (tgt := 146) hx hb dX10_promisesFromRow_34 (by decide) (fun q => ?_) (fun q => ?_)
      · have hf := hf_t q hf
        refine lv_iload hx hb dX10_promisesFromRow_146 (lv_at hl 4 rfl) ?_
        exact ret_iS C hw dX10_promisesFromRow_148 hf
      · have hf := hf_f q hf
        refine lv_iload_n hx hb dX10_promisesFromRow_37 rfl (lv_at hl 2 rfl) ?_
        refine lv_iconst (v := 4) hx hb dX10_promisesFromRow_38 kc_4 ?_
        refine lv_iload hx hb dX10_promisesFromRow_39 (lv_at hl 4 rfl) ?_
        refine lv_imul hx hb dX10_promisesFromRow_41 ?_
        refine lv_iadd hx hb dX10_promisesFromRow_42 ?_
        refine nm_i hf (fun x3 hf => ?_)
        refine lv_istore (lv' := [(5, .int x3), (0, .ref (ea E 0)), (1, .int l1), (2, .int l2), (3, .int l3), (4, .int l4)]) hx hb dX10_promisesFromRow_43 hl (by decide) rfl (fun ls hl => ?_)
        refine lv_aload_n hx hb dX10_promisesFromRow_45 rfl (lv_at hl 1 rfl) ?_
        refine get_0_9 C hw q_384 dX10_promisesFromRow_46 ?_
        refine lv_iload_n hx hb dX10_promisesFromRow_49 rfl (lv_at hl 2 rfl) ?_
        refine lv_iload hx hb dX10_promisesFromRow_50 (lv_at hl 0 rfl) ?_
        obtain ⟨r4, hr, hf⟩ := hf_1 hf
        refine inv_Vl (q0 := 10) (ci := 7) (As := [.int l1, .int x3]) lk_X10_121 C hw rfl rfl rfl (t_Sh_elementAt hr) rfl hl.1 dX10_promisesFromRow_52 rfl (Nat.le_of_ble_eq_true rfl) (by decide) (Nat.le_of_ble_eq_true rfl) rfl (fun H locs hw => ?_)
        refine lv_l2i hx hb dX10_promisesFromRow_55 rfl ?_
        refine nm_i hf (fun x5 hf => ?_)
        refine lv_istore (lv' := [(6, .int x5), (5, .int x3), (0, .ref (ea E 0)), (1, .int l1), (2, .int l2), (3, .int l3), (4, .int l4)]) hx hb dX10_promisesFromRow_56 hl (by decide) rfl (fun ls hl => ?_)
        refine lv_aload_n hx hb dX10_promisesFromRow_58 rfl (lv_at hl 2 rfl) ?_
        refine get_0_9 C hw q_384 dX10_promisesFromRow_59 ?_
        refine lv_iload_n hx hb dX10_promisesFromRow_62 rfl (lv_at hl 3 rfl) ?_
        refine lv_iload hx hb dX10_promisesFromRow_63 (lv_at hl 1 rfl) ?_
        refine lv_iconst (v := 1) hx hb dX10_promisesFromRow_65 kc_1 ?_
        refine lv_iadd hx hb dX10_promisesFromRow_66 ?_
        obtain ⟨r6, hr, hf⟩ := hf_1 hf
        refine inv_Vl (q0 := 10) (ci := 7) (As := [.int l1, .int (x3 + (1 : Int32))]) lk_X10_121 C hw rfl rfl rfl (t_Sh_elementAt hr) rfl hl.1 dX10_promisesFromRow_67 rfl (Nat.le_of_ble_eq_true rfl) (by decide) (Nat.le_of_ble_eq_true rfl) rfl (fun H locs hw => ?_)
        refine lv_l2i hx hb dX10_promisesFromRow_70 rfl ?_
        refine nm_i hf (fun x7 hf => ?_)
        refine lv_istore (lv' := [(7, .int x7), (6, .int x5), (5, .int x3), (0, .ref (ea E 0)), (1, .int l1), (2, .int l2), (3, .int l3), (4, .int l4)]) hx hb dX10_promisesFromRow_71 hl (by decide) rfl (fun ls hl => ?_)
        refine lv_aload_n hx hb dX10_promisesFromRow_73 rfl (lv_at hl 3 rfl) ?_
        refine get_0_9 C hw q_384 dX10_promisesFromRow_74 ?_
        refine lv_iload_n hx hb dX10_promisesFromRow_77 rfl (lv_at hl 4 rfl) ?_
        refine lv_iload hx hb dX10_promisesFromRow_78 (lv_at hl 2 rfl) ?_
        refine lv_iconst (v := 2) hx hb dX10_promisesFromRow_80 kc_2 ?_
        refine lv_iadd hx hb dX10_promisesFromRow_81 ?_
        obtain ⟨r8, hr, hf⟩ := hf_1 hf
        refine inv_Vl (q0 := 10) (ci := 7) (As := [.int l1, .int (x3 + (2 : Int32))]) lk_X10_121 C hw rfl rfl rfl (t_Sh_elementAt hr) rfl hl.1 dX10_promisesFromRow_82 rfl (Nat.le_of_ble_eq_true rfl) (by decide) (Nat.le_of_ble_eq_true rfl) rfl (fun H locs hw => ?_)
        refine lv_l2i hx hb dX10_promisesFromRow_85 rfl ?_
        refine nm_i hf (fun x9 hf => ?_)
        refine lv_istore (lv' := [(8, .int x9), (7, .int x7), (6, .int x5), (5, .int x3), (0, .ref (ea E 0)), (1, .int l1), (2, .int l2), (3, .int l3), (4, .int l4)]) hx hb dX10_promisesFromRow_86 hl (by decide) rfl (fun ls hl => ?_)
        refine lv_aload_n hx hb dX10_promisesFromRow_88 rfl (lv_at hl 4 rfl) ?_
        refine get_0_9 C hw q_384 dX10_promisesFromRow_89 ?_
        refine lv_iload_n hx hb dX10_promisesFromRow_92 rfl (lv_at hl 5 rfl) ?_
        refine lv_iload hx hb dX10_promisesFromRow_93 (lv_at hl 3 rfl) ?_
        refine lv_iconst (v := 3) hx hb dX10_promisesFromRow_95 kc_3 ?_
        refine lv_iadd hx hb dX10_promisesFromRow_96 ?_
        obtain ⟨r10, hr, hf⟩ := hf_1 hf
        refine inv_Vl (q0 := 10) (ci := 7) (As := [.int l1, .int (x3 + (3 : Int32))]) lk_X10_121 C hw rfl rfl rfl (t_Sh_elementAt hr) rfl hl.1 dX10_promisesFromRow_97 rfl (Nat.le_of_ble_eq_true rfl) (by decide) (Nat.le_of_ble_eq_true rfl) rfl (fun H locs hw => ?_)
        refine lv_l2i hx hb dX10_promisesFromRow_100 rfl ?_
        refine nm_i hf (fun x11 hf => ?_)
        refine lv_istore (lv' := [(9, .int x11), (8, .int x9), (7, .int x7), (6, .int x5), (5, .int x3), (0, .ref (ea E 0)), (1, .int l1), (2, .int l2), (3, .int l3), (4, .int l4)]) hx hb dX10_promisesFromRow_101 hl (by decide) rfl (fun ls hl => ?_)
        refine lv_aload_n hx hb dX10_promisesFromRow_103 rfl (lv_at hl 5 rfl) ?_
        refine get_0_0 C hw q_375 dX10_promisesFromRow_104 ?_
        refine lv_iload hx hb dX10_promisesFromRow_107 (lv_at hl 3 rfl) ?_
        refine lv_iload hx hb dX10_promisesFromRow_109 (lv_at hl 2 rfl) ?_
        refine lv_iload hx hb dX10_promisesFromRow_111 (lv_at hl 1 rfl) ?_
        refine lv_iload hx hb dX10_promisesFromRow_113 (lv_at hl 0 rfl) ?_
        obtain ⟨r12, hr, hf⟩ := hf_1 hf
        refine inv_Vi (q0 := 1) (ci := 8) (As := [.int x5, .int x7, .int x9, .int x11]) lk_X10_95 C hw rfl rfl rfl (t_Sm_canPromise hr) rfl hl.1 dX10_promisesFromRow_115 rfl (Nat.le_of_ble_eq_true rfl) (by decide) (Nat.le_of_ble_eq_true rfl) rfl (fun H locs hw => ?_)
        refine lv_if_ne (tgt := 124) hx hb dX10_promisesFromRow_118 (by decide) (fun q => ?_) (fun q => ?_)
        · have hf := hf_f q hf
          refine lv_aload_n hx hb dX10_promisesFromRow_124 rfl (lv_at hl 5 rfl) ?_
          refine get_0_0 C hw q_375 dX10_promisesFromRow_125 ?_
          refine lv_iload hx hb dX10_promisesFromRow_128 (lv_at hl 3 rfl) ?_
          refine lv_iload hx hb dX10_promisesFromRow_130 (lv_at hl 2 rfl) ?_
          refine lv_iload hx hb dX10_promisesFromRow_132 (lv_at hl 1 rfl) ?_
          refine lv_iload hx hb dX10_promisesFromRow_134 (lv_at hl 0 rfl) ?_
          obtain ⟨r14, S13, hr, hf⟩ := hf_2 hf
          refine inv_Vi (q0 := 1) (ci := 8) (As := [.int x5, .int x7, .int x9, .int x11]) lk_X10_103 C hw rfl rfl rfl (t_Sm_addPromise hr) rfl hl.1 dX10_promisesFromRow_136 rfl (Nat.le_of_ble_eq_true rfl) (by decide) (Nat.le_of_ble_eq_true rfl) rfl (fun H locs hw => ?_)
          refine lv_pop hx hb dX10_promisesFromRow_139 rfl ?_
          obtain ⟨x15, ex15, hf⟩ := nme hf
          refine lv_iinc (v := x15) (lv' := [(4, .int x15), (9, .int x11), (8, .int x9), (7, .int x7), (6, .int x5), (5, .int x3), (0, .ref (ea E 0)), (1, .int l1), (2, .int l2), (3, .int l3)]) hx hb dX10_promisesFromRow_140 hl (k := 9) rfl (ki_1 ex15) (by decide) rfl (fun ls hl => ?_)
          refine lv_goto (tgt := 3) hx hb dX10_promisesFromRow_143 (by decide) ?_
          exact hk3 _ hf _ _ _ hw (lv_sub hl [6, 7, 8, 9, 0] rfl)
        · have hf := hf_t q hf
          refine lv_goto (tgt := 146) hx hb dX10_promisesFromRow_121 (by decide) ?_
          refine lv_iload hx hb dX10_promisesFromRow_146 (lv_at hl 9 rfl) ?_
          exact ret_iS C hw dX10_promisesFromRow_148 hf
theorem w_Ch_promisesFromRow_L3 {N : Nat} {l1 : Int32} {l2 : Int32} {l3 : Int32} {r : Int32} {S9 : St} (C : Cx p s m args meth c E cX10_promisesFromRow 10 RX10 (some .int)) : ∀ x, Ch_promisesFromRow_L3 N l1 l2 l3 x = some (r, S9) → ∀ (H : Heap) (locs : List Loc) (ls : Array Slot), Wd E (wX V E) s.heap x.1 H locs → lv_has ls 10 [(0, .ref (ea E 0)), (1, .int l1), (2, .int l2), (3, .int l3), (4, .int x.2)] → W p l e (rmh 4) s m args below meth c H locs 0 0 (MQ below (QW E (wX V E) (some (.int r)) S9) args s 0 0 (eA E)) (F0 m 3 ls []) :=
  lp_W (fun k x hk hf H locs ls hw hl => w_Ch_promisesFromRow_b3 C hk hw hl hf) N
set_option maxRecDepth 20000 in
theorem w_Ch_promisesFromRow {N : Nat} {p1 : Int32} {p2 : Int32} {p3 : Int32} {r : Int32} {S9 : St} (C : Cx p s m args meth c E cX10_promisesFromRow 10 RX10 (some .int)) (hw : Wd E (wX V E) s.heap S H locs) (hl : lv_has ls 10 [(0, .ref (ea E 0)), (1, .int p1), (2, .int p2), (3, .int p3)]) (hf : Ch_promisesFromRow N S p1 p2 p3 = some (r, S9)) : W p l e (rmh 4) s m args below meth c H locs 0 0 (MQ below (QW E (wX V E) (some (.int r)) S9) args s 0 0 (eA E)) (F0 m 0 ls []) := by
  have hx := C.1
  have hb := C.2.1
  unfold Ch_promisesFromRow at hf
  refine lv_iconst (v := 0) hx hb dX10_promisesFromRow_0 kc_0 ?_
  refine lv_istore (lv' := [(4, .int (0 : Int32)), (0, .ref (ea E 0)), (1, .int p1), (2, .int p2), (3, .int p3)]) hx hb dX10_promisesFromRow_1 hl (by decide) rfl (fun ls hl => ?_)
  exact w_Ch_promisesFromRow_L3 C _ hf _ _ _ hw (lv_sub hl [1, 2, 3, 4, 0] rfl)
end
theorem t_Ch_promisesFromRow {l : Launch} {V : St} {N : Nat} {S : St} {p1 : Int32} {p2 : Int32} {p3 : Int32} {r : Int32} {S9 : St} (hf : Ch_promisesFromRow N S p1 p2 p3 = some (r, S9)) : Ct l (wX V) yX10_promisesFromRow cX10_promisesFromRow 10 (some .int) 4 (fun E => [.ref (ea E 0), .int p1, .int p2, .int p3]) S (fun E => some (.int r)) S9 :=
  ofBlock (by decide +kernel) (fun _ => Nat.le_of_ble_eq_true rfl) (fun E p e s m args below meth c ls C hw hl => w_Ch_promisesFromRow C hw hl hf)
theorem dX10_promises_0 : decode cX10_promises 0 = .ok (.aload_n 0, 1) := by decide +kernel
theorem dX10_promises_1 : decode cX10_promises 1 = .ok (.getfield 26, 3) := by decide +kernel
theorem dX10_promises_4 : decode cX10_promises 4 = .ok (.iload_n 1, 1) := by decide +kernel
theorem dX10_promises_5 : decode cX10_promises 5 = .ok (.invokevirtual 107, 3) := by decide +kernel
theorem dX10_promises_8 : decode cX10_promises 8 = .ok (.ifCond .eq 13, 3) := by decide +kernel
theorem dX10_promises_11 : decode cX10_promises 11 = .ok (.iload_n 3, 1) := by decide +kernel
theorem dX10_promises_12 : decode cX10_promises 12 = .ok (.iconst 1, 1) := by decide +kernel
theorem dX10_promises_13 : decode cX10_promises 13 = .ok (.bipush 10, 2) := by decide +kernel
theorem dX10_promises_15 : decode cX10_promises 15 = .ok (.invokestatic 83, 3) := by decide +kernel
theorem dX10_promises_18 : decode cX10_promises 18 = .ok (.ifCond .ne 5, 3) := by decide +kernel
theorem dX10_promises_21 : decode cX10_promises 21 = .ok (.iconst (-1), 1) := by decide +kernel
theorem dX10_promises_22 : decode cX10_promises 22 = .ok (.ireturn, 1) := by decide +kernel
theorem dX10_promises_23 : decode cX10_promises 23 = .ok (.aload_n 0, 1) := by decide +kernel
theorem dX10_promises_24 : decode cX10_promises 24 = .ok (.getfield 26, 3) := by decide +kernel
theorem dX10_promises_27 : decode cX10_promises 27 = .ok (.iload_n 1, 1) := by decide +kernel
theorem dX10_promises_28 : decode cX10_promises 28 = .ok (.iconst 0, 1) := by decide +kernel
theorem dX10_promises_29 : decode cX10_promises 29 = .ok (.invokevirtual 111, 3) := by decide +kernel
theorem dX10_promises_32 : decode cX10_promises 32 = .ok (.istore 4, 2) := by decide +kernel
theorem dX10_promises_34 : decode cX10_promises 34 = .ok (.iload 4, 2) := by decide +kernel
theorem dX10_promises_36 : decode cX10_promises 36 = .ok (.bipush (-11), 2) := by decide +kernel
theorem dX10_promises_38 : decode cX10_promises 38 = .ok (.if_icmp .ne 5, 3) := by decide +kernel
theorem dX10_promises_41 : decode cX10_promises 41 = .ok (.iconst 0, 1) := by decide +kernel
theorem dX10_promises_42 : decode cX10_promises 42 = .ok (.ireturn, 1) := by decide +kernel
theorem dX10_promises_43 : decode cX10_promises 43 = .ok (.iload 4, 2) := by decide +kernel
theorem dX10_promises_45 : decode cX10_promises 45 = .ok (.ifCond .eq 8, 3) := by decide +kernel
theorem dX10_promises_48 : decode cX10_promises 48 = .ok (.iload 4, 2) := by decide +kernel
theorem dX10_promises_50 : decode cX10_promises 50 = .ok (.goto 10, 3) := by decide +kernel
theorem dX10_promises_53 : decode cX10_promises 53 = .ok (.aload_n 0, 1) := by decide +kernel
theorem dX10_promises_54 : decode cX10_promises 54 = .ok (.iload_n 1, 1) := by decide +kernel
theorem dX10_promises_55 : decode cX10_promises 55 = .ok (.iload_n 2, 1) := by decide +kernel
theorem dX10_promises_56 : decode cX10_promises 56 = .ok (.iload_n 3, 1) := by decide +kernel
theorem dX10_promises_57 : decode cX10_promises 57 = .ok (.invokevirtual 114, 3) := by decide +kernel
theorem dX10_promises_60 : decode cX10_promises 60 = .ok (.ireturn, 1) := by decide +kernel
section
variable {p : Program} {l : Launch} {e : Env} {s : State} {m : MethodId} {args : Array Value} {below : List Frame} {meth : Method} {c : Code} {H : Heap} {locs : List Loc} {E : Ev} {S V : St} {ls : Array Slot}
set_option maxRecDepth 20000 in
theorem w_Ch_promises {N : Nat} {p1 : Int32} {p2 : Int32} {p3 : Int32} {r : Int32} {S9 : St} (C : Cx p s m args meth c E cX10_promises 5 RX10 (some .int)) (hw : Wd E (wX V E) s.heap S H locs) (hl : lv_has ls 5 [(0, .ref (ea E 0)), (1, .int p1), (2, .int p2), (3, .int p3)]) (hf : Ch_promises N S p1 p2 p3 = some (r, S9)) : W p l e (rmh 5) s m args below meth c H locs 0 0 (MQ below (QW E (wX V E) (some (.int r)) S9) args s 0 0 (eA E)) (F0 m 0 ls []) := by
  have hx := C.1
  have hb := C.2.1
  unfold Ch_promises at hf
  refine lv_aload_n hx hb dX10_promises_0 rfl (lv_at hl 0 rfl) ?_
  refine get_0_9 C hw q_384 dX10_promises_1 ?_
  refine lv_iload_n hx hb dX10_promises_4 rfl (lv_at hl 1 rfl) ?_
  obtain ⟨r1, hr, hf⟩ := hf_1 hf
  refine inv_Vi (q0 := 10) (ci := 7) (As := [.int p1]) lk_X10_107 C hw rfl rfl rfl (t_Sh_isShelf hr) rfl hl.1 dX10_promises_5 rfl (Nat.le_of_ble_eq_true rfl) (by decide) (Nat.le_of_ble_eq_true rfl) rfl (fun H locs hw => ?_)
  refine lv_if_eq (tgt := 21) hx hb dX10_promises_8 (by decide) (fun q => ?_) (fun q => ?_)
  · have hf := hf_t q hf
    refine lv_iconst (v := -1) hx hb dX10_promises_21 kc_m1 ?_
    exact ret_iS C hw dX10_promises_22 hf
  · have hf := hf_f q hf
    refine lv_iload_n hx hb dX10_promises_11 rfl (lv_at hl 3 rfl) ?_
    refine lv_iconst (v := 1) hx hb dX10_promises_12 kc_1 ?_
    refine lv_bipush (v := 10) hx hb dX10_promises_13 kb_10 ?_
    obtain ⟨r2, hr, hf⟩ := hf_1 hf
    refine inv_Si (As := [.int p3, .int (1 : Int32), .int (10 : Int32)]) lk_X10_83 C hw (t_Ch_within hr) hl.1 dX10_promises_15 rfl (Nat.le_of_ble_eq_true rfl) (by decide) (Nat.le_of_ble_eq_true rfl) rfl (fun H locs hw => ?_)
    refine lv_if_ne (tgt := 23) hx hb dX10_promises_18 (by decide) (fun q => ?_) (fun q => ?_)
    · have hf := hf_f q hf
      refine lv_aload_n hx hb dX10_promises_23 rfl (lv_at hl 0 rfl) ?_
      refine get_0_9 C hw q_384 dX10_promises_24 ?_
      refine lv_iload_n hx hb dX10_promises_27 rfl (lv_at hl 1 rfl) ?_
      refine lv_iconst (v := 0) hx hb dX10_promises_28 kc_0 ?_
      obtain ⟨r3, hr, hf⟩ := hf_1 hf
      refine inv_Vi (q0 := 10) (ci := 7) (As := [.int p1, .int (0 : Int32)]) lk_X10_111 C hw rfl rfl rfl (t_Sh_refusalOfRow hr) rfl hl.1 dX10_promises_29 rfl (Nat.le_of_ble_eq_true rfl) (by decide) (Nat.le_of_ble_eq_true rfl) rfl (fun H locs hw => ?_)
      refine lv_istore (lv' := [(4, .int r3), (0, .ref (ea E 0)), (1, .int p1), (2, .int p2), (3, .int p3)]) hx hb dX10_promises_32 hl (by decide) rfl (fun ls hl => ?_)
      refine lv_iload hx hb dX10_promises_34 (lv_at hl 0 rfl) ?_
      refine lv_bipush (v := -11) hx hb dX10_promises_36 kb_m11 ?_
      refine lv_icmp_ne (tgt := 43) hx hb dX10_promises_38 (by decide) (fun q => ?_) (fun q => ?_)
      · have hf := hf_f q hf
        refine lv_iload hx hb dX10_promises_43 (lv_at hl 0 rfl) ?_
        refine lv_if_eq (tgt := 53) hx hb dX10_promises_45 (by decide) (fun q => ?_) (fun q => ?_)
        · have hf := hf_t q hf
          refine lv_aload_n hx hb dX10_promises_53 rfl (lv_at hl 1 rfl) ?_
          refine lv_iload_n hx hb dX10_promises_54 rfl (lv_at hl 2 rfl) ?_
          refine lv_iload_n hx hb dX10_promises_55 rfl (lv_at hl 3 rfl) ?_
          refine lv_iload_n hx hb dX10_promises_56 rfl (lv_at hl 4 rfl) ?_
          obtain ⟨r5, S4, hr, hf⟩ := hf_2 hf
          refine inv_Vi (q0 := 0) (ci := 10) (As := [.int p1, .int p2, .int p3]) lk_X10_114 C hw rfl rfl rfl (t_Ch_promisesFromRow hr) rfl hl.1 dX10_promises_57 rfl (Nat.le_of_ble_eq_true rfl) (by decide) (Nat.le_of_ble_eq_true rfl) rfl (fun H locs hw => ?_)
          exact ret_iS C hw dX10_promises_60 hf
        · have hf := hf_f q hf
          refine lv_iload hx hb dX10_promises_48 (lv_at hl 0 rfl) ?_
          refine lv_goto (tgt := 60) hx hb dX10_promises_50 (by decide) ?_
          exact ret_iS C hw dX10_promises_60 hf
      · have hf := hf_t q hf
        refine lv_iconst (v := 0) hx hb dX10_promises_41 kc_0 ?_
        exact ret_iS C hw dX10_promises_42 hf
    · have hf := hf_t q hf
      refine lv_iconst (v := -1) hx hb dX10_promises_21 kc_m1 ?_
      exact ret_iS C hw dX10_promises_22 hf
end
theorem t_Ch_promises {l : Launch} {V : St} {N : Nat} {S : St} {p1 : Int32} {p2 : Int32} {p3 : Int32} {r : Int32} {S9 : St} (hf : Ch_promises N S p1 p2 p3 = some (r, S9)) : Ct l (wX V) yX10_promises cX10_promises 5 (some .int) 5 (fun E => [.ref (ea E 0), .int p1, .int p2, .int p3]) S (fun E => some (.int r)) S9 :=
  ofBlock (by decide +kernel) (fun _ => Nat.le_of_ble_eq_true rfl) (fun E p e s m args below meth c ls C hw hl => w_Ch_promises C hw hl hf)
theorem dX10_mend_0 : decode cX10_mend 0 = .ok (.aload_n 0, 1) := by decide +kernel
theorem dX10_mend_1 : decode cX10_mend 1 = .ok (.getfield 10, 3) := by decide +kernel
theorem dX10_mend_4 : decode cX10_mend 4 = .ok (.iload_n 1, 1) := by decide +kernel
theorem dX10_mend_5 : decode cX10_mend 5 = .ok (.iload_n 2, 1) := by decide +kernel
theorem dX10_mend_6 : decode cX10_mend 6 = .ok (.invokevirtual 125, 3) := by decide +kernel
theorem dX10_mend_9 : decode cX10_mend 9 = .ok (.ifCond .eq 16, 3) := by decide +kernel
theorem dX10_mend_12 : decode cX10_mend 12 = .ok (.aload_n 0, 1) := by decide +kernel
theorem dX10_mend_13 : decode cX10_mend 13 = .ok (.getfield 10, 3) := by decide +kernel
theorem dX10_mend_16 : decode cX10_mend 16 = .ok (.iload_n 1, 1) := by decide +kernel
theorem dX10_mend_17 : decode cX10_mend 17 = .ok (.iload_n 2, 1) := by decide +kernel
theorem dX10_mend_18 : decode cX10_mend 18 = .ok (.iload_n 3, 1) := by decide +kernel
theorem dX10_mend_19 : decode cX10_mend 19 = .ok (.invokevirtual 129, 3) := by decide +kernel
theorem dX10_mend_22 : decode cX10_mend 22 = .ok (.ifCond .ne 6, 3) := by decide +kernel
theorem dX10_mend_25 : decode cX10_mend 25 = .ok (.ldc 132, 2) := by decide +kernel
theorem dX10_mend_27 : decode cX10_mend 27 = .ok (.ireturn, 1) := by decide +kernel
theorem dX10_mend_28 : decode cX10_mend 28 = .ok (.aload_n 0, 1) := by decide +kernel
theorem dX10_mend_29 : decode cX10_mend 29 = .ok (.getfield 10, 3) := by decide +kernel
theorem dX10_mend_32 : decode cX10_mend 32 = .ok (.iload_n 1, 1) := by decide +kernel
theorem dX10_mend_33 : decode cX10_mend 33 = .ok (.iload_n 2, 1) := by decide +kernel
theorem dX10_mend_34 : decode cX10_mend 34 = .ok (.invokevirtual 133, 3) := by decide +kernel
theorem dX10_mend_37 : decode cX10_mend 37 = .ok (.istore 4, 2) := by decide +kernel
theorem dX10_mend_39 : decode cX10_mend 39 = .ok (.iload 4, 2) := by decide +kernel
theorem dX10_mend_41 : decode cX10_mend 41 = .ok (.iload_n 3, 1) := by decide +kernel
theorem dX10_mend_42 : decode cX10_mend 42 = .ok (.if_icmp .eq 25, 3) := by decide +kernel
theorem dX10_mend_45 : decode cX10_mend 45 = .ok (.aload_n 0, 1) := by decide +kernel
theorem dX10_mend_46 : decode cX10_mend 46 = .ok (.getfield 40, 3) := by decide +kernel
theorem dX10_mend_49 : decode cX10_mend 49 = .ok (.iload_n 1, 1) := by decide +kernel
theorem dX10_mend_50 : decode cX10_mend 50 = .ok (.iload_n 2, 1) := by decide +kernel
theorem dX10_mend_51 : decode cX10_mend 51 = .ok (.iload 4, 2) := by decide +kernel
theorem dX10_mend_53 : decode cX10_mend 53 = .ok (.iload_n 3, 1) := by decide +kernel
theorem dX10_mend_54 : decode cX10_mend 54 = .ok (.invokevirtual 136, 3) := by decide +kernel
theorem dX10_mend_57 : decode cX10_mend 57 = .ok (.aload_n 0, 1) := by decide +kernel
theorem dX10_mend_58 : decode cX10_mend 58 = .ok (.getfield 10, 3) := by decide +kernel
theorem dX10_mend_61 : decode cX10_mend 61 = .ok (.iload_n 1, 1) := by decide +kernel
theorem dX10_mend_62 : decode cX10_mend 62 = .ok (.iload_n 2, 1) := by decide +kernel
theorem dX10_mend_63 : decode cX10_mend 63 = .ok (.iload_n 3, 1) := by decide +kernel
theorem dX10_mend_64 : decode cX10_mend 64 = .ok (.invokevirtual 140, 3) := by decide +kernel
theorem dX10_mend_67 : decode cX10_mend 67 = .ok (.iload 4, 2) := by decide +kernel
theorem dX10_mend_69 : decode cX10_mend 69 = .ok (.ireturn, 1) := by decide +kernel
section
variable {p : Program} {l : Launch} {e : Env} {s : State} {m : MethodId} {args : Array Value} {below : List Frame} {meth : Method} {c : Code} {H : Heap} {locs : List Loc} {E : Ev} {S V : St} {ls : Array Slot}
set_option maxRecDepth 20000 in
theorem w_Ch_mend {p1 : Int32} {p2 : Int32} {p3 : Int32} {r : Int32} {S9 : St} (C : Cx p s m args meth c E cX10_mend 5 RX10 (some .int)) (hw : Wd E (wX V E) s.heap S H locs) (hl : lv_has ls 5 [(0, .ref (ea E 0)), (1, .int p1), (2, .int p2), (3, .int p3)]) (hf : Ch_mend S p1 p2 p3 = some (r, S9)) : W p l e (rmh 3) s m args below meth c H locs 0 0 (MQ below (QW E (wX V E) (some (.int r)) S9) args s 0 0 (eA E)) (F0 m 0 ls []) := by
  have hx := C.1
  have hb := C.2.1
  unfold Ch_mend at hf
  refine lv_aload_n hx hb dX10_mend_0 rfl (lv_at hl 0 rfl) ?_
  refine get_0_0 C hw q_375 dX10_mend_1 ?_
  refine lv_iload_n hx hb dX10_mend_4 rfl (lv_at hl 1 rfl) ?_
  refine lv_iload_n hx hb dX10_mend_5 rfl (lv_at hl 2 rfl) ?_
  obtain ⟨r1, hr, hf⟩ := hf_1 hf
  refine inv_Vi (q0 := 1) (ci := 8) (As := [.int p1, .int p2]) lk_X10_125 C hw rfl rfl rfl (t_Sm_has hr) rfl hl.1 dX10_mend_6 rfl (Nat.le_of_ble_eq_true rfl) (by decide) (Nat.le_of_ble_eq_true rfl) rfl (fun H locs hw => ?_)
  refine lv_if_eq (tgt := 25) hx hb dX10_mend_9 (by decide) (fun q => ?_) (fun q => ?_)
  · have hf := hf_t q hf
    refine lv_ldc (v := -2000000000) hx hb C.2.2.2.1 (C.2.2.2.2.1 _ q_481) dX10_mend_25 ?_
    exact ret_iS C hw dX10_mend_27 hf
  · have hf := hf_f q hf
    refine lv_aload_n hx hb dX10_mend_12 rfl (lv_at hl 0 rfl) ?_
    refine get_0_0 C hw q_375 dX10_mend_13 ?_
    refine lv_iload_n hx hb dX10_mend_16 rfl (lv_at hl 1 rfl) ?_
    refine lv_iload_n hx hb dX10_mend_17 rfl (lv_at hl 2 rfl) ?_
    refine lv_iload_n hx hb dX10_mend_18 rfl (lv_at hl 3 rfl) ?_
    obtain ⟨r2, hr, hf⟩ := hf_1 hf
    refine inv_Vi (q0 := 1) (ci := 8) (As := [.int p1, .int p2, .int p3]) lk_X10_129 C hw rfl rfl rfl (t_Sm_canBecome hr) rfl hl.1 dX10_mend_19 rfl (Nat.le_of_ble_eq_true rfl) (by decide) (Nat.le_of_ble_eq_true rfl) rfl (fun H locs hw => ?_)
    refine lv_if_ne (tgt := 28) hx hb dX10_mend_22 (by decide) (fun q => ?_) (fun q => ?_)
    · have hf := hf_f q hf
      refine lv_aload_n hx hb dX10_mend_28 rfl (lv_at hl 0 rfl) ?_
      refine get_0_0 C hw q_375 dX10_mend_29 ?_
      refine lv_iload_n hx hb dX10_mend_32 rfl (lv_at hl 1 rfl) ?_
      refine lv_iload_n hx hb dX10_mend_33 rfl (lv_at hl 2 rfl) ?_
      obtain ⟨r3, hr, hf⟩ := hf_1 hf
      refine inv_Vi (q0 := 1) (ci := 8) (As := [.int p1, .int p2]) lk_X10_133 C hw rfl rfl rfl (t_Sm_numberOf hr) rfl hl.1 dX10_mend_34 rfl (Nat.le_of_ble_eq_true rfl) (by decide) (Nat.le_of_ble_eq_true rfl) rfl (fun H locs hw => ?_)
      refine lv_istore (lv' := [(4, .int r3), (0, .ref (ea E 0)), (1, .int p1), (2, .int p2), (3, .int p3)]) hx hb dX10_mend_37 hl (by decide) rfl (fun ls hl => ?_)
      refine lv_iload hx hb dX10_mend_39 (lv_at hl 0 rfl) ?_
      refine lv_iload_n hx hb dX10_mend_41 rfl (lv_at hl 4 rfl) ?_
      refine lv_icmp_eq (tgt := 67) hx hb dX10_mend_42 (by decide) (fun q => ?_) (fun q => ?_)
      · have hf := hf_t q hf
        refine lv_iload hx hb dX10_mend_67 (lv_at hl 0 rfl) ?_
        exact ret_iS C hw dX10_mend_69 hf
      · have hf := hf_f q hf
        refine lv_aload_n hx hb dX10_mend_45 rfl (lv_at hl 1 rfl) ?_
        refine get_0_7 C hw q_382 dX10_mend_46 ?_
        refine lv_iload_n hx hb dX10_mend_49 rfl (lv_at hl 2 rfl) ?_
        refine lv_iload_n hx hb dX10_mend_50 rfl (lv_at hl 3 rfl) ?_
        refine lv_iload hx hb dX10_mend_51 (lv_at hl 0 rfl) ?_
        refine lv_iload_n hx hb dX10_mend_53 rfl (lv_at hl 4 rfl) ?_
        obtain ⟨S4, hr, hf⟩ := hf_1 hf
        refine inv_Vv (q0 := 8) (ci := 0) (As := [.int p1, .int p2, .int r3, .int p3]) lk_X10_136 C hw rfl rfl rfl (t_Cg_add hr) rfl hl.1 dX10_mend_54 rfl (Nat.le_of_ble_eq_true rfl) (by decide) (Nat.le_of_ble_eq_true rfl) rfl (fun H locs hw => ?_)
        refine lv_aload_n hx hb dX10_mend_57 rfl (lv_at hl 1 rfl) ?_
        refine get_0_0 C hw q_375 dX10_mend_58 ?_
        refine lv_iload_n hx hb dX10_mend_61 rfl (lv_at hl 2 rfl) ?_
        refine lv_iload_n hx hb dX10_mend_62 rfl (lv_at hl 3 rfl) ?_
        refine lv_iload_n hx hb dX10_mend_63 rfl (lv_at hl 4 rfl) ?_
        obtain ⟨S5, hr, hf⟩ := hf_1 hf
        refine inv_Vv (q0 := 1) (ci := 8) (As := [.int p1, .int p2, .int p3]) lk_X10_140 C hw rfl rfl rfl (t_Sm_become hr) rfl hl.1 dX10_mend_64 rfl (Nat.le_of_ble_eq_true rfl) (by decide) (Nat.le_of_ble_eq_true rfl) rfl (fun H locs hw => ?_)
        refine lv_iload hx hb dX10_mend_67 (lv_at hl 0 rfl) ?_
        exact ret_iS C hw dX10_mend_69 hf
    · have hf := hf_t q hf
      refine lv_ldc (v := -2000000000) hx hb C.2.2.2.1 (C.2.2.2.2.1 _ q_481) dX10_mend_25 ?_
      exact ret_iS C hw dX10_mend_27 hf
end
theorem t_Ch_mend {l : Launch} {V : St} {S : St} {p1 : Int32} {p2 : Int32} {p3 : Int32} {r : Int32} {S9 : St} (hf : Ch_mend S p1 p2 p3 = some (r, S9)) : Ct l (wX V) yX10_mend cX10_mend 5 (some .int) 3 (fun E => [.ref (ea E 0), .int p1, .int p2, .int p3]) S (fun E => some (.int r)) S9 :=
  ofBlock (by decide +kernel) (fun _ => Nat.le_of_ble_eq_true rfl) (fun E p e s m args below meth c ls C hw hl => w_Ch_mend C hw hl hf)
theorem dX10_of_0 : decode cX10_of 0 = .ok (.aload_n 0, 1) := by decide +kernel
theorem dX10_of_1 : decode cX10_of 1 = .ok (.getfield 10, 3) := by decide +kernel
theorem dX10_of_4 : decode cX10_of 4 = .ok (.iload_n 1, 1) := by decide +kernel
theorem dX10_of_5 : decode cX10_of 5 = .ok (.iload_n 2, 1) := by decide +kernel
theorem dX10_of_6 : decode cX10_of 6 = .ok (.invokevirtual 125, 3) := by decide +kernel
theorem dX10_of_9 : decode cX10_of 9 = .ok (.ifCond .eq 15, 3) := by decide +kernel
theorem dX10_of_12 : decode cX10_of 12 = .ok (.aload_n 0, 1) := by decide +kernel
theorem dX10_of_13 : decode cX10_of 13 = .ok (.getfield 10, 3) := by decide +kernel
theorem dX10_of_16 : decode cX10_of 16 = .ok (.iload_n 1, 1) := by decide +kernel
theorem dX10_of_17 : decode cX10_of 17 = .ok (.iload_n 2, 1) := by decide +kernel
theorem dX10_of_18 : decode cX10_of 18 = .ok (.invokevirtual 133, 3) := by decide +kernel
theorem dX10_of_21 : decode cX10_of 21 = .ok (.goto 5, 3) := by decide +kernel
theorem dX10_of_24 : decode cX10_of 24 = .ok (.ldc 132, 2) := by decide +kernel
theorem dX10_of_26 : decode cX10_of 26 = .ok (.ireturn, 1) := by decide +kernel
section
variable {p : Program} {l : Launch} {e : Env} {s : State} {m : MethodId} {args : Array Value} {below : List Frame} {meth : Method} {c : Code} {H : Heap} {locs : List Loc} {E : Ev} {S V : St} {ls : Array Slot}
set_option maxRecDepth 20000 in
theorem w_Ch_of {p1 : Int32} {p2 : Int32} {r : Int32} (C : Cx p s m args meth c E cX10_of 3 RX10 (some .int)) (hw : Wd E (wX V E) s.heap S H locs) (hl : lv_has ls 3 [(0, .ref (ea E 0)), (1, .int p1), (2, .int p2)]) (hf : Ch_of S p1 p2 = some r) : W p l e (rmh 3) s m args below meth c H locs 0 0 (MQ below (QW E (wX V E) (some (.int r)) S) args s 0 0 (eA E)) (F0 m 0 ls []) := by
  have hx := C.1
  have hb := C.2.1
  unfold Ch_of at hf
  refine lv_aload_n hx hb dX10_of_0 rfl (lv_at hl 0 rfl) ?_
  refine get_0_0 C hw q_375 dX10_of_1 ?_
  refine lv_iload_n hx hb dX10_of_4 rfl (lv_at hl 1 rfl) ?_
  refine lv_iload_n hx hb dX10_of_5 rfl (lv_at hl 2 rfl) ?_
  obtain ⟨r1, hr, hf⟩ := hf_1 hf
  refine inv_Vi (q0 := 1) (ci := 8) (As := [.int p1, .int p2]) lk_X10_125 C hw rfl rfl rfl (t_Sm_has hr) rfl hl.1 dX10_of_6 rfl (Nat.le_of_ble_eq_true rfl) (by decide) (Nat.le_of_ble_eq_true rfl) rfl (fun H locs hw => ?_)
  refine lv_if_eq (tgt := 24) hx hb dX10_of_9 (by decide) (fun q => ?_) (fun q => ?_)
  · have hf := hf_t q hf
    refine lv_ldc (v := -2000000000) hx hb C.2.2.2.1 (C.2.2.2.2.1 _ q_481) dX10_of_24 ?_
    exact ret_i C hw dX10_of_26 hf
  · have hf := hf_f q hf
    refine lv_aload_n hx hb dX10_of_12 rfl (lv_at hl 0 rfl) ?_
    refine get_0_0 C hw q_375 dX10_of_13 ?_
    refine lv_iload_n hx hb dX10_of_16 rfl (lv_at hl 1 rfl) ?_
    refine lv_iload_n hx hb dX10_of_17 rfl (lv_at hl 2 rfl) ?_
    obtain ⟨r2, hr, hf⟩ := hf_1 hf
    refine inv_Vi (q0 := 1) (ci := 8) (As := [.int p1, .int p2]) lk_X10_133 C hw rfl rfl rfl (t_Sm_numberOf hr) rfl hl.1 dX10_of_18 rfl (Nat.le_of_ble_eq_true rfl) (by decide) (Nat.le_of_ble_eq_true rfl) rfl (fun H locs hw => ?_)
    refine lv_goto (tgt := 26) hx hb dX10_of_21 (by decide) ?_
    exact ret_i C hw dX10_of_26 hf
end
theorem t_Ch_of {l : Launch} {V : St} {S : St} {p1 : Int32} {p2 : Int32} {r : Int32} (hf : Ch_of S p1 p2 = some r) : Ct l (wX V) yX10_of cX10_of 3 (some .int) 3 (fun E => [.ref (ea E 0), .int p1, .int p2]) S (fun E => some (.int r)) S :=
  ofBlock (by decide +kernel) (fun _ => Nat.le_of_ble_eq_true rfl) (fun E p e s m args below meth c ls C hw hl => w_Ch_of C hw hl hf)
theorem dX10_feed_0 : decode cX10_feed 0 = .ok (.iload_n 1, 1) := by decide +kernel
theorem dX10_feed_1 : decode cX10_feed 1 = .ok (.iconst 0, 1) := by decide +kernel
theorem dX10_feed_2 : decode cX10_feed 2 = .ok (.sipush 255, 3) := by decide +kernel
theorem dX10_feed_5 : decode cX10_feed 5 = .ok (.invokestatic 83, 3) := by decide +kernel
theorem dX10_feed_8 : decode cX10_feed 8 = .ok (.ifCond .ne 5, 3) := by decide +kernel
theorem dX10_feed_11 : decode cX10_feed 11 = .ok (.iconst (-1), 1) := by decide +kernel
theorem dX10_feed_12 : decode cX10_feed 12 = .ok (.ireturn, 1) := by decide +kernel
theorem dX10_feed_13 : decode cX10_feed 13 = .ok (.aload_n 0, 1) := by decide +kernel
theorem dX10_feed_14 : decode cX10_feed 14 = .ok (.getfield 19, 3) := by decide +kernel
theorem dX10_feed_17 : decode cX10_feed 17 = .ok (.getfield 144, 3) := by decide +kernel
theorem dX10_feed_20 : decode cX10_feed 20 = .ok (.bipush 120, 2) := by decide +kernel
theorem dX10_feed_22 : decode cX10_feed 22 = .ok (.if_icmp .ne 8, 3) := by decide +kernel
theorem dX10_feed_25 : decode cX10_feed 25 = .ok (.bipush (-3), 2) := by decide +kernel
theorem dX10_feed_27 : decode cX10_feed 27 = .ok (.goto 11, 3) := by decide +kernel
theorem dX10_feed_30 : decode cX10_feed 30 = .ok (.aload_n 0, 1) := by decide +kernel
theorem dX10_feed_31 : decode cX10_feed 31 = .ok (.getfield 19, 3) := by decide +kernel
theorem dX10_feed_34 : decode cX10_feed 34 = .ok (.iload_n 1, 1) := by decide +kernel
theorem dX10_feed_35 : decode cX10_feed 35 = .ok (.invokevirtual 147, 3) := by decide +kernel
theorem dX10_feed_38 : decode cX10_feed 38 = .ok (.ireturn, 1) := by decide +kernel
section
variable {p : Program} {l : Launch} {e : Env} {s : State} {m : MethodId} {args : Array Value} {below : List Frame} {meth : Method} {c : Code} {H : Heap} {locs : List Loc} {E : Ev} {S V : St} {ls : Array Slot}
set_option maxRecDepth 20000 in
theorem w_Ch_feed {p1 : Int32} {r : Int32} {S9 : St} (C : Cx p s m args meth c E cX10_feed 2 RX10 (some .int)) (hw : Wd E (wX V E) s.heap S H locs) (hl : lv_has ls 2 [(0, .ref (ea E 0)), (1, .int p1)]) (hf : Ch_feed S p1 = some (r, S9)) : W p l e (rmh 2) s m args below meth c H locs 0 0 (MQ below (QW E (wX V E) (some (.int r)) S9) args s 0 0 (eA E)) (F0 m 0 ls []) := by
  have hx := C.1
  have hb := C.2.1
  unfold Ch_feed at hf
  refine lv_iload_n hx hb dX10_feed_0 rfl (lv_at hl 1 rfl) ?_
  refine lv_iconst (v := 0) hx hb dX10_feed_1 kc_0 ?_
  refine lv_sipush (v := 255) hx hb dX10_feed_2 ks_255 ?_
  obtain ⟨r1, hr, hf⟩ := hf_1 hf
  refine inv_Si (As := [.int p1, .int (0 : Int32), .int (255 : Int32)]) lk_X10_83 C hw (t_Ch_within hr) hl.1 dX10_feed_5 rfl (Nat.le_of_ble_eq_true rfl) (by decide) (Nat.le_of_ble_eq_true rfl) rfl (fun H locs hw => ?_)
  refine lv_if_ne (tgt := 13) hx hb dX10_feed_8 (by decide) (fun q => ?_) (fun q => ?_)
  · have hf := hf_f q hf
    refine lv_aload_n hx hb dX10_feed_13 rfl (lv_at hl 0 rfl) ?_
    refine get_0_1 C hw q_376 dX10_feed_14 ?_
    refine get_2_0 C hw q_175 dX10_feed_17 ?_
    refine lv_bipush (v := 120) hx hb dX10_feed_20 kb_120 ?_
    refine lv_icmp_ne (tgt := 30) hx hb dX10_feed_22 (by decide) (fun q => ?_) (fun q => ?_)
    · have hf := hf_f q hf
      refine lv_aload_n hx hb dX10_feed_30 rfl (lv_at hl 0 rfl) ?_
      refine get_0_1 C hw q_376 dX10_feed_31 ?_
      refine lv_iload_n hx hb dX10_feed_34 rfl (lv_at hl 1 rfl) ?_
      obtain ⟨r3, S2, hr, hf⟩ := hf_2 hf
      refine inv_Vi (q0 := 2) (ci := 5) (As := [.int p1]) lk_X10_147 C hw rfl rfl rfl (t_La_take hr) rfl hl.1 dX10_feed_35 rfl (Nat.le_of_ble_eq_true rfl) (by decide) (Nat.le_of_ble_eq_true rfl) rfl (fun H locs hw => ?_)
      exact ret_iS C hw dX10_feed_38 hf
    · have hf := hf_t q hf
      refine lv_bipush (v := -3) hx hb dX10_feed_25 kb_m3 ?_
      refine lv_goto (tgt := 38) hx hb dX10_feed_27 (by decide) ?_
      exact ret_iS C hw dX10_feed_38 hf
  · have hf := hf_t q hf
    refine lv_iconst (v := -1) hx hb dX10_feed_11 kc_m1 ?_
    exact ret_iS C hw dX10_feed_12 hf
end
theorem t_Ch_feed {l : Launch} {V : St} {S : St} {p1 : Int32} {r : Int32} {S9 : St} (hf : Ch_feed S p1 = some (r, S9)) : Ct l (wX V) yX10_feed cX10_feed 2 (some .int) 2 (fun E => [.ref (ea E 0), .int p1]) S (fun E => some (.int r)) S9 :=
  ofBlock (by decide +kernel) (fun _ => Nat.le_of_ble_eq_true rfl) (fun E p e s m args below meth c ls C hw hl => w_Ch_feed C hw hl hf)
theorem dX10_law_0 : decode cX10_law 0 = .ok (.aload_n 0, 1) := by decide +kernel
theorem dX10_law_1 : decode cX10_law 1 = .ok (.getfield 19, 3) := by decide +kernel
theorem dX10_law_4 : decode cX10_law 4 = .ok (.invokevirtual 151, 3) := by decide +kernel
theorem dX10_law_7 : decode cX10_law 7 = .ok (.istore_n 1, 1) := by decide +kernel
theorem dX10_law_8 : decode cX10_law 8 = .ok (.iload_n 1, 1) := by decide +kernel
theorem dX10_law_9 : decode cX10_law 9 = .ok (.iconst (-1), 1) := by decide +kernel
theorem dX10_law_10 : decode cX10_law 10 = .ok (.if_icmp .ne 7, 3) := by decide +kernel
theorem dX10_law_13 : decode cX10_law 13 = .ok (.iconst 1, 1) := by decide +kernel
theorem dX10_law_14 : decode cX10_law 14 = .ok (.goto 7, 3) := by decide +kernel
theorem dX10_law_17 : decode cX10_law 17 = .ok (.bipush (-100), 2) := by decide +kernel
theorem dX10_law_19 : decode cX10_law 19 = .ok (.iload_n 1, 1) := by decide +kernel
theorem dX10_law_20 : decode cX10_law 20 = .ok (.isub, 1) := by decide +kernel
theorem dX10_law_21 : decode cX10_law 21 = .ok (.ireturn, 1) := by decide +kernel
section
variable {p : Program} {l : Launch} {e : Env} {s : State} {m : MethodId} {args : Array Value} {below : List Frame} {meth : Method} {c : Code} {H : Heap} {locs : List Loc} {E : Ev} {S V : St} {ls : Array Slot}
set_option maxRecDepth 20000 in
theorem w_Ch_law {N : Nat} {r : Int32} {S9 : St} (C : Cx p s m args meth c E cX10_law 2 RX10 (some .int)) (hw : Wd E (wX V E) s.heap S H locs) (hl : lv_has ls 2 [(0, .ref (ea E 0))]) (hf : Ch_law N S = some (r, S9)) : W p l e (rmh (N + 6)) s m args below meth c H locs 0 0 (MQ below (QW E (wX V E) (some (.int r)) S9) args s 0 0 (eA E)) (F0 m 0 ls []) := by
  have hx := C.1
  have hb := C.2.1
  unfold Ch_law at hf
  refine lv_aload_n hx hb dX10_law_0 rfl (lv_at hl 0 rfl) ?_
  refine get_0_1 C hw q_376 dX10_law_1 ?_
  obtain ⟨r2, S1, hr, hf⟩ := hf_2 hf
  refine inv_Vi (q0 := 2) (ci := 5) (As := []) lk_X10_151 C hw rfl rfl rfl (t_La_read hr) rfl hl.1 dX10_law_4 rfl (by omega) (by decide) (Nat.le_of_ble_eq_true rfl) rfl (fun H locs hw => ?_)
  refine lv_istore_n (lv' := [(1, .int r2), (0, .ref (ea E 0))]) hx hb dX10_law_7 rfl hl (by decide) rfl (fun ls hl => ?_)
  refine lv_iload_n hx hb dX10_law_8 rfl (lv_at hl 0 rfl) ?_
  refine lv_iconst (v := -1) hx hb dX10_law_9 kc_m1 ?_
  refine lv_icmp_ne (tgt := 17) hx hb dX10_law_10 (by decide) (fun q => ?_) (fun q => ?_)
  · have hf := hf_f q hf
    refine lv_bipush (v := -100) hx hb dX10_law_17 kb_m100 ?_
    refine lv_iload_n hx hb dX10_law_19 rfl (lv_at hl 0 rfl) ?_
    refine lv_isub hx hb dX10_law_20 ?_
    exact ret_iS C hw dX10_law_21 hf
  · have hf := hf_t q hf
    refine lv_iconst (v := 1) hx hb dX10_law_13 kc_1 ?_
    refine lv_goto (tgt := 21) hx hb dX10_law_14 (by decide) ?_
    exact ret_iS C hw dX10_law_21 hf
end
theorem t_Ch_law {l : Launch} {V : St} {N : Nat} {S : St} {r : Int32} {S9 : St} (hf : Ch_law N S = some (r, S9)) : Ct l (wX V) yX10_law cX10_law 2 (some .int) (N + 6) (fun E => [.ref (ea E 0)]) S (fun E => some (.int r)) S9 :=
  ofBlock (by decide +kernel) (fun _ => Nat.le_of_ble_eq_true rfl) (fun E p e s m args below meth c ls C hw hl => w_Ch_law C hw hl hf)
theorem dX10_chain_0 : decode cX10_chain 0 = .ok (.aload_n 0, 1) := by decide +kernel
theorem dX10_chain_1 : decode cX10_chain 1 = .ok (.getfield 10, 3) := by decide +kernel
theorem dX10_chain_4 : decode cX10_chain 4 = .ok (.iload_n 1, 1) := by decide +kernel
theorem dX10_chain_5 : decode cX10_chain 5 = .ok (.invokevirtual 155, 3) := by decide +kernel
theorem dX10_chain_8 : decode cX10_chain 8 = .ok (.ifCond .eq 10, 3) := by decide +kernel
theorem dX10_chain_11 : decode cX10_chain 11 = .ok (.iload_n 2, 1) := by decide +kernel
theorem dX10_chain_12 : decode cX10_chain 12 = .ok (.invokestatic 158, 3) := by decide +kernel
theorem dX10_chain_15 : decode cX10_chain 15 = .ok (.ifCond .ne 5, 3) := by decide +kernel
theorem dX10_chain_18 : decode cX10_chain 18 = .ok (.iconst (-1), 1) := by decide +kernel
theorem dX10_chain_19 : decode cX10_chain 19 = .ok (.ireturn, 1) := by decide +kernel
theorem dX10_chain_20 : decode cX10_chain 20 = .ok (.iload_n 3, 1) := by decide +kernel
theorem dX10_chain_21 : decode cX10_chain 21 = .ok (.tableswitch 79 0 3 #[31, 41, 59, 69], 31) := by decide +kernel
theorem dX10_chain_52 : decode cX10_chain 52 = .ok (.aload_n 0, 1) := by decide +kernel
theorem dX10_chain_53 : decode cX10_chain 53 = .ok (.getfield 10, 3) := by decide +kernel
theorem dX10_chain_56 : decode cX10_chain 56 = .ok (.iload_n 1, 1) := by decide +kernel
theorem dX10_chain_57 : decode cX10_chain 57 = .ok (.iload_n 2, 1) := by decide +kernel
theorem dX10_chain_58 : decode cX10_chain 58 = .ok (.invokevirtual 161, 3) := by decide +kernel
theorem dX10_chain_61 : decode cX10_chain 61 = .ok (.ireturn, 1) := by decide +kernel
theorem dX10_chain_62 : decode cX10_chain 62 = .ok (.aload_n 0, 1) := by decide +kernel
theorem dX10_chain_63 : decode cX10_chain 63 = .ok (.getfield 10, 3) := by decide +kernel
theorem dX10_chain_66 : decode cX10_chain 66 = .ok (.iload_n 1, 1) := by decide +kernel
theorem dX10_chain_67 : decode cX10_chain 67 = .ok (.iload_n 2, 1) := by decide +kernel
theorem dX10_chain_68 : decode cX10_chain 68 = .ok (.invokevirtual 164, 3) := by decide +kernel
theorem dX10_chain_71 : decode cX10_chain 71 = .ok (.ifCond .eq 7, 3) := by decide +kernel
theorem dX10_chain_74 : decode cX10_chain 74 = .ok (.iconst 1, 1) := by decide +kernel
theorem dX10_chain_75 : decode cX10_chain 75 = .ok (.goto 4, 3) := by decide +kernel
theorem dX10_chain_78 : decode cX10_chain 78 = .ok (.iconst 0, 1) := by decide +kernel
theorem dX10_chain_79 : decode cX10_chain 79 = .ok (.ireturn, 1) := by decide +kernel
theorem dX10_chain_80 : decode cX10_chain 80 = .ok (.aload_n 0, 1) := by decide +kernel
theorem dX10_chain_81 : decode cX10_chain 81 = .ok (.getfield 72, 3) := by decide +kernel
theorem dX10_chain_84 : decode cX10_chain 84 = .ok (.iload_n 1, 1) := by decide +kernel
theorem dX10_chain_85 : decode cX10_chain 85 = .ok (.iload_n 2, 1) := by decide +kernel
theorem dX10_chain_86 : decode cX10_chain 86 = .ok (.invokevirtual 167, 3) := by decide +kernel
theorem dX10_chain_89 : decode cX10_chain 89 = .ok (.ireturn, 1) := by decide +kernel
theorem dX10_chain_90 : decode cX10_chain 90 = .ok (.aload_n 0, 1) := by decide +kernel
theorem dX10_chain_91 : decode cX10_chain 91 = .ok (.getfield 72, 3) := by decide +kernel
theorem dX10_chain_94 : decode cX10_chain 94 = .ok (.iload_n 1, 1) := by decide +kernel
theorem dX10_chain_95 : decode cX10_chain 95 = .ok (.iload_n 2, 1) := by decide +kernel
theorem dX10_chain_96 : decode cX10_chain 96 = .ok (.invokevirtual 170, 3) := by decide +kernel
theorem dX10_chain_99 : decode cX10_chain 99 = .ok (.ireturn, 1) := by decide +kernel
theorem dX10_chain_100 : decode cX10_chain 100 = .ok (.iconst (-1), 1) := by decide +kernel
theorem dX10_chain_101 : decode cX10_chain 101 = .ok (.ireturn, 1) := by decide +kernel
section
variable {p : Program} {l : Launch} {e : Env} {s : State} {m : MethodId} {args : Array Value} {below : List Frame} {meth : Method} {c : Code} {H : Heap} {locs : List Loc} {E : Ev} {S V : St} {ls : Array Slot}
set_option maxRecDepth 20000 in
theorem w_Ch_chain {N : Nat} {p1 : Int32} {p2 : Int32} {p3 : Int32} {r : Int32} {S9 : St} (C : Cx p s m args meth c E cX10_chain 4 RX10 (some .int)) (hw : Wd E (wX V E) s.heap S H locs) (hl : lv_has ls 4 [(0, .ref (ea E 0)), (1, .int p1), (2, .int p2), (3, .int p3)]) (hf : Ch_chain N S p1 p2 p3 = some (r, S9)) : W p l e (rmh 6) s m args below meth c H locs 0 0 (MQ below (QW E (wX V E) (some (.int r)) S9) args s 0 0 (eA E)) (F0 m 0 ls []) := by
  have hx := C.1
  have hb := C.2.1
  unfold Ch_chain at hf
  refine lv_aload_n hx hb dX10_chain_0 rfl (lv_at hl 0 rfl) ?_
  refine get_0_0 C hw q_375 dX10_chain_1 ?_
  refine lv_iload_n hx hb dX10_chain_4 rfl (lv_at hl 1 rfl) ?_
  obtain ⟨r1, hr, hf⟩ := hf_1 hf
  refine inv_Vi (q0 := 1) (ci := 8) (As := [.int p1]) lk_X10_155 C hw rfl rfl rfl (t_Sm_isOne hr) rfl hl.1 dX10_chain_5 rfl (Nat.le_of_ble_eq_true rfl) (by decide) (Nat.le_of_ble_eq_true rfl) rfl (fun H locs hw => ?_)
  refine lv_if_eq (tgt := 18) hx hb dX10_chain_8 (by decide) (fun q => ?_) (fun q => ?_)
  · have hf := hf_t q hf
    refine lv_iconst (v := -1) hx hb dX10_chain_18 kc_m1 ?_
    exact ret_iS C hw dX10_chain_19 hf
  · have hf := hf_f q hf
    refine lv_iload_n hx hb dX10_chain_11 rfl (lv_at hl 2 rfl) ?_
    obtain ⟨r2, hr, hf⟩ := hf_1 hf
    refine inv_Si (As := [.int p2]) lk_X10_158 C hw (t_Ch_isDay hr) hl.1 dX10_chain_12 rfl (Nat.le_of_ble_eq_true rfl) (by decide) (Nat.le_of_ble_eq_true rfl) rfl (fun H locs hw => ?_)
    refine lv_if_ne (tgt := 20) hx hb dX10_chain_15 (by decide) (fun q => ?_) (fun q => ?_)
    · have hf := hf_f q hf
      refine lv_iload_n hx hb dX10_chain_20 rfl (lv_at hl 3 rfl) ?_
      by_cases q0 : p3 = 0
      · have hf := hf_t q0 hf
        refine lv_tableIn (off := 31) (tgt := 52) hx hb dX10_chain_21 (by rw [q0]; decide) (by rw [q0]; decide) (by rw [q0]; rfl) (by decide) ?_
        refine lv_aload_n hx hb dX10_chain_52 rfl (lv_at hl 0 rfl) ?_
        refine get_0_0 C hw q_375 dX10_chain_53 ?_
        refine lv_iload_n hx hb dX10_chain_56 rfl (lv_at hl 1 rfl) ?_
        refine lv_iload_n hx hb dX10_chain_57 rfl (lv_at hl 2 rfl) ?_
        obtain ⟨r3, hr, hf⟩ := hf_1 hf
        refine inv_Vi (q0 := 1) (ci := 8) (As := [.int p1, .int p2]) lk_X10_161 C hw rfl rfl rfl (t_Sm_lengthOn hr) rfl hl.1 dX10_chain_58 rfl (Nat.le_of_ble_eq_true rfl) (by decide) (Nat.le_of_ble_eq_true rfl) rfl (fun H locs hw => ?_)
        exact ret_iS C hw dX10_chain_61 hf
      have hf := hf_f q0 hf
      by_cases q1 : p3 = 1
      · have hf := hf_t q1 hf
        refine lv_tableIn (off := 41) (tgt := 62) hx hb dX10_chain_21 (by rw [q1]; decide) (by rw [q1]; decide) (by rw [q1]; rfl) (by decide) ?_
        refine lv_aload_n hx hb dX10_chain_62 rfl (lv_at hl 0 rfl) ?_
        refine get_0_0 C hw q_375 dX10_chain_63 ?_
        refine lv_iload_n hx hb dX10_chain_66 rfl (lv_at hl 1 rfl) ?_
        refine lv_iload_n hx hb dX10_chain_67 rfl (lv_at hl 2 rfl) ?_
        obtain ⟨r4, hr, hf⟩ := hf_1 hf
        refine inv_Vi (q0 := 1) (ci := 8) (As := [.int p1, .int p2]) lk_X10_164 C hw rfl rfl rfl (t_Sm_ridesOn hr) rfl hl.1 dX10_chain_68 rfl (Nat.le_of_ble_eq_true rfl) (by decide) (Nat.le_of_ble_eq_true rfl) rfl (fun H locs hw => ?_)
        refine lv_if_eq (tgt := 78) hx hb dX10_chain_71 (by decide) (fun q => ?_) (fun q => ?_)
        · have hf := hf_t q hf
          refine lv_iconst (v := 0) hx hb dX10_chain_78 kc_0 ?_
          exact ret_iS C hw dX10_chain_79 hf
        · have hf := hf_f q hf
          refine lv_iconst (v := 1) hx hb dX10_chain_74 kc_1 ?_
          refine lv_goto (tgt := 79) hx hb dX10_chain_75 (by decide) ?_
          exact ret_iS C hw dX10_chain_79 hf
      have hf := hf_f q1 hf
      by_cases q2 : p3 = 2
      · have hf := hf_t q2 hf
        refine lv_tableIn (off := 59) (tgt := 80) hx hb dX10_chain_21 (by rw [q2]; decide) (by rw [q2]; decide) (by rw [q2]; rfl) (by decide) ?_
        refine lv_aload_n hx hb dX10_chain_80 rfl (lv_at hl 0 rfl) ?_
        refine get_0_5 C hw q_380 dX10_chain_81 ?_
        refine lv_iload_n hx hb dX10_chain_84 rfl (lv_at hl 1 rfl) ?_
        refine lv_iload_n hx hb dX10_chain_85 rfl (lv_at hl 2 rfl) ?_
        obtain ⟨r6, S5, hr, hf⟩ := hf_2 hf
        refine inv_Vi (q0 := 6) (ci := 1) (As := [.int p1, .int p2]) lk_X10_167 C hw rfl rfl rfl (t_Cr_ofOne hr) rfl hl.1 dX10_chain_86 rfl (Nat.le_of_ble_eq_true rfl) (by decide) (Nat.le_of_ble_eq_true rfl) rfl (fun H locs hw => ?_)
        exact ret_iS C hw dX10_chain_89 hf
      have hf := hf_f q2 hf
      by_cases q3 : p3 = 3
      · have hf := hf_t q3 hf
        refine lv_tableIn (off := 69) (tgt := 90) hx hb dX10_chain_21 (by rw [q3]; decide) (by rw [q3]; decide) (by rw [q3]; rfl) (by decide) ?_
        refine lv_aload_n hx hb dX10_chain_90 rfl (lv_at hl 0 rfl) ?_
        refine get_0_5 C hw q_380 dX10_chain_91 ?_
        refine lv_iload_n hx hb dX10_chain_94 rfl (lv_at hl 1 rfl) ?_
        refine lv_iload_n hx hb dX10_chain_95 rfl (lv_at hl 2 rfl) ?_
        obtain ⟨r7, hr, hf⟩ := hf_1 hf
        refine inv_Vi (q0 := 6) (ci := 1) (As := [.int p1, .int p2]) lk_X10_170 C hw rfl rfl rfl (t_Cr_debtOf hr) rfl hl.1 dX10_chain_96 rfl (Nat.le_of_ble_eq_true rfl) (by decide) (Nat.le_of_ble_eq_true rfl) rfl (fun H locs hw => ?_)
        exact ret_iS C hw dX10_chain_99 hf
      have hf := hf_f q3 hf
      refine lv_tableOut (tgt := 100) hx hb dX10_chain_21 (by have h0 := lv_neT (a := 0) q0 rfl; have h1 := lv_neT (a := 1) q1 rfl; have h2 := lv_neT (a := 2) q2 rfl; have h3 := lv_neT (a := 3) q3 rfl; omega) (by decide) ?_
      refine lv_iconst (v := -1) hx hb dX10_chain_100 kc_m1 ?_
      exact ret_iS C hw dX10_chain_101 hf
    · have hf := hf_t q hf
      refine lv_iconst (v := -1) hx hb dX10_chain_18 kc_m1 ?_
      exact ret_iS C hw dX10_chain_19 hf
end
theorem t_Ch_chain {l : Launch} {V : St} {N : Nat} {S : St} {p1 : Int32} {p2 : Int32} {p3 : Int32} {r : Int32} {S9 : St} (hf : Ch_chain N S p1 p2 p3 = some (r, S9)) : Ct l (wX V) yX10_chain cX10_chain 4 (some .int) 6 (fun E => [.ref (ea E 0), .int p1, .int p2, .int p3]) S (fun E => some (.int r)) S9 :=
  ofBlock (by decide +kernel) (fun _ => Nat.le_of_ble_eq_true rfl) (fun E p e s m args below meth c ls C hw hl => w_Ch_chain C hw hl hf)
theorem dX10_creak_0 : decode cX10_creak 0 = .ok (.aload_n 0, 1) := by decide +kernel
theorem dX10_creak_1 : decode cX10_creak 1 = .ok (.getfield 10, 3) := by decide +kernel
theorem dX10_creak_4 : decode cX10_creak 4 = .ok (.iload_n 1, 1) := by decide +kernel
theorem dX10_creak_5 : decode cX10_creak 5 = .ok (.invokevirtual 173, 3) := by decide +kernel
theorem dX10_creak_8 : decode cX10_creak 8 = .ok (.ifCond .eq 22, 3) := by decide +kernel
theorem dX10_creak_11 : decode cX10_creak 11 = .ok (.iload_n 2, 1) := by decide +kernel
theorem dX10_creak_12 : decode cX10_creak 12 = .ok (.invokestatic 158, 3) := by decide +kernel
theorem dX10_creak_15 : decode cX10_creak 15 = .ok (.ifCond .eq 15, 3) := by decide +kernel
theorem dX10_creak_18 : decode cX10_creak 18 = .ok (.aload_n 0, 1) := by decide +kernel
theorem dX10_creak_19 : decode cX10_creak 19 = .ok (.getfield 72, 3) := by decide +kernel
theorem dX10_creak_22 : decode cX10_creak 22 = .ok (.iload_n 1, 1) := by decide +kernel
theorem dX10_creak_23 : decode cX10_creak 23 = .ok (.iload_n 2, 1) := by decide +kernel
theorem dX10_creak_24 : decode cX10_creak 24 = .ok (.invokevirtual 176, 3) := by decide +kernel
theorem dX10_creak_27 : decode cX10_creak 27 = .ok (.goto 4, 3) := by decide +kernel
theorem dX10_creak_30 : decode cX10_creak 30 = .ok (.iconst (-1), 1) := by decide +kernel
theorem dX10_creak_31 : decode cX10_creak 31 = .ok (.ireturn, 1) := by decide +kernel
section
variable {p : Program} {l : Launch} {e : Env} {s : State} {m : MethodId} {args : Array Value} {below : List Frame} {meth : Method} {c : Code} {H : Heap} {locs : List Loc} {E : Ev} {S V : St} {ls : Array Slot}
set_option maxRecDepth 20000 in
theorem w_Ch_creak {N : Nat} {p1 : Int32} {p2 : Int32} {r : Int32} {S9 : St} (C : Cx p s m args meth c E cX10_creak 3 RX10 (some .int)) (hw : Wd E (wX V E) s.heap S H locs) (hl : lv_has ls 3 [(0, .ref (ea E 0)), (1, .int p1), (2, .int p2)]) (hf : Ch_creak N S p1 p2 = some (r, S9)) : W p l e (rmh 5) s m args below meth c H locs 0 0 (MQ below (QW E (wX V E) (some (.int r)) S9) args s 0 0 (eA E)) (F0 m 0 ls []) := by
  have hx := C.1
  have hb := C.2.1
  unfold Ch_creak at hf
  refine lv_aload_n hx hb dX10_creak_0 rfl (lv_at hl 0 rfl) ?_
  refine get_0_0 C hw q_375 dX10_creak_1 ?_
  refine lv_iload_n hx hb dX10_creak_4 rfl (lv_at hl 1 rfl) ?_
  obtain ⟨r1, hr, hf⟩ := hf_1 hf
  refine inv_Vi (q0 := 1) (ci := 8) (As := [.int p1]) lk_X10_173 C hw rfl rfl rfl (t_Sm_isPromise hr) rfl hl.1 dX10_creak_5 rfl (Nat.le_of_ble_eq_true rfl) (by decide) (Nat.le_of_ble_eq_true rfl) rfl (fun H locs hw => ?_)
  refine lv_if_eq (tgt := 30) hx hb dX10_creak_8 (by decide) (fun q => ?_) (fun q => ?_)
  · have hf := hf_t q hf
    refine lv_iconst (v := -1) hx hb dX10_creak_30 kc_m1 ?_
    exact ret_iS C hw dX10_creak_31 hf
  · have hf := hf_f q hf
    refine lv_iload_n hx hb dX10_creak_11 rfl (lv_at hl 2 rfl) ?_
    obtain ⟨r2, hr, hf⟩ := hf_1 hf
    refine inv_Si (As := [.int p2]) lk_X10_158 C hw (t_Ch_isDay hr) hl.1 dX10_creak_12 rfl (Nat.le_of_ble_eq_true rfl) (by decide) (Nat.le_of_ble_eq_true rfl) rfl (fun H locs hw => ?_)
    refine lv_if_eq (tgt := 30) hx hb dX10_creak_15 (by decide) (fun q => ?_) (fun q => ?_)
    · have hf := hf_t q hf
      refine lv_iconst (v := -1) hx hb dX10_creak_30 kc_m1 ?_
      exact ret_iS C hw dX10_creak_31 hf
    · have hf := hf_f q hf
      refine lv_aload_n hx hb dX10_creak_18 rfl (lv_at hl 0 rfl) ?_
      refine get_0_5 C hw q_380 dX10_creak_19 ?_
      refine lv_iload_n hx hb dX10_creak_22 rfl (lv_at hl 1 rfl) ?_
      refine lv_iload_n hx hb dX10_creak_23 rfl (lv_at hl 2 rfl) ?_
      obtain ⟨r4, S3, hr, hf⟩ := hf_2 hf
      refine inv_Vi (q0 := 6) (ci := 1) (As := [.int p1, .int p2]) lk_X10_176 C hw rfl rfl rfl (t_Cr_ofPromise hr) rfl hl.1 dX10_creak_24 rfl (Nat.le_of_ble_eq_true rfl) (by decide) (Nat.le_of_ble_eq_true rfl) rfl (fun H locs hw => ?_)
      refine lv_goto (tgt := 31) hx hb dX10_creak_27 (by decide) ?_
      exact ret_iS C hw dX10_creak_31 hf
end
theorem t_Ch_creak {l : Launch} {V : St} {N : Nat} {S : St} {p1 : Int32} {p2 : Int32} {r : Int32} {S9 : St} (hf : Ch_creak N S p1 p2 = some (r, S9)) : Ct l (wX V) yX10_creak cX10_creak 3 (some .int) 5 (fun E => [.ref (ea E 0), .int p1, .int p2]) S (fun E => some (.int r)) S9 :=
  ofBlock (by decide +kernel) (fun _ => Nat.le_of_ble_eq_true rfl) (fun E p e s m args below meth c ls C hw hl => w_Ch_creak C hw hl hf)
theorem dX10_rides_0 : decode cX10_rides 0 = .ok (.aload_n 0, 1) := by decide +kernel
theorem dX10_rides_1 : decode cX10_rides 1 = .ok (.getfield 10, 3) := by decide +kernel
theorem dX10_rides_4 : decode cX10_rides 4 = .ok (.iload_n 1, 1) := by decide +kernel
theorem dX10_rides_5 : decode cX10_rides 5 = .ok (.invokevirtual 155, 3) := by decide +kernel
theorem dX10_rides_8 : decode cX10_rides 8 = .ok (.ifCond .eq 10, 3) := by decide +kernel
theorem dX10_rides_11 : decode cX10_rides 11 = .ok (.iload_n 2, 1) := by decide +kernel
theorem dX10_rides_12 : decode cX10_rides 12 = .ok (.invokestatic 158, 3) := by decide +kernel
theorem dX10_rides_15 : decode cX10_rides 15 = .ok (.ifCond .ne 5, 3) := by decide +kernel
theorem dX10_rides_18 : decode cX10_rides 18 = .ok (.iconst (-1), 1) := by decide +kernel
theorem dX10_rides_19 : decode cX10_rides 19 = .ok (.ireturn, 1) := by decide +kernel
theorem dX10_rides_20 : decode cX10_rides 20 = .ok (.iload_n 3, 1) := by decide +kernel
theorem dX10_rides_21 : decode cX10_rides 21 = .ok (.iconst (-1), 1) := by decide +kernel
theorem dX10_rides_22 : decode cX10_rides 22 = .ok (.if_icmp .ne 13, 3) := by decide +kernel
theorem dX10_rides_25 : decode cX10_rides 25 = .ok (.aload_n 0, 1) := by decide +kernel
theorem dX10_rides_26 : decode cX10_rides 26 = .ok (.getfield 49, 3) := by decide +kernel
theorem dX10_rides_29 : decode cX10_rides 29 = .ok (.iload_n 1, 1) := by decide +kernel
theorem dX10_rides_30 : decode cX10_rides 30 = .ok (.iload_n 2, 1) := by decide +kernel
theorem dX10_rides_31 : decode cX10_rides 31 = .ok (.invokevirtual 179, 3) := by decide +kernel
theorem dX10_rides_34 : decode cX10_rides 34 = .ok (.ireturn, 1) := by decide +kernel
theorem dX10_rides_35 : decode cX10_rides 35 = .ok (.iload_n 3, 1) := by decide +kernel
theorem dX10_rides_36 : decode cX10_rides 36 = .ok (.invokestatic 158, 3) := by decide +kernel
theorem dX10_rides_39 : decode cX10_rides 39 = .ok (.ifCond .eq 21, 3) := by decide +kernel
theorem dX10_rides_42 : decode cX10_rides 42 = .ok (.iload_n 3, 1) := by decide +kernel
theorem dX10_rides_43 : decode cX10_rides 43 = .ok (.iload_n 2, 1) := by decide +kernel
theorem dX10_rides_44 : decode cX10_rides 44 = .ok (.if_icmp .lt 16, 3) := by decide +kernel
theorem dX10_rides_47 : decode cX10_rides 47 = .ok (.aload_n 0, 1) := by decide +kernel
theorem dX10_rides_48 : decode cX10_rides 48 = .ok (.getfield 49, 3) := by decide +kernel
theorem dX10_rides_51 : decode cX10_rides 51 = .ok (.iload_n 1, 1) := by decide +kernel
theorem dX10_rides_52 : decode cX10_rides 52 = .ok (.iload_n 2, 1) := by decide +kernel
theorem dX10_rides_53 : decode cX10_rides 53 = .ok (.iload_n 3, 1) := by decide +kernel
theorem dX10_rides_54 : decode cX10_rides 54 = .ok (.invokevirtual 182, 3) := by decide +kernel
theorem dX10_rides_57 : decode cX10_rides 57 = .ok (.goto 4, 3) := by decide +kernel
theorem dX10_rides_60 : decode cX10_rides 60 = .ok (.iconst (-1), 1) := by decide +kernel
theorem dX10_rides_61 : decode cX10_rides 61 = .ok (.ireturn, 1) := by decide +kernel
section
variable {p : Program} {l : Launch} {e : Env} {s : State} {m : MethodId} {args : Array Value} {below : List Frame} {meth : Method} {c : Code} {H : Heap} {locs : List Loc} {E : Ev} {S V : St} {ls : Array Slot}
set_option maxRecDepth 20000 in
theorem w_Ch_rides {N : Nat} {p1 : Int32} {p2 : Int32} {p3 : Int32} {r : Int32} {S9 : St} (C : Cx p s m args meth c E cX10_rides 4 RX10 (some .int)) (hw : Wd E (wX V E) s.heap S H locs) (hl : lv_has ls 4 [(0, .ref (ea E 0)), (1, .int p1), (2, .int p2), (3, .int p3)]) (hf : Ch_rides N S p1 p2 p3 = some (r, S9)) : W p l e (rmh 6) s m args below meth c H locs 0 0 (MQ below (QW E (wX V E) (some (.int r)) S9) args s 0 0 (eA E)) (F0 m 0 ls []) := by
  have hx := C.1
  have hb := C.2.1
  unfold Ch_rides at hf
  refine lv_aload_n hx hb dX10_rides_0 rfl (lv_at hl 0 rfl) ?_
  refine get_0_0 C hw q_375 dX10_rides_1 ?_
  refine lv_iload_n hx hb dX10_rides_4 rfl (lv_at hl 1 rfl) ?_
  obtain ⟨r1, hr, hf⟩ := hf_1 hf
  refine inv_Vi (q0 := 1) (ci := 8) (As := [.int p1]) lk_X10_155 C hw rfl rfl rfl (t_Sm_isOne hr) rfl hl.1 dX10_rides_5 rfl (Nat.le_of_ble_eq_true rfl) (by decide) (Nat.le_of_ble_eq_true rfl) rfl (fun H locs hw => ?_)
  refine lv_if_eq (tgt := 18) hx hb dX10_rides_8 (by decide) (fun q => ?_) (fun q => ?_)
  · have hf := hf_t q hf
    refine lv_iconst (v := -1) hx hb dX10_rides_18 kc_m1 ?_
    exact ret_iS C hw dX10_rides_19 hf
  · have hf := hf_f q hf
    refine lv_iload_n hx hb dX10_rides_11 rfl (lv_at hl 2 rfl) ?_
    obtain ⟨r2, hr, hf⟩ := hf_1 hf
    refine inv_Si (As := [.int p2]) lk_X10_158 C hw (t_Ch_isDay hr) hl.1 dX10_rides_12 rfl (Nat.le_of_ble_eq_true rfl) (by decide) (Nat.le_of_ble_eq_true rfl) rfl (fun H locs hw => ?_)
    refine lv_if_ne (tgt := 20) hx hb dX10_rides_15 (by decide) (fun q => ?_) (fun q => ?_)
    · have hf := hf_f q hf
      refine lv_iload_n hx hb dX10_rides_20 rfl (lv_at hl 3 rfl) ?_
      refine lv_iconst (v := -1) hx hb dX10_rides_21 kc_m1 ?_
      refine lv_icmp_ne (tgt := 35) hx hb dX10_rides_22 (by decide) (fun q => ?_) (fun q => ?_)
      · have hf := hf_f q hf
        refine lv_iload_n hx hb dX10_rides_35 rfl (lv_at hl 3 rfl) ?_
        obtain ⟨r3, hr, hf⟩ := hf_1 hf
        refine inv_Si (As := [.int p3]) lk_X10_158 C hw (t_Ch_isDay hr) hl.1 dX10_rides_36 rfl (Nat.le_of_ble_eq_true rfl) (by decide) (Nat.le_of_ble_eq_true rfl) rfl (fun H locs hw => ?_)
        refine lv_if_eq (tgt := 60) hx hb dX10_rides_39 (by decide) (fun q => ?_) (fun q => ?_)
        · have hf := hf_t q hf
          refine lv_iconst (v := -1) hx hb dX10_rides_60 kc_m1 ?_
          exact ret_iS C hw dX10_rides_61 hf
        · have hf := hf_f q hf
          refine lv_iload_n hx hb dX10_rides_42 rfl (lv_at hl 3 rfl) ?_
          refine lv_iload_n hx hb dX10_rides_43 rfl (lv_at hl 2 rfl) ?_
          refine lv_icmp_lt (tgt := 60) hx hb dX10_rides_44 (by decide) (fun q => ?_) (fun q => ?_)
          · have hf := hf_t q hf
            refine lv_iconst (v := -1) hx hb dX10_rides_60 kc_m1 ?_
            exact ret_iS C hw dX10_rides_61 hf
          · have hf := hf_f q hf
            refine lv_aload_n hx hb dX10_rides_47 rfl (lv_at hl 0 rfl) ?_
            refine get_0_2 C hw q_377 dX10_rides_48 ?_
            refine lv_iload_n hx hb dX10_rides_51 rfl (lv_at hl 1 rfl) ?_
            refine lv_iload_n hx hb dX10_rides_52 rfl (lv_at hl 2 rfl) ?_
            refine lv_iload_n hx hb dX10_rides_53 rfl (lv_at hl 3 rfl) ?_
            obtain ⟨r5, S4, hr, hf⟩ := hf_2 hf
            refine inv_Vi (q0 := 3) (ci := 2) (As := [.int p1, .int p2, .int p3]) lk_X10_182 C hw rfl rfl rfl (t_Dy_ridesWithin hr) rfl hl.1 dX10_rides_54 rfl (Nat.le_of_ble_eq_true rfl) (by decide) (Nat.le_of_ble_eq_true rfl) rfl (fun H locs hw => ?_)
            refine lv_goto (tgt := 61) hx hb dX10_rides_57 (by decide) ?_
            exact ret_iS C hw dX10_rides_61 hf
      · have hf := hf_t q hf
        refine lv_aload_n hx hb dX10_rides_25 rfl (lv_at hl 0 rfl) ?_
        refine get_0_2 C hw q_377 dX10_rides_26 ?_
        refine lv_iload_n hx hb dX10_rides_29 rfl (lv_at hl 1 rfl) ?_
        refine lv_iload_n hx hb dX10_rides_30 rfl (lv_at hl 2 rfl) ?_
        obtain ⟨r7, S6, hr, hf⟩ := hf_2 hf
        refine inv_Vi (q0 := 3) (ci := 2) (As := [.int p1, .int p2]) lk_X10_179 C hw rfl rfl rfl (t_Dy_firstRideFrom hr) rfl hl.1 dX10_rides_31 rfl (Nat.le_of_ble_eq_true rfl) (by decide) (Nat.le_of_ble_eq_true rfl) rfl (fun H locs hw => ?_)
        exact ret_iS C hw dX10_rides_34 hf
    · have hf := hf_t q hf
      refine lv_iconst (v := -1) hx hb dX10_rides_18 kc_m1 ?_
      exact ret_iS C hw dX10_rides_19 hf
end
theorem t_Ch_rides {l : Launch} {V : St} {N : Nat} {S : St} {p1 : Int32} {p2 : Int32} {p3 : Int32} {r : Int32} {S9 : St} (hf : Ch_rides N S p1 p2 p3 = some (r, S9)) : Ct l (wX V) yX10_rides cX10_rides 4 (some .int) 6 (fun E => [.ref (ea E 0), .int p1, .int p2, .int p3]) S (fun E => some (.int r)) S9 :=
  ofBlock (by decide +kernel) (fun _ => Nat.le_of_ble_eq_true rfl) (fun E p e s m args below meth c ls C hw hl => w_Ch_rides C hw hl hf)
theorem dX10_isEither_0 : decode cX10_isEither 0 = .ok (.iload_n 0, 1) := by decide +kernel
theorem dX10_isEither_1 : decode cX10_isEither 1 = .ok (.ifCond .eq 8, 3) := by decide +kernel
theorem dX10_isEither_4 : decode cX10_isEither 4 = .ok (.iload_n 0, 1) := by decide +kernel
theorem dX10_isEither_5 : decode cX10_isEither 5 = .ok (.iconst 1, 1) := by decide +kernel
theorem dX10_isEither_6 : decode cX10_isEither 6 = .ok (.if_icmp .ne 7, 3) := by decide +kernel
theorem dX10_isEither_9 : decode cX10_isEither 9 = .ok (.iconst 1, 1) := by decide +kernel
theorem dX10_isEither_10 : decode cX10_isEither 10 = .ok (.goto 4, 3) := by decide +kernel
theorem dX10_isEither_13 : decode cX10_isEither 13 = .ok (.iconst 0, 1) := by decide +kernel
theorem dX10_isEither_14 : decode cX10_isEither 14 = .ok (.ireturn, 1) := by decide +kernel
section
variable {p : Program} {l : Launch} {e : Env} {s : State} {m : MethodId} {args : Array Value} {below : List Frame} {meth : Method} {c : Code} {H : Heap} {locs : List Loc} {E : Ev} {S V : St} {ls : Array Slot}
set_option maxRecDepth 20000 in
theorem w_Ch_isEither {p1 : Int32} {r : Int32} (C : Cx p s m args meth c E cX10_isEither 1 RX10 (some .boolean)) (hw : Wd E (wX V E) s.heap S H locs) (hl : lv_has ls 1 [(0, .int p1)]) (hf : Ch_isEither S p1 = some r) : W p l e (rmh 1) s m args below meth c H locs 0 0 (MQ below (QW E (wX V E) (some (.int r)) S) args s 0 0 (eA E)) (F0 m 0 ls []) := by
  have hx := C.1
  have hb := C.2.1
  unfold Ch_isEither at hf
  refine lv_iload_n hx hb dX10_isEither_0 rfl (lv_at hl 0 rfl) ?_
  refine lv_if_eq (tgt := 9) hx hb dX10_isEither_1 (by decide) (fun q => ?_) (fun q => ?_)
  · have hf := hf_t q hf
    refine lv_iconst (v := 1) hx hb dX10_isEither_9 kc_1 ?_
    refine lv_goto (tgt := 14) hx hb dX10_isEither_10 (by decide) ?_
    exact ret_z rfl C hw dX10_isEither_14 hf
  · have hf := hf_f q hf
    refine lv_iload_n hx hb dX10_isEither_4 rfl (lv_at hl 0 rfl) ?_
    refine lv_iconst (v := 1) hx hb dX10_isEither_5 kc_1 ?_
    refine lv_icmp_ne (tgt := 13) hx hb dX10_isEither_6 (by decide) (fun q => ?_) (fun q => ?_)
    · have hf := hf_f q hf
      refine lv_iconst (v := 0) hx hb dX10_isEither_13 kc_0 ?_
      exact ret_z rfl C hw dX10_isEither_14 hf
    · have hf := hf_t q hf
      refine lv_iconst (v := 1) hx hb dX10_isEither_9 kc_1 ?_
      refine lv_goto (tgt := 14) hx hb dX10_isEither_10 (by decide) ?_
      exact ret_z rfl C hw dX10_isEither_14 hf
end
theorem t_Ch_isEither {l : Launch} {V : St} {S : St} {p1 : Int32} {r : Int32} (hf : Ch_isEither S p1 = some r) : Ct l (wX V) yX10_isEither cX10_isEither 1 (some .boolean) 1 (fun E => [.int p1]) S (fun E => some (.int r)) S :=
  ofBlock (by decide +kernel) (fun _ => Nat.le_of_ble_eq_true rfl) (fun E p e s m args below meth c ls C hw hl => w_Ch_isEither C hw hl hf)
theorem dX10_ride_0 : decode cX10_ride 0 = .ok (.aload_n 0, 1) := by decide +kernel
theorem dX10_ride_1 : decode cX10_ride 1 = .ok (.getfield 10, 3) := by decide +kernel
theorem dX10_ride_4 : decode cX10_ride 4 = .ok (.iload_n 1, 1) := by decide +kernel
theorem dX10_ride_5 : decode cX10_ride 5 = .ok (.invokevirtual 155, 3) := by decide +kernel
theorem dX10_ride_8 : decode cX10_ride 8 = .ok (.ifCond .eq 10, 3) := by decide +kernel
theorem dX10_ride_11 : decode cX10_ride 11 = .ok (.iload_n 2, 1) := by decide +kernel
theorem dX10_ride_12 : decode cX10_ride 12 = .ok (.invokestatic 185, 3) := by decide +kernel
theorem dX10_ride_15 : decode cX10_ride 15 = .ok (.ifCond .ne 5, 3) := by decide +kernel
theorem dX10_ride_18 : decode cX10_ride 18 = .ok (.iconst (-1), 1) := by decide +kernel
theorem dX10_ride_19 : decode cX10_ride 19 = .ok (.ireturn, 1) := by decide +kernel
theorem dX10_ride_20 : decode cX10_ride 20 = .ok (.aload_n 0, 1) := by decide +kernel
theorem dX10_ride_21 : decode cX10_ride 21 = .ok (.getfield 49, 3) := by decide +kernel
theorem dX10_ride_24 : decode cX10_ride 24 = .ok (.iload_n 1, 1) := by decide +kernel
theorem dX10_ride_25 : decode cX10_ride 25 = .ok (.invokevirtual 188, 3) := by decide +kernel
theorem dX10_ride_28 : decode cX10_ride 28 = .ok (.istore_n 3, 1) := by decide +kernel
theorem dX10_ride_29 : decode cX10_ride 29 = .ok (.iload_n 2, 1) := by decide +kernel
theorem dX10_ride_30 : decode cX10_ride 30 = .ok (.iconst 1, 1) := by decide +kernel
theorem dX10_ride_31 : decode cX10_ride 31 = .ok (.if_icmp .ne 5, 3) := by decide +kernel
theorem dX10_ride_34 : decode cX10_ride 34 = .ok (.iload_n 3, 1) := by decide +kernel
theorem dX10_ride_35 : decode cX10_ride 35 = .ok (.ireturn, 1) := by decide +kernel
theorem dX10_ride_36 : decode cX10_ride 36 = .ok (.iload_n 3, 1) := by decide +kernel
theorem dX10_ride_37 : decode cX10_ride 37 = .ok (.bipush (-2), 2) := by decide +kernel
theorem dX10_ride_39 : decode cX10_ride 39 = .ok (.if_icmp .ne 7, 3) := by decide +kernel
theorem dX10_ride_42 : decode cX10_ride 42 = .ok (.iconst 0, 1) := by decide +kernel
theorem dX10_ride_43 : decode cX10_ride 43 = .ok (.goto 12, 3) := by decide +kernel
theorem dX10_ride_46 : decode cX10_ride 46 = .ok (.aload_n 0, 1) := by decide +kernel
theorem dX10_ride_47 : decode cX10_ride 47 = .ok (.getfield 49, 3) := by decide +kernel
theorem dX10_ride_50 : decode cX10_ride 50 = .ok (.iload_n 1, 1) := by decide +kernel
theorem dX10_ride_51 : decode cX10_ride 51 = .ok (.iload_n 3, 1) := by decide +kernel
theorem dX10_ride_52 : decode cX10_ride 52 = .ok (.invokevirtual 191, 3) := by decide +kernel
theorem dX10_ride_55 : decode cX10_ride 55 = .ok (.ireturn, 1) := by decide +kernel
section
variable {p : Program} {l : Launch} {e : Env} {s : State} {m : MethodId} {args : Array Value} {below : List Frame} {meth : Method} {c : Code} {H : Heap} {locs : List Loc} {E : Ev} {S V : St} {ls : Array Slot}
set_option maxRecDepth 20000 in
theorem w_Ch_ride {N : Nat} {p1 : Int32} {p2 : Int32} {r : Int32} {S9 : St} (C : Cx p s m args meth c E cX10_ride 4 RX10 (some .int)) (hw : Wd E (wX V E) s.heap S H locs) (hl : lv_has ls 4 [(0, .ref (ea E 0)), (1, .int p1), (2, .int p2)]) (hf : Ch_ride N S p1 p2 = some (r, S9)) : W p l e (rmh 5) s m args below meth c H locs 0 0 (MQ below (QW E (wX V E) (some (.int r)) S9) args s 0 0 (eA E)) (F0 m 0 ls []) := by
  have hx := C.1
  have hb := C.2.1
  unfold Ch_ride at hf
  refine lv_aload_n hx hb dX10_ride_0 rfl (lv_at hl 0 rfl) ?_
  refine get_0_0 C hw q_375 dX10_ride_1 ?_
  refine lv_iload_n hx hb dX10_ride_4 rfl (lv_at hl 1 rfl) ?_
  obtain ⟨r1, hr, hf⟩ := hf_1 hf
  refine inv_Vi (q0 := 1) (ci := 8) (As := [.int p1]) lk_X10_155 C hw rfl rfl rfl (t_Sm_isOne hr) rfl hl.1 dX10_ride_5 rfl (Nat.le_of_ble_eq_true rfl) (by decide) (Nat.le_of_ble_eq_true rfl) rfl (fun H locs hw => ?_)
  refine lv_if_eq (tgt := 18) hx hb dX10_ride_8 (by decide) (fun q => ?_) (fun q => ?_)
  · have hf := hf_t q hf
    refine lv_iconst (v := -1) hx hb dX10_ride_18 kc_m1 ?_
    exact ret_iS C hw dX10_ride_19 hf
  · have hf := hf_f q hf
    refine lv_iload_n hx hb dX10_ride_11 rfl (lv_at hl 2 rfl) ?_
    obtain ⟨r2, hr, hf⟩ := hf_1 hf
    refine inv_Si (As := [.int p2]) lk_X10_185 C hw (t_Ch_isEither hr) hl.1 dX10_ride_12 rfl (Nat.le_of_ble_eq_true rfl) (by decide) (Nat.le_of_ble_eq_true rfl) rfl (fun H locs hw => ?_)
    refine lv_if_ne (tgt := 20) hx hb dX10_ride_15 (by decide) (fun q => ?_) (fun q => ?_)
    · have hf := hf_f q hf
      refine lv_aload_n hx hb dX10_ride_20 rfl (lv_at hl 0 rfl) ?_
      refine get_0_2 C hw q_377 dX10_ride_21 ?_
      refine lv_iload_n hx hb dX10_ride_24 rfl (lv_at hl 1 rfl) ?_
      obtain ⟨r4, S3, hr, hf⟩ := hf_2 hf
      refine inv_Vi (q0 := 3) (ci := 2) (As := [.int p1]) lk_X10_188 C hw rfl rfl rfl (t_Dy_longestRideStart hr) rfl hl.1 dX10_ride_25 rfl (Nat.le_of_ble_eq_true rfl) (by decide) (Nat.le_of_ble_eq_true rfl) rfl (fun H locs hw => ?_)
      refine lv_istore_n (lv' := [(3, .int r4), (0, .ref (ea E 0)), (1, .int p1), (2, .int p2)]) hx hb dX10_ride_28 rfl hl (by decide) rfl (fun ls hl => ?_)
      refine lv_iload_n hx hb dX10_ride_29 rfl (lv_at hl 3 rfl) ?_
      refine lv_iconst (v := 1) hx hb dX10_ride_30 kc_1 ?_
      refine lv_icmp_ne (tgt := 36) hx hb dX10_ride_31 (by decide) (fun q => ?_) (fun q => ?_)
      · have hf := hf_f q hf
        refine lv_iload_n hx hb dX10_ride_36 rfl (lv_at hl 0 rfl) ?_
        refine lv_bipush (v := -2) hx hb dX10_ride_37 kb_m2 ?_
        refine lv_icmp_ne (tgt := 46) hx hb dX10_ride_39 (by decide) (fun q => ?_) (fun q => ?_)
        · have hf := hf_f q hf
          refine lv_aload_n hx hb dX10_ride_46 rfl (lv_at hl 1 rfl) ?_
          refine get_0_2 C hw q_377 dX10_ride_47 ?_
          refine lv_iload_n hx hb dX10_ride_50 rfl (lv_at hl 2 rfl) ?_
          refine lv_iload_n hx hb dX10_ride_51 rfl (lv_at hl 0 rfl) ?_
          obtain ⟨r6, S5, hr, hf⟩ := hf_2 hf
          refine inv_Vi (q0 := 3) (ci := 2) (As := [.int p1, .int r4]) lk_X10_191 C hw rfl rfl rfl (t_Dy_rideFrom hr) rfl hl.1 dX10_ride_52 rfl (Nat.le_of_ble_eq_true rfl) (by decide) (Nat.le_of_ble_eq_true rfl) rfl (fun H locs hw => ?_)
          exact ret_iS C hw dX10_ride_55 hf
        · have hf := hf_t q hf
          refine lv_iconst (v := 0) hx hb dX10_ride_42 kc_0 ?_
          refine lv_goto (tgt := 55) hx hb dX10_ride_43 (by decide) ?_
          exact ret_iS C hw dX10_ride_55 hf
      · have hf := hf_t q hf
        refine lv_iload_n hx hb dX10_ride_34 rfl (lv_at hl 0 rfl) ?_
        exact ret_iS C hw dX10_ride_35 hf
    · have hf := hf_t q hf
      refine lv_iconst (v := -1) hx hb dX10_ride_18 kc_m1 ?_
      exact ret_iS C hw dX10_ride_19 hf
end
theorem t_Ch_ride {l : Launch} {V : St} {N : Nat} {S : St} {p1 : Int32} {p2 : Int32} {r : Int32} {S9 : St} (hf : Ch_ride N S p1 p2 = some (r, S9)) : Ct l (wX V) yX10_ride cX10_ride 4 (some .int) 5 (fun E => [.ref (ea E 0), .int p1, .int p2]) S (fun E => some (.int r)) S9 :=
  ofBlock (by decide +kernel) (fun _ => Nat.le_of_ble_eq_true rfl) (fun E p e s m args below meth c ls C hw hl => w_Ch_ride C hw hl hf)
theorem dX10_who_0 : decode cX10_who 0 = .ok (.iload_n 1, 1) := by decide +kernel
theorem dX10_who_1 : decode cX10_who 1 = .ok (.invokestatic 158, 3) := by decide +kernel
theorem dX10_who_4 : decode cX10_who 4 = .ok (.ifCond .eq 14, 3) := by decide +kernel
theorem dX10_who_7 : decode cX10_who 7 = .ok (.aload_n 0, 1) := by decide +kernel
theorem dX10_who_8 : decode cX10_who 8 = .ok (.getfield 10, 3) := by decide +kernel
theorem dX10_who_11 : decode cX10_who 11 = .ok (.iload_n 1, 1) := by decide +kernel
theorem dX10_who_12 : decode cX10_who 12 = .ok (.invokevirtual 194, 3) := by decide +kernel
theorem dX10_who_15 : decode cX10_who 15 = .ok (.goto 4, 3) := by decide +kernel
theorem dX10_who_18 : decode cX10_who 18 = .ok (.iconst (-1), 1) := by decide +kernel
theorem dX10_who_19 : decode cX10_who 19 = .ok (.ireturn, 1) := by decide +kernel
section
variable {p : Program} {l : Launch} {e : Env} {s : State} {m : MethodId} {args : Array Value} {below : List Frame} {meth : Method} {c : Code} {H : Heap} {locs : List Loc} {E : Ev} {S V : St} {ls : Array Slot}
set_option maxRecDepth 20000 in
theorem w_Ch_who {N : Nat} {p1 : Int32} {r : Int32} (C : Cx p s m args meth c E cX10_who 2 RX10 (some .int)) (hw : Wd E (wX V E) s.heap S H locs) (hl : lv_has ls 2 [(0, .ref (ea E 0)), (1, .int p1)]) (hf : Ch_who N S p1 = some r) : W p l e (rmh 5) s m args below meth c H locs 0 0 (MQ below (QW E (wX V E) (some (.int r)) S) args s 0 0 (eA E)) (F0 m 0 ls []) := by
  have hx := C.1
  have hb := C.2.1
  unfold Ch_who at hf
  refine lv_iload_n hx hb dX10_who_0 rfl (lv_at hl 1 rfl) ?_
  obtain ⟨r1, hr, hf⟩ := hf_1 hf
  refine inv_Si (As := [.int p1]) lk_X10_158 C hw (t_Ch_isDay hr) hl.1 dX10_who_1 rfl (Nat.le_of_ble_eq_true rfl) (by decide) (Nat.le_of_ble_eq_true rfl) rfl (fun H locs hw => ?_)
  refine lv_if_eq (tgt := 18) hx hb dX10_who_4 (by decide) (fun q => ?_) (fun q => ?_)
  · have hf := hf_t q hf
    refine lv_iconst (v := -1) hx hb dX10_who_18 kc_m1 ?_
    exact ret_i C hw dX10_who_19 hf
  · have hf := hf_f q hf
    refine lv_aload_n hx hb dX10_who_7 rfl (lv_at hl 0 rfl) ?_
    refine get_0_0 C hw q_375 dX10_who_8 ?_
    refine lv_iload_n hx hb dX10_who_11 rfl (lv_at hl 1 rfl) ?_
    obtain ⟨r2, hr, hf⟩ := hf_1 hf
    refine inv_Vi (q0 := 1) (ci := 8) (As := [.int p1]) lk_X10_194 C hw rfl rfl rfl (t_Sm_ridersOn hr) rfl hl.1 dX10_who_12 rfl (Nat.le_of_ble_eq_true rfl) (by decide) (Nat.le_of_ble_eq_true rfl) rfl (fun H locs hw => ?_)
    refine lv_goto (tgt := 19) hx hb dX10_who_15 (by decide) ?_
    exact ret_i C hw dX10_who_19 hf
end
theorem t_Ch_who {l : Launch} {V : St} {N : Nat} {S : St} {p1 : Int32} {r : Int32} (hf : Ch_who N S p1 = some r) : Ct l (wX V) yX10_who cX10_who 2 (some .int) 5 (fun E => [.ref (ea E 0), .int p1]) S (fun E => some (.int r)) S :=
  ofBlock (by decide +kernel) (fun _ => Nat.le_of_ble_eq_true rfl) (fun E p e s m args below meth c ls C hw hl => w_Ch_who C hw hl hf)
theorem dX10_best_0 : decode cX10_best 0 = .ok (.iload_n 1, 1) := by decide +kernel
theorem dX10_best_1 : decode cX10_best 1 = .ok (.invokestatic 185, 3) := by decide +kernel
theorem dX10_best_4 : decode cX10_best 4 = .ok (.ifCond .ne 5, 3) := by decide +kernel
theorem dX10_best_7 : decode cX10_best 7 = .ok (.iconst (-1), 1) := by decide +kernel
theorem dX10_best_8 : decode cX10_best 8 = .ok (.ireturn, 1) := by decide +kernel
theorem dX10_best_9 : decode cX10_best 9 = .ok (.aload_n 0, 1) := by decide +kernel
theorem dX10_best_10 : decode cX10_best 10 = .ok (.getfield 49, 3) := by decide +kernel
theorem dX10_best_13 : decode cX10_best 13 = .ok (.invokevirtual 197, 3) := by decide +kernel
theorem dX10_best_16 : decode cX10_best 16 = .ok (.istore_n 2, 1) := by decide +kernel
theorem dX10_best_17 : decode cX10_best 17 = .ok (.iload_n 1, 1) := by decide +kernel
theorem dX10_best_18 : decode cX10_best 18 = .ok (.ifCond .ne 7, 3) := by decide +kernel
theorem dX10_best_21 : decode cX10_best 21 = .ok (.iload_n 2, 1) := by decide +kernel
theorem dX10_best_22 : decode cX10_best 22 = .ok (.goto 14, 3) := by decide +kernel
theorem dX10_best_25 : decode cX10_best 25 = .ok (.aload_n 0, 1) := by decide +kernel
theorem dX10_best_26 : decode cX10_best 26 = .ok (.getfield 10, 3) := by decide +kernel
theorem dX10_best_29 : decode cX10_best 29 = .ok (.iload_n 2, 1) := by decide +kernel
theorem dX10_best_30 : decode cX10_best 30 = .ok (.invokevirtual 194, 3) := by decide +kernel
theorem dX10_best_33 : decode cX10_best 33 = .ok (.invokestatic 200, 3) := by decide +kernel
theorem dX10_best_36 : decode cX10_best 36 = .ok (.ireturn, 1) := by decide +kernel
section
variable {p : Program} {l : Launch} {e : Env} {s : State} {m : MethodId} {args : Array Value} {below : List Frame} {meth : Method} {c : Code} {H : Heap} {locs : List Loc} {E : Ev} {S V : St} {ls : Array Slot}
set_option maxRecDepth 20000 in
theorem w_Ch_best {N : Nat} {p1 : Int32} {r : Int32} {S9 : St} (C : Cx p s m args meth c E cX10_best 3 RX10 (some .int)) (hw : Wd E (wX V E) s.heap S H locs) (hl : lv_has ls 3 [(0, .ref (ea E 0)), (1, .int p1)]) (hf : Ch_best N S p1 = some (r, S9)) : W p l e (rmh 5) s m args below meth c H locs 0 0 (MQ below (QW E (wX V E) (some (.int r)) S9) args s 0 0 (eA E)) (F0 m 0 ls []) := by
  have hx := C.1
  have hb := C.2.1
  unfold Ch_best at hf
  refine lv_iload_n hx hb dX10_best_0 rfl (lv_at hl 1 rfl) ?_
  obtain ⟨r1, hr, hf⟩ := hf_1 hf
  refine inv_Si (As := [.int p1]) lk_X10_185 C hw (t_Ch_isEither hr) hl.1 dX10_best_1 rfl (Nat.le_of_ble_eq_true rfl) (by decide) (Nat.le_of_ble_eq_true rfl) rfl (fun H locs hw => ?_)
  refine lv_if_ne (tgt := 9) hx hb dX10_best_4 (by decide) (fun q => ?_) (fun q => ?_)
  · have hf := hf_f q hf
    refine lv_aload_n hx hb dX10_best_9 rfl (lv_at hl 0 rfl) ?_
    refine get_0_2 C hw q_377 dX10_best_10 ?_
    obtain ⟨r3, S2, hr, hf⟩ := hf_2 hf
    refine inv_Vi (q0 := 3) (ci := 2) (As := []) lk_X10_197 C hw rfl rfl rfl (t_Dy_fullestDay hr) rfl hl.1 dX10_best_13 rfl (Nat.le_of_ble_eq_true rfl) (by decide) (Nat.le_of_ble_eq_true rfl) rfl (fun H locs hw => ?_)
    refine lv_istore_n (lv' := [(2, .int r3), (0, .ref (ea E 0)), (1, .int p1)]) hx hb dX10_best_16 rfl hl (by decide) rfl (fun ls hl => ?_)
    refine lv_iload_n hx hb dX10_best_17 rfl (lv_at hl 2 rfl) ?_
    refine lv_if_ne (tgt := 25) hx hb dX10_best_18 (by decide) (fun q => ?_) (fun q => ?_)
    · have hf := hf_f q hf
      refine lv_aload_n hx hb dX10_best_25 rfl (lv_at hl 1 rfl) ?_
      refine get_0_0 C hw q_375 dX10_best_26 ?_
      refine lv_iload_n hx hb dX10_best_29 rfl (lv_at hl 0 rfl) ?_
      obtain ⟨r4, hr, hf⟩ := hf_1 hf
      refine inv_Vi (q0 := 1) (ci := 8) (As := [.int r3]) lk_X10_194 C hw rfl rfl rfl (t_Sm_ridersOn hr) rfl hl.1 dX10_best_30 rfl (Nat.le_of_ble_eq_true rfl) (by decide) (Nat.le_of_ble_eq_true rfl) rfl (fun H locs hw => ?_)
      obtain ⟨r5, hr, hf⟩ := hf_1 hf
      refine inv_Si (As := [.int r4]) lk_X10_200 C hw (t_In_bitCount hr) hl.1 dX10_best_33 rfl (Nat.le_of_ble_eq_true rfl) (by decide) (Nat.le_of_ble_eq_true rfl) rfl (fun H locs hw => ?_)
      exact ret_iS C hw dX10_best_36 hf
    · have hf := hf_t q hf
      refine lv_iload_n hx hb dX10_best_21 rfl (lv_at hl 0 rfl) ?_
      refine lv_goto (tgt := 36) hx hb dX10_best_22 (by decide) ?_
      exact ret_iS C hw dX10_best_36 hf
  · have hf := hf_t q hf
    refine lv_iconst (v := -1) hx hb dX10_best_7 kc_m1 ?_
    exact ret_iS C hw dX10_best_8 hf
end
theorem t_Ch_best {l : Launch} {V : St} {N : Nat} {S : St} {p1 : Int32} {r : Int32} {S9 : St} (hf : Ch_best N S p1 = some (r, S9)) : Ct l (wX V) yX10_best cX10_best 3 (some .int) 5 (fun E => [.ref (ea E 0), .int p1]) S (fun E => some (.int r)) S9 :=
  ofBlock (by decide +kernel) (fun _ => Nat.le_of_ble_eq_true rfl) (fun E p e s m args below meth c ls C hw hl => w_Ch_best C hw hl hf)
theorem dX10_keepBy_0 : decode cX10_keepBy 0 = .ok (.aload_n 0, 1) := by decide +kernel
theorem dX10_keepBy_1 : decode cX10_keepBy 1 = .ok (.getfield 10, 3) := by decide +kernel
theorem dX10_keepBy_4 : decode cX10_keepBy 4 = .ok (.iload_n 1, 1) := by decide +kernel
theorem dX10_keepBy_5 : decode cX10_keepBy 5 = .ok (.invokevirtual 155, 3) := by decide +kernel
theorem dX10_keepBy_8 : decode cX10_keepBy 8 = .ok (.ifCond .eq 17, 3) := by decide +kernel
theorem dX10_keepBy_11 : decode cX10_keepBy 11 = .ok (.iload_n 2, 1) := by decide +kernel
theorem dX10_keepBy_12 : decode cX10_keepBy 12 = .ok (.invokestatic 158, 3) := by decide +kernel
theorem dX10_keepBy_15 : decode cX10_keepBy 15 = .ok (.ifCond .eq 10, 3) := by decide +kernel
theorem dX10_keepBy_18 : decode cX10_keepBy 18 = .ok (.iload_n 3, 1) := by decide +kernel
theorem dX10_keepBy_19 : decode cX10_keepBy 19 = .ok (.invokestatic 185, 3) := by decide +kernel
theorem dX10_keepBy_22 : decode cX10_keepBy 22 = .ok (.ifCond .ne 5, 3) := by decide +kernel
theorem dX10_keepBy_25 : decode cX10_keepBy 25 = .ok (.iconst (-1), 1) := by decide +kernel
theorem dX10_keepBy_26 : decode cX10_keepBy 26 = .ok (.ireturn, 1) := by decide +kernel
theorem dX10_keepBy_27 : decode cX10_keepBy 27 = .ok (.aload_n 0, 1) := by decide +kernel
theorem dX10_keepBy_28 : decode cX10_keepBy 28 = .ok (.getfield 56, 3) := by decide +kernel
theorem dX10_keepBy_31 : decode cX10_keepBy 31 = .ok (.iload_n 1, 1) := by decide +kernel
theorem dX10_keepBy_32 : decode cX10_keepBy 32 = .ok (.iload_n 2, 1) := by decide +kernel
theorem dX10_keepBy_33 : decode cX10_keepBy 33 = .ok (.invokevirtual 205, 3) := by decide +kernel
theorem dX10_keepBy_36 : decode cX10_keepBy 36 = .ok (.istore 4, 2) := by decide +kernel
theorem dX10_keepBy_38 : decode cX10_keepBy 38 = .ok (.iload 4, 2) := by decide +kernel
theorem dX10_keepBy_40 : decode cX10_keepBy 40 = .ok (.bipush (-2), 2) := by decide +kernel
theorem dX10_keepBy_42 : decode cX10_keepBy 42 = .ok (.if_icmp .eq 8, 3) := by decide +kernel
theorem dX10_keepBy_45 : decode cX10_keepBy 45 = .ok (.iload_n 3, 1) := by decide +kernel
theorem dX10_keepBy_46 : decode cX10_keepBy 46 = .ok (.iconst 1, 1) := by decide +kernel
theorem dX10_keepBy_47 : decode cX10_keepBy 47 = .ok (.if_icmp .ne 8, 3) := by decide +kernel
theorem dX10_keepBy_50 : decode cX10_keepBy 50 = .ok (.iload 4, 2) := by decide +kernel
theorem dX10_keepBy_52 : decode cX10_keepBy 52 = .ok (.goto 8, 3) := by decide +kernel
theorem dX10_keepBy_55 : decode cX10_keepBy 55 = .ok (.iload 4, 2) := by decide +kernel
theorem dX10_keepBy_57 : decode cX10_keepBy 57 = .ok (.invokestatic 200, 3) := by decide +kernel
theorem dX10_keepBy_60 : decode cX10_keepBy 60 = .ok (.ireturn, 1) := by decide +kernel
section
variable {p : Program} {l : Launch} {e : Env} {s : State} {m : MethodId} {args : Array Value} {below : List Frame} {meth : Method} {c : Code} {H : Heap} {locs : List Loc} {E : Ev} {S V : St} {ls : Array Slot}
set_option maxRecDepth 20000 in
theorem w_Ch_keepBy {N : Nat} {p1 : Int32} {p2 : Int32} {p3 : Int32} {r : Int32} (C : Cx p s m args meth c E cX10_keepBy 5 RX10 (some .int)) (hw : Wd E (wX V E) s.heap S H locs) (hl : lv_has ls 5 [(0, .ref (ea E 0)), (1, .int p1), (2, .int p2), (3, .int p3)]) (hf : Ch_keepBy N S p1 p2 p3 = some r) : W p l e (rmh 5) s m args below meth c H locs 0 0 (MQ below (QW E (wX V E) (some (.int r)) S) args s 0 0 (eA E)) (F0 m 0 ls []) := by
  have hx := C.1
  have hb := C.2.1
  unfold Ch_keepBy at hf
  refine lv_aload_n hx hb dX10_keepBy_0 rfl (lv_at hl 0 rfl) ?_
  refine get_0_0 C hw q_375 dX10_keepBy_1 ?_
  refine lv_iload_n hx hb dX10_keepBy_4 rfl (lv_at hl 1 rfl) ?_
  obtain ⟨r1, hr, hf⟩ := hf_1 hf
  refine inv_Vi (q0 := 1) (ci := 8) (As := [.int p1]) lk_X10_155 C hw rfl rfl rfl (t_Sm_isOne hr) rfl hl.1 dX10_keepBy_5 rfl (Nat.le_of_ble_eq_true rfl) (by decide) (Nat.le_of_ble_eq_true rfl) rfl (fun H locs hw => ?_)
  refine lv_if_eq (tgt := 25) hx hb dX10_keepBy_8 (by decide) (fun q => ?_) (fun q => ?_)
  · have hf := hf_t q hf
    refine lv_iconst (v := -1) hx hb dX10_keepBy_25 kc_m1 ?_
    exact ret_i C hw dX10_keepBy_26 hf
  · have hf := hf_f q hf
    refine lv_iload_n hx hb dX10_keepBy_11 rfl (lv_at hl 2 rfl) ?_
    obtain ⟨r2, hr, hf⟩ := hf_1 hf
    refine inv_Si (As := [.int p2]) lk_X10_158 C hw (t_Ch_isDay hr) hl.1 dX10_keepBy_12 rfl (Nat.le_of_ble_eq_true rfl) (by decide) (Nat.le_of_ble_eq_true rfl) rfl (fun H locs hw => ?_)
    refine lv_if_eq (tgt := 25) hx hb dX10_keepBy_15 (by decide) (fun q => ?_) (fun q => ?_)
    · have hf := hf_t q hf
      refine lv_iconst (v := -1) hx hb dX10_keepBy_25 kc_m1 ?_
      exact ret_i C hw dX10_keepBy_26 hf
    · have hf := hf_f q hf
      refine lv_iload_n hx hb dX10_keepBy_18 rfl (lv_at hl 3 rfl) ?_
      obtain ⟨r3, hr, hf⟩ := hf_1 hf
      refine inv_Si (As := [.int p3]) lk_X10_185 C hw (t_Ch_isEither hr) hl.1 dX10_keepBy_19 rfl (Nat.le_of_ble_eq_true rfl) (by decide) (Nat.le_of_ble_eq_true rfl) rfl (fun H locs hw => ?_)
      refine lv_if_ne (tgt := 27) hx hb dX10_keepBy_22 (by decide) (fun q => ?_) (fun q => ?_)
      · have hf := hf_f q hf
        refine lv_aload_n hx hb dX10_keepBy_27 rfl (lv_at hl 0 rfl) ?_
        refine get_0_3 C hw q_378 dX10_keepBy_28 ?_
        refine lv_iload_n hx hb dX10_keepBy_31 rfl (lv_at hl 1 rfl) ?_
        refine lv_iload_n hx hb dX10_keepBy_32 rfl (lv_at hl 2 rfl) ?_
        obtain ⟨r4, hr, hf⟩ := hf_1 hf
        refine inv_Vi (q0 := 4) (ci := 4) (As := [.int p1, .int p2]) lk_X10_205 C hw rfl rfl rfl (t_Kp_fewestSet hr) rfl hl.1 dX10_keepBy_33 rfl (Nat.le_of_ble_eq_true rfl) (by decide) (Nat.le_of_ble_eq_true rfl) rfl (fun H locs hw => ?_)
        refine lv_istore (lv' := [(4, .int r4), (0, .ref (ea E 0)), (1, .int p1), (2, .int p2), (3, .int p3)]) hx hb dX10_keepBy_36 hl (by decide) rfl (fun ls hl => ?_)
        refine lv_iload hx hb dX10_keepBy_38 (lv_at hl 0 rfl) ?_
        refine lv_bipush (v := -2) hx hb dX10_keepBy_40 kb_m2 ?_
        refine lv_icmp_eq (tgt := 50) hx hb dX10_keepBy_42 (by decide) (fun q => ?_) (fun q => ?_)
        · have hf := hf_t q hf
          refine lv_iload hx hb dX10_keepBy_50 (lv_at hl 0 rfl) ?_
          refine lv_goto (tgt := 60) hx hb dX10_keepBy_52 (by decide) ?_
          exact ret_i C hw dX10_keepBy_60 hf
        · have hf := hf_f q hf
          refine lv_iload_n hx hb dX10_keepBy_45 rfl (lv_at hl 4 rfl) ?_
          refine lv_iconst (v := 1) hx hb dX10_keepBy_46 kc_1 ?_
          refine lv_icmp_ne (tgt := 55) hx hb dX10_keepBy_47 (by decide) (fun q => ?_) (fun q => ?_)
          · have hf := hf_f q hf
            refine lv_iload hx hb dX10_keepBy_55 (lv_at hl 0 rfl) ?_
            obtain ⟨r5, hr, hf⟩ := hf_1 hf
            refine inv_Si (As := [.int r4]) lk_X10_200 C hw (t_In_bitCount hr) hl.1 dX10_keepBy_57 rfl (Nat.le_of_ble_eq_true rfl) (by decide) (Nat.le_of_ble_eq_true rfl) rfl (fun H locs hw => ?_)
            exact ret_i C hw dX10_keepBy_60 hf
          · have hf := hf_t q hf
            refine lv_iload hx hb dX10_keepBy_50 (lv_at hl 0 rfl) ?_
            refine lv_goto (tgt := 60) hx hb dX10_keepBy_52 (by decide) ?_
            exact ret_i C hw dX10_keepBy_60 hf
      · have hf := hf_t q hf
        refine lv_iconst (v := -1) hx hb dX10_keepBy_25 kc_m1 ?_
        exact ret_i C hw dX10_keepBy_26 hf
end
theorem t_Ch_keepBy {l : Launch} {V : St} {N : Nat} {S : St} {p1 : Int32} {p2 : Int32} {p3 : Int32} {r : Int32} (hf : Ch_keepBy N S p1 p2 p3 = some r) : Ct l (wX V) yX10_keepBy cX10_keepBy 5 (some .int) 5 (fun E => [.ref (ea E 0), .int p1, .int p2, .int p3]) S (fun E => some (.int r)) S :=
  ofBlock (by decide +kernel) (fun _ => Nat.le_of_ble_eq_true rfl) (fun E p e s m args below meth c ls C hw hl => w_Ch_keepBy C hw hl hf)
