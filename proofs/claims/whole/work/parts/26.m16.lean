theorem dX11_workOut_0 : decode cX11_workOut 0 = .ok (.aload_n 0, 1) := by decide +kernel
theorem dX11_workOut_1 : decode cX11_workOut 1 = .ok (.iload_n 1, 1) := by decide +kernel
theorem dX11_workOut_2 : decode cX11_workOut 2 = .ok (.putfield 154, 3) := by decide +kernel
theorem dX11_workOut_5 : decode cX11_workOut 5 = .ok (.aload_n 0, 1) := by decide +kernel
theorem dX11_workOut_6 : decode cX11_workOut 6 = .ok (.iconst 0, 1) := by decide +kernel
theorem dX11_workOut_7 : decode cX11_workOut 7 = .ok (.putfield 148, 3) := by decide +kernel
theorem dX11_workOut_10 : decode cX11_workOut 10 = .ok (.aload_n 0, 1) := by decide +kernel
theorem dX11_workOut_11 : decode cX11_workOut 11 = .ok (.iload_n 2, 1) := by decide +kernel
theorem dX11_workOut_12 : decode cX11_workOut 12 = .ok (.putfield 151, 3) := by decide +kernel
theorem dX11_workOut_15 : decode cX11_workOut 15 = .ok (.aload_n 0, 1) := by decide +kernel
theorem dX11_workOut_16 : decode cX11_workOut 16 = .ok (.iconst (-1), 1) := by decide +kernel
theorem dX11_workOut_17 : decode cX11_workOut 17 = .ok (.putfield 157, 3) := by decide +kernel
theorem dX11_workOut_20 : decode cX11_workOut 20 = .ok (.aload_n 0, 1) := by decide +kernel
theorem dX11_workOut_21 : decode cX11_workOut 21 = .ok (.iconst 0, 1) := by decide +kernel
theorem dX11_workOut_22 : decode cX11_workOut 22 = .ok (.putfield 182, 3) := by decide +kernel
theorem dX11_workOut_25 : decode cX11_workOut 25 = .ok (.iconst 0, 1) := by decide +kernel
theorem dX11_workOut_26 : decode cX11_workOut 26 = .ok (.istore_n 3, 1) := by decide +kernel
theorem dX11_workOut_27 : decode cX11_workOut 27 = .ok (.iconst 0, 1) := by decide +kernel
theorem dX11_workOut_28 : decode cX11_workOut 28 = .ok (.istore 4, 2) := by decide +kernel
theorem dX11_workOut_30 : decode cX11_workOut 30 = .ok (.iconst 1, 1) := by decide +kernel
theorem dX11_workOut_31 : decode cX11_workOut 31 = .ok (.istore 5, 2) := by decide +kernel
theorem dX11_workOut_33 : decode cX11_workOut 33 = .ok (.iload 5, 2) := by decide +kernel
theorem dX11_workOut_35 : decode cX11_workOut 35 = .ok (.ifCond .eq 72, 3) := by decide +kernel
theorem dX11_workOut_38 : decode cX11_workOut 38 = .ok (.aload_n 0, 1) := by decide +kernel
theorem dX11_workOut_39 : decode cX11_workOut 39 = .ok (.invokevirtual 188, 3) := by decide +kernel
theorem dX11_workOut_42 : decode cX11_workOut 42 = .ok (.istore 6, 2) := by decide +kernel
theorem dX11_workOut_44 : decode cX11_workOut 44 = .ok (.iconst 1, 1) := by decide +kernel
theorem dX11_workOut_45 : decode cX11_workOut 45 = .ok (.istore 7, 2) := by decide +kernel
theorem dX11_workOut_47 : decode cX11_workOut 47 = .ok (.aload_n 0, 1) := by decide +kernel
theorem dX11_workOut_48 : decode cX11_workOut 48 = .ok (.bipush 63, 2) := by decide +kernel
theorem dX11_workOut_50 : decode cX11_workOut 50 = .ok (.invokevirtual 167, 3) := by decide +kernel
theorem dX11_workOut_53 : decode cX11_workOut 53 = .ok (.ifCond .eq 21, 3) := by decide +kernel
theorem dX11_workOut_56 : decode cX11_workOut 56 = .ok (.iload 6, 2) := by decide +kernel
theorem dX11_workOut_58 : decode cX11_workOut 58 = .ok (.ifCond .eq 7, 3) := by decide +kernel
theorem dX11_workOut_61 : decode cX11_workOut 61 = .ok (.iconst 1, 1) := by decide +kernel
theorem dX11_workOut_62 : decode cX11_workOut 62 = .ok (.goto 4, 3) := by decide +kernel
theorem dX11_workOut_65 : decode cX11_workOut 65 = .ok (.iconst 0, 1) := by decide +kernel
theorem dX11_workOut_66 : decode cX11_workOut 66 = .ok (.istore 7, 2) := by decide +kernel
theorem dX11_workOut_68 : decode cX11_workOut 68 = .ok (.aload_n 0, 1) := by decide +kernel
theorem dX11_workOut_69 : decode cX11_workOut 69 = .ok (.invokevirtual 188, 3) := by decide +kernel
theorem dX11_workOut_72 : decode cX11_workOut 72 = .ok (.istore 6, 2) := by decide +kernel
theorem dX11_workOut_74 : decode cX11_workOut 74 = .ok (.aload_n 0, 1) := by decide +kernel
theorem dX11_workOut_75 : decode cX11_workOut 75 = .ok (.getfield 157, 3) := by decide +kernel
theorem dX11_workOut_78 : decode cX11_workOut 78 = .ok (.ifCond .ge 18, 3) := by decide +kernel
theorem dX11_workOut_81 : decode cX11_workOut 81 = .ok (.iload 7, 2) := by decide +kernel
theorem dX11_workOut_83 : decode cX11_workOut 83 = .ok (.ifCond .eq 13, 3) := by decide +kernel
theorem dX11_workOut_86 : decode cX11_workOut 86 = .ok (.iload_n 3, 1) := by decide +kernel
theorem dX11_workOut_87 : decode cX11_workOut 87 = .ok (.ifCond .ne 9, 3) := by decide +kernel
theorem dX11_workOut_90 : decode cX11_workOut 90 = .ok (.iconst 1, 1) := by decide +kernel
theorem dX11_workOut_91 : decode cX11_workOut 91 = .ok (.istore_n 3, 1) := by decide +kernel
theorem dX11_workOut_92 : decode cX11_workOut 92 = .ok (.iload 6, 2) := by decide +kernel
theorem dX11_workOut_94 : decode cX11_workOut 94 = .ok (.istore 4, 2) := by decide +kernel
theorem dX11_workOut_96 : decode cX11_workOut 96 = .ok (.aload_n 0, 1) := by decide +kernel
theorem dX11_workOut_97 : decode cX11_workOut 97 = .ok (.bipush 59, 2) := by decide +kernel
theorem dX11_workOut_99 : decode cX11_workOut 99 = .ok (.invokevirtual 167, 3) := by decide +kernel
theorem dX11_workOut_102 : decode cX11_workOut 102 = .ok (.istore 5, 2) := by decide +kernel
theorem dX11_workOut_104 : decode cX11_workOut 104 = .ok (.goto (-71), 3) := by decide +kernel
theorem dX11_workOut_107 : decode cX11_workOut 107 = .ok (.aload_n 0, 1) := by decide +kernel
theorem dX11_workOut_108 : decode cX11_workOut 108 = .ok (.getfield 157, 3) := by decide +kernel
theorem dX11_workOut_111 : decode cX11_workOut 111 = .ok (.ifCond .ge 19, 3) := by decide +kernel
theorem dX11_workOut_114 : decode cX11_workOut 114 = .ok (.aload_n 0, 1) := by decide +kernel
theorem dX11_workOut_115 : decode cX11_workOut 115 = .ok (.getfield 148, 3) := by decide +kernel
theorem dX11_workOut_118 : decode cX11_workOut 118 = .ok (.aload_n 0, 1) := by decide +kernel
theorem dX11_workOut_119 : decode cX11_workOut 119 = .ok (.getfield 151, 3) := by decide +kernel
theorem dX11_workOut_122 : decode cX11_workOut 122 = .ok (.if_icmp .ge 8, 3) := by decide +kernel
theorem dX11_workOut_125 : decode cX11_workOut 125 = .ok (.aload_n 0, 1) := by decide +kernel
theorem dX11_workOut_126 : decode cX11_workOut 126 = .ok (.invokevirtual 185, 3) := by decide +kernel
theorem dX11_workOut_129 : decode cX11_workOut 129 = .ok (.ireturn, 1) := by decide +kernel
theorem dX11_workOut_130 : decode cX11_workOut 130 = .ok (.iload 4, 2) := by decide +kernel
theorem dX11_workOut_132 : decode cX11_workOut 132 = .ok (.ireturn, 1) := by decide +kernel
section
variable {p : Program} {l : Launch} {e : Env} {s : State} {m : MethodId} {args : Array Value} {below : List Frame} {meth : Method} {c : Code} {H : Heap} {locs : List Loc} {E : Ev} {S V : St} {ls : Array Slot}
set_option maxRecDepth 20000 in
theorem w_Mo_workOut_b96 {N : Nat} {k33 : (St × Int32 × Int32 × Int32) → Option (Int32 × St)} {l3 : Int32} {l4 : Int32} {r : Int32} {S9 : St} (C : Cx p s m args meth c E cX11_workOut 8 RX11 (some .int)) (hk33 : ∀ x, k33 x = some (r, S9) → ∀ (H : Heap) (locs : List Loc) (ls : Array Slot), Wd E (wM V E) s.heap x.1 H locs → lv_has ls 8 [(0, .ref (ea E 44)), (3, .int x.2.1), (4, .int x.2.2.1), (5, .int x.2.2.2)] → W p l e (rmh (N + 4)) s m args below meth c H locs 0 0 (MQ below (QW E (wM V E) (some (.int r)) S9) args s 0 0 (eA E)) (F0 m 33 ls [])) (hw : Wd E (wM V E) s.heap S H locs) (hl : lv_has ls 8 [(0, .ref (ea E 44)), (3, .int l3), (4, .int l4)]) (hf : Mo_workOut_b96 N k33 S l3 l4 = some (r, S9)) : W p l e (rmh (N + 4)) s m args below meth c H locs 0 0 (MQ below (QW E (wM V E) (some (.int r)) S9) args s 0 0 (eA E)) (F0 m 96 ls []) := by
  have hx := C.1
  have hb := C.2.1
  unfold Mo_workOut_b96 at hf
  refine lv_aload_n hx hb dX11_workOut_96 rfl (lv_at hl 0 rfl) ?_
  refine lv_bipush (v := 59) hx hb dX11_workOut_97 kb_59 ?_
  obtain ⟨r2, S1, hr, hf⟩ := hf_2 hf
  refine inv_Vi (q0 := 44) (ci := 11) (As := [.int (59 : Int32)]) lk_X11_167 C hw rfl rfl rfl (t_Mo_takes hr) rfl hl.1 dX11_workOut_99 rfl (Nat.le_of_ble_eq_true rfl) (by decide) (Nat.le_of_ble_eq_true rfl) rfl (fun H locs hw => ?_)
  refine lv_istore (lv' := [(5, .int r2), (0, .ref (ea E 44)), (3, .int l3), (4, .int l4)]) hx hb dX11_workOut_102 hl (by decide) rfl (fun ls hl => ?_)
  refine lv_goto (tgt := 33) hx hb dX11_workOut_104 (by decide) ?_
  exact hk33 _ hf _ _ _ hw (lv_sub hl [1, 2, 3, 0] rfl)
set_option maxRecDepth 20000 in
theorem w_Mo_workOut_b74 {N : Nat} {k33 : (St × Int32 × Int32 × Int32) → Option (Int32 × St)} {l3 : Int32} {l4 : Int32} {l6 : Int32} {l7 : Int32} {r : Int32} {S9 : St} (C : Cx p s m args meth c E cX11_workOut 8 RX11 (some .int)) (hk33 : ∀ x, k33 x = some (r, S9) → ∀ (H : Heap) (locs : List Loc) (ls : Array Slot), Wd E (wM V E) s.heap x.1 H locs → lv_has ls 8 [(0, .ref (ea E 44)), (3, .int x.2.1), (4, .int x.2.2.1), (5, .int x.2.2.2)] → W p l e (rmh (N + 4)) s m args below meth c H locs 0 0 (MQ below (QW E (wM V E) (some (.int r)) S9) args s 0 0 (eA E)) (F0 m 33 ls [])) (hw : Wd E (wM V E) s.heap S H locs) (hl : lv_has ls 8 [(0, .ref (ea E 44)), (3, .int l3), (4, .int l4), (6, .int l6), (7, .int l7)]) (hf : Mo_workOut_b74 N k33 S l3 l4 l6 l7 = some (r, S9)) : W p l e (rmh (N + 4)) s m args below meth c H locs 0 0 (MQ below (QW E (wM V E) (some (.int r)) S9) args s 0 0 (eA E)) (F0 m 74 ls []) := by
  have hx := C.1
  have hb := C.2.1
  unfold Mo_workOut_b74 at hf
  refine lv_aload_n hx hb dX11_workOut_74 rfl (lv_at hl 0 rfl) ?_
  refine get_44_17 C hw q_1168 dX11_workOut_75 ?_
  refine lv_if_ge (tgt := 96) hx hb dX11_workOut_78 (by decide) (fun q => ?_) (fun q => ?_)
  · have hf := hf_t q hf
    exact w_Mo_workOut_b96 C hk33 hw (lv_sub hl [0, 1, 2] rfl) hf
  · have hf := hf_f q hf
    refine lv_iload hx hb dX11_workOut_81 (lv_at hl 4 rfl) ?_
    refine lv_if_eq (tgt := 96) hx hb dX11_workOut_83 (by decide) (fun q => ?_) (fun q => ?_)
    · have hf := hf_t q hf
      exact w_Mo_workOut_b96 C hk33 hw (lv_sub hl [0, 1, 2] rfl) hf
    · have hf := hf_f q hf
      refine lv_iload_n hx hb dX11_workOut_86 rfl (lv_at hl 1 rfl) ?_
      refine lv_if_ne (tgt := 96) hx hb dX11_workOut_87 (by decide) (fun q => ?_) (fun q => ?_)
      · have hf := hf_f q hf
        exact w_Mo_workOut_b96 C hk33 hw (lv_sub hl [0, 1, 2] rfl) hf
      · have hf := hf_t q hf
        refine lv_iconst (v := 1) hx hb dX11_workOut_90 kc_1 ?_
        refine lv_istore_n (lv' := [(3, .int (1 : Int32)), (0, .ref (ea E 44)), (4, .int l4), (6, .int l6), (7, .int l7)]) hx hb dX11_workOut_91 rfl hl (by decide) rfl (fun ls hl => ?_)
        refine lv_iload hx hb dX11_workOut_92 (lv_at hl 3 rfl) ?_
        refine lv_istore (lv' := [(4, .int l6), (3, .int (1 : Int32)), (0, .ref (ea E 44)), (6, .int l6), (7, .int l7)]) hx hb dX11_workOut_94 hl (by decide) rfl (fun ls hl => ?_)
        exact w_Mo_workOut_b96 C hk33 hw (lv_sub hl [2, 1, 0] rfl) hf
set_option maxRecDepth 20000 in
theorem w_Mo_workOut_b33 {N : Nat} {k33 : (St × Int32 × Int32 × Int32) → Option (Int32 × St)} {l3 : Int32} {l4 : Int32} {l5 : Int32} {r : Int32} {S9 : St} (C : Cx p s m args meth c E cX11_workOut 8 RX11 (some .int)) (hk33 : ∀ x, k33 x = some (r, S9) → ∀ (H : Heap) (locs : List Loc) (ls : Array Slot), Wd E (wM V E) s.heap x.1 H locs → lv_has ls 8 [(0, .ref (ea E 44)), (3, .int x.2.1), (4, .int x.2.2.1), (5, .int x.2.2.2)] → W p l e (rmh (N + 4)) s m args below meth c H locs 0 0 (MQ below (QW E (wM V E) (some (.int r)) S9) args s 0 0 (eA E)) (F0 m 33 ls [])) (hw : Wd E (wM V E) s.heap S H locs) (hl : lv_has ls 8 [(0, .ref (ea E 44)), (3, .int l3), (4, .int l4), (5, .int l5)]) (hf : Mo_workOut_b33 N k33 S l3 l4 l5 = some (r, S9)) : W p l e (rmh (N + 4)) s m args below meth c H locs 0 0 (MQ below (QW E (wM V E) (some (.int r)) S9) args s 0 0 (eA E)) (F0 m 33 ls []) := by
  have hx := C.1
  have hb := C.2.1
  unfold Mo_workOut_b33 at hf
  refine lv_iload hx hb dX11_workOut_33 (lv_at hl 3 rfl) ?_
  refine lv_if_eq (tgt := 107) hx hb dX11_workOut_35 (by decide) (fun q => ?_) (fun q => ?_)
  · have hf := hf_t q hf
    refine lv_aload_n hx hb dX11_workOut_107 rfl (lv_at hl 0 rfl) ?_
    refine get_44_17 C hw q_1168 dX11_workOut_108 ?_
    refine lv_if_ge (tgt := 130) hx hb dX11_workOut_111 (by decide) (fun q => ?_) (fun q => ?_)
    · have hf := hf_t q hf
      refine lv_iload hx hb dX11_workOut_130 (lv_at hl 2 rfl) ?_
      exact ret_iS C hw dX11_workOut_132 hf
    · have hf := hf_f q hf
      refine lv_aload_n hx hb dX11_workOut_114 rfl (lv_at hl 0 rfl) ?_
      refine get_44_15 C hw q_1166 dX11_workOut_115 ?_
      refine lv_aload_n hx hb dX11_workOut_118 rfl (lv_at hl 0 rfl) ?_
      refine get_44_16 C hw q_1167 dX11_workOut_119 ?_
      refine lv_icmp_ge (tgt := 130) hx hb dX11_workOut_122 (by decide) (fun q => ?_) (fun q => ?_)
      · have hf := hf_t q hf
        refine lv_iload hx hb dX11_workOut_130 (lv_at hl 2 rfl) ?_
        exact ret_iS C hw dX11_workOut_132 hf
      · have hf := hf_f q hf
        refine lv_aload_n hx hb dX11_workOut_125 rfl (lv_at hl 0 rfl) ?_
        obtain ⟨r2, S1, hr, hf⟩ := hf_2 hf
        refine inv_Vi (q0 := 44) (ci := 11) (As := []) lk_X11_185 C hw rfl rfl rfl (t_Mo_wrong hr) rfl hl.1 dX11_workOut_126 rfl (Nat.le_of_ble_eq_true rfl) (by decide) (Nat.le_of_ble_eq_true rfl) rfl (fun H locs hw => ?_)
        exact ret_iS C hw dX11_workOut_129 hf
  · have hf := hf_f q hf
    refine lv_aload_n hx hb dX11_workOut_38 rfl (lv_at hl 0 rfl) ?_
    obtain ⟨r4, S3, hr, hf⟩ := hf_2 hf
    refine inv_Vi (q0 := 44) (ci := 11) (As := []) lk_X11_188 C hw rfl rfl rfl (t_Mo_either hr) rfl hl.1 dX11_workOut_39 rfl (by omega) (by decide) (Nat.le_of_ble_eq_true rfl) rfl (fun H locs hw => ?_)
    refine lv_istore (lv' := [(6, .int r4), (0, .ref (ea E 44)), (3, .int l3), (4, .int l4), (5, .int l5)]) hx hb dX11_workOut_42 hl (by decide) rfl (fun ls hl => ?_)
    refine lv_iconst (v := 1) hx hb dX11_workOut_44 kc_1 ?_
    refine lv_istore (lv' := [(7, .int (1 : Int32)), (6, .int r4), (0, .ref (ea E 44)), (3, .int l3), (4, .int l4), (5, .int l5)]) hx hb dX11_workOut_45 hl (by decide) rfl (fun ls hl => ?_)
    refine lv_aload_n hx hb dX11_workOut_47 rfl (lv_at hl 2 rfl) ?_
    refine lv_bipush (v := 63) hx hb dX11_workOut_48 kb_63 ?_
    obtain ⟨r6, S5, hr, hf⟩ := hf_2 hf
    refine inv_Vi (q0 := 44) (ci := 11) (As := [.int (63 : Int32)]) lk_X11_167 C hw rfl rfl rfl (t_Mo_takes hr) rfl hl.1 dX11_workOut_50 rfl (Nat.le_of_ble_eq_true rfl) (by decide) (Nat.le_of_ble_eq_true rfl) rfl (fun H locs hw => ?_)
    refine lv_if_eq (tgt := 74) hx hb dX11_workOut_53 (by decide) (fun q => ?_) (fun q => ?_)
    · have hf := hf_t q hf
      exact w_Mo_workOut_b74 C hk33 hw (lv_sub hl [2, 3, 4, 1, 0] rfl) hf
    · have hf := hf_f q hf
      refine lv_iload hx hb dX11_workOut_56 (lv_at hl 1 rfl) ?_
      refine lv_if_eq (tgt := 65) hx hb dX11_workOut_58 (by decide) (fun q => ?_) (fun q => ?_)
      · have hf := hf_t q hf
        refine lv_iconst (v := 0) hx hb dX11_workOut_65 kc_0 ?_
        refine lv_istore (lv' := [(7, .int (0 : Int32)), (6, .int r4), (0, .ref (ea E 44)), (3, .int l3), (4, .int l4), (5, .int l5)]) hx hb dX11_workOut_66 hl (by decide) rfl (fun ls hl => ?_)
        refine lv_aload_n hx hb dX11_workOut_68 rfl (lv_at hl 2 rfl) ?_
        obtain ⟨r8, S7, hr, hf⟩ := hf_2 hf
        refine inv_Vi (q0 := 44) (ci := 11) (As := []) lk_X11_188 C hw rfl rfl rfl (t_Mo_either hr) rfl hl.1 dX11_workOut_69 rfl (by omega) (by decide) (Nat.le_of_ble_eq_true rfl) rfl (fun H locs hw => ?_)
        refine lv_istore (lv' := [(6, .int r8), (7, .int (0 : Int32)), (0, .ref (ea E 44)), (3, .int l3), (4, .int l4), (5, .int l5)]) hx hb dX11_workOut_72 hl (by decide) rfl (fun ls hl => ?_)
        exact w_Mo_workOut_b74 C hk33 hw (lv_sub hl [2, 3, 4, 0, 1] rfl) hf
      · have hf := hf_f q hf
        refine lv_iconst (v := 1) hx hb dX11_workOut_61 kc_1 ?_
        refine lv_goto (tgt := 66) hx hb dX11_workOut_62 (by decide) ?_
        refine lv_istore (lv' := [(7, .int (1 : Int32)), (6, .int r4), (0, .ref (ea E 44)), (3, .int l3), (4, .int l4), (5, .int l5)]) hx hb dX11_workOut_66 hl (by decide) rfl (fun ls hl => ?_)
        refine lv_aload_n hx hb dX11_workOut_68 rfl (lv_at hl 2 rfl) ?_
        obtain ⟨r10, S9, hr, hf⟩ := hf_2 hf
        refine inv_Vi (q0 := 44) (ci := 11) (As := []) lk_X11_188 C hw rfl rfl rfl (t_Mo_either hr) rfl hl.1 dX11_workOut_69 rfl (by omega) (by decide) (Nat.le_of_ble_eq_true rfl) rfl (fun H locs hw => ?_)
        refine lv_istore (lv' := [(6, .int r10), (7, .int (1 : Int32)), (0, .ref (ea E 44)), (3, .int l3), (4, .int l4), (5, .int l5)]) hx hb dX11_workOut_72 hl (by decide) rfl (fun ls hl => ?_)
        exact w_Mo_workOut_b74 C hk33 hw (lv_sub hl [2, 3, 4, 0, 1] rfl) hf
theorem w_Mo_workOut_L33 {N : Nat} {r : Int32} {S9 : St} (C : Cx p s m args meth c E cX11_workOut 8 RX11 (some .int)) : ∀ x, Mo_workOut_L33 N x = some (r, S9) → ∀ (H : Heap) (locs : List Loc) (ls : Array Slot), Wd E (wM V E) s.heap x.1 H locs → lv_has ls 8 [(0, .ref (ea E 44)), (3, .int x.2.1), (4, .int x.2.2.1), (5, .int x.2.2.2)] → W p l e (rmh (N + 4)) s m args below meth c H locs 0 0 (MQ below (QW E (wM V E) (some (.int r)) S9) args s 0 0 (eA E)) (F0 m 33 ls []) :=
  lp_W (fun k x hk hf H locs ls hw hl => w_Mo_workOut_b33 C hk hw hl hf) N
set_option maxRecDepth 20000 in
theorem w_Mo_workOut {N : Nat} {p1 : Int32} {p2 : Int32} {r : Int32} {S9 : St} (C : Cx p s m args meth c E cX11_workOut 8 RX11 (some .int)) (hw : Wd E (wM V E) s.heap S H locs) (hl : lv_has ls 8 [(0, .ref (ea E 44)), (1, .int p1), (2, .int p2)]) (hf : Mo_workOut N S p1 p2 = some (r, S9)) : W p l e (rmh (N + 4)) s m args below meth c H locs 0 0 (MQ below (QW E (wM V E) (some (.int r)) S9) args s 0 0 (eA E)) (F0 m 0 ls []) := by
  have hx := C.1
  have hb := C.2.1
  unfold Mo_workOut at hf
  refine lv_aload_n hx hb dX11_workOut_0 rfl (lv_at hl 0 rfl) ?_
  refine lv_iload_n hx hb dX11_workOut_1 rfl (lv_at hl 1 rfl) ?_
  refine put_44_14 C hw q_1165 dX11_workOut_2 (fun H locs hw => ?_)
  refine nm_S hf hw (fun S1 hf hw => ?_)
  refine lv_aload_n hx hb dX11_workOut_5 rfl (lv_at hl 0 rfl) ?_
  refine lv_iconst (v := 0) hx hb dX11_workOut_6 kc_0 ?_
  refine put_44_15 C hw q_1166 dX11_workOut_7 (fun H locs hw => ?_)
  refine nm_S hf hw (fun S2 hf hw => ?_)
  refine lv_aload_n hx hb dX11_workOut_10 rfl (lv_at hl 0 rfl) ?_
  refine lv_iload_n hx hb dX11_workOut_11 rfl (lv_at hl 2 rfl) ?_
  refine put_44_16 C hw q_1167 dX11_workOut_12 (fun H locs hw => ?_)
  refine nm_S hf hw (fun S3 hf hw => ?_)
  refine lv_aload_n hx hb dX11_workOut_15 rfl (lv_at hl 0 rfl) ?_
  refine lv_iconst (v := -1) hx hb dX11_workOut_16 kc_m1 ?_
  refine put_44_17 C hw q_1168 dX11_workOut_17 (fun H locs hw => ?_)
  refine nm_S hf hw (fun S4 hf hw => ?_)
  refine lv_aload_n hx hb dX11_workOut_20 rfl (lv_at hl 0 rfl) ?_
  refine lv_iconst (v := 0) hx hb dX11_workOut_21 kc_0 ?_
  refine put_44_18 C hw q_1169 dX11_workOut_22 (fun H locs hw => ?_)
  refine nm_S hf hw (fun S5 hf hw => ?_)
  refine lv_iconst (v := 0) hx hb dX11_workOut_25 kc_0 ?_
  refine lv_istore_n (lv' := [(3, .int (0 : Int32)), (0, .ref (ea E 44)), (1, .int p1), (2, .int p2)]) hx hb dX11_workOut_26 rfl hl (by decide) rfl (fun ls hl => ?_)
  refine lv_iconst (v := 0) hx hb dX11_workOut_27 kc_0 ?_
  refine lv_istore (lv' := [(4, .int (0 : Int32)), (3, .int (0 : Int32)), (0, .ref (ea E 44)), (1, .int p1), (2, .int p2)]) hx hb dX11_workOut_28 hl (by decide) rfl (fun ls hl => ?_)
  refine lv_iconst (v := 1) hx hb dX11_workOut_30 kc_1 ?_
  refine lv_istore (lv' := [(5, .int (1 : Int32)), (4, .int (0 : Int32)), (3, .int (0 : Int32)), (0, .ref (ea E 44)), (1, .int p1), (2, .int p2)]) hx hb dX11_workOut_31 hl (by decide) rfl (fun ls hl => ?_)
  exact w_Mo_workOut_L33 C _ hf _ _ _ hw (lv_sub hl [3, 2, 1, 0] rfl)
end
theorem t_Mo_workOut {l : Launch} {V : St} {N : Nat} {S : St} {p1 : Int32} {p2 : Int32} {r : Int32} {S9 : St} (hf : Mo_workOut N S p1 p2 = some (r, S9)) : Ct l (wM V) yX11_workOut cX11_workOut 8 (some .int) (N + 4) (fun E => [.ref (ea E 44), .int p1, .int p2]) S (fun E => some (.int r)) S9 :=
  ofBlock (by decide +kernel) (fun _ => Nat.le_of_ble_eq_true rfl) (fun E p e s m args below meth c ls C hw hl => w_Mo_workOut C hw hl hf)
theorem dX11_law_0 : decode cX11_law 0 = .ok (.aload_n 0, 1) := by decide +kernel
theorem dX11_law_1 : decode cX11_law 1 = .ok (.iconst (-1), 1) := by decide +kernel
theorem dX11_law_2 : decode cX11_law 2 = .ok (.aload_n 0, 1) := by decide +kernel
theorem dX11_law_3 : decode cX11_law 3 = .ok (.getfield 145, 3) := by decide +kernel
theorem dX11_law_6 : decode cX11_law 6 = .ok (.invokevirtual 195, 3) := by decide +kernel
theorem dX11_law_9 : decode cX11_law 9 = .ok (.istore_n 1, 1) := by decide +kernel
theorem dX11_law_10 : decode cX11_law 10 = .ok (.aload_n 0, 1) := by decide +kernel
theorem dX11_law_11 : decode cX11_law 11 = .ok (.getfield 145, 3) := by decide +kernel
theorem dX11_law_14 : decode cX11_law 14 = .ok (.istore_n 2, 1) := by decide +kernel
theorem dX11_law_15 : decode cX11_law 15 = .ok (.aload_n 0, 1) := by decide +kernel
theorem dX11_law_16 : decode cX11_law 16 = .ok (.iconst 0, 1) := by decide +kernel
theorem dX11_law_17 : decode cX11_law 17 = .ok (.putfield 145, 3) := by decide +kernel
theorem dX11_law_20 : decode cX11_law 20 = .ok (.aload_n 0, 1) := by decide +kernel
theorem dX11_law_21 : decode cX11_law 21 = .ok (.getfield 157, 3) := by decide +kernel
theorem dX11_law_24 : decode cX11_law 24 = .ok (.ifCond .lt 11, 3) := by decide +kernel
theorem dX11_law_27 : decode cX11_law 27 = .ok (.bipush (-100), 2) := by decide +kernel
theorem dX11_law_29 : decode cX11_law 29 = .ok (.aload_n 0, 1) := by decide +kernel
theorem dX11_law_30 : decode cX11_law 30 = .ok (.getfield 157, 3) := by decide +kernel
theorem dX11_law_33 : decode cX11_law 33 = .ok (.isub, 1) := by decide +kernel
theorem dX11_law_34 : decode cX11_law 34 = .ok (.ireturn, 1) := by decide +kernel
theorem dX11_law_35 : decode cX11_law 35 = .ok (.iconst 0, 1) := by decide +kernel
theorem dX11_law_36 : decode cX11_law 36 = .ok (.istore_n 3, 1) := by decide +kernel
theorem dX11_law_37 : decode cX11_law 37 = .ok (.iload_n 3, 1) := by decide +kernel
theorem dX11_law_38 : decode cX11_law 38 = .ok (.iload_n 2, 1) := by decide +kernel
theorem dX11_law_39 : decode cX11_law 39 = .ok (.if_icmp .ge 21, 3) := by decide +kernel
theorem dX11_law_42 : decode cX11_law 42 = .ok (.aload_n 0, 1) := by decide +kernel
theorem dX11_law_43 : decode cX11_law 43 = .ok (.getfield 31, 3) := by decide +kernel
theorem dX11_law_46 : decode cX11_law 46 = .ok (.iload_n 3, 1) := by decide +kernel
theorem dX11_law_47 : decode cX11_law 47 = .ok (.aload_n 0, 1) := by decide +kernel
theorem dX11_law_48 : decode cX11_law 48 = .ok (.getfield 28, 3) := by decide +kernel
theorem dX11_law_51 : decode cX11_law 51 = .ok (.iload_n 3, 1) := by decide +kernel
theorem dX11_law_52 : decode cX11_law 52 = .ok (.iaload, 1) := by decide +kernel
theorem dX11_law_53 : decode cX11_law 53 = .ok (.iastore, 1) := by decide +kernel
theorem dX11_law_54 : decode cX11_law 54 = .ok (.iinc 3 1, 3) := by decide +kernel
theorem dX11_law_57 : decode cX11_law 57 = .ok (.goto (-20), 3) := by decide +kernel
theorem dX11_law_60 : decode cX11_law 60 = .ok (.aload_n 0, 1) := by decide +kernel
theorem dX11_law_61 : decode cX11_law 61 = .ok (.iload_n 2, 1) := by decide +kernel
theorem dX11_law_62 : decode cX11_law 62 = .ok (.putfield 71, 3) := by decide +kernel
theorem dX11_law_65 : decode cX11_law 65 = .ok (.iconst 1, 1) := by decide +kernel
theorem dX11_law_66 : decode cX11_law 66 = .ok (.ireturn, 1) := by decide +kernel
section
variable {p : Program} {l : Launch} {e : Env} {s : State} {m : MethodId} {args : Array Value} {below : List Frame} {meth : Method} {c : Code} {H : Heap} {locs : List Loc} {E : Ev} {S V : St} {ls : Array Slot}
set_option maxRecDepth 20000 in
theorem w_Mo_law_b37 {N : Nat} {k37 : (St × Int32) → Option (Int32 × St)} {l2 : Int32} {l3 : Int32} {r : Int32} {S9 : St} (C : Cx p s m args meth c E cX11_law 4 RX11 (some .int)) (hk37 : ∀ x, k37 x = some (r, S9) → ∀ (H : Heap) (locs : List Loc) (ls : Array Slot), Wd E (wM V E) s.heap x.1 H locs → lv_has ls 4 [(0, .ref (ea E 44)), (2, .int l2), (3, .int x.2)] → W p l e (rmh (N + 5)) s m args below meth c H locs 0 0 (MQ below (QW E (wM V E) (some (.int r)) S9) args s 0 0 (eA E)) (F0 m 37 ls [])) (hw : Wd E (wM V E) s.heap S H locs) (hl : lv_has ls 4 [(0, .ref (ea E 44)), (2, .int l2), (3, .int l3)]) (hf : Mo_law_b37 N k37 S l2 l3 = some (r, S9)) : W p l e (rmh (N + 5)) s m args below meth c H locs 0 0 (MQ below (QW E (wM V E) (some (.int r)) S9) args s 0 0 (eA E)) (F0 m 37 ls []) := by
  have hx := C.1
  have hb := C.2.1
  unfold Mo_law_b37 at hf
  refine lv_iload_n hx hb dX11_law_37 rfl (lv_at hl 2 rfl) ?_
  refine lv_iload_n hx hb dX11_law_38 rfl (lv_at hl 1 rfl) ?_
  refine lv_icmp_ge (tgt := 60) hx hb dX11_law_39 (by decide) (fun q => ?_) (fun q => ?_)
  · have hf := hf_t q hf
    refine lv_aload_n hx hb dX11_law_60 rfl (lv_at hl 0 rfl) ?_
    refine lv_iload_n hx hb dX11_law_61 rfl (lv_at hl 1 rfl) ?_
    refine put_44_13 C hw q_1164 dX11_law_62 (fun H locs hw => ?_)
    refine nm_S hf hw (fun S1 hf hw => ?_)
    refine lv_iconst (v := 1) hx hb dX11_law_65 kc_1 ?_
    exact ret_iS C hw dX11_law_66 hf
  · have hf := hf_f q hf
    refine lv_aload_n hx hb dX11_law_42 rfl (lv_at hl 0 rfl) ?_
    refine get_44_12 C hw q_1163 dX11_law_43 ?_
    refine lv_iload_n hx hb dX11_law_46 rfl (lv_at hl 2 rfl) ?_
    refine lv_aload_n hx hb dX11_law_47 rfl (lv_at hl 0 rfl) ?_
    refine get_44_10 C hw q_1161 dX11_law_48 ?_
    refine lv_iload_n hx hb dX11_law_51 rfl (lv_at hl 2 rfl) ?_
    obtain ⟨hc, hf⟩ := hf_ck hf
    refine ld_51 C hw hc dX11_law_52 ?_
    obtain ⟨hc, hf⟩ := hf_ck hf
    refine st_52 C hw hc dX11_law_53 (fun H locs hw => ?_)
    refine nm_S hf hw (fun S2 hf hw => ?_)
    obtain ⟨x3, ex3, hf⟩ := nme hf
    refine lv_iinc (v := x3) (lv' := [(3, .int x3), (0, .ref (ea E 44)), (2, .int l2)]) hx hb dX11_law_54 hl (k := 2) rfl (ki_1 ex3) (by decide) rfl (fun ls hl => ?_)
    refine lv_goto (tgt := 37) hx hb dX11_law_57 (by decide) ?_
    exact hk37 _ hf _ _ _ hw (lv_sub hl [1, 2, 0] rfl)
theorem w_Mo_law_L37 {N : Nat} {l2 : Int32} {r : Int32} {S9 : St} (C : Cx p s m args meth c E cX11_law 4 RX11 (some .int)) : ∀ x, Mo_law_L37 N l2 x = some (r, S9) → ∀ (H : Heap) (locs : List Loc) (ls : Array Slot), Wd E (wM V E) s.heap x.1 H locs → lv_has ls 4 [(0, .ref (ea E 44)), (2, .int l2), (3, .int x.2)] → W p l e (rmh (N + 5)) s m args below meth c H locs 0 0 (MQ below (QW E (wM V E) (some (.int r)) S9) args s 0 0 (eA E)) (F0 m 37 ls []) :=
  lp_W (fun k x hk hf H locs ls hw hl => w_Mo_law_b37 C hk hw hl hf) N
set_option maxRecDepth 20000 in
theorem w_Mo_law {N : Nat} {r : Int32} {S9 : St} (C : Cx p s m args meth c E cX11_law 4 RX11 (some .int)) (hw : Wd E (wM V E) s.heap S H locs) (hl : lv_has ls 4 [(0, .ref (ea E 44))]) (hf : Mo_law N S = some (r, S9)) : W p l e (rmh (N + 5)) s m args below meth c H locs 0 0 (MQ below (QW E (wM V E) (some (.int r)) S9) args s 0 0 (eA E)) (F0 m 0 ls []) := by
  have hx := C.1
  have hb := C.2.1
  unfold Mo_law at hf
  refine lv_aload_n hx hb dX11_law_0 rfl (lv_at hl 0 rfl) ?_
  refine lv_iconst (v := -1) hx hb dX11_law_1 kc_m1 ?_
  refine lv_aload_n hx hb dX11_law_2 rfl (lv_at hl 0 rfl) ?_
  refine get_44_11 C hw q_1162 dX11_law_3 ?_
  obtain ⟨r2, S1, hr, hf⟩ := hf_2 hf
  refine inv_Vi (q0 := 44) (ci := 11) (As := [.int (-1 : Int32), .int (gi S 44 11)]) lk_X11_195 C hw rfl rfl rfl (t_Mo_workOut hr) rfl hl.1 dX11_law_6 rfl (by omega) (by decide) (Nat.le_of_ble_eq_true rfl) rfl (fun H locs hw => ?_)
  refine lv_istore_n (lv' := [(1, .int r2), (0, .ref (ea E 44))]) hx hb dX11_law_9 rfl hl (by decide) rfl (fun ls hl => ?_)
  refine lv_aload_n hx hb dX11_law_10 rfl (lv_at hl 1 rfl) ?_
  refine get_44_11 C hw q_1162 dX11_law_11 ?_
  refine nm_i hf (fun x3 hf => ?_)
  refine lv_istore_n (lv' := [(2, .int x3), (1, .int r2), (0, .ref (ea E 44))]) hx hb dX11_law_14 rfl hl (by decide) rfl (fun ls hl => ?_)
  refine lv_aload_n hx hb dX11_law_15 rfl (lv_at hl 2 rfl) ?_
  refine lv_iconst (v := 0) hx hb dX11_law_16 kc_0 ?_
  refine put_44_11 C hw q_1162 dX11_law_17 (fun H locs hw => ?_)
  refine nm_S hf hw (fun S4 hf hw => ?_)
  refine lv_aload_n hx hb dX11_law_20 rfl (lv_at hl 2 rfl) ?_
  refine get_44_17 C hw q_1168 dX11_law_21 ?_
  refine lv_if_lt (tgt := 35) hx hb dX11_law_24 (by decide) (fun q => ?_) (fun q => ?_)
  · have hf := hf_t q hf
    refine lv_iconst (v := 0) hx hb dX11_law_35 kc_0 ?_
    refine lv_istore_n (lv' := [(3, .int (0 : Int32)), (2, .int x3), (1, .int r2), (0, .ref (ea E 44))]) hx hb dX11_law_36 rfl hl (by decide) rfl (fun ls hl => ?_)
    exact w_Mo_law_L37 C _ hf _ _ _ hw (lv_sub hl [3, 1, 0] rfl)
  · have hf := hf_f q hf
    refine lv_bipush (v := -100) hx hb dX11_law_27 kb_m100 ?_
    refine lv_aload_n hx hb dX11_law_29 rfl (lv_at hl 2 rfl) ?_
    refine get_44_17 C hw q_1168 dX11_law_30 ?_
    refine lv_isub hx hb dX11_law_33 ?_
    exact ret_iS C hw dX11_law_34 hf
end
theorem t_Mo_law {l : Launch} {V : St} {N : Nat} {S : St} {r : Int32} {S9 : St} (hf : Mo_law N S = some (r, S9)) : Ct l (wM V) yX11_law cX11_law 4 (some .int) (N + 5) (fun E => [.ref (ea E 44)]) S (fun E => some (.int r)) S9 :=
  ofBlock (by decide +kernel) (fun _ => Nat.le_of_ble_eq_true rfl) (fun E p e s m args below meth c ls C hw hl => w_Mo_law C hw hl hf)
theorem dX11_isOpen_0 : decode cX11_isOpen 0 = .ok (.aload_n 0, 1) := by decide +kernel
theorem dX11_isOpen_1 : decode cX11_isOpen 1 = .ok (.getfield 25, 3) := by decide +kernel
theorem dX11_isOpen_4 : decode cX11_isOpen 4 = .ok (.iload_n 1, 1) := by decide +kernel
theorem dX11_isOpen_5 : decode cX11_isOpen 5 = .ok (.iaload, 1) := by decide +kernel
theorem dX11_isOpen_6 : decode cX11_isOpen 6 = .ok (.iload_n 2, 1) := by decide +kernel
theorem dX11_isOpen_7 : decode cX11_isOpen 7 = .ok (.if_icmp .gt 32, 3) := by decide +kernel
theorem dX11_isOpen_10 : decode cX11_isOpen 10 = .ok (.aload_n 0, 1) := by decide +kernel
theorem dX11_isOpen_11 : decode cX11_isOpen 11 = .ok (.getfield 9, 3) := by decide +kernel
theorem dX11_isOpen_14 : decode cX11_isOpen 14 = .ok (.bipush 38, 2) := by decide +kernel
theorem dX11_isOpen_16 : decode cX11_isOpen 16 = .ok (.iload_n 1, 1) := by decide +kernel
theorem dX11_isOpen_17 : decode cX11_isOpen 17 = .ok (.iadd, 1) := by decide +kernel
theorem dX11_isOpen_18 : decode cX11_isOpen 18 = .ok (.iaload, 1) := by decide +kernel
theorem dX11_isOpen_19 : decode cX11_isOpen 19 = .ok (.ifCond .lt 16, 3) := by decide +kernel
theorem dX11_isOpen_22 : decode cX11_isOpen 22 = .ok (.aload_n 0, 1) := by decide +kernel
theorem dX11_isOpen_23 : decode cX11_isOpen 23 = .ok (.getfield 9, 3) := by decide +kernel
theorem dX11_isOpen_26 : decode cX11_isOpen 26 = .ok (.bipush 38, 2) := by decide +kernel
theorem dX11_isOpen_28 : decode cX11_isOpen 28 = .ok (.iload_n 1, 1) := by decide +kernel
theorem dX11_isOpen_29 : decode cX11_isOpen 29 = .ok (.iadd, 1) := by decide +kernel
theorem dX11_isOpen_30 : decode cX11_isOpen 30 = .ok (.iaload, 1) := by decide +kernel
theorem dX11_isOpen_31 : decode cX11_isOpen 31 = .ok (.iload_n 2, 1) := by decide +kernel
theorem dX11_isOpen_32 : decode cX11_isOpen 32 = .ok (.if_icmp .le 7, 3) := by decide +kernel
theorem dX11_isOpen_35 : decode cX11_isOpen 35 = .ok (.iconst 1, 1) := by decide +kernel
theorem dX11_isOpen_36 : decode cX11_isOpen 36 = .ok (.goto 4, 3) := by decide +kernel
theorem dX11_isOpen_39 : decode cX11_isOpen 39 = .ok (.iconst 0, 1) := by decide +kernel
theorem dX11_isOpen_40 : decode cX11_isOpen 40 = .ok (.ireturn, 1) := by decide +kernel
section
variable {p : Program} {l : Launch} {e : Env} {s : State} {m : MethodId} {args : Array Value} {below : List Frame} {meth : Method} {c : Code} {H : Heap} {locs : List Loc} {E : Ev} {S V : St} {ls : Array Slot}
set_option maxRecDepth 20000 in
theorem w_Mo_isOpen {p1 : Int32} {p2 : Int32} {r : Int32} (C : Cx p s m args meth c E cX11_isOpen 3 RX11 (some .boolean)) (hw : Wd E (wM V E) s.heap S H locs) (hl : lv_has ls 3 [(0, .ref (ea E 44)), (1, .int p1), (2, .int p2)]) (hf : Mo_isOpen S p1 p2 = some r) : W p l e (rmh 1) s m args below meth c H locs 0 0 (MQ below (QW E (wM V E) (some (.int r)) S) args s 0 0 (eA E)) (F0 m 0 ls []) := by
  have hx := C.1
  have hb := C.2.1
  unfold Mo_isOpen at hf
  refine lv_aload_n hx hb dX11_isOpen_0 rfl (lv_at hl 0 rfl) ?_
  refine get_44_9 C hw q_1160 dX11_isOpen_1 ?_
  refine lv_iload_n hx hb dX11_isOpen_4 rfl (lv_at hl 1 rfl) ?_
  obtain ⟨hc, hf⟩ := hf_ck hf
  refine ld_50 C hw hc dX11_isOpen_5 ?_
  refine lv_iload_n hx hb dX11_isOpen_6 rfl (lv_at hl 2 rfl) ?_
  refine lv_icmp_gt (tgt := 39) hx hb dX11_isOpen_7 (by decide) (fun q => ?_) (fun q => ?_)
  · have hf := hf_t q hf
    refine lv_iconst (v := 0) hx hb dX11_isOpen_39 kc_0 ?_
    exact ret_z rfl C hw dX11_isOpen_40 hf
  · have hf := hf_f q hf
    refine lv_aload_n hx hb dX11_isOpen_10 rfl (lv_at hl 0 rfl) ?_
    refine get_44_0 C hw q_1151 dX11_isOpen_11 ?_
    refine lv_bipush (v := 38) hx hb dX11_isOpen_14 kb_38 ?_
    refine lv_iload_n hx hb dX11_isOpen_16 rfl (lv_at hl 1 rfl) ?_
    refine lv_iadd hx hb dX11_isOpen_17 ?_
    obtain ⟨hc, hf⟩ := hf_ck hf
    refine ld_45 C hw hc dX11_isOpen_18 ?_
    refine lv_if_lt (tgt := 35) hx hb dX11_isOpen_19 (by decide) (fun q => ?_) (fun q => ?_)
    · have hf := hf_t q hf
      refine lv_iconst (v := 1) hx hb dX11_isOpen_35 kc_1 ?_
      refine lv_goto (tgt := 40) hx hb dX11_isOpen_36 (by decide) ?_
      exact ret_z rfl C hw dX11_isOpen_40 hf
    · have hf := hf_f q hf
      refine lv_aload_n hx hb dX11_isOpen_22 rfl (lv_at hl 0 rfl) ?_
      refine get_44_0 C hw q_1151 dX11_isOpen_23 ?_
      refine lv_bipush (v := 38) hx hb dX11_isOpen_26 kb_38 ?_
      refine lv_iload_n hx hb dX11_isOpen_28 rfl (lv_at hl 1 rfl) ?_
      refine lv_iadd hx hb dX11_isOpen_29 ?_
      obtain ⟨hc, hf⟩ := hf_ck hf
      refine ld_45 C hw hc dX11_isOpen_30 ?_
      refine lv_iload_n hx hb dX11_isOpen_31 rfl (lv_at hl 2 rfl) ?_
      refine lv_icmp_le (tgt := 39) hx hb dX11_isOpen_32 (by decide) (fun q => ?_) (fun q => ?_)
      · have hf := hf_t q hf
        refine lv_iconst (v := 0) hx hb dX11_isOpen_39 kc_0 ?_
        exact ret_z rfl C hw dX11_isOpen_40 hf
      · have hf := hf_f q hf
        refine lv_iconst (v := 1) hx hb dX11_isOpen_35 kc_1 ?_
        refine lv_goto (tgt := 40) hx hb dX11_isOpen_36 (by decide) ?_
        exact ret_z rfl C hw dX11_isOpen_40 hf
end
theorem t_Mo_isOpen {l : Launch} {V : St} {S : St} {p1 : Int32} {p2 : Int32} {r : Int32} (hf : Mo_isOpen S p1 p2 = some r) : Ct l (wM V) yX11_isOpen cX11_isOpen 3 (some .boolean) 1 (fun E => [.ref (ea E 44), .int p1, .int p2]) S (fun E => some (.int r)) S :=
  ofBlock (by decide +kernel) (fun _ => Nat.le_of_ble_eq_true rfl) (fun E p e s m args below meth c ls C hw hl => w_Mo_isOpen C hw hl hf)
theorem dX11_isOf_0 : decode cX11_isOf 0 = .ok (.aload_n 0, 1) := by decide +kernel
theorem dX11_isOf_1 : decode cX11_isOf 1 = .ok (.getfield 22, 3) := by decide +kernel
theorem dX11_isOf_4 : decode cX11_isOf 4 = .ok (.iload_n 1, 1) := by decide +kernel
theorem dX11_isOf_5 : decode cX11_isOf 5 = .ok (.iaload, 1) := by decide +kernel
theorem dX11_isOf_6 : decode cX11_isOf 6 = .ok (.iload_n 2, 1) := by decide +kernel
theorem dX11_isOf_7 : decode cX11_isOf 7 = .ok (.if_icmp .eq 16, 3) := by decide +kernel
theorem dX11_isOf_10 : decode cX11_isOf 10 = .ok (.aload_n 0, 1) := by decide +kernel
theorem dX11_isOf_11 : decode cX11_isOf 11 = .ok (.getfield 9, 3) := by decide +kernel
theorem dX11_isOf_14 : decode cX11_isOf 14 = .ok (.bipush 48, 2) := by decide +kernel
theorem dX11_isOf_16 : decode cX11_isOf 16 = .ok (.iload_n 1, 1) := by decide +kernel
theorem dX11_isOf_17 : decode cX11_isOf 17 = .ok (.iadd, 1) := by decide +kernel
theorem dX11_isOf_18 : decode cX11_isOf 18 = .ok (.iaload, 1) := by decide +kernel
theorem dX11_isOf_19 : decode cX11_isOf 19 = .ok (.iload_n 2, 1) := by decide +kernel
theorem dX11_isOf_20 : decode cX11_isOf 20 = .ok (.if_icmp .ne 7, 3) := by decide +kernel
theorem dX11_isOf_23 : decode cX11_isOf 23 = .ok (.iconst 1, 1) := by decide +kernel
theorem dX11_isOf_24 : decode cX11_isOf 24 = .ok (.goto 4, 3) := by decide +kernel
theorem dX11_isOf_27 : decode cX11_isOf 27 = .ok (.iconst 0, 1) := by decide +kernel
theorem dX11_isOf_28 : decode cX11_isOf 28 = .ok (.ireturn, 1) := by decide +kernel
section
variable {p : Program} {l : Launch} {e : Env} {s : State} {m : MethodId} {args : Array Value} {below : List Frame} {meth : Method} {c : Code} {H : Heap} {locs : List Loc} {E : Ev} {S V : St} {ls : Array Slot}
set_option maxRecDepth 20000 in
theorem w_Mo_isOf {p1 : Int32} {p2 : Int32} {r : Int32} (C : Cx p s m args meth c E cX11_isOf 3 RX11 (some .boolean)) (hw : Wd E (wM V E) s.heap S H locs) (hl : lv_has ls 3 [(0, .ref (ea E 44)), (1, .int p1), (2, .int p2)]) (hf : Mo_isOf S p1 p2 = some r) : W p l e (rmh 1) s m args below meth c H locs 0 0 (MQ below (QW E (wM V E) (some (.int r)) S) args s 0 0 (eA E)) (F0 m 0 ls []) := by
  have hx := C.1
  have hb := C.2.1
  unfold Mo_isOf at hf
  refine lv_aload_n hx hb dX11_isOf_0 rfl (lv_at hl 0 rfl) ?_
  refine get_44_8 C hw q_1159 dX11_isOf_1 ?_
  refine lv_iload_n hx hb dX11_isOf_4 rfl (lv_at hl 1 rfl) ?_
  obtain ⟨hc, hf⟩ := hf_ck hf
  refine ld_49 C hw hc dX11_isOf_5 ?_
  refine lv_iload_n hx hb dX11_isOf_6 rfl (lv_at hl 2 rfl) ?_
  refine lv_icmp_eq (tgt := 23) hx hb dX11_isOf_7 (by decide) (fun q => ?_) (fun q => ?_)
  · have hf := hf_t q hf
    refine lv_iconst (v := 1) hx hb dX11_isOf_23 kc_1 ?_
    refine lv_goto (tgt := 28) hx hb dX11_isOf_24 (by decide) ?_
    exact ret_z rfl C hw dX11_isOf_28 hf
  · have hf := hf_f q hf
    refine lv_aload_n hx hb dX11_isOf_10 rfl (lv_at hl 0 rfl) ?_
    refine get_44_0 C hw q_1151 dX11_isOf_11 ?_
    refine lv_bipush (v := 48) hx hb dX11_isOf_14 kb_48 ?_
    refine lv_iload_n hx hb dX11_isOf_16 rfl (lv_at hl 1 rfl) ?_
    refine lv_iadd hx hb dX11_isOf_17 ?_
    obtain ⟨hc, hf⟩ := hf_ck hf
    refine ld_45 C hw hc dX11_isOf_18 ?_
    refine lv_iload_n hx hb dX11_isOf_19 rfl (lv_at hl 2 rfl) ?_
    refine lv_icmp_ne (tgt := 27) hx hb dX11_isOf_20 (by decide) (fun q => ?_) (fun q => ?_)
    · have hf := hf_f q hf
      refine lv_iconst (v := 0) hx hb dX11_isOf_27 kc_0 ?_
      exact ret_z rfl C hw dX11_isOf_28 hf
    · have hf := hf_t q hf
      refine lv_iconst (v := 1) hx hb dX11_isOf_23 kc_1 ?_
      refine lv_goto (tgt := 28) hx hb dX11_isOf_24 (by decide) ?_
      exact ret_z rfl C hw dX11_isOf_28 hf
end
theorem t_Mo_isOf {l : Launch} {V : St} {S : St} {p1 : Int32} {p2 : Int32} {r : Int32} (hf : Mo_isOf S p1 p2 = some r) : Ct l (wM V) yX11_isOf cX11_isOf 3 (some .boolean) 1 (fun E => [.ref (ea E 44), .int p1, .int p2]) S (fun E => some (.int r)) S :=
  ofBlock (by decide +kernel) (fun _ => Nat.le_of_ble_eq_true rfl) (fun E p e s m args below meth c ls C hw hl => w_Mo_isOf C hw hl hf)
theorem dX11_chainOf_0 : decode cX11_chainOf 0 = .ok (.aload_n 0, 1) := by decide +kernel
theorem dX11_chainOf_1 : decode cX11_chainOf 1 = .ok (.getfield 9, 3) := by decide +kernel
theorem dX11_chainOf_4 : decode cX11_chainOf 4 = .ok (.iload_n 1, 1) := by decide +kernel
theorem dX11_chainOf_5 : decode cX11_chainOf 5 = .ok (.iaload, 1) := by decide +kernel
theorem dX11_chainOf_6 : decode cX11_chainOf 6 = .ok (.istore_n 3, 1) := by decide +kernel
theorem dX11_chainOf_7 : decode cX11_chainOf 7 = .ok (.iconst 0, 1) := by decide +kernel
theorem dX11_chainOf_8 : decode cX11_chainOf 8 = .ok (.istore 4, 2) := by decide +kernel
theorem dX11_chainOf_10 : decode cX11_chainOf 10 = .ok (.iload 4, 2) := by decide +kernel
theorem dX11_chainOf_12 : decode cX11_chainOf 12 = .ok (.aload_n 0, 1) := by decide +kernel
theorem dX11_chainOf_13 : decode cX11_chainOf 13 = .ok (.getfield 88, 3) := by decide +kernel
theorem dX11_chainOf_16 : decode cX11_chainOf 16 = .ok (.if_icmp .ge 46, 3) := by decide +kernel
theorem dX11_chainOf_19 : decode cX11_chainOf 19 = .ok (.iload_n 3, 1) := by decide +kernel
theorem dX11_chainOf_20 : decode cX11_chainOf 20 = .ok (.aload_n 0, 1) := by decide +kernel
theorem dX11_chainOf_21 : decode cX11_chainOf 21 = .ok (.iload 4, 2) := by decide +kernel
theorem dX11_chainOf_23 : decode cX11_chainOf 23 = .ok (.iload_n 1, 1) := by decide +kernel
theorem dX11_chainOf_24 : decode cX11_chainOf 24 = .ok (.invokevirtual 198, 3) := by decide +kernel
theorem dX11_chainOf_27 : decode cX11_chainOf 27 = .ok (.ifCond .eq 26, 3) := by decide +kernel
theorem dX11_chainOf_30 : decode cX11_chainOf 30 = .ok (.aload_n 0, 1) := by decide +kernel
theorem dX11_chainOf_31 : decode cX11_chainOf 31 = .ok (.iload 4, 2) := by decide +kernel
theorem dX11_chainOf_33 : decode cX11_chainOf 33 = .ok (.iload_n 2, 1) := by decide +kernel
theorem dX11_chainOf_34 : decode cX11_chainOf 34 = .ok (.invokevirtual 202, 3) := by decide +kernel
theorem dX11_chainOf_37 : decode cX11_chainOf 37 = .ok (.ifCond .eq 16, 3) := by decide +kernel
theorem dX11_chainOf_40 : decode cX11_chainOf 40 = .ok (.aload_n 0, 1) := by decide +kernel
theorem dX11_chainOf_41 : decode cX11_chainOf 41 = .ok (.getfield 9, 3) := by decide +kernel
theorem dX11_chainOf_44 : decode cX11_chainOf 44 = .ok (.bipush 28, 2) := by decide +kernel
theorem dX11_chainOf_46 : decode cX11_chainOf 46 = .ok (.iload 4, 2) := by decide +kernel
theorem dX11_chainOf_48 : decode cX11_chainOf 48 = .ok (.iadd, 1) := by decide +kernel
theorem dX11_chainOf_49 : decode cX11_chainOf 49 = .ok (.iaload, 1) := by decide +kernel
theorem dX11_chainOf_50 : decode cX11_chainOf 50 = .ok (.goto 4, 3) := by decide +kernel
theorem dX11_chainOf_53 : decode cX11_chainOf 53 = .ok (.iconst 0, 1) := by decide +kernel
theorem dX11_chainOf_54 : decode cX11_chainOf 54 = .ok (.iadd, 1) := by decide +kernel
theorem dX11_chainOf_55 : decode cX11_chainOf 55 = .ok (.istore_n 3, 1) := by decide +kernel
theorem dX11_chainOf_56 : decode cX11_chainOf 56 = .ok (.iinc 4 1, 3) := by decide +kernel
theorem dX11_chainOf_59 : decode cX11_chainOf 59 = .ok (.goto (-49), 3) := by decide +kernel
theorem dX11_chainOf_62 : decode cX11_chainOf 62 = .ok (.iload_n 3, 1) := by decide +kernel
theorem dX11_chainOf_63 : decode cX11_chainOf 63 = .ok (.ireturn, 1) := by decide +kernel
section
variable {p : Program} {l : Launch} {e : Env} {s : State} {m : MethodId} {args : Array Value} {below : List Frame} {meth : Method} {c : Code} {H : Heap} {locs : List Loc} {E : Ev} {S V : St} {ls : Array Slot}
set_option maxRecDepth 20000 in
theorem w_Mo_chainOf_b53 {N : Nat} {k10 : (Int32 × Int32) → Option Int32} {l1 : Int32} {l2 : Int32} {l4 : Int32} {s0 : Int32} {r : Int32} (C : Cx p s m args meth c E cX11_chainOf 5 RX11 (some .int)) (hk10 : ∀ x, k10 x = some r → ∀ (H : Heap) (locs : List Loc) (ls : Array Slot), Wd E (wM V E) s.heap S H locs → lv_has ls 5 [(0, .ref (ea E 44)), (1, .int l1), (2, .int l2), (3, .int x.1), (4, .int x.2)] → W p l e (rmh 2) s m args below meth c H locs 0 0 (MQ below (QW E (wM V E) (some (.int r)) S) args s 0 0 (eA E)) (F0 m 10 ls [])) (hw : Wd E (wM V E) s.heap S H locs) (hl : lv_has ls 5 [(0, .ref (ea E 44)), (1, .int l1), (2, .int l2), (4, .int l4)]) (hf : Mo_chainOf_b53 N k10 S l1 l2 l4 s0 = some r) : W p l e (rmh 2) s m args below meth c H locs 0 0 (MQ below (QW E (wM V E) (some (.int r)) S) args s 0 0 (eA E)) (F0 m 53 ls [.int s0]) := by
  have hx := C.1
  have hb := C.2.1
  unfold Mo_chainOf_b53 at hf
  refine lv_iconst (v := 0) hx hb dX11_chainOf_53 kc_0 ?_
  refine lv_iadd hx hb dX11_chainOf_54 ?_
  refine nm_i hf (fun x1 hf => ?_)
  refine lv_istore_n (lv' := [(3, .int x1), (0, .ref (ea E 44)), (1, .int l1), (2, .int l2), (4, .int l4)]) hx hb dX11_chainOf_55 rfl hl (by decide) rfl (fun ls hl => ?_)
  obtain ⟨x2, ex2, hf⟩ := nme hf
  refine lv_iinc (v := x2) (lv' := [(4, .int x2), (3, .int x1), (0, .ref (ea E 44)), (1, .int l1), (2, .int l2)]) hx hb dX11_chainOf_56 hl (k := 4) rfl (ki_1 ex2) (by decide) rfl (fun ls hl => ?_)
  refine lv_goto (tgt := 10) hx hb dX11_chainOf_59 (by decide) ?_
  exact hk10 _ hf _ _ _ hw (lv_sub hl [2, 3, 4, 1, 0] rfl)
set_option maxRecDepth 20000 in
theorem w_Mo_chainOf_b10 {N : Nat} {k10 : (Int32 × Int32) → Option Int32} {l1 : Int32} {l2 : Int32} {l3 : Int32} {l4 : Int32} {r : Int32} (C : Cx p s m args meth c E cX11_chainOf 5 RX11 (some .int)) (hk10 : ∀ x, k10 x = some r → ∀ (H : Heap) (locs : List Loc) (ls : Array Slot), Wd E (wM V E) s.heap S H locs → lv_has ls 5 [(0, .ref (ea E 44)), (1, .int l1), (2, .int l2), (3, .int x.1), (4, .int x.2)] → W p l e (rmh 2) s m args below meth c H locs 0 0 (MQ below (QW E (wM V E) (some (.int r)) S) args s 0 0 (eA E)) (F0 m 10 ls [])) (hw : Wd E (wM V E) s.heap S H locs) (hl : lv_has ls 5 [(0, .ref (ea E 44)), (1, .int l1), (2, .int l2), (3, .int l3), (4, .int l4)]) (hf : Mo_chainOf_b10 N k10 S l1 l2 l3 l4 = some r) : W p l e (rmh 2) s m args below meth c H locs 0 0 (MQ below (QW E (wM V E) (some (.int r)) S) args s 0 0 (eA E)) (F0 m 10 ls []) := by
  have hx := C.1
  have hb := C.2.1
  unfold Mo_chainOf_b10 at hf
  refine lv_iload hx hb dX11_chainOf_10 (lv_at hl 4 rfl) ?_
  refine lv_aload_n hx hb dX11_chainOf_12 rfl (lv_at hl 0 rfl) ?_
  refine get_44_7 C hw q_1158 dX11_chainOf_13 ?_
  refine lv_icmp_ge (tgt := 62) hx hb dX11_chainOf_16 (by decide) (fun q => ?_) (fun q => ?_)
  · have hf := hf_t q hf
    refine lv_iload_n hx hb dX11_chainOf_62 rfl (lv_at hl 3 rfl) ?_
    exact ret_i C hw dX11_chainOf_63 hf
  · have hf := hf_f q hf
    refine lv_iload_n hx hb dX11_chainOf_19 rfl (lv_at hl 3 rfl) ?_
    refine lv_aload_n hx hb dX11_chainOf_20 rfl (lv_at hl 0 rfl) ?_
    refine lv_iload hx hb dX11_chainOf_21 (lv_at hl 4 rfl) ?_
    refine lv_iload_n hx hb dX11_chainOf_23 rfl (lv_at hl 1 rfl) ?_
    obtain ⟨r1, hr, hf⟩ := hf_1 hf
    refine inv_Vi (q0 := 44) (ci := 11) (As := [.int l4, .int l1]) lk_X11_198 C hw rfl rfl rfl (t_Mo_isOf hr) rfl hl.1 dX11_chainOf_24 rfl (Nat.le_of_ble_eq_true rfl) (by decide) (Nat.le_of_ble_eq_true rfl) rfl (fun H locs hw => ?_)
    refine lv_if_eq (tgt := 53) hx hb dX11_chainOf_27 (by decide) (fun q => ?_) (fun q => ?_)
    · have hf := hf_t q hf
      exact w_Mo_chainOf_b53 C hk10 hw (lv_sub hl [0, 1, 2, 4] rfl) hf
    · have hf := hf_f q hf
      refine lv_aload_n hx hb dX11_chainOf_30 rfl (lv_at hl 0 rfl) ?_
      refine lv_iload hx hb dX11_chainOf_31 (lv_at hl 4 rfl) ?_
      refine lv_iload_n hx hb dX11_chainOf_33 rfl (lv_at hl 2 rfl) ?_
      obtain ⟨r2, hr, hf⟩ := hf_1 hf
      refine inv_Vi (q0 := 44) (ci := 11) (As := [.int l4, .int l2]) lk_X11_202 C hw rfl rfl rfl (t_Mo_isOpen hr) rfl hl.1 dX11_chainOf_34 rfl (Nat.le_of_ble_eq_true rfl) (by decide) (Nat.le_of_ble_eq_true rfl) rfl (fun H locs hw => ?_)
      refine lv_if_eq (tgt := 53) hx hb dX11_chainOf_37 (by decide) (fun q => ?_) (fun q => ?_)
      · have hf := hf_t q hf
        exact w_Mo_chainOf_b53 C hk10 hw (lv_sub hl [0, 1, 2, 4] rfl) hf
      · have hf := hf_f q hf
        refine lv_aload_n hx hb dX11_chainOf_40 rfl (lv_at hl 0 rfl) ?_
        refine get_44_0 C hw q_1151 dX11_chainOf_41 ?_
        refine lv_bipush (v := 28) hx hb dX11_chainOf_44 kb_28 ?_
        refine lv_iload hx hb dX11_chainOf_46 (lv_at hl 4 rfl) ?_
        refine lv_iadd hx hb dX11_chainOf_48 ?_
        obtain ⟨hc, hf⟩ := hf_ck hf
        refine ld_45 C hw hc dX11_chainOf_49 ?_
        refine lv_goto (tgt := 54) hx hb dX11_chainOf_50 (by decide) ?_
        refine lv_iadd hx hb dX11_chainOf_54 ?_
        refine nm_i hf (fun x3 hf => ?_)
        refine lv_istore_n (lv' := [(3, .int x3), (0, .ref (ea E 44)), (1, .int l1), (2, .int l2), (4, .int l4)]) hx hb dX11_chainOf_55 rfl hl (by decide) rfl (fun ls hl => ?_)
        obtain ⟨x4, ex4, hf⟩ := nme hf
        refine lv_iinc (v := x4) (lv' := [(4, .int x4), (3, .int x3), (0, .ref (ea E 44)), (1, .int l1), (2, .int l2)]) hx hb dX11_chainOf_56 hl (k := 4) rfl (ki_1 ex4) (by decide) rfl (fun ls hl => ?_)
        refine lv_goto (tgt := 10) hx hb dX11_chainOf_59 (by decide) ?_
        exact hk10 _ hf _ _ _ hw (lv_sub hl [2, 3, 4, 1, 0] rfl)
theorem w_Mo_chainOf_L10 {N : Nat} {l1 : Int32} {l2 : Int32} {r : Int32} (C : Cx p s m args meth c E cX11_chainOf 5 RX11 (some .int)) : ∀ x, Mo_chainOf_L10 N S l1 l2 x = some r → ∀ (H : Heap) (locs : List Loc) (ls : Array Slot), Wd E (wM V E) s.heap S H locs → lv_has ls 5 [(0, .ref (ea E 44)), (1, .int l1), (2, .int l2), (3, .int x.1), (4, .int x.2)] → W p l e (rmh 2) s m args below meth c H locs 0 0 (MQ below (QW E (wM V E) (some (.int r)) S) args s 0 0 (eA E)) (F0 m 10 ls []) :=
  lp_W (fun k x hk hf H locs ls hw hl => w_Mo_chainOf_b10 C hk hw hl hf) N
set_option maxRecDepth 20000 in
theorem w_Mo_chainOf {N : Nat} {p1 : Int32} {p2 : Int32} {r : Int32} (C : Cx p s m args meth c E cX11_chainOf 5 RX11 (some .int)) (hw : Wd E (wM V E) s.heap S H locs) (hl : lv_has ls 5 [(0, .ref (ea E 44)), (1, .int p1), (2, .int p2)]) (hf : Mo_chainOf N S p1 p2 = some r) : W p l e (rmh 2) s m args below meth c H locs 0 0 (MQ below (QW E (wM V E) (some (.int r)) S) args s 0 0 (eA E)) (F0 m 0 ls []) := by
  have hx := C.1
  have hb := C.2.1
  unfold Mo_chainOf at hf
  refine lv_aload_n hx hb dX11_chainOf_0 rfl (lv_at hl 0 rfl) ?_
  refine get_44_0 C hw q_1151 dX11_chainOf_1 ?_
  refine lv_iload_n hx hb dX11_chainOf_4 rfl (lv_at hl 1 rfl) ?_
  obtain ⟨hc, hf⟩ := hf_ck hf
  refine ld_45 C hw hc dX11_chainOf_5 ?_
  refine nm_i hf (fun x1 hf => ?_)
  refine lv_istore_n (lv' := [(3, .int x1), (0, .ref (ea E 44)), (1, .int p1), (2, .int p2)]) hx hb dX11_chainOf_6 rfl hl (by decide) rfl (fun ls hl => ?_)
  refine lv_iconst (v := 0) hx hb dX11_chainOf_7 kc_0 ?_
  refine lv_istore (lv' := [(4, .int (0 : Int32)), (3, .int x1), (0, .ref (ea E 44)), (1, .int p1), (2, .int p2)]) hx hb dX11_chainOf_8 hl (by decide) rfl (fun ls hl => ?_)
  exact w_Mo_chainOf_L10 C _ hf _ _ _ hw (lv_sub hl [2, 3, 4, 1, 0] rfl)
end
theorem t_Mo_chainOf {l : Launch} {V : St} {N : Nat} {S : St} {p1 : Int32} {p2 : Int32} {r : Int32} (hf : Mo_chainOf N S p1 p2 = some r) : Ct l (wM V) yX11_chainOf cX11_chainOf 5 (some .int) 2 (fun E => [.ref (ea E 44), .int p1, .int p2]) S (fun E => some (.int r)) S :=
  ofBlock (by decide +kernel) (fun _ => Nat.le_of_ble_eq_true rfl) (fun E p e s m args below meth c ls C hw hl => w_Mo_chainOf C hw hl hf)
theorem dX11_goesRound_0 : decode cX11_goesRound 0 = .ok (.iload_n 2, 1) := by decide +kernel
theorem dX11_goesRound_1 : decode cX11_goesRound 1 = .ok (.i2l, 1) := by decide +kernel
theorem dX11_goesRound_2 : decode cX11_goesRound 2 = .ok (.aload_n 0, 1) := by decide +kernel
theorem dX11_goesRound_3 : decode cX11_goesRound 3 = .ok (.getfield 9, 3) := by decide +kernel
theorem dX11_goesRound_6 : decode cX11_goesRound 6 = .ok (.bipush 6, 2) := by decide +kernel
theorem dX11_goesRound_8 : decode cX11_goesRound 8 = .ok (.iload_n 1, 1) := by decide +kernel
theorem dX11_goesRound_9 : decode cX11_goesRound 9 = .ok (.iadd, 1) := by decide +kernel
theorem dX11_goesRound_10 : decode cX11_goesRound 10 = .ok (.iaload, 1) := by decide +kernel
theorem dX11_goesRound_11 : decode cX11_goesRound 11 = .ok (.i2l, 1) := by decide +kernel
theorem dX11_goesRound_12 : decode cX11_goesRound 12 = .ok (.aload_n 0, 1) := by decide +kernel
theorem dX11_goesRound_13 : decode cX11_goesRound 13 = .ok (.getfield 9, 3) := by decide +kernel
theorem dX11_goesRound_16 : decode cX11_goesRound 16 = .ok (.bipush 6, 2) := by decide +kernel
theorem dX11_goesRound_18 : decode cX11_goesRound 18 = .ok (.iload_n 1, 1) := by decide +kernel
theorem dX11_goesRound_19 : decode cX11_goesRound 19 = .ok (.iadd, 1) := by decide +kernel
theorem dX11_goesRound_20 : decode cX11_goesRound 20 = .ok (.iaload, 1) := by decide +kernel
theorem dX11_goesRound_21 : decode cX11_goesRound 21 = .ok (.aload_n 0, 1) := by decide +kernel
theorem dX11_goesRound_22 : decode cX11_goesRound 22 = .ok (.getfield 9, 3) := by decide +kernel
theorem dX11_goesRound_25 : decode cX11_goesRound 25 = .ok (.bipush 12, 2) := by decide +kernel
theorem dX11_goesRound_27 : decode cX11_goesRound 27 = .ok (.iload_n 1, 1) := by decide +kernel
theorem dX11_goesRound_28 : decode cX11_goesRound 28 = .ok (.iadd, 1) := by decide +kernel
theorem dX11_goesRound_29 : decode cX11_goesRound 29 = .ok (.iaload, 1) := by decide +kernel
theorem dX11_goesRound_30 : decode cX11_goesRound 30 = .ok (.iadd, 1) := by decide +kernel
theorem dX11_goesRound_31 : decode cX11_goesRound 31 = .ok (.i2l, 1) := by decide +kernel
theorem dX11_goesRound_32 : decode cX11_goesRound 32 = .ok (.invokestatic 84, 3) := by decide +kernel
theorem dX11_goesRound_35 : decode cX11_goesRound 35 = .ok (.ireturn, 1) := by decide +kernel
section
variable {p : Program} {l : Launch} {e : Env} {s : State} {m : MethodId} {args : Array Value} {below : List Frame} {meth : Method} {c : Code} {H : Heap} {locs : List Loc} {E : Ev} {S V : St} {ls : Array Slot}
set_option maxRecDepth 20000 in
theorem w_Mo_goesRound {p1 : Int32} {p2 : Int32} {r : Int32} (C : Cx p s m args meth c E cX11_goesRound 3 RX11 (some .boolean)) (hw : Wd E (wM V E) s.heap S H locs) (hl : lv_has ls 3 [(0, .ref (ea E 44)), (1, .int p1), (2, .int p2)]) (hf : Mo_goesRound S p1 p2 = some r) : W p l e (rmh 2) s m args below meth c H locs 0 0 (MQ below (QW E (wM V E) (some (.int r)) S) args s 0 0 (eA E)) (F0 m 0 ls []) := by
  have hx := C.1
  have hb := C.2.1
  unfold Mo_goesRound at hf
  refine lv_iload_n hx hb dX11_goesRound_0 rfl (lv_at hl 2 rfl) ?_
  refine lv_i2l hx hb dX11_goesRound_1 rfl ?_
  refine lv_aload_n hx hb dX11_goesRound_2 rfl (lv_at hl 0 rfl) ?_
  refine get_44_0 C hw q_1151 dX11_goesRound_3 ?_
  refine lv_bipush (v := 6) hx hb dX11_goesRound_6 kb_6 ?_
  refine lv_iload_n hx hb dX11_goesRound_8 rfl (lv_at hl 1 rfl) ?_
  refine lv_iadd hx hb dX11_goesRound_9 ?_
  obtain ⟨hc, hf⟩ := hf_ck hf
  refine ld_45 C hw hc dX11_goesRound_10 ?_
  refine lv_i2l hx hb dX11_goesRound_11 rfl ?_
  refine lv_aload_n hx hb dX11_goesRound_12 rfl (lv_at hl 0 rfl) ?_
  refine get_44_0 C hw q_1151 dX11_goesRound_13 ?_
  refine lv_bipush (v := 6) hx hb dX11_goesRound_16 kb_6 ?_
  refine lv_iload_n hx hb dX11_goesRound_18 rfl (lv_at hl 1 rfl) ?_
  refine lv_iadd hx hb dX11_goesRound_19 ?_
  obtain ⟨hc, hf⟩ := hf_ck hf
  refine ld_45 C hw hc dX11_goesRound_20 ?_
  refine lv_aload_n hx hb dX11_goesRound_21 rfl (lv_at hl 0 rfl) ?_
  refine get_44_0 C hw q_1151 dX11_goesRound_22 ?_
  refine lv_bipush (v := 12) hx hb dX11_goesRound_25 kb_12 ?_
  refine lv_iload_n hx hb dX11_goesRound_27 rfl (lv_at hl 1 rfl) ?_
  refine lv_iadd hx hb dX11_goesRound_28 ?_
  obtain ⟨hc, hf⟩ := hf_ck hf
  refine ld_45 C hw hc dX11_goesRound_29 ?_
  refine lv_iadd hx hb dX11_goesRound_30 ?_
  refine lv_i2l hx hb dX11_goesRound_31 rfl ?_
  obtain ⟨r1, hr, hf⟩ := hf_1 hf
  refine inv_Si (As := [.long (Int32.toInt64 p2), .long (Int32.toInt64 (gi S 45 ((6 : Int32) + p1).toNatClampNeg)), .long (Int32.toInt64 ((gi S 45 ((6 : Int32) + p1).toNatClampNeg) + (gi S 45 ((12 : Int32) + p1).toNatClampNeg)))]) lk_X11_84 C hw (t_Mo_within hr) hl.1 dX11_goesRound_32 rfl (Nat.le_of_ble_eq_true rfl) (by decide) (Nat.le_of_ble_eq_true rfl) rfl (fun H locs hw => ?_)
  obtain ⟨hcb, hf⟩ := hf_ck hf
  exact ret_z (isB_nar hcb) C hw dX11_goesRound_35 hf
end
theorem t_Mo_goesRound {l : Launch} {V : St} {S : St} {p1 : Int32} {p2 : Int32} {r : Int32} (hf : Mo_goesRound S p1 p2 = some r) : Ct l (wM V) yX11_goesRound cX11_goesRound 3 (some .boolean) 2 (fun E => [.ref (ea E 44), .int p1, .int p2]) S (fun E => some (.int r)) S :=
  ofBlock (by decide +kernel) (fun _ => Nat.le_of_ble_eq_true rfl) (fun E p e s m args below meth c ls C hw hl => w_Mo_goesRound C hw hl hf)
theorem dX11_doesRide_0 : decode cX11_doesRide 0 = .ok (.aload_n 0, 1) := by decide +kernel
theorem dX11_doesRide_1 : decode cX11_doesRide 1 = .ok (.iload_n 1, 1) := by decide +kernel
theorem dX11_doesRide_2 : decode cX11_doesRide 2 = .ok (.aload_n 0, 1) := by decide +kernel
theorem dX11_doesRide_3 : decode cX11_doesRide 3 = .ok (.iload_n 1, 1) := by decide +kernel
theorem dX11_doesRide_4 : decode cX11_doesRide 4 = .ok (.iload_n 2, 1) := by decide +kernel
theorem dX11_doesRide_5 : decode cX11_doesRide 5 = .ok (.invokevirtual 205, 3) := by decide +kernel
theorem dX11_doesRide_8 : decode cX11_doesRide 8 = .ok (.invokevirtual 208, 3) := by decide +kernel
theorem dX11_doesRide_11 : decode cX11_doesRide 11 = .ok (.ireturn, 1) := by decide +kernel
section
variable {p : Program} {l : Launch} {e : Env} {s : State} {m : MethodId} {args : Array Value} {below : List Frame} {meth : Method} {c : Code} {H : Heap} {locs : List Loc} {E : Ev} {S V : St} {ls : Array Slot}
set_option maxRecDepth 20000 in
theorem w_Mo_doesRide {N : Nat} {p1 : Int32} {p2 : Int32} {r : Int32} (C : Cx p s m args meth c E cX11_doesRide 3 RX11 (some .boolean)) (hw : Wd E (wM V E) s.heap S H locs) (hl : lv_has ls 3 [(0, .ref (ea E 44)), (1, .int p1), (2, .int p2)]) (hf : Mo_doesRide N S p1 p2 = some r) : W p l e (rmh 3) s m args below meth c H locs 0 0 (MQ below (QW E (wM V E) (some (.int r)) S) args s 0 0 (eA E)) (F0 m 0 ls []) := by
  have hx := C.1
  have hb := C.2.1
  unfold Mo_doesRide at hf
  refine lv_aload_n hx hb dX11_doesRide_0 rfl (lv_at hl 0 rfl) ?_
  refine lv_iload_n hx hb dX11_doesRide_1 rfl (lv_at hl 1 rfl) ?_
  refine lv_aload_n hx hb dX11_doesRide_2 rfl (lv_at hl 0 rfl) ?_
  refine lv_iload_n hx hb dX11_doesRide_3 rfl (lv_at hl 1 rfl) ?_
  refine lv_iload_n hx hb dX11_doesRide_4 rfl (lv_at hl 2 rfl) ?_
  obtain ⟨r1, hr, hf⟩ := hf_1 hf
  refine inv_Vi (q0 := 44) (ci := 11) (As := [.int p1, .int p2]) lk_X11_205 C hw rfl rfl rfl (t_Mo_chainOf hr) rfl hl.1 dX11_doesRide_5 rfl (Nat.le_of_ble_eq_true rfl) (by decide) (Nat.le_of_ble_eq_true rfl) rfl (fun H locs hw => ?_)
  obtain ⟨r2, hr, hf⟩ := hf_1 hf
  refine inv_Vi (q0 := 44) (ci := 11) (As := [.int p1, .int r1]) lk_X11_208 C hw rfl rfl rfl (t_Mo_goesRound hr) rfl hl.1 dX11_doesRide_8 rfl (Nat.le_of_ble_eq_true rfl) (by decide) (Nat.le_of_ble_eq_true rfl) rfl (fun H locs hw => ?_)
  obtain ⟨hcb, hf⟩ := hf_ck hf
  exact ret_z (isB_nar hcb) C hw dX11_doesRide_11 hf
end
theorem t_Mo_doesRide {l : Launch} {V : St} {N : Nat} {S : St} {p1 : Int32} {p2 : Int32} {r : Int32} (hf : Mo_doesRide N S p1 p2 = some r) : Ct l (wM V) yX11_doesRide cX11_doesRide 3 (some .boolean) 3 (fun E => [.ref (ea E 44), .int p1, .int p2]) S (fun E => some (.int r)) S :=
  ofBlock (by decide +kernel) (fun _ => Nat.le_of_ble_eq_true rfl) (fun E p e s m args below meth c ls C hw hl => w_Mo_doesRide C hw hl hf)
theorem dX11_creakOf_0 : decode cX11_creakOf 0 = .ok (.iload_n 2, 1) := by decide +kernel
theorem dX11_creakOf_1 : decode cX11_creakOf 1 = .ok (.aload_n 0, 1) := by decide +kernel
theorem dX11_creakOf_2 : decode cX11_creakOf 2 = .ok (.getfield 9, 3) := by decide +kernel
theorem dX11_creakOf_5 : decode cX11_creakOf 5 = .ok (.bipush 18, 2) := by decide +kernel
theorem dX11_creakOf_7 : decode cX11_creakOf 7 = .ok (.iload_n 1, 1) := by decide +kernel
theorem dX11_creakOf_8 : decode cX11_creakOf 8 = .ok (.iadd, 1) := by decide +kernel
theorem dX11_creakOf_9 : decode cX11_creakOf 9 = .ok (.iaload, 1) := by decide +kernel
theorem dX11_creakOf_10 : decode cX11_creakOf 10 = .ok (.isub, 1) := by decide +kernel
theorem dX11_creakOf_11 : decode cX11_creakOf 11 = .ok (.istore_n 3, 1) := by decide +kernel
theorem dX11_creakOf_12 : decode cX11_creakOf 12 = .ok (.iload_n 3, 1) := by decide +kernel
theorem dX11_creakOf_13 : decode cX11_creakOf 13 = .ok (.ifCond .le 12, 3) := by decide +kernel
theorem dX11_creakOf_16 : decode cX11_creakOf 16 = .ok (.aload_n 0, 1) := by decide +kernel
theorem dX11_creakOf_17 : decode cX11_creakOf 17 = .ok (.iload_n 1, 1) := by decide +kernel
theorem dX11_creakOf_18 : decode cX11_creakOf 18 = .ok (.iload_n 2, 1) := by decide +kernel
theorem dX11_creakOf_19 : decode cX11_creakOf 19 = .ok (.invokevirtual 202, 3) := by decide +kernel
theorem dX11_creakOf_22 : decode cX11_creakOf 22 = .ok (.ifCond .ne 5, 3) := by decide +kernel
theorem dX11_creakOf_25 : decode cX11_creakOf 25 = .ok (.iconst 0, 1) := by decide +kernel
theorem dX11_creakOf_26 : decode cX11_creakOf 26 = .ok (.ireturn, 1) := by decide +kernel
theorem dX11_creakOf_27 : decode cX11_creakOf 27 = .ok (.iload_n 3, 1) := by decide +kernel
theorem dX11_creakOf_28 : decode cX11_creakOf 28 = .ok (.aload_n 0, 1) := by decide +kernel
theorem dX11_creakOf_29 : decode cX11_creakOf 29 = .ok (.getfield 9, 3) := by decide +kernel
theorem dX11_creakOf_32 : decode cX11_creakOf 32 = .ok (.bipush 28, 2) := by decide +kernel
theorem dX11_creakOf_34 : decode cX11_creakOf 34 = .ok (.iload_n 1, 1) := by decide +kernel
theorem dX11_creakOf_35 : decode cX11_creakOf 35 = .ok (.iadd, 1) := by decide +kernel
theorem dX11_creakOf_36 : decode cX11_creakOf 36 = .ok (.iaload, 1) := by decide +kernel
theorem dX11_creakOf_37 : decode cX11_creakOf 37 = .ok (.iadd, 1) := by decide +kernel
theorem dX11_creakOf_38 : decode cX11_creakOf 38 = .ok (.istore 4, 2) := by decide +kernel
theorem dX11_creakOf_40 : decode cX11_creakOf 40 = .ok (.aload_n 0, 1) := by decide +kernel
theorem dX11_creakOf_41 : decode cX11_creakOf 41 = .ok (.getfield 71, 3) := by decide +kernel
theorem dX11_creakOf_44 : decode cX11_creakOf 44 = .ok (.ifCond .lt 103, 3) := by decide +kernel
theorem dX11_creakOf_47 : decode cX11_creakOf 47 = .ok (.aload_n 0, 1) := by decide +kernel
theorem dX11_creakOf_48 : decode cX11_creakOf 48 = .ok (.getfield 34, 3) := by decide +kernel
theorem dX11_creakOf_51 : decode cX11_creakOf 51 = .ok (.iconst 0, 1) := by decide +kernel
theorem dX11_creakOf_52 : decode cX11_creakOf 52 = .ok (.iload_n 3, 1) := by decide +kernel
theorem dX11_creakOf_53 : decode cX11_creakOf 53 = .ok (.iastore, 1) := by decide +kernel
theorem dX11_creakOf_54 : decode cX11_creakOf 54 = .ok (.aload_n 0, 1) := by decide +kernel
theorem dX11_creakOf_55 : decode cX11_creakOf 55 = .ok (.getfield 34, 3) := by decide +kernel
theorem dX11_creakOf_58 : decode cX11_creakOf 58 = .ok (.iconst 1, 1) := by decide +kernel
theorem dX11_creakOf_59 : decode cX11_creakOf 59 = .ok (.aload_n 0, 1) := by decide +kernel
theorem dX11_creakOf_60 : decode cX11_creakOf 60 = .ok (.getfield 9, 3) := by decide +kernel
theorem dX11_creakOf_63 : decode cX11_creakOf 63 = .ok (.bipush 28, 2) := by decide +kernel
theorem dX11_creakOf_65 : decode cX11_creakOf 65 = .ok (.iload_n 1, 1) := by decide +kernel
theorem dX11_creakOf_66 : decode cX11_creakOf 66 = .ok (.iadd, 1) := by decide +kernel
theorem dX11_creakOf_67 : decode cX11_creakOf 67 = .ok (.iaload, 1) := by decide +kernel
theorem dX11_creakOf_68 : decode cX11_creakOf 68 = .ok (.iastore, 1) := by decide +kernel
theorem dX11_creakOf_69 : decode cX11_creakOf 69 = .ok (.aload_n 0, 1) := by decide +kernel
theorem dX11_creakOf_70 : decode cX11_creakOf 70 = .ok (.getfield 34, 3) := by decide +kernel
theorem dX11_creakOf_73 : decode cX11_creakOf 73 = .ok (.iconst 2, 1) := by decide +kernel
theorem dX11_creakOf_74 : decode cX11_creakOf 74 = .ok (.aload_n 0, 1) := by decide +kernel
theorem dX11_creakOf_75 : decode cX11_creakOf 75 = .ok (.aload_n 0, 1) := by decide +kernel
theorem dX11_creakOf_76 : decode cX11_creakOf 76 = .ok (.getfield 22, 3) := by decide +kernel
theorem dX11_creakOf_79 : decode cX11_creakOf 79 = .ok (.iload_n 1, 1) := by decide +kernel
theorem dX11_creakOf_80 : decode cX11_creakOf 80 = .ok (.iaload, 1) := by decide +kernel
theorem dX11_creakOf_81 : decode cX11_creakOf 81 = .ok (.iload_n 2, 1) := by decide +kernel
theorem dX11_creakOf_82 : decode cX11_creakOf 82 = .ok (.invokevirtual 205, 3) := by decide +kernel
theorem dX11_creakOf_85 : decode cX11_creakOf 85 = .ok (.iastore, 1) := by decide +kernel
theorem dX11_creakOf_86 : decode cX11_creakOf 86 = .ok (.aload_n 0, 1) := by decide +kernel
theorem dX11_creakOf_87 : decode cX11_creakOf 87 = .ok (.getfield 34, 3) := by decide +kernel
theorem dX11_creakOf_90 : decode cX11_creakOf 90 = .ok (.iconst 3, 1) := by decide +kernel
theorem dX11_creakOf_91 : decode cX11_creakOf 91 = .ok (.aload_n 0, 1) := by decide +kernel
theorem dX11_creakOf_92 : decode cX11_creakOf 92 = .ok (.getfield 9, 3) := by decide +kernel
theorem dX11_creakOf_95 : decode cX11_creakOf 95 = .ok (.bipush 6, 2) := by decide +kernel
theorem dX11_creakOf_97 : decode cX11_creakOf 97 = .ok (.aload_n 0, 1) := by decide +kernel
theorem dX11_creakOf_98 : decode cX11_creakOf 98 = .ok (.getfield 22, 3) := by decide +kernel
theorem dX11_creakOf_101 : decode cX11_creakOf 101 = .ok (.iload_n 1, 1) := by decide +kernel
theorem dX11_creakOf_102 : decode cX11_creakOf 102 = .ok (.iaload, 1) := by decide +kernel
theorem dX11_creakOf_103 : decode cX11_creakOf 103 = .ok (.iadd, 1) := by decide +kernel
theorem dX11_creakOf_104 : decode cX11_creakOf 104 = .ok (.iaload, 1) := by decide +kernel
theorem dX11_creakOf_105 : decode cX11_creakOf 105 = .ok (.iastore, 1) := by decide +kernel
theorem dX11_creakOf_106 : decode cX11_creakOf 106 = .ok (.aload_n 0, 1) := by decide +kernel
theorem dX11_creakOf_107 : decode cX11_creakOf 107 = .ok (.getfield 34, 3) := by decide +kernel
theorem dX11_creakOf_110 : decode cX11_creakOf 110 = .ok (.iconst 4, 1) := by decide +kernel
theorem dX11_creakOf_111 : decode cX11_creakOf 111 = .ok (.aload_n 0, 1) := by decide +kernel
theorem dX11_creakOf_112 : decode cX11_creakOf 112 = .ok (.getfield 9, 3) := by decide +kernel
theorem dX11_creakOf_115 : decode cX11_creakOf 115 = .ok (.bipush 48, 2) := by decide +kernel
theorem dX11_creakOf_117 : decode cX11_creakOf 117 = .ok (.iload_n 1, 1) := by decide +kernel
theorem dX11_creakOf_118 : decode cX11_creakOf 118 = .ok (.iadd, 1) := by decide +kernel
theorem dX11_creakOf_119 : decode cX11_creakOf 119 = .ok (.iaload, 1) := by decide +kernel
theorem dX11_creakOf_120 : decode cX11_creakOf 120 = .ok (.ifCond .ge 7, 3) := by decide +kernel
theorem dX11_creakOf_123 : decode cX11_creakOf 123 = .ok (.iconst 0, 1) := by decide +kernel
theorem dX11_creakOf_124 : decode cX11_creakOf 124 = .ok (.goto 4, 3) := by decide +kernel
theorem dX11_creakOf_127 : decode cX11_creakOf 127 = .ok (.iconst 1, 1) := by decide +kernel
theorem dX11_creakOf_128 : decode cX11_creakOf 128 = .ok (.iastore, 1) := by decide +kernel
theorem dX11_creakOf_129 : decode cX11_creakOf 129 = .ok (.aload_n 0, 1) := by decide +kernel
theorem dX11_creakOf_130 : decode cX11_creakOf 130 = .ok (.getfield 34, 3) := by decide +kernel
theorem dX11_creakOf_133 : decode cX11_creakOf 133 = .ok (.iconst 5, 1) := by decide +kernel
theorem dX11_creakOf_134 : decode cX11_creakOf 134 = .ok (.iload_n 1, 1) := by decide +kernel
theorem dX11_creakOf_135 : decode cX11_creakOf 135 = .ok (.iastore, 1) := by decide +kernel
theorem dX11_creakOf_136 : decode cX11_creakOf 136 = .ok (.aload_n 0, 1) := by decide +kernel
theorem dX11_creakOf_137 : decode cX11_creakOf 137 = .ok (.iconst 0, 1) := by decide +kernel
theorem dX11_creakOf_138 : decode cX11_creakOf 138 = .ok (.aload_n 0, 1) := by decide +kernel
theorem dX11_creakOf_139 : decode cX11_creakOf 139 = .ok (.getfield 71, 3) := by decide +kernel
theorem dX11_creakOf_142 : decode cX11_creakOf 142 = .ok (.invokevirtual 195, 3) := by decide +kernel
theorem dX11_creakOf_145 : decode cX11_creakOf 145 = .ok (.istore 4, 2) := by decide +kernel
theorem dX11_creakOf_147 : decode cX11_creakOf 147 = .ok (.iload 4, 2) := by decide +kernel
theorem dX11_creakOf_149 : decode cX11_creakOf 149 = .ok (.ifCond .ge 7, 3) := by decide +kernel
theorem dX11_creakOf_152 : decode cX11_creakOf 152 = .ok (.iconst 0, 1) := by decide +kernel
theorem dX11_creakOf_153 : decode cX11_creakOf 153 = .ok (.goto 17, 3) := by decide +kernel
theorem dX11_creakOf_156 : decode cX11_creakOf 156 = .ok (.iload 4, 2) := by decide +kernel
theorem dX11_creakOf_158 : decode cX11_creakOf 158 = .ok (.bipush 99, 2) := by decide +kernel
theorem dX11_creakOf_160 : decode cX11_creakOf 160 = .ok (.if_icmp .le 8, 3) := by decide +kernel
theorem dX11_creakOf_163 : decode cX11_creakOf 163 = .ok (.bipush 99, 2) := by decide +kernel
theorem dX11_creakOf_165 : decode cX11_creakOf 165 = .ok (.goto 5, 3) := by decide +kernel
theorem dX11_creakOf_168 : decode cX11_creakOf 168 = .ok (.iload 4, 2) := by decide +kernel
theorem dX11_creakOf_170 : decode cX11_creakOf 170 = .ok (.ireturn, 1) := by decide +kernel
section
variable {p : Program} {l : Launch} {e : Env} {s : State} {m : MethodId} {args : Array Value} {below : List Frame} {meth : Method} {c : Code} {H : Heap} {locs : List Loc} {E : Ev} {S V : St} {ls : Array Slot}
set_option maxRecDepth 20000 in
theorem w_Mo_creakOf_b147 {N : Nat} {l4 : Int32} {r : Int32} {S9 : St} (C : Cx p s m args meth c E cX11_creakOf 5 RX11 (some .int)) (hw : Wd E (wM V E) s.heap S H locs) (hl : lv_has ls 5 [(4, .int l4)]) (hf : Mo_creakOf_b147 N S l4 = some (r, S9)) : W p l e (rmh (N + 5)) s m args below meth c H locs 0 0 (MQ below (QW E (wM V E) (some (.int r)) S9) args s 0 0 (eA E)) (F0 m 147 ls []) := by
  have hx := C.1
  have hb := C.2.1
  unfold Mo_creakOf_b147 at hf
  refine lv_iload hx hb dX11_creakOf_147 (lv_at hl 0 rfl) ?_
  refine lv_if_ge (tgt := 156) hx hb dX11_creakOf_149 (by decide) (fun q => ?_) (fun q => ?_)
  · have hf := hf_t q hf
    refine lv_iload hx hb dX11_creakOf_156 (lv_at hl 0 rfl) ?_
    refine lv_bipush (v := 99) hx hb dX11_creakOf_158 kb_99 ?_
    refine lv_icmp_le (tgt := 168) hx hb dX11_creakOf_160 (by decide) (fun q => ?_) (fun q => ?_)
    · have hf := hf_t q hf
      refine lv_iload hx hb dX11_creakOf_168 (lv_at hl 0 rfl) ?_
      exact ret_iS C hw dX11_creakOf_170 hf
    · have hf := hf_f q hf
      refine lv_bipush (v := 99) hx hb dX11_creakOf_163 kb_99 ?_
      refine lv_goto (tgt := 170) hx hb dX11_creakOf_165 (by decide) ?_
      exact ret_iS C hw dX11_creakOf_170 hf
  · have hf := hf_f q hf
    refine lv_iconst (v := 0) hx hb dX11_creakOf_152 kc_0 ?_
    refine lv_goto (tgt := 170) hx hb dX11_creakOf_153 (by decide) ?_
    exact ret_iS C hw dX11_creakOf_170 hf
set_option maxRecDepth 20000 in
theorem w_Mo_creakOf_b128 {N : Nat} {l1 : Int32} {s0 : Int32} {s1 : Int32} {r : Int32} {S9 : St} (C : Cx p s m args meth c E cX11_creakOf 5 RX11 (some .int)) (hw : Wd E (wM V E) s.heap S H locs) (hl : lv_has ls 5 [(0, .ref (ea E 44)), (1, .int l1)]) (hf : Mo_creakOf_b128 N S l1 s0 s1 = some (r, S9)) : W p l e (rmh (N + 5)) s m args below meth c H locs 0 0 (MQ below (QW E (wM V E) (some (.int r)) S9) args s 0 0 (eA E)) (F0 m 128 ls [.int s0, .int s1, .ref (ea E 53)]) := by
  have hx := C.1
  have hb := C.2.1
  unfold Mo_creakOf_b128 at hf
  obtain ⟨hc, hf⟩ := hf_ck hf
  refine st_53 C hw hc dX11_creakOf_128 (fun H locs hw => ?_)
  refine nm_S hf hw (fun S1 hf hw => ?_)
  refine lv_aload_n hx hb dX11_creakOf_129 rfl (lv_at hl 0 rfl) ?_
  refine get_44_19 C hw q_1170 dX11_creakOf_130 ?_
  refine lv_iconst (v := 5) hx hb dX11_creakOf_133 kc_5 ?_
  refine lv_iload_n hx hb dX11_creakOf_134 rfl (lv_at hl 1 rfl) ?_
  refine st_53 C hw (by decide) dX11_creakOf_135 (fun H locs hw => ?_)
  refine nm_S hf hw (fun S2 hf hw => ?_)
  refine lv_aload_n hx hb dX11_creakOf_136 rfl (lv_at hl 0 rfl) ?_
  refine lv_iconst (v := 0) hx hb dX11_creakOf_137 kc_0 ?_
  refine lv_aload_n hx hb dX11_creakOf_138 rfl (lv_at hl 0 rfl) ?_
  refine get_44_13 C hw q_1164 dX11_creakOf_139 ?_
  obtain ⟨r4, S3, hr, hf⟩ := hf_2 hf
  refine inv_Vi (q0 := 44) (ci := 11) (As := [.int (0 : Int32), .int (gi S2 44 13)]) lk_X11_195 C hw rfl rfl rfl (t_Mo_workOut hr) rfl hl.1 dX11_creakOf_142 rfl (by omega) (by decide) (Nat.le_of_ble_eq_true rfl) rfl (fun H locs hw => ?_)
  refine lv_istore (lv' := [(4, .int r4), (0, .ref (ea E 44)), (1, .int l1)]) hx hb dX11_creakOf_145 hl (by decide) rfl (fun ls hl => ?_)
  exact w_Mo_creakOf_b147 C hw (lv_sub hl [0] rfl) hf
set_option maxRecDepth 20000 in
theorem w_Mo_creakOf {N : Nat} {p1 : Int32} {p2 : Int32} {r : Int32} {S9 : St} (C : Cx p s m args meth c E cX11_creakOf 5 RX11 (some .int)) (hw : Wd E (wM V E) s.heap S H locs) (hl : lv_has ls 5 [(0, .ref (ea E 44)), (1, .int p1), (2, .int p2)]) (hf : Mo_creakOf N S p1 p2 = some (r, S9)) : W p l e (rmh (N + 5)) s m args below meth c H locs 0 0 (MQ below (QW E (wM V E) (some (.int r)) S9) args s 0 0 (eA E)) (F0 m 0 ls []) := by
  have hx := C.1
  have hb := C.2.1
  unfold Mo_creakOf at hf
  refine lv_iload_n hx hb dX11_creakOf_0 rfl (lv_at hl 2 rfl) ?_
  refine lv_aload_n hx hb dX11_creakOf_1 rfl (lv_at hl 0 rfl) ?_
  refine get_44_0 C hw q_1151 dX11_creakOf_2 ?_
  refine lv_bipush (v := 18) hx hb dX11_creakOf_5 kb_18 ?_
  refine lv_iload_n hx hb dX11_creakOf_7 rfl (lv_at hl 1 rfl) ?_
  refine lv_iadd hx hb dX11_creakOf_8 ?_
  obtain ⟨hc, hf⟩ := hf_ck hf
  refine ld_45 C hw hc dX11_creakOf_9 ?_
  refine lv_isub hx hb dX11_creakOf_10 ?_
  refine nm_i hf (fun x1 hf => ?_)
  refine lv_istore_n (lv' := [(3, .int x1), (0, .ref (ea E 44)), (1, .int p1), (2, .int p2)]) hx hb dX11_creakOf_11 rfl hl (by decide) rfl (fun ls hl => ?_)
  refine lv_iload_n hx hb dX11_creakOf_12 rfl (lv_at hl 0 rfl) ?_
  refine lv_if_le (tgt := 25) hx hb dX11_creakOf_13 (by decide) (fun q => ?_) (fun q => ?_)
  · have hf := hf_t q hf
    refine lv_iconst (v := 0) hx hb dX11_creakOf_25 kc_0 ?_
    exact ret_iS C hw dX11_creakOf_26 hf
  · have hf := hf_f q hf
    refine lv_aload_n hx hb dX11_creakOf_16 rfl (lv_at hl 1 rfl) ?_
    refine lv_iload_n hx hb dX11_creakOf_17 rfl (lv_at hl 2 rfl) ?_
    refine lv_iload_n hx hb dX11_creakOf_18 rfl (lv_at hl 3 rfl) ?_
    obtain ⟨r2, hr, hf⟩ := hf_1 hf
    refine inv_Vi (q0 := 44) (ci := 11) (As := [.int p1, .int p2]) lk_X11_202 C hw rfl rfl rfl (t_Mo_isOpen hr) rfl hl.1 dX11_creakOf_19 rfl (Nat.le_of_ble_eq_true rfl) (by decide) (Nat.le_of_ble_eq_true rfl) rfl (fun H locs hw => ?_)
    refine lv_if_ne (tgt := 27) hx hb dX11_creakOf_22 (by decide) (fun q => ?_) (fun q => ?_)
    · have hf := hf_f q hf
      refine lv_iload_n hx hb dX11_creakOf_27 rfl (lv_at hl 0 rfl) ?_
      refine lv_aload_n hx hb dX11_creakOf_28 rfl (lv_at hl 1 rfl) ?_
      refine get_44_0 C hw q_1151 dX11_creakOf_29 ?_
      refine lv_bipush (v := 28) hx hb dX11_creakOf_32 kb_28 ?_
      refine lv_iload_n hx hb dX11_creakOf_34 rfl (lv_at hl 2 rfl) ?_
      refine lv_iadd hx hb dX11_creakOf_35 ?_
      obtain ⟨hc, hf⟩ := hf_ck hf
      refine ld_45 C hw hc dX11_creakOf_36 ?_
      refine lv_iadd hx hb dX11_creakOf_37 ?_
      refine nm_i hf (fun x3 hf => ?_)
      refine lv_istore (lv' := [(4, .int x3), (3, .int x1), (0, .ref (ea E 44)), (1, .int p1), (2, .int p2)]) hx hb dX11_creakOf_38 hl (by decide) rfl (fun ls hl => ?_)
      refine lv_aload_n hx hb dX11_creakOf_40 rfl (lv_at hl 2 rfl) ?_
      refine get_44_13 C hw q_1164 dX11_creakOf_41 ?_
      refine lv_if_lt (tgt := 147) hx hb dX11_creakOf_44 (by decide) (fun q => ?_) (fun q => ?_)
      · have hf := hf_t q hf
        exact w_Mo_creakOf_b147 C hw (lv_sub hl [0] rfl) hf
      · have hf := hf_f q hf
        refine lv_aload_n hx hb dX11_creakOf_47 rfl (lv_at hl 2 rfl) ?_
        refine get_44_19 C hw q_1170 dX11_creakOf_48 ?_
        refine lv_iconst (v := 0) hx hb dX11_creakOf_51 kc_0 ?_
        refine lv_iload_n hx hb dX11_creakOf_52 rfl (lv_at hl 1 rfl) ?_
        refine st_53 C hw (by decide) dX11_creakOf_53 (fun H locs hw => ?_)
        refine nm_S hf hw (fun S4 hf hw => ?_)
        refine lv_aload_n hx hb dX11_creakOf_54 rfl (lv_at hl 2 rfl) ?_
        refine get_44_19 C hw q_1170 dX11_creakOf_55 ?_
        refine lv_iconst (v := 1) hx hb dX11_creakOf_58 kc_1 ?_
        refine lv_aload_n hx hb dX11_creakOf_59 rfl (lv_at hl 2 rfl) ?_
        refine get_44_0 C hw q_1151 dX11_creakOf_60 ?_
        refine lv_bipush (v := 28) hx hb dX11_creakOf_63 kb_28 ?_
        refine lv_iload_n hx hb dX11_creakOf_65 rfl (lv_at hl 3 rfl) ?_
        refine lv_iadd hx hb dX11_creakOf_66 ?_
        obtain ⟨hc, hf⟩ := hf_ck hf
        refine ld_45 C hw hc dX11_creakOf_67 ?_
        refine st_53 C hw (by decide) dX11_creakOf_68 (fun H locs hw => ?_)
        refine nm_S hf hw (fun S5 hf hw => ?_)
        refine lv_aload_n hx hb dX11_creakOf_69 rfl (lv_at hl 2 rfl) ?_
        refine get_44_19 C hw q_1170 dX11_creakOf_70 ?_
        refine lv_iconst (v := 2) hx hb dX11_creakOf_73 kc_2 ?_
        refine lv_aload_n hx hb dX11_creakOf_74 rfl (lv_at hl 2 rfl) ?_
        refine lv_aload_n hx hb dX11_creakOf_75 rfl (lv_at hl 2 rfl) ?_
        refine get_44_8 C hw q_1159 dX11_creakOf_76 ?_
        refine lv_iload_n hx hb dX11_creakOf_79 rfl (lv_at hl 3 rfl) ?_
        obtain ⟨hc, hf⟩ := hf_ck hf
        refine ld_49 C hw hc dX11_creakOf_80 ?_
        refine lv_iload_n hx hb dX11_creakOf_81 rfl (lv_at hl 4 rfl) ?_
        obtain ⟨r6, hr, hf⟩ := hf_1 hf
        refine inv_Vi (q0 := 44) (ci := 11) (As := [.int (gi S5 49 p1.toNatClampNeg), .int p2]) lk_X11_205 C hw rfl rfl rfl (t_Mo_chainOf hr) rfl hl.1 dX11_creakOf_82 rfl (Nat.le_of_ble_eq_true rfl) (by decide) (Nat.le_of_ble_eq_true rfl) rfl (fun H locs hw => ?_)
        refine st_53 C hw (by decide) dX11_creakOf_85 (fun H locs hw => ?_)
        refine nm_S hf hw (fun S7 hf hw => ?_)
        refine lv_aload_n hx hb dX11_creakOf_86 rfl (lv_at hl 2 rfl) ?_
        refine get_44_19 C hw q_1170 dX11_creakOf_87 ?_
        refine lv_iconst (v := 3) hx hb dX11_creakOf_90 kc_3 ?_
        refine lv_aload_n hx hb dX11_creakOf_91 rfl (lv_at hl 2 rfl) ?_
        refine get_44_0 C hw q_1151 dX11_creakOf_92 ?_
        refine lv_bipush (v := 6) hx hb dX11_creakOf_95 kb_6 ?_
        refine lv_aload_n hx hb dX11_creakOf_97 rfl (lv_at hl 2 rfl) ?_
        refine get_44_8 C hw q_1159 dX11_creakOf_98 ?_
        refine lv_iload_n hx hb dX11_creakOf_101 rfl (lv_at hl 3 rfl) ?_
        obtain ⟨hc, hf⟩ := hf_ck hf
        refine ld_49 C hw hc dX11_creakOf_102 ?_
        refine lv_iadd hx hb dX11_creakOf_103 ?_
        obtain ⟨hc, hf⟩ := hf_ck hf
        refine ld_45 C hw hc dX11_creakOf_104 ?_
        refine st_53 C hw (by decide) dX11_creakOf_105 (fun H locs hw => ?_)
        refine nm_S hf hw (fun S8 hf hw => ?_)
        refine lv_aload_n hx hb dX11_creakOf_106 rfl (lv_at hl 2 rfl) ?_
        refine get_44_19 C hw q_1170 dX11_creakOf_107 ?_
        refine lv_iconst (v := 4) hx hb dX11_creakOf_110 kc_4 ?_
        refine lv_aload_n hx hb dX11_creakOf_111 rfl (lv_at hl 2 rfl) ?_
        refine get_44_0 C hw q_1151 dX11_creakOf_112 ?_
        refine lv_bipush (v := 48) hx hb dX11_creakOf_115 kb_48 ?_
        refine lv_iload_n hx hb dX11_creakOf_117 rfl (lv_at hl 3 rfl) ?_
        refine lv_iadd hx hb dX11_creakOf_118 ?_
        obtain ⟨hc, hf⟩ := hf_ck hf
        refine ld_45 C hw hc dX11_creakOf_119 ?_
        refine lv_if_ge (tgt := 127) hx hb dX11_creakOf_120 (by decide) (fun q => ?_) (fun q => ?_)
        · have hf := hf_t q hf
          refine lv_iconst (v := 1) hx hb dX11_creakOf_127 kc_1 ?_
          exact w_Mo_creakOf_b128 C hw (lv_sub hl [2, 3] rfl) hf
        · have hf := hf_f q hf
          refine lv_iconst (v := 0) hx hb dX11_creakOf_123 kc_0 ?_
          refine lv_goto (tgt := 128) hx hb dX11_creakOf_124 (by decide) ?_
          exact w_Mo_creakOf_b128 C hw (lv_sub hl [2, 3] rfl) hf
    · have hf := hf_t q hf
      refine lv_iconst (v := 0) hx hb dX11_creakOf_25 kc_0 ?_
      exact ret_iS C hw dX11_creakOf_26 hf
end
theorem t_Mo_creakOf {l : Launch} {V : St} {N : Nat} {S : St} {p1 : Int32} {p2 : Int32} {r : Int32} {S9 : St} (hf : Mo_creakOf N S p1 p2 = some (r, S9)) : Ct l (wM V) yX11_creakOf cX11_creakOf 5 (some .int) (N + 5) (fun E => [.ref (ea E 44), .int p1, .int p2]) S (fun E => some (.int r)) S9 :=
  ofBlock (by decide +kernel) (fun _ => Nat.le_of_ble_eq_true rfl) (fun E p e s m args below meth c ls C hw hl => w_Mo_creakOf C hw hl hf)
theorem dX11_creaksOf_0 : decode cX11_creaksOf 0 = .ok (.iconst 0, 1) := by decide +kernel
theorem dX11_creaksOf_1 : decode cX11_creaksOf 1 = .ok (.istore_n 3, 1) := by decide +kernel
theorem dX11_creaksOf_2 : decode cX11_creaksOf 2 = .ok (.iconst 0, 1) := by decide +kernel
theorem dX11_creaksOf_3 : decode cX11_creaksOf 3 = .ok (.istore 4, 2) := by decide +kernel
theorem dX11_creaksOf_5 : decode cX11_creaksOf 5 = .ok (.iload 4, 2) := by decide +kernel
theorem dX11_creaksOf_7 : decode cX11_creaksOf 7 = .ok (.aload_n 0, 1) := by decide +kernel
theorem dX11_creaksOf_8 : decode cX11_creaksOf 8 = .ok (.getfield 88, 3) := by decide +kernel
theorem dX11_creaksOf_11 : decode cX11_creaksOf 11 = .ok (.if_icmp .ge 33, 3) := by decide +kernel
theorem dX11_creaksOf_14 : decode cX11_creaksOf 14 = .ok (.iload_n 3, 1) := by decide +kernel
theorem dX11_creaksOf_15 : decode cX11_creaksOf 15 = .ok (.aload_n 0, 1) := by decide +kernel
theorem dX11_creaksOf_16 : decode cX11_creaksOf 16 = .ok (.iload 4, 2) := by decide +kernel
theorem dX11_creaksOf_18 : decode cX11_creaksOf 18 = .ok (.iload_n 1, 1) := by decide +kernel
theorem dX11_creaksOf_19 : decode cX11_creaksOf 19 = .ok (.invokevirtual 198, 3) := by decide +kernel
theorem dX11_creaksOf_22 : decode cX11_creaksOf 22 = .ok (.ifCond .eq 13, 3) := by decide +kernel
theorem dX11_creaksOf_25 : decode cX11_creaksOf 25 = .ok (.aload_n 0, 1) := by decide +kernel
theorem dX11_creaksOf_26 : decode cX11_creaksOf 26 = .ok (.iload 4, 2) := by decide +kernel
theorem dX11_creaksOf_28 : decode cX11_creaksOf 28 = .ok (.iload_n 2, 1) := by decide +kernel
theorem dX11_creaksOf_29 : decode cX11_creaksOf 29 = .ok (.invokevirtual 211, 3) := by decide +kernel
theorem dX11_creaksOf_32 : decode cX11_creaksOf 32 = .ok (.goto 4, 3) := by decide +kernel
theorem dX11_creaksOf_35 : decode cX11_creaksOf 35 = .ok (.iconst 0, 1) := by decide +kernel
theorem dX11_creaksOf_36 : decode cX11_creaksOf 36 = .ok (.iadd, 1) := by decide +kernel
theorem dX11_creaksOf_37 : decode cX11_creaksOf 37 = .ok (.istore_n 3, 1) := by decide +kernel
theorem dX11_creaksOf_38 : decode cX11_creaksOf 38 = .ok (.iinc 4 1, 3) := by decide +kernel
theorem dX11_creaksOf_41 : decode cX11_creaksOf 41 = .ok (.goto (-36), 3) := by decide +kernel
theorem dX11_creaksOf_44 : decode cX11_creaksOf 44 = .ok (.iload_n 3, 1) := by decide +kernel
theorem dX11_creaksOf_45 : decode cX11_creaksOf 45 = .ok (.ireturn, 1) := by decide +kernel
section
variable {p : Program} {l : Launch} {e : Env} {s : State} {m : MethodId} {args : Array Value} {below : List Frame} {meth : Method} {c : Code} {H : Heap} {locs : List Loc} {E : Ev} {S V : St} {ls : Array Slot}
set_option maxRecDepth 20000 in
theorem w_Mo_creaksOf_b5 {N : Nat} {k5 : (St × Int32 × Int32) → Option (Int32 × St)} {l1 : Int32} {l2 : Int32} {l3 : Int32} {l4 : Int32} {r : Int32} {S9 : St} (C : Cx p s m args meth c E cX11_creaksOf 5 RX11 (some .int)) (hk5 : ∀ x, k5 x = some (r, S9) → ∀ (H : Heap) (locs : List Loc) (ls : Array Slot), Wd E (wM V E) s.heap x.1 H locs → lv_has ls 5 [(0, .ref (ea E 44)), (1, .int l1), (2, .int l2), (3, .int x.2.1), (4, .int x.2.2)] → W p l e (rmh (N + 6)) s m args below meth c H locs 0 0 (MQ below (QW E (wM V E) (some (.int r)) S9) args s 0 0 (eA E)) (F0 m 5 ls [])) (hw : Wd E (wM V E) s.heap S H locs) (hl : lv_has ls 5 [(0, .ref (ea E 44)), (1, .int l1), (2, .int l2), (3, .int l3), (4, .int l4)]) (hf : Mo_creaksOf_b5 N k5 S l1 l2 l3 l4 = some (r, S9)) : W p l e (rmh (N + 6)) s m args below meth c H locs 0 0 (MQ below (QW E (wM V E) (some (.int r)) S9) args s 0 0 (eA E)) (F0 m 5 ls []) := by
  have hx := C.1
  have hb := C.2.1
  unfold Mo_creaksOf_b5 at hf
  refine lv_iload hx hb dX11_creaksOf_5 (lv_at hl 4 rfl) ?_
  refine lv_aload_n hx hb dX11_creaksOf_7 rfl (lv_at hl 0 rfl) ?_
  refine get_44_7 C hw q_1158 dX11_creaksOf_8 ?_
  refine lv_icmp_ge (tgt := 44) hx hb dX11_creaksOf_11 (by decide) (fun q => ?_) (fun q => ?_)
  · have hf := hf_t q hf
    refine lv_iload_n hx hb dX11_creaksOf_44 rfl (lv_at hl 3 rfl) ?_
    exact ret_iS C hw dX11_creaksOf_45 hf
  · have hf := hf_f q hf
    refine lv_iload_n hx hb dX11_creaksOf_14 rfl (lv_at hl 3 rfl) ?_
    refine lv_aload_n hx hb dX11_creaksOf_15 rfl (lv_at hl 0 rfl) ?_
    refine lv_iload hx hb dX11_creaksOf_16 (lv_at hl 4 rfl) ?_
    refine lv_iload_n hx hb dX11_creaksOf_18 rfl (lv_at hl 1 rfl) ?_
    obtain ⟨r1, hr, hf⟩ := hf_1 hf
    refine inv_Vi (q0 := 44) (ci := 11) (As := [.int l4, .int l1]) lk_X11_198 C hw rfl rfl rfl (t_Mo_isOf hr) rfl hl.1 dX11_creaksOf_19 rfl (Nat.le_of_ble_eq_true rfl) (by decide) (Nat.le_of_ble_eq_true rfl) rfl (fun H locs hw => ?_)
    refine lv_if_eq (tgt := 35) hx hb dX11_creaksOf_22 (by decide) (fun q => ?_) (fun q => ?_)
    · have hf := hf_t q hf
      refine lv_iconst (v := 0) hx hb dX11_creaksOf_35 kc_0 ?_
      refine lv_iadd hx hb dX11_creaksOf_36 ?_
      refine nm_i hf (fun x2 hf => ?_)
      refine lv_istore_n (lv' := [(3, .int x2), (0, .ref (ea E 44)), (1, .int l1), (2, .int l2), (4, .int l4)]) hx hb dX11_creaksOf_37 rfl hl (by decide) rfl (fun ls hl => ?_)
      obtain ⟨x3, ex3, hf⟩ := nme hf
      refine lv_iinc (v := x3) (lv' := [(4, .int x3), (3, .int x2), (0, .ref (ea E 44)), (1, .int l1), (2, .int l2)]) hx hb dX11_creaksOf_38 hl (k := 4) rfl (ki_1 ex3) (by decide) rfl (fun ls hl => ?_)
      refine lv_goto (tgt := 5) hx hb dX11_creaksOf_41 (by decide) ?_
      exact hk5 _ hf _ _ _ hw (lv_sub hl [2, 3, 4, 1, 0] rfl)
    · have hf := hf_f q hf
      refine lv_aload_n hx hb dX11_creaksOf_25 rfl (lv_at hl 0 rfl) ?_
      refine lv_iload hx hb dX11_creaksOf_26 (lv_at hl 4 rfl) ?_
      refine lv_iload_n hx hb dX11_creaksOf_28 rfl (lv_at hl 2 rfl) ?_
      obtain ⟨r5, S4, hr, hf⟩ := hf_2 hf
      refine inv_Vi (q0 := 44) (ci := 11) (As := [.int l4, .int l2]) lk_X11_211 C hw rfl rfl rfl (t_Mo_creakOf hr) rfl hl.1 dX11_creaksOf_29 rfl (by omega) (by decide) (Nat.le_of_ble_eq_true rfl) rfl (fun H locs hw => ?_)
      refine lv_goto (tgt := 36) hx hb dX11_creaksOf_32 (by decide) ?_
      refine lv_iadd hx hb dX11_creaksOf_36 ?_
      refine nm_i hf (fun x6 hf => ?_)
      refine lv_istore_n (lv' := [(3, .int x6), (0, .ref (ea E 44)), (1, .int l1), (2, .int l2), (4, .int l4)]) hx hb dX11_creaksOf_37 rfl hl (by decide) rfl (fun ls hl => ?_)
      obtain ⟨x7, ex7, hf⟩ := nme hf
      refine lv_iinc (v := x7) (lv' := [(4, .int x7), (3, .int x6), (0, .ref (ea E 44)), (1, .int l1), (2, .int l2)]) hx hb dX11_creaksOf_38 hl (k := 4) rfl (ki_1 ex7) (by decide) rfl (fun ls hl => ?_)
      refine lv_goto (tgt := 5) hx hb dX11_creaksOf_41 (by decide) ?_
      exact hk5 _ hf _ _ _ hw (lv_sub hl [2, 3, 4, 1, 0] rfl)
theorem w_Mo_creaksOf_L5 {N : Nat} {l1 : Int32} {l2 : Int32} {r : Int32} {S9 : St} (C : Cx p s m args meth c E cX11_creaksOf 5 RX11 (some .int)) : ∀ x, Mo_creaksOf_L5 N l1 l2 x = some (r, S9) → ∀ (H : Heap) (locs : List Loc) (ls : Array Slot), Wd E (wM V E) s.heap x.1 H locs → lv_has ls 5 [(0, .ref (ea E 44)), (1, .int l1), (2, .int l2), (3, .int x.2.1), (4, .int x.2.2)] → W p l e (rmh (N + 6)) s m args below meth c H locs 0 0 (MQ below (QW E (wM V E) (some (.int r)) S9) args s 0 0 (eA E)) (F0 m 5 ls []) :=
  lp_W (fun k x hk hf H locs ls hw hl => w_Mo_creaksOf_b5 C hk hw hl hf) N
set_option maxRecDepth 20000 in
theorem w_Mo_creaksOf {N : Nat} {p1 : Int32} {p2 : Int32} {r : Int32} {S9 : St} (C : Cx p s m args meth c E cX11_creaksOf 5 RX11 (some .int)) (hw : Wd E (wM V E) s.heap S H locs) (hl : lv_has ls 5 [(0, .ref (ea E 44)), (1, .int p1), (2, .int p2)]) (hf : Mo_creaksOf N S p1 p2 = some (r, S9)) : W p l e (rmh (N + 6)) s m args below meth c H locs 0 0 (MQ below (QW E (wM V E) (some (.int r)) S9) args s 0 0 (eA E)) (F0 m 0 ls []) := by
  have hx := C.1
  have hb := C.2.1
  unfold Mo_creaksOf at hf
  refine lv_iconst (v := 0) hx hb dX11_creaksOf_0 kc_0 ?_
  refine lv_istore_n (lv' := [(3, .int (0 : Int32)), (0, .ref (ea E 44)), (1, .int p1), (2, .int p2)]) hx hb dX11_creaksOf_1 rfl hl (by decide) rfl (fun ls hl => ?_)
  refine lv_iconst (v := 0) hx hb dX11_creaksOf_2 kc_0 ?_
  refine lv_istore (lv' := [(4, .int (0 : Int32)), (3, .int (0 : Int32)), (0, .ref (ea E 44)), (1, .int p1), (2, .int p2)]) hx hb dX11_creaksOf_3 hl (by decide) rfl (fun ls hl => ?_)
  exact w_Mo_creaksOf_L5 C _ hf _ _ _ hw (lv_sub hl [2, 3, 4, 1, 0] rfl)
end
theorem t_Mo_creaksOf {l : Launch} {V : St} {N : Nat} {S : St} {p1 : Int32} {p2 : Int32} {r : Int32} {S9 : St} (hf : Mo_creaksOf N S p1 p2 = some (r, S9)) : Ct l (wM V) yX11_creaksOf cX11_creaksOf 5 (some .int) (N + 6) (fun E => [.ref (ea E 44), .int p1, .int p2]) S (fun E => some (.int r)) S9 :=
  ofBlock (by decide +kernel) (fun _ => Nat.le_of_ble_eq_true rfl) (fun E p e s m args below meth c ls C hw hl => w_Mo_creaksOf C hw hl hf)
theorem dX11_debtOf_0 : decode cX11_debtOf 0 = .ok (.iconst 0, 1) := by decide +kernel
theorem dX11_debtOf_1 : decode cX11_debtOf 1 = .ok (.istore_n 3, 1) := by decide +kernel
theorem dX11_debtOf_2 : decode cX11_debtOf 2 = .ok (.iconst 0, 1) := by decide +kernel
theorem dX11_debtOf_3 : decode cX11_debtOf 3 = .ok (.istore 4, 2) := by decide +kernel
theorem dX11_debtOf_5 : decode cX11_debtOf 5 = .ok (.iload 4, 2) := by decide +kernel
theorem dX11_debtOf_7 : decode cX11_debtOf 7 = .ok (.aload_n 0, 1) := by decide +kernel
theorem dX11_debtOf_8 : decode cX11_debtOf 8 = .ok (.getfield 88, 3) := by decide +kernel
theorem dX11_debtOf_11 : decode cX11_debtOf 11 = .ok (.if_icmp .ge 60, 3) := by decide +kernel
theorem dX11_debtOf_14 : decode cX11_debtOf 14 = .ok (.iload_n 3, 1) := by decide +kernel
theorem dX11_debtOf_15 : decode cX11_debtOf 15 = .ok (.aload_n 0, 1) := by decide +kernel
theorem dX11_debtOf_16 : decode cX11_debtOf 16 = .ok (.iload 4, 2) := by decide +kernel
theorem dX11_debtOf_18 : decode cX11_debtOf 18 = .ok (.iload_n 1, 1) := by decide +kernel
theorem dX11_debtOf_19 : decode cX11_debtOf 19 = .ok (.invokevirtual 198, 3) := by decide +kernel
theorem dX11_debtOf_22 : decode cX11_debtOf 22 = .ok (.ifCond .eq 40, 3) := by decide +kernel
theorem dX11_debtOf_25 : decode cX11_debtOf 25 = .ok (.aload_n 0, 1) := by decide +kernel
theorem dX11_debtOf_26 : decode cX11_debtOf 26 = .ok (.iload 4, 2) := by decide +kernel
theorem dX11_debtOf_28 : decode cX11_debtOf 28 = .ok (.iload_n 2, 1) := by decide +kernel
theorem dX11_debtOf_29 : decode cX11_debtOf 29 = .ok (.invokevirtual 202, 3) := by decide +kernel
theorem dX11_debtOf_32 : decode cX11_debtOf 32 = .ok (.ifCond .eq 30, 3) := by decide +kernel
theorem dX11_debtOf_35 : decode cX11_debtOf 35 = .ok (.iload_n 2, 1) := by decide +kernel
theorem dX11_debtOf_36 : decode cX11_debtOf 36 = .ok (.aload_n 0, 1) := by decide +kernel
theorem dX11_debtOf_37 : decode cX11_debtOf 37 = .ok (.getfield 9, 3) := by decide +kernel
theorem dX11_debtOf_40 : decode cX11_debtOf 40 = .ok (.bipush 18, 2) := by decide +kernel
theorem dX11_debtOf_42 : decode cX11_debtOf 42 = .ok (.iload 4, 2) := by decide +kernel
theorem dX11_debtOf_44 : decode cX11_debtOf 44 = .ok (.iadd, 1) := by decide +kernel
theorem dX11_debtOf_45 : decode cX11_debtOf 45 = .ok (.iaload, 1) := by decide +kernel
theorem dX11_debtOf_46 : decode cX11_debtOf 46 = .ok (.if_icmp .le 16, 3) := by decide +kernel
theorem dX11_debtOf_49 : decode cX11_debtOf 49 = .ok (.aload_n 0, 1) := by decide +kernel
theorem dX11_debtOf_50 : decode cX11_debtOf 50 = .ok (.getfield 9, 3) := by decide +kernel
theorem dX11_debtOf_53 : decode cX11_debtOf 53 = .ok (.bipush 28, 2) := by decide +kernel
theorem dX11_debtOf_55 : decode cX11_debtOf 55 = .ok (.iload 4, 2) := by decide +kernel
theorem dX11_debtOf_57 : decode cX11_debtOf 57 = .ok (.iadd, 1) := by decide +kernel
theorem dX11_debtOf_58 : decode cX11_debtOf 58 = .ok (.iaload, 1) := by decide +kernel
theorem dX11_debtOf_59 : decode cX11_debtOf 59 = .ok (.goto 4, 3) := by decide +kernel
theorem dX11_debtOf_62 : decode cX11_debtOf 62 = .ok (.iconst 0, 1) := by decide +kernel
theorem dX11_debtOf_63 : decode cX11_debtOf 63 = .ok (.iadd, 1) := by decide +kernel
theorem dX11_debtOf_64 : decode cX11_debtOf 64 = .ok (.istore_n 3, 1) := by decide +kernel
theorem dX11_debtOf_65 : decode cX11_debtOf 65 = .ok (.iinc 4 1, 3) := by decide +kernel
theorem dX11_debtOf_68 : decode cX11_debtOf 68 = .ok (.goto (-63), 3) := by decide +kernel
theorem dX11_debtOf_71 : decode cX11_debtOf 71 = .ok (.iload_n 3, 1) := by decide +kernel
theorem dX11_debtOf_72 : decode cX11_debtOf 72 = .ok (.ireturn, 1) := by decide +kernel
section
variable {p : Program} {l : Launch} {e : Env} {s : State} {m : MethodId} {args : Array Value} {below : List Frame} {meth : Method} {c : Code} {H : Heap} {locs : List Loc} {E : Ev} {S V : St} {ls : Array Slot}
set_option maxRecDepth 20000 in
theorem w_Mo_debtOf_b62 {N : Nat} {k5 : (Int32 × Int32) → Option Int32} {l1 : Int32} {l2 : Int32} {l4 : Int32} {s0 : Int32} {r : Int32} (C : Cx p s m args meth c E cX11_debtOf 5 RX11 (some .int)) (hk5 : ∀ x, k5 x = some r → ∀ (H : Heap) (locs : List Loc) (ls : Array Slot), Wd E (wM V E) s.heap S H locs → lv_has ls 5 [(0, .ref (ea E 44)), (1, .int l1), (2, .int l2), (3, .int x.1), (4, .int x.2)] → W p l e (rmh 2) s m args below meth c H locs 0 0 (MQ below (QW E (wM V E) (some (.int r)) S) args s 0 0 (eA E)) (F0 m 5 ls [])) (hw : Wd E (wM V E) s.heap S H locs) (hl : lv_has ls 5 [(0, .ref (ea E 44)), (1, .int l1), (2, .int l2), (4, .int l4)]) (hf : Mo_debtOf_b62 N k5 S l1 l2 l4 s0 = some r) : W p l e (rmh 2) s m args below meth c H locs 0 0 (MQ below (QW E (wM V E) (some (.int r)) S) args s 0 0 (eA E)) (F0 m 62 ls [.int s0]) := by
  have hx := C.1
  have hb := C.2.1
  unfold Mo_debtOf_b62 at hf
  refine lv_iconst (v := 0) hx hb dX11_debtOf_62 kc_0 ?_
  refine lv_iadd hx hb dX11_debtOf_63 ?_
  refine nm_i hf (fun x1 hf => ?_)
  refine lv_istore_n (lv' := [(3, .int x1), (0, .ref (ea E 44)), (1, .int l1), (2, .int l2), (4, .int l4)]) hx hb dX11_debtOf_64 rfl hl (by decide) rfl (fun ls hl => ?_)
  obtain ⟨x2, ex2, hf⟩ := nme hf
  refine lv_iinc (v := x2) (lv' := [(4, .int x2), (3, .int x1), (0, .ref (ea E 44)), (1, .int l1), (2, .int l2)]) hx hb dX11_debtOf_65 hl (k := 4) rfl (ki_1 ex2) (by decide) rfl (fun ls hl => ?_)
  refine lv_goto (tgt := 5) hx hb dX11_debtOf_68 (by decide) ?_
  exact hk5 _ hf _ _ _ hw (lv_sub hl [2, 3, 4, 1, 0] rfl)
set_option maxRecDepth 20000 in
theorem w_Mo_debtOf_b5 {N : Nat} {k5 : (Int32 × Int32) → Option Int32} {l1 : Int32} {l2 : Int32} {l3 : Int32} {l4 : Int32} {r : Int32} (C : Cx p s m args meth c E cX11_debtOf 5 RX11 (some .int)) (hk5 : ∀ x, k5 x = some r → ∀ (H : Heap) (locs : List Loc) (ls : Array Slot), Wd E (wM V E) s.heap S H locs → lv_has ls 5 [(0, .ref (ea E 44)), (1, .int l1), (2, .int l2), (3, .int x.1), (4, .int x.2)] → W p l e (rmh 2) s m args below meth c H locs 0 0 (MQ below (QW E (wM V E) (some (.int r)) S) args s 0 0 (eA E)) (F0 m 5 ls [])) (hw : Wd E (wM V E) s.heap S H locs) (hl : lv_has ls 5 [(0, .ref (ea E 44)), (1, .int l1), (2, .int l2), (3, .int l3), (4, .int l4)]) (hf : Mo_debtOf_b5 N k5 S l1 l2 l3 l4 = some r) : W p l e (rmh 2) s m args below meth c H locs 0 0 (MQ below (QW E (wM V E) (some (.int r)) S) args s 0 0 (eA E)) (F0 m 5 ls []) := by
  have hx := C.1
  have hb := C.2.1
  unfold Mo_debtOf_b5 at hf
  refine lv_iload hx hb dX11_debtOf_5 (lv_at hl 4 rfl) ?_
  refine lv_aload_n hx hb dX11_debtOf_7 rfl (lv_at hl 0 rfl) ?_
  refine get_44_7 C hw q_1158 dX11_debtOf_8 ?_
  refine lv_icmp_ge (tgt := 71) hx hb dX11_debtOf_11 (by decide) (fun q => ?_) (fun q => ?_)
  · have hf := hf_t q hf
    refine lv_iload_n hx hb dX11_debtOf_71 rfl (lv_at hl 3 rfl) ?_
    exact ret_i C hw dX11_debtOf_72 hf
  · have hf := hf_f q hf
    refine lv_iload_n hx hb dX11_debtOf_14 rfl (lv_at hl 3 rfl) ?_
    refine lv_aload_n hx hb dX11_debtOf_15 rfl (lv_at hl 0 rfl) ?_
    refine lv_iload hx hb dX11_debtOf_16 (lv_at hl 4 rfl) ?_
    refine lv_iload_n hx hb dX11_debtOf_18 rfl (lv_at hl 1 rfl) ?_
    obtain ⟨r1, hr, hf⟩ := hf_1 hf
    refine inv_Vi (q0 := 44) (ci := 11) (As := [.int l4, .int l1]) lk_X11_198 C hw rfl rfl rfl (t_Mo_isOf hr) rfl hl.1 dX11_debtOf_19 rfl (Nat.le_of_ble_eq_true rfl) (by decide) (Nat.le_of_ble_eq_true rfl) rfl (fun H locs hw => ?_)
    refine lv_if_eq (tgt := 62) hx hb dX11_debtOf_22 (by decide) (fun q => ?_) (fun q => ?_)
    · have hf := hf_t q hf
      exact w_Mo_debtOf_b62 C hk5 hw (lv_sub hl [0, 1, 2, 4] rfl) hf
    · have hf := hf_f q hf
      refine lv_aload_n hx hb dX11_debtOf_25 rfl (lv_at hl 0 rfl) ?_
      refine lv_iload hx hb dX11_debtOf_26 (lv_at hl 4 rfl) ?_
      refine lv_iload_n hx hb dX11_debtOf_28 rfl (lv_at hl 2 rfl) ?_
      obtain ⟨r2, hr, hf⟩ := hf_1 hf
      refine inv_Vi (q0 := 44) (ci := 11) (As := [.int l4, .int l2]) lk_X11_202 C hw rfl rfl rfl (t_Mo_isOpen hr) rfl hl.1 dX11_debtOf_29 rfl (Nat.le_of_ble_eq_true rfl) (by decide) (Nat.le_of_ble_eq_true rfl) rfl (fun H locs hw => ?_)
      refine lv_if_eq (tgt := 62) hx hb dX11_debtOf_32 (by decide) (fun q => ?_) (fun q => ?_)
      · have hf := hf_t q hf
        exact w_Mo_debtOf_b62 C hk5 hw (lv_sub hl [0, 1, 2, 4] rfl) hf
      · have hf := hf_f q hf
        refine lv_iload_n hx hb dX11_debtOf_35 rfl (lv_at hl 2 rfl) ?_
        refine lv_aload_n hx hb dX11_debtOf_36 rfl (lv_at hl 0 rfl) ?_
        refine get_44_0 C hw q_1151 dX11_debtOf_37 ?_
        refine lv_bipush (v := 18) hx hb dX11_debtOf_40 kb_18 ?_
        refine lv_iload hx hb dX11_debtOf_42 (lv_at hl 4 rfl) ?_
        refine lv_iadd hx hb dX11_debtOf_44 ?_
        obtain ⟨hc, hf⟩ := hf_ck hf
        refine ld_45 C hw hc dX11_debtOf_45 ?_
        refine lv_icmp_le (tgt := 62) hx hb dX11_debtOf_46 (by decide) (fun q => ?_) (fun q => ?_)
        · have hf := hf_t q hf
          exact w_Mo_debtOf_b62 C hk5 hw (lv_sub hl [0, 1, 2, 4] rfl) hf
        · have hf := hf_f q hf
          refine lv_aload_n hx hb dX11_debtOf_49 rfl (lv_at hl 0 rfl) ?_
          refine get_44_0 C hw q_1151 dX11_debtOf_50 ?_
          refine lv_bipush (v := 28) hx hb dX11_debtOf_53 kb_28 ?_
          refine lv_iload hx hb dX11_debtOf_55 (lv_at hl 4 rfl) ?_
          refine lv_iadd hx hb dX11_debtOf_57 ?_
          obtain ⟨hc, hf⟩ := hf_ck hf
          refine ld_45 C hw hc dX11_debtOf_58 ?_
          refine lv_goto (tgt := 63) hx hb dX11_debtOf_59 (by decide) ?_
          refine lv_iadd hx hb dX11_debtOf_63 ?_
          refine nm_i hf (fun x3 hf => ?_)
          refine lv_istore_n (lv' := [(3, .int x3), (0, .ref (ea E 44)), (1, .int l1), (2, .int l2), (4, .int l4)]) hx hb dX11_debtOf_64 rfl hl (by decide) rfl (fun ls hl => ?_)
          obtain ⟨x4, ex4, hf⟩ := nme hf
          refine lv_iinc (v := x4) (lv' := [(4, .int x4), (3, .int x3), (0, .ref (ea E 44)), (1, .int l1), (2, .int l2)]) hx hb dX11_debtOf_65 hl (k := 4) rfl (ki_1 ex4) (by decide) rfl (fun ls hl => ?_)
          refine lv_goto (tgt := 5) hx hb dX11_debtOf_68 (by decide) ?_
          exact hk5 _ hf _ _ _ hw (lv_sub hl [2, 3, 4, 1, 0] rfl)
theorem w_Mo_debtOf_L5 {N : Nat} {l1 : Int32} {l2 : Int32} {r : Int32} (C : Cx p s m args meth c E cX11_debtOf 5 RX11 (some .int)) : ∀ x, Mo_debtOf_L5 N S l1 l2 x = some r → ∀ (H : Heap) (locs : List Loc) (ls : Array Slot), Wd E (wM V E) s.heap S H locs → lv_has ls 5 [(0, .ref (ea E 44)), (1, .int l1), (2, .int l2), (3, .int x.1), (4, .int x.2)] → W p l e (rmh 2) s m args below meth c H locs 0 0 (MQ below (QW E (wM V E) (some (.int r)) S) args s 0 0 (eA E)) (F0 m 5 ls []) :=
  lp_W (fun k x hk hf H locs ls hw hl => w_Mo_debtOf_b5 C hk hw hl hf) N
set_option maxRecDepth 20000 in
theorem w_Mo_debtOf {N : Nat} {p1 : Int32} {p2 : Int32} {r : Int32} (C : Cx p s m args meth c E cX11_debtOf 5 RX11 (some .int)) (hw : Wd E (wM V E) s.heap S H locs) (hl : lv_has ls 5 [(0, .ref (ea E 44)), (1, .int p1), (2, .int p2)]) (hf : Mo_debtOf N S p1 p2 = some r) : W p l e (rmh 2) s m args below meth c H locs 0 0 (MQ below (QW E (wM V E) (some (.int r)) S) args s 0 0 (eA E)) (F0 m 0 ls []) := by
  have hx := C.1
  have hb := C.2.1
  unfold Mo_debtOf at hf
  refine lv_iconst (v := 0) hx hb dX11_debtOf_0 kc_0 ?_
  refine lv_istore_n (lv' := [(3, .int (0 : Int32)), (0, .ref (ea E 44)), (1, .int p1), (2, .int p2)]) hx hb dX11_debtOf_1 rfl hl (by decide) rfl (fun ls hl => ?_)
  refine lv_iconst (v := 0) hx hb dX11_debtOf_2 kc_0 ?_
  refine lv_istore (lv' := [(4, .int (0 : Int32)), (3, .int (0 : Int32)), (0, .ref (ea E 44)), (1, .int p1), (2, .int p2)]) hx hb dX11_debtOf_3 hl (by decide) rfl (fun ls hl => ?_)
  exact w_Mo_debtOf_L5 C _ hf _ _ _ hw (lv_sub hl [2, 3, 4, 1, 0] rfl)
end
theorem t_Mo_debtOf {l : Launch} {V : St} {N : Nat} {S : St} {p1 : Int32} {p2 : Int32} {r : Int32} (hf : Mo_debtOf N S p1 p2 = some r) : Ct l (wM V) yX11_debtOf cX11_debtOf 5 (some .int) 2 (fun E => [.ref (ea E 44), .int p1, .int p2]) S (fun E => some (.int r)) S :=
  ofBlock (by decide +kernel) (fun _ => Nat.le_of_ble_eq_true rfl) (fun E p e s m args below meth c ls C hw hl => w_Mo_debtOf C hw hl hf)
