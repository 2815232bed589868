theorem dX11_keptOn_0 : decode cX11_keptOn 0 = .ok (.aload_n 0, 1) := by decide +kernel
theorem dX11_keptOn_1 : decode cX11_keptOn 1 = .ok (.iload_n 1, 1) := by decide +kernel
theorem dX11_keptOn_2 : decode cX11_keptOn 2 = .ok (.invokevirtual 254, 3) := by decide +kernel
theorem dX11_keptOn_5 : decode cX11_keptOn 5 = .ok (.ifCond .lt 32, 3) := by decide +kernel
theorem dX11_keptOn_8 : decode cX11_keptOn 8 = .ok (.aload_n 0, 1) := by decide +kernel
theorem dX11_keptOn_9 : decode cX11_keptOn 9 = .ok (.iload_n 2, 1) := by decide +kernel
theorem dX11_keptOn_10 : decode cX11_keptOn 10 = .ok (.i2l, 1) := by decide +kernel
theorem dX11_keptOn_11 : decode cX11_keptOn 11 = .ok (.invokevirtual 126, 3) := by decide +kernel
theorem dX11_keptOn_14 : decode cX11_keptOn 14 = .ok (.ifCond .eq 23, 3) := by decide +kernel
theorem dX11_keptOn_17 : decode cX11_keptOn 17 = .ok (.aload_n 0, 1) := by decide +kernel
theorem dX11_keptOn_18 : decode cX11_keptOn 18 = .ok (.iload_n 3, 1) := by decide +kernel
theorem dX11_keptOn_19 : decode cX11_keptOn 19 = .ok (.i2l, 1) := by decide +kernel
theorem dX11_keptOn_20 : decode cX11_keptOn 20 = .ok (.invokevirtual 97, 3) := by decide +kernel
theorem dX11_keptOn_23 : decode cX11_keptOn 23 = .ok (.ifCond .eq 14, 3) := by decide +kernel
theorem dX11_keptOn_26 : decode cX11_keptOn 26 = .ok (.iload 4, 2) := by decide +kernel
theorem dX11_keptOn_28 : decode cX11_keptOn 28 = .ok (.i2l, 1) := by decide +kernel
theorem dX11_keptOn_29 : decode cX11_keptOn 29 = .ok (.lconst 0, 1) := by decide +kernel
theorem dX11_keptOn_30 : decode cX11_keptOn 30 = .ok (.lconst 1, 1) := by decide +kernel
theorem dX11_keptOn_31 : decode cX11_keptOn 31 = .ok (.invokestatic 84, 3) := by decide +kernel
theorem dX11_keptOn_34 : decode cX11_keptOn 34 = .ok (.ifCond .ne 6, 3) := by decide +kernel
theorem dX11_keptOn_37 : decode cX11_keptOn 37 = .ok (.ldc 142, 2) := by decide +kernel
theorem dX11_keptOn_39 : decode cX11_keptOn 39 = .ok (.ireturn, 1) := by decide +kernel
theorem dX11_keptOn_40 : decode cX11_keptOn 40 = .ok (.aload_n 0, 1) := by decide +kernel
theorem dX11_keptOn_41 : decode cX11_keptOn 41 = .ok (.getfield 9, 3) := by decide +kernel
theorem dX11_keptOn_44 : decode cX11_keptOn 44 = .ok (.bipush 38, 2) := by decide +kernel
theorem dX11_keptOn_46 : decode cX11_keptOn 46 = .ok (.iload_n 2, 1) := by decide +kernel
theorem dX11_keptOn_47 : decode cX11_keptOn 47 = .ok (.iadd, 1) := by decide +kernel
theorem dX11_keptOn_48 : decode cX11_keptOn 48 = .ok (.iaload, 1) := by decide +kernel
theorem dX11_keptOn_49 : decode cX11_keptOn 49 = .ok (.istore 5, 2) := by decide +kernel
theorem dX11_keptOn_51 : decode cX11_keptOn 51 = .ok (.iconst 0, 1) := by decide +kernel
theorem dX11_keptOn_52 : decode cX11_keptOn 52 = .ok (.istore 6, 2) := by decide +kernel
theorem dX11_keptOn_54 : decode cX11_keptOn 54 = .ok (.bipush (-9), 2) := by decide +kernel
theorem dX11_keptOn_56 : decode cX11_keptOn 56 = .ok (.istore 7, 2) := by decide +kernel
theorem dX11_keptOn_58 : decode cX11_keptOn 58 = .ok (.iconst (-1), 1) := by decide +kernel
theorem dX11_keptOn_59 : decode cX11_keptOn 59 = .ok (.istore 8, 2) := by decide +kernel
theorem dX11_keptOn_61 : decode cX11_keptOn 61 = .ok (.iload 8, 2) := by decide +kernel
theorem dX11_keptOn_63 : decode cX11_keptOn 63 = .ok (.bipush 99, 2) := by decide +kernel
theorem dX11_keptOn_65 : decode cX11_keptOn 65 = .ok (.if_icmp .gt 48, 3) := by decide +kernel
theorem dX11_keptOn_68 : decode cX11_keptOn 68 = .ok (.aload_n 0, 1) := by decide +kernel
theorem dX11_keptOn_69 : decode cX11_keptOn 69 = .ok (.getfield 9, 3) := by decide +kernel
theorem dX11_keptOn_72 : decode cX11_keptOn 72 = .ok (.bipush 38, 2) := by decide +kernel
theorem dX11_keptOn_74 : decode cX11_keptOn 74 = .ok (.iload_n 2, 1) := by decide +kernel
theorem dX11_keptOn_75 : decode cX11_keptOn 75 = .ok (.iadd, 1) := by decide +kernel
theorem dX11_keptOn_76 : decode cX11_keptOn 76 = .ok (.iload 8, 2) := by decide +kernel
theorem dX11_keptOn_78 : decode cX11_keptOn 78 = .ok (.iastore, 1) := by decide +kernel
theorem dX11_keptOn_79 : decode cX11_keptOn 79 = .ok (.aload_n 0, 1) := by decide +kernel
theorem dX11_keptOn_80 : decode cX11_keptOn 80 = .ok (.iload_n 1, 1) := by decide +kernel
theorem dX11_keptOn_81 : decode cX11_keptOn 81 = .ok (.iload_n 3, 1) := by decide +kernel
theorem dX11_keptOn_82 : decode cX11_keptOn 82 = .ok (.invokevirtual 257, 3) := by decide +kernel
theorem dX11_keptOn_85 : decode cX11_keptOn 85 = .ok (.bipush (-2), 2) := by decide +kernel
theorem dX11_keptOn_87 : decode cX11_keptOn 87 = .ok (.if_icmp .ne 20, 3) := by decide +kernel
theorem dX11_keptOn_90 : decode cX11_keptOn 90 = .ok (.iload 6, 2) := by decide +kernel
theorem dX11_keptOn_92 : decode cX11_keptOn 92 = .ok (.ifCond .ne 8, 3) := by decide +kernel
theorem dX11_keptOn_95 : decode cX11_keptOn 95 = .ok (.iload 8, 2) := by decide +kernel
theorem dX11_keptOn_97 : decode cX11_keptOn 97 = .ok (.goto 5, 3) := by decide +kernel
theorem dX11_keptOn_100 : decode cX11_keptOn 100 = .ok (.iload 7, 2) := by decide +kernel
theorem dX11_keptOn_102 : decode cX11_keptOn 102 = .ok (.istore 7, 2) := by decide +kernel
theorem dX11_keptOn_104 : decode cX11_keptOn 104 = .ok (.iinc 6 1, 3) := by decide +kernel
theorem dX11_keptOn_107 : decode cX11_keptOn 107 = .ok (.iinc 8 1, 3) := by decide +kernel
theorem dX11_keptOn_110 : decode cX11_keptOn 110 = .ok (.goto (-49), 3) := by decide +kernel
theorem dX11_keptOn_113 : decode cX11_keptOn 113 = .ok (.aload_n 0, 1) := by decide +kernel
theorem dX11_keptOn_114 : decode cX11_keptOn 114 = .ok (.getfield 9, 3) := by decide +kernel
theorem dX11_keptOn_117 : decode cX11_keptOn 117 = .ok (.bipush 38, 2) := by decide +kernel
theorem dX11_keptOn_119 : decode cX11_keptOn 119 = .ok (.iload_n 2, 1) := by decide +kernel
theorem dX11_keptOn_120 : decode cX11_keptOn 120 = .ok (.iadd, 1) := by decide +kernel
theorem dX11_keptOn_121 : decode cX11_keptOn 121 = .ok (.iload 5, 2) := by decide +kernel
theorem dX11_keptOn_123 : decode cX11_keptOn 123 = .ok (.iastore, 1) := by decide +kernel
theorem dX11_keptOn_124 : decode cX11_keptOn 124 = .ok (.iload 4, 2) := by decide +kernel
theorem dX11_keptOn_126 : decode cX11_keptOn 126 = .ok (.ifCond .ne 8, 3) := by decide +kernel
theorem dX11_keptOn_129 : decode cX11_keptOn 129 = .ok (.iload 6, 2) := by decide +kernel
theorem dX11_keptOn_131 : decode cX11_keptOn 131 = .ok (.goto 5, 3) := by decide +kernel
theorem dX11_keptOn_134 : decode cX11_keptOn 134 = .ok (.iload 7, 2) := by decide +kernel
theorem dX11_keptOn_136 : decode cX11_keptOn 136 = .ok (.ireturn, 1) := by decide +kernel
section
variable {p : Program} {l : Launch} {e : Env} {s : State} {m : MethodId} {args : Array Value} {below : List Frame} {meth : Method} {c : Code} {H : Heap} {locs : List Loc} {E : Ev} {S V : St} {ls : Array Slot}
set_option maxRecDepth 20000 in
theorem w_Mo_keptOn_b61 {N : Nat} {k61 : (St × Int32 × Int32 × Int32) → Option (Int32 × St)} {l1 : Int32} {l2 : Int32} {l3 : Int32} {l4 : Int32} {l5 : Int32} {l6 : Int32} {l7 : Int32} {l8 : Int32} {r : Int32} {S9 : St} (C : Cx p s m args meth c E cX11_keptOn 9 RX11 (some .int)) (hk61 : ∀ x, k61 x = some (r, S9) → ∀ (H : Heap) (locs : List Loc) (ls : Array Slot), Wd E (wM V E) s.heap x.1 H locs → lv_has ls 9 [(0, .ref (ea E 44)), (1, .int l1), (2, .int l2), (3, .int l3), (4, .int l4), (5, .int l5), (6, .int x.2.1), (7, .int x.2.2.1), (8, .int x.2.2.2)] → W p l e (rmh (N + 8)) s m args below meth c H locs 0 0 (MQ below (QW E (wM V E) (some (.int r)) S9) args s 0 0 (eA E)) (F0 m 61 ls [])) (hw : Wd E (wM V E) s.heap S H locs) (hl : lv_has ls 9 [(0, .ref (ea E 44)), (1, .int l1), (2, .int l2), (3, .int l3), (4, .int l4), (5, .int l5), (6, .int l6), (7, .int l7), (8, .int l8)]) (hf : Mo_keptOn_b61 N k61 S l1 l2 l3 l4 l5 l6 l7 l8 = some (r, S9)) : W p l e (rmh (N + 8)) s m args below meth c H locs 0 0 (MQ below (QW E (wM V E) (some (.int r)) S9) args s 0 0 (eA E)) (F0 m 61 ls []) := by
  have hx := C.1
  have hb := C.2.1
  unfold Mo_keptOn_b61 at hf
  refine lv_iload hx hb dX11_keptOn_61 (lv_at hl 8 rfl) ?_
  refine lv_bipush (v := 99) hx hb dX11_keptOn_63 kb_99 ?_
  refine lv_icmp_gt (tgt := 113) hx hb dX11_keptOn_65 (by decide) (fun q => ?_) (fun q => ?_)
  · have hf := hf_t q hf
    refine lv_aload_n hx hb dX11_keptOn_113 rfl (lv_at hl 0 rfl) ?_
    refine get_44_0 C hw q_1151 dX11_keptOn_114 ?_
    refine lv_bipush (v := 38) hx hb dX11_keptOn_117 kb_38 ?_
    refine lv_iload_n hx hb dX11_keptOn_119 rfl (lv_at hl 2 rfl) ?_
    refine lv_iadd hx hb dX11_keptOn_120 ?_
    refine lv_iload hx hb dX11_keptOn_121 (lv_at hl 5 rfl) ?_
    obtain ⟨hc, hf⟩ := hf_ck hf
    refine st_45 C hw hc dX11_keptOn_123 (fun H locs hw => ?_)
    refine nm_S hf hw (fun S1 hf hw => ?_)
    refine lv_iload hx hb dX11_keptOn_124 (lv_at hl 4 rfl) ?_
    refine lv_if_ne (tgt := 134) hx hb dX11_keptOn_126 (by decide) (fun q => ?_) (fun q => ?_)
    · have hf := hf_f q hf
      refine lv_iload hx hb dX11_keptOn_134 (lv_at hl 7 rfl) ?_
      exact ret_iS C hw dX11_keptOn_136 hf
    · have hf := hf_t q hf
      refine lv_iload hx hb dX11_keptOn_129 (lv_at hl 6 rfl) ?_
      refine lv_goto (tgt := 136) hx hb dX11_keptOn_131 (by decide) ?_
      exact ret_iS C hw dX11_keptOn_136 hf
  · have hf := hf_f q hf
    refine lv_aload_n hx hb dX11_keptOn_68 rfl (lv_at hl 0 rfl) ?_
    refine get_44_0 C hw q_1151 dX11_keptOn_69 ?_
    refine lv_bipush (v := 38) hx hb dX11_keptOn_72 kb_38 ?_
    refine lv_iload_n hx hb dX11_keptOn_74 rfl (lv_at hl 2 rfl) ?_
    refine lv_iadd hx hb dX11_keptOn_75 ?_
    refine lv_iload hx hb dX11_keptOn_76 (lv_at hl 8 rfl) ?_
    obtain ⟨hc, hf⟩ := hf_ck hf
    refine st_45 C hw hc dX11_keptOn_78 (fun H locs hw => ?_)
    refine nm_S hf hw (fun S2 hf hw => ?_)
    refine lv_aload_n hx hb dX11_keptOn_79 rfl (lv_at hl 0 rfl) ?_
    refine lv_iload_n hx hb dX11_keptOn_80 rfl (lv_at hl 1 rfl) ?_
    refine lv_iload_n hx hb dX11_keptOn_81 rfl (lv_at hl 3 rfl) ?_
    obtain ⟨r4, S3, hr, hf⟩ := hf_2 hf
    refine inv_Vi (q0 := 44) (ci := 11) (As := [.int l1, .int l3]) lk_X11_257 C hw rfl rfl rfl (t_Mo_firstFalse hr) rfl hl.1 dX11_keptOn_82 rfl (by omega) (by decide) (Nat.le_of_ble_eq_true rfl) rfl (fun H locs hw => ?_)
    refine lv_bipush (v := -2) hx hb dX11_keptOn_85 kb_m2 ?_
    refine lv_icmp_ne (tgt := 107) hx hb dX11_keptOn_87 (by decide) (fun q => ?_) (fun q => ?_)
    · have hf := hf_f q hf
      obtain ⟨x5, ex5, hf⟩ := nme hf
      refine lv_iinc (v := x5) (lv' := [(8, .int x5), (0, .ref (ea E 44)), (1, .int l1), (2, .int l2), (3, .int l3), (4, .int l4), (5, .int l5), (6, .int l6), (7, .int l7)]) hx hb dX11_keptOn_107 hl (k := 8) rfl (ki_1 ex5) (by decide) rfl (fun ls hl => ?_)
      refine lv_goto (tgt := 61) hx hb dX11_keptOn_110 (by decide) ?_
      exact hk61 _ hf _ _ _ hw (lv_sub hl [1, 2, 3, 4, 5, 6, 7, 8, 0] rfl)
    · have hf := hf_t q hf
      refine lv_iload hx hb dX11_keptOn_90 (lv_at hl 6 rfl) ?_
      refine lv_if_ne (tgt := 100) hx hb dX11_keptOn_92 (by decide) (fun q => ?_) (fun q => ?_)
      · have hf := hf_f q hf
        refine lv_iload hx hb dX11_keptOn_100 (lv_at hl 7 rfl) ?_
        refine lv_istore (lv' := [(7, .int l7), (0, .ref (ea E 44)), (1, .int l1), (2, .int l2), (3, .int l3), (4, .int l4), (5, .int l5), (6, .int l6), (8, .int l8)]) hx hb dX11_keptOn_102 hl (by decide) rfl (fun ls hl => ?_)
        obtain ⟨x6, ex6, hf⟩ := nme hf
        refine lv_iinc (v := x6) (lv' := [(6, .int x6), (7, .int l7), (0, .ref (ea E 44)), (1, .int l1), (2, .int l2), (3, .int l3), (4, .int l4), (5, .int l5), (8, .int l8)]) hx hb dX11_keptOn_104 hl (k := 7) rfl (ki_1 ex6) (by decide) rfl (fun ls hl => ?_)
        obtain ⟨x7, ex7, hf⟩ := nme hf
        refine lv_iinc (v := x7) (lv' := [(8, .int x7), (6, .int x6), (7, .int l7), (0, .ref (ea E 44)), (1, .int l1), (2, .int l2), (3, .int l3), (4, .int l4), (5, .int l5)]) hx hb dX11_keptOn_107 hl (k := 8) rfl (ki_1 ex7) (by decide) rfl (fun ls hl => ?_)
        refine lv_goto (tgt := 61) hx hb dX11_keptOn_110 (by decide) ?_
        exact hk61 _ hf _ _ _ hw (lv_sub hl [3, 4, 5, 6, 7, 8, 1, 2, 0] rfl)
      · have hf := hf_t q hf
        refine lv_iload hx hb dX11_keptOn_95 (lv_at hl 8 rfl) ?_
        refine lv_goto (tgt := 102) hx hb dX11_keptOn_97 (by decide) ?_
        refine lv_istore (lv' := [(7, .int l8), (0, .ref (ea E 44)), (1, .int l1), (2, .int l2), (3, .int l3), (4, .int l4), (5, .int l5), (6, .int l6), (8, .int l8)]) hx hb dX11_keptOn_102 hl (by decide) rfl (fun ls hl => ?_)
        obtain ⟨x8, ex8, hf⟩ := nme hf
        refine lv_iinc (v := x8) (lv' := [(6, .int x8), (7, .int l8), (0, .ref (ea E 44)), (1, .int l1), (2, .int l2), (3, .int l3), (4, .int l4), (5, .int l5), (8, .int l8)]) hx hb dX11_keptOn_104 hl (k := 7) rfl (ki_1 ex8) (by decide) rfl (fun ls hl => ?_)
        obtain ⟨x9, ex9, hf⟩ := nme hf
        refine lv_iinc (v := x9) (lv' := [(8, .int x9), (6, .int x8), (7, .int l8), (0, .ref (ea E 44)), (1, .int l1), (2, .int l2), (3, .int l3), (4, .int l4), (5, .int l5)]) hx hb dX11_keptOn_107 hl (k := 8) rfl (ki_1 ex9) (by decide) rfl (fun ls hl => ?_)
        refine lv_goto (tgt := 61) hx hb dX11_keptOn_110 (by decide) ?_
        exact hk61 _ hf _ _ _ hw (lv_sub hl [3, 4, 5, 6, 7, 8, 1, 2, 0] rfl)
theorem w_Mo_keptOn_L61 {N : Nat} {l1 : Int32} {l2 : Int32} {l3 : Int32} {l4 : Int32} {l5 : Int32} {r : Int32} {S9 : St} (C : Cx p s m args meth c E cX11_keptOn 9 RX11 (some .int)) : ∀ x, Mo_keptOn_L61 N l1 l2 l3 l4 l5 x = some (r, S9) → ∀ (H : Heap) (locs : List Loc) (ls : Array Slot), Wd E (wM V E) s.heap x.1 H locs → lv_has ls 9 [(0, .ref (ea E 44)), (1, .int l1), (2, .int l2), (3, .int l3), (4, .int l4), (5, .int l5), (6, .int x.2.1), (7, .int x.2.2.1), (8, .int x.2.2.2)] → W p l e (rmh (N + 8)) s m args below meth c H locs 0 0 (MQ below (QW E (wM V E) (some (.int r)) S9) args s 0 0 (eA E)) (F0 m 61 ls []) :=
  lp_W (fun k x hk hf H locs ls hw hl => w_Mo_keptOn_b61 C hk hw hl hf) N
set_option maxRecDepth 20000 in
theorem w_Mo_keptOn {N : Nat} {p1 : Int32} {p2 : Int32} {p3 : Int32} {p4 : Int32} {r : Int32} {S9 : St} (C : Cx p s m args meth c E cX11_keptOn 9 RX11 (some .int)) (hw : Wd E (wM V E) s.heap S H locs) (hl : lv_has ls 9 [(0, .ref (ea E 44)), (1, .int p1), (2, .int p2), (3, .int p3), (4, .int p4)]) (hf : Mo_keptOn N S p1 p2 p3 p4 = some (r, S9)) : W p l e (rmh (N + 8)) s m args below meth c H locs 0 0 (MQ below (QW E (wM V E) (some (.int r)) S9) args s 0 0 (eA E)) (F0 m 0 ls []) := by
  have hx := C.1
  have hb := C.2.1
  unfold Mo_keptOn at hf
  refine lv_aload_n hx hb dX11_keptOn_0 rfl (lv_at hl 0 rfl) ?_
  refine lv_iload_n hx hb dX11_keptOn_1 rfl (lv_at hl 1 rfl) ?_
  obtain ⟨r1, hr, hf⟩ := hf_1 hf
  refine inv_Vi (q0 := 44) (ci := 11) (As := [.int p1]) lk_X11_254 C hw rfl rfl rfl (t_Mo_shortsIs hr) rfl hl.1 dX11_keptOn_2 rfl (Nat.le_of_ble_eq_true rfl) (by decide) (Nat.le_of_ble_eq_true rfl) rfl (fun H locs hw => ?_)
  refine lv_if_lt (tgt := 37) hx hb dX11_keptOn_5 (by decide) (fun q => ?_) (fun q => ?_)
  · have hf := hf_t q hf
    refine lv_ldc (v := -2000000000) hx hb C.2.2.2.1 (C.2.2.2.2.1 _ q_1340) dX11_keptOn_37 ?_
    exact ret_iS C hw dX11_keptOn_39 hf
  · have hf := hf_f q hf
    refine lv_aload_n hx hb dX11_keptOn_8 rfl (lv_at hl 0 rfl) ?_
    refine lv_iload_n hx hb dX11_keptOn_9 rfl (lv_at hl 2 rfl) ?_
    refine lv_i2l hx hb dX11_keptOn_10 rfl ?_
    obtain ⟨r2, hr, hf⟩ := hf_1 hf
    refine inv_Vi (q0 := 44) (ci := 11) (As := [.long (Int32.toInt64 p2)]) lk_X11_126 C hw rfl rfl rfl (t_Mo_isPromise hr) rfl hl.1 dX11_keptOn_11 rfl (Nat.le_of_ble_eq_true rfl) (by decide) (Nat.le_of_ble_eq_true rfl) rfl (fun H locs hw => ?_)
    refine lv_if_eq (tgt := 37) hx hb dX11_keptOn_14 (by decide) (fun q => ?_) (fun q => ?_)
    · have hf := hf_t q hf
      refine lv_ldc (v := -2000000000) hx hb C.2.2.2.1 (C.2.2.2.2.1 _ q_1340) dX11_keptOn_37 ?_
      exact ret_iS C hw dX11_keptOn_39 hf
    · have hf := hf_f q hf
      refine lv_aload_n hx hb dX11_keptOn_17 rfl (lv_at hl 0 rfl) ?_
      refine lv_iload_n hx hb dX11_keptOn_18 rfl (lv_at hl 3 rfl) ?_
      refine lv_i2l hx hb dX11_keptOn_19 rfl ?_
      obtain ⟨r3, hr, hf⟩ := hf_1 hf
      refine inv_Vi (q0 := 44) (ci := 11) (As := [.long (Int32.toInt64 p3)]) lk_X11_97 C hw rfl rfl rfl (t_Mo_isOne hr) rfl hl.1 dX11_keptOn_20 rfl (Nat.le_of_ble_eq_true rfl) (by decide) (Nat.le_of_ble_eq_true rfl) rfl (fun H locs hw => ?_)
      refine lv_if_eq (tgt := 37) hx hb dX11_keptOn_23 (by decide) (fun q => ?_) (fun q => ?_)
      · have hf := hf_t q hf
        refine lv_ldc (v := -2000000000) hx hb C.2.2.2.1 (C.2.2.2.2.1 _ q_1340) dX11_keptOn_37 ?_
        exact ret_iS C hw dX11_keptOn_39 hf
      · have hf := hf_f q hf
        refine lv_iload hx hb dX11_keptOn_26 (lv_at hl 4 rfl) ?_
        refine lv_i2l hx hb dX11_keptOn_28 rfl ?_
        refine lv_lconst (v := 0) hx hb dX11_keptOn_29 rfl ?_
        refine lv_lconst (v := 1) hx hb dX11_keptOn_30 rfl ?_
        obtain ⟨r4, hr, hf⟩ := hf_1 hf
        refine inv_Si (As := [.long (Int32.toInt64 p4), .long (0 : Int64), .long (1 : Int64)]) lk_X11_84 C hw (t_Mo_within hr) hl.1 dX11_keptOn_31 rfl (Nat.le_of_ble_eq_true rfl) (by decide) (Nat.le_of_ble_eq_true rfl) rfl (fun H locs hw => ?_)
        refine lv_if_ne (tgt := 40) hx hb dX11_keptOn_34 (by decide) (fun q => ?_) (fun q => ?_)
        · have hf := hf_f q hf
          refine lv_aload_n hx hb dX11_keptOn_40 rfl (lv_at hl 0 rfl) ?_
          refine get_44_0 C hw q_1151 dX11_keptOn_41 ?_
          refine lv_bipush (v := 38) hx hb dX11_keptOn_44 kb_38 ?_
          refine lv_iload_n hx hb dX11_keptOn_46 rfl (lv_at hl 2 rfl) ?_
          refine lv_iadd hx hb dX11_keptOn_47 ?_
          obtain ⟨hc, hf⟩ := hf_ck hf
          refine ld_45 C hw hc dX11_keptOn_48 ?_
          refine nm_i hf (fun x5 hf => ?_)
          refine lv_istore (lv' := [(5, .int x5), (0, .ref (ea E 44)), (1, .int p1), (2, .int p2), (3, .int p3), (4, .int p4)]) hx hb dX11_keptOn_49 hl (by decide) rfl (fun ls hl => ?_)
          refine lv_iconst (v := 0) hx hb dX11_keptOn_51 kc_0 ?_
          refine lv_istore (lv' := [(6, .int (0 : Int32)), (5, .int x5), (0, .ref (ea E 44)), (1, .int p1), (2, .int p2), (3, .int p3), (4, .int p4)]) hx hb dX11_keptOn_52 hl (by decide) rfl (fun ls hl => ?_)
          refine lv_bipush (v := -9) hx hb dX11_keptOn_54 kb_m9 ?_
          refine lv_istore (lv' := [(7, .int (-9 : Int32)), (6, .int (0 : Int32)), (5, .int x5), (0, .ref (ea E 44)), (1, .int p1), (2, .int p2), (3, .int p3), (4, .int p4)]) hx hb dX11_keptOn_56 hl (by decide) rfl (fun ls hl => ?_)
          refine lv_iconst (v := -1) hx hb dX11_keptOn_58 kc_m1 ?_
          refine lv_istore (lv' := [(8, .int (-1 : Int32)), (7, .int (-9 : Int32)), (6, .int (0 : Int32)), (5, .int x5), (0, .ref (ea E 44)), (1, .int p1), (2, .int p2), (3, .int p3), (4, .int p4)]) hx hb dX11_keptOn_59 hl (by decide) rfl (fun ls hl => ?_)
          exact w_Mo_keptOn_L61 C _ hf _ _ _ hw (lv_sub hl [4, 5, 6, 7, 8, 3, 2, 1, 0] rfl)
        · have hf := hf_t q hf
          refine lv_ldc (v := -2000000000) hx hb C.2.2.2.1 (C.2.2.2.2.1 _ q_1340) dX11_keptOn_37 ?_
          exact ret_iS C hw dX11_keptOn_39 hf
end
theorem t_Mo_keptOn {l : Launch} {V : St} {N : Nat} {S : St} {p1 : Int32} {p2 : Int32} {p3 : Int32} {p4 : Int32} {r : Int32} {S9 : St} (hf : Mo_keptOn N S p1 p2 p3 p4 = some (r, S9)) : Ct l (wM V) yX11_keptOn cX11_keptOn 9 (some .int) (N + 8) (fun E => [.ref (ea E 44), .int p1, .int p2, .int p3, .int p4]) S (fun E => some (.int r)) S9 :=
  ofBlock (by decide +kernel) (fun _ => Nat.le_of_ble_eq_true rfl) (fun E p e s m args below meth c ls C hw hl => w_Mo_keptOn C hw hl hf)
theorem dX11_whose_0 : decode cX11_whose 0 = .ok (.aload_n 0, 1) := by decide +kernel
theorem dX11_whose_1 : decode cX11_whose 1 = .ok (.iload_n 1, 1) := by decide +kernel
theorem dX11_whose_2 : decode cX11_whose 2 = .ok (.invokevirtual 254, 3) := by decide +kernel
theorem dX11_whose_5 : decode cX11_whose 5 = .ok (.ifCond .ge 9, 3) := by decide +kernel
theorem dX11_whose_8 : decode cX11_whose 8 = .ok (.aload_n 0, 1) := by decide +kernel
theorem dX11_whose_9 : decode cX11_whose 9 = .ok (.iload_n 1, 1) := by decide +kernel
theorem dX11_whose_10 : decode cX11_whose 10 = .ok (.invokevirtual 254, 3) := by decide +kernel
theorem dX11_whose_13 : decode cX11_whose 13 = .ok (.ireturn, 1) := by decide +kernel
theorem dX11_whose_14 : decode cX11_whose 14 = .ok (.iconst 0, 1) := by decide +kernel
theorem dX11_whose_15 : decode cX11_whose 15 = .ok (.istore_n 2, 1) := by decide +kernel
theorem dX11_whose_16 : decode cX11_whose 16 = .ok (.iconst 0, 1) := by decide +kernel
theorem dX11_whose_17 : decode cX11_whose 17 = .ok (.istore_n 3, 1) := by decide +kernel
theorem dX11_whose_18 : decode cX11_whose 18 = .ok (.iload_n 3, 1) := by decide +kernel
theorem dX11_whose_19 : decode cX11_whose 19 = .ok (.aload_n 0, 1) := by decide +kernel
theorem dX11_whose_20 : decode cX11_whose 20 = .ok (.getfield 81, 3) := by decide +kernel
theorem dX11_whose_23 : decode cX11_whose 23 = .ok (.if_icmp .ge 30, 3) := by decide +kernel
theorem dX11_whose_26 : decode cX11_whose 26 = .ok (.iload_n 2, 1) := by decide +kernel
theorem dX11_whose_27 : decode cX11_whose 27 = .ok (.aload_n 0, 1) := by decide +kernel
theorem dX11_whose_28 : decode cX11_whose 28 = .ok (.iload_n 1, 1) := by decide +kernel
theorem dX11_whose_29 : decode cX11_whose 29 = .ok (.iload_n 3, 1) := by decide +kernel
theorem dX11_whose_30 : decode cX11_whose 30 = .ok (.invokevirtual 257, 3) := by decide +kernel
theorem dX11_whose_33 : decode cX11_whose 33 = .ok (.bipush (-2), 2) := by decide +kernel
theorem dX11_whose_35 : decode cX11_whose 35 = .ok (.if_icmp .ne 9, 3) := by decide +kernel
theorem dX11_whose_38 : decode cX11_whose 38 = .ok (.iconst 1, 1) := by decide +kernel
theorem dX11_whose_39 : decode cX11_whose 39 = .ok (.iload_n 3, 1) := by decide +kernel
theorem dX11_whose_40 : decode cX11_whose 40 = .ok (.ishl, 1) := by decide +kernel
theorem dX11_whose_41 : decode cX11_whose 41 = .ok (.goto 4, 3) := by decide +kernel
theorem dX11_whose_44 : decode cX11_whose 44 = .ok (.iconst 0, 1) := by decide +kernel
theorem dX11_whose_45 : decode cX11_whose 45 = .ok (.ior, 1) := by decide +kernel
theorem dX11_whose_46 : decode cX11_whose 46 = .ok (.istore_n 2, 1) := by decide +kernel
theorem dX11_whose_47 : decode cX11_whose 47 = .ok (.iinc 3 1, 3) := by decide +kernel
theorem dX11_whose_50 : decode cX11_whose 50 = .ok (.goto (-32), 3) := by decide +kernel
theorem dX11_whose_53 : decode cX11_whose 53 = .ok (.iload_n 2, 1) := by decide +kernel
theorem dX11_whose_54 : decode cX11_whose 54 = .ok (.ireturn, 1) := by decide +kernel
section
variable {p : Program} {l : Launch} {e : Env} {s : State} {m : MethodId} {args : Array Value} {below : List Frame} {meth : Method} {c : Code} {H : Heap} {locs : List Loc} {E : Ev} {S V : St} {ls : Array Slot}
set_option maxRecDepth 20000 in
theorem w_Mo_whose_b18 {N : Nat} {k18 : (St × Int32 × Int32) → Option (Int32 × St)} {l1 : Int32} {l2 : Int32} {l3 : Int32} {r : Int32} {S9 : St} (C : Cx p s m args meth c E cX11_whose 4 RX11 (some .int)) (hk18 : ∀ x, k18 x = some (r, S9) → ∀ (H : Heap) (locs : List Loc) (ls : Array Slot), Wd E (wM V E) s.heap x.1 H locs → lv_has ls 4 [(0, .ref (ea E 44)), (1, .int l1), (2, .int x.2.1), (3, .int x.2.2)] → W p l e (rmh (N + 8)) s m args below meth c H locs 0 0 (MQ below (QW E (wM V E) (some (.int r)) S9) args s 0 0 (eA E)) (F0 m 18 ls [])) (hw : Wd E (wM V E) s.heap S H locs) (hl : lv_has ls 4 [(0, .ref (ea E 44)), (1, .int l1), (2, .int l2), (3, .int l3)]) (hf : Mo_whose_b18 N k18 S l1 l2 l3 = some (r, S9)) : W p l e (rmh (N + 8)) s m args below meth c H locs 0 0 (MQ below (QW E (wM V E) (some (.int r)) S9) args s 0 0 (eA E)) (F0 m 18 ls []) := by
  have hx := C.1
  have hb := C.2.1
  unfold Mo_whose_b18 at hf
  refine lv_iload_n hx hb dX11_whose_18 rfl (lv_at hl 3 rfl) ?_
  refine lv_aload_n hx hb dX11_whose_19 rfl (lv_at hl 0 rfl) ?_
  refine get_44_6 C hw q_1157 dX11_whose_20 ?_
  refine lv_icmp_ge (tgt := 53) hx hb dX11_whose_23 (by decide) (fun q => ?_) (fun q => ?_)
  · have hf := hf_t q hf
    refine lv_iload_n hx hb dX11_whose_53 rfl (lv_at hl 2 rfl) ?_
    exact ret_iS C hw dX11_whose_54 hf
  · have hf := hf_f q hf
    refine lv_iload_n hx hb dX11_whose_26 rfl (lv_at hl 2 rfl) ?_
    refine lv_aload_n hx hb dX11_whose_27 rfl (lv_at hl 0 rfl) ?_
    refine lv_iload_n hx hb dX11_whose_28 rfl (lv_at hl 1 rfl) ?_
    refine lv_iload_n hx hb dX11_whose_29 rfl (lv_at hl 3 rfl) ?_
    obtain ⟨r2, S1, hr, hf⟩ := hf_2 hf
    refine inv_Vi (q0 := 44) (ci := 11) (As := [.int l1, .int l3]) lk_X11_257 C hw rfl rfl rfl (t_Mo_firstFalse hr) rfl hl.1 dX11_whose_30 rfl (by omega) (by decide) (Nat.le_of_ble_eq_true rfl) rfl (fun H locs hw => ?_)
    refine lv_bipush (v := -2) hx hb dX11_whose_33 kb_m2 ?_
    refine lv_icmp_ne (tgt := 44) hx hb dX11_whose_35 (by decide) (fun q => ?_) (fun q => ?_)
    · have hf := hf_f q hf
      refine lv_iconst (v := 0) hx hb dX11_whose_44 kc_0 ?_
      refine lv_ior hx hb dX11_whose_45 ?_
      refine nm_i hf (fun x3 hf => ?_)
      refine lv_istore_n (lv' := [(2, .int x3), (0, .ref (ea E 44)), (1, .int l1), (3, .int l3)]) hx hb dX11_whose_46 rfl hl (by decide) rfl (fun ls hl => ?_)
      obtain ⟨x4, ex4, hf⟩ := nme hf
      refine lv_iinc (v := x4) (lv' := [(3, .int x4), (2, .int x3), (0, .ref (ea E 44)), (1, .int l1)]) hx hb dX11_whose_47 hl (k := 3) rfl (ki_1 ex4) (by decide) rfl (fun ls hl => ?_)
      refine lv_goto (tgt := 18) hx hb dX11_whose_50 (by decide) ?_
      exact hk18 _ hf _ _ _ hw (lv_sub hl [2, 3, 1, 0] rfl)
    · have hf := hf_t q hf
      refine lv_iconst (v := 1) hx hb dX11_whose_38 kc_1 ?_
      refine lv_iload_n hx hb dX11_whose_39 rfl (lv_at hl 3 rfl) ?_
      refine lv_ishl hx hb dX11_whose_40 ?_
      refine lv_goto (tgt := 45) hx hb dX11_whose_41 (by decide) ?_
      refine lv_ior hx hb dX11_whose_45 ?_
      refine nm_i hf (fun x5 hf => ?_)
      refine lv_istore_n (lv' := [(2, .int x5), (0, .ref (ea E 44)), (1, .int l1), (3, .int l3)]) hx hb dX11_whose_46 rfl hl (by decide) rfl (fun ls hl => ?_)
      obtain ⟨x6, ex6, hf⟩ := nme hf
      refine lv_iinc (v := x6) (lv' := [(3, .int x6), (2, .int x5), (0, .ref (ea E 44)), (1, .int l1)]) hx hb dX11_whose_47 hl (k := 3) rfl (ki_1 ex6) (by decide) rfl (fun ls hl => ?_)
      refine lv_goto (tgt := 18) hx hb dX11_whose_50 (by decide) ?_
      exact hk18 _ hf _ _ _ hw (lv_sub hl [2, 3, 1, 0] rfl)
theorem w_Mo_whose_L18 {N : Nat} {l1 : Int32} {r : Int32} {S9 : St} (C : Cx p s m args meth c E cX11_whose 4 RX11 (some .int)) : ∀ x, Mo_whose_L18 N l1 x = some (r, S9) → ∀ (H : Heap) (locs : List Loc) (ls : Array Slot), Wd E (wM V E) s.heap x.1 H locs → lv_has ls 4 [(0, .ref (ea E 44)), (1, .int l1), (2, .int x.2.1), (3, .int x.2.2)] → W p l e (rmh (N + 8)) s m args below meth c H locs 0 0 (MQ below (QW E (wM V E) (some (.int r)) S9) args s 0 0 (eA E)) (F0 m 18 ls []) :=
  lp_W (fun k x hk hf H locs ls hw hl => w_Mo_whose_b18 C hk hw hl hf) N
set_option maxRecDepth 20000 in
theorem w_Mo_whose {N : Nat} {p1 : Int32} {r : Int32} {S9 : St} (C : Cx p s m args meth c E cX11_whose 4 RX11 (some .int)) (hw : Wd E (wM V E) s.heap S H locs) (hl : lv_has ls 4 [(0, .ref (ea E 44)), (1, .int p1)]) (hf : Mo_whose N S p1 = some (r, S9)) : W p l e (rmh (N + 8)) s m args below meth c H locs 0 0 (MQ below (QW E (wM V E) (some (.int r)) S9) args s 0 0 (eA E)) (F0 m 0 ls []) := by
  have hx := C.1
  have hb := C.2.1
  unfold Mo_whose at hf
  refine lv_aload_n hx hb dX11_whose_0 rfl (lv_at hl 0 rfl) ?_
  refine lv_iload_n hx hb dX11_whose_1 rfl (lv_at hl 1 rfl) ?_
  obtain ⟨r1, hr, hf⟩ := hf_1 hf
  refine inv_Vi (q0 := 44) (ci := 11) (As := [.int p1]) lk_X11_254 C hw rfl rfl rfl (t_Mo_shortsIs hr) rfl hl.1 dX11_whose_2 rfl (Nat.le_of_ble_eq_true rfl) (by decide) (Nat.le_of_ble_eq_true rfl) rfl (fun H locs hw => ?_)
  refine lv_if_ge (tgt := 14) hx hb dX11_whose_5 (by decide) (fun q => ?_) (fun q => ?_)
  · have hf := hf_t q hf
    refine lv_iconst (v := 0) hx hb dX11_whose_14 kc_0 ?_
    refine lv_istore_n (lv' := [(2, .int (0 : Int32)), (0, .ref (ea E 44)), (1, .int p1)]) hx hb dX11_whose_15 rfl hl (by decide) rfl (fun ls hl => ?_)
    refine lv_iconst (v := 0) hx hb dX11_whose_16 kc_0 ?_
    refine lv_istore_n (lv' := [(3, .int (0 : Int32)), (2, .int (0 : Int32)), (0, .ref (ea E 44)), (1, .int p1)]) hx hb dX11_whose_17 rfl hl (by decide) rfl (fun ls hl => ?_)
    exact w_Mo_whose_L18 C _ hf _ _ _ hw (lv_sub hl [2, 3, 1, 0] rfl)
  · have hf := hf_f q hf
    refine lv_aload_n hx hb dX11_whose_8 rfl (lv_at hl 0 rfl) ?_
    refine lv_iload_n hx hb dX11_whose_9 rfl (lv_at hl 1 rfl) ?_
    obtain ⟨r2, hr, hf⟩ := hf_1 hf
    refine inv_Vi (q0 := 44) (ci := 11) (As := [.int p1]) lk_X11_254 C hw rfl rfl rfl (t_Mo_shortsIs hr) rfl hl.1 dX11_whose_10 rfl (Nat.le_of_ble_eq_true rfl) (by decide) (Nat.le_of_ble_eq_true rfl) rfl (fun H locs hw => ?_)
    exact ret_iS C hw dX11_whose_13 hf
end
theorem t_Mo_whose {l : Launch} {V : St} {N : Nat} {S : St} {p1 : Int32} {r : Int32} {S9 : St} (hf : Mo_whose N S p1 = some (r, S9)) : Ct l (wM V) yX11_whose cX11_whose 4 (some .int) (N + 8) (fun E => [.ref (ea E 44), .int p1]) S (fun E => some (.int r)) S9 :=
  ofBlock (by decide +kernel) (fun _ => Nat.le_of_ble_eq_true rfl) (fun E p e s m args below meth c ls C hw hl => w_Mo_whose C hw hl hf)
theorem dX11_winsFrom_0 : decode cX11_winsFrom 0 = .ok (.iload_n 2, 1) := by decide +kernel
theorem dX11_winsFrom_1 : decode cX11_winsFrom 1 = .ok (.iload_n 3, 1) := by decide +kernel
theorem dX11_winsFrom_2 : decode cX11_winsFrom 2 = .ok (.if_icmp .ne 11, 3) := by decide +kernel
theorem dX11_winsFrom_5 : decode cX11_winsFrom 5 = .ok (.aload_n 0, 1) := by decide +kernel
theorem dX11_winsFrom_6 : decode cX11_winsFrom 6 = .ok (.iload_n 1, 1) := by decide +kernel
theorem dX11_winsFrom_7 : decode cX11_winsFrom 7 = .ok (.iload 5, 2) := by decide +kernel
theorem dX11_winsFrom_9 : decode cX11_winsFrom 9 = .ok (.invokevirtual 208, 3) := by decide +kernel
theorem dX11_winsFrom_12 : decode cX11_winsFrom 12 = .ok (.ireturn, 1) := by decide +kernel
theorem dX11_winsFrom_13 : decode cX11_winsFrom 13 = .ok (.iload_n 2, 1) := by decide +kernel
theorem dX11_winsFrom_14 : decode cX11_winsFrom 14 = .ok (.iconst 2, 1) := by decide +kernel
theorem dX11_winsFrom_15 : decode cX11_winsFrom 15 = .ok (.irem, 1) := by decide +kernel
theorem dX11_winsFrom_16 : decode cX11_winsFrom 16 = .ok (.iconst 1, 1) := by decide +kernel
theorem dX11_winsFrom_17 : decode cX11_winsFrom 17 = .ok (.if_icmp .ne 43, 3) := by decide +kernel
theorem dX11_winsFrom_20 : decode cX11_winsFrom 20 = .ok (.aload_n 0, 1) := by decide +kernel
theorem dX11_winsFrom_21 : decode cX11_winsFrom 21 = .ok (.iload_n 1, 1) := by decide +kernel
theorem dX11_winsFrom_22 : decode cX11_winsFrom 22 = .ok (.iload_n 2, 1) := by decide +kernel
theorem dX11_winsFrom_23 : decode cX11_winsFrom 23 = .ok (.iconst 1, 1) := by decide +kernel
theorem dX11_winsFrom_24 : decode cX11_winsFrom 24 = .ok (.iadd, 1) := by decide +kernel
theorem dX11_winsFrom_25 : decode cX11_winsFrom 25 = .ok (.iload_n 3, 1) := by decide +kernel
theorem dX11_winsFrom_26 : decode cX11_winsFrom 26 = .ok (.iload 4, 2) := by decide +kernel
theorem dX11_winsFrom_28 : decode cX11_winsFrom 28 = .ok (.iload 5, 2) := by decide +kernel
theorem dX11_winsFrom_30 : decode cX11_winsFrom 30 = .ok (.iconst 1, 1) := by decide +kernel
theorem dX11_winsFrom_31 : decode cX11_winsFrom 31 = .ok (.iadd, 1) := by decide +kernel
theorem dX11_winsFrom_32 : decode cX11_winsFrom 32 = .ok (.invokevirtual 260, 3) := by decide +kernel
theorem dX11_winsFrom_35 : decode cX11_winsFrom 35 = .ok (.ifCond .eq 23, 3) := by decide +kernel
theorem dX11_winsFrom_38 : decode cX11_winsFrom 38 = .ok (.aload_n 0, 1) := by decide +kernel
theorem dX11_winsFrom_39 : decode cX11_winsFrom 39 = .ok (.iload_n 1, 1) := by decide +kernel
theorem dX11_winsFrom_40 : decode cX11_winsFrom 40 = .ok (.iload_n 2, 1) := by decide +kernel
theorem dX11_winsFrom_41 : decode cX11_winsFrom 41 = .ok (.iconst 1, 1) := by decide +kernel
theorem dX11_winsFrom_42 : decode cX11_winsFrom 42 = .ok (.iadd, 1) := by decide +kernel
theorem dX11_winsFrom_43 : decode cX11_winsFrom 43 = .ok (.iload_n 3, 1) := by decide +kernel
theorem dX11_winsFrom_44 : decode cX11_winsFrom 44 = .ok (.iload 4, 2) := by decide +kernel
theorem dX11_winsFrom_46 : decode cX11_winsFrom 46 = .ok (.iload 5, 2) := by decide +kernel
theorem dX11_winsFrom_48 : decode cX11_winsFrom 48 = .ok (.invokevirtual 260, 3) := by decide +kernel
theorem dX11_winsFrom_51 : decode cX11_winsFrom 51 = .ok (.ifCond .eq 7, 3) := by decide +kernel
theorem dX11_winsFrom_54 : decode cX11_winsFrom 54 = .ok (.iconst 1, 1) := by decide +kernel
theorem dX11_winsFrom_55 : decode cX11_winsFrom 55 = .ok (.goto 4, 3) := by decide +kernel
theorem dX11_winsFrom_58 : decode cX11_winsFrom 58 = .ok (.iconst 0, 1) := by decide +kernel
theorem dX11_winsFrom_59 : decode cX11_winsFrom 59 = .ok (.ireturn, 1) := by decide +kernel
theorem dX11_winsFrom_60 : decode cX11_winsFrom 60 = .ok (.iconst 0, 1) := by decide +kernel
theorem dX11_winsFrom_61 : decode cX11_winsFrom 61 = .ok (.istore 6, 2) := by decide +kernel
theorem dX11_winsFrom_63 : decode cX11_winsFrom 63 = .ok (.iload 6, 2) := by decide +kernel
theorem dX11_winsFrom_65 : decode cX11_winsFrom 65 = .ok (.aload_n 0, 1) := by decide +kernel
theorem dX11_winsFrom_66 : decode cX11_winsFrom 66 = .ok (.getfield 88, 3) := by decide +kernel
theorem dX11_winsFrom_69 : decode cX11_winsFrom 69 = .ok (.if_icmp .ge 55, 3) := by decide +kernel
theorem dX11_winsFrom_72 : decode cX11_winsFrom 72 = .ok (.iload 4, 2) := by decide +kernel
theorem dX11_winsFrom_74 : decode cX11_winsFrom 74 = .ok (.iload 6, 2) := by decide +kernel
theorem dX11_winsFrom_76 : decode cX11_winsFrom 76 = .ok (.invokestatic 229, 3) := by decide +kernel
theorem dX11_winsFrom_79 : decode cX11_winsFrom 79 = .ok (.ifCond .eq 39, 3) := by decide +kernel
theorem dX11_winsFrom_82 : decode cX11_winsFrom 82 = .ok (.aload_n 0, 1) := by decide +kernel
theorem dX11_winsFrom_83 : decode cX11_winsFrom 83 = .ok (.iload_n 1, 1) := by decide +kernel
theorem dX11_winsFrom_84 : decode cX11_winsFrom 84 = .ok (.iload_n 2, 1) := by decide +kernel
theorem dX11_winsFrom_85 : decode cX11_winsFrom 85 = .ok (.iconst 1, 1) := by decide +kernel
theorem dX11_winsFrom_86 : decode cX11_winsFrom 86 = .ok (.iadd, 1) := by decide +kernel
theorem dX11_winsFrom_87 : decode cX11_winsFrom 87 = .ok (.iload_n 3, 1) := by decide +kernel
theorem dX11_winsFrom_88 : decode cX11_winsFrom 88 = .ok (.iload 4, 2) := by decide +kernel
theorem dX11_winsFrom_90 : decode cX11_winsFrom 90 = .ok (.iconst 1, 1) := by decide +kernel
theorem dX11_winsFrom_91 : decode cX11_winsFrom 91 = .ok (.iload 6, 2) := by decide +kernel
theorem dX11_winsFrom_93 : decode cX11_winsFrom 93 = .ok (.ishl, 1) := by decide +kernel
theorem dX11_winsFrom_94 : decode cX11_winsFrom 94 = .ok (.iconst (-1), 1) := by decide +kernel
theorem dX11_winsFrom_95 : decode cX11_winsFrom 95 = .ok (.ixor, 1) := by decide +kernel
theorem dX11_winsFrom_96 : decode cX11_winsFrom 96 = .ok (.iand, 1) := by decide +kernel
theorem dX11_winsFrom_97 : decode cX11_winsFrom 97 = .ok (.iload 5, 2) := by decide +kernel
theorem dX11_winsFrom_99 : decode cX11_winsFrom 99 = .ok (.aload_n 0, 1) := by decide +kernel
theorem dX11_winsFrom_100 : decode cX11_winsFrom 100 = .ok (.getfield 9, 3) := by decide +kernel
theorem dX11_winsFrom_103 : decode cX11_winsFrom 103 = .ok (.bipush 28, 2) := by decide +kernel
theorem dX11_winsFrom_105 : decode cX11_winsFrom 105 = .ok (.iload 6, 2) := by decide +kernel
theorem dX11_winsFrom_107 : decode cX11_winsFrom 107 = .ok (.iadd, 1) := by decide +kernel
theorem dX11_winsFrom_108 : decode cX11_winsFrom 108 = .ok (.iaload, 1) := by decide +kernel
theorem dX11_winsFrom_109 : decode cX11_winsFrom 109 = .ok (.isub, 1) := by decide +kernel
theorem dX11_winsFrom_110 : decode cX11_winsFrom 110 = .ok (.invokevirtual 260, 3) := by decide +kernel
theorem dX11_winsFrom_113 : decode cX11_winsFrom 113 = .ok (.ifCond .eq 5, 3) := by decide +kernel
theorem dX11_winsFrom_116 : decode cX11_winsFrom 116 = .ok (.iconst 1, 1) := by decide +kernel
theorem dX11_winsFrom_117 : decode cX11_winsFrom 117 = .ok (.ireturn, 1) := by decide +kernel
theorem dX11_winsFrom_118 : decode cX11_winsFrom 118 = .ok (.iinc 6 1, 3) := by decide +kernel
theorem dX11_winsFrom_121 : decode cX11_winsFrom 121 = .ok (.goto (-58), 3) := by decide +kernel
theorem dX11_winsFrom_124 : decode cX11_winsFrom 124 = .ok (.aload_n 0, 1) := by decide +kernel
theorem dX11_winsFrom_125 : decode cX11_winsFrom 125 = .ok (.iload_n 1, 1) := by decide +kernel
theorem dX11_winsFrom_126 : decode cX11_winsFrom 126 = .ok (.iload_n 2, 1) := by decide +kernel
theorem dX11_winsFrom_127 : decode cX11_winsFrom 127 = .ok (.iconst 1, 1) := by decide +kernel
theorem dX11_winsFrom_128 : decode cX11_winsFrom 128 = .ok (.iadd, 1) := by decide +kernel
theorem dX11_winsFrom_129 : decode cX11_winsFrom 129 = .ok (.iload_n 3, 1) := by decide +kernel
theorem dX11_winsFrom_130 : decode cX11_winsFrom 130 = .ok (.iload 4, 2) := by decide +kernel
theorem dX11_winsFrom_132 : decode cX11_winsFrom 132 = .ok (.iload 5, 2) := by decide +kernel
theorem dX11_winsFrom_134 : decode cX11_winsFrom 134 = .ok (.invokevirtual 260, 3) := by decide +kernel
theorem dX11_winsFrom_137 : decode cX11_winsFrom 137 = .ok (.ireturn, 1) := by decide +kernel
theorem Mo_winsFrom_succ (N : Nat) (d : Nat) : Mo_winsFrom N (d + 1) = Mo_winsFrom_B N (Mo_winsFrom N d) := rfl
section
variable {p : Program} {l : Launch} {e : Env} {s : State} {m : MethodId} {args : Array Value} {below : List Frame} {meth : Method} {c : Code} {H : Heap} {locs : List Loc} {E : Ev} {S V : St} {ls : Array Slot}
set_option maxRecDepth 20000 in
theorem w_Mo_winsFrom_b63 {N : Nat} {d : Nat} {f_winsFrom : St → Int32 → Int32 → Int32 → Int32 → Int32 → Option Int32} {k63 : (Int32) → Option Int32} {l1 : Int32} {l2 : Int32} {l3 : Int32} {l4 : Int32} {l5 : Int32} {l6 : Int32} {r : Int32} (C : Cx p s m args meth c E cX11_winsFrom 7 RX11 (some .boolean)) (hr_winsFrom : ∀ {S : St} {p1 : Int32} {p2 : Int32} {p3 : Int32} {p4 : Int32} {p5 : Int32} {r : Int32}, f_winsFrom S p1 p2 p3 p4 p5 = some r → Ct l (wM V) yX11_winsFrom cX11_winsFrom 7 (some .boolean) (d + 3) (fun E => [.ref (ea E 44), .int p1, .int p2, .int p3, .int p4, .int p5]) S (fun E => some (.int r)) S) (hk63 : ∀ x, k63 x = some r → ∀ (H : Heap) (locs : List Loc) (ls : Array Slot), Wd E (wM V E) s.heap S H locs → lv_has ls 7 [(0, .ref (ea E 44)), (1, .int l1), (2, .int l2), (3, .int l3), (4, .int l4), (5, .int l5), (6, .int x)] → W p l e (rmh (d + 1 + 3)) s m args below meth c H locs 0 0 (MQ below (QW E (wM V E) (some (.int r)) S) args s 0 0 (eA E)) (F0 m 63 ls [])) (hw : Wd E (wM V E) s.heap S H locs) (hl : lv_has ls 7 [(0, .ref (ea E 44)), (1, .int l1), (2, .int l2), (3, .int l3), (4, .int l4), (5, .int l5), (6, .int l6)]) (hf : Mo_winsFrom_b63 N f_winsFrom k63 S l1 l2 l3 l4 l5 l6 = some r) : W p l e (rmh (d + 1 + 3)) s m args below meth c H locs 0 0 (MQ below (QW E (wM V E) (some (.int r)) S) args s 0 0 (eA E)) (F0 m 63 ls []) := by
  have hx := C.1
  have hb := C.2.1
  unfold Mo_winsFrom_b63 at hf
  refine lv_iload hx hb dX11_winsFrom_63 (lv_at hl 6 rfl) ?_
  refine lv_aload_n hx hb dX11_winsFrom_65 rfl (lv_at hl 0 rfl) ?_
  refine get_44_7 C hw q_1158 dX11_winsFrom_66 ?_
  refine lv_icmp_ge (tgt := 124) hx hb dX11_winsFrom_69 (by decide) (fun q => ?_) (fun q => ?_)
  · have hf := hf_t q hf
    refine lv_aload_n hx hb dX11_winsFrom_124 rfl (lv_at hl 0 rfl) ?_
    refine lv_iload_n hx hb dX11_winsFrom_125 rfl (lv_at hl 1 rfl) ?_
    refine lv_iload_n hx hb dX11_winsFrom_126 rfl (lv_at hl 2 rfl) ?_
    refine lv_iconst (v := 1) hx hb dX11_winsFrom_127 kc_1 ?_
    refine lv_iadd hx hb dX11_winsFrom_128 ?_
    refine lv_iload_n hx hb dX11_winsFrom_129 rfl (lv_at hl 3 rfl) ?_
    refine lv_iload hx hb dX11_winsFrom_130 (lv_at hl 4 rfl) ?_
    refine lv_iload hx hb dX11_winsFrom_132 (lv_at hl 5 rfl) ?_
    obtain ⟨r1, hr, hf⟩ := hf_1 hf
    refine inv_Vi (q0 := 44) (ci := 11) (As := [.int l1, .int (l2 + (1 : Int32)), .int l3, .int l4, .int l5]) lk_X11_260 C hw rfl rfl rfl (hr_winsFrom hr) rfl hl.1 dX11_winsFrom_134 rfl (by omega) (by decide) (Nat.le_of_ble_eq_true rfl) rfl (fun H locs hw => ?_)
    obtain ⟨hcb, hf⟩ := hf_ck hf
    exact ret_z (isB_nar hcb) C hw dX11_winsFrom_137 hf
  · have hf := hf_f q hf
    refine lv_iload hx hb dX11_winsFrom_72 (lv_at hl 4 rfl) ?_
    refine lv_iload hx hb dX11_winsFrom_74 (lv_at hl 6 rfl) ?_
    obtain ⟨r2, hr, hf⟩ := hf_1 hf
    refine inv_Si (As := [.int l4, .int l6]) lk_X11_229 C hw (t_Mo_isIn hr) hl.1 dX11_winsFrom_76 rfl (by omega) (by decide) (Nat.le_of_ble_eq_true rfl) rfl (fun H locs hw => ?_)
    refine lv_if_eq (tgt := 118) hx hb dX11_winsFrom_79 (by decide) (fun q => ?_) (fun q => ?_)
    · have hf := hf_t q hf
      obtain ⟨x3, ex3, hf⟩ := nme hf
      refine lv_iinc (v := x3) (lv' := [(6, .int x3), (0, .ref (ea E 44)), (1, .int l1), (2, .int l2), (3, .int l3), (4, .int l4), (5, .int l5)]) hx hb dX11_winsFrom_118 hl (k := 6) rfl (ki_1 ex3) (by decide) rfl (fun ls hl => ?_)
      refine lv_goto (tgt := 63) hx hb dX11_winsFrom_121 (by decide) ?_
      exact hk63 _ hf _ _ _ hw (lv_sub hl [1, 2, 3, 4, 5, 6, 0] rfl)
    · have hf := hf_f q hf
      refine lv_aload_n hx hb dX11_winsFrom_82 rfl (lv_at hl 0 rfl) ?_
      refine lv_iload_n hx hb dX11_winsFrom_83 rfl (lv_at hl 1 rfl) ?_
      refine lv_iload_n hx hb dX11_winsFrom_84 rfl (lv_at hl 2 rfl) ?_
      refine lv_iconst (v := 1) hx hb dX11_winsFrom_85 kc_1 ?_
      refine lv_iadd hx hb dX11_winsFrom_86 ?_
      refine lv_iload_n hx hb dX11_winsFrom_87 rfl (lv_at hl 3 rfl) ?_
      refine lv_iload hx hb dX11_winsFrom_88 (lv_at hl 4 rfl) ?_
      refine lv_iconst (v := 1) hx hb dX11_winsFrom_90 kc_1 ?_
      refine lv_iload hx hb dX11_winsFrom_91 (lv_at hl 6 rfl) ?_
      refine lv_ishl hx hb dX11_winsFrom_93 ?_
      refine lv_iconst (v := -1) hx hb dX11_winsFrom_94 kc_m1 ?_
      refine lv_ixor hx hb dX11_winsFrom_95 ?_
      refine lv_iand hx hb dX11_winsFrom_96 ?_
      refine lv_iload hx hb dX11_winsFrom_97 (lv_at hl 5 rfl) ?_
      refine lv_aload_n hx hb dX11_winsFrom_99 rfl (lv_at hl 0 rfl) ?_
      refine get_44_0 C hw q_1151 dX11_winsFrom_100 ?_
      refine lv_bipush (v := 28) hx hb dX11_winsFrom_103 kb_28 ?_
      refine lv_iload hx hb dX11_winsFrom_105 (lv_at hl 6 rfl) ?_
      refine lv_iadd hx hb dX11_winsFrom_107 ?_
      obtain ⟨hc, hf⟩ := hf_ck hf
      refine ld_45 C hw hc dX11_winsFrom_108 ?_
      refine lv_isub hx hb dX11_winsFrom_109 ?_
      obtain ⟨r4, hr, hf⟩ := hf_1 hf
      refine inv_Vi (q0 := 44) (ci := 11) (As := [.int l1, .int (l2 + (1 : Int32)), .int l3, .int (l4 &&& (((1 : Int32) <<< (l6 &&& 31)) ^^^ (-1 : Int32))), .int (l5 - (gi S 45 ((28 : Int32) + l6).toNatClampNeg))]) lk_X11_260 C hw rfl rfl rfl (hr_winsFrom hr) rfl hl.1 dX11_winsFrom_110 rfl (by omega) (by decide) (Nat.le_of_ble_eq_true rfl) rfl (fun H locs hw => ?_)
      refine lv_if_eq (tgt := 118) hx hb dX11_winsFrom_113 (by decide) (fun q => ?_) (fun q => ?_)
      · have hf := hf_t q hf
        obtain ⟨x5, ex5, hf⟩ := nme hf
        refine lv_iinc (v := x5) (lv' := [(6, .int x5), (0, .ref (ea E 44)), (1, .int l1), (2, .int l2), (3, .int l3), (4, .int l4), (5, .int l5)]) hx hb dX11_winsFrom_118 hl (k := 6) rfl (ki_1 ex5) (by decide) rfl (fun ls hl => ?_)
        refine lv_goto (tgt := 63) hx hb dX11_winsFrom_121 (by decide) ?_
        exact hk63 _ hf _ _ _ hw (lv_sub hl [1, 2, 3, 4, 5, 6, 0] rfl)
      · have hf := hf_f q hf
        refine lv_iconst (v := 1) hx hb dX11_winsFrom_116 kc_1 ?_
        exact ret_z rfl C hw dX11_winsFrom_117 hf
theorem w_Mo_winsFrom_L63 {N : Nat} {d : Nat} {f_winsFrom : St → Int32 → Int32 → Int32 → Int32 → Int32 → Option Int32} {l1 : Int32} {l2 : Int32} {l3 : Int32} {l4 : Int32} {l5 : Int32} {r : Int32} (C : Cx p s m args meth c E cX11_winsFrom 7 RX11 (some .boolean)) (hr_winsFrom : ∀ {S : St} {p1 : Int32} {p2 : Int32} {p3 : Int32} {p4 : Int32} {p5 : Int32} {r : Int32}, f_winsFrom S p1 p2 p3 p4 p5 = some r → Ct l (wM V) yX11_winsFrom cX11_winsFrom 7 (some .boolean) (d + 3) (fun E => [.ref (ea E 44), .int p1, .int p2, .int p3, .int p4, .int p5]) S (fun E => some (.int r)) S) : ∀ x, Mo_winsFrom_L63 N f_winsFrom S l1 l2 l3 l4 l5 x = some r → ∀ (H : Heap) (locs : List Loc) (ls : Array Slot), Wd E (wM V E) s.heap S H locs → lv_has ls 7 [(0, .ref (ea E 44)), (1, .int l1), (2, .int l2), (3, .int l3), (4, .int l4), (5, .int l5), (6, .int x)] → W p l e (rmh (d + 1 + 3)) s m args below meth c H locs 0 0 (MQ below (QW E (wM V E) (some (.int r)) S) args s 0 0 (eA E)) (F0 m 63 ls []) :=
  lp_W (fun k x hk hf H locs ls hw hl => w_Mo_winsFrom_b63 C hr_winsFrom hk hw hl hf) N
set_option maxRecDepth 20000 in
theorem w_Mo_winsFrom_B {N : Nat} {d : Nat} {f_winsFrom : St → Int32 → Int32 → Int32 → Int32 → Int32 → Option Int32} {p1 : Int32} {p2 : Int32} {p3 : Int32} {p4 : Int32} {p5 : Int32} {r : Int32} (C : Cx p s m args meth c E cX11_winsFrom 7 RX11 (some .boolean)) (hr_winsFrom : ∀ {S : St} {p1 : Int32} {p2 : Int32} {p3 : Int32} {p4 : Int32} {p5 : Int32} {r : Int32}, f_winsFrom S p1 p2 p3 p4 p5 = some r → Ct l (wM V) yX11_winsFrom cX11_winsFrom 7 (some .boolean) (d + 3) (fun E => [.ref (ea E 44), .int p1, .int p2, .int p3, .int p4, .int p5]) S (fun E => some (.int r)) S) (hw : Wd E (wM V E) s.heap S H locs) (hl : lv_has ls 7 [(0, .ref (ea E 44)), (1, .int p1), (2, .int p2), (3, .int p3), (4, .int p4), (5, .int p5)]) (hf : Mo_winsFrom_B N f_winsFrom S p1 p2 p3 p4 p5 = some r) : W p l e (rmh (d + 1 + 3)) s m args below meth c H locs 0 0 (MQ below (QW E (wM V E) (some (.int r)) S) args s 0 0 (eA E)) (F0 m 0 ls []) := by
  have hx := C.1
  have hb := C.2.1
  unfold Mo_winsFrom_B at hf
  refine lv_iload_n hx hb dX11_winsFrom_0 rfl (lv_at hl 2 rfl) ?_
  refine lv_iload_n hx hb dX11_winsFrom_1 rfl (lv_at hl 3 rfl) ?_
  refine lv_icmp_ne (tgt := 13) hx hb dX11_winsFrom_2 (by decide) (fun q => ?_) (fun q => ?_)
  · have hf := hf_f q hf
    refine lv_iload_n hx hb dX11_winsFrom_13 rfl (lv_at hl 2 rfl) ?_
    refine lv_iconst (v := 2) hx hb dX11_winsFrom_14 kc_2 ?_
    refine lv_irem hx hb dX11_winsFrom_15 (by decide) ?_
    refine lv_iconst (v := 1) hx hb dX11_winsFrom_16 kc_1 ?_
    refine lv_icmp_ne (tgt := 60) hx hb dX11_winsFrom_17 (by decide) (fun q => ?_) (fun q => ?_)
    · have hf := hf_f q hf
      refine lv_iconst (v := 0) hx hb dX11_winsFrom_60 kc_0 ?_
      refine lv_istore (lv' := [(6, .int (0 : Int32)), (0, .ref (ea E 44)), (1, .int p1), (2, .int p2), (3, .int p3), (4, .int p4), (5, .int p5)]) hx hb dX11_winsFrom_61 hl (by decide) rfl (fun ls hl => ?_)
      exact w_Mo_winsFrom_L63 C hr_winsFrom _ hf _ _ _ hw (lv_sub hl [1, 2, 3, 4, 5, 6, 0] rfl)
    · have hf := hf_t q hf
      refine lv_aload_n hx hb dX11_winsFrom_20 rfl (lv_at hl 0 rfl) ?_
      refine lv_iload_n hx hb dX11_winsFrom_21 rfl (lv_at hl 1 rfl) ?_
      refine lv_iload_n hx hb dX11_winsFrom_22 rfl (lv_at hl 2 rfl) ?_
      refine lv_iconst (v := 1) hx hb dX11_winsFrom_23 kc_1 ?_
      refine lv_iadd hx hb dX11_winsFrom_24 ?_
      refine lv_iload_n hx hb dX11_winsFrom_25 rfl (lv_at hl 3 rfl) ?_
      refine lv_iload hx hb dX11_winsFrom_26 (lv_at hl 4 rfl) ?_
      refine lv_iload hx hb dX11_winsFrom_28 (lv_at hl 5 rfl) ?_
      refine lv_iconst (v := 1) hx hb dX11_winsFrom_30 kc_1 ?_
      refine lv_iadd hx hb dX11_winsFrom_31 ?_
      obtain ⟨r1, hr, hf⟩ := hf_1 hf
      refine inv_Vi (q0 := 44) (ci := 11) (As := [.int p1, .int (p2 + (1 : Int32)), .int p3, .int p4, .int (p5 + (1 : Int32))]) lk_X11_260 C hw rfl rfl rfl (hr_winsFrom hr) rfl hl.1 dX11_winsFrom_32 rfl (by omega) (by decide) (Nat.le_of_ble_eq_true rfl) rfl (fun H locs hw => ?_)
      refine lv_if_eq (tgt := 58) hx hb dX11_winsFrom_35 (by decide) (fun q => ?_) (fun q => ?_)
      · have hf := hf_t q hf
        refine lv_iconst (v := 0) hx hb dX11_winsFrom_58 kc_0 ?_
        exact ret_z rfl C hw dX11_winsFrom_59 hf
      · have hf := hf_f q hf
        refine lv_aload_n hx hb dX11_winsFrom_38 rfl (lv_at hl 0 rfl) ?_
        refine lv_iload_n hx hb dX11_winsFrom_39 rfl (lv_at hl 1 rfl) ?_
        refine lv_iload_n hx hb dX11_winsFrom_40 rfl (lv_at hl 2 rfl) ?_
        refine lv_iconst (v := 1) hx hb dX11_winsFrom_41 kc_1 ?_
        refine lv_iadd hx hb dX11_winsFrom_42 ?_
        refine lv_iload_n hx hb dX11_winsFrom_43 rfl (lv_at hl 3 rfl) ?_
        refine lv_iload hx hb dX11_winsFrom_44 (lv_at hl 4 rfl) ?_
        refine lv_iload hx hb dX11_winsFrom_46 (lv_at hl 5 rfl) ?_
        obtain ⟨r2, hr, hf⟩ := hf_1 hf
        refine inv_Vi (q0 := 44) (ci := 11) (As := [.int p1, .int (p2 + (1 : Int32)), .int p3, .int p4, .int p5]) lk_X11_260 C hw rfl rfl rfl (hr_winsFrom hr) rfl hl.1 dX11_winsFrom_48 rfl (by omega) (by decide) (Nat.le_of_ble_eq_true rfl) rfl (fun H locs hw => ?_)
        refine lv_if_eq (tgt := 58) hx hb dX11_winsFrom_51 (by decide) (fun q => ?_) (fun q => ?_)
        · have hf := hf_t q hf
          refine lv_iconst (v := 0) hx hb dX11_winsFrom_58 kc_0 ?_
          exact ret_z rfl C hw dX11_winsFrom_59 hf
        · have hf := hf_f q hf
          refine lv_iconst (v := 1) hx hb dX11_winsFrom_54 kc_1 ?_
          refine lv_goto (tgt := 59) hx hb dX11_winsFrom_55 (by decide) ?_
          exact ret_z rfl C hw dX11_winsFrom_59 hf
  · have hf := hf_t q hf
    refine lv_aload_n hx hb dX11_winsFrom_5 rfl (lv_at hl 0 rfl) ?_
    refine lv_iload_n hx hb dX11_winsFrom_6 rfl (lv_at hl 1 rfl) ?_
    refine lv_iload hx hb dX11_winsFrom_7 (lv_at hl 5 rfl) ?_
    obtain ⟨r3, hr, hf⟩ := hf_1 hf
    refine inv_Vi (q0 := 44) (ci := 11) (As := [.int p1, .int p5]) lk_X11_208 C hw rfl rfl rfl (t_Mo_goesRound hr) rfl hl.1 dX11_winsFrom_9 rfl (by omega) (by decide) (Nat.le_of_ble_eq_true rfl) rfl (fun H locs hw => ?_)
    obtain ⟨hcb, hf⟩ := hf_ck hf
    exact ret_z (isB_nar hcb) C hw dX11_winsFrom_12 hf
end
theorem g_Mo_winsFrom {l : Launch} {V : St} {N : Nat} : ∀ d : Nat, (∀ {S : St} {p1 : Int32} {p2 : Int32} {p3 : Int32} {p4 : Int32} {p5 : Int32} {r : Int32}, Mo_winsFrom N d S p1 p2 p3 p4 p5 = some r → Ct l (wM V) yX11_winsFrom cX11_winsFrom 7 (some .boolean) (d + 3) (fun E => [.ref (ea E 44), .int p1, .int p2, .int p3, .int p4, .int p5]) S (fun E => some (.int r)) S) := by
  intro d
  induction d with
  | zero => exact (by intros; rename_i hf; cases hf)
  | succ d ih =>
    have h0 := @ih
    exact by intros; rename_i hf; exact ofBlock (by decide +kernel) (fun _ => Nat.le_of_ble_eq_true rfl) (fun E p e s m args below meth c ls C hw hl => w_Mo_winsFrom_B (N := N) (d := d) (f_winsFrom := Mo_winsFrom N d) C h0 hw hl hf)
theorem t_Mo_winsFrom {l : Launch} {V : St} {N : Nat} {S : St} {p1 : Int32} {p2 : Int32} {p3 : Int32} {p4 : Int32} {p5 : Int32} {r : Int32} (hf : Mo_winsFrom N N S p1 p2 p3 p4 p5 = some r) : Ct l (wM V) yX11_winsFrom cX11_winsFrom 7 (some .boolean) (N + 3) (fun E => [.ref (ea E 44), .int p1, .int p2, .int p3, .int p4, .int p5]) S (fun E => some (.int r)) S := (g_Mo_winsFrom (l := l) (V := V) (N := N) N) hf
theorem dX11_byTurns_0 : decode cX11_byTurns 0 = .ok (.aload_n 0, 1) := by decide +kernel
theorem dX11_byTurns_1 : decode cX11_byTurns 1 = .ok (.iload_n 1, 1) := by decide +kernel
theorem dX11_byTurns_2 : decode cX11_byTurns 2 = .ok (.i2l, 1) := by decide +kernel
theorem dX11_byTurns_3 : decode cX11_byTurns 3 = .ok (.invokevirtual 97, 3) := by decide +kernel
theorem dX11_byTurns_6 : decode cX11_byTurns 6 = .ok (.ifCond .eq 43, 3) := by decide +kernel
theorem dX11_byTurns_9 : decode cX11_byTurns 9 = .ok (.iload_n 2, 1) := by decide +kernel
theorem dX11_byTurns_10 : decode cX11_byTurns 10 = .ok (.ifCond .lt 39, 3) := by decide +kernel
theorem dX11_byTurns_13 : decode cX11_byTurns 13 = .ok (.iload_n 2, 1) := by decide +kernel
theorem dX11_byTurns_14 : decode cX11_byTurns 14 = .ok (.bipush 10, 2) := by decide +kernel
theorem dX11_byTurns_16 : decode cX11_byTurns 16 = .ok (.idiv, 1) := by decide +kernel
theorem dX11_byTurns_17 : decode cX11_byTurns 17 = .ok (.i2l, 1) := by decide +kernel
theorem dX11_byTurns_18 : decode cX11_byTurns 18 = .ok (.invokestatic 101, 3) := by decide +kernel
theorem dX11_byTurns_21 : decode cX11_byTurns 21 = .ok (.ifCond .eq 28, 3) := by decide +kernel
theorem dX11_byTurns_24 : decode cX11_byTurns 24 = .ok (.iload_n 2, 1) := by decide +kernel
theorem dX11_byTurns_25 : decode cX11_byTurns 25 = .ok (.bipush 10, 2) := by decide +kernel
theorem dX11_byTurns_27 : decode cX11_byTurns 27 = .ok (.irem, 1) := by decide +kernel
theorem dX11_byTurns_28 : decode cX11_byTurns 28 = .ok (.i2l, 1) := by decide +kernel
theorem dX11_byTurns_29 : decode cX11_byTurns 29 = .ok (.lconst 1, 1) := by decide +kernel
theorem dX11_byTurns_30 : decode cX11_byTurns 30 = .ok (.ldc2_w 124, 3) := by decide +kernel
theorem dX11_byTurns_33 : decode cX11_byTurns 33 = .ok (.invokestatic 84, 3) := by decide +kernel
theorem dX11_byTurns_36 : decode cX11_byTurns 36 = .ok (.ifCond .eq 13, 3) := by decide +kernel
theorem dX11_byTurns_39 : decode cX11_byTurns 39 = .ok (.iload_n 3, 1) := by decide +kernel
theorem dX11_byTurns_40 : decode cX11_byTurns 40 = .ok (.i2l, 1) := by decide +kernel
theorem dX11_byTurns_41 : decode cX11_byTurns 41 = .ok (.lconst 0, 1) := by decide +kernel
theorem dX11_byTurns_42 : decode cX11_byTurns 42 = .ok (.lconst 1, 1) := by decide +kernel
theorem dX11_byTurns_43 : decode cX11_byTurns 43 = .ok (.invokestatic 84, 3) := by decide +kernel
theorem dX11_byTurns_46 : decode cX11_byTurns 46 = .ok (.ifCond .ne 5, 3) := by decide +kernel
theorem dX11_byTurns_49 : decode cX11_byTurns 49 = .ok (.iconst (-1), 1) := by decide +kernel
theorem dX11_byTurns_50 : decode cX11_byTurns 50 = .ok (.ireturn, 1) := by decide +kernel
theorem dX11_byTurns_51 : decode cX11_byTurns 51 = .ok (.aload_n 0, 1) := by decide +kernel
theorem dX11_byTurns_52 : decode cX11_byTurns 52 = .ok (.iload_n 1, 1) := by decide +kernel
theorem dX11_byTurns_53 : decode cX11_byTurns 53 = .ok (.iload_n 2, 1) := by decide +kernel
theorem dX11_byTurns_54 : decode cX11_byTurns 54 = .ok (.bipush 10, 2) := by decide +kernel
theorem dX11_byTurns_56 : decode cX11_byTurns 56 = .ok (.idiv, 1) := by decide +kernel
theorem dX11_byTurns_57 : decode cX11_byTurns 57 = .ok (.invokevirtual 232, 3) := by decide +kernel
theorem dX11_byTurns_60 : decode cX11_byTurns 60 = .ok (.istore 4, 2) := by decide +kernel
theorem dX11_byTurns_62 : decode cX11_byTurns 62 = .ok (.aload_n 0, 1) := by decide +kernel
theorem dX11_byTurns_63 : decode cX11_byTurns 63 = .ok (.iload_n 1, 1) := by decide +kernel
theorem dX11_byTurns_64 : decode cX11_byTurns 64 = .ok (.iload_n 2, 1) := by decide +kernel
theorem dX11_byTurns_65 : decode cX11_byTurns 65 = .ok (.bipush 10, 2) := by decide +kernel
theorem dX11_byTurns_67 : decode cX11_byTurns 67 = .ok (.idiv, 1) := by decide +kernel
theorem dX11_byTurns_68 : decode cX11_byTurns 68 = .ok (.invokevirtual 205, 3) := by decide +kernel
theorem dX11_byTurns_71 : decode cX11_byTurns 71 = .ok (.istore 5, 2) := by decide +kernel
theorem dX11_byTurns_73 : decode cX11_byTurns 73 = .ok (.iload_n 2, 1) := by decide +kernel
theorem dX11_byTurns_74 : decode cX11_byTurns 74 = .ok (.bipush 10, 2) := by decide +kernel
theorem dX11_byTurns_76 : decode cX11_byTurns 76 = .ok (.irem, 1) := by decide +kernel
theorem dX11_byTurns_77 : decode cX11_byTurns 77 = .ok (.istore 6, 2) := by decide +kernel
theorem dX11_byTurns_79 : decode cX11_byTurns 79 = .ok (.aload_n 0, 1) := by decide +kernel
theorem dX11_byTurns_80 : decode cX11_byTurns 80 = .ok (.iload_n 1, 1) := by decide +kernel
theorem dX11_byTurns_81 : decode cX11_byTurns 81 = .ok (.iconst 0, 1) := by decide +kernel
theorem dX11_byTurns_82 : decode cX11_byTurns 82 = .ok (.iload 6, 2) := by decide +kernel
theorem dX11_byTurns_84 : decode cX11_byTurns 84 = .ok (.iload 4, 2) := by decide +kernel
theorem dX11_byTurns_86 : decode cX11_byTurns 86 = .ok (.iload 5, 2) := by decide +kernel
theorem dX11_byTurns_88 : decode cX11_byTurns 88 = .ok (.invokevirtual 260, 3) := by decide +kernel
theorem dX11_byTurns_91 : decode cX11_byTurns 91 = .ok (.istore 7, 2) := by decide +kernel
theorem dX11_byTurns_93 : decode cX11_byTurns 93 = .ok (.iload_n 3, 1) := by decide +kernel
theorem dX11_byTurns_94 : decode cX11_byTurns 94 = .ok (.ifCond .ne 14, 3) := by decide +kernel
theorem dX11_byTurns_97 : decode cX11_byTurns 97 = .ok (.iload 7, 2) := by decide +kernel
theorem dX11_byTurns_99 : decode cX11_byTurns 99 = .ok (.ifCond .eq 7, 3) := by decide +kernel
theorem dX11_byTurns_102 : decode cX11_byTurns 102 = .ok (.iconst 1, 1) := by decide +kernel
theorem dX11_byTurns_103 : decode cX11_byTurns 103 = .ok (.goto 4, 3) := by decide +kernel
theorem dX11_byTurns_106 : decode cX11_byTurns 106 = .ok (.iconst 0, 1) := by decide +kernel
theorem dX11_byTurns_107 : decode cX11_byTurns 107 = .ok (.ireturn, 1) := by decide +kernel
theorem dX11_byTurns_108 : decode cX11_byTurns 108 = .ok (.iconst 0, 1) := by decide +kernel
theorem dX11_byTurns_109 : decode cX11_byTurns 109 = .ok (.istore 8, 2) := by decide +kernel
theorem dX11_byTurns_111 : decode cX11_byTurns 111 = .ok (.iload 8, 2) := by decide +kernel
theorem dX11_byTurns_113 : decode cX11_byTurns 113 = .ok (.aload_n 0, 1) := by decide +kernel
theorem dX11_byTurns_114 : decode cX11_byTurns 114 = .ok (.getfield 88, 3) := by decide +kernel
theorem dX11_byTurns_117 : decode cX11_byTurns 117 = .ok (.if_icmp .ge 57, 3) := by decide +kernel
theorem dX11_byTurns_120 : decode cX11_byTurns 120 = .ok (.iload 4, 2) := by decide +kernel
theorem dX11_byTurns_122 : decode cX11_byTurns 122 = .ok (.iload 8, 2) := by decide +kernel
theorem dX11_byTurns_124 : decode cX11_byTurns 124 = .ok (.invokestatic 229, 3) := by decide +kernel
theorem dX11_byTurns_127 : decode cX11_byTurns 127 = .ok (.ifCond .eq 41, 3) := by decide +kernel
theorem dX11_byTurns_130 : decode cX11_byTurns 130 = .ok (.aload_n 0, 1) := by decide +kernel
theorem dX11_byTurns_131 : decode cX11_byTurns 131 = .ok (.iload_n 1, 1) := by decide +kernel
theorem dX11_byTurns_132 : decode cX11_byTurns 132 = .ok (.iconst 1, 1) := by decide +kernel
theorem dX11_byTurns_133 : decode cX11_byTurns 133 = .ok (.iload 6, 2) := by decide +kernel
theorem dX11_byTurns_135 : decode cX11_byTurns 135 = .ok (.iload 4, 2) := by decide +kernel
theorem dX11_byTurns_137 : decode cX11_byTurns 137 = .ok (.iconst 1, 1) := by decide +kernel
theorem dX11_byTurns_138 : decode cX11_byTurns 138 = .ok (.iload 8, 2) := by decide +kernel
theorem dX11_byTurns_140 : decode cX11_byTurns 140 = .ok (.ishl, 1) := by decide +kernel
theorem dX11_byTurns_141 : decode cX11_byTurns 141 = .ok (.iconst (-1), 1) := by decide +kernel
theorem dX11_byTurns_142 : decode cX11_byTurns 142 = .ok (.ixor, 1) := by decide +kernel
theorem dX11_byTurns_143 : decode cX11_byTurns 143 = .ok (.iand, 1) := by decide +kernel
theorem dX11_byTurns_144 : decode cX11_byTurns 144 = .ok (.iload 5, 2) := by decide +kernel
theorem dX11_byTurns_146 : decode cX11_byTurns 146 = .ok (.aload_n 0, 1) := by decide +kernel
theorem dX11_byTurns_147 : decode cX11_byTurns 147 = .ok (.getfield 9, 3) := by decide +kernel
theorem dX11_byTurns_150 : decode cX11_byTurns 150 = .ok (.bipush 28, 2) := by decide +kernel
theorem dX11_byTurns_152 : decode cX11_byTurns 152 = .ok (.iload 8, 2) := by decide +kernel
theorem dX11_byTurns_154 : decode cX11_byTurns 154 = .ok (.iadd, 1) := by decide +kernel
theorem dX11_byTurns_155 : decode cX11_byTurns 155 = .ok (.iaload, 1) := by decide +kernel
theorem dX11_byTurns_156 : decode cX11_byTurns 156 = .ok (.isub, 1) := by decide +kernel
theorem dX11_byTurns_157 : decode cX11_byTurns 157 = .ok (.invokevirtual 260, 3) := by decide +kernel
theorem dX11_byTurns_160 : decode cX11_byTurns 160 = .ok (.iload 7, 2) := by decide +kernel
theorem dX11_byTurns_162 : decode cX11_byTurns 162 = .ok (.if_icmp .ne 6, 3) := by decide +kernel
theorem dX11_byTurns_165 : decode cX11_byTurns 165 = .ok (.iload 8, 2) := by decide +kernel
theorem dX11_byTurns_167 : decode cX11_byTurns 167 = .ok (.ireturn, 1) := by decide +kernel
theorem dX11_byTurns_168 : decode cX11_byTurns 168 = .ok (.iinc 8 1, 3) := by decide +kernel
theorem dX11_byTurns_171 : decode cX11_byTurns 171 = .ok (.goto (-60), 3) := by decide +kernel
theorem dX11_byTurns_174 : decode cX11_byTurns 174 = .ok (.bipush 10, 2) := by decide +kernel
theorem dX11_byTurns_176 : decode cX11_byTurns 176 = .ok (.ireturn, 1) := by decide +kernel
section
variable {p : Program} {l : Launch} {e : Env} {s : State} {m : MethodId} {args : Array Value} {below : List Frame} {meth : Method} {c : Code} {H : Heap} {locs : List Loc} {E : Ev} {S V : St} {ls : Array Slot}
set_option maxRecDepth 20000 in
theorem w_Mo_byTurns_b111 {N : Nat} {k111 : (Int32) → Option Int32} {l1 : Int32} {l4 : Int32} {l5 : Int32} {l6 : Int32} {l7 : Int32} {l8 : Int32} {r : Int32} (C : Cx p s m args meth c E cX11_byTurns 9 RX11 (some .int)) (hk111 : ∀ x, k111 x = some r → ∀ (H : Heap) (locs : List Loc) (ls : Array Slot), Wd E (wM V E) s.heap S H locs → lv_has ls 9 [(0, .ref (ea E 44)), (1, .int l1), (4, .int l4), (5, .int l5), (6, .int l6), (7, .int l7), (8, .int x)] → W p l e (rmh (N + 4)) s m args below meth c H locs 0 0 (MQ below (QW E (wM V E) (some (.int r)) S) args s 0 0 (eA E)) (F0 m 111 ls [])) (hw : Wd E (wM V E) s.heap S H locs) (hl : lv_has ls 9 [(0, .ref (ea E 44)), (1, .int l1), (4, .int l4), (5, .int l5), (6, .int l6), (7, .int l7), (8, .int l8)]) (hf : Mo_byTurns_b111 N k111 S l1 l4 l5 l6 l7 l8 = some r) : W p l e (rmh (N + 4)) s m args below meth c H locs 0 0 (MQ below (QW E (wM V E) (some (.int r)) S) args s 0 0 (eA E)) (F0 m 111 ls []) := by
  have hx := C.1
  have hb := C.2.1
  unfold Mo_byTurns_b111 at hf
  refine lv_iload hx hb dX11_byTurns_111 (lv_at hl 6 rfl) ?_
  refine lv_aload_n hx hb dX11_byTurns_113 rfl (lv_at hl 0 rfl) ?_
  refine get_44_7 C hw q_1158 dX11_byTurns_114 ?_
  refine lv_icmp_ge (tgt := 174) hx hb dX11_byTurns_117 (by decide) (fun q => ?_) (fun q => ?_)
  · have hf := hf_t q hf
    refine lv_bipush (v := 10) hx hb dX11_byTurns_174 kb_10 ?_
    exact ret_i C hw dX11_byTurns_176 hf
  · have hf := hf_f q hf
    refine lv_iload hx hb dX11_byTurns_120 (lv_at hl 2 rfl) ?_
    refine lv_iload hx hb dX11_byTurns_122 (lv_at hl 6 rfl) ?_
    obtain ⟨r1, hr, hf⟩ := hf_1 hf
    refine inv_Si (As := [.int l4, .int l8]) lk_X11_229 C hw (t_Mo_isIn hr) hl.1 dX11_byTurns_124 rfl (Nat.le_of_ble_eq_true rfl) (by decide) (Nat.le_of_ble_eq_true rfl) rfl (fun H locs hw => ?_)
    refine lv_if_eq (tgt := 168) hx hb dX11_byTurns_127 (by decide) (fun q => ?_) (fun q => ?_)
    · have hf := hf_t q hf
      obtain ⟨x2, ex2, hf⟩ := nme hf
      refine lv_iinc (v := x2) (lv' := [(8, .int x2), (0, .ref (ea E 44)), (1, .int l1), (4, .int l4), (5, .int l5), (6, .int l6), (7, .int l7)]) hx hb dX11_byTurns_168 hl (k := 6) rfl (ki_1 ex2) (by decide) rfl (fun ls hl => ?_)
      refine lv_goto (tgt := 111) hx hb dX11_byTurns_171 (by decide) ?_
      exact hk111 _ hf _ _ _ hw (lv_sub hl [1, 2, 3, 4, 5, 6, 0] rfl)
    · have hf := hf_f q hf
      refine lv_aload_n hx hb dX11_byTurns_130 rfl (lv_at hl 0 rfl) ?_
      refine lv_iload_n hx hb dX11_byTurns_131 rfl (lv_at hl 1 rfl) ?_
      refine lv_iconst (v := 1) hx hb dX11_byTurns_132 kc_1 ?_
      refine lv_iload hx hb dX11_byTurns_133 (lv_at hl 4 rfl) ?_
      refine lv_iload hx hb dX11_byTurns_135 (lv_at hl 2 rfl) ?_
      refine lv_iconst (v := 1) hx hb dX11_byTurns_137 kc_1 ?_
      refine lv_iload hx hb dX11_byTurns_138 (lv_at hl 6 rfl) ?_
      refine lv_ishl hx hb dX11_byTurns_140 ?_
      refine lv_iconst (v := -1) hx hb dX11_byTurns_141 kc_m1 ?_
      refine lv_ixor hx hb dX11_byTurns_142 ?_
      refine lv_iand hx hb dX11_byTurns_143 ?_
      refine lv_iload hx hb dX11_byTurns_144 (lv_at hl 3 rfl) ?_
      refine lv_aload_n hx hb dX11_byTurns_146 rfl (lv_at hl 0 rfl) ?_
      refine get_44_0 C hw q_1151 dX11_byTurns_147 ?_
      refine lv_bipush (v := 28) hx hb dX11_byTurns_150 kb_28 ?_
      refine lv_iload hx hb dX11_byTurns_152 (lv_at hl 6 rfl) ?_
      refine lv_iadd hx hb dX11_byTurns_154 ?_
      obtain ⟨hc, hf⟩ := hf_ck hf
      refine ld_45 C hw hc dX11_byTurns_155 ?_
      refine lv_isub hx hb dX11_byTurns_156 ?_
      obtain ⟨r3, hr, hf⟩ := hf_1 hf
      refine inv_Vi (q0 := 44) (ci := 11) (As := [.int l1, .int (1 : Int32), .int l6, .int (l4 &&& (((1 : Int32) <<< (l8 &&& 31)) ^^^ (-1 : Int32))), .int (l5 - (gi S 45 ((28 : Int32) + l8).toNatClampNeg))]) lk_X11_260 C hw rfl rfl rfl (t_Mo_winsFrom hr) rfl hl.1 dX11_byTurns_157 rfl (by omega) (by decide) (Nat.le_of_ble_eq_true rfl) rfl (fun H locs hw => ?_)
      refine lv_iload hx hb dX11_byTurns_160 (lv_at hl 5 rfl) ?_
      refine lv_icmp_ne (tgt := 168) hx hb dX11_byTurns_162 (by decide) (fun q => ?_) (fun q => ?_)
      · have hf := hf_f q hf
        obtain ⟨x4, ex4, hf⟩ := nme hf
        refine lv_iinc (v := x4) (lv' := [(8, .int x4), (0, .ref (ea E 44)), (1, .int l1), (4, .int l4), (5, .int l5), (6, .int l6), (7, .int l7)]) hx hb dX11_byTurns_168 hl (k := 6) rfl (ki_1 ex4) (by decide) rfl (fun ls hl => ?_)
        refine lv_goto (tgt := 111) hx hb dX11_byTurns_171 (by decide) ?_
        exact hk111 _ hf _ _ _ hw (lv_sub hl [1, 2, 3, 4, 5, 6, 0] rfl)
      · have hf := hf_t q hf
        refine lv_iload hx hb dX11_byTurns_165 (lv_at hl 6 rfl) ?_
        exact ret_i C hw dX11_byTurns_167 hf
theorem w_Mo_byTurns_L111 {N : Nat} {l1 : Int32} {l4 : Int32} {l5 : Int32} {l6 : Int32} {l7 : Int32} {r : Int32} (C : Cx p s m args meth c E cX11_byTurns 9 RX11 (some .int)) : ∀ x, Mo_byTurns_L111 N S l1 l4 l5 l6 l7 x = some r → ∀ (H : Heap) (locs : List Loc) (ls : Array Slot), Wd E (wM V E) s.heap S H locs → lv_has ls 9 [(0, .ref (ea E 44)), (1, .int l1), (4, .int l4), (5, .int l5), (6, .int l6), (7, .int l7), (8, .int x)] → W p l e (rmh (N + 4)) s m args below meth c H locs 0 0 (MQ below (QW E (wM V E) (some (.int r)) S) args s 0 0 (eA E)) (F0 m 111 ls []) :=
  lp_W (fun k x hk hf H locs ls hw hl => w_Mo_byTurns_b111 C hk hw hl hf) N
set_option maxRecDepth 20000 in
theorem w_Mo_byTurns {N : Nat} {p1 : Int32} {p2 : Int32} {p3 : Int32} {r : Int32} (C : Cx p s m args meth c E cX11_byTurns 9 RX11 (some .int)) (hw : Wd E (wM V E) s.heap S H locs) (hl : lv_has ls 9 [(0, .ref (ea E 44)), (1, .int p1), (2, .int p2), (3, .int p3)]) (hf : Mo_byTurns N S p1 p2 p3 = some r) : W p l e (rmh (N + 4)) s m args below meth c H locs 0 0 (MQ below (QW E (wM V E) (some (.int r)) S) args s 0 0 (eA E)) (F0 m 0 ls []) := by
  have hx := C.1
  have hb := C.2.1
  unfold Mo_byTurns at hf
  refine lv_aload_n hx hb dX11_byTurns_0 rfl (lv_at hl 0 rfl) ?_
  refine lv_iload_n hx hb dX11_byTurns_1 rfl (lv_at hl 1 rfl) ?_
  refine lv_i2l hx hb dX11_byTurns_2 rfl ?_
  obtain ⟨r1, hr, hf⟩ := hf_1 hf
  refine inv_Vi (q0 := 44) (ci := 11) (As := [.long (Int32.toInt64 p1)]) lk_X11_97 C hw rfl rfl rfl (t_Mo_isOne hr) rfl hl.1 dX11_byTurns_3 rfl (Nat.le_of_ble_eq_true rfl) (by decide) (Nat.le_of_ble_eq_true rfl) rfl (fun H locs hw => ?_)
  refine lv_if_eq (tgt := 49) hx hb dX11_byTurns_6 (by decide) (fun q => ?_) (fun q => ?_)
  · have hf := hf_t q hf
    refine lv_iconst (v := -1) hx hb dX11_byTurns_49 kc_m1 ?_
    exact ret_i C hw dX11_byTurns_50 hf
  · have hf := hf_f q hf
    refine lv_iload_n hx hb dX11_byTurns_9 rfl (lv_at hl 2 rfl) ?_
    refine lv_if_lt (tgt := 49) hx hb dX11_byTurns_10 (by decide) (fun q => ?_) (fun q => ?_)
    · have hf := hf_t q hf
      refine lv_iconst (v := -1) hx hb dX11_byTurns_49 kc_m1 ?_
      exact ret_i C hw dX11_byTurns_50 hf
    · have hf := hf_f q hf
      refine lv_iload_n hx hb dX11_byTurns_13 rfl (lv_at hl 2 rfl) ?_
      refine lv_bipush (v := 10) hx hb dX11_byTurns_14 kb_10 ?_
      refine lv_idiv hx hb dX11_byTurns_16 (by decide) ?_
      refine lv_i2l hx hb dX11_byTurns_17 rfl ?_
      obtain ⟨r2, hr, hf⟩ := hf_1 hf
      refine inv_Si (As := [.long (Int32.toInt64 (p2 / (10 : Int32)))]) lk_X11_101 C hw (t_Mo_isDay hr) hl.1 dX11_byTurns_18 rfl (Nat.le_of_ble_eq_true rfl) (by decide) (Nat.le_of_ble_eq_true rfl) rfl (fun H locs hw => ?_)
      refine lv_if_eq (tgt := 49) hx hb dX11_byTurns_21 (by decide) (fun q => ?_) (fun q => ?_)
      · have hf := hf_t q hf
        refine lv_iconst (v := -1) hx hb dX11_byTurns_49 kc_m1 ?_
        exact ret_i C hw dX11_byTurns_50 hf
      · have hf := hf_f q hf
        refine lv_iload_n hx hb dX11_byTurns_24 rfl (lv_at hl 2 rfl) ?_
        refine lv_bipush (v := 10) hx hb dX11_byTurns_25 kb_10 ?_
        refine lv_irem hx hb dX11_byTurns_27 (by decide) ?_
        refine lv_i2l hx hb dX11_byTurns_28 rfl ?_
        refine lv_lconst (v := 1) hx hb dX11_byTurns_29 rfl ?_
        refine lv_ldc2 (v := 6) hx hb C.2.2.2.1 (C.2.2.2.2.1 _ q_1326) dX11_byTurns_30 ?_
        obtain ⟨r3, hr, hf⟩ := hf_1 hf
        refine inv_Si (As := [.long (Int32.toInt64 (p2 - p2 / (10 : Int32) * (10 : Int32))), .long (1 : Int64), .long (6 : Int64)]) lk_X11_84 C hw (t_Mo_within hr) hl.1 dX11_byTurns_33 rfl (Nat.le_of_ble_eq_true rfl) (by decide) (Nat.le_of_ble_eq_true rfl) rfl (fun H locs hw => ?_)
        refine lv_if_eq (tgt := 49) hx hb dX11_byTurns_36 (by decide) (fun q => ?_) (fun q => ?_)
        · have hf := hf_t q hf
          refine lv_iconst (v := -1) hx hb dX11_byTurns_49 kc_m1 ?_
          exact ret_i C hw dX11_byTurns_50 hf
        · have hf := hf_f q hf
          refine lv_iload_n hx hb dX11_byTurns_39 rfl (lv_at hl 3 rfl) ?_
          refine lv_i2l hx hb dX11_byTurns_40 rfl ?_
          refine lv_lconst (v := 0) hx hb dX11_byTurns_41 rfl ?_
          refine lv_lconst (v := 1) hx hb dX11_byTurns_42 rfl ?_
          obtain ⟨r4, hr, hf⟩ := hf_1 hf
          refine inv_Si (As := [.long (Int32.toInt64 p3), .long (0 : Int64), .long (1 : Int64)]) lk_X11_84 C hw (t_Mo_within hr) hl.1 dX11_byTurns_43 rfl (Nat.le_of_ble_eq_true rfl) (by decide) (Nat.le_of_ble_eq_true rfl) rfl (fun H locs hw => ?_)
          refine lv_if_ne (tgt := 51) hx hb dX11_byTurns_46 (by decide) (fun q => ?_) (fun q => ?_)
          · have hf := hf_f q hf
            refine lv_aload_n hx hb dX11_byTurns_51 rfl (lv_at hl 0 rfl) ?_
            refine lv_iload_n hx hb dX11_byTurns_52 rfl (lv_at hl 1 rfl) ?_
            refine lv_iload_n hx hb dX11_byTurns_53 rfl (lv_at hl 2 rfl) ?_
            refine lv_bipush (v := 10) hx hb dX11_byTurns_54 kb_10 ?_
            refine lv_idiv hx hb dX11_byTurns_56 (by decide) ?_
            obtain ⟨r5, hr, hf⟩ := hf_1 hf
            refine inv_Vi (q0 := 44) (ci := 11) (As := [.int p1, .int (p2 / (10 : Int32))]) lk_X11_232 C hw rfl rfl rfl (t_Mo_ownOpen hr) rfl hl.1 dX11_byTurns_57 rfl (Nat.le_of_ble_eq_true rfl) (by decide) (Nat.le_of_ble_eq_true rfl) rfl (fun H locs hw => ?_)
            refine lv_istore (lv' := [(4, .int r5), (0, .ref (ea E 44)), (1, .int p1), (2, .int p2), (3, .int p3)]) hx hb dX11_byTurns_60 hl (by decide) rfl (fun ls hl => ?_)
            refine lv_aload_n hx hb dX11_byTurns_62 rfl (lv_at hl 1 rfl) ?_
            refine lv_iload_n hx hb dX11_byTurns_63 rfl (lv_at hl 2 rfl) ?_
            refine lv_iload_n hx hb dX11_byTurns_64 rfl (lv_at hl 3 rfl) ?_
            refine lv_bipush (v := 10) hx hb dX11_byTurns_65 kb_10 ?_
            refine lv_idiv hx hb dX11_byTurns_67 (by decide) ?_
            obtain ⟨r6, hr, hf⟩ := hf_1 hf
            refine inv_Vi (q0 := 44) (ci := 11) (As := [.int p1, .int (p2 / (10 : Int32))]) lk_X11_205 C hw rfl rfl rfl (t_Mo_chainOf hr) rfl hl.1 dX11_byTurns_68 rfl (Nat.le_of_ble_eq_true rfl) (by decide) (Nat.le_of_ble_eq_true rfl) rfl (fun H locs hw => ?_)
            refine lv_istore (lv' := [(5, .int r6), (4, .int r5), (0, .ref (ea E 44)), (1, .int p1), (2, .int p2), (3, .int p3)]) hx hb dX11_byTurns_71 hl (by decide) rfl (fun ls hl => ?_)
            refine lv_iload_n hx hb dX11_byTurns_73 rfl (lv_at hl 4 rfl) ?_
            refine lv_bipush (v := 10) hx hb dX11_byTurns_74 kb_10 ?_
            refine lv_irem hx hb dX11_byTurns_76 (by decide) ?_
            refine nm_i hf (fun x7 hf => ?_)
            refine lv_istore (lv' := [(6, .int x7), (5, .int r6), (4, .int r5), (0, .ref (ea E 44)), (1, .int p1), (2, .int p2), (3, .int p3)]) hx hb dX11_byTurns_77 hl (by decide) rfl (fun ls hl => ?_)
            refine lv_aload_n hx hb dX11_byTurns_79 rfl (lv_at hl 3 rfl) ?_
            refine lv_iload_n hx hb dX11_byTurns_80 rfl (lv_at hl 4 rfl) ?_
            refine lv_iconst (v := 0) hx hb dX11_byTurns_81 kc_0 ?_
            refine lv_iload hx hb dX11_byTurns_82 (lv_at hl 0 rfl) ?_
            refine lv_iload hx hb dX11_byTurns_84 (lv_at hl 2 rfl) ?_
            refine lv_iload hx hb dX11_byTurns_86 (lv_at hl 1 rfl) ?_
            obtain ⟨r8, hr, hf⟩ := hf_1 hf
            refine inv_Vi (q0 := 44) (ci := 11) (As := [.int p1, .int (0 : Int32), .int x7, .int r5, .int r6]) lk_X11_260 C hw rfl rfl rfl (t_Mo_winsFrom hr) rfl hl.1 dX11_byTurns_88 rfl (by omega) (by decide) (Nat.le_of_ble_eq_true rfl) rfl (fun H locs hw => ?_)
            refine lv_istore (lv' := [(7, .int r8), (6, .int x7), (5, .int r6), (4, .int r5), (0, .ref (ea E 44)), (1, .int p1), (2, .int p2), (3, .int p3)]) hx hb dX11_byTurns_91 hl (by decide) rfl (fun ls hl => ?_)
            refine lv_iload_n hx hb dX11_byTurns_93 rfl (lv_at hl 7 rfl) ?_
            refine lv_if_ne (tgt := 108) hx hb dX11_byTurns_94 (by decide) (fun q => ?_) (fun q => ?_)
            · have hf := hf_f q hf
              refine lv_iconst (v := 0) hx hb dX11_byTurns_108 kc_0 ?_
              refine lv_istore (lv' := [(8, .int (0 : Int32)), (7, .int r8), (6, .int x7), (5, .int r6), (4, .int r5), (0, .ref (ea E 44)), (1, .int p1), (2, .int p2), (3, .int p3)]) hx hb dX11_byTurns_109 hl (by decide) rfl (fun ls hl => ?_)
              exact w_Mo_byTurns_L111 C _ hf _ _ _ hw (lv_sub hl [5, 6, 4, 3, 2, 1, 0] rfl)
            · have hf := hf_t q hf
              refine lv_iload hx hb dX11_byTurns_97 (lv_at hl 0 rfl) ?_
              refine lv_if_eq (tgt := 106) hx hb dX11_byTurns_99 (by decide) (fun q => ?_) (fun q => ?_)
              · have hf := hf_t q hf
                refine lv_iconst (v := 0) hx hb dX11_byTurns_106 kc_0 ?_
                exact ret_i C hw dX11_byTurns_107 hf
              · have hf := hf_f q hf
                refine lv_iconst (v := 1) hx hb dX11_byTurns_102 kc_1 ?_
                refine lv_goto (tgt := 107) hx hb dX11_byTurns_103 (by decide) ?_
                exact ret_i C hw dX11_byTurns_107 hf
          · have hf := hf_t q hf
            refine lv_iconst (v := -1) hx hb dX11_byTurns_49 kc_m1 ?_
            exact ret_i C hw dX11_byTurns_50 hf
end
theorem t_Mo_byTurns {l : Launch} {V : St} {N : Nat} {S : St} {p1 : Int32} {p2 : Int32} {p3 : Int32} {r : Int32} (hf : Mo_byTurns N S p1 p2 p3 = some r) : Ct l (wM V) yX11_byTurns cX11_byTurns 9 (some .int) (N + 4) (fun E => [.ref (ea E 44), .int p1, .int p2, .int p3]) S (fun E => some (.int r)) S :=
  ofBlock (by decide +kernel) (fun _ => Nat.le_of_ble_eq_true rfl) (fun E p e s m args below meth c ls C hw hl => w_Mo_byTurns C hw hl hf)
theorem dX11_loudest_0 : decode cX11_loudest 0 = .ok (.iload_n 1, 1) := by decide +kernel
theorem dX11_loudest_1 : decode cX11_loudest 1 = .ok (.i2l, 1) := by decide +kernel
theorem dX11_loudest_2 : decode cX11_loudest 2 = .ok (.lconst 0, 1) := by decide +kernel
theorem dX11_loudest_3 : decode cX11_loudest 3 = .ok (.lconst 1, 1) := by decide +kernel
theorem dX11_loudest_4 : decode cX11_loudest 4 = .ok (.invokestatic 84, 3) := by decide +kernel
theorem dX11_loudest_7 : decode cX11_loudest 7 = .ok (.ifCond .ne 5, 3) := by decide +kernel
theorem dX11_loudest_10 : decode cX11_loudest 10 = .ok (.iconst (-1), 1) := by decide +kernel
theorem dX11_loudest_11 : decode cX11_loudest 11 = .ok (.ireturn, 1) := by decide +kernel
theorem dX11_loudest_12 : decode cX11_loudest 12 = .ok (.iconst 0, 1) := by decide +kernel
theorem dX11_loudest_13 : decode cX11_loudest 13 = .ok (.istore_n 2, 1) := by decide +kernel
theorem dX11_loudest_14 : decode cX11_loudest 14 = .ok (.iconst (-1), 1) := by decide +kernel
theorem dX11_loudest_15 : decode cX11_loudest 15 = .ok (.istore_n 3, 1) := by decide +kernel
theorem dX11_loudest_16 : decode cX11_loudest 16 = .ok (.iconst 0, 1) := by decide +kernel
theorem dX11_loudest_17 : decode cX11_loudest 17 = .ok (.istore 4, 2) := by decide +kernel
theorem dX11_loudest_19 : decode cX11_loudest 19 = .ok (.iload 4, 2) := by decide +kernel
theorem dX11_loudest_21 : decode cX11_loudest 21 = .ok (.bipush 99, 2) := by decide +kernel
theorem dX11_loudest_23 : decode cX11_loudest 23 = .ok (.if_icmp .gt 55, 3) := by decide +kernel
theorem dX11_loudest_26 : decode cX11_loudest 26 = .ok (.iconst 0, 1) := by decide +kernel
theorem dX11_loudest_27 : decode cX11_loudest 27 = .ok (.istore 5, 2) := by decide +kernel
theorem dX11_loudest_29 : decode cX11_loudest 29 = .ok (.iconst 0, 1) := by decide +kernel
theorem dX11_loudest_30 : decode cX11_loudest 30 = .ok (.istore 6, 2) := by decide +kernel
theorem dX11_loudest_32 : decode cX11_loudest 32 = .ok (.iload 6, 2) := by decide +kernel
theorem dX11_loudest_34 : decode cX11_loudest 34 = .ok (.aload_n 0, 1) := by decide +kernel
theorem dX11_loudest_35 : decode cX11_loudest 35 = .ok (.getfield 88, 3) := by decide +kernel
theorem dX11_loudest_38 : decode cX11_loudest 38 = .ok (.if_icmp .ge 22, 3) := by decide +kernel
theorem dX11_loudest_41 : decode cX11_loudest 41 = .ok (.iload 5, 2) := by decide +kernel
theorem dX11_loudest_43 : decode cX11_loudest 43 = .ok (.aload_n 0, 1) := by decide +kernel
theorem dX11_loudest_44 : decode cX11_loudest 44 = .ok (.iload 6, 2) := by decide +kernel
theorem dX11_loudest_46 : decode cX11_loudest 46 = .ok (.iload 4, 2) := by decide +kernel
theorem dX11_loudest_48 : decode cX11_loudest 48 = .ok (.invokevirtual 211, 3) := by decide +kernel
theorem dX11_loudest_51 : decode cX11_loudest 51 = .ok (.iadd, 1) := by decide +kernel
theorem dX11_loudest_52 : decode cX11_loudest 52 = .ok (.istore 5, 2) := by decide +kernel
theorem dX11_loudest_54 : decode cX11_loudest 54 = .ok (.iinc 6 1, 3) := by decide +kernel
theorem dX11_loudest_57 : decode cX11_loudest 57 = .ok (.goto (-25), 3) := by decide +kernel
theorem dX11_loudest_60 : decode cX11_loudest 60 = .ok (.iload 5, 2) := by decide +kernel
theorem dX11_loudest_62 : decode cX11_loudest 62 = .ok (.iload_n 3, 1) := by decide +kernel
theorem dX11_loudest_63 : decode cX11_loudest 63 = .ok (.if_icmp .le 9, 3) := by decide +kernel
theorem dX11_loudest_66 : decode cX11_loudest 66 = .ok (.iload 4, 2) := by decide +kernel
theorem dX11_loudest_68 : decode cX11_loudest 68 = .ok (.istore_n 2, 1) := by decide +kernel
theorem dX11_loudest_69 : decode cX11_loudest 69 = .ok (.iload 5, 2) := by decide +kernel
theorem dX11_loudest_71 : decode cX11_loudest 71 = .ok (.istore_n 3, 1) := by decide +kernel
theorem dX11_loudest_72 : decode cX11_loudest 72 = .ok (.iinc 4 1, 3) := by decide +kernel
theorem dX11_loudest_75 : decode cX11_loudest 75 = .ok (.goto (-56), 3) := by decide +kernel
theorem dX11_loudest_78 : decode cX11_loudest 78 = .ok (.iload_n 1, 1) := by decide +kernel
theorem dX11_loudest_79 : decode cX11_loudest 79 = .ok (.ifCond .ne 7, 3) := by decide +kernel
theorem dX11_loudest_82 : decode cX11_loudest 82 = .ok (.iload_n 2, 1) := by decide +kernel
theorem dX11_loudest_83 : decode cX11_loudest 83 = .ok (.goto 4, 3) := by decide +kernel
theorem dX11_loudest_86 : decode cX11_loudest 86 = .ok (.iload_n 3, 1) := by decide +kernel
theorem dX11_loudest_87 : decode cX11_loudest 87 = .ok (.ireturn, 1) := by decide +kernel
section
variable {p : Program} {l : Launch} {e : Env} {s : State} {m : MethodId} {args : Array Value} {below : List Frame} {meth : Method} {c : Code} {H : Heap} {locs : List Loc} {E : Ev} {S V : St} {ls : Array Slot}
set_option maxRecDepth 20000 in
theorem w_Mo_loudest_b32 {N : Nat} {k19 : (St × Int32 × Int32 × Int32) → Option (Int32 × St)} {k32 : (St × Int32 × Int32) → Option (Int32 × St)} {l1 : Int32} {l2 : Int32} {l3 : Int32} {l4 : Int32} {l5 : Int32} {l6 : Int32} {r : Int32} {S9 : St} (C : Cx p s m args meth c E cX11_loudest 7 RX11 (some .int)) (hk19 : ∀ x, k19 x = some (r, S9) → ∀ (H : Heap) (locs : List Loc) (ls : Array Slot), Wd E (wM V E) s.heap x.1 H locs → lv_has ls 7 [(0, .ref (ea E 44)), (1, .int l1), (2, .int x.2.1), (3, .int x.2.2.1), (4, .int x.2.2.2)] → W p l e (rmh (N + 6)) s m args below meth c H locs 0 0 (MQ below (QW E (wM V E) (some (.int r)) S9) args s 0 0 (eA E)) (F0 m 19 ls [])) (hk32 : ∀ x, k32 x = some (r, S9) → ∀ (H : Heap) (locs : List Loc) (ls : Array Slot), Wd E (wM V E) s.heap x.1 H locs → lv_has ls 7 [(0, .ref (ea E 44)), (1, .int l1), (2, .int l2), (3, .int l3), (4, .int l4), (5, .int x.2.1), (6, .int x.2.2)] → W p l e (rmh (N + 6)) s m args below meth c H locs 0 0 (MQ below (QW E (wM V E) (some (.int r)) S9) args s 0 0 (eA E)) (F0 m 32 ls [])) (hw : Wd E (wM V E) s.heap S H locs) (hl : lv_has ls 7 [(0, .ref (ea E 44)), (1, .int l1), (2, .int l2), (3, .int l3), (4, .int l4), (5, .int l5), (6, .int l6)]) (hf : Mo_loudest_b32 N k19 k32 S l1 l2 l3 l4 l5 l6 = some (r, S9)) : W p l e (rmh (N + 6)) s m args below meth c H locs 0 0 (MQ below (QW E (wM V E) (some (.int r)) S9) args s 0 0 (eA E)) (F0 m 32 ls []) := by
  have hx := C.1
  have hb := C.2.1
  unfold Mo_loudest_b32 at hf
  refine lv_iload hx hb dX11_loudest_32 (lv_at hl 6 rfl) ?_
  refine lv_aload_n hx hb dX11_loudest_34 rfl (lv_at hl 0 rfl) ?_
  refine get_44_7 C hw q_1158 dX11_loudest_35 ?_
  refine lv_icmp_ge (tgt := 60) hx hb dX11_loudest_38 (by decide) (fun q => ?_) (fun q => ?_)
  · have hf := hf_t q hf
    refine lv_iload hx hb dX11_loudest_60 (lv_at hl 5 rfl) ?_
    refine lv_iload_n hx hb dX11_loudest_62 rfl (lv_at hl 3 rfl) ?_
    refine lv_icmp_le (tgt := 72) hx hb dX11_loudest_63 (by decide) (fun q => ?_) (fun q => ?_)
    · have hf := hf_t q hf
      obtain ⟨x1, ex1, hf⟩ := nme hf
      refine lv_iinc (v := x1) (lv' := [(4, .int x1), (0, .ref (ea E 44)), (1, .int l1), (2, .int l2), (3, .int l3), (5, .int l5), (6, .int l6)]) hx hb dX11_loudest_72 hl (k := 4) rfl (ki_1 ex1) (by decide) rfl (fun ls hl => ?_)
      refine lv_goto (tgt := 19) hx hb dX11_loudest_75 (by decide) ?_
      exact hk19 _ hf _ _ _ hw (lv_sub hl [1, 2, 3, 4, 0] rfl)
    · have hf := hf_f q hf
      refine lv_iload hx hb dX11_loudest_66 (lv_at hl 4 rfl) ?_
      refine lv_istore_n (lv' := [(2, .int l4), (0, .ref (ea E 44)), (1, .int l1), (3, .int l3), (4, .int l4), (5, .int l5), (6, .int l6)]) hx hb dX11_loudest_68 rfl hl (by decide) rfl (fun ls hl => ?_)
      refine lv_iload hx hb dX11_loudest_69 (lv_at hl 5 rfl) ?_
      refine lv_istore_n (lv' := [(3, .int l5), (2, .int l4), (0, .ref (ea E 44)), (1, .int l1), (4, .int l4), (5, .int l5), (6, .int l6)]) hx hb dX11_loudest_71 rfl hl (by decide) rfl (fun ls hl => ?_)
      obtain ⟨x2, ex2, hf⟩ := nme hf
      refine lv_iinc (v := x2) (lv' := [(4, .int x2), (3, .int l5), (2, .int l4), (0, .ref (ea E 44)), (1, .int l1), (5, .int l5), (6, .int l6)]) hx hb dX11_loudest_72 hl (k := 4) rfl (ki_1 ex2) (by decide) rfl (fun ls hl => ?_)
      refine lv_goto (tgt := 19) hx hb dX11_loudest_75 (by decide) ?_
      exact hk19 _ hf _ _ _ hw (lv_sub hl [3, 4, 2, 1, 0] rfl)
  · have hf := hf_f q hf
    refine lv_iload hx hb dX11_loudest_41 (lv_at hl 5 rfl) ?_
    refine lv_aload_n hx hb dX11_loudest_43 rfl (lv_at hl 0 rfl) ?_
    refine lv_iload hx hb dX11_loudest_44 (lv_at hl 6 rfl) ?_
    refine lv_iload hx hb dX11_loudest_46 (lv_at hl 4 rfl) ?_
    obtain ⟨r4, S3, hr, hf⟩ := hf_2 hf
    refine inv_Vi (q0 := 44) (ci := 11) (As := [.int l6, .int l4]) lk_X11_211 C hw rfl rfl rfl (t_Mo_creakOf hr) rfl hl.1 dX11_loudest_48 rfl (by omega) (by decide) (Nat.le_of_ble_eq_true rfl) rfl (fun H locs hw => ?_)
    refine lv_iadd hx hb dX11_loudest_51 ?_
    refine nm_i hf (fun x5 hf => ?_)
    refine lv_istore (lv' := [(5, .int x5), (0, .ref (ea E 44)), (1, .int l1), (2, .int l2), (3, .int l3), (4, .int l4), (6, .int l6)]) hx hb dX11_loudest_52 hl (by decide) rfl (fun ls hl => ?_)
    obtain ⟨x6, ex6, hf⟩ := nme hf
    refine lv_iinc (v := x6) (lv' := [(6, .int x6), (5, .int x5), (0, .ref (ea E 44)), (1, .int l1), (2, .int l2), (3, .int l3), (4, .int l4)]) hx hb dX11_loudest_54 hl (k := 6) rfl (ki_1 ex6) (by decide) rfl (fun ls hl => ?_)
    refine lv_goto (tgt := 32) hx hb dX11_loudest_57 (by decide) ?_
    exact hk32 _ hf _ _ _ hw (lv_sub hl [2, 3, 4, 5, 6, 1, 0] rfl)
theorem w_Mo_loudest_L32 {N : Nat} {k19 : (St × Int32 × Int32 × Int32) → Option (Int32 × St)} {l1 : Int32} {l2 : Int32} {l3 : Int32} {l4 : Int32} {r : Int32} {S9 : St} (C : Cx p s m args meth c E cX11_loudest 7 RX11 (some .int)) (hk19 : ∀ x, k19 x = some (r, S9) → ∀ (H : Heap) (locs : List Loc) (ls : Array Slot), Wd E (wM V E) s.heap x.1 H locs → lv_has ls 7 [(0, .ref (ea E 44)), (1, .int l1), (2, .int x.2.1), (3, .int x.2.2.1), (4, .int x.2.2.2)] → W p l e (rmh (N + 6)) s m args below meth c H locs 0 0 (MQ below (QW E (wM V E) (some (.int r)) S9) args s 0 0 (eA E)) (F0 m 19 ls [])) : ∀ x, Mo_loudest_L32 N k19 l1 l2 l3 l4 x = some (r, S9) → ∀ (H : Heap) (locs : List Loc) (ls : Array Slot), Wd E (wM V E) s.heap x.1 H locs → lv_has ls 7 [(0, .ref (ea E 44)), (1, .int l1), (2, .int l2), (3, .int l3), (4, .int l4), (5, .int x.2.1), (6, .int x.2.2)] → W p l e (rmh (N + 6)) s m args below meth c H locs 0 0 (MQ below (QW E (wM V E) (some (.int r)) S9) args s 0 0 (eA E)) (F0 m 32 ls []) :=
  lp_W (fun k x hk hf H locs ls hw hl => w_Mo_loudest_b32 C hk19 hk hw hl hf) N
set_option maxRecDepth 20000 in
theorem w_Mo_loudest_b19 {N : Nat} {k19 : (St × Int32 × Int32 × Int32) → Option (Int32 × St)} {l1 : Int32} {l2 : Int32} {l3 : Int32} {l4 : Int32} {r : Int32} {S9 : St} (C : Cx p s m args meth c E cX11_loudest 7 RX11 (some .int)) (hk19 : ∀ x, k19 x = some (r, S9) → ∀ (H : Heap) (locs : List Loc) (ls : Array Slot), Wd E (wM V E) s.heap x.1 H locs → lv_has ls 7 [(0, .ref (ea E 44)), (1, .int l1), (2, .int x.2.1), (3, .int x.2.2.1), (4, .int x.2.2.2)] → W p l e (rmh (N + 6)) s m args below meth c H locs 0 0 (MQ below (QW E (wM V E) (some (.int r)) S9) args s 0 0 (eA E)) (F0 m 19 ls [])) (hw : Wd E (wM V E) s.heap S H locs) (hl : lv_has ls 7 [(0, .ref (ea E 44)), (1, .int l1), (2, .int l2), (3, .int l3), (4, .int l4)]) (hf : Mo_loudest_b19 N k19 S l1 l2 l3 l4 = some (r, S9)) : W p l e (rmh (N + 6)) s m args below meth c H locs 0 0 (MQ below (QW E (wM V E) (some (.int r)) S9) args s 0 0 (eA E)) (F0 m 19 ls []) := by
  have hx := C.1
  have hb := C.2.1
  unfold Mo_loudest_b19 at hf
  refine lv_iload hx hb dX11_loudest_19 (lv_at hl 4 rfl) ?_
  refine lv_bipush (v := 99) hx hb dX11_loudest_21 kb_99 ?_
  refine lv_icmp_gt (tgt := 78) hx hb dX11_loudest_23 (by decide) (fun q => ?_) (fun q => ?_)
  · have hf := hf_t q hf
    refine lv_iload_n hx hb dX11_loudest_78 rfl (lv_at hl 1 rfl) ?_
    refine lv_if_ne (tgt := 86) hx hb dX11_loudest_79 (by decide) (fun q => ?_) (fun q => ?_)
    · have hf := hf_f q hf
      refine lv_iload_n hx hb dX11_loudest_86 rfl (lv_at hl 3 rfl) ?_
      exact ret_iS C hw dX11_loudest_87 hf
    · have hf := hf_t q hf
      refine lv_iload_n hx hb dX11_loudest_82 rfl (lv_at hl 2 rfl) ?_
      refine lv_goto (tgt := 87) hx hb dX11_loudest_83 (by decide) ?_
      exact ret_iS C hw dX11_loudest_87 hf
  · have hf := hf_f q hf
    refine lv_iconst (v := 0) hx hb dX11_loudest_26 kc_0 ?_
    refine lv_istore (lv' := [(5, .int (0 : Int32)), (0, .ref (ea E 44)), (1, .int l1), (2, .int l2), (3, .int l3), (4, .int l4)]) hx hb dX11_loudest_27 hl (by decide) rfl (fun ls hl => ?_)
    refine lv_iconst (v := 0) hx hb dX11_loudest_29 kc_0 ?_
    refine lv_istore (lv' := [(6, .int (0 : Int32)), (5, .int (0 : Int32)), (0, .ref (ea E 44)), (1, .int l1), (2, .int l2), (3, .int l3), (4, .int l4)]) hx hb dX11_loudest_30 hl (by decide) rfl (fun ls hl => ?_)
    exact w_Mo_loudest_L32 C hk19 _ hf _ _ _ hw (lv_sub hl [2, 3, 4, 5, 6, 1, 0] rfl)
theorem w_Mo_loudest_L19 {N : Nat} {l1 : Int32} {r : Int32} {S9 : St} (C : Cx p s m args meth c E cX11_loudest 7 RX11 (some .int)) : ∀ x, Mo_loudest_L19 N l1 x = some (r, S9) → ∀ (H : Heap) (locs : List Loc) (ls : Array Slot), Wd E (wM V E) s.heap x.1 H locs → lv_has ls 7 [(0, .ref (ea E 44)), (1, .int l1), (2, .int x.2.1), (3, .int x.2.2.1), (4, .int x.2.2.2)] → W p l e (rmh (N + 6)) s m args below meth c H locs 0 0 (MQ below (QW E (wM V E) (some (.int r)) S9) args s 0 0 (eA E)) (F0 m 19 ls []) :=
  lp_W (fun k x hk hf H locs ls hw hl => w_Mo_loudest_b19 C hk hw hl hf) N
set_option maxRecDepth 20000 in
theorem w_Mo_loudest {N : Nat} {p1 : Int32} {r : Int32} {S9 : St} (C : Cx p s m args meth c E cX11_loudest 7 RX11 (some .int)) (hw : Wd E (wM V E) s.heap S H locs) (hl : lv_has ls 7 [(0, .ref (ea E 44)), (1, .int p1)]) (hf : Mo_loudest N S p1 = some (r, S9)) : W p l e (rmh (N + 6)) s m args below meth c H locs 0 0 (MQ below (QW E (wM V E) (some (.int r)) S9) args s 0 0 (eA E)) (F0 m 0 ls []) := by
  have hx := C.1
  have hb := C.2.1
  unfold Mo_loudest at hf
  refine lv_iload_n hx hb dX11_loudest_0 rfl (lv_at hl 1 rfl) ?_
  refine lv_i2l hx hb dX11_loudest_1 rfl ?_
  refine lv_lconst (v := 0) hx hb dX11_loudest_2 rfl ?_
  refine lv_lconst (v := 1) hx hb dX11_loudest_3 rfl ?_
  obtain ⟨r1, hr, hf⟩ := hf_1 hf
  refine inv_Si (As := [.long (Int32.toInt64 p1), .long (0 : Int64), .long (1 : Int64)]) lk_X11_84 C hw (t_Mo_within hr) hl.1 dX11_loudest_4 rfl (Nat.le_of_ble_eq_true rfl) (by decide) (Nat.le_of_ble_eq_true rfl) rfl (fun H locs hw => ?_)
  refine lv_if_ne (tgt := 12) hx hb dX11_loudest_7 (by decide) (fun q => ?_) (fun q => ?_)
  · have hf := hf_f q hf
    refine lv_iconst (v := 0) hx hb dX11_loudest_12 kc_0 ?_
    refine lv_istore_n (lv' := [(2, .int (0 : Int32)), (0, .ref (ea E 44)), (1, .int p1)]) hx hb dX11_loudest_13 rfl hl (by decide) rfl (fun ls hl => ?_)
    refine lv_iconst (v := -1) hx hb dX11_loudest_14 kc_m1 ?_
    refine lv_istore_n (lv' := [(3, .int (-1 : Int32)), (2, .int (0 : Int32)), (0, .ref (ea E 44)), (1, .int p1)]) hx hb dX11_loudest_15 rfl hl (by decide) rfl (fun ls hl => ?_)
    refine lv_iconst (v := 0) hx hb dX11_loudest_16 kc_0 ?_
    refine lv_istore (lv' := [(4, .int (0 : Int32)), (3, .int (-1 : Int32)), (2, .int (0 : Int32)), (0, .ref (ea E 44)), (1, .int p1)]) hx hb dX11_loudest_17 hl (by decide) rfl (fun ls hl => ?_)
    exact w_Mo_loudest_L19 C _ hf _ _ _ hw (lv_sub hl [3, 4, 2, 1, 0] rfl)
  · have hf := hf_t q hf
    refine lv_iconst (v := -1) hx hb dX11_loudest_10 kc_m1 ?_
    exact ret_iS C hw dX11_loudest_11 hf
end
theorem t_Mo_loudest {l : Launch} {V : St} {N : Nat} {S : St} {p1 : Int32} {r : Int32} {S9 : St} (hf : Mo_loudest N S p1 = some (r, S9)) : Ct l (wM V) yX11_loudest cX11_loudest 7 (some .int) (N + 6) (fun E => [.ref (ea E 44), .int p1]) S (fun E => some (.int r)) S9 :=
  ofBlock (by decide +kernel) (fun _ => Nat.le_of_ble_eq_true rfl) (fun E p e s m args below meth c ls C hw hl => w_Mo_loudest C hw hl hf)
