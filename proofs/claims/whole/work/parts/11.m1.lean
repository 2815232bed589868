theorem dX5_valueFor_0 : decode cX5_valueFor 0 = .ok (.aload_n 0, 1) := by decide +kernel
theorem dX5_valueFor_1 : decode cX5_valueFor 1 = .ok (.iload_n 1, 1) := by decide +kernel
theorem dX5_valueFor_2 : decode cX5_valueFor 2 = .ok (.iload_n 2, 1) := by decide +kernel
theorem dX5_valueFor_3 : decode cX5_valueFor 3 = .ok (.iload_n 3, 1) := by decide +kernel
theorem dX5_valueFor_4 : decode cX5_valueFor 4 = .ok (.iload 4, 2) := by decide +kernel
theorem dX5_valueFor_6 : decode cX5_valueFor 6 = .ok (.iload 5, 2) := by decide +kernel
theorem dX5_valueFor_8 : decode cX5_valueFor 8 = .ok (.iload 6, 2) := by decide +kernel
theorem dX5_valueFor_10 : decode cX5_valueFor 10 = .ok (.invokevirtual 88, 3) := by decide +kernel
theorem dX5_valueFor_13 : decode cX5_valueFor 13 = .ok (.iconst 0, 1) := by decide +kernel
theorem dX5_valueFor_14 : decode cX5_valueFor 14 = .ok (.istore 7, 2) := by decide +kernel
theorem dX5_valueFor_16 : decode cX5_valueFor 16 = .ok (.iconst 0, 1) := by decide +kernel
theorem dX5_valueFor_17 : decode cX5_valueFor 17 = .ok (.istore 8, 2) := by decide +kernel
theorem dX5_valueFor_19 : decode cX5_valueFor 19 = .ok (.iload 8, 2) := by decide +kernel
theorem dX5_valueFor_21 : decode cX5_valueFor 21 = .ok (.aload_n 0, 1) := by decide +kernel
theorem dX5_valueFor_22 : decode cX5_valueFor 22 = .ok (.getfield 29, 3) := by decide +kernel
theorem dX5_valueFor_25 : decode cX5_valueFor 25 = .ok (.if_icmp .ge 121, 3) := by decide +kernel
theorem dX5_valueFor_28 : decode cX5_valueFor 28 = .ok (.aload_n 0, 1) := by decide +kernel
theorem dX5_valueFor_29 : decode cX5_valueFor 29 = .ok (.getfield 13, 3) := by decide +kernel
theorem dX5_valueFor_32 : decode cX5_valueFor 32 = .ok (.iload 8, 2) := by decide +kernel
theorem dX5_valueFor_34 : decode cX5_valueFor 34 = .ok (.iaload, 1) := by decide +kernel
theorem dX5_valueFor_35 : decode cX5_valueFor 35 = .ok (.istore 9, 2) := by decide +kernel
theorem dX5_valueFor_37 : decode cX5_valueFor 37 = .ok (.iload 9, 2) := by decide +kernel
theorem dX5_valueFor_39 : decode cX5_valueFor 39 = .ok (.bipush 59, 2) := by decide +kernel
theorem dX5_valueFor_41 : decode cX5_valueFor 41 = .ok (.if_icmp .ne 10, 3) := by decide +kernel
theorem dX5_valueFor_44 : decode cX5_valueFor 44 = .ok (.aload_n 0, 1) := by decide +kernel
theorem dX5_valueFor_45 : decode cX5_valueFor 45 = .ok (.getfield 19, 3) := by decide +kernel
theorem dX5_valueFor_48 : decode cX5_valueFor 48 = .ok (.iconst 0, 1) := by decide +kernel
theorem dX5_valueFor_49 : decode cX5_valueFor 49 = .ok (.iaload, 1) := by decide +kernel
theorem dX5_valueFor_50 : decode cX5_valueFor 50 = .ok (.ireturn, 1) := by decide +kernel
theorem dX5_valueFor_51 : decode cX5_valueFor 51 = .ok (.iload 9, 2) := by decide +kernel
theorem dX5_valueFor_53 : decode cX5_valueFor 53 = .ok (.bipush 63, 2) := by decide +kernel
theorem dX5_valueFor_55 : decode cX5_valueFor 55 = .ok (.if_icmp .ne 31, 3) := by decide +kernel
theorem dX5_valueFor_58 : decode cX5_valueFor 58 = .ok (.aload_n 0, 1) := by decide +kernel
theorem dX5_valueFor_59 : decode cX5_valueFor 59 = .ok (.getfield 19, 3) := by decide +kernel
theorem dX5_valueFor_62 : decode cX5_valueFor 62 = .ok (.iconst 0, 1) := by decide +kernel
theorem dX5_valueFor_63 : decode cX5_valueFor 63 = .ok (.iaload, 1) := by decide +kernel
theorem dX5_valueFor_64 : decode cX5_valueFor 64 = .ok (.ifCond .ne 12, 3) := by decide +kernel
theorem dX5_valueFor_67 : decode cX5_valueFor 67 = .ok (.aload_n 0, 1) := by decide +kernel
theorem dX5_valueFor_68 : decode cX5_valueFor 68 = .ok (.iload 8, 2) := by decide +kernel
theorem dX5_valueFor_70 : decode cX5_valueFor 70 = .ok (.invokevirtual 92, 3) := by decide +kernel
theorem dX5_valueFor_73 : decode cX5_valueFor 73 = .ok (.goto 5, 3) := by decide +kernel
theorem dX5_valueFor_76 : decode cX5_valueFor 76 = .ok (.iload 8, 2) := by decide +kernel
theorem dX5_valueFor_78 : decode cX5_valueFor 78 = .ok (.istore 8, 2) := by decide +kernel
theorem dX5_valueFor_80 : decode cX5_valueFor 80 = .ok (.iconst 0, 1) := by decide +kernel
theorem dX5_valueFor_81 : decode cX5_valueFor 81 = .ok (.istore 7, 2) := by decide +kernel
theorem dX5_valueFor_83 : decode cX5_valueFor 83 = .ok (.goto 57, 3) := by decide +kernel
theorem dX5_valueFor_86 : decode cX5_valueFor 86 = .ok (.iconst 0, 1) := by decide +kernel
theorem dX5_valueFor_87 : decode cX5_valueFor 87 = .ok (.iload 7, 2) := by decide +kernel
theorem dX5_valueFor_89 : decode cX5_valueFor 89 = .ok (.iload 9, 2) := by decide +kernel
theorem dX5_valueFor_91 : decode cX5_valueFor 91 = .ok (.invokestatic 95, 3) := by decide +kernel
theorem dX5_valueFor_94 : decode cX5_valueFor 94 = .ok (.isub, 1) := by decide +kernel
theorem dX5_valueFor_95 : decode cX5_valueFor 95 = .ok (.invokestatic 98, 3) := by decide +kernel
theorem dX5_valueFor_98 : decode cX5_valueFor 98 = .ok (.istore 7, 2) := by decide +kernel
theorem dX5_valueFor_100 : decode cX5_valueFor 100 = .ok (.aload_n 0, 1) := by decide +kernel
theorem dX5_valueFor_101 : decode cX5_valueFor 101 = .ok (.getfield 19, 3) := by decide +kernel
theorem dX5_valueFor_104 : decode cX5_valueFor 104 = .ok (.iload 7, 2) := by decide +kernel
theorem dX5_valueFor_106 : decode cX5_valueFor 106 = .ok (.aload_n 0, 1) := by decide +kernel
theorem dX5_valueFor_107 : decode cX5_valueFor 107 = .ok (.iload 9, 2) := by decide +kernel
theorem dX5_valueFor_109 : decode cX5_valueFor 109 = .ok (.aload_n 0, 1) := by decide +kernel
theorem dX5_valueFor_110 : decode cX5_valueFor 110 = .ok (.getfield 19, 3) := by decide +kernel
theorem dX5_valueFor_113 : decode cX5_valueFor 113 = .ok (.iload 7, 2) := by decide +kernel
theorem dX5_valueFor_115 : decode cX5_valueFor 115 = .ok (.iaload, 1) := by decide +kernel
theorem dX5_valueFor_116 : decode cX5_valueFor 116 = .ok (.aload_n 0, 1) := by decide +kernel
theorem dX5_valueFor_117 : decode cX5_valueFor 117 = .ok (.getfield 19, 3) := by decide +kernel
theorem dX5_valueFor_120 : decode cX5_valueFor 120 = .ok (.iload 7, 2) := by decide +kernel
theorem dX5_valueFor_122 : decode cX5_valueFor 122 = .ok (.iconst 1, 1) := by decide +kernel
theorem dX5_valueFor_123 : decode cX5_valueFor 123 = .ok (.iadd, 1) := by decide +kernel
theorem dX5_valueFor_124 : decode cX5_valueFor 124 = .ok (.iaload, 1) := by decide +kernel
theorem dX5_valueFor_125 : decode cX5_valueFor 125 = .ok (.invokevirtual 104, 3) := by decide +kernel
theorem dX5_valueFor_128 : decode cX5_valueFor 128 = .ok (.iastore, 1) := by decide +kernel
theorem dX5_valueFor_129 : decode cX5_valueFor 129 = .ok (.iload 7, 2) := by decide +kernel
theorem dX5_valueFor_131 : decode cX5_valueFor 131 = .ok (.iconst 1, 1) := by decide +kernel
theorem dX5_valueFor_132 : decode cX5_valueFor 132 = .ok (.iadd, 1) := by decide +kernel
theorem dX5_valueFor_133 : decode cX5_valueFor 133 = .ok (.bipush 120, 2) := by decide +kernel
theorem dX5_valueFor_135 : decode cX5_valueFor 135 = .ok (.invokestatic 108, 3) := by decide +kernel
theorem dX5_valueFor_138 : decode cX5_valueFor 138 = .ok (.istore 7, 2) := by decide +kernel
theorem dX5_valueFor_140 : decode cX5_valueFor 140 = .ok (.iinc 8 1, 3) := by decide +kernel
theorem dX5_valueFor_143 : decode cX5_valueFor 143 = .ok (.goto (-124), 3) := by decide +kernel
theorem dX5_valueFor_146 : decode cX5_valueFor 146 = .ok (.iconst 0, 1) := by decide +kernel
theorem dX5_valueFor_147 : decode cX5_valueFor 147 = .ok (.ireturn, 1) := by decide +kernel
section
variable {p : Program} {l : Launch} {e : Env} {s : State} {m : MethodId} {args : Array Value} {below : List Frame} {meth : Method} {c : Code} {H : Heap} {locs : List Loc} {E : Ev} {S V : St} {ls : Array Slot}
set_option maxRecDepth 20000 in
theorem w_La_valueFor_b78 {N : Nat} {k19 : (St × Int32 × Int32) → Option (Int32 × St)} {s0 : Int32} {r : Int32} {S9 : St} (C : Cx p s m args meth c E cX5_valueFor 10 RX5 (some .int)) (hk19 : ∀ x, k19 x = some (r, S9) → ∀ (H : Heap) (locs : List Loc) (ls : Array Slot), Wd E (wX V E) s.heap x.1 H locs → lv_has ls 10 [(0, .ref (ea E 2)), (7, .int x.2.1), (8, .int x.2.2)] → W p l e (rmh 3) s m args below meth c H locs 0 0 (MQ below (QW E (wX V E) (some (.int r)) S9) args s 0 0 (eA E)) (F0 m 19 ls [])) (hw : Wd E (wX V E) s.heap S H locs) (hl : lv_has ls 10 [(0, .ref (ea E 2))]) (hf : La_valueFor_b78 N k19 S s0 = some (r, S9)) : W p l e (rmh 3) s m args below meth c H locs 0 0 (MQ below (QW E (wX V E) (some (.int r)) S9) args s 0 0 (eA E)) (F0 m 78 ls [.int s0]) := by
  have hx := C.1
  have hb := C.2.1
  unfold La_valueFor_b78 at hf
  refine lv_istore (lv' := [(8, .int s0), (0, .ref (ea E 2))]) hx hb dX5_valueFor_78 hl (by decide) rfl (fun ls hl => ?_)
  refine lv_iconst (v := 0) hx hb dX5_valueFor_80 kc_0 ?_
  refine lv_istore (lv' := [(7, .int (0 : Int32)), (8, .int s0), (0, .ref (ea E 2))]) hx hb dX5_valueFor_81 hl (by decide) rfl (fun ls hl => ?_)
  refine lv_goto (tgt := 140) hx hb dX5_valueFor_83 (by decide) ?_
  obtain ⟨x1, ex1, hf⟩ := nme hf
  refine lv_iinc (v := x1) (lv' := [(8, .int x1), (7, .int (0 : Int32)), (0, .ref (ea E 2))]) hx hb dX5_valueFor_140 hl (k := 1) rfl (ki_1 ex1) (by decide) rfl (fun ls hl => ?_)
  refine lv_goto (tgt := 19) hx hb dX5_valueFor_143 (by decide) ?_
  exact hk19 _ hf _ _ _ hw (lv_sub hl [2, 1, 0] rfl)
set_option maxRecDepth 20000 in
theorem w_La_valueFor_b19 {N : Nat} {k19 : (St × Int32 × Int32) → Option (Int32 × St)} {l7 : Int32} {l8 : Int32} {r : Int32} {S9 : St} (C : Cx p s m args meth c E cX5_valueFor 10 RX5 (some .int)) (hk19 : ∀ x, k19 x = some (r, S9) → ∀ (H : Heap) (locs : List Loc) (ls : Array Slot), Wd E (wX V E) s.heap x.1 H locs → lv_has ls 10 [(0, .ref (ea E 2)), (7, .int x.2.1), (8, .int x.2.2)] → W p l e (rmh 3) s m args below meth c H locs 0 0 (MQ below (QW E (wX V E) (some (.int r)) S9) args s 0 0 (eA E)) (F0 m 19 ls [])) (hw : Wd E (wX V E) s.heap S H locs) (hl : lv_has ls 10 [(0, .ref (ea E 2)), (7, .int l7), (8, .int l8)]) (hf : La_valueFor_b19 N k19 S l7 l8 = some (r, S9)) : W p l e (rmh 3) s m args below meth c H locs 0 0 (MQ below (QW E (wX V E) (some (.int r)) S9) args s 0 0 (eA E)) (F0 m 19 ls []) := by
  have hx := C.1
  have hb := C.2.1
  unfold La_valueFor_b19 at hf
  refine lv_iload hx hb dX5_valueFor_19 (lv_at hl 2 rfl) ?_
  refine lv_aload_n hx hb dX5_valueFor_21 rfl (lv_at hl 0 rfl) ?_
  refine get_2_6 C hw q_181 dX5_valueFor_22 ?_
  refine lv_icmp_ge (tgt := 146) hx hb dX5_valueFor_25 (by decide) (fun q => ?_) (fun q => ?_)
  · have hf := hf_t q hf
    refine lv_iconst (v := 0) hx hb dX5_valueFor_146 kc_0 ?_
    exact ret_iS C hw dX5_valueFor_147 hf
  · have hf := hf_f q hf
    refine lv_aload_n hx hb dX5_valueFor_28 rfl (lv_at hl 0 rfl) ?_
    refine get_2_2 C hw q_177 dX5_valueFor_29 ?_
    refine lv_iload hx hb dX5_valueFor_32 (lv_at hl 2 rfl) ?_
    obtain ⟨hc, hf⟩ := hf_ck hf
    refine ld_21 C hw hc dX5_valueFor_34 ?_
    refine nm_i hf (fun x1 hf => ?_)
    refine lv_istore (lv' := [(9, .int x1), (0, .ref (ea E 2)), (7, .int l7), (8, .int l8)]) hx hb dX5_valueFor_35 hl (by decide) rfl (fun ls hl => ?_)
    refine lv_iload hx hb dX5_valueFor_37 (lv_at hl 0 rfl) ?_
    refine lv_bipush (v := 59) hx hb dX5_valueFor_39 kb_59 ?_
    refine lv_icmp_ne (tgt := 51) hx hb dX5_valueFor_41 (by decide) (fun q => ?_) (fun q => ?_)
    · have hf := hf_f q hf
      refine lv_iload hx hb dX5_valueFor_51 (lv_at hl 0 rfl) ?_
      refine lv_bipush (v := 63) hx hb dX5_valueFor_53 kb_63 ?_
      refine lv_icmp_ne (tgt := 86) hx hb dX5_valueFor_55 (by decide) (fun q => ?_) (fun q => ?_)
      · have hf := hf_f q hf
        refine lv_iconst (v := 0) hx hb dX5_valueFor_86 kc_0 ?_
        refine lv_iload hx hb dX5_valueFor_87 (lv_at hl 2 rfl) ?_
        refine lv_iload hx hb dX5_valueFor_89 (lv_at hl 0 rfl) ?_
        obtain ⟨r2, hr, hf⟩ := hf_1 hf
        refine inv_Si (As := [.int x1]) lk_X5_95 C hw (t_La_operandsOf hr) hl.1 dX5_valueFor_91 rfl (Nat.le_of_ble_eq_true rfl) (by decide) (Nat.le_of_ble_eq_true rfl) rfl (fun H locs hw => ?_)
        refine lv_isub hx hb dX5_valueFor_94 ?_
        obtain ⟨r3, hr, hf⟩ := hf_1 hf
        refine inv_Si (As := [.int (0 : Int32), .int (l7 - r2)]) lk_X5_98 C hw (t_Ma_max hr) hl.1 dX5_valueFor_95 rfl (Nat.le_of_ble_eq_true rfl) (by decide) (Nat.le_of_ble_eq_true rfl) rfl (fun H locs hw => ?_)
        refine lv_istore (lv' := [(7, .int r3), (9, .int x1), (0, .ref (ea E 2)), (8, .int l8)]) hx hb dX5_valueFor_98 hl (by decide) rfl (fun ls hl => ?_)
        refine lv_aload_n hx hb dX5_valueFor_100 rfl (lv_at hl 2 rfl) ?_
        refine get_2_4 C hw q_179 dX5_valueFor_101 ?_
        refine lv_iload hx hb dX5_valueFor_104 (lv_at hl 0 rfl) ?_
        refine lv_aload_n hx hb dX5_valueFor_106 rfl (lv_at hl 2 rfl) ?_
        refine lv_iload hx hb dX5_valueFor_107 (lv_at hl 1 rfl) ?_
        refine lv_aload_n hx hb dX5_valueFor_109 rfl (lv_at hl 2 rfl) ?_
        refine get_2_4 C hw q_179 dX5_valueFor_110 ?_
        refine lv_iload hx hb dX5_valueFor_113 (lv_at hl 0 rfl) ?_
        obtain ⟨hc, hf⟩ := hf_ck hf
        refine ld_23 C hw hc dX5_valueFor_115 ?_
        refine lv_aload_n hx hb dX5_valueFor_116 rfl (lv_at hl 2 rfl) ?_
        refine get_2_4 C hw q_179 dX5_valueFor_117 ?_
        refine lv_iload hx hb dX5_valueFor_120 (lv_at hl 0 rfl) ?_
        refine lv_iconst (v := 1) hx hb dX5_valueFor_122 kc_1 ?_
        refine lv_iadd hx hb dX5_valueFor_123 ?_
        obtain ⟨hc, hf⟩ := hf_ck hf
        refine ld_23 C hw hc dX5_valueFor_124 ?_
        obtain ⟨r4, hr, hf⟩ := hf_1 hf
        refine inv_Vi (q0 := 2) (ci := 5) (As := [.int x1, .int (gi S 23 r3.toNatClampNeg), .int (gi S 23 (r3 + (1 : Int32)).toNatClampNeg)]) lk_X5_104 C hw rfl rfl rfl (t_La_result hr) rfl hl.1 dX5_valueFor_125 rfl (Nat.le_of_ble_eq_true rfl) (by decide) (Nat.le_of_ble_eq_true rfl) rfl (fun H locs hw => ?_)
        obtain ⟨hc, hf⟩ := hf_ck hf
        refine st_23 C hw hc dX5_valueFor_128 (fun H locs hw => ?_)
        refine nm_S hf hw (fun S5 hf hw => ?_)
        refine lv_iload hx hb dX5_valueFor_129 (lv_at hl 0 rfl) ?_
        refine lv_iconst (v := 1) hx hb dX5_valueFor_131 kc_1 ?_
        refine lv_iadd hx hb dX5_valueFor_132 ?_
        refine lv_bipush (v := 120) hx hb dX5_valueFor_133 kb_120 ?_
        obtain ⟨r6, hr, hf⟩ := hf_1 hf
        refine inv_Si (As := [.int (r3 + (1 : Int32)), .int (120 : Int32)]) lk_X5_108 C hw (t_Ma_min hr) hl.1 dX5_valueFor_135 rfl (Nat.le_of_ble_eq_true rfl) (by decide) (Nat.le_of_ble_eq_true rfl) rfl (fun H locs hw => ?_)
        refine lv_istore (lv' := [(7, .int r6), (9, .int x1), (0, .ref (ea E 2)), (8, .int l8)]) hx hb dX5_valueFor_138 hl (by decide) rfl (fun ls hl => ?_)
        obtain ⟨x7, ex7, hf⟩ := nme hf
        refine lv_iinc (v := x7) (lv' := [(8, .int x7), (7, .int r6), (9, .int x1), (0, .ref (ea E 2))]) hx hb dX5_valueFor_140 hl (k := 3) rfl (ki_1 ex7) (by decide) rfl (fun ls hl => ?_)
        refine lv_goto (tgt := 19) hx hb dX5_valueFor_143 (by decide) ?_
        exact hk19 _ hf _ _ _ hw (lv_sub hl [3, 1, 0] rfl)
      · have hf := hf_t q hf
        refine lv_aload_n hx hb dX5_valueFor_58 rfl (lv_at hl 1 rfl) ?_
        refine get_2_4 C hw q_179 dX5_valueFor_59 ?_
        refine lv_iconst (v := 0) hx hb dX5_valueFor_62 kc_0 ?_
        refine ld_23 C hw (by decide) dX5_valueFor_63 ?_
        refine lv_if_ne (tgt := 76) hx hb dX5_valueFor_64 (by decide) (fun q => ?_) (fun q => ?_)
        · have hf := hf_f q hf
          refine lv_iload hx hb dX5_valueFor_76 (lv_at hl 3 rfl) ?_
          exact w_La_valueFor_b78 C hk19 hw (lv_sub hl [1] rfl) hf
        · have hf := hf_t q hf
          refine lv_aload_n hx hb dX5_valueFor_67 rfl (lv_at hl 1 rfl) ?_
          refine lv_iload hx hb dX5_valueFor_68 (lv_at hl 3 rfl) ?_
          obtain ⟨r8, hr, hf⟩ := hf_1 hf
          refine inv_Vi (q0 := 2) (ci := 5) (As := [.int l8]) lk_X5_92 C hw rfl rfl rfl (t_La_lineEndFrom hr) rfl hl.1 dX5_valueFor_70 rfl (Nat.le_of_ble_eq_true rfl) (by decide) (Nat.le_of_ble_eq_true rfl) rfl (fun H locs hw => ?_)
          refine lv_goto (tgt := 78) hx hb dX5_valueFor_73 (by decide) ?_
          exact w_La_valueFor_b78 C hk19 hw (lv_sub hl [1] rfl) hf
    · have hf := hf_t q hf
      refine lv_aload_n hx hb dX5_valueFor_44 rfl (lv_at hl 1 rfl) ?_
      refine get_2_4 C hw q_179 dX5_valueFor_45 ?_
      refine lv_iconst (v := 0) hx hb dX5_valueFor_48 kc_0 ?_
      refine ld_23 C hw (by decide) dX5_valueFor_49 ?_
      exact ret_iS C hw dX5_valueFor_50 hf
theorem w_La_valueFor_L19 {N : Nat} {r : Int32} {S9 : St} (C : Cx p s m args meth c E cX5_valueFor 10 RX5 (some .int)) : ∀ x, La_valueFor_L19 N x = some (r, S9) → ∀ (H : Heap) (locs : List Loc) (ls : Array Slot), Wd E (wX V E) s.heap x.1 H locs → lv_has ls 10 [(0, .ref (ea E 2)), (7, .int x.2.1), (8, .int x.2.2)] → W p l e (rmh 3) s m args below meth c H locs 0 0 (MQ below (QW E (wX V E) (some (.int r)) S9) args s 0 0 (eA E)) (F0 m 19 ls []) :=
  lp_W (fun k x hk hf H locs ls hw hl => w_La_valueFor_b19 C hk hw hl hf) N
set_option maxRecDepth 20000 in
theorem w_La_valueFor {N : Nat} {p1 : Int32} {p2 : Int32} {p3 : Int32} {p4 : Int32} {p5 : Int32} {p6 : Int32} {r : Int32} {S9 : St} (C : Cx p s m args meth c E cX5_valueFor 10 RX5 (some .int)) (hw : Wd E (wX V E) s.heap S H locs) (hl : lv_has ls 10 [(0, .ref (ea E 2)), (1, .int p1), (2, .int p2), (3, .int p3), (4, .int p4), (5, .int p5), (6, .int p6)]) (hf : La_valueFor N S p1 p2 p3 p4 p5 p6 = some (r, S9)) : W p l e (rmh 3) s m args below meth c H locs 0 0 (MQ below (QW E (wX V E) (some (.int r)) S9) args s 0 0 (eA E)) (F0 m 0 ls []) := by
  have hx := C.1
  have hb := C.2.1
  unfold La_valueFor at hf
  refine lv_aload_n hx hb dX5_valueFor_0 rfl (lv_at hl 0 rfl) ?_
  refine lv_iload_n hx hb dX5_valueFor_1 rfl (lv_at hl 1 rfl) ?_
  refine lv_iload_n hx hb dX5_valueFor_2 rfl (lv_at hl 2 rfl) ?_
  refine lv_iload_n hx hb dX5_valueFor_3 rfl (lv_at hl 3 rfl) ?_
  refine lv_iload hx hb dX5_valueFor_4 (lv_at hl 4 rfl) ?_
  refine lv_iload hx hb dX5_valueFor_6 (lv_at hl 5 rfl) ?_
  refine lv_iload hx hb dX5_valueFor_8 (lv_at hl 6 rfl) ?_
  obtain ⟨S1, hr, hf⟩ := hf_1 hf
  refine inv_Vv (q0 := 2) (ci := 5) (As := [.int p1, .int p2, .int p3, .int p4, .int p5, .int p6]) lk_X5_88 C hw rfl rfl rfl (t_La_tell hr) rfl hl.1 dX5_valueFor_10 rfl (Nat.le_of_ble_eq_true rfl) (by decide) (Nat.le_of_ble_eq_true rfl) rfl (fun H locs hw => ?_)
  refine lv_iconst (v := 0) hx hb dX5_valueFor_13 kc_0 ?_
  refine lv_istore (lv' := [(7, .int (0 : Int32)), (0, .ref (ea E 2)), (1, .int p1), (2, .int p2), (3, .int p3), (4, .int p4), (5, .int p5), (6, .int p6)]) hx hb dX5_valueFor_14 hl (by decide) rfl (fun ls hl => ?_)
  refine lv_iconst (v := 0) hx hb dX5_valueFor_16 kc_0 ?_
  refine lv_istore (lv' := [(8, .int (0 : Int32)), (7, .int (0 : Int32)), (0, .ref (ea E 2)), (1, .int p1), (2, .int p2), (3, .int p3), (4, .int p4), (5, .int p5), (6, .int p6)]) hx hb dX5_valueFor_17 hl (by decide) rfl (fun ls hl => ?_)
  exact w_La_valueFor_L19 C _ hf _ _ _ hw (lv_sub hl [2, 1, 0] rfl)
end
theorem t_La_valueFor {l : Launch} {V : St} {N : Nat} {S : St} {p1 : Int32} {p2 : Int32} {p3 : Int32} {p4 : Int32} {p5 : Int32} {p6 : Int32} {r : Int32} {S9 : St} (hf : La_valueFor N S p1 p2 p3 p4 p5 p6 = some (r, S9)) : Ct l (wX V) yX5_valueFor cX5_valueFor 10 (some .int) 3 (fun E => [.ref (ea E 2), .int p1, .int p2, .int p3, .int p4, .int p5, .int p6]) S (fun E => some (.int r)) S9 :=
  ofBlock (by decide +kernel) (fun _ => Nat.le_of_ble_eq_true rfl) (fun E p e s m args below meth c ls C hw hl => w_La_valueFor C hw hl hf)
theorem dX8_isOpen_0 : decode cX8_isOpen 0 = .ok (.aload_n 0, 1) := by decide +kernel
theorem dX8_isOpen_1 : decode cX8_isOpen 1 = .ok (.getfield 24, 3) := by decide +kernel
theorem dX8_isOpen_4 : decode cX8_isOpen 4 = .ok (.iload_n 1, 1) := by decide +kernel
theorem dX8_isOpen_5 : decode cX8_isOpen 5 = .ok (.iaload, 1) := by decide +kernel
theorem dX8_isOpen_6 : decode cX8_isOpen 6 = .ok (.iload_n 2, 1) := by decide +kernel
theorem dX8_isOpen_7 : decode cX8_isOpen 7 = .ok (.if_icmp .gt 27, 3) := by decide +kernel
theorem dX8_isOpen_10 : decode cX8_isOpen 10 = .ok (.aload_n 0, 1) := by decide +kernel
theorem dX8_isOpen_11 : decode cX8_isOpen 11 = .ok (.getfield 33, 3) := by decide +kernel
theorem dX8_isOpen_14 : decode cX8_isOpen 14 = .ok (.iload_n 1, 1) := by decide +kernel
theorem dX8_isOpen_15 : decode cX8_isOpen 15 = .ok (.iaload, 1) := by decide +kernel
theorem dX8_isOpen_16 : decode cX8_isOpen 16 = .ok (.iconst (-1), 1) := by decide +kernel
theorem dX8_isOpen_17 : decode cX8_isOpen 17 = .ok (.if_icmp .eq 13, 3) := by decide +kernel
theorem dX8_isOpen_20 : decode cX8_isOpen 20 = .ok (.aload_n 0, 1) := by decide +kernel
theorem dX8_isOpen_21 : decode cX8_isOpen 21 = .ok (.getfield 33, 3) := by decide +kernel
theorem dX8_isOpen_24 : decode cX8_isOpen 24 = .ok (.iload_n 1, 1) := by decide +kernel
theorem dX8_isOpen_25 : decode cX8_isOpen 25 = .ok (.iaload, 1) := by decide +kernel
theorem dX8_isOpen_26 : decode cX8_isOpen 26 = .ok (.iload_n 2, 1) := by decide +kernel
theorem dX8_isOpen_27 : decode cX8_isOpen 27 = .ok (.if_icmp .le 7, 3) := by decide +kernel
theorem dX8_isOpen_30 : decode cX8_isOpen 30 = .ok (.iconst 1, 1) := by decide +kernel
theorem dX8_isOpen_31 : decode cX8_isOpen 31 = .ok (.goto 4, 3) := by decide +kernel
theorem dX8_isOpen_34 : decode cX8_isOpen 34 = .ok (.iconst 0, 1) := by decide +kernel
theorem dX8_isOpen_35 : decode cX8_isOpen 35 = .ok (.ireturn, 1) := by decide +kernel
section
variable {p : Program} {l : Launch} {e : Env} {s : State} {m : MethodId} {args : Array Value} {below : List Frame} {meth : Method} {c : Code} {H : Heap} {locs : List Loc} {E : Ev} {S V : St} {ls : Array Slot}
set_option maxRecDepth 20000 in
theorem w_Sm_isOpen {p1 : Int32} {p2 : Int32} {r : Int32} (C : Cx p s m args meth c E cX8_isOpen 3 RX8 (some .boolean)) (hw : Wd E (wX V E) s.heap S H locs) (hl : lv_has ls 3 [(0, .ref (ea E 1)), (1, .int p1), (2, .int p2)]) (hf : Sm_isOpen S p1 p2 = some r) : W p l e (rmh 1) s m args below meth c H locs 0 0 (MQ below (QW E (wX V E) (some (.int r)) S) args s 0 0 (eA E)) (F0 m 0 ls []) := by
  have hx := C.1
  have hb := C.2.1
  unfold Sm_isOpen at hf
  refine lv_aload_n hx hb dX8_isOpen_0 rfl (lv_at hl 0 rfl) ?_
  refine get_1_4 C hw q_117 dX8_isOpen_1 ?_
  refine lv_iload_n hx hb dX8_isOpen_4 rfl (lv_at hl 1 rfl) ?_
  obtain ⟨hc, hf⟩ := hf_ck hf
  refine ld_15 C hw hc dX8_isOpen_5 ?_
  refine lv_iload_n hx hb dX8_isOpen_6 rfl (lv_at hl 2 rfl) ?_
  refine lv_icmp_gt (tgt := 34) hx hb dX8_isOpen_7 (by decide) (fun q => ?_) (fun q => ?_)
  · have hf := hf_t q hf
    refine lv_iconst (v := 0) hx hb dX8_isOpen_34 kc_0 ?_
    exact ret_z rfl C hw dX8_isOpen_35 hf
  · have hf := hf_f q hf
    refine lv_aload_n hx hb dX8_isOpen_10 rfl (lv_at hl 0 rfl) ?_
    refine get_1_7 C hw q_128 dX8_isOpen_11 ?_
    refine lv_iload_n hx hb dX8_isOpen_14 rfl (lv_at hl 1 rfl) ?_
    obtain ⟨hc, hf⟩ := hf_ck hf
    refine ld_18 C hw hc dX8_isOpen_15 ?_
    refine lv_iconst (v := -1) hx hb dX8_isOpen_16 kc_m1 ?_
    refine lv_icmp_eq (tgt := 30) hx hb dX8_isOpen_17 (by decide) (fun q => ?_) (fun q => ?_)
    · have hf := hf_t q hf
      refine lv_iconst (v := 1) hx hb dX8_isOpen_30 kc_1 ?_
      refine lv_goto (tgt := 35) hx hb dX8_isOpen_31 (by decide) ?_
      exact ret_z rfl C hw dX8_isOpen_35 hf
    · have hf := hf_f q hf
      refine lv_aload_n hx hb dX8_isOpen_20 rfl (lv_at hl 0 rfl) ?_
      refine get_1_7 C hw q_128 dX8_isOpen_21 ?_
      refine lv_iload_n hx hb dX8_isOpen_24 rfl (lv_at hl 1 rfl) ?_
      obtain ⟨hc, hf⟩ := hf_ck hf
      refine ld_18 C hw hc dX8_isOpen_25 ?_
      refine lv_iload_n hx hb dX8_isOpen_26 rfl (lv_at hl 2 rfl) ?_
      refine lv_icmp_le (tgt := 34) hx hb dX8_isOpen_27 (by decide) (fun q => ?_) (fun q => ?_)
      · have hf := hf_t q hf
        refine lv_iconst (v := 0) hx hb dX8_isOpen_34 kc_0 ?_
        exact ret_z rfl C hw dX8_isOpen_35 hf
      · have hf := hf_f q hf
        refine lv_iconst (v := 1) hx hb dX8_isOpen_30 kc_1 ?_
        refine lv_goto (tgt := 35) hx hb dX8_isOpen_31 (by decide) ?_
        exact ret_z rfl C hw dX8_isOpen_35 hf
end
theorem t_Sm_isOpen {l : Launch} {V : St} {S : St} {p1 : Int32} {p2 : Int32} {r : Int32} (hf : Sm_isOpen S p1 p2 = some r) : Ct l (wX V) yX8_isOpen cX8_isOpen 3 (some .boolean) 1 (fun E => [.ref (ea E 1), .int p1, .int p2]) S (fun E => some (.int r)) S :=
  ofBlock (by decide +kernel) (fun _ => Nat.le_of_ble_eq_true rfl) (fun E p e s m args below meth c ls C hw hl => w_Sm_isOpen C hw hl hf)
theorem dX8_isOverDue_0 : decode cX8_isOverDue 0 = .ok (.aload_n 0, 1) := by decide +kernel
theorem dX8_isOverDue_1 : decode cX8_isOverDue 1 = .ok (.iload_n 1, 1) := by decide +kernel
theorem dX8_isOverDue_2 : decode cX8_isOverDue 2 = .ok (.iload_n 2, 1) := by decide +kernel
theorem dX8_isOverDue_3 : decode cX8_isOverDue 3 = .ok (.invokevirtual 64, 3) := by decide +kernel
theorem dX8_isOverDue_6 : decode cX8_isOverDue 6 = .ok (.ifCond .eq 17, 3) := by decide +kernel
theorem dX8_isOverDue_9 : decode cX8_isOverDue 9 = .ok (.iload_n 2, 1) := by decide +kernel
theorem dX8_isOverDue_10 : decode cX8_isOverDue 10 = .ok (.aload_n 0, 1) := by decide +kernel
theorem dX8_isOverDue_11 : decode cX8_isOverDue 11 = .ok (.getfield 27, 3) := by decide +kernel
theorem dX8_isOverDue_14 : decode cX8_isOverDue 14 = .ok (.iload_n 1, 1) := by decide +kernel
theorem dX8_isOverDue_15 : decode cX8_isOverDue 15 = .ok (.iaload, 1) := by decide +kernel
theorem dX8_isOverDue_16 : decode cX8_isOverDue 16 = .ok (.if_icmp .le 7, 3) := by decide +kernel
theorem dX8_isOverDue_19 : decode cX8_isOverDue 19 = .ok (.iconst 1, 1) := by decide +kernel
theorem dX8_isOverDue_20 : decode cX8_isOverDue 20 = .ok (.goto 4, 3) := by decide +kernel
theorem dX8_isOverDue_23 : decode cX8_isOverDue 23 = .ok (.iconst 0, 1) := by decide +kernel
theorem dX8_isOverDue_24 : decode cX8_isOverDue 24 = .ok (.ireturn, 1) := by decide +kernel
section
variable {p : Program} {l : Launch} {e : Env} {s : State} {m : MethodId} {args : Array Value} {below : List Frame} {meth : Method} {c : Code} {H : Heap} {locs : List Loc} {E : Ev} {S V : St} {ls : Array Slot}
set_option maxRecDepth 20000 in
theorem w_Sm_isOverDue {p1 : Int32} {p2 : Int32} {r : Int32} (C : Cx p s m args meth c E cX8_isOverDue 3 RX8 (some .boolean)) (hw : Wd E (wX V E) s.heap S H locs) (hl : lv_has ls 3 [(0, .ref (ea E 1)), (1, .int p1), (2, .int p2)]) (hf : Sm_isOverDue S p1 p2 = some r) : W p l e (rmh 2) s m args below meth c H locs 0 0 (MQ below (QW E (wX V E) (some (.int r)) S) args s 0 0 (eA E)) (F0 m 0 ls []) := by
  have hx := C.1
  have hb := C.2.1
  unfold Sm_isOverDue at hf
  refine lv_aload_n hx hb dX8_isOverDue_0 rfl (lv_at hl 0 rfl) ?_
  refine lv_iload_n hx hb dX8_isOverDue_1 rfl (lv_at hl 1 rfl) ?_
  refine lv_iload_n hx hb dX8_isOverDue_2 rfl (lv_at hl 2 rfl) ?_
  obtain ⟨r1, hr, hf⟩ := hf_1 hf
  refine inv_Vi (q0 := 1) (ci := 8) (As := [.int p1, .int p2]) lk_X8_64 C hw rfl rfl rfl (t_Sm_isOpen hr) rfl hl.1 dX8_isOverDue_3 rfl (Nat.le_of_ble_eq_true rfl) (by decide) (Nat.le_of_ble_eq_true rfl) rfl (fun H locs hw => ?_)
  refine lv_if_eq (tgt := 23) hx hb dX8_isOverDue_6 (by decide) (fun q => ?_) (fun q => ?_)
  · have hf := hf_t q hf
    refine lv_iconst (v := 0) hx hb dX8_isOverDue_23 kc_0 ?_
    exact ret_z rfl C hw dX8_isOverDue_24 hf
  · have hf := hf_f q hf
    refine lv_iload_n hx hb dX8_isOverDue_9 rfl (lv_at hl 2 rfl) ?_
    refine lv_aload_n hx hb dX8_isOverDue_10 rfl (lv_at hl 0 rfl) ?_
    refine get_1_5 C hw q_120 dX8_isOverDue_11 ?_
    refine lv_iload_n hx hb dX8_isOverDue_14 rfl (lv_at hl 1 rfl) ?_
    obtain ⟨hc, hf⟩ := hf_ck hf
    refine ld_16 C hw hc dX8_isOverDue_15 ?_
    refine lv_icmp_le (tgt := 23) hx hb dX8_isOverDue_16 (by decide) (fun q => ?_) (fun q => ?_)
    · have hf := hf_t q hf
      refine lv_iconst (v := 0) hx hb dX8_isOverDue_23 kc_0 ?_
      exact ret_z rfl C hw dX8_isOverDue_24 hf
    · have hf := hf_f q hf
      refine lv_iconst (v := 1) hx hb dX8_isOverDue_19 kc_1 ?_
      refine lv_goto (tgt := 24) hx hb dX8_isOverDue_20 (by decide) ?_
      exact ret_z rfl C hw dX8_isOverDue_24 hf
end
theorem t_Sm_isOverDue {l : Launch} {V : St} {S : St} {p1 : Int32} {p2 : Int32} {r : Int32} (hf : Sm_isOverDue S p1 p2 = some r) : Ct l (wX V) yX8_isOverDue cX8_isOverDue 3 (some .boolean) 2 (fun E => [.ref (ea E 1), .int p1, .int p2]) S (fun E => some (.int r)) S :=
  ofBlock (by decide +kernel) (fun _ => Nat.le_of_ble_eq_true rfl) (fun E p e s m args below meth c ls C hw hl => w_Sm_isOverDue C hw hl hf)
theorem dX8_isTied_0 : decode cX8_isTied 0 = .ok (.aload_n 0, 1) := by decide +kernel
theorem dX8_isTied_1 : decode cX8_isTied 1 = .ok (.getfield 36, 3) := by decide +kernel
theorem dX8_isTied_4 : decode cX8_isTied 4 = .ok (.iload_n 1, 1) := by decide +kernel
theorem dX8_isTied_5 : decode cX8_isTied 5 = .ok (.iaload, 1) := by decide +kernel
theorem dX8_isTied_6 : decode cX8_isTied 6 = .ok (.iconst (-1), 1) := by decide +kernel
theorem dX8_isTied_7 : decode cX8_isTied 7 = .ok (.if_icmp .eq 7, 3) := by decide +kernel
theorem dX8_isTied_10 : decode cX8_isTied 10 = .ok (.iconst 1, 1) := by decide +kernel
theorem dX8_isTied_11 : decode cX8_isTied 11 = .ok (.goto 4, 3) := by decide +kernel
theorem dX8_isTied_14 : decode cX8_isTied 14 = .ok (.iconst 0, 1) := by decide +kernel
theorem dX8_isTied_15 : decode cX8_isTied 15 = .ok (.ireturn, 1) := by decide +kernel
section
variable {p : Program} {l : Launch} {e : Env} {s : State} {m : MethodId} {args : Array Value} {below : List Frame} {meth : Method} {c : Code} {H : Heap} {locs : List Loc} {E : Ev} {S V : St} {ls : Array Slot}
set_option maxRecDepth 20000 in
theorem w_Sm_isTied {p1 : Int32} {r : Int32} (C : Cx p s m args meth c E cX8_isTied 2 RX8 (some .boolean)) (hw : Wd E (wX V E) s.heap S H locs) (hl : lv_has ls 2 [(0, .ref (ea E 1)), (1, .int p1)]) (hf : Sm_isTied S p1 = some r) : W p l e (rmh 1) s m args below meth c H locs 0 0 (MQ below (QW E (wX V E) (some (.int r)) S) args s 0 0 (eA E)) (F0 m 0 ls []) := by
  have hx := C.1
  have hb := C.2.1
  unfold Sm_isTied at hf
  refine lv_aload_n hx hb dX8_isTied_0 rfl (lv_at hl 0 rfl) ?_
  refine get_1_8 C hw q_132 dX8_isTied_1 ?_
  refine lv_iload_n hx hb dX8_isTied_4 rfl (lv_at hl 1 rfl) ?_
  obtain ⟨hc, hf⟩ := hf_ck hf
  refine ld_19 C hw hc dX8_isTied_5 ?_
  refine lv_iconst (v := -1) hx hb dX8_isTied_6 kc_m1 ?_
  refine lv_icmp_eq (tgt := 14) hx hb dX8_isTied_7 (by decide) (fun q => ?_) (fun q => ?_)
  · have hf := hf_t q hf
    refine lv_iconst (v := 0) hx hb dX8_isTied_14 kc_0 ?_
    exact ret_z rfl C hw dX8_isTied_15 hf
  · have hf := hf_f q hf
    refine lv_iconst (v := 1) hx hb dX8_isTied_10 kc_1 ?_
    refine lv_goto (tgt := 15) hx hb dX8_isTied_11 (by decide) ?_
    exact ret_z rfl C hw dX8_isTied_15 hf
end
theorem t_Sm_isTied {l : Launch} {V : St} {S : St} {p1 : Int32} {r : Int32} (hf : Sm_isTied S p1 = some r) : Ct l (wX V) yX8_isTied cX8_isTied 2 (some .boolean) 1 (fun E => [.ref (ea E 1), .int p1]) S (fun E => some (.int r)) S :=
  ofBlock (by decide +kernel) (fun _ => Nat.le_of_ble_eq_true rfl) (fun E p e s m args below meth c ls C hw hl => w_Sm_isTied C hw hl hf)
theorem dX8_concerns_0 : decode cX8_concerns 0 = .ok (.aload_n 0, 1) := by decide +kernel
theorem dX8_concerns_1 : decode cX8_concerns 1 = .ok (.getfield 21, 3) := by decide +kernel
theorem dX8_concerns_4 : decode cX8_concerns 4 = .ok (.iload_n 1, 1) := by decide +kernel
theorem dX8_concerns_5 : decode cX8_concerns 5 = .ok (.iaload, 1) := by decide +kernel
theorem dX8_concerns_6 : decode cX8_concerns 6 = .ok (.iload_n 2, 1) := by decide +kernel
theorem dX8_concerns_7 : decode cX8_concerns 7 = .ok (.if_icmp .eq 13, 3) := by decide +kernel
theorem dX8_concerns_10 : decode cX8_concerns 10 = .ok (.aload_n 0, 1) := by decide +kernel
theorem dX8_concerns_11 : decode cX8_concerns 11 = .ok (.getfield 36, 3) := by decide +kernel
theorem dX8_concerns_14 : decode cX8_concerns 14 = .ok (.iload_n 1, 1) := by decide +kernel
theorem dX8_concerns_15 : decode cX8_concerns 15 = .ok (.iaload, 1) := by decide +kernel
theorem dX8_concerns_16 : decode cX8_concerns 16 = .ok (.iload_n 2, 1) := by decide +kernel
theorem dX8_concerns_17 : decode cX8_concerns 17 = .ok (.if_icmp .ne 7, 3) := by decide +kernel
theorem dX8_concerns_20 : decode cX8_concerns 20 = .ok (.iconst 1, 1) := by decide +kernel
theorem dX8_concerns_21 : decode cX8_concerns 21 = .ok (.goto 4, 3) := by decide +kernel
theorem dX8_concerns_24 : decode cX8_concerns 24 = .ok (.iconst 0, 1) := by decide +kernel
theorem dX8_concerns_25 : decode cX8_concerns 25 = .ok (.ireturn, 1) := by decide +kernel
section
variable {p : Program} {l : Launch} {e : Env} {s : State} {m : MethodId} {args : Array Value} {below : List Frame} {meth : Method} {c : Code} {H : Heap} {locs : List Loc} {E : Ev} {S V : St} {ls : Array Slot}
set_option maxRecDepth 20000 in
theorem w_Sm_concerns {p1 : Int32} {p2 : Int32} {r : Int32} (C : Cx p s m args meth c E cX8_concerns 3 RX8 (some .boolean)) (hw : Wd E (wX V E) s.heap S H locs) (hl : lv_has ls 3 [(0, .ref (ea E 1)), (1, .int p1), (2, .int p2)]) (hf : Sm_concerns S p1 p2 = some r) : W p l e (rmh 1) s m args below meth c H locs 0 0 (MQ below (QW E (wX V E) (some (.int r)) S) args s 0 0 (eA E)) (F0 m 0 ls []) := by
  have hx := C.1
  have hb := C.2.1
  unfold Sm_concerns at hf
  refine lv_aload_n hx hb dX8_concerns_0 rfl (lv_at hl 0 rfl) ?_
  refine get_1_3 C hw q_113 dX8_concerns_1 ?_
  refine lv_iload_n hx hb dX8_concerns_4 rfl (lv_at hl 1 rfl) ?_
  obtain ⟨hc, hf⟩ := hf_ck hf
  refine ld_14 C hw hc dX8_concerns_5 ?_
  refine lv_iload_n hx hb dX8_concerns_6 rfl (lv_at hl 2 rfl) ?_
  refine lv_icmp_eq (tgt := 20) hx hb dX8_concerns_7 (by decide) (fun q => ?_) (fun q => ?_)
  · have hf := hf_t q hf
    refine lv_iconst (v := 1) hx hb dX8_concerns_20 kc_1 ?_
    refine lv_goto (tgt := 25) hx hb dX8_concerns_21 (by decide) ?_
    exact ret_z rfl C hw dX8_concerns_25 hf
  · have hf := hf_f q hf
    refine lv_aload_n hx hb dX8_concerns_10 rfl (lv_at hl 0 rfl) ?_
    refine get_1_8 C hw q_132 dX8_concerns_11 ?_
    refine lv_iload_n hx hb dX8_concerns_14 rfl (lv_at hl 1 rfl) ?_
    obtain ⟨hc, hf⟩ := hf_ck hf
    refine ld_19 C hw hc dX8_concerns_15 ?_
    refine lv_iload_n hx hb dX8_concerns_16 rfl (lv_at hl 2 rfl) ?_
    refine lv_icmp_ne (tgt := 24) hx hb dX8_concerns_17 (by decide) (fun q => ?_) (fun q => ?_)
    · have hf := hf_f q hf
      refine lv_iconst (v := 0) hx hb dX8_concerns_24 kc_0 ?_
      exact ret_z rfl C hw dX8_concerns_25 hf
    · have hf := hf_t q hf
      refine lv_iconst (v := 1) hx hb dX8_concerns_20 kc_1 ?_
      refine lv_goto (tgt := 25) hx hb dX8_concerns_21 (by decide) ?_
      exact ret_z rfl C hw dX8_concerns_25 hf
end
theorem t_Sm_concerns {l : Launch} {V : St} {S : St} {p1 : Int32} {p2 : Int32} {r : Int32} (hf : Sm_concerns S p1 p2 = some r) : Ct l (wX V) yX8_concerns cX8_concerns 3 (some .boolean) 1 (fun E => [.ref (ea E 1), .int p1, .int p2]) S (fun E => some (.int r)) S :=
  ofBlock (by decide +kernel) (fun _ => Nat.le_of_ble_eq_true rfl) (fun E p e s m args below meth c ls C hw hl => w_Sm_concerns C hw hl hf)
theorem dX8_lengthOn_0 : decode cX8_lengthOn 0 = .ok (.aload_n 0, 1) := by decide +kernel
theorem dX8_lengthOn_1 : decode cX8_lengthOn 1 = .ok (.getfield 9, 3) := by decide +kernel
theorem dX8_lengthOn_4 : decode cX8_lengthOn 4 = .ok (.iload_n 1, 1) := by decide +kernel
theorem dX8_lengthOn_5 : decode cX8_lengthOn 5 = .ok (.iaload, 1) := by decide +kernel
theorem dX8_lengthOn_6 : decode cX8_lengthOn 6 = .ok (.istore_n 3, 1) := by decide +kernel
theorem dX8_lengthOn_7 : decode cX8_lengthOn 7 = .ok (.iconst 0, 1) := by decide +kernel
theorem dX8_lengthOn_8 : decode cX8_lengthOn 8 = .ok (.istore 4, 2) := by decide +kernel
theorem dX8_lengthOn_10 : decode cX8_lengthOn 10 = .ok (.iload 4, 2) := by decide +kernel
theorem dX8_lengthOn_12 : decode cX8_lengthOn 12 = .ok (.aload_n 0, 1) := by decide +kernel
theorem dX8_lengthOn_13 : decode cX8_lengthOn 13 = .ok (.getfield 43, 3) := by decide +kernel
theorem dX8_lengthOn_16 : decode cX8_lengthOn 16 = .ok (.if_icmp .ge 39, 3) := by decide +kernel
theorem dX8_lengthOn_19 : decode cX8_lengthOn 19 = .ok (.aload_n 0, 1) := by decide +kernel
theorem dX8_lengthOn_20 : decode cX8_lengthOn 20 = .ok (.iload 4, 2) := by decide +kernel
theorem dX8_lengthOn_22 : decode cX8_lengthOn 22 = .ok (.iload_n 1, 1) := by decide +kernel
theorem dX8_lengthOn_23 : decode cX8_lengthOn 23 = .ok (.invokevirtual 68, 3) := by decide +kernel
theorem dX8_lengthOn_26 : decode cX8_lengthOn 26 = .ok (.ifCond .eq 23, 3) := by decide +kernel
theorem dX8_lengthOn_29 : decode cX8_lengthOn 29 = .ok (.aload_n 0, 1) := by decide +kernel
theorem dX8_lengthOn_30 : decode cX8_lengthOn 30 = .ok (.iload 4, 2) := by decide +kernel
theorem dX8_lengthOn_32 : decode cX8_lengthOn 32 = .ok (.iload_n 2, 1) := by decide +kernel
theorem dX8_lengthOn_33 : decode cX8_lengthOn 33 = .ok (.invokevirtual 64, 3) := by decide +kernel
theorem dX8_lengthOn_36 : decode cX8_lengthOn 36 = .ok (.ifCond .eq 13, 3) := by decide +kernel
theorem dX8_lengthOn_39 : decode cX8_lengthOn 39 = .ok (.iload_n 3, 1) := by decide +kernel
theorem dX8_lengthOn_40 : decode cX8_lengthOn 40 = .ok (.aload_n 0, 1) := by decide +kernel
theorem dX8_lengthOn_41 : decode cX8_lengthOn 41 = .ok (.getfield 30, 3) := by decide +kernel
theorem dX8_lengthOn_44 : decode cX8_lengthOn 44 = .ok (.iload 4, 2) := by decide +kernel
theorem dX8_lengthOn_46 : decode cX8_lengthOn 46 = .ok (.iaload, 1) := by decide +kernel
theorem dX8_lengthOn_47 : decode cX8_lengthOn 47 = .ok (.iadd, 1) := by decide +kernel
theorem dX8_lengthOn_48 : decode cX8_lengthOn 48 = .ok (.istore_n 3, 1) := by decide +kernel
theorem dX8_lengthOn_49 : decode cX8_lengthOn 49 = .ok (.iinc 4 1, 3) := by decide +kernel
theorem dX8_lengthOn_52 : decode cX8_lengthOn 52 = .ok (.goto (-42), 3) := by decide +kernel
theorem dX8_lengthOn_55 : decode cX8_lengthOn 55 = .ok (.iload_n 3, 1) := by decide +kernel
theorem dX8_lengthOn_56 : decode cX8_lengthOn 56 = .ok (.ireturn, 1) := by decide +kernel
section
variable {p : Program} {l : Launch} {e : Env} {s : State} {m : MethodId} {args : Array Value} {below : List Frame} {meth : Method} {c : Code} {H : Heap} {locs : List Loc} {E : Ev} {S V : St} {ls : Array Slot}
set_option maxRecDepth 20000 in
theorem w_Sm_lengthOn_b10 {N : Nat} {k10 : (Int32 × Int32) → Option Int32} {l1 : Int32} {l2 : Int32} {l3 : Int32} {l4 : Int32} {r : Int32} (C : Cx p s m args meth c E cX8_lengthOn 5 RX8 (some .int)) (hk10 : ∀ x, k10 x = some r → ∀ (H : Heap) (locs : List Loc) (ls : Array Slot), Wd E (wX V E) s.heap S H locs → lv_has ls 5 [(0, .ref (ea E 1)), (1, .int l1), (2, .int l2), (3, .int x.1), (4, .int x.2)] → W p l e (rmh 2) s m args below meth c H locs 0 0 (MQ below (QW E (wX V E) (some (.int r)) S) args s 0 0 (eA E)) (F0 m 10 ls [])) (hw : Wd E (wX V E) s.heap S H locs) (hl : lv_has ls 5 [(0, .ref (ea E 1)), (1, .int l1), (2, .int l2), (3, .int l3), (4, .int l4)]) (hf : Sm_lengthOn_b10 N k10 S l1 l2 l3 l4 = some r) : W p l e (rmh 2) s m args below meth c H locs 0 0 (MQ below (QW E (wX V E) (some (.int r)) S) args s 0 0 (eA E)) (F0 m 10 ls []) := by
  have hx := C.1
  have hb := C.2.1
  unfold Sm_lengthOn_b10 at hf
  refine lv_iload hx hb dX8_lengthOn_10 (lv_at hl 4 rfl) ?_
  refine lv_aload_n hx hb dX8_lengthOn_12 rfl (lv_at hl 0 rfl) ?_
  refine get_1_10 C hw q_138 dX8_lengthOn_13 ?_
  refine lv_icmp_ge (tgt := 55) hx hb dX8_lengthOn_16 (by decide) (fun q => ?_) (fun q => ?_)
  · have hf := hf_t q hf
    refine lv_iload_n hx hb dX8_lengthOn_55 rfl (lv_at hl 3 rfl) ?_
    exact ret_i C hw dX8_lengthOn_56 hf
  · have hf := hf_f q hf
    refine lv_aload_n hx hb dX8_lengthOn_19 rfl (lv_at hl 0 rfl) ?_
    refine lv_iload hx hb dX8_lengthOn_20 (lv_at hl 4 rfl) ?_
    refine lv_iload_n hx hb dX8_lengthOn_22 rfl (lv_at hl 1 rfl) ?_
    obtain ⟨r1, hr, hf⟩ := hf_1 hf
    refine inv_Vi (q0 := 1) (ci := 8) (As := [.int l4, .int l1]) lk_X8_68 C hw rfl rfl rfl (t_Sm_concerns hr) rfl hl.1 dX8_lengthOn_23 rfl (Nat.le_of_ble_eq_true rfl) (by decide) (Nat.le_of_ble_eq_true rfl) rfl (fun H locs hw => ?_)
    refine lv_if_eq (tgt := 49) hx hb dX8_lengthOn_26 (by decide) (fun q => ?_) (fun q => ?_)
    · have hf := hf_t q hf
      obtain ⟨x2, ex2, hf⟩ := nme hf
      refine lv_iinc (v := x2) (lv' := [(4, .int x2), (0, .ref (ea E 1)), (1, .int l1), (2, .int l2), (3, .int l3)]) hx hb dX8_lengthOn_49 hl (k := 4) rfl (ki_1 ex2) (by decide) rfl (fun ls hl => ?_)
      refine lv_goto (tgt := 10) hx hb dX8_lengthOn_52 (by decide) ?_
      exact hk10 _ hf _ _ _ hw (lv_sub hl [1, 2, 3, 4, 0] rfl)
    · have hf := hf_f q hf
      refine lv_aload_n hx hb dX8_lengthOn_29 rfl (lv_at hl 0 rfl) ?_
      refine lv_iload hx hb dX8_lengthOn_30 (lv_at hl 4 rfl) ?_
      refine lv_iload_n hx hb dX8_lengthOn_32 rfl (lv_at hl 2 rfl) ?_
      obtain ⟨r3, hr, hf⟩ := hf_1 hf
      refine inv_Vi (q0 := 1) (ci := 8) (As := [.int l4, .int l2]) lk_X8_64 C hw rfl rfl rfl (t_Sm_isOpen hr) rfl hl.1 dX8_lengthOn_33 rfl (Nat.le_of_ble_eq_true rfl) (by decide) (Nat.le_of_ble_eq_true rfl) rfl (fun H locs hw => ?_)
      refine lv_if_eq (tgt := 49) hx hb dX8_lengthOn_36 (by decide) (fun q => ?_) (fun q => ?_)
      · have hf := hf_t q hf
        obtain ⟨x4, ex4, hf⟩ := nme hf
        refine lv_iinc (v := x4) (lv' := [(4, .int x4), (0, .ref (ea E 1)), (1, .int l1), (2, .int l2), (3, .int l3)]) hx hb dX8_lengthOn_49 hl (k := 4) rfl (ki_1 ex4) (by decide) rfl (fun ls hl => ?_)
        refine lv_goto (tgt := 10) hx hb dX8_lengthOn_52 (by decide) ?_
        exact hk10 _ hf _ _ _ hw (lv_sub hl [1, 2, 3, 4, 0] rfl)
      · have hf := hf_f q hf
        refine lv_iload_n hx hb dX8_lengthOn_39 rfl (lv_at hl 3 rfl) ?_
        refine lv_aload_n hx hb dX8_lengthOn_40 rfl (lv_at hl 0 rfl) ?_
        refine get_1_6 C hw q_123 dX8_lengthOn_41 ?_
        refine lv_iload hx hb dX8_lengthOn_44 (lv_at hl 4 rfl) ?_
        obtain ⟨hc, hf⟩ := hf_ck hf
        refine ld_17 C hw hc dX8_lengthOn_46 ?_
        refine lv_iadd hx hb dX8_lengthOn_47 ?_
        refine nm_i hf (fun x5 hf => ?_)
        refine lv_istore_n (lv' := [(3, .int x5), (0, .ref (ea E 1)), (1, .int l1), (2, .int l2), (4, .int l4)]) hx hb dX8_lengthOn_48 rfl hl (by decide) rfl (fun ls hl => ?_)
        obtain ⟨x6, ex6, hf⟩ := nme hf
        refine lv_iinc (v := x6) (lv' := [(4, .int x6), (3, .int x5), (0, .ref (ea E 1)), (1, .int l1), (2, .int l2)]) hx hb dX8_lengthOn_49 hl (k := 4) rfl (ki_1 ex6) (by decide) rfl (fun ls hl => ?_)
        refine lv_goto (tgt := 10) hx hb dX8_lengthOn_52 (by decide) ?_
        exact hk10 _ hf _ _ _ hw (lv_sub hl [2, 3, 4, 1, 0] rfl)
theorem w_Sm_lengthOn_L10 {N : Nat} {l1 : Int32} {l2 : Int32} {r : Int32} (C : Cx p s m args meth c E cX8_lengthOn 5 RX8 (some .int)) : ∀ x, Sm_lengthOn_L10 N S l1 l2 x = some r → ∀ (H : Heap) (locs : List Loc) (ls : Array Slot), Wd E (wX V E) s.heap S H locs → lv_has ls 5 [(0, .ref (ea E 1)), (1, .int l1), (2, .int l2), (3, .int x.1), (4, .int x.2)] → W p l e (rmh 2) s m args below meth c H locs 0 0 (MQ below (QW E (wX V E) (some (.int r)) S) args s 0 0 (eA E)) (F0 m 10 ls []) :=
  lp_W (fun k x hk hf H locs ls hw hl => w_Sm_lengthOn_b10 C hk hw hl hf) N
set_option maxRecDepth 20000 in
theorem w_Sm_lengthOn {N : Nat} {p1 : Int32} {p2 : Int32} {r : Int32} (C : Cx p s m args meth c E cX8_lengthOn 5 RX8 (some .int)) (hw : Wd E (wX V E) s.heap S H locs) (hl : lv_has ls 5 [(0, .ref (ea E 1)), (1, .int p1), (2, .int p2)]) (hf : Sm_lengthOn N S p1 p2 = some r) : W p l e (rmh 2) s m args below meth c H locs 0 0 (MQ below (QW E (wX V E) (some (.int r)) S) args s 0 0 (eA E)) (F0 m 0 ls []) := by
  have hx := C.1
  have hb := C.2.1
  unfold Sm_lengthOn at hf
  refine lv_aload_n hx hb dX8_lengthOn_0 rfl (lv_at hl 0 rfl) ?_
  refine get_1_0 C hw q_108 dX8_lengthOn_1 ?_
  refine lv_iload_n hx hb dX8_lengthOn_4 rfl (lv_at hl 1 rfl) ?_
  obtain ⟨hc, hf⟩ := hf_ck hf
  refine ld_11 C hw hc dX8_lengthOn_5 ?_
  refine nm_i hf (fun x1 hf => ?_)
  refine lv_istore_n (lv' := [(3, .int x1), (0, .ref (ea E 1)), (1, .int p1), (2, .int p2)]) hx hb dX8_lengthOn_6 rfl hl (by decide) rfl (fun ls hl => ?_)
  refine lv_iconst (v := 0) hx hb dX8_lengthOn_7 kc_0 ?_
  refine lv_istore (lv' := [(4, .int (0 : Int32)), (3, .int x1), (0, .ref (ea E 1)), (1, .int p1), (2, .int p2)]) hx hb dX8_lengthOn_8 hl (by decide) rfl (fun ls hl => ?_)
  exact w_Sm_lengthOn_L10 C _ hf _ _ _ hw (lv_sub hl [2, 3, 4, 1, 0] rfl)
end
theorem t_Sm_lengthOn {l : Launch} {V : St} {N : Nat} {S : St} {p1 : Int32} {p2 : Int32} {r : Int32} (hf : Sm_lengthOn N S p1 p2 = some r) : Ct l (wX V) yX8_lengthOn cX8_lengthOn 5 (some .int) 2 (fun E => [.ref (ea E 1), .int p1, .int p2]) S (fun E => some (.int r)) S :=
  ofBlock (by decide +kernel) (fun _ => Nat.le_of_ble_eq_true rfl) (fun E p e s m args below meth c ls C hw hl => w_Sm_lengthOn C hw hl hf)
theorem dX1_ofPromise_0 : decode cX1_ofPromise 0 = .ok (.aload_n 0, 1) := by decide +kernel
theorem dX1_ofPromise_1 : decode cX1_ofPromise 1 = .ok (.getfield 20, 3) := by decide +kernel
theorem dX1_ofPromise_4 : decode cX1_ofPromise 4 = .ok (.iload_n 1, 1) := by decide +kernel
theorem dX1_ofPromise_5 : decode cX1_ofPromise 5 = .ok (.iload_n 2, 1) := by decide +kernel
theorem dX1_ofPromise_6 : decode cX1_ofPromise 6 = .ok (.invokevirtual 32, 3) := by decide +kernel
theorem dX1_ofPromise_9 : decode cX1_ofPromise 9 = .ok (.ifCond .ne 5, 3) := by decide +kernel
theorem dX1_ofPromise_12 : decode cX1_ofPromise 12 = .ok (.iconst 0, 1) := by decide +kernel
theorem dX1_ofPromise_13 : decode cX1_ofPromise 13 = .ok (.ireturn, 1) := by decide +kernel
theorem dX1_ofPromise_14 : decode cX1_ofPromise 14 = .ok (.iload_n 2, 1) := by decide +kernel
theorem dX1_ofPromise_15 : decode cX1_ofPromise 15 = .ok (.aload_n 0, 1) := by decide +kernel
theorem dX1_ofPromise_16 : decode cX1_ofPromise 16 = .ok (.getfield 20, 3) := by decide +kernel
theorem dX1_ofPromise_19 : decode cX1_ofPromise 19 = .ok (.getfield 38, 3) := by decide +kernel
theorem dX1_ofPromise_22 : decode cX1_ofPromise 22 = .ok (.iload_n 1, 1) := by decide +kernel
theorem dX1_ofPromise_23 : decode cX1_ofPromise 23 = .ok (.iaload, 1) := by decide +kernel
theorem dX1_ofPromise_24 : decode cX1_ofPromise 24 = .ok (.isub, 1) := by decide +kernel
theorem dX1_ofPromise_25 : decode cX1_ofPromise 25 = .ok (.istore_n 3, 1) := by decide +kernel
theorem dX1_ofPromise_26 : decode cX1_ofPromise 26 = .ok (.iload_n 3, 1) := by decide +kernel
theorem dX1_ofPromise_27 : decode cX1_ofPromise 27 = .ok (.aload_n 0, 1) := by decide +kernel
theorem dX1_ofPromise_28 : decode cX1_ofPromise 28 = .ok (.getfield 20, 3) := by decide +kernel
theorem dX1_ofPromise_31 : decode cX1_ofPromise 31 = .ok (.getfield 42, 3) := by decide +kernel
theorem dX1_ofPromise_34 : decode cX1_ofPromise 34 = .ok (.iload_n 1, 1) := by decide +kernel
theorem dX1_ofPromise_35 : decode cX1_ofPromise 35 = .ok (.iaload, 1) := by decide +kernel
theorem dX1_ofPromise_36 : decode cX1_ofPromise 36 = .ok (.iadd, 1) := by decide +kernel
theorem dX1_ofPromise_37 : decode cX1_ofPromise 37 = .ok (.istore 4, 2) := by decide +kernel
theorem dX1_ofPromise_39 : decode cX1_ofPromise 39 = .ok (.aload_n 0, 1) := by decide +kernel
theorem dX1_ofPromise_40 : decode cX1_ofPromise 40 = .ok (.getfield 24, 3) := by decide +kernel
theorem dX1_ofPromise_43 : decode cX1_ofPromise 43 = .ok (.invokevirtual 45, 3) := by decide +kernel
theorem dX1_ofPromise_46 : decode cX1_ofPromise 46 = .ok (.ifCond .eq 70, 3) := by decide +kernel
theorem dX1_ofPromise_49 : decode cX1_ofPromise 49 = .ok (.aload_n 0, 1) := by decide +kernel
theorem dX1_ofPromise_50 : decode cX1_ofPromise 50 = .ok (.getfield 20, 3) := by decide +kernel
theorem dX1_ofPromise_53 : decode cX1_ofPromise 53 = .ok (.getfield 51, 3) := by decide +kernel
theorem dX1_ofPromise_56 : decode cX1_ofPromise 56 = .ok (.iload_n 1, 1) := by decide +kernel
theorem dX1_ofPromise_57 : decode cX1_ofPromise 57 = .ok (.iaload, 1) := by decide +kernel
theorem dX1_ofPromise_58 : decode cX1_ofPromise 58 = .ok (.istore 5, 2) := by decide +kernel
theorem dX1_ofPromise_60 : decode cX1_ofPromise 60 = .ok (.aload_n 0, 1) := by decide +kernel
theorem dX1_ofPromise_61 : decode cX1_ofPromise 61 = .ok (.getfield 24, 3) := by decide +kernel
theorem dX1_ofPromise_64 : decode cX1_ofPromise 64 = .ok (.iload_n 3, 1) := by decide +kernel
theorem dX1_ofPromise_65 : decode cX1_ofPromise 65 = .ok (.aload_n 0, 1) := by decide +kernel
theorem dX1_ofPromise_66 : decode cX1_ofPromise 66 = .ok (.getfield 20, 3) := by decide +kernel
theorem dX1_ofPromise_69 : decode cX1_ofPromise 69 = .ok (.getfield 42, 3) := by decide +kernel
theorem dX1_ofPromise_72 : decode cX1_ofPromise 72 = .ok (.iload_n 1, 1) := by decide +kernel
theorem dX1_ofPromise_73 : decode cX1_ofPromise 73 = .ok (.iaload, 1) := by decide +kernel
theorem dX1_ofPromise_74 : decode cX1_ofPromise 74 = .ok (.aload_n 0, 1) := by decide +kernel
theorem dX1_ofPromise_75 : decode cX1_ofPromise 75 = .ok (.getfield 20, 3) := by decide +kernel
theorem dX1_ofPromise_78 : decode cX1_ofPromise 78 = .ok (.iload 5, 2) := by decide +kernel
theorem dX1_ofPromise_80 : decode cX1_ofPromise 80 = .ok (.iload_n 2, 1) := by decide +kernel
theorem dX1_ofPromise_81 : decode cX1_ofPromise 81 = .ok (.invokevirtual 54, 3) := by decide +kernel
theorem dX1_ofPromise_84 : decode cX1_ofPromise 84 = .ok (.aload_n 0, 1) := by decide +kernel
theorem dX1_ofPromise_85 : decode cX1_ofPromise 85 = .ok (.getfield 20, 3) := by decide +kernel
theorem dX1_ofPromise_88 : decode cX1_ofPromise 88 = .ok (.getfield 58, 3) := by decide +kernel
theorem dX1_ofPromise_91 : decode cX1_ofPromise 91 = .ok (.iload 5, 2) := by decide +kernel
theorem dX1_ofPromise_93 : decode cX1_ofPromise 93 = .ok (.iaload, 1) := by decide +kernel
theorem dX1_ofPromise_94 : decode cX1_ofPromise 94 = .ok (.aload_n 0, 1) := by decide +kernel
theorem dX1_ofPromise_95 : decode cX1_ofPromise 95 = .ok (.getfield 20, 3) := by decide +kernel
theorem dX1_ofPromise_98 : decode cX1_ofPromise 98 = .ok (.iload_n 1, 1) := by decide +kernel
theorem dX1_ofPromise_99 : decode cX1_ofPromise 99 = .ok (.invokevirtual 61, 3) := by decide +kernel
theorem dX1_ofPromise_102 : decode cX1_ofPromise 102 = .ok (.ifCond .eq 7, 3) := by decide +kernel
theorem dX1_ofPromise_105 : decode cX1_ofPromise 105 = .ok (.iconst 1, 1) := by decide +kernel
theorem dX1_ofPromise_106 : decode cX1_ofPromise 106 = .ok (.goto 4, 3) := by decide +kernel
theorem dX1_ofPromise_109 : decode cX1_ofPromise 109 = .ok (.iconst 0, 1) := by decide +kernel
theorem dX1_ofPromise_110 : decode cX1_ofPromise 110 = .ok (.iload_n 1, 1) := by decide +kernel
theorem dX1_ofPromise_111 : decode cX1_ofPromise 111 = .ok (.invokevirtual 65, 3) := by decide +kernel
theorem dX1_ofPromise_114 : decode cX1_ofPromise 114 = .ok (.istore 4, 2) := by decide +kernel
theorem dX1_ofPromise_116 : decode cX1_ofPromise 116 = .ok (.iconst 0, 1) := by decide +kernel
theorem dX1_ofPromise_117 : decode cX1_ofPromise 117 = .ok (.bipush 99, 2) := by decide +kernel
theorem dX1_ofPromise_119 : decode cX1_ofPromise 119 = .ok (.iload 4, 2) := by decide +kernel
theorem dX1_ofPromise_121 : decode cX1_ofPromise 121 = .ok (.invokestatic 69, 3) := by decide +kernel
theorem dX1_ofPromise_124 : decode cX1_ofPromise 124 = .ok (.invokestatic 74, 3) := by decide +kernel
theorem dX1_ofPromise_127 : decode cX1_ofPromise 127 = .ok (.ireturn, 1) := by decide +kernel
section
variable {p : Program} {l : Launch} {e : Env} {s : State} {m : MethodId} {args : Array Value} {below : List Frame} {meth : Method} {c : Code} {H : Heap} {locs : List Loc} {E : Ev} {S V : St} {ls : Array Slot}
set_option maxRecDepth 20000 in
theorem w_Cr_ofPromise_b116 {N : Nat} {l4 : Int32} {r : Int32} {S9 : St} (C : Cx p s m args meth c E cX1_ofPromise 6 RX1 (some .int)) (hw : Wd E (wX V E) s.heap S H locs) (hl : lv_has ls 6 [(4, .int l4)]) (hf : Cr_ofPromise_b116 N S l4 = some (r, S9)) : W p l e (rmh 4) s m args below meth c H locs 0 0 (MQ below (QW E (wX V E) (some (.int r)) S9) args s 0 0 (eA E)) (F0 m 116 ls []) := by
  have hx := C.1
  have hb := C.2.1
  unfold Cr_ofPromise_b116 at hf
  refine lv_iconst (v := 0) hx hb dX1_ofPromise_116 kc_0 ?_
  refine lv_bipush (v := 99) hx hb dX1_ofPromise_117 kb_99 ?_
  refine lv_iload hx hb dX1_ofPromise_119 (lv_at hl 0 rfl) ?_
  obtain ⟨r1, hr, hf⟩ := hf_1 hf
  refine inv_Si (As := [.int (99 : Int32), .int l4]) lk_X1_69 C hw (t_Ma_min hr) hl.1 dX1_ofPromise_121 rfl (Nat.le_of_ble_eq_true rfl) (by decide) (Nat.le_of_ble_eq_true rfl) rfl (fun H locs hw => ?_)
  obtain ⟨r2, hr, hf⟩ := hf_1 hf
  refine inv_Si (As := [.int (0 : Int32), .int r1]) lk_X1_74 C hw (t_Ma_max hr) hl.1 dX1_ofPromise_124 rfl (Nat.le_of_ble_eq_true rfl) (by decide) (Nat.le_of_ble_eq_true rfl) rfl (fun H locs hw => ?_)
  exact ret_iS C hw dX1_ofPromise_127 hf
set_option maxRecDepth 20000 in
theorem w_Cr_ofPromise {N : Nat} {p1 : Int32} {p2 : Int32} {r : Int32} {S9 : St} (C : Cx p s m args meth c E cX1_ofPromise 6 RX1 (some .int)) (hw : Wd E (wX V E) s.heap S H locs) (hl : lv_has ls 6 [(0, .ref (ea E 6)), (1, .int p1), (2, .int p2)]) (hf : Cr_ofPromise N S p1 p2 = some (r, S9)) : W p l e (rmh 4) s m args below meth c H locs 0 0 (MQ below (QW E (wX V E) (some (.int r)) S9) args s 0 0 (eA E)) (F0 m 0 ls []) := by
  have hx := C.1
  have hb := C.2.1
  unfold Cr_ofPromise at hf
  refine lv_aload_n hx hb dX1_ofPromise_0 rfl (lv_at hl 0 rfl) ?_
  refine get_6_0 C hw q_332 dX1_ofPromise_1 ?_
  refine lv_iload_n hx hb dX1_ofPromise_4 rfl (lv_at hl 1 rfl) ?_
  refine lv_iload_n hx hb dX1_ofPromise_5 rfl (lv_at hl 2 rfl) ?_
  obtain ⟨r1, hr, hf⟩ := hf_1 hf
  refine inv_Vi (q0 := 1) (ci := 8) (As := [.int p1, .int p2]) lk_X1_32 C hw rfl rfl rfl (t_Sm_isOverDue hr) rfl hl.1 dX1_ofPromise_6 rfl (Nat.le_of_ble_eq_true rfl) (by decide) (Nat.le_of_ble_eq_true rfl) rfl (fun H locs hw => ?_)
  refine lv_if_ne (tgt := 14) hx hb dX1_ofPromise_9 (by decide) (fun q => ?_) (fun q => ?_)
  · have hf := hf_f q hf
    refine lv_iload_n hx hb dX1_ofPromise_14 rfl (lv_at hl 2 rfl) ?_
    refine lv_aload_n hx hb dX1_ofPromise_15 rfl (lv_at hl 0 rfl) ?_
    refine get_6_0 C hw q_332 dX1_ofPromise_16 ?_
    refine get_1_5 C hw q_121 dX1_ofPromise_19 ?_
    refine lv_iload_n hx hb dX1_ofPromise_22 rfl (lv_at hl 1 rfl) ?_
    obtain ⟨hc, hf⟩ := hf_ck hf
    refine ld_16 C hw hc dX1_ofPromise_23 ?_
    refine lv_isub hx hb dX1_ofPromise_24 ?_
    refine nm_i hf (fun x2 hf => ?_)
    refine lv_istore_n (lv' := [(3, .int x2), (0, .ref (ea E 6)), (1, .int p1), (2, .int p2)]) hx hb dX1_ofPromise_25 rfl hl (by decide) rfl (fun ls hl => ?_)
    refine lv_iload_n hx hb dX1_ofPromise_26 rfl (lv_at hl 0 rfl) ?_
    refine lv_aload_n hx hb dX1_ofPromise_27 rfl (lv_at hl 1 rfl) ?_
    refine get_6_0 C hw q_332 dX1_ofPromise_28 ?_
    refine get_1_6 C hw q_124 dX1_ofPromise_31 ?_
    refine lv_iload_n hx hb dX1_ofPromise_34 rfl (lv_at hl 2 rfl) ?_
    obtain ⟨hc, hf⟩ := hf_ck hf
    refine ld_17 C hw hc dX1_ofPromise_35 ?_
    refine lv_iadd hx hb dX1_ofPromise_36 ?_
    refine nm_i hf (fun x3 hf => ?_)
    refine lv_istore (lv' := [(4, .int x3), (3, .int x2), (0, .ref (ea E 6)), (1, .int p1), (2, .int p2)]) hx hb dX1_ofPromise_37 hl (by decide) rfl (fun ls hl => ?_)
    refine lv_aload_n hx hb dX1_ofPromise_39 rfl (lv_at hl 2 rfl) ?_
    refine get_6_1 C hw q_333 dX1_ofPromise_40 ?_
    obtain ⟨r4, hr, hf⟩ := hf_1 hf
    refine inv_Vi (q0 := 2) (ci := 5) (As := []) lk_X1_45 C hw rfl rfl rfl (t_La_hasText hr) rfl hl.1 dX1_ofPromise_43 rfl (Nat.le_of_ble_eq_true rfl) (by decide) (Nat.le_of_ble_eq_true rfl) rfl (fun H locs hw => ?_)
    refine lv_if_eq (tgt := 116) hx hb dX1_ofPromise_46 (by decide) (fun q => ?_) (fun q => ?_)
    · have hf := hf_t q hf
      exact w_Cr_ofPromise_b116 C hw (lv_sub hl [0] rfl) hf
    · have hf := hf_f q hf
      refine lv_aload_n hx hb dX1_ofPromise_49 rfl (lv_at hl 2 rfl) ?_
      refine get_6_0 C hw q_332 dX1_ofPromise_50 ?_
      refine get_1_3 C hw q_114 dX1_ofPromise_53 ?_
      refine lv_iload_n hx hb dX1_ofPromise_56 rfl (lv_at hl 3 rfl) ?_
      obtain ⟨hc, hf⟩ := hf_ck hf
      refine ld_14 C hw hc dX1_ofPromise_57 ?_
      refine nm_i hf (fun x5 hf => ?_)
      refine lv_istore (lv' := [(5, .int x5), (4, .int x3), (3, .int x2), (0, .ref (ea E 6)), (1, .int p1), (2, .int p2)]) hx hb dX1_ofPromise_58 hl (by decide) rfl (fun ls hl => ?_)
      refine lv_aload_n hx hb dX1_ofPromise_60 rfl (lv_at hl 3 rfl) ?_
      refine get_6_1 C hw q_333 dX1_ofPromise_61 ?_
      refine lv_iload_n hx hb dX1_ofPromise_64 rfl (lv_at hl 2 rfl) ?_
      refine lv_aload_n hx hb dX1_ofPromise_65 rfl (lv_at hl 3 rfl) ?_
      refine get_6_0 C hw q_332 dX1_ofPromise_66 ?_
      refine get_1_6 C hw q_124 dX1_ofPromise_69 ?_
      refine lv_iload_n hx hb dX1_ofPromise_72 rfl (lv_at hl 4 rfl) ?_
      obtain ⟨hc, hf⟩ := hf_ck hf
      refine ld_17 C hw hc dX1_ofPromise_73 ?_
      refine lv_aload_n hx hb dX1_ofPromise_74 rfl (lv_at hl 3 rfl) ?_
      refine get_6_0 C hw q_332 dX1_ofPromise_75 ?_
      refine lv_iload hx hb dX1_ofPromise_78 (lv_at hl 0 rfl) ?_
      refine lv_iload_n hx hb dX1_ofPromise_80 rfl (lv_at hl 5 rfl) ?_
      obtain ⟨r6, hr, hf⟩ := hf_1 hf
      refine inv_Vi (q0 := 1) (ci := 8) (As := [.int x5, .int p2]) lk_X1_54 C hw rfl rfl rfl (t_Sm_lengthOn hr) rfl hl.1 dX1_ofPromise_81 rfl (Nat.le_of_ble_eq_true rfl) (by decide) (Nat.le_of_ble_eq_true rfl) rfl (fun H locs hw => ?_)
      refine lv_aload_n hx hb dX1_ofPromise_84 rfl (lv_at hl 3 rfl) ?_
      refine get_6_0 C hw q_332 dX1_ofPromise_85 ?_
      refine get_1_1 C hw q_111 dX1_ofPromise_88 ?_
      refine lv_iload hx hb dX1_ofPromise_91 (lv_at hl 0 rfl) ?_
      obtain ⟨hc, hf⟩ := hf_ck hf
      refine ld_12 C hw hc dX1_ofPromise_93 ?_
      refine lv_aload_n hx hb dX1_ofPromise_94 rfl (lv_at hl 3 rfl) ?_
      refine get_6_0 C hw q_332 dX1_ofPromise_95 ?_
      refine lv_iload_n hx hb dX1_ofPromise_98 rfl (lv_at hl 4 rfl) ?_
      obtain ⟨r7, hr, hf⟩ := hf_1 hf
      refine inv_Vi (q0 := 1) (ci := 8) (As := [.int p1]) lk_X1_61 C hw rfl rfl rfl (t_Sm_isTied hr) rfl hl.1 dX1_ofPromise_99 rfl (Nat.le_of_ble_eq_true rfl) (by decide) (Nat.le_of_ble_eq_true rfl) rfl (fun H locs hw => ?_)
      refine lv_if_eq (tgt := 109) hx hb dX1_ofPromise_102 (by decide) (fun q => ?_) (fun q => ?_)
      · have hf := hf_t q hf
        refine lv_iconst (v := 0) hx hb dX1_ofPromise_109 kc_0 ?_
        refine lv_iload_n hx hb dX1_ofPromise_110 rfl (lv_at hl 4 rfl) ?_
        obtain ⟨r9, S8, hr, hf⟩ := hf_2 hf
        refine inv_Vi (q0 := 2) (ci := 5) (As := [.int x2, .int (gi S 17 p1.toNatClampNeg), .int r6, .int (gi S 12 x5.toNatClampNeg), .int (0 : Int32), .int p1]) lk_X1_65 C hw rfl rfl rfl (t_La_valueFor hr) rfl hl.1 dX1_ofPromise_111 rfl (Nat.le_of_ble_eq_true rfl) (by decide) (Nat.le_of_ble_eq_true rfl) rfl (fun H locs hw => ?_)
        refine lv_istore (lv' := [(4, .int r9), (5, .int x5), (3, .int x2), (0, .ref (ea E 6)), (1, .int p1), (2, .int p2)]) hx hb dX1_ofPromise_114 hl (by decide) rfl (fun ls hl => ?_)
        exact w_Cr_ofPromise_b116 C hw (lv_sub hl [0] rfl) hf
      · have hf := hf_f q hf
        refine lv_iconst (v := 1) hx hb dX1_ofPromise_105 kc_1 ?_
        refine lv_goto (tgt := 110) hx hb dX1_ofPromise_106 (by decide) ?_
        refine lv_iload_n hx hb dX1_ofPromise_110 rfl (lv_at hl 4 rfl) ?_
        obtain ⟨r11, S10, hr, hf⟩ := hf_2 hf
        refine inv_Vi (q0 := 2) (ci := 5) (As := [.int x2, .int (gi S 17 p1.toNatClampNeg), .int r6, .int (gi S 12 x5.toNatClampNeg), .int (1 : Int32), .int p1]) lk_X1_65 C hw rfl rfl rfl (t_La_valueFor hr) rfl hl.1 dX1_ofPromise_111 rfl (Nat.le_of_ble_eq_true rfl) (by decide) (Nat.le_of_ble_eq_true rfl) rfl (fun H locs hw => ?_)
        refine lv_istore (lv' := [(4, .int r11), (5, .int x5), (3, .int x2), (0, .ref (ea E 6)), (1, .int p1), (2, .int p2)]) hx hb dX1_ofPromise_114 hl (by decide) rfl (fun ls hl => ?_)
        exact w_Cr_ofPromise_b116 C hw (lv_sub hl [0] rfl) hf
  · have hf := hf_t q hf
    refine lv_iconst (v := 0) hx hb dX1_ofPromise_12 kc_0 ?_
    exact ret_iS C hw dX1_ofPromise_13 hf
end
theorem t_Cr_ofPromise {l : Launch} {V : St} {N : Nat} {S : St} {p1 : Int32} {p2 : Int32} {r : Int32} {S9 : St} (hf : Cr_ofPromise N S p1 p2 = some (r, S9)) : Ct l (wX V) yX1_ofPromise cX1_ofPromise 6 (some .int) 4 (fun E => [.ref (ea E 6), .int p1, .int p2]) S (fun E => some (.int r)) S9 :=
  ofBlock (by decide +kernel) (fun _ => Nat.le_of_ble_eq_true rfl) (fun E p e s m args below meth c ls C hw hl => w_Cr_ofPromise C hw hl hf)
theorem dX1_ofOne_0 : decode cX1_ofOne 0 = .ok (.iconst 0, 1) := by decide +kernel
theorem dX1_ofOne_1 : decode cX1_ofOne 1 = .ok (.istore_n 3, 1) := by decide +kernel
theorem dX1_ofOne_2 : decode cX1_ofOne 2 = .ok (.iconst 0, 1) := by decide +kernel
theorem dX1_ofOne_3 : decode cX1_ofOne 3 = .ok (.istore 4, 2) := by decide +kernel
theorem dX1_ofOne_5 : decode cX1_ofOne 5 = .ok (.iload 4, 2) := by decide +kernel
theorem dX1_ofOne_7 : decode cX1_ofOne 7 = .ok (.aload_n 0, 1) := by decide +kernel
theorem dX1_ofOne_8 : decode cX1_ofOne 8 = .ok (.getfield 20, 3) := by decide +kernel
theorem dX1_ofOne_11 : decode cX1_ofOne 11 = .ok (.getfield 77, 3) := by decide +kernel
theorem dX1_ofOne_14 : decode cX1_ofOne 14 = .ok (.if_icmp .ge 32, 3) := by decide +kernel
theorem dX1_ofOne_17 : decode cX1_ofOne 17 = .ok (.aload_n 0, 1) := by decide +kernel
theorem dX1_ofOne_18 : decode cX1_ofOne 18 = .ok (.getfield 20, 3) := by decide +kernel
theorem dX1_ofOne_21 : decode cX1_ofOne 21 = .ok (.iload 4, 2) := by decide +kernel
theorem dX1_ofOne_23 : decode cX1_ofOne 23 = .ok (.iload_n 1, 1) := by decide +kernel
theorem dX1_ofOne_24 : decode cX1_ofOne 24 = .ok (.invokevirtual 81, 3) := by decide +kernel
theorem dX1_ofOne_27 : decode cX1_ofOne 27 = .ok (.ifCond .eq 13, 3) := by decide +kernel
theorem dX1_ofOne_30 : decode cX1_ofOne 30 = .ok (.iload_n 3, 1) := by decide +kernel
theorem dX1_ofOne_31 : decode cX1_ofOne 31 = .ok (.aload_n 0, 1) := by decide +kernel
theorem dX1_ofOne_32 : decode cX1_ofOne 32 = .ok (.iload 4, 2) := by decide +kernel
theorem dX1_ofOne_34 : decode cX1_ofOne 34 = .ok (.iload_n 2, 1) := by decide +kernel
theorem dX1_ofOne_35 : decode cX1_ofOne 35 = .ok (.invokevirtual 84, 3) := by decide +kernel
theorem dX1_ofOne_38 : decode cX1_ofOne 38 = .ok (.iadd, 1) := by decide +kernel
theorem dX1_ofOne_39 : decode cX1_ofOne 39 = .ok (.istore_n 3, 1) := by decide +kernel
theorem dX1_ofOne_40 : decode cX1_ofOne 40 = .ok (.iinc 4 1, 3) := by decide +kernel
theorem dX1_ofOne_43 : decode cX1_ofOne 43 = .ok (.goto (-38), 3) := by decide +kernel
theorem dX1_ofOne_46 : decode cX1_ofOne 46 = .ok (.iload_n 3, 1) := by decide +kernel
theorem dX1_ofOne_47 : decode cX1_ofOne 47 = .ok (.ireturn, 1) := by decide +kernel
section
variable {p : Program} {l : Launch} {e : Env} {s : State} {m : MethodId} {args : Array Value} {below : List Frame} {meth : Method} {c : Code} {H : Heap} {locs : List Loc} {E : Ev} {S V : St} {ls : Array Slot}
set_option maxRecDepth 20000 in
theorem w_Cr_ofOne_b5 {N : Nat} {k5 : (St × Int32 × Int32) → Option (Int32 × St)} {l1 : Int32} {l2 : Int32} {l3 : Int32} {l4 : Int32} {r : Int32} {S9 : St} (C : Cx p s m args meth c E cX1_ofOne 5 RX1 (some .int)) (hk5 : ∀ x, k5 x = some (r, S9) → ∀ (H : Heap) (locs : List Loc) (ls : Array Slot), Wd E (wX V E) s.heap x.1 H locs → lv_has ls 5 [(0, .ref (ea E 6)), (1, .int l1), (2, .int l2), (3, .int x.2.1), (4, .int x.2.2)] → W p l e (rmh 5) s m args below meth c H locs 0 0 (MQ below (QW E (wX V E) (some (.int r)) S9) args s 0 0 (eA E)) (F0 m 5 ls [])) (hw : Wd E (wX V E) s.heap S H locs) (hl : lv_has ls 5 [(0, .ref (ea E 6)), (1, .int l1), (2, .int l2), (3, .int l3), (4, .int l4)]) (hf : Cr_ofOne_b5 N k5 S l1 l2 l3 l4 = some (r, S9)) : W p l e (rmh 5) s m args below meth c H locs 0 0 (MQ below (QW E (wX V E) (some (.int r)) S9) args s 0 0 (eA E)) (F0 m 5 ls []) := by
  have hx := C.1
  have hb := C.2.1
  unfold Cr_ofOne_b5 at hf
  refine lv_iload hx hb dX1_ofOne_5 (lv_at hl 4 rfl) ?_
  refine lv_aload_n hx hb dX1_ofOne_7 rfl (lv_at hl 0 rfl) ?_
  refine get_6_0 C hw q_332 dX1_ofOne_8 ?_
  refine get_1_10 C hw q_139 dX1_ofOne_11 ?_
  refine lv_icmp_ge (tgt := 46) hx hb dX1_ofOne_14 (by decide) (fun q => ?_) (fun q => ?_)
  · have hf := hf_t q hf
    refine lv_iload_n hx hb dX1_ofOne_46 rfl (lv_at hl 3 rfl) ?_
    exact ret_iS C hw dX1_ofOne_47 hf
  · have hf := hf_f q hf
    refine lv_aload_n hx hb dX1_ofOne_17 rfl (lv_at hl 0 rfl) ?_
    refine get_6_0 C hw q_332 dX1_ofOne_18 ?_
    refine lv_iload hx hb dX1_ofOne_21 (lv_at hl 4 rfl) ?_
    refine lv_iload_n hx hb dX1_ofOne_23 rfl (lv_at hl 1 rfl) ?_
    obtain ⟨r1, hr, hf⟩ := hf_1 hf
    refine inv_Vi (q0 := 1) (ci := 8) (As := [.int l4, .int l1]) lk_X1_81 C hw rfl rfl rfl (t_Sm_concerns hr) rfl hl.1 dX1_ofOne_24 rfl (Nat.le_of_ble_eq_true rfl) (by decide) (Nat.le_of_ble_eq_true rfl) rfl (fun H locs hw => ?_)
    refine lv_if_eq (tgt := 40) hx hb dX1_ofOne_27 (by decide) (fun q => ?_) (fun q => ?_)
    · have hf := hf_t q hf
      obtain ⟨x2, ex2, hf⟩ := nme hf
      refine lv_iinc (v := x2) (lv' := [(4, .int x2), (0, .ref (ea E 6)), (1, .int l1), (2, .int l2), (3, .int l3)]) hx hb dX1_ofOne_40 hl (k := 4) rfl (ki_1 ex2) (by decide) rfl (fun ls hl => ?_)
      refine lv_goto (tgt := 5) hx hb dX1_ofOne_43 (by decide) ?_
      exact hk5 _ hf _ _ _ hw (lv_sub hl [1, 2, 3, 4, 0] rfl)
    · have hf := hf_f q hf
      refine lv_iload_n hx hb dX1_ofOne_30 rfl (lv_at hl 3 rfl) ?_
      refine lv_aload_n hx hb dX1_ofOne_31 rfl (lv_at hl 0 rfl) ?_
      refine lv_iload hx hb dX1_ofOne_32 (lv_at hl 4 rfl) ?_
      refine lv_iload_n hx hb dX1_ofOne_34 rfl (lv_at hl 2 rfl) ?_
      obtain ⟨r4, S3, hr, hf⟩ := hf_2 hf
      refine inv_Vi (q0 := 6) (ci := 1) (As := [.int l4, .int l2]) lk_X1_84 C hw rfl rfl rfl (t_Cr_ofPromise hr) rfl hl.1 dX1_ofOne_35 rfl (Nat.le_of_ble_eq_true rfl) (by decide) (Nat.le_of_ble_eq_true rfl) rfl (fun H locs hw => ?_)
      refine lv_iadd hx hb dX1_ofOne_38 ?_
      refine nm_i hf (fun x5 hf => ?_)
      refine lv_istore_n (lv' := [(3, .int x5), (0, .ref (ea E 6)), (1, .int l1), (2, .int l2), (4, .int l4)]) hx hb dX1_ofOne_39 rfl hl (by decide) rfl (fun ls hl => ?_)
      obtain ⟨x6, ex6, hf⟩ := nme hf
      refine lv_iinc (v := x6) (lv' := [(4, .int x6), (3, .int x5), (0, .ref (ea E 6)), (1, .int l1), (2, .int l2)]) hx hb dX1_ofOne_40 hl (k := 4) rfl (ki_1 ex6) (by decide) rfl (fun ls hl => ?_)
      refine lv_goto (tgt := 5) hx hb dX1_ofOne_43 (by decide) ?_
      exact hk5 _ hf _ _ _ hw (lv_sub hl [2, 3, 4, 1, 0] rfl)
theorem w_Cr_ofOne_L5 {N : Nat} {l1 : Int32} {l2 : Int32} {r : Int32} {S9 : St} (C : Cx p s m args meth c E cX1_ofOne 5 RX1 (some .int)) : ∀ x, Cr_ofOne_L5 N l1 l2 x = some (r, S9) → ∀ (H : Heap) (locs : List Loc) (ls : Array Slot), Wd E (wX V E) s.heap x.1 H locs → lv_has ls 5 [(0, .ref (ea E 6)), (1, .int l1), (2, .int l2), (3, .int x.2.1), (4, .int x.2.2)] → W p l e (rmh 5) s m args below meth c H locs 0 0 (MQ below (QW E (wX V E) (some (.int r)) S9) args s 0 0 (eA E)) (F0 m 5 ls []) :=
  lp_W (fun k x hk hf H locs ls hw hl => w_Cr_ofOne_b5 C hk hw hl hf) N
set_option maxRecDepth 20000 in
theorem w_Cr_ofOne {N : Nat} {p1 : Int32} {p2 : Int32} {r : Int32} {S9 : St} (C : Cx p s m args meth c E cX1_ofOne 5 RX1 (some .int)) (hw : Wd E (wX V E) s.heap S H locs) (hl : lv_has ls 5 [(0, .ref (ea E 6)), (1, .int p1), (2, .int p2)]) (hf : Cr_ofOne N S p1 p2 = some (r, S9)) : W p l e (rmh 5) s m args below meth c H locs 0 0 (MQ below (QW E (wX V E) (some (.int r)) S9) args s 0 0 (eA E)) (F0 m 0 ls []) := by
  have hx := C.1
  have hb := C.2.1
  unfold Cr_ofOne at hf
  refine lv_iconst (v := 0) hx hb dX1_ofOne_0 kc_0 ?_
  refine lv_istore_n (lv' := [(3, .int (0 : Int32)), (0, .ref (ea E 6)), (1, .int p1), (2, .int p2)]) hx hb dX1_ofOne_1 rfl hl (by decide) rfl (fun ls hl => ?_)
  refine lv_iconst (v := 0) hx hb dX1_ofOne_2 kc_0 ?_
  refine lv_istore (lv' := [(4, .int (0 : Int32)), (3, .int (0 : Int32)), (0, .ref (ea E 6)), (1, .int p1), (2, .int p2)]) hx hb dX1_ofOne_3 hl (by decide) rfl (fun ls hl => ?_)
  exact w_Cr_ofOne_L5 C _ hf _ _ _ hw (lv_sub hl [2, 3, 4, 1, 0] rfl)
end
theorem t_Cr_ofOne {l : Launch} {V : St} {N : Nat} {S : St} {p1 : Int32} {p2 : Int32} {r : Int32} {S9 : St} (hf : Cr_ofOne N S p1 p2 = some (r, S9)) : Ct l (wX V) yX1_ofOne cX1_ofOne 5 (some .int) 5 (fun E => [.ref (ea E 6), .int p1, .int p2]) S (fun E => some (.int r)) S9 :=
  ofBlock (by decide +kernel) (fun _ => Nat.le_of_ble_eq_true rfl) (fun E p e s m args below meth c ls C hw hl => w_Cr_ofOne C hw hl hf)
theorem dX1_ofAll_0 : decode cX1_ofAll 0 = .ok (.iconst 0, 1) := by decide +kernel
theorem dX1_ofAll_1 : decode cX1_ofAll 1 = .ok (.istore_n 2, 1) := by decide +kernel
theorem dX1_ofAll_2 : decode cX1_ofAll 2 = .ok (.iconst 0, 1) := by decide +kernel
theorem dX1_ofAll_3 : decode cX1_ofAll 3 = .ok (.istore_n 3, 1) := by decide +kernel
theorem dX1_ofAll_4 : decode cX1_ofAll 4 = .ok (.iload_n 3, 1) := by decide +kernel
theorem dX1_ofAll_5 : decode cX1_ofAll 5 = .ok (.aload_n 0, 1) := by decide +kernel
theorem dX1_ofAll_6 : decode cX1_ofAll 6 = .ok (.getfield 20, 3) := by decide +kernel
theorem dX1_ofAll_9 : decode cX1_ofAll 9 = .ok (.getfield 77, 3) := by decide +kernel
theorem dX1_ofAll_12 : decode cX1_ofAll 12 = .ok (.if_icmp .ge 18, 3) := by decide +kernel
theorem dX1_ofAll_15 : decode cX1_ofAll 15 = .ok (.iload_n 2, 1) := by decide +kernel
theorem dX1_ofAll_16 : decode cX1_ofAll 16 = .ok (.aload_n 0, 1) := by decide +kernel
theorem dX1_ofAll_17 : decode cX1_ofAll 17 = .ok (.iload_n 3, 1) := by decide +kernel
theorem dX1_ofAll_18 : decode cX1_ofAll 18 = .ok (.iload_n 1, 1) := by decide +kernel
theorem dX1_ofAll_19 : decode cX1_ofAll 19 = .ok (.invokevirtual 84, 3) := by decide +kernel
theorem dX1_ofAll_22 : decode cX1_ofAll 22 = .ok (.iadd, 1) := by decide +kernel
theorem dX1_ofAll_23 : decode cX1_ofAll 23 = .ok (.istore_n 2, 1) := by decide +kernel
theorem dX1_ofAll_24 : decode cX1_ofAll 24 = .ok (.iinc 3 1, 3) := by decide +kernel
theorem dX1_ofAll_27 : decode cX1_ofAll 27 = .ok (.goto (-23), 3) := by decide +kernel
theorem dX1_ofAll_30 : decode cX1_ofAll 30 = .ok (.iload_n 2, 1) := by decide +kernel
theorem dX1_ofAll_31 : decode cX1_ofAll 31 = .ok (.ireturn, 1) := by decide +kernel
section
variable {p : Program} {l : Launch} {e : Env} {s : State} {m : MethodId} {args : Array Value} {below : List Frame} {meth : Method} {c : Code} {H : Heap} {locs : List Loc} {E : Ev} {S V : St} {ls : Array Slot}
set_option maxRecDepth 20000 in
theorem w_Cr_ofAll_b4 {N : Nat} {k4 : (St × Int32 × Int32) → Option (Int32 × St)} {l1 : Int32} {l2 : Int32} {l3 : Int32} {r : Int32} {S9 : St} (C : Cx p s m args meth c E cX1_ofAll 4 RX1 (some .int)) (hk4 : ∀ x, k4 x = some (r, S9) → ∀ (H : Heap) (locs : List Loc) (ls : Array Slot), Wd E (wX V E) s.heap x.1 H locs → lv_has ls 4 [(0, .ref (ea E 6)), (1, .int l1), (2, .int x.2.1), (3, .int x.2.2)] → W p l e (rmh 5) s m args below meth c H locs 0 0 (MQ below (QW E (wX V E) (some (.int r)) S9) args s 0 0 (eA E)) (F0 m 4 ls [])) (hw : Wd E (wX V E) s.heap S H locs) (hl : lv_has ls 4 [(0, .ref (ea E 6)), (1, .int l1), (2, .int l2), (3, .int l3)]) (hf : Cr_ofAll_b4 N k4 S l1 l2 l3 = some (r, S9)) : W p l e (rmh 5) s m args below meth c H locs 0 0 (MQ below (QW E (wX V E) (some (.int r)) S9) args s 0 0 (eA E)) (F0 m 4 ls []) := by
  have hx := C.1
  have hb := C.2.1
  unfold Cr_ofAll_b4 at hf
  refine lv_iload_n hx hb dX1_ofAll_4 rfl (lv_at hl 3 rfl) ?_
  refine lv_aload_n hx hb dX1_ofAll_5 rfl (lv_at hl 0 rfl) ?_
  refine get_6_0 C hw q_332 dX1_ofAll_6 ?_
  refine get_1_10 C hw q_139 dX1_ofAll_9 ?_
  refine lv_icmp_ge (tgt := 30) hx hb dX1_ofAll_12 (by decide) (fun q => ?_) (fun q => ?_)
  · have hf := hf_t q hf
    refine lv_iload_n hx hb dX1_ofAll_30 rfl (lv_at hl 2 rfl) ?_
    exact ret_iS C hw dX1_ofAll_31 hf
  · have hf := hf_f q hf
    refine lv_iload_n hx hb dX1_ofAll_15 rfl (lv_at hl 2 rfl) ?_
    refine lv_aload_n hx hb dX1_ofAll_16 rfl (lv_at hl 0 rfl) ?_
    refine lv_iload_n hx hb dX1_ofAll_17 rfl (lv_at hl 3 rfl) ?_
    refine lv_iload_n hx hb dX1_ofAll_18 rfl (lv_at hl 1 rfl) ?_
    obtain ⟨r2, S1, hr, hf⟩ := hf_2 hf
    refine inv_Vi (q0 := 6) (ci := 1) (As := [.int l3, .int l1]) lk_X1_84 C hw rfl rfl rfl (t_Cr_ofPromise hr) rfl hl.1 dX1_ofAll_19 rfl (Nat.le_of_ble_eq_true rfl) (by decide) (Nat.le_of_ble_eq_true rfl) rfl (fun H locs hw => ?_)
    refine lv_iadd hx hb dX1_ofAll_22 ?_
    refine nm_i hf (fun x3 hf => ?_)
    refine lv_istore_n (lv' := [(2, .int x3), (0, .ref (ea E 6)), (1, .int l1), (3, .int l3)]) hx hb dX1_ofAll_23 rfl hl (by decide) rfl (fun ls hl => ?_)
    obtain ⟨x4, ex4, hf⟩ := nme hf
    refine lv_iinc (v := x4) (lv' := [(3, .int x4), (2, .int x3), (0, .ref (ea E 6)), (1, .int l1)]) hx hb dX1_ofAll_24 hl (k := 3) rfl (ki_1 ex4) (by decide) rfl (fun ls hl => ?_)
    refine lv_goto (tgt := 4) hx hb dX1_ofAll_27 (by decide) ?_
    exact hk4 _ hf _ _ _ hw (lv_sub hl [2, 3, 1, 0] rfl)
theorem w_Cr_ofAll_L4 {N : Nat} {l1 : Int32} {r : Int32} {S9 : St} (C : Cx p s m args meth c E cX1_ofAll 4 RX1 (some .int)) : ∀ x, Cr_ofAll_L4 N l1 x = some (r, S9) → ∀ (H : Heap) (locs : List Loc) (ls : Array Slot), Wd E (wX V E) s.heap x.1 H locs → lv_has ls 4 [(0, .ref (ea E 6)), (1, .int l1), (2, .int x.2.1), (3, .int x.2.2)] → W p l e (rmh 5) s m args below meth c H locs 0 0 (MQ below (QW E (wX V E) (some (.int r)) S9) args s 0 0 (eA E)) (F0 m 4 ls []) :=
  lp_W (fun k x hk hf H locs ls hw hl => w_Cr_ofAll_b4 C hk hw hl hf) N
set_option maxRecDepth 20000 in
theorem w_Cr_ofAll {N : Nat} {p1 : Int32} {r : Int32} {S9 : St} (C : Cx p s m args meth c E cX1_ofAll 4 RX1 (some .int)) (hw : Wd E (wX V E) s.heap S H locs) (hl : lv_has ls 4 [(0, .ref (ea E 6)), (1, .int p1)]) (hf : Cr_ofAll N S p1 = some (r, S9)) : W p l e (rmh 5) s m args below meth c H locs 0 0 (MQ below (QW E (wX V E) (some (.int r)) S9) args s 0 0 (eA E)) (F0 m 0 ls []) := by
  have hx := C.1
  have hb := C.2.1
  unfold Cr_ofAll at hf
  refine lv_iconst (v := 0) hx hb dX1_ofAll_0 kc_0 ?_
  refine lv_istore_n (lv' := [(2, .int (0 : Int32)), (0, .ref (ea E 6)), (1, .int p1)]) hx hb dX1_ofAll_1 rfl hl (by decide) rfl (fun ls hl => ?_)
  refine lv_iconst (v := 0) hx hb dX1_ofAll_2 kc_0 ?_
  refine lv_istore_n (lv' := [(3, .int (0 : Int32)), (2, .int (0 : Int32)), (0, .ref (ea E 6)), (1, .int p1)]) hx hb dX1_ofAll_3 rfl hl (by decide) rfl (fun ls hl => ?_)
  exact w_Cr_ofAll_L4 C _ hf _ _ _ hw (lv_sub hl [2, 3, 1, 0] rfl)
end
theorem t_Cr_ofAll {l : Launch} {V : St} {N : Nat} {S : St} {p1 : Int32} {r : Int32} {S9 : St} (hf : Cr_ofAll N S p1 = some (r, S9)) : Ct l (wX V) yX1_ofAll cX1_ofAll 4 (some .int) 5 (fun E => [.ref (ea E 6), .int p1]) S (fun E => some (.int r)) S9 :=
  ofBlock (by decide +kernel) (fun _ => Nat.le_of_ble_eq_true rfl) (fun E p e s m args below meth c ls C hw hl => w_Cr_ofAll C hw hl hf)
theorem dX1_loudestDay_0 : decode cX1_loudestDay 0 = .ok (.iconst 0, 1) := by decide +kernel
theorem dX1_loudestDay_1 : decode cX1_loudestDay 1 = .ok (.istore_n 1, 1) := by decide +kernel
theorem dX1_loudestDay_2 : decode cX1_loudestDay 2 = .ok (.iconst 0, 1) := by decide +kernel
theorem dX1_loudestDay_3 : decode cX1_loudestDay 3 = .ok (.istore_n 2, 1) := by decide +kernel
theorem dX1_loudestDay_4 : decode cX1_loudestDay 4 = .ok (.iconst 0, 1) := by decide +kernel
theorem dX1_loudestDay_5 : decode cX1_loudestDay 5 = .ok (.istore_n 3, 1) := by decide +kernel
theorem dX1_loudestDay_6 : decode cX1_loudestDay 6 = .ok (.iload_n 3, 1) := by decide +kernel
theorem dX1_loudestDay_7 : decode cX1_loudestDay 7 = .ok (.bipush 100, 2) := by decide +kernel
theorem dX1_loudestDay_9 : decode cX1_loudestDay 9 = .ok (.if_icmp .ge 27, 3) := by decide +kernel
theorem dX1_loudestDay_12 : decode cX1_loudestDay 12 = .ok (.aload_n 0, 1) := by decide +kernel
theorem dX1_loudestDay_13 : decode cX1_loudestDay 13 = .ok (.iload_n 3, 1) := by decide +kernel
theorem dX1_loudestDay_14 : decode cX1_loudestDay 14 = .ok (.invokevirtual 87, 3) := by decide +kernel
theorem dX1_loudestDay_17 : decode cX1_loudestDay 17 = .ok (.istore 4, 2) := by decide +kernel
theorem dX1_loudestDay_19 : decode cX1_loudestDay 19 = .ok (.iload 4, 2) := by decide +kernel
theorem dX1_loudestDay_21 : decode cX1_loudestDay 21 = .ok (.iload_n 2, 1) := by decide +kernel
theorem dX1_loudestDay_22 : decode cX1_loudestDay 22 = .ok (.if_icmp .le 8, 3) := by decide +kernel
theorem dX1_loudestDay_25 : decode cX1_loudestDay 25 = .ok (.iload 4, 2) := by decide +kernel
theorem dX1_loudestDay_27 : decode cX1_loudestDay 27 = .ok (.istore_n 2, 1) := by decide +kernel
theorem dX1_loudestDay_28 : decode cX1_loudestDay 28 = .ok (.iload_n 3, 1) := by decide +kernel
theorem dX1_loudestDay_29 : decode cX1_loudestDay 29 = .ok (.istore_n 1, 1) := by decide +kernel
theorem dX1_loudestDay_30 : decode cX1_loudestDay 30 = .ok (.iinc 3 1, 3) := by decide +kernel
theorem dX1_loudestDay_33 : decode cX1_loudestDay 33 = .ok (.goto (-27), 3) := by decide +kernel
theorem dX1_loudestDay_36 : decode cX1_loudestDay 36 = .ok (.iload_n 1, 1) := by decide +kernel
theorem dX1_loudestDay_37 : decode cX1_loudestDay 37 = .ok (.ireturn, 1) := by decide +kernel
section
variable {p : Program} {l : Launch} {e : Env} {s : State} {m : MethodId} {args : Array Value} {below : List Frame} {meth : Method} {c : Code} {H : Heap} {locs : List Loc} {E : Ev} {S V : St} {ls : Array Slot}
set_option maxRecDepth 20000 in
theorem w_Cr_loudestDay_b6 {N : Nat} {k6 : (St × Int32 × Int32 × Int32) → Option (Int32 × St)} {l1 : Int32} {l2 : Int32} {l3 : Int32} {r : Int32} {S9 : St} (C : Cx p s m args meth c E cX1_loudestDay 5 RX1 (some .int)) (hk6 : ∀ x, k6 x = some (r, S9) → ∀ (H : Heap) (locs : List Loc) (ls : Array Slot), Wd E (wX V E) s.heap x.1 H locs → lv_has ls 5 [(0, .ref (ea E 6)), (1, .int x.2.1), (2, .int x.2.2.1), (3, .int x.2.2.2)] → W p l e (rmh 6) s m args below meth c H locs 0 0 (MQ below (QW E (wX V E) (some (.int r)) S9) args s 0 0 (eA E)) (F0 m 6 ls [])) (hw : Wd E (wX V E) s.heap S H locs) (hl : lv_has ls 5 [(0, .ref (ea E 6)), (1, .int l1), (2, .int l2), (3, .int l3)]) (hf : Cr_loudestDay_b6 N k6 S l1 l2 l3 = some (r, S9)) : W p l e (rmh 6) s m args below meth c H locs 0 0 (MQ below (QW E (wX V E) (some (.int r)) S9) args s 0 0 (eA E)) (F0 m 6 ls []) := by
  have hx := C.1
  have hb := C.2.1
  unfold Cr_loudestDay_b6 at hf
  refine lv_iload_n hx hb dX1_loudestDay_6 rfl (lv_at hl 3 rfl) ?_
  refine lv_bipush (v := 100) hx hb dX1_loudestDay_7 kb_100 ?_
  refine lv_icmp_ge (tgt := 36) hx hb dX1_loudestDay_9 (by decide) (fun q => ?_) (fun q => ?_)
  · have hf := hf_t q hf
    refine lv_iload_n hx hb dX1_loudestDay_36 rfl (lv_at hl 1 rfl) ?_
    exact ret_iS C hw dX1_loudestDay_37 hf
  · have hf := hf_f q hf
    refine lv_aload_n hx hb dX1_loudestDay_12 rfl (lv_at hl 0 rfl) ?_
    refine lv_iload_n hx hb dX1_loudestDay_13 rfl (lv_at hl 3 rfl) ?_
    obtain ⟨r2, S1, hr, hf⟩ := hf_2 hf
    refine inv_Vi (q0 := 6) (ci := 1) (As := [.int l3]) lk_X1_87 C hw rfl rfl rfl (t_Cr_ofAll hr) rfl hl.1 dX1_loudestDay_14 rfl (Nat.le_of_ble_eq_true rfl) (by decide) (Nat.le_of_ble_eq_true rfl) rfl (fun H locs hw => ?_)
    refine lv_istore (lv' := [(4, .int r2), (0, .ref (ea E 6)), (1, .int l1), (2, .int l2), (3, .int l3)]) hx hb dX1_loudestDay_17 hl (by decide) rfl (fun ls hl => ?_)
    refine lv_iload hx hb dX1_loudestDay_19 (lv_at hl 0 rfl) ?_
    refine lv_iload_n hx hb dX1_loudestDay_21 rfl (lv_at hl 3 rfl) ?_
    refine lv_icmp_le (tgt := 30) hx hb dX1_loudestDay_22 (by decide) (fun q => ?_) (fun q => ?_)
    · have hf := hf_t q hf
      obtain ⟨x3, ex3, hf⟩ := nme hf
      refine lv_iinc (v := x3) (lv' := [(3, .int x3), (4, .int r2), (0, .ref (ea E 6)), (1, .int l1), (2, .int l2)]) hx hb dX1_loudestDay_30 hl (k := 4) rfl (ki_1 ex3) (by decide) rfl (fun ls hl => ?_)
      refine lv_goto (tgt := 6) hx hb dX1_loudestDay_33 (by decide) ?_
      exact hk6 _ hf _ _ _ hw (lv_sub hl [2, 3, 4, 0] rfl)
    · have hf := hf_f q hf
      refine lv_iload hx hb dX1_loudestDay_25 (lv_at hl 0 rfl) ?_
      refine lv_istore_n (lv' := [(2, .int r2), (4, .int r2), (0, .ref (ea E 6)), (1, .int l1), (3, .int l3)]) hx hb dX1_loudestDay_27 rfl hl (by decide) rfl (fun ls hl => ?_)
      refine lv_iload_n hx hb dX1_loudestDay_28 rfl (lv_at hl 4 rfl) ?_
      refine lv_istore_n (lv' := [(1, .int l3), (2, .int r2), (4, .int r2), (0, .ref (ea E 6)), (3, .int l3)]) hx hb dX1_loudestDay_29 rfl hl (by decide) rfl (fun ls hl => ?_)
      obtain ⟨x4, ex4, hf⟩ := nme hf
      refine lv_iinc (v := x4) (lv' := [(3, .int x4), (1, .int l3), (2, .int r2), (4, .int r2), (0, .ref (ea E 6))]) hx hb dX1_loudestDay_30 hl (k := 4) rfl (ki_1 ex4) (by decide) rfl (fun ls hl => ?_)
      refine lv_goto (tgt := 6) hx hb dX1_loudestDay_33 (by decide) ?_
      exact hk6 _ hf _ _ _ hw (lv_sub hl [4, 1, 2, 0] rfl)
theorem w_Cr_loudestDay_L6 {N : Nat} {r : Int32} {S9 : St} (C : Cx p s m args meth c E cX1_loudestDay 5 RX1 (some .int)) : ∀ x, Cr_loudestDay_L6 N x = some (r, S9) → ∀ (H : Heap) (locs : List Loc) (ls : Array Slot), Wd E (wX V E) s.heap x.1 H locs → lv_has ls 5 [(0, .ref (ea E 6)), (1, .int x.2.1), (2, .int x.2.2.1), (3, .int x.2.2.2)] → W p l e (rmh 6) s m args below meth c H locs 0 0 (MQ below (QW E (wX V E) (some (.int r)) S9) args s 0 0 (eA E)) (F0 m 6 ls []) :=
  lp_W (fun k x hk hf H locs ls hw hl => w_Cr_loudestDay_b6 C hk hw hl hf) N
set_option maxRecDepth 20000 in
theorem w_Cr_loudestDay {N : Nat} {r : Int32} {S9 : St} (C : Cx p s m args meth c E cX1_loudestDay 5 RX1 (some .int)) (hw : Wd E (wX V E) s.heap S H locs) (hl : lv_has ls 5 [(0, .ref (ea E 6))]) (hf : Cr_loudestDay N S = some (r, S9)) : W p l e (rmh 6) s m args below meth c H locs 0 0 (MQ below (QW E (wX V E) (some (.int r)) S9) args s 0 0 (eA E)) (F0 m 0 ls []) := by
  have hx := C.1
  have hb := C.2.1
  unfold Cr_loudestDay at hf
  refine lv_iconst (v := 0) hx hb dX1_loudestDay_0 kc_0 ?_
  refine lv_istore_n (lv' := [(1, .int (0 : Int32)), (0, .ref (ea E 6))]) hx hb dX1_loudestDay_1 rfl hl (by decide) rfl (fun ls hl => ?_)
  refine lv_iconst (v := 0) hx hb dX1_loudestDay_2 kc_0 ?_
  refine lv_istore_n (lv' := [(2, .int (0 : Int32)), (1, .int (0 : Int32)), (0, .ref (ea E 6))]) hx hb dX1_loudestDay_3 rfl hl (by decide) rfl (fun ls hl => ?_)
  refine lv_iconst (v := 0) hx hb dX1_loudestDay_4 kc_0 ?_
  refine lv_istore_n (lv' := [(3, .int (0 : Int32)), (2, .int (0 : Int32)), (1, .int (0 : Int32)), (0, .ref (ea E 6))]) hx hb dX1_loudestDay_5 rfl hl (by decide) rfl (fun ls hl => ?_)
  exact w_Cr_loudestDay_L6 C _ hf _ _ _ hw (lv_sub hl [3, 2, 1, 0] rfl)
end
theorem t_Cr_loudestDay {l : Launch} {V : St} {N : Nat} {S : St} {r : Int32} {S9 : St} (hf : Cr_loudestDay N S = some (r, S9)) : Ct l (wX V) yX1_loudestDay cX1_loudestDay 5 (some .int) 6 (fun E => [.ref (ea E 6)]) S (fun E => some (.int r)) S9 :=
  ofBlock (by decide +kernel) (fun _ => Nat.le_of_ble_eq_true rfl) (fun E p e s m args below meth c ls C hw hl => w_Cr_loudestDay C hw hl hf)
theorem dX1_debtOf_0 : decode cX1_debtOf 0 = .ok (.iconst 0, 1) := by decide +kernel
theorem dX1_debtOf_1 : decode cX1_debtOf 1 = .ok (.istore_n 3, 1) := by decide +kernel
theorem dX1_debtOf_2 : decode cX1_debtOf 2 = .ok (.iconst 0, 1) := by decide +kernel
theorem dX1_debtOf_3 : decode cX1_debtOf 3 = .ok (.istore 4, 2) := by decide +kernel
theorem dX1_debtOf_5 : decode cX1_debtOf 5 = .ok (.iload 4, 2) := by decide +kernel
theorem dX1_debtOf_7 : decode cX1_debtOf 7 = .ok (.aload_n 0, 1) := by decide +kernel
theorem dX1_debtOf_8 : decode cX1_debtOf 8 = .ok (.getfield 20, 3) := by decide +kernel
theorem dX1_debtOf_11 : decode cX1_debtOf 11 = .ok (.getfield 77, 3) := by decide +kernel
theorem dX1_debtOf_14 : decode cX1_debtOf 14 = .ok (.if_icmp .ge 48, 3) := by decide +kernel
theorem dX1_debtOf_17 : decode cX1_debtOf 17 = .ok (.aload_n 0, 1) := by decide +kernel
theorem dX1_debtOf_18 : decode cX1_debtOf 18 = .ok (.getfield 20, 3) := by decide +kernel
theorem dX1_debtOf_21 : decode cX1_debtOf 21 = .ok (.iload 4, 2) := by decide +kernel
theorem dX1_debtOf_23 : decode cX1_debtOf 23 = .ok (.iload_n 1, 1) := by decide +kernel
theorem dX1_debtOf_24 : decode cX1_debtOf 24 = .ok (.invokevirtual 81, 3) := by decide +kernel
theorem dX1_debtOf_27 : decode cX1_debtOf 27 = .ok (.ifCond .eq 29, 3) := by decide +kernel
theorem dX1_debtOf_30 : decode cX1_debtOf 30 = .ok (.aload_n 0, 1) := by decide +kernel
theorem dX1_debtOf_31 : decode cX1_debtOf 31 = .ok (.getfield 20, 3) := by decide +kernel
theorem dX1_debtOf_34 : decode cX1_debtOf 34 = .ok (.iload 4, 2) := by decide +kernel
theorem dX1_debtOf_36 : decode cX1_debtOf 36 = .ok (.iload_n 2, 1) := by decide +kernel
theorem dX1_debtOf_37 : decode cX1_debtOf 37 = .ok (.invokevirtual 32, 3) := by decide +kernel
theorem dX1_debtOf_40 : decode cX1_debtOf 40 = .ok (.ifCond .eq 16, 3) := by decide +kernel
theorem dX1_debtOf_43 : decode cX1_debtOf 43 = .ok (.iload_n 3, 1) := by decide +kernel
theorem dX1_debtOf_44 : decode cX1_debtOf 44 = .ok (.aload_n 0, 1) := by decide +kernel
theorem dX1_debtOf_45 : decode cX1_debtOf 45 = .ok (.getfield 20, 3) := by decide +kernel
theorem dX1_debtOf_48 : decode cX1_debtOf 48 = .ok (.getfield 42, 3) := by decide +kernel
theorem dX1_debtOf_51 : decode cX1_debtOf 51 = .ok (.iload 4, 2) := by decide +kernel
theorem dX1_debtOf_53 : decode cX1_debtOf 53 = .ok (.iaload, 1) := by decide +kernel
theorem dX1_debtOf_54 : decode cX1_debtOf 54 = .ok (.iadd, 1) := by decide +kernel
theorem dX1_debtOf_55 : decode cX1_debtOf 55 = .ok (.istore_n 3, 1) := by decide +kernel
theorem dX1_debtOf_56 : decode cX1_debtOf 56 = .ok (.iinc 4 1, 3) := by decide +kernel
theorem dX1_debtOf_59 : decode cX1_debtOf 59 = .ok (.goto (-54), 3) := by decide +kernel
theorem dX1_debtOf_62 : decode cX1_debtOf 62 = .ok (.iload_n 3, 1) := by decide +kernel
theorem dX1_debtOf_63 : decode cX1_debtOf 63 = .ok (.ireturn, 1) := by decide +kernel
section
variable {p : Program} {l : Launch} {e : Env} {s : State} {m : MethodId} {args : Array Value} {below : List Frame} {meth : Method} {c : Code} {H : Heap} {locs : List Loc} {E : Ev} {S V : St} {ls : Array Slot}
set_option maxRecDepth 20000 in
theorem w_Cr_debtOf_b5 {N : Nat} {k5 : (Int32 × Int32) → Option Int32} {l1 : Int32} {l2 : Int32} {l3 : Int32} {l4 : Int32} {r : Int32} (C : Cx p s m args meth c E cX1_debtOf 5 RX1 (some .int)) (hk5 : ∀ x, k5 x = some r → ∀ (H : Heap) (locs : List Loc) (ls : Array Slot), Wd E (wX V E) s.heap S H locs → lv_has ls 5 [(0, .ref (ea E 6)), (1, .int l1), (2, .int l2), (3, .int x.1), (4, .int x.2)] → W p l e (rmh 3) s m args below meth c H locs 0 0 (MQ below (QW E (wX V E) (some (.int r)) S) args s 0 0 (eA E)) (F0 m 5 ls [])) (hw : Wd E (wX V E) s.heap S H locs) (hl : lv_has ls 5 [(0, .ref (ea E 6)), (1, .int l1), (2, .int l2), (3, .int l3), (4, .int l4)]) (hf : Cr_debtOf_b5 N k5 S l1 l2 l3 l4 = some r) : W p l e (rmh 3) s m args below meth c H locs 0 0 (MQ below (QW E (wX V E) (some (.int r)) S) args s 0 0 (eA E)) (F0 m 5 ls []) := by
  have hx := C.1
  have hb := C.2.1
  unfold Cr_debtOf_b5 at hf
  refine lv_iload hx hb dX1_debtOf_5 (lv_at hl 4 rfl) ?_
  refine lv_aload_n hx hb dX1_debtOf_7 rfl (lv_at hl 0 rfl) ?_
  refine get_6_0 C hw q_332 dX1_debtOf_8 ?_
  refine get_1_10 C hw q_139 dX1_debtOf_11 ?_
  refine lv_icmp_ge (tgt := 62) hx hb dX1_debtOf_14 (by decide) (fun q => ?_) (fun q => ?_)
  · have hf := hf_t q hf
    refine lv_iload_n hx hb dX1_debtOf_62 rfl (lv_at hl 3 rfl) ?_
    exact ret_i C hw dX1_debtOf_63 hf
  · have hf := hf_f q hf
    refine lv_aload_n hx hb dX1_debtOf_17 rfl (lv_at hl 0 rfl) ?_
    refine get_6_0 C hw q_332 dX1_debtOf_18 ?_
    refine lv_iload hx hb dX1_debtOf_21 (lv_at hl 4 rfl) ?_
    refine lv_iload_n hx hb dX1_debtOf_23 rfl (lv_at hl 1 rfl) ?_
    obtain ⟨r1, hr, hf⟩ := hf_1 hf
    refine inv_Vi (q0 := 1) (ci := 8) (As := [.int l4, .int l1]) lk_X1_81 C hw rfl rfl rfl (t_Sm_concerns hr) rfl hl.1 dX1_debtOf_24 rfl (Nat.le_of_ble_eq_true rfl) (by decide) (Nat.le_of_ble_eq_true rfl) rfl (fun H locs hw => ?_)
    refine lv_if_eq (tgt := 56) hx hb dX1_debtOf_27 (by decide) (fun q => ?_) (fun q => ?_)
    · have hf := hf_t q hf
      obtain ⟨x2, ex2, hf⟩ := nme hf
      refine lv_iinc (v := x2) (lv' := [(4, .int x2), (0, .ref (ea E 6)), (1, .int l1), (2, .int l2), (3, .int l3)]) hx hb dX1_debtOf_56 hl (k := 4) rfl (ki_1 ex2) (by decide) rfl (fun ls hl => ?_)
      refine lv_goto (tgt := 5) hx hb dX1_debtOf_59 (by decide) ?_
      exact hk5 _ hf _ _ _ hw (lv_sub hl [1, 2, 3, 4, 0] rfl)
    · have hf := hf_f q hf
      refine lv_aload_n hx hb dX1_debtOf_30 rfl (lv_at hl 0 rfl) ?_
      refine get_6_0 C hw q_332 dX1_debtOf_31 ?_
      refine lv_iload hx hb dX1_debtOf_34 (lv_at hl 4 rfl) ?_
      refine lv_iload_n hx hb dX1_debtOf_36 rfl (lv_at hl 2 rfl) ?_
      obtain ⟨r3, hr, hf⟩ := hf_1 hf
      refine inv_Vi (q0 := 1) (ci := 8) (As := [.int l4, .int l2]) lk_X1_32 C hw rfl rfl rfl (t_Sm_isOverDue hr) rfl hl.1 dX1_debtOf_37 rfl (Nat.le_of_ble_eq_true rfl) (by decide) (Nat.le_of_ble_eq_true rfl) rfl (fun H locs hw => ?_)
      refine lv_if_eq (tgt := 56) hx hb dX1_debtOf_40 (by decide) (fun q => ?_) (fun q => ?_)
      · have hf := hf_t q hf
        obtain ⟨x4, ex4, hf⟩ := nme hf
        refine lv_iinc (v := x4) (lv' := [(4, .int x4), (0, .ref (ea E 6)), (1, .int l1), (2, .int l2), (3, .int l3)]) hx hb dX1_debtOf_56 hl (k := 4) rfl (ki_1 ex4) (by decide) rfl (fun ls hl => ?_)
        refine lv_goto (tgt := 5) hx hb dX1_debtOf_59 (by decide) ?_
        exact hk5 _ hf _ _ _ hw (lv_sub hl [1, 2, 3, 4, 0] rfl)
      · have hf := hf_f q hf
        refine lv_iload_n hx hb dX1_debtOf_43 rfl (lv_at hl 3 rfl) ?_
        refine lv_aload_n hx hb dX1_debtOf_44 rfl (lv_at hl 0 rfl) ?_
        refine get_6_0 C hw q_332 dX1_debtOf_45 ?_
        refine get_1_6 C hw q_124 dX1_debtOf_48 ?_
        refine lv_iload hx hb dX1_debtOf_51 (lv_at hl 4 rfl) ?_
        obtain ⟨hc, hf⟩ := hf_ck hf
        refine ld_17 C hw hc dX1_debtOf_53 ?_
        refine lv_iadd hx hb dX1_debtOf_54 ?_
        refine nm_i hf (fun x5 hf => ?_)
        refine lv_istore_n (lv' := [(3, .int x5), (0, .ref (ea E 6)), (1, .int l1), (2, .int l2), (4, .int l4)]) hx hb dX1_debtOf_55 rfl hl (by decide) rfl (fun ls hl => ?_)
        obtain ⟨x6, ex6, hf⟩ := nme hf
        refine lv_iinc (v := x6) (lv' := [(4, .int x6), (3, .int x5), (0, .ref (ea E 6)), (1, .int l1), (2, .int l2)]) hx hb dX1_debtOf_56 hl (k := 4) rfl (ki_1 ex6) (by decide) rfl (fun ls hl => ?_)
        refine lv_goto (tgt := 5) hx hb dX1_debtOf_59 (by decide) ?_
        exact hk5 _ hf _ _ _ hw (lv_sub hl [2, 3, 4, 1, 0] rfl)
theorem w_Cr_debtOf_L5 {N : Nat} {l1 : Int32} {l2 : Int32} {r : Int32} (C : Cx p s m args meth c E cX1_debtOf 5 RX1 (some .int)) : ∀ x, Cr_debtOf_L5 N S l1 l2 x = some r → ∀ (H : Heap) (locs : List Loc) (ls : Array Slot), Wd E (wX V E) s.heap S H locs → lv_has ls 5 [(0, .ref (ea E 6)), (1, .int l1), (2, .int l2), (3, .int x.1), (4, .int x.2)] → W p l e (rmh 3) s m args below meth c H locs 0 0 (MQ below (QW E (wX V E) (some (.int r)) S) args s 0 0 (eA E)) (F0 m 5 ls []) :=
  lp_W (fun k x hk hf H locs ls hw hl => w_Cr_debtOf_b5 C hk hw hl hf) N
set_option maxRecDepth 20000 in
theorem w_Cr_debtOf {N : Nat} {p1 : Int32} {p2 : Int32} {r : Int32} (C : Cx p s m args meth c E cX1_debtOf 5 RX1 (some .int)) (hw : Wd E (wX V E) s.heap S H locs) (hl : lv_has ls 5 [(0, .ref (ea E 6)), (1, .int p1), (2, .int p2)]) (hf : Cr_debtOf N S p1 p2 = some r) : W p l e (rmh 3) s m args below meth c H locs 0 0 (MQ below (QW E (wX V E) (some (.int r)) S) args s 0 0 (eA E)) (F0 m 0 ls []) := by
  have hx := C.1
  have hb := C.2.1
  unfold Cr_debtOf at hf
  refine lv_iconst (v := 0) hx hb dX1_debtOf_0 kc_0 ?_
  refine lv_istore_n (lv' := [(3, .int (0 : Int32)), (0, .ref (ea E 6)), (1, .int p1), (2, .int p2)]) hx hb dX1_debtOf_1 rfl hl (by decide) rfl (fun ls hl => ?_)
  refine lv_iconst (v := 0) hx hb dX1_debtOf_2 kc_0 ?_
  refine lv_istore (lv' := [(4, .int (0 : Int32)), (3, .int (0 : Int32)), (0, .ref (ea E 6)), (1, .int p1), (2, .int p2)]) hx hb dX1_debtOf_3 hl (by decide) rfl (fun ls hl => ?_)
  exact w_Cr_debtOf_L5 C _ hf _ _ _ hw (lv_sub hl [2, 3, 4, 1, 0] rfl)
end
theorem t_Cr_debtOf {l : Launch} {V : St} {N : Nat} {S : St} {p1 : Int32} {p2 : Int32} {r : Int32} (hf : Cr_debtOf N S p1 p2 = some r) : Ct l (wX V) yX1_debtOf cX1_debtOf 5 (some .int) 3 (fun E => [.ref (ea E 6), .int p1, .int p2]) S (fun E => some (.int r)) S :=
  ofBlock (by decide +kernel) (fun _ => Nat.le_of_ble_eq_true rfl) (fun E p e s m args below meth c ls C hw hl => w_Cr_debtOf C hw hl hf)
theorem dX10_within_0 : decode cX10_within 0 = .ok (.iload_n 0, 1) := by decide +kernel
theorem dX10_within_1 : decode cX10_within 1 = .ok (.iload_n 1, 1) := by decide +kernel
theorem dX10_within_2 : decode cX10_within 2 = .ok (.if_icmp .lt 12, 3) := by decide +kernel
theorem dX10_within_5 : decode cX10_within 5 = .ok (.iload_n 0, 1) := by decide +kernel
theorem dX10_within_6 : decode cX10_within 6 = .ok (.iload_n 2, 1) := by decide +kernel
theorem dX10_within_7 : decode cX10_within 7 = .ok (.if_icmp .gt 7, 3) := by decide +kernel
theorem dX10_within_10 : decode cX10_within 10 = .ok (.iconst 1, 1) := by decide +kernel
theorem dX10_within_11 : decode cX10_within 11 = .ok (.goto 4, 3) := by decide +kernel
theorem dX10_within_14 : decode cX10_within 14 = .ok (.iconst 0, 1) := by decide +kernel
theorem dX10_within_15 : decode cX10_within 15 = .ok (.ireturn, 1) := by decide +kernel
section
variable {p : Program} {l : Launch} {e : Env} {s : State} {m : MethodId} {args : Array Value} {below : List Frame} {meth : Method} {c : Code} {H : Heap} {locs : List Loc} {E : Ev} {S V : St} {ls : Array Slot}
set_option maxRecDepth 20000 in
theorem w_Ch_within {p1 : Int32} {p2 : Int32} {p3 : Int32} {r : Int32} (C : Cx p s m args meth c E cX10_within 3 RX10 (some .boolean)) (hw : Wd E (wX V E) s.heap S H locs) (hl : lv_has ls 3 [(0, .int p1), (1, .int p2), (2, .int p3)]) (hf : Ch_within S p1 p2 p3 = some r) : W p l e (rmh 1) s m args below meth c H locs 0 0 (MQ below (QW E (wX V E) (some (.int r)) S) args s 0 0 (eA E)) (F0 m 0 ls []) := by
  have hx := C.1
  have hb := C.2.1
  unfold Ch_within at hf
  refine lv_iload_n hx hb dX10_within_0 rfl (lv_at hl 0 rfl) ?_
  refine lv_iload_n hx hb dX10_within_1 rfl (lv_at hl 1 rfl) ?_
  refine lv_icmp_lt (tgt := 14) hx hb dX10_within_2 (by decide) (fun q => ?_) (fun q => ?_)
  · have hf := hf_t q hf
    refine lv_iconst (v := 0) hx hb dX10_within_14 kc_0 ?_
    exact ret_z rfl C hw dX10_within_15 hf
  · have hf := hf_f q hf
    refine lv_iload_n hx hb dX10_within_5 rfl (lv_at hl 0 rfl) ?_
    refine lv_iload_n hx hb dX10_within_6 rfl (lv_at hl 2 rfl) ?_
    refine lv_icmp_gt (tgt := 14) hx hb dX10_within_7 (by decide) (fun q => ?_) (fun q => ?_)
    · have hf := hf_t q hf
      refine lv_iconst (v := 0) hx hb dX10_within_14 kc_0 ?_
      exact ret_z rfl C hw dX10_within_15 hf
    · have hf := hf_f q hf
      refine lv_iconst (v := 1) hx hb dX10_within_10 kc_1 ?_
      refine lv_goto (tgt := 15) hx hb dX10_within_11 (by decide) ?_
      exact ret_z rfl C hw dX10_within_15 hf
end
theorem t_Ch_within {l : Launch} {V : St} {S : St} {p1 : Int32} {p2 : Int32} {p3 : Int32} {r : Int32} (hf : Ch_within S p1 p2 p3 = some r) : Ct l (wX V) yX10_within cX10_within 3 (some .boolean) 1 (fun E => [.int p1, .int p2, .int p3]) S (fun E => some (.int r)) S :=
  ofBlock (by decide +kernel) (fun _ => Nat.le_of_ble_eq_true rfl) (fun E p e s m args below meth c ls C hw hl => w_Ch_within C hw hl hf)
theorem dX10_isDay_0 : decode cX10_isDay 0 = .ok (.iload_n 0, 1) := by decide +kernel
theorem dX10_isDay_1 : decode cX10_isDay 1 = .ok (.iconst 0, 1) := by decide +kernel
theorem dX10_isDay_2 : decode cX10_isDay 2 = .ok (.bipush 99, 2) := by decide +kernel
theorem dX10_isDay_4 : decode cX10_isDay 4 = .ok (.invokestatic 83, 3) := by decide +kernel
theorem dX10_isDay_7 : decode cX10_isDay 7 = .ok (.ireturn, 1) := by decide +kernel
section
variable {p : Program} {l : Launch} {e : Env} {s : State} {m : MethodId} {args : Array Value} {below : List Frame} {meth : Method} {c : Code} {H : Heap} {locs : List Loc} {E : Ev} {S V : St} {ls : Array Slot}
set_option maxRecDepth 20000 in
theorem w_Ch_isDay {p1 : Int32} {r : Int32} (C : Cx p s m args meth c E cX10_isDay 1 RX10 (some .boolean)) (hw : Wd E (wX V E) s.heap S H locs) (hl : lv_has ls 1 [(0, .int p1)]) (hf : Ch_isDay S p1 = some r) : W p l e (rmh 2) s m args below meth c H locs 0 0 (MQ below (QW E (wX V E) (some (.int r)) S) args s 0 0 (eA E)) (F0 m 0 ls []) := by
  have hx := C.1
  have hb := C.2.1
  unfold Ch_isDay at hf
  refine lv_iload_n hx hb dX10_isDay_0 rfl (lv_at hl 0 rfl) ?_
  refine lv_iconst (v := 0) hx hb dX10_isDay_1 kc_0 ?_
  refine lv_bipush (v := 99) hx hb dX10_isDay_2 kb_99 ?_
  obtain ⟨r1, hr, hf⟩ := hf_1 hf
  refine inv_Si (As := [.int p1, .int (0 : Int32), .int (99 : Int32)]) lk_X10_83 C hw (t_Ch_within hr) hl.1 dX10_isDay_4 rfl (Nat.le_of_ble_eq_true rfl) (by decide) (Nat.le_of_ble_eq_true rfl) rfl (fun H locs hw => ?_)
  obtain ⟨hcb, hf⟩ := hf_ck hf
  exact ret_z (isB_nar hcb) C hw dX10_isDay_7 hf
end
theorem t_Ch_isDay {l : Launch} {V : St} {S : St} {p1 : Int32} {r : Int32} (hf : Ch_isDay S p1 = some r) : Ct l (wX V) yX10_isDay cX10_isDay 1 (some .boolean) 2 (fun E => [.int p1]) S (fun E => some (.int r)) S :=
  ofBlock (by decide +kernel) (fun _ => Nat.le_of_ble_eq_true rfl) (fun E p e s m args below meth c ls C hw hl => w_Ch_isDay C hw hl hf)
theorem dX7_elementAt_0 : decode cX7_elementAt 0 = .ok (.aload_n 0, 1) := by decide +kernel
theorem dX7_elementAt_1 : decode cX7_elementAt 1 = .ok (.getfield 21, 3) := by decide +kernel
theorem dX7_elementAt_4 : decode cX7_elementAt 4 = .ok (.iload_n 1, 1) := by decide +kernel
theorem dX7_elementAt_5 : decode cX7_elementAt 5 = .ok (.bipush 60, 2) := by decide +kernel
theorem dX7_elementAt_7 : decode cX7_elementAt 7 = .ok (.imul, 1) := by decide +kernel
theorem dX7_elementAt_8 : decode cX7_elementAt 8 = .ok (.iload_n 2, 1) := by decide +kernel
theorem dX7_elementAt_9 : decode cX7_elementAt 9 = .ok (.iadd, 1) := by decide +kernel
theorem dX7_elementAt_10 : decode cX7_elementAt 10 = .ok (.laload, 1) := by decide +kernel
theorem dX7_elementAt_11 : decode cX7_elementAt 11 = .ok (.lreturn, 1) := by decide +kernel
section
variable {p : Program} {l : Launch} {e : Env} {s : State} {m : MethodId} {args : Array Value} {below : List Frame} {meth : Method} {c : Code} {H : Heap} {locs : List Loc} {E : Ev} {S V : St} {ls : Array Slot}
set_option maxRecDepth 20000 in
theorem w_Sh_elementAt {p1 : Int32} {p2 : Int32} {r : Int64} (C : Cx p s m args meth c E cX7_elementAt 3 RX7 (some .long)) (hw : Wd E (wX V E) s.heap S H locs) (hl : lv_has ls 3 [(0, .ref (ea E 10)), (1, .int p1), (2, .int p2)]) (hf : Sh_elementAt S p1 p2 = some r) : W p l e (rmh 1) s m args below meth c H locs 0 0 (MQ below (QW E (wX V E) (some (.long r)) S) args s 0 0 (eA E)) (F0 m 0 ls []) := by
  have hx := C.1
  have hb := C.2.1
  unfold Sh_elementAt at hf
  refine lv_aload_n hx hb dX7_elementAt_0 rfl (lv_at hl 0 rfl) ?_
  refine get_10_3 C hw q_220 dX7_elementAt_1 ?_
  refine lv_iload_n hx hb dX7_elementAt_4 rfl (lv_at hl 1 rfl) ?_
  refine lv_bipush (v := 60) hx hb dX7_elementAt_5 kb_60 ?_
  refine lv_imul hx hb dX7_elementAt_7 ?_
  refine lv_iload_n hx hb dX7_elementAt_8 rfl (lv_at hl 2 rfl) ?_
  refine lv_iadd hx hb dX7_elementAt_9 ?_
  obtain ⟨hc, hf⟩ := hf_ck hf
  refine ld_43 C hw hc dX7_elementAt_10 ?_
  exact ret_l C hw dX7_elementAt_11 hf
end
theorem t_Sh_elementAt {l : Launch} {V : St} {S : St} {p1 : Int32} {p2 : Int32} {r : Int64} (hf : Sh_elementAt S p1 p2 = some r) : Ct l (wX V) yX7_elementAt cX7_elementAt 3 (some .long) 1 (fun E => [.ref (ea E 10), .int p1, .int p2]) S (fun E => some (.long r)) S :=
  ofBlock (by decide +kernel) (fun _ => Nat.le_of_ble_eq_true rfl) (fun E p e s m args below meth c ls C hw hl => w_Sh_elementAt C hw hl hf)
