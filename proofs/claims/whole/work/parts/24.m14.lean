theorem dX11_promises_0 : decode cX11_promises 0 = .ok (.iload_n 1, 1) := by decide +kernel
theorem dX11_promises_1 : decode cX11_promises 1 = .ok (.invokestatic 114, 3) := by decide +kernel
theorem dX11_promises_4 : decode cX11_promises 4 = .ok (.ifCond .eq 15, 3) := by decide +kernel
theorem dX11_promises_7 : decode cX11_promises 7 = .ok (.iload_n 3, 1) := by decide +kernel
theorem dX11_promises_8 : decode cX11_promises 8 = .ok (.i2l, 1) := by decide +kernel
theorem dX11_promises_9 : decode cX11_promises 9 = .ok (.lconst 1, 1) := by decide +kernel
theorem dX11_promises_10 : decode cX11_promises 10 = .ok (.ldc2_w 118, 3) := by decide +kernel
theorem dX11_promises_13 : decode cX11_promises 13 = .ok (.invokestatic 84, 3) := by decide +kernel
theorem dX11_promises_16 : decode cX11_promises 16 = .ok (.ifCond .ne 5, 3) := by decide +kernel
theorem dX11_promises_19 : decode cX11_promises 19 = .ok (.iconst (-1), 1) := by decide +kernel
theorem dX11_promises_20 : decode cX11_promises 20 = .ok (.ireturn, 1) := by decide +kernel
theorem dX11_promises_21 : decode cX11_promises 21 = .ok (.aload_n 0, 1) := by decide +kernel
theorem dX11_promises_22 : decode cX11_promises 22 = .ok (.getfield 58, 3) := by decide +kernel
theorem dX11_promises_25 : decode cX11_promises 25 = .ok (.iload_n 1, 1) := by decide +kernel
theorem dX11_promises_26 : decode cX11_promises 26 = .ok (.iaload, 1) := by decide +kernel
theorem dX11_promises_27 : decode cX11_promises 27 = .ok (.ifCond .lt 17, 3) := by decide +kernel
theorem dX11_promises_30 : decode cX11_promises 30 = .ok (.aload_n 0, 1) := by decide +kernel
theorem dX11_promises_31 : decode cX11_promises 31 = .ok (.getfield 58, 3) := by decide +kernel
theorem dX11_promises_34 : decode cX11_promises 34 = .ok (.iload_n 1, 1) := by decide +kernel
theorem dX11_promises_35 : decode cX11_promises 35 = .ok (.iaload, 1) := by decide +kernel
theorem dX11_promises_36 : decode cX11_promises 36 = .ok (.bipush 50, 2) := by decide +kernel
theorem dX11_promises_38 : decode cX11_promises 38 = .ok (.if_icmp .eq 6, 3) := by decide +kernel
theorem dX11_promises_41 : decode cX11_promises 41 = .ok (.bipush (-12), 2) := by decide +kernel
theorem dX11_promises_43 : decode cX11_promises 43 = .ok (.ireturn, 1) := by decide +kernel
theorem dX11_promises_44 : decode cX11_promises 44 = .ok (.iconst 0, 1) := by decide +kernel
theorem dX11_promises_45 : decode cX11_promises 45 = .ok (.istore 4, 2) := by decide +kernel
theorem dX11_promises_47 : decode cX11_promises 47 = .ok (.aload_n 0, 1) := by decide +kernel
theorem dX11_promises_48 : decode cX11_promises 48 = .ok (.getfield 58, 3) := by decide +kernel
theorem dX11_promises_51 : decode cX11_promises 51 = .ok (.iload_n 1, 1) := by decide +kernel
theorem dX11_promises_52 : decode cX11_promises 52 = .ok (.iaload, 1) := by decide +kernel
theorem dX11_promises_53 : decode cX11_promises 53 = .ok (.bipush 50, 2) := by decide +kernel
theorem dX11_promises_55 : decode cX11_promises 55 = .ok (.if_icmp .ne 11, 3) := by decide +kernel
theorem dX11_promises_58 : decode cX11_promises 58 = .ok (.iload_n 2, 1) := by decide +kernel
theorem dX11_promises_59 : decode cX11_promises 59 = .ok (.ifCond .lt 7, 3) := by decide +kernel
theorem dX11_promises_62 : decode cX11_promises 62 = .ok (.iconst 1, 1) := by decide +kernel
theorem dX11_promises_63 : decode cX11_promises 63 = .ok (.goto 4, 3) := by decide +kernel
theorem dX11_promises_66 : decode cX11_promises 66 = .ok (.iconst 0, 1) := by decide +kernel
theorem dX11_promises_67 : decode cX11_promises 67 = .ok (.istore 5, 2) := by decide +kernel
theorem dX11_promises_69 : decode cX11_promises 69 = .ok (.iload 5, 2) := by decide +kernel
theorem dX11_promises_71 : decode cX11_promises 71 = .ok (.ifCond .eq 162, 3) := by decide +kernel
theorem dX11_promises_74 : decode cX11_promises 74 = .ok (.iload 4, 2) := by decide +kernel
theorem dX11_promises_76 : decode cX11_promises 76 = .ok (.iload_n 3, 1) := by decide +kernel
theorem dX11_promises_77 : decode cX11_promises 77 = .ok (.if_icmp .ge 156, 3) := by decide +kernel
theorem dX11_promises_80 : decode cX11_promises 80 = .ok (.iload_n 2, 1) := by decide +kernel
theorem dX11_promises_81 : decode cX11_promises 81 = .ok (.aload_n 0, 1) := by decide +kernel
theorem dX11_promises_82 : decode cX11_promises 82 = .ok (.getfield 61, 3) := by decide +kernel
theorem dX11_promises_85 : decode cX11_promises 85 = .ok (.iload_n 1, 1) := by decide +kernel
theorem dX11_promises_86 : decode cX11_promises 86 = .ok (.iaload, 1) := by decide +kernel
theorem dX11_promises_87 : decode cX11_promises 87 = .ok (.iconst 4, 1) := by decide +kernel
theorem dX11_promises_88 : decode cX11_promises 88 = .ok (.isub, 1) := by decide +kernel
theorem dX11_promises_89 : decode cX11_promises 89 = .ok (.iconst 4, 1) := by decide +kernel
theorem dX11_promises_90 : decode cX11_promises 90 = .ok (.iload 4, 2) := by decide +kernel
theorem dX11_promises_92 : decode cX11_promises 92 = .ok (.imul, 1) := by decide +kernel
theorem dX11_promises_93 : decode cX11_promises 93 = .ok (.isub, 1) := by decide +kernel
theorem dX11_promises_94 : decode cX11_promises 94 = .ok (.if_icmp .gt 16, 3) := by decide +kernel
theorem dX11_promises_97 : decode cX11_promises 97 = .ok (.aload_n 0, 1) := by decide +kernel
theorem dX11_promises_98 : decode cX11_promises 98 = .ok (.getfield 88, 3) := by decide +kernel
theorem dX11_promises_101 : decode cX11_promises 101 = .ok (.bipush 10, 2) := by decide +kernel
theorem dX11_promises_103 : decode cX11_promises 103 = .ok (.if_icmp .ge 7, 3) := by decide +kernel
theorem dX11_promises_106 : decode cX11_promises 106 = .ok (.iconst 1, 1) := by decide +kernel
theorem dX11_promises_107 : decode cX11_promises 107 = .ok (.goto 4, 3) := by decide +kernel
theorem dX11_promises_110 : decode cX11_promises 110 = .ok (.iconst 0, 1) := by decide +kernel
theorem dX11_promises_111 : decode cX11_promises 111 = .ok (.istore 5, 2) := by decide +kernel
theorem dX11_promises_113 : decode cX11_promises 113 = .ok (.bipush 60, 2) := by decide +kernel
theorem dX11_promises_115 : decode cX11_promises 115 = .ok (.iload_n 1, 1) := by decide +kernel
theorem dX11_promises_116 : decode cX11_promises 116 = .ok (.imul, 1) := by decide +kernel
theorem dX11_promises_117 : decode cX11_promises 117 = .ok (.iload_n 2, 1) := by decide +kernel
theorem dX11_promises_118 : decode cX11_promises 118 = .ok (.iadd, 1) := by decide +kernel
theorem dX11_promises_119 : decode cX11_promises 119 = .ok (.iconst 4, 1) := by decide +kernel
theorem dX11_promises_120 : decode cX11_promises 120 = .ok (.iload 4, 2) := by decide +kernel
theorem dX11_promises_122 : decode cX11_promises 122 = .ok (.imul, 1) := by decide +kernel
theorem dX11_promises_123 : decode cX11_promises 123 = .ok (.iadd, 1) := by decide +kernel
theorem dX11_promises_124 : decode cX11_promises 124 = .ok (.istore 6, 2) := by decide +kernel
theorem dX11_promises_126 : decode cX11_promises 126 = .ok (.iload 5, 2) := by decide +kernel
theorem dX11_promises_128 : decode cX11_promises 128 = .ok (.ifCond .eq 48, 3) := by decide +kernel
theorem dX11_promises_131 : decode cX11_promises 131 = .ok (.aload_n 0, 1) := by decide +kernel
theorem dX11_promises_132 : decode cX11_promises 132 = .ok (.aload_n 0, 1) := by decide +kernel
theorem dX11_promises_133 : decode cX11_promises 133 = .ok (.getfield 64, 3) := by decide +kernel
theorem dX11_promises_136 : decode cX11_promises 136 = .ok (.iload 6, 2) := by decide +kernel
theorem dX11_promises_138 : decode cX11_promises 138 = .ok (.laload, 1) := by decide +kernel
theorem dX11_promises_139 : decode cX11_promises 139 = .ok (.aload_n 0, 1) := by decide +kernel
theorem dX11_promises_140 : decode cX11_promises 140 = .ok (.getfield 64, 3) := by decide +kernel
theorem dX11_promises_143 : decode cX11_promises 143 = .ok (.iload 6, 2) := by decide +kernel
theorem dX11_promises_145 : decode cX11_promises 145 = .ok (.iconst 1, 1) := by decide +kernel
theorem dX11_promises_146 : decode cX11_promises 146 = .ok (.iadd, 1) := by decide +kernel
theorem dX11_promises_147 : decode cX11_promises 147 = .ok (.laload, 1) := by decide +kernel
theorem dX11_promises_148 : decode cX11_promises 148 = .ok (.aload_n 0, 1) := by decide +kernel
theorem dX11_promises_149 : decode cX11_promises 149 = .ok (.getfield 64, 3) := by decide +kernel
theorem dX11_promises_152 : decode cX11_promises 152 = .ok (.iload 6, 2) := by decide +kernel
theorem dX11_promises_154 : decode cX11_promises 154 = .ok (.iconst 2, 1) := by decide +kernel
theorem dX11_promises_155 : decode cX11_promises 155 = .ok (.iadd, 1) := by decide +kernel
theorem dX11_promises_156 : decode cX11_promises 156 = .ok (.laload, 1) := by decide +kernel
theorem dX11_promises_157 : decode cX11_promises 157 = .ok (.aload_n 0, 1) := by decide +kernel
theorem dX11_promises_158 : decode cX11_promises 158 = .ok (.getfield 64, 3) := by decide +kernel
theorem dX11_promises_161 : decode cX11_promises 161 = .ok (.iload 6, 2) := by decide +kernel
theorem dX11_promises_163 : decode cX11_promises 163 = .ok (.iconst 3, 1) := by decide +kernel
theorem dX11_promises_164 : decode cX11_promises 164 = .ok (.iadd, 1) := by decide +kernel
theorem dX11_promises_165 : decode cX11_promises 165 = .ok (.laload, 1) := by decide +kernel
theorem dX11_promises_166 : decode cX11_promises 166 = .ok (.invokevirtual 106, 3) := by decide +kernel
theorem dX11_promises_169 : decode cX11_promises 169 = .ok (.ifCond .eq 7, 3) := by decide +kernel
theorem dX11_promises_172 : decode cX11_promises 172 = .ok (.iconst 1, 1) := by decide +kernel
theorem dX11_promises_173 : decode cX11_promises 173 = .ok (.goto 4, 3) := by decide +kernel
theorem dX11_promises_176 : decode cX11_promises 176 = .ok (.iconst 0, 1) := by decide +kernel
theorem dX11_promises_177 : decode cX11_promises 177 = .ok (.istore 5, 2) := by decide +kernel
theorem dX11_promises_179 : decode cX11_promises 179 = .ok (.iload 5, 2) := by decide +kernel
theorem dX11_promises_181 : decode cX11_promises 181 = .ok (.ifCond .eq 49, 3) := by decide +kernel
theorem dX11_promises_184 : decode cX11_promises 184 = .ok (.aload_n 0, 1) := by decide +kernel
theorem dX11_promises_185 : decode cX11_promises 185 = .ok (.aload_n 0, 1) := by decide +kernel
theorem dX11_promises_186 : decode cX11_promises 186 = .ok (.getfield 64, 3) := by decide +kernel
theorem dX11_promises_189 : decode cX11_promises 189 = .ok (.iload 6, 2) := by decide +kernel
theorem dX11_promises_191 : decode cX11_promises 191 = .ok (.laload, 1) := by decide +kernel
theorem dX11_promises_192 : decode cX11_promises 192 = .ok (.l2i, 1) := by decide +kernel
theorem dX11_promises_193 : decode cX11_promises 193 = .ok (.aload_n 0, 1) := by decide +kernel
theorem dX11_promises_194 : decode cX11_promises 194 = .ok (.getfield 64, 3) := by decide +kernel
theorem dX11_promises_197 : decode cX11_promises 197 = .ok (.iload 6, 2) := by decide +kernel
theorem dX11_promises_199 : decode cX11_promises 199 = .ok (.iconst 1, 1) := by decide +kernel
theorem dX11_promises_200 : decode cX11_promises 200 = .ok (.iadd, 1) := by decide +kernel
theorem dX11_promises_201 : decode cX11_promises 201 = .ok (.laload, 1) := by decide +kernel
theorem dX11_promises_202 : decode cX11_promises 202 = .ok (.l2i, 1) := by decide +kernel
theorem dX11_promises_203 : decode cX11_promises 203 = .ok (.aload_n 0, 1) := by decide +kernel
theorem dX11_promises_204 : decode cX11_promises 204 = .ok (.getfield 64, 3) := by decide +kernel
theorem dX11_promises_207 : decode cX11_promises 207 = .ok (.iload 6, 2) := by decide +kernel
theorem dX11_promises_209 : decode cX11_promises 209 = .ok (.iconst 2, 1) := by decide +kernel
theorem dX11_promises_210 : decode cX11_promises 210 = .ok (.iadd, 1) := by decide +kernel
theorem dX11_promises_211 : decode cX11_promises 211 = .ok (.laload, 1) := by decide +kernel
theorem dX11_promises_212 : decode cX11_promises 212 = .ok (.l2i, 1) := by decide +kernel
theorem dX11_promises_213 : decode cX11_promises 213 = .ok (.aload_n 0, 1) := by decide +kernel
theorem dX11_promises_214 : decode cX11_promises 214 = .ok (.getfield 64, 3) := by decide +kernel
theorem dX11_promises_217 : decode cX11_promises 217 = .ok (.iload 6, 2) := by decide +kernel
theorem dX11_promises_219 : decode cX11_promises 219 = .ok (.iconst 3, 1) := by decide +kernel
theorem dX11_promises_220 : decode cX11_promises 220 = .ok (.iadd, 1) := by decide +kernel
theorem dX11_promises_221 : decode cX11_promises 221 = .ok (.laload, 1) := by decide +kernel
theorem dX11_promises_222 : decode cX11_promises 222 = .ok (.l2i, 1) := by decide +kernel
theorem dX11_promises_223 : decode cX11_promises 223 = .ok (.invokevirtual 110, 3) := by decide +kernel
theorem dX11_promises_226 : decode cX11_promises 226 = .ok (.pop, 1) := by decide +kernel
theorem dX11_promises_227 : decode cX11_promises 227 = .ok (.iinc 4 1, 3) := by decide +kernel
theorem dX11_promises_230 : decode cX11_promises 230 = .ok (.goto (-161), 3) := by decide +kernel
theorem dX11_promises_233 : decode cX11_promises 233 = .ok (.iload 4, 2) := by decide +kernel
theorem dX11_promises_235 : decode cX11_promises 235 = .ok (.ireturn, 1) := by decide +kernel
section
variable {p : Program} {l : Launch} {e : Env} {s : State} {m : MethodId} {args : Array Value} {below : List Frame} {meth : Method} {c : Code} {H : Heap} {locs : List Loc} {E : Ev} {S V : St} {ls : Array Slot}
set_option maxRecDepth 20000 in
theorem w_Mo_promises_b177 {N : Nat} {k69 : (St × Int32 × Int32) → Option (Int32 × St)} {l1 : Int32} {l2 : Int32} {l3 : Int32} {l4 : Int32} {l6 : Int32} {s0 : Int32} {r : Int32} {S9 : St} (C : Cx p s m args meth c E cX11_promises 7 RX11 (some .int)) (hk69 : ∀ x, k69 x = some (r, S9) → ∀ (H : Heap) (locs : List Loc) (ls : Array Slot), Wd E (wM V E) s.heap x.1 H locs → lv_has ls 7 [(0, .ref (ea E 44)), (1, .int l1), (2, .int l2), (3, .int l3), (4, .int x.2.1), (5, .int x.2.2)] → W p l e (rmh 4) s m args below meth c H locs 0 0 (MQ below (QW E (wM V E) (some (.int r)) S9) args s 0 0 (eA E)) (F0 m 69 ls [])) (hw : Wd E (wM V E) s.heap S H locs) (hl : lv_has ls 7 [(0, .ref (ea E 44)), (1, .int l1), (2, .int l2), (3, .int l3), (4, .int l4), (6, .int l6)]) (hf : Mo_promises_b177 N k69 S l1 l2 l3 l4 l6 s0 = some (r, S9)) : W p l e (rmh 4) s m args below meth c H locs 0 0 (MQ below (QW E (wM V E) (some (.int r)) S9) args s 0 0 (eA E)) (F0 m 177 ls [.int s0]) := by
  have hx := C.1
  have hb := C.2.1
  unfold Mo_promises_b177 at hf
  refine lv_istore (lv' := [(5, .int s0), (0, .ref (ea E 44)), (1, .int l1), (2, .int l2), (3, .int l3), (4, .int l4), (6, .int l6)]) hx hb dX11_promises_177 hl (by decide) rfl (fun ls hl => ?_)
  refine lv_iload hx hb dX11_promises_179 (lv_at hl 0 rfl) ?_
  refine lv_if_eq (tgt := 230) hx hb dX11_promises_181 (by decide) (fun q => ?_) (fun q => ?_)
  · have hf := hf_t q hf
    refine lv_goto (tgt := 69) hx hb dX11_promises_230 (by decide) ?_
    exact hk69 _ hf _ _ _ hw (lv_sub hl [1, 2, 3, 4, 5, 0] rfl)
  · have hf := hf_f q hf
    refine lv_aload_n hx hb dX11_promises_184 rfl (lv_at hl 1 rfl) ?_
    refine lv_aload_n hx hb dX11_promises_185 rfl (lv_at hl 1 rfl) ?_
    refine get_44_37 C hw q_1188 dX11_promises_186 ?_
    refine lv_iload hx hb dX11_promises_189 (lv_at hl 6 rfl) ?_
    obtain ⟨hc, hf⟩ := hf_ck hf
    refine ld_63 C hw hc dX11_promises_191 ?_
    refine lv_l2i hx hb dX11_promises_192 rfl ?_
    refine lv_aload_n hx hb dX11_promises_193 rfl (lv_at hl 1 rfl) ?_
    refine get_44_37 C hw q_1188 dX11_promises_194 ?_
    refine lv_iload hx hb dX11_promises_197 (lv_at hl 6 rfl) ?_
    refine lv_iconst (v := 1) hx hb dX11_promises_199 kc_1 ?_
    refine lv_iadd hx hb dX11_promises_200 ?_
    obtain ⟨hc, hf⟩ := hf_ck hf
    refine ld_63 C hw hc dX11_promises_201 ?_
    refine lv_l2i hx hb dX11_promises_202 rfl ?_
    refine lv_aload_n hx hb dX11_promises_203 rfl (lv_at hl 1 rfl) ?_
    refine get_44_37 C hw q_1188 dX11_promises_204 ?_
    refine lv_iload hx hb dX11_promises_207 (lv_at hl 6 rfl) ?_
    refine lv_iconst (v := 2) hx hb dX11_promises_209 kc_2 ?_
    refine lv_iadd hx hb dX11_promises_210 ?_
    obtain ⟨hc, hf⟩ := hf_ck hf
    refine ld_63 C hw hc dX11_promises_211 ?_
    refine lv_l2i hx hb dX11_promises_212 rfl ?_
    refine lv_aload_n hx hb dX11_promises_213 rfl (lv_at hl 1 rfl) ?_
    refine get_44_37 C hw q_1188 dX11_promises_214 ?_
    refine lv_iload hx hb dX11_promises_217 (lv_at hl 6 rfl) ?_
    refine lv_iconst (v := 3) hx hb dX11_promises_219 kc_3 ?_
    refine lv_iadd hx hb dX11_promises_220 ?_
    obtain ⟨hc, hf⟩ := hf_ck hf
    refine ld_63 C hw hc dX11_promises_221 ?_
    refine lv_l2i hx hb dX11_promises_222 rfl ?_
    obtain ⟨r2, S1, hr, hf⟩ := hf_2 hf
    refine inv_Vi (q0 := 44) (ci := 11) (As := [.int (Int64.toInt32 (gl S 63 l6.toNatClampNeg)), .int (Int64.toInt32 (gl S 63 (l6 + (1 : Int32)).toNatClampNeg)), .int (Int64.toInt32 (gl S 63 (l6 + (2 : Int32)).toNatClampNeg)), .int (Int64.toInt32 (gl S 63 (l6 + (3 : Int32)).toNatClampNeg))]) lk_X11_110 C hw rfl rfl rfl (t_Mo_adds hr) rfl hl.1 dX11_promises_223 rfl (Nat.le_of_ble_eq_true rfl) (by decide) (Nat.le_of_ble_eq_true rfl) rfl (fun H locs hw => ?_)
    refine lv_pop hx hb dX11_promises_226 rfl ?_
    obtain ⟨x3, ex3, hf⟩ := nme hf
    refine lv_iinc (v := x3) (lv' := [(4, .int x3), (5, .int s0), (0, .ref (ea E 44)), (1, .int l1), (2, .int l2), (3, .int l3), (6, .int l6)]) hx hb dX11_promises_227 hl (k := 5) rfl (ki_1 ex3) (by decide) rfl (fun ls hl => ?_)
    refine lv_goto (tgt := 69) hx hb dX11_promises_230 (by decide) ?_
    exact hk69 _ hf _ _ _ hw (lv_sub hl [2, 3, 4, 5, 0, 1] rfl)
set_option maxRecDepth 20000 in
theorem w_Mo_promises_b111 {N : Nat} {k69 : (St × Int32 × Int32) → Option (Int32 × St)} {l1 : Int32} {l2 : Int32} {l3 : Int32} {l4 : Int32} {s0 : Int32} {r : Int32} {S9 : St} (C : Cx p s m args meth c E cX11_promises 7 RX11 (some .int)) (hk69 : ∀ x, k69 x = some (r, S9) → ∀ (H : Heap) (locs : List Loc) (ls : Array Slot), Wd E (wM V E) s.heap x.1 H locs → lv_has ls 7 [(0, .ref (ea E 44)), (1, .int l1), (2, .int l2), (3, .int l3), (4, .int x.2.1), (5, .int x.2.2)] → W p l e (rmh 4) s m args below meth c H locs 0 0 (MQ below (QW E (wM V E) (some (.int r)) S9) args s 0 0 (eA E)) (F0 m 69 ls [])) (hw : Wd E (wM V E) s.heap S H locs) (hl : lv_has ls 7 [(0, .ref (ea E 44)), (1, .int l1), (2, .int l2), (3, .int l3), (4, .int l4)]) (hf : Mo_promises_b111 N k69 S l1 l2 l3 l4 s0 = some (r, S9)) : W p l e (rmh 4) s m args below meth c H locs 0 0 (MQ below (QW E (wM V E) (some (.int r)) S9) args s 0 0 (eA E)) (F0 m 111 ls [.int s0]) := by
  have hx := C.1
  have hb := C.2.1
  unfold Mo_promises_b111 at hf
  refine lv_istore (lv' := [(5, .int s0), (0, .ref (ea E 44)), (1, .int l1), (2, .int l2), (3, .int l3), (4, .int l4)]) hx hb dX11_promises_111 hl (by decide) rfl (fun ls hl => ?_)
  refine lv_bipush (v := 60) hx hb dX11_promises_113 kb_60 ?_
  refine lv_iload_n hx hb dX11_promises_115 rfl (lv_at hl 2 rfl) ?_
  refine lv_imul hx hb dX11_promises_116 ?_
  refine lv_iload_n hx hb dX11_promises_117 rfl (lv_at hl 3 rfl) ?_
  refine lv_iadd hx hb dX11_promises_118 ?_
  refine lv_iconst (v := 4) hx hb dX11_promises_119 kc_4 ?_
  refine lv_iload hx hb dX11_promises_120 (lv_at hl 5 rfl) ?_
  refine lv_imul hx hb dX11_promises_122 ?_
  refine lv_iadd hx hb dX11_promises_123 ?_
  refine nm_i hf (fun x1 hf => ?_)
  refine lv_istore (lv' := [(6, .int x1), (5, .int s0), (0, .ref (ea E 44)), (1, .int l1), (2, .int l2), (3, .int l3), (4, .int l4)]) hx hb dX11_promises_124 hl (by decide) rfl (fun ls hl => ?_)
  refine lv_iload hx hb dX11_promises_126 (lv_at hl 1 rfl) ?_
  refine lv_if_eq (tgt := 176) hx hb dX11_promises_128 (by decide) (fun q => ?_) (fun q => ?_)
  · have hf := hf_t q hf
    refine lv_iconst (v := 0) hx hb dX11_promises_176 kc_0 ?_
    exact w_Mo_promises_b177 C hk69 hw (lv_sub hl [2, 3, 4, 5, 6, 0] rfl) hf
  · have hf := hf_f q hf
    refine lv_aload_n hx hb dX11_promises_131 rfl (lv_at hl 2 rfl) ?_
    refine lv_aload_n hx hb dX11_promises_132 rfl (lv_at hl 2 rfl) ?_
    refine get_44_37 C hw q_1188 dX11_promises_133 ?_
    refine lv_iload hx hb dX11_promises_136 (lv_at hl 0 rfl) ?_
    obtain ⟨hc, hf⟩ := hf_ck hf
    refine ld_63 C hw hc dX11_promises_138 ?_
    refine lv_aload_n hx hb dX11_promises_139 rfl (lv_at hl 2 rfl) ?_
    refine get_44_37 C hw q_1188 dX11_promises_140 ?_
    refine lv_iload hx hb dX11_promises_143 (lv_at hl 0 rfl) ?_
    refine lv_iconst (v := 1) hx hb dX11_promises_145 kc_1 ?_
    refine lv_iadd hx hb dX11_promises_146 ?_
    obtain ⟨hc, hf⟩ := hf_ck hf
    refine ld_63 C hw hc dX11_promises_147 ?_
    refine lv_aload_n hx hb dX11_promises_148 rfl (lv_at hl 2 rfl) ?_
    refine get_44_37 C hw q_1188 dX11_promises_149 ?_
    refine lv_iload hx hb dX11_promises_152 (lv_at hl 0 rfl) ?_
    refine lv_iconst (v := 2) hx hb dX11_promises_154 kc_2 ?_
    refine lv_iadd hx hb dX11_promises_155 ?_
    obtain ⟨hc, hf⟩ := hf_ck hf
    refine ld_63 C hw hc dX11_promises_156 ?_
    refine lv_aload_n hx hb dX11_promises_157 rfl (lv_at hl 2 rfl) ?_
    refine get_44_37 C hw q_1188 dX11_promises_158 ?_
    refine lv_iload hx hb dX11_promises_161 (lv_at hl 0 rfl) ?_
    refine lv_iconst (v := 3) hx hb dX11_promises_163 kc_3 ?_
    refine lv_iadd hx hb dX11_promises_164 ?_
    obtain ⟨hc, hf⟩ := hf_ck hf
    refine ld_63 C hw hc dX11_promises_165 ?_
    obtain ⟨r2, hr, hf⟩ := hf_1 hf
    refine inv_Vi (q0 := 44) (ci := 11) (As := [.long (gl S 63 x1.toNatClampNeg), .long (gl S 63 (x1 + (1 : Int32)).toNatClampNeg), .long (gl S 63 (x1 + (2 : Int32)).toNatClampNeg), .long (gl S 63 (x1 + (3 : Int32)).toNatClampNeg)]) lk_X11_106 C hw rfl rfl rfl (t_Mo_mayCome hr) rfl hl.1 dX11_promises_166 rfl (Nat.le_of_ble_eq_true rfl) (by decide) (Nat.le_of_ble_eq_true rfl) rfl (fun H locs hw => ?_)
    refine lv_if_eq (tgt := 176) hx hb dX11_promises_169 (by decide) (fun q => ?_) (fun q => ?_)
    · have hf := hf_t q hf
      refine lv_iconst (v := 0) hx hb dX11_promises_176 kc_0 ?_
      exact w_Mo_promises_b177 C hk69 hw (lv_sub hl [2, 3, 4, 5, 6, 0] rfl) hf
    · have hf := hf_f q hf
      refine lv_iconst (v := 1) hx hb dX11_promises_172 kc_1 ?_
      refine lv_goto (tgt := 177) hx hb dX11_promises_173 (by decide) ?_
      exact w_Mo_promises_b177 C hk69 hw (lv_sub hl [2, 3, 4, 5, 6, 0] rfl) hf
set_option maxRecDepth 20000 in
theorem w_Mo_promises_b69 {N : Nat} {k69 : (St × Int32 × Int32) → Option (Int32 × St)} {l1 : Int32} {l2 : Int32} {l3 : Int32} {l4 : Int32} {l5 : Int32} {r : Int32} {S9 : St} (C : Cx p s m args meth c E cX11_promises 7 RX11 (some .int)) (hk69 : ∀ x, k69 x = some (r, S9) → ∀ (H : Heap) (locs : List Loc) (ls : Array Slot), Wd E (wM V E) s.heap x.1 H locs → lv_has ls 7 [(0, .ref (ea E 44)), (1, .int l1), (2, .int l2), (3, .int l3), (4, .int x.2.1), (5, .int x.2.2)] → W p l e (rmh 4) s m args below meth c H locs 0 0 (MQ below (QW E (wM V E) (some (.int r)) S9) args s 0 0 (eA E)) (F0 m 69 ls [])) (hw : Wd E (wM V E) s.heap S H locs) (hl : lv_has ls 7 [(0, .ref (ea E 44)), (1, .int l1), (2, .int l2), (3, .int l3), (4, .int l4), (5, .int l5)]) (hf : Mo_promises_b69 N k69 S l1 l2 l3 l4 l5 = some (r, S9)) : W p l e (rmh 4) s m args below meth c H locs 0 0 (MQ below (QW E (wM V E) (some (.int r)) S9) args s 0 0 (eA E)) (F0 m 69 ls []) := by
  have hx := C.1
  have hb := C.2.1
  unfold Mo_promises_b69 at hf
  refine lv_iload hx hb dX11_promises_69 (lv_at hl 5 rfl) ?_
  refine lv_if_eq (tgt := 233) hx hb dX11_promises_71 (by decide) (fun q => ?_) (fun q => ?_)
  · have hf := hf_t q hf
    refine lv_iload hx hb dX11_promises_233 (lv_at hl 4 rfl) ?_
    exact ret_iS C hw dX11_promises_235 hf
  · have hf := hf_f q hf
    refine lv_iload hx hb dX11_promises_74 (lv_at hl 4 rfl) ?_
    refine lv_iload_n hx hb dX11_promises_76 rfl (lv_at hl 3 rfl) ?_
    refine lv_icmp_ge (tgt := 233) hx hb dX11_promises_77 (by decide) (fun q => ?_) (fun q => ?_)
    · have hf := hf_t q hf
      refine lv_iload hx hb dX11_promises_233 (lv_at hl 4 rfl) ?_
      exact ret_iS C hw dX11_promises_235 hf
    · have hf := hf_f q hf
      refine lv_iload_n hx hb dX11_promises_80 rfl (lv_at hl 2 rfl) ?_
      refine lv_aload_n hx hb dX11_promises_81 rfl (lv_at hl 0 rfl) ?_
      refine get_44_36 C hw q_1187 dX11_promises_82 ?_
      refine lv_iload_n hx hb dX11_promises_85 rfl (lv_at hl 1 rfl) ?_
      obtain ⟨hc, hf⟩ := hf_ck hf
      refine ld_62 C hw hc dX11_promises_86 ?_
      refine lv_iconst (v := 4) hx hb dX11_promises_87 kc_4 ?_
      refine lv_isub hx hb dX11_promises_88 ?_
      refine lv_iconst (v := 4) hx hb dX11_promises_89 kc_4 ?_
      refine lv_iload hx hb dX11_promises_90 (lv_at hl 4 rfl) ?_
      refine lv_imul hx hb dX11_promises_92 ?_
      refine lv_isub hx hb dX11_promises_93 ?_
      refine lv_icmp_gt (tgt := 110) hx hb dX11_promises_94 (by decide) (fun q => ?_) (fun q => ?_)
      · have hf := hf_t q hf
        refine lv_iconst (v := 0) hx hb dX11_promises_110 kc_0 ?_
        exact w_Mo_promises_b111 C hk69 hw (lv_sub hl [0, 1, 2, 3, 4] rfl) hf
      · have hf := hf_f q hf
        refine lv_aload_n hx hb dX11_promises_97 rfl (lv_at hl 0 rfl) ?_
        refine get_44_7 C hw q_1158 dX11_promises_98 ?_
        refine lv_bipush (v := 10) hx hb dX11_promises_101 kb_10 ?_
        refine lv_icmp_ge (tgt := 110) hx hb dX11_promises_103 (by decide) (fun q => ?_) (fun q => ?_)
        · have hf := hf_t q hf
          refine lv_iconst (v := 0) hx hb dX11_promises_110 kc_0 ?_
          exact w_Mo_promises_b111 C hk69 hw (lv_sub hl [0, 1, 2, 3, 4] rfl) hf
        · have hf := hf_f q hf
          refine lv_iconst (v := 1) hx hb dX11_promises_106 kc_1 ?_
          refine lv_goto (tgt := 111) hx hb dX11_promises_107 (by decide) ?_
          exact w_Mo_promises_b111 C hk69 hw (lv_sub hl [0, 1, 2, 3, 4] rfl) hf
theorem w_Mo_promises_L69 {N : Nat} {l1 : Int32} {l2 : Int32} {l3 : Int32} {r : Int32} {S9 : St} (C : Cx p s m args meth c E cX11_promises 7 RX11 (some .int)) : ∀ x, Mo_promises_L69 N l1 l2 l3 x = some (r, S9) → ∀ (H : Heap) (locs : List Loc) (ls : Array Slot), Wd E (wM V E) s.heap x.1 H locs → lv_has ls 7 [(0, .ref (ea E 44)), (1, .int l1), (2, .int l2), (3, .int l3), (4, .int x.2.1), (5, .int x.2.2)] → W p l e (rmh 4) s m args below meth c H locs 0 0 (MQ below (QW E (wM V E) (some (.int r)) S9) args s 0 0 (eA E)) (F0 m 69 ls []) :=
  lp_W (fun k x hk hf H locs ls hw hl => w_Mo_promises_b69 C hk hw hl hf) N
set_option maxRecDepth 20000 in
theorem w_Mo_promises_b44 {N : Nat} {l1 : Int32} {l2 : Int32} {l3 : Int32} {r : Int32} {S9 : St} (C : Cx p s m args meth c E cX11_promises 7 RX11 (some .int)) (hw : Wd E (wM V E) s.heap S H locs) (hl : lv_has ls 7 [(0, .ref (ea E 44)), (1, .int l1), (2, .int l2), (3, .int l3)]) (hf : Mo_promises_b44 N S l1 l2 l3 = some (r, S9)) : W p l e (rmh 4) s m args below meth c H locs 0 0 (MQ below (QW E (wM V E) (some (.int r)) S9) args s 0 0 (eA E)) (F0 m 44 ls []) := by
  have hx := C.1
  have hb := C.2.1
  unfold Mo_promises_b44 at hf
  refine lv_iconst (v := 0) hx hb dX11_promises_44 kc_0 ?_
  refine lv_istore (lv' := [(4, .int (0 : Int32)), (0, .ref (ea E 44)), (1, .int l1), (2, .int l2), (3, .int l3)]) hx hb dX11_promises_45 hl (by decide) rfl (fun ls hl => ?_)
  refine lv_aload_n hx hb dX11_promises_47 rfl (lv_at hl 1 rfl) ?_
  refine get_44_35 C hw q_1186 dX11_promises_48 ?_
  refine lv_iload_n hx hb dX11_promises_51 rfl (lv_at hl 2 rfl) ?_
  obtain ⟨hc, hf⟩ := hf_ck hf
  refine ld_61 C hw hc dX11_promises_52 ?_
  refine lv_bipush (v := 50) hx hb dX11_promises_53 kb_50 ?_
  refine lv_icmp_ne (tgt := 66) hx hb dX11_promises_55 (by decide) (fun q => ?_) (fun q => ?_)
  · have hf := hf_f q hf
    refine lv_iconst (v := 0) hx hb dX11_promises_66 kc_0 ?_
    refine lv_istore (lv' := [(5, .int (0 : Int32)), (4, .int (0 : Int32)), (0, .ref (ea E 44)), (1, .int l1), (2, .int l2), (3, .int l3)]) hx hb dX11_promises_67 hl (by decide) rfl (fun ls hl => ?_)
    exact w_Mo_promises_L69 C _ hf _ _ _ hw (lv_sub hl [2, 3, 4, 5, 1, 0] rfl)
  · have hf := hf_t q hf
    refine lv_iload_n hx hb dX11_promises_58 rfl (lv_at hl 3 rfl) ?_
    refine lv_if_lt (tgt := 66) hx hb dX11_promises_59 (by decide) (fun q => ?_) (fun q => ?_)
    · have hf := hf_t q hf
      refine lv_iconst (v := 0) hx hb dX11_promises_66 kc_0 ?_
      refine lv_istore (lv' := [(5, .int (0 : Int32)), (4, .int (0 : Int32)), (0, .ref (ea E 44)), (1, .int l1), (2, .int l2), (3, .int l3)]) hx hb dX11_promises_67 hl (by decide) rfl (fun ls hl => ?_)
      exact w_Mo_promises_L69 C _ hf _ _ _ hw (lv_sub hl [2, 3, 4, 5, 1, 0] rfl)
    · have hf := hf_f q hf
      refine lv_iconst (v := 1) hx hb dX11_promises_62 kc_1 ?_
      refine lv_goto (tgt := 67) hx hb dX11_promises_63 (by decide) ?_
      refine lv_istore (lv' := [(5, .int (1 : Int32)), (4, .int (0 : Int32)), (0, .ref (ea E 44)), (1, .int l1), (2, .int l2), (3, .int l3)]) hx hb dX11_promises_67 hl (by decide) rfl (fun ls hl => ?_)
      exact w_Mo_promises_L69 C _ hf _ _ _ hw (lv_sub hl [2, 3, 4, 5, 1, 0] rfl)
set_option maxRecDepth 20000 in
theorem w_Mo_promises {N : Nat} {p1 : Int32} {p2 : Int32} {p3 : Int32} {r : Int32} {S9 : St} (C : Cx p s m args meth c E cX11_promises 7 RX11 (some .int)) (hw : Wd E (wM V E) s.heap S H locs) (hl : lv_has ls 7 [(0, .ref (ea E 44)), (1, .int p1), (2, .int p2), (3, .int p3)]) (hf : Mo_promises N S p1 p2 p3 = some (r, S9)) : W p l e (rmh 4) s m args below meth c H locs 0 0 (MQ below (QW E (wM V E) (some (.int r)) S9) args s 0 0 (eA E)) (F0 m 0 ls []) := by
  have hx := C.1
  have hb := C.2.1
  unfold Mo_promises at hf
  refine lv_iload_n hx hb dX11_promises_0 rfl (lv_at hl 1 rfl) ?_
  obtain ⟨r1, hr, hf⟩ := hf_1 hf
  refine inv_Si (As := [.int p1]) lk_X11_114 C hw (t_Mo_isShelf hr) hl.1 dX11_promises_1 rfl (Nat.le_of_ble_eq_true rfl) (by decide) (Nat.le_of_ble_eq_true rfl) rfl (fun H locs hw => ?_)
  refine lv_if_eq (tgt := 19) hx hb dX11_promises_4 (by decide) (fun q => ?_) (fun q => ?_)
  · have hf := hf_t q hf
    refine lv_iconst (v := -1) hx hb dX11_promises_19 kc_m1 ?_
    exact ret_iS C hw dX11_promises_20 hf
  · have hf := hf_f q hf
    refine lv_iload_n hx hb dX11_promises_7 rfl (lv_at hl 3 rfl) ?_
    refine lv_i2l hx hb dX11_promises_8 rfl ?_
    refine lv_lconst (v := 1) hx hb dX11_promises_9 rfl ?_
    refine lv_ldc2 (v := 10) hx hb C.2.2.2.1 (C.2.2.2.2.1 _ q_1315) dX11_promises_10 ?_
    obtain ⟨r2, hr, hf⟩ := hf_1 hf
    refine inv_Si (As := [.long (Int32.toInt64 p3), .long (1 : Int64), .long (10 : Int64)]) lk_X11_84 C hw (t_Mo_within hr) hl.1 dX11_promises_13 rfl (Nat.le_of_ble_eq_true rfl) (by decide) (Nat.le_of_ble_eq_true rfl) rfl (fun H locs hw => ?_)
    refine lv_if_ne (tgt := 21) hx hb dX11_promises_16 (by decide) (fun q => ?_) (fun q => ?_)
    · have hf := hf_f q hf
      refine lv_aload_n hx hb dX11_promises_21 rfl (lv_at hl 0 rfl) ?_
      refine get_44_35 C hw q_1186 dX11_promises_22 ?_
      refine lv_iload_n hx hb dX11_promises_25 rfl (lv_at hl 1 rfl) ?_
      obtain ⟨hc, hf⟩ := hf_ck hf
      refine ld_61 C hw hc dX11_promises_26 ?_
      refine lv_if_lt (tgt := 44) hx hb dX11_promises_27 (by decide) (fun q => ?_) (fun q => ?_)
      · have hf := hf_t q hf
        exact w_Mo_promises_b44 C hw (lv_sub hl [0, 1, 2, 3] rfl) hf
      · have hf := hf_f q hf
        refine lv_aload_n hx hb dX11_promises_30 rfl (lv_at hl 0 rfl) ?_
        refine get_44_35 C hw q_1186 dX11_promises_31 ?_
        refine lv_iload_n hx hb dX11_promises_34 rfl (lv_at hl 1 rfl) ?_
        obtain ⟨hc, hf⟩ := hf_ck hf
        refine ld_61 C hw hc dX11_promises_35 ?_
        refine lv_bipush (v := 50) hx hb dX11_promises_36 kb_50 ?_
        refine lv_icmp_eq (tgt := 44) hx hb dX11_promises_38 (by decide) (fun q => ?_) (fun q => ?_)
        · have hf := hf_t q hf
          exact w_Mo_promises_b44 C hw (lv_sub hl [0, 1, 2, 3] rfl) hf
        · have hf := hf_f q hf
          refine lv_bipush (v := -12) hx hb dX11_promises_41 kb_m12 ?_
          exact ret_iS C hw dX11_promises_43 hf
    · have hf := hf_t q hf
      refine lv_iconst (v := -1) hx hb dX11_promises_19 kc_m1 ?_
      exact ret_iS C hw dX11_promises_20 hf
end
theorem t_Mo_promises {l : Launch} {V : St} {N : Nat} {S : St} {p1 : Int32} {p2 : Int32} {p3 : Int32} {r : Int32} {S9 : St} (hf : Mo_promises N S p1 p2 p3 = some (r, S9)) : Ct l (wM V) yX11_promises cX11_promises 7 (some .int) 4 (fun E => [.ref (ea E 44), .int p1, .int p2, .int p3]) S (fun E => some (.int r)) S9 :=
  ofBlock (by decide +kernel) (fun _ => Nat.le_of_ble_eq_true rfl) (fun E p e s m args below meth c ls C hw hl => w_Mo_promises C hw hl hf)
theorem dX11_placeOf_0 : decode cX11_placeOf 0 = .ok (.iload_n 2, 1) := by decide +kernel
theorem dX11_placeOf_1 : decode cX11_placeOf 1 = .ok (.i2l, 1) := by decide +kernel
theorem dX11_placeOf_2 : decode cX11_placeOf 2 = .ok (.lconst 0, 1) := by decide +kernel
theorem dX11_placeOf_3 : decode cX11_placeOf 3 = .ok (.ldc2_w 120, 3) := by decide +kernel
theorem dX11_placeOf_6 : decode cX11_placeOf 6 = .ok (.invokestatic 84, 3) := by decide +kernel
theorem dX11_placeOf_9 : decode cX11_placeOf 9 = .ok (.ifCond .eq 23, 3) := by decide +kernel
theorem dX11_placeOf_12 : decode cX11_placeOf 12 = .ok (.aload_n 0, 1) := by decide +kernel
theorem dX11_placeOf_13 : decode cX11_placeOf 13 = .ok (.iload_n 1, 1) := by decide +kernel
theorem dX11_placeOf_14 : decode cX11_placeOf 14 = .ok (.i2l, 1) := by decide +kernel
theorem dX11_placeOf_15 : decode cX11_placeOf 15 = .ok (.invokevirtual 97, 3) := by decide +kernel
theorem dX11_placeOf_18 : decode cX11_placeOf 18 = .ok (.ifCond .eq 12, 3) := by decide +kernel
theorem dX11_placeOf_21 : decode cX11_placeOf 21 = .ok (.bipush 6, 2) := by decide +kernel
theorem dX11_placeOf_23 : decode cX11_placeOf 23 = .ok (.iload_n 2, 1) := by decide +kernel
theorem dX11_placeOf_24 : decode cX11_placeOf 24 = .ok (.imul, 1) := by decide +kernel
theorem dX11_placeOf_25 : decode cX11_placeOf 25 = .ok (.iload_n 1, 1) := by decide +kernel
theorem dX11_placeOf_26 : decode cX11_placeOf 26 = .ok (.iadd, 1) := by decide +kernel
theorem dX11_placeOf_27 : decode cX11_placeOf 27 = .ok (.goto 4, 3) := by decide +kernel
theorem dX11_placeOf_30 : decode cX11_placeOf 30 = .ok (.iconst (-1), 1) := by decide +kernel
theorem dX11_placeOf_31 : decode cX11_placeOf 31 = .ok (.ireturn, 1) := by decide +kernel
theorem dX11_placeOf_32 : decode cX11_placeOf 32 = .ok (.iload_n 2, 1) := by decide +kernel
theorem dX11_placeOf_33 : decode cX11_placeOf 33 = .ok (.i2l, 1) := by decide +kernel
theorem dX11_placeOf_34 : decode cX11_placeOf 34 = .ok (.ldc2_w 122, 3) := by decide +kernel
theorem dX11_placeOf_37 : decode cX11_placeOf 37 = .ok (.ldc2_w 124, 3) := by decide +kernel
theorem dX11_placeOf_40 : decode cX11_placeOf 40 = .ok (.invokestatic 84, 3) := by decide +kernel
theorem dX11_placeOf_43 : decode cX11_placeOf 43 = .ok (.ifCond .eq 26, 3) := by decide +kernel
theorem dX11_placeOf_46 : decode cX11_placeOf 46 = .ok (.aload_n 0, 1) := by decide +kernel
theorem dX11_placeOf_47 : decode cX11_placeOf 47 = .ok (.iload_n 1, 1) := by decide +kernel
theorem dX11_placeOf_48 : decode cX11_placeOf 48 = .ok (.i2l, 1) := by decide +kernel
theorem dX11_placeOf_49 : decode cX11_placeOf 49 = .ok (.invokevirtual 126, 3) := by decide +kernel
theorem dX11_placeOf_52 : decode cX11_placeOf 52 = .ok (.ifCond .eq 17, 3) := by decide +kernel
theorem dX11_placeOf_55 : decode cX11_placeOf 55 = .ok (.bipush 18, 2) := by decide +kernel
theorem dX11_placeOf_57 : decode cX11_placeOf 57 = .ok (.bipush 10, 2) := by decide +kernel
theorem dX11_placeOf_59 : decode cX11_placeOf 59 = .ok (.iload_n 2, 1) := by decide +kernel
theorem dX11_placeOf_60 : decode cX11_placeOf 60 = .ok (.iconst 3, 1) := by decide +kernel
theorem dX11_placeOf_61 : decode cX11_placeOf 61 = .ok (.isub, 1) := by decide +kernel
theorem dX11_placeOf_62 : decode cX11_placeOf 62 = .ok (.imul, 1) := by decide +kernel
theorem dX11_placeOf_63 : decode cX11_placeOf 63 = .ok (.iadd, 1) := by decide +kernel
theorem dX11_placeOf_64 : decode cX11_placeOf 64 = .ok (.iload_n 1, 1) := by decide +kernel
theorem dX11_placeOf_65 : decode cX11_placeOf 65 = .ok (.iadd, 1) := by decide +kernel
theorem dX11_placeOf_66 : decode cX11_placeOf 66 = .ok (.goto 4, 3) := by decide +kernel
theorem dX11_placeOf_69 : decode cX11_placeOf 69 = .ok (.iconst (-1), 1) := by decide +kernel
theorem dX11_placeOf_70 : decode cX11_placeOf 70 = .ok (.ireturn, 1) := by decide +kernel
section
variable {p : Program} {l : Launch} {e : Env} {s : State} {m : MethodId} {args : Array Value} {below : List Frame} {meth : Method} {c : Code} {H : Heap} {locs : List Loc} {E : Ev} {S V : St} {ls : Array Slot}
set_option maxRecDepth 20000 in
theorem w_Mo_placeOf {p1 : Int32} {p2 : Int32} {r : Int32} (C : Cx p s m args meth c E cX11_placeOf 3 RX11 (some .int)) (hw : Wd E (wM V E) s.heap S H locs) (hl : lv_has ls 3 [(0, .ref (ea E 44)), (1, .int p1), (2, .int p2)]) (hf : Mo_placeOf S p1 p2 = some r) : W p l e (rmh 3) s m args below meth c H locs 0 0 (MQ below (QW E (wM V E) (some (.int r)) S) args s 0 0 (eA E)) (F0 m 0 ls []) := by
  have hx := C.1
  have hb := C.2.1
  unfold Mo_placeOf at hf
  refine lv_iload_n hx hb dX11_placeOf_0 rfl (lv_at hl 2 rfl) ?_
  refine lv_i2l hx hb dX11_placeOf_1 rfl ?_
  refine lv_lconst (v := 0) hx hb dX11_placeOf_2 rfl ?_
  refine lv_ldc2 (v := 2) hx hb C.2.2.2.1 (C.2.2.2.2.1 _ q_1324) dX11_placeOf_3 ?_
  obtain ⟨r1, hr, hf⟩ := hf_1 hf
  refine inv_Si (As := [.long (Int32.toInt64 p2), .long (0 : Int64), .long (2 : Int64)]) lk_X11_84 C hw (t_Mo_within hr) hl.1 dX11_placeOf_6 rfl (Nat.le_of_ble_eq_true rfl) (by decide) (Nat.le_of_ble_eq_true rfl) rfl (fun H locs hw => ?_)
  refine lv_if_eq (tgt := 32) hx hb dX11_placeOf_9 (by decide) (fun q => ?_) (fun q => ?_)
  · have hf := hf_t q hf
    refine lv_iload_n hx hb dX11_placeOf_32 rfl (lv_at hl 2 rfl) ?_
    refine lv_i2l hx hb dX11_placeOf_33 rfl ?_
    refine lv_ldc2 (v := 3) hx hb C.2.2.2.1 (C.2.2.2.2.1 _ q_1325) dX11_placeOf_34 ?_
    refine lv_ldc2 (v := 6) hx hb C.2.2.2.1 (C.2.2.2.2.1 _ q_1326) dX11_placeOf_37 ?_
    obtain ⟨r2, hr, hf⟩ := hf_1 hf
    refine inv_Si (As := [.long (Int32.toInt64 p2), .long (3 : Int64), .long (6 : Int64)]) lk_X11_84 C hw (t_Mo_within hr) hl.1 dX11_placeOf_40 rfl (Nat.le_of_ble_eq_true rfl) (by decide) (Nat.le_of_ble_eq_true rfl) rfl (fun H locs hw => ?_)
    refine lv_if_eq (tgt := 69) hx hb dX11_placeOf_43 (by decide) (fun q => ?_) (fun q => ?_)
    · have hf := hf_t q hf
      refine lv_iconst (v := -1) hx hb dX11_placeOf_69 kc_m1 ?_
      exact ret_i C hw dX11_placeOf_70 hf
    · have hf := hf_f q hf
      refine lv_aload_n hx hb dX11_placeOf_46 rfl (lv_at hl 0 rfl) ?_
      refine lv_iload_n hx hb dX11_placeOf_47 rfl (lv_at hl 1 rfl) ?_
      refine lv_i2l hx hb dX11_placeOf_48 rfl ?_
      obtain ⟨r3, hr, hf⟩ := hf_1 hf
      refine inv_Vi (q0 := 44) (ci := 11) (As := [.long (Int32.toInt64 p1)]) lk_X11_126 C hw rfl rfl rfl (t_Mo_isPromise hr) rfl hl.1 dX11_placeOf_49 rfl (Nat.le_of_ble_eq_true rfl) (by decide) (Nat.le_of_ble_eq_true rfl) rfl (fun H locs hw => ?_)
      refine lv_if_eq (tgt := 69) hx hb dX11_placeOf_52 (by decide) (fun q => ?_) (fun q => ?_)
      · have hf := hf_t q hf
        refine lv_iconst (v := -1) hx hb dX11_placeOf_69 kc_m1 ?_
        exact ret_i C hw dX11_placeOf_70 hf
      · have hf := hf_f q hf
        refine lv_bipush (v := 18) hx hb dX11_placeOf_55 kb_18 ?_
        refine lv_bipush (v := 10) hx hb dX11_placeOf_57 kb_10 ?_
        refine lv_iload_n hx hb dX11_placeOf_59 rfl (lv_at hl 2 rfl) ?_
        refine lv_iconst (v := 3) hx hb dX11_placeOf_60 kc_3 ?_
        refine lv_isub hx hb dX11_placeOf_61 ?_
        refine lv_imul hx hb dX11_placeOf_62 ?_
        refine lv_iadd hx hb dX11_placeOf_63 ?_
        refine lv_iload_n hx hb dX11_placeOf_64 rfl (lv_at hl 1 rfl) ?_
        refine lv_iadd hx hb dX11_placeOf_65 ?_
        refine lv_goto (tgt := 70) hx hb dX11_placeOf_66 (by decide) ?_
        exact ret_i C hw dX11_placeOf_70 hf
  · have hf := hf_f q hf
    refine lv_aload_n hx hb dX11_placeOf_12 rfl (lv_at hl 0 rfl) ?_
    refine lv_iload_n hx hb dX11_placeOf_13 rfl (lv_at hl 1 rfl) ?_
    refine lv_i2l hx hb dX11_placeOf_14 rfl ?_
    obtain ⟨r4, hr, hf⟩ := hf_1 hf
    refine inv_Vi (q0 := 44) (ci := 11) (As := [.long (Int32.toInt64 p1)]) lk_X11_97 C hw rfl rfl rfl (t_Mo_isOne hr) rfl hl.1 dX11_placeOf_15 rfl (Nat.le_of_ble_eq_true rfl) (by decide) (Nat.le_of_ble_eq_true rfl) rfl (fun H locs hw => ?_)
    refine lv_if_eq (tgt := 30) hx hb dX11_placeOf_18 (by decide) (fun q => ?_) (fun q => ?_)
    · have hf := hf_t q hf
      refine lv_iconst (v := -1) hx hb dX11_placeOf_30 kc_m1 ?_
      exact ret_i C hw dX11_placeOf_31 hf
    · have hf := hf_f q hf
      refine lv_bipush (v := 6) hx hb dX11_placeOf_21 kb_6 ?_
      refine lv_iload_n hx hb dX11_placeOf_23 rfl (lv_at hl 2 rfl) ?_
      refine lv_imul hx hb dX11_placeOf_24 ?_
      refine lv_iload_n hx hb dX11_placeOf_25 rfl (lv_at hl 1 rfl) ?_
      refine lv_iadd hx hb dX11_placeOf_26 ?_
      refine lv_goto (tgt := 31) hx hb dX11_placeOf_27 (by decide) ?_
      exact ret_i C hw dX11_placeOf_31 hf
end
theorem t_Mo_placeOf {l : Launch} {V : St} {S : St} {p1 : Int32} {p2 : Int32} {r : Int32} (hf : Mo_placeOf S p1 p2 = some r) : Ct l (wM V) yX11_placeOf cX11_placeOf 3 (some .int) 3 (fun E => [.ref (ea E 44), .int p1, .int p2]) S (fun E => some (.int r)) S :=
  ofBlock (by decide +kernel) (fun _ => Nat.le_of_ble_eq_true rfl) (fun E p e s m args below meth c ls C hw hl => w_Mo_placeOf C hw hl hf)
theorem dX11_mayBecome_0 : decode cX11_mayBecome 0 = .ok (.iload_n 2, 1) := by decide +kernel
theorem dX11_mayBecome_1 : decode cX11_mayBecome 1 = .ok (.tableswitch 107 0 5 #[39, 49, 59, 69, 85, 95], 39) := by decide +kernel
theorem dX11_mayBecome_40 : decode cX11_mayBecome 40 = .ok (.iload_n 3, 1) := by decide +kernel
theorem dX11_mayBecome_41 : decode cX11_mayBecome 41 = .ok (.i2l, 1) := by decide +kernel
theorem dX11_mayBecome_42 : decode cX11_mayBecome 42 = .ok (.lconst 0, 1) := by decide +kernel
theorem dX11_mayBecome_43 : decode cX11_mayBecome 43 = .ok (.ldc2_w 93, 3) := by decide +kernel
theorem dX11_mayBecome_46 : decode cX11_mayBecome 46 = .ok (.invokestatic 84, 3) := by decide +kernel
theorem dX11_mayBecome_49 : decode cX11_mayBecome 49 = .ok (.ireturn, 1) := by decide +kernel
theorem dX11_mayBecome_50 : decode cX11_mayBecome 50 = .ok (.iload_n 3, 1) := by decide +kernel
theorem dX11_mayBecome_51 : decode cX11_mayBecome 51 = .ok (.i2l, 1) := by decide +kernel
theorem dX11_mayBecome_52 : decode cX11_mayBecome 52 = .ok (.lconst 1, 1) := by decide +kernel
theorem dX11_mayBecome_53 : decode cX11_mayBecome 53 = .ok (.ldc2_w 95, 3) := by decide +kernel
theorem dX11_mayBecome_56 : decode cX11_mayBecome 56 = .ok (.invokestatic 84, 3) := by decide +kernel
theorem dX11_mayBecome_59 : decode cX11_mayBecome 59 = .ok (.ireturn, 1) := by decide +kernel
theorem dX11_mayBecome_60 : decode cX11_mayBecome 60 = .ok (.iload_n 3, 1) := by decide +kernel
theorem dX11_mayBecome_61 : decode cX11_mayBecome 61 = .ok (.i2l, 1) := by decide +kernel
theorem dX11_mayBecome_62 : decode cX11_mayBecome 62 = .ok (.lconst 0, 1) := by decide +kernel
theorem dX11_mayBecome_63 : decode cX11_mayBecome 63 = .ok (.ldc2_w 104, 3) := by decide +kernel
theorem dX11_mayBecome_66 : decode cX11_mayBecome 66 = .ok (.invokestatic 84, 3) := by decide +kernel
theorem dX11_mayBecome_69 : decode cX11_mayBecome 69 = .ok (.ireturn, 1) := by decide +kernel
theorem dX11_mayBecome_70 : decode cX11_mayBecome 70 = .ok (.iload_n 3, 1) := by decide +kernel
theorem dX11_mayBecome_71 : decode cX11_mayBecome 71 = .ok (.i2l, 1) := by decide +kernel
theorem dX11_mayBecome_72 : decode cX11_mayBecome 72 = .ok (.aload_n 0, 1) := by decide +kernel
theorem dX11_mayBecome_73 : decode cX11_mayBecome 73 = .ok (.getfield 25, 3) := by decide +kernel
theorem dX11_mayBecome_76 : decode cX11_mayBecome 76 = .ok (.iload_n 1, 1) := by decide +kernel
theorem dX11_mayBecome_77 : decode cX11_mayBecome 77 = .ok (.iaload, 1) := by decide +kernel
theorem dX11_mayBecome_78 : decode cX11_mayBecome 78 = .ok (.i2l, 1) := by decide +kernel
theorem dX11_mayBecome_79 : decode cX11_mayBecome 79 = .ok (.ldc2_w 91, 3) := by decide +kernel
theorem dX11_mayBecome_82 : decode cX11_mayBecome 82 = .ok (.invokestatic 84, 3) := by decide +kernel
theorem dX11_mayBecome_85 : decode cX11_mayBecome 85 = .ok (.ireturn, 1) := by decide +kernel
theorem dX11_mayBecome_86 : decode cX11_mayBecome 86 = .ok (.iload_n 3, 1) := by decide +kernel
theorem dX11_mayBecome_87 : decode cX11_mayBecome 87 = .ok (.i2l, 1) := by decide +kernel
theorem dX11_mayBecome_88 : decode cX11_mayBecome 88 = .ok (.lconst 1, 1) := by decide +kernel
theorem dX11_mayBecome_89 : decode cX11_mayBecome 89 = .ok (.ldc2_w 104, 3) := by decide +kernel
theorem dX11_mayBecome_92 : decode cX11_mayBecome 92 = .ok (.invokestatic 84, 3) := by decide +kernel
theorem dX11_mayBecome_95 : decode cX11_mayBecome 95 = .ok (.ireturn, 1) := by decide +kernel
theorem dX11_mayBecome_96 : decode cX11_mayBecome 96 = .ok (.iload_n 3, 1) := by decide +kernel
theorem dX11_mayBecome_97 : decode cX11_mayBecome 97 = .ok (.i2l, 1) := by decide +kernel
theorem dX11_mayBecome_98 : decode cX11_mayBecome 98 = .ok (.ldc2_w 129, 3) := by decide +kernel
theorem dX11_mayBecome_101 : decode cX11_mayBecome 101 = .ok (.ldc2_w 91, 3) := by decide +kernel
theorem dX11_mayBecome_104 : decode cX11_mayBecome 104 = .ok (.invokestatic 84, 3) := by decide +kernel
theorem dX11_mayBecome_107 : decode cX11_mayBecome 107 = .ok (.ireturn, 1) := by decide +kernel
theorem dX11_mayBecome_108 : decode cX11_mayBecome 108 = .ok (.iload_n 3, 1) := by decide +kernel
theorem dX11_mayBecome_109 : decode cX11_mayBecome 109 = .ok (.iconst (-1), 1) := by decide +kernel
theorem dX11_mayBecome_110 : decode cX11_mayBecome 110 = .ok (.if_icmp .eq 22, 3) := by decide +kernel
theorem dX11_mayBecome_113 : decode cX11_mayBecome 113 = .ok (.aload_n 0, 1) := by decide +kernel
theorem dX11_mayBecome_114 : decode cX11_mayBecome 114 = .ok (.iload_n 3, 1) := by decide +kernel
theorem dX11_mayBecome_115 : decode cX11_mayBecome 115 = .ok (.i2l, 1) := by decide +kernel
theorem dX11_mayBecome_116 : decode cX11_mayBecome 116 = .ok (.invokevirtual 97, 3) := by decide +kernel
theorem dX11_mayBecome_119 : decode cX11_mayBecome 119 = .ok (.ifCond .eq 17, 3) := by decide +kernel
theorem dX11_mayBecome_122 : decode cX11_mayBecome 122 = .ok (.iload_n 3, 1) := by decide +kernel
theorem dX11_mayBecome_123 : decode cX11_mayBecome 123 = .ok (.aload_n 0, 1) := by decide +kernel
theorem dX11_mayBecome_124 : decode cX11_mayBecome 124 = .ok (.getfield 22, 3) := by decide +kernel
theorem dX11_mayBecome_127 : decode cX11_mayBecome 127 = .ok (.iload_n 1, 1) := by decide +kernel
theorem dX11_mayBecome_128 : decode cX11_mayBecome 128 = .ok (.iaload, 1) := by decide +kernel
theorem dX11_mayBecome_129 : decode cX11_mayBecome 129 = .ok (.if_icmp .eq 7, 3) := by decide +kernel
theorem dX11_mayBecome_132 : decode cX11_mayBecome 132 = .ok (.iconst 1, 1) := by decide +kernel
theorem dX11_mayBecome_133 : decode cX11_mayBecome 133 = .ok (.goto 4, 3) := by decide +kernel
theorem dX11_mayBecome_136 : decode cX11_mayBecome 136 = .ok (.iconst 0, 1) := by decide +kernel
theorem dX11_mayBecome_137 : decode cX11_mayBecome 137 = .ok (.ireturn, 1) := by decide +kernel
section
variable {p : Program} {l : Launch} {e : Env} {s : State} {m : MethodId} {args : Array Value} {below : List Frame} {meth : Method} {c : Code} {H : Heap} {locs : List Loc} {E : Ev} {S V : St} {ls : Array Slot}
set_option maxRecDepth 20000 in
theorem w_Mo_mayBecome {p1 : Int32} {p2 : Int32} {p3 : Int32} {r : Int32} (C : Cx p s m args meth c E cX11_mayBecome 4 RX11 (some .boolean)) (hw : Wd E (wM V E) s.heap S H locs) (hl : lv_has ls 4 [(0, .ref (ea E 44)), (1, .int p1), (2, .int p2), (3, .int p3)]) (hf : Mo_mayBecome S p1 p2 p3 = some r) : W p l e (rmh 3) s m args below meth c H locs 0 0 (MQ below (QW E (wM V E) (some (.int r)) S) args s 0 0 (eA E)) (F0 m 0 ls []) := by
  have hx := C.1
  have hb := C.2.1
  unfold Mo_mayBecome at hf
  refine lv_iload_n hx hb dX11_mayBecome_0 rfl (lv_at hl 2 rfl) ?_
  by_cases q0 : p2 = 0
  · have hf := hf_t q0 hf
    refine lv_tableIn (off := 39) (tgt := 40) hx hb dX11_mayBecome_1 (by rw [q0]; decide) (by rw [q0]; decide) (by rw [q0]; rfl) (by decide) ?_
    refine lv_iload_n hx hb dX11_mayBecome_40 rfl (lv_at hl 3 rfl) ?_
    refine lv_i2l hx hb dX11_mayBecome_41 rfl ?_
    refine lv_lconst (v := 0) hx hb dX11_mayBecome_42 rfl ?_
    refine lv_ldc2 (v := 30) hx hb C.2.2.2.1 (C.2.2.2.2.1 _ q_1281) dX11_mayBecome_43 ?_
    obtain ⟨r1, hr, hf⟩ := hf_1 hf
    refine inv_Si (As := [.long (Int32.toInt64 p3), .long (0 : Int64), .long (30 : Int64)]) lk_X11_84 C hw (t_Mo_within hr) hl.1 dX11_mayBecome_46 rfl (Nat.le_of_ble_eq_true rfl) (by decide) (Nat.le_of_ble_eq_true rfl) rfl (fun H locs hw => ?_)
    obtain ⟨hcb, hf⟩ := hf_ck hf
    exact ret_z (isB_nar hcb) C hw dX11_mayBecome_49 hf
  have hf := hf_f q0 hf
  by_cases q1 : p2 = 1
  · have hf := hf_t q1 hf
    refine lv_tableIn (off := 49) (tgt := 50) hx hb dX11_mayBecome_1 (by rw [q1]; decide) (by rw [q1]; decide) (by rw [q1]; rfl) (by decide) ?_
    refine lv_iload_n hx hb dX11_mayBecome_50 rfl (lv_at hl 3 rfl) ?_
    refine lv_i2l hx hb dX11_mayBecome_51 rfl ?_
    refine lv_lconst (v := 1) hx hb dX11_mayBecome_52 rfl ?_
    refine lv_ldc2 (v := 60) hx hb C.2.2.2.1 (C.2.2.2.2.1 _ q_1285) dX11_mayBecome_53 ?_
    obtain ⟨r2, hr, hf⟩ := hf_1 hf
    refine inv_Si (As := [.long (Int32.toInt64 p3), .long (1 : Int64), .long (60 : Int64)]) lk_X11_84 C hw (t_Mo_within hr) hl.1 dX11_mayBecome_56 rfl (Nat.le_of_ble_eq_true rfl) (by decide) (Nat.le_of_ble_eq_true rfl) rfl (fun H locs hw => ?_)
    obtain ⟨hcb, hf⟩ := hf_ck hf
    exact ret_z (isB_nar hcb) C hw dX11_mayBecome_59 hf
  have hf := hf_f q1 hf
  by_cases q2 : p2 = 2
  · have hf := hf_t q2 hf
    refine lv_tableIn (off := 59) (tgt := 60) hx hb dX11_mayBecome_1 (by rw [q2]; decide) (by rw [q2]; decide) (by rw [q2]; rfl) (by decide) ?_
    refine lv_iload_n hx hb dX11_mayBecome_60 rfl (lv_at hl 3 rfl) ?_
    refine lv_i2l hx hb dX11_mayBecome_61 rfl ?_
    refine lv_lconst (v := 0) hx hb dX11_mayBecome_62 rfl ?_
    refine lv_ldc2 (v := 9) hx hb C.2.2.2.1 (C.2.2.2.2.1 _ q_1302) dX11_mayBecome_63 ?_
    obtain ⟨r3, hr, hf⟩ := hf_1 hf
    refine inv_Si (As := [.long (Int32.toInt64 p3), .long (0 : Int64), .long (9 : Int64)]) lk_X11_84 C hw (t_Mo_within hr) hl.1 dX11_mayBecome_66 rfl (Nat.le_of_ble_eq_true rfl) (by decide) (Nat.le_of_ble_eq_true rfl) rfl (fun H locs hw => ?_)
    obtain ⟨hcb, hf⟩ := hf_ck hf
    exact ret_z (isB_nar hcb) C hw dX11_mayBecome_69 hf
  have hf := hf_f q2 hf
  by_cases q3 : p2 = 3
  · have hf := hf_t q3 hf
    refine lv_tableIn (off := 69) (tgt := 70) hx hb dX11_mayBecome_1 (by rw [q3]; decide) (by rw [q3]; decide) (by rw [q3]; rfl) (by decide) ?_
    refine lv_iload_n hx hb dX11_mayBecome_70 rfl (lv_at hl 3 rfl) ?_
    refine lv_i2l hx hb dX11_mayBecome_71 rfl ?_
    refine lv_aload_n hx hb dX11_mayBecome_72 rfl (lv_at hl 0 rfl) ?_
    refine get_44_9 C hw q_1160 dX11_mayBecome_73 ?_
    refine lv_iload_n hx hb dX11_mayBecome_76 rfl (lv_at hl 1 rfl) ?_
    obtain ⟨hc, hf⟩ := hf_ck hf
    refine ld_50 C hw hc dX11_mayBecome_77 ?_
    refine lv_i2l hx hb dX11_mayBecome_78 rfl ?_
    refine lv_ldc2 (v := 99) hx hb C.2.2.2.1 (C.2.2.2.2.1 _ q_1301) dX11_mayBecome_79 ?_
    obtain ⟨r4, hr, hf⟩ := hf_1 hf
    refine inv_Si (As := [.long (Int32.toInt64 p3), .long (Int32.toInt64 (gi S 50 p1.toNatClampNeg)), .long (99 : Int64)]) lk_X11_84 C hw (t_Mo_within hr) hl.1 dX11_mayBecome_82 rfl (Nat.le_of_ble_eq_true rfl) (by decide) (Nat.le_of_ble_eq_true rfl) rfl (fun H locs hw => ?_)
    obtain ⟨hcb, hf⟩ := hf_ck hf
    exact ret_z (isB_nar hcb) C hw dX11_mayBecome_85 hf
  have hf := hf_f q3 hf
  by_cases q4 : p2 = 4
  · have hf := hf_t q4 hf
    refine lv_tableIn (off := 85) (tgt := 86) hx hb dX11_mayBecome_1 (by rw [q4]; decide) (by rw [q4]; decide) (by rw [q4]; rfl) (by decide) ?_
    refine lv_iload_n hx hb dX11_mayBecome_86 rfl (lv_at hl 3 rfl) ?_
    refine lv_i2l hx hb dX11_mayBecome_87 rfl ?_
    refine lv_lconst (v := 1) hx hb dX11_mayBecome_88 rfl ?_
    refine lv_ldc2 (v := 9) hx hb C.2.2.2.1 (C.2.2.2.2.1 _ q_1302) dX11_mayBecome_89 ?_
    obtain ⟨r5, hr, hf⟩ := hf_1 hf
    refine inv_Si (As := [.long (Int32.toInt64 p3), .long (1 : Int64), .long (9 : Int64)]) lk_X11_84 C hw (t_Mo_within hr) hl.1 dX11_mayBecome_92 rfl (Nat.le_of_ble_eq_true rfl) (by decide) (Nat.le_of_ble_eq_true rfl) rfl (fun H locs hw => ?_)
    obtain ⟨hcb, hf⟩ := hf_ck hf
    exact ret_z (isB_nar hcb) C hw dX11_mayBecome_95 hf
  have hf := hf_f q4 hf
  by_cases q5 : p2 = 5
  · have hf := hf_t q5 hf
    refine lv_tableIn (off := 95) (tgt := 96) hx hb dX11_mayBecome_1 (by rw [q5]; decide) (by rw [q5]; decide) (by rw [q5]; rfl) (by decide) ?_
    refine lv_iload_n hx hb dX11_mayBecome_96 rfl (lv_at hl 3 rfl) ?_
    refine lv_i2l hx hb dX11_mayBecome_97 rfl ?_
    refine lv_ldc2 (v := -1) hx hb C.2.2.2.1 (C.2.2.2.2.1 _ q_1335) dX11_mayBecome_98 ?_
    refine lv_ldc2 (v := 99) hx hb C.2.2.2.1 (C.2.2.2.2.1 _ q_1301) dX11_mayBecome_101 ?_
    obtain ⟨r6, hr, hf⟩ := hf_1 hf
    refine inv_Si (As := [.long (Int32.toInt64 p3), .long (-1 : Int64), .long (99 : Int64)]) lk_X11_84 C hw (t_Mo_within hr) hl.1 dX11_mayBecome_104 rfl (Nat.le_of_ble_eq_true rfl) (by decide) (Nat.le_of_ble_eq_true rfl) rfl (fun H locs hw => ?_)
    obtain ⟨hcb, hf⟩ := hf_ck hf
    exact ret_z (isB_nar hcb) C hw dX11_mayBecome_107 hf
  have hf := hf_f q5 hf
  refine lv_tableOut (tgt := 108) hx hb dX11_mayBecome_1 (by have h0 := lv_neT (a := 0) q0 rfl; have h1 := lv_neT (a := 1) q1 rfl; have h2 := lv_neT (a := 2) q2 rfl; have h3 := lv_neT (a := 3) q3 rfl; have h4 := lv_neT (a := 4) q4 rfl; have h5 := lv_neT (a := 5) q5 rfl; omega) (by decide) ?_
  refine lv_iload_n hx hb dX11_mayBecome_108 rfl (lv_at hl 3 rfl) ?_
  refine lv_iconst (v := -1) hx hb dX11_mayBecome_109 kc_m1 ?_
  refine lv_icmp_eq (tgt := 132) hx hb dX11_mayBecome_110 (by decide) (fun q => ?_) (fun q => ?_)
  · have hf := hf_t q hf
    refine lv_iconst (v := 1) hx hb dX11_mayBecome_132 kc_1 ?_
    refine lv_goto (tgt := 137) hx hb dX11_mayBecome_133 (by decide) ?_
    exact ret_z rfl C hw dX11_mayBecome_137 hf
  · have hf := hf_f q hf
    refine lv_aload_n hx hb dX11_mayBecome_113 rfl (lv_at hl 0 rfl) ?_
    refine lv_iload_n hx hb dX11_mayBecome_114 rfl (lv_at hl 3 rfl) ?_
    refine lv_i2l hx hb dX11_mayBecome_115 rfl ?_
    obtain ⟨r7, hr, hf⟩ := hf_1 hf
    refine inv_Vi (q0 := 44) (ci := 11) (As := [.long (Int32.toInt64 p3)]) lk_X11_97 C hw rfl rfl rfl (t_Mo_isOne hr) rfl hl.1 dX11_mayBecome_116 rfl (Nat.le_of_ble_eq_true rfl) (by decide) (Nat.le_of_ble_eq_true rfl) rfl (fun H locs hw => ?_)
    refine lv_if_eq (tgt := 136) hx hb dX11_mayBecome_119 (by decide) (fun q => ?_) (fun q => ?_)
    · have hf := hf_t q hf
      refine lv_iconst (v := 0) hx hb dX11_mayBecome_136 kc_0 ?_
      exact ret_z rfl C hw dX11_mayBecome_137 hf
    · have hf := hf_f q hf
      refine lv_iload_n hx hb dX11_mayBecome_122 rfl (lv_at hl 3 rfl) ?_
      refine lv_aload_n hx hb dX11_mayBecome_123 rfl (lv_at hl 0 rfl) ?_
      refine get_44_8 C hw q_1159 dX11_mayBecome_124 ?_
      refine lv_iload_n hx hb dX11_mayBecome_127 rfl (lv_at hl 1 rfl) ?_
      obtain ⟨hc, hf⟩ := hf_ck hf
      refine ld_49 C hw hc dX11_mayBecome_128 ?_
      refine lv_icmp_eq (tgt := 136) hx hb dX11_mayBecome_129 (by decide) (fun q => ?_) (fun q => ?_)
      · have hf := hf_t q hf
        refine lv_iconst (v := 0) hx hb dX11_mayBecome_136 kc_0 ?_
        exact ret_z rfl C hw dX11_mayBecome_137 hf
      · have hf := hf_f q hf
        refine lv_iconst (v := 1) hx hb dX11_mayBecome_132 kc_1 ?_
        refine lv_goto (tgt := 137) hx hb dX11_mayBecome_133 (by decide) ?_
        exact ret_z rfl C hw dX11_mayBecome_137 hf
end
theorem t_Mo_mayBecome {l : Launch} {V : St} {S : St} {p1 : Int32} {p2 : Int32} {p3 : Int32} {r : Int32} (hf : Mo_mayBecome S p1 p2 p3 = some r) : Ct l (wM V) yX11_mayBecome cX11_mayBecome 4 (some .boolean) 3 (fun E => [.ref (ea E 44), .int p1, .int p2, .int p3]) S (fun E => some (.int r)) S :=
  ofBlock (by decide +kernel) (fun _ => Nat.le_of_ble_eq_true rfl) (fun E p e s m args below meth c ls C hw hl => w_Mo_mayBecome C hw hl hf)
theorem dX11_mend_0 : decode cX11_mend 0 = .ok (.aload_n 0, 1) := by decide +kernel
theorem dX11_mend_1 : decode cX11_mend 1 = .ok (.iload_n 1, 1) := by decide +kernel
theorem dX11_mend_2 : decode cX11_mend 2 = .ok (.iload_n 2, 1) := by decide +kernel
theorem dX11_mend_3 : decode cX11_mend 3 = .ok (.invokevirtual 131, 3) := by decide +kernel
theorem dX11_mend_6 : decode cX11_mend 6 = .ok (.istore 4, 2) := by decide +kernel
theorem dX11_mend_8 : decode cX11_mend 8 = .ok (.iload 4, 2) := by decide +kernel
theorem dX11_mend_10 : decode cX11_mend 10 = .ok (.ifCond .lt 23, 3) := by decide +kernel
theorem dX11_mend_13 : decode cX11_mend 13 = .ok (.aload_n 0, 1) := by decide +kernel
theorem dX11_mend_14 : decode cX11_mend 14 = .ok (.iload_n 1, 1) := by decide +kernel
theorem dX11_mend_15 : decode cX11_mend 15 = .ok (.iload_n 2, 1) := by decide +kernel
theorem dX11_mend_16 : decode cX11_mend 16 = .ok (.iload_n 3, 1) := by decide +kernel
theorem dX11_mend_17 : decode cX11_mend 17 = .ok (.invokevirtual 135, 3) := by decide +kernel
theorem dX11_mend_20 : decode cX11_mend 20 = .ok (.ifCond .eq 13, 3) := by decide +kernel
theorem dX11_mend_23 : decode cX11_mend 23 = .ok (.aload_n 0, 1) := by decide +kernel
theorem dX11_mend_24 : decode cX11_mend 24 = .ok (.iload 4, 2) := by decide +kernel
theorem dX11_mend_26 : decode cX11_mend 26 = .ok (.iload_n 3, 1) := by decide +kernel
theorem dX11_mend_27 : decode cX11_mend 27 = .ok (.invokevirtual 139, 3) := by decide +kernel
theorem dX11_mend_30 : decode cX11_mend 30 = .ok (.goto 5, 3) := by decide +kernel
theorem dX11_mend_33 : decode cX11_mend 33 = .ok (.ldc 142, 2) := by decide +kernel
theorem dX11_mend_35 : decode cX11_mend 35 = .ok (.ireturn, 1) := by decide +kernel
section
variable {p : Program} {l : Launch} {e : Env} {s : State} {m : MethodId} {args : Array Value} {below : List Frame} {meth : Method} {c : Code} {H : Heap} {locs : List Loc} {E : Ev} {S V : St} {ls : Array Slot}
set_option maxRecDepth 20000 in
theorem w_Mo_mend {N : Nat} {p1 : Int32} {p2 : Int32} {p3 : Int32} {r : Int32} {S9 : St} (C : Cx p s m args meth c E cX11_mend 5 RX11 (some .int)) (hw : Wd E (wM V E) s.heap S H locs) (hl : lv_has ls 5 [(0, .ref (ea E 44)), (1, .int p1), (2, .int p2), (3, .int p3)]) (hf : Mo_mend N S p1 p2 p3 = some (r, S9)) : W p l e (rmh 4) s m args below meth c H locs 0 0 (MQ below (QW E (wM V E) (some (.int r)) S9) args s 0 0 (eA E)) (F0 m 0 ls []) := by
  have hx := C.1
  have hb := C.2.1
  unfold Mo_mend at hf
  refine lv_aload_n hx hb dX11_mend_0 rfl (lv_at hl 0 rfl) ?_
  refine lv_iload_n hx hb dX11_mend_1 rfl (lv_at hl 1 rfl) ?_
  refine lv_iload_n hx hb dX11_mend_2 rfl (lv_at hl 2 rfl) ?_
  obtain ⟨r1, hr, hf⟩ := hf_1 hf
  refine inv_Vi (q0 := 44) (ci := 11) (As := [.int p1, .int p2]) lk_X11_131 C hw rfl rfl rfl (t_Mo_placeOf hr) rfl hl.1 dX11_mend_3 rfl (Nat.le_of_ble_eq_true rfl) (by decide) (Nat.le_of_ble_eq_true rfl) rfl (fun H locs hw => ?_)
  refine lv_istore (lv' := [(4, .int r1), (0, .ref (ea E 44)), (1, .int p1), (2, .int p2), (3, .int p3)]) hx hb dX11_mend_6 hl (by decide) rfl (fun ls hl => ?_)
  refine lv_iload hx hb dX11_mend_8 (lv_at hl 0 rfl) ?_
  refine lv_if_lt (tgt := 33) hx hb dX11_mend_10 (by decide) (fun q => ?_) (fun q => ?_)
  · have hf := hf_t q hf
    refine lv_ldc (v := -2000000000) hx hb C.2.2.2.1 (C.2.2.2.2.1 _ q_1340) dX11_mend_33 ?_
    exact ret_iS C hw dX11_mend_35 hf
  · have hf := hf_f q hf
    refine lv_aload_n hx hb dX11_mend_13 rfl (lv_at hl 1 rfl) ?_
    refine lv_iload_n hx hb dX11_mend_14 rfl (lv_at hl 2 rfl) ?_
    refine lv_iload_n hx hb dX11_mend_15 rfl (lv_at hl 3 rfl) ?_
    refine lv_iload_n hx hb dX11_mend_16 rfl (lv_at hl 4 rfl) ?_
    obtain ⟨r2, hr, hf⟩ := hf_1 hf
    refine inv_Vi (q0 := 44) (ci := 11) (As := [.int p1, .int p2, .int p3]) lk_X11_135 C hw rfl rfl rfl (t_Mo_mayBecome hr) rfl hl.1 dX11_mend_17 rfl (Nat.le_of_ble_eq_true rfl) (by decide) (Nat.le_of_ble_eq_true rfl) rfl (fun H locs hw => ?_)
    refine lv_if_eq (tgt := 33) hx hb dX11_mend_20 (by decide) (fun q => ?_) (fun q => ?_)
    · have hf := hf_t q hf
      refine lv_ldc (v := -2000000000) hx hb C.2.2.2.1 (C.2.2.2.2.1 _ q_1340) dX11_mend_33 ?_
      exact ret_iS C hw dX11_mend_35 hf
    · have hf := hf_f q hf
      refine lv_aload_n hx hb dX11_mend_23 rfl (lv_at hl 1 rfl) ?_
      refine lv_iload hx hb dX11_mend_24 (lv_at hl 0 rfl) ?_
      refine lv_iload_n hx hb dX11_mend_26 rfl (lv_at hl 4 rfl) ?_
      obtain ⟨r4, S3, hr, hf⟩ := hf_2 hf
      refine inv_Vi (q0 := 44) (ci := 11) (As := [.int r1, .int p3]) lk_X11_139 C hw rfl rfl rfl (t_Mo_becomes hr) rfl hl.1 dX11_mend_27 rfl (Nat.le_of_ble_eq_true rfl) (by decide) (Nat.le_of_ble_eq_true rfl) rfl (fun H locs hw => ?_)
      refine lv_goto (tgt := 35) hx hb dX11_mend_30 (by decide) ?_
      exact ret_iS C hw dX11_mend_35 hf
end
theorem t_Mo_mend {l : Launch} {V : St} {N : Nat} {S : St} {p1 : Int32} {p2 : Int32} {p3 : Int32} {r : Int32} {S9 : St} (hf : Mo_mend N S p1 p2 p3 = some (r, S9)) : Ct l (wM V) yX11_mend cX11_mend 5 (some .int) 4 (fun E => [.ref (ea E 44), .int p1, .int p2, .int p3]) S (fun E => some (.int r)) S9 :=
  ofBlock (by decide +kernel) (fun _ => Nat.le_of_ble_eq_true rfl) (fun E p e s m args below meth c ls C hw hl => w_Mo_mend C hw hl hf)
theorem dX11_of_0 : decode cX11_of 0 = .ok (.aload_n 0, 1) := by decide +kernel
theorem dX11_of_1 : decode cX11_of 1 = .ok (.iload_n 1, 1) := by decide +kernel
theorem dX11_of_2 : decode cX11_of 2 = .ok (.iload_n 2, 1) := by decide +kernel
theorem dX11_of_3 : decode cX11_of 3 = .ok (.invokevirtual 131, 3) := by decide +kernel
theorem dX11_of_6 : decode cX11_of 6 = .ok (.istore_n 3, 1) := by decide +kernel
theorem dX11_of_7 : decode cX11_of 7 = .ok (.iload_n 3, 1) := by decide +kernel
theorem dX11_of_8 : decode cX11_of 8 = .ok (.ifCond .lt 10, 3) := by decide +kernel
theorem dX11_of_11 : decode cX11_of 11 = .ok (.aload_n 0, 1) := by decide +kernel
theorem dX11_of_12 : decode cX11_of 12 = .ok (.getfield 9, 3) := by decide +kernel
theorem dX11_of_15 : decode cX11_of 15 = .ok (.iload_n 3, 1) := by decide +kernel
theorem dX11_of_16 : decode cX11_of 16 = .ok (.iaload, 1) := by decide +kernel
theorem dX11_of_17 : decode cX11_of 17 = .ok (.ireturn, 1) := by decide +kernel
theorem dX11_of_18 : decode cX11_of 18 = .ok (.aload_n 0, 1) := by decide +kernel
theorem dX11_of_19 : decode cX11_of 19 = .ok (.iload_n 1, 1) := by decide +kernel
theorem dX11_of_20 : decode cX11_of 20 = .ok (.i2l, 1) := by decide +kernel
theorem dX11_of_21 : decode cX11_of 21 = .ok (.invokevirtual 126, 3) := by decide +kernel
theorem dX11_of_24 : decode cX11_of 24 = .ok (.ifCond .ne 8, 3) := by decide +kernel
theorem dX11_of_27 : decode cX11_of 27 = .ok (.ldc 142, 2) := by decide +kernel
theorem dX11_of_29 : decode cX11_of 29 = .ok (.goto 35, 3) := by decide +kernel
theorem dX11_of_32 : decode cX11_of 32 = .ok (.iload_n 2, 1) := by decide +kernel
theorem dX11_of_33 : decode cX11_of 33 = .ok (.bipush 7, 2) := by decide +kernel
theorem dX11_of_35 : decode cX11_of 35 = .ok (.if_icmp .ne 12, 3) := by decide +kernel
theorem dX11_of_38 : decode cX11_of 38 = .ok (.aload_n 0, 1) := by decide +kernel
theorem dX11_of_39 : decode cX11_of 39 = .ok (.getfield 22, 3) := by decide +kernel
theorem dX11_of_42 : decode cX11_of 42 = .ok (.iload_n 1, 1) := by decide +kernel
theorem dX11_of_43 : decode cX11_of 43 = .ok (.iaload, 1) := by decide +kernel
theorem dX11_of_44 : decode cX11_of 44 = .ok (.goto 20, 3) := by decide +kernel
theorem dX11_of_47 : decode cX11_of 47 = .ok (.iload_n 2, 1) := by decide +kernel
theorem dX11_of_48 : decode cX11_of 48 = .ok (.bipush 8, 2) := by decide +kernel
theorem dX11_of_50 : decode cX11_of 50 = .ok (.if_icmp .ne 12, 3) := by decide +kernel
theorem dX11_of_53 : decode cX11_of 53 = .ok (.aload_n 0, 1) := by decide +kernel
theorem dX11_of_54 : decode cX11_of 54 = .ok (.getfield 25, 3) := by decide +kernel
theorem dX11_of_57 : decode cX11_of 57 = .ok (.iload_n 1, 1) := by decide +kernel
theorem dX11_of_58 : decode cX11_of 58 = .ok (.iaload, 1) := by decide +kernel
theorem dX11_of_59 : decode cX11_of 59 = .ok (.goto 5, 3) := by decide +kernel
theorem dX11_of_62 : decode cX11_of 62 = .ok (.ldc 142, 2) := by decide +kernel
theorem dX11_of_64 : decode cX11_of 64 = .ok (.ireturn, 1) := by decide +kernel
section
variable {p : Program} {l : Launch} {e : Env} {s : State} {m : MethodId} {args : Array Value} {below : List Frame} {meth : Method} {c : Code} {H : Heap} {locs : List Loc} {E : Ev} {S V : St} {ls : Array Slot}
set_option maxRecDepth 20000 in
theorem w_Mo_of {p1 : Int32} {p2 : Int32} {r : Int32} (C : Cx p s m args meth c E cX11_of 4 RX11 (some .int)) (hw : Wd E (wM V E) s.heap S H locs) (hl : lv_has ls 4 [(0, .ref (ea E 44)), (1, .int p1), (2, .int p2)]) (hf : Mo_of S p1 p2 = some r) : W p l e (rmh 4) s m args below meth c H locs 0 0 (MQ below (QW E (wM V E) (some (.int r)) S) args s 0 0 (eA E)) (F0 m 0 ls []) := by
  have hx := C.1
  have hb := C.2.1
  unfold Mo_of at hf
  refine lv_aload_n hx hb dX11_of_0 rfl (lv_at hl 0 rfl) ?_
  refine lv_iload_n hx hb dX11_of_1 rfl (lv_at hl 1 rfl) ?_
  refine lv_iload_n hx hb dX11_of_2 rfl (lv_at hl 2 rfl) ?_
  obtain ⟨r1, hr, hf⟩ := hf_1 hf
  refine inv_Vi (q0 := 44) (ci := 11) (As := [.int p1, .int p2]) lk_X11_131 C hw rfl rfl rfl (t_Mo_placeOf hr) rfl hl.1 dX11_of_3 rfl (Nat.le_of_ble_eq_true rfl) (by decide) (Nat.le_of_ble_eq_true rfl) rfl (fun H locs hw => ?_)
  refine lv_istore_n (lv' := [(3, .int r1), (0, .ref (ea E 44)), (1, .int p1), (2, .int p2)]) hx hb dX11_of_6 rfl hl (by decide) rfl (fun ls hl => ?_)
  refine lv_iload_n hx hb dX11_of_7 rfl (lv_at hl 0 rfl) ?_
  refine lv_if_lt (tgt := 18) hx hb dX11_of_8 (by decide) (fun q => ?_) (fun q => ?_)
  · have hf := hf_t q hf
    refine lv_aload_n hx hb dX11_of_18 rfl (lv_at hl 1 rfl) ?_
    refine lv_iload_n hx hb dX11_of_19 rfl (lv_at hl 2 rfl) ?_
    refine lv_i2l hx hb dX11_of_20 rfl ?_
    obtain ⟨r2, hr, hf⟩ := hf_1 hf
    refine inv_Vi (q0 := 44) (ci := 11) (As := [.long (Int32.toInt64 p1)]) lk_X11_126 C hw rfl rfl rfl (t_Mo_isPromise hr) rfl hl.1 dX11_of_21 rfl (Nat.le_of_ble_eq_true rfl) (by decide) (Nat.le_of_ble_eq_true rfl) rfl (fun H locs hw => ?_)
    refine lv_if_ne (tgt := 32) hx hb dX11_of_24 (by decide) (fun q => ?_) (fun q => ?_)
    · have hf := hf_f q hf
      refine lv_iload_n hx hb dX11_of_32 rfl (lv_at hl 3 rfl) ?_
      refine lv_bipush (v := 7) hx hb dX11_of_33 kb_7 ?_
      refine lv_icmp_ne (tgt := 47) hx hb dX11_of_35 (by decide) (fun q => ?_) (fun q => ?_)
      · have hf := hf_f q hf
        refine lv_iload_n hx hb dX11_of_47 rfl (lv_at hl 3 rfl) ?_
        refine lv_bipush (v := 8) hx hb dX11_of_48 kb_8 ?_
        refine lv_icmp_ne (tgt := 62) hx hb dX11_of_50 (by decide) (fun q => ?_) (fun q => ?_)
        · have hf := hf_f q hf
          refine lv_ldc (v := -2000000000) hx hb C.2.2.2.1 (C.2.2.2.2.1 _ q_1340) dX11_of_62 ?_
          exact ret_i C hw dX11_of_64 hf
        · have hf := hf_t q hf
          refine lv_aload_n hx hb dX11_of_53 rfl (lv_at hl 1 rfl) ?_
          refine get_44_9 C hw q_1160 dX11_of_54 ?_
          refine lv_iload_n hx hb dX11_of_57 rfl (lv_at hl 2 rfl) ?_
          obtain ⟨hc, hf⟩ := hf_ck hf
          refine ld_50 C hw hc dX11_of_58 ?_
          refine lv_goto (tgt := 64) hx hb dX11_of_59 (by decide) ?_
          exact ret_i C hw dX11_of_64 hf
      · have hf := hf_t q hf
        refine lv_aload_n hx hb dX11_of_38 rfl (lv_at hl 1 rfl) ?_
        refine get_44_8 C hw q_1159 dX11_of_39 ?_
        refine lv_iload_n hx hb dX11_of_42 rfl (lv_at hl 2 rfl) ?_
        obtain ⟨hc, hf⟩ := hf_ck hf
        refine ld_49 C hw hc dX11_of_43 ?_
        refine lv_goto (tgt := 64) hx hb dX11_of_44 (by decide) ?_
        exact ret_i C hw dX11_of_64 hf
    · have hf := hf_t q hf
      refine lv_ldc (v := -2000000000) hx hb C.2.2.2.1 (C.2.2.2.2.1 _ q_1340) dX11_of_27 ?_
      refine lv_goto (tgt := 64) hx hb dX11_of_29 (by decide) ?_
      exact ret_i C hw dX11_of_64 hf
  · have hf := hf_f q hf
    refine lv_aload_n hx hb dX11_of_11 rfl (lv_at hl 1 rfl) ?_
    refine get_44_0 C hw q_1151 dX11_of_12 ?_
    refine lv_iload_n hx hb dX11_of_15 rfl (lv_at hl 0 rfl) ?_
    obtain ⟨hc, hf⟩ := hf_ck hf
    refine ld_45 C hw hc dX11_of_16 ?_
    exact ret_i C hw dX11_of_17 hf
end
theorem t_Mo_of {l : Launch} {V : St} {S : St} {p1 : Int32} {p2 : Int32} {r : Int32} (hf : Mo_of S p1 p2 = some r) : Ct l (wM V) yX11_of cX11_of 4 (some .int) 4 (fun E => [.ref (ea E 44), .int p1, .int p2]) S (fun E => some (.int r)) S :=
  ofBlock (by decide +kernel) (fun _ => Nat.le_of_ble_eq_true rfl) (fun E p e s m args below meth c ls C hw hl => w_Mo_of C hw hl hf)
theorem dX11_feed_0 : decode cX11_feed 0 = .ok (.iload_n 1, 1) := by decide +kernel
theorem dX11_feed_1 : decode cX11_feed 1 = .ok (.i2l, 1) := by decide +kernel
theorem dX11_feed_2 : decode cX11_feed 2 = .ok (.lconst 0, 1) := by decide +kernel
theorem dX11_feed_3 : decode cX11_feed 3 = .ok (.ldc2_w 143, 3) := by decide +kernel
theorem dX11_feed_6 : decode cX11_feed 6 = .ok (.invokestatic 84, 3) := by decide +kernel
theorem dX11_feed_9 : decode cX11_feed 9 = .ok (.ifCond .ne 5, 3) := by decide +kernel
theorem dX11_feed_12 : decode cX11_feed 12 = .ok (.iconst (-1), 1) := by decide +kernel
theorem dX11_feed_13 : decode cX11_feed 13 = .ok (.ireturn, 1) := by decide +kernel
theorem dX11_feed_14 : decode cX11_feed 14 = .ok (.aload_n 0, 1) := by decide +kernel
theorem dX11_feed_15 : decode cX11_feed 15 = .ok (.getfield 145, 3) := by decide +kernel
theorem dX11_feed_18 : decode cX11_feed 18 = .ok (.bipush 120, 2) := by decide +kernel
theorem dX11_feed_20 : decode cX11_feed 20 = .ok (.if_icmp .ne 6, 3) := by decide +kernel
theorem dX11_feed_23 : decode cX11_feed 23 = .ok (.bipush (-3), 2) := by decide +kernel
theorem dX11_feed_25 : decode cX11_feed 25 = .ok (.ireturn, 1) := by decide +kernel
theorem dX11_feed_26 : decode cX11_feed 26 = .ok (.aload_n 0, 1) := by decide +kernel
theorem dX11_feed_27 : decode cX11_feed 27 = .ok (.getfield 28, 3) := by decide +kernel
theorem dX11_feed_30 : decode cX11_feed 30 = .ok (.aload_n 0, 1) := by decide +kernel
theorem dX11_feed_31 : decode cX11_feed 31 = .ok (.getfield 145, 3) := by decide +kernel
theorem dX11_feed_34 : decode cX11_feed 34 = .ok (.iload_n 1, 1) := by decide +kernel
theorem dX11_feed_35 : decode cX11_feed 35 = .ok (.iastore, 1) := by decide +kernel
theorem dX11_feed_36 : decode cX11_feed 36 = .ok (.aload_n 0, 1) := by decide +kernel
theorem dX11_feed_37 : decode cX11_feed 37 = .ok (.dup, 1) := by decide +kernel
theorem dX11_feed_38 : decode cX11_feed 38 = .ok (.getfield 145, 3) := by decide +kernel
theorem dX11_feed_41 : decode cX11_feed 41 = .ok (.iconst 1, 1) := by decide +kernel
theorem dX11_feed_42 : decode cX11_feed 42 = .ok (.iadd, 1) := by decide +kernel
theorem dX11_feed_43 : decode cX11_feed 43 = .ok (.putfield 145, 3) := by decide +kernel
theorem dX11_feed_46 : decode cX11_feed 46 = .ok (.aload_n 0, 1) := by decide +kernel
theorem dX11_feed_47 : decode cX11_feed 47 = .ok (.getfield 145, 3) := by decide +kernel
theorem dX11_feed_50 : decode cX11_feed 50 = .ok (.ireturn, 1) := by decide +kernel
section
variable {p : Program} {l : Launch} {e : Env} {s : State} {m : MethodId} {args : Array Value} {below : List Frame} {meth : Method} {c : Code} {H : Heap} {locs : List Loc} {E : Ev} {S V : St} {ls : Array Slot}
set_option maxRecDepth 20000 in
theorem w_Mo_feed {p1 : Int32} {r : Int32} {S9 : St} (C : Cx p s m args meth c E cX11_feed 2 RX11 (some .int)) (hw : Wd E (wM V E) s.heap S H locs) (hl : lv_has ls 2 [(0, .ref (ea E 44)), (1, .int p1)]) (hf : Mo_feed S p1 = some (r, S9)) : W p l e (rmh 2) s m args below meth c H locs 0 0 (MQ below (QW E (wM V E) (some (.int r)) S9) args s 0 0 (eA E)) (F0 m 0 ls []) := by
  have hx := C.1
  have hb := C.2.1
  unfold Mo_feed at hf
  refine lv_iload_n hx hb dX11_feed_0 rfl (lv_at hl 1 rfl) ?_
  refine lv_i2l hx hb dX11_feed_1 rfl ?_
  refine lv_lconst (v := 0) hx hb dX11_feed_2 rfl ?_
  refine lv_ldc2 (v := 255) hx hb C.2.2.2.1 (C.2.2.2.2.1 _ q_1349) dX11_feed_3 ?_
  obtain ⟨r1, hr, hf⟩ := hf_1 hf
  refine inv_Si (As := [.long (Int32.toInt64 p1), .long (0 : Int64), .long (255 : Int64)]) lk_X11_84 C hw (t_Mo_within hr) hl.1 dX11_feed_6 rfl (Nat.le_of_ble_eq_true rfl) (by decide) (Nat.le_of_ble_eq_true rfl) rfl (fun H locs hw => ?_)
  refine lv_if_ne (tgt := 14) hx hb dX11_feed_9 (by decide) (fun q => ?_) (fun q => ?_)
  · have hf := hf_f q hf
    refine lv_aload_n hx hb dX11_feed_14 rfl (lv_at hl 0 rfl) ?_
    refine get_44_11 C hw q_1162 dX11_feed_15 ?_
    refine lv_bipush (v := 120) hx hb dX11_feed_18 kb_120 ?_
    refine lv_icmp_ne (tgt := 26) hx hb dX11_feed_20 (by decide) (fun q => ?_) (fun q => ?_)
    · have hf := hf_f q hf
      refine lv_aload_n hx hb dX11_feed_26 rfl (lv_at hl 0 rfl) ?_
      refine get_44_10 C hw q_1161 dX11_feed_27 ?_
      refine lv_aload_n hx hb dX11_feed_30 rfl (lv_at hl 0 rfl) ?_
      refine get_44_11 C hw q_1162 dX11_feed_31 ?_
      refine lv_iload_n hx hb dX11_feed_34 rfl (lv_at hl 1 rfl) ?_
      obtain ⟨hc, hf⟩ := hf_ck hf
      refine st_51 C hw hc dX11_feed_35 (fun H locs hw => ?_)
      refine nm_S hf hw (fun S2 hf hw => ?_)
      refine lv_aload_n hx hb dX11_feed_36 rfl (lv_at hl 0 rfl) ?_
      refine lv_dup hx hb dX11_feed_37 rfl ?_
      refine get_44_11 C hw q_1162 dX11_feed_38 ?_
      refine lv_iconst (v := 1) hx hb dX11_feed_41 kc_1 ?_
      refine lv_iadd hx hb dX11_feed_42 ?_
      refine put_44_11 C hw q_1162 dX11_feed_43 (fun H locs hw => ?_)
      refine nm_S hf hw (fun S3 hf hw => ?_)
      refine lv_aload_n hx hb dX11_feed_46 rfl (lv_at hl 0 rfl) ?_
      refine get_44_11 C hw q_1162 dX11_feed_47 ?_
      exact ret_iS C hw dX11_feed_50 hf
    · have hf := hf_t q hf
      refine lv_bipush (v := -3) hx hb dX11_feed_23 kb_m3 ?_
      exact ret_iS C hw dX11_feed_25 hf
  · have hf := hf_t q hf
    refine lv_iconst (v := -1) hx hb dX11_feed_12 kc_m1 ?_
    exact ret_iS C hw dX11_feed_13 hf
end
theorem t_Mo_feed {l : Launch} {V : St} {S : St} {p1 : Int32} {r : Int32} {S9 : St} (hf : Mo_feed S p1 = some (r, S9)) : Ct l (wM V) yX11_feed cX11_feed 2 (some .int) 2 (fun E => [.ref (ea E 44), .int p1]) S (fun E => some (.int r)) S9 :=
  ofBlock (by decide +kernel) (fun _ => Nat.le_of_ble_eq_true rfl) (fun E p e s m args below meth c ls C hw hl => w_Mo_feed C hw hl hf)
theorem dX11_byteAt_0 : decode cX11_byteAt 0 = .ok (.aload_n 0, 1) := by decide +kernel
theorem dX11_byteAt_1 : decode cX11_byteAt 1 = .ok (.getfield 148, 3) := by decide +kernel
theorem dX11_byteAt_4 : decode cX11_byteAt 4 = .ok (.aload_n 0, 1) := by decide +kernel
theorem dX11_byteAt_5 : decode cX11_byteAt 5 = .ok (.getfield 151, 3) := by decide +kernel
theorem dX11_byteAt_8 : decode cX11_byteAt 8 = .ok (.if_icmp .ge 39, 3) := by decide +kernel
theorem dX11_byteAt_11 : decode cX11_byteAt 11 = .ok (.aload_n 0, 1) := by decide +kernel
theorem dX11_byteAt_12 : decode cX11_byteAt 12 = .ok (.getfield 154, 3) := by decide +kernel
theorem dX11_byteAt_15 : decode cX11_byteAt 15 = .ok (.ifCond .ge 15, 3) := by decide +kernel
theorem dX11_byteAt_18 : decode cX11_byteAt 18 = .ok (.aload_n 0, 1) := by decide +kernel
theorem dX11_byteAt_19 : decode cX11_byteAt 19 = .ok (.getfield 28, 3) := by decide +kernel
theorem dX11_byteAt_22 : decode cX11_byteAt 22 = .ok (.aload_n 0, 1) := by decide +kernel
theorem dX11_byteAt_23 : decode cX11_byteAt 23 = .ok (.getfield 148, 3) := by decide +kernel
theorem dX11_byteAt_26 : decode cX11_byteAt 26 = .ok (.iaload, 1) := by decide +kernel
theorem dX11_byteAt_27 : decode cX11_byteAt 27 = .ok (.goto 21, 3) := by decide +kernel
theorem dX11_byteAt_30 : decode cX11_byteAt 30 = .ok (.aload_n 0, 1) := by decide +kernel
theorem dX11_byteAt_31 : decode cX11_byteAt 31 = .ok (.getfield 31, 3) := by decide +kernel
theorem dX11_byteAt_34 : decode cX11_byteAt 34 = .ok (.aload_n 0, 1) := by decide +kernel
theorem dX11_byteAt_35 : decode cX11_byteAt 35 = .ok (.getfield 154, 3) := by decide +kernel
theorem dX11_byteAt_38 : decode cX11_byteAt 38 = .ok (.aload_n 0, 1) := by decide +kernel
theorem dX11_byteAt_39 : decode cX11_byteAt 39 = .ok (.getfield 148, 3) := by decide +kernel
theorem dX11_byteAt_42 : decode cX11_byteAt 42 = .ok (.iadd, 1) := by decide +kernel
theorem dX11_byteAt_43 : decode cX11_byteAt 43 = .ok (.iaload, 1) := by decide +kernel
theorem dX11_byteAt_44 : decode cX11_byteAt 44 = .ok (.goto 4, 3) := by decide +kernel
theorem dX11_byteAt_47 : decode cX11_byteAt 47 = .ok (.iconst 0, 1) := by decide +kernel
theorem dX11_byteAt_48 : decode cX11_byteAt 48 = .ok (.ireturn, 1) := by decide +kernel
section
variable {p : Program} {l : Launch} {e : Env} {s : State} {m : MethodId} {args : Array Value} {below : List Frame} {meth : Method} {c : Code} {H : Heap} {locs : List Loc} {E : Ev} {S V : St} {ls : Array Slot}
set_option maxRecDepth 20000 in
theorem w_Mo_byteAt {r : Int32} (C : Cx p s m args meth c E cX11_byteAt 1 RX11 (some .int)) (hw : Wd E (wM V E) s.heap S H locs) (hl : lv_has ls 1 [(0, .ref (ea E 44))]) (hf : Mo_byteAt S = some r) : W p l e (rmh 1) s m args below meth c H locs 0 0 (MQ below (QW E (wM V E) (some (.int r)) S) args s 0 0 (eA E)) (F0 m 0 ls []) := by
  have hx := C.1
  have hb := C.2.1
  unfold Mo_byteAt at hf
  refine lv_aload_n hx hb dX11_byteAt_0 rfl (lv_at hl 0 rfl) ?_
  refine get_44_15 C hw q_1166 dX11_byteAt_1 ?_
  refine lv_aload_n hx hb dX11_byteAt_4 rfl (lv_at hl 0 rfl) ?_
  refine get_44_16 C hw q_1167 dX11_byteAt_5 ?_
  refine lv_icmp_ge (tgt := 47) hx hb dX11_byteAt_8 (by decide) (fun q => ?_) (fun q => ?_)
  · have hf := hf_t q hf
    refine lv_iconst (v := 0) hx hb dX11_byteAt_47 kc_0 ?_
    exact ret_i C hw dX11_byteAt_48 hf
  · have hf := hf_f q hf
    refine lv_aload_n hx hb dX11_byteAt_11 rfl (lv_at hl 0 rfl) ?_
    refine get_44_14 C hw q_1165 dX11_byteAt_12 ?_
    refine lv_if_ge (tgt := 30) hx hb dX11_byteAt_15 (by decide) (fun q => ?_) (fun q => ?_)
    · have hf := hf_t q hf
      refine lv_aload_n hx hb dX11_byteAt_30 rfl (lv_at hl 0 rfl) ?_
      refine get_44_12 C hw q_1163 dX11_byteAt_31 ?_
      refine lv_aload_n hx hb dX11_byteAt_34 rfl (lv_at hl 0 rfl) ?_
      refine get_44_14 C hw q_1165 dX11_byteAt_35 ?_
      refine lv_aload_n hx hb dX11_byteAt_38 rfl (lv_at hl 0 rfl) ?_
      refine get_44_15 C hw q_1166 dX11_byteAt_39 ?_
      refine lv_iadd hx hb dX11_byteAt_42 ?_
      obtain ⟨hc, hf⟩ := hf_ck hf
      refine ld_52 C hw hc dX11_byteAt_43 ?_
      refine lv_goto (tgt := 48) hx hb dX11_byteAt_44 (by decide) ?_
      exact ret_i C hw dX11_byteAt_48 hf
    · have hf := hf_f q hf
      refine lv_aload_n hx hb dX11_byteAt_18 rfl (lv_at hl 0 rfl) ?_
      refine get_44_10 C hw q_1161 dX11_byteAt_19 ?_
      refine lv_aload_n hx hb dX11_byteAt_22 rfl (lv_at hl 0 rfl) ?_
      refine get_44_15 C hw q_1166 dX11_byteAt_23 ?_
      obtain ⟨hc, hf⟩ := hf_ck hf
      refine ld_51 C hw hc dX11_byteAt_26 ?_
      refine lv_goto (tgt := 48) hx hb dX11_byteAt_27 (by decide) ?_
      exact ret_i C hw dX11_byteAt_48 hf
end
theorem t_Mo_byteAt {l : Launch} {V : St} {S : St} {r : Int32} (hf : Mo_byteAt S = some r) : Ct l (wM V) yX11_byteAt cX11_byteAt 1 (some .int) 1 (fun E => [.ref (ea E 44)]) S (fun E => some (.int r)) S :=
  ofBlock (by decide +kernel) (fun _ => Nat.le_of_ble_eq_true rfl) (fun E p e s m args below meth c ls C hw hl => w_Mo_byteAt C hw hl hf)
theorem dX11_wrong_0 : decode cX11_wrong 0 = .ok (.aload_n 0, 1) := by decide +kernel
theorem dX11_wrong_1 : decode cX11_wrong 1 = .ok (.aload_n 0, 1) := by decide +kernel
theorem dX11_wrong_2 : decode cX11_wrong 2 = .ok (.getfield 157, 3) := by decide +kernel
theorem dX11_wrong_5 : decode cX11_wrong 5 = .ok (.ifCond .ge 10, 3) := by decide +kernel
theorem dX11_wrong_8 : decode cX11_wrong 8 = .ok (.aload_n 0, 1) := by decide +kernel
theorem dX11_wrong_9 : decode cX11_wrong 9 = .ok (.getfield 148, 3) := by decide +kernel
theorem dX11_wrong_12 : decode cX11_wrong 12 = .ok (.goto 7, 3) := by decide +kernel
theorem dX11_wrong_15 : decode cX11_wrong 15 = .ok (.aload_n 0, 1) := by decide +kernel
theorem dX11_wrong_16 : decode cX11_wrong 16 = .ok (.getfield 157, 3) := by decide +kernel
theorem dX11_wrong_19 : decode cX11_wrong 19 = .ok (.putfield 157, 3) := by decide +kernel
theorem dX11_wrong_22 : decode cX11_wrong 22 = .ok (.iconst 0, 1) := by decide +kernel
theorem dX11_wrong_23 : decode cX11_wrong 23 = .ok (.ireturn, 1) := by decide +kernel
section
variable {p : Program} {l : Launch} {e : Env} {s : State} {m : MethodId} {args : Array Value} {below : List Frame} {meth : Method} {c : Code} {H : Heap} {locs : List Loc} {E : Ev} {S V : St} {ls : Array Slot}
set_option maxRecDepth 20000 in
theorem w_Mo_wrong {r : Int32} {S9 : St} (C : Cx p s m args meth c E cX11_wrong 1 RX11 (some .int)) (hw : Wd E (wM V E) s.heap S H locs) (hl : lv_has ls 1 [(0, .ref (ea E 44))]) (hf : Mo_wrong S = some (r, S9)) : W p l e (rmh 1) s m args below meth c H locs 0 0 (MQ below (QW E (wM V E) (some (.int r)) S9) args s 0 0 (eA E)) (F0 m 0 ls []) := by
  have hx := C.1
  have hb := C.2.1
  unfold Mo_wrong at hf
  refine lv_aload_n hx hb dX11_wrong_0 rfl (lv_at hl 0 rfl) ?_
  refine lv_aload_n hx hb dX11_wrong_1 rfl (lv_at hl 0 rfl) ?_
  refine get_44_17 C hw q_1168 dX11_wrong_2 ?_
  refine lv_if_ge (tgt := 15) hx hb dX11_wrong_5 (by decide) (fun q => ?_) (fun q => ?_)
  · have hf := hf_t q hf
    refine lv_aload_n hx hb dX11_wrong_15 rfl (lv_at hl 0 rfl) ?_
    refine get_44_17 C hw q_1168 dX11_wrong_16 ?_
    refine put_44_17 C hw q_1168 dX11_wrong_19 (fun H locs hw => ?_)
    refine nm_S hf hw (fun S1 hf hw => ?_)
    refine lv_iconst (v := 0) hx hb dX11_wrong_22 kc_0 ?_
    exact ret_iS C hw dX11_wrong_23 hf
  · have hf := hf_f q hf
    refine lv_aload_n hx hb dX11_wrong_8 rfl (lv_at hl 0 rfl) ?_
    refine get_44_15 C hw q_1166 dX11_wrong_9 ?_
    refine lv_goto (tgt := 19) hx hb dX11_wrong_12 (by decide) ?_
    refine put_44_17 C hw q_1168 dX11_wrong_19 (fun H locs hw => ?_)
    refine nm_S hf hw (fun S2 hf hw => ?_)
    refine lv_iconst (v := 0) hx hb dX11_wrong_22 kc_0 ?_
    exact ret_iS C hw dX11_wrong_23 hf
end
theorem t_Mo_wrong {l : Launch} {V : St} {S : St} {r : Int32} {S9 : St} (hf : Mo_wrong S = some (r, S9)) : Ct l (wM V) yX11_wrong cX11_wrong 1 (some .int) 1 (fun E => [.ref (ea E 44)]) S (fun E => some (.int r)) S9 :=
  ofBlock (by decide +kernel) (fun _ => Nat.le_of_ble_eq_true rfl) (fun E p e s m args below meth c ls C hw hl => w_Mo_wrong C hw hl hf)
theorem dX11_takes_0 : decode cX11_takes 0 = .ok (.aload_n 0, 1) := by decide +kernel
theorem dX11_takes_1 : decode cX11_takes 1 = .ok (.getfield 157, 3) := by decide +kernel
theorem dX11_takes_4 : decode cX11_takes 4 = .ok (.ifCond .ge 11, 3) := by decide +kernel
theorem dX11_takes_7 : decode cX11_takes 7 = .ok (.aload_n 0, 1) := by decide +kernel
theorem dX11_takes_8 : decode cX11_takes 8 = .ok (.invokevirtual 160, 3) := by decide +kernel
theorem dX11_takes_11 : decode cX11_takes 11 = .ok (.iload_n 1, 1) := by decide +kernel
theorem dX11_takes_12 : decode cX11_takes 12 = .ok (.if_icmp .eq 5, 3) := by decide +kernel
theorem dX11_takes_15 : decode cX11_takes 15 = .ok (.iconst 0, 1) := by decide +kernel
theorem dX11_takes_16 : decode cX11_takes 16 = .ok (.ireturn, 1) := by decide +kernel
theorem dX11_takes_17 : decode cX11_takes 17 = .ok (.aload_n 0, 1) := by decide +kernel
theorem dX11_takes_18 : decode cX11_takes 18 = .ok (.dup, 1) := by decide +kernel
theorem dX11_takes_19 : decode cX11_takes 19 = .ok (.getfield 148, 3) := by decide +kernel
theorem dX11_takes_22 : decode cX11_takes 22 = .ok (.iconst 1, 1) := by decide +kernel
theorem dX11_takes_23 : decode cX11_takes 23 = .ok (.iadd, 1) := by decide +kernel
theorem dX11_takes_24 : decode cX11_takes 24 = .ok (.putfield 148, 3) := by decide +kernel
theorem dX11_takes_27 : decode cX11_takes 27 = .ok (.iconst 1, 1) := by decide +kernel
theorem dX11_takes_28 : decode cX11_takes 28 = .ok (.ireturn, 1) := by decide +kernel
section
variable {p : Program} {l : Launch} {e : Env} {s : State} {m : MethodId} {args : Array Value} {below : List Frame} {meth : Method} {c : Code} {H : Heap} {locs : List Loc} {E : Ev} {S V : St} {ls : Array Slot}
set_option maxRecDepth 20000 in
theorem w_Mo_takes {p1 : Int32} {r : Int32} {S9 : St} (C : Cx p s m args meth c E cX11_takes 2 RX11 (some .boolean)) (hw : Wd E (wM V E) s.heap S H locs) (hl : lv_has ls 2 [(0, .ref (ea E 44)), (1, .int p1)]) (hf : Mo_takes S p1 = some (r, S9)) : W p l e (rmh 2) s m args below meth c H locs 0 0 (MQ below (QW E (wM V E) (some (.int r)) S9) args s 0 0 (eA E)) (F0 m 0 ls []) := by
  have hx := C.1
  have hb := C.2.1
  unfold Mo_takes at hf
  refine lv_aload_n hx hb dX11_takes_0 rfl (lv_at hl 0 rfl) ?_
  refine get_44_17 C hw q_1168 dX11_takes_1 ?_
  refine lv_if_ge (tgt := 15) hx hb dX11_takes_4 (by decide) (fun q => ?_) (fun q => ?_)
  · have hf := hf_t q hf
    refine lv_iconst (v := 0) hx hb dX11_takes_15 kc_0 ?_
    exact ret_zS rfl C hw dX11_takes_16 hf
  · have hf := hf_f q hf
    refine lv_aload_n hx hb dX11_takes_7 rfl (lv_at hl 0 rfl) ?_
    obtain ⟨r1, hr, hf⟩ := hf_1 hf
    refine inv_Vi (q0 := 44) (ci := 11) (As := []) lk_X11_160 C hw rfl rfl rfl (t_Mo_byteAt hr) rfl hl.1 dX11_takes_8 rfl (Nat.le_of_ble_eq_true rfl) (by decide) (Nat.le_of_ble_eq_true rfl) rfl (fun H locs hw => ?_)
    refine lv_iload_n hx hb dX11_takes_11 rfl (lv_at hl 1 rfl) ?_
    refine lv_icmp_eq (tgt := 17) hx hb dX11_takes_12 (by decide) (fun q => ?_) (fun q => ?_)
    · have hf := hf_t q hf
      refine lv_aload_n hx hb dX11_takes_17 rfl (lv_at hl 0 rfl) ?_
      refine lv_dup hx hb dX11_takes_18 rfl ?_
      refine get_44_15 C hw q_1166 dX11_takes_19 ?_
      refine lv_iconst (v := 1) hx hb dX11_takes_22 kc_1 ?_
      refine lv_iadd hx hb dX11_takes_23 ?_
      refine put_44_15 C hw q_1166 dX11_takes_24 (fun H locs hw => ?_)
      refine nm_S hf hw (fun S2 hf hw => ?_)
      refine lv_iconst (v := 1) hx hb dX11_takes_27 kc_1 ?_
      exact ret_zS rfl C hw dX11_takes_28 hf
    · have hf := hf_f q hf
      refine lv_iconst (v := 0) hx hb dX11_takes_15 kc_0 ?_
      exact ret_zS rfl C hw dX11_takes_16 hf
end
theorem t_Mo_takes {l : Launch} {V : St} {S : St} {p1 : Int32} {r : Int32} {S9 : St} (hf : Mo_takes S p1 = some (r, S9)) : Ct l (wM V) yX11_takes cX11_takes 2 (some .boolean) 2 (fun E => [.ref (ea E 44), .int p1]) S (fun E => some (.int r)) S9 :=
  ofBlock (by decide +kernel) (fun _ => Nat.le_of_ble_eq_true rfl) (fun E p e s m args below meth c ls C hw hl => w_Mo_takes C hw hl hf)
theorem dX11_nameOf_0 : decode cX11_nameOf 0 = .ok (.iload_n 0, 1) := by decide +kernel
theorem dX11_nameOf_1 : decode cX11_nameOf 1 = .ok (.tableswitch 99 99 116 #[91, 99, 99, 99, 99, 99, 99, 99, 99, 89, 99, 99, 87, 97, 99, 93, 99, 95], 87) := by decide +kernel
theorem dX11_nameOf_88 : decode cX11_nameOf 88 = .ok (.iconst 0, 1) := by decide +kernel
theorem dX11_nameOf_89 : decode cX11_nameOf 89 = .ok (.ireturn, 1) := by decide +kernel
theorem dX11_nameOf_90 : decode cX11_nameOf 90 = .ok (.iconst 1, 1) := by decide +kernel
theorem dX11_nameOf_91 : decode cX11_nameOf 91 = .ok (.ireturn, 1) := by decide +kernel
theorem dX11_nameOf_92 : decode cX11_nameOf 92 = .ok (.iconst 2, 1) := by decide +kernel
theorem dX11_nameOf_93 : decode cX11_nameOf 93 = .ok (.ireturn, 1) := by decide +kernel
theorem dX11_nameOf_94 : decode cX11_nameOf 94 = .ok (.iconst 3, 1) := by decide +kernel
theorem dX11_nameOf_95 : decode cX11_nameOf 95 = .ok (.ireturn, 1) := by decide +kernel
theorem dX11_nameOf_96 : decode cX11_nameOf 96 = .ok (.iconst 4, 1) := by decide +kernel
theorem dX11_nameOf_97 : decode cX11_nameOf 97 = .ok (.ireturn, 1) := by decide +kernel
theorem dX11_nameOf_98 : decode cX11_nameOf 98 = .ok (.iconst 5, 1) := by decide +kernel
theorem dX11_nameOf_99 : decode cX11_nameOf 99 = .ok (.ireturn, 1) := by decide +kernel
theorem dX11_nameOf_100 : decode cX11_nameOf 100 = .ok (.iconst (-1), 1) := by decide +kernel
theorem dX11_nameOf_101 : decode cX11_nameOf 101 = .ok (.ireturn, 1) := by decide +kernel
section
variable {p : Program} {l : Launch} {e : Env} {s : State} {m : MethodId} {args : Array Value} {below : List Frame} {meth : Method} {c : Code} {H : Heap} {locs : List Loc} {E : Ev} {S V : St} {ls : Array Slot}
set_option maxRecDepth 20000 in
theorem w_Mo_nameOf {p1 : Int32} {r : Int32} (C : Cx p s m args meth c E cX11_nameOf 1 RX11 (some .int)) (hw : Wd E (wM V E) s.heap S H locs) (hl : lv_has ls 1 [(0, .int p1)]) (hf : Mo_nameOf S p1 = some r) : W p l e (rmh 1) s m args below meth c H locs 0 0 (MQ below (QW E (wM V E) (some (.int r)) S) args s 0 0 (eA E)) (F0 m 0 ls []) := by
  have hx := C.1
  have hb := C.2.1
  unfold Mo_nameOf at hf
  refine lv_iload_n hx hb dX11_nameOf_0 rfl (lv_at hl 0 rfl) ?_
  by_cases q0 : p1 = 99
  · have hf := hf_t q0 hf
    refine lv_tableIn (off := 91) (tgt := 92) hx hb dX11_nameOf_1 (by rw [q0]; decide) (by rw [q0]; decide) (by rw [q0]; rfl) (by decide) ?_
    refine lv_iconst (v := 2) hx hb dX11_nameOf_92 kc_2 ?_
    exact ret_i C hw dX11_nameOf_93 hf
  have hf := hf_f q0 hf
  by_cases q1 : p1 = 100
  · have hf := hf_t q1 hf
    refine lv_tableIn (off := 99) (tgt := 100) hx hb dX11_nameOf_1 (by rw [q1]; decide) (by rw [q1]; decide) (by rw [q1]; rfl) (by decide) ?_
    refine lv_iconst (v := -1) hx hb dX11_nameOf_100 kc_m1 ?_
    exact ret_i C hw dX11_nameOf_101 hf
  have hf := hf_f q1 hf
  by_cases q2 : p1 = 101
  · have hf := hf_t q2 hf
    refine lv_tableIn (off := 99) (tgt := 100) hx hb dX11_nameOf_1 (by rw [q2]; decide) (by rw [q2]; decide) (by rw [q2]; rfl) (by decide) ?_
    refine lv_iconst (v := -1) hx hb dX11_nameOf_100 kc_m1 ?_
    exact ret_i C hw dX11_nameOf_101 hf
  have hf := hf_f q2 hf
  by_cases q3 : p1 = 102
  · have hf := hf_t q3 hf
    refine lv_tableIn (off := 99) (tgt := 100) hx hb dX11_nameOf_1 (by rw [q3]; decide) (by rw [q3]; decide) (by rw [q3]; rfl) (by decide) ?_
    refine lv_iconst (v := -1) hx hb dX11_nameOf_100 kc_m1 ?_
    exact ret_i C hw dX11_nameOf_101 hf
  have hf := hf_f q3 hf
  by_cases q4 : p1 = 103
  · have hf := hf_t q4 hf
    refine lv_tableIn (off := 99) (tgt := 100) hx hb dX11_nameOf_1 (by rw [q4]; decide) (by rw [q4]; decide) (by rw [q4]; rfl) (by decide) ?_
    refine lv_iconst (v := -1) hx hb dX11_nameOf_100 kc_m1 ?_
    exact ret_i C hw dX11_nameOf_101 hf
  have hf := hf_f q4 hf
  by_cases q5 : p1 = 104
  · have hf := hf_t q5 hf
    refine lv_tableIn (off := 99) (tgt := 100) hx hb dX11_nameOf_1 (by rw [q5]; decide) (by rw [q5]; decide) (by rw [q5]; rfl) (by decide) ?_
    refine lv_iconst (v := -1) hx hb dX11_nameOf_100 kc_m1 ?_
    exact ret_i C hw dX11_nameOf_101 hf
  have hf := hf_f q5 hf
  by_cases q6 : p1 = 105
  · have hf := hf_t q6 hf
    refine lv_tableIn (off := 99) (tgt := 100) hx hb dX11_nameOf_1 (by rw [q6]; decide) (by rw [q6]; decide) (by rw [q6]; rfl) (by decide) ?_
    refine lv_iconst (v := -1) hx hb dX11_nameOf_100 kc_m1 ?_
    exact ret_i C hw dX11_nameOf_101 hf
  have hf := hf_f q6 hf
  by_cases q7 : p1 = 106
  · have hf := hf_t q7 hf
    refine lv_tableIn (off := 99) (tgt := 100) hx hb dX11_nameOf_1 (by rw [q7]; decide) (by rw [q7]; decide) (by rw [q7]; rfl) (by decide) ?_
    refine lv_iconst (v := -1) hx hb dX11_nameOf_100 kc_m1 ?_
    exact ret_i C hw dX11_nameOf_101 hf
  have hf := hf_f q7 hf
  by_cases q8 : p1 = 107
  · have hf := hf_t q8 hf
    refine lv_tableIn (off := 99) (tgt := 100) hx hb dX11_nameOf_1 (by rw [q8]; decide) (by rw [q8]; decide) (by rw [q8]; rfl) (by decide) ?_
    refine lv_iconst (v := -1) hx hb dX11_nameOf_100 kc_m1 ?_
    exact ret_i C hw dX11_nameOf_101 hf
  have hf := hf_f q8 hf
  by_cases q9 : p1 = 108
  · have hf := hf_t q9 hf
    refine lv_tableIn (off := 89) (tgt := 90) hx hb dX11_nameOf_1 (by rw [q9]; decide) (by rw [q9]; decide) (by rw [q9]; rfl) (by decide) ?_
    refine lv_iconst (v := 1) hx hb dX11_nameOf_90 kc_1 ?_
    exact ret_i C hw dX11_nameOf_91 hf
  have hf := hf_f q9 hf
  by_cases q10 : p1 = 109
  · have hf := hf_t q10 hf
    refine lv_tableIn (off := 99) (tgt := 100) hx hb dX11_nameOf_1 (by rw [q10]; decide) (by rw [q10]; decide) (by rw [q10]; rfl) (by decide) ?_
    refine lv_iconst (v := -1) hx hb dX11_nameOf_100 kc_m1 ?_
    exact ret_i C hw dX11_nameOf_101 hf
  have hf := hf_f q10 hf
  by_cases q11 : p1 = 110
  · have hf := hf_t q11 hf
    refine lv_tableIn (off := 99) (tgt := 100) hx hb dX11_nameOf_1 (by rw [q11]; decide) (by rw [q11]; decide) (by rw [q11]; rfl) (by decide) ?_
    refine lv_iconst (v := -1) hx hb dX11_nameOf_100 kc_m1 ?_
    exact ret_i C hw dX11_nameOf_101 hf
  have hf := hf_f q11 hf
  by_cases q12 : p1 = 111
  · have hf := hf_t q12 hf
    refine lv_tableIn (off := 87) (tgt := 88) hx hb dX11_nameOf_1 (by rw [q12]; decide) (by rw [q12]; decide) (by rw [q12]; rfl) (by decide) ?_
    refine lv_iconst (v := 0) hx hb dX11_nameOf_88 kc_0 ?_
    exact ret_i C hw dX11_nameOf_89 hf
  have hf := hf_f q12 hf
  by_cases q13 : p1 = 112
  · have hf := hf_t q13 hf
    refine lv_tableIn (off := 97) (tgt := 98) hx hb dX11_nameOf_1 (by rw [q13]; decide) (by rw [q13]; decide) (by rw [q13]; rfl) (by decide) ?_
    refine lv_iconst (v := 5) hx hb dX11_nameOf_98 kc_5 ?_
    exact ret_i C hw dX11_nameOf_99 hf
  have hf := hf_f q13 hf
  by_cases q14 : p1 = 113
  · have hf := hf_t q14 hf
    refine lv_tableIn (off := 99) (tgt := 100) hx hb dX11_nameOf_1 (by rw [q14]; decide) (by rw [q14]; decide) (by rw [q14]; rfl) (by decide) ?_
    refine lv_iconst (v := -1) hx hb dX11_nameOf_100 kc_m1 ?_
    exact ret_i C hw dX11_nameOf_101 hf
  have hf := hf_f q14 hf
  by_cases q15 : p1 = 114
  · have hf := hf_t q15 hf
    refine lv_tableIn (off := 93) (tgt := 94) hx hb dX11_nameOf_1 (by rw [q15]; decide) (by rw [q15]; decide) (by rw [q15]; rfl) (by decide) ?_
    refine lv_iconst (v := 3) hx hb dX11_nameOf_94 kc_3 ?_
    exact ret_i C hw dX11_nameOf_95 hf
  have hf := hf_f q15 hf
  by_cases q16 : p1 = 115
  · have hf := hf_t q16 hf
    refine lv_tableIn (off := 99) (tgt := 100) hx hb dX11_nameOf_1 (by rw [q16]; decide) (by rw [q16]; decide) (by rw [q16]; rfl) (by decide) ?_
    refine lv_iconst (v := -1) hx hb dX11_nameOf_100 kc_m1 ?_
    exact ret_i C hw dX11_nameOf_101 hf
  have hf := hf_f q16 hf
  by_cases q17 : p1 = 116
  · have hf := hf_t q17 hf
    refine lv_tableIn (off := 95) (tgt := 96) hx hb dX11_nameOf_1 (by rw [q17]; decide) (by rw [q17]; decide) (by rw [q17]; rfl) (by decide) ?_
    refine lv_iconst (v := 4) hx hb dX11_nameOf_96 kc_4 ?_
    exact ret_i C hw dX11_nameOf_97 hf
  have hf := hf_f q17 hf
  refine lv_tableOut (tgt := 100) hx hb dX11_nameOf_1 (by have h0 := lv_neT (a := 99) q0 rfl; have h1 := lv_neT (a := 100) q1 rfl; have h2 := lv_neT (a := 101) q2 rfl; have h3 := lv_neT (a := 102) q3 rfl; have h4 := lv_neT (a := 103) q4 rfl; have h5 := lv_neT (a := 104) q5 rfl; have h6 := lv_neT (a := 105) q6 rfl; have h7 := lv_neT (a := 106) q7 rfl; have h8 := lv_neT (a := 107) q8 rfl; have h9 := lv_neT (a := 108) q9 rfl; have h10 := lv_neT (a := 109) q10 rfl; have h11 := lv_neT (a := 110) q11 rfl; have h12 := lv_neT (a := 111) q12 rfl; have h13 := lv_neT (a := 112) q13 rfl; have h14 := lv_neT (a := 113) q14 rfl; have h15 := lv_neT (a := 114) q15 rfl; have h16 := lv_neT (a := 115) q16 rfl; have h17 := lv_neT (a := 116) q17 rfl; omega) (by decide) ?_
  refine lv_iconst (v := -1) hx hb dX11_nameOf_100 kc_m1 ?_
  exact ret_i C hw dX11_nameOf_101 hf
end
theorem t_Mo_nameOf {l : Launch} {V : St} {S : St} {p1 : Int32} {r : Int32} (hf : Mo_nameOf S p1 = some r) : Ct l (wM V) yX11_nameOf cX11_nameOf 1 (some .int) 1 (fun E => [.int p1]) S (fun E => some (.int r)) S :=
  ofBlock (by decide +kernel) (fun _ => Nat.le_of_ble_eq_true rfl) (fun E p e s m args below meth c ls C hw hl => w_Mo_nameOf C hw hl hf)
