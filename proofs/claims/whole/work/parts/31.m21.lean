theorem dX11_drawn_0 : decode cX11_drawn 0 = .ok (.iload_n 2, 1) := by decide +kernel
theorem dX11_drawn_1 : decode cX11_drawn 1 = .ok (.i2l, 1) := by decide +kernel
theorem dX11_drawn_2 : decode cX11_drawn 2 = .ok (.lconst 1, 1) := by decide +kernel
theorem dX11_drawn_3 : decode cX11_drawn 3 = .ok (.ldc2_w 93, 3) := by decide +kernel
theorem dX11_drawn_6 : decode cX11_drawn 6 = .ok (.invokestatic 84, 3) := by decide +kernel
theorem dX11_drawn_9 : decode cX11_drawn 9 = .ok (.ifCond .eq 27, 3) := by decide +kernel
theorem dX11_drawn_12 : decode cX11_drawn 12 = .ok (.aload_n 0, 1) := by decide +kernel
theorem dX11_drawn_13 : decode cX11_drawn 13 = .ok (.iload_n 3, 1) := by decide +kernel
theorem dX11_drawn_14 : decode cX11_drawn 14 = .ok (.i2l, 1) := by decide +kernel
theorem dX11_drawn_15 : decode cX11_drawn 15 = .ok (.invokevirtual 97, 3) := by decide +kernel
theorem dX11_drawn_18 : decode cX11_drawn 18 = .ok (.ifCond .eq 18, 3) := by decide +kernel
theorem dX11_drawn_21 : decode cX11_drawn 21 = .ok (.iload 4, 2) := by decide +kernel
theorem dX11_drawn_23 : decode cX11_drawn 23 = .ok (.iconst (-1), 1) := by decide +kernel
theorem dX11_drawn_24 : decode cX11_drawn 24 = .ok (.if_icmp .eq 14, 3) := by decide +kernel
theorem dX11_drawn_27 : decode cX11_drawn 27 = .ok (.iload 4, 2) := by decide +kernel
theorem dX11_drawn_29 : decode cX11_drawn 29 = .ok (.i2l, 1) := by decide +kernel
theorem dX11_drawn_30 : decode cX11_drawn 30 = .ok (.invokestatic 101, 3) := by decide +kernel
theorem dX11_drawn_33 : decode cX11_drawn 33 = .ok (.ifCond .ne 5, 3) := by decide +kernel
theorem dX11_drawn_36 : decode cX11_drawn 36 = .ok (.iconst (-1), 1) := by decide +kernel
theorem dX11_drawn_37 : decode cX11_drawn 37 = .ok (.ireturn, 1) := by decide +kernel
theorem dX11_drawn_38 : decode cX11_drawn 38 = .ok (.iconst 0, 1) := by decide +kernel
theorem dX11_drawn_39 : decode cX11_drawn 39 = .ok (.istore 5, 2) := by decide +kernel
theorem dX11_drawn_41 : decode cX11_drawn 41 = .ok (.iload 5, 2) := by decide +kernel
theorem dX11_drawn_43 : decode cX11_drawn 43 = .ok (.aload_n 0, 1) := by decide +kernel
theorem dX11_drawn_44 : decode cX11_drawn 44 = .ok (.getfield 88, 3) := by decide +kernel
theorem dX11_drawn_47 : decode cX11_drawn 47 = .ok (.if_icmp .ge 26, 3) := by decide +kernel
theorem dX11_drawn_50 : decode cX11_drawn 50 = .ok (.aload_n 0, 1) := by decide +kernel
theorem dX11_drawn_51 : decode cX11_drawn 51 = .ok (.getfield 40, 3) := by decide +kernel
theorem dX11_drawn_54 : decode cX11_drawn 54 = .ok (.iload 5, 2) := by decide +kernel
theorem dX11_drawn_56 : decode cX11_drawn 56 = .ok (.aload_n 0, 1) := by decide +kernel
theorem dX11_drawn_57 : decode cX11_drawn 57 = .ok (.getfield 9, 3) := by decide +kernel
theorem dX11_drawn_60 : decode cX11_drawn 60 = .ok (.bipush 38, 2) := by decide +kernel
theorem dX11_drawn_62 : decode cX11_drawn 62 = .ok (.iload 5, 2) := by decide +kernel
theorem dX11_drawn_64 : decode cX11_drawn 64 = .ok (.iadd, 1) := by decide +kernel
theorem dX11_drawn_65 : decode cX11_drawn 65 = .ok (.iaload, 1) := by decide +kernel
theorem dX11_drawn_66 : decode cX11_drawn 66 = .ok (.iastore, 1) := by decide +kernel
theorem dX11_drawn_67 : decode cX11_drawn 67 = .ok (.iinc 5 1, 3) := by decide +kernel
theorem dX11_drawn_70 : decode cX11_drawn 70 = .ok (.goto (-29), 3) := by decide +kernel
theorem dX11_drawn_73 : decode cX11_drawn 73 = .ok (.iload_n 1, 1) := by decide +kernel
theorem dX11_drawn_74 : decode cX11_drawn 74 = .ok (.istore 5, 2) := by decide +kernel
theorem dX11_drawn_76 : decode cX11_drawn 76 = .ok (.iconst 0, 1) := by decide +kernel
theorem dX11_drawn_77 : decode cX11_drawn 77 = .ok (.istore 6, 2) := by decide +kernel
theorem dX11_drawn_79 : decode cX11_drawn 79 = .ok (.iconst 0, 1) := by decide +kernel
theorem dX11_drawn_80 : decode cX11_drawn 80 = .ok (.istore 7, 2) := by decide +kernel
theorem dX11_drawn_82 : decode cX11_drawn 82 = .ok (.iload 7, 2) := by decide +kernel
theorem dX11_drawn_84 : decode cX11_drawn 84 = .ok (.iload_n 2, 1) := by decide +kernel
theorem dX11_drawn_85 : decode cX11_drawn 85 = .ok (.if_icmp .ge 133, 3) := by decide +kernel
theorem dX11_drawn_88 : decode cX11_drawn 88 = .ok (.iconst 0, 1) := by decide +kernel
theorem dX11_drawn_89 : decode cX11_drawn 89 = .ok (.istore 8, 2) := by decide +kernel
theorem dX11_drawn_91 : decode cX11_drawn 91 = .ok (.iload 8, 2) := by decide +kernel
theorem dX11_drawn_93 : decode cX11_drawn 93 = .ok (.aload_n 0, 1) := by decide +kernel
theorem dX11_drawn_94 : decode cX11_drawn 94 = .ok (.getfield 88, 3) := by decide +kernel
theorem dX11_drawn_97 : decode cX11_drawn 97 = .ok (.if_icmp .ge 59, 3) := by decide +kernel
theorem dX11_drawn_100 : decode cX11_drawn 100 = .ok (.iload 5, 2) := by decide +kernel
theorem dX11_drawn_102 : decode cX11_drawn 102 = .ok (.ldc_w 264, 3) := by decide +kernel
theorem dX11_drawn_105 : decode cX11_drawn 105 = .ok (.imul, 1) := by decide +kernel
theorem dX11_drawn_106 : decode cX11_drawn 106 = .ok (.sipush 12345, 3) := by decide +kernel
theorem dX11_drawn_109 : decode cX11_drawn 109 = .ok (.iadd, 1) := by decide +kernel
theorem dX11_drawn_110 : decode cX11_drawn 110 = .ok (.istore 5, 2) := by decide +kernel
theorem dX11_drawn_112 : decode cX11_drawn 112 = .ok (.iload 5, 2) := by decide +kernel
theorem dX11_drawn_114 : decode cX11_drawn 114 = .ok (.bipush 8, 2) := by decide +kernel
theorem dX11_drawn_116 : decode cX11_drawn 116 = .ok (.iushr, 1) := by decide +kernel
theorem dX11_drawn_117 : decode cX11_drawn 117 = .ok (.bipush 100, 2) := by decide +kernel
theorem dX11_drawn_119 : decode cX11_drawn 119 = .ok (.irem, 1) := by decide +kernel
theorem dX11_drawn_120 : decode cX11_drawn 120 = .ok (.istore 9, 2) := by decide +kernel
theorem dX11_drawn_122 : decode cX11_drawn 122 = .ok (.aload_n 0, 1) := by decide +kernel
theorem dX11_drawn_123 : decode cX11_drawn 123 = .ok (.getfield 9, 3) := by decide +kernel
theorem dX11_drawn_126 : decode cX11_drawn 126 = .ok (.bipush 38, 2) := by decide +kernel
theorem dX11_drawn_128 : decode cX11_drawn 128 = .ok (.iload 8, 2) := by decide +kernel
theorem dX11_drawn_130 : decode cX11_drawn 130 = .ok (.iadd, 1) := by decide +kernel
theorem dX11_drawn_131 : decode cX11_drawn 131 = .ok (.iload 9, 2) := by decide +kernel
theorem dX11_drawn_133 : decode cX11_drawn 133 = .ok (.aload_n 0, 1) := by decide +kernel
theorem dX11_drawn_134 : decode cX11_drawn 134 = .ok (.getfield 25, 3) := by decide +kernel
theorem dX11_drawn_137 : decode cX11_drawn 137 = .ok (.iload 8, 2) := by decide +kernel
theorem dX11_drawn_139 : decode cX11_drawn 139 = .ok (.iaload, 1) := by decide +kernel
theorem dX11_drawn_140 : decode cX11_drawn 140 = .ok (.if_icmp .lt 8, 3) := by decide +kernel
theorem dX11_drawn_143 : decode cX11_drawn 143 = .ok (.iload 9, 2) := by decide +kernel
theorem dX11_drawn_145 : decode cX11_drawn 145 = .ok (.goto 4, 3) := by decide +kernel
theorem dX11_drawn_148 : decode cX11_drawn 148 = .ok (.iconst (-1), 1) := by decide +kernel
theorem dX11_drawn_149 : decode cX11_drawn 149 = .ok (.iastore, 1) := by decide +kernel
theorem dX11_drawn_150 : decode cX11_drawn 150 = .ok (.iinc 8 1, 3) := by decide +kernel
theorem dX11_drawn_153 : decode cX11_drawn 153 = .ok (.goto (-62), 3) := by decide +kernel
theorem dX11_drawn_156 : decode cX11_drawn 156 = .ok (.iload 4, 2) := by decide +kernel
theorem dX11_drawn_158 : decode cX11_drawn 158 = .ok (.ifCond .ge 7, 3) := by decide +kernel
theorem dX11_drawn_161 : decode cX11_drawn 161 = .ok (.iconst 0, 1) := by decide +kernel
theorem dX11_drawn_162 : decode cX11_drawn 162 = .ok (.goto 5, 3) := by decide +kernel
theorem dX11_drawn_165 : decode cX11_drawn 165 = .ok (.iload 4, 2) := by decide +kernel
theorem dX11_drawn_167 : decode cX11_drawn 167 = .ok (.istore 8, 2) := by decide +kernel
theorem dX11_drawn_169 : decode cX11_drawn 169 = .ok (.iload 8, 2) := by decide +kernel
theorem dX11_drawn_171 : decode cX11_drawn 171 = .ok (.iload 4, 2) := by decide +kernel
theorem dX11_drawn_173 : decode cX11_drawn 173 = .ok (.ifCond .ge 8, 3) := by decide +kernel
theorem dX11_drawn_176 : decode cX11_drawn 176 = .ok (.bipush 99, 2) := by decide +kernel
theorem dX11_drawn_178 : decode cX11_drawn 178 = .ok (.goto 5, 3) := by decide +kernel
theorem dX11_drawn_181 : decode cX11_drawn 181 = .ok (.iload 4, 2) := by decide +kernel
theorem dX11_drawn_183 : decode cX11_drawn 183 = .ok (.if_icmp .gt 29, 3) := by decide +kernel
theorem dX11_drawn_186 : decode cX11_drawn 186 = .ok (.iload 6, 2) := by decide +kernel
theorem dX11_drawn_188 : decode cX11_drawn 188 = .ok (.aload_n 0, 1) := by decide +kernel
theorem dX11_drawn_189 : decode cX11_drawn 189 = .ok (.iload_n 3, 1) := by decide +kernel
theorem dX11_drawn_190 : decode cX11_drawn 190 = .ok (.iload 8, 2) := by decide +kernel
theorem dX11_drawn_192 : decode cX11_drawn 192 = .ok (.invokevirtual 214, 3) := by decide +kernel
theorem dX11_drawn_195 : decode cX11_drawn 195 = .ok (.ifCond .eq 7, 3) := by decide +kernel
theorem dX11_drawn_198 : decode cX11_drawn 198 = .ok (.iconst 1, 1) := by decide +kernel
theorem dX11_drawn_199 : decode cX11_drawn 199 = .ok (.goto 4, 3) := by decide +kernel
theorem dX11_drawn_202 : decode cX11_drawn 202 = .ok (.iconst 0, 1) := by decide +kernel
theorem dX11_drawn_203 : decode cX11_drawn 203 = .ok (.iadd, 1) := by decide +kernel
theorem dX11_drawn_204 : decode cX11_drawn 204 = .ok (.istore 6, 2) := by decide +kernel
theorem dX11_drawn_206 : decode cX11_drawn 206 = .ok (.iinc 8 1, 3) := by decide +kernel
theorem dX11_drawn_209 : decode cX11_drawn 209 = .ok (.goto (-40), 3) := by decide +kernel
theorem dX11_drawn_212 : decode cX11_drawn 212 = .ok (.iinc 7 1, 3) := by decide +kernel
theorem dX11_drawn_215 : decode cX11_drawn 215 = .ok (.goto (-133), 3) := by decide +kernel
theorem dX11_drawn_218 : decode cX11_drawn 218 = .ok (.iconst 0, 1) := by decide +kernel
theorem dX11_drawn_219 : decode cX11_drawn 219 = .ok (.istore 7, 2) := by decide +kernel
theorem dX11_drawn_221 : decode cX11_drawn 221 = .ok (.iload 7, 2) := by decide +kernel
theorem dX11_drawn_223 : decode cX11_drawn 223 = .ok (.aload_n 0, 1) := by decide +kernel
theorem dX11_drawn_224 : decode cX11_drawn 224 = .ok (.getfield 88, 3) := by decide +kernel
theorem dX11_drawn_227 : decode cX11_drawn 227 = .ok (.if_icmp .ge 26, 3) := by decide +kernel
theorem dX11_drawn_230 : decode cX11_drawn 230 = .ok (.aload_n 0, 1) := by decide +kernel
theorem dX11_drawn_231 : decode cX11_drawn 231 = .ok (.getfield 9, 3) := by decide +kernel
theorem dX11_drawn_234 : decode cX11_drawn 234 = .ok (.bipush 38, 2) := by decide +kernel
theorem dX11_drawn_236 : decode cX11_drawn 236 = .ok (.iload 7, 2) := by decide +kernel
theorem dX11_drawn_238 : decode cX11_drawn 238 = .ok (.iadd, 1) := by decide +kernel
theorem dX11_drawn_239 : decode cX11_drawn 239 = .ok (.aload_n 0, 1) := by decide +kernel
theorem dX11_drawn_240 : decode cX11_drawn 240 = .ok (.getfield 40, 3) := by decide +kernel
theorem dX11_drawn_243 : decode cX11_drawn 243 = .ok (.iload 7, 2) := by decide +kernel
theorem dX11_drawn_245 : decode cX11_drawn 245 = .ok (.iaload, 1) := by decide +kernel
theorem dX11_drawn_246 : decode cX11_drawn 246 = .ok (.iastore, 1) := by decide +kernel
theorem dX11_drawn_247 : decode cX11_drawn 247 = .ok (.iinc 7 1, 3) := by decide +kernel
theorem dX11_drawn_250 : decode cX11_drawn 250 = .ok (.goto (-29), 3) := by decide +kernel
theorem dX11_drawn_253 : decode cX11_drawn 253 = .ok (.iload 6, 2) := by decide +kernel
theorem dX11_drawn_255 : decode cX11_drawn 255 = .ok (.ireturn, 1) := by decide +kernel
section
variable {p : Program} {l : Launch} {e : Env} {s : State} {m : MethodId} {args : Array Value} {below : List Frame} {meth : Method} {c : Code} {H : Heap} {locs : List Loc} {E : Ev} {S V : St} {ls : Array Slot}
set_option maxRecDepth 20000 in
theorem w_Mo_drawn_b221 {N : Nat} {k221 : (St × Int32) → Option (Int32 × St)} {l6 : Int32} {l7 : Int32} {r : Int32} {S9 : St} (C : Cx p s m args meth c E cX11_drawn 10 RX11 (some .int)) (hk221 : ∀ x, k221 x = some (r, S9) → ∀ (H : Heap) (locs : List Loc) (ls : Array Slot), Wd E (wM V E) s.heap x.1 H locs → lv_has ls 10 [(0, .ref (ea E 44)), (6, .int l6), (7, .int x.2)] → W p l e (rmh 4) s m args below meth c H locs 0 0 (MQ below (QW E (wM V E) (some (.int r)) S9) args s 0 0 (eA E)) (F0 m 221 ls [])) (hw : Wd E (wM V E) s.heap S H locs) (hl : lv_has ls 10 [(0, .ref (ea E 44)), (6, .int l6), (7, .int l7)]) (hf : Mo_drawn_b221 N k221 S l6 l7 = some (r, S9)) : W p l e (rmh 4) s m args below meth c H locs 0 0 (MQ below (QW E (wM V E) (some (.int r)) S9) args s 0 0 (eA E)) (F0 m 221 ls []) := by
  have hx := C.1
  have hb := C.2.1
  unfold Mo_drawn_b221 at hf
  refine lv_iload hx hb dX11_drawn_221 (lv_at hl 2 rfl) ?_
  refine lv_aload_n hx hb dX11_drawn_223 rfl (lv_at hl 0 rfl) ?_
  refine get_44_7 C hw q_1158 dX11_drawn_224 ?_
  refine lv_icmp_ge (tgt := 253) hx hb dX11_drawn_227 (by decide) (fun q => ?_) (fun q => ?_)
  · have hf := hf_t q hf
    refine lv_iload hx hb dX11_drawn_253 (lv_at hl 1 rfl) ?_
    exact ret_iS C hw dX11_drawn_255 hf
  · have hf := hf_f q hf
    refine lv_aload_n hx hb dX11_drawn_230 rfl (lv_at hl 0 rfl) ?_
    refine get_44_0 C hw q_1151 dX11_drawn_231 ?_
    refine lv_bipush (v := 38) hx hb dX11_drawn_234 kb_38 ?_
    refine lv_iload hx hb dX11_drawn_236 (lv_at hl 2 rfl) ?_
    refine lv_iadd hx hb dX11_drawn_238 ?_
    refine lv_aload_n hx hb dX11_drawn_239 rfl (lv_at hl 0 rfl) ?_
    refine get_44_21 C hw q_1172 dX11_drawn_240 ?_
    refine lv_iload hx hb dX11_drawn_243 (lv_at hl 2 rfl) ?_
    obtain ⟨hc, hf⟩ := hf_ck hf
    refine ld_55 C hw hc dX11_drawn_245 ?_
    obtain ⟨hc, hf⟩ := hf_ck hf
    refine st_45 C hw hc dX11_drawn_246 (fun H locs hw => ?_)
    refine nm_S hf hw (fun S1 hf hw => ?_)
    obtain ⟨x2, ex2, hf⟩ := nme hf
    refine lv_iinc (v := x2) (lv' := [(7, .int x2), (0, .ref (ea E 44)), (6, .int l6)]) hx hb dX11_drawn_247 hl (k := 2) rfl (ki_1 ex2) (by decide) rfl (fun ls hl => ?_)
    refine lv_goto (tgt := 221) hx hb dX11_drawn_250 (by decide) ?_
    exact hk221 _ hf _ _ _ hw (lv_sub hl [1, 2, 0] rfl)
theorem w_Mo_drawn_L221 {N : Nat} {l6 : Int32} {r : Int32} {S9 : St} (C : Cx p s m args meth c E cX11_drawn 10 RX11 (some .int)) : ∀ x, Mo_drawn_L221 N l6 x = some (r, S9) → ∀ (H : Heap) (locs : List Loc) (ls : Array Slot), Wd E (wM V E) s.heap x.1 H locs → lv_has ls 10 [(0, .ref (ea E 44)), (6, .int l6), (7, .int x.2)] → W p l e (rmh 4) s m args below meth c H locs 0 0 (MQ below (QW E (wM V E) (some (.int r)) S9) args s 0 0 (eA E)) (F0 m 221 ls []) :=
  lp_W (fun k x hk hf H locs ls hw hl => w_Mo_drawn_b221 C hk hw hl hf) N
set_option maxRecDepth 20000 in
theorem w_Mo_drawn_b183 {N : Nat} {k82 : (St × Int32 × Int32 × Int32) → Option (Int32 × St)} {k169 : (Int32 × Int32) → Option (Int32 × St)} {l2 : Int32} {l3 : Int32} {l4 : Int32} {l5 : Int32} {l6 : Int32} {l7 : Int32} {l8 : Int32} {s0 : Int32} {s1 : Int32} {r : Int32} {S9 : St} (C : Cx p s m args meth c E cX11_drawn 10 RX11 (some .int)) (hk82 : ∀ x, k82 x = some (r, S9) → ∀ (H : Heap) (locs : List Loc) (ls : Array Slot), Wd E (wM V E) s.heap x.1 H locs → lv_has ls 10 [(0, .ref (ea E 44)), (2, .int l2), (3, .int l3), (4, .int l4), (5, .int x.2.1), (6, .int x.2.2.1), (7, .int x.2.2.2)] → W p l e (rmh 4) s m args below meth c H locs 0 0 (MQ below (QW E (wM V E) (some (.int r)) S9) args s 0 0 (eA E)) (F0 m 82 ls [])) (hk169 : ∀ x, k169 x = some (r, S9) → ∀ (H : Heap) (locs : List Loc) (ls : Array Slot), Wd E (wM V E) s.heap S H locs → lv_has ls 10 [(0, .ref (ea E 44)), (2, .int l2), (3, .int l3), (4, .int l4), (5, .int l5), (6, .int x.1), (7, .int l7), (8, .int x.2)] → W p l e (rmh 4) s m args below meth c H locs 0 0 (MQ below (QW E (wM V E) (some (.int r)) S9) args s 0 0 (eA E)) (F0 m 169 ls [])) (hw : Wd E (wM V E) s.heap S H locs) (hl : lv_has ls 10 [(0, .ref (ea E 44)), (2, .int l2), (3, .int l3), (4, .int l4), (5, .int l5), (6, .int l6), (7, .int l7), (8, .int l8)]) (hf : Mo_drawn_b183 N k82 k169 S l2 l3 l4 l5 l6 l7 l8 s0 s1 = some (r, S9)) : W p l e (rmh 4) s m args below meth c H locs 0 0 (MQ below (QW E (wM V E) (some (.int r)) S9) args s 0 0 (eA E)) (F0 m 183 ls [.int s0, .int s1]) := by
  have hx := C.1
  have hb := C.2.1
  unfold Mo_drawn_b183 at hf
  refine lv_icmp_gt (tgt := 212) hx hb dX11_drawn_183 (by decide) (fun q => ?_) (fun q => ?_)
  · have hf := hf_t q hf
    obtain ⟨x1, ex1, hf⟩ := nme hf
    refine lv_iinc (v := x1) (lv' := [(7, .int x1), (0, .ref (ea E 44)), (2, .int l2), (3, .int l3), (4, .int l4), (5, .int l5), (6, .int l6), (8, .int l8)]) hx hb dX11_drawn_212 hl (k := 6) rfl (ki_1 ex1) (by decide) rfl (fun ls hl => ?_)
    refine lv_goto (tgt := 82) hx hb dX11_drawn_215 (by decide) ?_
    exact hk82 _ hf _ _ _ hw (lv_sub hl [1, 2, 3, 4, 5, 6, 0] rfl)
  · have hf := hf_f q hf
    refine lv_iload hx hb dX11_drawn_186 (lv_at hl 5 rfl) ?_
    refine lv_aload_n hx hb dX11_drawn_188 rfl (lv_at hl 0 rfl) ?_
    refine lv_iload_n hx hb dX11_drawn_189 rfl (lv_at hl 2 rfl) ?_
    refine lv_iload hx hb dX11_drawn_190 (lv_at hl 7 rfl) ?_
    obtain ⟨r2, hr, hf⟩ := hf_1 hf
    refine inv_Vi (q0 := 44) (ci := 11) (As := [.int l3, .int l8]) lk_X11_214 C hw rfl rfl rfl (t_Mo_doesRide hr) rfl hl.1 dX11_drawn_192 rfl (Nat.le_of_ble_eq_true rfl) (by decide) (Nat.le_of_ble_eq_true rfl) rfl (fun H locs hw => ?_)
    refine lv_if_eq (tgt := 202) hx hb dX11_drawn_195 (by decide) (fun q => ?_) (fun q => ?_)
    · have hf := hf_t q hf
      refine lv_iconst (v := 0) hx hb dX11_drawn_202 kc_0 ?_
      refine lv_iadd hx hb dX11_drawn_203 ?_
      refine nm_i hf (fun x3 hf => ?_)
      refine lv_istore (lv' := [(6, .int x3), (0, .ref (ea E 44)), (2, .int l2), (3, .int l3), (4, .int l4), (5, .int l5), (7, .int l7), (8, .int l8)]) hx hb dX11_drawn_204 hl (by decide) rfl (fun ls hl => ?_)
      obtain ⟨x4, ex4, hf⟩ := nme hf
      refine lv_iinc (v := x4) (lv' := [(8, .int x4), (6, .int x3), (0, .ref (ea E 44)), (2, .int l2), (3, .int l3), (4, .int l4), (5, .int l5), (7, .int l7)]) hx hb dX11_drawn_206 hl (k := 7) rfl (ki_1 ex4) (by decide) rfl (fun ls hl => ?_)
      refine lv_goto (tgt := 169) hx hb dX11_drawn_209 (by decide) ?_
      exact hk169 _ hf _ _ _ hw (lv_sub hl [2, 3, 4, 5, 6, 1, 7, 0] rfl)
    · have hf := hf_f q hf
      refine lv_iconst (v := 1) hx hb dX11_drawn_198 kc_1 ?_
      refine lv_goto (tgt := 203) hx hb dX11_drawn_199 (by decide) ?_
      refine lv_iadd hx hb dX11_drawn_203 ?_
      refine nm_i hf (fun x5 hf => ?_)
      refine lv_istore (lv' := [(6, .int x5), (0, .ref (ea E 44)), (2, .int l2), (3, .int l3), (4, .int l4), (5, .int l5), (7, .int l7), (8, .int l8)]) hx hb dX11_drawn_204 hl (by decide) rfl (fun ls hl => ?_)
      obtain ⟨x6, ex6, hf⟩ := nme hf
      refine lv_iinc (v := x6) (lv' := [(8, .int x6), (6, .int x5), (0, .ref (ea E 44)), (2, .int l2), (3, .int l3), (4, .int l4), (5, .int l5), (7, .int l7)]) hx hb dX11_drawn_206 hl (k := 7) rfl (ki_1 ex6) (by decide) rfl (fun ls hl => ?_)
      refine lv_goto (tgt := 169) hx hb dX11_drawn_209 (by decide) ?_
      exact hk169 _ hf _ _ _ hw (lv_sub hl [2, 3, 4, 5, 6, 1, 7, 0] rfl)
set_option maxRecDepth 20000 in
theorem w_Mo_drawn_b169 {N : Nat} {k82 : (St × Int32 × Int32 × Int32) → Option (Int32 × St)} {k169 : (Int32 × Int32) → Option (Int32 × St)} {l2 : Int32} {l3 : Int32} {l4 : Int32} {l5 : Int32} {l7 : Int32} {l6 : Int32} {l8 : Int32} {r : Int32} {S9 : St} (C : Cx p s m args meth c E cX11_drawn 10 RX11 (some .int)) (hk82 : ∀ x, k82 x = some (r, S9) → ∀ (H : Heap) (locs : List Loc) (ls : Array Slot), Wd E (wM V E) s.heap x.1 H locs → lv_has ls 10 [(0, .ref (ea E 44)), (2, .int l2), (3, .int l3), (4, .int l4), (5, .int x.2.1), (6, .int x.2.2.1), (7, .int x.2.2.2)] → W p l e (rmh 4) s m args below meth c H locs 0 0 (MQ below (QW E (wM V E) (some (.int r)) S9) args s 0 0 (eA E)) (F0 m 82 ls [])) (hk169 : ∀ x, k169 x = some (r, S9) → ∀ (H : Heap) (locs : List Loc) (ls : Array Slot), Wd E (wM V E) s.heap S H locs → lv_has ls 10 [(0, .ref (ea E 44)), (2, .int l2), (3, .int l3), (4, .int l4), (5, .int l5), (6, .int x.1), (7, .int l7), (8, .int x.2)] → W p l e (rmh 4) s m args below meth c H locs 0 0 (MQ below (QW E (wM V E) (some (.int r)) S9) args s 0 0 (eA E)) (F0 m 169 ls [])) (hw : Wd E (wM V E) s.heap S H locs) (hl : lv_has ls 10 [(0, .ref (ea E 44)), (2, .int l2), (3, .int l3), (4, .int l4), (5, .int l5), (6, .int l6), (7, .int l7), (8, .int l8)]) (hf : Mo_drawn_b169 N k82 k169 S l2 l3 l4 l5 l7 l6 l8 = some (r, S9)) : W p l e (rmh 4) s m args below meth c H locs 0 0 (MQ below (QW E (wM V E) (some (.int r)) S9) args s 0 0 (eA E)) (F0 m 169 ls []) := by
  have hx := C.1
  have hb := C.2.1
  unfold Mo_drawn_b169 at hf
  refine lv_iload hx hb dX11_drawn_169 (lv_at hl 7 rfl) ?_
  refine lv_iload hx hb dX11_drawn_171 (lv_at hl 3 rfl) ?_
  refine lv_if_ge (tgt := 181) hx hb dX11_drawn_173 (by decide) (fun q => ?_) (fun q => ?_)
  · have hf := hf_t q hf
    refine lv_iload hx hb dX11_drawn_181 (lv_at hl 3 rfl) ?_
    exact w_Mo_drawn_b183 C hk82 hk169 hw (lv_sub hl [0, 1, 2, 3, 4, 5, 6, 7] rfl) hf
  · have hf := hf_f q hf
    refine lv_bipush (v := 99) hx hb dX11_drawn_176 kb_99 ?_
    refine lv_goto (tgt := 183) hx hb dX11_drawn_178 (by decide) ?_
    exact w_Mo_drawn_b183 C hk82 hk169 hw (lv_sub hl [0, 1, 2, 3, 4, 5, 6, 7] rfl) hf
theorem w_Mo_drawn_L169 {N : Nat} {k82 : (St × Int32 × Int32 × Int32) → Option (Int32 × St)} {l2 : Int32} {l3 : Int32} {l4 : Int32} {l5 : Int32} {l7 : Int32} {r : Int32} {S9 : St} (C : Cx p s m args meth c E cX11_drawn 10 RX11 (some .int)) (hk82 : ∀ x, k82 x = some (r, S9) → ∀ (H : Heap) (locs : List Loc) (ls : Array Slot), Wd E (wM V E) s.heap x.1 H locs → lv_has ls 10 [(0, .ref (ea E 44)), (2, .int l2), (3, .int l3), (4, .int l4), (5, .int x.2.1), (6, .int x.2.2.1), (7, .int x.2.2.2)] → W p l e (rmh 4) s m args below meth c H locs 0 0 (MQ below (QW E (wM V E) (some (.int r)) S9) args s 0 0 (eA E)) (F0 m 82 ls [])) : ∀ x, Mo_drawn_L169 N k82 S l2 l3 l4 l5 l7 x = some (r, S9) → ∀ (H : Heap) (locs : List Loc) (ls : Array Slot), Wd E (wM V E) s.heap S H locs → lv_has ls 10 [(0, .ref (ea E 44)), (2, .int l2), (3, .int l3), (4, .int l4), (5, .int l5), (6, .int x.1), (7, .int l7), (8, .int x.2)] → W p l e (rmh 4) s m args below meth c H locs 0 0 (MQ below (QW E (wM V E) (some (.int r)) S9) args s 0 0 (eA E)) (F0 m 169 ls []) :=
  lp_W (fun k x hk hf H locs ls hw hl => w_Mo_drawn_b169 C hk82 hk hw hl hf) N
set_option maxRecDepth 20000 in
theorem w_Mo_drawn_b91 {N : Nat} {k82 : (St × Int32 × Int32 × Int32) → Option (Int32 × St)} {k91 : (St × Int32 × Int32) → Option (Int32 × St)} {l2 : Int32} {l3 : Int32} {l4 : Int32} {l6 : Int32} {l7 : Int32} {l5 : Int32} {l8 : Int32} {r : Int32} {S9 : St} (C : Cx p s m args meth c E cX11_drawn 10 RX11 (some .int)) (hk82 : ∀ x, k82 x = some (r, S9) → ∀ (H : Heap) (locs : List Loc) (ls : Array Slot), Wd E (wM V E) s.heap x.1 H locs → lv_has ls 10 [(0, .ref (ea E 44)), (2, .int l2), (3, .int l3), (4, .int l4), (5, .int x.2.1), (6, .int x.2.2.1), (7, .int x.2.2.2)] → W p l e (rmh 4) s m args below meth c H locs 0 0 (MQ below (QW E (wM V E) (some (.int r)) S9) args s 0 0 (eA E)) (F0 m 82 ls [])) (hk91 : ∀ x, k91 x = some (r, S9) → ∀ (H : Heap) (locs : List Loc) (ls : Array Slot), Wd E (wM V E) s.heap x.1 H locs → lv_has ls 10 [(0, .ref (ea E 44)), (2, .int l2), (3, .int l3), (4, .int l4), (5, .int x.2.1), (6, .int l6), (7, .int l7), (8, .int x.2.2)] → W p l e (rmh 4) s m args below meth c H locs 0 0 (MQ below (QW E (wM V E) (some (.int r)) S9) args s 0 0 (eA E)) (F0 m 91 ls [])) (hw : Wd E (wM V E) s.heap S H locs) (hl : lv_has ls 10 [(0, .ref (ea E 44)), (2, .int l2), (3, .int l3), (4, .int l4), (5, .int l5), (6, .int l6), (7, .int l7), (8, .int l8)]) (hf : Mo_drawn_b91 N k82 k91 S l2 l3 l4 l6 l7 l5 l8 = some (r, S9)) : W p l e (rmh 4) s m args below meth c H locs 0 0 (MQ below (QW E (wM V E) (some (.int r)) S9) args s 0 0 (eA E)) (F0 m 91 ls []) := by
  have hx := C.1
  have hb := C.2.1
  unfold Mo_drawn_b91 at hf
  refine lv_iload hx hb dX11_drawn_91 (lv_at hl 7 rfl) ?_
  refine lv_aload_n hx hb dX11_drawn_93 rfl (lv_at hl 0 rfl) ?_
  refine get_44_7 C hw q_1158 dX11_drawn_94 ?_
  refine lv_icmp_ge (tgt := 156) hx hb dX11_drawn_97 (by decide) (fun q => ?_) (fun q => ?_)
  · have hf := hf_t q hf
    refine lv_iload hx hb dX11_drawn_156 (lv_at hl 3 rfl) ?_
    refine lv_if_ge (tgt := 165) hx hb dX11_drawn_158 (by decide) (fun q => ?_) (fun q => ?_)
    · have hf := hf_t q hf
      refine lv_iload hx hb dX11_drawn_165 (lv_at hl 3 rfl) ?_
      refine lv_istore (lv' := [(8, .int l4), (0, .ref (ea E 44)), (2, .int l2), (3, .int l3), (4, .int l4), (5, .int l5), (6, .int l6), (7, .int l7)]) hx hb dX11_drawn_167 hl (by decide) rfl (fun ls hl => ?_)
      exact w_Mo_drawn_L169 C hk82 _ hf _ _ _ hw (lv_sub hl [1, 2, 3, 4, 5, 6, 7, 0] rfl)
    · have hf := hf_f q hf
      refine lv_iconst (v := 0) hx hb dX11_drawn_161 kc_0 ?_
      refine lv_goto (tgt := 167) hx hb dX11_drawn_162 (by decide) ?_
      refine lv_istore (lv' := [(8, .int (0 : Int32)), (0, .ref (ea E 44)), (2, .int l2), (3, .int l3), (4, .int l4), (5, .int l5), (6, .int l6), (7, .int l7)]) hx hb dX11_drawn_167 hl (by decide) rfl (fun ls hl => ?_)
      exact w_Mo_drawn_L169 C hk82 _ hf _ _ _ hw (lv_sub hl [1, 2, 3, 4, 5, 6, 7, 0] rfl)
  · have hf := hf_f q hf
    refine lv_iload hx hb dX11_drawn_100 (lv_at hl 4 rfl) ?_
    refine lv_ldcw (v := 1103515245) hx hb C.2.2.2.1 (C.2.2.2.2.1 _ q_1559) dX11_drawn_102 ?_
    refine lv_imul hx hb dX11_drawn_105 ?_
    refine lv_sipush (v := 12345) hx hb dX11_drawn_106 ks_12345 ?_
    refine lv_iadd hx hb dX11_drawn_109 ?_
    refine nm_i hf (fun x1 hf => ?_)
    refine lv_istore (lv' := [(5, .int x1), (0, .ref (ea E 44)), (2, .int l2), (3, .int l3), (4, .int l4), (6, .int l6), (7, .int l7), (8, .int l8)]) hx hb dX11_drawn_110 hl (by decide) rfl (fun ls hl => ?_)
    refine lv_iload hx hb dX11_drawn_112 (lv_at hl 0 rfl) ?_
    refine lv_bipush (v := 8) hx hb dX11_drawn_114 kb_8 ?_
    refine lv_iushr hx hb dX11_drawn_116 rfl ?_
    refine lv_bipush (v := 100) hx hb dX11_drawn_117 kb_100 ?_
    refine lv_irem hx hb dX11_drawn_119 (by decide) ?_
    refine nm_i hf (fun x2 hf => ?_)
    refine lv_istore (lv' := [(9, .int x2), (5, .int x1), (0, .ref (ea E 44)), (2, .int l2), (3, .int l3), (4, .int l4), (6, .int l6), (7, .int l7), (8, .int l8)]) hx hb dX11_drawn_120 hl (by decide) rfl (fun ls hl => ?_)
    refine lv_aload_n hx hb dX11_drawn_122 rfl (lv_at hl 2 rfl) ?_
    refine get_44_0 C hw q_1151 dX11_drawn_123 ?_
    refine lv_bipush (v := 38) hx hb dX11_drawn_126 kb_38 ?_
    refine lv_iload hx hb dX11_drawn_128 (lv_at hl 8 rfl) ?_
    refine lv_iadd hx hb dX11_drawn_130 ?_
    refine lv_iload hx hb dX11_drawn_131 (lv_at hl 0 rfl) ?_
    refine lv_aload_n hx hb dX11_drawn_133 rfl (lv_at hl 2 rfl) ?_
    refine get_44_9 C hw q_1160 dX11_drawn_134 ?_
    refine lv_iload hx hb dX11_drawn_137 (lv_at hl 8 rfl) ?_
    obtain ⟨hc, hf⟩ := hf_ck hf
    refine ld_50 C hw hc dX11_drawn_139 ?_
    refine lv_icmp_lt (tgt := 148) hx hb dX11_drawn_140 (by decide) (fun q => ?_) (fun q => ?_)
    · have hf := hf_t q hf
      refine lv_iconst (v := -1) hx hb dX11_drawn_148 kc_m1 ?_
      obtain ⟨hc, hf⟩ := hf_ck hf
      refine st_45 C hw hc dX11_drawn_149 (fun H locs hw => ?_)
      refine nm_S hf hw (fun S3 hf hw => ?_)
      obtain ⟨x4, ex4, hf⟩ := nme hf
      refine lv_iinc (v := x4) (lv' := [(8, .int x4), (9, .int x2), (5, .int x1), (0, .ref (ea E 44)), (2, .int l2), (3, .int l3), (4, .int l4), (6, .int l6), (7, .int l7)]) hx hb dX11_drawn_150 hl (k := 8) rfl (ki_1 ex4) (by decide) rfl (fun ls hl => ?_)
      refine lv_goto (tgt := 91) hx hb dX11_drawn_153 (by decide) ?_
      exact hk91 _ hf _ _ _ hw (lv_sub hl [3, 4, 5, 6, 2, 7, 8, 0] rfl)
    · have hf := hf_f q hf
      refine lv_iload hx hb dX11_drawn_143 (lv_at hl 0 rfl) ?_
      refine lv_goto (tgt := 149) hx hb dX11_drawn_145 (by decide) ?_
      obtain ⟨hc, hf⟩ := hf_ck hf
      refine st_45 C hw hc dX11_drawn_149 (fun H locs hw => ?_)
      refine nm_S hf hw (fun S5 hf hw => ?_)
      obtain ⟨x6, ex6, hf⟩ := nme hf
      refine lv_iinc (v := x6) (lv' := [(8, .int x6), (9, .int x2), (5, .int x1), (0, .ref (ea E 44)), (2, .int l2), (3, .int l3), (4, .int l4), (6, .int l6), (7, .int l7)]) hx hb dX11_drawn_150 hl (k := 8) rfl (ki_1 ex6) (by decide) rfl (fun ls hl => ?_)
      refine lv_goto (tgt := 91) hx hb dX11_drawn_153 (by decide) ?_
      exact hk91 _ hf _ _ _ hw (lv_sub hl [3, 4, 5, 6, 2, 7, 8, 0] rfl)
theorem w_Mo_drawn_L91 {N : Nat} {k82 : (St × Int32 × Int32 × Int32) → Option (Int32 × St)} {l2 : Int32} {l3 : Int32} {l4 : Int32} {l6 : Int32} {l7 : Int32} {r : Int32} {S9 : St} (C : Cx p s m args meth c E cX11_drawn 10 RX11 (some .int)) (hk82 : ∀ x, k82 x = some (r, S9) → ∀ (H : Heap) (locs : List Loc) (ls : Array Slot), Wd E (wM V E) s.heap x.1 H locs → lv_has ls 10 [(0, .ref (ea E 44)), (2, .int l2), (3, .int l3), (4, .int l4), (5, .int x.2.1), (6, .int x.2.2.1), (7, .int x.2.2.2)] → W p l e (rmh 4) s m args below meth c H locs 0 0 (MQ below (QW E (wM V E) (some (.int r)) S9) args s 0 0 (eA E)) (F0 m 82 ls [])) : ∀ x, Mo_drawn_L91 N k82 l2 l3 l4 l6 l7 x = some (r, S9) → ∀ (H : Heap) (locs : List Loc) (ls : Array Slot), Wd E (wM V E) s.heap x.1 H locs → lv_has ls 10 [(0, .ref (ea E 44)), (2, .int l2), (3, .int l3), (4, .int l4), (5, .int x.2.1), (6, .int l6), (7, .int l7), (8, .int x.2.2)] → W p l e (rmh 4) s m args below meth c H locs 0 0 (MQ below (QW E (wM V E) (some (.int r)) S9) args s 0 0 (eA E)) (F0 m 91 ls []) :=
  lp_W (fun k x hk hf H locs ls hw hl => w_Mo_drawn_b91 C hk82 hk hw hl hf) N
set_option maxRecDepth 20000 in
theorem w_Mo_drawn_b82 {N : Nat} {k82 : (St × Int32 × Int32 × Int32) → Option (Int32 × St)} {l2 : Int32} {l3 : Int32} {l4 : Int32} {l5 : Int32} {l6 : Int32} {l7 : Int32} {r : Int32} {S9 : St} (C : Cx p s m args meth c E cX11_drawn 10 RX11 (some .int)) (hk82 : ∀ x, k82 x = some (r, S9) → ∀ (H : Heap) (locs : List Loc) (ls : Array Slot), Wd E (wM V E) s.heap x.1 H locs → lv_has ls 10 [(0, .ref (ea E 44)), (2, .int l2), (3, .int l3), (4, .int l4), (5, .int x.2.1), (6, .int x.2.2.1), (7, .int x.2.2.2)] → W p l e (rmh 4) s m args below meth c H locs 0 0 (MQ below (QW E (wM V E) (some (.int r)) S9) args s 0 0 (eA E)) (F0 m 82 ls [])) (hw : Wd E (wM V E) s.heap S H locs) (hl : lv_has ls 10 [(0, .ref (ea E 44)), (2, .int l2), (3, .int l3), (4, .int l4), (5, .int l5), (6, .int l6), (7, .int l7)]) (hf : Mo_drawn_b82 N k82 S l2 l3 l4 l5 l6 l7 = some (r, S9)) : W p l e (rmh 4) s m args below meth c H locs 0 0 (MQ below (QW E (wM V E) (some (.int r)) S9) args s 0 0 (eA E)) (F0 m 82 ls []) := by
  have hx := C.1
  have hb := C.2.1
  unfold Mo_drawn_b82 at hf
  refine lv_iload hx hb dX11_drawn_82 (lv_at hl 6 rfl) ?_
  refine lv_iload_n hx hb dX11_drawn_84 rfl (lv_at hl 1 rfl) ?_
  refine lv_icmp_ge (tgt := 218) hx hb dX11_drawn_85 (by decide) (fun q => ?_) (fun q => ?_)
  · have hf := hf_t q hf
    refine lv_iconst (v := 0) hx hb dX11_drawn_218 kc_0 ?_
    refine lv_istore (lv' := [(7, .int (0 : Int32)), (0, .ref (ea E 44)), (2, .int l2), (3, .int l3), (4, .int l4), (5, .int l5), (6, .int l6)]) hx hb dX11_drawn_219 hl (by decide) rfl (fun ls hl => ?_)
    exact w_Mo_drawn_L221 C _ hf _ _ _ hw (lv_sub hl [1, 6, 0] rfl)
  · have hf := hf_f q hf
    refine lv_iconst (v := 0) hx hb dX11_drawn_88 kc_0 ?_
    refine lv_istore (lv' := [(8, .int (0 : Int32)), (0, .ref (ea E 44)), (2, .int l2), (3, .int l3), (4, .int l4), (5, .int l5), (6, .int l6), (7, .int l7)]) hx hb dX11_drawn_89 hl (by decide) rfl (fun ls hl => ?_)
    exact w_Mo_drawn_L91 C hk82 _ hf _ _ _ hw (lv_sub hl [1, 2, 3, 4, 5, 6, 7, 0] rfl)
theorem w_Mo_drawn_L82 {N : Nat} {l2 : Int32} {l3 : Int32} {l4 : Int32} {r : Int32} {S9 : St} (C : Cx p s m args meth c E cX11_drawn 10 RX11 (some .int)) : ∀ x, Mo_drawn_L82 N l2 l3 l4 x = some (r, S9) → ∀ (H : Heap) (locs : List Loc) (ls : Array Slot), Wd E (wM V E) s.heap x.1 H locs → lv_has ls 10 [(0, .ref (ea E 44)), (2, .int l2), (3, .int l3), (4, .int l4), (5, .int x.2.1), (6, .int x.2.2.1), (7, .int x.2.2.2)] → W p l e (rmh 4) s m args below meth c H locs 0 0 (MQ below (QW E (wM V E) (some (.int r)) S9) args s 0 0 (eA E)) (F0 m 82 ls []) :=
  lp_W (fun k x hk hf H locs ls hw hl => w_Mo_drawn_b82 C hk hw hl hf) N
set_option maxRecDepth 20000 in
theorem w_Mo_drawn_b41 {N : Nat} {k41 : (St × Int32) → Option (Int32 × St)} {l1 : Int32} {l2 : Int32} {l3 : Int32} {l4 : Int32} {l5 : Int32} {r : Int32} {S9 : St} (C : Cx p s m args meth c E cX11_drawn 10 RX11 (some .int)) (hk41 : ∀ x, k41 x = some (r, S9) → ∀ (H : Heap) (locs : List Loc) (ls : Array Slot), Wd E (wM V E) s.heap x.1 H locs → lv_has ls 10 [(0, .ref (ea E 44)), (1, .int l1), (2, .int l2), (3, .int l3), (4, .int l4), (5, .int x.2)] → W p l e (rmh 4) s m args below meth c H locs 0 0 (MQ below (QW E (wM V E) (some (.int r)) S9) args s 0 0 (eA E)) (F0 m 41 ls [])) (hw : Wd E (wM V E) s.heap S H locs) (hl : lv_has ls 10 [(0, .ref (ea E 44)), (1, .int l1), (2, .int l2), (3, .int l3), (4, .int l4), (5, .int l5)]) (hf : Mo_drawn_b41 N k41 S l1 l2 l3 l4 l5 = some (r, S9)) : W p l e (rmh 4) s m args below meth c H locs 0 0 (MQ below (QW E (wM V E) (some (.int r)) S9) args s 0 0 (eA E)) (F0 m 41 ls []) := by
  have hx := C.1
  have hb := C.2.1
  unfold Mo_drawn_b41 at hf
  refine lv_iload hx hb dX11_drawn_41 (lv_at hl 5 rfl) ?_
  refine lv_aload_n hx hb dX11_drawn_43 rfl (lv_at hl 0 rfl) ?_
  refine get_44_7 C hw q_1158 dX11_drawn_44 ?_
  refine lv_icmp_ge (tgt := 73) hx hb dX11_drawn_47 (by decide) (fun q => ?_) (fun q => ?_)
  · have hf := hf_t q hf
    refine lv_iload_n hx hb dX11_drawn_73 rfl (lv_at hl 1 rfl) ?_
    refine lv_istore (lv' := [(5, .int l1), (0, .ref (ea E 44)), (1, .int l1), (2, .int l2), (3, .int l3), (4, .int l4)]) hx hb dX11_drawn_74 hl (by decide) rfl (fun ls hl => ?_)
    refine lv_iconst (v := 0) hx hb dX11_drawn_76 kc_0 ?_
    refine lv_istore (lv' := [(6, .int (0 : Int32)), (5, .int l1), (0, .ref (ea E 44)), (1, .int l1), (2, .int l2), (3, .int l3), (4, .int l4)]) hx hb dX11_drawn_77 hl (by decide) rfl (fun ls hl => ?_)
    refine lv_iconst (v := 0) hx hb dX11_drawn_79 kc_0 ?_
    refine lv_istore (lv' := [(7, .int (0 : Int32)), (6, .int (0 : Int32)), (5, .int l1), (0, .ref (ea E 44)), (1, .int l1), (2, .int l2), (3, .int l3), (4, .int l4)]) hx hb dX11_drawn_80 hl (by decide) rfl (fun ls hl => ?_)
    exact w_Mo_drawn_L82 C _ hf _ _ _ hw (lv_sub hl [3, 5, 6, 7, 2, 1, 0] rfl)
  · have hf := hf_f q hf
    refine lv_aload_n hx hb dX11_drawn_50 rfl (lv_at hl 0 rfl) ?_
    refine get_44_21 C hw q_1172 dX11_drawn_51 ?_
    refine lv_iload hx hb dX11_drawn_54 (lv_at hl 5 rfl) ?_
    refine lv_aload_n hx hb dX11_drawn_56 rfl (lv_at hl 0 rfl) ?_
    refine get_44_0 C hw q_1151 dX11_drawn_57 ?_
    refine lv_bipush (v := 38) hx hb dX11_drawn_60 kb_38 ?_
    refine lv_iload hx hb dX11_drawn_62 (lv_at hl 5 rfl) ?_
    refine lv_iadd hx hb dX11_drawn_64 ?_
    obtain ⟨hc, hf⟩ := hf_ck hf
    refine ld_45 C hw hc dX11_drawn_65 ?_
    obtain ⟨hc, hf⟩ := hf_ck hf
    refine st_55 C hw hc dX11_drawn_66 (fun H locs hw => ?_)
    refine nm_S hf hw (fun S1 hf hw => ?_)
    obtain ⟨x2, ex2, hf⟩ := nme hf
    refine lv_iinc (v := x2) (lv' := [(5, .int x2), (0, .ref (ea E 44)), (1, .int l1), (2, .int l2), (3, .int l3), (4, .int l4)]) hx hb dX11_drawn_67 hl (k := 5) rfl (ki_1 ex2) (by decide) rfl (fun ls hl => ?_)
    refine lv_goto (tgt := 41) hx hb dX11_drawn_70 (by decide) ?_
    exact hk41 _ hf _ _ _ hw (lv_sub hl [1, 2, 3, 4, 5, 0] rfl)
theorem w_Mo_drawn_L41 {N : Nat} {l1 : Int32} {l2 : Int32} {l3 : Int32} {l4 : Int32} {r : Int32} {S9 : St} (C : Cx p s m args meth c E cX11_drawn 10 RX11 (some .int)) : ∀ x, Mo_drawn_L41 N l1 l2 l3 l4 x = some (r, S9) → ∀ (H : Heap) (locs : List Loc) (ls : Array Slot), Wd E (wM V E) s.heap x.1 H locs → lv_has ls 10 [(0, .ref (ea E 44)), (1, .int l1), (2, .int l2), (3, .int l3), (4, .int l4), (5, .int x.2)] → W p l e (rmh 4) s m args below meth c H locs 0 0 (MQ below (QW E (wM V E) (some (.int r)) S9) args s 0 0 (eA E)) (F0 m 41 ls []) :=
  lp_W (fun k x hk hf H locs ls hw hl => w_Mo_drawn_b41 C hk hw hl hf) N
set_option maxRecDepth 20000 in
theorem w_Mo_drawn {N : Nat} {p1 : Int32} {p2 : Int32} {p3 : Int32} {p4 : Int32} {r : Int32} {S9 : St} (C : Cx p s m args meth c E cX11_drawn 10 RX11 (some .int)) (hw : Wd E (wM V E) s.heap S H locs) (hl : lv_has ls 10 [(0, .ref (ea E 44)), (1, .int p1), (2, .int p2), (3, .int p3), (4, .int p4)]) (hf : Mo_drawn N S p1 p2 p3 p4 = some (r, S9)) : W p l e (rmh 4) s m args below meth c H locs 0 0 (MQ below (QW E (wM V E) (some (.int r)) S9) args s 0 0 (eA E)) (F0 m 0 ls []) := by
  have hx := C.1
  have hb := C.2.1
  unfold Mo_drawn at hf
  refine lv_iload_n hx hb dX11_drawn_0 rfl (lv_at hl 2 rfl) ?_
  refine lv_i2l hx hb dX11_drawn_1 rfl ?_
  refine lv_lconst (v := 1) hx hb dX11_drawn_2 rfl ?_
  refine lv_ldc2 (v := 30) hx hb C.2.2.2.1 (C.2.2.2.2.1 _ q_1281) dX11_drawn_3 ?_
  obtain ⟨r1, hr, hf⟩ := hf_1 hf
  refine inv_Si (As := [.long (Int32.toInt64 p2), .long (1 : Int64), .long (30 : Int64)]) lk_X11_84 C hw (t_Mo_within hr) hl.1 dX11_drawn_6 rfl (Nat.le_of_ble_eq_true rfl) (by decide) (Nat.le_of_ble_eq_true rfl) rfl (fun H locs hw => ?_)
  refine lv_if_eq (tgt := 36) hx hb dX11_drawn_9 (by decide) (fun q => ?_) (fun q => ?_)
  · have hf := hf_t q hf
    refine lv_iconst (v := -1) hx hb dX11_drawn_36 kc_m1 ?_
    exact ret_iS C hw dX11_drawn_37 hf
  · have hf := hf_f q hf
    refine lv_aload_n hx hb dX11_drawn_12 rfl (lv_at hl 0 rfl) ?_
    refine lv_iload_n hx hb dX11_drawn_13 rfl (lv_at hl 3 rfl) ?_
    refine lv_i2l hx hb dX11_drawn_14 rfl ?_
    obtain ⟨r2, hr, hf⟩ := hf_1 hf
    refine inv_Vi (q0 := 44) (ci := 11) (As := [.long (Int32.toInt64 p3)]) lk_X11_97 C hw rfl rfl rfl (t_Mo_isOne hr) rfl hl.1 dX11_drawn_15 rfl (Nat.le_of_ble_eq_true rfl) (by decide) (Nat.le_of_ble_eq_true rfl) rfl (fun H locs hw => ?_)
    refine lv_if_eq (tgt := 36) hx hb dX11_drawn_18 (by decide) (fun q => ?_) (fun q => ?_)
    · have hf := hf_t q hf
      refine lv_iconst (v := -1) hx hb dX11_drawn_36 kc_m1 ?_
      exact ret_iS C hw dX11_drawn_37 hf
    · have hf := hf_f q hf
      refine lv_iload hx hb dX11_drawn_21 (lv_at hl 4 rfl) ?_
      refine lv_iconst (v := -1) hx hb dX11_drawn_23 kc_m1 ?_
      refine lv_icmp_eq (tgt := 38) hx hb dX11_drawn_24 (by decide) (fun q => ?_) (fun q => ?_)
      · have hf := hf_t q hf
        refine lv_iconst (v := 0) hx hb dX11_drawn_38 kc_0 ?_
        refine lv_istore (lv' := [(5, .int (0 : Int32)), (0, .ref (ea E 44)), (1, .int p1), (2, .int p2), (3, .int p3), (4, .int p4)]) hx hb dX11_drawn_39 hl (by decide) rfl (fun ls hl => ?_)
        exact w_Mo_drawn_L41 C _ hf _ _ _ hw (lv_sub hl [1, 2, 3, 4, 5, 0] rfl)
      · have hf := hf_f q hf
        refine lv_iload hx hb dX11_drawn_27 (lv_at hl 4 rfl) ?_
        refine lv_i2l hx hb dX11_drawn_29 rfl ?_
        obtain ⟨r3, hr, hf⟩ := hf_1 hf
        refine inv_Si (As := [.long (Int32.toInt64 p4)]) lk_X11_101 C hw (t_Mo_isDay hr) hl.1 dX11_drawn_30 rfl (Nat.le_of_ble_eq_true rfl) (by decide) (Nat.le_of_ble_eq_true rfl) rfl (fun H locs hw => ?_)
        refine lv_if_ne (tgt := 38) hx hb dX11_drawn_33 (by decide) (fun q => ?_) (fun q => ?_)
        · have hf := hf_f q hf
          refine lv_iconst (v := 0) hx hb dX11_drawn_38 kc_0 ?_
          refine lv_istore (lv' := [(5, .int (0 : Int32)), (0, .ref (ea E 44)), (1, .int p1), (2, .int p2), (3, .int p3), (4, .int p4)]) hx hb dX11_drawn_39 hl (by decide) rfl (fun ls hl => ?_)
          exact w_Mo_drawn_L41 C _ hf _ _ _ hw (lv_sub hl [1, 2, 3, 4, 5, 0] rfl)
        · have hf := hf_t q hf
          refine lv_iconst (v := -1) hx hb dX11_drawn_36 kc_m1 ?_
          exact ret_iS C hw dX11_drawn_37 hf
end
theorem t_Mo_drawn {l : Launch} {V : St} {N : Nat} {S : St} {p1 : Int32} {p2 : Int32} {p3 : Int32} {p4 : Int32} {r : Int32} {S9 : St} (hf : Mo_drawn N S p1 p2 p3 p4 = some (r, S9)) : Ct l (wM V) yX11_drawn cX11_drawn 10 (some .int) 4 (fun E => [.ref (ea E 44), .int p1, .int p2, .int p3, .int p4]) S (fun E => some (.int r)) S9 :=
  ofBlock (by decide +kernel) (fun _ => Nat.le_of_ble_eq_true rfl) (fun E p e s m args below meth c ls C hw hl => w_Mo_drawn C hw hl hf)
theorem dX11_passes_0 : decode cX11_passes 0 = .ok (.aload_n 0, 1) := by decide +kernel
theorem dX11_passes_1 : decode cX11_passes 1 = .ok (.getfield 265, 3) := by decide +kernel
theorem dX11_passes_4 : decode cX11_passes 4 = .ok (.bipush 99, 2) := by decide +kernel
theorem dX11_passes_6 : decode cX11_passes 6 = .ok (.if_icmp .ne 6, 3) := by decide +kernel
theorem dX11_passes_9 : decode cX11_passes 9 = .ok (.bipush (-5), 2) := by decide +kernel
theorem dX11_passes_11 : decode cX11_passes 11 = .ok (.ireturn, 1) := by decide +kernel
theorem dX11_passes_12 : decode cX11_passes 12 = .ok (.aload_n 0, 1) := by decide +kernel
theorem dX11_passes_13 : decode cX11_passes 13 = .ok (.getfield 43, 3) := by decide +kernel
theorem dX11_passes_16 : decode cX11_passes 16 = .ok (.iconst 0, 1) := by decide +kernel
theorem dX11_passes_17 : decode cX11_passes 17 = .ok (.dup2, 1) := by decide +kernel
theorem dX11_passes_18 : decode cX11_passes 18 = .ok (.iaload, 1) := by decide +kernel
theorem dX11_passes_19 : decode cX11_passes 19 = .ok (.iconst 1, 1) := by decide +kernel
theorem dX11_passes_20 : decode cX11_passes 20 = .ok (.iadd, 1) := by decide +kernel
theorem dX11_passes_21 : decode cX11_passes 21 = .ok (.iastore, 1) := by decide +kernel
theorem dX11_passes_22 : decode cX11_passes 22 = .ok (.aload_n 0, 1) := by decide +kernel
theorem dX11_passes_23 : decode cX11_passes 23 = .ok (.getfield 43, 3) := by decide +kernel
theorem dX11_passes_26 : decode cX11_passes 26 = .ok (.iconst 3, 1) := by decide +kernel
theorem dX11_passes_27 : decode cX11_passes 27 = .ok (.dup2, 1) := by decide +kernel
theorem dX11_passes_28 : decode cX11_passes 28 = .ok (.iaload, 1) := by decide +kernel
theorem dX11_passes_29 : decode cX11_passes 29 = .ok (.aload_n 0, 1) := by decide +kernel
theorem dX11_passes_30 : decode cX11_passes 30 = .ok (.aload_n 0, 1) := by decide +kernel
theorem dX11_passes_31 : decode cX11_passes 31 = .ok (.getfield 265, 3) := by decide +kernel
theorem dX11_passes_34 : decode cX11_passes 34 = .ok (.invokevirtual 223, 3) := by decide +kernel
theorem dX11_passes_37 : decode cX11_passes 37 = .ok (.invokestatic 226, 3) := by decide +kernel
theorem dX11_passes_40 : decode cX11_passes 40 = .ok (.iadd, 1) := by decide +kernel
theorem dX11_passes_41 : decode cX11_passes 41 = .ok (.iastore, 1) := by decide +kernel
theorem dX11_passes_42 : decode cX11_passes 42 = .ok (.aload_n 0, 1) := by decide +kernel
theorem dX11_passes_43 : decode cX11_passes 43 = .ok (.dup, 1) := by decide +kernel
theorem dX11_passes_44 : decode cX11_passes 44 = .ok (.getfield 265, 3) := by decide +kernel
theorem dX11_passes_47 : decode cX11_passes 47 = .ok (.iconst 1, 1) := by decide +kernel
theorem dX11_passes_48 : decode cX11_passes 48 = .ok (.iadd, 1) := by decide +kernel
theorem dX11_passes_49 : decode cX11_passes 49 = .ok (.putfield 265, 3) := by decide +kernel
theorem dX11_passes_52 : decode cX11_passes 52 = .ok (.aload_n 0, 1) := by decide +kernel
theorem dX11_passes_53 : decode cX11_passes 53 = .ok (.getfield 265, 3) := by decide +kernel
theorem dX11_passes_56 : decode cX11_passes 56 = .ok (.ireturn, 1) := by decide +kernel
section
variable {p : Program} {l : Launch} {e : Env} {s : State} {m : MethodId} {args : Array Value} {below : List Frame} {meth : Method} {c : Code} {H : Heap} {locs : List Loc} {E : Ev} {S V : St} {ls : Array Slot}
set_option maxRecDepth 20000 in
theorem w_Mo_passes {N : Nat} {r : Int32} {S9 : St} (C : Cx p s m args meth c E cX11_passes 1 RX11 (some .int)) (hw : Wd E (wM V E) s.heap S H locs) (hl : lv_has ls 1 [(0, .ref (ea E 44))]) (hf : Mo_passes N S = some (r, S9)) : W p l e (rmh 5) s m args below meth c H locs 0 0 (MQ below (QW E (wM V E) (some (.int r)) S9) args s 0 0 (eA E)) (F0 m 0 ls []) := by
  have hx := C.1
  have hb := C.2.1
  unfold Mo_passes at hf
  refine lv_aload_n hx hb dX11_passes_0 rfl (lv_at hl 0 rfl) ?_
  refine get_44_22 C hw q_1173 dX11_passes_1 ?_
  refine lv_bipush (v := 99) hx hb dX11_passes_4 kb_99 ?_
  refine lv_icmp_ne (tgt := 12) hx hb dX11_passes_6 (by decide) (fun q => ?_) (fun q => ?_)
  · have hf := hf_f q hf
    refine lv_aload_n hx hb dX11_passes_12 rfl (lv_at hl 0 rfl) ?_
    refine get_44_23 C hw q_1174 dX11_passes_13 ?_
    refine lv_iconst (v := 0) hx hb dX11_passes_16 kc_0 ?_
    refine lv_dup2_11 hx hb dX11_passes_17 rfl rfl ?_
    refine ld_56 C hw (by decide) dX11_passes_18 ?_
    refine lv_iconst (v := 1) hx hb dX11_passes_19 kc_1 ?_
    refine lv_iadd hx hb dX11_passes_20 ?_
    refine st_56 C hw (by decide) dX11_passes_21 (fun H locs hw => ?_)
    refine nm_S hf hw (fun S1 hf hw => ?_)
    refine lv_aload_n hx hb dX11_passes_22 rfl (lv_at hl 0 rfl) ?_
    refine get_44_23 C hw q_1174 dX11_passes_23 ?_
    refine lv_iconst (v := 3) hx hb dX11_passes_26 kc_3 ?_
    refine lv_dup2_11 hx hb dX11_passes_27 rfl rfl ?_
    refine ld_56 C hw (by decide) dX11_passes_28 ?_
    refine lv_aload_n hx hb dX11_passes_29 rfl (lv_at hl 0 rfl) ?_
    refine lv_aload_n hx hb dX11_passes_30 rfl (lv_at hl 0 rfl) ?_
    refine get_44_22 C hw q_1173 dX11_passes_31 ?_
    obtain ⟨r2, hr, hf⟩ := hf_1 hf
    refine inv_Vi (q0 := 44) (ci := 11) (As := [.int (gi S1 44 22)]) lk_X11_223 C hw rfl rfl rfl (t_Mo_ridersOn hr) rfl hl.1 dX11_passes_34 rfl (Nat.le_of_ble_eq_true rfl) (by decide) (Nat.le_of_ble_eq_true rfl) rfl (fun H locs hw => ?_)
    obtain ⟨r3, hr, hf⟩ := hf_1 hf
    refine inv_Si (As := [.int r2]) lk_X11_226 C hw (t_Mo_bitsOf hr) hl.1 dX11_passes_37 rfl (Nat.le_of_ble_eq_true rfl) (by decide) (Nat.le_of_ble_eq_true rfl) rfl (fun H locs hw => ?_)
    refine lv_iadd hx hb dX11_passes_40 ?_
    refine st_56 C hw (by decide) dX11_passes_41 (fun H locs hw => ?_)
    refine nm_S hf hw (fun S4 hf hw => ?_)
    refine lv_aload_n hx hb dX11_passes_42 rfl (lv_at hl 0 rfl) ?_
    refine lv_dup hx hb dX11_passes_43 rfl ?_
    refine get_44_22 C hw q_1173 dX11_passes_44 ?_
    refine lv_iconst (v := 1) hx hb dX11_passes_47 kc_1 ?_
    refine lv_iadd hx hb dX11_passes_48 ?_
    refine put_44_22 C hw q_1173 dX11_passes_49 (fun H locs hw => ?_)
    refine nm_S hf hw (fun S5 hf hw => ?_)
    refine lv_aload_n hx hb dX11_passes_52 rfl (lv_at hl 0 rfl) ?_
    refine get_44_22 C hw q_1173 dX11_passes_53 ?_
    exact ret_iS C hw dX11_passes_56 hf
  · have hf := hf_t q hf
    refine lv_bipush (v := -5) hx hb dX11_passes_9 kb_m5 ?_
    exact ret_iS C hw dX11_passes_11 hf
end
theorem t_Mo_passes {l : Launch} {V : St} {N : Nat} {S : St} {r : Int32} {S9 : St} (hf : Mo_passes N S = some (r, S9)) : Ct l (wM V) yX11_passes cX11_passes 1 (some .int) 5 (fun E => [.ref (ea E 44)]) S (fun E => some (.int r)) S9 :=
  ofBlock (by decide +kernel) (fun _ => Nat.le_of_ble_eq_true rfl) (fun E p e s m args below meth c ls C hw hl => w_Mo_passes C hw hl hf)
theorem dX11_vow_0 : decode cX11_vow 0 = .ok (.iload_n 1, 1) := by decide +kernel
theorem dX11_vow_1 : decode cX11_vow 1 = .ok (.ifCond .lt 27, 3) := by decide +kernel
theorem dX11_vow_4 : decode cX11_vow 4 = .ok (.aload_n 0, 1) := by decide +kernel
theorem dX11_vow_5 : decode cX11_vow 5 = .ok (.iload_n 1, 1) := by decide +kernel
theorem dX11_vow_6 : decode cX11_vow 6 = .ok (.bipush 10, 2) := by decide +kernel
theorem dX11_vow_8 : decode cX11_vow 8 = .ok (.idiv, 1) := by decide +kernel
theorem dX11_vow_9 : decode cX11_vow 9 = .ok (.i2l, 1) := by decide +kernel
theorem dX11_vow_10 : decode cX11_vow 10 = .ok (.aload_n 0, 1) := by decide +kernel
theorem dX11_vow_11 : decode cX11_vow 11 = .ok (.getfield 265, 3) := by decide +kernel
theorem dX11_vow_14 : decode cX11_vow 14 = .ok (.i2l, 1) := by decide +kernel
theorem dX11_vow_15 : decode cX11_vow 15 = .ok (.iload_n 2, 1) := by decide +kernel
theorem dX11_vow_16 : decode cX11_vow 16 = .ok (.i2l, 1) := by decide +kernel
theorem dX11_vow_17 : decode cX11_vow 17 = .ok (.iload_n 1, 1) := by decide +kernel
theorem dX11_vow_18 : decode cX11_vow 18 = .ok (.bipush 10, 2) := by decide +kernel
theorem dX11_vow_20 : decode cX11_vow 20 = .ok (.irem, 1) := by decide +kernel
theorem dX11_vow_21 : decode cX11_vow 21 = .ok (.i2l, 1) := by decide +kernel
theorem dX11_vow_22 : decode cX11_vow 22 = .ok (.invokevirtual 106, 3) := by decide +kernel
theorem dX11_vow_25 : decode cX11_vow 25 = .ok (.ifCond .ne 5, 3) := by decide +kernel
theorem dX11_vow_28 : decode cX11_vow 28 = .ok (.iconst (-1), 1) := by decide +kernel
theorem dX11_vow_29 : decode cX11_vow 29 = .ok (.ireturn, 1) := by decide +kernel
theorem dX11_vow_30 : decode cX11_vow 30 = .ok (.aload_n 0, 1) := by decide +kernel
theorem dX11_vow_31 : decode cX11_vow 31 = .ok (.getfield 88, 3) := by decide +kernel
theorem dX11_vow_34 : decode cX11_vow 34 = .ok (.bipush 10, 2) := by decide +kernel
theorem dX11_vow_36 : decode cX11_vow 36 = .ok (.if_icmp .ne 6, 3) := by decide +kernel
theorem dX11_vow_39 : decode cX11_vow 39 = .ok (.bipush (-3), 2) := by decide +kernel
theorem dX11_vow_41 : decode cX11_vow 41 = .ok (.ireturn, 1) := by decide +kernel
theorem dX11_vow_42 : decode cX11_vow 42 = .ok (.aload_n 0, 1) := by decide +kernel
theorem dX11_vow_43 : decode cX11_vow 43 = .ok (.getfield 43, 3) := by decide +kernel
theorem dX11_vow_46 : decode cX11_vow 46 = .ok (.iconst 1, 1) := by decide +kernel
theorem dX11_vow_47 : decode cX11_vow 47 = .ok (.dup2, 1) := by decide +kernel
theorem dX11_vow_48 : decode cX11_vow 48 = .ok (.iaload, 1) := by decide +kernel
theorem dX11_vow_49 : decode cX11_vow 49 = .ok (.iconst 1, 1) := by decide +kernel
theorem dX11_vow_50 : decode cX11_vow 50 = .ok (.iadd, 1) := by decide +kernel
theorem dX11_vow_51 : decode cX11_vow 51 = .ok (.iastore, 1) := by decide +kernel
theorem dX11_vow_52 : decode cX11_vow 52 = .ok (.aload_n 0, 1) := by decide +kernel
theorem dX11_vow_53 : decode cX11_vow 53 = .ok (.iload_n 1, 1) := by decide +kernel
theorem dX11_vow_54 : decode cX11_vow 54 = .ok (.bipush 10, 2) := by decide +kernel
theorem dX11_vow_56 : decode cX11_vow 56 = .ok (.idiv, 1) := by decide +kernel
theorem dX11_vow_57 : decode cX11_vow 57 = .ok (.aload_n 0, 1) := by decide +kernel
theorem dX11_vow_58 : decode cX11_vow 58 = .ok (.getfield 265, 3) := by decide +kernel
theorem dX11_vow_61 : decode cX11_vow 61 = .ok (.iload_n 2, 1) := by decide +kernel
theorem dX11_vow_62 : decode cX11_vow 62 = .ok (.iload_n 1, 1) := by decide +kernel
theorem dX11_vow_63 : decode cX11_vow 63 = .ok (.bipush 10, 2) := by decide +kernel
theorem dX11_vow_65 : decode cX11_vow 65 = .ok (.irem, 1) := by decide +kernel
theorem dX11_vow_66 : decode cX11_vow 66 = .ok (.invokevirtual 110, 3) := by decide +kernel
theorem dX11_vow_69 : decode cX11_vow 69 = .ok (.ireturn, 1) := by decide +kernel
section
variable {p : Program} {l : Launch} {e : Env} {s : State} {m : MethodId} {args : Array Value} {below : List Frame} {meth : Method} {c : Code} {H : Heap} {locs : List Loc} {E : Ev} {S V : St} {ls : Array Slot}
set_option maxRecDepth 20000 in
theorem w_Mo_vow {p1 : Int32} {p2 : Int32} {r : Int32} {S9 : St} (C : Cx p s m args meth c E cX11_vow 3 RX11 (some .int)) (hw : Wd E (wM V E) s.heap S H locs) (hl : lv_has ls 3 [(0, .ref (ea E 44)), (1, .int p1), (2, .int p2)]) (hf : Mo_vow S p1 p2 = some (r, S9)) : W p l e (rmh 4) s m args below meth c H locs 0 0 (MQ below (QW E (wM V E) (some (.int r)) S9) args s 0 0 (eA E)) (F0 m 0 ls []) := by
  have hx := C.1
  have hb := C.2.1
  unfold Mo_vow at hf
  refine lv_iload_n hx hb dX11_vow_0 rfl (lv_at hl 1 rfl) ?_
  refine lv_if_lt (tgt := 28) hx hb dX11_vow_1 (by decide) (fun q => ?_) (fun q => ?_)
  · have hf := hf_t q hf
    refine lv_iconst (v := -1) hx hb dX11_vow_28 kc_m1 ?_
    exact ret_iS C hw dX11_vow_29 hf
  · have hf := hf_f q hf
    refine lv_aload_n hx hb dX11_vow_4 rfl (lv_at hl 0 rfl) ?_
    refine lv_iload_n hx hb dX11_vow_5 rfl (lv_at hl 1 rfl) ?_
    refine lv_bipush (v := 10) hx hb dX11_vow_6 kb_10 ?_
    refine lv_idiv hx hb dX11_vow_8 (by decide) ?_
    refine lv_i2l hx hb dX11_vow_9 rfl ?_
    refine lv_aload_n hx hb dX11_vow_10 rfl (lv_at hl 0 rfl) ?_
    refine get_44_22 C hw q_1173 dX11_vow_11 ?_
    refine lv_i2l hx hb dX11_vow_14 rfl ?_
    refine lv_iload_n hx hb dX11_vow_15 rfl (lv_at hl 2 rfl) ?_
    refine lv_i2l hx hb dX11_vow_16 rfl ?_
    refine lv_iload_n hx hb dX11_vow_17 rfl (lv_at hl 1 rfl) ?_
    refine lv_bipush (v := 10) hx hb dX11_vow_18 kb_10 ?_
    refine lv_irem hx hb dX11_vow_20 (by decide) ?_
    refine lv_i2l hx hb dX11_vow_21 rfl ?_
    obtain ⟨r1, hr, hf⟩ := hf_1 hf
    refine inv_Vi (q0 := 44) (ci := 11) (As := [.long (Int32.toInt64 (p1 / (10 : Int32))), .long (Int32.toInt64 (gi S 44 22)), .long (Int32.toInt64 p2), .long (Int32.toInt64 (p1 - p1 / (10 : Int32) * (10 : Int32)))]) lk_X11_106 C hw rfl rfl rfl (t_Mo_mayCome hr) rfl hl.1 dX11_vow_22 rfl (Nat.le_of_ble_eq_true rfl) (by decide) (Nat.le_of_ble_eq_true rfl) rfl (fun H locs hw => ?_)
    refine lv_if_ne (tgt := 30) hx hb dX11_vow_25 (by decide) (fun q => ?_) (fun q => ?_)
    · have hf := hf_f q hf
      refine lv_aload_n hx hb dX11_vow_30 rfl (lv_at hl 0 rfl) ?_
      refine get_44_7 C hw q_1158 dX11_vow_31 ?_
      refine lv_bipush (v := 10) hx hb dX11_vow_34 kb_10 ?_
      refine lv_icmp_ne (tgt := 42) hx hb dX11_vow_36 (by decide) (fun q => ?_) (fun q => ?_)
      · have hf := hf_f q hf
        refine lv_aload_n hx hb dX11_vow_42 rfl (lv_at hl 0 rfl) ?_
        refine get_44_23 C hw q_1174 dX11_vow_43 ?_
        refine lv_iconst (v := 1) hx hb dX11_vow_46 kc_1 ?_
        refine lv_dup2_11 hx hb dX11_vow_47 rfl rfl ?_
        refine ld_56 C hw (by decide) dX11_vow_48 ?_
        refine lv_iconst (v := 1) hx hb dX11_vow_49 kc_1 ?_
        refine lv_iadd hx hb dX11_vow_50 ?_
        refine st_56 C hw (by decide) dX11_vow_51 (fun H locs hw => ?_)
        refine nm_S hf hw (fun S2 hf hw => ?_)
        refine lv_aload_n hx hb dX11_vow_52 rfl (lv_at hl 0 rfl) ?_
        refine lv_iload_n hx hb dX11_vow_53 rfl (lv_at hl 1 rfl) ?_
        refine lv_bipush (v := 10) hx hb dX11_vow_54 kb_10 ?_
        refine lv_idiv hx hb dX11_vow_56 (by decide) ?_
        refine lv_aload_n hx hb dX11_vow_57 rfl (lv_at hl 0 rfl) ?_
        refine get_44_22 C hw q_1173 dX11_vow_58 ?_
        refine lv_iload_n hx hb dX11_vow_61 rfl (lv_at hl 2 rfl) ?_
        refine lv_iload_n hx hb dX11_vow_62 rfl (lv_at hl 1 rfl) ?_
        refine lv_bipush (v := 10) hx hb dX11_vow_63 kb_10 ?_
        refine lv_irem hx hb dX11_vow_65 (by decide) ?_
        obtain ⟨r4, S3, hr, hf⟩ := hf_2 hf
        refine inv_Vi (q0 := 44) (ci := 11) (As := [.int (p1 / (10 : Int32)), .int (gi S2 44 22), .int p2, .int (p1 - p1 / (10 : Int32) * (10 : Int32))]) lk_X11_110 C hw rfl rfl rfl (t_Mo_adds hr) rfl hl.1 dX11_vow_66 rfl (Nat.le_of_ble_eq_true rfl) (by decide) (Nat.le_of_ble_eq_true rfl) rfl (fun H locs hw => ?_)
        exact ret_iS C hw dX11_vow_69 hf
      · have hf := hf_t q hf
        refine lv_bipush (v := -3) hx hb dX11_vow_39 kb_m3 ?_
        exact ret_iS C hw dX11_vow_41 hf
    · have hf := hf_t q hf
      refine lv_iconst (v := -1) hx hb dX11_vow_28 kc_m1 ?_
      exact ret_iS C hw dX11_vow_29 hf
end
theorem t_Mo_vow {l : Launch} {V : St} {S : St} {p1 : Int32} {p2 : Int32} {r : Int32} {S9 : St} (hf : Mo_vow S p1 p2 = some (r, S9)) : Ct l (wM V) yX11_vow cX11_vow 3 (some .int) 4 (fun E => [.ref (ea E 44), .int p1, .int p2]) S (fun E => some (.int r)) S9 :=
  ofBlock (by decide +kernel) (fun _ => Nat.le_of_ble_eq_true rfl) (fun E p e s m args below meth c ls C hw hl => w_Mo_vow C hw hl hf)
theorem dX11_kept_0 : decode cX11_kept 0 = .ok (.aload_n 0, 1) := by decide +kernel
theorem dX11_kept_1 : decode cX11_kept 1 = .ok (.iload_n 1, 1) := by decide +kernel
theorem dX11_kept_2 : decode cX11_kept 2 = .ok (.i2l, 1) := by decide +kernel
theorem dX11_kept_3 : decode cX11_kept 3 = .ok (.invokevirtual 126, 3) := by decide +kernel
theorem dX11_kept_6 : decode cX11_kept 6 = .ok (.ifCond .ne 5, 3) := by decide +kernel
theorem dX11_kept_9 : decode cX11_kept 9 = .ok (.iconst (-1), 1) := by decide +kernel
theorem dX11_kept_10 : decode cX11_kept 10 = .ok (.ireturn, 1) := by decide +kernel
theorem dX11_kept_11 : decode cX11_kept 11 = .ok (.aload_n 0, 1) := by decide +kernel
theorem dX11_kept_12 : decode cX11_kept 12 = .ok (.iload_n 1, 1) := by decide +kernel
theorem dX11_kept_13 : decode cX11_kept 13 = .ok (.aload_n 0, 1) := by decide +kernel
theorem dX11_kept_14 : decode cX11_kept 14 = .ok (.getfield 265, 3) := by decide +kernel
theorem dX11_kept_17 : decode cX11_kept 17 = .ok (.invokevirtual 202, 3) := by decide +kernel
theorem dX11_kept_20 : decode cX11_kept 20 = .ok (.ifCond .ne 6, 3) := by decide +kernel
theorem dX11_kept_23 : decode cX11_kept 23 = .ok (.bipush (-5), 2) := by decide +kernel
theorem dX11_kept_25 : decode cX11_kept 25 = .ok (.ireturn, 1) := by decide +kernel
theorem dX11_kept_26 : decode cX11_kept 26 = .ok (.aload_n 0, 1) := by decide +kernel
theorem dX11_kept_27 : decode cX11_kept 27 = .ok (.getfield 9, 3) := by decide +kernel
theorem dX11_kept_30 : decode cX11_kept 30 = .ok (.bipush 38, 2) := by decide +kernel
theorem dX11_kept_32 : decode cX11_kept 32 = .ok (.iload_n 1, 1) := by decide +kernel
theorem dX11_kept_33 : decode cX11_kept 33 = .ok (.iadd, 1) := by decide +kernel
theorem dX11_kept_34 : decode cX11_kept 34 = .ok (.aload_n 0, 1) := by decide +kernel
theorem dX11_kept_35 : decode cX11_kept 35 = .ok (.getfield 265, 3) := by decide +kernel
theorem dX11_kept_38 : decode cX11_kept 38 = .ok (.iastore, 1) := by decide +kernel
theorem dX11_kept_39 : decode cX11_kept 39 = .ok (.aload_n 0, 1) := by decide +kernel
theorem dX11_kept_40 : decode cX11_kept 40 = .ok (.getfield 43, 3) := by decide +kernel
theorem dX11_kept_43 : decode cX11_kept 43 = .ok (.iconst 2, 1) := by decide +kernel
theorem dX11_kept_44 : decode cX11_kept 44 = .ok (.dup2, 1) := by decide +kernel
theorem dX11_kept_45 : decode cX11_kept 45 = .ok (.iaload, 1) := by decide +kernel
theorem dX11_kept_46 : decode cX11_kept 46 = .ok (.iconst 1, 1) := by decide +kernel
theorem dX11_kept_47 : decode cX11_kept 47 = .ok (.iadd, 1) := by decide +kernel
theorem dX11_kept_48 : decode cX11_kept 48 = .ok (.iastore, 1) := by decide +kernel
theorem dX11_kept_49 : decode cX11_kept 49 = .ok (.iconst 0, 1) := by decide +kernel
theorem dX11_kept_50 : decode cX11_kept 50 = .ok (.istore_n 2, 1) := by decide +kernel
theorem dX11_kept_51 : decode cX11_kept 51 = .ok (.iconst 0, 1) := by decide +kernel
theorem dX11_kept_52 : decode cX11_kept 52 = .ok (.istore_n 3, 1) := by decide +kernel
theorem dX11_kept_53 : decode cX11_kept 53 = .ok (.iload_n 3, 1) := by decide +kernel
theorem dX11_kept_54 : decode cX11_kept 54 = .ok (.aload_n 0, 1) := by decide +kernel
theorem dX11_kept_55 : decode cX11_kept 55 = .ok (.getfield 88, 3) := by decide +kernel
theorem dX11_kept_58 : decode cX11_kept 58 = .ok (.if_icmp .ge 29, 3) := by decide +kernel
theorem dX11_kept_61 : decode cX11_kept 61 = .ok (.iload_n 2, 1) := by decide +kernel
theorem dX11_kept_62 : decode cX11_kept 62 = .ok (.aload_n 0, 1) := by decide +kernel
theorem dX11_kept_63 : decode cX11_kept 63 = .ok (.iload_n 3, 1) := by decide +kernel
theorem dX11_kept_64 : decode cX11_kept 64 = .ok (.aload_n 0, 1) := by decide +kernel
theorem dX11_kept_65 : decode cX11_kept 65 = .ok (.getfield 265, 3) := by decide +kernel
theorem dX11_kept_68 : decode cX11_kept 68 = .ok (.invokevirtual 202, 3) := by decide +kernel
theorem dX11_kept_71 : decode cX11_kept 71 = .ok (.ifCond .eq 7, 3) := by decide +kernel
theorem dX11_kept_74 : decode cX11_kept 74 = .ok (.iconst 1, 1) := by decide +kernel
theorem dX11_kept_75 : decode cX11_kept 75 = .ok (.goto 4, 3) := by decide +kernel
theorem dX11_kept_78 : decode cX11_kept 78 = .ok (.iconst 0, 1) := by decide +kernel
theorem dX11_kept_79 : decode cX11_kept 79 = .ok (.iadd, 1) := by decide +kernel
theorem dX11_kept_80 : decode cX11_kept 80 = .ok (.istore_n 2, 1) := by decide +kernel
theorem dX11_kept_81 : decode cX11_kept 81 = .ok (.iinc 3 1, 3) := by decide +kernel
theorem dX11_kept_84 : decode cX11_kept 84 = .ok (.goto (-31), 3) := by decide +kernel
theorem dX11_kept_87 : decode cX11_kept 87 = .ok (.iload_n 2, 1) := by decide +kernel
theorem dX11_kept_88 : decode cX11_kept 88 = .ok (.ireturn, 1) := by decide +kernel
section
variable {p : Program} {l : Launch} {e : Env} {s : State} {m : MethodId} {args : Array Value} {below : List Frame} {meth : Method} {c : Code} {H : Heap} {locs : List Loc} {E : Ev} {S V : St} {ls : Array Slot}
set_option maxRecDepth 20000 in
theorem w_Mo_kept_b53 {N : Nat} {k53 : (Int32 × Int32) → Option (Int32 × St)} {l2 : Int32} {l3 : Int32} {r : Int32} {S9 : St} (C : Cx p s m args meth c E cX11_kept 4 RX11 (some .int)) (hk53 : ∀ x, k53 x = some (r, S9) → ∀ (H : Heap) (locs : List Loc) (ls : Array Slot), Wd E (wM V E) s.heap S H locs → lv_has ls 4 [(0, .ref (ea E 44)), (2, .int x.1), (3, .int x.2)] → W p l e (rmh 3) s m args below meth c H locs 0 0 (MQ below (QW E (wM V E) (some (.int r)) S9) args s 0 0 (eA E)) (F0 m 53 ls [])) (hw : Wd E (wM V E) s.heap S H locs) (hl : lv_has ls 4 [(0, .ref (ea E 44)), (2, .int l2), (3, .int l3)]) (hf : Mo_kept_b53 N k53 S l2 l3 = some (r, S9)) : W p l e (rmh 3) s m args below meth c H locs 0 0 (MQ below (QW E (wM V E) (some (.int r)) S9) args s 0 0 (eA E)) (F0 m 53 ls []) := by
  have hx := C.1
  have hb := C.2.1
  unfold Mo_kept_b53 at hf
  refine lv_iload_n hx hb dX11_kept_53 rfl (lv_at hl 2 rfl) ?_
  refine lv_aload_n hx hb dX11_kept_54 rfl (lv_at hl 0 rfl) ?_
  refine get_44_7 C hw q_1158 dX11_kept_55 ?_
  refine lv_icmp_ge (tgt := 87) hx hb dX11_kept_58 (by decide) (fun q => ?_) (fun q => ?_)
  · have hf := hf_t q hf
    refine lv_iload_n hx hb dX11_kept_87 rfl (lv_at hl 1 rfl) ?_
    exact ret_iS C hw dX11_kept_88 hf
  · have hf := hf_f q hf
    refine lv_iload_n hx hb dX11_kept_61 rfl (lv_at hl 1 rfl) ?_
    refine lv_aload_n hx hb dX11_kept_62 rfl (lv_at hl 0 rfl) ?_
    refine lv_iload_n hx hb dX11_kept_63 rfl (lv_at hl 2 rfl) ?_
    refine lv_aload_n hx hb dX11_kept_64 rfl (lv_at hl 0 rfl) ?_
    refine get_44_22 C hw q_1173 dX11_kept_65 ?_
    obtain ⟨r1, hr, hf⟩ := hf_1 hf
    refine inv_Vi (q0 := 44) (ci := 11) (As := [.int l3, .int (gi S 44 22)]) lk_X11_202 C hw rfl rfl rfl (t_Mo_isOpen hr) rfl hl.1 dX11_kept_68 rfl (Nat.le_of_ble_eq_true rfl) (by decide) (Nat.le_of_ble_eq_true rfl) rfl (fun H locs hw => ?_)
    refine lv_if_eq (tgt := 78) hx hb dX11_kept_71 (by decide) (fun q => ?_) (fun q => ?_)
    · have hf := hf_t q hf
      refine lv_iconst (v := 0) hx hb dX11_kept_78 kc_0 ?_
      refine lv_iadd hx hb dX11_kept_79 ?_
      refine nm_i hf (fun x2 hf => ?_)
      refine lv_istore_n (lv' := [(2, .int x2), (0, .ref (ea E 44)), (3, .int l3)]) hx hb dX11_kept_80 rfl hl (by decide) rfl (fun ls hl => ?_)
      obtain ⟨x3, ex3, hf⟩ := nme hf
      refine lv_iinc (v := x3) (lv' := [(3, .int x3), (2, .int x2), (0, .ref (ea E 44))]) hx hb dX11_kept_81 hl (k := 2) rfl (ki_1 ex3) (by decide) rfl (fun ls hl => ?_)
      refine lv_goto (tgt := 53) hx hb dX11_kept_84 (by decide) ?_
      exact hk53 _ hf _ _ _ hw (lv_sub hl [2, 1, 0] rfl)
    · have hf := hf_f q hf
      refine lv_iconst (v := 1) hx hb dX11_kept_74 kc_1 ?_
      refine lv_goto (tgt := 79) hx hb dX11_kept_75 (by decide) ?_
      refine lv_iadd hx hb dX11_kept_79 ?_
      refine nm_i hf (fun x4 hf => ?_)
      refine lv_istore_n (lv' := [(2, .int x4), (0, .ref (ea E 44)), (3, .int l3)]) hx hb dX11_kept_80 rfl hl (by decide) rfl (fun ls hl => ?_)
      obtain ⟨x5, ex5, hf⟩ := nme hf
      refine lv_iinc (v := x5) (lv' := [(3, .int x5), (2, .int x4), (0, .ref (ea E 44))]) hx hb dX11_kept_81 hl (k := 2) rfl (ki_1 ex5) (by decide) rfl (fun ls hl => ?_)
      refine lv_goto (tgt := 53) hx hb dX11_kept_84 (by decide) ?_
      exact hk53 _ hf _ _ _ hw (lv_sub hl [2, 1, 0] rfl)
theorem w_Mo_kept_L53 {N : Nat} {r : Int32} {S9 : St} (C : Cx p s m args meth c E cX11_kept 4 RX11 (some .int)) : ∀ x, Mo_kept_L53 N S x = some (r, S9) → ∀ (H : Heap) (locs : List Loc) (ls : Array Slot), Wd E (wM V E) s.heap S H locs → lv_has ls 4 [(0, .ref (ea E 44)), (2, .int x.1), (3, .int x.2)] → W p l e (rmh 3) s m args below meth c H locs 0 0 (MQ below (QW E (wM V E) (some (.int r)) S9) args s 0 0 (eA E)) (F0 m 53 ls []) :=
  lp_W (fun k x hk hf H locs ls hw hl => w_Mo_kept_b53 C hk hw hl hf) N
set_option maxRecDepth 20000 in
theorem w_Mo_kept {N : Nat} {p1 : Int32} {r : Int32} {S9 : St} (C : Cx p s m args meth c E cX11_kept 4 RX11 (some .int)) (hw : Wd E (wM V E) s.heap S H locs) (hl : lv_has ls 4 [(0, .ref (ea E 44)), (1, .int p1)]) (hf : Mo_kept N S p1 = some (r, S9)) : W p l e (rmh 3) s m args below meth c H locs 0 0 (MQ below (QW E (wM V E) (some (.int r)) S9) args s 0 0 (eA E)) (F0 m 0 ls []) := by
  have hx := C.1
  have hb := C.2.1
  unfold Mo_kept at hf
  refine lv_aload_n hx hb dX11_kept_0 rfl (lv_at hl 0 rfl) ?_
  refine lv_iload_n hx hb dX11_kept_1 rfl (lv_at hl 1 rfl) ?_
  refine lv_i2l hx hb dX11_kept_2 rfl ?_
  obtain ⟨r1, hr, hf⟩ := hf_1 hf
  refine inv_Vi (q0 := 44) (ci := 11) (As := [.long (Int32.toInt64 p1)]) lk_X11_126 C hw rfl rfl rfl (t_Mo_isPromise hr) rfl hl.1 dX11_kept_3 rfl (Nat.le_of_ble_eq_true rfl) (by decide) (Nat.le_of_ble_eq_true rfl) rfl (fun H locs hw => ?_)
  refine lv_if_ne (tgt := 11) hx hb dX11_kept_6 (by decide) (fun q => ?_) (fun q => ?_)
  · have hf := hf_f q hf
    refine lv_aload_n hx hb dX11_kept_11 rfl (lv_at hl 0 rfl) ?_
    refine lv_iload_n hx hb dX11_kept_12 rfl (lv_at hl 1 rfl) ?_
    refine lv_aload_n hx hb dX11_kept_13 rfl (lv_at hl 0 rfl) ?_
    refine get_44_22 C hw q_1173 dX11_kept_14 ?_
    obtain ⟨r2, hr, hf⟩ := hf_1 hf
    refine inv_Vi (q0 := 44) (ci := 11) (As := [.int p1, .int (gi S 44 22)]) lk_X11_202 C hw rfl rfl rfl (t_Mo_isOpen hr) rfl hl.1 dX11_kept_17 rfl (Nat.le_of_ble_eq_true rfl) (by decide) (Nat.le_of_ble_eq_true rfl) rfl (fun H locs hw => ?_)
    refine lv_if_ne (tgt := 26) hx hb dX11_kept_20 (by decide) (fun q => ?_) (fun q => ?_)
    · have hf := hf_f q hf
      refine lv_aload_n hx hb dX11_kept_26 rfl (lv_at hl 0 rfl) ?_
      refine get_44_0 C hw q_1151 dX11_kept_27 ?_
      refine lv_bipush (v := 38) hx hb dX11_kept_30 kb_38 ?_
      refine lv_iload_n hx hb dX11_kept_32 rfl (lv_at hl 1 rfl) ?_
      refine lv_iadd hx hb dX11_kept_33 ?_
      refine lv_aload_n hx hb dX11_kept_34 rfl (lv_at hl 0 rfl) ?_
      refine get_44_22 C hw q_1173 dX11_kept_35 ?_
      obtain ⟨hc, hf⟩ := hf_ck hf
      refine st_45 C hw hc dX11_kept_38 (fun H locs hw => ?_)
      refine nm_S hf hw (fun S3 hf hw => ?_)
      refine lv_aload_n hx hb dX11_kept_39 rfl (lv_at hl 0 rfl) ?_
      refine get_44_23 C hw q_1174 dX11_kept_40 ?_
      refine lv_iconst (v := 2) hx hb dX11_kept_43 kc_2 ?_
      refine lv_dup2_11 hx hb dX11_kept_44 rfl rfl ?_
      refine ld_56 C hw (by decide) dX11_kept_45 ?_
      refine lv_iconst (v := 1) hx hb dX11_kept_46 kc_1 ?_
      refine lv_iadd hx hb dX11_kept_47 ?_
      refine st_56 C hw (by decide) dX11_kept_48 (fun H locs hw => ?_)
      refine nm_S hf hw (fun S4 hf hw => ?_)
      refine lv_iconst (v := 0) hx hb dX11_kept_49 kc_0 ?_
      refine lv_istore_n (lv' := [(2, .int (0 : Int32)), (0, .ref (ea E 44)), (1, .int p1)]) hx hb dX11_kept_50 rfl hl (by decide) rfl (fun ls hl => ?_)
      refine lv_iconst (v := 0) hx hb dX11_kept_51 kc_0 ?_
      refine lv_istore_n (lv' := [(3, .int (0 : Int32)), (2, .int (0 : Int32)), (0, .ref (ea E 44)), (1, .int p1)]) hx hb dX11_kept_52 rfl hl (by decide) rfl (fun ls hl => ?_)
      exact w_Mo_kept_L53 C _ hf _ _ _ hw (lv_sub hl [2, 1, 0] rfl)
    · have hf := hf_t q hf
      refine lv_bipush (v := -5) hx hb dX11_kept_23 kb_m5 ?_
      exact ret_iS C hw dX11_kept_25 hf
  · have hf := hf_t q hf
    refine lv_iconst (v := -1) hx hb dX11_kept_9 kc_m1 ?_
    exact ret_iS C hw dX11_kept_10 hf
end
theorem t_Mo_kept {l : Launch} {V : St} {N : Nat} {S : St} {p1 : Int32} {r : Int32} {S9 : St} (hf : Mo_kept N S p1 = some (r, S9)) : Ct l (wM V) yX11_kept cX11_kept 4 (some .int) 3 (fun E => [.ref (ea E 44), .int p1]) S (fun E => some (.int r)) S9 :=
  ofBlock (by decide +kernel) (fun _ => Nat.le_of_ble_eq_true rfl) (fun E p e s m args below meth c ls C hw hl => w_Mo_kept C hw hl hf)
theorem dX11_led_0 : decode cX11_led 0 = .ok (.iload_n 1, 1) := by decide +kernel
theorem dX11_led_1 : decode cX11_led 1 = .ok (.i2l, 1) := by decide +kernel
theorem dX11_led_2 : decode cX11_led 2 = .ok (.lconst 0, 1) := by decide +kernel
theorem dX11_led_3 : decode cX11_led 3 = .ok (.ldc2_w 122, 3) := by decide +kernel
theorem dX11_led_6 : decode cX11_led 6 = .ok (.invokestatic 84, 3) := by decide +kernel
theorem dX11_led_9 : decode cX11_led 9 = .ok (.ifCond .eq 12, 3) := by decide +kernel
theorem dX11_led_12 : decode cX11_led 12 = .ok (.aload_n 0, 1) := by decide +kernel
theorem dX11_led_13 : decode cX11_led 13 = .ok (.getfield 43, 3) := by decide +kernel
theorem dX11_led_16 : decode cX11_led 16 = .ok (.iload_n 1, 1) := by decide +kernel
theorem dX11_led_17 : decode cX11_led 17 = .ok (.iaload, 1) := by decide +kernel
theorem dX11_led_18 : decode cX11_led 18 = .ok (.goto 16, 3) := by decide +kernel
theorem dX11_led_21 : decode cX11_led 21 = .ok (.iload_n 1, 1) := by decide +kernel
theorem dX11_led_22 : decode cX11_led 22 = .ok (.iconst 4, 1) := by decide +kernel
theorem dX11_led_23 : decode cX11_led 23 = .ok (.if_icmp .ne 10, 3) := by decide +kernel
theorem dX11_led_26 : decode cX11_led 26 = .ok (.aload_n 0, 1) := by decide +kernel
theorem dX11_led_27 : decode cX11_led 27 = .ok (.getfield 265, 3) := by decide +kernel
theorem dX11_led_30 : decode cX11_led 30 = .ok (.goto 4, 3) := by decide +kernel
theorem dX11_led_33 : decode cX11_led 33 = .ok (.iconst (-1), 1) := by decide +kernel
theorem dX11_led_34 : decode cX11_led 34 = .ok (.ireturn, 1) := by decide +kernel
section
variable {p : Program} {l : Launch} {e : Env} {s : State} {m : MethodId} {args : Array Value} {below : List Frame} {meth : Method} {c : Code} {H : Heap} {locs : List Loc} {E : Ev} {S V : St} {ls : Array Slot}
set_option maxRecDepth 20000 in
theorem w_Mo_led {p1 : Int32} {r : Int32} (C : Cx p s m args meth c E cX11_led 2 RX11 (some .int)) (hw : Wd E (wM V E) s.heap S H locs) (hl : lv_has ls 2 [(0, .ref (ea E 44)), (1, .int p1)]) (hf : Mo_led S p1 = some r) : W p l e (rmh 2) s m args below meth c H locs 0 0 (MQ below (QW E (wM V E) (some (.int r)) S) args s 0 0 (eA E)) (F0 m 0 ls []) := by
  have hx := C.1
  have hb := C.2.1
  unfold Mo_led at hf
  refine lv_iload_n hx hb dX11_led_0 rfl (lv_at hl 1 rfl) ?_
  refine lv_i2l hx hb dX11_led_1 rfl ?_
  refine lv_lconst (v := 0) hx hb dX11_led_2 rfl ?_
  refine lv_ldc2 (v := 3) hx hb C.2.2.2.1 (C.2.2.2.2.1 _ q_1325) dX11_led_3 ?_
  obtain ⟨r1, hr, hf⟩ := hf_1 hf
  refine inv_Si (As := [.long (Int32.toInt64 p1), .long (0 : Int64), .long (3 : Int64)]) lk_X11_84 C hw (t_Mo_within hr) hl.1 dX11_led_6 rfl (Nat.le_of_ble_eq_true rfl) (by decide) (Nat.le_of_ble_eq_true rfl) rfl (fun H locs hw => ?_)
  refine lv_if_eq (tgt := 21) hx hb dX11_led_9 (by decide) (fun q => ?_) (fun q => ?_)
  · have hf := hf_t q hf
    refine lv_iload_n hx hb dX11_led_21 rfl (lv_at hl 1 rfl) ?_
    refine lv_iconst (v := 4) hx hb dX11_led_22 kc_4 ?_
    refine lv_icmp_ne (tgt := 33) hx hb dX11_led_23 (by decide) (fun q => ?_) (fun q => ?_)
    · have hf := hf_f q hf
      refine lv_iconst (v := -1) hx hb dX11_led_33 kc_m1 ?_
      exact ret_i C hw dX11_led_34 hf
    · have hf := hf_t q hf
      refine lv_aload_n hx hb dX11_led_26 rfl (lv_at hl 0 rfl) ?_
      refine get_44_22 C hw q_1173 dX11_led_27 ?_
      refine lv_goto (tgt := 34) hx hb dX11_led_30 (by decide) ?_
      exact ret_i C hw dX11_led_34 hf
  · have hf := hf_f q hf
    refine lv_aload_n hx hb dX11_led_12 rfl (lv_at hl 0 rfl) ?_
    refine get_44_23 C hw q_1174 dX11_led_13 ?_
    refine lv_iload_n hx hb dX11_led_16 rfl (lv_at hl 1 rfl) ?_
    obtain ⟨hc, hf⟩ := hf_ck hf
    refine ld_56 C hw hc dX11_led_17 ?_
    refine lv_goto (tgt := 34) hx hb dX11_led_18 (by decide) ?_
    exact ret_i C hw dX11_led_34 hf
end
theorem t_Mo_led {l : Launch} {V : St} {S : St} {p1 : Int32} {r : Int32} (hf : Mo_led S p1 = some r) : Ct l (wM V) yX11_led cX11_led 2 (some .int) 2 (fun E => [.ref (ea E 44), .int p1]) S (fun E => some (.int r)) S :=
  ofBlock (by decide +kernel) (fun _ => Nat.le_of_ble_eq_true rfl) (fun E p e s m args below meth c ls C hw hl => w_Mo_led C hw hl hf)
theorem dX11_image_0 : decode cX11_image 0 = .ok (.aload_n 0, 1) := by decide +kernel
theorem dX11_image_1 : decode cX11_image 1 = .ok (.iconst 1, 1) := by decide +kernel
theorem dX11_image_2 : decode cX11_image 2 = .ok (.putfield 268, 3) := by decide +kernel
theorem dX11_image_5 : decode cX11_image 5 = .ok (.aload_n 0, 1) := by decide +kernel
theorem dX11_image_6 : decode cX11_image 6 = .ok (.aload_n 0, 1) := by decide +kernel
theorem dX11_image_7 : decode cX11_image 7 = .ok (.getfield 88, 3) := by decide +kernel
theorem dX11_image_10 : decode cX11_image 10 = .ok (.putfield 272, 3) := by decide +kernel
theorem dX11_image_13 : decode cX11_image 13 = .ok (.aload_n 0, 1) := by decide +kernel
theorem dX11_image_14 : decode cX11_image 14 = .ok (.aload_n 0, 1) := by decide +kernel
theorem dX11_image_15 : decode cX11_image 15 = .ok (.getfield 265, 3) := by decide +kernel
theorem dX11_image_18 : decode cX11_image 18 = .ok (.putfield 275, 3) := by decide +kernel
theorem dX11_image_21 : decode cX11_image 21 = .ok (.iconst 0, 1) := by decide +kernel
theorem dX11_image_22 : decode cX11_image 22 = .ok (.istore_n 1, 1) := by decide +kernel
theorem dX11_image_23 : decode cX11_image 23 = .ok (.iload_n 1, 1) := by decide +kernel
theorem dX11_image_24 : decode cX11_image 24 = .ok (.aload_n 0, 1) := by decide +kernel
theorem dX11_image_25 : decode cX11_image 25 = .ok (.getfield 88, 3) := by decide +kernel
theorem dX11_image_28 : decode cX11_image 28 = .ok (.if_icmp .ge 24, 3) := by decide +kernel
theorem dX11_image_31 : decode cX11_image 31 = .ok (.aload_n 0, 1) := by decide +kernel
theorem dX11_image_32 : decode cX11_image 32 = .ok (.getfield 46, 3) := by decide +kernel
theorem dX11_image_35 : decode cX11_image 35 = .ok (.iload_n 1, 1) := by decide +kernel
theorem dX11_image_36 : decode cX11_image 36 = .ok (.aload_n 0, 1) := by decide +kernel
theorem dX11_image_37 : decode cX11_image 37 = .ok (.getfield 9, 3) := by decide +kernel
theorem dX11_image_40 : decode cX11_image 40 = .ok (.bipush 38, 2) := by decide +kernel
theorem dX11_image_42 : decode cX11_image 42 = .ok (.iload_n 1, 1) := by decide +kernel
theorem dX11_image_43 : decode cX11_image 43 = .ok (.iadd, 1) := by decide +kernel
theorem dX11_image_44 : decode cX11_image 44 = .ok (.iaload, 1) := by decide +kernel
theorem dX11_image_45 : decode cX11_image 45 = .ok (.iastore, 1) := by decide +kernel
theorem dX11_image_46 : decode cX11_image 46 = .ok (.iinc 1 1, 3) := by decide +kernel
theorem dX11_image_49 : decode cX11_image 49 = .ok (.goto (-26), 3) := by decide +kernel
theorem dX11_image_52 : decode cX11_image 52 = .ok (.iconst 0, 1) := by decide +kernel
theorem dX11_image_53 : decode cX11_image 53 = .ok (.istore_n 1, 1) := by decide +kernel
theorem dX11_image_54 : decode cX11_image 54 = .ok (.iload_n 1, 1) := by decide +kernel
theorem dX11_image_55 : decode cX11_image 55 = .ok (.iconst 4, 1) := by decide +kernel
theorem dX11_image_56 : decode cX11_image 56 = .ok (.if_icmp .ge 21, 3) := by decide +kernel
theorem dX11_image_59 : decode cX11_image 59 = .ok (.aload_n 0, 1) := by decide +kernel
theorem dX11_image_60 : decode cX11_image 60 = .ok (.getfield 49, 3) := by decide +kernel
theorem dX11_image_63 : decode cX11_image 63 = .ok (.iload_n 1, 1) := by decide +kernel
theorem dX11_image_64 : decode cX11_image 64 = .ok (.aload_n 0, 1) := by decide +kernel
theorem dX11_image_65 : decode cX11_image 65 = .ok (.getfield 43, 3) := by decide +kernel
theorem dX11_image_68 : decode cX11_image 68 = .ok (.iload_n 1, 1) := by decide +kernel
theorem dX11_image_69 : decode cX11_image 69 = .ok (.iaload, 1) := by decide +kernel
theorem dX11_image_70 : decode cX11_image 70 = .ok (.iastore, 1) := by decide +kernel
theorem dX11_image_71 : decode cX11_image 71 = .ok (.iinc 1 1, 3) := by decide +kernel
theorem dX11_image_74 : decode cX11_image 74 = .ok (.goto (-20), 3) := by decide +kernel
theorem dX11_image_77 : decode cX11_image 77 = .ok (.aload_n 0, 1) := by decide +kernel
theorem dX11_image_78 : decode cX11_image 78 = .ok (.getfield 265, 3) := by decide +kernel
theorem dX11_image_81 : decode cX11_image 81 = .ok (.ireturn, 1) := by decide +kernel
section
variable {p : Program} {l : Launch} {e : Env} {s : State} {m : MethodId} {args : Array Value} {below : List Frame} {meth : Method} {c : Code} {H : Heap} {locs : List Loc} {E : Ev} {S V : St} {ls : Array Slot}
set_option maxRecDepth 20000 in
theorem w_Mo_image_b54 {N : Nat} {k54 : (St × Int32) → Option (Int32 × St)} {l1 : Int32} {r : Int32} {S9 : St} (C : Cx p s m args meth c E cX11_image 2 RX11 (some .int)) (hk54 : ∀ x, k54 x = some (r, S9) → ∀ (H : Heap) (locs : List Loc) (ls : Array Slot), Wd E (wM V E) s.heap x.1 H locs → lv_has ls 2 [(0, .ref (ea E 44)), (1, .int x.2)] → W p l e (rmh 1) s m args below meth c H locs 0 0 (MQ below (QW E (wM V E) (some (.int r)) S9) args s 0 0 (eA E)) (F0 m 54 ls [])) (hw : Wd E (wM V E) s.heap S H locs) (hl : lv_has ls 2 [(0, .ref (ea E 44)), (1, .int l1)]) (hf : Mo_image_b54 N k54 S l1 = some (r, S9)) : W p l e (rmh 1) s m args below meth c H locs 0 0 (MQ below (QW E (wM V E) (some (.int r)) S9) args s 0 0 (eA E)) (F0 m 54 ls []) := by
  have hx := C.1
  have hb := C.2.1
  unfold Mo_image_b54 at hf
  refine lv_iload_n hx hb dX11_image_54 rfl (lv_at hl 1 rfl) ?_
  refine lv_iconst (v := 4) hx hb dX11_image_55 kc_4 ?_
  refine lv_icmp_ge (tgt := 77) hx hb dX11_image_56 (by decide) (fun q => ?_) (fun q => ?_)
  · have hf := hf_t q hf
    refine lv_aload_n hx hb dX11_image_77 rfl (lv_at hl 0 rfl) ?_
    refine get_44_22 C hw q_1173 dX11_image_78 ?_
    exact ret_iS C hw dX11_image_81 hf
  · have hf := hf_f q hf
    refine lv_aload_n hx hb dX11_image_59 rfl (lv_at hl 0 rfl) ?_
    refine get_44_28 C hw q_1179 dX11_image_60 ?_
    refine lv_iload_n hx hb dX11_image_63 rfl (lv_at hl 1 rfl) ?_
    refine lv_aload_n hx hb dX11_image_64 rfl (lv_at hl 0 rfl) ?_
    refine get_44_23 C hw q_1174 dX11_image_65 ?_
    refine lv_iload_n hx hb dX11_image_68 rfl (lv_at hl 1 rfl) ?_
    obtain ⟨hc, hf⟩ := hf_ck hf
    refine ld_56 C hw hc dX11_image_69 ?_
    obtain ⟨hc, hf⟩ := hf_ck hf
    refine st_58 C hw hc dX11_image_70 (fun H locs hw => ?_)
    refine nm_S hf hw (fun S1 hf hw => ?_)
    obtain ⟨x2, ex2, hf⟩ := nme hf
    refine lv_iinc (v := x2) (lv' := [(1, .int x2), (0, .ref (ea E 44))]) hx hb dX11_image_71 hl (k := 1) rfl (ki_1 ex2) (by decide) rfl (fun ls hl => ?_)
    refine lv_goto (tgt := 54) hx hb dX11_image_74 (by decide) ?_
    exact hk54 _ hf _ _ _ hw (lv_sub hl [1, 0] rfl)
theorem w_Mo_image_L54 {N : Nat} {r : Int32} {S9 : St} (C : Cx p s m args meth c E cX11_image 2 RX11 (some .int)) : ∀ x, Mo_image_L54 N x = some (r, S9) → ∀ (H : Heap) (locs : List Loc) (ls : Array Slot), Wd E (wM V E) s.heap x.1 H locs → lv_has ls 2 [(0, .ref (ea E 44)), (1, .int x.2)] → W p l e (rmh 1) s m args below meth c H locs 0 0 (MQ below (QW E (wM V E) (some (.int r)) S9) args s 0 0 (eA E)) (F0 m 54 ls []) :=
  lp_W (fun k x hk hf H locs ls hw hl => w_Mo_image_b54 C hk hw hl hf) N
set_option maxRecDepth 20000 in
theorem w_Mo_image_b23 {N : Nat} {k23 : (St × Int32) → Option (Int32 × St)} {l1 : Int32} {r : Int32} {S9 : St} (C : Cx p s m args meth c E cX11_image 2 RX11 (some .int)) (hk23 : ∀ x, k23 x = some (r, S9) → ∀ (H : Heap) (locs : List Loc) (ls : Array Slot), Wd E (wM V E) s.heap x.1 H locs → lv_has ls 2 [(0, .ref (ea E 44)), (1, .int x.2)] → W p l e (rmh 1) s m args below meth c H locs 0 0 (MQ below (QW E (wM V E) (some (.int r)) S9) args s 0 0 (eA E)) (F0 m 23 ls [])) (hw : Wd E (wM V E) s.heap S H locs) (hl : lv_has ls 2 [(0, .ref (ea E 44)), (1, .int l1)]) (hf : Mo_image_b23 N k23 S l1 = some (r, S9)) : W p l e (rmh 1) s m args below meth c H locs 0 0 (MQ below (QW E (wM V E) (some (.int r)) S9) args s 0 0 (eA E)) (F0 m 23 ls []) := by
  have hx := C.1
  have hb := C.2.1
  unfold Mo_image_b23 at hf
  refine lv_iload_n hx hb dX11_image_23 rfl (lv_at hl 1 rfl) ?_
  refine lv_aload_n hx hb dX11_image_24 rfl (lv_at hl 0 rfl) ?_
  refine get_44_7 C hw q_1158 dX11_image_25 ?_
  refine lv_icmp_ge (tgt := 52) hx hb dX11_image_28 (by decide) (fun q => ?_) (fun q => ?_)
  · have hf := hf_t q hf
    refine lv_iconst (v := 0) hx hb dX11_image_52 kc_0 ?_
    refine lv_istore_n (lv' := [(1, .int (0 : Int32)), (0, .ref (ea E 44))]) hx hb dX11_image_53 rfl hl (by decide) rfl (fun ls hl => ?_)
    exact w_Mo_image_L54 C _ hf _ _ _ hw (lv_sub hl [1, 0] rfl)
  · have hf := hf_f q hf
    refine lv_aload_n hx hb dX11_image_31 rfl (lv_at hl 0 rfl) ?_
    refine get_44_27 C hw q_1178 dX11_image_32 ?_
    refine lv_iload_n hx hb dX11_image_35 rfl (lv_at hl 1 rfl) ?_
    refine lv_aload_n hx hb dX11_image_36 rfl (lv_at hl 0 rfl) ?_
    refine get_44_0 C hw q_1151 dX11_image_37 ?_
    refine lv_bipush (v := 38) hx hb dX11_image_40 kb_38 ?_
    refine lv_iload_n hx hb dX11_image_42 rfl (lv_at hl 1 rfl) ?_
    refine lv_iadd hx hb dX11_image_43 ?_
    obtain ⟨hc, hf⟩ := hf_ck hf
    refine ld_45 C hw hc dX11_image_44 ?_
    obtain ⟨hc, hf⟩ := hf_ck hf
    refine st_57 C hw hc dX11_image_45 (fun H locs hw => ?_)
    refine nm_S hf hw (fun S1 hf hw => ?_)
    obtain ⟨x2, ex2, hf⟩ := nme hf
    refine lv_iinc (v := x2) (lv' := [(1, .int x2), (0, .ref (ea E 44))]) hx hb dX11_image_46 hl (k := 1) rfl (ki_1 ex2) (by decide) rfl (fun ls hl => ?_)
    refine lv_goto (tgt := 23) hx hb dX11_image_49 (by decide) ?_
    exact hk23 _ hf _ _ _ hw (lv_sub hl [1, 0] rfl)
theorem w_Mo_image_L23 {N : Nat} {r : Int32} {S9 : St} (C : Cx p s m args meth c E cX11_image 2 RX11 (some .int)) : ∀ x, Mo_image_L23 N x = some (r, S9) → ∀ (H : Heap) (locs : List Loc) (ls : Array Slot), Wd E (wM V E) s.heap x.1 H locs → lv_has ls 2 [(0, .ref (ea E 44)), (1, .int x.2)] → W p l e (rmh 1) s m args below meth c H locs 0 0 (MQ below (QW E (wM V E) (some (.int r)) S9) args s 0 0 (eA E)) (F0 m 23 ls []) :=
  lp_W (fun k x hk hf H locs ls hw hl => w_Mo_image_b23 C hk hw hl hf) N
set_option maxRecDepth 20000 in
theorem w_Mo_image {N : Nat} {r : Int32} {S9 : St} (C : Cx p s m args meth c E cX11_image 2 RX11 (some .int)) (hw : Wd E (wM V E) s.heap S H locs) (hl : lv_has ls 2 [(0, .ref (ea E 44))]) (hf : Mo_image N S = some (r, S9)) : W p l e (rmh 1) s m args below meth c H locs 0 0 (MQ below (QW E (wM V E) (some (.int r)) S9) args s 0 0 (eA E)) (F0 m 0 ls []) := by
  have hx := C.1
  have hb := C.2.1
  unfold Mo_image at hf
  refine lv_aload_n hx hb dX11_image_0 rfl (lv_at hl 0 rfl) ?_
  refine lv_iconst (v := 1) hx hb dX11_image_1 kc_1 ?_
  refine put_44_24 C hw (by decide) q_1175 dX11_image_2 (fun H locs hw => ?_)
  refine nm_S hf hw (fun S1 hf hw => ?_)
  refine lv_aload_n hx hb dX11_image_5 rfl (lv_at hl 0 rfl) ?_
  refine lv_aload_n hx hb dX11_image_6 rfl (lv_at hl 0 rfl) ?_
  refine get_44_7 C hw q_1158 dX11_image_7 ?_
  refine put_44_25 C hw q_1176 dX11_image_10 (fun H locs hw => ?_)
  refine nm_S hf hw (fun S2 hf hw => ?_)
  refine lv_aload_n hx hb dX11_image_13 rfl (lv_at hl 0 rfl) ?_
  refine lv_aload_n hx hb dX11_image_14 rfl (lv_at hl 0 rfl) ?_
  refine get_44_22 C hw q_1173 dX11_image_15 ?_
  refine put_44_26 C hw q_1177 dX11_image_18 (fun H locs hw => ?_)
  refine nm_S hf hw (fun S3 hf hw => ?_)
  refine lv_iconst (v := 0) hx hb dX11_image_21 kc_0 ?_
  refine lv_istore_n (lv' := [(1, .int (0 : Int32)), (0, .ref (ea E 44))]) hx hb dX11_image_22 rfl hl (by decide) rfl (fun ls hl => ?_)
  exact w_Mo_image_L23 C _ hf _ _ _ hw (lv_sub hl [1, 0] rfl)
end
theorem t_Mo_image {l : Launch} {V : St} {N : Nat} {S : St} {r : Int32} {S9 : St} (hf : Mo_image N S = some (r, S9)) : Ct l (wM V) yX11_image cX11_image 2 (some .int) 1 (fun E => [.ref (ea E 44)]) S (fun E => some (.int r)) S9 :=
  ofBlock (by decide +kernel) (fun _ => Nat.le_of_ble_eq_true rfl) (fun E p e s m args below meth c ls C hw hl => w_Mo_image C hw hl hf)
theorem dX11_back_0 : decode cX11_back 0 = .ok (.aload_n 0, 1) := by decide +kernel
theorem dX11_back_1 : decode cX11_back 1 = .ok (.getfield 268, 3) := by decide +kernel
theorem dX11_back_4 : decode cX11_back 4 = .ok (.ifCond .ne 6, 3) := by decide +kernel
theorem dX11_back_7 : decode cX11_back 7 = .ok (.bipush (-5), 2) := by decide +kernel
theorem dX11_back_9 : decode cX11_back 9 = .ok (.ireturn, 1) := by decide +kernel
theorem dX11_back_10 : decode cX11_back 10 = .ok (.iconst 0, 1) := by decide +kernel
theorem dX11_back_11 : decode cX11_back 11 = .ok (.istore_n 1, 1) := by decide +kernel
theorem dX11_back_12 : decode cX11_back 12 = .ok (.iload_n 1, 1) := by decide +kernel
theorem dX11_back_13 : decode cX11_back 13 = .ok (.aload_n 0, 1) := by decide +kernel
theorem dX11_back_14 : decode cX11_back 14 = .ok (.getfield 272, 3) := by decide +kernel
theorem dX11_back_17 : decode cX11_back 17 = .ok (.if_icmp .ge 24, 3) := by decide +kernel
theorem dX11_back_20 : decode cX11_back 20 = .ok (.aload_n 0, 1) := by decide +kernel
theorem dX11_back_21 : decode cX11_back 21 = .ok (.getfield 9, 3) := by decide +kernel
theorem dX11_back_24 : decode cX11_back 24 = .ok (.bipush 38, 2) := by decide +kernel
theorem dX11_back_26 : decode cX11_back 26 = .ok (.iload_n 1, 1) := by decide +kernel
theorem dX11_back_27 : decode cX11_back 27 = .ok (.iadd, 1) := by decide +kernel
theorem dX11_back_28 : decode cX11_back 28 = .ok (.aload_n 0, 1) := by decide +kernel
theorem dX11_back_29 : decode cX11_back 29 = .ok (.getfield 46, 3) := by decide +kernel
theorem dX11_back_32 : decode cX11_back 32 = .ok (.iload_n 1, 1) := by decide +kernel
theorem dX11_back_33 : decode cX11_back 33 = .ok (.iaload, 1) := by decide +kernel
theorem dX11_back_34 : decode cX11_back 34 = .ok (.iastore, 1) := by decide +kernel
theorem dX11_back_35 : decode cX11_back 35 = .ok (.iinc 1 1, 3) := by decide +kernel
theorem dX11_back_38 : decode cX11_back 38 = .ok (.goto (-26), 3) := by decide +kernel
theorem dX11_back_41 : decode cX11_back 41 = .ok (.aload_n 0, 1) := by decide +kernel
theorem dX11_back_42 : decode cX11_back 42 = .ok (.aload_n 0, 1) := by decide +kernel
theorem dX11_back_43 : decode cX11_back 43 = .ok (.getfield 275, 3) := by decide +kernel
theorem dX11_back_46 : decode cX11_back 46 = .ok (.putfield 265, 3) := by decide +kernel
theorem dX11_back_49 : decode cX11_back 49 = .ok (.iconst 0, 1) := by decide +kernel
theorem dX11_back_50 : decode cX11_back 50 = .ok (.istore_n 1, 1) := by decide +kernel
theorem dX11_back_51 : decode cX11_back 51 = .ok (.iload_n 1, 1) := by decide +kernel
theorem dX11_back_52 : decode cX11_back 52 = .ok (.iconst 4, 1) := by decide +kernel
theorem dX11_back_53 : decode cX11_back 53 = .ok (.if_icmp .ge 21, 3) := by decide +kernel
theorem dX11_back_56 : decode cX11_back 56 = .ok (.aload_n 0, 1) := by decide +kernel
theorem dX11_back_57 : decode cX11_back 57 = .ok (.getfield 43, 3) := by decide +kernel
theorem dX11_back_60 : decode cX11_back 60 = .ok (.iload_n 1, 1) := by decide +kernel
theorem dX11_back_61 : decode cX11_back 61 = .ok (.aload_n 0, 1) := by decide +kernel
theorem dX11_back_62 : decode cX11_back 62 = .ok (.getfield 49, 3) := by decide +kernel
theorem dX11_back_65 : decode cX11_back 65 = .ok (.iload_n 1, 1) := by decide +kernel
theorem dX11_back_66 : decode cX11_back 66 = .ok (.iaload, 1) := by decide +kernel
theorem dX11_back_67 : decode cX11_back 67 = .ok (.iastore, 1) := by decide +kernel
theorem dX11_back_68 : decode cX11_back 68 = .ok (.iinc 1 1, 3) := by decide +kernel
theorem dX11_back_71 : decode cX11_back 71 = .ok (.goto (-20), 3) := by decide +kernel
theorem dX11_back_74 : decode cX11_back 74 = .ok (.aload_n 0, 1) := by decide +kernel
theorem dX11_back_75 : decode cX11_back 75 = .ok (.getfield 265, 3) := by decide +kernel
theorem dX11_back_78 : decode cX11_back 78 = .ok (.ireturn, 1) := by decide +kernel
section
variable {p : Program} {l : Launch} {e : Env} {s : State} {m : MethodId} {args : Array Value} {below : List Frame} {meth : Method} {c : Code} {H : Heap} {locs : List Loc} {E : Ev} {S V : St} {ls : Array Slot}
set_option maxRecDepth 20000 in
theorem w_Mo_back_b51 {N : Nat} {k51 : (St × Int32) → Option (Int32 × St)} {l1 : Int32} {r : Int32} {S9 : St} (C : Cx p s m args meth c E cX11_back 2 RX11 (some .int)) (hk51 : ∀ x, k51 x = some (r, S9) → ∀ (H : Heap) (locs : List Loc) (ls : Array Slot), Wd E (wM V E) s.heap x.1 H locs → lv_has ls 2 [(0, .ref (ea E 44)), (1, .int x.2)] → W p l e (rmh 1) s m args below meth c H locs 0 0 (MQ below (QW E (wM V E) (some (.int r)) S9) args s 0 0 (eA E)) (F0 m 51 ls [])) (hw : Wd E (wM V E) s.heap S H locs) (hl : lv_has ls 2 [(0, .ref (ea E 44)), (1, .int l1)]) (hf : Mo_back_b51 N k51 S l1 = some (r, S9)) : W p l e (rmh 1) s m args below meth c H locs 0 0 (MQ below (QW E (wM V E) (some (.int r)) S9) args s 0 0 (eA E)) (F0 m 51 ls []) := by
  have hx := C.1
  have hb := C.2.1
  unfold Mo_back_b51 at hf
  refine lv_iload_n hx hb dX11_back_51 rfl (lv_at hl 1 rfl) ?_
  refine lv_iconst (v := 4) hx hb dX11_back_52 kc_4 ?_
  refine lv_icmp_ge (tgt := 74) hx hb dX11_back_53 (by decide) (fun q => ?_) (fun q => ?_)
  · have hf := hf_t q hf
    refine lv_aload_n hx hb dX11_back_74 rfl (lv_at hl 0 rfl) ?_
    refine get_44_22 C hw q_1173 dX11_back_75 ?_
    exact ret_iS C hw dX11_back_78 hf
  · have hf := hf_f q hf
    refine lv_aload_n hx hb dX11_back_56 rfl (lv_at hl 0 rfl) ?_
    refine get_44_23 C hw q_1174 dX11_back_57 ?_
    refine lv_iload_n hx hb dX11_back_60 rfl (lv_at hl 1 rfl) ?_
    refine lv_aload_n hx hb dX11_back_61 rfl (lv_at hl 0 rfl) ?_
    refine get_44_28 C hw q_1179 dX11_back_62 ?_
    refine lv_iload_n hx hb dX11_back_65 rfl (lv_at hl 1 rfl) ?_
    obtain ⟨hc, hf⟩ := hf_ck hf
    refine ld_58 C hw hc dX11_back_66 ?_
    obtain ⟨hc, hf⟩ := hf_ck hf
    refine st_56 C hw hc dX11_back_67 (fun H locs hw => ?_)
    refine nm_S hf hw (fun S1 hf hw => ?_)
    obtain ⟨x2, ex2, hf⟩ := nme hf
    refine lv_iinc (v := x2) (lv' := [(1, .int x2), (0, .ref (ea E 44))]) hx hb dX11_back_68 hl (k := 1) rfl (ki_1 ex2) (by decide) rfl (fun ls hl => ?_)
    refine lv_goto (tgt := 51) hx hb dX11_back_71 (by decide) ?_
    exact hk51 _ hf _ _ _ hw (lv_sub hl [1, 0] rfl)
theorem w_Mo_back_L51 {N : Nat} {r : Int32} {S9 : St} (C : Cx p s m args meth c E cX11_back 2 RX11 (some .int)) : ∀ x, Mo_back_L51 N x = some (r, S9) → ∀ (H : Heap) (locs : List Loc) (ls : Array Slot), Wd E (wM V E) s.heap x.1 H locs → lv_has ls 2 [(0, .ref (ea E 44)), (1, .int x.2)] → W p l e (rmh 1) s m args below meth c H locs 0 0 (MQ below (QW E (wM V E) (some (.int r)) S9) args s 0 0 (eA E)) (F0 m 51 ls []) :=
  lp_W (fun k x hk hf H locs ls hw hl => w_Mo_back_b51 C hk hw hl hf) N
set_option maxRecDepth 20000 in
theorem w_Mo_back_b12 {N : Nat} {k12 : (St × Int32) → Option (Int32 × St)} {l1 : Int32} {r : Int32} {S9 : St} (C : Cx p s m args meth c E cX11_back 2 RX11 (some .int)) (hk12 : ∀ x, k12 x = some (r, S9) → ∀ (H : Heap) (locs : List Loc) (ls : Array Slot), Wd E (wM V E) s.heap x.1 H locs → lv_has ls 2 [(0, .ref (ea E 44)), (1, .int x.2)] → W p l e (rmh 1) s m args below meth c H locs 0 0 (MQ below (QW E (wM V E) (some (.int r)) S9) args s 0 0 (eA E)) (F0 m 12 ls [])) (hw : Wd E (wM V E) s.heap S H locs) (hl : lv_has ls 2 [(0, .ref (ea E 44)), (1, .int l1)]) (hf : Mo_back_b12 N k12 S l1 = some (r, S9)) : W p l e (rmh 1) s m args below meth c H locs 0 0 (MQ below (QW E (wM V E) (some (.int r)) S9) args s 0 0 (eA E)) (F0 m 12 ls []) := by
  have hx := C.1
  have hb := C.2.1
  unfold Mo_back_b12 at hf
  refine lv_iload_n hx hb dX11_back_12 rfl (lv_at hl 1 rfl) ?_
  refine lv_aload_n hx hb dX11_back_13 rfl (lv_at hl 0 rfl) ?_
  refine get_44_25 C hw q_1176 dX11_back_14 ?_
  refine lv_icmp_ge (tgt := 41) hx hb dX11_back_17 (by decide) (fun q => ?_) (fun q => ?_)
  · have hf := hf_t q hf
    refine lv_aload_n hx hb dX11_back_41 rfl (lv_at hl 0 rfl) ?_
    refine lv_aload_n hx hb dX11_back_42 rfl (lv_at hl 0 rfl) ?_
    refine get_44_26 C hw q_1177 dX11_back_43 ?_
    refine put_44_22 C hw q_1173 dX11_back_46 (fun H locs hw => ?_)
    refine nm_S hf hw (fun S1 hf hw => ?_)
    refine lv_iconst (v := 0) hx hb dX11_back_49 kc_0 ?_
    refine lv_istore_n (lv' := [(1, .int (0 : Int32)), (0, .ref (ea E 44))]) hx hb dX11_back_50 rfl hl (by decide) rfl (fun ls hl => ?_)
    exact w_Mo_back_L51 C _ hf _ _ _ hw (lv_sub hl [1, 0] rfl)
  · have hf := hf_f q hf
    refine lv_aload_n hx hb dX11_back_20 rfl (lv_at hl 0 rfl) ?_
    refine get_44_0 C hw q_1151 dX11_back_21 ?_
    refine lv_bipush (v := 38) hx hb dX11_back_24 kb_38 ?_
    refine lv_iload_n hx hb dX11_back_26 rfl (lv_at hl 1 rfl) ?_
    refine lv_iadd hx hb dX11_back_27 ?_
    refine lv_aload_n hx hb dX11_back_28 rfl (lv_at hl 0 rfl) ?_
    refine get_44_27 C hw q_1178 dX11_back_29 ?_
    refine lv_iload_n hx hb dX11_back_32 rfl (lv_at hl 1 rfl) ?_
    obtain ⟨hc, hf⟩ := hf_ck hf
    refine ld_57 C hw hc dX11_back_33 ?_
    obtain ⟨hc, hf⟩ := hf_ck hf
    refine st_45 C hw hc dX11_back_34 (fun H locs hw => ?_)
    refine nm_S hf hw (fun S2 hf hw => ?_)
    obtain ⟨x3, ex3, hf⟩ := nme hf
    refine lv_iinc (v := x3) (lv' := [(1, .int x3), (0, .ref (ea E 44))]) hx hb dX11_back_35 hl (k := 1) rfl (ki_1 ex3) (by decide) rfl (fun ls hl => ?_)
    refine lv_goto (tgt := 12) hx hb dX11_back_38 (by decide) ?_
    exact hk12 _ hf _ _ _ hw (lv_sub hl [1, 0] rfl)
theorem w_Mo_back_L12 {N : Nat} {r : Int32} {S9 : St} (C : Cx p s m args meth c E cX11_back 2 RX11 (some .int)) : ∀ x, Mo_back_L12 N x = some (r, S9) → ∀ (H : Heap) (locs : List Loc) (ls : Array Slot), Wd E (wM V E) s.heap x.1 H locs → lv_has ls 2 [(0, .ref (ea E 44)), (1, .int x.2)] → W p l e (rmh 1) s m args below meth c H locs 0 0 (MQ below (QW E (wM V E) (some (.int r)) S9) args s 0 0 (eA E)) (F0 m 12 ls []) :=
  lp_W (fun k x hk hf H locs ls hw hl => w_Mo_back_b12 C hk hw hl hf) N
set_option maxRecDepth 20000 in
theorem w_Mo_back {N : Nat} {r : Int32} {S9 : St} (C : Cx p s m args meth c E cX11_back 2 RX11 (some .int)) (hw : Wd E (wM V E) s.heap S H locs) (hl : lv_has ls 2 [(0, .ref (ea E 44))]) (hf : Mo_back N S = some (r, S9)) : W p l e (rmh 1) s m args below meth c H locs 0 0 (MQ below (QW E (wM V E) (some (.int r)) S9) args s 0 0 (eA E)) (F0 m 0 ls []) := by
  have hx := C.1
  have hb := C.2.1
  unfold Mo_back at hf
  refine lv_aload_n hx hb dX11_back_0 rfl (lv_at hl 0 rfl) ?_
  refine get_44_24 C hw q_1175 dX11_back_1 ?_
  refine lv_if_ne (tgt := 10) hx hb dX11_back_4 (by decide) (fun q => ?_) (fun q => ?_)
  · have hf := hf_f q hf
    refine lv_iconst (v := 0) hx hb dX11_back_10 kc_0 ?_
    refine lv_istore_n (lv' := [(1, .int (0 : Int32)), (0, .ref (ea E 44))]) hx hb dX11_back_11 rfl hl (by decide) rfl (fun ls hl => ?_)
    exact w_Mo_back_L12 C _ hf _ _ _ hw (lv_sub hl [1, 0] rfl)
  · have hf := hf_t q hf
    refine lv_bipush (v := -5) hx hb dX11_back_7 kb_m5 ?_
    exact ret_iS C hw dX11_back_9 hf
end
theorem t_Mo_back {l : Launch} {V : St} {N : Nat} {S : St} {r : Int32} {S9 : St} (hf : Mo_back N S = some (r, S9)) : Ct l (wM V) yX11_back cX11_back 2 (some .int) 1 (fun E => [.ref (ea E 44)]) S (fun E => some (.int r)) S9 :=
  ofBlock (by decide +kernel) (fun _ => Nat.le_of_ble_eq_true rfl) (fun E p e s m args below meth c ls C hw hl => w_Mo_back C hw hl hf)
theorem dX11_isBody_0 : decode cX11_isBody 0 = .ok (.iload_n 1, 1) := by decide +kernel
theorem dX11_isBody_1 : decode cX11_isBody 1 = .ok (.i2l, 1) := by decide +kernel
theorem dX11_isBody_2 : decode cX11_isBody 2 = .ok (.lconst 0, 1) := by decide +kernel
theorem dX11_isBody_3 : decode cX11_isBody 3 = .ok (.aload_n 0, 1) := by decide +kernel
theorem dX11_isBody_4 : decode cX11_isBody 4 = .ok (.getfield 278, 3) := by decide +kernel
theorem dX11_isBody_7 : decode cX11_isBody 7 = .ok (.iconst 1, 1) := by decide +kernel
theorem dX11_isBody_8 : decode cX11_isBody 8 = .ok (.isub, 1) := by decide +kernel
theorem dX11_isBody_9 : decode cX11_isBody 9 = .ok (.i2l, 1) := by decide +kernel
theorem dX11_isBody_10 : decode cX11_isBody 10 = .ok (.invokestatic 84, 3) := by decide +kernel
theorem dX11_isBody_13 : decode cX11_isBody 13 = .ok (.ireturn, 1) := by decide +kernel
section
variable {p : Program} {l : Launch} {e : Env} {s : State} {m : MethodId} {args : Array Value} {below : List Frame} {meth : Method} {c : Code} {H : Heap} {locs : List Loc} {E : Ev} {S V : St} {ls : Array Slot}
set_option maxRecDepth 20000 in
theorem w_Mo_isBody {p1 : Int32} {r : Int32} (C : Cx p s m args meth c E cX11_isBody 2 RX11 (some .boolean)) (hw : Wd E (wM V E) s.heap S H locs) (hl : lv_has ls 2 [(0, .ref (ea E 44)), (1, .int p1)]) (hf : Mo_isBody S p1 = some r) : W p l e (rmh 2) s m args below meth c H locs 0 0 (MQ below (QW E (wM V E) (some (.int r)) S) args s 0 0 (eA E)) (F0 m 0 ls []) := by
  have hx := C.1
  have hb := C.2.1
  unfold Mo_isBody at hf
  refine lv_iload_n hx hb dX11_isBody_0 rfl (lv_at hl 1 rfl) ?_
  refine lv_i2l hx hb dX11_isBody_1 rfl ?_
  refine lv_lconst (v := 0) hx hb dX11_isBody_2 rfl ?_
  refine lv_aload_n hx hb dX11_isBody_3 rfl (lv_at hl 0 rfl) ?_
  refine get_44_29 C hw q_1180 dX11_isBody_4 ?_
  refine lv_iconst (v := 1) hx hb dX11_isBody_7 kc_1 ?_
  refine lv_isub hx hb dX11_isBody_8 ?_
  refine lv_i2l hx hb dX11_isBody_9 rfl ?_
  obtain ⟨r1, hr, hf⟩ := hf_1 hf
  refine inv_Si (As := [.long (Int32.toInt64 p1), .long (0 : Int64), .long (Int32.toInt64 ((gi S 44 29) - (1 : Int32)))]) lk_X11_84 C hw (t_Mo_within hr) hl.1 dX11_isBody_10 rfl (Nat.le_of_ble_eq_true rfl) (by decide) (Nat.le_of_ble_eq_true rfl) rfl (fun H locs hw => ?_)
  obtain ⟨hcb, hf⟩ := hf_ck hf
  exact ret_z (isB_nar hcb) C hw dX11_isBody_13 hf
end
theorem t_Mo_isBody {l : Launch} {V : St} {S : St} {p1 : Int32} {r : Int32} (hf : Mo_isBody S p1 = some r) : Ct l (wM V) yX11_isBody cX11_isBody 2 (some .boolean) 2 (fun E => [.ref (ea E 44), .int p1]) S (fun E => some (.int r)) S :=
  ofBlock (by decide +kernel) (fun _ => Nat.le_of_ble_eq_true rfl) (fun E p e s m args below meth c ls C hw hl => w_Mo_isBody C hw hl hf)
theorem dX11_kindOf_0 : decode cX11_kindOf 0 = .ok (.aload_n 0, 1) := by decide +kernel
theorem dX11_kindOf_1 : decode cX11_kindOf 1 = .ok (.getfield 52, 3) := by decide +kernel
theorem dX11_kindOf_4 : decode cX11_kindOf 4 = .ok (.iload_n 1, 1) := by decide +kernel
theorem dX11_kindOf_5 : decode cX11_kindOf 5 = .ok (.iaload, 1) := by decide +kernel
theorem dX11_kindOf_6 : decode cX11_kindOf 6 = .ok (.ireturn, 1) := by decide +kernel
section
variable {p : Program} {l : Launch} {e : Env} {s : State} {m : MethodId} {args : Array Value} {below : List Frame} {meth : Method} {c : Code} {H : Heap} {locs : List Loc} {E : Ev} {S V : St} {ls : Array Slot}
set_option maxRecDepth 20000 in
theorem w_Mo_kindOf {p1 : Int32} {r : Int32} (C : Cx p s m args meth c E cX11_kindOf 2 RX11 (some .int)) (hw : Wd E (wM V E) s.heap S H locs) (hl : lv_has ls 2 [(0, .ref (ea E 44)), (1, .int p1)]) (hf : Mo_kindOf S p1 = some r) : W p l e (rmh 1) s m args below meth c H locs 0 0 (MQ below (QW E (wM V E) (some (.int r)) S) args s 0 0 (eA E)) (F0 m 0 ls []) := by
  have hx := C.1
  have hb := C.2.1
  unfold Mo_kindOf at hf
  refine lv_aload_n hx hb dX11_kindOf_0 rfl (lv_at hl 0 rfl) ?_
  refine get_44_30 C hw q_1181 dX11_kindOf_1 ?_
  refine lv_iload_n hx hb dX11_kindOf_4 rfl (lv_at hl 1 rfl) ?_
  obtain ⟨hc, hf⟩ := hf_ck hf
  refine ld_59 C hw hc dX11_kindOf_5 ?_
  exact ret_i C hw dX11_kindOf_6 hf
end
theorem t_Mo_kindOf {l : Launch} {V : St} {S : St} {p1 : Int32} {r : Int32} (hf : Mo_kindOf S p1 = some r) : Ct l (wM V) yX11_kindOf cX11_kindOf 2 (some .int) 1 (fun E => [.ref (ea E 44), .int p1]) S (fun E => some (.int r)) S :=
  ofBlock (by decide +kernel) (fun _ => Nat.le_of_ble_eq_true rfl) (fun E p e s m args below meth c ls C hw hl => w_Mo_kindOf C hw hl hf)
