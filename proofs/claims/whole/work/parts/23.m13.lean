theorem dX11_becomes_0 : decode cX11_becomes 0 = .ok (.aload_n 0, 1) := by decide +kernel
theorem dX11_becomes_1 : decode cX11_becomes 1 = .ok (.getfield 9, 3) := by decide +kernel
theorem dX11_becomes_4 : decode cX11_becomes 4 = .ok (.iload_n 1, 1) := by decide +kernel
theorem dX11_becomes_5 : decode cX11_becomes 5 = .ok (.iaload, 1) := by decide +kernel
theorem dX11_becomes_6 : decode cX11_becomes 6 = .ok (.istore_n 3, 1) := by decide +kernel
theorem dX11_becomes_7 : decode cX11_becomes 7 = .ok (.iload_n 3, 1) := by decide +kernel
theorem dX11_becomes_8 : decode cX11_becomes 8 = .ok (.iload_n 2, 1) := by decide +kernel
theorem dX11_becomes_9 : decode cX11_becomes 9 = .ok (.if_icmp .ne 5, 3) := by decide +kernel
theorem dX11_becomes_12 : decode cX11_becomes 12 = .ok (.iload_n 3, 1) := by decide +kernel
theorem dX11_becomes_13 : decode cX11_becomes 13 = .ok (.ireturn, 1) := by decide +kernel
theorem dX11_becomes_14 : decode cX11_becomes 14 = .ok (.aload_n 0, 1) := by decide +kernel
theorem dX11_becomes_15 : decode cX11_becomes 15 = .ok (.getfield 75, 3) := by decide +kernel
theorem dX11_becomes_18 : decode cX11_becomes 18 = .ok (.bipush 40, 2) := by decide +kernel
theorem dX11_becomes_20 : decode cX11_becomes 20 = .ok (.if_icmp .ne 77, 3) := by decide +kernel
theorem dX11_becomes_23 : decode cX11_becomes 23 = .ok (.iconst 1, 1) := by decide +kernel
theorem dX11_becomes_24 : decode cX11_becomes 24 = .ok (.istore 4, 2) := by decide +kernel
theorem dX11_becomes_26 : decode cX11_becomes 26 = .ok (.iload 4, 2) := by decide +kernel
theorem dX11_becomes_28 : decode cX11_becomes 28 = .ok (.bipush 40, 2) := by decide +kernel
theorem dX11_becomes_30 : decode cX11_becomes 30 = .ok (.if_icmp .ge 57, 3) := by decide +kernel
theorem dX11_becomes_33 : decode cX11_becomes 33 = .ok (.aload_n 0, 1) := by decide +kernel
theorem dX11_becomes_34 : decode cX11_becomes 34 = .ok (.getfield 13, 3) := by decide +kernel
theorem dX11_becomes_37 : decode cX11_becomes 37 = .ok (.iload 4, 2) := by decide +kernel
theorem dX11_becomes_39 : decode cX11_becomes 39 = .ok (.iconst 1, 1) := by decide +kernel
theorem dX11_becomes_40 : decode cX11_becomes 40 = .ok (.isub, 1) := by decide +kernel
theorem dX11_becomes_41 : decode cX11_becomes 41 = .ok (.aload_n 0, 1) := by decide +kernel
theorem dX11_becomes_42 : decode cX11_becomes 42 = .ok (.getfield 13, 3) := by decide +kernel
theorem dX11_becomes_45 : decode cX11_becomes 45 = .ok (.iload 4, 2) := by decide +kernel
theorem dX11_becomes_47 : decode cX11_becomes 47 = .ok (.iaload, 1) := by decide +kernel
theorem dX11_becomes_48 : decode cX11_becomes 48 = .ok (.iastore, 1) := by decide +kernel
theorem dX11_becomes_49 : decode cX11_becomes 49 = .ok (.aload_n 0, 1) := by decide +kernel
theorem dX11_becomes_50 : decode cX11_becomes 50 = .ok (.getfield 16, 3) := by decide +kernel
theorem dX11_becomes_53 : decode cX11_becomes 53 = .ok (.iload 4, 2) := by decide +kernel
theorem dX11_becomes_55 : decode cX11_becomes 55 = .ok (.iconst 1, 1) := by decide +kernel
theorem dX11_becomes_56 : decode cX11_becomes 56 = .ok (.isub, 1) := by decide +kernel
theorem dX11_becomes_57 : decode cX11_becomes 57 = .ok (.aload_n 0, 1) := by decide +kernel
theorem dX11_becomes_58 : decode cX11_becomes 58 = .ok (.getfield 16, 3) := by decide +kernel
theorem dX11_becomes_61 : decode cX11_becomes 61 = .ok (.iload 4, 2) := by decide +kernel
theorem dX11_becomes_63 : decode cX11_becomes 63 = .ok (.iaload, 1) := by decide +kernel
theorem dX11_becomes_64 : decode cX11_becomes 64 = .ok (.iastore, 1) := by decide +kernel
theorem dX11_becomes_65 : decode cX11_becomes 65 = .ok (.aload_n 0, 1) := by decide +kernel
theorem dX11_becomes_66 : decode cX11_becomes 66 = .ok (.getfield 19, 3) := by decide +kernel
theorem dX11_becomes_69 : decode cX11_becomes 69 = .ok (.iload 4, 2) := by decide +kernel
theorem dX11_becomes_71 : decode cX11_becomes 71 = .ok (.iconst 1, 1) := by decide +kernel
theorem dX11_becomes_72 : decode cX11_becomes 72 = .ok (.isub, 1) := by decide +kernel
theorem dX11_becomes_73 : decode cX11_becomes 73 = .ok (.aload_n 0, 1) := by decide +kernel
theorem dX11_becomes_74 : decode cX11_becomes 74 = .ok (.getfield 19, 3) := by decide +kernel
theorem dX11_becomes_77 : decode cX11_becomes 77 = .ok (.iload 4, 2) := by decide +kernel
theorem dX11_becomes_79 : decode cX11_becomes 79 = .ok (.iaload, 1) := by decide +kernel
theorem dX11_becomes_80 : decode cX11_becomes 80 = .ok (.iastore, 1) := by decide +kernel
theorem dX11_becomes_81 : decode cX11_becomes 81 = .ok (.iinc 4 1, 3) := by decide +kernel
theorem dX11_becomes_84 : decode cX11_becomes 84 = .ok (.goto (-58), 3) := by decide +kernel
theorem dX11_becomes_87 : decode cX11_becomes 87 = .ok (.aload_n 0, 1) := by decide +kernel
theorem dX11_becomes_88 : decode cX11_becomes 88 = .ok (.dup, 1) := by decide +kernel
theorem dX11_becomes_89 : decode cX11_becomes 89 = .ok (.getfield 75, 3) := by decide +kernel
theorem dX11_becomes_92 : decode cX11_becomes 92 = .ok (.iconst 1, 1) := by decide +kernel
theorem dX11_becomes_93 : decode cX11_becomes 93 = .ok (.isub, 1) := by decide +kernel
theorem dX11_becomes_94 : decode cX11_becomes 94 = .ok (.putfield 75, 3) := by decide +kernel
theorem dX11_becomes_97 : decode cX11_becomes 97 = .ok (.aload_n 0, 1) := by decide +kernel
theorem dX11_becomes_98 : decode cX11_becomes 98 = .ok (.getfield 13, 3) := by decide +kernel
theorem dX11_becomes_101 : decode cX11_becomes 101 = .ok (.aload_n 0, 1) := by decide +kernel
theorem dX11_becomes_102 : decode cX11_becomes 102 = .ok (.getfield 75, 3) := by decide +kernel
theorem dX11_becomes_105 : decode cX11_becomes 105 = .ok (.iload_n 1, 1) := by decide +kernel
theorem dX11_becomes_106 : decode cX11_becomes 106 = .ok (.iastore, 1) := by decide +kernel
theorem dX11_becomes_107 : decode cX11_becomes 107 = .ok (.aload_n 0, 1) := by decide +kernel
theorem dX11_becomes_108 : decode cX11_becomes 108 = .ok (.getfield 16, 3) := by decide +kernel
theorem dX11_becomes_111 : decode cX11_becomes 111 = .ok (.aload_n 0, 1) := by decide +kernel
theorem dX11_becomes_112 : decode cX11_becomes 112 = .ok (.getfield 75, 3) := by decide +kernel
theorem dX11_becomes_115 : decode cX11_becomes 115 = .ok (.iload_n 3, 1) := by decide +kernel
theorem dX11_becomes_116 : decode cX11_becomes 116 = .ok (.iastore, 1) := by decide +kernel
theorem dX11_becomes_117 : decode cX11_becomes 117 = .ok (.aload_n 0, 1) := by decide +kernel
theorem dX11_becomes_118 : decode cX11_becomes 118 = .ok (.getfield 19, 3) := by decide +kernel
theorem dX11_becomes_121 : decode cX11_becomes 121 = .ok (.aload_n 0, 1) := by decide +kernel
theorem dX11_becomes_122 : decode cX11_becomes 122 = .ok (.getfield 75, 3) := by decide +kernel
theorem dX11_becomes_125 : decode cX11_becomes 125 = .ok (.iload_n 2, 1) := by decide +kernel
theorem dX11_becomes_126 : decode cX11_becomes 126 = .ok (.iastore, 1) := by decide +kernel
theorem dX11_becomes_127 : decode cX11_becomes 127 = .ok (.aload_n 0, 1) := by decide +kernel
theorem dX11_becomes_128 : decode cX11_becomes 128 = .ok (.dup, 1) := by decide +kernel
theorem dX11_becomes_129 : decode cX11_becomes 129 = .ok (.getfield 75, 3) := by decide +kernel
theorem dX11_becomes_132 : decode cX11_becomes 132 = .ok (.iconst 1, 1) := by decide +kernel
theorem dX11_becomes_133 : decode cX11_becomes 133 = .ok (.iadd, 1) := by decide +kernel
theorem dX11_becomes_134 : decode cX11_becomes 134 = .ok (.putfield 75, 3) := by decide +kernel
theorem dX11_becomes_137 : decode cX11_becomes 137 = .ok (.aload_n 0, 1) := by decide +kernel
theorem dX11_becomes_138 : decode cX11_becomes 138 = .ok (.aload_n 0, 1) := by decide +kernel
theorem dX11_becomes_139 : decode cX11_becomes 139 = .ok (.getfield 75, 3) := by decide +kernel
theorem dX11_becomes_142 : decode cX11_becomes 142 = .ok (.putfield 78, 3) := by decide +kernel
theorem dX11_becomes_145 : decode cX11_becomes 145 = .ok (.aload_n 0, 1) := by decide +kernel
theorem dX11_becomes_146 : decode cX11_becomes 146 = .ok (.getfield 9, 3) := by decide +kernel
theorem dX11_becomes_149 : decode cX11_becomes 149 = .ok (.iload_n 1, 1) := by decide +kernel
theorem dX11_becomes_150 : decode cX11_becomes 150 = .ok (.iload_n 2, 1) := by decide +kernel
theorem dX11_becomes_151 : decode cX11_becomes 151 = .ok (.iastore, 1) := by decide +kernel
theorem dX11_becomes_152 : decode cX11_becomes 152 = .ok (.iload_n 3, 1) := by decide +kernel
theorem dX11_becomes_153 : decode cX11_becomes 153 = .ok (.ireturn, 1) := by decide +kernel
section
variable {p : Program} {l : Launch} {e : Env} {s : State} {m : MethodId} {args : Array Value} {below : List Frame} {meth : Method} {c : Code} {H : Heap} {locs : List Loc} {E : Ev} {S V : St} {ls : Array Slot}
set_option maxRecDepth 20000 in
theorem w_Mo_becomes_b97 {N : Nat} {l1 : Int32} {l2 : Int32} {l3 : Int32} {r : Int32} {S9 : St} (C : Cx p s m args meth c E cX11_becomes 5 RX11 (some .int)) (hw : Wd E (wM V E) s.heap S H locs) (hl : lv_has ls 5 [(0, .ref (ea E 44)), (1, .int l1), (2, .int l2), (3, .int l3)]) (hf : Mo_becomes_b97 N S l1 l2 l3 = some (r, S9)) : W p l e (rmh 1) s m args below meth c H locs 0 0 (MQ below (QW E (wM V E) (some (.int r)) S9) args s 0 0 (eA E)) (F0 m 97 ls []) := by
  have hx := C.1
  have hb := C.2.1
  unfold Mo_becomes_b97 at hf
  refine lv_aload_n hx hb dX11_becomes_97 rfl (lv_at hl 0 rfl) ?_
  refine get_44_1 C hw q_1152 dX11_becomes_98 ?_
  refine lv_aload_n hx hb dX11_becomes_101 rfl (lv_at hl 0 rfl) ?_
  refine get_44_5 C hw q_1156 dX11_becomes_102 ?_
  refine lv_iload_n hx hb dX11_becomes_105 rfl (lv_at hl 1 rfl) ?_
  obtain ⟨hc, hf⟩ := hf_ck hf
  refine st_46 C hw hc dX11_becomes_106 (fun H locs hw => ?_)
  refine nm_S hf hw (fun S1 hf hw => ?_)
  refine lv_aload_n hx hb dX11_becomes_107 rfl (lv_at hl 0 rfl) ?_
  refine get_44_2 C hw q_1153 dX11_becomes_108 ?_
  refine lv_aload_n hx hb dX11_becomes_111 rfl (lv_at hl 0 rfl) ?_
  refine get_44_5 C hw q_1156 dX11_becomes_112 ?_
  refine lv_iload_n hx hb dX11_becomes_115 rfl (lv_at hl 3 rfl) ?_
  obtain ⟨hc, hf⟩ := hf_ck hf
  refine st_47 C hw hc dX11_becomes_116 (fun H locs hw => ?_)
  refine nm_S hf hw (fun S2 hf hw => ?_)
  refine lv_aload_n hx hb dX11_becomes_117 rfl (lv_at hl 0 rfl) ?_
  refine get_44_3 C hw q_1154 dX11_becomes_118 ?_
  refine lv_aload_n hx hb dX11_becomes_121 rfl (lv_at hl 0 rfl) ?_
  refine get_44_5 C hw q_1156 dX11_becomes_122 ?_
  refine lv_iload_n hx hb dX11_becomes_125 rfl (lv_at hl 2 rfl) ?_
  obtain ⟨hc, hf⟩ := hf_ck hf
  refine st_48 C hw hc dX11_becomes_126 (fun H locs hw => ?_)
  refine nm_S hf hw (fun S3 hf hw => ?_)
  refine lv_aload_n hx hb dX11_becomes_127 rfl (lv_at hl 0 rfl) ?_
  refine lv_dup hx hb dX11_becomes_128 rfl ?_
  refine get_44_5 C hw q_1156 dX11_becomes_129 ?_
  refine lv_iconst (v := 1) hx hb dX11_becomes_132 kc_1 ?_
  refine lv_iadd hx hb dX11_becomes_133 ?_
  refine put_44_5 C hw q_1156 dX11_becomes_134 (fun H locs hw => ?_)
  refine nm_S hf hw (fun S4 hf hw => ?_)
  refine lv_aload_n hx hb dX11_becomes_137 rfl (lv_at hl 0 rfl) ?_
  refine lv_aload_n hx hb dX11_becomes_138 rfl (lv_at hl 0 rfl) ?_
  refine get_44_5 C hw q_1156 dX11_becomes_139 ?_
  refine put_44_4 C hw q_1155 dX11_becomes_142 (fun H locs hw => ?_)
  refine nm_S hf hw (fun S5 hf hw => ?_)
  refine lv_aload_n hx hb dX11_becomes_145 rfl (lv_at hl 0 rfl) ?_
  refine get_44_0 C hw q_1151 dX11_becomes_146 ?_
  refine lv_iload_n hx hb dX11_becomes_149 rfl (lv_at hl 1 rfl) ?_
  refine lv_iload_n hx hb dX11_becomes_150 rfl (lv_at hl 2 rfl) ?_
  obtain ⟨hc, hf⟩ := hf_ck hf
  refine st_45 C hw hc dX11_becomes_151 (fun H locs hw => ?_)
  refine nm_S hf hw (fun S6 hf hw => ?_)
  refine lv_iload_n hx hb dX11_becomes_152 rfl (lv_at hl 3 rfl) ?_
  exact ret_iS C hw dX11_becomes_153 hf
set_option maxRecDepth 20000 in
theorem w_Mo_becomes_b26 {N : Nat} {k26 : (St × Int32) → Option (Int32 × St)} {l1 : Int32} {l2 : Int32} {l3 : Int32} {l4 : Int32} {r : Int32} {S9 : St} (C : Cx p s m args meth c E cX11_becomes 5 RX11 (some .int)) (hk26 : ∀ x, k26 x = some (r, S9) → ∀ (H : Heap) (locs : List Loc) (ls : Array Slot), Wd E (wM V E) s.heap x.1 H locs → lv_has ls 5 [(0, .ref (ea E 44)), (1, .int l1), (2, .int l2), (3, .int l3), (4, .int x.2)] → W p l e (rmh 1) s m args below meth c H locs 0 0 (MQ below (QW E (wM V E) (some (.int r)) S9) args s 0 0 (eA E)) (F0 m 26 ls [])) (hw : Wd E (wM V E) s.heap S H locs) (hl : lv_has ls 5 [(0, .ref (ea E 44)), (1, .int l1), (2, .int l2), (3, .int l3), (4, .int l4)]) (hf : Mo_becomes_b26 N k26 S l1 l2 l3 l4 = some (r, S9)) : W p l e (rmh 1) s m args below meth c H locs 0 0 (MQ below (QW E (wM V E) (some (.int r)) S9) args s 0 0 (eA E)) (F0 m 26 ls []) := by
  have hx := C.1
  have hb := C.2.1
  unfold Mo_becomes_b26 at hf
  refine lv_iload hx hb dX11_becomes_26 (lv_at hl 4 rfl) ?_
  refine lv_bipush (v := 40) hx hb dX11_becomes_28 kb_40 ?_
  refine lv_icmp_ge (tgt := 87) hx hb dX11_becomes_30 (by decide) (fun q => ?_) (fun q => ?_)
  · have hf := hf_t q hf
    refine lv_aload_n hx hb dX11_becomes_87 rfl (lv_at hl 0 rfl) ?_
    refine lv_dup hx hb dX11_becomes_88 rfl ?_
    refine get_44_5 C hw q_1156 dX11_becomes_89 ?_
    refine lv_iconst (v := 1) hx hb dX11_becomes_92 kc_1 ?_
    refine lv_isub hx hb dX11_becomes_93 ?_
    refine put_44_5 C hw q_1156 dX11_becomes_94 (fun H locs hw => ?_)
    refine nm_S hf hw (fun S1 hf hw => ?_)
    exact w_Mo_becomes_b97 C hw (lv_sub hl [0, 1, 2, 3] rfl) hf
  · have hf := hf_f q hf
    refine lv_aload_n hx hb dX11_becomes_33 rfl (lv_at hl 0 rfl) ?_
    refine get_44_1 C hw q_1152 dX11_becomes_34 ?_
    refine lv_iload hx hb dX11_becomes_37 (lv_at hl 4 rfl) ?_
    refine lv_iconst (v := 1) hx hb dX11_becomes_39 kc_1 ?_
    refine lv_isub hx hb dX11_becomes_40 ?_
    refine lv_aload_n hx hb dX11_becomes_41 rfl (lv_at hl 0 rfl) ?_
    refine get_44_1 C hw q_1152 dX11_becomes_42 ?_
    refine lv_iload hx hb dX11_becomes_45 (lv_at hl 4 rfl) ?_
    obtain ⟨hc, hf⟩ := hf_ck hf
    refine ld_46 C hw hc dX11_becomes_47 ?_
    obtain ⟨hc, hf⟩ := hf_ck hf
    refine st_46 C hw hc dX11_becomes_48 (fun H locs hw => ?_)
    refine nm_S hf hw (fun S2 hf hw => ?_)
    refine lv_aload_n hx hb dX11_becomes_49 rfl (lv_at hl 0 rfl) ?_
    refine get_44_2 C hw q_1153 dX11_becomes_50 ?_
    refine lv_iload hx hb dX11_becomes_53 (lv_at hl 4 rfl) ?_
    refine lv_iconst (v := 1) hx hb dX11_becomes_55 kc_1 ?_
    refine lv_isub hx hb dX11_becomes_56 ?_
    refine lv_aload_n hx hb dX11_becomes_57 rfl (lv_at hl 0 rfl) ?_
    refine get_44_2 C hw q_1153 dX11_becomes_58 ?_
    refine lv_iload hx hb dX11_becomes_61 (lv_at hl 4 rfl) ?_
    obtain ⟨hc, hf⟩ := hf_ck hf
    refine ld_47 C hw hc dX11_becomes_63 ?_
    obtain ⟨hc, hf⟩ := hf_ck hf
    refine st_47 C hw hc dX11_becomes_64 (fun H locs hw => ?_)
    refine nm_S hf hw (fun S3 hf hw => ?_)
    refine lv_aload_n hx hb dX11_becomes_65 rfl (lv_at hl 0 rfl) ?_
    refine get_44_3 C hw q_1154 dX11_becomes_66 ?_
    refine lv_iload hx hb dX11_becomes_69 (lv_at hl 4 rfl) ?_
    refine lv_iconst (v := 1) hx hb dX11_becomes_71 kc_1 ?_
    refine lv_isub hx hb dX11_becomes_72 ?_
    refine lv_aload_n hx hb dX11_becomes_73 rfl (lv_at hl 0 rfl) ?_
    refine get_44_3 C hw q_1154 dX11_becomes_74 ?_
    refine lv_iload hx hb dX11_becomes_77 (lv_at hl 4 rfl) ?_
    obtain ⟨hc, hf⟩ := hf_ck hf
    refine ld_48 C hw hc dX11_becomes_79 ?_
    obtain ⟨hc, hf⟩ := hf_ck hf
    refine st_48 C hw hc dX11_becomes_80 (fun H locs hw => ?_)
    refine nm_S hf hw (fun S4 hf hw => ?_)
    obtain ⟨x5, ex5, hf⟩ := nme hf
    refine lv_iinc (v := x5) (lv' := [(4, .int x5), (0, .ref (ea E 44)), (1, .int l1), (2, .int l2), (3, .int l3)]) hx hb dX11_becomes_81 hl (k := 4) rfl (ki_1 ex5) (by decide) rfl (fun ls hl => ?_)
    refine lv_goto (tgt := 26) hx hb dX11_becomes_84 (by decide) ?_
    exact hk26 _ hf _ _ _ hw (lv_sub hl [1, 2, 3, 4, 0] rfl)
theorem w_Mo_becomes_L26 {N : Nat} {l1 : Int32} {l2 : Int32} {l3 : Int32} {r : Int32} {S9 : St} (C : Cx p s m args meth c E cX11_becomes 5 RX11 (some .int)) : ∀ x, Mo_becomes_L26 N l1 l2 l3 x = some (r, S9) → ∀ (H : Heap) (locs : List Loc) (ls : Array Slot), Wd E (wM V E) s.heap x.1 H locs → lv_has ls 5 [(0, .ref (ea E 44)), (1, .int l1), (2, .int l2), (3, .int l3), (4, .int x.2)] → W p l e (rmh 1) s m args below meth c H locs 0 0 (MQ below (QW E (wM V E) (some (.int r)) S9) args s 0 0 (eA E)) (F0 m 26 ls []) :=
  lp_W (fun k x hk hf H locs ls hw hl => w_Mo_becomes_b26 C hk hw hl hf) N
set_option maxRecDepth 20000 in
theorem w_Mo_becomes {N : Nat} {p1 : Int32} {p2 : Int32} {r : Int32} {S9 : St} (C : Cx p s m args meth c E cX11_becomes 5 RX11 (some .int)) (hw : Wd E (wM V E) s.heap S H locs) (hl : lv_has ls 5 [(0, .ref (ea E 44)), (1, .int p1), (2, .int p2)]) (hf : Mo_becomes N S p1 p2 = some (r, S9)) : W p l e (rmh 1) s m args below meth c H locs 0 0 (MQ below (QW E (wM V E) (some (.int r)) S9) args s 0 0 (eA E)) (F0 m 0 ls []) := by
  have hx := C.1
  have hb := C.2.1
  unfold Mo_becomes at hf
  refine lv_aload_n hx hb dX11_becomes_0 rfl (lv_at hl 0 rfl) ?_
  refine get_44_0 C hw q_1151 dX11_becomes_1 ?_
  refine lv_iload_n hx hb dX11_becomes_4 rfl (lv_at hl 1 rfl) ?_
  obtain ⟨hc, hf⟩ := hf_ck hf
  refine ld_45 C hw hc dX11_becomes_5 ?_
  refine nm_i hf (fun x1 hf => ?_)
  refine lv_istore_n (lv' := [(3, .int x1), (0, .ref (ea E 44)), (1, .int p1), (2, .int p2)]) hx hb dX11_becomes_6 rfl hl (by decide) rfl (fun ls hl => ?_)
  refine lv_iload_n hx hb dX11_becomes_7 rfl (lv_at hl 0 rfl) ?_
  refine lv_iload_n hx hb dX11_becomes_8 rfl (lv_at hl 3 rfl) ?_
  refine lv_icmp_ne (tgt := 14) hx hb dX11_becomes_9 (by decide) (fun q => ?_) (fun q => ?_)
  · have hf := hf_f q hf
    refine lv_aload_n hx hb dX11_becomes_14 rfl (lv_at hl 1 rfl) ?_
    refine get_44_5 C hw q_1156 dX11_becomes_15 ?_
    refine lv_bipush (v := 40) hx hb dX11_becomes_18 kb_40 ?_
    refine lv_icmp_ne (tgt := 97) hx hb dX11_becomes_20 (by decide) (fun q => ?_) (fun q => ?_)
    · have hf := hf_f q hf
      exact w_Mo_becomes_b97 C hw (lv_sub hl [1, 2, 3, 0] rfl) hf
    · have hf := hf_t q hf
      refine lv_iconst (v := 1) hx hb dX11_becomes_23 kc_1 ?_
      refine lv_istore (lv' := [(4, .int (1 : Int32)), (3, .int x1), (0, .ref (ea E 44)), (1, .int p1), (2, .int p2)]) hx hb dX11_becomes_24 hl (by decide) rfl (fun ls hl => ?_)
      exact w_Mo_becomes_L26 C _ hf _ _ _ hw (lv_sub hl [2, 3, 4, 1, 0] rfl)
  · have hf := hf_t q hf
    refine lv_iload_n hx hb dX11_becomes_12 rfl (lv_at hl 0 rfl) ?_
    exact ret_iS C hw dX11_becomes_13 hf
end
theorem t_Mo_becomes {l : Launch} {V : St} {N : Nat} {S : St} {p1 : Int32} {p2 : Int32} {r : Int32} {S9 : St} (hf : Mo_becomes N S p1 p2 = some (r, S9)) : Ct l (wM V) yX11_becomes cX11_becomes 5 (some .int) 1 (fun E => [.ref (ea E 44), .int p1, .int p2]) S (fun E => some (.int r)) S9 :=
  ofBlock (by decide +kernel) (fun _ => Nat.le_of_ble_eq_true rfl) (fun E p e s m args below meth c ls C hw hl => w_Mo_becomes C hw hl hf)
theorem dX11_undo_0 : decode cX11_undo 0 = .ok (.aload_n 0, 1) := by decide +kernel
theorem dX11_undo_1 : decode cX11_undo 1 = .ok (.getfield 75, 3) := by decide +kernel
theorem dX11_undo_4 : decode cX11_undo 4 = .ok (.ifCond .ne 6, 3) := by decide +kernel
theorem dX11_undo_7 : decode cX11_undo 7 = .ok (.bipush (-5), 2) := by decide +kernel
theorem dX11_undo_9 : decode cX11_undo 9 = .ok (.ireturn, 1) := by decide +kernel
theorem dX11_undo_10 : decode cX11_undo 10 = .ok (.aload_n 0, 1) := by decide +kernel
theorem dX11_undo_11 : decode cX11_undo 11 = .ok (.dup, 1) := by decide +kernel
theorem dX11_undo_12 : decode cX11_undo 12 = .ok (.getfield 75, 3) := by decide +kernel
theorem dX11_undo_15 : decode cX11_undo 15 = .ok (.iconst 1, 1) := by decide +kernel
theorem dX11_undo_16 : decode cX11_undo 16 = .ok (.isub, 1) := by decide +kernel
theorem dX11_undo_17 : decode cX11_undo 17 = .ok (.putfield 75, 3) := by decide +kernel
theorem dX11_undo_20 : decode cX11_undo 20 = .ok (.aload_n 0, 1) := by decide +kernel
theorem dX11_undo_21 : decode cX11_undo 21 = .ok (.getfield 9, 3) := by decide +kernel
theorem dX11_undo_24 : decode cX11_undo 24 = .ok (.aload_n 0, 1) := by decide +kernel
theorem dX11_undo_25 : decode cX11_undo 25 = .ok (.getfield 13, 3) := by decide +kernel
theorem dX11_undo_28 : decode cX11_undo 28 = .ok (.aload_n 0, 1) := by decide +kernel
theorem dX11_undo_29 : decode cX11_undo 29 = .ok (.getfield 75, 3) := by decide +kernel
theorem dX11_undo_32 : decode cX11_undo 32 = .ok (.iaload, 1) := by decide +kernel
theorem dX11_undo_33 : decode cX11_undo 33 = .ok (.aload_n 0, 1) := by decide +kernel
theorem dX11_undo_34 : decode cX11_undo 34 = .ok (.getfield 16, 3) := by decide +kernel
theorem dX11_undo_37 : decode cX11_undo 37 = .ok (.aload_n 0, 1) := by decide +kernel
theorem dX11_undo_38 : decode cX11_undo 38 = .ok (.getfield 75, 3) := by decide +kernel
theorem dX11_undo_41 : decode cX11_undo 41 = .ok (.iaload, 1) := by decide +kernel
theorem dX11_undo_42 : decode cX11_undo 42 = .ok (.iastore, 1) := by decide +kernel
theorem dX11_undo_43 : decode cX11_undo 43 = .ok (.aload_n 0, 1) := by decide +kernel
theorem dX11_undo_44 : decode cX11_undo 44 = .ok (.getfield 75, 3) := by decide +kernel
theorem dX11_undo_47 : decode cX11_undo 47 = .ok (.ireturn, 1) := by decide +kernel
section
variable {p : Program} {l : Launch} {e : Env} {s : State} {m : MethodId} {args : Array Value} {below : List Frame} {meth : Method} {c : Code} {H : Heap} {locs : List Loc} {E : Ev} {S V : St} {ls : Array Slot}
set_option maxRecDepth 20000 in
theorem w_Mo_undo {r : Int32} {S9 : St} (C : Cx p s m args meth c E cX11_undo 1 RX11 (some .int)) (hw : Wd E (wM V E) s.heap S H locs) (hl : lv_has ls 1 [(0, .ref (ea E 44))]) (hf : Mo_undo S = some (r, S9)) : W p l e (rmh 1) s m args below meth c H locs 0 0 (MQ below (QW E (wM V E) (some (.int r)) S9) args s 0 0 (eA E)) (F0 m 0 ls []) := by
  have hx := C.1
  have hb := C.2.1
  unfold Mo_undo at hf
  refine lv_aload_n hx hb dX11_undo_0 rfl (lv_at hl 0 rfl) ?_
  refine get_44_5 C hw q_1156 dX11_undo_1 ?_
  refine lv_if_ne (tgt := 10) hx hb dX11_undo_4 (by decide) (fun q => ?_) (fun q => ?_)
  · have hf := hf_f q hf
    refine lv_aload_n hx hb dX11_undo_10 rfl (lv_at hl 0 rfl) ?_
    refine lv_dup hx hb dX11_undo_11 rfl ?_
    refine get_44_5 C hw q_1156 dX11_undo_12 ?_
    refine lv_iconst (v := 1) hx hb dX11_undo_15 kc_1 ?_
    refine lv_isub hx hb dX11_undo_16 ?_
    refine put_44_5 C hw q_1156 dX11_undo_17 (fun H locs hw => ?_)
    refine nm_S hf hw (fun S1 hf hw => ?_)
    refine lv_aload_n hx hb dX11_undo_20 rfl (lv_at hl 0 rfl) ?_
    refine get_44_0 C hw q_1151 dX11_undo_21 ?_
    refine lv_aload_n hx hb dX11_undo_24 rfl (lv_at hl 0 rfl) ?_
    refine get_44_1 C hw q_1152 dX11_undo_25 ?_
    refine lv_aload_n hx hb dX11_undo_28 rfl (lv_at hl 0 rfl) ?_
    refine get_44_5 C hw q_1156 dX11_undo_29 ?_
    obtain ⟨hc, hf⟩ := hf_ck hf
    refine ld_46 C hw hc dX11_undo_32 ?_
    refine lv_aload_n hx hb dX11_undo_33 rfl (lv_at hl 0 rfl) ?_
    refine get_44_2 C hw q_1153 dX11_undo_34 ?_
    refine lv_aload_n hx hb dX11_undo_37 rfl (lv_at hl 0 rfl) ?_
    refine get_44_5 C hw q_1156 dX11_undo_38 ?_
    obtain ⟨hc, hf⟩ := hf_ck hf
    refine ld_47 C hw hc dX11_undo_41 ?_
    obtain ⟨hc, hf⟩ := hf_ck hf
    refine st_45 C hw hc dX11_undo_42 (fun H locs hw => ?_)
    refine nm_S hf hw (fun S2 hf hw => ?_)
    refine lv_aload_n hx hb dX11_undo_43 rfl (lv_at hl 0 rfl) ?_
    refine get_44_5 C hw q_1156 dX11_undo_44 ?_
    exact ret_iS C hw dX11_undo_47 hf
  · have hf := hf_t q hf
    refine lv_bipush (v := -5) hx hb dX11_undo_7 kb_m5 ?_
    exact ret_iS C hw dX11_undo_9 hf
end
theorem t_Mo_undo {l : Launch} {V : St} {S : St} {r : Int32} {S9 : St} (hf : Mo_undo S = some (r, S9)) : Ct l (wM V) yX11_undo cX11_undo 1 (some .int) 1 (fun E => [.ref (ea E 44)]) S (fun E => some (.int r)) S9 :=
  ofBlock (by decide +kernel) (fun _ => Nat.le_of_ble_eq_true rfl) (fun E p e s m args below meth c ls C hw hl => w_Mo_undo C hw hl hf)
theorem dX11_redo_0 : decode cX11_redo 0 = .ok (.aload_n 0, 1) := by decide +kernel
theorem dX11_redo_1 : decode cX11_redo 1 = .ok (.getfield 75, 3) := by decide +kernel
theorem dX11_redo_4 : decode cX11_redo 4 = .ok (.aload_n 0, 1) := by decide +kernel
theorem dX11_redo_5 : decode cX11_redo 5 = .ok (.getfield 78, 3) := by decide +kernel
theorem dX11_redo_8 : decode cX11_redo 8 = .ok (.if_icmp .ne 6, 3) := by decide +kernel
theorem dX11_redo_11 : decode cX11_redo 11 = .ok (.bipush (-5), 2) := by decide +kernel
theorem dX11_redo_13 : decode cX11_redo 13 = .ok (.ireturn, 1) := by decide +kernel
theorem dX11_redo_14 : decode cX11_redo 14 = .ok (.aload_n 0, 1) := by decide +kernel
theorem dX11_redo_15 : decode cX11_redo 15 = .ok (.getfield 9, 3) := by decide +kernel
theorem dX11_redo_18 : decode cX11_redo 18 = .ok (.aload_n 0, 1) := by decide +kernel
theorem dX11_redo_19 : decode cX11_redo 19 = .ok (.getfield 13, 3) := by decide +kernel
theorem dX11_redo_22 : decode cX11_redo 22 = .ok (.aload_n 0, 1) := by decide +kernel
theorem dX11_redo_23 : decode cX11_redo 23 = .ok (.getfield 75, 3) := by decide +kernel
theorem dX11_redo_26 : decode cX11_redo 26 = .ok (.iaload, 1) := by decide +kernel
theorem dX11_redo_27 : decode cX11_redo 27 = .ok (.aload_n 0, 1) := by decide +kernel
theorem dX11_redo_28 : decode cX11_redo 28 = .ok (.getfield 19, 3) := by decide +kernel
theorem dX11_redo_31 : decode cX11_redo 31 = .ok (.aload_n 0, 1) := by decide +kernel
theorem dX11_redo_32 : decode cX11_redo 32 = .ok (.getfield 75, 3) := by decide +kernel
theorem dX11_redo_35 : decode cX11_redo 35 = .ok (.iaload, 1) := by decide +kernel
theorem dX11_redo_36 : decode cX11_redo 36 = .ok (.iastore, 1) := by decide +kernel
theorem dX11_redo_37 : decode cX11_redo 37 = .ok (.aload_n 0, 1) := by decide +kernel
theorem dX11_redo_38 : decode cX11_redo 38 = .ok (.dup, 1) := by decide +kernel
theorem dX11_redo_39 : decode cX11_redo 39 = .ok (.getfield 75, 3) := by decide +kernel
theorem dX11_redo_42 : decode cX11_redo 42 = .ok (.iconst 1, 1) := by decide +kernel
theorem dX11_redo_43 : decode cX11_redo 43 = .ok (.iadd, 1) := by decide +kernel
theorem dX11_redo_44 : decode cX11_redo 44 = .ok (.putfield 75, 3) := by decide +kernel
theorem dX11_redo_47 : decode cX11_redo 47 = .ok (.aload_n 0, 1) := by decide +kernel
theorem dX11_redo_48 : decode cX11_redo 48 = .ok (.getfield 78, 3) := by decide +kernel
theorem dX11_redo_51 : decode cX11_redo 51 = .ok (.aload_n 0, 1) := by decide +kernel
theorem dX11_redo_52 : decode cX11_redo 52 = .ok (.getfield 75, 3) := by decide +kernel
theorem dX11_redo_55 : decode cX11_redo 55 = .ok (.isub, 1) := by decide +kernel
theorem dX11_redo_56 : decode cX11_redo 56 = .ok (.ireturn, 1) := by decide +kernel
section
variable {p : Program} {l : Launch} {e : Env} {s : State} {m : MethodId} {args : Array Value} {below : List Frame} {meth : Method} {c : Code} {H : Heap} {locs : List Loc} {E : Ev} {S V : St} {ls : Array Slot}
set_option maxRecDepth 20000 in
theorem w_Mo_redo {r : Int32} {S9 : St} (C : Cx p s m args meth c E cX11_redo 1 RX11 (some .int)) (hw : Wd E (wM V E) s.heap S H locs) (hl : lv_has ls 1 [(0, .ref (ea E 44))]) (hf : Mo_redo S = some (r, S9)) : W p l e (rmh 1) s m args below meth c H locs 0 0 (MQ below (QW E (wM V E) (some (.int r)) S9) args s 0 0 (eA E)) (F0 m 0 ls []) := by
  have hx := C.1
  have hb := C.2.1
  unfold Mo_redo at hf
  refine lv_aload_n hx hb dX11_redo_0 rfl (lv_at hl 0 rfl) ?_
  refine get_44_5 C hw q_1156 dX11_redo_1 ?_
  refine lv_aload_n hx hb dX11_redo_4 rfl (lv_at hl 0 rfl) ?_
  refine get_44_4 C hw q_1155 dX11_redo_5 ?_
  refine lv_icmp_ne (tgt := 14) hx hb dX11_redo_8 (by decide) (fun q => ?_) (fun q => ?_)
  · have hf := hf_f q hf
    refine lv_aload_n hx hb dX11_redo_14 rfl (lv_at hl 0 rfl) ?_
    refine get_44_0 C hw q_1151 dX11_redo_15 ?_
    refine lv_aload_n hx hb dX11_redo_18 rfl (lv_at hl 0 rfl) ?_
    refine get_44_1 C hw q_1152 dX11_redo_19 ?_
    refine lv_aload_n hx hb dX11_redo_22 rfl (lv_at hl 0 rfl) ?_
    refine get_44_5 C hw q_1156 dX11_redo_23 ?_
    obtain ⟨hc, hf⟩ := hf_ck hf
    refine ld_46 C hw hc dX11_redo_26 ?_
    refine lv_aload_n hx hb dX11_redo_27 rfl (lv_at hl 0 rfl) ?_
    refine get_44_3 C hw q_1154 dX11_redo_28 ?_
    refine lv_aload_n hx hb dX11_redo_31 rfl (lv_at hl 0 rfl) ?_
    refine get_44_5 C hw q_1156 dX11_redo_32 ?_
    obtain ⟨hc, hf⟩ := hf_ck hf
    refine ld_48 C hw hc dX11_redo_35 ?_
    obtain ⟨hc, hf⟩ := hf_ck hf
    refine st_45 C hw hc dX11_redo_36 (fun H locs hw => ?_)
    refine nm_S hf hw (fun S1 hf hw => ?_)
    refine lv_aload_n hx hb dX11_redo_37 rfl (lv_at hl 0 rfl) ?_
    refine lv_dup hx hb dX11_redo_38 rfl ?_
    refine get_44_5 C hw q_1156 dX11_redo_39 ?_
    refine lv_iconst (v := 1) hx hb dX11_redo_42 kc_1 ?_
    refine lv_iadd hx hb dX11_redo_43 ?_
    refine put_44_5 C hw q_1156 dX11_redo_44 (fun H locs hw => ?_)
    refine nm_S hf hw (fun S2 hf hw => ?_)
    refine lv_aload_n hx hb dX11_redo_47 rfl (lv_at hl 0 rfl) ?_
    refine get_44_4 C hw q_1155 dX11_redo_48 ?_
    refine lv_aload_n hx hb dX11_redo_51 rfl (lv_at hl 0 rfl) ?_
    refine get_44_5 C hw q_1156 dX11_redo_52 ?_
    refine lv_isub hx hb dX11_redo_55 ?_
    exact ret_iS C hw dX11_redo_56 hf
  · have hf := hf_t q hf
    refine lv_bipush (v := -5) hx hb dX11_redo_11 kb_m5 ?_
    exact ret_iS C hw dX11_redo_13 hf
end
theorem t_Mo_redo {l : Launch} {V : St} {S : St} {r : Int32} {S9 : St} (hf : Mo_redo S = some (r, S9)) : Ct l (wM V) yX11_redo cX11_redo 1 (some .int) 1 (fun E => [.ref (ea E 44)]) S (fun E => some (.int r)) S9 :=
  ofBlock (by decide +kernel) (fun _ => Nat.le_of_ble_eq_true rfl) (fun E p e s m args below meth c ls C hw hl => w_Mo_redo C hw hl hf)
theorem dX11_isOne_0 : decode cX11_isOne 0 = .ok (.lload_n 1, 1) := by decide +kernel
theorem dX11_isOne_1 : decode cX11_isOne 1 = .ok (.lconst 0, 1) := by decide +kernel
theorem dX11_isOne_2 : decode cX11_isOne 2 = .ok (.aload_n 0, 1) := by decide +kernel
theorem dX11_isOne_3 : decode cX11_isOne 3 = .ok (.getfield 81, 3) := by decide +kernel
theorem dX11_isOne_6 : decode cX11_isOne 6 = .ok (.iconst 1, 1) := by decide +kernel
theorem dX11_isOne_7 : decode cX11_isOne 7 = .ok (.isub, 1) := by decide +kernel
theorem dX11_isOne_8 : decode cX11_isOne 8 = .ok (.i2l, 1) := by decide +kernel
theorem dX11_isOne_9 : decode cX11_isOne 9 = .ok (.invokestatic 84, 3) := by decide +kernel
theorem dX11_isOne_12 : decode cX11_isOne 12 = .ok (.ireturn, 1) := by decide +kernel
section
variable {p : Program} {l : Launch} {e : Env} {s : State} {m : MethodId} {args : Array Value} {below : List Frame} {meth : Method} {c : Code} {H : Heap} {locs : List Loc} {E : Ev} {S V : St} {ls : Array Slot}
set_option maxRecDepth 20000 in
theorem w_Mo_isOne {p1 : Int64} {r : Int32} (C : Cx p s m args meth c E cX11_isOne 3 RX11 (some .boolean)) (hw : Wd E (wM V E) s.heap S H locs) (hl : lv_has ls 3 [(0, .ref (ea E 44)), (1, .long p1)]) (hf : Mo_isOne S p1 = some r) : W p l e (rmh 2) s m args below meth c H locs 0 0 (MQ below (QW E (wM V E) (some (.int r)) S) args s 0 0 (eA E)) (F0 m 0 ls []) := by
  have hx := C.1
  have hb := C.2.1
  unfold Mo_isOne at hf
  refine lv_lload_n hx hb dX11_isOne_0 rfl (lv_at hl 1 rfl) ?_
  refine lv_lconst (v := 0) hx hb dX11_isOne_1 rfl ?_
  refine lv_aload_n hx hb dX11_isOne_2 rfl (lv_at hl 0 rfl) ?_
  refine get_44_6 C hw q_1157 dX11_isOne_3 ?_
  refine lv_iconst (v := 1) hx hb dX11_isOne_6 kc_1 ?_
  refine lv_isub hx hb dX11_isOne_7 ?_
  refine lv_i2l hx hb dX11_isOne_8 rfl ?_
  obtain ⟨r1, hr, hf⟩ := hf_1 hf
  refine inv_Si (As := [.long p1, .long (0 : Int64), .long (Int32.toInt64 ((gi S 44 6) - (1 : Int32)))]) lk_X11_84 C hw (t_Mo_within hr) hl.1 dX11_isOne_9 rfl (Nat.le_of_ble_eq_true rfl) (by decide) (Nat.le_of_ble_eq_true rfl) rfl (fun H locs hw => ?_)
  obtain ⟨hcb, hf⟩ := hf_ck hf
  exact ret_z (isB_nar hcb) C hw dX11_isOne_12 hf
end
theorem t_Mo_isOne {l : Launch} {V : St} {S : St} {p1 : Int64} {r : Int32} (hf : Mo_isOne S p1 = some r) : Ct l (wM V) yX11_isOne cX11_isOne 3 (some .boolean) 2 (fun E => [.ref (ea E 44), .long p1]) S (fun E => some (.int r)) S :=
  ofBlock (by decide +kernel) (fun _ => Nat.le_of_ble_eq_true rfl) (fun E p e s m args below meth c ls C hw hl => w_Mo_isOne C hw hl hf)
theorem dX11_isPromise_0 : decode cX11_isPromise 0 = .ok (.lload_n 1, 1) := by decide +kernel
theorem dX11_isPromise_1 : decode cX11_isPromise 1 = .ok (.lconst 0, 1) := by decide +kernel
theorem dX11_isPromise_2 : decode cX11_isPromise 2 = .ok (.aload_n 0, 1) := by decide +kernel
theorem dX11_isPromise_3 : decode cX11_isPromise 3 = .ok (.getfield 88, 3) := by decide +kernel
theorem dX11_isPromise_6 : decode cX11_isPromise 6 = .ok (.iconst 1, 1) := by decide +kernel
theorem dX11_isPromise_7 : decode cX11_isPromise 7 = .ok (.isub, 1) := by decide +kernel
theorem dX11_isPromise_8 : decode cX11_isPromise 8 = .ok (.i2l, 1) := by decide +kernel
theorem dX11_isPromise_9 : decode cX11_isPromise 9 = .ok (.invokestatic 84, 3) := by decide +kernel
theorem dX11_isPromise_12 : decode cX11_isPromise 12 = .ok (.ireturn, 1) := by decide +kernel
section
variable {p : Program} {l : Launch} {e : Env} {s : State} {m : MethodId} {args : Array Value} {below : List Frame} {meth : Method} {c : Code} {H : Heap} {locs : List Loc} {E : Ev} {S V : St} {ls : Array Slot}
set_option maxRecDepth 20000 in
theorem w_Mo_isPromise {p1 : Int64} {r : Int32} (C : Cx p s m args meth c E cX11_isPromise 3 RX11 (some .boolean)) (hw : Wd E (wM V E) s.heap S H locs) (hl : lv_has ls 3 [(0, .ref (ea E 44)), (1, .long p1)]) (hf : Mo_isPromise S p1 = some r) : W p l e (rmh 2) s m args below meth c H locs 0 0 (MQ below (QW E (wM V E) (some (.int r)) S) args s 0 0 (eA E)) (F0 m 0 ls []) := by
  have hx := C.1
  have hb := C.2.1
  unfold Mo_isPromise at hf
  refine lv_lload_n hx hb dX11_isPromise_0 rfl (lv_at hl 1 rfl) ?_
  refine lv_lconst (v := 0) hx hb dX11_isPromise_1 rfl ?_
  refine lv_aload_n hx hb dX11_isPromise_2 rfl (lv_at hl 0 rfl) ?_
  refine get_44_7 C hw q_1158 dX11_isPromise_3 ?_
  refine lv_iconst (v := 1) hx hb dX11_isPromise_6 kc_1 ?_
  refine lv_isub hx hb dX11_isPromise_7 ?_
  refine lv_i2l hx hb dX11_isPromise_8 rfl ?_
  obtain ⟨r1, hr, hf⟩ := hf_1 hf
  refine inv_Si (As := [.long p1, .long (0 : Int64), .long (Int32.toInt64 ((gi S 44 7) - (1 : Int32)))]) lk_X11_84 C hw (t_Mo_within hr) hl.1 dX11_isPromise_9 rfl (Nat.le_of_ble_eq_true rfl) (by decide) (Nat.le_of_ble_eq_true rfl) rfl (fun H locs hw => ?_)
  obtain ⟨hcb, hf⟩ := hf_ck hf
  exact ret_z (isB_nar hcb) C hw dX11_isPromise_12 hf
end
theorem t_Mo_isPromise {l : Launch} {V : St} {S : St} {p1 : Int64} {r : Int32} (hf : Mo_isPromise S p1 = some r) : Ct l (wM V) yX11_isPromise cX11_isPromise 3 (some .boolean) 2 (fun E => [.ref (ea E 44), .long p1]) S (fun E => some (.int r)) S :=
  ofBlock (by decide +kernel) (fun _ => Nat.le_of_ble_eq_true rfl) (fun E p e s m args below meth c ls C hw hl => w_Mo_isPromise C hw hl hf)
theorem dX11_isDay_0 : decode cX11_isDay 0 = .ok (.lload_n 0, 1) := by decide +kernel
theorem dX11_isDay_1 : decode cX11_isDay 1 = .ok (.lconst 0, 1) := by decide +kernel
theorem dX11_isDay_2 : decode cX11_isDay 2 = .ok (.ldc2_w 91, 3) := by decide +kernel
theorem dX11_isDay_5 : decode cX11_isDay 5 = .ok (.invokestatic 84, 3) := by decide +kernel
theorem dX11_isDay_8 : decode cX11_isDay 8 = .ok (.ireturn, 1) := by decide +kernel
section
variable {p : Program} {l : Launch} {e : Env} {s : State} {m : MethodId} {args : Array Value} {below : List Frame} {meth : Method} {c : Code} {H : Heap} {locs : List Loc} {E : Ev} {S V : St} {ls : Array Slot}
set_option maxRecDepth 20000 in
theorem w_Mo_isDay {p1 : Int64} {r : Int32} (C : Cx p s m args meth c E cX11_isDay 2 RX11 (some .boolean)) (hw : Wd E (wM V E) s.heap S H locs) (hl : lv_has ls 2 [(0, .long p1)]) (hf : Mo_isDay S p1 = some r) : W p l e (rmh 2) s m args below meth c H locs 0 0 (MQ below (QW E (wM V E) (some (.int r)) S) args s 0 0 (eA E)) (F0 m 0 ls []) := by
  have hx := C.1
  have hb := C.2.1
  unfold Mo_isDay at hf
  refine lv_lload_n hx hb dX11_isDay_0 rfl (lv_at hl 0 rfl) ?_
  refine lv_lconst (v := 0) hx hb dX11_isDay_1 rfl ?_
  refine lv_ldc2 (v := 99) hx hb C.2.2.2.1 (C.2.2.2.2.1 _ q_1301) dX11_isDay_2 ?_
  obtain ⟨r1, hr, hf⟩ := hf_1 hf
  refine inv_Si (As := [.long p1, .long (0 : Int64), .long (99 : Int64)]) lk_X11_84 C hw (t_Mo_within hr) hl.1 dX11_isDay_5 rfl (Nat.le_of_ble_eq_true rfl) (by decide) (Nat.le_of_ble_eq_true rfl) rfl (fun H locs hw => ?_)
  obtain ⟨hcb, hf⟩ := hf_ck hf
  exact ret_z (isB_nar hcb) C hw dX11_isDay_8 hf
end
theorem t_Mo_isDay {l : Launch} {V : St} {S : St} {p1 : Int64} {r : Int32} (hf : Mo_isDay S p1 = some r) : Ct l (wM V) yX11_isDay cX11_isDay 2 (some .boolean) 2 (fun E => [.long p1]) S (fun E => some (.int r)) S :=
  ofBlock (by decide +kernel) (fun _ => Nat.le_of_ble_eq_true rfl) (fun E p e s m args below meth c ls C hw hl => w_Mo_isDay C hw hl hf)
theorem dX11_person_0 : decode cX11_person 0 = .ok (.iload_n 1, 1) := by decide +kernel
theorem dX11_person_1 : decode cX11_person 1 = .ok (.i2l, 1) := by decide +kernel
theorem dX11_person_2 : decode cX11_person 2 = .ok (.lconst 0, 1) := by decide +kernel
theorem dX11_person_3 : decode cX11_person 3 = .ok (.ldc2_w 93, 3) := by decide +kernel
theorem dX11_person_6 : decode cX11_person 6 = .ok (.invokestatic 84, 3) := by decide +kernel
theorem dX11_person_9 : decode cX11_person 9 = .ok (.ifCond .eq 15, 3) := by decide +kernel
theorem dX11_person_12 : decode cX11_person 12 = .ok (.iload_n 2, 1) := by decide +kernel
theorem dX11_person_13 : decode cX11_person 13 = .ok (.i2l, 1) := by decide +kernel
theorem dX11_person_14 : decode cX11_person 14 = .ok (.lconst 1, 1) := by decide +kernel
theorem dX11_person_15 : decode cX11_person 15 = .ok (.ldc2_w 95, 3) := by decide +kernel
theorem dX11_person_18 : decode cX11_person 18 = .ok (.invokestatic 84, 3) := by decide +kernel
theorem dX11_person_21 : decode cX11_person 21 = .ok (.ifCond .ne 5, 3) := by decide +kernel
theorem dX11_person_24 : decode cX11_person 24 = .ok (.iconst (-1), 1) := by decide +kernel
theorem dX11_person_25 : decode cX11_person 25 = .ok (.ireturn, 1) := by decide +kernel
theorem dX11_person_26 : decode cX11_person 26 = .ok (.aload_n 0, 1) := by decide +kernel
theorem dX11_person_27 : decode cX11_person 27 = .ok (.getfield 81, 3) := by decide +kernel
theorem dX11_person_30 : decode cX11_person 30 = .ok (.bipush 6, 2) := by decide +kernel
theorem dX11_person_32 : decode cX11_person 32 = .ok (.if_icmp .ne 6, 3) := by decide +kernel
theorem dX11_person_35 : decode cX11_person 35 = .ok (.bipush (-3), 2) := by decide +kernel
theorem dX11_person_37 : decode cX11_person 37 = .ok (.ireturn, 1) := by decide +kernel
theorem dX11_person_38 : decode cX11_person 38 = .ok (.aload_n 0, 1) := by decide +kernel
theorem dX11_person_39 : decode cX11_person 39 = .ok (.getfield 9, 3) := by decide +kernel
theorem dX11_person_42 : decode cX11_person 42 = .ok (.aload_n 0, 1) := by decide +kernel
theorem dX11_person_43 : decode cX11_person 43 = .ok (.getfield 81, 3) := by decide +kernel
theorem dX11_person_46 : decode cX11_person 46 = .ok (.iload_n 1, 1) := by decide +kernel
theorem dX11_person_47 : decode cX11_person 47 = .ok (.iastore, 1) := by decide +kernel
theorem dX11_person_48 : decode cX11_person 48 = .ok (.aload_n 0, 1) := by decide +kernel
theorem dX11_person_49 : decode cX11_person 49 = .ok (.getfield 9, 3) := by decide +kernel
theorem dX11_person_52 : decode cX11_person 52 = .ok (.bipush 6, 2) := by decide +kernel
theorem dX11_person_54 : decode cX11_person 54 = .ok (.aload_n 0, 1) := by decide +kernel
theorem dX11_person_55 : decode cX11_person 55 = .ok (.getfield 81, 3) := by decide +kernel
theorem dX11_person_58 : decode cX11_person 58 = .ok (.iadd, 1) := by decide +kernel
theorem dX11_person_59 : decode cX11_person 59 = .ok (.iload_n 2, 1) := by decide +kernel
theorem dX11_person_60 : decode cX11_person 60 = .ok (.iastore, 1) := by decide +kernel
theorem dX11_person_61 : decode cX11_person 61 = .ok (.aload_n 0, 1) := by decide +kernel
theorem dX11_person_62 : decode cX11_person 62 = .ok (.getfield 9, 3) := by decide +kernel
theorem dX11_person_65 : decode cX11_person 65 = .ok (.bipush 12, 2) := by decide +kernel
theorem dX11_person_67 : decode cX11_person 67 = .ok (.aload_n 0, 1) := by decide +kernel
theorem dX11_person_68 : decode cX11_person 68 = .ok (.getfield 81, 3) := by decide +kernel
theorem dX11_person_71 : decode cX11_person 71 = .ok (.iadd, 1) := by decide +kernel
theorem dX11_person_72 : decode cX11_person 72 = .ok (.iconst 2, 1) := by decide +kernel
theorem dX11_person_73 : decode cX11_person 73 = .ok (.iastore, 1) := by decide +kernel
theorem dX11_person_74 : decode cX11_person 74 = .ok (.aload_n 0, 1) := by decide +kernel
theorem dX11_person_75 : decode cX11_person 75 = .ok (.dup, 1) := by decide +kernel
theorem dX11_person_76 : decode cX11_person 76 = .ok (.getfield 81, 3) := by decide +kernel
theorem dX11_person_79 : decode cX11_person 79 = .ok (.iconst 1, 1) := by decide +kernel
theorem dX11_person_80 : decode cX11_person 80 = .ok (.iadd, 1) := by decide +kernel
theorem dX11_person_81 : decode cX11_person 81 = .ok (.putfield 81, 3) := by decide +kernel
theorem dX11_person_84 : decode cX11_person 84 = .ok (.aload_n 0, 1) := by decide +kernel
theorem dX11_person_85 : decode cX11_person 85 = .ok (.getfield 81, 3) := by decide +kernel
theorem dX11_person_88 : decode cX11_person 88 = .ok (.iconst 1, 1) := by decide +kernel
theorem dX11_person_89 : decode cX11_person 89 = .ok (.isub, 1) := by decide +kernel
theorem dX11_person_90 : decode cX11_person 90 = .ok (.ireturn, 1) := by decide +kernel
section
variable {p : Program} {l : Launch} {e : Env} {s : State} {m : MethodId} {args : Array Value} {below : List Frame} {meth : Method} {c : Code} {H : Heap} {locs : List Loc} {E : Ev} {S V : St} {ls : Array Slot}
set_option maxRecDepth 20000 in
theorem w_Mo_person {p1 : Int32} {p2 : Int32} {r : Int32} {S9 : St} (C : Cx p s m args meth c E cX11_person 3 RX11 (some .int)) (hw : Wd E (wM V E) s.heap S H locs) (hl : lv_has ls 3 [(0, .ref (ea E 44)), (1, .int p1), (2, .int p2)]) (hf : Mo_person S p1 p2 = some (r, S9)) : W p l e (rmh 2) s m args below meth c H locs 0 0 (MQ below (QW E (wM V E) (some (.int r)) S9) args s 0 0 (eA E)) (F0 m 0 ls []) := by
  have hx := C.1
  have hb := C.2.1
  unfold Mo_person at hf
  refine lv_iload_n hx hb dX11_person_0 rfl (lv_at hl 1 rfl) ?_
  refine lv_i2l hx hb dX11_person_1 rfl ?_
  refine lv_lconst (v := 0) hx hb dX11_person_2 rfl ?_
  refine lv_ldc2 (v := 30) hx hb C.2.2.2.1 (C.2.2.2.2.1 _ q_1281) dX11_person_3 ?_
  obtain ⟨r1, hr, hf⟩ := hf_1 hf
  refine inv_Si (As := [.long (Int32.toInt64 p1), .long (0 : Int64), .long (30 : Int64)]) lk_X11_84 C hw (t_Mo_within hr) hl.1 dX11_person_6 rfl (Nat.le_of_ble_eq_true rfl) (by decide) (Nat.le_of_ble_eq_true rfl) rfl (fun H locs hw => ?_)
  refine lv_if_eq (tgt := 24) hx hb dX11_person_9 (by decide) (fun q => ?_) (fun q => ?_)
  · have hf := hf_t q hf
    refine lv_iconst (v := -1) hx hb dX11_person_24 kc_m1 ?_
    exact ret_iS C hw dX11_person_25 hf
  · have hf := hf_f q hf
    refine lv_iload_n hx hb dX11_person_12 rfl (lv_at hl 2 rfl) ?_
    refine lv_i2l hx hb dX11_person_13 rfl ?_
    refine lv_lconst (v := 1) hx hb dX11_person_14 rfl ?_
    refine lv_ldc2 (v := 60) hx hb C.2.2.2.1 (C.2.2.2.2.1 _ q_1285) dX11_person_15 ?_
    obtain ⟨r2, hr, hf⟩ := hf_1 hf
    refine inv_Si (As := [.long (Int32.toInt64 p2), .long (1 : Int64), .long (60 : Int64)]) lk_X11_84 C hw (t_Mo_within hr) hl.1 dX11_person_18 rfl (Nat.le_of_ble_eq_true rfl) (by decide) (Nat.le_of_ble_eq_true rfl) rfl (fun H locs hw => ?_)
    refine lv_if_ne (tgt := 26) hx hb dX11_person_21 (by decide) (fun q => ?_) (fun q => ?_)
    · have hf := hf_f q hf
      refine lv_aload_n hx hb dX11_person_26 rfl (lv_at hl 0 rfl) ?_
      refine get_44_6 C hw q_1157 dX11_person_27 ?_
      refine lv_bipush (v := 6) hx hb dX11_person_30 kb_6 ?_
      refine lv_icmp_ne (tgt := 38) hx hb dX11_person_32 (by decide) (fun q => ?_) (fun q => ?_)
      · have hf := hf_f q hf
        refine lv_aload_n hx hb dX11_person_38 rfl (lv_at hl 0 rfl) ?_
        refine get_44_0 C hw q_1151 dX11_person_39 ?_
        refine lv_aload_n hx hb dX11_person_42 rfl (lv_at hl 0 rfl) ?_
        refine get_44_6 C hw q_1157 dX11_person_43 ?_
        refine lv_iload_n hx hb dX11_person_46 rfl (lv_at hl 1 rfl) ?_
        obtain ⟨hc, hf⟩ := hf_ck hf
        refine st_45 C hw hc dX11_person_47 (fun H locs hw => ?_)
        refine nm_S hf hw (fun S3 hf hw => ?_)
        refine lv_aload_n hx hb dX11_person_48 rfl (lv_at hl 0 rfl) ?_
        refine get_44_0 C hw q_1151 dX11_person_49 ?_
        refine lv_bipush (v := 6) hx hb dX11_person_52 kb_6 ?_
        refine lv_aload_n hx hb dX11_person_54 rfl (lv_at hl 0 rfl) ?_
        refine get_44_6 C hw q_1157 dX11_person_55 ?_
        refine lv_iadd hx hb dX11_person_58 ?_
        refine lv_iload_n hx hb dX11_person_59 rfl (lv_at hl 2 rfl) ?_
        obtain ⟨hc, hf⟩ := hf_ck hf
        refine st_45 C hw hc dX11_person_60 (fun H locs hw => ?_)
        refine nm_S hf hw (fun S4 hf hw => ?_)
        refine lv_aload_n hx hb dX11_person_61 rfl (lv_at hl 0 rfl) ?_
        refine get_44_0 C hw q_1151 dX11_person_62 ?_
        refine lv_bipush (v := 12) hx hb dX11_person_65 kb_12 ?_
        refine lv_aload_n hx hb dX11_person_67 rfl (lv_at hl 0 rfl) ?_
        refine get_44_6 C hw q_1157 dX11_person_68 ?_
        refine lv_iadd hx hb dX11_person_71 ?_
        refine lv_iconst (v := 2) hx hb dX11_person_72 kc_2 ?_
        obtain ⟨hc, hf⟩ := hf_ck hf
        refine st_45 C hw hc dX11_person_73 (fun H locs hw => ?_)
        refine nm_S hf hw (fun S5 hf hw => ?_)
        refine lv_aload_n hx hb dX11_person_74 rfl (lv_at hl 0 rfl) ?_
        refine lv_dup hx hb dX11_person_75 rfl ?_
        refine get_44_6 C hw q_1157 dX11_person_76 ?_
        refine lv_iconst (v := 1) hx hb dX11_person_79 kc_1 ?_
        refine lv_iadd hx hb dX11_person_80 ?_
        refine put_44_6 C hw q_1157 dX11_person_81 (fun H locs hw => ?_)
        refine nm_S hf hw (fun S6 hf hw => ?_)
        refine lv_aload_n hx hb dX11_person_84 rfl (lv_at hl 0 rfl) ?_
        refine get_44_6 C hw q_1157 dX11_person_85 ?_
        refine lv_iconst (v := 1) hx hb dX11_person_88 kc_1 ?_
        refine lv_isub hx hb dX11_person_89 ?_
        exact ret_iS C hw dX11_person_90 hf
      · have hf := hf_t q hf
        refine lv_bipush (v := -3) hx hb dX11_person_35 kb_m3 ?_
        exact ret_iS C hw dX11_person_37 hf
    · have hf := hf_t q hf
      refine lv_iconst (v := -1) hx hb dX11_person_24 kc_m1 ?_
      exact ret_iS C hw dX11_person_25 hf
end
theorem t_Mo_person {l : Launch} {V : St} {S : St} {p1 : Int32} {p2 : Int32} {r : Int32} {S9 : St} (hf : Mo_person S p1 p2 = some (r, S9)) : Ct l (wM V) yX11_person cX11_person 3 (some .int) 2 (fun E => [.ref (ea E 44), .int p1, .int p2]) S (fun E => some (.int r)) S9 :=
  ofBlock (by decide +kernel) (fun _ => Nat.le_of_ble_eq_true rfl) (fun E p e s m args below meth c ls C hw hl => w_Mo_person C hw hl hf)
theorem dX11_mayCome_0 : decode cX11_mayCome 0 = .ok (.aload_n 0, 1) := by decide +kernel
theorem dX11_mayCome_1 : decode cX11_mayCome 1 = .ok (.lload_n 1, 1) := by decide +kernel
theorem dX11_mayCome_2 : decode cX11_mayCome 2 = .ok (.invokevirtual 97, 3) := by decide +kernel
theorem dX11_mayCome_5 : decode cX11_mayCome 5 = .ok (.ifCond .eq 38, 3) := by decide +kernel
theorem dX11_mayCome_8 : decode cX11_mayCome 8 = .ok (.lload_n 3, 1) := by decide +kernel
theorem dX11_mayCome_9 : decode cX11_mayCome 9 = .ok (.invokestatic 101, 3) := by decide +kernel
theorem dX11_mayCome_12 : decode cX11_mayCome 12 = .ok (.ifCond .eq 31, 3) := by decide +kernel
theorem dX11_mayCome_15 : decode cX11_mayCome 15 = .ok (.lload 5, 2) := by decide +kernel
theorem dX11_mayCome_17 : decode cX11_mayCome 17 = .ok (.lload_n 3, 1) := by decide +kernel
theorem dX11_mayCome_18 : decode cX11_mayCome 18 = .ok (.ldc2_w 91, 3) := by decide +kernel
theorem dX11_mayCome_21 : decode cX11_mayCome 21 = .ok (.invokestatic 84, 3) := by decide +kernel
theorem dX11_mayCome_24 : decode cX11_mayCome 24 = .ok (.ifCond .eq 19, 3) := by decide +kernel
theorem dX11_mayCome_27 : decode cX11_mayCome 27 = .ok (.lload 7, 2) := by decide +kernel
theorem dX11_mayCome_29 : decode cX11_mayCome 29 = .ok (.lconst 1, 1) := by decide +kernel
theorem dX11_mayCome_30 : decode cX11_mayCome 30 = .ok (.ldc2_w 104, 3) := by decide +kernel
theorem dX11_mayCome_33 : decode cX11_mayCome 33 = .ok (.invokestatic 84, 3) := by decide +kernel
theorem dX11_mayCome_36 : decode cX11_mayCome 36 = .ok (.ifCond .eq 7, 3) := by decide +kernel
theorem dX11_mayCome_39 : decode cX11_mayCome 39 = .ok (.iconst 1, 1) := by decide +kernel
theorem dX11_mayCome_40 : decode cX11_mayCome 40 = .ok (.goto 4, 3) := by decide +kernel
theorem dX11_mayCome_43 : decode cX11_mayCome 43 = .ok (.iconst 0, 1) := by decide +kernel
theorem dX11_mayCome_44 : decode cX11_mayCome 44 = .ok (.ireturn, 1) := by decide +kernel
section
variable {p : Program} {l : Launch} {e : Env} {s : State} {m : MethodId} {args : Array Value} {below : List Frame} {meth : Method} {c : Code} {H : Heap} {locs : List Loc} {E : Ev} {S V : St} {ls : Array Slot}
set_option maxRecDepth 20000 in
theorem w_Mo_mayCome {p1 : Int64} {p2 : Int64} {p3 : Int64} {p4 : Int64} {r : Int32} (C : Cx p s m args meth c E cX11_mayCome 9 RX11 (some .boolean)) (hw : Wd E (wM V E) s.heap S H locs) (hl : lv_has ls 9 [(0, .ref (ea E 44)), (1, .long p1), (3, .long p2), (5, .long p3), (7, .long p4)]) (hf : Mo_mayCome S p1 p2 p3 p4 = some r) : W p l e (rmh 3) s m args below meth c H locs 0 0 (MQ below (QW E (wM V E) (some (.int r)) S) args s 0 0 (eA E)) (F0 m 0 ls []) := by
  have hx := C.1
  have hb := C.2.1
  unfold Mo_mayCome at hf
  refine lv_aload_n hx hb dX11_mayCome_0 rfl (lv_at hl 0 rfl) ?_
  refine lv_lload_n hx hb dX11_mayCome_1 rfl (lv_at hl 1 rfl) ?_
  obtain ⟨r1, hr, hf⟩ := hf_1 hf
  refine inv_Vi (q0 := 44) (ci := 11) (As := [.long p1]) lk_X11_97 C hw rfl rfl rfl (t_Mo_isOne hr) rfl hl.1 dX11_mayCome_2 rfl (Nat.le_of_ble_eq_true rfl) (by decide) (Nat.le_of_ble_eq_true rfl) rfl (fun H locs hw => ?_)
  refine lv_if_eq (tgt := 43) hx hb dX11_mayCome_5 (by decide) (fun q => ?_) (fun q => ?_)
  · have hf := hf_t q hf
    refine lv_iconst (v := 0) hx hb dX11_mayCome_43 kc_0 ?_
    exact ret_z rfl C hw dX11_mayCome_44 hf
  · have hf := hf_f q hf
    refine lv_lload_n hx hb dX11_mayCome_8 rfl (lv_at hl 2 rfl) ?_
    obtain ⟨r2, hr, hf⟩ := hf_1 hf
    refine inv_Si (As := [.long p2]) lk_X11_101 C hw (t_Mo_isDay hr) hl.1 dX11_mayCome_9 rfl (Nat.le_of_ble_eq_true rfl) (by decide) (Nat.le_of_ble_eq_true rfl) rfl (fun H locs hw => ?_)
    refine lv_if_eq (tgt := 43) hx hb dX11_mayCome_12 (by decide) (fun q => ?_) (fun q => ?_)
    · have hf := hf_t q hf
      refine lv_iconst (v := 0) hx hb dX11_mayCome_43 kc_0 ?_
      exact ret_z rfl C hw dX11_mayCome_44 hf
    · have hf := hf_f q hf
      refine lv_lload hx hb dX11_mayCome_15 (lv_at hl 3 rfl) ?_
      refine lv_lload_n hx hb dX11_mayCome_17 rfl (lv_at hl 2 rfl) ?_
      refine lv_ldc2 (v := 99) hx hb C.2.2.2.1 (C.2.2.2.2.1 _ q_1301) dX11_mayCome_18 ?_
      obtain ⟨r3, hr, hf⟩ := hf_1 hf
      refine inv_Si (As := [.long p3, .long p2, .long (99 : Int64)]) lk_X11_84 C hw (t_Mo_within hr) hl.1 dX11_mayCome_21 rfl (Nat.le_of_ble_eq_true rfl) (by decide) (Nat.le_of_ble_eq_true rfl) rfl (fun H locs hw => ?_)
      refine lv_if_eq (tgt := 43) hx hb dX11_mayCome_24 (by decide) (fun q => ?_) (fun q => ?_)
      · have hf := hf_t q hf
        refine lv_iconst (v := 0) hx hb dX11_mayCome_43 kc_0 ?_
        exact ret_z rfl C hw dX11_mayCome_44 hf
      · have hf := hf_f q hf
        refine lv_lload hx hb dX11_mayCome_27 (lv_at hl 4 rfl) ?_
        refine lv_lconst (v := 1) hx hb dX11_mayCome_29 rfl ?_
        refine lv_ldc2 (v := 9) hx hb C.2.2.2.1 (C.2.2.2.2.1 _ q_1302) dX11_mayCome_30 ?_
        obtain ⟨r4, hr, hf⟩ := hf_1 hf
        refine inv_Si (As := [.long p4, .long (1 : Int64), .long (9 : Int64)]) lk_X11_84 C hw (t_Mo_within hr) hl.1 dX11_mayCome_33 rfl (Nat.le_of_ble_eq_true rfl) (by decide) (Nat.le_of_ble_eq_true rfl) rfl (fun H locs hw => ?_)
        refine lv_if_eq (tgt := 43) hx hb dX11_mayCome_36 (by decide) (fun q => ?_) (fun q => ?_)
        · have hf := hf_t q hf
          refine lv_iconst (v := 0) hx hb dX11_mayCome_43 kc_0 ?_
          exact ret_z rfl C hw dX11_mayCome_44 hf
        · have hf := hf_f q hf
          refine lv_iconst (v := 1) hx hb dX11_mayCome_39 kc_1 ?_
          refine lv_goto (tgt := 44) hx hb dX11_mayCome_40 (by decide) ?_
          exact ret_z rfl C hw dX11_mayCome_44 hf
end
theorem t_Mo_mayCome {l : Launch} {V : St} {S : St} {p1 : Int64} {p2 : Int64} {p3 : Int64} {p4 : Int64} {r : Int32} (hf : Mo_mayCome S p1 p2 p3 p4 = some r) : Ct l (wM V) yX11_mayCome cX11_mayCome 9 (some .boolean) 3 (fun E => [.ref (ea E 44), .long p1, .long p2, .long p3, .long p4]) S (fun E => some (.int r)) S :=
  ofBlock (by decide +kernel) (fun _ => Nat.le_of_ble_eq_true rfl) (fun E p e s m args below meth c ls C hw hl => w_Mo_mayCome C hw hl hf)
theorem dX11_adds_0 : decode cX11_adds 0 = .ok (.aload_n 0, 1) := by decide +kernel
theorem dX11_adds_1 : decode cX11_adds 1 = .ok (.getfield 22, 3) := by decide +kernel
theorem dX11_adds_4 : decode cX11_adds 4 = .ok (.aload_n 0, 1) := by decide +kernel
theorem dX11_adds_5 : decode cX11_adds 5 = .ok (.getfield 88, 3) := by decide +kernel
theorem dX11_adds_8 : decode cX11_adds 8 = .ok (.iload_n 1, 1) := by decide +kernel
theorem dX11_adds_9 : decode cX11_adds 9 = .ok (.iastore, 1) := by decide +kernel
theorem dX11_adds_10 : decode cX11_adds 10 = .ok (.aload_n 0, 1) := by decide +kernel
theorem dX11_adds_11 : decode cX11_adds 11 = .ok (.getfield 25, 3) := by decide +kernel
theorem dX11_adds_14 : decode cX11_adds 14 = .ok (.aload_n 0, 1) := by decide +kernel
theorem dX11_adds_15 : decode cX11_adds 15 = .ok (.getfield 88, 3) := by decide +kernel
theorem dX11_adds_18 : decode cX11_adds 18 = .ok (.iload_n 2, 1) := by decide +kernel
theorem dX11_adds_19 : decode cX11_adds 19 = .ok (.iastore, 1) := by decide +kernel
theorem dX11_adds_20 : decode cX11_adds 20 = .ok (.aload_n 0, 1) := by decide +kernel
theorem dX11_adds_21 : decode cX11_adds 21 = .ok (.getfield 9, 3) := by decide +kernel
theorem dX11_adds_24 : decode cX11_adds 24 = .ok (.bipush 18, 2) := by decide +kernel
theorem dX11_adds_26 : decode cX11_adds 26 = .ok (.aload_n 0, 1) := by decide +kernel
theorem dX11_adds_27 : decode cX11_adds 27 = .ok (.getfield 88, 3) := by decide +kernel
theorem dX11_adds_30 : decode cX11_adds 30 = .ok (.iadd, 1) := by decide +kernel
theorem dX11_adds_31 : decode cX11_adds 31 = .ok (.iload_n 3, 1) := by decide +kernel
theorem dX11_adds_32 : decode cX11_adds 32 = .ok (.iastore, 1) := by decide +kernel
theorem dX11_adds_33 : decode cX11_adds 33 = .ok (.aload_n 0, 1) := by decide +kernel
theorem dX11_adds_34 : decode cX11_adds 34 = .ok (.getfield 9, 3) := by decide +kernel
theorem dX11_adds_37 : decode cX11_adds 37 = .ok (.bipush 28, 2) := by decide +kernel
theorem dX11_adds_39 : decode cX11_adds 39 = .ok (.aload_n 0, 1) := by decide +kernel
theorem dX11_adds_40 : decode cX11_adds 40 = .ok (.getfield 88, 3) := by decide +kernel
theorem dX11_adds_43 : decode cX11_adds 43 = .ok (.iadd, 1) := by decide +kernel
theorem dX11_adds_44 : decode cX11_adds 44 = .ok (.iload 4, 2) := by decide +kernel
theorem dX11_adds_46 : decode cX11_adds 46 = .ok (.iastore, 1) := by decide +kernel
theorem dX11_adds_47 : decode cX11_adds 47 = .ok (.aload_n 0, 1) := by decide +kernel
theorem dX11_adds_48 : decode cX11_adds 48 = .ok (.getfield 9, 3) := by decide +kernel
theorem dX11_adds_51 : decode cX11_adds 51 = .ok (.bipush 38, 2) := by decide +kernel
theorem dX11_adds_53 : decode cX11_adds 53 = .ok (.aload_n 0, 1) := by decide +kernel
theorem dX11_adds_54 : decode cX11_adds 54 = .ok (.getfield 88, 3) := by decide +kernel
theorem dX11_adds_57 : decode cX11_adds 57 = .ok (.iadd, 1) := by decide +kernel
theorem dX11_adds_58 : decode cX11_adds 58 = .ok (.iconst (-1), 1) := by decide +kernel
theorem dX11_adds_59 : decode cX11_adds 59 = .ok (.iastore, 1) := by decide +kernel
theorem dX11_adds_60 : decode cX11_adds 60 = .ok (.aload_n 0, 1) := by decide +kernel
theorem dX11_adds_61 : decode cX11_adds 61 = .ok (.getfield 9, 3) := by decide +kernel
theorem dX11_adds_64 : decode cX11_adds 64 = .ok (.bipush 48, 2) := by decide +kernel
theorem dX11_adds_66 : decode cX11_adds 66 = .ok (.aload_n 0, 1) := by decide +kernel
theorem dX11_adds_67 : decode cX11_adds 67 = .ok (.getfield 88, 3) := by decide +kernel
theorem dX11_adds_70 : decode cX11_adds 70 = .ok (.iadd, 1) := by decide +kernel
theorem dX11_adds_71 : decode cX11_adds 71 = .ok (.iconst (-1), 1) := by decide +kernel
theorem dX11_adds_72 : decode cX11_adds 72 = .ok (.iastore, 1) := by decide +kernel
theorem dX11_adds_73 : decode cX11_adds 73 = .ok (.aload_n 0, 1) := by decide +kernel
theorem dX11_adds_74 : decode cX11_adds 74 = .ok (.dup, 1) := by decide +kernel
theorem dX11_adds_75 : decode cX11_adds 75 = .ok (.getfield 88, 3) := by decide +kernel
theorem dX11_adds_78 : decode cX11_adds 78 = .ok (.iconst 1, 1) := by decide +kernel
theorem dX11_adds_79 : decode cX11_adds 79 = .ok (.iadd, 1) := by decide +kernel
theorem dX11_adds_80 : decode cX11_adds 80 = .ok (.putfield 88, 3) := by decide +kernel
theorem dX11_adds_83 : decode cX11_adds 83 = .ok (.aload_n 0, 1) := by decide +kernel
theorem dX11_adds_84 : decode cX11_adds 84 = .ok (.getfield 88, 3) := by decide +kernel
theorem dX11_adds_87 : decode cX11_adds 87 = .ok (.iconst 1, 1) := by decide +kernel
theorem dX11_adds_88 : decode cX11_adds 88 = .ok (.isub, 1) := by decide +kernel
theorem dX11_adds_89 : decode cX11_adds 89 = .ok (.ireturn, 1) := by decide +kernel
section
variable {p : Program} {l : Launch} {e : Env} {s : State} {m : MethodId} {args : Array Value} {below : List Frame} {meth : Method} {c : Code} {H : Heap} {locs : List Loc} {E : Ev} {S V : St} {ls : Array Slot}
set_option maxRecDepth 20000 in
theorem w_Mo_adds {p1 : Int32} {p2 : Int32} {p3 : Int32} {p4 : Int32} {r : Int32} {S9 : St} (C : Cx p s m args meth c E cX11_adds 5 RX11 (some .int)) (hw : Wd E (wM V E) s.heap S H locs) (hl : lv_has ls 5 [(0, .ref (ea E 44)), (1, .int p1), (2, .int p2), (3, .int p3), (4, .int p4)]) (hf : Mo_adds S p1 p2 p3 p4 = some (r, S9)) : W p l e (rmh 1) s m args below meth c H locs 0 0 (MQ below (QW E (wM V E) (some (.int r)) S9) args s 0 0 (eA E)) (F0 m 0 ls []) := by
  have hx := C.1
  have hb := C.2.1
  unfold Mo_adds at hf
  refine lv_aload_n hx hb dX11_adds_0 rfl (lv_at hl 0 rfl) ?_
  refine get_44_8 C hw q_1159 dX11_adds_1 ?_
  refine lv_aload_n hx hb dX11_adds_4 rfl (lv_at hl 0 rfl) ?_
  refine get_44_7 C hw q_1158 dX11_adds_5 ?_
  refine lv_iload_n hx hb dX11_adds_8 rfl (lv_at hl 1 rfl) ?_
  obtain ⟨hc, hf⟩ := hf_ck hf
  refine st_49 C hw hc dX11_adds_9 (fun H locs hw => ?_)
  refine nm_S hf hw (fun S1 hf hw => ?_)
  refine lv_aload_n hx hb dX11_adds_10 rfl (lv_at hl 0 rfl) ?_
  refine get_44_9 C hw q_1160 dX11_adds_11 ?_
  refine lv_aload_n hx hb dX11_adds_14 rfl (lv_at hl 0 rfl) ?_
  refine get_44_7 C hw q_1158 dX11_adds_15 ?_
  refine lv_iload_n hx hb dX11_adds_18 rfl (lv_at hl 2 rfl) ?_
  obtain ⟨hc, hf⟩ := hf_ck hf
  refine st_50 C hw hc dX11_adds_19 (fun H locs hw => ?_)
  refine nm_S hf hw (fun S2 hf hw => ?_)
  refine lv_aload_n hx hb dX11_adds_20 rfl (lv_at hl 0 rfl) ?_
  refine get_44_0 C hw q_1151 dX11_adds_21 ?_
  refine lv_bipush (v := 18) hx hb dX11_adds_24 kb_18 ?_
  refine lv_aload_n hx hb dX11_adds_26 rfl (lv_at hl 0 rfl) ?_
  refine get_44_7 C hw q_1158 dX11_adds_27 ?_
  refine lv_iadd hx hb dX11_adds_30 ?_
  refine lv_iload_n hx hb dX11_adds_31 rfl (lv_at hl 3 rfl) ?_
  obtain ⟨hc, hf⟩ := hf_ck hf
  refine st_45 C hw hc dX11_adds_32 (fun H locs hw => ?_)
  refine nm_S hf hw (fun S3 hf hw => ?_)
  refine lv_aload_n hx hb dX11_adds_33 rfl (lv_at hl 0 rfl) ?_
  refine get_44_0 C hw q_1151 dX11_adds_34 ?_
  refine lv_bipush (v := 28) hx hb dX11_adds_37 kb_28 ?_
  refine lv_aload_n hx hb dX11_adds_39 rfl (lv_at hl 0 rfl) ?_
  refine get_44_7 C hw q_1158 dX11_adds_40 ?_
  refine lv_iadd hx hb dX11_adds_43 ?_
  refine lv_iload hx hb dX11_adds_44 (lv_at hl 4 rfl) ?_
  obtain ⟨hc, hf⟩ := hf_ck hf
  refine st_45 C hw hc dX11_adds_46 (fun H locs hw => ?_)
  refine nm_S hf hw (fun S4 hf hw => ?_)
  refine lv_aload_n hx hb dX11_adds_47 rfl (lv_at hl 0 rfl) ?_
  refine get_44_0 C hw q_1151 dX11_adds_48 ?_
  refine lv_bipush (v := 38) hx hb dX11_adds_51 kb_38 ?_
  refine lv_aload_n hx hb dX11_adds_53 rfl (lv_at hl 0 rfl) ?_
  refine get_44_7 C hw q_1158 dX11_adds_54 ?_
  refine lv_iadd hx hb dX11_adds_57 ?_
  refine lv_iconst (v := -1) hx hb dX11_adds_58 kc_m1 ?_
  obtain ⟨hc, hf⟩ := hf_ck hf
  refine st_45 C hw hc dX11_adds_59 (fun H locs hw => ?_)
  refine nm_S hf hw (fun S5 hf hw => ?_)
  refine lv_aload_n hx hb dX11_adds_60 rfl (lv_at hl 0 rfl) ?_
  refine get_44_0 C hw q_1151 dX11_adds_61 ?_
  refine lv_bipush (v := 48) hx hb dX11_adds_64 kb_48 ?_
  refine lv_aload_n hx hb dX11_adds_66 rfl (lv_at hl 0 rfl) ?_
  refine get_44_7 C hw q_1158 dX11_adds_67 ?_
  refine lv_iadd hx hb dX11_adds_70 ?_
  refine lv_iconst (v := -1) hx hb dX11_adds_71 kc_m1 ?_
  obtain ⟨hc, hf⟩ := hf_ck hf
  refine st_45 C hw hc dX11_adds_72 (fun H locs hw => ?_)
  refine nm_S hf hw (fun S6 hf hw => ?_)
  refine lv_aload_n hx hb dX11_adds_73 rfl (lv_at hl 0 rfl) ?_
  refine lv_dup hx hb dX11_adds_74 rfl ?_
  refine get_44_7 C hw q_1158 dX11_adds_75 ?_
  refine lv_iconst (v := 1) hx hb dX11_adds_78 kc_1 ?_
  refine lv_iadd hx hb dX11_adds_79 ?_
  refine put_44_7 C hw q_1158 dX11_adds_80 (fun H locs hw => ?_)
  refine nm_S hf hw (fun S7 hf hw => ?_)
  refine lv_aload_n hx hb dX11_adds_83 rfl (lv_at hl 0 rfl) ?_
  refine get_44_7 C hw q_1158 dX11_adds_84 ?_
  refine lv_iconst (v := 1) hx hb dX11_adds_87 kc_1 ?_
  refine lv_isub hx hb dX11_adds_88 ?_
  exact ret_iS C hw dX11_adds_89 hf
end
theorem t_Mo_adds {l : Launch} {V : St} {S : St} {p1 : Int32} {p2 : Int32} {p3 : Int32} {p4 : Int32} {r : Int32} {S9 : St} (hf : Mo_adds S p1 p2 p3 p4 = some (r, S9)) : Ct l (wM V) yX11_adds cX11_adds 5 (some .int) 1 (fun E => [.ref (ea E 44), .int p1, .int p2, .int p3, .int p4]) S (fun E => some (.int r)) S9 :=
  ofBlock (by decide +kernel) (fun _ => Nat.le_of_ble_eq_true rfl) (fun E p e s m args below meth c ls C hw hl => w_Mo_adds C hw hl hf)
theorem dX11_promise_0 : decode cX11_promise 0 = .ok (.iload_n 1, 1) := by decide +kernel
theorem dX11_promise_1 : decode cX11_promise 1 = .ok (.ifCond .lt 34, 3) := by decide +kernel
theorem dX11_promise_4 : decode cX11_promise 4 = .ok (.iload_n 2, 1) := by decide +kernel
theorem dX11_promise_5 : decode cX11_promise 5 = .ok (.ifCond .lt 30, 3) := by decide +kernel
theorem dX11_promise_8 : decode cX11_promise 8 = .ok (.aload_n 0, 1) := by decide +kernel
theorem dX11_promise_9 : decode cX11_promise 9 = .ok (.iload_n 1, 1) := by decide +kernel
theorem dX11_promise_10 : decode cX11_promise 10 = .ok (.bipush 10, 2) := by decide +kernel
theorem dX11_promise_12 : decode cX11_promise 12 = .ok (.idiv, 1) := by decide +kernel
theorem dX11_promise_13 : decode cX11_promise 13 = .ok (.i2l, 1) := by decide +kernel
theorem dX11_promise_14 : decode cX11_promise 14 = .ok (.iload_n 2, 1) := by decide +kernel
theorem dX11_promise_15 : decode cX11_promise 15 = .ok (.bipush 100, 2) := by decide +kernel
theorem dX11_promise_17 : decode cX11_promise 17 = .ok (.idiv, 1) := by decide +kernel
theorem dX11_promise_18 : decode cX11_promise 18 = .ok (.i2l, 1) := by decide +kernel
theorem dX11_promise_19 : decode cX11_promise 19 = .ok (.iload_n 2, 1) := by decide +kernel
theorem dX11_promise_20 : decode cX11_promise 20 = .ok (.bipush 100, 2) := by decide +kernel
theorem dX11_promise_22 : decode cX11_promise 22 = .ok (.irem, 1) := by decide +kernel
theorem dX11_promise_23 : decode cX11_promise 23 = .ok (.i2l, 1) := by decide +kernel
theorem dX11_promise_24 : decode cX11_promise 24 = .ok (.iload_n 1, 1) := by decide +kernel
theorem dX11_promise_25 : decode cX11_promise 25 = .ok (.bipush 10, 2) := by decide +kernel
theorem dX11_promise_27 : decode cX11_promise 27 = .ok (.irem, 1) := by decide +kernel
theorem dX11_promise_28 : decode cX11_promise 28 = .ok (.i2l, 1) := by decide +kernel
theorem dX11_promise_29 : decode cX11_promise 29 = .ok (.invokevirtual 106, 3) := by decide +kernel
theorem dX11_promise_32 : decode cX11_promise 32 = .ok (.ifCond .ne 5, 3) := by decide +kernel
theorem dX11_promise_35 : decode cX11_promise 35 = .ok (.iconst (-1), 1) := by decide +kernel
theorem dX11_promise_36 : decode cX11_promise 36 = .ok (.ireturn, 1) := by decide +kernel
theorem dX11_promise_37 : decode cX11_promise 37 = .ok (.aload_n 0, 1) := by decide +kernel
theorem dX11_promise_38 : decode cX11_promise 38 = .ok (.getfield 88, 3) := by decide +kernel
theorem dX11_promise_41 : decode cX11_promise 41 = .ok (.bipush 10, 2) := by decide +kernel
theorem dX11_promise_43 : decode cX11_promise 43 = .ok (.if_icmp .ne 8, 3) := by decide +kernel
theorem dX11_promise_46 : decode cX11_promise 46 = .ok (.bipush (-3), 2) := by decide +kernel
theorem dX11_promise_48 : decode cX11_promise 48 = .ok (.goto 23, 3) := by decide +kernel
theorem dX11_promise_51 : decode cX11_promise 51 = .ok (.aload_n 0, 1) := by decide +kernel
theorem dX11_promise_52 : decode cX11_promise 52 = .ok (.iload_n 1, 1) := by decide +kernel
theorem dX11_promise_53 : decode cX11_promise 53 = .ok (.bipush 10, 2) := by decide +kernel
theorem dX11_promise_55 : decode cX11_promise 55 = .ok (.idiv, 1) := by decide +kernel
theorem dX11_promise_56 : decode cX11_promise 56 = .ok (.iload_n 2, 1) := by decide +kernel
theorem dX11_promise_57 : decode cX11_promise 57 = .ok (.bipush 100, 2) := by decide +kernel
theorem dX11_promise_59 : decode cX11_promise 59 = .ok (.idiv, 1) := by decide +kernel
theorem dX11_promise_60 : decode cX11_promise 60 = .ok (.iload_n 2, 1) := by decide +kernel
theorem dX11_promise_61 : decode cX11_promise 61 = .ok (.bipush 100, 2) := by decide +kernel
theorem dX11_promise_63 : decode cX11_promise 63 = .ok (.irem, 1) := by decide +kernel
theorem dX11_promise_64 : decode cX11_promise 64 = .ok (.iload_n 1, 1) := by decide +kernel
theorem dX11_promise_65 : decode cX11_promise 65 = .ok (.bipush 10, 2) := by decide +kernel
theorem dX11_promise_67 : decode cX11_promise 67 = .ok (.irem, 1) := by decide +kernel
theorem dX11_promise_68 : decode cX11_promise 68 = .ok (.invokevirtual 110, 3) := by decide +kernel
theorem dX11_promise_71 : decode cX11_promise 71 = .ok (.ireturn, 1) := by decide +kernel
section
variable {p : Program} {l : Launch} {e : Env} {s : State} {m : MethodId} {args : Array Value} {below : List Frame} {meth : Method} {c : Code} {H : Heap} {locs : List Loc} {E : Ev} {S V : St} {ls : Array Slot}
set_option maxRecDepth 20000 in
theorem w_Mo_promise {p1 : Int32} {p2 : Int32} {r : Int32} {S9 : St} (C : Cx p s m args meth c E cX11_promise 3 RX11 (some .int)) (hw : Wd E (wM V E) s.heap S H locs) (hl : lv_has ls 3 [(0, .ref (ea E 44)), (1, .int p1), (2, .int p2)]) (hf : Mo_promise S p1 p2 = some (r, S9)) : W p l e (rmh 4) s m args below meth c H locs 0 0 (MQ below (QW E (wM V E) (some (.int r)) S9) args s 0 0 (eA E)) (F0 m 0 ls []) := by
  have hx := C.1
  have hb := C.2.1
  unfold Mo_promise at hf
  refine lv_iload_n hx hb dX11_promise_0 rfl (lv_at hl 1 rfl) ?_
  refine lv_if_lt (tgt := 35) hx hb dX11_promise_1 (by decide) (fun q => ?_) (fun q => ?_)
  · have hf := hf_t q hf
    refine lv_iconst (v := -1) hx hb dX11_promise_35 kc_m1 ?_
    exact ret_iS C hw dX11_promise_36 hf
  · have hf := hf_f q hf
    refine lv_iload_n hx hb dX11_promise_4 rfl (lv_at hl 2 rfl) ?_
    refine lv_if_lt (tgt := 35) hx hb dX11_promise_5 (by decide) (fun q => ?_) (fun q => ?_)
    · have hf := hf_t q hf
      refine lv_iconst (v := -1) hx hb dX11_promise_35 kc_m1 ?_
      exact ret_iS C hw dX11_promise_36 hf
    · have hf := hf_f q hf
      refine lv_aload_n hx hb dX11_promise_8 rfl (lv_at hl 0 rfl) ?_
      refine lv_iload_n hx hb dX11_promise_9 rfl (lv_at hl 1 rfl) ?_
      refine lv_bipush (v := 10) hx hb dX11_promise_10 kb_10 ?_
      refine lv_idiv hx hb dX11_promise_12 (by decide) ?_
      refine lv_i2l hx hb dX11_promise_13 rfl ?_
      refine lv_iload_n hx hb dX11_promise_14 rfl (lv_at hl 2 rfl) ?_
      refine lv_bipush (v := 100) hx hb dX11_promise_15 kb_100 ?_
      refine lv_idiv hx hb dX11_promise_17 (by decide) ?_
      refine lv_i2l hx hb dX11_promise_18 rfl ?_
      refine lv_iload_n hx hb dX11_promise_19 rfl (lv_at hl 2 rfl) ?_
      refine lv_bipush (v := 100) hx hb dX11_promise_20 kb_100 ?_
      refine lv_irem hx hb dX11_promise_22 (by decide) ?_
      refine lv_i2l hx hb dX11_promise_23 rfl ?_
      refine lv_iload_n hx hb dX11_promise_24 rfl (lv_at hl 1 rfl) ?_
      refine lv_bipush (v := 10) hx hb dX11_promise_25 kb_10 ?_
      refine lv_irem hx hb dX11_promise_27 (by decide) ?_
      refine lv_i2l hx hb dX11_promise_28 rfl ?_
      obtain ⟨r1, hr, hf⟩ := hf_1 hf
      refine inv_Vi (q0 := 44) (ci := 11) (As := [.long (Int32.toInt64 (p1 / (10 : Int32))), .long (Int32.toInt64 (p2 / (100 : Int32))), .long (Int32.toInt64 (p2 - p2 / (100 : Int32) * (100 : Int32))), .long (Int32.toInt64 (p1 - p1 / (10 : Int32) * (10 : Int32)))]) lk_X11_106 C hw rfl rfl rfl (t_Mo_mayCome hr) rfl hl.1 dX11_promise_29 rfl (Nat.le_of_ble_eq_true rfl) (by decide) (Nat.le_of_ble_eq_true rfl) rfl (fun H locs hw => ?_)
      refine lv_if_ne (tgt := 37) hx hb dX11_promise_32 (by decide) (fun q => ?_) (fun q => ?_)
      · have hf := hf_f q hf
        refine lv_aload_n hx hb dX11_promise_37 rfl (lv_at hl 0 rfl) ?_
        refine get_44_7 C hw q_1158 dX11_promise_38 ?_
        refine lv_bipush (v := 10) hx hb dX11_promise_41 kb_10 ?_
        refine lv_icmp_ne (tgt := 51) hx hb dX11_promise_43 (by decide) (fun q => ?_) (fun q => ?_)
        · have hf := hf_f q hf
          refine lv_aload_n hx hb dX11_promise_51 rfl (lv_at hl 0 rfl) ?_
          refine lv_iload_n hx hb dX11_promise_52 rfl (lv_at hl 1 rfl) ?_
          refine lv_bipush (v := 10) hx hb dX11_promise_53 kb_10 ?_
          refine lv_idiv hx hb dX11_promise_55 (by decide) ?_
          refine lv_iload_n hx hb dX11_promise_56 rfl (lv_at hl 2 rfl) ?_
          refine lv_bipush (v := 100) hx hb dX11_promise_57 kb_100 ?_
          refine lv_idiv hx hb dX11_promise_59 (by decide) ?_
          refine lv_iload_n hx hb dX11_promise_60 rfl (lv_at hl 2 rfl) ?_
          refine lv_bipush (v := 100) hx hb dX11_promise_61 kb_100 ?_
          refine lv_irem hx hb dX11_promise_63 (by decide) ?_
          refine lv_iload_n hx hb dX11_promise_64 rfl (lv_at hl 1 rfl) ?_
          refine lv_bipush (v := 10) hx hb dX11_promise_65 kb_10 ?_
          refine lv_irem hx hb dX11_promise_67 (by decide) ?_
          obtain ⟨r3, S2, hr, hf⟩ := hf_2 hf
          refine inv_Vi (q0 := 44) (ci := 11) (As := [.int (p1 / (10 : Int32)), .int (p2 / (100 : Int32)), .int (p2 - p2 / (100 : Int32) * (100 : Int32)), .int (p1 - p1 / (10 : Int32) * (10 : Int32))]) lk_X11_110 C hw rfl rfl rfl (t_Mo_adds hr) rfl hl.1 dX11_promise_68 rfl (Nat.le_of_ble_eq_true rfl) (by decide) (Nat.le_of_ble_eq_true rfl) rfl (fun H locs hw => ?_)
          exact ret_iS C hw dX11_promise_71 hf
        · have hf := hf_t q hf
          refine lv_bipush (v := -3) hx hb dX11_promise_46 kb_m3 ?_
          refine lv_goto (tgt := 71) hx hb dX11_promise_48 (by decide) ?_
          exact ret_iS C hw dX11_promise_71 hf
      · have hf := hf_t q hf
        refine lv_iconst (v := -1) hx hb dX11_promise_35 kc_m1 ?_
        exact ret_iS C hw dX11_promise_36 hf
end
theorem t_Mo_promise {l : Launch} {V : St} {S : St} {p1 : Int32} {p2 : Int32} {r : Int32} {S9 : St} (hf : Mo_promise S p1 p2 = some (r, S9)) : Ct l (wM V) yX11_promise cX11_promise 3 (some .int) 4 (fun E => [.ref (ea E 44), .int p1, .int p2]) S (fun E => some (.int r)) S9 :=
  ofBlock (by decide +kernel) (fun _ => Nat.le_of_ble_eq_true rfl) (fun E p e s m args below meth c ls C hw hl => w_Mo_promise C hw hl hf)
theorem dX11_isShelf_0 : decode cX11_isShelf 0 = .ok (.iload_n 0, 1) := by decide +kernel
theorem dX11_isShelf_1 : decode cX11_isShelf 1 = .ok (.i2l, 1) := by decide +kernel
theorem dX11_isShelf_2 : decode cX11_isShelf 2 = .ok (.lconst 0, 1) := by decide +kernel
theorem dX11_isShelf_3 : decode cX11_isShelf 3 = .ok (.ldc2_w 311, 3) := by decide +kernel
theorem dX11_isShelf_6 : decode cX11_isShelf 6 = .ok (.invokestatic 84, 3) := by decide +kernel
theorem dX11_isShelf_9 : decode cX11_isShelf 9 = .ok (.ireturn, 1) := by decide +kernel
section
variable {p : Program} {l : Launch} {e : Env} {s : State} {m : MethodId} {args : Array Value} {below : List Frame} {meth : Method} {c : Code} {H : Heap} {locs : List Loc} {E : Ev} {S V : St} {ls : Array Slot}
set_option maxRecDepth 20000 in
theorem w_Mo_isShelf {p1 : Int32} {r : Int32} (C : Cx p s m args meth c E cX11_isShelf 1 RX11 (some .boolean)) (hw : Wd E (wM V E) s.heap S H locs) (hl : lv_has ls 1 [(0, .int p1)]) (hf : Mo_isShelf S p1 = some r) : W p l e (rmh 2) s m args below meth c H locs 0 0 (MQ below (QW E (wM V E) (some (.int r)) S) args s 0 0 (eA E)) (F0 m 0 ls []) := by
  have hx := C.1
  have hb := C.2.1
  unfold Mo_isShelf at hf
  refine lv_iload_n hx hb dX11_isShelf_0 rfl (lv_at hl 0 rfl) ?_
  refine lv_i2l hx hb dX11_isShelf_1 rfl ?_
  refine lv_lconst (v := 0) hx hb dX11_isShelf_2 rfl ?_
  refine lv_ldc2 (v := 5) hx hb C.2.2.2.1 (C.2.2.2.2.1 _ q_1314) dX11_isShelf_3 ?_
  obtain ⟨r1, hr, hf⟩ := hf_1 hf
  refine inv_Si (As := [.long (Int32.toInt64 p1), .long (0 : Int64), .long (5 : Int64)]) lk_X11_84 C hw (t_Mo_within hr) hl.1 dX11_isShelf_6 rfl (Nat.le_of_ble_eq_true rfl) (by decide) (Nat.le_of_ble_eq_true rfl) rfl (fun H locs hw => ?_)
  obtain ⟨hcb, hf⟩ := hf_ck hf
  exact ret_z (isB_nar hcb) C hw dX11_isShelf_9 hf
end
theorem t_Mo_isShelf {l : Launch} {V : St} {S : St} {p1 : Int32} {r : Int32} (hf : Mo_isShelf S p1 = some r) : Ct l (wM V) yX11_isShelf cX11_isShelf 1 (some .boolean) 2 (fun E => [.int p1]) S (fun E => some (.int r)) S :=
  ofBlock (by decide +kernel) (fun _ => Nat.le_of_ble_eq_true rfl) (fun E p e s m args below meth c ls C hw hl => w_Mo_isShelf C hw hl hf)
