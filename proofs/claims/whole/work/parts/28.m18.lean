theorem dX11_keepBy_0 : decode cX11_keepBy 0 = .ok (.aload_n 0, 1) := by decide +kernel
theorem dX11_keepBy_1 : decode cX11_keepBy 1 = .ok (.iload_n 1, 1) := by decide +kernel
theorem dX11_keepBy_2 : decode cX11_keepBy 2 = .ok (.i2l, 1) := by decide +kernel
theorem dX11_keepBy_3 : decode cX11_keepBy 3 = .ok (.invokevirtual 97, 3) := by decide +kernel
theorem dX11_keepBy_6 : decode cX11_keepBy 6 = .ok (.ifCond .eq 21, 3) := by decide +kernel
theorem dX11_keepBy_9 : decode cX11_keepBy 9 = .ok (.iload_n 2, 1) := by decide +kernel
theorem dX11_keepBy_10 : decode cX11_keepBy 10 = .ok (.i2l, 1) := by decide +kernel
theorem dX11_keepBy_11 : decode cX11_keepBy 11 = .ok (.invokestatic 101, 3) := by decide +kernel
theorem dX11_keepBy_14 : decode cX11_keepBy 14 = .ok (.ifCond .eq 13, 3) := by decide +kernel
theorem dX11_keepBy_17 : decode cX11_keepBy 17 = .ok (.iload_n 3, 1) := by decide +kernel
theorem dX11_keepBy_18 : decode cX11_keepBy 18 = .ok (.i2l, 1) := by decide +kernel
theorem dX11_keepBy_19 : decode cX11_keepBy 19 = .ok (.lconst 0, 1) := by decide +kernel
theorem dX11_keepBy_20 : decode cX11_keepBy 20 = .ok (.lconst 1, 1) := by decide +kernel
theorem dX11_keepBy_21 : decode cX11_keepBy 21 = .ok (.invokestatic 84, 3) := by decide +kernel
theorem dX11_keepBy_24 : decode cX11_keepBy 24 = .ok (.ifCond .ne 5, 3) := by decide +kernel
theorem dX11_keepBy_27 : decode cX11_keepBy 27 = .ok (.iconst (-1), 1) := by decide +kernel
theorem dX11_keepBy_28 : decode cX11_keepBy 28 = .ok (.ireturn, 1) := by decide +kernel
theorem dX11_keepBy_29 : decode cX11_keepBy 29 = .ok (.bipush (-2), 2) := by decide +kernel
theorem dX11_keepBy_31 : decode cX11_keepBy 31 = .ok (.istore 4, 2) := by decide +kernel
theorem dX11_keepBy_33 : decode cX11_keepBy 33 = .ok (.iconst 0, 1) := by decide +kernel
theorem dX11_keepBy_34 : decode cX11_keepBy 34 = .ok (.istore 5, 2) := by decide +kernel
theorem dX11_keepBy_36 : decode cX11_keepBy 36 = .ok (.iload 5, 2) := by decide +kernel
theorem dX11_keepBy_38 : decode cX11_keepBy 38 = .ok (.iconst 1, 1) := by decide +kernel
theorem dX11_keepBy_39 : decode cX11_keepBy 39 = .ok (.aload_n 0, 1) := by decide +kernel
theorem dX11_keepBy_40 : decode cX11_keepBy 40 = .ok (.getfield 88, 3) := by decide +kernel
theorem dX11_keepBy_43 : decode cX11_keepBy 43 = .ok (.ishl, 1) := by decide +kernel
theorem dX11_keepBy_44 : decode cX11_keepBy 44 = .ok (.if_icmp .ge 42, 3) := by decide +kernel
theorem dX11_keepBy_47 : decode cX11_keepBy 47 = .ok (.aload_n 0, 1) := by decide +kernel
theorem dX11_keepBy_48 : decode cX11_keepBy 48 = .ok (.iload_n 1, 1) := by decide +kernel
theorem dX11_keepBy_49 : decode cX11_keepBy 49 = .ok (.iload_n 2, 1) := by decide +kernel
theorem dX11_keepBy_50 : decode cX11_keepBy 50 = .ok (.iload 5, 2) := by decide +kernel
theorem dX11_keepBy_52 : decode cX11_keepBy 52 = .ok (.invokevirtual 238, 3) := by decide +kernel
theorem dX11_keepBy_55 : decode cX11_keepBy 55 = .ok (.ifCond .eq 25, 3) := by decide +kernel
theorem dX11_keepBy_58 : decode cX11_keepBy 58 = .ok (.iload 4, 2) := by decide +kernel
theorem dX11_keepBy_60 : decode cX11_keepBy 60 = .ok (.ifCond .lt 16, 3) := by decide +kernel
theorem dX11_keepBy_63 : decode cX11_keepBy 63 = .ok (.iload 5, 2) := by decide +kernel
theorem dX11_keepBy_65 : decode cX11_keepBy 65 = .ok (.invokestatic 226, 3) := by decide +kernel
theorem dX11_keepBy_68 : decode cX11_keepBy 68 = .ok (.iload 4, 2) := by decide +kernel
theorem dX11_keepBy_70 : decode cX11_keepBy 70 = .ok (.invokestatic 226, 3) := by decide +kernel
theorem dX11_keepBy_73 : decode cX11_keepBy 73 = .ok (.if_icmp .ge 7, 3) := by decide +kernel
theorem dX11_keepBy_76 : decode cX11_keepBy 76 = .ok (.iload 5, 2) := by decide +kernel
theorem dX11_keepBy_78 : decode cX11_keepBy 78 = .ok (.istore 4, 2) := by decide +kernel
theorem dX11_keepBy_80 : decode cX11_keepBy 80 = .ok (.iinc 5 1, 3) := by decide +kernel
theorem dX11_keepBy_83 : decode cX11_keepBy 83 = .ok (.goto (-47), 3) := by decide +kernel
theorem dX11_keepBy_86 : decode cX11_keepBy 86 = .ok (.iload 4, 2) := by decide +kernel
theorem dX11_keepBy_88 : decode cX11_keepBy 88 = .ok (.ifCond .lt 8, 3) := by decide +kernel
theorem dX11_keepBy_91 : decode cX11_keepBy 91 = .ok (.iload_n 3, 1) := by decide +kernel
theorem dX11_keepBy_92 : decode cX11_keepBy 92 = .ok (.iconst 1, 1) := by decide +kernel
theorem dX11_keepBy_93 : decode cX11_keepBy 93 = .ok (.if_icmp .ne 8, 3) := by decide +kernel
theorem dX11_keepBy_96 : decode cX11_keepBy 96 = .ok (.iload 4, 2) := by decide +kernel
theorem dX11_keepBy_98 : decode cX11_keepBy 98 = .ok (.goto 8, 3) := by decide +kernel
theorem dX11_keepBy_101 : decode cX11_keepBy 101 = .ok (.iload 4, 2) := by decide +kernel
theorem dX11_keepBy_103 : decode cX11_keepBy 103 = .ok (.invokestatic 226, 3) := by decide +kernel
theorem dX11_keepBy_106 : decode cX11_keepBy 106 = .ok (.ireturn, 1) := by decide +kernel
section
variable {p : Program} {l : Launch} {e : Env} {s : State} {m : MethodId} {args : Array Value} {below : List Frame} {meth : Method} {c : Code} {H : Heap} {locs : List Loc} {E : Ev} {S V : St} {ls : Array Slot}
set_option maxRecDepth 20000 in
theorem w_Mo_keepBy_b36 {N : Nat} {k36 : (Int32 × Int32) → Option Int32} {l1 : Int32} {l2 : Int32} {l3 : Int32} {l4 : Int32} {l5 : Int32} {r : Int32} (C : Cx p s m args meth c E cX11_keepBy 6 RX11 (some .int)) (hk36 : ∀ x, k36 x = some r → ∀ (H : Heap) (locs : List Loc) (ls : Array Slot), Wd E (wM V E) s.heap S H locs → lv_has ls 6 [(0, .ref (ea E 44)), (1, .int l1), (2, .int l2), (3, .int l3), (4, .int x.1), (5, .int x.2)] → W p l e (rmh 4) s m args below meth c H locs 0 0 (MQ below (QW E (wM V E) (some (.int r)) S) args s 0 0 (eA E)) (F0 m 36 ls [])) (hw : Wd E (wM V E) s.heap S H locs) (hl : lv_has ls 6 [(0, .ref (ea E 44)), (1, .int l1), (2, .int l2), (3, .int l3), (4, .int l4), (5, .int l5)]) (hf : Mo_keepBy_b36 N k36 S l1 l2 l3 l4 l5 = some r) : W p l e (rmh 4) s m args below meth c H locs 0 0 (MQ below (QW E (wM V E) (some (.int r)) S) args s 0 0 (eA E)) (F0 m 36 ls []) := by
  have hx := C.1
  have hb := C.2.1
  unfold Mo_keepBy_b36 at hf
  refine lv_iload hx hb dX11_keepBy_36 (lv_at hl 5 rfl) ?_
  refine lv_iconst (v := 1) hx hb dX11_keepBy_38 kc_1 ?_
  refine lv_aload_n hx hb dX11_keepBy_39 rfl (lv_at hl 0 rfl) ?_
  refine get_44_7 C hw q_1158 dX11_keepBy_40 ?_
  refine lv_ishl hx hb dX11_keepBy_43 ?_
  refine lv_icmp_ge (tgt := 86) hx hb dX11_keepBy_44 (by decide) (fun q => ?_) (fun q => ?_)
  · have hf := hf_t q hf
    refine lv_iload hx hb dX11_keepBy_86 (lv_at hl 4 rfl) ?_
    refine lv_if_lt (tgt := 96) hx hb dX11_keepBy_88 (by decide) (fun q => ?_) (fun q => ?_)
    · have hf := hf_t q hf
      refine lv_iload hx hb dX11_keepBy_96 (lv_at hl 4 rfl) ?_
      refine lv_goto (tgt := 106) hx hb dX11_keepBy_98 (by decide) ?_
      exact ret_i C hw dX11_keepBy_106 hf
    · have hf := hf_f q hf
      refine lv_iload_n hx hb dX11_keepBy_91 rfl (lv_at hl 3 rfl) ?_
      refine lv_iconst (v := 1) hx hb dX11_keepBy_92 kc_1 ?_
      refine lv_icmp_ne (tgt := 101) hx hb dX11_keepBy_93 (by decide) (fun q => ?_) (fun q => ?_)
      · have hf := hf_f q hf
        refine lv_iload hx hb dX11_keepBy_101 (lv_at hl 4 rfl) ?_
        obtain ⟨r1, hr, hf⟩ := hf_1 hf
        refine inv_Si (As := [.int l4]) lk_X11_226 C hw (t_Mo_bitsOf hr) hl.1 dX11_keepBy_103 rfl (Nat.le_of_ble_eq_true rfl) (by decide) (Nat.le_of_ble_eq_true rfl) rfl (fun H locs hw => ?_)
        exact ret_i C hw dX11_keepBy_106 hf
      · have hf := hf_t q hf
        refine lv_iload hx hb dX11_keepBy_96 (lv_at hl 4 rfl) ?_
        refine lv_goto (tgt := 106) hx hb dX11_keepBy_98 (by decide) ?_
        exact ret_i C hw dX11_keepBy_106 hf
  · have hf := hf_f q hf
    refine lv_aload_n hx hb dX11_keepBy_47 rfl (lv_at hl 0 rfl) ?_
    refine lv_iload_n hx hb dX11_keepBy_48 rfl (lv_at hl 1 rfl) ?_
    refine lv_iload_n hx hb dX11_keepBy_49 rfl (lv_at hl 2 rfl) ?_
    refine lv_iload hx hb dX11_keepBy_50 (lv_at hl 5 rfl) ?_
    obtain ⟨r2, hr, hf⟩ := hf_1 hf
    refine inv_Vi (q0 := 44) (ci := 11) (As := [.int l1, .int l2, .int l5]) lk_X11_238 C hw rfl rfl rfl (t_Mo_lets hr) rfl hl.1 dX11_keepBy_52 rfl (Nat.le_of_ble_eq_true rfl) (by decide) (Nat.le_of_ble_eq_true rfl) rfl (fun H locs hw => ?_)
    refine lv_if_eq (tgt := 80) hx hb dX11_keepBy_55 (by decide) (fun q => ?_) (fun q => ?_)
    · have hf := hf_t q hf
      obtain ⟨x3, ex3, hf⟩ := nme hf
      refine lv_iinc (v := x3) (lv' := [(5, .int x3), (0, .ref (ea E 44)), (1, .int l1), (2, .int l2), (3, .int l3), (4, .int l4)]) hx hb dX11_keepBy_80 hl (k := 5) rfl (ki_1 ex3) (by decide) rfl (fun ls hl => ?_)
      refine lv_goto (tgt := 36) hx hb dX11_keepBy_83 (by decide) ?_
      exact hk36 _ hf _ _ _ hw (lv_sub hl [1, 2, 3, 4, 5, 0] rfl)
    · have hf := hf_f q hf
      refine lv_iload hx hb dX11_keepBy_58 (lv_at hl 4 rfl) ?_
      refine lv_if_lt (tgt := 76) hx hb dX11_keepBy_60 (by decide) (fun q => ?_) (fun q => ?_)
      · have hf := hf_t q hf
        refine lv_iload hx hb dX11_keepBy_76 (lv_at hl 5 rfl) ?_
        refine lv_istore (lv' := [(4, .int l5), (0, .ref (ea E 44)), (1, .int l1), (2, .int l2), (3, .int l3), (5, .int l5)]) hx hb dX11_keepBy_78 hl (by decide) rfl (fun ls hl => ?_)
        obtain ⟨x4, ex4, hf⟩ := nme hf
        refine lv_iinc (v := x4) (lv' := [(5, .int x4), (4, .int l5), (0, .ref (ea E 44)), (1, .int l1), (2, .int l2), (3, .int l3)]) hx hb dX11_keepBy_80 hl (k := 5) rfl (ki_1 ex4) (by decide) rfl (fun ls hl => ?_)
        refine lv_goto (tgt := 36) hx hb dX11_keepBy_83 (by decide) ?_
        exact hk36 _ hf _ _ _ hw (lv_sub hl [2, 3, 4, 5, 1, 0] rfl)
      · have hf := hf_f q hf
        refine lv_iload hx hb dX11_keepBy_63 (lv_at hl 5 rfl) ?_
        obtain ⟨r5, hr, hf⟩ := hf_1 hf
        refine inv_Si (As := [.int l5]) lk_X11_226 C hw (t_Mo_bitsOf hr) hl.1 dX11_keepBy_65 rfl (Nat.le_of_ble_eq_true rfl) (by decide) (Nat.le_of_ble_eq_true rfl) rfl (fun H locs hw => ?_)
        refine lv_iload hx hb dX11_keepBy_68 (lv_at hl 4 rfl) ?_
        obtain ⟨r6, hr, hf⟩ := hf_1 hf
        refine inv_Si (As := [.int l4]) lk_X11_226 C hw (t_Mo_bitsOf hr) hl.1 dX11_keepBy_70 rfl (Nat.le_of_ble_eq_true rfl) (by decide) (Nat.le_of_ble_eq_true rfl) rfl (fun H locs hw => ?_)
        refine lv_icmp_ge (tgt := 80) hx hb dX11_keepBy_73 (by decide) (fun q => ?_) (fun q => ?_)
        · have hf := hf_t q hf
          obtain ⟨x7, ex7, hf⟩ := nme hf
          refine lv_iinc (v := x7) (lv' := [(5, .int x7), (0, .ref (ea E 44)), (1, .int l1), (2, .int l2), (3, .int l3), (4, .int l4)]) hx hb dX11_keepBy_80 hl (k := 5) rfl (ki_1 ex7) (by decide) rfl (fun ls hl => ?_)
          refine lv_goto (tgt := 36) hx hb dX11_keepBy_83 (by decide) ?_
          exact hk36 _ hf _ _ _ hw (lv_sub hl [1, 2, 3, 4, 5, 0] rfl)
        · have hf := hf_f q hf
          refine lv_iload hx hb dX11_keepBy_76 (lv_at hl 5 rfl) ?_
          refine lv_istore (lv' := [(4, .int l5), (0, .ref (ea E 44)), (1, .int l1), (2, .int l2), (3, .int l3), (5, .int l5)]) hx hb dX11_keepBy_78 hl (by decide) rfl (fun ls hl => ?_)
          obtain ⟨x8, ex8, hf⟩ := nme hf
          refine lv_iinc (v := x8) (lv' := [(5, .int x8), (4, .int l5), (0, .ref (ea E 44)), (1, .int l1), (2, .int l2), (3, .int l3)]) hx hb dX11_keepBy_80 hl (k := 5) rfl (ki_1 ex8) (by decide) rfl (fun ls hl => ?_)
          refine lv_goto (tgt := 36) hx hb dX11_keepBy_83 (by decide) ?_
          exact hk36 _ hf _ _ _ hw (lv_sub hl [2, 3, 4, 5, 1, 0] rfl)
theorem w_Mo_keepBy_L36 {N : Nat} {l1 : Int32} {l2 : Int32} {l3 : Int32} {r : Int32} (C : Cx p s m args meth c E cX11_keepBy 6 RX11 (some .int)) : ∀ x, Mo_keepBy_L36 N S l1 l2 l3 x = some r → ∀ (H : Heap) (locs : List Loc) (ls : Array Slot), Wd E (wM V E) s.heap S H locs → lv_has ls 6 [(0, .ref (ea E 44)), (1, .int l1), (2, .int l2), (3, .int l3), (4, .int x.1), (5, .int x.2)] → W p l e (rmh 4) s m args below meth c H locs 0 0 (MQ below (QW E (wM V E) (some (.int r)) S) args s 0 0 (eA E)) (F0 m 36 ls []) :=
  lp_W (fun k x hk hf H locs ls hw hl => w_Mo_keepBy_b36 C hk hw hl hf) N
set_option maxRecDepth 20000 in
theorem w_Mo_keepBy {N : Nat} {p1 : Int32} {p2 : Int32} {p3 : Int32} {r : Int32} (C : Cx p s m args meth c E cX11_keepBy 6 RX11 (some .int)) (hw : Wd E (wM V E) s.heap S H locs) (hl : lv_has ls 6 [(0, .ref (ea E 44)), (1, .int p1), (2, .int p2), (3, .int p3)]) (hf : Mo_keepBy N S p1 p2 p3 = some r) : W p l e (rmh 4) s m args below meth c H locs 0 0 (MQ below (QW E (wM V E) (some (.int r)) S) args s 0 0 (eA E)) (F0 m 0 ls []) := by
  have hx := C.1
  have hb := C.2.1
  unfold Mo_keepBy at hf
  refine lv_aload_n hx hb dX11_keepBy_0 rfl (lv_at hl 0 rfl) ?_
  refine lv_iload_n hx hb dX11_keepBy_1 rfl (lv_at hl 1 rfl) ?_
  refine lv_i2l hx hb dX11_keepBy_2 rfl ?_
  obtain ⟨r1, hr, hf⟩ := hf_1 hf
  refine inv_Vi (q0 := 44) (ci := 11) (As := [.long (Int32.toInt64 p1)]) lk_X11_97 C hw rfl rfl rfl (t_Mo_isOne hr) rfl hl.1 dX11_keepBy_3 rfl (Nat.le_of_ble_eq_true rfl) (by decide) (Nat.le_of_ble_eq_true rfl) rfl (fun H locs hw => ?_)
  refine lv_if_eq (tgt := 27) hx hb dX11_keepBy_6 (by decide) (fun q => ?_) (fun q => ?_)
  · have hf := hf_t q hf
    refine lv_iconst (v := -1) hx hb dX11_keepBy_27 kc_m1 ?_
    exact ret_i C hw dX11_keepBy_28 hf
  · have hf := hf_f q hf
    refine lv_iload_n hx hb dX11_keepBy_9 rfl (lv_at hl 2 rfl) ?_
    refine lv_i2l hx hb dX11_keepBy_10 rfl ?_
    obtain ⟨r2, hr, hf⟩ := hf_1 hf
    refine inv_Si (As := [.long (Int32.toInt64 p2)]) lk_X11_101 C hw (t_Mo_isDay hr) hl.1 dX11_keepBy_11 rfl (Nat.le_of_ble_eq_true rfl) (by decide) (Nat.le_of_ble_eq_true rfl) rfl (fun H locs hw => ?_)
    refine lv_if_eq (tgt := 27) hx hb dX11_keepBy_14 (by decide) (fun q => ?_) (fun q => ?_)
    · have hf := hf_t q hf
      refine lv_iconst (v := -1) hx hb dX11_keepBy_27 kc_m1 ?_
      exact ret_i C hw dX11_keepBy_28 hf
    · have hf := hf_f q hf
      refine lv_iload_n hx hb dX11_keepBy_17 rfl (lv_at hl 3 rfl) ?_
      refine lv_i2l hx hb dX11_keepBy_18 rfl ?_
      refine lv_lconst (v := 0) hx hb dX11_keepBy_19 rfl ?_
      refine lv_lconst (v := 1) hx hb dX11_keepBy_20 rfl ?_
      obtain ⟨r3, hr, hf⟩ := hf_1 hf
      refine inv_Si (As := [.long (Int32.toInt64 p3), .long (0 : Int64), .long (1 : Int64)]) lk_X11_84 C hw (t_Mo_within hr) hl.1 dX11_keepBy_21 rfl (Nat.le_of_ble_eq_true rfl) (by decide) (Nat.le_of_ble_eq_true rfl) rfl (fun H locs hw => ?_)
      refine lv_if_ne (tgt := 29) hx hb dX11_keepBy_24 (by decide) (fun q => ?_) (fun q => ?_)
      · have hf := hf_f q hf
        refine lv_bipush (v := -2) hx hb dX11_keepBy_29 kb_m2 ?_
        refine lv_istore (lv' := [(4, .int (-2 : Int32)), (0, .ref (ea E 44)), (1, .int p1), (2, .int p2), (3, .int p3)]) hx hb dX11_keepBy_31 hl (by decide) rfl (fun ls hl => ?_)
        refine lv_iconst (v := 0) hx hb dX11_keepBy_33 kc_0 ?_
        refine lv_istore (lv' := [(5, .int (0 : Int32)), (4, .int (-2 : Int32)), (0, .ref (ea E 44)), (1, .int p1), (2, .int p2), (3, .int p3)]) hx hb dX11_keepBy_34 hl (by decide) rfl (fun ls hl => ?_)
        exact w_Mo_keepBy_L36 C _ hf _ _ _ hw (lv_sub hl [2, 3, 4, 5, 1, 0] rfl)
      · have hf := hf_t q hf
        refine lv_iconst (v := -1) hx hb dX11_keepBy_27 kc_m1 ?_
        exact ret_i C hw dX11_keepBy_28 hf
end
theorem t_Mo_keepBy {l : Launch} {V : St} {N : Nat} {S : St} {p1 : Int32} {p2 : Int32} {p3 : Int32} {r : Int32} (hf : Mo_keepBy N S p1 p2 p3 = some r) : Ct l (wM V) yX11_keepBy cX11_keepBy 6 (some .int) 4 (fun E => [.ref (ea E 44), .int p1, .int p2, .int p3]) S (fun E => some (.int r)) S :=
  ofBlock (by decide +kernel) (fun _ => Nat.le_of_ble_eq_true rfl) (fun E p e s m args below meth c ls C hw hl => w_Mo_keepBy C hw hl hf)
theorem dX11_lightest_0 : decode cX11_lightest 0 = .ok (.aload_n 0, 1) := by decide +kernel
theorem dX11_lightest_1 : decode cX11_lightest 1 = .ok (.iload_n 1, 1) := by decide +kernel
theorem dX11_lightest_2 : decode cX11_lightest 2 = .ok (.i2l, 1) := by decide +kernel
theorem dX11_lightest_3 : decode cX11_lightest 3 = .ok (.invokevirtual 97, 3) := by decide +kernel
theorem dX11_lightest_6 : decode cX11_lightest 6 = .ok (.ifCond .eq 21, 3) := by decide +kernel
theorem dX11_lightest_9 : decode cX11_lightest 9 = .ok (.iload_n 2, 1) := by decide +kernel
theorem dX11_lightest_10 : decode cX11_lightest 10 = .ok (.i2l, 1) := by decide +kernel
theorem dX11_lightest_11 : decode cX11_lightest 11 = .ok (.invokestatic 101, 3) := by decide +kernel
theorem dX11_lightest_14 : decode cX11_lightest 14 = .ok (.ifCond .eq 13, 3) := by decide +kernel
theorem dX11_lightest_17 : decode cX11_lightest 17 = .ok (.iload_n 3, 1) := by decide +kernel
theorem dX11_lightest_18 : decode cX11_lightest 18 = .ok (.i2l, 1) := by decide +kernel
theorem dX11_lightest_19 : decode cX11_lightest 19 = .ok (.lconst 0, 1) := by decide +kernel
theorem dX11_lightest_20 : decode cX11_lightest 20 = .ok (.lconst 1, 1) := by decide +kernel
theorem dX11_lightest_21 : decode cX11_lightest 21 = .ok (.invokestatic 84, 3) := by decide +kernel
theorem dX11_lightest_24 : decode cX11_lightest 24 = .ok (.ifCond .ne 5, 3) := by decide +kernel
theorem dX11_lightest_27 : decode cX11_lightest 27 = .ok (.iconst (-1), 1) := by decide +kernel
theorem dX11_lightest_28 : decode cX11_lightest 28 = .ok (.ireturn, 1) := by decide +kernel
theorem dX11_lightest_29 : decode cX11_lightest 29 = .ok (.bipush (-2), 2) := by decide +kernel
theorem dX11_lightest_31 : decode cX11_lightest 31 = .ok (.istore 4, 2) := by decide +kernel
theorem dX11_lightest_33 : decode cX11_lightest 33 = .ok (.iconst 0, 1) := by decide +kernel
theorem dX11_lightest_34 : decode cX11_lightest 34 = .ok (.istore 5, 2) := by decide +kernel
theorem dX11_lightest_36 : decode cX11_lightest 36 = .ok (.iload 5, 2) := by decide +kernel
theorem dX11_lightest_38 : decode cX11_lightest 38 = .ok (.iconst 1, 1) := by decide +kernel
theorem dX11_lightest_39 : decode cX11_lightest 39 = .ok (.aload_n 0, 1) := by decide +kernel
theorem dX11_lightest_40 : decode cX11_lightest 40 = .ok (.getfield 88, 3) := by decide +kernel
theorem dX11_lightest_43 : decode cX11_lightest 43 = .ok (.ishl, 1) := by decide +kernel
theorem dX11_lightest_44 : decode cX11_lightest 44 = .ok (.if_icmp .ge 81, 3) := by decide +kernel
theorem dX11_lightest_47 : decode cX11_lightest 47 = .ok (.aload_n 0, 1) := by decide +kernel
theorem dX11_lightest_48 : decode cX11_lightest 48 = .ok (.iload_n 1, 1) := by decide +kernel
theorem dX11_lightest_49 : decode cX11_lightest 49 = .ok (.iload_n 2, 1) := by decide +kernel
theorem dX11_lightest_50 : decode cX11_lightest 50 = .ok (.iload 5, 2) := by decide +kernel
theorem dX11_lightest_52 : decode cX11_lightest 52 = .ok (.invokevirtual 238, 3) := by decide +kernel
theorem dX11_lightest_55 : decode cX11_lightest 55 = .ok (.ifCond .eq 64, 3) := by decide +kernel
theorem dX11_lightest_58 : decode cX11_lightest 58 = .ok (.iload 4, 2) := by decide +kernel
theorem dX11_lightest_60 : decode cX11_lightest 60 = .ok (.ifCond .ge 7, 3) := by decide +kernel
theorem dX11_lightest_63 : decode cX11_lightest 63 = .ok (.iconst 0, 1) := by decide +kernel
theorem dX11_lightest_64 : decode cX11_lightest 64 = .ok (.goto 16, 3) := by decide +kernel
theorem dX11_lightest_67 : decode cX11_lightest 67 = .ok (.aload_n 0, 1) := by decide +kernel
theorem dX11_lightest_68 : decode cX11_lightest 68 = .ok (.iload 5, 2) := by decide +kernel
theorem dX11_lightest_70 : decode cX11_lightest 70 = .ok (.invokevirtual 235, 3) := by decide +kernel
theorem dX11_lightest_73 : decode cX11_lightest 73 = .ok (.aload_n 0, 1) := by decide +kernel
theorem dX11_lightest_74 : decode cX11_lightest 74 = .ok (.iload 4, 2) := by decide +kernel
theorem dX11_lightest_76 : decode cX11_lightest 76 = .ok (.invokevirtual 235, 3) := by decide +kernel
theorem dX11_lightest_79 : decode cX11_lightest 79 = .ok (.isub, 1) := by decide +kernel
theorem dX11_lightest_80 : decode cX11_lightest 80 = .ok (.istore 6, 2) := by decide +kernel
theorem dX11_lightest_82 : decode cX11_lightest 82 = .ok (.iload 4, 2) := by decide +kernel
theorem dX11_lightest_84 : decode cX11_lightest 84 = .ok (.ifCond .lt 26, 3) := by decide +kernel
theorem dX11_lightest_87 : decode cX11_lightest 87 = .ok (.iload 6, 2) := by decide +kernel
theorem dX11_lightest_89 : decode cX11_lightest 89 = .ok (.ifCond .lt 21, 3) := by decide +kernel
theorem dX11_lightest_92 : decode cX11_lightest 92 = .ok (.iload 6, 2) := by decide +kernel
theorem dX11_lightest_94 : decode cX11_lightest 94 = .ok (.ifCond .ne 21, 3) := by decide +kernel
theorem dX11_lightest_97 : decode cX11_lightest 97 = .ok (.iload 5, 2) := by decide +kernel
theorem dX11_lightest_99 : decode cX11_lightest 99 = .ok (.invokestatic 226, 3) := by decide +kernel
theorem dX11_lightest_102 : decode cX11_lightest 102 = .ok (.iload 4, 2) := by decide +kernel
theorem dX11_lightest_104 : decode cX11_lightest 104 = .ok (.invokestatic 226, 3) := by decide +kernel
theorem dX11_lightest_107 : decode cX11_lightest 107 = .ok (.if_icmp .ge 8, 3) := by decide +kernel
theorem dX11_lightest_110 : decode cX11_lightest 110 = .ok (.iload 5, 2) := by decide +kernel
theorem dX11_lightest_112 : decode cX11_lightest 112 = .ok (.goto 5, 3) := by decide +kernel
theorem dX11_lightest_115 : decode cX11_lightest 115 = .ok (.iload 4, 2) := by decide +kernel
theorem dX11_lightest_117 : decode cX11_lightest 117 = .ok (.istore 4, 2) := by decide +kernel
theorem dX11_lightest_119 : decode cX11_lightest 119 = .ok (.iinc 5 1, 3) := by decide +kernel
theorem dX11_lightest_122 : decode cX11_lightest 122 = .ok (.goto (-86), 3) := by decide +kernel
theorem dX11_lightest_125 : decode cX11_lightest 125 = .ok (.iload 4, 2) := by decide +kernel
theorem dX11_lightest_127 : decode cX11_lightest 127 = .ok (.ifCond .lt 7, 3) := by decide +kernel
theorem dX11_lightest_130 : decode cX11_lightest 130 = .ok (.iload_n 3, 1) := by decide +kernel
theorem dX11_lightest_131 : decode cX11_lightest 131 = .ok (.ifCond .ne 8, 3) := by decide +kernel
theorem dX11_lightest_134 : decode cX11_lightest 134 = .ok (.iload 4, 2) := by decide +kernel
theorem dX11_lightest_136 : decode cX11_lightest 136 = .ok (.goto 9, 3) := by decide +kernel
theorem dX11_lightest_139 : decode cX11_lightest 139 = .ok (.aload_n 0, 1) := by decide +kernel
theorem dX11_lightest_140 : decode cX11_lightest 140 = .ok (.iload 4, 2) := by decide +kernel
theorem dX11_lightest_142 : decode cX11_lightest 142 = .ok (.invokevirtual 235, 3) := by decide +kernel
theorem dX11_lightest_145 : decode cX11_lightest 145 = .ok (.ireturn, 1) := by decide +kernel
section
variable {p : Program} {l : Launch} {e : Env} {s : State} {m : MethodId} {args : Array Value} {below : List Frame} {meth : Method} {c : Code} {H : Heap} {locs : List Loc} {E : Ev} {S V : St} {ls : Array Slot}
set_option maxRecDepth 20000 in
theorem w_Mo_lightest_b110 {N : Nat} {k36 : (Int32 × Int32) → Option Int32} {l1 : Int32} {l2 : Int32} {l3 : Int32} {l5 : Int32} {r : Int32} (C : Cx p s m args meth c E cX11_lightest 7 RX11 (some .int)) (hk36 : ∀ x, k36 x = some r → ∀ (H : Heap) (locs : List Loc) (ls : Array Slot), Wd E (wM V E) s.heap S H locs → lv_has ls 7 [(0, .ref (ea E 44)), (1, .int l1), (2, .int l2), (3, .int l3), (4, .int x.1), (5, .int x.2)] → W p l e (rmh 4) s m args below meth c H locs 0 0 (MQ below (QW E (wM V E) (some (.int r)) S) args s 0 0 (eA E)) (F0 m 36 ls [])) (hw : Wd E (wM V E) s.heap S H locs) (hl : lv_has ls 7 [(0, .ref (ea E 44)), (1, .int l1), (2, .int l2), (3, .int l3), (5, .int l5)]) (hf : Mo_lightest_b110 N k36 S l1 l2 l3 l5 = some r) : W p l e (rmh 4) s m args below meth c H locs 0 0 (MQ below (QW E (wM V E) (some (.int r)) S) args s 0 0 (eA E)) (F0 m 110 ls []) := by
  have hx := C.1
  have hb := C.2.1
  unfold Mo_lightest_b110 at hf
  refine lv_iload hx hb dX11_lightest_110 (lv_at hl 4 rfl) ?_
  refine lv_goto (tgt := 117) hx hb dX11_lightest_112 (by decide) ?_
  refine lv_istore (lv' := [(4, .int l5), (0, .ref (ea E 44)), (1, .int l1), (2, .int l2), (3, .int l3), (5, .int l5)]) hx hb dX11_lightest_117 hl (by decide) rfl (fun ls hl => ?_)
  obtain ⟨x1, ex1, hf⟩ := nme hf
  refine lv_iinc (v := x1) (lv' := [(5, .int x1), (4, .int l5), (0, .ref (ea E 44)), (1, .int l1), (2, .int l2), (3, .int l3)]) hx hb dX11_lightest_119 hl (k := 5) rfl (ki_1 ex1) (by decide) rfl (fun ls hl => ?_)
  refine lv_goto (tgt := 36) hx hb dX11_lightest_122 (by decide) ?_
  exact hk36 _ hf _ _ _ hw (lv_sub hl [2, 3, 4, 5, 1, 0] rfl)
set_option maxRecDepth 20000 in
theorem w_Mo_lightest_b80 {N : Nat} {k36 : (Int32 × Int32) → Option Int32} {l1 : Int32} {l2 : Int32} {l3 : Int32} {l4 : Int32} {l5 : Int32} {s0 : Int32} {r : Int32} (C : Cx p s m args meth c E cX11_lightest 7 RX11 (some .int)) (hk36 : ∀ x, k36 x = some r → ∀ (H : Heap) (locs : List Loc) (ls : Array Slot), Wd E (wM V E) s.heap S H locs → lv_has ls 7 [(0, .ref (ea E 44)), (1, .int l1), (2, .int l2), (3, .int l3), (4, .int x.1), (5, .int x.2)] → W p l e (rmh 4) s m args below meth c H locs 0 0 (MQ below (QW E (wM V E) (some (.int r)) S) args s 0 0 (eA E)) (F0 m 36 ls [])) (hw : Wd E (wM V E) s.heap S H locs) (hl : lv_has ls 7 [(0, .ref (ea E 44)), (1, .int l1), (2, .int l2), (3, .int l3), (4, .int l4), (5, .int l5)]) (hf : Mo_lightest_b80 N k36 S l1 l2 l3 l4 l5 s0 = some r) : W p l e (rmh 4) s m args below meth c H locs 0 0 (MQ below (QW E (wM V E) (some (.int r)) S) args s 0 0 (eA E)) (F0 m 80 ls [.int s0]) := by
  have hx := C.1
  have hb := C.2.1
  unfold Mo_lightest_b80 at hf
  refine lv_istore (lv' := [(6, .int s0), (0, .ref (ea E 44)), (1, .int l1), (2, .int l2), (3, .int l3), (4, .int l4), (5, .int l5)]) hx hb dX11_lightest_80 hl (by decide) rfl (fun ls hl => ?_)
  refine lv_iload hx hb dX11_lightest_82 (lv_at hl 5 rfl) ?_
  refine lv_if_lt (tgt := 110) hx hb dX11_lightest_84 (by decide) (fun q => ?_) (fun q => ?_)
  · have hf := hf_t q hf
    exact w_Mo_lightest_b110 C hk36 hw (lv_sub hl [1, 2, 3, 4, 6] rfl) hf
  · have hf := hf_f q hf
    refine lv_iload hx hb dX11_lightest_87 (lv_at hl 0 rfl) ?_
    refine lv_if_lt (tgt := 110) hx hb dX11_lightest_89 (by decide) (fun q => ?_) (fun q => ?_)
    · have hf := hf_t q hf
      exact w_Mo_lightest_b110 C hk36 hw (lv_sub hl [1, 2, 3, 4, 6] rfl) hf
    · have hf := hf_f q hf
      refine lv_iload hx hb dX11_lightest_92 (lv_at hl 0 rfl) ?_
      refine lv_if_ne (tgt := 115) hx hb dX11_lightest_94 (by decide) (fun q => ?_) (fun q => ?_)
      · have hf := hf_f q hf
        refine lv_iload hx hb dX11_lightest_115 (lv_at hl 5 rfl) ?_
        refine lv_istore (lv' := [(4, .int l4), (6, .int s0), (0, .ref (ea E 44)), (1, .int l1), (2, .int l2), (3, .int l3), (5, .int l5)]) hx hb dX11_lightest_117 hl (by decide) rfl (fun ls hl => ?_)
        obtain ⟨x1, ex1, hf⟩ := nme hf
        refine lv_iinc (v := x1) (lv' := [(5, .int x1), (4, .int l4), (6, .int s0), (0, .ref (ea E 44)), (1, .int l1), (2, .int l2), (3, .int l3)]) hx hb dX11_lightest_119 hl (k := 6) rfl (ki_1 ex1) (by decide) rfl (fun ls hl => ?_)
        refine lv_goto (tgt := 36) hx hb dX11_lightest_122 (by decide) ?_
        exact hk36 _ hf _ _ _ hw (lv_sub hl [3, 4, 5, 6, 1, 0] rfl)
      · have hf := hf_t q hf
        refine lv_iload hx hb dX11_lightest_97 (lv_at hl 6 rfl) ?_
        obtain ⟨r2, hr, hf⟩ := hf_1 hf
        refine inv_Si (As := [.int l5]) lk_X11_226 C hw (t_Mo_bitsOf hr) hl.1 dX11_lightest_99 rfl (Nat.le_of_ble_eq_true rfl) (by decide) (Nat.le_of_ble_eq_true rfl) rfl (fun H locs hw => ?_)
        refine lv_iload hx hb dX11_lightest_102 (lv_at hl 5 rfl) ?_
        obtain ⟨r3, hr, hf⟩ := hf_1 hf
        refine inv_Si (As := [.int l4]) lk_X11_226 C hw (t_Mo_bitsOf hr) hl.1 dX11_lightest_104 rfl (Nat.le_of_ble_eq_true rfl) (by decide) (Nat.le_of_ble_eq_true rfl) rfl (fun H locs hw => ?_)
        refine lv_icmp_ge (tgt := 115) hx hb dX11_lightest_107 (by decide) (fun q => ?_) (fun q => ?_)
        · have hf := hf_t q hf
          refine lv_iload hx hb dX11_lightest_115 (lv_at hl 5 rfl) ?_
          refine lv_istore (lv' := [(4, .int l4), (6, .int s0), (0, .ref (ea E 44)), (1, .int l1), (2, .int l2), (3, .int l3), (5, .int l5)]) hx hb dX11_lightest_117 hl (by decide) rfl (fun ls hl => ?_)
          obtain ⟨x4, ex4, hf⟩ := nme hf
          refine lv_iinc (v := x4) (lv' := [(5, .int x4), (4, .int l4), (6, .int s0), (0, .ref (ea E 44)), (1, .int l1), (2, .int l2), (3, .int l3)]) hx hb dX11_lightest_119 hl (k := 6) rfl (ki_1 ex4) (by decide) rfl (fun ls hl => ?_)
          refine lv_goto (tgt := 36) hx hb dX11_lightest_122 (by decide) ?_
          exact hk36 _ hf _ _ _ hw (lv_sub hl [3, 4, 5, 6, 1, 0] rfl)
        · have hf := hf_f q hf
          exact w_Mo_lightest_b110 C hk36 hw (lv_sub hl [1, 2, 3, 4, 6] rfl) hf
set_option maxRecDepth 20000 in
theorem w_Mo_lightest_b36 {N : Nat} {k36 : (Int32 × Int32) → Option Int32} {l1 : Int32} {l2 : Int32} {l3 : Int32} {l4 : Int32} {l5 : Int32} {r : Int32} (C : Cx p s m args meth c E cX11_lightest 7 RX11 (some .int)) (hk36 : ∀ x, k36 x = some r → ∀ (H : Heap) (locs : List Loc) (ls : Array Slot), Wd E (wM V E) s.heap S H locs → lv_has ls 7 [(0, .ref (ea E 44)), (1, .int l1), (2, .int l2), (3, .int l3), (4, .int x.1), (5, .int x.2)] → W p l e (rmh 4) s m args below meth c H locs 0 0 (MQ below (QW E (wM V E) (some (.int r)) S) args s 0 0 (eA E)) (F0 m 36 ls [])) (hw : Wd E (wM V E) s.heap S H locs) (hl : lv_has ls 7 [(0, .ref (ea E 44)), (1, .int l1), (2, .int l2), (3, .int l3), (4, .int l4), (5, .int l5)]) (hf : Mo_lightest_b36 N k36 S l1 l2 l3 l4 l5 = some r) : W p l e (rmh 4) s m args below meth c H locs 0 0 (MQ below (QW E (wM V E) (some (.int r)) S) args s 0 0 (eA E)) (F0 m 36 ls []) := by
  have hx := C.1
  have hb := C.2.1
  unfold Mo_lightest_b36 at hf
  refine lv_iload hx hb dX11_lightest_36 (lv_at hl 5 rfl) ?_
  refine lv_iconst (v := 1) hx hb dX11_lightest_38 kc_1 ?_
  refine lv_aload_n hx hb dX11_lightest_39 rfl (lv_at hl 0 rfl) ?_
  refine get_44_7 C hw q_1158 dX11_lightest_40 ?_
  refine lv_ishl hx hb dX11_lightest_43 ?_
  refine lv_icmp_ge (tgt := 125) hx hb dX11_lightest_44 (by decide) (fun q => ?_) (fun q => ?_)
  · have hf := hf_t q hf
    refine lv_iload hx hb dX11_lightest_125 (lv_at hl 4 rfl) ?_
    refine lv_if_lt (tgt := 134) hx hb dX11_lightest_127 (by decide) (fun q => ?_) (fun q => ?_)
    · have hf := hf_t q hf
      refine lv_iload hx hb dX11_lightest_134 (lv_at hl 4 rfl) ?_
      refine lv_goto (tgt := 145) hx hb dX11_lightest_136 (by decide) ?_
      exact ret_i C hw dX11_lightest_145 hf
    · have hf := hf_f q hf
      refine lv_iload_n hx hb dX11_lightest_130 rfl (lv_at hl 3 rfl) ?_
      refine lv_if_ne (tgt := 139) hx hb dX11_lightest_131 (by decide) (fun q => ?_) (fun q => ?_)
      · have hf := hf_f q hf
        refine lv_aload_n hx hb dX11_lightest_139 rfl (lv_at hl 0 rfl) ?_
        refine lv_iload hx hb dX11_lightest_140 (lv_at hl 4 rfl) ?_
        obtain ⟨r1, hr, hf⟩ := hf_1 hf
        refine inv_Vi (q0 := 44) (ci := 11) (As := [.int l4]) lk_X11_235 C hw rfl rfl rfl (t_Mo_linksOf hr) rfl hl.1 dX11_lightest_142 rfl (Nat.le_of_ble_eq_true rfl) (by decide) (Nat.le_of_ble_eq_true rfl) rfl (fun H locs hw => ?_)
        exact ret_i C hw dX11_lightest_145 hf
      · have hf := hf_t q hf
        refine lv_iload hx hb dX11_lightest_134 (lv_at hl 4 rfl) ?_
        refine lv_goto (tgt := 145) hx hb dX11_lightest_136 (by decide) ?_
        exact ret_i C hw dX11_lightest_145 hf
  · have hf := hf_f q hf
    refine lv_aload_n hx hb dX11_lightest_47 rfl (lv_at hl 0 rfl) ?_
    refine lv_iload_n hx hb dX11_lightest_48 rfl (lv_at hl 1 rfl) ?_
    refine lv_iload_n hx hb dX11_lightest_49 rfl (lv_at hl 2 rfl) ?_
    refine lv_iload hx hb dX11_lightest_50 (lv_at hl 5 rfl) ?_
    obtain ⟨r2, hr, hf⟩ := hf_1 hf
    refine inv_Vi (q0 := 44) (ci := 11) (As := [.int l1, .int l2, .int l5]) lk_X11_238 C hw rfl rfl rfl (t_Mo_lets hr) rfl hl.1 dX11_lightest_52 rfl (Nat.le_of_ble_eq_true rfl) (by decide) (Nat.le_of_ble_eq_true rfl) rfl (fun H locs hw => ?_)
    refine lv_if_eq (tgt := 119) hx hb dX11_lightest_55 (by decide) (fun q => ?_) (fun q => ?_)
    · have hf := hf_t q hf
      obtain ⟨x3, ex3, hf⟩ := nme hf
      refine lv_iinc (v := x3) (lv' := [(5, .int x3), (0, .ref (ea E 44)), (1, .int l1), (2, .int l2), (3, .int l3), (4, .int l4)]) hx hb dX11_lightest_119 hl (k := 5) rfl (ki_1 ex3) (by decide) rfl (fun ls hl => ?_)
      refine lv_goto (tgt := 36) hx hb dX11_lightest_122 (by decide) ?_
      exact hk36 _ hf _ _ _ hw (lv_sub hl [1, 2, 3, 4, 5, 0] rfl)
    · have hf := hf_f q hf
      refine lv_iload hx hb dX11_lightest_58 (lv_at hl 4 rfl) ?_
      refine lv_if_ge (tgt := 67) hx hb dX11_lightest_60 (by decide) (fun q => ?_) (fun q => ?_)
      · have hf := hf_t q hf
        refine lv_aload_n hx hb dX11_lightest_67 rfl (lv_at hl 0 rfl) ?_
        refine lv_iload hx hb dX11_lightest_68 (lv_at hl 5 rfl) ?_
        obtain ⟨r4, hr, hf⟩ := hf_1 hf
        refine inv_Vi (q0 := 44) (ci := 11) (As := [.int l5]) lk_X11_235 C hw rfl rfl rfl (t_Mo_linksOf hr) rfl hl.1 dX11_lightest_70 rfl (Nat.le_of_ble_eq_true rfl) (by decide) (Nat.le_of_ble_eq_true rfl) rfl (fun H locs hw => ?_)
        refine lv_aload_n hx hb dX11_lightest_73 rfl (lv_at hl 0 rfl) ?_
        refine lv_iload hx hb dX11_lightest_74 (lv_at hl 4 rfl) ?_
        obtain ⟨r5, hr, hf⟩ := hf_1 hf
        refine inv_Vi (q0 := 44) (ci := 11) (As := [.int l4]) lk_X11_235 C hw rfl rfl rfl (t_Mo_linksOf hr) rfl hl.1 dX11_lightest_76 rfl (Nat.le_of_ble_eq_true rfl) (by decide) (Nat.le_of_ble_eq_true rfl) rfl (fun H locs hw => ?_)
        refine lv_isub hx hb dX11_lightest_79 ?_
        exact w_Mo_lightest_b80 C hk36 hw (lv_sub hl [0, 1, 2, 3, 4, 5] rfl) hf
      · have hf := hf_f q hf
        refine lv_iconst (v := 0) hx hb dX11_lightest_63 kc_0 ?_
        refine lv_goto (tgt := 80) hx hb dX11_lightest_64 (by decide) ?_
        exact w_Mo_lightest_b80 C hk36 hw (lv_sub hl [0, 1, 2, 3, 4, 5] rfl) hf
theorem w_Mo_lightest_L36 {N : Nat} {l1 : Int32} {l2 : Int32} {l3 : Int32} {r : Int32} (C : Cx p s m args meth c E cX11_lightest 7 RX11 (some .int)) : ∀ x, Mo_lightest_L36 N S l1 l2 l3 x = some r → ∀ (H : Heap) (locs : List Loc) (ls : Array Slot), Wd E (wM V E) s.heap S H locs → lv_has ls 7 [(0, .ref (ea E 44)), (1, .int l1), (2, .int l2), (3, .int l3), (4, .int x.1), (5, .int x.2)] → W p l e (rmh 4) s m args below meth c H locs 0 0 (MQ below (QW E (wM V E) (some (.int r)) S) args s 0 0 (eA E)) (F0 m 36 ls []) :=
  lp_W (fun k x hk hf H locs ls hw hl => w_Mo_lightest_b36 C hk hw hl hf) N
set_option maxRecDepth 20000 in
theorem w_Mo_lightest {N : Nat} {p1 : Int32} {p2 : Int32} {p3 : Int32} {r : Int32} (C : Cx p s m args meth c E cX11_lightest 7 RX11 (some .int)) (hw : Wd E (wM V E) s.heap S H locs) (hl : lv_has ls 7 [(0, .ref (ea E 44)), (1, .int p1), (2, .int p2), (3, .int p3)]) (hf : Mo_lightest N S p1 p2 p3 = some r) : W p l e (rmh 4) s m args below meth c H locs 0 0 (MQ below (QW E (wM V E) (some (.int r)) S) args s 0 0 (eA E)) (F0 m 0 ls []) := by
  have hx := C.1
  have hb := C.2.1
  unfold Mo_lightest at hf
  refine lv_aload_n hx hb dX11_lightest_0 rfl (lv_at hl 0 rfl) ?_
  refine lv_iload_n hx hb dX11_lightest_1 rfl (lv_at hl 1 rfl) ?_
  refine lv_i2l hx hb dX11_lightest_2 rfl ?_
  obtain ⟨r1, hr, hf⟩ := hf_1 hf
  refine inv_Vi (q0 := 44) (ci := 11) (As := [.long (Int32.toInt64 p1)]) lk_X11_97 C hw rfl rfl rfl (t_Mo_isOne hr) rfl hl.1 dX11_lightest_3 rfl (Nat.le_of_ble_eq_true rfl) (by decide) (Nat.le_of_ble_eq_true rfl) rfl (fun H locs hw => ?_)
  refine lv_if_eq (tgt := 27) hx hb dX11_lightest_6 (by decide) (fun q => ?_) (fun q => ?_)
  · have hf := hf_t q hf
    refine lv_iconst (v := -1) hx hb dX11_lightest_27 kc_m1 ?_
    exact ret_i C hw dX11_lightest_28 hf
  · have hf := hf_f q hf
    refine lv_iload_n hx hb dX11_lightest_9 rfl (lv_at hl 2 rfl) ?_
    refine lv_i2l hx hb dX11_lightest_10 rfl ?_
    obtain ⟨r2, hr, hf⟩ := hf_1 hf
    refine inv_Si (As := [.long (Int32.toInt64 p2)]) lk_X11_101 C hw (t_Mo_isDay hr) hl.1 dX11_lightest_11 rfl (Nat.le_of_ble_eq_true rfl) (by decide) (Nat.le_of_ble_eq_true rfl) rfl (fun H locs hw => ?_)
    refine lv_if_eq (tgt := 27) hx hb dX11_lightest_14 (by decide) (fun q => ?_) (fun q => ?_)
    · have hf := hf_t q hf
      refine lv_iconst (v := -1) hx hb dX11_lightest_27 kc_m1 ?_
      exact ret_i C hw dX11_lightest_28 hf
    · have hf := hf_f q hf
      refine lv_iload_n hx hb dX11_lightest_17 rfl (lv_at hl 3 rfl) ?_
      refine lv_i2l hx hb dX11_lightest_18 rfl ?_
      refine lv_lconst (v := 0) hx hb dX11_lightest_19 rfl ?_
      refine lv_lconst (v := 1) hx hb dX11_lightest_20 rfl ?_
      obtain ⟨r3, hr, hf⟩ := hf_1 hf
      refine inv_Si (As := [.long (Int32.toInt64 p3), .long (0 : Int64), .long (1 : Int64)]) lk_X11_84 C hw (t_Mo_within hr) hl.1 dX11_lightest_21 rfl (Nat.le_of_ble_eq_true rfl) (by decide) (Nat.le_of_ble_eq_true rfl) rfl (fun H locs hw => ?_)
      refine lv_if_ne (tgt := 29) hx hb dX11_lightest_24 (by decide) (fun q => ?_) (fun q => ?_)
      · have hf := hf_f q hf
        refine lv_bipush (v := -2) hx hb dX11_lightest_29 kb_m2 ?_
        refine lv_istore (lv' := [(4, .int (-2 : Int32)), (0, .ref (ea E 44)), (1, .int p1), (2, .int p2), (3, .int p3)]) hx hb dX11_lightest_31 hl (by decide) rfl (fun ls hl => ?_)
        refine lv_iconst (v := 0) hx hb dX11_lightest_33 kc_0 ?_
        refine lv_istore (lv' := [(5, .int (0 : Int32)), (4, .int (-2 : Int32)), (0, .ref (ea E 44)), (1, .int p1), (2, .int p2), (3, .int p3)]) hx hb dX11_lightest_34 hl (by decide) rfl (fun ls hl => ?_)
        exact w_Mo_lightest_L36 C _ hf _ _ _ hw (lv_sub hl [2, 3, 4, 5, 1, 0] rfl)
      · have hf := hf_t q hf
        refine lv_iconst (v := -1) hx hb dX11_lightest_27 kc_m1 ?_
        exact ret_i C hw dX11_lightest_28 hf
end
theorem t_Mo_lightest {l : Launch} {V : St} {N : Nat} {S : St} {p1 : Int32} {p2 : Int32} {p3 : Int32} {r : Int32} (hf : Mo_lightest N S p1 p2 p3 = some r) : Ct l (wM V) yX11_lightest cX11_lightest 7 (some .int) 4 (fun E => [.ref (ea E 44), .int p1, .int p2, .int p3]) S (fun E => some (.int r)) S :=
  ofBlock (by decide +kernel) (fun _ => Nat.le_of_ble_eq_true rfl) (fun E p e s m args below meth c ls C hw hl => w_Mo_lightest C hw hl hf)
theorem dX11_ways_0 : decode cX11_ways 0 = .ok (.aload_n 0, 1) := by decide +kernel
theorem dX11_ways_1 : decode cX11_ways 1 = .ok (.iload_n 1, 1) := by decide +kernel
theorem dX11_ways_2 : decode cX11_ways 2 = .ok (.i2l, 1) := by decide +kernel
theorem dX11_ways_3 : decode cX11_ways 3 = .ok (.invokevirtual 97, 3) := by decide +kernel
theorem dX11_ways_6 : decode cX11_ways 6 = .ok (.ifCond .eq 11, 3) := by decide +kernel
theorem dX11_ways_9 : decode cX11_ways 9 = .ok (.iload_n 2, 1) := by decide +kernel
theorem dX11_ways_10 : decode cX11_ways 10 = .ok (.i2l, 1) := by decide +kernel
theorem dX11_ways_11 : decode cX11_ways 11 = .ok (.invokestatic 101, 3) := by decide +kernel
theorem dX11_ways_14 : decode cX11_ways 14 = .ok (.ifCond .ne 5, 3) := by decide +kernel
theorem dX11_ways_17 : decode cX11_ways 17 = .ok (.iconst (-1), 1) := by decide +kernel
theorem dX11_ways_18 : decode cX11_ways 18 = .ok (.ireturn, 1) := by decide +kernel
theorem dX11_ways_19 : decode cX11_ways 19 = .ok (.iconst 0, 1) := by decide +kernel
theorem dX11_ways_20 : decode cX11_ways 20 = .ok (.istore_n 3, 1) := by decide +kernel
theorem dX11_ways_21 : decode cX11_ways 21 = .ok (.iconst 0, 1) := by decide +kernel
theorem dX11_ways_22 : decode cX11_ways 22 = .ok (.istore 4, 2) := by decide +kernel
theorem dX11_ways_24 : decode cX11_ways 24 = .ok (.iload 4, 2) := by decide +kernel
theorem dX11_ways_26 : decode cX11_ways 26 = .ok (.iconst 1, 1) := by decide +kernel
theorem dX11_ways_27 : decode cX11_ways 27 = .ok (.aload_n 0, 1) := by decide +kernel
theorem dX11_ways_28 : decode cX11_ways 28 = .ok (.getfield 88, 3) := by decide +kernel
theorem dX11_ways_31 : decode cX11_ways 31 = .ok (.ishl, 1) := by decide +kernel
theorem dX11_ways_32 : decode cX11_ways 32 = .ok (.if_icmp .ge 28, 3) := by decide +kernel
theorem dX11_ways_35 : decode cX11_ways 35 = .ok (.iload_n 3, 1) := by decide +kernel
theorem dX11_ways_36 : decode cX11_ways 36 = .ok (.aload_n 0, 1) := by decide +kernel
theorem dX11_ways_37 : decode cX11_ways 37 = .ok (.iload_n 1, 1) := by decide +kernel
theorem dX11_ways_38 : decode cX11_ways 38 = .ok (.iload_n 2, 1) := by decide +kernel
theorem dX11_ways_39 : decode cX11_ways 39 = .ok (.iload 4, 2) := by decide +kernel
theorem dX11_ways_41 : decode cX11_ways 41 = .ok (.invokevirtual 238, 3) := by decide +kernel
theorem dX11_ways_44 : decode cX11_ways 44 = .ok (.ifCond .eq 7, 3) := by decide +kernel
theorem dX11_ways_47 : decode cX11_ways 47 = .ok (.iconst 1, 1) := by decide +kernel
theorem dX11_ways_48 : decode cX11_ways 48 = .ok (.goto 4, 3) := by decide +kernel
theorem dX11_ways_51 : decode cX11_ways 51 = .ok (.iconst 0, 1) := by decide +kernel
theorem dX11_ways_52 : decode cX11_ways 52 = .ok (.iadd, 1) := by decide +kernel
theorem dX11_ways_53 : decode cX11_ways 53 = .ok (.istore_n 3, 1) := by decide +kernel
theorem dX11_ways_54 : decode cX11_ways 54 = .ok (.iinc 4 1, 3) := by decide +kernel
theorem dX11_ways_57 : decode cX11_ways 57 = .ok (.goto (-33), 3) := by decide +kernel
theorem dX11_ways_60 : decode cX11_ways 60 = .ok (.iload_n 3, 1) := by decide +kernel
theorem dX11_ways_61 : decode cX11_ways 61 = .ok (.ireturn, 1) := by decide +kernel
section
variable {p : Program} {l : Launch} {e : Env} {s : State} {m : MethodId} {args : Array Value} {below : List Frame} {meth : Method} {c : Code} {H : Heap} {locs : List Loc} {E : Ev} {S V : St} {ls : Array Slot}
set_option maxRecDepth 20000 in
theorem w_Mo_ways_b24 {N : Nat} {k24 : (Int32 × Int32) → Option Int32} {l1 : Int32} {l2 : Int32} {l3 : Int32} {l4 : Int32} {r : Int32} (C : Cx p s m args meth c E cX11_ways 5 RX11 (some .int)) (hk24 : ∀ x, k24 x = some r → ∀ (H : Heap) (locs : List Loc) (ls : Array Slot), Wd E (wM V E) s.heap S H locs → lv_has ls 5 [(0, .ref (ea E 44)), (1, .int l1), (2, .int l2), (3, .int x.1), (4, .int x.2)] → W p l e (rmh 4) s m args below meth c H locs 0 0 (MQ below (QW E (wM V E) (some (.int r)) S) args s 0 0 (eA E)) (F0 m 24 ls [])) (hw : Wd E (wM V E) s.heap S H locs) (hl : lv_has ls 5 [(0, .ref (ea E 44)), (1, .int l1), (2, .int l2), (3, .int l3), (4, .int l4)]) (hf : Mo_ways_b24 N k24 S l1 l2 l3 l4 = some r) : W p l e (rmh 4) s m args below meth c H locs 0 0 (MQ below (QW E (wM V E) (some (.int r)) S) args s 0 0 (eA E)) (F0 m 24 ls []) := by
  have hx := C.1
  have hb := C.2.1
  unfold Mo_ways_b24 at hf
  refine lv_iload hx hb dX11_ways_24 (lv_at hl 4 rfl) ?_
  refine lv_iconst (v := 1) hx hb dX11_ways_26 kc_1 ?_
  refine lv_aload_n hx hb dX11_ways_27 rfl (lv_at hl 0 rfl) ?_
  refine get_44_7 C hw q_1158 dX11_ways_28 ?_
  refine lv_ishl hx hb dX11_ways_31 ?_
  refine lv_icmp_ge (tgt := 60) hx hb dX11_ways_32 (by decide) (fun q => ?_) (fun q => ?_)
  · have hf := hf_t q hf
    refine lv_iload_n hx hb dX11_ways_60 rfl (lv_at hl 3 rfl) ?_
    exact ret_i C hw dX11_ways_61 hf
  · have hf := hf_f q hf
    refine lv_iload_n hx hb dX11_ways_35 rfl (lv_at hl 3 rfl) ?_
    refine lv_aload_n hx hb dX11_ways_36 rfl (lv_at hl 0 rfl) ?_
    refine lv_iload_n hx hb dX11_ways_37 rfl (lv_at hl 1 rfl) ?_
    refine lv_iload_n hx hb dX11_ways_38 rfl (lv_at hl 2 rfl) ?_
    refine lv_iload hx hb dX11_ways_39 (lv_at hl 4 rfl) ?_
    obtain ⟨r1, hr, hf⟩ := hf_1 hf
    refine inv_Vi (q0 := 44) (ci := 11) (As := [.int l1, .int l2, .int l4]) lk_X11_238 C hw rfl rfl rfl (t_Mo_lets hr) rfl hl.1 dX11_ways_41 rfl (Nat.le_of_ble_eq_true rfl) (by decide) (Nat.le_of_ble_eq_true rfl) rfl (fun H locs hw => ?_)
    refine lv_if_eq (tgt := 51) hx hb dX11_ways_44 (by decide) (fun q => ?_) (fun q => ?_)
    · have hf := hf_t q hf
      refine lv_iconst (v := 0) hx hb dX11_ways_51 kc_0 ?_
      refine lv_iadd hx hb dX11_ways_52 ?_
      refine nm_i hf (fun x2 hf => ?_)
      refine lv_istore_n (lv' := [(3, .int x2), (0, .ref (ea E 44)), (1, .int l1), (2, .int l2), (4, .int l4)]) hx hb dX11_ways_53 rfl hl (by decide) rfl (fun ls hl => ?_)
      obtain ⟨x3, ex3, hf⟩ := nme hf
      refine lv_iinc (v := x3) (lv' := [(4, .int x3), (3, .int x2), (0, .ref (ea E 44)), (1, .int l1), (2, .int l2)]) hx hb dX11_ways_54 hl (k := 4) rfl (ki_1 ex3) (by decide) rfl (fun ls hl => ?_)
      refine lv_goto (tgt := 24) hx hb dX11_ways_57 (by decide) ?_
      exact hk24 _ hf _ _ _ hw (lv_sub hl [2, 3, 4, 1, 0] rfl)
    · have hf := hf_f q hf
      refine lv_iconst (v := 1) hx hb dX11_ways_47 kc_1 ?_
      refine lv_goto (tgt := 52) hx hb dX11_ways_48 (by decide) ?_
      refine lv_iadd hx hb dX11_ways_52 ?_
      refine nm_i hf (fun x4 hf => ?_)
      refine lv_istore_n (lv' := [(3, .int x4), (0, .ref (ea E 44)), (1, .int l1), (2, .int l2), (4, .int l4)]) hx hb dX11_ways_53 rfl hl (by decide) rfl (fun ls hl => ?_)
      obtain ⟨x5, ex5, hf⟩ := nme hf
      refine lv_iinc (v := x5) (lv' := [(4, .int x5), (3, .int x4), (0, .ref (ea E 44)), (1, .int l1), (2, .int l2)]) hx hb dX11_ways_54 hl (k := 4) rfl (ki_1 ex5) (by decide) rfl (fun ls hl => ?_)
      refine lv_goto (tgt := 24) hx hb dX11_ways_57 (by decide) ?_
      exact hk24 _ hf _ _ _ hw (lv_sub hl [2, 3, 4, 1, 0] rfl)
theorem w_Mo_ways_L24 {N : Nat} {l1 : Int32} {l2 : Int32} {r : Int32} (C : Cx p s m args meth c E cX11_ways 5 RX11 (some .int)) : ∀ x, Mo_ways_L24 N S l1 l2 x = some r → ∀ (H : Heap) (locs : List Loc) (ls : Array Slot), Wd E (wM V E) s.heap S H locs → lv_has ls 5 [(0, .ref (ea E 44)), (1, .int l1), (2, .int l2), (3, .int x.1), (4, .int x.2)] → W p l e (rmh 4) s m args below meth c H locs 0 0 (MQ below (QW E (wM V E) (some (.int r)) S) args s 0 0 (eA E)) (F0 m 24 ls []) :=
  lp_W (fun k x hk hf H locs ls hw hl => w_Mo_ways_b24 C hk hw hl hf) N
set_option maxRecDepth 20000 in
theorem w_Mo_ways {N : Nat} {p1 : Int32} {p2 : Int32} {r : Int32} (C : Cx p s m args meth c E cX11_ways 5 RX11 (some .int)) (hw : Wd E (wM V E) s.heap S H locs) (hl : lv_has ls 5 [(0, .ref (ea E 44)), (1, .int p1), (2, .int p2)]) (hf : Mo_ways N S p1 p2 = some r) : W p l e (rmh 4) s m args below meth c H locs 0 0 (MQ below (QW E (wM V E) (some (.int r)) S) args s 0 0 (eA E)) (F0 m 0 ls []) := by
  have hx := C.1
  have hb := C.2.1
  unfold Mo_ways at hf
  refine lv_aload_n hx hb dX11_ways_0 rfl (lv_at hl 0 rfl) ?_
  refine lv_iload_n hx hb dX11_ways_1 rfl (lv_at hl 1 rfl) ?_
  refine lv_i2l hx hb dX11_ways_2 rfl ?_
  obtain ⟨r1, hr, hf⟩ := hf_1 hf
  refine inv_Vi (q0 := 44) (ci := 11) (As := [.long (Int32.toInt64 p1)]) lk_X11_97 C hw rfl rfl rfl (t_Mo_isOne hr) rfl hl.1 dX11_ways_3 rfl (Nat.le_of_ble_eq_true rfl) (by decide) (Nat.le_of_ble_eq_true rfl) rfl (fun H locs hw => ?_)
  refine lv_if_eq (tgt := 17) hx hb dX11_ways_6 (by decide) (fun q => ?_) (fun q => ?_)
  · have hf := hf_t q hf
    refine lv_iconst (v := -1) hx hb dX11_ways_17 kc_m1 ?_
    exact ret_i C hw dX11_ways_18 hf
  · have hf := hf_f q hf
    refine lv_iload_n hx hb dX11_ways_9 rfl (lv_at hl 2 rfl) ?_
    refine lv_i2l hx hb dX11_ways_10 rfl ?_
    obtain ⟨r2, hr, hf⟩ := hf_1 hf
    refine inv_Si (As := [.long (Int32.toInt64 p2)]) lk_X11_101 C hw (t_Mo_isDay hr) hl.1 dX11_ways_11 rfl (Nat.le_of_ble_eq_true rfl) (by decide) (Nat.le_of_ble_eq_true rfl) rfl (fun H locs hw => ?_)
    refine lv_if_ne (tgt := 19) hx hb dX11_ways_14 (by decide) (fun q => ?_) (fun q => ?_)
    · have hf := hf_f q hf
      refine lv_iconst (v := 0) hx hb dX11_ways_19 kc_0 ?_
      refine lv_istore_n (lv' := [(3, .int (0 : Int32)), (0, .ref (ea E 44)), (1, .int p1), (2, .int p2)]) hx hb dX11_ways_20 rfl hl (by decide) rfl (fun ls hl => ?_)
      refine lv_iconst (v := 0) hx hb dX11_ways_21 kc_0 ?_
      refine lv_istore (lv' := [(4, .int (0 : Int32)), (3, .int (0 : Int32)), (0, .ref (ea E 44)), (1, .int p1), (2, .int p2)]) hx hb dX11_ways_22 hl (by decide) rfl (fun ls hl => ?_)
      exact w_Mo_ways_L24 C _ hf _ _ _ hw (lv_sub hl [2, 3, 4, 1, 0] rfl)
    · have hf := hf_t q hf
      refine lv_iconst (v := -1) hx hb dX11_ways_17 kc_m1 ?_
      exact ret_i C hw dX11_ways_18 hf
end
theorem t_Mo_ways {l : Launch} {V : St} {N : Nat} {S : St} {p1 : Int32} {p2 : Int32} {r : Int32} (hf : Mo_ways N S p1 p2 = some r) : Ct l (wM V) yX11_ways cX11_ways 5 (some .int) 4 (fun E => [.ref (ea E 44), .int p1, .int p2]) S (fun E => some (.int r)) S :=
  ofBlock (by decide +kernel) (fun _ => Nat.le_of_ble_eq_true rfl) (fun E p e s m args below meth c ls C hw hl => w_Mo_ways C hw hl hf)
theorem dX11_areAbleTo_0 : decode cX11_areAbleTo 0 = .ok (.iconst 0, 1) := by decide +kernel
theorem dX11_areAbleTo_1 : decode cX11_areAbleTo 1 = .ok (.istore_n 2, 1) := by decide +kernel
theorem dX11_areAbleTo_2 : decode cX11_areAbleTo 2 = .ok (.iload_n 2, 1) := by decide +kernel
theorem dX11_areAbleTo_3 : decode cX11_areAbleTo 3 = .ok (.aload_n 0, 1) := by decide +kernel
theorem dX11_areAbleTo_4 : decode cX11_areAbleTo 4 = .ok (.getfield 88, 3) := by decide +kernel
theorem dX11_areAbleTo_7 : decode cX11_areAbleTo 7 = .ok (.if_icmp .ge 36, 3) := by decide +kernel
theorem dX11_areAbleTo_10 : decode cX11_areAbleTo 10 = .ok (.aload_n 0, 1) := by decide +kernel
theorem dX11_areAbleTo_11 : decode cX11_areAbleTo 11 = .ok (.getfield 37, 3) := by decide +kernel
theorem dX11_areAbleTo_14 : decode cX11_areAbleTo 14 = .ok (.iload_n 2, 1) := by decide +kernel
theorem dX11_areAbleTo_15 : decode cX11_areAbleTo 15 = .ok (.iload_n 1, 1) := by decide +kernel
theorem dX11_areAbleTo_16 : decode cX11_areAbleTo 16 = .ok (.iload_n 2, 1) := by decide +kernel
theorem dX11_areAbleTo_17 : decode cX11_areAbleTo 17 = .ok (.invokestatic 229, 3) := by decide +kernel
theorem dX11_areAbleTo_20 : decode cX11_areAbleTo 20 = .ok (.ifCond .eq 15, 3) := by decide +kernel
theorem dX11_areAbleTo_23 : decode cX11_areAbleTo 23 = .ok (.aload_n 0, 1) := by decide +kernel
theorem dX11_areAbleTo_24 : decode cX11_areAbleTo 24 = .ok (.getfield 9, 3) := by decide +kernel
theorem dX11_areAbleTo_27 : decode cX11_areAbleTo 27 = .ok (.bipush 28, 2) := by decide +kernel
theorem dX11_areAbleTo_29 : decode cX11_areAbleTo 29 = .ok (.iload_n 2, 1) := by decide +kernel
theorem dX11_areAbleTo_30 : decode cX11_areAbleTo 30 = .ok (.iadd, 1) := by decide +kernel
theorem dX11_areAbleTo_31 : decode cX11_areAbleTo 31 = .ok (.iaload, 1) := by decide +kernel
theorem dX11_areAbleTo_32 : decode cX11_areAbleTo 32 = .ok (.goto 4, 3) := by decide +kernel
theorem dX11_areAbleTo_35 : decode cX11_areAbleTo 35 = .ok (.iconst 0, 1) := by decide +kernel
theorem dX11_areAbleTo_36 : decode cX11_areAbleTo 36 = .ok (.iastore, 1) := by decide +kernel
theorem dX11_areAbleTo_37 : decode cX11_areAbleTo 37 = .ok (.iinc 2 1, 3) := by decide +kernel
theorem dX11_areAbleTo_40 : decode cX11_areAbleTo 40 = .ok (.goto (-38), 3) := by decide +kernel
theorem dX11_areAbleTo_43 : decode cX11_areAbleTo 43 = .ok (.iconst 0, 1) := by decide +kernel
theorem dX11_areAbleTo_44 : decode cX11_areAbleTo 44 = .ok (.istore_n 2, 1) := by decide +kernel
theorem dX11_areAbleTo_45 : decode cX11_areAbleTo 45 = .ok (.iload_n 2, 1) := by decide +kernel
theorem dX11_areAbleTo_46 : decode cX11_areAbleTo 46 = .ok (.bipush 99, 2) := by decide +kernel
theorem dX11_areAbleTo_48 : decode cX11_areAbleTo 48 = .ok (.if_icmp .gt 112, 3) := by decide +kernel
theorem dX11_areAbleTo_51 : decode cX11_areAbleTo 51 = .ok (.iconst (-1), 1) := by decide +kernel
theorem dX11_areAbleTo_52 : decode cX11_areAbleTo 52 = .ok (.istore_n 3, 1) := by decide +kernel
theorem dX11_areAbleTo_53 : decode cX11_areAbleTo 53 = .ok (.iconst 0, 1) := by decide +kernel
theorem dX11_areAbleTo_54 : decode cX11_areAbleTo 54 = .ok (.istore 4, 2) := by decide +kernel
theorem dX11_areAbleTo_56 : decode cX11_areAbleTo 56 = .ok (.iload 4, 2) := by decide +kernel
theorem dX11_areAbleTo_58 : decode cX11_areAbleTo 58 = .ok (.aload_n 0, 1) := by decide +kernel
theorem dX11_areAbleTo_59 : decode cX11_areAbleTo 59 = .ok (.getfield 88, 3) := by decide +kernel
theorem dX11_areAbleTo_62 : decode cX11_areAbleTo 62 = .ok (.if_icmp .ge 59, 3) := by decide +kernel
theorem dX11_areAbleTo_65 : decode cX11_areAbleTo 65 = .ok (.aload_n 0, 1) := by decide +kernel
theorem dX11_areAbleTo_66 : decode cX11_areAbleTo 66 = .ok (.getfield 37, 3) := by decide +kernel
theorem dX11_areAbleTo_69 : decode cX11_areAbleTo 69 = .ok (.iload 4, 2) := by decide +kernel
theorem dX11_areAbleTo_71 : decode cX11_areAbleTo 71 = .ok (.iaload, 1) := by decide +kernel
theorem dX11_areAbleTo_72 : decode cX11_areAbleTo 72 = .ok (.ifCond .le 43, 3) := by decide +kernel
theorem dX11_areAbleTo_75 : decode cX11_areAbleTo 75 = .ok (.aload_n 0, 1) := by decide +kernel
theorem dX11_areAbleTo_76 : decode cX11_areAbleTo 76 = .ok (.getfield 25, 3) := by decide +kernel
theorem dX11_areAbleTo_79 : decode cX11_areAbleTo 79 = .ok (.iload 4, 2) := by decide +kernel
theorem dX11_areAbleTo_81 : decode cX11_areAbleTo 81 = .ok (.iaload, 1) := by decide +kernel
theorem dX11_areAbleTo_82 : decode cX11_areAbleTo 82 = .ok (.iload_n 2, 1) := by decide +kernel
theorem dX11_areAbleTo_83 : decode cX11_areAbleTo 83 = .ok (.if_icmp .gt 32, 3) := by decide +kernel
theorem dX11_areAbleTo_86 : decode cX11_areAbleTo 86 = .ok (.iload_n 3, 1) := by decide +kernel
theorem dX11_areAbleTo_87 : decode cX11_areAbleTo 87 = .ok (.ifCond .lt 25, 3) := by decide +kernel
theorem dX11_areAbleTo_90 : decode cX11_areAbleTo 90 = .ok (.aload_n 0, 1) := by decide +kernel
theorem dX11_areAbleTo_91 : decode cX11_areAbleTo 91 = .ok (.getfield 9, 3) := by decide +kernel
theorem dX11_areAbleTo_94 : decode cX11_areAbleTo 94 = .ok (.bipush 18, 2) := by decide +kernel
theorem dX11_areAbleTo_96 : decode cX11_areAbleTo 96 = .ok (.iload 4, 2) := by decide +kernel
theorem dX11_areAbleTo_98 : decode cX11_areAbleTo 98 = .ok (.iadd, 1) := by decide +kernel
theorem dX11_areAbleTo_99 : decode cX11_areAbleTo 99 = .ok (.iaload, 1) := by decide +kernel
theorem dX11_areAbleTo_100 : decode cX11_areAbleTo 100 = .ok (.aload_n 0, 1) := by decide +kernel
theorem dX11_areAbleTo_101 : decode cX11_areAbleTo 101 = .ok (.getfield 9, 3) := by decide +kernel
theorem dX11_areAbleTo_104 : decode cX11_areAbleTo 104 = .ok (.bipush 18, 2) := by decide +kernel
theorem dX11_areAbleTo_106 : decode cX11_areAbleTo 106 = .ok (.iload_n 3, 1) := by decide +kernel
theorem dX11_areAbleTo_107 : decode cX11_areAbleTo 107 = .ok (.iadd, 1) := by decide +kernel
theorem dX11_areAbleTo_108 : decode cX11_areAbleTo 108 = .ok (.iaload, 1) := by decide +kernel
theorem dX11_areAbleTo_109 : decode cX11_areAbleTo 109 = .ok (.if_icmp .ge 6, 3) := by decide +kernel
theorem dX11_areAbleTo_112 : decode cX11_areAbleTo 112 = .ok (.iload 4, 2) := by decide +kernel
theorem dX11_areAbleTo_114 : decode cX11_areAbleTo 114 = .ok (.istore_n 3, 1) := by decide +kernel
theorem dX11_areAbleTo_115 : decode cX11_areAbleTo 115 = .ok (.iinc 4 1, 3) := by decide +kernel
theorem dX11_areAbleTo_118 : decode cX11_areAbleTo 118 = .ok (.goto (-62), 3) := by decide +kernel
theorem dX11_areAbleTo_121 : decode cX11_areAbleTo 121 = .ok (.iload_n 3, 1) := by decide +kernel
theorem dX11_areAbleTo_122 : decode cX11_areAbleTo 122 = .ok (.ifCond .lt 18, 3) := by decide +kernel
theorem dX11_areAbleTo_125 : decode cX11_areAbleTo 125 = .ok (.aload_n 0, 1) := by decide +kernel
theorem dX11_areAbleTo_126 : decode cX11_areAbleTo 126 = .ok (.getfield 9, 3) := by decide +kernel
theorem dX11_areAbleTo_129 : decode cX11_areAbleTo 129 = .ok (.bipush 18, 2) := by decide +kernel
theorem dX11_areAbleTo_131 : decode cX11_areAbleTo 131 = .ok (.iload_n 3, 1) := by decide +kernel
theorem dX11_areAbleTo_132 : decode cX11_areAbleTo 132 = .ok (.iadd, 1) := by decide +kernel
theorem dX11_areAbleTo_133 : decode cX11_areAbleTo 133 = .ok (.iaload, 1) := by decide +kernel
theorem dX11_areAbleTo_134 : decode cX11_areAbleTo 134 = .ok (.iload_n 2, 1) := by decide +kernel
theorem dX11_areAbleTo_135 : decode cX11_areAbleTo 135 = .ok (.if_icmp .ge 5, 3) := by decide +kernel
theorem dX11_areAbleTo_138 : decode cX11_areAbleTo 138 = .ok (.iconst 0, 1) := by decide +kernel
theorem dX11_areAbleTo_139 : decode cX11_areAbleTo 139 = .ok (.ireturn, 1) := by decide +kernel
theorem dX11_areAbleTo_140 : decode cX11_areAbleTo 140 = .ok (.iload_n 3, 1) := by decide +kernel
theorem dX11_areAbleTo_141 : decode cX11_areAbleTo 141 = .ok (.ifCond .lt 13, 3) := by decide +kernel
theorem dX11_areAbleTo_144 : decode cX11_areAbleTo 144 = .ok (.aload_n 0, 1) := by decide +kernel
theorem dX11_areAbleTo_145 : decode cX11_areAbleTo 145 = .ok (.getfield 37, 3) := by decide +kernel
theorem dX11_areAbleTo_148 : decode cX11_areAbleTo 148 = .ok (.iload_n 3, 1) := by decide +kernel
theorem dX11_areAbleTo_149 : decode cX11_areAbleTo 149 = .ok (.dup2, 1) := by decide +kernel
theorem dX11_areAbleTo_150 : decode cX11_areAbleTo 150 = .ok (.iaload, 1) := by decide +kernel
theorem dX11_areAbleTo_151 : decode cX11_areAbleTo 151 = .ok (.iconst 1, 1) := by decide +kernel
theorem dX11_areAbleTo_152 : decode cX11_areAbleTo 152 = .ok (.isub, 1) := by decide +kernel
theorem dX11_areAbleTo_153 : decode cX11_areAbleTo 153 = .ok (.iastore, 1) := by decide +kernel
theorem dX11_areAbleTo_154 : decode cX11_areAbleTo 154 = .ok (.iinc 2 1, 3) := by decide +kernel
theorem dX11_areAbleTo_157 : decode cX11_areAbleTo 157 = .ok (.goto (-112), 3) := by decide +kernel
theorem dX11_areAbleTo_160 : decode cX11_areAbleTo 160 = .ok (.iconst 0, 1) := by decide +kernel
theorem dX11_areAbleTo_161 : decode cX11_areAbleTo 161 = .ok (.istore_n 2, 1) := by decide +kernel
theorem dX11_areAbleTo_162 : decode cX11_areAbleTo 162 = .ok (.iload_n 2, 1) := by decide +kernel
theorem dX11_areAbleTo_163 : decode cX11_areAbleTo 163 = .ok (.aload_n 0, 1) := by decide +kernel
theorem dX11_areAbleTo_164 : decode cX11_areAbleTo 164 = .ok (.getfield 88, 3) := by decide +kernel
theorem dX11_areAbleTo_167 : decode cX11_areAbleTo 167 = .ok (.if_icmp .ge 20, 3) := by decide +kernel
theorem dX11_areAbleTo_170 : decode cX11_areAbleTo 170 = .ok (.aload_n 0, 1) := by decide +kernel
theorem dX11_areAbleTo_171 : decode cX11_areAbleTo 171 = .ok (.getfield 37, 3) := by decide +kernel
theorem dX11_areAbleTo_174 : decode cX11_areAbleTo 174 = .ok (.iload_n 2, 1) := by decide +kernel
theorem dX11_areAbleTo_175 : decode cX11_areAbleTo 175 = .ok (.iaload, 1) := by decide +kernel
theorem dX11_areAbleTo_176 : decode cX11_areAbleTo 176 = .ok (.ifCond .le 5, 3) := by decide +kernel
theorem dX11_areAbleTo_179 : decode cX11_areAbleTo 179 = .ok (.iconst 0, 1) := by decide +kernel
theorem dX11_areAbleTo_180 : decode cX11_areAbleTo 180 = .ok (.ireturn, 1) := by decide +kernel
theorem dX11_areAbleTo_181 : decode cX11_areAbleTo 181 = .ok (.iinc 2 1, 3) := by decide +kernel
theorem dX11_areAbleTo_184 : decode cX11_areAbleTo 184 = .ok (.goto (-22), 3) := by decide +kernel
theorem dX11_areAbleTo_187 : decode cX11_areAbleTo 187 = .ok (.iconst 1, 1) := by decide +kernel
theorem dX11_areAbleTo_188 : decode cX11_areAbleTo 188 = .ok (.ireturn, 1) := by decide +kernel
section
variable {p : Program} {l : Launch} {e : Env} {s : State} {m : MethodId} {args : Array Value} {below : List Frame} {meth : Method} {c : Code} {H : Heap} {locs : List Loc} {E : Ev} {S V : St} {ls : Array Slot}
set_option maxRecDepth 20000 in
theorem w_Mo_areAbleTo_b162 {N : Nat} {k162 : (Int32) → Option (Int32 × St)} {l2 : Int32} {r : Int32} {S9 : St} (C : Cx p s m args meth c E cX11_areAbleTo 5 RX11 (some .boolean)) (hk162 : ∀ x, k162 x = some (r, S9) → ∀ (H : Heap) (locs : List Loc) (ls : Array Slot), Wd E (wM V E) s.heap S H locs → lv_has ls 5 [(0, .ref (ea E 44)), (2, .int x)] → W p l e (rmh 2) s m args below meth c H locs 0 0 (MQ below (QW E (wM V E) (some (.int r)) S9) args s 0 0 (eA E)) (F0 m 162 ls [])) (hw : Wd E (wM V E) s.heap S H locs) (hl : lv_has ls 5 [(0, .ref (ea E 44)), (2, .int l2)]) (hf : Mo_areAbleTo_b162 N k162 S l2 = some (r, S9)) : W p l e (rmh 2) s m args below meth c H locs 0 0 (MQ below (QW E (wM V E) (some (.int r)) S9) args s 0 0 (eA E)) (F0 m 162 ls []) := by
  have hx := C.1
  have hb := C.2.1
  unfold Mo_areAbleTo_b162 at hf
  refine lv_iload_n hx hb dX11_areAbleTo_162 rfl (lv_at hl 1 rfl) ?_
  refine lv_aload_n hx hb dX11_areAbleTo_163 rfl (lv_at hl 0 rfl) ?_
  refine get_44_7 C hw q_1158 dX11_areAbleTo_164 ?_
  refine lv_icmp_ge (tgt := 187) hx hb dX11_areAbleTo_167 (by decide) (fun q => ?_) (fun q => ?_)
  · have hf := hf_t q hf
    refine lv_iconst (v := 1) hx hb dX11_areAbleTo_187 kc_1 ?_
    exact ret_zS rfl C hw dX11_areAbleTo_188 hf
  · have hf := hf_f q hf
    refine lv_aload_n hx hb dX11_areAbleTo_170 rfl (lv_at hl 0 rfl) ?_
    refine get_44_20 C hw q_1171 dX11_areAbleTo_171 ?_
    refine lv_iload_n hx hb dX11_areAbleTo_174 rfl (lv_at hl 1 rfl) ?_
    obtain ⟨hc, hf⟩ := hf_ck hf
    refine ld_54 C hw hc dX11_areAbleTo_175 ?_
    refine lv_if_le (tgt := 181) hx hb dX11_areAbleTo_176 (by decide) (fun q => ?_) (fun q => ?_)
    · have hf := hf_t q hf
      obtain ⟨x1, ex1, hf⟩ := nme hf
      refine lv_iinc (v := x1) (lv' := [(2, .int x1), (0, .ref (ea E 44))]) hx hb dX11_areAbleTo_181 hl (k := 1) rfl (ki_1 ex1) (by decide) rfl (fun ls hl => ?_)
      refine lv_goto (tgt := 162) hx hb dX11_areAbleTo_184 (by decide) ?_
      exact hk162 _ hf _ _ _ hw (lv_sub hl [1, 0] rfl)
    · have hf := hf_f q hf
      refine lv_iconst (v := 0) hx hb dX11_areAbleTo_179 kc_0 ?_
      exact ret_zS rfl C hw dX11_areAbleTo_180 hf
theorem w_Mo_areAbleTo_L162 {N : Nat} {r : Int32} {S9 : St} (C : Cx p s m args meth c E cX11_areAbleTo 5 RX11 (some .boolean)) : ∀ x, Mo_areAbleTo_L162 N S x = some (r, S9) → ∀ (H : Heap) (locs : List Loc) (ls : Array Slot), Wd E (wM V E) s.heap S H locs → lv_has ls 5 [(0, .ref (ea E 44)), (2, .int x)] → W p l e (rmh 2) s m args below meth c H locs 0 0 (MQ below (QW E (wM V E) (some (.int r)) S9) args s 0 0 (eA E)) (F0 m 162 ls []) :=
  lp_W (fun k x hk hf H locs ls hw hl => w_Mo_areAbleTo_b162 C hk hw hl hf) N
set_option maxRecDepth 20000 in
theorem w_Mo_areAbleTo_b140 {N : Nat} {k45 : (St × Int32) → Option (Int32 × St)} {l2 : Int32} {l3 : Int32} {r : Int32} {S9 : St} (C : Cx p s m args meth c E cX11_areAbleTo 5 RX11 (some .boolean)) (hk45 : ∀ x, k45 x = some (r, S9) → ∀ (H : Heap) (locs : List Loc) (ls : Array Slot), Wd E (wM V E) s.heap x.1 H locs → lv_has ls 5 [(0, .ref (ea E 44)), (2, .int x.2)] → W p l e (rmh 2) s m args below meth c H locs 0 0 (MQ below (QW E (wM V E) (some (.int r)) S9) args s 0 0 (eA E)) (F0 m 45 ls [])) (hw : Wd E (wM V E) s.heap S H locs) (hl : lv_has ls 5 [(0, .ref (ea E 44)), (2, .int l2), (3, .int l3)]) (hf : Mo_areAbleTo_b140 N k45 S l2 l3 = some (r, S9)) : W p l e (rmh 2) s m args below meth c H locs 0 0 (MQ below (QW E (wM V E) (some (.int r)) S9) args s 0 0 (eA E)) (F0 m 140 ls []) := by
  have hx := C.1
  have hb := C.2.1
  unfold Mo_areAbleTo_b140 at hf
  refine lv_iload_n hx hb dX11_areAbleTo_140 rfl (lv_at hl 2 rfl) ?_
  refine lv_if_lt (tgt := 154) hx hb dX11_areAbleTo_141 (by decide) (fun q => ?_) (fun q => ?_)
  · have hf := hf_t q hf
    obtain ⟨x1, ex1, hf⟩ := nme hf
    refine lv_iinc (v := x1) (lv' := [(2, .int x1), (0, .ref (ea E 44)), (3, .int l3)]) hx hb dX11_areAbleTo_154 hl (k := 1) rfl (ki_1 ex1) (by decide) rfl (fun ls hl => ?_)
    refine lv_goto (tgt := 45) hx hb dX11_areAbleTo_157 (by decide) ?_
    exact hk45 _ hf _ _ _ hw (lv_sub hl [1, 0] rfl)
  · have hf := hf_f q hf
    refine lv_aload_n hx hb dX11_areAbleTo_144 rfl (lv_at hl 0 rfl) ?_
    refine get_44_20 C hw q_1171 dX11_areAbleTo_145 ?_
    refine lv_iload_n hx hb dX11_areAbleTo_148 rfl (lv_at hl 2 rfl) ?_
    refine lv_dup2_11 hx hb dX11_areAbleTo_149 rfl rfl ?_
    obtain ⟨hc, hf⟩ := hf_ck hf
    refine ld_54 C hw hc dX11_areAbleTo_150 ?_
    refine lv_iconst (v := 1) hx hb dX11_areAbleTo_151 kc_1 ?_
    refine lv_isub hx hb dX11_areAbleTo_152 ?_
    obtain ⟨hc, hf⟩ := hf_ck hf
    refine st_54 C hw hc dX11_areAbleTo_153 (fun H locs hw => ?_)
    refine nm_S hf hw (fun S2 hf hw => ?_)
    obtain ⟨x3, ex3, hf⟩ := nme hf
    refine lv_iinc (v := x3) (lv' := [(2, .int x3), (0, .ref (ea E 44)), (3, .int l3)]) hx hb dX11_areAbleTo_154 hl (k := 1) rfl (ki_1 ex3) (by decide) rfl (fun ls hl => ?_)
    refine lv_goto (tgt := 45) hx hb dX11_areAbleTo_157 (by decide) ?_
    exact hk45 _ hf _ _ _ hw (lv_sub hl [1, 0] rfl)
set_option maxRecDepth 20000 in
theorem w_Mo_areAbleTo_b56 {N : Nat} {k45 : (St × Int32) → Option (Int32 × St)} {k56 : (Int32 × Int32) → Option (Int32 × St)} {l2 : Int32} {l3 : Int32} {l4 : Int32} {r : Int32} {S9 : St} (C : Cx p s m args meth c E cX11_areAbleTo 5 RX11 (some .boolean)) (hk45 : ∀ x, k45 x = some (r, S9) → ∀ (H : Heap) (locs : List Loc) (ls : Array Slot), Wd E (wM V E) s.heap x.1 H locs → lv_has ls 5 [(0, .ref (ea E 44)), (2, .int x.2)] → W p l e (rmh 2) s m args below meth c H locs 0 0 (MQ below (QW E (wM V E) (some (.int r)) S9) args s 0 0 (eA E)) (F0 m 45 ls [])) (hk56 : ∀ x, k56 x = some (r, S9) → ∀ (H : Heap) (locs : List Loc) (ls : Array Slot), Wd E (wM V E) s.heap S H locs → lv_has ls 5 [(0, .ref (ea E 44)), (2, .int l2), (3, .int x.1), (4, .int x.2)] → W p l e (rmh 2) s m args below meth c H locs 0 0 (MQ below (QW E (wM V E) (some (.int r)) S9) args s 0 0 (eA E)) (F0 m 56 ls [])) (hw : Wd E (wM V E) s.heap S H locs) (hl : lv_has ls 5 [(0, .ref (ea E 44)), (2, .int l2), (3, .int l3), (4, .int l4)]) (hf : Mo_areAbleTo_b56 N k45 k56 S l2 l3 l4 = some (r, S9)) : W p l e (rmh 2) s m args below meth c H locs 0 0 (MQ below (QW E (wM V E) (some (.int r)) S9) args s 0 0 (eA E)) (F0 m 56 ls []) := by
  have hx := C.1
  have hb := C.2.1
  unfold Mo_areAbleTo_b56 at hf
  refine lv_iload hx hb dX11_areAbleTo_56 (lv_at hl 3 rfl) ?_
  refine lv_aload_n hx hb dX11_areAbleTo_58 rfl (lv_at hl 0 rfl) ?_
  refine get_44_7 C hw q_1158 dX11_areAbleTo_59 ?_
  refine lv_icmp_ge (tgt := 121) hx hb dX11_areAbleTo_62 (by decide) (fun q => ?_) (fun q => ?_)
  · have hf := hf_t q hf
    refine lv_iload_n hx hb dX11_areAbleTo_121 rfl (lv_at hl 2 rfl) ?_
    refine lv_if_lt (tgt := 140) hx hb dX11_areAbleTo_122 (by decide) (fun q => ?_) (fun q => ?_)
    · have hf := hf_t q hf
      exact w_Mo_areAbleTo_b140 C hk45 hw (lv_sub hl [0, 1, 2] rfl) hf
    · have hf := hf_f q hf
      refine lv_aload_n hx hb dX11_areAbleTo_125 rfl (lv_at hl 0 rfl) ?_
      refine get_44_0 C hw q_1151 dX11_areAbleTo_126 ?_
      refine lv_bipush (v := 18) hx hb dX11_areAbleTo_129 kb_18 ?_
      refine lv_iload_n hx hb dX11_areAbleTo_131 rfl (lv_at hl 2 rfl) ?_
      refine lv_iadd hx hb dX11_areAbleTo_132 ?_
      obtain ⟨hc, hf⟩ := hf_ck hf
      refine ld_45 C hw hc dX11_areAbleTo_133 ?_
      refine lv_iload_n hx hb dX11_areAbleTo_134 rfl (lv_at hl 1 rfl) ?_
      refine lv_icmp_ge (tgt := 140) hx hb dX11_areAbleTo_135 (by decide) (fun q => ?_) (fun q => ?_)
      · have hf := hf_t q hf
        exact w_Mo_areAbleTo_b140 C hk45 hw (lv_sub hl [0, 1, 2] rfl) hf
      · have hf := hf_f q hf
        refine lv_iconst (v := 0) hx hb dX11_areAbleTo_138 kc_0 ?_
        exact ret_zS rfl C hw dX11_areAbleTo_139 hf
  · have hf := hf_f q hf
    refine lv_aload_n hx hb dX11_areAbleTo_65 rfl (lv_at hl 0 rfl) ?_
    refine get_44_20 C hw q_1171 dX11_areAbleTo_66 ?_
    refine lv_iload hx hb dX11_areAbleTo_69 (lv_at hl 3 rfl) ?_
    obtain ⟨hc, hf⟩ := hf_ck hf
    refine ld_54 C hw hc dX11_areAbleTo_71 ?_
    refine lv_if_le (tgt := 115) hx hb dX11_areAbleTo_72 (by decide) (fun q => ?_) (fun q => ?_)
    · have hf := hf_t q hf
      obtain ⟨x1, ex1, hf⟩ := nme hf
      refine lv_iinc (v := x1) (lv' := [(4, .int x1), (0, .ref (ea E 44)), (2, .int l2), (3, .int l3)]) hx hb dX11_areAbleTo_115 hl (k := 3) rfl (ki_1 ex1) (by decide) rfl (fun ls hl => ?_)
      refine lv_goto (tgt := 56) hx hb dX11_areAbleTo_118 (by decide) ?_
      exact hk56 _ hf _ _ _ hw (lv_sub hl [1, 2, 3, 0] rfl)
    · have hf := hf_f q hf
      refine lv_aload_n hx hb dX11_areAbleTo_75 rfl (lv_at hl 0 rfl) ?_
      refine get_44_9 C hw q_1160 dX11_areAbleTo_76 ?_
      refine lv_iload hx hb dX11_areAbleTo_79 (lv_at hl 3 rfl) ?_
      obtain ⟨hc, hf⟩ := hf_ck hf
      refine ld_50 C hw hc dX11_areAbleTo_81 ?_
      refine lv_iload_n hx hb dX11_areAbleTo_82 rfl (lv_at hl 1 rfl) ?_
      refine lv_icmp_gt (tgt := 115) hx hb dX11_areAbleTo_83 (by decide) (fun q => ?_) (fun q => ?_)
      · have hf := hf_t q hf
        obtain ⟨x2, ex2, hf⟩ := nme hf
        refine lv_iinc (v := x2) (lv' := [(4, .int x2), (0, .ref (ea E 44)), (2, .int l2), (3, .int l3)]) hx hb dX11_areAbleTo_115 hl (k := 3) rfl (ki_1 ex2) (by decide) rfl (fun ls hl => ?_)
        refine lv_goto (tgt := 56) hx hb dX11_areAbleTo_118 (by decide) ?_
        exact hk56 _ hf _ _ _ hw (lv_sub hl [1, 2, 3, 0] rfl)
      · have hf := hf_f q hf
        refine lv_iload_n hx hb dX11_areAbleTo_86 rfl (lv_at hl 2 rfl) ?_
        refine lv_if_lt (tgt := 112) hx hb dX11_areAbleTo_87 (by decide) (fun q => ?_) (fun q => ?_)
        · have hf := hf_t q hf
          refine lv_iload hx hb dX11_areAbleTo_112 (lv_at hl 3 rfl) ?_
          refine lv_istore_n (lv' := [(3, .int l4), (0, .ref (ea E 44)), (2, .int l2), (4, .int l4)]) hx hb dX11_areAbleTo_114 rfl hl (by decide) rfl (fun ls hl => ?_)
          obtain ⟨x3, ex3, hf⟩ := nme hf
          refine lv_iinc (v := x3) (lv' := [(4, .int x3), (3, .int l4), (0, .ref (ea E 44)), (2, .int l2)]) hx hb dX11_areAbleTo_115 hl (k := 3) rfl (ki_1 ex3) (by decide) rfl (fun ls hl => ?_)
          refine lv_goto (tgt := 56) hx hb dX11_areAbleTo_118 (by decide) ?_
          exact hk56 _ hf _ _ _ hw (lv_sub hl [2, 3, 1, 0] rfl)
        · have hf := hf_f q hf
          refine lv_aload_n hx hb dX11_areAbleTo_90 rfl (lv_at hl 0 rfl) ?_
          refine get_44_0 C hw q_1151 dX11_areAbleTo_91 ?_
          refine lv_bipush (v := 18) hx hb dX11_areAbleTo_94 kb_18 ?_
          refine lv_iload hx hb dX11_areAbleTo_96 (lv_at hl 3 rfl) ?_
          refine lv_iadd hx hb dX11_areAbleTo_98 ?_
          obtain ⟨hc, hf⟩ := hf_ck hf
          refine ld_45 C hw hc dX11_areAbleTo_99 ?_
          refine lv_aload_n hx hb dX11_areAbleTo_100 rfl (lv_at hl 0 rfl) ?_
          refine get_44_0 C hw q_1151 dX11_areAbleTo_101 ?_
          refine lv_bipush (v := 18) hx hb dX11_areAbleTo_104 kb_18 ?_
          refine lv_iload_n hx hb dX11_areAbleTo_106 rfl (lv_at hl 2 rfl) ?_
          refine lv_iadd hx hb dX11_areAbleTo_107 ?_
          obtain ⟨hc, hf⟩ := hf_ck hf
          refine ld_45 C hw hc dX11_areAbleTo_108 ?_
          refine lv_icmp_ge (tgt := 115) hx hb dX11_areAbleTo_109 (by decide) (fun q => ?_) (fun q => ?_)
          · have hf := hf_t q hf
            obtain ⟨x4, ex4, hf⟩ := nme hf
            refine lv_iinc (v := x4) (lv' := [(4, .int x4), (0, .ref (ea E 44)), (2, .int l2), (3, .int l3)]) hx hb dX11_areAbleTo_115 hl (k := 3) rfl (ki_1 ex4) (by decide) rfl (fun ls hl => ?_)
            refine lv_goto (tgt := 56) hx hb dX11_areAbleTo_118 (by decide) ?_
            exact hk56 _ hf _ _ _ hw (lv_sub hl [1, 2, 3, 0] rfl)
          · have hf := hf_f q hf
            refine lv_iload hx hb dX11_areAbleTo_112 (lv_at hl 3 rfl) ?_
            refine lv_istore_n (lv' := [(3, .int l4), (0, .ref (ea E 44)), (2, .int l2), (4, .int l4)]) hx hb dX11_areAbleTo_114 rfl hl (by decide) rfl (fun ls hl => ?_)
            obtain ⟨x5, ex5, hf⟩ := nme hf
            refine lv_iinc (v := x5) (lv' := [(4, .int x5), (3, .int l4), (0, .ref (ea E 44)), (2, .int l2)]) hx hb dX11_areAbleTo_115 hl (k := 3) rfl (ki_1 ex5) (by decide) rfl (fun ls hl => ?_)
            refine lv_goto (tgt := 56) hx hb dX11_areAbleTo_118 (by decide) ?_
            exact hk56 _ hf _ _ _ hw (lv_sub hl [2, 3, 1, 0] rfl)
theorem w_Mo_areAbleTo_L56 {N : Nat} {k45 : (St × Int32) → Option (Int32 × St)} {l2 : Int32} {r : Int32} {S9 : St} (C : Cx p s m args meth c E cX11_areAbleTo 5 RX11 (some .boolean)) (hk45 : ∀ x, k45 x = some (r, S9) → ∀ (H : Heap) (locs : List Loc) (ls : Array Slot), Wd E (wM V E) s.heap x.1 H locs → lv_has ls 5 [(0, .ref (ea E 44)), (2, .int x.2)] → W p l e (rmh 2) s m args below meth c H locs 0 0 (MQ below (QW E (wM V E) (some (.int r)) S9) args s 0 0 (eA E)) (F0 m 45 ls [])) : ∀ x, Mo_areAbleTo_L56 N k45 S l2 x = some (r, S9) → ∀ (H : Heap) (locs : List Loc) (ls : Array Slot), Wd E (wM V E) s.heap S H locs → lv_has ls 5 [(0, .ref (ea E 44)), (2, .int l2), (3, .int x.1), (4, .int x.2)] → W p l e (rmh 2) s m args below meth c H locs 0 0 (MQ below (QW E (wM V E) (some (.int r)) S9) args s 0 0 (eA E)) (F0 m 56 ls []) :=
  lp_W (fun k x hk hf H locs ls hw hl => w_Mo_areAbleTo_b56 C hk45 hk hw hl hf) N
set_option maxRecDepth 20000 in
theorem w_Mo_areAbleTo_b45 {N : Nat} {k45 : (St × Int32) → Option (Int32 × St)} {l2 : Int32} {r : Int32} {S9 : St} (C : Cx p s m args meth c E cX11_areAbleTo 5 RX11 (some .boolean)) (hk45 : ∀ x, k45 x = some (r, S9) → ∀ (H : Heap) (locs : List Loc) (ls : Array Slot), Wd E (wM V E) s.heap x.1 H locs → lv_has ls 5 [(0, .ref (ea E 44)), (2, .int x.2)] → W p l e (rmh 2) s m args below meth c H locs 0 0 (MQ below (QW E (wM V E) (some (.int r)) S9) args s 0 0 (eA E)) (F0 m 45 ls [])) (hw : Wd E (wM V E) s.heap S H locs) (hl : lv_has ls 5 [(0, .ref (ea E 44)), (2, .int l2)]) (hf : Mo_areAbleTo_b45 N k45 S l2 = some (r, S9)) : W p l e (rmh 2) s m args below meth c H locs 0 0 (MQ below (QW E (wM V E) (some (.int r)) S9) args s 0 0 (eA E)) (F0 m 45 ls []) := by
  have hx := C.1
  have hb := C.2.1
  unfold Mo_areAbleTo_b45 at hf
  refine lv_iload_n hx hb dX11_areAbleTo_45 rfl (lv_at hl 1 rfl) ?_
  refine lv_bipush (v := 99) hx hb dX11_areAbleTo_46 kb_99 ?_
  refine lv_icmp_gt (tgt := 160) hx hb dX11_areAbleTo_48 (by decide) (fun q => ?_) (fun q => ?_)
  · have hf := hf_t q hf
    refine lv_iconst (v := 0) hx hb dX11_areAbleTo_160 kc_0 ?_
    refine lv_istore_n (lv' := [(2, .int (0 : Int32)), (0, .ref (ea E 44))]) hx hb dX11_areAbleTo_161 rfl hl (by decide) rfl (fun ls hl => ?_)
    exact w_Mo_areAbleTo_L162 C _ hf _ _ _ hw (lv_sub hl [1, 0] rfl)
  · have hf := hf_f q hf
    refine lv_iconst (v := -1) hx hb dX11_areAbleTo_51 kc_m1 ?_
    refine lv_istore_n (lv' := [(3, .int (-1 : Int32)), (0, .ref (ea E 44)), (2, .int l2)]) hx hb dX11_areAbleTo_52 rfl hl (by decide) rfl (fun ls hl => ?_)
    refine lv_iconst (v := 0) hx hb dX11_areAbleTo_53 kc_0 ?_
    refine lv_istore (lv' := [(4, .int (0 : Int32)), (3, .int (-1 : Int32)), (0, .ref (ea E 44)), (2, .int l2)]) hx hb dX11_areAbleTo_54 hl (by decide) rfl (fun ls hl => ?_)
    exact w_Mo_areAbleTo_L56 C hk45 _ hf _ _ _ hw (lv_sub hl [2, 3, 1, 0] rfl)
theorem w_Mo_areAbleTo_L45 {N : Nat} {r : Int32} {S9 : St} (C : Cx p s m args meth c E cX11_areAbleTo 5 RX11 (some .boolean)) : ∀ x, Mo_areAbleTo_L45 N x = some (r, S9) → ∀ (H : Heap) (locs : List Loc) (ls : Array Slot), Wd E (wM V E) s.heap x.1 H locs → lv_has ls 5 [(0, .ref (ea E 44)), (2, .int x.2)] → W p l e (rmh 2) s m args below meth c H locs 0 0 (MQ below (QW E (wM V E) (some (.int r)) S9) args s 0 0 (eA E)) (F0 m 45 ls []) :=
  lp_W (fun k x hk hf H locs ls hw hl => w_Mo_areAbleTo_b45 C hk hw hl hf) N
set_option maxRecDepth 20000 in
theorem w_Mo_areAbleTo_b2 {N : Nat} {k2 : (St × Int32) → Option (Int32 × St)} {l1 : Int32} {l2 : Int32} {r : Int32} {S9 : St} (C : Cx p s m args meth c E cX11_areAbleTo 5 RX11 (some .boolean)) (hk2 : ∀ x, k2 x = some (r, S9) → ∀ (H : Heap) (locs : List Loc) (ls : Array Slot), Wd E (wM V E) s.heap x.1 H locs → lv_has ls 5 [(0, .ref (ea E 44)), (1, .int l1), (2, .int x.2)] → W p l e (rmh 2) s m args below meth c H locs 0 0 (MQ below (QW E (wM V E) (some (.int r)) S9) args s 0 0 (eA E)) (F0 m 2 ls [])) (hw : Wd E (wM V E) s.heap S H locs) (hl : lv_has ls 5 [(0, .ref (ea E 44)), (1, .int l1), (2, .int l2)]) (hf : Mo_areAbleTo_b2 N k2 S l1 l2 = some (r, S9)) : W p l e (rmh 2) s m args below meth c H locs 0 0 (MQ below (QW E (wM V E) (some (.int r)) S9) args s 0 0 (eA E)) (F0 m 2 ls []) := by
  have hx := C.1
  have hb := C.2.1
  unfold Mo_areAbleTo_b2 at hf
  refine lv_iload_n hx hb dX11_areAbleTo_2 rfl (lv_at hl 2 rfl) ?_
  refine lv_aload_n hx hb dX11_areAbleTo_3 rfl (lv_at hl 0 rfl) ?_
  refine get_44_7 C hw q_1158 dX11_areAbleTo_4 ?_
  refine lv_icmp_ge (tgt := 43) hx hb dX11_areAbleTo_7 (by decide) (fun q => ?_) (fun q => ?_)
  · have hf := hf_t q hf
    refine lv_iconst (v := 0) hx hb dX11_areAbleTo_43 kc_0 ?_
    refine lv_istore_n (lv' := [(2, .int (0 : Int32)), (0, .ref (ea E 44)), (1, .int l1)]) hx hb dX11_areAbleTo_44 rfl hl (by decide) rfl (fun ls hl => ?_)
    exact w_Mo_areAbleTo_L45 C _ hf _ _ _ hw (lv_sub hl [1, 0] rfl)
  · have hf := hf_f q hf
    refine lv_aload_n hx hb dX11_areAbleTo_10 rfl (lv_at hl 0 rfl) ?_
    refine get_44_20 C hw q_1171 dX11_areAbleTo_11 ?_
    refine lv_iload_n hx hb dX11_areAbleTo_14 rfl (lv_at hl 2 rfl) ?_
    refine lv_iload_n hx hb dX11_areAbleTo_15 rfl (lv_at hl 1 rfl) ?_
    refine lv_iload_n hx hb dX11_areAbleTo_16 rfl (lv_at hl 2 rfl) ?_
    obtain ⟨r1, hr, hf⟩ := hf_1 hf
    refine inv_Si (As := [.int l1, .int l2]) lk_X11_229 C hw (t_Mo_isIn hr) hl.1 dX11_areAbleTo_17 rfl (Nat.le_of_ble_eq_true rfl) (by decide) (Nat.le_of_ble_eq_true rfl) rfl (fun H locs hw => ?_)
    refine lv_if_eq (tgt := 35) hx hb dX11_areAbleTo_20 (by decide) (fun q => ?_) (fun q => ?_)
    · have hf := hf_t q hf
      refine lv_iconst (v := 0) hx hb dX11_areAbleTo_35 kc_0 ?_
      obtain ⟨hc, hf⟩ := hf_ck hf
      refine st_54 C hw hc dX11_areAbleTo_36 (fun H locs hw => ?_)
      refine nm_S hf hw (fun S2 hf hw => ?_)
      obtain ⟨x3, ex3, hf⟩ := nme hf
      refine lv_iinc (v := x3) (lv' := [(2, .int x3), (0, .ref (ea E 44)), (1, .int l1)]) hx hb dX11_areAbleTo_37 hl (k := 2) rfl (ki_1 ex3) (by decide) rfl (fun ls hl => ?_)
      refine lv_goto (tgt := 2) hx hb dX11_areAbleTo_40 (by decide) ?_
      exact hk2 _ hf _ _ _ hw (lv_sub hl [1, 2, 0] rfl)
    · have hf := hf_f q hf
      refine lv_aload_n hx hb dX11_areAbleTo_23 rfl (lv_at hl 0 rfl) ?_
      refine get_44_0 C hw q_1151 dX11_areAbleTo_24 ?_
      refine lv_bipush (v := 28) hx hb dX11_areAbleTo_27 kb_28 ?_
      refine lv_iload_n hx hb dX11_areAbleTo_29 rfl (lv_at hl 2 rfl) ?_
      refine lv_iadd hx hb dX11_areAbleTo_30 ?_
      obtain ⟨hc, hf⟩ := hf_ck hf
      refine ld_45 C hw hc dX11_areAbleTo_31 ?_
      refine lv_goto (tgt := 36) hx hb dX11_areAbleTo_32 (by decide) ?_
      obtain ⟨hc, hf⟩ := hf_ck hf
      refine st_54 C hw hc dX11_areAbleTo_36 (fun H locs hw => ?_)
      refine nm_S hf hw (fun S4 hf hw => ?_)
      obtain ⟨x5, ex5, hf⟩ := nme hf
      refine lv_iinc (v := x5) (lv' := [(2, .int x5), (0, .ref (ea E 44)), (1, .int l1)]) hx hb dX11_areAbleTo_37 hl (k := 2) rfl (ki_1 ex5) (by decide) rfl (fun ls hl => ?_)
      refine lv_goto (tgt := 2) hx hb dX11_areAbleTo_40 (by decide) ?_
      exact hk2 _ hf _ _ _ hw (lv_sub hl [1, 2, 0] rfl)
theorem w_Mo_areAbleTo_L2 {N : Nat} {l1 : Int32} {r : Int32} {S9 : St} (C : Cx p s m args meth c E cX11_areAbleTo 5 RX11 (some .boolean)) : ∀ x, Mo_areAbleTo_L2 N l1 x = some (r, S9) → ∀ (H : Heap) (locs : List Loc) (ls : Array Slot), Wd E (wM V E) s.heap x.1 H locs → lv_has ls 5 [(0, .ref (ea E 44)), (1, .int l1), (2, .int x.2)] → W p l e (rmh 2) s m args below meth c H locs 0 0 (MQ below (QW E (wM V E) (some (.int r)) S9) args s 0 0 (eA E)) (F0 m 2 ls []) :=
  lp_W (fun k x hk hf H locs ls hw hl => w_Mo_areAbleTo_b2 C hk hw hl hf) N
set_option maxRecDepth 20000 in
theorem w_Mo_areAbleTo {N : Nat} {p1 : Int32} {r : Int32} {S9 : St} (C : Cx p s m args meth c E cX11_areAbleTo 5 RX11 (some .boolean)) (hw : Wd E (wM V E) s.heap S H locs) (hl : lv_has ls 5 [(0, .ref (ea E 44)), (1, .int p1)]) (hf : Mo_areAbleTo N S p1 = some (r, S9)) : W p l e (rmh 2) s m args below meth c H locs 0 0 (MQ below (QW E (wM V E) (some (.int r)) S9) args s 0 0 (eA E)) (F0 m 0 ls []) := by
  have hx := C.1
  have hb := C.2.1
  unfold Mo_areAbleTo at hf
  refine lv_iconst (v := 0) hx hb dX11_areAbleTo_0 kc_0 ?_
  refine lv_istore_n (lv' := [(2, .int (0 : Int32)), (0, .ref (ea E 44)), (1, .int p1)]) hx hb dX11_areAbleTo_1 rfl hl (by decide) rfl (fun ls hl => ?_)
  exact w_Mo_areAbleTo_L2 C _ hf _ _ _ hw (lv_sub hl [1, 2, 0] rfl)
end
theorem t_Mo_areAbleTo {l : Launch} {V : St} {N : Nat} {S : St} {p1 : Int32} {r : Int32} {S9 : St} (hf : Mo_areAbleTo N S p1 = some (r, S9)) : Ct l (wM V) yX11_areAbleTo cX11_areAbleTo 5 (some .boolean) 2 (fun E => [.ref (ea E 44), .int p1]) S (fun E => some (.int r)) S9 :=
  ofBlock (by decide +kernel) (fun _ => Nat.le_of_ble_eq_true rfl) (fun E p e s m args below meth c ls C hw hl => w_Mo_areAbleTo C hw hl hf)
theorem dX11_allOf_0 : decode cX11_allOf 0 = .ok (.iconst 0, 1) := by decide +kernel
theorem dX11_allOf_1 : decode cX11_allOf 1 = .ok (.istore_n 2, 1) := by decide +kernel
theorem dX11_allOf_2 : decode cX11_allOf 2 = .ok (.iconst 0, 1) := by decide +kernel
theorem dX11_allOf_3 : decode cX11_allOf 3 = .ok (.istore_n 3, 1) := by decide +kernel
theorem dX11_allOf_4 : decode cX11_allOf 4 = .ok (.iload_n 3, 1) := by decide +kernel
theorem dX11_allOf_5 : decode cX11_allOf 5 = .ok (.aload_n 0, 1) := by decide +kernel
theorem dX11_allOf_6 : decode cX11_allOf 6 = .ok (.getfield 88, 3) := by decide +kernel
theorem dX11_allOf_9 : decode cX11_allOf 9 = .ok (.if_icmp .ge 29, 3) := by decide +kernel
theorem dX11_allOf_12 : decode cX11_allOf 12 = .ok (.iload_n 2, 1) := by decide +kernel
theorem dX11_allOf_13 : decode cX11_allOf 13 = .ok (.aload_n 0, 1) := by decide +kernel
theorem dX11_allOf_14 : decode cX11_allOf 14 = .ok (.getfield 22, 3) := by decide +kernel
theorem dX11_allOf_17 : decode cX11_allOf 17 = .ok (.iload_n 3, 1) := by decide +kernel
theorem dX11_allOf_18 : decode cX11_allOf 18 = .ok (.iaload, 1) := by decide +kernel
theorem dX11_allOf_19 : decode cX11_allOf 19 = .ok (.iload_n 1, 1) := by decide +kernel
theorem dX11_allOf_20 : decode cX11_allOf 20 = .ok (.if_icmp .ne 9, 3) := by decide +kernel
theorem dX11_allOf_23 : decode cX11_allOf 23 = .ok (.iconst 1, 1) := by decide +kernel
theorem dX11_allOf_24 : decode cX11_allOf 24 = .ok (.iload_n 3, 1) := by decide +kernel
theorem dX11_allOf_25 : decode cX11_allOf 25 = .ok (.ishl, 1) := by decide +kernel
theorem dX11_allOf_26 : decode cX11_allOf 26 = .ok (.goto 4, 3) := by decide +kernel
theorem dX11_allOf_29 : decode cX11_allOf 29 = .ok (.iconst 0, 1) := by decide +kernel
theorem dX11_allOf_30 : decode cX11_allOf 30 = .ok (.ior, 1) := by decide +kernel
theorem dX11_allOf_31 : decode cX11_allOf 31 = .ok (.istore_n 2, 1) := by decide +kernel
theorem dX11_allOf_32 : decode cX11_allOf 32 = .ok (.iinc 3 1, 3) := by decide +kernel
theorem dX11_allOf_35 : decode cX11_allOf 35 = .ok (.goto (-31), 3) := by decide +kernel
theorem dX11_allOf_38 : decode cX11_allOf 38 = .ok (.iload_n 2, 1) := by decide +kernel
theorem dX11_allOf_39 : decode cX11_allOf 39 = .ok (.ireturn, 1) := by decide +kernel
section
variable {p : Program} {l : Launch} {e : Env} {s : State} {m : MethodId} {args : Array Value} {below : List Frame} {meth : Method} {c : Code} {H : Heap} {locs : List Loc} {E : Ev} {S V : St} {ls : Array Slot}
set_option maxRecDepth 20000 in
theorem w_Mo_allOf_b4 {N : Nat} {k4 : (Int32 × Int32) → Option Int32} {l1 : Int32} {l2 : Int32} {l3 : Int32} {r : Int32} (C : Cx p s m args meth c E cX11_allOf 4 RX11 (some .int)) (hk4 : ∀ x, k4 x = some r → ∀ (H : Heap) (locs : List Loc) (ls : Array Slot), Wd E (wM V E) s.heap S H locs → lv_has ls 4 [(0, .ref (ea E 44)), (1, .int l1), (2, .int x.1), (3, .int x.2)] → W p l e (rmh 1) s m args below meth c H locs 0 0 (MQ below (QW E (wM V E) (some (.int r)) S) args s 0 0 (eA E)) (F0 m 4 ls [])) (hw : Wd E (wM V E) s.heap S H locs) (hl : lv_has ls 4 [(0, .ref (ea E 44)), (1, .int l1), (2, .int l2), (3, .int l3)]) (hf : Mo_allOf_b4 N k4 S l1 l2 l3 = some r) : W p l e (rmh 1) s m args below meth c H locs 0 0 (MQ below (QW E (wM V E) (some (.int r)) S) args s 0 0 (eA E)) (F0 m 4 ls []) := by
  have hx := C.1
  have hb := C.2.1
  unfold Mo_allOf_b4 at hf
  refine lv_iload_n hx hb dX11_allOf_4 rfl (lv_at hl 3 rfl) ?_
  refine lv_aload_n hx hb dX11_allOf_5 rfl (lv_at hl 0 rfl) ?_
  refine get_44_7 C hw q_1158 dX11_allOf_6 ?_
  refine lv_icmp_ge (tgt := 38) hx hb dX11_allOf_9 (by decide) (fun q => ?_) (fun q => ?_)
  · have hf := hf_t q hf
    refine lv_iload_n hx hb dX11_allOf_38 rfl (lv_at hl 2 rfl) ?_
    exact ret_i C hw dX11_allOf_39 hf
  · have hf := hf_f q hf
    refine lv_iload_n hx hb dX11_allOf_12 rfl (lv_at hl 2 rfl) ?_
    refine lv_aload_n hx hb dX11_allOf_13 rfl (lv_at hl 0 rfl) ?_
    refine get_44_8 C hw q_1159 dX11_allOf_14 ?_
    refine lv_iload_n hx hb dX11_allOf_17 rfl (lv_at hl 3 rfl) ?_
    obtain ⟨hc, hf⟩ := hf_ck hf
    refine ld_49 C hw hc dX11_allOf_18 ?_
    refine lv_iload_n hx hb dX11_allOf_19 rfl (lv_at hl 1 rfl) ?_
    refine lv_icmp_ne (tgt := 29) hx hb dX11_allOf_20 (by decide) (fun q => ?_) (fun q => ?_)
    · have hf := hf_f q hf
      refine lv_iconst (v := 0) hx hb dX11_allOf_29 kc_0 ?_
      refine lv_ior hx hb dX11_allOf_30 ?_
      refine nm_i hf (fun x1 hf => ?_)
      refine lv_istore_n (lv' := [(2, .int x1), (0, .ref (ea E 44)), (1, .int l1), (3, .int l3)]) hx hb dX11_allOf_31 rfl hl (by decide) rfl (fun ls hl => ?_)
      obtain ⟨x2, ex2, hf⟩ := nme hf
      refine lv_iinc (v := x2) (lv' := [(3, .int x2), (2, .int x1), (0, .ref (ea E 44)), (1, .int l1)]) hx hb dX11_allOf_32 hl (k := 3) rfl (ki_1 ex2) (by decide) rfl (fun ls hl => ?_)
      refine lv_goto (tgt := 4) hx hb dX11_allOf_35 (by decide) ?_
      exact hk4 _ hf _ _ _ hw (lv_sub hl [2, 3, 1, 0] rfl)
    · have hf := hf_t q hf
      refine lv_iconst (v := 1) hx hb dX11_allOf_23 kc_1 ?_
      refine lv_iload_n hx hb dX11_allOf_24 rfl (lv_at hl 3 rfl) ?_
      refine lv_ishl hx hb dX11_allOf_25 ?_
      refine lv_goto (tgt := 30) hx hb dX11_allOf_26 (by decide) ?_
      refine lv_ior hx hb dX11_allOf_30 ?_
      refine nm_i hf (fun x3 hf => ?_)
      refine lv_istore_n (lv' := [(2, .int x3), (0, .ref (ea E 44)), (1, .int l1), (3, .int l3)]) hx hb dX11_allOf_31 rfl hl (by decide) rfl (fun ls hl => ?_)
      obtain ⟨x4, ex4, hf⟩ := nme hf
      refine lv_iinc (v := x4) (lv' := [(3, .int x4), (2, .int x3), (0, .ref (ea E 44)), (1, .int l1)]) hx hb dX11_allOf_32 hl (k := 3) rfl (ki_1 ex4) (by decide) rfl (fun ls hl => ?_)
      refine lv_goto (tgt := 4) hx hb dX11_allOf_35 (by decide) ?_
      exact hk4 _ hf _ _ _ hw (lv_sub hl [2, 3, 1, 0] rfl)
theorem w_Mo_allOf_L4 {N : Nat} {l1 : Int32} {r : Int32} (C : Cx p s m args meth c E cX11_allOf 4 RX11 (some .int)) : ∀ x, Mo_allOf_L4 N S l1 x = some r → ∀ (H : Heap) (locs : List Loc) (ls : Array Slot), Wd E (wM V E) s.heap S H locs → lv_has ls 4 [(0, .ref (ea E 44)), (1, .int l1), (2, .int x.1), (3, .int x.2)] → W p l e (rmh 1) s m args below meth c H locs 0 0 (MQ below (QW E (wM V E) (some (.int r)) S) args s 0 0 (eA E)) (F0 m 4 ls []) :=
  lp_W (fun k x hk hf H locs ls hw hl => w_Mo_allOf_b4 C hk hw hl hf) N
set_option maxRecDepth 20000 in
theorem w_Mo_allOf {N : Nat} {p1 : Int32} {r : Int32} (C : Cx p s m args meth c E cX11_allOf 4 RX11 (some .int)) (hw : Wd E (wM V E) s.heap S H locs) (hl : lv_has ls 4 [(0, .ref (ea E 44)), (1, .int p1)]) (hf : Mo_allOf N S p1 = some r) : W p l e (rmh 1) s m args below meth c H locs 0 0 (MQ below (QW E (wM V E) (some (.int r)) S) args s 0 0 (eA E)) (F0 m 0 ls []) := by
  have hx := C.1
  have hb := C.2.1
  unfold Mo_allOf at hf
  refine lv_iconst (v := 0) hx hb dX11_allOf_0 kc_0 ?_
  refine lv_istore_n (lv' := [(2, .int (0 : Int32)), (0, .ref (ea E 44)), (1, .int p1)]) hx hb dX11_allOf_1 rfl hl (by decide) rfl (fun ls hl => ?_)
  refine lv_iconst (v := 0) hx hb dX11_allOf_2 kc_0 ?_
  refine lv_istore_n (lv' := [(3, .int (0 : Int32)), (2, .int (0 : Int32)), (0, .ref (ea E 44)), (1, .int p1)]) hx hb dX11_allOf_3 rfl hl (by decide) rfl (fun ls hl => ?_)
  exact w_Mo_allOf_L4 C _ hf _ _ _ hw (lv_sub hl [2, 3, 1, 0] rfl)
end
theorem t_Mo_allOf {l : Launch} {V : St} {N : Nat} {S : St} {p1 : Int32} {r : Int32} (hf : Mo_allOf N S p1 = some r) : Ct l (wM V) yX11_allOf cX11_allOf 4 (some .int) 1 (fun E => [.ref (ea E 44), .int p1]) S (fun E => some (.int r)) S :=
  ofBlock (by decide +kernel) (fun _ => Nat.le_of_ble_eq_true rfl) (fun E p e s m args below meth c ls C hw hl => w_Mo_allOf C hw hl hf)
theorem dX11_can_0 : decode cX11_can 0 = .ok (.aload_n 0, 1) := by decide +kernel
theorem dX11_can_1 : decode cX11_can 1 = .ok (.iload_n 1, 1) := by decide +kernel
theorem dX11_can_2 : decode cX11_can 2 = .ok (.i2l, 1) := by decide +kernel
theorem dX11_can_3 : decode cX11_can 3 = .ok (.invokevirtual 97, 3) := by decide +kernel
theorem dX11_can_6 : decode cX11_can 6 = .ok (.ifCond .eq 33, 3) := by decide +kernel
theorem dX11_can_9 : decode cX11_can 9 = .ok (.iload_n 2, 1) := by decide +kernel
theorem dX11_can_10 : decode cX11_can 10 = .ok (.i2l, 1) := by decide +kernel
theorem dX11_can_11 : decode cX11_can 11 = .ok (.lconst 0, 1) := by decide +kernel
theorem dX11_can_12 : decode cX11_can 12 = .ok (.iconst 1, 1) := by decide +kernel
theorem dX11_can_13 : decode cX11_can 13 = .ok (.aload_n 0, 1) := by decide +kernel
theorem dX11_can_14 : decode cX11_can 14 = .ok (.getfield 88, 3) := by decide +kernel
theorem dX11_can_17 : decode cX11_can 17 = .ok (.ishl, 1) := by decide +kernel
theorem dX11_can_18 : decode cX11_can 18 = .ok (.iconst 1, 1) := by decide +kernel
theorem dX11_can_19 : decode cX11_can 19 = .ok (.isub, 1) := by decide +kernel
theorem dX11_can_20 : decode cX11_can 20 = .ok (.i2l, 1) := by decide +kernel
theorem dX11_can_21 : decode cX11_can 21 = .ok (.invokestatic 84, 3) := by decide +kernel
theorem dX11_can_24 : decode cX11_can 24 = .ok (.ifCond .eq 15, 3) := by decide +kernel
theorem dX11_can_27 : decode cX11_can 27 = .ok (.iload_n 2, 1) := by decide +kernel
theorem dX11_can_28 : decode cX11_can 28 = .ok (.aload_n 0, 1) := by decide +kernel
theorem dX11_can_29 : decode cX11_can 29 = .ok (.iload_n 1, 1) := by decide +kernel
theorem dX11_can_30 : decode cX11_can 30 = .ok (.invokevirtual 241, 3) := by decide +kernel
theorem dX11_can_33 : decode cX11_can 33 = .ok (.iconst (-1), 1) := by decide +kernel
theorem dX11_can_34 : decode cX11_can 34 = .ok (.ixor, 1) := by decide +kernel
theorem dX11_can_35 : decode cX11_can 35 = .ok (.iand, 1) := by decide +kernel
theorem dX11_can_36 : decode cX11_can 36 = .ok (.ifCond .eq 5, 3) := by decide +kernel
theorem dX11_can_39 : decode cX11_can 39 = .ok (.iconst (-1), 1) := by decide +kernel
theorem dX11_can_40 : decode cX11_can 40 = .ok (.ireturn, 1) := by decide +kernel
theorem dX11_can_41 : decode cX11_can 41 = .ok (.aload_n 0, 1) := by decide +kernel
theorem dX11_can_42 : decode cX11_can 42 = .ok (.iload_n 2, 1) := by decide +kernel
theorem dX11_can_43 : decode cX11_can 43 = .ok (.invokevirtual 244, 3) := by decide +kernel
theorem dX11_can_46 : decode cX11_can 46 = .ok (.ifCond .eq 7, 3) := by decide +kernel
theorem dX11_can_49 : decode cX11_can 49 = .ok (.iconst 1, 1) := by decide +kernel
theorem dX11_can_50 : decode cX11_can 50 = .ok (.goto 4, 3) := by decide +kernel
theorem dX11_can_53 : decode cX11_can 53 = .ok (.iconst 0, 1) := by decide +kernel
theorem dX11_can_54 : decode cX11_can 54 = .ok (.ireturn, 1) := by decide +kernel
section
variable {p : Program} {l : Launch} {e : Env} {s : State} {m : MethodId} {args : Array Value} {below : List Frame} {meth : Method} {c : Code} {H : Heap} {locs : List Loc} {E : Ev} {S V : St} {ls : Array Slot}
set_option maxRecDepth 20000 in
theorem w_Mo_can {N : Nat} {p1 : Int32} {p2 : Int32} {r : Int32} {S9 : St} (C : Cx p s m args meth c E cX11_can 3 RX11 (some .int)) (hw : Wd E (wM V E) s.heap S H locs) (hl : lv_has ls 3 [(0, .ref (ea E 44)), (1, .int p1), (2, .int p2)]) (hf : Mo_can N S p1 p2 = some (r, S9)) : W p l e (rmh 3) s m args below meth c H locs 0 0 (MQ below (QW E (wM V E) (some (.int r)) S9) args s 0 0 (eA E)) (F0 m 0 ls []) := by
  have hx := C.1
  have hb := C.2.1
  unfold Mo_can at hf
  refine lv_aload_n hx hb dX11_can_0 rfl (lv_at hl 0 rfl) ?_
  refine lv_iload_n hx hb dX11_can_1 rfl (lv_at hl 1 rfl) ?_
  refine lv_i2l hx hb dX11_can_2 rfl ?_
  obtain ⟨r1, hr, hf⟩ := hf_1 hf
  refine inv_Vi (q0 := 44) (ci := 11) (As := [.long (Int32.toInt64 p1)]) lk_X11_97 C hw rfl rfl rfl (t_Mo_isOne hr) rfl hl.1 dX11_can_3 rfl (Nat.le_of_ble_eq_true rfl) (by decide) (Nat.le_of_ble_eq_true rfl) rfl (fun H locs hw => ?_)
  refine lv_if_eq (tgt := 39) hx hb dX11_can_6 (by decide) (fun q => ?_) (fun q => ?_)
  · have hf := hf_t q hf
    refine lv_iconst (v := -1) hx hb dX11_can_39 kc_m1 ?_
    exact ret_iS C hw dX11_can_40 hf
  · have hf := hf_f q hf
    refine lv_iload_n hx hb dX11_can_9 rfl (lv_at hl 2 rfl) ?_
    refine lv_i2l hx hb dX11_can_10 rfl ?_
    refine lv_lconst (v := 0) hx hb dX11_can_11 rfl ?_
    refine lv_iconst (v := 1) hx hb dX11_can_12 kc_1 ?_
    refine lv_aload_n hx hb dX11_can_13 rfl (lv_at hl 0 rfl) ?_
    refine get_44_7 C hw q_1158 dX11_can_14 ?_
    refine lv_ishl hx hb dX11_can_17 ?_
    refine lv_iconst (v := 1) hx hb dX11_can_18 kc_1 ?_
    refine lv_isub hx hb dX11_can_19 ?_
    refine lv_i2l hx hb dX11_can_20 rfl ?_
    obtain ⟨r2, hr, hf⟩ := hf_1 hf
    refine inv_Si (As := [.long (Int32.toInt64 p2), .long (0 : Int64), .long (Int32.toInt64 (((1 : Int32) <<< ((gi S 44 7) &&& 31)) - (1 : Int32)))]) lk_X11_84 C hw (t_Mo_within hr) hl.1 dX11_can_21 rfl (Nat.le_of_ble_eq_true rfl) (by decide) (Nat.le_of_ble_eq_true rfl) rfl (fun H locs hw => ?_)
    refine lv_if_eq (tgt := 39) hx hb dX11_can_24 (by decide) (fun q => ?_) (fun q => ?_)
    · have hf := hf_t q hf
      refine lv_iconst (v := -1) hx hb dX11_can_39 kc_m1 ?_
      exact ret_iS C hw dX11_can_40 hf
    · have hf := hf_f q hf
      refine lv_iload_n hx hb dX11_can_27 rfl (lv_at hl 2 rfl) ?_
      refine lv_aload_n hx hb dX11_can_28 rfl (lv_at hl 0 rfl) ?_
      refine lv_iload_n hx hb dX11_can_29 rfl (lv_at hl 1 rfl) ?_
      obtain ⟨r3, hr, hf⟩ := hf_1 hf
      refine inv_Vi (q0 := 44) (ci := 11) (As := [.int p1]) lk_X11_241 C hw rfl rfl rfl (t_Mo_allOf hr) rfl hl.1 dX11_can_30 rfl (Nat.le_of_ble_eq_true rfl) (by decide) (Nat.le_of_ble_eq_true rfl) rfl (fun H locs hw => ?_)
      refine lv_iconst (v := -1) hx hb dX11_can_33 kc_m1 ?_
      refine lv_ixor hx hb dX11_can_34 ?_
      refine lv_iand hx hb dX11_can_35 ?_
      refine lv_if_eq (tgt := 41) hx hb dX11_can_36 (by decide) (fun q => ?_) (fun q => ?_)
      · have hf := hf_t q hf
        refine lv_aload_n hx hb dX11_can_41 rfl (lv_at hl 0 rfl) ?_
        refine lv_iload_n hx hb dX11_can_42 rfl (lv_at hl 2 rfl) ?_
        obtain ⟨r5, S4, hr, hf⟩ := hf_2 hf
        refine inv_Vi (q0 := 44) (ci := 11) (As := [.int p2]) lk_X11_244 C hw rfl rfl rfl (t_Mo_areAbleTo hr) rfl hl.1 dX11_can_43 rfl (Nat.le_of_ble_eq_true rfl) (by decide) (Nat.le_of_ble_eq_true rfl) rfl (fun H locs hw => ?_)
        refine lv_if_eq (tgt := 53) hx hb dX11_can_46 (by decide) (fun q => ?_) (fun q => ?_)
        · have hf := hf_t q hf
          refine lv_iconst (v := 0) hx hb dX11_can_53 kc_0 ?_
          exact ret_iS C hw dX11_can_54 hf
        · have hf := hf_f q hf
          refine lv_iconst (v := 1) hx hb dX11_can_49 kc_1 ?_
          refine lv_goto (tgt := 54) hx hb dX11_can_50 (by decide) ?_
          exact ret_iS C hw dX11_can_54 hf
      · have hf := hf_f q hf
        refine lv_iconst (v := -1) hx hb dX11_can_39 kc_m1 ?_
        exact ret_iS C hw dX11_can_40 hf
end
theorem t_Mo_can {l : Launch} {V : St} {N : Nat} {S : St} {p1 : Int32} {p2 : Int32} {r : Int32} {S9 : St} (hf : Mo_can N S p1 p2 = some (r, S9)) : Ct l (wM V) yX11_can cX11_can 3 (some .int) 3 (fun E => [.ref (ea E 44), .int p1, .int p2]) S (fun E => some (.int r)) S9 :=
  ofBlock (by decide +kernel) (fun _ => Nat.le_of_ble_eq_true rfl) (fun E p e s m args below meth c ls C hw hl => w_Mo_can C hw hl hf)
