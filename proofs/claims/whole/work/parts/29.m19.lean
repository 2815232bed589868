theorem dX11_most_0 : decode cX11_most 0 = .ok (.aload_n 0, 1) := by decide +kernel
theorem dX11_most_1 : decode cX11_most 1 = .ok (.iload_n 1, 1) := by decide +kernel
theorem dX11_most_2 : decode cX11_most 2 = .ok (.i2l, 1) := by decide +kernel
theorem dX11_most_3 : decode cX11_most 3 = .ok (.invokevirtual 97, 3) := by decide +kernel
theorem dX11_most_6 : decode cX11_most 6 = .ok (.ifCond .eq 13, 3) := by decide +kernel
theorem dX11_most_9 : decode cX11_most 9 = .ok (.iload_n 2, 1) := by decide +kernel
theorem dX11_most_10 : decode cX11_most 10 = .ok (.i2l, 1) := by decide +kernel
theorem dX11_most_11 : decode cX11_most 11 = .ok (.lconst 0, 1) := by decide +kernel
theorem dX11_most_12 : decode cX11_most 12 = .ok (.lconst 1, 1) := by decide +kernel
theorem dX11_most_13 : decode cX11_most 13 = .ok (.invokestatic 84, 3) := by decide +kernel
theorem dX11_most_16 : decode cX11_most 16 = .ok (.ifCond .ne 5, 3) := by decide +kernel
theorem dX11_most_19 : decode cX11_most 19 = .ok (.iconst (-1), 1) := by decide +kernel
theorem dX11_most_20 : decode cX11_most 20 = .ok (.ireturn, 1) := by decide +kernel
theorem dX11_most_21 : decode cX11_most 21 = .ok (.iconst 0, 1) := by decide +kernel
theorem dX11_most_22 : decode cX11_most 22 = .ok (.istore_n 3, 1) := by decide +kernel
theorem dX11_most_23 : decode cX11_most 23 = .ok (.iconst 1, 1) := by decide +kernel
theorem dX11_most_24 : decode cX11_most 24 = .ok (.istore 4, 2) := by decide +kernel
theorem dX11_most_26 : decode cX11_most 26 = .ok (.iload 4, 2) := by decide +kernel
theorem dX11_most_28 : decode cX11_most 28 = .ok (.iconst 1, 1) := by decide +kernel
theorem dX11_most_29 : decode cX11_most 29 = .ok (.aload_n 0, 1) := by decide +kernel
theorem dX11_most_30 : decode cX11_most 30 = .ok (.getfield 88, 3) := by decide +kernel
theorem dX11_most_33 : decode cX11_most 33 = .ok (.ishl, 1) := by decide +kernel
theorem dX11_most_34 : decode cX11_most 34 = .ok (.if_icmp .ge 46, 3) := by decide +kernel
theorem dX11_most_37 : decode cX11_most 37 = .ok (.iload 4, 2) := by decide +kernel
theorem dX11_most_39 : decode cX11_most 39 = .ok (.aload_n 0, 1) := by decide +kernel
theorem dX11_most_40 : decode cX11_most 40 = .ok (.iload_n 1, 1) := by decide +kernel
theorem dX11_most_41 : decode cX11_most 41 = .ok (.invokevirtual 241, 3) := by decide +kernel
theorem dX11_most_44 : decode cX11_most 44 = .ok (.iconst (-1), 1) := by decide +kernel
theorem dX11_most_45 : decode cX11_most 45 = .ok (.ixor, 1) := by decide +kernel
theorem dX11_most_46 : decode cX11_most 46 = .ok (.iand, 1) := by decide +kernel
theorem dX11_most_47 : decode cX11_most 47 = .ok (.ifCond .ne 27, 3) := by decide +kernel
theorem dX11_most_50 : decode cX11_most 50 = .ok (.iload 4, 2) := by decide +kernel
theorem dX11_most_52 : decode cX11_most 52 = .ok (.invokestatic 226, 3) := by decide +kernel
theorem dX11_most_55 : decode cX11_most 55 = .ok (.iload_n 3, 1) := by decide +kernel
theorem dX11_most_56 : decode cX11_most 56 = .ok (.invokestatic 226, 3) := by decide +kernel
theorem dX11_most_59 : decode cX11_most 59 = .ok (.if_icmp .le 15, 3) := by decide +kernel
theorem dX11_most_62 : decode cX11_most 62 = .ok (.aload_n 0, 1) := by decide +kernel
theorem dX11_most_63 : decode cX11_most 63 = .ok (.iload 4, 2) := by decide +kernel
theorem dX11_most_65 : decode cX11_most 65 = .ok (.invokevirtual 244, 3) := by decide +kernel
theorem dX11_most_68 : decode cX11_most 68 = .ok (.ifCond .eq 6, 3) := by decide +kernel
theorem dX11_most_71 : decode cX11_most 71 = .ok (.iload 4, 2) := by decide +kernel
theorem dX11_most_73 : decode cX11_most 73 = .ok (.istore_n 3, 1) := by decide +kernel
theorem dX11_most_74 : decode cX11_most 74 = .ok (.iinc 4 1, 3) := by decide +kernel
theorem dX11_most_77 : decode cX11_most 77 = .ok (.goto (-51), 3) := by decide +kernel
theorem dX11_most_80 : decode cX11_most 80 = .ok (.iload_n 2, 1) := by decide +kernel
theorem dX11_most_81 : decode cX11_most 81 = .ok (.ifCond .ne 10, 3) := by decide +kernel
theorem dX11_most_84 : decode cX11_most 84 = .ok (.iload_n 3, 1) := by decide +kernel
theorem dX11_most_85 : decode cX11_most 85 = .ok (.invokestatic 226, 3) := by decide +kernel
theorem dX11_most_88 : decode cX11_most 88 = .ok (.goto 4, 3) := by decide +kernel
theorem dX11_most_91 : decode cX11_most 91 = .ok (.iload_n 3, 1) := by decide +kernel
theorem dX11_most_92 : decode cX11_most 92 = .ok (.ireturn, 1) := by decide +kernel
section
variable {p : Program} {l : Launch} {e : Env} {s : State} {m : MethodId} {args : Array Value} {below : List Frame} {meth : Method} {c : Code} {H : Heap} {locs : List Loc} {E : Ev} {S V : St} {ls : Array Slot}
set_option maxRecDepth 20000 in
theorem w_Mo_most_b26 {N : Nat} {k26 : (St × Int32 × Int32) → Option (Int32 × St)} {l1 : Int32} {l2 : Int32} {l3 : Int32} {l4 : Int32} {r : Int32} {S9 : St} (C : Cx p s m args meth c E cX11_most 5 RX11 (some .int)) (hk26 : ∀ x, k26 x = some (r, S9) → ∀ (H : Heap) (locs : List Loc) (ls : Array Slot), Wd E (wM V E) s.heap x.1 H locs → lv_has ls 5 [(0, .ref (ea E 44)), (1, .int l1), (2, .int l2), (3, .int x.2.1), (4, .int x.2.2)] → W p l e (rmh 3) s m args below meth c H locs 0 0 (MQ below (QW E (wM V E) (some (.int r)) S9) args s 0 0 (eA E)) (F0 m 26 ls [])) (hw : Wd E (wM V E) s.heap S H locs) (hl : lv_has ls 5 [(0, .ref (ea E 44)), (1, .int l1), (2, .int l2), (3, .int l3), (4, .int l4)]) (hf : Mo_most_b26 N k26 S l1 l2 l3 l4 = some (r, S9)) : W p l e (rmh 3) s m args below meth c H locs 0 0 (MQ below (QW E (wM V E) (some (.int r)) S9) args s 0 0 (eA E)) (F0 m 26 ls []) := by
  have hx := C.1
  have hb := C.2.1
  unfold Mo_most_b26 at hf
  refine lv_iload hx hb dX11_most_26 (lv_at hl 4 rfl) ?_
  refine lv_iconst (v := 1) hx hb dX11_most_28 kc_1 ?_
  refine lv_aload_n hx hb dX11_most_29 rfl (lv_at hl 0 rfl) ?_
  refine get_44_7 C hw q_1158 dX11_most_30 ?_
  refine lv_ishl hx hb dX11_most_33 ?_
  refine lv_icmp_ge (tgt := 80) hx hb dX11_most_34 (by decide) (fun q => ?_) (fun q => ?_)
  · have hf := hf_t q hf
    refine lv_iload_n hx hb dX11_most_80 rfl (lv_at hl 2 rfl) ?_
    refine lv_if_ne (tgt := 91) hx hb dX11_most_81 (by decide) (fun q => ?_) (fun q => ?_)
    · have hf := hf_f q hf
      refine lv_iload_n hx hb dX11_most_91 rfl (lv_at hl 3 rfl) ?_
      exact ret_iS C hw dX11_most_92 hf
    · have hf := hf_t q hf
      refine lv_iload_n hx hb dX11_most_84 rfl (lv_at hl 3 rfl) ?_
      obtain ⟨r1, hr, hf⟩ := hf_1 hf
      refine inv_Si (As := [.int l3]) lk_X11_226 C hw (t_Mo_bitsOf hr) hl.1 dX11_most_85 rfl (Nat.le_of_ble_eq_true rfl) (by decide) (Nat.le_of_ble_eq_true rfl) rfl (fun H locs hw => ?_)
      refine lv_goto (tgt := 92) hx hb dX11_most_88 (by decide) ?_
      exact ret_iS C hw dX11_most_92 hf
  · have hf := hf_f q hf
    refine lv_iload hx hb dX11_most_37 (lv_at hl 4 rfl) ?_
    refine lv_aload_n hx hb dX11_most_39 rfl (lv_at hl 0 rfl) ?_
    refine lv_iload_n hx hb dX11_most_40 rfl (lv_at hl 1 rfl) ?_
    obtain ⟨r2, hr, hf⟩ := hf_1 hf
    refine inv_Vi (q0 := 44) (ci := 11) (As := [.int l1]) lk_X11_241 C hw rfl rfl rfl (t_Mo_allOf hr) rfl hl.1 dX11_most_41 rfl (Nat.le_of_ble_eq_true rfl) (by decide) (Nat.le_of_ble_eq_true rfl) rfl (fun H locs hw => ?_)
    refine lv_iconst (v := -1) hx hb dX11_most_44 kc_m1 ?_
    refine lv_ixor hx hb dX11_most_45 ?_
    refine lv_iand hx hb dX11_most_46 ?_
    refine lv_if_ne (tgt := 74) hx hb dX11_most_47 (by decide) (fun q => ?_) (fun q => ?_)
    · have hf := hf_f q hf
      obtain ⟨x3, ex3, hf⟩ := nme hf
      refine lv_iinc (v := x3) (lv' := [(4, .int x3), (0, .ref (ea E 44)), (1, .int l1), (2, .int l2), (3, .int l3)]) hx hb dX11_most_74 hl (k := 4) rfl (ki_1 ex3) (by decide) rfl (fun ls hl => ?_)
      refine lv_goto (tgt := 26) hx hb dX11_most_77 (by decide) ?_
      exact hk26 _ hf _ _ _ hw (lv_sub hl [1, 2, 3, 4, 0] rfl)
    · have hf := hf_t q hf
      refine lv_iload hx hb dX11_most_50 (lv_at hl 4 rfl) ?_
      obtain ⟨r4, hr, hf⟩ := hf_1 hf
      refine inv_Si (As := [.int l4]) lk_X11_226 C hw (t_Mo_bitsOf hr) hl.1 dX11_most_52 rfl (Nat.le_of_ble_eq_true rfl) (by decide) (Nat.le_of_ble_eq_true rfl) rfl (fun H locs hw => ?_)
      refine lv_iload_n hx hb dX11_most_55 rfl (lv_at hl 3 rfl) ?_
      obtain ⟨r5, hr, hf⟩ := hf_1 hf
      refine inv_Si (As := [.int l3]) lk_X11_226 C hw (t_Mo_bitsOf hr) hl.1 dX11_most_56 rfl (Nat.le_of_ble_eq_true rfl) (by decide) (Nat.le_of_ble_eq_true rfl) rfl (fun H locs hw => ?_)
      refine lv_icmp_le (tgt := 74) hx hb dX11_most_59 (by decide) (fun q => ?_) (fun q => ?_)
      · have hf := hf_t q hf
        obtain ⟨x6, ex6, hf⟩ := nme hf
        refine lv_iinc (v := x6) (lv' := [(4, .int x6), (0, .ref (ea E 44)), (1, .int l1), (2, .int l2), (3, .int l3)]) hx hb dX11_most_74 hl (k := 4) rfl (ki_1 ex6) (by decide) rfl (fun ls hl => ?_)
        refine lv_goto (tgt := 26) hx hb dX11_most_77 (by decide) ?_
        exact hk26 _ hf _ _ _ hw (lv_sub hl [1, 2, 3, 4, 0] rfl)
      · have hf := hf_f q hf
        refine lv_aload_n hx hb dX11_most_62 rfl (lv_at hl 0 rfl) ?_
        refine lv_iload hx hb dX11_most_63 (lv_at hl 4 rfl) ?_
        obtain ⟨r8, S7, hr, hf⟩ := hf_2 hf
        refine inv_Vi (q0 := 44) (ci := 11) (As := [.int l4]) lk_X11_244 C hw rfl rfl rfl (t_Mo_areAbleTo hr) rfl hl.1 dX11_most_65 rfl (Nat.le_of_ble_eq_true rfl) (by decide) (Nat.le_of_ble_eq_true rfl) rfl (fun H locs hw => ?_)
        refine lv_if_eq (tgt := 74) hx hb dX11_most_68 (by decide) (fun q => ?_) (fun q => ?_)
        · have hf := hf_t q hf
          obtain ⟨x9, ex9, hf⟩ := nme hf
          refine lv_iinc (v := x9) (lv' := [(4, .int x9), (0, .ref (ea E 44)), (1, .int l1), (2, .int l2), (3, .int l3)]) hx hb dX11_most_74 hl (k := 4) rfl (ki_1 ex9) (by decide) rfl (fun ls hl => ?_)
          refine lv_goto (tgt := 26) hx hb dX11_most_77 (by decide) ?_
          exact hk26 _ hf _ _ _ hw (lv_sub hl [1, 2, 3, 4, 0] rfl)
        · have hf := hf_f q hf
          refine lv_iload hx hb dX11_most_71 (lv_at hl 4 rfl) ?_
          refine lv_istore_n (lv' := [(3, .int l4), (0, .ref (ea E 44)), (1, .int l1), (2, .int l2), (4, .int l4)]) hx hb dX11_most_73 rfl hl (by decide) rfl (fun ls hl => ?_)
          obtain ⟨x10, ex10, hf⟩ := nme hf
          refine lv_iinc (v := x10) (lv' := [(4, .int x10), (3, .int l4), (0, .ref (ea E 44)), (1, .int l1), (2, .int l2)]) hx hb dX11_most_74 hl (k := 4) rfl (ki_1 ex10) (by decide) rfl (fun ls hl => ?_)
          refine lv_goto (tgt := 26) hx hb dX11_most_77 (by decide) ?_
          exact hk26 _ hf _ _ _ hw (lv_sub hl [2, 3, 4, 1, 0] rfl)
theorem w_Mo_most_L26 {N : Nat} {l1 : Int32} {l2 : Int32} {r : Int32} {S9 : St} (C : Cx p s m args meth c E cX11_most 5 RX11 (some .int)) : ∀ x, Mo_most_L26 N l1 l2 x = some (r, S9) → ∀ (H : Heap) (locs : List Loc) (ls : Array Slot), Wd E (wM V E) s.heap x.1 H locs → lv_has ls 5 [(0, .ref (ea E 44)), (1, .int l1), (2, .int l2), (3, .int x.2.1), (4, .int x.2.2)] → W p l e (rmh 3) s m args below meth c H locs 0 0 (MQ below (QW E (wM V E) (some (.int r)) S9) args s 0 0 (eA E)) (F0 m 26 ls []) :=
  lp_W (fun k x hk hf H locs ls hw hl => w_Mo_most_b26 C hk hw hl hf) N
set_option maxRecDepth 20000 in
theorem w_Mo_most {N : Nat} {p1 : Int32} {p2 : Int32} {r : Int32} {S9 : St} (C : Cx p s m args meth c E cX11_most 5 RX11 (some .int)) (hw : Wd E (wM V E) s.heap S H locs) (hl : lv_has ls 5 [(0, .ref (ea E 44)), (1, .int p1), (2, .int p2)]) (hf : Mo_most N S p1 p2 = some (r, S9)) : W p l e (rmh 3) s m args below meth c H locs 0 0 (MQ below (QW E (wM V E) (some (.int r)) S9) args s 0 0 (eA E)) (F0 m 0 ls []) := by
  have hx := C.1
  have hb := C.2.1
  unfold Mo_most at hf
  refine lv_aload_n hx hb dX11_most_0 rfl (lv_at hl 0 rfl) ?_
  refine lv_iload_n hx hb dX11_most_1 rfl (lv_at hl 1 rfl) ?_
  refine lv_i2l hx hb dX11_most_2 rfl ?_
  obtain ⟨r1, hr, hf⟩ := hf_1 hf
  refine inv_Vi (q0 := 44) (ci := 11) (As := [.long (Int32.toInt64 p1)]) lk_X11_97 C hw rfl rfl rfl (t_Mo_isOne hr) rfl hl.1 dX11_most_3 rfl (Nat.le_of_ble_eq_true rfl) (by decide) (Nat.le_of_ble_eq_true rfl) rfl (fun H locs hw => ?_)
  refine lv_if_eq (tgt := 19) hx hb dX11_most_6 (by decide) (fun q => ?_) (fun q => ?_)
  · have hf := hf_t q hf
    refine lv_iconst (v := -1) hx hb dX11_most_19 kc_m1 ?_
    exact ret_iS C hw dX11_most_20 hf
  · have hf := hf_f q hf
    refine lv_iload_n hx hb dX11_most_9 rfl (lv_at hl 2 rfl) ?_
    refine lv_i2l hx hb dX11_most_10 rfl ?_
    refine lv_lconst (v := 0) hx hb dX11_most_11 rfl ?_
    refine lv_lconst (v := 1) hx hb dX11_most_12 rfl ?_
    obtain ⟨r2, hr, hf⟩ := hf_1 hf
    refine inv_Si (As := [.long (Int32.toInt64 p2), .long (0 : Int64), .long (1 : Int64)]) lk_X11_84 C hw (t_Mo_within hr) hl.1 dX11_most_13 rfl (Nat.le_of_ble_eq_true rfl) (by decide) (Nat.le_of_ble_eq_true rfl) rfl (fun H locs hw => ?_)
    refine lv_if_ne (tgt := 21) hx hb dX11_most_16 (by decide) (fun q => ?_) (fun q => ?_)
    · have hf := hf_f q hf
      refine lv_iconst (v := 0) hx hb dX11_most_21 kc_0 ?_
      refine lv_istore_n (lv' := [(3, .int (0 : Int32)), (0, .ref (ea E 44)), (1, .int p1), (2, .int p2)]) hx hb dX11_most_22 rfl hl (by decide) rfl (fun ls hl => ?_)
      refine lv_iconst (v := 1) hx hb dX11_most_23 kc_1 ?_
      refine lv_istore (lv' := [(4, .int (1 : Int32)), (3, .int (0 : Int32)), (0, .ref (ea E 44)), (1, .int p1), (2, .int p2)]) hx hb dX11_most_24 hl (by decide) rfl (fun ls hl => ?_)
      exact w_Mo_most_L26 C _ hf _ _ _ hw (lv_sub hl [2, 3, 4, 1, 0] rfl)
    · have hf := hf_t q hf
      refine lv_iconst (v := -1) hx hb dX11_most_19 kc_m1 ?_
      exact ret_iS C hw dX11_most_20 hf
end
theorem t_Mo_most {l : Launch} {V : St} {N : Nat} {S : St} {p1 : Int32} {p2 : Int32} {r : Int32} {S9 : St} (hf : Mo_most N S p1 p2 = some (r, S9)) : Ct l (wM V) yX11_most cX11_most 5 (some .int) 3 (fun E => [.ref (ea E 44), .int p1, .int p2]) S (fun E => some (.int r)) S9 :=
  ofBlock (by decide +kernel) (fun _ => Nat.le_of_ble_eq_true rfl) (fun E p e s m args below meth c ls C hw hl => w_Mo_most C hw hl hf)
theorem dX11_isClash_0 : decode cX11_isClash 0 = .ok (.aload_n 0, 1) := by decide +kernel
theorem dX11_isClash_1 : decode cX11_isClash 1 = .ok (.iload_n 1, 1) := by decide +kernel
theorem dX11_isClash_2 : decode cX11_isClash 2 = .ok (.invokevirtual 244, 3) := by decide +kernel
theorem dX11_isClash_5 : decode cX11_isClash 5 = .ok (.ifCond .eq 5, 3) := by decide +kernel
theorem dX11_isClash_8 : decode cX11_isClash 8 = .ok (.iconst 0, 1) := by decide +kernel
theorem dX11_isClash_9 : decode cX11_isClash 9 = .ok (.ireturn, 1) := by decide +kernel
theorem dX11_isClash_10 : decode cX11_isClash 10 = .ok (.iconst 0, 1) := by decide +kernel
theorem dX11_isClash_11 : decode cX11_isClash 11 = .ok (.istore_n 2, 1) := by decide +kernel
theorem dX11_isClash_12 : decode cX11_isClash 12 = .ok (.iload_n 2, 1) := by decide +kernel
theorem dX11_isClash_13 : decode cX11_isClash 13 = .ok (.aload_n 0, 1) := by decide +kernel
theorem dX11_isClash_14 : decode cX11_isClash 14 = .ok (.getfield 88, 3) := by decide +kernel
theorem dX11_isClash_17 : decode cX11_isClash 17 = .ok (.if_icmp .ge 33, 3) := by decide +kernel
theorem dX11_isClash_20 : decode cX11_isClash 20 = .ok (.iload_n 1, 1) := by decide +kernel
theorem dX11_isClash_21 : decode cX11_isClash 21 = .ok (.iload_n 2, 1) := by decide +kernel
theorem dX11_isClash_22 : decode cX11_isClash 22 = .ok (.invokestatic 229, 3) := by decide +kernel
theorem dX11_isClash_25 : decode cX11_isClash 25 = .ok (.ifCond .eq 19, 3) := by decide +kernel
theorem dX11_isClash_28 : decode cX11_isClash 28 = .ok (.aload_n 0, 1) := by decide +kernel
theorem dX11_isClash_29 : decode cX11_isClash 29 = .ok (.iload_n 1, 1) := by decide +kernel
theorem dX11_isClash_30 : decode cX11_isClash 30 = .ok (.iconst 1, 1) := by decide +kernel
theorem dX11_isClash_31 : decode cX11_isClash 31 = .ok (.iload_n 2, 1) := by decide +kernel
theorem dX11_isClash_32 : decode cX11_isClash 32 = .ok (.ishl, 1) := by decide +kernel
theorem dX11_isClash_33 : decode cX11_isClash 33 = .ok (.iconst (-1), 1) := by decide +kernel
theorem dX11_isClash_34 : decode cX11_isClash 34 = .ok (.ixor, 1) := by decide +kernel
theorem dX11_isClash_35 : decode cX11_isClash 35 = .ok (.iand, 1) := by decide +kernel
theorem dX11_isClash_36 : decode cX11_isClash 36 = .ok (.invokevirtual 244, 3) := by decide +kernel
theorem dX11_isClash_39 : decode cX11_isClash 39 = .ok (.ifCond .ne 5, 3) := by decide +kernel
theorem dX11_isClash_42 : decode cX11_isClash 42 = .ok (.iconst 0, 1) := by decide +kernel
theorem dX11_isClash_43 : decode cX11_isClash 43 = .ok (.ireturn, 1) := by decide +kernel
theorem dX11_isClash_44 : decode cX11_isClash 44 = .ok (.iinc 2 1, 3) := by decide +kernel
theorem dX11_isClash_47 : decode cX11_isClash 47 = .ok (.goto (-35), 3) := by decide +kernel
theorem dX11_isClash_50 : decode cX11_isClash 50 = .ok (.iconst 1, 1) := by decide +kernel
theorem dX11_isClash_51 : decode cX11_isClash 51 = .ok (.ireturn, 1) := by decide +kernel
section
variable {p : Program} {l : Launch} {e : Env} {s : State} {m : MethodId} {args : Array Value} {below : List Frame} {meth : Method} {c : Code} {H : Heap} {locs : List Loc} {E : Ev} {S V : St} {ls : Array Slot}
set_option maxRecDepth 20000 in
theorem w_Mo_isClash_b12 {N : Nat} {k12 : (St × Int32) → Option (Int32 × St)} {l1 : Int32} {l2 : Int32} {r : Int32} {S9 : St} (C : Cx p s m args meth c E cX11_isClash 3 RX11 (some .boolean)) (hk12 : ∀ x, k12 x = some (r, S9) → ∀ (H : Heap) (locs : List Loc) (ls : Array Slot), Wd E (wM V E) s.heap x.1 H locs → lv_has ls 3 [(0, .ref (ea E 44)), (1, .int l1), (2, .int x.2)] → W p l e (rmh 3) s m args below meth c H locs 0 0 (MQ below (QW E (wM V E) (some (.int r)) S9) args s 0 0 (eA E)) (F0 m 12 ls [])) (hw : Wd E (wM V E) s.heap S H locs) (hl : lv_has ls 3 [(0, .ref (ea E 44)), (1, .int l1), (2, .int l2)]) (hf : Mo_isClash_b12 N k12 S l1 l2 = some (r, S9)) : W p l e (rmh 3) s m args below meth c H locs 0 0 (MQ below (QW E (wM V E) (some (.int r)) S9) args s 0 0 (eA E)) (F0 m 12 ls []) := by
  have hx := C.1
  have hb := C.2.1
  unfold Mo_isClash_b12 at hf
  refine lv_iload_n hx hb dX11_isClash_12 rfl (lv_at hl 2 rfl) ?_
  refine lv_aload_n hx hb dX11_isClash_13 rfl (lv_at hl 0 rfl) ?_
  refine get_44_7 C hw q_1158 dX11_isClash_14 ?_
  refine lv_icmp_ge (tgt := 50) hx hb dX11_isClash_17 (by decide) (fun q => ?_) (fun q => ?_)
  · have hf := hf_t q hf
    refine lv_iconst (v := 1) hx hb dX11_isClash_50 kc_1 ?_
    exact ret_zS rfl C hw dX11_isClash_51 hf
  · have hf := hf_f q hf
    refine lv_iload_n hx hb dX11_isClash_20 rfl (lv_at hl 1 rfl) ?_
    refine lv_iload_n hx hb dX11_isClash_21 rfl (lv_at hl 2 rfl) ?_
    obtain ⟨r1, hr, hf⟩ := hf_1 hf
    refine inv_Si (As := [.int l1, .int l2]) lk_X11_229 C hw (t_Mo_isIn hr) hl.1 dX11_isClash_22 rfl (Nat.le_of_ble_eq_true rfl) (by decide) (Nat.le_of_ble_eq_true rfl) rfl (fun H locs hw => ?_)
    refine lv_if_eq (tgt := 44) hx hb dX11_isClash_25 (by decide) (fun q => ?_) (fun q => ?_)
    · have hf := hf_t q hf
      obtain ⟨x2, ex2, hf⟩ := nme hf
      refine lv_iinc (v := x2) (lv' := [(2, .int x2), (0, .ref (ea E 44)), (1, .int l1)]) hx hb dX11_isClash_44 hl (k := 2) rfl (ki_1 ex2) (by decide) rfl (fun ls hl => ?_)
      refine lv_goto (tgt := 12) hx hb dX11_isClash_47 (by decide) ?_
      exact hk12 _ hf _ _ _ hw (lv_sub hl [1, 2, 0] rfl)
    · have hf := hf_f q hf
      refine lv_aload_n hx hb dX11_isClash_28 rfl (lv_at hl 0 rfl) ?_
      refine lv_iload_n hx hb dX11_isClash_29 rfl (lv_at hl 1 rfl) ?_
      refine lv_iconst (v := 1) hx hb dX11_isClash_30 kc_1 ?_
      refine lv_iload_n hx hb dX11_isClash_31 rfl (lv_at hl 2 rfl) ?_
      refine lv_ishl hx hb dX11_isClash_32 ?_
      refine lv_iconst (v := -1) hx hb dX11_isClash_33 kc_m1 ?_
      refine lv_ixor hx hb dX11_isClash_34 ?_
      refine lv_iand hx hb dX11_isClash_35 ?_
      obtain ⟨r4, S3, hr, hf⟩ := hf_2 hf
      refine inv_Vi (q0 := 44) (ci := 11) (As := [.int (l1 &&& (((1 : Int32) <<< (l2 &&& 31)) ^^^ (-1 : Int32)))]) lk_X11_244 C hw rfl rfl rfl (t_Mo_areAbleTo hr) rfl hl.1 dX11_isClash_36 rfl (Nat.le_of_ble_eq_true rfl) (by decide) (Nat.le_of_ble_eq_true rfl) rfl (fun H locs hw => ?_)
      refine lv_if_ne (tgt := 44) hx hb dX11_isClash_39 (by decide) (fun q => ?_) (fun q => ?_)
      · have hf := hf_f q hf
        obtain ⟨x5, ex5, hf⟩ := nme hf
        refine lv_iinc (v := x5) (lv' := [(2, .int x5), (0, .ref (ea E 44)), (1, .int l1)]) hx hb dX11_isClash_44 hl (k := 2) rfl (ki_1 ex5) (by decide) rfl (fun ls hl => ?_)
        refine lv_goto (tgt := 12) hx hb dX11_isClash_47 (by decide) ?_
        exact hk12 _ hf _ _ _ hw (lv_sub hl [1, 2, 0] rfl)
      · have hf := hf_t q hf
        refine lv_iconst (v := 0) hx hb dX11_isClash_42 kc_0 ?_
        exact ret_zS rfl C hw dX11_isClash_43 hf
theorem w_Mo_isClash_L12 {N : Nat} {l1 : Int32} {r : Int32} {S9 : St} (C : Cx p s m args meth c E cX11_isClash 3 RX11 (some .boolean)) : ∀ x, Mo_isClash_L12 N l1 x = some (r, S9) → ∀ (H : Heap) (locs : List Loc) (ls : Array Slot), Wd E (wM V E) s.heap x.1 H locs → lv_has ls 3 [(0, .ref (ea E 44)), (1, .int l1), (2, .int x.2)] → W p l e (rmh 3) s m args below meth c H locs 0 0 (MQ below (QW E (wM V E) (some (.int r)) S9) args s 0 0 (eA E)) (F0 m 12 ls []) :=
  lp_W (fun k x hk hf H locs ls hw hl => w_Mo_isClash_b12 C hk hw hl hf) N
set_option maxRecDepth 20000 in
theorem w_Mo_isClash {N : Nat} {p1 : Int32} {r : Int32} {S9 : St} (C : Cx p s m args meth c E cX11_isClash 3 RX11 (some .boolean)) (hw : Wd E (wM V E) s.heap S H locs) (hl : lv_has ls 3 [(0, .ref (ea E 44)), (1, .int p1)]) (hf : Mo_isClash N S p1 = some (r, S9)) : W p l e (rmh 3) s m args below meth c H locs 0 0 (MQ below (QW E (wM V E) (some (.int r)) S9) args s 0 0 (eA E)) (F0 m 0 ls []) := by
  have hx := C.1
  have hb := C.2.1
  unfold Mo_isClash at hf
  refine lv_aload_n hx hb dX11_isClash_0 rfl (lv_at hl 0 rfl) ?_
  refine lv_iload_n hx hb dX11_isClash_1 rfl (lv_at hl 1 rfl) ?_
  obtain ⟨r2, S1, hr, hf⟩ := hf_2 hf
  refine inv_Vi (q0 := 44) (ci := 11) (As := [.int p1]) lk_X11_244 C hw rfl rfl rfl (t_Mo_areAbleTo hr) rfl hl.1 dX11_isClash_2 rfl (Nat.le_of_ble_eq_true rfl) (by decide) (Nat.le_of_ble_eq_true rfl) rfl (fun H locs hw => ?_)
  refine lv_if_eq (tgt := 10) hx hb dX11_isClash_5 (by decide) (fun q => ?_) (fun q => ?_)
  · have hf := hf_t q hf
    refine lv_iconst (v := 0) hx hb dX11_isClash_10 kc_0 ?_
    refine lv_istore_n (lv' := [(2, .int (0 : Int32)), (0, .ref (ea E 44)), (1, .int p1)]) hx hb dX11_isClash_11 rfl hl (by decide) rfl (fun ls hl => ?_)
    exact w_Mo_isClash_L12 C _ hf _ _ _ hw (lv_sub hl [1, 2, 0] rfl)
  · have hf := hf_f q hf
    refine lv_iconst (v := 0) hx hb dX11_isClash_8 kc_0 ?_
    exact ret_zS rfl C hw dX11_isClash_9 hf
end
theorem t_Mo_isClash {l : Launch} {V : St} {N : Nat} {S : St} {p1 : Int32} {r : Int32} {S9 : St} (hf : Mo_isClash N S p1 = some (r, S9)) : Ct l (wM V) yX11_isClash cX11_isClash 3 (some .boolean) 3 (fun E => [.ref (ea E 44), .int p1]) S (fun E => some (.int r)) S9 :=
  ofBlock (by decide +kernel) (fun _ => Nat.le_of_ble_eq_true rfl) (fun E p e s m args below meth c ls C hw hl => w_Mo_isClash C hw hl hf)
theorem dX11_clashes_0 : decode cX11_clashes 0 = .ok (.aload_n 0, 1) := by decide +kernel
theorem dX11_clashes_1 : decode cX11_clashes 1 = .ok (.iload_n 1, 1) := by decide +kernel
theorem dX11_clashes_2 : decode cX11_clashes 2 = .ok (.i2l, 1) := by decide +kernel
theorem dX11_clashes_3 : decode cX11_clashes 3 = .ok (.invokevirtual 97, 3) := by decide +kernel
theorem dX11_clashes_6 : decode cX11_clashes 6 = .ok (.ifCond .eq 13, 3) := by decide +kernel
theorem dX11_clashes_9 : decode cX11_clashes 9 = .ok (.iload_n 2, 1) := by decide +kernel
theorem dX11_clashes_10 : decode cX11_clashes 10 = .ok (.i2l, 1) := by decide +kernel
theorem dX11_clashes_11 : decode cX11_clashes 11 = .ok (.lconst 0, 1) := by decide +kernel
theorem dX11_clashes_12 : decode cX11_clashes 12 = .ok (.lconst 1, 1) := by decide +kernel
theorem dX11_clashes_13 : decode cX11_clashes 13 = .ok (.invokestatic 84, 3) := by decide +kernel
theorem dX11_clashes_16 : decode cX11_clashes 16 = .ok (.ifCond .ne 5, 3) := by decide +kernel
theorem dX11_clashes_19 : decode cX11_clashes 19 = .ok (.iconst (-1), 1) := by decide +kernel
theorem dX11_clashes_20 : decode cX11_clashes 20 = .ok (.ireturn, 1) := by decide +kernel
theorem dX11_clashes_21 : decode cX11_clashes 21 = .ok (.iconst 0, 1) := by decide +kernel
theorem dX11_clashes_22 : decode cX11_clashes 22 = .ok (.istore_n 3, 1) := by decide +kernel
theorem dX11_clashes_23 : decode cX11_clashes 23 = .ok (.bipush (-2), 2) := by decide +kernel
theorem dX11_clashes_25 : decode cX11_clashes 25 = .ok (.istore 4, 2) := by decide +kernel
theorem dX11_clashes_27 : decode cX11_clashes 27 = .ok (.iconst 1, 1) := by decide +kernel
theorem dX11_clashes_28 : decode cX11_clashes 28 = .ok (.istore 5, 2) := by decide +kernel
theorem dX11_clashes_30 : decode cX11_clashes 30 = .ok (.iload 5, 2) := by decide +kernel
theorem dX11_clashes_32 : decode cX11_clashes 32 = .ok (.iconst 1, 1) := by decide +kernel
theorem dX11_clashes_33 : decode cX11_clashes 33 = .ok (.aload_n 0, 1) := by decide +kernel
theorem dX11_clashes_34 : decode cX11_clashes 34 = .ok (.getfield 88, 3) := by decide +kernel
theorem dX11_clashes_37 : decode cX11_clashes 37 = .ok (.ishl, 1) := by decide +kernel
theorem dX11_clashes_38 : decode cX11_clashes 38 = .ok (.if_icmp .ge 47, 3) := by decide +kernel
theorem dX11_clashes_41 : decode cX11_clashes 41 = .ok (.iload 5, 2) := by decide +kernel
theorem dX11_clashes_43 : decode cX11_clashes 43 = .ok (.aload_n 0, 1) := by decide +kernel
theorem dX11_clashes_44 : decode cX11_clashes 44 = .ok (.iload_n 1, 1) := by decide +kernel
theorem dX11_clashes_45 : decode cX11_clashes 45 = .ok (.invokevirtual 241, 3) := by decide +kernel
theorem dX11_clashes_48 : decode cX11_clashes 48 = .ok (.iconst (-1), 1) := by decide +kernel
theorem dX11_clashes_49 : decode cX11_clashes 49 = .ok (.ixor, 1) := by decide +kernel
theorem dX11_clashes_50 : decode cX11_clashes 50 = .ok (.iand, 1) := by decide +kernel
theorem dX11_clashes_51 : decode cX11_clashes 51 = .ok (.ifCond .ne 28, 3) := by decide +kernel
theorem dX11_clashes_54 : decode cX11_clashes 54 = .ok (.aload_n 0, 1) := by decide +kernel
theorem dX11_clashes_55 : decode cX11_clashes 55 = .ok (.iload 5, 2) := by decide +kernel
theorem dX11_clashes_57 : decode cX11_clashes 57 = .ok (.invokevirtual 247, 3) := by decide +kernel
theorem dX11_clashes_60 : decode cX11_clashes 60 = .ok (.ifCond .eq 19, 3) := by decide +kernel
theorem dX11_clashes_63 : decode cX11_clashes 63 = .ok (.iload_n 3, 1) := by decide +kernel
theorem dX11_clashes_64 : decode cX11_clashes 64 = .ok (.ifCond .ne 8, 3) := by decide +kernel
theorem dX11_clashes_67 : decode cX11_clashes 67 = .ok (.iload 5, 2) := by decide +kernel
theorem dX11_clashes_69 : decode cX11_clashes 69 = .ok (.goto 5, 3) := by decide +kernel
theorem dX11_clashes_72 : decode cX11_clashes 72 = .ok (.iload 4, 2) := by decide +kernel
theorem dX11_clashes_74 : decode cX11_clashes 74 = .ok (.istore 4, 2) := by decide +kernel
theorem dX11_clashes_76 : decode cX11_clashes 76 = .ok (.iinc 3 1, 3) := by decide +kernel
theorem dX11_clashes_79 : decode cX11_clashes 79 = .ok (.iinc 5 1, 3) := by decide +kernel
theorem dX11_clashes_82 : decode cX11_clashes 82 = .ok (.goto (-52), 3) := by decide +kernel
theorem dX11_clashes_85 : decode cX11_clashes 85 = .ok (.iload_n 2, 1) := by decide +kernel
theorem dX11_clashes_86 : decode cX11_clashes 86 = .ok (.ifCond .ne 7, 3) := by decide +kernel
theorem dX11_clashes_89 : decode cX11_clashes 89 = .ok (.iload_n 3, 1) := by decide +kernel
theorem dX11_clashes_90 : decode cX11_clashes 90 = .ok (.goto 5, 3) := by decide +kernel
theorem dX11_clashes_93 : decode cX11_clashes 93 = .ok (.iload 4, 2) := by decide +kernel
theorem dX11_clashes_95 : decode cX11_clashes 95 = .ok (.ireturn, 1) := by decide +kernel
section
variable {p : Program} {l : Launch} {e : Env} {s : State} {m : MethodId} {args : Array Value} {below : List Frame} {meth : Method} {c : Code} {H : Heap} {locs : List Loc} {E : Ev} {S V : St} {ls : Array Slot}
set_option maxRecDepth 20000 in
theorem w_Mo_clashes_b30 {N : Nat} {k30 : (St × Int32 × Int32 × Int32) → Option (Int32 × St)} {l1 : Int32} {l2 : Int32} {l3 : Int32} {l4 : Int32} {l5 : Int32} {r : Int32} {S9 : St} (C : Cx p s m args meth c E cX11_clashes 6 RX11 (some .int)) (hk30 : ∀ x, k30 x = some (r, S9) → ∀ (H : Heap) (locs : List Loc) (ls : Array Slot), Wd E (wM V E) s.heap x.1 H locs → lv_has ls 6 [(0, .ref (ea E 44)), (1, .int l1), (2, .int l2), (3, .int x.2.1), (4, .int x.2.2.1), (5, .int x.2.2.2)] → W p l e (rmh 4) s m args below meth c H locs 0 0 (MQ below (QW E (wM V E) (some (.int r)) S9) args s 0 0 (eA E)) (F0 m 30 ls [])) (hw : Wd E (wM V E) s.heap S H locs) (hl : lv_has ls 6 [(0, .ref (ea E 44)), (1, .int l1), (2, .int l2), (3, .int l3), (4, .int l4), (5, .int l5)]) (hf : Mo_clashes_b30 N k30 S l1 l2 l3 l4 l5 = some (r, S9)) : W p l e (rmh 4) s m args below meth c H locs 0 0 (MQ below (QW E (wM V E) (some (.int r)) S9) args s 0 0 (eA E)) (F0 m 30 ls []) := by
  have hx := C.1
  have hb := C.2.1
  unfold Mo_clashes_b30 at hf
  refine lv_iload hx hb dX11_clashes_30 (lv_at hl 5 rfl) ?_
  refine lv_iconst (v := 1) hx hb dX11_clashes_32 kc_1 ?_
  refine lv_aload_n hx hb dX11_clashes_33 rfl (lv_at hl 0 rfl) ?_
  refine get_44_7 C hw q_1158 dX11_clashes_34 ?_
  refine lv_ishl hx hb dX11_clashes_37 ?_
  refine lv_icmp_ge (tgt := 85) hx hb dX11_clashes_38 (by decide) (fun q => ?_) (fun q => ?_)
  · have hf := hf_t q hf
    refine lv_iload_n hx hb dX11_clashes_85 rfl (lv_at hl 2 rfl) ?_
    refine lv_if_ne (tgt := 93) hx hb dX11_clashes_86 (by decide) (fun q => ?_) (fun q => ?_)
    · have hf := hf_f q hf
      refine lv_iload hx hb dX11_clashes_93 (lv_at hl 4 rfl) ?_
      exact ret_iS C hw dX11_clashes_95 hf
    · have hf := hf_t q hf
      refine lv_iload_n hx hb dX11_clashes_89 rfl (lv_at hl 3 rfl) ?_
      refine lv_goto (tgt := 95) hx hb dX11_clashes_90 (by decide) ?_
      exact ret_iS C hw dX11_clashes_95 hf
  · have hf := hf_f q hf
    refine lv_iload hx hb dX11_clashes_41 (lv_at hl 5 rfl) ?_
    refine lv_aload_n hx hb dX11_clashes_43 rfl (lv_at hl 0 rfl) ?_
    refine lv_iload_n hx hb dX11_clashes_44 rfl (lv_at hl 1 rfl) ?_
    obtain ⟨r1, hr, hf⟩ := hf_1 hf
    refine inv_Vi (q0 := 44) (ci := 11) (As := [.int l1]) lk_X11_241 C hw rfl rfl rfl (t_Mo_allOf hr) rfl hl.1 dX11_clashes_45 rfl (Nat.le_of_ble_eq_true rfl) (by decide) (Nat.le_of_ble_eq_true rfl) rfl (fun H locs hw => ?_)
    refine lv_iconst (v := -1) hx hb dX11_clashes_48 kc_m1 ?_
    refine lv_ixor hx hb dX11_clashes_49 ?_
    refine lv_iand hx hb dX11_clashes_50 ?_
    refine lv_if_ne (tgt := 79) hx hb dX11_clashes_51 (by decide) (fun q => ?_) (fun q => ?_)
    · have hf := hf_f q hf
      obtain ⟨x2, ex2, hf⟩ := nme hf
      refine lv_iinc (v := x2) (lv' := [(5, .int x2), (0, .ref (ea E 44)), (1, .int l1), (2, .int l2), (3, .int l3), (4, .int l4)]) hx hb dX11_clashes_79 hl (k := 5) rfl (ki_1 ex2) (by decide) rfl (fun ls hl => ?_)
      refine lv_goto (tgt := 30) hx hb dX11_clashes_82 (by decide) ?_
      exact hk30 _ hf _ _ _ hw (lv_sub hl [1, 2, 3, 4, 5, 0] rfl)
    · have hf := hf_t q hf
      refine lv_aload_n hx hb dX11_clashes_54 rfl (lv_at hl 0 rfl) ?_
      refine lv_iload hx hb dX11_clashes_55 (lv_at hl 5 rfl) ?_
      obtain ⟨r4, S3, hr, hf⟩ := hf_2 hf
      refine inv_Vi (q0 := 44) (ci := 11) (As := [.int l5]) lk_X11_247 C hw rfl rfl rfl (t_Mo_isClash hr) rfl hl.1 dX11_clashes_57 rfl (Nat.le_of_ble_eq_true rfl) (by decide) (Nat.le_of_ble_eq_true rfl) rfl (fun H locs hw => ?_)
      refine lv_if_eq (tgt := 79) hx hb dX11_clashes_60 (by decide) (fun q => ?_) (fun q => ?_)
      · have hf := hf_t q hf
        obtain ⟨x5, ex5, hf⟩ := nme hf
        refine lv_iinc (v := x5) (lv' := [(5, .int x5), (0, .ref (ea E 44)), (1, .int l1), (2, .int l2), (3, .int l3), (4, .int l4)]) hx hb dX11_clashes_79 hl (k := 5) rfl (ki_1 ex5) (by decide) rfl (fun ls hl => ?_)
        refine lv_goto (tgt := 30) hx hb dX11_clashes_82 (by decide) ?_
        exact hk30 _ hf _ _ _ hw (lv_sub hl [1, 2, 3, 4, 5, 0] rfl)
      · have hf := hf_f q hf
        refine lv_iload_n hx hb dX11_clashes_63 rfl (lv_at hl 3 rfl) ?_
        refine lv_if_ne (tgt := 72) hx hb dX11_clashes_64 (by decide) (fun q => ?_) (fun q => ?_)
        · have hf := hf_f q hf
          refine lv_iload hx hb dX11_clashes_72 (lv_at hl 4 rfl) ?_
          refine lv_istore (lv' := [(4, .int l4), (0, .ref (ea E 44)), (1, .int l1), (2, .int l2), (3, .int l3), (5, .int l5)]) hx hb dX11_clashes_74 hl (by decide) rfl (fun ls hl => ?_)
          obtain ⟨x6, ex6, hf⟩ := nme hf
          refine lv_iinc (v := x6) (lv' := [(3, .int x6), (4, .int l4), (0, .ref (ea E 44)), (1, .int l1), (2, .int l2), (5, .int l5)]) hx hb dX11_clashes_76 hl (k := 4) rfl (ki_1 ex6) (by decide) rfl (fun ls hl => ?_)
          obtain ⟨x7, ex7, hf⟩ := nme hf
          refine lv_iinc (v := x7) (lv' := [(5, .int x7), (3, .int x6), (4, .int l4), (0, .ref (ea E 44)), (1, .int l1), (2, .int l2)]) hx hb dX11_clashes_79 hl (k := 5) rfl (ki_1 ex7) (by decide) rfl (fun ls hl => ?_)
          refine lv_goto (tgt := 30) hx hb dX11_clashes_82 (by decide) ?_
          exact hk30 _ hf _ _ _ hw (lv_sub hl [3, 4, 5, 1, 2, 0] rfl)
        · have hf := hf_t q hf
          refine lv_iload hx hb dX11_clashes_67 (lv_at hl 5 rfl) ?_
          refine lv_goto (tgt := 74) hx hb dX11_clashes_69 (by decide) ?_
          refine lv_istore (lv' := [(4, .int l5), (0, .ref (ea E 44)), (1, .int l1), (2, .int l2), (3, .int l3), (5, .int l5)]) hx hb dX11_clashes_74 hl (by decide) rfl (fun ls hl => ?_)
          obtain ⟨x8, ex8, hf⟩ := nme hf
          refine lv_iinc (v := x8) (lv' := [(3, .int x8), (4, .int l5), (0, .ref (ea E 44)), (1, .int l1), (2, .int l2), (5, .int l5)]) hx hb dX11_clashes_76 hl (k := 4) rfl (ki_1 ex8) (by decide) rfl (fun ls hl => ?_)
          obtain ⟨x9, ex9, hf⟩ := nme hf
          refine lv_iinc (v := x9) (lv' := [(5, .int x9), (3, .int x8), (4, .int l5), (0, .ref (ea E 44)), (1, .int l1), (2, .int l2)]) hx hb dX11_clashes_79 hl (k := 5) rfl (ki_1 ex9) (by decide) rfl (fun ls hl => ?_)
          refine lv_goto (tgt := 30) hx hb dX11_clashes_82 (by decide) ?_
          exact hk30 _ hf _ _ _ hw (lv_sub hl [3, 4, 5, 1, 2, 0] rfl)
theorem w_Mo_clashes_L30 {N : Nat} {l1 : Int32} {l2 : Int32} {r : Int32} {S9 : St} (C : Cx p s m args meth c E cX11_clashes 6 RX11 (some .int)) : ∀ x, Mo_clashes_L30 N l1 l2 x = some (r, S9) → ∀ (H : Heap) (locs : List Loc) (ls : Array Slot), Wd E (wM V E) s.heap x.1 H locs → lv_has ls 6 [(0, .ref (ea E 44)), (1, .int l1), (2, .int l2), (3, .int x.2.1), (4, .int x.2.2.1), (5, .int x.2.2.2)] → W p l e (rmh 4) s m args below meth c H locs 0 0 (MQ below (QW E (wM V E) (some (.int r)) S9) args s 0 0 (eA E)) (F0 m 30 ls []) :=
  lp_W (fun k x hk hf H locs ls hw hl => w_Mo_clashes_b30 C hk hw hl hf) N
set_option maxRecDepth 20000 in
theorem w_Mo_clashes {N : Nat} {p1 : Int32} {p2 : Int32} {r : Int32} {S9 : St} (C : Cx p s m args meth c E cX11_clashes 6 RX11 (some .int)) (hw : Wd E (wM V E) s.heap S H locs) (hl : lv_has ls 6 [(0, .ref (ea E 44)), (1, .int p1), (2, .int p2)]) (hf : Mo_clashes N S p1 p2 = some (r, S9)) : W p l e (rmh 4) s m args below meth c H locs 0 0 (MQ below (QW E (wM V E) (some (.int r)) S9) args s 0 0 (eA E)) (F0 m 0 ls []) := by
  have hx := C.1
  have hb := C.2.1
  unfold Mo_clashes at hf
  refine lv_aload_n hx hb dX11_clashes_0 rfl (lv_at hl 0 rfl) ?_
  refine lv_iload_n hx hb dX11_clashes_1 rfl (lv_at hl 1 rfl) ?_
  refine lv_i2l hx hb dX11_clashes_2 rfl ?_
  obtain ⟨r1, hr, hf⟩ := hf_1 hf
  refine inv_Vi (q0 := 44) (ci := 11) (As := [.long (Int32.toInt64 p1)]) lk_X11_97 C hw rfl rfl rfl (t_Mo_isOne hr) rfl hl.1 dX11_clashes_3 rfl (Nat.le_of_ble_eq_true rfl) (by decide) (Nat.le_of_ble_eq_true rfl) rfl (fun H locs hw => ?_)
  refine lv_if_eq (tgt := 19) hx hb dX11_clashes_6 (by decide) (fun q => ?_) (fun q => ?_)
  · have hf := hf_t q hf
    refine lv_iconst (v := -1) hx hb dX11_clashes_19 kc_m1 ?_
    exact ret_iS C hw dX11_clashes_20 hf
  · have hf := hf_f q hf
    refine lv_iload_n hx hb dX11_clashes_9 rfl (lv_at hl 2 rfl) ?_
    refine lv_i2l hx hb dX11_clashes_10 rfl ?_
    refine lv_lconst (v := 0) hx hb dX11_clashes_11 rfl ?_
    refine lv_lconst (v := 1) hx hb dX11_clashes_12 rfl ?_
    obtain ⟨r2, hr, hf⟩ := hf_1 hf
    refine inv_Si (As := [.long (Int32.toInt64 p2), .long (0 : Int64), .long (1 : Int64)]) lk_X11_84 C hw (t_Mo_within hr) hl.1 dX11_clashes_13 rfl (Nat.le_of_ble_eq_true rfl) (by decide) (Nat.le_of_ble_eq_true rfl) rfl (fun H locs hw => ?_)
    refine lv_if_ne (tgt := 21) hx hb dX11_clashes_16 (by decide) (fun q => ?_) (fun q => ?_)
    · have hf := hf_f q hf
      refine lv_iconst (v := 0) hx hb dX11_clashes_21 kc_0 ?_
      refine lv_istore_n (lv' := [(3, .int (0 : Int32)), (0, .ref (ea E 44)), (1, .int p1), (2, .int p2)]) hx hb dX11_clashes_22 rfl hl (by decide) rfl (fun ls hl => ?_)
      refine lv_bipush (v := -2) hx hb dX11_clashes_23 kb_m2 ?_
      refine lv_istore (lv' := [(4, .int (-2 : Int32)), (3, .int (0 : Int32)), (0, .ref (ea E 44)), (1, .int p1), (2, .int p2)]) hx hb dX11_clashes_25 hl (by decide) rfl (fun ls hl => ?_)
      refine lv_iconst (v := 1) hx hb dX11_clashes_27 kc_1 ?_
      refine lv_istore (lv' := [(5, .int (1 : Int32)), (4, .int (-2 : Int32)), (3, .int (0 : Int32)), (0, .ref (ea E 44)), (1, .int p1), (2, .int p2)]) hx hb dX11_clashes_28 hl (by decide) rfl (fun ls hl => ?_)
      exact w_Mo_clashes_L30 C _ hf _ _ _ hw (lv_sub hl [3, 4, 5, 2, 1, 0] rfl)
    · have hf := hf_t q hf
      refine lv_iconst (v := -1) hx hb dX11_clashes_19 kc_m1 ?_
      exact ret_iS C hw dX11_clashes_20 hf
end
theorem t_Mo_clashes {l : Launch} {V : St} {N : Nat} {S : St} {p1 : Int32} {p2 : Int32} {r : Int32} {S9 : St} (hf : Mo_clashes N S p1 p2 = some (r, S9)) : Ct l (wM V) yX11_clashes cX11_clashes 6 (some .int) 4 (fun E => [.ref (ea E 44), .int p1, .int p2]) S (fun E => some (.int r)) S9 :=
  ofBlock (by decide +kernel) (fun _ => Nat.le_of_ble_eq_true rfl) (fun E p e s m args below meth c ls C hw hl => w_Mo_clashes C hw hl hf)
theorem dX11_ridersBy_0 : decode cX11_ridersBy 0 = .ok (.aload_n 0, 1) := by decide +kernel
theorem dX11_ridersBy_1 : decode cX11_ridersBy 1 = .ok (.getfield 22, 3) := by decide +kernel
theorem dX11_ridersBy_4 : decode cX11_ridersBy 4 = .ok (.iload_n 1, 1) := by decide +kernel
theorem dX11_ridersBy_5 : decode cX11_ridersBy 5 = .ok (.iaload, 1) := by decide +kernel
theorem dX11_ridersBy_6 : decode cX11_ridersBy 6 = .ok (.istore 4, 2) := by decide +kernel
theorem dX11_ridersBy_8 : decode cX11_ridersBy 8 = .ok (.aload_n 0, 1) := by decide +kernel
theorem dX11_ridersBy_9 : decode cX11_ridersBy 9 = .ok (.getfield 22, 3) := by decide +kernel
theorem dX11_ridersBy_12 : decode cX11_ridersBy 12 = .ok (.iload_n 1, 1) := by decide +kernel
theorem dX11_ridersBy_13 : decode cX11_ridersBy 13 = .ok (.iload_n 2, 1) := by decide +kernel
theorem dX11_ridersBy_14 : decode cX11_ridersBy 14 = .ok (.iastore, 1) := by decide +kernel
theorem dX11_ridersBy_15 : decode cX11_ridersBy 15 = .ok (.aload_n 0, 1) := by decide +kernel
theorem dX11_ridersBy_16 : decode cX11_ridersBy 16 = .ok (.iload_n 3, 1) := by decide +kernel
theorem dX11_ridersBy_17 : decode cX11_ridersBy 17 = .ok (.invokevirtual 223, 3) := by decide +kernel
theorem dX11_ridersBy_20 : decode cX11_ridersBy 20 = .ok (.invokestatic 226, 3) := by decide +kernel
theorem dX11_ridersBy_23 : decode cX11_ridersBy 23 = .ok (.istore 5, 2) := by decide +kernel
theorem dX11_ridersBy_25 : decode cX11_ridersBy 25 = .ok (.aload_n 0, 1) := by decide +kernel
theorem dX11_ridersBy_26 : decode cX11_ridersBy 26 = .ok (.getfield 22, 3) := by decide +kernel
theorem dX11_ridersBy_29 : decode cX11_ridersBy 29 = .ok (.iload_n 1, 1) := by decide +kernel
theorem dX11_ridersBy_30 : decode cX11_ridersBy 30 = .ok (.iload 4, 2) := by decide +kernel
theorem dX11_ridersBy_32 : decode cX11_ridersBy 32 = .ok (.iastore, 1) := by decide +kernel
theorem dX11_ridersBy_33 : decode cX11_ridersBy 33 = .ok (.iload 5, 2) := by decide +kernel
theorem dX11_ridersBy_35 : decode cX11_ridersBy 35 = .ok (.ireturn, 1) := by decide +kernel
section
variable {p : Program} {l : Launch} {e : Env} {s : State} {m : MethodId} {args : Array Value} {below : List Frame} {meth : Method} {c : Code} {H : Heap} {locs : List Loc} {E : Ev} {S V : St} {ls : Array Slot}
set_option maxRecDepth 20000 in
theorem w_Mo_ridersBy {N : Nat} {p1 : Int32} {p2 : Int32} {p3 : Int32} {r : Int32} {S9 : St} (C : Cx p s m args meth c E cX11_ridersBy 6 RX11 (some .int)) (hw : Wd E (wM V E) s.heap S H locs) (hl : lv_has ls 6 [(0, .ref (ea E 44)), (1, .int p1), (2, .int p2), (3, .int p3)]) (hf : Mo_ridersBy N S p1 p2 p3 = some (r, S9)) : W p l e (rmh 5) s m args below meth c H locs 0 0 (MQ below (QW E (wM V E) (some (.int r)) S9) args s 0 0 (eA E)) (F0 m 0 ls []) := by
  have hx := C.1
  have hb := C.2.1
  unfold Mo_ridersBy at hf
  refine lv_aload_n hx hb dX11_ridersBy_0 rfl (lv_at hl 0 rfl) ?_
  refine get_44_8 C hw q_1159 dX11_ridersBy_1 ?_
  refine lv_iload_n hx hb dX11_ridersBy_4 rfl (lv_at hl 1 rfl) ?_
  obtain ⟨hc, hf⟩ := hf_ck hf
  refine ld_49 C hw hc dX11_ridersBy_5 ?_
  refine nm_i hf (fun x1 hf => ?_)
  refine lv_istore (lv' := [(4, .int x1), (0, .ref (ea E 44)), (1, .int p1), (2, .int p2), (3, .int p3)]) hx hb dX11_ridersBy_6 hl (by decide) rfl (fun ls hl => ?_)
  refine lv_aload_n hx hb dX11_ridersBy_8 rfl (lv_at hl 1 rfl) ?_
  refine get_44_8 C hw q_1159 dX11_ridersBy_9 ?_
  refine lv_iload_n hx hb dX11_ridersBy_12 rfl (lv_at hl 2 rfl) ?_
  refine lv_iload_n hx hb dX11_ridersBy_13 rfl (lv_at hl 3 rfl) ?_
  obtain ⟨hc, hf⟩ := hf_ck hf
  refine st_49 C hw hc dX11_ridersBy_14 (fun H locs hw => ?_)
  refine nm_S hf hw (fun S2 hf hw => ?_)
  refine lv_aload_n hx hb dX11_ridersBy_15 rfl (lv_at hl 1 rfl) ?_
  refine lv_iload_n hx hb dX11_ridersBy_16 rfl (lv_at hl 4 rfl) ?_
  obtain ⟨r3, hr, hf⟩ := hf_1 hf
  refine inv_Vi (q0 := 44) (ci := 11) (As := [.int p3]) lk_X11_223 C hw rfl rfl rfl (t_Mo_ridersOn hr) rfl hl.1 dX11_ridersBy_17 rfl (Nat.le_of_ble_eq_true rfl) (by decide) (Nat.le_of_ble_eq_true rfl) rfl (fun H locs hw => ?_)
  obtain ⟨r4, hr, hf⟩ := hf_1 hf
  refine inv_Si (As := [.int r3]) lk_X11_226 C hw (t_Mo_bitsOf hr) hl.1 dX11_ridersBy_20 rfl (Nat.le_of_ble_eq_true rfl) (by decide) (Nat.le_of_ble_eq_true rfl) rfl (fun H locs hw => ?_)
  refine lv_istore (lv' := [(5, .int r4), (4, .int x1), (0, .ref (ea E 44)), (1, .int p1), (2, .int p2), (3, .int p3)]) hx hb dX11_ridersBy_23 hl (by decide) rfl (fun ls hl => ?_)
  refine lv_aload_n hx hb dX11_ridersBy_25 rfl (lv_at hl 2 rfl) ?_
  refine get_44_8 C hw q_1159 dX11_ridersBy_26 ?_
  refine lv_iload_n hx hb dX11_ridersBy_29 rfl (lv_at hl 3 rfl) ?_
  refine lv_iload hx hb dX11_ridersBy_30 (lv_at hl 1 rfl) ?_
  obtain ⟨hc, hf⟩ := hf_ck hf
  refine st_49 C hw hc dX11_ridersBy_32 (fun H locs hw => ?_)
  refine nm_S hf hw (fun S5 hf hw => ?_)
  refine lv_iload hx hb dX11_ridersBy_33 (lv_at hl 0 rfl) ?_
  exact ret_iS C hw dX11_ridersBy_35 hf
end
theorem t_Mo_ridersBy {l : Launch} {V : St} {N : Nat} {S : St} {p1 : Int32} {p2 : Int32} {p3 : Int32} {r : Int32} {S9 : St} (hf : Mo_ridersBy N S p1 p2 p3 = some (r, S9)) : Ct l (wM V) yX11_ridersBy cX11_ridersBy 6 (some .int) 5 (fun E => [.ref (ea E 44), .int p1, .int p2, .int p3]) S (fun E => some (.int r)) S9 :=
  ofBlock (by decide +kernel) (fun _ => Nat.le_of_ble_eq_true rfl) (fun E p e s m args below meth c ls C hw hl => w_Mo_ridersBy C hw hl hf)
theorem dX11_hand_0 : decode cX11_hand 0 = .ok (.iload_n 1, 1) := by decide +kernel
theorem dX11_hand_1 : decode cX11_hand 1 = .ok (.ifCond .lt 51, 3) := by decide +kernel
theorem dX11_hand_4 : decode cX11_hand 4 = .ok (.aload_n 0, 1) := by decide +kernel
theorem dX11_hand_5 : decode cX11_hand 5 = .ok (.iload_n 1, 1) := by decide +kernel
theorem dX11_hand_6 : decode cX11_hand 6 = .ok (.bipush 100, 2) := by decide +kernel
theorem dX11_hand_8 : decode cX11_hand 8 = .ok (.idiv, 1) := by decide +kernel
theorem dX11_hand_9 : decode cX11_hand 9 = .ok (.i2l, 1) := by decide +kernel
theorem dX11_hand_10 : decode cX11_hand 10 = .ok (.invokevirtual 126, 3) := by decide +kernel
theorem dX11_hand_13 : decode cX11_hand 13 = .ok (.ifCond .eq 39, 3) := by decide +kernel
theorem dX11_hand_16 : decode cX11_hand 16 = .ok (.aload_n 0, 1) := by decide +kernel
theorem dX11_hand_17 : decode cX11_hand 17 = .ok (.iload_n 1, 1) := by decide +kernel
theorem dX11_hand_18 : decode cX11_hand 18 = .ok (.bipush 100, 2) := by decide +kernel
theorem dX11_hand_20 : decode cX11_hand 20 = .ok (.irem, 1) := by decide +kernel
theorem dX11_hand_21 : decode cX11_hand 21 = .ok (.i2l, 1) := by decide +kernel
theorem dX11_hand_22 : decode cX11_hand 22 = .ok (.invokevirtual 97, 3) := by decide +kernel
theorem dX11_hand_25 : decode cX11_hand 25 = .ok (.ifCond .eq 27, 3) := by decide +kernel
theorem dX11_hand_28 : decode cX11_hand 28 = .ok (.iload_n 1, 1) := by decide +kernel
theorem dX11_hand_29 : decode cX11_hand 29 = .ok (.bipush 100, 2) := by decide +kernel
theorem dX11_hand_31 : decode cX11_hand 31 = .ok (.irem, 1) := by decide +kernel
theorem dX11_hand_32 : decode cX11_hand 32 = .ok (.aload_n 0, 1) := by decide +kernel
theorem dX11_hand_33 : decode cX11_hand 33 = .ok (.getfield 22, 3) := by decide +kernel
theorem dX11_hand_36 : decode cX11_hand 36 = .ok (.iload_n 1, 1) := by decide +kernel
theorem dX11_hand_37 : decode cX11_hand 37 = .ok (.bipush 100, 2) := by decide +kernel
theorem dX11_hand_39 : decode cX11_hand 39 = .ok (.idiv, 1) := by decide +kernel
theorem dX11_hand_40 : decode cX11_hand 40 = .ok (.iaload, 1) := by decide +kernel
theorem dX11_hand_41 : decode cX11_hand 41 = .ok (.if_icmp .eq 11, 3) := by decide +kernel
theorem dX11_hand_44 : decode cX11_hand 44 = .ok (.iload_n 2, 1) := by decide +kernel
theorem dX11_hand_45 : decode cX11_hand 45 = .ok (.i2l, 1) := by decide +kernel
theorem dX11_hand_46 : decode cX11_hand 46 = .ok (.invokestatic 101, 3) := by decide +kernel
theorem dX11_hand_49 : decode cX11_hand 49 = .ok (.ifCond .ne 5, 3) := by decide +kernel
theorem dX11_hand_52 : decode cX11_hand 52 = .ok (.iconst (-1), 1) := by decide +kernel
theorem dX11_hand_53 : decode cX11_hand 53 = .ok (.ireturn, 1) := by decide +kernel
theorem dX11_hand_54 : decode cX11_hand 54 = .ok (.aload_n 0, 1) := by decide +kernel
theorem dX11_hand_55 : decode cX11_hand 55 = .ok (.getfield 9, 3) := by decide +kernel
theorem dX11_hand_58 : decode cX11_hand 58 = .ok (.bipush 48, 2) := by decide +kernel
theorem dX11_hand_60 : decode cX11_hand 60 = .ok (.iload_n 1, 1) := by decide +kernel
theorem dX11_hand_61 : decode cX11_hand 61 = .ok (.bipush 100, 2) := by decide +kernel
theorem dX11_hand_63 : decode cX11_hand 63 = .ok (.idiv, 1) := by decide +kernel
theorem dX11_hand_64 : decode cX11_hand 64 = .ok (.iadd, 1) := by decide +kernel
theorem dX11_hand_65 : decode cX11_hand 65 = .ok (.iaload, 1) := by decide +kernel
theorem dX11_hand_66 : decode cX11_hand 66 = .ok (.ifCond .lt 8, 3) := by decide +kernel
theorem dX11_hand_69 : decode cX11_hand 69 = .ok (.bipush (-5), 2) := by decide +kernel
theorem dX11_hand_71 : decode cX11_hand 71 = .ok (.goto 16, 3) := by decide +kernel
theorem dX11_hand_74 : decode cX11_hand 74 = .ok (.aload_n 0, 1) := by decide +kernel
theorem dX11_hand_75 : decode cX11_hand 75 = .ok (.iload_n 1, 1) := by decide +kernel
theorem dX11_hand_76 : decode cX11_hand 76 = .ok (.bipush 100, 2) := by decide +kernel
theorem dX11_hand_78 : decode cX11_hand 78 = .ok (.idiv, 1) := by decide +kernel
theorem dX11_hand_79 : decode cX11_hand 79 = .ok (.iload_n 1, 1) := by decide +kernel
theorem dX11_hand_80 : decode cX11_hand 80 = .ok (.bipush 100, 2) := by decide +kernel
theorem dX11_hand_82 : decode cX11_hand 82 = .ok (.irem, 1) := by decide +kernel
theorem dX11_hand_83 : decode cX11_hand 83 = .ok (.iload_n 2, 1) := by decide +kernel
theorem dX11_hand_84 : decode cX11_hand 84 = .ok (.invokevirtual 250, 3) := by decide +kernel
theorem dX11_hand_87 : decode cX11_hand 87 = .ok (.ireturn, 1) := by decide +kernel
section
variable {p : Program} {l : Launch} {e : Env} {s : State} {m : MethodId} {args : Array Value} {below : List Frame} {meth : Method} {c : Code} {H : Heap} {locs : List Loc} {E : Ev} {S V : St} {ls : Array Slot}
set_option maxRecDepth 20000 in
theorem w_Mo_hand {N : Nat} {p1 : Int32} {p2 : Int32} {r : Int32} {S9 : St} (C : Cx p s m args meth c E cX11_hand 3 RX11 (some .int)) (hw : Wd E (wM V E) s.heap S H locs) (hl : lv_has ls 3 [(0, .ref (ea E 44)), (1, .int p1), (2, .int p2)]) (hf : Mo_hand N S p1 p2 = some (r, S9)) : W p l e (rmh 6) s m args below meth c H locs 0 0 (MQ below (QW E (wM V E) (some (.int r)) S9) args s 0 0 (eA E)) (F0 m 0 ls []) := by
  have hx := C.1
  have hb := C.2.1
  unfold Mo_hand at hf
  refine lv_iload_n hx hb dX11_hand_0 rfl (lv_at hl 1 rfl) ?_
  refine lv_if_lt (tgt := 52) hx hb dX11_hand_1 (by decide) (fun q => ?_) (fun q => ?_)
  · have hf := hf_t q hf
    refine lv_iconst (v := -1) hx hb dX11_hand_52 kc_m1 ?_
    exact ret_iS C hw dX11_hand_53 hf
  · have hf := hf_f q hf
    refine lv_aload_n hx hb dX11_hand_4 rfl (lv_at hl 0 rfl) ?_
    refine lv_iload_n hx hb dX11_hand_5 rfl (lv_at hl 1 rfl) ?_
    refine lv_bipush (v := 100) hx hb dX11_hand_6 kb_100 ?_
    refine lv_idiv hx hb dX11_hand_8 (by decide) ?_
    refine lv_i2l hx hb dX11_hand_9 rfl ?_
    obtain ⟨r1, hr, hf⟩ := hf_1 hf
    refine inv_Vi (q0 := 44) (ci := 11) (As := [.long (Int32.toInt64 (p1 / (100 : Int32)))]) lk_X11_126 C hw rfl rfl rfl (t_Mo_isPromise hr) rfl hl.1 dX11_hand_10 rfl (Nat.le_of_ble_eq_true rfl) (by decide) (Nat.le_of_ble_eq_true rfl) rfl (fun H locs hw => ?_)
    refine lv_if_eq (tgt := 52) hx hb dX11_hand_13 (by decide) (fun q => ?_) (fun q => ?_)
    · have hf := hf_t q hf
      refine lv_iconst (v := -1) hx hb dX11_hand_52 kc_m1 ?_
      exact ret_iS C hw dX11_hand_53 hf
    · have hf := hf_f q hf
      refine lv_aload_n hx hb dX11_hand_16 rfl (lv_at hl 0 rfl) ?_
      refine lv_iload_n hx hb dX11_hand_17 rfl (lv_at hl 1 rfl) ?_
      refine lv_bipush (v := 100) hx hb dX11_hand_18 kb_100 ?_
      refine lv_irem hx hb dX11_hand_20 (by decide) ?_
      refine lv_i2l hx hb dX11_hand_21 rfl ?_
      obtain ⟨r2, hr, hf⟩ := hf_1 hf
      refine inv_Vi (q0 := 44) (ci := 11) (As := [.long (Int32.toInt64 (p1 - p1 / (100 : Int32) * (100 : Int32)))]) lk_X11_97 C hw rfl rfl rfl (t_Mo_isOne hr) rfl hl.1 dX11_hand_22 rfl (Nat.le_of_ble_eq_true rfl) (by decide) (Nat.le_of_ble_eq_true rfl) rfl (fun H locs hw => ?_)
      refine lv_if_eq (tgt := 52) hx hb dX11_hand_25 (by decide) (fun q => ?_) (fun q => ?_)
      · have hf := hf_t q hf
        refine lv_iconst (v := -1) hx hb dX11_hand_52 kc_m1 ?_
        exact ret_iS C hw dX11_hand_53 hf
      · have hf := hf_f q hf
        refine lv_iload_n hx hb dX11_hand_28 rfl (lv_at hl 1 rfl) ?_
        refine lv_bipush (v := 100) hx hb dX11_hand_29 kb_100 ?_
        refine lv_irem hx hb dX11_hand_31 (by decide) ?_
        refine lv_aload_n hx hb dX11_hand_32 rfl (lv_at hl 0 rfl) ?_
        refine get_44_8 C hw q_1159 dX11_hand_33 ?_
        refine lv_iload_n hx hb dX11_hand_36 rfl (lv_at hl 1 rfl) ?_
        refine lv_bipush (v := 100) hx hb dX11_hand_37 kb_100 ?_
        refine lv_idiv hx hb dX11_hand_39 (by decide) ?_
        obtain ⟨hc, hf⟩ := hf_ck hf
        refine ld_49 C hw hc dX11_hand_40 ?_
        refine lv_icmp_eq (tgt := 52) hx hb dX11_hand_41 (by decide) (fun q => ?_) (fun q => ?_)
        · have hf := hf_t q hf
          refine lv_iconst (v := -1) hx hb dX11_hand_52 kc_m1 ?_
          exact ret_iS C hw dX11_hand_53 hf
        · have hf := hf_f q hf
          refine lv_iload_n hx hb dX11_hand_44 rfl (lv_at hl 2 rfl) ?_
          refine lv_i2l hx hb dX11_hand_45 rfl ?_
          obtain ⟨r3, hr, hf⟩ := hf_1 hf
          refine inv_Si (As := [.long (Int32.toInt64 p2)]) lk_X11_101 C hw (t_Mo_isDay hr) hl.1 dX11_hand_46 rfl (Nat.le_of_ble_eq_true rfl) (by decide) (Nat.le_of_ble_eq_true rfl) rfl (fun H locs hw => ?_)
          refine lv_if_ne (tgt := 54) hx hb dX11_hand_49 (by decide) (fun q => ?_) (fun q => ?_)
          · have hf := hf_f q hf
            refine lv_aload_n hx hb dX11_hand_54 rfl (lv_at hl 0 rfl) ?_
            refine get_44_0 C hw q_1151 dX11_hand_55 ?_
            refine lv_bipush (v := 48) hx hb dX11_hand_58 kb_48 ?_
            refine lv_iload_n hx hb dX11_hand_60 rfl (lv_at hl 1 rfl) ?_
            refine lv_bipush (v := 100) hx hb dX11_hand_61 kb_100 ?_
            refine lv_idiv hx hb dX11_hand_63 (by decide) ?_
            refine lv_iadd hx hb dX11_hand_64 ?_
            obtain ⟨hc, hf⟩ := hf_ck hf
            refine ld_45 C hw hc dX11_hand_65 ?_
            refine lv_if_lt (tgt := 74) hx hb dX11_hand_66 (by decide) (fun q => ?_) (fun q => ?_)
            · have hf := hf_t q hf
              refine lv_aload_n hx hb dX11_hand_74 rfl (lv_at hl 0 rfl) ?_
              refine lv_iload_n hx hb dX11_hand_75 rfl (lv_at hl 1 rfl) ?_
              refine lv_bipush (v := 100) hx hb dX11_hand_76 kb_100 ?_
              refine lv_idiv hx hb dX11_hand_78 (by decide) ?_
              refine lv_iload_n hx hb dX11_hand_79 rfl (lv_at hl 1 rfl) ?_
              refine lv_bipush (v := 100) hx hb dX11_hand_80 kb_100 ?_
              refine lv_irem hx hb dX11_hand_82 (by decide) ?_
              refine lv_iload_n hx hb dX11_hand_83 rfl (lv_at hl 2 rfl) ?_
              obtain ⟨r5, S4, hr, hf⟩ := hf_2 hf
              refine inv_Vi (q0 := 44) (ci := 11) (As := [.int (p1 / (100 : Int32)), .int (p1 - p1 / (100 : Int32) * (100 : Int32)), .int p2]) lk_X11_250 C hw rfl rfl rfl (t_Mo_ridersBy hr) rfl hl.1 dX11_hand_84 rfl (Nat.le_of_ble_eq_true rfl) (by decide) (Nat.le_of_ble_eq_true rfl) rfl (fun H locs hw => ?_)
              exact ret_iS C hw dX11_hand_87 hf
            · have hf := hf_f q hf
              refine lv_bipush (v := -5) hx hb dX11_hand_69 kb_m5 ?_
              refine lv_goto (tgt := 87) hx hb dX11_hand_71 (by decide) ?_
              exact ret_iS C hw dX11_hand_87 hf
          · have hf := hf_t q hf
            refine lv_iconst (v := -1) hx hb dX11_hand_52 kc_m1 ?_
            exact ret_iS C hw dX11_hand_53 hf
end
theorem t_Mo_hand {l : Launch} {V : St} {N : Nat} {S : St} {p1 : Int32} {p2 : Int32} {r : Int32} {S9 : St} (hf : Mo_hand N S p1 p2 = some (r, S9)) : Ct l (wM V) yX11_hand cX11_hand 3 (some .int) 6 (fun E => [.ref (ea E 44), .int p1, .int p2]) S (fun E => some (.int r)) S9 :=
  ofBlock (by decide +kernel) (fun _ => Nat.le_of_ble_eq_true rfl) (fun E p e s m args below meth c ls C hw hl => w_Mo_hand C hw hl hf)
theorem dX11_handBest_0 : decode cX11_handBest 0 = .ok (.iload_n 1, 1) := by decide +kernel
theorem dX11_handBest_1 : decode cX11_handBest 1 = .ok (.i2l, 1) := by decide +kernel
theorem dX11_handBest_2 : decode cX11_handBest 2 = .ok (.invokestatic 101, 3) := by decide +kernel
theorem dX11_handBest_5 : decode cX11_handBest 5 = .ok (.ifCond .eq 13, 3) := by decide +kernel
theorem dX11_handBest_8 : decode cX11_handBest 8 = .ok (.iload_n 2, 1) := by decide +kernel
theorem dX11_handBest_9 : decode cX11_handBest 9 = .ok (.i2l, 1) := by decide +kernel
theorem dX11_handBest_10 : decode cX11_handBest 10 = .ok (.lconst 0, 1) := by decide +kernel
theorem dX11_handBest_11 : decode cX11_handBest 11 = .ok (.lconst 1, 1) := by decide +kernel
theorem dX11_handBest_12 : decode cX11_handBest 12 = .ok (.invokestatic 84, 3) := by decide +kernel
theorem dX11_handBest_15 : decode cX11_handBest 15 = .ok (.ifCond .ne 5, 3) := by decide +kernel
theorem dX11_handBest_18 : decode cX11_handBest 18 = .ok (.iconst (-1), 1) := by decide +kernel
theorem dX11_handBest_19 : decode cX11_handBest 19 = .ok (.ireturn, 1) := by decide +kernel
theorem dX11_handBest_20 : decode cX11_handBest 20 = .ok (.bipush (-2), 2) := by decide +kernel
theorem dX11_handBest_22 : decode cX11_handBest 22 = .ok (.istore_n 3, 1) := by decide +kernel
theorem dX11_handBest_23 : decode cX11_handBest 23 = .ok (.aload_n 0, 1) := by decide +kernel
theorem dX11_handBest_24 : decode cX11_handBest 24 = .ok (.iload_n 1, 1) := by decide +kernel
theorem dX11_handBest_25 : decode cX11_handBest 25 = .ok (.invokevirtual 223, 3) := by decide +kernel
theorem dX11_handBest_28 : decode cX11_handBest 28 = .ok (.invokestatic 226, 3) := by decide +kernel
theorem dX11_handBest_31 : decode cX11_handBest 31 = .ok (.istore 4, 2) := by decide +kernel
theorem dX11_handBest_33 : decode cX11_handBest 33 = .ok (.iconst 0, 1) := by decide +kernel
theorem dX11_handBest_34 : decode cX11_handBest 34 = .ok (.istore 5, 2) := by decide +kernel
theorem dX11_handBest_36 : decode cX11_handBest 36 = .ok (.iload 5, 2) := by decide +kernel
theorem dX11_handBest_38 : decode cX11_handBest 38 = .ok (.aload_n 0, 1) := by decide +kernel
theorem dX11_handBest_39 : decode cX11_handBest 39 = .ok (.getfield 88, 3) := by decide +kernel
theorem dX11_handBest_42 : decode cX11_handBest 42 = .ok (.if_icmp .ge 99, 3) := by decide +kernel
theorem dX11_handBest_45 : decode cX11_handBest 45 = .ok (.iconst 0, 1) := by decide +kernel
theorem dX11_handBest_46 : decode cX11_handBest 46 = .ok (.istore 6, 2) := by decide +kernel
theorem dX11_handBest_48 : decode cX11_handBest 48 = .ok (.iload 6, 2) := by decide +kernel
theorem dX11_handBest_50 : decode cX11_handBest 50 = .ok (.aload_n 0, 1) := by decide +kernel
theorem dX11_handBest_51 : decode cX11_handBest 51 = .ok (.getfield 81, 3) := by decide +kernel
theorem dX11_handBest_54 : decode cX11_handBest 54 = .ok (.if_icmp .ge 81, 3) := by decide +kernel
theorem dX11_handBest_57 : decode cX11_handBest 57 = .ok (.iload 6, 2) := by decide +kernel
theorem dX11_handBest_59 : decode cX11_handBest 59 = .ok (.aload_n 0, 1) := by decide +kernel
theorem dX11_handBest_60 : decode cX11_handBest 60 = .ok (.getfield 22, 3) := by decide +kernel
theorem dX11_handBest_63 : decode cX11_handBest 63 = .ok (.iload 5, 2) := by decide +kernel
theorem dX11_handBest_65 : decode cX11_handBest 65 = .ok (.iaload, 1) := by decide +kernel
theorem dX11_handBest_66 : decode cX11_handBest 66 = .ok (.if_icmp .eq 63, 3) := by decide +kernel
theorem dX11_handBest_69 : decode cX11_handBest 69 = .ok (.aload_n 0, 1) := by decide +kernel
theorem dX11_handBest_70 : decode cX11_handBest 70 = .ok (.getfield 9, 3) := by decide +kernel
theorem dX11_handBest_73 : decode cX11_handBest 73 = .ok (.bipush 48, 2) := by decide +kernel
theorem dX11_handBest_75 : decode cX11_handBest 75 = .ok (.iload 5, 2) := by decide +kernel
theorem dX11_handBest_77 : decode cX11_handBest 77 = .ok (.iadd, 1) := by decide +kernel
theorem dX11_handBest_78 : decode cX11_handBest 78 = .ok (.iaload, 1) := by decide +kernel
theorem dX11_handBest_79 : decode cX11_handBest 79 = .ok (.ifCond .ge 50, 3) := by decide +kernel
theorem dX11_handBest_82 : decode cX11_handBest 82 = .ok (.aload_n 0, 1) := by decide +kernel
theorem dX11_handBest_83 : decode cX11_handBest 83 = .ok (.iload 5, 2) := by decide +kernel
theorem dX11_handBest_85 : decode cX11_handBest 85 = .ok (.iload 6, 2) := by decide +kernel
theorem dX11_handBest_87 : decode cX11_handBest 87 = .ok (.iload_n 1, 1) := by decide +kernel
theorem dX11_handBest_88 : decode cX11_handBest 88 = .ok (.invokevirtual 250, 3) := by decide +kernel
theorem dX11_handBest_91 : decode cX11_handBest 91 = .ok (.istore 7, 2) := by decide +kernel
theorem dX11_handBest_93 : decode cX11_handBest 93 = .ok (.iload 7, 2) := by decide +kernel
theorem dX11_handBest_95 : decode cX11_handBest 95 = .ok (.iload 4, 2) := by decide +kernel
theorem dX11_handBest_97 : decode cX11_handBest 97 = .ok (.if_icmp .le 14, 3) := by decide +kernel
theorem dX11_handBest_100 : decode cX11_handBest 100 = .ok (.bipush 100, 2) := by decide +kernel
theorem dX11_handBest_102 : decode cX11_handBest 102 = .ok (.iload 5, 2) := by decide +kernel
theorem dX11_handBest_104 : decode cX11_handBest 104 = .ok (.imul, 1) := by decide +kernel
theorem dX11_handBest_105 : decode cX11_handBest 105 = .ok (.iload 6, 2) := by decide +kernel
theorem dX11_handBest_107 : decode cX11_handBest 107 = .ok (.iadd, 1) := by decide +kernel
theorem dX11_handBest_108 : decode cX11_handBest 108 = .ok (.goto 4, 3) := by decide +kernel
theorem dX11_handBest_111 : decode cX11_handBest 111 = .ok (.iload_n 3, 1) := by decide +kernel
theorem dX11_handBest_112 : decode cX11_handBest 112 = .ok (.istore_n 3, 1) := by decide +kernel
theorem dX11_handBest_113 : decode cX11_handBest 113 = .ok (.iload 7, 2) := by decide +kernel
theorem dX11_handBest_115 : decode cX11_handBest 115 = .ok (.iload 4, 2) := by decide +kernel
theorem dX11_handBest_117 : decode cX11_handBest 117 = .ok (.if_icmp .le 8, 3) := by decide +kernel
theorem dX11_handBest_120 : decode cX11_handBest 120 = .ok (.iload 7, 2) := by decide +kernel
theorem dX11_handBest_122 : decode cX11_handBest 122 = .ok (.goto 5, 3) := by decide +kernel
theorem dX11_handBest_125 : decode cX11_handBest 125 = .ok (.iload 4, 2) := by decide +kernel
theorem dX11_handBest_127 : decode cX11_handBest 127 = .ok (.istore 4, 2) := by decide +kernel
theorem dX11_handBest_129 : decode cX11_handBest 129 = .ok (.iinc 6 1, 3) := by decide +kernel
theorem dX11_handBest_132 : decode cX11_handBest 132 = .ok (.goto (-84), 3) := by decide +kernel
theorem dX11_handBest_135 : decode cX11_handBest 135 = .ok (.iinc 5 1, 3) := by decide +kernel
theorem dX11_handBest_138 : decode cX11_handBest 138 = .ok (.goto (-102), 3) := by decide +kernel
theorem dX11_handBest_141 : decode cX11_handBest 141 = .ok (.iload_n 3, 1) := by decide +kernel
theorem dX11_handBest_142 : decode cX11_handBest 142 = .ok (.ifCond .lt 7, 3) := by decide +kernel
theorem dX11_handBest_145 : decode cX11_handBest 145 = .ok (.iload_n 2, 1) := by decide +kernel
theorem dX11_handBest_146 : decode cX11_handBest 146 = .ok (.ifCond .ne 7, 3) := by decide +kernel
theorem dX11_handBest_149 : decode cX11_handBest 149 = .ok (.iload_n 3, 1) := by decide +kernel
theorem dX11_handBest_150 : decode cX11_handBest 150 = .ok (.goto 5, 3) := by decide +kernel
theorem dX11_handBest_153 : decode cX11_handBest 153 = .ok (.iload 4, 2) := by decide +kernel
theorem dX11_handBest_155 : decode cX11_handBest 155 = .ok (.ireturn, 1) := by decide +kernel
section
variable {p : Program} {l : Launch} {e : Env} {s : State} {m : MethodId} {args : Array Value} {below : List Frame} {meth : Method} {c : Code} {H : Heap} {locs : List Loc} {E : Ev} {S V : St} {ls : Array Slot}
set_option maxRecDepth 20000 in
theorem w_Mo_handBest_b112 {N : Nat} {k48 : (St × Int32 × Int32 × Int32) → Option (Int32 × St)} {l1 : Int32} {l2 : Int32} {l4 : Int32} {l5 : Int32} {l6 : Int32} {l7 : Int32} {s0 : Int32} {r : Int32} {S9 : St} (C : Cx p s m args meth c E cX11_handBest 8 RX11 (some .int)) (hk48 : ∀ x, k48 x = some (r, S9) → ∀ (H : Heap) (locs : List Loc) (ls : Array Slot), Wd E (wM V E) s.heap x.1 H locs → lv_has ls 8 [(0, .ref (ea E 44)), (1, .int l1), (2, .int l2), (3, .int x.2.1), (4, .int x.2.2.1), (5, .int l5), (6, .int x.2.2.2)] → W p l e (rmh 6) s m args below meth c H locs 0 0 (MQ below (QW E (wM V E) (some (.int r)) S9) args s 0 0 (eA E)) (F0 m 48 ls [])) (hw : Wd E (wM V E) s.heap S H locs) (hl : lv_has ls 8 [(0, .ref (ea E 44)), (1, .int l1), (2, .int l2), (4, .int l4), (5, .int l5), (6, .int l6), (7, .int l7)]) (hf : Mo_handBest_b112 N k48 S l1 l2 l4 l5 l6 l7 s0 = some (r, S9)) : W p l e (rmh 6) s m args below meth c H locs 0 0 (MQ below (QW E (wM V E) (some (.int r)) S9) args s 0 0 (eA E)) (F0 m 112 ls [.int s0]) := by
  have hx := C.1
  have hb := C.2.1
  unfold Mo_handBest_b112 at hf
  refine lv_istore_n (lv' := [(3, .int s0), (0, .ref (ea E 44)), (1, .int l1), (2, .int l2), (4, .int l4), (5, .int l5), (6, .int l6), (7, .int l7)]) hx hb dX11_handBest_112 rfl hl (by decide) rfl (fun ls hl => ?_)
  refine lv_iload hx hb dX11_handBest_113 (lv_at hl 7 rfl) ?_
  refine lv_iload hx hb dX11_handBest_115 (lv_at hl 4 rfl) ?_
  refine lv_icmp_le (tgt := 125) hx hb dX11_handBest_117 (by decide) (fun q => ?_) (fun q => ?_)
  · have hf := hf_t q hf
    refine lv_iload hx hb dX11_handBest_125 (lv_at hl 4 rfl) ?_
    refine lv_istore (lv' := [(4, .int l4), (3, .int s0), (0, .ref (ea E 44)), (1, .int l1), (2, .int l2), (5, .int l5), (6, .int l6), (7, .int l7)]) hx hb dX11_handBest_127 hl (by decide) rfl (fun ls hl => ?_)
    obtain ⟨x1, ex1, hf⟩ := nme hf
    refine lv_iinc (v := x1) (lv' := [(6, .int x1), (4, .int l4), (3, .int s0), (0, .ref (ea E 44)), (1, .int l1), (2, .int l2), (5, .int l5), (7, .int l7)]) hx hb dX11_handBest_129 hl (k := 6) rfl (ki_1 ex1) (by decide) rfl (fun ls hl => ?_)
    refine lv_goto (tgt := 48) hx hb dX11_handBest_132 (by decide) ?_
    exact hk48 _ hf _ _ _ hw (lv_sub hl [3, 4, 5, 2, 1, 6, 0] rfl)
  · have hf := hf_f q hf
    refine lv_iload hx hb dX11_handBest_120 (lv_at hl 7 rfl) ?_
    refine lv_goto (tgt := 127) hx hb dX11_handBest_122 (by decide) ?_
    refine lv_istore (lv' := [(4, .int l7), (3, .int s0), (0, .ref (ea E 44)), (1, .int l1), (2, .int l2), (5, .int l5), (6, .int l6), (7, .int l7)]) hx hb dX11_handBest_127 hl (by decide) rfl (fun ls hl => ?_)
    obtain ⟨x2, ex2, hf⟩ := nme hf
    refine lv_iinc (v := x2) (lv' := [(6, .int x2), (4, .int l7), (3, .int s0), (0, .ref (ea E 44)), (1, .int l1), (2, .int l2), (5, .int l5), (7, .int l7)]) hx hb dX11_handBest_129 hl (k := 6) rfl (ki_1 ex2) (by decide) rfl (fun ls hl => ?_)
    refine lv_goto (tgt := 48) hx hb dX11_handBest_132 (by decide) ?_
    exact hk48 _ hf _ _ _ hw (lv_sub hl [3, 4, 5, 2, 1, 6, 0] rfl)
set_option maxRecDepth 20000 in
theorem w_Mo_handBest_b48 {N : Nat} {k36 : (St × Int32 × Int32 × Int32) → Option (Int32 × St)} {k48 : (St × Int32 × Int32 × Int32) → Option (Int32 × St)} {l1 : Int32} {l2 : Int32} {l5 : Int32} {l3 : Int32} {l4 : Int32} {l6 : Int32} {r : Int32} {S9 : St} (C : Cx p s m args meth c E cX11_handBest 8 RX11 (some .int)) (hk36 : ∀ x, k36 x = some (r, S9) → ∀ (H : Heap) (locs : List Loc) (ls : Array Slot), Wd E (wM V E) s.heap x.1 H locs → lv_has ls 8 [(0, .ref (ea E 44)), (1, .int l1), (2, .int l2), (3, .int x.2.1), (4, .int x.2.2.1), (5, .int x.2.2.2)] → W p l e (rmh 6) s m args below meth c H locs 0 0 (MQ below (QW E (wM V E) (some (.int r)) S9) args s 0 0 (eA E)) (F0 m 36 ls [])) (hk48 : ∀ x, k48 x = some (r, S9) → ∀ (H : Heap) (locs : List Loc) (ls : Array Slot), Wd E (wM V E) s.heap x.1 H locs → lv_has ls 8 [(0, .ref (ea E 44)), (1, .int l1), (2, .int l2), (3, .int x.2.1), (4, .int x.2.2.1), (5, .int l5), (6, .int x.2.2.2)] → W p l e (rmh 6) s m args below meth c H locs 0 0 (MQ below (QW E (wM V E) (some (.int r)) S9) args s 0 0 (eA E)) (F0 m 48 ls [])) (hw : Wd E (wM V E) s.heap S H locs) (hl : lv_has ls 8 [(0, .ref (ea E 44)), (1, .int l1), (2, .int l2), (3, .int l3), (4, .int l4), (5, .int l5), (6, .int l6)]) (hf : Mo_handBest_b48 N k36 k48 S l1 l2 l5 l3 l4 l6 = some (r, S9)) : W p l e (rmh 6) s m args below meth c H locs 0 0 (MQ below (QW E (wM V E) (some (.int r)) S9) args s 0 0 (eA E)) (F0 m 48 ls []) := by
  have hx := C.1
  have hb := C.2.1
  unfold Mo_handBest_b48 at hf
  refine lv_iload hx hb dX11_handBest_48 (lv_at hl 6 rfl) ?_
  refine lv_aload_n hx hb dX11_handBest_50 rfl (lv_at hl 0 rfl) ?_
  refine get_44_6 C hw q_1157 dX11_handBest_51 ?_
  refine lv_icmp_ge (tgt := 135) hx hb dX11_handBest_54 (by decide) (fun q => ?_) (fun q => ?_)
  · have hf := hf_t q hf
    obtain ⟨x1, ex1, hf⟩ := nme hf
    refine lv_iinc (v := x1) (lv' := [(5, .int x1), (0, .ref (ea E 44)), (1, .int l1), (2, .int l2), (3, .int l3), (4, .int l4), (6, .int l6)]) hx hb dX11_handBest_135 hl (k := 5) rfl (ki_1 ex1) (by decide) rfl (fun ls hl => ?_)
    refine lv_goto (tgt := 36) hx hb dX11_handBest_138 (by decide) ?_
    exact hk36 _ hf _ _ _ hw (lv_sub hl [1, 2, 3, 4, 5, 0] rfl)
  · have hf := hf_f q hf
    refine lv_iload hx hb dX11_handBest_57 (lv_at hl 6 rfl) ?_
    refine lv_aload_n hx hb dX11_handBest_59 rfl (lv_at hl 0 rfl) ?_
    refine get_44_8 C hw q_1159 dX11_handBest_60 ?_
    refine lv_iload hx hb dX11_handBest_63 (lv_at hl 5 rfl) ?_
    obtain ⟨hc, hf⟩ := hf_ck hf
    refine ld_49 C hw hc dX11_handBest_65 ?_
    refine lv_icmp_eq (tgt := 129) hx hb dX11_handBest_66 (by decide) (fun q => ?_) (fun q => ?_)
    · have hf := hf_t q hf
      obtain ⟨x2, ex2, hf⟩ := nme hf
      refine lv_iinc (v := x2) (lv' := [(6, .int x2), (0, .ref (ea E 44)), (1, .int l1), (2, .int l2), (3, .int l3), (4, .int l4), (5, .int l5)]) hx hb dX11_handBest_129 hl (k := 6) rfl (ki_1 ex2) (by decide) rfl (fun ls hl => ?_)
      refine lv_goto (tgt := 48) hx hb dX11_handBest_132 (by decide) ?_
      exact hk48 _ hf _ _ _ hw (lv_sub hl [1, 2, 3, 4, 5, 6, 0] rfl)
    · have hf := hf_f q hf
      refine lv_aload_n hx hb dX11_handBest_69 rfl (lv_at hl 0 rfl) ?_
      refine get_44_0 C hw q_1151 dX11_handBest_70 ?_
      refine lv_bipush (v := 48) hx hb dX11_handBest_73 kb_48 ?_
      refine lv_iload hx hb dX11_handBest_75 (lv_at hl 5 rfl) ?_
      refine lv_iadd hx hb dX11_handBest_77 ?_
      obtain ⟨hc, hf⟩ := hf_ck hf
      refine ld_45 C hw hc dX11_handBest_78 ?_
      refine lv_if_ge (tgt := 129) hx hb dX11_handBest_79 (by decide) (fun q => ?_) (fun q => ?_)
      · have hf := hf_t q hf
        obtain ⟨x3, ex3, hf⟩ := nme hf
        refine lv_iinc (v := x3) (lv' := [(6, .int x3), (0, .ref (ea E 44)), (1, .int l1), (2, .int l2), (3, .int l3), (4, .int l4), (5, .int l5)]) hx hb dX11_handBest_129 hl (k := 6) rfl (ki_1 ex3) (by decide) rfl (fun ls hl => ?_)
        refine lv_goto (tgt := 48) hx hb dX11_handBest_132 (by decide) ?_
        exact hk48 _ hf _ _ _ hw (lv_sub hl [1, 2, 3, 4, 5, 6, 0] rfl)
      · have hf := hf_f q hf
        refine lv_aload_n hx hb dX11_handBest_82 rfl (lv_at hl 0 rfl) ?_
        refine lv_iload hx hb dX11_handBest_83 (lv_at hl 5 rfl) ?_
        refine lv_iload hx hb dX11_handBest_85 (lv_at hl 6 rfl) ?_
        refine lv_iload_n hx hb dX11_handBest_87 rfl (lv_at hl 1 rfl) ?_
        obtain ⟨r5, S4, hr, hf⟩ := hf_2 hf
        refine inv_Vi (q0 := 44) (ci := 11) (As := [.int l5, .int l6, .int l1]) lk_X11_250 C hw rfl rfl rfl (t_Mo_ridersBy hr) rfl hl.1 dX11_handBest_88 rfl (Nat.le_of_ble_eq_true rfl) (by decide) (Nat.le_of_ble_eq_true rfl) rfl (fun H locs hw => ?_)
        refine lv_istore (lv' := [(7, .int r5), (0, .ref (ea E 44)), (1, .int l1), (2, .int l2), (3, .int l3), (4, .int l4), (5, .int l5), (6, .int l6)]) hx hb dX11_handBest_91 hl (by decide) rfl (fun ls hl => ?_)
        refine lv_iload hx hb dX11_handBest_93 (lv_at hl 0 rfl) ?_
        refine lv_iload hx hb dX11_handBest_95 (lv_at hl 5 rfl) ?_
        refine lv_icmp_le (tgt := 111) hx hb dX11_handBest_97 (by decide) (fun q => ?_) (fun q => ?_)
        · have hf := hf_t q hf
          refine lv_iload_n hx hb dX11_handBest_111 rfl (lv_at hl 4 rfl) ?_
          exact w_Mo_handBest_b112 C hk48 hw (lv_sub hl [1, 2, 3, 5, 6, 7, 0] rfl) hf
        · have hf := hf_f q hf
          refine lv_bipush (v := 100) hx hb dX11_handBest_100 kb_100 ?_
          refine lv_iload hx hb dX11_handBest_102 (lv_at hl 6 rfl) ?_
          refine lv_imul hx hb dX11_handBest_104 ?_
          refine lv_iload hx hb dX11_handBest_105 (lv_at hl 7 rfl) ?_
          refine lv_iadd hx hb dX11_handBest_107 ?_
          refine lv_goto (tgt := 112) hx hb dX11_handBest_108 (by decide) ?_
          exact w_Mo_handBest_b112 C hk48 hw (lv_sub hl [1, 2, 3, 5, 6, 7, 0] rfl) hf
theorem w_Mo_handBest_L48 {N : Nat} {k36 : (St × Int32 × Int32 × Int32) → Option (Int32 × St)} {l1 : Int32} {l2 : Int32} {l5 : Int32} {r : Int32} {S9 : St} (C : Cx p s m args meth c E cX11_handBest 8 RX11 (some .int)) (hk36 : ∀ x, k36 x = some (r, S9) → ∀ (H : Heap) (locs : List Loc) (ls : Array Slot), Wd E (wM V E) s.heap x.1 H locs → lv_has ls 8 [(0, .ref (ea E 44)), (1, .int l1), (2, .int l2), (3, .int x.2.1), (4, .int x.2.2.1), (5, .int x.2.2.2)] → W p l e (rmh 6) s m args below meth c H locs 0 0 (MQ below (QW E (wM V E) (some (.int r)) S9) args s 0 0 (eA E)) (F0 m 36 ls [])) : ∀ x, Mo_handBest_L48 N k36 l1 l2 l5 x = some (r, S9) → ∀ (H : Heap) (locs : List Loc) (ls : Array Slot), Wd E (wM V E) s.heap x.1 H locs → lv_has ls 8 [(0, .ref (ea E 44)), (1, .int l1), (2, .int l2), (3, .int x.2.1), (4, .int x.2.2.1), (5, .int l5), (6, .int x.2.2.2)] → W p l e (rmh 6) s m args below meth c H locs 0 0 (MQ below (QW E (wM V E) (some (.int r)) S9) args s 0 0 (eA E)) (F0 m 48 ls []) :=
  lp_W (fun k x hk hf H locs ls hw hl => w_Mo_handBest_b48 C hk36 hk hw hl hf) N
set_option maxRecDepth 20000 in
theorem w_Mo_handBest_b36 {N : Nat} {k36 : (St × Int32 × Int32 × Int32) → Option (Int32 × St)} {l1 : Int32} {l2 : Int32} {l3 : Int32} {l4 : Int32} {l5 : Int32} {r : Int32} {S9 : St} (C : Cx p s m args meth c E cX11_handBest 8 RX11 (some .int)) (hk36 : ∀ x, k36 x = some (r, S9) → ∀ (H : Heap) (locs : List Loc) (ls : Array Slot), Wd E (wM V E) s.heap x.1 H locs → lv_has ls 8 [(0, .ref (ea E 44)), (1, .int l1), (2, .int l2), (3, .int x.2.1), (4, .int x.2.2.1), (5, .int x.2.2.2)] → W p l e (rmh 6) s m args below meth c H locs 0 0 (MQ below (QW E (wM V E) (some (.int r)) S9) args s 0 0 (eA E)) (F0 m 36 ls [])) (hw : Wd E (wM V E) s.heap S H locs) (hl : lv_has ls 8 [(0, .ref (ea E 44)), (1, .int l1), (2, .int l2), (3, .int l3), (4, .int l4), (5, .int l5)]) (hf : Mo_handBest_b36 N k36 S l1 l2 l3 l4 l5 = some (r, S9)) : W p l e (rmh 6) s m args below meth c H locs 0 0 (MQ below (QW E (wM V E) (some (.int r)) S9) args s 0 0 (eA E)) (F0 m 36 ls []) := by
  have hx := C.1
  have hb := C.2.1
  unfold Mo_handBest_b36 at hf
  refine lv_iload hx hb dX11_handBest_36 (lv_at hl 5 rfl) ?_
  refine lv_aload_n hx hb dX11_handBest_38 rfl (lv_at hl 0 rfl) ?_
  refine get_44_7 C hw q_1158 dX11_handBest_39 ?_
  refine lv_icmp_ge (tgt := 141) hx hb dX11_handBest_42 (by decide) (fun q => ?_) (fun q => ?_)
  · have hf := hf_t q hf
    refine lv_iload_n hx hb dX11_handBest_141 rfl (lv_at hl 3 rfl) ?_
    refine lv_if_lt (tgt := 149) hx hb dX11_handBest_142 (by decide) (fun q => ?_) (fun q => ?_)
    · have hf := hf_t q hf
      refine lv_iload_n hx hb dX11_handBest_149 rfl (lv_at hl 3 rfl) ?_
      refine lv_goto (tgt := 155) hx hb dX11_handBest_150 (by decide) ?_
      exact ret_iS C hw dX11_handBest_155 hf
    · have hf := hf_f q hf
      refine lv_iload_n hx hb dX11_handBest_145 rfl (lv_at hl 2 rfl) ?_
      refine lv_if_ne (tgt := 153) hx hb dX11_handBest_146 (by decide) (fun q => ?_) (fun q => ?_)
      · have hf := hf_f q hf
        refine lv_iload hx hb dX11_handBest_153 (lv_at hl 4 rfl) ?_
        exact ret_iS C hw dX11_handBest_155 hf
      · have hf := hf_t q hf
        refine lv_iload_n hx hb dX11_handBest_149 rfl (lv_at hl 3 rfl) ?_
        refine lv_goto (tgt := 155) hx hb dX11_handBest_150 (by decide) ?_
        exact ret_iS C hw dX11_handBest_155 hf
  · have hf := hf_f q hf
    refine lv_iconst (v := 0) hx hb dX11_handBest_45 kc_0 ?_
    refine lv_istore (lv' := [(6, .int (0 : Int32)), (0, .ref (ea E 44)), (1, .int l1), (2, .int l2), (3, .int l3), (4, .int l4), (5, .int l5)]) hx hb dX11_handBest_46 hl (by decide) rfl (fun ls hl => ?_)
    exact w_Mo_handBest_L48 C hk36 _ hf _ _ _ hw (lv_sub hl [1, 2, 3, 4, 5, 6, 0] rfl)
theorem w_Mo_handBest_L36 {N : Nat} {l1 : Int32} {l2 : Int32} {r : Int32} {S9 : St} (C : Cx p s m args meth c E cX11_handBest 8 RX11 (some .int)) : ∀ x, Mo_handBest_L36 N l1 l2 x = some (r, S9) → ∀ (H : Heap) (locs : List Loc) (ls : Array Slot), Wd E (wM V E) s.heap x.1 H locs → lv_has ls 8 [(0, .ref (ea E 44)), (1, .int l1), (2, .int l2), (3, .int x.2.1), (4, .int x.2.2.1), (5, .int x.2.2.2)] → W p l e (rmh 6) s m args below meth c H locs 0 0 (MQ below (QW E (wM V E) (some (.int r)) S9) args s 0 0 (eA E)) (F0 m 36 ls []) :=
  lp_W (fun k x hk hf H locs ls hw hl => w_Mo_handBest_b36 C hk hw hl hf) N
set_option maxRecDepth 20000 in
theorem w_Mo_handBest {N : Nat} {p1 : Int32} {p2 : Int32} {r : Int32} {S9 : St} (C : Cx p s m args meth c E cX11_handBest 8 RX11 (some .int)) (hw : Wd E (wM V E) s.heap S H locs) (hl : lv_has ls 8 [(0, .ref (ea E 44)), (1, .int p1), (2, .int p2)]) (hf : Mo_handBest N S p1 p2 = some (r, S9)) : W p l e (rmh 6) s m args below meth c H locs 0 0 (MQ below (QW E (wM V E) (some (.int r)) S9) args s 0 0 (eA E)) (F0 m 0 ls []) := by
  have hx := C.1
  have hb := C.2.1
  unfold Mo_handBest at hf
  refine lv_iload_n hx hb dX11_handBest_0 rfl (lv_at hl 1 rfl) ?_
  refine lv_i2l hx hb dX11_handBest_1 rfl ?_
  obtain ⟨r1, hr, hf⟩ := hf_1 hf
  refine inv_Si (As := [.long (Int32.toInt64 p1)]) lk_X11_101 C hw (t_Mo_isDay hr) hl.1 dX11_handBest_2 rfl (Nat.le_of_ble_eq_true rfl) (by decide) (Nat.le_of_ble_eq_true rfl) rfl (fun H locs hw => ?_)
  refine lv_if_eq (tgt := 18) hx hb dX11_handBest_5 (by decide) (fun q => ?_) (fun q => ?_)
  · have hf := hf_t q hf
    refine lv_iconst (v := -1) hx hb dX11_handBest_18 kc_m1 ?_
    exact ret_iS C hw dX11_handBest_19 hf
  · have hf := hf_f q hf
    refine lv_iload_n hx hb dX11_handBest_8 rfl (lv_at hl 2 rfl) ?_
    refine lv_i2l hx hb dX11_handBest_9 rfl ?_
    refine lv_lconst (v := 0) hx hb dX11_handBest_10 rfl ?_
    refine lv_lconst (v := 1) hx hb dX11_handBest_11 rfl ?_
    obtain ⟨r2, hr, hf⟩ := hf_1 hf
    refine inv_Si (As := [.long (Int32.toInt64 p2), .long (0 : Int64), .long (1 : Int64)]) lk_X11_84 C hw (t_Mo_within hr) hl.1 dX11_handBest_12 rfl (Nat.le_of_ble_eq_true rfl) (by decide) (Nat.le_of_ble_eq_true rfl) rfl (fun H locs hw => ?_)
    refine lv_if_ne (tgt := 20) hx hb dX11_handBest_15 (by decide) (fun q => ?_) (fun q => ?_)
    · have hf := hf_f q hf
      refine lv_bipush (v := -2) hx hb dX11_handBest_20 kb_m2 ?_
      refine lv_istore_n (lv' := [(3, .int (-2 : Int32)), (0, .ref (ea E 44)), (1, .int p1), (2, .int p2)]) hx hb dX11_handBest_22 rfl hl (by decide) rfl (fun ls hl => ?_)
      refine lv_aload_n hx hb dX11_handBest_23 rfl (lv_at hl 1 rfl) ?_
      refine lv_iload_n hx hb dX11_handBest_24 rfl (lv_at hl 2 rfl) ?_
      obtain ⟨r3, hr, hf⟩ := hf_1 hf
      refine inv_Vi (q0 := 44) (ci := 11) (As := [.int p1]) lk_X11_223 C hw rfl rfl rfl (t_Mo_ridersOn hr) rfl hl.1 dX11_handBest_25 rfl (Nat.le_of_ble_eq_true rfl) (by decide) (Nat.le_of_ble_eq_true rfl) rfl (fun H locs hw => ?_)
      obtain ⟨r4, hr, hf⟩ := hf_1 hf
      refine inv_Si (As := [.int r3]) lk_X11_226 C hw (t_Mo_bitsOf hr) hl.1 dX11_handBest_28 rfl (Nat.le_of_ble_eq_true rfl) (by decide) (Nat.le_of_ble_eq_true rfl) rfl (fun H locs hw => ?_)
      refine lv_istore (lv' := [(4, .int r4), (3, .int (-2 : Int32)), (0, .ref (ea E 44)), (1, .int p1), (2, .int p2)]) hx hb dX11_handBest_31 hl (by decide) rfl (fun ls hl => ?_)
      refine lv_iconst (v := 0) hx hb dX11_handBest_33 kc_0 ?_
      refine lv_istore (lv' := [(5, .int (0 : Int32)), (4, .int r4), (3, .int (-2 : Int32)), (0, .ref (ea E 44)), (1, .int p1), (2, .int p2)]) hx hb dX11_handBest_34 hl (by decide) rfl (fun ls hl => ?_)
      exact w_Mo_handBest_L36 C _ hf _ _ _ hw (lv_sub hl [3, 4, 5, 2, 1, 0] rfl)
    · have hf := hf_t q hf
      refine lv_iconst (v := -1) hx hb dX11_handBest_18 kc_m1 ?_
      exact ret_iS C hw dX11_handBest_19 hf
end
theorem t_Mo_handBest {l : Launch} {V : St} {N : Nat} {S : St} {p1 : Int32} {p2 : Int32} {r : Int32} {S9 : St} (hf : Mo_handBest N S p1 p2 = some (r, S9)) : Ct l (wM V) yX11_handBest cX11_handBest 8 (some .int) 6 (fun E => [.ref (ea E 44), .int p1, .int p2]) S (fun E => some (.int r)) S9 :=
  ofBlock (by decide +kernel) (fun _ => Nat.le_of_ble_eq_true rfl) (fun E p e s m args below meth c ls C hw hl => w_Mo_handBest C hw hl hf)
theorem dX11_shortsIs_0 : decode cX11_shortsIs 0 = .ok (.iload_n 1, 1) := by decide +kernel
theorem dX11_shortsIs_1 : decode cX11_shortsIs 1 = .ok (.invokestatic 114, 3) := by decide +kernel
theorem dX11_shortsIs_4 : decode cX11_shortsIs 4 = .ok (.ifCond .ne 7, 3) := by decide +kernel
theorem dX11_shortsIs_7 : decode cX11_shortsIs 7 = .ok (.iconst (-1), 1) := by decide +kernel
theorem dX11_shortsIs_8 : decode cX11_shortsIs 8 = .ok (.goto 34, 3) := by decide +kernel
theorem dX11_shortsIs_11 : decode cX11_shortsIs 11 = .ok (.aload_n 0, 1) := by decide +kernel
theorem dX11_shortsIs_12 : decode cX11_shortsIs 12 = .ok (.getfield 58, 3) := by decide +kernel
theorem dX11_shortsIs_15 : decode cX11_shortsIs 15 = .ok (.iload_n 1, 1) := by decide +kernel
theorem dX11_shortsIs_16 : decode cX11_shortsIs 16 = .ok (.iaload, 1) := by decide +kernel
theorem dX11_shortsIs_17 : decode cX11_shortsIs 17 = .ok (.ifCond .ge 8, 3) := by decide +kernel
theorem dX11_shortsIs_20 : decode cX11_shortsIs 20 = .ok (.bipush (-11), 2) := by decide +kernel
theorem dX11_shortsIs_22 : decode cX11_shortsIs 22 = .ok (.goto 20, 3) := by decide +kernel
theorem dX11_shortsIs_25 : decode cX11_shortsIs 25 = .ok (.aload_n 0, 1) := by decide +kernel
theorem dX11_shortsIs_26 : decode cX11_shortsIs 26 = .ok (.getfield 58, 3) := by decide +kernel
theorem dX11_shortsIs_29 : decode cX11_shortsIs 29 = .ok (.iload_n 1, 1) := by decide +kernel
theorem dX11_shortsIs_30 : decode cX11_shortsIs 30 = .ok (.iaload, 1) := by decide +kernel
theorem dX11_shortsIs_31 : decode cX11_shortsIs 31 = .ok (.bipush 51, 2) := by decide +kernel
theorem dX11_shortsIs_33 : decode cX11_shortsIs 33 = .ok (.if_icmp .ne 7, 3) := by decide +kernel
theorem dX11_shortsIs_36 : decode cX11_shortsIs 36 = .ok (.iconst 1, 1) := by decide +kernel
theorem dX11_shortsIs_37 : decode cX11_shortsIs 37 = .ok (.goto 5, 3) := by decide +kernel
theorem dX11_shortsIs_40 : decode cX11_shortsIs 40 = .ok (.bipush (-12), 2) := by decide +kernel
theorem dX11_shortsIs_42 : decode cX11_shortsIs 42 = .ok (.ireturn, 1) := by decide +kernel
section
variable {p : Program} {l : Launch} {e : Env} {s : State} {m : MethodId} {args : Array Value} {below : List Frame} {meth : Method} {c : Code} {H : Heap} {locs : List Loc} {E : Ev} {S V : St} {ls : Array Slot}
set_option maxRecDepth 20000 in
theorem w_Mo_shortsIs {p1 : Int32} {r : Int32} (C : Cx p s m args meth c E cX11_shortsIs 2 RX11 (some .int)) (hw : Wd E (wM V E) s.heap S H locs) (hl : lv_has ls 2 [(0, .ref (ea E 44)), (1, .int p1)]) (hf : Mo_shortsIs S p1 = some r) : W p l e (rmh 3) s m args below meth c H locs 0 0 (MQ below (QW E (wM V E) (some (.int r)) S) args s 0 0 (eA E)) (F0 m 0 ls []) := by
  have hx := C.1
  have hb := C.2.1
  unfold Mo_shortsIs at hf
  refine lv_iload_n hx hb dX11_shortsIs_0 rfl (lv_at hl 1 rfl) ?_
  obtain ⟨r1, hr, hf⟩ := hf_1 hf
  refine inv_Si (As := [.int p1]) lk_X11_114 C hw (t_Mo_isShelf hr) hl.1 dX11_shortsIs_1 rfl (Nat.le_of_ble_eq_true rfl) (by decide) (Nat.le_of_ble_eq_true rfl) rfl (fun H locs hw => ?_)
  refine lv_if_ne (tgt := 11) hx hb dX11_shortsIs_4 (by decide) (fun q => ?_) (fun q => ?_)
  · have hf := hf_f q hf
    refine lv_aload_n hx hb dX11_shortsIs_11 rfl (lv_at hl 0 rfl) ?_
    refine get_44_35 C hw q_1186 dX11_shortsIs_12 ?_
    refine lv_iload_n hx hb dX11_shortsIs_15 rfl (lv_at hl 1 rfl) ?_
    obtain ⟨hc, hf⟩ := hf_ck hf
    refine ld_61 C hw hc dX11_shortsIs_16 ?_
    refine lv_if_ge (tgt := 25) hx hb dX11_shortsIs_17 (by decide) (fun q => ?_) (fun q => ?_)
    · have hf := hf_t q hf
      refine lv_aload_n hx hb dX11_shortsIs_25 rfl (lv_at hl 0 rfl) ?_
      refine get_44_35 C hw q_1186 dX11_shortsIs_26 ?_
      refine lv_iload_n hx hb dX11_shortsIs_29 rfl (lv_at hl 1 rfl) ?_
      obtain ⟨hc, hf⟩ := hf_ck hf
      refine ld_61 C hw hc dX11_shortsIs_30 ?_
      refine lv_bipush (v := 51) hx hb dX11_shortsIs_31 kb_51 ?_
      refine lv_icmp_ne (tgt := 40) hx hb dX11_shortsIs_33 (by decide) (fun q => ?_) (fun q => ?_)
      · have hf := hf_f q hf
        refine lv_bipush (v := -12) hx hb dX11_shortsIs_40 kb_m12 ?_
        exact ret_i C hw dX11_shortsIs_42 hf
      · have hf := hf_t q hf
        refine lv_iconst (v := 1) hx hb dX11_shortsIs_36 kc_1 ?_
        refine lv_goto (tgt := 42) hx hb dX11_shortsIs_37 (by decide) ?_
        exact ret_i C hw dX11_shortsIs_42 hf
    · have hf := hf_f q hf
      refine lv_bipush (v := -11) hx hb dX11_shortsIs_20 kb_m11 ?_
      refine lv_goto (tgt := 42) hx hb dX11_shortsIs_22 (by decide) ?_
      exact ret_i C hw dX11_shortsIs_42 hf
  · have hf := hf_t q hf
    refine lv_iconst (v := -1) hx hb dX11_shortsIs_7 kc_m1 ?_
    refine lv_goto (tgt := 42) hx hb dX11_shortsIs_8 (by decide) ?_
    exact ret_i C hw dX11_shortsIs_42 hf
end
theorem t_Mo_shortsIs {l : Launch} {V : St} {S : St} {p1 : Int32} {r : Int32} (hf : Mo_shortsIs S p1 = some r) : Ct l (wM V) yX11_shortsIs cX11_shortsIs 2 (some .int) 3 (fun E => [.ref (ea E 44), .int p1]) S (fun E => some (.int r)) S :=
  ofBlock (by decide +kernel) (fun _ => Nat.le_of_ble_eq_true rfl) (fun E p e s m args below meth c ls C hw hl => w_Mo_shortsIs C hw hl hf)
theorem dX11_firstFalse_0 : decode cX11_firstFalse 0 = .ok (.iconst 0, 1) := by decide +kernel
theorem dX11_firstFalse_1 : decode cX11_firstFalse 1 = .ok (.istore_n 3, 1) := by decide +kernel
theorem dX11_firstFalse_2 : decode cX11_firstFalse 2 = .ok (.iload_n 3, 1) := by decide +kernel
theorem dX11_firstFalse_3 : decode cX11_firstFalse 3 = .ok (.aload_n 0, 1) := by decide +kernel
theorem dX11_firstFalse_4 : decode cX11_firstFalse 4 = .ok (.getfield 61, 3) := by decide +kernel
theorem dX11_firstFalse_7 : decode cX11_firstFalse 7 = .ok (.iload_n 1, 1) := by decide +kernel
theorem dX11_firstFalse_8 : decode cX11_firstFalse 8 = .ok (.iaload, 1) := by decide +kernel
theorem dX11_firstFalse_9 : decode cX11_firstFalse 9 = .ok (.if_icmp .ge 39, 3) := by decide +kernel
theorem dX11_firstFalse_12 : decode cX11_firstFalse 12 = .ok (.iload_n 3, 1) := by decide +kernel
theorem dX11_firstFalse_13 : decode cX11_firstFalse 13 = .ok (.bipush 99, 2) := by decide +kernel
theorem dX11_firstFalse_15 : decode cX11_firstFalse 15 = .ok (.if_icmp .gt 25, 3) := by decide +kernel
theorem dX11_firstFalse_18 : decode cX11_firstFalse 18 = .ok (.aload_n 0, 1) := by decide +kernel
theorem dX11_firstFalse_19 : decode cX11_firstFalse 19 = .ok (.iload_n 2, 1) := by decide +kernel
theorem dX11_firstFalse_20 : decode cX11_firstFalse 20 = .ok (.iload_n 3, 1) := by decide +kernel
theorem dX11_firstFalse_21 : decode cX11_firstFalse 21 = .ok (.invokevirtual 217, 3) := by decide +kernel
theorem dX11_firstFalse_24 : decode cX11_firstFalse 24 = .ok (.i2l, 1) := by decide +kernel
theorem dX11_firstFalse_25 : decode cX11_firstFalse 25 = .ok (.aload_n 0, 1) := by decide +kernel
theorem dX11_firstFalse_26 : decode cX11_firstFalse 26 = .ok (.getfield 64, 3) := by decide +kernel
theorem dX11_firstFalse_29 : decode cX11_firstFalse 29 = .ok (.bipush 60, 2) := by decide +kernel
theorem dX11_firstFalse_31 : decode cX11_firstFalse 31 = .ok (.iload_n 1, 1) := by decide +kernel
theorem dX11_firstFalse_32 : decode cX11_firstFalse 32 = .ok (.imul, 1) := by decide +kernel
theorem dX11_firstFalse_33 : decode cX11_firstFalse 33 = .ok (.iload_n 3, 1) := by decide +kernel
theorem dX11_firstFalse_34 : decode cX11_firstFalse 34 = .ok (.iadd, 1) := by decide +kernel
theorem dX11_firstFalse_35 : decode cX11_firstFalse 35 = .ok (.laload, 1) := by decide +kernel
theorem dX11_firstFalse_36 : decode cX11_firstFalse 36 = .ok (.lcmp, 1) := by decide +kernel
theorem dX11_firstFalse_37 : decode cX11_firstFalse 37 = .ok (.ifCond .eq 5, 3) := by decide +kernel
theorem dX11_firstFalse_40 : decode cX11_firstFalse 40 = .ok (.iload_n 3, 1) := by decide +kernel
theorem dX11_firstFalse_41 : decode cX11_firstFalse 41 = .ok (.ireturn, 1) := by decide +kernel
theorem dX11_firstFalse_42 : decode cX11_firstFalse 42 = .ok (.iinc 3 1, 3) := by decide +kernel
theorem dX11_firstFalse_45 : decode cX11_firstFalse 45 = .ok (.goto (-43), 3) := by decide +kernel
theorem dX11_firstFalse_48 : decode cX11_firstFalse 48 = .ok (.bipush (-2), 2) := by decide +kernel
theorem dX11_firstFalse_50 : decode cX11_firstFalse 50 = .ok (.ireturn, 1) := by decide +kernel
section
variable {p : Program} {l : Launch} {e : Env} {s : State} {m : MethodId} {args : Array Value} {below : List Frame} {meth : Method} {c : Code} {H : Heap} {locs : List Loc} {E : Ev} {S V : St} {ls : Array Slot}
set_option maxRecDepth 20000 in
theorem w_Mo_firstFalse_b2 {N : Nat} {k2 : (St × Int32) → Option (Int32 × St)} {l1 : Int32} {l2 : Int32} {l3 : Int32} {r : Int32} {S9 : St} (C : Cx p s m args meth c E cX11_firstFalse 4 RX11 (some .int)) (hk2 : ∀ x, k2 x = some (r, S9) → ∀ (H : Heap) (locs : List Loc) (ls : Array Slot), Wd E (wM V E) s.heap x.1 H locs → lv_has ls 4 [(0, .ref (ea E 44)), (1, .int l1), (2, .int l2), (3, .int x.2)] → W p l e (rmh (N + 7)) s m args below meth c H locs 0 0 (MQ below (QW E (wM V E) (some (.int r)) S9) args s 0 0 (eA E)) (F0 m 2 ls [])) (hw : Wd E (wM V E) s.heap S H locs) (hl : lv_has ls 4 [(0, .ref (ea E 44)), (1, .int l1), (2, .int l2), (3, .int l3)]) (hf : Mo_firstFalse_b2 N k2 S l1 l2 l3 = some (r, S9)) : W p l e (rmh (N + 7)) s m args below meth c H locs 0 0 (MQ below (QW E (wM V E) (some (.int r)) S9) args s 0 0 (eA E)) (F0 m 2 ls []) := by
  have hx := C.1
  have hb := C.2.1
  unfold Mo_firstFalse_b2 at hf
  refine lv_iload_n hx hb dX11_firstFalse_2 rfl (lv_at hl 3 rfl) ?_
  refine lv_aload_n hx hb dX11_firstFalse_3 rfl (lv_at hl 0 rfl) ?_
  refine get_44_36 C hw q_1187 dX11_firstFalse_4 ?_
  refine lv_iload_n hx hb dX11_firstFalse_7 rfl (lv_at hl 1 rfl) ?_
  obtain ⟨hc, hf⟩ := hf_ck hf
  refine ld_62 C hw hc dX11_firstFalse_8 ?_
  refine lv_icmp_ge (tgt := 48) hx hb dX11_firstFalse_9 (by decide) (fun q => ?_) (fun q => ?_)
  · have hf := hf_t q hf
    refine lv_bipush (v := -2) hx hb dX11_firstFalse_48 kb_m2 ?_
    exact ret_iS C hw dX11_firstFalse_50 hf
  · have hf := hf_f q hf
    refine lv_iload_n hx hb dX11_firstFalse_12 rfl (lv_at hl 3 rfl) ?_
    refine lv_bipush (v := 99) hx hb dX11_firstFalse_13 kb_99 ?_
    refine lv_icmp_gt (tgt := 40) hx hb dX11_firstFalse_15 (by decide) (fun q => ?_) (fun q => ?_)
    · have hf := hf_t q hf
      refine lv_iload_n hx hb dX11_firstFalse_40 rfl (lv_at hl 3 rfl) ?_
      exact ret_iS C hw dX11_firstFalse_41 hf
    · have hf := hf_f q hf
      refine lv_aload_n hx hb dX11_firstFalse_18 rfl (lv_at hl 0 rfl) ?_
      refine lv_iload_n hx hb dX11_firstFalse_19 rfl (lv_at hl 2 rfl) ?_
      refine lv_iload_n hx hb dX11_firstFalse_20 rfl (lv_at hl 3 rfl) ?_
      obtain ⟨r2, S1, hr, hf⟩ := hf_2 hf
      refine inv_Vi (q0 := 44) (ci := 11) (As := [.int l2, .int l3]) lk_X11_217 C hw rfl rfl rfl (t_Mo_creaksOf hr) rfl hl.1 dX11_firstFalse_21 rfl (by omega) (by decide) (Nat.le_of_ble_eq_true rfl) rfl (fun H locs hw => ?_)
      refine lv_i2l hx hb dX11_firstFalse_24 rfl ?_
      refine lv_aload_n hx hb dX11_firstFalse_25 rfl (lv_at hl 0 rfl) ?_
      refine get_44_37 C hw q_1188 dX11_firstFalse_26 ?_
      refine lv_bipush (v := 60) hx hb dX11_firstFalse_29 kb_60 ?_
      refine lv_iload_n hx hb dX11_firstFalse_31 rfl (lv_at hl 1 rfl) ?_
      refine lv_imul hx hb dX11_firstFalse_32 ?_
      refine lv_iload_n hx hb dX11_firstFalse_33 rfl (lv_at hl 3 rfl) ?_
      refine lv_iadd hx hb dX11_firstFalse_34 ?_
      obtain ⟨hc, hf⟩ := hf_ck hf
      refine ld_63 C hw hc dX11_firstFalse_35 ?_
      refine W.lcmp hx hb dX11_firstFalse_36 ?_
      refine lv_if_eq (tgt := 42) hx hb dX11_firstFalse_37 (by decide) (fun q => ?_) (fun q => ?_)
      · have hf := hf_t q hf
        obtain ⟨x3, ex3, hf⟩ := nme hf
        refine lv_iinc (v := x3) (lv' := [(3, .int x3), (0, .ref (ea E 44)), (1, .int l1), (2, .int l2)]) hx hb dX11_firstFalse_42 hl (k := 3) rfl (ki_1 ex3) (by decide) rfl (fun ls hl => ?_)
        refine lv_goto (tgt := 2) hx hb dX11_firstFalse_45 (by decide) ?_
        exact hk2 _ hf _ _ _ hw (lv_sub hl [1, 2, 3, 0] rfl)
      · have hf := hf_f q hf
        refine lv_iload_n hx hb dX11_firstFalse_40 rfl (lv_at hl 3 rfl) ?_
        exact ret_iS C hw dX11_firstFalse_41 hf
theorem w_Mo_firstFalse_L2 {N : Nat} {l1 : Int32} {l2 : Int32} {r : Int32} {S9 : St} (C : Cx p s m args meth c E cX11_firstFalse 4 RX11 (some .int)) : ∀ x, Mo_firstFalse_L2 N l1 l2 x = some (r, S9) → ∀ (H : Heap) (locs : List Loc) (ls : Array Slot), Wd E (wM V E) s.heap x.1 H locs → lv_has ls 4 [(0, .ref (ea E 44)), (1, .int l1), (2, .int l2), (3, .int x.2)] → W p l e (rmh (N + 7)) s m args below meth c H locs 0 0 (MQ below (QW E (wM V E) (some (.int r)) S9) args s 0 0 (eA E)) (F0 m 2 ls []) :=
  lp_W (fun k x hk hf H locs ls hw hl => w_Mo_firstFalse_b2 C hk hw hl hf) N
set_option maxRecDepth 20000 in
theorem w_Mo_firstFalse {N : Nat} {p1 : Int32} {p2 : Int32} {r : Int32} {S9 : St} (C : Cx p s m args meth c E cX11_firstFalse 4 RX11 (some .int)) (hw : Wd E (wM V E) s.heap S H locs) (hl : lv_has ls 4 [(0, .ref (ea E 44)), (1, .int p1), (2, .int p2)]) (hf : Mo_firstFalse N S p1 p2 = some (r, S9)) : W p l e (rmh (N + 7)) s m args below meth c H locs 0 0 (MQ below (QW E (wM V E) (some (.int r)) S9) args s 0 0 (eA E)) (F0 m 0 ls []) := by
  have hx := C.1
  have hb := C.2.1
  unfold Mo_firstFalse at hf
  refine lv_iconst (v := 0) hx hb dX11_firstFalse_0 kc_0 ?_
  refine lv_istore_n (lv' := [(3, .int (0 : Int32)), (0, .ref (ea E 44)), (1, .int p1), (2, .int p2)]) hx hb dX11_firstFalse_1 rfl hl (by decide) rfl (fun ls hl => ?_)
  exact w_Mo_firstFalse_L2 C _ hf _ _ _ hw (lv_sub hl [1, 2, 3, 0] rfl)
end
theorem t_Mo_firstFalse {l : Launch} {V : St} {N : Nat} {S : St} {p1 : Int32} {p2 : Int32} {r : Int32} {S9 : St} (hf : Mo_firstFalse N S p1 p2 = some (r, S9)) : Ct l (wM V) yX11_firstFalse cX11_firstFalse 4 (some .int) (N + 7) (fun E => [.ref (ea E 44), .int p1, .int p2]) S (fun E => some (.int r)) S9 :=
  ofBlock (by decide +kernel) (fun _ => Nat.le_of_ble_eq_true rfl) (fun E p e s m args below meth c ls C hw hl => w_Mo_firstFalse C hw hl hf)
theorem dX11_judge_0 : decode cX11_judge 0 = .ok (.aload_n 0, 1) := by decide +kernel
theorem dX11_judge_1 : decode cX11_judge 1 = .ok (.iload_n 1, 1) := by decide +kernel
theorem dX11_judge_2 : decode cX11_judge 2 = .ok (.invokevirtual 254, 3) := by decide +kernel
theorem dX11_judge_5 : decode cX11_judge 5 = .ok (.iconst (-1), 1) := by decide +kernel
theorem dX11_judge_6 : decode cX11_judge 6 = .ok (.if_icmp .eq 12, 3) := by decide +kernel
theorem dX11_judge_9 : decode cX11_judge 9 = .ok (.aload_n 0, 1) := by decide +kernel
theorem dX11_judge_10 : decode cX11_judge 10 = .ok (.iload_n 2, 1) := by decide +kernel
theorem dX11_judge_11 : decode cX11_judge 11 = .ok (.i2l, 1) := by decide +kernel
theorem dX11_judge_12 : decode cX11_judge 12 = .ok (.invokevirtual 97, 3) := by decide +kernel
theorem dX11_judge_15 : decode cX11_judge 15 = .ok (.ifCond .ne 7, 3) := by decide +kernel
theorem dX11_judge_18 : decode cX11_judge 18 = .ok (.iconst (-1), 1) := by decide +kernel
theorem dX11_judge_19 : decode cX11_judge 19 = .ok (.goto 25, 3) := by decide +kernel
theorem dX11_judge_22 : decode cX11_judge 22 = .ok (.aload_n 0, 1) := by decide +kernel
theorem dX11_judge_23 : decode cX11_judge 23 = .ok (.iload_n 1, 1) := by decide +kernel
theorem dX11_judge_24 : decode cX11_judge 24 = .ok (.invokevirtual 254, 3) := by decide +kernel
theorem dX11_judge_27 : decode cX11_judge 27 = .ok (.ifCond .ge 11, 3) := by decide +kernel
theorem dX11_judge_30 : decode cX11_judge 30 = .ok (.aload_n 0, 1) := by decide +kernel
theorem dX11_judge_31 : decode cX11_judge 31 = .ok (.iload_n 1, 1) := by decide +kernel
theorem dX11_judge_32 : decode cX11_judge 32 = .ok (.invokevirtual 254, 3) := by decide +kernel
theorem dX11_judge_35 : decode cX11_judge 35 = .ok (.goto 9, 3) := by decide +kernel
theorem dX11_judge_38 : decode cX11_judge 38 = .ok (.aload_n 0, 1) := by decide +kernel
theorem dX11_judge_39 : decode cX11_judge 39 = .ok (.iload_n 1, 1) := by decide +kernel
theorem dX11_judge_40 : decode cX11_judge 40 = .ok (.iload_n 2, 1) := by decide +kernel
theorem dX11_judge_41 : decode cX11_judge 41 = .ok (.invokevirtual 257, 3) := by decide +kernel
theorem dX11_judge_44 : decode cX11_judge 44 = .ok (.ireturn, 1) := by decide +kernel
section
variable {p : Program} {l : Launch} {e : Env} {s : State} {m : MethodId} {args : Array Value} {below : List Frame} {meth : Method} {c : Code} {H : Heap} {locs : List Loc} {E : Ev} {S V : St} {ls : Array Slot}
set_option maxRecDepth 20000 in
theorem w_Mo_judge {N : Nat} {p1 : Int32} {p2 : Int32} {r : Int32} {S9 : St} (C : Cx p s m args meth c E cX11_judge 3 RX11 (some .int)) (hw : Wd E (wM V E) s.heap S H locs) (hl : lv_has ls 3 [(0, .ref (ea E 44)), (1, .int p1), (2, .int p2)]) (hf : Mo_judge N S p1 p2 = some (r, S9)) : W p l e (rmh (N + 8)) s m args below meth c H locs 0 0 (MQ below (QW E (wM V E) (some (.int r)) S9) args s 0 0 (eA E)) (F0 m 0 ls []) := by
  have hx := C.1
  have hb := C.2.1
  unfold Mo_judge at hf
  refine lv_aload_n hx hb dX11_judge_0 rfl (lv_at hl 0 rfl) ?_
  refine lv_iload_n hx hb dX11_judge_1 rfl (lv_at hl 1 rfl) ?_
  obtain ⟨r1, hr, hf⟩ := hf_1 hf
  refine inv_Vi (q0 := 44) (ci := 11) (As := [.int p1]) lk_X11_254 C hw rfl rfl rfl (t_Mo_shortsIs hr) rfl hl.1 dX11_judge_2 rfl (Nat.le_of_ble_eq_true rfl) (by decide) (Nat.le_of_ble_eq_true rfl) rfl (fun H locs hw => ?_)
  refine lv_iconst (v := -1) hx hb dX11_judge_5 kc_m1 ?_
  refine lv_icmp_eq (tgt := 18) hx hb dX11_judge_6 (by decide) (fun q => ?_) (fun q => ?_)
  · have hf := hf_t q hf
    refine lv_iconst (v := -1) hx hb dX11_judge_18 kc_m1 ?_
    refine lv_goto (tgt := 44) hx hb dX11_judge_19 (by decide) ?_
    exact ret_iS C hw dX11_judge_44 hf
  · have hf := hf_f q hf
    refine lv_aload_n hx hb dX11_judge_9 rfl (lv_at hl 0 rfl) ?_
    refine lv_iload_n hx hb dX11_judge_10 rfl (lv_at hl 2 rfl) ?_
    refine lv_i2l hx hb dX11_judge_11 rfl ?_
    obtain ⟨r2, hr, hf⟩ := hf_1 hf
    refine inv_Vi (q0 := 44) (ci := 11) (As := [.long (Int32.toInt64 p2)]) lk_X11_97 C hw rfl rfl rfl (t_Mo_isOne hr) rfl hl.1 dX11_judge_12 rfl (Nat.le_of_ble_eq_true rfl) (by decide) (Nat.le_of_ble_eq_true rfl) rfl (fun H locs hw => ?_)
    refine lv_if_ne (tgt := 22) hx hb dX11_judge_15 (by decide) (fun q => ?_) (fun q => ?_)
    · have hf := hf_f q hf
      refine lv_aload_n hx hb dX11_judge_22 rfl (lv_at hl 0 rfl) ?_
      refine lv_iload_n hx hb dX11_judge_23 rfl (lv_at hl 1 rfl) ?_
      obtain ⟨r3, hr, hf⟩ := hf_1 hf
      refine inv_Vi (q0 := 44) (ci := 11) (As := [.int p1]) lk_X11_254 C hw rfl rfl rfl (t_Mo_shortsIs hr) rfl hl.1 dX11_judge_24 rfl (Nat.le_of_ble_eq_true rfl) (by decide) (Nat.le_of_ble_eq_true rfl) rfl (fun H locs hw => ?_)
      refine lv_if_ge (tgt := 38) hx hb dX11_judge_27 (by decide) (fun q => ?_) (fun q => ?_)
      · have hf := hf_t q hf
        refine lv_aload_n hx hb dX11_judge_38 rfl (lv_at hl 0 rfl) ?_
        refine lv_iload_n hx hb dX11_judge_39 rfl (lv_at hl 1 rfl) ?_
        refine lv_iload_n hx hb dX11_judge_40 rfl (lv_at hl 2 rfl) ?_
        obtain ⟨r5, S4, hr, hf⟩ := hf_2 hf
        refine inv_Vi (q0 := 44) (ci := 11) (As := [.int p1, .int p2]) lk_X11_257 C hw rfl rfl rfl (t_Mo_firstFalse hr) rfl hl.1 dX11_judge_41 rfl (by omega) (by decide) (Nat.le_of_ble_eq_true rfl) rfl (fun H locs hw => ?_)
        exact ret_iS C hw dX11_judge_44 hf
      · have hf := hf_f q hf
        refine lv_aload_n hx hb dX11_judge_30 rfl (lv_at hl 0 rfl) ?_
        refine lv_iload_n hx hb dX11_judge_31 rfl (lv_at hl 1 rfl) ?_
        obtain ⟨r6, hr, hf⟩ := hf_1 hf
        refine inv_Vi (q0 := 44) (ci := 11) (As := [.int p1]) lk_X11_254 C hw rfl rfl rfl (t_Mo_shortsIs hr) rfl hl.1 dX11_judge_32 rfl (Nat.le_of_ble_eq_true rfl) (by decide) (Nat.le_of_ble_eq_true rfl) rfl (fun H locs hw => ?_)
        refine lv_goto (tgt := 44) hx hb dX11_judge_35 (by decide) ?_
        exact ret_iS C hw dX11_judge_44 hf
    · have hf := hf_t q hf
      refine lv_iconst (v := -1) hx hb dX11_judge_18 kc_m1 ?_
      refine lv_goto (tgt := 44) hx hb dX11_judge_19 (by decide) ?_
      exact ret_iS C hw dX11_judge_44 hf
end
theorem t_Mo_judge {l : Launch} {V : St} {N : Nat} {S : St} {p1 : Int32} {p2 : Int32} {r : Int32} {S9 : St} (hf : Mo_judge N S p1 p2 = some (r, S9)) : Ct l (wM V) yX11_judge cX11_judge 3 (some .int) (N + 8) (fun E => [.ref (ea E 44), .int p1, .int p2]) S (fun E => some (.int r)) S9 :=
  ofBlock (by decide +kernel) (fun _ => Nat.le_of_ble_eq_true rfl) (fun E p e s m args below meth c ls C hw hl => w_Mo_judge C hw hl hf)
