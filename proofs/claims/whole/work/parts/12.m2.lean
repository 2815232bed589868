theorem dX1_firstWrongDay_0 : decode cX1_firstWrongDay 0 = .ok (.iconst 0, 1) := by decide +kernel
theorem dX1_firstWrongDay_1 : decode cX1_firstWrongDay 1 = .ok (.istore_n 3, 1) := by decide +kernel
theorem dX1_firstWrongDay_2 : decode cX1_firstWrongDay 2 = .ok (.iload_n 3, 1) := by decide +kernel
theorem dX1_firstWrongDay_3 : decode cX1_firstWrongDay 3 = .ok (.aload_n 0, 1) := by decide +kernel
theorem dX1_firstWrongDay_4 : decode cX1_firstWrongDay 4 = .ok (.getfield 28, 3) := by decide +kernel
theorem dX1_firstWrongDay_7 : decode cX1_firstWrongDay 7 = .ok (.getfield 91, 3) := by decide +kernel
theorem dX1_firstWrongDay_10 : decode cX1_firstWrongDay 10 = .ok (.iload_n 1, 1) := by decide +kernel
theorem dX1_firstWrongDay_11 : decode cX1_firstWrongDay 11 = .ok (.iaload, 1) := by decide +kernel
theorem dX1_firstWrongDay_12 : decode cX1_firstWrongDay 12 = .ok (.if_icmp .ge 38, 3) := by decide +kernel
theorem dX1_firstWrongDay_15 : decode cX1_firstWrongDay 15 = .ok (.iload_n 3, 1) := by decide +kernel
theorem dX1_firstWrongDay_16 : decode cX1_firstWrongDay 16 = .ok (.invokestatic 94, 3) := by decide +kernel
theorem dX1_firstWrongDay_19 : decode cX1_firstWrongDay 19 = .ok (.ifCond .eq 23, 3) := by decide +kernel
theorem dX1_firstWrongDay_22 : decode cX1_firstWrongDay 22 = .ok (.aload_n 0, 1) := by decide +kernel
theorem dX1_firstWrongDay_23 : decode cX1_firstWrongDay 23 = .ok (.getfield 28, 3) := by decide +kernel
theorem dX1_firstWrongDay_26 : decode cX1_firstWrongDay 26 = .ok (.iload_n 1, 1) := by decide +kernel
theorem dX1_firstWrongDay_27 : decode cX1_firstWrongDay 27 = .ok (.iload_n 3, 1) := by decide +kernel
theorem dX1_firstWrongDay_28 : decode cX1_firstWrongDay 28 = .ok (.invokevirtual 97, 3) := by decide +kernel
theorem dX1_firstWrongDay_31 : decode cX1_firstWrongDay 31 = .ok (.aload_n 0, 1) := by decide +kernel
theorem dX1_firstWrongDay_32 : decode cX1_firstWrongDay 32 = .ok (.iload_n 2, 1) := by decide +kernel
theorem dX1_firstWrongDay_33 : decode cX1_firstWrongDay 33 = .ok (.iload_n 3, 1) := by decide +kernel
theorem dX1_firstWrongDay_34 : decode cX1_firstWrongDay 34 = .ok (.invokevirtual 101, 3) := by decide +kernel
theorem dX1_firstWrongDay_37 : decode cX1_firstWrongDay 37 = .ok (.i2l, 1) := by decide +kernel
theorem dX1_firstWrongDay_38 : decode cX1_firstWrongDay 38 = .ok (.lcmp, 1) := by decide +kernel
theorem dX1_firstWrongDay_39 : decode cX1_firstWrongDay 39 = .ok (.ifCond .eq 5, 3) := by decide +kernel
theorem dX1_firstWrongDay_42 : decode cX1_firstWrongDay 42 = .ok (.iload_n 3, 1) := by decide +kernel
theorem dX1_firstWrongDay_43 : decode cX1_firstWrongDay 43 = .ok (.ireturn, 1) := by decide +kernel
theorem dX1_firstWrongDay_44 : decode cX1_firstWrongDay 44 = .ok (.iinc 3 1, 3) := by decide +kernel
theorem dX1_firstWrongDay_47 : decode cX1_firstWrongDay 47 = .ok (.goto (-45), 3) := by decide +kernel
theorem dX1_firstWrongDay_50 : decode cX1_firstWrongDay 50 = .ok (.bipush (-2), 2) := by decide +kernel
theorem dX1_firstWrongDay_52 : decode cX1_firstWrongDay 52 = .ok (.ireturn, 1) := by decide +kernel
section
variable {p : Program} {l : Launch} {e : Env} {s : State} {m : MethodId} {args : Array Value} {below : List Frame} {meth : Method} {c : Code} {H : Heap} {locs : List Loc} {E : Ev} {S V : St} {ls : Array Slot}
set_option maxRecDepth 20000 in
theorem w_Cr_firstWrongDay_b2 {N : Nat} {k2 : (St × Int32) → Option (Int32 × St)} {l1 : Int32} {l2 : Int32} {l3 : Int32} {r : Int32} {S9 : St} (C : Cx p s m args meth c E cX1_firstWrongDay 4 RX1 (some .int)) (hk2 : ∀ x, k2 x = some (r, S9) → ∀ (H : Heap) (locs : List Loc) (ls : Array Slot), Wd E (wX V E) s.heap x.1 H locs → lv_has ls 4 [(0, .ref (ea E 6)), (1, .int l1), (2, .int l2), (3, .int x.2)] → W p l e (rmh 6) s m args below meth c H locs 0 0 (MQ below (QW E (wX V E) (some (.int r)) S9) args s 0 0 (eA E)) (F0 m 2 ls [])) (hw : Wd E (wX V E) s.heap S H locs) (hl : lv_has ls 4 [(0, .ref (ea E 6)), (1, .int l1), (2, .int l2), (3, .int l3)]) (hf : Cr_firstWrongDay_b2 N k2 S l1 l2 l3 = some (r, S9)) : W p l e (rmh 6) s m args below meth c H locs 0 0 (MQ below (QW E (wX V E) (some (.int r)) S9) args s 0 0 (eA E)) (F0 m 2 ls []) := by
  have hx := C.1
  have hb := C.2.1
  unfold Cr_firstWrongDay_b2 at hf
  refine lv_iload_n hx hb dX1_firstWrongDay_2 rfl (lv_at hl 3 rfl) ?_
  refine lv_aload_n hx hb dX1_firstWrongDay_3 rfl (lv_at hl 0 rfl) ?_
  refine get_6_2 C hw q_334 dX1_firstWrongDay_4 ?_
  refine get_10_0 C hw q_216 dX1_firstWrongDay_7 ?_
  refine lv_iload_n hx hb dX1_firstWrongDay_10 rfl (lv_at hl 1 rfl) ?_
  obtain ⟨hc, hf⟩ := hf_ck hf
  refine ld_40 C hw hc dX1_firstWrongDay_11 ?_
  refine lv_icmp_ge (tgt := 50) hx hb dX1_firstWrongDay_12 (by decide) (fun q => ?_) (fun q => ?_)
  · have hf := hf_t q hf
    refine lv_bipush (v := -2) hx hb dX1_firstWrongDay_50 kb_m2 ?_
    exact ret_iS C hw dX1_firstWrongDay_52 hf
  · have hf := hf_f q hf
    refine lv_iload_n hx hb dX1_firstWrongDay_15 rfl (lv_at hl 3 rfl) ?_
    obtain ⟨r1, hr, hf⟩ := hf_1 hf
    refine inv_Ni (As := [.int l3]) lk_X1_94 C hw (t_Ch_isDay hr) hl.1 dX1_firstWrongDay_16 rfl (Nat.le_of_ble_eq_true rfl) (by decide) (Nat.le_of_ble_eq_true rfl) rfl (fun H locs hw => ?_)
    refine lv_if_eq (tgt := 42) hx hb dX1_firstWrongDay_19 (by decide) (fun q => ?_) (fun q => ?_)
    · have hf := hf_t q hf
      refine lv_iload_n hx hb dX1_firstWrongDay_42 rfl (lv_at hl 3 rfl) ?_
      exact ret_iS C hw dX1_firstWrongDay_43 hf
    · have hf := hf_f q hf
      refine lv_aload_n hx hb dX1_firstWrongDay_22 rfl (lv_at hl 0 rfl) ?_
      refine get_6_2 C hw q_334 dX1_firstWrongDay_23 ?_
      refine lv_iload_n hx hb dX1_firstWrongDay_26 rfl (lv_at hl 1 rfl) ?_
      refine lv_iload_n hx hb dX1_firstWrongDay_27 rfl (lv_at hl 3 rfl) ?_
      obtain ⟨r2, hr, hf⟩ := hf_1 hf
      refine inv_Vl (q0 := 10) (ci := 7) (As := [.int l1, .int l3]) lk_X1_97 C hw rfl rfl rfl (t_Sh_elementAt hr) rfl hl.1 dX1_firstWrongDay_28 rfl (Nat.le_of_ble_eq_true rfl) (by decide) (Nat.le_of_ble_eq_true rfl) rfl (fun H locs hw => ?_)
      refine lv_aload_n hx hb dX1_firstWrongDay_31 rfl (lv_at hl 0 rfl) ?_
      refine lv_iload_n hx hb dX1_firstWrongDay_32 rfl (lv_at hl 2 rfl) ?_
      refine lv_iload_n hx hb dX1_firstWrongDay_33 rfl (lv_at hl 3 rfl) ?_
      obtain ⟨r4, S3, hr, hf⟩ := hf_2 hf
      refine inv_Vi (q0 := 6) (ci := 1) (As := [.int l2, .int l3]) lk_X1_101 C hw rfl rfl rfl (t_Cr_ofOne hr) rfl hl.1 dX1_firstWrongDay_34 rfl (Nat.le_of_ble_eq_true rfl) (by decide) (Nat.le_of_ble_eq_true rfl) rfl (fun H locs hw => ?_)
      refine lv_i2l hx hb dX1_firstWrongDay_37 rfl ?_
      refine W.lcmp hx hb dX1_firstWrongDay_38 ?_
      refine lv_if_eq (tgt := 44) hx hb dX1_firstWrongDay_39 (by decide) (fun q => ?_) (fun q => ?_)
      · have hf := hf_t q hf
        obtain ⟨x5, ex5, hf⟩ := nme hf
        refine lv_iinc (v := x5) (lv' := [(3, .int x5), (0, .ref (ea E 6)), (1, .int l1), (2, .int l2)]) hx hb dX1_firstWrongDay_44 hl (k := 3) rfl (ki_1 ex5) (by decide) rfl (fun ls hl => ?_)
        refine lv_goto (tgt := 2) hx hb dX1_firstWrongDay_47 (by decide) ?_
        exact hk2 _ hf _ _ _ hw (lv_sub hl [1, 2, 3, 0] rfl)
      · have hf := hf_f q hf
        refine lv_iload_n hx hb dX1_firstWrongDay_42 rfl (lv_at hl 3 rfl) ?_
        exact ret_iS C hw dX1_firstWrongDay_43 hf
theorem w_Cr_firstWrongDay_L2 {N : Nat} {l1 : Int32} {l2 : Int32} {r : Int32} {S9 : St} (C : Cx p s m args meth c E cX1_firstWrongDay 4 RX1 (some .int)) : ∀ x, Cr_firstWrongDay_L2 N l1 l2 x = some (r, S9) → ∀ (H : Heap) (locs : List Loc) (ls : Array Slot), Wd E (wX V E) s.heap x.1 H locs → lv_has ls 4 [(0, .ref (ea E 6)), (1, .int l1), (2, .int l2), (3, .int x.2)] → W p l e (rmh 6) s m args below meth c H locs 0 0 (MQ below (QW E (wX V E) (some (.int r)) S9) args s 0 0 (eA E)) (F0 m 2 ls []) :=
  lp_W (fun k x hk hf H locs ls hw hl => w_Cr_firstWrongDay_b2 C hk hw hl hf) N
set_option maxRecDepth 20000 in
theorem w_Cr_firstWrongDay {N : Nat} {p1 : Int32} {p2 : Int32} {r : Int32} {S9 : St} (C : Cx p s m args meth c E cX1_firstWrongDay 4 RX1 (some .int)) (hw : Wd E (wX V E) s.heap S H locs) (hl : lv_has ls 4 [(0, .ref (ea E 6)), (1, .int p1), (2, .int p2)]) (hf : Cr_firstWrongDay N S p1 p2 = some (r, S9)) : W p l e (rmh 6) s m args below meth c H locs 0 0 (MQ below (QW E (wX V E) (some (.int r)) S9) args s 0 0 (eA E)) (F0 m 0 ls []) := by
  have hx := C.1
  have hb := C.2.1
  unfold Cr_firstWrongDay at hf
  refine lv_iconst (v := 0) hx hb dX1_firstWrongDay_0 kc_0 ?_
  refine lv_istore_n (lv' := [(3, .int (0 : Int32)), (0, .ref (ea E 6)), (1, .int p1), (2, .int p2)]) hx hb dX1_firstWrongDay_1 rfl hl (by decide) rfl (fun ls hl => ?_)
  exact w_Cr_firstWrongDay_L2 C _ hf _ _ _ hw (lv_sub hl [1, 2, 3, 0] rfl)
end
theorem t_Cr_firstWrongDay {l : Launch} {V : St} {N : Nat} {S : St} {p1 : Int32} {p2 : Int32} {r : Int32} {S9 : St} (hf : Cr_firstWrongDay N S p1 p2 = some (r, S9)) : Ct l (wX V) yX1_firstWrongDay cX1_firstWrongDay 4 (some .int) 6 (fun E => [.ref (ea E 6), .int p1, .int p2]) S (fun E => some (.int r)) S9 :=
  ofBlock (by decide +kernel) (fun _ => Nat.le_of_ble_eq_true rfl) (fun E p e s m args below meth c ls C hw hl => w_Cr_firstWrongDay C hw hl hf)
theorem dX1_ownersOf_0 : decode cX1_ownersOf 0 = .ok (.iconst 0, 1) := by decide +kernel
theorem dX1_ownersOf_1 : decode cX1_ownersOf 1 = .ok (.istore_n 2, 1) := by decide +kernel
theorem dX1_ownersOf_2 : decode cX1_ownersOf 2 = .ok (.iconst 0, 1) := by decide +kernel
theorem dX1_ownersOf_3 : decode cX1_ownersOf 3 = .ok (.istore_n 3, 1) := by decide +kernel
theorem dX1_ownersOf_4 : decode cX1_ownersOf 4 = .ok (.iload_n 3, 1) := by decide +kernel
theorem dX1_ownersOf_5 : decode cX1_ownersOf 5 = .ok (.aload_n 0, 1) := by decide +kernel
theorem dX1_ownersOf_6 : decode cX1_ownersOf 6 = .ok (.getfield 20, 3) := by decide +kernel
theorem dX1_ownersOf_9 : decode cX1_ownersOf 9 = .ok (.getfield 104, 3) := by decide +kernel
theorem dX1_ownersOf_12 : decode cX1_ownersOf 12 = .ok (.if_icmp .ge 26, 3) := by decide +kernel
theorem dX1_ownersOf_15 : decode cX1_ownersOf 15 = .ok (.aload_n 0, 1) := by decide +kernel
theorem dX1_ownersOf_16 : decode cX1_ownersOf 16 = .ok (.iload_n 1, 1) := by decide +kernel
theorem dX1_ownersOf_17 : decode cX1_ownersOf 17 = .ok (.iload_n 3, 1) := by decide +kernel
theorem dX1_ownersOf_18 : decode cX1_ownersOf 18 = .ok (.invokevirtual 107, 3) := by decide +kernel
theorem dX1_ownersOf_21 : decode cX1_ownersOf 21 = .ok (.bipush (-2), 2) := by decide +kernel
theorem dX1_ownersOf_23 : decode cX1_ownersOf 23 = .ok (.if_icmp .ne 9, 3) := by decide +kernel
theorem dX1_ownersOf_26 : decode cX1_ownersOf 26 = .ok (.iload_n 2, 1) := by decide +kernel
theorem dX1_ownersOf_27 : decode cX1_ownersOf 27 = .ok (.iconst 1, 1) := by decide +kernel
theorem dX1_ownersOf_28 : decode cX1_ownersOf 28 = .ok (.iload_n 3, 1) := by decide +kernel
theorem dX1_ownersOf_29 : decode cX1_ownersOf 29 = .ok (.ishl, 1) := by decide +kernel
theorem dX1_ownersOf_30 : decode cX1_ownersOf 30 = .ok (.ior, 1) := by decide +kernel
theorem dX1_ownersOf_31 : decode cX1_ownersOf 31 = .ok (.istore_n 2, 1) := by decide +kernel
theorem dX1_ownersOf_32 : decode cX1_ownersOf 32 = .ok (.iinc 3 1, 3) := by decide +kernel
theorem dX1_ownersOf_35 : decode cX1_ownersOf 35 = .ok (.goto (-31), 3) := by decide +kernel
theorem dX1_ownersOf_38 : decode cX1_ownersOf 38 = .ok (.iload_n 2, 1) := by decide +kernel
theorem dX1_ownersOf_39 : decode cX1_ownersOf 39 = .ok (.ireturn, 1) := by decide +kernel
section
variable {p : Program} {l : Launch} {e : Env} {s : State} {m : MethodId} {args : Array Value} {below : List Frame} {meth : Method} {c : Code} {H : Heap} {locs : List Loc} {E : Ev} {S V : St} {ls : Array Slot}
set_option maxRecDepth 20000 in
theorem w_Cr_ownersOf_b4 {N : Nat} {k4 : (St × Int32 × Int32) → Option (Int32 × St)} {l1 : Int32} {l2 : Int32} {l3 : Int32} {r : Int32} {S9 : St} (C : Cx p s m args meth c E cX1_ownersOf 4 RX1 (some .int)) (hk4 : ∀ x, k4 x = some (r, S9) → ∀ (H : Heap) (locs : List Loc) (ls : Array Slot), Wd E (wX V E) s.heap x.1 H locs → lv_has ls 4 [(0, .ref (ea E 6)), (1, .int l1), (2, .int x.2.1), (3, .int x.2.2)] → W p l e (rmh 7) s m args below meth c H locs 0 0 (MQ below (QW E (wX V E) (some (.int r)) S9) args s 0 0 (eA E)) (F0 m 4 ls [])) (hw : Wd E (wX V E) s.heap S H locs) (hl : lv_has ls 4 [(0, .ref (ea E 6)), (1, .int l1), (2, .int l2), (3, .int l3)]) (hf : Cr_ownersOf_b4 N k4 S l1 l2 l3 = some (r, S9)) : W p l e (rmh 7) s m args below meth c H locs 0 0 (MQ below (QW E (wX V E) (some (.int r)) S9) args s 0 0 (eA E)) (F0 m 4 ls []) := by
  have hx := C.1
  have hb := C.2.1
  unfold Cr_ownersOf_b4 at hf
  refine lv_iload_n hx hb dX1_ownersOf_4 rfl (lv_at hl 3 rfl) ?_
  refine lv_aload_n hx hb dX1_ownersOf_5 rfl (lv_at hl 0 rfl) ?_
  refine get_6_0 C hw q_332 dX1_ownersOf_6 ?_
  refine get_1_9 C hw q_135 dX1_ownersOf_9 ?_
  refine lv_icmp_ge (tgt := 38) hx hb dX1_ownersOf_12 (by decide) (fun q => ?_) (fun q => ?_)
  · have hf := hf_t q hf
    refine lv_iload_n hx hb dX1_ownersOf_38 rfl (lv_at hl 2 rfl) ?_
    exact ret_iS C hw dX1_ownersOf_39 hf
  · have hf := hf_f q hf
    refine lv_aload_n hx hb dX1_ownersOf_15 rfl (lv_at hl 0 rfl) ?_
    refine lv_iload_n hx hb dX1_ownersOf_16 rfl (lv_at hl 1 rfl) ?_
    refine lv_iload_n hx hb dX1_ownersOf_17 rfl (lv_at hl 3 rfl) ?_
    obtain ⟨r2, S1, hr, hf⟩ := hf_2 hf
    refine inv_Vi (q0 := 6) (ci := 1) (As := [.int l1, .int l3]) lk_X1_107 C hw rfl rfl rfl (t_Cr_firstWrongDay hr) rfl hl.1 dX1_ownersOf_18 rfl (Nat.le_of_ble_eq_true rfl) (by decide) (Nat.le_of_ble_eq_true rfl) rfl (fun H locs hw => ?_)
    refine lv_bipush (v := -2) hx hb dX1_ownersOf_21 kb_m2 ?_
    refine lv_icmp_ne (tgt := 32) hx hb dX1_ownersOf_23 (by decide) (fun q => ?_) (fun q => ?_)
    · have hf := hf_f q hf
      obtain ⟨x3, ex3, hf⟩ := nme hf
      refine lv_iinc (v := x3) (lv' := [(3, .int x3), (0, .ref (ea E 6)), (1, .int l1), (2, .int l2)]) hx hb dX1_ownersOf_32 hl (k := 3) rfl (ki_1 ex3) (by decide) rfl (fun ls hl => ?_)
      refine lv_goto (tgt := 4) hx hb dX1_ownersOf_35 (by decide) ?_
      exact hk4 _ hf _ _ _ hw (lv_sub hl [1, 2, 3, 0] rfl)
    · have hf := hf_t q hf
      refine lv_iload_n hx hb dX1_ownersOf_26 rfl (lv_at hl 2 rfl) ?_
      refine lv_iconst (v := 1) hx hb dX1_ownersOf_27 kc_1 ?_
      refine lv_iload_n hx hb dX1_ownersOf_28 rfl (lv_at hl 3 rfl) ?_
      refine lv_ishl hx hb dX1_ownersOf_29 ?_
      refine lv_ior hx hb dX1_ownersOf_30 ?_
      refine nm_i hf (fun x4 hf => ?_)
      refine lv_istore_n (lv' := [(2, .int x4), (0, .ref (ea E 6)), (1, .int l1), (3, .int l3)]) hx hb dX1_ownersOf_31 rfl hl (by decide) rfl (fun ls hl => ?_)
      obtain ⟨x5, ex5, hf⟩ := nme hf
      refine lv_iinc (v := x5) (lv' := [(3, .int x5), (2, .int x4), (0, .ref (ea E 6)), (1, .int l1)]) hx hb dX1_ownersOf_32 hl (k := 3) rfl (ki_1 ex5) (by decide) rfl (fun ls hl => ?_)
      refine lv_goto (tgt := 4) hx hb dX1_ownersOf_35 (by decide) ?_
      exact hk4 _ hf _ _ _ hw (lv_sub hl [2, 3, 1, 0] rfl)
theorem w_Cr_ownersOf_L4 {N : Nat} {l1 : Int32} {r : Int32} {S9 : St} (C : Cx p s m args meth c E cX1_ownersOf 4 RX1 (some .int)) : ∀ x, Cr_ownersOf_L4 N l1 x = some (r, S9) → ∀ (H : Heap) (locs : List Loc) (ls : Array Slot), Wd E (wX V E) s.heap x.1 H locs → lv_has ls 4 [(0, .ref (ea E 6)), (1, .int l1), (2, .int x.2.1), (3, .int x.2.2)] → W p l e (rmh 7) s m args below meth c H locs 0 0 (MQ below (QW E (wX V E) (some (.int r)) S9) args s 0 0 (eA E)) (F0 m 4 ls []) :=
  lp_W (fun k x hk hf H locs ls hw hl => w_Cr_ownersOf_b4 C hk hw hl hf) N
set_option maxRecDepth 20000 in
theorem w_Cr_ownersOf {N : Nat} {p1 : Int32} {r : Int32} {S9 : St} (C : Cx p s m args meth c E cX1_ownersOf 4 RX1 (some .int)) (hw : Wd E (wX V E) s.heap S H locs) (hl : lv_has ls 4 [(0, .ref (ea E 6)), (1, .int p1)]) (hf : Cr_ownersOf N S p1 = some (r, S9)) : W p l e (rmh 7) s m args below meth c H locs 0 0 (MQ below (QW E (wX V E) (some (.int r)) S9) args s 0 0 (eA E)) (F0 m 0 ls []) := by
  have hx := C.1
  have hb := C.2.1
  unfold Cr_ownersOf at hf
  refine lv_iconst (v := 0) hx hb dX1_ownersOf_0 kc_0 ?_
  refine lv_istore_n (lv' := [(2, .int (0 : Int32)), (0, .ref (ea E 6)), (1, .int p1)]) hx hb dX1_ownersOf_1 rfl hl (by decide) rfl (fun ls hl => ?_)
  refine lv_iconst (v := 0) hx hb dX1_ownersOf_2 kc_0 ?_
  refine lv_istore_n (lv' := [(3, .int (0 : Int32)), (2, .int (0 : Int32)), (0, .ref (ea E 6)), (1, .int p1)]) hx hb dX1_ownersOf_3 rfl hl (by decide) rfl (fun ls hl => ?_)
  exact w_Cr_ownersOf_L4 C _ hf _ _ _ hw (lv_sub hl [2, 3, 1, 0] rfl)
end
theorem t_Cr_ownersOf {l : Launch} {V : St} {N : Nat} {S : St} {p1 : Int32} {r : Int32} {S9 : St} (hf : Cr_ownersOf N S p1 = some (r, S9)) : Ct l (wX V) yX1_ownersOf cX1_ownersOf 4 (some .int) 7 (fun E => [.ref (ea E 6), .int p1]) S (fun E => some (.int r)) S9 :=
  ofBlock (by decide +kernel) (fun _ => Nat.le_of_ble_eq_true rfl) (fun E p e s m args below meth c ls C hw hl => w_Cr_ownersOf C hw hl hf)
theorem dX1_compareOpenAndKept_0 : decode cX1_compareOpenAndKept 0 = .ok (.aload_n 0, 1) := by decide +kernel
theorem dX1_compareOpenAndKept_1 : decode cX1_compareOpenAndKept 1 = .ok (.getfield 20, 3) := by decide +kernel
theorem dX1_compareOpenAndKept_4 : decode cX1_compareOpenAndKept 4 = .ok (.getfield 110, 3) := by decide +kernel
theorem dX1_compareOpenAndKept_7 : decode cX1_compareOpenAndKept 7 = .ok (.iload_n 2, 1) := by decide +kernel
theorem dX1_compareOpenAndKept_8 : decode cX1_compareOpenAndKept 8 = .ok (.iaload, 1) := by decide +kernel
theorem dX1_compareOpenAndKept_9 : decode cX1_compareOpenAndKept 9 = .ok (.istore 4, 2) := by decide +kernel
theorem dX1_compareOpenAndKept_11 : decode cX1_compareOpenAndKept 11 = .ok (.iconst 0, 1) := by decide +kernel
theorem dX1_compareOpenAndKept_12 : decode cX1_compareOpenAndKept 12 = .ok (.istore 5, 2) := by decide +kernel
theorem dX1_compareOpenAndKept_14 : decode cX1_compareOpenAndKept 14 = .ok (.iload 5, 2) := by decide +kernel
theorem dX1_compareOpenAndKept_16 : decode cX1_compareOpenAndKept 16 = .ok (.aload_n 0, 1) := by decide +kernel
theorem dX1_compareOpenAndKept_17 : decode cX1_compareOpenAndKept 17 = .ok (.getfield 28, 3) := by decide +kernel
theorem dX1_compareOpenAndKept_20 : decode cX1_compareOpenAndKept 20 = .ok (.getfield 91, 3) := by decide +kernel
theorem dX1_compareOpenAndKept_23 : decode cX1_compareOpenAndKept 23 = .ok (.iload_n 1, 1) := by decide +kernel
theorem dX1_compareOpenAndKept_24 : decode cX1_compareOpenAndKept 24 = .ok (.iaload, 1) := by decide +kernel
theorem dX1_compareOpenAndKept_25 : decode cX1_compareOpenAndKept 25 = .ok (.if_icmp .ge 98, 3) := by decide +kernel
theorem dX1_compareOpenAndKept_28 : decode cX1_compareOpenAndKept 28 = .ok (.aload_n 0, 1) := by decide +kernel
theorem dX1_compareOpenAndKept_29 : decode cX1_compareOpenAndKept 29 = .ok (.getfield 20, 3) := by decide +kernel
theorem dX1_compareOpenAndKept_32 : decode cX1_compareOpenAndKept 32 = .ok (.getfield 110, 3) := by decide +kernel
theorem dX1_compareOpenAndKept_35 : decode cX1_compareOpenAndKept 35 = .ok (.iload_n 2, 1) := by decide +kernel
theorem dX1_compareOpenAndKept_36 : decode cX1_compareOpenAndKept 36 = .ok (.iconst (-1), 1) := by decide +kernel
theorem dX1_compareOpenAndKept_37 : decode cX1_compareOpenAndKept 37 = .ok (.iastore, 1) := by decide +kernel
theorem dX1_compareOpenAndKept_38 : decode cX1_compareOpenAndKept 38 = .ok (.aload_n 0, 1) := by decide +kernel
theorem dX1_compareOpenAndKept_39 : decode cX1_compareOpenAndKept 39 = .ok (.getfield 11, 3) := by decide +kernel
theorem dX1_compareOpenAndKept_42 : decode cX1_compareOpenAndKept 42 = .ok (.iload 5, 2) := by decide +kernel
theorem dX1_compareOpenAndKept_44 : decode cX1_compareOpenAndKept 44 = .ok (.aload_n 0, 1) := by decide +kernel
theorem dX1_compareOpenAndKept_45 : decode cX1_compareOpenAndKept 45 = .ok (.getfield 28, 3) := by decide +kernel
theorem dX1_compareOpenAndKept_48 : decode cX1_compareOpenAndKept 48 = .ok (.iload_n 1, 1) := by decide +kernel
theorem dX1_compareOpenAndKept_49 : decode cX1_compareOpenAndKept 49 = .ok (.iload 5, 2) := by decide +kernel
theorem dX1_compareOpenAndKept_51 : decode cX1_compareOpenAndKept 51 = .ok (.invokevirtual 97, 3) := by decide +kernel
theorem dX1_compareOpenAndKept_54 : decode cX1_compareOpenAndKept 54 = .ok (.aload_n 0, 1) := by decide +kernel
theorem dX1_compareOpenAndKept_55 : decode cX1_compareOpenAndKept 55 = .ok (.iload_n 3, 1) := by decide +kernel
theorem dX1_compareOpenAndKept_56 : decode cX1_compareOpenAndKept 56 = .ok (.iload 5, 2) := by decide +kernel
theorem dX1_compareOpenAndKept_58 : decode cX1_compareOpenAndKept 58 = .ok (.invokevirtual 101, 3) := by decide +kernel
theorem dX1_compareOpenAndKept_61 : decode cX1_compareOpenAndKept 61 = .ok (.i2l, 1) := by decide +kernel
theorem dX1_compareOpenAndKept_62 : decode cX1_compareOpenAndKept 62 = .ok (.lcmp, 1) := by decide +kernel
theorem dX1_compareOpenAndKept_63 : decode cX1_compareOpenAndKept 63 = .ok (.ifCond .ne 7, 3) := by decide +kernel
theorem dX1_compareOpenAndKept_66 : decode cX1_compareOpenAndKept 66 = .ok (.iconst 1, 1) := by decide +kernel
theorem dX1_compareOpenAndKept_67 : decode cX1_compareOpenAndKept 67 = .ok (.goto 4, 3) := by decide +kernel
theorem dX1_compareOpenAndKept_70 : decode cX1_compareOpenAndKept 70 = .ok (.iconst 0, 1) := by decide +kernel
theorem dX1_compareOpenAndKept_71 : decode cX1_compareOpenAndKept 71 = .ok (.bastore, 1) := by decide +kernel
theorem dX1_compareOpenAndKept_72 : decode cX1_compareOpenAndKept 72 = .ok (.aload_n 0, 1) := by decide +kernel
theorem dX1_compareOpenAndKept_73 : decode cX1_compareOpenAndKept 73 = .ok (.getfield 20, 3) := by decide +kernel
theorem dX1_compareOpenAndKept_76 : decode cX1_compareOpenAndKept 76 = .ok (.getfield 110, 3) := by decide +kernel
theorem dX1_compareOpenAndKept_79 : decode cX1_compareOpenAndKept 79 = .ok (.iload_n 2, 1) := by decide +kernel
theorem dX1_compareOpenAndKept_80 : decode cX1_compareOpenAndKept 80 = .ok (.iload 5, 2) := by decide +kernel
theorem dX1_compareOpenAndKept_82 : decode cX1_compareOpenAndKept 82 = .ok (.iastore, 1) := by decide +kernel
theorem dX1_compareOpenAndKept_83 : decode cX1_compareOpenAndKept 83 = .ok (.aload_n 0, 1) := by decide +kernel
theorem dX1_compareOpenAndKept_84 : decode cX1_compareOpenAndKept 84 = .ok (.getfield 17, 3) := by decide +kernel
theorem dX1_compareOpenAndKept_87 : decode cX1_compareOpenAndKept 87 = .ok (.iload 5, 2) := by decide +kernel
theorem dX1_compareOpenAndKept_89 : decode cX1_compareOpenAndKept 89 = .ok (.aload_n 0, 1) := by decide +kernel
theorem dX1_compareOpenAndKept_90 : decode cX1_compareOpenAndKept 90 = .ok (.getfield 28, 3) := by decide +kernel
theorem dX1_compareOpenAndKept_93 : decode cX1_compareOpenAndKept 93 = .ok (.iload_n 1, 1) := by decide +kernel
theorem dX1_compareOpenAndKept_94 : decode cX1_compareOpenAndKept 94 = .ok (.iload 5, 2) := by decide +kernel
theorem dX1_compareOpenAndKept_96 : decode cX1_compareOpenAndKept 96 = .ok (.invokevirtual 97, 3) := by decide +kernel
theorem dX1_compareOpenAndKept_99 : decode cX1_compareOpenAndKept 99 = .ok (.aload_n 0, 1) := by decide +kernel
theorem dX1_compareOpenAndKept_100 : decode cX1_compareOpenAndKept 100 = .ok (.iload_n 3, 1) := by decide +kernel
theorem dX1_compareOpenAndKept_101 : decode cX1_compareOpenAndKept 101 = .ok (.iload 5, 2) := by decide +kernel
theorem dX1_compareOpenAndKept_103 : decode cX1_compareOpenAndKept 103 = .ok (.invokevirtual 101, 3) := by decide +kernel
theorem dX1_compareOpenAndKept_106 : decode cX1_compareOpenAndKept 106 = .ok (.i2l, 1) := by decide +kernel
theorem dX1_compareOpenAndKept_107 : decode cX1_compareOpenAndKept 107 = .ok (.lcmp, 1) := by decide +kernel
theorem dX1_compareOpenAndKept_108 : decode cX1_compareOpenAndKept 108 = .ok (.ifCond .ne 7, 3) := by decide +kernel
theorem dX1_compareOpenAndKept_111 : decode cX1_compareOpenAndKept 111 = .ok (.iconst 1, 1) := by decide +kernel
theorem dX1_compareOpenAndKept_112 : decode cX1_compareOpenAndKept 112 = .ok (.goto 4, 3) := by decide +kernel
theorem dX1_compareOpenAndKept_115 : decode cX1_compareOpenAndKept 115 = .ok (.iconst 0, 1) := by decide +kernel
theorem dX1_compareOpenAndKept_116 : decode cX1_compareOpenAndKept 116 = .ok (.bastore, 1) := by decide +kernel
theorem dX1_compareOpenAndKept_117 : decode cX1_compareOpenAndKept 117 = .ok (.iinc 5 1, 3) := by decide +kernel
theorem dX1_compareOpenAndKept_120 : decode cX1_compareOpenAndKept 120 = .ok (.goto (-106), 3) := by decide +kernel
theorem dX1_compareOpenAndKept_123 : decode cX1_compareOpenAndKept 123 = .ok (.aload_n 0, 1) := by decide +kernel
theorem dX1_compareOpenAndKept_124 : decode cX1_compareOpenAndKept 124 = .ok (.getfield 20, 3) := by decide +kernel
theorem dX1_compareOpenAndKept_127 : decode cX1_compareOpenAndKept 127 = .ok (.getfield 110, 3) := by decide +kernel
theorem dX1_compareOpenAndKept_130 : decode cX1_compareOpenAndKept 130 = .ok (.iload_n 2, 1) := by decide +kernel
theorem dX1_compareOpenAndKept_131 : decode cX1_compareOpenAndKept 131 = .ok (.iload 4, 2) := by decide +kernel
theorem dX1_compareOpenAndKept_133 : decode cX1_compareOpenAndKept 133 = .ok (.iastore, 1) := by decide +kernel
theorem dX1_compareOpenAndKept_134 : decode cX1_compareOpenAndKept 134 = .ok (.return_, 1) := by decide +kernel
section
variable {p : Program} {l : Launch} {e : Env} {s : State} {m : MethodId} {args : Array Value} {below : List Frame} {meth : Method} {c : Code} {H : Heap} {locs : List Loc} {E : Ev} {S V : St} {ls : Array Slot}
set_option maxRecDepth 20000 in
theorem w_Cr_compareOpenAndKept_b71 {N : Nat} {k14 : (St × Int32) → Option St} {l1 : Int32} {l2 : Int32} {l3 : Int32} {l4 : Int32} {l5 : Int32} {s0 : Int32} {s1 : Int32} {S9 : St} (C : Cx p s m args meth c E cX1_compareOpenAndKept 6 RX1 none) (hk14 : ∀ x, k14 x = some S9 → ∀ (H : Heap) (locs : List Loc) (ls : Array Slot), Wd E (wX V E) s.heap x.1 H locs → lv_has ls 6 [(0, .ref (ea E 6)), (1, .int l1), (2, .int l2), (3, .int l3), (4, .int l4), (5, .int x.2)] → W p l e (rmh 6) s m args below meth c H locs 0 0 (MQ below (QW E (wX V E) (none) S9) args s 0 0 (eA E)) (F0 m 14 ls [])) (hw : Wd E (wX V E) s.heap S H locs) (hl : lv_has ls 6 [(0, .ref (ea E 6)), (1, .int l1), (2, .int l2), (3, .int l3), (4, .int l4), (5, .int l5)]) (hf : Cr_compareOpenAndKept_b71 N k14 S l1 l2 l3 l4 l5 s0 s1 = some S9) : W p l e (rmh 6) s m args below meth c H locs 0 0 (MQ below (QW E (wX V E) (none) S9) args s 0 0 (eA E)) (F0 m 71 ls [.int s0, .int s1, .ref (ea E 29)]) := by
  have hx := C.1
  have hb := C.2.1
  unfold Cr_compareOpenAndKept_b71 at hf
  obtain ⟨hc, hf⟩ := hf_ck hf
  obtain ⟨hcb, hf⟩ := hf_ck hf
  refine st_29 C hw hc hcb dX1_compareOpenAndKept_71 (fun H locs hw => ?_)
  refine nm_S hf hw (fun S1 hf hw => ?_)
  refine lv_aload_n hx hb dX1_compareOpenAndKept_72 rfl (lv_at hl 0 rfl) ?_
  refine get_6_0 C hw q_332 dX1_compareOpenAndKept_73 ?_
  refine get_1_7 C hw q_131 dX1_compareOpenAndKept_76 ?_
  refine lv_iload_n hx hb dX1_compareOpenAndKept_79 rfl (lv_at hl 2 rfl) ?_
  refine lv_iload hx hb dX1_compareOpenAndKept_80 (lv_at hl 5 rfl) ?_
  obtain ⟨hc, hf⟩ := hf_ck hf
  refine st_18 C hw hc dX1_compareOpenAndKept_82 (fun H locs hw => ?_)
  refine nm_S hf hw (fun S2 hf hw => ?_)
  refine lv_aload_n hx hb dX1_compareOpenAndKept_83 rfl (lv_at hl 0 rfl) ?_
  refine get_6_4 C hw q_336 dX1_compareOpenAndKept_84 ?_
  refine lv_iload hx hb dX1_compareOpenAndKept_87 (lv_at hl 5 rfl) ?_
  refine lv_aload_n hx hb dX1_compareOpenAndKept_89 rfl (lv_at hl 0 rfl) ?_
  refine get_6_2 C hw q_334 dX1_compareOpenAndKept_90 ?_
  refine lv_iload_n hx hb dX1_compareOpenAndKept_93 rfl (lv_at hl 1 rfl) ?_
  refine lv_iload hx hb dX1_compareOpenAndKept_94 (lv_at hl 5 rfl) ?_
  obtain ⟨r3, hr, hf⟩ := hf_1 hf
  refine inv_Vl (q0 := 10) (ci := 7) (As := [.int l1, .int l5]) lk_X1_97 C hw rfl rfl rfl (t_Sh_elementAt hr) rfl hl.1 dX1_compareOpenAndKept_96 rfl (Nat.le_of_ble_eq_true rfl) (by decide) (Nat.le_of_ble_eq_true rfl) rfl (fun H locs hw => ?_)
  refine lv_aload_n hx hb dX1_compareOpenAndKept_99 rfl (lv_at hl 0 rfl) ?_
  refine lv_iload_n hx hb dX1_compareOpenAndKept_100 rfl (lv_at hl 3 rfl) ?_
  refine lv_iload hx hb dX1_compareOpenAndKept_101 (lv_at hl 5 rfl) ?_
  obtain ⟨r5, S4, hr, hf⟩ := hf_2 hf
  refine inv_Vi (q0 := 6) (ci := 1) (As := [.int l3, .int l5]) lk_X1_101 C hw rfl rfl rfl (t_Cr_ofOne hr) rfl hl.1 dX1_compareOpenAndKept_103 rfl (Nat.le_of_ble_eq_true rfl) (by decide) (Nat.le_of_ble_eq_true rfl) rfl (fun H locs hw => ?_)
  refine lv_i2l hx hb dX1_compareOpenAndKept_106 rfl ?_
  refine W.lcmp hx hb dX1_compareOpenAndKept_107 ?_
  refine lv_if_ne (tgt := 115) hx hb dX1_compareOpenAndKept_108 (by decide) (fun q => ?_) (fun q => ?_)
  · have hf := hf_f q hf
    refine lv_iconst (v := 0) hx hb dX1_compareOpenAndKept_115 kc_0 ?_
    obtain ⟨hc, hf⟩ := hf_ck hf
    refine st_30 C hw hc (by decide) dX1_compareOpenAndKept_116 (fun H locs hw => ?_)
    refine nm_S hf hw (fun S6 hf hw => ?_)
    obtain ⟨x7, ex7, hf⟩ := nme hf
    refine lv_iinc (v := x7) (lv' := [(5, .int x7), (0, .ref (ea E 6)), (1, .int l1), (2, .int l2), (3, .int l3), (4, .int l4)]) hx hb dX1_compareOpenAndKept_117 hl (k := 5) rfl (ki_1 ex7) (by decide) rfl (fun ls hl => ?_)
    refine lv_goto (tgt := 14) hx hb dX1_compareOpenAndKept_120 (by decide) ?_
    exact hk14 _ hf _ _ _ hw (lv_sub hl [1, 2, 3, 4, 5, 0] rfl)
  · have hf := hf_t q hf
    refine lv_iconst (v := 1) hx hb dX1_compareOpenAndKept_111 kc_1 ?_
    refine lv_goto (tgt := 116) hx hb dX1_compareOpenAndKept_112 (by decide) ?_
    obtain ⟨hc, hf⟩ := hf_ck hf
    refine st_30 C hw hc (by decide) dX1_compareOpenAndKept_116 (fun H locs hw => ?_)
    refine nm_S hf hw (fun S8 hf hw => ?_)
    obtain ⟨x9, ex9, hf⟩ := nme hf
    refine lv_iinc (v := x9) (lv' := [(5, .int x9), (0, .ref (ea E 6)), (1, .int l1), (2, .int l2), (3, .int l3), (4, .int l4)]) hx hb dX1_compareOpenAndKept_117 hl (k := 5) rfl (ki_1 ex9) (by decide) rfl (fun ls hl => ?_)
    refine lv_goto (tgt := 14) hx hb dX1_compareOpenAndKept_120 (by decide) ?_
    exact hk14 _ hf _ _ _ hw (lv_sub hl [1, 2, 3, 4, 5, 0] rfl)
set_option maxRecDepth 20000 in
theorem w_Cr_compareOpenAndKept_b14 {N : Nat} {k14 : (St × Int32) → Option St} {l1 : Int32} {l2 : Int32} {l3 : Int32} {l4 : Int32} {l5 : Int32} {S9 : St} (C : Cx p s m args meth c E cX1_compareOpenAndKept 6 RX1 none) (hk14 : ∀ x, k14 x = some S9 → ∀ (H : Heap) (locs : List Loc) (ls : Array Slot), Wd E (wX V E) s.heap x.1 H locs → lv_has ls 6 [(0, .ref (ea E 6)), (1, .int l1), (2, .int l2), (3, .int l3), (4, .int l4), (5, .int x.2)] → W p l e (rmh 6) s m args below meth c H locs 0 0 (MQ below (QW E (wX V E) (none) S9) args s 0 0 (eA E)) (F0 m 14 ls [])) (hw : Wd E (wX V E) s.heap S H locs) (hl : lv_has ls 6 [(0, .ref (ea E 6)), (1, .int l1), (2, .int l2), (3, .int l3), (4, .int l4), (5, .int l5)]) (hf : Cr_compareOpenAndKept_b14 N k14 S l1 l2 l3 l4 l5 = some S9) : W p l e (rmh 6) s m args below meth c H locs 0 0 (MQ below (QW E (wX V E) (none) S9) args s 0 0 (eA E)) (F0 m 14 ls []) := by
  have hx := C.1
  have hb := C.2.1
  unfold Cr_compareOpenAndKept_b14 at hf
  refine lv_iload hx hb dX1_compareOpenAndKept_14 (lv_at hl 5 rfl) ?_
  refine lv_aload_n hx hb dX1_compareOpenAndKept_16 rfl (lv_at hl 0 rfl) ?_
  refine get_6_2 C hw q_334 dX1_compareOpenAndKept_17 ?_
  refine get_10_0 C hw q_216 dX1_compareOpenAndKept_20 ?_
  refine lv_iload_n hx hb dX1_compareOpenAndKept_23 rfl (lv_at hl 1 rfl) ?_
  obtain ⟨hc, hf⟩ := hf_ck hf
  refine ld_40 C hw hc dX1_compareOpenAndKept_24 ?_
  refine lv_icmp_ge (tgt := 123) hx hb dX1_compareOpenAndKept_25 (by decide) (fun q => ?_) (fun q => ?_)
  · have hf := hf_t q hf
    refine lv_aload_n hx hb dX1_compareOpenAndKept_123 rfl (lv_at hl 0 rfl) ?_
    refine get_6_0 C hw q_332 dX1_compareOpenAndKept_124 ?_
    refine get_1_7 C hw q_131 dX1_compareOpenAndKept_127 ?_
    refine lv_iload_n hx hb dX1_compareOpenAndKept_130 rfl (lv_at hl 2 rfl) ?_
    refine lv_iload hx hb dX1_compareOpenAndKept_131 (lv_at hl 4 rfl) ?_
    obtain ⟨hc, hf⟩ := hf_ck hf
    refine st_18 C hw hc dX1_compareOpenAndKept_133 (fun H locs hw => ?_)
    refine nm_S hf hw (fun S1 hf hw => ?_)
    exact ret_vS C hw dX1_compareOpenAndKept_134 hf
  · have hf := hf_f q hf
    refine lv_aload_n hx hb dX1_compareOpenAndKept_28 rfl (lv_at hl 0 rfl) ?_
    refine get_6_0 C hw q_332 dX1_compareOpenAndKept_29 ?_
    refine get_1_7 C hw q_131 dX1_compareOpenAndKept_32 ?_
    refine lv_iload_n hx hb dX1_compareOpenAndKept_35 rfl (lv_at hl 2 rfl) ?_
    refine lv_iconst (v := -1) hx hb dX1_compareOpenAndKept_36 kc_m1 ?_
    obtain ⟨hc, hf⟩ := hf_ck hf
    refine st_18 C hw hc dX1_compareOpenAndKept_37 (fun H locs hw => ?_)
    refine nm_S hf hw (fun S2 hf hw => ?_)
    refine lv_aload_n hx hb dX1_compareOpenAndKept_38 rfl (lv_at hl 0 rfl) ?_
    refine get_6_3 C hw q_335 dX1_compareOpenAndKept_39 ?_
    refine lv_iload hx hb dX1_compareOpenAndKept_42 (lv_at hl 5 rfl) ?_
    refine lv_aload_n hx hb dX1_compareOpenAndKept_44 rfl (lv_at hl 0 rfl) ?_
    refine get_6_2 C hw q_334 dX1_compareOpenAndKept_45 ?_
    refine lv_iload_n hx hb dX1_compareOpenAndKept_48 rfl (lv_at hl 1 rfl) ?_
    refine lv_iload hx hb dX1_compareOpenAndKept_49 (lv_at hl 5 rfl) ?_
    obtain ⟨r3, hr, hf⟩ := hf_1 hf
    refine inv_Vl (q0 := 10) (ci := 7) (As := [.int l1, .int l5]) lk_X1_97 C hw rfl rfl rfl (t_Sh_elementAt hr) rfl hl.1 dX1_compareOpenAndKept_51 rfl (Nat.le_of_ble_eq_true rfl) (by decide) (Nat.le_of_ble_eq_true rfl) rfl (fun H locs hw => ?_)
    refine lv_aload_n hx hb dX1_compareOpenAndKept_54 rfl (lv_at hl 0 rfl) ?_
    refine lv_iload_n hx hb dX1_compareOpenAndKept_55 rfl (lv_at hl 3 rfl) ?_
    refine lv_iload hx hb dX1_compareOpenAndKept_56 (lv_at hl 5 rfl) ?_
    obtain ⟨r5, S4, hr, hf⟩ := hf_2 hf
    refine inv_Vi (q0 := 6) (ci := 1) (As := [.int l3, .int l5]) lk_X1_101 C hw rfl rfl rfl (t_Cr_ofOne hr) rfl hl.1 dX1_compareOpenAndKept_58 rfl (Nat.le_of_ble_eq_true rfl) (by decide) (Nat.le_of_ble_eq_true rfl) rfl (fun H locs hw => ?_)
    refine lv_i2l hx hb dX1_compareOpenAndKept_61 rfl ?_
    refine W.lcmp hx hb dX1_compareOpenAndKept_62 ?_
    refine lv_if_ne (tgt := 70) hx hb dX1_compareOpenAndKept_63 (by decide) (fun q => ?_) (fun q => ?_)
    · have hf := hf_f q hf
      refine lv_iconst (v := 0) hx hb dX1_compareOpenAndKept_70 kc_0 ?_
      exact w_Cr_compareOpenAndKept_b71 C hk14 hw (lv_sub hl [0, 1, 2, 3, 4, 5] rfl) hf
    · have hf := hf_t q hf
      refine lv_iconst (v := 1) hx hb dX1_compareOpenAndKept_66 kc_1 ?_
      refine lv_goto (tgt := 71) hx hb dX1_compareOpenAndKept_67 (by decide) ?_
      exact w_Cr_compareOpenAndKept_b71 C hk14 hw (lv_sub hl [0, 1, 2, 3, 4, 5] rfl) hf
theorem w_Cr_compareOpenAndKept_L14 {N : Nat} {l1 : Int32} {l2 : Int32} {l3 : Int32} {l4 : Int32} {S9 : St} (C : Cx p s m args meth c E cX1_compareOpenAndKept 6 RX1 none) : ∀ x, Cr_compareOpenAndKept_L14 N l1 l2 l3 l4 x = some S9 → ∀ (H : Heap) (locs : List Loc) (ls : Array Slot), Wd E (wX V E) s.heap x.1 H locs → lv_has ls 6 [(0, .ref (ea E 6)), (1, .int l1), (2, .int l2), (3, .int l3), (4, .int l4), (5, .int x.2)] → W p l e (rmh 6) s m args below meth c H locs 0 0 (MQ below (QW E (wX V E) (none) S9) args s 0 0 (eA E)) (F0 m 14 ls []) :=
  lp_W (fun k x hk hf H locs ls hw hl => w_Cr_compareOpenAndKept_b14 C hk hw hl hf) N
set_option maxRecDepth 20000 in
theorem w_Cr_compareOpenAndKept {N : Nat} {p1 : Int32} {p2 : Int32} {p3 : Int32} {S9 : St} (C : Cx p s m args meth c E cX1_compareOpenAndKept 6 RX1 none) (hw : Wd E (wX V E) s.heap S H locs) (hl : lv_has ls 6 [(0, .ref (ea E 6)), (1, .int p1), (2, .int p2), (3, .int p3)]) (hf : Cr_compareOpenAndKept N S p1 p2 p3 = some S9) : W p l e (rmh 6) s m args below meth c H locs 0 0 (MQ below (QW E (wX V E) (none) S9) args s 0 0 (eA E)) (F0 m 0 ls []) := by
  have hx := C.1
  have hb := C.2.1
  unfold Cr_compareOpenAndKept at hf
  refine lv_aload_n hx hb dX1_compareOpenAndKept_0 rfl (lv_at hl 0 rfl) ?_
  refine get_6_0 C hw q_332 dX1_compareOpenAndKept_1 ?_
  refine get_1_7 C hw q_131 dX1_compareOpenAndKept_4 ?_
  refine lv_iload_n hx hb dX1_compareOpenAndKept_7 rfl (lv_at hl 2 rfl) ?_
  obtain ⟨hc, hf⟩ := hf_ck hf
  refine ld_18 C hw hc dX1_compareOpenAndKept_8 ?_
  refine nm_i hf (fun x1 hf => ?_)
  refine lv_istore (lv' := [(4, .int x1), (0, .ref (ea E 6)), (1, .int p1), (2, .int p2), (3, .int p3)]) hx hb dX1_compareOpenAndKept_9 hl (by decide) rfl (fun ls hl => ?_)
  refine lv_iconst (v := 0) hx hb dX1_compareOpenAndKept_11 kc_0 ?_
  refine lv_istore (lv' := [(5, .int (0 : Int32)), (4, .int x1), (0, .ref (ea E 6)), (1, .int p1), (2, .int p2), (3, .int p3)]) hx hb dX1_compareOpenAndKept_12 hl (by decide) rfl (fun ls hl => ?_)
  exact w_Cr_compareOpenAndKept_L14 C _ hf _ _ _ hw (lv_sub hl [2, 3, 4, 5, 1, 0] rfl)
end
theorem t_Cr_compareOpenAndKept {l : Launch} {V : St} {N : Nat} {S : St} {p1 : Int32} {p2 : Int32} {p3 : Int32} {S9 : St} (hf : Cr_compareOpenAndKept N S p1 p2 p3 = some S9) : Ct l (wX V) yX1_compareOpenAndKept cX1_compareOpenAndKept 6 none 6 (fun E => [.ref (ea E 6), .int p1, .int p2, .int p3]) S (fun E => none) S9 :=
  ofBlock (by decide +kernel) (fun _ => Nat.le_of_ble_eq_true rfl) (fun E p e s m args below meth c ls C hw hl => w_Cr_compareOpenAndKept C hw hl hf)
theorem dX1_isSoIfKeptOn_0 : decode cX1_isSoIfKeptOn 0 = .ok (.iconst 0, 1) := by decide +kernel
theorem dX1_isSoIfKeptOn_1 : decode cX1_isSoIfKeptOn 1 = .ok (.istore_n 3, 1) := by decide +kernel
theorem dX1_isSoIfKeptOn_2 : decode cX1_isSoIfKeptOn 2 = .ok (.iload_n 3, 1) := by decide +kernel
theorem dX1_isSoIfKeptOn_3 : decode cX1_isSoIfKeptOn 3 = .ok (.aload_n 0, 1) := by decide +kernel
theorem dX1_isSoIfKeptOn_4 : decode cX1_isSoIfKeptOn 4 = .ok (.getfield 28, 3) := by decide +kernel
theorem dX1_isSoIfKeptOn_7 : decode cX1_isSoIfKeptOn 7 = .ok (.getfield 91, 3) := by decide +kernel
theorem dX1_isSoIfKeptOn_10 : decode cX1_isSoIfKeptOn 10 = .ok (.iload_n 2, 1) := by decide +kernel
theorem dX1_isSoIfKeptOn_11 : decode cX1_isSoIfKeptOn 11 = .ok (.iaload, 1) := by decide +kernel
theorem dX1_isSoIfKeptOn_12 : decode cX1_isSoIfKeptOn 12 = .ok (.if_icmp .ge 54, 3) := by decide +kernel
theorem dX1_isSoIfKeptOn_15 : decode cX1_isSoIfKeptOn 15 = .ok (.iload_n 1, 1) := by decide +kernel
theorem dX1_isSoIfKeptOn_16 : decode cX1_isSoIfKeptOn 16 = .ok (.iconst (-1), 1) := by decide +kernel
theorem dX1_isSoIfKeptOn_17 : decode cX1_isSoIfKeptOn 17 = .ok (.if_icmp .eq 8, 3) := by decide +kernel
theorem dX1_isSoIfKeptOn_20 : decode cX1_isSoIfKeptOn 20 = .ok (.iload_n 1, 1) := by decide +kernel
theorem dX1_isSoIfKeptOn_21 : decode cX1_isSoIfKeptOn 21 = .ok (.iload_n 3, 1) := by decide +kernel
theorem dX1_isSoIfKeptOn_22 : decode cX1_isSoIfKeptOn 22 = .ok (.if_icmp .le 7, 3) := by decide +kernel
theorem dX1_isSoIfKeptOn_25 : decode cX1_isSoIfKeptOn 25 = .ok (.iconst 1, 1) := by decide +kernel
theorem dX1_isSoIfKeptOn_26 : decode cX1_isSoIfKeptOn 26 = .ok (.goto 4, 3) := by decide +kernel
theorem dX1_isSoIfKeptOn_29 : decode cX1_isSoIfKeptOn 29 = .ok (.iconst 0, 1) := by decide +kernel
theorem dX1_isSoIfKeptOn_30 : decode cX1_isSoIfKeptOn 30 = .ok (.istore 4, 2) := by decide +kernel
theorem dX1_isSoIfKeptOn_32 : decode cX1_isSoIfKeptOn 32 = .ok (.iload 4, 2) := by decide +kernel
theorem dX1_isSoIfKeptOn_34 : decode cX1_isSoIfKeptOn 34 = .ok (.ifCond .eq 15, 3) := by decide +kernel
theorem dX1_isSoIfKeptOn_37 : decode cX1_isSoIfKeptOn 37 = .ok (.aload_n 0, 1) := by decide +kernel
theorem dX1_isSoIfKeptOn_38 : decode cX1_isSoIfKeptOn 38 = .ok (.getfield 11, 3) := by decide +kernel
theorem dX1_isSoIfKeptOn_41 : decode cX1_isSoIfKeptOn 41 = .ok (.iload_n 3, 1) := by decide +kernel
theorem dX1_isSoIfKeptOn_42 : decode cX1_isSoIfKeptOn 42 = .ok (.baload, 1) := by decide +kernel
theorem dX1_isSoIfKeptOn_43 : decode cX1_isSoIfKeptOn 43 = .ok (.ifCond .ne 17, 3) := by decide +kernel
theorem dX1_isSoIfKeptOn_46 : decode cX1_isSoIfKeptOn 46 = .ok (.goto 12, 3) := by decide +kernel
theorem dX1_isSoIfKeptOn_49 : decode cX1_isSoIfKeptOn 49 = .ok (.aload_n 0, 1) := by decide +kernel
theorem dX1_isSoIfKeptOn_50 : decode cX1_isSoIfKeptOn 50 = .ok (.getfield 17, 3) := by decide +kernel
theorem dX1_isSoIfKeptOn_53 : decode cX1_isSoIfKeptOn 53 = .ok (.iload_n 3, 1) := by decide +kernel
theorem dX1_isSoIfKeptOn_54 : decode cX1_isSoIfKeptOn 54 = .ok (.baload, 1) := by decide +kernel
theorem dX1_isSoIfKeptOn_55 : decode cX1_isSoIfKeptOn 55 = .ok (.ifCond .ne 5, 3) := by decide +kernel
theorem dX1_isSoIfKeptOn_58 : decode cX1_isSoIfKeptOn 58 = .ok (.iconst 0, 1) := by decide +kernel
theorem dX1_isSoIfKeptOn_59 : decode cX1_isSoIfKeptOn 59 = .ok (.ireturn, 1) := by decide +kernel
theorem dX1_isSoIfKeptOn_60 : decode cX1_isSoIfKeptOn 60 = .ok (.iinc 3 1, 3) := by decide +kernel
theorem dX1_isSoIfKeptOn_63 : decode cX1_isSoIfKeptOn 63 = .ok (.goto (-61), 3) := by decide +kernel
theorem dX1_isSoIfKeptOn_66 : decode cX1_isSoIfKeptOn 66 = .ok (.iconst 1, 1) := by decide +kernel
theorem dX1_isSoIfKeptOn_67 : decode cX1_isSoIfKeptOn 67 = .ok (.ireturn, 1) := by decide +kernel
section
variable {p : Program} {l : Launch} {e : Env} {s : State} {m : MethodId} {args : Array Value} {below : List Frame} {meth : Method} {c : Code} {H : Heap} {locs : List Loc} {E : Ev} {S V : St} {ls : Array Slot}
set_option maxRecDepth 20000 in
theorem w_Cr_isSoIfKeptOn_b30 {N : Nat} {k2 : (Int32) → Option Int32} {l1 : Int32} {l2 : Int32} {l3 : Int32} {s0 : Int32} {r : Int32} (C : Cx p s m args meth c E cX1_isSoIfKeptOn 5 RX1 (some .boolean)) (hk2 : ∀ x, k2 x = some r → ∀ (H : Heap) (locs : List Loc) (ls : Array Slot), Wd E (wX V E) s.heap S H locs → lv_has ls 5 [(0, .ref (ea E 6)), (1, .int l1), (2, .int l2), (3, .int x)] → W p l e (rmh 1) s m args below meth c H locs 0 0 (MQ below (QW E (wX V E) (some (.int r)) S) args s 0 0 (eA E)) (F0 m 2 ls [])) (hw : Wd E (wX V E) s.heap S H locs) (hl : lv_has ls 5 [(0, .ref (ea E 6)), (1, .int l1), (2, .int l2), (3, .int l3)]) (hf : Cr_isSoIfKeptOn_b30 N k2 S l1 l2 l3 s0 = some r) : W p l e (rmh 1) s m args below meth c H locs 0 0 (MQ below (QW E (wX V E) (some (.int r)) S) args s 0 0 (eA E)) (F0 m 30 ls [.int s0]) := by
  have hx := C.1
  have hb := C.2.1
  unfold Cr_isSoIfKeptOn_b30 at hf
  refine lv_istore (lv' := [(4, .int s0), (0, .ref (ea E 6)), (1, .int l1), (2, .int l2), (3, .int l3)]) hx hb dX1_isSoIfKeptOn_30 hl (by decide) rfl (fun ls hl => ?_)
  refine lv_iload hx hb dX1_isSoIfKeptOn_32 (lv_at hl 0 rfl) ?_
  refine lv_if_eq (tgt := 49) hx hb dX1_isSoIfKeptOn_34 (by decide) (fun q => ?_) (fun q => ?_)
  · have hf := hf_t q hf
    refine lv_aload_n hx hb dX1_isSoIfKeptOn_49 rfl (lv_at hl 1 rfl) ?_
    refine get_6_4 C hw q_336 dX1_isSoIfKeptOn_50 ?_
    refine lv_iload_n hx hb dX1_isSoIfKeptOn_53 rfl (lv_at hl 4 rfl) ?_
    obtain ⟨hc, hf⟩ := hf_ck hf
    refine ld_30 C hw hc dX1_isSoIfKeptOn_54 ?_
    refine lv_if_ne (tgt := 60) hx hb dX1_isSoIfKeptOn_55 (by decide) (fun q => ?_) (fun q => ?_)
    · have hf := hf_f q hf
      obtain ⟨x1, ex1, hf⟩ := nme hf
      refine lv_iinc (v := x1) (lv' := [(3, .int x1), (4, .int s0), (0, .ref (ea E 6)), (1, .int l1), (2, .int l2)]) hx hb dX1_isSoIfKeptOn_60 hl (k := 4) rfl (ki_1 ex1) (by decide) rfl (fun ls hl => ?_)
      refine lv_goto (tgt := 2) hx hb dX1_isSoIfKeptOn_63 (by decide) ?_
      exact hk2 _ hf _ _ _ hw (lv_sub hl [2, 3, 4, 0] rfl)
    · have hf := hf_t q hf
      refine lv_iconst (v := 0) hx hb dX1_isSoIfKeptOn_58 kc_0 ?_
      exact ret_z rfl C hw dX1_isSoIfKeptOn_59 hf
  · have hf := hf_f q hf
    refine lv_aload_n hx hb dX1_isSoIfKeptOn_37 rfl (lv_at hl 1 rfl) ?_
    refine get_6_3 C hw q_335 dX1_isSoIfKeptOn_38 ?_
    refine lv_iload_n hx hb dX1_isSoIfKeptOn_41 rfl (lv_at hl 4 rfl) ?_
    obtain ⟨hc, hf⟩ := hf_ck hf
    refine ld_29 C hw hc dX1_isSoIfKeptOn_42 ?_
    refine lv_if_ne (tgt := 60) hx hb dX1_isSoIfKeptOn_43 (by decide) (fun q => ?_) (fun q => ?_)
    · have hf := hf_f q hf
      obtain ⟨x2, ex2, hf⟩ := nme hf
      refine lv_iinc (v := x2) (lv' := [(3, .int x2), (4, .int s0), (0, .ref (ea E 6)), (1, .int l1), (2, .int l2)]) hx hb dX1_isSoIfKeptOn_60 hl (k := 4) rfl (ki_1 ex2) (by decide) rfl (fun ls hl => ?_)
      refine lv_goto (tgt := 2) hx hb dX1_isSoIfKeptOn_63 (by decide) ?_
      exact hk2 _ hf _ _ _ hw (lv_sub hl [2, 3, 4, 0] rfl)
    · have hf := hf_t q hf
      refine lv_goto (tgt := 58) hx hb dX1_isSoIfKeptOn_46 (by decide) ?_
      refine lv_iconst (v := 0) hx hb dX1_isSoIfKeptOn_58 kc_0 ?_
      exact ret_z rfl C hw dX1_isSoIfKeptOn_59 hf
set_option maxRecDepth 20000 in
theorem w_Cr_isSoIfKeptOn_b2 {N : Nat} {k2 : (Int32) → Option Int32} {l1 : Int32} {l2 : Int32} {l3 : Int32} {r : Int32} (C : Cx p s m args meth c E cX1_isSoIfKeptOn 5 RX1 (some .boolean)) (hk2 : ∀ x, k2 x = some r → ∀ (H : Heap) (locs : List Loc) (ls : Array Slot), Wd E (wX V E) s.heap S H locs → lv_has ls 5 [(0, .ref (ea E 6)), (1, .int l1), (2, .int l2), (3, .int x)] → W p l e (rmh 1) s m args below meth c H locs 0 0 (MQ below (QW E (wX V E) (some (.int r)) S) args s 0 0 (eA E)) (F0 m 2 ls [])) (hw : Wd E (wX V E) s.heap S H locs) (hl : lv_has ls 5 [(0, .ref (ea E 6)), (1, .int l1), (2, .int l2), (3, .int l3)]) (hf : Cr_isSoIfKeptOn_b2 N k2 S l1 l2 l3 = some r) : W p l e (rmh 1) s m args below meth c H locs 0 0 (MQ below (QW E (wX V E) (some (.int r)) S) args s 0 0 (eA E)) (F0 m 2 ls []) := by
  have hx := C.1
  have hb := C.2.1
  unfold Cr_isSoIfKeptOn_b2 at hf
  refine lv_iload_n hx hb dX1_isSoIfKeptOn_2 rfl (lv_at hl 3 rfl) ?_
  refine lv_aload_n hx hb dX1_isSoIfKeptOn_3 rfl (lv_at hl 0 rfl) ?_
  refine get_6_2 C hw q_334 dX1_isSoIfKeptOn_4 ?_
  refine get_10_0 C hw q_216 dX1_isSoIfKeptOn_7 ?_
  refine lv_iload_n hx hb dX1_isSoIfKeptOn_10 rfl (lv_at hl 2 rfl) ?_
  obtain ⟨hc, hf⟩ := hf_ck hf
  refine ld_40 C hw hc dX1_isSoIfKeptOn_11 ?_
  refine lv_icmp_ge (tgt := 66) hx hb dX1_isSoIfKeptOn_12 (by decide) (fun q => ?_) (fun q => ?_)
  · have hf := hf_t q hf
    refine lv_iconst (v := 1) hx hb dX1_isSoIfKeptOn_66 kc_1 ?_
    exact ret_z rfl C hw dX1_isSoIfKeptOn_67 hf
  · have hf := hf_f q hf
    refine lv_iload_n hx hb dX1_isSoIfKeptOn_15 rfl (lv_at hl 1 rfl) ?_
    refine lv_iconst (v := -1) hx hb dX1_isSoIfKeptOn_16 kc_m1 ?_
    refine lv_icmp_eq (tgt := 25) hx hb dX1_isSoIfKeptOn_17 (by decide) (fun q => ?_) (fun q => ?_)
    · have hf := hf_t q hf
      refine lv_iconst (v := 1) hx hb dX1_isSoIfKeptOn_25 kc_1 ?_
      refine lv_goto (tgt := 30) hx hb dX1_isSoIfKeptOn_26 (by decide) ?_
      exact w_Cr_isSoIfKeptOn_b30 C hk2 hw (lv_sub hl [0, 1, 2, 3] rfl) hf
    · have hf := hf_f q hf
      refine lv_iload_n hx hb dX1_isSoIfKeptOn_20 rfl (lv_at hl 1 rfl) ?_
      refine lv_iload_n hx hb dX1_isSoIfKeptOn_21 rfl (lv_at hl 3 rfl) ?_
      refine lv_icmp_le (tgt := 29) hx hb dX1_isSoIfKeptOn_22 (by decide) (fun q => ?_) (fun q => ?_)
      · have hf := hf_t q hf
        refine lv_iconst (v := 0) hx hb dX1_isSoIfKeptOn_29 kc_0 ?_
        exact w_Cr_isSoIfKeptOn_b30 C hk2 hw (lv_sub hl [0, 1, 2, 3] rfl) hf
      · have hf := hf_f q hf
        refine lv_iconst (v := 1) hx hb dX1_isSoIfKeptOn_25 kc_1 ?_
        refine lv_goto (tgt := 30) hx hb dX1_isSoIfKeptOn_26 (by decide) ?_
        exact w_Cr_isSoIfKeptOn_b30 C hk2 hw (lv_sub hl [0, 1, 2, 3] rfl) hf
theorem w_Cr_isSoIfKeptOn_L2 {N : Nat} {l1 : Int32} {l2 : Int32} {r : Int32} (C : Cx p s m args meth c E cX1_isSoIfKeptOn 5 RX1 (some .boolean)) : ∀ x, Cr_isSoIfKeptOn_L2 N S l1 l2 x = some r → ∀ (H : Heap) (locs : List Loc) (ls : Array Slot), Wd E (wX V E) s.heap S H locs → lv_has ls 5 [(0, .ref (ea E 6)), (1, .int l1), (2, .int l2), (3, .int x)] → W p l e (rmh 1) s m args below meth c H locs 0 0 (MQ below (QW E (wX V E) (some (.int r)) S) args s 0 0 (eA E)) (F0 m 2 ls []) :=
  lp_W (fun k x hk hf H locs ls hw hl => w_Cr_isSoIfKeptOn_b2 C hk hw hl hf) N
set_option maxRecDepth 20000 in
theorem w_Cr_isSoIfKeptOn {N : Nat} {p1 : Int32} {p2 : Int32} {r : Int32} (C : Cx p s m args meth c E cX1_isSoIfKeptOn 5 RX1 (some .boolean)) (hw : Wd E (wX V E) s.heap S H locs) (hl : lv_has ls 5 [(0, .ref (ea E 6)), (1, .int p1), (2, .int p2)]) (hf : Cr_isSoIfKeptOn N S p1 p2 = some r) : W p l e (rmh 1) s m args below meth c H locs 0 0 (MQ below (QW E (wX V E) (some (.int r)) S) args s 0 0 (eA E)) (F0 m 0 ls []) := by
  have hx := C.1
  have hb := C.2.1
  unfold Cr_isSoIfKeptOn at hf
  refine lv_iconst (v := 0) hx hb dX1_isSoIfKeptOn_0 kc_0 ?_
  refine lv_istore_n (lv' := [(3, .int (0 : Int32)), (0, .ref (ea E 6)), (1, .int p1), (2, .int p2)]) hx hb dX1_isSoIfKeptOn_1 rfl hl (by decide) rfl (fun ls hl => ?_)
  exact w_Cr_isSoIfKeptOn_L2 C _ hf _ _ _ hw (lv_sub hl [1, 2, 3, 0] rfl)
end
theorem t_Cr_isSoIfKeptOn {l : Launch} {V : St} {N : Nat} {S : St} {p1 : Int32} {p2 : Int32} {r : Int32} (hf : Cr_isSoIfKeptOn N S p1 p2 = some r) : Ct l (wX V) yX1_isSoIfKeptOn cX1_isSoIfKeptOn 5 (some .boolean) 1 (fun E => [.ref (ea E 6), .int p1, .int p2]) S (fun E => some (.int r)) S :=
  ofBlock (by decide +kernel) (fun _ => Nat.le_of_ble_eq_true rfl) (fun E p e s m args below meth c ls C hw hl => w_Cr_isSoIfKeptOn C hw hl hf)
theorem dX1_howManyKepts_0 : decode cX1_howManyKepts 0 = .ok (.iconst 0, 1) := by decide +kernel
theorem dX1_howManyKepts_1 : decode cX1_howManyKepts 1 = .ok (.istore_n 2, 1) := by decide +kernel
theorem dX1_howManyKepts_2 : decode cX1_howManyKepts 2 = .ok (.iconst (-1), 1) := by decide +kernel
theorem dX1_howManyKepts_3 : decode cX1_howManyKepts 3 = .ok (.istore_n 3, 1) := by decide +kernel
theorem dX1_howManyKepts_4 : decode cX1_howManyKepts 4 = .ok (.iload_n 3, 1) := by decide +kernel
theorem dX1_howManyKepts_5 : decode cX1_howManyKepts 5 = .ok (.bipush 100, 2) := by decide +kernel
theorem dX1_howManyKepts_7 : decode cX1_howManyKepts 7 = .ok (.if_icmp .ge 21, 3) := by decide +kernel
theorem dX1_howManyKepts_10 : decode cX1_howManyKepts 10 = .ok (.aload_n 0, 1) := by decide +kernel
theorem dX1_howManyKepts_11 : decode cX1_howManyKepts 11 = .ok (.iload_n 3, 1) := by decide +kernel
theorem dX1_howManyKepts_12 : decode cX1_howManyKepts 12 = .ok (.iload_n 1, 1) := by decide +kernel
theorem dX1_howManyKepts_13 : decode cX1_howManyKepts 13 = .ok (.invokevirtual 113, 3) := by decide +kernel
theorem dX1_howManyKepts_16 : decode cX1_howManyKepts 16 = .ok (.ifCond .eq 6, 3) := by decide +kernel
theorem dX1_howManyKepts_19 : decode cX1_howManyKepts 19 = .ok (.iinc 2 1, 3) := by decide +kernel
theorem dX1_howManyKepts_22 : decode cX1_howManyKepts 22 = .ok (.iinc 3 1, 3) := by decide +kernel
theorem dX1_howManyKepts_25 : decode cX1_howManyKepts 25 = .ok (.goto (-21), 3) := by decide +kernel
theorem dX1_howManyKepts_28 : decode cX1_howManyKepts 28 = .ok (.iload_n 2, 1) := by decide +kernel
theorem dX1_howManyKepts_29 : decode cX1_howManyKepts 29 = .ok (.ireturn, 1) := by decide +kernel
section
variable {p : Program} {l : Launch} {e : Env} {s : State} {m : MethodId} {args : Array Value} {below : List Frame} {meth : Method} {c : Code} {H : Heap} {locs : List Loc} {E : Ev} {S V : St} {ls : Array Slot}
set_option maxRecDepth 20000 in
theorem w_Cr_howManyKepts_b4 {N : Nat} {k4 : (Int32 × Int32) → Option Int32} {l1 : Int32} {l2 : Int32} {l3 : Int32} {r : Int32} (C : Cx p s m args meth c E cX1_howManyKepts 4 RX1 (some .int)) (hk4 : ∀ x, k4 x = some r → ∀ (H : Heap) (locs : List Loc) (ls : Array Slot), Wd E (wX V E) s.heap S H locs → lv_has ls 4 [(0, .ref (ea E 6)), (1, .int l1), (2, .int x.1), (3, .int x.2)] → W p l e (rmh 2) s m args below meth c H locs 0 0 (MQ below (QW E (wX V E) (some (.int r)) S) args s 0 0 (eA E)) (F0 m 4 ls [])) (hw : Wd E (wX V E) s.heap S H locs) (hl : lv_has ls 4 [(0, .ref (ea E 6)), (1, .int l1), (2, .int l2), (3, .int l3)]) (hf : Cr_howManyKepts_b4 N k4 S l1 l2 l3 = some r) : W p l e (rmh 2) s m args below meth c H locs 0 0 (MQ below (QW E (wX V E) (some (.int r)) S) args s 0 0 (eA E)) (F0 m 4 ls []) := by
  have hx := C.1
  have hb := C.2.1
  unfold Cr_howManyKepts_b4 at hf
  refine lv_iload_n hx hb dX1_howManyKepts_4 rfl (lv_at hl 3 rfl) ?_
  refine lv_bipush (v := 100) hx hb dX1_howManyKepts_5 kb_100 ?_
  refine lv_icmp_ge (tgt := 28) hx hb dX1_howManyKepts_7 (by decide) (fun q => ?_) (fun q => ?_)
  · have hf := hf_t q hf
    refine lv_iload_n hx hb dX1_howManyKepts_28 rfl (lv_at hl 2 rfl) ?_
    exact ret_i C hw dX1_howManyKepts_29 hf
  · have hf := hf_f q hf
    refine lv_aload_n hx hb dX1_howManyKepts_10 rfl (lv_at hl 0 rfl) ?_
    refine lv_iload_n hx hb dX1_howManyKepts_11 rfl (lv_at hl 3 rfl) ?_
    refine lv_iload_n hx hb dX1_howManyKepts_12 rfl (lv_at hl 1 rfl) ?_
    obtain ⟨r1, hr, hf⟩ := hf_1 hf
    refine inv_Vi (q0 := 6) (ci := 1) (As := [.int l3, .int l1]) lk_X1_113 C hw rfl rfl rfl (t_Cr_isSoIfKeptOn hr) rfl hl.1 dX1_howManyKepts_13 rfl (Nat.le_of_ble_eq_true rfl) (by decide) (Nat.le_of_ble_eq_true rfl) rfl (fun H locs hw => ?_)
    refine lv_if_eq (tgt := 22) hx hb dX1_howManyKepts_16 (by decide) (fun q => ?_) (fun q => ?_)
    · have hf := hf_t q hf
      obtain ⟨x2, ex2, hf⟩ := nme hf
      refine lv_iinc (v := x2) (lv' := [(3, .int x2), (0, .ref (ea E 6)), (1, .int l1), (2, .int l2)]) hx hb dX1_howManyKepts_22 hl (k := 3) rfl (ki_1 ex2) (by decide) rfl (fun ls hl => ?_)
      refine lv_goto (tgt := 4) hx hb dX1_howManyKepts_25 (by decide) ?_
      exact hk4 _ hf _ _ _ hw (lv_sub hl [1, 2, 3, 0] rfl)
    · have hf := hf_f q hf
      obtain ⟨x3, ex3, hf⟩ := nme hf
      refine lv_iinc (v := x3) (lv' := [(2, .int x3), (0, .ref (ea E 6)), (1, .int l1), (3, .int l3)]) hx hb dX1_howManyKepts_19 hl (k := 2) rfl (ki_1 ex3) (by decide) rfl (fun ls hl => ?_)
      obtain ⟨x4, ex4, hf⟩ := nme hf
      refine lv_iinc (v := x4) (lv' := [(3, .int x4), (2, .int x3), (0, .ref (ea E 6)), (1, .int l1)]) hx hb dX1_howManyKepts_22 hl (k := 3) rfl (ki_1 ex4) (by decide) rfl (fun ls hl => ?_)
      refine lv_goto (tgt := 4) hx hb dX1_howManyKepts_25 (by decide) ?_
      exact hk4 _ hf _ _ _ hw (lv_sub hl [2, 3, 1, 0] rfl)
theorem w_Cr_howManyKepts_L4 {N : Nat} {l1 : Int32} {r : Int32} (C : Cx p s m args meth c E cX1_howManyKepts 4 RX1 (some .int)) : ∀ x, Cr_howManyKepts_L4 N S l1 x = some r → ∀ (H : Heap) (locs : List Loc) (ls : Array Slot), Wd E (wX V E) s.heap S H locs → lv_has ls 4 [(0, .ref (ea E 6)), (1, .int l1), (2, .int x.1), (3, .int x.2)] → W p l e (rmh 2) s m args below meth c H locs 0 0 (MQ below (QW E (wX V E) (some (.int r)) S) args s 0 0 (eA E)) (F0 m 4 ls []) :=
  lp_W (fun k x hk hf H locs ls hw hl => w_Cr_howManyKepts_b4 C hk hw hl hf) N
set_option maxRecDepth 20000 in
theorem w_Cr_howManyKepts {N : Nat} {p1 : Int32} {r : Int32} (C : Cx p s m args meth c E cX1_howManyKepts 4 RX1 (some .int)) (hw : Wd E (wX V E) s.heap S H locs) (hl : lv_has ls 4 [(0, .ref (ea E 6)), (1, .int p1)]) (hf : Cr_howManyKepts N S p1 = some r) : W p l e (rmh 2) s m args below meth c H locs 0 0 (MQ below (QW E (wX V E) (some (.int r)) S) args s 0 0 (eA E)) (F0 m 0 ls []) := by
  have hx := C.1
  have hb := C.2.1
  unfold Cr_howManyKepts at hf
  refine lv_iconst (v := 0) hx hb dX1_howManyKepts_0 kc_0 ?_
  refine lv_istore_n (lv' := [(2, .int (0 : Int32)), (0, .ref (ea E 6)), (1, .int p1)]) hx hb dX1_howManyKepts_1 rfl hl (by decide) rfl (fun ls hl => ?_)
  refine lv_iconst (v := -1) hx hb dX1_howManyKepts_2 kc_m1 ?_
  refine lv_istore_n (lv' := [(3, .int (-1 : Int32)), (2, .int (0 : Int32)), (0, .ref (ea E 6)), (1, .int p1)]) hx hb dX1_howManyKepts_3 rfl hl (by decide) rfl (fun ls hl => ?_)
  exact w_Cr_howManyKepts_L4 C _ hf _ _ _ hw (lv_sub hl [2, 3, 1, 0] rfl)
end
theorem t_Cr_howManyKepts {l : Launch} {V : St} {N : Nat} {S : St} {p1 : Int32} {r : Int32} (hf : Cr_howManyKepts N S p1 = some r) : Ct l (wX V) yX1_howManyKepts cX1_howManyKepts 4 (some .int) 2 (fun E => [.ref (ea E 6), .int p1]) S (fun E => some (.int r)) S :=
  ofBlock (by decide +kernel) (fun _ => Nat.le_of_ble_eq_true rfl) (fun E p e s m args below meth c ls C hw hl => w_Cr_howManyKepts C hw hl hf)
theorem dX1_leastKept_0 : decode cX1_leastKept 0 = .ok (.iconst (-1), 1) := by decide +kernel
theorem dX1_leastKept_1 : decode cX1_leastKept 1 = .ok (.istore_n 2, 1) := by decide +kernel
theorem dX1_leastKept_2 : decode cX1_leastKept 2 = .ok (.iload_n 2, 1) := by decide +kernel
theorem dX1_leastKept_3 : decode cX1_leastKept 3 = .ok (.bipush 100, 2) := by decide +kernel
theorem dX1_leastKept_5 : decode cX1_leastKept 5 = .ok (.if_icmp .ge 20, 3) := by decide +kernel
theorem dX1_leastKept_8 : decode cX1_leastKept 8 = .ok (.aload_n 0, 1) := by decide +kernel
theorem dX1_leastKept_9 : decode cX1_leastKept 9 = .ok (.iload_n 2, 1) := by decide +kernel
theorem dX1_leastKept_10 : decode cX1_leastKept 10 = .ok (.iload_n 1, 1) := by decide +kernel
theorem dX1_leastKept_11 : decode cX1_leastKept 11 = .ok (.invokevirtual 113, 3) := by decide +kernel
theorem dX1_leastKept_14 : decode cX1_leastKept 14 = .ok (.ifCond .eq 5, 3) := by decide +kernel
theorem dX1_leastKept_17 : decode cX1_leastKept 17 = .ok (.iload_n 2, 1) := by decide +kernel
theorem dX1_leastKept_18 : decode cX1_leastKept 18 = .ok (.ireturn, 1) := by decide +kernel
theorem dX1_leastKept_19 : decode cX1_leastKept 19 = .ok (.iinc 2 1, 3) := by decide +kernel
theorem dX1_leastKept_22 : decode cX1_leastKept 22 = .ok (.goto (-20), 3) := by decide +kernel
theorem dX1_leastKept_25 : decode cX1_leastKept 25 = .ok (.bipush (-9), 2) := by decide +kernel
theorem dX1_leastKept_27 : decode cX1_leastKept 27 = .ok (.ireturn, 1) := by decide +kernel
section
variable {p : Program} {l : Launch} {e : Env} {s : State} {m : MethodId} {args : Array Value} {below : List Frame} {meth : Method} {c : Code} {H : Heap} {locs : List Loc} {E : Ev} {S V : St} {ls : Array Slot}
set_option maxRecDepth 20000 in
theorem w_Cr_leastKept_b2 {N : Nat} {k2 : (Int32) → Option Int32} {l1 : Int32} {l2 : Int32} {r : Int32} (C : Cx p s m args meth c E cX1_leastKept 3 RX1 (some .int)) (hk2 : ∀ x, k2 x = some r → ∀ (H : Heap) (locs : List Loc) (ls : Array Slot), Wd E (wX V E) s.heap S H locs → lv_has ls 3 [(0, .ref (ea E 6)), (1, .int l1), (2, .int x)] → W p l e (rmh 2) s m args below meth c H locs 0 0 (MQ below (QW E (wX V E) (some (.int r)) S) args s 0 0 (eA E)) (F0 m 2 ls [])) (hw : Wd E (wX V E) s.heap S H locs) (hl : lv_has ls 3 [(0, .ref (ea E 6)), (1, .int l1), (2, .int l2)]) (hf : Cr_leastKept_b2 N k2 S l1 l2 = some r) : W p l e (rmh 2) s m args below meth c H locs 0 0 (MQ below (QW E (wX V E) (some (.int r)) S) args s 0 0 (eA E)) (F0 m 2 ls []) := by
  have hx := C.1
  have hb := C.2.1
  unfold Cr_leastKept_b2 at hf
  refine lv_iload_n hx hb dX1_leastKept_2 rfl (lv_at hl 2 rfl) ?_
  refine lv_bipush (v := 100) hx hb dX1_leastKept_3 kb_100 ?_
  refine lv_icmp_ge (tgt := 25) hx hb dX1_leastKept_5 (by decide) (fun q => ?_) (fun q => ?_)
  · have hf := hf_t q hf
    refine lv_bipush (v := -9) hx hb dX1_leastKept_25 kb_m9 ?_
    exact ret_i C hw dX1_leastKept_27 hf
  · have hf := hf_f q hf
    refine lv_aload_n hx hb dX1_leastKept_8 rfl (lv_at hl 0 rfl) ?_
    refine lv_iload_n hx hb dX1_leastKept_9 rfl (lv_at hl 2 rfl) ?_
    refine lv_iload_n hx hb dX1_leastKept_10 rfl (lv_at hl 1 rfl) ?_
    obtain ⟨r1, hr, hf⟩ := hf_1 hf
    refine inv_Vi (q0 := 6) (ci := 1) (As := [.int l2, .int l1]) lk_X1_113 C hw rfl rfl rfl (t_Cr_isSoIfKeptOn hr) rfl hl.1 dX1_leastKept_11 rfl (Nat.le_of_ble_eq_true rfl) (by decide) (Nat.le_of_ble_eq_true rfl) rfl (fun H locs hw => ?_)
    refine lv_if_eq (tgt := 19) hx hb dX1_leastKept_14 (by decide) (fun q => ?_) (fun q => ?_)
    · have hf := hf_t q hf
      obtain ⟨x2, ex2, hf⟩ := nme hf
      refine lv_iinc (v := x2) (lv' := [(2, .int x2), (0, .ref (ea E 6)), (1, .int l1)]) hx hb dX1_leastKept_19 hl (k := 2) rfl (ki_1 ex2) (by decide) rfl (fun ls hl => ?_)
      refine lv_goto (tgt := 2) hx hb dX1_leastKept_22 (by decide) ?_
      exact hk2 _ hf _ _ _ hw (lv_sub hl [1, 2, 0] rfl)
    · have hf := hf_f q hf
      refine lv_iload_n hx hb dX1_leastKept_17 rfl (lv_at hl 2 rfl) ?_
      exact ret_i C hw dX1_leastKept_18 hf
theorem w_Cr_leastKept_L2 {N : Nat} {l1 : Int32} {r : Int32} (C : Cx p s m args meth c E cX1_leastKept 3 RX1 (some .int)) : ∀ x, Cr_leastKept_L2 N S l1 x = some r → ∀ (H : Heap) (locs : List Loc) (ls : Array Slot), Wd E (wX V E) s.heap S H locs → lv_has ls 3 [(0, .ref (ea E 6)), (1, .int l1), (2, .int x)] → W p l e (rmh 2) s m args below meth c H locs 0 0 (MQ below (QW E (wX V E) (some (.int r)) S) args s 0 0 (eA E)) (F0 m 2 ls []) :=
  lp_W (fun k x hk hf H locs ls hw hl => w_Cr_leastKept_b2 C hk hw hl hf) N
set_option maxRecDepth 20000 in
theorem w_Cr_leastKept {N : Nat} {p1 : Int32} {r : Int32} (C : Cx p s m args meth c E cX1_leastKept 3 RX1 (some .int)) (hw : Wd E (wX V E) s.heap S H locs) (hl : lv_has ls 3 [(0, .ref (ea E 6)), (1, .int p1)]) (hf : Cr_leastKept N S p1 = some r) : W p l e (rmh 2) s m args below meth c H locs 0 0 (MQ below (QW E (wX V E) (some (.int r)) S) args s 0 0 (eA E)) (F0 m 0 ls []) := by
  have hx := C.1
  have hb := C.2.1
  unfold Cr_leastKept at hf
  refine lv_iconst (v := -1) hx hb dX1_leastKept_0 kc_m1 ?_
  refine lv_istore_n (lv' := [(2, .int (-1 : Int32)), (0, .ref (ea E 6)), (1, .int p1)]) hx hb dX1_leastKept_1 rfl hl (by decide) rfl (fun ls hl => ?_)
  exact w_Cr_leastKept_L2 C _ hf _ _ _ hw (lv_sub hl [1, 2, 0] rfl)
end
theorem t_Cr_leastKept {l : Launch} {V : St} {N : Nat} {S : St} {p1 : Int32} {r : Int32} (hf : Cr_leastKept N S p1 = some r) : Ct l (wX V) yX1_leastKept cX1_leastKept 3 (some .int) 2 (fun E => [.ref (ea E 6), .int p1]) S (fun E => some (.int r)) S :=
  ofBlock (by decide +kernel) (fun _ => Nat.le_of_ble_eq_true rfl) (fun E p e s m args below meth c ls C hw hl => w_Cr_leastKept C hw hl hf)
theorem dJ7_fill_53178_0 : decode cJ7_fill_53178 0 = .ok (.iconst 0, 1) := by decide +kernel
theorem dJ7_fill_53178_1 : decode cJ7_fill_53178 1 = .ok (.istore_n 2, 1) := by decide +kernel
theorem dJ7_fill_53178_2 : decode cJ7_fill_53178 2 = .ok (.aload_n 0, 1) := by decide +kernel
theorem dJ7_fill_53178_3 : decode cJ7_fill_53178 3 = .ok (.arraylength, 1) := by decide +kernel
theorem dJ7_fill_53178_4 : decode cJ7_fill_53178 4 = .ok (.istore_n 3, 1) := by decide +kernel
theorem dJ7_fill_53178_5 : decode cJ7_fill_53178 5 = .ok (.iload_n 2, 1) := by decide +kernel
theorem dJ7_fill_53178_6 : decode cJ7_fill_53178 6 = .ok (.iload_n 3, 1) := by decide +kernel
theorem dJ7_fill_53178_7 : decode cJ7_fill_53178 7 = .ok (.if_icmp .ge 13, 3) := by decide +kernel
theorem dJ7_fill_53178_10 : decode cJ7_fill_53178 10 = .ok (.aload_n 0, 1) := by decide +kernel
theorem dJ7_fill_53178_11 : decode cJ7_fill_53178 11 = .ok (.iload_n 2, 1) := by decide +kernel
theorem dJ7_fill_53178_12 : decode cJ7_fill_53178 12 = .ok (.iload_n 1, 1) := by decide +kernel
theorem dJ7_fill_53178_13 : decode cJ7_fill_53178 13 = .ok (.iastore, 1) := by decide +kernel
theorem dJ7_fill_53178_14 : decode cJ7_fill_53178 14 = .ok (.iinc 2 1, 3) := by decide +kernel
theorem dJ7_fill_53178_17 : decode cJ7_fill_53178 17 = .ok (.goto (-12), 3) := by decide +kernel
theorem dJ7_fill_53178_20 : decode cJ7_fill_53178 20 = .ok (.return_, 1) := by decide +kernel
section
variable {p : Program} {l : Launch} {e : Env} {s : State} {m : MethodId} {args : Array Value} {below : List Frame} {meth : Method} {c : Code} {H : Heap} {locs : List Loc} {E : Ev} {S V : St} {ls : Array Slot}
set_option maxRecDepth 20000 in
theorem w_Ar_fill_53178_b5 {N : Nat} {k5 : (St × Int32) → Option St} {l0 : Nat} {l1 : Int32} {l3 : Int32} {l2 : Int32} {S9 : St} (C : Cx p s m args meth c E cJ7_fill_53178 4 RJ7 none) (hk5 : ∀ x, k5 x = some S9 → ∀ (H : Heap) (locs : List Loc) (ls : Array Slot), Wd E (wX V E) s.heap x.1 H locs → lv_has ls 4 [(0, .ref (ea E l0)), (1, .int l1), (2, .int x.2), (3, .int l3)] → W p l e (rmh 1) s m args below meth c H locs 0 0 (MQ below (QW E (wX V E) (none) S9) args s 0 0 (eA E)) (F0 m 5 ls [])) (hw : Wd E (wX V E) s.heap S H locs) (hl : lv_has ls 4 [(0, .ref (ea E l0)), (1, .int l1), (2, .int l2), (3, .int l3)]) (hf : Ar_fill_53178_b5 N k5 S l0 l1 l3 l2 = some S9) : W p l e (rmh 1) s m args below meth c H locs 0 0 (MQ below (QW E (wX V E) (none) S9) args s 0 0 (eA E)) (F0 m 5 ls []) := by
  have hx := C.1
  have hb := C.2.1
  unfold Ar_fill_53178_b5 at hf
  refine lv_iload_n hx hb dJ7_fill_53178_5 rfl (lv_at hl 2 rfl) ?_
  refine lv_iload_n hx hb dJ7_fill_53178_6 rfl (lv_at hl 3 rfl) ?_
  refine lv_icmp_ge (tgt := 20) hx hb dJ7_fill_53178_7 (by decide) (fun q => ?_) (fun q => ?_)
  · have hf := hf_t q hf
    exact ret_vS C hw dJ7_fill_53178_20 hf
  · have hf := hf_f q hf
    refine lv_aload_n hx hb dJ7_fill_53178_10 rfl (lv_at hl 0 rfl) ?_
    refine lv_iload_n hx hb dJ7_fill_53178_11 rfl (lv_at hl 2 rfl) ?_
    refine lv_iload_n hx hb dJ7_fill_53178_12 rfl (lv_at hl 1 rfl) ?_
    obtain ⟨hc0, hf⟩ := hf_ck hf
    obtain ⟨hc, hf⟩ := hf_ck hf
    refine stI C hw hc0 hc dJ7_fill_53178_13 (fun H locs hw => ?_)
    refine nm_S hf hw (fun S1 hf hw => ?_)
    obtain ⟨x2, ex2, hf⟩ := nme hf
    refine lv_iinc (v := x2) (lv' := [(2, .int x2), (0, .ref (ea E l0)), (1, .int l1), (3, .int l3)]) hx hb dJ7_fill_53178_14 hl (k := 2) rfl (ki_1 ex2) (by decide) rfl (fun ls hl => ?_)
    refine lv_goto (tgt := 5) hx hb dJ7_fill_53178_17 (by decide) ?_
    exact hk5 _ hf _ _ _ hw (lv_sub hl [1, 2, 0, 3] rfl)
theorem w_Ar_fill_53178_L5 {N : Nat} {l0 : Nat} {l1 : Int32} {l3 : Int32} {S9 : St} (C : Cx p s m args meth c E cJ7_fill_53178 4 RJ7 none) : ∀ x, Ar_fill_53178_L5 N l0 l1 l3 x = some S9 → ∀ (H : Heap) (locs : List Loc) (ls : Array Slot), Wd E (wX V E) s.heap x.1 H locs → lv_has ls 4 [(0, .ref (ea E l0)), (1, .int l1), (2, .int x.2), (3, .int l3)] → W p l e (rmh 1) s m args below meth c H locs 0 0 (MQ below (QW E (wX V E) (none) S9) args s 0 0 (eA E)) (F0 m 5 ls []) :=
  lp_W (fun k x hk hf H locs ls hw hl => w_Ar_fill_53178_b5 C hk hw hl hf) N
set_option maxRecDepth 20000 in
theorem w_Ar_fill_53178 {N : Nat} {p1 : Nat} {p2 : Int32} {S9 : St} (C : Cx p s m args meth c E cJ7_fill_53178 4 RJ7 none) (hw : Wd E (wX V E) s.heap S H locs) (hl : lv_has ls 4 [(0, .ref (ea E p1)), (1, .int p2)]) (hf : Ar_fill_53178 N S p1 p2 = some S9) : W p l e (rmh 1) s m args below meth c H locs 0 0 (MQ below (QW E (wX V E) (none) S9) args s 0 0 (eA E)) (F0 m 0 ls []) := by
  have hx := C.1
  have hb := C.2.1
  unfold Ar_fill_53178 at hf
  refine lv_iconst (v := 0) hx hb dJ7_fill_53178_0 kc_0 ?_
  refine lv_istore_n (lv' := [(2, .int (0 : Int32)), (0, .ref (ea E p1)), (1, .int p2)]) hx hb dJ7_fill_53178_1 rfl hl (by decide) rfl (fun ls hl => ?_)
  refine lv_aload_n hx hb dJ7_fill_53178_2 rfl (lv_at hl 1 rfl) ?_
  obtain ⟨hc, hf⟩ := hf_ck hf
  refine lenIr C hw hc dJ7_fill_53178_3 ?_
  refine nm_i hf (fun x1 hf => ?_)
  refine lv_istore_n (lv' := [(3, .int x1), (2, .int (0 : Int32)), (0, .ref (ea E p1)), (1, .int p2)]) hx hb dJ7_fill_53178_4 rfl hl (by decide) rfl (fun ls hl => ?_)
  exact w_Ar_fill_53178_L5 C _ hf _ _ _ hw (lv_sub hl [2, 3, 1, 0] rfl)
end
theorem t_Ar_fill_53178 {l : Launch} {V : St} {N : Nat} {S : St} {p1 : Nat} {p2 : Int32} {S9 : St} (hf : Ar_fill_53178 N S p1 p2 = some S9) : Ct l (wX V) yJ7_fill_53178 cJ7_fill_53178 4 none 1 (fun E => [.ref (ea E p1), .int p2]) S (fun E => none) S9 :=
  ofBlock (by decide +kernel) (fun _ => Nat.le_of_ble_eq_true rfl) (fun E p e s m args below meth c ls C hw hl => w_Ar_fill_53178 C hw hl hf)
theorem dX2_layOut_0 : decode cX2_layOut 0 = .ok (.aload_n 0, 1) := by decide +kernel
theorem dX2_layOut_1 : decode cX2_layOut 1 = .ok (.getfield 9, 3) := by decide +kernel
theorem dX2_layOut_4 : decode cX2_layOut 4 = .ok (.iconst 0, 1) := by decide +kernel
theorem dX2_layOut_5 : decode cX2_layOut 5 = .ok (.invokestatic 25, 3) := by decide +kernel
theorem dX2_layOut_8 : decode cX2_layOut 8 = .ok (.aload_n 0, 1) := by decide +kernel
theorem dX2_layOut_9 : decode cX2_layOut 9 = .ok (.getfield 9, 3) := by decide +kernel
theorem dX2_layOut_12 : decode cX2_layOut 12 = .ok (.iconst 0, 1) := by decide +kernel
theorem dX2_layOut_13 : decode cX2_layOut 13 = .ok (.aload_n 0, 1) := by decide +kernel
theorem dX2_layOut_14 : decode cX2_layOut 14 = .ok (.getfield 21, 3) := by decide +kernel
theorem dX2_layOut_17 : decode cX2_layOut 17 = .ok (.getfield 31, 3) := by decide +kernel
theorem dX2_layOut_20 : decode cX2_layOut 20 = .ok (.iload_n 1, 1) := by decide +kernel
theorem dX2_layOut_21 : decode cX2_layOut 21 = .ok (.iaload, 1) := by decide +kernel
theorem dX2_layOut_22 : decode cX2_layOut 22 = .ok (.iastore, 1) := by decide +kernel
theorem dX2_layOut_23 : decode cX2_layOut 23 = .ok (.iconst 0, 1) := by decide +kernel
theorem dX2_layOut_24 : decode cX2_layOut 24 = .ok (.istore_n 3, 1) := by decide +kernel
theorem dX2_layOut_25 : decode cX2_layOut 25 = .ok (.iload_n 3, 1) := by decide +kernel
theorem dX2_layOut_26 : decode cX2_layOut 26 = .ok (.aload_n 0, 1) := by decide +kernel
theorem dX2_layOut_27 : decode cX2_layOut 27 = .ok (.getfield 21, 3) := by decide +kernel
theorem dX2_layOut_30 : decode cX2_layOut 30 = .ok (.getfield 36, 3) := by decide +kernel
theorem dX2_layOut_33 : decode cX2_layOut 33 = .ok (.if_icmp .ge 97, 3) := by decide +kernel
theorem dX2_layOut_36 : decode cX2_layOut 36 = .ok (.aload_n 2, 1) := by decide +kernel
theorem dX2_layOut_37 : decode cX2_layOut 37 = .ok (.iload_n 3, 1) := by decide +kernel
theorem dX2_layOut_38 : decode cX2_layOut 38 = .ok (.iaload, 1) := by decide +kernel
theorem dX2_layOut_39 : decode cX2_layOut 39 = .ok (.iconst (-1), 1) := by decide +kernel
theorem dX2_layOut_40 : decode cX2_layOut 40 = .ok (.if_icmp .ne 8, 3) := by decide +kernel
theorem dX2_layOut_43 : decode cX2_layOut 43 = .ok (.bipush 100, 2) := by decide +kernel
theorem dX2_layOut_45 : decode cX2_layOut 45 = .ok (.goto 6, 3) := by decide +kernel
theorem dX2_layOut_48 : decode cX2_layOut 48 = .ok (.aload_n 2, 1) := by decide +kernel
theorem dX2_layOut_49 : decode cX2_layOut 49 = .ok (.iload_n 3, 1) := by decide +kernel
theorem dX2_layOut_50 : decode cX2_layOut 50 = .ok (.iaload, 1) := by decide +kernel
theorem dX2_layOut_51 : decode cX2_layOut 51 = .ok (.istore 4, 2) := by decide +kernel
theorem dX2_layOut_53 : decode cX2_layOut 53 = .ok (.aload_n 0, 1) := by decide +kernel
theorem dX2_layOut_54 : decode cX2_layOut 54 = .ok (.getfield 21, 3) := by decide +kernel
theorem dX2_layOut_57 : decode cX2_layOut 57 = .ok (.iload_n 3, 1) := by decide +kernel
theorem dX2_layOut_58 : decode cX2_layOut 58 = .ok (.iload_n 1, 1) := by decide +kernel
theorem dX2_layOut_59 : decode cX2_layOut 59 = .ok (.invokevirtual 40, 3) := by decide +kernel
theorem dX2_layOut_62 : decode cX2_layOut 62 = .ok (.ifCond .eq 62, 3) := by decide +kernel
theorem dX2_layOut_65 : decode cX2_layOut 65 = .ok (.iload 4, 2) := by decide +kernel
theorem dX2_layOut_67 : decode cX2_layOut 67 = .ok (.aload_n 0, 1) := by decide +kernel
theorem dX2_layOut_68 : decode cX2_layOut 68 = .ok (.getfield 21, 3) := by decide +kernel
theorem dX2_layOut_71 : decode cX2_layOut 71 = .ok (.getfield 44, 3) := by decide +kernel
theorem dX2_layOut_74 : decode cX2_layOut 74 = .ok (.iload_n 3, 1) := by decide +kernel
theorem dX2_layOut_75 : decode cX2_layOut 75 = .ok (.iaload, 1) := by decide +kernel
theorem dX2_layOut_76 : decode cX2_layOut 76 = .ok (.if_icmp .le 48, 3) := by decide +kernel
theorem dX2_layOut_79 : decode cX2_layOut 79 = .ok (.aload_n 0, 1) := by decide +kernel
theorem dX2_layOut_80 : decode cX2_layOut 80 = .ok (.getfield 9, 3) := by decide +kernel
theorem dX2_layOut_83 : decode cX2_layOut 83 = .ok (.aload_n 0, 1) := by decide +kernel
theorem dX2_layOut_84 : decode cX2_layOut 84 = .ok (.getfield 21, 3) := by decide +kernel
theorem dX2_layOut_87 : decode cX2_layOut 87 = .ok (.getfield 44, 3) := by decide +kernel
theorem dX2_layOut_90 : decode cX2_layOut 90 = .ok (.iload_n 3, 1) := by decide +kernel
theorem dX2_layOut_91 : decode cX2_layOut 91 = .ok (.iaload, 1) := by decide +kernel
theorem dX2_layOut_92 : decode cX2_layOut 92 = .ok (.dup2, 1) := by decide +kernel
theorem dX2_layOut_93 : decode cX2_layOut 93 = .ok (.iaload, 1) := by decide +kernel
theorem dX2_layOut_94 : decode cX2_layOut 94 = .ok (.aload_n 0, 1) := by decide +kernel
theorem dX2_layOut_95 : decode cX2_layOut 95 = .ok (.getfield 21, 3) := by decide +kernel
theorem dX2_layOut_98 : decode cX2_layOut 98 = .ok (.getfield 47, 3) := by decide +kernel
theorem dX2_layOut_101 : decode cX2_layOut 101 = .ok (.iload_n 3, 1) := by decide +kernel
theorem dX2_layOut_102 : decode cX2_layOut 102 = .ok (.iaload, 1) := by decide +kernel
theorem dX2_layOut_103 : decode cX2_layOut 103 = .ok (.iadd, 1) := by decide +kernel
theorem dX2_layOut_104 : decode cX2_layOut 104 = .ok (.iastore, 1) := by decide +kernel
theorem dX2_layOut_105 : decode cX2_layOut 105 = .ok (.aload_n 0, 1) := by decide +kernel
theorem dX2_layOut_106 : decode cX2_layOut 106 = .ok (.getfield 9, 3) := by decide +kernel
theorem dX2_layOut_109 : decode cX2_layOut 109 = .ok (.iload 4, 2) := by decide +kernel
theorem dX2_layOut_111 : decode cX2_layOut 111 = .ok (.dup2, 1) := by decide +kernel
theorem dX2_layOut_112 : decode cX2_layOut 112 = .ok (.iaload, 1) := by decide +kernel
theorem dX2_layOut_113 : decode cX2_layOut 113 = .ok (.aload_n 0, 1) := by decide +kernel
theorem dX2_layOut_114 : decode cX2_layOut 114 = .ok (.getfield 21, 3) := by decide +kernel
theorem dX2_layOut_117 : decode cX2_layOut 117 = .ok (.getfield 47, 3) := by decide +kernel
theorem dX2_layOut_120 : decode cX2_layOut 120 = .ok (.iload_n 3, 1) := by decide +kernel
theorem dX2_layOut_121 : decode cX2_layOut 121 = .ok (.iaload, 1) := by decide +kernel
theorem dX2_layOut_122 : decode cX2_layOut 122 = .ok (.isub, 1) := by decide +kernel
theorem dX2_layOut_123 : decode cX2_layOut 123 = .ok (.iastore, 1) := by decide +kernel
theorem dX2_layOut_124 : decode cX2_layOut 124 = .ok (.iinc 3 1, 3) := by decide +kernel
theorem dX2_layOut_127 : decode cX2_layOut 127 = .ok (.goto (-102), 3) := by decide +kernel
theorem dX2_layOut_130 : decode cX2_layOut 130 = .ok (.iconst 1, 1) := by decide +kernel
theorem dX2_layOut_131 : decode cX2_layOut 131 = .ok (.istore_n 3, 1) := by decide +kernel
theorem dX2_layOut_132 : decode cX2_layOut 132 = .ok (.iload_n 3, 1) := by decide +kernel
theorem dX2_layOut_133 : decode cX2_layOut 133 = .ok (.bipush 100, 2) := by decide +kernel
theorem dX2_layOut_135 : decode cX2_layOut 135 = .ok (.if_icmp .ge 26, 3) := by decide +kernel
theorem dX2_layOut_138 : decode cX2_layOut 138 = .ok (.aload_n 0, 1) := by decide +kernel
theorem dX2_layOut_139 : decode cX2_layOut 139 = .ok (.getfield 9, 3) := by decide +kernel
theorem dX2_layOut_142 : decode cX2_layOut 142 = .ok (.iload_n 3, 1) := by decide +kernel
theorem dX2_layOut_143 : decode cX2_layOut 143 = .ok (.dup2, 1) := by decide +kernel
theorem dX2_layOut_144 : decode cX2_layOut 144 = .ok (.iaload, 1) := by decide +kernel
theorem dX2_layOut_145 : decode cX2_layOut 145 = .ok (.aload_n 0, 1) := by decide +kernel
theorem dX2_layOut_146 : decode cX2_layOut 146 = .ok (.getfield 9, 3) := by decide +kernel
theorem dX2_layOut_149 : decode cX2_layOut 149 = .ok (.iload_n 3, 1) := by decide +kernel
theorem dX2_layOut_150 : decode cX2_layOut 150 = .ok (.iconst 1, 1) := by decide +kernel
theorem dX2_layOut_151 : decode cX2_layOut 151 = .ok (.isub, 1) := by decide +kernel
theorem dX2_layOut_152 : decode cX2_layOut 152 = .ok (.iaload, 1) := by decide +kernel
theorem dX2_layOut_153 : decode cX2_layOut 153 = .ok (.iadd, 1) := by decide +kernel
theorem dX2_layOut_154 : decode cX2_layOut 154 = .ok (.iastore, 1) := by decide +kernel
theorem dX2_layOut_155 : decode cX2_layOut 155 = .ok (.iinc 3 1, 3) := by decide +kernel
theorem dX2_layOut_158 : decode cX2_layOut 158 = .ok (.goto (-26), 3) := by decide +kernel
theorem dX2_layOut_161 : decode cX2_layOut 161 = .ok (.return_, 1) := by decide +kernel
section
variable {p : Program} {l : Launch} {e : Env} {s : State} {m : MethodId} {args : Array Value} {below : List Frame} {meth : Method} {c : Code} {H : Heap} {locs : List Loc} {E : Ev} {S V : St} {ls : Array Slot}
set_option maxRecDepth 20000 in
theorem w_Dy_layOut_b132 {N : Nat} {k132 : (St × Int32) → Option St} {l3 : Int32} {S9 : St} (C : Cx p s m args meth c E cX2_layOut 5 RX2 none) (hk132 : ∀ x, k132 x = some S9 → ∀ (H : Heap) (locs : List Loc) (ls : Array Slot), Wd E (wX V E) s.heap x.1 H locs → lv_has ls 5 [(0, .ref (ea E 3)), (3, .int x.2)] → W p l e (rmh 2) s m args below meth c H locs 0 0 (MQ below (QW E (wX V E) (none) S9) args s 0 0 (eA E)) (F0 m 132 ls [])) (hw : Wd E (wX V E) s.heap S H locs) (hl : lv_has ls 5 [(0, .ref (ea E 3)), (3, .int l3)]) (hf : Dy_layOut_b132 N k132 S l3 = some S9) : W p l e (rmh 2) s m args below meth c H locs 0 0 (MQ below (QW E (wX V E) (none) S9) args s 0 0 (eA E)) (F0 m 132 ls []) := by
  have hx := C.1
  have hb := C.2.1
  unfold Dy_layOut_b132 at hf
  refine lv_iload_n hx hb dX2_layOut_132 rfl (lv_at hl 1 rfl) ?_
  refine lv_bipush (v := 100) hx hb dX2_layOut_133 kb_100 ?_
  refine lv_icmp_ge (tgt := 161) hx hb dX2_layOut_135 (by decide) (fun q => ?_) (fun q => ?_)
  · have hf := hf_t q hf
    exact ret_vS C hw dX2_layOut_161 hf
  · have hf := hf_f q hf
    refine lv_aload_n hx hb dX2_layOut_138 rfl (lv_at hl 0 rfl) ?_
    refine get_3_1 C hw q_290 dX2_layOut_139 ?_
    refine lv_iload_n hx hb dX2_layOut_142 rfl (lv_at hl 1 rfl) ?_
    refine lv_dup2_11 hx hb dX2_layOut_143 rfl rfl ?_
    obtain ⟨hc, hf⟩ := hf_ck hf
    refine ld_25 C hw hc dX2_layOut_144 ?_
    refine lv_aload_n hx hb dX2_layOut_145 rfl (lv_at hl 0 rfl) ?_
    refine get_3_1 C hw q_290 dX2_layOut_146 ?_
    refine lv_iload_n hx hb dX2_layOut_149 rfl (lv_at hl 1 rfl) ?_
    refine lv_iconst (v := 1) hx hb dX2_layOut_150 kc_1 ?_
    refine lv_isub hx hb dX2_layOut_151 ?_
    obtain ⟨hc, hf⟩ := hf_ck hf
    refine ld_25 C hw hc dX2_layOut_152 ?_
    refine lv_iadd hx hb dX2_layOut_153 ?_
    obtain ⟨hc, hf⟩ := hf_ck hf
    refine st_25 C hw hc dX2_layOut_154 (fun H locs hw => ?_)
    refine nm_S hf hw (fun S1 hf hw => ?_)
    obtain ⟨x2, ex2, hf⟩ := nme hf
    refine lv_iinc (v := x2) (lv' := [(3, .int x2), (0, .ref (ea E 3))]) hx hb dX2_layOut_155 hl (k := 1) rfl (ki_1 ex2) (by decide) rfl (fun ls hl => ?_)
    refine lv_goto (tgt := 132) hx hb dX2_layOut_158 (by decide) ?_
    exact hk132 _ hf _ _ _ hw (lv_sub hl [1, 0] rfl)
theorem w_Dy_layOut_L132 {N : Nat} {S9 : St} (C : Cx p s m args meth c E cX2_layOut 5 RX2 none) : ∀ x, Dy_layOut_L132 N x = some S9 → ∀ (H : Heap) (locs : List Loc) (ls : Array Slot), Wd E (wX V E) s.heap x.1 H locs → lv_has ls 5 [(0, .ref (ea E 3)), (3, .int x.2)] → W p l e (rmh 2) s m args below meth c H locs 0 0 (MQ below (QW E (wX V E) (none) S9) args s 0 0 (eA E)) (F0 m 132 ls []) :=
  lp_W (fun k x hk hf H locs ls hw hl => w_Dy_layOut_b132 C hk hw hl hf) N
set_option maxRecDepth 20000 in
theorem w_Dy_layOut_b51 {N : Nat} {k25 : (St × Int32) → Option St} {l1 : Int32} {l2 : Nat} {l3 : Int32} {s0 : Int32} {S9 : St} (C : Cx p s m args meth c E cX2_layOut 5 RX2 none) (hk25 : ∀ x, k25 x = some S9 → ∀ (H : Heap) (locs : List Loc) (ls : Array Slot), Wd E (wX V E) s.heap x.1 H locs → lv_has ls 5 [(0, .ref (ea E 3)), (1, .int l1), (2, .ref (ea E l2)), (3, .int x.2)] → W p l e (rmh 2) s m args below meth c H locs 0 0 (MQ below (QW E (wX V E) (none) S9) args s 0 0 (eA E)) (F0 m 25 ls [])) (hw : Wd E (wX V E) s.heap S H locs) (hl : lv_has ls 5 [(0, .ref (ea E 3)), (1, .int l1), (2, .ref (ea E l2)), (3, .int l3)]) (hf : Dy_layOut_b51 N k25 S l1 l2 l3 s0 = some S9) : W p l e (rmh 2) s m args below meth c H locs 0 0 (MQ below (QW E (wX V E) (none) S9) args s 0 0 (eA E)) (F0 m 51 ls [.int s0]) := by
  have hx := C.1
  have hb := C.2.1
  unfold Dy_layOut_b51 at hf
  refine lv_istore (lv' := [(4, .int s0), (0, .ref (ea E 3)), (1, .int l1), (2, .ref (ea E l2)), (3, .int l3)]) hx hb dX2_layOut_51 hl (by decide) rfl (fun ls hl => ?_)
  refine lv_aload_n hx hb dX2_layOut_53 rfl (lv_at hl 1 rfl) ?_
  refine get_3_0 C hw q_289 dX2_layOut_54 ?_
  refine lv_iload_n hx hb dX2_layOut_57 rfl (lv_at hl 4 rfl) ?_
  refine lv_iload_n hx hb dX2_layOut_58 rfl (lv_at hl 2 rfl) ?_
  obtain ⟨r1, hr, hf⟩ := hf_1 hf
  refine inv_Vi (q0 := 1) (ci := 8) (As := [.int l3, .int l1]) lk_X2_40 C hw rfl rfl rfl (t_Sm_concerns hr) rfl hl.1 dX2_layOut_59 rfl (Nat.le_of_ble_eq_true rfl) (by decide) (Nat.le_of_ble_eq_true rfl) rfl (fun H locs hw => ?_)
  refine lv_if_eq (tgt := 124) hx hb dX2_layOut_62 (by decide) (fun q => ?_) (fun q => ?_)
  · have hf := hf_t q hf
    obtain ⟨x2, ex2, hf⟩ := nme hf
    refine lv_iinc (v := x2) (lv' := [(3, .int x2), (4, .int s0), (0, .ref (ea E 3)), (1, .int l1), (2, .ref (ea E l2))]) hx hb dX2_layOut_124 hl (k := 4) rfl (ki_1 ex2) (by decide) rfl (fun ls hl => ?_)
    refine lv_goto (tgt := 25) hx hb dX2_layOut_127 (by decide) ?_
    exact hk25 _ hf _ _ _ hw (lv_sub hl [2, 3, 4, 0] rfl)
  · have hf := hf_f q hf
    refine lv_iload hx hb dX2_layOut_65 (lv_at hl 0 rfl) ?_
    refine lv_aload_n hx hb dX2_layOut_67 rfl (lv_at hl 1 rfl) ?_
    refine get_3_0 C hw q_289 dX2_layOut_68 ?_
    refine get_1_4 C hw q_118 dX2_layOut_71 ?_
    refine lv_iload_n hx hb dX2_layOut_74 rfl (lv_at hl 4 rfl) ?_
    obtain ⟨hc, hf⟩ := hf_ck hf
    refine ld_15 C hw hc dX2_layOut_75 ?_
    refine lv_icmp_le (tgt := 124) hx hb dX2_layOut_76 (by decide) (fun q => ?_) (fun q => ?_)
    · have hf := hf_t q hf
      obtain ⟨x3, ex3, hf⟩ := nme hf
      refine lv_iinc (v := x3) (lv' := [(3, .int x3), (4, .int s0), (0, .ref (ea E 3)), (1, .int l1), (2, .ref (ea E l2))]) hx hb dX2_layOut_124 hl (k := 4) rfl (ki_1 ex3) (by decide) rfl (fun ls hl => ?_)
      refine lv_goto (tgt := 25) hx hb dX2_layOut_127 (by decide) ?_
      exact hk25 _ hf _ _ _ hw (lv_sub hl [2, 3, 4, 0] rfl)
    · have hf := hf_f q hf
      refine lv_aload_n hx hb dX2_layOut_79 rfl (lv_at hl 1 rfl) ?_
      refine get_3_1 C hw q_290 dX2_layOut_80 ?_
      refine lv_aload_n hx hb dX2_layOut_83 rfl (lv_at hl 1 rfl) ?_
      refine get_3_0 C hw q_289 dX2_layOut_84 ?_
      refine get_1_4 C hw q_118 dX2_layOut_87 ?_
      refine lv_iload_n hx hb dX2_layOut_90 rfl (lv_at hl 4 rfl) ?_
      obtain ⟨hc, hf⟩ := hf_ck hf
      refine ld_15 C hw hc dX2_layOut_91 ?_
      refine lv_dup2_11 hx hb dX2_layOut_92 rfl rfl ?_
      obtain ⟨hc, hf⟩ := hf_ck hf
      refine ld_25 C hw hc dX2_layOut_93 ?_
      refine lv_aload_n hx hb dX2_layOut_94 rfl (lv_at hl 1 rfl) ?_
      refine get_3_0 C hw q_289 dX2_layOut_95 ?_
      refine get_1_6 C hw q_125 dX2_layOut_98 ?_
      refine lv_iload_n hx hb dX2_layOut_101 rfl (lv_at hl 4 rfl) ?_
      obtain ⟨hc, hf⟩ := hf_ck hf
      refine ld_17 C hw hc dX2_layOut_102 ?_
      refine lv_iadd hx hb dX2_layOut_103 ?_
      obtain ⟨hc, hf⟩ := hf_ck hf
      refine st_25 C hw hc dX2_layOut_104 (fun H locs hw => ?_)
      refine nm_S hf hw (fun S4 hf hw => ?_)
      refine lv_aload_n hx hb dX2_layOut_105 rfl (lv_at hl 1 rfl) ?_
      refine get_3_1 C hw q_290 dX2_layOut_106 ?_
      refine lv_iload hx hb dX2_layOut_109 (lv_at hl 0 rfl) ?_
      refine lv_dup2_11 hx hb dX2_layOut_111 rfl rfl ?_
      obtain ⟨hc, hf⟩ := hf_ck hf
      refine ld_25 C hw hc dX2_layOut_112 ?_
      refine lv_aload_n hx hb dX2_layOut_113 rfl (lv_at hl 1 rfl) ?_
      refine get_3_0 C hw q_289 dX2_layOut_114 ?_
      refine get_1_6 C hw q_125 dX2_layOut_117 ?_
      refine lv_iload_n hx hb dX2_layOut_120 rfl (lv_at hl 4 rfl) ?_
      obtain ⟨hc, hf⟩ := hf_ck hf
      refine ld_17 C hw hc dX2_layOut_121 ?_
      refine lv_isub hx hb dX2_layOut_122 ?_
      obtain ⟨hc, hf⟩ := hf_ck hf
      refine st_25 C hw hc dX2_layOut_123 (fun H locs hw => ?_)
      refine nm_S hf hw (fun S5 hf hw => ?_)
      obtain ⟨x6, ex6, hf⟩ := nme hf
      refine lv_iinc (v := x6) (lv' := [(3, .int x6), (4, .int s0), (0, .ref (ea E 3)), (1, .int l1), (2, .ref (ea E l2))]) hx hb dX2_layOut_124 hl (k := 4) rfl (ki_1 ex6) (by decide) rfl (fun ls hl => ?_)
      refine lv_goto (tgt := 25) hx hb dX2_layOut_127 (by decide) ?_
      exact hk25 _ hf _ _ _ hw (lv_sub hl [2, 3, 4, 0] rfl)
set_option maxRecDepth 20000 in
theorem w_Dy_layOut_b25 {N : Nat} {k25 : (St × Int32) → Option St} {l1 : Int32} {l2 : Nat} {l3 : Int32} {S9 : St} (C : Cx p s m args meth c E cX2_layOut 5 RX2 none) (hk25 : ∀ x, k25 x = some S9 → ∀ (H : Heap) (locs : List Loc) (ls : Array Slot), Wd E (wX V E) s.heap x.1 H locs → lv_has ls 5 [(0, .ref (ea E 3)), (1, .int l1), (2, .ref (ea E l2)), (3, .int x.2)] → W p l e (rmh 2) s m args below meth c H locs 0 0 (MQ below (QW E (wX V E) (none) S9) args s 0 0 (eA E)) (F0 m 25 ls [])) (hw : Wd E (wX V E) s.heap S H locs) (hl : lv_has ls 5 [(0, .ref (ea E 3)), (1, .int l1), (2, .ref (ea E l2)), (3, .int l3)]) (hf : Dy_layOut_b25 N k25 S l1 l2 l3 = some S9) : W p l e (rmh 2) s m args below meth c H locs 0 0 (MQ below (QW E (wX V E) (none) S9) args s 0 0 (eA E)) (F0 m 25 ls []) := by
  have hx := C.1
  have hb := C.2.1
  unfold Dy_layOut_b25 at hf
  refine lv_iload_n hx hb dX2_layOut_25 rfl (lv_at hl 3 rfl) ?_
  refine lv_aload_n hx hb dX2_layOut_26 rfl (lv_at hl 0 rfl) ?_
  refine get_3_0 C hw q_289 dX2_layOut_27 ?_
  refine get_1_10 C hw q_137 dX2_layOut_30 ?_
  refine lv_icmp_ge (tgt := 130) hx hb dX2_layOut_33 (by decide) (fun q => ?_) (fun q => ?_)
  · have hf := hf_t q hf
    refine lv_iconst (v := 1) hx hb dX2_layOut_130 kc_1 ?_
    refine lv_istore_n (lv' := [(3, .int (1 : Int32)), (0, .ref (ea E 3)), (1, .int l1), (2, .ref (ea E l2))]) hx hb dX2_layOut_131 rfl hl (by decide) rfl (fun ls hl => ?_)
    exact w_Dy_layOut_L132 C _ hf _ _ _ hw (lv_sub hl [1, 0] rfl)
  · have hf := hf_f q hf
    refine lv_aload_n hx hb dX2_layOut_36 rfl (lv_at hl 2 rfl) ?_
    refine lv_iload_n hx hb dX2_layOut_37 rfl (lv_at hl 3 rfl) ?_
    obtain ⟨hc0, hf⟩ := hf_ck hf
    obtain ⟨hc, hf⟩ := hf_ck hf
    refine ldI C hw hc0 hc dX2_layOut_38 ?_
    refine lv_iconst (v := -1) hx hb dX2_layOut_39 kc_m1 ?_
    refine lv_icmp_ne (tgt := 48) hx hb dX2_layOut_40 (by decide) (fun q => ?_) (fun q => ?_)
    · have hf := hf_f q hf
      refine lv_aload_n hx hb dX2_layOut_48 rfl (lv_at hl 2 rfl) ?_
      refine lv_iload_n hx hb dX2_layOut_49 rfl (lv_at hl 3 rfl) ?_
      obtain ⟨hc0, hf⟩ := hf_ck hf
      obtain ⟨hc, hf⟩ := hf_ck hf
      refine ldI C hw hc0 hc dX2_layOut_50 ?_
      exact w_Dy_layOut_b51 C hk25 hw (lv_sub hl [0, 1, 2, 3] rfl) hf
    · have hf := hf_t q hf
      refine lv_bipush (v := 100) hx hb dX2_layOut_43 kb_100 ?_
      refine lv_goto (tgt := 51) hx hb dX2_layOut_45 (by decide) ?_
      exact w_Dy_layOut_b51 C hk25 hw (lv_sub hl [0, 1, 2, 3] rfl) hf
theorem w_Dy_layOut_L25 {N : Nat} {l1 : Int32} {l2 : Nat} {S9 : St} (C : Cx p s m args meth c E cX2_layOut 5 RX2 none) : ∀ x, Dy_layOut_L25 N l1 l2 x = some S9 → ∀ (H : Heap) (locs : List Loc) (ls : Array Slot), Wd E (wX V E) s.heap x.1 H locs → lv_has ls 5 [(0, .ref (ea E 3)), (1, .int l1), (2, .ref (ea E l2)), (3, .int x.2)] → W p l e (rmh 2) s m args below meth c H locs 0 0 (MQ below (QW E (wX V E) (none) S9) args s 0 0 (eA E)) (F0 m 25 ls []) :=
  lp_W (fun k x hk hf H locs ls hw hl => w_Dy_layOut_b25 C hk hw hl hf) N
set_option maxRecDepth 20000 in
theorem w_Dy_layOut {N : Nat} {p1 : Int32} {p2 : Nat} {S9 : St} (C : Cx p s m args meth c E cX2_layOut 5 RX2 none) (hw : Wd E (wX V E) s.heap S H locs) (hl : lv_has ls 5 [(0, .ref (ea E 3)), (1, .int p1), (2, .ref (ea E p2))]) (hf : Dy_layOut N S p1 p2 = some S9) : W p l e (rmh 2) s m args below meth c H locs 0 0 (MQ below (QW E (wX V E) (none) S9) args s 0 0 (eA E)) (F0 m 0 ls []) := by
  have hx := C.1
  have hb := C.2.1
  unfold Dy_layOut at hf
  refine lv_aload_n hx hb dX2_layOut_0 rfl (lv_at hl 0 rfl) ?_
  refine get_3_1 C hw q_290 dX2_layOut_1 ?_
  refine lv_iconst (v := 0) hx hb dX2_layOut_4 kc_0 ?_
  obtain ⟨S1, hr, hf⟩ := hf_1 hf
  refine inv_SAv (As := fun E => [.ref (ea E 25), .int (0 : Int32)]) lk_X2_25 C hw (t_Ar_fill_53178 hr) hl.1 dX2_layOut_5 rfl (Nat.le_of_ble_eq_true rfl) (by decide) (Nat.le_of_ble_eq_true rfl) rfl (fun H locs hw => ?_)
  refine lv_aload_n hx hb dX2_layOut_8 rfl (lv_at hl 0 rfl) ?_
  refine get_3_1 C hw q_290 dX2_layOut_9 ?_
  refine lv_iconst (v := 0) hx hb dX2_layOut_12 kc_0 ?_
  refine lv_aload_n hx hb dX2_layOut_13 rfl (lv_at hl 0 rfl) ?_
  refine get_3_0 C hw q_289 dX2_layOut_14 ?_
  refine get_1_0 C hw q_109 dX2_layOut_17 ?_
  refine lv_iload_n hx hb dX2_layOut_20 rfl (lv_at hl 1 rfl) ?_
  obtain ⟨hc, hf⟩ := hf_ck hf
  refine ld_11 C hw hc dX2_layOut_21 ?_
  refine st_25 C hw (by decide) dX2_layOut_22 (fun H locs hw => ?_)
  refine nm_S hf hw (fun S2 hf hw => ?_)
  refine lv_iconst (v := 0) hx hb dX2_layOut_23 kc_0 ?_
  refine lv_istore_n (lv' := [(3, .int (0 : Int32)), (0, .ref (ea E 3)), (1, .int p1), (2, .ref (ea E p2))]) hx hb dX2_layOut_24 rfl hl (by decide) rfl (fun ls hl => ?_)
  exact w_Dy_layOut_L25 C _ hf _ _ _ hw (lv_sub hl [1, 2, 3, 0] rfl)
end
theorem t_Dy_layOut {l : Launch} {V : St} {N : Nat} {S : St} {p1 : Int32} {p2 : Nat} {S9 : St} (hf : Dy_layOut N S p1 p2 = some S9) : Ct l (wX V) yX2_layOut cX2_layOut 5 none 2 (fun E => [.ref (ea E 3), .int p1, .ref (ea E p2)]) S (fun E => none) S9 :=
  ofBlock (by decide +kernel) (fun _ => Nat.le_of_ble_eq_true rfl) (fun E p e s m args below meth c ls C hw hl => w_Dy_layOut C hw hl hf)
theorem dX8_goesRound_0 : decode cX8_goesRound 0 = .ok (.iload_n 2, 1) := by decide +kernel
theorem dX8_goesRound_1 : decode cX8_goesRound 1 = .ok (.aload_n 0, 1) := by decide +kernel
theorem dX8_goesRound_2 : decode cX8_goesRound 2 = .ok (.getfield 15, 3) := by decide +kernel
theorem dX8_goesRound_5 : decode cX8_goesRound 5 = .ok (.iload_n 1, 1) := by decide +kernel
theorem dX8_goesRound_6 : decode cX8_goesRound 6 = .ok (.iaload, 1) := by decide +kernel
theorem dX8_goesRound_7 : decode cX8_goesRound 7 = .ok (.aload_n 0, 1) := by decide +kernel
theorem dX8_goesRound_8 : decode cX8_goesRound 8 = .ok (.getfield 15, 3) := by decide +kernel
theorem dX8_goesRound_11 : decode cX8_goesRound 11 = .ok (.iload_n 1, 1) := by decide +kernel
theorem dX8_goesRound_12 : decode cX8_goesRound 12 = .ok (.iaload, 1) := by decide +kernel
theorem dX8_goesRound_13 : decode cX8_goesRound 13 = .ok (.aload_n 0, 1) := by decide +kernel
theorem dX8_goesRound_14 : decode cX8_goesRound 14 = .ok (.getfield 18, 3) := by decide +kernel
theorem dX8_goesRound_17 : decode cX8_goesRound 17 = .ok (.iload_n 1, 1) := by decide +kernel
theorem dX8_goesRound_18 : decode cX8_goesRound 18 = .ok (.iaload, 1) := by decide +kernel
theorem dX8_goesRound_19 : decode cX8_goesRound 19 = .ok (.iadd, 1) := by decide +kernel
theorem dX8_goesRound_20 : decode cX8_goesRound 20 = .ok (.invokestatic 53, 3) := by decide +kernel
theorem dX8_goesRound_23 : decode cX8_goesRound 23 = .ok (.ireturn, 1) := by decide +kernel
section
variable {p : Program} {l : Launch} {e : Env} {s : State} {m : MethodId} {args : Array Value} {below : List Frame} {meth : Method} {c : Code} {H : Heap} {locs : List Loc} {E : Ev} {S V : St} {ls : Array Slot}
set_option maxRecDepth 20000 in
theorem w_Sm_goesRound {p1 : Int32} {p2 : Int32} {r : Int32} (C : Cx p s m args meth c E cX8_goesRound 3 RX8 (some .boolean)) (hw : Wd E (wX V E) s.heap S H locs) (hl : lv_has ls 3 [(0, .ref (ea E 1)), (1, .int p1), (2, .int p2)]) (hf : Sm_goesRound S p1 p2 = some r) : W p l e (rmh 2) s m args below meth c H locs 0 0 (MQ below (QW E (wX V E) (some (.int r)) S) args s 0 0 (eA E)) (F0 m 0 ls []) := by
  have hx := C.1
  have hb := C.2.1
  unfold Sm_goesRound at hf
  refine lv_iload_n hx hb dX8_goesRound_0 rfl (lv_at hl 2 rfl) ?_
  refine lv_aload_n hx hb dX8_goesRound_1 rfl (lv_at hl 0 rfl) ?_
  refine get_1_1 C hw q_110 dX8_goesRound_2 ?_
  refine lv_iload_n hx hb dX8_goesRound_5 rfl (lv_at hl 1 rfl) ?_
  obtain ⟨hc, hf⟩ := hf_ck hf
  refine ld_12 C hw hc dX8_goesRound_6 ?_
  refine lv_aload_n hx hb dX8_goesRound_7 rfl (lv_at hl 0 rfl) ?_
  refine get_1_1 C hw q_110 dX8_goesRound_8 ?_
  refine lv_iload_n hx hb dX8_goesRound_11 rfl (lv_at hl 1 rfl) ?_
  obtain ⟨hc, hf⟩ := hf_ck hf
  refine ld_12 C hw hc dX8_goesRound_12 ?_
  refine lv_aload_n hx hb dX8_goesRound_13 rfl (lv_at hl 0 rfl) ?_
  refine get_1_2 C hw q_112 dX8_goesRound_14 ?_
  refine lv_iload_n hx hb dX8_goesRound_17 rfl (lv_at hl 1 rfl) ?_
  obtain ⟨hc, hf⟩ := hf_ck hf
  refine ld_13 C hw hc dX8_goesRound_18 ?_
  refine lv_iadd hx hb dX8_goesRound_19 ?_
  obtain ⟨r1, hr, hf⟩ := hf_1 hf
  refine inv_Ni (As := [.int p2, .int (gi S 12 p1.toNatClampNeg), .int ((gi S 12 p1.toNatClampNeg) + (gi S 13 p1.toNatClampNeg))]) lk_X8_53 C hw (t_Ch_within hr) hl.1 dX8_goesRound_20 rfl (Nat.le_of_ble_eq_true rfl) (by decide) (Nat.le_of_ble_eq_true rfl) rfl (fun H locs hw => ?_)
  obtain ⟨hcb, hf⟩ := hf_ck hf
  exact ret_z (isB_nar hcb) C hw dX8_goesRound_23 hf
end
theorem t_Sm_goesRound {l : Launch} {V : St} {S : St} {p1 : Int32} {p2 : Int32} {r : Int32} (hf : Sm_goesRound S p1 p2 = some r) : Ct l (wX V) yX8_goesRound cX8_goesRound 3 (some .boolean) 2 (fun E => [.ref (ea E 1), .int p1, .int p2]) S (fun E => some (.int r)) S :=
  ofBlock (by decide +kernel) (fun _ => Nat.le_of_ble_eq_true rfl) (fun E p e s m args below meth c ls C hw hl => w_Sm_goesRound C hw hl hf)
theorem dX2_ridesLaidOut_0 : decode cX2_ridesLaidOut 0 = .ok (.aload_n 0, 1) := by decide +kernel
theorem dX2_ridesLaidOut_1 : decode cX2_ridesLaidOut 1 = .ok (.getfield 21, 3) := by decide +kernel
theorem dX2_ridesLaidOut_4 : decode cX2_ridesLaidOut 4 = .ok (.iload_n 1, 1) := by decide +kernel
theorem dX2_ridesLaidOut_5 : decode cX2_ridesLaidOut 5 = .ok (.aload_n 0, 1) := by decide +kernel
theorem dX2_ridesLaidOut_6 : decode cX2_ridesLaidOut 6 = .ok (.getfield 9, 3) := by decide +kernel
theorem dX2_ridesLaidOut_9 : decode cX2_ridesLaidOut 9 = .ok (.iload_n 2, 1) := by decide +kernel
theorem dX2_ridesLaidOut_10 : decode cX2_ridesLaidOut 10 = .ok (.iaload, 1) := by decide +kernel
theorem dX2_ridesLaidOut_11 : decode cX2_ridesLaidOut 11 = .ok (.invokevirtual 50, 3) := by decide +kernel
theorem dX2_ridesLaidOut_14 : decode cX2_ridesLaidOut 14 = .ok (.ireturn, 1) := by decide +kernel
section
variable {p : Program} {l : Launch} {e : Env} {s : State} {m : MethodId} {args : Array Value} {below : List Frame} {meth : Method} {c : Code} {H : Heap} {locs : List Loc} {E : Ev} {S V : St} {ls : Array Slot}
set_option maxRecDepth 20000 in
theorem w_Dy_ridesLaidOut {p1 : Int32} {p2 : Int32} {r : Int32} (C : Cx p s m args meth c E cX2_ridesLaidOut 3 RX2 (some .boolean)) (hw : Wd E (wX V E) s.heap S H locs) (hl : lv_has ls 3 [(0, .ref (ea E 3)), (1, .int p1), (2, .int p2)]) (hf : Dy_ridesLaidOut S p1 p2 = some r) : W p l e (rmh 3) s m args below meth c H locs 0 0 (MQ below (QW E (wX V E) (some (.int r)) S) args s 0 0 (eA E)) (F0 m 0 ls []) := by
  have hx := C.1
  have hb := C.2.1
  unfold Dy_ridesLaidOut at hf
  refine lv_aload_n hx hb dX2_ridesLaidOut_0 rfl (lv_at hl 0 rfl) ?_
  refine get_3_0 C hw q_289 dX2_ridesLaidOut_1 ?_
  refine lv_iload_n hx hb dX2_ridesLaidOut_4 rfl (lv_at hl 1 rfl) ?_
  refine lv_aload_n hx hb dX2_ridesLaidOut_5 rfl (lv_at hl 0 rfl) ?_
  refine get_3_1 C hw q_290 dX2_ridesLaidOut_6 ?_
  refine lv_iload_n hx hb dX2_ridesLaidOut_9 rfl (lv_at hl 2 rfl) ?_
  obtain ⟨hc, hf⟩ := hf_ck hf
  refine ld_25 C hw hc dX2_ridesLaidOut_10 ?_
  obtain ⟨r1, hr, hf⟩ := hf_1 hf
  refine inv_Vi (q0 := 1) (ci := 8) (As := [.int p1, .int (gi S 25 p2.toNatClampNeg)]) lk_X2_50 C hw rfl rfl rfl (t_Sm_goesRound hr) rfl hl.1 dX2_ridesLaidOut_11 rfl (Nat.le_of_ble_eq_true rfl) (by decide) (Nat.le_of_ble_eq_true rfl) rfl (fun H locs hw => ?_)
  obtain ⟨hcb, hf⟩ := hf_ck hf
  exact ret_z (isB_nar hcb) C hw dX2_ridesLaidOut_14 hf
end
theorem t_Dy_ridesLaidOut {l : Launch} {V : St} {S : St} {p1 : Int32} {p2 : Int32} {r : Int32} (hf : Dy_ridesLaidOut S p1 p2 = some r) : Ct l (wX V) yX2_ridesLaidOut cX2_ridesLaidOut 3 (some .boolean) 3 (fun E => [.ref (ea E 3), .int p1, .int p2]) S (fun E => some (.int r)) S :=
  ofBlock (by decide +kernel) (fun _ => Nat.le_of_ble_eq_true rfl) (fun E p e s m args below meth c ls C hw hl => w_Dy_ridesLaidOut C hw hl hf)
