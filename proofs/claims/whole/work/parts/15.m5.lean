theorem dX8_linksOf_0 : decode cX8_linksOf 0 = .ok (.iconst 0, 1) := by decide +kernel
theorem dX8_linksOf_1 : decode cX8_linksOf 1 = .ok (.istore_n 2, 1) := by decide +kernel
theorem dX8_linksOf_2 : decode cX8_linksOf 2 = .ok (.iconst 0, 1) := by decide +kernel
theorem dX8_linksOf_3 : decode cX8_linksOf 3 = .ok (.istore_n 3, 1) := by decide +kernel
theorem dX8_linksOf_4 : decode cX8_linksOf 4 = .ok (.iload_n 3, 1) := by decide +kernel
theorem dX8_linksOf_5 : decode cX8_linksOf 5 = .ok (.aload_n 0, 1) := by decide +kernel
theorem dX8_linksOf_6 : decode cX8_linksOf 6 = .ok (.getfield 43, 3) := by decide +kernel
theorem dX8_linksOf_9 : decode cX8_linksOf 9 = .ok (.if_icmp .ge 26, 3) := by decide +kernel
theorem dX8_linksOf_12 : decode cX8_linksOf 12 = .ok (.iload_n 1, 1) := by decide +kernel
theorem dX8_linksOf_13 : decode cX8_linksOf 13 = .ok (.iload_n 3, 1) := by decide +kernel
theorem dX8_linksOf_14 : decode cX8_linksOf 14 = .ok (.invokestatic 81, 3) := by decide +kernel
theorem dX8_linksOf_17 : decode cX8_linksOf 17 = .ok (.ifCond .eq 12, 3) := by decide +kernel
theorem dX8_linksOf_20 : decode cX8_linksOf 20 = .ok (.iload_n 2, 1) := by decide +kernel
theorem dX8_linksOf_21 : decode cX8_linksOf 21 = .ok (.aload_n 0, 1) := by decide +kernel
theorem dX8_linksOf_22 : decode cX8_linksOf 22 = .ok (.getfield 30, 3) := by decide +kernel
theorem dX8_linksOf_25 : decode cX8_linksOf 25 = .ok (.iload_n 3, 1) := by decide +kernel
theorem dX8_linksOf_26 : decode cX8_linksOf 26 = .ok (.iaload, 1) := by decide +kernel
theorem dX8_linksOf_27 : decode cX8_linksOf 27 = .ok (.iadd, 1) := by decide +kernel
theorem dX8_linksOf_28 : decode cX8_linksOf 28 = .ok (.istore_n 2, 1) := by decide +kernel
theorem dX8_linksOf_29 : decode cX8_linksOf 29 = .ok (.iinc 3 1, 3) := by decide +kernel
theorem dX8_linksOf_32 : decode cX8_linksOf 32 = .ok (.goto (-28), 3) := by decide +kernel
theorem dX8_linksOf_35 : decode cX8_linksOf 35 = .ok (.iload_n 2, 1) := by decide +kernel
theorem dX8_linksOf_36 : decode cX8_linksOf 36 = .ok (.ireturn, 1) := by decide +kernel
section
variable {p : Program} {l : Launch} {e : Env} {s : State} {m : MethodId} {args : Array Value} {below : List Frame} {meth : Method} {c : Code} {H : Heap} {locs : List Loc} {E : Ev} {S V : St} {ls : Array Slot}
set_option maxRecDepth 20000 in
theorem w_Sm_linksOf_b4 {N : Nat} {k4 : (Int32 × Int32) → Option Int32} {l1 : Int32} {l2 : Int32} {l3 : Int32} {r : Int32} (C : Cx p s m args meth c E cX8_linksOf 4 RX8 (some .int)) (hk4 : ∀ x, k4 x = some r → ∀ (H : Heap) (locs : List Loc) (ls : Array Slot), Wd E (wX V E) s.heap S H locs → lv_has ls 4 [(0, .ref (ea E 1)), (1, .int l1), (2, .int x.1), (3, .int x.2)] → W p l e (rmh 2) s m args below meth c H locs 0 0 (MQ below (QW E (wX V E) (some (.int r)) S) args s 0 0 (eA E)) (F0 m 4 ls [])) (hw : Wd E (wX V E) s.heap S H locs) (hl : lv_has ls 4 [(0, .ref (ea E 1)), (1, .int l1), (2, .int l2), (3, .int l3)]) (hf : Sm_linksOf_b4 N k4 S l1 l2 l3 = some r) : W p l e (rmh 2) s m args below meth c H locs 0 0 (MQ below (QW E (wX V E) (some (.int r)) S) args s 0 0 (eA E)) (F0 m 4 ls []) := by
  have hx := C.1
  have hb := C.2.1
  unfold Sm_linksOf_b4 at hf
  refine lv_iload_n hx hb dX8_linksOf_4 rfl (lv_at hl 3 rfl) ?_
  refine lv_aload_n hx hb dX8_linksOf_5 rfl (lv_at hl 0 rfl) ?_
  refine get_1_10 C hw q_138 dX8_linksOf_6 ?_
  refine lv_icmp_ge (tgt := 35) hx hb dX8_linksOf_9 (by decide) (fun q => ?_) (fun q => ?_)
  · have hf := hf_t q hf
    refine lv_iload_n hx hb dX8_linksOf_35 rfl (lv_at hl 2 rfl) ?_
    exact ret_i C hw dX8_linksOf_36 hf
  · have hf := hf_f q hf
    refine lv_iload_n hx hb dX8_linksOf_12 rfl (lv_at hl 1 rfl) ?_
    refine lv_iload_n hx hb dX8_linksOf_13 rfl (lv_at hl 3 rfl) ?_
    obtain ⟨r1, hr, hf⟩ := hf_1 hf
    refine inv_Ni (As := [.int l1, .int l3]) lk_X8_81 C hw (t_Ch_isIn hr) hl.1 dX8_linksOf_14 rfl (Nat.le_of_ble_eq_true rfl) (by decide) (Nat.le_of_ble_eq_true rfl) rfl (fun H locs hw => ?_)
    refine lv_if_eq (tgt := 29) hx hb dX8_linksOf_17 (by decide) (fun q => ?_) (fun q => ?_)
    · have hf := hf_t q hf
      obtain ⟨x2, ex2, hf⟩ := nme hf
      refine lv_iinc (v := x2) (lv' := [(3, .int x2), (0, .ref (ea E 1)), (1, .int l1), (2, .int l2)]) hx hb dX8_linksOf_29 hl (k := 3) rfl (ki_1 ex2) (by decide) rfl (fun ls hl => ?_)
      refine lv_goto (tgt := 4) hx hb dX8_linksOf_32 (by decide) ?_
      exact hk4 _ hf _ _ _ hw (lv_sub hl [1, 2, 3, 0] rfl)
    · have hf := hf_f q hf
      refine lv_iload_n hx hb dX8_linksOf_20 rfl (lv_at hl 2 rfl) ?_
      refine lv_aload_n hx hb dX8_linksOf_21 rfl (lv_at hl 0 rfl) ?_
      refine get_1_6 C hw q_123 dX8_linksOf_22 ?_
      refine lv_iload_n hx hb dX8_linksOf_25 rfl (lv_at hl 3 rfl) ?_
      obtain ⟨hc, hf⟩ := hf_ck hf
      refine ld_17 C hw hc dX8_linksOf_26 ?_
      refine lv_iadd hx hb dX8_linksOf_27 ?_
      refine nm_i hf (fun x3 hf => ?_)
      refine lv_istore_n (lv' := [(2, .int x3), (0, .ref (ea E 1)), (1, .int l1), (3, .int l3)]) hx hb dX8_linksOf_28 rfl hl (by decide) rfl (fun ls hl => ?_)
      obtain ⟨x4, ex4, hf⟩ := nme hf
      refine lv_iinc (v := x4) (lv' := [(3, .int x4), (2, .int x3), (0, .ref (ea E 1)), (1, .int l1)]) hx hb dX8_linksOf_29 hl (k := 3) rfl (ki_1 ex4) (by decide) rfl (fun ls hl => ?_)
      refine lv_goto (tgt := 4) hx hb dX8_linksOf_32 (by decide) ?_
      exact hk4 _ hf _ _ _ hw (lv_sub hl [2, 3, 1, 0] rfl)
theorem w_Sm_linksOf_L4 {N : Nat} {l1 : Int32} {r : Int32} (C : Cx p s m args meth c E cX8_linksOf 4 RX8 (some .int)) : ∀ x, Sm_linksOf_L4 N S l1 x = some r → ∀ (H : Heap) (locs : List Loc) (ls : Array Slot), Wd E (wX V E) s.heap S H locs → lv_has ls 4 [(0, .ref (ea E 1)), (1, .int l1), (2, .int x.1), (3, .int x.2)] → W p l e (rmh 2) s m args below meth c H locs 0 0 (MQ below (QW E (wX V E) (some (.int r)) S) args s 0 0 (eA E)) (F0 m 4 ls []) :=
  lp_W (fun k x hk hf H locs ls hw hl => w_Sm_linksOf_b4 C hk hw hl hf) N
set_option maxRecDepth 20000 in
theorem w_Sm_linksOf {N : Nat} {p1 : Int32} {r : Int32} (C : Cx p s m args meth c E cX8_linksOf 4 RX8 (some .int)) (hw : Wd E (wX V E) s.heap S H locs) (hl : lv_has ls 4 [(0, .ref (ea E 1)), (1, .int p1)]) (hf : Sm_linksOf N S p1 = some r) : W p l e (rmh 2) s m args below meth c H locs 0 0 (MQ below (QW E (wX V E) (some (.int r)) S) args s 0 0 (eA E)) (F0 m 0 ls []) := by
  have hx := C.1
  have hb := C.2.1
  unfold Sm_linksOf at hf
  refine lv_iconst (v := 0) hx hb dX8_linksOf_0 kc_0 ?_
  refine lv_istore_n (lv' := [(2, .int (0 : Int32)), (0, .ref (ea E 1)), (1, .int p1)]) hx hb dX8_linksOf_1 rfl hl (by decide) rfl (fun ls hl => ?_)
  refine lv_iconst (v := 0) hx hb dX8_linksOf_2 kc_0 ?_
  refine lv_istore_n (lv' := [(3, .int (0 : Int32)), (2, .int (0 : Int32)), (0, .ref (ea E 1)), (1, .int p1)]) hx hb dX8_linksOf_3 rfl hl (by decide) rfl (fun ls hl => ?_)
  exact w_Sm_linksOf_L4 C _ hf _ _ _ hw (lv_sub hl [2, 3, 1, 0] rfl)
end
theorem t_Sm_linksOf {l : Launch} {V : St} {N : Nat} {S : St} {p1 : Int32} {r : Int32} (hf : Sm_linksOf N S p1 = some r) : Ct l (wX V) yX8_linksOf cX8_linksOf 4 (some .int) 2 (fun E => [.ref (ea E 1), .int p1]) S (fun E => some (.int r)) S :=
  ofBlock (by decide +kernel) (fun _ => Nat.le_of_ble_eq_true rfl) (fun E p e s m args below meth c ls C hw hl => w_Sm_linksOf C hw hl hf)
theorem dX4_letsRide_0 : decode cX4_letsRide 0 = .ok (.iload_n 1, 1) := by decide +kernel
theorem dX4_letsRide_1 : decode cX4_letsRide 1 = .ok (.iload_n 2, 1) := by decide +kernel
theorem dX4_letsRide_2 : decode cX4_letsRide 2 = .ok (.iconst (-1), 1) := by decide +kernel
theorem dX4_letsRide_3 : decode cX4_letsRide 3 = .ok (.ixor, 1) := by decide +kernel
theorem dX4_letsRide_4 : decode cX4_letsRide 4 = .ok (.iand, 1) := by decide +kernel
theorem dX4_letsRide_5 : decode cX4_letsRide 5 = .ok (.ifCond .ne 29, 3) := by decide +kernel
theorem dX4_letsRide_8 : decode cX4_letsRide 8 = .ok (.aload_n 0, 1) := by decide +kernel
theorem dX4_letsRide_9 : decode cX4_letsRide 9 = .ok (.getfield 9, 3) := by decide +kernel
theorem dX4_letsRide_12 : decode cX4_letsRide 12 = .ok (.iload_n 3, 1) := by decide +kernel
theorem dX4_letsRide_13 : decode cX4_letsRide 13 = .ok (.iload 4, 2) := by decide +kernel
theorem dX4_letsRide_15 : decode cX4_letsRide 15 = .ok (.aload_n 0, 1) := by decide +kernel
theorem dX4_letsRide_16 : decode cX4_letsRide 16 = .ok (.getfield 9, 3) := by decide +kernel
theorem dX4_letsRide_19 : decode cX4_letsRide 19 = .ok (.iload_n 1, 1) := by decide +kernel
theorem dX4_letsRide_20 : decode cX4_letsRide 20 = .ok (.invokevirtual 24, 3) := by decide +kernel
theorem dX4_letsRide_23 : decode cX4_letsRide 23 = .ok (.isub, 1) := by decide +kernel
theorem dX4_letsRide_24 : decode cX4_letsRide 24 = .ok (.invokevirtual 27, 3) := by decide +kernel
theorem dX4_letsRide_27 : decode cX4_letsRide 27 = .ok (.ifCond .eq 7, 3) := by decide +kernel
theorem dX4_letsRide_30 : decode cX4_letsRide 30 = .ok (.iconst 1, 1) := by decide +kernel
theorem dX4_letsRide_31 : decode cX4_letsRide 31 = .ok (.goto 4, 3) := by decide +kernel
theorem dX4_letsRide_34 : decode cX4_letsRide 34 = .ok (.iconst 0, 1) := by decide +kernel
theorem dX4_letsRide_35 : decode cX4_letsRide 35 = .ok (.ireturn, 1) := by decide +kernel
section
variable {p : Program} {l : Launch} {e : Env} {s : State} {m : MethodId} {args : Array Value} {below : List Frame} {meth : Method} {c : Code} {H : Heap} {locs : List Loc} {E : Ev} {S V : St} {ls : Array Slot}
set_option maxRecDepth 20000 in
theorem w_Kp_letsRide {N : Nat} {p1 : Int32} {p2 : Int32} {p3 : Int32} {p4 : Int32} {r : Int32} (C : Cx p s m args meth c E cX4_letsRide 5 RX4 (some .boolean)) (hw : Wd E (wX V E) s.heap S H locs) (hl : lv_has ls 5 [(0, .ref (ea E 4)), (1, .int p1), (2, .int p2), (3, .int p3), (4, .int p4)]) (hf : Kp_letsRide N S p1 p2 p3 p4 = some r) : W p l e (rmh 3) s m args below meth c H locs 0 0 (MQ below (QW E (wX V E) (some (.int r)) S) args s 0 0 (eA E)) (F0 m 0 ls []) := by
  have hx := C.1
  have hb := C.2.1
  unfold Kp_letsRide at hf
  refine lv_iload_n hx hb dX4_letsRide_0 rfl (lv_at hl 1 rfl) ?_
  refine lv_iload_n hx hb dX4_letsRide_1 rfl (lv_at hl 2 rfl) ?_
  refine lv_iconst (v := -1) hx hb dX4_letsRide_2 kc_m1 ?_
  refine lv_ixor hx hb dX4_letsRide_3 ?_
  refine lv_iand hx hb dX4_letsRide_4 ?_
  refine lv_if_ne (tgt := 34) hx hb dX4_letsRide_5 (by decide) (fun q => ?_) (fun q => ?_)
  · have hf := hf_f q hf
    refine lv_iconst (v := 0) hx hb dX4_letsRide_34 kc_0 ?_
    exact ret_z rfl C hw dX4_letsRide_35 hf
  · have hf := hf_t q hf
    refine lv_aload_n hx hb dX4_letsRide_8 rfl (lv_at hl 0 rfl) ?_
    refine get_4_0 C hw q_308 dX4_letsRide_9 ?_
    refine lv_iload_n hx hb dX4_letsRide_12 rfl (lv_at hl 3 rfl) ?_
    refine lv_iload hx hb dX4_letsRide_13 (lv_at hl 4 rfl) ?_
    refine lv_aload_n hx hb dX4_letsRide_15 rfl (lv_at hl 0 rfl) ?_
    refine get_4_0 C hw q_308 dX4_letsRide_16 ?_
    refine lv_iload_n hx hb dX4_letsRide_19 rfl (lv_at hl 1 rfl) ?_
    obtain ⟨r1, hr, hf⟩ := hf_1 hf
    refine inv_Vi (q0 := 1) (ci := 8) (As := [.int p1]) lk_X4_24 C hw rfl rfl rfl (t_Sm_linksOf hr) rfl hl.1 dX4_letsRide_20 rfl (Nat.le_of_ble_eq_true rfl) (by decide) (Nat.le_of_ble_eq_true rfl) rfl (fun H locs hw => ?_)
    refine lv_isub hx hb dX4_letsRide_23 ?_
    obtain ⟨r2, hr, hf⟩ := hf_1 hf
    refine inv_Vi (q0 := 1) (ci := 8) (As := [.int p3, .int (p4 - r1)]) lk_X4_27 C hw rfl rfl rfl (t_Sm_goesRound hr) rfl hl.1 dX4_letsRide_24 rfl (Nat.le_of_ble_eq_true rfl) (by decide) (Nat.le_of_ble_eq_true rfl) rfl (fun H locs hw => ?_)
    refine lv_if_eq (tgt := 34) hx hb dX4_letsRide_27 (by decide) (fun q => ?_) (fun q => ?_)
    · have hf := hf_t q hf
      refine lv_iconst (v := 0) hx hb dX4_letsRide_34 kc_0 ?_
      exact ret_z rfl C hw dX4_letsRide_35 hf
    · have hf := hf_f q hf
      refine lv_iconst (v := 1) hx hb dX4_letsRide_30 kc_1 ?_
      refine lv_goto (tgt := 35) hx hb dX4_letsRide_31 (by decide) ?_
      exact ret_z rfl C hw dX4_letsRide_35 hf
end
theorem t_Kp_letsRide {l : Launch} {V : St} {N : Nat} {S : St} {p1 : Int32} {p2 : Int32} {p3 : Int32} {p4 : Int32} {r : Int32} (hf : Kp_letsRide N S p1 p2 p3 p4 = some r) : Ct l (wX V) yX4_letsRide cX4_letsRide 5 (some .boolean) 3 (fun E => [.ref (ea E 4), .int p1, .int p2, .int p3, .int p4]) S (fun E => some (.int r)) S :=
  ofBlock (by decide +kernel) (fun _ => Nat.le_of_ble_eq_true rfl) (fun E p e s m args below meth c ls C hw hl => w_Kp_letsRide C hw hl hf)
theorem dX4_fewestSet_0 : decode cX4_fewestSet 0 = .ok (.aload_n 0, 1) := by decide +kernel
theorem dX4_fewestSet_1 : decode cX4_fewestSet 1 = .ok (.iload_n 1, 1) := by decide +kernel
theorem dX4_fewestSet_2 : decode cX4_fewestSet 2 = .ok (.iload_n 2, 1) := by decide +kernel
theorem dX4_fewestSet_3 : decode cX4_fewestSet 3 = .ok (.invokevirtual 31, 3) := by decide +kernel
theorem dX4_fewestSet_6 : decode cX4_fewestSet 6 = .ok (.istore_n 3, 1) := by decide +kernel
theorem dX4_fewestSet_7 : decode cX4_fewestSet 7 = .ok (.aload_n 0, 1) := by decide +kernel
theorem dX4_fewestSet_8 : decode cX4_fewestSet 8 = .ok (.getfield 9, 3) := by decide +kernel
theorem dX4_fewestSet_11 : decode cX4_fewestSet 11 = .ok (.iload_n 1, 1) := by decide +kernel
theorem dX4_fewestSet_12 : decode cX4_fewestSet 12 = .ok (.iload_n 2, 1) := by decide +kernel
theorem dX4_fewestSet_13 : decode cX4_fewestSet 13 = .ok (.invokevirtual 35, 3) := by decide +kernel
theorem dX4_fewestSet_16 : decode cX4_fewestSet 16 = .ok (.istore 4, 2) := by decide +kernel
theorem dX4_fewestSet_18 : decode cX4_fewestSet 18 = .ok (.bipush (-2), 2) := by decide +kernel
theorem dX4_fewestSet_20 : decode cX4_fewestSet 20 = .ok (.istore 5, 2) := by decide +kernel
theorem dX4_fewestSet_22 : decode cX4_fewestSet 22 = .ok (.bipush 11, 2) := by decide +kernel
theorem dX4_fewestSet_24 : decode cX4_fewestSet 24 = .ok (.istore 6, 2) := by decide +kernel
theorem dX4_fewestSet_26 : decode cX4_fewestSet 26 = .ok (.iconst 0, 1) := by decide +kernel
theorem dX4_fewestSet_27 : decode cX4_fewestSet 27 = .ok (.istore 7, 2) := by decide +kernel
theorem dX4_fewestSet_29 : decode cX4_fewestSet 29 = .ok (.iload 7, 2) := by decide +kernel
theorem dX4_fewestSet_31 : decode cX4_fewestSet 31 = .ok (.iload_n 3, 1) := by decide +kernel
theorem dX4_fewestSet_32 : decode cX4_fewestSet 32 = .ok (.if_icmp .gt 43, 3) := by decide +kernel
theorem dX4_fewestSet_35 : decode cX4_fewestSet 35 = .ok (.aload_n 0, 1) := by decide +kernel
theorem dX4_fewestSet_36 : decode cX4_fewestSet 36 = .ok (.iload 7, 2) := by decide +kernel
theorem dX4_fewestSet_38 : decode cX4_fewestSet 38 = .ok (.iload_n 3, 1) := by decide +kernel
theorem dX4_fewestSet_39 : decode cX4_fewestSet 39 = .ok (.iload_n 1, 1) := by decide +kernel
theorem dX4_fewestSet_40 : decode cX4_fewestSet 40 = .ok (.iload 4, 2) := by decide +kernel
theorem dX4_fewestSet_42 : decode cX4_fewestSet 42 = .ok (.invokevirtual 38, 3) := by decide +kernel
theorem dX4_fewestSet_45 : decode cX4_fewestSet 45 = .ok (.ifCond .eq 24, 3) := by decide +kernel
theorem dX4_fewestSet_48 : decode cX4_fewestSet 48 = .ok (.iload 7, 2) := by decide +kernel
theorem dX4_fewestSet_50 : decode cX4_fewestSet 50 = .ok (.invokestatic 42, 3) := by decide +kernel
theorem dX4_fewestSet_53 : decode cX4_fewestSet 53 = .ok (.iload 6, 2) := by decide +kernel
theorem dX4_fewestSet_55 : decode cX4_fewestSet 55 = .ok (.if_icmp .ge 14, 3) := by decide +kernel
theorem dX4_fewestSet_58 : decode cX4_fewestSet 58 = .ok (.iload 7, 2) := by decide +kernel
theorem dX4_fewestSet_60 : decode cX4_fewestSet 60 = .ok (.istore 5, 2) := by decide +kernel
theorem dX4_fewestSet_62 : decode cX4_fewestSet 62 = .ok (.iload 7, 2) := by decide +kernel
theorem dX4_fewestSet_64 : decode cX4_fewestSet 64 = .ok (.invokestatic 42, 3) := by decide +kernel
theorem dX4_fewestSet_67 : decode cX4_fewestSet 67 = .ok (.istore 6, 2) := by decide +kernel
theorem dX4_fewestSet_69 : decode cX4_fewestSet 69 = .ok (.iinc 7 1, 3) := by decide +kernel
theorem dX4_fewestSet_72 : decode cX4_fewestSet 72 = .ok (.goto (-43), 3) := by decide +kernel
theorem dX4_fewestSet_75 : decode cX4_fewestSet 75 = .ok (.iload 5, 2) := by decide +kernel
theorem dX4_fewestSet_77 : decode cX4_fewestSet 77 = .ok (.ireturn, 1) := by decide +kernel
section
variable {p : Program} {l : Launch} {e : Env} {s : State} {m : MethodId} {args : Array Value} {below : List Frame} {meth : Method} {c : Code} {H : Heap} {locs : List Loc} {E : Ev} {S V : St} {ls : Array Slot}
set_option maxRecDepth 20000 in
theorem w_Kp_fewestSet_b29 {N : Nat} {k29 : (Int32 × Int32 × Int32) → Option Int32} {l1 : Int32} {l3 : Int32} {l4 : Int32} {l5 : Int32} {l6 : Int32} {l7 : Int32} {r : Int32} (C : Cx p s m args meth c E cX4_fewestSet 8 RX4 (some .int)) (hk29 : ∀ x, k29 x = some r → ∀ (H : Heap) (locs : List Loc) (ls : Array Slot), Wd E (wX V E) s.heap S H locs → lv_has ls 8 [(0, .ref (ea E 4)), (1, .int l1), (3, .int l3), (4, .int l4), (5, .int x.1), (6, .int x.2.1), (7, .int x.2.2)] → W p l e (rmh 4) s m args below meth c H locs 0 0 (MQ below (QW E (wX V E) (some (.int r)) S) args s 0 0 (eA E)) (F0 m 29 ls [])) (hw : Wd E (wX V E) s.heap S H locs) (hl : lv_has ls 8 [(0, .ref (ea E 4)), (1, .int l1), (3, .int l3), (4, .int l4), (5, .int l5), (6, .int l6), (7, .int l7)]) (hf : Kp_fewestSet_b29 N k29 S l1 l3 l4 l5 l6 l7 = some r) : W p l e (rmh 4) s m args below meth c H locs 0 0 (MQ below (QW E (wX V E) (some (.int r)) S) args s 0 0 (eA E)) (F0 m 29 ls []) := by
  have hx := C.1
  have hb := C.2.1
  unfold Kp_fewestSet_b29 at hf
  refine lv_iload hx hb dX4_fewestSet_29 (lv_at hl 6 rfl) ?_
  refine lv_iload_n hx hb dX4_fewestSet_31 rfl (lv_at hl 2 rfl) ?_
  refine lv_icmp_gt (tgt := 75) hx hb dX4_fewestSet_32 (by decide) (fun q => ?_) (fun q => ?_)
  · have hf := hf_t q hf
    refine lv_iload hx hb dX4_fewestSet_75 (lv_at hl 4 rfl) ?_
    exact ret_i C hw dX4_fewestSet_77 hf
  · have hf := hf_f q hf
    refine lv_aload_n hx hb dX4_fewestSet_35 rfl (lv_at hl 0 rfl) ?_
    refine lv_iload hx hb dX4_fewestSet_36 (lv_at hl 6 rfl) ?_
    refine lv_iload_n hx hb dX4_fewestSet_38 rfl (lv_at hl 2 rfl) ?_
    refine lv_iload_n hx hb dX4_fewestSet_39 rfl (lv_at hl 1 rfl) ?_
    refine lv_iload hx hb dX4_fewestSet_40 (lv_at hl 3 rfl) ?_
    obtain ⟨r1, hr, hf⟩ := hf_1 hf
    refine inv_Vi (q0 := 4) (ci := 4) (As := [.int l7, .int l3, .int l1, .int l4]) lk_X4_38 C hw rfl rfl rfl (t_Kp_letsRide hr) rfl hl.1 dX4_fewestSet_42 rfl (Nat.le_of_ble_eq_true rfl) (by decide) (Nat.le_of_ble_eq_true rfl) rfl (fun H locs hw => ?_)
    refine lv_if_eq (tgt := 69) hx hb dX4_fewestSet_45 (by decide) (fun q => ?_) (fun q => ?_)
    · have hf := hf_t q hf
      obtain ⟨x2, ex2, hf⟩ := nme hf
      refine lv_iinc (v := x2) (lv' := [(7, .int x2), (0, .ref (ea E 4)), (1, .int l1), (3, .int l3), (4, .int l4), (5, .int l5), (6, .int l6)]) hx hb dX4_fewestSet_69 hl (k := 6) rfl (ki_1 ex2) (by decide) rfl (fun ls hl => ?_)
      refine lv_goto (tgt := 29) hx hb dX4_fewestSet_72 (by decide) ?_
      exact hk29 _ hf _ _ _ hw (lv_sub hl [1, 2, 3, 4, 5, 6, 0] rfl)
    · have hf := hf_f q hf
      refine lv_iload hx hb dX4_fewestSet_48 (lv_at hl 6 rfl) ?_
      obtain ⟨r3, hr, hf⟩ := hf_1 hf
      refine inv_Si (As := [.int l7]) lk_X4_42 C hw (t_In_bitCount hr) hl.1 dX4_fewestSet_50 rfl (Nat.le_of_ble_eq_true rfl) (by decide) (Nat.le_of_ble_eq_true rfl) rfl (fun H locs hw => ?_)
      refine lv_iload hx hb dX4_fewestSet_53 (lv_at hl 5 rfl) ?_
      refine lv_icmp_ge (tgt := 69) hx hb dX4_fewestSet_55 (by decide) (fun q => ?_) (fun q => ?_)
      · have hf := hf_t q hf
        obtain ⟨x4, ex4, hf⟩ := nme hf
        refine lv_iinc (v := x4) (lv' := [(7, .int x4), (0, .ref (ea E 4)), (1, .int l1), (3, .int l3), (4, .int l4), (5, .int l5), (6, .int l6)]) hx hb dX4_fewestSet_69 hl (k := 6) rfl (ki_1 ex4) (by decide) rfl (fun ls hl => ?_)
        refine lv_goto (tgt := 29) hx hb dX4_fewestSet_72 (by decide) ?_
        exact hk29 _ hf _ _ _ hw (lv_sub hl [1, 2, 3, 4, 5, 6, 0] rfl)
      · have hf := hf_f q hf
        refine lv_iload hx hb dX4_fewestSet_58 (lv_at hl 6 rfl) ?_
        refine lv_istore (lv' := [(5, .int l7), (0, .ref (ea E 4)), (1, .int l1), (3, .int l3), (4, .int l4), (6, .int l6), (7, .int l7)]) hx hb dX4_fewestSet_60 hl (by decide) rfl (fun ls hl => ?_)
        refine lv_iload hx hb dX4_fewestSet_62 (lv_at hl 6 rfl) ?_
        obtain ⟨r5, hr, hf⟩ := hf_1 hf
        refine inv_Si (As := [.int l7]) lk_X4_42 C hw (t_In_bitCount hr) hl.1 dX4_fewestSet_64 rfl (Nat.le_of_ble_eq_true rfl) (by decide) (Nat.le_of_ble_eq_true rfl) rfl (fun H locs hw => ?_)
        refine lv_istore (lv' := [(6, .int r5), (5, .int l7), (0, .ref (ea E 4)), (1, .int l1), (3, .int l3), (4, .int l4), (7, .int l7)]) hx hb dX4_fewestSet_67 hl (by decide) rfl (fun ls hl => ?_)
        obtain ⟨x6, ex6, hf⟩ := nme hf
        refine lv_iinc (v := x6) (lv' := [(7, .int x6), (6, .int r5), (5, .int l7), (0, .ref (ea E 4)), (1, .int l1), (3, .int l3), (4, .int l4)]) hx hb dX4_fewestSet_69 hl (k := 6) rfl (ki_1 ex6) (by decide) rfl (fun ls hl => ?_)
        refine lv_goto (tgt := 29) hx hb dX4_fewestSet_72 (by decide) ?_
        exact hk29 _ hf _ _ _ hw (lv_sub hl [3, 4, 5, 6, 2, 1, 0] rfl)
theorem w_Kp_fewestSet_L29 {N : Nat} {l1 : Int32} {l3 : Int32} {l4 : Int32} {r : Int32} (C : Cx p s m args meth c E cX4_fewestSet 8 RX4 (some .int)) : ∀ x, Kp_fewestSet_L29 N S l1 l3 l4 x = some r → ∀ (H : Heap) (locs : List Loc) (ls : Array Slot), Wd E (wX V E) s.heap S H locs → lv_has ls 8 [(0, .ref (ea E 4)), (1, .int l1), (3, .int l3), (4, .int l4), (5, .int x.1), (6, .int x.2.1), (7, .int x.2.2)] → W p l e (rmh 4) s m args below meth c H locs 0 0 (MQ below (QW E (wX V E) (some (.int r)) S) args s 0 0 (eA E)) (F0 m 29 ls []) :=
  lp_W (fun k x hk hf H locs ls hw hl => w_Kp_fewestSet_b29 C hk hw hl hf) N
set_option maxRecDepth 20000 in
theorem w_Kp_fewestSet {N : Nat} {p1 : Int32} {p2 : Int32} {r : Int32} (C : Cx p s m args meth c E cX4_fewestSet 8 RX4 (some .int)) (hw : Wd E (wX V E) s.heap S H locs) (hl : lv_has ls 8 [(0, .ref (ea E 4)), (1, .int p1), (2, .int p2)]) (hf : Kp_fewestSet N S p1 p2 = some r) : W p l e (rmh 4) s m args below meth c H locs 0 0 (MQ below (QW E (wX V E) (some (.int r)) S) args s 0 0 (eA E)) (F0 m 0 ls []) := by
  have hx := C.1
  have hb := C.2.1
  unfold Kp_fewestSet at hf
  refine lv_aload_n hx hb dX4_fewestSet_0 rfl (lv_at hl 0 rfl) ?_
  refine lv_iload_n hx hb dX4_fewestSet_1 rfl (lv_at hl 1 rfl) ?_
  refine lv_iload_n hx hb dX4_fewestSet_2 rfl (lv_at hl 2 rfl) ?_
  obtain ⟨r1, hr, hf⟩ := hf_1 hf
  refine inv_Vi (q0 := 4) (ci := 4) (As := [.int p1, .int p2]) lk_X4_31 C hw rfl rfl rfl (t_Kp_mayKeep hr) rfl hl.1 dX4_fewestSet_3 rfl (Nat.le_of_ble_eq_true rfl) (by decide) (Nat.le_of_ble_eq_true rfl) rfl (fun H locs hw => ?_)
  refine lv_istore_n (lv' := [(3, .int r1), (0, .ref (ea E 4)), (1, .int p1), (2, .int p2)]) hx hb dX4_fewestSet_6 rfl hl (by decide) rfl (fun ls hl => ?_)
  refine lv_aload_n hx hb dX4_fewestSet_7 rfl (lv_at hl 1 rfl) ?_
  refine get_4_0 C hw q_308 dX4_fewestSet_8 ?_
  refine lv_iload_n hx hb dX4_fewestSet_11 rfl (lv_at hl 2 rfl) ?_
  refine lv_iload_n hx hb dX4_fewestSet_12 rfl (lv_at hl 3 rfl) ?_
  obtain ⟨r2, hr, hf⟩ := hf_1 hf
  refine inv_Vi (q0 := 1) (ci := 8) (As := [.int p1, .int p2]) lk_X4_35 C hw rfl rfl rfl (t_Sm_lengthOn hr) rfl hl.1 dX4_fewestSet_13 rfl (Nat.le_of_ble_eq_true rfl) (by decide) (Nat.le_of_ble_eq_true rfl) rfl (fun H locs hw => ?_)
  refine lv_istore (lv' := [(4, .int r2), (3, .int r1), (0, .ref (ea E 4)), (1, .int p1), (2, .int p2)]) hx hb dX4_fewestSet_16 hl (by decide) rfl (fun ls hl => ?_)
  refine lv_bipush (v := -2) hx hb dX4_fewestSet_18 kb_m2 ?_
  refine lv_istore (lv' := [(5, .int (-2 : Int32)), (4, .int r2), (3, .int r1), (0, .ref (ea E 4)), (1, .int p1), (2, .int p2)]) hx hb dX4_fewestSet_20 hl (by decide) rfl (fun ls hl => ?_)
  refine lv_bipush (v := 11) hx hb dX4_fewestSet_22 kb_11 ?_
  refine lv_istore (lv' := [(6, .int (11 : Int32)), (5, .int (-2 : Int32)), (4, .int r2), (3, .int r1), (0, .ref (ea E 4)), (1, .int p1), (2, .int p2)]) hx hb dX4_fewestSet_24 hl (by decide) rfl (fun ls hl => ?_)
  refine lv_iconst (v := 0) hx hb dX4_fewestSet_26 kc_0 ?_
  refine lv_istore (lv' := [(7, .int (0 : Int32)), (6, .int (11 : Int32)), (5, .int (-2 : Int32)), (4, .int r2), (3, .int r1), (0, .ref (ea E 4)), (1, .int p1), (2, .int p2)]) hx hb dX4_fewestSet_27 hl (by decide) rfl (fun ls hl => ?_)
  exact w_Kp_fewestSet_L29 C _ hf _ _ _ hw (lv_sub hl [5, 6, 4, 3, 2, 1, 0] rfl)
end
theorem t_Kp_fewestSet {l : Launch} {V : St} {N : Nat} {S : St} {p1 : Int32} {p2 : Int32} {r : Int32} (hf : Kp_fewestSet N S p1 p2 = some r) : Ct l (wX V) yX4_fewestSet cX4_fewestSet 8 (some .int) 4 (fun E => [.ref (ea E 4), .int p1, .int p2]) S (fun E => some (.int r)) S :=
  ofBlock (by decide +kernel) (fun _ => Nat.le_of_ble_eq_true rfl) (fun E p e s m args below meth c ls C hw hl => w_Kp_fewestSet C hw hl hf)
theorem dX4_weightOf_0 : decode cX4_weightOf 0 = .ok (.aload_n 0, 1) := by decide +kernel
theorem dX4_weightOf_1 : decode cX4_weightOf 1 = .ok (.getfield 9, 3) := by decide +kernel
theorem dX4_weightOf_4 : decode cX4_weightOf 4 = .ok (.iload_n 1, 1) := by decide +kernel
theorem dX4_weightOf_5 : decode cX4_weightOf 5 = .ok (.invokevirtual 24, 3) := by decide +kernel
theorem dX4_weightOf_8 : decode cX4_weightOf 8 = .ok (.bipush 11, 2) := by decide +kernel
theorem dX4_weightOf_10 : decode cX4_weightOf 10 = .ok (.imul, 1) := by decide +kernel
theorem dX4_weightOf_11 : decode cX4_weightOf 11 = .ok (.iload_n 1, 1) := by decide +kernel
theorem dX4_weightOf_12 : decode cX4_weightOf 12 = .ok (.invokestatic 42, 3) := by decide +kernel
theorem dX4_weightOf_15 : decode cX4_weightOf 15 = .ok (.iadd, 1) := by decide +kernel
theorem dX4_weightOf_16 : decode cX4_weightOf 16 = .ok (.ireturn, 1) := by decide +kernel
section
variable {p : Program} {l : Launch} {e : Env} {s : State} {m : MethodId} {args : Array Value} {below : List Frame} {meth : Method} {c : Code} {H : Heap} {locs : List Loc} {E : Ev} {S V : St} {ls : Array Slot}
set_option maxRecDepth 20000 in
theorem w_Kp_weightOf {N : Nat} {p1 : Int32} {r : Int32} (C : Cx p s m args meth c E cX4_weightOf 2 RX4 (some .int)) (hw : Wd E (wX V E) s.heap S H locs) (hl : lv_has ls 2 [(0, .ref (ea E 4)), (1, .int p1)]) (hf : Kp_weightOf N S p1 = some r) : W p l e (rmh 3) s m args below meth c H locs 0 0 (MQ below (QW E (wX V E) (some (.int r)) S) args s 0 0 (eA E)) (F0 m 0 ls []) := by
  have hx := C.1
  have hb := C.2.1
  unfold Kp_weightOf at hf
  refine lv_aload_n hx hb dX4_weightOf_0 rfl (lv_at hl 0 rfl) ?_
  refine get_4_0 C hw q_308 dX4_weightOf_1 ?_
  refine lv_iload_n hx hb dX4_weightOf_4 rfl (lv_at hl 1 rfl) ?_
  obtain ⟨r1, hr, hf⟩ := hf_1 hf
  refine inv_Vi (q0 := 1) (ci := 8) (As := [.int p1]) lk_X4_24 C hw rfl rfl rfl (t_Sm_linksOf hr) rfl hl.1 dX4_weightOf_5 rfl (Nat.le_of_ble_eq_true rfl) (by decide) (Nat.le_of_ble_eq_true rfl) rfl (fun H locs hw => ?_)
  refine lv_bipush (v := 11) hx hb dX4_weightOf_8 kb_11 ?_
  refine lv_imul hx hb dX4_weightOf_10 ?_
  refine lv_iload_n hx hb dX4_weightOf_11 rfl (lv_at hl 1 rfl) ?_
  obtain ⟨r2, hr, hf⟩ := hf_1 hf
  refine inv_Si (As := [.int p1]) lk_X4_42 C hw (t_In_bitCount hr) hl.1 dX4_weightOf_12 rfl (Nat.le_of_ble_eq_true rfl) (by decide) (Nat.le_of_ble_eq_true rfl) rfl (fun H locs hw => ?_)
  refine lv_iadd hx hb dX4_weightOf_15 ?_
  exact ret_i C hw dX4_weightOf_16 hf
end
theorem t_Kp_weightOf {l : Launch} {V : St} {N : Nat} {S : St} {p1 : Int32} {r : Int32} (hf : Kp_weightOf N S p1 = some r) : Ct l (wX V) yX4_weightOf cX4_weightOf 2 (some .int) 3 (fun E => [.ref (ea E 4), .int p1]) S (fun E => some (.int r)) S :=
  ofBlock (by decide +kernel) (fun _ => Nat.le_of_ble_eq_true rfl) (fun E p e s m args below meth c ls C hw hl => w_Kp_weightOf C hw hl hf)
theorem dX4_lightestSet_0 : decode cX4_lightestSet 0 = .ok (.aload_n 0, 1) := by decide +kernel
theorem dX4_lightestSet_1 : decode cX4_lightestSet 1 = .ok (.iload_n 1, 1) := by decide +kernel
theorem dX4_lightestSet_2 : decode cX4_lightestSet 2 = .ok (.iload_n 2, 1) := by decide +kernel
theorem dX4_lightestSet_3 : decode cX4_lightestSet 3 = .ok (.invokevirtual 31, 3) := by decide +kernel
theorem dX4_lightestSet_6 : decode cX4_lightestSet 6 = .ok (.istore_n 3, 1) := by decide +kernel
theorem dX4_lightestSet_7 : decode cX4_lightestSet 7 = .ok (.aload_n 0, 1) := by decide +kernel
theorem dX4_lightestSet_8 : decode cX4_lightestSet 8 = .ok (.getfield 9, 3) := by decide +kernel
theorem dX4_lightestSet_11 : decode cX4_lightestSet 11 = .ok (.iload_n 1, 1) := by decide +kernel
theorem dX4_lightestSet_12 : decode cX4_lightestSet 12 = .ok (.iload_n 2, 1) := by decide +kernel
theorem dX4_lightestSet_13 : decode cX4_lightestSet 13 = .ok (.invokevirtual 35, 3) := by decide +kernel
theorem dX4_lightestSet_16 : decode cX4_lightestSet 16 = .ok (.istore 4, 2) := by decide +kernel
theorem dX4_lightestSet_18 : decode cX4_lightestSet 18 = .ok (.bipush (-2), 2) := by decide +kernel
theorem dX4_lightestSet_20 : decode cX4_lightestSet 20 = .ok (.istore 5, 2) := by decide +kernel
theorem dX4_lightestSet_22 : decode cX4_lightestSet 22 = .ok (.ldc 47, 2) := by decide +kernel
theorem dX4_lightestSet_24 : decode cX4_lightestSet 24 = .ok (.istore 6, 2) := by decide +kernel
theorem dX4_lightestSet_26 : decode cX4_lightestSet 26 = .ok (.iconst 0, 1) := by decide +kernel
theorem dX4_lightestSet_27 : decode cX4_lightestSet 27 = .ok (.istore 7, 2) := by decide +kernel
theorem dX4_lightestSet_29 : decode cX4_lightestSet 29 = .ok (.iload 7, 2) := by decide +kernel
theorem dX4_lightestSet_31 : decode cX4_lightestSet 31 = .ok (.iload_n 3, 1) := by decide +kernel
theorem dX4_lightestSet_32 : decode cX4_lightestSet 32 = .ok (.if_icmp .gt 45, 3) := by decide +kernel
theorem dX4_lightestSet_35 : decode cX4_lightestSet 35 = .ok (.aload_n 0, 1) := by decide +kernel
theorem dX4_lightestSet_36 : decode cX4_lightestSet 36 = .ok (.iload 7, 2) := by decide +kernel
theorem dX4_lightestSet_38 : decode cX4_lightestSet 38 = .ok (.iload_n 3, 1) := by decide +kernel
theorem dX4_lightestSet_39 : decode cX4_lightestSet 39 = .ok (.iload_n 1, 1) := by decide +kernel
theorem dX4_lightestSet_40 : decode cX4_lightestSet 40 = .ok (.iload 4, 2) := by decide +kernel
theorem dX4_lightestSet_42 : decode cX4_lightestSet 42 = .ok (.invokevirtual 38, 3) := by decide +kernel
theorem dX4_lightestSet_45 : decode cX4_lightestSet 45 = .ok (.ifCond .eq 26, 3) := by decide +kernel
theorem dX4_lightestSet_48 : decode cX4_lightestSet 48 = .ok (.aload_n 0, 1) := by decide +kernel
theorem dX4_lightestSet_49 : decode cX4_lightestSet 49 = .ok (.iload 7, 2) := by decide +kernel
theorem dX4_lightestSet_51 : decode cX4_lightestSet 51 = .ok (.invokevirtual 48, 3) := by decide +kernel
theorem dX4_lightestSet_54 : decode cX4_lightestSet 54 = .ok (.iload 6, 2) := by decide +kernel
theorem dX4_lightestSet_56 : decode cX4_lightestSet 56 = .ok (.if_icmp .ge 15, 3) := by decide +kernel
theorem dX4_lightestSet_59 : decode cX4_lightestSet 59 = .ok (.iload 7, 2) := by decide +kernel
theorem dX4_lightestSet_61 : decode cX4_lightestSet 61 = .ok (.istore 5, 2) := by decide +kernel
theorem dX4_lightestSet_63 : decode cX4_lightestSet 63 = .ok (.aload_n 0, 1) := by decide +kernel
theorem dX4_lightestSet_64 : decode cX4_lightestSet 64 = .ok (.iload 7, 2) := by decide +kernel
theorem dX4_lightestSet_66 : decode cX4_lightestSet 66 = .ok (.invokevirtual 48, 3) := by decide +kernel
theorem dX4_lightestSet_69 : decode cX4_lightestSet 69 = .ok (.istore 6, 2) := by decide +kernel
theorem dX4_lightestSet_71 : decode cX4_lightestSet 71 = .ok (.iinc 7 1, 3) := by decide +kernel
theorem dX4_lightestSet_74 : decode cX4_lightestSet 74 = .ok (.goto (-45), 3) := by decide +kernel
theorem dX4_lightestSet_77 : decode cX4_lightestSet 77 = .ok (.iload 5, 2) := by decide +kernel
theorem dX4_lightestSet_79 : decode cX4_lightestSet 79 = .ok (.ireturn, 1) := by decide +kernel
section
variable {p : Program} {l : Launch} {e : Env} {s : State} {m : MethodId} {args : Array Value} {below : List Frame} {meth : Method} {c : Code} {H : Heap} {locs : List Loc} {E : Ev} {S V : St} {ls : Array Slot}
set_option maxRecDepth 20000 in
theorem w_Kp_lightestSet_b29 {N : Nat} {k29 : (Int32 × Int32 × Int32) → Option Int32} {l1 : Int32} {l3 : Int32} {l4 : Int32} {l5 : Int32} {l6 : Int32} {l7 : Int32} {r : Int32} (C : Cx p s m args meth c E cX4_lightestSet 8 RX4 (some .int)) (hk29 : ∀ x, k29 x = some r → ∀ (H : Heap) (locs : List Loc) (ls : Array Slot), Wd E (wX V E) s.heap S H locs → lv_has ls 8 [(0, .ref (ea E 4)), (1, .int l1), (3, .int l3), (4, .int l4), (5, .int x.1), (6, .int x.2.1), (7, .int x.2.2)] → W p l e (rmh 4) s m args below meth c H locs 0 0 (MQ below (QW E (wX V E) (some (.int r)) S) args s 0 0 (eA E)) (F0 m 29 ls [])) (hw : Wd E (wX V E) s.heap S H locs) (hl : lv_has ls 8 [(0, .ref (ea E 4)), (1, .int l1), (3, .int l3), (4, .int l4), (5, .int l5), (6, .int l6), (7, .int l7)]) (hf : Kp_lightestSet_b29 N k29 S l1 l3 l4 l5 l6 l7 = some r) : W p l e (rmh 4) s m args below meth c H locs 0 0 (MQ below (QW E (wX V E) (some (.int r)) S) args s 0 0 (eA E)) (F0 m 29 ls []) := by
  have hx := C.1
  have hb := C.2.1
  unfold Kp_lightestSet_b29 at hf
  refine lv_iload hx hb dX4_lightestSet_29 (lv_at hl 6 rfl) ?_
  refine lv_iload_n hx hb dX4_lightestSet_31 rfl (lv_at hl 2 rfl) ?_
  refine lv_icmp_gt (tgt := 77) hx hb dX4_lightestSet_32 (by decide) (fun q => ?_) (fun q => ?_)
  · have hf := hf_t q hf
    refine lv_iload hx hb dX4_lightestSet_77 (lv_at hl 4 rfl) ?_
    exact ret_i C hw dX4_lightestSet_79 hf
  · have hf := hf_f q hf
    refine lv_aload_n hx hb dX4_lightestSet_35 rfl (lv_at hl 0 rfl) ?_
    refine lv_iload hx hb dX4_lightestSet_36 (lv_at hl 6 rfl) ?_
    refine lv_iload_n hx hb dX4_lightestSet_38 rfl (lv_at hl 2 rfl) ?_
    refine lv_iload_n hx hb dX4_lightestSet_39 rfl (lv_at hl 1 rfl) ?_
    refine lv_iload hx hb dX4_lightestSet_40 (lv_at hl 3 rfl) ?_
    obtain ⟨r1, hr, hf⟩ := hf_1 hf
    refine inv_Vi (q0 := 4) (ci := 4) (As := [.int l7, .int l3, .int l1, .int l4]) lk_X4_38 C hw rfl rfl rfl (t_Kp_letsRide hr) rfl hl.1 dX4_lightestSet_42 rfl (Nat.le_of_ble_eq_true rfl) (by decide) (Nat.le_of_ble_eq_true rfl) rfl (fun H locs hw => ?_)
    refine lv_if_eq (tgt := 71) hx hb dX4_lightestSet_45 (by decide) (fun q => ?_) (fun q => ?_)
    · have hf := hf_t q hf
      obtain ⟨x2, ex2, hf⟩ := nme hf
      refine lv_iinc (v := x2) (lv' := [(7, .int x2), (0, .ref (ea E 4)), (1, .int l1), (3, .int l3), (4, .int l4), (5, .int l5), (6, .int l6)]) hx hb dX4_lightestSet_71 hl (k := 6) rfl (ki_1 ex2) (by decide) rfl (fun ls hl => ?_)
      refine lv_goto (tgt := 29) hx hb dX4_lightestSet_74 (by decide) ?_
      exact hk29 _ hf _ _ _ hw (lv_sub hl [1, 2, 3, 4, 5, 6, 0] rfl)
    · have hf := hf_f q hf
      refine lv_aload_n hx hb dX4_lightestSet_48 rfl (lv_at hl 0 rfl) ?_
      refine lv_iload hx hb dX4_lightestSet_49 (lv_at hl 6 rfl) ?_
      obtain ⟨r3, hr, hf⟩ := hf_1 hf
      refine inv_Vi (q0 := 4) (ci := 4) (As := [.int l7]) lk_X4_48 C hw rfl rfl rfl (t_Kp_weightOf hr) rfl hl.1 dX4_lightestSet_51 rfl (Nat.le_of_ble_eq_true rfl) (by decide) (Nat.le_of_ble_eq_true rfl) rfl (fun H locs hw => ?_)
      refine lv_iload hx hb dX4_lightestSet_54 (lv_at hl 5 rfl) ?_
      refine lv_icmp_ge (tgt := 71) hx hb dX4_lightestSet_56 (by decide) (fun q => ?_) (fun q => ?_)
      · have hf := hf_t q hf
        obtain ⟨x4, ex4, hf⟩ := nme hf
        refine lv_iinc (v := x4) (lv' := [(7, .int x4), (0, .ref (ea E 4)), (1, .int l1), (3, .int l3), (4, .int l4), (5, .int l5), (6, .int l6)]) hx hb dX4_lightestSet_71 hl (k := 6) rfl (ki_1 ex4) (by decide) rfl (fun ls hl => ?_)
        refine lv_goto (tgt := 29) hx hb dX4_lightestSet_74 (by decide) ?_
        exact hk29 _ hf _ _ _ hw (lv_sub hl [1, 2, 3, 4, 5, 6, 0] rfl)
      · have hf := hf_f q hf
        refine lv_iload hx hb dX4_lightestSet_59 (lv_at hl 6 rfl) ?_
        refine lv_istore (lv' := [(5, .int l7), (0, .ref (ea E 4)), (1, .int l1), (3, .int l3), (4, .int l4), (6, .int l6), (7, .int l7)]) hx hb dX4_lightestSet_61 hl (by decide) rfl (fun ls hl => ?_)
        refine lv_aload_n hx hb dX4_lightestSet_63 rfl (lv_at hl 1 rfl) ?_
        refine lv_iload hx hb dX4_lightestSet_64 (lv_at hl 6 rfl) ?_
        obtain ⟨r5, hr, hf⟩ := hf_1 hf
        refine inv_Vi (q0 := 4) (ci := 4) (As := [.int l7]) lk_X4_48 C hw rfl rfl rfl (t_Kp_weightOf hr) rfl hl.1 dX4_lightestSet_66 rfl (Nat.le_of_ble_eq_true rfl) (by decide) (Nat.le_of_ble_eq_true rfl) rfl (fun H locs hw => ?_)
        refine lv_istore (lv' := [(6, .int r5), (5, .int l7), (0, .ref (ea E 4)), (1, .int l1), (3, .int l3), (4, .int l4), (7, .int l7)]) hx hb dX4_lightestSet_69 hl (by decide) rfl (fun ls hl => ?_)
        obtain ⟨x6, ex6, hf⟩ := nme hf
        refine lv_iinc (v := x6) (lv' := [(7, .int x6), (6, .int r5), (5, .int l7), (0, .ref (ea E 4)), (1, .int l1), (3, .int l3), (4, .int l4)]) hx hb dX4_lightestSet_71 hl (k := 6) rfl (ki_1 ex6) (by decide) rfl (fun ls hl => ?_)
        refine lv_goto (tgt := 29) hx hb dX4_lightestSet_74 (by decide) ?_
        exact hk29 _ hf _ _ _ hw (lv_sub hl [3, 4, 5, 6, 2, 1, 0] rfl)
theorem w_Kp_lightestSet_L29 {N : Nat} {l1 : Int32} {l3 : Int32} {l4 : Int32} {r : Int32} (C : Cx p s m args meth c E cX4_lightestSet 8 RX4 (some .int)) : ∀ x, Kp_lightestSet_L29 N S l1 l3 l4 x = some r → ∀ (H : Heap) (locs : List Loc) (ls : Array Slot), Wd E (wX V E) s.heap S H locs → lv_has ls 8 [(0, .ref (ea E 4)), (1, .int l1), (3, .int l3), (4, .int l4), (5, .int x.1), (6, .int x.2.1), (7, .int x.2.2)] → W p l e (rmh 4) s m args below meth c H locs 0 0 (MQ below (QW E (wX V E) (some (.int r)) S) args s 0 0 (eA E)) (F0 m 29 ls []) :=
  lp_W (fun k x hk hf H locs ls hw hl => w_Kp_lightestSet_b29 C hk hw hl hf) N
set_option maxRecDepth 20000 in
theorem w_Kp_lightestSet {N : Nat} {p1 : Int32} {p2 : Int32} {r : Int32} (C : Cx p s m args meth c E cX4_lightestSet 8 RX4 (some .int)) (hw : Wd E (wX V E) s.heap S H locs) (hl : lv_has ls 8 [(0, .ref (ea E 4)), (1, .int p1), (2, .int p2)]) (hf : Kp_lightestSet N S p1 p2 = some r) : W p l e (rmh 4) s m args below meth c H locs 0 0 (MQ below (QW E (wX V E) (some (.int r)) S) args s 0 0 (eA E)) (F0 m 0 ls []) := by
  have hx := C.1
  have hb := C.2.1
  unfold Kp_lightestSet at hf
  refine lv_aload_n hx hb dX4_lightestSet_0 rfl (lv_at hl 0 rfl) ?_
  refine lv_iload_n hx hb dX4_lightestSet_1 rfl (lv_at hl 1 rfl) ?_
  refine lv_iload_n hx hb dX4_lightestSet_2 rfl (lv_at hl 2 rfl) ?_
  obtain ⟨r1, hr, hf⟩ := hf_1 hf
  refine inv_Vi (q0 := 4) (ci := 4) (As := [.int p1, .int p2]) lk_X4_31 C hw rfl rfl rfl (t_Kp_mayKeep hr) rfl hl.1 dX4_lightestSet_3 rfl (Nat.le_of_ble_eq_true rfl) (by decide) (Nat.le_of_ble_eq_true rfl) rfl (fun H locs hw => ?_)
  refine lv_istore_n (lv' := [(3, .int r1), (0, .ref (ea E 4)), (1, .int p1), (2, .int p2)]) hx hb dX4_lightestSet_6 rfl hl (by decide) rfl (fun ls hl => ?_)
  refine lv_aload_n hx hb dX4_lightestSet_7 rfl (lv_at hl 1 rfl) ?_
  refine get_4_0 C hw q_308 dX4_lightestSet_8 ?_
  refine lv_iload_n hx hb dX4_lightestSet_11 rfl (lv_at hl 2 rfl) ?_
  refine lv_iload_n hx hb dX4_lightestSet_12 rfl (lv_at hl 3 rfl) ?_
  obtain ⟨r2, hr, hf⟩ := hf_1 hf
  refine inv_Vi (q0 := 1) (ci := 8) (As := [.int p1, .int p2]) lk_X4_35 C hw rfl rfl rfl (t_Sm_lengthOn hr) rfl hl.1 dX4_lightestSet_13 rfl (Nat.le_of_ble_eq_true rfl) (by decide) (Nat.le_of_ble_eq_true rfl) rfl (fun H locs hw => ?_)
  refine lv_istore (lv' := [(4, .int r2), (3, .int r1), (0, .ref (ea E 4)), (1, .int p1), (2, .int p2)]) hx hb dX4_lightestSet_16 hl (by decide) rfl (fun ls hl => ?_)
  refine lv_bipush (v := -2) hx hb dX4_lightestSet_18 kb_m2 ?_
  refine lv_istore (lv' := [(5, .int (-2 : Int32)), (4, .int r2), (3, .int r1), (0, .ref (ea E 4)), (1, .int p1), (2, .int p2)]) hx hb dX4_lightestSet_20 hl (by decide) rfl (fun ls hl => ?_)
  refine lv_ldc (v := 2147483647) hx hb C.2.2.2.1 (C.2.2.2.2.1 _ q_764) dX4_lightestSet_22 ?_
  refine lv_istore (lv' := [(6, .int (2147483647 : Int32)), (5, .int (-2 : Int32)), (4, .int r2), (3, .int r1), (0, .ref (ea E 4)), (1, .int p1), (2, .int p2)]) hx hb dX4_lightestSet_24 hl (by decide) rfl (fun ls hl => ?_)
  refine lv_iconst (v := 0) hx hb dX4_lightestSet_26 kc_0 ?_
  refine lv_istore (lv' := [(7, .int (0 : Int32)), (6, .int (2147483647 : Int32)), (5, .int (-2 : Int32)), (4, .int r2), (3, .int r1), (0, .ref (ea E 4)), (1, .int p1), (2, .int p2)]) hx hb dX4_lightestSet_27 hl (by decide) rfl (fun ls hl => ?_)
  exact w_Kp_lightestSet_L29 C _ hf _ _ _ hw (lv_sub hl [5, 6, 4, 3, 2, 1, 0] rfl)
end
theorem t_Kp_lightestSet {l : Launch} {V : St} {N : Nat} {S : St} {p1 : Int32} {p2 : Int32} {r : Int32} (hf : Kp_lightestSet N S p1 p2 = some r) : Ct l (wX V) yX4_lightestSet cX4_lightestSet 8 (some .int) 4 (fun E => [.ref (ea E 4), .int p1, .int p2]) S (fun E => some (.int r)) S :=
  ofBlock (by decide +kernel) (fun _ => Nat.le_of_ble_eq_true rfl) (fun E p e s m args below meth c ls C hw hl => w_Kp_lightestSet C hw hl hf)
theorem dX4_howManySets_0 : decode cX4_howManySets 0 = .ok (.aload_n 0, 1) := by decide +kernel
theorem dX4_howManySets_1 : decode cX4_howManySets 1 = .ok (.iload_n 1, 1) := by decide +kernel
theorem dX4_howManySets_2 : decode cX4_howManySets 2 = .ok (.iload_n 2, 1) := by decide +kernel
theorem dX4_howManySets_3 : decode cX4_howManySets 3 = .ok (.invokevirtual 31, 3) := by decide +kernel
theorem dX4_howManySets_6 : decode cX4_howManySets 6 = .ok (.istore_n 3, 1) := by decide +kernel
theorem dX4_howManySets_7 : decode cX4_howManySets 7 = .ok (.aload_n 0, 1) := by decide +kernel
theorem dX4_howManySets_8 : decode cX4_howManySets 8 = .ok (.getfield 9, 3) := by decide +kernel
theorem dX4_howManySets_11 : decode cX4_howManySets 11 = .ok (.iload_n 1, 1) := by decide +kernel
theorem dX4_howManySets_12 : decode cX4_howManySets 12 = .ok (.iload_n 2, 1) := by decide +kernel
theorem dX4_howManySets_13 : decode cX4_howManySets 13 = .ok (.invokevirtual 35, 3) := by decide +kernel
theorem dX4_howManySets_16 : decode cX4_howManySets 16 = .ok (.istore 4, 2) := by decide +kernel
theorem dX4_howManySets_18 : decode cX4_howManySets 18 = .ok (.iconst 0, 1) := by decide +kernel
theorem dX4_howManySets_19 : decode cX4_howManySets 19 = .ok (.istore 5, 2) := by decide +kernel
theorem dX4_howManySets_21 : decode cX4_howManySets 21 = .ok (.iconst 0, 1) := by decide +kernel
theorem dX4_howManySets_22 : decode cX4_howManySets 22 = .ok (.istore 6, 2) := by decide +kernel
theorem dX4_howManySets_24 : decode cX4_howManySets 24 = .ok (.iload 6, 2) := by decide +kernel
theorem dX4_howManySets_26 : decode cX4_howManySets 26 = .ok (.iload_n 3, 1) := by decide +kernel
theorem dX4_howManySets_27 : decode cX4_howManySets 27 = .ok (.if_icmp .gt 25, 3) := by decide +kernel
theorem dX4_howManySets_30 : decode cX4_howManySets 30 = .ok (.aload_n 0, 1) := by decide +kernel
theorem dX4_howManySets_31 : decode cX4_howManySets 31 = .ok (.iload 6, 2) := by decide +kernel
theorem dX4_howManySets_33 : decode cX4_howManySets 33 = .ok (.iload_n 3, 1) := by decide +kernel
theorem dX4_howManySets_34 : decode cX4_howManySets 34 = .ok (.iload_n 1, 1) := by decide +kernel
theorem dX4_howManySets_35 : decode cX4_howManySets 35 = .ok (.iload 4, 2) := by decide +kernel
theorem dX4_howManySets_37 : decode cX4_howManySets 37 = .ok (.invokevirtual 38, 3) := by decide +kernel
theorem dX4_howManySets_40 : decode cX4_howManySets 40 = .ok (.ifCond .eq 6, 3) := by decide +kernel
theorem dX4_howManySets_43 : decode cX4_howManySets 43 = .ok (.iinc 5 1, 3) := by decide +kernel
theorem dX4_howManySets_46 : decode cX4_howManySets 46 = .ok (.iinc 6 1, 3) := by decide +kernel
theorem dX4_howManySets_49 : decode cX4_howManySets 49 = .ok (.goto (-25), 3) := by decide +kernel
theorem dX4_howManySets_52 : decode cX4_howManySets 52 = .ok (.iload 5, 2) := by decide +kernel
theorem dX4_howManySets_54 : decode cX4_howManySets 54 = .ok (.ireturn, 1) := by decide +kernel
section
variable {p : Program} {l : Launch} {e : Env} {s : State} {m : MethodId} {args : Array Value} {below : List Frame} {meth : Method} {c : Code} {H : Heap} {locs : List Loc} {E : Ev} {S V : St} {ls : Array Slot}
set_option maxRecDepth 20000 in
theorem w_Kp_howManySets_b24 {N : Nat} {k24 : (Int32 × Int32) → Option Int32} {l1 : Int32} {l3 : Int32} {l4 : Int32} {l5 : Int32} {l6 : Int32} {r : Int32} (C : Cx p s m args meth c E cX4_howManySets 7 RX4 (some .int)) (hk24 : ∀ x, k24 x = some r → ∀ (H : Heap) (locs : List Loc) (ls : Array Slot), Wd E (wX V E) s.heap S H locs → lv_has ls 7 [(0, .ref (ea E 4)), (1, .int l1), (3, .int l3), (4, .int l4), (5, .int x.1), (6, .int x.2)] → W p l e (rmh 4) s m args below meth c H locs 0 0 (MQ below (QW E (wX V E) (some (.int r)) S) args s 0 0 (eA E)) (F0 m 24 ls [])) (hw : Wd E (wX V E) s.heap S H locs) (hl : lv_has ls 7 [(0, .ref (ea E 4)), (1, .int l1), (3, .int l3), (4, .int l4), (5, .int l5), (6, .int l6)]) (hf : Kp_howManySets_b24 N k24 S l1 l3 l4 l5 l6 = some r) : W p l e (rmh 4) s m args below meth c H locs 0 0 (MQ below (QW E (wX V E) (some (.int r)) S) args s 0 0 (eA E)) (F0 m 24 ls []) := by
  have hx := C.1
  have hb := C.2.1
  unfold Kp_howManySets_b24 at hf
  refine lv_iload hx hb dX4_howManySets_24 (lv_at hl 5 rfl) ?_
  refine lv_iload_n hx hb dX4_howManySets_26 rfl (lv_at hl 2 rfl) ?_
  refine lv_icmp_gt (tgt := 52) hx hb dX4_howManySets_27 (by decide) (fun q => ?_) (fun q => ?_)
  · have hf := hf_t q hf
    refine lv_iload hx hb dX4_howManySets_52 (lv_at hl 4 rfl) ?_
    exact ret_i C hw dX4_howManySets_54 hf
  · have hf := hf_f q hf
    refine lv_aload_n hx hb dX4_howManySets_30 rfl (lv_at hl 0 rfl) ?_
    refine lv_iload hx hb dX4_howManySets_31 (lv_at hl 5 rfl) ?_
    refine lv_iload_n hx hb dX4_howManySets_33 rfl (lv_at hl 2 rfl) ?_
    refine lv_iload_n hx hb dX4_howManySets_34 rfl (lv_at hl 1 rfl) ?_
    refine lv_iload hx hb dX4_howManySets_35 (lv_at hl 3 rfl) ?_
    obtain ⟨r1, hr, hf⟩ := hf_1 hf
    refine inv_Vi (q0 := 4) (ci := 4) (As := [.int l6, .int l3, .int l1, .int l4]) lk_X4_38 C hw rfl rfl rfl (t_Kp_letsRide hr) rfl hl.1 dX4_howManySets_37 rfl (Nat.le_of_ble_eq_true rfl) (by decide) (Nat.le_of_ble_eq_true rfl) rfl (fun H locs hw => ?_)
    refine lv_if_eq (tgt := 46) hx hb dX4_howManySets_40 (by decide) (fun q => ?_) (fun q => ?_)
    · have hf := hf_t q hf
      obtain ⟨x2, ex2, hf⟩ := nme hf
      refine lv_iinc (v := x2) (lv' := [(6, .int x2), (0, .ref (ea E 4)), (1, .int l1), (3, .int l3), (4, .int l4), (5, .int l5)]) hx hb dX4_howManySets_46 hl (k := 5) rfl (ki_1 ex2) (by decide) rfl (fun ls hl => ?_)
      refine lv_goto (tgt := 24) hx hb dX4_howManySets_49 (by decide) ?_
      exact hk24 _ hf _ _ _ hw (lv_sub hl [1, 2, 3, 4, 5, 0] rfl)
    · have hf := hf_f q hf
      obtain ⟨x3, ex3, hf⟩ := nme hf
      refine lv_iinc (v := x3) (lv' := [(5, .int x3), (0, .ref (ea E 4)), (1, .int l1), (3, .int l3), (4, .int l4), (6, .int l6)]) hx hb dX4_howManySets_43 hl (k := 4) rfl (ki_1 ex3) (by decide) rfl (fun ls hl => ?_)
      obtain ⟨x4, ex4, hf⟩ := nme hf
      refine lv_iinc (v := x4) (lv' := [(6, .int x4), (5, .int x3), (0, .ref (ea E 4)), (1, .int l1), (3, .int l3), (4, .int l4)]) hx hb dX4_howManySets_46 hl (k := 5) rfl (ki_1 ex4) (by decide) rfl (fun ls hl => ?_)
      refine lv_goto (tgt := 24) hx hb dX4_howManySets_49 (by decide) ?_
      exact hk24 _ hf _ _ _ hw (lv_sub hl [2, 3, 4, 5, 1, 0] rfl)
theorem w_Kp_howManySets_L24 {N : Nat} {l1 : Int32} {l3 : Int32} {l4 : Int32} {r : Int32} (C : Cx p s m args meth c E cX4_howManySets 7 RX4 (some .int)) : ∀ x, Kp_howManySets_L24 N S l1 l3 l4 x = some r → ∀ (H : Heap) (locs : List Loc) (ls : Array Slot), Wd E (wX V E) s.heap S H locs → lv_has ls 7 [(0, .ref (ea E 4)), (1, .int l1), (3, .int l3), (4, .int l4), (5, .int x.1), (6, .int x.2)] → W p l e (rmh 4) s m args below meth c H locs 0 0 (MQ below (QW E (wX V E) (some (.int r)) S) args s 0 0 (eA E)) (F0 m 24 ls []) :=
  lp_W (fun k x hk hf H locs ls hw hl => w_Kp_howManySets_b24 C hk hw hl hf) N
set_option maxRecDepth 20000 in
theorem w_Kp_howManySets {N : Nat} {p1 : Int32} {p2 : Int32} {r : Int32} (C : Cx p s m args meth c E cX4_howManySets 7 RX4 (some .int)) (hw : Wd E (wX V E) s.heap S H locs) (hl : lv_has ls 7 [(0, .ref (ea E 4)), (1, .int p1), (2, .int p2)]) (hf : Kp_howManySets N S p1 p2 = some r) : W p l e (rmh 4) s m args below meth c H locs 0 0 (MQ below (QW E (wX V E) (some (.int r)) S) args s 0 0 (eA E)) (F0 m 0 ls []) := by
  have hx := C.1
  have hb := C.2.1
  unfold Kp_howManySets at hf
  refine lv_aload_n hx hb dX4_howManySets_0 rfl (lv_at hl 0 rfl) ?_
  refine lv_iload_n hx hb dX4_howManySets_1 rfl (lv_at hl 1 rfl) ?_
  refine lv_iload_n hx hb dX4_howManySets_2 rfl (lv_at hl 2 rfl) ?_
  obtain ⟨r1, hr, hf⟩ := hf_1 hf
  refine inv_Vi (q0 := 4) (ci := 4) (As := [.int p1, .int p2]) lk_X4_31 C hw rfl rfl rfl (t_Kp_mayKeep hr) rfl hl.1 dX4_howManySets_3 rfl (Nat.le_of_ble_eq_true rfl) (by decide) (Nat.le_of_ble_eq_true rfl) rfl (fun H locs hw => ?_)
  refine lv_istore_n (lv' := [(3, .int r1), (0, .ref (ea E 4)), (1, .int p1), (2, .int p2)]) hx hb dX4_howManySets_6 rfl hl (by decide) rfl (fun ls hl => ?_)
  refine lv_aload_n hx hb dX4_howManySets_7 rfl (lv_at hl 1 rfl) ?_
  refine get_4_0 C hw q_308 dX4_howManySets_8 ?_
  refine lv_iload_n hx hb dX4_howManySets_11 rfl (lv_at hl 2 rfl) ?_
  refine lv_iload_n hx hb dX4_howManySets_12 rfl (lv_at hl 3 rfl) ?_
  obtain ⟨r2, hr, hf⟩ := hf_1 hf
  refine inv_Vi (q0 := 1) (ci := 8) (As := [.int p1, .int p2]) lk_X4_35 C hw rfl rfl rfl (t_Sm_lengthOn hr) rfl hl.1 dX4_howManySets_13 rfl (Nat.le_of_ble_eq_true rfl) (by decide) (Nat.le_of_ble_eq_true rfl) rfl (fun H locs hw => ?_)
  refine lv_istore (lv' := [(4, .int r2), (3, .int r1), (0, .ref (ea E 4)), (1, .int p1), (2, .int p2)]) hx hb dX4_howManySets_16 hl (by decide) rfl (fun ls hl => ?_)
  refine lv_iconst (v := 0) hx hb dX4_howManySets_18 kc_0 ?_
  refine lv_istore (lv' := [(5, .int (0 : Int32)), (4, .int r2), (3, .int r1), (0, .ref (ea E 4)), (1, .int p1), (2, .int p2)]) hx hb dX4_howManySets_19 hl (by decide) rfl (fun ls hl => ?_)
  refine lv_iconst (v := 0) hx hb dX4_howManySets_21 kc_0 ?_
  refine lv_istore (lv' := [(6, .int (0 : Int32)), (5, .int (0 : Int32)), (4, .int r2), (3, .int r1), (0, .ref (ea E 4)), (1, .int p1), (2, .int p2)]) hx hb dX4_howManySets_22 hl (by decide) rfl (fun ls hl => ?_)
  exact w_Kp_howManySets_L24 C _ hf _ _ _ hw (lv_sub hl [4, 5, 3, 2, 1, 0] rfl)
end
theorem t_Kp_howManySets {l : Launch} {V : St} {N : Nat} {S : St} {p1 : Int32} {p2 : Int32} {r : Int32} (hf : Kp_howManySets N S p1 p2 = some r) : Ct l (wX V) yX4_howManySets cX4_howManySets 7 (some .int) 4 (fun E => [.ref (ea E 4), .int p1, .int p2]) S (fun E => some (.int r)) S :=
  ofBlock (by decide +kernel) (fun _ => Nat.le_of_ble_eq_true rfl) (fun E p e s m args below meth c ls C hw hl => w_Kp_howManySets C hw hl hf)
theorem dX4_endsRiding_0 : decode cX4_endsRiding 0 = .ok (.iload 4, 2) := by decide +kernel
theorem dX4_endsRiding_2 : decode cX4_endsRiding 2 = .ok (.iload 5, 2) := by decide +kernel
theorem dX4_endsRiding_4 : decode cX4_endsRiding 4 = .ok (.if_icmp .lt 10, 3) := by decide +kernel
theorem dX4_endsRiding_7 : decode cX4_endsRiding 7 = .ok (.aload_n 0, 1) := by decide +kernel
theorem dX4_endsRiding_8 : decode cX4_endsRiding 8 = .ok (.iload_n 1, 1) := by decide +kernel
theorem dX4_endsRiding_9 : decode cX4_endsRiding 9 = .ok (.iload_n 2, 1) := by decide +kernel
theorem dX4_endsRiding_10 : decode cX4_endsRiding 10 = .ok (.invokevirtual 27, 3) := by decide +kernel
theorem dX4_endsRiding_13 : decode cX4_endsRiding 13 = .ok (.ireturn, 1) := by decide +kernel
theorem dX4_endsRiding_14 : decode cX4_endsRiding 14 = .ok (.iload 4, 2) := by decide +kernel
theorem dX4_endsRiding_16 : decode cX4_endsRiding 16 = .ok (.iconst 1, 1) := by decide +kernel
theorem dX4_endsRiding_17 : decode cX4_endsRiding 17 = .ok (.iadd, 1) := by decide +kernel
theorem dX4_endsRiding_18 : decode cX4_endsRiding 18 = .ok (.istore 6, 2) := by decide +kernel
theorem dX4_endsRiding_20 : decode cX4_endsRiding 20 = .ok (.aload_n 0, 1) := by decide +kernel
theorem dX4_endsRiding_21 : decode cX4_endsRiding 21 = .ok (.iload_n 1, 1) := by decide +kernel
theorem dX4_endsRiding_22 : decode cX4_endsRiding 22 = .ok (.iload_n 2, 1) := by decide +kernel
theorem dX4_endsRiding_23 : decode cX4_endsRiding 23 = .ok (.iload_n 3, 1) := by decide +kernel
theorem dX4_endsRiding_24 : decode cX4_endsRiding 24 = .ok (.iload 6, 2) := by decide +kernel
theorem dX4_endsRiding_26 : decode cX4_endsRiding 26 = .ok (.iload 5, 2) := by decide +kernel
theorem dX4_endsRiding_28 : decode cX4_endsRiding 28 = .ok (.invokestatic 51, 3) := by decide +kernel
theorem dX4_endsRiding_31 : decode cX4_endsRiding 31 = .ok (.istore 7, 2) := by decide +kernel
theorem dX4_endsRiding_33 : decode cX4_endsRiding 33 = .ok (.iload 4, 2) := by decide +kernel
theorem dX4_endsRiding_35 : decode cX4_endsRiding 35 = .ok (.iconst 2, 1) := by decide +kernel
theorem dX4_endsRiding_36 : decode cX4_endsRiding 36 = .ok (.irem, 1) := by decide +kernel
theorem dX4_endsRiding_37 : decode cX4_endsRiding 37 = .ok (.iconst 1, 1) := by decide +kernel
theorem dX4_endsRiding_38 : decode cX4_endsRiding 38 = .ok (.if_icmp .ne 30, 3) := by decide +kernel
theorem dX4_endsRiding_41 : decode cX4_endsRiding 41 = .ok (.iload 7, 2) := by decide +kernel
theorem dX4_endsRiding_43 : decode cX4_endsRiding 43 = .ok (.ifCond .eq 23, 3) := by decide +kernel
theorem dX4_endsRiding_46 : decode cX4_endsRiding 46 = .ok (.aload_n 0, 1) := by decide +kernel
theorem dX4_endsRiding_47 : decode cX4_endsRiding 47 = .ok (.iload_n 1, 1) := by decide +kernel
theorem dX4_endsRiding_48 : decode cX4_endsRiding 48 = .ok (.iload_n 2, 1) := by decide +kernel
theorem dX4_endsRiding_49 : decode cX4_endsRiding 49 = .ok (.iconst 1, 1) := by decide +kernel
theorem dX4_endsRiding_50 : decode cX4_endsRiding 50 = .ok (.iadd, 1) := by decide +kernel
theorem dX4_endsRiding_51 : decode cX4_endsRiding 51 = .ok (.iload_n 3, 1) := by decide +kernel
theorem dX4_endsRiding_52 : decode cX4_endsRiding 52 = .ok (.iload 6, 2) := by decide +kernel
theorem dX4_endsRiding_54 : decode cX4_endsRiding 54 = .ok (.iload 5, 2) := by decide +kernel
theorem dX4_endsRiding_56 : decode cX4_endsRiding 56 = .ok (.invokestatic 51, 3) := by decide +kernel
theorem dX4_endsRiding_59 : decode cX4_endsRiding 59 = .ok (.ifCond .eq 7, 3) := by decide +kernel
theorem dX4_endsRiding_62 : decode cX4_endsRiding 62 = .ok (.iconst 1, 1) := by decide +kernel
theorem dX4_endsRiding_63 : decode cX4_endsRiding 63 = .ok (.goto 4, 3) := by decide +kernel
theorem dX4_endsRiding_66 : decode cX4_endsRiding 66 = .ok (.iconst 0, 1) := by decide +kernel
theorem dX4_endsRiding_67 : decode cX4_endsRiding 67 = .ok (.ireturn, 1) := by decide +kernel
theorem dX4_endsRiding_68 : decode cX4_endsRiding 68 = .ok (.iload 7, 2) := by decide +kernel
theorem dX4_endsRiding_70 : decode cX4_endsRiding 70 = .ok (.istore 8, 2) := by decide +kernel
theorem dX4_endsRiding_72 : decode cX4_endsRiding 72 = .ok (.iconst 0, 1) := by decide +kernel
theorem dX4_endsRiding_73 : decode cX4_endsRiding 73 = .ok (.istore 9, 2) := by decide +kernel
theorem dX4_endsRiding_75 : decode cX4_endsRiding 75 = .ok (.iload 9, 2) := by decide +kernel
theorem dX4_endsRiding_77 : decode cX4_endsRiding 77 = .ok (.aload_n 0, 1) := by decide +kernel
theorem dX4_endsRiding_78 : decode cX4_endsRiding 78 = .ok (.getfield 55, 3) := by decide +kernel
theorem dX4_endsRiding_81 : decode cX4_endsRiding 81 = .ok (.if_icmp .ge 57, 3) := by decide +kernel
theorem dX4_endsRiding_84 : decode cX4_endsRiding 84 = .ok (.iload 8, 2) := by decide +kernel
theorem dX4_endsRiding_86 : decode cX4_endsRiding 86 = .ok (.ifCond .ne 52, 3) := by decide +kernel
theorem dX4_endsRiding_89 : decode cX4_endsRiding 89 = .ok (.iload_n 3, 1) := by decide +kernel
theorem dX4_endsRiding_90 : decode cX4_endsRiding 90 = .ok (.iload 9, 2) := by decide +kernel
theorem dX4_endsRiding_92 : decode cX4_endsRiding 92 = .ok (.invokestatic 59, 3) := by decide +kernel
theorem dX4_endsRiding_95 : decode cX4_endsRiding 95 = .ok (.ifCond .eq 34, 3) := by decide +kernel
theorem dX4_endsRiding_98 : decode cX4_endsRiding 98 = .ok (.aload_n 0, 1) := by decide +kernel
theorem dX4_endsRiding_99 : decode cX4_endsRiding 99 = .ok (.iload_n 1, 1) := by decide +kernel
theorem dX4_endsRiding_100 : decode cX4_endsRiding 100 = .ok (.iload_n 2, 1) := by decide +kernel
theorem dX4_endsRiding_101 : decode cX4_endsRiding 101 = .ok (.aload_n 0, 1) := by decide +kernel
theorem dX4_endsRiding_102 : decode cX4_endsRiding 102 = .ok (.getfield 62, 3) := by decide +kernel
theorem dX4_endsRiding_105 : decode cX4_endsRiding 105 = .ok (.iload 9, 2) := by decide +kernel
theorem dX4_endsRiding_107 : decode cX4_endsRiding 107 = .ok (.iaload, 1) := by decide +kernel
theorem dX4_endsRiding_108 : decode cX4_endsRiding 108 = .ok (.isub, 1) := by decide +kernel
theorem dX4_endsRiding_109 : decode cX4_endsRiding 109 = .ok (.iload_n 3, 1) := by decide +kernel
theorem dX4_endsRiding_110 : decode cX4_endsRiding 110 = .ok (.iconst 1, 1) := by decide +kernel
theorem dX4_endsRiding_111 : decode cX4_endsRiding 111 = .ok (.iload 9, 2) := by decide +kernel
theorem dX4_endsRiding_113 : decode cX4_endsRiding 113 = .ok (.ishl, 1) := by decide +kernel
theorem dX4_endsRiding_114 : decode cX4_endsRiding 114 = .ok (.ixor, 1) := by decide +kernel
theorem dX4_endsRiding_115 : decode cX4_endsRiding 115 = .ok (.iload 6, 2) := by decide +kernel
theorem dX4_endsRiding_117 : decode cX4_endsRiding 117 = .ok (.iload 5, 2) := by decide +kernel
theorem dX4_endsRiding_119 : decode cX4_endsRiding 119 = .ok (.invokestatic 51, 3) := by decide +kernel
theorem dX4_endsRiding_122 : decode cX4_endsRiding 122 = .ok (.ifCond .eq 7, 3) := by decide +kernel
theorem dX4_endsRiding_125 : decode cX4_endsRiding 125 = .ok (.iconst 1, 1) := by decide +kernel
theorem dX4_endsRiding_126 : decode cX4_endsRiding 126 = .ok (.goto 4, 3) := by decide +kernel
theorem dX4_endsRiding_129 : decode cX4_endsRiding 129 = .ok (.iconst 0, 1) := by decide +kernel
theorem dX4_endsRiding_130 : decode cX4_endsRiding 130 = .ok (.istore 8, 2) := by decide +kernel
theorem dX4_endsRiding_132 : decode cX4_endsRiding 132 = .ok (.iinc 9 1, 3) := by decide +kernel
theorem dX4_endsRiding_135 : decode cX4_endsRiding 135 = .ok (.goto (-60), 3) := by decide +kernel
theorem dX4_endsRiding_138 : decode cX4_endsRiding 138 = .ok (.iload 8, 2) := by decide +kernel
theorem dX4_endsRiding_140 : decode cX4_endsRiding 140 = .ok (.ireturn, 1) := by decide +kernel
theorem Kp_endsRiding_succ (N : Nat) (d : Nat) : Kp_endsRiding N (d + 1) = Kp_endsRiding_B N (Kp_endsRiding N d) := rfl
section
variable {p : Program} {l : Launch} {e : Env} {s : State} {m : MethodId} {args : Array Value} {below : List Frame} {meth : Method} {c : Code} {H : Heap} {locs : List Loc} {E : Ev} {S V : St} {ls : Array Slot}
set_option maxRecDepth 20000 in
theorem w_Kp_endsRiding_b75 {N : Nat} {d : Nat} {f_endsRiding : St → Int32 → Int32 → Int32 → Int32 → Int32 → Option Int32} {k75 : (Int32 × Int32) → Option Int32} {l1 : Int32} {l2 : Int32} {l3 : Int32} {l5 : Int32} {l6 : Int32} {l8 : Int32} {l9 : Int32} {r : Int32} (C : Cx p s m args meth c E cX4_endsRiding 10 RX4 (some .boolean)) (hr_endsRiding : ∀ {S : St} {p2 : Int32} {p3 : Int32} {p4 : Int32} {p5 : Int32} {p6 : Int32} {r : Int32}, f_endsRiding S p2 p3 p4 p5 p6 = some r → Ct l (wX V) yX4_endsRiding cX4_endsRiding 10 (some .boolean) (d + 3) (fun E => [.ref (ea E 1), .int p2, .int p3, .int p4, .int p5, .int p6]) S (fun E => some (.int r)) S) (hk75 : ∀ x, k75 x = some r → ∀ (H : Heap) (locs : List Loc) (ls : Array Slot), Wd E (wX V E) s.heap S H locs → lv_has ls 10 [(0, .ref (ea E 1)), (1, .int l1), (2, .int l2), (3, .int l3), (5, .int l5), (6, .int l6), (8, .int x.1), (9, .int x.2)] → W p l e (rmh (d + 1 + 3)) s m args below meth c H locs 0 0 (MQ below (QW E (wX V E) (some (.int r)) S) args s 0 0 (eA E)) (F0 m 75 ls [])) (hw : Wd E (wX V E) s.heap S H locs) (hl : lv_has ls 10 [(0, .ref (ea E 1)), (1, .int l1), (2, .int l2), (3, .int l3), (5, .int l5), (6, .int l6), (8, .int l8), (9, .int l9)]) (hf : Kp_endsRiding_b75 N f_endsRiding k75 S l1 l2 l3 l5 l6 l8 l9 = some r) : W p l e (rmh (d + 1 + 3)) s m args below meth c H locs 0 0 (MQ below (QW E (wX V E) (some (.int r)) S) args s 0 0 (eA E)) (F0 m 75 ls []) := by
  have hx := C.1
  have hb := C.2.1
  unfold Kp_endsRiding_b75 at hf
  refine lv_iload hx hb dX4_endsRiding_75 (lv_at hl 7 rfl) ?_
  refine lv_aload_n hx hb dX4_endsRiding_77 rfl (lv_at hl 0 rfl) ?_
  refine get_1_10 C hw q_142 dX4_endsRiding_78 ?_
  refine lv_icmp_ge (tgt := 138) hx hb dX4_endsRiding_81 (by decide) (fun q => ?_) (fun q => ?_)
  · have hf := hf_t q hf
    refine lv_iload hx hb dX4_endsRiding_138 (lv_at hl 6 rfl) ?_
    obtain ⟨hcb, hf⟩ := hf_ck hf
    exact ret_z (isB_nar hcb) C hw dX4_endsRiding_140 hf
  · have hf := hf_f q hf
    refine lv_iload hx hb dX4_endsRiding_84 (lv_at hl 6 rfl) ?_
    refine lv_if_ne (tgt := 138) hx hb dX4_endsRiding_86 (by decide) (fun q => ?_) (fun q => ?_)
    · have hf := hf_f q hf
      refine lv_iload hx hb dX4_endsRiding_138 (lv_at hl 6 rfl) ?_
      obtain ⟨hcb, hf⟩ := hf_ck hf
      exact ret_z (isB_nar hcb) C hw dX4_endsRiding_140 hf
    · have hf := hf_t q hf
      refine lv_iload_n hx hb dX4_endsRiding_89 rfl (lv_at hl 3 rfl) ?_
      refine lv_iload hx hb dX4_endsRiding_90 (lv_at hl 7 rfl) ?_
      obtain ⟨r1, hr, hf⟩ := hf_1 hf
      refine inv_Ni (As := [.int l3, .int l9]) lk_X4_59 C hw (t_Ch_isIn hr) hl.1 dX4_endsRiding_92 rfl (by omega) (by decide) (Nat.le_of_ble_eq_true rfl) rfl (fun H locs hw => ?_)
      refine lv_if_eq (tgt := 129) hx hb dX4_endsRiding_95 (by decide) (fun q => ?_) (fun q => ?_)
      · have hf := hf_t q hf
        refine lv_iconst (v := 0) hx hb dX4_endsRiding_129 kc_0 ?_
        refine lv_istore (lv' := [(8, .int (0 : Int32)), (0, .ref (ea E 1)), (1, .int l1), (2, .int l2), (3, .int l3), (5, .int l5), (6, .int l6), (9, .int l9)]) hx hb dX4_endsRiding_130 hl (by decide) rfl (fun ls hl => ?_)
        obtain ⟨x2, ex2, hf⟩ := nme hf
        refine lv_iinc (v := x2) (lv' := [(9, .int x2), (8, .int (0 : Int32)), (0, .ref (ea E 1)), (1, .int l1), (2, .int l2), (3, .int l3), (5, .int l5), (6, .int l6)]) hx hb dX4_endsRiding_132 hl (k := 7) rfl (ki_1 ex2) (by decide) rfl (fun ls hl => ?_)
        refine lv_goto (tgt := 75) hx hb dX4_endsRiding_135 (by decide) ?_
        exact hk75 _ hf _ _ _ hw (lv_sub hl [2, 3, 4, 5, 6, 7, 1, 0] rfl)
      · have hf := hf_f q hf
        refine lv_aload_n hx hb dX4_endsRiding_98 rfl (lv_at hl 0 rfl) ?_
        refine lv_iload_n hx hb dX4_endsRiding_99 rfl (lv_at hl 1 rfl) ?_
        refine lv_iload_n hx hb dX4_endsRiding_100 rfl (lv_at hl 2 rfl) ?_
        refine lv_aload_n hx hb dX4_endsRiding_101 rfl (lv_at hl 0 rfl) ?_
        refine get_1_6 C hw q_126 dX4_endsRiding_102 ?_
        refine lv_iload hx hb dX4_endsRiding_105 (lv_at hl 7 rfl) ?_
        obtain ⟨hc, hf⟩ := hf_ck hf
        refine ld_17 C hw hc dX4_endsRiding_107 ?_
        refine lv_isub hx hb dX4_endsRiding_108 ?_
        refine lv_iload_n hx hb dX4_endsRiding_109 rfl (lv_at hl 3 rfl) ?_
        refine lv_iconst (v := 1) hx hb dX4_endsRiding_110 kc_1 ?_
        refine lv_iload hx hb dX4_endsRiding_111 (lv_at hl 7 rfl) ?_
        refine lv_ishl hx hb dX4_endsRiding_113 ?_
        refine lv_ixor hx hb dX4_endsRiding_114 ?_
        refine lv_iload hx hb dX4_endsRiding_115 (lv_at hl 5 rfl) ?_
        refine lv_iload hx hb dX4_endsRiding_117 (lv_at hl 4 rfl) ?_
        obtain ⟨r3, hr, hf⟩ := hf_1 hf
        refine inv_SAi (As := fun E => [.ref (ea E 1), .int l1, .int (l2 - (gi S 17 l9.toNatClampNeg)), .int (l3 ^^^ ((1 : Int32) <<< (l9 &&& 31))), .int l6, .int l5]) lk_X4_51 C hw (hr_endsRiding hr) hl.1 dX4_endsRiding_119 rfl (by omega) (by decide) (Nat.le_of_ble_eq_true rfl) rfl (fun H locs hw => ?_)
        refine lv_if_eq (tgt := 129) hx hb dX4_endsRiding_122 (by decide) (fun q => ?_) (fun q => ?_)
        · have hf := hf_t q hf
          refine lv_iconst (v := 0) hx hb dX4_endsRiding_129 kc_0 ?_
          refine lv_istore (lv' := [(8, .int (0 : Int32)), (0, .ref (ea E 1)), (1, .int l1), (2, .int l2), (3, .int l3), (5, .int l5), (6, .int l6), (9, .int l9)]) hx hb dX4_endsRiding_130 hl (by decide) rfl (fun ls hl => ?_)
          obtain ⟨x4, ex4, hf⟩ := nme hf
          refine lv_iinc (v := x4) (lv' := [(9, .int x4), (8, .int (0 : Int32)), (0, .ref (ea E 1)), (1, .int l1), (2, .int l2), (3, .int l3), (5, .int l5), (6, .int l6)]) hx hb dX4_endsRiding_132 hl (k := 7) rfl (ki_1 ex4) (by decide) rfl (fun ls hl => ?_)
          refine lv_goto (tgt := 75) hx hb dX4_endsRiding_135 (by decide) ?_
          exact hk75 _ hf _ _ _ hw (lv_sub hl [2, 3, 4, 5, 6, 7, 1, 0] rfl)
        · have hf := hf_f q hf
          refine lv_iconst (v := 1) hx hb dX4_endsRiding_125 kc_1 ?_
          refine lv_goto (tgt := 130) hx hb dX4_endsRiding_126 (by decide) ?_
          refine lv_istore (lv' := [(8, .int (1 : Int32)), (0, .ref (ea E 1)), (1, .int l1), (2, .int l2), (3, .int l3), (5, .int l5), (6, .int l6), (9, .int l9)]) hx hb dX4_endsRiding_130 hl (by decide) rfl (fun ls hl => ?_)
          obtain ⟨x5, ex5, hf⟩ := nme hf
          refine lv_iinc (v := x5) (lv' := [(9, .int x5), (8, .int (1 : Int32)), (0, .ref (ea E 1)), (1, .int l1), (2, .int l2), (3, .int l3), (5, .int l5), (6, .int l6)]) hx hb dX4_endsRiding_132 hl (k := 7) rfl (ki_1 ex5) (by decide) rfl (fun ls hl => ?_)
          refine lv_goto (tgt := 75) hx hb dX4_endsRiding_135 (by decide) ?_
          exact hk75 _ hf _ _ _ hw (lv_sub hl [2, 3, 4, 5, 6, 7, 1, 0] rfl)
theorem w_Kp_endsRiding_L75 {N : Nat} {d : Nat} {f_endsRiding : St → Int32 → Int32 → Int32 → Int32 → Int32 → Option Int32} {l1 : Int32} {l2 : Int32} {l3 : Int32} {l5 : Int32} {l6 : Int32} {r : Int32} (C : Cx p s m args meth c E cX4_endsRiding 10 RX4 (some .boolean)) (hr_endsRiding : ∀ {S : St} {p2 : Int32} {p3 : Int32} {p4 : Int32} {p5 : Int32} {p6 : Int32} {r : Int32}, f_endsRiding S p2 p3 p4 p5 p6 = some r → Ct l (wX V) yX4_endsRiding cX4_endsRiding 10 (some .boolean) (d + 3) (fun E => [.ref (ea E 1), .int p2, .int p3, .int p4, .int p5, .int p6]) S (fun E => some (.int r)) S) : ∀ x, Kp_endsRiding_L75 N f_endsRiding S l1 l2 l3 l5 l6 x = some r → ∀ (H : Heap) (locs : List Loc) (ls : Array Slot), Wd E (wX V E) s.heap S H locs → lv_has ls 10 [(0, .ref (ea E 1)), (1, .int l1), (2, .int l2), (3, .int l3), (5, .int l5), (6, .int l6), (8, .int x.1), (9, .int x.2)] → W p l e (rmh (d + 1 + 3)) s m args below meth c H locs 0 0 (MQ below (QW E (wX V E) (some (.int r)) S) args s 0 0 (eA E)) (F0 m 75 ls []) :=
  lp_W (fun k x hk hf H locs ls hw hl => w_Kp_endsRiding_b75 C hr_endsRiding hk hw hl hf) N
set_option maxRecDepth 20000 in
theorem w_Kp_endsRiding_B {N : Nat} {d : Nat} {f_endsRiding : St → Int32 → Int32 → Int32 → Int32 → Int32 → Option Int32} {p2 : Int32} {p3 : Int32} {p4 : Int32} {p5 : Int32} {p6 : Int32} {r : Int32} (C : Cx p s m args meth c E cX4_endsRiding 10 RX4 (some .boolean)) (hr_endsRiding : ∀ {S : St} {p2 : Int32} {p3 : Int32} {p4 : Int32} {p5 : Int32} {p6 : Int32} {r : Int32}, f_endsRiding S p2 p3 p4 p5 p6 = some r → Ct l (wX V) yX4_endsRiding cX4_endsRiding 10 (some .boolean) (d + 3) (fun E => [.ref (ea E 1), .int p2, .int p3, .int p4, .int p5, .int p6]) S (fun E => some (.int r)) S) (hw : Wd E (wX V E) s.heap S H locs) (hl : lv_has ls 10 [(0, .ref (ea E 1)), (1, .int p2), (2, .int p3), (3, .int p4), (4, .int p5), (5, .int p6)]) (hf : Kp_endsRiding_B N f_endsRiding S p2 p3 p4 p5 p6 = some r) : W p l e (rmh (d + 1 + 3)) s m args below meth c H locs 0 0 (MQ below (QW E (wX V E) (some (.int r)) S) args s 0 0 (eA E)) (F0 m 0 ls []) := by
  have hx := C.1
  have hb := C.2.1
  unfold Kp_endsRiding_B at hf
  refine lv_iload hx hb dX4_endsRiding_0 (lv_at hl 4 rfl) ?_
  refine lv_iload hx hb dX4_endsRiding_2 (lv_at hl 5 rfl) ?_
  refine lv_icmp_lt (tgt := 14) hx hb dX4_endsRiding_4 (by decide) (fun q => ?_) (fun q => ?_)
  · have hf := hf_t q hf
    refine lv_iload hx hb dX4_endsRiding_14 (lv_at hl 4 rfl) ?_
    refine lv_iconst (v := 1) hx hb dX4_endsRiding_16 kc_1 ?_
    refine lv_iadd hx hb dX4_endsRiding_17 ?_
    refine nm_i hf (fun x1 hf => ?_)
    refine lv_istore (lv' := [(6, .int x1), (0, .ref (ea E 1)), (1, .int p2), (2, .int p3), (3, .int p4), (4, .int p5), (5, .int p6)]) hx hb dX4_endsRiding_18 hl (by decide) rfl (fun ls hl => ?_)
    refine lv_aload_n hx hb dX4_endsRiding_20 rfl (lv_at hl 1 rfl) ?_
    refine lv_iload_n hx hb dX4_endsRiding_21 rfl (lv_at hl 2 rfl) ?_
    refine lv_iload_n hx hb dX4_endsRiding_22 rfl (lv_at hl 3 rfl) ?_
    refine lv_iload_n hx hb dX4_endsRiding_23 rfl (lv_at hl 4 rfl) ?_
    refine lv_iload hx hb dX4_endsRiding_24 (lv_at hl 0 rfl) ?_
    refine lv_iload hx hb dX4_endsRiding_26 (lv_at hl 6 rfl) ?_
    obtain ⟨r2, hr, hf⟩ := hf_1 hf
    refine inv_SAi (As := fun E => [.ref (ea E 1), .int p2, .int p3, .int p4, .int x1, .int p6]) lk_X4_51 C hw (hr_endsRiding hr) hl.1 dX4_endsRiding_28 rfl (by omega) (by decide) (Nat.le_of_ble_eq_true rfl) rfl (fun H locs hw => ?_)
    refine lv_istore (lv' := [(7, .int r2), (6, .int x1), (0, .ref (ea E 1)), (1, .int p2), (2, .int p3), (3, .int p4), (4, .int p5), (5, .int p6)]) hx hb dX4_endsRiding_31 hl (by decide) rfl (fun ls hl => ?_)
    refine lv_iload hx hb dX4_endsRiding_33 (lv_at hl 6 rfl) ?_
    refine lv_iconst (v := 2) hx hb dX4_endsRiding_35 kc_2 ?_
    refine lv_irem hx hb dX4_endsRiding_36 (by decide) ?_
    refine lv_iconst (v := 1) hx hb dX4_endsRiding_37 kc_1 ?_
    refine lv_icmp_ne (tgt := 68) hx hb dX4_endsRiding_38 (by decide) (fun q => ?_) (fun q => ?_)
    · have hf := hf_f q hf
      refine lv_iload hx hb dX4_endsRiding_68 (lv_at hl 0 rfl) ?_
      refine lv_istore (lv' := [(8, .int r2), (7, .int r2), (6, .int x1), (0, .ref (ea E 1)), (1, .int p2), (2, .int p3), (3, .int p4), (4, .int p5), (5, .int p6)]) hx hb dX4_endsRiding_70 hl (by decide) rfl (fun ls hl => ?_)
      refine lv_iconst (v := 0) hx hb dX4_endsRiding_72 kc_0 ?_
      refine lv_istore (lv' := [(9, .int (0 : Int32)), (8, .int r2), (7, .int r2), (6, .int x1), (0, .ref (ea E 1)), (1, .int p2), (2, .int p3), (3, .int p4), (4, .int p5), (5, .int p6)]) hx hb dX4_endsRiding_73 hl (by decide) rfl (fun ls hl => ?_)
      exact w_Kp_endsRiding_L75 C hr_endsRiding _ hf _ _ _ hw (lv_sub hl [4, 5, 6, 7, 9, 3, 1, 0] rfl)
    · have hf := hf_t q hf
      refine lv_iload hx hb dX4_endsRiding_41 (lv_at hl 0 rfl) ?_
      refine lv_if_eq (tgt := 66) hx hb dX4_endsRiding_43 (by decide) (fun q => ?_) (fun q => ?_)
      · have hf := hf_t q hf
        refine lv_iconst (v := 0) hx hb dX4_endsRiding_66 kc_0 ?_
        exact ret_z rfl C hw dX4_endsRiding_67 hf
      · have hf := hf_f q hf
        refine lv_aload_n hx hb dX4_endsRiding_46 rfl (lv_at hl 2 rfl) ?_
        refine lv_iload_n hx hb dX4_endsRiding_47 rfl (lv_at hl 3 rfl) ?_
        refine lv_iload_n hx hb dX4_endsRiding_48 rfl (lv_at hl 4 rfl) ?_
        refine lv_iconst (v := 1) hx hb dX4_endsRiding_49 kc_1 ?_
        refine lv_iadd hx hb dX4_endsRiding_50 ?_
        refine lv_iload_n hx hb dX4_endsRiding_51 rfl (lv_at hl 5 rfl) ?_
        refine lv_iload hx hb dX4_endsRiding_52 (lv_at hl 1 rfl) ?_
        refine lv_iload hx hb dX4_endsRiding_54 (lv_at hl 7 rfl) ?_
        obtain ⟨r3, hr, hf⟩ := hf_1 hf
        refine inv_SAi (As := fun E => [.ref (ea E 1), .int p2, .int (p3 + (1 : Int32)), .int p4, .int x1, .int p6]) lk_X4_51 C hw (hr_endsRiding hr) hl.1 dX4_endsRiding_56 rfl (by omega) (by decide) (Nat.le_of_ble_eq_true rfl) rfl (fun H locs hw => ?_)
        refine lv_if_eq (tgt := 66) hx hb dX4_endsRiding_59 (by decide) (fun q => ?_) (fun q => ?_)
        · have hf := hf_t q hf
          refine lv_iconst (v := 0) hx hb dX4_endsRiding_66 kc_0 ?_
          exact ret_z rfl C hw dX4_endsRiding_67 hf
        · have hf := hf_f q hf
          refine lv_iconst (v := 1) hx hb dX4_endsRiding_62 kc_1 ?_
          refine lv_goto (tgt := 67) hx hb dX4_endsRiding_63 (by decide) ?_
          exact ret_z rfl C hw dX4_endsRiding_67 hf
  · have hf := hf_f q hf
    refine lv_aload_n hx hb dX4_endsRiding_7 rfl (lv_at hl 0 rfl) ?_
    refine lv_iload_n hx hb dX4_endsRiding_8 rfl (lv_at hl 1 rfl) ?_
    refine lv_iload_n hx hb dX4_endsRiding_9 rfl (lv_at hl 2 rfl) ?_
    obtain ⟨r4, hr, hf⟩ := hf_1 hf
    refine inv_Vi (q0 := 1) (ci := 8) (As := [.int p2, .int p3]) lk_X4_27 C hw rfl rfl rfl (t_Sm_goesRound hr) rfl hl.1 dX4_endsRiding_10 rfl (by omega) (by decide) (Nat.le_of_ble_eq_true rfl) rfl (fun H locs hw => ?_)
    obtain ⟨hcb, hf⟩ := hf_ck hf
    exact ret_z (isB_nar hcb) C hw dX4_endsRiding_13 hf
end
theorem g_Kp_endsRiding {l : Launch} {V : St} {N : Nat} : ∀ d : Nat, (∀ {S : St} {p2 : Int32} {p3 : Int32} {p4 : Int32} {p5 : Int32} {p6 : Int32} {r : Int32}, Kp_endsRiding N d S p2 p3 p4 p5 p6 = some r → Ct l (wX V) yX4_endsRiding cX4_endsRiding 10 (some .boolean) (d + 3) (fun E => [.ref (ea E 1), .int p2, .int p3, .int p4, .int p5, .int p6]) S (fun E => some (.int r)) S) := by
  intro d
  induction d with
  | zero => exact (by intros; rename_i hf; cases hf)
  | succ d ih =>
    have h0 := @ih
    exact by intros; rename_i hf; exact ofBlock (by decide +kernel) (fun _ => Nat.le_of_ble_eq_true rfl) (fun E p e s m args below meth c ls C hw hl => w_Kp_endsRiding_B (N := N) (d := d) (f_endsRiding := Kp_endsRiding N d) C h0 hw hl hf)
theorem t_Kp_endsRiding {l : Launch} {V : St} {N : Nat} {S : St} {p2 : Int32} {p3 : Int32} {p4 : Int32} {p5 : Int32} {p6 : Int32} {r : Int32} (hf : Kp_endsRiding N N S p2 p3 p4 p5 p6 = some r) : Ct l (wX V) yX4_endsRiding cX4_endsRiding 10 (some .boolean) (N + 3) (fun E => [.ref (ea E 1), .int p2, .int p3, .int p4, .int p5, .int p6]) S (fun E => some (.int r)) S := (g_Kp_endsRiding (l := l) (V := V) (N := N) N) hf
theorem dX4_winsByTurns_0 : decode cX4_winsByTurns 0 = .ok (.aload_n 0, 1) := by decide +kernel
theorem dX4_winsByTurns_1 : decode cX4_winsByTurns 1 = .ok (.getfield 9, 3) := by decide +kernel
theorem dX4_winsByTurns_4 : decode cX4_winsByTurns 4 = .ok (.iload_n 1, 1) := by decide +kernel
theorem dX4_winsByTurns_5 : decode cX4_winsByTurns 5 = .ok (.aload_n 0, 1) := by decide +kernel
theorem dX4_winsByTurns_6 : decode cX4_winsByTurns 6 = .ok (.getfield 9, 3) := by decide +kernel
theorem dX4_winsByTurns_9 : decode cX4_winsByTurns 9 = .ok (.iload_n 1, 1) := by decide +kernel
theorem dX4_winsByTurns_10 : decode cX4_winsByTurns 10 = .ok (.iload_n 2, 1) := by decide +kernel
theorem dX4_winsByTurns_11 : decode cX4_winsByTurns 11 = .ok (.invokevirtual 35, 3) := by decide +kernel
theorem dX4_winsByTurns_14 : decode cX4_winsByTurns 14 = .ok (.aload_n 0, 1) := by decide +kernel
theorem dX4_winsByTurns_15 : decode cX4_winsByTurns 15 = .ok (.iload_n 1, 1) := by decide +kernel
theorem dX4_winsByTurns_16 : decode cX4_winsByTurns 16 = .ok (.iload_n 2, 1) := by decide +kernel
theorem dX4_winsByTurns_17 : decode cX4_winsByTurns 17 = .ok (.invokevirtual 31, 3) := by decide +kernel
theorem dX4_winsByTurns_20 : decode cX4_winsByTurns 20 = .ok (.iconst 0, 1) := by decide +kernel
theorem dX4_winsByTurns_21 : decode cX4_winsByTurns 21 = .ok (.iload_n 3, 1) := by decide +kernel
theorem dX4_winsByTurns_22 : decode cX4_winsByTurns 22 = .ok (.invokestatic 51, 3) := by decide +kernel
theorem dX4_winsByTurns_25 : decode cX4_winsByTurns 25 = .ok (.ireturn, 1) := by decide +kernel
section
variable {p : Program} {l : Launch} {e : Env} {s : State} {m : MethodId} {args : Array Value} {below : List Frame} {meth : Method} {c : Code} {H : Heap} {locs : List Loc} {E : Ev} {S V : St} {ls : Array Slot}
set_option maxRecDepth 20000 in
theorem w_Kp_winsByTurns {N : Nat} {p1 : Int32} {p2 : Int32} {p3 : Int32} {r : Int32} (C : Cx p s m args meth c E cX4_winsByTurns 4 RX4 (some .boolean)) (hw : Wd E (wX V E) s.heap S H locs) (hl : lv_has ls 4 [(0, .ref (ea E 4)), (1, .int p1), (2, .int p2), (3, .int p3)]) (hf : Kp_winsByTurns N S p1 p2 p3 = some r) : W p l e (rmh (N + 4)) s m args below meth c H locs 0 0 (MQ below (QW E (wX V E) (some (.int r)) S) args s 0 0 (eA E)) (F0 m 0 ls []) := by
  have hx := C.1
  have hb := C.2.1
  unfold Kp_winsByTurns at hf
  refine lv_aload_n hx hb dX4_winsByTurns_0 rfl (lv_at hl 0 rfl) ?_
  refine get_4_0 C hw q_308 dX4_winsByTurns_1 ?_
  refine lv_iload_n hx hb dX4_winsByTurns_4 rfl (lv_at hl 1 rfl) ?_
  refine lv_aload_n hx hb dX4_winsByTurns_5 rfl (lv_at hl 0 rfl) ?_
  refine get_4_0 C hw q_308 dX4_winsByTurns_6 ?_
  refine lv_iload_n hx hb dX4_winsByTurns_9 rfl (lv_at hl 1 rfl) ?_
  refine lv_iload_n hx hb dX4_winsByTurns_10 rfl (lv_at hl 2 rfl) ?_
  obtain ⟨r1, hr, hf⟩ := hf_1 hf
  refine inv_Vi (q0 := 1) (ci := 8) (As := [.int p1, .int p2]) lk_X4_35 C hw rfl rfl rfl (t_Sm_lengthOn hr) rfl hl.1 dX4_winsByTurns_11 rfl (Nat.le_of_ble_eq_true rfl) (by decide) (Nat.le_of_ble_eq_true rfl) rfl (fun H locs hw => ?_)
  refine lv_aload_n hx hb dX4_winsByTurns_14 rfl (lv_at hl 0 rfl) ?_
  refine lv_iload_n hx hb dX4_winsByTurns_15 rfl (lv_at hl 1 rfl) ?_
  refine lv_iload_n hx hb dX4_winsByTurns_16 rfl (lv_at hl 2 rfl) ?_
  obtain ⟨r2, hr, hf⟩ := hf_1 hf
  refine inv_Vi (q0 := 4) (ci := 4) (As := [.int p1, .int p2]) lk_X4_31 C hw rfl rfl rfl (t_Kp_mayKeep hr) rfl hl.1 dX4_winsByTurns_17 rfl (Nat.le_of_ble_eq_true rfl) (by decide) (Nat.le_of_ble_eq_true rfl) rfl (fun H locs hw => ?_)
  refine lv_iconst (v := 0) hx hb dX4_winsByTurns_20 kc_0 ?_
  refine lv_iload_n hx hb dX4_winsByTurns_21 rfl (lv_at hl 3 rfl) ?_
  obtain ⟨r3, hr, hf⟩ := hf_1 hf
  refine inv_SAi (As := fun E => [.ref (ea E 1), .int p1, .int r1, .int r2, .int (0 : Int32), .int p3]) lk_X4_51 C hw (t_Kp_endsRiding hr) hl.1 dX4_winsByTurns_22 rfl (by omega) (by decide) (Nat.le_of_ble_eq_true rfl) rfl (fun H locs hw => ?_)
  obtain ⟨hcb, hf⟩ := hf_ck hf
  exact ret_z (isB_nar hcb) C hw dX4_winsByTurns_25 hf
end
theorem t_Kp_winsByTurns {l : Launch} {V : St} {N : Nat} {S : St} {p1 : Int32} {p2 : Int32} {p3 : Int32} {r : Int32} (hf : Kp_winsByTurns N S p1 p2 p3 = some r) : Ct l (wX V) yX4_winsByTurns cX4_winsByTurns 4 (some .boolean) (N + 4) (fun E => [.ref (ea E 4), .int p1, .int p2, .int p3]) S (fun E => some (.int r)) S :=
  ofBlock (by decide +kernel) (fun _ => Nat.le_of_ble_eq_true rfl) (fun E p e s m args below meth c ls C hw hl => w_Kp_winsByTurns C hw hl hf)
theorem dJ6_numberOfTrailingZeros_0f7a4_0 : decode cJ6_numberOfTrailingZeros_0f7a4 0 = .ok (.iload_n 0, 1) := by decide +kernel
theorem dJ6_numberOfTrailingZeros_0f7a4_1 : decode cJ6_numberOfTrailingZeros_0f7a4 1 = .ok (.iconst (-1), 1) := by decide +kernel
theorem dJ6_numberOfTrailingZeros_0f7a4_2 : decode cJ6_numberOfTrailingZeros_0f7a4 2 = .ok (.ixor, 1) := by decide +kernel
theorem dJ6_numberOfTrailingZeros_0f7a4_3 : decode cJ6_numberOfTrailingZeros_0f7a4 3 = .ok (.iload_n 0, 1) := by decide +kernel
theorem dJ6_numberOfTrailingZeros_0f7a4_4 : decode cJ6_numberOfTrailingZeros_0f7a4 4 = .ok (.iconst 1, 1) := by decide +kernel
theorem dJ6_numberOfTrailingZeros_0f7a4_5 : decode cJ6_numberOfTrailingZeros_0f7a4 5 = .ok (.isub, 1) := by decide +kernel
theorem dJ6_numberOfTrailingZeros_0f7a4_6 : decode cJ6_numberOfTrailingZeros_0f7a4 6 = .ok (.iand, 1) := by decide +kernel
theorem dJ6_numberOfTrailingZeros_0f7a4_7 : decode cJ6_numberOfTrailingZeros_0f7a4 7 = .ok (.istore_n 0, 1) := by decide +kernel
theorem dJ6_numberOfTrailingZeros_0f7a4_8 : decode cJ6_numberOfTrailingZeros_0f7a4 8 = .ok (.iload_n 0, 1) := by decide +kernel
theorem dJ6_numberOfTrailingZeros_0f7a4_9 : decode cJ6_numberOfTrailingZeros_0f7a4 9 = .ok (.ifCond .gt 8, 3) := by decide +kernel
theorem dJ6_numberOfTrailingZeros_0f7a4_12 : decode cJ6_numberOfTrailingZeros_0f7a4 12 = .ok (.iload_n 0, 1) := by decide +kernel
theorem dJ6_numberOfTrailingZeros_0f7a4_13 : decode cJ6_numberOfTrailingZeros_0f7a4 13 = .ok (.bipush 32, 2) := by decide +kernel
theorem dJ6_numberOfTrailingZeros_0f7a4_15 : decode cJ6_numberOfTrailingZeros_0f7a4 15 = .ok (.iand, 1) := by decide +kernel
theorem dJ6_numberOfTrailingZeros_0f7a4_16 : decode cJ6_numberOfTrailingZeros_0f7a4 16 = .ok (.ireturn, 1) := by decide +kernel
theorem dJ6_numberOfTrailingZeros_0f7a4_17 : decode cJ6_numberOfTrailingZeros_0f7a4 17 = .ok (.iconst 1, 1) := by decide +kernel
theorem dJ6_numberOfTrailingZeros_0f7a4_18 : decode cJ6_numberOfTrailingZeros_0f7a4 18 = .ok (.istore_n 1, 1) := by decide +kernel
theorem dJ6_numberOfTrailingZeros_0f7a4_19 : decode cJ6_numberOfTrailingZeros_0f7a4 19 = .ok (.iload_n 0, 1) := by decide +kernel
theorem dJ6_numberOfTrailingZeros_0f7a4_20 : decode cJ6_numberOfTrailingZeros_0f7a4 20 = .ok (.ldc_w 264, 3) := by decide +kernel
theorem dJ6_numberOfTrailingZeros_0f7a4_23 : decode cJ6_numberOfTrailingZeros_0f7a4 23 = .ok (.if_icmp .le 11, 3) := by decide +kernel
theorem dJ6_numberOfTrailingZeros_0f7a4_26 : decode cJ6_numberOfTrailingZeros_0f7a4 26 = .ok (.iinc 1 16, 3) := by decide +kernel
theorem dJ6_numberOfTrailingZeros_0f7a4_29 : decode cJ6_numberOfTrailingZeros_0f7a4 29 = .ok (.iload_n 0, 1) := by decide +kernel
theorem dJ6_numberOfTrailingZeros_0f7a4_30 : decode cJ6_numberOfTrailingZeros_0f7a4 30 = .ok (.bipush 16, 2) := by decide +kernel
theorem dJ6_numberOfTrailingZeros_0f7a4_32 : decode cJ6_numberOfTrailingZeros_0f7a4 32 = .ok (.iushr, 1) := by decide +kernel
theorem dJ6_numberOfTrailingZeros_0f7a4_33 : decode cJ6_numberOfTrailingZeros_0f7a4 33 = .ok (.istore_n 0, 1) := by decide +kernel
theorem dJ6_numberOfTrailingZeros_0f7a4_34 : decode cJ6_numberOfTrailingZeros_0f7a4 34 = .ok (.iload_n 0, 1) := by decide +kernel
theorem dJ6_numberOfTrailingZeros_0f7a4_35 : decode cJ6_numberOfTrailingZeros_0f7a4 35 = .ok (.sipush 256, 3) := by decide +kernel
theorem dJ6_numberOfTrailingZeros_0f7a4_38 : decode cJ6_numberOfTrailingZeros_0f7a4 38 = .ok (.if_icmp .le 11, 3) := by decide +kernel
theorem dJ6_numberOfTrailingZeros_0f7a4_41 : decode cJ6_numberOfTrailingZeros_0f7a4 41 = .ok (.iinc 1 8, 3) := by decide +kernel
theorem dJ6_numberOfTrailingZeros_0f7a4_44 : decode cJ6_numberOfTrailingZeros_0f7a4 44 = .ok (.iload_n 0, 1) := by decide +kernel
theorem dJ6_numberOfTrailingZeros_0f7a4_45 : decode cJ6_numberOfTrailingZeros_0f7a4 45 = .ok (.bipush 8, 2) := by decide +kernel
theorem dJ6_numberOfTrailingZeros_0f7a4_47 : decode cJ6_numberOfTrailingZeros_0f7a4 47 = .ok (.iushr, 1) := by decide +kernel
theorem dJ6_numberOfTrailingZeros_0f7a4_48 : decode cJ6_numberOfTrailingZeros_0f7a4 48 = .ok (.istore_n 0, 1) := by decide +kernel
theorem dJ6_numberOfTrailingZeros_0f7a4_49 : decode cJ6_numberOfTrailingZeros_0f7a4 49 = .ok (.iload_n 0, 1) := by decide +kernel
theorem dJ6_numberOfTrailingZeros_0f7a4_50 : decode cJ6_numberOfTrailingZeros_0f7a4 50 = .ok (.bipush 16, 2) := by decide +kernel
theorem dJ6_numberOfTrailingZeros_0f7a4_52 : decode cJ6_numberOfTrailingZeros_0f7a4 52 = .ok (.if_icmp .le 10, 3) := by decide +kernel
theorem dJ6_numberOfTrailingZeros_0f7a4_55 : decode cJ6_numberOfTrailingZeros_0f7a4 55 = .ok (.iinc 1 4, 3) := by decide +kernel
theorem dJ6_numberOfTrailingZeros_0f7a4_58 : decode cJ6_numberOfTrailingZeros_0f7a4 58 = .ok (.iload_n 0, 1) := by decide +kernel
theorem dJ6_numberOfTrailingZeros_0f7a4_59 : decode cJ6_numberOfTrailingZeros_0f7a4 59 = .ok (.iconst 4, 1) := by decide +kernel
theorem dJ6_numberOfTrailingZeros_0f7a4_60 : decode cJ6_numberOfTrailingZeros_0f7a4 60 = .ok (.iushr, 1) := by decide +kernel
theorem dJ6_numberOfTrailingZeros_0f7a4_61 : decode cJ6_numberOfTrailingZeros_0f7a4 61 = .ok (.istore_n 0, 1) := by decide +kernel
theorem dJ6_numberOfTrailingZeros_0f7a4_62 : decode cJ6_numberOfTrailingZeros_0f7a4 62 = .ok (.iload_n 0, 1) := by decide +kernel
theorem dJ6_numberOfTrailingZeros_0f7a4_63 : decode cJ6_numberOfTrailingZeros_0f7a4 63 = .ok (.iconst 4, 1) := by decide +kernel
theorem dJ6_numberOfTrailingZeros_0f7a4_64 : decode cJ6_numberOfTrailingZeros_0f7a4 64 = .ok (.if_icmp .le 10, 3) := by decide +kernel
theorem dJ6_numberOfTrailingZeros_0f7a4_67 : decode cJ6_numberOfTrailingZeros_0f7a4 67 = .ok (.iinc 1 2, 3) := by decide +kernel
theorem dJ6_numberOfTrailingZeros_0f7a4_70 : decode cJ6_numberOfTrailingZeros_0f7a4 70 = .ok (.iload_n 0, 1) := by decide +kernel
theorem dJ6_numberOfTrailingZeros_0f7a4_71 : decode cJ6_numberOfTrailingZeros_0f7a4 71 = .ok (.iconst 2, 1) := by decide +kernel
theorem dJ6_numberOfTrailingZeros_0f7a4_72 : decode cJ6_numberOfTrailingZeros_0f7a4 72 = .ok (.iushr, 1) := by decide +kernel
theorem dJ6_numberOfTrailingZeros_0f7a4_73 : decode cJ6_numberOfTrailingZeros_0f7a4 73 = .ok (.istore_n 0, 1) := by decide +kernel
theorem dJ6_numberOfTrailingZeros_0f7a4_74 : decode cJ6_numberOfTrailingZeros_0f7a4 74 = .ok (.iload_n 1, 1) := by decide +kernel
theorem dJ6_numberOfTrailingZeros_0f7a4_75 : decode cJ6_numberOfTrailingZeros_0f7a4 75 = .ok (.iload_n 0, 1) := by decide +kernel
theorem dJ6_numberOfTrailingZeros_0f7a4_76 : decode cJ6_numberOfTrailingZeros_0f7a4 76 = .ok (.iconst 1, 1) := by decide +kernel
theorem dJ6_numberOfTrailingZeros_0f7a4_77 : decode cJ6_numberOfTrailingZeros_0f7a4 77 = .ok (.iushr, 1) := by decide +kernel
theorem dJ6_numberOfTrailingZeros_0f7a4_78 : decode cJ6_numberOfTrailingZeros_0f7a4 78 = .ok (.iadd, 1) := by decide +kernel
theorem dJ6_numberOfTrailingZeros_0f7a4_79 : decode cJ6_numberOfTrailingZeros_0f7a4 79 = .ok (.ireturn, 1) := by decide +kernel
section
variable {p : Program} {l : Launch} {e : Env} {s : State} {m : MethodId} {args : Array Value} {below : List Frame} {meth : Method} {c : Code} {H : Heap} {locs : List Loc} {E : Ev} {S V : St} {ls : Array Slot}
set_option maxRecDepth 20000 in
theorem w_In_numberOfTrailingZeros_b74 {l0 : Int32} {l1 : Int32} {r : Int32} (C : Cx p s m args meth c E cJ6_numberOfTrailingZeros_0f7a4 2 RJ6 (some .int)) (hw : Wd E (wX V E) s.heap S H locs) (hl : lv_has ls 2 [(0, .int l0), (1, .int l1)]) (hf : In_numberOfTrailingZeros_b74 S l0 l1 = some r) : W p l e (rmh 1) s m args below meth c H locs 0 0 (MQ below (QW E (wX V E) (some (.int r)) S) args s 0 0 (eA E)) (F0 m 74 ls []) := by
  have hx := C.1
  have hb := C.2.1
  unfold In_numberOfTrailingZeros_b74 at hf
  refine lv_iload_n hx hb dJ6_numberOfTrailingZeros_0f7a4_74 rfl (lv_at hl 1 rfl) ?_
  refine lv_iload_n hx hb dJ6_numberOfTrailingZeros_0f7a4_75 rfl (lv_at hl 0 rfl) ?_
  refine lv_iconst (v := 1) hx hb dJ6_numberOfTrailingZeros_0f7a4_76 kc_1 ?_
  refine lv_iushr hx hb dJ6_numberOfTrailingZeros_0f7a4_77 rfl ?_
  refine lv_iadd hx hb dJ6_numberOfTrailingZeros_0f7a4_78 ?_
  exact ret_i C hw dJ6_numberOfTrailingZeros_0f7a4_79 hf
set_option maxRecDepth 20000 in
theorem w_In_numberOfTrailingZeros_b62 {l0 : Int32} {l1 : Int32} {r : Int32} (C : Cx p s m args meth c E cJ6_numberOfTrailingZeros_0f7a4 2 RJ6 (some .int)) (hw : Wd E (wX V E) s.heap S H locs) (hl : lv_has ls 2 [(0, .int l0), (1, .int l1)]) (hf : In_numberOfTrailingZeros_b62 S l0 l1 = some r) : W p l e (rmh 1) s m args below meth c H locs 0 0 (MQ below (QW E (wX V E) (some (.int r)) S) args s 0 0 (eA E)) (F0 m 62 ls []) := by
  have hx := C.1
  have hb := C.2.1
  unfold In_numberOfTrailingZeros_b62 at hf
  refine lv_iload_n hx hb dJ6_numberOfTrailingZeros_0f7a4_62 rfl (lv_at hl 0 rfl) ?_
  refine lv_iconst (v := 4) hx hb dJ6_numberOfTrailingZeros_0f7a4_63 kc_4 ?_
  refine lv_icmp_le (tgt := 74) hx hb dJ6_numberOfTrailingZeros_0f7a4_64 (by decide) (fun q => ?_) (fun q => ?_)
  · have hf := hf_t q hf
    exact w_In_numberOfTrailingZeros_b74 C hw (lv_sub hl [0, 1] rfl) hf
  · have hf := hf_f q hf
    obtain ⟨x1, ex1, hf⟩ := nme hf
    refine lv_iinc (v := x1) (lv' := [(1, .int x1), (0, .int l0)]) hx hb dJ6_numberOfTrailingZeros_0f7a4_67 hl (k := 1) rfl (ki_2 ex1) (by decide) rfl (fun ls hl => ?_)
    refine lv_iload_n hx hb dJ6_numberOfTrailingZeros_0f7a4_70 rfl (lv_at hl 1 rfl) ?_
    refine lv_iconst (v := 2) hx hb dJ6_numberOfTrailingZeros_0f7a4_71 kc_2 ?_
    refine lv_iushr hx hb dJ6_numberOfTrailingZeros_0f7a4_72 rfl ?_
    refine nm_i hf (fun x2 hf => ?_)
    refine lv_istore_n (lv' := [(0, .int x2), (1, .int x1)]) hx hb dJ6_numberOfTrailingZeros_0f7a4_73 rfl hl (by decide) rfl (fun ls hl => ?_)
    exact w_In_numberOfTrailingZeros_b74 C hw (lv_sub hl [0, 1] rfl) hf
set_option maxRecDepth 20000 in
theorem w_In_numberOfTrailingZeros_b49 {l0 : Int32} {l1 : Int32} {r : Int32} (C : Cx p s m args meth c E cJ6_numberOfTrailingZeros_0f7a4 2 RJ6 (some .int)) (hw : Wd E (wX V E) s.heap S H locs) (hl : lv_has ls 2 [(0, .int l0), (1, .int l1)]) (hf : In_numberOfTrailingZeros_b49 S l0 l1 = some r) : W p l e (rmh 1) s m args below meth c H locs 0 0 (MQ below (QW E (wX V E) (some (.int r)) S) args s 0 0 (eA E)) (F0 m 49 ls []) := by
  have hx := C.1
  have hb := C.2.1
  unfold In_numberOfTrailingZeros_b49 at hf
  refine lv_iload_n hx hb dJ6_numberOfTrailingZeros_0f7a4_49 rfl (lv_at hl 0 rfl) ?_
  refine lv_bipush (v := 16) hx hb dJ6_numberOfTrailingZeros_0f7a4_50 kb_16 ?_
  refine lv_icmp_le (tgt := 62) hx hb dJ6_numberOfTrailingZeros_0f7a4_52 (by decide) (fun q => ?_) (fun q => ?_)
  · have hf := hf_t q hf
    exact w_In_numberOfTrailingZeros_b62 C hw (lv_sub hl [0, 1] rfl) hf
  · have hf := hf_f q hf
    obtain ⟨x1, ex1, hf⟩ := nme hf
    refine lv_iinc (v := x1) (lv' := [(1, .int x1), (0, .int l0)]) hx hb dJ6_numberOfTrailingZeros_0f7a4_55 hl (k := 1) rfl (ki_4 ex1) (by decide) rfl (fun ls hl => ?_)
    refine lv_iload_n hx hb dJ6_numberOfTrailingZeros_0f7a4_58 rfl (lv_at hl 1 rfl) ?_
    refine lv_iconst (v := 4) hx hb dJ6_numberOfTrailingZeros_0f7a4_59 kc_4 ?_
    refine lv_iushr hx hb dJ6_numberOfTrailingZeros_0f7a4_60 rfl ?_
    refine nm_i hf (fun x2 hf => ?_)
    refine lv_istore_n (lv' := [(0, .int x2), (1, .int x1)]) hx hb dJ6_numberOfTrailingZeros_0f7a4_61 rfl hl (by decide) rfl (fun ls hl => ?_)
    exact w_In_numberOfTrailingZeros_b62 C hw (lv_sub hl [0, 1] rfl) hf
set_option maxRecDepth 20000 in
theorem w_In_numberOfTrailingZeros_b34 {l0 : Int32} {l1 : Int32} {r : Int32} (C : Cx p s m args meth c E cJ6_numberOfTrailingZeros_0f7a4 2 RJ6 (some .int)) (hw : Wd E (wX V E) s.heap S H locs) (hl : lv_has ls 2 [(0, .int l0), (1, .int l1)]) (hf : In_numberOfTrailingZeros_b34 S l0 l1 = some r) : W p l e (rmh 1) s m args below meth c H locs 0 0 (MQ below (QW E (wX V E) (some (.int r)) S) args s 0 0 (eA E)) (F0 m 34 ls []) := by
  have hx := C.1
  have hb := C.2.1
  unfold In_numberOfTrailingZeros_b34 at hf
  refine lv_iload_n hx hb dJ6_numberOfTrailingZeros_0f7a4_34 rfl (lv_at hl 0 rfl) ?_
  refine lv_sipush (v := 256) hx hb dJ6_numberOfTrailingZeros_0f7a4_35 ks_256 ?_
  refine lv_icmp_le (tgt := 49) hx hb dJ6_numberOfTrailingZeros_0f7a4_38 (by decide) (fun q => ?_) (fun q => ?_)
  · have hf := hf_t q hf
    exact w_In_numberOfTrailingZeros_b49 C hw (lv_sub hl [0, 1] rfl) hf
  · have hf := hf_f q hf
    obtain ⟨x1, ex1, hf⟩ := nme hf
    refine lv_iinc (v := x1) (lv' := [(1, .int x1), (0, .int l0)]) hx hb dJ6_numberOfTrailingZeros_0f7a4_41 hl (k := 1) rfl (ki_8 ex1) (by decide) rfl (fun ls hl => ?_)
    refine lv_iload_n hx hb dJ6_numberOfTrailingZeros_0f7a4_44 rfl (lv_at hl 1 rfl) ?_
    refine lv_bipush (v := 8) hx hb dJ6_numberOfTrailingZeros_0f7a4_45 kb_8 ?_
    refine lv_iushr hx hb dJ6_numberOfTrailingZeros_0f7a4_47 rfl ?_
    refine nm_i hf (fun x2 hf => ?_)
    refine lv_istore_n (lv' := [(0, .int x2), (1, .int x1)]) hx hb dJ6_numberOfTrailingZeros_0f7a4_48 rfl hl (by decide) rfl (fun ls hl => ?_)
    exact w_In_numberOfTrailingZeros_b49 C hw (lv_sub hl [0, 1] rfl) hf
set_option maxRecDepth 20000 in
theorem w_In_numberOfTrailingZeros {p1 : Int32} {r : Int32} (C : Cx p s m args meth c E cJ6_numberOfTrailingZeros_0f7a4 2 RJ6 (some .int)) (hw : Wd E (wX V E) s.heap S H locs) (hl : lv_has ls 2 [(0, .int p1)]) (hf : In_numberOfTrailingZeros S p1 = some r) : W p l e (rmh 1) s m args below meth c H locs 0 0 (MQ below (QW E (wX V E) (some (.int r)) S) args s 0 0 (eA E)) (F0 m 0 ls []) := by
  have hx := C.1
  have hb := C.2.1
  unfold In_numberOfTrailingZeros at hf
  refine lv_iload_n hx hb dJ6_numberOfTrailingZeros_0f7a4_0 rfl (lv_at hl 0 rfl) ?_
  refine lv_iconst (v := -1) hx hb dJ6_numberOfTrailingZeros_0f7a4_1 kc_m1 ?_
  refine lv_ixor hx hb dJ6_numberOfTrailingZeros_0f7a4_2 ?_
  refine lv_iload_n hx hb dJ6_numberOfTrailingZeros_0f7a4_3 rfl (lv_at hl 0 rfl) ?_
  refine lv_iconst (v := 1) hx hb dJ6_numberOfTrailingZeros_0f7a4_4 kc_1 ?_
  refine lv_isub hx hb dJ6_numberOfTrailingZeros_0f7a4_5 ?_
  refine lv_iand hx hb dJ6_numberOfTrailingZeros_0f7a4_6 ?_
  refine nm_i hf (fun x1 hf => ?_)
  refine lv_istore_n (lv' := [(0, .int x1)]) hx hb dJ6_numberOfTrailingZeros_0f7a4_7 rfl hl (by decide) rfl (fun ls hl => ?_)
  refine lv_iload_n hx hb dJ6_numberOfTrailingZeros_0f7a4_8 rfl (lv_at hl 0 rfl) ?_
  refine lv_if_gt (tgt := 17) hx hb dJ6_numberOfTrailingZeros_0f7a4_9 (by decide) (fun q => ?_) (fun q => ?_)
  · have hf := hf_t q hf
    refine lv_iconst (v := 1) hx hb dJ6_numberOfTrailingZeros_0f7a4_17 kc_1 ?_
    refine lv_istore_n (lv' := [(1, .int (1 : Int32)), (0, .int x1)]) hx hb dJ6_numberOfTrailingZeros_0f7a4_18 rfl hl (by decide) rfl (fun ls hl => ?_)
    refine lv_iload_n hx hb dJ6_numberOfTrailingZeros_0f7a4_19 rfl (lv_at hl 1 rfl) ?_
    refine lv_ldcw (v := 65536) hx hb C.2.2.2.1 (C.2.2.2.2.1 _ q_909) dJ6_numberOfTrailingZeros_0f7a4_20 ?_
    refine lv_icmp_le (tgt := 34) hx hb dJ6_numberOfTrailingZeros_0f7a4_23 (by decide) (fun q => ?_) (fun q => ?_)
    · have hf := hf_t q hf
      exact w_In_numberOfTrailingZeros_b34 C hw (lv_sub hl [1, 0] rfl) hf
    · have hf := hf_f q hf
      obtain ⟨x2, ex2, hf⟩ := nme hf
      refine lv_iinc (v := x2) (lv' := [(1, .int x2), (0, .int x1)]) hx hb dJ6_numberOfTrailingZeros_0f7a4_26 hl (k := 0) rfl (ki_16 ex2) (by decide) rfl (fun ls hl => ?_)
      refine lv_iload_n hx hb dJ6_numberOfTrailingZeros_0f7a4_29 rfl (lv_at hl 1 rfl) ?_
      refine lv_bipush (v := 16) hx hb dJ6_numberOfTrailingZeros_0f7a4_30 kb_16 ?_
      refine lv_iushr hx hb dJ6_numberOfTrailingZeros_0f7a4_32 rfl ?_
      refine nm_i hf (fun x3 hf => ?_)
      refine lv_istore_n (lv' := [(0, .int x3), (1, .int x2)]) hx hb dJ6_numberOfTrailingZeros_0f7a4_33 rfl hl (by decide) rfl (fun ls hl => ?_)
      exact w_In_numberOfTrailingZeros_b34 C hw (lv_sub hl [0, 1] rfl) hf
  · have hf := hf_f q hf
    refine lv_iload_n hx hb dJ6_numberOfTrailingZeros_0f7a4_12 rfl (lv_at hl 0 rfl) ?_
    refine lv_bipush (v := 32) hx hb dJ6_numberOfTrailingZeros_0f7a4_13 kb_32 ?_
    refine lv_iand hx hb dJ6_numberOfTrailingZeros_0f7a4_15 ?_
    exact ret_i C hw dJ6_numberOfTrailingZeros_0f7a4_16 hf
end
theorem t_In_numberOfTrailingZeros {l : Launch} {V : St} {S : St} {p1 : Int32} {r : Int32} (hf : In_numberOfTrailingZeros S p1 = some r) : Ct l (wX V) yJ6_numberOfTrailingZeros_0f7a4 cJ6_numberOfTrailingZeros_0f7a4 2 (some .int) 1 (fun E => [.int p1]) S (fun E => some (.int r)) S :=
  ofBlock (by decide +kernel) (fun _ => Nat.le_of_ble_eq_true rfl) (fun E p e s m args below meth c ls C hw hl => w_In_numberOfTrailingZeros C hw hl hf)
