theorem dX8_numberOf_0 : decode cX8_numberOf 0 = .ok (.aload_n 0, 1) := by decide +kernel
theorem dX8_numberOf_1 : decode cX8_numberOf 1 = .ok (.iload_n 2, 1) := by decide +kernel
theorem dX8_numberOf_2 : decode cX8_numberOf 2 = .ok (.invokevirtual 60, 3) := by decide +kernel
theorem dX8_numberOf_5 : decode cX8_numberOf 5 = .ok (.iload_n 1, 1) := by decide +kernel
theorem dX8_numberOf_6 : decode cX8_numberOf 6 = .ok (.iaload, 1) := by decide +kernel
theorem dX8_numberOf_7 : decode cX8_numberOf 7 = .ok (.ireturn, 1) := by decide +kernel
section
variable {p : Program} {l : Launch} {e : Env} {s : State} {m : MethodId} {args : Array Value} {below : List Frame} {meth : Method} {c : Code} {H : Heap} {locs : List Loc} {E : Ev} {S V : St} {ls : Array Slot}
set_option maxRecDepth 20000 in
theorem w_Sm_numberOf {p1 : Int32} {p2 : Int32} {r : Int32} (C : Cx p s m args meth c E cX8_numberOf 3 RX8 (some .int)) (hw : Wd E (wX V E) s.heap S H locs) (hl : lv_has ls 3 [(0, .ref (ea E 1)), (1, .int p1), (2, .int p2)]) (hf : Sm_numberOf S p1 p2 = some r) : W p l e (rmh 2) s m args below meth c H locs 0 0 (MQ below (QW E (wX V E) (some (.int r)) S) args s 0 0 (eA E)) (F0 m 0 ls []) := by
  have hx := C.1
  have hb := C.2.1
  unfold Sm_numberOf at hf
  refine lv_aload_n hx hb dX8_numberOf_0 rfl (lv_at hl 0 rfl) ?_
  refine lv_iload_n hx hb dX8_numberOf_1 rfl (lv_at hl 2 rfl) ?_
  obtain ⟨r1, hr, hf⟩ := hf_1 hf
  refine inv_Va (q0 := 1) (ci := 8) (As := [.int p2]) lk_X8_60 C hw rfl rfl rfl (t_Sm_rowOf hr) rfl hl.1 dX8_numberOf_2 rfl (Nat.le_of_ble_eq_true rfl) (by decide) (Nat.le_of_ble_eq_true rfl) rfl (fun H locs hw => ?_)
  refine lv_iload_n hx hb dX8_numberOf_5 rfl (lv_at hl 1 rfl) ?_
  obtain ⟨hc0, hf⟩ := hf_ck hf
  obtain ⟨hc, hf⟩ := hf_ck hf
  refine ldI C hw hc0 hc dX8_numberOf_6 ?_
  exact ret_i C hw dX8_numberOf_7 hf
end
theorem t_Sm_numberOf {l : Launch} {V : St} {S : St} {p1 : Int32} {p2 : Int32} {r : Int32} (hf : Sm_numberOf S p1 p2 = some r) : Ct l (wX V) yX8_numberOf cX8_numberOf 3 (some .int) 2 (fun E => [.ref (ea E 1), .int p1, .int p2]) S (fun E => some (.int r)) S :=
  ofBlock (by decide +kernel) (fun _ => Nat.le_of_ble_eq_true rfl) (fun E p e s m args below meth c ls C hw hl => w_Sm_numberOf C hw hl hf)
theorem dX9_eachLessOneFits_0 : decode cX9_eachLessOneFits 0 = .ok (.iconst 0, 1) := by decide +kernel
theorem dX9_eachLessOneFits_1 : decode cX9_eachLessOneFits 1 = .ok (.istore_n 2, 1) := by decide +kernel
theorem dX9_eachLessOneFits_2 : decode cX9_eachLessOneFits 2 = .ok (.iload_n 2, 1) := by decide +kernel
theorem dX9_eachLessOneFits_3 : decode cX9_eachLessOneFits 3 = .ok (.aload_n 0, 1) := by decide +kernel
theorem dX9_eachLessOneFits_4 : decode cX9_eachLessOneFits 4 = .ok (.getfield 15, 3) := by decide +kernel
theorem dX9_eachLessOneFits_7 : decode cX9_eachLessOneFits 7 = .ok (.getfield 43, 3) := by decide +kernel
theorem dX9_eachLessOneFits_10 : decode cX9_eachLessOneFits 10 = .ok (.if_icmp .ge 32, 3) := by decide +kernel
theorem dX9_eachLessOneFits_13 : decode cX9_eachLessOneFits 13 = .ok (.iload_n 1, 1) := by decide +kernel
theorem dX9_eachLessOneFits_14 : decode cX9_eachLessOneFits 14 = .ok (.iload_n 2, 1) := by decide +kernel
theorem dX9_eachLessOneFits_15 : decode cX9_eachLessOneFits 15 = .ok (.invokestatic 49, 3) := by decide +kernel
theorem dX9_eachLessOneFits_18 : decode cX9_eachLessOneFits 18 = .ok (.ifCond .eq 18, 3) := by decide +kernel
theorem dX9_eachLessOneFits_21 : decode cX9_eachLessOneFits 21 = .ok (.aload_n 0, 1) := by decide +kernel
theorem dX9_eachLessOneFits_22 : decode cX9_eachLessOneFits 22 = .ok (.getfield 9, 3) := by decide +kernel
theorem dX9_eachLessOneFits_25 : decode cX9_eachLessOneFits 25 = .ok (.iload_n 1, 1) := by decide +kernel
theorem dX9_eachLessOneFits_26 : decode cX9_eachLessOneFits 26 = .ok (.iconst 1, 1) := by decide +kernel
theorem dX9_eachLessOneFits_27 : decode cX9_eachLessOneFits 27 = .ok (.iload_n 2, 1) := by decide +kernel
theorem dX9_eachLessOneFits_28 : decode cX9_eachLessOneFits 28 = .ok (.ishl, 1) := by decide +kernel
theorem dX9_eachLessOneFits_29 : decode cX9_eachLessOneFits 29 = .ok (.ixor, 1) := by decide +kernel
theorem dX9_eachLessOneFits_30 : decode cX9_eachLessOneFits 30 = .ok (.baload, 1) := by decide +kernel
theorem dX9_eachLessOneFits_31 : decode cX9_eachLessOneFits 31 = .ok (.ifCond .ne 5, 3) := by decide +kernel
theorem dX9_eachLessOneFits_34 : decode cX9_eachLessOneFits 34 = .ok (.iconst 0, 1) := by decide +kernel
theorem dX9_eachLessOneFits_35 : decode cX9_eachLessOneFits 35 = .ok (.ireturn, 1) := by decide +kernel
theorem dX9_eachLessOneFits_36 : decode cX9_eachLessOneFits 36 = .ok (.iinc 2 1, 3) := by decide +kernel
theorem dX9_eachLessOneFits_39 : decode cX9_eachLessOneFits 39 = .ok (.goto (-37), 3) := by decide +kernel
theorem dX9_eachLessOneFits_42 : decode cX9_eachLessOneFits 42 = .ok (.iconst 1, 1) := by decide +kernel
theorem dX9_eachLessOneFits_43 : decode cX9_eachLessOneFits 43 = .ok (.ireturn, 1) := by decide +kernel
section
variable {p : Program} {l : Launch} {e : Env} {s : State} {m : MethodId} {args : Array Value} {below : List Frame} {meth : Method} {c : Code} {H : Heap} {locs : List Loc} {E : Ev} {S V : St} {ls : Array Slot}
set_option maxRecDepth 20000 in
theorem w_Wk_eachLessOneFits_b2 {N : Nat} {k2 : (Int32) → Option Int32} {l1 : Int32} {l2 : Int32} {r : Int32} (C : Cx p s m args meth c E cX9_eachLessOneFits 3 RX9 (some .boolean)) (hk2 : ∀ x, k2 x = some r → ∀ (H : Heap) (locs : List Loc) (ls : Array Slot), Wd E (wX V E) s.heap S H locs → lv_has ls 3 [(0, .ref (ea E 5)), (1, .int l1), (2, .int x)] → W p l e (rmh 2) s m args below meth c H locs 0 0 (MQ below (QW E (wX V E) (some (.int r)) S) args s 0 0 (eA E)) (F0 m 2 ls [])) (hw : Wd E (wX V E) s.heap S H locs) (hl : lv_has ls 3 [(0, .ref (ea E 5)), (1, .int l1), (2, .int l2)]) (hf : Wk_eachLessOneFits_b2 N k2 S l1 l2 = some r) : W p l e (rmh 2) s m args below meth c H locs 0 0 (MQ below (QW E (wX V E) (some (.int r)) S) args s 0 0 (eA E)) (F0 m 2 ls []) := by
  have hx := C.1
  have hb := C.2.1
  unfold Wk_eachLessOneFits_b2 at hf
  refine lv_iload_n hx hb dX9_eachLessOneFits_2 rfl (lv_at hl 2 rfl) ?_
  refine lv_aload_n hx hb dX9_eachLessOneFits_3 rfl (lv_at hl 0 rfl) ?_
  refine get_5_0 C hw q_318 dX9_eachLessOneFits_4 ?_
  refine get_1_10 C hw q_141 dX9_eachLessOneFits_7 ?_
  refine lv_icmp_ge (tgt := 42) hx hb dX9_eachLessOneFits_10 (by decide) (fun q => ?_) (fun q => ?_)
  · have hf := hf_t q hf
    refine lv_iconst (v := 1) hx hb dX9_eachLessOneFits_42 kc_1 ?_
    exact ret_z rfl C hw dX9_eachLessOneFits_43 hf
  · have hf := hf_f q hf
    refine lv_iload_n hx hb dX9_eachLessOneFits_13 rfl (lv_at hl 1 rfl) ?_
    refine lv_iload_n hx hb dX9_eachLessOneFits_14 rfl (lv_at hl 2 rfl) ?_
    obtain ⟨r1, hr, hf⟩ := hf_1 hf
    refine inv_Ni (As := [.int l1, .int l2]) lk_X9_49 C hw (t_Ch_isIn hr) hl.1 dX9_eachLessOneFits_15 rfl (Nat.le_of_ble_eq_true rfl) (by decide) (Nat.le_of_ble_eq_true rfl) rfl (fun H locs hw => ?_)
    refine lv_if_eq (tgt := 36) hx hb dX9_eachLessOneFits_18 (by decide) (fun q => ?_) (fun q => ?_)
    · have hf := hf_t q hf
      obtain ⟨x2, ex2, hf⟩ := nme hf
      refine lv_iinc (v := x2) (lv' := [(2, .int x2), (0, .ref (ea E 5)), (1, .int l1)]) hx hb dX9_eachLessOneFits_36 hl (k := 2) rfl (ki_1 ex2) (by decide) rfl (fun ls hl => ?_)
      refine lv_goto (tgt := 2) hx hb dX9_eachLessOneFits_39 (by decide) ?_
      exact hk2 _ hf _ _ _ hw (lv_sub hl [1, 2, 0] rfl)
    · have hf := hf_f q hf
      refine lv_aload_n hx hb dX9_eachLessOneFits_21 rfl (lv_at hl 0 rfl) ?_
      refine get_5_1 C hw q_319 dX9_eachLessOneFits_22 ?_
      refine lv_iload_n hx hb dX9_eachLessOneFits_25 rfl (lv_at hl 1 rfl) ?_
      refine lv_iconst (v := 1) hx hb dX9_eachLessOneFits_26 kc_1 ?_
      refine lv_iload_n hx hb dX9_eachLessOneFits_27 rfl (lv_at hl 2 rfl) ?_
      refine lv_ishl hx hb dX9_eachLessOneFits_28 ?_
      refine lv_ixor hx hb dX9_eachLessOneFits_29 ?_
      obtain ⟨hc, hf⟩ := hf_ck hf
      refine ld_28 C hw hc dX9_eachLessOneFits_30 ?_
      refine lv_if_ne (tgt := 36) hx hb dX9_eachLessOneFits_31 (by decide) (fun q => ?_) (fun q => ?_)
      · have hf := hf_f q hf
        obtain ⟨x3, ex3, hf⟩ := nme hf
        refine lv_iinc (v := x3) (lv' := [(2, .int x3), (0, .ref (ea E 5)), (1, .int l1)]) hx hb dX9_eachLessOneFits_36 hl (k := 2) rfl (ki_1 ex3) (by decide) rfl (fun ls hl => ?_)
        refine lv_goto (tgt := 2) hx hb dX9_eachLessOneFits_39 (by decide) ?_
        exact hk2 _ hf _ _ _ hw (lv_sub hl [1, 2, 0] rfl)
      · have hf := hf_t q hf
        refine lv_iconst (v := 0) hx hb dX9_eachLessOneFits_34 kc_0 ?_
        exact ret_z rfl C hw dX9_eachLessOneFits_35 hf
theorem w_Wk_eachLessOneFits_L2 {N : Nat} {l1 : Int32} {r : Int32} (C : Cx p s m args meth c E cX9_eachLessOneFits 3 RX9 (some .boolean)) : ∀ x, Wk_eachLessOneFits_L2 N S l1 x = some r → ∀ (H : Heap) (locs : List Loc) (ls : Array Slot), Wd E (wX V E) s.heap S H locs → lv_has ls 3 [(0, .ref (ea E 5)), (1, .int l1), (2, .int x)] → W p l e (rmh 2) s m args below meth c H locs 0 0 (MQ below (QW E (wX V E) (some (.int r)) S) args s 0 0 (eA E)) (F0 m 2 ls []) :=
  lp_W (fun k x hk hf H locs ls hw hl => w_Wk_eachLessOneFits_b2 C hk hw hl hf) N
set_option maxRecDepth 20000 in
theorem w_Wk_eachLessOneFits {N : Nat} {p1 : Int32} {r : Int32} (C : Cx p s m args meth c E cX9_eachLessOneFits 3 RX9 (some .boolean)) (hw : Wd E (wX V E) s.heap S H locs) (hl : lv_has ls 3 [(0, .ref (ea E 5)), (1, .int p1)]) (hf : Wk_eachLessOneFits N S p1 = some r) : W p l e (rmh 2) s m args below meth c H locs 0 0 (MQ below (QW E (wX V E) (some (.int r)) S) args s 0 0 (eA E)) (F0 m 0 ls []) := by
  have hx := C.1
  have hb := C.2.1
  unfold Wk_eachLessOneFits at hf
  refine lv_iconst (v := 0) hx hb dX9_eachLessOneFits_0 kc_0 ?_
  refine lv_istore_n (lv' := [(2, .int (0 : Int32)), (0, .ref (ea E 5)), (1, .int p1)]) hx hb dX9_eachLessOneFits_1 rfl hl (by decide) rfl (fun ls hl => ?_)
  exact w_Wk_eachLessOneFits_L2 C _ hf _ _ _ hw (lv_sub hl [1, 2, 0] rfl)
end
theorem t_Wk_eachLessOneFits {l : Launch} {V : St} {N : Nat} {S : St} {p1 : Int32} {r : Int32} (hf : Wk_eachLessOneFits N S p1 = some r) : Ct l (wX V) yX9_eachLessOneFits cX9_eachLessOneFits 3 (some .boolean) 2 (fun E => [.ref (ea E 5), .int p1]) S (fun E => some (.int r)) S :=
  ofBlock (by decide +kernel) (fun _ => Nat.le_of_ble_eq_true rfl) (fun E p e s m args below meth c ls C hw hl => w_Wk_eachLessOneFits C hw hl hf)
theorem dX9_hasDaysForAll_0 : decode cX9_hasDaysForAll 0 = .ok (.bipush 100, 2) := by decide +kernel
theorem dX9_hasDaysForAll_2 : decode cX9_hasDaysForAll 2 = .ok (.istore_n 2, 1) := by decide +kernel
theorem dX9_hasDaysForAll_3 : decode cX9_hasDaysForAll 3 = .ok (.iconst (-1), 1) := by decide +kernel
theorem dX9_hasDaysForAll_4 : decode cX9_hasDaysForAll 4 = .ok (.istore_n 3, 1) := by decide +kernel
theorem dX9_hasDaysForAll_5 : decode cX9_hasDaysForAll 5 = .ok (.iconst 0, 1) := by decide +kernel
theorem dX9_hasDaysForAll_6 : decode cX9_hasDaysForAll 6 = .ok (.istore 4, 2) := by decide +kernel
theorem dX9_hasDaysForAll_8 : decode cX9_hasDaysForAll 8 = .ok (.iconst 0, 1) := by decide +kernel
theorem dX9_hasDaysForAll_9 : decode cX9_hasDaysForAll 9 = .ok (.istore 5, 2) := by decide +kernel
theorem dX9_hasDaysForAll_11 : decode cX9_hasDaysForAll 11 = .ok (.iload 5, 2) := by decide +kernel
theorem dX9_hasDaysForAll_13 : decode cX9_hasDaysForAll 13 = .ok (.aload_n 0, 1) := by decide +kernel
theorem dX9_hasDaysForAll_14 : decode cX9_hasDaysForAll 14 = .ok (.getfield 15, 3) := by decide +kernel
theorem dX9_hasDaysForAll_17 : decode cX9_hasDaysForAll 17 = .ok (.getfield 43, 3) := by decide +kernel
theorem dX9_hasDaysForAll_20 : decode cX9_hasDaysForAll 20 = .ok (.if_icmp .ge 63, 3) := by decide +kernel
theorem dX9_hasDaysForAll_23 : decode cX9_hasDaysForAll 23 = .ok (.iload_n 1, 1) := by decide +kernel
theorem dX9_hasDaysForAll_24 : decode cX9_hasDaysForAll 24 = .ok (.iload 5, 2) := by decide +kernel
theorem dX9_hasDaysForAll_26 : decode cX9_hasDaysForAll 26 = .ok (.invokestatic 49, 3) := by decide +kernel
theorem dX9_hasDaysForAll_29 : decode cX9_hasDaysForAll 29 = .ok (.ifCond .eq 48, 3) := by decide +kernel
theorem dX9_hasDaysForAll_32 : decode cX9_hasDaysForAll 32 = .ok (.iload_n 2, 1) := by decide +kernel
theorem dX9_hasDaysForAll_33 : decode cX9_hasDaysForAll 33 = .ok (.aload_n 0, 1) := by decide +kernel
theorem dX9_hasDaysForAll_34 : decode cX9_hasDaysForAll 34 = .ok (.getfield 15, 3) := by decide +kernel
theorem dX9_hasDaysForAll_37 : decode cX9_hasDaysForAll 37 = .ok (.getfield 52, 3) := by decide +kernel
theorem dX9_hasDaysForAll_40 : decode cX9_hasDaysForAll 40 = .ok (.iload 5, 2) := by decide +kernel
theorem dX9_hasDaysForAll_42 : decode cX9_hasDaysForAll 42 = .ok (.iaload, 1) := by decide +kernel
theorem dX9_hasDaysForAll_43 : decode cX9_hasDaysForAll 43 = .ok (.invokestatic 56, 3) := by decide +kernel
theorem dX9_hasDaysForAll_46 : decode cX9_hasDaysForAll 46 = .ok (.istore_n 2, 1) := by decide +kernel
theorem dX9_hasDaysForAll_47 : decode cX9_hasDaysForAll 47 = .ok (.iload_n 3, 1) := by decide +kernel
theorem dX9_hasDaysForAll_48 : decode cX9_hasDaysForAll 48 = .ok (.aload_n 0, 1) := by decide +kernel
theorem dX9_hasDaysForAll_49 : decode cX9_hasDaysForAll 49 = .ok (.getfield 15, 3) := by decide +kernel
theorem dX9_hasDaysForAll_52 : decode cX9_hasDaysForAll 52 = .ok (.getfield 62, 3) := by decide +kernel
theorem dX9_hasDaysForAll_55 : decode cX9_hasDaysForAll 55 = .ok (.iload 5, 2) := by decide +kernel
theorem dX9_hasDaysForAll_57 : decode cX9_hasDaysForAll 57 = .ok (.iaload, 1) := by decide +kernel
theorem dX9_hasDaysForAll_58 : decode cX9_hasDaysForAll 58 = .ok (.invokestatic 65, 3) := by decide +kernel
theorem dX9_hasDaysForAll_61 : decode cX9_hasDaysForAll 61 = .ok (.istore_n 3, 1) := by decide +kernel
theorem dX9_hasDaysForAll_62 : decode cX9_hasDaysForAll 62 = .ok (.iload 4, 2) := by decide +kernel
theorem dX9_hasDaysForAll_64 : decode cX9_hasDaysForAll 64 = .ok (.aload_n 0, 1) := by decide +kernel
theorem dX9_hasDaysForAll_65 : decode cX9_hasDaysForAll 65 = .ok (.getfield 15, 3) := by decide +kernel
theorem dX9_hasDaysForAll_68 : decode cX9_hasDaysForAll 68 = .ok (.getfield 68, 3) := by decide +kernel
theorem dX9_hasDaysForAll_71 : decode cX9_hasDaysForAll 71 = .ok (.iload 5, 2) := by decide +kernel
theorem dX9_hasDaysForAll_73 : decode cX9_hasDaysForAll 73 = .ok (.iaload, 1) := by decide +kernel
theorem dX9_hasDaysForAll_74 : decode cX9_hasDaysForAll 74 = .ok (.iadd, 1) := by decide +kernel
theorem dX9_hasDaysForAll_75 : decode cX9_hasDaysForAll 75 = .ok (.istore 4, 2) := by decide +kernel
theorem dX9_hasDaysForAll_77 : decode cX9_hasDaysForAll 77 = .ok (.iinc 5 1, 3) := by decide +kernel
theorem dX9_hasDaysForAll_80 : decode cX9_hasDaysForAll 80 = .ok (.goto (-69), 3) := by decide +kernel
theorem dX9_hasDaysForAll_83 : decode cX9_hasDaysForAll 83 = .ok (.iload_n 1, 1) := by decide +kernel
theorem dX9_hasDaysForAll_84 : decode cX9_hasDaysForAll 84 = .ok (.ifCond .eq 13, 3) := by decide +kernel
theorem dX9_hasDaysForAll_87 : decode cX9_hasDaysForAll 87 = .ok (.iload 4, 2) := by decide +kernel
theorem dX9_hasDaysForAll_89 : decode cX9_hasDaysForAll 89 = .ok (.iload_n 3, 1) := by decide +kernel
theorem dX9_hasDaysForAll_90 : decode cX9_hasDaysForAll 90 = .ok (.iload_n 2, 1) := by decide +kernel
theorem dX9_hasDaysForAll_91 : decode cX9_hasDaysForAll 91 = .ok (.isub, 1) := by decide +kernel
theorem dX9_hasDaysForAll_92 : decode cX9_hasDaysForAll 92 = .ok (.iconst 1, 1) := by decide +kernel
theorem dX9_hasDaysForAll_93 : decode cX9_hasDaysForAll 93 = .ok (.iadd, 1) := by decide +kernel
theorem dX9_hasDaysForAll_94 : decode cX9_hasDaysForAll 94 = .ok (.if_icmp .gt 7, 3) := by decide +kernel
theorem dX9_hasDaysForAll_97 : decode cX9_hasDaysForAll 97 = .ok (.iconst 1, 1) := by decide +kernel
theorem dX9_hasDaysForAll_98 : decode cX9_hasDaysForAll 98 = .ok (.goto 4, 3) := by decide +kernel
theorem dX9_hasDaysForAll_101 : decode cX9_hasDaysForAll 101 = .ok (.iconst 0, 1) := by decide +kernel
theorem dX9_hasDaysForAll_102 : decode cX9_hasDaysForAll 102 = .ok (.ireturn, 1) := by decide +kernel
section
variable {p : Program} {l : Launch} {e : Env} {s : State} {m : MethodId} {args : Array Value} {below : List Frame} {meth : Method} {c : Code} {H : Heap} {locs : List Loc} {E : Ev} {S V : St} {ls : Array Slot}
set_option maxRecDepth 20000 in
theorem w_Wk_hasDaysForAll_b11 {N : Nat} {k11 : (Int32 × Int32 × Int32 × Int32) → Option Int32} {l1 : Int32} {l2 : Int32} {l3 : Int32} {l4 : Int32} {l5 : Int32} {r : Int32} (C : Cx p s m args meth c E cX9_hasDaysForAll 6 RX9 (some .boolean)) (hk11 : ∀ x, k11 x = some r → ∀ (H : Heap) (locs : List Loc) (ls : Array Slot), Wd E (wX V E) s.heap S H locs → lv_has ls 6 [(0, .ref (ea E 5)), (1, .int l1), (2, .int x.1), (3, .int x.2.1), (4, .int x.2.2.1), (5, .int x.2.2.2)] → W p l e (rmh 2) s m args below meth c H locs 0 0 (MQ below (QW E (wX V E) (some (.int r)) S) args s 0 0 (eA E)) (F0 m 11 ls [])) (hw : Wd E (wX V E) s.heap S H locs) (hl : lv_has ls 6 [(0, .ref (ea E 5)), (1, .int l1), (2, .int l2), (3, .int l3), (4, .int l4), (5, .int l5)]) (hf : Wk_hasDaysForAll_b11 N k11 S l1 l2 l3 l4 l5 = some r) : W p l e (rmh 2) s m args below meth c H locs 0 0 (MQ below (QW E (wX V E) (some (.int r)) S) args s 0 0 (eA E)) (F0 m 11 ls []) := by
  have hx := C.1
  have hb := C.2.1
  unfold Wk_hasDaysForAll_b11 at hf
  refine lv_iload hx hb dX9_hasDaysForAll_11 (lv_at hl 5 rfl) ?_
  refine lv_aload_n hx hb dX9_hasDaysForAll_13 rfl (lv_at hl 0 rfl) ?_
  refine get_5_0 C hw q_318 dX9_hasDaysForAll_14 ?_
  refine get_1_10 C hw q_141 dX9_hasDaysForAll_17 ?_
  refine lv_icmp_ge (tgt := 83) hx hb dX9_hasDaysForAll_20 (by decide) (fun q => ?_) (fun q => ?_)
  · have hf := hf_t q hf
    refine lv_iload_n hx hb dX9_hasDaysForAll_83 rfl (lv_at hl 1 rfl) ?_
    refine lv_if_eq (tgt := 97) hx hb dX9_hasDaysForAll_84 (by decide) (fun q => ?_) (fun q => ?_)
    · have hf := hf_t q hf
      refine lv_iconst (v := 1) hx hb dX9_hasDaysForAll_97 kc_1 ?_
      refine lv_goto (tgt := 102) hx hb dX9_hasDaysForAll_98 (by decide) ?_
      exact ret_z rfl C hw dX9_hasDaysForAll_102 hf
    · have hf := hf_f q hf
      refine lv_iload hx hb dX9_hasDaysForAll_87 (lv_at hl 4 rfl) ?_
      refine lv_iload_n hx hb dX9_hasDaysForAll_89 rfl (lv_at hl 3 rfl) ?_
      refine lv_iload_n hx hb dX9_hasDaysForAll_90 rfl (lv_at hl 2 rfl) ?_
      refine lv_isub hx hb dX9_hasDaysForAll_91 ?_
      refine lv_iconst (v := 1) hx hb dX9_hasDaysForAll_92 kc_1 ?_
      refine lv_iadd hx hb dX9_hasDaysForAll_93 ?_
      refine lv_icmp_gt (tgt := 101) hx hb dX9_hasDaysForAll_94 (by decide) (fun q => ?_) (fun q => ?_)
      · have hf := hf_t q hf
        refine lv_iconst (v := 0) hx hb dX9_hasDaysForAll_101 kc_0 ?_
        exact ret_z rfl C hw dX9_hasDaysForAll_102 hf
      · have hf := hf_f q hf
        refine lv_iconst (v := 1) hx hb dX9_hasDaysForAll_97 kc_1 ?_
        refine lv_goto (tgt := 102) hx hb dX9_hasDaysForAll_98 (by decide) ?_
        exact ret_z rfl C hw dX9_hasDaysForAll_102 hf
  · have hf := hf_f q hf
    refine lv_iload_n hx hb dX9_hasDaysForAll_23 rfl (lv_at hl 1 rfl) ?_
    refine lv_iload hx hb dX9_hasDaysForAll_24 (lv_at hl 5 rfl) ?_
    obtain ⟨r1, hr, hf⟩ := hf_1 hf
    refine inv_Ni (As := [.int l1, .int l5]) lk_X9_49 C hw (t_Ch_isIn hr) hl.1 dX9_hasDaysForAll_26 rfl (Nat.le_of_ble_eq_true rfl) (by decide) (Nat.le_of_ble_eq_true rfl) rfl (fun H locs hw => ?_)
    refine lv_if_eq (tgt := 77) hx hb dX9_hasDaysForAll_29 (by decide) (fun q => ?_) (fun q => ?_)
    · have hf := hf_t q hf
      obtain ⟨x2, ex2, hf⟩ := nme hf
      refine lv_iinc (v := x2) (lv' := [(5, .int x2), (0, .ref (ea E 5)), (1, .int l1), (2, .int l2), (3, .int l3), (4, .int l4)]) hx hb dX9_hasDaysForAll_77 hl (k := 5) rfl (ki_1 ex2) (by decide) rfl (fun ls hl => ?_)
      refine lv_goto (tgt := 11) hx hb dX9_hasDaysForAll_80 (by decide) ?_
      exact hk11 _ hf _ _ _ hw (lv_sub hl [1, 2, 3, 4, 5, 0] rfl)
    · have hf := hf_f q hf
      refine lv_iload_n hx hb dX9_hasDaysForAll_32 rfl (lv_at hl 2 rfl) ?_
      refine lv_aload_n hx hb dX9_hasDaysForAll_33 rfl (lv_at hl 0 rfl) ?_
      refine get_5_0 C hw q_318 dX9_hasDaysForAll_34 ?_
      refine get_1_4 C hw q_119 dX9_hasDaysForAll_37 ?_
      refine lv_iload hx hb dX9_hasDaysForAll_40 (lv_at hl 5 rfl) ?_
      obtain ⟨hc, hf⟩ := hf_ck hf
      refine ld_15 C hw hc dX9_hasDaysForAll_42 ?_
      obtain ⟨r3, hr, hf⟩ := hf_1 hf
      refine inv_Si (As := [.int l2, .int (gi S 15 l5.toNatClampNeg)]) lk_X9_56 C hw (t_Ma_min hr) hl.1 dX9_hasDaysForAll_43 rfl (Nat.le_of_ble_eq_true rfl) (by decide) (Nat.le_of_ble_eq_true rfl) rfl (fun H locs hw => ?_)
      refine lv_istore_n (lv' := [(2, .int r3), (0, .ref (ea E 5)), (1, .int l1), (3, .int l3), (4, .int l4), (5, .int l5)]) hx hb dX9_hasDaysForAll_46 rfl hl (by decide) rfl (fun ls hl => ?_)
      refine lv_iload_n hx hb dX9_hasDaysForAll_47 rfl (lv_at hl 3 rfl) ?_
      refine lv_aload_n hx hb dX9_hasDaysForAll_48 rfl (lv_at hl 1 rfl) ?_
      refine get_5_0 C hw q_318 dX9_hasDaysForAll_49 ?_
      refine get_1_5 C hw q_122 dX9_hasDaysForAll_52 ?_
      refine lv_iload hx hb dX9_hasDaysForAll_55 (lv_at hl 5 rfl) ?_
      obtain ⟨hc, hf⟩ := hf_ck hf
      refine ld_16 C hw hc dX9_hasDaysForAll_57 ?_
      obtain ⟨r4, hr, hf⟩ := hf_1 hf
      refine inv_Si (As := [.int l3, .int (gi S 16 l5.toNatClampNeg)]) lk_X9_65 C hw (t_Ma_max hr) hl.1 dX9_hasDaysForAll_58 rfl (Nat.le_of_ble_eq_true rfl) (by decide) (Nat.le_of_ble_eq_true rfl) rfl (fun H locs hw => ?_)
      refine lv_istore_n (lv' := [(3, .int r4), (2, .int r3), (0, .ref (ea E 5)), (1, .int l1), (4, .int l4), (5, .int l5)]) hx hb dX9_hasDaysForAll_61 rfl hl (by decide) rfl (fun ls hl => ?_)
      refine lv_iload hx hb dX9_hasDaysForAll_62 (lv_at hl 4 rfl) ?_
      refine lv_aload_n hx hb dX9_hasDaysForAll_64 rfl (lv_at hl 2 rfl) ?_
      refine get_5_0 C hw q_318 dX9_hasDaysForAll_65 ?_
      refine get_1_6 C hw q_127 dX9_hasDaysForAll_68 ?_
      refine lv_iload hx hb dX9_hasDaysForAll_71 (lv_at hl 5 rfl) ?_
      obtain ⟨hc, hf⟩ := hf_ck hf
      refine ld_17 C hw hc dX9_hasDaysForAll_73 ?_
      refine lv_iadd hx hb dX9_hasDaysForAll_74 ?_
      refine nm_i hf (fun x5 hf => ?_)
      refine lv_istore (lv' := [(4, .int x5), (3, .int r4), (2, .int r3), (0, .ref (ea E 5)), (1, .int l1), (5, .int l5)]) hx hb dX9_hasDaysForAll_75 hl (by decide) rfl (fun ls hl => ?_)
      obtain ⟨x6, ex6, hf⟩ := nme hf
      refine lv_iinc (v := x6) (lv' := [(5, .int x6), (4, .int x5), (3, .int r4), (2, .int r3), (0, .ref (ea E 5)), (1, .int l1)]) hx hb dX9_hasDaysForAll_77 hl (k := 5) rfl (ki_1 ex6) (by decide) rfl (fun ls hl => ?_)
      refine lv_goto (tgt := 11) hx hb dX9_hasDaysForAll_80 (by decide) ?_
      exact hk11 _ hf _ _ _ hw (lv_sub hl [4, 5, 3, 2, 1, 0] rfl)
theorem w_Wk_hasDaysForAll_L11 {N : Nat} {l1 : Int32} {r : Int32} (C : Cx p s m args meth c E cX9_hasDaysForAll 6 RX9 (some .boolean)) : ∀ x, Wk_hasDaysForAll_L11 N S l1 x = some r → ∀ (H : Heap) (locs : List Loc) (ls : Array Slot), Wd E (wX V E) s.heap S H locs → lv_has ls 6 [(0, .ref (ea E 5)), (1, .int l1), (2, .int x.1), (3, .int x.2.1), (4, .int x.2.2.1), (5, .int x.2.2.2)] → W p l e (rmh 2) s m args below meth c H locs 0 0 (MQ below (QW E (wX V E) (some (.int r)) S) args s 0 0 (eA E)) (F0 m 11 ls []) :=
  lp_W (fun k x hk hf H locs ls hw hl => w_Wk_hasDaysForAll_b11 C hk hw hl hf) N
set_option maxRecDepth 20000 in
theorem w_Wk_hasDaysForAll {N : Nat} {p1 : Int32} {r : Int32} (C : Cx p s m args meth c E cX9_hasDaysForAll 6 RX9 (some .boolean)) (hw : Wd E (wX V E) s.heap S H locs) (hl : lv_has ls 6 [(0, .ref (ea E 5)), (1, .int p1)]) (hf : Wk_hasDaysForAll N S p1 = some r) : W p l e (rmh 2) s m args below meth c H locs 0 0 (MQ below (QW E (wX V E) (some (.int r)) S) args s 0 0 (eA E)) (F0 m 0 ls []) := by
  have hx := C.1
  have hb := C.2.1
  unfold Wk_hasDaysForAll at hf
  refine lv_bipush (v := 100) hx hb dX9_hasDaysForAll_0 kb_100 ?_
  refine lv_istore_n (lv' := [(2, .int (100 : Int32)), (0, .ref (ea E 5)), (1, .int p1)]) hx hb dX9_hasDaysForAll_2 rfl hl (by decide) rfl (fun ls hl => ?_)
  refine lv_iconst (v := -1) hx hb dX9_hasDaysForAll_3 kc_m1 ?_
  refine lv_istore_n (lv' := [(3, .int (-1 : Int32)), (2, .int (100 : Int32)), (0, .ref (ea E 5)), (1, .int p1)]) hx hb dX9_hasDaysForAll_4 rfl hl (by decide) rfl (fun ls hl => ?_)
  refine lv_iconst (v := 0) hx hb dX9_hasDaysForAll_5 kc_0 ?_
  refine lv_istore (lv' := [(4, .int (0 : Int32)), (3, .int (-1 : Int32)), (2, .int (100 : Int32)), (0, .ref (ea E 5)), (1, .int p1)]) hx hb dX9_hasDaysForAll_6 hl (by decide) rfl (fun ls hl => ?_)
  refine lv_iconst (v := 0) hx hb dX9_hasDaysForAll_8 kc_0 ?_
  refine lv_istore (lv' := [(5, .int (0 : Int32)), (4, .int (0 : Int32)), (3, .int (-1 : Int32)), (2, .int (100 : Int32)), (0, .ref (ea E 5)), (1, .int p1)]) hx hb dX9_hasDaysForAll_9 hl (by decide) rfl (fun ls hl => ?_)
  exact w_Wk_hasDaysForAll_L11 C _ hf _ _ _ hw (lv_sub hl [4, 5, 3, 2, 1, 0] rfl)
end
theorem t_Wk_hasDaysForAll {l : Launch} {V : St} {N : Nat} {S : St} {p1 : Int32} {r : Int32} (hf : Wk_hasDaysForAll N S p1 = some r) : Ct l (wX V) yX9_hasDaysForAll cX9_hasDaysForAll 6 (some .boolean) 2 (fun E => [.ref (ea E 5), .int p1]) S (fun E => some (.int r)) S :=
  ofBlock (by decide +kernel) (fun _ => Nat.le_of_ble_eq_true rfl) (fun E p e s m args below meth c ls C hw hl => w_Wk_hasDaysForAll C hw hl hf)
theorem dX9_isSet_0 : decode cX9_isSet 0 = .ok (.iload_n 1, 1) := by decide +kernel
theorem dX9_isSet_1 : decode cX9_isSet 1 = .ok (.ifCond .lt 16, 3) := by decide +kernel
theorem dX9_isSet_4 : decode cX9_isSet 4 = .ok (.iload_n 1, 1) := by decide +kernel
theorem dX9_isSet_5 : decode cX9_isSet 5 = .ok (.aload_n 0, 1) := by decide +kernel
theorem dX9_isSet_6 : decode cX9_isSet 6 = .ok (.getfield 9, 3) := by decide +kernel
theorem dX9_isSet_9 : decode cX9_isSet 9 = .ok (.arraylength, 1) := by decide +kernel
theorem dX9_isSet_10 : decode cX9_isSet 10 = .ok (.if_icmp .ge 7, 3) := by decide +kernel
theorem dX9_isSet_13 : decode cX9_isSet 13 = .ok (.iconst 1, 1) := by decide +kernel
theorem dX9_isSet_14 : decode cX9_isSet 14 = .ok (.goto 4, 3) := by decide +kernel
theorem dX9_isSet_17 : decode cX9_isSet 17 = .ok (.iconst 0, 1) := by decide +kernel
theorem dX9_isSet_18 : decode cX9_isSet 18 = .ok (.ireturn, 1) := by decide +kernel
section
variable {p : Program} {l : Launch} {e : Env} {s : State} {m : MethodId} {args : Array Value} {below : List Frame} {meth : Method} {c : Code} {H : Heap} {locs : List Loc} {E : Ev} {S V : St} {ls : Array Slot}
set_option maxRecDepth 20000 in
theorem w_Wk_isSet {p1 : Int32} {r : Int32} (C : Cx p s m args meth c E cX9_isSet 2 RX9 (some .boolean)) (hw : Wd E (wX V E) s.heap S H locs) (hl : lv_has ls 2 [(0, .ref (ea E 5)), (1, .int p1)]) (hf : Wk_isSet S p1 = some r) : W p l e (rmh 1) s m args below meth c H locs 0 0 (MQ below (QW E (wX V E) (some (.int r)) S) args s 0 0 (eA E)) (F0 m 0 ls []) := by
  have hx := C.1
  have hb := C.2.1
  unfold Wk_isSet at hf
  refine lv_iload_n hx hb dX9_isSet_0 rfl (lv_at hl 1 rfl) ?_
  refine lv_if_lt (tgt := 17) hx hb dX9_isSet_1 (by decide) (fun q => ?_) (fun q => ?_)
  · have hf := hf_t q hf
    refine lv_iconst (v := 0) hx hb dX9_isSet_17 kc_0 ?_
    exact ret_z rfl C hw dX9_isSet_18 hf
  · have hf := hf_f q hf
    refine lv_iload_n hx hb dX9_isSet_4 rfl (lv_at hl 1 rfl) ?_
    refine lv_aload_n hx hb dX9_isSet_5 rfl (lv_at hl 0 rfl) ?_
    refine get_5_1 C hw q_319 dX9_isSet_6 ?_
    refine len_28 C hw dX9_isSet_9 ?_
    refine lv_icmp_ge (tgt := 17) hx hb dX9_isSet_10 (by decide) (fun q => ?_) (fun q => ?_)
    · have hf := hf_t q hf
      refine lv_iconst (v := 0) hx hb dX9_isSet_17 kc_0 ?_
      exact ret_z rfl C hw dX9_isSet_18 hf
    · have hf := hf_f q hf
      refine lv_iconst (v := 1) hx hb dX9_isSet_13 kc_1 ?_
      refine lv_goto (tgt := 18) hx hb dX9_isSet_14 (by decide) ?_
      exact ret_z rfl C hw dX9_isSet_18 hf
end
theorem t_Wk_isSet {l : Launch} {V : St} {S : St} {p1 : Int32} {r : Int32} (hf : Wk_isSet S p1 = some r) : Ct l (wX V) yX9_isSet cX9_isSet 2 (some .boolean) 1 (fun E => [.ref (ea E 5), .int p1]) S (fun E => some (.int r)) S :=
  ofBlock (by decide +kernel) (fun _ => Nat.le_of_ble_eq_true rfl) (fun E p e s m args below meth c ls C hw hl => w_Wk_isSet C hw hl hf)
theorem dX9_fillFits_0 : decode cX9_fillFits 0 = .ok (.iconst 0, 1) := by decide +kernel
theorem dX9_fillFits_1 : decode cX9_fillFits 1 = .ok (.istore_n 2, 1) := by decide +kernel
theorem dX9_fillFits_2 : decode cX9_fillFits 2 = .ok (.iload_n 2, 1) := by decide +kernel
theorem dX9_fillFits_3 : decode cX9_fillFits 3 = .ok (.iload_n 1, 1) := by decide +kernel
theorem dX9_fillFits_4 : decode cX9_fillFits 4 = .ok (.if_icmp .gt 52, 3) := by decide +kernel
theorem dX9_fillFits_7 : decode cX9_fillFits 7 = .ok (.aload_n 0, 1) := by decide +kernel
theorem dX9_fillFits_8 : decode cX9_fillFits 8 = .ok (.iload_n 2, 1) := by decide +kernel
theorem dX9_fillFits_9 : decode cX9_fillFits 9 = .ok (.invokevirtual 23, 3) := by decide +kernel
theorem dX9_fillFits_12 : decode cX9_fillFits 12 = .ok (.ifCond .eq 44, 3) := by decide +kernel
theorem dX9_fillFits_15 : decode cX9_fillFits 15 = .ok (.iload_n 2, 1) := by decide +kernel
theorem dX9_fillFits_16 : decode cX9_fillFits 16 = .ok (.iload_n 1, 1) := by decide +kernel
theorem dX9_fillFits_17 : decode cX9_fillFits 17 = .ok (.iconst (-1), 1) := by decide +kernel
theorem dX9_fillFits_18 : decode cX9_fillFits 18 = .ok (.ixor, 1) := by decide +kernel
theorem dX9_fillFits_19 : decode cX9_fillFits 19 = .ok (.iand, 1) := by decide +kernel
theorem dX9_fillFits_20 : decode cX9_fillFits 20 = .ok (.ifCond .ne 30, 3) := by decide +kernel
theorem dX9_fillFits_23 : decode cX9_fillFits 23 = .ok (.aload_n 0, 1) := by decide +kernel
theorem dX9_fillFits_24 : decode cX9_fillFits 24 = .ok (.getfield 9, 3) := by decide +kernel
theorem dX9_fillFits_27 : decode cX9_fillFits 27 = .ok (.iload_n 2, 1) := by decide +kernel
theorem dX9_fillFits_28 : decode cX9_fillFits 28 = .ok (.aload_n 0, 1) := by decide +kernel
theorem dX9_fillFits_29 : decode cX9_fillFits 29 = .ok (.iload_n 2, 1) := by decide +kernel
theorem dX9_fillFits_30 : decode cX9_fillFits 30 = .ok (.invokevirtual 37, 3) := by decide +kernel
theorem dX9_fillFits_33 : decode cX9_fillFits 33 = .ok (.ifCond .eq 15, 3) := by decide +kernel
theorem dX9_fillFits_36 : decode cX9_fillFits 36 = .ok (.aload_n 0, 1) := by decide +kernel
theorem dX9_fillFits_37 : decode cX9_fillFits 37 = .ok (.iload_n 2, 1) := by decide +kernel
theorem dX9_fillFits_38 : decode cX9_fillFits 38 = .ok (.invokevirtual 40, 3) := by decide +kernel
theorem dX9_fillFits_41 : decode cX9_fillFits 41 = .ok (.ifCond .eq 7, 3) := by decide +kernel
theorem dX9_fillFits_44 : decode cX9_fillFits 44 = .ok (.iconst 1, 1) := by decide +kernel
theorem dX9_fillFits_45 : decode cX9_fillFits 45 = .ok (.goto 4, 3) := by decide +kernel
theorem dX9_fillFits_48 : decode cX9_fillFits 48 = .ok (.iconst 0, 1) := by decide +kernel
theorem dX9_fillFits_49 : decode cX9_fillFits 49 = .ok (.bastore, 1) := by decide +kernel
theorem dX9_fillFits_50 : decode cX9_fillFits 50 = .ok (.iinc 2 1, 3) := by decide +kernel
theorem dX9_fillFits_53 : decode cX9_fillFits 53 = .ok (.goto (-51), 3) := by decide +kernel
theorem dX9_fillFits_56 : decode cX9_fillFits 56 = .ok (.return_, 1) := by decide +kernel
section
variable {p : Program} {l : Launch} {e : Env} {s : State} {m : MethodId} {args : Array Value} {below : List Frame} {meth : Method} {c : Code} {H : Heap} {locs : List Loc} {E : Ev} {S V : St} {ls : Array Slot}
set_option maxRecDepth 20000 in
theorem w_Wk_fillFits_b2 {N : Nat} {k2 : (St × Int32) → Option St} {l1 : Int32} {l2 : Int32} {S9 : St} (C : Cx p s m args meth c E cX9_fillFits 3 RX9 none) (hk2 : ∀ x, k2 x = some S9 → ∀ (H : Heap) (locs : List Loc) (ls : Array Slot), Wd E (wX V E) s.heap x.1 H locs → lv_has ls 3 [(0, .ref (ea E 5)), (1, .int l1), (2, .int x.2)] → W p l e (rmh 3) s m args below meth c H locs 0 0 (MQ below (QW E (wX V E) (none) S9) args s 0 0 (eA E)) (F0 m 2 ls [])) (hw : Wd E (wX V E) s.heap S H locs) (hl : lv_has ls 3 [(0, .ref (ea E 5)), (1, .int l1), (2, .int l2)]) (hf : Wk_fillFits_b2 N k2 S l1 l2 = some S9) : W p l e (rmh 3) s m args below meth c H locs 0 0 (MQ below (QW E (wX V E) (none) S9) args s 0 0 (eA E)) (F0 m 2 ls []) := by
  have hx := C.1
  have hb := C.2.1
  unfold Wk_fillFits_b2 at hf
  refine lv_iload_n hx hb dX9_fillFits_2 rfl (lv_at hl 2 rfl) ?_
  refine lv_iload_n hx hb dX9_fillFits_3 rfl (lv_at hl 1 rfl) ?_
  refine lv_icmp_gt (tgt := 56) hx hb dX9_fillFits_4 (by decide) (fun q => ?_) (fun q => ?_)
  · have hf := hf_t q hf
    exact ret_vS C hw dX9_fillFits_56 hf
  · have hf := hf_f q hf
    refine lv_aload_n hx hb dX9_fillFits_7 rfl (lv_at hl 0 rfl) ?_
    refine lv_iload_n hx hb dX9_fillFits_8 rfl (lv_at hl 2 rfl) ?_
    obtain ⟨r1, hr, hf⟩ := hf_1 hf
    refine inv_Vi (q0 := 5) (ci := 9) (As := [.int l2]) lk_X9_23 C hw rfl rfl rfl (t_Wk_isSet hr) rfl hl.1 dX9_fillFits_9 rfl (Nat.le_of_ble_eq_true rfl) (by decide) (Nat.le_of_ble_eq_true rfl) rfl (fun H locs hw => ?_)
    refine lv_if_eq (tgt := 56) hx hb dX9_fillFits_12 (by decide) (fun q => ?_) (fun q => ?_)
    · have hf := hf_t q hf
      exact ret_vS C hw dX9_fillFits_56 hf
    · have hf := hf_f q hf
      refine lv_iload_n hx hb dX9_fillFits_15 rfl (lv_at hl 2 rfl) ?_
      refine lv_iload_n hx hb dX9_fillFits_16 rfl (lv_at hl 1 rfl) ?_
      refine lv_iconst (v := -1) hx hb dX9_fillFits_17 kc_m1 ?_
      refine lv_ixor hx hb dX9_fillFits_18 ?_
      refine lv_iand hx hb dX9_fillFits_19 ?_
      refine lv_if_ne (tgt := 50) hx hb dX9_fillFits_20 (by decide) (fun q => ?_) (fun q => ?_)
      · have hf := hf_f q hf
        obtain ⟨x2, ex2, hf⟩ := nme hf
        refine lv_iinc (v := x2) (lv' := [(2, .int x2), (0, .ref (ea E 5)), (1, .int l1)]) hx hb dX9_fillFits_50 hl (k := 2) rfl (ki_1 ex2) (by decide) rfl (fun ls hl => ?_)
        refine lv_goto (tgt := 2) hx hb dX9_fillFits_53 (by decide) ?_
        exact hk2 _ hf _ _ _ hw (lv_sub hl [1, 2, 0] rfl)
      · have hf := hf_t q hf
        refine lv_aload_n hx hb dX9_fillFits_23 rfl (lv_at hl 0 rfl) ?_
        refine get_5_1 C hw q_319 dX9_fillFits_24 ?_
        refine lv_iload_n hx hb dX9_fillFits_27 rfl (lv_at hl 2 rfl) ?_
        refine lv_aload_n hx hb dX9_fillFits_28 rfl (lv_at hl 0 rfl) ?_
        refine lv_iload_n hx hb dX9_fillFits_29 rfl (lv_at hl 2 rfl) ?_
        obtain ⟨r3, hr, hf⟩ := hf_1 hf
        refine inv_Vi (q0 := 5) (ci := 9) (As := [.int l2]) lk_X9_37 C hw rfl rfl rfl (t_Wk_eachLessOneFits hr) rfl hl.1 dX9_fillFits_30 rfl (Nat.le_of_ble_eq_true rfl) (by decide) (Nat.le_of_ble_eq_true rfl) rfl (fun H locs hw => ?_)
        refine lv_if_eq (tgt := 48) hx hb dX9_fillFits_33 (by decide) (fun q => ?_) (fun q => ?_)
        · have hf := hf_t q hf
          refine lv_iconst (v := 0) hx hb dX9_fillFits_48 kc_0 ?_
          obtain ⟨hc, hf⟩ := hf_ck hf
          refine st_28 C hw hc (by decide) dX9_fillFits_49 (fun H locs hw => ?_)
          refine nm_S hf hw (fun S4 hf hw => ?_)
          obtain ⟨x5, ex5, hf⟩ := nme hf
          refine lv_iinc (v := x5) (lv' := [(2, .int x5), (0, .ref (ea E 5)), (1, .int l1)]) hx hb dX9_fillFits_50 hl (k := 2) rfl (ki_1 ex5) (by decide) rfl (fun ls hl => ?_)
          refine lv_goto (tgt := 2) hx hb dX9_fillFits_53 (by decide) ?_
          exact hk2 _ hf _ _ _ hw (lv_sub hl [1, 2, 0] rfl)
        · have hf := hf_f q hf
          refine lv_aload_n hx hb dX9_fillFits_36 rfl (lv_at hl 0 rfl) ?_
          refine lv_iload_n hx hb dX9_fillFits_37 rfl (lv_at hl 2 rfl) ?_
          obtain ⟨r6, hr, hf⟩ := hf_1 hf
          refine inv_Vi (q0 := 5) (ci := 9) (As := [.int l2]) lk_X9_40 C hw rfl rfl rfl (t_Wk_hasDaysForAll hr) rfl hl.1 dX9_fillFits_38 rfl (Nat.le_of_ble_eq_true rfl) (by decide) (Nat.le_of_ble_eq_true rfl) rfl (fun H locs hw => ?_)
          refine lv_if_eq (tgt := 48) hx hb dX9_fillFits_41 (by decide) (fun q => ?_) (fun q => ?_)
          · have hf := hf_t q hf
            refine lv_iconst (v := 0) hx hb dX9_fillFits_48 kc_0 ?_
            obtain ⟨hc, hf⟩ := hf_ck hf
            refine st_28 C hw hc (by decide) dX9_fillFits_49 (fun H locs hw => ?_)
            refine nm_S hf hw (fun S7 hf hw => ?_)
            obtain ⟨x8, ex8, hf⟩ := nme hf
            refine lv_iinc (v := x8) (lv' := [(2, .int x8), (0, .ref (ea E 5)), (1, .int l1)]) hx hb dX9_fillFits_50 hl (k := 2) rfl (ki_1 ex8) (by decide) rfl (fun ls hl => ?_)
            refine lv_goto (tgt := 2) hx hb dX9_fillFits_53 (by decide) ?_
            exact hk2 _ hf _ _ _ hw (lv_sub hl [1, 2, 0] rfl)
          · have hf := hf_f q hf
            refine lv_iconst (v := 1) hx hb dX9_fillFits_44 kc_1 ?_
            refine lv_goto (tgt := 49) hx hb dX9_fillFits_45 (by decide) ?_
            obtain ⟨hc, hf⟩ := hf_ck hf
            refine st_28 C hw hc (by decide) dX9_fillFits_49 (fun H locs hw => ?_)
            refine nm_S hf hw (fun S9 hf hw => ?_)
            obtain ⟨x10, ex10, hf⟩ := nme hf
            refine lv_iinc (v := x10) (lv' := [(2, .int x10), (0, .ref (ea E 5)), (1, .int l1)]) hx hb dX9_fillFits_50 hl (k := 2) rfl (ki_1 ex10) (by decide) rfl (fun ls hl => ?_)
            refine lv_goto (tgt := 2) hx hb dX9_fillFits_53 (by decide) ?_
            exact hk2 _ hf _ _ _ hw (lv_sub hl [1, 2, 0] rfl)
theorem w_Wk_fillFits_L2 {N : Nat} {l1 : Int32} {S9 : St} (C : Cx p s m args meth c E cX9_fillFits 3 RX9 none) : ∀ x, Wk_fillFits_L2 N l1 x = some S9 → ∀ (H : Heap) (locs : List Loc) (ls : Array Slot), Wd E (wX V E) s.heap x.1 H locs → lv_has ls 3 [(0, .ref (ea E 5)), (1, .int l1), (2, .int x.2)] → W p l e (rmh 3) s m args below meth c H locs 0 0 (MQ below (QW E (wX V E) (none) S9) args s 0 0 (eA E)) (F0 m 2 ls []) :=
  lp_W (fun k x hk hf H locs ls hw hl => w_Wk_fillFits_b2 C hk hw hl hf) N
set_option maxRecDepth 20000 in
theorem w_Wk_fillFits {N : Nat} {p1 : Int32} {S9 : St} (C : Cx p s m args meth c E cX9_fillFits 3 RX9 none) (hw : Wd E (wX V E) s.heap S H locs) (hl : lv_has ls 3 [(0, .ref (ea E 5)), (1, .int p1)]) (hf : Wk_fillFits N S p1 = some S9) : W p l e (rmh 3) s m args below meth c H locs 0 0 (MQ below (QW E (wX V E) (none) S9) args s 0 0 (eA E)) (F0 m 0 ls []) := by
  have hx := C.1
  have hb := C.2.1
  unfold Wk_fillFits at hf
  refine lv_iconst (v := 0) hx hb dX9_fillFits_0 kc_0 ?_
  refine lv_istore_n (lv' := [(2, .int (0 : Int32)), (0, .ref (ea E 5)), (1, .int p1)]) hx hb dX9_fillFits_1 rfl hl (by decide) rfl (fun ls hl => ?_)
  exact w_Wk_fillFits_L2 C _ hf _ _ _ hw (lv_sub hl [1, 2, 0] rfl)
end
theorem t_Wk_fillFits {l : Launch} {V : St} {N : Nat} {S : St} {p1 : Int32} {S9 : St} (hf : Wk_fillFits N S p1 = some S9) : Ct l (wX V) yX9_fillFits cX9_fillFits 3 none 3 (fun E => [.ref (ea E 5), .int p1]) S (fun E => none) S9 :=
  ofBlock (by decide +kernel) (fun _ => Nat.le_of_ble_eq_true rfl) (fun E p e s m args below meth c ls C hw hl => w_Wk_fillFits C hw hl hf)
theorem dX9_canAll_0 : decode cX9_canAll 0 = .ok (.aload_n 0, 1) := by decide +kernel
theorem dX9_canAll_1 : decode cX9_canAll 1 = .ok (.iload_n 1, 1) := by decide +kernel
theorem dX9_canAll_2 : decode cX9_canAll 2 = .ok (.invokevirtual 19, 3) := by decide +kernel
theorem dX9_canAll_5 : decode cX9_canAll 5 = .ok (.aload_n 0, 1) := by decide +kernel
theorem dX9_canAll_6 : decode cX9_canAll 6 = .ok (.iload_n 1, 1) := by decide +kernel
theorem dX9_canAll_7 : decode cX9_canAll 7 = .ok (.invokevirtual 23, 3) := by decide +kernel
theorem dX9_canAll_10 : decode cX9_canAll 10 = .ok (.ifCond .eq 16, 3) := by decide +kernel
theorem dX9_canAll_13 : decode cX9_canAll 13 = .ok (.aload_n 0, 1) := by decide +kernel
theorem dX9_canAll_14 : decode cX9_canAll 14 = .ok (.getfield 9, 3) := by decide +kernel
theorem dX9_canAll_17 : decode cX9_canAll 17 = .ok (.iload_n 1, 1) := by decide +kernel
theorem dX9_canAll_18 : decode cX9_canAll 18 = .ok (.baload, 1) := by decide +kernel
theorem dX9_canAll_19 : decode cX9_canAll 19 = .ok (.ifCond .eq 7, 3) := by decide +kernel
theorem dX9_canAll_22 : decode cX9_canAll 22 = .ok (.iconst 1, 1) := by decide +kernel
theorem dX9_canAll_23 : decode cX9_canAll 23 = .ok (.goto 4, 3) := by decide +kernel
theorem dX9_canAll_26 : decode cX9_canAll 26 = .ok (.iconst 0, 1) := by decide +kernel
theorem dX9_canAll_27 : decode cX9_canAll 27 = .ok (.ireturn, 1) := by decide +kernel
section
variable {p : Program} {l : Launch} {e : Env} {s : State} {m : MethodId} {args : Array Value} {below : List Frame} {meth : Method} {c : Code} {H : Heap} {locs : List Loc} {E : Ev} {S V : St} {ls : Array Slot}
set_option maxRecDepth 20000 in
theorem w_Wk_canAll {N : Nat} {p1 : Int32} {r : Int32} {S9 : St} (C : Cx p s m args meth c E cX9_canAll 2 RX9 (some .boolean)) (hw : Wd E (wX V E) s.heap S H locs) (hl : lv_has ls 2 [(0, .ref (ea E 5)), (1, .int p1)]) (hf : Wk_canAll N S p1 = some (r, S9)) : W p l e (rmh 4) s m args below meth c H locs 0 0 (MQ below (QW E (wX V E) (some (.int r)) S9) args s 0 0 (eA E)) (F0 m 0 ls []) := by
  have hx := C.1
  have hb := C.2.1
  unfold Wk_canAll at hf
  refine lv_aload_n hx hb dX9_canAll_0 rfl (lv_at hl 0 rfl) ?_
  refine lv_iload_n hx hb dX9_canAll_1 rfl (lv_at hl 1 rfl) ?_
  obtain ⟨S1, hr, hf⟩ := hf_1 hf
  refine inv_Vv (q0 := 5) (ci := 9) (As := [.int p1]) lk_X9_19 C hw rfl rfl rfl (t_Wk_fillFits hr) rfl hl.1 dX9_canAll_2 rfl (Nat.le_of_ble_eq_true rfl) (by decide) (Nat.le_of_ble_eq_true rfl) rfl (fun H locs hw => ?_)
  refine lv_aload_n hx hb dX9_canAll_5 rfl (lv_at hl 0 rfl) ?_
  refine lv_iload_n hx hb dX9_canAll_6 rfl (lv_at hl 1 rfl) ?_
  obtain ⟨r2, hr, hf⟩ := hf_1 hf
  refine inv_Vi (q0 := 5) (ci := 9) (As := [.int p1]) lk_X9_23 C hw rfl rfl rfl (t_Wk_isSet hr) rfl hl.1 dX9_canAll_7 rfl (Nat.le_of_ble_eq_true rfl) (by decide) (Nat.le_of_ble_eq_true rfl) rfl (fun H locs hw => ?_)
  refine lv_if_eq (tgt := 26) hx hb dX9_canAll_10 (by decide) (fun q => ?_) (fun q => ?_)
  · have hf := hf_t q hf
    refine lv_iconst (v := 0) hx hb dX9_canAll_26 kc_0 ?_
    exact ret_zS rfl C hw dX9_canAll_27 hf
  · have hf := hf_f q hf
    refine lv_aload_n hx hb dX9_canAll_13 rfl (lv_at hl 0 rfl) ?_
    refine get_5_1 C hw q_319 dX9_canAll_14 ?_
    refine lv_iload_n hx hb dX9_canAll_17 rfl (lv_at hl 1 rfl) ?_
    obtain ⟨hc, hf⟩ := hf_ck hf
    refine ld_28 C hw hc dX9_canAll_18 ?_
    refine lv_if_eq (tgt := 26) hx hb dX9_canAll_19 (by decide) (fun q => ?_) (fun q => ?_)
    · have hf := hf_t q hf
      refine lv_iconst (v := 0) hx hb dX9_canAll_26 kc_0 ?_
      exact ret_zS rfl C hw dX9_canAll_27 hf
    · have hf := hf_f q hf
      refine lv_iconst (v := 1) hx hb dX9_canAll_22 kc_1 ?_
      refine lv_goto (tgt := 27) hx hb dX9_canAll_23 (by decide) ?_
      exact ret_zS rfl C hw dX9_canAll_27 hf
end
theorem t_Wk_canAll {l : Launch} {V : St} {N : Nat} {S : St} {p1 : Int32} {r : Int32} {S9 : St} (hf : Wk_canAll N S p1 = some (r, S9)) : Ct l (wX V) yX9_canAll cX9_canAll 2 (some .boolean) 4 (fun E => [.ref (ea E 5), .int p1]) S (fun E => some (.int r)) S9 :=
  ofBlock (by decide +kernel) (fun _ => Nat.le_of_ble_eq_true rfl) (fun E p e s m args below meth c ls C hw hl => w_Wk_canAll C hw hl hf)
theorem dX9_greatestSet_0 : decode cX9_greatestSet 0 = .ok (.aload_n 0, 1) := by decide +kernel
theorem dX9_greatestSet_1 : decode cX9_greatestSet 1 = .ok (.iload_n 1, 1) := by decide +kernel
theorem dX9_greatestSet_2 : decode cX9_greatestSet 2 = .ok (.invokevirtual 19, 3) := by decide +kernel
theorem dX9_greatestSet_5 : decode cX9_greatestSet 5 = .ok (.iconst 0, 1) := by decide +kernel
theorem dX9_greatestSet_6 : decode cX9_greatestSet 6 = .ok (.istore_n 2, 1) := by decide +kernel
theorem dX9_greatestSet_7 : decode cX9_greatestSet 7 = .ok (.iconst 0, 1) := by decide +kernel
theorem dX9_greatestSet_8 : decode cX9_greatestSet 8 = .ok (.istore_n 3, 1) := by decide +kernel
theorem dX9_greatestSet_9 : decode cX9_greatestSet 9 = .ok (.iload_n 3, 1) := by decide +kernel
theorem dX9_greatestSet_10 : decode cX9_greatestSet 10 = .ok (.iload_n 1, 1) := by decide +kernel
theorem dX9_greatestSet_11 : decode cX9_greatestSet 11 = .ok (.if_icmp .gt 47, 3) := by decide +kernel
theorem dX9_greatestSet_14 : decode cX9_greatestSet 14 = .ok (.aload_n 0, 1) := by decide +kernel
theorem dX9_greatestSet_15 : decode cX9_greatestSet 15 = .ok (.iload_n 3, 1) := by decide +kernel
theorem dX9_greatestSet_16 : decode cX9_greatestSet 16 = .ok (.invokevirtual 23, 3) := by decide +kernel
theorem dX9_greatestSet_19 : decode cX9_greatestSet 19 = .ok (.ifCond .eq 39, 3) := by decide +kernel
theorem dX9_greatestSet_22 : decode cX9_greatestSet 22 = .ok (.iload_n 3, 1) := by decide +kernel
theorem dX9_greatestSet_23 : decode cX9_greatestSet 23 = .ok (.iload_n 1, 1) := by decide +kernel
theorem dX9_greatestSet_24 : decode cX9_greatestSet 24 = .ok (.iconst (-1), 1) := by decide +kernel
theorem dX9_greatestSet_25 : decode cX9_greatestSet 25 = .ok (.ixor, 1) := by decide +kernel
theorem dX9_greatestSet_26 : decode cX9_greatestSet 26 = .ok (.iand, 1) := by decide +kernel
theorem dX9_greatestSet_27 : decode cX9_greatestSet 27 = .ok (.ifCond .ne 25, 3) := by decide +kernel
theorem dX9_greatestSet_30 : decode cX9_greatestSet 30 = .ok (.aload_n 0, 1) := by decide +kernel
theorem dX9_greatestSet_31 : decode cX9_greatestSet 31 = .ok (.getfield 9, 3) := by decide +kernel
theorem dX9_greatestSet_34 : decode cX9_greatestSet 34 = .ok (.iload_n 3, 1) := by decide +kernel
theorem dX9_greatestSet_35 : decode cX9_greatestSet 35 = .ok (.baload, 1) := by decide +kernel
theorem dX9_greatestSet_36 : decode cX9_greatestSet 36 = .ok (.ifCond .eq 16, 3) := by decide +kernel
theorem dX9_greatestSet_39 : decode cX9_greatestSet 39 = .ok (.iload_n 3, 1) := by decide +kernel
theorem dX9_greatestSet_40 : decode cX9_greatestSet 40 = .ok (.invokestatic 27, 3) := by decide +kernel
theorem dX9_greatestSet_43 : decode cX9_greatestSet 43 = .ok (.iload_n 2, 1) := by decide +kernel
theorem dX9_greatestSet_44 : decode cX9_greatestSet 44 = .ok (.invokestatic 27, 3) := by decide +kernel
theorem dX9_greatestSet_47 : decode cX9_greatestSet 47 = .ok (.if_icmp .le 5, 3) := by decide +kernel
theorem dX9_greatestSet_50 : decode cX9_greatestSet 50 = .ok (.iload_n 3, 1) := by decide +kernel
theorem dX9_greatestSet_51 : decode cX9_greatestSet 51 = .ok (.istore_n 2, 1) := by decide +kernel
theorem dX9_greatestSet_52 : decode cX9_greatestSet 52 = .ok (.iinc 3 1, 3) := by decide +kernel
theorem dX9_greatestSet_55 : decode cX9_greatestSet 55 = .ok (.goto (-46), 3) := by decide +kernel
theorem dX9_greatestSet_58 : decode cX9_greatestSet 58 = .ok (.iload_n 2, 1) := by decide +kernel
theorem dX9_greatestSet_59 : decode cX9_greatestSet 59 = .ok (.ireturn, 1) := by decide +kernel
section
variable {p : Program} {l : Launch} {e : Env} {s : State} {m : MethodId} {args : Array Value} {below : List Frame} {meth : Method} {c : Code} {H : Heap} {locs : List Loc} {E : Ev} {S V : St} {ls : Array Slot}
set_option maxRecDepth 20000 in
theorem w_Wk_greatestSet_b9 {N : Nat} {k9 : (Int32 × Int32) → Option (Int32 × St)} {l1 : Int32} {l2 : Int32} {l3 : Int32} {r : Int32} {S9 : St} (C : Cx p s m args meth c E cX9_greatestSet 4 RX9 (some .int)) (hk9 : ∀ x, k9 x = some (r, S9) → ∀ (H : Heap) (locs : List Loc) (ls : Array Slot), Wd E (wX V E) s.heap S H locs → lv_has ls 4 [(0, .ref (ea E 5)), (1, .int l1), (2, .int x.1), (3, .int x.2)] → W p l e (rmh 4) s m args below meth c H locs 0 0 (MQ below (QW E (wX V E) (some (.int r)) S9) args s 0 0 (eA E)) (F0 m 9 ls [])) (hw : Wd E (wX V E) s.heap S H locs) (hl : lv_has ls 4 [(0, .ref (ea E 5)), (1, .int l1), (2, .int l2), (3, .int l3)]) (hf : Wk_greatestSet_b9 N k9 S l1 l2 l3 = some (r, S9)) : W p l e (rmh 4) s m args below meth c H locs 0 0 (MQ below (QW E (wX V E) (some (.int r)) S9) args s 0 0 (eA E)) (F0 m 9 ls []) := by
  have hx := C.1
  have hb := C.2.1
  unfold Wk_greatestSet_b9 at hf
  refine lv_iload_n hx hb dX9_greatestSet_9 rfl (lv_at hl 3 rfl) ?_
  refine lv_iload_n hx hb dX9_greatestSet_10 rfl (lv_at hl 1 rfl) ?_
  refine lv_icmp_gt (tgt := 58) hx hb dX9_greatestSet_11 (by decide) (fun q => ?_) (fun q => ?_)
  · have hf := hf_t q hf
    refine lv_iload_n hx hb dX9_greatestSet_58 rfl (lv_at hl 2 rfl) ?_
    exact ret_iS C hw dX9_greatestSet_59 hf
  · have hf := hf_f q hf
    refine lv_aload_n hx hb dX9_greatestSet_14 rfl (lv_at hl 0 rfl) ?_
    refine lv_iload_n hx hb dX9_greatestSet_15 rfl (lv_at hl 3 rfl) ?_
    obtain ⟨r1, hr, hf⟩ := hf_1 hf
    refine inv_Vi (q0 := 5) (ci := 9) (As := [.int l3]) lk_X9_23 C hw rfl rfl rfl (t_Wk_isSet hr) rfl hl.1 dX9_greatestSet_16 rfl (Nat.le_of_ble_eq_true rfl) (by decide) (Nat.le_of_ble_eq_true rfl) rfl (fun H locs hw => ?_)
    refine lv_if_eq (tgt := 58) hx hb dX9_greatestSet_19 (by decide) (fun q => ?_) (fun q => ?_)
    · have hf := hf_t q hf
      refine lv_iload_n hx hb dX9_greatestSet_58 rfl (lv_at hl 2 rfl) ?_
      exact ret_iS C hw dX9_greatestSet_59 hf
    · have hf := hf_f q hf
      refine lv_iload_n hx hb dX9_greatestSet_22 rfl (lv_at hl 3 rfl) ?_
      refine lv_iload_n hx hb dX9_greatestSet_23 rfl (lv_at hl 1 rfl) ?_
      refine lv_iconst (v := -1) hx hb dX9_greatestSet_24 kc_m1 ?_
      refine lv_ixor hx hb dX9_greatestSet_25 ?_
      refine lv_iand hx hb dX9_greatestSet_26 ?_
      refine lv_if_ne (tgt := 52) hx hb dX9_greatestSet_27 (by decide) (fun q => ?_) (fun q => ?_)
      · have hf := hf_f q hf
        obtain ⟨x2, ex2, hf⟩ := nme hf
        refine lv_iinc (v := x2) (lv' := [(3, .int x2), (0, .ref (ea E 5)), (1, .int l1), (2, .int l2)]) hx hb dX9_greatestSet_52 hl (k := 3) rfl (ki_1 ex2) (by decide) rfl (fun ls hl => ?_)
        refine lv_goto (tgt := 9) hx hb dX9_greatestSet_55 (by decide) ?_
        exact hk9 _ hf _ _ _ hw (lv_sub hl [1, 2, 3, 0] rfl)
      · have hf := hf_t q hf
        refine lv_aload_n hx hb dX9_greatestSet_30 rfl (lv_at hl 0 rfl) ?_
        refine get_5_1 C hw q_319 dX9_greatestSet_31 ?_
        refine lv_iload_n hx hb dX9_greatestSet_34 rfl (lv_at hl 3 rfl) ?_
        obtain ⟨hc, hf⟩ := hf_ck hf
        refine ld_28 C hw hc dX9_greatestSet_35 ?_
        refine lv_if_eq (tgt := 52) hx hb dX9_greatestSet_36 (by decide) (fun q => ?_) (fun q => ?_)
        · have hf := hf_t q hf
          obtain ⟨x3, ex3, hf⟩ := nme hf
          refine lv_iinc (v := x3) (lv' := [(3, .int x3), (0, .ref (ea E 5)), (1, .int l1), (2, .int l2)]) hx hb dX9_greatestSet_52 hl (k := 3) rfl (ki_1 ex3) (by decide) rfl (fun ls hl => ?_)
          refine lv_goto (tgt := 9) hx hb dX9_greatestSet_55 (by decide) ?_
          exact hk9 _ hf _ _ _ hw (lv_sub hl [1, 2, 3, 0] rfl)
        · have hf := hf_f q hf
          refine lv_iload_n hx hb dX9_greatestSet_39 rfl (lv_at hl 3 rfl) ?_
          obtain ⟨r4, hr, hf⟩ := hf_1 hf
          refine inv_Si (As := [.int l3]) lk_X9_27 C hw (t_In_bitCount hr) hl.1 dX9_greatestSet_40 rfl (Nat.le_of_ble_eq_true rfl) (by decide) (Nat.le_of_ble_eq_true rfl) rfl (fun H locs hw => ?_)
          refine lv_iload_n hx hb dX9_greatestSet_43 rfl (lv_at hl 2 rfl) ?_
          obtain ⟨r5, hr, hf⟩ := hf_1 hf
          refine inv_Si (As := [.int l2]) lk_X9_27 C hw (t_In_bitCount hr) hl.1 dX9_greatestSet_44 rfl (Nat.le_of_ble_eq_true rfl) (by decide) (Nat.le_of_ble_eq_true rfl) rfl (fun H locs hw => ?_)
          refine lv_icmp_le (tgt := 52) hx hb dX9_greatestSet_47 (by decide) (fun q => ?_) (fun q => ?_)
          · have hf := hf_t q hf
            obtain ⟨x6, ex6, hf⟩ := nme hf
            refine lv_iinc (v := x6) (lv' := [(3, .int x6), (0, .ref (ea E 5)), (1, .int l1), (2, .int l2)]) hx hb dX9_greatestSet_52 hl (k := 3) rfl (ki_1 ex6) (by decide) rfl (fun ls hl => ?_)
            refine lv_goto (tgt := 9) hx hb dX9_greatestSet_55 (by decide) ?_
            exact hk9 _ hf _ _ _ hw (lv_sub hl [1, 2, 3, 0] rfl)
          · have hf := hf_f q hf
            refine lv_iload_n hx hb dX9_greatestSet_50 rfl (lv_at hl 3 rfl) ?_
            refine lv_istore_n (lv' := [(2, .int l3), (0, .ref (ea E 5)), (1, .int l1), (3, .int l3)]) hx hb dX9_greatestSet_51 rfl hl (by decide) rfl (fun ls hl => ?_)
            obtain ⟨x7, ex7, hf⟩ := nme hf
            refine lv_iinc (v := x7) (lv' := [(3, .int x7), (2, .int l3), (0, .ref (ea E 5)), (1, .int l1)]) hx hb dX9_greatestSet_52 hl (k := 3) rfl (ki_1 ex7) (by decide) rfl (fun ls hl => ?_)
            refine lv_goto (tgt := 9) hx hb dX9_greatestSet_55 (by decide) ?_
            exact hk9 _ hf _ _ _ hw (lv_sub hl [2, 3, 1, 0] rfl)
theorem w_Wk_greatestSet_L9 {N : Nat} {l1 : Int32} {r : Int32} {S9 : St} (C : Cx p s m args meth c E cX9_greatestSet 4 RX9 (some .int)) : ∀ x, Wk_greatestSet_L9 N S l1 x = some (r, S9) → ∀ (H : Heap) (locs : List Loc) (ls : Array Slot), Wd E (wX V E) s.heap S H locs → lv_has ls 4 [(0, .ref (ea E 5)), (1, .int l1), (2, .int x.1), (3, .int x.2)] → W p l e (rmh 4) s m args below meth c H locs 0 0 (MQ below (QW E (wX V E) (some (.int r)) S9) args s 0 0 (eA E)) (F0 m 9 ls []) :=
  lp_W (fun k x hk hf H locs ls hw hl => w_Wk_greatestSet_b9 C hk hw hl hf) N
set_option maxRecDepth 20000 in
theorem w_Wk_greatestSet {N : Nat} {p1 : Int32} {r : Int32} {S9 : St} (C : Cx p s m args meth c E cX9_greatestSet 4 RX9 (some .int)) (hw : Wd E (wX V E) s.heap S H locs) (hl : lv_has ls 4 [(0, .ref (ea E 5)), (1, .int p1)]) (hf : Wk_greatestSet N S p1 = some (r, S9)) : W p l e (rmh 4) s m args below meth c H locs 0 0 (MQ below (QW E (wX V E) (some (.int r)) S9) args s 0 0 (eA E)) (F0 m 0 ls []) := by
  have hx := C.1
  have hb := C.2.1
  unfold Wk_greatestSet at hf
  refine lv_aload_n hx hb dX9_greatestSet_0 rfl (lv_at hl 0 rfl) ?_
  refine lv_iload_n hx hb dX9_greatestSet_1 rfl (lv_at hl 1 rfl) ?_
  obtain ⟨S1, hr, hf⟩ := hf_1 hf
  refine inv_Vv (q0 := 5) (ci := 9) (As := [.int p1]) lk_X9_19 C hw rfl rfl rfl (t_Wk_fillFits hr) rfl hl.1 dX9_greatestSet_2 rfl (Nat.le_of_ble_eq_true rfl) (by decide) (Nat.le_of_ble_eq_true rfl) rfl (fun H locs hw => ?_)
  refine lv_iconst (v := 0) hx hb dX9_greatestSet_5 kc_0 ?_
  refine lv_istore_n (lv' := [(2, .int (0 : Int32)), (0, .ref (ea E 5)), (1, .int p1)]) hx hb dX9_greatestSet_6 rfl hl (by decide) rfl (fun ls hl => ?_)
  refine lv_iconst (v := 0) hx hb dX9_greatestSet_7 kc_0 ?_
  refine lv_istore_n (lv' := [(3, .int (0 : Int32)), (2, .int (0 : Int32)), (0, .ref (ea E 5)), (1, .int p1)]) hx hb dX9_greatestSet_8 rfl hl (by decide) rfl (fun ls hl => ?_)
  exact w_Wk_greatestSet_L9 C _ hf _ _ _ hw (lv_sub hl [2, 3, 1, 0] rfl)
end
theorem t_Wk_greatestSet {l : Launch} {V : St} {N : Nat} {S : St} {p1 : Int32} {r : Int32} {S9 : St} (hf : Wk_greatestSet N S p1 = some (r, S9)) : Ct l (wX V) yX9_greatestSet cX9_greatestSet 4 (some .int) 4 (fun E => [.ref (ea E 5), .int p1]) S (fun E => some (.int r)) S9 :=
  ofBlock (by decide +kernel) (fun _ => Nat.le_of_ble_eq_true rfl) (fun E p e s m args below meth c ls C hw hl => w_Wk_greatestSet C hw hl hf)
theorem dX9_isClash_0 : decode cX9_isClash 0 = .ok (.iload_n 1, 1) := by decide +kernel
theorem dX9_isClash_1 : decode cX9_isClash 1 = .ok (.iload_n 2, 1) := by decide +kernel
theorem dX9_isClash_2 : decode cX9_isClash 2 = .ok (.iconst (-1), 1) := by decide +kernel
theorem dX9_isClash_3 : decode cX9_isClash 3 = .ok (.ixor, 1) := by decide +kernel
theorem dX9_isClash_4 : decode cX9_isClash 4 = .ok (.iand, 1) := by decide +kernel
theorem dX9_isClash_5 : decode cX9_isClash 5 = .ok (.ifCond .ne 24, 3) := by decide +kernel
theorem dX9_isClash_8 : decode cX9_isClash 8 = .ok (.aload_n 0, 1) := by decide +kernel
theorem dX9_isClash_9 : decode cX9_isClash 9 = .ok (.getfield 9, 3) := by decide +kernel
theorem dX9_isClash_12 : decode cX9_isClash 12 = .ok (.iload_n 1, 1) := by decide +kernel
theorem dX9_isClash_13 : decode cX9_isClash 13 = .ok (.baload, 1) := by decide +kernel
theorem dX9_isClash_14 : decode cX9_isClash 14 = .ok (.ifCond .ne 15, 3) := by decide +kernel
theorem dX9_isClash_17 : decode cX9_isClash 17 = .ok (.aload_n 0, 1) := by decide +kernel
theorem dX9_isClash_18 : decode cX9_isClash 18 = .ok (.iload_n 1, 1) := by decide +kernel
theorem dX9_isClash_19 : decode cX9_isClash 19 = .ok (.invokevirtual 37, 3) := by decide +kernel
theorem dX9_isClash_22 : decode cX9_isClash 22 = .ok (.ifCond .eq 7, 3) := by decide +kernel
theorem dX9_isClash_25 : decode cX9_isClash 25 = .ok (.iconst 1, 1) := by decide +kernel
theorem dX9_isClash_26 : decode cX9_isClash 26 = .ok (.goto 4, 3) := by decide +kernel
theorem dX9_isClash_29 : decode cX9_isClash 29 = .ok (.iconst 0, 1) := by decide +kernel
theorem dX9_isClash_30 : decode cX9_isClash 30 = .ok (.ireturn, 1) := by decide +kernel
section
variable {p : Program} {l : Launch} {e : Env} {s : State} {m : MethodId} {args : Array Value} {below : List Frame} {meth : Method} {c : Code} {H : Heap} {locs : List Loc} {E : Ev} {S V : St} {ls : Array Slot}
set_option maxRecDepth 20000 in
theorem w_Wk_isClash {N : Nat} {p1 : Int32} {p2 : Int32} {r : Int32} (C : Cx p s m args meth c E cX9_isClash 3 RX9 (some .boolean)) (hw : Wd E (wX V E) s.heap S H locs) (hl : lv_has ls 3 [(0, .ref (ea E 5)), (1, .int p1), (2, .int p2)]) (hf : Wk_isClash N S p1 p2 = some r) : W p l e (rmh 3) s m args below meth c H locs 0 0 (MQ below (QW E (wX V E) (some (.int r)) S) args s 0 0 (eA E)) (F0 m 0 ls []) := by
  have hx := C.1
  have hb := C.2.1
  unfold Wk_isClash at hf
  refine lv_iload_n hx hb dX9_isClash_0 rfl (lv_at hl 1 rfl) ?_
  refine lv_iload_n hx hb dX9_isClash_1 rfl (lv_at hl 2 rfl) ?_
  refine lv_iconst (v := -1) hx hb dX9_isClash_2 kc_m1 ?_
  refine lv_ixor hx hb dX9_isClash_3 ?_
  refine lv_iand hx hb dX9_isClash_4 ?_
  refine lv_if_ne (tgt := 29) hx hb dX9_isClash_5 (by decide) (fun q => ?_) (fun q => ?_)
  · have hf := hf_f q hf
    refine lv_iconst (v := 0) hx hb dX9_isClash_29 kc_0 ?_
    exact ret_z rfl C hw dX9_isClash_30 hf
  · have hf := hf_t q hf
    refine lv_aload_n hx hb dX9_isClash_8 rfl (lv_at hl 0 rfl) ?_
    refine get_5_1 C hw q_319 dX9_isClash_9 ?_
    refine lv_iload_n hx hb dX9_isClash_12 rfl (lv_at hl 1 rfl) ?_
    obtain ⟨hc, hf⟩ := hf_ck hf
    refine ld_28 C hw hc dX9_isClash_13 ?_
    refine lv_if_ne (tgt := 29) hx hb dX9_isClash_14 (by decide) (fun q => ?_) (fun q => ?_)
    · have hf := hf_f q hf
      refine lv_iconst (v := 0) hx hb dX9_isClash_29 kc_0 ?_
      exact ret_z rfl C hw dX9_isClash_30 hf
    · have hf := hf_t q hf
      refine lv_aload_n hx hb dX9_isClash_17 rfl (lv_at hl 0 rfl) ?_
      refine lv_iload_n hx hb dX9_isClash_18 rfl (lv_at hl 1 rfl) ?_
      obtain ⟨r1, hr, hf⟩ := hf_1 hf
      refine inv_Vi (q0 := 5) (ci := 9) (As := [.int p1]) lk_X9_37 C hw rfl rfl rfl (t_Wk_eachLessOneFits hr) rfl hl.1 dX9_isClash_19 rfl (Nat.le_of_ble_eq_true rfl) (by decide) (Nat.le_of_ble_eq_true rfl) rfl (fun H locs hw => ?_)
      refine lv_if_eq (tgt := 29) hx hb dX9_isClash_22 (by decide) (fun q => ?_) (fun q => ?_)
      · have hf := hf_t q hf
        refine lv_iconst (v := 0) hx hb dX9_isClash_29 kc_0 ?_
        exact ret_z rfl C hw dX9_isClash_30 hf
      · have hf := hf_f q hf
        refine lv_iconst (v := 1) hx hb dX9_isClash_25 kc_1 ?_
        refine lv_goto (tgt := 30) hx hb dX9_isClash_26 (by decide) ?_
        exact ret_z rfl C hw dX9_isClash_30 hf
end
theorem t_Wk_isClash {l : Launch} {V : St} {N : Nat} {S : St} {p1 : Int32} {p2 : Int32} {r : Int32} (hf : Wk_isClash N S p1 p2 = some r) : Ct l (wX V) yX9_isClash cX9_isClash 3 (some .boolean) 3 (fun E => [.ref (ea E 5), .int p1, .int p2]) S (fun E => some (.int r)) S :=
  ofBlock (by decide +kernel) (fun _ => Nat.le_of_ble_eq_true rfl) (fun E p e s m args below meth c ls C hw hl => w_Wk_isClash C hw hl hf)
theorem dX9_howManyClashes_0 : decode cX9_howManyClashes 0 = .ok (.aload_n 0, 1) := by decide +kernel
theorem dX9_howManyClashes_1 : decode cX9_howManyClashes 1 = .ok (.iload_n 1, 1) := by decide +kernel
theorem dX9_howManyClashes_2 : decode cX9_howManyClashes 2 = .ok (.invokevirtual 19, 3) := by decide +kernel
theorem dX9_howManyClashes_5 : decode cX9_howManyClashes 5 = .ok (.iconst 0, 1) := by decide +kernel
theorem dX9_howManyClashes_6 : decode cX9_howManyClashes 6 = .ok (.istore_n 2, 1) := by decide +kernel
theorem dX9_howManyClashes_7 : decode cX9_howManyClashes 7 = .ok (.iconst 0, 1) := by decide +kernel
theorem dX9_howManyClashes_8 : decode cX9_howManyClashes 8 = .ok (.istore_n 3, 1) := by decide +kernel
theorem dX9_howManyClashes_9 : decode cX9_howManyClashes 9 = .ok (.iload_n 3, 1) := by decide +kernel
theorem dX9_howManyClashes_10 : decode cX9_howManyClashes 10 = .ok (.iload_n 1, 1) := by decide +kernel
theorem dX9_howManyClashes_11 : decode cX9_howManyClashes 11 = .ok (.if_icmp .gt 29, 3) := by decide +kernel
theorem dX9_howManyClashes_14 : decode cX9_howManyClashes 14 = .ok (.aload_n 0, 1) := by decide +kernel
theorem dX9_howManyClashes_15 : decode cX9_howManyClashes 15 = .ok (.iload_n 3, 1) := by decide +kernel
theorem dX9_howManyClashes_16 : decode cX9_howManyClashes 16 = .ok (.invokevirtual 23, 3) := by decide +kernel
theorem dX9_howManyClashes_19 : decode cX9_howManyClashes 19 = .ok (.ifCond .eq 21, 3) := by decide +kernel
theorem dX9_howManyClashes_22 : decode cX9_howManyClashes 22 = .ok (.aload_n 0, 1) := by decide +kernel
theorem dX9_howManyClashes_23 : decode cX9_howManyClashes 23 = .ok (.iload_n 3, 1) := by decide +kernel
theorem dX9_howManyClashes_24 : decode cX9_howManyClashes 24 = .ok (.iload_n 1, 1) := by decide +kernel
theorem dX9_howManyClashes_25 : decode cX9_howManyClashes 25 = .ok (.invokevirtual 33, 3) := by decide +kernel
theorem dX9_howManyClashes_28 : decode cX9_howManyClashes 28 = .ok (.ifCond .eq 6, 3) := by decide +kernel
theorem dX9_howManyClashes_31 : decode cX9_howManyClashes 31 = .ok (.iinc 2 1, 3) := by decide +kernel
theorem dX9_howManyClashes_34 : decode cX9_howManyClashes 34 = .ok (.iinc 3 1, 3) := by decide +kernel
theorem dX9_howManyClashes_37 : decode cX9_howManyClashes 37 = .ok (.goto (-28), 3) := by decide +kernel
theorem dX9_howManyClashes_40 : decode cX9_howManyClashes 40 = .ok (.iload_n 2, 1) := by decide +kernel
theorem dX9_howManyClashes_41 : decode cX9_howManyClashes 41 = .ok (.ireturn, 1) := by decide +kernel
section
variable {p : Program} {l : Launch} {e : Env} {s : State} {m : MethodId} {args : Array Value} {below : List Frame} {meth : Method} {c : Code} {H : Heap} {locs : List Loc} {E : Ev} {S V : St} {ls : Array Slot}
set_option maxRecDepth 20000 in
theorem w_Wk_howManyClashes_b9 {N : Nat} {k9 : (Int32 × Int32) → Option (Int32 × St)} {l1 : Int32} {l2 : Int32} {l3 : Int32} {r : Int32} {S9 : St} (C : Cx p s m args meth c E cX9_howManyClashes 4 RX9 (some .int)) (hk9 : ∀ x, k9 x = some (r, S9) → ∀ (H : Heap) (locs : List Loc) (ls : Array Slot), Wd E (wX V E) s.heap S H locs → lv_has ls 4 [(0, .ref (ea E 5)), (1, .int l1), (2, .int x.1), (3, .int x.2)] → W p l e (rmh 4) s m args below meth c H locs 0 0 (MQ below (QW E (wX V E) (some (.int r)) S9) args s 0 0 (eA E)) (F0 m 9 ls [])) (hw : Wd E (wX V E) s.heap S H locs) (hl : lv_has ls 4 [(0, .ref (ea E 5)), (1, .int l1), (2, .int l2), (3, .int l3)]) (hf : Wk_howManyClashes_b9 N k9 S l1 l2 l3 = some (r, S9)) : W p l e (rmh 4) s m args below meth c H locs 0 0 (MQ below (QW E (wX V E) (some (.int r)) S9) args s 0 0 (eA E)) (F0 m 9 ls []) := by
  have hx := C.1
  have hb := C.2.1
  unfold Wk_howManyClashes_b9 at hf
  refine lv_iload_n hx hb dX9_howManyClashes_9 rfl (lv_at hl 3 rfl) ?_
  refine lv_iload_n hx hb dX9_howManyClashes_10 rfl (lv_at hl 1 rfl) ?_
  refine lv_icmp_gt (tgt := 40) hx hb dX9_howManyClashes_11 (by decide) (fun q => ?_) (fun q => ?_)
  · have hf := hf_t q hf
    refine lv_iload_n hx hb dX9_howManyClashes_40 rfl (lv_at hl 2 rfl) ?_
    exact ret_iS C hw dX9_howManyClashes_41 hf
  · have hf := hf_f q hf
    refine lv_aload_n hx hb dX9_howManyClashes_14 rfl (lv_at hl 0 rfl) ?_
    refine lv_iload_n hx hb dX9_howManyClashes_15 rfl (lv_at hl 3 rfl) ?_
    obtain ⟨r1, hr, hf⟩ := hf_1 hf
    refine inv_Vi (q0 := 5) (ci := 9) (As := [.int l3]) lk_X9_23 C hw rfl rfl rfl (t_Wk_isSet hr) rfl hl.1 dX9_howManyClashes_16 rfl (Nat.le_of_ble_eq_true rfl) (by decide) (Nat.le_of_ble_eq_true rfl) rfl (fun H locs hw => ?_)
    refine lv_if_eq (tgt := 40) hx hb dX9_howManyClashes_19 (by decide) (fun q => ?_) (fun q => ?_)
    · have hf := hf_t q hf
      refine lv_iload_n hx hb dX9_howManyClashes_40 rfl (lv_at hl 2 rfl) ?_
      exact ret_iS C hw dX9_howManyClashes_41 hf
    · have hf := hf_f q hf
      refine lv_aload_n hx hb dX9_howManyClashes_22 rfl (lv_at hl 0 rfl) ?_
      refine lv_iload_n hx hb dX9_howManyClashes_23 rfl (lv_at hl 3 rfl) ?_
      refine lv_iload_n hx hb dX9_howManyClashes_24 rfl (lv_at hl 1 rfl) ?_
      obtain ⟨r2, hr, hf⟩ := hf_1 hf
      refine inv_Vi (q0 := 5) (ci := 9) (As := [.int l3, .int l1]) lk_X9_33 C hw rfl rfl rfl (t_Wk_isClash hr) rfl hl.1 dX9_howManyClashes_25 rfl (Nat.le_of_ble_eq_true rfl) (by decide) (Nat.le_of_ble_eq_true rfl) rfl (fun H locs hw => ?_)
      refine lv_if_eq (tgt := 34) hx hb dX9_howManyClashes_28 (by decide) (fun q => ?_) (fun q => ?_)
      · have hf := hf_t q hf
        obtain ⟨x3, ex3, hf⟩ := nme hf
        refine lv_iinc (v := x3) (lv' := [(3, .int x3), (0, .ref (ea E 5)), (1, .int l1), (2, .int l2)]) hx hb dX9_howManyClashes_34 hl (k := 3) rfl (ki_1 ex3) (by decide) rfl (fun ls hl => ?_)
        refine lv_goto (tgt := 9) hx hb dX9_howManyClashes_37 (by decide) ?_
        exact hk9 _ hf _ _ _ hw (lv_sub hl [1, 2, 3, 0] rfl)
      · have hf := hf_f q hf
        obtain ⟨x4, ex4, hf⟩ := nme hf
        refine lv_iinc (v := x4) (lv' := [(2, .int x4), (0, .ref (ea E 5)), (1, .int l1), (3, .int l3)]) hx hb dX9_howManyClashes_31 hl (k := 2) rfl (ki_1 ex4) (by decide) rfl (fun ls hl => ?_)
        obtain ⟨x5, ex5, hf⟩ := nme hf
        refine lv_iinc (v := x5) (lv' := [(3, .int x5), (2, .int x4), (0, .ref (ea E 5)), (1, .int l1)]) hx hb dX9_howManyClashes_34 hl (k := 3) rfl (ki_1 ex5) (by decide) rfl (fun ls hl => ?_)
        refine lv_goto (tgt := 9) hx hb dX9_howManyClashes_37 (by decide) ?_
        exact hk9 _ hf _ _ _ hw (lv_sub hl [2, 3, 1, 0] rfl)
theorem w_Wk_howManyClashes_L9 {N : Nat} {l1 : Int32} {r : Int32} {S9 : St} (C : Cx p s m args meth c E cX9_howManyClashes 4 RX9 (some .int)) : ∀ x, Wk_howManyClashes_L9 N S l1 x = some (r, S9) → ∀ (H : Heap) (locs : List Loc) (ls : Array Slot), Wd E (wX V E) s.heap S H locs → lv_has ls 4 [(0, .ref (ea E 5)), (1, .int l1), (2, .int x.1), (3, .int x.2)] → W p l e (rmh 4) s m args below meth c H locs 0 0 (MQ below (QW E (wX V E) (some (.int r)) S9) args s 0 0 (eA E)) (F0 m 9 ls []) :=
  lp_W (fun k x hk hf H locs ls hw hl => w_Wk_howManyClashes_b9 C hk hw hl hf) N
set_option maxRecDepth 20000 in
theorem w_Wk_howManyClashes {N : Nat} {p1 : Int32} {r : Int32} {S9 : St} (C : Cx p s m args meth c E cX9_howManyClashes 4 RX9 (some .int)) (hw : Wd E (wX V E) s.heap S H locs) (hl : lv_has ls 4 [(0, .ref (ea E 5)), (1, .int p1)]) (hf : Wk_howManyClashes N S p1 = some (r, S9)) : W p l e (rmh 4) s m args below meth c H locs 0 0 (MQ below (QW E (wX V E) (some (.int r)) S9) args s 0 0 (eA E)) (F0 m 0 ls []) := by
  have hx := C.1
  have hb := C.2.1
  unfold Wk_howManyClashes at hf
  refine lv_aload_n hx hb dX9_howManyClashes_0 rfl (lv_at hl 0 rfl) ?_
  refine lv_iload_n hx hb dX9_howManyClashes_1 rfl (lv_at hl 1 rfl) ?_
  obtain ⟨S1, hr, hf⟩ := hf_1 hf
  refine inv_Vv (q0 := 5) (ci := 9) (As := [.int p1]) lk_X9_19 C hw rfl rfl rfl (t_Wk_fillFits hr) rfl hl.1 dX9_howManyClashes_2 rfl (Nat.le_of_ble_eq_true rfl) (by decide) (Nat.le_of_ble_eq_true rfl) rfl (fun H locs hw => ?_)
  refine lv_iconst (v := 0) hx hb dX9_howManyClashes_5 kc_0 ?_
  refine lv_istore_n (lv' := [(2, .int (0 : Int32)), (0, .ref (ea E 5)), (1, .int p1)]) hx hb dX9_howManyClashes_6 rfl hl (by decide) rfl (fun ls hl => ?_)
  refine lv_iconst (v := 0) hx hb dX9_howManyClashes_7 kc_0 ?_
  refine lv_istore_n (lv' := [(3, .int (0 : Int32)), (2, .int (0 : Int32)), (0, .ref (ea E 5)), (1, .int p1)]) hx hb dX9_howManyClashes_8 rfl hl (by decide) rfl (fun ls hl => ?_)
  exact w_Wk_howManyClashes_L9 C _ hf _ _ _ hw (lv_sub hl [2, 3, 1, 0] rfl)
end
theorem t_Wk_howManyClashes {l : Launch} {V : St} {N : Nat} {S : St} {p1 : Int32} {r : Int32} {S9 : St} (hf : Wk_howManyClashes N S p1 = some (r, S9)) : Ct l (wX V) yX9_howManyClashes cX9_howManyClashes 4 (some .int) 4 (fun E => [.ref (ea E 5), .int p1]) S (fun E => some (.int r)) S9 :=
  ofBlock (by decide +kernel) (fun _ => Nat.le_of_ble_eq_true rfl) (fun E p e s m args below meth c ls C hw hl => w_Wk_howManyClashes C hw hl hf)
theorem dX9_leastClash_0 : decode cX9_leastClash 0 = .ok (.aload_n 0, 1) := by decide +kernel
theorem dX9_leastClash_1 : decode cX9_leastClash 1 = .ok (.iload_n 1, 1) := by decide +kernel
theorem dX9_leastClash_2 : decode cX9_leastClash 2 = .ok (.invokevirtual 19, 3) := by decide +kernel
theorem dX9_leastClash_5 : decode cX9_leastClash 5 = .ok (.iconst 0, 1) := by decide +kernel
theorem dX9_leastClash_6 : decode cX9_leastClash 6 = .ok (.istore_n 2, 1) := by decide +kernel
theorem dX9_leastClash_7 : decode cX9_leastClash 7 = .ok (.iload_n 2, 1) := by decide +kernel
theorem dX9_leastClash_8 : decode cX9_leastClash 8 = .ok (.iload_n 1, 1) := by decide +kernel
theorem dX9_leastClash_9 : decode cX9_leastClash 9 = .ok (.if_icmp .gt 28, 3) := by decide +kernel
theorem dX9_leastClash_12 : decode cX9_leastClash 12 = .ok (.aload_n 0, 1) := by decide +kernel
theorem dX9_leastClash_13 : decode cX9_leastClash 13 = .ok (.iload_n 2, 1) := by decide +kernel
theorem dX9_leastClash_14 : decode cX9_leastClash 14 = .ok (.invokevirtual 23, 3) := by decide +kernel
theorem dX9_leastClash_17 : decode cX9_leastClash 17 = .ok (.ifCond .eq 20, 3) := by decide +kernel
theorem dX9_leastClash_20 : decode cX9_leastClash 20 = .ok (.aload_n 0, 1) := by decide +kernel
theorem dX9_leastClash_21 : decode cX9_leastClash 21 = .ok (.iload_n 2, 1) := by decide +kernel
theorem dX9_leastClash_22 : decode cX9_leastClash 22 = .ok (.iload_n 1, 1) := by decide +kernel
theorem dX9_leastClash_23 : decode cX9_leastClash 23 = .ok (.invokevirtual 33, 3) := by decide +kernel
theorem dX9_leastClash_26 : decode cX9_leastClash 26 = .ok (.ifCond .eq 5, 3) := by decide +kernel
theorem dX9_leastClash_29 : decode cX9_leastClash 29 = .ok (.iload_n 2, 1) := by decide +kernel
theorem dX9_leastClash_30 : decode cX9_leastClash 30 = .ok (.ireturn, 1) := by decide +kernel
theorem dX9_leastClash_31 : decode cX9_leastClash 31 = .ok (.iinc 2 1, 3) := by decide +kernel
theorem dX9_leastClash_34 : decode cX9_leastClash 34 = .ok (.goto (-27), 3) := by decide +kernel
theorem dX9_leastClash_37 : decode cX9_leastClash 37 = .ok (.bipush (-2), 2) := by decide +kernel
theorem dX9_leastClash_39 : decode cX9_leastClash 39 = .ok (.ireturn, 1) := by decide +kernel
section
variable {p : Program} {l : Launch} {e : Env} {s : State} {m : MethodId} {args : Array Value} {below : List Frame} {meth : Method} {c : Code} {H : Heap} {locs : List Loc} {E : Ev} {S V : St} {ls : Array Slot}
set_option maxRecDepth 20000 in
theorem w_Wk_leastClash_b7 {N : Nat} {k7 : (Int32) → Option (Int32 × St)} {l1 : Int32} {l2 : Int32} {r : Int32} {S9 : St} (C : Cx p s m args meth c E cX9_leastClash 3 RX9 (some .int)) (hk7 : ∀ x, k7 x = some (r, S9) → ∀ (H : Heap) (locs : List Loc) (ls : Array Slot), Wd E (wX V E) s.heap S H locs → lv_has ls 3 [(0, .ref (ea E 5)), (1, .int l1), (2, .int x)] → W p l e (rmh 4) s m args below meth c H locs 0 0 (MQ below (QW E (wX V E) (some (.int r)) S9) args s 0 0 (eA E)) (F0 m 7 ls [])) (hw : Wd E (wX V E) s.heap S H locs) (hl : lv_has ls 3 [(0, .ref (ea E 5)), (1, .int l1), (2, .int l2)]) (hf : Wk_leastClash_b7 N k7 S l1 l2 = some (r, S9)) : W p l e (rmh 4) s m args below meth c H locs 0 0 (MQ below (QW E (wX V E) (some (.int r)) S9) args s 0 0 (eA E)) (F0 m 7 ls []) := by
  have hx := C.1
  have hb := C.2.1
  unfold Wk_leastClash_b7 at hf
  refine lv_iload_n hx hb dX9_leastClash_7 rfl (lv_at hl 2 rfl) ?_
  refine lv_iload_n hx hb dX9_leastClash_8 rfl (lv_at hl 1 rfl) ?_
  refine lv_icmp_gt (tgt := 37) hx hb dX9_leastClash_9 (by decide) (fun q => ?_) (fun q => ?_)
  · have hf := hf_t q hf
    refine lv_bipush (v := -2) hx hb dX9_leastClash_37 kb_m2 ?_
    exact ret_iS C hw dX9_leastClash_39 hf
  · have hf := hf_f q hf
    refine lv_aload_n hx hb dX9_leastClash_12 rfl (lv_at hl 0 rfl) ?_
    refine lv_iload_n hx hb dX9_leastClash_13 rfl (lv_at hl 2 rfl) ?_
    obtain ⟨r1, hr, hf⟩ := hf_1 hf
    refine inv_Vi (q0 := 5) (ci := 9) (As := [.int l2]) lk_X9_23 C hw rfl rfl rfl (t_Wk_isSet hr) rfl hl.1 dX9_leastClash_14 rfl (Nat.le_of_ble_eq_true rfl) (by decide) (Nat.le_of_ble_eq_true rfl) rfl (fun H locs hw => ?_)
    refine lv_if_eq (tgt := 37) hx hb dX9_leastClash_17 (by decide) (fun q => ?_) (fun q => ?_)
    · have hf := hf_t q hf
      refine lv_bipush (v := -2) hx hb dX9_leastClash_37 kb_m2 ?_
      exact ret_iS C hw dX9_leastClash_39 hf
    · have hf := hf_f q hf
      refine lv_aload_n hx hb dX9_leastClash_20 rfl (lv_at hl 0 rfl) ?_
      refine lv_iload_n hx hb dX9_leastClash_21 rfl (lv_at hl 2 rfl) ?_
      refine lv_iload_n hx hb dX9_leastClash_22 rfl (lv_at hl 1 rfl) ?_
      obtain ⟨r2, hr, hf⟩ := hf_1 hf
      refine inv_Vi (q0 := 5) (ci := 9) (As := [.int l2, .int l1]) lk_X9_33 C hw rfl rfl rfl (t_Wk_isClash hr) rfl hl.1 dX9_leastClash_23 rfl (Nat.le_of_ble_eq_true rfl) (by decide) (Nat.le_of_ble_eq_true rfl) rfl (fun H locs hw => ?_)
      refine lv_if_eq (tgt := 31) hx hb dX9_leastClash_26 (by decide) (fun q => ?_) (fun q => ?_)
      · have hf := hf_t q hf
        obtain ⟨x3, ex3, hf⟩ := nme hf
        refine lv_iinc (v := x3) (lv' := [(2, .int x3), (0, .ref (ea E 5)), (1, .int l1)]) hx hb dX9_leastClash_31 hl (k := 2) rfl (ki_1 ex3) (by decide) rfl (fun ls hl => ?_)
        refine lv_goto (tgt := 7) hx hb dX9_leastClash_34 (by decide) ?_
        exact hk7 _ hf _ _ _ hw (lv_sub hl [1, 2, 0] rfl)
      · have hf := hf_f q hf
        refine lv_iload_n hx hb dX9_leastClash_29 rfl (lv_at hl 2 rfl) ?_
        exact ret_iS C hw dX9_leastClash_30 hf
theorem w_Wk_leastClash_L7 {N : Nat} {l1 : Int32} {r : Int32} {S9 : St} (C : Cx p s m args meth c E cX9_leastClash 3 RX9 (some .int)) : ∀ x, Wk_leastClash_L7 N S l1 x = some (r, S9) → ∀ (H : Heap) (locs : List Loc) (ls : Array Slot), Wd E (wX V E) s.heap S H locs → lv_has ls 3 [(0, .ref (ea E 5)), (1, .int l1), (2, .int x)] → W p l e (rmh 4) s m args below meth c H locs 0 0 (MQ below (QW E (wX V E) (some (.int r)) S9) args s 0 0 (eA E)) (F0 m 7 ls []) :=
  lp_W (fun k x hk hf H locs ls hw hl => w_Wk_leastClash_b7 C hk hw hl hf) N
set_option maxRecDepth 20000 in
theorem w_Wk_leastClash {N : Nat} {p1 : Int32} {r : Int32} {S9 : St} (C : Cx p s m args meth c E cX9_leastClash 3 RX9 (some .int)) (hw : Wd E (wX V E) s.heap S H locs) (hl : lv_has ls 3 [(0, .ref (ea E 5)), (1, .int p1)]) (hf : Wk_leastClash N S p1 = some (r, S9)) : W p l e (rmh 4) s m args below meth c H locs 0 0 (MQ below (QW E (wX V E) (some (.int r)) S9) args s 0 0 (eA E)) (F0 m 0 ls []) := by
  have hx := C.1
  have hb := C.2.1
  unfold Wk_leastClash at hf
  refine lv_aload_n hx hb dX9_leastClash_0 rfl (lv_at hl 0 rfl) ?_
  refine lv_iload_n hx hb dX9_leastClash_1 rfl (lv_at hl 1 rfl) ?_
  obtain ⟨S1, hr, hf⟩ := hf_1 hf
  refine inv_Vv (q0 := 5) (ci := 9) (As := [.int p1]) lk_X9_19 C hw rfl rfl rfl (t_Wk_fillFits hr) rfl hl.1 dX9_leastClash_2 rfl (Nat.le_of_ble_eq_true rfl) (by decide) (Nat.le_of_ble_eq_true rfl) rfl (fun H locs hw => ?_)
  refine lv_iconst (v := 0) hx hb dX9_leastClash_5 kc_0 ?_
  refine lv_istore_n (lv' := [(2, .int (0 : Int32)), (0, .ref (ea E 5)), (1, .int p1)]) hx hb dX9_leastClash_6 rfl hl (by decide) rfl (fun ls hl => ?_)
  exact w_Wk_leastClash_L7 C _ hf _ _ _ hw (lv_sub hl [1, 2, 0] rfl)
end
theorem t_Wk_leastClash {l : Launch} {V : St} {N : Nat} {S : St} {p1 : Int32} {r : Int32} {S9 : St} (hf : Wk_leastClash N S p1 = some (r, S9)) : Ct l (wX V) yX9_leastClash cX9_leastClash 3 (some .int) 4 (fun E => [.ref (ea E 5), .int p1]) S (fun E => some (.int r)) S9 :=
  ofBlock (by decide +kernel) (fun _ => Nat.le_of_ble_eq_true rfl) (fun E p e s m args below meth c ls C hw hl => w_Wk_leastClash C hw hl hf)
theorem dX10_person_0 : decode cX10_person 0 = .ok (.iload_n 1, 1) := by decide +kernel
theorem dX10_person_1 : decode cX10_person 1 = .ok (.iconst 0, 1) := by decide +kernel
theorem dX10_person_2 : decode cX10_person 2 = .ok (.bipush 30, 2) := by decide +kernel
theorem dX10_person_4 : decode cX10_person 4 = .ok (.invokestatic 83, 3) := by decide +kernel
theorem dX10_person_7 : decode cX10_person 7 = .ok (.ifCond .eq 13, 3) := by decide +kernel
theorem dX10_person_10 : decode cX10_person 10 = .ok (.iload_n 2, 1) := by decide +kernel
theorem dX10_person_11 : decode cX10_person 11 = .ok (.iconst 1, 1) := by decide +kernel
theorem dX10_person_12 : decode cX10_person 12 = .ok (.bipush 60, 2) := by decide +kernel
theorem dX10_person_14 : decode cX10_person 14 = .ok (.invokestatic 83, 3) := by decide +kernel
theorem dX10_person_17 : decode cX10_person 17 = .ok (.ifCond .ne 5, 3) := by decide +kernel
theorem dX10_person_20 : decode cX10_person 20 = .ok (.iconst (-1), 1) := by decide +kernel
theorem dX10_person_21 : decode cX10_person 21 = .ok (.ireturn, 1) := by decide +kernel
theorem dX10_person_22 : decode cX10_person 22 = .ok (.aload_n 0, 1) := by decide +kernel
theorem dX10_person_23 : decode cX10_person 23 = .ok (.getfield 10, 3) := by decide +kernel
theorem dX10_person_26 : decode cX10_person 26 = .ok (.getfield 87, 3) := by decide +kernel
theorem dX10_person_29 : decode cX10_person 29 = .ok (.bipush 6, 2) := by decide +kernel
theorem dX10_person_31 : decode cX10_person 31 = .ok (.if_icmp .ne 8, 3) := by decide +kernel
theorem dX10_person_34 : decode cX10_person 34 = .ok (.bipush (-3), 2) := by decide +kernel
theorem dX10_person_36 : decode cX10_person 36 = .ok (.goto 12, 3) := by decide +kernel
theorem dX10_person_39 : decode cX10_person 39 = .ok (.aload_n 0, 1) := by decide +kernel
theorem dX10_person_40 : decode cX10_person 40 = .ok (.getfield 10, 3) := by decide +kernel
theorem dX10_person_43 : decode cX10_person 43 = .ok (.iload_n 1, 1) := by decide +kernel
theorem dX10_person_44 : decode cX10_person 44 = .ok (.iload_n 2, 1) := by decide +kernel
theorem dX10_person_45 : decode cX10_person 45 = .ok (.invokevirtual 91, 3) := by decide +kernel
theorem dX10_person_48 : decode cX10_person 48 = .ok (.ireturn, 1) := by decide +kernel
section
variable {p : Program} {l : Launch} {e : Env} {s : State} {m : MethodId} {args : Array Value} {below : List Frame} {meth : Method} {c : Code} {H : Heap} {locs : List Loc} {E : Ev} {S V : St} {ls : Array Slot}
set_option maxRecDepth 20000 in
theorem w_Ch_person {p1 : Int32} {p2 : Int32} {r : Int32} {S9 : St} (C : Cx p s m args meth c E cX10_person 3 RX10 (some .int)) (hw : Wd E (wX V E) s.heap S H locs) (hl : lv_has ls 3 [(0, .ref (ea E 0)), (1, .int p1), (2, .int p2)]) (hf : Ch_person S p1 p2 = some (r, S9)) : W p l e (rmh 2) s m args below meth c H locs 0 0 (MQ below (QW E (wX V E) (some (.int r)) S9) args s 0 0 (eA E)) (F0 m 0 ls []) := by
  have hx := C.1
  have hb := C.2.1
  unfold Ch_person at hf
  refine lv_iload_n hx hb dX10_person_0 rfl (lv_at hl 1 rfl) ?_
  refine lv_iconst (v := 0) hx hb dX10_person_1 kc_0 ?_
  refine lv_bipush (v := 30) hx hb dX10_person_2 kb_30 ?_
  obtain ⟨r1, hr, hf⟩ := hf_1 hf
  refine inv_Si (As := [.int p1, .int (0 : Int32), .int (30 : Int32)]) lk_X10_83 C hw (t_Ch_within hr) hl.1 dX10_person_4 rfl (Nat.le_of_ble_eq_true rfl) (by decide) (Nat.le_of_ble_eq_true rfl) rfl (fun H locs hw => ?_)
  refine lv_if_eq (tgt := 20) hx hb dX10_person_7 (by decide) (fun q => ?_) (fun q => ?_)
  · have hf := hf_t q hf
    refine lv_iconst (v := -1) hx hb dX10_person_20 kc_m1 ?_
    exact ret_iS C hw dX10_person_21 hf
  · have hf := hf_f q hf
    refine lv_iload_n hx hb dX10_person_10 rfl (lv_at hl 2 rfl) ?_
    refine lv_iconst (v := 1) hx hb dX10_person_11 kc_1 ?_
    refine lv_bipush (v := 60) hx hb dX10_person_12 kb_60 ?_
    obtain ⟨r2, hr, hf⟩ := hf_1 hf
    refine inv_Si (As := [.int p2, .int (1 : Int32), .int (60 : Int32)]) lk_X10_83 C hw (t_Ch_within hr) hl.1 dX10_person_14 rfl (Nat.le_of_ble_eq_true rfl) (by decide) (Nat.le_of_ble_eq_true rfl) rfl (fun H locs hw => ?_)
    refine lv_if_ne (tgt := 22) hx hb dX10_person_17 (by decide) (fun q => ?_) (fun q => ?_)
    · have hf := hf_f q hf
      refine lv_aload_n hx hb dX10_person_22 rfl (lv_at hl 0 rfl) ?_
      refine get_0_0 C hw q_375 dX10_person_23 ?_
      refine get_1_9 C hw q_134 dX10_person_26 ?_
      refine lv_bipush (v := 6) hx hb dX10_person_29 kb_6 ?_
      refine lv_icmp_ne (tgt := 39) hx hb dX10_person_31 (by decide) (fun q => ?_) (fun q => ?_)
      · have hf := hf_f q hf
        refine lv_aload_n hx hb dX10_person_39 rfl (lv_at hl 0 rfl) ?_
        refine get_0_0 C hw q_375 dX10_person_40 ?_
        refine lv_iload_n hx hb dX10_person_43 rfl (lv_at hl 1 rfl) ?_
        refine lv_iload_n hx hb dX10_person_44 rfl (lv_at hl 2 rfl) ?_
        obtain ⟨r4, S3, hr, hf⟩ := hf_2 hf
        refine inv_Vi (q0 := 1) (ci := 8) (As := [.int p1, .int p2]) lk_X10_91 C hw rfl rfl rfl (t_Sm_addOne hr) rfl hl.1 dX10_person_45 rfl (Nat.le_of_ble_eq_true rfl) (by decide) (Nat.le_of_ble_eq_true rfl) rfl (fun H locs hw => ?_)
        exact ret_iS C hw dX10_person_48 hf
      · have hf := hf_t q hf
        refine lv_bipush (v := -3) hx hb dX10_person_34 kb_m3 ?_
        refine lv_goto (tgt := 48) hx hb dX10_person_36 (by decide) ?_
        exact ret_iS C hw dX10_person_48 hf
    · have hf := hf_t q hf
      refine lv_iconst (v := -1) hx hb dX10_person_20 kc_m1 ?_
      exact ret_iS C hw dX10_person_21 hf
end
theorem t_Ch_person {l : Launch} {V : St} {S : St} {p1 : Int32} {p2 : Int32} {r : Int32} {S9 : St} (hf : Ch_person S p1 p2 = some (r, S9)) : Ct l (wX V) yX10_person cX10_person 3 (some .int) 2 (fun E => [.ref (ea E 0), .int p1, .int p2]) S (fun E => some (.int r)) S9 :=
  ofBlock (by decide +kernel) (fun _ => Nat.le_of_ble_eq_true rfl) (fun E p e s m args below meth c ls C hw hl => w_Ch_person C hw hl hf)
theorem dX10_promise_0 : decode cX10_promise 0 = .ok (.aload_n 0, 1) := by decide +kernel
theorem dX10_promise_1 : decode cX10_promise 1 = .ok (.getfield 10, 3) := by decide +kernel
theorem dX10_promise_4 : decode cX10_promise 4 = .ok (.iload_n 1, 1) := by decide +kernel
theorem dX10_promise_5 : decode cX10_promise 5 = .ok (.bipush 10, 2) := by decide +kernel
theorem dX10_promise_7 : decode cX10_promise 7 = .ok (.idiv, 1) := by decide +kernel
theorem dX10_promise_8 : decode cX10_promise 8 = .ok (.iload_n 2, 1) := by decide +kernel
theorem dX10_promise_9 : decode cX10_promise 9 = .ok (.bipush 100, 2) := by decide +kernel
theorem dX10_promise_11 : decode cX10_promise 11 = .ok (.idiv, 1) := by decide +kernel
theorem dX10_promise_12 : decode cX10_promise 12 = .ok (.iload_n 2, 1) := by decide +kernel
theorem dX10_promise_13 : decode cX10_promise 13 = .ok (.bipush 100, 2) := by decide +kernel
theorem dX10_promise_15 : decode cX10_promise 15 = .ok (.irem, 1) := by decide +kernel
theorem dX10_promise_16 : decode cX10_promise 16 = .ok (.iload_n 1, 1) := by decide +kernel
theorem dX10_promise_17 : decode cX10_promise 17 = .ok (.bipush 10, 2) := by decide +kernel
theorem dX10_promise_19 : decode cX10_promise 19 = .ok (.irem, 1) := by decide +kernel
theorem dX10_promise_20 : decode cX10_promise 20 = .ok (.invokevirtual 95, 3) := by decide +kernel
theorem dX10_promise_23 : decode cX10_promise 23 = .ok (.ifCond .ne 5, 3) := by decide +kernel
theorem dX10_promise_26 : decode cX10_promise 26 = .ok (.iconst (-1), 1) := by decide +kernel
theorem dX10_promise_27 : decode cX10_promise 27 = .ok (.ireturn, 1) := by decide +kernel
theorem dX10_promise_28 : decode cX10_promise 28 = .ok (.aload_n 0, 1) := by decide +kernel
theorem dX10_promise_29 : decode cX10_promise 29 = .ok (.getfield 10, 3) := by decide +kernel
theorem dX10_promise_32 : decode cX10_promise 32 = .ok (.invokevirtual 99, 3) := by decide +kernel
theorem dX10_promise_35 : decode cX10_promise 35 = .ok (.ifCond .eq 8, 3) := by decide +kernel
theorem dX10_promise_38 : decode cX10_promise 38 = .ok (.bipush (-3), 2) := by decide +kernel
theorem dX10_promise_40 : decode cX10_promise 40 = .ok (.goto 26, 3) := by decide +kernel
theorem dX10_promise_43 : decode cX10_promise 43 = .ok (.aload_n 0, 1) := by decide +kernel
theorem dX10_promise_44 : decode cX10_promise 44 = .ok (.getfield 10, 3) := by decide +kernel
theorem dX10_promise_47 : decode cX10_promise 47 = .ok (.iload_n 1, 1) := by decide +kernel
theorem dX10_promise_48 : decode cX10_promise 48 = .ok (.bipush 10, 2) := by decide +kernel
theorem dX10_promise_50 : decode cX10_promise 50 = .ok (.idiv, 1) := by decide +kernel
theorem dX10_promise_51 : decode cX10_promise 51 = .ok (.iload_n 2, 1) := by decide +kernel
theorem dX10_promise_52 : decode cX10_promise 52 = .ok (.bipush 100, 2) := by decide +kernel
theorem dX10_promise_54 : decode cX10_promise 54 = .ok (.idiv, 1) := by decide +kernel
theorem dX10_promise_55 : decode cX10_promise 55 = .ok (.iload_n 2, 1) := by decide +kernel
theorem dX10_promise_56 : decode cX10_promise 56 = .ok (.bipush 100, 2) := by decide +kernel
theorem dX10_promise_58 : decode cX10_promise 58 = .ok (.irem, 1) := by decide +kernel
theorem dX10_promise_59 : decode cX10_promise 59 = .ok (.iload_n 1, 1) := by decide +kernel
theorem dX10_promise_60 : decode cX10_promise 60 = .ok (.bipush 10, 2) := by decide +kernel
theorem dX10_promise_62 : decode cX10_promise 62 = .ok (.irem, 1) := by decide +kernel
theorem dX10_promise_63 : decode cX10_promise 63 = .ok (.invokevirtual 103, 3) := by decide +kernel
theorem dX10_promise_66 : decode cX10_promise 66 = .ok (.ireturn, 1) := by decide +kernel
section
variable {p : Program} {l : Launch} {e : Env} {s : State} {m : MethodId} {args : Array Value} {below : List Frame} {meth : Method} {c : Code} {H : Heap} {locs : List Loc} {E : Ev} {S V : St} {ls : Array Slot}
set_option maxRecDepth 20000 in
theorem w_Ch_promise {p1 : Int32} {p2 : Int32} {r : Int32} {S9 : St} (C : Cx p s m args meth c E cX10_promise 3 RX10 (some .int)) (hw : Wd E (wX V E) s.heap S H locs) (hl : lv_has ls 3 [(0, .ref (ea E 0)), (1, .int p1), (2, .int p2)]) (hf : Ch_promise S p1 p2 = some (r, S9)) : W p l e (rmh 4) s m args below meth c H locs 0 0 (MQ below (QW E (wX V E) (some (.int r)) S9) args s 0 0 (eA E)) (F0 m 0 ls []) := by
  have hx := C.1
  have hb := C.2.1
  unfold Ch_promise at hf
  refine lv_aload_n hx hb dX10_promise_0 rfl (lv_at hl 0 rfl) ?_
  refine get_0_0 C hw q_375 dX10_promise_1 ?_
  refine lv_iload_n hx hb dX10_promise_4 rfl (lv_at hl 1 rfl) ?_
  refine lv_bipush (v := 10) hx hb dX10_promise_5 kb_10 ?_
  refine lv_idiv hx hb dX10_promise_7 (by decide) ?_
  refine lv_iload_n hx hb dX10_promise_8 rfl (lv_at hl 2 rfl) ?_
  refine lv_bipush (v := 100) hx hb dX10_promise_9 kb_100 ?_
  refine lv_idiv hx hb dX10_promise_11 (by decide) ?_
  refine lv_iload_n hx hb dX10_promise_12 rfl (lv_at hl 2 rfl) ?_
  refine lv_bipush (v := 100) hx hb dX10_promise_13 kb_100 ?_
  refine lv_irem hx hb dX10_promise_15 (by decide) ?_
  refine lv_iload_n hx hb dX10_promise_16 rfl (lv_at hl 1 rfl) ?_
  refine lv_bipush (v := 10) hx hb dX10_promise_17 kb_10 ?_
  refine lv_irem hx hb dX10_promise_19 (by decide) ?_
  obtain ⟨r1, hr, hf⟩ := hf_1 hf
  refine inv_Vi (q0 := 1) (ci := 8) (As := [.int (p1 / (10 : Int32)), .int (p2 / (100 : Int32)), .int (p2 - p2 / (100 : Int32) * (100 : Int32)), .int (p1 - p1 / (10 : Int32) * (10 : Int32))]) lk_X10_95 C hw rfl rfl rfl (t_Sm_canPromise hr) rfl hl.1 dX10_promise_20 rfl (Nat.le_of_ble_eq_true rfl) (by decide) (Nat.le_of_ble_eq_true rfl) rfl (fun H locs hw => ?_)
  refine lv_if_ne (tgt := 28) hx hb dX10_promise_23 (by decide) (fun q => ?_) (fun q => ?_)
  · have hf := hf_f q hf
    refine lv_aload_n hx hb dX10_promise_28 rfl (lv_at hl 0 rfl) ?_
    refine get_0_0 C hw q_375 dX10_promise_29 ?_
    obtain ⟨r2, hr, hf⟩ := hf_1 hf
    refine inv_Vi (q0 := 1) (ci := 8) (As := []) lk_X10_99 C hw rfl rfl rfl (t_Sm_isFull hr) rfl hl.1 dX10_promise_32 rfl (Nat.le_of_ble_eq_true rfl) (by decide) (Nat.le_of_ble_eq_true rfl) rfl (fun H locs hw => ?_)
    refine lv_if_eq (tgt := 43) hx hb dX10_promise_35 (by decide) (fun q => ?_) (fun q => ?_)
    · have hf := hf_t q hf
      refine lv_aload_n hx hb dX10_promise_43 rfl (lv_at hl 0 rfl) ?_
      refine get_0_0 C hw q_375 dX10_promise_44 ?_
      refine lv_iload_n hx hb dX10_promise_47 rfl (lv_at hl 1 rfl) ?_
      refine lv_bipush (v := 10) hx hb dX10_promise_48 kb_10 ?_
      refine lv_idiv hx hb dX10_promise_50 (by decide) ?_
      refine lv_iload_n hx hb dX10_promise_51 rfl (lv_at hl 2 rfl) ?_
      refine lv_bipush (v := 100) hx hb dX10_promise_52 kb_100 ?_
      refine lv_idiv hx hb dX10_promise_54 (by decide) ?_
      refine lv_iload_n hx hb dX10_promise_55 rfl (lv_at hl 2 rfl) ?_
      refine lv_bipush (v := 100) hx hb dX10_promise_56 kb_100 ?_
      refine lv_irem hx hb dX10_promise_58 (by decide) ?_
      refine lv_iload_n hx hb dX10_promise_59 rfl (lv_at hl 1 rfl) ?_
      refine lv_bipush (v := 10) hx hb dX10_promise_60 kb_10 ?_
      refine lv_irem hx hb dX10_promise_62 (by decide) ?_
      obtain ⟨r4, S3, hr, hf⟩ := hf_2 hf
      refine inv_Vi (q0 := 1) (ci := 8) (As := [.int (p1 / (10 : Int32)), .int (p2 / (100 : Int32)), .int (p2 - p2 / (100 : Int32) * (100 : Int32)), .int (p1 - p1 / (10 : Int32) * (10 : Int32))]) lk_X10_103 C hw rfl rfl rfl (t_Sm_addPromise hr) rfl hl.1 dX10_promise_63 rfl (Nat.le_of_ble_eq_true rfl) (by decide) (Nat.le_of_ble_eq_true rfl) rfl (fun H locs hw => ?_)
      exact ret_iS C hw dX10_promise_66 hf
    · have hf := hf_f q hf
      refine lv_bipush (v := -3) hx hb dX10_promise_38 kb_m3 ?_
      refine lv_goto (tgt := 66) hx hb dX10_promise_40 (by decide) ?_
      exact ret_iS C hw dX10_promise_66 hf
  · have hf := hf_t q hf
    refine lv_iconst (v := -1) hx hb dX10_promise_26 kc_m1 ?_
    exact ret_iS C hw dX10_promise_27 hf
end
theorem t_Ch_promise {l : Launch} {V : St} {S : St} {p1 : Int32} {p2 : Int32} {r : Int32} {S9 : St} (hf : Ch_promise S p1 p2 = some (r, S9)) : Ct l (wX V) yX10_promise cX10_promise 3 (some .int) 4 (fun E => [.ref (ea E 0), .int p1, .int p2]) S (fun E => some (.int r)) S9 :=
  ofBlock (by decide +kernel) (fun _ => Nat.le_of_ble_eq_true rfl) (fun E p e s m args below meth c ls C hw hl => w_Ch_promise C hw hl hf)
