theorem dX0_dropOldest_0 : decode cX0_dropOldest 0 = .ok (.aload_n 0, 1) := by decide +kernel
theorem dX0_dropOldest_1 : decode cX0_dropOldest 1 = .ok (.getfield 9, 3) := by decide +kernel
theorem dX0_dropOldest_4 : decode cX0_dropOldest 4 = .ok (.iconst 1, 1) := by decide +kernel
theorem dX0_dropOldest_5 : decode cX0_dropOldest 5 = .ok (.aload_n 0, 1) := by decide +kernel
theorem dX0_dropOldest_6 : decode cX0_dropOldest 6 = .ok (.getfield 9, 3) := by decide +kernel
theorem dX0_dropOldest_9 : decode cX0_dropOldest 9 = .ok (.iconst 0, 1) := by decide +kernel
theorem dX0_dropOldest_10 : decode cX0_dropOldest 10 = .ok (.bipush 39, 2) := by decide +kernel
theorem dX0_dropOldest_12 : decode cX0_dropOldest 12 = .ok (.invokestatic 32, 3) := by decide +kernel
theorem dX0_dropOldest_15 : decode cX0_dropOldest 15 = .ok (.aload_n 0, 1) := by decide +kernel
theorem dX0_dropOldest_16 : decode cX0_dropOldest 16 = .ok (.getfield 13, 3) := by decide +kernel
theorem dX0_dropOldest_19 : decode cX0_dropOldest 19 = .ok (.iconst 1, 1) := by decide +kernel
theorem dX0_dropOldest_20 : decode cX0_dropOldest 20 = .ok (.aload_n 0, 1) := by decide +kernel
theorem dX0_dropOldest_21 : decode cX0_dropOldest 21 = .ok (.getfield 13, 3) := by decide +kernel
theorem dX0_dropOldest_24 : decode cX0_dropOldest 24 = .ok (.iconst 0, 1) := by decide +kernel
theorem dX0_dropOldest_25 : decode cX0_dropOldest 25 = .ok (.bipush 39, 2) := by decide +kernel
theorem dX0_dropOldest_27 : decode cX0_dropOldest 27 = .ok (.invokestatic 32, 3) := by decide +kernel
theorem dX0_dropOldest_30 : decode cX0_dropOldest 30 = .ok (.aload_n 0, 1) := by decide +kernel
theorem dX0_dropOldest_31 : decode cX0_dropOldest 31 = .ok (.getfield 16, 3) := by decide +kernel
theorem dX0_dropOldest_34 : decode cX0_dropOldest 34 = .ok (.iconst 1, 1) := by decide +kernel
theorem dX0_dropOldest_35 : decode cX0_dropOldest 35 = .ok (.aload_n 0, 1) := by decide +kernel
theorem dX0_dropOldest_36 : decode cX0_dropOldest 36 = .ok (.getfield 16, 3) := by decide +kernel
theorem dX0_dropOldest_39 : decode cX0_dropOldest 39 = .ok (.iconst 0, 1) := by decide +kernel
theorem dX0_dropOldest_40 : decode cX0_dropOldest 40 = .ok (.bipush 39, 2) := by decide +kernel
theorem dX0_dropOldest_42 : decode cX0_dropOldest 42 = .ok (.invokestatic 32, 3) := by decide +kernel
theorem dX0_dropOldest_45 : decode cX0_dropOldest 45 = .ok (.aload_n 0, 1) := by decide +kernel
theorem dX0_dropOldest_46 : decode cX0_dropOldest 46 = .ok (.getfield 19, 3) := by decide +kernel
theorem dX0_dropOldest_49 : decode cX0_dropOldest 49 = .ok (.iconst 1, 1) := by decide +kernel
theorem dX0_dropOldest_50 : decode cX0_dropOldest 50 = .ok (.aload_n 0, 1) := by decide +kernel
theorem dX0_dropOldest_51 : decode cX0_dropOldest 51 = .ok (.getfield 19, 3) := by decide +kernel
theorem dX0_dropOldest_54 : decode cX0_dropOldest 54 = .ok (.iconst 0, 1) := by decide +kernel
theorem dX0_dropOldest_55 : decode cX0_dropOldest 55 = .ok (.bipush 39, 2) := by decide +kernel
theorem dX0_dropOldest_57 : decode cX0_dropOldest 57 = .ok (.invokestatic 32, 3) := by decide +kernel
theorem dX0_dropOldest_60 : decode cX0_dropOldest 60 = .ok (.aload_n 0, 1) := by decide +kernel
theorem dX0_dropOldest_61 : decode cX0_dropOldest 61 = .ok (.dup, 1) := by decide +kernel
theorem dX0_dropOldest_62 : decode cX0_dropOldest 62 = .ok (.getfield 22, 3) := by decide +kernel
theorem dX0_dropOldest_65 : decode cX0_dropOldest 65 = .ok (.iconst 1, 1) := by decide +kernel
theorem dX0_dropOldest_66 : decode cX0_dropOldest 66 = .ok (.isub, 1) := by decide +kernel
theorem dX0_dropOldest_67 : decode cX0_dropOldest 67 = .ok (.putfield 22, 3) := by decide +kernel
theorem dX0_dropOldest_70 : decode cX0_dropOldest 70 = .ok (.return_, 1) := by decide +kernel
section
variable {p : Program} {l : Launch} {e : Env} {s : State} {m : MethodId} {args : Array Value} {below : List Frame} {meth : Method} {c : Code} {H : Heap} {locs : List Loc} {E : Ev} {S V : St} {ls : Array Slot}
set_option maxRecDepth 20000 in
theorem w_Cg_dropOldest {S9 : St} (C : Cx p s m args meth c E cX0_dropOldest 1 RX0 none) (hw : Wd E (wX V E) s.heap S H locs) (hl : lv_has ls 1 [(0, .ref (ea E 8))]) (hf : Cg_dropOldest S = some S9) : W p l e (rmh 1) s m args below meth c H locs 0 0 (MQ below (QW E (wX V E) (none) S9) args s 0 0 (eA E)) (F0 m 0 ls []) := by
  have hx := C.1
  have hb := C.2.1
  unfold Cg_dropOldest at hf
  refine lv_aload_n hx hb dX0_dropOldest_0 rfl (lv_at hl 0 rfl) ?_
  refine get_8_2 C hw q_266 dX0_dropOldest_1 ?_
  refine lv_iconst (v := 1) hx hb dX0_dropOldest_4 kc_1 ?_
  refine lv_aload_n hx hb dX0_dropOldest_5 rfl (lv_at hl 0 rfl) ?_
  refine get_8_2 C hw q_266 dX0_dropOldest_6 ?_
  refine lv_iconst (v := 0) hx hb dX0_dropOldest_9 kc_0 ?_
  refine lv_bipush (v := 39) hx hb dX0_dropOldest_10 kb_39 ?_
  obtain ⟨hc, hf⟩ := hf_ck hf
  refine copy_34_34 C hw hc q_498 hl.1 dX0_dropOldest_12 (Nat.le_of_ble_eq_true rfl) (fun H locs hw => ?_)
  refine nm_S hf hw (fun S1 hf hw => ?_)
  refine lv_aload_n hx hb dX0_dropOldest_15 rfl (lv_at hl 0 rfl) ?_
  refine get_8_3 C hw q_267 dX0_dropOldest_16 ?_
  refine lv_iconst (v := 1) hx hb dX0_dropOldest_19 kc_1 ?_
  refine lv_aload_n hx hb dX0_dropOldest_20 rfl (lv_at hl 0 rfl) ?_
  refine get_8_3 C hw q_267 dX0_dropOldest_21 ?_
  refine lv_iconst (v := 0) hx hb dX0_dropOldest_24 kc_0 ?_
  refine lv_bipush (v := 39) hx hb dX0_dropOldest_25 kb_39 ?_
  obtain ⟨hc, hf⟩ := hf_ck hf
  refine copy_35_35 C hw hc q_498 hl.1 dX0_dropOldest_27 (Nat.le_of_ble_eq_true rfl) (fun H locs hw => ?_)
  refine nm_S hf hw (fun S2 hf hw => ?_)
  refine lv_aload_n hx hb dX0_dropOldest_30 rfl (lv_at hl 0 rfl) ?_
  refine get_8_4 C hw q_268 dX0_dropOldest_31 ?_
  refine lv_iconst (v := 1) hx hb dX0_dropOldest_34 kc_1 ?_
  refine lv_aload_n hx hb dX0_dropOldest_35 rfl (lv_at hl 0 rfl) ?_
  refine get_8_4 C hw q_268 dX0_dropOldest_36 ?_
  refine lv_iconst (v := 0) hx hb dX0_dropOldest_39 kc_0 ?_
  refine lv_bipush (v := 39) hx hb dX0_dropOldest_40 kb_39 ?_
  obtain ⟨hc, hf⟩ := hf_ck hf
  refine copy_36_36 C hw hc q_498 hl.1 dX0_dropOldest_42 (Nat.le_of_ble_eq_true rfl) (fun H locs hw => ?_)
  refine nm_S hf hw (fun S3 hf hw => ?_)
  refine lv_aload_n hx hb dX0_dropOldest_45 rfl (lv_at hl 0 rfl) ?_
  refine get_8_5 C hw q_269 dX0_dropOldest_46 ?_
  refine lv_iconst (v := 1) hx hb dX0_dropOldest_49 kc_1 ?_
  refine lv_aload_n hx hb dX0_dropOldest_50 rfl (lv_at hl 0 rfl) ?_
  refine get_8_5 C hw q_269 dX0_dropOldest_51 ?_
  refine lv_iconst (v := 0) hx hb dX0_dropOldest_54 kc_0 ?_
  refine lv_bipush (v := 39) hx hb dX0_dropOldest_55 kb_39 ?_
  obtain ⟨hc, hf⟩ := hf_ck hf
  refine copy_37_37 C hw hc q_498 hl.1 dX0_dropOldest_57 (Nat.le_of_ble_eq_true rfl) (fun H locs hw => ?_)
  refine nm_S hf hw (fun S4 hf hw => ?_)
  refine lv_aload_n hx hb dX0_dropOldest_60 rfl (lv_at hl 0 rfl) ?_
  refine lv_dup hx hb dX0_dropOldest_61 rfl ?_
  refine get_8_0 C hw q_262 dX0_dropOldest_62 ?_
  refine lv_iconst (v := 1) hx hb dX0_dropOldest_65 kc_1 ?_
  refine lv_isub hx hb dX0_dropOldest_66 ?_
  refine put_8_0 C hw q_262 dX0_dropOldest_67 (fun H locs hw => ?_)
  refine nm_S hf hw (fun S5 hf hw => ?_)
  exact ret_vS C hw dX0_dropOldest_70 hf
end
theorem t_Cg_dropOldest {l : Launch} {V : St} {S : St} {S9 : St} (hf : Cg_dropOldest S = some S9) : Ct l (wX V) yX0_dropOldest cX0_dropOldest 1 none 1 (fun E => [.ref (ea E 8)]) S (fun E => none) S9 :=
  ofBlock (by decide +kernel) (fun _ => Nat.le_of_ble_eq_true rfl) (fun E p e s m args below meth c ls C hw hl => w_Cg_dropOldest C hw hl hf)
theorem dX0_add_0 : decode cX0_add 0 = .ok (.aload_n 0, 1) := by decide +kernel
theorem dX0_add_1 : decode cX0_add 1 = .ok (.getfield 22, 3) := by decide +kernel
theorem dX0_add_4 : decode cX0_add 4 = .ok (.bipush 40, 2) := by decide +kernel
theorem dX0_add_6 : decode cX0_add 6 = .ok (.if_icmp .ne 7, 3) := by decide +kernel
theorem dX0_add_9 : decode cX0_add 9 = .ok (.aload_n 0, 1) := by decide +kernel
theorem dX0_add_10 : decode cX0_add 10 = .ok (.invokevirtual 26, 3) := by decide +kernel
theorem dX0_add_13 : decode cX0_add 13 = .ok (.aload_n 0, 1) := by decide +kernel
theorem dX0_add_14 : decode cX0_add 14 = .ok (.getfield 9, 3) := by decide +kernel
theorem dX0_add_17 : decode cX0_add 17 = .ok (.aload_n 0, 1) := by decide +kernel
theorem dX0_add_18 : decode cX0_add 18 = .ok (.getfield 22, 3) := by decide +kernel
theorem dX0_add_21 : decode cX0_add 21 = .ok (.iload_n 1, 1) := by decide +kernel
theorem dX0_add_22 : decode cX0_add 22 = .ok (.iastore, 1) := by decide +kernel
theorem dX0_add_23 : decode cX0_add 23 = .ok (.aload_n 0, 1) := by decide +kernel
theorem dX0_add_24 : decode cX0_add 24 = .ok (.getfield 13, 3) := by decide +kernel
theorem dX0_add_27 : decode cX0_add 27 = .ok (.aload_n 0, 1) := by decide +kernel
theorem dX0_add_28 : decode cX0_add 28 = .ok (.getfield 22, 3) := by decide +kernel
theorem dX0_add_31 : decode cX0_add 31 = .ok (.iload_n 2, 1) := by decide +kernel
theorem dX0_add_32 : decode cX0_add 32 = .ok (.iastore, 1) := by decide +kernel
theorem dX0_add_33 : decode cX0_add 33 = .ok (.aload_n 0, 1) := by decide +kernel
theorem dX0_add_34 : decode cX0_add 34 = .ok (.getfield 16, 3) := by decide +kernel
theorem dX0_add_37 : decode cX0_add 37 = .ok (.aload_n 0, 1) := by decide +kernel
theorem dX0_add_38 : decode cX0_add 38 = .ok (.getfield 22, 3) := by decide +kernel
theorem dX0_add_41 : decode cX0_add 41 = .ok (.iload_n 3, 1) := by decide +kernel
theorem dX0_add_42 : decode cX0_add 42 = .ok (.iastore, 1) := by decide +kernel
theorem dX0_add_43 : decode cX0_add 43 = .ok (.aload_n 0, 1) := by decide +kernel
theorem dX0_add_44 : decode cX0_add 44 = .ok (.getfield 19, 3) := by decide +kernel
theorem dX0_add_47 : decode cX0_add 47 = .ok (.aload_n 0, 1) := by decide +kernel
theorem dX0_add_48 : decode cX0_add 48 = .ok (.getfield 22, 3) := by decide +kernel
theorem dX0_add_51 : decode cX0_add 51 = .ok (.iload 4, 2) := by decide +kernel
theorem dX0_add_53 : decode cX0_add 53 = .ok (.iastore, 1) := by decide +kernel
theorem dX0_add_54 : decode cX0_add 54 = .ok (.aload_n 0, 1) := by decide +kernel
theorem dX0_add_55 : decode cX0_add 55 = .ok (.dup, 1) := by decide +kernel
theorem dX0_add_56 : decode cX0_add 56 = .ok (.getfield 22, 3) := by decide +kernel
theorem dX0_add_59 : decode cX0_add 59 = .ok (.iconst 1, 1) := by decide +kernel
theorem dX0_add_60 : decode cX0_add 60 = .ok (.iadd, 1) := by decide +kernel
theorem dX0_add_61 : decode cX0_add 61 = .ok (.putfield 22, 3) := by decide +kernel
theorem dX0_add_64 : decode cX0_add 64 = .ok (.aload_n 0, 1) := by decide +kernel
theorem dX0_add_65 : decode cX0_add 65 = .ok (.aload_n 0, 1) := by decide +kernel
theorem dX0_add_66 : decode cX0_add 66 = .ok (.getfield 22, 3) := by decide +kernel
theorem dX0_add_69 : decode cX0_add 69 = .ok (.putfield 29, 3) := by decide +kernel
theorem dX0_add_72 : decode cX0_add 72 = .ok (.return_, 1) := by decide +kernel
section
variable {p : Program} {l : Launch} {e : Env} {s : State} {m : MethodId} {args : Array Value} {below : List Frame} {meth : Method} {c : Code} {H : Heap} {locs : List Loc} {E : Ev} {S V : St} {ls : Array Slot}
set_option maxRecDepth 20000 in
theorem w_Cg_add_b13 {l1 : Int32} {l2 : Int32} {l3 : Int32} {l4 : Int32} {S9 : St} (C : Cx p s m args meth c E cX0_add 5 RX0 none) (hw : Wd E (wX V E) s.heap S H locs) (hl : lv_has ls 5 [(0, .ref (ea E 8)), (1, .int l1), (2, .int l2), (3, .int l3), (4, .int l4)]) (hf : Cg_add_b13 S l1 l2 l3 l4 = some S9) : W p l e (rmh 2) s m args below meth c H locs 0 0 (MQ below (QW E (wX V E) (none) S9) args s 0 0 (eA E)) (F0 m 13 ls []) := by
  have hx := C.1
  have hb := C.2.1
  unfold Cg_add_b13 at hf
  refine lv_aload_n hx hb dX0_add_13 rfl (lv_at hl 0 rfl) ?_
  refine get_8_2 C hw q_266 dX0_add_14 ?_
  refine lv_aload_n hx hb dX0_add_17 rfl (lv_at hl 0 rfl) ?_
  refine get_8_0 C hw q_262 dX0_add_18 ?_
  refine lv_iload_n hx hb dX0_add_21 rfl (lv_at hl 1 rfl) ?_
  obtain ⟨hc, hf⟩ := hf_ck hf
  refine st_34 C hw hc dX0_add_22 (fun H locs hw => ?_)
  refine nm_S hf hw (fun S1 hf hw => ?_)
  refine lv_aload_n hx hb dX0_add_23 rfl (lv_at hl 0 rfl) ?_
  refine get_8_3 C hw q_267 dX0_add_24 ?_
  refine lv_aload_n hx hb dX0_add_27 rfl (lv_at hl 0 rfl) ?_
  refine get_8_0 C hw q_262 dX0_add_28 ?_
  refine lv_iload_n hx hb dX0_add_31 rfl (lv_at hl 2 rfl) ?_
  obtain ⟨hc, hf⟩ := hf_ck hf
  refine st_35 C hw hc dX0_add_32 (fun H locs hw => ?_)
  refine nm_S hf hw (fun S2 hf hw => ?_)
  refine lv_aload_n hx hb dX0_add_33 rfl (lv_at hl 0 rfl) ?_
  refine get_8_4 C hw q_268 dX0_add_34 ?_
  refine lv_aload_n hx hb dX0_add_37 rfl (lv_at hl 0 rfl) ?_
  refine get_8_0 C hw q_262 dX0_add_38 ?_
  refine lv_iload_n hx hb dX0_add_41 rfl (lv_at hl 3 rfl) ?_
  obtain ⟨hc, hf⟩ := hf_ck hf
  refine st_36 C hw hc dX0_add_42 (fun H locs hw => ?_)
  refine nm_S hf hw (fun S3 hf hw => ?_)
  refine lv_aload_n hx hb dX0_add_43 rfl (lv_at hl 0 rfl) ?_
  refine get_8_5 C hw q_269 dX0_add_44 ?_
  refine lv_aload_n hx hb dX0_add_47 rfl (lv_at hl 0 rfl) ?_
  refine get_8_0 C hw q_262 dX0_add_48 ?_
  refine lv_iload hx hb dX0_add_51 (lv_at hl 4 rfl) ?_
  obtain ⟨hc, hf⟩ := hf_ck hf
  refine st_37 C hw hc dX0_add_53 (fun H locs hw => ?_)
  refine nm_S hf hw (fun S4 hf hw => ?_)
  refine lv_aload_n hx hb dX0_add_54 rfl (lv_at hl 0 rfl) ?_
  refine lv_dup hx hb dX0_add_55 rfl ?_
  refine get_8_0 C hw q_262 dX0_add_56 ?_
  refine lv_iconst (v := 1) hx hb dX0_add_59 kc_1 ?_
  refine lv_iadd hx hb dX0_add_60 ?_
  refine put_8_0 C hw q_262 dX0_add_61 (fun H locs hw => ?_)
  refine nm_S hf hw (fun S5 hf hw => ?_)
  refine lv_aload_n hx hb dX0_add_64 rfl (lv_at hl 0 rfl) ?_
  refine lv_aload_n hx hb dX0_add_65 rfl (lv_at hl 0 rfl) ?_
  refine get_8_0 C hw q_262 dX0_add_66 ?_
  refine put_8_1 C hw q_264 dX0_add_69 (fun H locs hw => ?_)
  refine nm_S hf hw (fun S6 hf hw => ?_)
  exact ret_vS C hw dX0_add_72 hf
set_option maxRecDepth 20000 in
theorem w_Cg_add {p1 : Int32} {p2 : Int32} {p3 : Int32} {p4 : Int32} {S9 : St} (C : Cx p s m args meth c E cX0_add 5 RX0 none) (hw : Wd E (wX V E) s.heap S H locs) (hl : lv_has ls 5 [(0, .ref (ea E 8)), (1, .int p1), (2, .int p2), (3, .int p3), (4, .int p4)]) (hf : Cg_add S p1 p2 p3 p4 = some S9) : W p l e (rmh 2) s m args below meth c H locs 0 0 (MQ below (QW E (wX V E) (none) S9) args s 0 0 (eA E)) (F0 m 0 ls []) := by
  have hx := C.1
  have hb := C.2.1
  unfold Cg_add at hf
  refine lv_aload_n hx hb dX0_add_0 rfl (lv_at hl 0 rfl) ?_
  refine get_8_0 C hw q_262 dX0_add_1 ?_
  refine lv_bipush (v := 40) hx hb dX0_add_4 kb_40 ?_
  refine lv_icmp_ne (tgt := 13) hx hb dX0_add_6 (by decide) (fun q => ?_) (fun q => ?_)
  · have hf := hf_f q hf
    exact w_Cg_add_b13 C hw (lv_sub hl [0, 1, 2, 3, 4] rfl) hf
  · have hf := hf_t q hf
    refine lv_aload_n hx hb dX0_add_9 rfl (lv_at hl 0 rfl) ?_
    obtain ⟨S1, hr, hf⟩ := hf_1 hf
    refine inv_Vv (q0 := 8) (ci := 0) (As := []) lk_X0_26 C hw rfl rfl rfl (t_Cg_dropOldest hr) rfl hl.1 dX0_add_10 rfl (Nat.le_of_ble_eq_true rfl) (by decide) (Nat.le_of_ble_eq_true rfl) rfl (fun H locs hw => ?_)
    exact w_Cg_add_b13 C hw (lv_sub hl [0, 1, 2, 3, 4] rfl) hf
end
theorem t_Cg_add {l : Launch} {V : St} {S : St} {p1 : Int32} {p2 : Int32} {p3 : Int32} {p4 : Int32} {S9 : St} (hf : Cg_add S p1 p2 p3 p4 = some S9) : Ct l (wX V) yX0_add cX0_add 5 none 2 (fun E => [.ref (ea E 8), .int p1, .int p2, .int p3, .int p4]) S (fun E => none) S9 :=
  ofBlock (by decide +kernel) (fun _ => Nat.le_of_ble_eq_true rfl) (fun E p e s m args below meth c ls C hw hl => w_Cg_add C hw hl hf)
theorem dX8_rowOf_0 : decode cX8_rowOf 0 = .ok (.iload_n 1, 1) := by decide +kernel
theorem dX8_rowOf_1 : decode cX8_rowOf 1 = .ok (.tableswitch 87 0 7 #[47, 52, 57, 62, 67, 72, 77, 82], 47) := by decide +kernel
theorem dX8_rowOf_48 : decode cX8_rowOf 48 = .ok (.aload_n 0, 1) := by decide +kernel
theorem dX8_rowOf_49 : decode cX8_rowOf 49 = .ok (.getfield 9, 3) := by decide +kernel
theorem dX8_rowOf_52 : decode cX8_rowOf 52 = .ok (.areturn, 1) := by decide +kernel
theorem dX8_rowOf_53 : decode cX8_rowOf 53 = .ok (.aload_n 0, 1) := by decide +kernel
theorem dX8_rowOf_54 : decode cX8_rowOf 54 = .ok (.getfield 15, 3) := by decide +kernel
theorem dX8_rowOf_57 : decode cX8_rowOf 57 = .ok (.areturn, 1) := by decide +kernel
theorem dX8_rowOf_58 : decode cX8_rowOf 58 = .ok (.aload_n 0, 1) := by decide +kernel
theorem dX8_rowOf_59 : decode cX8_rowOf 59 = .ok (.getfield 18, 3) := by decide +kernel
theorem dX8_rowOf_62 : decode cX8_rowOf 62 = .ok (.areturn, 1) := by decide +kernel
theorem dX8_rowOf_63 : decode cX8_rowOf 63 = .ok (.aload_n 0, 1) := by decide +kernel
theorem dX8_rowOf_64 : decode cX8_rowOf 64 = .ok (.getfield 27, 3) := by decide +kernel
theorem dX8_rowOf_67 : decode cX8_rowOf 67 = .ok (.areturn, 1) := by decide +kernel
theorem dX8_rowOf_68 : decode cX8_rowOf 68 = .ok (.aload_n 0, 1) := by decide +kernel
theorem dX8_rowOf_69 : decode cX8_rowOf 69 = .ok (.getfield 30, 3) := by decide +kernel
theorem dX8_rowOf_72 : decode cX8_rowOf 72 = .ok (.areturn, 1) := by decide +kernel
theorem dX8_rowOf_73 : decode cX8_rowOf 73 = .ok (.aload_n 0, 1) := by decide +kernel
theorem dX8_rowOf_74 : decode cX8_rowOf 74 = .ok (.getfield 33, 3) := by decide +kernel
theorem dX8_rowOf_77 : decode cX8_rowOf 77 = .ok (.areturn, 1) := by decide +kernel
theorem dX8_rowOf_78 : decode cX8_rowOf 78 = .ok (.aload_n 0, 1) := by decide +kernel
theorem dX8_rowOf_79 : decode cX8_rowOf 79 = .ok (.getfield 36, 3) := by decide +kernel
theorem dX8_rowOf_82 : decode cX8_rowOf 82 = .ok (.areturn, 1) := by decide +kernel
theorem dX8_rowOf_83 : decode cX8_rowOf 83 = .ok (.aload_n 0, 1) := by decide +kernel
theorem dX8_rowOf_84 : decode cX8_rowOf 84 = .ok (.getfield 21, 3) := by decide +kernel
theorem dX8_rowOf_87 : decode cX8_rowOf 87 = .ok (.areturn, 1) := by decide +kernel
theorem dX8_rowOf_88 : decode cX8_rowOf 88 = .ok (.aload_n 0, 1) := by decide +kernel
theorem dX8_rowOf_89 : decode cX8_rowOf 89 = .ok (.getfield 24, 3) := by decide +kernel
theorem dX8_rowOf_92 : decode cX8_rowOf 92 = .ok (.areturn, 1) := by decide +kernel
section
variable {p : Program} {l : Launch} {e : Env} {s : State} {m : MethodId} {args : Array Value} {below : List Frame} {meth : Method} {c : Code} {H : Heap} {locs : List Loc} {E : Ev} {S V : St} {ls : Array Slot}
set_option maxRecDepth 20000 in
theorem w_Sm_rowOf {p1 : Int32} {r : Nat} (C : Cx p s m args meth c E cX8_rowOf 2 RX8 (some (.array .int))) (hw : Wd E (wX V E) s.heap S H locs) (hl : lv_has ls 2 [(0, .ref (ea E 1)), (1, .int p1)]) (hf : Sm_rowOf S p1 = some r) : W p l e (rmh 1) s m args below meth c H locs 0 0 (MQ below (QW E (wX V E) (some (.ref (ea E r))) S) args s 0 0 (eA E)) (F0 m 0 ls []) := by
  have hx := C.1
  have hb := C.2.1
  unfold Sm_rowOf at hf
  refine lv_iload_n hx hb dX8_rowOf_0 rfl (lv_at hl 1 rfl) ?_
  by_cases q0 : p1 = 0
  · have hf := hf_t q0 hf
    refine lv_tableIn (off := 47) (tgt := 48) hx hb dX8_rowOf_1 (by rw [q0]; decide) (by rw [q0]; decide) (by rw [q0]; rfl) (by decide) ?_
    refine lv_aload_n hx hb dX8_rowOf_48 rfl (lv_at hl 0 rfl) ?_
    refine get_1_0 C hw q_108 dX8_rowOf_49 ?_
    exact ret_a C hw dX8_rowOf_52 hf
  have hf := hf_f q0 hf
  by_cases q1 : p1 = 1
  · have hf := hf_t q1 hf
    refine lv_tableIn (off := 52) (tgt := 53) hx hb dX8_rowOf_1 (by rw [q1]; decide) (by rw [q1]; decide) (by rw [q1]; rfl) (by decide) ?_
    refine lv_aload_n hx hb dX8_rowOf_53 rfl (lv_at hl 0 rfl) ?_
    refine get_1_1 C hw q_110 dX8_rowOf_54 ?_
    exact ret_a C hw dX8_rowOf_57 hf
  have hf := hf_f q1 hf
  by_cases q2 : p1 = 2
  · have hf := hf_t q2 hf
    refine lv_tableIn (off := 57) (tgt := 58) hx hb dX8_rowOf_1 (by rw [q2]; decide) (by rw [q2]; decide) (by rw [q2]; rfl) (by decide) ?_
    refine lv_aload_n hx hb dX8_rowOf_58 rfl (lv_at hl 0 rfl) ?_
    refine get_1_2 C hw q_112 dX8_rowOf_59 ?_
    exact ret_a C hw dX8_rowOf_62 hf
  have hf := hf_f q2 hf
  by_cases q3 : p1 = 3
  · have hf := hf_t q3 hf
    refine lv_tableIn (off := 62) (tgt := 63) hx hb dX8_rowOf_1 (by rw [q3]; decide) (by rw [q3]; decide) (by rw [q3]; rfl) (by decide) ?_
    refine lv_aload_n hx hb dX8_rowOf_63 rfl (lv_at hl 0 rfl) ?_
    refine get_1_5 C hw q_120 dX8_rowOf_64 ?_
    exact ret_a C hw dX8_rowOf_67 hf
  have hf := hf_f q3 hf
  by_cases q4 : p1 = 4
  · have hf := hf_t q4 hf
    refine lv_tableIn (off := 67) (tgt := 68) hx hb dX8_rowOf_1 (by rw [q4]; decide) (by rw [q4]; decide) (by rw [q4]; rfl) (by decide) ?_
    refine lv_aload_n hx hb dX8_rowOf_68 rfl (lv_at hl 0 rfl) ?_
    refine get_1_6 C hw q_123 dX8_rowOf_69 ?_
    exact ret_a C hw dX8_rowOf_72 hf
  have hf := hf_f q4 hf
  by_cases q5 : p1 = 5
  · have hf := hf_t q5 hf
    refine lv_tableIn (off := 72) (tgt := 73) hx hb dX8_rowOf_1 (by rw [q5]; decide) (by rw [q5]; decide) (by rw [q5]; rfl) (by decide) ?_
    refine lv_aload_n hx hb dX8_rowOf_73 rfl (lv_at hl 0 rfl) ?_
    refine get_1_7 C hw q_128 dX8_rowOf_74 ?_
    exact ret_a C hw dX8_rowOf_77 hf
  have hf := hf_f q5 hf
  by_cases q6 : p1 = 6
  · have hf := hf_t q6 hf
    refine lv_tableIn (off := 77) (tgt := 78) hx hb dX8_rowOf_1 (by rw [q6]; decide) (by rw [q6]; decide) (by rw [q6]; rfl) (by decide) ?_
    refine lv_aload_n hx hb dX8_rowOf_78 rfl (lv_at hl 0 rfl) ?_
    refine get_1_8 C hw q_132 dX8_rowOf_79 ?_
    exact ret_a C hw dX8_rowOf_82 hf
  have hf := hf_f q6 hf
  by_cases q7 : p1 = 7
  · have hf := hf_t q7 hf
    refine lv_tableIn (off := 82) (tgt := 83) hx hb dX8_rowOf_1 (by rw [q7]; decide) (by rw [q7]; decide) (by rw [q7]; rfl) (by decide) ?_
    refine lv_aload_n hx hb dX8_rowOf_83 rfl (lv_at hl 0 rfl) ?_
    refine get_1_3 C hw q_113 dX8_rowOf_84 ?_
    exact ret_a C hw dX8_rowOf_87 hf
  have hf := hf_f q7 hf
  refine lv_tableOut (tgt := 88) hx hb dX8_rowOf_1 (by have h0 := lv_neT (a := 0) q0 rfl; have h1 := lv_neT (a := 1) q1 rfl; have h2 := lv_neT (a := 2) q2 rfl; have h3 := lv_neT (a := 3) q3 rfl; have h4 := lv_neT (a := 4) q4 rfl; have h5 := lv_neT (a := 5) q5 rfl; have h6 := lv_neT (a := 6) q6 rfl; have h7 := lv_neT (a := 7) q7 rfl; omega) (by decide) ?_
  refine lv_aload_n hx hb dX8_rowOf_88 rfl (lv_at hl 0 rfl) ?_
  refine get_1_4 C hw q_117 dX8_rowOf_89 ?_
  exact ret_a C hw dX8_rowOf_92 hf
end
theorem t_Sm_rowOf {l : Launch} {V : St} {S : St} {p1 : Int32} {r : Nat} (hf : Sm_rowOf S p1 = some r) : Ct l (wX V) yX8_rowOf cX8_rowOf 2 (some (.array .int)) 1 (fun E => [.ref (ea E 1), .int p1]) S (fun E => some (.ref (ea E r))) S :=
  ofBlock (by decide +kernel) (fun _ => Nat.le_of_ble_eq_true rfl) (fun E p e s m args below meth c ls C hw hl => w_Sm_rowOf C hw hl hf)
theorem dX8_become_0 : decode cX8_become 0 = .ok (.aload_n 0, 1) := by decide +kernel
theorem dX8_become_1 : decode cX8_become 1 = .ok (.iload_n 2, 1) := by decide +kernel
theorem dX8_become_2 : decode cX8_become 2 = .ok (.invokevirtual 60, 3) := by decide +kernel
theorem dX8_become_5 : decode cX8_become 5 = .ok (.iload_n 1, 1) := by decide +kernel
theorem dX8_become_6 : decode cX8_become 6 = .ok (.iload_n 3, 1) := by decide +kernel
theorem dX8_become_7 : decode cX8_become 7 = .ok (.iastore, 1) := by decide +kernel
theorem dX8_become_8 : decode cX8_become 8 = .ok (.return_, 1) := by decide +kernel
section
variable {p : Program} {l : Launch} {e : Env} {s : State} {m : MethodId} {args : Array Value} {below : List Frame} {meth : Method} {c : Code} {H : Heap} {locs : List Loc} {E : Ev} {S V : St} {ls : Array Slot}
set_option maxRecDepth 20000 in
theorem w_Sm_become {p1 : Int32} {p2 : Int32} {p3 : Int32} {S9 : St} (C : Cx p s m args meth c E cX8_become 4 RX8 none) (hw : Wd E (wX V E) s.heap S H locs) (hl : lv_has ls 4 [(0, .ref (ea E 1)), (1, .int p1), (2, .int p2), (3, .int p3)]) (hf : Sm_become S p1 p2 p3 = some S9) : W p l e (rmh 2) s m args below meth c H locs 0 0 (MQ below (QW E (wX V E) (none) S9) args s 0 0 (eA E)) (F0 m 0 ls []) := by
  have hx := C.1
  have hb := C.2.1
  unfold Sm_become at hf
  refine lv_aload_n hx hb dX8_become_0 rfl (lv_at hl 0 rfl) ?_
  refine lv_iload_n hx hb dX8_become_1 rfl (lv_at hl 2 rfl) ?_
  obtain ⟨r1, hr, hf⟩ := hf_1 hf
  refine inv_Va (q0 := 1) (ci := 8) (As := [.int p2]) lk_X8_60 C hw rfl rfl rfl (t_Sm_rowOf hr) rfl hl.1 dX8_become_2 rfl (Nat.le_of_ble_eq_true rfl) (by decide) (Nat.le_of_ble_eq_true rfl) rfl (fun H locs hw => ?_)
  refine lv_iload_n hx hb dX8_become_5 rfl (lv_at hl 1 rfl) ?_
  refine lv_iload_n hx hb dX8_become_6 rfl (lv_at hl 3 rfl) ?_
  obtain ⟨hc0, hf⟩ := hf_ck hf
  obtain ⟨hc, hf⟩ := hf_ck hf
  refine stI C hw hc0 hc dX8_become_7 (fun H locs hw => ?_)
  refine nm_S hf hw (fun S2 hf hw => ?_)
  exact ret_vS C hw dX8_become_8 hf
end
theorem t_Sm_become {l : Launch} {V : St} {S : St} {p1 : Int32} {p2 : Int32} {p3 : Int32} {S9 : St} (hf : Sm_become S p1 p2 p3 = some S9) : Ct l (wX V) yX8_become cX8_become 4 none 2 (fun E => [.ref (ea E 1), .int p1, .int p2, .int p3]) S (fun E => none) S9 :=
  ofBlock (by decide +kernel) (fun _ => Nat.le_of_ble_eq_true rfl) (fun E p e s m args below meth c ls C hw hl => w_Sm_become C hw hl hf)
theorem dX0_stepBack_0 : decode cX0_stepBack 0 = .ok (.aload_n 0, 1) := by decide +kernel
theorem dX0_stepBack_1 : decode cX0_stepBack 1 = .ok (.dup, 1) := by decide +kernel
theorem dX0_stepBack_2 : decode cX0_stepBack 2 = .ok (.getfield 22, 3) := by decide +kernel
theorem dX0_stepBack_5 : decode cX0_stepBack 5 = .ok (.iconst 1, 1) := by decide +kernel
theorem dX0_stepBack_6 : decode cX0_stepBack 6 = .ok (.isub, 1) := by decide +kernel
theorem dX0_stepBack_7 : decode cX0_stepBack 7 = .ok (.putfield 22, 3) := by decide +kernel
theorem dX0_stepBack_10 : decode cX0_stepBack 10 = .ok (.aload_n 1, 1) := by decide +kernel
theorem dX0_stepBack_11 : decode cX0_stepBack 11 = .ok (.aload_n 0, 1) := by decide +kernel
theorem dX0_stepBack_12 : decode cX0_stepBack 12 = .ok (.getfield 9, 3) := by decide +kernel
theorem dX0_stepBack_15 : decode cX0_stepBack 15 = .ok (.aload_n 0, 1) := by decide +kernel
theorem dX0_stepBack_16 : decode cX0_stepBack 16 = .ok (.getfield 22, 3) := by decide +kernel
theorem dX0_stepBack_19 : decode cX0_stepBack 19 = .ok (.iaload, 1) := by decide +kernel
theorem dX0_stepBack_20 : decode cX0_stepBack 20 = .ok (.aload_n 0, 1) := by decide +kernel
theorem dX0_stepBack_21 : decode cX0_stepBack 21 = .ok (.getfield 13, 3) := by decide +kernel
theorem dX0_stepBack_24 : decode cX0_stepBack 24 = .ok (.aload_n 0, 1) := by decide +kernel
theorem dX0_stepBack_25 : decode cX0_stepBack 25 = .ok (.getfield 22, 3) := by decide +kernel
theorem dX0_stepBack_28 : decode cX0_stepBack 28 = .ok (.iaload, 1) := by decide +kernel
theorem dX0_stepBack_29 : decode cX0_stepBack 29 = .ok (.aload_n 0, 1) := by decide +kernel
theorem dX0_stepBack_30 : decode cX0_stepBack 30 = .ok (.getfield 16, 3) := by decide +kernel
theorem dX0_stepBack_33 : decode cX0_stepBack 33 = .ok (.aload_n 0, 1) := by decide +kernel
theorem dX0_stepBack_34 : decode cX0_stepBack 34 = .ok (.getfield 22, 3) := by decide +kernel
theorem dX0_stepBack_37 : decode cX0_stepBack 37 = .ok (.iaload, 1) := by decide +kernel
theorem dX0_stepBack_38 : decode cX0_stepBack 38 = .ok (.invokevirtual 38, 3) := by decide +kernel
theorem dX0_stepBack_41 : decode cX0_stepBack 41 = .ok (.return_, 1) := by decide +kernel
section
variable {p : Program} {l : Launch} {e : Env} {s : State} {m : MethodId} {args : Array Value} {below : List Frame} {meth : Method} {c : Code} {H : Heap} {locs : List Loc} {E : Ev} {S V : St} {ls : Array Slot}
set_option maxRecDepth 20000 in
theorem w_Cg_stepBack {S9 : St} (C : Cx p s m args meth c E cX0_stepBack 2 RX0 none) (hw : Wd E (wX V E) s.heap S H locs) (hl : lv_has ls 2 [(0, .ref (ea E 8)), (1, .ref (ea E 1))]) (hf : Cg_stepBack S = some S9) : W p l e (rmh 3) s m args below meth c H locs 0 0 (MQ below (QW E (wX V E) (none) S9) args s 0 0 (eA E)) (F0 m 0 ls []) := by
  have hx := C.1
  have hb := C.2.1
  unfold Cg_stepBack at hf
  refine lv_aload_n hx hb dX0_stepBack_0 rfl (lv_at hl 0 rfl) ?_
  refine lv_dup hx hb dX0_stepBack_1 rfl ?_
  refine get_8_0 C hw q_262 dX0_stepBack_2 ?_
  refine lv_iconst (v := 1) hx hb dX0_stepBack_5 kc_1 ?_
  refine lv_isub hx hb dX0_stepBack_6 ?_
  refine put_8_0 C hw q_262 dX0_stepBack_7 (fun H locs hw => ?_)
  refine nm_S hf hw (fun S1 hf hw => ?_)
  refine lv_aload_n hx hb dX0_stepBack_10 rfl (lv_at hl 1 rfl) ?_
  refine lv_aload_n hx hb dX0_stepBack_11 rfl (lv_at hl 0 rfl) ?_
  refine get_8_2 C hw q_266 dX0_stepBack_12 ?_
  refine lv_aload_n hx hb dX0_stepBack_15 rfl (lv_at hl 0 rfl) ?_
  refine get_8_0 C hw q_262 dX0_stepBack_16 ?_
  obtain ⟨hc, hf⟩ := hf_ck hf
  refine ld_34 C hw hc dX0_stepBack_19 ?_
  refine lv_aload_n hx hb dX0_stepBack_20 rfl (lv_at hl 0 rfl) ?_
  refine get_8_3 C hw q_267 dX0_stepBack_21 ?_
  refine lv_aload_n hx hb dX0_stepBack_24 rfl (lv_at hl 0 rfl) ?_
  refine get_8_0 C hw q_262 dX0_stepBack_25 ?_
  obtain ⟨hc, hf⟩ := hf_ck hf
  refine ld_35 C hw hc dX0_stepBack_28 ?_
  refine lv_aload_n hx hb dX0_stepBack_29 rfl (lv_at hl 0 rfl) ?_
  refine get_8_4 C hw q_268 dX0_stepBack_30 ?_
  refine lv_aload_n hx hb dX0_stepBack_33 rfl (lv_at hl 0 rfl) ?_
  refine get_8_0 C hw q_262 dX0_stepBack_34 ?_
  obtain ⟨hc, hf⟩ := hf_ck hf
  refine ld_36 C hw hc dX0_stepBack_37 ?_
  obtain ⟨S2, hr, hf⟩ := hf_1 hf
  refine inv_Vv (q0 := 1) (ci := 8) (As := [.int (gi S1 34 (gi S1 8 0).toNatClampNeg), .int (gi S1 35 (gi S1 8 0).toNatClampNeg), .int (gi S1 36 (gi S1 8 0).toNatClampNeg)]) lk_X0_38 C hw rfl rfl rfl (t_Sm_become hr) rfl hl.1 dX0_stepBack_38 rfl (Nat.le_of_ble_eq_true rfl) (by decide) (Nat.le_of_ble_eq_true rfl) rfl (fun H locs hw => ?_)
  exact ret_vS C hw dX0_stepBack_41 hf
end
theorem t_Cg_stepBack {l : Launch} {V : St} {S : St} {S9 : St} (hf : Cg_stepBack S = some S9) : Ct l (wX V) yX0_stepBack cX0_stepBack 2 none 3 (fun E => [.ref (ea E 8), .ref (ea E 1)]) S (fun E => none) S9 :=
  ofBlock (by decide +kernel) (fun _ => Nat.le_of_ble_eq_true rfl) (fun E p e s m args below meth c ls C hw hl => w_Cg_stepBack C hw hl hf)
theorem dX0_stepForward_0 : decode cX0_stepForward 0 = .ok (.aload_n 1, 1) := by decide +kernel
theorem dX0_stepForward_1 : decode cX0_stepForward 1 = .ok (.aload_n 0, 1) := by decide +kernel
theorem dX0_stepForward_2 : decode cX0_stepForward 2 = .ok (.getfield 9, 3) := by decide +kernel
theorem dX0_stepForward_5 : decode cX0_stepForward 5 = .ok (.aload_n 0, 1) := by decide +kernel
theorem dX0_stepForward_6 : decode cX0_stepForward 6 = .ok (.getfield 22, 3) := by decide +kernel
theorem dX0_stepForward_9 : decode cX0_stepForward 9 = .ok (.iaload, 1) := by decide +kernel
theorem dX0_stepForward_10 : decode cX0_stepForward 10 = .ok (.aload_n 0, 1) := by decide +kernel
theorem dX0_stepForward_11 : decode cX0_stepForward 11 = .ok (.getfield 13, 3) := by decide +kernel
theorem dX0_stepForward_14 : decode cX0_stepForward 14 = .ok (.aload_n 0, 1) := by decide +kernel
theorem dX0_stepForward_15 : decode cX0_stepForward 15 = .ok (.getfield 22, 3) := by decide +kernel
theorem dX0_stepForward_18 : decode cX0_stepForward 18 = .ok (.iaload, 1) := by decide +kernel
theorem dX0_stepForward_19 : decode cX0_stepForward 19 = .ok (.aload_n 0, 1) := by decide +kernel
theorem dX0_stepForward_20 : decode cX0_stepForward 20 = .ok (.getfield 19, 3) := by decide +kernel
theorem dX0_stepForward_23 : decode cX0_stepForward 23 = .ok (.aload_n 0, 1) := by decide +kernel
theorem dX0_stepForward_24 : decode cX0_stepForward 24 = .ok (.getfield 22, 3) := by decide +kernel
theorem dX0_stepForward_27 : decode cX0_stepForward 27 = .ok (.iaload, 1) := by decide +kernel
theorem dX0_stepForward_28 : decode cX0_stepForward 28 = .ok (.invokevirtual 38, 3) := by decide +kernel
theorem dX0_stepForward_31 : decode cX0_stepForward 31 = .ok (.aload_n 0, 1) := by decide +kernel
theorem dX0_stepForward_32 : decode cX0_stepForward 32 = .ok (.dup, 1) := by decide +kernel
theorem dX0_stepForward_33 : decode cX0_stepForward 33 = .ok (.getfield 22, 3) := by decide +kernel
theorem dX0_stepForward_36 : decode cX0_stepForward 36 = .ok (.iconst 1, 1) := by decide +kernel
theorem dX0_stepForward_37 : decode cX0_stepForward 37 = .ok (.iadd, 1) := by decide +kernel
theorem dX0_stepForward_38 : decode cX0_stepForward 38 = .ok (.putfield 22, 3) := by decide +kernel
theorem dX0_stepForward_41 : decode cX0_stepForward 41 = .ok (.return_, 1) := by decide +kernel
section
variable {p : Program} {l : Launch} {e : Env} {s : State} {m : MethodId} {args : Array Value} {below : List Frame} {meth : Method} {c : Code} {H : Heap} {locs : List Loc} {E : Ev} {S V : St} {ls : Array Slot}
set_option maxRecDepth 20000 in
theorem w_Cg_stepForward {S9 : St} (C : Cx p s m args meth c E cX0_stepForward 2 RX0 none) (hw : Wd E (wX V E) s.heap S H locs) (hl : lv_has ls 2 [(0, .ref (ea E 8)), (1, .ref (ea E 1))]) (hf : Cg_stepForward S = some S9) : W p l e (rmh 3) s m args below meth c H locs 0 0 (MQ below (QW E (wX V E) (none) S9) args s 0 0 (eA E)) (F0 m 0 ls []) := by
  have hx := C.1
  have hb := C.2.1
  unfold Cg_stepForward at hf
  refine lv_aload_n hx hb dX0_stepForward_0 rfl (lv_at hl 1 rfl) ?_
  refine lv_aload_n hx hb dX0_stepForward_1 rfl (lv_at hl 0 rfl) ?_
  refine get_8_2 C hw q_266 dX0_stepForward_2 ?_
  refine lv_aload_n hx hb dX0_stepForward_5 rfl (lv_at hl 0 rfl) ?_
  refine get_8_0 C hw q_262 dX0_stepForward_6 ?_
  obtain ⟨hc, hf⟩ := hf_ck hf
  refine ld_34 C hw hc dX0_stepForward_9 ?_
  refine lv_aload_n hx hb dX0_stepForward_10 rfl (lv_at hl 0 rfl) ?_
  refine get_8_3 C hw q_267 dX0_stepForward_11 ?_
  refine lv_aload_n hx hb dX0_stepForward_14 rfl (lv_at hl 0 rfl) ?_
  refine get_8_0 C hw q_262 dX0_stepForward_15 ?_
  obtain ⟨hc, hf⟩ := hf_ck hf
  refine ld_35 C hw hc dX0_stepForward_18 ?_
  refine lv_aload_n hx hb dX0_stepForward_19 rfl (lv_at hl 0 rfl) ?_
  refine get_8_5 C hw q_269 dX0_stepForward_20 ?_
  refine lv_aload_n hx hb dX0_stepForward_23 rfl (lv_at hl 0 rfl) ?_
  refine get_8_0 C hw q_262 dX0_stepForward_24 ?_
  obtain ⟨hc, hf⟩ := hf_ck hf
  refine ld_37 C hw hc dX0_stepForward_27 ?_
  obtain ⟨S1, hr, hf⟩ := hf_1 hf
  refine inv_Vv (q0 := 1) (ci := 8) (As := [.int (gi S 34 (gi S 8 0).toNatClampNeg), .int (gi S 35 (gi S 8 0).toNatClampNeg), .int (gi S 37 (gi S 8 0).toNatClampNeg)]) lk_X0_38 C hw rfl rfl rfl (t_Sm_become hr) rfl hl.1 dX0_stepForward_28 rfl (Nat.le_of_ble_eq_true rfl) (by decide) (Nat.le_of_ble_eq_true rfl) rfl (fun H locs hw => ?_)
  refine lv_aload_n hx hb dX0_stepForward_31 rfl (lv_at hl 0 rfl) ?_
  refine lv_dup hx hb dX0_stepForward_32 rfl ?_
  refine get_8_0 C hw q_262 dX0_stepForward_33 ?_
  refine lv_iconst (v := 1) hx hb dX0_stepForward_36 kc_1 ?_
  refine lv_iadd hx hb dX0_stepForward_37 ?_
  refine put_8_0 C hw q_262 dX0_stepForward_38 (fun H locs hw => ?_)
  refine nm_S hf hw (fun S2 hf hw => ?_)
  exact ret_vS C hw dX0_stepForward_41 hf
end
theorem t_Cg_stepForward {l : Launch} {V : St} {S : St} {S9 : St} (hf : Cg_stepForward S = some S9) : Ct l (wX V) yX0_stepForward cX0_stepForward 2 none 3 (fun E => [.ref (ea E 8), .ref (ea E 1)]) S (fun E => none) S9 :=
  ofBlock (by decide +kernel) (fun _ => Nat.le_of_ble_eq_true rfl) (fun E p e s m args below meth c ls C hw hl => w_Cg_stepForward C hw hl hf)
theorem dJ9_max_7cf53_0 : decode cJ9_max_7cf53 0 = .ok (.iload_n 0, 1) := by decide +kernel
theorem dJ9_max_7cf53_1 : decode cJ9_max_7cf53 1 = .ok (.iload_n 1, 1) := by decide +kernel
theorem dJ9_max_7cf53_2 : decode cJ9_max_7cf53 2 = .ok (.if_icmp .lt 7, 3) := by decide +kernel
theorem dJ9_max_7cf53_5 : decode cJ9_max_7cf53 5 = .ok (.iload_n 0, 1) := by decide +kernel
theorem dJ9_max_7cf53_6 : decode cJ9_max_7cf53 6 = .ok (.goto 4, 3) := by decide +kernel
theorem dJ9_max_7cf53_9 : decode cJ9_max_7cf53 9 = .ok (.iload_n 1, 1) := by decide +kernel
theorem dJ9_max_7cf53_10 : decode cJ9_max_7cf53 10 = .ok (.ireturn, 1) := by decide +kernel
section
variable {p : Program} {l : Launch} {e : Env} {s : State} {m : MethodId} {args : Array Value} {below : List Frame} {meth : Method} {c : Code} {H : Heap} {locs : List Loc} {E : Ev} {S V : St} {ls : Array Slot}
set_option maxRecDepth 20000 in
theorem w_Ma_max {p1 : Int32} {p2 : Int32} {r : Int32} (C : Cx p s m args meth c E cJ9_max_7cf53 2 RJ9 (some .int)) (hw : Wd E (wX V E) s.heap S H locs) (hl : lv_has ls 2 [(0, .int p1), (1, .int p2)]) (hf : Ma_max S p1 p2 = some r) : W p l e (rmh 1) s m args below meth c H locs 0 0 (MQ below (QW E (wX V E) (some (.int r)) S) args s 0 0 (eA E)) (F0 m 0 ls []) := by
  have hx := C.1
  have hb := C.2.1
  unfold Ma_max at hf
  refine lv_iload_n hx hb dJ9_max_7cf53_0 rfl (lv_at hl 0 rfl) ?_
  refine lv_iload_n hx hb dJ9_max_7cf53_1 rfl (lv_at hl 1 rfl) ?_
  refine lv_icmp_lt (tgt := 9) hx hb dJ9_max_7cf53_2 (by decide) (fun q => ?_) (fun q => ?_)
  · have hf := hf_t q hf
    refine lv_iload_n hx hb dJ9_max_7cf53_9 rfl (lv_at hl 1 rfl) ?_
    exact ret_i C hw dJ9_max_7cf53_10 hf
  · have hf := hf_f q hf
    refine lv_iload_n hx hb dJ9_max_7cf53_5 rfl (lv_at hl 0 rfl) ?_
    refine lv_goto (tgt := 10) hx hb dJ9_max_7cf53_6 (by decide) ?_
    exact ret_i C hw dJ9_max_7cf53_10 hf
end
theorem t_Ma_max {l : Launch} {V : St} {S : St} {p1 : Int32} {p2 : Int32} {r : Int32} (hf : Ma_max S p1 p2 = some r) : Ct l (wX V) yJ9_max_7cf53 cJ9_max_7cf53 2 (some .int) 1 (fun E => [.int p1, .int p2]) S (fun E => some (.int r)) S :=
  ofBlock (by decide +kernel) (fun _ => Nat.le_of_ble_eq_true rfl) (fun E p e s m args below meth c ls C hw hl => w_Ma_max C hw hl hf)
theorem dJ9_min_7cf53_0 : decode cJ9_min_7cf53 0 = .ok (.iload_n 0, 1) := by decide +kernel
theorem dJ9_min_7cf53_1 : decode cJ9_min_7cf53 1 = .ok (.iload_n 1, 1) := by decide +kernel
theorem dJ9_min_7cf53_2 : decode cJ9_min_7cf53 2 = .ok (.if_icmp .gt 7, 3) := by decide +kernel
theorem dJ9_min_7cf53_5 : decode cJ9_min_7cf53 5 = .ok (.iload_n 0, 1) := by decide +kernel
theorem dJ9_min_7cf53_6 : decode cJ9_min_7cf53 6 = .ok (.goto 4, 3) := by decide +kernel
theorem dJ9_min_7cf53_9 : decode cJ9_min_7cf53 9 = .ok (.iload_n 1, 1) := by decide +kernel
theorem dJ9_min_7cf53_10 : decode cJ9_min_7cf53 10 = .ok (.ireturn, 1) := by decide +kernel
section
variable {p : Program} {l : Launch} {e : Env} {s : State} {m : MethodId} {args : Array Value} {below : List Frame} {meth : Method} {c : Code} {H : Heap} {locs : List Loc} {E : Ev} {S V : St} {ls : Array Slot}
set_option maxRecDepth 20000 in
theorem w_Ma_min {p1 : Int32} {p2 : Int32} {r : Int32} (C : Cx p s m args meth c E cJ9_min_7cf53 2 RJ9 (some .int)) (hw : Wd E (wX V E) s.heap S H locs) (hl : lv_has ls 2 [(0, .int p1), (1, .int p2)]) (hf : Ma_min S p1 p2 = some r) : W p l e (rmh 1) s m args below meth c H locs 0 0 (MQ below (QW E (wX V E) (some (.int r)) S) args s 0 0 (eA E)) (F0 m 0 ls []) := by
  have hx := C.1
  have hb := C.2.1
  unfold Ma_min at hf
  refine lv_iload_n hx hb dJ9_min_7cf53_0 rfl (lv_at hl 0 rfl) ?_
  refine lv_iload_n hx hb dJ9_min_7cf53_1 rfl (lv_at hl 1 rfl) ?_
  refine lv_icmp_gt (tgt := 9) hx hb dJ9_min_7cf53_2 (by decide) (fun q => ?_) (fun q => ?_)
  · have hf := hf_t q hf
    refine lv_iload_n hx hb dJ9_min_7cf53_9 rfl (lv_at hl 1 rfl) ?_
    exact ret_i C hw dJ9_min_7cf53_10 hf
  · have hf := hf_f q hf
    refine lv_iload_n hx hb dJ9_min_7cf53_5 rfl (lv_at hl 0 rfl) ?_
    refine lv_goto (tgt := 10) hx hb dJ9_min_7cf53_6 (by decide) ?_
    exact ret_i C hw dJ9_min_7cf53_10 hf
end
theorem t_Ma_min {l : Launch} {V : St} {S : St} {p1 : Int32} {p2 : Int32} {r : Int32} (hf : Ma_min S p1 p2 = some r) : Ct l (wX V) yJ9_min_7cf53 cJ9_min_7cf53 2 (some .int) 1 (fun E => [.int p1, .int p2]) S (fun E => some (.int r)) S :=
  ofBlock (by decide +kernel) (fun _ => Nat.le_of_ble_eq_true rfl) (fun E p e s m args below meth c ls C hw hl => w_Ma_min C hw hl hf)
theorem dX5_hasText_0 : decode cX5_hasText 0 = .ok (.aload_n 0, 1) := by decide +kernel
theorem dX5_hasText_1 : decode cX5_hasText 1 = .ok (.getfield 29, 3) := by decide +kernel
theorem dX5_hasText_4 : decode cX5_hasText 4 = .ok (.ifCond .le 7, 3) := by decide +kernel
theorem dX5_hasText_7 : decode cX5_hasText 7 = .ok (.iconst 1, 1) := by decide +kernel
theorem dX5_hasText_8 : decode cX5_hasText 8 = .ok (.goto 4, 3) := by decide +kernel
theorem dX5_hasText_11 : decode cX5_hasText 11 = .ok (.iconst 0, 1) := by decide +kernel
theorem dX5_hasText_12 : decode cX5_hasText 12 = .ok (.ireturn, 1) := by decide +kernel
section
variable {p : Program} {l : Launch} {e : Env} {s : State} {m : MethodId} {args : Array Value} {below : List Frame} {meth : Method} {c : Code} {H : Heap} {locs : List Loc} {E : Ev} {S V : St} {ls : Array Slot}
set_option maxRecDepth 20000 in
theorem w_La_hasText {r : Int32} (C : Cx p s m args meth c E cX5_hasText 1 RX5 (some .boolean)) (hw : Wd E (wX V E) s.heap S H locs) (hl : lv_has ls 1 [(0, .ref (ea E 2))]) (hf : La_hasText S = some r) : W p l e (rmh 1) s m args below meth c H locs 0 0 (MQ below (QW E (wX V E) (some (.int r)) S) args s 0 0 (eA E)) (F0 m 0 ls []) := by
  have hx := C.1
  have hb := C.2.1
  unfold La_hasText at hf
  refine lv_aload_n hx hb dX5_hasText_0 rfl (lv_at hl 0 rfl) ?_
  refine get_2_6 C hw q_181 dX5_hasText_1 ?_
  refine lv_if_le (tgt := 11) hx hb dX5_hasText_4 (by decide) (fun q => ?_) (fun q => ?_)
  · have hf := hf_t q hf
    refine lv_iconst (v := 0) hx hb dX5_hasText_11 kc_0 ?_
    exact ret_z rfl C hw dX5_hasText_12 hf
  · have hf := hf_f q hf
    refine lv_iconst (v := 1) hx hb dX5_hasText_7 kc_1 ?_
    refine lv_goto (tgt := 12) hx hb dX5_hasText_8 (by decide) ?_
    exact ret_z rfl C hw dX5_hasText_12 hf
end
theorem t_La_hasText {l : Launch} {V : St} {S : St} {r : Int32} (hf : La_hasText S = some r) : Ct l (wX V) yX5_hasText cX5_hasText 1 (some .boolean) 1 (fun E => [.ref (ea E 2)]) S (fun E => some (.int r)) S :=
  ofBlock (by decide +kernel) (fun _ => Nat.le_of_ble_eq_true rfl) (fun E p e s m args below meth c ls C hw hl => w_La_hasText C hw hl hf)
theorem dX5_lineEndFrom_0 : decode cX5_lineEndFrom 0 = .ok (.iload_n 1, 1) := by decide +kernel
theorem dX5_lineEndFrom_1 : decode cX5_lineEndFrom 1 = .ok (.istore_n 2, 1) := by decide +kernel
theorem dX5_lineEndFrom_2 : decode cX5_lineEndFrom 2 = .ok (.iload_n 2, 1) := by decide +kernel
theorem dX5_lineEndFrom_3 : decode cX5_lineEndFrom 3 = .ok (.aload_n 0, 1) := by decide +kernel
theorem dX5_lineEndFrom_4 : decode cX5_lineEndFrom 4 = .ok (.getfield 29, 3) := by decide +kernel
theorem dX5_lineEndFrom_7 : decode cX5_lineEndFrom 7 = .ok (.if_icmp .ge 20, 3) := by decide +kernel
theorem dX5_lineEndFrom_10 : decode cX5_lineEndFrom 10 = .ok (.aload_n 0, 1) := by decide +kernel
theorem dX5_lineEndFrom_11 : decode cX5_lineEndFrom 11 = .ok (.getfield 13, 3) := by decide +kernel
theorem dX5_lineEndFrom_14 : decode cX5_lineEndFrom 14 = .ok (.iload_n 2, 1) := by decide +kernel
theorem dX5_lineEndFrom_15 : decode cX5_lineEndFrom 15 = .ok (.iaload, 1) := by decide +kernel
theorem dX5_lineEndFrom_16 : decode cX5_lineEndFrom 16 = .ok (.bipush 59, 2) := by decide +kernel
theorem dX5_lineEndFrom_18 : decode cX5_lineEndFrom 18 = .ok (.if_icmp .eq 9, 3) := by decide +kernel
theorem dX5_lineEndFrom_21 : decode cX5_lineEndFrom 21 = .ok (.iinc 2 1, 3) := by decide +kernel
theorem dX5_lineEndFrom_24 : decode cX5_lineEndFrom 24 = .ok (.goto (-22), 3) := by decide +kernel
theorem dX5_lineEndFrom_27 : decode cX5_lineEndFrom 27 = .ok (.iload_n 2, 1) := by decide +kernel
theorem dX5_lineEndFrom_28 : decode cX5_lineEndFrom 28 = .ok (.ireturn, 1) := by decide +kernel
section
variable {p : Program} {l : Launch} {e : Env} {s : State} {m : MethodId} {args : Array Value} {below : List Frame} {meth : Method} {c : Code} {H : Heap} {locs : List Loc} {E : Ev} {S V : St} {ls : Array Slot}
set_option maxRecDepth 20000 in
theorem w_La_lineEndFrom_b2 {N : Nat} {k2 : (Int32) → Option Int32} {l2 : Int32} {r : Int32} (C : Cx p s m args meth c E cX5_lineEndFrom 3 RX5 (some .int)) (hk2 : ∀ x, k2 x = some r → ∀ (H : Heap) (locs : List Loc) (ls : Array Slot), Wd E (wX V E) s.heap S H locs → lv_has ls 3 [(0, .ref (ea E 2)), (2, .int x)] → W p l e (rmh 1) s m args below meth c H locs 0 0 (MQ below (QW E (wX V E) (some (.int r)) S) args s 0 0 (eA E)) (F0 m 2 ls [])) (hw : Wd E (wX V E) s.heap S H locs) (hl : lv_has ls 3 [(0, .ref (ea E 2)), (2, .int l2)]) (hf : La_lineEndFrom_b2 N k2 S l2 = some r) : W p l e (rmh 1) s m args below meth c H locs 0 0 (MQ below (QW E (wX V E) (some (.int r)) S) args s 0 0 (eA E)) (F0 m 2 ls []) := by
  have hx := C.1
  have hb := C.2.1
  unfold La_lineEndFrom_b2 at hf
  refine lv_iload_n hx hb dX5_lineEndFrom_2 rfl (lv_at hl 1 rfl) ?_
  refine lv_aload_n hx hb dX5_lineEndFrom_3 rfl (lv_at hl 0 rfl) ?_
  refine get_2_6 C hw q_181 dX5_lineEndFrom_4 ?_
  refine lv_icmp_ge (tgt := 27) hx hb dX5_lineEndFrom_7 (by decide) (fun q => ?_) (fun q => ?_)
  · have hf := hf_t q hf
    refine lv_iload_n hx hb dX5_lineEndFrom_27 rfl (lv_at hl 1 rfl) ?_
    exact ret_i C hw dX5_lineEndFrom_28 hf
  · have hf := hf_f q hf
    refine lv_aload_n hx hb dX5_lineEndFrom_10 rfl (lv_at hl 0 rfl) ?_
    refine get_2_2 C hw q_177 dX5_lineEndFrom_11 ?_
    refine lv_iload_n hx hb dX5_lineEndFrom_14 rfl (lv_at hl 1 rfl) ?_
    obtain ⟨hc, hf⟩ := hf_ck hf
    refine ld_21 C hw hc dX5_lineEndFrom_15 ?_
    refine lv_bipush (v := 59) hx hb dX5_lineEndFrom_16 kb_59 ?_
    refine lv_icmp_eq (tgt := 27) hx hb dX5_lineEndFrom_18 (by decide) (fun q => ?_) (fun q => ?_)
    · have hf := hf_t q hf
      refine lv_iload_n hx hb dX5_lineEndFrom_27 rfl (lv_at hl 1 rfl) ?_
      exact ret_i C hw dX5_lineEndFrom_28 hf
    · have hf := hf_f q hf
      obtain ⟨x1, ex1, hf⟩ := nme hf
      refine lv_iinc (v := x1) (lv' := [(2, .int x1), (0, .ref (ea E 2))]) hx hb dX5_lineEndFrom_21 hl (k := 1) rfl (ki_1 ex1) (by decide) rfl (fun ls hl => ?_)
      refine lv_goto (tgt := 2) hx hb dX5_lineEndFrom_24 (by decide) ?_
      exact hk2 _ hf _ _ _ hw (lv_sub hl [1, 0] rfl)
theorem w_La_lineEndFrom_L2 {N : Nat} {r : Int32} (C : Cx p s m args meth c E cX5_lineEndFrom 3 RX5 (some .int)) : ∀ x, La_lineEndFrom_L2 N S x = some r → ∀ (H : Heap) (locs : List Loc) (ls : Array Slot), Wd E (wX V E) s.heap S H locs → lv_has ls 3 [(0, .ref (ea E 2)), (2, .int x)] → W p l e (rmh 1) s m args below meth c H locs 0 0 (MQ below (QW E (wX V E) (some (.int r)) S) args s 0 0 (eA E)) (F0 m 2 ls []) :=
  lp_W (fun k x hk hf H locs ls hw hl => w_La_lineEndFrom_b2 C hk hw hl hf) N
set_option maxRecDepth 20000 in
theorem w_La_lineEndFrom {N : Nat} {p1 : Int32} {r : Int32} (C : Cx p s m args meth c E cX5_lineEndFrom 3 RX5 (some .int)) (hw : Wd E (wX V E) s.heap S H locs) (hl : lv_has ls 3 [(0, .ref (ea E 2)), (1, .int p1)]) (hf : La_lineEndFrom N S p1 = some r) : W p l e (rmh 1) s m args below meth c H locs 0 0 (MQ below (QW E (wX V E) (some (.int r)) S) args s 0 0 (eA E)) (F0 m 0 ls []) := by
  have hx := C.1
  have hb := C.2.1
  unfold La_lineEndFrom at hf
  refine lv_iload_n hx hb dX5_lineEndFrom_0 rfl (lv_at hl 1 rfl) ?_
  refine lv_istore_n (lv' := [(2, .int p1), (0, .ref (ea E 2)), (1, .int p1)]) hx hb dX5_lineEndFrom_1 rfl hl (by decide) rfl (fun ls hl => ?_)
  exact w_La_lineEndFrom_L2 C _ hf _ _ _ hw (lv_sub hl [1, 0] rfl)
end
theorem t_La_lineEndFrom {l : Launch} {V : St} {N : Nat} {S : St} {p1 : Int32} {r : Int32} (hf : La_lineEndFrom N S p1 = some r) : Ct l (wX V) yX5_lineEndFrom cX5_lineEndFrom 3 (some .int) 1 (fun E => [.ref (ea E 2), .int p1]) S (fun E => some (.int r)) S :=
  ofBlock (by decide +kernel) (fun _ => Nat.le_of_ble_eq_true rfl) (fun E p e s m args below meth c ls C hw hl => w_La_lineEndFrom C hw hl hf)
theorem dX5_levelOf_0 : decode cX5_levelOf 0 = .ok (.iload_n 0, 1) := by decide +kernel
theorem dX5_levelOf_1 : decode cX5_levelOf 1 = .ok (.lookupswitch 101 #[(37, 99), (38, 93), (42, 99), (43, 97), (45, 97), (47, 99), (60, 95), (61, 95), (62, 95), (124, 91)], 91) := by decide +kernel
theorem dX5_levelOf_92 : decode cX5_levelOf 92 = .ok (.iconst 0, 1) := by decide +kernel
theorem dX5_levelOf_93 : decode cX5_levelOf 93 = .ok (.ireturn, 1) := by decide +kernel
theorem dX5_levelOf_94 : decode cX5_levelOf 94 = .ok (.iconst 1, 1) := by decide +kernel
theorem dX5_levelOf_95 : decode cX5_levelOf 95 = .ok (.ireturn, 1) := by decide +kernel
theorem dX5_levelOf_96 : decode cX5_levelOf 96 = .ok (.iconst 2, 1) := by decide +kernel
theorem dX5_levelOf_97 : decode cX5_levelOf 97 = .ok (.ireturn, 1) := by decide +kernel
theorem dX5_levelOf_98 : decode cX5_levelOf 98 = .ok (.iconst 3, 1) := by decide +kernel
theorem dX5_levelOf_99 : decode cX5_levelOf 99 = .ok (.ireturn, 1) := by decide +kernel
theorem dX5_levelOf_100 : decode cX5_levelOf 100 = .ok (.iconst 4, 1) := by decide +kernel
theorem dX5_levelOf_101 : decode cX5_levelOf 101 = .ok (.ireturn, 1) := by decide +kernel
theorem dX5_levelOf_102 : decode cX5_levelOf 102 = .ok (.iconst (-1), 1) := by decide +kernel
theorem dX5_levelOf_103 : decode cX5_levelOf 103 = .ok (.ireturn, 1) := by decide +kernel
section
variable {p : Program} {l : Launch} {e : Env} {s : State} {m : MethodId} {args : Array Value} {below : List Frame} {meth : Method} {c : Code} {H : Heap} {locs : List Loc} {E : Ev} {S V : St} {ls : Array Slot}
set_option maxRecDepth 20000 in
theorem w_La_levelOf {p1 : Int32} {r : Int32} (C : Cx p s m args meth c E cX5_levelOf 1 RX5 (some .int)) (hw : Wd E (wX V E) s.heap S H locs) (hl : lv_has ls 1 [(0, .int p1)]) (hf : La_levelOf S p1 = some r) : W p l e (rmh 1) s m args below meth c H locs 0 0 (MQ below (QW E (wX V E) (some (.int r)) S) args s 0 0 (eA E)) (F0 m 0 ls []) := by
  have hx := C.1
  have hb := C.2.1
  unfold La_levelOf at hf
  refine lv_iload_n hx hb dX5_levelOf_0 rfl (lv_at hl 0 rfl) ?_
  by_cases q0 : p1 = 37
  · have hf := hf_t q0 hf
    refine lv_lookup (off := 99) (tgt := 100) hx hb dX5_levelOf_1 (by decide) (by rw [q0]; rfl) (by decide) ?_
    refine lv_iconst (v := 4) hx hb dX5_levelOf_100 kc_4 ?_
    exact ret_i C hw dX5_levelOf_101 hf
  have hf := hf_f q0 hf
  by_cases q1 : p1 = 38
  · have hf := hf_t q1 hf
    refine lv_lookup (off := 93) (tgt := 94) hx hb dX5_levelOf_1 (by decide) (by rw [q1]; rfl) (by decide) ?_
    refine lv_iconst (v := 1) hx hb dX5_levelOf_94 kc_1 ?_
    exact ret_i C hw dX5_levelOf_95 hf
  have hf := hf_f q1 hf
  by_cases q2 : p1 = 42
  · have hf := hf_t q2 hf
    refine lv_lookup (off := 99) (tgt := 100) hx hb dX5_levelOf_1 (by decide) (by rw [q2]; rfl) (by decide) ?_
    refine lv_iconst (v := 4) hx hb dX5_levelOf_100 kc_4 ?_
    exact ret_i C hw dX5_levelOf_101 hf
  have hf := hf_f q2 hf
  by_cases q3 : p1 = 43
  · have hf := hf_t q3 hf
    refine lv_lookup (off := 97) (tgt := 98) hx hb dX5_levelOf_1 (by decide) (by rw [q3]; rfl) (by decide) ?_
    refine lv_iconst (v := 3) hx hb dX5_levelOf_98 kc_3 ?_
    exact ret_i C hw dX5_levelOf_99 hf
  have hf := hf_f q3 hf
  by_cases q4 : p1 = 45
  · have hf := hf_t q4 hf
    refine lv_lookup (off := 97) (tgt := 98) hx hb dX5_levelOf_1 (by decide) (by rw [q4]; rfl) (by decide) ?_
    refine lv_iconst (v := 3) hx hb dX5_levelOf_98 kc_3 ?_
    exact ret_i C hw dX5_levelOf_99 hf
  have hf := hf_f q4 hf
  by_cases q5 : p1 = 47
  · have hf := hf_t q5 hf
    refine lv_lookup (off := 99) (tgt := 100) hx hb dX5_levelOf_1 (by decide) (by rw [q5]; rfl) (by decide) ?_
    refine lv_iconst (v := 4) hx hb dX5_levelOf_100 kc_4 ?_
    exact ret_i C hw dX5_levelOf_101 hf
  have hf := hf_f q5 hf
  by_cases q6 : p1 = 60
  · have hf := hf_t q6 hf
    refine lv_lookup (off := 95) (tgt := 96) hx hb dX5_levelOf_1 (by decide) (by rw [q6]; rfl) (by decide) ?_
    refine lv_iconst (v := 2) hx hb dX5_levelOf_96 kc_2 ?_
    exact ret_i C hw dX5_levelOf_97 hf
  have hf := hf_f q6 hf
  by_cases q7 : p1 = 61
  · have hf := hf_t q7 hf
    refine lv_lookup (off := 95) (tgt := 96) hx hb dX5_levelOf_1 (by decide) (by rw [q7]; rfl) (by decide) ?_
    refine lv_iconst (v := 2) hx hb dX5_levelOf_96 kc_2 ?_
    exact ret_i C hw dX5_levelOf_97 hf
  have hf := hf_f q7 hf
  by_cases q8 : p1 = 62
  · have hf := hf_t q8 hf
    refine lv_lookup (off := 95) (tgt := 96) hx hb dX5_levelOf_1 (by decide) (by rw [q8]; rfl) (by decide) ?_
    refine lv_iconst (v := 2) hx hb dX5_levelOf_96 kc_2 ?_
    exact ret_i C hw dX5_levelOf_97 hf
  have hf := hf_f q8 hf
  by_cases q9 : p1 = 124
  · have hf := hf_t q9 hf
    refine lv_lookup (off := 91) (tgt := 92) hx hb dX5_levelOf_1 (by decide) (by rw [q9]; rfl) (by decide) ?_
    refine lv_iconst (v := 0) hx hb dX5_levelOf_92 kc_0 ?_
    exact ret_i C hw dX5_levelOf_93 hf
  have hf := hf_f q9 hf
  refine lv_lookup (off := 101) (tgt := 102) hx hb dX5_levelOf_1 (by decide) (by show Op.lookupswitch.offset [(37, 99), (38, 93), (42, 99), (43, 97), (45, 97), (47, 99), (60, 95), (61, 95), (62, 95), (124, 91)] 101 _ = _; rw [lv_osw (a := 37) q0 rfl, lv_osw (a := 38) q1 rfl, lv_osw (a := 42) q2 rfl, lv_osw (a := 43) q3 rfl, lv_osw (a := 45) q4 rfl, lv_osw (a := 47) q5 rfl, lv_osw (a := 60) q6 rfl, lv_osw (a := 61) q7 rfl, lv_osw (a := 62) q8 rfl, lv_osw (a := 124) q9 rfl]; rfl) (by decide) ?_
  refine lv_iconst (v := -1) hx hb dX5_levelOf_102 kc_m1 ?_
  exact ret_i C hw dX5_levelOf_103 hf
end
theorem t_La_levelOf {l : Launch} {V : St} {S : St} {p1 : Int32} {r : Int32} (hf : La_levelOf S p1 = some r) : Ct l (wX V) yX5_levelOf cX5_levelOf 1 (some .int) 1 (fun E => [.int p1]) S (fun E => some (.int r)) S :=
  ofBlock (by decide +kernel) (fun _ => Nat.le_of_ble_eq_true rfl) (fun E p e s m args below meth c ls C hw hl => w_La_levelOf C hw hl hf)
theorem dX5_operandsOf_0 : decode cX5_operandsOf 0 = .ok (.iload_n 0, 1) := by decide +kernel
theorem dX5_operandsOf_1 : decode cX5_operandsOf 1 = .ok (.bipush 33, 2) := by decide +kernel
theorem dX5_operandsOf_3 : decode cX5_operandsOf 3 = .ok (.if_icmp .eq 9, 3) := by decide +kernel
theorem dX5_operandsOf_6 : decode cX5_operandsOf 6 = .ok (.iload_n 0, 1) := by decide +kernel
theorem dX5_operandsOf_7 : decode cX5_operandsOf 7 = .ok (.bipush 126, 2) := by decide +kernel
theorem dX5_operandsOf_9 : decode cX5_operandsOf 9 = .ok (.if_icmp .ne 5, 3) := by decide +kernel
theorem dX5_operandsOf_12 : decode cX5_operandsOf 12 = .ok (.iconst 1, 1) := by decide +kernel
theorem dX5_operandsOf_13 : decode cX5_operandsOf 13 = .ok (.ireturn, 1) := by decide +kernel
theorem dX5_operandsOf_14 : decode cX5_operandsOf 14 = .ok (.iload_n 0, 1) := by decide +kernel
theorem dX5_operandsOf_15 : decode cX5_operandsOf 15 = .ok (.invokestatic 68, 3) := by decide +kernel
theorem dX5_operandsOf_18 : decode cX5_operandsOf 18 = .ok (.ifCond .lt 7, 3) := by decide +kernel
theorem dX5_operandsOf_21 : decode cX5_operandsOf 21 = .ok (.iconst 2, 1) := by decide +kernel
theorem dX5_operandsOf_22 : decode cX5_operandsOf 22 = .ok (.goto 4, 3) := by decide +kernel
theorem dX5_operandsOf_25 : decode cX5_operandsOf 25 = .ok (.iconst 0, 1) := by decide +kernel
theorem dX5_operandsOf_26 : decode cX5_operandsOf 26 = .ok (.ireturn, 1) := by decide +kernel
section
variable {p : Program} {l : Launch} {e : Env} {s : State} {m : MethodId} {args : Array Value} {below : List Frame} {meth : Method} {c : Code} {H : Heap} {locs : List Loc} {E : Ev} {S V : St} {ls : Array Slot}
set_option maxRecDepth 20000 in
theorem w_La_operandsOf {p1 : Int32} {r : Int32} (C : Cx p s m args meth c E cX5_operandsOf 1 RX5 (some .int)) (hw : Wd E (wX V E) s.heap S H locs) (hl : lv_has ls 1 [(0, .int p1)]) (hf : La_operandsOf S p1 = some r) : W p l e (rmh 2) s m args below meth c H locs 0 0 (MQ below (QW E (wX V E) (some (.int r)) S) args s 0 0 (eA E)) (F0 m 0 ls []) := by
  have hx := C.1
  have hb := C.2.1
  unfold La_operandsOf at hf
  refine lv_iload_n hx hb dX5_operandsOf_0 rfl (lv_at hl 0 rfl) ?_
  refine lv_bipush (v := 33) hx hb dX5_operandsOf_1 kb_33 ?_
  refine lv_icmp_eq (tgt := 12) hx hb dX5_operandsOf_3 (by decide) (fun q => ?_) (fun q => ?_)
  · have hf := hf_t q hf
    refine lv_iconst (v := 1) hx hb dX5_operandsOf_12 kc_1 ?_
    exact ret_i C hw dX5_operandsOf_13 hf
  · have hf := hf_f q hf
    refine lv_iload_n hx hb dX5_operandsOf_6 rfl (lv_at hl 0 rfl) ?_
    refine lv_bipush (v := 126) hx hb dX5_operandsOf_7 kb_126 ?_
    refine lv_icmp_ne (tgt := 14) hx hb dX5_operandsOf_9 (by decide) (fun q => ?_) (fun q => ?_)
    · have hf := hf_f q hf
      refine lv_iload_n hx hb dX5_operandsOf_14 rfl (lv_at hl 0 rfl) ?_
      obtain ⟨r1, hr, hf⟩ := hf_1 hf
      refine inv_Si (As := [.int p1]) lk_X5_68 C hw (t_La_levelOf hr) hl.1 dX5_operandsOf_15 rfl (Nat.le_of_ble_eq_true rfl) (by decide) (Nat.le_of_ble_eq_true rfl) rfl (fun H locs hw => ?_)
      refine lv_if_lt (tgt := 25) hx hb dX5_operandsOf_18 (by decide) (fun q => ?_) (fun q => ?_)
      · have hf := hf_t q hf
        refine lv_iconst (v := 0) hx hb dX5_operandsOf_25 kc_0 ?_
        exact ret_i C hw dX5_operandsOf_26 hf
      · have hf := hf_f q hf
        refine lv_iconst (v := 2) hx hb dX5_operandsOf_21 kc_2 ?_
        refine lv_goto (tgt := 26) hx hb dX5_operandsOf_22 (by decide) ?_
        exact ret_i C hw dX5_operandsOf_26 hf
    · have hf := hf_t q hf
      refine lv_iconst (v := 1) hx hb dX5_operandsOf_12 kc_1 ?_
      exact ret_i C hw dX5_operandsOf_13 hf
end
theorem t_La_operandsOf {l : Launch} {V : St} {S : St} {p1 : Int32} {r : Int32} (hf : La_operandsOf S p1 = some r) : Ct l (wX V) yX5_operandsOf cX5_operandsOf 1 (some .int) 2 (fun E => [.int p1]) S (fun E => some (.int r)) S :=
  ofBlock (by decide +kernel) (fun _ => Nat.le_of_ble_eq_true rfl) (fun E p e s m args below meth c ls C hw hl => w_La_operandsOf C hw hl hf)
theorem dX5_result_0 : decode cX5_result 0 = .ok (.iload_n 1, 1) := by decide +kernel
theorem dX5_result_1 : decode cX5_result 1 = .ok (.sipush 256, 3) := by decide +kernel
theorem dX5_result_4 : decode cX5_result 4 = .ok (.if_icmp .lt 9, 3) := by decide +kernel
theorem dX5_result_7 : decode cX5_result 7 = .ok (.iload_n 1, 1) := by decide +kernel
theorem dX5_result_8 : decode cX5_result 8 = .ok (.sipush 256, 3) := by decide +kernel
theorem dX5_result_11 : decode cX5_result 11 = .ok (.isub, 1) := by decide +kernel
theorem dX5_result_12 : decode cX5_result 12 = .ok (.ireturn, 1) := by decide +kernel
theorem dX5_result_13 : decode cX5_result 13 = .ok (.iload_n 1, 1) := by decide +kernel
theorem dX5_result_14 : decode cX5_result 14 = .ok (.ifCond .lt 19, 3) := by decide +kernel
theorem dX5_result_17 : decode cX5_result 17 = .ok (.iload_n 1, 1) := by decide +kernel
theorem dX5_result_18 : decode cX5_result 18 = .ok (.aload_n 0, 1) := by decide +kernel
theorem dX5_result_19 : decode cX5_result 19 = .ok (.getfield 22, 3) := by decide +kernel
theorem dX5_result_22 : decode cX5_result 22 = .ok (.arraylength, 1) := by decide +kernel
theorem dX5_result_23 : decode cX5_result 23 = .ok (.if_icmp .ge 10, 3) := by decide +kernel
theorem dX5_result_26 : decode cX5_result 26 = .ok (.aload_n 0, 1) := by decide +kernel
theorem dX5_result_27 : decode cX5_result 27 = .ok (.getfield 22, 3) := by decide +kernel
theorem dX5_result_30 : decode cX5_result 30 = .ok (.iload_n 1, 1) := by decide +kernel
theorem dX5_result_31 : decode cX5_result 31 = .ok (.iaload, 1) := by decide +kernel
theorem dX5_result_32 : decode cX5_result 32 = .ok (.ireturn, 1) := by decide +kernel
theorem dX5_result_33 : decode cX5_result 33 = .ok (.iload_n 1, 1) := by decide +kernel
theorem dX5_result_34 : decode cX5_result 34 = .ok (.lookupswitch 216 #[(33, 106), (37, 204), (38, 133), (42, 188), (43, 180), (45, 184), (47, 192), (60, 147), (61, 158), (62, 169), (124, 119), (126, 116)], 106) := by decide +kernel
theorem dX5_result_140 : decode cX5_result 140 = .ok (.iload_n 2, 1) := by decide +kernel
theorem dX5_result_141 : decode cX5_result 141 = .ok (.ifCond .ne 7, 3) := by decide +kernel
theorem dX5_result_144 : decode cX5_result 144 = .ok (.iconst 1, 1) := by decide +kernel
theorem dX5_result_145 : decode cX5_result 145 = .ok (.goto 4, 3) := by decide +kernel
theorem dX5_result_148 : decode cX5_result 148 = .ok (.iconst 0, 1) := by decide +kernel
theorem dX5_result_149 : decode cX5_result 149 = .ok (.ireturn, 1) := by decide +kernel
theorem dX5_result_150 : decode cX5_result 150 = .ok (.iload_n 2, 1) := by decide +kernel
theorem dX5_result_151 : decode cX5_result 151 = .ok (.ineg, 1) := by decide +kernel
theorem dX5_result_152 : decode cX5_result 152 = .ok (.ireturn, 1) := by decide +kernel
theorem dX5_result_153 : decode cX5_result 153 = .ok (.iload_n 2, 1) := by decide +kernel
theorem dX5_result_154 : decode cX5_result 154 = .ok (.ifCond .ne 7, 3) := by decide +kernel
theorem dX5_result_157 : decode cX5_result 157 = .ok (.iload_n 3, 1) := by decide +kernel
theorem dX5_result_158 : decode cX5_result 158 = .ok (.ifCond .eq 7, 3) := by decide +kernel
theorem dX5_result_161 : decode cX5_result 161 = .ok (.iconst 1, 1) := by decide +kernel
theorem dX5_result_162 : decode cX5_result 162 = .ok (.goto 4, 3) := by decide +kernel
theorem dX5_result_165 : decode cX5_result 165 = .ok (.iconst 0, 1) := by decide +kernel
theorem dX5_result_166 : decode cX5_result 166 = .ok (.ireturn, 1) := by decide +kernel
theorem dX5_result_167 : decode cX5_result 167 = .ok (.iload_n 2, 1) := by decide +kernel
theorem dX5_result_168 : decode cX5_result 168 = .ok (.ifCond .eq 11, 3) := by decide +kernel
theorem dX5_result_171 : decode cX5_result 171 = .ok (.iload_n 3, 1) := by decide +kernel
theorem dX5_result_172 : decode cX5_result 172 = .ok (.ifCond .eq 7, 3) := by decide +kernel
theorem dX5_result_175 : decode cX5_result 175 = .ok (.iconst 1, 1) := by decide +kernel
theorem dX5_result_176 : decode cX5_result 176 = .ok (.goto 4, 3) := by decide +kernel
theorem dX5_result_179 : decode cX5_result 179 = .ok (.iconst 0, 1) := by decide +kernel
theorem dX5_result_180 : decode cX5_result 180 = .ok (.ireturn, 1) := by decide +kernel
theorem dX5_result_181 : decode cX5_result 181 = .ok (.iload_n 2, 1) := by decide +kernel
theorem dX5_result_182 : decode cX5_result 182 = .ok (.iload_n 3, 1) := by decide +kernel
theorem dX5_result_183 : decode cX5_result 183 = .ok (.if_icmp .ge 7, 3) := by decide +kernel
theorem dX5_result_186 : decode cX5_result 186 = .ok (.iconst 1, 1) := by decide +kernel
theorem dX5_result_187 : decode cX5_result 187 = .ok (.goto 4, 3) := by decide +kernel
theorem dX5_result_190 : decode cX5_result 190 = .ok (.iconst 0, 1) := by decide +kernel
theorem dX5_result_191 : decode cX5_result 191 = .ok (.ireturn, 1) := by decide +kernel
theorem dX5_result_192 : decode cX5_result 192 = .ok (.iload_n 2, 1) := by decide +kernel
theorem dX5_result_193 : decode cX5_result 193 = .ok (.iload_n 3, 1) := by decide +kernel
theorem dX5_result_194 : decode cX5_result 194 = .ok (.if_icmp .ne 7, 3) := by decide +kernel
theorem dX5_result_197 : decode cX5_result 197 = .ok (.iconst 1, 1) := by decide +kernel
theorem dX5_result_198 : decode cX5_result 198 = .ok (.goto 4, 3) := by decide +kernel
theorem dX5_result_201 : decode cX5_result 201 = .ok (.iconst 0, 1) := by decide +kernel
theorem dX5_result_202 : decode cX5_result 202 = .ok (.ireturn, 1) := by decide +kernel
theorem dX5_result_203 : decode cX5_result 203 = .ok (.iload_n 2, 1) := by decide +kernel
theorem dX5_result_204 : decode cX5_result 204 = .ok (.iload_n 3, 1) := by decide +kernel
theorem dX5_result_205 : decode cX5_result 205 = .ok (.if_icmp .le 7, 3) := by decide +kernel
theorem dX5_result_208 : decode cX5_result 208 = .ok (.iconst 1, 1) := by decide +kernel
theorem dX5_result_209 : decode cX5_result 209 = .ok (.goto 4, 3) := by decide +kernel
theorem dX5_result_212 : decode cX5_result 212 = .ok (.iconst 0, 1) := by decide +kernel
theorem dX5_result_213 : decode cX5_result 213 = .ok (.ireturn, 1) := by decide +kernel
theorem dX5_result_214 : decode cX5_result 214 = .ok (.iload_n 2, 1) := by decide +kernel
theorem dX5_result_215 : decode cX5_result 215 = .ok (.iload_n 3, 1) := by decide +kernel
theorem dX5_result_216 : decode cX5_result 216 = .ok (.iadd, 1) := by decide +kernel
theorem dX5_result_217 : decode cX5_result 217 = .ok (.ireturn, 1) := by decide +kernel
theorem dX5_result_218 : decode cX5_result 218 = .ok (.iload_n 2, 1) := by decide +kernel
theorem dX5_result_219 : decode cX5_result 219 = .ok (.iload_n 3, 1) := by decide +kernel
theorem dX5_result_220 : decode cX5_result 220 = .ok (.isub, 1) := by decide +kernel
theorem dX5_result_221 : decode cX5_result 221 = .ok (.ireturn, 1) := by decide +kernel
theorem dX5_result_222 : decode cX5_result 222 = .ok (.iload_n 2, 1) := by decide +kernel
theorem dX5_result_223 : decode cX5_result 223 = .ok (.iload_n 3, 1) := by decide +kernel
theorem dX5_result_224 : decode cX5_result 224 = .ok (.imul, 1) := by decide +kernel
theorem dX5_result_225 : decode cX5_result 225 = .ok (.ireturn, 1) := by decide +kernel
theorem dX5_result_226 : decode cX5_result 226 = .ok (.iload_n 3, 1) := by decide +kernel
theorem dX5_result_227 : decode cX5_result 227 = .ok (.ifCond .ne 7, 3) := by decide +kernel
theorem dX5_result_230 : decode cX5_result 230 = .ok (.iconst 0, 1) := by decide +kernel
theorem dX5_result_231 : decode cX5_result 231 = .ok (.goto 6, 3) := by decide +kernel
theorem dX5_result_234 : decode cX5_result 234 = .ok (.iload_n 2, 1) := by decide +kernel
theorem dX5_result_235 : decode cX5_result 235 = .ok (.iload_n 3, 1) := by decide +kernel
theorem dX5_result_236 : decode cX5_result 236 = .ok (.idiv, 1) := by decide +kernel
theorem dX5_result_237 : decode cX5_result 237 = .ok (.ireturn, 1) := by decide +kernel
theorem dX5_result_238 : decode cX5_result 238 = .ok (.iload_n 3, 1) := by decide +kernel
theorem dX5_result_239 : decode cX5_result 239 = .ok (.ifCond .ne 7, 3) := by decide +kernel
theorem dX5_result_242 : decode cX5_result 242 = .ok (.iconst 0, 1) := by decide +kernel
theorem dX5_result_243 : decode cX5_result 243 = .ok (.goto 6, 3) := by decide +kernel
theorem dX5_result_246 : decode cX5_result 246 = .ok (.iload_n 2, 1) := by decide +kernel
theorem dX5_result_247 : decode cX5_result 247 = .ok (.iload_n 3, 1) := by decide +kernel
theorem dX5_result_248 : decode cX5_result 248 = .ok (.irem, 1) := by decide +kernel
theorem dX5_result_249 : decode cX5_result 249 = .ok (.ireturn, 1) := by decide +kernel
theorem dX5_result_250 : decode cX5_result 250 = .ok (.iconst 0, 1) := by decide +kernel
theorem dX5_result_251 : decode cX5_result 251 = .ok (.ireturn, 1) := by decide +kernel
section
variable {p : Program} {l : Launch} {e : Env} {s : State} {m : MethodId} {args : Array Value} {below : List Frame} {meth : Method} {c : Code} {H : Heap} {locs : List Loc} {E : Ev} {S V : St} {ls : Array Slot}
set_option maxRecDepth 20000 in
theorem w_La_result_b33 {l1 : Int32} {l2 : Int32} {l3 : Int32} {r : Int32} (C : Cx p s m args meth c E cX5_result 4 RX5 (some .int)) (hw : Wd E (wX V E) s.heap S H locs) (hl : lv_has ls 4 [(1, .int l1), (2, .int l2), (3, .int l3)]) (hf : La_result_b33 S l1 l2 l3 = some r) : W p l e (rmh 1) s m args below meth c H locs 0 0 (MQ below (QW E (wX V E) (some (.int r)) S) args s 0 0 (eA E)) (F0 m 33 ls []) := by
  have hx := C.1
  have hb := C.2.1
  unfold La_result_b33 at hf
  refine lv_iload_n hx hb dX5_result_33 rfl (lv_at hl 0 rfl) ?_
  by_cases q0 : l1 = 33
  · have hf := hf_t q0 hf
    refine lv_lookup (off := 106) (tgt := 140) hx hb dX5_result_34 (by decide) (by rw [q0]; rfl) (by decide) ?_
    refine lv_iload_n hx hb dX5_result_140 rfl (lv_at hl 1 rfl) ?_
    refine lv_if_ne (tgt := 148) hx hb dX5_result_141 (by decide) (fun q => ?_) (fun q => ?_)
    · have hf := hf_f q hf
      refine lv_iconst (v := 0) hx hb dX5_result_148 kc_0 ?_
      exact ret_i C hw dX5_result_149 hf
    · have hf := hf_t q hf
      refine lv_iconst (v := 1) hx hb dX5_result_144 kc_1 ?_
      refine lv_goto (tgt := 149) hx hb dX5_result_145 (by decide) ?_
      exact ret_i C hw dX5_result_149 hf
  have hf := hf_f q0 hf
  by_cases q1 : l1 = 37
  · have hf := hf_t q1 hf
    refine lv_lookup (off := 204) (tgt := 238) hx hb dX5_result_34 (by decide) (by rw [q1]; rfl) (by decide) ?_
    refine lv_iload_n hx hb dX5_result_238 rfl (lv_at hl 2 rfl) ?_
    refine lv_if_ne (tgt := 246) hx hb dX5_result_239 (by decide) (fun q => ?_) (fun q => ?_)
    · have hf := hf_f q hf
      refine lv_iload_n hx hb dX5_result_246 rfl (lv_at hl 1 rfl) ?_
      refine lv_iload_n hx hb dX5_result_247 rfl (lv_at hl 2 rfl) ?_
      obtain ⟨hc, hf⟩ := hf_ck hf
      refine lv_irem hx hb dX5_result_248 (nz_ne hc) ?_
      exact ret_i C hw dX5_result_249 hf
    · have hf := hf_t q hf
      refine lv_iconst (v := 0) hx hb dX5_result_242 kc_0 ?_
      refine lv_goto (tgt := 249) hx hb dX5_result_243 (by decide) ?_
      exact ret_i C hw dX5_result_249 hf
  have hf := hf_f q1 hf
  by_cases q2 : l1 = 38
  · have hf := hf_t q2 hf
    refine lv_lookup (off := 133) (tgt := 167) hx hb dX5_result_34 (by decide) (by rw [q2]; rfl) (by decide) ?_
    refine lv_iload_n hx hb dX5_result_167 rfl (lv_at hl 1 rfl) ?_
    refine lv_if_eq (tgt := 179) hx hb dX5_result_168 (by decide) (fun q => ?_) (fun q => ?_)
    · have hf := hf_t q hf
      refine lv_iconst (v := 0) hx hb dX5_result_179 kc_0 ?_
      exact ret_i C hw dX5_result_180 hf
    · have hf := hf_f q hf
      refine lv_iload_n hx hb dX5_result_171 rfl (lv_at hl 2 rfl) ?_
      refine lv_if_eq (tgt := 179) hx hb dX5_result_172 (by decide) (fun q => ?_) (fun q => ?_)
      · have hf := hf_t q hf
        refine lv_iconst (v := 0) hx hb dX5_result_179 kc_0 ?_
        exact ret_i C hw dX5_result_180 hf
      · have hf := hf_f q hf
        refine lv_iconst (v := 1) hx hb dX5_result_175 kc_1 ?_
        refine lv_goto (tgt := 180) hx hb dX5_result_176 (by decide) ?_
        exact ret_i C hw dX5_result_180 hf
  have hf := hf_f q2 hf
  by_cases q3 : l1 = 42
  · have hf := hf_t q3 hf
    refine lv_lookup (off := 188) (tgt := 222) hx hb dX5_result_34 (by decide) (by rw [q3]; rfl) (by decide) ?_
    refine lv_iload_n hx hb dX5_result_222 rfl (lv_at hl 1 rfl) ?_
    refine lv_iload_n hx hb dX5_result_223 rfl (lv_at hl 2 rfl) ?_
    refine lv_imul hx hb dX5_result_224 ?_
    exact ret_i C hw dX5_result_225 hf
  have hf := hf_f q3 hf
  by_cases q4 : l1 = 43
  · have hf := hf_t q4 hf
    refine lv_lookup (off := 180) (tgt := 214) hx hb dX5_result_34 (by decide) (by rw [q4]; rfl) (by decide) ?_
    refine lv_iload_n hx hb dX5_result_214 rfl (lv_at hl 1 rfl) ?_
    refine lv_iload_n hx hb dX5_result_215 rfl (lv_at hl 2 rfl) ?_
    refine lv_iadd hx hb dX5_result_216 ?_
    exact ret_i C hw dX5_result_217 hf
  have hf := hf_f q4 hf
  by_cases q5 : l1 = 45
  · have hf := hf_t q5 hf
    refine lv_lookup (off := 184) (tgt := 218) hx hb dX5_result_34 (by decide) (by rw [q5]; rfl) (by decide) ?_
    refine lv_iload_n hx hb dX5_result_218 rfl (lv_at hl 1 rfl) ?_
    refine lv_iload_n hx hb dX5_result_219 rfl (lv_at hl 2 rfl) ?_
    refine lv_isub hx hb dX5_result_220 ?_
    exact ret_i C hw dX5_result_221 hf
  have hf := hf_f q5 hf
  by_cases q6 : l1 = 47
  · have hf := hf_t q6 hf
    refine lv_lookup (off := 192) (tgt := 226) hx hb dX5_result_34 (by decide) (by rw [q6]; rfl) (by decide) ?_
    refine lv_iload_n hx hb dX5_result_226 rfl (lv_at hl 2 rfl) ?_
    refine lv_if_ne (tgt := 234) hx hb dX5_result_227 (by decide) (fun q => ?_) (fun q => ?_)
    · have hf := hf_f q hf
      refine lv_iload_n hx hb dX5_result_234 rfl (lv_at hl 1 rfl) ?_
      refine lv_iload_n hx hb dX5_result_235 rfl (lv_at hl 2 rfl) ?_
      obtain ⟨hc, hf⟩ := hf_ck hf
      refine lv_idiv hx hb dX5_result_236 (nz_ne hc) ?_
      exact ret_i C hw dX5_result_237 hf
    · have hf := hf_t q hf
      refine lv_iconst (v := 0) hx hb dX5_result_230 kc_0 ?_
      refine lv_goto (tgt := 237) hx hb dX5_result_231 (by decide) ?_
      exact ret_i C hw dX5_result_237 hf
  have hf := hf_f q6 hf
  by_cases q7 : l1 = 60
  · have hf := hf_t q7 hf
    refine lv_lookup (off := 147) (tgt := 181) hx hb dX5_result_34 (by decide) (by rw [q7]; rfl) (by decide) ?_
    refine lv_iload_n hx hb dX5_result_181 rfl (lv_at hl 1 rfl) ?_
    refine lv_iload_n hx hb dX5_result_182 rfl (lv_at hl 2 rfl) ?_
    refine lv_icmp_ge (tgt := 190) hx hb dX5_result_183 (by decide) (fun q => ?_) (fun q => ?_)
    · have hf := hf_t q hf
      refine lv_iconst (v := 0) hx hb dX5_result_190 kc_0 ?_
      exact ret_i C hw dX5_result_191 hf
    · have hf := hf_f q hf
      refine lv_iconst (v := 1) hx hb dX5_result_186 kc_1 ?_
      refine lv_goto (tgt := 191) hx hb dX5_result_187 (by decide) ?_
      exact ret_i C hw dX5_result_191 hf
  have hf := hf_f q7 hf
  by_cases q8 : l1 = 61
  · have hf := hf_t q8 hf
    refine lv_lookup (off := 158) (tgt := 192) hx hb dX5_result_34 (by decide) (by rw [q8]; rfl) (by decide) ?_
    refine lv_iload_n hx hb dX5_result_192 rfl (lv_at hl 1 rfl) ?_
    refine lv_iload_n hx hb dX5_result_193 rfl (lv_at hl 2 rfl) ?_
    refine lv_icmp_ne (tgt := 201) hx hb dX5_result_194 (by decide) (fun q => ?_) (fun q => ?_)
    · have hf := hf_f q hf
      refine lv_iconst (v := 0) hx hb dX5_result_201 kc_0 ?_
      exact ret_i C hw dX5_result_202 hf
    · have hf := hf_t q hf
      refine lv_iconst (v := 1) hx hb dX5_result_197 kc_1 ?_
      refine lv_goto (tgt := 202) hx hb dX5_result_198 (by decide) ?_
      exact ret_i C hw dX5_result_202 hf
  have hf := hf_f q8 hf
  by_cases q9 : l1 = 62
  · have hf := hf_t q9 hf
    refine lv_lookup (off := 169) (tgt := 203) hx hb dX5_result_34 (by decide) (by rw [q9]; rfl) (by decide) ?_
    refine lv_iload_n hx hb dX5_result_203 rfl (lv_at hl 1 rfl) ?_
    refine lv_iload_n hx hb dX5_result_204 rfl (lv_at hl 2 rfl) ?_
    refine lv_icmp_le (tgt := 212) hx hb dX5_result_205 (by decide) (fun q => ?_) (fun q => ?_)
    · have hf := hf_t q hf
      refine lv_iconst (v := 0) hx hb dX5_result_212 kc_0 ?_
      exact ret_i C hw dX5_result_213 hf
    · have hf := hf_f q hf
      refine lv_iconst (v := 1) hx hb dX5_result_208 kc_1 ?_
      refine lv_goto (tgt := 213) hx hb dX5_result_209 (by decide) ?_
      exact ret_i C hw dX5_result_213 hf
  have hf := hf_f q9 hf
  by_cases q10 : l1 = 124
  · have hf := hf_t q10 hf
    refine lv_lookup (off := 119) (tgt := 153) hx hb dX5_result_34 (by decide) (by rw [q10]; rfl) (by decide) ?_
    refine lv_iload_n hx hb dX5_result_153 rfl (lv_at hl 1 rfl) ?_
    refine lv_if_ne (tgt := 161) hx hb dX5_result_154 (by decide) (fun q => ?_) (fun q => ?_)
    · have hf := hf_f q hf
      refine lv_iconst (v := 1) hx hb dX5_result_161 kc_1 ?_
      refine lv_goto (tgt := 166) hx hb dX5_result_162 (by decide) ?_
      exact ret_i C hw dX5_result_166 hf
    · have hf := hf_t q hf
      refine lv_iload_n hx hb dX5_result_157 rfl (lv_at hl 2 rfl) ?_
      refine lv_if_eq (tgt := 165) hx hb dX5_result_158 (by decide) (fun q => ?_) (fun q => ?_)
      · have hf := hf_t q hf
        refine lv_iconst (v := 0) hx hb dX5_result_165 kc_0 ?_
        exact ret_i C hw dX5_result_166 hf
      · have hf := hf_f q hf
        refine lv_iconst (v := 1) hx hb dX5_result_161 kc_1 ?_
        refine lv_goto (tgt := 166) hx hb dX5_result_162 (by decide) ?_
        exact ret_i C hw dX5_result_166 hf
  have hf := hf_f q10 hf
  by_cases q11 : l1 = 126
  · have hf := hf_t q11 hf
    refine lv_lookup (off := 116) (tgt := 150) hx hb dX5_result_34 (by decide) (by rw [q11]; rfl) (by decide) ?_
    refine lv_iload_n hx hb dX5_result_150 rfl (lv_at hl 1 rfl) ?_
    refine lv_ineg hx hb dX5_result_151 ?_
    exact ret_i C hw dX5_result_152 hf
  have hf := hf_f q11 hf
  refine lv_lookup (off := 216) (tgt := 250) hx hb dX5_result_34 (by decide) (by show Op.lookupswitch.offset [(33, 106), (37, 204), (38, 133), (42, 188), (43, 180), (45, 184), (47, 192), (60, 147), (61, 158), (62, 169), (124, 119), (126, 116)] 216 _ = _; rw [lv_osw (a := 33) q0 rfl, lv_osw (a := 37) q1 rfl, lv_osw (a := 38) q2 rfl, lv_osw (a := 42) q3 rfl, lv_osw (a := 43) q4 rfl, lv_osw (a := 45) q5 rfl, lv_osw (a := 47) q6 rfl, lv_osw (a := 60) q7 rfl, lv_osw (a := 61) q8 rfl, lv_osw (a := 62) q9 rfl, lv_osw (a := 124) q10 rfl, lv_osw (a := 126) q11 rfl]; rfl) (by decide) ?_
  refine lv_iconst (v := 0) hx hb dX5_result_250 kc_0 ?_
  exact ret_i C hw dX5_result_251 hf
set_option maxRecDepth 20000 in
theorem w_La_result {p1 : Int32} {p2 : Int32} {p3 : Int32} {r : Int32} (C : Cx p s m args meth c E cX5_result 4 RX5 (some .int)) (hw : Wd E (wX V E) s.heap S H locs) (hl : lv_has ls 4 [(0, .ref (ea E 2)), (1, .int p1), (2, .int p2), (3, .int p3)]) (hf : La_result S p1 p2 p3 = some r) : W p l e (rmh 1) s m args below meth c H locs 0 0 (MQ below (QW E (wX V E) (some (.int r)) S) args s 0 0 (eA E)) (F0 m 0 ls []) := by
  have hx := C.1
  have hb := C.2.1
  unfold La_result at hf
  refine lv_iload_n hx hb dX5_result_0 rfl (lv_at hl 1 rfl) ?_
  refine lv_sipush (v := 256) hx hb dX5_result_1 ks_256 ?_
  refine lv_icmp_lt (tgt := 13) hx hb dX5_result_4 (by decide) (fun q => ?_) (fun q => ?_)
  · have hf := hf_t q hf
    refine lv_iload_n hx hb dX5_result_13 rfl (lv_at hl 1 rfl) ?_
    refine lv_if_lt (tgt := 33) hx hb dX5_result_14 (by decide) (fun q => ?_) (fun q => ?_)
    · have hf := hf_t q hf
      exact w_La_result_b33 C hw (lv_sub hl [1, 2, 3] rfl) hf
    · have hf := hf_f q hf
      refine lv_iload_n hx hb dX5_result_17 rfl (lv_at hl 1 rfl) ?_
      refine lv_aload_n hx hb dX5_result_18 rfl (lv_at hl 0 rfl) ?_
      refine get_2_5 C hw q_180 dX5_result_19 ?_
      refine len_24 C hw dX5_result_22 ?_
      refine lv_icmp_ge (tgt := 33) hx hb dX5_result_23 (by decide) (fun q => ?_) (fun q => ?_)
      · have hf := hf_t q hf
        exact w_La_result_b33 C hw (lv_sub hl [1, 2, 3] rfl) hf
      · have hf := hf_f q hf
        refine lv_aload_n hx hb dX5_result_26 rfl (lv_at hl 0 rfl) ?_
        refine get_2_5 C hw q_180 dX5_result_27 ?_
        refine lv_iload_n hx hb dX5_result_30 rfl (lv_at hl 1 rfl) ?_
        obtain ⟨hc, hf⟩ := hf_ck hf
        refine ld_24 C hw hc dX5_result_31 ?_
        exact ret_i C hw dX5_result_32 hf
  · have hf := hf_f q hf
    refine lv_iload_n hx hb dX5_result_7 rfl (lv_at hl 1 rfl) ?_
    refine lv_sipush (v := 256) hx hb dX5_result_8 ks_256 ?_
    refine lv_isub hx hb dX5_result_11 ?_
    exact ret_i C hw dX5_result_12 hf
end
theorem t_La_result {l : Launch} {V : St} {S : St} {p1 : Int32} {p2 : Int32} {p3 : Int32} {r : Int32} (hf : La_result S p1 p2 p3 = some r) : Ct l (wX V) yX5_result cX5_result 4 (some .int) 1 (fun E => [.ref (ea E 2), .int p1, .int p2, .int p3]) S (fun E => some (.int r)) S :=
  ofBlock (by decide +kernel) (fun _ => Nat.le_of_ble_eq_true rfl) (fun E p e s m args below meth c ls C hw hl => w_La_result C hw hl hf)
theorem dX5_tell_0 : decode cX5_tell 0 = .ok (.aload_n 0, 1) := by decide +kernel
theorem dX5_tell_1 : decode cX5_tell 1 = .ok (.getfield 22, 3) := by decide +kernel
theorem dX5_tell_4 : decode cX5_tell 4 = .ok (.iconst 0, 1) := by decide +kernel
theorem dX5_tell_5 : decode cX5_tell 5 = .ok (.iload_n 1, 1) := by decide +kernel
theorem dX5_tell_6 : decode cX5_tell 6 = .ok (.iastore, 1) := by decide +kernel
theorem dX5_tell_7 : decode cX5_tell 7 = .ok (.aload_n 0, 1) := by decide +kernel
theorem dX5_tell_8 : decode cX5_tell 8 = .ok (.getfield 22, 3) := by decide +kernel
theorem dX5_tell_11 : decode cX5_tell 11 = .ok (.iconst 1, 1) := by decide +kernel
theorem dX5_tell_12 : decode cX5_tell 12 = .ok (.iload_n 2, 1) := by decide +kernel
theorem dX5_tell_13 : decode cX5_tell 13 = .ok (.iastore, 1) := by decide +kernel
theorem dX5_tell_14 : decode cX5_tell 14 = .ok (.aload_n 0, 1) := by decide +kernel
theorem dX5_tell_15 : decode cX5_tell 15 = .ok (.getfield 22, 3) := by decide +kernel
theorem dX5_tell_18 : decode cX5_tell 18 = .ok (.iconst 2, 1) := by decide +kernel
theorem dX5_tell_19 : decode cX5_tell 19 = .ok (.iload_n 3, 1) := by decide +kernel
theorem dX5_tell_20 : decode cX5_tell 20 = .ok (.iastore, 1) := by decide +kernel
theorem dX5_tell_21 : decode cX5_tell 21 = .ok (.aload_n 0, 1) := by decide +kernel
theorem dX5_tell_22 : decode cX5_tell 22 = .ok (.getfield 22, 3) := by decide +kernel
theorem dX5_tell_25 : decode cX5_tell 25 = .ok (.iconst 3, 1) := by decide +kernel
theorem dX5_tell_26 : decode cX5_tell 26 = .ok (.iload 4, 2) := by decide +kernel
theorem dX5_tell_28 : decode cX5_tell 28 = .ok (.iastore, 1) := by decide +kernel
theorem dX5_tell_29 : decode cX5_tell 29 = .ok (.aload_n 0, 1) := by decide +kernel
theorem dX5_tell_30 : decode cX5_tell 30 = .ok (.getfield 22, 3) := by decide +kernel
theorem dX5_tell_33 : decode cX5_tell 33 = .ok (.iconst 4, 1) := by decide +kernel
theorem dX5_tell_34 : decode cX5_tell 34 = .ok (.iload 5, 2) := by decide +kernel
theorem dX5_tell_36 : decode cX5_tell 36 = .ok (.iastore, 1) := by decide +kernel
theorem dX5_tell_37 : decode cX5_tell 37 = .ok (.aload_n 0, 1) := by decide +kernel
theorem dX5_tell_38 : decode cX5_tell 38 = .ok (.getfield 22, 3) := by decide +kernel
theorem dX5_tell_41 : decode cX5_tell 41 = .ok (.iconst 5, 1) := by decide +kernel
theorem dX5_tell_42 : decode cX5_tell 42 = .ok (.iload 6, 2) := by decide +kernel
theorem dX5_tell_44 : decode cX5_tell 44 = .ok (.iastore, 1) := by decide +kernel
theorem dX5_tell_45 : decode cX5_tell 45 = .ok (.return_, 1) := by decide +kernel
section
variable {p : Program} {l : Launch} {e : Env} {s : State} {m : MethodId} {args : Array Value} {below : List Frame} {meth : Method} {c : Code} {H : Heap} {locs : List Loc} {E : Ev} {S V : St} {ls : Array Slot}
set_option maxRecDepth 20000 in
theorem w_La_tell {p1 : Int32} {p2 : Int32} {p3 : Int32} {p4 : Int32} {p5 : Int32} {p6 : Int32} {S9 : St} (C : Cx p s m args meth c E cX5_tell 7 RX5 none) (hw : Wd E (wX V E) s.heap S H locs) (hl : lv_has ls 7 [(0, .ref (ea E 2)), (1, .int p1), (2, .int p2), (3, .int p3), (4, .int p4), (5, .int p5), (6, .int p6)]) (hf : La_tell S p1 p2 p3 p4 p5 p6 = some S9) : W p l e (rmh 1) s m args below meth c H locs 0 0 (MQ below (QW E (wX V E) (none) S9) args s 0 0 (eA E)) (F0 m 0 ls []) := by
  have hx := C.1
  have hb := C.2.1
  unfold La_tell at hf
  refine lv_aload_n hx hb dX5_tell_0 rfl (lv_at hl 0 rfl) ?_
  refine get_2_5 C hw q_180 dX5_tell_1 ?_
  refine lv_iconst (v := 0) hx hb dX5_tell_4 kc_0 ?_
  refine lv_iload_n hx hb dX5_tell_5 rfl (lv_at hl 1 rfl) ?_
  refine st_24 C hw (by decide) dX5_tell_6 (fun H locs hw => ?_)
  refine nm_S hf hw (fun S1 hf hw => ?_)
  refine lv_aload_n hx hb dX5_tell_7 rfl (lv_at hl 0 rfl) ?_
  refine get_2_5 C hw q_180 dX5_tell_8 ?_
  refine lv_iconst (v := 1) hx hb dX5_tell_11 kc_1 ?_
  refine lv_iload_n hx hb dX5_tell_12 rfl (lv_at hl 2 rfl) ?_
  refine st_24 C hw (by decide) dX5_tell_13 (fun H locs hw => ?_)
  refine nm_S hf hw (fun S2 hf hw => ?_)
  refine lv_aload_n hx hb dX5_tell_14 rfl (lv_at hl 0 rfl) ?_
  refine get_2_5 C hw q_180 dX5_tell_15 ?_
  refine lv_iconst (v := 2) hx hb dX5_tell_18 kc_2 ?_
  refine lv_iload_n hx hb dX5_tell_19 rfl (lv_at hl 3 rfl) ?_
  refine st_24 C hw (by decide) dX5_tell_20 (fun H locs hw => ?_)
  refine nm_S hf hw (fun S3 hf hw => ?_)
  refine lv_aload_n hx hb dX5_tell_21 rfl (lv_at hl 0 rfl) ?_
  refine get_2_5 C hw q_180 dX5_tell_22 ?_
  refine lv_iconst (v := 3) hx hb dX5_tell_25 kc_3 ?_
  refine lv_iload hx hb dX5_tell_26 (lv_at hl 4 rfl) ?_
  refine st_24 C hw (by decide) dX5_tell_28 (fun H locs hw => ?_)
  refine nm_S hf hw (fun S4 hf hw => ?_)
  refine lv_aload_n hx hb dX5_tell_29 rfl (lv_at hl 0 rfl) ?_
  refine get_2_5 C hw q_180 dX5_tell_30 ?_
  refine lv_iconst (v := 4) hx hb dX5_tell_33 kc_4 ?_
  refine lv_iload hx hb dX5_tell_34 (lv_at hl 5 rfl) ?_
  refine st_24 C hw (by decide) dX5_tell_36 (fun H locs hw => ?_)
  refine nm_S hf hw (fun S5 hf hw => ?_)
  refine lv_aload_n hx hb dX5_tell_37 rfl (lv_at hl 0 rfl) ?_
  refine get_2_5 C hw q_180 dX5_tell_38 ?_
  refine lv_iconst (v := 5) hx hb dX5_tell_41 kc_5 ?_
  refine lv_iload hx hb dX5_tell_42 (lv_at hl 6 rfl) ?_
  refine st_24 C hw (by decide) dX5_tell_44 (fun H locs hw => ?_)
  refine nm_S hf hw (fun S6 hf hw => ?_)
  exact ret_vS C hw dX5_tell_45 hf
end
theorem t_La_tell {l : Launch} {V : St} {S : St} {p1 : Int32} {p2 : Int32} {p3 : Int32} {p4 : Int32} {p5 : Int32} {p6 : Int32} {S9 : St} (hf : La_tell S p1 p2 p3 p4 p5 p6 = some S9) : Ct l (wX V) yX5_tell cX5_tell 7 none 1 (fun E => [.ref (ea E 2), .int p1, .int p2, .int p3, .int p4, .int p5, .int p6]) S (fun E => none) S9 :=
  ofBlock (by decide +kernel) (fun _ => Nat.le_of_ble_eq_true rfl) (fun E p e s m args below meth c ls C hw hl => w_La_tell C hw hl hf)
