theorem dX11_body_0 : decode cX11_body 0 = .ok (.iload_n 1, 1) := by decide +kernel
theorem dX11_body_1 : decode cX11_body 1 = .ok (.i2l, 1) := by decide +kernel
theorem dX11_body_2 : decode cX11_body 2 = .ok (.lconst 0, 1) := by decide +kernel
theorem dX11_body_3 : decode cX11_body 3 = .ok (.ldc2_w 281, 3) := by decide +kernel
theorem dX11_body_6 : decode cX11_body 6 = .ok (.invokestatic 84, 3) := by decide +kernel
theorem dX11_body_9 : decode cX11_body 9 = .ok (.ifCond .ne 5, 3) := by decide +kernel
theorem dX11_body_12 : decode cX11_body 12 = .ok (.iconst (-1), 1) := by decide +kernel
theorem dX11_body_13 : decode cX11_body 13 = .ok (.ireturn, 1) := by decide +kernel
theorem dX11_body_14 : decode cX11_body 14 = .ok (.aload_n 0, 1) := by decide +kernel
theorem dX11_body_15 : decode cX11_body 15 = .ok (.getfield 278, 3) := by decide +kernel
theorem dX11_body_18 : decode cX11_body 18 = .ok (.bipush 50, 2) := by decide +kernel
theorem dX11_body_20 : decode cX11_body 20 = .ok (.if_icmp .ne 6, 3) := by decide +kernel
theorem dX11_body_23 : decode cX11_body 23 = .ok (.bipush (-3), 2) := by decide +kernel
theorem dX11_body_25 : decode cX11_body 25 = .ok (.ireturn, 1) := by decide +kernel
theorem dX11_body_26 : decode cX11_body 26 = .ok (.aload_n 0, 1) := by decide +kernel
theorem dX11_body_27 : decode cX11_body 27 = .ok (.getfield 52, 3) := by decide +kernel
theorem dX11_body_30 : decode cX11_body 30 = .ok (.aload_n 0, 1) := by decide +kernel
theorem dX11_body_31 : decode cX11_body 31 = .ok (.getfield 278, 3) := by decide +kernel
theorem dX11_body_34 : decode cX11_body 34 = .ok (.iload_n 1, 1) := by decide +kernel
theorem dX11_body_35 : decode cX11_body 35 = .ok (.iastore, 1) := by decide +kernel
theorem dX11_body_36 : decode cX11_body 36 = .ok (.aload_n 0, 1) := by decide +kernel
theorem dX11_body_37 : decode cX11_body 37 = .ok (.dup, 1) := by decide +kernel
theorem dX11_body_38 : decode cX11_body 38 = .ok (.getfield 278, 3) := by decide +kernel
theorem dX11_body_41 : decode cX11_body 41 = .ok (.iconst 1, 1) := by decide +kernel
theorem dX11_body_42 : decode cX11_body 42 = .ok (.iadd, 1) := by decide +kernel
theorem dX11_body_43 : decode cX11_body 43 = .ok (.putfield 278, 3) := by decide +kernel
theorem dX11_body_46 : decode cX11_body 46 = .ok (.aload_n 0, 1) := by decide +kernel
theorem dX11_body_47 : decode cX11_body 47 = .ok (.getfield 278, 3) := by decide +kernel
theorem dX11_body_50 : decode cX11_body 50 = .ok (.iconst 1, 1) := by decide +kernel
theorem dX11_body_51 : decode cX11_body 51 = .ok (.isub, 1) := by decide +kernel
theorem dX11_body_52 : decode cX11_body 52 = .ok (.ireturn, 1) := by decide +kernel
section
variable {p : Program} {l : Launch} {e : Env} {s : State} {m : MethodId} {args : Array Value} {below : List Frame} {meth : Method} {c : Code} {H : Heap} {locs : List Loc} {E : Ev} {S V : St} {ls : Array Slot}
set_option maxRecDepth 20000 in
theorem w_Mo_body {p1 : Int32} {r : Int32} {S9 : St} (C : Cx p s m args meth c E cX11_body 2 RX11 (some .int)) (hw : Wd E (wM V E) s.heap S H locs) (hl : lv_has ls 2 [(0, .ref (ea E 44)), (1, .int p1)]) (hf : Mo_body S p1 = some (r, S9)) : W p l e (rmh 2) s m args below meth c H locs 0 0 (MQ below (QW E (wM V E) (some (.int r)) S9) args s 0 0 (eA E)) (F0 m 0 ls []) := by
  have hx := C.1
  have hb := C.2.1
  unfold Mo_body at hf
  refine lv_iload_n hx hb dX11_body_0 rfl (lv_at hl 1 rfl) ?_
  refine lv_i2l hx hb dX11_body_1 rfl ?_
  refine lv_lconst (v := 0) hx hb dX11_body_2 rfl ?_
  refine lv_ldc2 (v := 7) hx hb C.2.2.2.1 (C.2.2.2.2.1 _ q_1588) dX11_body_3 ?_
  obtain ⟨r1, hr, hf⟩ := hf_1 hf
  refine inv_Si (As := [.long (Int32.toInt64 p1), .long (0 : Int64), .long (7 : Int64)]) lk_X11_84 C hw (t_Mo_within hr) hl.1 dX11_body_6 rfl (Nat.le_of_ble_eq_true rfl) (by decide) (Nat.le_of_ble_eq_true rfl) rfl (fun H locs hw => ?_)
  refine lv_if_ne (tgt := 14) hx hb dX11_body_9 (by decide) (fun q => ?_) (fun q => ?_)
  · have hf := hf_f q hf
    refine lv_aload_n hx hb dX11_body_14 rfl (lv_at hl 0 rfl) ?_
    refine get_44_29 C hw q_1180 dX11_body_15 ?_
    refine lv_bipush (v := 50) hx hb dX11_body_18 kb_50 ?_
    refine lv_icmp_ne (tgt := 26) hx hb dX11_body_20 (by decide) (fun q => ?_) (fun q => ?_)
    · have hf := hf_f q hf
      refine lv_aload_n hx hb dX11_body_26 rfl (lv_at hl 0 rfl) ?_
      refine get_44_30 C hw q_1181 dX11_body_27 ?_
      refine lv_aload_n hx hb dX11_body_30 rfl (lv_at hl 0 rfl) ?_
      refine get_44_29 C hw q_1180 dX11_body_31 ?_
      refine lv_iload_n hx hb dX11_body_34 rfl (lv_at hl 1 rfl) ?_
      obtain ⟨hc, hf⟩ := hf_ck hf
      refine st_59 C hw hc dX11_body_35 (fun H locs hw => ?_)
      refine nm_S hf hw (fun S2 hf hw => ?_)
      refine lv_aload_n hx hb dX11_body_36 rfl (lv_at hl 0 rfl) ?_
      refine lv_dup hx hb dX11_body_37 rfl ?_
      refine get_44_29 C hw q_1180 dX11_body_38 ?_
      refine lv_iconst (v := 1) hx hb dX11_body_41 kc_1 ?_
      refine lv_iadd hx hb dX11_body_42 ?_
      refine put_44_29 C hw q_1180 dX11_body_43 (fun H locs hw => ?_)
      refine nm_S hf hw (fun S3 hf hw => ?_)
      refine lv_aload_n hx hb dX11_body_46 rfl (lv_at hl 0 rfl) ?_
      refine get_44_29 C hw q_1180 dX11_body_47 ?_
      refine lv_iconst (v := 1) hx hb dX11_body_50 kc_1 ?_
      refine lv_isub hx hb dX11_body_51 ?_
      exact ret_iS C hw dX11_body_52 hf
    · have hf := hf_t q hf
      refine lv_bipush (v := -3) hx hb dX11_body_23 kb_m3 ?_
      exact ret_iS C hw dX11_body_25 hf
  · have hf := hf_t q hf
    refine lv_iconst (v := -1) hx hb dX11_body_12 kc_m1 ?_
    exact ret_iS C hw dX11_body_13 hf
end
theorem t_Mo_body {l : Launch} {V : St} {S : St} {p1 : Int32} {r : Int32} {S9 : St} (hf : Mo_body S p1 = some (r, S9)) : Ct l (wM V) yX11_body cX11_body 2 (some .int) 2 (fun E => [.ref (ea E 44), .int p1]) S (fun E => some (.int r)) S9 :=
  ofBlock (by decide +kernel) (fun _ => Nat.le_of_ble_eq_true rfl) (fun E p e s m args below meth c ls C hw hl => w_Mo_body C hw hl hf)
theorem dX11_above_0 : decode cX11_above 0 = .ok (.iload_n 0, 1) := by decide +kernel
theorem dX11_above_1 : decode cX11_above 1 = .ok (.iconst 3, 1) := by decide +kernel
theorem dX11_above_2 : decode cX11_above 2 = .ok (.if_icmp .ne 7, 3) := by decide +kernel
theorem dX11_above_5 : decode cX11_above 5 = .ok (.iconst 2, 1) := by decide +kernel
theorem dX11_above_6 : decode cX11_above 6 = .ok (.goto 32, 3) := by decide +kernel
theorem dX11_above_9 : decode cX11_above 9 = .ok (.iload_n 0, 1) := by decide +kernel
theorem dX11_above_10 : decode cX11_above 10 = .ok (.iconst 4, 1) := by decide +kernel
theorem dX11_above_11 : decode cX11_above 11 = .ok (.if_icmp .ne 7, 3) := by decide +kernel
theorem dX11_above_14 : decode cX11_above 14 = .ok (.iconst 1, 1) := by decide +kernel
theorem dX11_above_15 : decode cX11_above 15 = .ok (.goto 23, 3) := by decide +kernel
theorem dX11_above_18 : decode cX11_above 18 = .ok (.iload_n 0, 1) := by decide +kernel
theorem dX11_above_19 : decode cX11_above 19 = .ok (.iconst 5, 1) := by decide +kernel
theorem dX11_above_20 : decode cX11_above 20 = .ok (.if_icmp .ne 7, 3) := by decide +kernel
theorem dX11_above_23 : decode cX11_above 23 = .ok (.iconst 3, 1) := by decide +kernel
theorem dX11_above_24 : decode cX11_above 24 = .ok (.goto 14, 3) := by decide +kernel
theorem dX11_above_27 : decode cX11_above 27 = .ok (.iload_n 0, 1) := by decide +kernel
theorem dX11_above_28 : decode cX11_above 28 = .ok (.bipush 7, 2) := by decide +kernel
theorem dX11_above_30 : decode cX11_above 30 = .ok (.if_icmp .ne 7, 3) := by decide +kernel
theorem dX11_above_33 : decode cX11_above 33 = .ok (.iconst 4, 1) := by decide +kernel
theorem dX11_above_34 : decode cX11_above 34 = .ok (.goto 4, 3) := by decide +kernel
theorem dX11_above_37 : decode cX11_above 37 = .ok (.iconst 0, 1) := by decide +kernel
theorem dX11_above_38 : decode cX11_above 38 = .ok (.ireturn, 1) := by decide +kernel
section
variable {p : Program} {l : Launch} {e : Env} {s : State} {m : MethodId} {args : Array Value} {below : List Frame} {meth : Method} {c : Code} {H : Heap} {locs : List Loc} {E : Ev} {S V : St} {ls : Array Slot}
set_option maxRecDepth 20000 in
theorem w_Mo_above {p1 : Int32} {r : Int32} (C : Cx p s m args meth c E cX11_above 1 RX11 (some .int)) (hw : Wd E (wM V E) s.heap S H locs) (hl : lv_has ls 1 [(0, .int p1)]) (hf : Mo_above S p1 = some r) : W p l e (rmh 1) s m args below meth c H locs 0 0 (MQ below (QW E (wM V E) (some (.int r)) S) args s 0 0 (eA E)) (F0 m 0 ls []) := by
  have hx := C.1
  have hb := C.2.1
  unfold Mo_above at hf
  refine lv_iload_n hx hb dX11_above_0 rfl (lv_at hl 0 rfl) ?_
  refine lv_iconst (v := 3) hx hb dX11_above_1 kc_3 ?_
  refine lv_icmp_ne (tgt := 9) hx hb dX11_above_2 (by decide) (fun q => ?_) (fun q => ?_)
  · have hf := hf_f q hf
    refine lv_iload_n hx hb dX11_above_9 rfl (lv_at hl 0 rfl) ?_
    refine lv_iconst (v := 4) hx hb dX11_above_10 kc_4 ?_
    refine lv_icmp_ne (tgt := 18) hx hb dX11_above_11 (by decide) (fun q => ?_) (fun q => ?_)
    · have hf := hf_f q hf
      refine lv_iload_n hx hb dX11_above_18 rfl (lv_at hl 0 rfl) ?_
      refine lv_iconst (v := 5) hx hb dX11_above_19 kc_5 ?_
      refine lv_icmp_ne (tgt := 27) hx hb dX11_above_20 (by decide) (fun q => ?_) (fun q => ?_)
      · have hf := hf_f q hf
        refine lv_iload_n hx hb dX11_above_27 rfl (lv_at hl 0 rfl) ?_
        refine lv_bipush (v := 7) hx hb dX11_above_28 kb_7 ?_
        refine lv_icmp_ne (tgt := 37) hx hb dX11_above_30 (by decide) (fun q => ?_) (fun q => ?_)
        · have hf := hf_f q hf
          refine lv_iconst (v := 0) hx hb dX11_above_37 kc_0 ?_
          exact ret_i C hw dX11_above_38 hf
        · have hf := hf_t q hf
          refine lv_iconst (v := 4) hx hb dX11_above_33 kc_4 ?_
          refine lv_goto (tgt := 38) hx hb dX11_above_34 (by decide) ?_
          exact ret_i C hw dX11_above_38 hf
      · have hf := hf_t q hf
        refine lv_iconst (v := 3) hx hb dX11_above_23 kc_3 ?_
        refine lv_goto (tgt := 38) hx hb dX11_above_24 (by decide) ?_
        exact ret_i C hw dX11_above_38 hf
    · have hf := hf_t q hf
      refine lv_iconst (v := 1) hx hb dX11_above_14 kc_1 ?_
      refine lv_goto (tgt := 38) hx hb dX11_above_15 (by decide) ?_
      exact ret_i C hw dX11_above_38 hf
  · have hf := hf_t q hf
    refine lv_iconst (v := 2) hx hb dX11_above_5 kc_2 ?_
    refine lv_goto (tgt := 38) hx hb dX11_above_6 (by decide) ?_
    exact ret_i C hw dX11_above_38 hf
end
theorem t_Mo_above {l : Launch} {V : St} {S : St} {p1 : Int32} {r : Int32} (hf : Mo_above S p1 = some r) : Ct l (wM V) yX11_above cX11_above 1 (some .int) 1 (fun E => [.int p1]) S (fun E => some (.int r)) S :=
  ofBlock (by decide +kernel) (fun _ => Nat.le_of_ble_eq_true rfl) (fun E p e s m args below meth c ls C hw hl => w_Mo_above C hw hl hf)
theorem dX11_runs_0 : decode cX11_runs 0 = .ok (.aload_n 0, 1) := by decide +kernel
theorem dX11_runs_1 : decode cX11_runs 1 = .ok (.getfield 283, 3) := by decide +kernel
theorem dX11_runs_4 : decode cX11_runs 4 = .ok (.bipush 24, 2) := by decide +kernel
theorem dX11_runs_6 : decode cX11_runs 6 = .ok (.if_icmp .ge 13, 3) := by decide +kernel
theorem dX11_runs_9 : decode cX11_runs 9 = .ok (.aload_n 0, 1) := by decide +kernel
theorem dX11_runs_10 : decode cX11_runs 10 = .ok (.getfield 55, 3) := by decide +kernel
theorem dX11_runs_13 : decode cX11_runs 13 = .ok (.aload_n 0, 1) := by decide +kernel
theorem dX11_runs_14 : decode cX11_runs 14 = .ok (.getfield 283, 3) := by decide +kernel
theorem dX11_runs_17 : decode cX11_runs 17 = .ok (.iload_n 1, 1) := by decide +kernel
theorem dX11_runs_18 : decode cX11_runs 18 = .ok (.iastore, 1) := by decide +kernel
theorem dX11_runs_19 : decode cX11_runs 19 = .ok (.aload_n 0, 1) := by decide +kernel
theorem dX11_runs_20 : decode cX11_runs 20 = .ok (.dup, 1) := by decide +kernel
theorem dX11_runs_21 : decode cX11_runs 21 = .ok (.getfield 283, 3) := by decide +kernel
theorem dX11_runs_24 : decode cX11_runs 24 = .ok (.iconst 1, 1) := by decide +kernel
theorem dX11_runs_25 : decode cX11_runs 25 = .ok (.iadd, 1) := by decide +kernel
theorem dX11_runs_26 : decode cX11_runs 26 = .ok (.putfield 283, 3) := by decide +kernel
theorem dX11_runs_29 : decode cX11_runs 29 = .ok (.return_, 1) := by decide +kernel
section
variable {p : Program} {l : Launch} {e : Env} {s : State} {m : MethodId} {args : Array Value} {below : List Frame} {meth : Method} {c : Code} {H : Heap} {locs : List Loc} {E : Ev} {S V : St} {ls : Array Slot}
set_option maxRecDepth 20000 in
theorem w_Mo_runs_b19 {S9 : St} (C : Cx p s m args meth c E cX11_runs 2 RX11 none) (hw : Wd E (wM V E) s.heap S H locs) (hl : lv_has ls 2 [(0, .ref (ea E 44))]) (hf : Mo_runs_b19 S = some S9) : W p l e (rmh 1) s m args below meth c H locs 0 0 (MQ below (QW E (wM V E) (none) S9) args s 0 0 (eA E)) (F0 m 19 ls []) := by
  have hx := C.1
  have hb := C.2.1
  unfold Mo_runs_b19 at hf
  refine lv_aload_n hx hb dX11_runs_19 rfl (lv_at hl 0 rfl) ?_
  refine lv_dup hx hb dX11_runs_20 rfl ?_
  refine get_44_32 C hw q_1183 dX11_runs_21 ?_
  refine lv_iconst (v := 1) hx hb dX11_runs_24 kc_1 ?_
  refine lv_iadd hx hb dX11_runs_25 ?_
  refine put_44_32 C hw q_1183 dX11_runs_26 (fun H locs hw => ?_)
  refine nm_S hf hw (fun S1 hf hw => ?_)
  exact ret_vS C hw dX11_runs_29 hf
set_option maxRecDepth 20000 in
theorem w_Mo_runs {p1 : Int32} {S9 : St} (C : Cx p s m args meth c E cX11_runs 2 RX11 none) (hw : Wd E (wM V E) s.heap S H locs) (hl : lv_has ls 2 [(0, .ref (ea E 44)), (1, .int p1)]) (hf : Mo_runs S p1 = some S9) : W p l e (rmh 1) s m args below meth c H locs 0 0 (MQ below (QW E (wM V E) (none) S9) args s 0 0 (eA E)) (F0 m 0 ls []) := by
  have hx := C.1
  have hb := C.2.1
  unfold Mo_runs at hf
  refine lv_aload_n hx hb dX11_runs_0 rfl (lv_at hl 0 rfl) ?_
  refine get_44_32 C hw q_1183 dX11_runs_1 ?_
  refine lv_bipush (v := 24) hx hb dX11_runs_4 kb_24 ?_
  refine lv_icmp_ge (tgt := 19) hx hb dX11_runs_6 (by decide) (fun q => ?_) (fun q => ?_)
  · have hf := hf_t q hf
    exact w_Mo_runs_b19 C hw (lv_sub hl [0] rfl) hf
  · have hf := hf_f q hf
    refine lv_aload_n hx hb dX11_runs_9 rfl (lv_at hl 0 rfl) ?_
    refine get_44_31 C hw q_1182 dX11_runs_10 ?_
    refine lv_aload_n hx hb dX11_runs_13 rfl (lv_at hl 0 rfl) ?_
    refine get_44_32 C hw q_1183 dX11_runs_14 ?_
    refine lv_iload_n hx hb dX11_runs_17 rfl (lv_at hl 1 rfl) ?_
    obtain ⟨hc, hf⟩ := hf_ck hf
    refine st_60 C hw hc dX11_runs_18 (fun H locs hw => ?_)
    refine nm_S hf hw (fun S1 hf hw => ?_)
    exact w_Mo_runs_b19 C hw (lv_sub hl [0] rfl) hf
end
theorem t_Mo_runs {l : Launch} {V : St} {S : St} {p1 : Int32} {S9 : St} (hf : Mo_runs S p1 = some S9) : Ct l (wM V) yX11_runs cX11_runs 2 none 1 (fun E => [.ref (ea E 44), .int p1]) S (fun E => none) S9 :=
  ofBlock (by decide +kernel) (fun _ => Nat.le_of_ble_eq_true rfl) (fun E p e s m args below meth c ls C hw hl => w_Mo_runs C hw hl hf)
theorem dX11_holdsAs_0 : decode cX11_holdsAs 0 = .ok (.iload_n 1, 1) := by decide +kernel
theorem dX11_holdsAs_1 : decode cX11_holdsAs 1 = .ok (.iconst 1, 1) := by decide +kernel
theorem dX11_holdsAs_2 : decode cX11_holdsAs 2 = .ok (.if_icmp .eq 14, 3) := by decide +kernel
theorem dX11_holdsAs_5 : decode cX11_holdsAs 5 = .ok (.iload_n 1, 1) := by decide +kernel
theorem dX11_holdsAs_6 : decode cX11_holdsAs 6 = .ok (.iconst 4, 1) := by decide +kernel
theorem dX11_holdsAs_7 : decode cX11_holdsAs 7 = .ok (.if_icmp .eq 9, 3) := by decide +kernel
theorem dX11_holdsAs_10 : decode cX11_holdsAs 10 = .ok (.iload_n 1, 1) := by decide +kernel
theorem dX11_holdsAs_11 : decode cX11_holdsAs 11 = .ok (.bipush 7, 2) := by decide +kernel
theorem dX11_holdsAs_13 : decode cX11_holdsAs 13 = .ok (.if_icmp .ne 18, 3) := by decide +kernel
theorem dX11_holdsAs_16 : decode cX11_holdsAs 16 = .ok (.aload_n 0, 1) := by decide +kernel
theorem dX11_holdsAs_17 : decode cX11_holdsAs 17 = .ok (.bipush 20, 2) := by decide +kernel
theorem dX11_holdsAs_19 : decode cX11_holdsAs 19 = .ok (.invokevirtual 286, 3) := by decide +kernel
theorem dX11_holdsAs_22 : decode cX11_holdsAs 22 = .ok (.aload_n 0, 1) := by decide +kernel
theorem dX11_holdsAs_23 : decode cX11_holdsAs 23 = .ok (.iconst 0, 1) := by decide +kernel
theorem dX11_holdsAs_24 : decode cX11_holdsAs 24 = .ok (.iload_n 2, 1) := by decide +kernel
theorem dX11_holdsAs_25 : decode cX11_holdsAs 25 = .ok (.invokevirtual 290, 3) := by decide +kernel
theorem dX11_holdsAs_28 : decode cX11_holdsAs 28 = .ok (.iconst 3, 1) := by decide +kernel
theorem dX11_holdsAs_29 : decode cX11_holdsAs 29 = .ok (.iadd, 1) := by decide +kernel
theorem dX11_holdsAs_30 : decode cX11_holdsAs 30 = .ok (.ireturn, 1) := by decide +kernel
theorem dX11_holdsAs_31 : decode cX11_holdsAs 31 = .ok (.iload_n 1, 1) := by decide +kernel
theorem dX11_holdsAs_32 : decode cX11_holdsAs 32 = .ok (.bipush 6, 2) := by decide +kernel
theorem dX11_holdsAs_34 : decode cX11_holdsAs 34 = .ok (.if_icmp .ne 18, 3) := by decide +kernel
theorem dX11_holdsAs_37 : decode cX11_holdsAs 37 = .ok (.aload_n 0, 1) := by decide +kernel
theorem dX11_holdsAs_38 : decode cX11_holdsAs 38 = .ok (.bipush 70, 2) := by decide +kernel
theorem dX11_holdsAs_40 : decode cX11_holdsAs 40 = .ok (.invokevirtual 286, 3) := by decide +kernel
theorem dX11_holdsAs_43 : decode cX11_holdsAs 43 = .ok (.aload_n 0, 1) := by decide +kernel
theorem dX11_holdsAs_44 : decode cX11_holdsAs 44 = .ok (.iconst 0, 1) := by decide +kernel
theorem dX11_holdsAs_45 : decode cX11_holdsAs 45 = .ok (.iload_n 2, 1) := by decide +kernel
theorem dX11_holdsAs_46 : decode cX11_holdsAs 46 = .ok (.invokevirtual 290, 3) := by decide +kernel
theorem dX11_holdsAs_49 : decode cX11_holdsAs 49 = .ok (.iconst 2, 1) := by decide +kernel
theorem dX11_holdsAs_50 : decode cX11_holdsAs 50 = .ok (.imul, 1) := by decide +kernel
theorem dX11_holdsAs_51 : decode cX11_holdsAs 51 = .ok (.ireturn, 1) := by decide +kernel
theorem dX11_holdsAs_52 : decode cX11_holdsAs 52 = .ok (.aload_n 0, 1) := by decide +kernel
theorem dX11_holdsAs_53 : decode cX11_holdsAs 53 = .ok (.iconst 1, 1) := by decide +kernel
theorem dX11_holdsAs_54 : decode cX11_holdsAs 54 = .ok (.invokevirtual 286, 3) := by decide +kernel
theorem dX11_holdsAs_57 : decode cX11_holdsAs 57 = .ok (.iload_n 2, 1) := by decide +kernel
theorem dX11_holdsAs_58 : decode cX11_holdsAs 58 = .ok (.aload_n 0, 1) := by decide +kernel
theorem dX11_holdsAs_59 : decode cX11_holdsAs 59 = .ok (.getfield 293, 3) := by decide +kernel
theorem dX11_holdsAs_62 : decode cX11_holdsAs 62 = .ok (.iadd, 1) := by decide +kernel
theorem dX11_holdsAs_63 : decode cX11_holdsAs 63 = .ok (.ireturn, 1) := by decide +kernel
theorem dX11_ridesAs_0 : decode cX11_ridesAs 0 = .ok (.iload_n 1, 1) := by decide +kernel
theorem dX11_ridesAs_1 : decode cX11_ridesAs 1 = .ok (.iconst 3, 1) := by decide +kernel
theorem dX11_ridesAs_2 : decode cX11_ridesAs 2 = .ok (.if_icmp .eq 8, 3) := by decide +kernel
theorem dX11_ridesAs_5 : decode cX11_ridesAs 5 = .ok (.iload_n 1, 1) := by decide +kernel
theorem dX11_ridesAs_6 : decode cX11_ridesAs 6 = .ok (.iconst 5, 1) := by decide +kernel
theorem dX11_ridesAs_7 : decode cX11_ridesAs 7 = .ok (.if_icmp .ne 18, 3) := by decide +kernel
theorem dX11_ridesAs_10 : decode cX11_ridesAs 10 = .ok (.aload_n 0, 1) := by decide +kernel
theorem dX11_ridesAs_11 : decode cX11_ridesAs 11 = .ok (.bipush 41, 2) := by decide +kernel
theorem dX11_ridesAs_13 : decode cX11_ridesAs 13 = .ok (.invokevirtual 286, 3) := by decide +kernel
theorem dX11_ridesAs_16 : decode cX11_ridesAs 16 = .ok (.aload_n 0, 1) := by decide +kernel
theorem dX11_ridesAs_17 : decode cX11_ridesAs 17 = .ok (.iconst 2, 1) := by decide +kernel
theorem dX11_ridesAs_18 : decode cX11_ridesAs 18 = .ok (.iload_n 2, 1) := by decide +kernel
theorem dX11_ridesAs_19 : decode cX11_ridesAs 19 = .ok (.iconst 1, 1) := by decide +kernel
theorem dX11_ridesAs_20 : decode cX11_ridesAs 20 = .ok (.iadd, 1) := by decide +kernel
theorem dX11_ridesAs_21 : decode cX11_ridesAs 21 = .ok (.invokevirtual 296, 3) := by decide +kernel
theorem dX11_ridesAs_24 : decode cX11_ridesAs 24 = .ok (.ireturn, 1) := by decide +kernel
theorem dX11_ridesAs_25 : decode cX11_ridesAs 25 = .ok (.iload_n 1, 1) := by decide +kernel
theorem dX11_ridesAs_26 : decode cX11_ridesAs 26 = .ok (.iconst 2, 1) := by decide +kernel
theorem dX11_ridesAs_27 : decode cX11_ridesAs 27 = .ok (.if_icmp .ne 17, 3) := by decide +kernel
theorem dX11_ridesAs_30 : decode cX11_ridesAs 30 = .ok (.aload_n 0, 1) := by decide +kernel
theorem dX11_ridesAs_31 : decode cX11_ridesAs 31 = .ok (.bipush 30, 2) := by decide +kernel
theorem dX11_ridesAs_33 : decode cX11_ridesAs 33 = .ok (.invokevirtual 286, 3) := by decide +kernel
theorem dX11_ridesAs_36 : decode cX11_ridesAs 36 = .ok (.aload_n 0, 1) := by decide +kernel
theorem dX11_ridesAs_37 : decode cX11_ridesAs 37 = .ok (.iconst 0, 1) := by decide +kernel
theorem dX11_ridesAs_38 : decode cX11_ridesAs 38 = .ok (.iload_n 2, 1) := by decide +kernel
theorem dX11_ridesAs_39 : decode cX11_ridesAs 39 = .ok (.invokevirtual 296, 3) := by decide +kernel
theorem dX11_ridesAs_42 : decode cX11_ridesAs 42 = .ok (.ineg, 1) := by decide +kernel
theorem dX11_ridesAs_43 : decode cX11_ridesAs 43 = .ok (.ireturn, 1) := by decide +kernel
theorem dX11_ridesAs_44 : decode cX11_ridesAs 44 = .ok (.iload_n 1, 1) := by decide +kernel
theorem dX11_ridesAs_45 : decode cX11_ridesAs 45 = .ok (.bipush 7, 2) := by decide +kernel
theorem dX11_ridesAs_47 : decode cX11_ridesAs 47 = .ok (.if_icmp .ne 28, 3) := by decide +kernel
theorem dX11_ridesAs_50 : decode cX11_ridesAs 50 = .ok (.aload_n 0, 1) := by decide +kernel
theorem dX11_ridesAs_51 : decode cX11_ridesAs 51 = .ok (.bipush 80, 2) := by decide +kernel
theorem dX11_ridesAs_53 : decode cX11_ridesAs 53 = .ok (.invokevirtual 286, 3) := by decide +kernel
theorem dX11_ridesAs_56 : decode cX11_ridesAs 56 = .ok (.aload_n 0, 1) := by decide +kernel
theorem dX11_ridesAs_57 : decode cX11_ridesAs 57 = .ok (.iconst 4, 1) := by decide +kernel
theorem dX11_ridesAs_58 : decode cX11_ridesAs 58 = .ok (.iload_n 2, 1) := by decide +kernel
theorem dX11_ridesAs_59 : decode cX11_ridesAs 59 = .ok (.invokevirtual 296, 3) := by decide +kernel
theorem dX11_ridesAs_62 : decode cX11_ridesAs 62 = .ok (.istore_n 3, 1) := by decide +kernel
theorem dX11_ridesAs_63 : decode cX11_ridesAs 63 = .ok (.iload_n 3, 1) := by decide +kernel
theorem dX11_ridesAs_64 : decode cX11_ridesAs 64 = .ok (.aload_n 0, 1) := by decide +kernel
theorem dX11_ridesAs_65 : decode cX11_ridesAs 65 = .ok (.aload_n 0, 1) := by decide +kernel
theorem dX11_ridesAs_66 : decode cX11_ridesAs 66 = .ok (.getfield 299, 3) := by decide +kernel
theorem dX11_ridesAs_69 : decode cX11_ridesAs 69 = .ok (.iconst 2, 1) := by decide +kernel
theorem dX11_ridesAs_70 : decode cX11_ridesAs 70 = .ok (.invokevirtual 302, 3) := by decide +kernel
theorem dX11_ridesAs_73 : decode cX11_ridesAs 73 = .ok (.iadd, 1) := by decide +kernel
theorem dX11_ridesAs_74 : decode cX11_ridesAs 74 = .ok (.ireturn, 1) := by decide +kernel
theorem dX11_ridesAs_75 : decode cX11_ridesAs 75 = .ok (.aload_n 0, 1) := by decide +kernel
theorem dX11_ridesAs_76 : decode cX11_ridesAs 76 = .ok (.bipush 10, 2) := by decide +kernel
theorem dX11_ridesAs_78 : decode cX11_ridesAs 78 = .ok (.invokevirtual 286, 3) := by decide +kernel
theorem dX11_ridesAs_81 : decode cX11_ridesAs 81 = .ok (.aload_n 0, 1) := by decide +kernel
theorem dX11_ridesAs_82 : decode cX11_ridesAs 82 = .ok (.aload_n 0, 1) := by decide +kernel
theorem dX11_ridesAs_83 : decode cX11_ridesAs 83 = .ok (.getfield 299, 3) := by decide +kernel
theorem dX11_ridesAs_86 : decode cX11_ridesAs 86 = .ok (.iload_n 2, 1) := by decide +kernel
theorem dX11_ridesAs_87 : decode cX11_ridesAs 87 = .ok (.invokevirtual 290, 3) := by decide +kernel
theorem dX11_ridesAs_90 : decode cX11_ridesAs 90 = .ok (.iconst 2, 1) := by decide +kernel
theorem dX11_ridesAs_91 : decode cX11_ridesAs 91 = .ok (.imul, 1) := by decide +kernel
theorem dX11_ridesAs_92 : decode cX11_ridesAs 92 = .ok (.ireturn, 1) := by decide +kernel
theorem dX11_creaksAs_0 : decode cX11_creaksAs 0 = .ok (.iload_n 1, 1) := by decide +kernel
theorem dX11_creaksAs_1 : decode cX11_creaksAs 1 = .ok (.iconst 3, 1) := by decide +kernel
theorem dX11_creaksAs_2 : decode cX11_creaksAs 2 = .ok (.if_icmp .eq 8, 3) := by decide +kernel
theorem dX11_creaksAs_5 : decode cX11_creaksAs 5 = .ok (.iload_n 1, 1) := by decide +kernel
theorem dX11_creaksAs_6 : decode cX11_creaksAs 6 = .ok (.iconst 5, 1) := by decide +kernel
theorem dX11_creaksAs_7 : decode cX11_creaksAs 7 = .ok (.if_icmp .ne 18, 3) := by decide +kernel
theorem dX11_creaksAs_10 : decode cX11_creaksAs 10 = .ok (.aload_n 0, 1) := by decide +kernel
theorem dX11_creaksAs_11 : decode cX11_creaksAs 11 = .ok (.bipush 40, 2) := by decide +kernel
theorem dX11_creaksAs_13 : decode cX11_creaksAs 13 = .ok (.invokevirtual 286, 3) := by decide +kernel
theorem dX11_creaksAs_16 : decode cX11_creaksAs 16 = .ok (.aload_n 0, 1) := by decide +kernel
theorem dX11_creaksAs_17 : decode cX11_creaksAs 17 = .ok (.iconst 2, 1) := by decide +kernel
theorem dX11_creaksAs_18 : decode cX11_creaksAs 18 = .ok (.iload_n 2, 1) := by decide +kernel
theorem dX11_creaksAs_19 : decode cX11_creaksAs 19 = .ok (.invokevirtual 302, 3) := by decide +kernel
theorem dX11_creaksAs_22 : decode cX11_creaksAs 22 = .ok (.iconst 3, 1) := by decide +kernel
theorem dX11_creaksAs_23 : decode cX11_creaksAs 23 = .ok (.imul, 1) := by decide +kernel
theorem dX11_creaksAs_24 : decode cX11_creaksAs 24 = .ok (.ireturn, 1) := by decide +kernel
theorem dX11_creaksAs_25 : decode cX11_creaksAs 25 = .ok (.iload_n 1, 1) := by decide +kernel
theorem dX11_creaksAs_26 : decode cX11_creaksAs 26 = .ok (.iconst 4, 1) := by decide +kernel
theorem dX11_creaksAs_27 : decode cX11_creaksAs 27 = .ok (.if_icmp .eq 9, 3) := by decide +kernel
theorem dX11_creaksAs_30 : decode cX11_creaksAs 30 = .ok (.iload_n 1, 1) := by decide +kernel
theorem dX11_creaksAs_31 : decode cX11_creaksAs 31 = .ok (.bipush 7, 2) := by decide +kernel
theorem dX11_creaksAs_33 : decode cX11_creaksAs 33 = .ok (.if_icmp .ne 28, 3) := by decide +kernel
theorem dX11_creaksAs_36 : decode cX11_creaksAs 36 = .ok (.aload_n 0, 1) := by decide +kernel
theorem dX11_creaksAs_37 : decode cX11_creaksAs 37 = .ok (.bipush 50, 2) := by decide +kernel
theorem dX11_creaksAs_39 : decode cX11_creaksAs 39 = .ok (.invokevirtual 286, 3) := by decide +kernel
theorem dX11_creaksAs_42 : decode cX11_creaksAs 42 = .ok (.aload_n 0, 1) := by decide +kernel
theorem dX11_creaksAs_43 : decode cX11_creaksAs 43 = .ok (.iconst 1, 1) := by decide +kernel
theorem dX11_creaksAs_44 : decode cX11_creaksAs 44 = .ok (.iload_n 2, 1) := by decide +kernel
theorem dX11_creaksAs_45 : decode cX11_creaksAs 45 = .ok (.invokevirtual 302, 3) := by decide +kernel
theorem dX11_creaksAs_48 : decode cX11_creaksAs 48 = .ok (.istore_n 3, 1) := by decide +kernel
theorem dX11_creaksAs_49 : decode cX11_creaksAs 49 = .ok (.iload_n 3, 1) := by decide +kernel
theorem dX11_creaksAs_50 : decode cX11_creaksAs 50 = .ok (.aload_n 0, 1) := by decide +kernel
theorem dX11_creaksAs_51 : decode cX11_creaksAs 51 = .ok (.aload_n 0, 1) := by decide +kernel
theorem dX11_creaksAs_52 : decode cX11_creaksAs 52 = .ok (.getfield 299, 3) := by decide +kernel
theorem dX11_creaksAs_55 : decode cX11_creaksAs 55 = .ok (.iconst 2, 1) := by decide +kernel
theorem dX11_creaksAs_56 : decode cX11_creaksAs 56 = .ok (.invokevirtual 290, 3) := by decide +kernel
theorem dX11_creaksAs_59 : decode cX11_creaksAs 59 = .ok (.isub, 1) := by decide +kernel
theorem dX11_creaksAs_60 : decode cX11_creaksAs 60 = .ok (.ireturn, 1) := by decide +kernel
theorem dX11_creaksAs_61 : decode cX11_creaksAs 61 = .ok (.aload_n 0, 1) := by decide +kernel
theorem dX11_creaksAs_62 : decode cX11_creaksAs 62 = .ok (.bipush 11, 2) := by decide +kernel
theorem dX11_creaksAs_64 : decode cX11_creaksAs 64 = .ok (.invokevirtual 286, 3) := by decide +kernel
theorem dX11_creaksAs_67 : decode cX11_creaksAs 67 = .ok (.iload_n 2, 1) := by decide +kernel
theorem dX11_creaksAs_68 : decode cX11_creaksAs 68 = .ok (.aload_n 0, 1) := by decide +kernel
theorem dX11_creaksAs_69 : decode cX11_creaksAs 69 = .ok (.getfield 293, 3) := by decide +kernel
theorem dX11_creaksAs_72 : decode cX11_creaksAs 72 = .ok (.ixor, 1) := by decide +kernel
theorem dX11_creaksAs_73 : decode cX11_creaksAs 73 = .ok (.ireturn, 1) := by decide +kernel
theorem dX11_tellsAs_0 : decode cX11_tellsAs 0 = .ok (.iload_n 1, 1) := by decide +kernel
theorem dX11_tellsAs_1 : decode cX11_tellsAs 1 = .ok (.iconst 5, 1) := by decide +kernel
theorem dX11_tellsAs_2 : decode cX11_tellsAs 2 = .ok (.if_icmp .ne 18, 3) := by decide +kernel
theorem dX11_tellsAs_5 : decode cX11_tellsAs 5 = .ok (.aload_n 0, 1) := by decide +kernel
theorem dX11_tellsAs_6 : decode cX11_tellsAs 6 = .ok (.bipush 60, 2) := by decide +kernel
theorem dX11_tellsAs_8 : decode cX11_tellsAs 8 = .ok (.invokevirtual 286, 3) := by decide +kernel
theorem dX11_tellsAs_11 : decode cX11_tellsAs 11 = .ok (.aload_n 0, 1) := by decide +kernel
theorem dX11_tellsAs_12 : decode cX11_tellsAs 12 = .ok (.iconst 3, 1) := by decide +kernel
theorem dX11_tellsAs_13 : decode cX11_tellsAs 13 = .ok (.iload_n 2, 1) := by decide +kernel
theorem dX11_tellsAs_14 : decode cX11_tellsAs 14 = .ok (.invokevirtual 305, 3) := by decide +kernel
theorem dX11_tellsAs_17 : decode cX11_tellsAs 17 = .ok (.iconst 5, 1) := by decide +kernel
theorem dX11_tellsAs_18 : decode cX11_tellsAs 18 = .ok (.ixor, 1) := by decide +kernel
theorem dX11_tellsAs_19 : decode cX11_tellsAs 19 = .ok (.ireturn, 1) := by decide +kernel
theorem dX11_tellsAs_20 : decode cX11_tellsAs 20 = .ok (.iload_n 1, 1) := by decide +kernel
theorem dX11_tellsAs_21 : decode cX11_tellsAs 21 = .ok (.bipush 7, 2) := by decide +kernel
theorem dX11_tellsAs_23 : decode cX11_tellsAs 23 = .ok (.if_icmp .ne 18, 3) := by decide +kernel
theorem dX11_tellsAs_26 : decode cX11_tellsAs 26 = .ok (.aload_n 0, 1) := by decide +kernel
theorem dX11_tellsAs_27 : decode cX11_tellsAs 27 = .ok (.bipush 81, 2) := by decide +kernel
theorem dX11_tellsAs_29 : decode cX11_tellsAs 29 = .ok (.invokevirtual 286, 3) := by decide +kernel
theorem dX11_tellsAs_32 : decode cX11_tellsAs 32 = .ok (.aload_n 0, 1) := by decide +kernel
theorem dX11_tellsAs_33 : decode cX11_tellsAs 33 = .ok (.iconst 4, 1) := by decide +kernel
theorem dX11_tellsAs_34 : decode cX11_tellsAs 34 = .ok (.iload_n 2, 1) := by decide +kernel
theorem dX11_tellsAs_35 : decode cX11_tellsAs 35 = .ok (.invokevirtual 305, 3) := by decide +kernel
theorem dX11_tellsAs_38 : decode cX11_tellsAs 38 = .ok (.iconst 1, 1) := by decide +kernel
theorem dX11_tellsAs_39 : decode cX11_tellsAs 39 = .ok (.isub, 1) := by decide +kernel
theorem dX11_tellsAs_40 : decode cX11_tellsAs 40 = .ok (.ireturn, 1) := by decide +kernel
theorem dX11_tellsAs_41 : decode cX11_tellsAs 41 = .ok (.aload_n 0, 1) := by decide +kernel
theorem dX11_tellsAs_42 : decode cX11_tellsAs 42 = .ok (.iconst 2, 1) := by decide +kernel
theorem dX11_tellsAs_43 : decode cX11_tellsAs 43 = .ok (.invokevirtual 286, 3) := by decide +kernel
theorem dX11_tellsAs_46 : decode cX11_tellsAs 46 = .ok (.aload_n 0, 1) := by decide +kernel
theorem dX11_tellsAs_47 : decode cX11_tellsAs 47 = .ok (.aload_n 0, 1) := by decide +kernel
theorem dX11_tellsAs_48 : decode cX11_tellsAs 48 = .ok (.getfield 299, 3) := by decide +kernel
theorem dX11_tellsAs_51 : decode cX11_tellsAs 51 = .ok (.iload_n 2, 1) := by decide +kernel
theorem dX11_tellsAs_52 : decode cX11_tellsAs 52 = .ok (.invokevirtual 296, 3) := by decide +kernel
theorem dX11_tellsAs_55 : decode cX11_tellsAs 55 = .ok (.istore_n 3, 1) := by decide +kernel
theorem dX11_tellsAs_56 : decode cX11_tellsAs 56 = .ok (.iload_n 3, 1) := by decide +kernel
theorem dX11_tellsAs_57 : decode cX11_tellsAs 57 = .ok (.aload_n 0, 1) := by decide +kernel
theorem dX11_tellsAs_58 : decode cX11_tellsAs 58 = .ok (.aload_n 0, 1) := by decide +kernel
theorem dX11_tellsAs_59 : decode cX11_tellsAs 59 = .ok (.getfield 299, 3) := by decide +kernel
theorem dX11_tellsAs_62 : decode cX11_tellsAs 62 = .ok (.iconst 1, 1) := by decide +kernel
theorem dX11_tellsAs_63 : decode cX11_tellsAs 63 = .ok (.invokevirtual 302, 3) := by decide +kernel
theorem dX11_tellsAs_66 : decode cX11_tellsAs 66 = .ok (.isub, 1) := by decide +kernel
theorem dX11_tellsAs_67 : decode cX11_tellsAs 67 = .ok (.ireturn, 1) := by decide +kernel
theorem Mo_holdsAs_succ (d : Nat) : Mo_holdsAs (d + 1) = Mo_holdsAs_B (Mo_holdsAs d) (Mo_ridesAs d) (Mo_creaksAs d) (Mo_tellsAs d) := rfl
theorem Mo_ridesAs_succ (d : Nat) : Mo_ridesAs (d + 1) = Mo_ridesAs_B (Mo_holdsAs d) (Mo_ridesAs d) (Mo_creaksAs d) (Mo_tellsAs d) := rfl
theorem Mo_creaksAs_succ (d : Nat) : Mo_creaksAs (d + 1) = Mo_creaksAs_B (Mo_holdsAs d) (Mo_ridesAs d) (Mo_creaksAs d) (Mo_tellsAs d) := rfl
theorem Mo_tellsAs_succ (d : Nat) : Mo_tellsAs (d + 1) = Mo_tellsAs_B (Mo_holdsAs d) (Mo_ridesAs d) (Mo_creaksAs d) (Mo_tellsAs d) := rfl
section
variable {p : Program} {l : Launch} {e : Env} {s : State} {m : MethodId} {args : Array Value} {below : List Frame} {meth : Method} {c : Code} {H : Heap} {locs : List Loc} {E : Ev} {S V : St} {ls : Array Slot}
set_option maxRecDepth 20000 in
theorem w_Mo_holdsAs_b16 {d : Nat} {f_holdsAs : St → Int32 → Int32 → Option (Int32 × St)} {f_ridesAs : St → Int32 → Int32 → Option (Int32 × St)} {f_creaksAs : St → Int32 → Int32 → Option (Int32 × St)} {f_tellsAs : St → Int32 → Int32 → Option (Int32 × St)} {l2 : Int32} {r : Int32} {S9 : St} (C : Cx p s m args meth c E cX11_holdsAs 3 RX11 (some .int)) (hr_holdsAs : ∀ {S : St} {p1 : Int32} {p2 : Int32} {r : Int32} {S9 : St}, f_holdsAs S p1 p2 = some (r, S9) → Ct l (wM V) yX11_holdsAs cX11_holdsAs 3 (some .int) (d + 2) (fun E => [.ref (ea E 44), .int p1, .int p2]) S (fun E => some (.int r)) S9) (hr_ridesAs : ∀ {S : St} {p1 : Int32} {p2 : Int32} {r : Int32} {S9 : St}, f_ridesAs S p1 p2 = some (r, S9) → Ct l (wM V) yX11_ridesAs cX11_ridesAs 4 (some .int) (d + 2) (fun E => [.ref (ea E 44), .int p1, .int p2]) S (fun E => some (.int r)) S9) (hr_creaksAs : ∀ {S : St} {p1 : Int32} {p2 : Int32} {r : Int32} {S9 : St}, f_creaksAs S p1 p2 = some (r, S9) → Ct l (wM V) yX11_creaksAs cX11_creaksAs 4 (some .int) (d + 2) (fun E => [.ref (ea E 44), .int p1, .int p2]) S (fun E => some (.int r)) S9) (hr_tellsAs : ∀ {S : St} {p1 : Int32} {p2 : Int32} {r : Int32} {S9 : St}, f_tellsAs S p1 p2 = some (r, S9) → Ct l (wM V) yX11_tellsAs cX11_tellsAs 4 (some .int) (d + 2) (fun E => [.ref (ea E 44), .int p1, .int p2]) S (fun E => some (.int r)) S9) (hw : Wd E (wM V E) s.heap S H locs) (hl : lv_has ls 3 [(0, .ref (ea E 44)), (2, .int l2)]) (hf : Mo_holdsAs_b16 f_holdsAs f_ridesAs f_creaksAs f_tellsAs S l2 = some (r, S9)) : W p l e (rmh (d + 1 + 2)) s m args below meth c H locs 0 0 (MQ below (QW E (wM V E) (some (.int r)) S9) args s 0 0 (eA E)) (F0 m 16 ls []) := by
  have hx := C.1
  have hb := C.2.1
  unfold Mo_holdsAs_b16 at hf
  refine lv_aload_n hx hb dX11_holdsAs_16 rfl (lv_at hl 0 rfl) ?_
  refine lv_bipush (v := 20) hx hb dX11_holdsAs_17 kb_20 ?_
  obtain ⟨S1, hr, hf⟩ := hf_1 hf
  refine inv_Vv (q0 := 44) (ci := 11) (As := [.int (20 : Int32)]) lk_X11_286 C hw rfl rfl rfl (t_Mo_runs hr) rfl hl.1 dX11_holdsAs_19 rfl (by omega) (by decide) (Nat.le_of_ble_eq_true rfl) rfl (fun H locs hw => ?_)
  refine lv_aload_n hx hb dX11_holdsAs_22 rfl (lv_at hl 0 rfl) ?_
  refine lv_iconst (v := 0) hx hb dX11_holdsAs_23 kc_0 ?_
  refine lv_iload_n hx hb dX11_holdsAs_24 rfl (lv_at hl 1 rfl) ?_
  obtain ⟨r3, S2, hr, hf⟩ := hf_2 hf
  refine inv_Vi (q0 := 44) (ci := 11) (As := [.int (0 : Int32), .int l2]) lk_X11_290 C hw rfl rfl rfl (hr_holdsAs hr) rfl hl.1 dX11_holdsAs_25 rfl (by omega) (by decide) (Nat.le_of_ble_eq_true rfl) rfl (fun H locs hw => ?_)
  refine lv_iconst (v := 3) hx hb dX11_holdsAs_28 kc_3 ?_
  refine lv_iadd hx hb dX11_holdsAs_29 ?_
  exact ret_iS C hw dX11_holdsAs_30 hf
set_option maxRecDepth 20000 in
theorem w_Mo_holdsAs_B {d : Nat} {f_holdsAs : St → Int32 → Int32 → Option (Int32 × St)} {f_ridesAs : St → Int32 → Int32 → Option (Int32 × St)} {f_creaksAs : St → Int32 → Int32 → Option (Int32 × St)} {f_tellsAs : St → Int32 → Int32 → Option (Int32 × St)} {p1 : Int32} {p2 : Int32} {r : Int32} {S9 : St} (C : Cx p s m args meth c E cX11_holdsAs 3 RX11 (some .int)) (hr_holdsAs : ∀ {S : St} {p1 : Int32} {p2 : Int32} {r : Int32} {S9 : St}, f_holdsAs S p1 p2 = some (r, S9) → Ct l (wM V) yX11_holdsAs cX11_holdsAs 3 (some .int) (d + 2) (fun E => [.ref (ea E 44), .int p1, .int p2]) S (fun E => some (.int r)) S9) (hr_ridesAs : ∀ {S : St} {p1 : Int32} {p2 : Int32} {r : Int32} {S9 : St}, f_ridesAs S p1 p2 = some (r, S9) → Ct l (wM V) yX11_ridesAs cX11_ridesAs 4 (some .int) (d + 2) (fun E => [.ref (ea E 44), .int p1, .int p2]) S (fun E => some (.int r)) S9) (hr_creaksAs : ∀ {S : St} {p1 : Int32} {p2 : Int32} {r : Int32} {S9 : St}, f_creaksAs S p1 p2 = some (r, S9) → Ct l (wM V) yX11_creaksAs cX11_creaksAs 4 (some .int) (d + 2) (fun E => [.ref (ea E 44), .int p1, .int p2]) S (fun E => some (.int r)) S9) (hr_tellsAs : ∀ {S : St} {p1 : Int32} {p2 : Int32} {r : Int32} {S9 : St}, f_tellsAs S p1 p2 = some (r, S9) → Ct l (wM V) yX11_tellsAs cX11_tellsAs 4 (some .int) (d + 2) (fun E => [.ref (ea E 44), .int p1, .int p2]) S (fun E => some (.int r)) S9) (hw : Wd E (wM V E) s.heap S H locs) (hl : lv_has ls 3 [(0, .ref (ea E 44)), (1, .int p1), (2, .int p2)]) (hf : Mo_holdsAs_B f_holdsAs f_ridesAs f_creaksAs f_tellsAs S p1 p2 = some (r, S9)) : W p l e (rmh (d + 1 + 2)) s m args below meth c H locs 0 0 (MQ below (QW E (wM V E) (some (.int r)) S9) args s 0 0 (eA E)) (F0 m 0 ls []) := by
  have hx := C.1
  have hb := C.2.1
  unfold Mo_holdsAs_B at hf
  refine lv_iload_n hx hb dX11_holdsAs_0 rfl (lv_at hl 1 rfl) ?_
  refine lv_iconst (v := 1) hx hb dX11_holdsAs_1 kc_1 ?_
  refine lv_icmp_eq (tgt := 16) hx hb dX11_holdsAs_2 (by decide) (fun q => ?_) (fun q => ?_)
  · have hf := hf_t q hf
    exact w_Mo_holdsAs_b16 C hr_holdsAs hr_ridesAs hr_creaksAs hr_tellsAs hw (lv_sub hl [0, 2] rfl) hf
  · have hf := hf_f q hf
    refine lv_iload_n hx hb dX11_holdsAs_5 rfl (lv_at hl 1 rfl) ?_
    refine lv_iconst (v := 4) hx hb dX11_holdsAs_6 kc_4 ?_
    refine lv_icmp_eq (tgt := 16) hx hb dX11_holdsAs_7 (by decide) (fun q => ?_) (fun q => ?_)
    · have hf := hf_t q hf
      exact w_Mo_holdsAs_b16 C hr_holdsAs hr_ridesAs hr_creaksAs hr_tellsAs hw (lv_sub hl [0, 2] rfl) hf
    · have hf := hf_f q hf
      refine lv_iload_n hx hb dX11_holdsAs_10 rfl (lv_at hl 1 rfl) ?_
      refine lv_bipush (v := 7) hx hb dX11_holdsAs_11 kb_7 ?_
      refine lv_icmp_ne (tgt := 31) hx hb dX11_holdsAs_13 (by decide) (fun q => ?_) (fun q => ?_)
      · have hf := hf_f q hf
        refine lv_iload_n hx hb dX11_holdsAs_31 rfl (lv_at hl 1 rfl) ?_
        refine lv_bipush (v := 6) hx hb dX11_holdsAs_32 kb_6 ?_
        refine lv_icmp_ne (tgt := 52) hx hb dX11_holdsAs_34 (by decide) (fun q => ?_) (fun q => ?_)
        · have hf := hf_f q hf
          refine lv_aload_n hx hb dX11_holdsAs_52 rfl (lv_at hl 0 rfl) ?_
          refine lv_iconst (v := 1) hx hb dX11_holdsAs_53 kc_1 ?_
          obtain ⟨S1, hr, hf⟩ := hf_1 hf
          refine inv_Vv (q0 := 44) (ci := 11) (As := [.int (1 : Int32)]) lk_X11_286 C hw rfl rfl rfl (t_Mo_runs hr) rfl hl.1 dX11_holdsAs_54 rfl (by omega) (by decide) (Nat.le_of_ble_eq_true rfl) rfl (fun H locs hw => ?_)
          refine lv_iload_n hx hb dX11_holdsAs_57 rfl (lv_at hl 2 rfl) ?_
          refine lv_aload_n hx hb dX11_holdsAs_58 rfl (lv_at hl 0 rfl) ?_
          refine get_44_34 C hw q_1185 dX11_holdsAs_59 ?_
          refine lv_iadd hx hb dX11_holdsAs_62 ?_
          exact ret_iS C hw dX11_holdsAs_63 hf
        · have hf := hf_t q hf
          refine lv_aload_n hx hb dX11_holdsAs_37 rfl (lv_at hl 0 rfl) ?_
          refine lv_bipush (v := 70) hx hb dX11_holdsAs_38 kb_70 ?_
          obtain ⟨S2, hr, hf⟩ := hf_1 hf
          refine inv_Vv (q0 := 44) (ci := 11) (As := [.int (70 : Int32)]) lk_X11_286 C hw rfl rfl rfl (t_Mo_runs hr) rfl hl.1 dX11_holdsAs_40 rfl (by omega) (by decide) (Nat.le_of_ble_eq_true rfl) rfl (fun H locs hw => ?_)
          refine lv_aload_n hx hb dX11_holdsAs_43 rfl (lv_at hl 0 rfl) ?_
          refine lv_iconst (v := 0) hx hb dX11_holdsAs_44 kc_0 ?_
          refine lv_iload_n hx hb dX11_holdsAs_45 rfl (lv_at hl 2 rfl) ?_
          obtain ⟨r4, S3, hr, hf⟩ := hf_2 hf
          refine inv_Vi (q0 := 44) (ci := 11) (As := [.int (0 : Int32), .int p2]) lk_X11_290 C hw rfl rfl rfl (hr_holdsAs hr) rfl hl.1 dX11_holdsAs_46 rfl (by omega) (by decide) (Nat.le_of_ble_eq_true rfl) rfl (fun H locs hw => ?_)
          refine lv_iconst (v := 2) hx hb dX11_holdsAs_49 kc_2 ?_
          refine lv_imul hx hb dX11_holdsAs_50 ?_
          exact ret_iS C hw dX11_holdsAs_51 hf
      · have hf := hf_t q hf
        exact w_Mo_holdsAs_b16 C hr_holdsAs hr_ridesAs hr_creaksAs hr_tellsAs hw (lv_sub hl [0, 2] rfl) hf
set_option maxRecDepth 20000 in
theorem w_Mo_ridesAs_b10 {d : Nat} {f_holdsAs : St → Int32 → Int32 → Option (Int32 × St)} {f_ridesAs : St → Int32 → Int32 → Option (Int32 × St)} {f_creaksAs : St → Int32 → Int32 → Option (Int32 × St)} {f_tellsAs : St → Int32 → Int32 → Option (Int32 × St)} {l2 : Int32} {r : Int32} {S9 : St} (C : Cx p s m args meth c E cX11_ridesAs 4 RX11 (some .int)) (hr_holdsAs : ∀ {S : St} {p1 : Int32} {p2 : Int32} {r : Int32} {S9 : St}, f_holdsAs S p1 p2 = some (r, S9) → Ct l (wM V) yX11_holdsAs cX11_holdsAs 3 (some .int) (d + 2) (fun E => [.ref (ea E 44), .int p1, .int p2]) S (fun E => some (.int r)) S9) (hr_ridesAs : ∀ {S : St} {p1 : Int32} {p2 : Int32} {r : Int32} {S9 : St}, f_ridesAs S p1 p2 = some (r, S9) → Ct l (wM V) yX11_ridesAs cX11_ridesAs 4 (some .int) (d + 2) (fun E => [.ref (ea E 44), .int p1, .int p2]) S (fun E => some (.int r)) S9) (hr_creaksAs : ∀ {S : St} {p1 : Int32} {p2 : Int32} {r : Int32} {S9 : St}, f_creaksAs S p1 p2 = some (r, S9) → Ct l (wM V) yX11_creaksAs cX11_creaksAs 4 (some .int) (d + 2) (fun E => [.ref (ea E 44), .int p1, .int p2]) S (fun E => some (.int r)) S9) (hr_tellsAs : ∀ {S : St} {p1 : Int32} {p2 : Int32} {r : Int32} {S9 : St}, f_tellsAs S p1 p2 = some (r, S9) → Ct l (wM V) yX11_tellsAs cX11_tellsAs 4 (some .int) (d + 2) (fun E => [.ref (ea E 44), .int p1, .int p2]) S (fun E => some (.int r)) S9) (hw : Wd E (wM V E) s.heap S H locs) (hl : lv_has ls 4 [(0, .ref (ea E 44)), (2, .int l2)]) (hf : Mo_ridesAs_b10 f_holdsAs f_ridesAs f_creaksAs f_tellsAs S l2 = some (r, S9)) : W p l e (rmh (d + 1 + 2)) s m args below meth c H locs 0 0 (MQ below (QW E (wM V E) (some (.int r)) S9) args s 0 0 (eA E)) (F0 m 10 ls []) := by
  have hx := C.1
  have hb := C.2.1
  unfold Mo_ridesAs_b10 at hf
  refine lv_aload_n hx hb dX11_ridesAs_10 rfl (lv_at hl 0 rfl) ?_
  refine lv_bipush (v := 41) hx hb dX11_ridesAs_11 kb_41 ?_
  obtain ⟨S1, hr, hf⟩ := hf_1 hf
  refine inv_Vv (q0 := 44) (ci := 11) (As := [.int (41 : Int32)]) lk_X11_286 C hw rfl rfl rfl (t_Mo_runs hr) rfl hl.1 dX11_ridesAs_13 rfl (by omega) (by decide) (Nat.le_of_ble_eq_true rfl) rfl (fun H locs hw => ?_)
  refine lv_aload_n hx hb dX11_ridesAs_16 rfl (lv_at hl 0 rfl) ?_
  refine lv_iconst (v := 2) hx hb dX11_ridesAs_17 kc_2 ?_
  refine lv_iload_n hx hb dX11_ridesAs_18 rfl (lv_at hl 1 rfl) ?_
  refine lv_iconst (v := 1) hx hb dX11_ridesAs_19 kc_1 ?_
  refine lv_iadd hx hb dX11_ridesAs_20 ?_
  obtain ⟨r3, S2, hr, hf⟩ := hf_2 hf
  refine inv_Vi (q0 := 44) (ci := 11) (As := [.int (2 : Int32), .int (l2 + (1 : Int32))]) lk_X11_296 C hw rfl rfl rfl (hr_ridesAs hr) rfl hl.1 dX11_ridesAs_21 rfl (by omega) (by decide) (Nat.le_of_ble_eq_true rfl) rfl (fun H locs hw => ?_)
  exact ret_iS C hw dX11_ridesAs_24 hf
set_option maxRecDepth 20000 in
theorem w_Mo_ridesAs_B {d : Nat} {f_holdsAs : St → Int32 → Int32 → Option (Int32 × St)} {f_ridesAs : St → Int32 → Int32 → Option (Int32 × St)} {f_creaksAs : St → Int32 → Int32 → Option (Int32 × St)} {f_tellsAs : St → Int32 → Int32 → Option (Int32 × St)} {p1 : Int32} {p2 : Int32} {r : Int32} {S9 : St} (C : Cx p s m args meth c E cX11_ridesAs 4 RX11 (some .int)) (hr_holdsAs : ∀ {S : St} {p1 : Int32} {p2 : Int32} {r : Int32} {S9 : St}, f_holdsAs S p1 p2 = some (r, S9) → Ct l (wM V) yX11_holdsAs cX11_holdsAs 3 (some .int) (d + 2) (fun E => [.ref (ea E 44), .int p1, .int p2]) S (fun E => some (.int r)) S9) (hr_ridesAs : ∀ {S : St} {p1 : Int32} {p2 : Int32} {r : Int32} {S9 : St}, f_ridesAs S p1 p2 = some (r, S9) → Ct l (wM V) yX11_ridesAs cX11_ridesAs 4 (some .int) (d + 2) (fun E => [.ref (ea E 44), .int p1, .int p2]) S (fun E => some (.int r)) S9) (hr_creaksAs : ∀ {S : St} {p1 : Int32} {p2 : Int32} {r : Int32} {S9 : St}, f_creaksAs S p1 p2 = some (r, S9) → Ct l (wM V) yX11_creaksAs cX11_creaksAs 4 (some .int) (d + 2) (fun E => [.ref (ea E 44), .int p1, .int p2]) S (fun E => some (.int r)) S9) (hr_tellsAs : ∀ {S : St} {p1 : Int32} {p2 : Int32} {r : Int32} {S9 : St}, f_tellsAs S p1 p2 = some (r, S9) → Ct l (wM V) yX11_tellsAs cX11_tellsAs 4 (some .int) (d + 2) (fun E => [.ref (ea E 44), .int p1, .int p2]) S (fun E => some (.int r)) S9) (hw : Wd E (wM V E) s.heap S H locs) (hl : lv_has ls 4 [(0, .ref (ea E 44)), (1, .int p1), (2, .int p2)]) (hf : Mo_ridesAs_B f_holdsAs f_ridesAs f_creaksAs f_tellsAs S p1 p2 = some (r, S9)) : W p l e (rmh (d + 1 + 2)) s m args below meth c H locs 0 0 (MQ below (QW E (wM V E) (some (.int r)) S9) args s 0 0 (eA E)) (F0 m 0 ls []) := by
  have hx := C.1
  have hb := C.2.1
  unfold Mo_ridesAs_B at hf
  refine lv_iload_n hx hb dX11_ridesAs_0 rfl (lv_at hl 1 rfl) ?_
  refine lv_iconst (v := 3) hx hb dX11_ridesAs_1 kc_3 ?_
  refine lv_icmp_eq (tgt := 10) hx hb dX11_ridesAs_2 (by decide) (fun q => ?_) (fun q => ?_)
  · have hf := hf_t q hf
    exact w_Mo_ridesAs_b10 C hr_holdsAs hr_ridesAs hr_creaksAs hr_tellsAs hw (lv_sub hl [0, 2] rfl) hf
  · have hf := hf_f q hf
    refine lv_iload_n hx hb dX11_ridesAs_5 rfl (lv_at hl 1 rfl) ?_
    refine lv_iconst (v := 5) hx hb dX11_ridesAs_6 kc_5 ?_
    refine lv_icmp_ne (tgt := 25) hx hb dX11_ridesAs_7 (by decide) (fun q => ?_) (fun q => ?_)
    · have hf := hf_f q hf
      refine lv_iload_n hx hb dX11_ridesAs_25 rfl (lv_at hl 1 rfl) ?_
      refine lv_iconst (v := 2) hx hb dX11_ridesAs_26 kc_2 ?_
      refine lv_icmp_ne (tgt := 44) hx hb dX11_ridesAs_27 (by decide) (fun q => ?_) (fun q => ?_)
      · have hf := hf_f q hf
        refine lv_iload_n hx hb dX11_ridesAs_44 rfl (lv_at hl 1 rfl) ?_
        refine lv_bipush (v := 7) hx hb dX11_ridesAs_45 kb_7 ?_
        refine lv_icmp_ne (tgt := 75) hx hb dX11_ridesAs_47 (by decide) (fun q => ?_) (fun q => ?_)
        · have hf := hf_f q hf
          refine lv_aload_n hx hb dX11_ridesAs_75 rfl (lv_at hl 0 rfl) ?_
          refine lv_bipush (v := 10) hx hb dX11_ridesAs_76 kb_10 ?_
          obtain ⟨S1, hr, hf⟩ := hf_1 hf
          refine inv_Vv (q0 := 44) (ci := 11) (As := [.int (10 : Int32)]) lk_X11_286 C hw rfl rfl rfl (t_Mo_runs hr) rfl hl.1 dX11_ridesAs_78 rfl (by omega) (by decide) (Nat.le_of_ble_eq_true rfl) rfl (fun H locs hw => ?_)
          refine lv_aload_n hx hb dX11_ridesAs_81 rfl (lv_at hl 0 rfl) ?_
          refine lv_aload_n hx hb dX11_ridesAs_82 rfl (lv_at hl 0 rfl) ?_
          refine get_44_33 C hw q_1184 dX11_ridesAs_83 ?_
          refine lv_iload_n hx hb dX11_ridesAs_86 rfl (lv_at hl 2 rfl) ?_
          obtain ⟨r3, S2, hr, hf⟩ := hf_2 hf
          refine inv_Vi (q0 := 44) (ci := 11) (As := [.int (gi S1 44 33), .int p2]) lk_X11_290 C hw rfl rfl rfl (hr_holdsAs hr) rfl hl.1 dX11_ridesAs_87 rfl (by omega) (by decide) (Nat.le_of_ble_eq_true rfl) rfl (fun H locs hw => ?_)
          refine lv_iconst (v := 2) hx hb dX11_ridesAs_90 kc_2 ?_
          refine lv_imul hx hb dX11_ridesAs_91 ?_
          exact ret_iS C hw dX11_ridesAs_92 hf
        · have hf := hf_t q hf
          refine lv_aload_n hx hb dX11_ridesAs_50 rfl (lv_at hl 0 rfl) ?_
          refine lv_bipush (v := 80) hx hb dX11_ridesAs_51 kb_80 ?_
          obtain ⟨S4, hr, hf⟩ := hf_1 hf
          refine inv_Vv (q0 := 44) (ci := 11) (As := [.int (80 : Int32)]) lk_X11_286 C hw rfl rfl rfl (t_Mo_runs hr) rfl hl.1 dX11_ridesAs_53 rfl (by omega) (by decide) (Nat.le_of_ble_eq_true rfl) rfl (fun H locs hw => ?_)
          refine lv_aload_n hx hb dX11_ridesAs_56 rfl (lv_at hl 0 rfl) ?_
          refine lv_iconst (v := 4) hx hb dX11_ridesAs_57 kc_4 ?_
          refine lv_iload_n hx hb dX11_ridesAs_58 rfl (lv_at hl 2 rfl) ?_
          obtain ⟨r6, S5, hr, hf⟩ := hf_2 hf
          refine inv_Vi (q0 := 44) (ci := 11) (As := [.int (4 : Int32), .int p2]) lk_X11_296 C hw rfl rfl rfl (hr_ridesAs hr) rfl hl.1 dX11_ridesAs_59 rfl (by omega) (by decide) (Nat.le_of_ble_eq_true rfl) rfl (fun H locs hw => ?_)
          refine lv_istore_n (lv' := [(3, .int r6), (0, .ref (ea E 44)), (1, .int p1), (2, .int p2)]) hx hb dX11_ridesAs_62 rfl hl (by decide) rfl (fun ls hl => ?_)
          refine lv_iload_n hx hb dX11_ridesAs_63 rfl (lv_at hl 0 rfl) ?_
          refine lv_aload_n hx hb dX11_ridesAs_64 rfl (lv_at hl 1 rfl) ?_
          refine lv_aload_n hx hb dX11_ridesAs_65 rfl (lv_at hl 1 rfl) ?_
          refine get_44_33 C hw q_1184 dX11_ridesAs_66 ?_
          refine lv_iconst (v := 2) hx hb dX11_ridesAs_69 kc_2 ?_
          obtain ⟨r8, S7, hr, hf⟩ := hf_2 hf
          refine inv_Vi (q0 := 44) (ci := 11) (As := [.int (gi S5 44 33), .int (2 : Int32)]) lk_X11_302 C hw rfl rfl rfl (hr_creaksAs hr) rfl hl.1 dX11_ridesAs_70 rfl (by omega) (by decide) (Nat.le_of_ble_eq_true rfl) rfl (fun H locs hw => ?_)
          refine lv_iadd hx hb dX11_ridesAs_73 ?_
          exact ret_iS C hw dX11_ridesAs_74 hf
      · have hf := hf_t q hf
        refine lv_aload_n hx hb dX11_ridesAs_30 rfl (lv_at hl 0 rfl) ?_
        refine lv_bipush (v := 30) hx hb dX11_ridesAs_31 kb_30 ?_
        obtain ⟨S9, hr, hf⟩ := hf_1 hf
        refine inv_Vv (q0 := 44) (ci := 11) (As := [.int (30 : Int32)]) lk_X11_286 C hw rfl rfl rfl (t_Mo_runs hr) rfl hl.1 dX11_ridesAs_33 rfl (by omega) (by decide) (Nat.le_of_ble_eq_true rfl) rfl (fun H locs hw => ?_)
        refine lv_aload_n hx hb dX11_ridesAs_36 rfl (lv_at hl 0 rfl) ?_
        refine lv_iconst (v := 0) hx hb dX11_ridesAs_37 kc_0 ?_
        refine lv_iload_n hx hb dX11_ridesAs_38 rfl (lv_at hl 2 rfl) ?_
        obtain ⟨r11, S10, hr, hf⟩ := hf_2 hf
        refine inv_Vi (q0 := 44) (ci := 11) (As := [.int (0 : Int32), .int p2]) lk_X11_296 C hw rfl rfl rfl (hr_ridesAs hr) rfl hl.1 dX11_ridesAs_39 rfl (by omega) (by decide) (Nat.le_of_ble_eq_true rfl) rfl (fun H locs hw => ?_)
        refine lv_ineg hx hb dX11_ridesAs_42 ?_
        exact ret_iS C hw dX11_ridesAs_43 hf
    · have hf := hf_t q hf
      exact w_Mo_ridesAs_b10 C hr_holdsAs hr_ridesAs hr_creaksAs hr_tellsAs hw (lv_sub hl [0, 2] rfl) hf
set_option maxRecDepth 20000 in
theorem w_Mo_creaksAs_b10 {d : Nat} {f_holdsAs : St → Int32 → Int32 → Option (Int32 × St)} {f_ridesAs : St → Int32 → Int32 → Option (Int32 × St)} {f_creaksAs : St → Int32 → Int32 → Option (Int32 × St)} {f_tellsAs : St → Int32 → Int32 → Option (Int32 × St)} {l2 : Int32} {r : Int32} {S9 : St} (C : Cx p s m args meth c E cX11_creaksAs 4 RX11 (some .int)) (hr_holdsAs : ∀ {S : St} {p1 : Int32} {p2 : Int32} {r : Int32} {S9 : St}, f_holdsAs S p1 p2 = some (r, S9) → Ct l (wM V) yX11_holdsAs cX11_holdsAs 3 (some .int) (d + 2) (fun E => [.ref (ea E 44), .int p1, .int p2]) S (fun E => some (.int r)) S9) (hr_ridesAs : ∀ {S : St} {p1 : Int32} {p2 : Int32} {r : Int32} {S9 : St}, f_ridesAs S p1 p2 = some (r, S9) → Ct l (wM V) yX11_ridesAs cX11_ridesAs 4 (some .int) (d + 2) (fun E => [.ref (ea E 44), .int p1, .int p2]) S (fun E => some (.int r)) S9) (hr_creaksAs : ∀ {S : St} {p1 : Int32} {p2 : Int32} {r : Int32} {S9 : St}, f_creaksAs S p1 p2 = some (r, S9) → Ct l (wM V) yX11_creaksAs cX11_creaksAs 4 (some .int) (d + 2) (fun E => [.ref (ea E 44), .int p1, .int p2]) S (fun E => some (.int r)) S9) (hr_tellsAs : ∀ {S : St} {p1 : Int32} {p2 : Int32} {r : Int32} {S9 : St}, f_tellsAs S p1 p2 = some (r, S9) → Ct l (wM V) yX11_tellsAs cX11_tellsAs 4 (some .int) (d + 2) (fun E => [.ref (ea E 44), .int p1, .int p2]) S (fun E => some (.int r)) S9) (hw : Wd E (wM V E) s.heap S H locs) (hl : lv_has ls 4 [(0, .ref (ea E 44)), (2, .int l2)]) (hf : Mo_creaksAs_b10 f_holdsAs f_ridesAs f_creaksAs f_tellsAs S l2 = some (r, S9)) : W p l e (rmh (d + 1 + 2)) s m args below meth c H locs 0 0 (MQ below (QW E (wM V E) (some (.int r)) S9) args s 0 0 (eA E)) (F0 m 10 ls []) := by
  have hx := C.1
  have hb := C.2.1
  unfold Mo_creaksAs_b10 at hf
  refine lv_aload_n hx hb dX11_creaksAs_10 rfl (lv_at hl 0 rfl) ?_
  refine lv_bipush (v := 40) hx hb dX11_creaksAs_11 kb_40 ?_
  obtain ⟨S1, hr, hf⟩ := hf_1 hf
  refine inv_Vv (q0 := 44) (ci := 11) (As := [.int (40 : Int32)]) lk_X11_286 C hw rfl rfl rfl (t_Mo_runs hr) rfl hl.1 dX11_creaksAs_13 rfl (by omega) (by decide) (Nat.le_of_ble_eq_true rfl) rfl (fun H locs hw => ?_)
  refine lv_aload_n hx hb dX11_creaksAs_16 rfl (lv_at hl 0 rfl) ?_
  refine lv_iconst (v := 2) hx hb dX11_creaksAs_17 kc_2 ?_
  refine lv_iload_n hx hb dX11_creaksAs_18 rfl (lv_at hl 1 rfl) ?_
  obtain ⟨r3, S2, hr, hf⟩ := hf_2 hf
  refine inv_Vi (q0 := 44) (ci := 11) (As := [.int (2 : Int32), .int l2]) lk_X11_302 C hw rfl rfl rfl (hr_creaksAs hr) rfl hl.1 dX11_creaksAs_19 rfl (by omega) (by decide) (Nat.le_of_ble_eq_true rfl) rfl (fun H locs hw => ?_)
  refine lv_iconst (v := 3) hx hb dX11_creaksAs_22 kc_3 ?_
  refine lv_imul hx hb dX11_creaksAs_23 ?_
  exact ret_iS C hw dX11_creaksAs_24 hf
set_option maxRecDepth 20000 in
theorem w_Mo_creaksAs_b36 {d : Nat} {f_holdsAs : St → Int32 → Int32 → Option (Int32 × St)} {f_ridesAs : St → Int32 → Int32 → Option (Int32 × St)} {f_creaksAs : St → Int32 → Int32 → Option (Int32 × St)} {f_tellsAs : St → Int32 → Int32 → Option (Int32 × St)} {l2 : Int32} {r : Int32} {S9 : St} (C : Cx p s m args meth c E cX11_creaksAs 4 RX11 (some .int)) (hr_holdsAs : ∀ {S : St} {p1 : Int32} {p2 : Int32} {r : Int32} {S9 : St}, f_holdsAs S p1 p2 = some (r, S9) → Ct l (wM V) yX11_holdsAs cX11_holdsAs 3 (some .int) (d + 2) (fun E => [.ref (ea E 44), .int p1, .int p2]) S (fun E => some (.int r)) S9) (hr_ridesAs : ∀ {S : St} {p1 : Int32} {p2 : Int32} {r : Int32} {S9 : St}, f_ridesAs S p1 p2 = some (r, S9) → Ct l (wM V) yX11_ridesAs cX11_ridesAs 4 (some .int) (d + 2) (fun E => [.ref (ea E 44), .int p1, .int p2]) S (fun E => some (.int r)) S9) (hr_creaksAs : ∀ {S : St} {p1 : Int32} {p2 : Int32} {r : Int32} {S9 : St}, f_creaksAs S p1 p2 = some (r, S9) → Ct l (wM V) yX11_creaksAs cX11_creaksAs 4 (some .int) (d + 2) (fun E => [.ref (ea E 44), .int p1, .int p2]) S (fun E => some (.int r)) S9) (hr_tellsAs : ∀ {S : St} {p1 : Int32} {p2 : Int32} {r : Int32} {S9 : St}, f_tellsAs S p1 p2 = some (r, S9) → Ct l (wM V) yX11_tellsAs cX11_tellsAs 4 (some .int) (d + 2) (fun E => [.ref (ea E 44), .int p1, .int p2]) S (fun E => some (.int r)) S9) (hw : Wd E (wM V E) s.heap S H locs) (hl : lv_has ls 4 [(0, .ref (ea E 44)), (2, .int l2)]) (hf : Mo_creaksAs_b36 f_holdsAs f_ridesAs f_creaksAs f_tellsAs S l2 = some (r, S9)) : W p l e (rmh (d + 1 + 2)) s m args below meth c H locs 0 0 (MQ below (QW E (wM V E) (some (.int r)) S9) args s 0 0 (eA E)) (F0 m 36 ls []) := by
  have hx := C.1
  have hb := C.2.1
  unfold Mo_creaksAs_b36 at hf
  refine lv_aload_n hx hb dX11_creaksAs_36 rfl (lv_at hl 0 rfl) ?_
  refine lv_bipush (v := 50) hx hb dX11_creaksAs_37 kb_50 ?_
  obtain ⟨S1, hr, hf⟩ := hf_1 hf
  refine inv_Vv (q0 := 44) (ci := 11) (As := [.int (50 : Int32)]) lk_X11_286 C hw rfl rfl rfl (t_Mo_runs hr) rfl hl.1 dX11_creaksAs_39 rfl (by omega) (by decide) (Nat.le_of_ble_eq_true rfl) rfl (fun H locs hw => ?_)
  refine lv_aload_n hx hb dX11_creaksAs_42 rfl (lv_at hl 0 rfl) ?_
  refine lv_iconst (v := 1) hx hb dX11_creaksAs_43 kc_1 ?_
  refine lv_iload_n hx hb dX11_creaksAs_44 rfl (lv_at hl 1 rfl) ?_
  obtain ⟨r3, S2, hr, hf⟩ := hf_2 hf
  refine inv_Vi (q0 := 44) (ci := 11) (As := [.int (1 : Int32), .int l2]) lk_X11_302 C hw rfl rfl rfl (hr_creaksAs hr) rfl hl.1 dX11_creaksAs_45 rfl (by omega) (by decide) (Nat.le_of_ble_eq_true rfl) rfl (fun H locs hw => ?_)
  refine lv_istore_n (lv' := [(3, .int r3), (0, .ref (ea E 44)), (2, .int l2)]) hx hb dX11_creaksAs_48 rfl hl (by decide) rfl (fun ls hl => ?_)
  refine lv_iload_n hx hb dX11_creaksAs_49 rfl (lv_at hl 0 rfl) ?_
  refine lv_aload_n hx hb dX11_creaksAs_50 rfl (lv_at hl 1 rfl) ?_
  refine lv_aload_n hx hb dX11_creaksAs_51 rfl (lv_at hl 1 rfl) ?_
  refine get_44_33 C hw q_1184 dX11_creaksAs_52 ?_
  refine lv_iconst (v := 2) hx hb dX11_creaksAs_55 kc_2 ?_
  obtain ⟨r5, S4, hr, hf⟩ := hf_2 hf
  refine inv_Vi (q0 := 44) (ci := 11) (As := [.int (gi S2 44 33), .int (2 : Int32)]) lk_X11_290 C hw rfl rfl rfl (hr_holdsAs hr) rfl hl.1 dX11_creaksAs_56 rfl (by omega) (by decide) (Nat.le_of_ble_eq_true rfl) rfl (fun H locs hw => ?_)
  refine lv_isub hx hb dX11_creaksAs_59 ?_
  exact ret_iS C hw dX11_creaksAs_60 hf
set_option maxRecDepth 20000 in
theorem w_Mo_creaksAs_B {d : Nat} {f_holdsAs : St → Int32 → Int32 → Option (Int32 × St)} {f_ridesAs : St → Int32 → Int32 → Option (Int32 × St)} {f_creaksAs : St → Int32 → Int32 → Option (Int32 × St)} {f_tellsAs : St → Int32 → Int32 → Option (Int32 × St)} {p1 : Int32} {p2 : Int32} {r : Int32} {S9 : St} (C : Cx p s m args meth c E cX11_creaksAs 4 RX11 (some .int)) (hr_holdsAs : ∀ {S : St} {p1 : Int32} {p2 : Int32} {r : Int32} {S9 : St}, f_holdsAs S p1 p2 = some (r, S9) → Ct l (wM V) yX11_holdsAs cX11_holdsAs 3 (some .int) (d + 2) (fun E => [.ref (ea E 44), .int p1, .int p2]) S (fun E => some (.int r)) S9) (hr_ridesAs : ∀ {S : St} {p1 : Int32} {p2 : Int32} {r : Int32} {S9 : St}, f_ridesAs S p1 p2 = some (r, S9) → Ct l (wM V) yX11_ridesAs cX11_ridesAs 4 (some .int) (d + 2) (fun E => [.ref (ea E 44), .int p1, .int p2]) S (fun E => some (.int r)) S9) (hr_creaksAs : ∀ {S : St} {p1 : Int32} {p2 : Int32} {r : Int32} {S9 : St}, f_creaksAs S p1 p2 = some (r, S9) → Ct l (wM V) yX11_creaksAs cX11_creaksAs 4 (some .int) (d + 2) (fun E => [.ref (ea E 44), .int p1, .int p2]) S (fun E => some (.int r)) S9) (hr_tellsAs : ∀ {S : St} {p1 : Int32} {p2 : Int32} {r : Int32} {S9 : St}, f_tellsAs S p1 p2 = some (r, S9) → Ct l (wM V) yX11_tellsAs cX11_tellsAs 4 (some .int) (d + 2) (fun E => [.ref (ea E 44), .int p1, .int p2]) S (fun E => some (.int r)) S9) (hw : Wd E (wM V E) s.heap S H locs) (hl : lv_has ls 4 [(0, .ref (ea E 44)), (1, .int p1), (2, .int p2)]) (hf : Mo_creaksAs_B f_holdsAs f_ridesAs f_creaksAs f_tellsAs S p1 p2 = some (r, S9)) : W p l e (rmh (d + 1 + 2)) s m args below meth c H locs 0 0 (MQ below (QW E (wM V E) (some (.int r)) S9) args s 0 0 (eA E)) (F0 m 0 ls []) := by
  have hx := C.1
  have hb := C.2.1
  unfold Mo_creaksAs_B at hf
  refine lv_iload_n hx hb dX11_creaksAs_0 rfl (lv_at hl 1 rfl) ?_
  refine lv_iconst (v := 3) hx hb dX11_creaksAs_1 kc_3 ?_
  refine lv_icmp_eq (tgt := 10) hx hb dX11_creaksAs_2 (by decide) (fun q => ?_) (fun q => ?_)
  · have hf := hf_t q hf
    exact w_Mo_creaksAs_b10 C hr_holdsAs hr_ridesAs hr_creaksAs hr_tellsAs hw (lv_sub hl [0, 2] rfl) hf
  · have hf := hf_f q hf
    refine lv_iload_n hx hb dX11_creaksAs_5 rfl (lv_at hl 1 rfl) ?_
    refine lv_iconst (v := 5) hx hb dX11_creaksAs_6 kc_5 ?_
    refine lv_icmp_ne (tgt := 25) hx hb dX11_creaksAs_7 (by decide) (fun q => ?_) (fun q => ?_)
    · have hf := hf_f q hf
      refine lv_iload_n hx hb dX11_creaksAs_25 rfl (lv_at hl 1 rfl) ?_
      refine lv_iconst (v := 4) hx hb dX11_creaksAs_26 kc_4 ?_
      refine lv_icmp_eq (tgt := 36) hx hb dX11_creaksAs_27 (by decide) (fun q => ?_) (fun q => ?_)
      · have hf := hf_t q hf
        exact w_Mo_creaksAs_b36 C hr_holdsAs hr_ridesAs hr_creaksAs hr_tellsAs hw (lv_sub hl [0, 2] rfl) hf
      · have hf := hf_f q hf
        refine lv_iload_n hx hb dX11_creaksAs_30 rfl (lv_at hl 1 rfl) ?_
        refine lv_bipush (v := 7) hx hb dX11_creaksAs_31 kb_7 ?_
        refine lv_icmp_ne (tgt := 61) hx hb dX11_creaksAs_33 (by decide) (fun q => ?_) (fun q => ?_)
        · have hf := hf_f q hf
          refine lv_aload_n hx hb dX11_creaksAs_61 rfl (lv_at hl 0 rfl) ?_
          refine lv_bipush (v := 11) hx hb dX11_creaksAs_62 kb_11 ?_
          obtain ⟨S1, hr, hf⟩ := hf_1 hf
          refine inv_Vv (q0 := 44) (ci := 11) (As := [.int (11 : Int32)]) lk_X11_286 C hw rfl rfl rfl (t_Mo_runs hr) rfl hl.1 dX11_creaksAs_64 rfl (by omega) (by decide) (Nat.le_of_ble_eq_true rfl) rfl (fun H locs hw => ?_)
          refine lv_iload_n hx hb dX11_creaksAs_67 rfl (lv_at hl 2 rfl) ?_
          refine lv_aload_n hx hb dX11_creaksAs_68 rfl (lv_at hl 0 rfl) ?_
          refine get_44_34 C hw q_1185 dX11_creaksAs_69 ?_
          refine lv_ixor hx hb dX11_creaksAs_72 ?_
          exact ret_iS C hw dX11_creaksAs_73 hf
        · have hf := hf_t q hf
          exact w_Mo_creaksAs_b36 C hr_holdsAs hr_ridesAs hr_creaksAs hr_tellsAs hw (lv_sub hl [0, 2] rfl) hf
    · have hf := hf_t q hf
      exact w_Mo_creaksAs_b10 C hr_holdsAs hr_ridesAs hr_creaksAs hr_tellsAs hw (lv_sub hl [0, 2] rfl) hf
set_option maxRecDepth 20000 in
theorem w_Mo_tellsAs_B {d : Nat} {f_holdsAs : St → Int32 → Int32 → Option (Int32 × St)} {f_ridesAs : St → Int32 → Int32 → Option (Int32 × St)} {f_creaksAs : St → Int32 → Int32 → Option (Int32 × St)} {f_tellsAs : St → Int32 → Int32 → Option (Int32 × St)} {p1 : Int32} {p2 : Int32} {r : Int32} {S9 : St} (C : Cx p s m args meth c E cX11_tellsAs 4 RX11 (some .int)) (hr_holdsAs : ∀ {S : St} {p1 : Int32} {p2 : Int32} {r : Int32} {S9 : St}, f_holdsAs S p1 p2 = some (r, S9) → Ct l (wM V) yX11_holdsAs cX11_holdsAs 3 (some .int) (d + 2) (fun E => [.ref (ea E 44), .int p1, .int p2]) S (fun E => some (.int r)) S9) (hr_ridesAs : ∀ {S : St} {p1 : Int32} {p2 : Int32} {r : Int32} {S9 : St}, f_ridesAs S p1 p2 = some (r, S9) → Ct l (wM V) yX11_ridesAs cX11_ridesAs 4 (some .int) (d + 2) (fun E => [.ref (ea E 44), .int p1, .int p2]) S (fun E => some (.int r)) S9) (hr_creaksAs : ∀ {S : St} {p1 : Int32} {p2 : Int32} {r : Int32} {S9 : St}, f_creaksAs S p1 p2 = some (r, S9) → Ct l (wM V) yX11_creaksAs cX11_creaksAs 4 (some .int) (d + 2) (fun E => [.ref (ea E 44), .int p1, .int p2]) S (fun E => some (.int r)) S9) (hr_tellsAs : ∀ {S : St} {p1 : Int32} {p2 : Int32} {r : Int32} {S9 : St}, f_tellsAs S p1 p2 = some (r, S9) → Ct l (wM V) yX11_tellsAs cX11_tellsAs 4 (some .int) (d + 2) (fun E => [.ref (ea E 44), .int p1, .int p2]) S (fun E => some (.int r)) S9) (hw : Wd E (wM V E) s.heap S H locs) (hl : lv_has ls 4 [(0, .ref (ea E 44)), (1, .int p1), (2, .int p2)]) (hf : Mo_tellsAs_B f_holdsAs f_ridesAs f_creaksAs f_tellsAs S p1 p2 = some (r, S9)) : W p l e (rmh (d + 1 + 2)) s m args below meth c H locs 0 0 (MQ below (QW E (wM V E) (some (.int r)) S9) args s 0 0 (eA E)) (F0 m 0 ls []) := by
  have hx := C.1
  have hb := C.2.1
  unfold Mo_tellsAs_B at hf
  refine lv_iload_n hx hb dX11_tellsAs_0 rfl (lv_at hl 1 rfl) ?_
  refine lv_iconst (v := 5) hx hb dX11_tellsAs_1 kc_5 ?_
  refine lv_icmp_ne (tgt := 20) hx hb dX11_tellsAs_2 (by decide) (fun q => ?_) (fun q => ?_)
  · have hf := hf_f q hf
    refine lv_iload_n hx hb dX11_tellsAs_20 rfl (lv_at hl 1 rfl) ?_
    refine lv_bipush (v := 7) hx hb dX11_tellsAs_21 kb_7 ?_
    refine lv_icmp_ne (tgt := 41) hx hb dX11_tellsAs_23 (by decide) (fun q => ?_) (fun q => ?_)
    · have hf := hf_f q hf
      refine lv_aload_n hx hb dX11_tellsAs_41 rfl (lv_at hl 0 rfl) ?_
      refine lv_iconst (v := 2) hx hb dX11_tellsAs_42 kc_2 ?_
      obtain ⟨S1, hr, hf⟩ := hf_1 hf
      refine inv_Vv (q0 := 44) (ci := 11) (As := [.int (2 : Int32)]) lk_X11_286 C hw rfl rfl rfl (t_Mo_runs hr) rfl hl.1 dX11_tellsAs_43 rfl (by omega) (by decide) (Nat.le_of_ble_eq_true rfl) rfl (fun H locs hw => ?_)
      refine lv_aload_n hx hb dX11_tellsAs_46 rfl (lv_at hl 0 rfl) ?_
      refine lv_aload_n hx hb dX11_tellsAs_47 rfl (lv_at hl 0 rfl) ?_
      refine get_44_33 C hw q_1184 dX11_tellsAs_48 ?_
      refine lv_iload_n hx hb dX11_tellsAs_51 rfl (lv_at hl 2 rfl) ?_
      obtain ⟨r3, S2, hr, hf⟩ := hf_2 hf
      refine inv_Vi (q0 := 44) (ci := 11) (As := [.int (gi S1 44 33), .int p2]) lk_X11_296 C hw rfl rfl rfl (hr_ridesAs hr) rfl hl.1 dX11_tellsAs_52 rfl (by omega) (by decide) (Nat.le_of_ble_eq_true rfl) rfl (fun H locs hw => ?_)
      refine lv_istore_n (lv' := [(3, .int r3), (0, .ref (ea E 44)), (1, .int p1), (2, .int p2)]) hx hb dX11_tellsAs_55 rfl hl (by decide) rfl (fun ls hl => ?_)
      refine lv_iload_n hx hb dX11_tellsAs_56 rfl (lv_at hl 0 rfl) ?_
      refine lv_aload_n hx hb dX11_tellsAs_57 rfl (lv_at hl 1 rfl) ?_
      refine lv_aload_n hx hb dX11_tellsAs_58 rfl (lv_at hl 1 rfl) ?_
      refine get_44_33 C hw q_1184 dX11_tellsAs_59 ?_
      refine lv_iconst (v := 1) hx hb dX11_tellsAs_62 kc_1 ?_
      obtain ⟨r5, S4, hr, hf⟩ := hf_2 hf
      refine inv_Vi (q0 := 44) (ci := 11) (As := [.int (gi S2 44 33), .int (1 : Int32)]) lk_X11_302 C hw rfl rfl rfl (hr_creaksAs hr) rfl hl.1 dX11_tellsAs_63 rfl (by omega) (by decide) (Nat.le_of_ble_eq_true rfl) rfl (fun H locs hw => ?_)
      refine lv_isub hx hb dX11_tellsAs_66 ?_
      exact ret_iS C hw dX11_tellsAs_67 hf
    · have hf := hf_t q hf
      refine lv_aload_n hx hb dX11_tellsAs_26 rfl (lv_at hl 0 rfl) ?_
      refine lv_bipush (v := 81) hx hb dX11_tellsAs_27 kb_81 ?_
      obtain ⟨S6, hr, hf⟩ := hf_1 hf
      refine inv_Vv (q0 := 44) (ci := 11) (As := [.int (81 : Int32)]) lk_X11_286 C hw rfl rfl rfl (t_Mo_runs hr) rfl hl.1 dX11_tellsAs_29 rfl (by omega) (by decide) (Nat.le_of_ble_eq_true rfl) rfl (fun H locs hw => ?_)
      refine lv_aload_n hx hb dX11_tellsAs_32 rfl (lv_at hl 0 rfl) ?_
      refine lv_iconst (v := 4) hx hb dX11_tellsAs_33 kc_4 ?_
      refine lv_iload_n hx hb dX11_tellsAs_34 rfl (lv_at hl 2 rfl) ?_
      obtain ⟨r8, S7, hr, hf⟩ := hf_2 hf
      refine inv_Vi (q0 := 44) (ci := 11) (As := [.int (4 : Int32), .int p2]) lk_X11_305 C hw rfl rfl rfl (hr_tellsAs hr) rfl hl.1 dX11_tellsAs_35 rfl (by omega) (by decide) (Nat.le_of_ble_eq_true rfl) rfl (fun H locs hw => ?_)
      refine lv_iconst (v := 1) hx hb dX11_tellsAs_38 kc_1 ?_
      refine lv_isub hx hb dX11_tellsAs_39 ?_
      exact ret_iS C hw dX11_tellsAs_40 hf
  · have hf := hf_t q hf
    refine lv_aload_n hx hb dX11_tellsAs_5 rfl (lv_at hl 0 rfl) ?_
    refine lv_bipush (v := 60) hx hb dX11_tellsAs_6 kb_60 ?_
    obtain ⟨S9, hr, hf⟩ := hf_1 hf
    refine inv_Vv (q0 := 44) (ci := 11) (As := [.int (60 : Int32)]) lk_X11_286 C hw rfl rfl rfl (t_Mo_runs hr) rfl hl.1 dX11_tellsAs_8 rfl (by omega) (by decide) (Nat.le_of_ble_eq_true rfl) rfl (fun H locs hw => ?_)
    refine lv_aload_n hx hb dX11_tellsAs_11 rfl (lv_at hl 0 rfl) ?_
    refine lv_iconst (v := 3) hx hb dX11_tellsAs_12 kc_3 ?_
    refine lv_iload_n hx hb dX11_tellsAs_13 rfl (lv_at hl 2 rfl) ?_
    obtain ⟨r11, S10, hr, hf⟩ := hf_2 hf
    refine inv_Vi (q0 := 44) (ci := 11) (As := [.int (3 : Int32), .int p2]) lk_X11_305 C hw rfl rfl rfl (hr_tellsAs hr) rfl hl.1 dX11_tellsAs_14 rfl (by omega) (by decide) (Nat.le_of_ble_eq_true rfl) rfl (fun H locs hw => ?_)
    refine lv_iconst (v := 5) hx hb dX11_tellsAs_17 kc_5 ?_
    refine lv_ixor hx hb dX11_tellsAs_18 ?_
    exact ret_iS C hw dX11_tellsAs_19 hf
end
theorem g_Mo_holdsAs {l : Launch} {V : St} : ∀ d : Nat, (∀ {S : St} {p1 : Int32} {p2 : Int32} {r : Int32} {S9 : St}, Mo_holdsAs d S p1 p2 = some (r, S9) → Ct l (wM V) yX11_holdsAs cX11_holdsAs 3 (some .int) (d + 2) (fun E => [.ref (ea E 44), .int p1, .int p2]) S (fun E => some (.int r)) S9) ∧ (∀ {S : St} {p1 : Int32} {p2 : Int32} {r : Int32} {S9 : St}, Mo_ridesAs d S p1 p2 = some (r, S9) → Ct l (wM V) yX11_ridesAs cX11_ridesAs 4 (some .int) (d + 2) (fun E => [.ref (ea E 44), .int p1, .int p2]) S (fun E => some (.int r)) S9) ∧ (∀ {S : St} {p1 : Int32} {p2 : Int32} {r : Int32} {S9 : St}, Mo_creaksAs d S p1 p2 = some (r, S9) → Ct l (wM V) yX11_creaksAs cX11_creaksAs 4 (some .int) (d + 2) (fun E => [.ref (ea E 44), .int p1, .int p2]) S (fun E => some (.int r)) S9) ∧ (∀ {S : St} {p1 : Int32} {p2 : Int32} {r : Int32} {S9 : St}, Mo_tellsAs d S p1 p2 = some (r, S9) → Ct l (wM V) yX11_tellsAs cX11_tellsAs 4 (some .int) (d + 2) (fun E => [.ref (ea E 44), .int p1, .int p2]) S (fun E => some (.int r)) S9) := by
  intro d
  induction d with
  | zero => exact ⟨(by intros; rename_i hf; cases hf), (by intros; rename_i hf; cases hf), (by intros; rename_i hf; cases hf), (by intros; rename_i hf; cases hf)⟩
  | succ d ih =>
    obtain ⟨h0, h1, h2, h3⟩ := ih
    exact ⟨(by intros; rename_i hf; exact ofBlock (by decide +kernel) (fun _ => Nat.le_of_ble_eq_true rfl) (fun E p e s m args below meth c ls C hw hl => w_Mo_holdsAs_B (d := d) (f_holdsAs := Mo_holdsAs d) (f_ridesAs := Mo_ridesAs d) (f_creaksAs := Mo_creaksAs d) (f_tellsAs := Mo_tellsAs d) C h0 h1 h2 h3 hw hl hf)),
     (by intros; rename_i hf; exact ofBlock (by decide +kernel) (fun _ => Nat.le_of_ble_eq_true rfl) (fun E p e s m args below meth c ls C hw hl => w_Mo_ridesAs_B (d := d) (f_holdsAs := Mo_holdsAs d) (f_ridesAs := Mo_ridesAs d) (f_creaksAs := Mo_creaksAs d) (f_tellsAs := Mo_tellsAs d) C h0 h1 h2 h3 hw hl hf)),
     (by intros; rename_i hf; exact ofBlock (by decide +kernel) (fun _ => Nat.le_of_ble_eq_true rfl) (fun E p e s m args below meth c ls C hw hl => w_Mo_creaksAs_B (d := d) (f_holdsAs := Mo_holdsAs d) (f_ridesAs := Mo_ridesAs d) (f_creaksAs := Mo_creaksAs d) (f_tellsAs := Mo_tellsAs d) C h0 h1 h2 h3 hw hl hf)),
     (by intros; rename_i hf; exact ofBlock (by decide +kernel) (fun _ => Nat.le_of_ble_eq_true rfl) (fun E p e s m args below meth c ls C hw hl => w_Mo_tellsAs_B (d := d) (f_holdsAs := Mo_holdsAs d) (f_ridesAs := Mo_ridesAs d) (f_creaksAs := Mo_creaksAs d) (f_tellsAs := Mo_tellsAs d) C h0 h1 h2 h3 hw hl hf))⟩
theorem t_Mo_holdsAs {l : Launch} {V : St} {N : Nat} {S : St} {p1 : Int32} {p2 : Int32} {r : Int32} {S9 : St} (hf : Mo_holdsAs N S p1 p2 = some (r, S9)) : Ct l (wM V) yX11_holdsAs cX11_holdsAs 3 (some .int) (N + 2) (fun E => [.ref (ea E 44), .int p1, .int p2]) S (fun E => some (.int r)) S9 := ((g_Mo_holdsAs (l := l) (V := V) N).1) hf
theorem t_Mo_ridesAs {l : Launch} {V : St} {N : Nat} {S : St} {p1 : Int32} {p2 : Int32} {r : Int32} {S9 : St} (hf : Mo_ridesAs N S p1 p2 = some (r, S9)) : Ct l (wM V) yX11_ridesAs cX11_ridesAs 4 (some .int) (N + 2) (fun E => [.ref (ea E 44), .int p1, .int p2]) S (fun E => some (.int r)) S9 := ((g_Mo_holdsAs (l := l) (V := V) N).2.1) hf
theorem t_Mo_creaksAs {l : Launch} {V : St} {N : Nat} {S : St} {p1 : Int32} {p2 : Int32} {r : Int32} {S9 : St} (hf : Mo_creaksAs N S p1 p2 = some (r, S9)) : Ct l (wM V) yX11_creaksAs cX11_creaksAs 4 (some .int) (N + 2) (fun E => [.ref (ea E 44), .int p1, .int p2]) S (fun E => some (.int r)) S9 := ((g_Mo_holdsAs (l := l) (V := V) N).2.2.1) hf
theorem t_Mo_tellsAs {l : Launch} {V : St} {N : Nat} {S : St} {p1 : Int32} {p2 : Int32} {r : Int32} {S9 : St} (hf : Mo_tellsAs N S p1 p2 = some (r, S9)) : Ct l (wM V) yX11_tellsAs cX11_tellsAs 4 (some .int) (N + 2) (fun E => [.ref (ea E 44), .int p1, .int p2]) S (fun E => some (.int r)) S9 := ((g_Mo_holdsAs (l := l) (V := V) N).2.2.2) hf
theorem dX11_act_0 : decode cX11_act 0 = .ok (.aload_n 0, 1) := by decide +kernel
theorem dX11_act_1 : decode cX11_act 1 = .ok (.iconst 0, 1) := by decide +kernel
theorem dX11_act_2 : decode cX11_act 2 = .ok (.putfield 283, 3) := by decide +kernel
theorem dX11_act_5 : decode cX11_act 5 = .ok (.aload_n 0, 1) := by decide +kernel
theorem dX11_act_6 : decode cX11_act 6 = .ok (.iload_n 1, 1) := by decide +kernel
theorem dX11_act_7 : decode cX11_act 7 = .ok (.invokevirtual 308, 3) := by decide +kernel
theorem dX11_act_10 : decode cX11_act 10 = .ok (.ifCond .ne 5, 3) := by decide +kernel
theorem dX11_act_13 : decode cX11_act 13 = .ok (.iconst 0, 1) := by decide +kernel
theorem dX11_act_14 : decode cX11_act 14 = .ok (.ireturn, 1) := by decide +kernel
theorem dX11_act_15 : decode cX11_act 15 = .ok (.aload_n 0, 1) := by decide +kernel
theorem dX11_act_16 : decode cX11_act 16 = .ok (.aload_n 0, 1) := by decide +kernel
theorem dX11_act_17 : decode cX11_act 17 = .ok (.getfield 52, 3) := by decide +kernel
theorem dX11_act_20 : decode cX11_act 20 = .ok (.iload_n 1, 1) := by decide +kernel
theorem dX11_act_21 : decode cX11_act 21 = .ok (.iaload, 1) := by decide +kernel
theorem dX11_act_22 : decode cX11_act 22 = .ok (.putfield 299, 3) := by decide +kernel
theorem dX11_act_25 : decode cX11_act 25 = .ok (.aload_n 0, 1) := by decide +kernel
theorem dX11_act_26 : decode cX11_act 26 = .ok (.iload_n 1, 1) := by decide +kernel
theorem dX11_act_27 : decode cX11_act 27 = .ok (.putfield 293, 3) := by decide +kernel
theorem dX11_act_30 : decode cX11_act 30 = .ok (.iload_n 2, 1) := by decide +kernel
theorem dX11_act_31 : decode cX11_act 31 = .ok (.tableswitch 69 0 3 #[29, 39, 49, 59], 29) := by decide +kernel
theorem dX11_act_60 : decode cX11_act 60 = .ok (.aload_n 0, 1) := by decide +kernel
theorem dX11_act_61 : decode cX11_act 61 = .ok (.aload_n 0, 1) := by decide +kernel
theorem dX11_act_62 : decode cX11_act 62 = .ok (.getfield 299, 3) := by decide +kernel
theorem dX11_act_65 : decode cX11_act 65 = .ok (.iload_n 3, 1) := by decide +kernel
theorem dX11_act_66 : decode cX11_act 66 = .ok (.invokevirtual 290, 3) := by decide +kernel
theorem dX11_act_69 : decode cX11_act 69 = .ok (.ireturn, 1) := by decide +kernel
theorem dX11_act_70 : decode cX11_act 70 = .ok (.aload_n 0, 1) := by decide +kernel
theorem dX11_act_71 : decode cX11_act 71 = .ok (.aload_n 0, 1) := by decide +kernel
theorem dX11_act_72 : decode cX11_act 72 = .ok (.getfield 299, 3) := by decide +kernel
theorem dX11_act_75 : decode cX11_act 75 = .ok (.iload_n 3, 1) := by decide +kernel
theorem dX11_act_76 : decode cX11_act 76 = .ok (.invokevirtual 296, 3) := by decide +kernel
theorem dX11_act_79 : decode cX11_act 79 = .ok (.ireturn, 1) := by decide +kernel
theorem dX11_act_80 : decode cX11_act 80 = .ok (.aload_n 0, 1) := by decide +kernel
theorem dX11_act_81 : decode cX11_act 81 = .ok (.aload_n 0, 1) := by decide +kernel
theorem dX11_act_82 : decode cX11_act 82 = .ok (.getfield 299, 3) := by decide +kernel
theorem dX11_act_85 : decode cX11_act 85 = .ok (.iload_n 3, 1) := by decide +kernel
theorem dX11_act_86 : decode cX11_act 86 = .ok (.invokevirtual 302, 3) := by decide +kernel
theorem dX11_act_89 : decode cX11_act 89 = .ok (.ireturn, 1) := by decide +kernel
theorem dX11_act_90 : decode cX11_act 90 = .ok (.aload_n 0, 1) := by decide +kernel
theorem dX11_act_91 : decode cX11_act 91 = .ok (.aload_n 0, 1) := by decide +kernel
theorem dX11_act_92 : decode cX11_act 92 = .ok (.getfield 299, 3) := by decide +kernel
theorem dX11_act_95 : decode cX11_act 95 = .ok (.iload_n 3, 1) := by decide +kernel
theorem dX11_act_96 : decode cX11_act 96 = .ok (.invokevirtual 305, 3) := by decide +kernel
theorem dX11_act_99 : decode cX11_act 99 = .ok (.ireturn, 1) := by decide +kernel
theorem dX11_act_100 : decode cX11_act 100 = .ok (.iconst 0, 1) := by decide +kernel
theorem dX11_act_101 : decode cX11_act 101 = .ok (.ireturn, 1) := by decide +kernel
section
variable {p : Program} {l : Launch} {e : Env} {s : State} {m : MethodId} {args : Array Value} {below : List Frame} {meth : Method} {c : Code} {H : Heap} {locs : List Loc} {E : Ev} {S V : St} {ls : Array Slot}
set_option maxRecDepth 20000 in
theorem w_Mo_act {N : Nat} {p1 : Int32} {p2 : Int32} {p3 : Int32} {r : Int32} {S9 : St} (C : Cx p s m args meth c E cX11_act 4 RX11 (some .int)) (hw : Wd E (wM V E) s.heap S H locs) (hl : lv_has ls 4 [(0, .ref (ea E 44)), (1, .int p1), (2, .int p2), (3, .int p3)]) (hf : Mo_act N S p1 p2 p3 = some (r, S9)) : W p l e (rmh (N + 3)) s m args below meth c H locs 0 0 (MQ below (QW E (wM V E) (some (.int r)) S9) args s 0 0 (eA E)) (F0 m 0 ls []) := by
  have hx := C.1
  have hb := C.2.1
  unfold Mo_act at hf
  refine lv_aload_n hx hb dX11_act_0 rfl (lv_at hl 0 rfl) ?_
  refine lv_iconst (v := 0) hx hb dX11_act_1 kc_0 ?_
  refine put_44_32 C hw q_1183 dX11_act_2 (fun H locs hw => ?_)
  refine nm_S hf hw (fun S1 hf hw => ?_)
  refine lv_aload_n hx hb dX11_act_5 rfl (lv_at hl 0 rfl) ?_
  refine lv_iload_n hx hb dX11_act_6 rfl (lv_at hl 1 rfl) ?_
  obtain ⟨r2, hr, hf⟩ := hf_1 hf
  refine inv_Vi (q0 := 44) (ci := 11) (As := [.int p1]) lk_X11_308 C hw rfl rfl rfl (t_Mo_isBody hr) rfl hl.1 dX11_act_7 rfl (Nat.le_of_ble_eq_true rfl) (by decide) (Nat.le_of_ble_eq_true rfl) rfl (fun H locs hw => ?_)
  refine lv_if_ne (tgt := 15) hx hb dX11_act_10 (by decide) (fun q => ?_) (fun q => ?_)
  · have hf := hf_f q hf
    refine lv_aload_n hx hb dX11_act_15 rfl (lv_at hl 0 rfl) ?_
    refine lv_aload_n hx hb dX11_act_16 rfl (lv_at hl 0 rfl) ?_
    refine get_44_30 C hw q_1181 dX11_act_17 ?_
    refine lv_iload_n hx hb dX11_act_20 rfl (lv_at hl 1 rfl) ?_
    obtain ⟨hc, hf⟩ := hf_ck hf
    refine ld_59 C hw hc dX11_act_21 ?_
    refine put_44_33 C hw q_1184 dX11_act_22 (fun H locs hw => ?_)
    refine nm_S hf hw (fun S3 hf hw => ?_)
    refine lv_aload_n hx hb dX11_act_25 rfl (lv_at hl 0 rfl) ?_
    refine lv_iload_n hx hb dX11_act_26 rfl (lv_at hl 1 rfl) ?_
    refine put_44_34 C hw q_1185 dX11_act_27 (fun H locs hw => ?_)
    refine nm_S hf hw (fun S4 hf hw => ?_)
    refine lv_iload_n hx hb dX11_act_30 rfl (lv_at hl 2 rfl) ?_
    by_cases q0 : p2 = 0
    · have hf := hf_t q0 hf
      refine lv_tableIn (off := 29) (tgt := 60) hx hb dX11_act_31 (by rw [q0]; decide) (by rw [q0]; decide) (by rw [q0]; rfl) (by decide) ?_
      refine lv_aload_n hx hb dX11_act_60 rfl (lv_at hl 0 rfl) ?_
      refine lv_aload_n hx hb dX11_act_61 rfl (lv_at hl 0 rfl) ?_
      refine get_44_33 C hw q_1184 dX11_act_62 ?_
      refine lv_iload_n hx hb dX11_act_65 rfl (lv_at hl 3 rfl) ?_
      obtain ⟨r6, S5, hr, hf⟩ := hf_2 hf
      refine inv_Vi (q0 := 44) (ci := 11) (As := [.int (gi S4 44 33), .int p3]) lk_X11_290 C hw rfl rfl rfl (t_Mo_holdsAs hr) rfl hl.1 dX11_act_66 rfl (by omega) (by decide) (Nat.le_of_ble_eq_true rfl) rfl (fun H locs hw => ?_)
      exact ret_iS C hw dX11_act_69 hf
    have hf := hf_f q0 hf
    by_cases q1 : p2 = 1
    · have hf := hf_t q1 hf
      refine lv_tableIn (off := 39) (tgt := 70) hx hb dX11_act_31 (by rw [q1]; decide) (by rw [q1]; decide) (by rw [q1]; rfl) (by decide) ?_
      refine lv_aload_n hx hb dX11_act_70 rfl (lv_at hl 0 rfl) ?_
      refine lv_aload_n hx hb dX11_act_71 rfl (lv_at hl 0 rfl) ?_
      refine get_44_33 C hw q_1184 dX11_act_72 ?_
      refine lv_iload_n hx hb dX11_act_75 rfl (lv_at hl 3 rfl) ?_
      obtain ⟨r8, S7, hr, hf⟩ := hf_2 hf
      refine inv_Vi (q0 := 44) (ci := 11) (As := [.int (gi S4 44 33), .int p3]) lk_X11_296 C hw rfl rfl rfl (t_Mo_ridesAs hr) rfl hl.1 dX11_act_76 rfl (by omega) (by decide) (Nat.le_of_ble_eq_true rfl) rfl (fun H locs hw => ?_)
      exact ret_iS C hw dX11_act_79 hf
    have hf := hf_f q1 hf
    by_cases q2 : p2 = 2
    · have hf := hf_t q2 hf
      refine lv_tableIn (off := 49) (tgt := 80) hx hb dX11_act_31 (by rw [q2]; decide) (by rw [q2]; decide) (by rw [q2]; rfl) (by decide) ?_
      refine lv_aload_n hx hb dX11_act_80 rfl (lv_at hl 0 rfl) ?_
      refine lv_aload_n hx hb dX11_act_81 rfl (lv_at hl 0 rfl) ?_
      refine get_44_33 C hw q_1184 dX11_act_82 ?_
      refine lv_iload_n hx hb dX11_act_85 rfl (lv_at hl 3 rfl) ?_
      obtain ⟨r10, S9, hr, hf⟩ := hf_2 hf
      refine inv_Vi (q0 := 44) (ci := 11) (As := [.int (gi S4 44 33), .int p3]) lk_X11_302 C hw rfl rfl rfl (t_Mo_creaksAs hr) rfl hl.1 dX11_act_86 rfl (by omega) (by decide) (Nat.le_of_ble_eq_true rfl) rfl (fun H locs hw => ?_)
      exact ret_iS C hw dX11_act_89 hf
    have hf := hf_f q2 hf
    by_cases q3 : p2 = 3
    · have hf := hf_t q3 hf
      refine lv_tableIn (off := 59) (tgt := 90) hx hb dX11_act_31 (by rw [q3]; decide) (by rw [q3]; decide) (by rw [q3]; rfl) (by decide) ?_
      refine lv_aload_n hx hb dX11_act_90 rfl (lv_at hl 0 rfl) ?_
      refine lv_aload_n hx hb dX11_act_91 rfl (lv_at hl 0 rfl) ?_
      refine get_44_33 C hw q_1184 dX11_act_92 ?_
      refine lv_iload_n hx hb dX11_act_95 rfl (lv_at hl 3 rfl) ?_
      obtain ⟨r12, S11, hr, hf⟩ := hf_2 hf
      refine inv_Vi (q0 := 44) (ci := 11) (As := [.int (gi S4 44 33), .int p3]) lk_X11_305 C hw rfl rfl rfl (t_Mo_tellsAs hr) rfl hl.1 dX11_act_96 rfl (by omega) (by decide) (Nat.le_of_ble_eq_true rfl) rfl (fun H locs hw => ?_)
      exact ret_iS C hw dX11_act_99 hf
    have hf := hf_f q3 hf
    refine lv_tableOut (tgt := 100) hx hb dX11_act_31 (by have h0 := lv_neT (a := 0) q0 rfl; have h1 := lv_neT (a := 1) q1 rfl; have h2 := lv_neT (a := 2) q2 rfl; have h3 := lv_neT (a := 3) q3 rfl; omega) (by decide) ?_
    refine lv_iconst (v := 0) hx hb dX11_act_100 kc_0 ?_
    exact ret_iS C hw dX11_act_101 hf
  · have hf := hf_t q hf
    refine lv_iconst (v := 0) hx hb dX11_act_13 kc_0 ?_
    exact ret_iS C hw dX11_act_14 hf
end
theorem t_Mo_act {l : Launch} {V : St} {N : Nat} {S : St} {p1 : Int32} {p2 : Int32} {p3 : Int32} {r : Int32} {S9 : St} (hf : Mo_act N S p1 p2 p3 = some (r, S9)) : Ct l (wM V) yX11_act cX11_act 4 (some .int) (N + 3) (fun E => [.ref (ea E 44), .int p1, .int p2, .int p3]) S (fun E => some (.int r)) S9 :=
  ofBlock (by decide +kernel) (fun _ => Nat.le_of_ble_eq_true rfl) (fun E p e s m args below meth c ls C hw hl => w_Mo_act C hw hl hf)
theorem dX11_trace_0 : decode cX11_trace 0 = .ok (.iload_n 1, 1) := by decide +kernel
theorem dX11_trace_1 : decode cX11_trace 1 = .ok (.ifCond .lt 26, 3) := by decide +kernel
theorem dX11_trace_4 : decode cX11_trace 4 = .ok (.iload_n 1, 1) := by decide +kernel
theorem dX11_trace_5 : decode cX11_trace 5 = .ok (.aload_n 0, 1) := by decide +kernel
theorem dX11_trace_6 : decode cX11_trace 6 = .ok (.getfield 283, 3) := by decide +kernel
theorem dX11_trace_9 : decode cX11_trace 9 = .ok (.if_icmp .ge 18, 3) := by decide +kernel
theorem dX11_trace_12 : decode cX11_trace 12 = .ok (.iload_n 1, 1) := by decide +kernel
theorem dX11_trace_13 : decode cX11_trace 13 = .ok (.bipush 24, 2) := by decide +kernel
theorem dX11_trace_15 : decode cX11_trace 15 = .ok (.if_icmp .ge 12, 3) := by decide +kernel
theorem dX11_trace_18 : decode cX11_trace 18 = .ok (.aload_n 0, 1) := by decide +kernel
theorem dX11_trace_19 : decode cX11_trace 19 = .ok (.getfield 55, 3) := by decide +kernel
theorem dX11_trace_22 : decode cX11_trace 22 = .ok (.iload_n 1, 1) := by decide +kernel
theorem dX11_trace_23 : decode cX11_trace 23 = .ok (.iaload, 1) := by decide +kernel
theorem dX11_trace_24 : decode cX11_trace 24 = .ok (.goto 4, 3) := by decide +kernel
theorem dX11_trace_27 : decode cX11_trace 27 = .ok (.iconst (-1), 1) := by decide +kernel
theorem dX11_trace_28 : decode cX11_trace 28 = .ok (.ireturn, 1) := by decide +kernel
section
variable {p : Program} {l : Launch} {e : Env} {s : State} {m : MethodId} {args : Array Value} {below : List Frame} {meth : Method} {c : Code} {H : Heap} {locs : List Loc} {E : Ev} {S V : St} {ls : Array Slot}
set_option maxRecDepth 20000 in
theorem w_Mo_trace {p1 : Int32} {r : Int32} (C : Cx p s m args meth c E cX11_trace 2 RX11 (some .int)) (hw : Wd E (wM V E) s.heap S H locs) (hl : lv_has ls 2 [(0, .ref (ea E 44)), (1, .int p1)]) (hf : Mo_trace S p1 = some r) : W p l e (rmh 1) s m args below meth c H locs 0 0 (MQ below (QW E (wM V E) (some (.int r)) S) args s 0 0 (eA E)) (F0 m 0 ls []) := by
  have hx := C.1
  have hb := C.2.1
  unfold Mo_trace at hf
  refine lv_iload_n hx hb dX11_trace_0 rfl (lv_at hl 1 rfl) ?_
  refine lv_if_lt (tgt := 27) hx hb dX11_trace_1 (by decide) (fun q => ?_) (fun q => ?_)
  · have hf := hf_t q hf
    refine lv_iconst (v := -1) hx hb dX11_trace_27 kc_m1 ?_
    exact ret_i C hw dX11_trace_28 hf
  · have hf := hf_f q hf
    refine lv_iload_n hx hb dX11_trace_4 rfl (lv_at hl 1 rfl) ?_
    refine lv_aload_n hx hb dX11_trace_5 rfl (lv_at hl 0 rfl) ?_
    refine get_44_32 C hw q_1183 dX11_trace_6 ?_
    refine lv_icmp_ge (tgt := 27) hx hb dX11_trace_9 (by decide) (fun q => ?_) (fun q => ?_)
    · have hf := hf_t q hf
      refine lv_iconst (v := -1) hx hb dX11_trace_27 kc_m1 ?_
      exact ret_i C hw dX11_trace_28 hf
    · have hf := hf_f q hf
      refine lv_iload_n hx hb dX11_trace_12 rfl (lv_at hl 1 rfl) ?_
      refine lv_bipush (v := 24) hx hb dX11_trace_13 kb_24 ?_
      refine lv_icmp_ge (tgt := 27) hx hb dX11_trace_15 (by decide) (fun q => ?_) (fun q => ?_)
      · have hf := hf_t q hf
        refine lv_iconst (v := -1) hx hb dX11_trace_27 kc_m1 ?_
        exact ret_i C hw dX11_trace_28 hf
      · have hf := hf_f q hf
        refine lv_aload_n hx hb dX11_trace_18 rfl (lv_at hl 0 rfl) ?_
        refine get_44_31 C hw q_1182 dX11_trace_19 ?_
        refine lv_iload_n hx hb dX11_trace_22 rfl (lv_at hl 1 rfl) ?_
        obtain ⟨hc, hf⟩ := hf_ck hf
        refine ld_60 C hw hc dX11_trace_23 ?_
        refine lv_goto (tgt := 28) hx hb dX11_trace_24 (by decide) ?_
        exact ret_i C hw dX11_trace_28 hf
end
theorem t_Mo_trace {l : Launch} {V : St} {S : St} {p1 : Int32} {r : Int32} (hf : Mo_trace S p1 = some r) : Ct l (wM V) yX11_trace cX11_trace 2 (some .int) 1 (fun E => [.ref (ea E 44), .int p1]) S (fun E => some (.int r)) S :=
  ofBlock (by decide +kernel) (fun _ => Nat.le_of_ble_eq_true rfl) (fun E p e s m args below meth c ls C hw hl => w_Mo_trace C hw hl hf)
theorem dX11_keep_0 : decode cX11_keep 0 = .ok (.iload_n 1, 1) := by decide +kernel
theorem dX11_keep_1 : decode cX11_keep 1 = .ok (.invokestatic 114, 3) := by decide +kernel
theorem dX11_keep_4 : decode cX11_keep 4 = .ok (.ifCond .eq 16, 3) := by decide +kernel
theorem dX11_keep_7 : decode cX11_keep 7 = .ok (.iload_n 2, 1) := by decide +kernel
theorem dX11_keep_8 : decode cX11_keep 8 = .ok (.iconst (-1), 1) := by decide +kernel
theorem dX11_keep_9 : decode cX11_keep 9 = .ok (.if_icmp .eq 13, 3) := by decide +kernel
theorem dX11_keep_12 : decode cX11_keep 12 = .ok (.aload_n 0, 1) := by decide +kernel
theorem dX11_keep_13 : decode cX11_keep 13 = .ok (.iload_n 2, 1) := by decide +kernel
theorem dX11_keep_14 : decode cX11_keep 14 = .ok (.invokevirtual 308, 3) := by decide +kernel
theorem dX11_keep_17 : decode cX11_keep 17 = .ok (.ifCond .ne 5, 3) := by decide +kernel
theorem dX11_keep_20 : decode cX11_keep 20 = .ok (.iconst (-1), 1) := by decide +kernel
theorem dX11_keep_21 : decode cX11_keep 21 = .ok (.ireturn, 1) := by decide +kernel
theorem dX11_keep_22 : decode cX11_keep 22 = .ok (.aload_n 0, 1) := by decide +kernel
theorem dX11_keep_23 : decode cX11_keep 23 = .ok (.getfield 58, 3) := by decide +kernel
theorem dX11_keep_26 : decode cX11_keep 26 = .ok (.iload_n 1, 1) := by decide +kernel
theorem dX11_keep_27 : decode cX11_keep 27 = .ok (.iload_n 2, 1) := by decide +kernel
theorem dX11_keep_28 : decode cX11_keep 28 = .ok (.iastore, 1) := by decide +kernel
theorem dX11_keep_29 : decode cX11_keep 29 = .ok (.aload_n 0, 1) := by decide +kernel
theorem dX11_keep_30 : decode cX11_keep 30 = .ok (.getfield 61, 3) := by decide +kernel
theorem dX11_keep_33 : decode cX11_keep 33 = .ok (.iload_n 1, 1) := by decide +kernel
theorem dX11_keep_34 : decode cX11_keep 34 = .ok (.iconst 0, 1) := by decide +kernel
theorem dX11_keep_35 : decode cX11_keep 35 = .ok (.iastore, 1) := by decide +kernel
theorem dX11_keep_36 : decode cX11_keep 36 = .ok (.iconst 1, 1) := by decide +kernel
theorem dX11_keep_37 : decode cX11_keep 37 = .ok (.ireturn, 1) := by decide +kernel
section
variable {p : Program} {l : Launch} {e : Env} {s : State} {m : MethodId} {args : Array Value} {below : List Frame} {meth : Method} {c : Code} {H : Heap} {locs : List Loc} {E : Ev} {S V : St} {ls : Array Slot}
set_option maxRecDepth 20000 in
theorem w_Mo_keep_b22 {l1 : Int32} {l2 : Int32} {r : Int32} {S9 : St} (C : Cx p s m args meth c E cX11_keep 3 RX11 (some .int)) (hw : Wd E (wM V E) s.heap S H locs) (hl : lv_has ls 3 [(0, .ref (ea E 44)), (1, .int l1), (2, .int l2)]) (hf : Mo_keep_b22 S l1 l2 = some (r, S9)) : W p l e (rmh 3) s m args below meth c H locs 0 0 (MQ below (QW E (wM V E) (some (.int r)) S9) args s 0 0 (eA E)) (F0 m 22 ls []) := by
  have hx := C.1
  have hb := C.2.1
  unfold Mo_keep_b22 at hf
  refine lv_aload_n hx hb dX11_keep_22 rfl (lv_at hl 0 rfl) ?_
  refine get_44_35 C hw q_1186 dX11_keep_23 ?_
  refine lv_iload_n hx hb dX11_keep_26 rfl (lv_at hl 1 rfl) ?_
  refine lv_iload_n hx hb dX11_keep_27 rfl (lv_at hl 2 rfl) ?_
  obtain ⟨hc, hf⟩ := hf_ck hf
  refine st_61 C hw hc dX11_keep_28 (fun H locs hw => ?_)
  refine nm_S hf hw (fun S1 hf hw => ?_)
  refine lv_aload_n hx hb dX11_keep_29 rfl (lv_at hl 0 rfl) ?_
  refine get_44_36 C hw q_1187 dX11_keep_30 ?_
  refine lv_iload_n hx hb dX11_keep_33 rfl (lv_at hl 1 rfl) ?_
  refine lv_iconst (v := 0) hx hb dX11_keep_34 kc_0 ?_
  obtain ⟨hc, hf⟩ := hf_ck hf
  refine st_62 C hw hc dX11_keep_35 (fun H locs hw => ?_)
  refine nm_S hf hw (fun S2 hf hw => ?_)
  refine lv_iconst (v := 1) hx hb dX11_keep_36 kc_1 ?_
  exact ret_iS C hw dX11_keep_37 hf
set_option maxRecDepth 20000 in
theorem w_Mo_keep {p1 : Int32} {p2 : Int32} {r : Int32} {S9 : St} (C : Cx p s m args meth c E cX11_keep 3 RX11 (some .int)) (hw : Wd E (wM V E) s.heap S H locs) (hl : lv_has ls 3 [(0, .ref (ea E 44)), (1, .int p1), (2, .int p2)]) (hf : Mo_keep S p1 p2 = some (r, S9)) : W p l e (rmh 3) s m args below meth c H locs 0 0 (MQ below (QW E (wM V E) (some (.int r)) S9) args s 0 0 (eA E)) (F0 m 0 ls []) := by
  have hx := C.1
  have hb := C.2.1
  unfold Mo_keep at hf
  refine lv_iload_n hx hb dX11_keep_0 rfl (lv_at hl 1 rfl) ?_
  obtain ⟨r1, hr, hf⟩ := hf_1 hf
  refine inv_Si (As := [.int p1]) lk_X11_114 C hw (t_Mo_isShelf hr) hl.1 dX11_keep_1 rfl (Nat.le_of_ble_eq_true rfl) (by decide) (Nat.le_of_ble_eq_true rfl) rfl (fun H locs hw => ?_)
  refine lv_if_eq (tgt := 20) hx hb dX11_keep_4 (by decide) (fun q => ?_) (fun q => ?_)
  · have hf := hf_t q hf
    refine lv_iconst (v := -1) hx hb dX11_keep_20 kc_m1 ?_
    exact ret_iS C hw dX11_keep_21 hf
  · have hf := hf_f q hf
    refine lv_iload_n hx hb dX11_keep_7 rfl (lv_at hl 2 rfl) ?_
    refine lv_iconst (v := -1) hx hb dX11_keep_8 kc_m1 ?_
    refine lv_icmp_eq (tgt := 22) hx hb dX11_keep_9 (by decide) (fun q => ?_) (fun q => ?_)
    · have hf := hf_t q hf
      exact w_Mo_keep_b22 C hw (lv_sub hl [0, 1, 2] rfl) hf
    · have hf := hf_f q hf
      refine lv_aload_n hx hb dX11_keep_12 rfl (lv_at hl 0 rfl) ?_
      refine lv_iload_n hx hb dX11_keep_13 rfl (lv_at hl 2 rfl) ?_
      obtain ⟨r2, hr, hf⟩ := hf_1 hf
      refine inv_Vi (q0 := 44) (ci := 11) (As := [.int p2]) lk_X11_308 C hw rfl rfl rfl (t_Mo_isBody hr) rfl hl.1 dX11_keep_14 rfl (Nat.le_of_ble_eq_true rfl) (by decide) (Nat.le_of_ble_eq_true rfl) rfl (fun H locs hw => ?_)
      refine lv_if_ne (tgt := 22) hx hb dX11_keep_17 (by decide) (fun q => ?_) (fun q => ?_)
      · have hf := hf_f q hf
        exact w_Mo_keep_b22 C hw (lv_sub hl [0, 1, 2] rfl) hf
      · have hf := hf_t q hf
        refine lv_iconst (v := -1) hx hb dX11_keep_20 kc_m1 ?_
        exact ret_iS C hw dX11_keep_21 hf
end
theorem t_Mo_keep {l : Launch} {V : St} {S : St} {p1 : Int32} {p2 : Int32} {r : Int32} {S9 : St} (hf : Mo_keep S p1 p2 = some (r, S9)) : Ct l (wM V) yX11_keep cX11_keep 3 (some .int) 3 (fun E => [.ref (ea E 44), .int p1, .int p2]) S (fun E => some (.int r)) S9 :=
  ofBlock (by decide +kernel) (fun _ => Nat.le_of_ble_eq_true rfl) (fun E p e s m args below meth c ls C hw hl => w_Mo_keep C hw hl hf)
