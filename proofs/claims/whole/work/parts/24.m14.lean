theorem dX11_wrong_0 : decode cX11_wrong 0 = .ok (.aload_n 0, 1) := by decide +kernel
theorem dX11_wrong_1 : decode cX11_wrong 1 = .ok (.aload_n 0, 1) := by decide +kernel
theorem dX11_wrong_2 : decode cX11_wrong 2 = .ok (.getfield 157, 3) := by decide +kernel
theorem dX11_wrong_5 : decode cX11_wrong 5 = .ok (.ifCond .ge 10, 3) := by decide +kernel
theorem dX11_wrong_8 : decode cX11_wrong 8 = .ok (.aload_n 0, 1) := by decide +kernel
theorem dX11_wrong_9 : decode cX11_wrong 9 = .ok (.getfield 148, 3) := by decide +kernel
theorem dX11_wrong_12 : decode cX11_wrong 12 = .ok (.goto 7, 3) := by decide +kernel
theorem dX11_wrong_15 : decode cX11_wrong 15 = .ok (.aload_n 0, 1) := by decide +kernel
theorem dX11_wrong_16 : decode cX11_wrong 16 = .ok (.getfield 157, 3) := by decide +kernel
theorem dX11_wrong_19 : decode cX11_wrong 19 = .ok (.putfield 157, 3) := by decide +kernel
theorem dX11_wrong_22 : decode cX11_wrong 22 = .ok (.iconst 0, 1) := by decide +kernel
theorem dX11_wrong_23 : decode cX11_wrong 23 = .ok (.ireturn, 1) := by decide +kernel
def Mo_wrong (S : St) : Option (Int32 × St) :=
  if 0 ≤ (gi S 44 17) then
    nm (si S 44 17 (gi S 44 17)) fun S1 =>
    some ((0 : Int32), S1)
  else
    nm (si S 44 17 (gi S 44 15)) fun S2 =>
    some ((0 : Int32), S2)
section
variable {p : Program} {l : Launch} {e : Env} {s : State} {m : MethodId} {args : Array Value} {below : List Frame} {meth : Method} {c : Code} {H : Heap} {locs : List Loc} {E : Ev} {S V : St} {ls : Array Slot}
set_option maxRecDepth 20000 in
theorem w_Mo_wrong {r : Int32} {S9 : St} (C : Cx p s m args meth c E cX11_wrong 1 RX11 (some .int)) (hw : Wd E (wM V E) s.heap S H locs) (hl : lv_has ls 1 [(0, .ref (ea E 44))]) (hf : Mo_wrong S = some (r, S9)) : W p l e (rmh 1) s m args below meth c H locs 0 0 (MQ below (QW E (wM V E) (some (.int r)) S9) args s 0 0 (eA E)) (F0 m 0 ls []) := by
  have hx := C.1
  have hb := C.2.1
  unfold Mo_wrong at hf
  refine lv_aload_n hx hb dX11_wrong_0 rfl (lv_at hl 0 rfl) ?_
  refine lv_aload_n hx hb dX11_wrong_1 rfl (lv_at hl 0 rfl) ?_
  refine get_44_17 C hw q_1160 dX11_wrong_2 ?_
  refine lv_if_ge (tgt := 15) hx hb dX11_wrong_5 (by decide) (fun q => ?_) (fun q => ?_)
  · have hf := hf_t q hf
    refine lv_aload_n hx hb dX11_wrong_15 rfl (lv_at hl 0 rfl) ?_
    refine get_44_17 C hw q_1160 dX11_wrong_16 ?_
    refine put_44_17 C hw q_1160 dX11_wrong_19 (fun H locs hw => ?_)
    refine nm_S hf hw (fun S1 hf hw => ?_)
    refine lv_iconst (v := 0) hx hb dX11_wrong_22 kc_0 ?_
    exact ret_iS C hw dX11_wrong_23 hf
  · have hf := hf_f q hf
    refine lv_aload_n hx hb dX11_wrong_8 rfl (lv_at hl 0 rfl) ?_
    refine get_44_15 C hw q_1158 dX11_wrong_9 ?_
    refine lv_goto (tgt := 19) hx hb dX11_wrong_12 (by decide) ?_
    refine put_44_17 C hw q_1160 dX11_wrong_19 (fun H locs hw => ?_)
    refine nm_S hf hw (fun S2 hf hw => ?_)
    refine lv_iconst (v := 0) hx hb dX11_wrong_22 kc_0 ?_
    exact ret_iS C hw dX11_wrong_23 hf
end
theorem t_Mo_wrong {l : Launch} {V : St} {S : St} {r : Int32} {S9 : St} (hf : Mo_wrong S = some (r, S9)) : Ct l (wM V) yX11_wrong cX11_wrong 1 (some .int) 1 (fun E => [.ref (ea E 44)]) S (fun E => some (.int r)) S9 :=
  ofBlock (by decide +kernel) (fun _ => Nat.le_of_ble_eq_true rfl) (fun E p e s m args below meth c ls C hw hl => w_Mo_wrong C hw hl hf)
theorem dX11_takes_0 : decode cX11_takes 0 = .ok (.aload_n 0, 1) := by decide +kernel
theorem dX11_takes_1 : decode cX11_takes 1 = .ok (.getfield 157, 3) := by decide +kernel
theorem dX11_takes_4 : decode cX11_takes 4 = .ok (.ifCond .ge 11, 3) := by decide +kernel
theorem dX11_takes_7 : decode cX11_takes 7 = .ok (.aload_n 0, 1) := by decide +kernel
theorem dX11_takes_8 : decode cX11_takes 8 = .ok (.invokevirtual 160, 3) := by decide +kernel
theorem dX11_takes_11 : decode cX11_takes 11 = .ok (.iload_n 1, 1) := by decide +kernel
theorem dX11_takes_12 : decode cX11_takes 12 = .ok (.if_icmp .eq 5, 3) := by decide +kernel
theorem dX11_takes_15 : decode cX11_takes 15 = .ok (.iconst 0, 1) := by decide +kernel
theorem dX11_takes_16 : decode cX11_takes 16 = .ok (.ireturn, 1) := by decide +kernel
theorem dX11_takes_17 : decode cX11_takes 17 = .ok (.aload_n 0, 1) := by decide +kernel
theorem dX11_takes_18 : decode cX11_takes 18 = .ok (.dup, 1) := by decide +kernel
theorem dX11_takes_19 : decode cX11_takes 19 = .ok (.getfield 148, 3) := by decide +kernel
theorem dX11_takes_22 : decode cX11_takes 22 = .ok (.iconst 1, 1) := by decide +kernel
theorem dX11_takes_23 : decode cX11_takes 23 = .ok (.iadd, 1) := by decide +kernel
theorem dX11_takes_24 : decode cX11_takes 24 = .ok (.putfield 148, 3) := by decide +kernel
theorem dX11_takes_27 : decode cX11_takes 27 = .ok (.iconst 1, 1) := by decide +kernel
theorem dX11_takes_28 : decode cX11_takes 28 = .ok (.ireturn, 1) := by decide +kernel
def Mo_takes (S : St) (p1 : Int32) : Option (Int32 × St) :=
  if 0 ≤ (gi S 44 17) then
    some ((0 : Int32), S)
  else
    bd1 (Mo_byteAt S) fun r1 =>
    if r1 = p1 then
      nm (si S 44 15 ((gi S 44 15) + (1 : Int32))) fun S2 =>
      some ((1 : Int32), S2)
    else
      some ((0 : Int32), S)
section
variable {p : Program} {l : Launch} {e : Env} {s : State} {m : MethodId} {args : Array Value} {below : List Frame} {meth : Method} {c : Code} {H : Heap} {locs : List Loc} {E : Ev} {S V : St} {ls : Array Slot}
set_option maxRecDepth 20000 in
theorem w_Mo_takes {p1 : Int32} {r : Int32} {S9 : St} (C : Cx p s m args meth c E cX11_takes 2 RX11 (some .boolean)) (hw : Wd E (wM V E) s.heap S H locs) (hl : lv_has ls 2 [(0, .ref (ea E 44)), (1, .int p1)]) (hf : Mo_takes S p1 = some (r, S9)) : W p l e (rmh 2) s m args below meth c H locs 0 0 (MQ below (QW E (wM V E) (some (.int r)) S9) args s 0 0 (eA E)) (F0 m 0 ls []) := by
  have hx := C.1
  have hb := C.2.1
  unfold Mo_takes at hf
  refine lv_aload_n hx hb dX11_takes_0 rfl (lv_at hl 0 rfl) ?_
  refine get_44_17 C hw q_1160 dX11_takes_1 ?_
  refine lv_if_ge (tgt := 15) hx hb dX11_takes_4 (by decide) (fun q => ?_) (fun q => ?_)
  · have hf := hf_t q hf
    refine lv_iconst (v := 0) hx hb dX11_takes_15 kc_0 ?_
    exact ret_zS rfl C hw dX11_takes_16 hf
  · have hf := hf_f q hf
    refine lv_aload_n hx hb dX11_takes_7 rfl (lv_at hl 0 rfl) ?_
    obtain ⟨r1, hr, hf⟩ := hf_1 hf
    refine inv_Vi (q0 := 44) (ci := 11) (As := []) lk_X11_160 C hw rfl rfl rfl (t_Mo_byteAt hr) rfl hl.1 dX11_takes_8 rfl (Nat.le_of_ble_eq_true rfl) (by decide) (Nat.le_of_ble_eq_true rfl) rfl (fun H locs hw => ?_)
    refine lv_iload_n hx hb dX11_takes_11 rfl (lv_at hl 1 rfl) ?_
    refine lv_icmp_eq (tgt := 17) hx hb dX11_takes_12 (by decide) (fun q => ?_) (fun q => ?_)
    · have hf := hf_t q hf
      refine lv_aload_n hx hb dX11_takes_17 rfl (lv_at hl 0 rfl) ?_
      refine lv_dup hx hb dX11_takes_18 rfl ?_
      refine get_44_15 C hw q_1158 dX11_takes_19 ?_
      refine lv_iconst (v := 1) hx hb dX11_takes_22 kc_1 ?_
      refine lv_iadd hx hb dX11_takes_23 ?_
      refine put_44_15 C hw q_1158 dX11_takes_24 (fun H locs hw => ?_)
      refine nm_S hf hw (fun S2 hf hw => ?_)
      refine lv_iconst (v := 1) hx hb dX11_takes_27 kc_1 ?_
      exact ret_zS rfl C hw dX11_takes_28 hf
    · have hf := hf_f q hf
      refine lv_iconst (v := 0) hx hb dX11_takes_15 kc_0 ?_
      exact ret_zS rfl C hw dX11_takes_16 hf
end
theorem t_Mo_takes {l : Launch} {V : St} {S : St} {p1 : Int32} {r : Int32} {S9 : St} (hf : Mo_takes S p1 = some (r, S9)) : Ct l (wM V) yX11_takes cX11_takes 2 (some .boolean) 2 (fun E => [.ref (ea E 44), .int p1]) S (fun E => some (.int r)) S9 :=
  ofBlock (by decide +kernel) (fun _ => Nat.le_of_ble_eq_true rfl) (fun E p e s m args below meth c ls C hw hl => w_Mo_takes C hw hl hf)
theorem dX11_nameOf_0 : decode cX11_nameOf 0 = .ok (.iload_n 0, 1) := by decide +kernel
theorem dX11_nameOf_1 : decode cX11_nameOf 1 = .ok (.tableswitch 99 99 116 #[91, 99, 99, 99, 99, 99, 99, 99, 99, 89, 99, 99, 87, 97, 99, 93, 99, 95], 87) := by decide +kernel
theorem dX11_nameOf_88 : decode cX11_nameOf 88 = .ok (.iconst 0, 1) := by decide +kernel
theorem dX11_nameOf_89 : decode cX11_nameOf 89 = .ok (.ireturn, 1) := by decide +kernel
theorem dX11_nameOf_90 : decode cX11_nameOf 90 = .ok (.iconst 1, 1) := by decide +kernel
theorem dX11_nameOf_91 : decode cX11_nameOf 91 = .ok (.ireturn, 1) := by decide +kernel
theorem dX11_nameOf_92 : decode cX11_nameOf 92 = .ok (.iconst 2, 1) := by decide +kernel
theorem dX11_nameOf_93 : decode cX11_nameOf 93 = .ok (.ireturn, 1) := by decide +kernel
theorem dX11_nameOf_94 : decode cX11_nameOf 94 = .ok (.iconst 3, 1) := by decide +kernel
theorem dX11_nameOf_95 : decode cX11_nameOf 95 = .ok (.ireturn, 1) := by decide +kernel
theorem dX11_nameOf_96 : decode cX11_nameOf 96 = .ok (.iconst 4, 1) := by decide +kernel
theorem dX11_nameOf_97 : decode cX11_nameOf 97 = .ok (.ireturn, 1) := by decide +kernel
theorem dX11_nameOf_98 : decode cX11_nameOf 98 = .ok (.iconst 5, 1) := by decide +kernel
theorem dX11_nameOf_99 : decode cX11_nameOf 99 = .ok (.ireturn, 1) := by decide +kernel
theorem dX11_nameOf_100 : decode cX11_nameOf 100 = .ok (.iconst (-1), 1) := by decide +kernel
theorem dX11_nameOf_101 : decode cX11_nameOf 101 = .ok (.ireturn, 1) := by decide +kernel
def Mo_nameOf (S : St) (p1 : Int32) : Option Int32 :=
  if p1 = 99 then
    some (2 : Int32)
  else
  if p1 = 100 then
    some (-1 : Int32)
  else
  if p1 = 101 then
    some (-1 : Int32)
  else
  if p1 = 102 then
    some (-1 : Int32)
  else
  if p1 = 103 then
    some (-1 : Int32)
  else
  if p1 = 104 then
    some (-1 : Int32)
  else
  if p1 = 105 then
    some (-1 : Int32)
  else
  if p1 = 106 then
    some (-1 : Int32)
  else
  if p1 = 107 then
    some (-1 : Int32)
  else
  if p1 = 108 then
    some (1 : Int32)
  else
  if p1 = 109 then
    some (-1 : Int32)
  else
  if p1 = 110 then
    some (-1 : Int32)
  else
  if p1 = 111 then
    some (0 : Int32)
  else
  if p1 = 112 then
    some (5 : Int32)
  else
  if p1 = 113 then
    some (-1 : Int32)
  else
  if p1 = 114 then
    some (3 : Int32)
  else
  if p1 = 115 then
    some (-1 : Int32)
  else
  if p1 = 116 then
    some (4 : Int32)
  else
  some (-1 : Int32)
section
variable {p : Program} {l : Launch} {e : Env} {s : State} {m : MethodId} {args : Array Value} {below : List Frame} {meth : Method} {c : Code} {H : Heap} {locs : List Loc} {E : Ev} {S V : St} {ls : Array Slot}
set_option maxRecDepth 20000 in
theorem w_Mo_nameOf {p1 : Int32} {r : Int32} (C : Cx p s m args meth c E cX11_nameOf 1 RX11 (some .int)) (hw : Wd E (wM V E) s.heap S H locs) (hl : lv_has ls 1 [(0, .int p1)]) (hf : Mo_nameOf S p1 = some r) : W p l e (rmh 1) s m args below meth c H locs 0 0 (MQ below (QW E (wM V E) (some (.int r)) S) args s 0 0 (eA E)) (F0 m 0 ls []) := by
  have hx := C.1
  have hb := C.2.1
  unfold Mo_nameOf at hf
  refine lv_iload_n hx hb dX11_nameOf_0 rfl (lv_at hl 0 rfl) ?_
  by_cases q0 : p1 = 99
  · have hf := hf_t q0 hf
    refine lv_tableIn (off := 91) (tgt := 92) hx hb dX11_nameOf_1 (by rw [q0]; decide) (by rw [q0]; decide) (by rw [q0]; rfl) (by decide) ?_
    refine lv_iconst (v := 2) hx hb dX11_nameOf_92 kc_2 ?_
    exact ret_i C hw dX11_nameOf_93 hf
  have hf := hf_f q0 hf
  by_cases q1 : p1 = 100
  · have hf := hf_t q1 hf
    refine lv_tableIn (off := 99) (tgt := 100) hx hb dX11_nameOf_1 (by rw [q1]; decide) (by rw [q1]; decide) (by rw [q1]; rfl) (by decide) ?_
    refine lv_iconst (v := -1) hx hb dX11_nameOf_100 kc_m1 ?_
    exact ret_i C hw dX11_nameOf_101 hf
  have hf := hf_f q1 hf
  by_cases q2 : p1 = 101
  · have hf := hf_t q2 hf
    refine lv_tableIn (off := 99) (tgt := 100) hx hb dX11_nameOf_1 (by rw [q2]; decide) (by rw [q2]; decide) (by rw [q2]; rfl) (by decide) ?_
    refine lv_iconst (v := -1) hx hb dX11_nameOf_100 kc_m1 ?_
    exact ret_i C hw dX11_nameOf_101 hf
  have hf := hf_f q2 hf
  by_cases q3 : p1 = 102
  · have hf := hf_t q3 hf
    refine lv_tableIn (off := 99) (tgt := 100) hx hb dX11_nameOf_1 (by rw [q3]; decide) (by rw [q3]; decide) (by rw [q3]; rfl) (by decide) ?_
    refine lv_iconst (v := -1) hx hb dX11_nameOf_100 kc_m1 ?_
    exact ret_i C hw dX11_nameOf_101 hf
  have hf := hf_f q3 hf
  by_cases q4 : p1 = 103
  · have hf := hf_t q4 hf
    refine lv_tableIn (off := 99) (tgt := 100) hx hb dX11_nameOf_1 (by rw [q4]; decide) (by rw [q4]; decide) (by rw [q4]; rfl) (by decide) ?_
    refine lv_iconst (v := -1) hx hb dX11_nameOf_100 kc_m1 ?_
    exact ret_i C hw dX11_nameOf_101 hf
  have hf := hf_f q4 hf
  by_cases q5 : p1 = 104
  · have hf := hf_t q5 hf
    refine lv_tableIn (off := 99) (tgt := 100) hx hb dX11_nameOf_1 (by rw [q5]; decide) (by rw [q5]; decide) (by rw [q5]; rfl) (by decide) ?_
    refine lv_iconst (v := -1) hx hb dX11_nameOf_100 kc_m1 ?_
    exact ret_i C hw dX11_nameOf_101 hf
  have hf := hf_f q5 hf
  by_cases q6 : p1 = 105
  · have hf := hf_t q6 hf
    refine lv_tableIn (off := 99) (tgt := 100) hx hb dX11_nameOf_1 (by rw [q6]; decide) (by rw [q6]; decide) (by rw [q6]; rfl) (by decide) ?_
    refine lv_iconst (v := -1) hx hb dX11_nameOf_100 kc_m1 ?_
    exact ret_i C hw dX11_nameOf_101 hf
  have hf := hf_f q6 hf
  by_cases q7 : p1 = 106
  · have hf := hf_t q7 hf
    refine lv_tableIn (off := 99) (tgt := 100) hx hb dX11_nameOf_1 (by rw [q7]; decide) (by rw [q7]; decide) (by rw [q7]; rfl) (by decide) ?_
    refine lv_iconst (v := -1) hx hb dX11_nameOf_100 kc_m1 ?_
    exact ret_i C hw dX11_nameOf_101 hf
  have hf := hf_f q7 hf
  by_cases q8 : p1 = 107
  · have hf := hf_t q8 hf
    refine lv_tableIn (off := 99) (tgt := 100) hx hb dX11_nameOf_1 (by rw [q8]; decide) (by rw [q8]; decide) (by rw [q8]; rfl) (by decide) ?_
    refine lv_iconst (v := -1) hx hb dX11_nameOf_100 kc_m1 ?_
    exact ret_i C hw dX11_nameOf_101 hf
  have hf := hf_f q8 hf
  by_cases q9 : p1 = 108
  · have hf := hf_t q9 hf
    refine lv_tableIn (off := 89) (tgt := 90) hx hb dX11_nameOf_1 (by rw [q9]; decide) (by rw [q9]; decide) (by rw [q9]; rfl) (by decide) ?_
    refine lv_iconst (v := 1) hx hb dX11_nameOf_90 kc_1 ?_
    exact ret_i C hw dX11_nameOf_91 hf
  have hf := hf_f q9 hf
  by_cases q10 : p1 = 109
  · have hf := hf_t q10 hf
    refine lv_tableIn (off := 99) (tgt := 100) hx hb dX11_nameOf_1 (by rw [q10]; decide) (by rw [q10]; decide) (by rw [q10]; rfl) (by decide) ?_
    refine lv_iconst (v := -1) hx hb dX11_nameOf_100 kc_m1 ?_
    exact ret_i C hw dX11_nameOf_101 hf
  have hf := hf_f q10 hf
  by_cases q11 : p1 = 110
  · have hf := hf_t q11 hf
    refine lv_tableIn (off := 99) (tgt := 100) hx hb dX11_nameOf_1 (by rw [q11]; decide) (by rw [q11]; decide) (by rw [q11]; rfl) (by decide) ?_
    refine lv_iconst (v := -1) hx hb dX11_nameOf_100 kc_m1 ?_
    exact ret_i C hw dX11_nameOf_101 hf
  have hf := hf_f q11 hf
  by_cases q12 : p1 = 111
  · have hf := hf_t q12 hf
    refine lv_tableIn (off := 87) (tgt := 88) hx hb dX11_nameOf_1 (by rw [q12]; decide) (by rw [q12]; decide) (by rw [q12]; rfl) (by decide) ?_
    refine lv_iconst (v := 0) hx hb dX11_nameOf_88 kc_0 ?_
    exact ret_i C hw dX11_nameOf_89 hf
  have hf := hf_f q12 hf
  by_cases q13 : p1 = 112
  · have hf := hf_t q13 hf
    refine lv_tableIn (off := 97) (tgt := 98) hx hb dX11_nameOf_1 (by rw [q13]; decide) (by rw [q13]; decide) (by rw [q13]; rfl) (by decide) ?_
    refine lv_iconst (v := 5) hx hb dX11_nameOf_98 kc_5 ?_
    exact ret_i C hw dX11_nameOf_99 hf
  have hf := hf_f q13 hf
  by_cases q14 : p1 = 113
  · have hf := hf_t q14 hf
    refine lv_tableIn (off := 99) (tgt := 100) hx hb dX11_nameOf_1 (by rw [q14]; decide) (by rw [q14]; decide) (by rw [q14]; rfl) (by decide) ?_
    refine lv_iconst (v := -1) hx hb dX11_nameOf_100 kc_m1 ?_
    exact ret_i C hw dX11_nameOf_101 hf
  have hf := hf_f q14 hf
  by_cases q15 : p1 = 114
  · have hf := hf_t q15 hf
    refine lv_tableIn (off := 93) (tgt := 94) hx hb dX11_nameOf_1 (by rw [q15]; decide) (by rw [q15]; decide) (by rw [q15]; rfl) (by decide) ?_
    refine lv_iconst (v := 3) hx hb dX11_nameOf_94 kc_3 ?_
    exact ret_i C hw dX11_nameOf_95 hf
  have hf := hf_f q15 hf
  by_cases q16 : p1 = 115
  · have hf := hf_t q16 hf
    refine lv_tableIn (off := 99) (tgt := 100) hx hb dX11_nameOf_1 (by rw [q16]; decide) (by rw [q16]; decide) (by rw [q16]; rfl) (by decide) ?_
    refine lv_iconst (v := -1) hx hb dX11_nameOf_100 kc_m1 ?_
    exact ret_i C hw dX11_nameOf_101 hf
  have hf := hf_f q16 hf
  by_cases q17 : p1 = 116
  · have hf := hf_t q17 hf
    refine lv_tableIn (off := 95) (tgt := 96) hx hb dX11_nameOf_1 (by rw [q17]; decide) (by rw [q17]; decide) (by rw [q17]; rfl) (by decide) ?_
    refine lv_iconst (v := 4) hx hb dX11_nameOf_96 kc_4 ?_
    exact ret_i C hw dX11_nameOf_97 hf
  have hf := hf_f q17 hf
  refine lv_tableOut (tgt := 100) hx hb dX11_nameOf_1 (by have h0 := lv_neT (a := 99) q0 rfl; have h1 := lv_neT (a := 100) q1 rfl; have h2 := lv_neT (a := 101) q2 rfl; have h3 := lv_neT (a := 102) q3 rfl; have h4 := lv_neT (a := 103) q4 rfl; have h5 := lv_neT (a := 104) q5 rfl; have h6 := lv_neT (a := 105) q6 rfl; have h7 := lv_neT (a := 106) q7 rfl; have h8 := lv_neT (a := 107) q8 rfl; have h9 := lv_neT (a := 108) q9 rfl; have h10 := lv_neT (a := 109) q10 rfl; have h11 := lv_neT (a := 110) q11 rfl; have h12 := lv_neT (a := 111) q12 rfl; have h13 := lv_neT (a := 112) q13 rfl; have h14 := lv_neT (a := 113) q14 rfl; have h15 := lv_neT (a := 114) q15 rfl; have h16 := lv_neT (a := 115) q16 rfl; have h17 := lv_neT (a := 116) q17 rfl; omega) (by decide) ?_
  refine lv_iconst (v := -1) hx hb dX11_nameOf_100 kc_m1 ?_
  exact ret_i C hw dX11_nameOf_101 hf
end
theorem t_Mo_nameOf {l : Launch} {V : St} {S : St} {p1 : Int32} {r : Int32} (hf : Mo_nameOf S p1 = some r) : Ct l (wM V) yX11_nameOf cX11_nameOf 1 (some .int) 1 (fun E => [.int p1]) S (fun E => some (.int r)) S :=
  ofBlock (by decide +kernel) (fun _ => Nat.le_of_ble_eq_true rfl) (fun E p e s m args below meth c ls C hw hl => w_Mo_nameOf C hw hl hf)
