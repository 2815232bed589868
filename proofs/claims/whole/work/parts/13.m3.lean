theorem dX2_ridesLaidOutWithin_0 : decode cX2_ridesLaidOutWithin 0 = .ok (.iconst 0, 1) := by decide +kernel
theorem dX2_ridesLaidOutWithin_1 : decode cX2_ridesLaidOutWithin 1 = .ok (.istore 4, 2) := by decide +kernel
theorem dX2_ridesLaidOutWithin_3 : decode cX2_ridesLaidOutWithin 3 = .ok (.iload_n 2, 1) := by decide +kernel
theorem dX2_ridesLaidOutWithin_4 : decode cX2_ridesLaidOutWithin 4 = .ok (.istore 5, 2) := by decide +kernel
theorem dX2_ridesLaidOutWithin_6 : decode cX2_ridesLaidOutWithin 6 = .ok (.iload 5, 2) := by decide +kernel
theorem dX2_ridesLaidOutWithin_8 : decode cX2_ridesLaidOutWithin 8 = .ok (.iload_n 3, 1) := by decide +kernel
theorem dX2_ridesLaidOutWithin_9 : decode cX2_ridesLaidOutWithin 9 = .ok (.if_icmp .gt 22, 3) := by decide +kernel
theorem dX2_ridesLaidOutWithin_12 : decode cX2_ridesLaidOutWithin 12 = .ok (.aload_n 0, 1) := by decide +kernel
theorem dX2_ridesLaidOutWithin_13 : decode cX2_ridesLaidOutWithin 13 = .ok (.iload_n 1, 1) := by decide +kernel
theorem dX2_ridesLaidOutWithin_14 : decode cX2_ridesLaidOutWithin 14 = .ok (.iload 5, 2) := by decide +kernel
theorem dX2_ridesLaidOutWithin_16 : decode cX2_ridesLaidOutWithin 16 = .ok (.invokevirtual 53, 3) := by decide +kernel
theorem dX2_ridesLaidOutWithin_19 : decode cX2_ridesLaidOutWithin 19 = .ok (.ifCond .eq 6, 3) := by decide +kernel
theorem dX2_ridesLaidOutWithin_22 : decode cX2_ridesLaidOutWithin 22 = .ok (.iinc 4 1, 3) := by decide +kernel
theorem dX2_ridesLaidOutWithin_25 : decode cX2_ridesLaidOutWithin 25 = .ok (.iinc 5 1, 3) := by decide +kernel
theorem dX2_ridesLaidOutWithin_28 : decode cX2_ridesLaidOutWithin 28 = .ok (.goto (-22), 3) := by decide +kernel
theorem dX2_ridesLaidOutWithin_31 : decode cX2_ridesLaidOutWithin 31 = .ok (.iload 4, 2) := by decide +kernel
theorem dX2_ridesLaidOutWithin_33 : decode cX2_ridesLaidOutWithin 33 = .ok (.ireturn, 1) := by decide +kernel
section
variable {p : Program} {l : Launch} {e : Env} {s : State} {m : MethodId} {args : Array Value} {below : List Frame} {meth : Method} {c : Code} {H : Heap} {locs : List Loc} {E : Ev} {S V : St} {ls : Array Slot}
set_option maxRecDepth 20000 in
theorem w_Dy_ridesLaidOutWithin_b6 {N : Nat} {k6 : (Int32 × Int32) → Option Int32} {l1 : Int32} {l3 : Int32} {l4 : Int32} {l5 : Int32} {r : Int32} (C : Cx p s m args meth c E cX2_ridesLaidOutWithin 6 RX2 (some .int)) (hk6 : ∀ x, k6 x = some r → ∀ (H : Heap) (locs : List Loc) (ls : Array Slot), Wd E (wX V E) s.heap S H locs → lv_has ls 6 [(0, .ref (ea E 3)), (1, .int l1), (3, .int l3), (4, .int x.1), (5, .int x.2)] → W p l e (rmh 4) s m args below meth c H locs 0 0 (MQ below (QW E (wX V E) (some (.int r)) S) args s 0 0 (eA E)) (F0 m 6 ls [])) (hw : Wd E (wX V E) s.heap S H locs) (hl : lv_has ls 6 [(0, .ref (ea E 3)), (1, .int l1), (3, .int l3), (4, .int l4), (5, .int l5)]) (hf : Dy_ridesLaidOutWithin_b6 N k6 S l1 l3 l4 l5 = some r) : W p l e (rmh 4) s m args below meth c H locs 0 0 (MQ below (QW E (wX V E) (some (.int r)) S) args s 0 0 (eA E)) (F0 m 6 ls []) := by
  have hx := C.1
  have hb := C.2.1
  unfold Dy_ridesLaidOutWithin_b6 at hf
  refine lv_iload hx hb dX2_ridesLaidOutWithin_6 (lv_at hl 4 rfl) ?_
  refine lv_iload_n hx hb dX2_ridesLaidOutWithin_8 rfl (lv_at hl 2 rfl) ?_
  refine lv_icmp_gt (tgt := 31) hx hb dX2_ridesLaidOutWithin_9 (by decide) (fun q => ?_) (fun q => ?_)
  · have hf := hf_t q hf
    refine lv_iload hx hb dX2_ridesLaidOutWithin_31 (lv_at hl 3 rfl) ?_
    exact ret_i C hw dX2_ridesLaidOutWithin_33 hf
  · have hf := hf_f q hf
    refine lv_aload_n hx hb dX2_ridesLaidOutWithin_12 rfl (lv_at hl 0 rfl) ?_
    refine lv_iload_n hx hb dX2_ridesLaidOutWithin_13 rfl (lv_at hl 1 rfl) ?_
    refine lv_iload hx hb dX2_ridesLaidOutWithin_14 (lv_at hl 4 rfl) ?_
    obtain ⟨r1, hr, hf⟩ := hf_1 hf
    refine inv_Vi (q0 := 3) (ci := 2) (As := [.int l1, .int l5]) lk_X2_53 C hw rfl rfl rfl (t_Dy_ridesLaidOut hr) rfl hl.1 dX2_ridesLaidOutWithin_16 rfl (Nat.le_of_ble_eq_true rfl) (by decide) (Nat.le_of_ble_eq_true rfl) rfl (fun H locs hw => ?_)
    refine lv_if_eq (tgt := 25) hx hb dX2_ridesLaidOutWithin_19 (by decide) (fun q => ?_) (fun q => ?_)
    · have hf := hf_t q hf
      obtain ⟨x2, ex2, hf⟩ := nme hf
      refine lv_iinc (v := x2) (lv' := [(5, .int x2), (0, .ref (ea E 3)), (1, .int l1), (3, .int l3), (4, .int l4)]) hx hb dX2_ridesLaidOutWithin_25 hl (k := 4) rfl (ki_1 ex2) (by decide) rfl (fun ls hl => ?_)
      refine lv_goto (tgt := 6) hx hb dX2_ridesLaidOutWithin_28 (by decide) ?_
      exact hk6 _ hf _ _ _ hw (lv_sub hl [1, 2, 3, 4, 0] rfl)
    · have hf := hf_f q hf
      obtain ⟨x3, ex3, hf⟩ := nme hf
      refine lv_iinc (v := x3) (lv' := [(4, .int x3), (0, .ref (ea E 3)), (1, .int l1), (3, .int l3), (5, .int l5)]) hx hb dX2_ridesLaidOutWithin_22 hl (k := 3) rfl (ki_1 ex3) (by decide) rfl (fun ls hl => ?_)
      obtain ⟨x4, ex4, hf⟩ := nme hf
      refine lv_iinc (v := x4) (lv' := [(5, .int x4), (4, .int x3), (0, .ref (ea E 3)), (1, .int l1), (3, .int l3)]) hx hb dX2_ridesLaidOutWithin_25 hl (k := 4) rfl (ki_1 ex4) (by decide) rfl (fun ls hl => ?_)
      refine lv_goto (tgt := 6) hx hb dX2_ridesLaidOutWithin_28 (by decide) ?_
      exact hk6 _ hf _ _ _ hw (lv_sub hl [2, 3, 4, 1, 0] rfl)
theorem w_Dy_ridesLaidOutWithin_L6 {N : Nat} {l1 : Int32} {l3 : Int32} {r : Int32} (C : Cx p s m args meth c E cX2_ridesLaidOutWithin 6 RX2 (some .int)) : ∀ x, Dy_ridesLaidOutWithin_L6 N S l1 l3 x = some r → ∀ (H : Heap) (locs : List Loc) (ls : Array Slot), Wd E (wX V E) s.heap S H locs → lv_has ls 6 [(0, .ref (ea E 3)), (1, .int l1), (3, .int l3), (4, .int x.1), (5, .int x.2)] → W p l e (rmh 4) s m args below meth c H locs 0 0 (MQ below (QW E (wX V E) (some (.int r)) S) args s 0 0 (eA E)) (F0 m 6 ls []) :=
  lp_W (fun k x hk hf H locs ls hw hl => w_Dy_ridesLaidOutWithin_b6 C hk hw hl hf) N
set_option maxRecDepth 20000 in
theorem w_Dy_ridesLaidOutWithin {N : Nat} {p1 : Int32} {p2 : Int32} {p3 : Int32} {r : Int32} (C : Cx p s m args meth c E cX2_ridesLaidOutWithin 6 RX2 (some .int)) (hw : Wd E (wX V E) s.heap S H locs) (hl : lv_has ls 6 [(0, .ref (ea E 3)), (1, .int p1), (2, .int p2), (3, .int p3)]) (hf : Dy_ridesLaidOutWithin N S p1 p2 p3 = some r) : W p l e (rmh 4) s m args below meth c H locs 0 0 (MQ below (QW E (wX V E) (some (.int r)) S) args s 0 0 (eA E)) (F0 m 0 ls []) := by
  have hx := C.1
  have hb := C.2.1
  unfold Dy_ridesLaidOutWithin at hf
  refine lv_iconst (v := 0) hx hb dX2_ridesLaidOutWithin_0 kc_0 ?_
  refine lv_istore (lv' := [(4, .int (0 : Int32)), (0, .ref (ea E 3)), (1, .int p1), (2, .int p2), (3, .int p3)]) hx hb dX2_ridesLaidOutWithin_1 hl (by decide) rfl (fun ls hl => ?_)
  refine lv_iload_n hx hb dX2_ridesLaidOutWithin_3 rfl (lv_at hl 3 rfl) ?_
  refine lv_istore (lv' := [(5, .int p2), (4, .int (0 : Int32)), (0, .ref (ea E 3)), (1, .int p1), (2, .int p2), (3, .int p3)]) hx hb dX2_ridesLaidOutWithin_4 hl (by decide) rfl (fun ls hl => ?_)
  exact w_Dy_ridesLaidOutWithin_L6 C _ hf _ _ _ hw (lv_sub hl [2, 3, 5, 1, 0] rfl)
end
theorem t_Dy_ridesLaidOutWithin {l : Launch} {V : St} {N : Nat} {S : St} {p1 : Int32} {p2 : Int32} {p3 : Int32} {r : Int32} (hf : Dy_ridesLaidOutWithin N S p1 p2 p3 = some r) : Ct l (wX V) yX2_ridesLaidOutWithin cX2_ridesLaidOutWithin 6 (some .int) 4 (fun E => [.ref (ea E 3), .int p1, .int p2, .int p3]) S (fun E => some (.int r)) S :=
  ofBlock (by decide +kernel) (fun _ => Nat.le_of_ble_eq_true rfl) (fun E p e s m args below meth c ls C hw hl => w_Dy_ridesLaidOutWithin C hw hl hf)
theorem dX2_ridesWithin_0 : decode cX2_ridesWithin 0 = .ok (.aload_n 0, 1) := by decide +kernel
theorem dX2_ridesWithin_1 : decode cX2_ridesWithin 1 = .ok (.iload_n 1, 1) := by decide +kernel
theorem dX2_ridesWithin_2 : decode cX2_ridesWithin 2 = .ok (.aload_n 0, 1) := by decide +kernel
theorem dX2_ridesWithin_3 : decode cX2_ridesWithin 3 = .ok (.getfield 21, 3) := by decide +kernel
theorem dX2_ridesWithin_6 : decode cX2_ridesWithin 6 = .ok (.getfield 56, 3) := by decide +kernel
theorem dX2_ridesWithin_9 : decode cX2_ridesWithin 9 = .ok (.invokevirtual 59, 3) := by decide +kernel
theorem dX2_ridesWithin_12 : decode cX2_ridesWithin 12 = .ok (.aload_n 0, 1) := by decide +kernel
theorem dX2_ridesWithin_13 : decode cX2_ridesWithin 13 = .ok (.iload_n 1, 1) := by decide +kernel
theorem dX2_ridesWithin_14 : decode cX2_ridesWithin 14 = .ok (.iload_n 2, 1) := by decide +kernel
theorem dX2_ridesWithin_15 : decode cX2_ridesWithin 15 = .ok (.iload_n 3, 1) := by decide +kernel
theorem dX2_ridesWithin_16 : decode cX2_ridesWithin 16 = .ok (.invokevirtual 63, 3) := by decide +kernel
theorem dX2_ridesWithin_19 : decode cX2_ridesWithin 19 = .ok (.ireturn, 1) := by decide +kernel
section
variable {p : Program} {l : Launch} {e : Env} {s : State} {m : MethodId} {args : Array Value} {below : List Frame} {meth : Method} {c : Code} {H : Heap} {locs : List Loc} {E : Ev} {S V : St} {ls : Array Slot}
set_option maxRecDepth 20000 in
theorem w_Dy_ridesWithin {N : Nat} {p1 : Int32} {p2 : Int32} {p3 : Int32} {r : Int32} {S9 : St} (C : Cx p s m args meth c E cX2_ridesWithin 4 RX2 (some .int)) (hw : Wd E (wX V E) s.heap S H locs) (hl : lv_has ls 4 [(0, .ref (ea E 3)), (1, .int p1), (2, .int p2), (3, .int p3)]) (hf : Dy_ridesWithin N S p1 p2 p3 = some (r, S9)) : W p l e (rmh 5) s m args below meth c H locs 0 0 (MQ below (QW E (wX V E) (some (.int r)) S9) args s 0 0 (eA E)) (F0 m 0 ls []) := by
  have hx := C.1
  have hb := C.2.1
  unfold Dy_ridesWithin at hf
  refine lv_aload_n hx hb dX2_ridesWithin_0 rfl (lv_at hl 0 rfl) ?_
  refine lv_iload_n hx hb dX2_ridesWithin_1 rfl (lv_at hl 1 rfl) ?_
  refine lv_aload_n hx hb dX2_ridesWithin_2 rfl (lv_at hl 0 rfl) ?_
  refine get_3_0 C hw q_289 dX2_ridesWithin_3 ?_
  refine get_1_7 C hw q_129 dX2_ridesWithin_6 ?_
  obtain ⟨S1, hr, hf⟩ := hf_1 hf
  refine inv_VAv (q0 := 3) (ci := 2) (As := fun E => [.int p1, .ref (ea E 18)]) lk_X2_59 C hw rfl rfl rfl (t_Dy_layOut hr) rfl hl.1 dX2_ridesWithin_9 rfl (Nat.le_of_ble_eq_true rfl) (by decide) (Nat.le_of_ble_eq_true rfl) rfl (fun H locs hw => ?_)
  refine lv_aload_n hx hb dX2_ridesWithin_12 rfl (lv_at hl 0 rfl) ?_
  refine lv_iload_n hx hb dX2_ridesWithin_13 rfl (lv_at hl 1 rfl) ?_
  refine lv_iload_n hx hb dX2_ridesWithin_14 rfl (lv_at hl 2 rfl) ?_
  refine lv_iload_n hx hb dX2_ridesWithin_15 rfl (lv_at hl 3 rfl) ?_
  obtain ⟨r2, hr, hf⟩ := hf_1 hf
  refine inv_Vi (q0 := 3) (ci := 2) (As := [.int p1, .int p2, .int p3]) lk_X2_63 C hw rfl rfl rfl (t_Dy_ridesLaidOutWithin hr) rfl hl.1 dX2_ridesWithin_16 rfl (Nat.le_of_ble_eq_true rfl) (by decide) (Nat.le_of_ble_eq_true rfl) rfl (fun H locs hw => ?_)
  exact ret_iS C hw dX2_ridesWithin_19 hf
end
theorem t_Dy_ridesWithin {l : Launch} {V : St} {N : Nat} {S : St} {p1 : Int32} {p2 : Int32} {p3 : Int32} {r : Int32} {S9 : St} (hf : Dy_ridesWithin N S p1 p2 p3 = some (r, S9)) : Ct l (wX V) yX2_ridesWithin cX2_ridesWithin 4 (some .int) 5 (fun E => [.ref (ea E 3), .int p1, .int p2, .int p3]) S (fun E => some (.int r)) S9 :=
  ofBlock (by decide +kernel) (fun _ => Nat.le_of_ble_eq_true rfl) (fun E p e s m args below meth c ls C hw hl => w_Dy_ridesWithin C hw hl hf)
theorem dX2_firstRideFrom_0 : decode cX2_firstRideFrom 0 = .ok (.aload_n 0, 1) := by decide +kernel
theorem dX2_firstRideFrom_1 : decode cX2_firstRideFrom 1 = .ok (.iload_n 1, 1) := by decide +kernel
theorem dX2_firstRideFrom_2 : decode cX2_firstRideFrom 2 = .ok (.aload_n 0, 1) := by decide +kernel
theorem dX2_firstRideFrom_3 : decode cX2_firstRideFrom 3 = .ok (.getfield 21, 3) := by decide +kernel
theorem dX2_firstRideFrom_6 : decode cX2_firstRideFrom 6 = .ok (.getfield 56, 3) := by decide +kernel
theorem dX2_firstRideFrom_9 : decode cX2_firstRideFrom 9 = .ok (.invokevirtual 59, 3) := by decide +kernel
theorem dX2_firstRideFrom_12 : decode cX2_firstRideFrom 12 = .ok (.iload_n 2, 1) := by decide +kernel
theorem dX2_firstRideFrom_13 : decode cX2_firstRideFrom 13 = .ok (.istore_n 3, 1) := by decide +kernel
theorem dX2_firstRideFrom_14 : decode cX2_firstRideFrom 14 = .ok (.iload_n 3, 1) := by decide +kernel
theorem dX2_firstRideFrom_15 : decode cX2_firstRideFrom 15 = .ok (.bipush 100, 2) := by decide +kernel
theorem dX2_firstRideFrom_17 : decode cX2_firstRideFrom 17 = .ok (.if_icmp .ge 20, 3) := by decide +kernel
theorem dX2_firstRideFrom_20 : decode cX2_firstRideFrom 20 = .ok (.aload_n 0, 1) := by decide +kernel
theorem dX2_firstRideFrom_21 : decode cX2_firstRideFrom 21 = .ok (.iload_n 1, 1) := by decide +kernel
theorem dX2_firstRideFrom_22 : decode cX2_firstRideFrom 22 = .ok (.iload_n 3, 1) := by decide +kernel
theorem dX2_firstRideFrom_23 : decode cX2_firstRideFrom 23 = .ok (.invokevirtual 53, 3) := by decide +kernel
theorem dX2_firstRideFrom_26 : decode cX2_firstRideFrom 26 = .ok (.ifCond .eq 5, 3) := by decide +kernel
theorem dX2_firstRideFrom_29 : decode cX2_firstRideFrom 29 = .ok (.iload_n 3, 1) := by decide +kernel
theorem dX2_firstRideFrom_30 : decode cX2_firstRideFrom 30 = .ok (.ireturn, 1) := by decide +kernel
theorem dX2_firstRideFrom_31 : decode cX2_firstRideFrom 31 = .ok (.iinc 3 1, 3) := by decide +kernel
theorem dX2_firstRideFrom_34 : decode cX2_firstRideFrom 34 = .ok (.goto (-20), 3) := by decide +kernel
theorem dX2_firstRideFrom_37 : decode cX2_firstRideFrom 37 = .ok (.bipush (-2), 2) := by decide +kernel
theorem dX2_firstRideFrom_39 : decode cX2_firstRideFrom 39 = .ok (.ireturn, 1) := by decide +kernel
section
variable {p : Program} {l : Launch} {e : Env} {s : State} {m : MethodId} {args : Array Value} {below : List Frame} {meth : Method} {c : Code} {H : Heap} {locs : List Loc} {E : Ev} {S V : St} {ls : Array Slot}
set_option maxRecDepth 20000 in
theorem w_Dy_firstRideFrom_b14 {N : Nat} {k14 : (Int32) → Option (Int32 × St)} {l1 : Int32} {l3 : Int32} {r : Int32} {S9 : St} (C : Cx p s m args meth c E cX2_firstRideFrom 4 RX2 (some .int)) (hk14 : ∀ x, k14 x = some (r, S9) → ∀ (H : Heap) (locs : List Loc) (ls : Array Slot), Wd E (wX V E) s.heap S H locs → lv_has ls 4 [(0, .ref (ea E 3)), (1, .int l1), (3, .int x)] → W p l e (rmh 4) s m args below meth c H locs 0 0 (MQ below (QW E (wX V E) (some (.int r)) S9) args s 0 0 (eA E)) (F0 m 14 ls [])) (hw : Wd E (wX V E) s.heap S H locs) (hl : lv_has ls 4 [(0, .ref (ea E 3)), (1, .int l1), (3, .int l3)]) (hf : Dy_firstRideFrom_b14 N k14 S l1 l3 = some (r, S9)) : W p l e (rmh 4) s m args below meth c H locs 0 0 (MQ below (QW E (wX V E) (some (.int r)) S9) args s 0 0 (eA E)) (F0 m 14 ls []) := by
  have hx := C.1
  have hb := C.2.1
  unfold Dy_firstRideFrom_b14 at hf
  refine lv_iload_n hx hb dX2_firstRideFrom_14 rfl (lv_at hl 2 rfl) ?_
  refine lv_bipush (v := 100) hx hb dX2_firstRideFrom_15 kb_100 ?_
  refine lv_icmp_ge (tgt := 37) hx hb dX2_firstRideFrom_17 (by decide) (fun q => ?_) (fun q => ?_)
  · have hf := hf_t q hf
    refine lv_bipush (v := -2) hx hb dX2_firstRideFrom_37 kb_m2 ?_
    exact ret_iS C hw dX2_firstRideFrom_39 hf
  · have hf := hf_f q hf
    refine lv_aload_n hx hb dX2_firstRideFrom_20 rfl (lv_at hl 0 rfl) ?_
    refine lv_iload_n hx hb dX2_firstRideFrom_21 rfl (lv_at hl 1 rfl) ?_
    refine lv_iload_n hx hb dX2_firstRideFrom_22 rfl (lv_at hl 2 rfl) ?_
    obtain ⟨r1, hr, hf⟩ := hf_1 hf
    refine inv_Vi (q0 := 3) (ci := 2) (As := [.int l1, .int l3]) lk_X2_53 C hw rfl rfl rfl (t_Dy_ridesLaidOut hr) rfl hl.1 dX2_firstRideFrom_23 rfl (Nat.le_of_ble_eq_true rfl) (by decide) (Nat.le_of_ble_eq_true rfl) rfl (fun H locs hw => ?_)
    refine lv_if_eq (tgt := 31) hx hb dX2_firstRideFrom_26 (by decide) (fun q => ?_) (fun q => ?_)
    · have hf := hf_t q hf
      obtain ⟨x2, ex2, hf⟩ := nme hf
      refine lv_iinc (v := x2) (lv' := [(3, .int x2), (0, .ref (ea E 3)), (1, .int l1)]) hx hb dX2_firstRideFrom_31 hl (k := 2) rfl (ki_1 ex2) (by decide) rfl (fun ls hl => ?_)
      refine lv_goto (tgt := 14) hx hb dX2_firstRideFrom_34 (by decide) ?_
      exact hk14 _ hf _ _ _ hw (lv_sub hl [1, 2, 0] rfl)
    · have hf := hf_f q hf
      refine lv_iload_n hx hb dX2_firstRideFrom_29 rfl (lv_at hl 2 rfl) ?_
      exact ret_iS C hw dX2_firstRideFrom_30 hf
theorem w_Dy_firstRideFrom_L14 {N : Nat} {l1 : Int32} {r : Int32} {S9 : St} (C : Cx p s m args meth c E cX2_firstRideFrom 4 RX2 (some .int)) : ∀ x, Dy_firstRideFrom_L14 N S l1 x = some (r, S9) → ∀ (H : Heap) (locs : List Loc) (ls : Array Slot), Wd E (wX V E) s.heap S H locs → lv_has ls 4 [(0, .ref (ea E 3)), (1, .int l1), (3, .int x)] → W p l e (rmh 4) s m args below meth c H locs 0 0 (MQ below (QW E (wX V E) (some (.int r)) S9) args s 0 0 (eA E)) (F0 m 14 ls []) :=
  lp_W (fun k x hk hf H locs ls hw hl => w_Dy_firstRideFrom_b14 C hk hw hl hf) N
set_option maxRecDepth 20000 in
theorem w_Dy_firstRideFrom {N : Nat} {p1 : Int32} {p2 : Int32} {r : Int32} {S9 : St} (C : Cx p s m args meth c E cX2_firstRideFrom 4 RX2 (some .int)) (hw : Wd E (wX V E) s.heap S H locs) (hl : lv_has ls 4 [(0, .ref (ea E 3)), (1, .int p1), (2, .int p2)]) (hf : Dy_firstRideFrom N S p1 p2 = some (r, S9)) : W p l e (rmh 4) s m args below meth c H locs 0 0 (MQ below (QW E (wX V E) (some (.int r)) S9) args s 0 0 (eA E)) (F0 m 0 ls []) := by
  have hx := C.1
  have hb := C.2.1
  unfold Dy_firstRideFrom at hf
  refine lv_aload_n hx hb dX2_firstRideFrom_0 rfl (lv_at hl 0 rfl) ?_
  refine lv_iload_n hx hb dX2_firstRideFrom_1 rfl (lv_at hl 1 rfl) ?_
  refine lv_aload_n hx hb dX2_firstRideFrom_2 rfl (lv_at hl 0 rfl) ?_
  refine get_3_0 C hw q_289 dX2_firstRideFrom_3 ?_
  refine get_1_7 C hw q_129 dX2_firstRideFrom_6 ?_
  obtain ⟨S1, hr, hf⟩ := hf_1 hf
  refine inv_VAv (q0 := 3) (ci := 2) (As := fun E => [.int p1, .ref (ea E 18)]) lk_X2_59 C hw rfl rfl rfl (t_Dy_layOut hr) rfl hl.1 dX2_firstRideFrom_9 rfl (Nat.le_of_ble_eq_true rfl) (by decide) (Nat.le_of_ble_eq_true rfl) rfl (fun H locs hw => ?_)
  refine lv_iload_n hx hb dX2_firstRideFrom_12 rfl (lv_at hl 2 rfl) ?_
  refine lv_istore_n (lv' := [(3, .int p2), (0, .ref (ea E 3)), (1, .int p1), (2, .int p2)]) hx hb dX2_firstRideFrom_13 rfl hl (by decide) rfl (fun ls hl => ?_)
  exact w_Dy_firstRideFrom_L14 C _ hf _ _ _ hw (lv_sub hl [1, 2, 0] rfl)
end
theorem t_Dy_firstRideFrom {l : Launch} {V : St} {N : Nat} {S : St} {p1 : Int32} {p2 : Int32} {r : Int32} {S9 : St} (hf : Dy_firstRideFrom N S p1 p2 = some (r, S9)) : Ct l (wX V) yX2_firstRideFrom cX2_firstRideFrom 4 (some .int) 4 (fun E => [.ref (ea E 3), .int p1, .int p2]) S (fun E => some (.int r)) S9 :=
  ofBlock (by decide +kernel) (fun _ => Nat.le_of_ble_eq_true rfl) (fun E p e s m args below meth c ls C hw hl => w_Dy_firstRideFrom C hw hl hf)
theorem dX2_longestRideStart_0 : decode cX2_longestRideStart 0 = .ok (.aload_n 0, 1) := by decide +kernel
theorem dX2_longestRideStart_1 : decode cX2_longestRideStart 1 = .ok (.iload_n 1, 1) := by decide +kernel
theorem dX2_longestRideStart_2 : decode cX2_longestRideStart 2 = .ok (.aload_n 0, 1) := by decide +kernel
theorem dX2_longestRideStart_3 : decode cX2_longestRideStart 3 = .ok (.getfield 21, 3) := by decide +kernel
theorem dX2_longestRideStart_6 : decode cX2_longestRideStart 6 = .ok (.getfield 56, 3) := by decide +kernel
theorem dX2_longestRideStart_9 : decode cX2_longestRideStart 9 = .ok (.invokevirtual 59, 3) := by decide +kernel
theorem dX2_longestRideStart_12 : decode cX2_longestRideStart 12 = .ok (.bipush (-2), 2) := by decide +kernel
theorem dX2_longestRideStart_14 : decode cX2_longestRideStart 14 = .ok (.istore_n 2, 1) := by decide +kernel
theorem dX2_longestRideStart_15 : decode cX2_longestRideStart 15 = .ok (.iconst 0, 1) := by decide +kernel
theorem dX2_longestRideStart_16 : decode cX2_longestRideStart 16 = .ok (.istore_n 3, 1) := by decide +kernel
theorem dX2_longestRideStart_17 : decode cX2_longestRideStart 17 = .ok (.iconst 0, 1) := by decide +kernel
theorem dX2_longestRideStart_18 : decode cX2_longestRideStart 18 = .ok (.istore 4, 2) := by decide +kernel
theorem dX2_longestRideStart_20 : decode cX2_longestRideStart 20 = .ok (.iconst 0, 1) := by decide +kernel
theorem dX2_longestRideStart_21 : decode cX2_longestRideStart 21 = .ok (.istore 5, 2) := by decide +kernel
theorem dX2_longestRideStart_23 : decode cX2_longestRideStart 23 = .ok (.iload 5, 2) := by decide +kernel
theorem dX2_longestRideStart_25 : decode cX2_longestRideStart 25 = .ok (.bipush 100, 2) := by decide +kernel
theorem dX2_longestRideStart_27 : decode cX2_longestRideStart 27 = .ok (.if_icmp .ge 46, 3) := by decide +kernel
theorem dX2_longestRideStart_30 : decode cX2_longestRideStart 30 = .ok (.aload_n 0, 1) := by decide +kernel
theorem dX2_longestRideStart_31 : decode cX2_longestRideStart 31 = .ok (.iload_n 1, 1) := by decide +kernel
theorem dX2_longestRideStart_32 : decode cX2_longestRideStart 32 = .ok (.iload 5, 2) := by decide +kernel
theorem dX2_longestRideStart_34 : decode cX2_longestRideStart 34 = .ok (.invokevirtual 53, 3) := by decide +kernel
theorem dX2_longestRideStart_37 : decode cX2_longestRideStart 37 = .ok (.ifCond .eq 10, 3) := by decide +kernel
theorem dX2_longestRideStart_40 : decode cX2_longestRideStart 40 = .ok (.iload 4, 2) := by decide +kernel
theorem dX2_longestRideStart_42 : decode cX2_longestRideStart 42 = .ok (.iconst 1, 1) := by decide +kernel
theorem dX2_longestRideStart_43 : decode cX2_longestRideStart 43 = .ok (.iadd, 1) := by decide +kernel
theorem dX2_longestRideStart_44 : decode cX2_longestRideStart 44 = .ok (.goto 4, 3) := by decide +kernel
theorem dX2_longestRideStart_47 : decode cX2_longestRideStart 47 = .ok (.iconst 0, 1) := by decide +kernel
theorem dX2_longestRideStart_48 : decode cX2_longestRideStart 48 = .ok (.istore 4, 2) := by decide +kernel
theorem dX2_longestRideStart_50 : decode cX2_longestRideStart 50 = .ok (.iload 4, 2) := by decide +kernel
theorem dX2_longestRideStart_52 : decode cX2_longestRideStart 52 = .ok (.iload_n 3, 1) := by decide +kernel
theorem dX2_longestRideStart_53 : decode cX2_longestRideStart 53 = .ok (.if_icmp .le 14, 3) := by decide +kernel
theorem dX2_longestRideStart_56 : decode cX2_longestRideStart 56 = .ok (.iload 4, 2) := by decide +kernel
theorem dX2_longestRideStart_58 : decode cX2_longestRideStart 58 = .ok (.istore_n 3, 1) := by decide +kernel
theorem dX2_longestRideStart_59 : decode cX2_longestRideStart 59 = .ok (.iload 5, 2) := by decide +kernel
theorem dX2_longestRideStart_61 : decode cX2_longestRideStart 61 = .ok (.iload 4, 2) := by decide +kernel
theorem dX2_longestRideStart_63 : decode cX2_longestRideStart 63 = .ok (.isub, 1) := by decide +kernel
theorem dX2_longestRideStart_64 : decode cX2_longestRideStart 64 = .ok (.iconst 1, 1) := by decide +kernel
theorem dX2_longestRideStart_65 : decode cX2_longestRideStart 65 = .ok (.iadd, 1) := by decide +kernel
theorem dX2_longestRideStart_66 : decode cX2_longestRideStart 66 = .ok (.istore_n 2, 1) := by decide +kernel
theorem dX2_longestRideStart_67 : decode cX2_longestRideStart 67 = .ok (.iinc 5 1, 3) := by decide +kernel
theorem dX2_longestRideStart_70 : decode cX2_longestRideStart 70 = .ok (.goto (-47), 3) := by decide +kernel
theorem dX2_longestRideStart_73 : decode cX2_longestRideStart 73 = .ok (.iload_n 2, 1) := by decide +kernel
theorem dX2_longestRideStart_74 : decode cX2_longestRideStart 74 = .ok (.ireturn, 1) := by decide +kernel
section
variable {p : Program} {l : Launch} {e : Env} {s : State} {m : MethodId} {args : Array Value} {below : List Frame} {meth : Method} {c : Code} {H : Heap} {locs : List Loc} {E : Ev} {S V : St} {ls : Array Slot}
set_option maxRecDepth 20000 in
theorem w_Dy_longestRideStart_b48 {N : Nat} {k23 : (Int32 × Int32 × Int32 × Int32) → Option (Int32 × St)} {l1 : Int32} {l2 : Int32} {l3 : Int32} {l5 : Int32} {s0 : Int32} {r : Int32} {S9 : St} (C : Cx p s m args meth c E cX2_longestRideStart 6 RX2 (some .int)) (hk23 : ∀ x, k23 x = some (r, S9) → ∀ (H : Heap) (locs : List Loc) (ls : Array Slot), Wd E (wX V E) s.heap S H locs → lv_has ls 6 [(0, .ref (ea E 3)), (1, .int l1), (2, .int x.1), (3, .int x.2.1), (4, .int x.2.2.1), (5, .int x.2.2.2)] → W p l e (rmh 4) s m args below meth c H locs 0 0 (MQ below (QW E (wX V E) (some (.int r)) S9) args s 0 0 (eA E)) (F0 m 23 ls [])) (hw : Wd E (wX V E) s.heap S H locs) (hl : lv_has ls 6 [(0, .ref (ea E 3)), (1, .int l1), (2, .int l2), (3, .int l3), (5, .int l5)]) (hf : Dy_longestRideStart_b48 N k23 S l1 l2 l3 l5 s0 = some (r, S9)) : W p l e (rmh 4) s m args below meth c H locs 0 0 (MQ below (QW E (wX V E) (some (.int r)) S9) args s 0 0 (eA E)) (F0 m 48 ls [.int s0]) := by
  have hx := C.1
  have hb := C.2.1
  unfold Dy_longestRideStart_b48 at hf
  refine lv_istore (lv' := [(4, .int s0), (0, .ref (ea E 3)), (1, .int l1), (2, .int l2), (3, .int l3), (5, .int l5)]) hx hb dX2_longestRideStart_48 hl (by decide) rfl (fun ls hl => ?_)
  refine lv_iload hx hb dX2_longestRideStart_50 (lv_at hl 0 rfl) ?_
  refine lv_iload_n hx hb dX2_longestRideStart_52 rfl (lv_at hl 4 rfl) ?_
  refine lv_icmp_le (tgt := 67) hx hb dX2_longestRideStart_53 (by decide) (fun q => ?_) (fun q => ?_)
  · have hf := hf_t q hf
    obtain ⟨x1, ex1, hf⟩ := nme hf
    refine lv_iinc (v := x1) (lv' := [(5, .int x1), (4, .int s0), (0, .ref (ea E 3)), (1, .int l1), (2, .int l2), (3, .int l3)]) hx hb dX2_longestRideStart_67 hl (k := 5) rfl (ki_1 ex1) (by decide) rfl (fun ls hl => ?_)
    refine lv_goto (tgt := 23) hx hb dX2_longestRideStart_70 (by decide) ?_
    exact hk23 _ hf _ _ _ hw (lv_sub hl [2, 3, 4, 5, 1, 0] rfl)
  · have hf := hf_f q hf
    refine lv_iload hx hb dX2_longestRideStart_56 (lv_at hl 0 rfl) ?_
    refine lv_istore_n (lv' := [(3, .int s0), (4, .int s0), (0, .ref (ea E 3)), (1, .int l1), (2, .int l2), (5, .int l5)]) hx hb dX2_longestRideStart_58 rfl hl (by decide) rfl (fun ls hl => ?_)
    refine lv_iload hx hb dX2_longestRideStart_59 (lv_at hl 5 rfl) ?_
    refine lv_iload hx hb dX2_longestRideStart_61 (lv_at hl 1 rfl) ?_
    refine lv_isub hx hb dX2_longestRideStart_63 ?_
    refine lv_iconst (v := 1) hx hb dX2_longestRideStart_64 kc_1 ?_
    refine lv_iadd hx hb dX2_longestRideStart_65 ?_
    refine nm_i hf (fun x2 hf => ?_)
    refine lv_istore_n (lv' := [(2, .int x2), (3, .int s0), (4, .int s0), (0, .ref (ea E 3)), (1, .int l1), (5, .int l5)]) hx hb dX2_longestRideStart_66 rfl hl (by decide) rfl (fun ls hl => ?_)
    obtain ⟨x3, ex3, hf⟩ := nme hf
    refine lv_iinc (v := x3) (lv' := [(5, .int x3), (2, .int x2), (3, .int s0), (4, .int s0), (0, .ref (ea E 3)), (1, .int l1)]) hx hb dX2_longestRideStart_67 hl (k := 5) rfl (ki_1 ex3) (by decide) rfl (fun ls hl => ?_)
    refine lv_goto (tgt := 23) hx hb dX2_longestRideStart_70 (by decide) ?_
    exact hk23 _ hf _ _ _ hw (lv_sub hl [4, 5, 1, 2, 3, 0] rfl)
set_option maxRecDepth 20000 in
theorem w_Dy_longestRideStart_b23 {N : Nat} {k23 : (Int32 × Int32 × Int32 × Int32) → Option (Int32 × St)} {l1 : Int32} {l2 : Int32} {l3 : Int32} {l4 : Int32} {l5 : Int32} {r : Int32} {S9 : St} (C : Cx p s m args meth c E cX2_longestRideStart 6 RX2 (some .int)) (hk23 : ∀ x, k23 x = some (r, S9) → ∀ (H : Heap) (locs : List Loc) (ls : Array Slot), Wd E (wX V E) s.heap S H locs → lv_has ls 6 [(0, .ref (ea E 3)), (1, .int l1), (2, .int x.1), (3, .int x.2.1), (4, .int x.2.2.1), (5, .int x.2.2.2)] → W p l e (rmh 4) s m args below meth c H locs 0 0 (MQ below (QW E (wX V E) (some (.int r)) S9) args s 0 0 (eA E)) (F0 m 23 ls [])) (hw : Wd E (wX V E) s.heap S H locs) (hl : lv_has ls 6 [(0, .ref (ea E 3)), (1, .int l1), (2, .int l2), (3, .int l3), (4, .int l4), (5, .int l5)]) (hf : Dy_longestRideStart_b23 N k23 S l1 l2 l3 l4 l5 = some (r, S9)) : W p l e (rmh 4) s m args below meth c H locs 0 0 (MQ below (QW E (wX V E) (some (.int r)) S9) args s 0 0 (eA E)) (F0 m 23 ls []) := by
  have hx := C.1
  have hb := C.2.1
  unfold Dy_longestRideStart_b23 at hf
  refine lv_iload hx hb dX2_longestRideStart_23 (lv_at hl 5 rfl) ?_
  refine lv_bipush (v := 100) hx hb dX2_longestRideStart_25 kb_100 ?_
  refine lv_icmp_ge (tgt := 73) hx hb dX2_longestRideStart_27 (by decide) (fun q => ?_) (fun q => ?_)
  · have hf := hf_t q hf
    refine lv_iload_n hx hb dX2_longestRideStart_73 rfl (lv_at hl 2 rfl) ?_
    exact ret_iS C hw dX2_longestRideStart_74 hf
  · have hf := hf_f q hf
    refine lv_aload_n hx hb dX2_longestRideStart_30 rfl (lv_at hl 0 rfl) ?_
    refine lv_iload_n hx hb dX2_longestRideStart_31 rfl (lv_at hl 1 rfl) ?_
    refine lv_iload hx hb dX2_longestRideStart_32 (lv_at hl 5 rfl) ?_
    obtain ⟨r1, hr, hf⟩ := hf_1 hf
    refine inv_Vi (q0 := 3) (ci := 2) (As := [.int l1, .int l5]) lk_X2_53 C hw rfl rfl rfl (t_Dy_ridesLaidOut hr) rfl hl.1 dX2_longestRideStart_34 rfl (Nat.le_of_ble_eq_true rfl) (by decide) (Nat.le_of_ble_eq_true rfl) rfl (fun H locs hw => ?_)
    refine lv_if_eq (tgt := 47) hx hb dX2_longestRideStart_37 (by decide) (fun q => ?_) (fun q => ?_)
    · have hf := hf_t q hf
      refine lv_iconst (v := 0) hx hb dX2_longestRideStart_47 kc_0 ?_
      exact w_Dy_longestRideStart_b48 C hk23 hw (lv_sub hl [0, 1, 2, 3, 5] rfl) hf
    · have hf := hf_f q hf
      refine lv_iload hx hb dX2_longestRideStart_40 (lv_at hl 4 rfl) ?_
      refine lv_iconst (v := 1) hx hb dX2_longestRideStart_42 kc_1 ?_
      refine lv_iadd hx hb dX2_longestRideStart_43 ?_
      refine lv_goto (tgt := 48) hx hb dX2_longestRideStart_44 (by decide) ?_
      exact w_Dy_longestRideStart_b48 C hk23 hw (lv_sub hl [0, 1, 2, 3, 5] rfl) hf
theorem w_Dy_longestRideStart_L23 {N : Nat} {l1 : Int32} {r : Int32} {S9 : St} (C : Cx p s m args meth c E cX2_longestRideStart 6 RX2 (some .int)) : ∀ x, Dy_longestRideStart_L23 N S l1 x = some (r, S9) → ∀ (H : Heap) (locs : List Loc) (ls : Array Slot), Wd E (wX V E) s.heap S H locs → lv_has ls 6 [(0, .ref (ea E 3)), (1, .int l1), (2, .int x.1), (3, .int x.2.1), (4, .int x.2.2.1), (5, .int x.2.2.2)] → W p l e (rmh 4) s m args below meth c H locs 0 0 (MQ below (QW E (wX V E) (some (.int r)) S9) args s 0 0 (eA E)) (F0 m 23 ls []) :=
  lp_W (fun k x hk hf H locs ls hw hl => w_Dy_longestRideStart_b23 C hk hw hl hf) N
set_option maxRecDepth 20000 in
theorem w_Dy_longestRideStart {N : Nat} {p1 : Int32} {r : Int32} {S9 : St} (C : Cx p s m args meth c E cX2_longestRideStart 6 RX2 (some .int)) (hw : Wd E (wX V E) s.heap S H locs) (hl : lv_has ls 6 [(0, .ref (ea E 3)), (1, .int p1)]) (hf : Dy_longestRideStart N S p1 = some (r, S9)) : W p l e (rmh 4) s m args below meth c H locs 0 0 (MQ below (QW E (wX V E) (some (.int r)) S9) args s 0 0 (eA E)) (F0 m 0 ls []) := by
  have hx := C.1
  have hb := C.2.1
  unfold Dy_longestRideStart at hf
  refine lv_aload_n hx hb dX2_longestRideStart_0 rfl (lv_at hl 0 rfl) ?_
  refine lv_iload_n hx hb dX2_longestRideStart_1 rfl (lv_at hl 1 rfl) ?_
  refine lv_aload_n hx hb dX2_longestRideStart_2 rfl (lv_at hl 0 rfl) ?_
  refine get_3_0 C hw q_289 dX2_longestRideStart_3 ?_
  refine get_1_7 C hw q_129 dX2_longestRideStart_6 ?_
  obtain ⟨S1, hr, hf⟩ := hf_1 hf
  refine inv_VAv (q0 := 3) (ci := 2) (As := fun E => [.int p1, .ref (ea E 18)]) lk_X2_59 C hw rfl rfl rfl (t_Dy_layOut hr) rfl hl.1 dX2_longestRideStart_9 rfl (Nat.le_of_ble_eq_true rfl) (by decide) (Nat.le_of_ble_eq_true rfl) rfl (fun H locs hw => ?_)
  refine lv_bipush (v := -2) hx hb dX2_longestRideStart_12 kb_m2 ?_
  refine lv_istore_n (lv' := [(2, .int (-2 : Int32)), (0, .ref (ea E 3)), (1, .int p1)]) hx hb dX2_longestRideStart_14 rfl hl (by decide) rfl (fun ls hl => ?_)
  refine lv_iconst (v := 0) hx hb dX2_longestRideStart_15 kc_0 ?_
  refine lv_istore_n (lv' := [(3, .int (0 : Int32)), (2, .int (-2 : Int32)), (0, .ref (ea E 3)), (1, .int p1)]) hx hb dX2_longestRideStart_16 rfl hl (by decide) rfl (fun ls hl => ?_)
  refine lv_iconst (v := 0) hx hb dX2_longestRideStart_17 kc_0 ?_
  refine lv_istore (lv' := [(4, .int (0 : Int32)), (3, .int (0 : Int32)), (2, .int (-2 : Int32)), (0, .ref (ea E 3)), (1, .int p1)]) hx hb dX2_longestRideStart_18 hl (by decide) rfl (fun ls hl => ?_)
  refine lv_iconst (v := 0) hx hb dX2_longestRideStart_20 kc_0 ?_
  refine lv_istore (lv' := [(5, .int (0 : Int32)), (4, .int (0 : Int32)), (3, .int (0 : Int32)), (2, .int (-2 : Int32)), (0, .ref (ea E 3)), (1, .int p1)]) hx hb dX2_longestRideStart_21 hl (by decide) rfl (fun ls hl => ?_)
  exact w_Dy_longestRideStart_L23 C _ hf _ _ _ hw (lv_sub hl [4, 5, 3, 2, 1, 0] rfl)
end
theorem t_Dy_longestRideStart {l : Launch} {V : St} {N : Nat} {S : St} {p1 : Int32} {r : Int32} {S9 : St} (hf : Dy_longestRideStart N S p1 = some (r, S9)) : Ct l (wX V) yX2_longestRideStart cX2_longestRideStart 6 (some .int) 4 (fun E => [.ref (ea E 3), .int p1]) S (fun E => some (.int r)) S9 :=
  ofBlock (by decide +kernel) (fun _ => Nat.le_of_ble_eq_true rfl) (fun E p e s m args below meth c ls C hw hl => w_Dy_longestRideStart C hw hl hf)
theorem dX2_rideFrom_0 : decode cX2_rideFrom 0 = .ok (.aload_n 0, 1) := by decide +kernel
theorem dX2_rideFrom_1 : decode cX2_rideFrom 1 = .ok (.iload_n 1, 1) := by decide +kernel
theorem dX2_rideFrom_2 : decode cX2_rideFrom 2 = .ok (.aload_n 0, 1) := by decide +kernel
theorem dX2_rideFrom_3 : decode cX2_rideFrom 3 = .ok (.getfield 21, 3) := by decide +kernel
theorem dX2_rideFrom_6 : decode cX2_rideFrom 6 = .ok (.getfield 56, 3) := by decide +kernel
theorem dX2_rideFrom_9 : decode cX2_rideFrom 9 = .ok (.invokevirtual 59, 3) := by decide +kernel
theorem dX2_rideFrom_12 : decode cX2_rideFrom 12 = .ok (.iload_n 2, 1) := by decide +kernel
theorem dX2_rideFrom_13 : decode cX2_rideFrom 13 = .ok (.istore_n 3, 1) := by decide +kernel
theorem dX2_rideFrom_14 : decode cX2_rideFrom 14 = .ok (.iload_n 3, 1) := by decide +kernel
theorem dX2_rideFrom_15 : decode cX2_rideFrom 15 = .ok (.bipush 100, 2) := by decide +kernel
theorem dX2_rideFrom_17 : decode cX2_rideFrom 17 = .ok (.if_icmp .ge 18, 3) := by decide +kernel
theorem dX2_rideFrom_20 : decode cX2_rideFrom 20 = .ok (.aload_n 0, 1) := by decide +kernel
theorem dX2_rideFrom_21 : decode cX2_rideFrom 21 = .ok (.iload_n 1, 1) := by decide +kernel
theorem dX2_rideFrom_22 : decode cX2_rideFrom 22 = .ok (.iload_n 3, 1) := by decide +kernel
theorem dX2_rideFrom_23 : decode cX2_rideFrom 23 = .ok (.invokevirtual 53, 3) := by decide +kernel
theorem dX2_rideFrom_26 : decode cX2_rideFrom 26 = .ok (.ifCond .eq 9, 3) := by decide +kernel
theorem dX2_rideFrom_29 : decode cX2_rideFrom 29 = .ok (.iinc 3 1, 3) := by decide +kernel
theorem dX2_rideFrom_32 : decode cX2_rideFrom 32 = .ok (.goto (-18), 3) := by decide +kernel
theorem dX2_rideFrom_35 : decode cX2_rideFrom 35 = .ok (.iload_n 3, 1) := by decide +kernel
theorem dX2_rideFrom_36 : decode cX2_rideFrom 36 = .ok (.iload_n 2, 1) := by decide +kernel
theorem dX2_rideFrom_37 : decode cX2_rideFrom 37 = .ok (.isub, 1) := by decide +kernel
theorem dX2_rideFrom_38 : decode cX2_rideFrom 38 = .ok (.ireturn, 1) := by decide +kernel
section
variable {p : Program} {l : Launch} {e : Env} {s : State} {m : MethodId} {args : Array Value} {below : List Frame} {meth : Method} {c : Code} {H : Heap} {locs : List Loc} {E : Ev} {S V : St} {ls : Array Slot}
set_option maxRecDepth 20000 in
theorem w_Dy_rideFrom_b14 {N : Nat} {k14 : (Int32) → Option (Int32 × St)} {l1 : Int32} {l2 : Int32} {l3 : Int32} {r : Int32} {S9 : St} (C : Cx p s m args meth c E cX2_rideFrom 4 RX2 (some .int)) (hk14 : ∀ x, k14 x = some (r, S9) → ∀ (H : Heap) (locs : List Loc) (ls : Array Slot), Wd E (wX V E) s.heap S H locs → lv_has ls 4 [(0, .ref (ea E 3)), (1, .int l1), (2, .int l2), (3, .int x)] → W p l e (rmh 4) s m args below meth c H locs 0 0 (MQ below (QW E (wX V E) (some (.int r)) S9) args s 0 0 (eA E)) (F0 m 14 ls [])) (hw : Wd E (wX V E) s.heap S H locs) (hl : lv_has ls 4 [(0, .ref (ea E 3)), (1, .int l1), (2, .int l2), (3, .int l3)]) (hf : Dy_rideFrom_b14 N k14 S l1 l2 l3 = some (r, S9)) : W p l e (rmh 4) s m args below meth c H locs 0 0 (MQ below (QW E (wX V E) (some (.int r)) S9) args s 0 0 (eA E)) (F0 m 14 ls []) := by
  have hx := C.1
  have hb := C.2.1
  unfold Dy_rideFrom_b14 at hf
  refine lv_iload_n hx hb dX2_rideFrom_14 rfl (lv_at hl 3 rfl) ?_
  refine lv_bipush (v := 100) hx hb dX2_rideFrom_15 kb_100 ?_
  refine lv_icmp_ge (tgt := 35) hx hb dX2_rideFrom_17 (by decide) (fun q => ?_) (fun q => ?_)
  · have hf := hf_t q hf
    refine lv_iload_n hx hb dX2_rideFrom_35 rfl (lv_at hl 3 rfl) ?_
    refine lv_iload_n hx hb dX2_rideFrom_36 rfl (lv_at hl 2 rfl) ?_
    refine lv_isub hx hb dX2_rideFrom_37 ?_
    exact ret_iS C hw dX2_rideFrom_38 hf
  · have hf := hf_f q hf
    refine lv_aload_n hx hb dX2_rideFrom_20 rfl (lv_at hl 0 rfl) ?_
    refine lv_iload_n hx hb dX2_rideFrom_21 rfl (lv_at hl 1 rfl) ?_
    refine lv_iload_n hx hb dX2_rideFrom_22 rfl (lv_at hl 3 rfl) ?_
    obtain ⟨r1, hr, hf⟩ := hf_1 hf
    refine inv_Vi (q0 := 3) (ci := 2) (As := [.int l1, .int l3]) lk_X2_53 C hw rfl rfl rfl (t_Dy_ridesLaidOut hr) rfl hl.1 dX2_rideFrom_23 rfl (Nat.le_of_ble_eq_true rfl) (by decide) (Nat.le_of_ble_eq_true rfl) rfl (fun H locs hw => ?_)
    refine lv_if_eq (tgt := 35) hx hb dX2_rideFrom_26 (by decide) (fun q => ?_) (fun q => ?_)
    · have hf := hf_t q hf
      refine lv_iload_n hx hb dX2_rideFrom_35 rfl (lv_at hl 3 rfl) ?_
      refine lv_iload_n hx hb dX2_rideFrom_36 rfl (lv_at hl 2 rfl) ?_
      refine lv_isub hx hb dX2_rideFrom_37 ?_
      exact ret_iS C hw dX2_rideFrom_38 hf
    · have hf := hf_f q hf
      obtain ⟨x2, ex2, hf⟩ := nme hf
      refine lv_iinc (v := x2) (lv' := [(3, .int x2), (0, .ref (ea E 3)), (1, .int l1), (2, .int l2)]) hx hb dX2_rideFrom_29 hl (k := 3) rfl (ki_1 ex2) (by decide) rfl (fun ls hl => ?_)
      refine lv_goto (tgt := 14) hx hb dX2_rideFrom_32 (by decide) ?_
      exact hk14 _ hf _ _ _ hw (lv_sub hl [1, 2, 3, 0] rfl)
theorem w_Dy_rideFrom_L14 {N : Nat} {l1 : Int32} {l2 : Int32} {r : Int32} {S9 : St} (C : Cx p s m args meth c E cX2_rideFrom 4 RX2 (some .int)) : ∀ x, Dy_rideFrom_L14 N S l1 l2 x = some (r, S9) → ∀ (H : Heap) (locs : List Loc) (ls : Array Slot), Wd E (wX V E) s.heap S H locs → lv_has ls 4 [(0, .ref (ea E 3)), (1, .int l1), (2, .int l2), (3, .int x)] → W p l e (rmh 4) s m args below meth c H locs 0 0 (MQ below (QW E (wX V E) (some (.int r)) S9) args s 0 0 (eA E)) (F0 m 14 ls []) :=
  lp_W (fun k x hk hf H locs ls hw hl => w_Dy_rideFrom_b14 C hk hw hl hf) N
set_option maxRecDepth 20000 in
theorem w_Dy_rideFrom {N : Nat} {p1 : Int32} {p2 : Int32} {r : Int32} {S9 : St} (C : Cx p s m args meth c E cX2_rideFrom 4 RX2 (some .int)) (hw : Wd E (wX V E) s.heap S H locs) (hl : lv_has ls 4 [(0, .ref (ea E 3)), (1, .int p1), (2, .int p2)]) (hf : Dy_rideFrom N S p1 p2 = some (r, S9)) : W p l e (rmh 4) s m args below meth c H locs 0 0 (MQ below (QW E (wX V E) (some (.int r)) S9) args s 0 0 (eA E)) (F0 m 0 ls []) := by
  have hx := C.1
  have hb := C.2.1
  unfold Dy_rideFrom at hf
  refine lv_aload_n hx hb dX2_rideFrom_0 rfl (lv_at hl 0 rfl) ?_
  refine lv_iload_n hx hb dX2_rideFrom_1 rfl (lv_at hl 1 rfl) ?_
  refine lv_aload_n hx hb dX2_rideFrom_2 rfl (lv_at hl 0 rfl) ?_
  refine get_3_0 C hw q_289 dX2_rideFrom_3 ?_
  refine get_1_7 C hw q_129 dX2_rideFrom_6 ?_
  obtain ⟨S1, hr, hf⟩ := hf_1 hf
  refine inv_VAv (q0 := 3) (ci := 2) (As := fun E => [.int p1, .ref (ea E 18)]) lk_X2_59 C hw rfl rfl rfl (t_Dy_layOut hr) rfl hl.1 dX2_rideFrom_9 rfl (Nat.le_of_ble_eq_true rfl) (by decide) (Nat.le_of_ble_eq_true rfl) rfl (fun H locs hw => ?_)
  refine lv_iload_n hx hb dX2_rideFrom_12 rfl (lv_at hl 2 rfl) ?_
  refine lv_istore_n (lv' := [(3, .int p2), (0, .ref (ea E 3)), (1, .int p1), (2, .int p2)]) hx hb dX2_rideFrom_13 rfl hl (by decide) rfl (fun ls hl => ?_)
  exact w_Dy_rideFrom_L14 C _ hf _ _ _ hw (lv_sub hl [1, 2, 3, 0] rfl)
end
theorem t_Dy_rideFrom {l : Launch} {V : St} {N : Nat} {S : St} {p1 : Int32} {p2 : Int32} {r : Int32} {S9 : St} (hf : Dy_rideFrom N S p1 p2 = some (r, S9)) : Ct l (wX V) yX2_rideFrom cX2_rideFrom 4 (some .int) 4 (fun E => [.ref (ea E 3), .int p1, .int p2]) S (fun E => some (.int r)) S9 :=
  ofBlock (by decide +kernel) (fun _ => Nat.le_of_ble_eq_true rfl) (fun E p e s m args below meth c ls C hw hl => w_Dy_rideFrom C hw hl hf)
theorem dX2_fullestDay_0 : decode cX2_fullestDay 0 = .ok (.aload_n 0, 1) := by decide +kernel
theorem dX2_fullestDay_1 : decode cX2_fullestDay 1 = .ok (.getfield 15, 3) := by decide +kernel
theorem dX2_fullestDay_4 : decode cX2_fullestDay 4 = .ok (.iconst 0, 1) := by decide +kernel
theorem dX2_fullestDay_5 : decode cX2_fullestDay 5 = .ok (.invokestatic 25, 3) := by decide +kernel
theorem dX2_fullestDay_8 : decode cX2_fullestDay 8 = .ok (.iconst 0, 1) := by decide +kernel
theorem dX2_fullestDay_9 : decode cX2_fullestDay 9 = .ok (.istore_n 1, 1) := by decide +kernel
theorem dX2_fullestDay_10 : decode cX2_fullestDay 10 = .ok (.iload_n 1, 1) := by decide +kernel
theorem dX2_fullestDay_11 : decode cX2_fullestDay 11 = .ok (.aload_n 0, 1) := by decide +kernel
theorem dX2_fullestDay_12 : decode cX2_fullestDay 12 = .ok (.getfield 21, 3) := by decide +kernel
theorem dX2_fullestDay_15 : decode cX2_fullestDay 15 = .ok (.getfield 67, 3) := by decide +kernel
theorem dX2_fullestDay_18 : decode cX2_fullestDay 18 = .ok (.if_icmp .ge 54, 3) := by decide +kernel
theorem dX2_fullestDay_21 : decode cX2_fullestDay 21 = .ok (.aload_n 0, 1) := by decide +kernel
theorem dX2_fullestDay_22 : decode cX2_fullestDay 22 = .ok (.iload_n 1, 1) := by decide +kernel
theorem dX2_fullestDay_23 : decode cX2_fullestDay 23 = .ok (.aload_n 0, 1) := by decide +kernel
theorem dX2_fullestDay_24 : decode cX2_fullestDay 24 = .ok (.getfield 21, 3) := by decide +kernel
theorem dX2_fullestDay_27 : decode cX2_fullestDay 27 = .ok (.getfield 56, 3) := by decide +kernel
theorem dX2_fullestDay_30 : decode cX2_fullestDay 30 = .ok (.invokevirtual 59, 3) := by decide +kernel
theorem dX2_fullestDay_33 : decode cX2_fullestDay 33 = .ok (.iconst 0, 1) := by decide +kernel
theorem dX2_fullestDay_34 : decode cX2_fullestDay 34 = .ok (.istore_n 2, 1) := by decide +kernel
theorem dX2_fullestDay_35 : decode cX2_fullestDay 35 = .ok (.iload_n 2, 1) := by decide +kernel
theorem dX2_fullestDay_36 : decode cX2_fullestDay 36 = .ok (.bipush 100, 2) := by decide +kernel
theorem dX2_fullestDay_38 : decode cX2_fullestDay 38 = .ok (.if_icmp .ge 28, 3) := by decide +kernel
theorem dX2_fullestDay_41 : decode cX2_fullestDay 41 = .ok (.aload_n 0, 1) := by decide +kernel
theorem dX2_fullestDay_42 : decode cX2_fullestDay 42 = .ok (.iload_n 1, 1) := by decide +kernel
theorem dX2_fullestDay_43 : decode cX2_fullestDay 43 = .ok (.iload_n 2, 1) := by decide +kernel
theorem dX2_fullestDay_44 : decode cX2_fullestDay 44 = .ok (.invokevirtual 53, 3) := by decide +kernel
theorem dX2_fullestDay_47 : decode cX2_fullestDay 47 = .ok (.ifCond .eq 13, 3) := by decide +kernel
theorem dX2_fullestDay_50 : decode cX2_fullestDay 50 = .ok (.aload_n 0, 1) := by decide +kernel
theorem dX2_fullestDay_51 : decode cX2_fullestDay 51 = .ok (.getfield 15, 3) := by decide +kernel
theorem dX2_fullestDay_54 : decode cX2_fullestDay 54 = .ok (.iload_n 2, 1) := by decide +kernel
theorem dX2_fullestDay_55 : decode cX2_fullestDay 55 = .ok (.dup2, 1) := by decide +kernel
theorem dX2_fullestDay_56 : decode cX2_fullestDay 56 = .ok (.iaload, 1) := by decide +kernel
theorem dX2_fullestDay_57 : decode cX2_fullestDay 57 = .ok (.iconst 1, 1) := by decide +kernel
theorem dX2_fullestDay_58 : decode cX2_fullestDay 58 = .ok (.iadd, 1) := by decide +kernel
theorem dX2_fullestDay_59 : decode cX2_fullestDay 59 = .ok (.iastore, 1) := by decide +kernel
theorem dX2_fullestDay_60 : decode cX2_fullestDay 60 = .ok (.iinc 2 1, 3) := by decide +kernel
theorem dX2_fullestDay_63 : decode cX2_fullestDay 63 = .ok (.goto (-28), 3) := by decide +kernel
theorem dX2_fullestDay_66 : decode cX2_fullestDay 66 = .ok (.iinc 1 1, 3) := by decide +kernel
theorem dX2_fullestDay_69 : decode cX2_fullestDay 69 = .ok (.goto (-59), 3) := by decide +kernel
theorem dX2_fullestDay_72 : decode cX2_fullestDay 72 = .ok (.iconst 0, 1) := by decide +kernel
theorem dX2_fullestDay_73 : decode cX2_fullestDay 73 = .ok (.istore_n 1, 1) := by decide +kernel
theorem dX2_fullestDay_74 : decode cX2_fullestDay 74 = .ok (.iconst 1, 1) := by decide +kernel
theorem dX2_fullestDay_75 : decode cX2_fullestDay 75 = .ok (.istore_n 2, 1) := by decide +kernel
theorem dX2_fullestDay_76 : decode cX2_fullestDay 76 = .ok (.iload_n 2, 1) := by decide +kernel
theorem dX2_fullestDay_77 : decode cX2_fullestDay 77 = .ok (.bipush 100, 2) := by decide +kernel
theorem dX2_fullestDay_79 : decode cX2_fullestDay 79 = .ok (.if_icmp .ge 26, 3) := by decide +kernel
theorem dX2_fullestDay_82 : decode cX2_fullestDay 82 = .ok (.aload_n 0, 1) := by decide +kernel
theorem dX2_fullestDay_83 : decode cX2_fullestDay 83 = .ok (.getfield 15, 3) := by decide +kernel
theorem dX2_fullestDay_86 : decode cX2_fullestDay 86 = .ok (.iload_n 2, 1) := by decide +kernel
theorem dX2_fullestDay_87 : decode cX2_fullestDay 87 = .ok (.iaload, 1) := by decide +kernel
theorem dX2_fullestDay_88 : decode cX2_fullestDay 88 = .ok (.aload_n 0, 1) := by decide +kernel
theorem dX2_fullestDay_89 : decode cX2_fullestDay 89 = .ok (.getfield 15, 3) := by decide +kernel
theorem dX2_fullestDay_92 : decode cX2_fullestDay 92 = .ok (.iload_n 1, 1) := by decide +kernel
theorem dX2_fullestDay_93 : decode cX2_fullestDay 93 = .ok (.iaload, 1) := by decide +kernel
theorem dX2_fullestDay_94 : decode cX2_fullestDay 94 = .ok (.if_icmp .le 5, 3) := by decide +kernel
theorem dX2_fullestDay_97 : decode cX2_fullestDay 97 = .ok (.iload_n 2, 1) := by decide +kernel
theorem dX2_fullestDay_98 : decode cX2_fullestDay 98 = .ok (.istore_n 1, 1) := by decide +kernel
theorem dX2_fullestDay_99 : decode cX2_fullestDay 99 = .ok (.iinc 2 1, 3) := by decide +kernel
theorem dX2_fullestDay_102 : decode cX2_fullestDay 102 = .ok (.goto (-26), 3) := by decide +kernel
theorem dX2_fullestDay_105 : decode cX2_fullestDay 105 = .ok (.iload_n 1, 1) := by decide +kernel
theorem dX2_fullestDay_106 : decode cX2_fullestDay 106 = .ok (.ireturn, 1) := by decide +kernel
section
variable {p : Program} {l : Launch} {e : Env} {s : State} {m : MethodId} {args : Array Value} {below : List Frame} {meth : Method} {c : Code} {H : Heap} {locs : List Loc} {E : Ev} {S V : St} {ls : Array Slot}
set_option maxRecDepth 20000 in
theorem w_Dy_fullestDay_b76 {N : Nat} {k76 : (Int32 × Int32) → Option (Int32 × St)} {l1 : Int32} {l2 : Int32} {r : Int32} {S9 : St} (C : Cx p s m args meth c E cX2_fullestDay 3 RX2 (some .int)) (hk76 : ∀ x, k76 x = some (r, S9) → ∀ (H : Heap) (locs : List Loc) (ls : Array Slot), Wd E (wX V E) s.heap S H locs → lv_has ls 3 [(0, .ref (ea E 3)), (1, .int x.1), (2, .int x.2)] → W p l e (rmh 4) s m args below meth c H locs 0 0 (MQ below (QW E (wX V E) (some (.int r)) S9) args s 0 0 (eA E)) (F0 m 76 ls [])) (hw : Wd E (wX V E) s.heap S H locs) (hl : lv_has ls 3 [(0, .ref (ea E 3)), (1, .int l1), (2, .int l2)]) (hf : Dy_fullestDay_b76 N k76 S l1 l2 = some (r, S9)) : W p l e (rmh 4) s m args below meth c H locs 0 0 (MQ below (QW E (wX V E) (some (.int r)) S9) args s 0 0 (eA E)) (F0 m 76 ls []) := by
  have hx := C.1
  have hb := C.2.1
  unfold Dy_fullestDay_b76 at hf
  refine lv_iload_n hx hb dX2_fullestDay_76 rfl (lv_at hl 2 rfl) ?_
  refine lv_bipush (v := 100) hx hb dX2_fullestDay_77 kb_100 ?_
  refine lv_icmp_ge (tgt := 105) hx hb dX2_fullestDay_79 (by decide) (fun q => ?_) (fun q => ?_)
  · have hf := hf_t q hf
    refine lv_iload_n hx hb dX2_fullestDay_105 rfl (lv_at hl 1 rfl) ?_
    exact ret_iS C hw dX2_fullestDay_106 hf
  · have hf := hf_f q hf
    refine lv_aload_n hx hb dX2_fullestDay_82 rfl (lv_at hl 0 rfl) ?_
    refine get_3_2 C hw q_291 dX2_fullestDay_83 ?_
    refine lv_iload_n hx hb dX2_fullestDay_86 rfl (lv_at hl 2 rfl) ?_
    obtain ⟨hc, hf⟩ := hf_ck hf
    refine ld_26 C hw hc dX2_fullestDay_87 ?_
    refine lv_aload_n hx hb dX2_fullestDay_88 rfl (lv_at hl 0 rfl) ?_
    refine get_3_2 C hw q_291 dX2_fullestDay_89 ?_
    refine lv_iload_n hx hb dX2_fullestDay_92 rfl (lv_at hl 1 rfl) ?_
    obtain ⟨hc, hf⟩ := hf_ck hf
    refine ld_26 C hw hc dX2_fullestDay_93 ?_
    refine lv_icmp_le (tgt := 99) hx hb dX2_fullestDay_94 (by decide) (fun q => ?_) (fun q => ?_)
    · have hf := hf_t q hf
      obtain ⟨x1, ex1, hf⟩ := nme hf
      refine lv_iinc (v := x1) (lv' := [(2, .int x1), (0, .ref (ea E 3)), (1, .int l1)]) hx hb dX2_fullestDay_99 hl (k := 2) rfl (ki_1 ex1) (by decide) rfl (fun ls hl => ?_)
      refine lv_goto (tgt := 76) hx hb dX2_fullestDay_102 (by decide) ?_
      exact hk76 _ hf _ _ _ hw (lv_sub hl [1, 2, 0] rfl)
    · have hf := hf_f q hf
      refine lv_iload_n hx hb dX2_fullestDay_97 rfl (lv_at hl 2 rfl) ?_
      refine lv_istore_n (lv' := [(1, .int l2), (0, .ref (ea E 3)), (2, .int l2)]) hx hb dX2_fullestDay_98 rfl hl (by decide) rfl (fun ls hl => ?_)
      obtain ⟨x2, ex2, hf⟩ := nme hf
      refine lv_iinc (v := x2) (lv' := [(2, .int x2), (1, .int l2), (0, .ref (ea E 3))]) hx hb dX2_fullestDay_99 hl (k := 2) rfl (ki_1 ex2) (by decide) rfl (fun ls hl => ?_)
      refine lv_goto (tgt := 76) hx hb dX2_fullestDay_102 (by decide) ?_
      exact hk76 _ hf _ _ _ hw (lv_sub hl [2, 1, 0] rfl)
theorem w_Dy_fullestDay_L76 {N : Nat} {r : Int32} {S9 : St} (C : Cx p s m args meth c E cX2_fullestDay 3 RX2 (some .int)) : ∀ x, Dy_fullestDay_L76 N S x = some (r, S9) → ∀ (H : Heap) (locs : List Loc) (ls : Array Slot), Wd E (wX V E) s.heap S H locs → lv_has ls 3 [(0, .ref (ea E 3)), (1, .int x.1), (2, .int x.2)] → W p l e (rmh 4) s m args below meth c H locs 0 0 (MQ below (QW E (wX V E) (some (.int r)) S9) args s 0 0 (eA E)) (F0 m 76 ls []) :=
  lp_W (fun k x hk hf H locs ls hw hl => w_Dy_fullestDay_b76 C hk hw hl hf) N
set_option maxRecDepth 20000 in
theorem w_Dy_fullestDay_b35 {N : Nat} {k10 : (St × Int32) → Option (Int32 × St)} {k35 : (St × Int32) → Option (Int32 × St)} {l1 : Int32} {l2 : Int32} {r : Int32} {S9 : St} (C : Cx p s m args meth c E cX2_fullestDay 3 RX2 (some .int)) (hk10 : ∀ x, k10 x = some (r, S9) → ∀ (H : Heap) (locs : List Loc) (ls : Array Slot), Wd E (wX V E) s.heap x.1 H locs → lv_has ls 3 [(0, .ref (ea E 3)), (1, .int x.2)] → W p l e (rmh 4) s m args below meth c H locs 0 0 (MQ below (QW E (wX V E) (some (.int r)) S9) args s 0 0 (eA E)) (F0 m 10 ls [])) (hk35 : ∀ x, k35 x = some (r, S9) → ∀ (H : Heap) (locs : List Loc) (ls : Array Slot), Wd E (wX V E) s.heap x.1 H locs → lv_has ls 3 [(0, .ref (ea E 3)), (1, .int l1), (2, .int x.2)] → W p l e (rmh 4) s m args below meth c H locs 0 0 (MQ below (QW E (wX V E) (some (.int r)) S9) args s 0 0 (eA E)) (F0 m 35 ls [])) (hw : Wd E (wX V E) s.heap S H locs) (hl : lv_has ls 3 [(0, .ref (ea E 3)), (1, .int l1), (2, .int l2)]) (hf : Dy_fullestDay_b35 N k10 k35 S l1 l2 = some (r, S9)) : W p l e (rmh 4) s m args below meth c H locs 0 0 (MQ below (QW E (wX V E) (some (.int r)) S9) args s 0 0 (eA E)) (F0 m 35 ls []) := by
  have hx := C.1
  have hb := C.2.1
  unfold Dy_fullestDay_b35 at hf
  refine lv_iload_n hx hb dX2_fullestDay_35 rfl (lv_at hl 2 rfl) ?_
  refine lv_bipush (v := 100) hx hb dX2_fullestDay_36 kb_100 ?_
  refine lv_icmp_ge (tgt := 66) hx hb dX2_fullestDay_38 (by decide) (fun q => ?_) (fun q => ?_)
  · have hf := hf_t q hf
    obtain ⟨x1, ex1, hf⟩ := nme hf
    refine lv_iinc (v := x1) (lv' := [(1, .int x1), (0, .ref (ea E 3)), (2, .int l2)]) hx hb dX2_fullestDay_66 hl (k := 1) rfl (ki_1 ex1) (by decide) rfl (fun ls hl => ?_)
    refine lv_goto (tgt := 10) hx hb dX2_fullestDay_69 (by decide) ?_
    exact hk10 _ hf _ _ _ hw (lv_sub hl [1, 0] rfl)
  · have hf := hf_f q hf
    refine lv_aload_n hx hb dX2_fullestDay_41 rfl (lv_at hl 0 rfl) ?_
    refine lv_iload_n hx hb dX2_fullestDay_42 rfl (lv_at hl 1 rfl) ?_
    refine lv_iload_n hx hb dX2_fullestDay_43 rfl (lv_at hl 2 rfl) ?_
    obtain ⟨r2, hr, hf⟩ := hf_1 hf
    refine inv_Vi (q0 := 3) (ci := 2) (As := [.int l1, .int l2]) lk_X2_53 C hw rfl rfl rfl (t_Dy_ridesLaidOut hr) rfl hl.1 dX2_fullestDay_44 rfl (Nat.le_of_ble_eq_true rfl) (by decide) (Nat.le_of_ble_eq_true rfl) rfl (fun H locs hw => ?_)
    refine lv_if_eq (tgt := 60) hx hb dX2_fullestDay_47 (by decide) (fun q => ?_) (fun q => ?_)
    · have hf := hf_t q hf
      obtain ⟨x3, ex3, hf⟩ := nme hf
      refine lv_iinc (v := x3) (lv' := [(2, .int x3), (0, .ref (ea E 3)), (1, .int l1)]) hx hb dX2_fullestDay_60 hl (k := 2) rfl (ki_1 ex3) (by decide) rfl (fun ls hl => ?_)
      refine lv_goto (tgt := 35) hx hb dX2_fullestDay_63 (by decide) ?_
      exact hk35 _ hf _ _ _ hw (lv_sub hl [1, 2, 0] rfl)
    · have hf := hf_f q hf
      refine lv_aload_n hx hb dX2_fullestDay_50 rfl (lv_at hl 0 rfl) ?_
      refine get_3_2 C hw q_291 dX2_fullestDay_51 ?_
      refine lv_iload_n hx hb dX2_fullestDay_54 rfl (lv_at hl 2 rfl) ?_
      refine lv_dup2_11 hx hb dX2_fullestDay_55 rfl rfl ?_
      obtain ⟨hc, hf⟩ := hf_ck hf
      refine ld_26 C hw hc dX2_fullestDay_56 ?_
      refine lv_iconst (v := 1) hx hb dX2_fullestDay_57 kc_1 ?_
      refine lv_iadd hx hb dX2_fullestDay_58 ?_
      obtain ⟨hc, hf⟩ := hf_ck hf
      refine st_26 C hw hc dX2_fullestDay_59 (fun H locs hw => ?_)
      refine nm_S hf hw (fun S4 hf hw => ?_)
      obtain ⟨x5, ex5, hf⟩ := nme hf
      refine lv_iinc (v := x5) (lv' := [(2, .int x5), (0, .ref (ea E 3)), (1, .int l1)]) hx hb dX2_fullestDay_60 hl (k := 2) rfl (ki_1 ex5) (by decide) rfl (fun ls hl => ?_)
      refine lv_goto (tgt := 35) hx hb dX2_fullestDay_63 (by decide) ?_
      exact hk35 _ hf _ _ _ hw (lv_sub hl [1, 2, 0] rfl)
theorem w_Dy_fullestDay_L35 {N : Nat} {k10 : (St × Int32) → Option (Int32 × St)} {l1 : Int32} {r : Int32} {S9 : St} (C : Cx p s m args meth c E cX2_fullestDay 3 RX2 (some .int)) (hk10 : ∀ x, k10 x = some (r, S9) → ∀ (H : Heap) (locs : List Loc) (ls : Array Slot), Wd E (wX V E) s.heap x.1 H locs → lv_has ls 3 [(0, .ref (ea E 3)), (1, .int x.2)] → W p l e (rmh 4) s m args below meth c H locs 0 0 (MQ below (QW E (wX V E) (some (.int r)) S9) args s 0 0 (eA E)) (F0 m 10 ls [])) : ∀ x, Dy_fullestDay_L35 N k10 l1 x = some (r, S9) → ∀ (H : Heap) (locs : List Loc) (ls : Array Slot), Wd E (wX V E) s.heap x.1 H locs → lv_has ls 3 [(0, .ref (ea E 3)), (1, .int l1), (2, .int x.2)] → W p l e (rmh 4) s m args below meth c H locs 0 0 (MQ below (QW E (wX V E) (some (.int r)) S9) args s 0 0 (eA E)) (F0 m 35 ls []) :=
  lp_W (fun k x hk hf H locs ls hw hl => w_Dy_fullestDay_b35 C hk10 hk hw hl hf) N
set_option maxRecDepth 20000 in
theorem w_Dy_fullestDay_b10 {N : Nat} {k10 : (St × Int32) → Option (Int32 × St)} {l1 : Int32} {r : Int32} {S9 : St} (C : Cx p s m args meth c E cX2_fullestDay 3 RX2 (some .int)) (hk10 : ∀ x, k10 x = some (r, S9) → ∀ (H : Heap) (locs : List Loc) (ls : Array Slot), Wd E (wX V E) s.heap x.1 H locs → lv_has ls 3 [(0, .ref (ea E 3)), (1, .int x.2)] → W p l e (rmh 4) s m args below meth c H locs 0 0 (MQ below (QW E (wX V E) (some (.int r)) S9) args s 0 0 (eA E)) (F0 m 10 ls [])) (hw : Wd E (wX V E) s.heap S H locs) (hl : lv_has ls 3 [(0, .ref (ea E 3)), (1, .int l1)]) (hf : Dy_fullestDay_b10 N k10 S l1 = some (r, S9)) : W p l e (rmh 4) s m args below meth c H locs 0 0 (MQ below (QW E (wX V E) (some (.int r)) S9) args s 0 0 (eA E)) (F0 m 10 ls []) := by
  have hx := C.1
  have hb := C.2.1
  unfold Dy_fullestDay_b10 at hf
  refine lv_iload_n hx hb dX2_fullestDay_10 rfl (lv_at hl 1 rfl) ?_
  refine lv_aload_n hx hb dX2_fullestDay_11 rfl (lv_at hl 0 rfl) ?_
  refine get_3_0 C hw q_289 dX2_fullestDay_12 ?_
  refine get_1_9 C hw q_136 dX2_fullestDay_15 ?_
  refine lv_icmp_ge (tgt := 72) hx hb dX2_fullestDay_18 (by decide) (fun q => ?_) (fun q => ?_)
  · have hf := hf_t q hf
    refine lv_iconst (v := 0) hx hb dX2_fullestDay_72 kc_0 ?_
    refine lv_istore_n (lv' := [(1, .int (0 : Int32)), (0, .ref (ea E 3))]) hx hb dX2_fullestDay_73 rfl hl (by decide) rfl (fun ls hl => ?_)
    refine lv_iconst (v := 1) hx hb dX2_fullestDay_74 kc_1 ?_
    refine lv_istore_n (lv' := [(2, .int (1 : Int32)), (1, .int (0 : Int32)), (0, .ref (ea E 3))]) hx hb dX2_fullestDay_75 rfl hl (by decide) rfl (fun ls hl => ?_)
    exact w_Dy_fullestDay_L76 C _ hf _ _ _ hw (lv_sub hl [2, 1, 0] rfl)
  · have hf := hf_f q hf
    refine lv_aload_n hx hb dX2_fullestDay_21 rfl (lv_at hl 0 rfl) ?_
    refine lv_iload_n hx hb dX2_fullestDay_22 rfl (lv_at hl 1 rfl) ?_
    refine lv_aload_n hx hb dX2_fullestDay_23 rfl (lv_at hl 0 rfl) ?_
    refine get_3_0 C hw q_289 dX2_fullestDay_24 ?_
    refine get_1_7 C hw q_129 dX2_fullestDay_27 ?_
    obtain ⟨S1, hr, hf⟩ := hf_1 hf
    refine inv_VAv (q0 := 3) (ci := 2) (As := fun E => [.int l1, .ref (ea E 18)]) lk_X2_59 C hw rfl rfl rfl (t_Dy_layOut hr) rfl hl.1 dX2_fullestDay_30 rfl (Nat.le_of_ble_eq_true rfl) (by decide) (Nat.le_of_ble_eq_true rfl) rfl (fun H locs hw => ?_)
    refine lv_iconst (v := 0) hx hb dX2_fullestDay_33 kc_0 ?_
    refine lv_istore_n (lv' := [(2, .int (0 : Int32)), (0, .ref (ea E 3)), (1, .int l1)]) hx hb dX2_fullestDay_34 rfl hl (by decide) rfl (fun ls hl => ?_)
    exact w_Dy_fullestDay_L35 C hk10 _ hf _ _ _ hw (lv_sub hl [1, 2, 0] rfl)
theorem w_Dy_fullestDay_L10 {N : Nat} {r : Int32} {S9 : St} (C : Cx p s m args meth c E cX2_fullestDay 3 RX2 (some .int)) : ∀ x, Dy_fullestDay_L10 N x = some (r, S9) → ∀ (H : Heap) (locs : List Loc) (ls : Array Slot), Wd E (wX V E) s.heap x.1 H locs → lv_has ls 3 [(0, .ref (ea E 3)), (1, .int x.2)] → W p l e (rmh 4) s m args below meth c H locs 0 0 (MQ below (QW E (wX V E) (some (.int r)) S9) args s 0 0 (eA E)) (F0 m 10 ls []) :=
  lp_W (fun k x hk hf H locs ls hw hl => w_Dy_fullestDay_b10 C hk hw hl hf) N
set_option maxRecDepth 20000 in
theorem w_Dy_fullestDay {N : Nat} {r : Int32} {S9 : St} (C : Cx p s m args meth c E cX2_fullestDay 3 RX2 (some .int)) (hw : Wd E (wX V E) s.heap S H locs) (hl : lv_has ls 3 [(0, .ref (ea E 3))]) (hf : Dy_fullestDay N S = some (r, S9)) : W p l e (rmh 4) s m args below meth c H locs 0 0 (MQ below (QW E (wX V E) (some (.int r)) S9) args s 0 0 (eA E)) (F0 m 0 ls []) := by
  have hx := C.1
  have hb := C.2.1
  unfold Dy_fullestDay at hf
  refine lv_aload_n hx hb dX2_fullestDay_0 rfl (lv_at hl 0 rfl) ?_
  refine get_3_2 C hw q_291 dX2_fullestDay_1 ?_
  refine lv_iconst (v := 0) hx hb dX2_fullestDay_4 kc_0 ?_
  obtain ⟨S1, hr, hf⟩ := hf_1 hf
  refine inv_SAv (As := fun E => [.ref (ea E 26), .int (0 : Int32)]) lk_X2_25 C hw (t_Ar_fill_53178 hr) hl.1 dX2_fullestDay_5 rfl (Nat.le_of_ble_eq_true rfl) (by decide) (Nat.le_of_ble_eq_true rfl) rfl (fun H locs hw => ?_)
  refine lv_iconst (v := 0) hx hb dX2_fullestDay_8 kc_0 ?_
  refine lv_istore_n (lv' := [(1, .int (0 : Int32)), (0, .ref (ea E 3))]) hx hb dX2_fullestDay_9 rfl hl (by decide) rfl (fun ls hl => ?_)
  exact w_Dy_fullestDay_L10 C _ hf _ _ _ hw (lv_sub hl [1, 0] rfl)
end
theorem t_Dy_fullestDay {l : Launch} {V : St} {N : Nat} {S : St} {r : Int32} {S9 : St} (hf : Dy_fullestDay N S = some (r, S9)) : Ct l (wX V) yX2_fullestDay cX2_fullestDay 3 (some .int) 4 (fun E => [.ref (ea E 3)]) S (fun E => some (.int r)) S9 :=
  ofBlock (by decide +kernel) (fun _ => Nat.le_of_ble_eq_true rfl) (fun E p e s m args below meth c ls C hw hl => w_Dy_fullestDay C hw hl hf)
theorem dX2_drawLife_0 : decode cX2_drawLife 0 = .ok (.iload_n 1, 1) := by decide +kernel
theorem dX2_drawLife_1 : decode cX2_drawLife 1 = .ok (.istore_n 2, 1) := by decide +kernel
theorem dX2_drawLife_2 : decode cX2_drawLife 2 = .ok (.iconst 0, 1) := by decide +kernel
theorem dX2_drawLife_3 : decode cX2_drawLife 3 = .ok (.istore_n 3, 1) := by decide +kernel
theorem dX2_drawLife_4 : decode cX2_drawLife 4 = .ok (.iload_n 3, 1) := by decide +kernel
theorem dX2_drawLife_5 : decode cX2_drawLife 5 = .ok (.aload_n 0, 1) := by decide +kernel
theorem dX2_drawLife_6 : decode cX2_drawLife 6 = .ok (.getfield 21, 3) := by decide +kernel
theorem dX2_drawLife_9 : decode cX2_drawLife 9 = .ok (.getfield 36, 3) := by decide +kernel
theorem dX2_drawLife_12 : decode cX2_drawLife 12 = .ok (.if_icmp .ge 53, 3) := by decide +kernel
theorem dX2_drawLife_15 : decode cX2_drawLife 15 = .ok (.iload_n 2, 1) := by decide +kernel
theorem dX2_drawLife_16 : decode cX2_drawLife 16 = .ok (.ldc 74, 2) := by decide +kernel
theorem dX2_drawLife_18 : decode cX2_drawLife 18 = .ok (.imul, 1) := by decide +kernel
theorem dX2_drawLife_19 : decode cX2_drawLife 19 = .ok (.sipush 12345, 3) := by decide +kernel
theorem dX2_drawLife_22 : decode cX2_drawLife 22 = .ok (.iadd, 1) := by decide +kernel
theorem dX2_drawLife_23 : decode cX2_drawLife 23 = .ok (.istore_n 2, 1) := by decide +kernel
theorem dX2_drawLife_24 : decode cX2_drawLife 24 = .ok (.iload_n 2, 1) := by decide +kernel
theorem dX2_drawLife_25 : decode cX2_drawLife 25 = .ok (.bipush 8, 2) := by decide +kernel
theorem dX2_drawLife_27 : decode cX2_drawLife 27 = .ok (.iushr, 1) := by decide +kernel
theorem dX2_drawLife_28 : decode cX2_drawLife 28 = .ok (.bipush 100, 2) := by decide +kernel
theorem dX2_drawLife_30 : decode cX2_drawLife 30 = .ok (.irem, 1) := by decide +kernel
theorem dX2_drawLife_31 : decode cX2_drawLife 31 = .ok (.istore 4, 2) := by decide +kernel
theorem dX2_drawLife_33 : decode cX2_drawLife 33 = .ok (.aload_n 0, 1) := by decide +kernel
theorem dX2_drawLife_34 : decode cX2_drawLife 34 = .ok (.getfield 18, 3) := by decide +kernel
theorem dX2_drawLife_37 : decode cX2_drawLife 37 = .ok (.iload_n 3, 1) := by decide +kernel
theorem dX2_drawLife_38 : decode cX2_drawLife 38 = .ok (.iload 4, 2) := by decide +kernel
theorem dX2_drawLife_40 : decode cX2_drawLife 40 = .ok (.aload_n 0, 1) := by decide +kernel
theorem dX2_drawLife_41 : decode cX2_drawLife 41 = .ok (.getfield 21, 3) := by decide +kernel
theorem dX2_drawLife_44 : decode cX2_drawLife 44 = .ok (.getfield 44, 3) := by decide +kernel
theorem dX2_drawLife_47 : decode cX2_drawLife 47 = .ok (.iload_n 3, 1) := by decide +kernel
theorem dX2_drawLife_48 : decode cX2_drawLife 48 = .ok (.iaload, 1) := by decide +kernel
theorem dX2_drawLife_49 : decode cX2_drawLife 49 = .ok (.if_icmp .lt 8, 3) := by decide +kernel
theorem dX2_drawLife_52 : decode cX2_drawLife 52 = .ok (.iload 4, 2) := by decide +kernel
theorem dX2_drawLife_54 : decode cX2_drawLife 54 = .ok (.goto 4, 3) := by decide +kernel
theorem dX2_drawLife_57 : decode cX2_drawLife 57 = .ok (.iconst (-1), 1) := by decide +kernel
theorem dX2_drawLife_58 : decode cX2_drawLife 58 = .ok (.iastore, 1) := by decide +kernel
theorem dX2_drawLife_59 : decode cX2_drawLife 59 = .ok (.iinc 3 1, 3) := by decide +kernel
theorem dX2_drawLife_62 : decode cX2_drawLife 62 = .ok (.goto (-58), 3) := by decide +kernel
theorem dX2_drawLife_65 : decode cX2_drawLife 65 = .ok (.iload_n 2, 1) := by decide +kernel
theorem dX2_drawLife_66 : decode cX2_drawLife 66 = .ok (.ireturn, 1) := by decide +kernel
section
variable {p : Program} {l : Launch} {e : Env} {s : State} {m : MethodId} {args : Array Value} {below : List Frame} {meth : Method} {c : Code} {H : Heap} {locs : List Loc} {E : Ev} {S V : St} {ls : Array Slot}
set_option maxRecDepth 20000 in
theorem w_Dy_drawLife_b4 {N : Nat} {k4 : (St × Int32 × Int32) → Option (Int32 × St)} {l2 : Int32} {l3 : Int32} {r : Int32} {S9 : St} (C : Cx p s m args meth c E cX2_drawLife 5 RX2 (some .int)) (hk4 : ∀ x, k4 x = some (r, S9) → ∀ (H : Heap) (locs : List Loc) (ls : Array Slot), Wd E (wX V E) s.heap x.1 H locs → lv_has ls 5 [(0, .ref (ea E 3)), (2, .int x.2.1), (3, .int x.2.2)] → W p l e (rmh 1) s m args below meth c H locs 0 0 (MQ below (QW E (wX V E) (some (.int r)) S9) args s 0 0 (eA E)) (F0 m 4 ls [])) (hw : Wd E (wX V E) s.heap S H locs) (hl : lv_has ls 5 [(0, .ref (ea E 3)), (2, .int l2), (3, .int l3)]) (hf : Dy_drawLife_b4 N k4 S l2 l3 = some (r, S9)) : W p l e (rmh 1) s m args below meth c H locs 0 0 (MQ below (QW E (wX V E) (some (.int r)) S9) args s 0 0 (eA E)) (F0 m 4 ls []) := by
  have hx := C.1
  have hb := C.2.1
  unfold Dy_drawLife_b4 at hf
  refine lv_iload_n hx hb dX2_drawLife_4 rfl (lv_at hl 2 rfl) ?_
  refine lv_aload_n hx hb dX2_drawLife_5 rfl (lv_at hl 0 rfl) ?_
  refine get_3_0 C hw q_289 dX2_drawLife_6 ?_
  refine get_1_10 C hw q_137 dX2_drawLife_9 ?_
  refine lv_icmp_ge (tgt := 65) hx hb dX2_drawLife_12 (by decide) (fun q => ?_) (fun q => ?_)
  · have hf := hf_t q hf
    refine lv_iload_n hx hb dX2_drawLife_65 rfl (lv_at hl 1 rfl) ?_
    exact ret_iS C hw dX2_drawLife_66 hf
  · have hf := hf_f q hf
    refine lv_iload_n hx hb dX2_drawLife_15 rfl (lv_at hl 1 rfl) ?_
    refine lv_ldc (v := 1103515245) hx hb C.2.2.2.1 (C.2.2.2.2.1 _ q_939) dX2_drawLife_16 ?_
    refine lv_imul hx hb dX2_drawLife_18 ?_
    refine lv_sipush (v := 12345) hx hb dX2_drawLife_19 ks_12345 ?_
    refine lv_iadd hx hb dX2_drawLife_22 ?_
    refine nm_i hf (fun x1 hf => ?_)
    refine lv_istore_n (lv' := [(2, .int x1), (0, .ref (ea E 3)), (3, .int l3)]) hx hb dX2_drawLife_23 rfl hl (by decide) rfl (fun ls hl => ?_)
    refine lv_iload_n hx hb dX2_drawLife_24 rfl (lv_at hl 0 rfl) ?_
    refine lv_bipush (v := 8) hx hb dX2_drawLife_25 kb_8 ?_
    refine lv_iushr hx hb dX2_drawLife_27 rfl ?_
    refine lv_bipush (v := 100) hx hb dX2_drawLife_28 kb_100 ?_
    refine lv_irem hx hb dX2_drawLife_30 (by decide) ?_
    refine nm_i hf (fun x2 hf => ?_)
    refine lv_istore (lv' := [(4, .int x2), (2, .int x1), (0, .ref (ea E 3)), (3, .int l3)]) hx hb dX2_drawLife_31 hl (by decide) rfl (fun ls hl => ?_)
    refine lv_aload_n hx hb dX2_drawLife_33 rfl (lv_at hl 2 rfl) ?_
    refine get_3_3 C hw q_292 dX2_drawLife_34 ?_
    refine lv_iload_n hx hb dX2_drawLife_37 rfl (lv_at hl 3 rfl) ?_
    refine lv_iload hx hb dX2_drawLife_38 (lv_at hl 0 rfl) ?_
    refine lv_aload_n hx hb dX2_drawLife_40 rfl (lv_at hl 2 rfl) ?_
    refine get_3_0 C hw q_289 dX2_drawLife_41 ?_
    refine get_1_4 C hw q_118 dX2_drawLife_44 ?_
    refine lv_iload_n hx hb dX2_drawLife_47 rfl (lv_at hl 3 rfl) ?_
    obtain ⟨hc, hf⟩ := hf_ck hf
    refine ld_15 C hw hc dX2_drawLife_48 ?_
    refine lv_icmp_lt (tgt := 57) hx hb dX2_drawLife_49 (by decide) (fun q => ?_) (fun q => ?_)
    · have hf := hf_t q hf
      refine lv_iconst (v := -1) hx hb dX2_drawLife_57 kc_m1 ?_
      obtain ⟨hc, hf⟩ := hf_ck hf
      refine st_27 C hw hc dX2_drawLife_58 (fun H locs hw => ?_)
      refine nm_S hf hw (fun S3 hf hw => ?_)
      obtain ⟨x4, ex4, hf⟩ := nme hf
      refine lv_iinc (v := x4) (lv' := [(3, .int x4), (4, .int x2), (2, .int x1), (0, .ref (ea E 3))]) hx hb dX2_drawLife_59 hl (k := 3) rfl (ki_1 ex4) (by decide) rfl (fun ls hl => ?_)
      refine lv_goto (tgt := 4) hx hb dX2_drawLife_62 (by decide) ?_
      exact hk4 _ hf _ _ _ hw (lv_sub hl [3, 2, 0] rfl)
    · have hf := hf_f q hf
      refine lv_iload hx hb dX2_drawLife_52 (lv_at hl 0 rfl) ?_
      refine lv_goto (tgt := 58) hx hb dX2_drawLife_54 (by decide) ?_
      obtain ⟨hc, hf⟩ := hf_ck hf
      refine st_27 C hw hc dX2_drawLife_58 (fun H locs hw => ?_)
      refine nm_S hf hw (fun S5 hf hw => ?_)
      obtain ⟨x6, ex6, hf⟩ := nme hf
      refine lv_iinc (v := x6) (lv' := [(3, .int x6), (4, .int x2), (2, .int x1), (0, .ref (ea E 3))]) hx hb dX2_drawLife_59 hl (k := 3) rfl (ki_1 ex6) (by decide) rfl (fun ls hl => ?_)
      refine lv_goto (tgt := 4) hx hb dX2_drawLife_62 (by decide) ?_
      exact hk4 _ hf _ _ _ hw (lv_sub hl [3, 2, 0] rfl)
theorem w_Dy_drawLife_L4 {N : Nat} {r : Int32} {S9 : St} (C : Cx p s m args meth c E cX2_drawLife 5 RX2 (some .int)) : ∀ x, Dy_drawLife_L4 N x = some (r, S9) → ∀ (H : Heap) (locs : List Loc) (ls : Array Slot), Wd E (wX V E) s.heap x.1 H locs → lv_has ls 5 [(0, .ref (ea E 3)), (2, .int x.2.1), (3, .int x.2.2)] → W p l e (rmh 1) s m args below meth c H locs 0 0 (MQ below (QW E (wX V E) (some (.int r)) S9) args s 0 0 (eA E)) (F0 m 4 ls []) :=
  lp_W (fun k x hk hf H locs ls hw hl => w_Dy_drawLife_b4 C hk hw hl hf) N
set_option maxRecDepth 20000 in
theorem w_Dy_drawLife {N : Nat} {p1 : Int32} {r : Int32} {S9 : St} (C : Cx p s m args meth c E cX2_drawLife 5 RX2 (some .int)) (hw : Wd E (wX V E) s.heap S H locs) (hl : lv_has ls 5 [(0, .ref (ea E 3)), (1, .int p1)]) (hf : Dy_drawLife N S p1 = some (r, S9)) : W p l e (rmh 1) s m args below meth c H locs 0 0 (MQ below (QW E (wX V E) (some (.int r)) S9) args s 0 0 (eA E)) (F0 m 0 ls []) := by
  have hx := C.1
  have hb := C.2.1
  unfold Dy_drawLife at hf
  refine lv_iload_n hx hb dX2_drawLife_0 rfl (lv_at hl 1 rfl) ?_
  refine lv_istore_n (lv' := [(2, .int p1), (0, .ref (ea E 3)), (1, .int p1)]) hx hb dX2_drawLife_1 rfl hl (by decide) rfl (fun ls hl => ?_)
  refine lv_iconst (v := 0) hx hb dX2_drawLife_2 kc_0 ?_
  refine lv_istore_n (lv' := [(3, .int (0 : Int32)), (2, .int p1), (0, .ref (ea E 3)), (1, .int p1)]) hx hb dX2_drawLife_3 rfl hl (by decide) rfl (fun ls hl => ?_)
  exact w_Dy_drawLife_L4 C _ hf _ _ _ hw (lv_sub hl [2, 1, 0] rfl)
end
theorem t_Dy_drawLife {l : Launch} {V : St} {N : Nat} {S : St} {p1 : Int32} {r : Int32} {S9 : St} (hf : Dy_drawLife N S p1 = some (r, S9)) : Ct l (wX V) yX2_drawLife cX2_drawLife 5 (some .int) 1 (fun E => [.ref (ea E 3), .int p1]) S (fun E => some (.int r)) S9 :=
  ofBlock (by decide +kernel) (fun _ => Nat.le_of_ble_eq_true rfl) (fun E p e s m args below meth c ls C hw hl => w_Dy_drawLife C hw hl hf)
theorem dX2_drawnRides_0 : decode cX2_drawnRides 0 = .ok (.iload_n 1, 1) := by decide +kernel
theorem dX2_drawnRides_1 : decode cX2_drawnRides 1 = .ok (.istore 5, 2) := by decide +kernel
theorem dX2_drawnRides_3 : decode cX2_drawnRides 3 = .ok (.iconst 0, 1) := by decide +kernel
theorem dX2_drawnRides_4 : decode cX2_drawnRides 4 = .ok (.istore 6, 2) := by decide +kernel
theorem dX2_drawnRides_6 : decode cX2_drawnRides 6 = .ok (.iconst 0, 1) := by decide +kernel
theorem dX2_drawnRides_7 : decode cX2_drawnRides 7 = .ok (.istore 7, 2) := by decide +kernel
theorem dX2_drawnRides_9 : decode cX2_drawnRides 9 = .ok (.iload 7, 2) := by decide +kernel
theorem dX2_drawnRides_11 : decode cX2_drawnRides 11 = .ok (.iload_n 2, 1) := by decide +kernel
theorem dX2_drawnRides_12 : decode cX2_drawnRides 12 = .ok (.if_icmp .ge 57, 3) := by decide +kernel
theorem dX2_drawnRides_15 : decode cX2_drawnRides 15 = .ok (.aload_n 0, 1) := by decide +kernel
theorem dX2_drawnRides_16 : decode cX2_drawnRides 16 = .ok (.iload 5, 2) := by decide +kernel
theorem dX2_drawnRides_18 : decode cX2_drawnRides 18 = .ok (.invokevirtual 70, 3) := by decide +kernel
theorem dX2_drawnRides_21 : decode cX2_drawnRides 21 = .ok (.istore 5, 2) := by decide +kernel
theorem dX2_drawnRides_23 : decode cX2_drawnRides 23 = .ok (.aload_n 0, 1) := by decide +kernel
theorem dX2_drawnRides_24 : decode cX2_drawnRides 24 = .ok (.iload_n 3, 1) := by decide +kernel
theorem dX2_drawnRides_25 : decode cX2_drawnRides 25 = .ok (.aload_n 0, 1) := by decide +kernel
theorem dX2_drawnRides_26 : decode cX2_drawnRides 26 = .ok (.getfield 18, 3) := by decide +kernel
theorem dX2_drawnRides_29 : decode cX2_drawnRides 29 = .ok (.invokevirtual 59, 3) := by decide +kernel
theorem dX2_drawnRides_32 : decode cX2_drawnRides 32 = .ok (.iload 6, 2) := by decide +kernel
theorem dX2_drawnRides_34 : decode cX2_drawnRides 34 = .ok (.iload 4, 2) := by decide +kernel
theorem dX2_drawnRides_36 : decode cX2_drawnRides 36 = .ok (.iconst (-1), 1) := by decide +kernel
theorem dX2_drawnRides_37 : decode cX2_drawnRides 37 = .ok (.if_icmp .ne 14, 3) := by decide +kernel
theorem dX2_drawnRides_40 : decode cX2_drawnRides 40 = .ok (.aload_n 0, 1) := by decide +kernel
theorem dX2_drawnRides_41 : decode cX2_drawnRides 41 = .ok (.iload_n 3, 1) := by decide +kernel
theorem dX2_drawnRides_42 : decode cX2_drawnRides 42 = .ok (.iconst 0, 1) := by decide +kernel
theorem dX2_drawnRides_43 : decode cX2_drawnRides 43 = .ok (.bipush 99, 2) := by decide +kernel
theorem dX2_drawnRides_45 : decode cX2_drawnRides 45 = .ok (.invokevirtual 63, 3) := by decide +kernel
theorem dX2_drawnRides_48 : decode cX2_drawnRides 48 = .ok (.goto 12, 3) := by decide +kernel
theorem dX2_drawnRides_51 : decode cX2_drawnRides 51 = .ok (.aload_n 0, 1) := by decide +kernel
theorem dX2_drawnRides_52 : decode cX2_drawnRides 52 = .ok (.iload_n 3, 1) := by decide +kernel
theorem dX2_drawnRides_53 : decode cX2_drawnRides 53 = .ok (.iload 4, 2) := by decide +kernel
theorem dX2_drawnRides_55 : decode cX2_drawnRides 55 = .ok (.iload 4, 2) := by decide +kernel
theorem dX2_drawnRides_57 : decode cX2_drawnRides 57 = .ok (.invokevirtual 63, 3) := by decide +kernel
theorem dX2_drawnRides_60 : decode cX2_drawnRides 60 = .ok (.iadd, 1) := by decide +kernel
theorem dX2_drawnRides_61 : decode cX2_drawnRides 61 = .ok (.istore 6, 2) := by decide +kernel
theorem dX2_drawnRides_63 : decode cX2_drawnRides 63 = .ok (.iinc 7 1, 3) := by decide +kernel
theorem dX2_drawnRides_66 : decode cX2_drawnRides 66 = .ok (.goto (-57), 3) := by decide +kernel
theorem dX2_drawnRides_69 : decode cX2_drawnRides 69 = .ok (.iload 6, 2) := by decide +kernel
theorem dX2_drawnRides_71 : decode cX2_drawnRides 71 = .ok (.ireturn, 1) := by decide +kernel
section
variable {p : Program} {l : Launch} {e : Env} {s : State} {m : MethodId} {args : Array Value} {below : List Frame} {meth : Method} {c : Code} {H : Heap} {locs : List Loc} {E : Ev} {S V : St} {ls : Array Slot}
set_option maxRecDepth 20000 in
theorem w_Dy_drawnRides_b9 {N : Nat} {k9 : (St × Int32 × Int32 × Int32) → Option (Int32 × St)} {l2 : Int32} {l3 : Int32} {l4 : Int32} {l5 : Int32} {l6 : Int32} {l7 : Int32} {r : Int32} {S9 : St} (C : Cx p s m args meth c E cX2_drawnRides 8 RX2 (some .int)) (hk9 : ∀ x, k9 x = some (r, S9) → ∀ (H : Heap) (locs : List Loc) (ls : Array Slot), Wd E (wX V E) s.heap x.1 H locs → lv_has ls 8 [(0, .ref (ea E 3)), (2, .int l2), (3, .int l3), (4, .int l4), (5, .int x.2.1), (6, .int x.2.2.1), (7, .int x.2.2.2)] → W p l e (rmh 5) s m args below meth c H locs 0 0 (MQ below (QW E (wX V E) (some (.int r)) S9) args s 0 0 (eA E)) (F0 m 9 ls [])) (hw : Wd E (wX V E) s.heap S H locs) (hl : lv_has ls 8 [(0, .ref (ea E 3)), (2, .int l2), (3, .int l3), (4, .int l4), (5, .int l5), (6, .int l6), (7, .int l7)]) (hf : Dy_drawnRides_b9 N k9 S l2 l3 l4 l5 l6 l7 = some (r, S9)) : W p l e (rmh 5) s m args below meth c H locs 0 0 (MQ below (QW E (wX V E) (some (.int r)) S9) args s 0 0 (eA E)) (F0 m 9 ls []) := by
  have hx := C.1
  have hb := C.2.1
  unfold Dy_drawnRides_b9 at hf
  refine lv_iload hx hb dX2_drawnRides_9 (lv_at hl 6 rfl) ?_
  refine lv_iload_n hx hb dX2_drawnRides_11 rfl (lv_at hl 1 rfl) ?_
  refine lv_icmp_ge (tgt := 69) hx hb dX2_drawnRides_12 (by decide) (fun q => ?_) (fun q => ?_)
  · have hf := hf_t q hf
    refine lv_iload hx hb dX2_drawnRides_69 (lv_at hl 5 rfl) ?_
    exact ret_iS C hw dX2_drawnRides_71 hf
  · have hf := hf_f q hf
    refine lv_aload_n hx hb dX2_drawnRides_15 rfl (lv_at hl 0 rfl) ?_
    refine lv_iload hx hb dX2_drawnRides_16 (lv_at hl 4 rfl) ?_
    obtain ⟨r2, S1, hr, hf⟩ := hf_2 hf
    refine inv_Vi (q0 := 3) (ci := 2) (As := [.int l5]) lk_X2_70 C hw rfl rfl rfl (t_Dy_drawLife hr) rfl hl.1 dX2_drawnRides_18 rfl (Nat.le_of_ble_eq_true rfl) (by decide) (Nat.le_of_ble_eq_true rfl) rfl (fun H locs hw => ?_)
    refine lv_istore (lv' := [(5, .int r2), (0, .ref (ea E 3)), (2, .int l2), (3, .int l3), (4, .int l4), (6, .int l6), (7, .int l7)]) hx hb dX2_drawnRides_21 hl (by decide) rfl (fun ls hl => ?_)
    refine lv_aload_n hx hb dX2_drawnRides_23 rfl (lv_at hl 1 rfl) ?_
    refine lv_iload_n hx hb dX2_drawnRides_24 rfl (lv_at hl 3 rfl) ?_
    refine lv_aload_n hx hb dX2_drawnRides_25 rfl (lv_at hl 1 rfl) ?_
    refine get_3_3 C hw q_292 dX2_drawnRides_26 ?_
    obtain ⟨S3, hr, hf⟩ := hf_1 hf
    refine inv_VAv (q0 := 3) (ci := 2) (As := fun E => [.int l3, .ref (ea E 27)]) lk_X2_59 C hw rfl rfl rfl (t_Dy_layOut hr) rfl hl.1 dX2_drawnRides_29 rfl (Nat.le_of_ble_eq_true rfl) (by decide) (Nat.le_of_ble_eq_true rfl) rfl (fun H locs hw => ?_)
    refine lv_iload hx hb dX2_drawnRides_32 (lv_at hl 5 rfl) ?_
    refine lv_iload hx hb dX2_drawnRides_34 (lv_at hl 4 rfl) ?_
    refine lv_iconst (v := -1) hx hb dX2_drawnRides_36 kc_m1 ?_
    refine lv_icmp_ne (tgt := 51) hx hb dX2_drawnRides_37 (by decide) (fun q => ?_) (fun q => ?_)
    · have hf := hf_f q hf
      refine lv_aload_n hx hb dX2_drawnRides_51 rfl (lv_at hl 1 rfl) ?_
      refine lv_iload_n hx hb dX2_drawnRides_52 rfl (lv_at hl 3 rfl) ?_
      refine lv_iload hx hb dX2_drawnRides_53 (lv_at hl 4 rfl) ?_
      refine lv_iload hx hb dX2_drawnRides_55 (lv_at hl 4 rfl) ?_
      obtain ⟨r4, hr, hf⟩ := hf_1 hf
      refine inv_Vi (q0 := 3) (ci := 2) (As := [.int l3, .int l4, .int l4]) lk_X2_63 C hw rfl rfl rfl (t_Dy_ridesLaidOutWithin hr) rfl hl.1 dX2_drawnRides_57 rfl (Nat.le_of_ble_eq_true rfl) (by decide) (Nat.le_of_ble_eq_true rfl) rfl (fun H locs hw => ?_)
      refine lv_iadd hx hb dX2_drawnRides_60 ?_
      refine nm_i hf (fun x5 hf => ?_)
      refine lv_istore (lv' := [(6, .int x5), (5, .int r2), (0, .ref (ea E 3)), (2, .int l2), (3, .int l3), (4, .int l4), (7, .int l7)]) hx hb dX2_drawnRides_61 hl (by decide) rfl (fun ls hl => ?_)
      obtain ⟨x6, ex6, hf⟩ := nme hf
      refine lv_iinc (v := x6) (lv' := [(7, .int x6), (6, .int x5), (5, .int r2), (0, .ref (ea E 3)), (2, .int l2), (3, .int l3), (4, .int l4)]) hx hb dX2_drawnRides_63 hl (k := 6) rfl (ki_1 ex6) (by decide) rfl (fun ls hl => ?_)
      refine lv_goto (tgt := 9) hx hb dX2_drawnRides_66 (by decide) ?_
      exact hk9 _ hf _ _ _ hw (lv_sub hl [3, 4, 5, 6, 2, 1, 0] rfl)
    · have hf := hf_t q hf
      refine lv_aload_n hx hb dX2_drawnRides_40 rfl (lv_at hl 1 rfl) ?_
      refine lv_iload_n hx hb dX2_drawnRides_41 rfl (lv_at hl 3 rfl) ?_
      refine lv_iconst (v := 0) hx hb dX2_drawnRides_42 kc_0 ?_
      refine lv_bipush (v := 99) hx hb dX2_drawnRides_43 kb_99 ?_
      obtain ⟨r7, hr, hf⟩ := hf_1 hf
      refine inv_Vi (q0 := 3) (ci := 2) (As := [.int l3, .int (0 : Int32), .int (99 : Int32)]) lk_X2_63 C hw rfl rfl rfl (t_Dy_ridesLaidOutWithin hr) rfl hl.1 dX2_drawnRides_45 rfl (Nat.le_of_ble_eq_true rfl) (by decide) (Nat.le_of_ble_eq_true rfl) rfl (fun H locs hw => ?_)
      refine lv_goto (tgt := 60) hx hb dX2_drawnRides_48 (by decide) ?_
      refine lv_iadd hx hb dX2_drawnRides_60 ?_
      refine nm_i hf (fun x8 hf => ?_)
      refine lv_istore (lv' := [(6, .int x8), (5, .int r2), (0, .ref (ea E 3)), (2, .int l2), (3, .int l3), (4, .int l4), (7, .int l7)]) hx hb dX2_drawnRides_61 hl (by decide) rfl (fun ls hl => ?_)
      obtain ⟨x9, ex9, hf⟩ := nme hf
      refine lv_iinc (v := x9) (lv' := [(7, .int x9), (6, .int x8), (5, .int r2), (0, .ref (ea E 3)), (2, .int l2), (3, .int l3), (4, .int l4)]) hx hb dX2_drawnRides_63 hl (k := 6) rfl (ki_1 ex9) (by decide) rfl (fun ls hl => ?_)
      refine lv_goto (tgt := 9) hx hb dX2_drawnRides_66 (by decide) ?_
      exact hk9 _ hf _ _ _ hw (lv_sub hl [3, 4, 5, 6, 2, 1, 0] rfl)
theorem w_Dy_drawnRides_L9 {N : Nat} {l2 : Int32} {l3 : Int32} {l4 : Int32} {r : Int32} {S9 : St} (C : Cx p s m args meth c E cX2_drawnRides 8 RX2 (some .int)) : ∀ x, Dy_drawnRides_L9 N l2 l3 l4 x = some (r, S9) → ∀ (H : Heap) (locs : List Loc) (ls : Array Slot), Wd E (wX V E) s.heap x.1 H locs → lv_has ls 8 [(0, .ref (ea E 3)), (2, .int l2), (3, .int l3), (4, .int l4), (5, .int x.2.1), (6, .int x.2.2.1), (7, .int x.2.2.2)] → W p l e (rmh 5) s m args below meth c H locs 0 0 (MQ below (QW E (wX V E) (some (.int r)) S9) args s 0 0 (eA E)) (F0 m 9 ls []) :=
  lp_W (fun k x hk hf H locs ls hw hl => w_Dy_drawnRides_b9 C hk hw hl hf) N
set_option maxRecDepth 20000 in
theorem w_Dy_drawnRides {N : Nat} {p1 : Int32} {p2 : Int32} {p3 : Int32} {p4 : Int32} {r : Int32} {S9 : St} (C : Cx p s m args meth c E cX2_drawnRides 8 RX2 (some .int)) (hw : Wd E (wX V E) s.heap S H locs) (hl : lv_has ls 8 [(0, .ref (ea E 3)), (1, .int p1), (2, .int p2), (3, .int p3), (4, .int p4)]) (hf : Dy_drawnRides N S p1 p2 p3 p4 = some (r, S9)) : W p l e (rmh 5) s m args below meth c H locs 0 0 (MQ below (QW E (wX V E) (some (.int r)) S9) args s 0 0 (eA E)) (F0 m 0 ls []) := by
  have hx := C.1
  have hb := C.2.1
  unfold Dy_drawnRides at hf
  refine lv_iload_n hx hb dX2_drawnRides_0 rfl (lv_at hl 1 rfl) ?_
  refine lv_istore (lv' := [(5, .int p1), (0, .ref (ea E 3)), (1, .int p1), (2, .int p2), (3, .int p3), (4, .int p4)]) hx hb dX2_drawnRides_1 hl (by decide) rfl (fun ls hl => ?_)
  refine lv_iconst (v := 0) hx hb dX2_drawnRides_3 kc_0 ?_
  refine lv_istore (lv' := [(6, .int (0 : Int32)), (5, .int p1), (0, .ref (ea E 3)), (1, .int p1), (2, .int p2), (3, .int p3), (4, .int p4)]) hx hb dX2_drawnRides_4 hl (by decide) rfl (fun ls hl => ?_)
  refine lv_iconst (v := 0) hx hb dX2_drawnRides_6 kc_0 ?_
  refine lv_istore (lv' := [(7, .int (0 : Int32)), (6, .int (0 : Int32)), (5, .int p1), (0, .ref (ea E 3)), (1, .int p1), (2, .int p2), (3, .int p3), (4, .int p4)]) hx hb dX2_drawnRides_7 hl (by decide) rfl (fun ls hl => ?_)
  exact w_Dy_drawnRides_L9 C _ hf _ _ _ hw (lv_sub hl [3, 5, 6, 7, 2, 1, 0] rfl)
end
theorem t_Dy_drawnRides {l : Launch} {V : St} {N : Nat} {S : St} {p1 : Int32} {p2 : Int32} {p3 : Int32} {p4 : Int32} {r : Int32} {S9 : St} (hf : Dy_drawnRides N S p1 p2 p3 p4 = some (r, S9)) : Ct l (wX V) yX2_drawnRides cX2_drawnRides 8 (some .int) 5 (fun E => [.ref (ea E 3), .int p1, .int p2, .int p3, .int p4]) S (fun E => some (.int r)) S9 :=
  ofBlock (by decide +kernel) (fun _ => Nat.le_of_ble_eq_true rfl) (fun E p e s m args below meth c ls C hw hl => w_Dy_drawnRides C hw hl hf)
theorem dX2_ridersIfHanded_0 : decode cX2_ridersIfHanded 0 = .ok (.aload_n 0, 1) := by decide +kernel
theorem dX2_ridersIfHanded_1 : decode cX2_ridersIfHanded 1 = .ok (.getfield 21, 3) := by decide +kernel
theorem dX2_ridersIfHanded_4 : decode cX2_ridersIfHanded 4 = .ok (.iload_n 1, 1) := by decide +kernel
theorem dX2_ridersIfHanded_5 : decode cX2_ridersIfHanded 5 = .ok (.iload_n 3, 1) := by decide +kernel
theorem dX2_ridersIfHanded_6 : decode cX2_ridersIfHanded 6 = .ok (.invokevirtual 75, 3) := by decide +kernel
theorem dX2_ridersIfHanded_9 : decode cX2_ridersIfHanded 9 = .ok (.ifCond .eq 15, 3) := by decide +kernel
theorem dX2_ridersIfHanded_12 : decode cX2_ridersIfHanded 12 = .ok (.aload_n 0, 1) := by decide +kernel
theorem dX2_ridersIfHanded_13 : decode cX2_ridersIfHanded 13 = .ok (.getfield 21, 3) := by decide +kernel
theorem dX2_ridersIfHanded_16 : decode cX2_ridersIfHanded 16 = .ok (.getfield 47, 3) := by decide +kernel
theorem dX2_ridersIfHanded_19 : decode cX2_ridersIfHanded 19 = .ok (.iload_n 1, 1) := by decide +kernel
theorem dX2_ridersIfHanded_20 : decode cX2_ridersIfHanded 20 = .ok (.iaload, 1) := by decide +kernel
theorem dX2_ridersIfHanded_21 : decode cX2_ridersIfHanded 21 = .ok (.goto 4, 3) := by decide +kernel
theorem dX2_ridersIfHanded_24 : decode cX2_ridersIfHanded 24 = .ok (.iconst 0, 1) := by decide +kernel
theorem dX2_ridersIfHanded_25 : decode cX2_ridersIfHanded 25 = .ok (.istore 4, 2) := by decide +kernel
theorem dX2_ridersIfHanded_27 : decode cX2_ridersIfHanded 27 = .ok (.iconst 0, 1) := by decide +kernel
theorem dX2_ridersIfHanded_28 : decode cX2_ridersIfHanded 28 = .ok (.istore 5, 2) := by decide +kernel
theorem dX2_ridersIfHanded_30 : decode cX2_ridersIfHanded 30 = .ok (.iconst 0, 1) := by decide +kernel
theorem dX2_ridersIfHanded_31 : decode cX2_ridersIfHanded 31 = .ok (.istore 6, 2) := by decide +kernel
theorem dX2_ridersIfHanded_33 : decode cX2_ridersIfHanded 33 = .ok (.iload 6, 2) := by decide +kernel
theorem dX2_ridersIfHanded_35 : decode cX2_ridersIfHanded 35 = .ok (.aload_n 0, 1) := by decide +kernel
theorem dX2_ridersIfHanded_36 : decode cX2_ridersIfHanded 36 = .ok (.getfield 21, 3) := by decide +kernel
theorem dX2_ridersIfHanded_39 : decode cX2_ridersIfHanded 39 = .ok (.getfield 67, 3) := by decide +kernel
theorem dX2_ridersIfHanded_42 : decode cX2_ridersIfHanded 42 = .ok (.if_icmp .ge 75, 3) := by decide +kernel
theorem dX2_ridersIfHanded_45 : decode cX2_ridersIfHanded 45 = .ok (.aload_n 0, 1) := by decide +kernel
theorem dX2_ridersIfHanded_46 : decode cX2_ridersIfHanded 46 = .ok (.getfield 21, 3) := by decide +kernel
theorem dX2_ridersIfHanded_49 : decode cX2_ridersIfHanded 49 = .ok (.iload 6, 2) := by decide +kernel
theorem dX2_ridersIfHanded_51 : decode cX2_ridersIfHanded 51 = .ok (.iload_n 3, 1) := by decide +kernel
theorem dX2_ridersIfHanded_52 : decode cX2_ridersIfHanded 52 = .ok (.invokevirtual 78, 3) := by decide +kernel
theorem dX2_ridersIfHanded_55 : decode cX2_ridersIfHanded 55 = .ok (.istore 7, 2) := by decide +kernel
theorem dX2_ridersIfHanded_57 : decode cX2_ridersIfHanded 57 = .ok (.iload 6, 2) := by decide +kernel
theorem dX2_ridersIfHanded_59 : decode cX2_ridersIfHanded 59 = .ok (.iload_n 2, 1) := by decide +kernel
theorem dX2_ridersIfHanded_60 : decode cX2_ridersIfHanded 60 = .ok (.if_icmp .ne 13, 3) := by decide +kernel
theorem dX2_ridersIfHanded_63 : decode cX2_ridersIfHanded 63 = .ok (.iload 7, 2) := by decide +kernel
theorem dX2_ridersIfHanded_65 : decode cX2_ridersIfHanded 65 = .ok (.iload 4, 2) := by decide +kernel
theorem dX2_ridersIfHanded_67 : decode cX2_ridersIfHanded 67 = .ok (.iadd, 1) := by decide +kernel
theorem dX2_ridersIfHanded_68 : decode cX2_ridersIfHanded 68 = .ok (.istore 7, 2) := by decide +kernel
theorem dX2_ridersIfHanded_70 : decode cX2_ridersIfHanded 70 = .ok (.goto 24, 3) := by decide +kernel
theorem dX2_ridersIfHanded_73 : decode cX2_ridersIfHanded 73 = .ok (.iload 6, 2) := by decide +kernel
theorem dX2_ridersIfHanded_75 : decode cX2_ridersIfHanded 75 = .ok (.aload_n 0, 1) := by decide +kernel
theorem dX2_ridersIfHanded_76 : decode cX2_ridersIfHanded 76 = .ok (.getfield 21, 3) := by decide +kernel
theorem dX2_ridersIfHanded_79 : decode cX2_ridersIfHanded 79 = .ok (.getfield 82, 3) := by decide +kernel
theorem dX2_ridersIfHanded_82 : decode cX2_ridersIfHanded 82 = .ok (.iload_n 1, 1) := by decide +kernel
theorem dX2_ridersIfHanded_83 : decode cX2_ridersIfHanded 83 = .ok (.iaload, 1) := by decide +kernel
theorem dX2_ridersIfHanded_84 : decode cX2_ridersIfHanded 84 = .ok (.if_icmp .ne 10, 3) := by decide +kernel
theorem dX2_ridersIfHanded_87 : decode cX2_ridersIfHanded 87 = .ok (.iload 7, 2) := by decide +kernel
theorem dX2_ridersIfHanded_89 : decode cX2_ridersIfHanded 89 = .ok (.iload 4, 2) := by decide +kernel
theorem dX2_ridersIfHanded_91 : decode cX2_ridersIfHanded 91 = .ok (.isub, 1) := by decide +kernel
theorem dX2_ridersIfHanded_92 : decode cX2_ridersIfHanded 92 = .ok (.istore 7, 2) := by decide +kernel
theorem dX2_ridersIfHanded_94 : decode cX2_ridersIfHanded 94 = .ok (.aload_n 0, 1) := by decide +kernel
theorem dX2_ridersIfHanded_95 : decode cX2_ridersIfHanded 95 = .ok (.getfield 21, 3) := by decide +kernel
theorem dX2_ridersIfHanded_98 : decode cX2_ridersIfHanded 98 = .ok (.iload 6, 2) := by decide +kernel
theorem dX2_ridersIfHanded_100 : decode cX2_ridersIfHanded 100 = .ok (.iload 7, 2) := by decide +kernel
theorem dX2_ridersIfHanded_102 : decode cX2_ridersIfHanded 102 = .ok (.invokevirtual 50, 3) := by decide +kernel
theorem dX2_ridersIfHanded_105 : decode cX2_ridersIfHanded 105 = .ok (.ifCond .eq 6, 3) := by decide +kernel
theorem dX2_ridersIfHanded_108 : decode cX2_ridersIfHanded 108 = .ok (.iinc 5 1, 3) := by decide +kernel
theorem dX2_ridersIfHanded_111 : decode cX2_ridersIfHanded 111 = .ok (.iinc 6 1, 3) := by decide +kernel
theorem dX2_ridersIfHanded_114 : decode cX2_ridersIfHanded 114 = .ok (.goto (-81), 3) := by decide +kernel
theorem dX2_ridersIfHanded_117 : decode cX2_ridersIfHanded 117 = .ok (.iload 5, 2) := by decide +kernel
theorem dX2_ridersIfHanded_119 : decode cX2_ridersIfHanded 119 = .ok (.ireturn, 1) := by decide +kernel
section
variable {p : Program} {l : Launch} {e : Env} {s : State} {m : MethodId} {args : Array Value} {below : List Frame} {meth : Method} {c : Code} {H : Heap} {locs : List Loc} {E : Ev} {S V : St} {ls : Array Slot}
set_option maxRecDepth 20000 in
theorem w_Dy_ridersIfHanded_b94 {N : Nat} {k33 : (Int32 × Int32) → Option Int32} {l1 : Int32} {l2 : Int32} {l3 : Int32} {l4 : Int32} {l5 : Int32} {l6 : Int32} {l7 : Int32} {r : Int32} (C : Cx p s m args meth c E cX2_ridersIfHanded 8 RX2 (some .int)) (hk33 : ∀ x, k33 x = some r → ∀ (H : Heap) (locs : List Loc) (ls : Array Slot), Wd E (wX V E) s.heap S H locs → lv_has ls 8 [(0, .ref (ea E 3)), (1, .int l1), (2, .int l2), (3, .int l3), (4, .int l4), (5, .int x.1), (6, .int x.2)] → W p l e (rmh 3) s m args below meth c H locs 0 0 (MQ below (QW E (wX V E) (some (.int r)) S) args s 0 0 (eA E)) (F0 m 33 ls [])) (hw : Wd E (wX V E) s.heap S H locs) (hl : lv_has ls 8 [(0, .ref (ea E 3)), (1, .int l1), (2, .int l2), (3, .int l3), (4, .int l4), (5, .int l5), (6, .int l6), (7, .int l7)]) (hf : Dy_ridersIfHanded_b94 N k33 S l1 l2 l3 l4 l5 l6 l7 = some r) : W p l e (rmh 3) s m args below meth c H locs 0 0 (MQ below (QW E (wX V E) (some (.int r)) S) args s 0 0 (eA E)) (F0 m 94 ls []) := by
  have hx := C.1
  have hb := C.2.1
  unfold Dy_ridersIfHanded_b94 at hf
  refine lv_aload_n hx hb dX2_ridersIfHanded_94 rfl (lv_at hl 0 rfl) ?_
  refine get_3_0 C hw q_289 dX2_ridersIfHanded_95 ?_
  refine lv_iload hx hb dX2_ridersIfHanded_98 (lv_at hl 6 rfl) ?_
  refine lv_iload hx hb dX2_ridersIfHanded_100 (lv_at hl 7 rfl) ?_
  obtain ⟨r1, hr, hf⟩ := hf_1 hf
  refine inv_Vi (q0 := 1) (ci := 8) (As := [.int l6, .int l7]) lk_X2_50 C hw rfl rfl rfl (t_Sm_goesRound hr) rfl hl.1 dX2_ridersIfHanded_102 rfl (Nat.le_of_ble_eq_true rfl) (by decide) (Nat.le_of_ble_eq_true rfl) rfl (fun H locs hw => ?_)
  refine lv_if_eq (tgt := 111) hx hb dX2_ridersIfHanded_105 (by decide) (fun q => ?_) (fun q => ?_)
  · have hf := hf_t q hf
    obtain ⟨x2, ex2, hf⟩ := nme hf
    refine lv_iinc (v := x2) (lv' := [(6, .int x2), (0, .ref (ea E 3)), (1, .int l1), (2, .int l2), (3, .int l3), (4, .int l4), (5, .int l5), (7, .int l7)]) hx hb dX2_ridersIfHanded_111 hl (k := 6) rfl (ki_1 ex2) (by decide) rfl (fun ls hl => ?_)
    refine lv_goto (tgt := 33) hx hb dX2_ridersIfHanded_114 (by decide) ?_
    exact hk33 _ hf _ _ _ hw (lv_sub hl [1, 2, 3, 4, 5, 6, 0] rfl)
  · have hf := hf_f q hf
    obtain ⟨x3, ex3, hf⟩ := nme hf
    refine lv_iinc (v := x3) (lv' := [(5, .int x3), (0, .ref (ea E 3)), (1, .int l1), (2, .int l2), (3, .int l3), (4, .int l4), (6, .int l6), (7, .int l7)]) hx hb dX2_ridersIfHanded_108 hl (k := 5) rfl (ki_1 ex3) (by decide) rfl (fun ls hl => ?_)
    obtain ⟨x4, ex4, hf⟩ := nme hf
    refine lv_iinc (v := x4) (lv' := [(6, .int x4), (5, .int x3), (0, .ref (ea E 3)), (1, .int l1), (2, .int l2), (3, .int l3), (4, .int l4), (7, .int l7)]) hx hb dX2_ridersIfHanded_111 hl (k := 6) rfl (ki_1 ex4) (by decide) rfl (fun ls hl => ?_)
    refine lv_goto (tgt := 33) hx hb dX2_ridersIfHanded_114 (by decide) ?_
    exact hk33 _ hf _ _ _ hw (lv_sub hl [2, 3, 4, 5, 6, 1, 0] rfl)
set_option maxRecDepth 20000 in
theorem w_Dy_ridersIfHanded_b33 {N : Nat} {k33 : (Int32 × Int32) → Option Int32} {l1 : Int32} {l2 : Int32} {l3 : Int32} {l4 : Int32} {l5 : Int32} {l6 : Int32} {r : Int32} (C : Cx p s m args meth c E cX2_ridersIfHanded 8 RX2 (some .int)) (hk33 : ∀ x, k33 x = some r → ∀ (H : Heap) (locs : List Loc) (ls : Array Slot), Wd E (wX V E) s.heap S H locs → lv_has ls 8 [(0, .ref (ea E 3)), (1, .int l1), (2, .int l2), (3, .int l3), (4, .int l4), (5, .int x.1), (6, .int x.2)] → W p l e (rmh 3) s m args below meth c H locs 0 0 (MQ below (QW E (wX V E) (some (.int r)) S) args s 0 0 (eA E)) (F0 m 33 ls [])) (hw : Wd E (wX V E) s.heap S H locs) (hl : lv_has ls 8 [(0, .ref (ea E 3)), (1, .int l1), (2, .int l2), (3, .int l3), (4, .int l4), (5, .int l5), (6, .int l6)]) (hf : Dy_ridersIfHanded_b33 N k33 S l1 l2 l3 l4 l5 l6 = some r) : W p l e (rmh 3) s m args below meth c H locs 0 0 (MQ below (QW E (wX V E) (some (.int r)) S) args s 0 0 (eA E)) (F0 m 33 ls []) := by
  have hx := C.1
  have hb := C.2.1
  unfold Dy_ridersIfHanded_b33 at hf
  refine lv_iload hx hb dX2_ridersIfHanded_33 (lv_at hl 6 rfl) ?_
  refine lv_aload_n hx hb dX2_ridersIfHanded_35 rfl (lv_at hl 0 rfl) ?_
  refine get_3_0 C hw q_289 dX2_ridersIfHanded_36 ?_
  refine get_1_9 C hw q_136 dX2_ridersIfHanded_39 ?_
  refine lv_icmp_ge (tgt := 117) hx hb dX2_ridersIfHanded_42 (by decide) (fun q => ?_) (fun q => ?_)
  · have hf := hf_t q hf
    refine lv_iload hx hb dX2_ridersIfHanded_117 (lv_at hl 5 rfl) ?_
    exact ret_i C hw dX2_ridersIfHanded_119 hf
  · have hf := hf_f q hf
    refine lv_aload_n hx hb dX2_ridersIfHanded_45 rfl (lv_at hl 0 rfl) ?_
    refine get_3_0 C hw q_289 dX2_ridersIfHanded_46 ?_
    refine lv_iload hx hb dX2_ridersIfHanded_49 (lv_at hl 6 rfl) ?_
    refine lv_iload_n hx hb dX2_ridersIfHanded_51 rfl (lv_at hl 3 rfl) ?_
    obtain ⟨r1, hr, hf⟩ := hf_1 hf
    refine inv_Vi (q0 := 1) (ci := 8) (As := [.int l6, .int l3]) lk_X2_78 C hw rfl rfl rfl (t_Sm_lengthOn hr) rfl hl.1 dX2_ridersIfHanded_52 rfl (Nat.le_of_ble_eq_true rfl) (by decide) (Nat.le_of_ble_eq_true rfl) rfl (fun H locs hw => ?_)
    refine lv_istore (lv' := [(7, .int r1), (0, .ref (ea E 3)), (1, .int l1), (2, .int l2), (3, .int l3), (4, .int l4), (5, .int l5), (6, .int l6)]) hx hb dX2_ridersIfHanded_55 hl (by decide) rfl (fun ls hl => ?_)
    refine lv_iload hx hb dX2_ridersIfHanded_57 (lv_at hl 7 rfl) ?_
    refine lv_iload_n hx hb dX2_ridersIfHanded_59 rfl (lv_at hl 3 rfl) ?_
    refine lv_icmp_ne (tgt := 73) hx hb dX2_ridersIfHanded_60 (by decide) (fun q => ?_) (fun q => ?_)
    · have hf := hf_f q hf
      refine lv_iload hx hb dX2_ridersIfHanded_73 (lv_at hl 7 rfl) ?_
      refine lv_aload_n hx hb dX2_ridersIfHanded_75 rfl (lv_at hl 1 rfl) ?_
      refine get_3_0 C hw q_289 dX2_ridersIfHanded_76 ?_
      refine get_1_3 C hw q_115 dX2_ridersIfHanded_79 ?_
      refine lv_iload_n hx hb dX2_ridersIfHanded_82 rfl (lv_at hl 2 rfl) ?_
      obtain ⟨hc, hf⟩ := hf_ck hf
      refine ld_14 C hw hc dX2_ridersIfHanded_83 ?_
      refine lv_icmp_ne (tgt := 94) hx hb dX2_ridersIfHanded_84 (by decide) (fun q => ?_) (fun q => ?_)
      · have hf := hf_f q hf
        exact w_Dy_ridersIfHanded_b94 C hk33 hw (lv_sub hl [1, 2, 3, 4, 5, 6, 7, 0] rfl) hf
      · have hf := hf_t q hf
        refine lv_iload hx hb dX2_ridersIfHanded_87 (lv_at hl 0 rfl) ?_
        refine lv_iload hx hb dX2_ridersIfHanded_89 (lv_at hl 5 rfl) ?_
        refine lv_isub hx hb dX2_ridersIfHanded_91 ?_
        refine nm_i hf (fun x2 hf => ?_)
        refine lv_istore (lv' := [(7, .int x2), (0, .ref (ea E 3)), (1, .int l1), (2, .int l2), (3, .int l3), (4, .int l4), (5, .int l5), (6, .int l6)]) hx hb dX2_ridersIfHanded_92 hl (by decide) rfl (fun ls hl => ?_)
        exact w_Dy_ridersIfHanded_b94 C hk33 hw (lv_sub hl [1, 2, 3, 4, 5, 6, 7, 0] rfl) hf
    · have hf := hf_t q hf
      refine lv_iload hx hb dX2_ridersIfHanded_63 (lv_at hl 0 rfl) ?_
      refine lv_iload hx hb dX2_ridersIfHanded_65 (lv_at hl 5 rfl) ?_
      refine lv_iadd hx hb dX2_ridersIfHanded_67 ?_
      refine nm_i hf (fun x3 hf => ?_)
      refine lv_istore (lv' := [(7, .int x3), (0, .ref (ea E 3)), (1, .int l1), (2, .int l2), (3, .int l3), (4, .int l4), (5, .int l5), (6, .int l6)]) hx hb dX2_ridersIfHanded_68 hl (by decide) rfl (fun ls hl => ?_)
      refine lv_goto (tgt := 94) hx hb dX2_ridersIfHanded_70 (by decide) ?_
      exact w_Dy_ridersIfHanded_b94 C hk33 hw (lv_sub hl [1, 2, 3, 4, 5, 6, 7, 0] rfl) hf
theorem w_Dy_ridersIfHanded_L33 {N : Nat} {l1 : Int32} {l2 : Int32} {l3 : Int32} {l4 : Int32} {r : Int32} (C : Cx p s m args meth c E cX2_ridersIfHanded 8 RX2 (some .int)) : ∀ x, Dy_ridersIfHanded_L33 N S l1 l2 l3 l4 x = some r → ∀ (H : Heap) (locs : List Loc) (ls : Array Slot), Wd E (wX V E) s.heap S H locs → lv_has ls 8 [(0, .ref (ea E 3)), (1, .int l1), (2, .int l2), (3, .int l3), (4, .int l4), (5, .int x.1), (6, .int x.2)] → W p l e (rmh 3) s m args below meth c H locs 0 0 (MQ below (QW E (wX V E) (some (.int r)) S) args s 0 0 (eA E)) (F0 m 33 ls []) :=
  lp_W (fun k x hk hf H locs ls hw hl => w_Dy_ridersIfHanded_b33 C hk hw hl hf) N
set_option maxRecDepth 20000 in
theorem w_Dy_ridersIfHanded_b25 {N : Nat} {l1 : Int32} {l2 : Int32} {l3 : Int32} {s0 : Int32} {r : Int32} (C : Cx p s m args meth c E cX2_ridersIfHanded 8 RX2 (some .int)) (hw : Wd E (wX V E) s.heap S H locs) (hl : lv_has ls 8 [(0, .ref (ea E 3)), (1, .int l1), (2, .int l2), (3, .int l3)]) (hf : Dy_ridersIfHanded_b25 N S l1 l2 l3 s0 = some r) : W p l e (rmh 3) s m args below meth c H locs 0 0 (MQ below (QW E (wX V E) (some (.int r)) S) args s 0 0 (eA E)) (F0 m 25 ls [.int s0]) := by
  have hx := C.1
  have hb := C.2.1
  unfold Dy_ridersIfHanded_b25 at hf
  refine lv_istore (lv' := [(4, .int s0), (0, .ref (ea E 3)), (1, .int l1), (2, .int l2), (3, .int l3)]) hx hb dX2_ridersIfHanded_25 hl (by decide) rfl (fun ls hl => ?_)
  refine lv_iconst (v := 0) hx hb dX2_ridersIfHanded_27 kc_0 ?_
  refine lv_istore (lv' := [(5, .int (0 : Int32)), (4, .int s0), (0, .ref (ea E 3)), (1, .int l1), (2, .int l2), (3, .int l3)]) hx hb dX2_ridersIfHanded_28 hl (by decide) rfl (fun ls hl => ?_)
  refine lv_iconst (v := 0) hx hb dX2_ridersIfHanded_30 kc_0 ?_
  refine lv_istore (lv' := [(6, .int (0 : Int32)), (5, .int (0 : Int32)), (4, .int s0), (0, .ref (ea E 3)), (1, .int l1), (2, .int l2), (3, .int l3)]) hx hb dX2_ridersIfHanded_31 hl (by decide) rfl (fun ls hl => ?_)
  exact w_Dy_ridersIfHanded_L33 C _ hf _ _ _ hw (lv_sub hl [3, 4, 5, 6, 2, 1, 0] rfl)
set_option maxRecDepth 20000 in
theorem w_Dy_ridersIfHanded {N : Nat} {p1 : Int32} {p2 : Int32} {p3 : Int32} {r : Int32} (C : Cx p s m args meth c E cX2_ridersIfHanded 8 RX2 (some .int)) (hw : Wd E (wX V E) s.heap S H locs) (hl : lv_has ls 8 [(0, .ref (ea E 3)), (1, .int p1), (2, .int p2), (3, .int p3)]) (hf : Dy_ridersIfHanded N S p1 p2 p3 = some r) : W p l e (rmh 3) s m args below meth c H locs 0 0 (MQ below (QW E (wX V E) (some (.int r)) S) args s 0 0 (eA E)) (F0 m 0 ls []) := by
  have hx := C.1
  have hb := C.2.1
  unfold Dy_ridersIfHanded at hf
  refine lv_aload_n hx hb dX2_ridersIfHanded_0 rfl (lv_at hl 0 rfl) ?_
  refine get_3_0 C hw q_289 dX2_ridersIfHanded_1 ?_
  refine lv_iload_n hx hb dX2_ridersIfHanded_4 rfl (lv_at hl 1 rfl) ?_
  refine lv_iload_n hx hb dX2_ridersIfHanded_5 rfl (lv_at hl 3 rfl) ?_
  obtain ⟨r1, hr, hf⟩ := hf_1 hf
  refine inv_Vi (q0 := 1) (ci := 8) (As := [.int p1, .int p3]) lk_X2_75 C hw rfl rfl rfl (t_Sm_isOpen hr) rfl hl.1 dX2_ridersIfHanded_6 rfl (Nat.le_of_ble_eq_true rfl) (by decide) (Nat.le_of_ble_eq_true rfl) rfl (fun H locs hw => ?_)
  refine lv_if_eq (tgt := 24) hx hb dX2_ridersIfHanded_9 (by decide) (fun q => ?_) (fun q => ?_)
  · have hf := hf_t q hf
    refine lv_iconst (v := 0) hx hb dX2_ridersIfHanded_24 kc_0 ?_
    exact w_Dy_ridersIfHanded_b25 C hw (lv_sub hl [0, 1, 2, 3] rfl) hf
  · have hf := hf_f q hf
    refine lv_aload_n hx hb dX2_ridersIfHanded_12 rfl (lv_at hl 0 rfl) ?_
    refine get_3_0 C hw q_289 dX2_ridersIfHanded_13 ?_
    refine get_1_6 C hw q_125 dX2_ridersIfHanded_16 ?_
    refine lv_iload_n hx hb dX2_ridersIfHanded_19 rfl (lv_at hl 1 rfl) ?_
    obtain ⟨hc, hf⟩ := hf_ck hf
    refine ld_17 C hw hc dX2_ridersIfHanded_20 ?_
    refine lv_goto (tgt := 25) hx hb dX2_ridersIfHanded_21 (by decide) ?_
    exact w_Dy_ridersIfHanded_b25 C hw (lv_sub hl [0, 1, 2, 3] rfl) hf
end
theorem t_Dy_ridersIfHanded {l : Launch} {V : St} {N : Nat} {S : St} {p1 : Int32} {p2 : Int32} {p3 : Int32} {r : Int32} (hf : Dy_ridersIfHanded N S p1 p2 p3 = some r) : Ct l (wX V) yX2_ridersIfHanded cX2_ridersIfHanded 8 (some .int) 3 (fun E => [.ref (ea E 3), .int p1, .int p2, .int p3]) S (fun E => some (.int r)) S :=
  ofBlock (by decide +kernel) (fun _ => Nat.le_of_ble_eq_true rfl) (fun E p e s m args below meth c ls C hw hl => w_Dy_ridersIfHanded C hw hl hf)
