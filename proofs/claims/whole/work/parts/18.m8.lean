theorem dX7_holdLink_0 : decode cX7_holdLink 0 = .ok (.aload_n 0, 1) := by decide +kernel
theorem dX7_holdLink_1 : decode cX7_holdLink 1 = .ok (.getfield 18, 3) := by decide +kernel
theorem dX7_holdLink_4 : decode cX7_holdLink 4 = .ok (.iload_n 1, 1) := by decide +kernel
theorem dX7_holdLink_5 : decode cX7_holdLink 5 = .ok (.iconst 5, 1) := by decide +kernel
theorem dX7_holdLink_6 : decode cX7_holdLink 6 = .ok (.iastore, 1) := by decide +kernel
theorem dX7_holdLink_7 : decode cX7_holdLink 7 = .ok (.aload_n 0, 1) := by decide +kernel
theorem dX7_holdLink_8 : decode cX7_holdLink 8 = .ok (.getfield 15, 3) := by decide +kernel
theorem dX7_holdLink_11 : decode cX7_holdLink 11 = .ok (.iload_n 1, 1) := by decide +kernel
theorem dX7_holdLink_12 : decode cX7_holdLink 12 = .ok (.iload_n 2, 1) := by decide +kernel
theorem dX7_holdLink_13 : decode cX7_holdLink 13 = .ok (.iastore, 1) := by decide +kernel
theorem dX7_holdLink_14 : decode cX7_holdLink 14 = .ok (.iconst 1, 1) := by decide +kernel
theorem dX7_holdLink_15 : decode cX7_holdLink 15 = .ok (.ireturn, 1) := by decide +kernel
section
variable {p : Program} {l : Launch} {e : Env} {s : State} {m : MethodId} {args : Array Value} {below : List Frame} {meth : Method} {c : Code} {H : Heap} {locs : List Loc} {E : Ev} {S V : St} {ls : Array Slot}
set_option maxRecDepth 20000 in
theorem w_Sh_holdLink {p1 : Int32} {p2 : Int32} {r : Int32} {S9 : St} (C : Cx p s m args meth c E cX7_holdLink 3 RX7 (some .int)) (hw : Wd E (wX V E) s.heap S H locs) (hl : lv_has ls 3 [(0, .ref (ea E 10)), (1, .int p1), (2, .int p2)]) (hf : Sh_holdLink S p1 p2 = some (r, S9)) : W p l e (rmh 1) s m args below meth c H locs 0 0 (MQ below (QW E (wX V E) (some (.int r)) S9) args s 0 0 (eA E)) (F0 m 0 ls []) := by
  have hx := C.1
  have hb := C.2.1
  unfold Sh_holdLink at hf
  refine lv_aload_n hx hb dX7_holdLink_0 rfl (lv_at hl 0 rfl) ?_
  refine get_10_2 C hw q_219 dX7_holdLink_1 ?_
  refine lv_iload_n hx hb dX7_holdLink_4 rfl (lv_at hl 1 rfl) ?_
  refine lv_iconst (v := 5) hx hb dX7_holdLink_5 kc_5 ?_
  obtain ⟨hc, hf⟩ := hf_ck hf
  refine st_42 C hw hc dX7_holdLink_6 (fun H locs hw => ?_)
  refine nm_S hf hw (fun S1 hf hw => ?_)
  refine lv_aload_n hx hb dX7_holdLink_7 rfl (lv_at hl 0 rfl) ?_
  refine get_10_1 C hw q_217 dX7_holdLink_8 ?_
  refine lv_iload_n hx hb dX7_holdLink_11 rfl (lv_at hl 1 rfl) ?_
  refine lv_iload_n hx hb dX7_holdLink_12 rfl (lv_at hl 2 rfl) ?_
  obtain ⟨hc, hf⟩ := hf_ck hf
  refine st_41 C hw hc dX7_holdLink_13 (fun H locs hw => ?_)
  refine nm_S hf hw (fun S2 hf hw => ?_)
  refine lv_iconst (v := 1) hx hb dX7_holdLink_14 kc_1 ?_
  exact ret_iS C hw dX7_holdLink_15 hf
end
theorem t_Sh_holdLink {l : Launch} {V : St} {S : St} {p1 : Int32} {p2 : Int32} {r : Int32} {S9 : St} (hf : Sh_holdLink S p1 p2 = some (r, S9)) : Ct l (wX V) yX7_holdLink cX7_holdLink 3 (some .int) 1 (fun E => [.ref (ea E 10), .int p1, .int p2]) S (fun E => some (.int r)) S9 :=
  ofBlock (by decide +kernel) (fun _ => Nat.le_of_ble_eq_true rfl) (fun E p e s m args below meth c ls C hw hl => w_Sh_holdLink C hw hl hf)
theorem dJ7_rangeCheck_23922_0 : decode cJ7_rangeCheck_23922 0 = .ok (.iload_n 1, 1) := by decide +kernel
theorem dJ7_rangeCheck_23922_1 : decode cJ7_rangeCheck_23922 1 = .ok (.iload_n 2, 1) := by decide +kernel
theorem dJ7_rangeCheck_23922_2 : decode cJ7_rangeCheck_23922 2 = .ok (.if_icmp .le 44, 3) := by decide +kernel
theorem dJ7_rangeCheck_23922_5 : decode cJ7_rangeCheck_23922 5 = .ok (.new 43, 3) := by decide +kernel
theorem dJ7_rangeCheck_23922_8 : decode cJ7_rangeCheck_23922 8 = .ok (.dup, 1) := by decide +kernel
theorem dJ7_rangeCheck_23922_9 : decode cJ7_rangeCheck_23922 9 = .ok (.new 45, 3) := by decide +kernel
theorem dJ7_rangeCheck_23922_12 : decode cJ7_rangeCheck_23922 12 = .ok (.dup, 1) := by decide +kernel
theorem dJ7_rangeCheck_23922_13 : decode cJ7_rangeCheck_23922 13 = .ok (.invokespecial 47, 3) := by decide +kernel
theorem dJ7_rangeCheck_23922_16 : decode cJ7_rangeCheck_23922 16 = .ok (.ldc 48, 2) := by decide +kernel
theorem dJ7_rangeCheck_23922_18 : decode cJ7_rangeCheck_23922 18 = .ok (.invokevirtual 50, 3) := by decide +kernel
theorem dJ7_rangeCheck_23922_21 : decode cJ7_rangeCheck_23922 21 = .ok (.iload_n 1, 1) := by decide +kernel
theorem dJ7_rangeCheck_23922_22 : decode cJ7_rangeCheck_23922 22 = .ok (.invokevirtual 54, 3) := by decide +kernel
theorem dJ7_rangeCheck_23922_25 : decode cJ7_rangeCheck_23922 25 = .ok (.ldc 57, 2) := by decide +kernel
theorem dJ7_rangeCheck_23922_27 : decode cJ7_rangeCheck_23922 27 = .ok (.invokevirtual 50, 3) := by decide +kernel
theorem dJ7_rangeCheck_23922_30 : decode cJ7_rangeCheck_23922 30 = .ok (.iload_n 2, 1) := by decide +kernel
theorem dJ7_rangeCheck_23922_31 : decode cJ7_rangeCheck_23922 31 = .ok (.invokevirtual 54, 3) := by decide +kernel
theorem dJ7_rangeCheck_23922_34 : decode cJ7_rangeCheck_23922 34 = .ok (.ldc 59, 2) := by decide +kernel
theorem dJ7_rangeCheck_23922_36 : decode cJ7_rangeCheck_23922 36 = .ok (.invokevirtual 50, 3) := by decide +kernel
theorem dJ7_rangeCheck_23922_39 : decode cJ7_rangeCheck_23922 39 = .ok (.invokevirtual 61, 3) := by decide +kernel
theorem dJ7_rangeCheck_23922_42 : decode cJ7_rangeCheck_23922 42 = .ok (.invokespecial 65, 3) := by decide +kernel
theorem dJ7_rangeCheck_23922_45 : decode cJ7_rangeCheck_23922 45 = .ok (.athrow, 1) := by decide +kernel
theorem dJ7_rangeCheck_23922_46 : decode cJ7_rangeCheck_23922 46 = .ok (.iload_n 1, 1) := by decide +kernel
theorem dJ7_rangeCheck_23922_47 : decode cJ7_rangeCheck_23922 47 = .ok (.ifCond .ge 12, 3) := by decide +kernel
theorem dJ7_rangeCheck_23922_50 : decode cJ7_rangeCheck_23922 50 = .ok (.new 68, 3) := by decide +kernel
theorem dJ7_rangeCheck_23922_53 : decode cJ7_rangeCheck_23922 53 = .ok (.dup, 1) := by decide +kernel
theorem dJ7_rangeCheck_23922_54 : decode cJ7_rangeCheck_23922 54 = .ok (.iload_n 1, 1) := by decide +kernel
theorem dJ7_rangeCheck_23922_55 : decode cJ7_rangeCheck_23922 55 = .ok (.invokespecial 70, 3) := by decide +kernel
theorem dJ7_rangeCheck_23922_58 : decode cJ7_rangeCheck_23922 58 = .ok (.athrow, 1) := by decide +kernel
theorem dJ7_rangeCheck_23922_59 : decode cJ7_rangeCheck_23922 59 = .ok (.iload_n 2, 1) := by decide +kernel
theorem dJ7_rangeCheck_23922_60 : decode cJ7_rangeCheck_23922 60 = .ok (.iload_n 0, 1) := by decide +kernel
theorem dJ7_rangeCheck_23922_61 : decode cJ7_rangeCheck_23922 61 = .ok (.if_icmp .le 12, 3) := by decide +kernel
theorem dJ7_rangeCheck_23922_64 : decode cJ7_rangeCheck_23922 64 = .ok (.new 68, 3) := by decide +kernel
theorem dJ7_rangeCheck_23922_67 : decode cJ7_rangeCheck_23922 67 = .ok (.dup, 1) := by decide +kernel
theorem dJ7_rangeCheck_23922_68 : decode cJ7_rangeCheck_23922 68 = .ok (.iload_n 2, 1) := by decide +kernel
theorem dJ7_rangeCheck_23922_69 : decode cJ7_rangeCheck_23922 69 = .ok (.invokespecial 70, 3) := by decide +kernel
theorem dJ7_rangeCheck_23922_72 : decode cJ7_rangeCheck_23922 72 = .ok (.athrow, 1) := by decide +kernel
theorem dJ7_rangeCheck_23922_73 : decode cJ7_rangeCheck_23922 73 = .ok (.return_, 1) := by decide +kernel
section
variable {p : Program} {l : Launch} {e : Env} {s : State} {m : MethodId} {args : Array Value} {below : List Frame} {meth : Method} {c : Code} {H : Heap} {locs : List Loc} {E : Ev} {S V : St} {ls : Array Slot}
set_option maxRecDepth 20000 in
theorem w_Ar_rangeCheck {p1 : Int32} {p2 : Int32} {p3 : Int32} {r : Unit} (C : Cx p s m args meth c E cJ7_rangeCheck_23922 3 RJ7 none) (hw : Wd E (wX V E) s.heap S H locs) (hl : lv_has ls 3 [(0, .int p1), (1, .int p2), (2, .int p3)]) (hf : Ar_rangeCheck S p1 p2 p3 = some r) : W p l e (rmh 1) s m args below meth c H locs 0 0 (MQ below (QW E (wX V E) (none) S) args s 0 0 (eA E)) (F0 m 0 ls []) := by
  have hx := C.1
  have hb := C.2.1
  unfold Ar_rangeCheck at hf
  refine lv_iload_n hx hb dJ7_rangeCheck_23922_0 rfl (lv_at hl 1 rfl) ?_
  refine lv_iload_n hx hb dJ7_rangeCheck_23922_1 rfl (lv_at hl 2 rfl) ?_
  refine lv_icmp_le (tgt := 46) hx hb dJ7_rangeCheck_23922_2 (by decide) (fun q => ?_) (fun q => ?_)
  · have hf := hf_t q hf
    refine lv_iload_n hx hb dJ7_rangeCheck_23922_46 rfl (lv_at hl 1 rfl) ?_
    refine lv_if_ge (tgt := 59) hx hb dJ7_rangeCheck_23922_47 (by decide) (fun q => ?_) (fun q => ?_)
    · have hf := hf_t q hf
      refine lv_iload_n hx hb dJ7_rangeCheck_23922_59 rfl (lv_at hl 2 rfl) ?_
      refine lv_iload_n hx hb dJ7_rangeCheck_23922_60 rfl (lv_at hl 0 rfl) ?_
      refine lv_icmp_le (tgt := 73) hx hb dJ7_rangeCheck_23922_61 (by decide) (fun q => ?_) (fun q => ?_)
      · have hf := hf_t q hf
        exact ret_v C hw dJ7_rangeCheck_23922_73 hf
      · have hf := hf_f q hf
        cases hf
    · have hf := hf_f q hf
      cases hf
  · have hf := hf_f q hf
    cases hf
end
theorem t_Ar_rangeCheck {l : Launch} {V : St} {S : St} {p1 : Int32} {p2 : Int32} {p3 : Int32} {r : Unit} (hf : Ar_rangeCheck S p1 p2 p3 = some r) : Ct l (wX V) yJ7_rangeCheck_23922 cJ7_rangeCheck_23922 3 none 1 (fun E => [.int p1, .int p2, .int p3]) S (fun E => none) S :=
  ofBlock (by decide +kernel) (fun _ => Nat.le_of_ble_eq_true rfl) (fun E p e s m args below meth c ls C hw hl => w_Ar_rangeCheck C hw hl hf)
theorem dJ7_fill_bad5a_0 : decode cJ7_fill_bad5a 0 = .ok (.aload_n 0, 1) := by decide +kernel
theorem dJ7_fill_bad5a_1 : decode cJ7_fill_bad5a 1 = .ok (.arraylength, 1) := by decide +kernel
theorem dJ7_fill_bad5a_2 : decode cJ7_fill_bad5a 2 = .ok (.iload_n 1, 1) := by decide +kernel
theorem dJ7_fill_bad5a_3 : decode cJ7_fill_bad5a 3 = .ok (.iload_n 2, 1) := by decide +kernel
theorem dJ7_fill_bad5a_4 : decode cJ7_fill_bad5a 4 = .ok (.invokestatic 13, 3) := by decide +kernel
theorem dJ7_fill_bad5a_7 : decode cJ7_fill_bad5a 7 = .ok (.iload_n 1, 1) := by decide +kernel
theorem dJ7_fill_bad5a_8 : decode cJ7_fill_bad5a 8 = .ok (.istore 5, 2) := by decide +kernel
theorem dJ7_fill_bad5a_10 : decode cJ7_fill_bad5a 10 = .ok (.iload 5, 2) := by decide +kernel
theorem dJ7_fill_bad5a_12 : decode cJ7_fill_bad5a 12 = .ok (.iload_n 2, 1) := by decide +kernel
theorem dJ7_fill_bad5a_13 : decode cJ7_fill_bad5a 13 = .ok (.if_icmp .ge 14, 3) := by decide +kernel
theorem dJ7_fill_bad5a_16 : decode cJ7_fill_bad5a 16 = .ok (.aload_n 0, 1) := by decide +kernel
theorem dJ7_fill_bad5a_17 : decode cJ7_fill_bad5a 17 = .ok (.iload 5, 2) := by decide +kernel
theorem dJ7_fill_bad5a_19 : decode cJ7_fill_bad5a 19 = .ok (.lload_n 3, 1) := by decide +kernel
theorem dJ7_fill_bad5a_20 : decode cJ7_fill_bad5a 20 = .ok (.lastore, 1) := by decide +kernel
theorem dJ7_fill_bad5a_21 : decode cJ7_fill_bad5a 21 = .ok (.iinc 5 1, 3) := by decide +kernel
theorem dJ7_fill_bad5a_24 : decode cJ7_fill_bad5a 24 = .ok (.goto (-14), 3) := by decide +kernel
theorem dJ7_fill_bad5a_27 : decode cJ7_fill_bad5a 27 = .ok (.return_, 1) := by decide +kernel
section
variable {p : Program} {l : Launch} {e : Env} {s : State} {m : MethodId} {args : Array Value} {below : List Frame} {meth : Method} {c : Code} {H : Heap} {locs : List Loc} {E : Ev} {S V : St} {ls : Array Slot}
set_option maxRecDepth 20000 in
theorem w_Ar_fill_bad5a_b10 {N : Nat} {k10 : (St × Int32) → Option St} {l0 : Nat} {l2 : Int32} {l3 : Int64} {l5 : Int32} {S9 : St} (C : Cx p s m args meth c E cJ7_fill_bad5a 6 RJ7 none) (hk10 : ∀ x, k10 x = some S9 → ∀ (H : Heap) (locs : List Loc) (ls : Array Slot), Wd E (wX V E) s.heap x.1 H locs → lv_has ls 6 [(0, .ref (ea E l0)), (2, .int l2), (3, .long l3), (5, .int x.2)] → W p l e (rmh 2) s m args below meth c H locs 0 0 (MQ below (QW E (wX V E) (none) S9) args s 0 0 (eA E)) (F0 m 10 ls [])) (hw : Wd E (wX V E) s.heap S H locs) (hl : lv_has ls 6 [(0, .ref (ea E l0)), (2, .int l2), (3, .long l3), (5, .int l5)]) (hf : Ar_fill_bad5a_b10 N k10 S l0 l2 l3 l5 = some S9) : W p l e (rmh 2) s m args below meth c H locs 0 0 (MQ below (QW E (wX V E) (none) S9) args s 0 0 (eA E)) (F0 m 10 ls []) := by
  have hx := C.1
  have hb := C.2.1
  unfold Ar_fill_bad5a_b10 at hf
  refine lv_iload hx hb dJ7_fill_bad5a_10 (lv_at hl 3 rfl) ?_
  refine lv_iload_n hx hb dJ7_fill_bad5a_12 rfl (lv_at hl 1 rfl) ?_
  refine lv_icmp_ge (tgt := 27) hx hb dJ7_fill_bad5a_13 (by decide) (fun q => ?_) (fun q => ?_)
  · have hf := hf_t q hf
    exact ret_vS C hw dJ7_fill_bad5a_27 hf
  · have hf := hf_f q hf
    refine lv_aload_n hx hb dJ7_fill_bad5a_16 rfl (lv_at hl 0 rfl) ?_
    refine lv_iload hx hb dJ7_fill_bad5a_17 (lv_at hl 3 rfl) ?_
    refine lv_lload_n hx hb dJ7_fill_bad5a_19 rfl (lv_at hl 2 rfl) ?_
    obtain ⟨hc0, hf⟩ := hf_ck hf
    obtain ⟨hc, hf⟩ := hf_ck hf
    refine stL C hw hc0 hc dJ7_fill_bad5a_20 (fun H locs hw => ?_)
    refine nm_S hf hw (fun S1 hf hw => ?_)
    obtain ⟨x2, ex2, hf⟩ := nme hf
    refine lv_iinc (v := x2) (lv' := [(5, .int x2), (0, .ref (ea E l0)), (2, .int l2), (3, .long l3)]) hx hb dJ7_fill_bad5a_21 hl (k := 3) rfl (ki_1 ex2) (by decide) rfl (fun ls hl => ?_)
    refine lv_goto (tgt := 10) hx hb dJ7_fill_bad5a_24 (by decide) ?_
    exact hk10 _ hf _ _ _ hw (lv_sub hl [1, 2, 3, 0] rfl)
theorem w_Ar_fill_bad5a_L10 {N : Nat} {l0 : Nat} {l2 : Int32} {l3 : Int64} {S9 : St} (C : Cx p s m args meth c E cJ7_fill_bad5a 6 RJ7 none) : ∀ x, Ar_fill_bad5a_L10 N l0 l2 l3 x = some S9 → ∀ (H : Heap) (locs : List Loc) (ls : Array Slot), Wd E (wX V E) s.heap x.1 H locs → lv_has ls 6 [(0, .ref (ea E l0)), (2, .int l2), (3, .long l3), (5, .int x.2)] → W p l e (rmh 2) s m args below meth c H locs 0 0 (MQ below (QW E (wX V E) (none) S9) args s 0 0 (eA E)) (F0 m 10 ls []) :=
  lp_W (fun k x hk hf H locs ls hw hl => w_Ar_fill_bad5a_b10 C hk hw hl hf) N
set_option maxRecDepth 20000 in
theorem w_Ar_fill_bad5a {N : Nat} {p1 : Nat} {p2 : Int32} {p3 : Int32} {p4 : Int64} {S9 : St} (C : Cx p s m args meth c E cJ7_fill_bad5a 6 RJ7 none) (hw : Wd E (wX V E) s.heap S H locs) (hl : lv_has ls 6 [(0, .ref (ea E p1)), (1, .int p2), (2, .int p3), (3, .long p4)]) (hf : Ar_fill_bad5a N S p1 p2 p3 p4 = some S9) : W p l e (rmh 2) s m args below meth c H locs 0 0 (MQ below (QW E (wX V E) (none) S9) args s 0 0 (eA E)) (F0 m 0 ls []) := by
  have hx := C.1
  have hb := C.2.1
  unfold Ar_fill_bad5a at hf
  refine lv_aload_n hx hb dJ7_fill_bad5a_0 rfl (lv_at hl 0 rfl) ?_
  obtain ⟨hc, hf⟩ := hf_ck hf
  refine lenLr C hw hc dJ7_fill_bad5a_1 ?_
  refine lv_iload_n hx hb dJ7_fill_bad5a_2 rfl (lv_at hl 1 rfl) ?_
  refine lv_iload_n hx hb dJ7_fill_bad5a_3 rfl (lv_at hl 2 rfl) ?_
  obtain ⟨r1, hr, hf⟩ := hf_1 hf
  refine inv_Sv (As := [.int (Int32.ofNat (lenL p1)), .int p2, .int p3]) lk_J7_13 C hw (t_Ar_rangeCheck hr) hl.1 dJ7_fill_bad5a_4 rfl (Nat.le_of_ble_eq_true rfl) (by decide) (Nat.le_of_ble_eq_true rfl) rfl (fun H locs hw => ?_)
  refine lv_iload_n hx hb dJ7_fill_bad5a_7 rfl (lv_at hl 1 rfl) ?_
  refine lv_istore (lv' := [(5, .int p2), (0, .ref (ea E p1)), (1, .int p2), (2, .int p3), (3, .long p4)]) hx hb dJ7_fill_bad5a_8 hl (by decide) rfl (fun ls hl => ?_)
  exact w_Ar_fill_bad5a_L10 C _ hf _ _ _ hw (lv_sub hl [1, 3, 4, 0] rfl)
end
theorem t_Ar_fill_bad5a {l : Launch} {V : St} {N : Nat} {S : St} {p1 : Nat} {p2 : Int32} {p3 : Int32} {p4 : Int64} {S9 : St} (hf : Ar_fill_bad5a N S p1 p2 p3 p4 = some S9) : Ct l (wX V) yJ7_fill_bad5a cJ7_fill_bad5a 6 none 2 (fun E => [.ref (ea E p1), .int p2, .int p3, .long p4]) S (fun E => none) S9 :=
  ofBlock (by decide +kernel) (fun _ => Nat.le_of_ble_eq_true rfl) (fun E p e s m args below meth c ls C hw hl => w_Ar_fill_bad5a C hw hl hf)
theorem dX7_holdRow_0 : decode cX7_holdRow 0 = .ok (.aload_n 0, 1) := by decide +kernel
theorem dX7_holdRow_1 : decode cX7_holdRow 1 = .ok (.getfield 18, 3) := by decide +kernel
theorem dX7_holdRow_4 : decode cX7_holdRow 4 = .ok (.iload_n 1, 1) := by decide +kernel
theorem dX7_holdRow_5 : decode cX7_holdRow 5 = .ok (.iload_n 2, 1) := by decide +kernel
theorem dX7_holdRow_6 : decode cX7_holdRow 6 = .ok (.iastore, 1) := by decide +kernel
theorem dX7_holdRow_7 : decode cX7_holdRow 7 = .ok (.aload_n 0, 1) := by decide +kernel
theorem dX7_holdRow_8 : decode cX7_holdRow 8 = .ok (.getfield 11, 3) := by decide +kernel
theorem dX7_holdRow_11 : decode cX7_holdRow 11 = .ok (.iload_n 1, 1) := by decide +kernel
theorem dX7_holdRow_12 : decode cX7_holdRow 12 = .ok (.iload_n 3, 1) := by decide +kernel
theorem dX7_holdRow_13 : decode cX7_holdRow 13 = .ok (.iastore, 1) := by decide +kernel
theorem dX7_holdRow_14 : decode cX7_holdRow 14 = .ok (.aload_n 0, 1) := by decide +kernel
theorem dX7_holdRow_15 : decode cX7_holdRow 15 = .ok (.getfield 21, 3) := by decide +kernel
theorem dX7_holdRow_18 : decode cX7_holdRow 18 = .ok (.iload_n 1, 1) := by decide +kernel
theorem dX7_holdRow_19 : decode cX7_holdRow 19 = .ok (.bipush 60, 2) := by decide +kernel
theorem dX7_holdRow_21 : decode cX7_holdRow 21 = .ok (.imul, 1) := by decide +kernel
theorem dX7_holdRow_22 : decode cX7_holdRow 22 = .ok (.iload_n 1, 1) := by decide +kernel
theorem dX7_holdRow_23 : decode cX7_holdRow 23 = .ok (.iconst 1, 1) := by decide +kernel
theorem dX7_holdRow_24 : decode cX7_holdRow 24 = .ok (.iadd, 1) := by decide +kernel
theorem dX7_holdRow_25 : decode cX7_holdRow 25 = .ok (.bipush 60, 2) := by decide +kernel
theorem dX7_holdRow_27 : decode cX7_holdRow 27 = .ok (.imul, 1) := by decide +kernel
theorem dX7_holdRow_28 : decode cX7_holdRow 28 = .ok (.lconst 0, 1) := by decide +kernel
theorem dX7_holdRow_29 : decode cX7_holdRow 29 = .ok (.invokestatic 31, 3) := by decide +kernel
theorem dX7_holdRow_32 : decode cX7_holdRow 32 = .ok (.iconst 1, 1) := by decide +kernel
theorem dX7_holdRow_33 : decode cX7_holdRow 33 = .ok (.ireturn, 1) := by decide +kernel
section
variable {p : Program} {l : Launch} {e : Env} {s : State} {m : MethodId} {args : Array Value} {below : List Frame} {meth : Method} {c : Code} {H : Heap} {locs : List Loc} {E : Ev} {S V : St} {ls : Array Slot}
set_option maxRecDepth 20000 in
theorem w_Sh_holdRow {N : Nat} {p1 : Int32} {p2 : Int32} {p3 : Int32} {r : Int32} {S9 : St} (C : Cx p s m args meth c E cX7_holdRow 4 RX7 (some .int)) (hw : Wd E (wX V E) s.heap S H locs) (hl : lv_has ls 4 [(0, .ref (ea E 10)), (1, .int p1), (2, .int p2), (3, .int p3)]) (hf : Sh_holdRow N S p1 p2 p3 = some (r, S9)) : W p l e (rmh 3) s m args below meth c H locs 0 0 (MQ below (QW E (wX V E) (some (.int r)) S9) args s 0 0 (eA E)) (F0 m 0 ls []) := by
  have hx := C.1
  have hb := C.2.1
  unfold Sh_holdRow at hf
  refine lv_aload_n hx hb dX7_holdRow_0 rfl (lv_at hl 0 rfl) ?_
  refine get_10_2 C hw q_219 dX7_holdRow_1 ?_
  refine lv_iload_n hx hb dX7_holdRow_4 rfl (lv_at hl 1 rfl) ?_
  refine lv_iload_n hx hb dX7_holdRow_5 rfl (lv_at hl 2 rfl) ?_
  obtain ⟨hc, hf⟩ := hf_ck hf
  refine st_42 C hw hc dX7_holdRow_6 (fun H locs hw => ?_)
  refine nm_S hf hw (fun S1 hf hw => ?_)
  refine lv_aload_n hx hb dX7_holdRow_7 rfl (lv_at hl 0 rfl) ?_
  refine get_10_0 C hw q_215 dX7_holdRow_8 ?_
  refine lv_iload_n hx hb dX7_holdRow_11 rfl (lv_at hl 1 rfl) ?_
  refine lv_iload_n hx hb dX7_holdRow_12 rfl (lv_at hl 3 rfl) ?_
  obtain ⟨hc, hf⟩ := hf_ck hf
  refine st_40 C hw hc dX7_holdRow_13 (fun H locs hw => ?_)
  refine nm_S hf hw (fun S2 hf hw => ?_)
  refine lv_aload_n hx hb dX7_holdRow_14 rfl (lv_at hl 0 rfl) ?_
  refine get_10_3 C hw q_220 dX7_holdRow_15 ?_
  refine lv_iload_n hx hb dX7_holdRow_18 rfl (lv_at hl 1 rfl) ?_
  refine lv_bipush (v := 60) hx hb dX7_holdRow_19 kb_60 ?_
  refine lv_imul hx hb dX7_holdRow_21 ?_
  refine lv_iload_n hx hb dX7_holdRow_22 rfl (lv_at hl 1 rfl) ?_
  refine lv_iconst (v := 1) hx hb dX7_holdRow_23 kc_1 ?_
  refine lv_iadd hx hb dX7_holdRow_24 ?_
  refine lv_bipush (v := 60) hx hb dX7_holdRow_25 kb_60 ?_
  refine lv_imul hx hb dX7_holdRow_27 ?_
  refine lv_lconst (v := 0) hx hb dX7_holdRow_28 rfl ?_
  obtain ⟨S3, hr, hf⟩ := hf_1 hf
  refine inv_SAv (As := fun E => [.ref (ea E 43), .int (p1 * (60 : Int32)), .int ((p1 + (1 : Int32)) * (60 : Int32)), .long (0 : Int64)]) lk_X7_31 C hw (t_Ar_fill_bad5a hr) hl.1 dX7_holdRow_29 rfl (Nat.le_of_ble_eq_true rfl) (by decide) (Nat.le_of_ble_eq_true rfl) rfl (fun H locs hw => ?_)
  refine lv_iconst (v := 1) hx hb dX7_holdRow_32 kc_1 ?_
  exact ret_iS C hw dX7_holdRow_33 hf
end
theorem t_Sh_holdRow {l : Launch} {V : St} {N : Nat} {S : St} {p1 : Int32} {p2 : Int32} {p3 : Int32} {r : Int32} {S9 : St} (hf : Sh_holdRow N S p1 p2 p3 = some (r, S9)) : Ct l (wX V) yX7_holdRow cX7_holdRow 4 (some .int) 3 (fun E => [.ref (ea E 10), .int p1, .int p2, .int p3]) S (fun E => some (.int r)) S9 :=
  ofBlock (by decide +kernel) (fun _ => Nat.le_of_ble_eq_true rfl) (fun E p e s m args below meth c ls C hw hl => w_Sh_holdRow C hw hl hf)
theorem dX7_holdsRow_0 : decode cX7_holdsRow 0 = .ok (.aload_n 0, 1) := by decide +kernel
theorem dX7_holdsRow_1 : decode cX7_holdsRow 1 = .ok (.getfield 18, 3) := by decide +kernel
theorem dX7_holdsRow_4 : decode cX7_holdsRow 4 = .ok (.iload_n 1, 1) := by decide +kernel
theorem dX7_holdsRow_5 : decode cX7_holdsRow 5 = .ok (.iaload, 1) := by decide +kernel
theorem dX7_holdsRow_6 : decode cX7_holdsRow 6 = .ok (.iconst (-1), 1) := by decide +kernel
theorem dX7_holdsRow_7 : decode cX7_holdsRow 7 = .ok (.if_icmp .eq 17, 3) := by decide +kernel
theorem dX7_holdsRow_10 : decode cX7_holdsRow 10 = .ok (.aload_n 0, 1) := by decide +kernel
theorem dX7_holdsRow_11 : decode cX7_holdsRow 11 = .ok (.getfield 18, 3) := by decide +kernel
theorem dX7_holdsRow_14 : decode cX7_holdsRow 14 = .ok (.iload_n 1, 1) := by decide +kernel
theorem dX7_holdsRow_15 : decode cX7_holdsRow 15 = .ok (.iaload, 1) := by decide +kernel
theorem dX7_holdsRow_16 : decode cX7_holdsRow 16 = .ok (.iconst 5, 1) := by decide +kernel
theorem dX7_holdsRow_17 : decode cX7_holdsRow 17 = .ok (.if_icmp .eq 7, 3) := by decide +kernel
theorem dX7_holdsRow_20 : decode cX7_holdsRow 20 = .ok (.iconst 1, 1) := by decide +kernel
theorem dX7_holdsRow_21 : decode cX7_holdsRow 21 = .ok (.goto 4, 3) := by decide +kernel
theorem dX7_holdsRow_24 : decode cX7_holdsRow 24 = .ok (.iconst 0, 1) := by decide +kernel
theorem dX7_holdsRow_25 : decode cX7_holdsRow 25 = .ok (.ireturn, 1) := by decide +kernel
section
variable {p : Program} {l : Launch} {e : Env} {s : State} {m : MethodId} {args : Array Value} {below : List Frame} {meth : Method} {c : Code} {H : Heap} {locs : List Loc} {E : Ev} {S V : St} {ls : Array Slot}
set_option maxRecDepth 20000 in
theorem w_Sh_holdsRow {p1 : Int32} {r : Int32} (C : Cx p s m args meth c E cX7_holdsRow 2 RX7 (some .boolean)) (hw : Wd E (wX V E) s.heap S H locs) (hl : lv_has ls 2 [(0, .ref (ea E 10)), (1, .int p1)]) (hf : Sh_holdsRow S p1 = some r) : W p l e (rmh 1) s m args below meth c H locs 0 0 (MQ below (QW E (wX V E) (some (.int r)) S) args s 0 0 (eA E)) (F0 m 0 ls []) := by
  have hx := C.1
  have hb := C.2.1
  unfold Sh_holdsRow at hf
  refine lv_aload_n hx hb dX7_holdsRow_0 rfl (lv_at hl 0 rfl) ?_
  refine get_10_2 C hw q_219 dX7_holdsRow_1 ?_
  refine lv_iload_n hx hb dX7_holdsRow_4 rfl (lv_at hl 1 rfl) ?_
  obtain ⟨hc, hf⟩ := hf_ck hf
  refine ld_42 C hw hc dX7_holdsRow_5 ?_
  refine lv_iconst (v := -1) hx hb dX7_holdsRow_6 kc_m1 ?_
  refine lv_icmp_eq (tgt := 24) hx hb dX7_holdsRow_7 (by decide) (fun q => ?_) (fun q => ?_)
  · have hf := hf_t q hf
    refine lv_iconst (v := 0) hx hb dX7_holdsRow_24 kc_0 ?_
    exact ret_z rfl C hw dX7_holdsRow_25 hf
  · have hf := hf_f q hf
    refine lv_aload_n hx hb dX7_holdsRow_10 rfl (lv_at hl 0 rfl) ?_
    refine get_10_2 C hw q_219 dX7_holdsRow_11 ?_
    refine lv_iload_n hx hb dX7_holdsRow_14 rfl (lv_at hl 1 rfl) ?_
    obtain ⟨hc, hf⟩ := hf_ck hf
    refine ld_42 C hw hc dX7_holdsRow_15 ?_
    refine lv_iconst (v := 5) hx hb dX7_holdsRow_16 kc_5 ?_
    refine lv_icmp_eq (tgt := 24) hx hb dX7_holdsRow_17 (by decide) (fun q => ?_) (fun q => ?_)
    · have hf := hf_t q hf
      refine lv_iconst (v := 0) hx hb dX7_holdsRow_24 kc_0 ?_
      exact ret_z rfl C hw dX7_holdsRow_25 hf
    · have hf := hf_f q hf
      refine lv_iconst (v := 1) hx hb dX7_holdsRow_20 kc_1 ?_
      refine lv_goto (tgt := 25) hx hb dX7_holdsRow_21 (by decide) ?_
      exact ret_z rfl C hw dX7_holdsRow_25 hf
end
theorem t_Sh_holdsRow {l : Launch} {V : St} {S : St} {p1 : Int32} {r : Int32} (hf : Sh_holdsRow S p1 = some r) : Ct l (wX V) yX7_holdsRow cX7_holdsRow 2 (some .boolean) 1 (fun E => [.ref (ea E 10), .int p1]) S (fun E => some (.int r)) S :=
  ofBlock (by decide +kernel) (fun _ => Nat.le_of_ble_eq_true rfl) (fun E p e s m args below meth c ls C hw hl => w_Sh_holdsRow C hw hl hf)
theorem dX7_refusalOfRow_0 : decode cX7_refusalOfRow 0 = .ok (.aload_n 0, 1) := by decide +kernel
theorem dX7_refusalOfRow_1 : decode cX7_refusalOfRow 1 = .ok (.getfield 18, 3) := by decide +kernel
theorem dX7_refusalOfRow_4 : decode cX7_refusalOfRow 4 = .ok (.iload_n 1, 1) := by decide +kernel
theorem dX7_refusalOfRow_5 : decode cX7_refusalOfRow 5 = .ok (.iaload, 1) := by decide +kernel
theorem dX7_refusalOfRow_6 : decode cX7_refusalOfRow 6 = .ok (.iconst (-1), 1) := by decide +kernel
theorem dX7_refusalOfRow_7 : decode cX7_refusalOfRow 7 = .ok (.if_icmp .ne 6, 3) := by decide +kernel
theorem dX7_refusalOfRow_10 : decode cX7_refusalOfRow 10 = .ok (.bipush (-11), 2) := by decide +kernel
theorem dX7_refusalOfRow_12 : decode cX7_refusalOfRow 12 = .ok (.ireturn, 1) := by decide +kernel
theorem dX7_refusalOfRow_13 : decode cX7_refusalOfRow 13 = .ok (.aload_n 0, 1) := by decide +kernel
theorem dX7_refusalOfRow_14 : decode cX7_refusalOfRow 14 = .ok (.getfield 18, 3) := by decide +kernel
theorem dX7_refusalOfRow_17 : decode cX7_refusalOfRow 17 = .ok (.iload_n 1, 1) := by decide +kernel
theorem dX7_refusalOfRow_18 : decode cX7_refusalOfRow 18 = .ok (.iaload, 1) := by decide +kernel
theorem dX7_refusalOfRow_19 : decode cX7_refusalOfRow 19 = .ok (.iload_n 2, 1) := by decide +kernel
theorem dX7_refusalOfRow_20 : decode cX7_refusalOfRow 20 = .ok (.if_icmp .ne 7, 3) := by decide +kernel
theorem dX7_refusalOfRow_23 : decode cX7_refusalOfRow 23 = .ok (.iconst 0, 1) := by decide +kernel
theorem dX7_refusalOfRow_24 : decode cX7_refusalOfRow 24 = .ok (.goto 5, 3) := by decide +kernel
theorem dX7_refusalOfRow_27 : decode cX7_refusalOfRow 27 = .ok (.bipush (-12), 2) := by decide +kernel
theorem dX7_refusalOfRow_29 : decode cX7_refusalOfRow 29 = .ok (.ireturn, 1) := by decide +kernel
section
variable {p : Program} {l : Launch} {e : Env} {s : State} {m : MethodId} {args : Array Value} {below : List Frame} {meth : Method} {c : Code} {H : Heap} {locs : List Loc} {E : Ev} {S V : St} {ls : Array Slot}
set_option maxRecDepth 20000 in
theorem w_Sh_refusalOfRow {p1 : Int32} {p2 : Int32} {r : Int32} (C : Cx p s m args meth c E cX7_refusalOfRow 3 RX7 (some .int)) (hw : Wd E (wX V E) s.heap S H locs) (hl : lv_has ls 3 [(0, .ref (ea E 10)), (1, .int p1), (2, .int p2)]) (hf : Sh_refusalOfRow S p1 p2 = some r) : W p l e (rmh 1) s m args below meth c H locs 0 0 (MQ below (QW E (wX V E) (some (.int r)) S) args s 0 0 (eA E)) (F0 m 0 ls []) := by
  have hx := C.1
  have hb := C.2.1
  unfold Sh_refusalOfRow at hf
  refine lv_aload_n hx hb dX7_refusalOfRow_0 rfl (lv_at hl 0 rfl) ?_
  refine get_10_2 C hw q_219 dX7_refusalOfRow_1 ?_
  refine lv_iload_n hx hb dX7_refusalOfRow_4 rfl (lv_at hl 1 rfl) ?_
  obtain ⟨hc, hf⟩ := hf_ck hf
  refine ld_42 C hw hc dX7_refusalOfRow_5 ?_
  refine lv_iconst (v := -1) hx hb dX7_refusalOfRow_6 kc_m1 ?_
  refine lv_icmp_ne (tgt := 13) hx hb dX7_refusalOfRow_7 (by decide) (fun q => ?_) (fun q => ?_)
  · have hf := hf_f q hf
    refine lv_aload_n hx hb dX7_refusalOfRow_13 rfl (lv_at hl 0 rfl) ?_
    refine get_10_2 C hw q_219 dX7_refusalOfRow_14 ?_
    refine lv_iload_n hx hb dX7_refusalOfRow_17 rfl (lv_at hl 1 rfl) ?_
    obtain ⟨hc, hf⟩ := hf_ck hf
    refine ld_42 C hw hc dX7_refusalOfRow_18 ?_
    refine lv_iload_n hx hb dX7_refusalOfRow_19 rfl (lv_at hl 2 rfl) ?_
    refine lv_icmp_ne (tgt := 27) hx hb dX7_refusalOfRow_20 (by decide) (fun q => ?_) (fun q => ?_)
    · have hf := hf_f q hf
      refine lv_bipush (v := -12) hx hb dX7_refusalOfRow_27 kb_m12 ?_
      exact ret_i C hw dX7_refusalOfRow_29 hf
    · have hf := hf_t q hf
      refine lv_iconst (v := 0) hx hb dX7_refusalOfRow_23 kc_0 ?_
      refine lv_goto (tgt := 29) hx hb dX7_refusalOfRow_24 (by decide) ?_
      exact ret_i C hw dX7_refusalOfRow_29 hf
  · have hf := hf_t q hf
    refine lv_bipush (v := -11) hx hb dX7_refusalOfRow_10 kb_m11 ?_
    exact ret_i C hw dX7_refusalOfRow_12 hf
end
theorem t_Sh_refusalOfRow {l : Launch} {V : St} {S : St} {p1 : Int32} {p2 : Int32} {r : Int32} (hf : Sh_refusalOfRow S p1 p2 = some r) : Ct l (wX V) yX7_refusalOfRow cX7_refusalOfRow 3 (some .int) 1 (fun E => [.ref (ea E 10), .int p1, .int p2]) S (fun E => some (.int r)) S :=
  ofBlock (by decide +kernel) (fun _ => Nat.le_of_ble_eq_true rfl) (fun E p e s m args below meth c ls C hw hl => w_Sh_refusalOfRow C hw hl hf)
theorem dX7_refusalOfLink_0 : decode cX7_refusalOfLink 0 = .ok (.aload_n 0, 1) := by decide +kernel
theorem dX7_refusalOfLink_1 : decode cX7_refusalOfLink 1 = .ok (.iload_n 1, 1) := by decide +kernel
theorem dX7_refusalOfLink_2 : decode cX7_refusalOfLink 2 = .ok (.iconst 5, 1) := by decide +kernel
theorem dX7_refusalOfLink_3 : decode cX7_refusalOfLink 3 = .ok (.invokevirtual 34, 3) := by decide +kernel
theorem dX7_refusalOfLink_6 : decode cX7_refusalOfLink 6 = .ok (.ireturn, 1) := by decide +kernel
section
variable {p : Program} {l : Launch} {e : Env} {s : State} {m : MethodId} {args : Array Value} {below : List Frame} {meth : Method} {c : Code} {H : Heap} {locs : List Loc} {E : Ev} {S V : St} {ls : Array Slot}
set_option maxRecDepth 20000 in
theorem w_Sh_refusalOfLink {p1 : Int32} {r : Int32} (C : Cx p s m args meth c E cX7_refusalOfLink 2 RX7 (some .int)) (hw : Wd E (wX V E) s.heap S H locs) (hl : lv_has ls 2 [(0, .ref (ea E 10)), (1, .int p1)]) (hf : Sh_refusalOfLink S p1 = some r) : W p l e (rmh 2) s m args below meth c H locs 0 0 (MQ below (QW E (wX V E) (some (.int r)) S) args s 0 0 (eA E)) (F0 m 0 ls []) := by
  have hx := C.1
  have hb := C.2.1
  unfold Sh_refusalOfLink at hf
  refine lv_aload_n hx hb dX7_refusalOfLink_0 rfl (lv_at hl 0 rfl) ?_
  refine lv_iload_n hx hb dX7_refusalOfLink_1 rfl (lv_at hl 1 rfl) ?_
  refine lv_iconst (v := 5) hx hb dX7_refusalOfLink_2 kc_5 ?_
  obtain ⟨r1, hr, hf⟩ := hf_1 hf
  refine inv_Vi (q0 := 10) (ci := 7) (As := [.int p1, .int (5 : Int32)]) lk_X7_34 C hw rfl rfl rfl (t_Sh_refusalOfRow hr) rfl hl.1 dX7_refusalOfLink_3 rfl (Nat.le_of_ble_eq_true rfl) (by decide) (Nat.le_of_ble_eq_true rfl) rfl (fun H locs hw => ?_)
  exact ret_i C hw dX7_refusalOfLink_6 hf
end
theorem t_Sh_refusalOfLink {l : Launch} {V : St} {S : St} {p1 : Int32} {r : Int32} (hf : Sh_refusalOfLink S p1 = some r) : Ct l (wX V) yX7_refusalOfLink cX7_refusalOfLink 2 (some .int) 2 (fun E => [.ref (ea E 10), .int p1]) S (fun E => some (.int r)) S :=
  ofBlock (by decide +kernel) (fun _ => Nat.le_of_ble_eq_true rfl) (fun E p e s m args below meth c ls C hw hl => w_Sh_refusalOfLink C hw hl hf)
theorem dX7_hasPlaces_0 : decode cX7_hasPlaces 0 = .ok (.iload_n 2, 1) := by decide +kernel
theorem dX7_hasPlaces_1 : decode cX7_hasPlaces 1 = .ok (.ifCond .lt 33, 3) := by decide +kernel
theorem dX7_hasPlaces_4 : decode cX7_hasPlaces 4 = .ok (.iload_n 3, 1) := by decide +kernel
theorem dX7_hasPlaces_5 : decode cX7_hasPlaces 5 = .ok (.ifCond .lt 29, 3) := by decide +kernel
theorem dX7_hasPlaces_8 : decode cX7_hasPlaces 8 = .ok (.iload_n 3, 1) := by decide +kernel
theorem dX7_hasPlaces_9 : decode cX7_hasPlaces 9 = .ok (.aload_n 0, 1) := by decide +kernel
theorem dX7_hasPlaces_10 : decode cX7_hasPlaces 10 = .ok (.getfield 11, 3) := by decide +kernel
theorem dX7_hasPlaces_13 : decode cX7_hasPlaces 13 = .ok (.iload_n 1, 1) := by decide +kernel
theorem dX7_hasPlaces_14 : decode cX7_hasPlaces 14 = .ok (.iaload, 1) := by decide +kernel
theorem dX7_hasPlaces_15 : decode cX7_hasPlaces 15 = .ok (.if_icmp .gt 19, 3) := by decide +kernel
theorem dX7_hasPlaces_18 : decode cX7_hasPlaces 18 = .ok (.iload_n 2, 1) := by decide +kernel
theorem dX7_hasPlaces_19 : decode cX7_hasPlaces 19 = .ok (.aload_n 0, 1) := by decide +kernel
theorem dX7_hasPlaces_20 : decode cX7_hasPlaces 20 = .ok (.getfield 11, 3) := by decide +kernel
theorem dX7_hasPlaces_23 : decode cX7_hasPlaces 23 = .ok (.iload_n 1, 1) := by decide +kernel
theorem dX7_hasPlaces_24 : decode cX7_hasPlaces 24 = .ok (.iaload, 1) := by decide +kernel
theorem dX7_hasPlaces_25 : decode cX7_hasPlaces 25 = .ok (.iload_n 3, 1) := by decide +kernel
theorem dX7_hasPlaces_26 : decode cX7_hasPlaces 26 = .ok (.isub, 1) := by decide +kernel
theorem dX7_hasPlaces_27 : decode cX7_hasPlaces 27 = .ok (.if_icmp .gt 7, 3) := by decide +kernel
theorem dX7_hasPlaces_30 : decode cX7_hasPlaces 30 = .ok (.iconst 1, 1) := by decide +kernel
theorem dX7_hasPlaces_31 : decode cX7_hasPlaces 31 = .ok (.goto 4, 3) := by decide +kernel
theorem dX7_hasPlaces_34 : decode cX7_hasPlaces 34 = .ok (.iconst 0, 1) := by decide +kernel
theorem dX7_hasPlaces_35 : decode cX7_hasPlaces 35 = .ok (.ireturn, 1) := by decide +kernel
section
variable {p : Program} {l : Launch} {e : Env} {s : State} {m : MethodId} {args : Array Value} {below : List Frame} {meth : Method} {c : Code} {H : Heap} {locs : List Loc} {E : Ev} {S V : St} {ls : Array Slot}
set_option maxRecDepth 20000 in
theorem w_Sh_hasPlaces {p1 : Int32} {p2 : Int32} {p3 : Int32} {r : Int32} (C : Cx p s m args meth c E cX7_hasPlaces 4 RX7 (some .boolean)) (hw : Wd E (wX V E) s.heap S H locs) (hl : lv_has ls 4 [(0, .ref (ea E 10)), (1, .int p1), (2, .int p2), (3, .int p3)]) (hf : Sh_hasPlaces S p1 p2 p3 = some r) : W p l e (rmh 1) s m args below meth c H locs 0 0 (MQ below (QW E (wX V E) (some (.int r)) S) args s 0 0 (eA E)) (F0 m 0 ls []) := by
  have hx := C.1
  have hb := C.2.1
  unfold Sh_hasPlaces at hf
  refine lv_iload_n hx hb dX7_hasPlaces_0 rfl (lv_at hl 2 rfl) ?_
  refine lv_if_lt (tgt := 34) hx hb dX7_hasPlaces_1 (by decide) (fun q => ?_) (fun q => ?_)
  · have hf := hf_t q hf
    refine lv_iconst (v := 0) hx hb dX7_hasPlaces_34 kc_0 ?_
    exact ret_z rfl C hw dX7_hasPlaces_35 hf
  · have hf := hf_f q hf
    refine lv_iload_n hx hb dX7_hasPlaces_4 rfl (lv_at hl 3 rfl) ?_
    refine lv_if_lt (tgt := 34) hx hb dX7_hasPlaces_5 (by decide) (fun q => ?_) (fun q => ?_)
    · have hf := hf_t q hf
      refine lv_iconst (v := 0) hx hb dX7_hasPlaces_34 kc_0 ?_
      exact ret_z rfl C hw dX7_hasPlaces_35 hf
    · have hf := hf_f q hf
      refine lv_iload_n hx hb dX7_hasPlaces_8 rfl (lv_at hl 3 rfl) ?_
      refine lv_aload_n hx hb dX7_hasPlaces_9 rfl (lv_at hl 0 rfl) ?_
      refine get_10_0 C hw q_215 dX7_hasPlaces_10 ?_
      refine lv_iload_n hx hb dX7_hasPlaces_13 rfl (lv_at hl 1 rfl) ?_
      obtain ⟨hc, hf⟩ := hf_ck hf
      refine ld_40 C hw hc dX7_hasPlaces_14 ?_
      refine lv_icmp_gt (tgt := 34) hx hb dX7_hasPlaces_15 (by decide) (fun q => ?_) (fun q => ?_)
      · have hf := hf_t q hf
        refine lv_iconst (v := 0) hx hb dX7_hasPlaces_34 kc_0 ?_
        exact ret_z rfl C hw dX7_hasPlaces_35 hf
      · have hf := hf_f q hf
        refine lv_iload_n hx hb dX7_hasPlaces_18 rfl (lv_at hl 2 rfl) ?_
        refine lv_aload_n hx hb dX7_hasPlaces_19 rfl (lv_at hl 0 rfl) ?_
        refine get_10_0 C hw q_215 dX7_hasPlaces_20 ?_
        refine lv_iload_n hx hb dX7_hasPlaces_23 rfl (lv_at hl 1 rfl) ?_
        obtain ⟨hc, hf⟩ := hf_ck hf
        refine ld_40 C hw hc dX7_hasPlaces_24 ?_
        refine lv_iload_n hx hb dX7_hasPlaces_25 rfl (lv_at hl 3 rfl) ?_
        refine lv_isub hx hb dX7_hasPlaces_26 ?_
        refine lv_icmp_gt (tgt := 34) hx hb dX7_hasPlaces_27 (by decide) (fun q => ?_) (fun q => ?_)
        · have hf := hf_t q hf
          refine lv_iconst (v := 0) hx hb dX7_hasPlaces_34 kc_0 ?_
          exact ret_z rfl C hw dX7_hasPlaces_35 hf
        · have hf := hf_f q hf
          refine lv_iconst (v := 1) hx hb dX7_hasPlaces_30 kc_1 ?_
          refine lv_goto (tgt := 35) hx hb dX7_hasPlaces_31 (by decide) ?_
          exact ret_z rfl C hw dX7_hasPlaces_35 hf
end
theorem t_Sh_hasPlaces {l : Launch} {V : St} {S : St} {p1 : Int32} {p2 : Int32} {p3 : Int32} {r : Int32} (hf : Sh_hasPlaces S p1 p2 p3 = some r) : Ct l (wX V) yX7_hasPlaces cX7_hasPlaces 4 (some .boolean) 1 (fun E => [.ref (ea E 10), .int p1, .int p2, .int p3]) S (fun E => some (.int r)) S :=
  ofBlock (by decide +kernel) (fun _ => Nat.le_of_ble_eq_true rfl) (fun E p e s m args below meth c ls C hw hl => w_Sh_hasPlaces C hw hl hf)
theorem dX7_refusalOfPlace_0 : decode cX7_refusalOfPlace 0 = .ok (.aload_n 0, 1) := by decide +kernel
theorem dX7_refusalOfPlace_1 : decode cX7_refusalOfPlace 1 = .ok (.getfield 18, 3) := by decide +kernel
theorem dX7_refusalOfPlace_4 : decode cX7_refusalOfPlace 4 = .ok (.iload_n 1, 1) := by decide +kernel
theorem dX7_refusalOfPlace_5 : decode cX7_refusalOfPlace 5 = .ok (.iaload, 1) := by decide +kernel
theorem dX7_refusalOfPlace_6 : decode cX7_refusalOfPlace 6 = .ok (.iconst (-1), 1) := by decide +kernel
theorem dX7_refusalOfPlace_7 : decode cX7_refusalOfPlace 7 = .ok (.if_icmp .ne 6, 3) := by decide +kernel
theorem dX7_refusalOfPlace_10 : decode cX7_refusalOfPlace 10 = .ok (.bipush (-11), 2) := by decide +kernel
theorem dX7_refusalOfPlace_12 : decode cX7_refusalOfPlace 12 = .ok (.ireturn, 1) := by decide +kernel
theorem dX7_refusalOfPlace_13 : decode cX7_refusalOfPlace 13 = .ok (.aload_n 0, 1) := by decide +kernel
theorem dX7_refusalOfPlace_14 : decode cX7_refusalOfPlace 14 = .ok (.iload_n 1, 1) := by decide +kernel
theorem dX7_refusalOfPlace_15 : decode cX7_refusalOfPlace 15 = .ok (.invokevirtual 38, 3) := by decide +kernel
theorem dX7_refusalOfPlace_18 : decode cX7_refusalOfPlace 18 = .ok (.ifCond .ne 6, 3) := by decide +kernel
theorem dX7_refusalOfPlace_21 : decode cX7_refusalOfPlace 21 = .ok (.bipush (-12), 2) := by decide +kernel
theorem dX7_refusalOfPlace_23 : decode cX7_refusalOfPlace 23 = .ok (.ireturn, 1) := by decide +kernel
theorem dX7_refusalOfPlace_24 : decode cX7_refusalOfPlace 24 = .ok (.aload_n 0, 1) := by decide +kernel
theorem dX7_refusalOfPlace_25 : decode cX7_refusalOfPlace 25 = .ok (.iload_n 1, 1) := by decide +kernel
theorem dX7_refusalOfPlace_26 : decode cX7_refusalOfPlace 26 = .ok (.iload_n 2, 1) := by decide +kernel
theorem dX7_refusalOfPlace_27 : decode cX7_refusalOfPlace 27 = .ok (.iconst 1, 1) := by decide +kernel
theorem dX7_refusalOfPlace_28 : decode cX7_refusalOfPlace 28 = .ok (.invokevirtual 42, 3) := by decide +kernel
theorem dX7_refusalOfPlace_31 : decode cX7_refusalOfPlace 31 = .ok (.ifCond .eq 7, 3) := by decide +kernel
theorem dX7_refusalOfPlace_34 : decode cX7_refusalOfPlace 34 = .ok (.iconst 0, 1) := by decide +kernel
theorem dX7_refusalOfPlace_35 : decode cX7_refusalOfPlace 35 = .ok (.goto 5, 3) := by decide +kernel
theorem dX7_refusalOfPlace_38 : decode cX7_refusalOfPlace 38 = .ok (.bipush (-13), 2) := by decide +kernel
theorem dX7_refusalOfPlace_40 : decode cX7_refusalOfPlace 40 = .ok (.ireturn, 1) := by decide +kernel
section
variable {p : Program} {l : Launch} {e : Env} {s : State} {m : MethodId} {args : Array Value} {below : List Frame} {meth : Method} {c : Code} {H : Heap} {locs : List Loc} {E : Ev} {S V : St} {ls : Array Slot}
set_option maxRecDepth 20000 in
theorem w_Sh_refusalOfPlace {p1 : Int32} {p2 : Int32} {r : Int32} (C : Cx p s m args meth c E cX7_refusalOfPlace 3 RX7 (some .int)) (hw : Wd E (wX V E) s.heap S H locs) (hl : lv_has ls 3 [(0, .ref (ea E 10)), (1, .int p1), (2, .int p2)]) (hf : Sh_refusalOfPlace S p1 p2 = some r) : W p l e (rmh 2) s m args below meth c H locs 0 0 (MQ below (QW E (wX V E) (some (.int r)) S) args s 0 0 (eA E)) (F0 m 0 ls []) := by
  have hx := C.1
  have hb := C.2.1
  unfold Sh_refusalOfPlace at hf
  refine lv_aload_n hx hb dX7_refusalOfPlace_0 rfl (lv_at hl 0 rfl) ?_
  refine get_10_2 C hw q_219 dX7_refusalOfPlace_1 ?_
  refine lv_iload_n hx hb dX7_refusalOfPlace_4 rfl (lv_at hl 1 rfl) ?_
  obtain ⟨hc, hf⟩ := hf_ck hf
  refine ld_42 C hw hc dX7_refusalOfPlace_5 ?_
  refine lv_iconst (v := -1) hx hb dX7_refusalOfPlace_6 kc_m1 ?_
  refine lv_icmp_ne (tgt := 13) hx hb dX7_refusalOfPlace_7 (by decide) (fun q => ?_) (fun q => ?_)
  · have hf := hf_f q hf
    refine lv_aload_n hx hb dX7_refusalOfPlace_13 rfl (lv_at hl 0 rfl) ?_
    refine lv_iload_n hx hb dX7_refusalOfPlace_14 rfl (lv_at hl 1 rfl) ?_
    obtain ⟨r1, hr, hf⟩ := hf_1 hf
    refine inv_Vi (q0 := 10) (ci := 7) (As := [.int p1]) lk_X7_38 C hw rfl rfl rfl (t_Sh_holdsRow hr) rfl hl.1 dX7_refusalOfPlace_15 rfl (Nat.le_of_ble_eq_true rfl) (by decide) (Nat.le_of_ble_eq_true rfl) rfl (fun H locs hw => ?_)
    refine lv_if_ne (tgt := 24) hx hb dX7_refusalOfPlace_18 (by decide) (fun q => ?_) (fun q => ?_)
    · have hf := hf_f q hf
      refine lv_aload_n hx hb dX7_refusalOfPlace_24 rfl (lv_at hl 0 rfl) ?_
      refine lv_iload_n hx hb dX7_refusalOfPlace_25 rfl (lv_at hl 1 rfl) ?_
      refine lv_iload_n hx hb dX7_refusalOfPlace_26 rfl (lv_at hl 2 rfl) ?_
      refine lv_iconst (v := 1) hx hb dX7_refusalOfPlace_27 kc_1 ?_
      obtain ⟨r2, hr, hf⟩ := hf_1 hf
      refine inv_Vi (q0 := 10) (ci := 7) (As := [.int p1, .int p2, .int (1 : Int32)]) lk_X7_42 C hw rfl rfl rfl (t_Sh_hasPlaces hr) rfl hl.1 dX7_refusalOfPlace_28 rfl (Nat.le_of_ble_eq_true rfl) (by decide) (Nat.le_of_ble_eq_true rfl) rfl (fun H locs hw => ?_)
      refine lv_if_eq (tgt := 38) hx hb dX7_refusalOfPlace_31 (by decide) (fun q => ?_) (fun q => ?_)
      · have hf := hf_t q hf
        refine lv_bipush (v := -13) hx hb dX7_refusalOfPlace_38 kb_m13 ?_
        exact ret_i C hw dX7_refusalOfPlace_40 hf
      · have hf := hf_f q hf
        refine lv_iconst (v := 0) hx hb dX7_refusalOfPlace_34 kc_0 ?_
        refine lv_goto (tgt := 40) hx hb dX7_refusalOfPlace_35 (by decide) ?_
        exact ret_i C hw dX7_refusalOfPlace_40 hf
    · have hf := hf_t q hf
      refine lv_bipush (v := -12) hx hb dX7_refusalOfPlace_21 kb_m12 ?_
      exact ret_i C hw dX7_refusalOfPlace_23 hf
  · have hf := hf_t q hf
    refine lv_bipush (v := -11) hx hb dX7_refusalOfPlace_10 kb_m11 ?_
    exact ret_i C hw dX7_refusalOfPlace_12 hf
end
theorem t_Sh_refusalOfPlace {l : Launch} {V : St} {S : St} {p1 : Int32} {p2 : Int32} {r : Int32} (hf : Sh_refusalOfPlace S p1 p2 = some r) : Ct l (wX V) yX7_refusalOfPlace cX7_refusalOfPlace 3 (some .int) 2 (fun E => [.ref (ea E 10), .int p1, .int p2]) S (fun E => some (.int r)) S :=
  ofBlock (by decide +kernel) (fun _ => Nat.le_of_ble_eq_true rfl) (fun E p e s m args below meth c ls C hw hl => w_Sh_refusalOfPlace C hw hl hf)
theorem dX7_refusalOfPair_0 : decode cX7_refusalOfPair 0 = .ok (.aload_n 0, 1) := by decide +kernel
theorem dX7_refusalOfPair_1 : decode cX7_refusalOfPair 1 = .ok (.getfield 18, 3) := by decide +kernel
theorem dX7_refusalOfPair_4 : decode cX7_refusalOfPair 4 = .ok (.iload_n 1, 1) := by decide +kernel
theorem dX7_refusalOfPair_5 : decode cX7_refusalOfPair 5 = .ok (.iaload, 1) := by decide +kernel
theorem dX7_refusalOfPair_6 : decode cX7_refusalOfPair 6 = .ok (.iconst (-1), 1) := by decide +kernel
theorem dX7_refusalOfPair_7 : decode cX7_refusalOfPair 7 = .ok (.if_icmp .eq 13, 3) := by decide +kernel
theorem dX7_refusalOfPair_10 : decode cX7_refusalOfPair 10 = .ok (.aload_n 0, 1) := by decide +kernel
theorem dX7_refusalOfPair_11 : decode cX7_refusalOfPair 11 = .ok (.getfield 18, 3) := by decide +kernel
theorem dX7_refusalOfPair_14 : decode cX7_refusalOfPair 14 = .ok (.iload_n 2, 1) := by decide +kernel
theorem dX7_refusalOfPair_15 : decode cX7_refusalOfPair 15 = .ok (.iaload, 1) := by decide +kernel
theorem dX7_refusalOfPair_16 : decode cX7_refusalOfPair 16 = .ok (.iconst (-1), 1) := by decide +kernel
theorem dX7_refusalOfPair_17 : decode cX7_refusalOfPair 17 = .ok (.if_icmp .ne 6, 3) := by decide +kernel
theorem dX7_refusalOfPair_20 : decode cX7_refusalOfPair 20 = .ok (.bipush (-11), 2) := by decide +kernel
theorem dX7_refusalOfPair_22 : decode cX7_refusalOfPair 22 = .ok (.ireturn, 1) := by decide +kernel
theorem dX7_refusalOfPair_23 : decode cX7_refusalOfPair 23 = .ok (.aload_n 0, 1) := by decide +kernel
theorem dX7_refusalOfPair_24 : decode cX7_refusalOfPair 24 = .ok (.iload_n 1, 1) := by decide +kernel
theorem dX7_refusalOfPair_25 : decode cX7_refusalOfPair 25 = .ok (.invokevirtual 38, 3) := by decide +kernel
theorem dX7_refusalOfPair_28 : decode cX7_refusalOfPair 28 = .ok (.ifCond .eq 22, 3) := by decide +kernel
theorem dX7_refusalOfPair_31 : decode cX7_refusalOfPair 31 = .ok (.aload_n 0, 1) := by decide +kernel
theorem dX7_refusalOfPair_32 : decode cX7_refusalOfPair 32 = .ok (.getfield 18, 3) := by decide +kernel
theorem dX7_refusalOfPair_35 : decode cX7_refusalOfPair 35 = .ok (.iload_n 1, 1) := by decide +kernel
theorem dX7_refusalOfPair_36 : decode cX7_refusalOfPair 36 = .ok (.iaload, 1) := by decide +kernel
theorem dX7_refusalOfPair_37 : decode cX7_refusalOfPair 37 = .ok (.aload_n 0, 1) := by decide +kernel
theorem dX7_refusalOfPair_38 : decode cX7_refusalOfPair 38 = .ok (.getfield 18, 3) := by decide +kernel
theorem dX7_refusalOfPair_41 : decode cX7_refusalOfPair 41 = .ok (.iload_n 2, 1) := by decide +kernel
theorem dX7_refusalOfPair_42 : decode cX7_refusalOfPair 42 = .ok (.iaload, 1) := by decide +kernel
theorem dX7_refusalOfPair_43 : decode cX7_refusalOfPair 43 = .ok (.if_icmp .ne 7, 3) := by decide +kernel
theorem dX7_refusalOfPair_46 : decode cX7_refusalOfPair 46 = .ok (.iconst 0, 1) := by decide +kernel
theorem dX7_refusalOfPair_47 : decode cX7_refusalOfPair 47 = .ok (.goto 5, 3) := by decide +kernel
theorem dX7_refusalOfPair_50 : decode cX7_refusalOfPair 50 = .ok (.bipush (-12), 2) := by decide +kernel
theorem dX7_refusalOfPair_52 : decode cX7_refusalOfPair 52 = .ok (.ireturn, 1) := by decide +kernel
section
variable {p : Program} {l : Launch} {e : Env} {s : State} {m : MethodId} {args : Array Value} {below : List Frame} {meth : Method} {c : Code} {H : Heap} {locs : List Loc} {E : Ev} {S V : St} {ls : Array Slot}
set_option maxRecDepth 20000 in
theorem w_Sh_refusalOfPair {p1 : Int32} {p2 : Int32} {r : Int32} (C : Cx p s m args meth c E cX7_refusalOfPair 3 RX7 (some .int)) (hw : Wd E (wX V E) s.heap S H locs) (hl : lv_has ls 3 [(0, .ref (ea E 10)), (1, .int p1), (2, .int p2)]) (hf : Sh_refusalOfPair S p1 p2 = some r) : W p l e (rmh 2) s m args below meth c H locs 0 0 (MQ below (QW E (wX V E) (some (.int r)) S) args s 0 0 (eA E)) (F0 m 0 ls []) := by
  have hx := C.1
  have hb := C.2.1
  unfold Sh_refusalOfPair at hf
  refine lv_aload_n hx hb dX7_refusalOfPair_0 rfl (lv_at hl 0 rfl) ?_
  refine get_10_2 C hw q_219 dX7_refusalOfPair_1 ?_
  refine lv_iload_n hx hb dX7_refusalOfPair_4 rfl (lv_at hl 1 rfl) ?_
  obtain ⟨hc, hf⟩ := hf_ck hf
  refine ld_42 C hw hc dX7_refusalOfPair_5 ?_
  refine lv_iconst (v := -1) hx hb dX7_refusalOfPair_6 kc_m1 ?_
  refine lv_icmp_eq (tgt := 20) hx hb dX7_refusalOfPair_7 (by decide) (fun q => ?_) (fun q => ?_)
  · have hf := hf_t q hf
    refine lv_bipush (v := -11) hx hb dX7_refusalOfPair_20 kb_m11 ?_
    exact ret_i C hw dX7_refusalOfPair_22 hf
  · have hf := hf_f q hf
    refine lv_aload_n hx hb dX7_refusalOfPair_10 rfl (lv_at hl 0 rfl) ?_
    refine get_10_2 C hw q_219 dX7_refusalOfPair_11 ?_
    refine lv_iload_n hx hb dX7_refusalOfPair_14 rfl (lv_at hl 2 rfl) ?_
    obtain ⟨hc, hf⟩ := hf_ck hf
    refine ld_42 C hw hc dX7_refusalOfPair_15 ?_
    refine lv_iconst (v := -1) hx hb dX7_refusalOfPair_16 kc_m1 ?_
    refine lv_icmp_ne (tgt := 23) hx hb dX7_refusalOfPair_17 (by decide) (fun q => ?_) (fun q => ?_)
    · have hf := hf_f q hf
      refine lv_aload_n hx hb dX7_refusalOfPair_23 rfl (lv_at hl 0 rfl) ?_
      refine lv_iload_n hx hb dX7_refusalOfPair_24 rfl (lv_at hl 1 rfl) ?_
      obtain ⟨r1, hr, hf⟩ := hf_1 hf
      refine inv_Vi (q0 := 10) (ci := 7) (As := [.int p1]) lk_X7_38 C hw rfl rfl rfl (t_Sh_holdsRow hr) rfl hl.1 dX7_refusalOfPair_25 rfl (Nat.le_of_ble_eq_true rfl) (by decide) (Nat.le_of_ble_eq_true rfl) rfl (fun H locs hw => ?_)
      refine lv_if_eq (tgt := 50) hx hb dX7_refusalOfPair_28 (by decide) (fun q => ?_) (fun q => ?_)
      · have hf := hf_t q hf
        refine lv_bipush (v := -12) hx hb dX7_refusalOfPair_50 kb_m12 ?_
        exact ret_i C hw dX7_refusalOfPair_52 hf
      · have hf := hf_f q hf
        refine lv_aload_n hx hb dX7_refusalOfPair_31 rfl (lv_at hl 0 rfl) ?_
        refine get_10_2 C hw q_219 dX7_refusalOfPair_32 ?_
        refine lv_iload_n hx hb dX7_refusalOfPair_35 rfl (lv_at hl 1 rfl) ?_
        obtain ⟨hc, hf⟩ := hf_ck hf
        refine ld_42 C hw hc dX7_refusalOfPair_36 ?_
        refine lv_aload_n hx hb dX7_refusalOfPair_37 rfl (lv_at hl 0 rfl) ?_
        refine get_10_2 C hw q_219 dX7_refusalOfPair_38 ?_
        refine lv_iload_n hx hb dX7_refusalOfPair_41 rfl (lv_at hl 2 rfl) ?_
        obtain ⟨hc, hf⟩ := hf_ck hf
        refine ld_42 C hw hc dX7_refusalOfPair_42 ?_
        refine lv_icmp_ne (tgt := 50) hx hb dX7_refusalOfPair_43 (by decide) (fun q => ?_) (fun q => ?_)
        · have hf := hf_f q hf
          refine lv_bipush (v := -12) hx hb dX7_refusalOfPair_50 kb_m12 ?_
          exact ret_i C hw dX7_refusalOfPair_52 hf
        · have hf := hf_t q hf
          refine lv_iconst (v := 0) hx hb dX7_refusalOfPair_46 kc_0 ?_
          refine lv_goto (tgt := 52) hx hb dX7_refusalOfPair_47 (by decide) ?_
          exact ret_i C hw dX7_refusalOfPair_52 hf
    · have hf := hf_t q hf
      refine lv_bipush (v := -11) hx hb dX7_refusalOfPair_20 kb_m11 ?_
      exact ret_i C hw dX7_refusalOfPair_22 hf
end
theorem t_Sh_refusalOfPair {l : Launch} {V : St} {S : St} {p1 : Int32} {p2 : Int32} {r : Int32} (hf : Sh_refusalOfPair S p1 p2 = some r) : Ct l (wX V) yX7_refusalOfPair cX7_refusalOfPair 3 (some .int) 2 (fun E => [.ref (ea E 10), .int p1, .int p2]) S (fun E => some (.int r)) S :=
  ofBlock (by decide +kernel) (fun _ => Nat.le_of_ble_eq_true rfl) (fun E p e s m args below meth c ls C hw hl => w_Sh_refusalOfPair C hw hl hf)
theorem dX7_lowestBits_0 : decode cX7_lowestBits 0 = .ok (.iload_n 0, 1) := by decide +kernel
theorem dX7_lowestBits_1 : decode cX7_lowestBits 1 = .ok (.tableswitch 61 0 4 #[35, 40, 45, 61, 49], 35) := by decide +kernel
theorem dX7_lowestBits_36 : decode cX7_lowestBits 36 = .ok (.lload_n 1, 1) := by decide +kernel
theorem dX7_lowestBits_37 : decode cX7_lowestBits 37 = .ok (.l2i, 1) := by decide +kernel
theorem dX7_lowestBits_38 : decode cX7_lowestBits 38 = .ok (.i2b, 1) := by decide +kernel
theorem dX7_lowestBits_39 : decode cX7_lowestBits 39 = .ok (.i2l, 1) := by decide +kernel
theorem dX7_lowestBits_40 : decode cX7_lowestBits 40 = .ok (.lreturn, 1) := by decide +kernel
theorem dX7_lowestBits_41 : decode cX7_lowestBits 41 = .ok (.lload_n 1, 1) := by decide +kernel
theorem dX7_lowestBits_42 : decode cX7_lowestBits 42 = .ok (.l2i, 1) := by decide +kernel
theorem dX7_lowestBits_43 : decode cX7_lowestBits 43 = .ok (.i2s, 1) := by decide +kernel
theorem dX7_lowestBits_44 : decode cX7_lowestBits 44 = .ok (.i2l, 1) := by decide +kernel
theorem dX7_lowestBits_45 : decode cX7_lowestBits 45 = .ok (.lreturn, 1) := by decide +kernel
theorem dX7_lowestBits_46 : decode cX7_lowestBits 46 = .ok (.lload_n 1, 1) := by decide +kernel
theorem dX7_lowestBits_47 : decode cX7_lowestBits 47 = .ok (.l2i, 1) := by decide +kernel
theorem dX7_lowestBits_48 : decode cX7_lowestBits 48 = .ok (.i2l, 1) := by decide +kernel
theorem dX7_lowestBits_49 : decode cX7_lowestBits 49 = .ok (.lreturn, 1) := by decide +kernel
theorem dX7_lowestBits_50 : decode cX7_lowestBits 50 = .ok (.lload_n 1, 1) := by decide +kernel
theorem dX7_lowestBits_51 : decode cX7_lowestBits 51 = .ok (.lconst 0, 1) := by decide +kernel
theorem dX7_lowestBits_52 : decode cX7_lowestBits 52 = .ok (.lcmp, 1) := by decide +kernel
theorem dX7_lowestBits_53 : decode cX7_lowestBits 53 = .ok (.ifCond .eq 7, 3) := by decide +kernel
theorem dX7_lowestBits_56 : decode cX7_lowestBits 56 = .ok (.lconst 1, 1) := by decide +kernel
theorem dX7_lowestBits_57 : decode cX7_lowestBits 57 = .ok (.goto 4, 3) := by decide +kernel
theorem dX7_lowestBits_60 : decode cX7_lowestBits 60 = .ok (.lconst 0, 1) := by decide +kernel
theorem dX7_lowestBits_61 : decode cX7_lowestBits 61 = .ok (.lreturn, 1) := by decide +kernel
theorem dX7_lowestBits_62 : decode cX7_lowestBits 62 = .ok (.lload_n 1, 1) := by decide +kernel
theorem dX7_lowestBits_63 : decode cX7_lowestBits 63 = .ok (.lreturn, 1) := by decide +kernel
section
variable {p : Program} {l : Launch} {e : Env} {s : State} {m : MethodId} {args : Array Value} {below : List Frame} {meth : Method} {c : Code} {H : Heap} {locs : List Loc} {E : Ev} {S V : St} {ls : Array Slot}
set_option maxRecDepth 20000 in
theorem w_Sh_lowestBits {p1 : Int32} {p2 : Int64} {r : Int64} (C : Cx p s m args meth c E cX7_lowestBits 3 RX7 (some .long)) (hw : Wd E (wX V E) s.heap S H locs) (hl : lv_has ls 3 [(0, .int p1), (1, .long p2)]) (hf : Sh_lowestBits S p1 p2 = some r) : W p l e (rmh 1) s m args below meth c H locs 0 0 (MQ below (QW E (wX V E) (some (.long r)) S) args s 0 0 (eA E)) (F0 m 0 ls []) := by
  have hx := C.1
  have hb := C.2.1
  unfold Sh_lowestBits at hf
  refine lv_iload_n hx hb dX7_lowestBits_0 rfl (lv_at hl 0 rfl) ?_
  by_cases q0 : p1 = 0
  · have hf := hf_t q0 hf
    refine lv_tableIn (off := 35) (tgt := 36) hx hb dX7_lowestBits_1 (by rw [q0]; decide) (by rw [q0]; decide) (by rw [q0]; rfl) (by decide) ?_
    refine lv_lload_n hx hb dX7_lowestBits_36 rfl (lv_at hl 1 rfl) ?_
    refine lv_l2i hx hb dX7_lowestBits_37 rfl ?_
    refine lv_i2b hx hb dX7_lowestBits_38 rfl ?_
    refine lv_i2l hx hb dX7_lowestBits_39 rfl ?_
    exact ret_l C hw dX7_lowestBits_40 hf
  have hf := hf_f q0 hf
  by_cases q1 : p1 = 1
  · have hf := hf_t q1 hf
    refine lv_tableIn (off := 40) (tgt := 41) hx hb dX7_lowestBits_1 (by rw [q1]; decide) (by rw [q1]; decide) (by rw [q1]; rfl) (by decide) ?_
    refine lv_lload_n hx hb dX7_lowestBits_41 rfl (lv_at hl 1 rfl) ?_
    refine lv_l2i hx hb dX7_lowestBits_42 rfl ?_
    refine lv_i2s hx hb dX7_lowestBits_43 rfl ?_
    refine lv_i2l hx hb dX7_lowestBits_44 rfl ?_
    exact ret_l C hw dX7_lowestBits_45 hf
  have hf := hf_f q1 hf
  by_cases q2 : p1 = 2
  · have hf := hf_t q2 hf
    refine lv_tableIn (off := 45) (tgt := 46) hx hb dX7_lowestBits_1 (by rw [q2]; decide) (by rw [q2]; decide) (by rw [q2]; rfl) (by decide) ?_
    refine lv_lload_n hx hb dX7_lowestBits_46 rfl (lv_at hl 1 rfl) ?_
    refine lv_l2i hx hb dX7_lowestBits_47 rfl ?_
    refine lv_i2l hx hb dX7_lowestBits_48 rfl ?_
    exact ret_l C hw dX7_lowestBits_49 hf
  have hf := hf_f q2 hf
  by_cases q3 : p1 = 3
  · have hf := hf_t q3 hf
    refine lv_tableIn (off := 61) (tgt := 62) hx hb dX7_lowestBits_1 (by rw [q3]; decide) (by rw [q3]; decide) (by rw [q3]; rfl) (by decide) ?_
    refine lv_lload_n hx hb dX7_lowestBits_62 rfl (lv_at hl 1 rfl) ?_
    exact ret_l C hw dX7_lowestBits_63 hf
  have hf := hf_f q3 hf
  by_cases q4 : p1 = 4
  · have hf := hf_t q4 hf
    refine lv_tableIn (off := 49) (tgt := 50) hx hb dX7_lowestBits_1 (by rw [q4]; decide) (by rw [q4]; decide) (by rw [q4]; rfl) (by decide) ?_
    refine lv_lload_n hx hb dX7_lowestBits_50 rfl (lv_at hl 1 rfl) ?_
    refine lv_lconst (v := 0) hx hb dX7_lowestBits_51 rfl ?_
    refine W.lcmp hx hb dX7_lowestBits_52 ?_
    refine lv_if_eq (tgt := 60) hx hb dX7_lowestBits_53 (by decide) (fun q => ?_) (fun q => ?_)
    · have hf := hf_t q hf
      refine lv_lconst (v := 0) hx hb dX7_lowestBits_60 rfl ?_
      exact ret_l C hw dX7_lowestBits_61 hf
    · have hf := hf_f q hf
      refine lv_lconst (v := 1) hx hb dX7_lowestBits_56 rfl ?_
      refine lv_goto (tgt := 61) hx hb dX7_lowestBits_57 (by decide) ?_
      exact ret_l C hw dX7_lowestBits_61 hf
  have hf := hf_f q4 hf
  refine lv_tableOut (tgt := 62) hx hb dX7_lowestBits_1 (by have h0 := lv_neT (a := 0) q0 rfl; have h1 := lv_neT (a := 1) q1 rfl; have h2 := lv_neT (a := 2) q2 rfl; have h3 := lv_neT (a := 3) q3 rfl; have h4 := lv_neT (a := 4) q4 rfl; omega) (by decide) ?_
  refine lv_lload_n hx hb dX7_lowestBits_62 rfl (lv_at hl 1 rfl) ?_
  exact ret_l C hw dX7_lowestBits_63 hf
end
theorem t_Sh_lowestBits {l : Launch} {V : St} {S : St} {p1 : Int32} {p2 : Int64} {r : Int64} (hf : Sh_lowestBits S p1 p2 = some r) : Ct l (wX V) yX7_lowestBits cX7_lowestBits 3 (some .long) 1 (fun E => [.int p1, .long p2]) S (fun E => some (.long r)) S :=
  ofBlock (by decide +kernel) (fun _ => Nat.le_of_ble_eq_true rfl) (fun E p e s m args below meth c ls C hw hl => w_Sh_lowestBits C hw hl hf)
theorem dX7_putAt_0 : decode cX7_putAt 0 = .ok (.aload_n 0, 1) := by decide +kernel
theorem dX7_putAt_1 : decode cX7_putAt 1 = .ok (.getfield 21, 3) := by decide +kernel
theorem dX7_putAt_4 : decode cX7_putAt 4 = .ok (.iload_n 1, 1) := by decide +kernel
theorem dX7_putAt_5 : decode cX7_putAt 5 = .ok (.bipush 60, 2) := by decide +kernel
theorem dX7_putAt_7 : decode cX7_putAt 7 = .ok (.imul, 1) := by decide +kernel
theorem dX7_putAt_8 : decode cX7_putAt 8 = .ok (.iload_n 2, 1) := by decide +kernel
theorem dX7_putAt_9 : decode cX7_putAt 9 = .ok (.iadd, 1) := by decide +kernel
theorem dX7_putAt_10 : decode cX7_putAt 10 = .ok (.aload_n 0, 1) := by decide +kernel
theorem dX7_putAt_11 : decode cX7_putAt 11 = .ok (.getfield 18, 3) := by decide +kernel
theorem dX7_putAt_14 : decode cX7_putAt 14 = .ok (.iload_n 1, 1) := by decide +kernel
theorem dX7_putAt_15 : decode cX7_putAt 15 = .ok (.iaload, 1) := by decide +kernel
theorem dX7_putAt_16 : decode cX7_putAt 16 = .ok (.lload_n 3, 1) := by decide +kernel
theorem dX7_putAt_17 : decode cX7_putAt 17 = .ok (.invokestatic 46, 3) := by decide +kernel
theorem dX7_putAt_20 : decode cX7_putAt 20 = .ok (.lastore, 1) := by decide +kernel
theorem dX7_putAt_21 : decode cX7_putAt 21 = .ok (.iconst 1, 1) := by decide +kernel
theorem dX7_putAt_22 : decode cX7_putAt 22 = .ok (.ireturn, 1) := by decide +kernel
section
variable {p : Program} {l : Launch} {e : Env} {s : State} {m : MethodId} {args : Array Value} {below : List Frame} {meth : Method} {c : Code} {H : Heap} {locs : List Loc} {E : Ev} {S V : St} {ls : Array Slot}
set_option maxRecDepth 20000 in
theorem w_Sh_putAt {p1 : Int32} {p2 : Int32} {p3 : Int64} {r : Int32} {S9 : St} (C : Cx p s m args meth c E cX7_putAt 5 RX7 (some .int)) (hw : Wd E (wX V E) s.heap S H locs) (hl : lv_has ls 5 [(0, .ref (ea E 10)), (1, .int p1), (2, .int p2), (3, .long p3)]) (hf : Sh_putAt S p1 p2 p3 = some (r, S9)) : W p l e (rmh 2) s m args below meth c H locs 0 0 (MQ below (QW E (wX V E) (some (.int r)) S9) args s 0 0 (eA E)) (F0 m 0 ls []) := by
  have hx := C.1
  have hb := C.2.1
  unfold Sh_putAt at hf
  refine lv_aload_n hx hb dX7_putAt_0 rfl (lv_at hl 0 rfl) ?_
  refine get_10_3 C hw q_220 dX7_putAt_1 ?_
  refine lv_iload_n hx hb dX7_putAt_4 rfl (lv_at hl 1 rfl) ?_
  refine lv_bipush (v := 60) hx hb dX7_putAt_5 kb_60 ?_
  refine lv_imul hx hb dX7_putAt_7 ?_
  refine lv_iload_n hx hb dX7_putAt_8 rfl (lv_at hl 2 rfl) ?_
  refine lv_iadd hx hb dX7_putAt_9 ?_
  refine lv_aload_n hx hb dX7_putAt_10 rfl (lv_at hl 0 rfl) ?_
  refine get_10_2 C hw q_219 dX7_putAt_11 ?_
  refine lv_iload_n hx hb dX7_putAt_14 rfl (lv_at hl 1 rfl) ?_
  obtain ⟨hc, hf⟩ := hf_ck hf
  refine ld_42 C hw hc dX7_putAt_15 ?_
  refine lv_lload_n hx hb dX7_putAt_16 rfl (lv_at hl 3 rfl) ?_
  obtain ⟨r1, hr, hf⟩ := hf_1 hf
  refine inv_Sl (As := [.int (gi S 42 p1.toNatClampNeg), .long p3]) lk_X7_46 C hw (t_Sh_lowestBits hr) hl.1 dX7_putAt_17 rfl (Nat.le_of_ble_eq_true rfl) (by decide) (Nat.le_of_ble_eq_true rfl) rfl (fun H locs hw => ?_)
  obtain ⟨hc, hf⟩ := hf_ck hf
  refine st_43 C hw hc dX7_putAt_20 (fun H locs hw => ?_)
  refine nm_S hf hw (fun S2 hf hw => ?_)
  refine lv_iconst (v := 1) hx hb dX7_putAt_21 kc_1 ?_
  exact ret_iS C hw dX7_putAt_22 hf
end
theorem t_Sh_putAt {l : Launch} {V : St} {S : St} {p1 : Int32} {p2 : Int32} {p3 : Int64} {r : Int32} {S9 : St} (hf : Sh_putAt S p1 p2 p3 = some (r, S9)) : Ct l (wX V) yX7_putAt cX7_putAt 5 (some .int) 2 (fun E => [.ref (ea E 10), .int p1, .int p2, .long p3]) S (fun E => some (.int r)) S9 :=
  ofBlock (by decide +kernel) (fun _ => Nat.le_of_ble_eq_true rfl) (fun E p e s m args below meth c ls C hw hl => w_Sh_putAt C hw hl hf)
theorem dX7_move_0 : decode cX7_move 0 = .ok (.aload_n 0, 1) := by decide +kernel
theorem dX7_move_1 : decode cX7_move 1 = .ok (.getfield 21, 3) := by decide +kernel
theorem dX7_move_4 : decode cX7_move 4 = .ok (.iload_n 1, 1) := by decide +kernel
theorem dX7_move_5 : decode cX7_move 5 = .ok (.bipush 60, 2) := by decide +kernel
theorem dX7_move_7 : decode cX7_move 7 = .ok (.imul, 1) := by decide +kernel
theorem dX7_move_8 : decode cX7_move 8 = .ok (.iload_n 2, 1) := by decide +kernel
theorem dX7_move_9 : decode cX7_move 9 = .ok (.iadd, 1) := by decide +kernel
theorem dX7_move_10 : decode cX7_move 10 = .ok (.aload_n 0, 1) := by decide +kernel
theorem dX7_move_11 : decode cX7_move 11 = .ok (.getfield 21, 3) := by decide +kernel
theorem dX7_move_14 : decode cX7_move 14 = .ok (.iload_n 3, 1) := by decide +kernel
theorem dX7_move_15 : decode cX7_move 15 = .ok (.bipush 60, 2) := by decide +kernel
theorem dX7_move_17 : decode cX7_move 17 = .ok (.imul, 1) := by decide +kernel
theorem dX7_move_18 : decode cX7_move 18 = .ok (.iload 4, 2) := by decide +kernel
theorem dX7_move_20 : decode cX7_move 20 = .ok (.iadd, 1) := by decide +kernel
theorem dX7_move_21 : decode cX7_move 21 = .ok (.iload 5, 2) := by decide +kernel
theorem dX7_move_23 : decode cX7_move 23 = .ok (.invokestatic 50, 3) := by decide +kernel
theorem dX7_move_26 : decode cX7_move 26 = .ok (.iload 5, 2) := by decide +kernel
theorem dX7_move_28 : decode cX7_move 28 = .ok (.ireturn, 1) := by decide +kernel
section
variable {p : Program} {l : Launch} {e : Env} {s : State} {m : MethodId} {args : Array Value} {below : List Frame} {meth : Method} {c : Code} {H : Heap} {locs : List Loc} {E : Ev} {S V : St} {ls : Array Slot}
set_option maxRecDepth 20000 in
theorem w_Sh_move {p1 : Int32} {p2 : Int32} {p3 : Int32} {p4 : Int32} {p5 : Int32} {r : Int32} {S9 : St} (C : Cx p s m args meth c E cX7_move 6 RX7 (some .int)) (hw : Wd E (wX V E) s.heap S H locs) (hl : lv_has ls 6 [(0, .ref (ea E 10)), (1, .int p1), (2, .int p2), (3, .int p3), (4, .int p4), (5, .int p5)]) (hf : Sh_move S p1 p2 p3 p4 p5 = some (r, S9)) : W p l e (rmh 1) s m args below meth c H locs 0 0 (MQ below (QW E (wX V E) (some (.int r)) S9) args s 0 0 (eA E)) (F0 m 0 ls []) := by
  have hx := C.1
  have hb := C.2.1
  unfold Sh_move at hf
  refine lv_aload_n hx hb dX7_move_0 rfl (lv_at hl 0 rfl) ?_
  refine get_10_3 C hw q_220 dX7_move_1 ?_
  refine lv_iload_n hx hb dX7_move_4 rfl (lv_at hl 1 rfl) ?_
  refine lv_bipush (v := 60) hx hb dX7_move_5 kb_60 ?_
  refine lv_imul hx hb dX7_move_7 ?_
  refine lv_iload_n hx hb dX7_move_8 rfl (lv_at hl 2 rfl) ?_
  refine lv_iadd hx hb dX7_move_9 ?_
  refine lv_aload_n hx hb dX7_move_10 rfl (lv_at hl 0 rfl) ?_
  refine get_10_3 C hw q_220 dX7_move_11 ?_
  refine lv_iload_n hx hb dX7_move_14 rfl (lv_at hl 3 rfl) ?_
  refine lv_bipush (v := 60) hx hb dX7_move_15 kb_60 ?_
  refine lv_imul hx hb dX7_move_17 ?_
  refine lv_iload hx hb dX7_move_18 (lv_at hl 4 rfl) ?_
  refine lv_iadd hx hb dX7_move_20 ?_
  refine lv_iload hx hb dX7_move_21 (lv_at hl 5 rfl) ?_
  obtain ⟨hc, hf⟩ := hf_ck hf
  refine copy_43_43 C hw hc q_1124 hl.1 dX7_move_23 (Nat.le_of_ble_eq_true rfl) (fun H locs hw => ?_)
  refine nm_S hf hw (fun S1 hf hw => ?_)
  refine lv_iload hx hb dX7_move_26 (lv_at hl 5 rfl) ?_
  exact ret_iS C hw dX7_move_28 hf
end
theorem t_Sh_move {l : Launch} {V : St} {S : St} {p1 : Int32} {p2 : Int32} {p3 : Int32} {p4 : Int32} {p5 : Int32} {r : Int32} {S9 : St} (hf : Sh_move S p1 p2 p3 p4 p5 = some (r, S9)) : Ct l (wX V) yX7_move cX7_move 6 (some .int) 1 (fun E => [.ref (ea E 10), .int p1, .int p2, .int p3, .int p4, .int p5]) S (fun E => some (.int r)) S9 :=
  ofBlock (by decide +kernel) (fun _ => Nat.le_of_ble_eq_true rfl) (fun E p e s m args below meth c ls C hw hl => w_Sh_move C hw hl hf)
theorem dX8_isOne_0 : decode cX8_isOne 0 = .ok (.iload_n 1, 1) := by decide +kernel
theorem dX8_isOne_1 : decode cX8_isOne 1 = .ok (.ifCond .lt 15, 3) := by decide +kernel
theorem dX8_isOne_4 : decode cX8_isOne 4 = .ok (.iload_n 1, 1) := by decide +kernel
theorem dX8_isOne_5 : decode cX8_isOne 5 = .ok (.aload_n 0, 1) := by decide +kernel
theorem dX8_isOne_6 : decode cX8_isOne 6 = .ok (.getfield 39, 3) := by decide +kernel
theorem dX8_isOne_9 : decode cX8_isOne 9 = .ok (.if_icmp .ge 7, 3) := by decide +kernel
theorem dX8_isOne_12 : decode cX8_isOne 12 = .ok (.iconst 1, 1) := by decide +kernel
theorem dX8_isOne_13 : decode cX8_isOne 13 = .ok (.goto 4, 3) := by decide +kernel
theorem dX8_isOne_16 : decode cX8_isOne 16 = .ok (.iconst 0, 1) := by decide +kernel
theorem dX8_isOne_17 : decode cX8_isOne 17 = .ok (.ireturn, 1) := by decide +kernel
section
variable {p : Program} {l : Launch} {e : Env} {s : State} {m : MethodId} {args : Array Value} {below : List Frame} {meth : Method} {c : Code} {H : Heap} {locs : List Loc} {E : Ev} {S V : St} {ls : Array Slot}
set_option maxRecDepth 20000 in
theorem w_Sm_isOne {p1 : Int32} {r : Int32} (C : Cx p s m args meth c E cX8_isOne 2 RX8 (some .boolean)) (hw : Wd E (wX V E) s.heap S H locs) (hl : lv_has ls 2 [(0, .ref (ea E 1)), (1, .int p1)]) (hf : Sm_isOne S p1 = some r) : W p l e (rmh 1) s m args below meth c H locs 0 0 (MQ below (QW E (wX V E) (some (.int r)) S) args s 0 0 (eA E)) (F0 m 0 ls []) := by
  have hx := C.1
  have hb := C.2.1
  unfold Sm_isOne at hf
  refine lv_iload_n hx hb dX8_isOne_0 rfl (lv_at hl 1 rfl) ?_
  refine lv_if_lt (tgt := 16) hx hb dX8_isOne_1 (by decide) (fun q => ?_) (fun q => ?_)
  · have hf := hf_t q hf
    refine lv_iconst (v := 0) hx hb dX8_isOne_16 kc_0 ?_
    exact ret_z rfl C hw dX8_isOne_17 hf
  · have hf := hf_f q hf
    refine lv_iload_n hx hb dX8_isOne_4 rfl (lv_at hl 1 rfl) ?_
    refine lv_aload_n hx hb dX8_isOne_5 rfl (lv_at hl 0 rfl) ?_
    refine get_1_9 C hw q_133 dX8_isOne_6 ?_
    refine lv_icmp_ge (tgt := 16) hx hb dX8_isOne_9 (by decide) (fun q => ?_) (fun q => ?_)
    · have hf := hf_t q hf
      refine lv_iconst (v := 0) hx hb dX8_isOne_16 kc_0 ?_
      exact ret_z rfl C hw dX8_isOne_17 hf
    · have hf := hf_f q hf
      refine lv_iconst (v := 1) hx hb dX8_isOne_12 kc_1 ?_
      refine lv_goto (tgt := 17) hx hb dX8_isOne_13 (by decide) ?_
      exact ret_z rfl C hw dX8_isOne_17 hf
end
theorem t_Sm_isOne {l : Launch} {V : St} {S : St} {p1 : Int32} {r : Int32} (hf : Sm_isOne S p1 = some r) : Ct l (wX V) yX8_isOne cX8_isOne 2 (some .boolean) 1 (fun E => [.ref (ea E 1), .int p1]) S (fun E => some (.int r)) S :=
  ofBlock (by decide +kernel) (fun _ => Nat.le_of_ble_eq_true rfl) (fun E p e s m args below meth c ls C hw hl => w_Sm_isOne C hw hl hf)
theorem dX8_isPromise_0 : decode cX8_isPromise 0 = .ok (.iload_n 1, 1) := by decide +kernel
theorem dX8_isPromise_1 : decode cX8_isPromise 1 = .ok (.ifCond .lt 15, 3) := by decide +kernel
theorem dX8_isPromise_4 : decode cX8_isPromise 4 = .ok (.iload_n 1, 1) := by decide +kernel
theorem dX8_isPromise_5 : decode cX8_isPromise 5 = .ok (.aload_n 0, 1) := by decide +kernel
theorem dX8_isPromise_6 : decode cX8_isPromise 6 = .ok (.getfield 43, 3) := by decide +kernel
theorem dX8_isPromise_9 : decode cX8_isPromise 9 = .ok (.if_icmp .ge 7, 3) := by decide +kernel
theorem dX8_isPromise_12 : decode cX8_isPromise 12 = .ok (.iconst 1, 1) := by decide +kernel
theorem dX8_isPromise_13 : decode cX8_isPromise 13 = .ok (.goto 4, 3) := by decide +kernel
theorem dX8_isPromise_16 : decode cX8_isPromise 16 = .ok (.iconst 0, 1) := by decide +kernel
theorem dX8_isPromise_17 : decode cX8_isPromise 17 = .ok (.ireturn, 1) := by decide +kernel
section
variable {p : Program} {l : Launch} {e : Env} {s : State} {m : MethodId} {args : Array Value} {below : List Frame} {meth : Method} {c : Code} {H : Heap} {locs : List Loc} {E : Ev} {S V : St} {ls : Array Slot}
set_option maxRecDepth 20000 in
theorem w_Sm_isPromise {p1 : Int32} {r : Int32} (C : Cx p s m args meth c E cX8_isPromise 2 RX8 (some .boolean)) (hw : Wd E (wX V E) s.heap S H locs) (hl : lv_has ls 2 [(0, .ref (ea E 1)), (1, .int p1)]) (hf : Sm_isPromise S p1 = some r) : W p l e (rmh 1) s m args below meth c H locs 0 0 (MQ below (QW E (wX V E) (some (.int r)) S) args s 0 0 (eA E)) (F0 m 0 ls []) := by
  have hx := C.1
  have hb := C.2.1
  unfold Sm_isPromise at hf
  refine lv_iload_n hx hb dX8_isPromise_0 rfl (lv_at hl 1 rfl) ?_
  refine lv_if_lt (tgt := 16) hx hb dX8_isPromise_1 (by decide) (fun q => ?_) (fun q => ?_)
  · have hf := hf_t q hf
    refine lv_iconst (v := 0) hx hb dX8_isPromise_16 kc_0 ?_
    exact ret_z rfl C hw dX8_isPromise_17 hf
  · have hf := hf_f q hf
    refine lv_iload_n hx hb dX8_isPromise_4 rfl (lv_at hl 1 rfl) ?_
    refine lv_aload_n hx hb dX8_isPromise_5 rfl (lv_at hl 0 rfl) ?_
    refine get_1_10 C hw q_138 dX8_isPromise_6 ?_
    refine lv_icmp_ge (tgt := 16) hx hb dX8_isPromise_9 (by decide) (fun q => ?_) (fun q => ?_)
    · have hf := hf_t q hf
      refine lv_iconst (v := 0) hx hb dX8_isPromise_16 kc_0 ?_
      exact ret_z rfl C hw dX8_isPromise_17 hf
    · have hf := hf_f q hf
      refine lv_iconst (v := 1) hx hb dX8_isPromise_12 kc_1 ?_
      refine lv_goto (tgt := 17) hx hb dX8_isPromise_13 (by decide) ?_
      exact ret_z rfl C hw dX8_isPromise_17 hf
end
theorem t_Sm_isPromise {l : Launch} {V : St} {S : St} {p1 : Int32} {r : Int32} (hf : Sm_isPromise S p1 = some r) : Ct l (wX V) yX8_isPromise cX8_isPromise 2 (some .boolean) 1 (fun E => [.ref (ea E 1), .int p1]) S (fun E => some (.int r)) S :=
  ofBlock (by decide +kernel) (fun _ => Nat.le_of_ble_eq_true rfl) (fun E p e s m args below meth c ls C hw hl => w_Sm_isPromise C hw hl hf)
theorem dX8_isFull_0 : decode cX8_isFull 0 = .ok (.aload_n 0, 1) := by decide +kernel
theorem dX8_isFull_1 : decode cX8_isFull 1 = .ok (.getfield 43, 3) := by decide +kernel
theorem dX8_isFull_4 : decode cX8_isFull 4 = .ok (.bipush 10, 2) := by decide +kernel
theorem dX8_isFull_6 : decode cX8_isFull 6 = .ok (.if_icmp .lt 7, 3) := by decide +kernel
theorem dX8_isFull_9 : decode cX8_isFull 9 = .ok (.iconst 1, 1) := by decide +kernel
theorem dX8_isFull_10 : decode cX8_isFull 10 = .ok (.goto 4, 3) := by decide +kernel
theorem dX8_isFull_13 : decode cX8_isFull 13 = .ok (.iconst 0, 1) := by decide +kernel
theorem dX8_isFull_14 : decode cX8_isFull 14 = .ok (.ireturn, 1) := by decide +kernel
section
variable {p : Program} {l : Launch} {e : Env} {s : State} {m : MethodId} {args : Array Value} {below : List Frame} {meth : Method} {c : Code} {H : Heap} {locs : List Loc} {E : Ev} {S V : St} {ls : Array Slot}
set_option maxRecDepth 20000 in
theorem w_Sm_isFull {r : Int32} (C : Cx p s m args meth c E cX8_isFull 1 RX8 (some .boolean)) (hw : Wd E (wX V E) s.heap S H locs) (hl : lv_has ls 1 [(0, .ref (ea E 1))]) (hf : Sm_isFull S = some r) : W p l e (rmh 1) s m args below meth c H locs 0 0 (MQ below (QW E (wX V E) (some (.int r)) S) args s 0 0 (eA E)) (F0 m 0 ls []) := by
  have hx := C.1
  have hb := C.2.1
  unfold Sm_isFull at hf
  refine lv_aload_n hx hb dX8_isFull_0 rfl (lv_at hl 0 rfl) ?_
  refine get_1_10 C hw q_138 dX8_isFull_1 ?_
  refine lv_bipush (v := 10) hx hb dX8_isFull_4 kb_10 ?_
  refine lv_icmp_lt (tgt := 13) hx hb dX8_isFull_6 (by decide) (fun q => ?_) (fun q => ?_)
  · have hf := hf_t q hf
    refine lv_iconst (v := 0) hx hb dX8_isFull_13 kc_0 ?_
    exact ret_z rfl C hw dX8_isFull_14 hf
  · have hf := hf_f q hf
    refine lv_iconst (v := 1) hx hb dX8_isFull_9 kc_1 ?_
    refine lv_goto (tgt := 14) hx hb dX8_isFull_10 (by decide) ?_
    exact ret_z rfl C hw dX8_isFull_14 hf
end
theorem t_Sm_isFull {l : Launch} {V : St} {S : St} {r : Int32} (hf : Sm_isFull S = some r) : Ct l (wX V) yX8_isFull cX8_isFull 1 (some .boolean) 1 (fun E => [.ref (ea E 1)]) S (fun E => some (.int r)) S :=
  ofBlock (by decide +kernel) (fun _ => Nat.le_of_ble_eq_true rfl) (fun E p e s m args below meth c ls C hw hl => w_Sm_isFull C hw hl hf)
theorem dX8_canPromise_0 : decode cX8_canPromise 0 = .ok (.aload_n 0, 1) := by decide +kernel
theorem dX8_canPromise_1 : decode cX8_canPromise 1 = .ok (.iload_n 1, 1) := by decide +kernel
theorem dX8_canPromise_2 : decode cX8_canPromise 2 = .ok (.invokevirtual 46, 3) := by decide +kernel
theorem dX8_canPromise_5 : decode cX8_canPromise 5 = .ok (.ifCond .eq 35, 3) := by decide +kernel
theorem dX8_canPromise_8 : decode cX8_canPromise 8 = .ok (.iload_n 2, 1) := by decide +kernel
theorem dX8_canPromise_9 : decode cX8_canPromise 9 = .ok (.invokestatic 50, 3) := by decide +kernel
theorem dX8_canPromise_12 : decode cX8_canPromise 12 = .ok (.ifCond .eq 28, 3) := by decide +kernel
theorem dX8_canPromise_15 : decode cX8_canPromise 15 = .ok (.iload_n 3, 1) := by decide +kernel
theorem dX8_canPromise_16 : decode cX8_canPromise 16 = .ok (.iload_n 2, 1) := by decide +kernel
theorem dX8_canPromise_17 : decode cX8_canPromise 17 = .ok (.bipush 99, 2) := by decide +kernel
theorem dX8_canPromise_19 : decode cX8_canPromise 19 = .ok (.invokestatic 53, 3) := by decide +kernel
theorem dX8_canPromise_22 : decode cX8_canPromise 22 = .ok (.ifCond .eq 18, 3) := by decide +kernel
theorem dX8_canPromise_25 : decode cX8_canPromise 25 = .ok (.iload 4, 2) := by decide +kernel
theorem dX8_canPromise_27 : decode cX8_canPromise 27 = .ok (.iconst 1, 1) := by decide +kernel
theorem dX8_canPromise_28 : decode cX8_canPromise 28 = .ok (.bipush 9, 2) := by decide +kernel
theorem dX8_canPromise_30 : decode cX8_canPromise 30 = .ok (.invokestatic 53, 3) := by decide +kernel
theorem dX8_canPromise_33 : decode cX8_canPromise 33 = .ok (.ifCond .eq 7, 3) := by decide +kernel
theorem dX8_canPromise_36 : decode cX8_canPromise 36 = .ok (.iconst 1, 1) := by decide +kernel
theorem dX8_canPromise_37 : decode cX8_canPromise 37 = .ok (.goto 4, 3) := by decide +kernel
theorem dX8_canPromise_40 : decode cX8_canPromise 40 = .ok (.iconst 0, 1) := by decide +kernel
theorem dX8_canPromise_41 : decode cX8_canPromise 41 = .ok (.ireturn, 1) := by decide +kernel
section
variable {p : Program} {l : Launch} {e : Env} {s : State} {m : MethodId} {args : Array Value} {below : List Frame} {meth : Method} {c : Code} {H : Heap} {locs : List Loc} {E : Ev} {S V : St} {ls : Array Slot}
set_option maxRecDepth 20000 in
theorem w_Sm_canPromise {p1 : Int32} {p2 : Int32} {p3 : Int32} {p4 : Int32} {r : Int32} (C : Cx p s m args meth c E cX8_canPromise 5 RX8 (some .boolean)) (hw : Wd E (wX V E) s.heap S H locs) (hl : lv_has ls 5 [(0, .ref (ea E 1)), (1, .int p1), (2, .int p2), (3, .int p3), (4, .int p4)]) (hf : Sm_canPromise S p1 p2 p3 p4 = some r) : W p l e (rmh 3) s m args below meth c H locs 0 0 (MQ below (QW E (wX V E) (some (.int r)) S) args s 0 0 (eA E)) (F0 m 0 ls []) := by
  have hx := C.1
  have hb := C.2.1
  unfold Sm_canPromise at hf
  refine lv_aload_n hx hb dX8_canPromise_0 rfl (lv_at hl 0 rfl) ?_
  refine lv_iload_n hx hb dX8_canPromise_1 rfl (lv_at hl 1 rfl) ?_
  obtain ⟨r1, hr, hf⟩ := hf_1 hf
  refine inv_Vi (q0 := 1) (ci := 8) (As := [.int p1]) lk_X8_46 C hw rfl rfl rfl (t_Sm_isOne hr) rfl hl.1 dX8_canPromise_2 rfl (Nat.le_of_ble_eq_true rfl) (by decide) (Nat.le_of_ble_eq_true rfl) rfl (fun H locs hw => ?_)
  refine lv_if_eq (tgt := 40) hx hb dX8_canPromise_5 (by decide) (fun q => ?_) (fun q => ?_)
  · have hf := hf_t q hf
    refine lv_iconst (v := 0) hx hb dX8_canPromise_40 kc_0 ?_
    exact ret_z rfl C hw dX8_canPromise_41 hf
  · have hf := hf_f q hf
    refine lv_iload_n hx hb dX8_canPromise_8 rfl (lv_at hl 2 rfl) ?_
    obtain ⟨r2, hr, hf⟩ := hf_1 hf
    refine inv_Ni (As := [.int p2]) lk_X8_50 C hw (t_Ch_isDay hr) hl.1 dX8_canPromise_9 rfl (Nat.le_of_ble_eq_true rfl) (by decide) (Nat.le_of_ble_eq_true rfl) rfl (fun H locs hw => ?_)
    refine lv_if_eq (tgt := 40) hx hb dX8_canPromise_12 (by decide) (fun q => ?_) (fun q => ?_)
    · have hf := hf_t q hf
      refine lv_iconst (v := 0) hx hb dX8_canPromise_40 kc_0 ?_
      exact ret_z rfl C hw dX8_canPromise_41 hf
    · have hf := hf_f q hf
      refine lv_iload_n hx hb dX8_canPromise_15 rfl (lv_at hl 3 rfl) ?_
      refine lv_iload_n hx hb dX8_canPromise_16 rfl (lv_at hl 2 rfl) ?_
      refine lv_bipush (v := 99) hx hb dX8_canPromise_17 kb_99 ?_
      obtain ⟨r3, hr, hf⟩ := hf_1 hf
      refine inv_Ni (As := [.int p3, .int p2, .int (99 : Int32)]) lk_X8_53 C hw (t_Ch_within hr) hl.1 dX8_canPromise_19 rfl (Nat.le_of_ble_eq_true rfl) (by decide) (Nat.le_of_ble_eq_true rfl) rfl (fun H locs hw => ?_)
      refine lv_if_eq (tgt := 40) hx hb dX8_canPromise_22 (by decide) (fun q => ?_) (fun q => ?_)
      · have hf := hf_t q hf
        refine lv_iconst (v := 0) hx hb dX8_canPromise_40 kc_0 ?_
        exact ret_z rfl C hw dX8_canPromise_41 hf
      · have hf := hf_f q hf
        refine lv_iload hx hb dX8_canPromise_25 (lv_at hl 4 rfl) ?_
        refine lv_iconst (v := 1) hx hb dX8_canPromise_27 kc_1 ?_
        refine lv_bipush (v := 9) hx hb dX8_canPromise_28 kb_9 ?_
        obtain ⟨r4, hr, hf⟩ := hf_1 hf
        refine inv_Ni (As := [.int p4, .int (1 : Int32), .int (9 : Int32)]) lk_X8_53 C hw (t_Ch_within hr) hl.1 dX8_canPromise_30 rfl (Nat.le_of_ble_eq_true rfl) (by decide) (Nat.le_of_ble_eq_true rfl) rfl (fun H locs hw => ?_)
        refine lv_if_eq (tgt := 40) hx hb dX8_canPromise_33 (by decide) (fun q => ?_) (fun q => ?_)
        · have hf := hf_t q hf
          refine lv_iconst (v := 0) hx hb dX8_canPromise_40 kc_0 ?_
          exact ret_z rfl C hw dX8_canPromise_41 hf
        · have hf := hf_f q hf
          refine lv_iconst (v := 1) hx hb dX8_canPromise_36 kc_1 ?_
          refine lv_goto (tgt := 41) hx hb dX8_canPromise_37 (by decide) ?_
          exact ret_z rfl C hw dX8_canPromise_41 hf
end
theorem t_Sm_canPromise {l : Launch} {V : St} {S : St} {p1 : Int32} {p2 : Int32} {p3 : Int32} {p4 : Int32} {r : Int32} (hf : Sm_canPromise S p1 p2 p3 p4 = some r) : Ct l (wX V) yX8_canPromise cX8_canPromise 5 (some .boolean) 3 (fun E => [.ref (ea E 1), .int p1, .int p2, .int p3, .int p4]) S (fun E => some (.int r)) S :=
  ofBlock (by decide +kernel) (fun _ => Nat.le_of_ble_eq_true rfl) (fun E p e s m args below meth c ls C hw hl => w_Sm_canPromise C hw hl hf)
theorem dX8_addOne_0 : decode cX8_addOne 0 = .ok (.aload_n 0, 1) := by decide +kernel
theorem dX8_addOne_1 : decode cX8_addOne 1 = .ok (.getfield 9, 3) := by decide +kernel
theorem dX8_addOne_4 : decode cX8_addOne 4 = .ok (.aload_n 0, 1) := by decide +kernel
theorem dX8_addOne_5 : decode cX8_addOne 5 = .ok (.getfield 39, 3) := by decide +kernel
theorem dX8_addOne_8 : decode cX8_addOne 8 = .ok (.iload_n 1, 1) := by decide +kernel
theorem dX8_addOne_9 : decode cX8_addOne 9 = .ok (.iastore, 1) := by decide +kernel
theorem dX8_addOne_10 : decode cX8_addOne 10 = .ok (.aload_n 0, 1) := by decide +kernel
theorem dX8_addOne_11 : decode cX8_addOne 11 = .ok (.getfield 15, 3) := by decide +kernel
theorem dX8_addOne_14 : decode cX8_addOne 14 = .ok (.aload_n 0, 1) := by decide +kernel
theorem dX8_addOne_15 : decode cX8_addOne 15 = .ok (.getfield 39, 3) := by decide +kernel
theorem dX8_addOne_18 : decode cX8_addOne 18 = .ok (.iload_n 2, 1) := by decide +kernel
theorem dX8_addOne_19 : decode cX8_addOne 19 = .ok (.iastore, 1) := by decide +kernel
theorem dX8_addOne_20 : decode cX8_addOne 20 = .ok (.aload_n 0, 1) := by decide +kernel
theorem dX8_addOne_21 : decode cX8_addOne 21 = .ok (.getfield 18, 3) := by decide +kernel
theorem dX8_addOne_24 : decode cX8_addOne 24 = .ok (.aload_n 0, 1) := by decide +kernel
theorem dX8_addOne_25 : decode cX8_addOne 25 = .ok (.getfield 39, 3) := by decide +kernel
theorem dX8_addOne_28 : decode cX8_addOne 28 = .ok (.iconst 2, 1) := by decide +kernel
theorem dX8_addOne_29 : decode cX8_addOne 29 = .ok (.iastore, 1) := by decide +kernel
theorem dX8_addOne_30 : decode cX8_addOne 30 = .ok (.aload_n 0, 1) := by decide +kernel
theorem dX8_addOne_31 : decode cX8_addOne 31 = .ok (.dup, 1) := by decide +kernel
theorem dX8_addOne_32 : decode cX8_addOne 32 = .ok (.getfield 39, 3) := by decide +kernel
theorem dX8_addOne_35 : decode cX8_addOne 35 = .ok (.dup_x1, 1) := by decide +kernel
theorem dX8_addOne_36 : decode cX8_addOne 36 = .ok (.iconst 1, 1) := by decide +kernel
theorem dX8_addOne_37 : decode cX8_addOne 37 = .ok (.iadd, 1) := by decide +kernel
theorem dX8_addOne_38 : decode cX8_addOne 38 = .ok (.putfield 39, 3) := by decide +kernel
theorem dX8_addOne_41 : decode cX8_addOne 41 = .ok (.ireturn, 1) := by decide +kernel
section
variable {p : Program} {l : Launch} {e : Env} {s : State} {m : MethodId} {args : Array Value} {below : List Frame} {meth : Method} {c : Code} {H : Heap} {locs : List Loc} {E : Ev} {S V : St} {ls : Array Slot}
set_option maxRecDepth 20000 in
theorem w_Sm_addOne {p1 : Int32} {p2 : Int32} {r : Int32} {S9 : St} (C : Cx p s m args meth c E cX8_addOne 3 RX8 (some .int)) (hw : Wd E (wX V E) s.heap S H locs) (hl : lv_has ls 3 [(0, .ref (ea E 1)), (1, .int p1), (2, .int p2)]) (hf : Sm_addOne S p1 p2 = some (r, S9)) : W p l e (rmh 1) s m args below meth c H locs 0 0 (MQ below (QW E (wX V E) (some (.int r)) S9) args s 0 0 (eA E)) (F0 m 0 ls []) := by
  have hx := C.1
  have hb := C.2.1
  unfold Sm_addOne at hf
  refine lv_aload_n hx hb dX8_addOne_0 rfl (lv_at hl 0 rfl) ?_
  refine get_1_0 C hw q_108 dX8_addOne_1 ?_
  refine lv_aload_n hx hb dX8_addOne_4 rfl (lv_at hl 0 rfl) ?_
  refine get_1_9 C hw q_133 dX8_addOne_5 ?_
  refine lv_iload_n hx hb dX8_addOne_8 rfl (lv_at hl 1 rfl) ?_
  obtain ⟨hc, hf⟩ := hf_ck hf
  refine st_11 C hw hc dX8_addOne_9 (fun H locs hw => ?_)
  refine nm_S hf hw (fun S1 hf hw => ?_)
  refine lv_aload_n hx hb dX8_addOne_10 rfl (lv_at hl 0 rfl) ?_
  refine get_1_1 C hw q_110 dX8_addOne_11 ?_
  refine lv_aload_n hx hb dX8_addOne_14 rfl (lv_at hl 0 rfl) ?_
  refine get_1_9 C hw q_133 dX8_addOne_15 ?_
  refine lv_iload_n hx hb dX8_addOne_18 rfl (lv_at hl 2 rfl) ?_
  obtain ⟨hc, hf⟩ := hf_ck hf
  refine st_12 C hw hc dX8_addOne_19 (fun H locs hw => ?_)
  refine nm_S hf hw (fun S2 hf hw => ?_)
  refine lv_aload_n hx hb dX8_addOne_20 rfl (lv_at hl 0 rfl) ?_
  refine get_1_2 C hw q_112 dX8_addOne_21 ?_
  refine lv_aload_n hx hb dX8_addOne_24 rfl (lv_at hl 0 rfl) ?_
  refine get_1_9 C hw q_133 dX8_addOne_25 ?_
  refine lv_iconst (v := 2) hx hb dX8_addOne_28 kc_2 ?_
  obtain ⟨hc, hf⟩ := hf_ck hf
  refine st_13 C hw hc dX8_addOne_29 (fun H locs hw => ?_)
  refine nm_S hf hw (fun S3 hf hw => ?_)
  refine lv_aload_n hx hb dX8_addOne_30 rfl (lv_at hl 0 rfl) ?_
  refine lv_dup hx hb dX8_addOne_31 rfl ?_
  refine get_1_9 C hw q_133 dX8_addOne_32 ?_
  refine nm_i hf (fun x4 hf => ?_)
  refine lv_dup_x1 hx hb dX8_addOne_35 rfl rfl ?_
  refine lv_iconst (v := 1) hx hb dX8_addOne_36 kc_1 ?_
  refine lv_iadd hx hb dX8_addOne_37 ?_
  refine put_1_9 C hw q_133 dX8_addOne_38 (fun H locs hw => ?_)
  refine nm_S hf hw (fun S5 hf hw => ?_)
  exact ret_iS C hw dX8_addOne_41 hf
end
theorem t_Sm_addOne {l : Launch} {V : St} {S : St} {p1 : Int32} {p2 : Int32} {r : Int32} {S9 : St} (hf : Sm_addOne S p1 p2 = some (r, S9)) : Ct l (wX V) yX8_addOne cX8_addOne 3 (some .int) 1 (fun E => [.ref (ea E 1), .int p1, .int p2]) S (fun E => some (.int r)) S9 :=
  ofBlock (by decide +kernel) (fun _ => Nat.le_of_ble_eq_true rfl) (fun E p e s m args below meth c ls C hw hl => w_Sm_addOne C hw hl hf)
theorem dX8_has_0 : decode cX8_has 0 = .ok (.iload_n 2, 1) := by decide +kernel
theorem dX8_has_1 : decode cX8_has 1 = .ok (.ifCond .lt 9, 3) := by decide +kernel
theorem dX8_has_4 : decode cX8_has 4 = .ok (.iload_n 2, 1) := by decide +kernel
theorem dX8_has_5 : decode cX8_has 5 = .ok (.bipush 9, 2) := by decide +kernel
theorem dX8_has_7 : decode cX8_has 7 = .ok (.if_icmp .lt 5, 3) := by decide +kernel
theorem dX8_has_10 : decode cX8_has 10 = .ok (.iconst 0, 1) := by decide +kernel
theorem dX8_has_11 : decode cX8_has 11 = .ok (.ireturn, 1) := by decide +kernel
theorem dX8_has_12 : decode cX8_has 12 = .ok (.iload_n 2, 1) := by decide +kernel
theorem dX8_has_13 : decode cX8_has 13 = .ok (.iconst 2, 1) := by decide +kernel
theorem dX8_has_14 : decode cX8_has 14 = .ok (.if_icmp .gt 11, 3) := by decide +kernel
theorem dX8_has_17 : decode cX8_has 17 = .ok (.aload_n 0, 1) := by decide +kernel
theorem dX8_has_18 : decode cX8_has 18 = .ok (.iload_n 1, 1) := by decide +kernel
theorem dX8_has_19 : decode cX8_has 19 = .ok (.invokevirtual 46, 3) := by decide +kernel
theorem dX8_has_22 : decode cX8_has 22 = .ok (.goto 8, 3) := by decide +kernel
theorem dX8_has_25 : decode cX8_has 25 = .ok (.aload_n 0, 1) := by decide +kernel
theorem dX8_has_26 : decode cX8_has 26 = .ok (.iload_n 1, 1) := by decide +kernel
theorem dX8_has_27 : decode cX8_has 27 = .ok (.invokevirtual 57, 3) := by decide +kernel
theorem dX8_has_30 : decode cX8_has 30 = .ok (.ireturn, 1) := by decide +kernel
section
variable {p : Program} {l : Launch} {e : Env} {s : State} {m : MethodId} {args : Array Value} {below : List Frame} {meth : Method} {c : Code} {H : Heap} {locs : List Loc} {E : Ev} {S V : St} {ls : Array Slot}
set_option maxRecDepth 20000 in
theorem w_Sm_has {p1 : Int32} {p2 : Int32} {r : Int32} (C : Cx p s m args meth c E cX8_has 3 RX8 (some .boolean)) (hw : Wd E (wX V E) s.heap S H locs) (hl : lv_has ls 3 [(0, .ref (ea E 1)), (1, .int p1), (2, .int p2)]) (hf : Sm_has S p1 p2 = some r) : W p l e (rmh 2) s m args below meth c H locs 0 0 (MQ below (QW E (wX V E) (some (.int r)) S) args s 0 0 (eA E)) (F0 m 0 ls []) := by
  have hx := C.1
  have hb := C.2.1
  unfold Sm_has at hf
  refine lv_iload_n hx hb dX8_has_0 rfl (lv_at hl 2 rfl) ?_
  refine lv_if_lt (tgt := 10) hx hb dX8_has_1 (by decide) (fun q => ?_) (fun q => ?_)
  · have hf := hf_t q hf
    refine lv_iconst (v := 0) hx hb dX8_has_10 kc_0 ?_
    exact ret_z rfl C hw dX8_has_11 hf
  · have hf := hf_f q hf
    refine lv_iload_n hx hb dX8_has_4 rfl (lv_at hl 2 rfl) ?_
    refine lv_bipush (v := 9) hx hb dX8_has_5 kb_9 ?_
    refine lv_icmp_lt (tgt := 12) hx hb dX8_has_7 (by decide) (fun q => ?_) (fun q => ?_)
    · have hf := hf_t q hf
      refine lv_iload_n hx hb dX8_has_12 rfl (lv_at hl 2 rfl) ?_
      refine lv_iconst (v := 2) hx hb dX8_has_13 kc_2 ?_
      refine lv_icmp_gt (tgt := 25) hx hb dX8_has_14 (by decide) (fun q => ?_) (fun q => ?_)
      · have hf := hf_t q hf
        refine lv_aload_n hx hb dX8_has_25 rfl (lv_at hl 0 rfl) ?_
        refine lv_iload_n hx hb dX8_has_26 rfl (lv_at hl 1 rfl) ?_
        obtain ⟨r1, hr, hf⟩ := hf_1 hf
        refine inv_Vi (q0 := 1) (ci := 8) (As := [.int p1]) lk_X8_57 C hw rfl rfl rfl (t_Sm_isPromise hr) rfl hl.1 dX8_has_27 rfl (Nat.le_of_ble_eq_true rfl) (by decide) (Nat.le_of_ble_eq_true rfl) rfl (fun H locs hw => ?_)
        obtain ⟨hcb, hf⟩ := hf_ck hf
        exact ret_z (isB_nar hcb) C hw dX8_has_30 hf
      · have hf := hf_f q hf
        refine lv_aload_n hx hb dX8_has_17 rfl (lv_at hl 0 rfl) ?_
        refine lv_iload_n hx hb dX8_has_18 rfl (lv_at hl 1 rfl) ?_
        obtain ⟨r2, hr, hf⟩ := hf_1 hf
        refine inv_Vi (q0 := 1) (ci := 8) (As := [.int p1]) lk_X8_46 C hw rfl rfl rfl (t_Sm_isOne hr) rfl hl.1 dX8_has_19 rfl (Nat.le_of_ble_eq_true rfl) (by decide) (Nat.le_of_ble_eq_true rfl) rfl (fun H locs hw => ?_)
        refine lv_goto (tgt := 30) hx hb dX8_has_22 (by decide) ?_
        obtain ⟨hcb, hf⟩ := hf_ck hf
        exact ret_z (isB_nar hcb) C hw dX8_has_30 hf
    · have hf := hf_f q hf
      refine lv_iconst (v := 0) hx hb dX8_has_10 kc_0 ?_
      exact ret_z rfl C hw dX8_has_11 hf
end
theorem t_Sm_has {l : Launch} {V : St} {S : St} {p1 : Int32} {p2 : Int32} {r : Int32} (hf : Sm_has S p1 p2 = some r) : Ct l (wX V) yX8_has cX8_has 3 (some .boolean) 2 (fun E => [.ref (ea E 1), .int p1, .int p2]) S (fun E => some (.int r)) S :=
  ofBlock (by decide +kernel) (fun _ => Nat.le_of_ble_eq_true rfl) (fun E p e s m args below meth c ls C hw hl => w_Sm_has C hw hl hf)
theorem dX8_canBecome_0 : decode cX8_canBecome 0 = .ok (.iload_n 2, 1) := by decide +kernel
theorem dX8_canBecome_1 : decode cX8_canBecome 1 = .ok (.tableswitch 125 0 6 #[43, 51, 59, 67, 80, 88, 96], 43) := by decide +kernel
theorem dX8_canBecome_44 : decode cX8_canBecome 44 = .ok (.iload_n 3, 1) := by decide +kernel
theorem dX8_canBecome_45 : decode cX8_canBecome 45 = .ok (.iconst 0, 1) := by decide +kernel
theorem dX8_canBecome_46 : decode cX8_canBecome 46 = .ok (.bipush 30, 2) := by decide +kernel
theorem dX8_canBecome_48 : decode cX8_canBecome 48 = .ok (.invokestatic 53, 3) := by decide +kernel
theorem dX8_canBecome_51 : decode cX8_canBecome 51 = .ok (.ireturn, 1) := by decide +kernel
theorem dX8_canBecome_52 : decode cX8_canBecome 52 = .ok (.iload_n 3, 1) := by decide +kernel
theorem dX8_canBecome_53 : decode cX8_canBecome 53 = .ok (.iconst 1, 1) := by decide +kernel
theorem dX8_canBecome_54 : decode cX8_canBecome 54 = .ok (.bipush 60, 2) := by decide +kernel
theorem dX8_canBecome_56 : decode cX8_canBecome 56 = .ok (.invokestatic 53, 3) := by decide +kernel
theorem dX8_canBecome_59 : decode cX8_canBecome 59 = .ok (.ireturn, 1) := by decide +kernel
theorem dX8_canBecome_60 : decode cX8_canBecome 60 = .ok (.iload_n 3, 1) := by decide +kernel
theorem dX8_canBecome_61 : decode cX8_canBecome 61 = .ok (.iconst 0, 1) := by decide +kernel
theorem dX8_canBecome_62 : decode cX8_canBecome 62 = .ok (.bipush 9, 2) := by decide +kernel
theorem dX8_canBecome_64 : decode cX8_canBecome 64 = .ok (.invokestatic 53, 3) := by decide +kernel
theorem dX8_canBecome_67 : decode cX8_canBecome 67 = .ok (.ireturn, 1) := by decide +kernel
theorem dX8_canBecome_68 : decode cX8_canBecome 68 = .ok (.iload_n 3, 1) := by decide +kernel
theorem dX8_canBecome_69 : decode cX8_canBecome 69 = .ok (.aload_n 0, 1) := by decide +kernel
theorem dX8_canBecome_70 : decode cX8_canBecome 70 = .ok (.getfield 24, 3) := by decide +kernel
theorem dX8_canBecome_73 : decode cX8_canBecome 73 = .ok (.iload_n 1, 1) := by decide +kernel
theorem dX8_canBecome_74 : decode cX8_canBecome 74 = .ok (.iaload, 1) := by decide +kernel
theorem dX8_canBecome_75 : decode cX8_canBecome 75 = .ok (.bipush 99, 2) := by decide +kernel
theorem dX8_canBecome_77 : decode cX8_canBecome 77 = .ok (.invokestatic 53, 3) := by decide +kernel
theorem dX8_canBecome_80 : decode cX8_canBecome 80 = .ok (.ireturn, 1) := by decide +kernel
theorem dX8_canBecome_81 : decode cX8_canBecome 81 = .ok (.iload_n 3, 1) := by decide +kernel
theorem dX8_canBecome_82 : decode cX8_canBecome 82 = .ok (.iconst 1, 1) := by decide +kernel
theorem dX8_canBecome_83 : decode cX8_canBecome 83 = .ok (.bipush 9, 2) := by decide +kernel
theorem dX8_canBecome_85 : decode cX8_canBecome 85 = .ok (.invokestatic 53, 3) := by decide +kernel
theorem dX8_canBecome_88 : decode cX8_canBecome 88 = .ok (.ireturn, 1) := by decide +kernel
theorem dX8_canBecome_89 : decode cX8_canBecome 89 = .ok (.iload_n 3, 1) := by decide +kernel
theorem dX8_canBecome_90 : decode cX8_canBecome 90 = .ok (.iconst (-1), 1) := by decide +kernel
theorem dX8_canBecome_91 : decode cX8_canBecome 91 = .ok (.bipush 99, 2) := by decide +kernel
theorem dX8_canBecome_93 : decode cX8_canBecome 93 = .ok (.invokestatic 53, 3) := by decide +kernel
theorem dX8_canBecome_96 : decode cX8_canBecome 96 = .ok (.ireturn, 1) := by decide +kernel
theorem dX8_canBecome_97 : decode cX8_canBecome 97 = .ok (.iload_n 3, 1) := by decide +kernel
theorem dX8_canBecome_98 : decode cX8_canBecome 98 = .ok (.iconst (-1), 1) := by decide +kernel
theorem dX8_canBecome_99 : decode cX8_canBecome 99 = .ok (.if_icmp .eq 21, 3) := by decide +kernel
theorem dX8_canBecome_102 : decode cX8_canBecome 102 = .ok (.aload_n 0, 1) := by decide +kernel
theorem dX8_canBecome_103 : decode cX8_canBecome 103 = .ok (.iload_n 3, 1) := by decide +kernel
theorem dX8_canBecome_104 : decode cX8_canBecome 104 = .ok (.invokevirtual 46, 3) := by decide +kernel
theorem dX8_canBecome_107 : decode cX8_canBecome 107 = .ok (.ifCond .eq 17, 3) := by decide +kernel
theorem dX8_canBecome_110 : decode cX8_canBecome 110 = .ok (.iload_n 3, 1) := by decide +kernel
theorem dX8_canBecome_111 : decode cX8_canBecome 111 = .ok (.aload_n 0, 1) := by decide +kernel
theorem dX8_canBecome_112 : decode cX8_canBecome 112 = .ok (.getfield 21, 3) := by decide +kernel
theorem dX8_canBecome_115 : decode cX8_canBecome 115 = .ok (.iload_n 1, 1) := by decide +kernel
theorem dX8_canBecome_116 : decode cX8_canBecome 116 = .ok (.iaload, 1) := by decide +kernel
theorem dX8_canBecome_117 : decode cX8_canBecome 117 = .ok (.if_icmp .eq 7, 3) := by decide +kernel
theorem dX8_canBecome_120 : decode cX8_canBecome 120 = .ok (.iconst 1, 1) := by decide +kernel
theorem dX8_canBecome_121 : decode cX8_canBecome 121 = .ok (.goto 4, 3) := by decide +kernel
theorem dX8_canBecome_124 : decode cX8_canBecome 124 = .ok (.iconst 0, 1) := by decide +kernel
theorem dX8_canBecome_125 : decode cX8_canBecome 125 = .ok (.ireturn, 1) := by decide +kernel
theorem dX8_canBecome_126 : decode cX8_canBecome 126 = .ok (.iconst 0, 1) := by decide +kernel
theorem dX8_canBecome_127 : decode cX8_canBecome 127 = .ok (.ireturn, 1) := by decide +kernel
section
variable {p : Program} {l : Launch} {e : Env} {s : State} {m : MethodId} {args : Array Value} {below : List Frame} {meth : Method} {c : Code} {H : Heap} {locs : List Loc} {E : Ev} {S V : St} {ls : Array Slot}
set_option maxRecDepth 20000 in
theorem w_Sm_canBecome {p1 : Int32} {p2 : Int32} {p3 : Int32} {r : Int32} (C : Cx p s m args meth c E cX8_canBecome 4 RX8 (some .boolean)) (hw : Wd E (wX V E) s.heap S H locs) (hl : lv_has ls 4 [(0, .ref (ea E 1)), (1, .int p1), (2, .int p2), (3, .int p3)]) (hf : Sm_canBecome S p1 p2 p3 = some r) : W p l e (rmh 2) s m args below meth c H locs 0 0 (MQ below (QW E (wX V E) (some (.int r)) S) args s 0 0 (eA E)) (F0 m 0 ls []) := by
  have hx := C.1
  have hb := C.2.1
  unfold Sm_canBecome at hf
  refine lv_iload_n hx hb dX8_canBecome_0 rfl (lv_at hl 2 rfl) ?_
  by_cases q0 : p2 = 0
  · have hf := hf_t q0 hf
    refine lv_tableIn (off := 43) (tgt := 44) hx hb dX8_canBecome_1 (by rw [q0]; decide) (by rw [q0]; decide) (by rw [q0]; rfl) (by decide) ?_
    refine lv_iload_n hx hb dX8_canBecome_44 rfl (lv_at hl 3 rfl) ?_
    refine lv_iconst (v := 0) hx hb dX8_canBecome_45 kc_0 ?_
    refine lv_bipush (v := 30) hx hb dX8_canBecome_46 kb_30 ?_
    obtain ⟨r1, hr, hf⟩ := hf_1 hf
    refine inv_Ni (As := [.int p3, .int (0 : Int32), .int (30 : Int32)]) lk_X8_53 C hw (t_Ch_within hr) hl.1 dX8_canBecome_48 rfl (Nat.le_of_ble_eq_true rfl) (by decide) (Nat.le_of_ble_eq_true rfl) rfl (fun H locs hw => ?_)
    obtain ⟨hcb, hf⟩ := hf_ck hf
    exact ret_z (isB_nar hcb) C hw dX8_canBecome_51 hf
  have hf := hf_f q0 hf
  by_cases q1 : p2 = 1
  · have hf := hf_t q1 hf
    refine lv_tableIn (off := 51) (tgt := 52) hx hb dX8_canBecome_1 (by rw [q1]; decide) (by rw [q1]; decide) (by rw [q1]; rfl) (by decide) ?_
    refine lv_iload_n hx hb dX8_canBecome_52 rfl (lv_at hl 3 rfl) ?_
    refine lv_iconst (v := 1) hx hb dX8_canBecome_53 kc_1 ?_
    refine lv_bipush (v := 60) hx hb dX8_canBecome_54 kb_60 ?_
    obtain ⟨r2, hr, hf⟩ := hf_1 hf
    refine inv_Ni (As := [.int p3, .int (1 : Int32), .int (60 : Int32)]) lk_X8_53 C hw (t_Ch_within hr) hl.1 dX8_canBecome_56 rfl (Nat.le_of_ble_eq_true rfl) (by decide) (Nat.le_of_ble_eq_true rfl) rfl (fun H locs hw => ?_)
    obtain ⟨hcb, hf⟩ := hf_ck hf
    exact ret_z (isB_nar hcb) C hw dX8_canBecome_59 hf
  have hf := hf_f q1 hf
  by_cases q2 : p2 = 2
  · have hf := hf_t q2 hf
    refine lv_tableIn (off := 59) (tgt := 60) hx hb dX8_canBecome_1 (by rw [q2]; decide) (by rw [q2]; decide) (by rw [q2]; rfl) (by decide) ?_
    refine lv_iload_n hx hb dX8_canBecome_60 rfl (lv_at hl 3 rfl) ?_
    refine lv_iconst (v := 0) hx hb dX8_canBecome_61 kc_0 ?_
    refine lv_bipush (v := 9) hx hb dX8_canBecome_62 kb_9 ?_
    obtain ⟨r3, hr, hf⟩ := hf_1 hf
    refine inv_Ni (As := [.int p3, .int (0 : Int32), .int (9 : Int32)]) lk_X8_53 C hw (t_Ch_within hr) hl.1 dX8_canBecome_64 rfl (Nat.le_of_ble_eq_true rfl) (by decide) (Nat.le_of_ble_eq_true rfl) rfl (fun H locs hw => ?_)
    obtain ⟨hcb, hf⟩ := hf_ck hf
    exact ret_z (isB_nar hcb) C hw dX8_canBecome_67 hf
  have hf := hf_f q2 hf
  by_cases q3 : p2 = 3
  · have hf := hf_t q3 hf
    refine lv_tableIn (off := 67) (tgt := 68) hx hb dX8_canBecome_1 (by rw [q3]; decide) (by rw [q3]; decide) (by rw [q3]; rfl) (by decide) ?_
    refine lv_iload_n hx hb dX8_canBecome_68 rfl (lv_at hl 3 rfl) ?_
    refine lv_aload_n hx hb dX8_canBecome_69 rfl (lv_at hl 0 rfl) ?_
    refine get_1_4 C hw q_117 dX8_canBecome_70 ?_
    refine lv_iload_n hx hb dX8_canBecome_73 rfl (lv_at hl 1 rfl) ?_
    obtain ⟨hc, hf⟩ := hf_ck hf
    refine ld_15 C hw hc dX8_canBecome_74 ?_
    refine lv_bipush (v := 99) hx hb dX8_canBecome_75 kb_99 ?_
    obtain ⟨r4, hr, hf⟩ := hf_1 hf
    refine inv_Ni (As := [.int p3, .int (gi S 15 p1.toNatClampNeg), .int (99 : Int32)]) lk_X8_53 C hw (t_Ch_within hr) hl.1 dX8_canBecome_77 rfl (Nat.le_of_ble_eq_true rfl) (by decide) (Nat.le_of_ble_eq_true rfl) rfl (fun H locs hw => ?_)
    obtain ⟨hcb, hf⟩ := hf_ck hf
    exact ret_z (isB_nar hcb) C hw dX8_canBecome_80 hf
  have hf := hf_f q3 hf
  by_cases q4 : p2 = 4
  · have hf := hf_t q4 hf
    refine lv_tableIn (off := 80) (tgt := 81) hx hb dX8_canBecome_1 (by rw [q4]; decide) (by rw [q4]; decide) (by rw [q4]; rfl) (by decide) ?_
    refine lv_iload_n hx hb dX8_canBecome_81 rfl (lv_at hl 3 rfl) ?_
    refine lv_iconst (v := 1) hx hb dX8_canBecome_82 kc_1 ?_
    refine lv_bipush (v := 9) hx hb dX8_canBecome_83 kb_9 ?_
    obtain ⟨r5, hr, hf⟩ := hf_1 hf
    refine inv_Ni (As := [.int p3, .int (1 : Int32), .int (9 : Int32)]) lk_X8_53 C hw (t_Ch_within hr) hl.1 dX8_canBecome_85 rfl (Nat.le_of_ble_eq_true rfl) (by decide) (Nat.le_of_ble_eq_true rfl) rfl (fun H locs hw => ?_)
    obtain ⟨hcb, hf⟩ := hf_ck hf
    exact ret_z (isB_nar hcb) C hw dX8_canBecome_88 hf
  have hf := hf_f q4 hf
  by_cases q5 : p2 = 5
  · have hf := hf_t q5 hf
    refine lv_tableIn (off := 88) (tgt := 89) hx hb dX8_canBecome_1 (by rw [q5]; decide) (by rw [q5]; decide) (by rw [q5]; rfl) (by decide) ?_
    refine lv_iload_n hx hb dX8_canBecome_89 rfl (lv_at hl 3 rfl) ?_
    refine lv_iconst (v := -1) hx hb dX8_canBecome_90 kc_m1 ?_
    refine lv_bipush (v := 99) hx hb dX8_canBecome_91 kb_99 ?_
    obtain ⟨r6, hr, hf⟩ := hf_1 hf
    refine inv_Ni (As := [.int p3, .int (-1 : Int32), .int (99 : Int32)]) lk_X8_53 C hw (t_Ch_within hr) hl.1 dX8_canBecome_93 rfl (Nat.le_of_ble_eq_true rfl) (by decide) (Nat.le_of_ble_eq_true rfl) rfl (fun H locs hw => ?_)
    obtain ⟨hcb, hf⟩ := hf_ck hf
    exact ret_z (isB_nar hcb) C hw dX8_canBecome_96 hf
  have hf := hf_f q5 hf
  by_cases q6 : p2 = 6
  · have hf := hf_t q6 hf
    refine lv_tableIn (off := 96) (tgt := 97) hx hb dX8_canBecome_1 (by rw [q6]; decide) (by rw [q6]; decide) (by rw [q6]; rfl) (by decide) ?_
    refine lv_iload_n hx hb dX8_canBecome_97 rfl (lv_at hl 3 rfl) ?_
    refine lv_iconst (v := -1) hx hb dX8_canBecome_98 kc_m1 ?_
    refine lv_icmp_eq (tgt := 120) hx hb dX8_canBecome_99 (by decide) (fun q => ?_) (fun q => ?_)
    · have hf := hf_t q hf
      refine lv_iconst (v := 1) hx hb dX8_canBecome_120 kc_1 ?_
      refine lv_goto (tgt := 125) hx hb dX8_canBecome_121 (by decide) ?_
      exact ret_z rfl C hw dX8_canBecome_125 hf
    · have hf := hf_f q hf
      refine lv_aload_n hx hb dX8_canBecome_102 rfl (lv_at hl 0 rfl) ?_
      refine lv_iload_n hx hb dX8_canBecome_103 rfl (lv_at hl 3 rfl) ?_
      obtain ⟨r7, hr, hf⟩ := hf_1 hf
      refine inv_Vi (q0 := 1) (ci := 8) (As := [.int p3]) lk_X8_46 C hw rfl rfl rfl (t_Sm_isOne hr) rfl hl.1 dX8_canBecome_104 rfl (Nat.le_of_ble_eq_true rfl) (by decide) (Nat.le_of_ble_eq_true rfl) rfl (fun H locs hw => ?_)
      refine lv_if_eq (tgt := 124) hx hb dX8_canBecome_107 (by decide) (fun q => ?_) (fun q => ?_)
      · have hf := hf_t q hf
        refine lv_iconst (v := 0) hx hb dX8_canBecome_124 kc_0 ?_
        exact ret_z rfl C hw dX8_canBecome_125 hf
      · have hf := hf_f q hf
        refine lv_iload_n hx hb dX8_canBecome_110 rfl (lv_at hl 3 rfl) ?_
        refine lv_aload_n hx hb dX8_canBecome_111 rfl (lv_at hl 0 rfl) ?_
        refine get_1_3 C hw q_113 dX8_canBecome_112 ?_
        refine lv_iload_n hx hb dX8_canBecome_115 rfl (lv_at hl 1 rfl) ?_
        obtain ⟨hc, hf⟩ := hf_ck hf
        refine ld_14 C hw hc dX8_canBecome_116 ?_
        refine lv_icmp_eq (tgt := 124) hx hb dX8_canBecome_117 (by decide) (fun q => ?_) (fun q => ?_)
        · have hf := hf_t q hf
          refine lv_iconst (v := 0) hx hb dX8_canBecome_124 kc_0 ?_
          exact ret_z rfl C hw dX8_canBecome_125 hf
        · have hf := hf_f q hf
          refine lv_iconst (v := 1) hx hb dX8_canBecome_120 kc_1 ?_
          refine lv_goto (tgt := 125) hx hb dX8_canBecome_121 (by decide) ?_
          exact ret_z rfl C hw dX8_canBecome_125 hf
  have hf := hf_f q6 hf
  refine lv_tableOut (tgt := 126) hx hb dX8_canBecome_1 (by have h0 := lv_neT (a := 0) q0 rfl; have h1 := lv_neT (a := 1) q1 rfl; have h2 := lv_neT (a := 2) q2 rfl; have h3 := lv_neT (a := 3) q3 rfl; have h4 := lv_neT (a := 4) q4 rfl; have h5 := lv_neT (a := 5) q5 rfl; have h6 := lv_neT (a := 6) q6 rfl; omega) (by decide) ?_
  refine lv_iconst (v := 0) hx hb dX8_canBecome_126 kc_0 ?_
  exact ret_z rfl C hw dX8_canBecome_127 hf
end
theorem t_Sm_canBecome {l : Launch} {V : St} {S : St} {p1 : Int32} {p2 : Int32} {p3 : Int32} {r : Int32} (hf : Sm_canBecome S p1 p2 p3 = some r) : Ct l (wX V) yX8_canBecome cX8_canBecome 4 (some .boolean) 2 (fun E => [.ref (ea E 1), .int p1, .int p2, .int p3]) S (fun E => some (.int r)) S :=
  ofBlock (by decide +kernel) (fun _ => Nat.le_of_ble_eq_true rfl) (fun E p e s m args below meth c ls C hw hl => w_Sm_canBecome C hw hl hf)
