theorem dX4_bestFirstTurn_0 : decode cX4_bestFirstTurn 0 = .ok (.aload_n 0, 1) := by decide +kernel
theorem dX4_bestFirstTurn_1 : decode cX4_bestFirstTurn 1 = .ok (.iload_n 1, 1) := by decide +kernel
theorem dX4_bestFirstTurn_2 : decode cX4_bestFirstTurn 2 = .ok (.iload_n 2, 1) := by decide +kernel
theorem dX4_bestFirstTurn_3 : decode cX4_bestFirstTurn 3 = .ok (.invokevirtual 31, 3) := by decide +kernel
theorem dX4_bestFirstTurn_6 : decode cX4_bestFirstTurn 6 = .ok (.istore 4, 2) := by decide +kernel
theorem dX4_bestFirstTurn_8 : decode cX4_bestFirstTurn 8 = .ok (.aload_n 0, 1) := by decide +kernel
theorem dX4_bestFirstTurn_9 : decode cX4_bestFirstTurn 9 = .ok (.getfield 9, 3) := by decide +kernel
theorem dX4_bestFirstTurn_12 : decode cX4_bestFirstTurn 12 = .ok (.iload_n 1, 1) := by decide +kernel
theorem dX4_bestFirstTurn_13 : decode cX4_bestFirstTurn 13 = .ok (.iload_n 2, 1) := by decide +kernel
theorem dX4_bestFirstTurn_14 : decode cX4_bestFirstTurn 14 = .ok (.invokevirtual 35, 3) := by decide +kernel
theorem dX4_bestFirstTurn_17 : decode cX4_bestFirstTurn 17 = .ok (.istore 5, 2) := by decide +kernel
theorem dX4_bestFirstTurn_19 : decode cX4_bestFirstTurn 19 = .ok (.iconst 0, 1) := by decide +kernel
theorem dX4_bestFirstTurn_20 : decode cX4_bestFirstTurn 20 = .ok (.istore 6, 2) := by decide +kernel
theorem dX4_bestFirstTurn_22 : decode cX4_bestFirstTurn 22 = .ok (.iload 6, 2) := by decide +kernel
theorem dX4_bestFirstTurn_24 : decode cX4_bestFirstTurn 24 = .ok (.aload_n 0, 1) := by decide +kernel
theorem dX4_bestFirstTurn_25 : decode cX4_bestFirstTurn 25 = .ok (.getfield 9, 3) := by decide +kernel
theorem dX4_bestFirstTurn_28 : decode cX4_bestFirstTurn 28 = .ok (.getfield 55, 3) := by decide +kernel
theorem dX4_bestFirstTurn_31 : decode cX4_bestFirstTurn 31 = .ok (.if_icmp .ge 55, 3) := by decide +kernel
theorem dX4_bestFirstTurn_34 : decode cX4_bestFirstTurn 34 = .ok (.iload 4, 2) := by decide +kernel
theorem dX4_bestFirstTurn_36 : decode cX4_bestFirstTurn 36 = .ok (.iload 6, 2) := by decide +kernel
theorem dX4_bestFirstTurn_38 : decode cX4_bestFirstTurn 38 = .ok (.invokestatic 59, 3) := by decide +kernel
theorem dX4_bestFirstTurn_41 : decode cX4_bestFirstTurn 41 = .ok (.ifCond .eq 39, 3) := by decide +kernel
theorem dX4_bestFirstTurn_44 : decode cX4_bestFirstTurn 44 = .ok (.aload_n 0, 1) := by decide +kernel
theorem dX4_bestFirstTurn_45 : decode cX4_bestFirstTurn 45 = .ok (.getfield 9, 3) := by decide +kernel
theorem dX4_bestFirstTurn_48 : decode cX4_bestFirstTurn 48 = .ok (.iload_n 1, 1) := by decide +kernel
theorem dX4_bestFirstTurn_49 : decode cX4_bestFirstTurn 49 = .ok (.iload 5, 2) := by decide +kernel
theorem dX4_bestFirstTurn_51 : decode cX4_bestFirstTurn 51 = .ok (.aload_n 0, 1) := by decide +kernel
theorem dX4_bestFirstTurn_52 : decode cX4_bestFirstTurn 52 = .ok (.getfield 9, 3) := by decide +kernel
theorem dX4_bestFirstTurn_55 : decode cX4_bestFirstTurn 55 = .ok (.getfield 62, 3) := by decide +kernel
theorem dX4_bestFirstTurn_58 : decode cX4_bestFirstTurn 58 = .ok (.iload 6, 2) := by decide +kernel
theorem dX4_bestFirstTurn_60 : decode cX4_bestFirstTurn 60 = .ok (.iaload, 1) := by decide +kernel
theorem dX4_bestFirstTurn_61 : decode cX4_bestFirstTurn 61 = .ok (.isub, 1) := by decide +kernel
theorem dX4_bestFirstTurn_62 : decode cX4_bestFirstTurn 62 = .ok (.iload 4, 2) := by decide +kernel
theorem dX4_bestFirstTurn_64 : decode cX4_bestFirstTurn 64 = .ok (.iconst 1, 1) := by decide +kernel
theorem dX4_bestFirstTurn_65 : decode cX4_bestFirstTurn 65 = .ok (.iload 6, 2) := by decide +kernel
theorem dX4_bestFirstTurn_67 : decode cX4_bestFirstTurn 67 = .ok (.ishl, 1) := by decide +kernel
theorem dX4_bestFirstTurn_68 : decode cX4_bestFirstTurn 68 = .ok (.ixor, 1) := by decide +kernel
theorem dX4_bestFirstTurn_69 : decode cX4_bestFirstTurn 69 = .ok (.iconst 1, 1) := by decide +kernel
theorem dX4_bestFirstTurn_70 : decode cX4_bestFirstTurn 70 = .ok (.iload_n 3, 1) := by decide +kernel
theorem dX4_bestFirstTurn_71 : decode cX4_bestFirstTurn 71 = .ok (.invokestatic 51, 3) := by decide +kernel
theorem dX4_bestFirstTurn_74 : decode cX4_bestFirstTurn 74 = .ok (.ifCond .eq 6, 3) := by decide +kernel
theorem dX4_bestFirstTurn_77 : decode cX4_bestFirstTurn 77 = .ok (.iload 6, 2) := by decide +kernel
theorem dX4_bestFirstTurn_79 : decode cX4_bestFirstTurn 79 = .ok (.ireturn, 1) := by decide +kernel
theorem dX4_bestFirstTurn_80 : decode cX4_bestFirstTurn 80 = .ok (.iinc 6 1, 3) := by decide +kernel
theorem dX4_bestFirstTurn_83 : decode cX4_bestFirstTurn 83 = .ok (.goto (-61), 3) := by decide +kernel
theorem dX4_bestFirstTurn_86 : decode cX4_bestFirstTurn 86 = .ok (.iload 4, 2) := by decide +kernel
theorem dX4_bestFirstTurn_88 : decode cX4_bestFirstTurn 88 = .ok (.ifCond .eq 20, 3) := by decide +kernel
theorem dX4_bestFirstTurn_91 : decode cX4_bestFirstTurn 91 = .ok (.aload_n 0, 1) := by decide +kernel
theorem dX4_bestFirstTurn_92 : decode cX4_bestFirstTurn 92 = .ok (.getfield 9, 3) := by decide +kernel
theorem dX4_bestFirstTurn_95 : decode cX4_bestFirstTurn 95 = .ok (.iload_n 1, 1) := by decide +kernel
theorem dX4_bestFirstTurn_96 : decode cX4_bestFirstTurn 96 = .ok (.iload 5, 2) := by decide +kernel
theorem dX4_bestFirstTurn_98 : decode cX4_bestFirstTurn 98 = .ok (.iload 4, 2) := by decide +kernel
theorem dX4_bestFirstTurn_100 : decode cX4_bestFirstTurn 100 = .ok (.iconst 1, 1) := by decide +kernel
theorem dX4_bestFirstTurn_101 : decode cX4_bestFirstTurn 101 = .ok (.iload_n 3, 1) := by decide +kernel
theorem dX4_bestFirstTurn_102 : decode cX4_bestFirstTurn 102 = .ok (.invokestatic 51, 3) := by decide +kernel
theorem dX4_bestFirstTurn_105 : decode cX4_bestFirstTurn 105 = .ok (.ifCond .eq 6, 3) := by decide +kernel
theorem dX4_bestFirstTurn_108 : decode cX4_bestFirstTurn 108 = .ok (.bipush 10, 2) := by decide +kernel
theorem dX4_bestFirstTurn_110 : decode cX4_bestFirstTurn 110 = .ok (.ireturn, 1) := by decide +kernel
theorem dX4_bestFirstTurn_111 : decode cX4_bestFirstTurn 111 = .ok (.iload 4, 2) := by decide +kernel
theorem dX4_bestFirstTurn_113 : decode cX4_bestFirstTurn 113 = .ok (.invokestatic 66, 3) := by decide +kernel
theorem dX4_bestFirstTurn_116 : decode cX4_bestFirstTurn 116 = .ok (.ireturn, 1) := by decide +kernel
section
variable {p : Program} {l : Launch} {e : Env} {s : State} {m : MethodId} {args : Array Value} {below : List Frame} {meth : Method} {c : Code} {H : Heap} {locs : List Loc} {E : Ev} {S V : St} {ls : Array Slot}
set_option maxRecDepth 20000 in
theorem w_Kp_bestFirstTurn_b22 {N : Nat} {k22 : (Int32) → Option Int32} {l1 : Int32} {l3 : Int32} {l4 : Int32} {l5 : Int32} {l6 : Int32} {r : Int32} (C : Cx p s m args meth c E cX4_bestFirstTurn 7 RX4 (some .int)) (hk22 : ∀ x, k22 x = some r → ∀ (H : Heap) (locs : List Loc) (ls : Array Slot), Wd E (wX V E) s.heap S H locs → lv_has ls 7 [(0, .ref (ea E 4)), (1, .int l1), (3, .int l3), (4, .int l4), (5, .int l5), (6, .int x)] → W p l e (rmh (N + 4)) s m args below meth c H locs 0 0 (MQ below (QW E (wX V E) (some (.int r)) S) args s 0 0 (eA E)) (F0 m 22 ls [])) (hw : Wd E (wX V E) s.heap S H locs) (hl : lv_has ls 7 [(0, .ref (ea E 4)), (1, .int l1), (3, .int l3), (4, .int l4), (5, .int l5), (6, .int l6)]) (hf : Kp_bestFirstTurn_b22 N k22 S l1 l3 l4 l5 l6 = some r) : W p l e (rmh (N + 4)) s m args below meth c H locs 0 0 (MQ below (QW E (wX V E) (some (.int r)) S) args s 0 0 (eA E)) (F0 m 22 ls []) := by
  have hx := C.1
  have hb := C.2.1
  unfold Kp_bestFirstTurn_b22 at hf
  refine lv_iload hx hb dX4_bestFirstTurn_22 (lv_at hl 5 rfl) ?_
  refine lv_aload_n hx hb dX4_bestFirstTurn_24 rfl (lv_at hl 0 rfl) ?_
  refine get_4_0 C hw q_308 dX4_bestFirstTurn_25 ?_
  refine get_1_10 C hw q_142 dX4_bestFirstTurn_28 ?_
  refine lv_icmp_ge (tgt := 86) hx hb dX4_bestFirstTurn_31 (by decide) (fun q => ?_) (fun q => ?_)
  · have hf := hf_t q hf
    refine lv_iload hx hb dX4_bestFirstTurn_86 (lv_at hl 3 rfl) ?_
    refine lv_if_eq (tgt := 108) hx hb dX4_bestFirstTurn_88 (by decide) (fun q => ?_) (fun q => ?_)
    · have hf := hf_t q hf
      refine lv_bipush (v := 10) hx hb dX4_bestFirstTurn_108 kb_10 ?_
      exact ret_i C hw dX4_bestFirstTurn_110 hf
    · have hf := hf_f q hf
      refine lv_aload_n hx hb dX4_bestFirstTurn_91 rfl (lv_at hl 0 rfl) ?_
      refine get_4_0 C hw q_308 dX4_bestFirstTurn_92 ?_
      refine lv_iload_n hx hb dX4_bestFirstTurn_95 rfl (lv_at hl 1 rfl) ?_
      refine lv_iload hx hb dX4_bestFirstTurn_96 (lv_at hl 4 rfl) ?_
      refine lv_iload hx hb dX4_bestFirstTurn_98 (lv_at hl 3 rfl) ?_
      refine lv_iconst (v := 1) hx hb dX4_bestFirstTurn_100 kc_1 ?_
      refine lv_iload_n hx hb dX4_bestFirstTurn_101 rfl (lv_at hl 2 rfl) ?_
      obtain ⟨r1, hr, hf⟩ := hf_1 hf
      refine inv_SAi (As := fun E => [.ref (ea E 1), .int l1, .int l5, .int l4, .int (1 : Int32), .int l3]) lk_X4_51 C hw (t_Kp_endsRiding hr) hl.1 dX4_bestFirstTurn_102 rfl (by omega) (by decide) (Nat.le_of_ble_eq_true rfl) rfl (fun H locs hw => ?_)
      refine lv_if_eq (tgt := 111) hx hb dX4_bestFirstTurn_105 (by decide) (fun q => ?_) (fun q => ?_)
      · have hf := hf_t q hf
        refine lv_iload hx hb dX4_bestFirstTurn_111 (lv_at hl 3 rfl) ?_
        obtain ⟨r2, hr, hf⟩ := hf_1 hf
        refine inv_Si (As := [.int l4]) lk_X4_66 C hw (t_In_numberOfTrailingZeros hr) hl.1 dX4_bestFirstTurn_113 rfl (Nat.le_of_ble_eq_true rfl) (by decide) (Nat.le_of_ble_eq_true rfl) rfl (fun H locs hw => ?_)
        exact ret_i C hw dX4_bestFirstTurn_116 hf
      · have hf := hf_f q hf
        refine lv_bipush (v := 10) hx hb dX4_bestFirstTurn_108 kb_10 ?_
        exact ret_i C hw dX4_bestFirstTurn_110 hf
  · have hf := hf_f q hf
    refine lv_iload hx hb dX4_bestFirstTurn_34 (lv_at hl 3 rfl) ?_
    refine lv_iload hx hb dX4_bestFirstTurn_36 (lv_at hl 5 rfl) ?_
    obtain ⟨r3, hr, hf⟩ := hf_1 hf
    refine inv_Ni (As := [.int l4, .int l6]) lk_X4_59 C hw (t_Ch_isIn hr) hl.1 dX4_bestFirstTurn_38 rfl (Nat.le_of_ble_eq_true rfl) (by decide) (Nat.le_of_ble_eq_true rfl) rfl (fun H locs hw => ?_)
    refine lv_if_eq (tgt := 80) hx hb dX4_bestFirstTurn_41 (by decide) (fun q => ?_) (fun q => ?_)
    · have hf := hf_t q hf
      obtain ⟨x4, ex4, hf⟩ := nme hf
      refine lv_iinc (v := x4) (lv' := [(6, .int x4), (0, .ref (ea E 4)), (1, .int l1), (3, .int l3), (4, .int l4), (5, .int l5)]) hx hb dX4_bestFirstTurn_80 hl (k := 5) rfl (ki_1 ex4) (by decide) rfl (fun ls hl => ?_)
      refine lv_goto (tgt := 22) hx hb dX4_bestFirstTurn_83 (by decide) ?_
      exact hk22 _ hf _ _ _ hw (lv_sub hl [1, 2, 3, 4, 5, 0] rfl)
    · have hf := hf_f q hf
      refine lv_aload_n hx hb dX4_bestFirstTurn_44 rfl (lv_at hl 0 rfl) ?_
      refine get_4_0 C hw q_308 dX4_bestFirstTurn_45 ?_
      refine lv_iload_n hx hb dX4_bestFirstTurn_48 rfl (lv_at hl 1 rfl) ?_
      refine lv_iload hx hb dX4_bestFirstTurn_49 (lv_at hl 4 rfl) ?_
      refine lv_aload_n hx hb dX4_bestFirstTurn_51 rfl (lv_at hl 0 rfl) ?_
      refine get_4_0 C hw q_308 dX4_bestFirstTurn_52 ?_
      refine get_1_6 C hw q_126 dX4_bestFirstTurn_55 ?_
      refine lv_iload hx hb dX4_bestFirstTurn_58 (lv_at hl 5 rfl) ?_
      obtain ⟨hc, hf⟩ := hf_ck hf
      refine ld_17 C hw hc dX4_bestFirstTurn_60 ?_
      refine lv_isub hx hb dX4_bestFirstTurn_61 ?_
      refine lv_iload hx hb dX4_bestFirstTurn_62 (lv_at hl 3 rfl) ?_
      refine lv_iconst (v := 1) hx hb dX4_bestFirstTurn_64 kc_1 ?_
      refine lv_iload hx hb dX4_bestFirstTurn_65 (lv_at hl 5 rfl) ?_
      refine lv_ishl hx hb dX4_bestFirstTurn_67 ?_
      refine lv_ixor hx hb dX4_bestFirstTurn_68 ?_
      refine lv_iconst (v := 1) hx hb dX4_bestFirstTurn_69 kc_1 ?_
      refine lv_iload_n hx hb dX4_bestFirstTurn_70 rfl (lv_at hl 2 rfl) ?_
      obtain ⟨r5, hr, hf⟩ := hf_1 hf
      refine inv_SAi (As := fun E => [.ref (ea E 1), .int l1, .int (l5 - (gi S 17 l6.toNatClampNeg)), .int (l4 ^^^ ((1 : Int32) <<< (l6 &&& 31))), .int (1 : Int32), .int l3]) lk_X4_51 C hw (t_Kp_endsRiding hr) hl.1 dX4_bestFirstTurn_71 rfl (by omega) (by decide) (Nat.le_of_ble_eq_true rfl) rfl (fun H locs hw => ?_)
      refine lv_if_eq (tgt := 80) hx hb dX4_bestFirstTurn_74 (by decide) (fun q => ?_) (fun q => ?_)
      · have hf := hf_t q hf
        obtain ⟨x6, ex6, hf⟩ := nme hf
        refine lv_iinc (v := x6) (lv' := [(6, .int x6), (0, .ref (ea E 4)), (1, .int l1), (3, .int l3), (4, .int l4), (5, .int l5)]) hx hb dX4_bestFirstTurn_80 hl (k := 5) rfl (ki_1 ex6) (by decide) rfl (fun ls hl => ?_)
        refine lv_goto (tgt := 22) hx hb dX4_bestFirstTurn_83 (by decide) ?_
        exact hk22 _ hf _ _ _ hw (lv_sub hl [1, 2, 3, 4, 5, 0] rfl)
      · have hf := hf_f q hf
        refine lv_iload hx hb dX4_bestFirstTurn_77 (lv_at hl 5 rfl) ?_
        exact ret_i C hw dX4_bestFirstTurn_79 hf
theorem w_Kp_bestFirstTurn_L22 {N : Nat} {l1 : Int32} {l3 : Int32} {l4 : Int32} {l5 : Int32} {r : Int32} (C : Cx p s m args meth c E cX4_bestFirstTurn 7 RX4 (some .int)) : ∀ x, Kp_bestFirstTurn_L22 N S l1 l3 l4 l5 x = some r → ∀ (H : Heap) (locs : List Loc) (ls : Array Slot), Wd E (wX V E) s.heap S H locs → lv_has ls 7 [(0, .ref (ea E 4)), (1, .int l1), (3, .int l3), (4, .int l4), (5, .int l5), (6, .int x)] → W p l e (rmh (N + 4)) s m args below meth c H locs 0 0 (MQ below (QW E (wX V E) (some (.int r)) S) args s 0 0 (eA E)) (F0 m 22 ls []) :=
  lp_W (fun k x hk hf H locs ls hw hl => w_Kp_bestFirstTurn_b22 C hk hw hl hf) N
set_option maxRecDepth 20000 in
theorem w_Kp_bestFirstTurn {N : Nat} {p1 : Int32} {p2 : Int32} {p3 : Int32} {r : Int32} (C : Cx p s m args meth c E cX4_bestFirstTurn 7 RX4 (some .int)) (hw : Wd E (wX V E) s.heap S H locs) (hl : lv_has ls 7 [(0, .ref (ea E 4)), (1, .int p1), (2, .int p2), (3, .int p3)]) (hf : Kp_bestFirstTurn N S p1 p2 p3 = some r) : W p l e (rmh (N + 4)) s m args below meth c H locs 0 0 (MQ below (QW E (wX V E) (some (.int r)) S) args s 0 0 (eA E)) (F0 m 0 ls []) := by
  have hx := C.1
  have hb := C.2.1
  unfold Kp_bestFirstTurn at hf
  refine lv_aload_n hx hb dX4_bestFirstTurn_0 rfl (lv_at hl 0 rfl) ?_
  refine lv_iload_n hx hb dX4_bestFirstTurn_1 rfl (lv_at hl 1 rfl) ?_
  refine lv_iload_n hx hb dX4_bestFirstTurn_2 rfl (lv_at hl 2 rfl) ?_
  obtain ⟨r1, hr, hf⟩ := hf_1 hf
  refine inv_Vi (q0 := 4) (ci := 4) (As := [.int p1, .int p2]) lk_X4_31 C hw rfl rfl rfl (t_Kp_mayKeep hr) rfl hl.1 dX4_bestFirstTurn_3 rfl (Nat.le_of_ble_eq_true rfl) (by decide) (Nat.le_of_ble_eq_true rfl) rfl (fun H locs hw => ?_)
  refine lv_istore (lv' := [(4, .int r1), (0, .ref (ea E 4)), (1, .int p1), (2, .int p2), (3, .int p3)]) hx hb dX4_bestFirstTurn_6 hl (by decide) rfl (fun ls hl => ?_)
  refine lv_aload_n hx hb dX4_bestFirstTurn_8 rfl (lv_at hl 1 rfl) ?_
  refine get_4_0 C hw q_308 dX4_bestFirstTurn_9 ?_
  refine lv_iload_n hx hb dX4_bestFirstTurn_12 rfl (lv_at hl 2 rfl) ?_
  refine lv_iload_n hx hb dX4_bestFirstTurn_13 rfl (lv_at hl 3 rfl) ?_
  obtain ⟨r2, hr, hf⟩ := hf_1 hf
  refine inv_Vi (q0 := 1) (ci := 8) (As := [.int p1, .int p2]) lk_X4_35 C hw rfl rfl rfl (t_Sm_lengthOn hr) rfl hl.1 dX4_bestFirstTurn_14 rfl (Nat.le_of_ble_eq_true rfl) (by decide) (Nat.le_of_ble_eq_true rfl) rfl (fun H locs hw => ?_)
  refine lv_istore (lv' := [(5, .int r2), (4, .int r1), (0, .ref (ea E 4)), (1, .int p1), (2, .int p2), (3, .int p3)]) hx hb dX4_bestFirstTurn_17 hl (by decide) rfl (fun ls hl => ?_)
  refine lv_iconst (v := 0) hx hb dX4_bestFirstTurn_19 kc_0 ?_
  refine lv_istore (lv' := [(6, .int (0 : Int32)), (5, .int r2), (4, .int r1), (0, .ref (ea E 4)), (1, .int p1), (2, .int p2), (3, .int p3)]) hx hb dX4_bestFirstTurn_20 hl (by decide) rfl (fun ls hl => ?_)
  exact w_Kp_bestFirstTurn_L22 C _ hf _ _ _ hw (lv_sub hl [3, 4, 6, 2, 1, 0] rfl)
end
theorem t_Kp_bestFirstTurn {l : Launch} {V : St} {N : Nat} {S : St} {p1 : Int32} {p2 : Int32} {p3 : Int32} {r : Int32} (hf : Kp_bestFirstTurn N S p1 p2 p3 = some r) : Ct l (wX V) yX4_bestFirstTurn cX4_bestFirstTurn 7 (some .int) (N + 4) (fun E => [.ref (ea E 4), .int p1, .int p2, .int p3]) S (fun E => some (.int r)) S :=
  ofBlock (by decide +kernel) (fun _ => Nat.le_of_ble_eq_true rfl) (fun E p e s m args below meth c ls C hw hl => w_Kp_bestFirstTurn C hw hl hf)
theorem dX5_take_0 : decode cX5_take 0 = .ok (.aload_n 0, 1) := by decide +kernel
theorem dX5_take_1 : decode cX5_take 1 = .ok (.getfield 9, 3) := by decide +kernel
theorem dX5_take_4 : decode cX5_take 4 = .ok (.aload_n 0, 1) := by decide +kernel
theorem dX5_take_5 : decode cX5_take 5 = .ok (.getfield 25, 3) := by decide +kernel
theorem dX5_take_8 : decode cX5_take 8 = .ok (.iload_n 1, 1) := by decide +kernel
theorem dX5_take_9 : decode cX5_take 9 = .ok (.iastore, 1) := by decide +kernel
theorem dX5_take_10 : decode cX5_take 10 = .ok (.aload_n 0, 1) := by decide +kernel
theorem dX5_take_11 : decode cX5_take 11 = .ok (.dup, 1) := by decide +kernel
theorem dX5_take_12 : decode cX5_take 12 = .ok (.getfield 25, 3) := by decide +kernel
theorem dX5_take_15 : decode cX5_take 15 = .ok (.iconst 1, 1) := by decide +kernel
theorem dX5_take_16 : decode cX5_take 16 = .ok (.iadd, 1) := by decide +kernel
theorem dX5_take_17 : decode cX5_take 17 = .ok (.dup_x1, 1) := by decide +kernel
theorem dX5_take_18 : decode cX5_take 18 = .ok (.putfield 25, 3) := by decide +kernel
theorem dX5_take_21 : decode cX5_take 21 = .ok (.ireturn, 1) := by decide +kernel
section
variable {p : Program} {l : Launch} {e : Env} {s : State} {m : MethodId} {args : Array Value} {below : List Frame} {meth : Method} {c : Code} {H : Heap} {locs : List Loc} {E : Ev} {S V : St} {ls : Array Slot}
set_option maxRecDepth 20000 in
theorem w_La_take {p1 : Int32} {r : Int32} {S9 : St} (C : Cx p s m args meth c E cX5_take 2 RX5 (some .int)) (hw : Wd E (wX V E) s.heap S H locs) (hl : lv_has ls 2 [(0, .ref (ea E 2)), (1, .int p1)]) (hf : La_take S p1 = some (r, S9)) : W p l e (rmh 1) s m args below meth c H locs 0 0 (MQ below (QW E (wX V E) (some (.int r)) S9) args s 0 0 (eA E)) (F0 m 0 ls []) := by
  have hx := C.1
  have hb := C.2.1
  unfold La_take at hf
  refine lv_aload_n hx hb dX5_take_0 rfl (lv_at hl 0 rfl) ?_
  refine get_2_1 C hw q_176 dX5_take_1 ?_
  refine lv_aload_n hx hb dX5_take_4 rfl (lv_at hl 0 rfl) ?_
  refine get_2_0 C hw q_174 dX5_take_5 ?_
  refine lv_iload_n hx hb dX5_take_8 rfl (lv_at hl 1 rfl) ?_
  obtain ⟨hc, hf⟩ := hf_ck hf
  refine st_20 C hw hc dX5_take_9 (fun H locs hw => ?_)
  refine nm_S hf hw (fun S1 hf hw => ?_)
  refine lv_aload_n hx hb dX5_take_10 rfl (lv_at hl 0 rfl) ?_
  refine lv_dup hx hb dX5_take_11 rfl ?_
  refine get_2_0 C hw q_174 dX5_take_12 ?_
  refine lv_iconst (v := 1) hx hb dX5_take_15 kc_1 ?_
  refine lv_iadd hx hb dX5_take_16 ?_
  refine nm_i hf (fun x2 hf => ?_)
  refine lv_dup_x1 hx hb dX5_take_17 rfl rfl ?_
  refine put_2_0 C hw q_174 dX5_take_18 (fun H locs hw => ?_)
  refine nm_S hf hw (fun S3 hf hw => ?_)
  exact ret_iS C hw dX5_take_21 hf
end
theorem t_La_take {l : Launch} {V : St} {S : St} {p1 : Int32} {r : Int32} {S9 : St} (hf : La_take S p1 = some (r, S9)) : Ct l (wX V) yX5_take cX5_take 2 (some .int) 1 (fun E => [.ref (ea E 2), .int p1]) S (fun E => some (.int r)) S9 :=
  ofBlock (by decide +kernel) (fun _ => Nat.le_of_ble_eq_true rfl) (fun E p e s m args below meth c ls C hw hl => w_La_take C hw hl hf)
theorem dX5_fail_0 : decode cX5_fail 0 = .ok (.aload_n 0, 1) := by decide +kernel
theorem dX5_fail_1 : decode cX5_fail 1 = .ok (.getfield 38, 3) := by decide +kernel
theorem dX5_fail_4 : decode cX5_fail 4 = .ok (.iconst (-1), 1) := by decide +kernel
theorem dX5_fail_5 : decode cX5_fail 5 = .ok (.if_icmp .ne 11, 3) := by decide +kernel
theorem dX5_fail_8 : decode cX5_fail 8 = .ok (.aload_n 0, 1) := by decide +kernel
theorem dX5_fail_9 : decode cX5_fail 9 = .ok (.aload_n 0, 1) := by decide +kernel
theorem dX5_fail_10 : decode cX5_fail 10 = .ok (.getfield 32, 3) := by decide +kernel
theorem dX5_fail_13 : decode cX5_fail 13 = .ok (.putfield 38, 3) := by decide +kernel
theorem dX5_fail_16 : decode cX5_fail 16 = .ok (.return_, 1) := by decide +kernel
section
variable {p : Program} {l : Launch} {e : Env} {s : State} {m : MethodId} {args : Array Value} {below : List Frame} {meth : Method} {c : Code} {H : Heap} {locs : List Loc} {E : Ev} {S V : St} {ls : Array Slot}
set_option maxRecDepth 20000 in
theorem w_La_fail {S9 : St} (C : Cx p s m args meth c E cX5_fail 1 RX5 none) (hw : Wd E (wX V E) s.heap S H locs) (hl : lv_has ls 1 [(0, .ref (ea E 2))]) (hf : La_fail S = some S9) : W p l e (rmh 1) s m args below meth c H locs 0 0 (MQ below (QW E (wX V E) (none) S9) args s 0 0 (eA E)) (F0 m 0 ls []) := by
  have hx := C.1
  have hb := C.2.1
  unfold La_fail at hf
  refine lv_aload_n hx hb dX5_fail_0 rfl (lv_at hl 0 rfl) ?_
  refine get_2_9 C hw q_184 dX5_fail_1 ?_
  refine lv_iconst (v := -1) hx hb dX5_fail_4 kc_m1 ?_
  refine lv_icmp_ne (tgt := 16) hx hb dX5_fail_5 (by decide) (fun q => ?_) (fun q => ?_)
  · have hf := hf_f q hf
    exact ret_vS C hw dX5_fail_16 hf
  · have hf := hf_t q hf
    refine lv_aload_n hx hb dX5_fail_8 rfl (lv_at hl 0 rfl) ?_
    refine lv_aload_n hx hb dX5_fail_9 rfl (lv_at hl 0 rfl) ?_
    refine get_2_8 C hw q_183 dX5_fail_10 ?_
    refine put_2_9 C hw q_184 dX5_fail_13 (fun H locs hw => ?_)
    refine nm_S hf hw (fun S1 hf hw => ?_)
    exact ret_vS C hw dX5_fail_16 hf
end
theorem t_La_fail {l : Launch} {V : St} {S : St} {S9 : St} (hf : La_fail S = some S9) : Ct l (wX V) yX5_fail cX5_fail 1 none 1 (fun E => [.ref (ea E 2)]) S (fun E => none) S9 :=
  ofBlock (by decide +kernel) (fun _ => Nat.le_of_ble_eq_true rfl) (fun E p e s m args below meth c ls C hw hl => w_La_fail C hw hl hf)
theorem dX5_next_0 : decode cX5_next 0 = .ok (.aload_n 0, 1) := by decide +kernel
theorem dX5_next_1 : decode cX5_next 1 = .ok (.getfield 38, 3) := by decide +kernel
theorem dX5_next_4 : decode cX5_next 4 = .ok (.iconst (-1), 1) := by decide +kernel
theorem dX5_next_5 : decode cX5_next 5 = .ok (.if_icmp .ne 26, 3) := by decide +kernel
theorem dX5_next_8 : decode cX5_next 8 = .ok (.aload_n 0, 1) := by decide +kernel
theorem dX5_next_9 : decode cX5_next 9 = .ok (.getfield 32, 3) := by decide +kernel
theorem dX5_next_12 : decode cX5_next 12 = .ok (.aload_n 0, 1) := by decide +kernel
theorem dX5_next_13 : decode cX5_next 13 = .ok (.getfield 25, 3) := by decide +kernel
theorem dX5_next_16 : decode cX5_next 16 = .ok (.if_icmp .ge 15, 3) := by decide +kernel
theorem dX5_next_19 : decode cX5_next 19 = .ok (.aload_n 0, 1) := by decide +kernel
theorem dX5_next_20 : decode cX5_next 20 = .ok (.getfield 9, 3) := by decide +kernel
theorem dX5_next_23 : decode cX5_next 23 = .ok (.aload_n 0, 1) := by decide +kernel
theorem dX5_next_24 : decode cX5_next 24 = .ok (.getfield 32, 3) := by decide +kernel
theorem dX5_next_27 : decode cX5_next 27 = .ok (.iaload, 1) := by decide +kernel
theorem dX5_next_28 : decode cX5_next 28 = .ok (.goto 4, 3) := by decide +kernel
theorem dX5_next_31 : decode cX5_next 31 = .ok (.iconst (-1), 1) := by decide +kernel
theorem dX5_next_32 : decode cX5_next 32 = .ok (.ireturn, 1) := by decide +kernel
section
variable {p : Program} {l : Launch} {e : Env} {s : State} {m : MethodId} {args : Array Value} {below : List Frame} {meth : Method} {c : Code} {H : Heap} {locs : List Loc} {E : Ev} {S V : St} {ls : Array Slot}
set_option maxRecDepth 20000 in
theorem w_La_next {r : Int32} (C : Cx p s m args meth c E cX5_next 1 RX5 (some .int)) (hw : Wd E (wX V E) s.heap S H locs) (hl : lv_has ls 1 [(0, .ref (ea E 2))]) (hf : La_next S = some r) : W p l e (rmh 1) s m args below meth c H locs 0 0 (MQ below (QW E (wX V E) (some (.int r)) S) args s 0 0 (eA E)) (F0 m 0 ls []) := by
  have hx := C.1
  have hb := C.2.1
  unfold La_next at hf
  refine lv_aload_n hx hb dX5_next_0 rfl (lv_at hl 0 rfl) ?_
  refine get_2_9 C hw q_184 dX5_next_1 ?_
  refine lv_iconst (v := -1) hx hb dX5_next_4 kc_m1 ?_
  refine lv_icmp_ne (tgt := 31) hx hb dX5_next_5 (by decide) (fun q => ?_) (fun q => ?_)
  · have hf := hf_f q hf
    refine lv_iconst (v := -1) hx hb dX5_next_31 kc_m1 ?_
    exact ret_i C hw dX5_next_32 hf
  · have hf := hf_t q hf
    refine lv_aload_n hx hb dX5_next_8 rfl (lv_at hl 0 rfl) ?_
    refine get_2_8 C hw q_183 dX5_next_9 ?_
    refine lv_aload_n hx hb dX5_next_12 rfl (lv_at hl 0 rfl) ?_
    refine get_2_0 C hw q_174 dX5_next_13 ?_
    refine lv_icmp_ge (tgt := 31) hx hb dX5_next_16 (by decide) (fun q => ?_) (fun q => ?_)
    · have hf := hf_t q hf
      refine lv_iconst (v := -1) hx hb dX5_next_31 kc_m1 ?_
      exact ret_i C hw dX5_next_32 hf
    · have hf := hf_f q hf
      refine lv_aload_n hx hb dX5_next_19 rfl (lv_at hl 0 rfl) ?_
      refine get_2_1 C hw q_176 dX5_next_20 ?_
      refine lv_aload_n hx hb dX5_next_23 rfl (lv_at hl 0 rfl) ?_
      refine get_2_8 C hw q_183 dX5_next_24 ?_
      obtain ⟨hc, hf⟩ := hf_ck hf
      refine ld_20 C hw hc dX5_next_27 ?_
      refine lv_goto (tgt := 32) hx hb dX5_next_28 (by decide) ?_
      exact ret_i C hw dX5_next_32 hf
end
theorem t_La_next {l : Launch} {V : St} {S : St} {r : Int32} (hf : La_next S = some r) : Ct l (wX V) yX5_next cX5_next 1 (some .int) 1 (fun E => [.ref (ea E 2)]) S (fun E => some (.int r)) S :=
  ofBlock (by decide +kernel) (fun _ => Nat.le_of_ble_eq_true rfl) (fun E p e s m args below meth c ls C hw hl => w_La_next C hw hl hf)
theorem dX5_isDigit_0 : decode cX5_isDigit 0 = .ok (.iload_n 0, 1) := by decide +kernel
theorem dX5_isDigit_1 : decode cX5_isDigit 1 = .ok (.bipush 48, 2) := by decide +kernel
theorem dX5_isDigit_3 : decode cX5_isDigit 3 = .ok (.if_icmp .lt 13, 3) := by decide +kernel
theorem dX5_isDigit_6 : decode cX5_isDigit 6 = .ok (.iload_n 0, 1) := by decide +kernel
theorem dX5_isDigit_7 : decode cX5_isDigit 7 = .ok (.bipush 57, 2) := by decide +kernel
theorem dX5_isDigit_9 : decode cX5_isDigit 9 = .ok (.if_icmp .gt 7, 3) := by decide +kernel
theorem dX5_isDigit_12 : decode cX5_isDigit 12 = .ok (.iconst 1, 1) := by decide +kernel
theorem dX5_isDigit_13 : decode cX5_isDigit 13 = .ok (.goto 4, 3) := by decide +kernel
theorem dX5_isDigit_16 : decode cX5_isDigit 16 = .ok (.iconst 0, 1) := by decide +kernel
theorem dX5_isDigit_17 : decode cX5_isDigit 17 = .ok (.ireturn, 1) := by decide +kernel
section
variable {p : Program} {l : Launch} {e : Env} {s : State} {m : MethodId} {args : Array Value} {below : List Frame} {meth : Method} {c : Code} {H : Heap} {locs : List Loc} {E : Ev} {S V : St} {ls : Array Slot}
set_option maxRecDepth 20000 in
theorem w_La_isDigit {p1 : Int32} {r : Int32} (C : Cx p s m args meth c E cX5_isDigit 1 RX5 (some .boolean)) (hw : Wd E (wX V E) s.heap S H locs) (hl : lv_has ls 1 [(0, .int p1)]) (hf : La_isDigit S p1 = some r) : W p l e (rmh 1) s m args below meth c H locs 0 0 (MQ below (QW E (wX V E) (some (.int r)) S) args s 0 0 (eA E)) (F0 m 0 ls []) := by
  have hx := C.1
  have hb := C.2.1
  unfold La_isDigit at hf
  refine lv_iload_n hx hb dX5_isDigit_0 rfl (lv_at hl 0 rfl) ?_
  refine lv_bipush (v := 48) hx hb dX5_isDigit_1 kb_48 ?_
  refine lv_icmp_lt (tgt := 16) hx hb dX5_isDigit_3 (by decide) (fun q => ?_) (fun q => ?_)
  · have hf := hf_t q hf
    refine lv_iconst (v := 0) hx hb dX5_isDigit_16 kc_0 ?_
    exact ret_z rfl C hw dX5_isDigit_17 hf
  · have hf := hf_f q hf
    refine lv_iload_n hx hb dX5_isDigit_6 rfl (lv_at hl 0 rfl) ?_
    refine lv_bipush (v := 57) hx hb dX5_isDigit_7 kb_57 ?_
    refine lv_icmp_gt (tgt := 16) hx hb dX5_isDigit_9 (by decide) (fun q => ?_) (fun q => ?_)
    · have hf := hf_t q hf
      refine lv_iconst (v := 0) hx hb dX5_isDigit_16 kc_0 ?_
      exact ret_z rfl C hw dX5_isDigit_17 hf
    · have hf := hf_f q hf
      refine lv_iconst (v := 1) hx hb dX5_isDigit_12 kc_1 ?_
      refine lv_goto (tgt := 17) hx hb dX5_isDigit_13 (by decide) ?_
      exact ret_z rfl C hw dX5_isDigit_17 hf
end
theorem t_La_isDigit {l : Launch} {V : St} {S : St} {p1 : Int32} {r : Int32} (hf : La_isDigit S p1 = some r) : Ct l (wX V) yX5_isDigit cX5_isDigit 1 (some .boolean) 1 (fun E => [.int p1]) S (fun E => some (.int r)) S :=
  ofBlock (by decide +kernel) (fun _ => Nat.le_of_ble_eq_true rfl) (fun E p e s m args below meth c ls C hw hl => w_La_isDigit C hw hl hf)
theorem dX5_nameOf_0 : decode cX5_nameOf 0 = .ok (.iload_n 0, 1) := by decide +kernel
theorem dX5_nameOf_1 : decode cX5_nameOf 1 = .ok (.tableswitch 99 99 116 #[91, 99, 99, 99, 99, 99, 99, 99, 99, 89, 99, 99, 87, 97, 99, 93, 99, 95], 87) := by decide +kernel
theorem dX5_nameOf_88 : decode cX5_nameOf 88 = .ok (.iconst 0, 1) := by decide +kernel
theorem dX5_nameOf_89 : decode cX5_nameOf 89 = .ok (.ireturn, 1) := by decide +kernel
theorem dX5_nameOf_90 : decode cX5_nameOf 90 = .ok (.iconst 1, 1) := by decide +kernel
theorem dX5_nameOf_91 : decode cX5_nameOf 91 = .ok (.ireturn, 1) := by decide +kernel
theorem dX5_nameOf_92 : decode cX5_nameOf 92 = .ok (.iconst 2, 1) := by decide +kernel
theorem dX5_nameOf_93 : decode cX5_nameOf 93 = .ok (.ireturn, 1) := by decide +kernel
theorem dX5_nameOf_94 : decode cX5_nameOf 94 = .ok (.iconst 3, 1) := by decide +kernel
theorem dX5_nameOf_95 : decode cX5_nameOf 95 = .ok (.ireturn, 1) := by decide +kernel
theorem dX5_nameOf_96 : decode cX5_nameOf 96 = .ok (.iconst 4, 1) := by decide +kernel
theorem dX5_nameOf_97 : decode cX5_nameOf 97 = .ok (.ireturn, 1) := by decide +kernel
theorem dX5_nameOf_98 : decode cX5_nameOf 98 = .ok (.iconst 5, 1) := by decide +kernel
theorem dX5_nameOf_99 : decode cX5_nameOf 99 = .ok (.ireturn, 1) := by decide +kernel
theorem dX5_nameOf_100 : decode cX5_nameOf 100 = .ok (.iconst (-1), 1) := by decide +kernel
theorem dX5_nameOf_101 : decode cX5_nameOf 101 = .ok (.ireturn, 1) := by decide +kernel
section
variable {p : Program} {l : Launch} {e : Env} {s : State} {m : MethodId} {args : Array Value} {below : List Frame} {meth : Method} {c : Code} {H : Heap} {locs : List Loc} {E : Ev} {S V : St} {ls : Array Slot}
set_option maxRecDepth 20000 in
theorem w_La_nameOf {p1 : Int32} {r : Int32} (C : Cx p s m args meth c E cX5_nameOf 1 RX5 (some .int)) (hw : Wd E (wX V E) s.heap S H locs) (hl : lv_has ls 1 [(0, .int p1)]) (hf : La_nameOf S p1 = some r) : W p l e (rmh 1) s m args below meth c H locs 0 0 (MQ below (QW E (wX V E) (some (.int r)) S) args s 0 0 (eA E)) (F0 m 0 ls []) := by
  have hx := C.1
  have hb := C.2.1
  unfold La_nameOf at hf
  refine lv_iload_n hx hb dX5_nameOf_0 rfl (lv_at hl 0 rfl) ?_
  by_cases q0 : p1 = 99
  · have hf := hf_t q0 hf
    refine lv_tableIn (off := 91) (tgt := 92) hx hb dX5_nameOf_1 (by rw [q0]; decide) (by rw [q0]; decide) (by rw [q0]; rfl) (by decide) ?_
    refine lv_iconst (v := 2) hx hb dX5_nameOf_92 kc_2 ?_
    exact ret_i C hw dX5_nameOf_93 hf
  have hf := hf_f q0 hf
  by_cases q1 : p1 = 100
  · have hf := hf_t q1 hf
    refine lv_tableIn (off := 99) (tgt := 100) hx hb dX5_nameOf_1 (by rw [q1]; decide) (by rw [q1]; decide) (by rw [q1]; rfl) (by decide) ?_
    refine lv_iconst (v := -1) hx hb dX5_nameOf_100 kc_m1 ?_
    exact ret_i C hw dX5_nameOf_101 hf
  have hf := hf_f q1 hf
  by_cases q2 : p1 = 101
  · have hf := hf_t q2 hf
    refine lv_tableIn (off := 99) (tgt := 100) hx hb dX5_nameOf_1 (by rw [q2]; decide) (by rw [q2]; decide) (by rw [q2]; rfl) (by decide) ?_
    refine lv_iconst (v := -1) hx hb dX5_nameOf_100 kc_m1 ?_
    exact ret_i C hw dX5_nameOf_101 hf
  have hf := hf_f q2 hf
  by_cases q3 : p1 = 102
  · have hf := hf_t q3 hf
    refine lv_tableIn (off := 99) (tgt := 100) hx hb dX5_nameOf_1 (by rw [q3]; decide) (by rw [q3]; decide) (by rw [q3]; rfl) (by decide) ?_
    refine lv_iconst (v := -1) hx hb dX5_nameOf_100 kc_m1 ?_
    exact ret_i C hw dX5_nameOf_101 hf
  have hf := hf_f q3 hf
  by_cases q4 : p1 = 103
  · have hf := hf_t q4 hf
    refine lv_tableIn (off := 99) (tgt := 100) hx hb dX5_nameOf_1 (by rw [q4]; decide) (by rw [q4]; decide) (by rw [q4]; rfl) (by decide) ?_
    refine lv_iconst (v := -1) hx hb dX5_nameOf_100 kc_m1 ?_
    exact ret_i C hw dX5_nameOf_101 hf
  have hf := hf_f q4 hf
  by_cases q5 : p1 = 104
  · have hf := hf_t q5 hf
    refine lv_tableIn (off := 99) (tgt := 100) hx hb dX5_nameOf_1 (by rw [q5]; decide) (by rw [q5]; decide) (by rw [q5]; rfl) (by decide) ?_
    refine lv_iconst (v := -1) hx hb dX5_nameOf_100 kc_m1 ?_
    exact ret_i C hw dX5_nameOf_101 hf
  have hf := hf_f q5 hf
  by_cases q6 : p1 = 105
  · have hf := hf_t q6 hf
    refine lv_tableIn (off := 99) (tgt := 100) hx hb dX5_nameOf_1 (by rw [q6]; decide) (by rw [q6]; decide) (by rw [q6]; rfl) (by decide) ?_
    refine lv_iconst (v := -1) hx hb dX5_nameOf_100 kc_m1 ?_
    exact ret_i C hw dX5_nameOf_101 hf
  have hf := hf_f q6 hf
  by_cases q7 : p1 = 106
  · have hf := hf_t q7 hf
    refine lv_tableIn (off := 99) (tgt := 100) hx hb dX5_nameOf_1 (by rw [q7]; decide) (by rw [q7]; decide) (by rw [q7]; rfl) (by decide) ?_
    refine lv_iconst (v := -1) hx hb dX5_nameOf_100 kc_m1 ?_
    exact ret_i C hw dX5_nameOf_101 hf
  have hf := hf_f q7 hf
  by_cases q8 : p1 = 107
  · have hf := hf_t q8 hf
    refine lv_tableIn (off := 99) (tgt := 100) hx hb dX5_nameOf_1 (by rw [q8]; decide) (by rw [q8]; decide) (by rw [q8]; rfl) (by decide) ?_
    refine lv_iconst (v := -1) hx hb dX5_nameOf_100 kc_m1 ?_
    exact ret_i C hw dX5_nameOf_101 hf
  have hf := hf_f q8 hf
  by_cases q9 : p1 = 108
  · have hf := hf_t q9 hf
    refine lv_tableIn (off := 89) (tgt := 90) hx hb dX5_nameOf_1 (by rw [q9]; decide) (by rw [q9]; decide) (by rw [q9]; rfl) (by decide) ?_
    refine lv_iconst (v := 1) hx hb dX5_nameOf_90 kc_1 ?_
    exact ret_i C hw dX5_nameOf_91 hf
  have hf := hf_f q9 hf
  by_cases q10 : p1 = 109
  · have hf := hf_t q10 hf
    refine lv_tableIn (off := 99) (tgt := 100) hx hb dX5_nameOf_1 (by rw [q10]; decide) (by rw [q10]; decide) (by rw [q10]; rfl) (by decide) ?_
    refine lv_iconst (v := -1) hx hb dX5_nameOf_100 kc_m1 ?_
    exact ret_i C hw dX5_nameOf_101 hf
  have hf := hf_f q10 hf
  by_cases q11 : p1 = 110
  · have hf := hf_t q11 hf
    refine lv_tableIn (off := 99) (tgt := 100) hx hb dX5_nameOf_1 (by rw [q11]; decide) (by rw [q11]; decide) (by rw [q11]; rfl) (by decide) ?_
    refine lv_iconst (v := -1) hx hb dX5_nameOf_100 kc_m1 ?_
    exact ret_i C hw dX5_nameOf_101 hf
  have hf := hf_f q11 hf
  by_cases q12 : p1 = 111
  · have hf := hf_t q12 hf
    refine lv_tableIn (off := 87) (tgt := 88) hx hb dX5_nameOf_1 (by rw [q12]; decide) (by rw [q12]; decide) (by rw [q12]; rfl) (by decide) ?_
    refine lv_iconst (v := 0) hx hb dX5_nameOf_88 kc_0 ?_
    exact ret_i C hw dX5_nameOf_89 hf
  have hf := hf_f q12 hf
  by_cases q13 : p1 = 112
  · have hf := hf_t q13 hf
    refine lv_tableIn (off := 97) (tgt := 98) hx hb dX5_nameOf_1 (by rw [q13]; decide) (by rw [q13]; decide) (by rw [q13]; rfl) (by decide) ?_
    refine lv_iconst (v := 5) hx hb dX5_nameOf_98 kc_5 ?_
    exact ret_i C hw dX5_nameOf_99 hf
  have hf := hf_f q13 hf
  by_cases q14 : p1 = 113
  · have hf := hf_t q14 hf
    refine lv_tableIn (off := 99) (tgt := 100) hx hb dX5_nameOf_1 (by rw [q14]; decide) (by rw [q14]; decide) (by rw [q14]; rfl) (by decide) ?_
    refine lv_iconst (v := -1) hx hb dX5_nameOf_100 kc_m1 ?_
    exact ret_i C hw dX5_nameOf_101 hf
  have hf := hf_f q14 hf
  by_cases q15 : p1 = 114
  · have hf := hf_t q15 hf
    refine lv_tableIn (off := 93) (tgt := 94) hx hb dX5_nameOf_1 (by rw [q15]; decide) (by rw [q15]; decide) (by rw [q15]; rfl) (by decide) ?_
    refine lv_iconst (v := 3) hx hb dX5_nameOf_94 kc_3 ?_
    exact ret_i C hw dX5_nameOf_95 hf
  have hf := hf_f q15 hf
  by_cases q16 : p1 = 115
  · have hf := hf_t q16 hf
    refine lv_tableIn (off := 99) (tgt := 100) hx hb dX5_nameOf_1 (by rw [q16]; decide) (by rw [q16]; decide) (by rw [q16]; rfl) (by decide) ?_
    refine lv_iconst (v := -1) hx hb dX5_nameOf_100 kc_m1 ?_
    exact ret_i C hw dX5_nameOf_101 hf
  have hf := hf_f q16 hf
  by_cases q17 : p1 = 116
  · have hf := hf_t q17 hf
    refine lv_tableIn (off := 95) (tgt := 96) hx hb dX5_nameOf_1 (by rw [q17]; decide) (by rw [q17]; decide) (by rw [q17]; rfl) (by decide) ?_
    refine lv_iconst (v := 4) hx hb dX5_nameOf_96 kc_4 ?_
    exact ret_i C hw dX5_nameOf_97 hf
  have hf := hf_f q17 hf
  refine lv_tableOut (tgt := 100) hx hb dX5_nameOf_1 (by have h0 := lv_neT (a := 99) q0 rfl; have h1 := lv_neT (a := 100) q1 rfl; have h2 := lv_neT (a := 101) q2 rfl; have h3 := lv_neT (a := 102) q3 rfl; have h4 := lv_neT (a := 103) q4 rfl; have h5 := lv_neT (a := 104) q5 rfl; have h6 := lv_neT (a := 105) q6 rfl; have h7 := lv_neT (a := 106) q7 rfl; have h8 := lv_neT (a := 107) q8 rfl; have h9 := lv_neT (a := 108) q9 rfl; have h10 := lv_neT (a := 109) q10 rfl; have h11 := lv_neT (a := 110) q11 rfl; have h12 := lv_neT (a := 111) q12 rfl; have h13 := lv_neT (a := 112) q13 rfl; have h14 := lv_neT (a := 113) q14 rfl; have h15 := lv_neT (a := 114) q15 rfl; have h16 := lv_neT (a := 115) q16 rfl; have h17 := lv_neT (a := 116) q17 rfl; omega) (by decide) ?_
  refine lv_iconst (v := -1) hx hb dX5_nameOf_100 kc_m1 ?_
  exact ret_i C hw dX5_nameOf_101 hf
end
theorem t_La_nameOf {l : Launch} {V : St} {S : St} {p1 : Int32} {r : Int32} (hf : La_nameOf S p1 = some r) : Ct l (wX V) yX5_nameOf cX5_nameOf 1 (some .int) 1 (fun E => [.int p1]) S (fun E => some (.int r)) S :=
  ofBlock (by decide +kernel) (fun _ => Nat.le_of_ble_eq_true rfl) (fun E p e s m args below meth c ls C hw hl => w_La_nameOf C hw hl hf)
theorem dX5_write_0 : decode cX5_write 0 = .ok (.aload_n 0, 1) := by decide +kernel
theorem dX5_write_1 : decode cX5_write 1 = .ok (.getfield 35, 3) := by decide +kernel
theorem dX5_write_4 : decode cX5_write 4 = .ok (.aload_n 0, 1) := by decide +kernel
theorem dX5_write_5 : decode cX5_write 5 = .ok (.getfield 16, 3) := by decide +kernel
theorem dX5_write_8 : decode cX5_write 8 = .ok (.arraylength, 1) := by decide +kernel
theorem dX5_write_9 : decode cX5_write 9 = .ok (.if_icmp .ge 23, 3) := by decide +kernel
theorem dX5_write_12 : decode cX5_write 12 = .ok (.aload_n 0, 1) := by decide +kernel
theorem dX5_write_13 : decode cX5_write 13 = .ok (.getfield 16, 3) := by decide +kernel
theorem dX5_write_16 : decode cX5_write 16 = .ok (.aload_n 0, 1) := by decide +kernel
theorem dX5_write_17 : decode cX5_write 17 = .ok (.getfield 35, 3) := by decide +kernel
theorem dX5_write_20 : decode cX5_write 20 = .ok (.iload_n 1, 1) := by decide +kernel
theorem dX5_write_21 : decode cX5_write 21 = .ok (.iastore, 1) := by decide +kernel
theorem dX5_write_22 : decode cX5_write 22 = .ok (.aload_n 0, 1) := by decide +kernel
theorem dX5_write_23 : decode cX5_write 23 = .ok (.dup, 1) := by decide +kernel
theorem dX5_write_24 : decode cX5_write 24 = .ok (.getfield 35, 3) := by decide +kernel
theorem dX5_write_27 : decode cX5_write 27 = .ok (.iconst 1, 1) := by decide +kernel
theorem dX5_write_28 : decode cX5_write 28 = .ok (.iadd, 1) := by decide +kernel
theorem dX5_write_29 : decode cX5_write 29 = .ok (.putfield 35, 3) := by decide +kernel
theorem dX5_write_32 : decode cX5_write 32 = .ok (.return_, 1) := by decide +kernel
section
variable {p : Program} {l : Launch} {e : Env} {s : State} {m : MethodId} {args : Array Value} {below : List Frame} {meth : Method} {c : Code} {H : Heap} {locs : List Loc} {E : Ev} {S V : St} {ls : Array Slot}
set_option maxRecDepth 20000 in
theorem w_La_write {p1 : Int32} {S9 : St} (C : Cx p s m args meth c E cX5_write 2 RX5 none) (hw : Wd E (wX V E) s.heap S H locs) (hl : lv_has ls 2 [(0, .ref (ea E 2)), (1, .int p1)]) (hf : La_write S p1 = some S9) : W p l e (rmh 1) s m args below meth c H locs 0 0 (MQ below (QW E (wX V E) (none) S9) args s 0 0 (eA E)) (F0 m 0 ls []) := by
  have hx := C.1
  have hb := C.2.1
  unfold La_write at hf
  refine lv_aload_n hx hb dX5_write_0 rfl (lv_at hl 0 rfl) ?_
  refine get_2_7 C hw q_182 dX5_write_1 ?_
  refine lv_aload_n hx hb dX5_write_4 rfl (lv_at hl 0 rfl) ?_
  refine get_2_3 C hw q_178 dX5_write_5 ?_
  refine len_22 C hw dX5_write_8 ?_
  refine lv_icmp_ge (tgt := 32) hx hb dX5_write_9 (by decide) (fun q => ?_) (fun q => ?_)
  · have hf := hf_t q hf
    exact ret_vS C hw dX5_write_32 hf
  · have hf := hf_f q hf
    refine lv_aload_n hx hb dX5_write_12 rfl (lv_at hl 0 rfl) ?_
    refine get_2_3 C hw q_178 dX5_write_13 ?_
    refine lv_aload_n hx hb dX5_write_16 rfl (lv_at hl 0 rfl) ?_
    refine get_2_7 C hw q_182 dX5_write_17 ?_
    refine lv_iload_n hx hb dX5_write_20 rfl (lv_at hl 1 rfl) ?_
    obtain ⟨hc, hf⟩ := hf_ck hf
    refine st_22 C hw hc dX5_write_21 (fun H locs hw => ?_)
    refine nm_S hf hw (fun S1 hf hw => ?_)
    refine lv_aload_n hx hb dX5_write_22 rfl (lv_at hl 0 rfl) ?_
    refine lv_dup hx hb dX5_write_23 rfl ?_
    refine get_2_7 C hw q_182 dX5_write_24 ?_
    refine lv_iconst (v := 1) hx hb dX5_write_27 kc_1 ?_
    refine lv_iadd hx hb dX5_write_28 ?_
    refine put_2_7 C hw q_182 dX5_write_29 (fun H locs hw => ?_)
    refine nm_S hf hw (fun S2 hf hw => ?_)
    exact ret_vS C hw dX5_write_32 hf
end
theorem t_La_write {l : Launch} {V : St} {S : St} {p1 : Int32} {S9 : St} (hf : La_write S p1 = some S9) : Ct l (wX V) yX5_write cX5_write 2 none 1 (fun E => [.ref (ea E 2), .int p1]) S (fun E => none) S9 :=
  ofBlock (by decide +kernel) (fun _ => Nat.le_of_ble_eq_true rfl) (fun E p e s m args below meth c ls C hw hl => w_La_write C hw hl hf)
theorem dX5_readNumber_0 : decode cX5_readNumber 0 = .ok (.iconst 0, 1) := by decide +kernel
theorem dX5_readNumber_1 : decode cX5_readNumber 1 = .ok (.istore_n 1, 1) := by decide +kernel
theorem dX5_readNumber_2 : decode cX5_readNumber 2 = .ok (.iconst 0, 1) := by decide +kernel
theorem dX5_readNumber_3 : decode cX5_readNumber 3 = .ok (.istore_n 2, 1) := by decide +kernel
theorem dX5_readNumber_4 : decode cX5_readNumber 4 = .ok (.iload_n 2, 1) := by decide +kernel
theorem dX5_readNumber_5 : decode cX5_readNumber 5 = .ok (.iconst 4, 1) := by decide +kernel
theorem dX5_readNumber_6 : decode cX5_readNumber 6 = .ok (.if_icmp .ge 42, 3) := by decide +kernel
theorem dX5_readNumber_9 : decode cX5_readNumber 9 = .ok (.aload_n 0, 1) := by decide +kernel
theorem dX5_readNumber_10 : decode cX5_readNumber 10 = .ok (.invokevirtual 44, 3) := by decide +kernel
theorem dX5_readNumber_13 : decode cX5_readNumber 13 = .ok (.invokestatic 75, 3) := by decide +kernel
theorem dX5_readNumber_16 : decode cX5_readNumber 16 = .ok (.ifCond .eq 32, 3) := by decide +kernel
theorem dX5_readNumber_19 : decode cX5_readNumber 19 = .ok (.iload_n 1, 1) := by decide +kernel
theorem dX5_readNumber_20 : decode cX5_readNumber 20 = .ok (.bipush 10, 2) := by decide +kernel
theorem dX5_readNumber_22 : decode cX5_readNumber 22 = .ok (.imul, 1) := by decide +kernel
theorem dX5_readNumber_23 : decode cX5_readNumber 23 = .ok (.aload_n 0, 1) := by decide +kernel
theorem dX5_readNumber_24 : decode cX5_readNumber 24 = .ok (.invokevirtual 44, 3) := by decide +kernel
theorem dX5_readNumber_27 : decode cX5_readNumber 27 = .ok (.iadd, 1) := by decide +kernel
theorem dX5_readNumber_28 : decode cX5_readNumber 28 = .ok (.bipush 48, 2) := by decide +kernel
theorem dX5_readNumber_30 : decode cX5_readNumber 30 = .ok (.isub, 1) := by decide +kernel
theorem dX5_readNumber_31 : decode cX5_readNumber 31 = .ok (.istore_n 1, 1) := by decide +kernel
theorem dX5_readNumber_32 : decode cX5_readNumber 32 = .ok (.aload_n 0, 1) := by decide +kernel
theorem dX5_readNumber_33 : decode cX5_readNumber 33 = .ok (.dup, 1) := by decide +kernel
theorem dX5_readNumber_34 : decode cX5_readNumber 34 = .ok (.getfield 32, 3) := by decide +kernel
theorem dX5_readNumber_37 : decode cX5_readNumber 37 = .ok (.iconst 1, 1) := by decide +kernel
theorem dX5_readNumber_38 : decode cX5_readNumber 38 = .ok (.iadd, 1) := by decide +kernel
theorem dX5_readNumber_39 : decode cX5_readNumber 39 = .ok (.putfield 32, 3) := by decide +kernel
theorem dX5_readNumber_42 : decode cX5_readNumber 42 = .ok (.iinc 2 1, 3) := by decide +kernel
theorem dX5_readNumber_45 : decode cX5_readNumber 45 = .ok (.goto (-41), 3) := by decide +kernel
theorem dX5_readNumber_48 : decode cX5_readNumber 48 = .ok (.aload_n 0, 1) := by decide +kernel
theorem dX5_readNumber_49 : decode cX5_readNumber 49 = .ok (.sipush 256, 3) := by decide +kernel
theorem dX5_readNumber_52 : decode cX5_readNumber 52 = .ok (.iload_n 1, 1) := by decide +kernel
theorem dX5_readNumber_53 : decode cX5_readNumber 53 = .ok (.iadd, 1) := by decide +kernel
theorem dX5_readNumber_54 : decode cX5_readNumber 54 = .ok (.invokevirtual 61, 3) := by decide +kernel
theorem dX5_readNumber_57 : decode cX5_readNumber 57 = .ok (.return_, 1) := by decide +kernel
section
variable {p : Program} {l : Launch} {e : Env} {s : State} {m : MethodId} {args : Array Value} {below : List Frame} {meth : Method} {c : Code} {H : Heap} {locs : List Loc} {E : Ev} {S V : St} {ls : Array Slot}
set_option maxRecDepth 20000 in
theorem w_La_readNumber_b48 {N : Nat} {l1 : Int32} {S9 : St} (C : Cx p s m args meth c E cX5_readNumber 3 RX5 none) (hw : Wd E (wX V E) s.heap S H locs) (hl : lv_has ls 3 [(0, .ref (ea E 2)), (1, .int l1)]) (hf : La_readNumber_b48 N S l1 = some S9) : W p l e (rmh 2) s m args below meth c H locs 0 0 (MQ below (QW E (wX V E) (none) S9) args s 0 0 (eA E)) (F0 m 48 ls []) := by
  have hx := C.1
  have hb := C.2.1
  unfold La_readNumber_b48 at hf
  refine lv_aload_n hx hb dX5_readNumber_48 rfl (lv_at hl 0 rfl) ?_
  refine lv_sipush (v := 256) hx hb dX5_readNumber_49 ks_256 ?_
  refine lv_iload_n hx hb dX5_readNumber_52 rfl (lv_at hl 1 rfl) ?_
  refine lv_iadd hx hb dX5_readNumber_53 ?_
  obtain ⟨S1, hr, hf⟩ := hf_1 hf
  refine inv_Vv (q0 := 2) (ci := 5) (As := [.int ((256 : Int32) + l1)]) lk_X5_61 C hw rfl rfl rfl (t_La_write hr) rfl hl.1 dX5_readNumber_54 rfl (Nat.le_of_ble_eq_true rfl) (by decide) (Nat.le_of_ble_eq_true rfl) rfl (fun H locs hw => ?_)
  exact ret_vS C hw dX5_readNumber_57 hf
set_option maxRecDepth 20000 in
theorem w_La_readNumber_b4 {N : Nat} {k4 : (St × Int32 × Int32) → Option St} {l1 : Int32} {l2 : Int32} {S9 : St} (C : Cx p s m args meth c E cX5_readNumber 3 RX5 none) (hk4 : ∀ x, k4 x = some S9 → ∀ (H : Heap) (locs : List Loc) (ls : Array Slot), Wd E (wX V E) s.heap x.1 H locs → lv_has ls 3 [(0, .ref (ea E 2)), (1, .int x.2.1), (2, .int x.2.2)] → W p l e (rmh 2) s m args below meth c H locs 0 0 (MQ below (QW E (wX V E) (none) S9) args s 0 0 (eA E)) (F0 m 4 ls [])) (hw : Wd E (wX V E) s.heap S H locs) (hl : lv_has ls 3 [(0, .ref (ea E 2)), (1, .int l1), (2, .int l2)]) (hf : La_readNumber_b4 N k4 S l1 l2 = some S9) : W p l e (rmh 2) s m args below meth c H locs 0 0 (MQ below (QW E (wX V E) (none) S9) args s 0 0 (eA E)) (F0 m 4 ls []) := by
  have hx := C.1
  have hb := C.2.1
  unfold La_readNumber_b4 at hf
  refine lv_iload_n hx hb dX5_readNumber_4 rfl (lv_at hl 2 rfl) ?_
  refine lv_iconst (v := 4) hx hb dX5_readNumber_5 kc_4 ?_
  refine lv_icmp_ge (tgt := 48) hx hb dX5_readNumber_6 (by decide) (fun q => ?_) (fun q => ?_)
  · have hf := hf_t q hf
    exact w_La_readNumber_b48 C hw (lv_sub hl [0, 1] rfl) hf
  · have hf := hf_f q hf
    refine lv_aload_n hx hb dX5_readNumber_9 rfl (lv_at hl 0 rfl) ?_
    obtain ⟨r1, hr, hf⟩ := hf_1 hf
    refine inv_Vi (q0 := 2) (ci := 5) (As := []) lk_X5_44 C hw rfl rfl rfl (t_La_next hr) rfl hl.1 dX5_readNumber_10 rfl (Nat.le_of_ble_eq_true rfl) (by decide) (Nat.le_of_ble_eq_true rfl) rfl (fun H locs hw => ?_)
    obtain ⟨r2, hr, hf⟩ := hf_1 hf
    refine inv_Si (As := [.int r1]) lk_X5_75 C hw (t_La_isDigit hr) hl.1 dX5_readNumber_13 rfl (Nat.le_of_ble_eq_true rfl) (by decide) (Nat.le_of_ble_eq_true rfl) rfl (fun H locs hw => ?_)
    refine lv_if_eq (tgt := 48) hx hb dX5_readNumber_16 (by decide) (fun q => ?_) (fun q => ?_)
    · have hf := hf_t q hf
      exact w_La_readNumber_b48 C hw (lv_sub hl [0, 1] rfl) hf
    · have hf := hf_f q hf
      refine lv_iload_n hx hb dX5_readNumber_19 rfl (lv_at hl 1 rfl) ?_
      refine lv_bipush (v := 10) hx hb dX5_readNumber_20 kb_10 ?_
      refine lv_imul hx hb dX5_readNumber_22 ?_
      refine lv_aload_n hx hb dX5_readNumber_23 rfl (lv_at hl 0 rfl) ?_
      obtain ⟨r3, hr, hf⟩ := hf_1 hf
      refine inv_Vi (q0 := 2) (ci := 5) (As := []) lk_X5_44 C hw rfl rfl rfl (t_La_next hr) rfl hl.1 dX5_readNumber_24 rfl (Nat.le_of_ble_eq_true rfl) (by decide) (Nat.le_of_ble_eq_true rfl) rfl (fun H locs hw => ?_)
      refine lv_iadd hx hb dX5_readNumber_27 ?_
      refine lv_bipush (v := 48) hx hb dX5_readNumber_28 kb_48 ?_
      refine lv_isub hx hb dX5_readNumber_30 ?_
      refine nm_i hf (fun x4 hf => ?_)
      refine lv_istore_n (lv' := [(1, .int x4), (0, .ref (ea E 2)), (2, .int l2)]) hx hb dX5_readNumber_31 rfl hl (by decide) rfl (fun ls hl => ?_)
      refine lv_aload_n hx hb dX5_readNumber_32 rfl (lv_at hl 1 rfl) ?_
      refine lv_dup hx hb dX5_readNumber_33 rfl ?_
      refine get_2_8 C hw q_183 dX5_readNumber_34 ?_
      refine lv_iconst (v := 1) hx hb dX5_readNumber_37 kc_1 ?_
      refine lv_iadd hx hb dX5_readNumber_38 ?_
      refine put_2_8 C hw q_183 dX5_readNumber_39 (fun H locs hw => ?_)
      refine nm_S hf hw (fun S5 hf hw => ?_)
      obtain ⟨x6, ex6, hf⟩ := nme hf
      refine lv_iinc (v := x6) (lv' := [(2, .int x6), (1, .int x4), (0, .ref (ea E 2))]) hx hb dX5_readNumber_42 hl (k := 2) rfl (ki_1 ex6) (by decide) rfl (fun ls hl => ?_)
      refine lv_goto (tgt := 4) hx hb dX5_readNumber_45 (by decide) ?_
      exact hk4 _ hf _ _ _ hw (lv_sub hl [2, 1, 0] rfl)
theorem w_La_readNumber_L4 {N : Nat} {S9 : St} (C : Cx p s m args meth c E cX5_readNumber 3 RX5 none) : ∀ x, La_readNumber_L4 N x = some S9 → ∀ (H : Heap) (locs : List Loc) (ls : Array Slot), Wd E (wX V E) s.heap x.1 H locs → lv_has ls 3 [(0, .ref (ea E 2)), (1, .int x.2.1), (2, .int x.2.2)] → W p l e (rmh 2) s m args below meth c H locs 0 0 (MQ below (QW E (wX V E) (none) S9) args s 0 0 (eA E)) (F0 m 4 ls []) :=
  lp_W (fun k x hk hf H locs ls hw hl => w_La_readNumber_b4 C hk hw hl hf) N
set_option maxRecDepth 20000 in
theorem w_La_readNumber {N : Nat} {S9 : St} (C : Cx p s m args meth c E cX5_readNumber 3 RX5 none) (hw : Wd E (wX V E) s.heap S H locs) (hl : lv_has ls 3 [(0, .ref (ea E 2))]) (hf : La_readNumber N S = some S9) : W p l e (rmh 2) s m args below meth c H locs 0 0 (MQ below (QW E (wX V E) (none) S9) args s 0 0 (eA E)) (F0 m 0 ls []) := by
  have hx := C.1
  have hb := C.2.1
  unfold La_readNumber at hf
  refine lv_iconst (v := 0) hx hb dX5_readNumber_0 kc_0 ?_
  refine lv_istore_n (lv' := [(1, .int (0 : Int32)), (0, .ref (ea E 2))]) hx hb dX5_readNumber_1 rfl hl (by decide) rfl (fun ls hl => ?_)
  refine lv_iconst (v := 0) hx hb dX5_readNumber_2 kc_0 ?_
  refine lv_istore_n (lv' := [(2, .int (0 : Int32)), (1, .int (0 : Int32)), (0, .ref (ea E 2))]) hx hb dX5_readNumber_3 rfl hl (by decide) rfl (fun ls hl => ?_)
  exact w_La_readNumber_L4 C _ hf _ _ _ hw (lv_sub hl [2, 1, 0] rfl)
end
theorem t_La_readNumber {l : Launch} {V : St} {N : Nat} {S : St} {S9 : St} (hf : La_readNumber N S = some S9) : Ct l (wX V) yX5_readNumber cX5_readNumber 3 none 2 (fun E => [.ref (ea E 2)]) S (fun E => none) S9 :=
  ofBlock (by decide +kernel) (fun _ => Nat.le_of_ble_eq_true rfl) (fun E p e s m args below meth c ls C hw hl => w_La_readNumber C hw hl hf)
theorem dX5_readLevel_0 : decode cX5_readLevel 0 = .ok (.aload_n 0, 1) := by decide +kernel
theorem dX5_readLevel_1 : decode cX5_readLevel 1 = .ok (.iload_n 1, 1) := by decide +kernel
theorem dX5_readLevel_2 : decode cX5_readLevel 2 = .ok (.iconst 1, 1) := by decide +kernel
theorem dX5_readLevel_3 : decode cX5_readLevel 3 = .ok (.iadd, 1) := by decide +kernel
theorem dX5_readLevel_4 : decode cX5_readLevel 4 = .ok (.iload_n 2, 1) := by decide +kernel
theorem dX5_readLevel_5 : decode cX5_readLevel 5 = .ok (.invokevirtual 65, 3) := by decide +kernel
theorem dX5_readLevel_8 : decode cX5_readLevel 8 = .ok (.iload_n 1, 1) := by decide +kernel
theorem dX5_readLevel_9 : decode cX5_readLevel 9 = .ok (.iconst 2, 1) := by decide +kernel
theorem dX5_readLevel_10 : decode cX5_readLevel 10 = .ok (.if_icmp .ne 7, 3) := by decide +kernel
theorem dX5_readLevel_13 : decode cX5_readLevel 13 = .ok (.iconst 1, 1) := by decide +kernel
theorem dX5_readLevel_14 : decode cX5_readLevel 14 = .ok (.goto 5, 3) := by decide +kernel
theorem dX5_readLevel_17 : decode cX5_readLevel 17 = .ok (.bipush 120, 2) := by decide +kernel
theorem dX5_readLevel_19 : decode cX5_readLevel 19 = .ok (.istore_n 3, 1) := by decide +kernel
theorem dX5_readLevel_20 : decode cX5_readLevel 20 = .ok (.iconst 0, 1) := by decide +kernel
theorem dX5_readLevel_21 : decode cX5_readLevel 21 = .ok (.istore 4, 2) := by decide +kernel
theorem dX5_readLevel_23 : decode cX5_readLevel 23 = .ok (.iload 4, 2) := by decide +kernel
theorem dX5_readLevel_25 : decode cX5_readLevel 25 = .ok (.iload_n 3, 1) := by decide +kernel
theorem dX5_readLevel_26 : decode cX5_readLevel 26 = .ok (.if_icmp .ge 50, 3) := by decide +kernel
theorem dX5_readLevel_29 : decode cX5_readLevel 29 = .ok (.aload_n 0, 1) := by decide +kernel
theorem dX5_readLevel_30 : decode cX5_readLevel 30 = .ok (.invokevirtual 44, 3) := by decide +kernel
theorem dX5_readLevel_33 : decode cX5_readLevel 33 = .ok (.invokestatic 68, 3) := by decide +kernel
theorem dX5_readLevel_36 : decode cX5_readLevel 36 = .ok (.iload_n 1, 1) := by decide +kernel
theorem dX5_readLevel_37 : decode cX5_readLevel 37 = .ok (.if_icmp .ne 39, 3) := by decide +kernel
theorem dX5_readLevel_40 : decode cX5_readLevel 40 = .ok (.aload_n 0, 1) := by decide +kernel
theorem dX5_readLevel_41 : decode cX5_readLevel 41 = .ok (.invokevirtual 44, 3) := by decide +kernel
theorem dX5_readLevel_44 : decode cX5_readLevel 44 = .ok (.istore 5, 2) := by decide +kernel
theorem dX5_readLevel_46 : decode cX5_readLevel 46 = .ok (.aload_n 0, 1) := by decide +kernel
theorem dX5_readLevel_47 : decode cX5_readLevel 47 = .ok (.dup, 1) := by decide +kernel
theorem dX5_readLevel_48 : decode cX5_readLevel 48 = .ok (.getfield 32, 3) := by decide +kernel
theorem dX5_readLevel_51 : decode cX5_readLevel 51 = .ok (.iconst 1, 1) := by decide +kernel
theorem dX5_readLevel_52 : decode cX5_readLevel 52 = .ok (.iadd, 1) := by decide +kernel
theorem dX5_readLevel_53 : decode cX5_readLevel 53 = .ok (.putfield 32, 3) := by decide +kernel
theorem dX5_readLevel_56 : decode cX5_readLevel 56 = .ok (.aload_n 0, 1) := by decide +kernel
theorem dX5_readLevel_57 : decode cX5_readLevel 57 = .ok (.iload_n 1, 1) := by decide +kernel
theorem dX5_readLevel_58 : decode cX5_readLevel 58 = .ok (.iconst 1, 1) := by decide +kernel
theorem dX5_readLevel_59 : decode cX5_readLevel 59 = .ok (.iadd, 1) := by decide +kernel
theorem dX5_readLevel_60 : decode cX5_readLevel 60 = .ok (.iload_n 2, 1) := by decide +kernel
theorem dX5_readLevel_61 : decode cX5_readLevel 61 = .ok (.invokevirtual 65, 3) := by decide +kernel
theorem dX5_readLevel_64 : decode cX5_readLevel 64 = .ok (.aload_n 0, 1) := by decide +kernel
theorem dX5_readLevel_65 : decode cX5_readLevel 65 = .ok (.iload 5, 2) := by decide +kernel
theorem dX5_readLevel_67 : decode cX5_readLevel 67 = .ok (.invokevirtual 61, 3) := by decide +kernel
theorem dX5_readLevel_70 : decode cX5_readLevel 70 = .ok (.iinc 4 1, 3) := by decide +kernel
theorem dX5_readLevel_73 : decode cX5_readLevel 73 = .ok (.goto (-50), 3) := by decide +kernel
theorem dX5_readLevel_76 : decode cX5_readLevel 76 = .ok (.return_, 1) := by decide +kernel
theorem dX5_readOpened_0 : decode cX5_readOpened 0 = .ok (.iload_n 1, 1) := by decide +kernel
theorem dX5_readOpened_1 : decode cX5_readOpened 1 = .ok (.bipush 40, 2) := by decide +kernel
theorem dX5_readOpened_3 : decode cX5_readOpened 3 = .ok (.if_icmp .ne 38, 3) := by decide +kernel
theorem dX5_readOpened_6 : decode cX5_readOpened 6 = .ok (.aload_n 0, 1) := by decide +kernel
theorem dX5_readOpened_7 : decode cX5_readOpened 7 = .ok (.iconst 0, 1) := by decide +kernel
theorem dX5_readOpened_8 : decode cX5_readOpened 8 = .ok (.iload_n 2, 1) := by decide +kernel
theorem dX5_readOpened_9 : decode cX5_readOpened 9 = .ok (.invokevirtual 57, 3) := by decide +kernel
theorem dX5_readOpened_12 : decode cX5_readOpened 12 = .ok (.aload_n 0, 1) := by decide +kernel
theorem dX5_readOpened_13 : decode cX5_readOpened 13 = .ok (.invokevirtual 44, 3) := by decide +kernel
theorem dX5_readOpened_16 : decode cX5_readOpened 16 = .ok (.bipush 41, 2) := by decide +kernel
theorem dX5_readOpened_18 : decode cX5_readOpened 18 = .ok (.if_icmp .ne 16, 3) := by decide +kernel
theorem dX5_readOpened_21 : decode cX5_readOpened 21 = .ok (.aload_n 0, 1) := by decide +kernel
theorem dX5_readOpened_22 : decode cX5_readOpened 22 = .ok (.dup, 1) := by decide +kernel
theorem dX5_readOpened_23 : decode cX5_readOpened 23 = .ok (.getfield 32, 3) := by decide +kernel
theorem dX5_readOpened_26 : decode cX5_readOpened 26 = .ok (.iconst 1, 1) := by decide +kernel
theorem dX5_readOpened_27 : decode cX5_readOpened 27 = .ok (.iadd, 1) := by decide +kernel
theorem dX5_readOpened_28 : decode cX5_readOpened 28 = .ok (.putfield 32, 3) := by decide +kernel
theorem dX5_readOpened_31 : decode cX5_readOpened 31 = .ok (.goto 31, 3) := by decide +kernel
theorem dX5_readOpened_34 : decode cX5_readOpened 34 = .ok (.aload_n 0, 1) := by decide +kernel
theorem dX5_readOpened_35 : decode cX5_readOpened 35 = .ok (.invokevirtual 48, 3) := by decide +kernel
theorem dX5_readOpened_38 : decode cX5_readOpened 38 = .ok (.goto 24, 3) := by decide +kernel
theorem dX5_readOpened_41 : decode cX5_readOpened 41 = .ok (.aload_n 0, 1) := by decide +kernel
theorem dX5_readOpened_42 : decode cX5_readOpened 42 = .ok (.iload_n 2, 1) := by decide +kernel
theorem dX5_readOpened_43 : decode cX5_readOpened 43 = .ok (.invokevirtual 72, 3) := by decide +kernel
theorem dX5_readOpened_46 : decode cX5_readOpened 46 = .ok (.aload_n 0, 1) := by decide +kernel
theorem dX5_readOpened_47 : decode cX5_readOpened 47 = .ok (.iload_n 1, 1) := by decide +kernel
theorem dX5_readOpened_48 : decode cX5_readOpened 48 = .ok (.bipush 45, 2) := by decide +kernel
theorem dX5_readOpened_50 : decode cX5_readOpened 50 = .ok (.if_icmp .ne 8, 3) := by decide +kernel
theorem dX5_readOpened_53 : decode cX5_readOpened 53 = .ok (.bipush 126, 2) := by decide +kernel
theorem dX5_readOpened_55 : decode cX5_readOpened 55 = .ok (.goto 4, 3) := by decide +kernel
theorem dX5_readOpened_58 : decode cX5_readOpened 58 = .ok (.iload_n 1, 1) := by decide +kernel
theorem dX5_readOpened_59 : decode cX5_readOpened 59 = .ok (.invokevirtual 61, 3) := by decide +kernel
theorem dX5_readOpened_62 : decode cX5_readOpened 62 = .ok (.return_, 1) := by decide +kernel
theorem dX5_readOperand_0 : decode cX5_readOperand 0 = .ok (.aload_n 0, 1) := by decide +kernel
theorem dX5_readOperand_1 : decode cX5_readOperand 1 = .ok (.invokevirtual 44, 3) := by decide +kernel
theorem dX5_readOperand_4 : decode cX5_readOperand 4 = .ok (.istore_n 2, 1) := by decide +kernel
theorem dX5_readOperand_5 : decode cX5_readOperand 5 = .ok (.iload_n 2, 1) := by decide +kernel
theorem dX5_readOperand_6 : decode cX5_readOperand 6 = .ok (.invokestatic 75, 3) := by decide +kernel
theorem dX5_readOperand_9 : decode cX5_readOperand 9 = .ok (.ifCond .eq 10, 3) := by decide +kernel
theorem dX5_readOperand_12 : decode cX5_readOperand 12 = .ok (.aload_n 0, 1) := by decide +kernel
theorem dX5_readOperand_13 : decode cX5_readOperand 13 = .ok (.invokevirtual 79, 3) := by decide +kernel
theorem dX5_readOperand_16 : decode cX5_readOperand 16 = .ok (.goto 80, 3) := by decide +kernel
theorem dX5_readOperand_19 : decode cX5_readOperand 19 = .ok (.iload_n 2, 1) := by decide +kernel
theorem dX5_readOperand_20 : decode cX5_readOperand 20 = .ok (.invokestatic 82, 3) := by decide +kernel
theorem dX5_readOperand_23 : decode cX5_readOperand 23 = .ok (.ifCond .lt 24, 3) := by decide +kernel
theorem dX5_readOperand_26 : decode cX5_readOperand 26 = .ok (.aload_n 0, 1) := by decide +kernel
theorem dX5_readOperand_27 : decode cX5_readOperand 27 = .ok (.dup, 1) := by decide +kernel
theorem dX5_readOperand_28 : decode cX5_readOperand 28 = .ok (.getfield 32, 3) := by decide +kernel
theorem dX5_readOperand_31 : decode cX5_readOperand 31 = .ok (.iconst 1, 1) := by decide +kernel
theorem dX5_readOperand_32 : decode cX5_readOperand 32 = .ok (.iadd, 1) := by decide +kernel
theorem dX5_readOperand_33 : decode cX5_readOperand 33 = .ok (.putfield 32, 3) := by decide +kernel
theorem dX5_readOperand_36 : decode cX5_readOperand 36 = .ok (.aload_n 0, 1) := by decide +kernel
theorem dX5_readOperand_37 : decode cX5_readOperand 37 = .ok (.iload_n 2, 1) := by decide +kernel
theorem dX5_readOperand_38 : decode cX5_readOperand 38 = .ok (.invokestatic 82, 3) := by decide +kernel
theorem dX5_readOperand_41 : decode cX5_readOperand 41 = .ok (.invokevirtual 61, 3) := by decide +kernel
theorem dX5_readOperand_44 : decode cX5_readOperand 44 = .ok (.goto 52, 3) := by decide +kernel
theorem dX5_readOperand_47 : decode cX5_readOperand 47 = .ok (.iload_n 2, 1) := by decide +kernel
theorem dX5_readOperand_48 : decode cX5_readOperand 48 = .ok (.bipush 40, 2) := by decide +kernel
theorem dX5_readOperand_50 : decode cX5_readOperand 50 = .ok (.if_icmp .eq 15, 3) := by decide +kernel
theorem dX5_readOperand_53 : decode cX5_readOperand 53 = .ok (.iload_n 2, 1) := by decide +kernel
theorem dX5_readOperand_54 : decode cX5_readOperand 54 = .ok (.bipush 33, 2) := by decide +kernel
theorem dX5_readOperand_56 : decode cX5_readOperand 56 = .ok (.if_icmp .eq 9, 3) := by decide +kernel
theorem dX5_readOperand_59 : decode cX5_readOperand 59 = .ok (.iload_n 2, 1) := by decide +kernel
theorem dX5_readOperand_60 : decode cX5_readOperand 60 = .ok (.bipush 45, 2) := by decide +kernel
theorem dX5_readOperand_62 : decode cX5_readOperand 62 = .ok (.if_icmp .ne 30, 3) := by decide +kernel
theorem dX5_readOperand_65 : decode cX5_readOperand 65 = .ok (.iload_n 1, 1) := by decide +kernel
theorem dX5_readOperand_66 : decode cX5_readOperand 66 = .ok (.bipush 6, 2) := by decide +kernel
theorem dX5_readOperand_68 : decode cX5_readOperand 68 = .ok (.if_icmp .ge 24, 3) := by decide +kernel
theorem dX5_readOperand_71 : decode cX5_readOperand 71 = .ok (.aload_n 0, 1) := by decide +kernel
theorem dX5_readOperand_72 : decode cX5_readOperand 72 = .ok (.dup, 1) := by decide +kernel
theorem dX5_readOperand_73 : decode cX5_readOperand 73 = .ok (.getfield 32, 3) := by decide +kernel
theorem dX5_readOperand_76 : decode cX5_readOperand 76 = .ok (.iconst 1, 1) := by decide +kernel
theorem dX5_readOperand_77 : decode cX5_readOperand 77 = .ok (.iadd, 1) := by decide +kernel
theorem dX5_readOperand_78 : decode cX5_readOperand 78 = .ok (.putfield 32, 3) := by decide +kernel
theorem dX5_readOperand_81 : decode cX5_readOperand 81 = .ok (.aload_n 0, 1) := by decide +kernel
theorem dX5_readOperand_82 : decode cX5_readOperand 82 = .ok (.iload_n 2, 1) := by decide +kernel
theorem dX5_readOperand_83 : decode cX5_readOperand 83 = .ok (.iload_n 1, 1) := by decide +kernel
theorem dX5_readOperand_84 : decode cX5_readOperand 84 = .ok (.iconst 1, 1) := by decide +kernel
theorem dX5_readOperand_85 : decode cX5_readOperand 85 = .ok (.iadd, 1) := by decide +kernel
theorem dX5_readOperand_86 : decode cX5_readOperand 86 = .ok (.invokevirtual 85, 3) := by decide +kernel
theorem dX5_readOperand_89 : decode cX5_readOperand 89 = .ok (.goto 7, 3) := by decide +kernel
theorem dX5_readOperand_92 : decode cX5_readOperand 92 = .ok (.aload_n 0, 1) := by decide +kernel
theorem dX5_readOperand_93 : decode cX5_readOperand 93 = .ok (.invokevirtual 48, 3) := by decide +kernel
theorem dX5_readOperand_96 : decode cX5_readOperand 96 = .ok (.return_, 1) := by decide +kernel
theorem dX5_readPart_0 : decode cX5_readPart 0 = .ok (.iload_n 1, 1) := by decide +kernel
theorem dX5_readPart_1 : decode cX5_readPart 1 = .ok (.iconst 5, 1) := by decide +kernel
theorem dX5_readPart_2 : decode cX5_readPart 2 = .ok (.if_icmp .lt 11, 3) := by decide +kernel
theorem dX5_readPart_5 : decode cX5_readPart 5 = .ok (.aload_n 0, 1) := by decide +kernel
theorem dX5_readPart_6 : decode cX5_readPart 6 = .ok (.iload_n 2, 1) := by decide +kernel
theorem dX5_readPart_7 : decode cX5_readPart 7 = .ok (.invokevirtual 72, 3) := by decide +kernel
theorem dX5_readPart_10 : decode cX5_readPart 10 = .ok (.goto 9, 3) := by decide +kernel
theorem dX5_readPart_13 : decode cX5_readPart 13 = .ok (.aload_n 0, 1) := by decide +kernel
theorem dX5_readPart_14 : decode cX5_readPart 14 = .ok (.iload_n 1, 1) := by decide +kernel
theorem dX5_readPart_15 : decode cX5_readPart 15 = .ok (.iload_n 2, 1) := by decide +kernel
theorem dX5_readPart_16 : decode cX5_readPart 16 = .ok (.invokevirtual 57, 3) := by decide +kernel
theorem dX5_readPart_19 : decode cX5_readPart 19 = .ok (.return_, 1) := by decide +kernel
theorem La_readLevel_succ (N : Nat) (d : Nat) : La_readLevel N (d + 1) = La_readLevel_B N (La_readLevel N d) (La_readOpened N d) (La_readOperand N d) (La_readPart N d) := rfl
theorem La_readOpened_succ (N : Nat) (d : Nat) : La_readOpened N (d + 1) = La_readOpened_B N (La_readLevel N d) (La_readOpened N d) (La_readOperand N d) (La_readPart N d) := rfl
theorem La_readOperand_succ (N : Nat) (d : Nat) : La_readOperand N (d + 1) = La_readOperand_B N (La_readLevel N d) (La_readOpened N d) (La_readOperand N d) (La_readPart N d) := rfl
theorem La_readPart_succ (N : Nat) (d : Nat) : La_readPart N (d + 1) = La_readPart_B N (La_readLevel N d) (La_readOpened N d) (La_readOperand N d) (La_readPart N d) := rfl
section
variable {p : Program} {l : Launch} {e : Env} {s : State} {m : MethodId} {args : Array Value} {below : List Frame} {meth : Method} {c : Code} {H : Heap} {locs : List Loc} {E : Ev} {S V : St} {ls : Array Slot}
set_option maxRecDepth 20000 in
theorem w_La_readLevel_b23 {N : Nat} {d : Nat} {f_readLevel : St → Int32 → Int32 → Option St} {f_readOpened : St → Int32 → Int32 → Option St} {f_readOperand : St → Int32 → Option St} {f_readPart : St → Int32 → Int32 → Option St} {k23 : (St × Int32) → Option St} {l1 : Int32} {l2 : Int32} {l3 : Int32} {l4 : Int32} {S9 : St} (C : Cx p s m args meth c E cX5_readLevel 6 RX5 none) (hr_readLevel : ∀ {S : St} {p1 : Int32} {p2 : Int32} {S9 : St}, f_readLevel S p1 p2 = some S9 → Ct l (wX V) yX5_readLevel cX5_readLevel 6 none (d + 3) (fun E => [.ref (ea E 2), .int p1, .int p2]) S (fun E => none) S9) (hr_readOpened : ∀ {S : St} {p1 : Int32} {p2 : Int32} {S9 : St}, f_readOpened S p1 p2 = some S9 → Ct l (wX V) yX5_readOpened cX5_readOpened 3 none (d + 3) (fun E => [.ref (ea E 2), .int p1, .int p2]) S (fun E => none) S9) (hr_readOperand : ∀ {S : St} {p1 : Int32} {S9 : St}, f_readOperand S p1 = some S9 → Ct l (wX V) yX5_readOperand cX5_readOperand 3 none (d + 3) (fun E => [.ref (ea E 2), .int p1]) S (fun E => none) S9) (hr_readPart : ∀ {S : St} {p1 : Int32} {p2 : Int32} {S9 : St}, f_readPart S p1 p2 = some S9 → Ct l (wX V) yX5_readPart cX5_readPart 3 none (d + 3) (fun E => [.ref (ea E 2), .int p1, .int p2]) S (fun E => none) S9) (hk23 : ∀ x, k23 x = some S9 → ∀ (H : Heap) (locs : List Loc) (ls : Array Slot), Wd E (wX V E) s.heap x.1 H locs → lv_has ls 6 [(0, .ref (ea E 2)), (1, .int l1), (2, .int l2), (3, .int l3), (4, .int x.2)] → W p l e (rmh (d + 1 + 3)) s m args below meth c H locs 0 0 (MQ below (QW E (wX V E) (none) S9) args s 0 0 (eA E)) (F0 m 23 ls [])) (hw : Wd E (wX V E) s.heap S H locs) (hl : lv_has ls 6 [(0, .ref (ea E 2)), (1, .int l1), (2, .int l2), (3, .int l3), (4, .int l4)]) (hf : La_readLevel_b23 N f_readLevel f_readOpened f_readOperand f_readPart k23 S l1 l2 l3 l4 = some S9) : W p l e (rmh (d + 1 + 3)) s m args below meth c H locs 0 0 (MQ below (QW E (wX V E) (none) S9) args s 0 0 (eA E)) (F0 m 23 ls []) := by
  have hx := C.1
  have hb := C.2.1
  unfold La_readLevel_b23 at hf
  refine lv_iload hx hb dX5_readLevel_23 (lv_at hl 4 rfl) ?_
  refine lv_iload_n hx hb dX5_readLevel_25 rfl (lv_at hl 3 rfl) ?_
  refine lv_icmp_ge (tgt := 76) hx hb dX5_readLevel_26 (by decide) (fun q => ?_) (fun q => ?_)
  · have hf := hf_t q hf
    exact ret_vS C hw dX5_readLevel_76 hf
  · have hf := hf_f q hf
    refine lv_aload_n hx hb dX5_readLevel_29 rfl (lv_at hl 0 rfl) ?_
    obtain ⟨r1, hr, hf⟩ := hf_1 hf
    refine inv_Vi (q0 := 2) (ci := 5) (As := []) lk_X5_44 C hw rfl rfl rfl (t_La_next hr) rfl hl.1 dX5_readLevel_30 rfl (by omega) (by decide) (Nat.le_of_ble_eq_true rfl) rfl (fun H locs hw => ?_)
    obtain ⟨r2, hr, hf⟩ := hf_1 hf
    refine inv_Si (As := [.int r1]) lk_X5_68 C hw (t_La_levelOf hr) hl.1 dX5_readLevel_33 rfl (by omega) (by decide) (Nat.le_of_ble_eq_true rfl) rfl (fun H locs hw => ?_)
    refine lv_iload_n hx hb dX5_readLevel_36 rfl (lv_at hl 1 rfl) ?_
    refine lv_icmp_ne (tgt := 76) hx hb dX5_readLevel_37 (by decide) (fun q => ?_) (fun q => ?_)
    · have hf := hf_f q hf
      exact ret_vS C hw dX5_readLevel_76 hf
    · have hf := hf_t q hf
      refine lv_aload_n hx hb dX5_readLevel_40 rfl (lv_at hl 0 rfl) ?_
      obtain ⟨r3, hr, hf⟩ := hf_1 hf
      refine inv_Vi (q0 := 2) (ci := 5) (As := []) lk_X5_44 C hw rfl rfl rfl (t_La_next hr) rfl hl.1 dX5_readLevel_41 rfl (by omega) (by decide) (Nat.le_of_ble_eq_true rfl) rfl (fun H locs hw => ?_)
      refine lv_istore (lv' := [(5, .int r3), (0, .ref (ea E 2)), (1, .int l1), (2, .int l2), (3, .int l3), (4, .int l4)]) hx hb dX5_readLevel_44 hl (by decide) rfl (fun ls hl => ?_)
      refine lv_aload_n hx hb dX5_readLevel_46 rfl (lv_at hl 1 rfl) ?_
      refine lv_dup hx hb dX5_readLevel_47 rfl ?_
      refine get_2_8 C hw q_183 dX5_readLevel_48 ?_
      refine lv_iconst (v := 1) hx hb dX5_readLevel_51 kc_1 ?_
      refine lv_iadd hx hb dX5_readLevel_52 ?_
      refine put_2_8 C hw q_183 dX5_readLevel_53 (fun H locs hw => ?_)
      refine nm_S hf hw (fun S4 hf hw => ?_)
      refine lv_aload_n hx hb dX5_readLevel_56 rfl (lv_at hl 1 rfl) ?_
      refine lv_iload_n hx hb dX5_readLevel_57 rfl (lv_at hl 2 rfl) ?_
      refine lv_iconst (v := 1) hx hb dX5_readLevel_58 kc_1 ?_
      refine lv_iadd hx hb dX5_readLevel_59 ?_
      refine lv_iload_n hx hb dX5_readLevel_60 rfl (lv_at hl 3 rfl) ?_
      obtain ⟨S5, hr, hf⟩ := hf_1 hf
      refine inv_Vv (q0 := 2) (ci := 5) (As := [.int (l1 + (1 : Int32)), .int l2]) lk_X5_65 C hw rfl rfl rfl (hr_readPart hr) rfl hl.1 dX5_readLevel_61 rfl (by omega) (by decide) (Nat.le_of_ble_eq_true rfl) rfl (fun H locs hw => ?_)
      refine lv_aload_n hx hb dX5_readLevel_64 rfl (lv_at hl 1 rfl) ?_
      refine lv_iload hx hb dX5_readLevel_65 (lv_at hl 0 rfl) ?_
      obtain ⟨S6, hr, hf⟩ := hf_1 hf
      refine inv_Vv (q0 := 2) (ci := 5) (As := [.int r3]) lk_X5_61 C hw rfl rfl rfl (t_La_write hr) rfl hl.1 dX5_readLevel_67 rfl (by omega) (by decide) (Nat.le_of_ble_eq_true rfl) rfl (fun H locs hw => ?_)
      obtain ⟨x7, ex7, hf⟩ := nme hf
      refine lv_iinc (v := x7) (lv' := [(4, .int x7), (5, .int r3), (0, .ref (ea E 2)), (1, .int l1), (2, .int l2), (3, .int l3)]) hx hb dX5_readLevel_70 hl (k := 5) rfl (ki_1 ex7) (by decide) rfl (fun ls hl => ?_)
      refine lv_goto (tgt := 23) hx hb dX5_readLevel_73 (by decide) ?_
      exact hk23 _ hf _ _ _ hw (lv_sub hl [2, 3, 4, 5, 0] rfl)
theorem w_La_readLevel_L23 {N : Nat} {d : Nat} {f_readLevel : St → Int32 → Int32 → Option St} {f_readOpened : St → Int32 → Int32 → Option St} {f_readOperand : St → Int32 → Option St} {f_readPart : St → Int32 → Int32 → Option St} {l1 : Int32} {l2 : Int32} {l3 : Int32} {S9 : St} (C : Cx p s m args meth c E cX5_readLevel 6 RX5 none) (hr_readLevel : ∀ {S : St} {p1 : Int32} {p2 : Int32} {S9 : St}, f_readLevel S p1 p2 = some S9 → Ct l (wX V) yX5_readLevel cX5_readLevel 6 none (d + 3) (fun E => [.ref (ea E 2), .int p1, .int p2]) S (fun E => none) S9) (hr_readOpened : ∀ {S : St} {p1 : Int32} {p2 : Int32} {S9 : St}, f_readOpened S p1 p2 = some S9 → Ct l (wX V) yX5_readOpened cX5_readOpened 3 none (d + 3) (fun E => [.ref (ea E 2), .int p1, .int p2]) S (fun E => none) S9) (hr_readOperand : ∀ {S : St} {p1 : Int32} {S9 : St}, f_readOperand S p1 = some S9 → Ct l (wX V) yX5_readOperand cX5_readOperand 3 none (d + 3) (fun E => [.ref (ea E 2), .int p1]) S (fun E => none) S9) (hr_readPart : ∀ {S : St} {p1 : Int32} {p2 : Int32} {S9 : St}, f_readPart S p1 p2 = some S9 → Ct l (wX V) yX5_readPart cX5_readPart 3 none (d + 3) (fun E => [.ref (ea E 2), .int p1, .int p2]) S (fun E => none) S9) : ∀ x, La_readLevel_L23 N f_readLevel f_readOpened f_readOperand f_readPart l1 l2 l3 x = some S9 → ∀ (H : Heap) (locs : List Loc) (ls : Array Slot), Wd E (wX V E) s.heap x.1 H locs → lv_has ls 6 [(0, .ref (ea E 2)), (1, .int l1), (2, .int l2), (3, .int l3), (4, .int x.2)] → W p l e (rmh (d + 1 + 3)) s m args below meth c H locs 0 0 (MQ below (QW E (wX V E) (none) S9) args s 0 0 (eA E)) (F0 m 23 ls []) :=
  lp_W (fun k x hk hf H locs ls hw hl => w_La_readLevel_b23 C hr_readLevel hr_readOpened hr_readOperand hr_readPart hk hw hl hf) N
set_option maxRecDepth 20000 in
theorem w_La_readLevel_B {N : Nat} {d : Nat} {f_readLevel : St → Int32 → Int32 → Option St} {f_readOpened : St → Int32 → Int32 → Option St} {f_readOperand : St → Int32 → Option St} {f_readPart : St → Int32 → Int32 → Option St} {p1 : Int32} {p2 : Int32} {S9 : St} (C : Cx p s m args meth c E cX5_readLevel 6 RX5 none) (hr_readLevel : ∀ {S : St} {p1 : Int32} {p2 : Int32} {S9 : St}, f_readLevel S p1 p2 = some S9 → Ct l (wX V) yX5_readLevel cX5_readLevel 6 none (d + 3) (fun E => [.ref (ea E 2), .int p1, .int p2]) S (fun E => none) S9) (hr_readOpened : ∀ {S : St} {p1 : Int32} {p2 : Int32} {S9 : St}, f_readOpened S p1 p2 = some S9 → Ct l (wX V) yX5_readOpened cX5_readOpened 3 none (d + 3) (fun E => [.ref (ea E 2), .int p1, .int p2]) S (fun E => none) S9) (hr_readOperand : ∀ {S : St} {p1 : Int32} {S9 : St}, f_readOperand S p1 = some S9 → Ct l (wX V) yX5_readOperand cX5_readOperand 3 none (d + 3) (fun E => [.ref (ea E 2), .int p1]) S (fun E => none) S9) (hr_readPart : ∀ {S : St} {p1 : Int32} {p2 : Int32} {S9 : St}, f_readPart S p1 p2 = some S9 → Ct l (wX V) yX5_readPart cX5_readPart 3 none (d + 3) (fun E => [.ref (ea E 2), .int p1, .int p2]) S (fun E => none) S9) (hw : Wd E (wX V E) s.heap S H locs) (hl : lv_has ls 6 [(0, .ref (ea E 2)), (1, .int p1), (2, .int p2)]) (hf : La_readLevel_B N f_readLevel f_readOpened f_readOperand f_readPart S p1 p2 = some S9) : W p l e (rmh (d + 1 + 3)) s m args below meth c H locs 0 0 (MQ below (QW E (wX V E) (none) S9) args s 0 0 (eA E)) (F0 m 0 ls []) := by
  have hx := C.1
  have hb := C.2.1
  unfold La_readLevel_B at hf
  refine lv_aload_n hx hb dX5_readLevel_0 rfl (lv_at hl 0 rfl) ?_
  refine lv_iload_n hx hb dX5_readLevel_1 rfl (lv_at hl 1 rfl) ?_
  refine lv_iconst (v := 1) hx hb dX5_readLevel_2 kc_1 ?_
  refine lv_iadd hx hb dX5_readLevel_3 ?_
  refine lv_iload_n hx hb dX5_readLevel_4 rfl (lv_at hl 2 rfl) ?_
  obtain ⟨S1, hr, hf⟩ := hf_1 hf
  refine inv_Vv (q0 := 2) (ci := 5) (As := [.int (p1 + (1 : Int32)), .int p2]) lk_X5_65 C hw rfl rfl rfl (hr_readPart hr) rfl hl.1 dX5_readLevel_5 rfl (by omega) (by decide) (Nat.le_of_ble_eq_true rfl) rfl (fun H locs hw => ?_)
  refine lv_iload_n hx hb dX5_readLevel_8 rfl (lv_at hl 1 rfl) ?_
  refine lv_iconst (v := 2) hx hb dX5_readLevel_9 kc_2 ?_
  refine lv_icmp_ne (tgt := 17) hx hb dX5_readLevel_10 (by decide) (fun q => ?_) (fun q => ?_)
  · have hf := hf_f q hf
    refine lv_bipush (v := 120) hx hb dX5_readLevel_17 kb_120 ?_
    refine lv_istore_n (lv' := [(3, .int (120 : Int32)), (0, .ref (ea E 2)), (1, .int p1), (2, .int p2)]) hx hb dX5_readLevel_19 rfl hl (by decide) rfl (fun ls hl => ?_)
    refine lv_iconst (v := 0) hx hb dX5_readLevel_20 kc_0 ?_
    refine lv_istore (lv' := [(4, .int (0 : Int32)), (3, .int (120 : Int32)), (0, .ref (ea E 2)), (1, .int p1), (2, .int p2)]) hx hb dX5_readLevel_21 hl (by decide) rfl (fun ls hl => ?_)
    exact w_La_readLevel_L23 C hr_readLevel hr_readOpened hr_readOperand hr_readPart _ hf _ _ _ hw (lv_sub hl [2, 3, 4, 1, 0] rfl)
  · have hf := hf_t q hf
    refine lv_iconst (v := 1) hx hb dX5_readLevel_13 kc_1 ?_
    refine lv_goto (tgt := 19) hx hb dX5_readLevel_14 (by decide) ?_
    refine lv_istore_n (lv' := [(3, .int (1 : Int32)), (0, .ref (ea E 2)), (1, .int p1), (2, .int p2)]) hx hb dX5_readLevel_19 rfl hl (by decide) rfl (fun ls hl => ?_)
    refine lv_iconst (v := 0) hx hb dX5_readLevel_20 kc_0 ?_
    refine lv_istore (lv' := [(4, .int (0 : Int32)), (3, .int (1 : Int32)), (0, .ref (ea E 2)), (1, .int p1), (2, .int p2)]) hx hb dX5_readLevel_21 hl (by decide) rfl (fun ls hl => ?_)
    exact w_La_readLevel_L23 C hr_readLevel hr_readOpened hr_readOperand hr_readPart _ hf _ _ _ hw (lv_sub hl [2, 3, 4, 1, 0] rfl)
set_option maxRecDepth 20000 in
theorem w_La_readOpened_B {N : Nat} {d : Nat} {f_readLevel : St → Int32 → Int32 → Option St} {f_readOpened : St → Int32 → Int32 → Option St} {f_readOperand : St → Int32 → Option St} {f_readPart : St → Int32 → Int32 → Option St} {p1 : Int32} {p2 : Int32} {S9 : St} (C : Cx p s m args meth c E cX5_readOpened 3 RX5 none) (hr_readLevel : ∀ {S : St} {p1 : Int32} {p2 : Int32} {S9 : St}, f_readLevel S p1 p2 = some S9 → Ct l (wX V) yX5_readLevel cX5_readLevel 6 none (d + 3) (fun E => [.ref (ea E 2), .int p1, .int p2]) S (fun E => none) S9) (hr_readOpened : ∀ {S : St} {p1 : Int32} {p2 : Int32} {S9 : St}, f_readOpened S p1 p2 = some S9 → Ct l (wX V) yX5_readOpened cX5_readOpened 3 none (d + 3) (fun E => [.ref (ea E 2), .int p1, .int p2]) S (fun E => none) S9) (hr_readOperand : ∀ {S : St} {p1 : Int32} {S9 : St}, f_readOperand S p1 = some S9 → Ct l (wX V) yX5_readOperand cX5_readOperand 3 none (d + 3) (fun E => [.ref (ea E 2), .int p1]) S (fun E => none) S9) (hr_readPart : ∀ {S : St} {p1 : Int32} {p2 : Int32} {S9 : St}, f_readPart S p1 p2 = some S9 → Ct l (wX V) yX5_readPart cX5_readPart 3 none (d + 3) (fun E => [.ref (ea E 2), .int p1, .int p2]) S (fun E => none) S9) (hw : Wd E (wX V E) s.heap S H locs) (hl : lv_has ls 3 [(0, .ref (ea E 2)), (1, .int p1), (2, .int p2)]) (hf : La_readOpened_B N f_readLevel f_readOpened f_readOperand f_readPart S p1 p2 = some S9) : W p l e (rmh (d + 1 + 3)) s m args below meth c H locs 0 0 (MQ below (QW E (wX V E) (none) S9) args s 0 0 (eA E)) (F0 m 0 ls []) := by
  have hx := C.1
  have hb := C.2.1
  unfold La_readOpened_B at hf
  refine lv_iload_n hx hb dX5_readOpened_0 rfl (lv_at hl 1 rfl) ?_
  refine lv_bipush (v := 40) hx hb dX5_readOpened_1 kb_40 ?_
  refine lv_icmp_ne (tgt := 41) hx hb dX5_readOpened_3 (by decide) (fun q => ?_) (fun q => ?_)
  · have hf := hf_f q hf
    refine lv_aload_n hx hb dX5_readOpened_41 rfl (lv_at hl 0 rfl) ?_
    refine lv_iload_n hx hb dX5_readOpened_42 rfl (lv_at hl 2 rfl) ?_
    obtain ⟨S1, hr, hf⟩ := hf_1 hf
    refine inv_Vv (q0 := 2) (ci := 5) (As := [.int p2]) lk_X5_72 C hw rfl rfl rfl (hr_readOperand hr) rfl hl.1 dX5_readOpened_43 rfl (by omega) (by decide) (Nat.le_of_ble_eq_true rfl) rfl (fun H locs hw => ?_)
    refine lv_aload_n hx hb dX5_readOpened_46 rfl (lv_at hl 0 rfl) ?_
    refine lv_iload_n hx hb dX5_readOpened_47 rfl (lv_at hl 1 rfl) ?_
    refine lv_bipush (v := 45) hx hb dX5_readOpened_48 kb_45 ?_
    refine lv_icmp_ne (tgt := 58) hx hb dX5_readOpened_50 (by decide) (fun q => ?_) (fun q => ?_)
    · have hf := hf_f q hf
      refine lv_iload_n hx hb dX5_readOpened_58 rfl (lv_at hl 1 rfl) ?_
      obtain ⟨S2, hr, hf⟩ := hf_1 hf
      refine inv_Vv (q0 := 2) (ci := 5) (As := [.int p1]) lk_X5_61 C hw rfl rfl rfl (t_La_write hr) rfl hl.1 dX5_readOpened_59 rfl (by omega) (by decide) (Nat.le_of_ble_eq_true rfl) rfl (fun H locs hw => ?_)
      exact ret_vS C hw dX5_readOpened_62 hf
    · have hf := hf_t q hf
      refine lv_bipush (v := 126) hx hb dX5_readOpened_53 kb_126 ?_
      refine lv_goto (tgt := 59) hx hb dX5_readOpened_55 (by decide) ?_
      obtain ⟨S3, hr, hf⟩ := hf_1 hf
      refine inv_Vv (q0 := 2) (ci := 5) (As := [.int (126 : Int32)]) lk_X5_61 C hw rfl rfl rfl (t_La_write hr) rfl hl.1 dX5_readOpened_59 rfl (by omega) (by decide) (Nat.le_of_ble_eq_true rfl) rfl (fun H locs hw => ?_)
      exact ret_vS C hw dX5_readOpened_62 hf
  · have hf := hf_t q hf
    refine lv_aload_n hx hb dX5_readOpened_6 rfl (lv_at hl 0 rfl) ?_
    refine lv_iconst (v := 0) hx hb dX5_readOpened_7 kc_0 ?_
    refine lv_iload_n hx hb dX5_readOpened_8 rfl (lv_at hl 2 rfl) ?_
    obtain ⟨S4, hr, hf⟩ := hf_1 hf
    refine inv_Vv (q0 := 2) (ci := 5) (As := [.int (0 : Int32), .int p2]) lk_X5_57 C hw rfl rfl rfl (hr_readLevel hr) rfl hl.1 dX5_readOpened_9 rfl (by omega) (by decide) (Nat.le_of_ble_eq_true rfl) rfl (fun H locs hw => ?_)
    refine lv_aload_n hx hb dX5_readOpened_12 rfl (lv_at hl 0 rfl) ?_
    obtain ⟨r5, hr, hf⟩ := hf_1 hf
    refine inv_Vi (q0 := 2) (ci := 5) (As := []) lk_X5_44 C hw rfl rfl rfl (t_La_next hr) rfl hl.1 dX5_readOpened_13 rfl (by omega) (by decide) (Nat.le_of_ble_eq_true rfl) rfl (fun H locs hw => ?_)
    refine lv_bipush (v := 41) hx hb dX5_readOpened_16 kb_41 ?_
    refine lv_icmp_ne (tgt := 34) hx hb dX5_readOpened_18 (by decide) (fun q => ?_) (fun q => ?_)
    · have hf := hf_f q hf
      refine lv_aload_n hx hb dX5_readOpened_34 rfl (lv_at hl 0 rfl) ?_
      obtain ⟨S6, hr, hf⟩ := hf_1 hf
      refine inv_Vv (q0 := 2) (ci := 5) (As := []) lk_X5_48 C hw rfl rfl rfl (t_La_fail hr) rfl hl.1 dX5_readOpened_35 rfl (by omega) (by decide) (Nat.le_of_ble_eq_true rfl) rfl (fun H locs hw => ?_)
      refine lv_goto (tgt := 62) hx hb dX5_readOpened_38 (by decide) ?_
      exact ret_vS C hw dX5_readOpened_62 hf
    · have hf := hf_t q hf
      refine lv_aload_n hx hb dX5_readOpened_21 rfl (lv_at hl 0 rfl) ?_
      refine lv_dup hx hb dX5_readOpened_22 rfl ?_
      refine get_2_8 C hw q_183 dX5_readOpened_23 ?_
      refine lv_iconst (v := 1) hx hb dX5_readOpened_26 kc_1 ?_
      refine lv_iadd hx hb dX5_readOpened_27 ?_
      refine put_2_8 C hw q_183 dX5_readOpened_28 (fun H locs hw => ?_)
      refine nm_S hf hw (fun S7 hf hw => ?_)
      refine lv_goto (tgt := 62) hx hb dX5_readOpened_31 (by decide) ?_
      exact ret_vS C hw dX5_readOpened_62 hf
set_option maxRecDepth 20000 in
theorem w_La_readOperand_b65 {N : Nat} {d : Nat} {f_readLevel : St → Int32 → Int32 → Option St} {f_readOpened : St → Int32 → Int32 → Option St} {f_readOperand : St → Int32 → Option St} {f_readPart : St → Int32 → Int32 → Option St} {l1 : Int32} {l2 : Int32} {S9 : St} (C : Cx p s m args meth c E cX5_readOperand 3 RX5 none) (hr_readLevel : ∀ {S : St} {p1 : Int32} {p2 : Int32} {S9 : St}, f_readLevel S p1 p2 = some S9 → Ct l (wX V) yX5_readLevel cX5_readLevel 6 none (d + 3) (fun E => [.ref (ea E 2), .int p1, .int p2]) S (fun E => none) S9) (hr_readOpened : ∀ {S : St} {p1 : Int32} {p2 : Int32} {S9 : St}, f_readOpened S p1 p2 = some S9 → Ct l (wX V) yX5_readOpened cX5_readOpened 3 none (d + 3) (fun E => [.ref (ea E 2), .int p1, .int p2]) S (fun E => none) S9) (hr_readOperand : ∀ {S : St} {p1 : Int32} {S9 : St}, f_readOperand S p1 = some S9 → Ct l (wX V) yX5_readOperand cX5_readOperand 3 none (d + 3) (fun E => [.ref (ea E 2), .int p1]) S (fun E => none) S9) (hr_readPart : ∀ {S : St} {p1 : Int32} {p2 : Int32} {S9 : St}, f_readPart S p1 p2 = some S9 → Ct l (wX V) yX5_readPart cX5_readPart 3 none (d + 3) (fun E => [.ref (ea E 2), .int p1, .int p2]) S (fun E => none) S9) (hw : Wd E (wX V E) s.heap S H locs) (hl : lv_has ls 3 [(0, .ref (ea E 2)), (1, .int l1), (2, .int l2)]) (hf : La_readOperand_b65 N f_readLevel f_readOpened f_readOperand f_readPart S l1 l2 = some S9) : W p l e (rmh (d + 1 + 3)) s m args below meth c H locs 0 0 (MQ below (QW E (wX V E) (none) S9) args s 0 0 (eA E)) (F0 m 65 ls []) := by
  have hx := C.1
  have hb := C.2.1
  unfold La_readOperand_b65 at hf
  refine lv_iload_n hx hb dX5_readOperand_65 rfl (lv_at hl 1 rfl) ?_
  refine lv_bipush (v := 6) hx hb dX5_readOperand_66 kb_6 ?_
  refine lv_icmp_ge (tgt := 92) hx hb dX5_readOperand_68 (by decide) (fun q => ?_) (fun q => ?_)
  · have hf := hf_t q hf
    refine lv_aload_n hx hb dX5_readOperand_92 rfl (lv_at hl 0 rfl) ?_
    obtain ⟨S1, hr, hf⟩ := hf_1 hf
    refine inv_Vv (q0 := 2) (ci := 5) (As := []) lk_X5_48 C hw rfl rfl rfl (t_La_fail hr) rfl hl.1 dX5_readOperand_93 rfl (by omega) (by decide) (Nat.le_of_ble_eq_true rfl) rfl (fun H locs hw => ?_)
    exact ret_vS C hw dX5_readOperand_96 hf
  · have hf := hf_f q hf
    refine lv_aload_n hx hb dX5_readOperand_71 rfl (lv_at hl 0 rfl) ?_
    refine lv_dup hx hb dX5_readOperand_72 rfl ?_
    refine get_2_8 C hw q_183 dX5_readOperand_73 ?_
    refine lv_iconst (v := 1) hx hb dX5_readOperand_76 kc_1 ?_
    refine lv_iadd hx hb dX5_readOperand_77 ?_
    refine put_2_8 C hw q_183 dX5_readOperand_78 (fun H locs hw => ?_)
    refine nm_S hf hw (fun S2 hf hw => ?_)
    refine lv_aload_n hx hb dX5_readOperand_81 rfl (lv_at hl 0 rfl) ?_
    refine lv_iload_n hx hb dX5_readOperand_82 rfl (lv_at hl 2 rfl) ?_
    refine lv_iload_n hx hb dX5_readOperand_83 rfl (lv_at hl 1 rfl) ?_
    refine lv_iconst (v := 1) hx hb dX5_readOperand_84 kc_1 ?_
    refine lv_iadd hx hb dX5_readOperand_85 ?_
    obtain ⟨S3, hr, hf⟩ := hf_1 hf
    refine inv_Vv (q0 := 2) (ci := 5) (As := [.int l2, .int (l1 + (1 : Int32))]) lk_X5_85 C hw rfl rfl rfl (hr_readOpened hr) rfl hl.1 dX5_readOperand_86 rfl (by omega) (by decide) (Nat.le_of_ble_eq_true rfl) rfl (fun H locs hw => ?_)
    refine lv_goto (tgt := 96) hx hb dX5_readOperand_89 (by decide) ?_
    exact ret_vS C hw dX5_readOperand_96 hf
set_option maxRecDepth 20000 in
theorem w_La_readOperand_B {N : Nat} {d : Nat} {f_readLevel : St → Int32 → Int32 → Option St} {f_readOpened : St → Int32 → Int32 → Option St} {f_readOperand : St → Int32 → Option St} {f_readPart : St → Int32 → Int32 → Option St} {p1 : Int32} {S9 : St} (C : Cx p s m args meth c E cX5_readOperand 3 RX5 none) (hr_readLevel : ∀ {S : St} {p1 : Int32} {p2 : Int32} {S9 : St}, f_readLevel S p1 p2 = some S9 → Ct l (wX V) yX5_readLevel cX5_readLevel 6 none (d + 3) (fun E => [.ref (ea E 2), .int p1, .int p2]) S (fun E => none) S9) (hr_readOpened : ∀ {S : St} {p1 : Int32} {p2 : Int32} {S9 : St}, f_readOpened S p1 p2 = some S9 → Ct l (wX V) yX5_readOpened cX5_readOpened 3 none (d + 3) (fun E => [.ref (ea E 2), .int p1, .int p2]) S (fun E => none) S9) (hr_readOperand : ∀ {S : St} {p1 : Int32} {S9 : St}, f_readOperand S p1 = some S9 → Ct l (wX V) yX5_readOperand cX5_readOperand 3 none (d + 3) (fun E => [.ref (ea E 2), .int p1]) S (fun E => none) S9) (hr_readPart : ∀ {S : St} {p1 : Int32} {p2 : Int32} {S9 : St}, f_readPart S p1 p2 = some S9 → Ct l (wX V) yX5_readPart cX5_readPart 3 none (d + 3) (fun E => [.ref (ea E 2), .int p1, .int p2]) S (fun E => none) S9) (hw : Wd E (wX V E) s.heap S H locs) (hl : lv_has ls 3 [(0, .ref (ea E 2)), (1, .int p1)]) (hf : La_readOperand_B N f_readLevel f_readOpened f_readOperand f_readPart S p1 = some S9) : W p l e (rmh (d + 1 + 3)) s m args below meth c H locs 0 0 (MQ below (QW E (wX V E) (none) S9) args s 0 0 (eA E)) (F0 m 0 ls []) := by
  have hx := C.1
  have hb := C.2.1
  unfold La_readOperand_B at hf
  refine lv_aload_n hx hb dX5_readOperand_0 rfl (lv_at hl 0 rfl) ?_
  obtain ⟨r1, hr, hf⟩ := hf_1 hf
  refine inv_Vi (q0 := 2) (ci := 5) (As := []) lk_X5_44 C hw rfl rfl rfl (t_La_next hr) rfl hl.1 dX5_readOperand_1 rfl (by omega) (by decide) (Nat.le_of_ble_eq_true rfl) rfl (fun H locs hw => ?_)
  refine lv_istore_n (lv' := [(2, .int r1), (0, .ref (ea E 2)), (1, .int p1)]) hx hb dX5_readOperand_4 rfl hl (by decide) rfl (fun ls hl => ?_)
  refine lv_iload_n hx hb dX5_readOperand_5 rfl (lv_at hl 0 rfl) ?_
  obtain ⟨r2, hr, hf⟩ := hf_1 hf
  refine inv_Si (As := [.int r1]) lk_X5_75 C hw (t_La_isDigit hr) hl.1 dX5_readOperand_6 rfl (by omega) (by decide) (Nat.le_of_ble_eq_true rfl) rfl (fun H locs hw => ?_)
  refine lv_if_eq (tgt := 19) hx hb dX5_readOperand_9 (by decide) (fun q => ?_) (fun q => ?_)
  · have hf := hf_t q hf
    refine lv_iload_n hx hb dX5_readOperand_19 rfl (lv_at hl 0 rfl) ?_
    obtain ⟨r3, hr, hf⟩ := hf_1 hf
    refine inv_Si (As := [.int r1]) lk_X5_82 C hw (t_La_nameOf hr) hl.1 dX5_readOperand_20 rfl (by omega) (by decide) (Nat.le_of_ble_eq_true rfl) rfl (fun H locs hw => ?_)
    refine lv_if_lt (tgt := 47) hx hb dX5_readOperand_23 (by decide) (fun q => ?_) (fun q => ?_)
    · have hf := hf_t q hf
      refine lv_iload_n hx hb dX5_readOperand_47 rfl (lv_at hl 0 rfl) ?_
      refine lv_bipush (v := 40) hx hb dX5_readOperand_48 kb_40 ?_
      refine lv_icmp_eq (tgt := 65) hx hb dX5_readOperand_50 (by decide) (fun q => ?_) (fun q => ?_)
      · have hf := hf_t q hf
        exact w_La_readOperand_b65 C hr_readLevel hr_readOpened hr_readOperand hr_readPart hw (lv_sub hl [1, 2, 0] rfl) hf
      · have hf := hf_f q hf
        refine lv_iload_n hx hb dX5_readOperand_53 rfl (lv_at hl 0 rfl) ?_
        refine lv_bipush (v := 33) hx hb dX5_readOperand_54 kb_33 ?_
        refine lv_icmp_eq (tgt := 65) hx hb dX5_readOperand_56 (by decide) (fun q => ?_) (fun q => ?_)
        · have hf := hf_t q hf
          exact w_La_readOperand_b65 C hr_readLevel hr_readOpened hr_readOperand hr_readPart hw (lv_sub hl [1, 2, 0] rfl) hf
        · have hf := hf_f q hf
          refine lv_iload_n hx hb dX5_readOperand_59 rfl (lv_at hl 0 rfl) ?_
          refine lv_bipush (v := 45) hx hb dX5_readOperand_60 kb_45 ?_
          refine lv_icmp_ne (tgt := 92) hx hb dX5_readOperand_62 (by decide) (fun q => ?_) (fun q => ?_)
          · have hf := hf_f q hf
            refine lv_aload_n hx hb dX5_readOperand_92 rfl (lv_at hl 1 rfl) ?_
            obtain ⟨S4, hr, hf⟩ := hf_1 hf
            refine inv_Vv (q0 := 2) (ci := 5) (As := []) lk_X5_48 C hw rfl rfl rfl (t_La_fail hr) rfl hl.1 dX5_readOperand_93 rfl (by omega) (by decide) (Nat.le_of_ble_eq_true rfl) rfl (fun H locs hw => ?_)
            exact ret_vS C hw dX5_readOperand_96 hf
          · have hf := hf_t q hf
            exact w_La_readOperand_b65 C hr_readLevel hr_readOpened hr_readOperand hr_readPart hw (lv_sub hl [1, 2, 0] rfl) hf
    · have hf := hf_f q hf
      refine lv_aload_n hx hb dX5_readOperand_26 rfl (lv_at hl 1 rfl) ?_
      refine lv_dup hx hb dX5_readOperand_27 rfl ?_
      refine get_2_8 C hw q_183 dX5_readOperand_28 ?_
      refine lv_iconst (v := 1) hx hb dX5_readOperand_31 kc_1 ?_
      refine lv_iadd hx hb dX5_readOperand_32 ?_
      refine put_2_8 C hw q_183 dX5_readOperand_33 (fun H locs hw => ?_)
      refine nm_S hf hw (fun S5 hf hw => ?_)
      refine lv_aload_n hx hb dX5_readOperand_36 rfl (lv_at hl 1 rfl) ?_
      refine lv_iload_n hx hb dX5_readOperand_37 rfl (lv_at hl 0 rfl) ?_
      obtain ⟨r6, hr, hf⟩ := hf_1 hf
      refine inv_Si (As := [.int r1]) lk_X5_82 C hw (t_La_nameOf hr) hl.1 dX5_readOperand_38 rfl (by omega) (by decide) (Nat.le_of_ble_eq_true rfl) rfl (fun H locs hw => ?_)
      obtain ⟨S7, hr, hf⟩ := hf_1 hf
      refine inv_Vv (q0 := 2) (ci := 5) (As := [.int r6]) lk_X5_61 C hw rfl rfl rfl (t_La_write hr) rfl hl.1 dX5_readOperand_41 rfl (by omega) (by decide) (Nat.le_of_ble_eq_true rfl) rfl (fun H locs hw => ?_)
      refine lv_goto (tgt := 96) hx hb dX5_readOperand_44 (by decide) ?_
      exact ret_vS C hw dX5_readOperand_96 hf
  · have hf := hf_f q hf
    refine lv_aload_n hx hb dX5_readOperand_12 rfl (lv_at hl 1 rfl) ?_
    obtain ⟨S8, hr, hf⟩ := hf_1 hf
    refine inv_Vv (q0 := 2) (ci := 5) (As := []) lk_X5_79 C hw rfl rfl rfl (t_La_readNumber hr) rfl hl.1 dX5_readOperand_13 rfl (by omega) (by decide) (Nat.le_of_ble_eq_true rfl) rfl (fun H locs hw => ?_)
    refine lv_goto (tgt := 96) hx hb dX5_readOperand_16 (by decide) ?_
    exact ret_vS C hw dX5_readOperand_96 hf
set_option maxRecDepth 20000 in
theorem w_La_readPart_B {N : Nat} {d : Nat} {f_readLevel : St → Int32 → Int32 → Option St} {f_readOpened : St → Int32 → Int32 → Option St} {f_readOperand : St → Int32 → Option St} {f_readPart : St → Int32 → Int32 → Option St} {p1 : Int32} {p2 : Int32} {S9 : St} (C : Cx p s m args meth c E cX5_readPart 3 RX5 none) (hr_readLevel : ∀ {S : St} {p1 : Int32} {p2 : Int32} {S9 : St}, f_readLevel S p1 p2 = some S9 → Ct l (wX V) yX5_readLevel cX5_readLevel 6 none (d + 3) (fun E => [.ref (ea E 2), .int p1, .int p2]) S (fun E => none) S9) (hr_readOpened : ∀ {S : St} {p1 : Int32} {p2 : Int32} {S9 : St}, f_readOpened S p1 p2 = some S9 → Ct l (wX V) yX5_readOpened cX5_readOpened 3 none (d + 3) (fun E => [.ref (ea E 2), .int p1, .int p2]) S (fun E => none) S9) (hr_readOperand : ∀ {S : St} {p1 : Int32} {S9 : St}, f_readOperand S p1 = some S9 → Ct l (wX V) yX5_readOperand cX5_readOperand 3 none (d + 3) (fun E => [.ref (ea E 2), .int p1]) S (fun E => none) S9) (hr_readPart : ∀ {S : St} {p1 : Int32} {p2 : Int32} {S9 : St}, f_readPart S p1 p2 = some S9 → Ct l (wX V) yX5_readPart cX5_readPart 3 none (d + 3) (fun E => [.ref (ea E 2), .int p1, .int p2]) S (fun E => none) S9) (hw : Wd E (wX V E) s.heap S H locs) (hl : lv_has ls 3 [(0, .ref (ea E 2)), (1, .int p1), (2, .int p2)]) (hf : La_readPart_B N f_readLevel f_readOpened f_readOperand f_readPart S p1 p2 = some S9) : W p l e (rmh (d + 1 + 3)) s m args below meth c H locs 0 0 (MQ below (QW E (wX V E) (none) S9) args s 0 0 (eA E)) (F0 m 0 ls []) := by
  have hx := C.1
  have hb := C.2.1
  unfold La_readPart_B at hf
  refine lv_iload_n hx hb dX5_readPart_0 rfl (lv_at hl 1 rfl) ?_
  refine lv_iconst (v := 5) hx hb dX5_readPart_1 kc_5 ?_
  refine lv_icmp_lt (tgt := 13) hx hb dX5_readPart_2 (by decide) (fun q => ?_) (fun q => ?_)
  · have hf := hf_t q hf
    refine lv_aload_n hx hb dX5_readPart_13 rfl (lv_at hl 0 rfl) ?_
    refine lv_iload_n hx hb dX5_readPart_14 rfl (lv_at hl 1 rfl) ?_
    refine lv_iload_n hx hb dX5_readPart_15 rfl (lv_at hl 2 rfl) ?_
    obtain ⟨S1, hr, hf⟩ := hf_1 hf
    refine inv_Vv (q0 := 2) (ci := 5) (As := [.int p1, .int p2]) lk_X5_57 C hw rfl rfl rfl (hr_readLevel hr) rfl hl.1 dX5_readPart_16 rfl (by omega) (by decide) (Nat.le_of_ble_eq_true rfl) rfl (fun H locs hw => ?_)
    exact ret_vS C hw dX5_readPart_19 hf
  · have hf := hf_f q hf
    refine lv_aload_n hx hb dX5_readPart_5 rfl (lv_at hl 0 rfl) ?_
    refine lv_iload_n hx hb dX5_readPart_6 rfl (lv_at hl 2 rfl) ?_
    obtain ⟨S2, hr, hf⟩ := hf_1 hf
    refine inv_Vv (q0 := 2) (ci := 5) (As := [.int p2]) lk_X5_72 C hw rfl rfl rfl (hr_readOperand hr) rfl hl.1 dX5_readPart_7 rfl (by omega) (by decide) (Nat.le_of_ble_eq_true rfl) rfl (fun H locs hw => ?_)
    refine lv_goto (tgt := 19) hx hb dX5_readPart_10 (by decide) ?_
    exact ret_vS C hw dX5_readPart_19 hf
end
theorem g_La_readLevel {l : Launch} {V : St} {N : Nat} : ∀ d : Nat, (∀ {S : St} {p1 : Int32} {p2 : Int32} {S9 : St}, La_readLevel N d S p1 p2 = some S9 → Ct l (wX V) yX5_readLevel cX5_readLevel 6 none (d + 3) (fun E => [.ref (ea E 2), .int p1, .int p2]) S (fun E => none) S9) ∧ (∀ {S : St} {p1 : Int32} {p2 : Int32} {S9 : St}, La_readOpened N d S p1 p2 = some S9 → Ct l (wX V) yX5_readOpened cX5_readOpened 3 none (d + 3) (fun E => [.ref (ea E 2), .int p1, .int p2]) S (fun E => none) S9) ∧ (∀ {S : St} {p1 : Int32} {S9 : St}, La_readOperand N d S p1 = some S9 → Ct l (wX V) yX5_readOperand cX5_readOperand 3 none (d + 3) (fun E => [.ref (ea E 2), .int p1]) S (fun E => none) S9) ∧ (∀ {S : St} {p1 : Int32} {p2 : Int32} {S9 : St}, La_readPart N d S p1 p2 = some S9 → Ct l (wX V) yX5_readPart cX5_readPart 3 none (d + 3) (fun E => [.ref (ea E 2), .int p1, .int p2]) S (fun E => none) S9) := by
  intro d
  induction d with
  | zero => exact ⟨(by intros; rename_i hf; cases hf), (by intros; rename_i hf; cases hf), (by intros; rename_i hf; cases hf), (by intros; rename_i hf; cases hf)⟩
  | succ d ih =>
    obtain ⟨h0, h1, h2, h3⟩ := ih
    exact ⟨(by intros; rename_i hf; exact ofBlock (by decide +kernel) (fun _ => Nat.le_of_ble_eq_true rfl) (fun E p e s m args below meth c ls C hw hl => w_La_readLevel_B (N := N) (d := d) (f_readLevel := La_readLevel N d) (f_readOpened := La_readOpened N d) (f_readOperand := La_readOperand N d) (f_readPart := La_readPart N d) C h0 h1 h2 h3 hw hl hf)),
     (by intros; rename_i hf; exact ofBlock (by decide +kernel) (fun _ => Nat.le_of_ble_eq_true rfl) (fun E p e s m args below meth c ls C hw hl => w_La_readOpened_B (N := N) (d := d) (f_readLevel := La_readLevel N d) (f_readOpened := La_readOpened N d) (f_readOperand := La_readOperand N d) (f_readPart := La_readPart N d) C h0 h1 h2 h3 hw hl hf)),
     (by intros; rename_i hf; exact ofBlock (by decide +kernel) (fun _ => Nat.le_of_ble_eq_true rfl) (fun E p e s m args below meth c ls C hw hl => w_La_readOperand_B (N := N) (d := d) (f_readLevel := La_readLevel N d) (f_readOpened := La_readOpened N d) (f_readOperand := La_readOperand N d) (f_readPart := La_readPart N d) C h0 h1 h2 h3 hw hl hf)),
     (by intros; rename_i hf; exact ofBlock (by decide +kernel) (fun _ => Nat.le_of_ble_eq_true rfl) (fun E p e s m args below meth c ls C hw hl => w_La_readPart_B (N := N) (d := d) (f_readLevel := La_readLevel N d) (f_readOpened := La_readOpened N d) (f_readOperand := La_readOperand N d) (f_readPart := La_readPart N d) C h0 h1 h2 h3 hw hl hf))⟩
theorem t_La_readLevel {l : Launch} {V : St} {N : Nat} {S : St} {p1 : Int32} {p2 : Int32} {S9 : St} (hf : La_readLevel N N S p1 p2 = some S9) : Ct l (wX V) yX5_readLevel cX5_readLevel 6 none (N + 3) (fun E => [.ref (ea E 2), .int p1, .int p2]) S (fun E => none) S9 := ((g_La_readLevel (l := l) (V := V) (N := N) N).1) hf
theorem t_La_readOpened {l : Launch} {V : St} {N : Nat} {S : St} {p1 : Int32} {p2 : Int32} {S9 : St} (hf : La_readOpened N N S p1 p2 = some S9) : Ct l (wX V) yX5_readOpened cX5_readOpened 3 none (N + 3) (fun E => [.ref (ea E 2), .int p1, .int p2]) S (fun E => none) S9 := ((g_La_readLevel (l := l) (V := V) (N := N) N).2.1) hf
theorem t_La_readOperand {l : Launch} {V : St} {N : Nat} {S : St} {p1 : Int32} {S9 : St} (hf : La_readOperand N N S p1 = some S9) : Ct l (wX V) yX5_readOperand cX5_readOperand 3 none (N + 3) (fun E => [.ref (ea E 2), .int p1]) S (fun E => none) S9 := ((g_La_readLevel (l := l) (V := V) (N := N) N).2.2.1) hf
theorem t_La_readPart {l : Launch} {V : St} {N : Nat} {S : St} {p1 : Int32} {p2 : Int32} {S9 : St} (hf : La_readPart N N S p1 p2 = some S9) : Ct l (wX V) yX5_readPart cX5_readPart 3 none (N + 3) (fun E => [.ref (ea E 2), .int p1, .int p2]) S (fun E => none) S9 := ((g_La_readLevel (l := l) (V := V) (N := N) N).2.2.2) hf
