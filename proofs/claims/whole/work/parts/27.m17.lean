theorem dX11_chain_0 : decode cX11_chain 0 = .ok (.aload_n 0, 1) := by decide +kernel
theorem dX11_chain_1 : decode cX11_chain 1 = .ok (.iload_n 1, 1) := by decide +kernel
theorem dX11_chain_2 : decode cX11_chain 2 = .ok (.i2l, 1) := by decide +kernel
theorem dX11_chain_3 : decode cX11_chain 3 = .ok (.invokevirtual 97, 3) := by decide +kernel
theorem dX11_chain_6 : decode cX11_chain 6 = .ok (.ifCond .eq 23, 3) := by decide +kernel
theorem dX11_chain_9 : decode cX11_chain 9 = .ok (.iload_n 2, 1) := by decide +kernel
theorem dX11_chain_10 : decode cX11_chain 10 = .ok (.i2l, 1) := by decide +kernel
theorem dX11_chain_11 : decode cX11_chain 11 = .ok (.invokestatic 101, 3) := by decide +kernel
theorem dX11_chain_14 : decode cX11_chain 14 = .ok (.ifCond .eq 15, 3) := by decide +kernel
theorem dX11_chain_17 : decode cX11_chain 17 = .ok (.iload_n 3, 1) := by decide +kernel
theorem dX11_chain_18 : decode cX11_chain 18 = .ok (.i2l, 1) := by decide +kernel
theorem dX11_chain_19 : decode cX11_chain 19 = .ok (.lconst 0, 1) := by decide +kernel
theorem dX11_chain_20 : decode cX11_chain 20 = .ok (.ldc2_w 122, 3) := by decide +kernel
theorem dX11_chain_23 : decode cX11_chain 23 = .ok (.invokestatic 84, 3) := by decide +kernel
theorem dX11_chain_26 : decode cX11_chain 26 = .ok (.ifCond .ne 5, 3) := by decide +kernel
theorem dX11_chain_29 : decode cX11_chain 29 = .ok (.iconst (-1), 1) := by decide +kernel
theorem dX11_chain_30 : decode cX11_chain 30 = .ok (.ireturn, 1) := by decide +kernel
theorem dX11_chain_31 : decode cX11_chain 31 = .ok (.iload_n 3, 1) := by decide +kernel
theorem dX11_chain_32 : decode cX11_chain 32 = .ok (.tableswitch 57 0 2 #[28, 35, 50], 28) := by decide +kernel
theorem dX11_chain_60 : decode cX11_chain 60 = .ok (.aload_n 0, 1) := by decide +kernel
theorem dX11_chain_61 : decode cX11_chain 61 = .ok (.iload_n 1, 1) := by decide +kernel
theorem dX11_chain_62 : decode cX11_chain 62 = .ok (.iload_n 2, 1) := by decide +kernel
theorem dX11_chain_63 : decode cX11_chain 63 = .ok (.invokevirtual 205, 3) := by decide +kernel
theorem dX11_chain_66 : decode cX11_chain 66 = .ok (.ireturn, 1) := by decide +kernel
theorem dX11_chain_67 : decode cX11_chain 67 = .ok (.aload_n 0, 1) := by decide +kernel
theorem dX11_chain_68 : decode cX11_chain 68 = .ok (.iload_n 1, 1) := by decide +kernel
theorem dX11_chain_69 : decode cX11_chain 69 = .ok (.iload_n 2, 1) := by decide +kernel
theorem dX11_chain_70 : decode cX11_chain 70 = .ok (.invokevirtual 214, 3) := by decide +kernel
theorem dX11_chain_73 : decode cX11_chain 73 = .ok (.ifCond .eq 7, 3) := by decide +kernel
theorem dX11_chain_76 : decode cX11_chain 76 = .ok (.iconst 1, 1) := by decide +kernel
theorem dX11_chain_77 : decode cX11_chain 77 = .ok (.goto 4, 3) := by decide +kernel
theorem dX11_chain_80 : decode cX11_chain 80 = .ok (.iconst 0, 1) := by decide +kernel
theorem dX11_chain_81 : decode cX11_chain 81 = .ok (.ireturn, 1) := by decide +kernel
theorem dX11_chain_82 : decode cX11_chain 82 = .ok (.aload_n 0, 1) := by decide +kernel
theorem dX11_chain_83 : decode cX11_chain 83 = .ok (.iload_n 1, 1) := by decide +kernel
theorem dX11_chain_84 : decode cX11_chain 84 = .ok (.iload_n 2, 1) := by decide +kernel
theorem dX11_chain_85 : decode cX11_chain 85 = .ok (.invokevirtual 217, 3) := by decide +kernel
theorem dX11_chain_88 : decode cX11_chain 88 = .ok (.ireturn, 1) := by decide +kernel
theorem dX11_chain_89 : decode cX11_chain 89 = .ok (.aload_n 0, 1) := by decide +kernel
theorem dX11_chain_90 : decode cX11_chain 90 = .ok (.iload_n 1, 1) := by decide +kernel
theorem dX11_chain_91 : decode cX11_chain 91 = .ok (.iload_n 2, 1) := by decide +kernel
theorem dX11_chain_92 : decode cX11_chain 92 = .ok (.invokevirtual 220, 3) := by decide +kernel
theorem dX11_chain_95 : decode cX11_chain 95 = .ok (.ireturn, 1) := by decide +kernel
section
variable {p : Program} {l : Launch} {e : Env} {s : State} {m : MethodId} {args : Array Value} {below : List Frame} {meth : Method} {c : Code} {H : Heap} {locs : List Loc} {E : Ev} {S V : St} {ls : Array Slot}
set_option maxRecDepth 20000 in
theorem w_Mo_chain {N : Nat} {p1 : Int32} {p2 : Int32} {p3 : Int32} {r : Int32} {S9 : St} (C : Cx p s m args meth c E cX11_chain 4 RX11 (some .int)) (hw : Wd E (wM V E) s.heap S H locs) (hl : lv_has ls 4 [(0, .ref (ea E 44)), (1, .int p1), (2, .int p2), (3, .int p3)]) (hf : Mo_chain N S p1 p2 p3 = some (r, S9)) : W p l e (rmh (N + 7)) s m args below meth c H locs 0 0 (MQ below (QW E (wM V E) (some (.int r)) S9) args s 0 0 (eA E)) (F0 m 0 ls []) := by
  have hx := C.1
  have hb := C.2.1
  unfold Mo_chain at hf
  refine lv_aload_n hx hb dX11_chain_0 rfl (lv_at hl 0 rfl) ?_
  refine lv_iload_n hx hb dX11_chain_1 rfl (lv_at hl 1 rfl) ?_
  refine lv_i2l hx hb dX11_chain_2 rfl ?_
  obtain ⟨r1, hr, hf⟩ := hf_1 hf
  refine inv_Vi (q0 := 44) (ci := 11) (As := [.long (Int32.toInt64 p1)]) lk_X11_97 C hw rfl rfl rfl (t_Mo_isOne hr) rfl hl.1 dX11_chain_3 rfl (Nat.le_of_ble_eq_true rfl) (by decide) (Nat.le_of_ble_eq_true rfl) rfl (fun H locs hw => ?_)
  refine lv_if_eq (tgt := 29) hx hb dX11_chain_6 (by decide) (fun q => ?_) (fun q => ?_)
  · have hf := hf_t q hf
    refine lv_iconst (v := -1) hx hb dX11_chain_29 kc_m1 ?_
    exact ret_iS C hw dX11_chain_30 hf
  · have hf := hf_f q hf
    refine lv_iload_n hx hb dX11_chain_9 rfl (lv_at hl 2 rfl) ?_
    refine lv_i2l hx hb dX11_chain_10 rfl ?_
    obtain ⟨r2, hr, hf⟩ := hf_1 hf
    refine inv_Si (As := [.long (Int32.toInt64 p2)]) lk_X11_101 C hw (t_Mo_isDay hr) hl.1 dX11_chain_11 rfl (Nat.le_of_ble_eq_true rfl) (by decide) (Nat.le_of_ble_eq_true rfl) rfl (fun H locs hw => ?_)
    refine lv_if_eq (tgt := 29) hx hb dX11_chain_14 (by decide) (fun q => ?_) (fun q => ?_)
    · have hf := hf_t q hf
      refine lv_iconst (v := -1) hx hb dX11_chain_29 kc_m1 ?_
      exact ret_iS C hw dX11_chain_30 hf
    · have hf := hf_f q hf
      refine lv_iload_n hx hb dX11_chain_17 rfl (lv_at hl 3 rfl) ?_
      refine lv_i2l hx hb dX11_chain_18 rfl ?_
      refine lv_lconst (v := 0) hx hb dX11_chain_19 rfl ?_
      refine lv_ldc2 (v := 3) hx hb C.2.2.2.1 (C.2.2.2.2.1 _ q_1325) dX11_chain_20 ?_
      obtain ⟨r3, hr, hf⟩ := hf_1 hf
      refine inv_Si (As := [.long (Int32.toInt64 p3), .long (0 : Int64), .long (3 : Int64)]) lk_X11_84 C hw (t_Mo_within hr) hl.1 dX11_chain_23 rfl (Nat.le_of_ble_eq_true rfl) (by decide) (Nat.le_of_ble_eq_true rfl) rfl (fun H locs hw => ?_)
      refine lv_if_ne (tgt := 31) hx hb dX11_chain_26 (by decide) (fun q => ?_) (fun q => ?_)
      · have hf := hf_f q hf
        refine lv_iload_n hx hb dX11_chain_31 rfl (lv_at hl 3 rfl) ?_
        by_cases q0 : p3 = 0
        · have hf := hf_t q0 hf
          refine lv_tableIn (off := 28) (tgt := 60) hx hb dX11_chain_32 (by rw [q0]; decide) (by rw [q0]; decide) (by rw [q0]; rfl) (by decide) ?_
          refine lv_aload_n hx hb dX11_chain_60 rfl (lv_at hl 0 rfl) ?_
          refine lv_iload_n hx hb dX11_chain_61 rfl (lv_at hl 1 rfl) ?_
          refine lv_iload_n hx hb dX11_chain_62 rfl (lv_at hl 2 rfl) ?_
          obtain ⟨r4, hr, hf⟩ := hf_1 hf
          refine inv_Vi (q0 := 44) (ci := 11) (As := [.int p1, .int p2]) lk_X11_205 C hw rfl rfl rfl (t_Mo_chainOf hr) rfl hl.1 dX11_chain_63 rfl (Nat.le_of_ble_eq_true rfl) (by decide) (Nat.le_of_ble_eq_true rfl) rfl (fun H locs hw => ?_)
          exact ret_iS C hw dX11_chain_66 hf
        have hf := hf_f q0 hf
        by_cases q1 : p3 = 1
        · have hf := hf_t q1 hf
          refine lv_tableIn (off := 35) (tgt := 67) hx hb dX11_chain_32 (by rw [q1]; decide) (by rw [q1]; decide) (by rw [q1]; rfl) (by decide) ?_
          refine lv_aload_n hx hb dX11_chain_67 rfl (lv_at hl 0 rfl) ?_
          refine lv_iload_n hx hb dX11_chain_68 rfl (lv_at hl 1 rfl) ?_
          refine lv_iload_n hx hb dX11_chain_69 rfl (lv_at hl 2 rfl) ?_
          obtain ⟨r5, hr, hf⟩ := hf_1 hf
          refine inv_Vi (q0 := 44) (ci := 11) (As := [.int p1, .int p2]) lk_X11_214 C hw rfl rfl rfl (t_Mo_doesRide hr) rfl hl.1 dX11_chain_70 rfl (Nat.le_of_ble_eq_true rfl) (by decide) (Nat.le_of_ble_eq_true rfl) rfl (fun H locs hw => ?_)
          refine lv_if_eq (tgt := 80) hx hb dX11_chain_73 (by decide) (fun q => ?_) (fun q => ?_)
          · have hf := hf_t q hf
            refine lv_iconst (v := 0) hx hb dX11_chain_80 kc_0 ?_
            exact ret_iS C hw dX11_chain_81 hf
          · have hf := hf_f q hf
            refine lv_iconst (v := 1) hx hb dX11_chain_76 kc_1 ?_
            refine lv_goto (tgt := 81) hx hb dX11_chain_77 (by decide) ?_
            exact ret_iS C hw dX11_chain_81 hf
        have hf := hf_f q1 hf
        by_cases q2 : p3 = 2
        · have hf := hf_t q2 hf
          refine lv_tableIn (off := 50) (tgt := 82) hx hb dX11_chain_32 (by rw [q2]; decide) (by rw [q2]; decide) (by rw [q2]; rfl) (by decide) ?_
          refine lv_aload_n hx hb dX11_chain_82 rfl (lv_at hl 0 rfl) ?_
          refine lv_iload_n hx hb dX11_chain_83 rfl (lv_at hl 1 rfl) ?_
          refine lv_iload_n hx hb dX11_chain_84 rfl (lv_at hl 2 rfl) ?_
          obtain ⟨r7, S6, hr, hf⟩ := hf_2 hf
          refine inv_Vi (q0 := 44) (ci := 11) (As := [.int p1, .int p2]) lk_X11_217 C hw rfl rfl rfl (t_Mo_creaksOf hr) rfl hl.1 dX11_chain_85 rfl (by omega) (by decide) (Nat.le_of_ble_eq_true rfl) rfl (fun H locs hw => ?_)
          exact ret_iS C hw dX11_chain_88 hf
        have hf := hf_f q2 hf
        refine lv_tableOut (tgt := 89) hx hb dX11_chain_32 (by have h0 := lv_neT (a := 0) q0 rfl; have h1 := lv_neT (a := 1) q1 rfl; have h2 := lv_neT (a := 2) q2 rfl; omega) (by decide) ?_
        refine lv_aload_n hx hb dX11_chain_89 rfl (lv_at hl 0 rfl) ?_
        refine lv_iload_n hx hb dX11_chain_90 rfl (lv_at hl 1 rfl) ?_
        refine lv_iload_n hx hb dX11_chain_91 rfl (lv_at hl 2 rfl) ?_
        obtain ⟨r8, hr, hf⟩ := hf_1 hf
        refine inv_Vi (q0 := 44) (ci := 11) (As := [.int p1, .int p2]) lk_X11_220 C hw rfl rfl rfl (t_Mo_debtOf hr) rfl hl.1 dX11_chain_92 rfl (Nat.le_of_ble_eq_true rfl) (by decide) (Nat.le_of_ble_eq_true rfl) rfl (fun H locs hw => ?_)
        exact ret_iS C hw dX11_chain_95 hf
      · have hf := hf_t q hf
        refine lv_iconst (v := -1) hx hb dX11_chain_29 kc_m1 ?_
        exact ret_iS C hw dX11_chain_30 hf
end
theorem t_Mo_chain {l : Launch} {V : St} {N : Nat} {S : St} {p1 : Int32} {p2 : Int32} {p3 : Int32} {r : Int32} {S9 : St} (hf : Mo_chain N S p1 p2 p3 = some (r, S9)) : Ct l (wM V) yX11_chain cX11_chain 4 (some .int) (N + 7) (fun E => [.ref (ea E 44), .int p1, .int p2, .int p3]) S (fun E => some (.int r)) S9 :=
  ofBlock (by decide +kernel) (fun _ => Nat.le_of_ble_eq_true rfl) (fun E p e s m args below meth c ls C hw hl => w_Mo_chain C hw hl hf)
theorem dX11_creak_0 : decode cX11_creak 0 = .ok (.aload_n 0, 1) := by decide +kernel
theorem dX11_creak_1 : decode cX11_creak 1 = .ok (.iload_n 1, 1) := by decide +kernel
theorem dX11_creak_2 : decode cX11_creak 2 = .ok (.i2l, 1) := by decide +kernel
theorem dX11_creak_3 : decode cX11_creak 3 = .ok (.invokevirtual 126, 3) := by decide +kernel
theorem dX11_creak_6 : decode cX11_creak 6 = .ok (.ifCond .eq 20, 3) := by decide +kernel
theorem dX11_creak_9 : decode cX11_creak 9 = .ok (.iload_n 2, 1) := by decide +kernel
theorem dX11_creak_10 : decode cX11_creak 10 = .ok (.i2l, 1) := by decide +kernel
theorem dX11_creak_11 : decode cX11_creak 11 = .ok (.invokestatic 101, 3) := by decide +kernel
theorem dX11_creak_14 : decode cX11_creak 14 = .ok (.ifCond .eq 12, 3) := by decide +kernel
theorem dX11_creak_17 : decode cX11_creak 17 = .ok (.aload_n 0, 1) := by decide +kernel
theorem dX11_creak_18 : decode cX11_creak 18 = .ok (.iload_n 1, 1) := by decide +kernel
theorem dX11_creak_19 : decode cX11_creak 19 = .ok (.iload_n 2, 1) := by decide +kernel
theorem dX11_creak_20 : decode cX11_creak 20 = .ok (.invokevirtual 211, 3) := by decide +kernel
theorem dX11_creak_23 : decode cX11_creak 23 = .ok (.goto 4, 3) := by decide +kernel
theorem dX11_creak_26 : decode cX11_creak 26 = .ok (.iconst (-1), 1) := by decide +kernel
theorem dX11_creak_27 : decode cX11_creak 27 = .ok (.ireturn, 1) := by decide +kernel
section
variable {p : Program} {l : Launch} {e : Env} {s : State} {m : MethodId} {args : Array Value} {below : List Frame} {meth : Method} {c : Code} {H : Heap} {locs : List Loc} {E : Ev} {S V : St} {ls : Array Slot}
set_option maxRecDepth 20000 in
theorem w_Mo_creak {N : Nat} {p1 : Int32} {p2 : Int32} {r : Int32} {S9 : St} (C : Cx p s m args meth c E cX11_creak 3 RX11 (some .int)) (hw : Wd E (wM V E) s.heap S H locs) (hl : lv_has ls 3 [(0, .ref (ea E 44)), (1, .int p1), (2, .int p2)]) (hf : Mo_creak N S p1 p2 = some (r, S9)) : W p l e (rmh (N + 6)) s m args below meth c H locs 0 0 (MQ below (QW E (wM V E) (some (.int r)) S9) args s 0 0 (eA E)) (F0 m 0 ls []) := by
  have hx := C.1
  have hb := C.2.1
  unfold Mo_creak at hf
  refine lv_aload_n hx hb dX11_creak_0 rfl (lv_at hl 0 rfl) ?_
  refine lv_iload_n hx hb dX11_creak_1 rfl (lv_at hl 1 rfl) ?_
  refine lv_i2l hx hb dX11_creak_2 rfl ?_
  obtain ⟨r1, hr, hf⟩ := hf_1 hf
  refine inv_Vi (q0 := 44) (ci := 11) (As := [.long (Int32.toInt64 p1)]) lk_X11_126 C hw rfl rfl rfl (t_Mo_isPromise hr) rfl hl.1 dX11_creak_3 rfl (Nat.le_of_ble_eq_true rfl) (by decide) (Nat.le_of_ble_eq_true rfl) rfl (fun H locs hw => ?_)
  refine lv_if_eq (tgt := 26) hx hb dX11_creak_6 (by decide) (fun q => ?_) (fun q => ?_)
  · have hf := hf_t q hf
    refine lv_iconst (v := -1) hx hb dX11_creak_26 kc_m1 ?_
    exact ret_iS C hw dX11_creak_27 hf
  · have hf := hf_f q hf
    refine lv_iload_n hx hb dX11_creak_9 rfl (lv_at hl 2 rfl) ?_
    refine lv_i2l hx hb dX11_creak_10 rfl ?_
    obtain ⟨r2, hr, hf⟩ := hf_1 hf
    refine inv_Si (As := [.long (Int32.toInt64 p2)]) lk_X11_101 C hw (t_Mo_isDay hr) hl.1 dX11_creak_11 rfl (Nat.le_of_ble_eq_true rfl) (by decide) (Nat.le_of_ble_eq_true rfl) rfl (fun H locs hw => ?_)
    refine lv_if_eq (tgt := 26) hx hb dX11_creak_14 (by decide) (fun q => ?_) (fun q => ?_)
    · have hf := hf_t q hf
      refine lv_iconst (v := -1) hx hb dX11_creak_26 kc_m1 ?_
      exact ret_iS C hw dX11_creak_27 hf
    · have hf := hf_f q hf
      refine lv_aload_n hx hb dX11_creak_17 rfl (lv_at hl 0 rfl) ?_
      refine lv_iload_n hx hb dX11_creak_18 rfl (lv_at hl 1 rfl) ?_
      refine lv_iload_n hx hb dX11_creak_19 rfl (lv_at hl 2 rfl) ?_
      obtain ⟨r4, S3, hr, hf⟩ := hf_2 hf
      refine inv_Vi (q0 := 44) (ci := 11) (As := [.int p1, .int p2]) lk_X11_211 C hw rfl rfl rfl (t_Mo_creakOf hr) rfl hl.1 dX11_creak_20 rfl (by omega) (by decide) (Nat.le_of_ble_eq_true rfl) rfl (fun H locs hw => ?_)
      refine lv_goto (tgt := 27) hx hb dX11_creak_23 (by decide) ?_
      exact ret_iS C hw dX11_creak_27 hf
end
theorem t_Mo_creak {l : Launch} {V : St} {N : Nat} {S : St} {p1 : Int32} {p2 : Int32} {r : Int32} {S9 : St} (hf : Mo_creak N S p1 p2 = some (r, S9)) : Ct l (wM V) yX11_creak cX11_creak 3 (some .int) (N + 6) (fun E => [.ref (ea E 44), .int p1, .int p2]) S (fun E => some (.int r)) S9 :=
  ofBlock (by decide +kernel) (fun _ => Nat.le_of_ble_eq_true rfl) (fun E p e s m args below meth c ls C hw hl => w_Mo_creak C hw hl hf)
theorem dX11_rides_0 : decode cX11_rides 0 = .ok (.aload_n 0, 1) := by decide +kernel
theorem dX11_rides_1 : decode cX11_rides 1 = .ok (.iload_n 1, 1) := by decide +kernel
theorem dX11_rides_2 : decode cX11_rides 2 = .ok (.i2l, 1) := by decide +kernel
theorem dX11_rides_3 : decode cX11_rides 3 = .ok (.invokevirtual 97, 3) := by decide +kernel
theorem dX11_rides_6 : decode cX11_rides 6 = .ok (.ifCond .eq 29, 3) := by decide +kernel
theorem dX11_rides_9 : decode cX11_rides 9 = .ok (.iload_n 2, 1) := by decide +kernel
theorem dX11_rides_10 : decode cX11_rides 10 = .ok (.i2l, 1) := by decide +kernel
theorem dX11_rides_11 : decode cX11_rides 11 = .ok (.invokestatic 101, 3) := by decide +kernel
theorem dX11_rides_14 : decode cX11_rides 14 = .ok (.ifCond .eq 21, 3) := by decide +kernel
theorem dX11_rides_17 : decode cX11_rides 17 = .ok (.iload_n 3, 1) := by decide +kernel
theorem dX11_rides_18 : decode cX11_rides 18 = .ok (.iconst (-1), 1) := by decide +kernel
theorem dX11_rides_19 : decode cX11_rides 19 = .ok (.if_icmp .eq 18, 3) := by decide +kernel
theorem dX11_rides_22 : decode cX11_rides 22 = .ok (.iload_n 3, 1) := by decide +kernel
theorem dX11_rides_23 : decode cX11_rides 23 = .ok (.i2l, 1) := by decide +kernel
theorem dX11_rides_24 : decode cX11_rides 24 = .ok (.iload_n 2, 1) := by decide +kernel
theorem dX11_rides_25 : decode cX11_rides 25 = .ok (.i2l, 1) := by decide +kernel
theorem dX11_rides_26 : decode cX11_rides 26 = .ok (.ldc2_w 91, 3) := by decide +kernel
theorem dX11_rides_29 : decode cX11_rides 29 = .ok (.invokestatic 84, 3) := by decide +kernel
theorem dX11_rides_32 : decode cX11_rides 32 = .ok (.ifCond .ne 5, 3) := by decide +kernel
theorem dX11_rides_35 : decode cX11_rides 35 = .ok (.iconst (-1), 1) := by decide +kernel
theorem dX11_rides_36 : decode cX11_rides 36 = .ok (.ireturn, 1) := by decide +kernel
theorem dX11_rides_37 : decode cX11_rides 37 = .ok (.iconst 0, 1) := by decide +kernel
theorem dX11_rides_38 : decode cX11_rides 38 = .ok (.istore 4, 2) := by decide +kernel
theorem dX11_rides_40 : decode cX11_rides 40 = .ok (.iload_n 2, 1) := by decide +kernel
theorem dX11_rides_41 : decode cX11_rides 41 = .ok (.istore 5, 2) := by decide +kernel
theorem dX11_rides_43 : decode cX11_rides 43 = .ok (.iload 5, 2) := by decide +kernel
theorem dX11_rides_45 : decode cX11_rides 45 = .ok (.iload_n 3, 1) := by decide +kernel
theorem dX11_rides_46 : decode cX11_rides 46 = .ok (.ifCond .ge 8, 3) := by decide +kernel
theorem dX11_rides_49 : decode cX11_rides 49 = .ok (.bipush 99, 2) := by decide +kernel
theorem dX11_rides_51 : decode cX11_rides 51 = .ok (.goto 4, 3) := by decide +kernel
theorem dX11_rides_54 : decode cX11_rides 54 = .ok (.iload_n 3, 1) := by decide +kernel
theorem dX11_rides_55 : decode cX11_rides 55 = .ok (.if_icmp .gt 29, 3) := by decide +kernel
theorem dX11_rides_58 : decode cX11_rides 58 = .ok (.aload_n 0, 1) := by decide +kernel
theorem dX11_rides_59 : decode cX11_rides 59 = .ok (.iload_n 1, 1) := by decide +kernel
theorem dX11_rides_60 : decode cX11_rides 60 = .ok (.iload 5, 2) := by decide +kernel
theorem dX11_rides_62 : decode cX11_rides 62 = .ok (.invokevirtual 214, 3) := by decide +kernel
theorem dX11_rides_65 : decode cX11_rides 65 = .ok (.ifCond .eq 13, 3) := by decide +kernel
theorem dX11_rides_68 : decode cX11_rides 68 = .ok (.iload_n 3, 1) := by decide +kernel
theorem dX11_rides_69 : decode cX11_rides 69 = .ok (.ifCond .ge 6, 3) := by decide +kernel
theorem dX11_rides_72 : decode cX11_rides 72 = .ok (.iload 5, 2) := by decide +kernel
theorem dX11_rides_74 : decode cX11_rides 74 = .ok (.ireturn, 1) := by decide +kernel
theorem dX11_rides_75 : decode cX11_rides 75 = .ok (.iinc 4 1, 3) := by decide +kernel
theorem dX11_rides_78 : decode cX11_rides 78 = .ok (.iinc 5 1, 3) := by decide +kernel
theorem dX11_rides_81 : decode cX11_rides 81 = .ok (.goto (-38), 3) := by decide +kernel
theorem dX11_rides_84 : decode cX11_rides 84 = .ok (.iload_n 3, 1) := by decide +kernel
theorem dX11_rides_85 : decode cX11_rides 85 = .ok (.ifCond .ge 8, 3) := by decide +kernel
theorem dX11_rides_88 : decode cX11_rides 88 = .ok (.bipush (-2), 2) := by decide +kernel
theorem dX11_rides_90 : decode cX11_rides 90 = .ok (.goto 5, 3) := by decide +kernel
theorem dX11_rides_93 : decode cX11_rides 93 = .ok (.iload 4, 2) := by decide +kernel
theorem dX11_rides_95 : decode cX11_rides 95 = .ok (.ireturn, 1) := by decide +kernel
section
variable {p : Program} {l : Launch} {e : Env} {s : State} {m : MethodId} {args : Array Value} {below : List Frame} {meth : Method} {c : Code} {H : Heap} {locs : List Loc} {E : Ev} {S V : St} {ls : Array Slot}
set_option maxRecDepth 20000 in
theorem w_Mo_rides_b55 {N : Nat} {k43 : (Int32 × Int32) → Option Int32} {l1 : Int32} {l3 : Int32} {l4 : Int32} {l5 : Int32} {s0 : Int32} {s1 : Int32} {r : Int32} (C : Cx p s m args meth c E cX11_rides 6 RX11 (some .int)) (hk43 : ∀ x, k43 x = some r → ∀ (H : Heap) (locs : List Loc) (ls : Array Slot), Wd E (wM V E) s.heap S H locs → lv_has ls 6 [(0, .ref (ea E 44)), (1, .int l1), (3, .int l3), (4, .int x.1), (5, .int x.2)] → W p l e (rmh 4) s m args below meth c H locs 0 0 (MQ below (QW E (wM V E) (some (.int r)) S) args s 0 0 (eA E)) (F0 m 43 ls [])) (hw : Wd E (wM V E) s.heap S H locs) (hl : lv_has ls 6 [(0, .ref (ea E 44)), (1, .int l1), (3, .int l3), (4, .int l4), (5, .int l5)]) (hf : Mo_rides_b55 N k43 S l1 l3 l4 l5 s0 s1 = some r) : W p l e (rmh 4) s m args below meth c H locs 0 0 (MQ below (QW E (wM V E) (some (.int r)) S) args s 0 0 (eA E)) (F0 m 55 ls [.int s0, .int s1]) := by
  have hx := C.1
  have hb := C.2.1
  unfold Mo_rides_b55 at hf
  refine lv_icmp_gt (tgt := 84) hx hb dX11_rides_55 (by decide) (fun q => ?_) (fun q => ?_)
  · have hf := hf_t q hf
    refine lv_iload_n hx hb dX11_rides_84 rfl (lv_at hl 2 rfl) ?_
    refine lv_if_ge (tgt := 93) hx hb dX11_rides_85 (by decide) (fun q => ?_) (fun q => ?_)
    · have hf := hf_t q hf
      refine lv_iload hx hb dX11_rides_93 (lv_at hl 3 rfl) ?_
      exact ret_i C hw dX11_rides_95 hf
    · have hf := hf_f q hf
      refine lv_bipush (v := -2) hx hb dX11_rides_88 kb_m2 ?_
      refine lv_goto (tgt := 95) hx hb dX11_rides_90 (by decide) ?_
      exact ret_i C hw dX11_rides_95 hf
  · have hf := hf_f q hf
    refine lv_aload_n hx hb dX11_rides_58 rfl (lv_at hl 0 rfl) ?_
    refine lv_iload_n hx hb dX11_rides_59 rfl (lv_at hl 1 rfl) ?_
    refine lv_iload hx hb dX11_rides_60 (lv_at hl 4 rfl) ?_
    obtain ⟨r1, hr, hf⟩ := hf_1 hf
    refine inv_Vi (q0 := 44) (ci := 11) (As := [.int l1, .int l5]) lk_X11_214 C hw rfl rfl rfl (t_Mo_doesRide hr) rfl hl.1 dX11_rides_62 rfl (Nat.le_of_ble_eq_true rfl) (by decide) (Nat.le_of_ble_eq_true rfl) rfl (fun H locs hw => ?_)
    refine lv_if_eq (tgt := 78) hx hb dX11_rides_65 (by decide) (fun q => ?_) (fun q => ?_)
    · have hf := hf_t q hf
      obtain ⟨x2, ex2, hf⟩ := nme hf
      refine lv_iinc (v := x2) (lv' := [(5, .int x2), (0, .ref (ea E 44)), (1, .int l1), (3, .int l3), (4, .int l4)]) hx hb dX11_rides_78 hl (k := 4) rfl (ki_1 ex2) (by decide) rfl (fun ls hl => ?_)
      refine lv_goto (tgt := 43) hx hb dX11_rides_81 (by decide) ?_
      exact hk43 _ hf _ _ _ hw (lv_sub hl [1, 2, 3, 4, 0] rfl)
    · have hf := hf_f q hf
      refine lv_iload_n hx hb dX11_rides_68 rfl (lv_at hl 2 rfl) ?_
      refine lv_if_ge (tgt := 75) hx hb dX11_rides_69 (by decide) (fun q => ?_) (fun q => ?_)
      · have hf := hf_t q hf
        obtain ⟨x3, ex3, hf⟩ := nme hf
        refine lv_iinc (v := x3) (lv' := [(4, .int x3), (0, .ref (ea E 44)), (1, .int l1), (3, .int l3), (5, .int l5)]) hx hb dX11_rides_75 hl (k := 3) rfl (ki_1 ex3) (by decide) rfl (fun ls hl => ?_)
        obtain ⟨x4, ex4, hf⟩ := nme hf
        refine lv_iinc (v := x4) (lv' := [(5, .int x4), (4, .int x3), (0, .ref (ea E 44)), (1, .int l1), (3, .int l3)]) hx hb dX11_rides_78 hl (k := 4) rfl (ki_1 ex4) (by decide) rfl (fun ls hl => ?_)
        refine lv_goto (tgt := 43) hx hb dX11_rides_81 (by decide) ?_
        exact hk43 _ hf _ _ _ hw (lv_sub hl [2, 3, 4, 1, 0] rfl)
      · have hf := hf_f q hf
        refine lv_iload hx hb dX11_rides_72 (lv_at hl 4 rfl) ?_
        exact ret_i C hw dX11_rides_74 hf
set_option maxRecDepth 20000 in
theorem w_Mo_rides_b43 {N : Nat} {k43 : (Int32 × Int32) → Option Int32} {l1 : Int32} {l3 : Int32} {l4 : Int32} {l5 : Int32} {r : Int32} (C : Cx p s m args meth c E cX11_rides 6 RX11 (some .int)) (hk43 : ∀ x, k43 x = some r → ∀ (H : Heap) (locs : List Loc) (ls : Array Slot), Wd E (wM V E) s.heap S H locs → lv_has ls 6 [(0, .ref (ea E 44)), (1, .int l1), (3, .int l3), (4, .int x.1), (5, .int x.2)] → W p l e (rmh 4) s m args below meth c H locs 0 0 (MQ below (QW E (wM V E) (some (.int r)) S) args s 0 0 (eA E)) (F0 m 43 ls [])) (hw : Wd E (wM V E) s.heap S H locs) (hl : lv_has ls 6 [(0, .ref (ea E 44)), (1, .int l1), (3, .int l3), (4, .int l4), (5, .int l5)]) (hf : Mo_rides_b43 N k43 S l1 l3 l4 l5 = some r) : W p l e (rmh 4) s m args below meth c H locs 0 0 (MQ below (QW E (wM V E) (some (.int r)) S) args s 0 0 (eA E)) (F0 m 43 ls []) := by
  have hx := C.1
  have hb := C.2.1
  unfold Mo_rides_b43 at hf
  refine lv_iload hx hb dX11_rides_43 (lv_at hl 4 rfl) ?_
  refine lv_iload_n hx hb dX11_rides_45 rfl (lv_at hl 2 rfl) ?_
  refine lv_if_ge (tgt := 54) hx hb dX11_rides_46 (by decide) (fun q => ?_) (fun q => ?_)
  · have hf := hf_t q hf
    refine lv_iload_n hx hb dX11_rides_54 rfl (lv_at hl 2 rfl) ?_
    exact w_Mo_rides_b55 C hk43 hw (lv_sub hl [0, 1, 2, 3, 4] rfl) hf
  · have hf := hf_f q hf
    refine lv_bipush (v := 99) hx hb dX11_rides_49 kb_99 ?_
    refine lv_goto (tgt := 55) hx hb dX11_rides_51 (by decide) ?_
    exact w_Mo_rides_b55 C hk43 hw (lv_sub hl [0, 1, 2, 3, 4] rfl) hf
theorem w_Mo_rides_L43 {N : Nat} {l1 : Int32} {l3 : Int32} {r : Int32} (C : Cx p s m args meth c E cX11_rides 6 RX11 (some .int)) : ∀ x, Mo_rides_L43 N S l1 l3 x = some r → ∀ (H : Heap) (locs : List Loc) (ls : Array Slot), Wd E (wM V E) s.heap S H locs → lv_has ls 6 [(0, .ref (ea E 44)), (1, .int l1), (3, .int l3), (4, .int x.1), (5, .int x.2)] → W p l e (rmh 4) s m args below meth c H locs 0 0 (MQ below (QW E (wM V E) (some (.int r)) S) args s 0 0 (eA E)) (F0 m 43 ls []) :=
  lp_W (fun k x hk hf H locs ls hw hl => w_Mo_rides_b43 C hk hw hl hf) N
set_option maxRecDepth 20000 in
theorem w_Mo_rides {N : Nat} {p1 : Int32} {p2 : Int32} {p3 : Int32} {r : Int32} (C : Cx p s m args meth c E cX11_rides 6 RX11 (some .int)) (hw : Wd E (wM V E) s.heap S H locs) (hl : lv_has ls 6 [(0, .ref (ea E 44)), (1, .int p1), (2, .int p2), (3, .int p3)]) (hf : Mo_rides N S p1 p2 p3 = some r) : W p l e (rmh 4) s m args below meth c H locs 0 0 (MQ below (QW E (wM V E) (some (.int r)) S) args s 0 0 (eA E)) (F0 m 0 ls []) := by
  have hx := C.1
  have hb := C.2.1
  unfold Mo_rides at hf
  refine lv_aload_n hx hb dX11_rides_0 rfl (lv_at hl 0 rfl) ?_
  refine lv_iload_n hx hb dX11_rides_1 rfl (lv_at hl 1 rfl) ?_
  refine lv_i2l hx hb dX11_rides_2 rfl ?_
  obtain ⟨r1, hr, hf⟩ := hf_1 hf
  refine inv_Vi (q0 := 44) (ci := 11) (As := [.long (Int32.toInt64 p1)]) lk_X11_97 C hw rfl rfl rfl (t_Mo_isOne hr) rfl hl.1 dX11_rides_3 rfl (Nat.le_of_ble_eq_true rfl) (by decide) (Nat.le_of_ble_eq_true rfl) rfl (fun H locs hw => ?_)
  refine lv_if_eq (tgt := 35) hx hb dX11_rides_6 (by decide) (fun q => ?_) (fun q => ?_)
  · have hf := hf_t q hf
    refine lv_iconst (v := -1) hx hb dX11_rides_35 kc_m1 ?_
    exact ret_i C hw dX11_rides_36 hf
  · have hf := hf_f q hf
    refine lv_iload_n hx hb dX11_rides_9 rfl (lv_at hl 2 rfl) ?_
    refine lv_i2l hx hb dX11_rides_10 rfl ?_
    obtain ⟨r2, hr, hf⟩ := hf_1 hf
    refine inv_Si (As := [.long (Int32.toInt64 p2)]) lk_X11_101 C hw (t_Mo_isDay hr) hl.1 dX11_rides_11 rfl (Nat.le_of_ble_eq_true rfl) (by decide) (Nat.le_of_ble_eq_true rfl) rfl (fun H locs hw => ?_)
    refine lv_if_eq (tgt := 35) hx hb dX11_rides_14 (by decide) (fun q => ?_) (fun q => ?_)
    · have hf := hf_t q hf
      refine lv_iconst (v := -1) hx hb dX11_rides_35 kc_m1 ?_
      exact ret_i C hw dX11_rides_36 hf
    · have hf := hf_f q hf
      refine lv_iload_n hx hb dX11_rides_17 rfl (lv_at hl 3 rfl) ?_
      refine lv_iconst (v := -1) hx hb dX11_rides_18 kc_m1 ?_
      refine lv_icmp_eq (tgt := 37) hx hb dX11_rides_19 (by decide) (fun q => ?_) (fun q => ?_)
      · have hf := hf_t q hf
        refine lv_iconst (v := 0) hx hb dX11_rides_37 kc_0 ?_
        refine lv_istore (lv' := [(4, .int (0 : Int32)), (0, .ref (ea E 44)), (1, .int p1), (2, .int p2), (3, .int p3)]) hx hb dX11_rides_38 hl (by decide) rfl (fun ls hl => ?_)
        refine lv_iload_n hx hb dX11_rides_40 rfl (lv_at hl 3 rfl) ?_
        refine lv_istore (lv' := [(5, .int p2), (4, .int (0 : Int32)), (0, .ref (ea E 44)), (1, .int p1), (2, .int p2), (3, .int p3)]) hx hb dX11_rides_41 hl (by decide) rfl (fun ls hl => ?_)
        exact w_Mo_rides_L43 C _ hf _ _ _ hw (lv_sub hl [2, 3, 5, 1, 0] rfl)
      · have hf := hf_f q hf
        refine lv_iload_n hx hb dX11_rides_22 rfl (lv_at hl 3 rfl) ?_
        refine lv_i2l hx hb dX11_rides_23 rfl ?_
        refine lv_iload_n hx hb dX11_rides_24 rfl (lv_at hl 2 rfl) ?_
        refine lv_i2l hx hb dX11_rides_25 rfl ?_
        refine lv_ldc2 (v := 99) hx hb C.2.2.2.1 (C.2.2.2.2.1 _ q_1301) dX11_rides_26 ?_
        obtain ⟨r3, hr, hf⟩ := hf_1 hf
        refine inv_Si (As := [.long (Int32.toInt64 p3), .long (Int32.toInt64 p2), .long (99 : Int64)]) lk_X11_84 C hw (t_Mo_within hr) hl.1 dX11_rides_29 rfl (Nat.le_of_ble_eq_true rfl) (by decide) (Nat.le_of_ble_eq_true rfl) rfl (fun H locs hw => ?_)
        refine lv_if_ne (tgt := 37) hx hb dX11_rides_32 (by decide) (fun q => ?_) (fun q => ?_)
        · have hf := hf_f q hf
          refine lv_iconst (v := 0) hx hb dX11_rides_37 kc_0 ?_
          refine lv_istore (lv' := [(4, .int (0 : Int32)), (0, .ref (ea E 44)), (1, .int p1), (2, .int p2), (3, .int p3)]) hx hb dX11_rides_38 hl (by decide) rfl (fun ls hl => ?_)
          refine lv_iload_n hx hb dX11_rides_40 rfl (lv_at hl 3 rfl) ?_
          refine lv_istore (lv' := [(5, .int p2), (4, .int (0 : Int32)), (0, .ref (ea E 44)), (1, .int p1), (2, .int p2), (3, .int p3)]) hx hb dX11_rides_41 hl (by decide) rfl (fun ls hl => ?_)
          exact w_Mo_rides_L43 C _ hf _ _ _ hw (lv_sub hl [2, 3, 5, 1, 0] rfl)
        · have hf := hf_t q hf
          refine lv_iconst (v := -1) hx hb dX11_rides_35 kc_m1 ?_
          exact ret_i C hw dX11_rides_36 hf
end
theorem t_Mo_rides {l : Launch} {V : St} {N : Nat} {S : St} {p1 : Int32} {p2 : Int32} {p3 : Int32} {r : Int32} (hf : Mo_rides N S p1 p2 p3 = some r) : Ct l (wM V) yX11_rides cX11_rides 6 (some .int) 4 (fun E => [.ref (ea E 44), .int p1, .int p2, .int p3]) S (fun E => some (.int r)) S :=
  ofBlock (by decide +kernel) (fun _ => Nat.le_of_ble_eq_true rfl) (fun E p e s m args below meth c ls C hw hl => w_Mo_rides C hw hl hf)
theorem dX11_ride_0 : decode cX11_ride 0 = .ok (.aload_n 0, 1) := by decide +kernel
theorem dX11_ride_1 : decode cX11_ride 1 = .ok (.iload_n 1, 1) := by decide +kernel
theorem dX11_ride_2 : decode cX11_ride 2 = .ok (.i2l, 1) := by decide +kernel
theorem dX11_ride_3 : decode cX11_ride 3 = .ok (.invokevirtual 97, 3) := by decide +kernel
theorem dX11_ride_6 : decode cX11_ride 6 = .ok (.ifCond .eq 13, 3) := by decide +kernel
theorem dX11_ride_9 : decode cX11_ride 9 = .ok (.iload_n 2, 1) := by decide +kernel
theorem dX11_ride_10 : decode cX11_ride 10 = .ok (.i2l, 1) := by decide +kernel
theorem dX11_ride_11 : decode cX11_ride 11 = .ok (.lconst 0, 1) := by decide +kernel
theorem dX11_ride_12 : decode cX11_ride 12 = .ok (.lconst 1, 1) := by decide +kernel
theorem dX11_ride_13 : decode cX11_ride 13 = .ok (.invokestatic 84, 3) := by decide +kernel
theorem dX11_ride_16 : decode cX11_ride 16 = .ok (.ifCond .ne 5, 3) := by decide +kernel
theorem dX11_ride_19 : decode cX11_ride 19 = .ok (.iconst (-1), 1) := by decide +kernel
theorem dX11_ride_20 : decode cX11_ride 20 = .ok (.ireturn, 1) := by decide +kernel
theorem dX11_ride_21 : decode cX11_ride 21 = .ok (.iconst 0, 1) := by decide +kernel
theorem dX11_ride_22 : decode cX11_ride 22 = .ok (.istore_n 3, 1) := by decide +kernel
theorem dX11_ride_23 : decode cX11_ride 23 = .ok (.bipush (-2), 2) := by decide +kernel
theorem dX11_ride_25 : decode cX11_ride 25 = .ok (.istore 4, 2) := by decide +kernel
theorem dX11_ride_27 : decode cX11_ride 27 = .ok (.iconst 0, 1) := by decide +kernel
theorem dX11_ride_28 : decode cX11_ride 28 = .ok (.istore 5, 2) := by decide +kernel
theorem dX11_ride_30 : decode cX11_ride 30 = .ok (.iconst 0, 1) := by decide +kernel
theorem dX11_ride_31 : decode cX11_ride 31 = .ok (.istore 6, 2) := by decide +kernel
theorem dX11_ride_33 : decode cX11_ride 33 = .ok (.iload 6, 2) := by decide +kernel
theorem dX11_ride_35 : decode cX11_ride 35 = .ok (.bipush 99, 2) := by decide +kernel
theorem dX11_ride_37 : decode cX11_ride 37 = .ok (.if_icmp .gt 47, 3) := by decide +kernel
theorem dX11_ride_40 : decode cX11_ride 40 = .ok (.aload_n 0, 1) := by decide +kernel
theorem dX11_ride_41 : decode cX11_ride 41 = .ok (.iload_n 1, 1) := by decide +kernel
theorem dX11_ride_42 : decode cX11_ride 42 = .ok (.iload 6, 2) := by decide +kernel
theorem dX11_ride_44 : decode cX11_ride 44 = .ok (.invokevirtual 214, 3) := by decide +kernel
theorem dX11_ride_47 : decode cX11_ride 47 = .ok (.ifCond .eq 10, 3) := by decide +kernel
theorem dX11_ride_50 : decode cX11_ride 50 = .ok (.iload 5, 2) := by decide +kernel
theorem dX11_ride_52 : decode cX11_ride 52 = .ok (.iconst 1, 1) := by decide +kernel
theorem dX11_ride_53 : decode cX11_ride 53 = .ok (.iadd, 1) := by decide +kernel
theorem dX11_ride_54 : decode cX11_ride 54 = .ok (.goto 4, 3) := by decide +kernel
theorem dX11_ride_57 : decode cX11_ride 57 = .ok (.iconst 0, 1) := by decide +kernel
theorem dX11_ride_58 : decode cX11_ride 58 = .ok (.istore 5, 2) := by decide +kernel
theorem dX11_ride_60 : decode cX11_ride 60 = .ok (.iload 5, 2) := by decide +kernel
theorem dX11_ride_62 : decode cX11_ride 62 = .ok (.iload_n 3, 1) := by decide +kernel
theorem dX11_ride_63 : decode cX11_ride 63 = .ok (.if_icmp .le 15, 3) := by decide +kernel
theorem dX11_ride_66 : decode cX11_ride 66 = .ok (.iload 5, 2) := by decide +kernel
theorem dX11_ride_68 : decode cX11_ride 68 = .ok (.istore_n 3, 1) := by decide +kernel
theorem dX11_ride_69 : decode cX11_ride 69 = .ok (.iload 6, 2) := by decide +kernel
theorem dX11_ride_71 : decode cX11_ride 71 = .ok (.iload 5, 2) := by decide +kernel
theorem dX11_ride_73 : decode cX11_ride 73 = .ok (.isub, 1) := by decide +kernel
theorem dX11_ride_74 : decode cX11_ride 74 = .ok (.iconst 1, 1) := by decide +kernel
theorem dX11_ride_75 : decode cX11_ride 75 = .ok (.iadd, 1) := by decide +kernel
theorem dX11_ride_76 : decode cX11_ride 76 = .ok (.istore 4, 2) := by decide +kernel
theorem dX11_ride_78 : decode cX11_ride 78 = .ok (.iinc 6 1, 3) := by decide +kernel
theorem dX11_ride_81 : decode cX11_ride 81 = .ok (.goto (-48), 3) := by decide +kernel
theorem dX11_ride_84 : decode cX11_ride 84 = .ok (.iload_n 2, 1) := by decide +kernel
theorem dX11_ride_85 : decode cX11_ride 85 = .ok (.ifCond .ne 7, 3) := by decide +kernel
theorem dX11_ride_88 : decode cX11_ride 88 = .ok (.iload_n 3, 1) := by decide +kernel
theorem dX11_ride_89 : decode cX11_ride 89 = .ok (.goto 5, 3) := by decide +kernel
theorem dX11_ride_92 : decode cX11_ride 92 = .ok (.iload 4, 2) := by decide +kernel
theorem dX11_ride_94 : decode cX11_ride 94 = .ok (.ireturn, 1) := by decide +kernel
section
variable {p : Program} {l : Launch} {e : Env} {s : State} {m : MethodId} {args : Array Value} {below : List Frame} {meth : Method} {c : Code} {H : Heap} {locs : List Loc} {E : Ev} {S V : St} {ls : Array Slot}
set_option maxRecDepth 20000 in
theorem w_Mo_ride_b58 {N : Nat} {k33 : (Int32 × Int32 × Int32 × Int32) → Option Int32} {l1 : Int32} {l2 : Int32} {l3 : Int32} {l4 : Int32} {l6 : Int32} {s0 : Int32} {r : Int32} (C : Cx p s m args meth c E cX11_ride 7 RX11 (some .int)) (hk33 : ∀ x, k33 x = some r → ∀ (H : Heap) (locs : List Loc) (ls : Array Slot), Wd E (wM V E) s.heap S H locs → lv_has ls 7 [(0, .ref (ea E 44)), (1, .int l1), (2, .int l2), (3, .int x.1), (4, .int x.2.1), (5, .int x.2.2.1), (6, .int x.2.2.2)] → W p l e (rmh 4) s m args below meth c H locs 0 0 (MQ below (QW E (wM V E) (some (.int r)) S) args s 0 0 (eA E)) (F0 m 33 ls [])) (hw : Wd E (wM V E) s.heap S H locs) (hl : lv_has ls 7 [(0, .ref (ea E 44)), (1, .int l1), (2, .int l2), (3, .int l3), (4, .int l4), (6, .int l6)]) (hf : Mo_ride_b58 N k33 S l1 l2 l3 l4 l6 s0 = some r) : W p l e (rmh 4) s m args below meth c H locs 0 0 (MQ below (QW E (wM V E) (some (.int r)) S) args s 0 0 (eA E)) (F0 m 58 ls [.int s0]) := by
  have hx := C.1
  have hb := C.2.1
  unfold Mo_ride_b58 at hf
  refine lv_istore (lv' := [(5, .int s0), (0, .ref (ea E 44)), (1, .int l1), (2, .int l2), (3, .int l3), (4, .int l4), (6, .int l6)]) hx hb dX11_ride_58 hl (by decide) rfl (fun ls hl => ?_)
  refine lv_iload hx hb dX11_ride_60 (lv_at hl 0 rfl) ?_
  refine lv_iload_n hx hb dX11_ride_62 rfl (lv_at hl 4 rfl) ?_
  refine lv_icmp_le (tgt := 78) hx hb dX11_ride_63 (by decide) (fun q => ?_) (fun q => ?_)
  · have hf := hf_t q hf
    obtain ⟨x1, ex1, hf⟩ := nme hf
    refine lv_iinc (v := x1) (lv' := [(6, .int x1), (5, .int s0), (0, .ref (ea E 44)), (1, .int l1), (2, .int l2), (3, .int l3), (4, .int l4)]) hx hb dX11_ride_78 hl (k := 6) rfl (ki_1 ex1) (by decide) rfl (fun ls hl => ?_)
    refine lv_goto (tgt := 33) hx hb dX11_ride_81 (by decide) ?_
    exact hk33 _ hf _ _ _ hw (lv_sub hl [2, 3, 4, 5, 6, 1, 0] rfl)
  · have hf := hf_f q hf
    refine lv_iload hx hb dX11_ride_66 (lv_at hl 0 rfl) ?_
    refine lv_istore_n (lv' := [(3, .int s0), (5, .int s0), (0, .ref (ea E 44)), (1, .int l1), (2, .int l2), (4, .int l4), (6, .int l6)]) hx hb dX11_ride_68 rfl hl (by decide) rfl (fun ls hl => ?_)
    refine lv_iload hx hb dX11_ride_69 (lv_at hl 6 rfl) ?_
    refine lv_iload hx hb dX11_ride_71 (lv_at hl 1 rfl) ?_
    refine lv_isub hx hb dX11_ride_73 ?_
    refine lv_iconst (v := 1) hx hb dX11_ride_74 kc_1 ?_
    refine lv_iadd hx hb dX11_ride_75 ?_
    refine nm_i hf (fun x2 hf => ?_)
    refine lv_istore (lv' := [(4, .int x2), (3, .int s0), (5, .int s0), (0, .ref (ea E 44)), (1, .int l1), (2, .int l2), (6, .int l6)]) hx hb dX11_ride_76 hl (by decide) rfl (fun ls hl => ?_)
    obtain ⟨x3, ex3, hf⟩ := nme hf
    refine lv_iinc (v := x3) (lv' := [(6, .int x3), (4, .int x2), (3, .int s0), (5, .int s0), (0, .ref (ea E 44)), (1, .int l1), (2, .int l2)]) hx hb dX11_ride_78 hl (k := 6) rfl (ki_1 ex3) (by decide) rfl (fun ls hl => ?_)
    refine lv_goto (tgt := 33) hx hb dX11_ride_81 (by decide) ?_
    exact hk33 _ hf _ _ _ hw (lv_sub hl [4, 5, 6, 2, 1, 3, 0] rfl)
set_option maxRecDepth 20000 in
theorem w_Mo_ride_b33 {N : Nat} {k33 : (Int32 × Int32 × Int32 × Int32) → Option Int32} {l1 : Int32} {l2 : Int32} {l3 : Int32} {l4 : Int32} {l5 : Int32} {l6 : Int32} {r : Int32} (C : Cx p s m args meth c E cX11_ride 7 RX11 (some .int)) (hk33 : ∀ x, k33 x = some r → ∀ (H : Heap) (locs : List Loc) (ls : Array Slot), Wd E (wM V E) s.heap S H locs → lv_has ls 7 [(0, .ref (ea E 44)), (1, .int l1), (2, .int l2), (3, .int x.1), (4, .int x.2.1), (5, .int x.2.2.1), (6, .int x.2.2.2)] → W p l e (rmh 4) s m args below meth c H locs 0 0 (MQ below (QW E (wM V E) (some (.int r)) S) args s 0 0 (eA E)) (F0 m 33 ls [])) (hw : Wd E (wM V E) s.heap S H locs) (hl : lv_has ls 7 [(0, .ref (ea E 44)), (1, .int l1), (2, .int l2), (3, .int l3), (4, .int l4), (5, .int l5), (6, .int l6)]) (hf : Mo_ride_b33 N k33 S l1 l2 l3 l4 l5 l6 = some r) : W p l e (rmh 4) s m args below meth c H locs 0 0 (MQ below (QW E (wM V E) (some (.int r)) S) args s 0 0 (eA E)) (F0 m 33 ls []) := by
  have hx := C.1
  have hb := C.2.1
  unfold Mo_ride_b33 at hf
  refine lv_iload hx hb dX11_ride_33 (lv_at hl 6 rfl) ?_
  refine lv_bipush (v := 99) hx hb dX11_ride_35 kb_99 ?_
  refine lv_icmp_gt (tgt := 84) hx hb dX11_ride_37 (by decide) (fun q => ?_) (fun q => ?_)
  · have hf := hf_t q hf
    refine lv_iload_n hx hb dX11_ride_84 rfl (lv_at hl 2 rfl) ?_
    refine lv_if_ne (tgt := 92) hx hb dX11_ride_85 (by decide) (fun q => ?_) (fun q => ?_)
    · have hf := hf_f q hf
      refine lv_iload hx hb dX11_ride_92 (lv_at hl 4 rfl) ?_
      exact ret_i C hw dX11_ride_94 hf
    · have hf := hf_t q hf
      refine lv_iload_n hx hb dX11_ride_88 rfl (lv_at hl 3 rfl) ?_
      refine lv_goto (tgt := 94) hx hb dX11_ride_89 (by decide) ?_
      exact ret_i C hw dX11_ride_94 hf
  · have hf := hf_f q hf
    refine lv_aload_n hx hb dX11_ride_40 rfl (lv_at hl 0 rfl) ?_
    refine lv_iload_n hx hb dX11_ride_41 rfl (lv_at hl 1 rfl) ?_
    refine lv_iload hx hb dX11_ride_42 (lv_at hl 6 rfl) ?_
    obtain ⟨r1, hr, hf⟩ := hf_1 hf
    refine inv_Vi (q0 := 44) (ci := 11) (As := [.int l1, .int l6]) lk_X11_214 C hw rfl rfl rfl (t_Mo_doesRide hr) rfl hl.1 dX11_ride_44 rfl (Nat.le_of_ble_eq_true rfl) (by decide) (Nat.le_of_ble_eq_true rfl) rfl (fun H locs hw => ?_)
    refine lv_if_eq (tgt := 57) hx hb dX11_ride_47 (by decide) (fun q => ?_) (fun q => ?_)
    · have hf := hf_t q hf
      refine lv_iconst (v := 0) hx hb dX11_ride_57 kc_0 ?_
      exact w_Mo_ride_b58 C hk33 hw (lv_sub hl [0, 1, 2, 3, 4, 6] rfl) hf
    · have hf := hf_f q hf
      refine lv_iload hx hb dX11_ride_50 (lv_at hl 5 rfl) ?_
      refine lv_iconst (v := 1) hx hb dX11_ride_52 kc_1 ?_
      refine lv_iadd hx hb dX11_ride_53 ?_
      refine lv_goto (tgt := 58) hx hb dX11_ride_54 (by decide) ?_
      exact w_Mo_ride_b58 C hk33 hw (lv_sub hl [0, 1, 2, 3, 4, 6] rfl) hf
theorem w_Mo_ride_L33 {N : Nat} {l1 : Int32} {l2 : Int32} {r : Int32} (C : Cx p s m args meth c E cX11_ride 7 RX11 (some .int)) : ∀ x, Mo_ride_L33 N S l1 l2 x = some r → ∀ (H : Heap) (locs : List Loc) (ls : Array Slot), Wd E (wM V E) s.heap S H locs → lv_has ls 7 [(0, .ref (ea E 44)), (1, .int l1), (2, .int l2), (3, .int x.1), (4, .int x.2.1), (5, .int x.2.2.1), (6, .int x.2.2.2)] → W p l e (rmh 4) s m args below meth c H locs 0 0 (MQ below (QW E (wM V E) (some (.int r)) S) args s 0 0 (eA E)) (F0 m 33 ls []) :=
  lp_W (fun k x hk hf H locs ls hw hl => w_Mo_ride_b33 C hk hw hl hf) N
set_option maxRecDepth 20000 in
theorem w_Mo_ride {N : Nat} {p1 : Int32} {p2 : Int32} {r : Int32} (C : Cx p s m args meth c E cX11_ride 7 RX11 (some .int)) (hw : Wd E (wM V E) s.heap S H locs) (hl : lv_has ls 7 [(0, .ref (ea E 44)), (1, .int p1), (2, .int p2)]) (hf : Mo_ride N S p1 p2 = some r) : W p l e (rmh 4) s m args below meth c H locs 0 0 (MQ below (QW E (wM V E) (some (.int r)) S) args s 0 0 (eA E)) (F0 m 0 ls []) := by
  have hx := C.1
  have hb := C.2.1
  unfold Mo_ride at hf
  refine lv_aload_n hx hb dX11_ride_0 rfl (lv_at hl 0 rfl) ?_
  refine lv_iload_n hx hb dX11_ride_1 rfl (lv_at hl 1 rfl) ?_
  refine lv_i2l hx hb dX11_ride_2 rfl ?_
  obtain ⟨r1, hr, hf⟩ := hf_1 hf
  refine inv_Vi (q0 := 44) (ci := 11) (As := [.long (Int32.toInt64 p1)]) lk_X11_97 C hw rfl rfl rfl (t_Mo_isOne hr) rfl hl.1 dX11_ride_3 rfl (Nat.le_of_ble_eq_true rfl) (by decide) (Nat.le_of_ble_eq_true rfl) rfl (fun H locs hw => ?_)
  refine lv_if_eq (tgt := 19) hx hb dX11_ride_6 (by decide) (fun q => ?_) (fun q => ?_)
  · have hf := hf_t q hf
    refine lv_iconst (v := -1) hx hb dX11_ride_19 kc_m1 ?_
    exact ret_i C hw dX11_ride_20 hf
  · have hf := hf_f q hf
    refine lv_iload_n hx hb dX11_ride_9 rfl (lv_at hl 2 rfl) ?_
    refine lv_i2l hx hb dX11_ride_10 rfl ?_
    refine lv_lconst (v := 0) hx hb dX11_ride_11 rfl ?_
    refine lv_lconst (v := 1) hx hb dX11_ride_12 rfl ?_
    obtain ⟨r2, hr, hf⟩ := hf_1 hf
    refine inv_Si (As := [.long (Int32.toInt64 p2), .long (0 : Int64), .long (1 : Int64)]) lk_X11_84 C hw (t_Mo_within hr) hl.1 dX11_ride_13 rfl (Nat.le_of_ble_eq_true rfl) (by decide) (Nat.le_of_ble_eq_true rfl) rfl (fun H locs hw => ?_)
    refine lv_if_ne (tgt := 21) hx hb dX11_ride_16 (by decide) (fun q => ?_) (fun q => ?_)
    · have hf := hf_f q hf
      refine lv_iconst (v := 0) hx hb dX11_ride_21 kc_0 ?_
      refine lv_istore_n (lv' := [(3, .int (0 : Int32)), (0, .ref (ea E 44)), (1, .int p1), (2, .int p2)]) hx hb dX11_ride_22 rfl hl (by decide) rfl (fun ls hl => ?_)
      refine lv_bipush (v := -2) hx hb dX11_ride_23 kb_m2 ?_
      refine lv_istore (lv' := [(4, .int (-2 : Int32)), (3, .int (0 : Int32)), (0, .ref (ea E 44)), (1, .int p1), (2, .int p2)]) hx hb dX11_ride_25 hl (by decide) rfl (fun ls hl => ?_)
      refine lv_iconst (v := 0) hx hb dX11_ride_27 kc_0 ?_
      refine lv_istore (lv' := [(5, .int (0 : Int32)), (4, .int (-2 : Int32)), (3, .int (0 : Int32)), (0, .ref (ea E 44)), (1, .int p1), (2, .int p2)]) hx hb dX11_ride_28 hl (by decide) rfl (fun ls hl => ?_)
      refine lv_iconst (v := 0) hx hb dX11_ride_30 kc_0 ?_
      refine lv_istore (lv' := [(6, .int (0 : Int32)), (5, .int (0 : Int32)), (4, .int (-2 : Int32)), (3, .int (0 : Int32)), (0, .ref (ea E 44)), (1, .int p1), (2, .int p2)]) hx hb dX11_ride_31 hl (by decide) rfl (fun ls hl => ?_)
      exact w_Mo_ride_L33 C _ hf _ _ _ hw (lv_sub hl [4, 5, 6, 3, 2, 1, 0] rfl)
    · have hf := hf_t q hf
      refine lv_iconst (v := -1) hx hb dX11_ride_19 kc_m1 ?_
      exact ret_i C hw dX11_ride_20 hf
end
theorem t_Mo_ride {l : Launch} {V : St} {N : Nat} {S : St} {p1 : Int32} {p2 : Int32} {r : Int32} (hf : Mo_ride N S p1 p2 = some r) : Ct l (wM V) yX11_ride cX11_ride 7 (some .int) 4 (fun E => [.ref (ea E 44), .int p1, .int p2]) S (fun E => some (.int r)) S :=
  ofBlock (by decide +kernel) (fun _ => Nat.le_of_ble_eq_true rfl) (fun E p e s m args below meth c ls C hw hl => w_Mo_ride C hw hl hf)
theorem dX11_ridersOn_0 : decode cX11_ridersOn 0 = .ok (.iconst 0, 1) := by decide +kernel
theorem dX11_ridersOn_1 : decode cX11_ridersOn 1 = .ok (.istore_n 2, 1) := by decide +kernel
theorem dX11_ridersOn_2 : decode cX11_ridersOn 2 = .ok (.iconst 0, 1) := by decide +kernel
theorem dX11_ridersOn_3 : decode cX11_ridersOn 3 = .ok (.istore_n 3, 1) := by decide +kernel
theorem dX11_ridersOn_4 : decode cX11_ridersOn 4 = .ok (.iload_n 3, 1) := by decide +kernel
theorem dX11_ridersOn_5 : decode cX11_ridersOn 5 = .ok (.aload_n 0, 1) := by decide +kernel
theorem dX11_ridersOn_6 : decode cX11_ridersOn 6 = .ok (.getfield 81, 3) := by decide +kernel
theorem dX11_ridersOn_9 : decode cX11_ridersOn 9 = .ok (.if_icmp .ge 28, 3) := by decide +kernel
theorem dX11_ridersOn_12 : decode cX11_ridersOn 12 = .ok (.iload_n 2, 1) := by decide +kernel
theorem dX11_ridersOn_13 : decode cX11_ridersOn 13 = .ok (.aload_n 0, 1) := by decide +kernel
theorem dX11_ridersOn_14 : decode cX11_ridersOn 14 = .ok (.iload_n 3, 1) := by decide +kernel
theorem dX11_ridersOn_15 : decode cX11_ridersOn 15 = .ok (.iload_n 1, 1) := by decide +kernel
theorem dX11_ridersOn_16 : decode cX11_ridersOn 16 = .ok (.invokevirtual 214, 3) := by decide +kernel
theorem dX11_ridersOn_19 : decode cX11_ridersOn 19 = .ok (.ifCond .eq 9, 3) := by decide +kernel
theorem dX11_ridersOn_22 : decode cX11_ridersOn 22 = .ok (.iconst 1, 1) := by decide +kernel
theorem dX11_ridersOn_23 : decode cX11_ridersOn 23 = .ok (.iload_n 3, 1) := by decide +kernel
theorem dX11_ridersOn_24 : decode cX11_ridersOn 24 = .ok (.ishl, 1) := by decide +kernel
theorem dX11_ridersOn_25 : decode cX11_ridersOn 25 = .ok (.goto 4, 3) := by decide +kernel
theorem dX11_ridersOn_28 : decode cX11_ridersOn 28 = .ok (.iconst 0, 1) := by decide +kernel
theorem dX11_ridersOn_29 : decode cX11_ridersOn 29 = .ok (.ior, 1) := by decide +kernel
theorem dX11_ridersOn_30 : decode cX11_ridersOn 30 = .ok (.istore_n 2, 1) := by decide +kernel
theorem dX11_ridersOn_31 : decode cX11_ridersOn 31 = .ok (.iinc 3 1, 3) := by decide +kernel
theorem dX11_ridersOn_34 : decode cX11_ridersOn 34 = .ok (.goto (-30), 3) := by decide +kernel
theorem dX11_ridersOn_37 : decode cX11_ridersOn 37 = .ok (.iload_n 2, 1) := by decide +kernel
theorem dX11_ridersOn_38 : decode cX11_ridersOn 38 = .ok (.ireturn, 1) := by decide +kernel
section
variable {p : Program} {l : Launch} {e : Env} {s : State} {m : MethodId} {args : Array Value} {below : List Frame} {meth : Method} {c : Code} {H : Heap} {locs : List Loc} {E : Ev} {S V : St} {ls : Array Slot}
set_option maxRecDepth 20000 in
theorem w_Mo_ridersOn_b4 {N : Nat} {k4 : (Int32 × Int32) → Option Int32} {l1 : Int32} {l2 : Int32} {l3 : Int32} {r : Int32} (C : Cx p s m args meth c E cX11_ridersOn 4 RX11 (some .int)) (hk4 : ∀ x, k4 x = some r → ∀ (H : Heap) (locs : List Loc) (ls : Array Slot), Wd E (wM V E) s.heap S H locs → lv_has ls 4 [(0, .ref (ea E 44)), (1, .int l1), (2, .int x.1), (3, .int x.2)] → W p l e (rmh 4) s m args below meth c H locs 0 0 (MQ below (QW E (wM V E) (some (.int r)) S) args s 0 0 (eA E)) (F0 m 4 ls [])) (hw : Wd E (wM V E) s.heap S H locs) (hl : lv_has ls 4 [(0, .ref (ea E 44)), (1, .int l1), (2, .int l2), (3, .int l3)]) (hf : Mo_ridersOn_b4 N k4 S l1 l2 l3 = some r) : W p l e (rmh 4) s m args below meth c H locs 0 0 (MQ below (QW E (wM V E) (some (.int r)) S) args s 0 0 (eA E)) (F0 m 4 ls []) := by
  have hx := C.1
  have hb := C.2.1
  unfold Mo_ridersOn_b4 at hf
  refine lv_iload_n hx hb dX11_ridersOn_4 rfl (lv_at hl 3 rfl) ?_
  refine lv_aload_n hx hb dX11_ridersOn_5 rfl (lv_at hl 0 rfl) ?_
  refine get_44_6 C hw q_1157 dX11_ridersOn_6 ?_
  refine lv_icmp_ge (tgt := 37) hx hb dX11_ridersOn_9 (by decide) (fun q => ?_) (fun q => ?_)
  · have hf := hf_t q hf
    refine lv_iload_n hx hb dX11_ridersOn_37 rfl (lv_at hl 2 rfl) ?_
    exact ret_i C hw dX11_ridersOn_38 hf
  · have hf := hf_f q hf
    refine lv_iload_n hx hb dX11_ridersOn_12 rfl (lv_at hl 2 rfl) ?_
    refine lv_aload_n hx hb dX11_ridersOn_13 rfl (lv_at hl 0 rfl) ?_
    refine lv_iload_n hx hb dX11_ridersOn_14 rfl (lv_at hl 3 rfl) ?_
    refine lv_iload_n hx hb dX11_ridersOn_15 rfl (lv_at hl 1 rfl) ?_
    obtain ⟨r1, hr, hf⟩ := hf_1 hf
    refine inv_Vi (q0 := 44) (ci := 11) (As := [.int l3, .int l1]) lk_X11_214 C hw rfl rfl rfl (t_Mo_doesRide hr) rfl hl.1 dX11_ridersOn_16 rfl (Nat.le_of_ble_eq_true rfl) (by decide) (Nat.le_of_ble_eq_true rfl) rfl (fun H locs hw => ?_)
    refine lv_if_eq (tgt := 28) hx hb dX11_ridersOn_19 (by decide) (fun q => ?_) (fun q => ?_)
    · have hf := hf_t q hf
      refine lv_iconst (v := 0) hx hb dX11_ridersOn_28 kc_0 ?_
      refine lv_ior hx hb dX11_ridersOn_29 ?_
      refine nm_i hf (fun x2 hf => ?_)
      refine lv_istore_n (lv' := [(2, .int x2), (0, .ref (ea E 44)), (1, .int l1), (3, .int l3)]) hx hb dX11_ridersOn_30 rfl hl (by decide) rfl (fun ls hl => ?_)
      obtain ⟨x3, ex3, hf⟩ := nme hf
      refine lv_iinc (v := x3) (lv' := [(3, .int x3), (2, .int x2), (0, .ref (ea E 44)), (1, .int l1)]) hx hb dX11_ridersOn_31 hl (k := 3) rfl (ki_1 ex3) (by decide) rfl (fun ls hl => ?_)
      refine lv_goto (tgt := 4) hx hb dX11_ridersOn_34 (by decide) ?_
      exact hk4 _ hf _ _ _ hw (lv_sub hl [2, 3, 1, 0] rfl)
    · have hf := hf_f q hf
      refine lv_iconst (v := 1) hx hb dX11_ridersOn_22 kc_1 ?_
      refine lv_iload_n hx hb dX11_ridersOn_23 rfl (lv_at hl 3 rfl) ?_
      refine lv_ishl hx hb dX11_ridersOn_24 ?_
      refine lv_goto (tgt := 29) hx hb dX11_ridersOn_25 (by decide) ?_
      refine lv_ior hx hb dX11_ridersOn_29 ?_
      refine nm_i hf (fun x4 hf => ?_)
      refine lv_istore_n (lv' := [(2, .int x4), (0, .ref (ea E 44)), (1, .int l1), (3, .int l3)]) hx hb dX11_ridersOn_30 rfl hl (by decide) rfl (fun ls hl => ?_)
      obtain ⟨x5, ex5, hf⟩ := nme hf
      refine lv_iinc (v := x5) (lv' := [(3, .int x5), (2, .int x4), (0, .ref (ea E 44)), (1, .int l1)]) hx hb dX11_ridersOn_31 hl (k := 3) rfl (ki_1 ex5) (by decide) rfl (fun ls hl => ?_)
      refine lv_goto (tgt := 4) hx hb dX11_ridersOn_34 (by decide) ?_
      exact hk4 _ hf _ _ _ hw (lv_sub hl [2, 3, 1, 0] rfl)
theorem w_Mo_ridersOn_L4 {N : Nat} {l1 : Int32} {r : Int32} (C : Cx p s m args meth c E cX11_ridersOn 4 RX11 (some .int)) : ∀ x, Mo_ridersOn_L4 N S l1 x = some r → ∀ (H : Heap) (locs : List Loc) (ls : Array Slot), Wd E (wM V E) s.heap S H locs → lv_has ls 4 [(0, .ref (ea E 44)), (1, .int l1), (2, .int x.1), (3, .int x.2)] → W p l e (rmh 4) s m args below meth c H locs 0 0 (MQ below (QW E (wM V E) (some (.int r)) S) args s 0 0 (eA E)) (F0 m 4 ls []) :=
  lp_W (fun k x hk hf H locs ls hw hl => w_Mo_ridersOn_b4 C hk hw hl hf) N
set_option maxRecDepth 20000 in
theorem w_Mo_ridersOn {N : Nat} {p1 : Int32} {r : Int32} (C : Cx p s m args meth c E cX11_ridersOn 4 RX11 (some .int)) (hw : Wd E (wM V E) s.heap S H locs) (hl : lv_has ls 4 [(0, .ref (ea E 44)), (1, .int p1)]) (hf : Mo_ridersOn N S p1 = some r) : W p l e (rmh 4) s m args below meth c H locs 0 0 (MQ below (QW E (wM V E) (some (.int r)) S) args s 0 0 (eA E)) (F0 m 0 ls []) := by
  have hx := C.1
  have hb := C.2.1
  unfold Mo_ridersOn at hf
  refine lv_iconst (v := 0) hx hb dX11_ridersOn_0 kc_0 ?_
  refine lv_istore_n (lv' := [(2, .int (0 : Int32)), (0, .ref (ea E 44)), (1, .int p1)]) hx hb dX11_ridersOn_1 rfl hl (by decide) rfl (fun ls hl => ?_)
  refine lv_iconst (v := 0) hx hb dX11_ridersOn_2 kc_0 ?_
  refine lv_istore_n (lv' := [(3, .int (0 : Int32)), (2, .int (0 : Int32)), (0, .ref (ea E 44)), (1, .int p1)]) hx hb dX11_ridersOn_3 rfl hl (by decide) rfl (fun ls hl => ?_)
  exact w_Mo_ridersOn_L4 C _ hf _ _ _ hw (lv_sub hl [2, 3, 1, 0] rfl)
end
theorem t_Mo_ridersOn {l : Launch} {V : St} {N : Nat} {S : St} {p1 : Int32} {r : Int32} (hf : Mo_ridersOn N S p1 = some r) : Ct l (wM V) yX11_ridersOn cX11_ridersOn 4 (some .int) 4 (fun E => [.ref (ea E 44), .int p1]) S (fun E => some (.int r)) S :=
  ofBlock (by decide +kernel) (fun _ => Nat.le_of_ble_eq_true rfl) (fun E p e s m args below meth c ls C hw hl => w_Mo_ridersOn C hw hl hf)
theorem dX11_who_0 : decode cX11_who 0 = .ok (.iload_n 1, 1) := by decide +kernel
theorem dX11_who_1 : decode cX11_who 1 = .ok (.i2l, 1) := by decide +kernel
theorem dX11_who_2 : decode cX11_who 2 = .ok (.invokestatic 101, 3) := by decide +kernel
theorem dX11_who_5 : decode cX11_who 5 = .ok (.ifCond .eq 11, 3) := by decide +kernel
theorem dX11_who_8 : decode cX11_who 8 = .ok (.aload_n 0, 1) := by decide +kernel
theorem dX11_who_9 : decode cX11_who 9 = .ok (.iload_n 1, 1) := by decide +kernel
theorem dX11_who_10 : decode cX11_who 10 = .ok (.invokevirtual 223, 3) := by decide +kernel
theorem dX11_who_13 : decode cX11_who 13 = .ok (.goto 4, 3) := by decide +kernel
theorem dX11_who_16 : decode cX11_who 16 = .ok (.iconst (-1), 1) := by decide +kernel
theorem dX11_who_17 : decode cX11_who 17 = .ok (.ireturn, 1) := by decide +kernel
section
variable {p : Program} {l : Launch} {e : Env} {s : State} {m : MethodId} {args : Array Value} {below : List Frame} {meth : Method} {c : Code} {H : Heap} {locs : List Loc} {E : Ev} {S V : St} {ls : Array Slot}
set_option maxRecDepth 20000 in
theorem w_Mo_who {N : Nat} {p1 : Int32} {r : Int32} (C : Cx p s m args meth c E cX11_who 2 RX11 (some .int)) (hw : Wd E (wM V E) s.heap S H locs) (hl : lv_has ls 2 [(0, .ref (ea E 44)), (1, .int p1)]) (hf : Mo_who N S p1 = some r) : W p l e (rmh 5) s m args below meth c H locs 0 0 (MQ below (QW E (wM V E) (some (.int r)) S) args s 0 0 (eA E)) (F0 m 0 ls []) := by
  have hx := C.1
  have hb := C.2.1
  unfold Mo_who at hf
  refine lv_iload_n hx hb dX11_who_0 rfl (lv_at hl 1 rfl) ?_
  refine lv_i2l hx hb dX11_who_1 rfl ?_
  obtain ⟨r1, hr, hf⟩ := hf_1 hf
  refine inv_Si (As := [.long (Int32.toInt64 p1)]) lk_X11_101 C hw (t_Mo_isDay hr) hl.1 dX11_who_2 rfl (Nat.le_of_ble_eq_true rfl) (by decide) (Nat.le_of_ble_eq_true rfl) rfl (fun H locs hw => ?_)
  refine lv_if_eq (tgt := 16) hx hb dX11_who_5 (by decide) (fun q => ?_) (fun q => ?_)
  · have hf := hf_t q hf
    refine lv_iconst (v := -1) hx hb dX11_who_16 kc_m1 ?_
    exact ret_i C hw dX11_who_17 hf
  · have hf := hf_f q hf
    refine lv_aload_n hx hb dX11_who_8 rfl (lv_at hl 0 rfl) ?_
    refine lv_iload_n hx hb dX11_who_9 rfl (lv_at hl 1 rfl) ?_
    obtain ⟨r2, hr, hf⟩ := hf_1 hf
    refine inv_Vi (q0 := 44) (ci := 11) (As := [.int p1]) lk_X11_223 C hw rfl rfl rfl (t_Mo_ridersOn hr) rfl hl.1 dX11_who_10 rfl (Nat.le_of_ble_eq_true rfl) (by decide) (Nat.le_of_ble_eq_true rfl) rfl (fun H locs hw => ?_)
    refine lv_goto (tgt := 17) hx hb dX11_who_13 (by decide) ?_
    exact ret_i C hw dX11_who_17 hf
end
theorem t_Mo_who {l : Launch} {V : St} {N : Nat} {S : St} {p1 : Int32} {r : Int32} (hf : Mo_who N S p1 = some r) : Ct l (wM V) yX11_who cX11_who 2 (some .int) 5 (fun E => [.ref (ea E 44), .int p1]) S (fun E => some (.int r)) S :=
  ofBlock (by decide +kernel) (fun _ => Nat.le_of_ble_eq_true rfl) (fun E p e s m args below meth c ls C hw hl => w_Mo_who C hw hl hf)
theorem dX11_best_0 : decode cX11_best 0 = .ok (.iload_n 1, 1) := by decide +kernel
theorem dX11_best_1 : decode cX11_best 1 = .ok (.i2l, 1) := by decide +kernel
theorem dX11_best_2 : decode cX11_best 2 = .ok (.lconst 0, 1) := by decide +kernel
theorem dX11_best_3 : decode cX11_best 3 = .ok (.lconst 1, 1) := by decide +kernel
theorem dX11_best_4 : decode cX11_best 4 = .ok (.invokestatic 84, 3) := by decide +kernel
theorem dX11_best_7 : decode cX11_best 7 = .ok (.ifCond .ne 5, 3) := by decide +kernel
theorem dX11_best_10 : decode cX11_best 10 = .ok (.iconst (-1), 1) := by decide +kernel
theorem dX11_best_11 : decode cX11_best 11 = .ok (.ireturn, 1) := by decide +kernel
theorem dX11_best_12 : decode cX11_best 12 = .ok (.iconst 0, 1) := by decide +kernel
theorem dX11_best_13 : decode cX11_best 13 = .ok (.istore_n 2, 1) := by decide +kernel
theorem dX11_best_14 : decode cX11_best 14 = .ok (.iconst (-1), 1) := by decide +kernel
theorem dX11_best_15 : decode cX11_best 15 = .ok (.istore_n 3, 1) := by decide +kernel
theorem dX11_best_16 : decode cX11_best 16 = .ok (.iconst 0, 1) := by decide +kernel
theorem dX11_best_17 : decode cX11_best 17 = .ok (.istore 4, 2) := by decide +kernel
theorem dX11_best_19 : decode cX11_best 19 = .ok (.iload 4, 2) := by decide +kernel
theorem dX11_best_21 : decode cX11_best 21 = .ok (.bipush 99, 2) := by decide +kernel
theorem dX11_best_23 : decode cX11_best 23 = .ok (.if_icmp .gt 32, 3) := by decide +kernel
theorem dX11_best_26 : decode cX11_best 26 = .ok (.aload_n 0, 1) := by decide +kernel
theorem dX11_best_27 : decode cX11_best 27 = .ok (.iload 4, 2) := by decide +kernel
theorem dX11_best_29 : decode cX11_best 29 = .ok (.invokevirtual 223, 3) := by decide +kernel
theorem dX11_best_32 : decode cX11_best 32 = .ok (.invokestatic 226, 3) := by decide +kernel
theorem dX11_best_35 : decode cX11_best 35 = .ok (.istore 5, 2) := by decide +kernel
theorem dX11_best_37 : decode cX11_best 37 = .ok (.iload 5, 2) := by decide +kernel
theorem dX11_best_39 : decode cX11_best 39 = .ok (.iload_n 3, 1) := by decide +kernel
theorem dX11_best_40 : decode cX11_best 40 = .ok (.if_icmp .le 9, 3) := by decide +kernel
theorem dX11_best_43 : decode cX11_best 43 = .ok (.iload 4, 2) := by decide +kernel
theorem dX11_best_45 : decode cX11_best 45 = .ok (.istore_n 2, 1) := by decide +kernel
theorem dX11_best_46 : decode cX11_best 46 = .ok (.iload 5, 2) := by decide +kernel
theorem dX11_best_48 : decode cX11_best 48 = .ok (.istore_n 3, 1) := by decide +kernel
theorem dX11_best_49 : decode cX11_best 49 = .ok (.iinc 4 1, 3) := by decide +kernel
theorem dX11_best_52 : decode cX11_best 52 = .ok (.goto (-33), 3) := by decide +kernel
theorem dX11_best_55 : decode cX11_best 55 = .ok (.iload_n 1, 1) := by decide +kernel
theorem dX11_best_56 : decode cX11_best 56 = .ok (.ifCond .ne 7, 3) := by decide +kernel
theorem dX11_best_59 : decode cX11_best 59 = .ok (.iload_n 2, 1) := by decide +kernel
theorem dX11_best_60 : decode cX11_best 60 = .ok (.goto 4, 3) := by decide +kernel
theorem dX11_best_63 : decode cX11_best 63 = .ok (.iload_n 3, 1) := by decide +kernel
theorem dX11_best_64 : decode cX11_best 64 = .ok (.ireturn, 1) := by decide +kernel
section
variable {p : Program} {l : Launch} {e : Env} {s : State} {m : MethodId} {args : Array Value} {below : List Frame} {meth : Method} {c : Code} {H : Heap} {locs : List Loc} {E : Ev} {S V : St} {ls : Array Slot}
set_option maxRecDepth 20000 in
theorem w_Mo_best_b19 {N : Nat} {k19 : (Int32 × Int32 × Int32) → Option Int32} {l1 : Int32} {l2 : Int32} {l3 : Int32} {l4 : Int32} {r : Int32} (C : Cx p s m args meth c E cX11_best 6 RX11 (some .int)) (hk19 : ∀ x, k19 x = some r → ∀ (H : Heap) (locs : List Loc) (ls : Array Slot), Wd E (wM V E) s.heap S H locs → lv_has ls 6 [(0, .ref (ea E 44)), (1, .int l1), (2, .int x.1), (3, .int x.2.1), (4, .int x.2.2)] → W p l e (rmh 5) s m args below meth c H locs 0 0 (MQ below (QW E (wM V E) (some (.int r)) S) args s 0 0 (eA E)) (F0 m 19 ls [])) (hw : Wd E (wM V E) s.heap S H locs) (hl : lv_has ls 6 [(0, .ref (ea E 44)), (1, .int l1), (2, .int l2), (3, .int l3), (4, .int l4)]) (hf : Mo_best_b19 N k19 S l1 l2 l3 l4 = some r) : W p l e (rmh 5) s m args below meth c H locs 0 0 (MQ below (QW E (wM V E) (some (.int r)) S) args s 0 0 (eA E)) (F0 m 19 ls []) := by
  have hx := C.1
  have hb := C.2.1
  unfold Mo_best_b19 at hf
  refine lv_iload hx hb dX11_best_19 (lv_at hl 4 rfl) ?_
  refine lv_bipush (v := 99) hx hb dX11_best_21 kb_99 ?_
  refine lv_icmp_gt (tgt := 55) hx hb dX11_best_23 (by decide) (fun q => ?_) (fun q => ?_)
  · have hf := hf_t q hf
    refine lv_iload_n hx hb dX11_best_55 rfl (lv_at hl 1 rfl) ?_
    refine lv_if_ne (tgt := 63) hx hb dX11_best_56 (by decide) (fun q => ?_) (fun q => ?_)
    · have hf := hf_f q hf
      refine lv_iload_n hx hb dX11_best_63 rfl (lv_at hl 3 rfl) ?_
      exact ret_i C hw dX11_best_64 hf
    · have hf := hf_t q hf
      refine lv_iload_n hx hb dX11_best_59 rfl (lv_at hl 2 rfl) ?_
      refine lv_goto (tgt := 64) hx hb dX11_best_60 (by decide) ?_
      exact ret_i C hw dX11_best_64 hf
  · have hf := hf_f q hf
    refine lv_aload_n hx hb dX11_best_26 rfl (lv_at hl 0 rfl) ?_
    refine lv_iload hx hb dX11_best_27 (lv_at hl 4 rfl) ?_
    obtain ⟨r1, hr, hf⟩ := hf_1 hf
    refine inv_Vi (q0 := 44) (ci := 11) (As := [.int l4]) lk_X11_223 C hw rfl rfl rfl (t_Mo_ridersOn hr) rfl hl.1 dX11_best_29 rfl (Nat.le_of_ble_eq_true rfl) (by decide) (Nat.le_of_ble_eq_true rfl) rfl (fun H locs hw => ?_)
    obtain ⟨r2, hr, hf⟩ := hf_1 hf
    refine inv_Si (As := [.int r1]) lk_X11_226 C hw (t_Mo_bitsOf hr) hl.1 dX11_best_32 rfl (Nat.le_of_ble_eq_true rfl) (by decide) (Nat.le_of_ble_eq_true rfl) rfl (fun H locs hw => ?_)
    refine lv_istore (lv' := [(5, .int r2), (0, .ref (ea E 44)), (1, .int l1), (2, .int l2), (3, .int l3), (4, .int l4)]) hx hb dX11_best_35 hl (by decide) rfl (fun ls hl => ?_)
    refine lv_iload hx hb dX11_best_37 (lv_at hl 0 rfl) ?_
    refine lv_iload_n hx hb dX11_best_39 rfl (lv_at hl 4 rfl) ?_
    refine lv_icmp_le (tgt := 49) hx hb dX11_best_40 (by decide) (fun q => ?_) (fun q => ?_)
    · have hf := hf_t q hf
      obtain ⟨x3, ex3, hf⟩ := nme hf
      refine lv_iinc (v := x3) (lv' := [(4, .int x3), (5, .int r2), (0, .ref (ea E 44)), (1, .int l1), (2, .int l2), (3, .int l3)]) hx hb dX11_best_49 hl (k := 5) rfl (ki_1 ex3) (by decide) rfl (fun ls hl => ?_)
      refine lv_goto (tgt := 19) hx hb dX11_best_52 (by decide) ?_
      exact hk19 _ hf _ _ _ hw (lv_sub hl [2, 3, 4, 5, 0] rfl)
    · have hf := hf_f q hf
      refine lv_iload hx hb dX11_best_43 (lv_at hl 5 rfl) ?_
      refine lv_istore_n (lv' := [(2, .int l4), (5, .int r2), (0, .ref (ea E 44)), (1, .int l1), (3, .int l3), (4, .int l4)]) hx hb dX11_best_45 rfl hl (by decide) rfl (fun ls hl => ?_)
      refine lv_iload hx hb dX11_best_46 (lv_at hl 1 rfl) ?_
      refine lv_istore_n (lv' := [(3, .int r2), (2, .int l4), (5, .int r2), (0, .ref (ea E 44)), (1, .int l1), (4, .int l4)]) hx hb dX11_best_48 rfl hl (by decide) rfl (fun ls hl => ?_)
      obtain ⟨x4, ex4, hf⟩ := nme hf
      refine lv_iinc (v := x4) (lv' := [(4, .int x4), (3, .int r2), (2, .int l4), (5, .int r2), (0, .ref (ea E 44)), (1, .int l1)]) hx hb dX11_best_49 hl (k := 5) rfl (ki_1 ex4) (by decide) rfl (fun ls hl => ?_)
      refine lv_goto (tgt := 19) hx hb dX11_best_52 (by decide) ?_
      exact hk19 _ hf _ _ _ hw (lv_sub hl [4, 5, 2, 1, 0] rfl)
theorem w_Mo_best_L19 {N : Nat} {l1 : Int32} {r : Int32} (C : Cx p s m args meth c E cX11_best 6 RX11 (some .int)) : ∀ x, Mo_best_L19 N S l1 x = some r → ∀ (H : Heap) (locs : List Loc) (ls : Array Slot), Wd E (wM V E) s.heap S H locs → lv_has ls 6 [(0, .ref (ea E 44)), (1, .int l1), (2, .int x.1), (3, .int x.2.1), (4, .int x.2.2)] → W p l e (rmh 5) s m args below meth c H locs 0 0 (MQ below (QW E (wM V E) (some (.int r)) S) args s 0 0 (eA E)) (F0 m 19 ls []) :=
  lp_W (fun k x hk hf H locs ls hw hl => w_Mo_best_b19 C hk hw hl hf) N
set_option maxRecDepth 20000 in
theorem w_Mo_best {N : Nat} {p1 : Int32} {r : Int32} (C : Cx p s m args meth c E cX11_best 6 RX11 (some .int)) (hw : Wd E (wM V E) s.heap S H locs) (hl : lv_has ls 6 [(0, .ref (ea E 44)), (1, .int p1)]) (hf : Mo_best N S p1 = some r) : W p l e (rmh 5) s m args below meth c H locs 0 0 (MQ below (QW E (wM V E) (some (.int r)) S) args s 0 0 (eA E)) (F0 m 0 ls []) := by
  have hx := C.1
  have hb := C.2.1
  unfold Mo_best at hf
  refine lv_iload_n hx hb dX11_best_0 rfl (lv_at hl 1 rfl) ?_
  refine lv_i2l hx hb dX11_best_1 rfl ?_
  refine lv_lconst (v := 0) hx hb dX11_best_2 rfl ?_
  refine lv_lconst (v := 1) hx hb dX11_best_3 rfl ?_
  obtain ⟨r1, hr, hf⟩ := hf_1 hf
  refine inv_Si (As := [.long (Int32.toInt64 p1), .long (0 : Int64), .long (1 : Int64)]) lk_X11_84 C hw (t_Mo_within hr) hl.1 dX11_best_4 rfl (Nat.le_of_ble_eq_true rfl) (by decide) (Nat.le_of_ble_eq_true rfl) rfl (fun H locs hw => ?_)
  refine lv_if_ne (tgt := 12) hx hb dX11_best_7 (by decide) (fun q => ?_) (fun q => ?_)
  · have hf := hf_f q hf
    refine lv_iconst (v := 0) hx hb dX11_best_12 kc_0 ?_
    refine lv_istore_n (lv' := [(2, .int (0 : Int32)), (0, .ref (ea E 44)), (1, .int p1)]) hx hb dX11_best_13 rfl hl (by decide) rfl (fun ls hl => ?_)
    refine lv_iconst (v := -1) hx hb dX11_best_14 kc_m1 ?_
    refine lv_istore_n (lv' := [(3, .int (-1 : Int32)), (2, .int (0 : Int32)), (0, .ref (ea E 44)), (1, .int p1)]) hx hb dX11_best_15 rfl hl (by decide) rfl (fun ls hl => ?_)
    refine lv_iconst (v := 0) hx hb dX11_best_16 kc_0 ?_
    refine lv_istore (lv' := [(4, .int (0 : Int32)), (3, .int (-1 : Int32)), (2, .int (0 : Int32)), (0, .ref (ea E 44)), (1, .int p1)]) hx hb dX11_best_17 hl (by decide) rfl (fun ls hl => ?_)
    exact w_Mo_best_L19 C _ hf _ _ _ hw (lv_sub hl [3, 4, 2, 1, 0] rfl)
  · have hf := hf_t q hf
    refine lv_iconst (v := -1) hx hb dX11_best_10 kc_m1 ?_
    exact ret_i C hw dX11_best_11 hf
end
theorem t_Mo_best {l : Launch} {V : St} {N : Nat} {S : St} {p1 : Int32} {r : Int32} (hf : Mo_best N S p1 = some r) : Ct l (wM V) yX11_best cX11_best 6 (some .int) 5 (fun E => [.ref (ea E 44), .int p1]) S (fun E => some (.int r)) S :=
  ofBlock (by decide +kernel) (fun _ => Nat.le_of_ble_eq_true rfl) (fun E p e s m args below meth c ls C hw hl => w_Mo_best C hw hl hf)
theorem dX11_ownOpen_0 : decode cX11_ownOpen 0 = .ok (.iconst 0, 1) := by decide +kernel
theorem dX11_ownOpen_1 : decode cX11_ownOpen 1 = .ok (.istore_n 3, 1) := by decide +kernel
theorem dX11_ownOpen_2 : decode cX11_ownOpen 2 = .ok (.iconst 0, 1) := by decide +kernel
theorem dX11_ownOpen_3 : decode cX11_ownOpen 3 = .ok (.istore 4, 2) := by decide +kernel
theorem dX11_ownOpen_5 : decode cX11_ownOpen 5 = .ok (.iload 4, 2) := by decide +kernel
theorem dX11_ownOpen_7 : decode cX11_ownOpen 7 = .ok (.aload_n 0, 1) := by decide +kernel
theorem dX11_ownOpen_8 : decode cX11_ownOpen 8 = .ok (.getfield 88, 3) := by decide +kernel
theorem dX11_ownOpen_11 : decode cX11_ownOpen 11 = .ok (.if_icmp .ge 41, 3) := by decide +kernel
theorem dX11_ownOpen_14 : decode cX11_ownOpen 14 = .ok (.iload_n 3, 1) := by decide +kernel
theorem dX11_ownOpen_15 : decode cX11_ownOpen 15 = .ok (.aload_n 0, 1) := by decide +kernel
theorem dX11_ownOpen_16 : decode cX11_ownOpen 16 = .ok (.getfield 22, 3) := by decide +kernel
theorem dX11_ownOpen_19 : decode cX11_ownOpen 19 = .ok (.iload 4, 2) := by decide +kernel
theorem dX11_ownOpen_21 : decode cX11_ownOpen 21 = .ok (.iaload, 1) := by decide +kernel
theorem dX11_ownOpen_22 : decode cX11_ownOpen 22 = .ok (.iload_n 1, 1) := by decide +kernel
theorem dX11_ownOpen_23 : decode cX11_ownOpen 23 = .ok (.if_icmp .ne 20, 3) := by decide +kernel
theorem dX11_ownOpen_26 : decode cX11_ownOpen 26 = .ok (.aload_n 0, 1) := by decide +kernel
theorem dX11_ownOpen_27 : decode cX11_ownOpen 27 = .ok (.iload 4, 2) := by decide +kernel
theorem dX11_ownOpen_29 : decode cX11_ownOpen 29 = .ok (.iload_n 2, 1) := by decide +kernel
theorem dX11_ownOpen_30 : decode cX11_ownOpen 30 = .ok (.invokevirtual 202, 3) := by decide +kernel
theorem dX11_ownOpen_33 : decode cX11_ownOpen 33 = .ok (.ifCond .eq 10, 3) := by decide +kernel
theorem dX11_ownOpen_36 : decode cX11_ownOpen 36 = .ok (.iconst 1, 1) := by decide +kernel
theorem dX11_ownOpen_37 : decode cX11_ownOpen 37 = .ok (.iload 4, 2) := by decide +kernel
theorem dX11_ownOpen_39 : decode cX11_ownOpen 39 = .ok (.ishl, 1) := by decide +kernel
theorem dX11_ownOpen_40 : decode cX11_ownOpen 40 = .ok (.goto 4, 3) := by decide +kernel
theorem dX11_ownOpen_43 : decode cX11_ownOpen 43 = .ok (.iconst 0, 1) := by decide +kernel
theorem dX11_ownOpen_44 : decode cX11_ownOpen 44 = .ok (.ior, 1) := by decide +kernel
theorem dX11_ownOpen_45 : decode cX11_ownOpen 45 = .ok (.istore_n 3, 1) := by decide +kernel
theorem dX11_ownOpen_46 : decode cX11_ownOpen 46 = .ok (.iinc 4 1, 3) := by decide +kernel
theorem dX11_ownOpen_49 : decode cX11_ownOpen 49 = .ok (.goto (-44), 3) := by decide +kernel
theorem dX11_ownOpen_52 : decode cX11_ownOpen 52 = .ok (.iload_n 3, 1) := by decide +kernel
theorem dX11_ownOpen_53 : decode cX11_ownOpen 53 = .ok (.ireturn, 1) := by decide +kernel
section
variable {p : Program} {l : Launch} {e : Env} {s : State} {m : MethodId} {args : Array Value} {below : List Frame} {meth : Method} {c : Code} {H : Heap} {locs : List Loc} {E : Ev} {S V : St} {ls : Array Slot}
set_option maxRecDepth 20000 in
theorem w_Mo_ownOpen_b43 {N : Nat} {k5 : (Int32 × Int32) → Option Int32} {l1 : Int32} {l2 : Int32} {l4 : Int32} {s0 : Int32} {r : Int32} (C : Cx p s m args meth c E cX11_ownOpen 5 RX11 (some .int)) (hk5 : ∀ x, k5 x = some r → ∀ (H : Heap) (locs : List Loc) (ls : Array Slot), Wd E (wM V E) s.heap S H locs → lv_has ls 5 [(0, .ref (ea E 44)), (1, .int l1), (2, .int l2), (3, .int x.1), (4, .int x.2)] → W p l e (rmh 2) s m args below meth c H locs 0 0 (MQ below (QW E (wM V E) (some (.int r)) S) args s 0 0 (eA E)) (F0 m 5 ls [])) (hw : Wd E (wM V E) s.heap S H locs) (hl : lv_has ls 5 [(0, .ref (ea E 44)), (1, .int l1), (2, .int l2), (4, .int l4)]) (hf : Mo_ownOpen_b43 N k5 S l1 l2 l4 s0 = some r) : W p l e (rmh 2) s m args below meth c H locs 0 0 (MQ below (QW E (wM V E) (some (.int r)) S) args s 0 0 (eA E)) (F0 m 43 ls [.int s0]) := by
  have hx := C.1
  have hb := C.2.1
  unfold Mo_ownOpen_b43 at hf
  refine lv_iconst (v := 0) hx hb dX11_ownOpen_43 kc_0 ?_
  refine lv_ior hx hb dX11_ownOpen_44 ?_
  refine nm_i hf (fun x1 hf => ?_)
  refine lv_istore_n (lv' := [(3, .int x1), (0, .ref (ea E 44)), (1, .int l1), (2, .int l2), (4, .int l4)]) hx hb dX11_ownOpen_45 rfl hl (by decide) rfl (fun ls hl => ?_)
  obtain ⟨x2, ex2, hf⟩ := nme hf
  refine lv_iinc (v := x2) (lv' := [(4, .int x2), (3, .int x1), (0, .ref (ea E 44)), (1, .int l1), (2, .int l2)]) hx hb dX11_ownOpen_46 hl (k := 4) rfl (ki_1 ex2) (by decide) rfl (fun ls hl => ?_)
  refine lv_goto (tgt := 5) hx hb dX11_ownOpen_49 (by decide) ?_
  exact hk5 _ hf _ _ _ hw (lv_sub hl [2, 3, 4, 1, 0] rfl)
set_option maxRecDepth 20000 in
theorem w_Mo_ownOpen_b5 {N : Nat} {k5 : (Int32 × Int32) → Option Int32} {l1 : Int32} {l2 : Int32} {l3 : Int32} {l4 : Int32} {r : Int32} (C : Cx p s m args meth c E cX11_ownOpen 5 RX11 (some .int)) (hk5 : ∀ x, k5 x = some r → ∀ (H : Heap) (locs : List Loc) (ls : Array Slot), Wd E (wM V E) s.heap S H locs → lv_has ls 5 [(0, .ref (ea E 44)), (1, .int l1), (2, .int l2), (3, .int x.1), (4, .int x.2)] → W p l e (rmh 2) s m args below meth c H locs 0 0 (MQ below (QW E (wM V E) (some (.int r)) S) args s 0 0 (eA E)) (F0 m 5 ls [])) (hw : Wd E (wM V E) s.heap S H locs) (hl : lv_has ls 5 [(0, .ref (ea E 44)), (1, .int l1), (2, .int l2), (3, .int l3), (4, .int l4)]) (hf : Mo_ownOpen_b5 N k5 S l1 l2 l3 l4 = some r) : W p l e (rmh 2) s m args below meth c H locs 0 0 (MQ below (QW E (wM V E) (some (.int r)) S) args s 0 0 (eA E)) (F0 m 5 ls []) := by
  have hx := C.1
  have hb := C.2.1
  unfold Mo_ownOpen_b5 at hf
  refine lv_iload hx hb dX11_ownOpen_5 (lv_at hl 4 rfl) ?_
  refine lv_aload_n hx hb dX11_ownOpen_7 rfl (lv_at hl 0 rfl) ?_
  refine get_44_7 C hw q_1158 dX11_ownOpen_8 ?_
  refine lv_icmp_ge (tgt := 52) hx hb dX11_ownOpen_11 (by decide) (fun q => ?_) (fun q => ?_)
  · have hf := hf_t q hf
    refine lv_iload_n hx hb dX11_ownOpen_52 rfl (lv_at hl 3 rfl) ?_
    exact ret_i C hw dX11_ownOpen_53 hf
  · have hf := hf_f q hf
    refine lv_iload_n hx hb dX11_ownOpen_14 rfl (lv_at hl 3 rfl) ?_
    refine lv_aload_n hx hb dX11_ownOpen_15 rfl (lv_at hl 0 rfl) ?_
    refine get_44_8 C hw q_1159 dX11_ownOpen_16 ?_
    refine lv_iload hx hb dX11_ownOpen_19 (lv_at hl 4 rfl) ?_
    obtain ⟨hc, hf⟩ := hf_ck hf
    refine ld_49 C hw hc dX11_ownOpen_21 ?_
    refine lv_iload_n hx hb dX11_ownOpen_22 rfl (lv_at hl 1 rfl) ?_
    refine lv_icmp_ne (tgt := 43) hx hb dX11_ownOpen_23 (by decide) (fun q => ?_) (fun q => ?_)
    · have hf := hf_f q hf
      exact w_Mo_ownOpen_b43 C hk5 hw (lv_sub hl [0, 1, 2, 4] rfl) hf
    · have hf := hf_t q hf
      refine lv_aload_n hx hb dX11_ownOpen_26 rfl (lv_at hl 0 rfl) ?_
      refine lv_iload hx hb dX11_ownOpen_27 (lv_at hl 4 rfl) ?_
      refine lv_iload_n hx hb dX11_ownOpen_29 rfl (lv_at hl 2 rfl) ?_
      obtain ⟨r1, hr, hf⟩ := hf_1 hf
      refine inv_Vi (q0 := 44) (ci := 11) (As := [.int l4, .int l2]) lk_X11_202 C hw rfl rfl rfl (t_Mo_isOpen hr) rfl hl.1 dX11_ownOpen_30 rfl (Nat.le_of_ble_eq_true rfl) (by decide) (Nat.le_of_ble_eq_true rfl) rfl (fun H locs hw => ?_)
      refine lv_if_eq (tgt := 43) hx hb dX11_ownOpen_33 (by decide) (fun q => ?_) (fun q => ?_)
      · have hf := hf_t q hf
        exact w_Mo_ownOpen_b43 C hk5 hw (lv_sub hl [0, 1, 2, 4] rfl) hf
      · have hf := hf_f q hf
        refine lv_iconst (v := 1) hx hb dX11_ownOpen_36 kc_1 ?_
        refine lv_iload hx hb dX11_ownOpen_37 (lv_at hl 4 rfl) ?_
        refine lv_ishl hx hb dX11_ownOpen_39 ?_
        refine lv_goto (tgt := 44) hx hb dX11_ownOpen_40 (by decide) ?_
        refine lv_ior hx hb dX11_ownOpen_44 ?_
        refine nm_i hf (fun x2 hf => ?_)
        refine lv_istore_n (lv' := [(3, .int x2), (0, .ref (ea E 44)), (1, .int l1), (2, .int l2), (4, .int l4)]) hx hb dX11_ownOpen_45 rfl hl (by decide) rfl (fun ls hl => ?_)
        obtain ⟨x3, ex3, hf⟩ := nme hf
        refine lv_iinc (v := x3) (lv' := [(4, .int x3), (3, .int x2), (0, .ref (ea E 44)), (1, .int l1), (2, .int l2)]) hx hb dX11_ownOpen_46 hl (k := 4) rfl (ki_1 ex3) (by decide) rfl (fun ls hl => ?_)
        refine lv_goto (tgt := 5) hx hb dX11_ownOpen_49 (by decide) ?_
        exact hk5 _ hf _ _ _ hw (lv_sub hl [2, 3, 4, 1, 0] rfl)
theorem w_Mo_ownOpen_L5 {N : Nat} {l1 : Int32} {l2 : Int32} {r : Int32} (C : Cx p s m args meth c E cX11_ownOpen 5 RX11 (some .int)) : ∀ x, Mo_ownOpen_L5 N S l1 l2 x = some r → ∀ (H : Heap) (locs : List Loc) (ls : Array Slot), Wd E (wM V E) s.heap S H locs → lv_has ls 5 [(0, .ref (ea E 44)), (1, .int l1), (2, .int l2), (3, .int x.1), (4, .int x.2)] → W p l e (rmh 2) s m args below meth c H locs 0 0 (MQ below (QW E (wM V E) (some (.int r)) S) args s 0 0 (eA E)) (F0 m 5 ls []) :=
  lp_W (fun k x hk hf H locs ls hw hl => w_Mo_ownOpen_b5 C hk hw hl hf) N
set_option maxRecDepth 20000 in
theorem w_Mo_ownOpen {N : Nat} {p1 : Int32} {p2 : Int32} {r : Int32} (C : Cx p s m args meth c E cX11_ownOpen 5 RX11 (some .int)) (hw : Wd E (wM V E) s.heap S H locs) (hl : lv_has ls 5 [(0, .ref (ea E 44)), (1, .int p1), (2, .int p2)]) (hf : Mo_ownOpen N S p1 p2 = some r) : W p l e (rmh 2) s m args below meth c H locs 0 0 (MQ below (QW E (wM V E) (some (.int r)) S) args s 0 0 (eA E)) (F0 m 0 ls []) := by
  have hx := C.1
  have hb := C.2.1
  unfold Mo_ownOpen at hf
  refine lv_iconst (v := 0) hx hb dX11_ownOpen_0 kc_0 ?_
  refine lv_istore_n (lv' := [(3, .int (0 : Int32)), (0, .ref (ea E 44)), (1, .int p1), (2, .int p2)]) hx hb dX11_ownOpen_1 rfl hl (by decide) rfl (fun ls hl => ?_)
  refine lv_iconst (v := 0) hx hb dX11_ownOpen_2 kc_0 ?_
  refine lv_istore (lv' := [(4, .int (0 : Int32)), (3, .int (0 : Int32)), (0, .ref (ea E 44)), (1, .int p1), (2, .int p2)]) hx hb dX11_ownOpen_3 hl (by decide) rfl (fun ls hl => ?_)
  exact w_Mo_ownOpen_L5 C _ hf _ _ _ hw (lv_sub hl [2, 3, 4, 1, 0] rfl)
end
theorem t_Mo_ownOpen {l : Launch} {V : St} {N : Nat} {S : St} {p1 : Int32} {p2 : Int32} {r : Int32} (hf : Mo_ownOpen N S p1 p2 = some r) : Ct l (wM V) yX11_ownOpen cX11_ownOpen 5 (some .int) 2 (fun E => [.ref (ea E 44), .int p1, .int p2]) S (fun E => some (.int r)) S :=
  ofBlock (by decide +kernel) (fun _ => Nat.le_of_ble_eq_true rfl) (fun E p e s m args below meth c ls C hw hl => w_Mo_ownOpen C hw hl hf)
theorem dX11_linksOf_0 : decode cX11_linksOf 0 = .ok (.iconst 0, 1) := by decide +kernel
theorem dX11_linksOf_1 : decode cX11_linksOf 1 = .ok (.istore_n 2, 1) := by decide +kernel
theorem dX11_linksOf_2 : decode cX11_linksOf 2 = .ok (.iconst 0, 1) := by decide +kernel
theorem dX11_linksOf_3 : decode cX11_linksOf 3 = .ok (.istore_n 3, 1) := by decide +kernel
theorem dX11_linksOf_4 : decode cX11_linksOf 4 = .ok (.iload_n 3, 1) := by decide +kernel
theorem dX11_linksOf_5 : decode cX11_linksOf 5 = .ok (.aload_n 0, 1) := by decide +kernel
theorem dX11_linksOf_6 : decode cX11_linksOf 6 = .ok (.getfield 88, 3) := by decide +kernel
theorem dX11_linksOf_9 : decode cX11_linksOf 9 = .ok (.if_icmp .ge 33, 3) := by decide +kernel
theorem dX11_linksOf_12 : decode cX11_linksOf 12 = .ok (.iload_n 2, 1) := by decide +kernel
theorem dX11_linksOf_13 : decode cX11_linksOf 13 = .ok (.iload_n 1, 1) := by decide +kernel
theorem dX11_linksOf_14 : decode cX11_linksOf 14 = .ok (.iload_n 3, 1) := by decide +kernel
theorem dX11_linksOf_15 : decode cX11_linksOf 15 = .ok (.invokestatic 229, 3) := by decide +kernel
theorem dX11_linksOf_18 : decode cX11_linksOf 18 = .ok (.ifCond .eq 15, 3) := by decide +kernel
theorem dX11_linksOf_21 : decode cX11_linksOf 21 = .ok (.aload_n 0, 1) := by decide +kernel
theorem dX11_linksOf_22 : decode cX11_linksOf 22 = .ok (.getfield 9, 3) := by decide +kernel
theorem dX11_linksOf_25 : decode cX11_linksOf 25 = .ok (.bipush 28, 2) := by decide +kernel
theorem dX11_linksOf_27 : decode cX11_linksOf 27 = .ok (.iload_n 3, 1) := by decide +kernel
theorem dX11_linksOf_28 : decode cX11_linksOf 28 = .ok (.iadd, 1) := by decide +kernel
theorem dX11_linksOf_29 : decode cX11_linksOf 29 = .ok (.iaload, 1) := by decide +kernel
theorem dX11_linksOf_30 : decode cX11_linksOf 30 = .ok (.goto 4, 3) := by decide +kernel
theorem dX11_linksOf_33 : decode cX11_linksOf 33 = .ok (.iconst 0, 1) := by decide +kernel
theorem dX11_linksOf_34 : decode cX11_linksOf 34 = .ok (.iadd, 1) := by decide +kernel
theorem dX11_linksOf_35 : decode cX11_linksOf 35 = .ok (.istore_n 2, 1) := by decide +kernel
theorem dX11_linksOf_36 : decode cX11_linksOf 36 = .ok (.iinc 3 1, 3) := by decide +kernel
theorem dX11_linksOf_39 : decode cX11_linksOf 39 = .ok (.goto (-35), 3) := by decide +kernel
theorem dX11_linksOf_42 : decode cX11_linksOf 42 = .ok (.iload_n 2, 1) := by decide +kernel
theorem dX11_linksOf_43 : decode cX11_linksOf 43 = .ok (.ireturn, 1) := by decide +kernel
section
variable {p : Program} {l : Launch} {e : Env} {s : State} {m : MethodId} {args : Array Value} {below : List Frame} {meth : Method} {c : Code} {H : Heap} {locs : List Loc} {E : Ev} {S V : St} {ls : Array Slot}
set_option maxRecDepth 20000 in
theorem w_Mo_linksOf_b4 {N : Nat} {k4 : (Int32 × Int32) → Option Int32} {l1 : Int32} {l2 : Int32} {l3 : Int32} {r : Int32} (C : Cx p s m args meth c E cX11_linksOf 4 RX11 (some .int)) (hk4 : ∀ x, k4 x = some r → ∀ (H : Heap) (locs : List Loc) (ls : Array Slot), Wd E (wM V E) s.heap S H locs → lv_has ls 4 [(0, .ref (ea E 44)), (1, .int l1), (2, .int x.1), (3, .int x.2)] → W p l e (rmh 2) s m args below meth c H locs 0 0 (MQ below (QW E (wM V E) (some (.int r)) S) args s 0 0 (eA E)) (F0 m 4 ls [])) (hw : Wd E (wM V E) s.heap S H locs) (hl : lv_has ls 4 [(0, .ref (ea E 44)), (1, .int l1), (2, .int l2), (3, .int l3)]) (hf : Mo_linksOf_b4 N k4 S l1 l2 l3 = some r) : W p l e (rmh 2) s m args below meth c H locs 0 0 (MQ below (QW E (wM V E) (some (.int r)) S) args s 0 0 (eA E)) (F0 m 4 ls []) := by
  have hx := C.1
  have hb := C.2.1
  unfold Mo_linksOf_b4 at hf
  refine lv_iload_n hx hb dX11_linksOf_4 rfl (lv_at hl 3 rfl) ?_
  refine lv_aload_n hx hb dX11_linksOf_5 rfl (lv_at hl 0 rfl) ?_
  refine get_44_7 C hw q_1158 dX11_linksOf_6 ?_
  refine lv_icmp_ge (tgt := 42) hx hb dX11_linksOf_9 (by decide) (fun q => ?_) (fun q => ?_)
  · have hf := hf_t q hf
    refine lv_iload_n hx hb dX11_linksOf_42 rfl (lv_at hl 2 rfl) ?_
    exact ret_i C hw dX11_linksOf_43 hf
  · have hf := hf_f q hf
    refine lv_iload_n hx hb dX11_linksOf_12 rfl (lv_at hl 2 rfl) ?_
    refine lv_iload_n hx hb dX11_linksOf_13 rfl (lv_at hl 1 rfl) ?_
    refine lv_iload_n hx hb dX11_linksOf_14 rfl (lv_at hl 3 rfl) ?_
    obtain ⟨r1, hr, hf⟩ := hf_1 hf
    refine inv_Si (As := [.int l1, .int l3]) lk_X11_229 C hw (t_Mo_isIn hr) hl.1 dX11_linksOf_15 rfl (Nat.le_of_ble_eq_true rfl) (by decide) (Nat.le_of_ble_eq_true rfl) rfl (fun H locs hw => ?_)
    refine lv_if_eq (tgt := 33) hx hb dX11_linksOf_18 (by decide) (fun q => ?_) (fun q => ?_)
    · have hf := hf_t q hf
      refine lv_iconst (v := 0) hx hb dX11_linksOf_33 kc_0 ?_
      refine lv_iadd hx hb dX11_linksOf_34 ?_
      refine nm_i hf (fun x2 hf => ?_)
      refine lv_istore_n (lv' := [(2, .int x2), (0, .ref (ea E 44)), (1, .int l1), (3, .int l3)]) hx hb dX11_linksOf_35 rfl hl (by decide) rfl (fun ls hl => ?_)
      obtain ⟨x3, ex3, hf⟩ := nme hf
      refine lv_iinc (v := x3) (lv' := [(3, .int x3), (2, .int x2), (0, .ref (ea E 44)), (1, .int l1)]) hx hb dX11_linksOf_36 hl (k := 3) rfl (ki_1 ex3) (by decide) rfl (fun ls hl => ?_)
      refine lv_goto (tgt := 4) hx hb dX11_linksOf_39 (by decide) ?_
      exact hk4 _ hf _ _ _ hw (lv_sub hl [2, 3, 1, 0] rfl)
    · have hf := hf_f q hf
      refine lv_aload_n hx hb dX11_linksOf_21 rfl (lv_at hl 0 rfl) ?_
      refine get_44_0 C hw q_1151 dX11_linksOf_22 ?_
      refine lv_bipush (v := 28) hx hb dX11_linksOf_25 kb_28 ?_
      refine lv_iload_n hx hb dX11_linksOf_27 rfl (lv_at hl 3 rfl) ?_
      refine lv_iadd hx hb dX11_linksOf_28 ?_
      obtain ⟨hc, hf⟩ := hf_ck hf
      refine ld_45 C hw hc dX11_linksOf_29 ?_
      refine lv_goto (tgt := 34) hx hb dX11_linksOf_30 (by decide) ?_
      refine lv_iadd hx hb dX11_linksOf_34 ?_
      refine nm_i hf (fun x4 hf => ?_)
      refine lv_istore_n (lv' := [(2, .int x4), (0, .ref (ea E 44)), (1, .int l1), (3, .int l3)]) hx hb dX11_linksOf_35 rfl hl (by decide) rfl (fun ls hl => ?_)
      obtain ⟨x5, ex5, hf⟩ := nme hf
      refine lv_iinc (v := x5) (lv' := [(3, .int x5), (2, .int x4), (0, .ref (ea E 44)), (1, .int l1)]) hx hb dX11_linksOf_36 hl (k := 3) rfl (ki_1 ex5) (by decide) rfl (fun ls hl => ?_)
      refine lv_goto (tgt := 4) hx hb dX11_linksOf_39 (by decide) ?_
      exact hk4 _ hf _ _ _ hw (lv_sub hl [2, 3, 1, 0] rfl)
theorem w_Mo_linksOf_L4 {N : Nat} {l1 : Int32} {r : Int32} (C : Cx p s m args meth c E cX11_linksOf 4 RX11 (some .int)) : ∀ x, Mo_linksOf_L4 N S l1 x = some r → ∀ (H : Heap) (locs : List Loc) (ls : Array Slot), Wd E (wM V E) s.heap S H locs → lv_has ls 4 [(0, .ref (ea E 44)), (1, .int l1), (2, .int x.1), (3, .int x.2)] → W p l e (rmh 2) s m args below meth c H locs 0 0 (MQ below (QW E (wM V E) (some (.int r)) S) args s 0 0 (eA E)) (F0 m 4 ls []) :=
  lp_W (fun k x hk hf H locs ls hw hl => w_Mo_linksOf_b4 C hk hw hl hf) N
set_option maxRecDepth 20000 in
theorem w_Mo_linksOf {N : Nat} {p1 : Int32} {r : Int32} (C : Cx p s m args meth c E cX11_linksOf 4 RX11 (some .int)) (hw : Wd E (wM V E) s.heap S H locs) (hl : lv_has ls 4 [(0, .ref (ea E 44)), (1, .int p1)]) (hf : Mo_linksOf N S p1 = some r) : W p l e (rmh 2) s m args below meth c H locs 0 0 (MQ below (QW E (wM V E) (some (.int r)) S) args s 0 0 (eA E)) (F0 m 0 ls []) := by
  have hx := C.1
  have hb := C.2.1
  unfold Mo_linksOf at hf
  refine lv_iconst (v := 0) hx hb dX11_linksOf_0 kc_0 ?_
  refine lv_istore_n (lv' := [(2, .int (0 : Int32)), (0, .ref (ea E 44)), (1, .int p1)]) hx hb dX11_linksOf_1 rfl hl (by decide) rfl (fun ls hl => ?_)
  refine lv_iconst (v := 0) hx hb dX11_linksOf_2 kc_0 ?_
  refine lv_istore_n (lv' := [(3, .int (0 : Int32)), (2, .int (0 : Int32)), (0, .ref (ea E 44)), (1, .int p1)]) hx hb dX11_linksOf_3 rfl hl (by decide) rfl (fun ls hl => ?_)
  exact w_Mo_linksOf_L4 C _ hf _ _ _ hw (lv_sub hl [2, 3, 1, 0] rfl)
end
theorem t_Mo_linksOf {l : Launch} {V : St} {N : Nat} {S : St} {p1 : Int32} {r : Int32} (hf : Mo_linksOf N S p1 = some r) : Ct l (wM V) yX11_linksOf cX11_linksOf 4 (some .int) 2 (fun E => [.ref (ea E 44), .int p1]) S (fun E => some (.int r)) S :=
  ofBlock (by decide +kernel) (fun _ => Nat.le_of_ble_eq_true rfl) (fun E p e s m args below meth c ls C hw hl => w_Mo_linksOf C hw hl hf)
theorem dX11_lets_0 : decode cX11_lets 0 = .ok (.iload_n 3, 1) := by decide +kernel
theorem dX11_lets_1 : decode cX11_lets 1 = .ok (.aload_n 0, 1) := by decide +kernel
theorem dX11_lets_2 : decode cX11_lets 2 = .ok (.iload_n 1, 1) := by decide +kernel
theorem dX11_lets_3 : decode cX11_lets 3 = .ok (.iload_n 2, 1) := by decide +kernel
theorem dX11_lets_4 : decode cX11_lets 4 = .ok (.invokevirtual 232, 3) := by decide +kernel
theorem dX11_lets_7 : decode cX11_lets 7 = .ok (.iconst (-1), 1) := by decide +kernel
theorem dX11_lets_8 : decode cX11_lets 8 = .ok (.ixor, 1) := by decide +kernel
theorem dX11_lets_9 : decode cX11_lets 9 = .ok (.iand, 1) := by decide +kernel
theorem dX11_lets_10 : decode cX11_lets 10 = .ok (.ifCond .ne 27, 3) := by decide +kernel
theorem dX11_lets_13 : decode cX11_lets 13 = .ok (.aload_n 0, 1) := by decide +kernel
theorem dX11_lets_14 : decode cX11_lets 14 = .ok (.iload_n 1, 1) := by decide +kernel
theorem dX11_lets_15 : decode cX11_lets 15 = .ok (.aload_n 0, 1) := by decide +kernel
theorem dX11_lets_16 : decode cX11_lets 16 = .ok (.iload_n 1, 1) := by decide +kernel
theorem dX11_lets_17 : decode cX11_lets 17 = .ok (.iload_n 2, 1) := by decide +kernel
theorem dX11_lets_18 : decode cX11_lets 18 = .ok (.invokevirtual 205, 3) := by decide +kernel
theorem dX11_lets_21 : decode cX11_lets 21 = .ok (.aload_n 0, 1) := by decide +kernel
theorem dX11_lets_22 : decode cX11_lets 22 = .ok (.iload_n 3, 1) := by decide +kernel
theorem dX11_lets_23 : decode cX11_lets 23 = .ok (.invokevirtual 235, 3) := by decide +kernel
theorem dX11_lets_26 : decode cX11_lets 26 = .ok (.isub, 1) := by decide +kernel
theorem dX11_lets_27 : decode cX11_lets 27 = .ok (.invokevirtual 208, 3) := by decide +kernel
theorem dX11_lets_30 : decode cX11_lets 30 = .ok (.ifCond .eq 7, 3) := by decide +kernel
theorem dX11_lets_33 : decode cX11_lets 33 = .ok (.iconst 1, 1) := by decide +kernel
theorem dX11_lets_34 : decode cX11_lets 34 = .ok (.goto 4, 3) := by decide +kernel
theorem dX11_lets_37 : decode cX11_lets 37 = .ok (.iconst 0, 1) := by decide +kernel
theorem dX11_lets_38 : decode cX11_lets 38 = .ok (.ireturn, 1) := by decide +kernel
section
variable {p : Program} {l : Launch} {e : Env} {s : State} {m : MethodId} {args : Array Value} {below : List Frame} {meth : Method} {c : Code} {H : Heap} {locs : List Loc} {E : Ev} {S V : St} {ls : Array Slot}
set_option maxRecDepth 20000 in
theorem w_Mo_lets {N : Nat} {p1 : Int32} {p2 : Int32} {p3 : Int32} {r : Int32} (C : Cx p s m args meth c E cX11_lets 4 RX11 (some .boolean)) (hw : Wd E (wM V E) s.heap S H locs) (hl : lv_has ls 4 [(0, .ref (ea E 44)), (1, .int p1), (2, .int p2), (3, .int p3)]) (hf : Mo_lets N S p1 p2 p3 = some r) : W p l e (rmh 3) s m args below meth c H locs 0 0 (MQ below (QW E (wM V E) (some (.int r)) S) args s 0 0 (eA E)) (F0 m 0 ls []) := by
  have hx := C.1
  have hb := C.2.1
  unfold Mo_lets at hf
  refine lv_iload_n hx hb dX11_lets_0 rfl (lv_at hl 3 rfl) ?_
  refine lv_aload_n hx hb dX11_lets_1 rfl (lv_at hl 0 rfl) ?_
  refine lv_iload_n hx hb dX11_lets_2 rfl (lv_at hl 1 rfl) ?_
  refine lv_iload_n hx hb dX11_lets_3 rfl (lv_at hl 2 rfl) ?_
  obtain ⟨r1, hr, hf⟩ := hf_1 hf
  refine inv_Vi (q0 := 44) (ci := 11) (As := [.int p1, .int p2]) lk_X11_232 C hw rfl rfl rfl (t_Mo_ownOpen hr) rfl hl.1 dX11_lets_4 rfl (Nat.le_of_ble_eq_true rfl) (by decide) (Nat.le_of_ble_eq_true rfl) rfl (fun H locs hw => ?_)
  refine lv_iconst (v := -1) hx hb dX11_lets_7 kc_m1 ?_
  refine lv_ixor hx hb dX11_lets_8 ?_
  refine lv_iand hx hb dX11_lets_9 ?_
  refine lv_if_ne (tgt := 37) hx hb dX11_lets_10 (by decide) (fun q => ?_) (fun q => ?_)
  · have hf := hf_f q hf
    refine lv_iconst (v := 0) hx hb dX11_lets_37 kc_0 ?_
    exact ret_z rfl C hw dX11_lets_38 hf
  · have hf := hf_t q hf
    refine lv_aload_n hx hb dX11_lets_13 rfl (lv_at hl 0 rfl) ?_
    refine lv_iload_n hx hb dX11_lets_14 rfl (lv_at hl 1 rfl) ?_
    refine lv_aload_n hx hb dX11_lets_15 rfl (lv_at hl 0 rfl) ?_
    refine lv_iload_n hx hb dX11_lets_16 rfl (lv_at hl 1 rfl) ?_
    refine lv_iload_n hx hb dX11_lets_17 rfl (lv_at hl 2 rfl) ?_
    obtain ⟨r2, hr, hf⟩ := hf_1 hf
    refine inv_Vi (q0 := 44) (ci := 11) (As := [.int p1, .int p2]) lk_X11_205 C hw rfl rfl rfl (t_Mo_chainOf hr) rfl hl.1 dX11_lets_18 rfl (Nat.le_of_ble_eq_true rfl) (by decide) (Nat.le_of_ble_eq_true rfl) rfl (fun H locs hw => ?_)
    refine lv_aload_n hx hb dX11_lets_21 rfl (lv_at hl 0 rfl) ?_
    refine lv_iload_n hx hb dX11_lets_22 rfl (lv_at hl 3 rfl) ?_
    obtain ⟨r3, hr, hf⟩ := hf_1 hf
    refine inv_Vi (q0 := 44) (ci := 11) (As := [.int p3]) lk_X11_235 C hw rfl rfl rfl (t_Mo_linksOf hr) rfl hl.1 dX11_lets_23 rfl (Nat.le_of_ble_eq_true rfl) (by decide) (Nat.le_of_ble_eq_true rfl) rfl (fun H locs hw => ?_)
    refine lv_isub hx hb dX11_lets_26 ?_
    obtain ⟨r4, hr, hf⟩ := hf_1 hf
    refine inv_Vi (q0 := 44) (ci := 11) (As := [.int p1, .int (r2 - r3)]) lk_X11_208 C hw rfl rfl rfl (t_Mo_goesRound hr) rfl hl.1 dX11_lets_27 rfl (Nat.le_of_ble_eq_true rfl) (by decide) (Nat.le_of_ble_eq_true rfl) rfl (fun H locs hw => ?_)
    refine lv_if_eq (tgt := 37) hx hb dX11_lets_30 (by decide) (fun q => ?_) (fun q => ?_)
    · have hf := hf_t q hf
      refine lv_iconst (v := 0) hx hb dX11_lets_37 kc_0 ?_
      exact ret_z rfl C hw dX11_lets_38 hf
    · have hf := hf_f q hf
      refine lv_iconst (v := 1) hx hb dX11_lets_33 kc_1 ?_
      refine lv_goto (tgt := 38) hx hb dX11_lets_34 (by decide) ?_
      exact ret_z rfl C hw dX11_lets_38 hf
end
theorem t_Mo_lets {l : Launch} {V : St} {N : Nat} {S : St} {p1 : Int32} {p2 : Int32} {p3 : Int32} {r : Int32} (hf : Mo_lets N S p1 p2 p3 = some r) : Ct l (wM V) yX11_lets cX11_lets 4 (some .boolean) 3 (fun E => [.ref (ea E 44), .int p1, .int p2, .int p3]) S (fun E => some (.int r)) S :=
  ofBlock (by decide +kernel) (fun _ => Nat.le_of_ble_eq_true rfl) (fun E p e s m args below meth c ls C hw hl => w_Mo_lets C hw hl hf)
