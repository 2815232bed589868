theorem dX11_row_0 : decode cX11_row 0 = .ok (.iload_n 1, 1) := by decide +kernel
theorem dX11_row_1 : decode cX11_row 1 = .ok (.invokestatic 114, 3) := by decide +kernel
theorem dX11_row_4 : decode cX11_row 4 = .ok (.ifCond .eq 21, 3) := by decide +kernel
theorem dX11_row_7 : decode cX11_row 7 = .ok (.iload_n 2, 1) := by decide +kernel
theorem dX11_row_8 : decode cX11_row 8 = .ok (.i2l, 1) := by decide +kernel
theorem dX11_row_9 : decode cX11_row 9 = .ok (.lconst 0, 1) := by decide +kernel
theorem dX11_row_10 : decode cX11_row 10 = .ok (.ldc2_w 313, 3) := by decide +kernel
theorem dX11_row_13 : decode cX11_row 13 = .ok (.invokestatic 84, 3) := by decide +kernel
theorem dX11_row_16 : decode cX11_row 16 = .ok (.ifCond .eq 9, 3) := by decide +kernel
theorem dX11_row_19 : decode cX11_row 19 = .ok (.iload_n 3, 1) := by decide +kernel
theorem dX11_row_20 : decode cX11_row 20 = .ok (.bipush 60, 2) := by decide +kernel
theorem dX11_row_22 : decode cX11_row 22 = .ok (.if_icmp .le 5, 3) := by decide +kernel
theorem dX11_row_25 : decode cX11_row 25 = .ok (.iconst (-1), 1) := by decide +kernel
theorem dX11_row_26 : decode cX11_row 26 = .ok (.ireturn, 1) := by decide +kernel
theorem dX11_row_27 : decode cX11_row 27 = .ok (.iload_n 3, 1) := by decide +kernel
theorem dX11_row_28 : decode cX11_row 28 = .ok (.ifCond .ge 6, 3) := by decide +kernel
theorem dX11_row_31 : decode cX11_row 31 = .ok (.bipush (-14), 2) := by decide +kernel
theorem dX11_row_33 : decode cX11_row 33 = .ok (.ireturn, 1) := by decide +kernel
theorem dX11_row_34 : decode cX11_row 34 = .ok (.aload_n 0, 1) := by decide +kernel
theorem dX11_row_35 : decode cX11_row 35 = .ok (.getfield 58, 3) := by decide +kernel
theorem dX11_row_38 : decode cX11_row 38 = .ok (.iload_n 1, 1) := by decide +kernel
theorem dX11_row_39 : decode cX11_row 39 = .ok (.bipush 50, 2) := by decide +kernel
theorem dX11_row_41 : decode cX11_row 41 = .ok (.iload_n 2, 1) := by decide +kernel
theorem dX11_row_42 : decode cX11_row 42 = .ok (.iadd, 1) := by decide +kernel
theorem dX11_row_43 : decode cX11_row 43 = .ok (.iastore, 1) := by decide +kernel
theorem dX11_row_44 : decode cX11_row 44 = .ok (.aload_n 0, 1) := by decide +kernel
theorem dX11_row_45 : decode cX11_row 45 = .ok (.getfield 61, 3) := by decide +kernel
theorem dX11_row_48 : decode cX11_row 48 = .ok (.iload_n 1, 1) := by decide +kernel
theorem dX11_row_49 : decode cX11_row 49 = .ok (.iload_n 3, 1) := by decide +kernel
theorem dX11_row_50 : decode cX11_row 50 = .ok (.iastore, 1) := by decide +kernel
theorem dX11_row_51 : decode cX11_row 51 = .ok (.bipush 60, 2) := by decide +kernel
theorem dX11_row_53 : decode cX11_row 53 = .ok (.iload_n 1, 1) := by decide +kernel
theorem dX11_row_54 : decode cX11_row 54 = .ok (.imul, 1) := by decide +kernel
theorem dX11_row_55 : decode cX11_row 55 = .ok (.istore 4, 2) := by decide +kernel
theorem dX11_row_57 : decode cX11_row 57 = .ok (.iload 4, 2) := by decide +kernel
theorem dX11_row_59 : decode cX11_row 59 = .ok (.bipush 60, 2) := by decide +kernel
theorem dX11_row_61 : decode cX11_row 61 = .ok (.iload_n 1, 1) := by decide +kernel
theorem dX11_row_62 : decode cX11_row 62 = .ok (.imul, 1) := by decide +kernel
theorem dX11_row_63 : decode cX11_row 63 = .ok (.bipush 60, 2) := by decide +kernel
theorem dX11_row_65 : decode cX11_row 65 = .ok (.iadd, 1) := by decide +kernel
theorem dX11_row_66 : decode cX11_row 66 = .ok (.if_icmp .ge 17, 3) := by decide +kernel
theorem dX11_row_69 : decode cX11_row 69 = .ok (.aload_n 0, 1) := by decide +kernel
theorem dX11_row_70 : decode cX11_row 70 = .ok (.getfield 64, 3) := by decide +kernel
theorem dX11_row_73 : decode cX11_row 73 = .ok (.iload 4, 2) := by decide +kernel
theorem dX11_row_75 : decode cX11_row 75 = .ok (.lconst 0, 1) := by decide +kernel
theorem dX11_row_76 : decode cX11_row 76 = .ok (.lastore, 1) := by decide +kernel
theorem dX11_row_77 : decode cX11_row 77 = .ok (.iinc 4 1, 3) := by decide +kernel
theorem dX11_row_80 : decode cX11_row 80 = .ok (.goto (-23), 3) := by decide +kernel
theorem dX11_row_83 : decode cX11_row 83 = .ok (.iconst 1, 1) := by decide +kernel
theorem dX11_row_84 : decode cX11_row 84 = .ok (.ireturn, 1) := by decide +kernel
section
variable {p : Program} {l : Launch} {e : Env} {s : State} {m : MethodId} {args : Array Value} {below : List Frame} {meth : Method} {c : Code} {H : Heap} {locs : List Loc} {E : Ev} {S V : St} {ls : Array Slot}
set_option maxRecDepth 20000 in
theorem w_Mo_row_b57 {N : Nat} {k57 : (St × Int32) → Option (Int32 × St)} {l1 : Int32} {l4 : Int32} {r : Int32} {S9 : St} (C : Cx p s m args meth c E cX11_row 5 RX11 (some .int)) (hk57 : ∀ x, k57 x = some (r, S9) → ∀ (H : Heap) (locs : List Loc) (ls : Array Slot), Wd E (wM V E) s.heap x.1 H locs → lv_has ls 5 [(0, .ref (ea E 44)), (1, .int l1), (4, .int x.2)] → W p l e (rmh 3) s m args below meth c H locs 0 0 (MQ below (QW E (wM V E) (some (.int r)) S9) args s 0 0 (eA E)) (F0 m 57 ls [])) (hw : Wd E (wM V E) s.heap S H locs) (hl : lv_has ls 5 [(0, .ref (ea E 44)), (1, .int l1), (4, .int l4)]) (hf : Mo_row_b57 N k57 S l1 l4 = some (r, S9)) : W p l e (rmh 3) s m args below meth c H locs 0 0 (MQ below (QW E (wM V E) (some (.int r)) S9) args s 0 0 (eA E)) (F0 m 57 ls []) := by
  have hx := C.1
  have hb := C.2.1
  unfold Mo_row_b57 at hf
  refine lv_iload hx hb dX11_row_57 (lv_at hl 2 rfl) ?_
  refine lv_bipush (v := 60) hx hb dX11_row_59 kb_60 ?_
  refine lv_iload_n hx hb dX11_row_61 rfl (lv_at hl 1 rfl) ?_
  refine lv_imul hx hb dX11_row_62 ?_
  refine lv_bipush (v := 60) hx hb dX11_row_63 kb_60 ?_
  refine lv_iadd hx hb dX11_row_65 ?_
  refine lv_icmp_ge (tgt := 83) hx hb dX11_row_66 (by decide) (fun q => ?_) (fun q => ?_)
  · have hf := hf_t q hf
    refine lv_iconst (v := 1) hx hb dX11_row_83 kc_1 ?_
    exact ret_iS C hw dX11_row_84 hf
  · have hf := hf_f q hf
    refine lv_aload_n hx hb dX11_row_69 rfl (lv_at hl 0 rfl) ?_
    refine get_44_37 C hw q_1188 dX11_row_70 ?_
    refine lv_iload hx hb dX11_row_73 (lv_at hl 2 rfl) ?_
    refine lv_lconst (v := 0) hx hb dX11_row_75 rfl ?_
    obtain ⟨hc, hf⟩ := hf_ck hf
    refine st_63 C hw hc dX11_row_76 (fun H locs hw => ?_)
    refine nm_S hf hw (fun S1 hf hw => ?_)
    obtain ⟨x2, ex2, hf⟩ := nme hf
    refine lv_iinc (v := x2) (lv' := [(4, .int x2), (0, .ref (ea E 44)), (1, .int l1)]) hx hb dX11_row_77 hl (k := 2) rfl (ki_1 ex2) (by decide) rfl (fun ls hl => ?_)
    refine lv_goto (tgt := 57) hx hb dX11_row_80 (by decide) ?_
    exact hk57 _ hf _ _ _ hw (lv_sub hl [1, 2, 0] rfl)
theorem w_Mo_row_L57 {N : Nat} {l1 : Int32} {r : Int32} {S9 : St} (C : Cx p s m args meth c E cX11_row 5 RX11 (some .int)) : ∀ x, Mo_row_L57 N l1 x = some (r, S9) → ∀ (H : Heap) (locs : List Loc) (ls : Array Slot), Wd E (wM V E) s.heap x.1 H locs → lv_has ls 5 [(0, .ref (ea E 44)), (1, .int l1), (4, .int x.2)] → W p l e (rmh 3) s m args below meth c H locs 0 0 (MQ below (QW E (wM V E) (some (.int r)) S9) args s 0 0 (eA E)) (F0 m 57 ls []) :=
  lp_W (fun k x hk hf H locs ls hw hl => w_Mo_row_b57 C hk hw hl hf) N
set_option maxRecDepth 20000 in
theorem w_Mo_row {N : Nat} {p1 : Int32} {p2 : Int32} {p3 : Int32} {r : Int32} {S9 : St} (C : Cx p s m args meth c E cX11_row 5 RX11 (some .int)) (hw : Wd E (wM V E) s.heap S H locs) (hl : lv_has ls 5 [(0, .ref (ea E 44)), (1, .int p1), (2, .int p2), (3, .int p3)]) (hf : Mo_row N S p1 p2 p3 = some (r, S9)) : W p l e (rmh 3) s m args below meth c H locs 0 0 (MQ below (QW E (wM V E) (some (.int r)) S9) args s 0 0 (eA E)) (F0 m 0 ls []) := by
  have hx := C.1
  have hb := C.2.1
  unfold Mo_row at hf
  refine lv_iload_n hx hb dX11_row_0 rfl (lv_at hl 1 rfl) ?_
  obtain ⟨r1, hr, hf⟩ := hf_1 hf
  refine inv_Si (As := [.int p1]) lk_X11_114 C hw (t_Mo_isShelf hr) hl.1 dX11_row_1 rfl (Nat.le_of_ble_eq_true rfl) (by decide) (Nat.le_of_ble_eq_true rfl) rfl (fun H locs hw => ?_)
  refine lv_if_eq (tgt := 25) hx hb dX11_row_4 (by decide) (fun q => ?_) (fun q => ?_)
  · have hf := hf_t q hf
    refine lv_iconst (v := -1) hx hb dX11_row_25 kc_m1 ?_
    exact ret_iS C hw dX11_row_26 hf
  · have hf := hf_f q hf
    refine lv_iload_n hx hb dX11_row_7 rfl (lv_at hl 2 rfl) ?_
    refine lv_i2l hx hb dX11_row_8 rfl ?_
    refine lv_lconst (v := 0) hx hb dX11_row_9 rfl ?_
    refine lv_ldc2 (v := 4) hx hb C.2.2.2.1 (C.2.2.2.2.1 _ q_1629) dX11_row_10 ?_
    obtain ⟨r2, hr, hf⟩ := hf_1 hf
    refine inv_Si (As := [.long (Int32.toInt64 p2), .long (0 : Int64), .long (4 : Int64)]) lk_X11_84 C hw (t_Mo_within hr) hl.1 dX11_row_13 rfl (Nat.le_of_ble_eq_true rfl) (by decide) (Nat.le_of_ble_eq_true rfl) rfl (fun H locs hw => ?_)
    refine lv_if_eq (tgt := 25) hx hb dX11_row_16 (by decide) (fun q => ?_) (fun q => ?_)
    · have hf := hf_t q hf
      refine lv_iconst (v := -1) hx hb dX11_row_25 kc_m1 ?_
      exact ret_iS C hw dX11_row_26 hf
    · have hf := hf_f q hf
      refine lv_iload_n hx hb dX11_row_19 rfl (lv_at hl 3 rfl) ?_
      refine lv_bipush (v := 60) hx hb dX11_row_20 kb_60 ?_
      refine lv_icmp_le (tgt := 27) hx hb dX11_row_22 (by decide) (fun q => ?_) (fun q => ?_)
      · have hf := hf_t q hf
        refine lv_iload_n hx hb dX11_row_27 rfl (lv_at hl 3 rfl) ?_
        refine lv_if_ge (tgt := 34) hx hb dX11_row_28 (by decide) (fun q => ?_) (fun q => ?_)
        · have hf := hf_t q hf
          refine lv_aload_n hx hb dX11_row_34 rfl (lv_at hl 0 rfl) ?_
          refine get_44_35 C hw q_1186 dX11_row_35 ?_
          refine lv_iload_n hx hb dX11_row_38 rfl (lv_at hl 1 rfl) ?_
          refine lv_bipush (v := 50) hx hb dX11_row_39 kb_50 ?_
          refine lv_iload_n hx hb dX11_row_41 rfl (lv_at hl 2 rfl) ?_
          refine lv_iadd hx hb dX11_row_42 ?_
          obtain ⟨hc, hf⟩ := hf_ck hf
          refine st_61 C hw hc dX11_row_43 (fun H locs hw => ?_)
          refine nm_S hf hw (fun S3 hf hw => ?_)
          refine lv_aload_n hx hb dX11_row_44 rfl (lv_at hl 0 rfl) ?_
          refine get_44_36 C hw q_1187 dX11_row_45 ?_
          refine lv_iload_n hx hb dX11_row_48 rfl (lv_at hl 1 rfl) ?_
          refine lv_iload_n hx hb dX11_row_49 rfl (lv_at hl 3 rfl) ?_
          obtain ⟨hc, hf⟩ := hf_ck hf
          refine st_62 C hw hc dX11_row_50 (fun H locs hw => ?_)
          refine nm_S hf hw (fun S4 hf hw => ?_)
          refine lv_bipush (v := 60) hx hb dX11_row_51 kb_60 ?_
          refine lv_iload_n hx hb dX11_row_53 rfl (lv_at hl 1 rfl) ?_
          refine lv_imul hx hb dX11_row_54 ?_
          refine nm_i hf (fun x5 hf => ?_)
          refine lv_istore (lv' := [(4, .int x5), (0, .ref (ea E 44)), (1, .int p1), (2, .int p2), (3, .int p3)]) hx hb dX11_row_55 hl (by decide) rfl (fun ls hl => ?_)
          exact w_Mo_row_L57 C _ hf _ _ _ hw (lv_sub hl [1, 2, 0] rfl)
        · have hf := hf_f q hf
          refine lv_bipush (v := -14) hx hb dX11_row_31 kb_m14 ?_
          exact ret_iS C hw dX11_row_33 hf
      · have hf := hf_f q hf
        refine lv_iconst (v := -1) hx hb dX11_row_25 kc_m1 ?_
        exact ret_iS C hw dX11_row_26 hf
end
theorem t_Mo_row {l : Launch} {V : St} {N : Nat} {S : St} {p1 : Int32} {p2 : Int32} {p3 : Int32} {r : Int32} {S9 : St} (hf : Mo_row N S p1 p2 p3 = some (r, S9)) : Ct l (wM V) yX11_row cX11_row 5 (some .int) 3 (fun E => [.ref (ea E 44), .int p1, .int p2, .int p3]) S (fun E => some (.int r)) S9 :=
  ofBlock (by decide +kernel) (fun _ => Nat.le_of_ble_eq_true rfl) (fun E p e s m args below meth c ls C hw hl => w_Mo_row C hw hl hf)
theorem dX11_refusal_0 : decode cX11_refusal 0 = .ok (.iload_n 1, 1) := by decide +kernel
theorem dX11_refusal_1 : decode cX11_refusal 1 = .ok (.invokestatic 114, 3) := by decide +kernel
theorem dX11_refusal_4 : decode cX11_refusal 4 = .ok (.ifCond .ne 5, 3) := by decide +kernel
theorem dX11_refusal_7 : decode cX11_refusal 7 = .ok (.iconst (-1), 1) := by decide +kernel
theorem dX11_refusal_8 : decode cX11_refusal 8 = .ok (.ireturn, 1) := by decide +kernel
theorem dX11_refusal_9 : decode cX11_refusal 9 = .ok (.aload_n 0, 1) := by decide +kernel
theorem dX11_refusal_10 : decode cX11_refusal 10 = .ok (.getfield 58, 3) := by decide +kernel
theorem dX11_refusal_13 : decode cX11_refusal 13 = .ok (.iload_n 1, 1) := by decide +kernel
theorem dX11_refusal_14 : decode cX11_refusal 14 = .ok (.iaload, 1) := by decide +kernel
theorem dX11_refusal_15 : decode cX11_refusal 15 = .ok (.ifCond .ge 6, 3) := by decide +kernel
theorem dX11_refusal_18 : decode cX11_refusal 18 = .ok (.bipush (-11), 2) := by decide +kernel
theorem dX11_refusal_20 : decode cX11_refusal 20 = .ok (.ireturn, 1) := by decide +kernel
theorem dX11_refusal_21 : decode cX11_refusal 21 = .ok (.aload_n 0, 1) := by decide +kernel
theorem dX11_refusal_22 : decode cX11_refusal 22 = .ok (.getfield 58, 3) := by decide +kernel
theorem dX11_refusal_25 : decode cX11_refusal 25 = .ok (.iload_n 1, 1) := by decide +kernel
theorem dX11_refusal_26 : decode cX11_refusal 26 = .ok (.iaload, 1) := by decide +kernel
theorem dX11_refusal_27 : decode cX11_refusal 27 = .ok (.bipush 50, 2) := by decide +kernel
theorem dX11_refusal_29 : decode cX11_refusal 29 = .ok (.if_icmp .ge 6, 3) := by decide +kernel
theorem dX11_refusal_32 : decode cX11_refusal 32 = .ok (.bipush (-12), 2) := by decide +kernel
theorem dX11_refusal_34 : decode cX11_refusal 34 = .ok (.ireturn, 1) := by decide +kernel
theorem dX11_refusal_35 : decode cX11_refusal 35 = .ok (.iload_n 2, 1) := by decide +kernel
theorem dX11_refusal_36 : decode cX11_refusal 36 = .ok (.ifCond .lt 17, 3) := by decide +kernel
theorem dX11_refusal_39 : decode cX11_refusal 39 = .ok (.iload_n 2, 1) := by decide +kernel
theorem dX11_refusal_40 : decode cX11_refusal 40 = .ok (.aload_n 0, 1) := by decide +kernel
theorem dX11_refusal_41 : decode cX11_refusal 41 = .ok (.getfield 61, 3) := by decide +kernel
theorem dX11_refusal_44 : decode cX11_refusal 44 = .ok (.iload_n 1, 1) := by decide +kernel
theorem dX11_refusal_45 : decode cX11_refusal 45 = .ok (.iaload, 1) := by decide +kernel
theorem dX11_refusal_46 : decode cX11_refusal 46 = .ok (.if_icmp .ge 7, 3) := by decide +kernel
theorem dX11_refusal_49 : decode cX11_refusal 49 = .ok (.iconst 0, 1) := by decide +kernel
theorem dX11_refusal_50 : decode cX11_refusal 50 = .ok (.goto 5, 3) := by decide +kernel
theorem dX11_refusal_53 : decode cX11_refusal 53 = .ok (.bipush (-13), 2) := by decide +kernel
theorem dX11_refusal_55 : decode cX11_refusal 55 = .ok (.ireturn, 1) := by decide +kernel
section
variable {p : Program} {l : Launch} {e : Env} {s : State} {m : MethodId} {args : Array Value} {below : List Frame} {meth : Method} {c : Code} {H : Heap} {locs : List Loc} {E : Ev} {S V : St} {ls : Array Slot}
set_option maxRecDepth 20000 in
theorem w_Mo_refusal {p1 : Int32} {p2 : Int32} {r : Int32} (C : Cx p s m args meth c E cX11_refusal 3 RX11 (some .int)) (hw : Wd E (wM V E) s.heap S H locs) (hl : lv_has ls 3 [(0, .ref (ea E 44)), (1, .int p1), (2, .int p2)]) (hf : Mo_refusal S p1 p2 = some r) : W p l e (rmh 3) s m args below meth c H locs 0 0 (MQ below (QW E (wM V E) (some (.int r)) S) args s 0 0 (eA E)) (F0 m 0 ls []) := by
  have hx := C.1
  have hb := C.2.1
  unfold Mo_refusal at hf
  refine lv_iload_n hx hb dX11_refusal_0 rfl (lv_at hl 1 rfl) ?_
  obtain ⟨r1, hr, hf⟩ := hf_1 hf
  refine inv_Si (As := [.int p1]) lk_X11_114 C hw (t_Mo_isShelf hr) hl.1 dX11_refusal_1 rfl (Nat.le_of_ble_eq_true rfl) (by decide) (Nat.le_of_ble_eq_true rfl) rfl (fun H locs hw => ?_)
  refine lv_if_ne (tgt := 9) hx hb dX11_refusal_4 (by decide) (fun q => ?_) (fun q => ?_)
  · have hf := hf_f q hf
    refine lv_aload_n hx hb dX11_refusal_9 rfl (lv_at hl 0 rfl) ?_
    refine get_44_35 C hw q_1186 dX11_refusal_10 ?_
    refine lv_iload_n hx hb dX11_refusal_13 rfl (lv_at hl 1 rfl) ?_
    obtain ⟨hc, hf⟩ := hf_ck hf
    refine ld_61 C hw hc dX11_refusal_14 ?_
    refine lv_if_ge (tgt := 21) hx hb dX11_refusal_15 (by decide) (fun q => ?_) (fun q => ?_)
    · have hf := hf_t q hf
      refine lv_aload_n hx hb dX11_refusal_21 rfl (lv_at hl 0 rfl) ?_
      refine get_44_35 C hw q_1186 dX11_refusal_22 ?_
      refine lv_iload_n hx hb dX11_refusal_25 rfl (lv_at hl 1 rfl) ?_
      obtain ⟨hc, hf⟩ := hf_ck hf
      refine ld_61 C hw hc dX11_refusal_26 ?_
      refine lv_bipush (v := 50) hx hb dX11_refusal_27 kb_50 ?_
      refine lv_icmp_ge (tgt := 35) hx hb dX11_refusal_29 (by decide) (fun q => ?_) (fun q => ?_)
      · have hf := hf_t q hf
        refine lv_iload_n hx hb dX11_refusal_35 rfl (lv_at hl 2 rfl) ?_
        refine lv_if_lt (tgt := 53) hx hb dX11_refusal_36 (by decide) (fun q => ?_) (fun q => ?_)
        · have hf := hf_t q hf
          refine lv_bipush (v := -13) hx hb dX11_refusal_53 kb_m13 ?_
          exact ret_i C hw dX11_refusal_55 hf
        · have hf := hf_f q hf
          refine lv_iload_n hx hb dX11_refusal_39 rfl (lv_at hl 2 rfl) ?_
          refine lv_aload_n hx hb dX11_refusal_40 rfl (lv_at hl 0 rfl) ?_
          refine get_44_36 C hw q_1187 dX11_refusal_41 ?_
          refine lv_iload_n hx hb dX11_refusal_44 rfl (lv_at hl 1 rfl) ?_
          obtain ⟨hc, hf⟩ := hf_ck hf
          refine ld_62 C hw hc dX11_refusal_45 ?_
          refine lv_icmp_ge (tgt := 53) hx hb dX11_refusal_46 (by decide) (fun q => ?_) (fun q => ?_)
          · have hf := hf_t q hf
            refine lv_bipush (v := -13) hx hb dX11_refusal_53 kb_m13 ?_
            exact ret_i C hw dX11_refusal_55 hf
          · have hf := hf_f q hf
            refine lv_iconst (v := 0) hx hb dX11_refusal_49 kc_0 ?_
            refine lv_goto (tgt := 55) hx hb dX11_refusal_50 (by decide) ?_
            exact ret_i C hw dX11_refusal_55 hf
      · have hf := hf_f q hf
        refine lv_bipush (v := -12) hx hb dX11_refusal_32 kb_m12 ?_
        exact ret_i C hw dX11_refusal_34 hf
    · have hf := hf_f q hf
      refine lv_bipush (v := -11) hx hb dX11_refusal_18 kb_m11 ?_
      exact ret_i C hw dX11_refusal_20 hf
  · have hf := hf_t q hf
    refine lv_iconst (v := -1) hx hb dX11_refusal_7 kc_m1 ?_
    exact ret_i C hw dX11_refusal_8 hf
end
theorem t_Mo_refusal {l : Launch} {V : St} {S : St} {p1 : Int32} {p2 : Int32} {r : Int32} (hf : Mo_refusal S p1 p2 = some r) : Ct l (wM V) yX11_refusal cX11_refusal 3 (some .int) 3 (fun E => [.ref (ea E 44), .int p1, .int p2]) S (fun E => some (.int r)) S :=
  ofBlock (by decide +kernel) (fun _ => Nat.le_of_ble_eq_true rfl) (fun E p e s m args below meth c ls C hw hl => w_Mo_refusal C hw hl hf)
theorem dX11_asSort_0 : decode cX11_asSort 0 = .ok (.iload_n 0, 1) := by decide +kernel
theorem dX11_asSort_1 : decode cX11_asSort 1 = .ok (.ifCond .ne 10, 3) := by decide +kernel
theorem dX11_asSort_4 : decode cX11_asSort 4 = .ok (.lload_n 1, 1) := by decide +kernel
theorem dX11_asSort_5 : decode cX11_asSort 5 = .ok (.l2i, 1) := by decide +kernel
theorem dX11_asSort_6 : decode cX11_asSort 6 = .ok (.i2b, 1) := by decide +kernel
theorem dX11_asSort_7 : decode cX11_asSort 7 = .ok (.i2l, 1) := by decide +kernel
theorem dX11_asSort_8 : decode cX11_asSort 8 = .ok (.goto 46, 3) := by decide +kernel
theorem dX11_asSort_11 : decode cX11_asSort 11 = .ok (.iload_n 0, 1) := by decide +kernel
theorem dX11_asSort_12 : decode cX11_asSort 12 = .ok (.iconst 1, 1) := by decide +kernel
theorem dX11_asSort_13 : decode cX11_asSort 13 = .ok (.if_icmp .ne 10, 3) := by decide +kernel
theorem dX11_asSort_16 : decode cX11_asSort 16 = .ok (.lload_n 1, 1) := by decide +kernel
theorem dX11_asSort_17 : decode cX11_asSort 17 = .ok (.l2i, 1) := by decide +kernel
theorem dX11_asSort_18 : decode cX11_asSort 18 = .ok (.i2s, 1) := by decide +kernel
theorem dX11_asSort_19 : decode cX11_asSort 19 = .ok (.i2l, 1) := by decide +kernel
theorem dX11_asSort_20 : decode cX11_asSort 20 = .ok (.goto 34, 3) := by decide +kernel
theorem dX11_asSort_23 : decode cX11_asSort 23 = .ok (.iload_n 0, 1) := by decide +kernel
theorem dX11_asSort_24 : decode cX11_asSort 24 = .ok (.iconst 2, 1) := by decide +kernel
theorem dX11_asSort_25 : decode cX11_asSort 25 = .ok (.if_icmp .ne 9, 3) := by decide +kernel
theorem dX11_asSort_28 : decode cX11_asSort 28 = .ok (.lload_n 1, 1) := by decide +kernel
theorem dX11_asSort_29 : decode cX11_asSort 29 = .ok (.l2i, 1) := by decide +kernel
theorem dX11_asSort_30 : decode cX11_asSort 30 = .ok (.i2l, 1) := by decide +kernel
theorem dX11_asSort_31 : decode cX11_asSort 31 = .ok (.goto 23, 3) := by decide +kernel
theorem dX11_asSort_34 : decode cX11_asSort 34 = .ok (.iload_n 0, 1) := by decide +kernel
theorem dX11_asSort_35 : decode cX11_asSort 35 = .ok (.iconst 4, 1) := by decide +kernel
theorem dX11_asSort_36 : decode cX11_asSort 36 = .ok (.if_icmp .ne 17, 3) := by decide +kernel
theorem dX11_asSort_39 : decode cX11_asSort 39 = .ok (.lload_n 1, 1) := by decide +kernel
theorem dX11_asSort_40 : decode cX11_asSort 40 = .ok (.lconst 0, 1) := by decide +kernel
theorem dX11_asSort_41 : decode cX11_asSort 41 = .ok (.lcmp, 1) := by decide +kernel
theorem dX11_asSort_42 : decode cX11_asSort 42 = .ok (.ifCond .eq 7, 3) := by decide +kernel
theorem dX11_asSort_45 : decode cX11_asSort 45 = .ok (.lconst 1, 1) := by decide +kernel
theorem dX11_asSort_46 : decode cX11_asSort 46 = .ok (.goto 8, 3) := by decide +kernel
theorem dX11_asSort_49 : decode cX11_asSort 49 = .ok (.lconst 0, 1) := by decide +kernel
theorem dX11_asSort_50 : decode cX11_asSort 50 = .ok (.goto 4, 3) := by decide +kernel
theorem dX11_asSort_53 : decode cX11_asSort 53 = .ok (.lload_n 1, 1) := by decide +kernel
theorem dX11_asSort_54 : decode cX11_asSort 54 = .ok (.lreturn, 1) := by decide +kernel
section
variable {p : Program} {l : Launch} {e : Env} {s : State} {m : MethodId} {args : Array Value} {below : List Frame} {meth : Method} {c : Code} {H : Heap} {locs : List Loc} {E : Ev} {S V : St} {ls : Array Slot}
set_option maxRecDepth 20000 in
theorem w_Mo_asSort {p1 : Int32} {p2 : Int64} {r : Int64} (C : Cx p s m args meth c E cX11_asSort 3 RX11 (some .long)) (hw : Wd E (wM V E) s.heap S H locs) (hl : lv_has ls 3 [(0, .int p1), (1, .long p2)]) (hf : Mo_asSort S p1 p2 = some r) : W p l e (rmh 1) s m args below meth c H locs 0 0 (MQ below (QW E (wM V E) (some (.long r)) S) args s 0 0 (eA E)) (F0 m 0 ls []) := by
  have hx := C.1
  have hb := C.2.1
  unfold Mo_asSort at hf
  refine lv_iload_n hx hb dX11_asSort_0 rfl (lv_at hl 0 rfl) ?_
  refine lv_if_ne (tgt := 11) hx hb dX11_asSort_1 (by decide) (fun q => ?_) (fun q => ?_)
  · have hf := hf_f q hf
    refine lv_iload_n hx hb dX11_asSort_11 rfl (lv_at hl 0 rfl) ?_
    refine lv_iconst (v := 1) hx hb dX11_asSort_12 kc_1 ?_
    refine lv_icmp_ne (tgt := 23) hx hb dX11_asSort_13 (by decide) (fun q => ?_) (fun q => ?_)
    · have hf := hf_f q hf
      refine lv_iload_n hx hb dX11_asSort_23 rfl (lv_at hl 0 rfl) ?_
      refine lv_iconst (v := 2) hx hb dX11_asSort_24 kc_2 ?_
      refine lv_icmp_ne (tgt := 34) hx hb dX11_asSort_25 (by decide) (fun q => ?_) (fun q => ?_)
      · have hf := hf_f q hf
        refine lv_iload_n hx hb dX11_asSort_34 rfl (lv_at hl 0 rfl) ?_
        refine lv_iconst (v := 4) hx hb dX11_asSort_35 kc_4 ?_
        refine lv_icmp_ne (tgt := 53) hx hb dX11_asSort_36 (by decide) (fun q => ?_) (fun q => ?_)
        · have hf := hf_f q hf
          refine lv_lload_n hx hb dX11_asSort_53 rfl (lv_at hl 1 rfl) ?_
          exact ret_l C hw dX11_asSort_54 hf
        · have hf := hf_t q hf
          refine lv_lload_n hx hb dX11_asSort_39 rfl (lv_at hl 1 rfl) ?_
          refine lv_lconst (v := 0) hx hb dX11_asSort_40 rfl ?_
          refine W.lcmp hx hb dX11_asSort_41 ?_
          refine lv_if_eq (tgt := 49) hx hb dX11_asSort_42 (by decide) (fun q => ?_) (fun q => ?_)
          · have hf := hf_t q hf
            refine lv_lconst (v := 0) hx hb dX11_asSort_49 rfl ?_
            refine lv_goto (tgt := 54) hx hb dX11_asSort_50 (by decide) ?_
            exact ret_l C hw dX11_asSort_54 hf
          · have hf := hf_f q hf
            refine lv_lconst (v := 1) hx hb dX11_asSort_45 rfl ?_
            refine lv_goto (tgt := 54) hx hb dX11_asSort_46 (by decide) ?_
            exact ret_l C hw dX11_asSort_54 hf
      · have hf := hf_t q hf
        refine lv_lload_n hx hb dX11_asSort_28 rfl (lv_at hl 1 rfl) ?_
        refine lv_l2i hx hb dX11_asSort_29 rfl ?_
        refine lv_i2l hx hb dX11_asSort_30 rfl ?_
        refine lv_goto (tgt := 54) hx hb dX11_asSort_31 (by decide) ?_
        exact ret_l C hw dX11_asSort_54 hf
    · have hf := hf_t q hf
      refine lv_lload_n hx hb dX11_asSort_16 rfl (lv_at hl 1 rfl) ?_
      refine lv_l2i hx hb dX11_asSort_17 rfl ?_
      refine lv_i2s hx hb dX11_asSort_18 rfl ?_
      refine lv_i2l hx hb dX11_asSort_19 rfl ?_
      refine lv_goto (tgt := 54) hx hb dX11_asSort_20 (by decide) ?_
      exact ret_l C hw dX11_asSort_54 hf
  · have hf := hf_t q hf
    refine lv_lload_n hx hb dX11_asSort_4 rfl (lv_at hl 1 rfl) ?_
    refine lv_l2i hx hb dX11_asSort_5 rfl ?_
    refine lv_i2b hx hb dX11_asSort_6 rfl ?_
    refine lv_i2l hx hb dX11_asSort_7 rfl ?_
    refine lv_goto (tgt := 54) hx hb dX11_asSort_8 (by decide) ?_
    exact ret_l C hw dX11_asSort_54 hf
end
theorem t_Mo_asSort {l : Launch} {V : St} {S : St} {p1 : Int32} {p2 : Int64} {r : Int64} (hf : Mo_asSort S p1 p2 = some r) : Ct l (wM V) yX11_asSort cX11_asSort 3 (some .long) 1 (fun E => [.int p1, .long p2]) S (fun E => some (.long r)) S :=
  ofBlock (by decide +kernel) (fun _ => Nat.le_of_ble_eq_true rfl) (fun E p e s m args below meth c ls C hw hl => w_Mo_asSort C hw hl hf)
theorem dX11_put_0 : decode cX11_put 0 = .ok (.aload_n 0, 1) := by decide +kernel
theorem dX11_put_1 : decode cX11_put 1 = .ok (.iload_n 1, 1) := by decide +kernel
theorem dX11_put_2 : decode cX11_put 2 = .ok (.iload_n 2, 1) := by decide +kernel
theorem dX11_put_3 : decode cX11_put 3 = .ok (.invokevirtual 315, 3) := by decide +kernel
theorem dX11_put_6 : decode cX11_put 6 = .ok (.istore 5, 2) := by decide +kernel
theorem dX11_put_8 : decode cX11_put 8 = .ok (.iload 5, 2) := by decide +kernel
theorem dX11_put_10 : decode cX11_put 10 = .ok (.ifCond .ne 27, 3) := by decide +kernel
theorem dX11_put_13 : decode cX11_put 13 = .ok (.aload_n 0, 1) := by decide +kernel
theorem dX11_put_14 : decode cX11_put 14 = .ok (.getfield 64, 3) := by decide +kernel
theorem dX11_put_17 : decode cX11_put 17 = .ok (.bipush 60, 2) := by decide +kernel
theorem dX11_put_19 : decode cX11_put 19 = .ok (.iload_n 1, 1) := by decide +kernel
theorem dX11_put_20 : decode cX11_put 20 = .ok (.imul, 1) := by decide +kernel
theorem dX11_put_21 : decode cX11_put 21 = .ok (.iload_n 2, 1) := by decide +kernel
theorem dX11_put_22 : decode cX11_put 22 = .ok (.iadd, 1) := by decide +kernel
theorem dX11_put_23 : decode cX11_put 23 = .ok (.aload_n 0, 1) := by decide +kernel
theorem dX11_put_24 : decode cX11_put 24 = .ok (.getfield 58, 3) := by decide +kernel
theorem dX11_put_27 : decode cX11_put 27 = .ok (.iload_n 1, 1) := by decide +kernel
theorem dX11_put_28 : decode cX11_put 28 = .ok (.iaload, 1) := by decide +kernel
theorem dX11_put_29 : decode cX11_put 29 = .ok (.bipush 50, 2) := by decide +kernel
theorem dX11_put_31 : decode cX11_put 31 = .ok (.isub, 1) := by decide +kernel
theorem dX11_put_32 : decode cX11_put 32 = .ok (.lload_n 3, 1) := by decide +kernel
theorem dX11_put_33 : decode cX11_put 33 = .ok (.invokestatic 318, 3) := by decide +kernel
theorem dX11_put_36 : decode cX11_put 36 = .ok (.lastore, 1) := by decide +kernel
theorem dX11_put_37 : decode cX11_put 37 = .ok (.iload 5, 2) := by decide +kernel
theorem dX11_put_39 : decode cX11_put 39 = .ok (.ifCond .ne 7, 3) := by decide +kernel
theorem dX11_put_42 : decode cX11_put 42 = .ok (.iconst 1, 1) := by decide +kernel
theorem dX11_put_43 : decode cX11_put 43 = .ok (.goto 5, 3) := by decide +kernel
theorem dX11_put_46 : decode cX11_put 46 = .ok (.iload 5, 2) := by decide +kernel
theorem dX11_put_48 : decode cX11_put 48 = .ok (.ireturn, 1) := by decide +kernel
section
variable {p : Program} {l : Launch} {e : Env} {s : State} {m : MethodId} {args : Array Value} {below : List Frame} {meth : Method} {c : Code} {H : Heap} {locs : List Loc} {E : Ev} {S V : St} {ls : Array Slot}
set_option maxRecDepth 20000 in
theorem w_Mo_put_b37 {l5 : Int32} {r : Int32} {S9 : St} (C : Cx p s m args meth c E cX11_put 6 RX11 (some .int)) (hw : Wd E (wM V E) s.heap S H locs) (hl : lv_has ls 6 [(5, .int l5)]) (hf : Mo_put_b37 S l5 = some (r, S9)) : W p l e (rmh 4) s m args below meth c H locs 0 0 (MQ below (QW E (wM V E) (some (.int r)) S9) args s 0 0 (eA E)) (F0 m 37 ls []) := by
  have hx := C.1
  have hb := C.2.1
  unfold Mo_put_b37 at hf
  refine lv_iload hx hb dX11_put_37 (lv_at hl 0 rfl) ?_
  refine lv_if_ne (tgt := 46) hx hb dX11_put_39 (by decide) (fun q => ?_) (fun q => ?_)
  · have hf := hf_f q hf
    refine lv_iload hx hb dX11_put_46 (lv_at hl 0 rfl) ?_
    exact ret_iS C hw dX11_put_48 hf
  · have hf := hf_t q hf
    refine lv_iconst (v := 1) hx hb dX11_put_42 kc_1 ?_
    refine lv_goto (tgt := 48) hx hb dX11_put_43 (by decide) ?_
    exact ret_iS C hw dX11_put_48 hf
set_option maxRecDepth 20000 in
theorem w_Mo_put {p1 : Int32} {p2 : Int32} {p3 : Int64} {r : Int32} {S9 : St} (C : Cx p s m args meth c E cX11_put 6 RX11 (some .int)) (hw : Wd E (wM V E) s.heap S H locs) (hl : lv_has ls 6 [(0, .ref (ea E 44)), (1, .int p1), (2, .int p2), (3, .long p3)]) (hf : Mo_put S p1 p2 p3 = some (r, S9)) : W p l e (rmh 4) s m args below meth c H locs 0 0 (MQ below (QW E (wM V E) (some (.int r)) S9) args s 0 0 (eA E)) (F0 m 0 ls []) := by
  have hx := C.1
  have hb := C.2.1
  unfold Mo_put at hf
  refine lv_aload_n hx hb dX11_put_0 rfl (lv_at hl 0 rfl) ?_
  refine lv_iload_n hx hb dX11_put_1 rfl (lv_at hl 1 rfl) ?_
  refine lv_iload_n hx hb dX11_put_2 rfl (lv_at hl 2 rfl) ?_
  obtain ⟨r1, hr, hf⟩ := hf_1 hf
  refine inv_Vi (q0 := 44) (ci := 11) (As := [.int p1, .int p2]) lk_X11_315 C hw rfl rfl rfl (t_Mo_refusal hr) rfl hl.1 dX11_put_3 rfl (Nat.le_of_ble_eq_true rfl) (by decide) (Nat.le_of_ble_eq_true rfl) rfl (fun H locs hw => ?_)
  refine lv_istore (lv' := [(5, .int r1), (0, .ref (ea E 44)), (1, .int p1), (2, .int p2), (3, .long p3)]) hx hb dX11_put_6 hl (by decide) rfl (fun ls hl => ?_)
  refine lv_iload hx hb dX11_put_8 (lv_at hl 0 rfl) ?_
  refine lv_if_ne (tgt := 37) hx hb dX11_put_10 (by decide) (fun q => ?_) (fun q => ?_)
  · have hf := hf_f q hf
    exact w_Mo_put_b37 C hw (lv_sub hl [0] rfl) hf
  · have hf := hf_t q hf
    refine lv_aload_n hx hb dX11_put_13 rfl (lv_at hl 1 rfl) ?_
    refine get_44_37 C hw q_1188 dX11_put_14 ?_
    refine lv_bipush (v := 60) hx hb dX11_put_17 kb_60 ?_
    refine lv_iload_n hx hb dX11_put_19 rfl (lv_at hl 2 rfl) ?_
    refine lv_imul hx hb dX11_put_20 ?_
    refine lv_iload_n hx hb dX11_put_21 rfl (lv_at hl 3 rfl) ?_
    refine lv_iadd hx hb dX11_put_22 ?_
    refine lv_aload_n hx hb dX11_put_23 rfl (lv_at hl 1 rfl) ?_
    refine get_44_35 C hw q_1186 dX11_put_24 ?_
    refine lv_iload_n hx hb dX11_put_27 rfl (lv_at hl 2 rfl) ?_
    obtain ⟨hc, hf⟩ := hf_ck hf
    refine ld_61 C hw hc dX11_put_28 ?_
    refine lv_bipush (v := 50) hx hb dX11_put_29 kb_50 ?_
    refine lv_isub hx hb dX11_put_31 ?_
    refine lv_lload_n hx hb dX11_put_32 rfl (lv_at hl 4 rfl) ?_
    obtain ⟨r2, hr, hf⟩ := hf_1 hf
    refine inv_Sl (As := [.int ((gi S 61 p1.toNatClampNeg) - (50 : Int32)), .long p3]) lk_X11_318 C hw (t_Mo_asSort hr) hl.1 dX11_put_33 rfl (Nat.le_of_ble_eq_true rfl) (by decide) (Nat.le_of_ble_eq_true rfl) rfl (fun H locs hw => ?_)
    obtain ⟨hc, hf⟩ := hf_ck hf
    refine st_63 C hw hc dX11_put_36 (fun H locs hw => ?_)
    refine nm_S hf hw (fun S3 hf hw => ?_)
    exact w_Mo_put_b37 C hw (lv_sub hl [0] rfl) hf
end
theorem t_Mo_put {l : Launch} {V : St} {S : St} {p1 : Int32} {p2 : Int32} {p3 : Int64} {r : Int32} {S9 : St} (hf : Mo_put S p1 p2 p3 = some (r, S9)) : Ct l (wM V) yX11_put cX11_put 6 (some .int) 4 (fun E => [.ref (ea E 44), .int p1, .int p2, .long p3]) S (fun E => some (.int r)) S9 :=
  ofBlock (by decide +kernel) (fun _ => Nat.le_of_ble_eq_true rfl) (fun E p e s m args below meth c ls C hw hl => w_Mo_put C hw hl hf)
theorem dX11_element_0 : decode cX11_element 0 = .ok (.aload_n 0, 1) := by decide +kernel
theorem dX11_element_1 : decode cX11_element 1 = .ok (.iload_n 1, 1) := by decide +kernel
theorem dX11_element_2 : decode cX11_element 2 = .ok (.iload_n 2, 1) := by decide +kernel
theorem dX11_element_3 : decode cX11_element 3 = .ok (.invokevirtual 315, 3) := by decide +kernel
theorem dX11_element_6 : decode cX11_element 6 = .ok (.ifCond .eq 9, 3) := by decide +kernel
theorem dX11_element_9 : decode cX11_element 9 = .ok (.ldc2_w 324, 3) := by decide +kernel
theorem dX11_element_12 : decode cX11_element 12 = .ok (.goto 14, 3) := by decide +kernel
theorem dX11_element_15 : decode cX11_element 15 = .ok (.aload_n 0, 1) := by decide +kernel
theorem dX11_element_16 : decode cX11_element 16 = .ok (.getfield 64, 3) := by decide +kernel
theorem dX11_element_19 : decode cX11_element 19 = .ok (.bipush 60, 2) := by decide +kernel
theorem dX11_element_21 : decode cX11_element 21 = .ok (.iload_n 1, 1) := by decide +kernel
theorem dX11_element_22 : decode cX11_element 22 = .ok (.imul, 1) := by decide +kernel
theorem dX11_element_23 : decode cX11_element 23 = .ok (.iload_n 2, 1) := by decide +kernel
theorem dX11_element_24 : decode cX11_element 24 = .ok (.iadd, 1) := by decide +kernel
theorem dX11_element_25 : decode cX11_element 25 = .ok (.laload, 1) := by decide +kernel
theorem dX11_element_26 : decode cX11_element 26 = .ok (.lreturn, 1) := by decide +kernel
section
variable {p : Program} {l : Launch} {e : Env} {s : State} {m : MethodId} {args : Array Value} {below : List Frame} {meth : Method} {c : Code} {H : Heap} {locs : List Loc} {E : Ev} {S V : St} {ls : Array Slot}
set_option maxRecDepth 20000 in
theorem w_Mo_element {p1 : Int32} {p2 : Int32} {r : Int64} (C : Cx p s m args meth c E cX11_element 3 RX11 (some .long)) (hw : Wd E (wM V E) s.heap S H locs) (hl : lv_has ls 3 [(0, .ref (ea E 44)), (1, .int p1), (2, .int p2)]) (hf : Mo_element S p1 p2 = some r) : W p l e (rmh 4) s m args below meth c H locs 0 0 (MQ below (QW E (wM V E) (some (.long r)) S) args s 0 0 (eA E)) (F0 m 0 ls []) := by
  have hx := C.1
  have hb := C.2.1
  unfold Mo_element at hf
  refine lv_aload_n hx hb dX11_element_0 rfl (lv_at hl 0 rfl) ?_
  refine lv_iload_n hx hb dX11_element_1 rfl (lv_at hl 1 rfl) ?_
  refine lv_iload_n hx hb dX11_element_2 rfl (lv_at hl 2 rfl) ?_
  obtain ⟨r1, hr, hf⟩ := hf_1 hf
  refine inv_Vi (q0 := 44) (ci := 11) (As := [.int p1, .int p2]) lk_X11_315 C hw rfl rfl rfl (t_Mo_refusal hr) rfl hl.1 dX11_element_3 rfl (Nat.le_of_ble_eq_true rfl) (by decide) (Nat.le_of_ble_eq_true rfl) rfl (fun H locs hw => ?_)
  refine lv_if_eq (tgt := 15) hx hb dX11_element_6 (by decide) (fun q => ?_) (fun q => ?_)
  · have hf := hf_t q hf
    refine lv_aload_n hx hb dX11_element_15 rfl (lv_at hl 0 rfl) ?_
    refine get_44_37 C hw q_1188 dX11_element_16 ?_
    refine lv_bipush (v := 60) hx hb dX11_element_19 kb_60 ?_
    refine lv_iload_n hx hb dX11_element_21 rfl (lv_at hl 1 rfl) ?_
    refine lv_imul hx hb dX11_element_22 ?_
    refine lv_iload_n hx hb dX11_element_23 rfl (lv_at hl 2 rfl) ?_
    refine lv_iadd hx hb dX11_element_24 ?_
    obtain ⟨hc, hf⟩ := hf_ck hf
    refine ld_63 C hw hc dX11_element_25 ?_
    exact ret_l C hw dX11_element_26 hf
  · have hf := hf_f q hf
    refine lv_ldc2 (v := -9223372036854775808) hx hb C.2.2.2.1 (C.2.2.2.2.1 _ q_1645) dX11_element_9 ?_
    refine lv_goto (tgt := 26) hx hb dX11_element_12 (by decide) ?_
    exact ret_l C hw dX11_element_26 hf
end
theorem t_Mo_element {l : Launch} {V : St} {S : St} {p1 : Int32} {p2 : Int32} {r : Int64} (hf : Mo_element S p1 p2 = some r) : Ct l (wM V) yX11_element cX11_element 3 (some .long) 4 (fun E => [.ref (ea E 44), .int p1, .int p2]) S (fun E => some (.long r)) S :=
  ofBlock (by decide +kernel) (fun _ => Nat.le_of_ble_eq_true rfl) (fun E p e s m args below meth c ls C hw hl => w_Mo_element C hw hl hf)
theorem dX11_shift_0 : decode cX11_shift 0 = .ok (.iload_n 1, 1) := by decide +kernel
theorem dX11_shift_1 : decode cX11_shift 1 = .ok (.invokestatic 114, 3) := by decide +kernel
theorem dX11_shift_4 : decode cX11_shift 4 = .ok (.ifCond .eq 10, 3) := by decide +kernel
theorem dX11_shift_7 : decode cX11_shift 7 = .ok (.iload_n 3, 1) := by decide +kernel
theorem dX11_shift_8 : decode cX11_shift 8 = .ok (.invokestatic 114, 3) := by decide +kernel
theorem dX11_shift_11 : decode cX11_shift 11 = .ok (.ifCond .ne 5, 3) := by decide +kernel
theorem dX11_shift_14 : decode cX11_shift 14 = .ok (.iconst (-1), 1) := by decide +kernel
theorem dX11_shift_15 : decode cX11_shift 15 = .ok (.ireturn, 1) := by decide +kernel
theorem dX11_shift_16 : decode cX11_shift 16 = .ok (.aload_n 0, 1) := by decide +kernel
theorem dX11_shift_17 : decode cX11_shift 17 = .ok (.getfield 58, 3) := by decide +kernel
theorem dX11_shift_20 : decode cX11_shift 20 = .ok (.iload_n 1, 1) := by decide +kernel
theorem dX11_shift_21 : decode cX11_shift 21 = .ok (.iaload, 1) := by decide +kernel
theorem dX11_shift_22 : decode cX11_shift 22 = .ok (.ifCond .lt 12, 3) := by decide +kernel
theorem dX11_shift_25 : decode cX11_shift 25 = .ok (.aload_n 0, 1) := by decide +kernel
theorem dX11_shift_26 : decode cX11_shift 26 = .ok (.getfield 58, 3) := by decide +kernel
theorem dX11_shift_29 : decode cX11_shift 29 = .ok (.iload_n 3, 1) := by decide +kernel
theorem dX11_shift_30 : decode cX11_shift 30 = .ok (.iaload, 1) := by decide +kernel
theorem dX11_shift_31 : decode cX11_shift 31 = .ok (.ifCond .ge 6, 3) := by decide +kernel
theorem dX11_shift_34 : decode cX11_shift 34 = .ok (.bipush (-11), 2) := by decide +kernel
theorem dX11_shift_36 : decode cX11_shift 36 = .ok (.ireturn, 1) := by decide +kernel
theorem dX11_shift_37 : decode cX11_shift 37 = .ok (.aload_n 0, 1) := by decide +kernel
theorem dX11_shift_38 : decode cX11_shift 38 = .ok (.getfield 58, 3) := by decide +kernel
theorem dX11_shift_41 : decode cX11_shift 41 = .ok (.iload_n 1, 1) := by decide +kernel
theorem dX11_shift_42 : decode cX11_shift 42 = .ok (.iaload, 1) := by decide +kernel
theorem dX11_shift_43 : decode cX11_shift 43 = .ok (.bipush 50, 2) := by decide +kernel
theorem dX11_shift_45 : decode cX11_shift 45 = .ok (.if_icmp .lt 18, 3) := by decide +kernel
theorem dX11_shift_48 : decode cX11_shift 48 = .ok (.aload_n 0, 1) := by decide +kernel
theorem dX11_shift_49 : decode cX11_shift 49 = .ok (.getfield 58, 3) := by decide +kernel
theorem dX11_shift_52 : decode cX11_shift 52 = .ok (.iload_n 1, 1) := by decide +kernel
theorem dX11_shift_53 : decode cX11_shift 53 = .ok (.iaload, 1) := by decide +kernel
theorem dX11_shift_54 : decode cX11_shift 54 = .ok (.aload_n 0, 1) := by decide +kernel
theorem dX11_shift_55 : decode cX11_shift 55 = .ok (.getfield 58, 3) := by decide +kernel
theorem dX11_shift_58 : decode cX11_shift 58 = .ok (.iload_n 3, 1) := by decide +kernel
theorem dX11_shift_59 : decode cX11_shift 59 = .ok (.iaload, 1) := by decide +kernel
theorem dX11_shift_60 : decode cX11_shift 60 = .ok (.if_icmp .eq 6, 3) := by decide +kernel
theorem dX11_shift_63 : decode cX11_shift 63 = .ok (.bipush (-12), 2) := by decide +kernel
theorem dX11_shift_65 : decode cX11_shift 65 = .ok (.ireturn, 1) := by decide +kernel
theorem dX11_shift_66 : decode cX11_shift 66 = .ok (.iload 5, 2) := by decide +kernel
theorem dX11_shift_68 : decode cX11_shift 68 = .ok (.ifCond .lt 39, 3) := by decide +kernel
theorem dX11_shift_71 : decode cX11_shift 71 = .ok (.iload_n 2, 1) := by decide +kernel
theorem dX11_shift_72 : decode cX11_shift 72 = .ok (.ifCond .lt 35, 3) := by decide +kernel
theorem dX11_shift_75 : decode cX11_shift 75 = .ok (.iload 4, 2) := by decide +kernel
theorem dX11_shift_77 : decode cX11_shift 77 = .ok (.ifCond .lt 30, 3) := by decide +kernel
theorem dX11_shift_80 : decode cX11_shift 80 = .ok (.iload_n 2, 1) := by decide +kernel
theorem dX11_shift_81 : decode cX11_shift 81 = .ok (.aload_n 0, 1) := by decide +kernel
theorem dX11_shift_82 : decode cX11_shift 82 = .ok (.getfield 61, 3) := by decide +kernel
theorem dX11_shift_85 : decode cX11_shift 85 = .ok (.iload_n 1, 1) := by decide +kernel
theorem dX11_shift_86 : decode cX11_shift 86 = .ok (.iaload, 1) := by decide +kernel
theorem dX11_shift_87 : decode cX11_shift 87 = .ok (.iload 5, 2) := by decide +kernel
theorem dX11_shift_89 : decode cX11_shift 89 = .ok (.isub, 1) := by decide +kernel
theorem dX11_shift_90 : decode cX11_shift 90 = .ok (.if_icmp .gt 17, 3) := by decide +kernel
theorem dX11_shift_93 : decode cX11_shift 93 = .ok (.iload 4, 2) := by decide +kernel
theorem dX11_shift_95 : decode cX11_shift 95 = .ok (.aload_n 0, 1) := by decide +kernel
theorem dX11_shift_96 : decode cX11_shift 96 = .ok (.getfield 61, 3) := by decide +kernel
theorem dX11_shift_99 : decode cX11_shift 99 = .ok (.iload_n 3, 1) := by decide +kernel
theorem dX11_shift_100 : decode cX11_shift 100 = .ok (.iaload, 1) := by decide +kernel
theorem dX11_shift_101 : decode cX11_shift 101 = .ok (.iload 5, 2) := by decide +kernel
theorem dX11_shift_103 : decode cX11_shift 103 = .ok (.isub, 1) := by decide +kernel
theorem dX11_shift_104 : decode cX11_shift 104 = .ok (.if_icmp .le 6, 3) := by decide +kernel
theorem dX11_shift_107 : decode cX11_shift 107 = .ok (.bipush (-13), 2) := by decide +kernel
theorem dX11_shift_109 : decode cX11_shift 109 = .ok (.ireturn, 1) := by decide +kernel
theorem dX11_shift_110 : decode cX11_shift 110 = .ok (.iconst 0, 1) := by decide +kernel
theorem dX11_shift_111 : decode cX11_shift 111 = .ok (.istore 6, 2) := by decide +kernel
theorem dX11_shift_113 : decode cX11_shift 113 = .ok (.iload 6, 2) := by decide +kernel
theorem dX11_shift_115 : decode cX11_shift 115 = .ok (.iload 5, 2) := by decide +kernel
theorem dX11_shift_117 : decode cX11_shift 117 = .ok (.if_icmp .ge 30, 3) := by decide +kernel
theorem dX11_shift_120 : decode cX11_shift 120 = .ok (.aload_n 0, 1) := by decide +kernel
theorem dX11_shift_121 : decode cX11_shift 121 = .ok (.getfield 68, 3) := by decide +kernel
theorem dX11_shift_124 : decode cX11_shift 124 = .ok (.iload 6, 2) := by decide +kernel
theorem dX11_shift_126 : decode cX11_shift 126 = .ok (.aload_n 0, 1) := by decide +kernel
theorem dX11_shift_127 : decode cX11_shift 127 = .ok (.getfield 64, 3) := by decide +kernel
theorem dX11_shift_130 : decode cX11_shift 130 = .ok (.bipush 60, 2) := by decide +kernel
theorem dX11_shift_132 : decode cX11_shift 132 = .ok (.iload_n 1, 1) := by decide +kernel
theorem dX11_shift_133 : decode cX11_shift 133 = .ok (.imul, 1) := by decide +kernel
theorem dX11_shift_134 : decode cX11_shift 134 = .ok (.iload_n 2, 1) := by decide +kernel
theorem dX11_shift_135 : decode cX11_shift 135 = .ok (.iadd, 1) := by decide +kernel
theorem dX11_shift_136 : decode cX11_shift 136 = .ok (.iload 6, 2) := by decide +kernel
theorem dX11_shift_138 : decode cX11_shift 138 = .ok (.iadd, 1) := by decide +kernel
theorem dX11_shift_139 : decode cX11_shift 139 = .ok (.laload, 1) := by decide +kernel
theorem dX11_shift_140 : decode cX11_shift 140 = .ok (.lastore, 1) := by decide +kernel
theorem dX11_shift_141 : decode cX11_shift 141 = .ok (.iinc 6 1, 3) := by decide +kernel
theorem dX11_shift_144 : decode cX11_shift 144 = .ok (.goto (-31), 3) := by decide +kernel
theorem dX11_shift_147 : decode cX11_shift 147 = .ok (.iconst 0, 1) := by decide +kernel
theorem dX11_shift_148 : decode cX11_shift 148 = .ok (.istore 6, 2) := by decide +kernel
theorem dX11_shift_150 : decode cX11_shift 150 = .ok (.iload 6, 2) := by decide +kernel
theorem dX11_shift_152 : decode cX11_shift 152 = .ok (.iload 5, 2) := by decide +kernel
theorem dX11_shift_154 : decode cX11_shift 154 = .ok (.if_icmp .ge 31, 3) := by decide +kernel
theorem dX11_shift_157 : decode cX11_shift 157 = .ok (.aload_n 0, 1) := by decide +kernel
theorem dX11_shift_158 : decode cX11_shift 158 = .ok (.getfield 64, 3) := by decide +kernel
theorem dX11_shift_161 : decode cX11_shift 161 = .ok (.bipush 60, 2) := by decide +kernel
theorem dX11_shift_163 : decode cX11_shift 163 = .ok (.iload_n 3, 1) := by decide +kernel
theorem dX11_shift_164 : decode cX11_shift 164 = .ok (.imul, 1) := by decide +kernel
theorem dX11_shift_165 : decode cX11_shift 165 = .ok (.iload 4, 2) := by decide +kernel
theorem dX11_shift_167 : decode cX11_shift 167 = .ok (.iadd, 1) := by decide +kernel
theorem dX11_shift_168 : decode cX11_shift 168 = .ok (.iload 6, 2) := by decide +kernel
theorem dX11_shift_170 : decode cX11_shift 170 = .ok (.iadd, 1) := by decide +kernel
theorem dX11_shift_171 : decode cX11_shift 171 = .ok (.aload_n 0, 1) := by decide +kernel
theorem dX11_shift_172 : decode cX11_shift 172 = .ok (.getfield 68, 3) := by decide +kernel
theorem dX11_shift_175 : decode cX11_shift 175 = .ok (.iload 6, 2) := by decide +kernel
theorem dX11_shift_177 : decode cX11_shift 177 = .ok (.laload, 1) := by decide +kernel
theorem dX11_shift_178 : decode cX11_shift 178 = .ok (.lastore, 1) := by decide +kernel
theorem dX11_shift_179 : decode cX11_shift 179 = .ok (.iinc 6 1, 3) := by decide +kernel
theorem dX11_shift_182 : decode cX11_shift 182 = .ok (.goto (-32), 3) := by decide +kernel
theorem dX11_shift_185 : decode cX11_shift 185 = .ok (.iload 5, 2) := by decide +kernel
theorem dX11_shift_187 : decode cX11_shift 187 = .ok (.ireturn, 1) := by decide +kernel
section
variable {p : Program} {l : Launch} {e : Env} {s : State} {m : MethodId} {args : Array Value} {below : List Frame} {meth : Method} {c : Code} {H : Heap} {locs : List Loc} {E : Ev} {S V : St} {ls : Array Slot}
set_option maxRecDepth 20000 in
theorem w_Mo_shift_b150 {N : Nat} {k150 : (St × Int32) → Option (Int32 × St)} {l3 : Int32} {l4 : Int32} {l5 : Int32} {l6 : Int32} {r : Int32} {S9 : St} (C : Cx p s m args meth c E cX11_shift 7 RX11 (some .int)) (hk150 : ∀ x, k150 x = some (r, S9) → ∀ (H : Heap) (locs : List Loc) (ls : Array Slot), Wd E (wM V E) s.heap x.1 H locs → lv_has ls 7 [(0, .ref (ea E 44)), (3, .int l3), (4, .int l4), (5, .int l5), (6, .int x.2)] → W p l e (rmh 3) s m args below meth c H locs 0 0 (MQ below (QW E (wM V E) (some (.int r)) S9) args s 0 0 (eA E)) (F0 m 150 ls [])) (hw : Wd E (wM V E) s.heap S H locs) (hl : lv_has ls 7 [(0, .ref (ea E 44)), (3, .int l3), (4, .int l4), (5, .int l5), (6, .int l6)]) (hf : Mo_shift_b150 N k150 S l3 l4 l5 l6 = some (r, S9)) : W p l e (rmh 3) s m args below meth c H locs 0 0 (MQ below (QW E (wM V E) (some (.int r)) S9) args s 0 0 (eA E)) (F0 m 150 ls []) := by
  have hx := C.1
  have hb := C.2.1
  unfold Mo_shift_b150 at hf
  refine lv_iload hx hb dX11_shift_150 (lv_at hl 4 rfl) ?_
  refine lv_iload hx hb dX11_shift_152 (lv_at hl 3 rfl) ?_
  refine lv_icmp_ge (tgt := 185) hx hb dX11_shift_154 (by decide) (fun q => ?_) (fun q => ?_)
  · have hf := hf_t q hf
    refine lv_iload hx hb dX11_shift_185 (lv_at hl 3 rfl) ?_
    exact ret_iS C hw dX11_shift_187 hf
  · have hf := hf_f q hf
    refine lv_aload_n hx hb dX11_shift_157 rfl (lv_at hl 0 rfl) ?_
    refine get_44_37 C hw q_1188 dX11_shift_158 ?_
    refine lv_bipush (v := 60) hx hb dX11_shift_161 kb_60 ?_
    refine lv_iload_n hx hb dX11_shift_163 rfl (lv_at hl 1 rfl) ?_
    refine lv_imul hx hb dX11_shift_164 ?_
    refine lv_iload hx hb dX11_shift_165 (lv_at hl 2 rfl) ?_
    refine lv_iadd hx hb dX11_shift_167 ?_
    refine lv_iload hx hb dX11_shift_168 (lv_at hl 4 rfl) ?_
    refine lv_iadd hx hb dX11_shift_170 ?_
    refine lv_aload_n hx hb dX11_shift_171 rfl (lv_at hl 0 rfl) ?_
    refine get_44_38 C hw q_1189 dX11_shift_172 ?_
    refine lv_iload hx hb dX11_shift_175 (lv_at hl 4 rfl) ?_
    obtain ⟨hc, hf⟩ := hf_ck hf
    refine ld_64 C hw hc dX11_shift_177 ?_
    obtain ⟨hc, hf⟩ := hf_ck hf
    refine st_63 C hw hc dX11_shift_178 (fun H locs hw => ?_)
    refine nm_S hf hw (fun S1 hf hw => ?_)
    obtain ⟨x2, ex2, hf⟩ := nme hf
    refine lv_iinc (v := x2) (lv' := [(6, .int x2), (0, .ref (ea E 44)), (3, .int l3), (4, .int l4), (5, .int l5)]) hx hb dX11_shift_179 hl (k := 4) rfl (ki_1 ex2) (by decide) rfl (fun ls hl => ?_)
    refine lv_goto (tgt := 150) hx hb dX11_shift_182 (by decide) ?_
    exact hk150 _ hf _ _ _ hw (lv_sub hl [1, 2, 3, 4, 0] rfl)
theorem w_Mo_shift_L150 {N : Nat} {l3 : Int32} {l4 : Int32} {l5 : Int32} {r : Int32} {S9 : St} (C : Cx p s m args meth c E cX11_shift 7 RX11 (some .int)) : ∀ x, Mo_shift_L150 N l3 l4 l5 x = some (r, S9) → ∀ (H : Heap) (locs : List Loc) (ls : Array Slot), Wd E (wM V E) s.heap x.1 H locs → lv_has ls 7 [(0, .ref (ea E 44)), (3, .int l3), (4, .int l4), (5, .int l5), (6, .int x.2)] → W p l e (rmh 3) s m args below meth c H locs 0 0 (MQ below (QW E (wM V E) (some (.int r)) S9) args s 0 0 (eA E)) (F0 m 150 ls []) :=
  lp_W (fun k x hk hf H locs ls hw hl => w_Mo_shift_b150 C hk hw hl hf) N
set_option maxRecDepth 20000 in
theorem w_Mo_shift_b113 {N : Nat} {k113 : (St × Int32) → Option (Int32 × St)} {l1 : Int32} {l2 : Int32} {l3 : Int32} {l4 : Int32} {l5 : Int32} {l6 : Int32} {r : Int32} {S9 : St} (C : Cx p s m args meth c E cX11_shift 7 RX11 (some .int)) (hk113 : ∀ x, k113 x = some (r, S9) → ∀ (H : Heap) (locs : List Loc) (ls : Array Slot), Wd E (wM V E) s.heap x.1 H locs → lv_has ls 7 [(0, .ref (ea E 44)), (1, .int l1), (2, .int l2), (3, .int l3), (4, .int l4), (5, .int l5), (6, .int x.2)] → W p l e (rmh 3) s m args below meth c H locs 0 0 (MQ below (QW E (wM V E) (some (.int r)) S9) args s 0 0 (eA E)) (F0 m 113 ls [])) (hw : Wd E (wM V E) s.heap S H locs) (hl : lv_has ls 7 [(0, .ref (ea E 44)), (1, .int l1), (2, .int l2), (3, .int l3), (4, .int l4), (5, .int l5), (6, .int l6)]) (hf : Mo_shift_b113 N k113 S l1 l2 l3 l4 l5 l6 = some (r, S9)) : W p l e (rmh 3) s m args below meth c H locs 0 0 (MQ below (QW E (wM V E) (some (.int r)) S9) args s 0 0 (eA E)) (F0 m 113 ls []) := by
  have hx := C.1
  have hb := C.2.1
  unfold Mo_shift_b113 at hf
  refine lv_iload hx hb dX11_shift_113 (lv_at hl 6 rfl) ?_
  refine lv_iload hx hb dX11_shift_115 (lv_at hl 5 rfl) ?_
  refine lv_icmp_ge (tgt := 147) hx hb dX11_shift_117 (by decide) (fun q => ?_) (fun q => ?_)
  · have hf := hf_t q hf
    refine lv_iconst (v := 0) hx hb dX11_shift_147 kc_0 ?_
    refine lv_istore (lv' := [(6, .int (0 : Int32)), (0, .ref (ea E 44)), (1, .int l1), (2, .int l2), (3, .int l3), (4, .int l4), (5, .int l5)]) hx hb dX11_shift_148 hl (by decide) rfl (fun ls hl => ?_)
    exact w_Mo_shift_L150 C _ hf _ _ _ hw (lv_sub hl [1, 4, 5, 6, 0] rfl)
  · have hf := hf_f q hf
    refine lv_aload_n hx hb dX11_shift_120 rfl (lv_at hl 0 rfl) ?_
    refine get_44_38 C hw q_1189 dX11_shift_121 ?_
    refine lv_iload hx hb dX11_shift_124 (lv_at hl 6 rfl) ?_
    refine lv_aload_n hx hb dX11_shift_126 rfl (lv_at hl 0 rfl) ?_
    refine get_44_37 C hw q_1188 dX11_shift_127 ?_
    refine lv_bipush (v := 60) hx hb dX11_shift_130 kb_60 ?_
    refine lv_iload_n hx hb dX11_shift_132 rfl (lv_at hl 1 rfl) ?_
    refine lv_imul hx hb dX11_shift_133 ?_
    refine lv_iload_n hx hb dX11_shift_134 rfl (lv_at hl 2 rfl) ?_
    refine lv_iadd hx hb dX11_shift_135 ?_
    refine lv_iload hx hb dX11_shift_136 (lv_at hl 6 rfl) ?_
    refine lv_iadd hx hb dX11_shift_138 ?_
    obtain ⟨hc, hf⟩ := hf_ck hf
    refine ld_63 C hw hc dX11_shift_139 ?_
    obtain ⟨hc, hf⟩ := hf_ck hf
    refine st_64 C hw hc dX11_shift_140 (fun H locs hw => ?_)
    refine nm_S hf hw (fun S1 hf hw => ?_)
    obtain ⟨x2, ex2, hf⟩ := nme hf
    refine lv_iinc (v := x2) (lv' := [(6, .int x2), (0, .ref (ea E 44)), (1, .int l1), (2, .int l2), (3, .int l3), (4, .int l4), (5, .int l5)]) hx hb dX11_shift_141 hl (k := 6) rfl (ki_1 ex2) (by decide) rfl (fun ls hl => ?_)
    refine lv_goto (tgt := 113) hx hb dX11_shift_144 (by decide) ?_
    exact hk113 _ hf _ _ _ hw (lv_sub hl [1, 2, 3, 4, 5, 6, 0] rfl)
theorem w_Mo_shift_L113 {N : Nat} {l1 : Int32} {l2 : Int32} {l3 : Int32} {l4 : Int32} {l5 : Int32} {r : Int32} {S9 : St} (C : Cx p s m args meth c E cX11_shift 7 RX11 (some .int)) : ∀ x, Mo_shift_L113 N l1 l2 l3 l4 l5 x = some (r, S9) → ∀ (H : Heap) (locs : List Loc) (ls : Array Slot), Wd E (wM V E) s.heap x.1 H locs → lv_has ls 7 [(0, .ref (ea E 44)), (1, .int l1), (2, .int l2), (3, .int l3), (4, .int l4), (5, .int l5), (6, .int x.2)] → W p l e (rmh 3) s m args below meth c H locs 0 0 (MQ below (QW E (wM V E) (some (.int r)) S9) args s 0 0 (eA E)) (F0 m 113 ls []) :=
  lp_W (fun k x hk hf H locs ls hw hl => w_Mo_shift_b113 C hk hw hl hf) N
set_option maxRecDepth 20000 in
theorem w_Mo_shift {N : Nat} {p1 : Int32} {p2 : Int32} {p3 : Int32} {p4 : Int32} {p5 : Int32} {r : Int32} {S9 : St} (C : Cx p s m args meth c E cX11_shift 7 RX11 (some .int)) (hw : Wd E (wM V E) s.heap S H locs) (hl : lv_has ls 7 [(0, .ref (ea E 44)), (1, .int p1), (2, .int p2), (3, .int p3), (4, .int p4), (5, .int p5)]) (hf : Mo_shift N S p1 p2 p3 p4 p5 = some (r, S9)) : W p l e (rmh 3) s m args below meth c H locs 0 0 (MQ below (QW E (wM V E) (some (.int r)) S9) args s 0 0 (eA E)) (F0 m 0 ls []) := by
  have hx := C.1
  have hb := C.2.1
  unfold Mo_shift at hf
  refine lv_iload_n hx hb dX11_shift_0 rfl (lv_at hl 1 rfl) ?_
  obtain ⟨r1, hr, hf⟩ := hf_1 hf
  refine inv_Si (As := [.int p1]) lk_X11_114 C hw (t_Mo_isShelf hr) hl.1 dX11_shift_1 rfl (Nat.le_of_ble_eq_true rfl) (by decide) (Nat.le_of_ble_eq_true rfl) rfl (fun H locs hw => ?_)
  refine lv_if_eq (tgt := 14) hx hb dX11_shift_4 (by decide) (fun q => ?_) (fun q => ?_)
  · have hf := hf_t q hf
    refine lv_iconst (v := -1) hx hb dX11_shift_14 kc_m1 ?_
    exact ret_iS C hw dX11_shift_15 hf
  · have hf := hf_f q hf
    refine lv_iload_n hx hb dX11_shift_7 rfl (lv_at hl 3 rfl) ?_
    obtain ⟨r2, hr, hf⟩ := hf_1 hf
    refine inv_Si (As := [.int p3]) lk_X11_114 C hw (t_Mo_isShelf hr) hl.1 dX11_shift_8 rfl (Nat.le_of_ble_eq_true rfl) (by decide) (Nat.le_of_ble_eq_true rfl) rfl (fun H locs hw => ?_)
    refine lv_if_ne (tgt := 16) hx hb dX11_shift_11 (by decide) (fun q => ?_) (fun q => ?_)
    · have hf := hf_f q hf
      refine lv_aload_n hx hb dX11_shift_16 rfl (lv_at hl 0 rfl) ?_
      refine get_44_35 C hw q_1186 dX11_shift_17 ?_
      refine lv_iload_n hx hb dX11_shift_20 rfl (lv_at hl 1 rfl) ?_
      obtain ⟨hc, hf⟩ := hf_ck hf
      refine ld_61 C hw hc dX11_shift_21 ?_
      refine lv_if_lt (tgt := 34) hx hb dX11_shift_22 (by decide) (fun q => ?_) (fun q => ?_)
      · have hf := hf_t q hf
        refine lv_bipush (v := -11) hx hb dX11_shift_34 kb_m11 ?_
        exact ret_iS C hw dX11_shift_36 hf
      · have hf := hf_f q hf
        refine lv_aload_n hx hb dX11_shift_25 rfl (lv_at hl 0 rfl) ?_
        refine get_44_35 C hw q_1186 dX11_shift_26 ?_
        refine lv_iload_n hx hb dX11_shift_29 rfl (lv_at hl 3 rfl) ?_
        obtain ⟨hc, hf⟩ := hf_ck hf
        refine ld_61 C hw hc dX11_shift_30 ?_
        refine lv_if_ge (tgt := 37) hx hb dX11_shift_31 (by decide) (fun q => ?_) (fun q => ?_)
        · have hf := hf_t q hf
          refine lv_aload_n hx hb dX11_shift_37 rfl (lv_at hl 0 rfl) ?_
          refine get_44_35 C hw q_1186 dX11_shift_38 ?_
          refine lv_iload_n hx hb dX11_shift_41 rfl (lv_at hl 1 rfl) ?_
          obtain ⟨hc, hf⟩ := hf_ck hf
          refine ld_61 C hw hc dX11_shift_42 ?_
          refine lv_bipush (v := 50) hx hb dX11_shift_43 kb_50 ?_
          refine lv_icmp_lt (tgt := 63) hx hb dX11_shift_45 (by decide) (fun q => ?_) (fun q => ?_)
          · have hf := hf_t q hf
            refine lv_bipush (v := -12) hx hb dX11_shift_63 kb_m12 ?_
            exact ret_iS C hw dX11_shift_65 hf
          · have hf := hf_f q hf
            refine lv_aload_n hx hb dX11_shift_48 rfl (lv_at hl 0 rfl) ?_
            refine get_44_35 C hw q_1186 dX11_shift_49 ?_
            refine lv_iload_n hx hb dX11_shift_52 rfl (lv_at hl 1 rfl) ?_
            obtain ⟨hc, hf⟩ := hf_ck hf
            refine ld_61 C hw hc dX11_shift_53 ?_
            refine lv_aload_n hx hb dX11_shift_54 rfl (lv_at hl 0 rfl) ?_
            refine get_44_35 C hw q_1186 dX11_shift_55 ?_
            refine lv_iload_n hx hb dX11_shift_58 rfl (lv_at hl 3 rfl) ?_
            obtain ⟨hc, hf⟩ := hf_ck hf
            refine ld_61 C hw hc dX11_shift_59 ?_
            refine lv_icmp_eq (tgt := 66) hx hb dX11_shift_60 (by decide) (fun q => ?_) (fun q => ?_)
            · have hf := hf_t q hf
              refine lv_iload hx hb dX11_shift_66 (lv_at hl 5 rfl) ?_
              refine lv_if_lt (tgt := 107) hx hb dX11_shift_68 (by decide) (fun q => ?_) (fun q => ?_)
              · have hf := hf_t q hf
                refine lv_bipush (v := -13) hx hb dX11_shift_107 kb_m13 ?_
                exact ret_iS C hw dX11_shift_109 hf
              · have hf := hf_f q hf
                refine lv_iload_n hx hb dX11_shift_71 rfl (lv_at hl 2 rfl) ?_
                refine lv_if_lt (tgt := 107) hx hb dX11_shift_72 (by decide) (fun q => ?_) (fun q => ?_)
                · have hf := hf_t q hf
                  refine lv_bipush (v := -13) hx hb dX11_shift_107 kb_m13 ?_
                  exact ret_iS C hw dX11_shift_109 hf
                · have hf := hf_f q hf
                  refine lv_iload hx hb dX11_shift_75 (lv_at hl 4 rfl) ?_
                  refine lv_if_lt (tgt := 107) hx hb dX11_shift_77 (by decide) (fun q => ?_) (fun q => ?_)
                  · have hf := hf_t q hf
                    refine lv_bipush (v := -13) hx hb dX11_shift_107 kb_m13 ?_
                    exact ret_iS C hw dX11_shift_109 hf
                  · have hf := hf_f q hf
                    refine lv_iload_n hx hb dX11_shift_80 rfl (lv_at hl 2 rfl) ?_
                    refine lv_aload_n hx hb dX11_shift_81 rfl (lv_at hl 0 rfl) ?_
                    refine get_44_36 C hw q_1187 dX11_shift_82 ?_
                    refine lv_iload_n hx hb dX11_shift_85 rfl (lv_at hl 1 rfl) ?_
                    obtain ⟨hc, hf⟩ := hf_ck hf
                    refine ld_62 C hw hc dX11_shift_86 ?_
                    refine lv_iload hx hb dX11_shift_87 (lv_at hl 5 rfl) ?_
                    refine lv_isub hx hb dX11_shift_89 ?_
                    refine lv_icmp_gt (tgt := 107) hx hb dX11_shift_90 (by decide) (fun q => ?_) (fun q => ?_)
                    · have hf := hf_t q hf
                      refine lv_bipush (v := -13) hx hb dX11_shift_107 kb_m13 ?_
                      exact ret_iS C hw dX11_shift_109 hf
                    · have hf := hf_f q hf
                      refine lv_iload hx hb dX11_shift_93 (lv_at hl 4 rfl) ?_
                      refine lv_aload_n hx hb dX11_shift_95 rfl (lv_at hl 0 rfl) ?_
                      refine get_44_36 C hw q_1187 dX11_shift_96 ?_
                      refine lv_iload_n hx hb dX11_shift_99 rfl (lv_at hl 3 rfl) ?_
                      obtain ⟨hc, hf⟩ := hf_ck hf
                      refine ld_62 C hw hc dX11_shift_100 ?_
                      refine lv_iload hx hb dX11_shift_101 (lv_at hl 5 rfl) ?_
                      refine lv_isub hx hb dX11_shift_103 ?_
                      refine lv_icmp_le (tgt := 110) hx hb dX11_shift_104 (by decide) (fun q => ?_) (fun q => ?_)
                      · have hf := hf_t q hf
                        refine lv_iconst (v := 0) hx hb dX11_shift_110 kc_0 ?_
                        refine lv_istore (lv' := [(6, .int (0 : Int32)), (0, .ref (ea E 44)), (1, .int p1), (2, .int p2), (3, .int p3), (4, .int p4), (5, .int p5)]) hx hb dX11_shift_111 hl (by decide) rfl (fun ls hl => ?_)
                        exact w_Mo_shift_L113 C _ hf _ _ _ hw (lv_sub hl [1, 2, 3, 4, 5, 6, 0] rfl)
                      · have hf := hf_f q hf
                        refine lv_bipush (v := -13) hx hb dX11_shift_107 kb_m13 ?_
                        exact ret_iS C hw dX11_shift_109 hf
            · have hf := hf_f q hf
              refine lv_bipush (v := -12) hx hb dX11_shift_63 kb_m12 ?_
              exact ret_iS C hw dX11_shift_65 hf
        · have hf := hf_f q hf
          refine lv_bipush (v := -11) hx hb dX11_shift_34 kb_m11 ?_
          exact ret_iS C hw dX11_shift_36 hf
    · have hf := hf_t q hf
      refine lv_iconst (v := -1) hx hb dX11_shift_14 kc_m1 ?_
      exact ret_iS C hw dX11_shift_15 hf
end
theorem t_Mo_shift {l : Launch} {V : St} {N : Nat} {S : St} {p1 : Int32} {p2 : Int32} {p3 : Int32} {p4 : Int32} {p5 : Int32} {r : Int32} {S9 : St} (hf : Mo_shift N S p1 p2 p3 p4 p5 = some (r, S9)) : Ct l (wM V) yX11_shift cX11_shift 7 (some .int) 3 (fun E => [.ref (ea E 44), .int p1, .int p2, .int p3, .int p4, .int p5]) S (fun E => some (.int r)) S9 :=
  ofBlock (by decide +kernel) (fun _ => Nat.le_of_ble_eq_true rfl) (fun E p e s m args below meth c ls C hw hl => w_Mo_shift C hw hl hf)
theorem dX11_taken_0 : decode cX11_taken 0 = .ok (.iload_n 1, 1) := by decide +kernel
theorem dX11_taken_1 : decode cX11_taken 1 = .ok (.invokestatic 114, 3) := by decide +kernel
theorem dX11_taken_4 : decode cX11_taken 4 = .ok (.ifCond .eq 15, 3) := by decide +kernel
theorem dX11_taken_7 : decode cX11_taken 7 = .ok (.iload_n 2, 1) := by decide +kernel
theorem dX11_taken_8 : decode cX11_taken 8 = .ok (.i2l, 1) := by decide +kernel
theorem dX11_taken_9 : decode cX11_taken 9 = .ok (.lconst 0, 1) := by decide +kernel
theorem dX11_taken_10 : decode cX11_taken 10 = .ok (.ldc2_w 281, 3) := by decide +kernel
theorem dX11_taken_13 : decode cX11_taken 13 = .ok (.invokestatic 84, 3) := by decide +kernel
theorem dX11_taken_16 : decode cX11_taken 16 = .ok (.ifCond .ne 5, 3) := by decide +kernel
theorem dX11_taken_19 : decode cX11_taken 19 = .ok (.iconst (-1), 1) := by decide +kernel
theorem dX11_taken_20 : decode cX11_taken 20 = .ok (.ireturn, 1) := by decide +kernel
theorem dX11_taken_21 : decode cX11_taken 21 = .ok (.aload_n 0, 1) := by decide +kernel
theorem dX11_taken_22 : decode cX11_taken 22 = .ok (.getfield 58, 3) := by decide +kernel
theorem dX11_taken_25 : decode cX11_taken 25 = .ok (.iload_n 1, 1) := by decide +kernel
theorem dX11_taken_26 : decode cX11_taken 26 = .ok (.iaload, 1) := by decide +kernel
theorem dX11_taken_27 : decode cX11_taken 27 = .ok (.ifCond .ge 6, 3) := by decide +kernel
theorem dX11_taken_30 : decode cX11_taken 30 = .ok (.bipush (-11), 2) := by decide +kernel
theorem dX11_taken_32 : decode cX11_taken 32 = .ok (.ireturn, 1) := by decide +kernel
theorem dX11_taken_33 : decode cX11_taken 33 = .ok (.aload_n 0, 1) := by decide +kernel
theorem dX11_taken_34 : decode cX11_taken 34 = .ok (.getfield 58, 3) := by decide +kernel
theorem dX11_taken_37 : decode cX11_taken 37 = .ok (.iload_n 1, 1) := by decide +kernel
theorem dX11_taken_38 : decode cX11_taken 38 = .ok (.iaload, 1) := by decide +kernel
theorem dX11_taken_39 : decode cX11_taken 39 = .ok (.bipush 50, 2) := by decide +kernel
theorem dX11_taken_41 : decode cX11_taken 41 = .ok (.if_icmp .lt 6, 3) := by decide +kernel
theorem dX11_taken_44 : decode cX11_taken 44 = .ok (.bipush (-12), 2) := by decide +kernel
theorem dX11_taken_46 : decode cX11_taken 46 = .ok (.ireturn, 1) := by decide +kernel
theorem dX11_taken_47 : decode cX11_taken 47 = .ok (.aload_n 0, 1) := by decide +kernel
theorem dX11_taken_48 : decode cX11_taken 48 = .ok (.aload_n 0, 1) := by decide +kernel
theorem dX11_taken_49 : decode cX11_taken 49 = .ok (.getfield 58, 3) := by decide +kernel
theorem dX11_taken_52 : decode cX11_taken 52 = .ok (.iload_n 1, 1) := by decide +kernel
theorem dX11_taken_53 : decode cX11_taken 53 = .ok (.iaload, 1) := by decide +kernel
theorem dX11_taken_54 : decode cX11_taken 54 = .ok (.invokevirtual 326, 3) := by decide +kernel
theorem dX11_taken_57 : decode cX11_taken 57 = .ok (.istore_n 3, 1) := by decide +kernel
theorem dX11_taken_58 : decode cX11_taken 58 = .ok (.iload_n 3, 1) := by decide +kernel
theorem dX11_taken_59 : decode cX11_taken 59 = .ok (.iload_n 2, 1) := by decide +kernel
theorem dX11_taken_60 : decode cX11_taken 60 = .ok (.if_icmp .eq 15, 3) := by decide +kernel
theorem dX11_taken_63 : decode cX11_taken 63 = .ok (.iload_n 3, 1) := by decide +kernel
theorem dX11_taken_64 : decode cX11_taken 64 = .ok (.ifCond .le 11, 3) := by decide +kernel
theorem dX11_taken_67 : decode cX11_taken 67 = .ok (.iload_n 3, 1) := by decide +kernel
theorem dX11_taken_68 : decode cX11_taken 68 = .ok (.invokestatic 329, 3) := by decide +kernel
theorem dX11_taken_71 : decode cX11_taken 71 = .ok (.istore_n 3, 1) := by decide +kernel
theorem dX11_taken_72 : decode cX11_taken 72 = .ok (.goto (-14), 3) := by decide +kernel
theorem dX11_taken_75 : decode cX11_taken 75 = .ok (.iload_n 3, 1) := by decide +kernel
theorem dX11_taken_76 : decode cX11_taken 76 = .ok (.iload_n 2, 1) := by decide +kernel
theorem dX11_taken_77 : decode cX11_taken 77 = .ok (.if_icmp .ne 16, 3) := by decide +kernel
theorem dX11_taken_80 : decode cX11_taken 80 = .ok (.aload_n 0, 1) := by decide +kernel
theorem dX11_taken_81 : decode cX11_taken 81 = .ok (.aload_n 0, 1) := by decide +kernel
theorem dX11_taken_82 : decode cX11_taken 82 = .ok (.getfield 58, 3) := by decide +kernel
theorem dX11_taken_85 : decode cX11_taken 85 = .ok (.iload_n 1, 1) := by decide +kernel
theorem dX11_taken_86 : decode cX11_taken 86 = .ok (.iaload, 1) := by decide +kernel
theorem dX11_taken_87 : decode cX11_taken 87 = .ok (.invokevirtual 326, 3) := by decide +kernel
theorem dX11_taken_90 : decode cX11_taken 90 = .ok (.goto 5, 3) := by decide +kernel
theorem dX11_taken_93 : decode cX11_taken 93 = .ok (.bipush (-12), 2) := by decide +kernel
theorem dX11_taken_95 : decode cX11_taken 95 = .ok (.ireturn, 1) := by decide +kernel
section
variable {p : Program} {l : Launch} {e : Env} {s : State} {m : MethodId} {args : Array Value} {below : List Frame} {meth : Method} {c : Code} {H : Heap} {locs : List Loc} {E : Ev} {S V : St} {ls : Array Slot}
set_option maxRecDepth 20000 in
theorem w_Mo_taken_b75 {N : Nat} {l1 : Int32} {l2 : Int32} {l3 : Int32} {r : Int32} (C : Cx p s m args meth c E cX11_taken 4 RX11 (some .int)) (hw : Wd E (wM V E) s.heap S H locs) (hl : lv_has ls 4 [(0, .ref (ea E 44)), (1, .int l1), (2, .int l2), (3, .int l3)]) (hf : Mo_taken_b75 N S l1 l2 l3 = some r) : W p l e (rmh 3) s m args below meth c H locs 0 0 (MQ below (QW E (wM V E) (some (.int r)) S) args s 0 0 (eA E)) (F0 m 75 ls []) := by
  have hx := C.1
  have hb := C.2.1
  unfold Mo_taken_b75 at hf
  refine lv_iload_n hx hb dX11_taken_75 rfl (lv_at hl 3 rfl) ?_
  refine lv_iload_n hx hb dX11_taken_76 rfl (lv_at hl 2 rfl) ?_
  refine lv_icmp_ne (tgt := 93) hx hb dX11_taken_77 (by decide) (fun q => ?_) (fun q => ?_)
  · have hf := hf_f q hf
    refine lv_bipush (v := -12) hx hb dX11_taken_93 kb_m12 ?_
    exact ret_i C hw dX11_taken_95 hf
  · have hf := hf_t q hf
    refine lv_aload_n hx hb dX11_taken_80 rfl (lv_at hl 0 rfl) ?_
    refine lv_aload_n hx hb dX11_taken_81 rfl (lv_at hl 0 rfl) ?_
    refine get_44_35 C hw q_1186 dX11_taken_82 ?_
    refine lv_iload_n hx hb dX11_taken_85 rfl (lv_at hl 1 rfl) ?_
    obtain ⟨hc, hf⟩ := hf_ck hf
    refine ld_61 C hw hc dX11_taken_86 ?_
    obtain ⟨r1, hr, hf⟩ := hf_1 hf
    refine inv_Vi (q0 := 44) (ci := 11) (As := [.int (gi S 61 l1.toNatClampNeg)]) lk_X11_326 C hw rfl rfl rfl (t_Mo_kindOf hr) rfl hl.1 dX11_taken_87 rfl (Nat.le_of_ble_eq_true rfl) (by decide) (Nat.le_of_ble_eq_true rfl) rfl (fun H locs hw => ?_)
    refine lv_goto (tgt := 95) hx hb dX11_taken_90 (by decide) ?_
    exact ret_i C hw dX11_taken_95 hf
set_option maxRecDepth 20000 in
theorem w_Mo_taken_b58 {N : Nat} {k58 : (Int32) → Option Int32} {l1 : Int32} {l2 : Int32} {l3 : Int32} {r : Int32} (C : Cx p s m args meth c E cX11_taken 4 RX11 (some .int)) (hk58 : ∀ x, k58 x = some r → ∀ (H : Heap) (locs : List Loc) (ls : Array Slot), Wd E (wM V E) s.heap S H locs → lv_has ls 4 [(0, .ref (ea E 44)), (1, .int l1), (2, .int l2), (3, .int x)] → W p l e (rmh 3) s m args below meth c H locs 0 0 (MQ below (QW E (wM V E) (some (.int r)) S) args s 0 0 (eA E)) (F0 m 58 ls [])) (hw : Wd E (wM V E) s.heap S H locs) (hl : lv_has ls 4 [(0, .ref (ea E 44)), (1, .int l1), (2, .int l2), (3, .int l3)]) (hf : Mo_taken_b58 N k58 S l1 l2 l3 = some r) : W p l e (rmh 3) s m args below meth c H locs 0 0 (MQ below (QW E (wM V E) (some (.int r)) S) args s 0 0 (eA E)) (F0 m 58 ls []) := by
  have hx := C.1
  have hb := C.2.1
  unfold Mo_taken_b58 at hf
  refine lv_iload_n hx hb dX11_taken_58 rfl (lv_at hl 3 rfl) ?_
  refine lv_iload_n hx hb dX11_taken_59 rfl (lv_at hl 2 rfl) ?_
  refine lv_icmp_eq (tgt := 75) hx hb dX11_taken_60 (by decide) (fun q => ?_) (fun q => ?_)
  · have hf := hf_t q hf
    exact w_Mo_taken_b75 C hw (lv_sub hl [0, 1, 2, 3] rfl) hf
  · have hf := hf_f q hf
    refine lv_iload_n hx hb dX11_taken_63 rfl (lv_at hl 3 rfl) ?_
    refine lv_if_le (tgt := 75) hx hb dX11_taken_64 (by decide) (fun q => ?_) (fun q => ?_)
    · have hf := hf_t q hf
      exact w_Mo_taken_b75 C hw (lv_sub hl [0, 1, 2, 3] rfl) hf
    · have hf := hf_f q hf
      refine lv_iload_n hx hb dX11_taken_67 rfl (lv_at hl 3 rfl) ?_
      obtain ⟨r1, hr, hf⟩ := hf_1 hf
      refine inv_Si (As := [.int l3]) lk_X11_329 C hw (t_Mo_above hr) hl.1 dX11_taken_68 rfl (Nat.le_of_ble_eq_true rfl) (by decide) (Nat.le_of_ble_eq_true rfl) rfl (fun H locs hw => ?_)
      refine lv_istore_n (lv' := [(3, .int r1), (0, .ref (ea E 44)), (1, .int l1), (2, .int l2)]) hx hb dX11_taken_71 rfl hl (by decide) rfl (fun ls hl => ?_)
      refine lv_goto (tgt := 58) hx hb dX11_taken_72 (by decide) ?_
      exact hk58 _ hf _ _ _ hw (lv_sub hl [1, 2, 3, 0] rfl)
theorem w_Mo_taken_L58 {N : Nat} {l1 : Int32} {l2 : Int32} {r : Int32} (C : Cx p s m args meth c E cX11_taken 4 RX11 (some .int)) : ∀ x, Mo_taken_L58 N S l1 l2 x = some r → ∀ (H : Heap) (locs : List Loc) (ls : Array Slot), Wd E (wM V E) s.heap S H locs → lv_has ls 4 [(0, .ref (ea E 44)), (1, .int l1), (2, .int l2), (3, .int x)] → W p l e (rmh 3) s m args below meth c H locs 0 0 (MQ below (QW E (wM V E) (some (.int r)) S) args s 0 0 (eA E)) (F0 m 58 ls []) :=
  lp_W (fun k x hk hf H locs ls hw hl => w_Mo_taken_b58 C hk hw hl hf) N
set_option maxRecDepth 20000 in
theorem w_Mo_taken {N : Nat} {p1 : Int32} {p2 : Int32} {r : Int32} (C : Cx p s m args meth c E cX11_taken 4 RX11 (some .int)) (hw : Wd E (wM V E) s.heap S H locs) (hl : lv_has ls 4 [(0, .ref (ea E 44)), (1, .int p1), (2, .int p2)]) (hf : Mo_taken N S p1 p2 = some r) : W p l e (rmh 3) s m args below meth c H locs 0 0 (MQ below (QW E (wM V E) (some (.int r)) S) args s 0 0 (eA E)) (F0 m 0 ls []) := by
  have hx := C.1
  have hb := C.2.1
  unfold Mo_taken at hf
  refine lv_iload_n hx hb dX11_taken_0 rfl (lv_at hl 1 rfl) ?_
  obtain ⟨r1, hr, hf⟩ := hf_1 hf
  refine inv_Si (As := [.int p1]) lk_X11_114 C hw (t_Mo_isShelf hr) hl.1 dX11_taken_1 rfl (Nat.le_of_ble_eq_true rfl) (by decide) (Nat.le_of_ble_eq_true rfl) rfl (fun H locs hw => ?_)
  refine lv_if_eq (tgt := 19) hx hb dX11_taken_4 (by decide) (fun q => ?_) (fun q => ?_)
  · have hf := hf_t q hf
    refine lv_iconst (v := -1) hx hb dX11_taken_19 kc_m1 ?_
    exact ret_i C hw dX11_taken_20 hf
  · have hf := hf_f q hf
    refine lv_iload_n hx hb dX11_taken_7 rfl (lv_at hl 2 rfl) ?_
    refine lv_i2l hx hb dX11_taken_8 rfl ?_
    refine lv_lconst (v := 0) hx hb dX11_taken_9 rfl ?_
    refine lv_ldc2 (v := 7) hx hb C.2.2.2.1 (C.2.2.2.2.1 _ q_1588) dX11_taken_10 ?_
    obtain ⟨r2, hr, hf⟩ := hf_1 hf
    refine inv_Si (As := [.long (Int32.toInt64 p2), .long (0 : Int64), .long (7 : Int64)]) lk_X11_84 C hw (t_Mo_within hr) hl.1 dX11_taken_13 rfl (Nat.le_of_ble_eq_true rfl) (by decide) (Nat.le_of_ble_eq_true rfl) rfl (fun H locs hw => ?_)
    refine lv_if_ne (tgt := 21) hx hb dX11_taken_16 (by decide) (fun q => ?_) (fun q => ?_)
    · have hf := hf_f q hf
      refine lv_aload_n hx hb dX11_taken_21 rfl (lv_at hl 0 rfl) ?_
      refine get_44_35 C hw q_1186 dX11_taken_22 ?_
      refine lv_iload_n hx hb dX11_taken_25 rfl (lv_at hl 1 rfl) ?_
      obtain ⟨hc, hf⟩ := hf_ck hf
      refine ld_61 C hw hc dX11_taken_26 ?_
      refine lv_if_ge (tgt := 33) hx hb dX11_taken_27 (by decide) (fun q => ?_) (fun q => ?_)
      · have hf := hf_t q hf
        refine lv_aload_n hx hb dX11_taken_33 rfl (lv_at hl 0 rfl) ?_
        refine get_44_35 C hw q_1186 dX11_taken_34 ?_
        refine lv_iload_n hx hb dX11_taken_37 rfl (lv_at hl 1 rfl) ?_
        obtain ⟨hc, hf⟩ := hf_ck hf
        refine ld_61 C hw hc dX11_taken_38 ?_
        refine lv_bipush (v := 50) hx hb dX11_taken_39 kb_50 ?_
        refine lv_icmp_lt (tgt := 47) hx hb dX11_taken_41 (by decide) (fun q => ?_) (fun q => ?_)
        · have hf := hf_t q hf
          refine lv_aload_n hx hb dX11_taken_47 rfl (lv_at hl 0 rfl) ?_
          refine lv_aload_n hx hb dX11_taken_48 rfl (lv_at hl 0 rfl) ?_
          refine get_44_35 C hw q_1186 dX11_taken_49 ?_
          refine lv_iload_n hx hb dX11_taken_52 rfl (lv_at hl 1 rfl) ?_
          obtain ⟨hc, hf⟩ := hf_ck hf
          refine ld_61 C hw hc dX11_taken_53 ?_
          obtain ⟨r3, hr, hf⟩ := hf_1 hf
          refine inv_Vi (q0 := 44) (ci := 11) (As := [.int (gi S 61 p1.toNatClampNeg)]) lk_X11_326 C hw rfl rfl rfl (t_Mo_kindOf hr) rfl hl.1 dX11_taken_54 rfl (Nat.le_of_ble_eq_true rfl) (by decide) (Nat.le_of_ble_eq_true rfl) rfl (fun H locs hw => ?_)
          refine lv_istore_n (lv' := [(3, .int r3), (0, .ref (ea E 44)), (1, .int p1), (2, .int p2)]) hx hb dX11_taken_57 rfl hl (by decide) rfl (fun ls hl => ?_)
          exact w_Mo_taken_L58 C _ hf _ _ _ hw (lv_sub hl [1, 2, 3, 0] rfl)
        · have hf := hf_f q hf
          refine lv_bipush (v := -12) hx hb dX11_taken_44 kb_m12 ?_
          exact ret_i C hw dX11_taken_46 hf
      · have hf := hf_f q hf
        refine lv_bipush (v := -11) hx hb dX11_taken_30 kb_m11 ?_
        exact ret_i C hw dX11_taken_32 hf
    · have hf := hf_t q hf
      refine lv_iconst (v := -1) hx hb dX11_taken_19 kc_m1 ?_
      exact ret_i C hw dX11_taken_20 hf
end
theorem t_Mo_taken {l : Launch} {V : St} {N : Nat} {S : St} {p1 : Int32} {p2 : Int32} {r : Int32} (hf : Mo_taken N S p1 p2 = some r) : Ct l (wM V) yX11_taken cX11_taken 4 (some .int) 3 (fun E => [.ref (ea E 44), .int p1, .int p2]) S (fun E => some (.int r)) S :=
  ofBlock (by decide +kernel) (fun _ => Nat.le_of_ble_eq_true rfl) (fun E p e s m args below meth c ls C hw hl => w_Mo_taken C hw hl hf)
theorem dX11_count_0 : decode cX11_count 0 = .ok (.iload_n 1, 1) := by decide +kernel
theorem dX11_count_1 : decode cX11_count 1 = .ok (.tableswitch 69 0 5 #[39, 44, 49, 54, 59, 64], 39) := by decide +kernel
theorem dX11_count_40 : decode cX11_count 40 = .ok (.aload_n 0, 1) := by decide +kernel
theorem dX11_count_41 : decode cX11_count 41 = .ok (.getfield 81, 3) := by decide +kernel
theorem dX11_count_44 : decode cX11_count 44 = .ok (.ireturn, 1) := by decide +kernel
theorem dX11_count_45 : decode cX11_count 45 = .ok (.aload_n 0, 1) := by decide +kernel
theorem dX11_count_46 : decode cX11_count 46 = .ok (.getfield 88, 3) := by decide +kernel
theorem dX11_count_49 : decode cX11_count 49 = .ok (.ireturn, 1) := by decide +kernel
theorem dX11_count_50 : decode cX11_count 50 = .ok (.aload_n 0, 1) := by decide +kernel
theorem dX11_count_51 : decode cX11_count 51 = .ok (.getfield 145, 3) := by decide +kernel
theorem dX11_count_54 : decode cX11_count 54 = .ok (.ireturn, 1) := by decide +kernel
theorem dX11_count_55 : decode cX11_count 55 = .ok (.aload_n 0, 1) := by decide +kernel
theorem dX11_count_56 : decode cX11_count 56 = .ok (.getfield 75, 3) := by decide +kernel
theorem dX11_count_59 : decode cX11_count 59 = .ok (.ireturn, 1) := by decide +kernel
theorem dX11_count_60 : decode cX11_count 60 = .ok (.aload_n 0, 1) := by decide +kernel
theorem dX11_count_61 : decode cX11_count 61 = .ok (.getfield 278, 3) := by decide +kernel
theorem dX11_count_64 : decode cX11_count 64 = .ok (.ireturn, 1) := by decide +kernel
theorem dX11_count_65 : decode cX11_count 65 = .ok (.aload_n 0, 1) := by decide +kernel
theorem dX11_count_66 : decode cX11_count 66 = .ok (.getfield 283, 3) := by decide +kernel
theorem dX11_count_69 : decode cX11_count 69 = .ok (.ireturn, 1) := by decide +kernel
theorem dX11_count_70 : decode cX11_count 70 = .ok (.iconst (-1), 1) := by decide +kernel
theorem dX11_count_71 : decode cX11_count 71 = .ok (.ireturn, 1) := by decide +kernel
section
variable {p : Program} {l : Launch} {e : Env} {s : State} {m : MethodId} {args : Array Value} {below : List Frame} {meth : Method} {c : Code} {H : Heap} {locs : List Loc} {E : Ev} {S V : St} {ls : Array Slot}
set_option maxRecDepth 20000 in
theorem w_Mo_count {p1 : Int32} {r : Int32} (C : Cx p s m args meth c E cX11_count 2 RX11 (some .int)) (hw : Wd E (wM V E) s.heap S H locs) (hl : lv_has ls 2 [(0, .ref (ea E 44)), (1, .int p1)]) (hf : Mo_count S p1 = some r) : W p l e (rmh 1) s m args below meth c H locs 0 0 (MQ below (QW E (wM V E) (some (.int r)) S) args s 0 0 (eA E)) (F0 m 0 ls []) := by
  have hx := C.1
  have hb := C.2.1
  unfold Mo_count at hf
  refine lv_iload_n hx hb dX11_count_0 rfl (lv_at hl 1 rfl) ?_
  by_cases q0 : p1 = 0
  · have hf := hf_t q0 hf
    refine lv_tableIn (off := 39) (tgt := 40) hx hb dX11_count_1 (by rw [q0]; decide) (by rw [q0]; decide) (by rw [q0]; rfl) (by decide) ?_
    refine lv_aload_n hx hb dX11_count_40 rfl (lv_at hl 0 rfl) ?_
    refine get_44_6 C hw q_1157 dX11_count_41 ?_
    exact ret_i C hw dX11_count_44 hf
  have hf := hf_f q0 hf
  by_cases q1 : p1 = 1
  · have hf := hf_t q1 hf
    refine lv_tableIn (off := 44) (tgt := 45) hx hb dX11_count_1 (by rw [q1]; decide) (by rw [q1]; decide) (by rw [q1]; rfl) (by decide) ?_
    refine lv_aload_n hx hb dX11_count_45 rfl (lv_at hl 0 rfl) ?_
    refine get_44_7 C hw q_1158 dX11_count_46 ?_
    exact ret_i C hw dX11_count_49 hf
  have hf := hf_f q1 hf
  by_cases q2 : p1 = 2
  · have hf := hf_t q2 hf
    refine lv_tableIn (off := 49) (tgt := 50) hx hb dX11_count_1 (by rw [q2]; decide) (by rw [q2]; decide) (by rw [q2]; rfl) (by decide) ?_
    refine lv_aload_n hx hb dX11_count_50 rfl (lv_at hl 0 rfl) ?_
    refine get_44_11 C hw q_1162 dX11_count_51 ?_
    exact ret_i C hw dX11_count_54 hf
  have hf := hf_f q2 hf
  by_cases q3 : p1 = 3
  · have hf := hf_t q3 hf
    refine lv_tableIn (off := 54) (tgt := 55) hx hb dX11_count_1 (by rw [q3]; decide) (by rw [q3]; decide) (by rw [q3]; rfl) (by decide) ?_
    refine lv_aload_n hx hb dX11_count_55 rfl (lv_at hl 0 rfl) ?_
    refine get_44_5 C hw q_1156 dX11_count_56 ?_
    exact ret_i C hw dX11_count_59 hf
  have hf := hf_f q3 hf
  by_cases q4 : p1 = 4
  · have hf := hf_t q4 hf
    refine lv_tableIn (off := 59) (tgt := 60) hx hb dX11_count_1 (by rw [q4]; decide) (by rw [q4]; decide) (by rw [q4]; rfl) (by decide) ?_
    refine lv_aload_n hx hb dX11_count_60 rfl (lv_at hl 0 rfl) ?_
    refine get_44_29 C hw q_1180 dX11_count_61 ?_
    exact ret_i C hw dX11_count_64 hf
  have hf := hf_f q4 hf
  by_cases q5 : p1 = 5
  · have hf := hf_t q5 hf
    refine lv_tableIn (off := 64) (tgt := 65) hx hb dX11_count_1 (by rw [q5]; decide) (by rw [q5]; decide) (by rw [q5]; rfl) (by decide) ?_
    refine lv_aload_n hx hb dX11_count_65 rfl (lv_at hl 0 rfl) ?_
    refine get_44_32 C hw q_1183 dX11_count_66 ?_
    exact ret_i C hw dX11_count_69 hf
  have hf := hf_f q5 hf
  refine lv_tableOut (tgt := 70) hx hb dX11_count_1 (by have h0 := lv_neT (a := 0) q0 rfl; have h1 := lv_neT (a := 1) q1 rfl; have h2 := lv_neT (a := 2) q2 rfl; have h3 := lv_neT (a := 3) q3 rfl; have h4 := lv_neT (a := 4) q4 rfl; have h5 := lv_neT (a := 5) q5 rfl; omega) (by decide) ?_
  refine lv_iconst (v := -1) hx hb dX11_count_70 kc_m1 ?_
  exact ret_i C hw dX11_count_71 hf
end
theorem t_Mo_count {l : Launch} {V : St} {S : St} {p1 : Int32} {r : Int32} (hf : Mo_count S p1 = some r) : Ct l (wM V) yX11_count cX11_count 2 (some .int) 1 (fun E => [.ref (ea E 44), .int p1]) S (fun E => some (.int r)) S :=
  ofBlock (by decide +kernel) (fun _ => Nat.le_of_ble_eq_true rfl) (fun E p e s m args below meth c ls C hw hl => w_Mo_count C hw hl hf)
