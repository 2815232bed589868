theorem dX7_refusalOfPair_0 : decode cX7_refusalOfPair 0 = .ok (.aload_n 0, 1) := by decide +kernel
theorem dX7_refusalOfPair_1 : decode cX7_refusalOfPair 1 = .ok (.getfield 18, 3) := by decide +kernel
theorem dX7_refusalOfPair_4 : decode cX7_refusalOfPair 4 = .ok (.iload_n 1, 1) := by decide +kernel
theorem dX7_refusalOfPair_5 : decode cX7_refusalOfPair 5 = .ok (.iaload, 1) := by decide +kernel
theorem dX7_refusalOfPair_6 : decode cX7_refusalOfPair 6 = .ok (.iconst (-1), 1) := by decide +kernel
theorem dX7_refusalOfPair_7 : decode cX7_refusalOfPair 7 = .ok (.if_icmp .eq 13, 3) := by decide +kernel
theorem dX7_refusalOfPair_10 : decode cX7_refusalOfPair 10 = .ok (.aload_n 0, 1) := by decide +kernel
theorem dX7_refusalOfPair_11 : decode cX7_refusalOfPair 11 = .ok (.getfield 18, 3) := by decide +kernel
theorem dX7_refusalOfPair_14 : decode cX7_refusalOfPair 14 = .ok (.iload_n 2, 1) := by decide +kernel
theorem dX7_refusalOfPair_15 : decode cX7_refusalOfPair 15 = .ok (.iaload, 1) := by decide +kernel
theorem dX7_refusalOfPair_16 : decode cX7_refusalOfPair 16 = .ok (.iconst (-1), 1) := by decide +kernel
theorem dX7_refusalOfPair_17 : decode cX7_refusalOfPair 17 = .ok (.if_icmp .ne 6, 3) := by decide +kernel
theorem dX7_refusalOfPair_20 : decode cX7_refusalOfPair 20 = .ok (.bipush (-11), 2) := by decide +kernel
theorem dX7_refusalOfPair_22 : decode cX7_refusalOfPair 22 = .ok (.ireturn, 1) := by decide +kernel
theorem dX7_refusalOfPair_23 : decode cX7_refusalOfPair 23 = .ok (.aload_n 0, 1) := by decide +kernel
theorem dX7_refusalOfPair_24 : decode cX7_refusalOfPair 24 = .ok (.iload_n 1, 1) := by decide +kernel
theorem dX7_refusalOfPair_25 : decode cX7_refusalOfPair 25 = .ok (.invokevirtual 38, 3) := by decide +kernel
theorem dX7_refusalOfPair_28 : decode cX7_refusalOfPair 28 = .ok (.ifCond .eq 22, 3) := by decide +kernel
theorem dX7_refusalOfPair_31 : decode cX7_refusalOfPair 31 = .ok (.aload_n 0, 1) := by decide +kernel
theorem dX7_refusalOfPair_32 : decode cX7_refusalOfPair 32 = .ok (.getfield 18, 3) := by decide +kernel
theorem dX7_refusalOfPair_35 : decode cX7_refusalOfPair 35 = .ok (.iload_n 1, 1) := by decide +kernel
theorem dX7_refusalOfPair_36 : decode cX7_refusalOfPair 36 = .ok (.iaload, 1) := by decide +kernel
theorem dX7_refusalOfPair_37 : decode cX7_refusalOfPair 37 = .ok (.aload_n 0, 1) := by decide +kernel
theorem dX7_refusalOfPair_38 : decode cX7_refusalOfPair 38 = .ok (.getfield 18, 3) := by decide +kernel
theorem dX7_refusalOfPair_41 : decode cX7_refusalOfPair 41 = .ok (.iload_n 2, 1) := by decide +kernel
theorem dX7_refusalOfPair_42 : decode cX7_refusalOfPair 42 = .ok (.iaload, 1) := by decide +kernel
theorem dX7_refusalOfPair_43 : decode cX7_refusalOfPair 43 = .ok (.if_icmp .ne 7, 3) := by decide +kernel
theorem dX7_refusalOfPair_46 : decode cX7_refusalOfPair 46 = .ok (.iconst 0, 1) := by decide +kernel
theorem dX7_refusalOfPair_47 : decode cX7_refusalOfPair 47 = .ok (.goto 5, 3) := by decide +kernel
theorem dX7_refusalOfPair_50 : decode cX7_refusalOfPair 50 = .ok (.bipush (-12), 2) := by decide +kernel
theorem dX7_refusalOfPair_52 : decode cX7_refusalOfPair 52 = .ok (.ireturn, 1) := by decide +kernel
def Sh_refusalOfPair (S : St) (p1 : Int32) (p2 : Int32) : Option Int32 :=
  ck (inb p1 6) <|
  if (gi S 42 p1.toNatClampNeg) = (-1 : Int32) then
    some (-11 : Int32)
  else
    ck (inb p2 6) <|
    if (gi S 42 p2.toNatClampNeg) = (-1 : Int32) then
      some (-11 : Int32)
    else
      bd1 (Sh_holdsRow S p1) fun r1 =>
      if r1 = 0 then
        some (-12 : Int32)
      else
        ck (inb p1 6) <|
        ck (inb p2 6) <|
        if (gi S 42 p1.toNatClampNeg) = (gi S 42 p2.toNatClampNeg) then
          some (0 : Int32)
        else
          some (-12 : Int32)
section
variable {p : Program} {l : Launch} {e : Env} {s : State} {m : MethodId} {args : Array Value} {below : List Frame} {meth : Method} {c : Code} {H : Heap} {locs : List Loc} {E : Ev} {S V : St} {ls : Array Slot}
set_option maxRecDepth 20000 in
theorem w_Sh_refusalOfPair {p1 : Int32} {p2 : Int32} {r : Int32} (C : Cx p s m args meth c E cX7_refusalOfPair 3 RX7 (some .int)) (hw : Wd E (wX V E) s.heap S H locs) (hl : lv_has ls 3 [(0, .ref (ea E 10)), (1, .int p1), (2, .int p2)]) (hf : Sh_refusalOfPair S p1 p2 = some r) : W p l e (rmh 2) s m args below meth c H locs 0 0 (MQ below (QW E (wX V E) (some (.int r)) S) args s 0 0 (eA E)) (F0 m 0 ls []) := by
  have hx := C.1
  have hb := C.2.1
  unfold Sh_refusalOfPair at hf
  refine lv_aload_n hx hb dX7_refusalOfPair_0 rfl (lv_at hl 0 rfl) ?_
  refine get_10_2 C hw q_218 dX7_refusalOfPair_1 ?_
  refine lv_iload_n hx hb dX7_refusalOfPair_4 rfl (lv_at hl 1 rfl) ?_
  obtain ⟨hc, hf⟩ := hf_ck hf
  refine ld_42 C hw hc dX7_refusalOfPair_5 ?_
  refine lv_iconst (v := -1) hx hb dX7_refusalOfPair_6 kc_m1 ?_
  refine lv_icmp_eq (tgt := 20) hx hb dX7_refusalOfPair_7 (by decide) (fun q => ?_) (fun q => ?_)
  · have hf := hf_t q hf
    refine lv_bipush (v := -11) hx hb dX7_refusalOfPair_20 kb_m11 ?_
    exact ret_i C hw dX7_refusalOfPair_22 hf
  · have hf := hf_f q hf
    refine lv_aload_n hx hb dX7_refusalOfPair_10 rfl (lv_at hl 0 rfl) ?_
    refine get_10_2 C hw q_218 dX7_refusalOfPair_11 ?_
    refine lv_iload_n hx hb dX7_refusalOfPair_14 rfl (lv_at hl 2 rfl) ?_
    obtain ⟨hc, hf⟩ := hf_ck hf
    refine ld_42 C hw hc dX7_refusalOfPair_15 ?_
    refine lv_iconst (v := -1) hx hb dX7_refusalOfPair_16 kc_m1 ?_
    refine lv_icmp_ne (tgt := 23) hx hb dX7_refusalOfPair_17 (by decide) (fun q => ?_) (fun q => ?_)
    · have hf := hf_f q hf
      refine lv_aload_n hx hb dX7_refusalOfPair_23 rfl (lv_at hl 0 rfl) ?_
      refine lv_iload_n hx hb dX7_refusalOfPair_24 rfl (lv_at hl 1 rfl) ?_
      obtain ⟨r1, hr, hf⟩ := hf_1 hf
      refine inv_Vi (q0 := 10) (ci := 7) (As := [.int p1]) lk_X7_38 C hw rfl rfl rfl (t_Sh_holdsRow hr) rfl hl.1 dX7_refusalOfPair_25 rfl (Nat.le_of_ble_eq_true rfl) (by decide) (Nat.le_of_ble_eq_true rfl) rfl (fun H locs hw => ?_)
      refine lv_if_eq (tgt := 50) hx hb dX7_refusalOfPair_28 (by decide) (fun q => ?_) (fun q => ?_)
      · have hf := hf_t q hf
        refine lv_bipush (v := -12) hx hb dX7_refusalOfPair_50 kb_m12 ?_
        exact ret_i C hw dX7_refusalOfPair_52 hf
      · have hf := hf_f q hf
        refine lv_aload_n hx hb dX7_refusalOfPair_31 rfl (lv_at hl 0 rfl) ?_
        refine get_10_2 C hw q_218 dX7_refusalOfPair_32 ?_
        refine lv_iload_n hx hb dX7_refusalOfPair_35 rfl (lv_at hl 1 rfl) ?_
        obtain ⟨hc, hf⟩ := hf_ck hf
        refine ld_42 C hw hc dX7_refusalOfPair_36 ?_
        refine lv_aload_n hx hb dX7_refusalOfPair_37 rfl (lv_at hl 0 rfl) ?_
        refine get_10_2 C hw q_218 dX7_refusalOfPair_38 ?_
        refine lv_iload_n hx hb dX7_refusalOfPair_41 rfl (lv_at hl 2 rfl) ?_
        obtain ⟨hc, hf⟩ := hf_ck hf
        refine ld_42 C hw hc dX7_refusalOfPair_42 ?_
        refine lv_icmp_ne (tgt := 50) hx hb dX7_refusalOfPair_43 (by decide) (fun q => ?_) (fun q => ?_)
        · have hf := hf_f q hf
          refine lv_bipush (v := -12) hx hb dX7_refusalOfPair_50 kb_m12 ?_
          exact ret_i C hw dX7_refusalOfPair_52 hf
        · have hf := hf_t q hf
          refine lv_iconst (v := 0) hx hb dX7_refusalOfPair_46 kc_0 ?_
          refine lv_goto (tgt := 52) hx hb dX7_refusalOfPair_47 (by decide) ?_
          exact ret_i C hw dX7_refusalOfPair_52 hf
    · have hf := hf_t q hf
      refine lv_bipush (v := -11) hx hb dX7_refusalOfPair_20 kb_m11 ?_
      exact ret_i C hw dX7_refusalOfPair_22 hf
end
theorem t_Sh_refusalOfPair {l : Launch} {V : St} {S : St} {p1 : Int32} {p2 : Int32} {r : Int32} (hf : Sh_refusalOfPair S p1 p2 = some r) : Ct l (wX V) yX7_refusalOfPair cX7_refusalOfPair 3 (some .int) 2 (fun E => [.ref (ea E 10), .int p1, .int p2]) S (fun E => some (.int r)) S :=
  ofBlock (by decide +kernel) (fun _ => Nat.le_of_ble_eq_true rfl) (fun E p e s m args below meth c ls C hw hl => w_Sh_refusalOfPair C hw hl hf)
theorem dX7_lowestBits_0 : decode cX7_lowestBits 0 = .ok (.iload_n 0, 1) := by decide +kernel
theorem dX7_lowestBits_1 : decode cX7_lowestBits 1 = .ok (.tableswitch 61 0 4 #[35, 40, 45, 61, 49], 35) := by decide +kernel
theorem dX7_lowestBits_36 : decode cX7_lowestBits 36 = .ok (.lload_n 1, 1) := by decide +kernel
theorem dX7_lowestBits_37 : decode cX7_lowestBits 37 = .ok (.l2i, 1) := by decide +kernel
theorem dX7_lowestBits_38 : decode cX7_lowestBits 38 = .ok (.i2b, 1) := by decide +kernel
theorem dX7_lowestBits_39 : decode cX7_lowestBits 39 = .ok (.i2l, 1) := by decide +kernel
theorem dX7_lowestBits_40 : decode cX7_lowestBits 40 = .ok (.lreturn, 1) := by decide +kernel
theorem dX7_lowestBits_41 : decode cX7_lowestBits 41 = .ok (.lload_n 1, 1) := by decide +kernel
theorem dX7_lowestBits_42 : decode cX7_lowestBits 42 = .ok (.l2i, 1) := by decide +kernel
theorem dX7_lowestBits_43 : decode cX7_lowestBits 43 = .ok (.i2s, 1) := by decide +kernel
theorem dX7_lowestBits_44 : decode cX7_lowestBits 44 = .ok (.i2l, 1) := by decide +kernel
theorem dX7_lowestBits_45 : decode cX7_lowestBits 45 = .ok (.lreturn, 1) := by decide +kernel
theorem dX7_lowestBits_46 : decode cX7_lowestBits 46 = .ok (.lload_n 1, 1) := by decide +kernel
theorem dX7_lowestBits_47 : decode cX7_lowestBits 47 = .ok (.l2i, 1) := by decide +kernel
theorem dX7_lowestBits_48 : decode cX7_lowestBits 48 = .ok (.i2l, 1) := by decide +kernel
theorem dX7_lowestBits_49 : decode cX7_lowestBits 49 = .ok (.lreturn, 1) := by decide +kernel
theorem dX7_lowestBits_50 : decode cX7_lowestBits 50 = .ok (.lload_n 1, 1) := by decide +kernel
theorem dX7_lowestBits_51 : decode cX7_lowestBits 51 = .ok (.lconst 0, 1) := by decide +kernel
theorem dX7_lowestBits_52 : decode cX7_lowestBits 52 = .ok (.lcmp, 1) := by decide +kernel
theorem dX7_lowestBits_53 : decode cX7_lowestBits 53 = .ok (.ifCond .eq 7, 3) := by decide +kernel
theorem dX7_lowestBits_56 : decode cX7_lowestBits 56 = .ok (.lconst 1, 1) := by decide +kernel
theorem dX7_lowestBits_57 : decode cX7_lowestBits 57 = .ok (.goto 4, 3) := by decide +kernel
theorem dX7_lowestBits_60 : decode cX7_lowestBits 60 = .ok (.lconst 0, 1) := by decide +kernel
theorem dX7_lowestBits_61 : decode cX7_lowestBits 61 = .ok (.lreturn, 1) := by decide +kernel
theorem dX7_lowestBits_62 : decode cX7_lowestBits 62 = .ok (.lload_n 1, 1) := by decide +kernel
theorem dX7_lowestBits_63 : decode cX7_lowestBits 63 = .ok (.lreturn, 1) := by decide +kernel
def Sh_lowestBits (S : St) (p1 : Int32) (p2 : Int64) : Option Int64 :=
  if p1 = 0 then
    some (Int32.toInt64 (Int32.toInt8 (Int64.toInt32 p2)).toInt32)
  else
  if p1 = 1 then
    some (Int32.toInt64 (Int32.toInt16 (Int64.toInt32 p2)).toInt32)
  else
  if p1 = 2 then
    some (Int32.toInt64 (Int64.toInt32 p2))
  else
  if p1 = 3 then
    some p2
  else
  if p1 = 4 then
    if (lg_cmp p2 (0 : Int64)) = 0 then
      some (0 : Int64)
    else
      some (1 : Int64)
  else
  some p2
section
variable {p : Program} {l : Launch} {e : Env} {s : State} {m : MethodId} {args : Array Value} {below : List Frame} {meth : Method} {c : Code} {H : Heap} {locs : List Loc} {E : Ev} {S V : St} {ls : Array Slot}
set_option maxRecDepth 20000 in
theorem w_Sh_lowestBits {p1 : Int32} {p2 : Int64} {r : Int64} (C : Cx p s m args meth c E cX7_lowestBits 3 RX7 (some .long)) (hw : Wd E (wX V E) s.heap S H locs) (hl : lv_has ls 3 [(0, .int p1), (1, .long p2)]) (hf : Sh_lowestBits S p1 p2 = some r) : W p l e (rmh 1) s m args below meth c H locs 0 0 (MQ below (QW E (wX V E) (some (.long r)) S) args s 0 0 (eA E)) (F0 m 0 ls []) := by
  have hx := C.1
  have hb := C.2.1
  unfold Sh_lowestBits at hf
  refine lv_iload_n hx hb dX7_lowestBits_0 rfl (lv_at hl 0 rfl) ?_
  by_cases q0 : p1 = 0
  · have hf := hf_t q0 hf
    refine lv_tableIn (off := 35) (tgt := 36) hx hb dX7_lowestBits_1 (by rw [q0]; decide) (by rw [q0]; decide) (by rw [q0]; rfl) (by decide) ?_
    refine lv_lload_n hx hb dX7_lowestBits_36 rfl (lv_at hl 1 rfl) ?_
    refine lv_l2i hx hb dX7_lowestBits_37 rfl ?_
    refine lv_i2b hx hb dX7_lowestBits_38 rfl ?_
    refine lv_i2l hx hb dX7_lowestBits_39 rfl ?_
    exact ret_l C hw dX7_lowestBits_40 hf
  have hf := hf_f q0 hf
  by_cases q1 : p1 = 1
  · have hf := hf_t q1 hf
    refine lv_tableIn (off := 40) (tgt := 41) hx hb dX7_lowestBits_1 (by rw [q1]; decide) (by rw [q1]; decide) (by rw [q1]; rfl) (by decide) ?_
    refine lv_lload_n hx hb dX7_lowestBits_41 rfl (lv_at hl 1 rfl) ?_
    refine lv_l2i hx hb dX7_lowestBits_42 rfl ?_
    refine lv_i2s hx hb dX7_lowestBits_43 rfl ?_
    refine lv_i2l hx hb dX7_lowestBits_44 rfl ?_
    exact ret_l C hw dX7_lowestBits_45 hf
  have hf := hf_f q1 hf
  by_cases q2 : p1 = 2
  · have hf := hf_t q2 hf
    refine lv_tableIn (off := 45) (tgt := 46) hx hb dX7_lowestBits_1 (by rw [q2]; decide) (by rw [q2]; decide) (by rw [q2]; rfl) (by decide) ?_
    refine lv_lload_n hx hb dX7_lowestBits_46 rfl (lv_at hl 1 rfl) ?_
    refine lv_l2i hx hb dX7_lowestBits_47 rfl ?_
    refine lv_i2l hx hb dX7_lowestBits_48 rfl ?_
    exact ret_l C hw dX7_lowestBits_49 hf
  have hf := hf_f q2 hf
  by_cases q3 : p1 = 3
  · have hf := hf_t q3 hf
    refine lv_tableIn (off := 61) (tgt := 62) hx hb dX7_lowestBits_1 (by rw [q3]; decide) (by rw [q3]; decide) (by rw [q3]; rfl) (by decide) ?_
    refine lv_lload_n hx hb dX7_lowestBits_62 rfl (lv_at hl 1 rfl) ?_
    exact ret_l C hw dX7_lowestBits_63 hf
  have hf := hf_f q3 hf
  by_cases q4 : p1 = 4
  · have hf := hf_t q4 hf
    refine lv_tableIn (off := 49) (tgt := 50) hx hb dX7_lowestBits_1 (by rw [q4]; decide) (by rw [q4]; decide) (by rw [q4]; rfl) (by decide) ?_
    refine lv_lload_n hx hb dX7_lowestBits_50 rfl (lv_at hl 1 rfl) ?_
    refine lv_lconst (v := 0) hx hb dX7_lowestBits_51 rfl ?_
    refine W.lcmp hx hb dX7_lowestBits_52 ?_
    refine lv_if_eq (tgt := 60) hx hb dX7_lowestBits_53 (by decide) (fun q => ?_) (fun q => ?_)
    · have hf := hf_t q hf
      refine lv_lconst (v := 0) hx hb dX7_lowestBits_60 rfl ?_
      exact ret_l C hw dX7_lowestBits_61 hf
    · have hf := hf_f q hf
      refine lv_lconst (v := 1) hx hb dX7_lowestBits_56 rfl ?_
      refine lv_goto (tgt := 61) hx hb dX7_lowestBits_57 (by decide) ?_
      exact ret_l C hw dX7_lowestBits_61 hf
  have hf := hf_f q4 hf
  refine lv_tableOut (tgt := 62) hx hb dX7_lowestBits_1 (by have h0 := lv_neT (a := 0) q0 rfl; have h1 := lv_neT (a := 1) q1 rfl; have h2 := lv_neT (a := 2) q2 rfl; have h3 := lv_neT (a := 3) q3 rfl; have h4 := lv_neT (a := 4) q4 rfl; omega) (by decide) ?_
  refine lv_lload_n hx hb dX7_lowestBits_62 rfl (lv_at hl 1 rfl) ?_
  exact ret_l C hw dX7_lowestBits_63 hf
end
theorem t_Sh_lowestBits {l : Launch} {V : St} {S : St} {p1 : Int32} {p2 : Int64} {r : Int64} (hf : Sh_lowestBits S p1 p2 = some r) : Ct l (wX V) yX7_lowestBits cX7_lowestBits 3 (some .long) 1 (fun E => [.int p1, .long p2]) S (fun E => some (.long r)) S :=
  ofBlock (by decide +kernel) (fun _ => Nat.le_of_ble_eq_true rfl) (fun E p e s m args below meth c ls C hw hl => w_Sh_lowestBits C hw hl hf)
theorem dX7_putAt_0 : decode cX7_putAt 0 = .ok (.aload_n 0, 1) := by decide +kernel
theorem dX7_putAt_1 : decode cX7_putAt 1 = .ok (.getfield 21, 3) := by decide +kernel
theorem dX7_putAt_4 : decode cX7_putAt 4 = .ok (.iload_n 1, 1) := by decide +kernel
theorem dX7_putAt_5 : decode cX7_putAt 5 = .ok (.bipush 60, 2) := by decide +kernel
theorem dX7_putAt_7 : decode cX7_putAt 7 = .ok (.imul, 1) := by decide +kernel
theorem dX7_putAt_8 : decode cX7_putAt 8 = .ok (.iload_n 2, 1) := by decide +kernel
theorem dX7_putAt_9 : decode cX7_putAt 9 = .ok (.iadd, 1) := by decide +kernel
theorem dX7_putAt_10 : decode cX7_putAt 10 = .ok (.aload_n 0, 1) := by decide +kernel
theorem dX7_putAt_11 : decode cX7_putAt 11 = .ok (.getfield 18, 3) := by decide +kernel
theorem dX7_putAt_14 : decode cX7_putAt 14 = .ok (.iload_n 1, 1) := by decide +kernel
theorem dX7_putAt_15 : decode cX7_putAt 15 = .ok (.iaload, 1) := by decide +kernel
theorem dX7_putAt_16 : decode cX7_putAt 16 = .ok (.lload_n 3, 1) := by decide +kernel
theorem dX7_putAt_17 : decode cX7_putAt 17 = .ok (.invokestatic 46, 3) := by decide +kernel
theorem dX7_putAt_20 : decode cX7_putAt 20 = .ok (.lastore, 1) := by decide +kernel
theorem dX7_putAt_21 : decode cX7_putAt 21 = .ok (.iconst 1, 1) := by decide +kernel
theorem dX7_putAt_22 : decode cX7_putAt 22 = .ok (.ireturn, 1) := by decide +kernel
def Sh_putAt (S : St) (p1 : Int32) (p2 : Int32) (p3 : Int64) : Option (Int32 × St) :=
  ck (inb p1 6) <|
  bd1 (Sh_lowestBits S (gi S 42 p1.toNatClampNeg) p3) fun r1 =>
  ck (inb ((p1 * (60 : Int32)) + p2) 360) <|
  nm (sl S 43 ((p1 * (60 : Int32)) + p2).toNatClampNeg r1) fun S2 =>
  some ((1 : Int32), S2)
section
variable {p : Program} {l : Launch} {e : Env} {s : State} {m : MethodId} {args : Array Value} {below : List Frame} {meth : Method} {c : Code} {H : Heap} {locs : List Loc} {E : Ev} {S V : St} {ls : Array Slot}
set_option maxRecDepth 20000 in
theorem w_Sh_putAt {p1 : Int32} {p2 : Int32} {p3 : Int64} {r : Int32} {S9 : St} (C : Cx p s m args meth c E cX7_putAt 5 RX7 (some .int)) (hw : Wd E (wX V E) s.heap S H locs) (hl : lv_has ls 5 [(0, .ref (ea E 10)), (1, .int p1), (2, .int p2), (3, .long p3)]) (hf : Sh_putAt S p1 p2 p3 = some (r, S9)) : W p l e (rmh 2) s m args below meth c H locs 0 0 (MQ below (QW E (wX V E) (some (.int r)) S9) args s 0 0 (eA E)) (F0 m 0 ls []) := by
  have hx := C.1
  have hb := C.2.1
  unfold Sh_putAt at hf
  refine lv_aload_n hx hb dX7_putAt_0 rfl (lv_at hl 0 rfl) ?_
  refine get_10_3 C hw q_219 dX7_putAt_1 ?_
  refine lv_iload_n hx hb dX7_putAt_4 rfl (lv_at hl 1 rfl) ?_
  refine lv_bipush (v := 60) hx hb dX7_putAt_5 kb_60 ?_
  refine lv_imul hx hb dX7_putAt_7 ?_
  refine lv_iload_n hx hb dX7_putAt_8 rfl (lv_at hl 2 rfl) ?_
  refine lv_iadd hx hb dX7_putAt_9 ?_
  refine lv_aload_n hx hb dX7_putAt_10 rfl (lv_at hl 0 rfl) ?_
  refine get_10_2 C hw q_218 dX7_putAt_11 ?_
  refine lv_iload_n hx hb dX7_putAt_14 rfl (lv_at hl 1 rfl) ?_
  obtain ⟨hc, hf⟩ := hf_ck hf
  refine ld_42 C hw hc dX7_putAt_15 ?_
  refine lv_lload_n hx hb dX7_putAt_16 rfl (lv_at hl 3 rfl) ?_
  obtain ⟨r1, hr, hf⟩ := hf_1 hf
  refine inv_Sl (As := [.int (gi S 42 p1.toNatClampNeg), .long p3]) lk_X7_46 C hw (t_Sh_lowestBits hr) hl.1 dX7_putAt_17 rfl (Nat.le_of_ble_eq_true rfl) (by decide) (Nat.le_of_ble_eq_true rfl) rfl (fun H locs hw => ?_)
  obtain ⟨hc, hf⟩ := hf_ck hf
  refine st_43 C hw hc dX7_putAt_20 (fun H locs hw => ?_)
  refine nm_S hf hw (fun S2 hf hw => ?_)
  refine lv_iconst (v := 1) hx hb dX7_putAt_21 kc_1 ?_
  exact ret_iS C hw dX7_putAt_22 hf
end
theorem t_Sh_putAt {l : Launch} {V : St} {S : St} {p1 : Int32} {p2 : Int32} {p3 : Int64} {r : Int32} {S9 : St} (hf : Sh_putAt S p1 p2 p3 = some (r, S9)) : Ct l (wX V) yX7_putAt cX7_putAt 5 (some .int) 2 (fun E => [.ref (ea E 10), .int p1, .int p2, .long p3]) S (fun E => some (.int r)) S9 :=
  ofBlock (by decide +kernel) (fun _ => Nat.le_of_ble_eq_true rfl) (fun E p e s m args below meth c ls C hw hl => w_Sh_putAt C hw hl hf)
theorem dX7_move_0 : decode cX7_move 0 = .ok (.aload_n 0, 1) := by decide +kernel
theorem dX7_move_1 : decode cX7_move 1 = .ok (.getfield 21, 3) := by decide +kernel
theorem dX7_move_4 : decode cX7_move 4 = .ok (.iload_n 1, 1) := by decide +kernel
theorem dX7_move_5 : decode cX7_move 5 = .ok (.bipush 60, 2) := by decide +kernel
theorem dX7_move_7 : decode cX7_move 7 = .ok (.imul, 1) := by decide +kernel
theorem dX7_move_8 : decode cX7_move 8 = .ok (.iload_n 2, 1) := by decide +kernel
theorem dX7_move_9 : decode cX7_move 9 = .ok (.iadd, 1) := by decide +kernel
theorem dX7_move_10 : decode cX7_move 10 = .ok (.aload_n 0, 1) := by decide +kernel
theorem dX7_move_11 : decode cX7_move 11 = .ok (.getfield 21, 3) := by decide +kernel
theorem dX7_move_14 : decode cX7_move 14 = .ok (.iload_n 3, 1) := by decide +kernel
theorem dX7_move_15 : decode cX7_move 15 = .ok (.bipush 60, 2) := by decide +kernel
theorem dX7_move_17 : decode cX7_move 17 = .ok (.imul, 1) := by decide +kernel
theorem dX7_move_18 : decode cX7_move 18 = .ok (.iload 4, 2) := by decide +kernel
theorem dX7_move_20 : decode cX7_move 20 = .ok (.iadd, 1) := by decide +kernel
theorem dX7_move_21 : decode cX7_move 21 = .ok (.iload 5, 2) := by decide +kernel
theorem dX7_move_23 : decode cX7_move 23 = .ok (.invokestatic 50, 3) := by decide +kernel
theorem dX7_move_26 : decode cX7_move 26 = .ok (.iload 5, 2) := by decide +kernel
theorem dX7_move_28 : decode cX7_move 28 = .ok (.ireturn, 1) := by decide +kernel
def Sh_move (S : St) (p1 : Int32) (p2 : Int32) (p3 : Int32) (p4 : Int32) (p5 : Int32) : Option (Int32 × St) :=
  ck (cpok ((p1 * (60 : Int32)) + p2) ((p3 * (60 : Int32)) + p4) p5 360 360) <|
  nm (cpl S 43 43 ((p1 * (60 : Int32)) + p2).toNatClampNeg ((p3 * (60 : Int32)) + p4).toNatClampNeg p5.toNatClampNeg) fun S1 =>
  some (p5, S1)
section
variable {p : Program} {l : Launch} {e : Env} {s : State} {m : MethodId} {args : Array Value} {below : List Frame} {meth : Method} {c : Code} {H : Heap} {locs : List Loc} {E : Ev} {S V : St} {ls : Array Slot}
set_option maxRecDepth 20000 in
theorem w_Sh_move {p1 : Int32} {p2 : Int32} {p3 : Int32} {p4 : Int32} {p5 : Int32} {r : Int32} {S9 : St} (C : Cx p s m args meth c E cX7_move 6 RX7 (some .int)) (hw : Wd E (wX V E) s.heap S H locs) (hl : lv_has ls 6 [(0, .ref (ea E 10)), (1, .int p1), (2, .int p2), (3, .int p3), (4, .int p4), (5, .int p5)]) (hf : Sh_move S p1 p2 p3 p4 p5 = some (r, S9)) : W p l e (rmh 1) s m args below meth c H locs 0 0 (MQ below (QW E (wX V E) (some (.int r)) S9) args s 0 0 (eA E)) (F0 m 0 ls []) := by
  have hx := C.1
  have hb := C.2.1
  unfold Sh_move at hf
  refine lv_aload_n hx hb dX7_move_0 rfl (lv_at hl 0 rfl) ?_
  refine get_10_3 C hw q_219 dX7_move_1 ?_
  refine lv_iload_n hx hb dX7_move_4 rfl (lv_at hl 1 rfl) ?_
  refine lv_bipush (v := 60) hx hb dX7_move_5 kb_60 ?_
  refine lv_imul hx hb dX7_move_7 ?_
  refine lv_iload_n hx hb dX7_move_8 rfl (lv_at hl 2 rfl) ?_
  refine lv_iadd hx hb dX7_move_9 ?_
  refine lv_aload_n hx hb dX7_move_10 rfl (lv_at hl 0 rfl) ?_
  refine get_10_3 C hw q_219 dX7_move_11 ?_
  refine lv_iload_n hx hb dX7_move_14 rfl (lv_at hl 3 rfl) ?_
  refine lv_bipush (v := 60) hx hb dX7_move_15 kb_60 ?_
  refine lv_imul hx hb dX7_move_17 ?_
  refine lv_iload hx hb dX7_move_18 (lv_at hl 4 rfl) ?_
  refine lv_iadd hx hb dX7_move_20 ?_
  refine lv_iload hx hb dX7_move_21 (lv_at hl 5 rfl) ?_
  obtain ⟨hc, hf⟩ := hf_ck hf
  refine copy_43_43 C hw hc q_1116 hl.1 dX7_move_23 (Nat.le_of_ble_eq_true rfl) (fun H locs hw => ?_)
  refine nm_S hf hw (fun S1 hf hw => ?_)
  refine lv_iload hx hb dX7_move_26 (lv_at hl 5 rfl) ?_
  exact ret_iS C hw dX7_move_28 hf
end
theorem t_Sh_move {l : Launch} {V : St} {S : St} {p1 : Int32} {p2 : Int32} {p3 : Int32} {p4 : Int32} {p5 : Int32} {r : Int32} {S9 : St} (hf : Sh_move S p1 p2 p3 p4 p5 = some (r, S9)) : Ct l (wX V) yX7_move cX7_move 6 (some .int) 1 (fun E => [.ref (ea E 10), .int p1, .int p2, .int p3, .int p4, .int p5]) S (fun E => some (.int r)) S9 :=
  ofBlock (by decide +kernel) (fun _ => Nat.le_of_ble_eq_true rfl) (fun E p e s m args below meth c ls C hw hl => w_Sh_move C hw hl hf)
theorem dX8_isOne_0 : decode cX8_isOne 0 = .ok (.iload_n 1, 1) := by decide +kernel
theorem dX8_isOne_1 : decode cX8_isOne 1 = .ok (.ifCond .lt 15, 3) := by decide +kernel
theorem dX8_isOne_4 : decode cX8_isOne 4 = .ok (.iload_n 1, 1) := by decide +kernel
theorem dX8_isOne_5 : decode cX8_isOne 5 = .ok (.aload_n 0, 1) := by decide +kernel
theorem dX8_isOne_6 : decode cX8_isOne 6 = .ok (.getfield 39, 3) := by decide +kernel
theorem dX8_isOne_9 : decode cX8_isOne 9 = .ok (.if_icmp .ge 7, 3) := by decide +kernel
theorem dX8_isOne_12 : decode cX8_isOne 12 = .ok (.iconst 1, 1) := by decide +kernel
theorem dX8_isOne_13 : decode cX8_isOne 13 = .ok (.goto 4, 3) := by decide +kernel
theorem dX8_isOne_16 : decode cX8_isOne 16 = .ok (.iconst 0, 1) := by decide +kernel
theorem dX8_isOne_17 : decode cX8_isOne 17 = .ok (.ireturn, 1) := by decide +kernel
def Sm_isOne (S : St) (p1 : Int32) : Option Int32 :=
  if p1 < 0 then
    some (0 : Int32)
  else
    if (gi S 1 9) ≤ p1 then
      some (0 : Int32)
    else
      some (1 : Int32)
section
variable {p : Program} {l : Launch} {e : Env} {s : State} {m : MethodId} {args : Array Value} {below : List Frame} {meth : Method} {c : Code} {H : Heap} {locs : List Loc} {E : Ev} {S V : St} {ls : Array Slot}
set_option maxRecDepth 20000 in
theorem w_Sm_isOne {p1 : Int32} {r : Int32} (C : Cx p s m args meth c E cX8_isOne 2 RX8 (some .boolean)) (hw : Wd E (wX V E) s.heap S H locs) (hl : lv_has ls 2 [(0, .ref (ea E 1)), (1, .int p1)]) (hf : Sm_isOne S p1 = some r) : W p l e (rmh 1) s m args below meth c H locs 0 0 (MQ below (QW E (wX V E) (some (.int r)) S) args s 0 0 (eA E)) (F0 m 0 ls []) := by
  have hx := C.1
  have hb := C.2.1
  unfold Sm_isOne at hf
  refine lv_iload_n hx hb dX8_isOne_0 rfl (lv_at hl 1 rfl) ?_
  refine lv_if_lt (tgt := 16) hx hb dX8_isOne_1 (by decide) (fun q => ?_) (fun q => ?_)
  · have hf := hf_t q hf
    refine lv_iconst (v := 0) hx hb dX8_isOne_16 kc_0 ?_
    exact ret_z rfl C hw dX8_isOne_17 hf
  · have hf := hf_f q hf
    refine lv_iload_n hx hb dX8_isOne_4 rfl (lv_at hl 1 rfl) ?_
    refine lv_aload_n hx hb dX8_isOne_5 rfl (lv_at hl 0 rfl) ?_
    refine get_1_9 C hw q_132 dX8_isOne_6 ?_
    refine lv_icmp_ge (tgt := 16) hx hb dX8_isOne_9 (by decide) (fun q => ?_) (fun q => ?_)
    · have hf := hf_t q hf
      refine lv_iconst (v := 0) hx hb dX8_isOne_16 kc_0 ?_
      exact ret_z rfl C hw dX8_isOne_17 hf
    · have hf := hf_f q hf
      refine lv_iconst (v := 1) hx hb dX8_isOne_12 kc_1 ?_
      refine lv_goto (tgt := 17) hx hb dX8_isOne_13 (by decide) ?_
      exact ret_z rfl C hw dX8_isOne_17 hf
end
theorem t_Sm_isOne {l : Launch} {V : St} {S : St} {p1 : Int32} {r : Int32} (hf : Sm_isOne S p1 = some r) : Ct l (wX V) yX8_isOne cX8_isOne 2 (some .boolean) 1 (fun E => [.ref (ea E 1), .int p1]) S (fun E => some (.int r)) S :=
  ofBlock (by decide +kernel) (fun _ => Nat.le_of_ble_eq_true rfl) (fun E p e s m args below meth c ls C hw hl => w_Sm_isOne C hw hl hf)
theorem dX8_isPromise_0 : decode cX8_isPromise 0 = .ok (.iload_n 1, 1) := by decide +kernel
theorem dX8_isPromise_1 : decode cX8_isPromise 1 = .ok (.ifCond .lt 15, 3) := by decide +kernel
theorem dX8_isPromise_4 : decode cX8_isPromise 4 = .ok (.iload_n 1, 1) := by decide +kernel
theorem dX8_isPromise_5 : decode cX8_isPromise 5 = .ok (.aload_n 0, 1) := by decide +kernel
theorem dX8_isPromise_6 : decode cX8_isPromise 6 = .ok (.getfield 43, 3) := by decide +kernel
theorem dX8_isPromise_9 : decode cX8_isPromise 9 = .ok (.if_icmp .ge 7, 3) := by decide +kernel
theorem dX8_isPromise_12 : decode cX8_isPromise 12 = .ok (.iconst 1, 1) := by decide +kernel
theorem dX8_isPromise_13 : decode cX8_isPromise 13 = .ok (.goto 4, 3) := by decide +kernel
theorem dX8_isPromise_16 : decode cX8_isPromise 16 = .ok (.iconst 0, 1) := by decide +kernel
theorem dX8_isPromise_17 : decode cX8_isPromise 17 = .ok (.ireturn, 1) := by decide +kernel
def Sm_isPromise (S : St) (p1 : Int32) : Option Int32 :=
  if p1 < 0 then
    some (0 : Int32)
  else
    if (gi S 1 10) ≤ p1 then
      some (0 : Int32)
    else
      some (1 : Int32)
section
variable {p : Program} {l : Launch} {e : Env} {s : State} {m : MethodId} {args : Array Value} {below : List Frame} {meth : Method} {c : Code} {H : Heap} {locs : List Loc} {E : Ev} {S V : St} {ls : Array Slot}
set_option maxRecDepth 20000 in
theorem w_Sm_isPromise {p1 : Int32} {r : Int32} (C : Cx p s m args meth c E cX8_isPromise 2 RX8 (some .boolean)) (hw : Wd E (wX V E) s.heap S H locs) (hl : lv_has ls 2 [(0, .ref (ea E 1)), (1, .int p1)]) (hf : Sm_isPromise S p1 = some r) : W p l e (rmh 1) s m args below meth c H locs 0 0 (MQ below (QW E (wX V E) (some (.int r)) S) args s 0 0 (eA E)) (F0 m 0 ls []) := by
  have hx := C.1
  have hb := C.2.1
  unfold Sm_isPromise at hf
  refine lv_iload_n hx hb dX8_isPromise_0 rfl (lv_at hl 1 rfl) ?_
  refine lv_if_lt (tgt := 16) hx hb dX8_isPromise_1 (by decide) (fun q => ?_) (fun q => ?_)
  · have hf := hf_t q hf
    refine lv_iconst (v := 0) hx hb dX8_isPromise_16 kc_0 ?_
    exact ret_z rfl C hw dX8_isPromise_17 hf
  · have hf := hf_f q hf
    refine lv_iload_n hx hb dX8_isPromise_4 rfl (lv_at hl 1 rfl) ?_
    refine lv_aload_n hx hb dX8_isPromise_5 rfl (lv_at hl 0 rfl) ?_
    refine get_1_10 C hw q_137 dX8_isPromise_6 ?_
    refine lv_icmp_ge (tgt := 16) hx hb dX8_isPromise_9 (by decide) (fun q => ?_) (fun q => ?_)
    · have hf := hf_t q hf
      refine lv_iconst (v := 0) hx hb dX8_isPromise_16 kc_0 ?_
      exact ret_z rfl C hw dX8_isPromise_17 hf
    · have hf := hf_f q hf
      refine lv_iconst (v := 1) hx hb dX8_isPromise_12 kc_1 ?_
      refine lv_goto (tgt := 17) hx hb dX8_isPromise_13 (by decide) ?_
      exact ret_z rfl C hw dX8_isPromise_17 hf
end
theorem t_Sm_isPromise {l : Launch} {V : St} {S : St} {p1 : Int32} {r : Int32} (hf : Sm_isPromise S p1 = some r) : Ct l (wX V) yX8_isPromise cX8_isPromise 2 (some .boolean) 1 (fun E => [.ref (ea E 1), .int p1]) S (fun E => some (.int r)) S :=
  ofBlock (by decide +kernel) (fun _ => Nat.le_of_ble_eq_true rfl) (fun E p e s m args below meth c ls C hw hl => w_Sm_isPromise C hw hl hf)
theorem dX8_isFull_0 : decode cX8_isFull 0 = .ok (.aload_n 0, 1) := by decide +kernel
theorem dX8_isFull_1 : decode cX8_isFull 1 = .ok (.getfield 43, 3) := by decide +kernel
theorem dX8_isFull_4 : decode cX8_isFull 4 = .ok (.bipush 10, 2) := by decide +kernel
theorem dX8_isFull_6 : decode cX8_isFull 6 = .ok (.if_icmp .lt 7, 3) := by decide +kernel
theorem dX8_isFull_9 : decode cX8_isFull 9 = .ok (.iconst 1, 1) := by decide +kernel
theorem dX8_isFull_10 : decode cX8_isFull 10 = .ok (.goto 4, 3) := by decide +kernel
theorem dX8_isFull_13 : decode cX8_isFull 13 = .ok (.iconst 0, 1) := by decide +kernel
theorem dX8_isFull_14 : decode cX8_isFull 14 = .ok (.ireturn, 1) := by decide +kernel
def Sm_isFull (S : St) : Option Int32 :=
  if (gi S 1 10) < (10 : Int32) then
    some (0 : Int32)
  else
    some (1 : Int32)
section
variable {p : Program} {l : Launch} {e : Env} {s : State} {m : MethodId} {args : Array Value} {below : List Frame} {meth : Method} {c : Code} {H : Heap} {locs : List Loc} {E : Ev} {S V : St} {ls : Array Slot}
set_option maxRecDepth 20000 in
theorem w_Sm_isFull {r : Int32} (C : Cx p s m args meth c E cX8_isFull 1 RX8 (some .boolean)) (hw : Wd E (wX V E) s.heap S H locs) (hl : lv_has ls 1 [(0, .ref (ea E 1))]) (hf : Sm_isFull S = some r) : W p l e (rmh 1) s m args below meth c H locs 0 0 (MQ below (QW E (wX V E) (some (.int r)) S) args s 0 0 (eA E)) (F0 m 0 ls []) := by
  have hx := C.1
  have hb := C.2.1
  unfold Sm_isFull at hf
  refine lv_aload_n hx hb dX8_isFull_0 rfl (lv_at hl 0 rfl) ?_
  refine get_1_10 C hw q_137 dX8_isFull_1 ?_
  refine lv_bipush (v := 10) hx hb dX8_isFull_4 kb_10 ?_
  refine lv_icmp_lt (tgt := 13) hx hb dX8_isFull_6 (by decide) (fun q => ?_) (fun q => ?_)
  · have hf := hf_t q hf
    refine lv_iconst (v := 0) hx hb dX8_isFull_13 kc_0 ?_
    exact ret_z rfl C hw dX8_isFull_14 hf
  · have hf := hf_f q hf
    refine lv_iconst (v := 1) hx hb dX8_isFull_9 kc_1 ?_
    refine lv_goto (tgt := 14) hx hb dX8_isFull_10 (by decide) ?_
    exact ret_z rfl C hw dX8_isFull_14 hf
end
theorem t_Sm_isFull {l : Launch} {V : St} {S : St} {r : Int32} (hf : Sm_isFull S = some r) : Ct l (wX V) yX8_isFull cX8_isFull 1 (some .boolean) 1 (fun E => [.ref (ea E 1)]) S (fun E => some (.int r)) S :=
  ofBlock (by decide +kernel) (fun _ => Nat.le_of_ble_eq_true rfl) (fun E p e s m args below meth c ls C hw hl => w_Sm_isFull C hw hl hf)
theorem dX8_canPromise_0 : decode cX8_canPromise 0 = .ok (.aload_n 0, 1) := by decide +kernel
theorem dX8_canPromise_1 : decode cX8_canPromise 1 = .ok (.iload_n 1, 1) := by decide +kernel
theorem dX8_canPromise_2 : decode cX8_canPromise 2 = .ok (.invokevirtual 46, 3) := by decide +kernel
theorem dX8_canPromise_5 : decode cX8_canPromise 5 = .ok (.ifCond .eq 35, 3) := by decide +kernel
theorem dX8_canPromise_8 : decode cX8_canPromise 8 = .ok (.iload_n 2, 1) := by decide +kernel
theorem dX8_canPromise_9 : decode cX8_canPromise 9 = .ok (.invokestatic 50, 3) := by decide +kernel
theorem dX8_canPromise_12 : decode cX8_canPromise 12 = .ok (.ifCond .eq 28, 3) := by decide +kernel
theorem dX8_canPromise_15 : decode cX8_canPromise 15 = .ok (.iload_n 3, 1) := by decide +kernel
theorem dX8_canPromise_16 : decode cX8_canPromise 16 = .ok (.iload_n 2, 1) := by decide +kernel
theorem dX8_canPromise_17 : decode cX8_canPromise 17 = .ok (.bipush 99, 2) := by decide +kernel
theorem dX8_canPromise_19 : decode cX8_canPromise 19 = .ok (.invokestatic 53, 3) := by decide +kernel
theorem dX8_canPromise_22 : decode cX8_canPromise 22 = .ok (.ifCond .eq 18, 3) := by decide +kernel
theorem dX8_canPromise_25 : decode cX8_canPromise 25 = .ok (.iload 4, 2) := by decide +kernel
theorem dX8_canPromise_27 : decode cX8_canPromise 27 = .ok (.iconst 1, 1) := by decide +kernel
theorem dX8_canPromise_28 : decode cX8_canPromise 28 = .ok (.bipush 9, 2) := by decide +kernel
theorem dX8_canPromise_30 : decode cX8_canPromise 30 = .ok (.invokestatic 53, 3) := by decide +kernel
theorem dX8_canPromise_33 : decode cX8_canPromise 33 = .ok (.ifCond .eq 7, 3) := by decide +kernel
theorem dX8_canPromise_36 : decode cX8_canPromise 36 = .ok (.iconst 1, 1) := by decide +kernel
theorem dX8_canPromise_37 : decode cX8_canPromise 37 = .ok (.goto 4, 3) := by decide +kernel
theorem dX8_canPromise_40 : decode cX8_canPromise 40 = .ok (.iconst 0, 1) := by decide +kernel
theorem dX8_canPromise_41 : decode cX8_canPromise 41 = .ok (.ireturn, 1) := by decide +kernel
def Sm_canPromise (S : St) (p1 : Int32) (p2 : Int32) (p3 : Int32) (p4 : Int32) : Option Int32 :=
  bd1 (Sm_isOne S p1) fun r1 =>
  if r1 = 0 then
    some (0 : Int32)
  else
    bd1 (Ch_isDay S p2) fun r2 =>
    if r2 = 0 then
      some (0 : Int32)
    else
      bd1 (Ch_within S p3 p2 (99 : Int32)) fun r3 =>
      if r3 = 0 then
        some (0 : Int32)
      else
        bd1 (Ch_within S p4 (1 : Int32) (9 : Int32)) fun r4 =>
        if r4 = 0 then
          some (0 : Int32)
        else
          some (1 : Int32)
section
variable {p : Program} {l : Launch} {e : Env} {s : State} {m : MethodId} {args : Array Value} {below : List Frame} {meth : Method} {c : Code} {H : Heap} {locs : List Loc} {E : Ev} {S V : St} {ls : Array Slot}
set_option maxRecDepth 20000 in
theorem w_Sm_canPromise {p1 : Int32} {p2 : Int32} {p3 : Int32} {p4 : Int32} {r : Int32} (C : Cx p s m args meth c E cX8_canPromise 5 RX8 (some .boolean)) (hw : Wd E (wX V E) s.heap S H locs) (hl : lv_has ls 5 [(0, .ref (ea E 1)), (1, .int p1), (2, .int p2), (3, .int p3), (4, .int p4)]) (hf : Sm_canPromise S p1 p2 p3 p4 = some r) : W p l e (rmh 3) s m args below meth c H locs 0 0 (MQ below (QW E (wX V E) (some (.int r)) S) args s 0 0 (eA E)) (F0 m 0 ls []) := by
  have hx := C.1
  have hb := C.2.1
  unfold Sm_canPromise at hf
  refine lv_aload_n hx hb dX8_canPromise_0 rfl (lv_at hl 0 rfl) ?_
  refine lv_iload_n hx hb dX8_canPromise_1 rfl (lv_at hl 1 rfl) ?_
  obtain ⟨r1, hr, hf⟩ := hf_1 hf
  refine inv_Vi (q0 := 1) (ci := 8) (As := [.int p1]) lk_X8_46 C hw rfl rfl rfl (t_Sm_isOne hr) rfl hl.1 dX8_canPromise_2 rfl (Nat.le_of_ble_eq_true rfl) (by decide) (Nat.le_of_ble_eq_true rfl) rfl (fun H locs hw => ?_)
  refine lv_if_eq (tgt := 40) hx hb dX8_canPromise_5 (by decide) (fun q => ?_) (fun q => ?_)
  · have hf := hf_t q hf
    refine lv_iconst (v := 0) hx hb dX8_canPromise_40 kc_0 ?_
    exact ret_z rfl C hw dX8_canPromise_41 hf
  · have hf := hf_f q hf
    refine lv_iload_n hx hb dX8_canPromise_8 rfl (lv_at hl 2 rfl) ?_
    obtain ⟨r2, hr, hf⟩ := hf_1 hf
    refine inv_Ni (As := [.int p2]) lk_X8_50 C hw (t_Ch_isDay hr) hl.1 dX8_canPromise_9 rfl (Nat.le_of_ble_eq_true rfl) (by decide) (Nat.le_of_ble_eq_true rfl) rfl (fun H locs hw => ?_)
    refine lv_if_eq (tgt := 40) hx hb dX8_canPromise_12 (by decide) (fun q => ?_) (fun q => ?_)
    · have hf := hf_t q hf
      refine lv_iconst (v := 0) hx hb dX8_canPromise_40 kc_0 ?_
      exact ret_z rfl C hw dX8_canPromise_41 hf
    · have hf := hf_f q hf
      refine lv_iload_n hx hb dX8_canPromise_15 rfl (lv_at hl 3 rfl) ?_
      refine lv_iload_n hx hb dX8_canPromise_16 rfl (lv_at hl 2 rfl) ?_
      refine lv_bipush (v := 99) hx hb dX8_canPromise_17 kb_99 ?_
      obtain ⟨r3, hr, hf⟩ := hf_1 hf
      refine inv_Ni (As := [.int p3, .int p2, .int (99 : Int32)]) lk_X8_53 C hw (t_Ch_within hr) hl.1 dX8_canPromise_19 rfl (Nat.le_of_ble_eq_true rfl) (by decide) (Nat.le_of_ble_eq_true rfl) rfl (fun H locs hw => ?_)
      refine lv_if_eq (tgt := 40) hx hb dX8_canPromise_22 (by decide) (fun q => ?_) (fun q => ?_)
      · have hf := hf_t q hf
        refine lv_iconst (v := 0) hx hb dX8_canPromise_40 kc_0 ?_
        exact ret_z rfl C hw dX8_canPromise_41 hf
      · have hf := hf_f q hf
        refine lv_iload hx hb dX8_canPromise_25 (lv_at hl 4 rfl) ?_
        refine lv_iconst (v := 1) hx hb dX8_canPromise_27 kc_1 ?_
        refine lv_bipush (v := 9) hx hb dX8_canPromise_28 kb_9 ?_
        obtain ⟨r4, hr, hf⟩ := hf_1 hf
        refine inv_Ni (As := [.int p4, .int (1 : Int32), .int (9 : Int32)]) lk_X8_53 C hw (t_Ch_within hr) hl.1 dX8_canPromise_30 rfl (Nat.le_of_ble_eq_true rfl) (by decide) (Nat.le_of_ble_eq_true rfl) rfl (fun H locs hw => ?_)
        refine lv_if_eq (tgt := 40) hx hb dX8_canPromise_33 (by decide) (fun q => ?_) (fun q => ?_)
        · have hf := hf_t q hf
          refine lv_iconst (v := 0) hx hb dX8_canPromise_40 kc_0 ?_
          exact ret_z rfl C hw dX8_canPromise_41 hf
        · have hf := hf_f q hf
          refine lv_iconst (v := 1) hx hb dX8_canPromise_36 kc_1 ?_
          refine lv_goto (tgt := 41) hx hb dX8_canPromise_37 (by decide) ?_
          exact ret_z rfl C hw dX8_canPromise_41 hf
end
theorem t_Sm_canPromise {l : Launch} {V : St} {S : St} {p1 : Int32} {p2 : Int32} {p3 : Int32} {p4 : Int32} {r : Int32} (hf : Sm_canPromise S p1 p2 p3 p4 = some r) : Ct l (wX V) yX8_canPromise cX8_canPromise 5 (some .boolean) 3 (fun E => [.ref (ea E 1), .int p1, .int p2, .int p3, .int p4]) S (fun E => some (.int r)) S :=
  ofBlock (by decide +kernel) (fun _ => Nat.le_of_ble_eq_true rfl) (fun E p e s m args below meth c ls C hw hl => w_Sm_canPromise C hw hl hf)
theorem dX8_addOne_0 : decode cX8_addOne 0 = .ok (.aload_n 0, 1) := by decide +kernel
theorem dX8_addOne_1 : decode cX8_addOne 1 = .ok (.getfield 9, 3) := by decide +kernel
theorem dX8_addOne_4 : decode cX8_addOne 4 = .ok (.aload_n 0, 1) := by decide +kernel
theorem dX8_addOne_5 : decode cX8_addOne 5 = .ok (.getfield 39, 3) := by decide +kernel
theorem dX8_addOne_8 : decode cX8_addOne 8 = .ok (.iload_n 1, 1) := by decide +kernel
theorem dX8_addOne_9 : decode cX8_addOne 9 = .ok (.iastore, 1) := by decide +kernel
theorem dX8_addOne_10 : decode cX8_addOne 10 = .ok (.aload_n 0, 1) := by decide +kernel
theorem dX8_addOne_11 : decode cX8_addOne 11 = .ok (.getfield 15, 3) := by decide +kernel
theorem dX8_addOne_14 : decode cX8_addOne 14 = .ok (.aload_n 0, 1) := by decide +kernel
theorem dX8_addOne_15 : decode cX8_addOne 15 = .ok (.getfield 39, 3) := by decide +kernel
theorem dX8_addOne_18 : decode cX8_addOne 18 = .ok (.iload_n 2, 1) := by decide +kernel
theorem dX8_addOne_19 : decode cX8_addOne 19 = .ok (.iastore, 1) := by decide +kernel
theorem dX8_addOne_20 : decode cX8_addOne 20 = .ok (.aload_n 0, 1) := by decide +kernel
theorem dX8_addOne_21 : decode cX8_addOne 21 = .ok (.getfield 18, 3) := by decide +kernel
theorem dX8_addOne_24 : decode cX8_addOne 24 = .ok (.aload_n 0, 1) := by decide +kernel
theorem dX8_addOne_25 : decode cX8_addOne 25 = .ok (.getfield 39, 3) := by decide +kernel
theorem dX8_addOne_28 : decode cX8_addOne 28 = .ok (.iconst 2, 1) := by decide +kernel
theorem dX8_addOne_29 : decode cX8_addOne 29 = .ok (.iastore, 1) := by decide +kernel
theorem dX8_addOne_30 : decode cX8_addOne 30 = .ok (.aload_n 0, 1) := by decide +kernel
theorem dX8_addOne_31 : decode cX8_addOne 31 = .ok (.dup, 1) := by decide +kernel
theorem dX8_addOne_32 : decode cX8_addOne 32 = .ok (.getfield 39, 3) := by decide +kernel
theorem dX8_addOne_35 : decode cX8_addOne 35 = .ok (.dup_x1, 1) := by decide +kernel
theorem dX8_addOne_36 : decode cX8_addOne 36 = .ok (.iconst 1, 1) := by decide +kernel
theorem dX8_addOne_37 : decode cX8_addOne 37 = .ok (.iadd, 1) := by decide +kernel
theorem dX8_addOne_38 : decode cX8_addOne 38 = .ok (.putfield 39, 3) := by decide +kernel
theorem dX8_addOne_41 : decode cX8_addOne 41 = .ok (.ireturn, 1) := by decide +kernel
def Sm_addOne (S : St) (p1 : Int32) (p2 : Int32) : Option (Int32 × St) :=
  ck (inb (gi S 1 9) 6) <|
  nm (si S 11 (gi S 1 9).toNatClampNeg p1) fun S1 =>
  ck (inb (gi S1 1 9) 6) <|
  nm (si S1 12 (gi S1 1 9).toNatClampNeg p2) fun S2 =>
  ck (inb (gi S2 1 9) 6) <|
  nm (si S2 13 (gi S2 1 9).toNatClampNeg (2 : Int32)) fun S3 =>
  nm ((gi S3 1 9)) fun x4 =>
  nm (si S3 1 9 (x4 + (1 : Int32))) fun S5 =>
  some (x4, S5)
section
variable {p : Program} {l : Launch} {e : Env} {s : State} {m : MethodId} {args : Array Value} {below : List Frame} {meth : Method} {c : Code} {H : Heap} {locs : List Loc} {E : Ev} {S V : St} {ls : Array Slot}
set_option maxRecDepth 20000 in
theorem w_Sm_addOne {p1 : Int32} {p2 : Int32} {r : Int32} {S9 : St} (C : Cx p s m args meth c E cX8_addOne 3 RX8 (some .int)) (hw : Wd E (wX V E) s.heap S H locs) (hl : lv_has ls 3 [(0, .ref (ea E 1)), (1, .int p1), (2, .int p2)]) (hf : Sm_addOne S p1 p2 = some (r, S9)) : W p l e (rmh 1) s m args below meth c H locs 0 0 (MQ below (QW E (wX V E) (some (.int r)) S9) args s 0 0 (eA E)) (F0 m 0 ls []) := by
  have hx := C.1
  have hb := C.2.1
  unfold Sm_addOne at hf
  refine lv_aload_n hx hb dX8_addOne_0 rfl (lv_at hl 0 rfl) ?_
  refine get_1_0 C hw q_107 dX8_addOne_1 ?_
  refine lv_aload_n hx hb dX8_addOne_4 rfl (lv_at hl 0 rfl) ?_
  refine get_1_9 C hw q_132 dX8_addOne_5 ?_
  refine lv_iload_n hx hb dX8_addOne_8 rfl (lv_at hl 1 rfl) ?_
  obtain ⟨hc, hf⟩ := hf_ck hf
  refine st_11 C hw hc dX8_addOne_9 (fun H locs hw => ?_)
  refine nm_S hf hw (fun S1 hf hw => ?_)
  refine lv_aload_n hx hb dX8_addOne_10 rfl (lv_at hl 0 rfl) ?_
  refine get_1_1 C hw q_109 dX8_addOne_11 ?_
  refine lv_aload_n hx hb dX8_addOne_14 rfl (lv_at hl 0 rfl) ?_
  refine get_1_9 C hw q_132 dX8_addOne_15 ?_
  refine lv_iload_n hx hb dX8_addOne_18 rfl (lv_at hl 2 rfl) ?_
  obtain ⟨hc, hf⟩ := hf_ck hf
  refine st_12 C hw hc dX8_addOne_19 (fun H locs hw => ?_)
  refine nm_S hf hw (fun S2 hf hw => ?_)
  refine lv_aload_n hx hb dX8_addOne_20 rfl (lv_at hl 0 rfl) ?_
  refine get_1_2 C hw q_111 dX8_addOne_21 ?_
  refine lv_aload_n hx hb dX8_addOne_24 rfl (lv_at hl 0 rfl) ?_
  refine get_1_9 C hw q_132 dX8_addOne_25 ?_
  refine lv_iconst (v := 2) hx hb dX8_addOne_28 kc_2 ?_
  obtain ⟨hc, hf⟩ := hf_ck hf
  refine st_13 C hw hc dX8_addOne_29 (fun H locs hw => ?_)
  refine nm_S hf hw (fun S3 hf hw => ?_)
  refine lv_aload_n hx hb dX8_addOne_30 rfl (lv_at hl 0 rfl) ?_
  refine lv_dup hx hb dX8_addOne_31 rfl ?_
  refine get_1_9 C hw q_132 dX8_addOne_32 ?_
  refine nm_i hf (fun x4 hf => ?_)
  refine lv_dup_x1 hx hb dX8_addOne_35 rfl rfl ?_
  refine lv_iconst (v := 1) hx hb dX8_addOne_36 kc_1 ?_
  refine lv_iadd hx hb dX8_addOne_37 ?_
  refine put_1_9 C hw q_132 dX8_addOne_38 (fun H locs hw => ?_)
  refine nm_S hf hw (fun S5 hf hw => ?_)
  exact ret_iS C hw dX8_addOne_41 hf
end
theorem t_Sm_addOne {l : Launch} {V : St} {S : St} {p1 : Int32} {p2 : Int32} {r : Int32} {S9 : St} (hf : Sm_addOne S p1 p2 = some (r, S9)) : Ct l (wX V) yX8_addOne cX8_addOne 3 (some .int) 1 (fun E => [.ref (ea E 1), .int p1, .int p2]) S (fun E => some (.int r)) S9 :=
  ofBlock (by decide +kernel) (fun _ => Nat.le_of_ble_eq_true rfl) (fun E p e s m args below meth c ls C hw hl => w_Sm_addOne C hw hl hf)
theorem dX8_has_0 : decode cX8_has 0 = .ok (.iload_n 2, 1) := by decide +kernel
theorem dX8_has_1 : decode cX8_has 1 = .ok (.ifCond .lt 9, 3) := by decide +kernel
theorem dX8_has_4 : decode cX8_has 4 = .ok (.iload_n 2, 1) := by decide +kernel
theorem dX8_has_5 : decode cX8_has 5 = .ok (.bipush 9, 2) := by decide +kernel
theorem dX8_has_7 : decode cX8_has 7 = .ok (.if_icmp .lt 5, 3) := by decide +kernel
theorem dX8_has_10 : decode cX8_has 10 = .ok (.iconst 0, 1) := by decide +kernel
theorem dX8_has_11 : decode cX8_has 11 = .ok (.ireturn, 1) := by decide +kernel
theorem dX8_has_12 : decode cX8_has 12 = .ok (.iload_n 2, 1) := by decide +kernel
theorem dX8_has_13 : decode cX8_has 13 = .ok (.iconst 2, 1) := by decide +kernel
theorem dX8_has_14 : decode cX8_has 14 = .ok (.if_icmp .gt 11, 3) := by decide +kernel
theorem dX8_has_17 : decode cX8_has 17 = .ok (.aload_n 0, 1) := by decide +kernel
theorem dX8_has_18 : decode cX8_has 18 = .ok (.iload_n 1, 1) := by decide +kernel
theorem dX8_has_19 : decode cX8_has 19 = .ok (.invokevirtual 46, 3) := by decide +kernel
theorem dX8_has_22 : decode cX8_has 22 = .ok (.goto 8, 3) := by decide +kernel
theorem dX8_has_25 : decode cX8_has 25 = .ok (.aload_n 0, 1) := by decide +kernel
theorem dX8_has_26 : decode cX8_has 26 = .ok (.iload_n 1, 1) := by decide +kernel
theorem dX8_has_27 : decode cX8_has 27 = .ok (.invokevirtual 57, 3) := by decide +kernel
theorem dX8_has_30 : decode cX8_has 30 = .ok (.ireturn, 1) := by decide +kernel
def Sm_has (S : St) (p1 : Int32) (p2 : Int32) : Option Int32 :=
  if p2 < 0 then
    some (0 : Int32)
  else
    if p2 < (9 : Int32) then
      if (2 : Int32) < p2 then
        bd1 (Sm_isPromise S p1) fun r1 =>
        ck (isB r1) <|
        some r1
      else
        bd1 (Sm_isOne S p1) fun r2 =>
        ck (isB r2) <|
        some r2
    else
      some (0 : Int32)
section
variable {p : Program} {l : Launch} {e : Env} {s : State} {m : MethodId} {args : Array Value} {below : List Frame} {meth : Method} {c : Code} {H : Heap} {locs : List Loc} {E : Ev} {S V : St} {ls : Array Slot}
set_option maxRecDepth 20000 in
theorem w_Sm_has {p1 : Int32} {p2 : Int32} {r : Int32} (C : Cx p s m args meth c E cX8_has 3 RX8 (some .boolean)) (hw : Wd E (wX V E) s.heap S H locs) (hl : lv_has ls 3 [(0, .ref (ea E 1)), (1, .int p1), (2, .int p2)]) (hf : Sm_has S p1 p2 = some r) : W p l e (rmh 2) s m args below meth c H locs 0 0 (MQ below (QW E (wX V E) (some (.int r)) S) args s 0 0 (eA E)) (F0 m 0 ls []) := by
  have hx := C.1
  have hb := C.2.1
  unfold Sm_has at hf
  refine lv_iload_n hx hb dX8_has_0 rfl (lv_at hl 2 rfl) ?_
  refine lv_if_lt (tgt := 10) hx hb dX8_has_1 (by decide) (fun q => ?_) (fun q => ?_)
  · have hf := hf_t q hf
    refine lv_iconst (v := 0) hx hb dX8_has_10 kc_0 ?_
    exact ret_z rfl C hw dX8_has_11 hf
  · have hf := hf_f q hf
    refine lv_iload_n hx hb dX8_has_4 rfl (lv_at hl 2 rfl) ?_
    refine lv_bipush (v := 9) hx hb dX8_has_5 kb_9 ?_
    refine lv_icmp_lt (tgt := 12) hx hb dX8_has_7 (by decide) (fun q => ?_) (fun q => ?_)
    · have hf := hf_t q hf
      refine lv_iload_n hx hb dX8_has_12 rfl (lv_at hl 2 rfl) ?_
      refine lv_iconst (v := 2) hx hb dX8_has_13 kc_2 ?_
      refine lv_icmp_gt (tgt := 25) hx hb dX8_has_14 (by decide) (fun q => ?_) (fun q => ?_)
      · have hf := hf_t q hf
        refine lv_aload_n hx hb dX8_has_25 rfl (lv_at hl 0 rfl) ?_
        refine lv_iload_n hx hb dX8_has_26 rfl (lv_at hl 1 rfl) ?_
        obtain ⟨r1, hr, hf⟩ := hf_1 hf
        refine inv_Vi (q0 := 1) (ci := 8) (As := [.int p1]) lk_X8_57 C hw rfl rfl rfl (t_Sm_isPromise hr) rfl hl.1 dX8_has_27 rfl (Nat.le_of_ble_eq_true rfl) (by decide) (Nat.le_of_ble_eq_true rfl) rfl (fun H locs hw => ?_)
        obtain ⟨hcb, hf⟩ := hf_ck hf
        exact ret_z (isB_nar hcb) C hw dX8_has_30 hf
      · have hf := hf_f q hf
        refine lv_aload_n hx hb dX8_has_17 rfl (lv_at hl 0 rfl) ?_
        refine lv_iload_n hx hb dX8_has_18 rfl (lv_at hl 1 rfl) ?_
        obtain ⟨r2, hr, hf⟩ := hf_1 hf
        refine inv_Vi (q0 := 1) (ci := 8) (As := [.int p1]) lk_X8_46 C hw rfl rfl rfl (t_Sm_isOne hr) rfl hl.1 dX8_has_19 rfl (Nat.le_of_ble_eq_true rfl) (by decide) (Nat.le_of_ble_eq_true rfl) rfl (fun H locs hw => ?_)
        refine lv_goto (tgt := 30) hx hb dX8_has_22 (by decide) ?_
        obtain ⟨hcb, hf⟩ := hf_ck hf
        exact ret_z (isB_nar hcb) C hw dX8_has_30 hf
    · have hf := hf_f q hf
      refine lv_iconst (v := 0) hx hb dX8_has_10 kc_0 ?_
      exact ret_z rfl C hw dX8_has_11 hf
end
theorem t_Sm_has {l : Launch} {V : St} {S : St} {p1 : Int32} {p2 : Int32} {r : Int32} (hf : Sm_has S p1 p2 = some r) : Ct l (wX V) yX8_has cX8_has 3 (some .boolean) 2 (fun E => [.ref (ea E 1), .int p1, .int p2]) S (fun E => some (.int r)) S :=
  ofBlock (by decide +kernel) (fun _ => Nat.le_of_ble_eq_true rfl) (fun E p e s m args below meth c ls C hw hl => w_Sm_has C hw hl hf)
theorem dX8_canBecome_0 : decode cX8_canBecome 0 = .ok (.iload_n 2, 1) := by decide +kernel
theorem dX8_canBecome_1 : decode cX8_canBecome 1 = .ok (.tableswitch 125 0 6 #[43, 51, 59, 67, 80, 88, 96], 43) := by decide +kernel
theorem dX8_canBecome_44 : decode cX8_canBecome 44 = .ok (.iload_n 3, 1) := by decide +kernel
theorem dX8_canBecome_45 : decode cX8_canBecome 45 = .ok (.iconst 0, 1) := by decide +kernel
theorem dX8_canBecome_46 : decode cX8_canBecome 46 = .ok (.bipush 30, 2) := by decide +kernel
theorem dX8_canBecome_48 : decode cX8_canBecome 48 = .ok (.invokestatic 53, 3) := by decide +kernel
theorem dX8_canBecome_51 : decode cX8_canBecome 51 = .ok (.ireturn, 1) := by decide +kernel
theorem dX8_canBecome_52 : decode cX8_canBecome 52 = .ok (.iload_n 3, 1) := by decide +kernel
theorem dX8_canBecome_53 : decode cX8_canBecome 53 = .ok (.iconst 1, 1) := by decide +kernel
theorem dX8_canBecome_54 : decode cX8_canBecome 54 = .ok (.bipush 60, 2) := by decide +kernel
theorem dX8_canBecome_56 : decode cX8_canBecome 56 = .ok (.invokestatic 53, 3) := by decide +kernel
theorem dX8_canBecome_59 : decode cX8_canBecome 59 = .ok (.ireturn, 1) := by decide +kernel
theorem dX8_canBecome_60 : decode cX8_canBecome 60 = .ok (.iload_n 3, 1) := by decide +kernel
theorem dX8_canBecome_61 : decode cX8_canBecome 61 = .ok (.iconst 0, 1) := by decide +kernel
theorem dX8_canBecome_62 : decode cX8_canBecome 62 = .ok (.bipush 9, 2) := by decide +kernel
theorem dX8_canBecome_64 : decode cX8_canBecome 64 = .ok (.invokestatic 53, 3) := by decide +kernel
theorem dX8_canBecome_67 : decode cX8_canBecome 67 = .ok (.ireturn, 1) := by decide +kernel
theorem dX8_canBecome_68 : decode cX8_canBecome 68 = .ok (.iload_n 3, 1) := by decide +kernel
theorem dX8_canBecome_69 : decode cX8_canBecome 69 = .ok (.aload_n 0, 1) := by decide +kernel
theorem dX8_canBecome_70 : decode cX8_canBecome 70 = .ok (.getfield 24, 3) := by decide +kernel
theorem dX8_canBecome_73 : decode cX8_canBecome 73 = .ok (.iload_n 1, 1) := by decide +kernel
theorem dX8_canBecome_74 : decode cX8_canBecome 74 = .ok (.iaload, 1) := by decide +kernel
theorem dX8_canBecome_75 : decode cX8_canBecome 75 = .ok (.bipush 99, 2) := by decide +kernel
theorem dX8_canBecome_77 : decode cX8_canBecome 77 = .ok (.invokestatic 53, 3) := by decide +kernel
theorem dX8_canBecome_80 : decode cX8_canBecome 80 = .ok (.ireturn, 1) := by decide +kernel
theorem dX8_canBecome_81 : decode cX8_canBecome 81 = .ok (.iload_n 3, 1) := by decide +kernel
theorem dX8_canBecome_82 : decode cX8_canBecome 82 = .ok (.iconst 1, 1) := by decide +kernel
theorem dX8_canBecome_83 : decode cX8_canBecome 83 = .ok (.bipush 9, 2) := by decide +kernel
theorem dX8_canBecome_85 : decode cX8_canBecome 85 = .ok (.invokestatic 53, 3) := by decide +kernel
theorem dX8_canBecome_88 : decode cX8_canBecome 88 = .ok (.ireturn, 1) := by decide +kernel
theorem dX8_canBecome_89 : decode cX8_canBecome 89 = .ok (.iload_n 3, 1) := by decide +kernel
theorem dX8_canBecome_90 : decode cX8_canBecome 90 = .ok (.iconst (-1), 1) := by decide +kernel
theorem dX8_canBecome_91 : decode cX8_canBecome 91 = .ok (.bipush 99, 2) := by decide +kernel
theorem dX8_canBecome_93 : decode cX8_canBecome 93 = .ok (.invokestatic 53, 3) := by decide +kernel
theorem dX8_canBecome_96 : decode cX8_canBecome 96 = .ok (.ireturn, 1) := by decide +kernel
theorem dX8_canBecome_97 : decode cX8_canBecome 97 = .ok (.iload_n 3, 1) := by decide +kernel
theorem dX8_canBecome_98 : decode cX8_canBecome 98 = .ok (.iconst (-1), 1) := by decide +kernel
theorem dX8_canBecome_99 : decode cX8_canBecome 99 = .ok (.if_icmp .eq 21, 3) := by decide +kernel
theorem dX8_canBecome_102 : decode cX8_canBecome 102 = .ok (.aload_n 0, 1) := by decide +kernel
theorem dX8_canBecome_103 : decode cX8_canBecome 103 = .ok (.iload_n 3, 1) := by decide +kernel
theorem dX8_canBecome_104 : decode cX8_canBecome 104 = .ok (.invokevirtual 46, 3) := by decide +kernel
theorem dX8_canBecome_107 : decode cX8_canBecome 107 = .ok (.ifCond .eq 17, 3) := by decide +kernel
theorem dX8_canBecome_110 : decode cX8_canBecome 110 = .ok (.iload_n 3, 1) := by decide +kernel
theorem dX8_canBecome_111 : decode cX8_canBecome 111 = .ok (.aload_n 0, 1) := by decide +kernel
theorem dX8_canBecome_112 : decode cX8_canBecome 112 = .ok (.getfield 21, 3) := by decide +kernel
theorem dX8_canBecome_115 : decode cX8_canBecome 115 = .ok (.iload_n 1, 1) := by decide +kernel
theorem dX8_canBecome_116 : decode cX8_canBecome 116 = .ok (.iaload, 1) := by decide +kernel
theorem dX8_canBecome_117 : decode cX8_canBecome 117 = .ok (.if_icmp .eq 7, 3) := by decide +kernel
theorem dX8_canBecome_120 : decode cX8_canBecome 120 = .ok (.iconst 1, 1) := by decide +kernel
theorem dX8_canBecome_121 : decode cX8_canBecome 121 = .ok (.goto 4, 3) := by decide +kernel
theorem dX8_canBecome_124 : decode cX8_canBecome 124 = .ok (.iconst 0, 1) := by decide +kernel
theorem dX8_canBecome_125 : decode cX8_canBecome 125 = .ok (.ireturn, 1) := by decide +kernel
theorem dX8_canBecome_126 : decode cX8_canBecome 126 = .ok (.iconst 0, 1) := by decide +kernel
theorem dX8_canBecome_127 : decode cX8_canBecome 127 = .ok (.ireturn, 1) := by decide +kernel
def Sm_canBecome (S : St) (p1 : Int32) (p2 : Int32) (p3 : Int32) : Option Int32 :=
  if p2 = 0 then
    bd1 (Ch_within S p3 (0 : Int32) (30 : Int32)) fun r1 =>
    ck (isB r1) <|
    some r1
  else
  if p2 = 1 then
    bd1 (Ch_within S p3 (1 : Int32) (60 : Int32)) fun r2 =>
    ck (isB r2) <|
    some r2
  else
  if p2 = 2 then
    bd1 (Ch_within S p3 (0 : Int32) (9 : Int32)) fun r3 =>
    ck (isB r3) <|
    some r3
  else
  if p2 = 3 then
    ck (inb p1 10) <|
    bd1 (Ch_within S p3 (gi S 15 p1.toNatClampNeg) (99 : Int32)) fun r4 =>
    ck (isB r4) <|
    some r4
  else
  if p2 = 4 then
    bd1 (Ch_within S p3 (1 : Int32) (9 : Int32)) fun r5 =>
    ck (isB r5) <|
    some r5
  else
  if p2 = 5 then
    bd1 (Ch_within S p3 (-1 : Int32) (99 : Int32)) fun r6 =>
    ck (isB r6) <|
    some r6
  else
  if p2 = 6 then
    if p3 = (-1 : Int32) then
      some (1 : Int32)
    else
      bd1 (Sm_isOne S p3) fun r7 =>
      if r7 = 0 then
        some (0 : Int32)
      else
        ck (inb p1 10) <|
        if p3 = (gi S 14 p1.toNatClampNeg) then
          some (0 : Int32)
        else
          some (1 : Int32)
  else
  some (0 : Int32)
section
variable {p : Program} {l : Launch} {e : Env} {s : State} {m : MethodId} {args : Array Value} {below : List Frame} {meth : Method} {c : Code} {H : Heap} {locs : List Loc} {E : Ev} {S V : St} {ls : Array Slot}
set_option maxRecDepth 20000 in
theorem w_Sm_canBecome {p1 : Int32} {p2 : Int32} {p3 : Int32} {r : Int32} (C : Cx p s m args meth c E cX8_canBecome 4 RX8 (some .boolean)) (hw : Wd E (wX V E) s.heap S H locs) (hl : lv_has ls 4 [(0, .ref (ea E 1)), (1, .int p1), (2, .int p2), (3, .int p3)]) (hf : Sm_canBecome S p1 p2 p3 = some r) : W p l e (rmh 2) s m args below meth c H locs 0 0 (MQ below (QW E (wX V E) (some (.int r)) S) args s 0 0 (eA E)) (F0 m 0 ls []) := by
  have hx := C.1
  have hb := C.2.1
  unfold Sm_canBecome at hf
  refine lv_iload_n hx hb dX8_canBecome_0 rfl (lv_at hl 2 rfl) ?_
  by_cases q0 : p2 = 0
  · have hf := hf_t q0 hf
    refine lv_tableIn (off := 43) (tgt := 44) hx hb dX8_canBecome_1 (by rw [q0]; decide) (by rw [q0]; decide) (by rw [q0]; rfl) (by decide) ?_
    refine lv_iload_n hx hb dX8_canBecome_44 rfl (lv_at hl 3 rfl) ?_
    refine lv_iconst (v := 0) hx hb dX8_canBecome_45 kc_0 ?_
    refine lv_bipush (v := 30) hx hb dX8_canBecome_46 kb_30 ?_
    obtain ⟨r1, hr, hf⟩ := hf_1 hf
    refine inv_Ni (As := [.int p3, .int (0 : Int32), .int (30 : Int32)]) lk_X8_53 C hw (t_Ch_within hr) hl.1 dX8_canBecome_48 rfl (Nat.le_of_ble_eq_true rfl) (by decide) (Nat.le_of_ble_eq_true rfl) rfl (fun H locs hw => ?_)
    obtain ⟨hcb, hf⟩ := hf_ck hf
    exact ret_z (isB_nar hcb) C hw dX8_canBecome_51 hf
  have hf := hf_f q0 hf
  by_cases q1 : p2 = 1
  · have hf := hf_t q1 hf
    refine lv_tableIn (off := 51) (tgt := 52) hx hb dX8_canBecome_1 (by rw [q1]; decide) (by rw [q1]; decide) (by rw [q1]; rfl) (by decide) ?_
    refine lv_iload_n hx hb dX8_canBecome_52 rfl (lv_at hl 3 rfl) ?_
    refine lv_iconst (v := 1) hx hb dX8_canBecome_53 kc_1 ?_
    refine lv_bipush (v := 60) hx hb dX8_canBecome_54 kb_60 ?_
    obtain ⟨r2, hr, hf⟩ := hf_1 hf
    refine inv_Ni (As := [.int p3, .int (1 : Int32), .int (60 : Int32)]) lk_X8_53 C hw (t_Ch_within hr) hl.1 dX8_canBecome_56 rfl (Nat.le_of_ble_eq_true rfl) (by decide) (Nat.le_of_ble_eq_true rfl) rfl (fun H locs hw => ?_)
    obtain ⟨hcb, hf⟩ := hf_ck hf
    exact ret_z (isB_nar hcb) C hw dX8_canBecome_59 hf
  have hf := hf_f q1 hf
  by_cases q2 : p2 = 2
  · have hf := hf_t q2 hf
    refine lv_tableIn (off := 59) (tgt := 60) hx hb dX8_canBecome_1 (by rw [q2]; decide) (by rw [q2]; decide) (by rw [q2]; rfl) (by decide) ?_
    refine lv_iload_n hx hb dX8_canBecome_60 rfl (lv_at hl 3 rfl) ?_
    refine lv_iconst (v := 0) hx hb dX8_canBecome_61 kc_0 ?_
    refine lv_bipush (v := 9) hx hb dX8_canBecome_62 kb_9 ?_
    obtain ⟨r3, hr, hf⟩ := hf_1 hf
    refine inv_Ni (As := [.int p3, .int (0 : Int32), .int (9 : Int32)]) lk_X8_53 C hw (t_Ch_within hr) hl.1 dX8_canBecome_64 rfl (Nat.le_of_ble_eq_true rfl) (by decide) (Nat.le_of_ble_eq_true rfl) rfl (fun H locs hw => ?_)
    obtain ⟨hcb, hf⟩ := hf_ck hf
    exact ret_z (isB_nar hcb) C hw dX8_canBecome_67 hf
  have hf := hf_f q2 hf
  by_cases q3 : p2 = 3
  · have hf := hf_t q3 hf
    refine lv_tableIn (off := 67) (tgt := 68) hx hb dX8_canBecome_1 (by rw [q3]; decide) (by rw [q3]; decide) (by rw [q3]; rfl) (by decide) ?_
    refine lv_iload_n hx hb dX8_canBecome_68 rfl (lv_at hl 3 rfl) ?_
    refine lv_aload_n hx hb dX8_canBecome_69 rfl (lv_at hl 0 rfl) ?_
    refine get_1_4 C hw q_116 dX8_canBecome_70 ?_
    refine lv_iload_n hx hb dX8_canBecome_73 rfl (lv_at hl 1 rfl) ?_
    obtain ⟨hc, hf⟩ := hf_ck hf
    refine ld_15 C hw hc dX8_canBecome_74 ?_
    refine lv_bipush (v := 99) hx hb dX8_canBecome_75 kb_99 ?_
    obtain ⟨r4, hr, hf⟩ := hf_1 hf
    refine inv_Ni (As := [.int p3, .int (gi S 15 p1.toNatClampNeg), .int (99 : Int32)]) lk_X8_53 C hw (t_Ch_within hr) hl.1 dX8_canBecome_77 rfl (Nat.le_of_ble_eq_true rfl) (by decide) (Nat.le_of_ble_eq_true rfl) rfl (fun H locs hw => ?_)
    obtain ⟨hcb, hf⟩ := hf_ck hf
    exact ret_z (isB_nar hcb) C hw dX8_canBecome_80 hf
  have hf := hf_f q3 hf
  by_cases q4 : p2 = 4
  · have hf := hf_t q4 hf
    refine lv_tableIn (off := 80) (tgt := 81) hx hb dX8_canBecome_1 (by rw [q4]; decide) (by rw [q4]; decide) (by rw [q4]; rfl) (by decide) ?_
    refine lv_iload_n hx hb dX8_canBecome_81 rfl (lv_at hl 3 rfl) ?_
    refine lv_iconst (v := 1) hx hb dX8_canBecome_82 kc_1 ?_
    refine lv_bipush (v := 9) hx hb dX8_canBecome_83 kb_9 ?_
    obtain ⟨r5, hr, hf⟩ := hf_1 hf
    refine inv_Ni (As := [.int p3, .int (1 : Int32), .int (9 : Int32)]) lk_X8_53 C hw (t_Ch_within hr) hl.1 dX8_canBecome_85 rfl (Nat.le_of_ble_eq_true rfl) (by decide) (Nat.le_of_ble_eq_true rfl) rfl (fun H locs hw => ?_)
    obtain ⟨hcb, hf⟩ := hf_ck hf
    exact ret_z (isB_nar hcb) C hw dX8_canBecome_88 hf
  have hf := hf_f q4 hf
  by_cases q5 : p2 = 5
  · have hf := hf_t q5 hf
    refine lv_tableIn (off := 88) (tgt := 89) hx hb dX8_canBecome_1 (by rw [q5]; decide) (by rw [q5]; decide) (by rw [q5]; rfl) (by decide) ?_
    refine lv_iload_n hx hb dX8_canBecome_89 rfl (lv_at hl 3 rfl) ?_
    refine lv_iconst (v := -1) hx hb dX8_canBecome_90 kc_m1 ?_
    refine lv_bipush (v := 99) hx hb dX8_canBecome_91 kb_99 ?_
    obtain ⟨r6, hr, hf⟩ := hf_1 hf
    refine inv_Ni (As := [.int p3, .int (-1 : Int32), .int (99 : Int32)]) lk_X8_53 C hw (t_Ch_within hr) hl.1 dX8_canBecome_93 rfl (Nat.le_of_ble_eq_true rfl) (by decide) (Nat.le_of_ble_eq_true rfl) rfl (fun H locs hw => ?_)
    obtain ⟨hcb, hf⟩ := hf_ck hf
    exact ret_z (isB_nar hcb) C hw dX8_canBecome_96 hf
  have hf := hf_f q5 hf
  by_cases q6 : p2 = 6
  · have hf := hf_t q6 hf
    refine lv_tableIn (off := 96) (tgt := 97) hx hb dX8_canBecome_1 (by rw [q6]; decide) (by rw [q6]; decide) (by rw [q6]; rfl) (by decide) ?_
    refine lv_iload_n hx hb dX8_canBecome_97 rfl (lv_at hl 3 rfl) ?_
    refine lv_iconst (v := -1) hx hb dX8_canBecome_98 kc_m1 ?_
    refine lv_icmp_eq (tgt := 120) hx hb dX8_canBecome_99 (by decide) (fun q => ?_) (fun q => ?_)
    · have hf := hf_t q hf
      refine lv_iconst (v := 1) hx hb dX8_canBecome_120 kc_1 ?_
      refine lv_goto (tgt := 125) hx hb dX8_canBecome_121 (by decide) ?_
      exact ret_z rfl C hw dX8_canBecome_125 hf
    · have hf := hf_f q hf
      refine lv_aload_n hx hb dX8_canBecome_102 rfl (lv_at hl 0 rfl) ?_
      refine lv_iload_n hx hb dX8_canBecome_103 rfl (lv_at hl 3 rfl) ?_
      obtain ⟨r7, hr, hf⟩ := hf_1 hf
      refine inv_Vi (q0 := 1) (ci := 8) (As := [.int p3]) lk_X8_46 C hw rfl rfl rfl (t_Sm_isOne hr) rfl hl.1 dX8_canBecome_104 rfl (Nat.le_of_ble_eq_true rfl) (by decide) (Nat.le_of_ble_eq_true rfl) rfl (fun H locs hw => ?_)
      refine lv_if_eq (tgt := 124) hx hb dX8_canBecome_107 (by decide) (fun q => ?_) (fun q => ?_)
      · have hf := hf_t q hf
        refine lv_iconst (v := 0) hx hb dX8_canBecome_124 kc_0 ?_
        exact ret_z rfl C hw dX8_canBecome_125 hf
      · have hf := hf_f q hf
        refine lv_iload_n hx hb dX8_canBecome_110 rfl (lv_at hl 3 rfl) ?_
        refine lv_aload_n hx hb dX8_canBecome_111 rfl (lv_at hl 0 rfl) ?_
        refine get_1_3 C hw q_112 dX8_canBecome_112 ?_
        refine lv_iload_n hx hb dX8_canBecome_115 rfl (lv_at hl 1 rfl) ?_
        obtain ⟨hc, hf⟩ := hf_ck hf
        refine ld_14 C hw hc dX8_canBecome_116 ?_
        refine lv_icmp_eq (tgt := 124) hx hb dX8_canBecome_117 (by decide) (fun q => ?_) (fun q => ?_)
        · have hf := hf_t q hf
          refine lv_iconst (v := 0) hx hb dX8_canBecome_124 kc_0 ?_
          exact ret_z rfl C hw dX8_canBecome_125 hf
        · have hf := hf_f q hf
          refine lv_iconst (v := 1) hx hb dX8_canBecome_120 kc_1 ?_
          refine lv_goto (tgt := 125) hx hb dX8_canBecome_121 (by decide) ?_
          exact ret_z rfl C hw dX8_canBecome_125 hf
  have hf := hf_f q6 hf
  refine lv_tableOut (tgt := 126) hx hb dX8_canBecome_1 (by have h0 := lv_neT (a := 0) q0 rfl; have h1 := lv_neT (a := 1) q1 rfl; have h2 := lv_neT (a := 2) q2 rfl; have h3 := lv_neT (a := 3) q3 rfl; have h4 := lv_neT (a := 4) q4 rfl; have h5 := lv_neT (a := 5) q5 rfl; have h6 := lv_neT (a := 6) q6 rfl; omega) (by decide) ?_
  refine lv_iconst (v := 0) hx hb dX8_canBecome_126 kc_0 ?_
  exact ret_z rfl C hw dX8_canBecome_127 hf
end
theorem t_Sm_canBecome {l : Launch} {V : St} {S : St} {p1 : Int32} {p2 : Int32} {p3 : Int32} {r : Int32} (hf : Sm_canBecome S p1 p2 p3 = some r) : Ct l (wX V) yX8_canBecome cX8_canBecome 4 (some .boolean) 2 (fun E => [.ref (ea E 1), .int p1, .int p2, .int p3]) S (fun E => some (.int r)) S :=
  ofBlock (by decide +kernel) (fun _ => Nat.le_of_ble_eq_true rfl) (fun E p e s m args below meth c ls C hw hl => w_Sm_canBecome C hw hl hf)
theorem dX8_numberOf_0 : decode cX8_numberOf 0 = .ok (.aload_n 0, 1) := by decide +kernel
theorem dX8_numberOf_1 : decode cX8_numberOf 1 = .ok (.iload_n 2, 1) := by decide +kernel
theorem dX8_numberOf_2 : decode cX8_numberOf 2 = .ok (.invokevirtual 60, 3) := by decide +kernel
theorem dX8_numberOf_5 : decode cX8_numberOf 5 = .ok (.iload_n 1, 1) := by decide +kernel
theorem dX8_numberOf_6 : decode cX8_numberOf 6 = .ok (.iaload, 1) := by decide +kernel
theorem dX8_numberOf_7 : decode cX8_numberOf 7 = .ok (.ireturn, 1) := by decide +kernel
def Sm_numberOf (S : St) (p1 : Int32) (p2 : Int32) : Option Int32 :=
  bd1 (Sm_rowOf S p2) fun r1 =>
  ck (isI r1) <| ck (inb p1 (lenI r1)) <|
  some (gi S r1 p1.toNatClampNeg)
section
variable {p : Program} {l : Launch} {e : Env} {s : State} {m : MethodId} {args : Array Value} {below : List Frame} {meth : Method} {c : Code} {H : Heap} {locs : List Loc} {E : Ev} {S V : St} {ls : Array Slot}
set_option maxRecDepth 20000 in
theorem w_Sm_numberOf {p1 : Int32} {p2 : Int32} {r : Int32} (C : Cx p s m args meth c E cX8_numberOf 3 RX8 (some .int)) (hw : Wd E (wX V E) s.heap S H locs) (hl : lv_has ls 3 [(0, .ref (ea E 1)), (1, .int p1), (2, .int p2)]) (hf : Sm_numberOf S p1 p2 = some r) : W p l e (rmh 2) s m args below meth c H locs 0 0 (MQ below (QW E (wX V E) (some (.int r)) S) args s 0 0 (eA E)) (F0 m 0 ls []) := by
  have hx := C.1
  have hb := C.2.1
  unfold Sm_numberOf at hf
  refine lv_aload_n hx hb dX8_numberOf_0 rfl (lv_at hl 0 rfl) ?_
  refine lv_iload_n hx hb dX8_numberOf_1 rfl (lv_at hl 2 rfl) ?_
  obtain ⟨r1, hr, hf⟩ := hf_1 hf
  refine inv_Va (q0 := 1) (ci := 8) (As := [.int p2]) lk_X8_60 C hw rfl rfl rfl (t_Sm_rowOf hr) rfl hl.1 dX8_numberOf_2 rfl (Nat.le_of_ble_eq_true rfl) (by decide) (Nat.le_of_ble_eq_true rfl) rfl (fun H locs hw => ?_)
  refine lv_iload_n hx hb dX8_numberOf_5 rfl (lv_at hl 1 rfl) ?_
  obtain ⟨hc0, hf⟩ := hf_ck hf
  obtain ⟨hc, hf⟩ := hf_ck hf
  refine ldI C hw hc0 hc dX8_numberOf_6 ?_
  exact ret_i C hw dX8_numberOf_7 hf
end
theorem t_Sm_numberOf {l : Launch} {V : St} {S : St} {p1 : Int32} {p2 : Int32} {r : Int32} (hf : Sm_numberOf S p1 p2 = some r) : Ct l (wX V) yX8_numberOf cX8_numberOf 3 (some .int) 2 (fun E => [.ref (ea E 1), .int p1, .int p2]) S (fun E => some (.int r)) S :=
  ofBlock (by decide +kernel) (fun _ => Nat.le_of_ble_eq_true rfl) (fun E p e s m args below meth c ls C hw hl => w_Sm_numberOf C hw hl hf)
theorem dX9_isSet_0 : decode cX9_isSet 0 = .ok (.iload_n 1, 1) := by decide +kernel
theorem dX9_isSet_1 : decode cX9_isSet 1 = .ok (.ifCond .lt 16, 3) := by decide +kernel
theorem dX9_isSet_4 : decode cX9_isSet 4 = .ok (.iload_n 1, 1) := by decide +kernel
theorem dX9_isSet_5 : decode cX9_isSet 5 = .ok (.aload_n 0, 1) := by decide +kernel
theorem dX9_isSet_6 : decode cX9_isSet 6 = .ok (.getfield 9, 3) := by decide +kernel
theorem dX9_isSet_9 : decode cX9_isSet 9 = .ok (.arraylength, 1) := by decide +kernel
theorem dX9_isSet_10 : decode cX9_isSet 10 = .ok (.if_icmp .ge 7, 3) := by decide +kernel
theorem dX9_isSet_13 : decode cX9_isSet 13 = .ok (.iconst 1, 1) := by decide +kernel
theorem dX9_isSet_14 : decode cX9_isSet 14 = .ok (.goto 4, 3) := by decide +kernel
theorem dX9_isSet_17 : decode cX9_isSet 17 = .ok (.iconst 0, 1) := by decide +kernel
theorem dX9_isSet_18 : decode cX9_isSet 18 = .ok (.ireturn, 1) := by decide +kernel
def Wk_isSet (S : St) (p1 : Int32) : Option Int32 :=
  if p1 < 0 then
    some (0 : Int32)
  else
    if (1024 : Int32) ≤ p1 then
      some (0 : Int32)
    else
      some (1 : Int32)
section
variable {p : Program} {l : Launch} {e : Env} {s : State} {m : MethodId} {args : Array Value} {below : List Frame} {meth : Method} {c : Code} {H : Heap} {locs : List Loc} {E : Ev} {S V : St} {ls : Array Slot}
set_option maxRecDepth 20000 in
theorem w_Wk_isSet {p1 : Int32} {r : Int32} (C : Cx p s m args meth c E cX9_isSet 2 RX9 (some .boolean)) (hw : Wd E (wX V E) s.heap S H locs) (hl : lv_has ls 2 [(0, .ref (ea E 5)), (1, .int p1)]) (hf : Wk_isSet S p1 = some r) : W p l e (rmh 1) s m args below meth c H locs 0 0 (MQ below (QW E (wX V E) (some (.int r)) S) args s 0 0 (eA E)) (F0 m 0 ls []) := by
  have hx := C.1
  have hb := C.2.1
  unfold Wk_isSet at hf
  refine lv_iload_n hx hb dX9_isSet_0 rfl (lv_at hl 1 rfl) ?_
  refine lv_if_lt (tgt := 17) hx hb dX9_isSet_1 (by decide) (fun q => ?_) (fun q => ?_)
  · have hf := hf_t q hf
    refine lv_iconst (v := 0) hx hb dX9_isSet_17 kc_0 ?_
    exact ret_z rfl C hw dX9_isSet_18 hf
  · have hf := hf_f q hf
    refine lv_iload_n hx hb dX9_isSet_4 rfl (lv_at hl 1 rfl) ?_
    refine lv_aload_n hx hb dX9_isSet_5 rfl (lv_at hl 0 rfl) ?_
    refine get_5_1 C hw q_318 dX9_isSet_6 ?_
    refine len_28 C hw dX9_isSet_9 ?_
    refine lv_icmp_ge (tgt := 17) hx hb dX9_isSet_10 (by decide) (fun q => ?_) (fun q => ?_)
    · have hf := hf_t q hf
      refine lv_iconst (v := 0) hx hb dX9_isSet_17 kc_0 ?_
      exact ret_z rfl C hw dX9_isSet_18 hf
    · have hf := hf_f q hf
      refine lv_iconst (v := 1) hx hb dX9_isSet_13 kc_1 ?_
      refine lv_goto (tgt := 18) hx hb dX9_isSet_14 (by decide) ?_
      exact ret_z rfl C hw dX9_isSet_18 hf
end
theorem t_Wk_isSet {l : Launch} {V : St} {S : St} {p1 : Int32} {r : Int32} (hf : Wk_isSet S p1 = some r) : Ct l (wX V) yX9_isSet cX9_isSet 2 (some .boolean) 1 (fun E => [.ref (ea E 5), .int p1]) S (fun E => some (.int r)) S :=
  ofBlock (by decide +kernel) (fun _ => Nat.le_of_ble_eq_true rfl) (fun E p e s m args below meth c ls C hw hl => w_Wk_isSet C hw hl hf)
theorem dX9_hasDaysForAll_0 : decode cX9_hasDaysForAll 0 = .ok (.bipush 100, 2) := by decide +kernel
theorem dX9_hasDaysForAll_2 : decode cX9_hasDaysForAll 2 = .ok (.istore_n 2, 1) := by decide +kernel
theorem dX9_hasDaysForAll_3 : decode cX9_hasDaysForAll 3 = .ok (.iconst (-1), 1) := by decide +kernel
theorem dX9_hasDaysForAll_4 : decode cX9_hasDaysForAll 4 = .ok (.istore_n 3, 1) := by decide +kernel
theorem dX9_hasDaysForAll_5 : decode cX9_hasDaysForAll 5 = .ok (.iconst 0, 1) := by decide +kernel
theorem dX9_hasDaysForAll_6 : decode cX9_hasDaysForAll 6 = .ok (.istore 4, 2) := by decide +kernel
theorem dX9_hasDaysForAll_8 : decode cX9_hasDaysForAll 8 = .ok (.iconst 0, 1) := by decide +kernel
theorem dX9_hasDaysForAll_9 : decode cX9_hasDaysForAll 9 = .ok (.istore 5, 2) := by decide +kernel
theorem dX9_hasDaysForAll_11 : decode cX9_hasDaysForAll 11 = .ok (.iload 5, 2) := by decide +kernel
theorem dX9_hasDaysForAll_13 : decode cX9_hasDaysForAll 13 = .ok (.aload_n 0, 1) := by decide +kernel
theorem dX9_hasDaysForAll_14 : decode cX9_hasDaysForAll 14 = .ok (.getfield 15, 3) := by decide +kernel
theorem dX9_hasDaysForAll_17 : decode cX9_hasDaysForAll 17 = .ok (.getfield 43, 3) := by decide +kernel
theorem dX9_hasDaysForAll_20 : decode cX9_hasDaysForAll 20 = .ok (.if_icmp .ge 63, 3) := by decide +kernel
theorem dX9_hasDaysForAll_23 : decode cX9_hasDaysForAll 23 = .ok (.iload_n 1, 1) := by decide +kernel
theorem dX9_hasDaysForAll_24 : decode cX9_hasDaysForAll 24 = .ok (.iload 5, 2) := by decide +kernel
theorem dX9_hasDaysForAll_26 : decode cX9_hasDaysForAll 26 = .ok (.invokestatic 49, 3) := by decide +kernel
theorem dX9_hasDaysForAll_29 : decode cX9_hasDaysForAll 29 = .ok (.ifCond .eq 48, 3) := by decide +kernel
theorem dX9_hasDaysForAll_32 : decode cX9_hasDaysForAll 32 = .ok (.iload_n 2, 1) := by decide +kernel
theorem dX9_hasDaysForAll_33 : decode cX9_hasDaysForAll 33 = .ok (.aload_n 0, 1) := by decide +kernel
theorem dX9_hasDaysForAll_34 : decode cX9_hasDaysForAll 34 = .ok (.getfield 15, 3) := by decide +kernel
theorem dX9_hasDaysForAll_37 : decode cX9_hasDaysForAll 37 = .ok (.getfield 52, 3) := by decide +kernel
theorem dX9_hasDaysForAll_40 : decode cX9_hasDaysForAll 40 = .ok (.iload 5, 2) := by decide +kernel
theorem dX9_hasDaysForAll_42 : decode cX9_hasDaysForAll 42 = .ok (.iaload, 1) := by decide +kernel
theorem dX9_hasDaysForAll_43 : decode cX9_hasDaysForAll 43 = .ok (.invokestatic 56, 3) := by decide +kernel
theorem dX9_hasDaysForAll_46 : decode cX9_hasDaysForAll 46 = .ok (.istore_n 2, 1) := by decide +kernel
theorem dX9_hasDaysForAll_47 : decode cX9_hasDaysForAll 47 = .ok (.iload_n 3, 1) := by decide +kernel
theorem dX9_hasDaysForAll_48 : decode cX9_hasDaysForAll 48 = .ok (.aload_n 0, 1) := by decide +kernel
theorem dX9_hasDaysForAll_49 : decode cX9_hasDaysForAll 49 = .ok (.getfield 15, 3) := by decide +kernel
theorem dX9_hasDaysForAll_52 : decode cX9_hasDaysForAll 52 = .ok (.getfield 62, 3) := by decide +kernel
theorem dX9_hasDaysForAll_55 : decode cX9_hasDaysForAll 55 = .ok (.iload 5, 2) := by decide +kernel
theorem dX9_hasDaysForAll_57 : decode cX9_hasDaysForAll 57 = .ok (.iaload, 1) := by decide +kernel
theorem dX9_hasDaysForAll_58 : decode cX9_hasDaysForAll 58 = .ok (.invokestatic 65, 3) := by decide +kernel
theorem dX9_hasDaysForAll_61 : decode cX9_hasDaysForAll 61 = .ok (.istore_n 3, 1) := by decide +kernel
theorem dX9_hasDaysForAll_62 : decode cX9_hasDaysForAll 62 = .ok (.iload 4, 2) := by decide +kernel
theorem dX9_hasDaysForAll_64 : decode cX9_hasDaysForAll 64 = .ok (.aload_n 0, 1) := by decide +kernel
theorem dX9_hasDaysForAll_65 : decode cX9_hasDaysForAll 65 = .ok (.getfield 15, 3) := by decide +kernel
theorem dX9_hasDaysForAll_68 : decode cX9_hasDaysForAll 68 = .ok (.getfield 68, 3) := by decide +kernel
theorem dX9_hasDaysForAll_71 : decode cX9_hasDaysForAll 71 = .ok (.iload 5, 2) := by decide +kernel
theorem dX9_hasDaysForAll_73 : decode cX9_hasDaysForAll 73 = .ok (.iaload, 1) := by decide +kernel
theorem dX9_hasDaysForAll_74 : decode cX9_hasDaysForAll 74 = .ok (.iadd, 1) := by decide +kernel
theorem dX9_hasDaysForAll_75 : decode cX9_hasDaysForAll 75 = .ok (.istore 4, 2) := by decide +kernel
theorem dX9_hasDaysForAll_77 : decode cX9_hasDaysForAll 77 = .ok (.iinc 5 1, 3) := by decide +kernel
theorem dX9_hasDaysForAll_80 : decode cX9_hasDaysForAll 80 = .ok (.goto (-69), 3) := by decide +kernel
theorem dX9_hasDaysForAll_83 : decode cX9_hasDaysForAll 83 = .ok (.iload_n 1, 1) := by decide +kernel
theorem dX9_hasDaysForAll_84 : decode cX9_hasDaysForAll 84 = .ok (.ifCond .eq 13, 3) := by decide +kernel
theorem dX9_hasDaysForAll_87 : decode cX9_hasDaysForAll 87 = .ok (.iload 4, 2) := by decide +kernel
theorem dX9_hasDaysForAll_89 : decode cX9_hasDaysForAll 89 = .ok (.iload_n 3, 1) := by decide +kernel
theorem dX9_hasDaysForAll_90 : decode cX9_hasDaysForAll 90 = .ok (.iload_n 2, 1) := by decide +kernel
theorem dX9_hasDaysForAll_91 : decode cX9_hasDaysForAll 91 = .ok (.isub, 1) := by decide +kernel
theorem dX9_hasDaysForAll_92 : decode cX9_hasDaysForAll 92 = .ok (.iconst 1, 1) := by decide +kernel
theorem dX9_hasDaysForAll_93 : decode cX9_hasDaysForAll 93 = .ok (.iadd, 1) := by decide +kernel
theorem dX9_hasDaysForAll_94 : decode cX9_hasDaysForAll 94 = .ok (.if_icmp .gt 7, 3) := by decide +kernel
theorem dX9_hasDaysForAll_97 : decode cX9_hasDaysForAll 97 = .ok (.iconst 1, 1) := by decide +kernel
theorem dX9_hasDaysForAll_98 : decode cX9_hasDaysForAll 98 = .ok (.goto 4, 3) := by decide +kernel
theorem dX9_hasDaysForAll_101 : decode cX9_hasDaysForAll 101 = .ok (.iconst 0, 1) := by decide +kernel
theorem dX9_hasDaysForAll_102 : decode cX9_hasDaysForAll 102 = .ok (.ireturn, 1) := by decide +kernel
def Wk_hasDaysForAll_b11 (N : Nat) (k11 : (Int32 × Int32 × Int32 × Int32) → Option Int32) (S : St) (l1 : Int32) (l2 : Int32) (l3 : Int32) (l4 : Int32) (l5 : Int32) : Option Int32 :=
  if (gi S 1 10) ≤ l5 then
    if l1 = 0 then
      some (1 : Int32)
    else
      if ((l3 - l2) + (1 : Int32)) < l4 then
        some (0 : Int32)
      else
        some (1 : Int32)
  else
    bd1 (Ch_isIn S l1 l5) fun r1 =>
    if r1 = 0 then
      nm (l5 + (1)) fun x2 =>
      k11 (l2, l3, l4, x2)
    else
      ck (inb l5 10) <|
      bd1 (Ma_min S l2 (gi S 15 l5.toNatClampNeg)) fun r3 =>
      ck (inb l5 10) <|
      bd1 (Ma_max S l3 (gi S 16 l5.toNatClampNeg)) fun r4 =>
      ck (inb l5 10) <|
      nm ((l4 + (gi S 17 l5.toNatClampNeg))) fun x5 =>
      nm (l5 + (1)) fun x6 =>
      k11 (r3, r4, x5, x6)
def Wk_hasDaysForAll_L11 (N : Nat) (S : St) (l1 : Int32) : (Int32 × Int32 × Int32 × Int32) → Option Int32 :=
  lp (fun k x => Wk_hasDaysForAll_b11 N k S l1 x.1 x.2.1 x.2.2.1 x.2.2.2) N
def Wk_hasDaysForAll (N : Nat) (S : St) (p1 : Int32) : Option Int32 :=
  Wk_hasDaysForAll_L11 N S p1 ((100 : Int32), (-1 : Int32), (0 : Int32), (0 : Int32))
section
variable {p : Program} {l : Launch} {e : Env} {s : State} {m : MethodId} {args : Array Value} {below : List Frame} {meth : Method} {c : Code} {H : Heap} {locs : List Loc} {E : Ev} {S V : St} {ls : Array Slot}
set_option maxRecDepth 20000 in
theorem w_Wk_hasDaysForAll_b11 {N : Nat} {k11 : (Int32 × Int32 × Int32 × Int32) → Option Int32} {l1 : Int32} {l2 : Int32} {l3 : Int32} {l4 : Int32} {l5 : Int32} {r : Int32} (C : Cx p s m args meth c E cX9_hasDaysForAll 6 RX9 (some .boolean)) (hk11 : ∀ x, k11 x = some r → ∀ (H : Heap) (locs : List Loc) (ls : Array Slot), Wd E (wX V E) s.heap S H locs → lv_has ls 6 [(0, .ref (ea E 5)), (1, .int l1), (2, .int x.1), (3, .int x.2.1), (4, .int x.2.2.1), (5, .int x.2.2.2)] → W p l e (rmh 2) s m args below meth c H locs 0 0 (MQ below (QW E (wX V E) (some (.int r)) S) args s 0 0 (eA E)) (F0 m 11 ls [])) (hw : Wd E (wX V E) s.heap S H locs) (hl : lv_has ls 6 [(0, .ref (ea E 5)), (1, .int l1), (2, .int l2), (3, .int l3), (4, .int l4), (5, .int l5)]) (hf : Wk_hasDaysForAll_b11 N k11 S l1 l2 l3 l4 l5 = some r) : W p l e (rmh 2) s m args below meth c H locs 0 0 (MQ below (QW E (wX V E) (some (.int r)) S) args s 0 0 (eA E)) (F0 m 11 ls []) := by
  have hx := C.1
  have hb := C.2.1
  unfold Wk_hasDaysForAll_b11 at hf
  refine lv_iload hx hb dX9_hasDaysForAll_11 (lv_at hl 5 rfl) ?_
  refine lv_aload_n hx hb dX9_hasDaysForAll_13 rfl (lv_at hl 0 rfl) ?_
  refine get_5_0 C hw q_317 dX9_hasDaysForAll_14 ?_
  refine get_1_10 C hw q_140 dX9_hasDaysForAll_17 ?_
  refine lv_icmp_ge (tgt := 83) hx hb dX9_hasDaysForAll_20 (by decide) (fun q => ?_) (fun q => ?_)
  · have hf := hf_t q hf
    refine lv_iload_n hx hb dX9_hasDaysForAll_83 rfl (lv_at hl 1 rfl) ?_
    refine lv_if_eq (tgt := 97) hx hb dX9_hasDaysForAll_84 (by decide) (fun q => ?_) (fun q => ?_)
    · have hf := hf_t q hf
      refine lv_iconst (v := 1) hx hb dX9_hasDaysForAll_97 kc_1 ?_
      refine lv_goto (tgt := 102) hx hb dX9_hasDaysForAll_98 (by decide) ?_
      exact ret_z rfl C hw dX9_hasDaysForAll_102 hf
    · have hf := hf_f q hf
      refine lv_iload hx hb dX9_hasDaysForAll_87 (lv_at hl 4 rfl) ?_
      refine lv_iload_n hx hb dX9_hasDaysForAll_89 rfl (lv_at hl 3 rfl) ?_
      refine lv_iload_n hx hb dX9_hasDaysForAll_90 rfl (lv_at hl 2 rfl) ?_
      refine lv_isub hx hb dX9_hasDaysForAll_91 ?_
      refine lv_iconst (v := 1) hx hb dX9_hasDaysForAll_92 kc_1 ?_
      refine lv_iadd hx hb dX9_hasDaysForAll_93 ?_
      refine lv_icmp_gt (tgt := 101) hx hb dX9_hasDaysForAll_94 (by decide) (fun q => ?_) (fun q => ?_)
      · have hf := hf_t q hf
        refine lv_iconst (v := 0) hx hb dX9_hasDaysForAll_101 kc_0 ?_
        exact ret_z rfl C hw dX9_hasDaysForAll_102 hf
      · have hf := hf_f q hf
        refine lv_iconst (v := 1) hx hb dX9_hasDaysForAll_97 kc_1 ?_
        refine lv_goto (tgt := 102) hx hb dX9_hasDaysForAll_98 (by decide) ?_
        exact ret_z rfl C hw dX9_hasDaysForAll_102 hf
  · have hf := hf_f q hf
    refine lv_iload_n hx hb dX9_hasDaysForAll_23 rfl (lv_at hl 1 rfl) ?_
    refine lv_iload hx hb dX9_hasDaysForAll_24 (lv_at hl 5 rfl) ?_
    obtain ⟨r1, hr, hf⟩ := hf_1 hf
    refine inv_Ni (As := [.int l1, .int l5]) lk_X9_49 C hw (t_Ch_isIn hr) hl.1 dX9_hasDaysForAll_26 rfl (Nat.le_of_ble_eq_true rfl) (by decide) (Nat.le_of_ble_eq_true rfl) rfl (fun H locs hw => ?_)
    refine lv_if_eq (tgt := 77) hx hb dX9_hasDaysForAll_29 (by decide) (fun q => ?_) (fun q => ?_)
    · have hf := hf_t q hf
      obtain ⟨x2, ex2, hf⟩ := nme hf
      refine lv_iinc (v := x2) (lv' := [(5, .int x2), (0, .ref (ea E 5)), (1, .int l1), (2, .int l2), (3, .int l3), (4, .int l4)]) hx hb dX9_hasDaysForAll_77 hl (k := 5) rfl (ki_1 ex2) (by decide) rfl (fun ls hl => ?_)
      refine lv_goto (tgt := 11) hx hb dX9_hasDaysForAll_80 (by decide) ?_
      exact hk11 _ hf _ _ _ hw (lv_sub hl [1, 2, 3, 4, 5, 0] rfl)
    · have hf := hf_f q hf
      refine lv_iload_n hx hb dX9_hasDaysForAll_32 rfl (lv_at hl 2 rfl) ?_
      refine lv_aload_n hx hb dX9_hasDaysForAll_33 rfl (lv_at hl 0 rfl) ?_
      refine get_5_0 C hw q_317 dX9_hasDaysForAll_34 ?_
      refine get_1_4 C hw q_118 dX9_hasDaysForAll_37 ?_
      refine lv_iload hx hb dX9_hasDaysForAll_40 (lv_at hl 5 rfl) ?_
      obtain ⟨hc, hf⟩ := hf_ck hf
      refine ld_15 C hw hc dX9_hasDaysForAll_42 ?_
      obtain ⟨r3, hr, hf⟩ := hf_1 hf
      refine inv_Si (As := [.int l2, .int (gi S 15 l5.toNatClampNeg)]) lk_X9_56 C hw (t_Ma_min hr) hl.1 dX9_hasDaysForAll_43 rfl (Nat.le_of_ble_eq_true rfl) (by decide) (Nat.le_of_ble_eq_true rfl) rfl (fun H locs hw => ?_)
      refine lv_istore_n (lv' := [(2, .int r3), (0, .ref (ea E 5)), (1, .int l1), (3, .int l3), (4, .int l4), (5, .int l5)]) hx hb dX9_hasDaysForAll_46 rfl hl (by decide) rfl (fun ls hl => ?_)
      refine lv_iload_n hx hb dX9_hasDaysForAll_47 rfl (lv_at hl 3 rfl) ?_
      refine lv_aload_n hx hb dX9_hasDaysForAll_48 rfl (lv_at hl 1 rfl) ?_
      refine get_5_0 C hw q_317 dX9_hasDaysForAll_49 ?_
      refine get_1_5 C hw q_121 dX9_hasDaysForAll_52 ?_
      refine lv_iload hx hb dX9_hasDaysForAll_55 (lv_at hl 5 rfl) ?_
      obtain ⟨hc, hf⟩ := hf_ck hf
      refine ld_16 C hw hc dX9_hasDaysForAll_57 ?_
      obtain ⟨r4, hr, hf⟩ := hf_1 hf
      refine inv_Si (As := [.int l3, .int (gi S 16 l5.toNatClampNeg)]) lk_X9_65 C hw (t_Ma_max hr) hl.1 dX9_hasDaysForAll_58 rfl (Nat.le_of_ble_eq_true rfl) (by decide) (Nat.le_of_ble_eq_true rfl) rfl (fun H locs hw => ?_)
      refine lv_istore_n (lv' := [(3, .int r4), (2, .int r3), (0, .ref (ea E 5)), (1, .int l1), (4, .int l4), (5, .int l5)]) hx hb dX9_hasDaysForAll_61 rfl hl (by decide) rfl (fun ls hl => ?_)
      refine lv_iload hx hb dX9_hasDaysForAll_62 (lv_at hl 4 rfl) ?_
      refine lv_aload_n hx hb dX9_hasDaysForAll_64 rfl (lv_at hl 2 rfl) ?_
      refine get_5_0 C hw q_317 dX9_hasDaysForAll_65 ?_
      refine get_1_6 C hw q_126 dX9_hasDaysForAll_68 ?_
      refine lv_iload hx hb dX9_hasDaysForAll_71 (lv_at hl 5 rfl) ?_
      obtain ⟨hc, hf⟩ := hf_ck hf
      refine ld_17 C hw hc dX9_hasDaysForAll_73 ?_
      refine lv_iadd hx hb dX9_hasDaysForAll_74 ?_
      refine nm_i hf (fun x5 hf => ?_)
      refine lv_istore (lv' := [(4, .int x5), (3, .int r4), (2, .int r3), (0, .ref (ea E 5)), (1, .int l1), (5, .int l5)]) hx hb dX9_hasDaysForAll_75 hl (by decide) rfl (fun ls hl => ?_)
      obtain ⟨x6, ex6, hf⟩ := nme hf
      refine lv_iinc (v := x6) (lv' := [(5, .int x6), (4, .int x5), (3, .int r4), (2, .int r3), (0, .ref (ea E 5)), (1, .int l1)]) hx hb dX9_hasDaysForAll_77 hl (k := 5) rfl (ki_1 ex6) (by decide) rfl (fun ls hl => ?_)
      refine lv_goto (tgt := 11) hx hb dX9_hasDaysForAll_80 (by decide) ?_
      exact hk11 _ hf _ _ _ hw (lv_sub hl [4, 5, 3, 2, 1, 0] rfl)
theorem w_Wk_hasDaysForAll_L11 {N : Nat} {l1 : Int32} {r : Int32} (C : Cx p s m args meth c E cX9_hasDaysForAll 6 RX9 (some .boolean)) : ∀ x, Wk_hasDaysForAll_L11 N S l1 x = some r → ∀ (H : Heap) (locs : List Loc) (ls : Array Slot), Wd E (wX V E) s.heap S H locs → lv_has ls 6 [(0, .ref (ea E 5)), (1, .int l1), (2, .int x.1), (3, .int x.2.1), (4, .int x.2.2.1), (5, .int x.2.2.2)] → W p l e (rmh 2) s m args below meth c H locs 0 0 (MQ below (QW E (wX V E) (some (.int r)) S) args s 0 0 (eA E)) (F0 m 11 ls []) :=
  lp_W (fun k x hk hf H locs ls hw hl => w_Wk_hasDaysForAll_b11 C hk hw hl hf) N
set_option maxRecDepth 20000 in
theorem w_Wk_hasDaysForAll {N : Nat} {p1 : Int32} {r : Int32} (C : Cx p s m args meth c E cX9_hasDaysForAll 6 RX9 (some .boolean)) (hw : Wd E (wX V E) s.heap S H locs) (hl : lv_has ls 6 [(0, .ref (ea E 5)), (1, .int p1)]) (hf : Wk_hasDaysForAll N S p1 = some r) : W p l e (rmh 2) s m args below meth c H locs 0 0 (MQ below (QW E (wX V E) (some (.int r)) S) args s 0 0 (eA E)) (F0 m 0 ls []) := by
  have hx := C.1
  have hb := C.2.1
  unfold Wk_hasDaysForAll at hf
  refine lv_bipush (v := 100) hx hb dX9_hasDaysForAll_0 kb_100 ?_
  refine lv_istore_n (lv' := [(2, .int (100 : Int32)), (0, .ref (ea E 5)), (1, .int p1)]) hx hb dX9_hasDaysForAll_2 rfl hl (by decide) rfl (fun ls hl => ?_)
  refine lv_iconst (v := -1) hx hb dX9_hasDaysForAll_3 kc_m1 ?_
  refine lv_istore_n (lv' := [(3, .int (-1 : Int32)), (2, .int (100 : Int32)), (0, .ref (ea E 5)), (1, .int p1)]) hx hb dX9_hasDaysForAll_4 rfl hl (by decide) rfl (fun ls hl => ?_)
  refine lv_iconst (v := 0) hx hb dX9_hasDaysForAll_5 kc_0 ?_
  refine lv_istore (lv' := [(4, .int (0 : Int32)), (3, .int (-1 : Int32)), (2, .int (100 : Int32)), (0, .ref (ea E 5)), (1, .int p1)]) hx hb dX9_hasDaysForAll_6 hl (by decide) rfl (fun ls hl => ?_)
  refine lv_iconst (v := 0) hx hb dX9_hasDaysForAll_8 kc_0 ?_
  refine lv_istore (lv' := [(5, .int (0 : Int32)), (4, .int (0 : Int32)), (3, .int (-1 : Int32)), (2, .int (100 : Int32)), (0, .ref (ea E 5)), (1, .int p1)]) hx hb dX9_hasDaysForAll_9 hl (by decide) rfl (fun ls hl => ?_)
  exact w_Wk_hasDaysForAll_L11 C _ hf _ _ _ hw (lv_sub hl [4, 5, 3, 2, 1, 0] rfl)
end
theorem t_Wk_hasDaysForAll {l : Launch} {V : St} {N : Nat} {S : St} {p1 : Int32} {r : Int32} (hf : Wk_hasDaysForAll N S p1 = some r) : Ct l (wX V) yX9_hasDaysForAll cX9_hasDaysForAll 6 (some .boolean) 2 (fun E => [.ref (ea E 5), .int p1]) S (fun E => some (.int r)) S :=
  ofBlock (by decide +kernel) (fun _ => Nat.le_of_ble_eq_true rfl) (fun E p e s m args below meth c ls C hw hl => w_Wk_hasDaysForAll C hw hl hf)
theorem dX9_eachLessOneFits_0 : decode cX9_eachLessOneFits 0 = .ok (.iconst 0, 1) := by decide +kernel
theorem dX9_eachLessOneFits_1 : decode cX9_eachLessOneFits 1 = .ok (.istore_n 2, 1) := by decide +kernel
theorem dX9_eachLessOneFits_2 : decode cX9_eachLessOneFits 2 = .ok (.iload_n 2, 1) := by decide +kernel
theorem dX9_eachLessOneFits_3 : decode cX9_eachLessOneFits 3 = .ok (.aload_n 0, 1) := by decide +kernel
theorem dX9_eachLessOneFits_4 : decode cX9_eachLessOneFits 4 = .ok (.getfield 15, 3) := by decide +kernel
theorem dX9_eachLessOneFits_7 : decode cX9_eachLessOneFits 7 = .ok (.getfield 43, 3) := by decide +kernel
theorem dX9_eachLessOneFits_10 : decode cX9_eachLessOneFits 10 = .ok (.if_icmp .ge 32, 3) := by decide +kernel
theorem dX9_eachLessOneFits_13 : decode cX9_eachLessOneFits 13 = .ok (.iload_n 1, 1) := by decide +kernel
theorem dX9_eachLessOneFits_14 : decode cX9_eachLessOneFits 14 = .ok (.iload_n 2, 1) := by decide +kernel
theorem dX9_eachLessOneFits_15 : decode cX9_eachLessOneFits 15 = .ok (.invokestatic 49, 3) := by decide +kernel
theorem dX9_eachLessOneFits_18 : decode cX9_eachLessOneFits 18 = .ok (.ifCond .eq 18, 3) := by decide +kernel
theorem dX9_eachLessOneFits_21 : decode cX9_eachLessOneFits 21 = .ok (.aload_n 0, 1) := by decide +kernel
theorem dX9_eachLessOneFits_22 : decode cX9_eachLessOneFits 22 = .ok (.getfield 9, 3) := by decide +kernel
theorem dX9_eachLessOneFits_25 : decode cX9_eachLessOneFits 25 = .ok (.iload_n 1, 1) := by decide +kernel
theorem dX9_eachLessOneFits_26 : decode cX9_eachLessOneFits 26 = .ok (.iconst 1, 1) := by decide +kernel
theorem dX9_eachLessOneFits_27 : decode cX9_eachLessOneFits 27 = .ok (.iload_n 2, 1) := by decide +kernel
theorem dX9_eachLessOneFits_28 : decode cX9_eachLessOneFits 28 = .ok (.ishl, 1) := by decide +kernel
theorem dX9_eachLessOneFits_29 : decode cX9_eachLessOneFits 29 = .ok (.ixor, 1) := by decide +kernel
theorem dX9_eachLessOneFits_30 : decode cX9_eachLessOneFits 30 = .ok (.baload, 1) := by decide +kernel
theorem dX9_eachLessOneFits_31 : decode cX9_eachLessOneFits 31 = .ok (.ifCond .ne 5, 3) := by decide +kernel
theorem dX9_eachLessOneFits_34 : decode cX9_eachLessOneFits 34 = .ok (.iconst 0, 1) := by decide +kernel
theorem dX9_eachLessOneFits_35 : decode cX9_eachLessOneFits 35 = .ok (.ireturn, 1) := by decide +kernel
theorem dX9_eachLessOneFits_36 : decode cX9_eachLessOneFits 36 = .ok (.iinc 2 1, 3) := by decide +kernel
theorem dX9_eachLessOneFits_39 : decode cX9_eachLessOneFits 39 = .ok (.goto (-37), 3) := by decide +kernel
theorem dX9_eachLessOneFits_42 : decode cX9_eachLessOneFits 42 = .ok (.iconst 1, 1) := by decide +kernel
theorem dX9_eachLessOneFits_43 : decode cX9_eachLessOneFits 43 = .ok (.ireturn, 1) := by decide +kernel
def Wk_eachLessOneFits_b2 (N : Nat) (k2 : (Int32) → Option Int32) (S : St) (l1 : Int32) (l2 : Int32) : Option Int32 :=
  if (gi S 1 10) ≤ l2 then
    some (1 : Int32)
  else
    bd1 (Ch_isIn S l1 l2) fun r1 =>
    if r1 = 0 then
      nm (l2 + (1)) fun x2 =>
      k2 (x2)
    else
      ck (inb (l1 ^^^ ((1 : Int32) <<< (l2 &&& 31))) 1024) <|
      if (gi S 28 (l1 ^^^ ((1 : Int32) <<< (l2 &&& 31))).toNatClampNeg) = 0 then
        some (0 : Int32)
      else
        nm (l2 + (1)) fun x3 =>
        k2 (x3)
def Wk_eachLessOneFits_L2 (N : Nat) (S : St) (l1 : Int32) : (Int32) → Option Int32 :=
  lp (fun k x => Wk_eachLessOneFits_b2 N k S l1 x) N
def Wk_eachLessOneFits (N : Nat) (S : St) (p1 : Int32) : Option Int32 :=
  Wk_eachLessOneFits_L2 N S p1 ((0 : Int32))
section
variable {p : Program} {l : Launch} {e : Env} {s : State} {m : MethodId} {args : Array Value} {below : List Frame} {meth : Method} {c : Code} {H : Heap} {locs : List Loc} {E : Ev} {S V : St} {ls : Array Slot}
set_option maxRecDepth 20000 in
theorem w_Wk_eachLessOneFits_b2 {N : Nat} {k2 : (Int32) → Option Int32} {l1 : Int32} {l2 : Int32} {r : Int32} (C : Cx p s m args meth c E cX9_eachLessOneFits 3 RX9 (some .boolean)) (hk2 : ∀ x, k2 x = some r → ∀ (H : Heap) (locs : List Loc) (ls : Array Slot), Wd E (wX V E) s.heap S H locs → lv_has ls 3 [(0, .ref (ea E 5)), (1, .int l1), (2, .int x)] → W p l e (rmh 2) s m args below meth c H locs 0 0 (MQ below (QW E (wX V E) (some (.int r)) S) args s 0 0 (eA E)) (F0 m 2 ls [])) (hw : Wd E (wX V E) s.heap S H locs) (hl : lv_has ls 3 [(0, .ref (ea E 5)), (1, .int l1), (2, .int l2)]) (hf : Wk_eachLessOneFits_b2 N k2 S l1 l2 = some r) : W p l e (rmh 2) s m args below meth c H locs 0 0 (MQ below (QW E (wX V E) (some (.int r)) S) args s 0 0 (eA E)) (F0 m 2 ls []) := by
  have hx := C.1
  have hb := C.2.1
  unfold Wk_eachLessOneFits_b2 at hf
  refine lv_iload_n hx hb dX9_eachLessOneFits_2 rfl (lv_at hl 2 rfl) ?_
  refine lv_aload_n hx hb dX9_eachLessOneFits_3 rfl (lv_at hl 0 rfl) ?_
  refine get_5_0 C hw q_317 dX9_eachLessOneFits_4 ?_
  refine get_1_10 C hw q_140 dX9_eachLessOneFits_7 ?_
  refine lv_icmp_ge (tgt := 42) hx hb dX9_eachLessOneFits_10 (by decide) (fun q => ?_) (fun q => ?_)
  · have hf := hf_t q hf
    refine lv_iconst (v := 1) hx hb dX9_eachLessOneFits_42 kc_1 ?_
    exact ret_z rfl C hw dX9_eachLessOneFits_43 hf
  · have hf := hf_f q hf
    refine lv_iload_n hx hb dX9_eachLessOneFits_13 rfl (lv_at hl 1 rfl) ?_
    refine lv_iload_n hx hb dX9_eachLessOneFits_14 rfl (lv_at hl 2 rfl) ?_
    obtain ⟨r1, hr, hf⟩ := hf_1 hf
    refine inv_Ni (As := [.int l1, .int l2]) lk_X9_49 C hw (t_Ch_isIn hr) hl.1 dX9_eachLessOneFits_15 rfl (Nat.le_of_ble_eq_true rfl) (by decide) (Nat.le_of_ble_eq_true rfl) rfl (fun H locs hw => ?_)
    refine lv_if_eq (tgt := 36) hx hb dX9_eachLessOneFits_18 (by decide) (fun q => ?_) (fun q => ?_)
    · have hf := hf_t q hf
      obtain ⟨x2, ex2, hf⟩ := nme hf
      refine lv_iinc (v := x2) (lv' := [(2, .int x2), (0, .ref (ea E 5)), (1, .int l1)]) hx hb dX9_eachLessOneFits_36 hl (k := 2) rfl (ki_1 ex2) (by decide) rfl (fun ls hl => ?_)
      refine lv_goto (tgt := 2) hx hb dX9_eachLessOneFits_39 (by decide) ?_
      exact hk2 _ hf _ _ _ hw (lv_sub hl [1, 2, 0] rfl)
    · have hf := hf_f q hf
      refine lv_aload_n hx hb dX9_eachLessOneFits_21 rfl (lv_at hl 0 rfl) ?_
      refine get_5_1 C hw q_318 dX9_eachLessOneFits_22 ?_
      refine lv_iload_n hx hb dX9_eachLessOneFits_25 rfl (lv_at hl 1 rfl) ?_
      refine lv_iconst (v := 1) hx hb dX9_eachLessOneFits_26 kc_1 ?_
      refine lv_iload_n hx hb dX9_eachLessOneFits_27 rfl (lv_at hl 2 rfl) ?_
      refine lv_ishl hx hb dX9_eachLessOneFits_28 ?_
      refine lv_ixor hx hb dX9_eachLessOneFits_29 ?_
      obtain ⟨hc, hf⟩ := hf_ck hf
      refine ld_28 C hw hc dX9_eachLessOneFits_30 ?_
      refine lv_if_ne (tgt := 36) hx hb dX9_eachLessOneFits_31 (by decide) (fun q => ?_) (fun q => ?_)
      · have hf := hf_f q hf
        obtain ⟨x3, ex3, hf⟩ := nme hf
        refine lv_iinc (v := x3) (lv' := [(2, .int x3), (0, .ref (ea E 5)), (1, .int l1)]) hx hb dX9_eachLessOneFits_36 hl (k := 2) rfl (ki_1 ex3) (by decide) rfl (fun ls hl => ?_)
        refine lv_goto (tgt := 2) hx hb dX9_eachLessOneFits_39 (by decide) ?_
        exact hk2 _ hf _ _ _ hw (lv_sub hl [1, 2, 0] rfl)
      · have hf := hf_t q hf
        refine lv_iconst (v := 0) hx hb dX9_eachLessOneFits_34 kc_0 ?_
        exact ret_z rfl C hw dX9_eachLessOneFits_35 hf
theorem w_Wk_eachLessOneFits_L2 {N : Nat} {l1 : Int32} {r : Int32} (C : Cx p s m args meth c E cX9_eachLessOneFits 3 RX9 (some .boolean)) : ∀ x, Wk_eachLessOneFits_L2 N S l1 x = some r → ∀ (H : Heap) (locs : List Loc) (ls : Array Slot), Wd E (wX V E) s.heap S H locs → lv_has ls 3 [(0, .ref (ea E 5)), (1, .int l1), (2, .int x)] → W p l e (rmh 2) s m args below meth c H locs 0 0 (MQ below (QW E (wX V E) (some (.int r)) S) args s 0 0 (eA E)) (F0 m 2 ls []) :=
  lp_W (fun k x hk hf H locs ls hw hl => w_Wk_eachLessOneFits_b2 C hk hw hl hf) N
set_option maxRecDepth 20000 in
theorem w_Wk_eachLessOneFits {N : Nat} {p1 : Int32} {r : Int32} (C : Cx p s m args meth c E cX9_eachLessOneFits 3 RX9 (some .boolean)) (hw : Wd E (wX V E) s.heap S H locs) (hl : lv_has ls 3 [(0, .ref (ea E 5)), (1, .int p1)]) (hf : Wk_eachLessOneFits N S p1 = some r) : W p l e (rmh 2) s m args below meth c H locs 0 0 (MQ below (QW E (wX V E) (some (.int r)) S) args s 0 0 (eA E)) (F0 m 0 ls []) := by
  have hx := C.1
  have hb := C.2.1
  unfold Wk_eachLessOneFits at hf
  refine lv_iconst (v := 0) hx hb dX9_eachLessOneFits_0 kc_0 ?_
  refine lv_istore_n (lv' := [(2, .int (0 : Int32)), (0, .ref (ea E 5)), (1, .int p1)]) hx hb dX9_eachLessOneFits_1 rfl hl (by decide) rfl (fun ls hl => ?_)
  exact w_Wk_eachLessOneFits_L2 C _ hf _ _ _ hw (lv_sub hl [1, 2, 0] rfl)
end
theorem t_Wk_eachLessOneFits {l : Launch} {V : St} {N : Nat} {S : St} {p1 : Int32} {r : Int32} (hf : Wk_eachLessOneFits N S p1 = some r) : Ct l (wX V) yX9_eachLessOneFits cX9_eachLessOneFits 3 (some .boolean) 2 (fun E => [.ref (ea E 5), .int p1]) S (fun E => some (.int r)) S :=
  ofBlock (by decide +kernel) (fun _ => Nat.le_of_ble_eq_true rfl) (fun E p e s m args below meth c ls C hw hl => w_Wk_eachLessOneFits C hw hl hf)
theorem dX9_fillFits_0 : decode cX9_fillFits 0 = .ok (.iconst 0, 1) := by decide +kernel
theorem dX9_fillFits_1 : decode cX9_fillFits 1 = .ok (.istore_n 2, 1) := by decide +kernel
theorem dX9_fillFits_2 : decode cX9_fillFits 2 = .ok (.iload_n 2, 1) := by decide +kernel
theorem dX9_fillFits_3 : decode cX9_fillFits 3 = .ok (.iload_n 1, 1) := by decide +kernel
theorem dX9_fillFits_4 : decode cX9_fillFits 4 = .ok (.if_icmp .gt 52, 3) := by decide +kernel
theorem dX9_fillFits_7 : decode cX9_fillFits 7 = .ok (.aload_n 0, 1) := by decide +kernel
theorem dX9_fillFits_8 : decode cX9_fillFits 8 = .ok (.iload_n 2, 1) := by decide +kernel
theorem dX9_fillFits_9 : decode cX9_fillFits 9 = .ok (.invokevirtual 23, 3) := by decide +kernel
theorem dX9_fillFits_12 : decode cX9_fillFits 12 = .ok (.ifCond .eq 44, 3) := by decide +kernel
theorem dX9_fillFits_15 : decode cX9_fillFits 15 = .ok (.iload_n 2, 1) := by decide +kernel
theorem dX9_fillFits_16 : decode cX9_fillFits 16 = .ok (.iload_n 1, 1) := by decide +kernel
theorem dX9_fillFits_17 : decode cX9_fillFits 17 = .ok (.iconst (-1), 1) := by decide +kernel
theorem dX9_fillFits_18 : decode cX9_fillFits 18 = .ok (.ixor, 1) := by decide +kernel
theorem dX9_fillFits_19 : decode cX9_fillFits 19 = .ok (.iand, 1) := by decide +kernel
theorem dX9_fillFits_20 : decode cX9_fillFits 20 = .ok (.ifCond .ne 30, 3) := by decide +kernel
theorem dX9_fillFits_23 : decode cX9_fillFits 23 = .ok (.aload_n 0, 1) := by decide +kernel
theorem dX9_fillFits_24 : decode cX9_fillFits 24 = .ok (.getfield 9, 3) := by decide +kernel
theorem dX9_fillFits_27 : decode cX9_fillFits 27 = .ok (.iload_n 2, 1) := by decide +kernel
theorem dX9_fillFits_28 : decode cX9_fillFits 28 = .ok (.aload_n 0, 1) := by decide +kernel
theorem dX9_fillFits_29 : decode cX9_fillFits 29 = .ok (.iload_n 2, 1) := by decide +kernel
theorem dX9_fillFits_30 : decode cX9_fillFits 30 = .ok (.invokevirtual 37, 3) := by decide +kernel
theorem dX9_fillFits_33 : decode cX9_fillFits 33 = .ok (.ifCond .eq 15, 3) := by decide +kernel
theorem dX9_fillFits_36 : decode cX9_fillFits 36 = .ok (.aload_n 0, 1) := by decide +kernel
theorem dX9_fillFits_37 : decode cX9_fillFits 37 = .ok (.iload_n 2, 1) := by decide +kernel
theorem dX9_fillFits_38 : decode cX9_fillFits 38 = .ok (.invokevirtual 40, 3) := by decide +kernel
theorem dX9_fillFits_41 : decode cX9_fillFits 41 = .ok (.ifCond .eq 7, 3) := by decide +kernel
theorem dX9_fillFits_44 : decode cX9_fillFits 44 = .ok (.iconst 1, 1) := by decide +kernel
theorem dX9_fillFits_45 : decode cX9_fillFits 45 = .ok (.goto 4, 3) := by decide +kernel
theorem dX9_fillFits_48 : decode cX9_fillFits 48 = .ok (.iconst 0, 1) := by decide +kernel
theorem dX9_fillFits_49 : decode cX9_fillFits 49 = .ok (.bastore, 1) := by decide +kernel
theorem dX9_fillFits_50 : decode cX9_fillFits 50 = .ok (.iinc 2 1, 3) := by decide +kernel
theorem dX9_fillFits_53 : decode cX9_fillFits 53 = .ok (.goto (-51), 3) := by decide +kernel
theorem dX9_fillFits_56 : decode cX9_fillFits 56 = .ok (.return_, 1) := by decide +kernel
def Wk_fillFits_b2 (N : Nat) (k2 : (St × Int32) → Option St) (S : St) (l1 : Int32) (l2 : Int32) : Option St :=
  if l1 < l2 then
    some S
  else
    bd1 (Wk_isSet S l2) fun r1 =>
    if r1 = 0 then
      some S
    else
      if (l2 &&& (l1 ^^^ (-1 : Int32))) = 0 then
        bd1 (Wk_eachLessOneFits N S l2) fun r3 =>
        if r3 = 0 then
          ck (inb l2 1024) <|
          nm (si S 28 l2.toNatClampNeg (0 : Int32)) fun S4 =>
          nm (l2 + (1)) fun x5 =>
          k2 (S4, x5)
        else
          bd1 (Wk_hasDaysForAll N S l2) fun r6 =>
          if r6 = 0 then
            ck (inb l2 1024) <|
            nm (si S 28 l2.toNatClampNeg (0 : Int32)) fun S7 =>
            nm (l2 + (1)) fun x8 =>
            k2 (S7, x8)
          else
            ck (inb l2 1024) <|
            nm (si S 28 l2.toNatClampNeg (1 : Int32)) fun S9 =>
            nm (l2 + (1)) fun x10 =>
            k2 (S9, x10)
      else
        nm (l2 + (1)) fun x2 =>
        k2 (S, x2)
def Wk_fillFits_L2 (N : Nat) (l1 : Int32) : (St × Int32) → Option St :=
  lp (fun k x => Wk_fillFits_b2 N k x.1 l1 x.2) N
def Wk_fillFits (N : Nat) (S : St) (p1 : Int32) : Option St :=
  Wk_fillFits_L2 N p1 (S, (0 : Int32))
section
variable {p : Program} {l : Launch} {e : Env} {s : State} {m : MethodId} {args : Array Value} {below : List Frame} {meth : Method} {c : Code} {H : Heap} {locs : List Loc} {E : Ev} {S V : St} {ls : Array Slot}
set_option maxRecDepth 20000 in
theorem w_Wk_fillFits_b2 {N : Nat} {k2 : (St × Int32) → Option St} {l1 : Int32} {l2 : Int32} {S9 : St} (C : Cx p s m args meth c E cX9_fillFits 3 RX9 none) (hk2 : ∀ x, k2 x = some S9 → ∀ (H : Heap) (locs : List Loc) (ls : Array Slot), Wd E (wX V E) s.heap x.1 H locs → lv_has ls 3 [(0, .ref (ea E 5)), (1, .int l1), (2, .int x.2)] → W p l e (rmh 3) s m args below meth c H locs 0 0 (MQ below (QW E (wX V E) (none) S9) args s 0 0 (eA E)) (F0 m 2 ls [])) (hw : Wd E (wX V E) s.heap S H locs) (hl : lv_has ls 3 [(0, .ref (ea E 5)), (1, .int l1), (2, .int l2)]) (hf : Wk_fillFits_b2 N k2 S l1 l2 = some S9) : W p l e (rmh 3) s m args below meth c H locs 0 0 (MQ below (QW E (wX V E) (none) S9) args s 0 0 (eA E)) (F0 m 2 ls []) := by
  have hx := C.1
  have hb := C.2.1
  unfold Wk_fillFits_b2 at hf
  refine lv_iload_n hx hb dX9_fillFits_2 rfl (lv_at hl 2 rfl) ?_
  refine lv_iload_n hx hb dX9_fillFits_3 rfl (lv_at hl 1 rfl) ?_
  refine lv_icmp_gt (tgt := 56) hx hb dX9_fillFits_4 (by decide) (fun q => ?_) (fun q => ?_)
  · have hf := hf_t q hf
    exact ret_vS C hw dX9_fillFits_56 hf
  · have hf := hf_f q hf
    refine lv_aload_n hx hb dX9_fillFits_7 rfl (lv_at hl 0 rfl) ?_
    refine lv_iload_n hx hb dX9_fillFits_8 rfl (lv_at hl 2 rfl) ?_
    obtain ⟨r1, hr, hf⟩ := hf_1 hf
    refine inv_Vi (q0 := 5) (ci := 9) (As := [.int l2]) lk_X9_23 C hw rfl rfl rfl (t_Wk_isSet hr) rfl hl.1 dX9_fillFits_9 rfl (Nat.le_of_ble_eq_true rfl) (by decide) (Nat.le_of_ble_eq_true rfl) rfl (fun H locs hw => ?_)
    refine lv_if_eq (tgt := 56) hx hb dX9_fillFits_12 (by decide) (fun q => ?_) (fun q => ?_)
    · have hf := hf_t q hf
      exact ret_vS C hw dX9_fillFits_56 hf
    · have hf := hf_f q hf
      refine lv_iload_n hx hb dX9_fillFits_15 rfl (lv_at hl 2 rfl) ?_
      refine lv_iload_n hx hb dX9_fillFits_16 rfl (lv_at hl 1 rfl) ?_
      refine lv_iconst (v := -1) hx hb dX9_fillFits_17 kc_m1 ?_
      refine lv_ixor hx hb dX9_fillFits_18 ?_
      refine lv_iand hx hb dX9_fillFits_19 ?_
      refine lv_if_ne (tgt := 50) hx hb dX9_fillFits_20 (by decide) (fun q => ?_) (fun q => ?_)
      · have hf := hf_f q hf
        obtain ⟨x2, ex2, hf⟩ := nme hf
        refine lv_iinc (v := x2) (lv' := [(2, .int x2), (0, .ref (ea E 5)), (1, .int l1)]) hx hb dX9_fillFits_50 hl (k := 2) rfl (ki_1 ex2) (by decide) rfl (fun ls hl => ?_)
        refine lv_goto (tgt := 2) hx hb dX9_fillFits_53 (by decide) ?_
        exact hk2 _ hf _ _ _ hw (lv_sub hl [1, 2, 0] rfl)
      · have hf := hf_t q hf
        refine lv_aload_n hx hb dX9_fillFits_23 rfl (lv_at hl 0 rfl) ?_
        refine get_5_1 C hw q_318 dX9_fillFits_24 ?_
        refine lv_iload_n hx hb dX9_fillFits_27 rfl (lv_at hl 2 rfl) ?_
        refine lv_aload_n hx hb dX9_fillFits_28 rfl (lv_at hl 0 rfl) ?_
        refine lv_iload_n hx hb dX9_fillFits_29 rfl (lv_at hl 2 rfl) ?_
        obtain ⟨r3, hr, hf⟩ := hf_1 hf
        refine inv_Vi (q0 := 5) (ci := 9) (As := [.int l2]) lk_X9_37 C hw rfl rfl rfl (t_Wk_eachLessOneFits hr) rfl hl.1 dX9_fillFits_30 rfl (Nat.le_of_ble_eq_true rfl) (by decide) (Nat.le_of_ble_eq_true rfl) rfl (fun H locs hw => ?_)
        refine lv_if_eq (tgt := 48) hx hb dX9_fillFits_33 (by decide) (fun q => ?_) (fun q => ?_)
        · have hf := hf_t q hf
          refine lv_iconst (v := 0) hx hb dX9_fillFits_48 kc_0 ?_
          obtain ⟨hc, hf⟩ := hf_ck hf
          refine st_28 C hw hc (by decide) dX9_fillFits_49 (fun H locs hw => ?_)
          refine nm_S hf hw (fun S4 hf hw => ?_)
          obtain ⟨x5, ex5, hf⟩ := nme hf
          refine lv_iinc (v := x5) (lv' := [(2, .int x5), (0, .ref (ea E 5)), (1, .int l1)]) hx hb dX9_fillFits_50 hl (k := 2) rfl (ki_1 ex5) (by decide) rfl (fun ls hl => ?_)
          refine lv_goto (tgt := 2) hx hb dX9_fillFits_53 (by decide) ?_
          exact hk2 _ hf _ _ _ hw (lv_sub hl [1, 2, 0] rfl)
        · have hf := hf_f q hf
          refine lv_aload_n hx hb dX9_fillFits_36 rfl (lv_at hl 0 rfl) ?_
          refine lv_iload_n hx hb dX9_fillFits_37 rfl (lv_at hl 2 rfl) ?_
          obtain ⟨r6, hr, hf⟩ := hf_1 hf
          refine inv_Vi (q0 := 5) (ci := 9) (As := [.int l2]) lk_X9_40 C hw rfl rfl rfl (t_Wk_hasDaysForAll hr) rfl hl.1 dX9_fillFits_38 rfl (Nat.le_of_ble_eq_true rfl) (by decide) (Nat.le_of_ble_eq_true rfl) rfl (fun H locs hw => ?_)
          refine lv_if_eq (tgt := 48) hx hb dX9_fillFits_41 (by decide) (fun q => ?_) (fun q => ?_)
          · have hf := hf_t q hf
            refine lv_iconst (v := 0) hx hb dX9_fillFits_48 kc_0 ?_
            obtain ⟨hc, hf⟩ := hf_ck hf
            refine st_28 C hw hc (by decide) dX9_fillFits_49 (fun H locs hw => ?_)
            refine nm_S hf hw (fun S7 hf hw => ?_)
            obtain ⟨x8, ex8, hf⟩ := nme hf
            refine lv_iinc (v := x8) (lv' := [(2, .int x8), (0, .ref (ea E 5)), (1, .int l1)]) hx hb dX9_fillFits_50 hl (k := 2) rfl (ki_1 ex8) (by decide) rfl (fun ls hl => ?_)
            refine lv_goto (tgt := 2) hx hb dX9_fillFits_53 (by decide) ?_
            exact hk2 _ hf _ _ _ hw (lv_sub hl [1, 2, 0] rfl)
          · have hf := hf_f q hf
            refine lv_iconst (v := 1) hx hb dX9_fillFits_44 kc_1 ?_
            refine lv_goto (tgt := 49) hx hb dX9_fillFits_45 (by decide) ?_
            obtain ⟨hc, hf⟩ := hf_ck hf
            refine st_28 C hw hc (by decide) dX9_fillFits_49 (fun H locs hw => ?_)
            refine nm_S hf hw (fun S9 hf hw => ?_)
            obtain ⟨x10, ex10, hf⟩ := nme hf
            refine lv_iinc (v := x10) (lv' := [(2, .int x10), (0, .ref (ea E 5)), (1, .int l1)]) hx hb dX9_fillFits_50 hl (k := 2) rfl (ki_1 ex10) (by decide) rfl (fun ls hl => ?_)
            refine lv_goto (tgt := 2) hx hb dX9_fillFits_53 (by decide) ?_
            exact hk2 _ hf _ _ _ hw (lv_sub hl [1, 2, 0] rfl)
theorem w_Wk_fillFits_L2 {N : Nat} {l1 : Int32} {S9 : St} (C : Cx p s m args meth c E cX9_fillFits 3 RX9 none) : ∀ x, Wk_fillFits_L2 N l1 x = some S9 → ∀ (H : Heap) (locs : List Loc) (ls : Array Slot), Wd E (wX V E) s.heap x.1 H locs → lv_has ls 3 [(0, .ref (ea E 5)), (1, .int l1), (2, .int x.2)] → W p l e (rmh 3) s m args below meth c H locs 0 0 (MQ below (QW E (wX V E) (none) S9) args s 0 0 (eA E)) (F0 m 2 ls []) :=
  lp_W (fun k x hk hf H locs ls hw hl => w_Wk_fillFits_b2 C hk hw hl hf) N
set_option maxRecDepth 20000 in
theorem w_Wk_fillFits {N : Nat} {p1 : Int32} {S9 : St} (C : Cx p s m args meth c E cX9_fillFits 3 RX9 none) (hw : Wd E (wX V E) s.heap S H locs) (hl : lv_has ls 3 [(0, .ref (ea E 5)), (1, .int p1)]) (hf : Wk_fillFits N S p1 = some S9) : W p l e (rmh 3) s m args below meth c H locs 0 0 (MQ below (QW E (wX V E) (none) S9) args s 0 0 (eA E)) (F0 m 0 ls []) := by
  have hx := C.1
  have hb := C.2.1
  unfold Wk_fillFits at hf
  refine lv_iconst (v := 0) hx hb dX9_fillFits_0 kc_0 ?_
  refine lv_istore_n (lv' := [(2, .int (0 : Int32)), (0, .ref (ea E 5)), (1, .int p1)]) hx hb dX9_fillFits_1 rfl hl (by decide) rfl (fun ls hl => ?_)
  exact w_Wk_fillFits_L2 C _ hf _ _ _ hw (lv_sub hl [1, 2, 0] rfl)
end
theorem t_Wk_fillFits {l : Launch} {V : St} {N : Nat} {S : St} {p1 : Int32} {S9 : St} (hf : Wk_fillFits N S p1 = some S9) : Ct l (wX V) yX9_fillFits cX9_fillFits 3 none 3 (fun E => [.ref (ea E 5), .int p1]) S (fun E => none) S9 :=
  ofBlock (by decide +kernel) (fun _ => Nat.le_of_ble_eq_true rfl) (fun E p e s m args below meth c ls C hw hl => w_Wk_fillFits C hw hl hf)
