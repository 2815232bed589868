theorem dX9_canAll_0 : decode cX9_canAll 0 = .ok (.aload_n 0, 1) := by decide +kernel
theorem dX9_canAll_1 : decode cX9_canAll 1 = .ok (.iload_n 1, 1) := by decide +kernel
theorem dX9_canAll_2 : decode cX9_canAll 2 = .ok (.invokevirtual 19, 3) := by decide +kernel
theorem dX9_canAll_5 : decode cX9_canAll 5 = .ok (.aload_n 0, 1) := by decide +kernel
theorem dX9_canAll_6 : decode cX9_canAll 6 = .ok (.iload_n 1, 1) := by decide +kernel
theorem dX9_canAll_7 : decode cX9_canAll 7 = .ok (.invokevirtual 23, 3) := by decide +kernel
theorem dX9_canAll_10 : decode cX9_canAll 10 = .ok (.ifCond .eq 16, 3) := by decide +kernel
theorem dX9_canAll_13 : decode cX9_canAll 13 = .ok (.aload_n 0, 1) := by decide +kernel
theorem dX9_canAll_14 : decode cX9_canAll 14 = .ok (.getfield 9, 3) := by decide +kernel
theorem dX9_canAll_17 : decode cX9_canAll 17 = .ok (.iload_n 1, 1) := by decide +kernel
theorem dX9_canAll_18 : decode cX9_canAll 18 = .ok (.baload, 1) := by decide +kernel
theorem dX9_canAll_19 : decode cX9_canAll 19 = .ok (.ifCond .eq 7, 3) := by decide +kernel
theorem dX9_canAll_22 : decode cX9_canAll 22 = .ok (.iconst 1, 1) := by decide +kernel
theorem dX9_canAll_23 : decode cX9_canAll 23 = .ok (.goto 4, 3) := by decide +kernel
theorem dX9_canAll_26 : decode cX9_canAll 26 = .ok (.iconst 0, 1) := by decide +kernel
theorem dX9_canAll_27 : decode cX9_canAll 27 = .ok (.ireturn, 1) := by decide +kernel
def Wk_canAll (N : Nat) (S : St) (p1 : Int32) : Option (Int32 × St) :=
  bd1 (Wk_fillFits N S p1) fun S1 =>
  bd1 (Wk_isSet S1 p1) fun r2 =>
  if r2 = 0 then
    some ((0 : Int32), S1)
  else
    ck (inb p1 1024) <|
    if (gi S1 28 p1.toNatClampNeg) = 0 then
      some ((0 : Int32), S1)
    else
      some ((1 : Int32), S1)
section
variable {p : Program} {l : Launch} {e : Env} {s : State} {m : MethodId} {args : Array Value} {below : List Frame} {meth : Method} {c : Code} {H : Heap} {locs : List Loc} {E : Ev} {S V : St} {ls : Array Slot}
set_option maxRecDepth 20000 in
theorem w_Wk_canAll {N : Nat} {p1 : Int32} {r : Int32} {S9 : St} (C : Cx p s m args meth c E cX9_canAll 2 RX9 (some .boolean)) (hw : Wd E (wX V E) s.heap S H locs) (hl : lv_has ls 2 [(0, .ref (ea E 5)), (1, .int p1)]) (hf : Wk_canAll N S p1 = some (r, S9)) : W p l e (rmh 4) s m args below meth c H locs 0 0 (MQ below (QW E (wX V E) (some (.int r)) S9) args s 0 0 (eA E)) (F0 m 0 ls []) := by
  have hx := C.1
  have hb := C.2.1
  unfold Wk_canAll at hf
  refine lv_aload_n hx hb dX9_canAll_0 rfl (lv_at hl 0 rfl) ?_
  refine lv_iload_n hx hb dX9_canAll_1 rfl (lv_at hl 1 rfl) ?_
  obtain ⟨S1, hr, hf⟩ := hf_1 hf
  refine inv_Vv (q0 := 5) (ci := 9) (As := [.int p1]) lk_X9_19 C hw rfl rfl rfl (t_Wk_fillFits hr) rfl hl.1 dX9_canAll_2 rfl (Nat.le_of_ble_eq_true rfl) (by decide) (Nat.le_of_ble_eq_true rfl) rfl (fun H locs hw => ?_)
  refine lv_aload_n hx hb dX9_canAll_5 rfl (lv_at hl 0 rfl) ?_
  refine lv_iload_n hx hb dX9_canAll_6 rfl (lv_at hl 1 rfl) ?_
  obtain ⟨r2, hr, hf⟩ := hf_1 hf
  refine inv_Vi (q0 := 5) (ci := 9) (As := [.int p1]) lk_X9_23 C hw rfl rfl rfl (t_Wk_isSet hr) rfl hl.1 dX9_canAll_7 rfl (Nat.le_of_ble_eq_true rfl) (by decide) (Nat.le_of_ble_eq_true rfl) rfl (fun H locs hw => ?_)
  refine lv_if_eq (tgt := 26) hx hb dX9_canAll_10 (by decide) (fun q => ?_) (fun q => ?_)
  · have hf := hf_t q hf
    refine lv_iconst (v := 0) hx hb dX9_canAll_26 kc_0 ?_
    exact ret_zS rfl C hw dX9_canAll_27 hf
  · have hf := hf_f q hf
    refine lv_aload_n hx hb dX9_canAll_13 rfl (lv_at hl 0 rfl) ?_
    refine get_5_1 C hw q_318 dX9_canAll_14 ?_
    refine lv_iload_n hx hb dX9_canAll_17 rfl (lv_at hl 1 rfl) ?_
    obtain ⟨hc, hf⟩ := hf_ck hf
    refine ld_28 C hw hc dX9_canAll_18 ?_
    refine lv_if_eq (tgt := 26) hx hb dX9_canAll_19 (by decide) (fun q => ?_) (fun q => ?_)
    · have hf := hf_t q hf
      refine lv_iconst (v := 0) hx hb dX9_canAll_26 kc_0 ?_
      exact ret_zS rfl C hw dX9_canAll_27 hf
    · have hf := hf_f q hf
      refine lv_iconst (v := 1) hx hb dX9_canAll_22 kc_1 ?_
      refine lv_goto (tgt := 27) hx hb dX9_canAll_23 (by decide) ?_
      exact ret_zS rfl C hw dX9_canAll_27 hf
end
theorem t_Wk_canAll {l : Launch} {V : St} {N : Nat} {S : St} {p1 : Int32} {r : Int32} {S9 : St} (hf : Wk_canAll N S p1 = some (r, S9)) : Ct l (wX V) yX9_canAll cX9_canAll 2 (some .boolean) 4 (fun E => [.ref (ea E 5), .int p1]) S (fun E => some (.int r)) S9 :=
  ofBlock (by decide +kernel) (fun _ => Nat.le_of_ble_eq_true rfl) (fun E p e s m args below meth c ls C hw hl => w_Wk_canAll C hw hl hf)
theorem dX9_greatestSet_0 : decode cX9_greatestSet 0 = .ok (.aload_n 0, 1) := by decide +kernel
theorem dX9_greatestSet_1 : decode cX9_greatestSet 1 = .ok (.iload_n 1, 1) := by decide +kernel
theorem dX9_greatestSet_2 : decode cX9_greatestSet 2 = .ok (.invokevirtual 19, 3) := by decide +kernel
theorem dX9_greatestSet_5 : decode cX9_greatestSet 5 = .ok (.iconst 0, 1) := by decide +kernel
theorem dX9_greatestSet_6 : decode cX9_greatestSet 6 = .ok (.istore_n 2, 1) := by decide +kernel
theorem dX9_greatestSet_7 : decode cX9_greatestSet 7 = .ok (.iconst 0, 1) := by decide +kernel
theorem dX9_greatestSet_8 : decode cX9_greatestSet 8 = .ok (.istore_n 3, 1) := by decide +kernel
theorem dX9_greatestSet_9 : decode cX9_greatestSet 9 = .ok (.iload_n 3, 1) := by decide +kernel
theorem dX9_greatestSet_10 : decode cX9_greatestSet 10 = .ok (.iload_n 1, 1) := by decide +kernel
theorem dX9_greatestSet_11 : decode cX9_greatestSet 11 = .ok (.if_icmp .gt 47, 3) := by decide +kernel
theorem dX9_greatestSet_14 : decode cX9_greatestSet 14 = .ok (.aload_n 0, 1) := by decide +kernel
theorem dX9_greatestSet_15 : decode cX9_greatestSet 15 = .ok (.iload_n 3, 1) := by decide +kernel
theorem dX9_greatestSet_16 : decode cX9_greatestSet 16 = .ok (.invokevirtual 23, 3) := by decide +kernel
theorem dX9_greatestSet_19 : decode cX9_greatestSet 19 = .ok (.ifCond .eq 39, 3) := by decide +kernel
theorem dX9_greatestSet_22 : decode cX9_greatestSet 22 = .ok (.iload_n 3, 1) := by decide +kernel
theorem dX9_greatestSet_23 : decode cX9_greatestSet 23 = .ok (.iload_n 1, 1) := by decide +kernel
theorem dX9_greatestSet_24 : decode cX9_greatestSet 24 = .ok (.iconst (-1), 1) := by decide +kernel
theorem dX9_greatestSet_25 : decode cX9_greatestSet 25 = .ok (.ixor, 1) := by decide +kernel
theorem dX9_greatestSet_26 : decode cX9_greatestSet 26 = .ok (.iand, 1) := by decide +kernel
theorem dX9_greatestSet_27 : decode cX9_greatestSet 27 = .ok (.ifCond .ne 25, 3) := by decide +kernel
theorem dX9_greatestSet_30 : decode cX9_greatestSet 30 = .ok (.aload_n 0, 1) := by decide +kernel
theorem dX9_greatestSet_31 : decode cX9_greatestSet 31 = .ok (.getfield 9, 3) := by decide +kernel
theorem dX9_greatestSet_34 : decode cX9_greatestSet 34 = .ok (.iload_n 3, 1) := by decide +kernel
theorem dX9_greatestSet_35 : decode cX9_greatestSet 35 = .ok (.baload, 1) := by decide +kernel
theorem dX9_greatestSet_36 : decode cX9_greatestSet 36 = .ok (.ifCond .eq 16, 3) := by decide +kernel
theorem dX9_greatestSet_39 : decode cX9_greatestSet 39 = .ok (.iload_n 3, 1) := by decide +kernel
theorem dX9_greatestSet_40 : decode cX9_greatestSet 40 = .ok (.invokestatic 27, 3) := by decide +kernel
theorem dX9_greatestSet_43 : decode cX9_greatestSet 43 = .ok (.iload_n 2, 1) := by decide +kernel
theorem dX9_greatestSet_44 : decode cX9_greatestSet 44 = .ok (.invokestatic 27, 3) := by decide +kernel
theorem dX9_greatestSet_47 : decode cX9_greatestSet 47 = .ok (.if_icmp .le 5, 3) := by decide +kernel
theorem dX9_greatestSet_50 : decode cX9_greatestSet 50 = .ok (.iload_n 3, 1) := by decide +kernel
theorem dX9_greatestSet_51 : decode cX9_greatestSet 51 = .ok (.istore_n 2, 1) := by decide +kernel
theorem dX9_greatestSet_52 : decode cX9_greatestSet 52 = .ok (.iinc 3 1, 3) := by decide +kernel
theorem dX9_greatestSet_55 : decode cX9_greatestSet 55 = .ok (.goto (-46), 3) := by decide +kernel
theorem dX9_greatestSet_58 : decode cX9_greatestSet 58 = .ok (.iload_n 2, 1) := by decide +kernel
theorem dX9_greatestSet_59 : decode cX9_greatestSet 59 = .ok (.ireturn, 1) := by decide +kernel
def Wk_greatestSet_b9 (N : Nat) (k9 : (Int32 × Int32) → Option (Int32 × St)) (S : St) (l1 : Int32) (l2 : Int32) (l3 : Int32) : Option (Int32 × St) :=
  if l1 < l3 then
    some (l2, S)
  else
    bd1 (Wk_isSet S l3) fun r1 =>
    if r1 = 0 then
      some (l2, S)
    else
      if (l3 &&& (l1 ^^^ (-1 : Int32))) = 0 then
        ck (inb l3 1024) <|
        if (gi S 28 l3.toNatClampNeg) = 0 then
          nm (l3 + (1)) fun x3 =>
          k9 (l2, x3)
        else
          bd1 (In_bitCount S l3) fun r4 =>
          bd1 (In_bitCount S l2) fun r5 =>
          if r4 ≤ r5 then
            nm (l3 + (1)) fun x6 =>
            k9 (l2, x6)
          else
            nm (l3 + (1)) fun x7 =>
            k9 (l3, x7)
      else
        nm (l3 + (1)) fun x2 =>
        k9 (l2, x2)
def Wk_greatestSet_L9 (N : Nat) (S : St) (l1 : Int32) : (Int32 × Int32) → Option (Int32 × St) :=
  lp (fun k x => Wk_greatestSet_b9 N k S l1 x.1 x.2) N
def Wk_greatestSet (N : Nat) (S : St) (p1 : Int32) : Option (Int32 × St) :=
  bd1 (Wk_fillFits N S p1) fun S1 =>
  Wk_greatestSet_L9 N S1 p1 ((0 : Int32), (0 : Int32))
section
variable {p : Program} {l : Launch} {e : Env} {s : State} {m : MethodId} {args : Array Value} {below : List Frame} {meth : Method} {c : Code} {H : Heap} {locs : List Loc} {E : Ev} {S V : St} {ls : Array Slot}
set_option maxRecDepth 20000 in
theorem w_Wk_greatestSet_b9 {N : Nat} {k9 : (Int32 × Int32) → Option (Int32 × St)} {l1 : Int32} {l2 : Int32} {l3 : Int32} {r : Int32} {S9 : St} (C : Cx p s m args meth c E cX9_greatestSet 4 RX9 (some .int)) (hk9 : ∀ x, k9 x = some (r, S9) → ∀ (H : Heap) (locs : List Loc) (ls : Array Slot), Wd E (wX V E) s.heap S H locs → lv_has ls 4 [(0, .ref (ea E 5)), (1, .int l1), (2, .int x.1), (3, .int x.2)] → W p l e (rmh 4) s m args below meth c H locs 0 0 (MQ below (QW E (wX V E) (some (.int r)) S9) args s 0 0 (eA E)) (F0 m 9 ls [])) (hw : Wd E (wX V E) s.heap S H locs) (hl : lv_has ls 4 [(0, .ref (ea E 5)), (1, .int l1), (2, .int l2), (3, .int l3)]) (hf : Wk_greatestSet_b9 N k9 S l1 l2 l3 = some (r, S9)) : W p l e (rmh 4) s m args below meth c H locs 0 0 (MQ below (QW E (wX V E) (some (.int r)) S9) args s 0 0 (eA E)) (F0 m 9 ls []) := by
  have hx := C.1
  have hb := C.2.1
  unfold Wk_greatestSet_b9 at hf
  refine lv_iload_n hx hb dX9_greatestSet_9 rfl (lv_at hl 3 rfl) ?_
  refine lv_iload_n hx hb dX9_greatestSet_10 rfl (lv_at hl 1 rfl) ?_
  refine lv_icmp_gt (tgt := 58) hx hb dX9_greatestSet_11 (by decide) (fun q => ?_) (fun q => ?_)
  · have hf := hf_t q hf
    refine lv_iload_n hx hb dX9_greatestSet_58 rfl (lv_at hl 2 rfl) ?_
    exact ret_iS C hw dX9_greatestSet_59 hf
  · have hf := hf_f q hf
    refine lv_aload_n hx hb dX9_greatestSet_14 rfl (lv_at hl 0 rfl) ?_
    refine lv_iload_n hx hb dX9_greatestSet_15 rfl (lv_at hl 3 rfl) ?_
    obtain ⟨r1, hr, hf⟩ := hf_1 hf
    refine inv_Vi (q0 := 5) (ci := 9) (As := [.int l3]) lk_X9_23 C hw rfl rfl rfl (t_Wk_isSet hr) rfl hl.1 dX9_greatestSet_16 rfl (Nat.le_of_ble_eq_true rfl) (by decide) (Nat.le_of_ble_eq_true rfl) rfl (fun H locs hw => ?_)
    refine lv_if_eq (tgt := 58) hx hb dX9_greatestSet_19 (by decide) (fun q => ?_) (fun q => ?_)
    · have hf := hf_t q hf
      refine lv_iload_n hx hb dX9_greatestSet_58 rfl (lv_at hl 2 rfl) ?_
      exact ret_iS C hw dX9_greatestSet_59 hf
    · have hf := hf_f q hf
      refine lv_iload_n hx hb dX9_greatestSet_22 rfl (lv_at hl 3 rfl) ?_
      refine lv_iload_n hx hb dX9_greatestSet_23 rfl (lv_at hl 1 rfl) ?_
      refine lv_iconst (v := -1) hx hb dX9_greatestSet_24 kc_m1 ?_
      refine lv_ixor hx hb dX9_greatestSet_25 ?_
      refine lv_iand hx hb dX9_greatestSet_26 ?_
      refine lv_if_ne (tgt := 52) hx hb dX9_greatestSet_27 (by decide) (fun q => ?_) (fun q => ?_)
      · have hf := hf_f q hf
        obtain ⟨x2, ex2, hf⟩ := nme hf
        refine lv_iinc (v := x2) (lv' := [(3, .int x2), (0, .ref (ea E 5)), (1, .int l1), (2, .int l2)]) hx hb dX9_greatestSet_52 hl (k := 3) rfl (ki_1 ex2) (by decide) rfl (fun ls hl => ?_)
        refine lv_goto (tgt := 9) hx hb dX9_greatestSet_55 (by decide) ?_
        exact hk9 _ hf _ _ _ hw (lv_sub hl [1, 2, 3, 0] rfl)
      · have hf := hf_t q hf
        refine lv_aload_n hx hb dX9_greatestSet_30 rfl (lv_at hl 0 rfl) ?_
        refine get_5_1 C hw q_318 dX9_greatestSet_31 ?_
        refine lv_iload_n hx hb dX9_greatestSet_34 rfl (lv_at hl 3 rfl) ?_
        obtain ⟨hc, hf⟩ := hf_ck hf
        refine ld_28 C hw hc dX9_greatestSet_35 ?_
        refine lv_if_eq (tgt := 52) hx hb dX9_greatestSet_36 (by decide) (fun q => ?_) (fun q => ?_)
        · have hf := hf_t q hf
          obtain ⟨x3, ex3, hf⟩ := nme hf
          refine lv_iinc (v := x3) (lv' := [(3, .int x3), (0, .ref (ea E 5)), (1, .int l1), (2, .int l2)]) hx hb dX9_greatestSet_52 hl (k := 3) rfl (ki_1 ex3) (by decide) rfl (fun ls hl => ?_)
          refine lv_goto (tgt := 9) hx hb dX9_greatestSet_55 (by decide) ?_
          exact hk9 _ hf _ _ _ hw (lv_sub hl [1, 2, 3, 0] rfl)
        · have hf := hf_f q hf
          refine lv_iload_n hx hb dX9_greatestSet_39 rfl (lv_at hl 3 rfl) ?_
          obtain ⟨r4, hr, hf⟩ := hf_1 hf
          refine inv_Si (As := [.int l3]) lk_X9_27 C hw (t_In_bitCount hr) hl.1 dX9_greatestSet_40 rfl (Nat.le_of_ble_eq_true rfl) (by decide) (Nat.le_of_ble_eq_true rfl) rfl (fun H locs hw => ?_)
          refine lv_iload_n hx hb dX9_greatestSet_43 rfl (lv_at hl 2 rfl) ?_
          obtain ⟨r5, hr, hf⟩ := hf_1 hf
          refine inv_Si (As := [.int l2]) lk_X9_27 C hw (t_In_bitCount hr) hl.1 dX9_greatestSet_44 rfl (Nat.le_of_ble_eq_true rfl) (by decide) (Nat.le_of_ble_eq_true rfl) rfl (fun H locs hw => ?_)
          refine lv_icmp_le (tgt := 52) hx hb dX9_greatestSet_47 (by decide) (fun q => ?_) (fun q => ?_)
          · have hf := hf_t q hf
            obtain ⟨x6, ex6, hf⟩ := nme hf
            refine lv_iinc (v := x6) (lv' := [(3, .int x6), (0, .ref (ea E 5)), (1, .int l1), (2, .int l2)]) hx hb dX9_greatestSet_52 hl (k := 3) rfl (ki_1 ex6) (by decide) rfl (fun ls hl => ?_)
            refine lv_goto (tgt := 9) hx hb dX9_greatestSet_55 (by decide) ?_
            exact hk9 _ hf _ _ _ hw (lv_sub hl [1, 2, 3, 0] rfl)
          · have hf := hf_f q hf
            refine lv_iload_n hx hb dX9_greatestSet_50 rfl (lv_at hl 3 rfl) ?_
            refine lv_istore_n (lv' := [(2, .int l3), (0, .ref (ea E 5)), (1, .int l1), (3, .int l3)]) hx hb dX9_greatestSet_51 rfl hl (by decide) rfl (fun ls hl => ?_)
            obtain ⟨x7, ex7, hf⟩ := nme hf
            refine lv_iinc (v := x7) (lv' := [(3, .int x7), (2, .int l3), (0, .ref (ea E 5)), (1, .int l1)]) hx hb dX9_greatestSet_52 hl (k := 3) rfl (ki_1 ex7) (by decide) rfl (fun ls hl => ?_)
            refine lv_goto (tgt := 9) hx hb dX9_greatestSet_55 (by decide) ?_
            exact hk9 _ hf _ _ _ hw (lv_sub hl [2, 3, 1, 0] rfl)
theorem w_Wk_greatestSet_L9 {N : Nat} {l1 : Int32} {r : Int32} {S9 : St} (C : Cx p s m args meth c E cX9_greatestSet 4 RX9 (some .int)) : ∀ x, Wk_greatestSet_L9 N S l1 x = some (r, S9) → ∀ (H : Heap) (locs : List Loc) (ls : Array Slot), Wd E (wX V E) s.heap S H locs → lv_has ls 4 [(0, .ref (ea E 5)), (1, .int l1), (2, .int x.1), (3, .int x.2)] → W p l e (rmh 4) s m args below meth c H locs 0 0 (MQ below (QW E (wX V E) (some (.int r)) S9) args s 0 0 (eA E)) (F0 m 9 ls []) :=
  lp_W (fun k x hk hf H locs ls hw hl => w_Wk_greatestSet_b9 C hk hw hl hf) N
set_option maxRecDepth 20000 in
theorem w_Wk_greatestSet {N : Nat} {p1 : Int32} {r : Int32} {S9 : St} (C : Cx p s m args meth c E cX9_greatestSet 4 RX9 (some .int)) (hw : Wd E (wX V E) s.heap S H locs) (hl : lv_has ls 4 [(0, .ref (ea E 5)), (1, .int p1)]) (hf : Wk_greatestSet N S p1 = some (r, S9)) : W p l e (rmh 4) s m args below meth c H locs 0 0 (MQ below (QW E (wX V E) (some (.int r)) S9) args s 0 0 (eA E)) (F0 m 0 ls []) := by
  have hx := C.1
  have hb := C.2.1
  unfold Wk_greatestSet at hf
  refine lv_aload_n hx hb dX9_greatestSet_0 rfl (lv_at hl 0 rfl) ?_
  refine lv_iload_n hx hb dX9_greatestSet_1 rfl (lv_at hl 1 rfl) ?_
  obtain ⟨S1, hr, hf⟩ := hf_1 hf
  refine inv_Vv (q0 := 5) (ci := 9) (As := [.int p1]) lk_X9_19 C hw rfl rfl rfl (t_Wk_fillFits hr) rfl hl.1 dX9_greatestSet_2 rfl (Nat.le_of_ble_eq_true rfl) (by decide) (Nat.le_of_ble_eq_true rfl) rfl (fun H locs hw => ?_)
  refine lv_iconst (v := 0) hx hb dX9_greatestSet_5 kc_0 ?_
  refine lv_istore_n (lv' := [(2, .int (0 : Int32)), (0, .ref (ea E 5)), (1, .int p1)]) hx hb dX9_greatestSet_6 rfl hl (by decide) rfl (fun ls hl => ?_)
  refine lv_iconst (v := 0) hx hb dX9_greatestSet_7 kc_0 ?_
  refine lv_istore_n (lv' := [(3, .int (0 : Int32)), (2, .int (0 : Int32)), (0, .ref (ea E 5)), (1, .int p1)]) hx hb dX9_greatestSet_8 rfl hl (by decide) rfl (fun ls hl => ?_)
  exact w_Wk_greatestSet_L9 C _ hf _ _ _ hw (lv_sub hl [2, 3, 1, 0] rfl)
end
theorem t_Wk_greatestSet {l : Launch} {V : St} {N : Nat} {S : St} {p1 : Int32} {r : Int32} {S9 : St} (hf : Wk_greatestSet N S p1 = some (r, S9)) : Ct l (wX V) yX9_greatestSet cX9_greatestSet 4 (some .int) 4 (fun E => [.ref (ea E 5), .int p1]) S (fun E => some (.int r)) S9 :=
  ofBlock (by decide +kernel) (fun _ => Nat.le_of_ble_eq_true rfl) (fun E p e s m args below meth c ls C hw hl => w_Wk_greatestSet C hw hl hf)
theorem dX9_isClash_0 : decode cX9_isClash 0 = .ok (.iload_n 1, 1) := by decide +kernel
theorem dX9_isClash_1 : decode cX9_isClash 1 = .ok (.iload_n 2, 1) := by decide +kernel
theorem dX9_isClash_2 : decode cX9_isClash 2 = .ok (.iconst (-1), 1) := by decide +kernel
theorem dX9_isClash_3 : decode cX9_isClash 3 = .ok (.ixor, 1) := by decide +kernel
theorem dX9_isClash_4 : decode cX9_isClash 4 = .ok (.iand, 1) := by decide +kernel
theorem dX9_isClash_5 : decode cX9_isClash 5 = .ok (.ifCond .ne 24, 3) := by decide +kernel
theorem dX9_isClash_8 : decode cX9_isClash 8 = .ok (.aload_n 0, 1) := by decide +kernel
theorem dX9_isClash_9 : decode cX9_isClash 9 = .ok (.getfield 9, 3) := by decide +kernel
theorem dX9_isClash_12 : decode cX9_isClash 12 = .ok (.iload_n 1, 1) := by decide +kernel
theorem dX9_isClash_13 : decode cX9_isClash 13 = .ok (.baload, 1) := by decide +kernel
theorem dX9_isClash_14 : decode cX9_isClash 14 = .ok (.ifCond .ne 15, 3) := by decide +kernel
theorem dX9_isClash_17 : decode cX9_isClash 17 = .ok (.aload_n 0, 1) := by decide +kernel
theorem dX9_isClash_18 : decode cX9_isClash 18 = .ok (.iload_n 1, 1) := by decide +kernel
theorem dX9_isClash_19 : decode cX9_isClash 19 = .ok (.invokevirtual 37, 3) := by decide +kernel
theorem dX9_isClash_22 : decode cX9_isClash 22 = .ok (.ifCond .eq 7, 3) := by decide +kernel
theorem dX9_isClash_25 : decode cX9_isClash 25 = .ok (.iconst 1, 1) := by decide +kernel
theorem dX9_isClash_26 : decode cX9_isClash 26 = .ok (.goto 4, 3) := by decide +kernel
theorem dX9_isClash_29 : decode cX9_isClash 29 = .ok (.iconst 0, 1) := by decide +kernel
theorem dX9_isClash_30 : decode cX9_isClash 30 = .ok (.ireturn, 1) := by decide +kernel
def Wk_isClash (N : Nat) (S : St) (p1 : Int32) (p2 : Int32) : Option Int32 :=
  if (p1 &&& (p2 ^^^ (-1 : Int32))) = 0 then
    ck (inb p1 1024) <|
    if (gi S 28 p1.toNatClampNeg) = 0 then
      bd1 (Wk_eachLessOneFits N S p1) fun r1 =>
      if r1 = 0 then
        some (0 : Int32)
      else
        some (1 : Int32)
    else
      some (0 : Int32)
  else
    some (0 : Int32)
section
variable {p : Program} {l : Launch} {e : Env} {s : State} {m : MethodId} {args : Array Value} {below : List Frame} {meth : Method} {c : Code} {H : Heap} {locs : List Loc} {E : Ev} {S V : St} {ls : Array Slot}
set_option maxRecDepth 20000 in
theorem w_Wk_isClash {N : Nat} {p1 : Int32} {p2 : Int32} {r : Int32} (C : Cx p s m args meth c E cX9_isClash 3 RX9 (some .boolean)) (hw : Wd E (wX V E) s.heap S H locs) (hl : lv_has ls 3 [(0, .ref (ea E 5)), (1, .int p1), (2, .int p2)]) (hf : Wk_isClash N S p1 p2 = some r) : W p l e (rmh 3) s m args below meth c H locs 0 0 (MQ below (QW E (wX V E) (some (.int r)) S) args s 0 0 (eA E)) (F0 m 0 ls []) := by
  have hx := C.1
  have hb := C.2.1
  unfold Wk_isClash at hf
  refine lv_iload_n hx hb dX9_isClash_0 rfl (lv_at hl 1 rfl) ?_
  refine lv_iload_n hx hb dX9_isClash_1 rfl (lv_at hl 2 rfl) ?_
  refine lv_iconst (v := -1) hx hb dX9_isClash_2 kc_m1 ?_
  refine lv_ixor hx hb dX9_isClash_3 ?_
  refine lv_iand hx hb dX9_isClash_4 ?_
  refine lv_if_ne (tgt := 29) hx hb dX9_isClash_5 (by decide) (fun q => ?_) (fun q => ?_)
  · have hf := hf_f q hf
    refine lv_iconst (v := 0) hx hb dX9_isClash_29 kc_0 ?_
    exact ret_z rfl C hw dX9_isClash_30 hf
  · have hf := hf_t q hf
    refine lv_aload_n hx hb dX9_isClash_8 rfl (lv_at hl 0 rfl) ?_
    refine get_5_1 C hw q_318 dX9_isClash_9 ?_
    refine lv_iload_n hx hb dX9_isClash_12 rfl (lv_at hl 1 rfl) ?_
    obtain ⟨hc, hf⟩ := hf_ck hf
    refine ld_28 C hw hc dX9_isClash_13 ?_
    refine lv_if_ne (tgt := 29) hx hb dX9_isClash_14 (by decide) (fun q => ?_) (fun q => ?_)
    · have hf := hf_f q hf
      refine lv_iconst (v := 0) hx hb dX9_isClash_29 kc_0 ?_
      exact ret_z rfl C hw dX9_isClash_30 hf
    · have hf := hf_t q hf
      refine lv_aload_n hx hb dX9_isClash_17 rfl (lv_at hl 0 rfl) ?_
      refine lv_iload_n hx hb dX9_isClash_18 rfl (lv_at hl 1 rfl) ?_
      obtain ⟨r1, hr, hf⟩ := hf_1 hf
      refine inv_Vi (q0 := 5) (ci := 9) (As := [.int p1]) lk_X9_37 C hw rfl rfl rfl (t_Wk_eachLessOneFits hr) rfl hl.1 dX9_isClash_19 rfl (Nat.le_of_ble_eq_true rfl) (by decide) (Nat.le_of_ble_eq_true rfl) rfl (fun H locs hw => ?_)
      refine lv_if_eq (tgt := 29) hx hb dX9_isClash_22 (by decide) (fun q => ?_) (fun q => ?_)
      · have hf := hf_t q hf
        refine lv_iconst (v := 0) hx hb dX9_isClash_29 kc_0 ?_
        exact ret_z rfl C hw dX9_isClash_30 hf
      · have hf := hf_f q hf
        refine lv_iconst (v := 1) hx hb dX9_isClash_25 kc_1 ?_
        refine lv_goto (tgt := 30) hx hb dX9_isClash_26 (by decide) ?_
        exact ret_z rfl C hw dX9_isClash_30 hf
end
theorem t_Wk_isClash {l : Launch} {V : St} {N : Nat} {S : St} {p1 : Int32} {p2 : Int32} {r : Int32} (hf : Wk_isClash N S p1 p2 = some r) : Ct l (wX V) yX9_isClash cX9_isClash 3 (some .boolean) 3 (fun E => [.ref (ea E 5), .int p1, .int p2]) S (fun E => some (.int r)) S :=
  ofBlock (by decide +kernel) (fun _ => Nat.le_of_ble_eq_true rfl) (fun E p e s m args below meth c ls C hw hl => w_Wk_isClash C hw hl hf)
theorem dX9_howManyClashes_0 : decode cX9_howManyClashes 0 = .ok (.aload_n 0, 1) := by decide +kernel
theorem dX9_howManyClashes_1 : decode cX9_howManyClashes 1 = .ok (.iload_n 1, 1) := by decide +kernel
theorem dX9_howManyClashes_2 : decode cX9_howManyClashes 2 = .ok (.invokevirtual 19, 3) := by decide +kernel
theorem dX9_howManyClashes_5 : decode cX9_howManyClashes 5 = .ok (.iconst 0, 1) := by decide +kernel
theorem dX9_howManyClashes_6 : decode cX9_howManyClashes 6 = .ok (.istore_n 2, 1) := by decide +kernel
theorem dX9_howManyClashes_7 : decode cX9_howManyClashes 7 = .ok (.iconst 0, 1) := by decide +kernel
theorem dX9_howManyClashes_8 : decode cX9_howManyClashes 8 = .ok (.istore_n 3, 1) := by decide +kernel
theorem dX9_howManyClashes_9 : decode cX9_howManyClashes 9 = .ok (.iload_n 3, 1) := by decide +kernel
theorem dX9_howManyClashes_10 : decode cX9_howManyClashes 10 = .ok (.iload_n 1, 1) := by decide +kernel
theorem dX9_howManyClashes_11 : decode cX9_howManyClashes 11 = .ok (.if_icmp .gt 29, 3) := by decide +kernel
theorem dX9_howManyClashes_14 : decode cX9_howManyClashes 14 = .ok (.aload_n 0, 1) := by decide +kernel
theorem dX9_howManyClashes_15 : decode cX9_howManyClashes 15 = .ok (.iload_n 3, 1) := by decide +kernel
theorem dX9_howManyClashes_16 : decode cX9_howManyClashes 16 = .ok (.invokevirtual 23, 3) := by decide +kernel
theorem dX9_howManyClashes_19 : decode cX9_howManyClashes 19 = .ok (.ifCond .eq 21, 3) := by decide +kernel
theorem dX9_howManyClashes_22 : decode cX9_howManyClashes 22 = .ok (.aload_n 0, 1) := by decide +kernel
theorem dX9_howManyClashes_23 : decode cX9_howManyClashes 23 = .ok (.iload_n 3, 1) := by decide +kernel
theorem dX9_howManyClashes_24 : decode cX9_howManyClashes 24 = .ok (.iload_n 1, 1) := by decide +kernel
theorem dX9_howManyClashes_25 : decode cX9_howManyClashes 25 = .ok (.invokevirtual 33, 3) := by decide +kernel
theorem dX9_howManyClashes_28 : decode cX9_howManyClashes 28 = .ok (.ifCond .eq 6, 3) := by decide +kernel
theorem dX9_howManyClashes_31 : decode cX9_howManyClashes 31 = .ok (.iinc 2 1, 3) := by decide +kernel
theorem dX9_howManyClashes_34 : decode cX9_howManyClashes 34 = .ok (.iinc 3 1, 3) := by decide +kernel
theorem dX9_howManyClashes_37 : decode cX9_howManyClashes 37 = .ok (.goto (-28), 3) := by decide +kernel
theorem dX9_howManyClashes_40 : decode cX9_howManyClashes 40 = .ok (.iload_n 2, 1) := by decide +kernel
theorem dX9_howManyClashes_41 : decode cX9_howManyClashes 41 = .ok (.ireturn, 1) := by decide +kernel
def Wk_howManyClashes_b9 (N : Nat) (k9 : (Int32 × Int32) → Option (Int32 × St)) (S : St) (l1 : Int32) (l2 : Int32) (l3 : Int32) : Option (Int32 × St) :=
  if l1 < l3 then
    some (l2, S)
  else
    bd1 (Wk_isSet S l3) fun r1 =>
    if r1 = 0 then
      some (l2, S)
    else
      bd1 (Wk_isClash N S l3 l1) fun r2 =>
      if r2 = 0 then
        nm (l3 + (1)) fun x3 =>
        k9 (l2, x3)
      else
        nm (l2 + (1)) fun x4 =>
        nm (l3 + (1)) fun x5 =>
        k9 (x4, x5)
def Wk_howManyClashes_L9 (N : Nat) (S : St) (l1 : Int32) : (Int32 × Int32) → Option (Int32 × St) :=
  lp (fun k x => Wk_howManyClashes_b9 N k S l1 x.1 x.2) N
def Wk_howManyClashes (N : Nat) (S : St) (p1 : Int32) : Option (Int32 × St) :=
  bd1 (Wk_fillFits N S p1) fun S1 =>
  Wk_howManyClashes_L9 N S1 p1 ((0 : Int32), (0 : Int32))
section
variable {p : Program} {l : Launch} {e : Env} {s : State} {m : MethodId} {args : Array Value} {below : List Frame} {meth : Method} {c : Code} {H : Heap} {locs : List Loc} {E : Ev} {S V : St} {ls : Array Slot}
set_option maxRecDepth 20000 in
theorem w_Wk_howManyClashes_b9 {N : Nat} {k9 : (Int32 × Int32) → Option (Int32 × St)} {l1 : Int32} {l2 : Int32} {l3 : Int32} {r : Int32} {S9 : St} (C : Cx p s m args meth c E cX9_howManyClashes 4 RX9 (some .int)) (hk9 : ∀ x, k9 x = some (r, S9) → ∀ (H : Heap) (locs : List Loc) (ls : Array Slot), Wd E (wX V E) s.heap S H locs → lv_has ls 4 [(0, .ref (ea E 5)), (1, .int l1), (2, .int x.1), (3, .int x.2)] → W p l e (rmh 4) s m args below meth c H locs 0 0 (MQ below (QW E (wX V E) (some (.int r)) S9) args s 0 0 (eA E)) (F0 m 9 ls [])) (hw : Wd E (wX V E) s.heap S H locs) (hl : lv_has ls 4 [(0, .ref (ea E 5)), (1, .int l1), (2, .int l2), (3, .int l3)]) (hf : Wk_howManyClashes_b9 N k9 S l1 l2 l3 = some (r, S9)) : W p l e (rmh 4) s m args below meth c H locs 0 0 (MQ below (QW E (wX V E) (some (.int r)) S9) args s 0 0 (eA E)) (F0 m 9 ls []) := by
  have hx := C.1
  have hb := C.2.1
  unfold Wk_howManyClashes_b9 at hf
  refine lv_iload_n hx hb dX9_howManyClashes_9 rfl (lv_at hl 3 rfl) ?_
  refine lv_iload_n hx hb dX9_howManyClashes_10 rfl (lv_at hl 1 rfl) ?_
  refine lv_icmp_gt (tgt := 40) hx hb dX9_howManyClashes_11 (by decide) (fun q => ?_) (fun q => ?_)
  · have hf := hf_t q hf
    refine lv_iload_n hx hb dX9_howManyClashes_40 rfl (lv_at hl 2 rfl) ?_
    exact ret_iS C hw dX9_howManyClashes_41 hf
  · have hf := hf_f q hf
    refine lv_aload_n hx hb dX9_howManyClashes_14 rfl (lv_at hl 0 rfl) ?_
    refine lv_iload_n hx hb dX9_howManyClashes_15 rfl (lv_at hl 3 rfl) ?_
    obtain ⟨r1, hr, hf⟩ := hf_1 hf
    refine inv_Vi (q0 := 5) (ci := 9) (As := [.int l3]) lk_X9_23 C hw rfl rfl rfl (t_Wk_isSet hr) rfl hl.1 dX9_howManyClashes_16 rfl (Nat.le_of_ble_eq_true rfl) (by decide) (Nat.le_of_ble_eq_true rfl) rfl (fun H locs hw => ?_)
    refine lv_if_eq (tgt := 40) hx hb dX9_howManyClashes_19 (by decide) (fun q => ?_) (fun q => ?_)
    · have hf := hf_t q hf
      refine lv_iload_n hx hb dX9_howManyClashes_40 rfl (lv_at hl 2 rfl) ?_
      exact ret_iS C hw dX9_howManyClashes_41 hf
    · have hf := hf_f q hf
      refine lv_aload_n hx hb dX9_howManyClashes_22 rfl (lv_at hl 0 rfl) ?_
      refine lv_iload_n hx hb dX9_howManyClashes_23 rfl (lv_at hl 3 rfl) ?_
      refine lv_iload_n hx hb dX9_howManyClashes_24 rfl (lv_at hl 1 rfl) ?_
      obtain ⟨r2, hr, hf⟩ := hf_1 hf
      refine inv_Vi (q0 := 5) (ci := 9) (As := [.int l3, .int l1]) lk_X9_33 C hw rfl rfl rfl (t_Wk_isClash hr) rfl hl.1 dX9_howManyClashes_25 rfl (Nat.le_of_ble_eq_true rfl) (by decide) (Nat.le_of_ble_eq_true rfl) rfl (fun H locs hw => ?_)
      refine lv_if_eq (tgt := 34) hx hb dX9_howManyClashes_28 (by decide) (fun q => ?_) (fun q => ?_)
      · have hf := hf_t q hf
        obtain ⟨x3, ex3, hf⟩ := nme hf
        refine lv_iinc (v := x3) (lv' := [(3, .int x3), (0, .ref (ea E 5)), (1, .int l1), (2, .int l2)]) hx hb dX9_howManyClashes_34 hl (k := 3) rfl (ki_1 ex3) (by decide) rfl (fun ls hl => ?_)
        refine lv_goto (tgt := 9) hx hb dX9_howManyClashes_37 (by decide) ?_
        exact hk9 _ hf _ _ _ hw (lv_sub hl [1, 2, 3, 0] rfl)
      · have hf := hf_f q hf
        obtain ⟨x4, ex4, hf⟩ := nme hf
        refine lv_iinc (v := x4) (lv' := [(2, .int x4), (0, .ref (ea E 5)), (1, .int l1), (3, .int l3)]) hx hb dX9_howManyClashes_31 hl (k := 2) rfl (ki_1 ex4) (by decide) rfl (fun ls hl => ?_)
        obtain ⟨x5, ex5, hf⟩ := nme hf
        refine lv_iinc (v := x5) (lv' := [(3, .int x5), (2, .int x4), (0, .ref (ea E 5)), (1, .int l1)]) hx hb dX9_howManyClashes_34 hl (k := 3) rfl (ki_1 ex5) (by decide) rfl (fun ls hl => ?_)
        refine lv_goto (tgt := 9) hx hb dX9_howManyClashes_37 (by decide) ?_
        exact hk9 _ hf _ _ _ hw (lv_sub hl [2, 3, 1, 0] rfl)
theorem w_Wk_howManyClashes_L9 {N : Nat} {l1 : Int32} {r : Int32} {S9 : St} (C : Cx p s m args meth c E cX9_howManyClashes 4 RX9 (some .int)) : ∀ x, Wk_howManyClashes_L9 N S l1 x = some (r, S9) → ∀ (H : Heap) (locs : List Loc) (ls : Array Slot), Wd E (wX V E) s.heap S H locs → lv_has ls 4 [(0, .ref (ea E 5)), (1, .int l1), (2, .int x.1), (3, .int x.2)] → W p l e (rmh 4) s m args below meth c H locs 0 0 (MQ below (QW E (wX V E) (some (.int r)) S9) args s 0 0 (eA E)) (F0 m 9 ls []) :=
  lp_W (fun k x hk hf H locs ls hw hl => w_Wk_howManyClashes_b9 C hk hw hl hf) N
set_option maxRecDepth 20000 in
theorem w_Wk_howManyClashes {N : Nat} {p1 : Int32} {r : Int32} {S9 : St} (C : Cx p s m args meth c E cX9_howManyClashes 4 RX9 (some .int)) (hw : Wd E (wX V E) s.heap S H locs) (hl : lv_has ls 4 [(0, .ref (ea E 5)), (1, .int p1)]) (hf : Wk_howManyClashes N S p1 = some (r, S9)) : W p l e (rmh 4) s m args below meth c H locs 0 0 (MQ below (QW E (wX V E) (some (.int r)) S9) args s 0 0 (eA E)) (F0 m 0 ls []) := by
  have hx := C.1
  have hb := C.2.1
  unfold Wk_howManyClashes at hf
  refine lv_aload_n hx hb dX9_howManyClashes_0 rfl (lv_at hl 0 rfl) ?_
  refine lv_iload_n hx hb dX9_howManyClashes_1 rfl (lv_at hl 1 rfl) ?_
  obtain ⟨S1, hr, hf⟩ := hf_1 hf
  refine inv_Vv (q0 := 5) (ci := 9) (As := [.int p1]) lk_X9_19 C hw rfl rfl rfl (t_Wk_fillFits hr) rfl hl.1 dX9_howManyClashes_2 rfl (Nat.le_of_ble_eq_true rfl) (by decide) (Nat.le_of_ble_eq_true rfl) rfl (fun H locs hw => ?_)
  refine lv_iconst (v := 0) hx hb dX9_howManyClashes_5 kc_0 ?_
  refine lv_istore_n (lv' := [(2, .int (0 : Int32)), (0, .ref (ea E 5)), (1, .int p1)]) hx hb dX9_howManyClashes_6 rfl hl (by decide) rfl (fun ls hl => ?_)
  refine lv_iconst (v := 0) hx hb dX9_howManyClashes_7 kc_0 ?_
  refine lv_istore_n (lv' := [(3, .int (0 : Int32)), (2, .int (0 : Int32)), (0, .ref (ea E 5)), (1, .int p1)]) hx hb dX9_howManyClashes_8 rfl hl (by decide) rfl (fun ls hl => ?_)
  exact w_Wk_howManyClashes_L9 C _ hf _ _ _ hw (lv_sub hl [2, 3, 1, 0] rfl)
end
theorem t_Wk_howManyClashes {l : Launch} {V : St} {N : Nat} {S : St} {p1 : Int32} {r : Int32} {S9 : St} (hf : Wk_howManyClashes N S p1 = some (r, S9)) : Ct l (wX V) yX9_howManyClashes cX9_howManyClashes 4 (some .int) 4 (fun E => [.ref (ea E 5), .int p1]) S (fun E => some (.int r)) S9 :=
  ofBlock (by decide +kernel) (fun _ => Nat.le_of_ble_eq_true rfl) (fun E p e s m args below meth c ls C hw hl => w_Wk_howManyClashes C hw hl hf)
theorem dX9_leastClash_0 : decode cX9_leastClash 0 = .ok (.aload_n 0, 1) := by decide +kernel
theorem dX9_leastClash_1 : decode cX9_leastClash 1 = .ok (.iload_n 1, 1) := by decide +kernel
theorem dX9_leastClash_2 : decode cX9_leastClash 2 = .ok (.invokevirtual 19, 3) := by decide +kernel
theorem dX9_leastClash_5 : decode cX9_leastClash 5 = .ok (.iconst 0, 1) := by decide +kernel
theorem dX9_leastClash_6 : decode cX9_leastClash 6 = .ok (.istore_n 2, 1) := by decide +kernel
theorem dX9_leastClash_7 : decode cX9_leastClash 7 = .ok (.iload_n 2, 1) := by decide +kernel
theorem dX9_leastClash_8 : decode cX9_leastClash 8 = .ok (.iload_n 1, 1) := by decide +kernel
theorem dX9_leastClash_9 : decode cX9_leastClash 9 = .ok (.if_icmp .gt 28, 3) := by decide +kernel
theorem dX9_leastClash_12 : decode cX9_leastClash 12 = .ok (.aload_n 0, 1) := by decide +kernel
theorem dX9_leastClash_13 : decode cX9_leastClash 13 = .ok (.iload_n 2, 1) := by decide +kernel
theorem dX9_leastClash_14 : decode cX9_leastClash 14 = .ok (.invokevirtual 23, 3) := by decide +kernel
theorem dX9_leastClash_17 : decode cX9_leastClash 17 = .ok (.ifCond .eq 20, 3) := by decide +kernel
theorem dX9_leastClash_20 : decode cX9_leastClash 20 = .ok (.aload_n 0, 1) := by decide +kernel
theorem dX9_leastClash_21 : decode cX9_leastClash 21 = .ok (.iload_n 2, 1) := by decide +kernel
theorem dX9_leastClash_22 : decode cX9_leastClash 22 = .ok (.iload_n 1, 1) := by decide +kernel
theorem dX9_leastClash_23 : decode cX9_leastClash 23 = .ok (.invokevirtual 33, 3) := by decide +kernel
theorem dX9_leastClash_26 : decode cX9_leastClash 26 = .ok (.ifCond .eq 5, 3) := by decide +kernel
theorem dX9_leastClash_29 : decode cX9_leastClash 29 = .ok (.iload_n 2, 1) := by decide +kernel
theorem dX9_leastClash_30 : decode cX9_leastClash 30 = .ok (.ireturn, 1) := by decide +kernel
theorem dX9_leastClash_31 : decode cX9_leastClash 31 = .ok (.iinc 2 1, 3) := by decide +kernel
theorem dX9_leastClash_34 : decode cX9_leastClash 34 = .ok (.goto (-27), 3) := by decide +kernel
theorem dX9_leastClash_37 : decode cX9_leastClash 37 = .ok (.bipush (-2), 2) := by decide +kernel
theorem dX9_leastClash_39 : decode cX9_leastClash 39 = .ok (.ireturn, 1) := by decide +kernel
def Wk_leastClash_b7 (N : Nat) (k7 : (Int32) → Option (Int32 × St)) (S : St) (l1 : Int32) (l2 : Int32) : Option (Int32 × St) :=
  if l1 < l2 then
    some ((-2 : Int32), S)
  else
    bd1 (Wk_isSet S l2) fun r1 =>
    if r1 = 0 then
      some ((-2 : Int32), S)
    else
      bd1 (Wk_isClash N S l2 l1) fun r2 =>
      if r2 = 0 then
        nm (l2 + (1)) fun x3 =>
        k7 (x3)
      else
        some (l2, S)
def Wk_leastClash_L7 (N : Nat) (S : St) (l1 : Int32) : (Int32) → Option (Int32 × St) :=
  lp (fun k x => Wk_leastClash_b7 N k S l1 x) N
def Wk_leastClash (N : Nat) (S : St) (p1 : Int32) : Option (Int32 × St) :=
  bd1 (Wk_fillFits N S p1) fun S1 =>
  Wk_leastClash_L7 N S1 p1 ((0 : Int32))
section
variable {p : Program} {l : Launch} {e : Env} {s : State} {m : MethodId} {args : Array Value} {below : List Frame} {meth : Method} {c : Code} {H : Heap} {locs : List Loc} {E : Ev} {S V : St} {ls : Array Slot}
set_option maxRecDepth 20000 in
theorem w_Wk_leastClash_b7 {N : Nat} {k7 : (Int32) → Option (Int32 × St)} {l1 : Int32} {l2 : Int32} {r : Int32} {S9 : St} (C : Cx p s m args meth c E cX9_leastClash 3 RX9 (some .int)) (hk7 : ∀ x, k7 x = some (r, S9) → ∀ (H : Heap) (locs : List Loc) (ls : Array Slot), Wd E (wX V E) s.heap S H locs → lv_has ls 3 [(0, .ref (ea E 5)), (1, .int l1), (2, .int x)] → W p l e (rmh 4) s m args below meth c H locs 0 0 (MQ below (QW E (wX V E) (some (.int r)) S9) args s 0 0 (eA E)) (F0 m 7 ls [])) (hw : Wd E (wX V E) s.heap S H locs) (hl : lv_has ls 3 [(0, .ref (ea E 5)), (1, .int l1), (2, .int l2)]) (hf : Wk_leastClash_b7 N k7 S l1 l2 = some (r, S9)) : W p l e (rmh 4) s m args below meth c H locs 0 0 (MQ below (QW E (wX V E) (some (.int r)) S9) args s 0 0 (eA E)) (F0 m 7 ls []) := by
  have hx := C.1
  have hb := C.2.1
  unfold Wk_leastClash_b7 at hf
  refine lv_iload_n hx hb dX9_leastClash_7 rfl (lv_at hl 2 rfl) ?_
  refine lv_iload_n hx hb dX9_leastClash_8 rfl (lv_at hl 1 rfl) ?_
  refine lv_icmp_gt (tgt := 37) hx hb dX9_leastClash_9 (by decide) (fun q => ?_) (fun q => ?_)
  · have hf := hf_t q hf
    refine lv_bipush (v := -2) hx hb dX9_leastClash_37 kb_m2 ?_
    exact ret_iS C hw dX9_leastClash_39 hf
  · have hf := hf_f q hf
    refine lv_aload_n hx hb dX9_leastClash_12 rfl (lv_at hl 0 rfl) ?_
    refine lv_iload_n hx hb dX9_leastClash_13 rfl (lv_at hl 2 rfl) ?_
    obtain ⟨r1, hr, hf⟩ := hf_1 hf
    refine inv_Vi (q0 := 5) (ci := 9) (As := [.int l2]) lk_X9_23 C hw rfl rfl rfl (t_Wk_isSet hr) rfl hl.1 dX9_leastClash_14 rfl (Nat.le_of_ble_eq_true rfl) (by decide) (Nat.le_of_ble_eq_true rfl) rfl (fun H locs hw => ?_)
    refine lv_if_eq (tgt := 37) hx hb dX9_leastClash_17 (by decide) (fun q => ?_) (fun q => ?_)
    · have hf := hf_t q hf
      refine lv_bipush (v := -2) hx hb dX9_leastClash_37 kb_m2 ?_
      exact ret_iS C hw dX9_leastClash_39 hf
    · have hf := hf_f q hf
      refine lv_aload_n hx hb dX9_leastClash_20 rfl (lv_at hl 0 rfl) ?_
      refine lv_iload_n hx hb dX9_leastClash_21 rfl (lv_at hl 2 rfl) ?_
      refine lv_iload_n hx hb dX9_leastClash_22 rfl (lv_at hl 1 rfl) ?_
      obtain ⟨r2, hr, hf⟩ := hf_1 hf
      refine inv_Vi (q0 := 5) (ci := 9) (As := [.int l2, .int l1]) lk_X9_33 C hw rfl rfl rfl (t_Wk_isClash hr) rfl hl.1 dX9_leastClash_23 rfl (Nat.le_of_ble_eq_true rfl) (by decide) (Nat.le_of_ble_eq_true rfl) rfl (fun H locs hw => ?_)
      refine lv_if_eq (tgt := 31) hx hb dX9_leastClash_26 (by decide) (fun q => ?_) (fun q => ?_)
      · have hf := hf_t q hf
        obtain ⟨x3, ex3, hf⟩ := nme hf
        refine lv_iinc (v := x3) (lv' := [(2, .int x3), (0, .ref (ea E 5)), (1, .int l1)]) hx hb dX9_leastClash_31 hl (k := 2) rfl (ki_1 ex3) (by decide) rfl (fun ls hl => ?_)
        refine lv_goto (tgt := 7) hx hb dX9_leastClash_34 (by decide) ?_
        exact hk7 _ hf _ _ _ hw (lv_sub hl [1, 2, 0] rfl)
      · have hf := hf_f q hf
        refine lv_iload_n hx hb dX9_leastClash_29 rfl (lv_at hl 2 rfl) ?_
        exact ret_iS C hw dX9_leastClash_30 hf
theorem w_Wk_leastClash_L7 {N : Nat} {l1 : Int32} {r : Int32} {S9 : St} (C : Cx p s m args meth c E cX9_leastClash 3 RX9 (some .int)) : ∀ x, Wk_leastClash_L7 N S l1 x = some (r, S9) → ∀ (H : Heap) (locs : List Loc) (ls : Array Slot), Wd E (wX V E) s.heap S H locs → lv_has ls 3 [(0, .ref (ea E 5)), (1, .int l1), (2, .int x)] → W p l e (rmh 4) s m args below meth c H locs 0 0 (MQ below (QW E (wX V E) (some (.int r)) S9) args s 0 0 (eA E)) (F0 m 7 ls []) :=
  lp_W (fun k x hk hf H locs ls hw hl => w_Wk_leastClash_b7 C hk hw hl hf) N
set_option maxRecDepth 20000 in
theorem w_Wk_leastClash {N : Nat} {p1 : Int32} {r : Int32} {S9 : St} (C : Cx p s m args meth c E cX9_leastClash 3 RX9 (some .int)) (hw : Wd E (wX V E) s.heap S H locs) (hl : lv_has ls 3 [(0, .ref (ea E 5)), (1, .int p1)]) (hf : Wk_leastClash N S p1 = some (r, S9)) : W p l e (rmh 4) s m args below meth c H locs 0 0 (MQ below (QW E (wX V E) (some (.int r)) S9) args s 0 0 (eA E)) (F0 m 0 ls []) := by
  have hx := C.1
  have hb := C.2.1
  unfold Wk_leastClash at hf
  refine lv_aload_n hx hb dX9_leastClash_0 rfl (lv_at hl 0 rfl) ?_
  refine lv_iload_n hx hb dX9_leastClash_1 rfl (lv_at hl 1 rfl) ?_
  obtain ⟨S1, hr, hf⟩ := hf_1 hf
  refine inv_Vv (q0 := 5) (ci := 9) (As := [.int p1]) lk_X9_19 C hw rfl rfl rfl (t_Wk_fillFits hr) rfl hl.1 dX9_leastClash_2 rfl (Nat.le_of_ble_eq_true rfl) (by decide) (Nat.le_of_ble_eq_true rfl) rfl (fun H locs hw => ?_)
  refine lv_iconst (v := 0) hx hb dX9_leastClash_5 kc_0 ?_
  refine lv_istore_n (lv' := [(2, .int (0 : Int32)), (0, .ref (ea E 5)), (1, .int p1)]) hx hb dX9_leastClash_6 rfl hl (by decide) rfl (fun ls hl => ?_)
  exact w_Wk_leastClash_L7 C _ hf _ _ _ hw (lv_sub hl [1, 2, 0] rfl)
end
theorem t_Wk_leastClash {l : Launch} {V : St} {N : Nat} {S : St} {p1 : Int32} {r : Int32} {S9 : St} (hf : Wk_leastClash N S p1 = some (r, S9)) : Ct l (wX V) yX9_leastClash cX9_leastClash 3 (some .int) 4 (fun E => [.ref (ea E 5), .int p1]) S (fun E => some (.int r)) S9 :=
  ofBlock (by decide +kernel) (fun _ => Nat.le_of_ble_eq_true rfl) (fun E p e s m args below meth c ls C hw hl => w_Wk_leastClash C hw hl hf)
theorem dX10_person_0 : decode cX10_person 0 = .ok (.iload_n 1, 1) := by decide +kernel
theorem dX10_person_1 : decode cX10_person 1 = .ok (.iconst 0, 1) := by decide +kernel
theorem dX10_person_2 : decode cX10_person 2 = .ok (.bipush 30, 2) := by decide +kernel
theorem dX10_person_4 : decode cX10_person 4 = .ok (.invokestatic 83, 3) := by decide +kernel
theorem dX10_person_7 : decode cX10_person 7 = .ok (.ifCond .eq 13, 3) := by decide +kernel
theorem dX10_person_10 : decode cX10_person 10 = .ok (.iload_n 2, 1) := by decide +kernel
theorem dX10_person_11 : decode cX10_person 11 = .ok (.iconst 1, 1) := by decide +kernel
theorem dX10_person_12 : decode cX10_person 12 = .ok (.bipush 60, 2) := by decide +kernel
theorem dX10_person_14 : decode cX10_person 14 = .ok (.invokestatic 83, 3) := by decide +kernel
theorem dX10_person_17 : decode cX10_person 17 = .ok (.ifCond .ne 5, 3) := by decide +kernel
theorem dX10_person_20 : decode cX10_person 20 = .ok (.iconst (-1), 1) := by decide +kernel
theorem dX10_person_21 : decode cX10_person 21 = .ok (.ireturn, 1) := by decide +kernel
theorem dX10_person_22 : decode cX10_person 22 = .ok (.aload_n 0, 1) := by decide +kernel
theorem dX10_person_23 : decode cX10_person 23 = .ok (.getfield 10, 3) := by decide +kernel
theorem dX10_person_26 : decode cX10_person 26 = .ok (.getfield 87, 3) := by decide +kernel
theorem dX10_person_29 : decode cX10_person 29 = .ok (.bipush 6, 2) := by decide +kernel
theorem dX10_person_31 : decode cX10_person 31 = .ok (.if_icmp .ne 8, 3) := by decide +kernel
theorem dX10_person_34 : decode cX10_person 34 = .ok (.bipush (-3), 2) := by decide +kernel
theorem dX10_person_36 : decode cX10_person 36 = .ok (.goto 12, 3) := by decide +kernel
theorem dX10_person_39 : decode cX10_person 39 = .ok (.aload_n 0, 1) := by decide +kernel
theorem dX10_person_40 : decode cX10_person 40 = .ok (.getfield 10, 3) := by decide +kernel
theorem dX10_person_43 : decode cX10_person 43 = .ok (.iload_n 1, 1) := by decide +kernel
theorem dX10_person_44 : decode cX10_person 44 = .ok (.iload_n 2, 1) := by decide +kernel
theorem dX10_person_45 : decode cX10_person 45 = .ok (.invokevirtual 91, 3) := by decide +kernel
theorem dX10_person_48 : decode cX10_person 48 = .ok (.ireturn, 1) := by decide +kernel
def Ch_person (S : St) (p1 : Int32) (p2 : Int32) : Option (Int32 × St) :=
  bd1 (Ch_within S p1 (0 : Int32) (30 : Int32)) fun r1 =>
  if r1 = 0 then
    some ((-1 : Int32), S)
  else
    bd1 (Ch_within S p2 (1 : Int32) (60 : Int32)) fun r2 =>
    if r2 = 0 then
      some ((-1 : Int32), S)
    else
      if (gi S 1 9) = (6 : Int32) then
        some ((-3 : Int32), S)
      else
        bd2 (Sm_addOne S p1 p2) fun r4 S3 =>
        some (r4, S3)
section
variable {p : Program} {l : Launch} {e : Env} {s : State} {m : MethodId} {args : Array Value} {below : List Frame} {meth : Method} {c : Code} {H : Heap} {locs : List Loc} {E : Ev} {S V : St} {ls : Array Slot}
set_option maxRecDepth 20000 in
theorem w_Ch_person {p1 : Int32} {p2 : Int32} {r : Int32} {S9 : St} (C : Cx p s m args meth c E cX10_person 3 RX10 (some .int)) (hw : Wd E (wX V E) s.heap S H locs) (hl : lv_has ls 3 [(0, .ref (ea E 0)), (1, .int p1), (2, .int p2)]) (hf : Ch_person S p1 p2 = some (r, S9)) : W p l e (rmh 2) s m args below meth c H locs 0 0 (MQ below (QW E (wX V E) (some (.int r)) S9) args s 0 0 (eA E)) (F0 m 0 ls []) := by
  have hx := C.1
  have hb := C.2.1
  unfold Ch_person at hf
  refine lv_iload_n hx hb dX10_person_0 rfl (lv_at hl 1 rfl) ?_
  refine lv_iconst (v := 0) hx hb dX10_person_1 kc_0 ?_
  refine lv_bipush (v := 30) hx hb dX10_person_2 kb_30 ?_
  obtain ⟨r1, hr, hf⟩ := hf_1 hf
  refine inv_Si (As := [.int p1, .int (0 : Int32), .int (30 : Int32)]) lk_X10_83 C hw (t_Ch_within hr) hl.1 dX10_person_4 rfl (Nat.le_of_ble_eq_true rfl) (by decide) (Nat.le_of_ble_eq_true rfl) rfl (fun H locs hw => ?_)
  refine lv_if_eq (tgt := 20) hx hb dX10_person_7 (by decide) (fun q => ?_) (fun q => ?_)
  · have hf := hf_t q hf
    refine lv_iconst (v := -1) hx hb dX10_person_20 kc_m1 ?_
    exact ret_iS C hw dX10_person_21 hf
  · have hf := hf_f q hf
    refine lv_iload_n hx hb dX10_person_10 rfl (lv_at hl 2 rfl) ?_
    refine lv_iconst (v := 1) hx hb dX10_person_11 kc_1 ?_
    refine lv_bipush (v := 60) hx hb dX10_person_12 kb_60 ?_
    obtain ⟨r2, hr, hf⟩ := hf_1 hf
    refine inv_Si (As := [.int p2, .int (1 : Int32), .int (60 : Int32)]) lk_X10_83 C hw (t_Ch_within hr) hl.1 dX10_person_14 rfl (Nat.le_of_ble_eq_true rfl) (by decide) (Nat.le_of_ble_eq_true rfl) rfl (fun H locs hw => ?_)
    refine lv_if_ne (tgt := 22) hx hb dX10_person_17 (by decide) (fun q => ?_) (fun q => ?_)
    · have hf := hf_f q hf
      refine lv_aload_n hx hb dX10_person_22 rfl (lv_at hl 0 rfl) ?_
      refine get_0_0 C hw q_374 dX10_person_23 ?_
      refine get_1_9 C hw q_133 dX10_person_26 ?_
      refine lv_bipush (v := 6) hx hb dX10_person_29 kb_6 ?_
      refine lv_icmp_ne (tgt := 39) hx hb dX10_person_31 (by decide) (fun q => ?_) (fun q => ?_)
      · have hf := hf_f q hf
        refine lv_aload_n hx hb dX10_person_39 rfl (lv_at hl 0 rfl) ?_
        refine get_0_0 C hw q_374 dX10_person_40 ?_
        refine lv_iload_n hx hb dX10_person_43 rfl (lv_at hl 1 rfl) ?_
        refine lv_iload_n hx hb dX10_person_44 rfl (lv_at hl 2 rfl) ?_
        obtain ⟨r4, S3, hr, hf⟩ := hf_2 hf
        refine inv_Vi (q0 := 1) (ci := 8) (As := [.int p1, .int p2]) lk_X10_91 C hw rfl rfl rfl (t_Sm_addOne hr) rfl hl.1 dX10_person_45 rfl (Nat.le_of_ble_eq_true rfl) (by decide) (Nat.le_of_ble_eq_true rfl) rfl (fun H locs hw => ?_)
        exact ret_iS C hw dX10_person_48 hf
      · have hf := hf_t q hf
        refine lv_bipush (v := -3) hx hb dX10_person_34 kb_m3 ?_
        refine lv_goto (tgt := 48) hx hb dX10_person_36 (by decide) ?_
        exact ret_iS C hw dX10_person_48 hf
    · have hf := hf_t q hf
      refine lv_iconst (v := -1) hx hb dX10_person_20 kc_m1 ?_
      exact ret_iS C hw dX10_person_21 hf
end
theorem t_Ch_person {l : Launch} {V : St} {S : St} {p1 : Int32} {p2 : Int32} {r : Int32} {S9 : St} (hf : Ch_person S p1 p2 = some (r, S9)) : Ct l (wX V) yX10_person cX10_person 3 (some .int) 2 (fun E => [.ref (ea E 0), .int p1, .int p2]) S (fun E => some (.int r)) S9 :=
  ofBlock (by decide +kernel) (fun _ => Nat.le_of_ble_eq_true rfl) (fun E p e s m args below meth c ls C hw hl => w_Ch_person C hw hl hf)
theorem dX10_promise_0 : decode cX10_promise 0 = .ok (.aload_n 0, 1) := by decide +kernel
theorem dX10_promise_1 : decode cX10_promise 1 = .ok (.getfield 10, 3) := by decide +kernel
theorem dX10_promise_4 : decode cX10_promise 4 = .ok (.iload_n 1, 1) := by decide +kernel
theorem dX10_promise_5 : decode cX10_promise 5 = .ok (.bipush 10, 2) := by decide +kernel
theorem dX10_promise_7 : decode cX10_promise 7 = .ok (.idiv, 1) := by decide +kernel
theorem dX10_promise_8 : decode cX10_promise 8 = .ok (.iload_n 2, 1) := by decide +kernel
theorem dX10_promise_9 : decode cX10_promise 9 = .ok (.bipush 100, 2) := by decide +kernel
theorem dX10_promise_11 : decode cX10_promise 11 = .ok (.idiv, 1) := by decide +kernel
theorem dX10_promise_12 : decode cX10_promise 12 = .ok (.iload_n 2, 1) := by decide +kernel
theorem dX10_promise_13 : decode cX10_promise 13 = .ok (.bipush 100, 2) := by decide +kernel
theorem dX10_promise_15 : decode cX10_promise 15 = .ok (.irem, 1) := by decide +kernel
theorem dX10_promise_16 : decode cX10_promise 16 = .ok (.iload_n 1, 1) := by decide +kernel
theorem dX10_promise_17 : decode cX10_promise 17 = .ok (.bipush 10, 2) := by decide +kernel
theorem dX10_promise_19 : decode cX10_promise 19 = .ok (.irem, 1) := by decide +kernel
theorem dX10_promise_20 : decode cX10_promise 20 = .ok (.invokevirtual 95, 3) := by decide +kernel
theorem dX10_promise_23 : decode cX10_promise 23 = .ok (.ifCond .ne 5, 3) := by decide +kernel
theorem dX10_promise_26 : decode cX10_promise 26 = .ok (.iconst (-1), 1) := by decide +kernel
theorem dX10_promise_27 : decode cX10_promise 27 = .ok (.ireturn, 1) := by decide +kernel
theorem dX10_promise_28 : decode cX10_promise 28 = .ok (.aload_n 0, 1) := by decide +kernel
theorem dX10_promise_29 : decode cX10_promise 29 = .ok (.getfield 10, 3) := by decide +kernel
theorem dX10_promise_32 : decode cX10_promise 32 = .ok (.invokevirtual 99, 3) := by decide +kernel
theorem dX10_promise_35 : decode cX10_promise 35 = .ok (.ifCond .eq 8, 3) := by decide +kernel
theorem dX10_promise_38 : decode cX10_promise 38 = .ok (.bipush (-3), 2) := by decide +kernel
theorem dX10_promise_40 : decode cX10_promise 40 = .ok (.goto 26, 3) := by decide +kernel
theorem dX10_promise_43 : decode cX10_promise 43 = .ok (.aload_n 0, 1) := by decide +kernel
theorem dX10_promise_44 : decode cX10_promise 44 = .ok (.getfield 10, 3) := by decide +kernel
theorem dX10_promise_47 : decode cX10_promise 47 = .ok (.iload_n 1, 1) := by decide +kernel
theorem dX10_promise_48 : decode cX10_promise 48 = .ok (.bipush 10, 2) := by decide +kernel
theorem dX10_promise_50 : decode cX10_promise 50 = .ok (.idiv, 1) := by decide +kernel
theorem dX10_promise_51 : decode cX10_promise 51 = .ok (.iload_n 2, 1) := by decide +kernel
theorem dX10_promise_52 : decode cX10_promise 52 = .ok (.bipush 100, 2) := by decide +kernel
theorem dX10_promise_54 : decode cX10_promise 54 = .ok (.idiv, 1) := by decide +kernel
theorem dX10_promise_55 : decode cX10_promise 55 = .ok (.iload_n 2, 1) := by decide +kernel
theorem dX10_promise_56 : decode cX10_promise 56 = .ok (.bipush 100, 2) := by decide +kernel
theorem dX10_promise_58 : decode cX10_promise 58 = .ok (.irem, 1) := by decide +kernel
theorem dX10_promise_59 : decode cX10_promise 59 = .ok (.iload_n 1, 1) := by decide +kernel
theorem dX10_promise_60 : decode cX10_promise 60 = .ok (.bipush 10, 2) := by decide +kernel
theorem dX10_promise_62 : decode cX10_promise 62 = .ok (.irem, 1) := by decide +kernel
theorem dX10_promise_63 : decode cX10_promise 63 = .ok (.invokevirtual 103, 3) := by decide +kernel
theorem dX10_promise_66 : decode cX10_promise 66 = .ok (.ireturn, 1) := by decide +kernel
def Ch_promise (S : St) (p1 : Int32) (p2 : Int32) : Option (Int32 × St) :=
  bd1 (Sm_canPromise S (p1 / (10 : Int32)) (p2 / (100 : Int32)) (p2 - p2 / (100 : Int32) * (100 : Int32)) (p1 - p1 / (10 : Int32) * (10 : Int32))) fun r1 =>
  if r1 = 0 then
    some ((-1 : Int32), S)
  else
    bd1 (Sm_isFull S) fun r2 =>
    if r2 = 0 then
      bd2 (Sm_addPromise S (p1 / (10 : Int32)) (p2 / (100 : Int32)) (p2 - p2 / (100 : Int32) * (100 : Int32)) (p1 - p1 / (10 : Int32) * (10 : Int32))) fun r4 S3 =>
      some (r4, S3)
    else
      some ((-3 : Int32), S)
section
variable {p : Program} {l : Launch} {e : Env} {s : State} {m : MethodId} {args : Array Value} {below : List Frame} {meth : Method} {c : Code} {H : Heap} {locs : List Loc} {E : Ev} {S V : St} {ls : Array Slot}
set_option maxRecDepth 20000 in
theorem w_Ch_promise {p1 : Int32} {p2 : Int32} {r : Int32} {S9 : St} (C : Cx p s m args meth c E cX10_promise 3 RX10 (some .int)) (hw : Wd E (wX V E) s.heap S H locs) (hl : lv_has ls 3 [(0, .ref (ea E 0)), (1, .int p1), (2, .int p2)]) (hf : Ch_promise S p1 p2 = some (r, S9)) : W p l e (rmh 4) s m args below meth c H locs 0 0 (MQ below (QW E (wX V E) (some (.int r)) S9) args s 0 0 (eA E)) (F0 m 0 ls []) := by
  have hx := C.1
  have hb := C.2.1
  unfold Ch_promise at hf
  refine lv_aload_n hx hb dX10_promise_0 rfl (lv_at hl 0 rfl) ?_
  refine get_0_0 C hw q_374 dX10_promise_1 ?_
  refine lv_iload_n hx hb dX10_promise_4 rfl (lv_at hl 1 rfl) ?_
  refine lv_bipush (v := 10) hx hb dX10_promise_5 kb_10 ?_
  refine lv_idiv hx hb dX10_promise_7 (by decide) ?_
  refine lv_iload_n hx hb dX10_promise_8 rfl (lv_at hl 2 rfl) ?_
  refine lv_bipush (v := 100) hx hb dX10_promise_9 kb_100 ?_
  refine lv_idiv hx hb dX10_promise_11 (by decide) ?_
  refine lv_iload_n hx hb dX10_promise_12 rfl (lv_at hl 2 rfl) ?_
  refine lv_bipush (v := 100) hx hb dX10_promise_13 kb_100 ?_
  refine lv_irem hx hb dX10_promise_15 (by decide) ?_
  refine lv_iload_n hx hb dX10_promise_16 rfl (lv_at hl 1 rfl) ?_
  refine lv_bipush (v := 10) hx hb dX10_promise_17 kb_10 ?_
  refine lv_irem hx hb dX10_promise_19 (by decide) ?_
  obtain ⟨r1, hr, hf⟩ := hf_1 hf
  refine inv_Vi (q0 := 1) (ci := 8) (As := [.int (p1 / (10 : Int32)), .int (p2 / (100 : Int32)), .int (p2 - p2 / (100 : Int32) * (100 : Int32)), .int (p1 - p1 / (10 : Int32) * (10 : Int32))]) lk_X10_95 C hw rfl rfl rfl (t_Sm_canPromise hr) rfl hl.1 dX10_promise_20 rfl (Nat.le_of_ble_eq_true rfl) (by decide) (Nat.le_of_ble_eq_true rfl) rfl (fun H locs hw => ?_)
  refine lv_if_ne (tgt := 28) hx hb dX10_promise_23 (by decide) (fun q => ?_) (fun q => ?_)
  · have hf := hf_f q hf
    refine lv_aload_n hx hb dX10_promise_28 rfl (lv_at hl 0 rfl) ?_
    refine get_0_0 C hw q_374 dX10_promise_29 ?_
    obtain ⟨r2, hr, hf⟩ := hf_1 hf
    refine inv_Vi (q0 := 1) (ci := 8) (As := []) lk_X10_99 C hw rfl rfl rfl (t_Sm_isFull hr) rfl hl.1 dX10_promise_32 rfl (Nat.le_of_ble_eq_true rfl) (by decide) (Nat.le_of_ble_eq_true rfl) rfl (fun H locs hw => ?_)
    refine lv_if_eq (tgt := 43) hx hb dX10_promise_35 (by decide) (fun q => ?_) (fun q => ?_)
    · have hf := hf_t q hf
      refine lv_aload_n hx hb dX10_promise_43 rfl (lv_at hl 0 rfl) ?_
      refine get_0_0 C hw q_374 dX10_promise_44 ?_
      refine lv_iload_n hx hb dX10_promise_47 rfl (lv_at hl 1 rfl) ?_
      refine lv_bipush (v := 10) hx hb dX10_promise_48 kb_10 ?_
      refine lv_idiv hx hb dX10_promise_50 (by decide) ?_
      refine lv_iload_n hx hb dX10_promise_51 rfl (lv_at hl 2 rfl) ?_
      refine lv_bipush (v := 100) hx hb dX10_promise_52 kb_100 ?_
      refine lv_idiv hx hb dX10_promise_54 (by decide) ?_
      refine lv_iload_n hx hb dX10_promise_55 rfl (lv_at hl 2 rfl) ?_
      refine lv_bipush (v := 100) hx hb dX10_promise_56 kb_100 ?_
      refine lv_irem hx hb dX10_promise_58 (by decide) ?_
      refine lv_iload_n hx hb dX10_promise_59 rfl (lv_at hl 1 rfl) ?_
      refine lv_bipush (v := 10) hx hb dX10_promise_60 kb_10 ?_
      refine lv_irem hx hb dX10_promise_62 (by decide) ?_
      obtain ⟨r4, S3, hr, hf⟩ := hf_2 hf
      refine inv_Vi (q0 := 1) (ci := 8) (As := [.int (p1 / (10 : Int32)), .int (p2 / (100 : Int32)), .int (p2 - p2 / (100 : Int32) * (100 : Int32)), .int (p1 - p1 / (10 : Int32) * (10 : Int32))]) lk_X10_103 C hw rfl rfl rfl (t_Sm_addPromise hr) rfl hl.1 dX10_promise_63 rfl (Nat.le_of_ble_eq_true rfl) (by decide) (Nat.le_of_ble_eq_true rfl) rfl (fun H locs hw => ?_)
      exact ret_iS C hw dX10_promise_66 hf
    · have hf := hf_f q hf
      refine lv_bipush (v := -3) hx hb dX10_promise_38 kb_m3 ?_
      refine lv_goto (tgt := 66) hx hb dX10_promise_40 (by decide) ?_
      exact ret_iS C hw dX10_promise_66 hf
  · have hf := hf_t q hf
    refine lv_iconst (v := -1) hx hb dX10_promise_26 kc_m1 ?_
    exact ret_iS C hw dX10_promise_27 hf
end
theorem t_Ch_promise {l : Launch} {V : St} {S : St} {p1 : Int32} {p2 : Int32} {r : Int32} {S9 : St} (hf : Ch_promise S p1 p2 = some (r, S9)) : Ct l (wX V) yX10_promise cX10_promise 3 (some .int) 4 (fun E => [.ref (ea E 0), .int p1, .int p2]) S (fun E => some (.int r)) S9 :=
  ofBlock (by decide +kernel) (fun _ => Nat.le_of_ble_eq_true rfl) (fun E p e s m args below meth c ls C hw hl => w_Ch_promise C hw hl hf)
theorem dX10_promisesFromRow_0 : decode cX10_promisesFromRow 0 = .ok (.iconst 0, 1) := by decide +kernel
theorem dX10_promisesFromRow_1 : decode cX10_promisesFromRow 1 = .ok (.istore 4, 2) := by decide +kernel
theorem dX10_promisesFromRow_3 : decode cX10_promisesFromRow 3 = .ok (.iload 4, 2) := by decide +kernel
theorem dX10_promisesFromRow_5 : decode cX10_promisesFromRow 5 = .ok (.iload_n 3, 1) := by decide +kernel
theorem dX10_promisesFromRow_6 : decode cX10_promisesFromRow 6 = .ok (.if_icmp .ge 140, 3) := by decide +kernel
theorem dX10_promisesFromRow_9 : decode cX10_promisesFromRow 9 = .ok (.aload_n 0, 1) := by decide +kernel
theorem dX10_promisesFromRow_10 : decode cX10_promisesFromRow 10 = .ok (.getfield 10, 3) := by decide +kernel
theorem dX10_promisesFromRow_13 : decode cX10_promisesFromRow 13 = .ok (.invokevirtual 99, 3) := by decide +kernel
theorem dX10_promisesFromRow_16 : decode cX10_promisesFromRow 16 = .ok (.ifCond .ne 130, 3) := by decide +kernel
theorem dX10_promisesFromRow_19 : decode cX10_promisesFromRow 19 = .ok (.aload_n 0, 1) := by decide +kernel
theorem dX10_promisesFromRow_20 : decode cX10_promisesFromRow 20 = .ok (.getfield 26, 3) := by decide +kernel
theorem dX10_promisesFromRow_23 : decode cX10_promisesFromRow 23 = .ok (.iload_n 1, 1) := by decide +kernel
theorem dX10_promisesFromRow_24 : decode cX10_promisesFromRow 24 = .ok (.iload_n 2, 1) := by decide +kernel
theorem dX10_promisesFromRow_25 : decode cX10_promisesFromRow 25 = .ok (.iconst 4, 1) := by decide +kernel
theorem dX10_promisesFromRow_26 : decode cX10_promisesFromRow 26 = .ok (.iload 4, 2) := by decide +kernel
theorem dX10_promisesFromRow_28 : decode cX10_promisesFromRow 28 = .ok (.imul, 1) := by decide +kernel
theorem dX10_promisesFromRow_29 : decode cX10_promisesFromRow 29 = .ok (.iconst 4, 1) := by decide +kernel
theorem dX10_promisesFromRow_30 : decode cX10_promisesFromRow 30 = .ok (.iadd, 1) := by decide +kernel
theorem dX10_promisesFromRow_31 : decode cX10_promisesFromRow 31 = .ok (.invokevirtual 118, 3) := by decide +kernel
theorem dX10_promisesFromRow_34 : decode cX10_promisesFromRow 34 = .ok (.ifCond .eq 112, 3) := by decide +kernel
theorem dX10_promisesFromRow_37 : decode cX10_promisesFromRow 37 = .ok (.iload_n 2, 1) := by decide +kernel
theorem dX10_promisesFromRow_38 : decode cX10_promisesFromRow 38 = .ok (.iconst 4, 1) := by decide +kernel
theorem dX10_promisesFromRow_39 : decode cX10_promisesFromRow 39 = .ok (.iload 4, 2) := by decide +kernel
theorem dX10_promisesFromRow_41 : decode cX10_promisesFromRow 41 = .ok (.imul, 1) := by decide +kernel
theorem dX10_promisesFromRow_42 : decode cX10_promisesFromRow 42 = .ok (.iadd, 1) := by decide +kernel
theorem dX10_promisesFromRow_43 : decode cX10_promisesFromRow 43 = .ok (.istore 5, 2) := by decide +kernel
theorem dX10_promisesFromRow_45 : decode cX10_promisesFromRow 45 = .ok (.aload_n 0, 1) := by decide +kernel
theorem dX10_promisesFromRow_46 : decode cX10_promisesFromRow 46 = .ok (.getfield 26, 3) := by decide +kernel
theorem dX10_promisesFromRow_49 : decode cX10_promisesFromRow 49 = .ok (.iload_n 1, 1) := by decide +kernel
theorem dX10_promisesFromRow_50 : decode cX10_promisesFromRow 50 = .ok (.iload 5, 2) := by decide +kernel
theorem dX10_promisesFromRow_52 : decode cX10_promisesFromRow 52 = .ok (.invokevirtual 121, 3) := by decide +kernel
theorem dX10_promisesFromRow_55 : decode cX10_promisesFromRow 55 = .ok (.l2i, 1) := by decide +kernel
theorem dX10_promisesFromRow_56 : decode cX10_promisesFromRow 56 = .ok (.istore 6, 2) := by decide +kernel
theorem dX10_promisesFromRow_58 : decode cX10_promisesFromRow 58 = .ok (.aload_n 0, 1) := by decide +kernel
theorem dX10_promisesFromRow_59 : decode cX10_promisesFromRow 59 = .ok (.getfield 26, 3) := by decide +kernel
theorem dX10_promisesFromRow_62 : decode cX10_promisesFromRow 62 = .ok (.iload_n 1, 1) := by decide +kernel
theorem dX10_promisesFromRow_63 : decode cX10_promisesFromRow 63 = .ok (.iload 5, 2) := by decide +kernel
theorem dX10_promisesFromRow_65 : decode cX10_promisesFromRow 65 = .ok (.iconst 1, 1) := by decide +kernel
theorem dX10_promisesFromRow_66 : decode cX10_promisesFromRow 66 = .ok (.iadd, 1) := by decide +kernel
theorem dX10_promisesFromRow_67 : decode cX10_promisesFromRow 67 = .ok (.invokevirtual 121, 3) := by decide +kernel
theorem dX10_promisesFromRow_70 : decode cX10_promisesFromRow 70 = .ok (.l2i, 1) := by decide +kernel
theorem dX10_promisesFromRow_71 : decode cX10_promisesFromRow 71 = .ok (.istore 7, 2) := by decide +kernel
theorem dX10_promisesFromRow_73 : decode cX10_promisesFromRow 73 = .ok (.aload_n 0, 1) := by decide +kernel
theorem dX10_promisesFromRow_74 : decode cX10_promisesFromRow 74 = .ok (.getfield 26, 3) := by decide +kernel
theorem dX10_promisesFromRow_77 : decode cX10_promisesFromRow 77 = .ok (.iload_n 1, 1) := by decide +kernel
theorem dX10_promisesFromRow_78 : decode cX10_promisesFromRow 78 = .ok (.iload 5, 2) := by decide +kernel
theorem dX10_promisesFromRow_80 : decode cX10_promisesFromRow 80 = .ok (.iconst 2, 1) := by decide +kernel
theorem dX10_promisesFromRow_81 : decode cX10_promisesFromRow 81 = .ok (.iadd, 1) := by decide +kernel
theorem dX10_promisesFromRow_82 : decode cX10_promisesFromRow 82 = .ok (.invokevirtual 121, 3) := by decide +kernel
theorem dX10_promisesFromRow_85 : decode cX10_promisesFromRow 85 = .ok (.l2i, 1) := by decide +kernel
theorem dX10_promisesFromRow_86 : decode cX10_promisesFromRow 86 = .ok (.istore 8, 2) := by decide +kernel
theorem dX10_promisesFromRow_88 : decode cX10_promisesFromRow 88 = .ok (.aload_n 0, 1) := by decide +kernel
theorem dX10_promisesFromRow_89 : decode cX10_promisesFromRow 89 = .ok (.getfield 26, 3) := by decide +kernel
theorem dX10_promisesFromRow_92 : decode cX10_promisesFromRow 92 = .ok (.iload_n 1, 1) := by decide +kernel
theorem dX10_promisesFromRow_93 : decode cX10_promisesFromRow 93 = .ok (.iload 5, 2) := by decide +kernel
theorem dX10_promisesFromRow_95 : decode cX10_promisesFromRow 95 = .ok (.iconst 3, 1) := by decide +kernel
theorem dX10_promisesFromRow_96 : decode cX10_promisesFromRow 96 = .ok (.iadd, 1) := by decide +kernel
theorem dX10_promisesFromRow_97 : decode cX10_promisesFromRow 97 = .ok (.invokevirtual 121, 3) := by decide +kernel
theorem dX10_promisesFromRow_100 : decode cX10_promisesFromRow 100 = .ok (.l2i, 1) := by decide +kernel
theorem dX10_promisesFromRow_101 : decode cX10_promisesFromRow 101 = .ok (.istore 9, 2) := by decide +kernel
theorem dX10_promisesFromRow_103 : decode cX10_promisesFromRow 103 = .ok (.aload_n 0, 1) := by decide +kernel
theorem dX10_promisesFromRow_104 : decode cX10_promisesFromRow 104 = .ok (.getfield 10, 3) := by decide +kernel
theorem dX10_promisesFromRow_107 : decode cX10_promisesFromRow 107 = .ok (.iload 6, 2) := by decide +kernel
theorem dX10_promisesFromRow_109 : decode cX10_promisesFromRow 109 = .ok (.iload 7, 2) := by decide +kernel
theorem dX10_promisesFromRow_111 : decode cX10_promisesFromRow 111 = .ok (.iload 8, 2) := by decide +kernel
theorem dX10_promisesFromRow_113 : decode cX10_promisesFromRow 113 = .ok (.iload 9, 2) := by decide +kernel
theorem dX10_promisesFromRow_115 : decode cX10_promisesFromRow 115 = .ok (.invokevirtual 95, 3) := by decide +kernel
theorem dX10_promisesFromRow_118 : decode cX10_promisesFromRow 118 = .ok (.ifCond .ne 6, 3) := by decide +kernel
theorem dX10_promisesFromRow_121 : decode cX10_promisesFromRow 121 = .ok (.goto 25, 3) := by decide +kernel
theorem dX10_promisesFromRow_124 : decode cX10_promisesFromRow 124 = .ok (.aload_n 0, 1) := by decide +kernel
theorem dX10_promisesFromRow_125 : decode cX10_promisesFromRow 125 = .ok (.getfield 10, 3) := by decide +kernel
theorem dX10_promisesFromRow_128 : decode cX10_promisesFromRow 128 = .ok (.iload 6, 2) := by decide +kernel
theorem dX10_promisesFromRow_130 : decode cX10_promisesFromRow 130 = .ok (.iload 7, 2) := by decide +kernel
theorem dX10_promisesFromRow_132 : decode cX10_promisesFromRow 132 = .ok (.iload 8, 2) := by decide +kernel
theorem dX10_promisesFromRow_134 : decode cX10_promisesFromRow 134 = .ok (.iload 9, 2) := by decide +kernel
theorem dX10_promisesFromRow_136 : decode cX10_promisesFromRow 136 = .ok (.invokevirtual 103, 3) := by decide +kernel
theorem dX10_promisesFromRow_139 : decode cX10_promisesFromRow 139 = .ok (.pop, 1) := by decide +kernel
theorem dX10_promisesFromRow_140 : decode cX10_promisesFromRow 140 = .ok (.iinc 4 1, 3) := by decide +kernel
theorem dX10_promisesFromRow_143 : decode cX10_promisesFromRow 143 = .ok (.goto (-140), 3) := by decide +kernel
theorem dX10_promisesFromRow_146 : decode cX10_promisesFromRow 146 = .ok (.iload 4, 2) := by decide +kernel
theorem dX10_promisesFromRow_148 : decode cX10_promisesFromRow 148 = .ok (.ireturn, 1) := by decide +kernel
def Ch_promisesFromRow_b3 (N : Nat) (k3 : (St × Int32) → Option (Int32 × St)) (S : St) (l1 : Int32) (l2 : Int32) (l3 : Int32) (l4 : Int32) : Option (Int32 × St) :=
  if l3 ≤ l4 then
    some (l4, S)
  else
    bd1 (Sm_isFull S) fun r1 =>
    if r1 = 0 then
      bd1 (Sh_hasPlaces S l1 l2 (((4 : Int32) * l4) + (4 : Int32))) fun r2 =>
      if r2 = 0 then
        some (l4, S)
      else
        nm ((l2 + ((4 : Int32) * l4))) fun x3 =>
        bd1 (Sh_elementAt S l1 x3) fun r4 =>
        nm ((Int64.toInt32 r4)) fun x5 =>
        bd1 (Sh_elementAt S l1 (x3 + (1 : Int32))) fun r6 =>
        nm ((Int64.toInt32 r6)) fun x7 =>
        bd1 (Sh_elementAt S l1 (x3 + (2 : Int32))) fun r8 =>
        nm ((Int64.toInt32 r8)) fun x9 =>
        bd1 (Sh_elementAt S l1 (x3 + (3 : Int32))) fun r10 =>
        nm ((Int64.toInt32 r10)) fun x11 =>
        bd1 (Sm_canPromise S x5 x7 x9 x11) fun r12 =>
        if r12 = 0 then
          some (l4, S)
        else
          bd2 (Sm_addPromise S x5 x7 x9 x11) fun r14 S13 =>
          nm (l4 + (1)) fun x15 =>
          k3 (S13, x15)
    else
      some (l4, S)
def Ch_promisesFromRow_L3 (N : Nat) (l1 : Int32) (l2 : Int32) (l3 : Int32) : (St × Int32) → Option (Int32 × St) :=
  lp (fun k x => Ch_promisesFromRow_b3 N k x.1 l1 l2 l3 x.2) N
def Ch_promisesFromRow (N : Nat) (S : St) (p1 : Int32) (p2 : Int32) (p3 : Int32) : Option (Int32 × St) :=
  Ch_promisesFromRow_L3 N p1 p2 p3 (S, (0 : Int32))
section
variable {p : Program} {l : Launch} {e : Env} {s : State} {m : MethodId} {args : Array Value} {below : List Frame} {meth : Method} {c : Code} {H : Heap} {locs : List Loc} {E : Ev} {S V : St} {ls : Array Slot}
set_option maxRecDepth 20000 in
theorem w_Ch_promisesFromRow_b3 {N : Nat} {k3 : (St × Int32) → Option (Int32 × St)} {l1 : Int32} {l2 : Int32} {l3 : Int32} {l4 : Int32} {r : Int32} {S9 : St} (C : Cx p s m args meth c E cX10_promisesFromRow 10 RX10 (some .int)) (hk3 : ∀ x, k3 x = some (r, S9) → ∀ (H : Heap) (locs : List Loc) (ls : Array Slot), Wd E (wX V E) s.heap x.1 H locs → lv_has ls 10 [(0, .ref (ea E 0)), (1, .int l1), (2, .int l2), (3, .int l3), (4, .int x.2)] → W p l e (rmh 4) s m args below meth c H locs 0 0 (MQ below (QW E (wX V E) (some (.int r)) S9) args s 0 0 (eA E)) (F0 m 3 ls [])) (hw : Wd E (wX V E) s.heap S H locs) (hl : lv_has ls 10 [(0, .ref (ea E 0)), (1, .int l1), (2, .int l2), (3, .int l3), (4, .int l4)]) (hf : Ch_promisesFromRow_b3 N k3 S l1 l2 l3 l4 = some (r, S9)) : W p l e (rmh 4) s m args below meth c H locs 0 0 (MQ below (QW E (wX V E) (some (.int r)) S9) args s 0 0 (eA E)) (F0 m 3 ls []) := by
  have hx := C.1
  have hb := C.2.1
  unfold Ch_promisesFromRow_b3 at hf
  refine lv_iload hx hb dX10_promisesFromRow_3 (lv_at hl 4 rfl) ?_
  refine lv_iload_n hx hb dX10_promisesFromRow_5 rfl (lv_at hl 3 rfl) ?_
  refine lv_icmp_ge (tgt := 146) hx hb dX10_promisesFromRow_6 (by decide) (fun q => ?_) (fun q => ?_)
  · have hf := hf_t q hf
    refine lv_iload hx hb dX10_promisesFromRow_146 (lv_at hl 4 rfl) ?_
    exact ret_iS C hw dX10_promisesFromRow_148 hf
  · have hf := hf_f q hf
    refine lv_aload_n hx hb dX10_promisesFromRow_9 rfl (lv_at hl 0 rfl) ?_
    refine get_0_0 C hw q_374 dX10_promisesFromRow_10 ?_
    obtain ⟨r1, hr, hf⟩ := hf_1 hf
    refine inv_Vi (q0 := 1) (ci := 8) (As := []) lk_X10_99 C hw rfl rfl rfl (t_Sm_isFull hr) rfl hl.1 dX10_promisesFromRow_13 rfl (Nat.le_of_ble_eq_true rfl) (by decide) (Nat.le_of_ble_eq_true rfl) rfl (fun H locs hw => ?_)
    refine lv_if_ne (tgt := 146) hx hb dX10_promisesFromRow_16 (by decide) (fun q => ?_) (fun q => ?_)
    · have hf := hf_f q hf
      refine lv_iload hx hb dX10_promisesFromRow_146 (lv_at hl 4 rfl) ?_
      exact ret_iS C hw dX10_promisesFromRow_148 hf
    · have hf := hf_t q hf
      refine lv_aload_n hx hb dX10_promisesFromRow_19 rfl (lv_at hl 0 rfl) ?_
      refine get_0_9 C hw q_383 dX10_promisesFromRow_20 ?_
      refine lv_iload_n hx hb dX10_promisesFromRow_23 rfl (lv_at hl 1 rfl) ?_
      refine lv_iload_n hx hb dX10_promisesFromRow_24 rfl (lv_at hl 2 rfl) ?_
      refine lv_iconst (v := 4) hx hb dX10_promisesFromRow_25 kc_4 ?_
      refine lv_iload hx hb dX10_promisesFromRow_26 (lv_at hl 4 rfl) ?_
      refine lv_imul hx hb dX10_promisesFromRow_28 ?_
      refine lv_iconst (v := 4) hx hb dX10_promisesFromRow_29 kc_4 ?_
      refine lv_iadd hx hb dX10_promisesFromRow_30 ?_
      obtain ⟨r2, hr, hf⟩ := hf_1 hf
      refine inv_Vi (q0 := 10) (ci := 7) (As := [.int l1, .int l2, .int (((4 : Int32) * l4) + (4 : Int32))]) lk_X10_118 C hw rfl rfl rfl (t_Sh_hasPlaces hr) rfl hl.1 dX10_promisesFromRow_31 rfl (Nat.le_of_ble_eq_true rfl) (by decide) (Nat.le_of_ble_eq_true rfl) rfl (fun H locs hw => ?_)
      refine lv_if_eq (tgt := 146) hx hb dX10_promisesFromRow_34 (by decide) (fun q => ?_) (fun q => ?_)
      · have hf := hf_t q hf
        refine lv_iload hx hb dX10_promisesFromRow_146 (lv_at hl 4 rfl) ?_
        exact ret_iS C hw dX10_promisesFromRow_148 hf
      · have hf := hf_f q hf
        refine lv_iload_n hx hb dX10_promisesFromRow_37 rfl (lv_at hl 2 rfl) ?_
        refine lv_iconst (v := 4) hx hb dX10_promisesFromRow_38 kc_4 ?_
        refine lv_iload hx hb dX10_promisesFromRow_39 (lv_at hl 4 rfl) ?_
        refine lv_imul hx hb dX10_promisesFromRow_41 ?_
        refine lv_iadd hx hb dX10_promisesFromRow_42 ?_
        refine nm_i hf (fun x3 hf => ?_)
        refine lv_istore (lv' := [(5, .int x3), (0, .ref (ea E 0)), (1, .int l1), (2, .int l2), (3, .int l3), (4, .int l4)]) hx hb dX10_promisesFromRow_43 hl (by decide) rfl (fun ls hl => ?_)
        refine lv_aload_n hx hb dX10_promisesFromRow_45 rfl (lv_at hl 1 rfl) ?_
        refine get_0_9 C hw q_383 dX10_promisesFromRow_46 ?_
        refine lv_iload_n hx hb dX10_promisesFromRow_49 rfl (lv_at hl 2 rfl) ?_
        refine lv_iload hx hb dX10_promisesFromRow_50 (lv_at hl 0 rfl) ?_
        obtain ⟨r4, hr, hf⟩ := hf_1 hf
        refine inv_Vl (q0 := 10) (ci := 7) (As := [.int l1, .int x3]) lk_X10_121 C hw rfl rfl rfl (t_Sh_elementAt hr) rfl hl.1 dX10_promisesFromRow_52 rfl (Nat.le_of_ble_eq_true rfl) (by decide) (Nat.le_of_ble_eq_true rfl) rfl (fun H locs hw => ?_)
        refine lv_l2i hx hb dX10_promisesFromRow_55 rfl ?_
        refine nm_i hf (fun x5 hf => ?_)
        refine lv_istore (lv' := [(6, .int x5), (5, .int x3), (0, .ref (ea E 0)), (1, .int l1), (2, .int l2), (3, .int l3), (4, .int l4)]) hx hb dX10_promisesFromRow_56 hl (by decide) rfl (fun ls hl => ?_)
        refine lv_aload_n hx hb dX10_promisesFromRow_58 rfl (lv_at hl 2 rfl) ?_
        refine get_0_9 C hw q_383 dX10_promisesFromRow_59 ?_
        refine lv_iload_n hx hb dX10_promisesFromRow_62 rfl (lv_at hl 3 rfl) ?_
        refine lv_iload hx hb dX10_promisesFromRow_63 (lv_at hl 1 rfl) ?_
        refine lv_iconst (v := 1) hx hb dX10_promisesFromRow_65 kc_1 ?_
        refine lv_iadd hx hb dX10_promisesFromRow_66 ?_
        obtain ⟨r6, hr, hf⟩ := hf_1 hf
        refine inv_Vl (q0 := 10) (ci := 7) (As := [.int l1, .int (x3 + (1 : Int32))]) lk_X10_121 C hw rfl rfl rfl (t_Sh_elementAt hr) rfl hl.1 dX10_promisesFromRow_67 rfl (Nat.le_of_ble_eq_true rfl) (by decide) (Nat.le_of_ble_eq_true rfl) rfl (fun H locs hw => ?_)
        refine lv_l2i hx hb dX10_promisesFromRow_70 rfl ?_
        refine nm_i hf (fun x7 hf => ?_)
        refine lv_istore (lv' := [(7, .int x7), (6, .int x5), (5, .int x3), (0, .ref (ea E 0)), (1, .int l1), (2, .int l2), (3, .int l3), (4, .int l4)]) hx hb dX10_promisesFromRow_71 hl (by decide) rfl (fun ls hl => ?_)
        refine lv_aload_n hx hb dX10_promisesFromRow_73 rfl (lv_at hl 3 rfl) ?_
        refine get_0_9 C hw q_383 dX10_promisesFromRow_74 ?_
        refine lv_iload_n hx hb dX10_promisesFromRow_77 rfl (lv_at hl 4 rfl) ?_
        refine lv_iload hx hb dX10_promisesFromRow_78 (lv_at hl 2 rfl) ?_
        refine lv_iconst (v := 2) hx hb dX10_promisesFromRow_80 kc_2 ?_
        refine lv_iadd hx hb dX10_promisesFromRow_81 ?_
        obtain ⟨r8, hr, hf⟩ := hf_1 hf
        refine inv_Vl (q0 := 10) (ci := 7) (As := [.int l1, .int (x3 + (2 : Int32))]) lk_X10_121 C hw rfl rfl rfl (t_Sh_elementAt hr) rfl hl.1 dX10_promisesFromRow_82 rfl (Nat.le_of_ble_eq_true rfl) (by decide) (Nat.le_of_ble_eq_true rfl) rfl (fun H locs hw => ?_)
        refine lv_l2i hx hb dX10_promisesFromRow_85 rfl ?_
        refine nm_i hf (fun x9 hf => ?_)
        refine lv_istore (lv' := [(8, .int x9), (7, .int x7), (6, .int x5), (5, .int x3), (0, .ref (ea E 0)), (1, .int l1), (2, .int l2), (3, .int l3), (4, .int l4)]) hx hb dX10_promisesFromRow_86 hl (by decide) rfl (fun ls hl => ?_)
        refine lv_aload_n hx hb dX10_promisesFromRow_88 rfl (lv_at hl 4 rfl) ?_
        refine get_0_9 C hw q_383 dX10_promisesFromRow_89 ?_
        refine lv_iload_n hx hb dX10_promisesFromRow_92 rfl (lv_at hl 5 rfl) ?_
        refine lv_iload hx hb dX10_promisesFromRow_93 (lv_at hl 3 rfl) ?_
        refine lv_iconst (v := 3) hx hb dX10_promisesFromRow_95 kc_3 ?_
        refine lv_iadd hx hb dX10_promisesFromRow_96 ?_
        obtain ⟨r10, hr, hf⟩ := hf_1 hf
        refine inv_Vl (q0 := 10) (ci := 7) (As := [.int l1, .int (x3 + (3 : Int32))]) lk_X10_121 C hw rfl rfl rfl (t_Sh_elementAt hr) rfl hl.1 dX10_promisesFromRow_97 rfl (Nat.le_of_ble_eq_true rfl) (by decide) (Nat.le_of_ble_eq_true rfl) rfl (fun H locs hw => ?_)
        refine lv_l2i hx hb dX10_promisesFromRow_100 rfl ?_
        refine nm_i hf (fun x11 hf => ?_)
        refine lv_istore (lv' := [(9, .int x11), (8, .int x9), (7, .int x7), (6, .int x5), (5, .int x3), (0, .ref (ea E 0)), (1, .int l1), (2, .int l2), (3, .int l3), (4, .int l4)]) hx hb dX10_promisesFromRow_101 hl (by decide) rfl (fun ls hl => ?_)
        refine lv_aload_n hx hb dX10_promisesFromRow_103 rfl (lv_at hl 5 rfl) ?_
        refine get_0_0 C hw q_374 dX10_promisesFromRow_104 ?_
        refine lv_iload hx hb dX10_promisesFromRow_107 (lv_at hl 3 rfl) ?_
        refine lv_iload hx hb dX10_promisesFromRow_109 (lv_at hl 2 rfl) ?_
        refine lv_iload hx hb dX10_promisesFromRow_111 (lv_at hl 1 rfl) ?_
        refine lv_iload hx hb dX10_promisesFromRow_113 (lv_at hl 0 rfl) ?_
        obtain ⟨r12, hr, hf⟩ := hf_1 hf
        refine inv_Vi (q0 := 1) (ci := 8) (As := [.int x5, .int x7, .int x9, .int x11]) lk_X10_95 C hw rfl rfl rfl (t_Sm_canPromise hr) rfl hl.1 dX10_promisesFromRow_115 rfl (Nat.le_of_ble_eq_true rfl) (by decide) (Nat.le_of_ble_eq_true rfl) rfl (fun H locs hw => ?_)
        refine lv_if_ne (tgt := 124) hx hb dX10_promisesFromRow_118 (by decide) (fun q => ?_) (fun q => ?_)
        · have hf := hf_f q hf
          refine lv_aload_n hx hb dX10_promisesFromRow_124 rfl (lv_at hl 5 rfl) ?_
          refine get_0_0 C hw q_374 dX10_promisesFromRow_125 ?_
          refine lv_iload hx hb dX10_promisesFromRow_128 (lv_at hl 3 rfl) ?_
          refine lv_iload hx hb dX10_promisesFromRow_130 (lv_at hl 2 rfl) ?_
          refine lv_iload hx hb dX10_promisesFromRow_132 (lv_at hl 1 rfl) ?_
          refine lv_iload hx hb dX10_promisesFromRow_134 (lv_at hl 0 rfl) ?_
          obtain ⟨r14, S13, hr, hf⟩ := hf_2 hf
          refine inv_Vi (q0 := 1) (ci := 8) (As := [.int x5, .int x7, .int x9, .int x11]) lk_X10_103 C hw rfl rfl rfl (t_Sm_addPromise hr) rfl hl.1 dX10_promisesFromRow_136 rfl (Nat.le_of_ble_eq_true rfl) (by decide) (Nat.le_of_ble_eq_true rfl) rfl (fun H locs hw => ?_)
          refine lv_pop hx hb dX10_promisesFromRow_139 rfl ?_
          obtain ⟨x15, ex15, hf⟩ := nme hf
          refine lv_iinc (v := x15) (lv' := [(4, .int x15), (9, .int x11), (8, .int x9), (7, .int x7), (6, .int x5), (5, .int x3), (0, .ref (ea E 0)), (1, .int l1), (2, .int l2), (3, .int l3)]) hx hb dX10_promisesFromRow_140 hl (k := 9) rfl (ki_1 ex15) (by decide) rfl (fun ls hl => ?_)
          refine lv_goto (tgt := 3) hx hb dX10_promisesFromRow_143 (by decide) ?_
          exact hk3 _ hf _ _ _ hw (lv_sub hl [6, 7, 8, 9, 0] rfl)
        · have hf := hf_t q hf
          refine lv_goto (tgt := 146) hx hb dX10_promisesFromRow_121 (by decide) ?_
          refine lv_iload hx hb dX10_promisesFromRow_146 (lv_at hl 9 rfl) ?_
          exact ret_iS C hw dX10_promisesFromRow_148 hf
theorem w_Ch_promisesFromRow_L3 {N : Nat} {l1 : Int32} {l2 : Int32} {l3 : Int32} {r : Int32} {S9 : St} (C : Cx p s m args meth c E cX10_promisesFromRow 10 RX10 (some .int)) : ∀ x, Ch_promisesFromRow_L3 N l1 l2 l3 x = some (r, S9) → ∀ (H : Heap) (locs : List Loc) (ls : Array Slot), Wd E (wX V E) s.heap x.1 H locs → lv_has ls 10 [(0, .ref (ea E 0)), (1, .int l1), (2, .int l2), (3, .int l3), (4, .int x.2)] → W p l e (rmh 4) s m args below meth c H locs 0 0 (MQ below (QW E (wX V E) (some (.int r)) S9) args s 0 0 (eA E)) (F0 m 3 ls []) :=
  lp_W (fun k x hk hf H locs ls hw hl => w_Ch_promisesFromRow_b3 C hk hw hl hf) N
set_option maxRecDepth 20000 in
theorem w_Ch_promisesFromRow {N : Nat} {p1 : Int32} {p2 : Int32} {p3 : Int32} {r : Int32} {S9 : St} (C : Cx p s m args meth c E cX10_promisesFromRow 10 RX10 (some .int)) (hw : Wd E (wX V E) s.heap S H locs) (hl : lv_has ls 10 [(0, .ref (ea E 0)), (1, .int p1), (2, .int p2), (3, .int p3)]) (hf : Ch_promisesFromRow N S p1 p2 p3 = some (r, S9)) : W p l e (rmh 4) s m args below meth c H locs 0 0 (MQ below (QW E (wX V E) (some (.int r)) S9) args s 0 0 (eA E)) (F0 m 0 ls []) := by
  have hx := C.1
  have hb := C.2.1
  unfold Ch_promisesFromRow at hf
  refine lv_iconst (v := 0) hx hb dX10_promisesFromRow_0 kc_0 ?_
  refine lv_istore (lv' := [(4, .int (0 : Int32)), (0, .ref (ea E 0)), (1, .int p1), (2, .int p2), (3, .int p3)]) hx hb dX10_promisesFromRow_1 hl (by decide) rfl (fun ls hl => ?_)
  exact w_Ch_promisesFromRow_L3 C _ hf _ _ _ hw (lv_sub hl [1, 2, 3, 4, 0] rfl)
end
theorem t_Ch_promisesFromRow {l : Launch} {V : St} {N : Nat} {S : St} {p1 : Int32} {p2 : Int32} {p3 : Int32} {r : Int32} {S9 : St} (hf : Ch_promisesFromRow N S p1 p2 p3 = some (r, S9)) : Ct l (wX V) yX10_promisesFromRow cX10_promisesFromRow 10 (some .int) 4 (fun E => [.ref (ea E 0), .int p1, .int p2, .int p3]) S (fun E => some (.int r)) S9 :=
  ofBlock (by decide +kernel) (fun _ => Nat.le_of_ble_eq_true rfl) (fun E p e s m args below meth c ls C hw hl => w_Ch_promisesFromRow C hw hl hf)
theorem dX10_promises_0 : decode cX10_promises 0 = .ok (.aload_n 0, 1) := by decide +kernel
theorem dX10_promises_1 : decode cX10_promises 1 = .ok (.getfield 26, 3) := by decide +kernel
theorem dX10_promises_4 : decode cX10_promises 4 = .ok (.iload_n 1, 1) := by decide +kernel
theorem dX10_promises_5 : decode cX10_promises 5 = .ok (.invokevirtual 107, 3) := by decide +kernel
theorem dX10_promises_8 : decode cX10_promises 8 = .ok (.ifCond .eq 13, 3) := by decide +kernel
theorem dX10_promises_11 : decode cX10_promises 11 = .ok (.iload_n 3, 1) := by decide +kernel
theorem dX10_promises_12 : decode cX10_promises 12 = .ok (.iconst 1, 1) := by decide +kernel
theorem dX10_promises_13 : decode cX10_promises 13 = .ok (.bipush 10, 2) := by decide +kernel
theorem dX10_promises_15 : decode cX10_promises 15 = .ok (.invokestatic 83, 3) := by decide +kernel
theorem dX10_promises_18 : decode cX10_promises 18 = .ok (.ifCond .ne 5, 3) := by decide +kernel
theorem dX10_promises_21 : decode cX10_promises 21 = .ok (.iconst (-1), 1) := by decide +kernel
theorem dX10_promises_22 : decode cX10_promises 22 = .ok (.ireturn, 1) := by decide +kernel
theorem dX10_promises_23 : decode cX10_promises 23 = .ok (.aload_n 0, 1) := by decide +kernel
theorem dX10_promises_24 : decode cX10_promises 24 = .ok (.getfield 26, 3) := by decide +kernel
theorem dX10_promises_27 : decode cX10_promises 27 = .ok (.iload_n 1, 1) := by decide +kernel
theorem dX10_promises_28 : decode cX10_promises 28 = .ok (.iconst 0, 1) := by decide +kernel
theorem dX10_promises_29 : decode cX10_promises 29 = .ok (.invokevirtual 111, 3) := by decide +kernel
theorem dX10_promises_32 : decode cX10_promises 32 = .ok (.istore 4, 2) := by decide +kernel
theorem dX10_promises_34 : decode cX10_promises 34 = .ok (.iload 4, 2) := by decide +kernel
theorem dX10_promises_36 : decode cX10_promises 36 = .ok (.bipush (-11), 2) := by decide +kernel
theorem dX10_promises_38 : decode cX10_promises 38 = .ok (.if_icmp .ne 5, 3) := by decide +kernel
theorem dX10_promises_41 : decode cX10_promises 41 = .ok (.iconst 0, 1) := by decide +kernel
theorem dX10_promises_42 : decode cX10_promises 42 = .ok (.ireturn, 1) := by decide +kernel
theorem dX10_promises_43 : decode cX10_promises 43 = .ok (.iload 4, 2) := by decide +kernel
theorem dX10_promises_45 : decode cX10_promises 45 = .ok (.ifCond .eq 8, 3) := by decide +kernel
theorem dX10_promises_48 : decode cX10_promises 48 = .ok (.iload 4, 2) := by decide +kernel
theorem dX10_promises_50 : decode cX10_promises 50 = .ok (.goto 10, 3) := by decide +kernel
theorem dX10_promises_53 : decode cX10_promises 53 = .ok (.aload_n 0, 1) := by decide +kernel
theorem dX10_promises_54 : decode cX10_promises 54 = .ok (.iload_n 1, 1) := by decide +kernel
theorem dX10_promises_55 : decode cX10_promises 55 = .ok (.iload_n 2, 1) := by decide +kernel
theorem dX10_promises_56 : decode cX10_promises 56 = .ok (.iload_n 3, 1) := by decide +kernel
theorem dX10_promises_57 : decode cX10_promises 57 = .ok (.invokevirtual 114, 3) := by decide +kernel
theorem dX10_promises_60 : decode cX10_promises 60 = .ok (.ireturn, 1) := by decide +kernel
def Ch_promises (N : Nat) (S : St) (p1 : Int32) (p2 : Int32) (p3 : Int32) : Option (Int32 × St) :=
  bd1 (Sh_isShelf S p1) fun r1 =>
  if r1 = 0 then
    some ((-1 : Int32), S)
  else
    bd1 (Ch_within S p3 (1 : Int32) (10 : Int32)) fun r2 =>
    if r2 = 0 then
      some ((-1 : Int32), S)
    else
      bd1 (Sh_refusalOfRow S p1 (0 : Int32)) fun r3 =>
      if r3 = (-11 : Int32) then
        some ((0 : Int32), S)
      else
        if r3 = 0 then
          bd2 (Ch_promisesFromRow N S p1 p2 p3) fun r5 S4 =>
          some (r5, S4)
        else
          some (r3, S)
section
variable {p : Program} {l : Launch} {e : Env} {s : State} {m : MethodId} {args : Array Value} {below : List Frame} {meth : Method} {c : Code} {H : Heap} {locs : List Loc} {E : Ev} {S V : St} {ls : Array Slot}
set_option maxRecDepth 20000 in
theorem w_Ch_promises {N : Nat} {p1 : Int32} {p2 : Int32} {p3 : Int32} {r : Int32} {S9 : St} (C : Cx p s m args meth c E cX10_promises 5 RX10 (some .int)) (hw : Wd E (wX V E) s.heap S H locs) (hl : lv_has ls 5 [(0, .ref (ea E 0)), (1, .int p1), (2, .int p2), (3, .int p3)]) (hf : Ch_promises N S p1 p2 p3 = some (r, S9)) : W p l e (rmh 5) s m args below meth c H locs 0 0 (MQ below (QW E (wX V E) (some (.int r)) S9) args s 0 0 (eA E)) (F0 m 0 ls []) := by
  have hx := C.1
  have hb := C.2.1
  unfold Ch_promises at hf
  refine lv_aload_n hx hb dX10_promises_0 rfl (lv_at hl 0 rfl) ?_
  refine get_0_9 C hw q_383 dX10_promises_1 ?_
  refine lv_iload_n hx hb dX10_promises_4 rfl (lv_at hl 1 rfl) ?_
  obtain ⟨r1, hr, hf⟩ := hf_1 hf
  refine inv_Vi (q0 := 10) (ci := 7) (As := [.int p1]) lk_X10_107 C hw rfl rfl rfl (t_Sh_isShelf hr) rfl hl.1 dX10_promises_5 rfl (Nat.le_of_ble_eq_true rfl) (by decide) (Nat.le_of_ble_eq_true rfl) rfl (fun H locs hw => ?_)
  refine lv_if_eq (tgt := 21) hx hb dX10_promises_8 (by decide) (fun q => ?_) (fun q => ?_)
  · have hf := hf_t q hf
    refine lv_iconst (v := -1) hx hb dX10_promises_21 kc_m1 ?_
    exact ret_iS C hw dX10_promises_22 hf
  · have hf := hf_f q hf
    refine lv_iload_n hx hb dX10_promises_11 rfl (lv_at hl 3 rfl) ?_
    refine lv_iconst (v := 1) hx hb dX10_promises_12 kc_1 ?_
    refine lv_bipush (v := 10) hx hb dX10_promises_13 kb_10 ?_
    obtain ⟨r2, hr, hf⟩ := hf_1 hf
    refine inv_Si (As := [.int p3, .int (1 : Int32), .int (10 : Int32)]) lk_X10_83 C hw (t_Ch_within hr) hl.1 dX10_promises_15 rfl (Nat.le_of_ble_eq_true rfl) (by decide) (Nat.le_of_ble_eq_true rfl) rfl (fun H locs hw => ?_)
    refine lv_if_ne (tgt := 23) hx hb dX10_promises_18 (by decide) (fun q => ?_) (fun q => ?_)
    · have hf := hf_f q hf
      refine lv_aload_n hx hb dX10_promises_23 rfl (lv_at hl 0 rfl) ?_
      refine get_0_9 C hw q_383 dX10_promises_24 ?_
      refine lv_iload_n hx hb dX10_promises_27 rfl (lv_at hl 1 rfl) ?_
      refine lv_iconst (v := 0) hx hb dX10_promises_28 kc_0 ?_
      obtain ⟨r3, hr, hf⟩ := hf_1 hf
      refine inv_Vi (q0 := 10) (ci := 7) (As := [.int p1, .int (0 : Int32)]) lk_X10_111 C hw rfl rfl rfl (t_Sh_refusalOfRow hr) rfl hl.1 dX10_promises_29 rfl (Nat.le_of_ble_eq_true rfl) (by decide) (Nat.le_of_ble_eq_true rfl) rfl (fun H locs hw => ?_)
      refine lv_istore (lv' := [(4, .int r3), (0, .ref (ea E 0)), (1, .int p1), (2, .int p2), (3, .int p3)]) hx hb dX10_promises_32 hl (by decide) rfl (fun ls hl => ?_)
      refine lv_iload hx hb dX10_promises_34 (lv_at hl 0 rfl) ?_
      refine lv_bipush (v := -11) hx hb dX10_promises_36 kb_m11 ?_
      refine lv_icmp_ne (tgt := 43) hx hb dX10_promises_38 (by decide) (fun q => ?_) (fun q => ?_)
      · have hf := hf_f q hf
        refine lv_iload hx hb dX10_promises_43 (lv_at hl 0 rfl) ?_
        refine lv_if_eq (tgt := 53) hx hb dX10_promises_45 (by decide) (fun q => ?_) (fun q => ?_)
        · have hf := hf_t q hf
          refine lv_aload_n hx hb dX10_promises_53 rfl (lv_at hl 1 rfl) ?_
          refine lv_iload_n hx hb dX10_promises_54 rfl (lv_at hl 2 rfl) ?_
          refine lv_iload_n hx hb dX10_promises_55 rfl (lv_at hl 3 rfl) ?_
          refine lv_iload_n hx hb dX10_promises_56 rfl (lv_at hl 4 rfl) ?_
          obtain ⟨r5, S4, hr, hf⟩ := hf_2 hf
          refine inv_Vi (q0 := 0) (ci := 10) (As := [.int p1, .int p2, .int p3]) lk_X10_114 C hw rfl rfl rfl (t_Ch_promisesFromRow hr) rfl hl.1 dX10_promises_57 rfl (Nat.le_of_ble_eq_true rfl) (by decide) (Nat.le_of_ble_eq_true rfl) rfl (fun H locs hw => ?_)
          exact ret_iS C hw dX10_promises_60 hf
        · have hf := hf_f q hf
          refine lv_iload hx hb dX10_promises_48 (lv_at hl 0 rfl) ?_
          refine lv_goto (tgt := 60) hx hb dX10_promises_50 (by decide) ?_
          exact ret_iS C hw dX10_promises_60 hf
      · have hf := hf_t q hf
        refine lv_iconst (v := 0) hx hb dX10_promises_41 kc_0 ?_
        exact ret_iS C hw dX10_promises_42 hf
    · have hf := hf_t q hf
      refine lv_iconst (v := -1) hx hb dX10_promises_21 kc_m1 ?_
      exact ret_iS C hw dX10_promises_22 hf
end
theorem t_Ch_promises {l : Launch} {V : St} {N : Nat} {S : St} {p1 : Int32} {p2 : Int32} {p3 : Int32} {r : Int32} {S9 : St} (hf : Ch_promises N S p1 p2 p3 = some (r, S9)) : Ct l (wX V) yX10_promises cX10_promises 5 (some .int) 5 (fun E => [.ref (ea E 0), .int p1, .int p2, .int p3]) S (fun E => some (.int r)) S9 :=
  ofBlock (by decide +kernel) (fun _ => Nat.le_of_ble_eq_true rfl) (fun E p e s m args below meth c ls C hw hl => w_Ch_promises C hw hl hf)
theorem dX10_mend_0 : decode cX10_mend 0 = .ok (.aload_n 0, 1) := by decide +kernel
theorem dX10_mend_1 : decode cX10_mend 1 = .ok (.getfield 10, 3) := by decide +kernel
theorem dX10_mend_4 : decode cX10_mend 4 = .ok (.iload_n 1, 1) := by decide +kernel
theorem dX10_mend_5 : decode cX10_mend 5 = .ok (.iload_n 2, 1) := by decide +kernel
theorem dX10_mend_6 : decode cX10_mend 6 = .ok (.invokevirtual 125, 3) := by decide +kernel
theorem dX10_mend_9 : decode cX10_mend 9 = .ok (.ifCond .eq 16, 3) := by decide +kernel
theorem dX10_mend_12 : decode cX10_mend 12 = .ok (.aload_n 0, 1) := by decide +kernel
theorem dX10_mend_13 : decode cX10_mend 13 = .ok (.getfield 10, 3) := by decide +kernel
theorem dX10_mend_16 : decode cX10_mend 16 = .ok (.iload_n 1, 1) := by decide +kernel
theorem dX10_mend_17 : decode cX10_mend 17 = .ok (.iload_n 2, 1) := by decide +kernel
theorem dX10_mend_18 : decode cX10_mend 18 = .ok (.iload_n 3, 1) := by decide +kernel
theorem dX10_mend_19 : decode cX10_mend 19 = .ok (.invokevirtual 129, 3) := by decide +kernel
theorem dX10_mend_22 : decode cX10_mend 22 = .ok (.ifCond .ne 6, 3) := by decide +kernel
theorem dX10_mend_25 : decode cX10_mend 25 = .ok (.ldc 132, 2) := by decide +kernel
theorem dX10_mend_27 : decode cX10_mend 27 = .ok (.ireturn, 1) := by decide +kernel
theorem dX10_mend_28 : decode cX10_mend 28 = .ok (.aload_n 0, 1) := by decide +kernel
theorem dX10_mend_29 : decode cX10_mend 29 = .ok (.getfield 10, 3) := by decide +kernel
theorem dX10_mend_32 : decode cX10_mend 32 = .ok (.iload_n 1, 1) := by decide +kernel
theorem dX10_mend_33 : decode cX10_mend 33 = .ok (.iload_n 2, 1) := by decide +kernel
theorem dX10_mend_34 : decode cX10_mend 34 = .ok (.invokevirtual 133, 3) := by decide +kernel
theorem dX10_mend_37 : decode cX10_mend 37 = .ok (.istore 4, 2) := by decide +kernel
theorem dX10_mend_39 : decode cX10_mend 39 = .ok (.iload 4, 2) := by decide +kernel
theorem dX10_mend_41 : decode cX10_mend 41 = .ok (.iload_n 3, 1) := by decide +kernel
theorem dX10_mend_42 : decode cX10_mend 42 = .ok (.if_icmp .eq 25, 3) := by decide +kernel
theorem dX10_mend_45 : decode cX10_mend 45 = .ok (.aload_n 0, 1) := by decide +kernel
theorem dX10_mend_46 : decode cX10_mend 46 = .ok (.getfield 40, 3) := by decide +kernel
theorem dX10_mend_49 : decode cX10_mend 49 = .ok (.iload_n 1, 1) := by decide +kernel
theorem dX10_mend_50 : decode cX10_mend 50 = .ok (.iload_n 2, 1) := by decide +kernel
theorem dX10_mend_51 : decode cX10_mend 51 = .ok (.iload 4, 2) := by decide +kernel
theorem dX10_mend_53 : decode cX10_mend 53 = .ok (.iload_n 3, 1) := by decide +kernel
theorem dX10_mend_54 : decode cX10_mend 54 = .ok (.invokevirtual 136, 3) := by decide +kernel
theorem dX10_mend_57 : decode cX10_mend 57 = .ok (.aload_n 0, 1) := by decide +kernel
theorem dX10_mend_58 : decode cX10_mend 58 = .ok (.getfield 10, 3) := by decide +kernel
theorem dX10_mend_61 : decode cX10_mend 61 = .ok (.iload_n 1, 1) := by decide +kernel
theorem dX10_mend_62 : decode cX10_mend 62 = .ok (.iload_n 2, 1) := by decide +kernel
theorem dX10_mend_63 : decode cX10_mend 63 = .ok (.iload_n 3, 1) := by decide +kernel
theorem dX10_mend_64 : decode cX10_mend 64 = .ok (.invokevirtual 140, 3) := by decide +kernel
theorem dX10_mend_67 : decode cX10_mend 67 = .ok (.iload 4, 2) := by decide +kernel
theorem dX10_mend_69 : decode cX10_mend 69 = .ok (.ireturn, 1) := by decide +kernel
def Ch_mend (S : St) (p1 : Int32) (p2 : Int32) (p3 : Int32) : Option (Int32 × St) :=
  bd1 (Sm_has S p1 p2) fun r1 =>
  if r1 = 0 then
    some ((-2000000000 : Int32), S)
  else
    bd1 (Sm_canBecome S p1 p2 p3) fun r2 =>
    if r2 = 0 then
      some ((-2000000000 : Int32), S)
    else
      bd1 (Sm_numberOf S p1 p2) fun r3 =>
      if r3 = p3 then
        some (r3, S)
      else
        bd1 (Cg_add S p1 p2 r3 p3) fun S4 =>
        bd1 (Sm_become S4 p1 p2 p3) fun S5 =>
        some (r3, S5)
section
variable {p : Program} {l : Launch} {e : Env} {s : State} {m : MethodId} {args : Array Value} {below : List Frame} {meth : Method} {c : Code} {H : Heap} {locs : List Loc} {E : Ev} {S V : St} {ls : Array Slot}
set_option maxRecDepth 20000 in
theorem w_Ch_mend {p1 : Int32} {p2 : Int32} {p3 : Int32} {r : Int32} {S9 : St} (C : Cx p s m args meth c E cX10_mend 5 RX10 (some .int)) (hw : Wd E (wX V E) s.heap S H locs) (hl : lv_has ls 5 [(0, .ref (ea E 0)), (1, .int p1), (2, .int p2), (3, .int p3)]) (hf : Ch_mend S p1 p2 p3 = some (r, S9)) : W p l e (rmh 3) s m args below meth c H locs 0 0 (MQ below (QW E (wX V E) (some (.int r)) S9) args s 0 0 (eA E)) (F0 m 0 ls []) := by
  have hx := C.1
  have hb := C.2.1
  unfold Ch_mend at hf
  refine lv_aload_n hx hb dX10_mend_0 rfl (lv_at hl 0 rfl) ?_
  refine get_0_0 C hw q_374 dX10_mend_1 ?_
  refine lv_iload_n hx hb dX10_mend_4 rfl (lv_at hl 1 rfl) ?_
  refine lv_iload_n hx hb dX10_mend_5 rfl (lv_at hl 2 rfl) ?_
  obtain ⟨r1, hr, hf⟩ := hf_1 hf
  refine inv_Vi (q0 := 1) (ci := 8) (As := [.int p1, .int p2]) lk_X10_125 C hw rfl rfl rfl (t_Sm_has hr) rfl hl.1 dX10_mend_6 rfl (Nat.le_of_ble_eq_true rfl) (by decide) (Nat.le_of_ble_eq_true rfl) rfl (fun H locs hw => ?_)
  refine lv_if_eq (tgt := 25) hx hb dX10_mend_9 (by decide) (fun q => ?_) (fun q => ?_)
  · have hf := hf_t q hf
    refine lv_ldc (v := -2000000000) hx hb C.2.2.2.1 (C.2.2.2.2.1 _ q_480) dX10_mend_25 ?_
    exact ret_iS C hw dX10_mend_27 hf
  · have hf := hf_f q hf
    refine lv_aload_n hx hb dX10_mend_12 rfl (lv_at hl 0 rfl) ?_
    refine get_0_0 C hw q_374 dX10_mend_13 ?_
    refine lv_iload_n hx hb dX10_mend_16 rfl (lv_at hl 1 rfl) ?_
    refine lv_iload_n hx hb dX10_mend_17 rfl (lv_at hl 2 rfl) ?_
    refine lv_iload_n hx hb dX10_mend_18 rfl (lv_at hl 3 rfl) ?_
    obtain ⟨r2, hr, hf⟩ := hf_1 hf
    refine inv_Vi (q0 := 1) (ci := 8) (As := [.int p1, .int p2, .int p3]) lk_X10_129 C hw rfl rfl rfl (t_Sm_canBecome hr) rfl hl.1 dX10_mend_19 rfl (Nat.le_of_ble_eq_true rfl) (by decide) (Nat.le_of_ble_eq_true rfl) rfl (fun H locs hw => ?_)
    refine lv_if_ne (tgt := 28) hx hb dX10_mend_22 (by decide) (fun q => ?_) (fun q => ?_)
    · have hf := hf_f q hf
      refine lv_aload_n hx hb dX10_mend_28 rfl (lv_at hl 0 rfl) ?_
      refine get_0_0 C hw q_374 dX10_mend_29 ?_
      refine lv_iload_n hx hb dX10_mend_32 rfl (lv_at hl 1 rfl) ?_
      refine lv_iload_n hx hb dX10_mend_33 rfl (lv_at hl 2 rfl) ?_
      obtain ⟨r3, hr, hf⟩ := hf_1 hf
      refine inv_Vi (q0 := 1) (ci := 8) (As := [.int p1, .int p2]) lk_X10_133 C hw rfl rfl rfl (t_Sm_numberOf hr) rfl hl.1 dX10_mend_34 rfl (Nat.le_of_ble_eq_true rfl) (by decide) (Nat.le_of_ble_eq_true rfl) rfl (fun H locs hw => ?_)
      refine lv_istore (lv' := [(4, .int r3), (0, .ref (ea E 0)), (1, .int p1), (2, .int p2), (3, .int p3)]) hx hb dX10_mend_37 hl (by decide) rfl (fun ls hl => ?_)
      refine lv_iload hx hb dX10_mend_39 (lv_at hl 0 rfl) ?_
      refine lv_iload_n hx hb dX10_mend_41 rfl (lv_at hl 4 rfl) ?_
      refine lv_icmp_eq (tgt := 67) hx hb dX10_mend_42 (by decide) (fun q => ?_) (fun q => ?_)
      · have hf := hf_t q hf
        refine lv_iload hx hb dX10_mend_67 (lv_at hl 0 rfl) ?_
        exact ret_iS C hw dX10_mend_69 hf
      · have hf := hf_f q hf
        refine lv_aload_n hx hb dX10_mend_45 rfl (lv_at hl 1 rfl) ?_
        refine get_0_7 C hw q_381 dX10_mend_46 ?_
        refine lv_iload_n hx hb dX10_mend_49 rfl (lv_at hl 2 rfl) ?_
        refine lv_iload_n hx hb dX10_mend_50 rfl (lv_at hl 3 rfl) ?_
        refine lv_iload hx hb dX10_mend_51 (lv_at hl 0 rfl) ?_
        refine lv_iload_n hx hb dX10_mend_53 rfl (lv_at hl 4 rfl) ?_
        obtain ⟨S4, hr, hf⟩ := hf_1 hf
        refine inv_Vv (q0 := 8) (ci := 0) (As := [.int p1, .int p2, .int r3, .int p3]) lk_X10_136 C hw rfl rfl rfl (t_Cg_add hr) rfl hl.1 dX10_mend_54 rfl (Nat.le_of_ble_eq_true rfl) (by decide) (Nat.le_of_ble_eq_true rfl) rfl (fun H locs hw => ?_)
        refine lv_aload_n hx hb dX10_mend_57 rfl (lv_at hl 1 rfl) ?_
        refine get_0_0 C hw q_374 dX10_mend_58 ?_
        refine lv_iload_n hx hb dX10_mend_61 rfl (lv_at hl 2 rfl) ?_
        refine lv_iload_n hx hb dX10_mend_62 rfl (lv_at hl 3 rfl) ?_
        refine lv_iload_n hx hb dX10_mend_63 rfl (lv_at hl 4 rfl) ?_
        obtain ⟨S5, hr, hf⟩ := hf_1 hf
        refine inv_Vv (q0 := 1) (ci := 8) (As := [.int p1, .int p2, .int p3]) lk_X10_140 C hw rfl rfl rfl (t_Sm_become hr) rfl hl.1 dX10_mend_64 rfl (Nat.le_of_ble_eq_true rfl) (by decide) (Nat.le_of_ble_eq_true rfl) rfl (fun H locs hw => ?_)
        refine lv_iload hx hb dX10_mend_67 (lv_at hl 0 rfl) ?_
        exact ret_iS C hw dX10_mend_69 hf
    · have hf := hf_t q hf
      refine lv_ldc (v := -2000000000) hx hb C.2.2.2.1 (C.2.2.2.2.1 _ q_480) dX10_mend_25 ?_
      exact ret_iS C hw dX10_mend_27 hf
end
theorem t_Ch_mend {l : Launch} {V : St} {S : St} {p1 : Int32} {p2 : Int32} {p3 : Int32} {r : Int32} {S9 : St} (hf : Ch_mend S p1 p2 p3 = some (r, S9)) : Ct l (wX V) yX10_mend cX10_mend 5 (some .int) 3 (fun E => [.ref (ea E 0), .int p1, .int p2, .int p3]) S (fun E => some (.int r)) S9 :=
  ofBlock (by decide +kernel) (fun _ => Nat.le_of_ble_eq_true rfl) (fun E p e s m args below meth c ls C hw hl => w_Ch_mend C hw hl hf)
theorem dX10_of_0 : decode cX10_of 0 = .ok (.aload_n 0, 1) := by decide +kernel
theorem dX10_of_1 : decode cX10_of 1 = .ok (.getfield 10, 3) := by decide +kernel
theorem dX10_of_4 : decode cX10_of 4 = .ok (.iload_n 1, 1) := by decide +kernel
theorem dX10_of_5 : decode cX10_of 5 = .ok (.iload_n 2, 1) := by decide +kernel
theorem dX10_of_6 : decode cX10_of 6 = .ok (.invokevirtual 125, 3) := by decide +kernel
theorem dX10_of_9 : decode cX10_of 9 = .ok (.ifCond .eq 15, 3) := by decide +kernel
theorem dX10_of_12 : decode cX10_of 12 = .ok (.aload_n 0, 1) := by decide +kernel
theorem dX10_of_13 : decode cX10_of 13 = .ok (.getfield 10, 3) := by decide +kernel
theorem dX10_of_16 : decode cX10_of 16 = .ok (.iload_n 1, 1) := by decide +kernel
theorem dX10_of_17 : decode cX10_of 17 = .ok (.iload_n 2, 1) := by decide +kernel
theorem dX10_of_18 : decode cX10_of 18 = .ok (.invokevirtual 133, 3) := by decide +kernel
theorem dX10_of_21 : decode cX10_of 21 = .ok (.goto 5, 3) := by decide +kernel
theorem dX10_of_24 : decode cX10_of 24 = .ok (.ldc 132, 2) := by decide +kernel
theorem dX10_of_26 : decode cX10_of 26 = .ok (.ireturn, 1) := by decide +kernel
def Ch_of (S : St) (p1 : Int32) (p2 : Int32) : Option Int32 :=
  bd1 (Sm_has S p1 p2) fun r1 =>
  if r1 = 0 then
    some (-2000000000 : Int32)
  else
    bd1 (Sm_numberOf S p1 p2) fun r2 =>
    some r2
section
variable {p : Program} {l : Launch} {e : Env} {s : State} {m : MethodId} {args : Array Value} {below : List Frame} {meth : Method} {c : Code} {H : Heap} {locs : List Loc} {E : Ev} {S V : St} {ls : Array Slot}
set_option maxRecDepth 20000 in
theorem w_Ch_of {p1 : Int32} {p2 : Int32} {r : Int32} (C : Cx p s m args meth c E cX10_of 3 RX10 (some .int)) (hw : Wd E (wX V E) s.heap S H locs) (hl : lv_has ls 3 [(0, .ref (ea E 0)), (1, .int p1), (2, .int p2)]) (hf : Ch_of S p1 p2 = some r) : W p l e (rmh 3) s m args below meth c H locs 0 0 (MQ below (QW E (wX V E) (some (.int r)) S) args s 0 0 (eA E)) (F0 m 0 ls []) := by
  have hx := C.1
  have hb := C.2.1
  unfold Ch_of at hf
  refine lv_aload_n hx hb dX10_of_0 rfl (lv_at hl 0 rfl) ?_
  refine get_0_0 C hw q_374 dX10_of_1 ?_
  refine lv_iload_n hx hb dX10_of_4 rfl (lv_at hl 1 rfl) ?_
  refine lv_iload_n hx hb dX10_of_5 rfl (lv_at hl 2 rfl) ?_
  obtain ⟨r1, hr, hf⟩ := hf_1 hf
  refine inv_Vi (q0 := 1) (ci := 8) (As := [.int p1, .int p2]) lk_X10_125 C hw rfl rfl rfl (t_Sm_has hr) rfl hl.1 dX10_of_6 rfl (Nat.le_of_ble_eq_true rfl) (by decide) (Nat.le_of_ble_eq_true rfl) rfl (fun H locs hw => ?_)
  refine lv_if_eq (tgt := 24) hx hb dX10_of_9 (by decide) (fun q => ?_) (fun q => ?_)
  · have hf := hf_t q hf
    refine lv_ldc (v := -2000000000) hx hb C.2.2.2.1 (C.2.2.2.2.1 _ q_480) dX10_of_24 ?_
    exact ret_i C hw dX10_of_26 hf
  · have hf := hf_f q hf
    refine lv_aload_n hx hb dX10_of_12 rfl (lv_at hl 0 rfl) ?_
    refine get_0_0 C hw q_374 dX10_of_13 ?_
    refine lv_iload_n hx hb dX10_of_16 rfl (lv_at hl 1 rfl) ?_
    refine lv_iload_n hx hb dX10_of_17 rfl (lv_at hl 2 rfl) ?_
    obtain ⟨r2, hr, hf⟩ := hf_1 hf
    refine inv_Vi (q0 := 1) (ci := 8) (As := [.int p1, .int p2]) lk_X10_133 C hw rfl rfl rfl (t_Sm_numberOf hr) rfl hl.1 dX10_of_18 rfl (Nat.le_of_ble_eq_true rfl) (by decide) (Nat.le_of_ble_eq_true rfl) rfl (fun H locs hw => ?_)
    refine lv_goto (tgt := 26) hx hb dX10_of_21 (by decide) ?_
    exact ret_i C hw dX10_of_26 hf
end
theorem t_Ch_of {l : Launch} {V : St} {S : St} {p1 : Int32} {p2 : Int32} {r : Int32} (hf : Ch_of S p1 p2 = some r) : Ct l (wX V) yX10_of cX10_of 3 (some .int) 3 (fun E => [.ref (ea E 0), .int p1, .int p2]) S (fun E => some (.int r)) S :=
  ofBlock (by decide +kernel) (fun _ => Nat.le_of_ble_eq_true rfl) (fun E p e s m args below meth c ls C hw hl => w_Ch_of C hw hl hf)
theorem dX10_feed_0 : decode cX10_feed 0 = .ok (.iload_n 1, 1) := by decide +kernel
theorem dX10_feed_1 : decode cX10_feed 1 = .ok (.iconst 0, 1) := by decide +kernel
theorem dX10_feed_2 : decode cX10_feed 2 = .ok (.sipush 255, 3) := by decide +kernel
theorem dX10_feed_5 : decode cX10_feed 5 = .ok (.invokestatic 83, 3) := by decide +kernel
theorem dX10_feed_8 : decode cX10_feed 8 = .ok (.ifCond .ne 5, 3) := by decide +kernel
theorem dX10_feed_11 : decode cX10_feed 11 = .ok (.iconst (-1), 1) := by decide +kernel
theorem dX10_feed_12 : decode cX10_feed 12 = .ok (.ireturn, 1) := by decide +kernel
theorem dX10_feed_13 : decode cX10_feed 13 = .ok (.aload_n 0, 1) := by decide +kernel
theorem dX10_feed_14 : decode cX10_feed 14 = .ok (.getfield 19, 3) := by decide +kernel
theorem dX10_feed_17 : decode cX10_feed 17 = .ok (.getfield 144, 3) := by decide +kernel
theorem dX10_feed_20 : decode cX10_feed 20 = .ok (.bipush 120, 2) := by decide +kernel
theorem dX10_feed_22 : decode cX10_feed 22 = .ok (.if_icmp .ne 8, 3) := by decide +kernel
theorem dX10_feed_25 : decode cX10_feed 25 = .ok (.bipush (-3), 2) := by decide +kernel
theorem dX10_feed_27 : decode cX10_feed 27 = .ok (.goto 11, 3) := by decide +kernel
theorem dX10_feed_30 : decode cX10_feed 30 = .ok (.aload_n 0, 1) := by decide +kernel
theorem dX10_feed_31 : decode cX10_feed 31 = .ok (.getfield 19, 3) := by decide +kernel
theorem dX10_feed_34 : decode cX10_feed 34 = .ok (.iload_n 1, 1) := by decide +kernel
theorem dX10_feed_35 : decode cX10_feed 35 = .ok (.invokevirtual 147, 3) := by decide +kernel
theorem dX10_feed_38 : decode cX10_feed 38 = .ok (.ireturn, 1) := by decide +kernel
def Ch_feed (S : St) (p1 : Int32) : Option (Int32 × St) :=
  bd1 (Ch_within S p1 (0 : Int32) (255 : Int32)) fun r1 =>
  if r1 = 0 then
    some ((-1 : Int32), S)
  else
    if (gi S 2 0) = (120 : Int32) then
      some ((-3 : Int32), S)
    else
      bd2 (La_take S p1) fun r3 S2 =>
      some (r3, S2)
section
variable {p : Program} {l : Launch} {e : Env} {s : State} {m : MethodId} {args : Array Value} {below : List Frame} {meth : Method} {c : Code} {H : Heap} {locs : List Loc} {E : Ev} {S V : St} {ls : Array Slot}
set_option maxRecDepth 20000 in
theorem w_Ch_feed {p1 : Int32} {r : Int32} {S9 : St} (C : Cx p s m args meth c E cX10_feed 2 RX10 (some .int)) (hw : Wd E (wX V E) s.heap S H locs) (hl : lv_has ls 2 [(0, .ref (ea E 0)), (1, .int p1)]) (hf : Ch_feed S p1 = some (r, S9)) : W p l e (rmh 2) s m args below meth c H locs 0 0 (MQ below (QW E (wX V E) (some (.int r)) S9) args s 0 0 (eA E)) (F0 m 0 ls []) := by
  have hx := C.1
  have hb := C.2.1
  unfold Ch_feed at hf
  refine lv_iload_n hx hb dX10_feed_0 rfl (lv_at hl 1 rfl) ?_
  refine lv_iconst (v := 0) hx hb dX10_feed_1 kc_0 ?_
  refine lv_sipush (v := 255) hx hb dX10_feed_2 ks_255 ?_
  obtain ⟨r1, hr, hf⟩ := hf_1 hf
  refine inv_Si (As := [.int p1, .int (0 : Int32), .int (255 : Int32)]) lk_X10_83 C hw (t_Ch_within hr) hl.1 dX10_feed_5 rfl (Nat.le_of_ble_eq_true rfl) (by decide) (Nat.le_of_ble_eq_true rfl) rfl (fun H locs hw => ?_)
  refine lv_if_ne (tgt := 13) hx hb dX10_feed_8 (by decide) (fun q => ?_) (fun q => ?_)
  · have hf := hf_f q hf
    refine lv_aload_n hx hb dX10_feed_13 rfl (lv_at hl 0 rfl) ?_
    refine get_0_1 C hw q_375 dX10_feed_14 ?_
    refine get_2_0 C hw q_174 dX10_feed_17 ?_
    refine lv_bipush (v := 120) hx hb dX10_feed_20 kb_120 ?_
    refine lv_icmp_ne (tgt := 30) hx hb dX10_feed_22 (by decide) (fun q => ?_) (fun q => ?_)
    · have hf := hf_f q hf
      refine lv_aload_n hx hb dX10_feed_30 rfl (lv_at hl 0 rfl) ?_
      refine get_0_1 C hw q_375 dX10_feed_31 ?_
      refine lv_iload_n hx hb dX10_feed_34 rfl (lv_at hl 1 rfl) ?_
      obtain ⟨r3, S2, hr, hf⟩ := hf_2 hf
      refine inv_Vi (q0 := 2) (ci := 5) (As := [.int p1]) lk_X10_147 C hw rfl rfl rfl (t_La_take hr) rfl hl.1 dX10_feed_35 rfl (Nat.le_of_ble_eq_true rfl) (by decide) (Nat.le_of_ble_eq_true rfl) rfl (fun H locs hw => ?_)
      exact ret_iS C hw dX10_feed_38 hf
    · have hf := hf_t q hf
      refine lv_bipush (v := -3) hx hb dX10_feed_25 kb_m3 ?_
      refine lv_goto (tgt := 38) hx hb dX10_feed_27 (by decide) ?_
      exact ret_iS C hw dX10_feed_38 hf
  · have hf := hf_t q hf
    refine lv_iconst (v := -1) hx hb dX10_feed_11 kc_m1 ?_
    exact ret_iS C hw dX10_feed_12 hf
end
theorem t_Ch_feed {l : Launch} {V : St} {S : St} {p1 : Int32} {r : Int32} {S9 : St} (hf : Ch_feed S p1 = some (r, S9)) : Ct l (wX V) yX10_feed cX10_feed 2 (some .int) 2 (fun E => [.ref (ea E 0), .int p1]) S (fun E => some (.int r)) S9 :=
  ofBlock (by decide +kernel) (fun _ => Nat.le_of_ble_eq_true rfl) (fun E p e s m args below meth c ls C hw hl => w_Ch_feed C hw hl hf)
theorem dX10_law_0 : decode cX10_law 0 = .ok (.aload_n 0, 1) := by decide +kernel
theorem dX10_law_1 : decode cX10_law 1 = .ok (.getfield 19, 3) := by decide +kernel
theorem dX10_law_4 : decode cX10_law 4 = .ok (.invokevirtual 151, 3) := by decide +kernel
theorem dX10_law_7 : decode cX10_law 7 = .ok (.istore_n 1, 1) := by decide +kernel
theorem dX10_law_8 : decode cX10_law 8 = .ok (.iload_n 1, 1) := by decide +kernel
theorem dX10_law_9 : decode cX10_law 9 = .ok (.iconst (-1), 1) := by decide +kernel
theorem dX10_law_10 : decode cX10_law 10 = .ok (.if_icmp .ne 7, 3) := by decide +kernel
theorem dX10_law_13 : decode cX10_law 13 = .ok (.iconst 1, 1) := by decide +kernel
theorem dX10_law_14 : decode cX10_law 14 = .ok (.goto 7, 3) := by decide +kernel
theorem dX10_law_17 : decode cX10_law 17 = .ok (.bipush (-100), 2) := by decide +kernel
theorem dX10_law_19 : decode cX10_law 19 = .ok (.iload_n 1, 1) := by decide +kernel
theorem dX10_law_20 : decode cX10_law 20 = .ok (.isub, 1) := by decide +kernel
theorem dX10_law_21 : decode cX10_law 21 = .ok (.ireturn, 1) := by decide +kernel
def Ch_law (N : Nat) (S : St) : Option (Int32 × St) :=
  bd2 (La_read N S) fun r2 S1 =>
  if r2 = (-1 : Int32) then
    some ((1 : Int32), S1)
  else
    some (((-100 : Int32) - r2), S1)
section
variable {p : Program} {l : Launch} {e : Env} {s : State} {m : MethodId} {args : Array Value} {below : List Frame} {meth : Method} {c : Code} {H : Heap} {locs : List Loc} {E : Ev} {S V : St} {ls : Array Slot}
set_option maxRecDepth 20000 in
theorem w_Ch_law {N : Nat} {r : Int32} {S9 : St} (C : Cx p s m args meth c E cX10_law 2 RX10 (some .int)) (hw : Wd E (wX V E) s.heap S H locs) (hl : lv_has ls 2 [(0, .ref (ea E 0))]) (hf : Ch_law N S = some (r, S9)) : W p l e (rmh (N + 6)) s m args below meth c H locs 0 0 (MQ below (QW E (wX V E) (some (.int r)) S9) args s 0 0 (eA E)) (F0 m 0 ls []) := by
  have hx := C.1
  have hb := C.2.1
  unfold Ch_law at hf
  refine lv_aload_n hx hb dX10_law_0 rfl (lv_at hl 0 rfl) ?_
  refine get_0_1 C hw q_375 dX10_law_1 ?_
  obtain ⟨r2, S1, hr, hf⟩ := hf_2 hf
  refine inv_Vi (q0 := 2) (ci := 5) (As := []) lk_X10_151 C hw rfl rfl rfl (t_La_read hr) rfl hl.1 dX10_law_4 rfl (by omega) (by decide) (Nat.le_of_ble_eq_true rfl) rfl (fun H locs hw => ?_)
  refine lv_istore_n (lv' := [(1, .int r2), (0, .ref (ea E 0))]) hx hb dX10_law_7 rfl hl (by decide) rfl (fun ls hl => ?_)
  refine lv_iload_n hx hb dX10_law_8 rfl (lv_at hl 0 rfl) ?_
  refine lv_iconst (v := -1) hx hb dX10_law_9 kc_m1 ?_
  refine lv_icmp_ne (tgt := 17) hx hb dX10_law_10 (by decide) (fun q => ?_) (fun q => ?_)
  · have hf := hf_f q hf
    refine lv_bipush (v := -100) hx hb dX10_law_17 kb_m100 ?_
    refine lv_iload_n hx hb dX10_law_19 rfl (lv_at hl 0 rfl) ?_
    refine lv_isub hx hb dX10_law_20 ?_
    exact ret_iS C hw dX10_law_21 hf
  · have hf := hf_t q hf
    refine lv_iconst (v := 1) hx hb dX10_law_13 kc_1 ?_
    refine lv_goto (tgt := 21) hx hb dX10_law_14 (by decide) ?_
    exact ret_iS C hw dX10_law_21 hf
end
theorem t_Ch_law {l : Launch} {V : St} {N : Nat} {S : St} {r : Int32} {S9 : St} (hf : Ch_law N S = some (r, S9)) : Ct l (wX V) yX10_law cX10_law 2 (some .int) (N + 6) (fun E => [.ref (ea E 0)]) S (fun E => some (.int r)) S9 :=
  ofBlock (by decide +kernel) (fun _ => Nat.le_of_ble_eq_true rfl) (fun E p e s m args below meth c ls C hw hl => w_Ch_law C hw hl hf)
