theorem vpin_add {k j L : Nat} (h : k + j < L) (hL : L ≤ 3072) (x : Int32) (hx : x = nI j) : vp_in (nI k + x) L := by
  rw [hx, nI_add]; exact vp_in_nI h (by omega)
set_option maxHeartbeats 4000000 in
set_option maxRecDepth 100000 in
theorem law_loop {p : Program} {l : Launch} {e : Env} {s : State} {m : MethodId} {below : List Frame} {meth : Method} {c : Code} {E : Ev} {b L : Nat} {xs : Nat → Int32} {RR : St → St → Prop} (hs : LSall RR) (hL : L ≤ 3072) (C : Cx p s m #[Value.ref b] meth c E code 4 RL ret) (hXs : va_X b L xs s s.heap) (hbl : b < s.heap.size) (hbA : ¬ eA E b) (hA : ∀ q, eA E q → s.heap.size ≤ q) :
    ∀ (n k : Nat), k ≤ L + 6 → L + 12 ≤ k + n → ∀ (S V : St) (H : Heap) (locs : List Loc), RR S V → Wd E (wX V E) s.heap S H locs → ∀ (ls : Array Slot), lv_has ls 4 [(0, .ref b), (1, .ref (ea E 0)), (2, .ref (ea E 44)), (3, .int (nI k))] → W p l e room_1 s m #[Value.ref b] below meth c H locs 600000 7302250 (lw_Z below #[Value.ref b] s) (F0 m 18 ls []) := by
  have hx := C.1
  have hb := C.2.1
  intro n
  induction n with
  | zero => intro k h1 h2; exact absurd h2 (by omega)
  | succ n ih =>
    intro k hk hkn S V H locs hR hw ls hl
    refine lv_iload_n hx hb dL_law_18 rfl (lv_at hl 3 rfl) ?_
    refine lv_aload_n hx hb dL_law_19 rfl (lv_at hl 0 rfl) ?_
    refine va_slen hx hb hXs hbl hbA hw.2.2 dL_law_20 ?_
    refine lv_bipush (v := 6) hx hb dL_law_21 kb_6 ?_
    refine lv_isub hx hb dL_law_23 ?_
    refine lv_icmp_gt (tgt := 1700) hx hb dL_law_24 (by decide) (fun q => ?_) (fun q => ?_)
    · refine lv_iconst (v := 1) hx hb dL_law_1700 kc_1 ?_
      refine va_forget (fun q hq => hA _ (hw.2.2.2.2 q hq)) ?_
      exact lw_ret hx hb C.2.2.2.2.2.1 C.2.2.2.2.2.2.1 dL_law_1701
    · have hkL : k + 6 ≤ L := by
        rcases Nat.lt_or_ge L (k + 6) with h | h
        · exfalso
          apply q
          rw [Int32.lt_iff_toInt_lt]
          have e1 : (Int32.ofNat L - 6).toInt = (L : Int) - 6 := pk_sub_toInt (a := L) (b := 6) (by omega) (by omega)
          rw [e1, nI_toInt (by omega)]
          omega
        · exact h
      have hi : vp_in (nI k + 1) L ∧ vp_in (nI k + 2) L ∧ vp_in (nI k + 3) L ∧ vp_in (nI k + 4) L ∧ vp_in (nI k + 5) L := ⟨vpin_add (j := 1) (by omega) hL _ rfl, vpin_add (j := 2) (by omega) hL _ rfl, vpin_add (j := 3) (by omega) hL _ rfl, vpin_add (j := 4) (by omega) hL _ rfl, vpin_add (j := 5) (by omega) hL _ rfl⟩
      have nxt : ∀ (S V : St) (H : Heap) (locs : List Loc), RR S V → Wd E (wX V E) s.heap S H locs → ∀ (ls : Array Slot), lv_has ls 4 [(0, .ref b), (1, .ref (ea E 0)), (2, .ref (ea E 44)), (3, .int (nI k))] → W p l e room_1 s m #[Value.ref b] below meth c H locs 600000 7302250 (lw_Z below #[Value.ref b] s) (F0 m 1694 ls []) := by
        intro S V H locs hR hw ls hl
        refine lv_iinc (v := nI (k + 6)) (lv' := [(3, .int (nI (k + 6))), (0, .ref b), (1, .ref (ea E 0)), (2, .ref (ea E 44))]) hx hb dL_law_1694 hl (k := 3) rfl (nI_add k 6) (by decide) rfl (fun ls hl => ?_)
        refine lv_goto (tgt := 18) hx hb dL_law_1697 (by decide) ?_
        exact ih (k + 6) (by omega) (by omega) S V H locs hR hw ls (lv_sub hl [1, 2, 3, 0] rfl)
      refine lv_aload_n hx hb dL_law_27 rfl (lv_at hl 0 rfl) ?_
      refine lv_iload_n hx hb dL_law_28 rfl (lv_at hl 3 rfl) ?_
      refine va_sld hx hb hXs hbl hbA hw.2.2 (vp_in_nI (by omega) (by omega)) dL_law_29 ?_
      refine lv_bipush (v := 63) hx hb dL_law_30 kb_63 ?_
      refine lv_iand hx hb dL_law_32 ?_
      refine lv_topi (fun z _ => ?_)
      by_cases q0 : z = 0
      · refine lv_tableIn (off := 195) (tgt := 228) hx hb dL_law_33 (by rw [q0]; decide) (by rw [q0]; decide) (by rw [q0]; rfl) (by decide) ?_
        exact case_person hs.1 C hXs hbl hbA hi nxt hR hw hl
      by_cases q1 : z = 1
      · refine lv_tableIn (off := 228) (tgt := 261) hx hb dL_law_33 (by rw [q1]; decide) (by rw [q1]; decide) (by rw [q1]; rfl) (by decide) ?_
        exact case_promise hs.2.1 C hXs hbl hbA hi nxt hR hw hl
      by_cases q2 : z = 2
      · refine lv_tableIn (off := 261) (tgt := 294) hx hb dL_law_33 (by rw [q2]; decide) (by rw [q2]; decide) (by rw [q2]; rfl) (by decide) ?_
        exact case_promises hs.2.2.1 C hXs hbl hbA hi nxt hR hw hl
      by_cases q3 : z = 3
      · refine lv_tableIn (off := 304) (tgt := 337) hx hb dL_law_33 (by rw [q3]; decide) (by rw [q3]; decide) (by rw [q3]; rfl) (by decide) ?_
        exact case_mend hs.2.2.2.1 C hXs hbl hbA hi nxt hR hw hl
      by_cases q4 : z = 4
      · refine lv_tableIn (off := 347) (tgt := 380) hx hb dL_law_33 (by rw [q4]; decide) (by rw [q4]; decide) (by rw [q4]; rfl) (by decide) ?_
        exact case_of hs.2.2.2.2.1 C hXs hbl hbA hi nxt hR hw hl
      by_cases q5 : z = 5
      · refine lv_tableIn (off := 380) (tgt := 413) hx hb dL_law_33 (by rw [q5]; decide) (by rw [q5]; decide) (by rw [q5]; rfl) (by decide) ?_
        exact case_feed hs.2.2.2.2.2.1 C hXs hbl hbA hi nxt hR hw hl
      by_cases q6 : z = 6
      · refine lv_tableIn (off := 403) (tgt := 436) hx hb dL_law_33 (by rw [q6]; decide) (by rw [q6]; decide) (by rw [q6]; rfl) (by decide) ?_
        exact case_law hs.2.2.2.2.2.2.1 C hXs hbl hbA hi nxt hR hw hl
      by_cases q7 : z = 7
      · refine lv_tableIn (off := 416) (tgt := 449) hx hb dL_law_33 (by rw [q7]; decide) (by rw [q7]; decide) (by rw [q7]; rfl) (by decide) ?_
        exact case_chain hs.2.2.2.2.2.2.2.1 C hXs hbl hbA hi nxt hR hw hl
      by_cases q8 : z = 8
      · refine lv_tableIn (off := 459) (tgt := 492) hx hb dL_law_33 (by rw [q8]; decide) (by rw [q8]; decide) (by rw [q8]; rfl) (by decide) ?_
        exact case_creak hs.2.2.2.2.2.2.2.2.1 C hXs hbl hbA hi nxt hR hw hl
      by_cases q9 : z = 9
      · refine lv_tableIn (off := 492) (tgt := 525) hx hb dL_law_33 (by rw [q9]; decide) (by rw [q9]; decide) (by rw [q9]; rfl) (by decide) ?_
        exact case_rides hs.2.2.2.2.2.2.2.2.2.1 C hXs hbl hbA hi nxt hR hw hl
      by_cases q10 : z = 10
      · refine lv_tableIn (off := 535) (tgt := 568) hx hb dL_law_33 (by rw [q10]; decide) (by rw [q10]; decide) (by rw [q10]; rfl) (by decide) ?_
        exact case_ride hs.2.2.2.2.2.2.2.2.2.2.1 C hXs hbl hbA hi nxt hR hw hl
      by_cases q11 : z = 11
      · refine lv_tableIn (off := 568) (tgt := 601) hx hb dL_law_33 (by rw [q11]; decide) (by rw [q11]; decide) (by rw [q11]; rfl) (by decide) ?_
        exact case_who hs.2.2.2.2.2.2.2.2.2.2.2.1 C hXs hbl hbA hi nxt hR hw hl
      by_cases q12 : z = 12
      · refine lv_tableIn (off := 591) (tgt := 624) hx hb dL_law_33 (by rw [q12]; decide) (by rw [q12]; decide) (by rw [q12]; rfl) (by decide) ?_
        exact case_best hs.2.2.2.2.2.2.2.2.2.2.2.2.1 C hXs hbl hbA hi nxt hR hw hl
      by_cases q13 : z = 13
      · refine lv_tableIn (off := 614) (tgt := 647) hx hb dL_law_33 (by rw [q13]; decide) (by rw [q13]; decide) (by rw [q13]; rfl) (by decide) ?_
        exact case_keepBy hs.2.2.2.2.2.2.2.2.2.2.2.2.2.1 C hXs hbl hbA hi nxt hR hw hl
      by_cases q14 : z = 14
      · refine lv_tableIn (off := 657) (tgt := 690) hx hb dL_law_33 (by rw [q14]; decide) (by rw [q14]; decide) (by rw [q14]; rfl) (by decide) ?_
        exact case_lightest hs.2.2.2.2.2.2.2.2.2.2.2.2.2.2.1 C hXs hbl hbA hi nxt hR hw hl
      by_cases q15 : z = 15
      · refine lv_tableIn (off := 700) (tgt := 733) hx hb dL_law_33 (by rw [q15]; decide) (by rw [q15]; decide) (by rw [q15]; rfl) (by decide) ?_
        exact case_ways hs.2.2.2.2.2.2.2.2.2.2.2.2.2.2.2.1 C hXs hbl hbA hi nxt hR hw hl
      by_cases q16 : z = 16
      · refine lv_tableIn (off := 733) (tgt := 766) hx hb dL_law_33 (by rw [q16]; decide) (by rw [q16]; decide) (by rw [q16]; rfl) (by decide) ?_
        exact case_can hs.2.2.2.2.2.2.2.2.2.2.2.2.2.2.2.2.1 C hXs hbl hbA hi nxt hR hw hl
      by_cases q17 : z = 17
      · refine lv_tableIn (off := 766) (tgt := 799) hx hb dL_law_33 (by rw [q17]; decide) (by rw [q17]; decide) (by rw [q17]; rfl) (by decide) ?_
        exact case_most hs.2.2.2.2.2.2.2.2.2.2.2.2.2.2.2.2.2.1 C hXs hbl hbA hi nxt hR hw hl
      by_cases q18 : z = 18
      · refine lv_tableIn (off := 799) (tgt := 832) hx hb dL_law_33 (by rw [q18]; decide) (by rw [q18]; decide) (by rw [q18]; rfl) (by decide) ?_
        exact case_clashes hs.2.2.2.2.2.2.2.2.2.2.2.2.2.2.2.2.2.2.1 C hXs hbl hbA hi nxt hR hw hl
      by_cases q19 : z = 19
      · refine lv_tableIn (off := 832) (tgt := 865) hx hb dL_law_33 (by rw [q19]; decide) (by rw [q19]; decide) (by rw [q19]; rfl) (by decide) ?_
        exact case_hand hs.2.2.2.2.2.2.2.2.2.2.2.2.2.2.2.2.2.2.2.1 C hXs hbl hbA hi nxt hR hw hl
      by_cases q20 : z = 20
      · refine lv_tableIn (off := 865) (tgt := 898) hx hb dL_law_33 (by rw [q20]; decide) (by rw [q20]; decide) (by rw [q20]; rfl) (by decide) ?_
        exact case_handBest hs.2.2.2.2.2.2.2.2.2.2.2.2.2.2.2.2.2.2.2.2.1 C hXs hbl hbA hi nxt hR hw hl
      by_cases q21 : z = 21
      · refine lv_tableIn (off := 898) (tgt := 931) hx hb dL_law_33 (by rw [q21]; decide) (by rw [q21]; decide) (by rw [q21]; rfl) (by decide) ?_
        exact case_judge hs.2.2.2.2.2.2.2.2.2.2.2.2.2.2.2.2.2.2.2.2.2.1 C hXs hbl hbA hi nxt hR hw hl
      by_cases q22 : z = 22
      · refine lv_tableIn (off := 931) (tgt := 964) hx hb dL_law_33 (by rw [q22]; decide) (by rw [q22]; decide) (by rw [q22]; rfl) (by decide) ?_
        exact case_keptOn hs.2.2.2.2.2.2.2.2.2.2.2.2.2.2.2.2.2.2.2.2.2.2.1 C hXs hbl hbA hi nxt hR hw hl
      by_cases q23 : z = 23
      · refine lv_tableIn (off := 984) (tgt := 1017) hx hb dL_law_33 (by rw [q23]; decide) (by rw [q23]; decide) (by rw [q23]; rfl) (by decide) ?_
        exact case_whose hs.2.2.2.2.2.2.2.2.2.2.2.2.2.2.2.2.2.2.2.2.2.2.2.1 C hXs hbl hbA hi nxt hR hw hl
      by_cases q24 : z = 24
      · refine lv_tableIn (off := 1007) (tgt := 1040) hx hb dL_law_33 (by rw [q24]; decide) (by rw [q24]; decide) (by rw [q24]; rfl) (by decide) ?_
        exact case_byTurns hs.2.2.2.2.2.2.2.2.2.2.2.2.2.2.2.2.2.2.2.2.2.2.2.2.1 C hXs hbl hbA hi nxt hR hw hl
      by_cases q25 : z = 25
      · refine lv_tableIn (off := 1050) (tgt := 1083) hx hb dL_law_33 (by rw [q25]; decide) (by rw [q25]; decide) (by rw [q25]; rfl) (by decide) ?_
        exact case_loudest hs.2.2.2.2.2.2.2.2.2.2.2.2.2.2.2.2.2.2.2.2.2.2.2.2.2.1 C hXs hbl hbA hi nxt hR hw hl
      by_cases q26 : z = 26
      · refine lv_tableIn (off := 1073) (tgt := 1106) hx hb dL_law_33 (by rw [q26]; decide) (by rw [q26]; decide) (by rw [q26]; rfl) (by decide) ?_
        exact case_drawn hs.2.2.2.2.2.2.2.2.2.2.2.2.2.2.2.2.2.2.2.2.2.2.2.2.2.2.1 C hXs hbl hbA hi nxt hR hw hl
      by_cases q27 : z = 27
      · refine lv_tableIn (off := 1126) (tgt := 1159) hx hb dL_law_33 (by rw [q27]; decide) (by rw [q27]; decide) (by rw [q27]; rfl) (by decide) ?_
        exact case_passes hs.2.2.2.2.2.2.2.2.2.2.2.2.2.2.2.2.2.2.2.2.2.2.2.2.2.2.2.1 C hXs hbl hbA hi nxt hR hw hl
      by_cases q28 : z = 28
      · refine lv_tableIn (off := 1139) (tgt := 1172) hx hb dL_law_33 (by rw [q28]; decide) (by rw [q28]; decide) (by rw [q28]; rfl) (by decide) ?_
        exact case_vow hs.2.2.2.2.2.2.2.2.2.2.2.2.2.2.2.2.2.2.2.2.2.2.2.2.2.2.2.2.1 C hXs hbl hbA hi nxt hR hw hl
      by_cases q29 : z = 29
      · refine lv_tableIn (off := 1172) (tgt := 1205) hx hb dL_law_33 (by rw [q29]; decide) (by rw [q29]; decide) (by rw [q29]; rfl) (by decide) ?_
        exact case_kept hs.2.2.2.2.2.2.2.2.2.2.2.2.2.2.2.2.2.2.2.2.2.2.2.2.2.2.2.2.2.1 C hXs hbl hbA hi nxt hR hw hl
      by_cases q30 : z = 30
      · refine lv_tableIn (off := 1195) (tgt := 1228) hx hb dL_law_33 (by rw [q30]; decide) (by rw [q30]; decide) (by rw [q30]; rfl) (by decide) ?_
        exact case_led hs.2.2.2.2.2.2.2.2.2.2.2.2.2.2.2.2.2.2.2.2.2.2.2.2.2.2.2.2.2.2.1 C hXs hbl hbA hi nxt hR hw hl
      by_cases q31 : z = 31
      · refine lv_tableIn (off := 1218) (tgt := 1251) hx hb dL_law_33 (by rw [q31]; decide) (by rw [q31]; decide) (by rw [q31]; rfl) (by decide) ?_
        exact case_image hs.2.2.2.2.2.2.2.2.2.2.2.2.2.2.2.2.2.2.2.2.2.2.2.2.2.2.2.2.2.2.2.1 C hXs hbl hbA hi nxt hR hw hl
      by_cases q32 : z = 32
      · refine lv_tableIn (off := 1231) (tgt := 1264) hx hb dL_law_33 (by rw [q32]; decide) (by rw [q32]; decide) (by rw [q32]; rfl) (by decide) ?_
        exact case_back hs.2.2.2.2.2.2.2.2.2.2.2.2.2.2.2.2.2.2.2.2.2.2.2.2.2.2.2.2.2.2.2.2.1 C hXs hbl hbA hi nxt hR hw hl
      by_cases q33 : z = 33
      · refine lv_tableIn (off := 1244) (tgt := 1277) hx hb dL_law_33 (by rw [q33]; decide) (by rw [q33]; decide) (by rw [q33]; rfl) (by decide) ?_
        exact case_undo hs.2.2.2.2.2.2.2.2.2.2.2.2.2.2.2.2.2.2.2.2.2.2.2.2.2.2.2.2.2.2.2.2.2.1 C hXs hbl hbA hi nxt hR hw hl
      by_cases q34 : z = 34
      · refine lv_tableIn (off := 1257) (tgt := 1290) hx hb dL_law_33 (by rw [q34]; decide) (by rw [q34]; decide) (by rw [q34]; rfl) (by decide) ?_
        exact case_redo hs.2.2.2.2.2.2.2.2.2.2.2.2.2.2.2.2.2.2.2.2.2.2.2.2.2.2.2.2.2.2.2.2.2.2.1 C hXs hbl hbA hi nxt hR hw hl
      by_cases q35 : z = 35
      · refine lv_tableIn (off := 1270) (tgt := 1303) hx hb dL_law_33 (by rw [q35]; decide) (by rw [q35]; decide) (by rw [q35]; rfl) (by decide) ?_
        exact case_body hs.2.2.2.2.2.2.2.2.2.2.2.2.2.2.2.2.2.2.2.2.2.2.2.2.2.2.2.2.2.2.2.2.2.2.2.1 C hXs hbl hbA hi nxt hR hw hl
      by_cases q36 : z = 36
      · refine lv_tableIn (off := 1293) (tgt := 1326) hx hb dL_law_33 (by rw [q36]; decide) (by rw [q36]; decide) (by rw [q36]; rfl) (by decide) ?_
        exact case_act hs.2.2.2.2.2.2.2.2.2.2.2.2.2.2.2.2.2.2.2.2.2.2.2.2.2.2.2.2.2.2.2.2.2.2.2.2.1 C hXs hbl hbA hi nxt hR hw hl
      by_cases q37 : z = 37
      · refine lv_tableIn (off := 1336) (tgt := 1369) hx hb dL_law_33 (by rw [q37]; decide) (by rw [q37]; decide) (by rw [q37]; rfl) (by decide) ?_
        exact case_trace hs.2.2.2.2.2.2.2.2.2.2.2.2.2.2.2.2.2.2.2.2.2.2.2.2.2.2.2.2.2.2.2.2.2.2.2.2.2.1 C hXs hbl hbA hi nxt hR hw hl
      by_cases q38 : z = 38
      · refine lv_tableIn (off := 1359) (tgt := 1392) hx hb dL_law_33 (by rw [q38]; decide) (by rw [q38]; decide) (by rw [q38]; rfl) (by decide) ?_
        exact case_keep hs.2.2.2.2.2.2.2.2.2.2.2.2.2.2.2.2.2.2.2.2.2.2.2.2.2.2.2.2.2.2.2.2.2.2.2.2.2.2.1 C hXs hbl hbA hi nxt hR hw hl
      by_cases q39 : z = 39
      · refine lv_tableIn (off := 1392) (tgt := 1425) hx hb dL_law_33 (by rw [q39]; decide) (by rw [q39]; decide) (by rw [q39]; rfl) (by decide) ?_
        exact case_row hs.2.2.2.2.2.2.2.2.2.2.2.2.2.2.2.2.2.2.2.2.2.2.2.2.2.2.2.2.2.2.2.2.2.2.2.2.2.2.2.1 C hXs hbl hbA hi nxt hR hw hl
      by_cases q40 : z = 40
      · refine lv_tableIn (off := 1435) (tgt := 1468) hx hb dL_law_33 (by rw [q40]; decide) (by rw [q40]; decide) (by rw [q40]; rfl) (by decide) ?_
        exact case_put hs.2.2.2.2.2.2.2.2.2.2.2.2.2.2.2.2.2.2.2.2.2.2.2.2.2.2.2.2.2.2.2.2.2.2.2.2.2.2.2.2.1 C hXs hbl hbA hi nxt hR hw hl
      by_cases q41 : z = 41
      · refine lv_tableIn (off := 1508) (tgt := 1541) hx hb dL_law_33 (by rw [q41]; decide) (by rw [q41]; decide) (by rw [q41]; rfl) (by decide) ?_
        exact case_element hs.2.2.2.2.2.2.2.2.2.2.2.2.2.2.2.2.2.2.2.2.2.2.2.2.2.2.2.2.2.2.2.2.2.2.2.2.2.2.2.2.2.1 C hXs hbl hbA hi nxt hR hw hl
      by_cases q42 : z = 42
      · refine lv_tableIn (off := 1542) (tgt := 1575) hx hb dL_law_33 (by rw [q42]; decide) (by rw [q42]; decide) (by rw [q42]; rfl) (by decide) ?_
        exact case_shift hs.2.2.2.2.2.2.2.2.2.2.2.2.2.2.2.2.2.2.2.2.2.2.2.2.2.2.2.2.2.2.2.2.2.2.2.2.2.2.2.2.2.2.1 C hXs hbl hbA hi nxt hR hw hl
      by_cases q43 : z = 43
      · refine lv_tableIn (off := 1605) (tgt := 1638) hx hb dL_law_33 (by rw [q43]; decide) (by rw [q43]; decide) (by rw [q43]; rfl) (by decide) ?_
        exact case_taken hs.2.2.2.2.2.2.2.2.2.2.2.2.2.2.2.2.2.2.2.2.2.2.2.2.2.2.2.2.2.2.2.2.2.2.2.2.2.2.2.2.2.2.2.1 C hXs hbl hbA hi nxt hR hw hl
      by_cases q44 : z = 44
      · refine lv_tableIn (off := 1638) (tgt := 1671) hx hb dL_law_33 (by rw [q44]; decide) (by rw [q44]; decide) (by rw [q44]; rfl) (by decide) ?_
        exact case_count hs.2.2.2.2.2.2.2.2.2.2.2.2.2.2.2.2.2.2.2.2.2.2.2.2.2.2.2.2.2.2.2.2.2.2.2.2.2.2.2.2.2.2.2.2 C hXs hbl hbA hi nxt hR hw hl
      refine lv_tableOut (tgt := 1694) hx hb dL_law_33 (by have h0 := lv_neT (a := 0) q0 rfl; have h1 := lv_neT (a := 1) q1 rfl; have h2 := lv_neT (a := 2) q2 rfl; have h3 := lv_neT (a := 3) q3 rfl; have h4 := lv_neT (a := 4) q4 rfl; have h5 := lv_neT (a := 5) q5 rfl; have h6 := lv_neT (a := 6) q6 rfl; have h7 := lv_neT (a := 7) q7 rfl; have h8 := lv_neT (a := 8) q8 rfl; have h9 := lv_neT (a := 9) q9 rfl; have h10 := lv_neT (a := 10) q10 rfl; have h11 := lv_neT (a := 11) q11 rfl; have h12 := lv_neT (a := 12) q12 rfl; have h13 := lv_neT (a := 13) q13 rfl; have h14 := lv_neT (a := 14) q14 rfl; have h15 := lv_neT (a := 15) q15 rfl; have h16 := lv_neT (a := 16) q16 rfl; have h17 := lv_neT (a := 17) q17 rfl; have h18 := lv_neT (a := 18) q18 rfl; have h19 := lv_neT (a := 19) q19 rfl; have h20 := lv_neT (a := 20) q20 rfl; have h21 := lv_neT (a := 21) q21 rfl; have h22 := lv_neT (a := 22) q22 rfl; have h23 := lv_neT (a := 23) q23 rfl; have h24 := lv_neT (a := 24) q24 rfl; have h25 := lv_neT (a := 25) q25 rfl; have h26 := lv_neT (a := 26) q26 rfl; have h27 := lv_neT (a := 27) q27 rfl; have h28 := lv_neT (a := 28) q28 rfl; have h29 := lv_neT (a := 29) q29 rfl; have h30 := lv_neT (a := 30) q30 rfl; have h31 := lv_neT (a := 31) q31 rfl; have h32 := lv_neT (a := 32) q32 rfl; have h33 := lv_neT (a := 33) q33 rfl; have h34 := lv_neT (a := 34) q34 rfl; have h35 := lv_neT (a := 35) q35 rfl; have h36 := lv_neT (a := 36) q36 rfl; have h37 := lv_neT (a := 37) q37 rfl; have h38 := lv_neT (a := 38) q38 rfl; have h39 := lv_neT (a := 39) q39 rfl; have h40 := lv_neT (a := 40) q40 rfl; have h41 := lv_neT (a := 41) q41 rfl; have h42 := lv_neT (a := 42) q42 rfl; have h43 := lv_neT (a := 43) q43 rfl; have h44 := lv_neT (a := 44) q44 rfl; omega) (by decide) ?_
      exact nxt S V H locs hR hw ls hl
