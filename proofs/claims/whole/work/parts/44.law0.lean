-- ===== end of PART A; then your names; then what follows =====
/-! THE CLAIM OUT OF ONE WALK OF THE LAW'S BODY. Your part is whole_start (and what it stands on); all else here is the same for every law, but numbers. -/
def R_law : String := "ChainsHoldLaw"
def lw_P (b : Addr) (xs : List Int32) (args : Array Value) (s : State) : Prop := args = #[.ref b] ∧ s.IntsAt b xs ∧ xs.length ≤ 3072 ∧ (Jvm.Cond.and given_1 narrow_1).before args s = true
def lw_Q (_ : Array Value) (s : State) (o : Outcome) (t : State) : Prop := o = .returned (some (.int 1)) ∧ Framed s o t [] 600000 7302250
def lw_Z (below : List Frame) (a : Array Value) (s : State) : State → Prop := fun t => ∃ o, t.status = .running ∧ Ended t below o ∧ lw_Q a s o t
/-- the law's own end, with 1 on the stack, nothing written that was there before, its room as the claim has it -/
theorem lw_ret {p : Program} {l : Launch} {e : Env} {s : State} {m : MethodId} {below : List Frame} {meth : Method} {c : Code} {b : Nat} (hx : p.tables.exec = Jvm.exec) (hb : c.code = code) (hr : meth.sig.returnType = ret) (hlocks : meth.locks = false) {pc : Nat} {H : Heap} {ls : Array Slot} (hdg : decode code pc = .ok (.ireturn, 1)) : W p l e room_1 s m #[Value.ref b] below meth c H [] 600000 7302250 (lw_Z below #[Value.ref b] s) (F0 m pc ls [.int 1]) := by
  intro T hT X
  obtain ⟨fs, hret, hrun, hended, hW, hframe⟩ := X.leave (v := some (.int 1)) (hlocks := hlocks) (fun h => by rw [hr] at h; cases h)
  have hmeth' : T.vm.method? m = some meth := X.method'
  refine ⟨T.setFrames fs, ?_, .returned (some (.int 1)), hrun, hended, rfl, ⟨_, rfl⟩, hW, hframe⟩
  jvm_step X.here [X.here.top, hx, hb, hdg, hmeth', hr, ret, narrow_b1]
  (try refine ⟨rfl, ?_⟩); (try refine ⟨rfl, ?_⟩)
  first | (intro acts; rw [hret _ acts rfl rfl rfl]) | rw [hret _ _ rfl rfl rfl]
  exact Steps.refl _
/-- what holds at the law's entry: the machine, the code, the tables' words (any of lw_tbl by 'hts w (by decide +kernel)'), the script of L ints xs at the cell b, what the Statement gives of the start (any of its parts by flat_of_before) -/
def lw_At (p : Program) (s : State) (m : MethodId) (meth : Method) (c : Code) (b L : Nat) (xs : Nat → Int32) : Prop :=
  p.tables.exec = Jvm.exec ∧ c.code = code ∧ meth.sig.returnType = ret ∧ c.maxLocals = 4 ∧ s.vm.findClass R_law = some m.cls ∧ (∀ w ∈ lw_tbl, w.before #[Value.ref b] s = true) ∧ va_X b L xs s s.heap ∧ b < s.heap.size ∧ meth.locks = false ∧ (Jvm.Cond.and given_1 narrow_1).before #[Value.ref b] s = true

section LAWB
variable {p : Program} {l : Launch} {e : Env} {s : State} {m : MethodId} {args : Array Value} {below : List Frame} {meth : Method} {c : Code} {H : Heap} {locs : List Loc} {Q : State → Prop} {E : Ev} {S S' V : St} {cc : ByteArray} {nL pc : Nat} {own : String} {ret : Option FieldType} {ls : Array Slot} {rest : List Value}
theorem after_callL {w : St → va_W} {rv : Option Value} {st0 : List Value} {a : Array Value} {R : Room} {cells slots : Nat} (C : Cx p s m args meth c E cc nL own ret) (hw : Wd E w s.heap S H locs) (hr : va_Run p l e R s m args below meth c H locs cells slots 0 0 (F0 m pc ls st0) rest (QW E w rv S' a) (eA E))
    (kk : ∀ (H1 : Heap) (locs1 : List Loc), Wd E w s.heap S' H1 locs1 → W p l e R s m args below meth c H1 locs1 cells slots Q (F0 m (pc + 3) ls (rv.toList ++ rest))) : W p l e R s m args below meth c H locs cells slots Q (F0 m pc ls st0) := by
  intro T hT X
  obtain ⟨v, st₀, t, T', L, h0, X', hL, e1, e2, ⟨hv, hI, hz, hk⟩, st⟩ := hr T hT X
  cases hv
  rw [h0] at hz hk
  have hS := hw.2.2
  obtain ⟨t2, a1, b1⟩ := kk T'.heap (locs ++ L) ⟨by rw [e1]; exact hI.1, hI.2.1, Nat.le_trans hS.1 (by rw [e1]; exact hz), fun q h1 h2 => by rw [e1, hk q (Nat.lt_of_lt_of_le h1 hS.1) h2]; exact hS.2.1 q h1 h2, fun q hq => by
      rcases List.mem_append.mp hq with h | h
      · exact hS.2.2 q h
      · exact hL q h⟩ T' rfl X'
  exact ⟨t2, st t2 a1, b1⟩
theorem inv_L {w : Ev → St → va_W} {y : MethodName} {cy : ByteArray} {nLy idx n h ci q0 b : Nat} {r : Option FieldType} {As : List Value} {fs : List Value} {qc : vw_C} {rv : Ev → Option Value} (Lk : LkV own idx y cy nLy r n) (C : Cx p s m args meth c E cc nL own ret) (hw : Wd E (w E) s.heap S H locs)
    (he : (w E S)[q0]? = some (b, .inr (ci, fs))) (hc : gCl[ci]? = some qc) (hq : qc.1 = y.cls)
    (hM : Ct l w y cy nLy r h (fun E' => .ref (ea E' q0) :: As) S rv S') (hb : b = ea E q0) (hl : ls.size = nL) (hdg : decode cc pc = .ok (.invokevirtual idx, 3)) (hn : As.length = n) (hh : h ≤ 2000) (hny : nLy ≤ 21) (hcat : (rest.map fun v => v.category).sum ≤ 8) {st0 : List Value} (hst : st0 = As.reverse ++ .ref b :: rest)
    (kk : ∀ (H1 : Heap) (locs1 : List Loc), Wd E (w E) s.heap S' H1 locs1 → W p l e room_1 s m args below meth c H1 locs1 600000 7302250 Q (F0 m (pc + 3) ls ((rv E).toList ++ rest))) : W p l e room_1 s m args below meth c H locs 600000 7302250 Q (F0 m pc ls st0) := by
  subst hb
  obtain ⟨⟨k1, k2, k3, k4, k5⟩, kd⟩ := Lk
  have hts := C.2.2.2.2.1
  refine after_callL C hw (va_runV (As := As) (rest := rest) (C := y.cls) (n := n) (Ts := gW) ⟨C.1, C.2.1, C.2.2.1, C.2.2.2.1, hts⟩ (hM E) ⟨callB_of n hts (gW_GoodIn (c0 := .code y cy nLy r) k1) rfl rfl rfl (hts _ k2) (hts _ k3) kd (by simp only [rmh, room_1]; omega), hts _ k4, hts _ k5⟩ ⟨IW_blind, ?_, IW_pre C hw⟩ rfl hn hl hst (lv_room hcat) hdg ⟨Nat.le_refl _, Nat.le_refl _⟩) kk
  obtain ⟨cell, h1, h2, h3⟩ := va_recv C.2.2.2.2.2.2.2.1.1 hw.1 hc he
  exact ⟨cell, h1, h2, by rw [← hq]; exact h3⟩
theorem inv_Li {w : Ev → St → va_W} {y : MethodName} {cy : ByteArray} {nLy idx n h ci q0 b : Nat} {r : Option FieldType} {As : List Value} {fs : List Value} {qc : vw_C} {rr : Int32} (Lk : LkV own idx y cy nLy r n) (C : Cx p s m args meth c E cc nL own ret) (hw : Wd E (w E) s.heap S H locs)
    (he : (w E S)[q0]? = some (b, .inr (ci, fs))) (hc : gCl[ci]? = some qc) (hq : qc.1 = y.cls)
    (hM : Ct l w y cy nLy r h (fun E' => .ref (ea E' q0) :: As) S (fun _ => some (.int rr)) S') (hb : b = ea E q0) (hl : ls.size = nL) (hdg : decode cc pc = .ok (.invokevirtual idx, 3)) (hn : As.length = n) (hh : h ≤ 2000) (hny : nLy ≤ 21) (hcat : (rest.map fun v => v.category).sum ≤ 8) {st0 : List Value} (hst : st0 = As.reverse ++ .ref b :: rest)
    (kk : ∀ (H1 : Heap) (locs1 : List Loc), Wd E (w E) s.heap S' H1 locs1 → W p l e room_1 s m args below meth c H1 locs1 600000 7302250 Q (F0 m (pc + 3) ls (.int rr :: rest))) : W p l e room_1 s m args below meth c H locs 600000 7302250 Q (F0 m pc ls st0) := inv_L Lk C hw he hc hq hM hb hl hdg hn hh hny hcat hst kk
theorem inv_Ll {w : Ev → St → va_W} {y : MethodName} {cy : ByteArray} {nLy idx n h ci q0 b : Nat} {r : Option FieldType} {As : List Value} {fs : List Value} {qc : vw_C} {rr : Int64} (Lk : LkV own idx y cy nLy r n) (C : Cx p s m args meth c E cc nL own ret) (hw : Wd E (w E) s.heap S H locs)
    (he : (w E S)[q0]? = some (b, .inr (ci, fs))) (hc : gCl[ci]? = some qc) (hq : qc.1 = y.cls)
    (hM : Ct l w y cy nLy r h (fun E' => .ref (ea E' q0) :: As) S (fun _ => some (.long rr)) S') (hb : b = ea E q0) (hl : ls.size = nL) (hdg : decode cc pc = .ok (.invokevirtual idx, 3)) (hn : As.length = n) (hh : h ≤ 2000) (hny : nLy ≤ 21) (hcat : (rest.map fun v => v.category).sum ≤ 8) {st0 : List Value} (hst : st0 = As.reverse ++ .ref b :: rest)
    (kk : ∀ (H1 : Heap) (locs1 : List Loc), Wd E (w E) s.heap S' H1 locs1 → W p l e room_1 s m args below meth c H1 locs1 600000 7302250 Q (F0 m (pc + 3) ls (.long rr :: rest))) : W p l e room_1 s m args below meth c H locs 600000 7302250 Q (F0 m pc ls st0) := inv_L Lk C hw he hc hq hM hb hl hdg hn hh hny hcat hst kk
end LAWB
theorem q_93 : .classLink RL 7 RX10 ∈ gW := gW_in (i := 93) (by decide +kernel) (by decide +kernel)
theorem q_94 : .instantiable RX10 10 ∈ gW := gW_in (i := 94) (by decide +kernel) (by decide +kernel)
theorem q_95 : .methodLink RL 9 yX10_init ∈ gW := gW_in (i := 95) (by decide +kernel) (by decide +kernel)
theorem q_96 : .instanceMethod yX10_init ∈ gW := gW_in (i := 96) (by decide +kernel) (by decide +kernel)
theorem q_97 : .code yX10_init cX10_init 1 none ∈ gW := gW_in (i := 97) (by decide +kernel) (by decide +kernel)
theorem q_405 : .methodLink RL 13 yX10_person ∈ gW := gW_in (i := 405) (by decide +kernel) (by decide +kernel)
theorem q_406 : .instanceMethod yX10_person ∈ gW := gW_in (i := 406) (by decide +kernel) (by decide +kernel)
theorem q_407 : .selects RX10 yX10_person yX10_person ∈ gW := gW_in (i := 407) (by decide +kernel) (by decide +kernel)
theorem q_408 : .code yX10_person cX10_person 3 (some .int) ∈ gW := gW_in (i := 408) (by decide +kernel) (by decide +kernel)
theorem q_416 : .methodLink RL 18 yX10_promise ∈ gW := gW_in (i := 416) (by decide +kernel) (by decide +kernel)
theorem q_417 : .instanceMethod yX10_promise ∈ gW := gW_in (i := 417) (by decide +kernel) (by decide +kernel)
theorem q_418 : .selects RX10 yX10_promise yX10_promise ∈ gW := gW_in (i := 418) (by decide +kernel) (by decide +kernel)
theorem q_419 : .code yX10_promise cX10_promise 3 (some .int) ∈ gW := gW_in (i := 419) (by decide +kernel) (by decide +kernel)
theorem q_440 : .methodLink RL 22 yX10_promises ∈ gW := gW_in (i := 440) (by decide +kernel) (by decide +kernel)
theorem q_441 : .instanceMethod yX10_promises ∈ gW := gW_in (i := 441) (by decide +kernel) (by decide +kernel)
theorem q_442 : .selects RX10 yX10_promises yX10_promises ∈ gW := gW_in (i := 442) (by decide +kernel) (by decide +kernel)
theorem q_443 : .code yX10_promises cX10_promises 5 (some .int) ∈ gW := gW_in (i := 443) (by decide +kernel) (by decide +kernel)
theorem q_464 : .methodLink RL 27 yX10_mend ∈ gW := gW_in (i := 464) (by decide +kernel) (by decide +kernel)
theorem q_465 : .instanceMethod yX10_mend ∈ gW := gW_in (i := 465) (by decide +kernel) (by decide +kernel)
theorem q_466 : .selects RX10 yX10_mend yX10_mend ∈ gW := gW_in (i := 466) (by decide +kernel) (by decide +kernel)
theorem q_467 : .code yX10_mend cX10_mend 5 (some .int) ∈ gW := gW_in (i := 467) (by decide +kernel) (by decide +kernel)
theorem q_504 : .methodLink RL 31 yX10_of ∈ gW := gW_in (i := 504) (by decide +kernel) (by decide +kernel)
theorem q_505 : .instanceMethod yX10_of ∈ gW := gW_in (i := 505) (by decide +kernel) (by decide +kernel)
theorem q_506 : .selects RX10 yX10_of yX10_of ∈ gW := gW_in (i := 506) (by decide +kernel) (by decide +kernel)
theorem q_507 : .code yX10_of cX10_of 3 (some .int) ∈ gW := gW_in (i := 507) (by decide +kernel) (by decide +kernel)
theorem q_508 : .methodLink RL 35 yX10_feed ∈ gW := gW_in (i := 508) (by decide +kernel) (by decide +kernel)
theorem q_509 : .instanceMethod yX10_feed ∈ gW := gW_in (i := 509) (by decide +kernel) (by decide +kernel)
theorem q_510 : .selects RX10 yX10_feed yX10_feed ∈ gW := gW_in (i := 510) (by decide +kernel) (by decide +kernel)
theorem q_511 : .code yX10_feed cX10_feed 2 (some .int) ∈ gW := gW_in (i := 511) (by decide +kernel) (by decide +kernel)
theorem q_516 : .methodLink RL 40 yX10_law ∈ gW := gW_in (i := 516) (by decide +kernel) (by decide +kernel)
theorem q_517 : .instanceMethod yX10_law ∈ gW := gW_in (i := 517) (by decide +kernel) (by decide +kernel)
theorem q_518 : .selects RX10 yX10_law yX10_law ∈ gW := gW_in (i := 518) (by decide +kernel) (by decide +kernel)
theorem q_519 : .code yX10_law cX10_law 2 (some .int) ∈ gW := gW_in (i := 519) (by decide +kernel) (by decide +kernel)
theorem q_566 : .methodLink RL 45 yX10_chain ∈ gW := gW_in (i := 566) (by decide +kernel) (by decide +kernel)
theorem q_567 : .instanceMethod yX10_chain ∈ gW := gW_in (i := 567) (by decide +kernel) (by decide +kernel)
theorem q_568 : .selects RX10 yX10_chain yX10_chain ∈ gW := gW_in (i := 568) (by decide +kernel) (by decide +kernel)
theorem q_569 : .code yX10_chain cX10_chain 4 (some .int) ∈ gW := gW_in (i := 569) (by decide +kernel) (by decide +kernel)
theorem q_646 : .methodLink RL 49 yX10_creak ∈ gW := gW_in (i := 646) (by decide +kernel) (by decide +kernel)
theorem q_647 : .instanceMethod yX10_creak ∈ gW := gW_in (i := 647) (by decide +kernel) (by decide +kernel)
theorem q_648 : .selects RX10 yX10_creak yX10_creak ∈ gW := gW_in (i := 648) (by decide +kernel) (by decide +kernel)
theorem q_649 : .code yX10_creak cX10_creak 3 (some .int) ∈ gW := gW_in (i := 649) (by decide +kernel) (by decide +kernel)
theorem q_652 : .methodLink RL 53 yX10_rides ∈ gW := gW_in (i := 652) (by decide +kernel) (by decide +kernel)
theorem q_653 : .instanceMethod yX10_rides ∈ gW := gW_in (i := 653) (by decide +kernel) (by decide +kernel)
theorem q_654 : .selects RX10 yX10_rides yX10_rides ∈ gW := gW_in (i := 654) (by decide +kernel) (by decide +kernel)
theorem q_655 : .code yX10_rides cX10_rides 4 (some .int) ∈ gW := gW_in (i := 655) (by decide +kernel) (by decide +kernel)
theorem q_679 : .methodLink RL 57 yX10_ride ∈ gW := gW_in (i := 679) (by decide +kernel) (by decide +kernel)
theorem q_680 : .instanceMethod yX10_ride ∈ gW := gW_in (i := 680) (by decide +kernel) (by decide +kernel)
theorem q_681 : .selects RX10 yX10_ride yX10_ride ∈ gW := gW_in (i := 681) (by decide +kernel) (by decide +kernel)
theorem q_682 : .code yX10_ride cX10_ride 4 (some .int) ∈ gW := gW_in (i := 682) (by decide +kernel) (by decide +kernel)
theorem q_694 : .methodLink RL 61 yX10_who ∈ gW := gW_in (i := 694) (by decide +kernel) (by decide +kernel)
theorem q_695 : .instanceMethod yX10_who ∈ gW := gW_in (i := 695) (by decide +kernel) (by decide +kernel)
theorem q_696 : .selects RX10 yX10_who yX10_who ∈ gW := gW_in (i := 696) (by decide +kernel) (by decide +kernel)
theorem q_697 : .code yX10_who cX10_who 2 (some .int) ∈ gW := gW_in (i := 697) (by decide +kernel) (by decide +kernel)
theorem q_703 : .methodLink RL 65 yX10_best ∈ gW := gW_in (i := 703) (by decide +kernel) (by decide +kernel)
theorem q_704 : .instanceMethod yX10_best ∈ gW := gW_in (i := 704) (by decide +kernel) (by decide +kernel)
theorem q_705 : .selects RX10 yX10_best yX10_best ∈ gW := gW_in (i := 705) (by decide +kernel) (by decide +kernel)
theorem q_706 : .code yX10_best cX10_best 3 (some .int) ∈ gW := gW_in (i := 706) (by decide +kernel) (by decide +kernel)
theorem q_717 : .methodLink RL 69 yX10_keepBy ∈ gW := gW_in (i := 717) (by decide +kernel) (by decide +kernel)
theorem q_718 : .instanceMethod yX10_keepBy ∈ gW := gW_in (i := 718) (by decide +kernel) (by decide +kernel)
theorem q_719 : .selects RX10 yX10_keepBy yX10_keepBy ∈ gW := gW_in (i := 719) (by decide +kernel) (by decide +kernel)
theorem q_720 : .code yX10_keepBy cX10_keepBy 5 (some .int) ∈ gW := gW_in (i := 720) (by decide +kernel) (by decide +kernel)
theorem q_751 : .methodLink RL 73 yX10_lightest ∈ gW := gW_in (i := 751) (by decide +kernel) (by decide +kernel)
theorem q_752 : .instanceMethod yX10_lightest ∈ gW := gW_in (i := 752) (by decide +kernel) (by decide +kernel)
theorem q_753 : .selects RX10 yX10_lightest yX10_lightest ∈ gW := gW_in (i := 753) (by decide +kernel) (by decide +kernel)
theorem q_754 : .code yX10_lightest cX10_lightest 5 (some .int) ∈ gW := gW_in (i := 754) (by decide +kernel) (by decide +kernel)
theorem q_765 : .methodLink RL 77 yX10_ways ∈ gW := gW_in (i := 765) (by decide +kernel) (by decide +kernel)
theorem q_766 : .instanceMethod yX10_ways ∈ gW := gW_in (i := 766) (by decide +kernel) (by decide +kernel)
theorem q_767 : .selects RX10 yX10_ways yX10_ways ∈ gW := gW_in (i := 767) (by decide +kernel) (by decide +kernel)
theorem q_768 : .code yX10_ways cX10_ways 3 (some .int) ∈ gW := gW_in (i := 768) (by decide +kernel) (by decide +kernel)
theorem q_773 : .methodLink RL 81 yX10_can ∈ gW := gW_in (i := 773) (by decide +kernel) (by decide +kernel)
theorem q_774 : .instanceMethod yX10_can ∈ gW := gW_in (i := 774) (by decide +kernel) (by decide +kernel)
theorem q_775 : .selects RX10 yX10_can yX10_can ∈ gW := gW_in (i := 775) (by decide +kernel) (by decide +kernel)
theorem q_776 : .code yX10_can cX10_can 3 (some .int) ∈ gW := gW_in (i := 776) (by decide +kernel) (by decide +kernel)
theorem q_801 : .methodLink RL 85 yX10_most ∈ gW := gW_in (i := 801) (by decide +kernel) (by decide +kernel)
theorem q_802 : .instanceMethod yX10_most ∈ gW := gW_in (i := 802) (by decide +kernel) (by decide +kernel)
theorem q_803 : .selects RX10 yX10_most yX10_most ∈ gW := gW_in (i := 803) (by decide +kernel) (by decide +kernel)
theorem q_804 : .code yX10_most cX10_most 4 (some .int) ∈ gW := gW_in (i := 804) (by decide +kernel) (by decide +kernel)
theorem q_810 : .methodLink RL 89 yX10_clashes ∈ gW := gW_in (i := 810) (by decide +kernel) (by decide +kernel)
theorem q_811 : .instanceMethod yX10_clashes ∈ gW := gW_in (i := 811) (by decide +kernel) (by decide +kernel)
theorem q_812 : .selects RX10 yX10_clashes yX10_clashes ∈ gW := gW_in (i := 812) (by decide +kernel) (by decide +kernel)
theorem q_813 : .code yX10_clashes cX10_clashes 4 (some .int) ∈ gW := gW_in (i := 813) (by decide +kernel) (by decide +kernel)
theorem q_826 : .methodLink RL 93 yX10_hand ∈ gW := gW_in (i := 826) (by decide +kernel) (by decide +kernel)
theorem q_827 : .instanceMethod yX10_hand ∈ gW := gW_in (i := 827) (by decide +kernel) (by decide +kernel)
theorem q_828 : .selects RX10 yX10_hand yX10_hand ∈ gW := gW_in (i := 828) (by decide +kernel) (by decide +kernel)
theorem q_829 : .code yX10_hand cX10_hand 5 (some .int) ∈ gW := gW_in (i := 829) (by decide +kernel) (by decide +kernel)
theorem q_837 : .methodLink RL 97 yX10_handBest ∈ gW := gW_in (i := 837) (by decide +kernel) (by decide +kernel)
theorem q_838 : .instanceMethod yX10_handBest ∈ gW := gW_in (i := 838) (by decide +kernel) (by decide +kernel)
theorem q_839 : .selects RX10 yX10_handBest yX10_handBest ∈ gW := gW_in (i := 839) (by decide +kernel) (by decide +kernel)
theorem q_840 : .code yX10_handBest cX10_handBest 4 (some .int) ∈ gW := gW_in (i := 840) (by decide +kernel) (by decide +kernel)
theorem q_849 : .methodLink RL 101 yX10_judge ∈ gW := gW_in (i := 849) (by decide +kernel) (by decide +kernel)
theorem q_850 : .instanceMethod yX10_judge ∈ gW := gW_in (i := 850) (by decide +kernel) (by decide +kernel)
theorem q_851 : .selects RX10 yX10_judge yX10_judge ∈ gW := gW_in (i := 851) (by decide +kernel) (by decide +kernel)
theorem q_852 : .code yX10_judge cX10_judge 4 (some .int) ∈ gW := gW_in (i := 852) (by decide +kernel) (by decide +kernel)
theorem q_860 : .methodLink RL 105 yX10_keptOn ∈ gW := gW_in (i := 860) (by decide +kernel) (by decide +kernel)
theorem q_861 : .instanceMethod yX10_keptOn ∈ gW := gW_in (i := 861) (by decide +kernel) (by decide +kernel)
theorem q_862 : .selects RX10 yX10_keptOn yX10_keptOn ∈ gW := gW_in (i := 862) (by decide +kernel) (by decide +kernel)
theorem q_863 : .code yX10_keptOn cX10_keptOn 5 (some .int) ∈ gW := gW_in (i := 863) (by decide +kernel) (by decide +kernel)
theorem q_880 : .methodLink RL 110 yX10_whose ∈ gW := gW_in (i := 880) (by decide +kernel) (by decide +kernel)
theorem q_881 : .instanceMethod yX10_whose ∈ gW := gW_in (i := 881) (by decide +kernel) (by decide +kernel)
theorem q_882 : .selects RX10 yX10_whose yX10_whose ∈ gW := gW_in (i := 882) (by decide +kernel) (by decide +kernel)
theorem q_883 : .code yX10_whose cX10_whose 3 (some .int) ∈ gW := gW_in (i := 883) (by decide +kernel) (by decide +kernel)
theorem q_889 : .methodLink RL 114 yX10_byTurns ∈ gW := gW_in (i := 889) (by decide +kernel) (by decide +kernel)
theorem q_890 : .instanceMethod yX10_byTurns ∈ gW := gW_in (i := 890) (by decide +kernel) (by decide +kernel)
theorem q_891 : .selects RX10 yX10_byTurns yX10_byTurns ∈ gW := gW_in (i := 891) (by decide +kernel) (by decide +kernel)
theorem q_892 : .code yX10_byTurns cX10_byTurns 6 (some .int) ∈ gW := gW_in (i := 892) (by decide +kernel) (by decide +kernel)
theorem q_910 : .methodLink RL 118 yX10_loudest ∈ gW := gW_in (i := 910) (by decide +kernel) (by decide +kernel)
theorem q_911 : .instanceMethod yX10_loudest ∈ gW := gW_in (i := 911) (by decide +kernel) (by decide +kernel)
theorem q_912 : .selects RX10 yX10_loudest yX10_loudest ∈ gW := gW_in (i := 912) (by decide +kernel) (by decide +kernel)
theorem q_913 : .code yX10_loudest cX10_loudest 3 (some .int) ∈ gW := gW_in (i := 913) (by decide +kernel) (by decide +kernel)
theorem q_923 : .methodLink RL 122 yX10_drawn ∈ gW := gW_in (i := 923) (by decide +kernel) (by decide +kernel)
theorem q_924 : .instanceMethod yX10_drawn ∈ gW := gW_in (i := 924) (by decide +kernel) (by decide +kernel)
theorem q_925 : .selects RX10 yX10_drawn yX10_drawn ∈ gW := gW_in (i := 925) (by decide +kernel) (by decide +kernel)
theorem q_926 : .code yX10_drawn cX10_drawn 5 (some .int) ∈ gW := gW_in (i := 926) (by decide +kernel) (by decide +kernel)
theorem q_936 : .methodLink RL 126 yX10_passes ∈ gW := gW_in (i := 936) (by decide +kernel) (by decide +kernel)
theorem q_937 : .instanceMethod yX10_passes ∈ gW := gW_in (i := 937) (by decide +kernel) (by decide +kernel)
theorem q_938 : .selects RX10 yX10_passes yX10_passes ∈ gW := gW_in (i := 938) (by decide +kernel) (by decide +kernel)
theorem q_939 : .code yX10_passes cX10_passes 1 (some .int) ∈ gW := gW_in (i := 939) (by decide +kernel) (by decide +kernel)
theorem q_950 : .methodLink RL 130 yX10_vow ∈ gW := gW_in (i := 950) (by decide +kernel) (by decide +kernel)
theorem q_951 : .instanceMethod yX10_vow ∈ gW := gW_in (i := 951) (by decide +kernel) (by decide +kernel)
theorem q_952 : .selects RX10 yX10_vow yX10_vow ∈ gW := gW_in (i := 952) (by decide +kernel) (by decide +kernel)
theorem q_953 : .code yX10_vow cX10_vow 4 (some .int) ∈ gW := gW_in (i := 953) (by decide +kernel) (by decide +kernel)
theorem q_959 : .methodLink RL 134 yX10_kept ∈ gW := gW_in (i := 959) (by decide +kernel) (by decide +kernel)
theorem q_960 : .instanceMethod yX10_kept ∈ gW := gW_in (i := 960) (by decide +kernel) (by decide +kernel)
theorem q_961 : .selects RX10 yX10_kept yX10_kept ∈ gW := gW_in (i := 961) (by decide +kernel) (by decide +kernel)
theorem q_962 : .code yX10_kept cX10_kept 2 (some .int) ∈ gW := gW_in (i := 962) (by decide +kernel) (by decide +kernel)
theorem q_969 : .methodLink RL 138 yX10_led ∈ gW := gW_in (i := 969) (by decide +kernel) (by decide +kernel)
theorem q_970 : .instanceMethod yX10_led ∈ gW := gW_in (i := 970) (by decide +kernel) (by decide +kernel)
theorem q_971 : .selects RX10 yX10_led yX10_led ∈ gW := gW_in (i := 971) (by decide +kernel) (by decide +kernel)
theorem q_972 : .code yX10_led cX10_led 2 (some .int) ∈ gW := gW_in (i := 972) (by decide +kernel) (by decide +kernel)
theorem q_973 : .methodLink RL 142 yX10_image ∈ gW := gW_in (i := 973) (by decide +kernel) (by decide +kernel)
theorem q_974 : .instanceMethod yX10_image ∈ gW := gW_in (i := 974) (by decide +kernel) (by decide +kernel)
theorem q_975 : .selects RX10 yX10_image yX10_image ∈ gW := gW_in (i := 975) (by decide +kernel) (by decide +kernel)
theorem q_976 : .code yX10_image cX10_image 1 (some .int) ∈ gW := gW_in (i := 976) (by decide +kernel) (by decide +kernel)
theorem q_982 : .methodLink RL 146 yX10_back ∈ gW := gW_in (i := 982) (by decide +kernel) (by decide +kernel)
theorem q_983 : .instanceMethod yX10_back ∈ gW := gW_in (i := 983) (by decide +kernel) (by decide +kernel)
theorem q_984 : .selects RX10 yX10_back yX10_back ∈ gW := gW_in (i := 984) (by decide +kernel) (by decide +kernel)
theorem q_985 : .code yX10_back cX10_back 1 (some .int) ∈ gW := gW_in (i := 985) (by decide +kernel) (by decide +kernel)
theorem q_990 : .methodLink RL 150 yX10_undo ∈ gW := gW_in (i := 990) (by decide +kernel) (by decide +kernel)
theorem q_991 : .instanceMethod yX10_undo ∈ gW := gW_in (i := 991) (by decide +kernel) (by decide +kernel)
theorem q_992 : .selects RX10 yX10_undo yX10_undo ∈ gW := gW_in (i := 992) (by decide +kernel) (by decide +kernel)
theorem q_993 : .code yX10_undo cX10_undo 1 (some .int) ∈ gW := gW_in (i := 993) (by decide +kernel) (by decide +kernel)
theorem q_999 : .methodLink RL 154 yX10_redo ∈ gW := gW_in (i := 999) (by decide +kernel) (by decide +kernel)
theorem q_1000 : .instanceMethod yX10_redo ∈ gW := gW_in (i := 1000) (by decide +kernel) (by decide +kernel)
theorem q_1001 : .selects RX10 yX10_redo yX10_redo ∈ gW := gW_in (i := 1001) (by decide +kernel) (by decide +kernel)
theorem q_1002 : .code yX10_redo cX10_redo 1 (some .int) ∈ gW := gW_in (i := 1002) (by decide +kernel) (by decide +kernel)
theorem q_1007 : .methodLink RL 158 yX10_body ∈ gW := gW_in (i := 1007) (by decide +kernel) (by decide +kernel)
theorem q_1008 : .instanceMethod yX10_body ∈ gW := gW_in (i := 1008) (by decide +kernel) (by decide +kernel)
theorem q_1009 : .selects RX10 yX10_body yX10_body ∈ gW := gW_in (i := 1009) (by decide +kernel) (by decide +kernel)
theorem q_1010 : .code yX10_body cX10_body 2 (some .int) ∈ gW := gW_in (i := 1010) (by decide +kernel) (by decide +kernel)
theorem q_1015 : .methodLink RL 162 yX10_act ∈ gW := gW_in (i := 1015) (by decide +kernel) (by decide +kernel)
theorem q_1016 : .instanceMethod yX10_act ∈ gW := gW_in (i := 1016) (by decide +kernel) (by decide +kernel)
theorem q_1017 : .selects RX10 yX10_act yX10_act ∈ gW := gW_in (i := 1017) (by decide +kernel) (by decide +kernel)
theorem q_1018 : .code yX10_act cX10_act 4 (some .int) ∈ gW := gW_in (i := 1018) (by decide +kernel) (by decide +kernel)
theorem q_1047 : .methodLink RL 166 yX10_trace ∈ gW := gW_in (i := 1047) (by decide +kernel) (by decide +kernel)
theorem q_1048 : .instanceMethod yX10_trace ∈ gW := gW_in (i := 1048) (by decide +kernel) (by decide +kernel)
theorem q_1049 : .selects RX10 yX10_trace yX10_trace ∈ gW := gW_in (i := 1049) (by decide +kernel) (by decide +kernel)
theorem q_1050 : .code yX10_trace cX10_trace 2 (some .int) ∈ gW := gW_in (i := 1050) (by decide +kernel) (by decide +kernel)
theorem q_1052 : .methodLink RL 170 yX10_keep ∈ gW := gW_in (i := 1052) (by decide +kernel) (by decide +kernel)
theorem q_1053 : .instanceMethod yX10_keep ∈ gW := gW_in (i := 1053) (by decide +kernel) (by decide +kernel)
theorem q_1054 : .selects RX10 yX10_keep yX10_keep ∈ gW := gW_in (i := 1054) (by decide +kernel) (by decide +kernel)
theorem q_1055 : .code yX10_keep cX10_keep 3 (some .int) ∈ gW := gW_in (i := 1055) (by decide +kernel) (by decide +kernel)
theorem q_1065 : .methodLink RL 174 yX10_row ∈ gW := gW_in (i := 1065) (by decide +kernel) (by decide +kernel)
theorem q_1066 : .instanceMethod yX10_row ∈ gW := gW_in (i := 1066) (by decide +kernel) (by decide +kernel)
theorem q_1067 : .selects RX10 yX10_row yX10_row ∈ gW := gW_in (i := 1067) (by decide +kernel) (by decide +kernel)
theorem q_1068 : .code yX10_row cX10_row 4 (some .int) ∈ gW := gW_in (i := 1068) (by decide +kernel) (by decide +kernel)
theorem q_1079 : .methodLink RL 180 yX10_put ∈ gW := gW_in (i := 1079) (by decide +kernel) (by decide +kernel)
theorem q_1080 : .instanceMethod yX10_put ∈ gW := gW_in (i := 1080) (by decide +kernel) (by decide +kernel)
theorem q_1081 : .selects RX10 yX10_put yX10_put ∈ gW := gW_in (i := 1081) (by decide +kernel) (by decide +kernel)
theorem q_1082 : .code yX10_put cX10_put 6 (some .int) ∈ gW := gW_in (i := 1082) (by decide +kernel) (by decide +kernel)
theorem q_1099 : .methodLink RL 185 yX10_element ∈ gW := gW_in (i := 1099) (by decide +kernel) (by decide +kernel)
theorem q_1100 : .instanceMethod yX10_element ∈ gW := gW_in (i := 1100) (by decide +kernel) (by decide +kernel)
theorem q_1101 : .selects RX10 yX10_element yX10_element ∈ gW := gW_in (i := 1101) (by decide +kernel) (by decide +kernel)
theorem q_1102 : .code yX10_element cX10_element 3 (some .long) ∈ gW := gW_in (i := 1102) (by decide +kernel) (by decide +kernel)
theorem q_1104 : .methodLink RL 190 yX10_shift ∈ gW := gW_in (i := 1104) (by decide +kernel) (by decide +kernel)
theorem q_1105 : .instanceMethod yX10_shift ∈ gW := gW_in (i := 1105) (by decide +kernel) (by decide +kernel)
theorem q_1106 : .selects RX10 yX10_shift yX10_shift ∈ gW := gW_in (i := 1106) (by decide +kernel) (by decide +kernel)
theorem q_1107 : .code yX10_shift cX10_shift 7 (some .int) ∈ gW := gW_in (i := 1107) (by decide +kernel) (by decide +kernel)
theorem q_1117 : .methodLink RL 195 yX10_taken ∈ gW := gW_in (i := 1117) (by decide +kernel) (by decide +kernel)
theorem q_1118 : .instanceMethod yX10_taken ∈ gW := gW_in (i := 1118) (by decide +kernel) (by decide +kernel)
theorem q_1119 : .selects RX10 yX10_taken yX10_taken ∈ gW := gW_in (i := 1119) (by decide +kernel) (by decide +kernel)
theorem q_1120 : .code yX10_taken cX10_taken 5 (some .int) ∈ gW := gW_in (i := 1120) (by decide +kernel) (by decide +kernel)
theorem q_1133 : .methodLink RL 199 yX10_count ∈ gW := gW_in (i := 1133) (by decide +kernel) (by decide +kernel)
theorem q_1134 : .instanceMethod yX10_count ∈ gW := gW_in (i := 1134) (by decide +kernel) (by decide +kernel)
theorem q_1135 : .selects RX10 yX10_count yX10_count ∈ gW := gW_in (i := 1135) (by decide +kernel) (by decide +kernel)
theorem q_1136 : .code yX10_count cX10_count 2 (some .int) ∈ gW := gW_in (i := 1136) (by decide +kernel) (by decide +kernel)
theorem q_1137 : .classLink RL 10 RX11 ∈ gW := gW_in (i := 1137) (by decide +kernel) (by decide +kernel)
theorem q_1138 : .instantiable RX11 39 ∈ gW := gW_in (i := 1138) (by decide +kernel) (by decide +kernel)
theorem q_1139 : .methodLink RL 12 yX11_init ∈ gW := gW_in (i := 1139) (by decide +kernel) (by decide +kernel)
theorem q_1140 : .instanceMethod yX11_init ∈ gW := gW_in (i := 1140) (by decide +kernel) (by decide +kernel)
theorem q_1141 : .code yX11_init cX11_init 2 none ∈ gW := gW_in (i := 1141) (by decide +kernel) (by decide +kernel)
theorem q_1261 : .methodLink RL 153 yX11_undo ∈ gW := gW_in (i := 1261) (by decide +kernel) (by decide +kernel)
theorem q_1262 : .instanceMethod yX11_undo ∈ gW := gW_in (i := 1262) (by decide +kernel) (by decide +kernel)
theorem q_1263 : .selects RX11 yX11_undo yX11_undo ∈ gW := gW_in (i := 1263) (by decide +kernel) (by decide +kernel)
theorem q_1264 : .code yX11_undo cX11_undo 1 (some .int) ∈ gW := gW_in (i := 1264) (by decide +kernel) (by decide +kernel)
theorem q_1265 : .methodLink RL 157 yX11_redo ∈ gW := gW_in (i := 1265) (by decide +kernel) (by decide +kernel)
theorem q_1266 : .instanceMethod yX11_redo ∈ gW := gW_in (i := 1266) (by decide +kernel) (by decide +kernel)
theorem q_1267 : .selects RX11 yX11_redo yX11_redo ∈ gW := gW_in (i := 1267) (by decide +kernel) (by decide +kernel)
theorem q_1268 : .code yX11_redo cX11_redo 1 (some .int) ∈ gW := gW_in (i := 1268) (by decide +kernel) (by decide +kernel)
theorem q_1269 : .methodLink RL 17 yX11_person ∈ gW := gW_in (i := 1269) (by decide +kernel) (by decide +kernel)
theorem q_1270 : .instanceMethod yX11_person ∈ gW := gW_in (i := 1270) (by decide +kernel) (by decide +kernel)
theorem q_1271 : .selects RX11 yX11_person yX11_person ∈ gW := gW_in (i := 1271) (by decide +kernel) (by decide +kernel)
theorem q_1272 : .code yX11_person cX11_person 3 (some .int) ∈ gW := gW_in (i := 1272) (by decide +kernel) (by decide +kernel)
theorem q_1278 : .methodLink RL 21 yX11_promise ∈ gW := gW_in (i := 1278) (by decide +kernel) (by decide +kernel)
theorem q_1279 : .instanceMethod yX11_promise ∈ gW := gW_in (i := 1279) (by decide +kernel) (by decide +kernel)
theorem q_1280 : .selects RX11 yX11_promise yX11_promise ∈ gW := gW_in (i := 1280) (by decide +kernel) (by decide +kernel)
theorem q_1281 : .code yX11_promise cX11_promise 3 (some .int) ∈ gW := gW_in (i := 1281) (by decide +kernel) (by decide +kernel)
theorem q_1299 : .methodLink RL 26 yX11_promises ∈ gW := gW_in (i := 1299) (by decide +kernel) (by decide +kernel)
theorem q_1300 : .instanceMethod yX11_promises ∈ gW := gW_in (i := 1300) (by decide +kernel) (by decide +kernel)
theorem q_1301 : .selects RX11 yX11_promises yX11_promises ∈ gW := gW_in (i := 1301) (by decide +kernel) (by decide +kernel)
theorem q_1302 : .code yX11_promises cX11_promises 7 (some .int) ∈ gW := gW_in (i := 1302) (by decide +kernel) (by decide +kernel)
theorem q_1308 : .methodLink RL 30 yX11_mend ∈ gW := gW_in (i := 1308) (by decide +kernel) (by decide +kernel)
theorem q_1309 : .instanceMethod yX11_mend ∈ gW := gW_in (i := 1309) (by decide +kernel) (by decide +kernel)
theorem q_1310 : .selects RX11 yX11_mend yX11_mend ∈ gW := gW_in (i := 1310) (by decide +kernel) (by decide +kernel)
theorem q_1311 : .code yX11_mend cX11_mend 5 (some .int) ∈ gW := gW_in (i := 1311) (by decide +kernel) (by decide +kernel)
theorem q_1333 : .methodLink RL 34 yX11_of ∈ gW := gW_in (i := 1333) (by decide +kernel) (by decide +kernel)
theorem q_1334 : .instanceMethod yX11_of ∈ gW := gW_in (i := 1334) (by decide +kernel) (by decide +kernel)
theorem q_1335 : .selects RX11 yX11_of yX11_of ∈ gW := gW_in (i := 1335) (by decide +kernel) (by decide +kernel)
theorem q_1336 : .code yX11_of cX11_of 4 (some .int) ∈ gW := gW_in (i := 1336) (by decide +kernel) (by decide +kernel)
theorem q_1337 : .methodLink RL 39 yX11_feed ∈ gW := gW_in (i := 1337) (by decide +kernel) (by decide +kernel)
theorem q_1338 : .instanceMethod yX11_feed ∈ gW := gW_in (i := 1338) (by decide +kernel) (by decide +kernel)
theorem q_1339 : .selects RX11 yX11_feed yX11_feed ∈ gW := gW_in (i := 1339) (by decide +kernel) (by decide +kernel)
theorem q_1340 : .code yX11_feed cX11_feed 2 (some .int) ∈ gW := gW_in (i := 1340) (by decide +kernel) (by decide +kernel)
theorem q_1342 : .methodLink RL 44 yX11_law ∈ gW := gW_in (i := 1342) (by decide +kernel) (by decide +kernel)
theorem q_1343 : .instanceMethod yX11_law ∈ gW := gW_in (i := 1343) (by decide +kernel) (by decide +kernel)
theorem q_1344 : .selects RX11 yX11_law yX11_law ∈ gW := gW_in (i := 1344) (by decide +kernel) (by decide +kernel)
theorem q_1345 : .code yX11_law cX11_law 4 (some .int) ∈ gW := gW_in (i := 1345) (by decide +kernel) (by decide +kernel)
theorem q_1389 : .methodLink RL 48 yX11_chain ∈ gW := gW_in (i := 1389) (by decide +kernel) (by decide +kernel)
theorem q_1390 : .instanceMethod yX11_chain ∈ gW := gW_in (i := 1390) (by decide +kernel) (by decide +kernel)
theorem q_1391 : .selects RX11 yX11_chain yX11_chain ∈ gW := gW_in (i := 1391) (by decide +kernel) (by decide +kernel)
theorem q_1392 : .code yX11_chain cX11_chain 4 (some .int) ∈ gW := gW_in (i := 1392) (by decide +kernel) (by decide +kernel)
theorem q_1425 : .methodLink RL 52 yX11_creak ∈ gW := gW_in (i := 1425) (by decide +kernel) (by decide +kernel)
theorem q_1426 : .instanceMethod yX11_creak ∈ gW := gW_in (i := 1426) (by decide +kernel) (by decide +kernel)
theorem q_1427 : .selects RX11 yX11_creak yX11_creak ∈ gW := gW_in (i := 1427) (by decide +kernel) (by decide +kernel)
theorem q_1428 : .code yX11_creak cX11_creak 3 (some .int) ∈ gW := gW_in (i := 1428) (by decide +kernel) (by decide +kernel)
theorem q_1429 : .methodLink RL 56 yX11_rides ∈ gW := gW_in (i := 1429) (by decide +kernel) (by decide +kernel)
theorem q_1430 : .instanceMethod yX11_rides ∈ gW := gW_in (i := 1430) (by decide +kernel) (by decide +kernel)
theorem q_1431 : .selects RX11 yX11_rides yX11_rides ∈ gW := gW_in (i := 1431) (by decide +kernel) (by decide +kernel)
theorem q_1432 : .code yX11_rides cX11_rides 6 (some .int) ∈ gW := gW_in (i := 1432) (by decide +kernel) (by decide +kernel)
theorem q_1433 : .methodLink RL 60 yX11_ride ∈ gW := gW_in (i := 1433) (by decide +kernel) (by decide +kernel)
theorem q_1434 : .instanceMethod yX11_ride ∈ gW := gW_in (i := 1434) (by decide +kernel) (by decide +kernel)
theorem q_1435 : .selects RX11 yX11_ride yX11_ride ∈ gW := gW_in (i := 1435) (by decide +kernel) (by decide +kernel)
theorem q_1436 : .code yX11_ride cX11_ride 7 (some .int) ∈ gW := gW_in (i := 1436) (by decide +kernel) (by decide +kernel)
theorem q_1437 : .methodLink RL 64 yX11_who ∈ gW := gW_in (i := 1437) (by decide +kernel) (by decide +kernel)
theorem q_1438 : .instanceMethod yX11_who ∈ gW := gW_in (i := 1438) (by decide +kernel) (by decide +kernel)
theorem q_1439 : .selects RX11 yX11_who yX11_who ∈ gW := gW_in (i := 1439) (by decide +kernel) (by decide +kernel)
theorem q_1440 : .code yX11_who cX11_who 2 (some .int) ∈ gW := gW_in (i := 1440) (by decide +kernel) (by decide +kernel)
theorem q_1445 : .methodLink RL 68 yX11_best ∈ gW := gW_in (i := 1445) (by decide +kernel) (by decide +kernel)
theorem q_1446 : .instanceMethod yX11_best ∈ gW := gW_in (i := 1446) (by decide +kernel) (by decide +kernel)
theorem q_1447 : .selects RX11 yX11_best yX11_best ∈ gW := gW_in (i := 1447) (by decide +kernel) (by decide +kernel)
theorem q_1448 : .code yX11_best cX11_best 6 (some .int) ∈ gW := gW_in (i := 1448) (by decide +kernel) (by decide +kernel)
theorem q_1452 : .methodLink RL 72 yX11_keepBy ∈ gW := gW_in (i := 1452) (by decide +kernel) (by decide +kernel)
theorem q_1453 : .instanceMethod yX11_keepBy ∈ gW := gW_in (i := 1453) (by decide +kernel) (by decide +kernel)
theorem q_1454 : .selects RX11 yX11_keepBy yX11_keepBy ∈ gW := gW_in (i := 1454) (by decide +kernel) (by decide +kernel)
theorem q_1455 : .code yX11_keepBy cX11_keepBy 6 (some .int) ∈ gW := gW_in (i := 1455) (by decide +kernel) (by decide +kernel)
theorem q_1471 : .methodLink RL 76 yX11_lightest ∈ gW := gW_in (i := 1471) (by decide +kernel) (by decide +kernel)
theorem q_1472 : .instanceMethod yX11_lightest ∈ gW := gW_in (i := 1472) (by decide +kernel) (by decide +kernel)
theorem q_1473 : .selects RX11 yX11_lightest yX11_lightest ∈ gW := gW_in (i := 1473) (by decide +kernel) (by decide +kernel)
theorem q_1474 : .code yX11_lightest cX11_lightest 7 (some .int) ∈ gW := gW_in (i := 1474) (by decide +kernel) (by decide +kernel)
theorem q_1475 : .methodLink RL 80 yX11_ways ∈ gW := gW_in (i := 1475) (by decide +kernel) (by decide +kernel)
theorem q_1476 : .instanceMethod yX11_ways ∈ gW := gW_in (i := 1476) (by decide +kernel) (by decide +kernel)
theorem q_1477 : .selects RX11 yX11_ways yX11_ways ∈ gW := gW_in (i := 1477) (by decide +kernel) (by decide +kernel)
theorem q_1478 : .code yX11_ways cX11_ways 5 (some .int) ∈ gW := gW_in (i := 1478) (by decide +kernel) (by decide +kernel)
theorem q_1479 : .methodLink RL 84 yX11_can ∈ gW := gW_in (i := 1479) (by decide +kernel) (by decide +kernel)
theorem q_1480 : .instanceMethod yX11_can ∈ gW := gW_in (i := 1480) (by decide +kernel) (by decide +kernel)
theorem q_1481 : .selects RX11 yX11_can yX11_can ∈ gW := gW_in (i := 1481) (by decide +kernel) (by decide +kernel)
theorem q_1482 : .code yX11_can cX11_can 3 (some .int) ∈ gW := gW_in (i := 1482) (by decide +kernel) (by decide +kernel)
theorem q_1491 : .methodLink RL 88 yX11_most ∈ gW := gW_in (i := 1491) (by decide +kernel) (by decide +kernel)
theorem q_1492 : .instanceMethod yX11_most ∈ gW := gW_in (i := 1492) (by decide +kernel) (by decide +kernel)
theorem q_1493 : .selects RX11 yX11_most yX11_most ∈ gW := gW_in (i := 1493) (by decide +kernel) (by decide +kernel)
theorem q_1494 : .code yX11_most cX11_most 5 (some .int) ∈ gW := gW_in (i := 1494) (by decide +kernel) (by decide +kernel)
theorem q_1495 : .methodLink RL 92 yX11_clashes ∈ gW := gW_in (i := 1495) (by decide +kernel) (by decide +kernel)
theorem q_1496 : .instanceMethod yX11_clashes ∈ gW := gW_in (i := 1496) (by decide +kernel) (by decide +kernel)
theorem q_1497 : .selects RX11 yX11_clashes yX11_clashes ∈ gW := gW_in (i := 1497) (by decide +kernel) (by decide +kernel)
theorem q_1498 : .code yX11_clashes cX11_clashes 6 (some .int) ∈ gW := gW_in (i := 1498) (by decide +kernel) (by decide +kernel)
theorem q_1503 : .methodLink RL 96 yX11_hand ∈ gW := gW_in (i := 1503) (by decide +kernel) (by decide +kernel)
theorem q_1504 : .instanceMethod yX11_hand ∈ gW := gW_in (i := 1504) (by decide +kernel) (by decide +kernel)
theorem q_1505 : .selects RX11 yX11_hand yX11_hand ∈ gW := gW_in (i := 1505) (by decide +kernel) (by decide +kernel)
theorem q_1506 : .code yX11_hand cX11_hand 3 (some .int) ∈ gW := gW_in (i := 1506) (by decide +kernel) (by decide +kernel)
theorem q_1511 : .methodLink RL 100 yX11_handBest ∈ gW := gW_in (i := 1511) (by decide +kernel) (by decide +kernel)
theorem q_1512 : .instanceMethod yX11_handBest ∈ gW := gW_in (i := 1512) (by decide +kernel) (by decide +kernel)
theorem q_1513 : .selects RX11 yX11_handBest yX11_handBest ∈ gW := gW_in (i := 1513) (by decide +kernel) (by decide +kernel)
theorem q_1514 : .code yX11_handBest cX11_handBest 8 (some .int) ∈ gW := gW_in (i := 1514) (by decide +kernel) (by decide +kernel)
theorem q_1515 : .methodLink RL 104 yX11_judge ∈ gW := gW_in (i := 1515) (by decide +kernel) (by decide +kernel)
theorem q_1516 : .instanceMethod yX11_judge ∈ gW := gW_in (i := 1516) (by decide +kernel) (by decide +kernel)
theorem q_1517 : .selects RX11 yX11_judge yX11_judge ∈ gW := gW_in (i := 1517) (by decide +kernel) (by decide +kernel)
theorem q_1518 : .code yX11_judge cX11_judge 3 (some .int) ∈ gW := gW_in (i := 1518) (by decide +kernel) (by decide +kernel)
theorem q_1527 : .methodLink RL 109 yX11_keptOn ∈ gW := gW_in (i := 1527) (by decide +kernel) (by decide +kernel)
theorem q_1528 : .instanceMethod yX11_keptOn ∈ gW := gW_in (i := 1528) (by decide +kernel) (by decide +kernel)
theorem q_1529 : .selects RX11 yX11_keptOn yX11_keptOn ∈ gW := gW_in (i := 1529) (by decide +kernel) (by decide +kernel)
theorem q_1530 : .code yX11_keptOn cX11_keptOn 9 (some .int) ∈ gW := gW_in (i := 1530) (by decide +kernel) (by decide +kernel)
theorem q_1531 : .methodLink RL 113 yX11_whose ∈ gW := gW_in (i := 1531) (by decide +kernel) (by decide +kernel)
theorem q_1532 : .instanceMethod yX11_whose ∈ gW := gW_in (i := 1532) (by decide +kernel) (by decide +kernel)
theorem q_1533 : .selects RX11 yX11_whose yX11_whose ∈ gW := gW_in (i := 1533) (by decide +kernel) (by decide +kernel)
theorem q_1534 : .code yX11_whose cX11_whose 4 (some .int) ∈ gW := gW_in (i := 1534) (by decide +kernel) (by decide +kernel)
theorem q_1535 : .methodLink RL 117 yX11_byTurns ∈ gW := gW_in (i := 1535) (by decide +kernel) (by decide +kernel)
theorem q_1536 : .instanceMethod yX11_byTurns ∈ gW := gW_in (i := 1536) (by decide +kernel) (by decide +kernel)
theorem q_1537 : .selects RX11 yX11_byTurns yX11_byTurns ∈ gW := gW_in (i := 1537) (by decide +kernel) (by decide +kernel)
theorem q_1538 : .code yX11_byTurns cX11_byTurns 9 (some .int) ∈ gW := gW_in (i := 1538) (by decide +kernel) (by decide +kernel)
theorem q_1543 : .methodLink RL 121 yX11_loudest ∈ gW := gW_in (i := 1543) (by decide +kernel) (by decide +kernel)
theorem q_1544 : .instanceMethod yX11_loudest ∈ gW := gW_in (i := 1544) (by decide +kernel) (by decide +kernel)
theorem q_1545 : .selects RX11 yX11_loudest yX11_loudest ∈ gW := gW_in (i := 1545) (by decide +kernel) (by decide +kernel)
theorem q_1546 : .code yX11_loudest cX11_loudest 7 (some .int) ∈ gW := gW_in (i := 1546) (by decide +kernel) (by decide +kernel)
theorem q_1547 : .methodLink RL 125 yX11_drawn ∈ gW := gW_in (i := 1547) (by decide +kernel) (by decide +kernel)
theorem q_1548 : .instanceMethod yX11_drawn ∈ gW := gW_in (i := 1548) (by decide +kernel) (by decide +kernel)
theorem q_1549 : .selects RX11 yX11_drawn yX11_drawn ∈ gW := gW_in (i := 1549) (by decide +kernel) (by decide +kernel)
theorem q_1550 : .code yX11_drawn cX11_drawn 10 (some .int) ∈ gW := gW_in (i := 1550) (by decide +kernel) (by decide +kernel)
theorem q_1552 : .methodLink RL 129 yX11_passes ∈ gW := gW_in (i := 1552) (by decide +kernel) (by decide +kernel)
theorem q_1553 : .instanceMethod yX11_passes ∈ gW := gW_in (i := 1553) (by decide +kernel) (by decide +kernel)
theorem q_1554 : .selects RX11 yX11_passes yX11_passes ∈ gW := gW_in (i := 1554) (by decide +kernel) (by decide +kernel)
theorem q_1555 : .code yX11_passes cX11_passes 1 (some .int) ∈ gW := gW_in (i := 1555) (by decide +kernel) (by decide +kernel)
theorem q_1556 : .methodLink RL 133 yX11_vow ∈ gW := gW_in (i := 1556) (by decide +kernel) (by decide +kernel)
theorem q_1557 : .instanceMethod yX11_vow ∈ gW := gW_in (i := 1557) (by decide +kernel) (by decide +kernel)
theorem q_1558 : .selects RX11 yX11_vow yX11_vow ∈ gW := gW_in (i := 1558) (by decide +kernel) (by decide +kernel)
theorem q_1559 : .code yX11_vow cX11_vow 3 (some .int) ∈ gW := gW_in (i := 1559) (by decide +kernel) (by decide +kernel)
theorem q_1560 : .methodLink RL 137 yX11_kept ∈ gW := gW_in (i := 1560) (by decide +kernel) (by decide +kernel)
theorem q_1561 : .instanceMethod yX11_kept ∈ gW := gW_in (i := 1561) (by decide +kernel) (by decide +kernel)
theorem q_1562 : .selects RX11 yX11_kept yX11_kept ∈ gW := gW_in (i := 1562) (by decide +kernel) (by decide +kernel)
theorem q_1563 : .code yX11_kept cX11_kept 4 (some .int) ∈ gW := gW_in (i := 1563) (by decide +kernel) (by decide +kernel)
theorem q_1564 : .methodLink RL 141 yX11_led ∈ gW := gW_in (i := 1564) (by decide +kernel) (by decide +kernel)
theorem q_1565 : .instanceMethod yX11_led ∈ gW := gW_in (i := 1565) (by decide +kernel) (by decide +kernel)
theorem q_1566 : .selects RX11 yX11_led yX11_led ∈ gW := gW_in (i := 1566) (by decide +kernel) (by decide +kernel)
theorem q_1567 : .code yX11_led cX11_led 2 (some .int) ∈ gW := gW_in (i := 1567) (by decide +kernel) (by decide +kernel)
theorem q_1568 : .methodLink RL 145 yX11_image ∈ gW := gW_in (i := 1568) (by decide +kernel) (by decide +kernel)
theorem q_1569 : .instanceMethod yX11_image ∈ gW := gW_in (i := 1569) (by decide +kernel) (by decide +kernel)
theorem q_1570 : .selects RX11 yX11_image yX11_image ∈ gW := gW_in (i := 1570) (by decide +kernel) (by decide +kernel)
theorem q_1571 : .code yX11_image cX11_image 2 (some .int) ∈ gW := gW_in (i := 1571) (by decide +kernel) (by decide +kernel)
theorem q_1572 : .methodLink RL 149 yX11_back ∈ gW := gW_in (i := 1572) (by decide +kernel) (by decide +kernel)
theorem q_1573 : .instanceMethod yX11_back ∈ gW := gW_in (i := 1573) (by decide +kernel) (by decide +kernel)
theorem q_1574 : .selects RX11 yX11_back yX11_back ∈ gW := gW_in (i := 1574) (by decide +kernel) (by decide +kernel)
theorem q_1575 : .code yX11_back cX11_back 2 (some .int) ∈ gW := gW_in (i := 1575) (by decide +kernel) (by decide +kernel)
theorem q_1576 : .methodLink RL 161 yX11_body ∈ gW := gW_in (i := 1576) (by decide +kernel) (by decide +kernel)
theorem q_1577 : .instanceMethod yX11_body ∈ gW := gW_in (i := 1577) (by decide +kernel) (by decide +kernel)
theorem q_1578 : .selects RX11 yX11_body yX11_body ∈ gW := gW_in (i := 1578) (by decide +kernel) (by decide +kernel)
theorem q_1579 : .code yX11_body cX11_body 2 (some .int) ∈ gW := gW_in (i := 1579) (by decide +kernel) (by decide +kernel)
theorem q_1581 : .methodLink RL 165 yX11_act ∈ gW := gW_in (i := 1581) (by decide +kernel) (by decide +kernel)
theorem q_1582 : .instanceMethod yX11_act ∈ gW := gW_in (i := 1582) (by decide +kernel) (by decide +kernel)
theorem q_1583 : .selects RX11 yX11_act yX11_act ∈ gW := gW_in (i := 1583) (by decide +kernel) (by decide +kernel)
theorem q_1584 : .code yX11_act cX11_act 4 (some .int) ∈ gW := gW_in (i := 1584) (by decide +kernel) (by decide +kernel)
theorem q_1609 : .methodLink RL 169 yX11_trace ∈ gW := gW_in (i := 1609) (by decide +kernel) (by decide +kernel)
theorem q_1610 : .instanceMethod yX11_trace ∈ gW := gW_in (i := 1610) (by decide +kernel) (by decide +kernel)
theorem q_1611 : .selects RX11 yX11_trace yX11_trace ∈ gW := gW_in (i := 1611) (by decide +kernel) (by decide +kernel)
theorem q_1612 : .code yX11_trace cX11_trace 2 (some .int) ∈ gW := gW_in (i := 1612) (by decide +kernel) (by decide +kernel)
theorem q_1613 : .methodLink RL 173 yX11_keep ∈ gW := gW_in (i := 1613) (by decide +kernel) (by decide +kernel)
theorem q_1614 : .instanceMethod yX11_keep ∈ gW := gW_in (i := 1614) (by decide +kernel) (by decide +kernel)
theorem q_1615 : .selects RX11 yX11_keep yX11_keep ∈ gW := gW_in (i := 1615) (by decide +kernel) (by decide +kernel)
theorem q_1616 : .code yX11_keep cX11_keep 3 (some .int) ∈ gW := gW_in (i := 1616) (by decide +kernel) (by decide +kernel)
theorem q_1617 : .methodLink RL 177 yX11_row ∈ gW := gW_in (i := 1617) (by decide +kernel) (by decide +kernel)
theorem q_1618 : .instanceMethod yX11_row ∈ gW := gW_in (i := 1618) (by decide +kernel) (by decide +kernel)
theorem q_1619 : .selects RX11 yX11_row yX11_row ∈ gW := gW_in (i := 1619) (by decide +kernel) (by decide +kernel)
theorem q_1620 : .code yX11_row cX11_row 5 (some .int) ∈ gW := gW_in (i := 1620) (by decide +kernel) (by decide +kernel)
theorem q_1622 : .methodLink RL 184 yX11_put ∈ gW := gW_in (i := 1622) (by decide +kernel) (by decide +kernel)
theorem q_1623 : .instanceMethod yX11_put ∈ gW := gW_in (i := 1623) (by decide +kernel) (by decide +kernel)
theorem q_1624 : .selects RX11 yX11_put yX11_put ∈ gW := gW_in (i := 1624) (by decide +kernel) (by decide +kernel)
theorem q_1625 : .code yX11_put cX11_put 6 (some .int) ∈ gW := gW_in (i := 1625) (by decide +kernel) (by decide +kernel)
theorem q_1633 : .methodLink RL 189 yX11_element ∈ gW := gW_in (i := 1633) (by decide +kernel) (by decide +kernel)
theorem q_1634 : .instanceMethod yX11_element ∈ gW := gW_in (i := 1634) (by decide +kernel) (by decide +kernel)
theorem q_1635 : .selects RX11 yX11_element yX11_element ∈ gW := gW_in (i := 1635) (by decide +kernel) (by decide +kernel)
theorem q_1636 : .code yX11_element cX11_element 3 (some .long) ∈ gW := gW_in (i := 1636) (by decide +kernel) (by decide +kernel)
theorem q_1638 : .methodLink RL 194 yX11_shift ∈ gW := gW_in (i := 1638) (by decide +kernel) (by decide +kernel)
theorem q_1639 : .instanceMethod yX11_shift ∈ gW := gW_in (i := 1639) (by decide +kernel) (by decide +kernel)
theorem q_1640 : .selects RX11 yX11_shift yX11_shift ∈ gW := gW_in (i := 1640) (by decide +kernel) (by decide +kernel)
theorem q_1641 : .code yX11_shift cX11_shift 7 (some .int) ∈ gW := gW_in (i := 1641) (by decide +kernel) (by decide +kernel)
theorem q_1642 : .methodLink RL 198 yX11_taken ∈ gW := gW_in (i := 1642) (by decide +kernel) (by decide +kernel)
theorem q_1643 : .instanceMethod yX11_taken ∈ gW := gW_in (i := 1643) (by decide +kernel) (by decide +kernel)
theorem q_1644 : .selects RX11 yX11_taken yX11_taken ∈ gW := gW_in (i := 1644) (by decide +kernel) (by decide +kernel)
theorem q_1645 : .code yX11_taken cX11_taken 4 (some .int) ∈ gW := gW_in (i := 1645) (by decide +kernel) (by decide +kernel)
theorem q_1653 : .methodLink RL 202 yX11_count ∈ gW := gW_in (i := 1653) (by decide +kernel) (by decide +kernel)
theorem q_1654 : .instanceMethod yX11_count ∈ gW := gW_in (i := 1654) (by decide +kernel) (by decide +kernel)
theorem q_1655 : .selects RX11 yX11_count yX11_count ∈ gW := gW_in (i := 1655) (by decide +kernel) (by decide +kernel)
theorem q_1656 : .code yX11_count cX11_count 2 (some .int) ∈ gW := gW_in (i := 1656) (by decide +kernel) (by decide +kernel)
theorem q_1657 : .constantLong RL 178 (4294967295) ∈ gW := gW_in (i := 1657) (by decide +kernel) (by decide +kernel)
theorem lk_L_13 : LkV RL 13 yX10_person cX10_person 3 (some .int) 2 := ⟨⟨q_408, q_77, q_405, q_406, q_407⟩, ⟨by decide, by decide, by decide +kernel⟩⟩
theorem lk_L_17 : LkV RL 17 yX11_person cX11_person 3 (some .int) 2 := ⟨⟨q_1272, q_89, q_1269, q_1270, q_1271⟩, ⟨by decide, by decide, by decide +kernel⟩⟩
theorem lk_L_18 : LkV RL 18 yX10_promise cX10_promise 3 (some .int) 2 := ⟨⟨q_419, q_77, q_416, q_417, q_418⟩, ⟨by decide, by decide, by decide +kernel⟩⟩
theorem lk_L_21 : LkV RL 21 yX11_promise cX11_promise 3 (some .int) 2 := ⟨⟨q_1281, q_89, q_1278, q_1279, q_1280⟩, ⟨by decide, by decide, by decide +kernel⟩⟩
theorem lk_L_22 : LkV RL 22 yX10_promises cX10_promises 5 (some .int) 3 := ⟨⟨q_443, q_77, q_440, q_441, q_442⟩, ⟨by decide, by decide, by decide +kernel⟩⟩
theorem lk_L_26 : LkV RL 26 yX11_promises cX11_promises 7 (some .int) 3 := ⟨⟨q_1302, q_89, q_1299, q_1300, q_1301⟩, ⟨by decide, by decide, by decide +kernel⟩⟩
theorem lk_L_27 : LkV RL 27 yX10_mend cX10_mend 5 (some .int) 3 := ⟨⟨q_467, q_77, q_464, q_465, q_466⟩, ⟨by decide, by decide, by decide +kernel⟩⟩
theorem lk_L_30 : LkV RL 30 yX11_mend cX11_mend 5 (some .int) 3 := ⟨⟨q_1311, q_89, q_1308, q_1309, q_1310⟩, ⟨by decide, by decide, by decide +kernel⟩⟩
theorem lk_L_31 : LkV RL 31 yX10_of cX10_of 3 (some .int) 2 := ⟨⟨q_507, q_77, q_504, q_505, q_506⟩, ⟨by decide, by decide, by decide +kernel⟩⟩
theorem lk_L_34 : LkV RL 34 yX11_of cX11_of 4 (some .int) 2 := ⟨⟨q_1336, q_89, q_1333, q_1334, q_1335⟩, ⟨by decide, by decide, by decide +kernel⟩⟩
theorem lk_L_35 : LkV RL 35 yX10_feed cX10_feed 2 (some .int) 1 := ⟨⟨q_511, q_77, q_508, q_509, q_510⟩, ⟨by decide, by decide, by decide +kernel⟩⟩
theorem lk_L_39 : LkV RL 39 yX11_feed cX11_feed 2 (some .int) 1 := ⟨⟨q_1340, q_89, q_1337, q_1338, q_1339⟩, ⟨by decide, by decide, by decide +kernel⟩⟩
theorem lk_L_40 : LkV RL 40 yX10_law cX10_law 2 (some .int) 0 := ⟨⟨q_519, q_77, q_516, q_517, q_518⟩, ⟨by decide, by decide, by decide +kernel⟩⟩
theorem lk_L_44 : LkV RL 44 yX11_law cX11_law 4 (some .int) 0 := ⟨⟨q_1345, q_89, q_1342, q_1343, q_1344⟩, ⟨by decide, by decide, by decide +kernel⟩⟩
theorem lk_L_45 : LkV RL 45 yX10_chain cX10_chain 4 (some .int) 3 := ⟨⟨q_569, q_77, q_566, q_567, q_568⟩, ⟨by decide, by decide, by decide +kernel⟩⟩
theorem lk_L_48 : LkV RL 48 yX11_chain cX11_chain 4 (some .int) 3 := ⟨⟨q_1392, q_89, q_1389, q_1390, q_1391⟩, ⟨by decide, by decide, by decide +kernel⟩⟩
theorem lk_L_49 : LkV RL 49 yX10_creak cX10_creak 3 (some .int) 2 := ⟨⟨q_649, q_77, q_646, q_647, q_648⟩, ⟨by decide, by decide, by decide +kernel⟩⟩
theorem lk_L_52 : LkV RL 52 yX11_creak cX11_creak 3 (some .int) 2 := ⟨⟨q_1428, q_89, q_1425, q_1426, q_1427⟩, ⟨by decide, by decide, by decide +kernel⟩⟩
theorem lk_L_53 : LkV RL 53 yX10_rides cX10_rides 4 (some .int) 3 := ⟨⟨q_655, q_77, q_652, q_653, q_654⟩, ⟨by decide, by decide, by decide +kernel⟩⟩
theorem lk_L_56 : LkV RL 56 yX11_rides cX11_rides 6 (some .int) 3 := ⟨⟨q_1432, q_89, q_1429, q_1430, q_1431⟩, ⟨by decide, by decide, by decide +kernel⟩⟩
theorem lk_L_57 : LkV RL 57 yX10_ride cX10_ride 4 (some .int) 2 := ⟨⟨q_682, q_77, q_679, q_680, q_681⟩, ⟨by decide, by decide, by decide +kernel⟩⟩
theorem lk_L_60 : LkV RL 60 yX11_ride cX11_ride 7 (some .int) 2 := ⟨⟨q_1436, q_89, q_1433, q_1434, q_1435⟩, ⟨by decide, by decide, by decide +kernel⟩⟩
theorem lk_L_61 : LkV RL 61 yX10_who cX10_who 2 (some .int) 1 := ⟨⟨q_697, q_77, q_694, q_695, q_696⟩, ⟨by decide, by decide, by decide +kernel⟩⟩
theorem lk_L_64 : LkV RL 64 yX11_who cX11_who 2 (some .int) 1 := ⟨⟨q_1440, q_89, q_1437, q_1438, q_1439⟩, ⟨by decide, by decide, by decide +kernel⟩⟩
theorem lk_L_65 : LkV RL 65 yX10_best cX10_best 3 (some .int) 1 := ⟨⟨q_706, q_77, q_703, q_704, q_705⟩, ⟨by decide, by decide, by decide +kernel⟩⟩
theorem lk_L_68 : LkV RL 68 yX11_best cX11_best 6 (some .int) 1 := ⟨⟨q_1448, q_89, q_1445, q_1446, q_1447⟩, ⟨by decide, by decide, by decide +kernel⟩⟩
theorem lk_L_69 : LkV RL 69 yX10_keepBy cX10_keepBy 5 (some .int) 3 := ⟨⟨q_720, q_77, q_717, q_718, q_719⟩, ⟨by decide, by decide, by decide +kernel⟩⟩
theorem lk_L_72 : LkV RL 72 yX11_keepBy cX11_keepBy 6 (some .int) 3 := ⟨⟨q_1455, q_89, q_1452, q_1453, q_1454⟩, ⟨by decide, by decide, by decide +kernel⟩⟩
theorem lk_L_73 : LkV RL 73 yX10_lightest cX10_lightest 5 (some .int) 3 := ⟨⟨q_754, q_77, q_751, q_752, q_753⟩, ⟨by decide, by decide, by decide +kernel⟩⟩
theorem lk_L_76 : LkV RL 76 yX11_lightest cX11_lightest 7 (some .int) 3 := ⟨⟨q_1474, q_89, q_1471, q_1472, q_1473⟩, ⟨by decide, by decide, by decide +kernel⟩⟩
theorem lk_L_77 : LkV RL 77 yX10_ways cX10_ways 3 (some .int) 2 := ⟨⟨q_768, q_77, q_765, q_766, q_767⟩, ⟨by decide, by decide, by decide +kernel⟩⟩
theorem lk_L_80 : LkV RL 80 yX11_ways cX11_ways 5 (some .int) 2 := ⟨⟨q_1478, q_89, q_1475, q_1476, q_1477⟩, ⟨by decide, by decide, by decide +kernel⟩⟩
theorem lk_L_81 : LkV RL 81 yX10_can cX10_can 3 (some .int) 2 := ⟨⟨q_776, q_77, q_773, q_774, q_775⟩, ⟨by decide, by decide, by decide +kernel⟩⟩
theorem lk_L_84 : LkV RL 84 yX11_can cX11_can 3 (some .int) 2 := ⟨⟨q_1482, q_89, q_1479, q_1480, q_1481⟩, ⟨by decide, by decide, by decide +kernel⟩⟩
theorem lk_L_85 : LkV RL 85 yX10_most cX10_most 4 (some .int) 2 := ⟨⟨q_804, q_77, q_801, q_802, q_803⟩, ⟨by decide, by decide, by decide +kernel⟩⟩
theorem lk_L_88 : LkV RL 88 yX11_most cX11_most 5 (some .int) 2 := ⟨⟨q_1494, q_89, q_1491, q_1492, q_1493⟩, ⟨by decide, by decide, by decide +kernel⟩⟩
theorem lk_L_89 : LkV RL 89 yX10_clashes cX10_clashes 4 (some .int) 2 := ⟨⟨q_813, q_77, q_810, q_811, q_812⟩, ⟨by decide, by decide, by decide +kernel⟩⟩
theorem lk_L_92 : LkV RL 92 yX11_clashes cX11_clashes 6 (some .int) 2 := ⟨⟨q_1498, q_89, q_1495, q_1496, q_1497⟩, ⟨by decide, by decide, by decide +kernel⟩⟩
theorem lk_L_93 : LkV RL 93 yX10_hand cX10_hand 5 (some .int) 2 := ⟨⟨q_829, q_77, q_826, q_827, q_828⟩, ⟨by decide, by decide, by decide +kernel⟩⟩
theorem lk_L_96 : LkV RL 96 yX11_hand cX11_hand 3 (some .int) 2 := ⟨⟨q_1506, q_89, q_1503, q_1504, q_1505⟩, ⟨by decide, by decide, by decide +kernel⟩⟩
theorem lk_L_97 : LkV RL 97 yX10_handBest cX10_handBest 4 (some .int) 2 := ⟨⟨q_840, q_77, q_837, q_838, q_839⟩, ⟨by decide, by decide, by decide +kernel⟩⟩
theorem lk_L_100 : LkV RL 100 yX11_handBest cX11_handBest 8 (some .int) 2 := ⟨⟨q_1514, q_89, q_1511, q_1512, q_1513⟩, ⟨by decide, by decide, by decide +kernel⟩⟩
theorem lk_L_101 : LkV RL 101 yX10_judge cX10_judge 4 (some .int) 2 := ⟨⟨q_852, q_77, q_849, q_850, q_851⟩, ⟨by decide, by decide, by decide +kernel⟩⟩
theorem lk_L_104 : LkV RL 104 yX11_judge cX11_judge 3 (some .int) 2 := ⟨⟨q_1518, q_89, q_1515, q_1516, q_1517⟩, ⟨by decide, by decide, by decide +kernel⟩⟩
theorem lk_L_105 : LkV RL 105 yX10_keptOn cX10_keptOn 5 (some .int) 4 := ⟨⟨q_863, q_77, q_860, q_861, q_862⟩, ⟨by decide, by decide, by decide +kernel⟩⟩
theorem lk_L_109 : LkV RL 109 yX11_keptOn cX11_keptOn 9 (some .int) 4 := ⟨⟨q_1530, q_89, q_1527, q_1528, q_1529⟩, ⟨by decide, by decide, by decide +kernel⟩⟩
theorem lk_L_110 : LkV RL 110 yX10_whose cX10_whose 3 (some .int) 1 := ⟨⟨q_883, q_77, q_880, q_881, q_882⟩, ⟨by decide, by decide, by decide +kernel⟩⟩
theorem lk_L_113 : LkV RL 113 yX11_whose cX11_whose 4 (some .int) 1 := ⟨⟨q_1534, q_89, q_1531, q_1532, q_1533⟩, ⟨by decide, by decide, by decide +kernel⟩⟩
theorem lk_L_114 : LkV RL 114 yX10_byTurns cX10_byTurns 6 (some .int) 3 := ⟨⟨q_892, q_77, q_889, q_890, q_891⟩, ⟨by decide, by decide, by decide +kernel⟩⟩
theorem lk_L_117 : LkV RL 117 yX11_byTurns cX11_byTurns 9 (some .int) 3 := ⟨⟨q_1538, q_89, q_1535, q_1536, q_1537⟩, ⟨by decide, by decide, by decide +kernel⟩⟩
theorem lk_L_118 : LkV RL 118 yX10_loudest cX10_loudest 3 (some .int) 1 := ⟨⟨q_913, q_77, q_910, q_911, q_912⟩, ⟨by decide, by decide, by decide +kernel⟩⟩
theorem lk_L_121 : LkV RL 121 yX11_loudest cX11_loudest 7 (some .int) 1 := ⟨⟨q_1546, q_89, q_1543, q_1544, q_1545⟩, ⟨by decide, by decide, by decide +kernel⟩⟩
theorem lk_L_122 : LkV RL 122 yX10_drawn cX10_drawn 5 (some .int) 4 := ⟨⟨q_926, q_77, q_923, q_924, q_925⟩, ⟨by decide, by decide, by decide +kernel⟩⟩
theorem lk_L_125 : LkV RL 125 yX11_drawn cX11_drawn 10 (some .int) 4 := ⟨⟨q_1550, q_89, q_1547, q_1548, q_1549⟩, ⟨by decide, by decide, by decide +kernel⟩⟩
theorem lk_L_126 : LkV RL 126 yX10_passes cX10_passes 1 (some .int) 0 := ⟨⟨q_939, q_77, q_936, q_937, q_938⟩, ⟨by decide, by decide, by decide +kernel⟩⟩
theorem lk_L_129 : LkV RL 129 yX11_passes cX11_passes 1 (some .int) 0 := ⟨⟨q_1555, q_89, q_1552, q_1553, q_1554⟩, ⟨by decide, by decide, by decide +kernel⟩⟩
theorem lk_L_130 : LkV RL 130 yX10_vow cX10_vow 4 (some .int) 2 := ⟨⟨q_953, q_77, q_950, q_951, q_952⟩, ⟨by decide, by decide, by decide +kernel⟩⟩
theorem lk_L_133 : LkV RL 133 yX11_vow cX11_vow 3 (some .int) 2 := ⟨⟨q_1559, q_89, q_1556, q_1557, q_1558⟩, ⟨by decide, by decide, by decide +kernel⟩⟩
theorem lk_L_134 : LkV RL 134 yX10_kept cX10_kept 2 (some .int) 1 := ⟨⟨q_962, q_77, q_959, q_960, q_961⟩, ⟨by decide, by decide, by decide +kernel⟩⟩
theorem lk_L_137 : LkV RL 137 yX11_kept cX11_kept 4 (some .int) 1 := ⟨⟨q_1563, q_89, q_1560, q_1561, q_1562⟩, ⟨by decide, by decide, by decide +kernel⟩⟩
theorem lk_L_138 : LkV RL 138 yX10_led cX10_led 2 (some .int) 1 := ⟨⟨q_972, q_77, q_969, q_970, q_971⟩, ⟨by decide, by decide, by decide +kernel⟩⟩
theorem lk_L_141 : LkV RL 141 yX11_led cX11_led 2 (some .int) 1 := ⟨⟨q_1567, q_89, q_1564, q_1565, q_1566⟩, ⟨by decide, by decide, by decide +kernel⟩⟩
theorem lk_L_142 : LkV RL 142 yX10_image cX10_image 1 (some .int) 0 := ⟨⟨q_976, q_77, q_973, q_974, q_975⟩, ⟨by decide, by decide, by decide +kernel⟩⟩
theorem lk_L_145 : LkV RL 145 yX11_image cX11_image 2 (some .int) 0 := ⟨⟨q_1571, q_89, q_1568, q_1569, q_1570⟩, ⟨by decide, by decide, by decide +kernel⟩⟩
theorem lk_L_146 : LkV RL 146 yX10_back cX10_back 1 (some .int) 0 := ⟨⟨q_985, q_77, q_982, q_983, q_984⟩, ⟨by decide, by decide, by decide +kernel⟩⟩
theorem lk_L_149 : LkV RL 149 yX11_back cX11_back 2 (some .int) 0 := ⟨⟨q_1575, q_89, q_1572, q_1573, q_1574⟩, ⟨by decide, by decide, by decide +kernel⟩⟩
theorem lk_L_150 : LkV RL 150 yX10_undo cX10_undo 1 (some .int) 0 := ⟨⟨q_993, q_77, q_990, q_991, q_992⟩, ⟨by decide, by decide, by decide +kernel⟩⟩
theorem lk_L_153 : LkV RL 153 yX11_undo cX11_undo 1 (some .int) 0 := ⟨⟨q_1264, q_89, q_1261, q_1262, q_1263⟩, ⟨by decide, by decide, by decide +kernel⟩⟩
theorem lk_L_154 : LkV RL 154 yX10_redo cX10_redo 1 (some .int) 0 := ⟨⟨q_1002, q_77, q_999, q_1000, q_1001⟩, ⟨by decide, by decide, by decide +kernel⟩⟩
theorem lk_L_157 : LkV RL 157 yX11_redo cX11_redo 1 (some .int) 0 := ⟨⟨q_1268, q_89, q_1265, q_1266, q_1267⟩, ⟨by decide, by decide, by decide +kernel⟩⟩
theorem lk_L_158 : LkV RL 158 yX10_body cX10_body 2 (some .int) 1 := ⟨⟨q_1010, q_77, q_1007, q_1008, q_1009⟩, ⟨by decide, by decide, by decide +kernel⟩⟩
theorem lk_L_161 : LkV RL 161 yX11_body cX11_body 2 (some .int) 1 := ⟨⟨q_1579, q_89, q_1576, q_1577, q_1578⟩, ⟨by decide, by decide, by decide +kernel⟩⟩
theorem lk_L_162 : LkV RL 162 yX10_act cX10_act 4 (some .int) 3 := ⟨⟨q_1018, q_77, q_1015, q_1016, q_1017⟩, ⟨by decide, by decide, by decide +kernel⟩⟩
theorem lk_L_165 : LkV RL 165 yX11_act cX11_act 4 (some .int) 3 := ⟨⟨q_1584, q_89, q_1581, q_1582, q_1583⟩, ⟨by decide, by decide, by decide +kernel⟩⟩
theorem lk_L_166 : LkV RL 166 yX10_trace cX10_trace 2 (some .int) 1 := ⟨⟨q_1050, q_77, q_1047, q_1048, q_1049⟩, ⟨by decide, by decide, by decide +kernel⟩⟩
theorem lk_L_169 : LkV RL 169 yX11_trace cX11_trace 2 (some .int) 1 := ⟨⟨q_1612, q_89, q_1609, q_1610, q_1611⟩, ⟨by decide, by decide, by decide +kernel⟩⟩
theorem lk_L_170 : LkV RL 170 yX10_keep cX10_keep 3 (some .int) 2 := ⟨⟨q_1055, q_77, q_1052, q_1053, q_1054⟩, ⟨by decide, by decide, by decide +kernel⟩⟩
theorem lk_L_173 : LkV RL 173 yX11_keep cX11_keep 3 (some .int) 2 := ⟨⟨q_1616, q_89, q_1613, q_1614, q_1615⟩, ⟨by decide, by decide, by decide +kernel⟩⟩
theorem lk_L_174 : LkV RL 174 yX10_row cX10_row 4 (some .int) 3 := ⟨⟨q_1068, q_77, q_1065, q_1066, q_1067⟩, ⟨by decide, by decide, by decide +kernel⟩⟩
theorem lk_L_177 : LkV RL 177 yX11_row cX11_row 5 (some .int) 3 := ⟨⟨q_1620, q_89, q_1617, q_1618, q_1619⟩, ⟨by decide, by decide, by decide +kernel⟩⟩
theorem lk_L_180 : LkV RL 180 yX10_put cX10_put 6 (some .int) 3 := ⟨⟨q_1082, q_77, q_1079, q_1080, q_1081⟩, ⟨by decide, by decide, by decide +kernel⟩⟩
theorem lk_L_184 : LkV RL 184 yX11_put cX11_put 6 (some .int) 3 := ⟨⟨q_1625, q_89, q_1622, q_1623, q_1624⟩, ⟨by decide, by decide, by decide +kernel⟩⟩
theorem lk_L_185 : LkV RL 185 yX10_element cX10_element 3 (some .long) 2 := ⟨⟨q_1102, q_77, q_1099, q_1100, q_1101⟩, ⟨by decide, by decide, by decide +kernel⟩⟩
theorem lk_L_189 : LkV RL 189 yX11_element cX11_element 3 (some .long) 2 := ⟨⟨q_1636, q_89, q_1633, q_1634, q_1635⟩, ⟨by decide, by decide, by decide +kernel⟩⟩
theorem lk_L_190 : LkV RL 190 yX10_shift cX10_shift 7 (some .int) 5 := ⟨⟨q_1107, q_77, q_1104, q_1105, q_1106⟩, ⟨by decide, by decide, by decide +kernel⟩⟩
theorem lk_L_194 : LkV RL 194 yX11_shift cX11_shift 7 (some .int) 5 := ⟨⟨q_1641, q_89, q_1638, q_1639, q_1640⟩, ⟨by decide, by decide, by decide +kernel⟩⟩
theorem lk_L_195 : LkV RL 195 yX10_taken cX10_taken 5 (some .int) 2 := ⟨⟨q_1120, q_77, q_1117, q_1118, q_1119⟩, ⟨by decide, by decide, by decide +kernel⟩⟩
theorem lk_L_198 : LkV RL 198 yX11_taken cX11_taken 4 (some .int) 2 := ⟨⟨q_1645, q_89, q_1642, q_1643, q_1644⟩, ⟨by decide, by decide, by decide +kernel⟩⟩
theorem lk_L_199 : LkV RL 199 yX10_count cX10_count 2 (some .int) 1 := ⟨⟨q_1136, q_77, q_1133, q_1134, q_1135⟩, ⟨by decide, by decide, by decide +kernel⟩⟩
theorem lk_L_202 : LkV RL 202 yX11_count cX11_count 2 (some .int) 1 := ⟨⟨q_1656, q_89, q_1653, q_1654, q_1655⟩, ⟨by decide, by decide, by decide +kernel⟩⟩
theorem li_L_9 : LkI RL 9 yX10_init cX10_init 1 0 := ⟨⟨q_97, q_77, q_95, q_96⟩, ⟨by decide, by decide, by decide +kernel⟩, rfl⟩
theorem li_L_12 : LkI RL 12 yX11_init cX11_init 2 0 := ⟨⟨q_1141, q_89, q_1139, q_1140⟩, ⟨by decide, by decide, by decide +kernel⟩, rfl⟩