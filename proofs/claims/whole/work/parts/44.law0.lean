-- ===== end of PART A; then your names; then what follows =====
/-! THE CLAIM OUT OF ONE WALK OF THE LAW'S BODY. Your part is whole_start (and what it stands on); all else here is the same for every law, but numbers. -/
def R_law : String := "ChainsHoldLaw"
def lw_P (b : Addr) (xs : List Int32) (args : Array Value) (s : State) : Prop := args = #[.ref b] ∧ s.IntsAt b xs ∧ xs.length ≤ 3072 ∧ (Jvm.Cond.and given_1 narrow_1).before args s = true
def lw_Q (_ : Array Value) (s : State) (o : Outcome) (t : State) : Prop := o = .returned (some (.int 1)) ∧ Framed s o t [] 600000 7302250
def lw_Z (below : List Frame) (a : Array Value) (s : State) : State → Prop := fun t => ∃ o, t.status = .running ∧ Ended t below o ∧ lw_Q a s o t
/-- the law's own end, with 1 on the stack, nothing written that was there before, its room as the claim has it -/
theorem lw_ret {p : Program} {l : Launch} {e : Env} {s : State} {m : MethodId} {below : List Frame} {meth : Method} {c : Code} {b : Nat} (hx : p.tables.exec = Jvm.exec) (hb : c.code = code) (hr : meth.sig.returnType = ret) (hlocks : meth.locks = false) {pc : Nat} {H : Heap} {ls : Array Slot} (hdg : decode code pc = .ok (.ireturn, 1)) : W p l e room_1 s m #[Value.ref b] below meth c H [] 600000 7302250 (lw_Z below #[Value.ref b] s) (F0 m pc ls [.int 1]) := by
  intro T hT X
  obtain ⟨fs, hret, hrun, hended, hW, hframe⟩ := X.leave (v := some (.int 1)) (hlocks := hlocks) (fun h => by rw [hr] at h; cases h)
  have hmeth' : T.vm.method? m = some meth := X.method'
  refine ⟨T.setFrames fs, ?_, .returned (some (.int 1)), hrun, hended, rfl, ⟨_, rfl⟩, hW, hframe⟩
  jvm_step X.here [X.here.top, hx, hb, hdg, hmeth', hr, ret, narrow_b1]
  (try refine ⟨rfl, ?_⟩); (try refine ⟨rfl, ?_⟩)
  first | (intro acts; rw [hret _ acts rfl rfl rfl]) | rw [hret _ _ rfl rfl rfl]
  exact Steps.refl _
/-- what holds at the law's entry: the machine, the code, the tables' words (any of lw_tbl by 'hts w (by decide +kernel)'), the script of L ints xs at the cell b, what the Statement gives of the start (any of its parts by flat_of_before) -/
def lw_At (p : Program) (s : State) (m : MethodId) (meth : Method) (c : Code) (b L : Nat) (xs : Nat → Int32) : Prop :=
  p.tables.exec = Jvm.exec ∧ c.code = code ∧ meth.sig.returnType = ret ∧ c.maxLocals = 4 ∧ s.vm.findClass R_law = some m.cls ∧ (∀ w ∈ lw_tbl, w.before #[Value.ref b] s = true) ∧ va_X b L xs s s.heap ∧ b < s.heap.size ∧ meth.locks = false ∧ (Jvm.Cond.and given_1 narrow_1).before #[Value.ref b] s = true

section LAWB
variable {p : Program} {l : Launch} {e : Env} {s : State} {m : MethodId} {args : Array Value} {below : List Frame} {meth : Method} {c : Code} {H : Heap} {locs : List Loc} {Q : State → Prop} {E : Ev} {S S' V : St} {cc : ByteArray} {nL pc : Nat} {own : String} {ret : Option FieldType} {ls : Array Slot} {rest : List Value}
theorem after_callL {w : St → va_W} {rv : Option Value} {st0 : List Value} {a : Array Value} {R : Room} {cells slots : Nat} (C : Cx p s m args meth c E cc nL own ret) (hw : Wd E w s.heap S H locs) (hr : va_Run p l e R s m args below meth c H locs cells slots 0 0 (F0 m pc ls st0) rest (QW E w rv S' a) (eA E))
    (kk : ∀ (H1 : Heap) (locs1 : List Loc), Wd E w s.heap S' H1 locs1 → W p l e R s m args below meth c H1 locs1 cells slots Q (F0 m (pc + 3) ls (rv.toList ++ rest))) : W p l e R s m args below meth c H locs cells slots Q (F0 m pc ls st0) := by
  intro T hT X
  obtain ⟨v, st₀, t, T', L, h0, X', hL, e1, e2, ⟨hv, hI, hz, hk⟩, st⟩ := hr T hT X
  cases hv
  rw [h0] at hz hk
  have hS := hw.2.2
  obtain ⟨t2, a1, b1⟩ := kk T'.heap (locs ++ L) ⟨by rw [e1]; exact hI.1, hI.2.1, Nat.le_trans hS.1 (by rw [e1]; exact hz), fun q h1 h2 => by rw [e1, hk q (Nat.lt_of_lt_of_le h1 hS.1) h2]; exact hS.2.1 q h1 h2, fun q hq => by
      rcases List.mem_append.mp hq with h | h
      · exact hS.2.2 q h
      · exact hL q h⟩ T' rfl X'
  exact ⟨t2, st t2 a1, b1⟩
theorem inv_L {w : Ev → St → va_W} {y : MethodName} {cy : ByteArray} {nLy idx n h ci q0 b : Nat} {r : Option FieldType} {As : List Value} {fs : List Value} {qc : vw_C} {rv : Ev → Option Value} (Lk : LkV own idx y cy nLy r n) (C : Cx p s m args meth c E cc nL own ret) (hw : Wd E (w E) s.heap S H locs)
    (he : (w E S)[q0]? = some (b, .inr (ci, fs))) (hc : gCl[ci]? = some qc) (hq : qc.1 = y.cls)
    (hM : Ct l w y cy nLy r h (fun E' => .ref (ea E' q0) :: As) S rv S') (hb : b = ea E q0) (hl : ls.size = nL) (hdg : decode cc pc = .ok (.invokevirtual idx, 3)) (hn : As.length = n) (hh : h ≤ 2000) (hny : nLy ≤ 21) (hcat : (rest.map fun v => v.category).sum ≤ 8) {st0 : List Value} (hst : st0 = As.reverse ++ .ref b :: rest)
    (kk : ∀ (H1 : Heap) (locs1 : List Loc), Wd E (w E) s.heap S' H1 locs1 → W p l e room_1 s m args below meth c H1 locs1 600000 7302250 Q (F0 m (pc + 3) ls ((rv E).toList ++ rest))) : W p l e room_1 s m args below meth c H locs 600000 7302250 Q (F0 m pc ls st0) := by
  subst hb
  obtain ⟨⟨k1, k2, k3, k4, k5⟩, kd⟩ := Lk
  have hts := C.2.2.2.2.1
  refine after_callL C hw (va_runV (As := As) (rest := rest) (C := y.cls) (n := n) (Ts := gW) ⟨C.1, C.2.1, C.2.2.1, C.2.2.2.1, hts⟩ (hM E) ⟨callB_of n hts (gW_GoodIn (c0 := .code y cy nLy r) k1) rfl rfl rfl (hts _ k2) (hts _ k3) kd (by simp only [rmh, room_1]; omega), hts _ k4, hts _ k5⟩ ⟨IW_blind, ?_, IW_pre C hw⟩ rfl hn hl hst (lv_room hcat) hdg ⟨Nat.le_refl _, Nat.le_refl _⟩) kk
  obtain ⟨cell, h1, h2, h3⟩ := va_recv C.2.2.2.2.2.2.2.1.1 hw.1 hc he
  exact ⟨cell, h1, h2, by rw [← hq]; exact h3⟩
theorem inv_Li {w : Ev → St → va_W} {y : MethodName} {cy : ByteArray} {nLy idx n h ci q0 b : Nat} {r : Option FieldType} {As : List Value} {fs : List Value} {qc : vw_C} {rr : Int32} (Lk : LkV own idx y cy nLy r n) (C : Cx p s m args meth c E cc nL own ret) (hw : Wd E (w E) s.heap S H locs)
    (he : (w E S)[q0]? = some (b, .inr (ci, fs))) (hc : gCl[ci]? = some qc) (hq : qc.1 = y.cls)
    (hM : Ct l w y cy nLy r h (fun E' => .ref (ea E' q0) :: As) S (fun _ => some (.int rr)) S') (hb : b = ea E q0) (hl : ls.size = nL) (hdg : decode cc pc = .ok (.invokevirtual idx, 3)) (hn : As.length = n) (hh : h ≤ 2000) (hny : nLy ≤ 21) (hcat : (rest.map fun v => v.category).sum ≤ 8) {st0 : List Value} (hst : st0 = As.reverse ++ .ref b :: rest)
    (kk : ∀ (H1 : Heap) (locs1 : List Loc), Wd E (w E) s.heap S' H1 locs1 → W p l e room_1 s m args below meth c H1 locs1 600000 7302250 Q (F0 m (pc + 3) ls (.int rr :: rest))) : W p l e room_1 s m args below meth c H locs 600000 7302250 Q (F0 m pc ls st0) := inv_L Lk C hw he hc hq hM hb hl hdg hn hh hny hcat hst kk
theorem inv_Ll {w : Ev → St → va_W} {y : MethodName} {cy : ByteArray} {nLy idx n h ci q0 b : Nat} {r : Option FieldType} {As : List Value} {fs : List Value} {qc : vw_C} {rr : Int64} (Lk : LkV own idx y cy nLy r n) (C : Cx p s m args meth c E cc nL own ret) (hw : Wd E (w E) s.heap S H locs)
    (he : (w E S)[q0]? = some (b, .inr (ci, fs))) (hc : gCl[ci]? = some qc) (hq : qc.1 = y.cls)
    (hM : Ct l w y cy nLy r h (fun E' => .ref (ea E' q0) :: As) S (fun _ => some (.long rr)) S') (hb : b = ea E q0) (hl : ls.size = nL) (hdg : decode cc pc = .ok (.invokevirtual idx, 3)) (hn : As.length = n) (hh : h ≤ 2000) (hny : nLy ≤ 21) (hcat : (rest.map fun v => v.category).sum ≤ 8) {st0 : List Value} (hst : st0 = As.reverse ++ .ref b :: rest)
    (kk : ∀ (H1 : Heap) (locs1 : List Loc), Wd E (w E) s.heap S' H1 locs1 → W p l e room_1 s m args below meth c H1 locs1 600000 7302250 Q (F0 m (pc + 3) ls (.long rr :: rest))) : W p l e room_1 s m args below meth c H locs 600000 7302250 Q (F0 m pc ls st0) := inv_L Lk C hw he hc hq hM hb hl hdg hn hh hny hcat hst kk
end LAWB
theorem q_94 : .classLink RL 7 RX10 ∈ gW := gW_in (i := 94) (by decide +kernel) (by decide +kernel)
theorem q_95 : .instantiable RX10 10 ∈ gW := gW_in (i := 95) (by decide +kernel) (by decide +kernel)
theorem q_96 : .methodLink RL 9 yX10_init ∈ gW := gW_in (i := 96) (by decide +kernel) (by decide +kernel)
theorem q_97 : .instanceMethod yX10_init ∈ gW := gW_in (i := 97) (by decide +kernel) (by decide +kernel)
theorem q_98 : .code yX10_init cX10_init 1 none ∈ gW := gW_in (i := 98) (by decide +kernel) (by decide +kernel)
theorem q_406 : .methodLink RL 13 yX10_person ∈ gW := gW_in (i := 406) (by decide +kernel) (by decide +kernel)
theorem q_407 : .instanceMethod yX10_person ∈ gW := gW_in (i := 407) (by decide +kernel) (by decide +kernel)
theorem q_408 : .selects RX10 yX10_person yX10_person ∈ gW := gW_in (i := 408) (by decide +kernel) (by decide +kernel)
theorem q_409 : .code yX10_person cX10_person 3 (some .int) ∈ gW := gW_in (i := 409) (by decide +kernel) (by decide +kernel)
theorem q_417 : .methodLink RL 18 yX10_promise ∈ gW := gW_in (i := 417) (by decide +kernel) (by decide +kernel)
theorem q_418 : .instanceMethod yX10_promise ∈ gW := gW_in (i := 418) (by decide +kernel) (by decide +kernel)
theorem q_419 : .selects RX10 yX10_promise yX10_promise ∈ gW := gW_in (i := 419) (by decide +kernel) (by decide +kernel)
theorem q_420 : .code yX10_promise cX10_promise 3 (some .int) ∈ gW := gW_in (i := 420) (by decide +kernel) (by decide +kernel)
theorem q_441 : .methodLink RL 22 yX10_promises ∈ gW := gW_in (i := 441) (by decide +kernel) (by decide +kernel)
theorem q_442 : .instanceMethod yX10_promises ∈ gW := gW_in (i := 442) (by decide +kernel) (by decide +kernel)
theorem q_443 : .selects RX10 yX10_promises yX10_promises ∈ gW := gW_in (i := 443) (by decide +kernel) (by decide +kernel)
theorem q_444 : .code yX10_promises cX10_promises 5 (some .int) ∈ gW := gW_in (i := 444) (by decide +kernel) (by decide +kernel)
theorem q_465 : .methodLink RL 27 yX10_mend ∈ gW := gW_in (i := 465) (by decide +kernel) (by decide +kernel)
theorem q_466 : .instanceMethod yX10_mend ∈ gW := gW_in (i := 466) (by decide +kernel) (by decide +kernel)
theorem q_467 : .selects RX10 yX10_mend yX10_mend ∈ gW := gW_in (i := 467) (by decide +kernel) (by decide +kernel)
theorem q_468 : .code yX10_mend cX10_mend 5 (some .int) ∈ gW := gW_in (i := 468) (by decide +kernel) (by decide +kernel)
theorem q_505 : .methodLink RL 31 yX10_of ∈ gW := gW_in (i := 505) (by decide +kernel) (by decide +kernel)
theorem q_506 : .instanceMethod yX10_of ∈ gW := gW_in (i := 506) (by decide +kernel) (by decide +kernel)
theorem q_507 : .selects RX10 yX10_of yX10_of ∈ gW := gW_in (i := 507) (by decide +kernel) (by decide +kernel)
theorem q_508 : .code yX10_of cX10_of 3 (some .int) ∈ gW := gW_in (i := 508) (by decide +kernel) (by decide +kernel)
theorem q_509 : .methodLink RL 35 yX10_feed ∈ gW := gW_in (i := 509) (by decide +kernel) (by decide +kernel)
theorem q_510 : .instanceMethod yX10_feed ∈ gW := gW_in (i := 510) (by decide +kernel) (by decide +kernel)
theorem q_511 : .selects RX10 yX10_feed yX10_feed ∈ gW := gW_in (i := 511) (by decide +kernel) (by decide +kernel)
theorem q_512 : .code yX10_feed cX10_feed 2 (some .int) ∈ gW := gW_in (i := 512) (by decide +kernel) (by decide +kernel)
theorem q_517 : .methodLink RL 40 yX10_law ∈ gW := gW_in (i := 517) (by decide +kernel) (by decide +kernel)
theorem q_518 : .instanceMethod yX10_law ∈ gW := gW_in (i := 518) (by decide +kernel) (by decide +kernel)
theorem q_519 : .selects RX10 yX10_law yX10_law ∈ gW := gW_in (i := 519) (by decide +kernel) (by decide +kernel)
theorem q_520 : .code yX10_law cX10_law 2 (some .int) ∈ gW := gW_in (i := 520) (by decide +kernel) (by decide +kernel)
theorem q_571 : .methodLink RL 45 yX10_chain ∈ gW := gW_in (i := 571) (by decide +kernel) (by decide +kernel)
theorem q_572 : .instanceMethod yX10_chain ∈ gW := gW_in (i := 572) (by decide +kernel) (by decide +kernel)
theorem q_573 : .selects RX10 yX10_chain yX10_chain ∈ gW := gW_in (i := 573) (by decide +kernel) (by decide +kernel)
theorem q_574 : .code yX10_chain cX10_chain 4 (some .int) ∈ gW := gW_in (i := 574) (by decide +kernel) (by decide +kernel)
theorem q_651 : .methodLink RL 49 yX10_creak ∈ gW := gW_in (i := 651) (by decide +kernel) (by decide +kernel)
theorem q_652 : .instanceMethod yX10_creak ∈ gW := gW_in (i := 652) (by decide +kernel) (by decide +kernel)
theorem q_653 : .selects RX10 yX10_creak yX10_creak ∈ gW := gW_in (i := 653) (by decide +kernel) (by decide +kernel)
theorem q_654 : .code yX10_creak cX10_creak 3 (some .int) ∈ gW := gW_in (i := 654) (by decide +kernel) (by decide +kernel)
theorem q_657 : .methodLink RL 53 yX10_rides ∈ gW := gW_in (i := 657) (by decide +kernel) (by decide +kernel)
theorem q_658 : .instanceMethod yX10_rides ∈ gW := gW_in (i := 658) (by decide +kernel) (by decide +kernel)
theorem q_659 : .selects RX10 yX10_rides yX10_rides ∈ gW := gW_in (i := 659) (by decide +kernel) (by decide +kernel)
theorem q_660 : .code yX10_rides cX10_rides 4 (some .int) ∈ gW := gW_in (i := 660) (by decide +kernel) (by decide +kernel)
theorem q_684 : .methodLink RL 57 yX10_ride ∈ gW := gW_in (i := 684) (by decide +kernel) (by decide +kernel)
theorem q_685 : .instanceMethod yX10_ride ∈ gW := gW_in (i := 685) (by decide +kernel) (by decide +kernel)
theorem q_686 : .selects RX10 yX10_ride yX10_ride ∈ gW := gW_in (i := 686) (by decide +kernel) (by decide +kernel)
theorem q_687 : .code yX10_ride cX10_ride 4 (some .int) ∈ gW := gW_in (i := 687) (by decide +kernel) (by decide +kernel)
theorem q_699 : .methodLink RL 61 yX10_who ∈ gW := gW_in (i := 699) (by decide +kernel) (by decide +kernel)
theorem q_700 : .instanceMethod yX10_who ∈ gW := gW_in (i := 700) (by decide +kernel) (by decide +kernel)
theorem q_701 : .selects RX10 yX10_who yX10_who ∈ gW := gW_in (i := 701) (by decide +kernel) (by decide +kernel)
theorem q_702 : .code yX10_who cX10_who 2 (some .int) ∈ gW := gW_in (i := 702) (by decide +kernel) (by decide +kernel)
theorem q_708 : .methodLink RL 65 yX10_best ∈ gW := gW_in (i := 708) (by decide +kernel) (by decide +kernel)
theorem q_709 : .instanceMethod yX10_best ∈ gW := gW_in (i := 709) (by decide +kernel) (by decide +kernel)
theorem q_710 : .selects RX10 yX10_best yX10_best ∈ gW := gW_in (i := 710) (by decide +kernel) (by decide +kernel)
theorem q_711 : .code yX10_best cX10_best 3 (some .int) ∈ gW := gW_in (i := 711) (by decide +kernel) (by decide +kernel)
theorem q_722 : .methodLink RL 69 yX10_keepBy ∈ gW := gW_in (i := 722) (by decide +kernel) (by decide +kernel)
theorem q_723 : .instanceMethod yX10_keepBy ∈ gW := gW_in (i := 723) (by decide +kernel) (by decide +kernel)
theorem q_724 : .selects RX10 yX10_keepBy yX10_keepBy ∈ gW := gW_in (i := 724) (by decide +kernel) (by decide +kernel)
theorem q_725 : .code yX10_keepBy cX10_keepBy 5 (some .int) ∈ gW := gW_in (i := 725) (by decide +kernel) (by decide +kernel)
theorem q_756 : .methodLink RL 73 yX10_lightest ∈ gW := gW_in (i := 756) (by decide +kernel) (by decide +kernel)
theorem q_757 : .instanceMethod yX10_lightest ∈ gW := gW_in (i := 757) (by decide +kernel) (by decide +kernel)
theorem q_758 : .selects RX10 yX10_lightest yX10_lightest ∈ gW := gW_in (i := 758) (by decide +kernel) (by decide +kernel)
theorem q_759 : .code yX10_lightest cX10_lightest 5 (some .int) ∈ gW := gW_in (i := 759) (by decide +kernel) (by decide +kernel)
theorem q_770 : .methodLink RL 77 yX10_ways ∈ gW := gW_in (i := 770) (by decide +kernel) (by decide +kernel)
theorem q_771 : .instanceMethod yX10_ways ∈ gW := gW_in (i := 771) (by decide +kernel) (by decide +kernel)
theorem q_772 : .selects RX10 yX10_ways yX10_ways ∈ gW := gW_in (i := 772) (by decide +kernel) (by decide +kernel)
theorem q_773 : .code yX10_ways cX10_ways 3 (some .int) ∈ gW := gW_in (i := 773) (by decide +kernel) (by decide +kernel)
theorem q_778 : .methodLink RL 81 yX10_can ∈ gW := gW_in (i := 778) (by decide +kernel) (by decide +kernel)
theorem q_779 : .instanceMethod yX10_can ∈ gW := gW_in (i := 779) (by decide +kernel) (by decide +kernel)
theorem q_780 : .selects RX10 yX10_can yX10_can ∈ gW := gW_in (i := 780) (by decide +kernel) (by decide +kernel)
theorem q_781 : .code yX10_can cX10_can 3 (some .int) ∈ gW := gW_in (i := 781) (by decide +kernel) (by decide +kernel)
theorem q_806 : .methodLink RL 85 yX10_most ∈ gW := gW_in (i := 806) (by decide +kernel) (by decide +kernel)
theorem q_807 : .instanceMethod yX10_most ∈ gW := gW_in (i := 807) (by decide +kernel) (by decide +kernel)
theorem q_808 : .selects RX10 yX10_most yX10_most ∈ gW := gW_in (i := 808) (by decide +kernel) (by decide +kernel)
theorem q_809 : .code yX10_most cX10_most 4 (some .int) ∈ gW := gW_in (i := 809) (by decide +kernel) (by decide +kernel)
theorem q_815 : .methodLink RL 89 yX10_clashes ∈ gW := gW_in (i := 815) (by decide +kernel) (by decide +kernel)
theorem q_816 : .instanceMethod yX10_clashes ∈ gW := gW_in (i := 816) (by decide +kernel) (by decide +kernel)
theorem q_817 : .selects RX10 yX10_clashes yX10_clashes ∈ gW := gW_in (i := 817) (by decide +kernel) (by decide +kernel)
theorem q_818 : .code yX10_clashes cX10_clashes 4 (some .int) ∈ gW := gW_in (i := 818) (by decide +kernel) (by decide +kernel)
theorem q_831 : .methodLink RL 93 yX10_hand ∈ gW := gW_in (i := 831) (by decide +kernel) (by decide +kernel)
theorem q_832 : .instanceMethod yX10_hand ∈ gW := gW_in (i := 832) (by decide +kernel) (by decide +kernel)
theorem q_833 : .selects RX10 yX10_hand yX10_hand ∈ gW := gW_in (i := 833) (by decide +kernel) (by decide +kernel)
theorem q_834 : .code yX10_hand cX10_hand 5 (some .int) ∈ gW := gW_in (i := 834) (by decide +kernel) (by decide +kernel)
theorem q_842 : .methodLink RL 97 yX10_handBest ∈ gW := gW_in (i := 842) (by decide +kernel) (by decide +kernel)
theorem q_843 : .instanceMethod yX10_handBest ∈ gW := gW_in (i := 843) (by decide +kernel) (by decide +kernel)
theorem q_844 : .selects RX10 yX10_handBest yX10_handBest ∈ gW := gW_in (i := 844) (by decide +kernel) (by decide +kernel)
theorem q_845 : .code yX10_handBest cX10_handBest 4 (some .int) ∈ gW := gW_in (i := 845) (by decide +kernel) (by decide +kernel)
theorem q_854 : .methodLink RL 101 yX10_judge ∈ gW := gW_in (i := 854) (by decide +kernel) (by decide +kernel)
theorem q_855 : .instanceMethod yX10_judge ∈ gW := gW_in (i := 855) (by decide +kernel) (by decide +kernel)
theorem q_856 : .selects RX10 yX10_judge yX10_judge ∈ gW := gW_in (i := 856) (by decide +kernel) (by decide +kernel)
theorem q_857 : .code yX10_judge cX10_judge 4 (some .int) ∈ gW := gW_in (i := 857) (by decide +kernel) (by decide +kernel)
theorem q_865 : .methodLink RL 105 yX10_keptOn ∈ gW := gW_in (i := 865) (by decide +kernel) (by decide +kernel)
theorem q_866 : .instanceMethod yX10_keptOn ∈ gW := gW_in (i := 866) (by decide +kernel) (by decide +kernel)
theorem q_867 : .selects RX10 yX10_keptOn yX10_keptOn ∈ gW := gW_in (i := 867) (by decide +kernel) (by decide +kernel)
theorem q_868 : .code yX10_keptOn cX10_keptOn 5 (some .int) ∈ gW := gW_in (i := 868) (by decide +kernel) (by decide +kernel)
theorem q_885 : .methodLink RL 110 yX10_whose ∈ gW := gW_in (i := 885) (by decide +kernel) (by decide +kernel)
theorem q_886 : .instanceMethod yX10_whose ∈ gW := gW_in (i := 886) (by decide +kernel) (by decide +kernel)
theorem q_887 : .selects RX10 yX10_whose yX10_whose ∈ gW := gW_in (i := 887) (by decide +kernel) (by decide +kernel)
theorem q_888 : .code yX10_whose cX10_whose 3 (some .int) ∈ gW := gW_in (i := 888) (by decide +kernel) (by decide +kernel)
theorem q_894 : .methodLink RL 114 yX10_byTurns ∈ gW := gW_in (i := 894) (by decide +kernel) (by decide +kernel)
theorem q_895 : .instanceMethod yX10_byTurns ∈ gW := gW_in (i := 895) (by decide +kernel) (by decide +kernel)
theorem q_896 : .selects RX10 yX10_byTurns yX10_byTurns ∈ gW := gW_in (i := 896) (by decide +kernel) (by decide +kernel)
theorem q_897 : .code yX10_byTurns cX10_byTurns 6 (some .int) ∈ gW := gW_in (i := 897) (by decide +kernel) (by decide +kernel)
theorem q_914 : .methodLink RL 118 yX10_loudest ∈ gW := gW_in (i := 914) (by decide +kernel) (by decide +kernel)
theorem q_915 : .instanceMethod yX10_loudest ∈ gW := gW_in (i := 915) (by decide +kernel) (by decide +kernel)
theorem q_916 : .selects RX10 yX10_loudest yX10_loudest ∈ gW := gW_in (i := 916) (by decide +kernel) (by decide +kernel)
theorem q_917 : .code yX10_loudest cX10_loudest 3 (some .int) ∈ gW := gW_in (i := 917) (by decide +kernel) (by decide +kernel)
theorem q_927 : .methodLink RL 122 yX10_drawn ∈ gW := gW_in (i := 927) (by decide +kernel) (by decide +kernel)
theorem q_928 : .instanceMethod yX10_drawn ∈ gW := gW_in (i := 928) (by decide +kernel) (by decide +kernel)
theorem q_929 : .selects RX10 yX10_drawn yX10_drawn ∈ gW := gW_in (i := 929) (by decide +kernel) (by decide +kernel)
theorem q_930 : .code yX10_drawn cX10_drawn 5 (some .int) ∈ gW := gW_in (i := 930) (by decide +kernel) (by decide +kernel)
theorem q_940 : .methodLink RL 126 yX10_passes ∈ gW := gW_in (i := 940) (by decide +kernel) (by decide +kernel)
theorem q_941 : .instanceMethod yX10_passes ∈ gW := gW_in (i := 941) (by decide +kernel) (by decide +kernel)
theorem q_942 : .selects RX10 yX10_passes yX10_passes ∈ gW := gW_in (i := 942) (by decide +kernel) (by decide +kernel)
theorem q_943 : .code yX10_passes cX10_passes 1 (some .int) ∈ gW := gW_in (i := 943) (by decide +kernel) (by decide +kernel)
theorem q_954 : .methodLink RL 130 yX10_vow ∈ gW := gW_in (i := 954) (by decide +kernel) (by decide +kernel)
theorem q_955 : .instanceMethod yX10_vow ∈ gW := gW_in (i := 955) (by decide +kernel) (by decide +kernel)
theorem q_956 : .selects RX10 yX10_vow yX10_vow ∈ gW := gW_in (i := 956) (by decide +kernel) (by decide +kernel)
theorem q_957 : .code yX10_vow cX10_vow 4 (some .int) ∈ gW := gW_in (i := 957) (by decide +kernel) (by decide +kernel)
theorem q_963 : .methodLink RL 134 yX10_kept ∈ gW := gW_in (i := 963) (by decide +kernel) (by decide +kernel)
theorem q_964 : .instanceMethod yX10_kept ∈ gW := gW_in (i := 964) (by decide +kernel) (by decide +kernel)
theorem q_965 : .selects RX10 yX10_kept yX10_kept ∈ gW := gW_in (i := 965) (by decide +kernel) (by decide +kernel)
theorem q_966 : .code yX10_kept cX10_kept 2 (some .int) ∈ gW := gW_in (i := 966) (by decide +kernel) (by decide +kernel)
theorem q_973 : .methodLink RL 138 yX10_led ∈ gW := gW_in (i := 973) (by decide +kernel) (by decide +kernel)
theorem q_974 : .instanceMethod yX10_led ∈ gW := gW_in (i := 974) (by decide +kernel) (by decide +kernel)
theorem q_975 : .selects RX10 yX10_led yX10_led ∈ gW := gW_in (i := 975) (by decide +kernel) (by decide +kernel)
theorem q_976 : .code yX10_led cX10_led 2 (some .int) ∈ gW := gW_in (i := 976) (by decide +kernel) (by decide +kernel)
theorem q_977 : .methodLink RL 142 yX10_image ∈ gW := gW_in (i := 977) (by decide +kernel) (by decide +kernel)
theorem q_978 : .instanceMethod yX10_image ∈ gW := gW_in (i := 978) (by decide +kernel) (by decide +kernel)
theorem q_979 : .selects RX10 yX10_image yX10_image ∈ gW := gW_in (i := 979) (by decide +kernel) (by decide +kernel)
theorem q_980 : .code yX10_image cX10_image 1 (some .int) ∈ gW := gW_in (i := 980) (by decide +kernel) (by decide +kernel)
theorem q_986 : .methodLink RL 146 yX10_back ∈ gW := gW_in (i := 986) (by decide +kernel) (by decide +kernel)
theorem q_987 : .instanceMethod yX10_back ∈ gW := gW_in (i := 987) (by decide +kernel) (by decide +kernel)
theorem q_988 : .selects RX10 yX10_back yX10_back ∈ gW := gW_in (i := 988) (by decide +kernel) (by decide +kernel)
theorem q_989 : .code yX10_back cX10_back 1 (some .int) ∈ gW := gW_in (i := 989) (by decide +kernel) (by decide +kernel)
theorem q_994 : .methodLink RL 150 yX10_undo ∈ gW := gW_in (i := 994) (by decide +kernel) (by decide +kernel)
theorem q_995 : .instanceMethod yX10_undo ∈ gW := gW_in (i := 995) (by decide +kernel) (by decide +kernel)
theorem q_996 : .selects RX10 yX10_undo yX10_undo ∈ gW := gW_in (i := 996) (by decide +kernel) (by decide +kernel)
theorem q_997 : .code yX10_undo cX10_undo 1 (some .int) ∈ gW := gW_in (i := 997) (by decide +kernel) (by decide +kernel)
theorem q_1003 : .methodLink RL 154 yX10_redo ∈ gW := gW_in (i := 1003) (by decide +kernel) (by decide +kernel)
theorem q_1004 : .instanceMethod yX10_redo ∈ gW := gW_in (i := 1004) (by decide +kernel) (by decide +kernel)
theorem q_1005 : .selects RX10 yX10_redo yX10_redo ∈ gW := gW_in (i := 1005) (by decide +kernel) (by decide +kernel)
theorem q_1006 : .code yX10_redo cX10_redo 1 (some .int) ∈ gW := gW_in (i := 1006) (by decide +kernel) (by decide +kernel)
theorem q_1011 : .methodLink RL 158 yX10_body ∈ gW := gW_in (i := 1011) (by decide +kernel) (by decide +kernel)
theorem q_1012 : .instanceMethod yX10_body ∈ gW := gW_in (i := 1012) (by decide +kernel) (by decide +kernel)
theorem q_1013 : .selects RX10 yX10_body yX10_body ∈ gW := gW_in (i := 1013) (by decide +kernel) (by decide +kernel)
theorem q_1014 : .code yX10_body cX10_body 2 (some .int) ∈ gW := gW_in (i := 1014) (by decide +kernel) (by decide +kernel)
theorem q_1019 : .methodLink RL 162 yX10_act ∈ gW := gW_in (i := 1019) (by decide +kernel) (by decide +kernel)
theorem q_1020 : .instanceMethod yX10_act ∈ gW := gW_in (i := 1020) (by decide +kernel) (by decide +kernel)
theorem q_1021 : .selects RX10 yX10_act yX10_act ∈ gW := gW_in (i := 1021) (by decide +kernel) (by decide +kernel)
theorem q_1022 : .code yX10_act cX10_act 4 (some .int) ∈ gW := gW_in (i := 1022) (by decide +kernel) (by decide +kernel)
theorem q_1055 : .methodLink RL 166 yX10_trace ∈ gW := gW_in (i := 1055) (by decide +kernel) (by decide +kernel)
theorem q_1056 : .instanceMethod yX10_trace ∈ gW := gW_in (i := 1056) (by decide +kernel) (by decide +kernel)
theorem q_1057 : .selects RX10 yX10_trace yX10_trace ∈ gW := gW_in (i := 1057) (by decide +kernel) (by decide +kernel)
theorem q_1058 : .code yX10_trace cX10_trace 2 (some .int) ∈ gW := gW_in (i := 1058) (by decide +kernel) (by decide +kernel)
theorem q_1060 : .methodLink RL 170 yX10_keep ∈ gW := gW_in (i := 1060) (by decide +kernel) (by decide +kernel)
theorem q_1061 : .instanceMethod yX10_keep ∈ gW := gW_in (i := 1061) (by decide +kernel) (by decide +kernel)
theorem q_1062 : .selects RX10 yX10_keep yX10_keep ∈ gW := gW_in (i := 1062) (by decide +kernel) (by decide +kernel)
theorem q_1063 : .code yX10_keep cX10_keep 3 (some .int) ∈ gW := gW_in (i := 1063) (by decide +kernel) (by decide +kernel)
theorem q_1073 : .methodLink RL 174 yX10_row ∈ gW := gW_in (i := 1073) (by decide +kernel) (by decide +kernel)
theorem q_1074 : .instanceMethod yX10_row ∈ gW := gW_in (i := 1074) (by decide +kernel) (by decide +kernel)
theorem q_1075 : .selects RX10 yX10_row yX10_row ∈ gW := gW_in (i := 1075) (by decide +kernel) (by decide +kernel)
theorem q_1076 : .code yX10_row cX10_row 4 (some .int) ∈ gW := gW_in (i := 1076) (by decide +kernel) (by decide +kernel)
theorem q_1087 : .methodLink RL 180 yX10_put ∈ gW := gW_in (i := 1087) (by decide +kernel) (by decide +kernel)
theorem q_1088 : .instanceMethod yX10_put ∈ gW := gW_in (i := 1088) (by decide +kernel) (by decide +kernel)
theorem q_1089 : .selects RX10 yX10_put yX10_put ∈ gW := gW_in (i := 1089) (by decide +kernel) (by decide +kernel)
theorem q_1090 : .code yX10_put cX10_put 6 (some .int) ∈ gW := gW_in (i := 1090) (by decide +kernel) (by decide +kernel)
theorem q_1107 : .methodLink RL 185 yX10_element ∈ gW := gW_in (i := 1107) (by decide +kernel) (by decide +kernel)
theorem q_1108 : .instanceMethod yX10_element ∈ gW := gW_in (i := 1108) (by decide +kernel) (by decide +kernel)
theorem q_1109 : .selects RX10 yX10_element yX10_element ∈ gW := gW_in (i := 1109) (by decide +kernel) (by decide +kernel)
theorem q_1110 : .code yX10_element cX10_element 3 (some .long) ∈ gW := gW_in (i := 1110) (by decide +kernel) (by decide +kernel)
theorem q_1112 : .methodLink RL 190 yX10_shift ∈ gW := gW_in (i := 1112) (by decide +kernel) (by decide +kernel)
theorem q_1113 : .instanceMethod yX10_shift ∈ gW := gW_in (i := 1113) (by decide +kernel) (by decide +kernel)
theorem q_1114 : .selects RX10 yX10_shift yX10_shift ∈ gW := gW_in (i := 1114) (by decide +kernel) (by decide +kernel)
theorem q_1115 : .code yX10_shift cX10_shift 7 (some .int) ∈ gW := gW_in (i := 1115) (by decide +kernel) (by decide +kernel)
theorem q_1125 : .methodLink RL 195 yX10_taken ∈ gW := gW_in (i := 1125) (by decide +kernel) (by decide +kernel)
theorem q_1126 : .instanceMethod yX10_taken ∈ gW := gW_in (i := 1126) (by decide +kernel) (by decide +kernel)
theorem q_1127 : .selects RX10 yX10_taken yX10_taken ∈ gW := gW_in (i := 1127) (by decide +kernel) (by decide +kernel)
theorem q_1128 : .code yX10_taken cX10_taken 5 (some .int) ∈ gW := gW_in (i := 1128) (by decide +kernel) (by decide +kernel)
theorem q_1141 : .methodLink RL 199 yX10_count ∈ gW := gW_in (i := 1141) (by decide +kernel) (by decide +kernel)
theorem q_1142 : .instanceMethod yX10_count ∈ gW := gW_in (i := 1142) (by decide +kernel) (by decide +kernel)
theorem q_1143 : .selects RX10 yX10_count yX10_count ∈ gW := gW_in (i := 1143) (by decide +kernel) (by decide +kernel)
theorem q_1144 : .code yX10_count cX10_count 2 (some .int) ∈ gW := gW_in (i := 1144) (by decide +kernel) (by decide +kernel)
theorem q_1145 : .classLink RL 10 RX11 ∈ gW := gW_in (i := 1145) (by decide +kernel) (by decide +kernel)
theorem q_1146 : .instantiable RX11 39 ∈ gW := gW_in (i := 1146) (by decide +kernel) (by decide +kernel)
theorem q_1147 : .methodLink RL 12 yX11_init ∈ gW := gW_in (i := 1147) (by decide +kernel) (by decide +kernel)
theorem q_1148 : .instanceMethod yX11_init ∈ gW := gW_in (i := 1148) (by decide +kernel) (by decide +kernel)
theorem q_1149 : .code yX11_init cX11_init 2 none ∈ gW := gW_in (i := 1149) (by decide +kernel) (by decide +kernel)
theorem q_1269 : .methodLink RL 153 yX11_undo ∈ gW := gW_in (i := 1269) (by decide +kernel) (by decide +kernel)
theorem q_1270 : .instanceMethod yX11_undo ∈ gW := gW_in (i := 1270) (by decide +kernel) (by decide +kernel)
theorem q_1271 : .selects RX11 yX11_undo yX11_undo ∈ gW := gW_in (i := 1271) (by decide +kernel) (by decide +kernel)
theorem q_1272 : .code yX11_undo cX11_undo 1 (some .int) ∈ gW := gW_in (i := 1272) (by decide +kernel) (by decide +kernel)
theorem q_1273 : .methodLink RL 157 yX11_redo ∈ gW := gW_in (i := 1273) (by decide +kernel) (by decide +kernel)
theorem q_1274 : .instanceMethod yX11_redo ∈ gW := gW_in (i := 1274) (by decide +kernel) (by decide +kernel)
theorem q_1275 : .selects RX11 yX11_redo yX11_redo ∈ gW := gW_in (i := 1275) (by decide +kernel) (by decide +kernel)
theorem q_1276 : .code yX11_redo cX11_redo 1 (some .int) ∈ gW := gW_in (i := 1276) (by decide +kernel) (by decide +kernel)
theorem q_1277 : .methodLink RL 17 yX11_person ∈ gW := gW_in (i := 1277) (by decide +kernel) (by decide +kernel)
theorem q_1278 : .instanceMethod yX11_person ∈ gW := gW_in (i := 1278) (by decide +kernel) (by decide +kernel)
theorem q_1279 : .selects RX11 yX11_person yX11_person ∈ gW := gW_in (i := 1279) (by decide +kernel) (by decide +kernel)
theorem q_1280 : .code yX11_person cX11_person 3 (some .int) ∈ gW := gW_in (i := 1280) (by decide +kernel) (by decide +kernel)
theorem q_1286 : .methodLink RL 21 yX11_promise ∈ gW := gW_in (i := 1286) (by decide +kernel) (by decide +kernel)
theorem q_1287 : .instanceMethod yX11_promise ∈ gW := gW_in (i := 1287) (by decide +kernel) (by decide +kernel)
theorem q_1288 : .selects RX11 yX11_promise yX11_promise ∈ gW := gW_in (i := 1288) (by decide +kernel) (by decide +kernel)
theorem q_1289 : .code yX11_promise cX11_promise 3 (some .int) ∈ gW := gW_in (i := 1289) (by decide +kernel) (by decide +kernel)
theorem q_1307 : .methodLink RL 26 yX11_promises ∈ gW := gW_in (i := 1307) (by decide +kernel) (by decide +kernel)
theorem q_1308 : .instanceMethod yX11_promises ∈ gW := gW_in (i := 1308) (by decide +kernel) (by decide +kernel)
theorem q_1309 : .selects RX11 yX11_promises yX11_promises ∈ gW := gW_in (i := 1309) (by decide +kernel) (by decide +kernel)
theorem q_1310 : .code yX11_promises cX11_promises 7 (some .int) ∈ gW := gW_in (i := 1310) (by decide +kernel) (by decide +kernel)
theorem q_1316 : .methodLink RL 30 yX11_mend ∈ gW := gW_in (i := 1316) (by decide +kernel) (by decide +kernel)
theorem q_1317 : .instanceMethod yX11_mend ∈ gW := gW_in (i := 1317) (by decide +kernel) (by decide +kernel)
theorem q_1318 : .selects RX11 yX11_mend yX11_mend ∈ gW := gW_in (i := 1318) (by decide +kernel) (by decide +kernel)
theorem q_1319 : .code yX11_mend cX11_mend 5 (some .int) ∈ gW := gW_in (i := 1319) (by decide +kernel) (by decide +kernel)
theorem q_1341 : .methodLink RL 34 yX11_of ∈ gW := gW_in (i := 1341) (by decide +kernel) (by decide +kernel)
theorem q_1342 : .instanceMethod yX11_of ∈ gW := gW_in (i := 1342) (by decide +kernel) (by decide +kernel)
theorem q_1343 : .selects RX11 yX11_of yX11_of ∈ gW := gW_in (i := 1343) (by decide +kernel) (by decide +kernel)
theorem q_1344 : .code yX11_of cX11_of 4 (some .int) ∈ gW := gW_in (i := 1344) (by decide +kernel) (by decide +kernel)
theorem q_1345 : .methodLink RL 39 yX11_feed ∈ gW := gW_in (i := 1345) (by decide +kernel) (by decide +kernel)
theorem q_1346 : .instanceMethod yX11_feed ∈ gW := gW_in (i := 1346) (by decide +kernel) (by decide +kernel)
theorem q_1347 : .selects RX11 yX11_feed yX11_feed ∈ gW := gW_in (i := 1347) (by decide +kernel) (by decide +kernel)
theorem q_1348 : .code yX11_feed cX11_feed 2 (some .int) ∈ gW := gW_in (i := 1348) (by decide +kernel) (by decide +kernel)
theorem q_1350 : .methodLink RL 44 yX11_law ∈ gW := gW_in (i := 1350) (by decide +kernel) (by decide +kernel)
theorem q_1351 : .instanceMethod yX11_law ∈ gW := gW_in (i := 1351) (by decide +kernel) (by decide +kernel)
theorem q_1352 : .selects RX11 yX11_law yX11_law ∈ gW := gW_in (i := 1352) (by decide +kernel) (by decide +kernel)
theorem q_1353 : .code yX11_law cX11_law 4 (some .int) ∈ gW := gW_in (i := 1353) (by decide +kernel) (by decide +kernel)
theorem q_1397 : .methodLink RL 48 yX11_chain ∈ gW := gW_in (i := 1397) (by decide +kernel) (by decide +kernel)
theorem q_1398 : .instanceMethod yX11_chain ∈ gW := gW_in (i := 1398) (by decide +kernel) (by decide +kernel)
theorem q_1399 : .selects RX11 yX11_chain yX11_chain ∈ gW := gW_in (i := 1399) (by decide +kernel) (by decide +kernel)
theorem q_1400 : .code yX11_chain cX11_chain 4 (some .int) ∈ gW := gW_in (i := 1400) (by decide +kernel) (by decide +kernel)
theorem q_1433 : .methodLink RL 52 yX11_creak ∈ gW := gW_in (i := 1433) (by decide +kernel) (by decide +kernel)
theorem q_1434 : .instanceMethod yX11_creak ∈ gW := gW_in (i := 1434) (by decide +kernel) (by decide +kernel)
theorem q_1435 : .selects RX11 yX11_creak yX11_creak ∈ gW := gW_in (i := 1435) (by decide +kernel) (by decide +kernel)
theorem q_1436 : .code yX11_creak cX11_creak 3 (some .int) ∈ gW := gW_in (i := 1436) (by decide +kernel) (by decide +kernel)
theorem q_1437 : .methodLink RL 56 yX11_rides ∈ gW := gW_in (i := 1437) (by decide +kernel) (by decide +kernel)
theorem q_1438 : .instanceMethod yX11_rides ∈ gW := gW_in (i := 1438) (by decide +kernel) (by decide +kernel)
theorem q_1439 : .selects RX11 yX11_rides yX11_rides ∈ gW := gW_in (i := 1439) (by decide +kernel) (by decide +kernel)
theorem q_1440 : .code yX11_rides cX11_rides 6 (some .int) ∈ gW := gW_in (i := 1440) (by decide +kernel) (by decide +kernel)
theorem q_1441 : .methodLink RL 60 yX11_ride ∈ gW := gW_in (i := 1441) (by decide +kernel) (by decide +kernel)
theorem q_1442 : .instanceMethod yX11_ride ∈ gW := gW_in (i := 1442) (by decide +kernel) (by decide +kernel)
theorem q_1443 : .selects RX11 yX11_ride yX11_ride ∈ gW := gW_in (i := 1443) (by decide +kernel) (by decide +kernel)
theorem q_1444 : .code yX11_ride cX11_ride 7 (some .int) ∈ gW := gW_in (i := 1444) (by decide +kernel) (by decide +kernel)
theorem q_1445 : .methodLink RL 64 yX11_who ∈ gW := gW_in (i := 1445) (by decide +kernel) (by decide +kernel)
theorem q_1446 : .instanceMethod yX11_who ∈ gW := gW_in (i := 1446) (by decide +kernel) (by decide +kernel)
theorem q_1447 : .selects RX11 yX11_who yX11_who ∈ gW := gW_in (i := 1447) (by decide +kernel) (by decide +kernel)
theorem q_1448 : .code yX11_who cX11_who 2 (some .int) ∈ gW := gW_in (i := 1448) (by decide +kernel) (by decide +kernel)
theorem q_1453 : .methodLink RL 68 yX11_best ∈ gW := gW_in (i := 1453) (by decide +kernel) (by decide +kernel)
theorem q_1454 : .instanceMethod yX11_best ∈ gW := gW_in (i := 1454) (by decide +kernel) (by decide +kernel)
theorem q_1455 : .selects RX11 yX11_best yX11_best ∈ gW := gW_in (i := 1455) (by decide +kernel) (by decide +kernel)
theorem q_1456 : .code yX11_best cX11_best 6 (some .int) ∈ gW := gW_in (i := 1456) (by decide +kernel) (by decide +kernel)
theorem q_1460 : .methodLink RL 72 yX11_keepBy ∈ gW := gW_in (i := 1460) (by decide +kernel) (by decide +kernel)
theorem q_1461 : .instanceMethod yX11_keepBy ∈ gW := gW_in (i := 1461) (by decide +kernel) (by decide +kernel)
theorem q_1462 : .selects RX11 yX11_keepBy yX11_keepBy ∈ gW := gW_in (i := 1462) (by decide +kernel) (by decide +kernel)
theorem q_1463 : .code yX11_keepBy cX11_keepBy 6 (some .int) ∈ gW := gW_in (i := 1463) (by decide +kernel) (by decide +kernel)
theorem q_1479 : .methodLink RL 76 yX11_lightest ∈ gW := gW_in (i := 1479) (by decide +kernel) (by decide +kernel)
theorem q_1480 : .instanceMethod yX11_lightest ∈ gW := gW_in (i := 1480) (by decide +kernel) (by decide +kernel)
theorem q_1481 : .selects RX11 yX11_lightest yX11_lightest ∈ gW := gW_in (i := 1481) (by decide +kernel) (by decide +kernel)
theorem q_1482 : .code yX11_lightest cX11_lightest 7 (some .int) ∈ gW := gW_in (i := 1482) (by decide +kernel) (by decide +kernel)
theorem q_1483 : .methodLink RL 80 yX11_ways ∈ gW := gW_in (i := 1483) (by decide +kernel) (by decide +kernel)
theorem q_1484 : .instanceMethod yX11_ways ∈ gW := gW_in (i := 1484) (by decide +kernel) (by decide +kernel)
theorem q_1485 : .selects RX11 yX11_ways yX11_ways ∈ gW := gW_in (i := 1485) (by decide +kernel) (by decide +kernel)
theorem q_1486 : .code yX11_ways cX11_ways 5 (some .int) ∈ gW := gW_in (i := 1486) (by decide +kernel) (by decide +kernel)
theorem q_1487 : .methodLink RL 84 yX11_can ∈ gW := gW_in (i := 1487) (by decide +kernel) (by decide +kernel)
theorem q_1488 : .instanceMethod yX11_can ∈ gW := gW_in (i := 1488) (by decide +kernel) (by decide +kernel)
theorem q_1489 : .selects RX11 yX11_can yX11_can ∈ gW := gW_in (i := 1489) (by decide +kernel) (by decide +kernel)
theorem q_1490 : .code yX11_can cX11_can 3 (some .int) ∈ gW := gW_in (i := 1490) (by decide +kernel) (by decide +kernel)
theorem q_1499 : .methodLink RL 88 yX11_most ∈ gW := gW_in (i := 1499) (by decide +kernel) (by decide +kernel)
theorem q_1500 : .instanceMethod yX11_most ∈ gW := gW_in (i := 1500) (by decide +kernel) (by decide +kernel)
theorem q_1501 : .selects RX11 yX11_most yX11_most ∈ gW := gW_in (i := 1501) (by decide +kernel) (by decide +kernel)
theorem q_1502 : .code yX11_most cX11_most 5 (some .int) ∈ gW := gW_in (i := 1502) (by decide +kernel) (by decide +kernel)
theorem q_1503 : .methodLink RL 92 yX11_clashes ∈ gW := gW_in (i := 1503) (by decide +kernel) (by decide +kernel)
theorem q_1504 : .instanceMethod yX11_clashes ∈ gW := gW_in (i := 1504) (by decide +kernel) (by decide +kernel)
theorem q_1505 : .selects RX11 yX11_clashes yX11_clashes ∈ gW := gW_in (i := 1505) (by decide +kernel) (by decide +kernel)
theorem q_1506 : .code yX11_clashes cX11_clashes 6 (some .int) ∈ gW := gW_in (i := 1506) (by decide +kernel) (by decide +kernel)
theorem q_1511 : .methodLink RL 96 yX11_hand ∈ gW := gW_in (i := 1511) (by decide +kernel) (by decide +kernel)
theorem q_1512 : .instanceMethod yX11_hand ∈ gW := gW_in (i := 1512) (by decide +kernel) (by decide +kernel)
theorem q_1513 : .selects RX11 yX11_hand yX11_hand ∈ gW := gW_in (i := 1513) (by decide +kernel) (by decide +kernel)
theorem q_1514 : .code yX11_hand cX11_hand 3 (some .int) ∈ gW := gW_in (i := 1514) (by decide +kernel) (by decide +kernel)
theorem q_1519 : .methodLink RL 100 yX11_handBest ∈ gW := gW_in (i := 1519) (by decide +kernel) (by decide +kernel)
theorem q_1520 : .instanceMethod yX11_handBest ∈ gW := gW_in (i := 1520) (by decide +kernel) (by decide +kernel)
theorem q_1521 : .selects RX11 yX11_handBest yX11_handBest ∈ gW := gW_in (i := 1521) (by decide +kernel) (by decide +kernel)
theorem q_1522 : .code yX11_handBest cX11_handBest 8 (some .int) ∈ gW := gW_in (i := 1522) (by decide +kernel) (by decide +kernel)
theorem q_1523 : .methodLink RL 104 yX11_judge ∈ gW := gW_in (i := 1523) (by decide +kernel) (by decide +kernel)
theorem q_1524 : .instanceMethod yX11_judge ∈ gW := gW_in (i := 1524) (by decide +kernel) (by decide +kernel)
theorem q_1525 : .selects RX11 yX11_judge yX11_judge ∈ gW := gW_in (i := 1525) (by decide +kernel) (by decide +kernel)
theorem q_1526 : .code yX11_judge cX11_judge 3 (some .int) ∈ gW := gW_in (i := 1526) (by decide +kernel) (by decide +kernel)
theorem q_1535 : .methodLink RL 109 yX11_keptOn ∈ gW := gW_in (i := 1535) (by decide +kernel) (by decide +kernel)
theorem q_1536 : .instanceMethod yX11_keptOn ∈ gW := gW_in (i := 1536) (by decide +kernel) (by decide +kernel)
theorem q_1537 : .selects RX11 yX11_keptOn yX11_keptOn ∈ gW := gW_in (i := 1537) (by decide +kernel) (by decide +kernel)
theorem q_1538 : .code yX11_keptOn cX11_keptOn 9 (some .int) ∈ gW := gW_in (i := 1538) (by decide +kernel) (by decide +kernel)
theorem q_1539 : .methodLink RL 113 yX11_whose ∈ gW := gW_in (i := 1539) (by decide +kernel) (by decide +kernel)
theorem q_1540 : .instanceMethod yX11_whose ∈ gW := gW_in (i := 1540) (by decide +kernel) (by decide +kernel)
theorem q_1541 : .selects RX11 yX11_whose yX11_whose ∈ gW := gW_in (i := 1541) (by decide +kernel) (by decide +kernel)
theorem q_1542 : .code yX11_whose cX11_whose 4 (some .int) ∈ gW := gW_in (i := 1542) (by decide +kernel) (by decide +kernel)
theorem q_1543 : .methodLink RL 117 yX11_byTurns ∈ gW := gW_in (i := 1543) (by decide +kernel) (by decide +kernel)
theorem q_1544 : .instanceMethod yX11_byTurns ∈ gW := gW_in (i := 1544) (by decide +kernel) (by decide +kernel)
theorem q_1545 : .selects RX11 yX11_byTurns yX11_byTurns ∈ gW := gW_in (i := 1545) (by decide +kernel) (by decide +kernel)
theorem q_1546 : .code yX11_byTurns cX11_byTurns 9 (some .int) ∈ gW := gW_in (i := 1546) (by decide +kernel) (by decide +kernel)
theorem q_1551 : .methodLink RL 121 yX11_loudest ∈ gW := gW_in (i := 1551) (by decide +kernel) (by decide +kernel)
theorem q_1552 : .instanceMethod yX11_loudest ∈ gW := gW_in (i := 1552) (by decide +kernel) (by decide +kernel)
theorem q_1553 : .selects RX11 yX11_loudest yX11_loudest ∈ gW := gW_in (i := 1553) (by decide +kernel) (by decide +kernel)
theorem q_1554 : .code yX11_loudest cX11_loudest 7 (some .int) ∈ gW := gW_in (i := 1554) (by decide +kernel) (by decide +kernel)
theorem q_1555 : .methodLink RL 125 yX11_drawn ∈ gW := gW_in (i := 1555) (by decide +kernel) (by decide +kernel)
theorem q_1556 : .instanceMethod yX11_drawn ∈ gW := gW_in (i := 1556) (by decide +kernel) (by decide +kernel)
theorem q_1557 : .selects RX11 yX11_drawn yX11_drawn ∈ gW := gW_in (i := 1557) (by decide +kernel) (by decide +kernel)
theorem q_1558 : .code yX11_drawn cX11_drawn 10 (some .int) ∈ gW := gW_in (i := 1558) (by decide +kernel) (by decide +kernel)
theorem q_1560 : .methodLink RL 129 yX11_passes ∈ gW := gW_in (i := 1560) (by decide +kernel) (by decide +kernel)
theorem q_1561 : .instanceMethod yX11_passes ∈ gW := gW_in (i := 1561) (by decide +kernel) (by decide +kernel)
theorem q_1562 : .selects RX11 yX11_passes yX11_passes ∈ gW := gW_in (i := 1562) (by decide +kernel) (by decide +kernel)
theorem q_1563 : .code yX11_passes cX11_passes 1 (some .int) ∈ gW := gW_in (i := 1563) (by decide +kernel) (by decide +kernel)
theorem q_1564 : .methodLink RL 133 yX11_vow ∈ gW := gW_in (i := 1564) (by decide +kernel) (by decide +kernel)
theorem q_1565 : .instanceMethod yX11_vow ∈ gW := gW_in (i := 1565) (by decide +kernel) (by decide +kernel)
theorem q_1566 : .selects RX11 yX11_vow yX11_vow ∈ gW := gW_in (i := 1566) (by decide +kernel) (by decide +kernel)
theorem q_1567 : .code yX11_vow cX11_vow 3 (some .int) ∈ gW := gW_in (i := 1567) (by decide +kernel) (by decide +kernel)
theorem q_1568 : .methodLink RL 137 yX11_kept ∈ gW := gW_in (i := 1568) (by decide +kernel) (by decide +kernel)
theorem q_1569 : .instanceMethod yX11_kept ∈ gW := gW_in (i := 1569) (by decide +kernel) (by decide +kernel)
theorem q_1570 : .selects RX11 yX11_kept yX11_kept ∈ gW := gW_in (i := 1570) (by decide +kernel) (by decide +kernel)
theorem q_1571 : .code yX11_kept cX11_kept 4 (some .int) ∈ gW := gW_in (i := 1571) (by decide +kernel) (by decide +kernel)
theorem q_1572 : .methodLink RL 141 yX11_led ∈ gW := gW_in (i := 1572) (by decide +kernel) (by decide +kernel)
theorem q_1573 : .instanceMethod yX11_led ∈ gW := gW_in (i := 1573) (by decide +kernel) (by decide +kernel)
theorem q_1574 : .selects RX11 yX11_led yX11_led ∈ gW := gW_in (i := 1574) (by decide +kernel) (by decide +kernel)
theorem q_1575 : .code yX11_led cX11_led 2 (some .int) ∈ gW := gW_in (i := 1575) (by decide +kernel) (by decide +kernel)
theorem q_1576 : .methodLink RL 145 yX11_image ∈ gW := gW_in (i := 1576) (by decide +kernel) (by decide +kernel)
theorem q_1577 : .instanceMethod yX11_image ∈ gW := gW_in (i := 1577) (by decide +kernel) (by decide +kernel)
theorem q_1578 : .selects RX11 yX11_image yX11_image ∈ gW := gW_in (i := 1578) (by decide +kernel) (by decide +kernel)
theorem q_1579 : .code yX11_image cX11_image 2 (some .int) ∈ gW := gW_in (i := 1579) (by decide +kernel) (by decide +kernel)
theorem q_1580 : .methodLink RL 149 yX11_back ∈ gW := gW_in (i := 1580) (by decide +kernel) (by decide +kernel)
theorem q_1581 : .instanceMethod yX11_back ∈ gW := gW_in (i := 1581) (by decide +kernel) (by decide +kernel)
theorem q_1582 : .selects RX11 yX11_back yX11_back ∈ gW := gW_in (i := 1582) (by decide +kernel) (by decide +kernel)
theorem q_1583 : .code yX11_back cX11_back 2 (some .int) ∈ gW := gW_in (i := 1583) (by decide +kernel) (by decide +kernel)
theorem q_1584 : .methodLink RL 161 yX11_body ∈ gW := gW_in (i := 1584) (by decide +kernel) (by decide +kernel)
theorem q_1585 : .instanceMethod yX11_body ∈ gW := gW_in (i := 1585) (by decide +kernel) (by decide +kernel)
theorem q_1586 : .selects RX11 yX11_body yX11_body ∈ gW := gW_in (i := 1586) (by decide +kernel) (by decide +kernel)
theorem q_1587 : .code yX11_body cX11_body 2 (some .int) ∈ gW := gW_in (i := 1587) (by decide +kernel) (by decide +kernel)
theorem q_1589 : .methodLink RL 165 yX11_act ∈ gW := gW_in (i := 1589) (by decide +kernel) (by decide +kernel)
theorem q_1590 : .instanceMethod yX11_act ∈ gW := gW_in (i := 1590) (by decide +kernel) (by decide +kernel)
theorem q_1591 : .selects RX11 yX11_act yX11_act ∈ gW := gW_in (i := 1591) (by decide +kernel) (by decide +kernel)
theorem q_1592 : .code yX11_act cX11_act 4 (some .int) ∈ gW := gW_in (i := 1592) (by decide +kernel) (by decide +kernel)
theorem q_1617 : .methodLink RL 169 yX11_trace ∈ gW := gW_in (i := 1617) (by decide +kernel) (by decide +kernel)
theorem q_1618 : .instanceMethod yX11_trace ∈ gW := gW_in (i := 1618) (by decide +kernel) (by decide +kernel)
theorem q_1619 : .selects RX11 yX11_trace yX11_trace ∈ gW := gW_in (i := 1619) (by decide +kernel) (by decide +kernel)
theorem q_1620 : .code yX11_trace cX11_trace 2 (some .int) ∈ gW := gW_in (i := 1620) (by decide +kernel) (by decide +kernel)
theorem q_1621 : .methodLink RL 173 yX11_keep ∈ gW := gW_in (i := 1621) (by decide +kernel) (by decide +kernel)
theorem q_1622 : .instanceMethod yX11_keep ∈ gW := gW_in (i := 1622) (by decide +kernel) (by decide +kernel)
theorem q_1623 : .selects RX11 yX11_keep yX11_keep ∈ gW := gW_in (i := 1623) (by decide +kernel) (by decide +kernel)
theorem q_1624 : .code yX11_keep cX11_keep 3 (some .int) ∈ gW := gW_in (i := 1624) (by decide +kernel) (by decide +kernel)
theorem q_1625 : .methodLink RL 177 yX11_row ∈ gW := gW_in (i := 1625) (by decide +kernel) (by decide +kernel)
theorem q_1626 : .instanceMethod yX11_row ∈ gW := gW_in (i := 1626) (by decide +kernel) (by decide +kernel)
theorem q_1627 : .selects RX11 yX11_row yX11_row ∈ gW := gW_in (i := 1627) (by decide +kernel) (by decide +kernel)
theorem q_1628 : .code yX11_row cX11_row 5 (some .int) ∈ gW := gW_in (i := 1628) (by decide +kernel) (by decide +kernel)
theorem q_1630 : .methodLink RL 184 yX11_put ∈ gW := gW_in (i := 1630) (by decide +kernel) (by decide +kernel)
theorem q_1631 : .instanceMethod yX11_put ∈ gW := gW_in (i := 1631) (by decide +kernel) (by decide +kernel)
theorem q_1632 : .selects RX11 yX11_put yX11_put ∈ gW := gW_in (i := 1632) (by decide +kernel) (by decide +kernel)
theorem q_1633 : .code yX11_put cX11_put 6 (some .int) ∈ gW := gW_in (i := 1633) (by decide +kernel) (by decide +kernel)
theorem q_1641 : .methodLink RL 189 yX11_element ∈ gW := gW_in (i := 1641) (by decide +kernel) (by decide +kernel)
theorem q_1642 : .instanceMethod yX11_element ∈ gW := gW_in (i := 1642) (by decide +kernel) (by decide +kernel)
theorem q_1643 : .selects RX11 yX11_element yX11_element ∈ gW := gW_in (i := 1643) (by decide +kernel) (by decide +kernel)
theorem q_1644 : .code yX11_element cX11_element 3 (some .long) ∈ gW := gW_in (i := 1644) (by decide +kernel) (by decide +kernel)
theorem q_1646 : .methodLink RL 194 yX11_shift ∈ gW := gW_in (i := 1646) (by decide +kernel) (by decide +kernel)
theorem q_1647 : .instanceMethod yX11_shift ∈ gW := gW_in (i := 1647) (by decide +kernel) (by decide +kernel)
theorem q_1648 : .selects RX11 yX11_shift yX11_shift ∈ gW := gW_in (i := 1648) (by decide +kernel) (by decide +kernel)
theorem q_1649 : .code yX11_shift cX11_shift 7 (some .int) ∈ gW := gW_in (i := 1649) (by decide +kernel) (by decide +kernel)
theorem q_1650 : .methodLink RL 198 yX11_taken ∈ gW := gW_in (i := 1650) (by decide +kernel) (by decide +kernel)
theorem q_1651 : .instanceMethod yX11_taken ∈ gW := gW_in (i := 1651) (by decide +kernel) (by decide +kernel)
theorem q_1652 : .selects RX11 yX11_taken yX11_taken ∈ gW := gW_in (i := 1652) (by decide +kernel) (by decide +kernel)
theorem q_1653 : .code yX11_taken cX11_taken 4 (some .int) ∈ gW := gW_in (i := 1653) (by decide +kernel) (by decide +kernel)
theorem q_1661 : .methodLink RL 202 yX11_count ∈ gW := gW_in (i := 1661) (by decide +kernel) (by decide +kernel)
theorem q_1662 : .instanceMethod yX11_count ∈ gW := gW_in (i := 1662) (by decide +kernel) (by decide +kernel)
theorem q_1663 : .selects RX11 yX11_count yX11_count ∈ gW := gW_in (i := 1663) (by decide +kernel) (by decide +kernel)
theorem q_1664 : .code yX11_count cX11_count 2 (some .int) ∈ gW := gW_in (i := 1664) (by decide +kernel) (by decide +kernel)
theorem q_1665 : .constantLong RL 178 (4294967295) ∈ gW := gW_in (i := 1665) (by decide +kernel) (by decide +kernel)
theorem lk_L_13 : LkV RL 13 yX10_person cX10_person 3 (some .int) 2 := ⟨⟨q_409, q_78, q_406, q_407, q_408⟩, ⟨by decide, by decide, by decide +kernel⟩⟩
theorem lk_L_17 : LkV RL 17 yX11_person cX11_person 3 (some .int) 2 := ⟨⟨q_1280, q_90, q_1277, q_1278, q_1279⟩, ⟨by decide, by decide, by decide +kernel⟩⟩
theorem lk_L_18 : LkV RL 18 yX10_promise cX10_promise 3 (some .int) 2 := ⟨⟨q_420, q_78, q_417, q_418, q_419⟩, ⟨by decide, by decide, by decide +kernel⟩⟩
theorem lk_L_21 : LkV RL 21 yX11_promise cX11_promise 3 (some .int) 2 := ⟨⟨q_1289, q_90, q_1286, q_1287, q_1288⟩, ⟨by decide, by decide, by decide +kernel⟩⟩
theorem lk_L_22 : LkV RL 22 yX10_promises cX10_promises 5 (some .int) 3 := ⟨⟨q_444, q_78, q_441, q_442, q_443⟩, ⟨by decide, by decide, by decide +kernel⟩⟩
theorem lk_L_26 : LkV RL 26 yX11_promises cX11_promises 7 (some .int) 3 := ⟨⟨q_1310, q_90, q_1307, q_1308, q_1309⟩, ⟨by decide, by decide, by decide +kernel⟩⟩
theorem lk_L_27 : LkV RL 27 yX10_mend cX10_mend 5 (some .int) 3 := ⟨⟨q_468, q_78, q_465, q_466, q_467⟩, ⟨by decide, by decide, by decide +kernel⟩⟩
theorem lk_L_30 : LkV RL 30 yX11_mend cX11_mend 5 (some .int) 3 := ⟨⟨q_1319, q_90, q_1316, q_1317, q_1318⟩, ⟨by decide, by decide, by decide +kernel⟩⟩
theorem lk_L_31 : LkV RL 31 yX10_of cX10_of 3 (some .int) 2 := ⟨⟨q_508, q_78, q_505, q_506, q_507⟩, ⟨by decide, by decide, by decide +kernel⟩⟩
theorem lk_L_34 : LkV RL 34 yX11_of cX11_of 4 (some .int) 2 := ⟨⟨q_1344, q_90, q_1341, q_1342, q_1343⟩, ⟨by decide, by decide, by decide +kernel⟩⟩
theorem lk_L_35 : LkV RL 35 yX10_feed cX10_feed 2 (some .int) 1 := ⟨⟨q_512, q_78, q_509, q_510, q_511⟩, ⟨by decide, by decide, by decide +kernel⟩⟩
theorem lk_L_39 : LkV RL 39 yX11_feed cX11_feed 2 (some .int) 1 := ⟨⟨q_1348, q_90, q_1345, q_1346, q_1347⟩, ⟨by decide, by decide, by decide +kernel⟩⟩
theorem lk_L_40 : LkV RL 40 yX10_law cX10_law 2 (some .int) 0 := ⟨⟨q_520, q_78, q_517, q_518, q_519⟩, ⟨by decide, by decide, by decide +kernel⟩⟩
theorem lk_L_44 : LkV RL 44 yX11_law cX11_law 4 (some .int) 0 := ⟨⟨q_1353, q_90, q_1350, q_1351, q_1352⟩, ⟨by decide, by decide, by decide +kernel⟩⟩
theorem lk_L_45 : LkV RL 45 yX10_chain cX10_chain 4 (some .int) 3 := ⟨⟨q_574, q_78, q_571, q_572, q_573⟩, ⟨by decide, by decide, by decide +kernel⟩⟩
theorem lk_L_48 : LkV RL 48 yX11_chain cX11_chain 4 (some .int) 3 := ⟨⟨q_1400, q_90, q_1397, q_1398, q_1399⟩, ⟨by decide, by decide, by decide +kernel⟩⟩
theorem lk_L_49 : LkV RL 49 yX10_creak cX10_creak 3 (some .int) 2 := ⟨⟨q_654, q_78, q_651, q_652, q_653⟩, ⟨by decide, by decide, by decide +kernel⟩⟩
theorem lk_L_52 : LkV RL 52 yX11_creak cX11_creak 3 (some .int) 2 := ⟨⟨q_1436, q_90, q_1433, q_1434, q_1435⟩, ⟨by decide, by decide, by decide +kernel⟩⟩
theorem lk_L_53 : LkV RL 53 yX10_rides cX10_rides 4 (some .int) 3 := ⟨⟨q_660, q_78, q_657, q_658, q_659⟩, ⟨by decide, by decide, by decide +kernel⟩⟩
theorem lk_L_56 : LkV RL 56 yX11_rides cX11_rides 6 (some .int) 3 := ⟨⟨q_1440, q_90, q_1437, q_1438, q_1439⟩, ⟨by decide, by decide, by decide +kernel⟩⟩
theorem lk_L_57 : LkV RL 57 yX10_ride cX10_ride 4 (some .int) 2 := ⟨⟨q_687, q_78, q_684, q_685, q_686⟩, ⟨by decide, by decide, by decide +kernel⟩⟩
theorem lk_L_60 : LkV RL 60 yX11_ride cX11_ride 7 (some .int) 2 := ⟨⟨q_1444, q_90, q_1441, q_1442, q_1443⟩, ⟨by decide, by decide, by decide +kernel⟩⟩
theorem lk_L_61 : LkV RL 61 yX10_who cX10_who 2 (some .int) 1 := ⟨⟨q_702, q_78, q_699, q_700, q_701⟩, ⟨by decide, by decide, by decide +kernel⟩⟩
theorem lk_L_64 : LkV RL 64 yX11_who cX11_who 2 (some .int) 1 := ⟨⟨q_1448, q_90, q_1445, q_1446, q_1447⟩, ⟨by decide, by decide, by decide +kernel⟩⟩
theorem lk_L_65 : LkV RL 65 yX10_best cX10_best 3 (some .int) 1 := ⟨⟨q_711, q_78, q_708, q_709, q_710⟩, ⟨by decide, by decide, by decide +kernel⟩⟩
theorem lk_L_68 : LkV RL 68 yX11_best cX11_best 6 (some .int) 1 := ⟨⟨q_1456, q_90, q_1453, q_1454, q_1455⟩, ⟨by decide, by decide, by decide +kernel⟩⟩
theorem lk_L_69 : LkV RL 69 yX10_keepBy cX10_keepBy 5 (some .int) 3 := ⟨⟨q_725, q_78, q_722, q_723, q_724⟩, ⟨by decide, by decide, by decide +kernel⟩⟩
theorem lk_L_72 : LkV RL 72 yX11_keepBy cX11_keepBy 6 (some .int) 3 := ⟨⟨q_1463, q_90, q_1460, q_1461, q_1462⟩, ⟨by decide, by decide, by decide +kernel⟩⟩
theorem lk_L_73 : LkV RL 73 yX10_lightest cX10_lightest 5 (some .int) 3 := ⟨⟨q_759, q_78, q_756, q_757, q_758⟩, ⟨by decide, by decide, by decide +kernel⟩⟩
theorem lk_L_76 : LkV RL 76 yX11_lightest cX11_lightest 7 (some .int) 3 := ⟨⟨q_1482, q_90, q_1479, q_1480, q_1481⟩, ⟨by decide, by decide, by decide +kernel⟩⟩
theorem lk_L_77 : LkV RL 77 yX10_ways cX10_ways 3 (some .int) 2 := ⟨⟨q_773, q_78, q_770, q_771, q_772⟩, ⟨by decide, by decide, by decide +kernel⟩⟩
theorem lk_L_80 : LkV RL 80 yX11_ways cX11_ways 5 (some .int) 2 := ⟨⟨q_1486, q_90, q_1483, q_1484, q_1485⟩, ⟨by decide, by decide, by decide +kernel⟩⟩
theorem lk_L_81 : LkV RL 81 yX10_can cX10_can 3 (some .int) 2 := ⟨⟨q_781, q_78, q_778, q_779, q_780⟩, ⟨by decide, by decide, by decide +kernel⟩⟩
theorem lk_L_84 : LkV RL 84 yX11_can cX11_can 3 (some .int) 2 := ⟨⟨q_1490, q_90, q_1487, q_1488, q_1489⟩, ⟨by decide, by decide, by decide +kernel⟩⟩
theorem lk_L_85 : LkV RL 85 yX10_most cX10_most 4 (some .int) 2 := ⟨⟨q_809, q_78, q_806, q_807, q_808⟩, ⟨by decide, by decide, by decide +kernel⟩⟩
theorem lk_L_88 : LkV RL 88 yX11_most cX11_most 5 (some .int) 2 := ⟨⟨q_1502, q_90, q_1499, q_1500, q_1501⟩, ⟨by decide, by decide, by decide +kernel⟩⟩
theorem lk_L_89 : LkV RL 89 yX10_clashes cX10_clashes 4 (some .int) 2 := ⟨⟨q_818, q_78, q_815, q_816, q_817⟩, ⟨by decide, by decide, by decide +kernel⟩⟩
theorem lk_L_92 : LkV RL 92 yX11_clashes cX11_clashes 6 (some .int) 2 := ⟨⟨q_1506, q_90, q_1503, q_1504, q_1505⟩, ⟨by decide, by decide, by decide +kernel⟩⟩
theorem lk_L_93 : LkV RL 93 yX10_hand cX10_hand 5 (some .int) 2 := ⟨⟨q_834, q_78, q_831, q_832, q_833⟩, ⟨by decide, by decide, by decide +kernel⟩⟩
theorem lk_L_96 : LkV RL 96 yX11_hand cX11_hand 3 (some .int) 2 := ⟨⟨q_1514, q_90, q_1511, q_1512, q_1513⟩, ⟨by decide, by decide, by decide +kernel⟩⟩
theorem lk_L_97 : LkV RL 97 yX10_handBest cX10_handBest 4 (some .int) 2 := ⟨⟨q_845, q_78, q_842, q_843, q_844⟩, ⟨by decide, by decide, by decide +kernel⟩⟩
theorem lk_L_100 : LkV RL 100 yX11_handBest cX11_handBest 8 (some .int) 2 := ⟨⟨q_1522, q_90, q_1519, q_1520, q_1521⟩, ⟨by decide, by decide, by decide +kernel⟩⟩
theorem lk_L_101 : LkV RL 101 yX10_judge cX10_judge 4 (some .int) 2 := ⟨⟨q_857, q_78, q_854, q_855, q_856⟩, ⟨by decide, by decide, by decide +kernel⟩⟩
theorem lk_L_104 : LkV RL 104 yX11_judge cX11_judge 3 (some .int) 2 := ⟨⟨q_1526, q_90, q_1523, q_1524, q_1525⟩, ⟨by decide, by decide, by decide +kernel⟩⟩
theorem lk_L_105 : LkV RL 105 yX10_keptOn cX10_keptOn 5 (some .int) 4 := ⟨⟨q_868, q_78, q_865, q_866, q_867⟩, ⟨by decide, by decide, by decide +kernel⟩⟩
theorem lk_L_109 : LkV RL 109 yX11_keptOn cX11_keptOn 9 (some .int) 4 := ⟨⟨q_1538, q_90, q_1535, q_1536, q_1537⟩, ⟨by decide, by decide, by decide +kernel⟩⟩
theorem lk_L_110 : LkV RL 110 yX10_whose cX10_whose 3 (some .int) 1 := ⟨⟨q_888, q_78, q_885, q_886, q_887⟩, ⟨by decide, by decide, by decide +kernel⟩⟩
theorem lk_L_113 : LkV RL 113 yX11_whose cX11_whose 4 (some .int) 1 := ⟨⟨q_1542, q_90, q_1539, q_1540, q_1541⟩, ⟨by decide, by decide, by decide +kernel⟩⟩
theorem lk_L_114 : LkV RL 114 yX10_byTurns cX10_byTurns 6 (some .int) 3 := ⟨⟨q_897, q_78, q_894, q_895, q_896⟩, ⟨by decide, by decide, by decide +kernel⟩⟩
theorem lk_L_117 : LkV RL 117 yX11_byTurns cX11_byTurns 9 (some .int) 3 := ⟨⟨q_1546, q_90, q_1543, q_1544, q_1545⟩, ⟨by decide, by decide, by decide +kernel⟩⟩
theorem lk_L_118 : LkV RL 118 yX10_loudest cX10_loudest 3 (some .int) 1 := ⟨⟨q_917, q_78, q_914, q_915, q_916⟩, ⟨by decide, by decide, by decide +kernel⟩⟩
theorem lk_L_121 : LkV RL 121 yX11_loudest cX11_loudest 7 (some .int) 1 := ⟨⟨q_1554, q_90, q_1551, q_1552, q_1553⟩, ⟨by decide, by decide, by decide +kernel⟩⟩
theorem lk_L_122 : LkV RL 122 yX10_drawn cX10_drawn 5 (some .int) 4 := ⟨⟨q_930, q_78, q_927, q_928, q_929⟩, ⟨by decide, by decide, by decide +kernel⟩⟩
theorem lk_L_125 : LkV RL 125 yX11_drawn cX11_drawn 10 (some .int) 4 := ⟨⟨q_1558, q_90, q_1555, q_1556, q_1557⟩, ⟨by decide, by decide, by decide +kernel⟩⟩
theorem lk_L_126 : LkV RL 126 yX10_passes cX10_passes 1 (some .int) 0 := ⟨⟨q_943, q_78, q_940, q_941, q_942⟩, ⟨by decide, by decide, by decide +kernel⟩⟩
theorem lk_L_129 : LkV RL 129 yX11_passes cX11_passes 1 (some .int) 0 := ⟨⟨q_1563, q_90, q_1560, q_1561, q_1562⟩, ⟨by decide, by decide, by decide +kernel⟩⟩
theorem lk_L_130 : LkV RL 130 yX10_vow cX10_vow 4 (some .int) 2 := ⟨⟨q_957, q_78, q_954, q_955, q_956⟩, ⟨by decide, by decide, by decide +kernel⟩⟩
theorem lk_L_133 : LkV RL 133 yX11_vow cX11_vow 3 (some .int) 2 := ⟨⟨q_1567, q_90, q_1564, q_1565, q_1566⟩, ⟨by decide, by decide, by decide +kernel⟩⟩
theorem lk_L_134 : LkV RL 134 yX10_kept cX10_kept 2 (some .int) 1 := ⟨⟨q_966, q_78, q_963, q_964, q_965⟩, ⟨by decide, by decide, by decide +kernel⟩⟩
theorem lk_L_137 : LkV RL 137 yX11_kept cX11_kept 4 (some .int) 1 := ⟨⟨q_1571, q_90, q_1568, q_1569, q_1570⟩, ⟨by decide, by decide, by decide +kernel⟩⟩
theorem lk_L_138 : LkV RL 138 yX10_led cX10_led 2 (some .int) 1 := ⟨⟨q_976, q_78, q_973, q_974, q_975⟩, ⟨by decide, by decide, by decide +kernel⟩⟩
theorem lk_L_141 : LkV RL 141 yX11_led cX11_led 2 (some .int) 1 := ⟨⟨q_1575, q_90, q_1572, q_1573, q_1574⟩, ⟨by decide, by decide, by decide +kernel⟩⟩
theorem lk_L_142 : LkV RL 142 yX10_image cX10_image 1 (some .int) 0 := ⟨⟨q_980, q_78, q_977, q_978, q_979⟩, ⟨by decide, by decide, by decide +kernel⟩⟩
theorem lk_L_145 : LkV RL 145 yX11_image cX11_image 2 (some .int) 0 := ⟨⟨q_1579, q_90, q_1576, q_1577, q_1578⟩, ⟨by decide, by decide, by decide +kernel⟩⟩
theorem lk_L_146 : LkV RL 146 yX10_back cX10_back 1 (some .int) 0 := ⟨⟨q_989, q_78, q_986, q_987, q_988⟩, ⟨by decide, by decide, by decide +kernel⟩⟩
theorem lk_L_149 : LkV RL 149 yX11_back cX11_back 2 (some .int) 0 := ⟨⟨q_1583, q_90, q_1580, q_1581, q_1582⟩, ⟨by decide, by decide, by decide +kernel⟩⟩
theorem lk_L_150 : LkV RL 150 yX10_undo cX10_undo 1 (some .int) 0 := ⟨⟨q_997, q_78, q_994, q_995, q_996⟩, ⟨by decide, by decide, by decide +kernel⟩⟩
theorem lk_L_153 : LkV RL 153 yX11_undo cX11_undo 1 (some .int) 0 := ⟨⟨q_1272, q_90, q_1269, q_1270, q_1271⟩, ⟨by decide, by decide, by decide +kernel⟩⟩
theorem lk_L_154 : LkV RL 154 yX10_redo cX10_redo 1 (some .int) 0 := ⟨⟨q_1006, q_78, q_1003, q_1004, q_1005⟩, ⟨by decide, by decide, by decide +kernel⟩⟩
theorem lk_L_157 : LkV RL 157 yX11_redo cX11_redo 1 (some .int) 0 := ⟨⟨q_1276, q_90, q_1273, q_1274, q_1275⟩, ⟨by decide, by decide, by decide +kernel⟩⟩
theorem lk_L_158 : LkV RL 158 yX10_body cX10_body 2 (some .int) 1 := ⟨⟨q_1014, q_78, q_1011, q_1012, q_1013⟩, ⟨by decide, by decide, by decide +kernel⟩⟩
theorem lk_L_161 : LkV RL 161 yX11_body cX11_body 2 (some .int) 1 := ⟨⟨q_1587, q_90, q_1584, q_1585, q_1586⟩, ⟨by decide, by decide, by decide +kernel⟩⟩
theorem lk_L_162 : LkV RL 162 yX10_act cX10_act 4 (some .int) 3 := ⟨⟨q_1022, q_78, q_1019, q_1020, q_1021⟩, ⟨by decide, by decide, by decide +kernel⟩⟩
theorem lk_L_165 : LkV RL 165 yX11_act cX11_act 4 (some .int) 3 := ⟨⟨q_1592, q_90, q_1589, q_1590, q_1591⟩, ⟨by decide, by decide, by decide +kernel⟩⟩
theorem lk_L_166 : LkV RL 166 yX10_trace cX10_trace 2 (some .int) 1 := ⟨⟨q_1058, q_78, q_1055, q_1056, q_1057⟩, ⟨by decide, by decide, by decide +kernel⟩⟩
theorem lk_L_169 : LkV RL 169 yX11_trace cX11_trace 2 (some .int) 1 := ⟨⟨q_1620, q_90, q_1617, q_1618, q_1619⟩, ⟨by decide, by decide, by decide +kernel⟩⟩
theorem lk_L_170 : LkV RL 170 yX10_keep cX10_keep 3 (some .int) 2 := ⟨⟨q_1063, q_78, q_1060, q_1061, q_1062⟩, ⟨by decide, by decide, by decide +kernel⟩⟩
theorem lk_L_173 : LkV RL 173 yX11_keep cX11_keep 3 (some .int) 2 := ⟨⟨q_1624, q_90, q_1621, q_1622, q_1623⟩, ⟨by decide, by decide, by decide +kernel⟩⟩
theorem lk_L_174 : LkV RL 174 yX10_row cX10_row 4 (some .int) 3 := ⟨⟨q_1076, q_78, q_1073, q_1074, q_1075⟩, ⟨by decide, by decide, by decide +kernel⟩⟩
theorem lk_L_177 : LkV RL 177 yX11_row cX11_row 5 (some .int) 3 := ⟨⟨q_1628, q_90, q_1625, q_1626, q_1627⟩, ⟨by decide, by decide, by decide +kernel⟩⟩
theorem lk_L_180 : LkV RL 180 yX10_put cX10_put 6 (some .int) 3 := ⟨⟨q_1090, q_78, q_1087, q_1088, q_1089⟩, ⟨by decide, by decide, by decide +kernel⟩⟩
theorem lk_L_184 : LkV RL 184 yX11_put cX11_put 6 (some .int) 3 := ⟨⟨q_1633, q_90, q_1630, q_1631, q_1632⟩, ⟨by decide, by decide, by decide +kernel⟩⟩
theorem lk_L_185 : LkV RL 185 yX10_element cX10_element 3 (some .long) 2 := ⟨⟨q_1110, q_78, q_1107, q_1108, q_1109⟩, ⟨by decide, by decide, by decide +kernel⟩⟩
theorem lk_L_189 : LkV RL 189 yX11_element cX11_element 3 (some .long) 2 := ⟨⟨q_1644, q_90, q_1641, q_1642, q_1643⟩, ⟨by decide, by decide, by decide +kernel⟩⟩
theorem lk_L_190 : LkV RL 190 yX10_shift cX10_shift 7 (some .int) 5 := ⟨⟨q_1115, q_78, q_1112, q_1113, q_1114⟩, ⟨by decide, by decide, by decide +kernel⟩⟩
theorem lk_L_194 : LkV RL 194 yX11_shift cX11_shift 7 (some .int) 5 := ⟨⟨q_1649, q_90, q_1646, q_1647, q_1648⟩, ⟨by decide, by decide, by decide +kernel⟩⟩
theorem lk_L_195 : LkV RL 195 yX10_taken cX10_taken 5 (some .int) 2 := ⟨⟨q_1128, q_78, q_1125, q_1126, q_1127⟩, ⟨by decide, by decide, by decide +kernel⟩⟩
theorem lk_L_198 : LkV RL 198 yX11_taken cX11_taken 4 (some .int) 2 := ⟨⟨q_1653, q_90, q_1650, q_1651, q_1652⟩, ⟨by decide, by decide, by decide +kernel⟩⟩
theorem lk_L_199 : LkV RL 199 yX10_count cX10_count 2 (some .int) 1 := ⟨⟨q_1144, q_78, q_1141, q_1142, q_1143⟩, ⟨by decide, by decide, by decide +kernel⟩⟩
theorem lk_L_202 : LkV RL 202 yX11_count cX11_count 2 (some .int) 1 := ⟨⟨q_1664, q_90, q_1661, q_1662, q_1663⟩, ⟨by decide, by decide, by decide +kernel⟩⟩
theorem li_L_9 : LkI RL 9 yX10_init cX10_init 1 0 := ⟨⟨q_98, q_78, q_96, q_97⟩, ⟨by decide, by decide, by decide +kernel⟩, rfl⟩
theorem li_L_12 : LkI RL 12 yX11_init cX11_init 2 0 := ⟨⟨q_1149, q_90, q_1147, q_1148⟩, ⟨by decide, by decide, by decide +kernel⟩, rfl⟩