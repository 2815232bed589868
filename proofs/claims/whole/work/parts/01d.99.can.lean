theorem wth_nI {x : Int32} {O : Nat} (hO : O < 1024) (h : x &&& (nI O ^^^ -1) = 0) : ∃ n, n ≤ O ∧ x = nI n := by
  have h1 := and_not0 _ _ h
  have h2 : x.toBitVec &&& (nI O).toBitVec = x.toBitVec := congrArg Int32.toBitVec h1
  have h3 : (nI O).toBitVec.toNat = O := by show (BitVec.ofNat 32 O).toNat = O; rw [BitVec.toNat_ofNat]; omega
  refine ⟨x.toBitVec.toNat, ?_, ?_⟩
  · rw [← h2, BitVec.toNat_and, h3]; exact Nat.and_le_right
  · apply Int32.toBitVec_inj.mp
    show x.toBitVec = BitVec.ofNat 32 x.toBitVec.toNat
    apply BitVec.eq_of_toNat_eq
    rw [BitVec.toNat_ofNat]; exact (Nat.mod_eq_of_lt x.toBitVec.isLt).symm
/-- whose promises -/
def prO (T : St) (Q : Nat) (o : Int32) : Nat := setU (fun p => decide (gi T 14 p = o)) Q
theorem allOf_V {V T : St} {P Q N : Nat} (hM : MP V T P Q) (o : Int32) (hf : 10 < N) : Mo_allOf N V o = some (nI (prO T Q o)) := by
  have hQ10 := hM.2.1.2.2.2
  have h7 := (hM.1.pq hM.2.1).2
  unfold Mo_allOf Mo_allOf_L4 prO
  refine lp_run (fun j => (nI (setU (fun p => decide (gi T 14 p = o)) j), nI j)) Q (fun k => ?_) N 0 (by omega) (by omega) (fun j _ hj k => ?_)
  · dsimp only; unfold Mo_allOf_b4; rw [h7, if_pos (Int32.le_refl _)]
  · dsimp only
    unfold Mo_allOf_b4
    rw [h7, if_neg (show ¬ nI Q ≤ nI j by rw [le_nI _ _ (by omega) (by omega)]; omega), inb_nI (j := j) (n := 10) (by omega) (by omega), ck_true, cl j (by omega), (hM.1.2.2.2 j (by omega)).1, or_all j (by omega) _ (setU_lt _ j)]
    simp only [nm_eq, nI_1, setU, Int32.or_zero]
    by_cases c : gi T 14 j = o
    · rw [if_pos c, if_pos (decide_eq_true c)]
    · rw [if_neg c, if_neg (show ¬ decide (gi T 14 j = o) = true from fun h => c (of_decide_eq_true h))]; rfl
theorem prO_lt {T : St} {Q : Nat} (o : Int32) : prO T Q o < 2 ^ Q := setU_lt _ Q
theorem powm {Q : Nat} (h : Q ≤ 10) : (nI (2 ^ Q) - 1 : Int32).toInt = (2 : Int) ^ Q - 1 := by
  have h1 := pow_le h
  have h2 := Nat.two_pow_pos Q
  obtain ⟨m, hm⟩ : ∃ m, 2 ^ Q = m + 1 := ⟨2 ^ Q - 1, by omega⟩
  have h3 : ((2 : Int) ^ Q) = ((2 ^ Q : Nat) : Int) := by simp
  rw [h3, hm, nI_1m, ti m (by omega)]; omega
theorem RR_can : LS_can RR := by
  rintro S V p1 p2 hRR
  have hRR' := hRR
  obtain ⟨T, P, Q, F, c, a, B, hC, hR⟩ := hRR
  have hR' := hR
  obtain ⟨hN, hPe, hPr, hP, -⟩ := hR'
  have hQ10 := hN.2.2.2
  have hM : MP V T P Q := ⟨hP, hN, hPe, hPr⟩
  have hOl : prO T Q p1 < 2 ^ Q := prO_lt p1
  have hO : prO T Q p1 < 1024 := Nat.lt_of_lt_of_le hOl (pow_le hQ10)
  unfold Ch_can Mo_can
  rw [Sm_isOne_eq hC hN, Mo_isOne_eq hP hN, bd1_some, bd1_some, if_bI, if_bI, Int32.toInt_toInt64]
  by_cases h1 : wi p1.toInt 0 ((P : Int) - 1) = true
  · rw [if_pos h1, if_pos h1, show Sm_promisesOf fuel S p1 = some (nI (prO T Q p1)) from Sm_promisesOf_eq hC hN p1 (by decide), bd1_some, allOf_V hM p1 (by decide), bd1_some, (hP.pq hN).2, pow_Q Q hQ10, Mo_within_eq, bd1_some, if_bI, Int32.toInt_toInt64, Int32.toInt_toInt64, powm hQ10]
    generalize prO T Q p1 = O at *
    by_cases h2 : p2 &&& (nI O ^^^ -1) = 0
    · obtain ⟨n, hn, rfl⟩ := wth_nI hO h2
      rw [if_pos h2, if_pos h2]
      have hw : wi (nI n).toInt (Int64.toInt 0) ((2 : Int) ^ Q - 1) = true := by
        have h0 : Int64.toInt 0 = 0 := rfl
        have h3 : ((2 : Int) ^ Q) = ((2 ^ Q : Nat) : Int) := by simp
        rw [h0, wi_t, ti n (by omega), h3]; omega
      rw [if_pos hw]
      obtain ⟨V', v1, v2⟩ := able_V (N := fuel) hM (s := n) (by omega) (by decide)
      have hn2 : n < 2 ^ Q := by omega
      obtain ⟨S', s1, s2, s3⟩ := fill_S (N := fuel) (O := n) hC hN hPr hn2 (by decide)
      have hself : wth n n := by
        unfold wth
        have : ∀ n, n < 1024 → nI n &&& (nI n ^^^ -1) = 0 := by decide +kernel
        exact this n (by omega)
      unfold Wk_canAll
      rw [s1, bd1_some, isSet_eq S' (by omega), bd1_some, if_neg (by decide : ¬ (1 : Int32) = 0), inb_nI (j := n) (n := 1024) (by omega) (by omega), ck_true, cl n (by omega), s3 n (Nat.le_refl n) hself, v1, bd2_some]
      refine ⟨bI (hB T Q n), S', V', ?_, ?_, T, P, Q, F, c, a, B, s2, v2.RLk hR⟩
      · cases hB T Q n <;> rfl
      · cases hB T Q n <;> rfl
    · rw [if_neg h2, if_neg h2]
      refine ⟨_, _, _, rfl, ?_, hRR'⟩
      split <;> rfl
  · rw [if_neg h1, if_neg h1]; exact ⟨_, _, _, rfl, rfl, hRR'⟩
