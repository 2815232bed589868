/-- the greatest set that can be done -/
noncomputable def bst (T : St) (Q O : Nat) : Nat → Nat
  | 0 => 0
  | j + 1 => if nI j &&& (nI O ^^^ -1) = 0 ∧ hB T Q j = true ∧ pop (bst T Q O j) < pop j then j else bst T Q O j
theorem bst_s (T : St) (Q O j : Nat) : bst T Q O (j + 1) = if nI j &&& (nI O ^^^ -1) = 0 ∧ hB T Q j = true ∧ pop (bst T Q O j) < pop j then j else bst T Q O j := rfl
theorem bst_le (T : St) (Q O : Nat) : ∀ j, bst T Q O j ≤ j
  | 0 => Nat.le_refl _
  | j + 1 => by
    have := bst_le T Q O j
    rw [bst_s]; split <;> omega
theorem bst_1 (T : St) (Q O : Nat) : bst T Q O 1 = 0 := by
  rw [bst_s]; split <;> rfl
theorem bst_ext {T : St} {Q O : Nat} (hO : O < 1024) : ∀ m, O + 1 + m ≤ 1024 → bst T Q O (O + 1 + m) = bst T Q O (O + 1)
  | 0, _ => rfl
  | m + 1, h => by
    have e : bst T Q O (O + 1 + m + 1) = _ := bst_s T Q O (O + 1 + m)
    have nw : ¬ (nI (O + 1 + m) &&& (nI O ^^^ -1) = 0 ∧ hB T Q (O + 1 + m) = true ∧ pop (bst T Q O (O + 1 + m)) < pop (O + 1 + m)) := fun q => by
      have := sub_le (s := O + 1 + m) (O := O) (by omega) hO q.1
      omega
    show bst T Q O (O + 1 + m + 1) = _
    rw [e, if_neg nw]
    exact bst_ext hO m (by omega)
theorem great_S {S T : St} {P Q N O : Nat} (hC : Core S T) (hNn : iN T P Q) (hPr : iPr T P Q) (hO : O < 2 ^ Q) (hN : 1100 < N) : ∃ S', Wk_greatestSet N S (nI O) = some (nI (bst T Q O (O + 1)), S') ∧ Core S' T := by
  have hQ10 := hNn.2.2.2
  have hO10 : O < 1024 := Nat.lt_of_lt_of_le hO (pow_le hQ10)
  obtain ⟨S', s1, s2, s3⟩ := fill_S (N := N) (O := O) hC hNn hPr hO hN
  refine ⟨S', ?_, s2⟩
  unfold Wk_greatestSet Wk_greatestSet_L9
  rw [s1, bd1_some]
  refine lp_run (fun j => (nI (bst T Q O j), nI j)) (O + 1) (fun k => ?_) N 0 (by omega) (by omega) (fun j _ hj k => ?_)
  · dsimp only
    unfold Wk_greatestSet_b9
    rw [if_pos (show nI O < nI (O + 1) by rw [lt_nI _ _ (by omega) (by omega)]; omega)]
  · dsimp only
    have nlt : ¬ nI O < nI j := by rw [lt_nI _ _ (by omega) (by omega)]; omega
    have hbl := bst_le T Q O j
    have e := bst_s T Q O j
    have p1 := pop_le j
    have p2 := pop_le (bst T Q O j)
    rw [e]
    unfold Wk_greatestSet_b9
    rw [if_neg nlt, isSet_eq S' (by omega), bd1_some, if_neg (by decide : ¬ (1 : Int32) = 0)]
    by_cases hw : nI j &&& (nI O ^^^ -1) = 0
    · rw [if_pos hw, inb_nI (j := j) (n := 1024) (by omega) (by omega), ck_true, cl j (by omega), s3 j (by omega) hw, In_bitCount_eq S' (by omega), In_bitCount_eq S' (show bst T Q O j < 1024 by omega), bd1_some, bd1_some, if_bI]
      simp only [nm_eq, nI_1]
      by_cases q : hB T Q j = true
      · rw [if_pos q]
        by_cases c : pop j ≤ pop (bst T Q O j)
        · rw [if_pos (show nI (pop j) ≤ nI (pop (bst T Q O j)) by rw [le_nI _ _ (by omega) (by omega)]; exact c), if_neg (fun h => by omega)]
        · rw [if_neg (show ¬ nI (pop j) ≤ nI (pop (bst T Q O j)) by rw [le_nI _ _ (by omega) (by omega)]; exact c), if_pos ⟨hw, q, by omega⟩]
      · rw [if_neg q, if_neg (fun h => q h.2.1)]
    · rw [if_neg hw, if_neg (fun h => hw h.1), nm_eq, nI_1]
theorem most_V {V T : St} {P Q N : Nat} (hM : MP V T P Q) (o w : Int32) (hN : 1100 < N) : ∃ V', Mo_most_L26 N o w (V, 0, 1) = some (if w = 0 then nI (pop (bst T Q (prO T Q o) (2 ^ Q))) else nI (bst T Q (prO T Q o) (2 ^ Q)), V') ∧ OfM V V' := by
  have hNn := hM.2.1
  have hQ10 := hNn.2.2.2
  have hp := pow_le hQ10
  have hp0 := Nat.two_pow_pos Q
  have hOl : prO T Q o < 2 ^ Q := prO_lt o
  unfold Mo_most_L26
  have hs : ∀ j (x : St × Int32 × Int32), j < 2 ^ Q → (fun j (x : St × Int32 × Int32) => ∃ Vj, x = (Vj, nI (bst T Q (prO T Q o) j), nI j) ∧ OfM V Vj) j x → ∃ x', (∀ k, (fun k (x : St × Int32 × Int32) => Mo_most_b26 N k x.1 o w x.2.1 x.2.2) k x = k x') ∧ (fun j (x : St × Int32 × Int32) => ∃ Vj, x = (Vj, nI (bst T Q (prO T Q o) j), nI j) ∧ OfM V Vj) (j + 1) x' := by
    rintro j x hj ⟨Vj, rfl, h1⟩
    have hMj := MP.of h1 hM
    have nle : ¬ nI (2 ^ Q) ≤ nI j := by rw [le_nI _ _ (by omega) (by omega)]; omega
    have e := bst_s T Q (prO T Q o) j
    have hbl := bst_le T Q (prO T Q o) j
    have hal := allOf_V (N := N) hMj o (by omega)
    dsimp only
    rw [e]
    generalize prO T Q o = O at *
    have p1 := pop_le j
    have p2 := pop_le (bst T Q O j)
    obtain ⟨V2, v1, v2⟩ := able_V (N := N) (s := j) hMj (by omega) (by omega)
    have hd : ∀ k, Mo_most_b26 N k Vj o w (nI (bst T Q O j)) (nI j) = if nI j &&& (nI O ^^^ -1) = 0 then (if nI (pop j) ≤ nI (pop (bst T Q O j)) then k (Vj, nI (bst T Q O j), nI (j + 1)) else (if hB T Q j = true then k (V2, nI j, nI (j + 1)) else k (V2, nI (bst T Q O j), nI (j + 1)))) else k (Vj, nI (bst T Q O j), nI (j + 1)) := by
      intro k
      unfold Mo_most_b26
      rw [(hMj.1.pq hNn).2, pow_Q Q hQ10, if_neg nle, hal, bd1_some, Mo_bitsOf_eq Vj (by omega) (by omega), bd1_some, Mo_bitsOf_eq Vj (show bst T Q O j < 1024 by omega) (by omega), bd1_some, v1, bd2_some, if_bI]
      simp only [nm_eq, nI_1]
    by_cases hw : nI j &&& (nI O ^^^ -1) = 0
    · by_cases c : pop j ≤ pop (bst T Q O j)
      · refine ⟨(Vj, nI (bst T Q O j), nI (j + 1)), fun k => ?_, Vj, ?_, h1⟩
        · try dsimp only
          rw [hd, if_pos hw, if_pos (show nI (pop j) ≤ nI (pop (bst T Q O j)) by rw [le_nI _ _ (by omega) (by omega)]; exact c)]
        · rw [if_neg (fun h => by omega)]
      · have c' : ¬ nI (pop j) ≤ nI (pop (bst T Q O j)) := by rw [le_nI _ _ (by omega) (by omega)]; exact c
        by_cases q : hB T Q j = true
        · refine ⟨(V2, nI j, nI (j + 1)), fun k => ?_, V2, ?_, h1.trans v2⟩
          · try dsimp only
            rw [hd, if_pos hw, if_neg c', if_pos q]
          · rw [if_pos ⟨hw, q, by omega⟩]
        · refine ⟨(V2, nI (bst T Q O j), nI (j + 1)), fun k => ?_, V2, ?_, h1.trans v2⟩
          · try dsimp only
            rw [hd, if_pos hw, if_neg c', if_neg q]
          · rw [if_neg (fun h => q h.2.1)]
    · refine ⟨(Vj, nI (bst T Q O j), nI (j + 1)), fun k => ?_, Vj, ?_, h1⟩
      · try dsimp only
        rw [hd, if_neg hw]
      · rw [if_neg (fun h => hw h.1)]
  obtain ⟨x, k, e, Vj, rfl, h1⟩ := lp_go _ (2 ^ Q) hs N 1 (V, 0, 1) (by omega) (by omega) ⟨V, by rw [bst_1]; rfl, OfM.refl V⟩
  have hbl : bst T Q (prO T Q o) (2 ^ Q) < 1024 := by
    obtain ⟨m, hm⟩ : ∃ m, 2 ^ Q = prO T Q o + 1 + m := ⟨2 ^ Q - (prO T Q o + 1), by omega⟩
    rw [hm, bst_ext (by omega) m (by omega)]
    have := bst_le T Q (prO T Q o) (prO T Q o + 1)
    by_cases z : bst T Q (prO T Q o) (prO T Q o + 1) = 1024
    · have z2 := bst_s T Q (prO T Q o) (prO T Q o)
      have z3 := bst_le T Q (prO T Q o) (prO T Q o)
      rw [z2] at z
      split at z <;> omega
    · omega
  refine ⟨Vj, ?_, h1⟩
  rw [e]
  dsimp only
  unfold Mo_most_b26
  rw [((MP.of h1 hM).1.pq hNn).2, pow_Q Q hQ10, if_pos (Int32.le_refl _), Mo_bitsOf_eq Vj hbl (by omega), bd1_some]
  split <;> rfl
theorem RR_most : LS_most RR := by
  rintro S V p1 p2 hRR
  have hRR' := hRR
  obtain ⟨T, P, Q, F, c, a, B, hC, hR⟩ := hRR
  have hR' := hR
  obtain ⟨hN, hPe, hPr, hP, -⟩ := hR'
  have hQ10 := hN.2.2.2
  have hM : MP V T P Q := ⟨hP, hN, hPe, hPr⟩
  have hOl : prO T Q p1 < 2 ^ Q := prO_lt p1
  have hp := pow_le hQ10
  unfold Ch_most Mo_most
  simp only [Sm_isOne_eq hC hN, Mo_isOne_eq hP hN, Ch_isEither_eq, Mo_within_eq, bd1_some, if_bI, Int32.toInt_toInt64, tI0, tI1]
  by_cases h1 : wi p1.toInt 0 ((P : Int) - 1) = true
  · rw [if_pos h1, if_pos h1]
    by_cases h2 : wi p2.toInt 0 1 = true
    · rw [if_pos h2, if_pos h2, show Sm_promisesOf fuel S p1 = some (nI (prO T Q p1)) from Sm_promisesOf_eq hC hN p1 (by decide), bd1_some]
      obtain ⟨S', s1, s2⟩ := great_S (N := fuel) hC hN hPr hOl (by decide)
      obtain ⟨V', v1, v2⟩ := most_V (N := fuel) hM p1 p2 (by decide)
      have eb : bst T Q (prO T Q p1) (2 ^ Q) = bst T Q (prO T Q p1) (prO T Q p1 + 1) := by
        obtain ⟨m, hm⟩ : ∃ m, 2 ^ Q = prO T Q p1 + 1 + m := ⟨2 ^ Q - (prO T Q p1 + 1), by omega⟩
        rw [hm, bst_ext (by omega) m (by omega)]
      have hbl : bst T Q (prO T Q p1) (prO T Q p1 + 1) < 1024 := by
        have z2 := bst_s T Q (prO T Q p1) (prO T Q p1)
        have z3 := bst_le T Q (prO T Q p1) (prO T Q p1)
        rw [z2]; split <;> omega
      rw [s1, v1, bd2_some, In_bitCount_eq S' hbl, bd1_some, eb]
      rcases wi_01 h2 with rfl | rfl
      · rw [if_neg (by decide : ¬ (0 : Int32) = 1), if_pos (rfl : (0 : Int32) = 0)]
        exact ⟨_, _, _, rfl, rfl, T, P, Q, F, c, a, B, s2, v2.RLk hR⟩
      · rw [if_pos (rfl : (1 : Int32) = 1), if_neg (by decide : ¬ (1 : Int32) = 0)]
        exact ⟨_, _, _, rfl, rfl, T, P, Q, F, c, a, B, s2, v2.RLk hR⟩
    · rw [if_neg h2, if_neg h2]; exact ⟨_, _, _, rfl, rfl, hRR'⟩
  · rw [if_neg h1, if_neg h1]; exact ⟨_, _, _, rfl, rfl, hRR'⟩
