theorem clashes_V {V T : St} {P Q N : Nat} (hM : MP V T P Q) (o w : Int32) (hN : 1100 < N) : ∃ V', Mo_clashes_L30 N o w (V, 0, -2, 1) = some (if w = 0 then nI (cN (fC T Q (prO T Q o)) (2 ^ Q)) else lq (fC T Q (prO T Q o)) (2 ^ Q), V') ∧ OfM V V' := by
  have hNn := hM.2.1
  have hQ10 := hNn.2.2.2
  have hp := pow_le hQ10
  have hp0 := Nat.two_pow_pos Q
  unfold Mo_clashes_L30
  have hs : ∀ j (x : St × Int32 × Int32 × Int32), j < 2 ^ Q → (fun j (x : St × Int32 × Int32 × Int32) => ∃ Vj, x = (Vj, nI (cN (fC T Q (prO T Q o)) j), lq (fC T Q (prO T Q o)) j, nI j) ∧ OfM V Vj) j x → ∃ x', (∀ k, (fun k (x : St × Int32 × Int32 × Int32) => Mo_clashes_b30 N k x.1 o w x.2.1 x.2.2.1 x.2.2.2) k x = k x') ∧ (fun j (x : St × Int32 × Int32 × Int32) => ∃ Vj, x = (Vj, nI (cN (fC T Q (prO T Q o)) j), lq (fC T Q (prO T Q o)) j, nI j) ∧ OfM V Vj) (j + 1) x' := by
    rintro j x hj ⟨Vj, rfl, h1⟩
    have hMj := MP.of h1 hM
    have nle : ¬ nI (2 ^ Q) ≤ nI j := by rw [le_nI _ _ (by omega) (by omega)]; omega
    have hal := allOf_V (N := N) hMj o (by omega)
    have ec : cN (fC T Q (prO T Q o)) (j + 1) = if fC T Q (prO T Q o) j = true then cN (fC T Q (prO T Q o)) j + 1 else cN (fC T Q (prO T Q o)) j := rfl
    have el : lq (fC T Q (prO T Q o)) (j + 1) = if fC T Q (prO T Q o) j = true then (if cN (fC T Q (prO T Q o)) j = 0 then nI j else lq (fC T Q (prO T Q o)) j) else lq (fC T Q (prO T Q o)) j := rfl
    have cle := cN_le (fC T Q (prO T Q o)) j
    dsimp only
    rw [ec, el]
    have ef : fC T Q (prO T Q o) j = (decide (nI j &&& (nI (prO T Q o) ^^^ -1) = 0) && clB T Q j) := rfl
    generalize cN (fC T Q (prO T Q o)) j = C at *
    generalize lq (fC T Q (prO T Q o)) j = L at *
    generalize fC T Q (prO T Q o) j = f at *
    generalize prO T Q o = O at *
    obtain ⟨V2, v1, v2⟩ := isClash_V (N := N) (n := j) hMj (by omega) (by omega)
    by_cases hw : nI j &&& (nI O ^^^ -1) = 0
    · rw [decide_eq_true hw, Bool.true_and] at ef
      refine ⟨(V2, nI (if f = true then C + 1 else C), (if f = true then (if C = 0 then nI j else L) else L), nI (j + 1)), fun k => ?_, V2, rfl, h1.trans v2⟩
      unfold Mo_clashes_b30
      rw [(hMj.1.pq hNn).2, pow_Q Q hQ10, if_neg nle, hal, bd1_some, if_pos hw, v1, bd2_some, if_bI, ← ef]
      simp only [nm_eq, nI_1]
      by_cases c : f = true
      · rw [if_pos c, if_pos c, if_pos c]
        by_cases c0 : C = 0
        · rw [if_pos c0, if_pos (show nI C = 0 by rw [c0]; rfl)]
        · rw [if_neg c0, if_neg (show ¬ nI C = 0 by show ¬ nI C = nI 0; rw [eq_nI _ _ (by omega) (by omega)]; exact c0)]
      · rw [if_neg c, if_neg c, if_neg c]
    · rw [decide_eq_false hw, Bool.false_and] at ef
      have c : ¬ f = true := by rw [ef]; decide
      refine ⟨(Vj, nI C, L, nI (j + 1)), fun k => ?_, Vj, by rw [if_neg c, if_neg c], h1⟩
      unfold Mo_clashes_b30
      rw [(hMj.1.pq hNn).2, pow_Q Q hQ10, if_neg nle, hal, bd1_some, if_neg hw, nm_eq, nI_1]
  have e1 := lq_ext (fC T Q (prO T Q o)) 0 1 (fun i _ hi => by rw [show i = 0 by omega]; exact fC_0 T Q _)
  rw [Nat.zero_add] at e1
  obtain ⟨x, k, e, Vj, rfl, h1⟩ := lp_go _ (2 ^ Q) hs N 1 (V, 0, -2, 1) (by omega) (by omega) ⟨V, by rw [e1.1, e1.2]; rfl, OfM.refl V⟩
  refine ⟨Vj, ?_, h1⟩
  rw [e]
  dsimp only
  unfold Mo_clashes_b30
  rw [((MP.of h1 hM).1.pq hNn).2, pow_Q Q hQ10, if_pos (Int32.le_refl _)]
  split <;> rfl
theorem RR_clashes : LS_clashes RR := by
  rintro S V p1 p2 hRR
  have hRR' := hRR
  obtain ⟨T, P, Q, F, c, a, B, hC, hR⟩ := hRR
  have hR' := hR
  obtain ⟨hN, hPe, hPr, hP, -⟩ := hR'
  have hQ10 := hN.2.2.2
  have hM : MP V T P Q := ⟨hP, hN, hPe, hPr⟩
  have hOl : prO T Q p1 < 2 ^ Q := prO_lt p1
  have hp := pow_le hQ10
  unfold Ch_clashes Mo_clashes
  simp only [Sm_isOne_eq hC hN, Mo_isOne_eq hP hN, Ch_isEither_eq, Mo_within_eq, bd1_some, if_bI, Int32.toInt_toInt64, tI0, tI1]
  by_cases h1 : wi p1.toInt 0 ((P : Int) - 1) = true
  · rw [if_pos h1, if_pos h1]
    by_cases h2 : wi p2.toInt 0 1 = true
    · rw [if_pos h2, if_pos h2, show Sm_promisesOf fuel S p1 = some (nI (prO T Q p1)) from Sm_promisesOf_eq hC hN p1 (by decide), bd1_some]
      obtain ⟨⟨S1, s1, s2⟩, S2, t1, t2⟩ := many2_S (N := fuel) hC hN hPr hOl (by decide)
      obtain ⟨V', v1, v2⟩ := clashes_V (N := fuel) hM p1 p2 (by decide)
      have eb := lq_ext (fC T Q (prO T Q p1)) (prO T Q p1 + 1) (2 ^ Q - (prO T Q p1 + 1)) (fun i hi hi2 => fC_hi (by omega) (by omega) (by omega))
      rw [show prO T Q p1 + 1 + (2 ^ Q - (prO T Q p1 + 1)) = 2 ^ Q by omega] at eb
      rw [s1, t1, v1, bd2_some, bd2_some, eb.1, eb.2]
      by_cases h0 : p2 = 0
      · rw [if_pos h0, if_pos h0]
        exact ⟨_, _, _, rfl, rfl, T, P, Q, F, c, a, B, s2, v2.RLk hR⟩
      · rw [if_neg h0, if_neg h0]
        exact ⟨_, _, _, rfl, rfl, T, P, Q, F, c, a, B, t2, v2.RLk hR⟩
    · rw [if_neg h2, if_neg h2]; exact ⟨_, _, _, rfl, rfl, hRR'⟩
  · rw [if_neg h1, if_neg h1]; exact ⟨_, _, _, rfl, rfl, hRR'⟩
