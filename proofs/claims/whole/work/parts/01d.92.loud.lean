/-- how loud all creak on a day -/
def saN (o : Option (List Li)) (T : St) (Q d : Nat) : Nat → Nat
  | 0 => 0
  | j + 1 => saN o T Q d j + (ckv o T Q j (nI d)).toNatClampNeg
theorem ck_nat (o : Option (List Li)) (T : St) (Q p : Nat) (d : Int32) : ckv o T Q p d = nI (ckv o T Q p d).toNatClampNeg ∧ (ckv o T Q p d).toNatClampNeg ≤ 99 := by
  have h := ck_rng o T Q p d
  obtain ⟨e, e2⟩ := i32_nI h.1
  exact ⟨e, by omega⟩
theorem saN_le (o : Option (List Li)) (T : St) (Q d : Nat) : ∀ j, saN o T Q d j ≤ 99 * j
  | 0 => Nat.le_refl _
  | j + 1 => by
    have := saN_le o T Q d j
    have := (ck_nat o T Q j (nI d)).2
    unfold saN; omega
theorem ofAll_S {S T : St} {P Q N : Nat} {o : Option (List Li)} (hX : XP S T P Q) (hL : LcT T o) (d : Nat) (hN : 122 < N) : ∃ S', Cr_ofAll N S (nI d) = some (nI (saN o T Q d Q), S') ∧ Core S' T := by
  obtain ⟨hC, hNn, hPe, hPr⟩ := hX
  have hQ10 := hNn.2.2.2
  unfold Cr_ofAll Cr_ofAll_L4
  have hs : ∀ j (x : St × Int32 × Int32), j < Q → (fun j (x : St × Int32 × Int32) => ∃ Sj, x = (Sj, nI (saN o T Q d j), nI j) ∧ Core Sj T) j x → ∃ x', (∀ k, (fun k (x : St × Int32 × Int32) => Cr_ofAll_b4 N k x.1 (nI d) x.2.1 x.2.2) k x = k x') ∧ (fun j (x : St × Int32 × Int32) => ∃ Sj, x = (Sj, nI (saN o T Q d j), nI j) ∧ Core Sj T) (j + 1) x' := by
    rintro j x hj ⟨Sj, rfl, h1⟩
    obtain ⟨S', s1, s2, -⟩ := creak_S (N := N) (S := Sj) ⟨h1, hNn, hPe, hPr⟩ hL hj (nI d) hN
    refine ⟨(S', nI (saN o T Q d (j + 1)), nI (j + 1)), fun k => ?_, S', rfl, s2⟩
    dsimp only
    unfold Cr_ofAll_b4
    rw [h1.1 1 10 rfl, hNn.2.2.1, if_neg (by rw [le_nI _ _ (by omega) (by omega)]; omega), s1, bd2_some, nm_eq, nm_eq, nI_1, (ck_nat o T Q j (nI d)).1, nI_add]
    rfl
  obtain ⟨x, k, e, Sj, rfl, h1⟩ := lp_go _ Q hs N 0 (S, 0, 0) (by omega) (by omega) ⟨S, rfl, hC⟩
  refine ⟨Sj, ?_, h1⟩
  rw [e]
  dsimp only
  unfold Cr_ofAll_b4
  rw [h1.1 1 10 rfl, hNn.2.2.1, if_pos (Int32.le_refl _)]
theorem loud_S {S T : St} {P Q N : Nat} {o : Option (List Li)} (hX : XP S T P Q) (hL : LcT T o) (hN : 122 < N) : ∃ S', Cr_loudestDay N S = some (nI (am (fun d => saN o T Q d Q) 100), S') ∧ Core S' T := by
  obtain ⟨hC, hNn, hPe, hPr⟩ := hX
  have hQ10 := hNn.2.2.2
  unfold Cr_loudestDay Cr_loudestDay_L6
  have hs : ∀ j (x : St × Int32 × Int32 × Int32), j < 100 → (fun j (x : St × Int32 × Int32 × Int32) => ∃ Sj, x = (Sj, nI (am (fun d => saN o T Q d Q) j), (if j = 0 then 0 else nI (saN o T Q (am (fun d => saN o T Q d Q) j) Q)), nI j) ∧ Core Sj T) j x → ∃ x', (∀ k, (fun k (x : St × Int32 × Int32 × Int32) => Cr_loudestDay_b6 N k x.1 x.2.1 x.2.2.1 x.2.2.2) k x = k x') ∧ (fun j (x : St × Int32 × Int32 × Int32) => ∃ Sj, x = (Sj, nI (am (fun d => saN o T Q d Q) j), (if j = 0 then 0 else nI (saN o T Q (am (fun d => saN o T Q d Q) j) Q)), nI j) ∧ Core Sj T) (j + 1) x' := by
    rintro j x hj ⟨Sj, rfl, h1⟩
    obtain ⟨S', s1, s2⟩ := ofAll_S (N := N) (S := Sj) ⟨h1, hNn, hPe, hPr⟩ hL j hN
    refine ⟨(S', nI (am (fun d => saN o T Q d Q) (j + 1)), nI (saN o T Q (am (fun d => saN o T Q d Q) (j + 1)) Q), nI (j + 1)), fun k => ?_, S', ?_, s2⟩
    · dsimp only
      have b1 := saN_le o T Q j Q
      have b2 := saN_le o T Q (am (fun d => saN o T Q d Q) j) Q
      unfold Cr_loudestDay_b6
      rw [if_neg (by show ¬ nI 100 ≤ nI j; rw [le_nI _ _ (by omega) (by omega)]; omega), s1, bd2_some, nm_eq, nm_eq, nI_1]
      have ea : am (fun d => saN o T Q d Q) (j + 1) = if saN o T Q j Q ≤ saN o T Q (am (fun d => saN o T Q d Q) j) Q then am (fun d => saN o T Q d Q) j else j := rfl
      by_cases j0 : j = 0
      · subst j0
        rw [if_pos rfl, am_1]
        by_cases h0 : saN o T Q 0 Q = 0
        · rw [if_pos (by show nI (saN o T Q 0 Q) ≤ nI 0; rw [le_nI _ _ (by omega) (by omega)]; omega), h0]; rfl
        · rw [if_neg (by show ¬ nI (saN o T Q 0 Q) ≤ nI 0; rw [le_nI _ _ (by omega) (by omega)]; omega)]
      · rw [if_neg j0, ea]
        by_cases c : saN o T Q j Q ≤ saN o T Q (am (fun d => saN o T Q d Q) j) Q
        · have c' : nI (saN o T Q j Q) ≤ nI (saN o T Q (am (fun d => saN o T Q d Q) j) Q) := by rw [le_nI _ _ (by omega) (by omega)]; exact c
          rw [if_pos c, if_pos c']
        · have c' : ¬ nI (saN o T Q j Q) ≤ nI (saN o T Q (am (fun d => saN o T Q d Q) j) Q) := by rw [le_nI _ _ (by omega) (by omega)]; exact c
          rw [if_neg c, if_neg c']
    · rw [if_neg (by omega : ¬ j + 1 = 0)]
  obtain ⟨x, k, e, Sj, rfl, h1⟩ := lp_go _ 100 hs N 0 (S, 0, 0, 0) (by omega) (by omega) ⟨S, rfl, hC⟩
  refine ⟨Sj, ?_, h1⟩
  rw [e]
  dsimp only
  unfold Cr_loudestDay_b6
  rw [if_pos (by show nI 100 ≤ nI 100; exact Int32.le_refl _)]
theorem all_V {V T : St} {P Q N : Nat} {o : Option (List Li)} (hM : MP V T P Q) (hL : LcV V o) {d : Nat} (hd : d < 100) (l1 l2 l3 : Int32) (hN : 122 < N) : ∃ V', (∀ k19, Mo_loudest_L32 N k19 l1 l2 l3 (nI d) (V, 0, 0) = if nI (saN o T Q d Q) ≤ l3 then k19 (V', l2, l3, nI (d + 1)) else k19 (V', nI d, nI (saN o T Q d Q), nI (d + 1))) ∧ OfM V V' := by
  have hQ10 := hM.2.1.2.2.2
  unfold Mo_loudest_L32
  have hs : ∀ j (x : St × Int32 × Int32), j < Q → (fun j (x : St × Int32 × Int32) => ∃ Vj, x = (Vj, nI (saN o T Q d j), nI j) ∧ OfM V Vj) j x → ∃ x', (∀ (k19 : (St × Int32 × Int32 × Int32) → Option (Int32 × St)) k, (fun k19 k (x : St × Int32 × Int32) => Mo_loudest_b32 N k19 k x.1 l1 l2 l3 (nI d) x.2.1 x.2.2) k19 k x = k x') ∧ (fun j (x : St × Int32 × Int32) => ∃ Vj, x = (Vj, nI (saN o T Q d j), nI j) ∧ OfM V Vj) (j + 1) x' := by
    rintro j x hj ⟨Vj, rfl, h1⟩
    have hMj := MP.of h1 hM
    obtain ⟨V', s1, s2⟩ := creak_V (N := N) hMj (hL.of h1) hj hd hN
    refine ⟨(V', nI (saN o T Q d (j + 1)), nI (j + 1)), fun k19 k => ?_, V', rfl, h1.trans s2⟩
    dsimp only
    unfold Mo_loudest_b32
    rw [hMj.1.2.1, hM.2.1.2.2.1, if_neg (by rw [le_nI _ _ (by omega) (by omega)]; omega), s1, bd2_some, nm_eq, nm_eq, nI_1, (ck_nat o T Q j (nI d)).1, nI_add]
    rfl
  obtain ⟨x, ⟨Vj, rfl, h1⟩, e⟩ := lp_fam _ Q hs N 0 (V, 0, 0) (by omega) (by omega) ⟨V, rfl, OfM.refl V⟩
  refine ⟨Vj, fun k19 => ?_, h1⟩
  obtain ⟨k, e⟩ := e k19
  rw [e]
  dsimp only
  unfold Mo_loudest_b32
  rw [(h1.1 44 7 rfl).trans hM.1.2.1, hM.2.1.2.2.1, if_pos (Int32.le_refl _), nm_eq, nm_eq, nI_1]
theorem loud_V {V T : St} {P Q N : Nat} {o : Option (List Li)} (hM : MP V T P Q) (hL : LcV V o) (w : Int32) (hN : 122 < N) : ∃ V', Mo_loudest_L19 N w (V, 0, -1, 0) = some (if w = 0 then nI (am (fun d => saN o T Q d Q) 100) else nI (saN o T Q (am (fun d => saN o T Q d Q) 100) Q), V') ∧ OfM V V' := by
  have hQ10 := hM.2.1.2.2.2
  unfold Mo_loudest_L19
  have hs : ∀ j (x : St × Int32 × Int32 × Int32), j < 100 → (fun j (x : St × Int32 × Int32 × Int32) => ∃ Vj, x = (Vj, nI (am (fun d => saN o T Q d Q) j), (if j = 0 then -1 else nI (saN o T Q (am (fun d => saN o T Q d Q) j) Q)), nI j) ∧ OfM V Vj) j x → ∃ x', (∀ k, (fun k (x : St × Int32 × Int32 × Int32) => Mo_loudest_b19 N k x.1 w x.2.1 x.2.2.1 x.2.2.2) k x = k x') ∧ (fun j (x : St × Int32 × Int32 × Int32) => ∃ Vj, x = (Vj, nI (am (fun d => saN o T Q d Q) j), (if j = 0 then -1 else nI (saN o T Q (am (fun d => saN o T Q d Q) j) Q)), nI j) ∧ OfM V Vj) (j + 1) x' := by
    rintro j x hj ⟨Vj, rfl, h1⟩
    obtain ⟨V', s1, s2⟩ := all_V (N := N) (MP.of h1 hM) (hL.of h1) hj w (nI (am (fun d => saN o T Q d Q) j)) (if j = 0 then -1 else nI (saN o T Q (am (fun d => saN o T Q d Q) j) Q)) hN
    refine ⟨(V', nI (am (fun d => saN o T Q d Q) (j + 1)), nI (saN o T Q (am (fun d => saN o T Q d Q) (j + 1)) Q), nI (j + 1)), fun k => ?_, V', ?_, h1.trans s2⟩
    · dsimp only
      have b1 := saN_le o T Q j Q
      have b2 := saN_le o T Q (am (fun d => saN o T Q d Q) j) Q
      unfold Mo_loudest_b19
      rw [if_neg (by show ¬ nI 99 < nI j; rw [lt_nI _ _ (by omega) (by omega)]; omega), s1]
      have ea : am (fun d => saN o T Q d Q) (j + 1) = if saN o T Q j Q ≤ saN o T Q (am (fun d => saN o T Q d Q) j) Q then am (fun d => saN o T Q d Q) j else j := rfl
      by_cases j0 : j = 0
      · subst j0
        have n1 : ¬ nI (saN o T Q 0 Q) ≤ (if (0 : Nat) = 0 then -1 else nI (saN o T Q (am (fun d => saN o T Q d Q) 0) Q)) := by
          rw [if_pos rfl, Int32.le_iff_toInt_le, ti _ (by omega), tim1]; omega
        rw [if_neg n1, am_1]
      · rw [if_neg j0, ea]
        by_cases c : saN o T Q j Q ≤ saN o T Q (am (fun d => saN o T Q d Q) j) Q
        · have c' : nI (saN o T Q j Q) ≤ nI (saN o T Q (am (fun d => saN o T Q d Q) j) Q) := by rw [le_nI _ _ (by omega) (by omega)]; exact c
          rw [if_pos c, if_pos c']
        · have c' : ¬ nI (saN o T Q j Q) ≤ nI (saN o T Q (am (fun d => saN o T Q d Q) j) Q) := by rw [le_nI _ _ (by omega) (by omega)]; exact c
          rw [if_neg c, if_neg c']
    · rw [if_neg (by omega : ¬ j + 1 = 0)]
  obtain ⟨x, k, e, Vj, rfl, h1⟩ := lp_go _ 100 hs N 0 (V, 0, -1, 0) (by omega) (by omega) ⟨V, rfl, OfM.refl V⟩
  refine ⟨Vj, ?_, h1⟩
  rw [e]
  dsimp only
  unfold Mo_loudest_b19
  rw [if_pos (by show (99 : Int32) < nI 100; decide), if_neg (by decide : ¬ 100 = 0)]
  split <;> rfl
theorem RR_loudest : LS_loudest RR := by
  rintro S V p1 hRR
  have hRR' := hRR
  obtain ⟨T, P, Q, F, c, a, B, hC, hR⟩ := hRR
  have hR' := hR
  obtain ⟨hN, hPe, hPr, hP, hTa, hLw, -⟩ := hR'
  obtain ⟨o, o1, o2⟩ := hLw.split
  unfold Ch_loudest Mo_loudest
  simp only [Ch_isEither_eq, Mo_within_eq, bd1_some, if_bI, Int32.toInt_toInt64, tI0, tI1]
  by_cases h1 : wi p1.toInt 0 1 = true
  · rw [if_pos h1, if_pos h1]
    obtain ⟨S', s1, s2⟩ := loud_S (N := fuel) ⟨hC, hN, hPe, hPr⟩ o1 (by decide)
    obtain ⟨V', v1, v2⟩ := loud_V (N := fuel) ⟨hP, hN, hPe, hPr⟩ o2 p1 (by decide)
    obtain ⟨S2, t1, t2⟩ := ofAll_S (N := fuel) (S := S') ⟨s2, hN, hPe, hPr⟩ o1 (am (fun d => saN o T Q d Q) 100) (by decide)
    rw [s1, v1, bd2_some, t1, bd2_some]
    by_cases h0 : p1 = 0
    · rw [if_pos h0, if_pos h0]; exact ⟨_, _, _, rfl, rfl, T, P, Q, F, c, a, B, s2, v2.RLk hR⟩
    · rw [if_neg h0, if_neg h0]; exact ⟨_, _, _, rfl, rfl, T, P, Q, F, c, a, B, t2, v2.RLk hR⟩
  · rw [if_neg h1, if_neg h1]; exact ⟨_, _, _, rfl, rfl, hRR'⟩
