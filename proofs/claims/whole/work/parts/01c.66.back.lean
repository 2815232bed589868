theorem Mo_back_4 {V : St} {N : Nat} (hf : 4 < N) : ∃ V1, Mo_back_L51 N (V, 0) = some (gi V 44 22, V1) ∧ (∀ v i, v ≠ 56 → gi V1 v i = gi V v i) ∧ (∀ i, gl V1 63 i = gl V 63 i) ∧ ∀ j, j < 4 → gi V1 56 j = gi V 58 j := by
  unfold Mo_back_L51
  have hs : ∀ j (x : St × Int32), j < 4 → (fun j (x : St × Int32) => ∃ Vj, x = (Vj, nI j) ∧ (∀ v i, v ≠ 56 → gi Vj v i = gi V v i) ∧ (∀ i, gl Vj 63 i = gl V 63 i) ∧ ∀ i, i < j → gi Vj 56 i = gi V 58 i) j x → ∃ x', (∀ k, (fun k (x : St × Int32) => Mo_back_b51 N k x.1 x.2) k x = k x') ∧ (fun j (x : St × Int32) => ∃ Vj, x = (Vj, nI j) ∧ (∀ v i, v ≠ 56 → gi Vj v i = gi V v i) ∧ (∀ i, gl Vj 63 i = gl V 63 i) ∧ ∀ i, i < j → gi Vj 56 i = gi V 58 i) (j + 1) x' := by
    rintro j x hj ⟨Vj, rfl, h1, h2, h3⟩
    refine ⟨(si Vj 56 j (gi Vj 58 j), nI (j + 1)), fun k => ?_, _, rfl, fun v i hv => ?_, fun i => h2 i, fun i hi => ?_⟩
    · dsimp only
      unfold Mo_back_b51
      rw [if_neg (by show ¬ nI 4 ≤ nI j; rw [le_nI _ _ (by omega) (by omega)]; omega), inb_nI (j := j) (n := 4) (by omega) (by omega), ck_true, ck_true, cl j (by omega), nm_eq, nm_eq, nI_1]
    · rw [gi_si, if_neg hv]; exact h1 v i hv
    · rw [gi_si, if_pos rfl]
      by_cases e : i = j
      · rw [if_pos e, e]; exact h1 58 j (by decide)
      · rw [if_neg e]; exact h3 i (by omega)
  obtain ⟨x, k, e, Vj, rfl, h1, h2, h3⟩ := lp_go _ 4 hs N 0 (V, 0) (by omega) (by omega) ⟨V, rfl, fun _ _ _ => rfl, fun _ => rfl, fun i hi => absurd hi (Nat.not_lt_zero _)⟩
  refine ⟨Vj, ?_, h1, h2, h3⟩
  rw [e]
  dsimp only
  unfold Mo_back_b51
  rw [if_pos (by show (4 : Int32) ≤ nI 4; decide), h1 44 22 (by decide)]
theorem Mo_back_10 {V : St} {N Q : Nat} (hQ : gi V 44 25 = nI Q) (hQ10 : Q ≤ 10) (hf : 10 < N) : ∃ V1, Mo_back_L12 N (V, 0) = Mo_back_L51 N (si V1 44 22 (gi V 44 26), 0) ∧ (∀ v i, v ≠ 45 → gi V1 v i = gi V v i) ∧ (∀ i, gl V1 63 i = gl V 63 i) ∧ ∀ j, gi V1 45 j = if 38 ≤ j ∧ j < 38 + Q then gi V 57 (j - 38) else gi V 45 j := by
  unfold Mo_back_L12
  have hs : ∀ j (x : St × Int32), j < Q → (fun j (x : St × Int32) => ∃ Vj, x = (Vj, nI j) ∧ (∀ v i, v ≠ 45 → gi Vj v i = gi V v i) ∧ (∀ i, gl Vj 63 i = gl V 63 i) ∧ ∀ i, gi Vj 45 i = if 38 ≤ i ∧ i < 38 + j then gi V 57 (i - 38) else gi V 45 i) j x → ∃ x', (∀ k, (fun k (x : St × Int32) => Mo_back_b12 N k x.1 x.2) k x = k x') ∧ (fun j (x : St × Int32) => ∃ Vj, x = (Vj, nI j) ∧ (∀ v i, v ≠ 45 → gi Vj v i = gi V v i) ∧ (∀ i, gl Vj 63 i = gl V 63 i) ∧ ∀ i, gi Vj 45 i = if 38 ≤ i ∧ i < 38 + j then gi V 57 (i - 38) else gi V 45 i) (j + 1) x' := by
    rintro j x hj ⟨Vj, rfl, h1, h2, h3⟩
    refine ⟨(si Vj 45 (38 + j) (gi Vj 57 j), nI (j + 1)), fun k => ?_, _, rfl, fun v i hv => ?_, fun i => h2 i, fun i => ?_⟩
    · dsimp only
      unfold Mo_back_b12
      rw [h1 44 25 (by decide), hQ, if_neg (by rw [le_nI _ _ (by omega) (by omega)]; omega), a38, inb_nI (j := j) (n := 10) (by omega) (by omega), inb_nI (j := 38 + j) (n := 58) (by omega) (by omega), ck_true, ck_true, cl j (by omega), cl (38 + j) (by omega), nm_eq, nm_eq, nI_1]
    · rw [gi_si, if_neg hv]; exact h1 v i hv
    · rw [gi_si, if_pos rfl]
      by_cases e : i = 38 + j
      · rw [if_pos e, if_pos (by omega), e, show 38 + j - 38 = j from by omega]; exact h1 57 _ (by decide)
      · rw [if_neg e, h3 i]
        by_cases e2 : 38 ≤ i ∧ i < 38 + j
        · rw [if_pos e2, if_pos (by omega)]
        · rw [if_neg e2, if_neg (by omega)]
  obtain ⟨x, k, e, Vj, rfl, h1, h2, h3⟩ := lp_go _ Q hs N 0 (V, 0) (by omega) (by omega) ⟨V, rfl, fun _ _ _ => rfl, fun _ => rfl, fun i => by rw [if_neg (by omega)]⟩
  refine ⟨Vj, ?_, h1, h2, h3⟩
  rw [e]
  dsimp only
  unfold Mo_back_b12
  rw [h1 44 25 (by decide), hQ, if_pos (by rw [le_nI _ _ (by omega) (by omega)]; exact Nat.le_refl _), nm_eq, h1 44 26 (by decide)]
theorem RR_back : LS_back RR := by
  rintro S V hRR
  have hRR' := hRR
  obtain ⟨T, P, Q, F, c, a, B, hC, hN, hPe, hPr, hP, hTa, hLw, hLd, hCh, hBo, hSh⟩ := hRR
  obtain ⟨⟨nw, d1, d2, d3⟩, ⟨ni, d5, d5a, d5b⟩, d4, d6, ⟨qi, d7, d7a, d7b⟩, d8⟩ := hLd
  have hQ10 := hN.2.2.2
  unfold Ch_back De_layBack Mo_back
  rw [hC.1 7 1 rfl, d6]
  by_cases h : gi T 7 1 = 0
  · rw [if_pos h, if_pos h]; exact ⟨_, _, _, rfl, rfl, hRR'⟩
  rw [if_neg h, if_neg h]
  have e0 : (0 : Int32).toNatClampNeg = 0 := rfl
  have e5 : (5 : Int32).toNatClampNeg = 5 := rfl
  have e4 : (4 : Int32).toNatClampNeg = 4 := rfl
  have k2 : cpok 0 0 (nI qi) 10 10 = true := by
    unfold cpok
    refine decide_eq_true ⟨by decide, by decide, ?_, ?_, ?_⟩
    · rw [Int32.lt_iff_toInt_lt, ti qi (by omega), ti0]; omega
    · rw [e0, cl qi (by omega)]; omega
    · rw [e0, cl qi (by omega)]; omega
  rw [show cpok 0 0 5 5 5 = true from by decide, ck_true]
  simp only [nm_eq, gi_cpi, Nat.reduceEqDiff, reduceIte, (hC.1 7 5 rfl).trans d7a, k2, ck_true, e0, e5, e4, cl qi (show qi < 5000 by omega), bd2_some]
  obtain ⟨V1, v1, v2, v3, v4⟩ := Mo_back_10 (V := V) (N := fuel) d7b (by omega) (by decide)
  obtain ⟨V2, w1, w2, w3, w4⟩ := Mo_back_4 (V := si V1 44 22 (gi V 44 26)) (N := fuel) (by decide)
  rw [v1, w1]
  have ex : gi (si V1 44 22 (gi V 44 26)) 44 22 = nI ni := by simp only [gi_si, gl_si, gi_sl, gl_sl, row_si, row_sl, Nat.reduceEqDiff, reduceIte]; exact d5b
  rw [ex]
  refine ⟨nI ni, _, _, congrArg some (Prod.ext ?_ rfl), rfl, cpi (cpi T 32 31 0 0 5) 33 18 0 0 qi, P, Q, F, c, a, B, (hC.cpi (fun _ => rfl) _ _ _).cpi (fun _ => rfl) _ _ _, ?_⟩
  · dsimp only
    rw [if_pos (by omega)]; exact (hC.1 32 4 rfl).trans d5a
  have gV : ∀ v i, v ≠ 44 → v ≠ 45 → v ≠ 56 → gi V2 v i = gi V v i := fun v i h1 h2 h3 => by rw [w2 v i h3, gi_si, if_neg h1, v2 v i h2]
  have gV44 : ∀ i, gi V2 44 i = if i = 22 then nI ni else gi V 44 i := fun i => by rw [w2 44 i (by decide), gi_si, if_pos rfl, d5b, v2 44 i (by decide)]
  have gV45 : ∀ i, gi V2 45 i = if 38 ≤ i ∧ i < 38 + qi then gi V 57 (i - 38) else gi V 45 i := fun i => by rw [w2 45 i (by decide), gi_si, if_neg (by decide), v4]
  have gVl : ∀ i, gl V2 63 i = gl V 63 i := fun i => by rw [w3]; exact v3 i
  have r52 : V2.1 52 = V.1 52 := funext fun i => gV 52 i (by decide) (by decide) (by decide)
  have hv46 := fun i => gV 46 i (by decide) (by decide) (by decide)
  have hv47 := fun i => gV 47 i (by decide) (by decide) (by decide)
  have hv48 := fun i => gV 48 i (by decide) (by decide) (by decide)
  have hv49 := fun i => gV 49 i (by decide) (by decide) (by decide)
  have hv50 := fun i => gV 50 i (by decide) (by decide) (by decide)
  have hv51 := fun i => gV 51 i (by decide) (by decide) (by decide)
  have hv57 := fun i => gV 57 i (by decide) (by decide) (by decide)
  have hv58 := fun i => gV 58 i (by decide) (by decide) (by decide)
  have hv59 := fun i => gV 59 i (by decide) (by decide) (by decide)
  have hv60 := fun i => gV 60 i (by decide) (by decide) (by decide)
  have hv61 := fun i => gV 61 i (by decide) (by decide) (by decide)
  have hv62 := fun i => gV 62 i (by decide) (by decide) (by decide)
  refine ⟨by simpa only [iN, gi_si, gl_si, gi_sl, gl_sl, row_si, row_sl, Nat.reduceEqDiff, reduceIte, gV44, hv46, hv47, hv48, hv49, hv50, hv51, hv57, hv58, hv59, hv60, hv61, hv62, gVl, gi_cpi, gl_cpi] using hN, by simpa only [iPe, gi_si, gl_si, gi_sl, gl_sl, row_si, row_sl, Nat.reduceEqDiff, reduceIte, gV44, hv46, hv47, hv48, hv49, hv50, hv51, hv57, hv58, hv59, hv60, hv61, hv62, gVl, gi_cpi, gl_cpi] using hPe, fun j hj => ?_, ⟨?_, ?_, fun j hj => ?_, fun j hj => ?_⟩, by simpa only [rTa, gi_si, gl_si, gi_sl, gl_sl, row_si, row_sl, Nat.reduceEqDiff, reduceIte, gV44, hv46, hv47, hv48, hv49, hv50, hv51, hv57, hv58, hv59, hv60, hv61, hv62, gVl, gi_cpi, gl_cpi] using hTa, ?_, ⟨⟨ni, d5, ?_, ?_⟩, ⟨ni, d5, ?_, ?_⟩, fun j hj => ⟨?_, ?_⟩, ?_, ⟨qi, d7, ?_, ?_⟩, fun j hj => ?_⟩, by simpa only [rCh, iCe, okv, gi_si, gl_si, gi_sl, gl_sl, row_si, row_sl, Nat.reduceEqDiff, reduceIte, gV44, hv46, hv47, hv48, hv49, hv50, hv51, hv57, hv58, hv59, hv60, hv61, hv62, gVl, gi_cpi, gl_cpi] using hCh, by simpa only [rBo, gi_si, gl_si, gi_sl, gl_sl, row_si, row_sl, Nat.reduceEqDiff, reduceIte, gV44, hv46, hv47, hv48, hv49, hv50, hv51, hv57, hv58, hv59, hv60, hv61, hv62, gVl, gi_cpi, gl_cpi] using hBo, by simpa only [rSh, rS1, gi_si, gl_si, gi_sl, gl_sl, row_si, row_sl, Nat.reduceEqDiff, reduceIte, gV44, hv46, hv47, hv48, hv49, hv50, hv51, hv57, hv58, hv59, hv60, hv61, hv62, gVl, gi_cpi, gl_cpi] using hSh⟩
  · simp only [gi_si, gl_si, gi_sl, gl_sl, row_si, row_sl, Nat.reduceEqDiff, reduceIte, gi_cpi]
    obtain ⟨b1, b2, b3, b4, b5⟩ := hPr j hj
    refine ⟨b1, b2, b3, ?_, b5⟩
    by_cases hq : j < qi
    · rw [if_pos (by omega), Nat.zero_add, Nat.sub_zero]; exact (d8 j (by omega)).2
    · rw [if_neg (by omega)]; exact b4
  · simpa only [gi_si, gl_si, gi_sl, gl_sl, row_si, row_sl, Nat.reduceEqDiff, reduceIte, gV44, hv46, hv47, hv48, hv49, hv50, hv51, hv57, hv58, hv59, hv60, hv61, hv62, gVl, gi_cpi, gl_cpi] using hP.1
  · simpa only [gi_si, gl_si, gi_sl, gl_sl, row_si, row_sl, Nat.reduceEqDiff, reduceIte, gV44, hv46, hv47, hv48, hv49, hv50, hv51, hv57, hv58, hv59, hv60, hv61, hv62, gVl, gi_cpi, gl_cpi] using hP.2.1
  · obtain ⟨b1, b2, b3⟩ := hP.2.2.1 j hj
    simp only [gi_si, gl_si, gi_sl, gl_sl, row_si, row_sl, Nat.reduceEqDiff, reduceIte, gV44, hv46, hv47, hv48, hv49, hv50, hv51, hv57, hv58, hv59, hv60, hv61, hv62, gVl, gi_cpi, gl_cpi, gV45]
    (repeat (first | rw [if_pos (by omega)] | rw [if_neg (by omega)]))
    exact ⟨b1, b2, b3⟩
  · obtain ⟨b1, b2, b3, b4, b5, b6⟩ := hP.2.2.2 j hj
    simp only [gi_si, gl_si, gi_sl, gl_sl, row_si, row_sl, Nat.reduceEqDiff, reduceIte, gV44, hv46, hv47, hv48, hv49, hv50, hv51, hv57, hv58, hv59, hv60, hv61, hv62, gVl, gi_cpi, gl_cpi, gV45]
    by_cases hq : j < qi
    · (repeat (first | rw [if_pos (by omega)] | rw [if_neg (by omega)]))
      refine ⟨b1, b2, b3, b4, ?_, b6⟩
      rw [Nat.zero_add, Nat.sub_zero, show 38 + j - 38 = j from by omega]; exact (d8 j hj).1
    · (repeat (first | rw [if_pos (by omega)] | rw [if_neg (by omega)]))
      exact ⟨b1, b2, b3, b4, b5, b6⟩
  · simpa only [rLw, gi_si, gl_si, gi_sl, gl_sl, row_si, row_sl, Nat.reduceEqDiff, reduceIte, gV44, hv46, hv47, hv48, hv49, hv50, hv51, hv57, hv58, hv59, hv60, hv61, hv62, gVl, gi_cpi, gl_cpi, r52, show ∀ w, (cpi T 32 31 0 0 5).1 w = if w = 31 then va_cpy (T.1 32) (T.1 31) 0 0 5 else T.1 w from fun _ => rfl, show ∀ (T : St) w, (cpi T 33 18 0 0 qi).1 w = if w = 18 then va_cpy (T.1 33) (T.1 18) 0 0 qi else T.1 w from fun _ _ => rfl] using hLw
  · simp only [gi_si, gl_si, gi_sl, gl_sl, row_si, row_sl, Nat.reduceEqDiff, reduceIte, gV44, hv46, hv47, hv48, hv49, hv50, hv51, hv57, hv58, hv59, hv60, hv61, hv62, gVl, gi_cpi, gl_cpi]
    (repeat (first | rw [if_pos (by omega)] | rw [if_neg (by omega)]))
    exact d5a
  · simp only [gi_si, gl_si, gi_sl, gl_sl, row_si, row_sl, Nat.reduceEqDiff, reduceIte, gV44, hv46, hv47, hv48, hv49, hv50, hv51, hv57, hv58, hv59, hv60, hv61, hv62, gVl, gi_cpi, gl_cpi]
  · simpa only [gi_si, gl_si, gi_sl, gl_sl, row_si, row_sl, Nat.reduceEqDiff, reduceIte, gV44, hv46, hv47, hv48, hv49, hv50, hv51, hv57, hv58, hv59, hv60, hv61, hv62, gVl, gi_cpi, gl_cpi] using d5a
  · simpa only [gi_si, gl_si, gi_sl, gl_sl, row_si, row_sl, Nat.reduceEqDiff, reduceIte, gV44, hv46, hv47, hv48, hv49, hv50, hv51, hv57, hv58, hv59, hv60, hv61, hv62, gVl, gi_cpi, gl_cpi] using d5b
  · rw [w4 j hj]
    simp only [gi_si, gl_si, gi_sl, gl_sl, row_si, row_sl, Nat.reduceEqDiff, reduceIte, gV44, hv46, hv47, hv48, hv49, hv50, hv51, hv57, hv58, hv59, hv60, hv61, hv62, gVl, gi_cpi, gl_cpi, v2 58 j (by decide)]
    (repeat (first | rw [if_pos (by omega)] | rw [if_neg (by omega)]))
    rw [Nat.zero_add, Nat.sub_zero]; exact (d4 j hj).2
  · simp only [gi_si, gl_si, gi_sl, gl_sl, row_si, row_sl, Nat.reduceEqDiff, reduceIte, gV44, hv46, hv47, hv48, hv49, hv50, hv51, hv57, hv58, hv59, hv60, hv61, hv62, gVl, gi_cpi, gl_cpi]
    exact (d4 j hj).2
  · simpa only [gi_si, gl_si, gi_sl, gl_sl, row_si, row_sl, Nat.reduceEqDiff, reduceIte, gV44, hv46, hv47, hv48, hv49, hv50, hv51, hv57, hv58, hv59, hv60, hv61, hv62, gVl, gi_cpi, gl_cpi] using d6
  · simpa only [gi_si, gl_si, gi_sl, gl_sl, row_si, row_sl, Nat.reduceEqDiff, reduceIte, gV44, hv46, hv47, hv48, hv49, hv50, hv51, hv57, hv58, hv59, hv60, hv61, hv62, gVl, gi_cpi, gl_cpi] using d7a
  · simpa only [gi_si, gl_si, gi_sl, gl_sl, row_si, row_sl, Nat.reduceEqDiff, reduceIte, gV44, hv46, hv47, hv48, hv49, hv50, hv51, hv57, hv58, hv59, hv60, hv61, hv62, gVl, gi_cpi, gl_cpi] using d7b
  · simpa only [gi_si, gl_si, gi_sl, gl_sl, row_si, row_sl, Nat.reduceEqDiff, reduceIte, gV44, hv46, hv47, hv48, hv49, hv50, hv51, hv57, hv58, hv59, hv60, hv61, hv62, gVl, gi_cpi, gl_cpi] using d8 j hj
theorem RR_body : LS_body RR := by
  rintro S V p1 hRR
  have hRR' := hRR
  obtain ⟨T, P, Q, F, c, a, B, hC, hN, hPe, hPr, hP, hTa, hLw, hLd, hCh, ⟨b1, b2, b3, b4, b5, b6⟩, hSh⟩ := hRR
  unfold Ch_body Mo_body Li_add
  simp only [Ch_within_eq, Mo_within_eq, bd1_some, if_bI, Int32.toInt_toInt64, tI0, tI7, ti0, ti7, hC.1 9 0 rfl, b1, b3]
  by_cases h1 : wi p1.toInt 0 7 = true
  · rw [if_pos h1, if_pos h1]
    by_cases h2 : B < 50
    · rw [if_neg (by show ¬ nI B = nI 50; rw [eq_nI _ _ (by omega) (by omega)]; omega), if_neg (by show ¬ nI B = nI 50; rw [eq_nI _ _ (by omega) (by omega)]; omega)]
      simp only [inb_nI (j := B) (n := 50) h2 (by omega), ck_true, cl B (by omega), nm_eq, gi_si, gl_si, gi_sl, gl_sl, row_si, row_sl, Nat.reduceEqDiff, reduceIte, hC.1 9 0 rfl, b1, b3, nI_1, nI_1m, bd2_some]
      refine ⟨_, _, _, rfl, rfl, si (si T 39 B p1) 9 0 (nI (B + 1)), P, Q, F, c, a, B + 1, (hC.si _ _ _).si _ _ _, by simpa only [iN, gi_si, gl_si, gi_sl, gl_sl, row_si, row_sl, Nat.reduceEqDiff, reduceIte] using hN, by simpa only [iPe, gi_si, gl_si, gi_sl, gl_sl, row_si, row_sl, Nat.reduceEqDiff, reduceIte] using hPe, by simpa only [iPr, gi_si, gl_si, gi_sl, gl_sl, row_si, row_sl, Nat.reduceEqDiff, reduceIte] using hPr, by simpa only [rP, gi_si, gl_si, gi_sl, gl_sl, row_si, row_sl, Nat.reduceEqDiff, reduceIte] using hP, by simpa only [rTa, gi_si, gl_si, gi_sl, gl_sl, row_si, row_sl, Nat.reduceEqDiff, reduceIte] using hTa, by simpa only [rLw, gi_si, gl_si, gi_sl, gl_sl, row_si, row_sl, Nat.reduceEqDiff, reduceIte] using hLw, by simpa only [rLd, gi_si, gl_si, gi_sl, gl_sl, row_si, row_sl, Nat.reduceEqDiff, reduceIte] using hLd, by simpa only [rCh, iCe, okv, gi_si, gl_si, gi_sl, gl_sl, row_si, row_sl, Nat.reduceEqDiff, reduceIte] using hCh, ⟨?_, by omega, ?_, fun j hj => ?_, by simpa only [gi_si, gl_si, gi_sl, gl_sl, row_si, row_sl, Nat.reduceEqDiff, reduceIte] using b5, by simpa only [gi_si, gl_si, gi_sl, gl_sl, row_si, row_sl, Nat.reduceEqDiff, reduceIte] using b6⟩, ?_, ?_⟩
      · simp only [gi_si, gl_si, gi_sl, gl_sl, row_si, row_sl, Nat.reduceEqDiff, reduceIte]
      · simp only [gi_si, gl_si, gi_sl, gl_sl, row_si, row_sl, Nat.reduceEqDiff, reduceIte]
      · simp only [gi_si, gl_si, gi_sl, gl_sl, row_si, row_sl, Nat.reduceEqDiff, reduceIte]
        by_cases e : j = B
        · rw [if_pos e, if_pos e]
          rw [wi_t] at h1
          obtain ⟨e, e2⟩ := i32_nI h1.1
          exact ⟨_, by omega, e, e⟩
        · rw [if_neg e, if_neg e]
          exact b4 j (by omega)
      · intro d hd
        rcases hSh.1 d hd with ⟨x1, x2⟩ | ⟨x1, b, x2, x3, x4⟩ | ⟨s, n, x⟩
        · exact .inl ⟨by simpa only [gi_si, gl_si, gi_sl, gl_sl, row_si, row_sl, Nat.reduceEqDiff, reduceIte] using x1, by simpa only [gi_si, gl_si, gi_sl, gl_sl, row_si, row_sl, Nat.reduceEqDiff, reduceIte] using x2⟩
        · exact .inr (.inl ⟨by simpa only [gi_si, gl_si, gi_sl, gl_sl, row_si, row_sl, Nat.reduceEqDiff, reduceIte] using x1, b, by omega, by simpa only [gi_si, gl_si, gi_sl, gl_sl, row_si, row_sl, Nat.reduceEqDiff, reduceIte] using x3, by simpa only [gi_si, gl_si, gi_sl, gl_sl, row_si, row_sl, Nat.reduceEqDiff, reduceIte] using x4⟩)
        · exact .inr (.inr ⟨s, n, by simpa only [gi_si, gl_si, gi_sl, gl_sl, row_si, row_sl, Nat.reduceEqDiff, reduceIte] using x⟩)
      · simpa only [gi_si, gl_si, gi_sl, gl_sl, row_si, row_sl, Nat.reduceEqDiff, reduceIte] using hSh.2
    · rw [if_pos (by show nI B = nI 50; rw [eq_nI _ _ (by omega) (by omega)]; omega), if_pos (by show nI B = nI 50; rw [eq_nI _ _ (by omega) (by omega)]; omega)]
      exact ⟨_, _, _, rfl, rfl, hRR'⟩
  · rw [if_neg h1, if_neg h1]
    exact ⟨_, _, _, rfl, rfl, hRR'⟩
theorem RR_trace : LS_trace RR := by
  rintro S V p1 hRR
  have hRR' := hRR
  obtain ⟨T, P, Q, F, c, a, B, hC, hN, hPe, hPr, hP, hTa, hLw, hLd, hCh, ⟨b1, b2, b3, b4, b5, b6⟩, hSh⟩ := hRR
  unfold Ch_trace Mo_trace Ma_min
  rw [hC.1 9 1 rfl, b5]
  by_cases h0 : p1 < 0
  · rw [if_pos h0, if_pos h0]; exact ⟨_, rfl, rfl, hRR'⟩
  rw [if_neg h0, if_neg h0]
  obtain ⟨j, hj, rfl⟩ := nI_of h0
  by_cases h1 : gi T 9 1 ≤ nI j
  · rw [if_pos h1]
    by_cases h2 : (24 : Int32) < gi T 9 1
    · have h3 : (24 : Int32) ≤ nI j := by
        rw [Int32.le_iff_toInt_le] at h1 ⊢; rw [Int32.lt_iff_toInt_lt] at h2; omega
      rw [if_pos h2, bd1_some, if_pos h3]; exact ⟨_, rfl, rfl, hRR'⟩
    · rw [if_neg h2, bd1_some, if_pos h1]; exact ⟨_, rfl, rfl, hRR'⟩
  · rw [if_neg h1]
    by_cases h3 : (24 : Int32) ≤ nI j
    · have h2 : (24 : Int32) < gi T 9 1 := by
        rw [Int32.le_iff_toInt_le] at h1 h3; rw [Int32.lt_iff_toInt_lt]; omega
      rw [if_pos h2, bd1_some, if_pos h3, if_pos h3]; exact ⟨_, rfl, rfl, hRR'⟩
    · have hj24 : j < 24 := by
        rw [Int32.le_iff_toInt_le, nI_toInt hj] at h3
        have : (24 : Int32).toInt = 24 := rfl
        omega
      rw [if_neg h3, inb_nI hj24 (by omega), ck_true, ck_true, cl j (by omega), b6 j hj24, hC.g 38 (fun _ => rfl)]
      by_cases h2 : (24 : Int32) < gi T 9 1
      · rw [if_pos h2, bd1_some, if_neg h3]; exact ⟨_, rfl, rfl, hRR'⟩
      · rw [if_neg h2, bd1_some, if_neg h1]; exact ⟨_, rfl, rfl, hRR'⟩
