theorem Mo_kept_L53_eq {V T : St} {P Q N nw : Nat} (hM : MP V T P Q) (hn : gi V 44 22 = nI nw) (hf : 10 < N) : Mo_kept_L53 N V (0, 0) = some (nI (cnt (fun p => opn T p (nI nw)) Q), V) := by
  have hR := hM.1
  obtain ⟨-, -, hQ, hQ10⟩ := hM.2.1
  unfold Mo_kept_L53
  refine lp_run (fun j => (nI (cnt (fun p => opn T p (nI nw)) j), nI j)) Q (fun k => ?_) N 0 (by omega) (by omega) (fun j _ hj k => ?_)
  · unfold Mo_kept_b53
    rw [hR.2.1, hQ, if_pos (by rw [le_nI _ _ (by omega) (by omega)]; exact Nat.le_refl _)]
  · unfold Mo_kept_b53
    dsimp only
    rw [hR.2.1, hQ, if_neg (by rw [le_nI _ _ (by omega) (by omega)]; omega), hn, Mo_isOpen_eq hM (by omega), bd1_some]
    simp only [nm_eq, bI_0, nI_1, cnt]
    by_cases h : opn T j (nI nw) = true <;> simp [h]
theorem RR_kept : LS_kept RR := by
  rintro S V p1 hRR
  have hRR' := hRR
  obtain ⟨T, P, Q, F, c, a, B, hC, hR⟩ := hRR
  have hR' := hR
  obtain ⟨hN, hPe, hPr, hP, hTa, hLw, hLd, hCh, hBo, hSh⟩ := hR'
  obtain ⟨⟨nw, d1, d2, d3⟩, d5, d4, d6, d7, d8⟩ := hLd
  have hQ10 := hN.2.2.2
  unfold Ch_kept Mo_kept De_keepPromise
  rw [Sm_isPromise_eq hC hN, bd1_some, if_bI, Mo_isPromise_eq hP hN, bd1_some, if_bI, Int32.toInt_toInt64, De_now_eq hC, bd1_some, d2, d3]
  by_cases h : wi p1.toInt 0 ((Q : Int) - 1) = true
  · rw [if_pos h, if_pos h]
    obtain ⟨n, n1, rfl⟩ := wi_nI h
    rw [Sm_isOpen_eq hC (by omega), bd1_some, if_bI, Mo_isOpen_eq ⟨hP, hN, hPe, hPr⟩ n1, bd1_some, if_bI]
    by_cases ho : opn T n (nI nw) = true
    · rw [if_pos ho, if_pos ho]
      have e2 : (2 : Int32).toNatClampNeg = 2 := rfl
      have e4 : (4 : Int32).toNatClampNeg = 4 := rfl
      have hR2 : RLk (si V 56 2 (gi V 56 2 + 1)) (si T 31 2 (gi S 31 2 + 1)) P Q F c a B := by
        refine ⟨by simpa only [iN, gi_si, gl_si, gi_sl, gl_sl, row_si, row_sl, Nat.reduceEqDiff, reduceIte] using hN, by simpa only [iPe, gi_si, gl_si, gi_sl, gl_sl, row_si, row_sl, Nat.reduceEqDiff, reduceIte] using hPe, by simpa only [iPr, gi_si, gl_si, gi_sl, gl_sl, row_si, row_sl, Nat.reduceEqDiff, reduceIte] using hPr, by simpa only [rP, gi_si, gl_si, gi_sl, gl_sl, row_si, row_sl, Nat.reduceEqDiff, reduceIte] using hP, by simpa only [rTa, gi_si, gl_si, gi_sl, gl_sl, row_si, row_sl, Nat.reduceEqDiff, reduceIte] using hTa, by simpa only [rLw, gi_si, gl_si, gi_sl, gl_sl, row_si, row_sl, Nat.reduceEqDiff, reduceIte] using hLw, ⟨⟨nw, d1, by simpa only [gi_si, gl_si, gi_sl, gl_sl, row_si, row_sl, Nat.reduceEqDiff, reduceIte] using d2, by simpa only [gi_si, gl_si, gi_sl, gl_sl, row_si, row_sl, Nat.reduceEqDiff, reduceIte] using d3⟩, by simpa only [gi_si, gl_si, gi_sl, gl_sl, row_si, row_sl, Nat.reduceEqDiff, reduceIte] using d5, fun j hj => ?_, by simpa only [gi_si, gl_si, gi_sl, gl_sl, row_si, row_sl, Nat.reduceEqDiff, reduceIte] using d6, by simpa only [gi_si, gl_si, gi_sl, gl_sl, row_si, row_sl, Nat.reduceEqDiff, reduceIte] using d7, by simpa only [gi_si, gl_si, gi_sl, gl_sl, row_si, row_sl, Nat.reduceEqDiff, reduceIte] using d8⟩, by simpa only [rCh, iCe, okv, gi_si, gl_si, gi_sl, gl_sl, row_si, row_sl, Nat.reduceEqDiff, reduceIte] using hCh, by simpa only [rBo, gi_si, gl_si, gi_sl, gl_sl, row_si, row_sl, Nat.reduceEqDiff, reduceIte] using hBo, by simpa only [rSh, rS1, gi_si, gl_si, gi_sl, gl_sl, row_si, row_sl, Nat.reduceEqDiff, reduceIte] using hSh⟩
        simp only [gi_si, gl_si, gi_sl, gl_sl, row_si, row_sl, Nat.reduceEqDiff, reduceIte]
        obtain ⟨x1, x2⟩ := d4 j hj
        refine ⟨?_, x2⟩
        by_cases j0 : j = 2
        · (repeat (first | rw [if_pos (by omega)] | rw [if_neg (by omega)]))
          rw [(d4 2 (by omega)).1, hC.1 31 2 rfl]
        · (repeat (first | rw [if_pos (by omega)] | rw [if_neg (by omega)]))
          exact x1
      have g := RL_become_5 (n := n) (x := nI nw) hR2 ⟨by simp, by simp, by simp, fun _ => n1, by simp, by simp, fun _ => ⟨by rw [ti _ (by omega)]; omega, by rw [ti _ (by omega)]; omega⟩, by simp⟩
      have hC2 := (hC.si 31 2 (gi S 31 2 + 1)).si 18 n (nI nw)
      have g' := g
      obtain ⟨hN, hPe, hPr, hP, hTa, hLw, hLd, hCh, hBo, hSh⟩ := g
      have hs := setU_lt10 (fun p => opn (si (si T 31 2 (gi S 31 2 + 1)) 18 n (nI nw)) p (nI nw)) (j := Q) (by omega)
      have hk := Mo_kept_L53_eq (N := fuel) (nw := nw) ⟨hP, hN, hPe, hPr⟩ (by simpa only [gi_si, gl_si, gi_sl, gl_sl, row_si, row_sl, Nat.reduceEqDiff, reduceIte] using d3) (by decide)
      have ep := pop_setU (fun p => opn (si (si T 31 2 (gi S 31 2 + 1)) 18 n (nI nw)) p (nI nw)) Q hQ10
      simp only [a38, inb_nI (j := n) (n := 10) (by omega) (by omega), inb_nI (j := 38 + n) (n := 58) (by omega) (by omega), ck_true, cl n (by omega), cl (38 + n) (by omega), e2, e4, nm_eq, gi_si, gl_si, gi_sl, gl_sl, row_si, row_sl, Nat.reduceEqDiff, reduceIte, (hC.1 31 4 rfl).trans d2]
      rw [si_comm V (by decide : 45 ≠ 56), hk, Sm_openOnes_eq (N := fuel) hC2 hN _ (by decide), bd1_some, In_bitCount_eq _ hs, bd1_some, bd2_some, ep]
      exact ⟨_, _, _, rfl, rfl, _, P, Q, F, c, a, B, hC2, g'⟩
    · rw [if_neg ho, if_neg ho]
      exact ⟨_, _, _, rfl, rfl, hRR'⟩
  · rw [if_neg h, if_neg h]
    exact ⟨_, _, _, rfl, rfl, hRR'⟩
/-- the reference's rows laid aside -/
theorem Mo_image_4 {V : St} {N : Nat} (hf : 4 < N) : ∃ V1, Mo_image_L54 N (V, 0) = some (gi V 44 22, V1) ∧ (∀ v i, v ≠ 58 → gi V1 v i = gi V v i) ∧ (∀ i, gl V1 63 i = gl V 63 i) ∧ ∀ j, j < 4 → gi V1 58 j = gi V 56 j := by
  unfold Mo_image_L54
  have hs : ∀ j (x : St × Int32), j < 4 → (fun j (x : St × Int32) => ∃ Vj, x = (Vj, nI j) ∧ (∀ v i, v ≠ 58 → gi Vj v i = gi V v i) ∧ (∀ i, gl Vj 63 i = gl V 63 i) ∧ ∀ i, i < j → gi Vj 58 i = gi V 56 i) j x → ∃ x', (∀ k, (fun k (x : St × Int32) => Mo_image_b54 N k x.1 x.2) k x = k x') ∧ (fun j (x : St × Int32) => ∃ Vj, x = (Vj, nI j) ∧ (∀ v i, v ≠ 58 → gi Vj v i = gi V v i) ∧ (∀ i, gl Vj 63 i = gl V 63 i) ∧ ∀ i, i < j → gi Vj 58 i = gi V 56 i) (j + 1) x' := by
    rintro j x hj ⟨Vj, rfl, h1, h2, h3⟩
    refine ⟨(si Vj 58 j (gi Vj 56 j), nI (j + 1)), fun k => ?_, _, rfl, fun v i hv => ?_, fun i => h2 i, fun i hi => ?_⟩
    · dsimp only
      unfold Mo_image_b54
      rw [if_neg (by show ¬ nI 4 ≤ nI j; rw [le_nI _ _ (by omega) (by omega)]; omega), inb_nI (j := j) (n := 4) (by omega) (by omega), ck_true, ck_true, cl j (by omega), nm_eq, nm_eq, nI_1]
    · rw [gi_si, if_neg hv]; exact h1 v i hv
    · rw [gi_si, if_pos rfl]
      by_cases e : i = j
      · rw [if_pos e, e]; exact h1 56 j (by decide)
      · rw [if_neg e]; exact h3 i (by omega)
  obtain ⟨x, k, e, Vj, rfl, h1, h2, h3⟩ := lp_go _ 4 hs N 0 (V, 0) (by omega) (by omega) ⟨V, rfl, fun _ _ _ => rfl, fun _ => rfl, fun i hi => absurd hi (Nat.not_lt_zero _)⟩
  refine ⟨Vj, ?_, h1, h2, h3⟩
  rw [e]
  dsimp only
  unfold Mo_image_b54
  rw [if_pos (by show (4 : Int32) ≤ nI 4; decide), h1 44 22 (by decide)]
theorem Mo_image_10 {V : St} {N Q : Nat} (hQ : gi V 44 7 = nI Q) (hQ10 : Q ≤ 10) (hf : 10 < N) : ∃ V1, Mo_image_L23 N (V, 0) = Mo_image_L54 N (V1, 0) ∧ (∀ v i, v ≠ 57 → gi V1 v i = gi V v i) ∧ (∀ i, gl V1 63 i = gl V 63 i) ∧ ∀ j, gi V1 57 j = if j < Q then gi V 45 (38 + j) else gi V 57 j := by
  unfold Mo_image_L23
  have hs : ∀ j (x : St × Int32), j < Q → (fun j (x : St × Int32) => ∃ Vj, x = (Vj, nI j) ∧ (∀ v i, v ≠ 57 → gi Vj v i = gi V v i) ∧ (∀ i, gl Vj 63 i = gl V 63 i) ∧ ∀ i, gi Vj 57 i = if i < j then gi V 45 (38 + i) else gi V 57 i) j x → ∃ x', (∀ k, (fun k (x : St × Int32) => Mo_image_b23 N k x.1 x.2) k x = k x') ∧ (fun j (x : St × Int32) => ∃ Vj, x = (Vj, nI j) ∧ (∀ v i, v ≠ 57 → gi Vj v i = gi V v i) ∧ (∀ i, gl Vj 63 i = gl V 63 i) ∧ ∀ i, gi Vj 57 i = if i < j then gi V 45 (38 + i) else gi V 57 i) (j + 1) x' := by
    rintro j x hj ⟨Vj, rfl, h1, h2, h3⟩
    refine ⟨(si Vj 57 j (gi Vj 45 (38 + j)), nI (j + 1)), fun k => ?_, _, rfl, fun v i hv => ?_, fun i => h2 i, fun i => ?_⟩
    · dsimp only
      unfold Mo_image_b23
      rw [h1 44 7 (by decide), hQ, if_neg (by rw [le_nI _ _ (by omega) (by omega)]; omega), a38, inb_nI (j := j) (n := 10) (by omega) (by omega), inb_nI (j := 38 + j) (n := 58) (by omega) (by omega), ck_true, ck_true, cl j (by omega), cl (38 + j) (by omega), nm_eq, nm_eq, nI_1]
    · rw [gi_si, if_neg hv]; exact h1 v i hv
    · rw [gi_si, if_pos rfl]
      by_cases e : i = j
      · rw [if_pos e, if_pos (by omega), e]; exact h1 45 _ (by decide)
      · rw [if_neg e, h3 i]
        by_cases e2 : i < j
        · rw [if_pos e2, if_pos (by omega)]
        · rw [if_neg e2, if_neg (by omega)]
  obtain ⟨x, k, e, Vj, rfl, h1, h2, h3⟩ := lp_go _ Q hs N 0 (V, 0) (by omega) (by omega) ⟨V, rfl, fun _ _ _ => rfl, fun _ => rfl, fun i => by rw [if_neg (Nat.not_lt_zero _)]⟩
  refine ⟨Vj, ?_, h1, h2, h3⟩
  rw [e]
  dsimp only
  unfold Mo_image_b23
  rw [h1 44 7 (by decide), hQ, if_pos (by rw [le_nI _ _ (by omega) (by omega)]; exact Nat.le_refl _)]
theorem RR_image : LS_image RR := by
  rintro S V hRR
  obtain ⟨T, P, Q, F, c, a, B, hC, hN, hPe, hPr, hP, hTa, hLw, hLd, hCh, hBo, hSh⟩ := hRR
  obtain ⟨⟨nw, d1, d2, d3⟩, d5, d4, d6, d7, d8⟩ := hLd
  obtain ⟨eP, eQ⟩ := hC.pq hN
  obtain ⟨fP, fQ⟩ := hP.pq hN
  have hQ10 := hN.2.2.2
  unfold Ch_image De_keepImage Mo_image
  have e0 : (0 : Int32).toNatClampNeg = 0 := rfl
  have e5 : (5 : Int32).toNatClampNeg = 5 := rfl
  have e4 : (4 : Int32).toNatClampNeg = 4 := rfl
  have k2 : cpok 0 0 (nI Q) 10 10 = true := by
    unfold cpok
    refine decide_eq_true ⟨by decide, by decide, ?_, ?_, ?_⟩
    · rw [Int32.lt_iff_toInt_lt, ti Q (by omega), ti0]; omega
    · rw [e0, cl Q (by omega)]; omega
    · rw [e0, cl Q (by omega)]; omega
  rw [show cpok 0 0 5 5 5 = true from by decide, ck_true]
  simp only [nm_eq, gi_cpi, gi_si, Nat.reduceEqDiff, reduceIte, eQ, k2, ck_true, e0, e5, e4, cl Q (show Q < 5000 by omega), bd2_some, fQ, d3]
  obtain ⟨V0, hV0⟩ : ∃ V0, V0 = si (si (si V 44 24 1) 44 25 (nI Q)) 44 26 (nI nw) := ⟨_, rfl⟩
  rw [← hV0]
  have g0 : ∀ v i, v ≠ 44 → gi V0 v i = gi V v i := fun v i h => by rw [hV0]; simp only [gi_si, if_neg h]
  have g44 : ∀ i, gi V0 44 i = if i = 26 then nI nw else if i = 25 then nI Q else if i = 24 then 1 else gi V 44 i := fun i => by rw [hV0]; simp only [gi_si, if_true]
  obtain ⟨V1, v1, v2, v3, v4⟩ := Mo_image_10 (V := V0) (N := fuel) (Q := Q) (by rw [g44]; exact fQ) hQ10 (by decide)
  obtain ⟨V2, w1, w2, w3, w4⟩ := Mo_image_4 (V := V1) (N := fuel) (by decide)
  have e22 : gi V1 44 22 = nI nw := by rw [v2 44 22 (by decide), g44]; exact d3
  rw [v1, w1, e22]
  refine ⟨_, _, _, congrArg some (Prod.ext ((hC.1 31 4 rfl).trans d2) rfl), rfl, si (si (cpi (cpi T 31 32 0 0 5) 18 33 0 0 Q) 7 5 (nI Q)) 7 1 1, P, Q, F, c, a, B, (((hC.cpi (fun _ => rfl) _ _ _).cpi (fun _ => rfl) _ _ _).si _ _ _).si _ _ _, ?_⟩
  have gV : ∀ v i, v ≠ 44 → v ≠ 57 → v ≠ 58 → gi V2 v i = gi V v i := fun v i h1 h2 h3 => by rw [w2 v i h3, v2 v i h2, g0 v i h1]
  have gV44 : ∀ i, gi V2 44 i = if i = 26 then nI nw else if i = 25 then nI Q else if i = 24 then 1 else gi V 44 i := fun i => by rw [w2 44 i (by decide), v2 44 i (by decide), g44]
  have gVl : ∀ i, gl V2 63 i = gl V 63 i := fun i => by rw [w3, v3, hV0]; rfl
  have r52 : V2.1 52 = V.1 52 := funext fun i => gV 52 i (by decide) (by decide) (by decide)
  have hv45 := fun i => gV 45 i (by decide) (by decide) (by decide)
  have hv46 := fun i => gV 46 i (by decide) (by decide) (by decide)
  have hv47 := fun i => gV 47 i (by decide) (by decide) (by decide)
  have hv48 := fun i => gV 48 i (by decide) (by decide) (by decide)
  have hv49 := fun i => gV 49 i (by decide) (by decide) (by decide)
  have hv50 := fun i => gV 50 i (by decide) (by decide) (by decide)
  have hv51 := fun i => gV 51 i (by decide) (by decide) (by decide)
  have hv56 := fun i => gV 56 i (by decide) (by decide) (by decide)
  have hv59 := fun i => gV 59 i (by decide) (by decide) (by decide)
  have hv60 := fun i => gV 60 i (by decide) (by decide) (by decide)
  have hv61 := fun i => gV 61 i (by decide) (by decide) (by decide)
  have hv62 := fun i => gV 62 i (by decide) (by decide) (by decide)
  refine ⟨by simpa only [iN, gi_si, gl_si, gi_sl, gl_sl, row_si, row_sl, Nat.reduceEqDiff, reduceIte, gV44, hv45, hv46, hv47, hv48, hv49, hv50, hv51, hv56, hv59, hv60, hv61, hv62, gVl, gi_cpi, gl_cpi] using hN, by simpa only [iPe, gi_si, gl_si, gi_sl, gl_sl, row_si, row_sl, Nat.reduceEqDiff, reduceIte, gV44, hv45, hv46, hv47, hv48, hv49, hv50, hv51, hv56, hv59, hv60, hv61, hv62, gVl, gi_cpi, gl_cpi] using hPe, by simpa only [iPr, gi_si, gl_si, gi_sl, gl_sl, row_si, row_sl, Nat.reduceEqDiff, reduceIte, gV44, hv45, hv46, hv47, hv48, hv49, hv50, hv51, hv56, hv59, hv60, hv61, hv62, gVl, gi_cpi, gl_cpi] using hPr, by simpa only [rP, gi_si, gl_si, gi_sl, gl_sl, row_si, row_sl, Nat.reduceEqDiff, reduceIte, gV44, hv45, hv46, hv47, hv48, hv49, hv50, hv51, hv56, hv59, hv60, hv61, hv62, gVl, gi_cpi, gl_cpi] using hP, by simpa only [rTa, gi_si, gl_si, gi_sl, gl_sl, row_si, row_sl, Nat.reduceEqDiff, reduceIte, gV44, hv45, hv46, hv47, hv48, hv49, hv50, hv51, hv56, hv59, hv60, hv61, hv62, gVl, gi_cpi, gl_cpi] using hTa, ?_, ⟨⟨nw, d1, ?_, ?_⟩, ⟨nw, d1, ?_, ?_⟩, fun j hj => ⟨?_, ?_⟩, ?_, ⟨Q, Nat.le_refl _, ?_, ?_⟩, fun j hj => ?_⟩, by simpa only [rCh, iCe, okv, gi_si, gl_si, gi_sl, gl_sl, row_si, row_sl, Nat.reduceEqDiff, reduceIte, gV44, hv45, hv46, hv47, hv48, hv49, hv50, hv51, hv56, hv59, hv60, hv61, hv62, gVl, gi_cpi, gl_cpi] using hCh, by simpa only [rBo, gi_si, gl_si, gi_sl, gl_sl, row_si, row_sl, Nat.reduceEqDiff, reduceIte, gV44, hv45, hv46, hv47, hv48, hv49, hv50, hv51, hv56, hv59, hv60, hv61, hv62, gVl, gi_cpi, gl_cpi] using hBo, by simpa only [rSh, rS1, gi_si, gl_si, gi_sl, gl_sl, row_si, row_sl, Nat.reduceEqDiff, reduceIte, gV44, hv45, hv46, hv47, hv48, hv49, hv50, hv51, hv56, hv59, hv60, hv61, hv62, gVl, gi_cpi, gl_cpi] using hSh⟩
  · simpa only [rLw, gi_si, gl_si, gi_sl, gl_sl, row_si, row_sl, Nat.reduceEqDiff, reduceIte, gV44, hv45, hv46, hv47, hv48, hv49, hv50, hv51, hv56, hv59, hv60, hv61, hv62, gVl, gi_cpi, gl_cpi, r52, show ∀ w, (cpi T 31 32 0 0 5).1 w = if w = 32 then va_cpy (T.1 31) (T.1 32) 0 0 5 else T.1 w from fun _ => rfl, show ∀ (T : St) w, (cpi T 18 33 0 0 Q).1 w = if w = 33 then va_cpy (T.1 18) (T.1 33) 0 0 Q else T.1 w from fun _ _ => rfl] using hLw
  · simpa only [gi_si, gl_si, gi_sl, gl_sl, row_si, row_sl, Nat.reduceEqDiff, reduceIte, gV44, hv45, hv46, hv47, hv48, hv49, hv50, hv51, hv56, hv59, hv60, hv61, hv62, gVl, gi_cpi, gl_cpi] using d2
  · simpa only [gi_si, gl_si, gi_sl, gl_sl, row_si, row_sl, Nat.reduceEqDiff, reduceIte, gV44, hv45, hv46, hv47, hv48, hv49, hv50, hv51, hv56, hv59, hv60, hv61, hv62, gVl, gi_cpi, gl_cpi] using d3
  · simp only [gi_si, gl_si, gi_sl, gl_sl, row_si, row_sl, Nat.reduceEqDiff, reduceIte, gV44, hv45, hv46, hv47, hv48, hv49, hv50, hv51, hv56, hv59, hv60, hv61, hv62, gVl, gi_cpi, gl_cpi]
    (repeat (first | rw [if_pos (by omega)] | rw [if_neg (by omega)]))
    exact d2
  · simp only [gi_si, gl_si, gi_sl, gl_sl, row_si, row_sl, Nat.reduceEqDiff, reduceIte, gV44, hv45, hv46, hv47, hv48, hv49, hv50, hv51, hv56, hv59, hv60, hv61, hv62, gVl, gi_cpi, gl_cpi]
  · simp only [gi_si, gl_si, gi_sl, gl_sl, row_si, row_sl, Nat.reduceEqDiff, reduceIte, gV44, hv45, hv46, hv47, hv48, hv49, hv50, hv51, hv56, hv59, hv60, hv61, hv62, gVl, gi_cpi, gl_cpi]; exact (d4 j hj).1
  · simp only [gi_si, gl_si, gi_sl, gl_sl, row_si, row_sl, Nat.reduceEqDiff, reduceIte, gV44, hv45, hv46, hv47, hv48, hv49, hv50, hv51, hv56, hv59, hv60, hv61, hv62, gVl, gi_cpi, gl_cpi, w4 j hj, v2 56 j (by decide), g0 56 j (by decide)]
    (repeat (first | rw [if_pos (by omega)] | rw [if_neg (by omega)]))
    rw [Nat.zero_add, Nat.sub_zero]; exact (d4 j hj).1
  · simp only [gi_si, gl_si, gi_sl, gl_sl, row_si, row_sl, Nat.reduceEqDiff, reduceIte, gV44, hv45, hv46, hv47, hv48, hv49, hv50, hv51, hv56, hv59, hv60, hv61, hv62, gVl, gi_cpi, gl_cpi]
  · simp only [gi_si, gl_si, gi_sl, gl_sl, row_si, row_sl, Nat.reduceEqDiff, reduceIte, gV44, hv45, hv46, hv47, hv48, hv49, hv50, hv51, hv56, hv59, hv60, hv61, hv62, gVl, gi_cpi, gl_cpi]
  · simp only [gi_si, gl_si, gi_sl, gl_sl, row_si, row_sl, Nat.reduceEqDiff, reduceIte, gV44, hv45, hv46, hv47, hv48, hv49, hv50, hv51, hv56, hv59, hv60, hv61, hv62, gVl, gi_cpi, gl_cpi]
  · simp only [gi_si, gl_si, gi_sl, gl_sl, row_si, row_sl, Nat.reduceEqDiff, reduceIte, gV44, hv45, hv46, hv47, hv48, hv49, hv50, hv51, hv56, hv59, hv60, hv61, hv62, gVl, gi_cpi, gl_cpi, w2 57 j (by decide), v4 j, g0 45 _ (by decide), g0 57 _ (by decide)]
    by_cases hq : j < Q
    · rw [if_pos hq, if_pos (by omega), Nat.zero_add, Nat.sub_zero]
      exact ⟨(hP.2.2.2 j hj).2.2.2.2.1, (hPr j hq).2.2.2.1⟩
    · rw [if_neg hq, if_neg (by omega)]
      exact d8 j hj
