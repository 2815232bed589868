def cnt (f : Nat → Bool) : Nat → Nat
  | 0 => 0
  | j + 1 => cnt f j + (if f j = true then 1 else 0)
theorem pop_add : ∀ j, j < 10 → ∀ n, n < 2 ^ j → pop (n + 2 ^ j) = pop n + 1 := by decide +kernel
theorem pop_setU (f : Nat → Bool) : ∀ j, j ≤ 10 → pop (setU f j) = cnt f j
  | 0, _ => by show pop 0 = 0; decide
  | j + 1, h => by
    unfold setU cnt
    by_cases e : f j = true
    · rw [if_pos e, if_pos e, pop_add j (by omega) _ (setU_lt f j), pop_setU f j (by omega)]
    · rw [if_neg e, if_neg e, Nat.add_zero, Nat.add_zero, pop_setU f j (by omega)]
theorem cnt_le (f : Nat → Bool) : ∀ j, cnt f j ≤ j
  | 0 => Nat.le_refl _
  | j + 1 => by
    have := cnt_le f j
    unfold cnt; split <;> omega
theorem Sm_openOnes_eq {S T : St} {P Q N : Nat} (hC : Core S T) (hN : iN T P Q) (d : Int32) (hf : 10 < N) : Sm_openOnes N S d = some (nI (setU (fun p => opn T p d) Q)) := by
  obtain ⟨-, -, hQ, hQ10⟩ := hN
  unfold Sm_openOnes Sm_openOnes_L4
  refine lp_run (fun j => (nI (setU (fun p => opn T p d) j), nI j)) Q (fun k => ?_) N 0 (by omega) (by omega) (fun j _ hj k => ?_)
  · unfold Sm_openOnes_b4
    rw [hC.1 1 10 rfl, hQ, if_pos (by rw [le_nI _ _ (by omega) (by omega)]; exact Nat.le_refl _)]
  · unfold Sm_openOnes_b4
    dsimp only
    rw [hC.1 1 10 rfl, hQ, if_neg (by rw [le_nI _ _ (by omega) (by omega)]; omega), Sm_isOpen_eq hC (by omega), bd1_some, or_all j (by omega) _ (setU_lt _ j)]
    simp only [nm_eq, bI_0, nI_1, setU]
    by_cases h : opn T j d = true <;> simp [h]
theorem si_comm (V : St) {v w : Nat} (h : v ≠ w) (i j : Nat) (x y : Int32) : si (si V v i x) w j y = si (si V w j y) v i x := by
  unfold si
  congr 1
  funext u
  dsimp only
  by_cases e1 : u = v
  · subst e1; simp [h]
  · by_cases e2 : u = w
    · subst e2; simp [e1]
    · simp [e1, e2]
theorem Core.cpi {S T : St} (h : Core S T) {a b : Nat} (ha : ∀ i, scr a i = false) (s d n : Nat) : Core (cpi S a b s d n) (cpi T a b s d n) := ⟨fun w j hw => by
  rw [gi_cpi, gi_cpi, h.1 w j hw, h.1 a _ (ha _)], fun i => h.2 i⟩
theorem RR_feed : LS_feed RR := by
  rintro S V p1 hRR
  have hRR' := hRR
  obtain ⟨T, P, Q, F, c, a, B, hC, hN, hPe, hPr, hP, ⟨t1, t2, t3, t4⟩, hLw, hLd, hCh, hBo, hSh⟩ := hRR
  unfold Ch_feed Mo_feed La_take
  simp only [Ch_within_eq, Mo_within_eq, bd1_some, if_bI, Int32.toInt_toInt64, tI0, tI255, ti0, ti255, hC.1 2 0 rfl, t1, t3]
  by_cases h1 : wi p1.toInt 0 255 = true
  · rw [if_pos h1, if_pos h1]
    by_cases h2 : F < 120
    · rw [if_neg (by show ¬ nI F = nI 120; rw [eq_nI _ _ (by omega) (by omega)]; omega), if_neg (by show ¬ nI F = nI 120; rw [eq_nI _ _ (by omega) (by omega)]; omega)]
      simp only [inb_nI (j := F) (n := 120) h2 (by omega), ck_true, cl F (by omega), nm_eq, gi_si, gl_si, gi_sl, gl_sl, row_si, row_sl, Nat.reduceEqDiff, reduceIte, hC.1 2 0 rfl, t1, t3, nI_1, bd2_some]
      refine ⟨_, _, _, rfl, rfl, si (si T 20 F p1) 2 0 (nI (F + 1)), P, Q, F + 1, c, a, B, (hC.si _ _ _).si _ _ _, by simpa only [iN, gi_si, gl_si, gi_sl, gl_sl, row_si, row_sl, Nat.reduceEqDiff, reduceIte] using hN, by simpa only [iPe, gi_si, gl_si, gi_sl, gl_sl, row_si, row_sl, Nat.reduceEqDiff, reduceIte] using hPe, by simpa only [iPr, gi_si, gl_si, gi_sl, gl_sl, row_si, row_sl, Nat.reduceEqDiff, reduceIte] using hPr, by simpa only [rP, gi_si, gl_si, gi_sl, gl_sl, row_si, row_sl, Nat.reduceEqDiff, reduceIte] using hP, ⟨?_, by omega, ?_, fun j hj => ?_⟩, by simpa only [rLw, gi_si, gl_si, gi_sl, gl_sl, row_si, row_sl, Nat.reduceEqDiff, reduceIte] using hLw, by simpa only [rLd, gi_si, gl_si, gi_sl, gl_sl, row_si, row_sl, Nat.reduceEqDiff, reduceIte] using hLd, by simpa only [rCh, iCe, okv, gi_si, gl_si, gi_sl, gl_sl, row_si, row_sl, Nat.reduceEqDiff, reduceIte] using hCh, by simpa only [rBo, gi_si, gl_si, gi_sl, gl_sl, row_si, row_sl, Nat.reduceEqDiff, reduceIte] using hBo, by simpa only [rSh, rS1, gi_si, gl_si, gi_sl, gl_sl, row_si, row_sl, Nat.reduceEqDiff, reduceIte] using hSh⟩
      · simp only [gi_si, gl_si, gi_sl, gl_sl, row_si, row_sl, Nat.reduceEqDiff, reduceIte]
      · simp only [gi_si, gl_si, gi_sl, gl_sl, row_si, row_sl, Nat.reduceEqDiff, reduceIte]
      · simp only [gi_si, gl_si, gi_sl, gl_sl, row_si, row_sl, Nat.reduceEqDiff, reduceIte]
        by_cases e : j = F
        · rw [if_pos e, if_pos e]
          exact ⟨rfl, fun _ => by rw [wi_t] at h1; exact h1⟩
        · rw [if_neg e, if_neg e]
          exact ⟨(t4 j hj).1, fun h => (t4 j hj).2 (by omega)⟩
    · rw [if_pos (by show nI F = nI 120; rw [eq_nI _ _ (by omega) (by omega)]; omega), if_pos (by show nI F = nI 120; rw [eq_nI _ _ (by omega) (by omega)]; omega)]
      exact ⟨_, _, _, rfl, rfl, hRR'⟩
  · rw [if_neg h1, if_neg h1]
    exact ⟨_, _, _, rfl, rfl, hRR'⟩
theorem RR_count : LS_count RR := by
  rintro S V p1 hRR
  have hRR' := hRR
  obtain ⟨T, P, Q, F, c, a, B, hC, hN, hPe, hPr, hP, ⟨t1, t2, t3, t4⟩, hLw, hLd, ⟨c1, c2, c3, c4, c5, c6, c7⟩, ⟨b1, b2, b3, b4, b5, b6⟩, hSh⟩ := hRR
  unfold Ch_count Mo_count
  rw [hC.1 1 9 rfl, hC.1 1 10 rfl, hC.1 2 0 rfl, hC.1 8 0 rfl, hC.1 9 0 rfl, hC.1 9 1 rfl, hP.1, hP.2.1, t1, t3, c1, c5, b1, b3, b5]
  by_cases h0 : p1 = 0
  · simp only [h0, if_true]; exact ⟨_, rfl, rfl, hRR'⟩
  simp only [h0, if_false]
  by_cases h0 : p1 = 1
  · simp only [h0, if_true]; exact ⟨_, rfl, rfl, hRR'⟩
  simp only [h0, if_false]
  by_cases h0 : p1 = 2
  · simp only [h0, if_true]; exact ⟨_, rfl, rfl, hRR'⟩
  simp only [h0, if_false]
  by_cases h0 : p1 = 3
  · simp only [h0, if_true]; exact ⟨_, rfl, rfl, hRR'⟩
  simp only [h0, if_false]
  by_cases h0 : p1 = 4
  · simp only [h0, if_true]; exact ⟨_, rfl, rfl, hRR'⟩
  simp only [h0, if_false]
  by_cases h0 : p1 = 5
  · simp only [h0, if_true]; exact ⟨_, rfl, rfl, hRR'⟩
  simp only [h0, if_false]
  exact ⟨_, rfl, rfl, hRR'⟩
theorem RR_led : LS_led RR := by
  rintro S V p1 hRR
  have hRR' := hRR
  obtain ⟨T, P, Q, F, c, a, B, hC, hN, hPe, hPr, hP, hTa, hLw, ⟨⟨nw, d1, d2, d3⟩, -, d4, -⟩, hCh, hBo, hSh⟩ := hRR
  unfold Ch_led Mo_led
  simp only [Ch_within_eq, Mo_within_eq, bd1_some, if_bI, Int32.toInt_toInt64, tI0, tI3, ti0, ti4]
  by_cases h1 : wi p1.toInt 0 3 = true
  · rw [if_pos h1]
    rw [wi_t] at h1
    obtain ⟨e, e2⟩ := i32_nI h1.1
    generalize p1.toNatClampNeg = w at e e2
    subst e
    rw [ti w (by omega)] at h1 ⊢
    rw [if_pos (by rw [wi_t]; omega), inb_nI (j := w) (n := 5) (by omega) (by omega), inb_nI (j := w) (n := 4) (by omega) (by omega), ck_true, ck_true, (d4 w (by omega)).1, hC.g 31 (fun _ => rfl)]
    exact ⟨_, rfl, rfl, hRR'⟩
  · rw [if_neg h1]
    by_cases h2 : p1 = 4
    · subst h2
      rw [if_pos rfl, if_pos (by decide)]
      refine ⟨_, ?_, rfl, hRR'⟩
      rw [show inb 4 5 = true from by decide, ck_true, hC.g 31 (fun _ => rfl), d3, ← d2]; rfl
    · rw [if_neg h2, if_neg]
      · exact ⟨_, rfl, rfl, hRR'⟩
      · intro h3
        rw [wi_t] at h1 h3
        exact h2 (Int32.toInt_inj.mp (by rw [ti4]; omega))
theorem De_now_eq {S T : St} (hC : Core S T) : De_now S = some (gi T 31 4) := by
  unfold De_now
  rw [show (4 : Int32).toNatClampNeg = 4 from rfl, hC.g 31 (fun _ => rfl)]
theorem RR_passes : LS_passes RR := by
  rintro S V hRR
  have hRR' := hRR
  obtain ⟨T, P, Q, F, c, a, B, hC, hR⟩ := hRR
  obtain ⟨hN, hPe, hPr, hP, hTa, hLw, hLd, hCh, hBo, hSh⟩ := hR
  obtain ⟨⟨nw, d1, d2, d3⟩, d5, d4, d6, d7, d8⟩ := hLd
  have hP6 := hN.2.1
  unfold Ch_passes Mo_passes De_endDay
  rw [De_now_eq hC, bd1_some, d2, d3]
  by_cases h : nw < 99
  · rw [if_neg (by show ¬ nI nw = nI 99; rw [eq_nI _ _ (by omega) (by omega)]; omega), if_neg (by show ¬ nI nw = nI 99; rw [eq_nI _ _ (by omega) (by omega)]; omega)]
    have e0 : (0 : Int32).toNatClampNeg = 0 := rfl
    have e3 : (3 : Int32).toNatClampNeg = 3 := rfl
    have e4 : (4 : Int32).toNatClampNeg = 4 := rfl
    have hM1 : MP (si V 56 0 (gi V 56 0 + 1)) T P Q := ⟨by simpa only [rP, gi_si, gl_si, gi_sl, gl_sl, row_si, row_sl, Nat.reduceEqDiff, reduceIte] using hP, hN, hPe, hPr⟩
    have hs := setU_lt10 (fun o => rid T Q o (nI nw)) (j := P) (by omega)
    simp only [e0, e3, e4, nm_eq, gi_si, gl_si, gi_sl, gl_sl, row_si, row_sl, Nat.reduceEqDiff, reduceIte, (hC.1 31 4 rfl).trans d2, d3, Sm_ridersOn_eq (N := fuel) ⟨hC, hN, hPe, hPr⟩ _ (by decide), Mo_ridersOn_eq (N := fuel) hM1 _ (by decide), bd1_some, In_bitCount_eq _ hs, Mo_bitsOf_eq (N := fuel) _ hs (by decide), nI_1, bd2_some]
    refine ⟨_, _, _, rfl, rfl, si (si (si T 31 3 (gi S 31 3 + nI (pop (setU (fun o => rid T Q o (nI nw)) P)))) 31 0 (gi S 31 0 + 1)) 31 4 (nI (nw + 1)), P, Q, F, c, a, B, ((hC.si _ _ _).si _ _ _).si _ _ _, by simpa only [iN, gi_si, gl_si, gi_sl, gl_sl, row_si, row_sl, Nat.reduceEqDiff, reduceIte] using hN, by simpa only [iPe, gi_si, gl_si, gi_sl, gl_sl, row_si, row_sl, Nat.reduceEqDiff, reduceIte] using hPe, by simpa only [iPr, gi_si, gl_si, gi_sl, gl_sl, row_si, row_sl, Nat.reduceEqDiff, reduceIte] using hPr, by simpa only [rP, gi_si, gl_si, gi_sl, gl_sl, row_si, row_sl, Nat.reduceEqDiff, reduceIte] using hP, by simpa only [rTa, gi_si, gl_si, gi_sl, gl_sl, row_si, row_sl, Nat.reduceEqDiff, reduceIte] using hTa, by simpa only [rLw, gi_si, gl_si, gi_sl, gl_sl, row_si, row_sl, Nat.reduceEqDiff, reduceIte] using hLw, ⟨⟨nw + 1, by omega, ?_, ?_⟩, by simpa only [gi_si, gl_si, gi_sl, gl_sl, row_si, row_sl, Nat.reduceEqDiff, reduceIte] using d5, fun j hj => ?_, by simpa only [gi_si, gl_si, gi_sl, gl_sl, row_si, row_sl, Nat.reduceEqDiff, reduceIte] using d6, by simpa only [gi_si, gl_si, gi_sl, gl_sl, row_si, row_sl, Nat.reduceEqDiff, reduceIte] using d7, by simpa only [gi_si, gl_si, gi_sl, gl_sl, row_si, row_sl, Nat.reduceEqDiff, reduceIte] using d8⟩, by simpa only [rCh, iCe, okv, gi_si, gl_si, gi_sl, gl_sl, row_si, row_sl, Nat.reduceEqDiff, reduceIte] using hCh, by simpa only [rBo, gi_si, gl_si, gi_sl, gl_sl, row_si, row_sl, Nat.reduceEqDiff, reduceIte] using hBo, by simpa only [rSh, rS1, gi_si, gl_si, gi_sl, gl_sl, row_si, row_sl, Nat.reduceEqDiff, reduceIte] using hSh⟩
    · simp only [gi_si, gl_si, gi_sl, gl_sl, row_si, row_sl, Nat.reduceEqDiff, reduceIte]
    · simp only [gi_si, gl_si, gi_sl, gl_sl, row_si, row_sl, Nat.reduceEqDiff, reduceIte]
    · simp only [gi_si, gl_si, gi_sl, gl_sl, row_si, row_sl, Nat.reduceEqDiff, reduceIte]
      obtain ⟨x1, x2⟩ := d4 j hj
      have y0 := (d4 0 (by omega)).1
      have y3 := (d4 3 (by omega)).1
      have z0 := hC.1 31 0 rfl
      have z3 := hC.1 31 3 rfl
      refine ⟨?_, x2⟩
      by_cases j0 : j = 0
      · (repeat (first | rw [if_pos (by omega)] | rw [if_neg (by omega)]))
        rw [y0, z0]
      · by_cases j3 : j = 3
        · (repeat (first | rw [if_pos (by omega)] | rw [if_neg (by omega)]))
          rw [y3, z3]
        · (repeat (first | rw [if_pos (by omega)] | rw [if_neg (by omega)]))
          exact x1
  · rw [if_pos (by show nI nw = nI 99; rw [eq_nI _ _ (by omega) (by omega)]; omega), if_pos (by show nI nw = nI 99; rw [eq_nI _ _ (by omega) (by omega)]; omega)]
    exact ⟨_, _, _, rfl, rfl, hRR'⟩
theorem RR_vow : LS_vow RR := by
  rintro S V p1 p2 hRR
  have hRR' := hRR
  obtain ⟨T, P, Q, F, c, a, B, hC, hR⟩ := hRR
  have hR' := hR
  obtain ⟨hN, hPe, hPr, hP, hTa, hLw, hLd, hCh, hBo, hSh⟩ := hR'
  obtain ⟨⟨nw, d1, d2, d3⟩, d5, d4, d6, d7, d8⟩ := hLd
  obtain ⟨eP, eQ⟩ := hC.pq hN
  obtain ⟨fP, fQ⟩ := hP.pq hN
  have hQ10 := hN.2.2.2
  have hP6 := hN.2.1
  obtain ⟨q1, r1, a1, a2, a3, a4, a5⟩ := dm p1 10 10 rfl (by omega)
  unfold Ch_vow Mo_vow De_makePromise
  rw [De_now_eq hC, bd1_some, Sm_canPromise_eq hC hN, bd1_some, if_bI, Mo_mayCome_eq hP hN, bd1_some, if_bI]
  simp only [Int32.toInt_toInt64, a1, a2, Int32.lt_iff_toInt_lt (x := p1), ti0, d2, d3, ti nw (by omega)]
  by_cases h1 : p1.toInt < 0
  · have := a5 h1
    rw [if_pos h1, if_neg (fun h => by have := cpb_t h; omega)]
    exact ⟨_, _, _, rfl, rfl, hRR'⟩
  · rw [if_neg h1]
    by_cases h3 : cpb P q1 nw p2.toInt r1 = true
    · rw [if_pos h3, if_pos h3]
      obtain ⟨⟨c1, c2⟩, ⟨c3, c4⟩, c5, c6⟩ := cpb_t h3
      unfold Sm_isFull
      rw [eQ, fQ]
      by_cases hq : Q < 10
      · rw [if_pos (by show nI Q < nI 10; rw [lt_nI _ _ (by omega) (by omega)]; exact hq), if_neg (by show ¬ nI Q = nI 10; rw [eq_nI _ _ (by omega) (by omega)]; omega), bd1_some, if_pos rfl]
        obtain ⟨e, e2⟩ := i32_nI (x := p1 / 10) (by omega)
        generalize (p1 / 10).toNatClampNeg = w at e e2
        have hR2 : RLk (si V 56 1 (gi V 56 1 + 1)) (si T 31 1 (gi S 31 1 + 1)) P Q F c a B := by
          refine ⟨by simpa only [iN, gi_si, gl_si, gi_sl, gl_sl, row_si, row_sl, Nat.reduceEqDiff, reduceIte] using hN, by simpa only [iPe, gi_si, gl_si, gi_sl, gl_sl, row_si, row_sl, Nat.reduceEqDiff, reduceIte] using hPe, by simpa only [iPr, gi_si, gl_si, gi_sl, gl_sl, row_si, row_sl, Nat.reduceEqDiff, reduceIte] using hPr, by simpa only [rP, gi_si, gl_si, gi_sl, gl_sl, row_si, row_sl, Nat.reduceEqDiff, reduceIte] using hP, by simpa only [rTa, gi_si, gl_si, gi_sl, gl_sl, row_si, row_sl, Nat.reduceEqDiff, reduceIte] using hTa, by simpa only [rLw, gi_si, gl_si, gi_sl, gl_sl, row_si, row_sl, Nat.reduceEqDiff, reduceIte] using hLw, ⟨⟨nw, d1, by simpa only [gi_si, gl_si, gi_sl, gl_sl, row_si, row_sl, Nat.reduceEqDiff, reduceIte] using d2, by simpa only [gi_si, gl_si, gi_sl, gl_sl, row_si, row_sl, Nat.reduceEqDiff, reduceIte] using d3⟩, by simpa only [gi_si, gl_si, gi_sl, gl_sl, row_si, row_sl, Nat.reduceEqDiff, reduceIte] using d5, fun j hj => ?_, by simpa only [gi_si, gl_si, gi_sl, gl_sl, row_si, row_sl, Nat.reduceEqDiff, reduceIte] using d6, by simpa only [gi_si, gl_si, gi_sl, gl_sl, row_si, row_sl, Nat.reduceEqDiff, reduceIte] using d7, by simpa only [gi_si, gl_si, gi_sl, gl_sl, row_si, row_sl, Nat.reduceEqDiff, reduceIte] using d8⟩, by simpa only [rCh, iCe, okv, gi_si, gl_si, gi_sl, gl_sl, row_si, row_sl, Nat.reduceEqDiff, reduceIte] using hCh, by simpa only [rBo, gi_si, gl_si, gi_sl, gl_sl, row_si, row_sl, Nat.reduceEqDiff, reduceIte] using hBo, by simpa only [rSh, rS1, gi_si, gl_si, gi_sl, gl_sl, row_si, row_sl, Nat.reduceEqDiff, reduceIte] using hSh⟩
          simp only [gi_si, gl_si, gi_sl, gl_sl, row_si, row_sl, Nat.reduceEqDiff, reduceIte]
          obtain ⟨x1, x2⟩ := d4 j hj
          refine ⟨?_, x2⟩
          by_cases j0 : j = 1
          · (repeat (first | rw [if_pos (by omega)] | rw [if_neg (by omega)]))
            rw [(d4 1 (by omega)).1, hC.1 31 1 rfl]
          · (repeat (first | rw [if_pos (by omega)] | rw [if_neg (by omega)]))
            exact x1
        have e1 : (1 : Int32).toNatClampNeg = 1 := rfl
        have e4 : (4 : Int32).toNatClampNeg = 4 := rfl
        obtain ⟨S1, V1, T1, s1, s2, s3, s4, -⟩ := add_pr (w := w) (p2 := nI nw) (p3 := p2) (p4 := p1 - p1 / 10 * 10) (hC.si 31 1 (gi S 31 1 + 1)) hR2 hq (by omega) (by rw [ti nw (by omega)]; omega) (by rw [ti nw (by omega)]; omega) (by omega)
        rw [← e] at s1 s2
        simp only [nm_eq, e1, e4, gi_si, gl_si, gi_sl, gl_sl, row_si, row_sl, Nat.reduceEqDiff, reduceIte, d3, (hC.1 31 4 rfl).trans d2]
        rw [s1, s2, bd2_some, bd2_some]
        exact ⟨_, _, _, rfl, rfl, T1, P, Q + 1, F, c, a, B, s3, s4⟩
      · rw [if_neg (by show ¬ nI Q < nI 10; rw [lt_nI _ _ (by omega) (by omega)]; exact hq), if_pos (by show nI Q = nI 10; rw [eq_nI _ _ (by omega) (by omega)]; omega), bd1_some, if_neg (by decide)]
        exact ⟨_, _, _, rfl, rfl, hRR'⟩
    · rw [if_neg h3, if_neg h3]
      exact ⟨_, _, _, rfl, rfl, hRR'⟩
