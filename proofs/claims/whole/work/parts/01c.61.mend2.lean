theorem RR_of : LS_of RR := by
  rintro S V p1 p2 hRR
  have hRR' := hRR
  obtain ⟨T, P, Q, F, c, a, B, hC, hN, hPe, hPr, hP, hTa, hLw, hLd, hCh, hBo, hSh⟩ := hRR
  have hP6 := hN.2.1
  have hQ10 := hN.2.2.2
  unfold Ch_of Mo_of
  by_cases h : 0 ≤ p2.toInt ∧ p2.toInt ≤ 8
  · obtain ⟨e, e2⟩ := i32_nI h.1
    generalize p2.toNatClampNeg = w at e e2
    subst e
    rw [Sm_has_eq hC hN (by omega), bd1_some, if_bI]
    by_cases hw : w ≤ 6
    · rw [Mo_placeOf_eq hP hN hw, bd1_some]
      by_cases hv : wi p1.toInt 0 ((if w < 3 then P else Q : Nat) - 1) = true
      · rw [if_pos hv, if_pos hv]
        obtain ⟨n, n1, rfl⟩ := wi_nI hv
        have n2 : n < if w < 3 then 6 else 10 := by split at n1 <;> (rename_i h3; simp only [h3, if_true, if_false]; omega)
        have n3 : plc w n < 58 := by unfold plc; split at n2 <;> (rename_i h3; simp only [h3, if_true, if_false]; omega)
        rw [place_nI hw, if_neg (by rw [Int32.lt_iff_toInt_lt, ti _ (by omega), ti0]; omega), inb_nI n3 (by omega), ck_true, cl _ (by omega), Sm_numberOf_eq hC hw n2, bd1_some, hP.at hw n2]
        exact ⟨_, rfl, rfl, hRR'⟩
      · rw [if_neg hv, if_neg hv, if_pos (by decide), Mo_isPromise_eq hP hN, bd1_some, if_bI]
        refine ⟨_, rfl, ?_, hRR'⟩
        split
        · rw [if_neg, if_neg]
          · intro e; have := congrArg Int32.toInt e; rw [ti _ (by omega)] at this; revert this; show (w : Int) = 8 → False; omega
          · intro e; have := congrArg Int32.toInt e; rw [ti _ (by omega)] at this; revert this; show (w : Int) = 7 → False; omega
        · rfl
    · have hw2 : w = 7 ∨ w = 8 := by omega
      rw [Mo_placeOf_no hP hN _ (by rw [ti _ (by omega)]; omega), bd1_some, show (if w < 3 then P else Q) = Q from if_neg (by omega), if_pos (by decide : (-1 : Int32) < 0), Mo_isPromise_eq hP hN, bd1_some, if_bI, Int32.toInt_toInt64]
      by_cases hv : wi p1.toInt 0 ((Q : Int) - 1) = true
      · rw [if_pos hv, if_pos hv]
        obtain ⟨n, n1, rfl⟩ := wi_nI hv
        have hp := hP.2.2.2 n (by omega)
        have hi : inb (nI n) 10 = true := inb_nI (by omega) (by omega)
        unfold Sm_numberOf
        rcases hw2 with rfl | rfl
        · rw [show Sm_rowOf S (nI 7) = some 14 from rfl, bd1_some, if_pos (show nI 7 = (7 : Int32) from rfl), hi, ck_true, cl n (by omega), hp.1]
          exact ⟨_, by rw [show isI 14 = true from rfl, show lenI 14 = 10 from rfl, hi, ck_true, ck_true, bd1_some, hC.g 14 (fun _ => rfl)], rfl, hRR'⟩
        · rw [show Sm_rowOf S (nI 8) = some 15 from rfl, bd1_some, if_neg (by decide), if_pos (show nI 8 = (8 : Int32) from rfl), hi, ck_true, cl n (by omega), hp.2.1]
          exact ⟨_, by rw [show isI 15 = true from rfl, show lenI 15 = 10 from rfl, hi, ck_true, ck_true, bd1_some, hC.g 15 (fun _ => rfl)], rfl, hRR'⟩
      · rw [if_neg hv, if_neg hv]
        exact ⟨_, rfl, rfl, hRR'⟩
  · rw [Sm_has_no S p1 h, bd1_some, if_pos rfl, Mo_placeOf_no hP hN _ (by omega), bd1_some, if_pos (by decide), Mo_isPromise_eq hP hN, bd1_some, if_bI]
    refine ⟨_, rfl, ?_, hRR'⟩
    split
    · rw [if_neg, if_neg]
      · rintro rfl; exact h (by decide)
      · rintro rfl; exact h (by decide)
    · rfl
/-- one more change -/
theorem RL_add {V T : St} {P Q F c a B w n : Nat} {x y : Int32} (h : RLk V T P Q F c a B) (hc : c < 40) (hw : w ≤ 6) (hx : okv T P Q w n x) (hy : okv T P Q w n y) :
    RLk (si (si (si (si (si V 46 c (nI (plc w n))) 47 c x) 48 c y) 44 5 (nI (c + 1))) 44 4 (nI (c + 1))) (si (si (si (si (si (si T 34 c (nI n)) 35 c (nI w)) 36 c x) 37 c y) 8 0 (nI (c + 1))) 8 1 (nI (c + 1))) P Q F (c + 1) (c + 1) B := by
  obtain ⟨hN, hPe, hPr, hP, hTa, hLw, hLd, ⟨c1, c2, c3, c4, c5, c6, c7⟩, hBo, hSh⟩ := h
  refine ⟨by simpa only [iN, gi_si, gl_si, gi_sl, gl_sl, row_si, row_sl, Nat.reduceEqDiff, reduceIte] using hN, by simpa only [iPe, gi_si, gl_si, gi_sl, gl_sl, row_si, row_sl, Nat.reduceEqDiff, reduceIte] using hPe, by simpa only [iPr, gi_si, gl_si, gi_sl, gl_sl, row_si, row_sl, Nat.reduceEqDiff, reduceIte] using hPr, by simpa only [rP, gi_si, gl_si, gi_sl, gl_sl, row_si, row_sl, Nat.reduceEqDiff, reduceIte] using hP, by simpa only [rTa, gi_si, gl_si, gi_sl, gl_sl, row_si, row_sl, Nat.reduceEqDiff, reduceIte] using hTa, by simpa only [rLw, gi_si, gl_si, gi_sl, gl_sl, row_si, row_sl, Nat.reduceEqDiff, reduceIte] using hLw, by simpa only [rLd, gi_si, gl_si, gi_sl, gl_sl, row_si, row_sl, Nat.reduceEqDiff, reduceIte] using hLd, ⟨?_, ?_, by omega, by omega, ?_, ?_, fun j hj => ?_⟩, by simpa only [rBo, gi_si, gl_si, gi_sl, gl_sl, row_si, row_sl, Nat.reduceEqDiff, reduceIte] using hBo, by simpa only [rSh, rS1, gi_si, gl_si, gi_sl, gl_sl, row_si, row_sl, Nat.reduceEqDiff, reduceIte] using hSh⟩
  · simp only [gi_si, gl_si, gi_sl, gl_sl, row_si, row_sl, Nat.reduceEqDiff, reduceIte]
  · simp only [gi_si, gl_si, gi_sl, gl_sl, row_si, row_sl, Nat.reduceEqDiff, reduceIte]
  · simp only [gi_si, gl_si, gi_sl, gl_sl, row_si, row_sl, Nat.reduceEqDiff, reduceIte]
  · simp only [gi_si, gl_si, gi_sl, gl_sl, row_si, row_sl, Nat.reduceEqDiff, reduceIte]
  · by_cases e : j = c
    · subst e
      refine ⟨w, n, hw, ?_, ?_, ?_, ?_, ?_, ?_, ?_⟩
      · simp only [gi_si, gl_si, gi_sl, gl_sl, row_si, row_sl, Nat.reduceEqDiff, reduceIte]
      · simp only [gi_si, gl_si, gi_sl, gl_sl, row_si, row_sl, Nat.reduceEqDiff, reduceIte]
      · simp only [gi_si, gl_si, gi_sl, gl_sl, row_si, row_sl, Nat.reduceEqDiff, reduceIte]
      · simp only [gi_si, gl_si, gi_sl, gl_sl, row_si, row_sl, Nat.reduceEqDiff, reduceIte]
      · simp only [gi_si, gl_si, gi_sl, gl_sl, row_si, row_sl, Nat.reduceEqDiff, reduceIte]
      · simpa only [okv, gi_si, gl_si, gi_sl, gl_sl, row_si, row_sl, Nat.reduceEqDiff, reduceIte] using hx
      · simpa only [okv, gi_si, gl_si, gi_sl, gl_sl, row_si, row_sl, Nat.reduceEqDiff, reduceIte] using hy
    · obtain ⟨w', n', b1, b2, b3, b4, b5, b6, b7, b8⟩ := c7 j (by omega)
      refine ⟨w', n', b1, ?_, ?_, ?_, ?_, ?_, ?_, ?_⟩
      · simpa only [gi_si, gl_si, gi_sl, gl_sl, row_si, row_sl, Nat.reduceEqDiff, reduceIte, e] using b2
      · simpa only [gi_si, gl_si, gi_sl, gl_sl, row_si, row_sl, Nat.reduceEqDiff, reduceIte, e] using b3
      · simpa only [gi_si, gl_si, gi_sl, gl_sl, row_si, row_sl, Nat.reduceEqDiff, reduceIte, e] using b4
      · simpa only [gi_si, gl_si, gi_sl, gl_sl, row_si, row_sl, Nat.reduceEqDiff, reduceIte, e] using b5
      · simpa only [gi_si, gl_si, gi_sl, gl_sl, row_si, row_sl, Nat.reduceEqDiff, reduceIte, e] using b6
      · simpa only [okv, gi_si, gl_si, gi_sl, gl_sl, row_si, row_sl, Nat.reduceEqDiff, reduceIte, e] using b7
      · simpa only [okv, gi_si, gl_si, gi_sl, gl_sl, row_si, row_sl, Nat.reduceEqDiff, reduceIte, e] using b8
/-- the oldest change goes -/
theorem RL_drop {V V1 T T1 : St} {P Q F a B : Nat} (h : RLk V T P Q F 40 a B)
    (hV : ∀ v i, v ≠ 46 → v ≠ 47 → v ≠ 48 → gi V1 v i = gi V v i) (hVl : ∀ i, gl V1 63 i = gl V 63 i) (hV2 : ∀ v, v = 46 ∨ v = 47 ∨ v = 48 → ∀ j, j < 40 → gi V1 v j = if j < 39 then gi V v (j + 1) else gi V v j)
    (hT : ∀ v i, v ≠ 34 → v ≠ 35 → v ≠ 36 → v ≠ 37 → gi T1 v i = gi T v i) (hTl : ∀ i, gl T1 43 i = gl T 43 i) (hT2 : ∀ v, v = 34 ∨ v = 35 ∨ v = 36 ∨ v = 37 → ∀ j, j < 40 → gi T1 v j = if j < 39 then gi T v (j + 1) else gi T v j) :
    RLk (si V1 44 5 (nI 39)) (si T1 8 0 (nI 39)) P Q F 39 a B := by
  obtain ⟨hN, hPe, hPr, hP, hTa, hLw, hLd, ⟨c1, c2, c3, c4, c5, c6, c7⟩, hBo, hSh⟩ := h
  have ea : a = 40 := by omega
  subst ea
  have rw52 : V1.1 52 = V.1 52 := funext fun i => hV 52 i (by decide) (by decide) (by decide)
  have rt21 : T1.1 21 = T.1 21 := funext fun i => hT 21 i (by decide) (by decide) (by decide) (by decide)
  have gv := fun v i => hV v i
  have hv44 := fun i => hV 44 i (by decide) (by decide) (by decide)
  have hv45 := fun i => hV 45 i (by decide) (by decide) (by decide)
  have hv49 := fun i => hV 49 i (by decide) (by decide) (by decide)
  have hv50 := fun i => hV 50 i (by decide) (by decide) (by decide)
  have hv51 := fun i => hV 51 i (by decide) (by decide) (by decide)
  have hv56 := fun i => hV 56 i (by decide) (by decide) (by decide)
  have hv57 := fun i => hV 57 i (by decide) (by decide) (by decide)
  have hv58 := fun i => hV 58 i (by decide) (by decide) (by decide)
  have hv59 := fun i => hV 59 i (by decide) (by decide) (by decide)
  have hv60 := fun i => hV 60 i (by decide) (by decide) (by decide)
  have hv61 := fun i => hV 61 i (by decide) (by decide) (by decide)
  have hv62 := fun i => hV 62 i (by decide) (by decide) (by decide)
  have ht1 := fun i => hT 1 i (by decide) (by decide) (by decide) (by decide)
  have ht2 := fun i => hT 2 i (by decide) (by decide) (by decide) (by decide)
  have ht7 := fun i => hT 7 i (by decide) (by decide) (by decide) (by decide)
  have ht8 := fun i => hT 8 i (by decide) (by decide) (by decide) (by decide)
  have ht9 := fun i => hT 9 i (by decide) (by decide) (by decide) (by decide)
  have ht11 := fun i => hT 11 i (by decide) (by decide) (by decide) (by decide)
  have ht12 := fun i => hT 12 i (by decide) (by decide) (by decide) (by decide)
  have ht13 := fun i => hT 13 i (by decide) (by decide) (by decide) (by decide)
  have ht14 := fun i => hT 14 i (by decide) (by decide) (by decide) (by decide)
  have ht15 := fun i => hT 15 i (by decide) (by decide) (by decide) (by decide)
  have ht16 := fun i => hT 16 i (by decide) (by decide) (by decide) (by decide)
  have ht17 := fun i => hT 17 i (by decide) (by decide) (by decide) (by decide)
  have ht18 := fun i => hT 18 i (by decide) (by decide) (by decide) (by decide)
  have ht19 := fun i => hT 19 i (by decide) (by decide) (by decide) (by decide)
  have ht20 := fun i => hT 20 i (by decide) (by decide) (by decide) (by decide)
  have ht31 := fun i => hT 31 i (by decide) (by decide) (by decide) (by decide)
  have ht32 := fun i => hT 32 i (by decide) (by decide) (by decide) (by decide)
  have ht33 := fun i => hT 33 i (by decide) (by decide) (by decide) (by decide)
  have ht38 := fun i => hT 38 i (by decide) (by decide) (by decide) (by decide)
  have ht39 := fun i => hT 39 i (by decide) (by decide) (by decide) (by decide)
  have ht40 := fun i => hT 40 i (by decide) (by decide) (by decide) (by decide)
  have ht41 := fun i => hT 41 i (by decide) (by decide) (by decide) (by decide)
  have ht42 := fun i => hT 42 i (by decide) (by decide) (by decide) (by decide)
  refine ⟨by simpa only [iN, gi_si, gl_si, gi_sl, gl_sl, row_si, row_sl, Nat.reduceEqDiff, reduceIte, hv44, hv45, hv49, hv50, hv51, hv56, hv57, hv58, hv59, hv60, hv61, hv62, ht1, ht2, ht7, ht8, ht9, ht11, ht12, ht13, ht14, ht15, ht16, ht17, ht18, ht19, ht20, ht31, ht32, ht33, ht38, ht39, ht40, ht41, ht42, hVl, hTl] using hN, by simpa only [iPe, gi_si, gl_si, gi_sl, gl_sl, row_si, row_sl, Nat.reduceEqDiff, reduceIte, hv44, hv45, hv49, hv50, hv51, hv56, hv57, hv58, hv59, hv60, hv61, hv62, ht1, ht2, ht7, ht8, ht9, ht11, ht12, ht13, ht14, ht15, ht16, ht17, ht18, ht19, ht20, ht31, ht32, ht33, ht38, ht39, ht40, ht41, ht42, hVl, hTl] using hPe, by simpa only [iPr, gi_si, gl_si, gi_sl, gl_sl, row_si, row_sl, Nat.reduceEqDiff, reduceIte, hv44, hv45, hv49, hv50, hv51, hv56, hv57, hv58, hv59, hv60, hv61, hv62, ht1, ht2, ht7, ht8, ht9, ht11, ht12, ht13, ht14, ht15, ht16, ht17, ht18, ht19, ht20, ht31, ht32, ht33, ht38, ht39, ht40, ht41, ht42, hVl, hTl] using hPr, by simpa only [rP, gi_si, gl_si, gi_sl, gl_sl, row_si, row_sl, Nat.reduceEqDiff, reduceIte, hv44, hv45, hv49, hv50, hv51, hv56, hv57, hv58, hv59, hv60, hv61, hv62, ht1, ht2, ht7, ht8, ht9, ht11, ht12, ht13, ht14, ht15, ht16, ht17, ht18, ht19, ht20, ht31, ht32, ht33, ht38, ht39, ht40, ht41, ht42, hVl, hTl] using hP, by simpa only [rTa, gi_si, gl_si, gi_sl, gl_sl, row_si, row_sl, Nat.reduceEqDiff, reduceIte, hv44, hv45, hv49, hv50, hv51, hv56, hv57, hv58, hv59, hv60, hv61, hv62, ht1, ht2, ht7, ht8, ht9, ht11, ht12, ht13, ht14, ht15, ht16, ht17, ht18, ht19, ht20, ht31, ht32, ht33, ht38, ht39, ht40, ht41, ht42, hVl, hTl] using hTa, ?_, by simpa only [rLd, gi_si, gl_si, gi_sl, gl_sl, row_si, row_sl, Nat.reduceEqDiff, reduceIte, hv44, hv45, hv49, hv50, hv51, hv56, hv57, hv58, hv59, hv60, hv61, hv62, ht1, ht2, ht7, ht8, ht9, ht11, ht12, ht13, ht14, ht15, ht16, ht17, ht18, ht19, ht20, ht31, ht32, ht33, ht38, ht39, ht40, ht41, ht42, hVl, hTl] using hLd, ⟨?_, ?_, by omega, by omega, ?_, ?_, fun j hj => ?_⟩, by simpa only [rBo, gi_si, gl_si, gi_sl, gl_sl, row_si, row_sl, Nat.reduceEqDiff, reduceIte, hv44, hv45, hv49, hv50, hv51, hv56, hv57, hv58, hv59, hv60, hv61, hv62, ht1, ht2, ht7, ht8, ht9, ht11, ht12, ht13, ht14, ht15, ht16, ht17, ht18, ht19, ht20, ht31, ht32, ht33, ht38, ht39, ht40, ht41, ht42, hVl, hTl] using hBo, by simpa only [rSh, rS1, gi_si, gl_si, gi_sl, gl_sl, row_si, row_sl, Nat.reduceEqDiff, reduceIte, hv44, hv45, hv49, hv50, hv51, hv56, hv57, hv58, hv59, hv60, hv61, hv62, ht1, ht2, ht7, ht8, ht9, ht11, ht12, ht13, ht14, ht15, ht16, ht17, ht18, ht19, ht20, ht31, ht32, ht33, ht38, ht39, ht40, ht41, ht42, hVl, hTl] using hSh⟩
  · simpa only [rLw, gi_si, gl_si, gi_sl, gl_sl, row_si, row_sl, Nat.reduceEqDiff, reduceIte, hv44, hv45, hv49, hv50, hv51, hv56, hv57, hv58, hv59, hv60, hv61, hv62, ht1, ht2, ht7, ht8, ht9, ht11, ht12, ht13, ht14, ht15, ht16, ht17, ht18, ht19, ht20, ht31, ht32, ht33, ht38, ht39, ht40, ht41, ht42, hVl, hTl, rw52, rt21] using hLw
  · simp only [gi_si, gl_si, gi_sl, gl_sl, row_si, row_sl, Nat.reduceEqDiff, reduceIte]
  · simpa only [gi_si, gl_si, gi_sl, gl_sl, row_si, row_sl, Nat.reduceEqDiff, reduceIte, hv44, hv45, hv49, hv50, hv51, hv56, hv57, hv58, hv59, hv60, hv61, hv62, ht1, ht2, ht7, ht8, ht9, ht11, ht12, ht13, ht14, ht15, ht16, ht17, ht18, ht19, ht20, ht31, ht32, ht33, ht38, ht39, ht40, ht41, ht42, hVl, hTl] using c2
  · simp only [gi_si, gl_si, gi_sl, gl_sl, row_si, row_sl, Nat.reduceEqDiff, reduceIte]
  · simpa only [gi_si, gl_si, gi_sl, gl_sl, row_si, row_sl, Nat.reduceEqDiff, reduceIte, hv44, hv45, hv49, hv50, hv51, hv56, hv57, hv58, hv59, hv60, hv61, hv62, ht1, ht2, ht7, ht8, ht9, ht11, ht12, ht13, ht14, ht15, ht16, ht17, ht18, ht19, ht20, ht31, ht32, ht33, ht38, ht39, ht40, ht41, ht42, hVl, hTl] using c6
  · obtain ⟨k, hk, hk2⟩ : ∃ k, k < 40 ∧ k = if j < 39 then j + 1 else j := ⟨_, by split <;> omega, rfl⟩
    obtain ⟨w', n', b1, b2, b3, b4, b5, b6, b7, b8⟩ := c7 k hk
    have q : ∀ v, v = 46 ∨ v = 47 ∨ v = 48 → gi V1 v j = gi V v k := fun v hv => by rw [hV2 v hv j (by omega), hk2]; split <;> rfl
    have q' : ∀ v, v = 34 ∨ v = 35 ∨ v = 36 ∨ v = 37 → gi T1 v j = gi T v k := fun v hv => by rw [hT2 v hv j (by omega), hk2]; split <;> rfl
    refine ⟨w', n', b1, ?_, ?_, ?_, ?_, ?_, ?_, ?_⟩
    · simpa only [gi_si, gl_si, gi_sl, gl_sl, row_si, row_sl, Nat.reduceEqDiff, reduceIte, q' 35 (by omega)] using b2
    · simpa only [gi_si, gl_si, gi_sl, gl_sl, row_si, row_sl, Nat.reduceEqDiff, reduceIte, q' 34 (by omega)] using b3
    · simpa only [gi_si, gl_si, gi_sl, gl_sl, row_si, row_sl, Nat.reduceEqDiff, reduceIte, q 46 (by omega)] using b4
    · simpa only [gi_si, gl_si, gi_sl, gl_sl, row_si, row_sl, Nat.reduceEqDiff, reduceIte, q 47 (by omega), q' 36 (by omega)] using b5
    · simpa only [gi_si, gl_si, gi_sl, gl_sl, row_si, row_sl, Nat.reduceEqDiff, reduceIte, q 48 (by omega), q' 37 (by omega)] using b6
    · simpa only [okv, gi_si, gl_si, gi_sl, gl_sl, row_si, row_sl, Nat.reduceEqDiff, reduceIte, ht15, q' 36 (by omega)] using b7
    · simpa only [okv, gi_si, gl_si, gi_sl, gl_sl, row_si, row_sl, Nat.reduceEqDiff, reduceIte, ht15, q' 37 (by omega)] using b8
