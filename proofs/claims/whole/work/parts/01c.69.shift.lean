theorem shift1 (V : St) {d i n N : Nat} (hd : d < 6) (hi : i + n ≤ 60) (hf : 61 < N) (l3 l4 : Int32) : ∃ V', Mo_shift_L113 N (nI d) (nI i) l3 l4 (nI n) (V, 0) = Mo_shift_L150 N l3 l4 (nI n) (V', 0) ∧ (∀ v k, gi V' v k = gi V v k) ∧ (∀ k, gl V' 63 k = gl V 63 k) ∧ ∀ k, k < n → gl V' 64 k = gl V 63 (60 * d + i + k) := by
  unfold Mo_shift_L113
  have hs : ∀ j (x : St × Int32), j < n → (fun j (x : St × Int32) => ∃ Vj, x = (Vj, nI j) ∧ (∀ v k, gi Vj v k = gi V v k) ∧ (∀ k, gl Vj 63 k = gl V 63 k) ∧ ∀ k, k < j → gl Vj 64 k = gl V 63 (60 * d + i + k)) j x → ∃ x', (∀ k, (fun k (x : St × Int32) => Mo_shift_b113 N k x.1 (nI d) (nI i) l3 l4 (nI n) x.2) k x = k x') ∧ (fun j (x : St × Int32) => ∃ Vj, x = (Vj, nI j) ∧ (∀ v k, gi Vj v k = gi V v k) ∧ (∀ k, gl Vj 63 k = gl V 63 k) ∧ ∀ k, k < j → gl Vj 64 k = gl V 63 (60 * d + i + k)) (j + 1) x' := by
    rintro j x hj ⟨Vj, rfl, h1, h2, h3⟩
    refine ⟨(sl Vj 64 j (gl Vj 63 (60 * d + i + j)), nI (j + 1)), fun k => ?_, _, rfl, fun v k => h1 v k, fun k => ?_, fun k hk => ?_⟩
    · dsimp only
      unfold Mo_shift_b113
      rw [if_neg (by rw [le_nI _ _ (by omega) (by omega)]; omega), (s60 d).2, nI_add, nI_add, inb_nI (j := 60 * d + i + j) (n := 360) (by omega) (by omega), inb_nI (j := j) (n := 60) (by omega) (by omega), ck_true, ck_true, cl (60 * d + i + j) (by omega), cl j (by omega), nm_eq, nm_eq, nI_1]
    · rw [gl_sl, if_neg (by decide)]; exact h2 k
    · rw [gl_sl, if_pos rfl]
      by_cases e : k = j
      · rw [if_pos e, e]; exact h2 _
      · rw [if_neg e]; exact h3 k (by omega)
  obtain ⟨x, k, e, Vj, rfl, h1, h2, h3⟩ := lp_go _ n hs N 0 (V, 0) (by omega) (by omega) ⟨V, rfl, fun _ _ => rfl, fun _ => rfl, fun k hk => absurd hk (Nat.not_lt_zero _)⟩
  refine ⟨Vj, ?_, h1, h2, h3⟩
  rw [e]
  dsimp only
  unfold Mo_shift_b113
  rw [if_pos (Int32.le_refl _)]
theorem shift2 (V : St) {d i n N : Nat} (hd : d < 6) (hi : i + n ≤ 60) (hf : 61 < N) : ∃ V', Mo_shift_L150 N (nI d) (nI i) (nI n) (V, 0) = some (nI n, V') ∧ (∀ v k, gi V' v k = gi V v k) ∧ ∀ k, gl V' 63 k = if 60 * d + i ≤ k ∧ k < 60 * d + i + n then gl V 64 (k - (60 * d + i)) else gl V 63 k := by
  unfold Mo_shift_L150
  have hs : ∀ j (x : St × Int32), j < n → (fun j (x : St × Int32) => ∃ Vj, x = (Vj, nI j) ∧ (∀ v k, gi Vj v k = gi V v k) ∧ (∀ k, gl Vj 64 k = gl V 64 k) ∧ ∀ k, gl Vj 63 k = if 60 * d + i ≤ k ∧ k < 60 * d + i + j then gl V 64 (k - (60 * d + i)) else gl V 63 k) j x → ∃ x', (∀ k, (fun k (x : St × Int32) => Mo_shift_b150 N k x.1 (nI d) (nI i) (nI n) x.2) k x = k x') ∧ (fun j (x : St × Int32) => ∃ Vj, x = (Vj, nI j) ∧ (∀ v k, gi Vj v k = gi V v k) ∧ (∀ k, gl Vj 64 k = gl V 64 k) ∧ ∀ k, gl Vj 63 k = if 60 * d + i ≤ k ∧ k < 60 * d + i + j then gl V 64 (k - (60 * d + i)) else gl V 63 k) (j + 1) x' := by
    rintro j x hj ⟨Vj, rfl, h1, h2, h3⟩
    refine ⟨(sl Vj 63 (60 * d + i + j) (gl Vj 64 j), nI (j + 1)), fun k => ?_, _, rfl, fun v k => h1 v k, fun k => ?_, fun k => ?_⟩
    · dsimp only
      unfold Mo_shift_b150
      rw [if_neg (by rw [le_nI _ _ (by omega) (by omega)]; omega), (s60 d).2, nI_add, nI_add, inb_nI (j := 60 * d + i + j) (n := 360) (by omega) (by omega), inb_nI (j := j) (n := 60) (by omega) (by omega), ck_true, ck_true, cl (60 * d + i + j) (by omega), cl j (by omega), nm_eq, nm_eq, nI_1]
    · rw [gl_sl, if_neg (by decide)]; exact h2 k
    · rw [gl_sl, if_pos rfl, h3 k]
      by_cases e : k = 60 * d + i + j
      · rw [if_pos e, if_pos (by omega), e, show 60 * d + i + j - (60 * d + i) = j from by omega]; exact h2 _
      · rw [if_neg e]
        by_cases e2 : 60 * d + i ≤ k ∧ k < 60 * d + i + j
        · rw [if_pos e2, if_pos (by omega)]
        · rw [if_neg e2, if_neg (by omega)]
  obtain ⟨x, k, e, Vj, rfl, h1, h2, h3⟩ := lp_go _ n hs N 0 (V, 0) (by omega) (by omega) ⟨V, rfl, fun _ _ => rfl, fun _ => rfl, fun k => by rw [if_neg (by omega)]⟩
  refine ⟨Vj, ?_, h1, h3⟩
  rw [e]
  dsimp only
  unfold Mo_shift_b150
  rw [if_pos (Int32.le_refl _)]
theorem dd1 : ((5 : Int32) = -1) = False := by decide
theorem dd2 : ((-11 : Int32) = 0) = False := by decide
theorem dd3 : ((-12 : Int32) = 0) = False := by decide
theorem dd4 : ((0 : Int32) ≤ -1) = False := by decide
theorem dd5 : ((-1 : Int32) < 0) = True := by decide
theorem dd6 : ((1 : Int32) = 0) = False := by decide
theorem RR_shift : LS_shift RR := by
  rintro S V p1 p2 p3 p4 p5 hRR
  have hRR' := hRR
  obtain ⟨T, P, Q, F, c, a, B, hC, hN, hPe, hPr, hP, hTa, hLw, hLd, hCh, hBo, hSh⟩ := hRR
  have hB := hBo.2.1
  unfold Ch_shift Mo_shift Sh_refusalOfPair Sh_holdsRow
  simp only [Sh_isShelf_eq, Mo_isShelf_eq, bd1_some, if_bI]
  by_cases h : wi p1.toInt 0 5 = true
  · rw [if_pos h, if_pos h]
    obtain ⟨d, hd, rfl⟩ := wi_nI5 h
    have i6 : inb (nI d) 6 = true := inb_nI hd (by omega)
    by_cases h2 : wi p3.toInt 0 5 = true
    · rw [if_pos h2, if_pos h2]
      obtain ⟨e, he, rfl⟩ := wi_nI5 h2
      have e6 : inb (nI e) 6 = true := inb_nI he (by omega)
      simp only [i6, e6, ck_true, cl d (show d < 5000 by omega), cl e (show e < 5000 by omega), hC.g 42 (fun _ => rfl)]
      have neg1 : ∀ s : Nat, s < 100 → ¬ nI s = (-1 : Int32) := fun s hs e => by
        have := congrArg Int32.toInt e; rw [ti s (by omega), tim1] at this; omega
      rcases hSh.1 d hd with ⟨x1, x2⟩ | ⟨x1, b, x2, x3, x4⟩ | ⟨s, n, x1, x2, x3, x4, x5, x6, x7⟩
      · rw [x1, x2, if_pos rfl, bd1_some, if_neg (by decide), if_pos (by decide)]
        exact ⟨_, _, _, rfl, rfl, hRR'⟩
      · have f1 : ¬ nI b < (0 : Int32) := by show ¬ nI b < nI 0; rw [lt_nI _ _ (by omega) (by omega)]; omega
        have f2 : nI b < (50 : Int32) := by show nI b < nI 50; rw [lt_nI _ _ (by omega) (by omega)]; omega
        rcases hSh.1 e he with ⟨y1, y2⟩ | ⟨y1, b', y2, y3, y4⟩ | ⟨s, n, y1, y2, y3, y4, y5, y6, y7⟩
        · simp only [x1, x4, y1, y2, f1, f2, dd1, dd2, dd3, dd4, dd5, if_true, if_false, bd1_some]
          exact ⟨_, _, _, rfl, rfl, hRR'⟩
        · have g1 : (0 : Int32) ≤ nI b' := by show nI 0 ≤ nI b'; rw [le_nI _ _ (by omega) (by omega)]; omega
          simp only [x1, x4, y1, y4, f1, f2, g1, dd1, dd2, dd3, dd4, dd5, if_true, if_false, bd1_some]
          exact ⟨_, _, _, rfl, rfl, hRR'⟩
        · have g1 : (0 : Int32) ≤ nI (50 + s) := by show nI 0 ≤ nI (50 + s); rw [le_nI _ _ (by omega) (by omega)]; omega
          have g2 := neg1 s (by omega)
          simp only [x1, x4, y3, y5, f1, f2, g1, g2, dd1, dd2, dd3, dd4, dd5, if_true, if_false, bd1_some]
          exact ⟨_, _, _, rfl, rfl, hRR'⟩
      · have n5 : ¬ nI s = (5 : Int32) := by
          show ¬ nI s = nI 5; rw [eq_nI _ _ (by omega) (by omega)]; omega
        have f0 := neg1 s (by omega)
        have f1 : ¬ nI (50 + s) < (0 : Int32) := by show ¬ nI (50 + s) < nI 0; rw [lt_nI _ _ (by omega) (by omega)]; omega
        have f2 : ¬ nI (50 + s) < (50 : Int32) := by show ¬ nI (50 + s) < nI 50; rw [lt_nI _ _ (by omega) (by omega)]; omega
        rcases hSh.1 e he with ⟨y1, y2⟩ | ⟨y1, b', y2, y3, y4⟩ | ⟨s', n', y1, y2, y3, y4, y5, y6, y7⟩
        · simp only [x3, x5, y1, y2, f0, f1, f2, n5, dd1, dd2, dd3, dd4, dd5, if_true, if_false, bd1_some]
          exact ⟨_, _, _, rfl, rfl, hRR'⟩
        · have g1 : (0 : Int32) ≤ nI b' := by show nI 0 ≤ nI b'; rw [le_nI _ _ (by omega) (by omega)]; omega
          have g2 : ¬ nI (50 + s) = nI b' := by rw [eq_nI _ _ (by omega) (by omega)]; omega
          simp only [x3, x5, y1, y4, f0, f1, f2, g1, g2, n5, dd1, dd2, dd3, dd4, dd5, dd6, if_true, if_false, bd1_some]
          exact ⟨_, _, _, rfl, rfl, hRR'⟩
        · have g1 : (0 : Int32) ≤ nI (50 + s') := by show nI 0 ≤ nI (50 + s'); rw [le_nI _ _ (by omega) (by omega)]; omega
          have g0 := neg1 s' (by omega)
          simp only [x3, x5, y3, y5, f0, f1, f2, g0, g1, n5, dd1, dd2, dd3, dd4, dd5, dd6, if_true, if_false, bd1_some]
          by_cases hss : s = s'
          · subst hss
            rw [if_pos rfl, if_pos rfl, bd1_some, if_pos rfl, Sh_hasPlaces_eq hC hd x2 x4, bd1_some, if_bI, Sh_hasPlaces_eq hC he y2 y4, bd1_some, if_bI, x6, y6]
            simp only [Int32.lt_iff_toInt_lt, Int32.le_iff_toInt_le, ti0]
            by_cases g1 : p5.toInt < 0
            · rw [if_pos g1, if_neg (by unfold plb; rw [decide_eq_true_eq]; omega)]
              exact ⟨_, _, _, rfl, rfl, hRR'⟩
            rw [if_neg g1, sub_ti n x2 p5 (by omega), sub_ti n' y2 p5 (by omega)]
            by_cases g2 : p2.toInt < 0
            · rw [if_pos g2, if_neg (by unfold plb; rw [decide_eq_true_eq]; omega)]
              exact ⟨_, _, _, rfl, rfl, hRR'⟩
            rw [if_neg g2]
            by_cases g3 : plb n p2 p5 = true
            · rw [if_pos g3]
              by_cases g4 : plb n' p4 p5 = true
              · rw [if_pos g4]
                unfold plb at g3 g4
                rw [decide_eq_true_eq] at g3 g4
                rw [if_neg (by omega), if_neg (by omega), if_pos (by omega)]
                obtain ⟨q, q2⟩ := i32_nI g3.1
                generalize p2.toNatClampNeg = i at q q2
                subst q
                obtain ⟨q, q3⟩ := i32_nI g4.1
                generalize p4.toNatClampNeg = j at q q3
                subst q
                obtain ⟨q, q4⟩ := i32_nI g3.2.1
                generalize p5.toNatClampNeg = k at q q4
                subst q
                obtain ⟨V1, v1, v2, v3, v4⟩ := shift1 V (N := fuel) (d := d) (i := i) (n := k) hd (by omega) (by decide) (nI e) (nI j)
                obtain ⟨V2, w1, w2, w3⟩ := shift2 V1 (N := fuel) (d := e) (i := j) (n := k) he (by omega) (by decide)
                unfold Sh_move
                rw [v1, w1, (s60 d).1, (s60 e).1, nI_add, nI_add]
                have ok : cpok (nI (60 * d + i)) (nI (60 * e + j)) (nI k) 360 360 = true := by
                  unfold cpok
                  rw [cl (60 * d + i) (by omega), cl (60 * e + j) (by omega), cl k (by omega)]
                  refine decide_eq_true ⟨?_, ?_, ?_, by omega, by omega⟩
                  · show ¬ nI (60 * d + i) < nI 0; rw [lt_nI _ _ (by omega) (by omega)]; omega
                  · show ¬ nI (60 * e + j) < nI 0; rw [lt_nI _ _ (by omega) (by omega)]; omega
                  · show ¬ nI k < nI 0; rw [lt_nI _ _ (by omega) (by omega)]; omega
                rw [ok, ck_true, cl (60 * d + i) (by omega), cl (60 * e + j) (by omega), cl k (by omega), nm_eq, bd2_some]
                have s2 : ∀ v q, gi (cpl S 43 43 (60 * d + i) (60 * e + j) k) v q = gi S v q := fun _ _ => rfl
                have s3 : ∀ q, gl (cpl S 43 43 (60 * d + i) (60 * e + j) k) 43 q = if 60 * e + j ≤ q ∧ q < 60 * e + j + k then gl T 43 (60 * d + i + (q - (60 * e + j))) else gl T 43 q := fun q => by
                  rw [gl_cpl, if_pos rfl, hC.2, hC.2]
                refine ⟨_, _, _, rfl, rfl, setL T ((cpl S 43 43 (60 * d + i) (60 * e + j) k).2 43), P, Q, F, c, a, B, hC.setL s2, ?_⟩
                have u2 : ∀ v q, gi V2 v q = gi V v q := fun v q => (w2 v q).trans (v2 v q)
                have ul : ∀ v, V2.1 v = V.1 v := fun v => funext fun q => u2 v q
                refine ⟨by simpa only [iN, gi_setL, row_setL, u2, ul, gi_si, gl_si, gi_sl, gl_sl, row_si, row_sl, Nat.reduceEqDiff, reduceIte] using hN, by simpa only [iPe, gi_setL, row_setL, u2, ul, gi_si, gl_si, gi_sl, gl_sl, row_si, row_sl, Nat.reduceEqDiff, reduceIte] using hPe, by simpa only [iPr, gi_setL, row_setL, u2, ul, gi_si, gl_si, gi_sl, gl_sl, row_si, row_sl, Nat.reduceEqDiff, reduceIte] using hPr, by simpa only [rP, gi_setL, row_setL, u2, ul, gi_si, gl_si, gi_sl, gl_sl, row_si, row_sl, Nat.reduceEqDiff, reduceIte] using hP, by simpa only [rTa, gi_setL, row_setL, u2, ul, gi_si, gl_si, gi_sl, gl_sl, row_si, row_sl, Nat.reduceEqDiff, reduceIte] using hTa, by simpa only [rLw, gi_setL, row_setL, u2, ul, gi_si, gl_si, gi_sl, gl_sl, row_si, row_sl, Nat.reduceEqDiff, reduceIte] using hLw, by simpa only [rLd, gi_setL, row_setL, u2, ul, gi_si, gl_si, gi_sl, gl_sl, row_si, row_sl, Nat.reduceEqDiff, reduceIte] using hLd, by simpa only [rCh, iCe, okv, gi_setL, row_setL, u2, ul, gi_si, gl_si, gi_sl, gl_sl, row_si, row_sl, Nat.reduceEqDiff, reduceIte] using hCh, by simpa only [rBo, gi_setL, row_setL, u2, ul, gi_si, gl_si, gi_sl, gl_sl, row_si, row_sl, Nat.reduceEqDiff, reduceIte] using hBo, fun d' hd' => ?_, fun q hq => ?_⟩
                · rcases hSh.1 d' hd' with ⟨z1, z2⟩ | ⟨z1, b, z2, z3, z4⟩ | ⟨s', n', z1, z2, z3, z4, z5, z6, z7⟩
                  · exact .inl ⟨by simpa only [gi_setL] using z1, by rw [u2]; exact z2⟩
                  · exact .inr (.inl ⟨by simpa only [gi_setL] using z1, b, z2, by simpa only [gi_setL] using z3, by rw [u2]; exact z4⟩)
                  · refine .inr (.inr ⟨s', n', z1, z2, by simpa only [gi_setL] using z3, by simpa only [gi_setL] using z4, by rw [u2]; exact z5, by rw [u2]; exact z6, fun es q hq => ?_⟩)
                    rw [gl_setL]
                    have := s3 (60 * d' + q)
                    have e0 : (cpl S 43 43 (60 * d + i) (60 * e + j) k).2 43 (60 * d' + q) = _ := this
                    rw [e0]
                    by_cases r : 60 * e + j ≤ 60 * d' + q ∧ 60 * d' + q < 60 * e + j + k
                    · rw [if_pos r]
                      have ed : d' = e := by omega
                      subst ed
                      have es2 : s = 0 := by
                        have := z3.symm.trans y3
                        rw [eq_nI _ _ (by omega) (by omega)] at this; omega
                      have := x7 es2 (i + (60 * d' + q - (60 * d' + j))) (by omega)
                      rw [← Nat.add_assoc] at this; exact this
                    · rw [if_neg r]; exact z7 es q hq
                · rw [w3, gl_setL]
                  have e0 : (cpl S 43 43 (60 * d + i) (60 * e + j) k).2 43 q = _ := s3 q
                  rw [e0]
                  by_cases r : 60 * e + j ≤ q ∧ q < 60 * e + j + k
                  · rw [if_pos r, if_pos r, v4 _ (by omega)]; exact hSh.2 _ (by omega)
                  · rw [if_neg r, if_neg r, v3]; exact hSh.2 q hq
              · rw [if_neg g4]
                unfold plb at g3 g4
                rw [decide_eq_true_eq] at g3 g4
                by_cases g5 : p4.toInt < 0
                · rw [if_pos g5]; exact ⟨_, _, _, rfl, rfl, hRR'⟩
                · rw [if_neg g5, if_neg (by omega), if_neg (by omega)]; exact ⟨_, _, _, rfl, rfl, hRR'⟩
            · rw [if_neg g3]
              unfold plb at g3
              rw [decide_eq_true_eq] at g3
              by_cases g5 : p4.toInt < 0
              · rw [if_pos g5]; exact ⟨_, _, _, rfl, rfl, hRR'⟩
              · rw [if_neg g5, if_pos (by omega)]; exact ⟨_, _, _, rfl, rfl, hRR'⟩
          · rw [if_neg (by rw [eq_nI _ _ (by omega) (by omega)]; exact hss), bd1_some, if_neg (by decide), if_neg (by rw [eq_nI _ _ (by omega) (by omega)]; omega)]
            exact ⟨_, _, _, rfl, rfl, hRR'⟩
    · rw [if_neg h2, if_neg h2]; exact ⟨_, _, _, rfl, rfl, hRR'⟩
  · rw [if_neg h, if_neg h]; exact ⟨_, _, _, rfl, rfl, hRR'⟩
