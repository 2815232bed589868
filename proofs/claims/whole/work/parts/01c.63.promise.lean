def cpb (P : Nat) (x y z u : Int) : Bool := wi x 0 (P - 1) && (wi y 0 99 && (wi z y 99 && wi u 1 9))
theorem Sm_canPromise_eq {S T : St} {P Q : Nat} (hC : Core S T) (hN : iN T P Q) (x y z u : Int32) : Sm_canPromise S x y z u = some (bI (cpb P x.toInt y.toInt z.toInt u.toInt)) := by
  unfold Sm_canPromise cpb
  simp only [Sm_isOne_eq hC hN, Ch_isDay_eq, Ch_within_eq, bd1_some, if_bI, ti99, ti1, ti9]
  cases wi x.toInt 0 (P - 1) <;> cases wi y.toInt 0 99 <;> cases wi z.toInt y.toInt 99 <;> cases wi u.toInt 1 9 <;> rfl
theorem Mo_mayCome_eq {V T : St} {P Q : Nat} (hP : rP V T) (hN : iN T P Q) (x y z u : Int64) : Mo_mayCome V x y z u = some (bI (cpb P x.toInt y.toInt z.toInt u.toInt)) := by
  unfold Mo_mayCome cpb
  simp only [Mo_isOne_eq hP hN, Mo_isDay_eq, Mo_within_eq, bd1_some, if_bI, tI99, tI1, tI9]
  cases wi x.toInt 0 (P - 1) <;> cases wi y.toInt 0 99 <;> cases wi z.toInt y.toInt 99 <;> cases wi u.toInt 1 9 <;> rfl
theorem cpb_t {P : Nat} {x y z u : Int} (h : cpb P x y z u = true) : (0 ≤ x ∧ x ≤ P - 1) ∧ (0 ≤ y ∧ y ≤ 99) ∧ (y ≤ z ∧ z ≤ 99) ∧ (1 ≤ u ∧ u ≤ 9) := by
  unfold cpb at h
  simpa [wi, and_assoc] using h
theorem add_pr {S V T : St} {P Q F c a B w : Nat} (hC : Core S T) (h : RLk V T P Q F c a B) (hQ : Q < 10) (hw : w < P) {p2 p3 p4 : Int32} (h2 : 0 ≤ p2.toInt) (h3 : p2.toInt ≤ p3.toInt ∧ p3.toInt ≤ 99) (h4 : 1 ≤ p4.toInt ∧ p4.toInt ≤ 9) :
    ∃ S1 V1 T1, Sm_addPromise S (nI w) p2 p3 p4 = some (nI Q, S1) ∧ Mo_adds V (nI w) p2 p3 p4 = some (nI Q, V1) ∧ Core S1 T1 ∧ RLk V1 T1 P (Q + 1) F c a B ∧ (∀ v i, 40 ≤ v → gi T1 v i = gi T v i) ∧ ∀ i, gl T1 43 i = gl T 43 i := by
  obtain ⟨hN, hPe, hPr, hP, hTa, hLw, hLd, hCh, hBo, hSh⟩ := h
  have hN' := hN
  obtain ⟨n1, n2, n3, n4⟩ := hN'
  obtain ⟨eP, eQ⟩ := hC.pq hN
  obtain ⟨fP, fQ⟩ := hP.pq hN
  refine ⟨si (si (si (si (si (si (si S 14 Q (nI w)) 15 Q p2) 16 Q p3) 17 Q p4) 18 Q (-1)) 19 Q (-1)) 1 10 (nI (Q + 1)), si (si (si (si (si (si (si V 49 Q (nI w)) 50 Q p2) 45 (18 + Q) p3) 45 (28 + Q) p4) 45 (38 + Q) (-1)) 45 (48 + Q) (-1)) 44 7 (nI (Q + 1)), si (si (si (si (si (si (si T 14 Q (nI w)) 15 Q p2) 16 Q p3) 17 Q p4) 18 Q (-1)) 19 Q (-1)) 1 10 (nI (Q + 1)), ?_, ?_, ((((((hC.si _ _ _).si _ _ _).si _ _ _).si _ _ _).si _ _ _).si _ _ _).si _ _ _, ?_, ?_, ?_⟩
  · unfold Sm_addPromise
    simp only [nm_eq, gi_si, gl_si, gi_sl, gl_sl, row_si, row_sl, Nat.reduceEqDiff, reduceIte, eQ, inb_nI (j := Q) (n := 10) hQ (by omega), ck_true, cl Q (by omega), nI_1]
  · unfold Mo_adds
    simp only [nm_eq, gi_si, gl_si, gi_sl, gl_sl, row_si, row_sl, Nat.reduceEqDiff, reduceIte, fQ, a18, a28, a38, a48, inb_nI (j := Q) (n := 10) hQ (by omega), inb_nI (j := 18 + Q) (n := 58) (by omega) (by omega), inb_nI (j := 28 + Q) (n := 58) (by omega) (by omega), inb_nI (j := 38 + Q) (n := 58) (by omega) (by omega), inb_nI (j := 48 + Q) (n := 58) (by omega) (by omega), ck_true, cl Q (by omega), cl (18 + Q) (by omega), cl (28 + Q) (by omega), cl (38 + Q) (by omega), cl (48 + Q) (by omega), nI_1, nI_1m]
  · refine ⟨⟨by simpa only [gi_si, gl_si, gi_sl, gl_sl, row_si, row_sl, Nat.reduceEqDiff, reduceIte] using n1, n2, by simp only [gi_si, gl_si, gi_sl, gl_sl, row_si, row_sl, Nat.reduceEqDiff, reduceIte], by omega⟩, by simpa only [iPe, gi_si, gl_si, gi_sl, gl_sl, row_si, row_sl, Nat.reduceEqDiff, reduceIte] using hPe, fun j hj => ?_, ⟨?_, ?_, fun j hj => ?_, fun j hj => ?_⟩, by simpa only [rTa, gi_si, gl_si, gi_sl, gl_sl, row_si, row_sl, Nat.reduceEqDiff, reduceIte] using hTa, by simpa only [rLw, gi_si, gl_si, gi_sl, gl_sl, row_si, row_sl, Nat.reduceEqDiff, reduceIte] using hLw, ?_, ⟨?_, ?_, hCh.2.2.1, hCh.2.2.2.1, ?_, ?_, fun j hj => ?_⟩, by simpa only [rBo, gi_si, gl_si, gi_sl, gl_sl, row_si, row_sl, Nat.reduceEqDiff, reduceIte] using hBo, by simpa only [rSh, rS1, gi_si, gl_si, gi_sl, gl_sl, row_si, row_sl, Nat.reduceEqDiff, reduceIte] using hSh⟩
    · simp only [gi_si, gl_si, gi_sl, gl_sl, row_si, row_sl, Nat.reduceEqDiff, reduceIte]
      by_cases e : j = Q
      · (repeat (first | rw [if_pos (by omega)] | rw [if_neg (by omega)]))
        exact ⟨⟨w, hw, rfl⟩, ⟨h2, h3⟩, h4, by decide, .inl rfl⟩
      · (repeat (first | rw [if_pos (by omega)] | rw [if_neg (by omega)]))
        exact hPr j (by omega)
    · simpa only [gi_si, gl_si, gi_sl, gl_sl, row_si, row_sl, Nat.reduceEqDiff, reduceIte] using hP.1
    · simp only [gi_si, gl_si, gi_sl, gl_sl, row_si, row_sl, Nat.reduceEqDiff, reduceIte]
    · obtain ⟨b1, b2, b3⟩ := hP.2.2.1 j hj
      simp only [gi_si, gl_si, gi_sl, gl_sl, row_si, row_sl, Nat.reduceEqDiff, reduceIte]
      (repeat (first | rw [if_pos (by omega)] | rw [if_neg (by omega)]))
      exact ⟨b1, b2, b3⟩
    · obtain ⟨b1, b2, b3, b4, b5, b6⟩ := hP.2.2.2 j hj
      simp only [gi_si, gl_si, gi_sl, gl_sl, row_si, row_sl, Nat.reduceEqDiff, reduceIte]
      by_cases e : j = Q
      · (repeat (first | rw [if_pos (by omega)] | rw [if_neg (by omega)]))
        exact ⟨rfl, rfl, rfl, rfl, rfl, rfl⟩
      · (repeat (first | rw [if_pos (by omega)] | rw [if_neg (by omega)]))
        exact ⟨b1, b2, b3, b4, b5, b6⟩
    · obtain ⟨b1, b2, b3, b4, ⟨qi, b5, b6, b7⟩, b8⟩ := hLd
      refine ⟨by simpa only [gi_si, gl_si, gi_sl, gl_sl, row_si, row_sl, Nat.reduceEqDiff, reduceIte] using b1, by simpa only [gi_si, gl_si, gi_sl, gl_sl, row_si, row_sl, Nat.reduceEqDiff, reduceIte] using b2, by simpa only [gi_si, gl_si, gi_sl, gl_sl, row_si, row_sl, Nat.reduceEqDiff, reduceIte] using b3, by simpa only [gi_si, gl_si, gi_sl, gl_sl, row_si, row_sl, Nat.reduceEqDiff, reduceIte] using b4, ⟨qi, by omega, by simpa only [gi_si, gl_si, gi_sl, gl_sl, row_si, row_sl, Nat.reduceEqDiff, reduceIte] using b6, by simpa only [gi_si, gl_si, gi_sl, gl_sl, row_si, row_sl, Nat.reduceEqDiff, reduceIte] using b7⟩, by simpa only [gi_si, gl_si, gi_sl, gl_sl, row_si, row_sl, Nat.reduceEqDiff, reduceIte] using b8⟩
    · simpa only [gi_si, gl_si, gi_sl, gl_sl, row_si, row_sl, Nat.reduceEqDiff, reduceIte] using hCh.1
    · simpa only [gi_si, gl_si, gi_sl, gl_sl, row_si, row_sl, Nat.reduceEqDiff, reduceIte] using hCh.2.1
    · simpa only [gi_si, gl_si, gi_sl, gl_sl, row_si, row_sl, Nat.reduceEqDiff, reduceIte] using hCh.2.2.2.2.1
    · simpa only [gi_si, gl_si, gi_sl, gl_sl, row_si, row_sl, Nat.reduceEqDiff, reduceIte] using hCh.2.2.2.2.2.1
    · obtain ⟨w', n, b1, b2, b3, b4, b5, b6, b7, b8⟩ := hCh.2.2.2.2.2.2 j hj
      refine ⟨w', n, b1, ?_, ?_, ?_, ?_, ?_, ?_, ?_⟩
      · simpa only [gi_si, gl_si, gi_sl, gl_sl, row_si, row_sl, Nat.reduceEqDiff, reduceIte] using b2
      · simpa only [gi_si, gl_si, gi_sl, gl_sl, row_si, row_sl, Nat.reduceEqDiff, reduceIte] using b3
      · simpa only [gi_si, gl_si, gi_sl, gl_sl, row_si, row_sl, Nat.reduceEqDiff, reduceIte] using b4
      · simpa only [gi_si, gl_si, gi_sl, gl_sl, row_si, row_sl, Nat.reduceEqDiff, reduceIte] using b5
      · simpa only [gi_si, gl_si, gi_sl, gl_sl, row_si, row_sl, Nat.reduceEqDiff, reduceIte] using b6
      · simp only [gi_si, gl_si, gi_sl, gl_sl, row_si, row_sl, Nat.reduceEqDiff, reduceIte]; exact b7.mono (by omega) (by omega) (fun _ => by simp only [gi_si, gl_si, gi_sl, gl_sl, row_si, row_sl, Nat.reduceEqDiff, reduceIte]; (repeat (first | rw [if_pos (by omega)] | rw [if_neg (by omega)])))
      · simp only [gi_si, gl_si, gi_sl, gl_sl, row_si, row_sl, Nat.reduceEqDiff, reduceIte]; exact b8.mono (by omega) (by omega) (fun _ => by simp only [gi_si, gl_si, gi_sl, gl_sl, row_si, row_sl, Nat.reduceEqDiff, reduceIte]; (repeat (first | rw [if_pos (by omega)] | rw [if_neg (by omega)])))
  · intro v i hv
    simp only [gi_si, gl_si, gi_sl, gl_sl, row_si, row_sl, Nat.reduceEqDiff, reduceIte]
    (repeat (first | rw [if_pos (by omega)] | rw [if_neg (by omega)]))
  · intro i
    simp only [gi_si, gl_si, gi_sl, gl_sl, row_si, row_sl, Nat.reduceEqDiff, reduceIte]
/-- a number parted at a place -/
theorem dm (x : Int32) (k : Int32) (m : Int) (hk : k.toInt = m) (hm : 2 ≤ m ∧ m ≤ 1000) : ∃ q r : Int, (x / k).toInt = q ∧ (x - x / k * k).toInt = r ∧ x.toInt = m * q + r ∧ (0 ≤ x.toInt → 0 ≤ q ∧ 0 ≤ r ∧ r < m) ∧ (x.toInt < 0 → q ≤ 0 ∧ r ≤ 0 ∧ - m < r) := by
  have h1 := Int32.toInt_lt x
  have h2 := Int32.le_toInt x
  have hk1 : k ≠ -1 := by rintro rfl; revert hk; rw [tim1]; omega
  have hq : (x / k).toInt = x.toInt.tdiv m := by rw [Int32.toInt_div_of_ne_right _ _ hk1, hk]
  have e : m * x.toInt.tdiv m + x.toInt.tmod m = x.toInt := Int.mul_tdiv_add_tmod _ _
  have pos : 0 ≤ x.toInt → 0 ≤ x.toInt.tdiv m ∧ 0 ≤ x.toInt.tmod m ∧ x.toInt.tmod m < m ∧ x.toInt.tmod m ≤ x.toInt := fun h0 => by
    have f1 : 0 ≤ x.toInt.tdiv m := Int.tdiv_nonneg h0 (by omega)
    have f2 := Int.tmod_nonneg m h0
    have f3 := Int.tmod_lt_of_pos x.toInt (b := m) (by omega)
    have f4 : 0 ≤ m * x.toInt.tdiv m := Int.mul_nonneg (by omega) f1
    exact ⟨f1, f2, f3, by omega⟩
  have neg : x.toInt < 0 → x.toInt.tdiv m ≤ 0 ∧ x.toInt.tmod m ≤ 0 ∧ - m < x.toInt.tmod m ∧ x.toInt ≤ x.toInt.tmod m := fun h0 => by
    obtain ⟨y, hy⟩ : ∃ y : Int, x.toInt = - y := ⟨- x.toInt, by omega⟩
    rw [hy] at e ⊢
    rw [Int.neg_tdiv, Int.neg_tmod] at *
    have f1 : 0 ≤ y.tdiv m := Int.tdiv_nonneg (by omega) (by omega)
    have f2 := Int.tmod_nonneg (a := y) m (by omega)
    have f3 := Int.tmod_lt_of_pos y (b := m) (by omega)
    have f4 : 0 ≤ m * y.tdiv m := Int.mul_nonneg (by omega) f1
    have f5 : m * y.tdiv m + y.tmod m = y := Int.mul_tdiv_add_tmod _ _
    exact ⟨by omega, by omega, by omega, by omega⟩
  have hr : (x - x / k * k).toInt = x.toInt.tmod m := by
    rw [Int32.toInt_sub, Int32.toInt_mul, hq, hk]
    have e3 : x.toInt.tdiv m * m = x.toInt - x.toInt.tmod m := by rw [Int.mul_comm]; omega
    rw [e3]
    rcases Int.lt_or_le x.toInt 0 with h0 | h0
    · obtain ⟨f1, f2, f3, f4⟩ := neg h0
      rw [Int.bmod_eq_of_le (n := x.toInt - x.toInt.tmod m) (by omega) (by omega), Int.bmod_eq_of_le (by omega) (by omega)]; omega
    · obtain ⟨f1, f2, f3, f4⟩ := pos h0
      rw [Int.bmod_eq_of_le (n := x.toInt - x.toInt.tmod m) (by omega) (by omega), Int.bmod_eq_of_le (by omega) (by omega)]; omega
  refine ⟨_, _, hq, hr, e.symm, fun h0 => ?_, fun h0 => ?_⟩
  · obtain ⟨f1, f2, f3, f4⟩ := pos h0
    exact ⟨f1, f2, f3⟩
  · obtain ⟨f1, f2, f3, f4⟩ := neg h0
    exact ⟨f1, f2, f3⟩
theorem RR_promise : LS_promise RR := by
  rintro S V p1 p2 hRR
  have hRR' := hRR
  obtain ⟨T, P, Q, F, c, a, B, hC, hR⟩ := hRR
  have hR' := hR
  obtain ⟨hN, hPe, hPr, hP, -⟩ := hR'
  obtain ⟨eP, eQ⟩ := hC.pq hN
  obtain ⟨fP, fQ⟩ := hP.pq hN
  have hQ10 := hN.2.2.2
  have hP6 := hN.2.1
  obtain ⟨q1, r1, a1, a2, a3, a4, a5⟩ := dm p1 10 10 rfl (by omega)
  obtain ⟨q2, r2, b1, b2, b3, b4, b5⟩ := dm p2 100 100 rfl (by omega)
  unfold Ch_promise Mo_promise
  rw [Sm_canPromise_eq hC hN, bd1_some, if_bI, Mo_mayCome_eq hP hN, bd1_some, if_bI]
  simp only [Int32.toInt_toInt64, a1, a2, b1, b2, Int32.lt_iff_toInt_lt, ti0]
  by_cases h1 : p1.toInt < 0
  · have := a5 h1
    rw [if_pos h1, if_neg (fun h => by have := cpb_t h; omega)]
    exact ⟨_, _, _, rfl, rfl, hRR'⟩
  · rw [if_neg h1]
    by_cases h2 : p2.toInt < 0
    · have := b5 h2
      rw [if_pos h2, if_neg (fun h => by have := cpb_t h; omega)]
      exact ⟨_, _, _, rfl, rfl, hRR'⟩
    · rw [if_neg h2]
      by_cases h3 : cpb P q1 q2 r2 r1 = true
      · rw [if_pos h3, if_pos h3]
        obtain ⟨⟨c1, c2⟩, ⟨c3, c4⟩, c5, c6⟩ := cpb_t h3
        unfold Sm_isFull
        rw [eQ, fQ]
        by_cases hq : Q < 10
        · rw [if_pos (by show nI Q < nI 10; rw [lt_nI _ _ (by omega) (by omega)]; exact hq), if_neg (by show ¬ nI Q = nI 10; rw [eq_nI _ _ (by omega) (by omega)]; omega), bd1_some, if_pos rfl]
          obtain ⟨e, e2⟩ := i32_nI (x := p1 / 10) (by omega)
          generalize (p1 / 10).toNatClampNeg = w at e e2
          obtain ⟨S1, V1, T1, s1, s2, s3, s4, -⟩ := add_pr (w := w) (p2 := p2 / 100) (p3 := p2 - p2 / 100 * 100) (p4 := p1 - p1 / 10 * 10) hC hR hq (by omega) (by omega) (by omega) (by omega)
          rw [← e] at s1 s2
          rw [s1, s2, bd2_some, bd2_some]
          exact ⟨_, _, _, rfl, rfl, T1, P, Q + 1, F, c, a, B, s3, s4⟩
        · rw [if_neg (by show ¬ nI Q < nI 10; rw [lt_nI _ _ (by omega) (by omega)]; exact hq), if_pos (by show nI Q = nI 10; rw [eq_nI _ _ (by omega) (by omega)]; omega), bd1_some, if_neg (by decide)]
          exact ⟨_, _, _, rfl, rfl, hRR'⟩
      · rw [if_neg h3, if_neg h3]
        exact ⟨_, _, _, rfl, rfl, hRR'⟩
