theorem Sh_isShelf_eq (S : St) (x : Int32) : Sh_isShelf S x = some (bI (wi x.toInt 0 5)) := by
  unfold Sh_isShelf wi bI
  simp only [Int32.lt_iff_toInt_lt, Int32.le_iff_toInt_le, ti0, ti6]
  by_cases h1 : x.toInt < 0
  · simp [h1]; omega
  · by_cases h2 : 6 ≤ x.toInt
    · simp [h1, h2]; try omega
    · simp [h1, h2]; try omega
theorem Mo_isShelf_eq (S : St) (x : Int32) : Mo_isShelf S x = some (bI (wi x.toInt 0 5)) := by
  unfold Mo_isShelf
  rw [Mo_within_eq, bd1_some, isB_bI, ck_true, Int32.toInt_toInt64]; rfl
theorem wi_nI5 {x : Int32} (h : wi x.toInt 0 5 = true) : ∃ k, k < 6 ∧ x = nI k := by
  rw [wi_t] at h
  obtain ⟨e, e2⟩ := i32_nI h.1
  exact ⟨_, by omega, e⟩
theorem Li_isBody_eq {S T : St} {B : Nat} (hC : Core S T) (h : gi T 9 0 = nI B) (hB : B ≤ 50) (x : Int32) : Li_isBody S x = some (bI (wi x.toInt 0 (B - 1))) := by
  unfold Li_isBody wi bI
  rw [hC.1 9 0 rfl, h]
  simp only [Int32.lt_iff_toInt_lt, Int32.le_iff_toInt_le, ti0, ti B (show B < 5000 by omega)]
  by_cases h1 : x.toInt < 0
  · simp [h1]; try omega
  · by_cases h2 : (B : Int) ≤ x.toInt
    · simp [h1, h2]; try omega
    · simp [h1, h2]; try omega
theorem Mo_isBody_eq {V : St} {B : Nat} (h : gi V 44 29 = nI B) (hB : B ≤ 50) (x : Int32) : Mo_isBody V x = some (bI (wi x.toInt 0 (B - 1))) := by
  unfold Mo_isBody
  rw [h, Mo_within_eq, bd1_some, isB_bI, ck_true, Int32.toInt_toInt64, Int32.toInt_toInt64, Int32.toInt_sub, nI_toInt (n := B) (by omega)]
  have : ((B : Int) - (1 : Int32).toInt).bmod (2 ^ 32) = B - 1 := by
    have e : (1 : Int32).toInt = 1 := rfl
    rw [e, Int.bmod_eq_of_le] <;> omega
  rw [this]; rfl
theorem RR_keep : LS_keep RR := by
  rintro S V p1 p2 hRR
  have hRR' := hRR
  obtain ⟨T, P, Q, F, c, a, B, hC, hN, hPe, hPr, hP, hTa, hLw, hLd, hCh, hBo, hSh⟩ := hRR
  have hB := hBo.2.1
  unfold Ch_keep Mo_keep
  rw [Sh_isShelf_eq, Mo_isShelf_eq, bd1_some, bd1_some, if_bI, if_bI, Li_isBody_eq hC hBo.1 hB, Mo_isBody_eq hBo.2.2.1 hB, bd1_some, bd1_some, if_bI, if_bI]
  by_cases h : wi p1.toInt 0 5 = true
  · rw [if_pos h, if_pos h]
    obtain ⟨d, hd, rfl⟩ := wi_nI5 h
    have i6 : inb (nI d) 6 = true := inb_nI hd (by omega)
    have main : (p2 = -1 ∨ ∃ b, b < B ∧ p2 = nI b) → ∃ r S1 V1, Ch_keep_b29 S (nI d) p2 = some (r, S1) ∧ Mo_keep_b22 V (nI d) p2 = some (r, V1) ∧ RR S1 V1 := by
      intro hp
      unfold Ch_keep_b29 Mo_keep_b22 Sh_clear Sh_holdLink
      simp only [i6, ck_true, nm_eq, cl d (show d < 5000 by omega), bd2_some]
      rcases hp with rfl | ⟨b, hb, rfl⟩
      · rw [if_pos rfl]
        refine ⟨_, _, _, rfl, rfl, si T 42 d (-1), P, Q, F, c, a, B, hC.si _ _ _, by simpa only [iN, gi_si, gl_si, gi_sl, gl_sl, row_si, row_sl, Nat.reduceEqDiff, reduceIte] using hN, by simpa only [iPe, gi_si, gl_si, gi_sl, gl_sl, row_si, row_sl, Nat.reduceEqDiff, reduceIte] using hPe, by simpa only [iPr, gi_si, gl_si, gi_sl, gl_sl, row_si, row_sl, Nat.reduceEqDiff, reduceIte] using hPr, by simpa only [rP, gi_si, gl_si, gi_sl, gl_sl, row_si, row_sl, Nat.reduceEqDiff, reduceIte] using hP, by simpa only [rTa, gi_si, gl_si, gi_sl, gl_sl, row_si, row_sl, Nat.reduceEqDiff, reduceIte] using hTa, by simpa only [rLw, gi_si, gl_si, gi_sl, gl_sl, row_si, row_sl, Nat.reduceEqDiff, reduceIte] using hLw, by simpa only [rLd, gi_si, gl_si, gi_sl, gl_sl, row_si, row_sl, Nat.reduceEqDiff, reduceIte] using hLd, by simpa only [rCh, iCe, okv, gi_si, gl_si, gi_sl, gl_sl, row_si, row_sl, Nat.reduceEqDiff, reduceIte] using hCh, by simpa only [rBo, gi_si, gl_si, gi_sl, gl_sl, row_si, row_sl, Nat.reduceEqDiff, reduceIte] using hBo, fun d' hd' => ?_, by simpa only [gi_si, gl_si, gi_sl, gl_sl, row_si, row_sl, Nat.reduceEqDiff, reduceIte] using hSh.2⟩
        by_cases e : d' = d
        · subst e
          exact .inl ⟨by simp only [gi_si, gl_si, gi_sl, gl_sl, row_si, row_sl, Nat.reduceEqDiff, reduceIte], by simp only [gi_si, gl_si, gi_sl, gl_sl, row_si, row_sl, Nat.reduceEqDiff, reduceIte]⟩
        · have := hSh.1 d' hd'
          simpa only [rS1, gi_si, gl_si, gi_sl, gl_sl, row_si, row_sl, Nat.reduceEqDiff, reduceIte, e] using this
      · have e1 : ¬ nI b = (-1 : Int32) := by
          intro e; have := congrArg Int32.toInt e; rw [ti b (by omega), tim1] at this; omega
        rw [if_neg e1]
        refine ⟨_, _, _, rfl, rfl, si (si T 42 d 5) 41 d (nI b), P, Q, F, c, a, B, (hC.si _ _ _).si _ _ _, by simpa only [iN, gi_si, gl_si, gi_sl, gl_sl, row_si, row_sl, Nat.reduceEqDiff, reduceIte] using hN, by simpa only [iPe, gi_si, gl_si, gi_sl, gl_sl, row_si, row_sl, Nat.reduceEqDiff, reduceIte] using hPe, by simpa only [iPr, gi_si, gl_si, gi_sl, gl_sl, row_si, row_sl, Nat.reduceEqDiff, reduceIte] using hPr, by simpa only [rP, gi_si, gl_si, gi_sl, gl_sl, row_si, row_sl, Nat.reduceEqDiff, reduceIte] using hP, by simpa only [rTa, gi_si, gl_si, gi_sl, gl_sl, row_si, row_sl, Nat.reduceEqDiff, reduceIte] using hTa, by simpa only [rLw, gi_si, gl_si, gi_sl, gl_sl, row_si, row_sl, Nat.reduceEqDiff, reduceIte] using hLw, by simpa only [rLd, gi_si, gl_si, gi_sl, gl_sl, row_si, row_sl, Nat.reduceEqDiff, reduceIte] using hLd, by simpa only [rCh, iCe, okv, gi_si, gl_si, gi_sl, gl_sl, row_si, row_sl, Nat.reduceEqDiff, reduceIte] using hCh, by simpa only [rBo, gi_si, gl_si, gi_sl, gl_sl, row_si, row_sl, Nat.reduceEqDiff, reduceIte] using hBo, fun d' hd' => ?_, by simpa only [gi_si, gl_si, gi_sl, gl_sl, row_si, row_sl, Nat.reduceEqDiff, reduceIte] using hSh.2⟩
        by_cases e : d' = d
        · subst e
          exact .inr (.inl ⟨by simp only [gi_si, gl_si, gi_sl, gl_sl, row_si, row_sl, Nat.reduceEqDiff, reduceIte], b, hb, by simp only [gi_si, gl_si, gi_sl, gl_sl, row_si, row_sl, Nat.reduceEqDiff, reduceIte], by simp only [gi_si, gl_si, gi_sl, gl_sl, row_si, row_sl, Nat.reduceEqDiff, reduceIte]⟩)
        · have := hSh.1 d' hd'
          simpa only [rS1, gi_si, gl_si, gi_sl, gl_sl, row_si, row_sl, Nat.reduceEqDiff, reduceIte, e] using this
    by_cases h1 : p2 = -1
    · rw [if_pos h1, if_pos h1]; exact main (.inl h1)
    · rw [if_neg h1, if_neg h1]
      by_cases h2 : wi p2.toInt 0 ((B : Int) - 1) = true
      · rw [if_pos h2, if_pos h2]; exact main (.inr (wi_nI h2))
      · rw [if_neg h2, if_neg h2]; exact ⟨_, _, _, rfl, rfl, hRR'⟩
  · rw [if_neg h, if_neg h]; exact ⟨_, _, _, rfl, rfl, hRR'⟩
/-- places that are there -/
def plb (n : Nat) (i k : Int32) : Bool := decide (0 ≤ i.toInt ∧ 0 ≤ k.toInt ∧ i.toInt + k.toInt ≤ n)
theorem sub_ti (n : Nat) (hn : n ≤ 60) (k : Int32) (h : 0 ≤ k.toInt) : (nI n - k).toInt = n - k.toInt := by
  have h2 := Int32.toInt_lt k
  rw [Int32.toInt_sub, ti n (by omega), Int.bmod_eq_of_le (by omega) (by omega)]
theorem Sh_hasPlaces_eq {S T : St} (hC : Core S T) {d n : Nat} (hd : d < 6) (hn : n ≤ 60) (h : gi T 40 d = nI n) (i k : Int32) : Sh_hasPlaces S (nI d) i k = some (bI (plb n i k)) := by
  unfold Sh_hasPlaces plb bI
  rw [inb_nI hd (by omega), ck_true, ck_true, cl d (by omega), (hC.1 40 d rfl).trans h]
  simp only [Int32.lt_iff_toInt_lt, ti0, ti n (show n < 5000 by omega)]
  by_cases h1 : i.toInt < 0
  · rw [if_pos h1, if_neg (by simp; omega)]
  · by_cases h2 : k.toInt < 0
    · rw [if_neg h1, if_pos h2, if_neg (by simp; omega)]
    · rw [if_neg h1, if_neg h2, sub_ti n hn k (by omega)]
      by_cases h3 : (n : Int) < k.toInt
      · rw [if_pos h3, if_neg (by simp; omega)]
      · rw [if_neg h3]
        by_cases h4 : (n : Int) - k.toInt < i.toInt
        · rw [if_pos h4, if_neg (by simp; omega)]
        · rw [if_neg h4, if_pos (by simp; omega)]
theorem s60 (d : Nat) : nI d * 60 = nI (60 * d) ∧ 60 * nI d = nI (60 * d) := by
  have : nI d * 60 = nI (60 * d) := by
    have e := Int32.ofNat_mul d 60
    rw [Nat.mul_comm] at e
    exact e.symm
  exact ⟨this, by rw [Int32.mul_comm]; exact this⟩
theorem sort_lt (s : Nat) (hs : s ≤ 4) (S V : St) (v : Int64) : ∃ x, Sh_lowestBits S (nI s) v = some x ∧ Mo_asSort V (nI (50 + s) - 50) v = some x ∧ (s = 0 → -128 ≤ x.toInt ∧ x.toInt ≤ 127) := by
  have e : nI (50 + s) - 50 = nI s := by
    rw [show (50 : Int32) = nI 50 from rfl, pk_sub (by omega), Nat.add_sub_cancel_left]
  rw [e]
  have : s = 0 ∨ s = 1 ∨ s = 2 ∨ s = 3 ∨ s = 4 := by omega
  rcases this with rfl | rfl | rfl | rfl | rfl
  · refine ⟨_, rfl, rfl, fun _ => ?_⟩
    rw [Int32.toInt_toInt64, Int8.toInt_toInt32]
    have h1 := Int8.toInt_lt (Int32.toInt8 (Int64.toInt32 v))
    have h2 := Int8.le_toInt (Int32.toInt8 (Int64.toInt32 v))
    omega
  · exact ⟨_, rfl, rfl, by simp⟩
  · exact ⟨_, rfl, rfl, by simp⟩
  · exact ⟨_, rfl, rfl, by simp⟩
  · refine ⟨if lg_cmp v 0 = 0 then 0 else 1, ?_, ?_, by simp⟩
    · show (if lg_cmp v 0 = 0 then some 0 else some 1) = _
      split <;> rfl
    · show (if lg_cmp v 0 = 0 then some 0 else some 1) = _
      split <;> rfl
/-- why a place can't be had: 0, or the refusal; the place -/
theorem refusal {S V T : St} {P Q F c a B d : Nat} (hC : Core S T) (h : RLk V T P Q F c a B) (hd : d < 6) (i : Int32) :
    (∃ r : Int32, r ≠ 0 ∧ Sh_refusalOfPlace S (nI d) i = some r ∧ Mo_refusal V (nI d) i = some r) ∨ ∃ s n j, s ≤ 4 ∧ n ≤ 60 ∧ j < n ∧ i = nI j ∧ gi T 42 d = nI s ∧ gi V 61 d = nI (50 + s) ∧ Sh_refusalOfPlace S (nI d) i = some 0 ∧ Mo_refusal V (nI d) i = some 0 := by
  obtain ⟨hN, hPe, hPr, hP, hTa, hLw, hLd, hCh, hBo, hSh⟩ := h
  have hB := hBo.2.1
  have i6 : inb (nI d) 6 = true := inb_nI hd (by omega)
  have w1 : wi (nI d).toInt 0 5 = true := by rw [wi_t, ti d (by omega)]; omega
  unfold Sh_refusalOfPlace Mo_refusal Sh_holdsRow
  rw [Mo_isShelf_eq, bd1_some, if_bI, if_pos w1]
  simp only [i6, ck_true, cl d (show d < 5000 by omega), hC.g 42 (fun _ => rfl)]
  rcases hSh.1 d hd with ⟨x1, x2⟩ | ⟨x1, b, x2, x3, x4⟩ | ⟨s, n, x1, x2, x3, x4, x5, x6, x7⟩
  · rw [x1, x2, if_pos rfl, if_neg (by decide)]
    exact .inl ⟨_, by decide, rfl, rfl⟩
  · rw [x1, x4, if_neg (by decide), if_neg (by decide), if_pos rfl, bd1_some, if_pos rfl, if_pos (by show nI 0 ≤ nI b; rw [le_nI _ _ (by omega) (by omega)]; omega), if_neg (by show ¬ nI 50 ≤ nI b; rw [le_nI _ _ (by omega) (by omega)]; omega)]
    exact .inl ⟨_, by decide, rfl, rfl⟩
  · have n1 : ¬ nI s = (-1 : Int32) := by
      intro e; have := congrArg Int32.toInt e; rw [ti s (by omega), tim1] at this; omega
    have n5 : ¬ nI s = (5 : Int32) := by
      show ¬ nI s = nI 5; rw [eq_nI _ _ (by omega) (by omega)]; omega
    rw [x3, x5, if_neg n1, if_neg n1, if_neg n5, bd1_some, if_neg (by decide), if_pos (by show nI 0 ≤ nI (50 + s); rw [le_nI _ _ (by omega) (by omega)]; omega), if_pos (by show nI 50 ≤ nI (50 + s); rw [le_nI _ _ (by omega) (by omega)]; omega), Sh_hasPlaces_eq hC hd x2 x4, bd1_some, if_bI, x6]
    by_cases h1 : i < 0
    · have e : ¬ plb n i 1 = true := by
        rw [Int32.lt_iff_toInt_lt, ti0] at h1
        unfold plb; rw [decide_eq_true_eq]; omega
      rw [if_pos h1, if_neg e]
      exact .inl ⟨_, by decide, rfl, rfl⟩
    · obtain ⟨j, hj, rfl⟩ := nI_of h1
      have hi1 : (1 : Int32).toInt = 1 := rfl
      have hle : (nI n ≤ nI j) = (n ≤ j) := propext (nI_leI (by omega) hj)
      rw [if_neg h1]
      by_cases h2 : n ≤ j
      · have e : ¬ plb n (nI j) 1 = true := by
          unfold plb; rw [decide_eq_true_eq, nI_toInt hj, hi1]; omega
        rw [if_neg e, if_pos (show nI n ≤ nI j by rw [hle]; exact h2)]
        exact .inl ⟨_, by decide, rfl, rfl⟩
      · have e : plb n (nI j) 1 = true := by
          unfold plb; rw [decide_eq_true_eq, nI_toInt hj, hi1]; omega
        rw [if_pos e, if_neg (show ¬ nI n ≤ nI j by rw [hle]; exact h2)]
        exact .inr ⟨s, n, j, x1, x2, by omega, rfl, rfl, rfl, rfl, rfl⟩
theorem RR_element : LS_element RR := by
  rintro S V p1 p2 hRR
  have hRR' := hRR
  obtain ⟨T, P, Q, F, c, a, B, hC, hR⟩ := hRR
  unfold Ch_element Mo_element
  rw [Sh_isShelf_eq, bd1_some, if_bI]
  by_cases h : wi p1.toInt 0 5 = true
  · rw [if_pos h]
    obtain ⟨d, hd, rfl⟩ := wi_nI5 h
    rcases refusal hC hR hd p2 with ⟨r, r0, r1, r2⟩ | ⟨s, n, j, j1, j2, j3, rfl, j5, j6, r1, r2⟩
    · rw [r1, r2, bd1_some, bd1_some, if_neg r0, if_neg r0]; exact ⟨_, rfl, rfl, hRR'⟩
    · rw [r1, r2, bd1_some, bd1_some, if_pos rfl, if_pos rfl]
      unfold Sh_elementAt
      rw [(s60 d).1, (s60 d).2, nI_add, inb_nI (j := 60 * d + j) (n := 360) (by omega) (by omega), ck_true, ck_true, cl (60 * d + j) (by omega), bd1_some, hC.2, hR.2.2.2.2.2.2.2.2.2.2 _ (by omega)]
      exact ⟨_, rfl, rfl, hRR'⟩
  · rw [if_neg h]
    unfold Mo_refusal
    rw [Mo_isShelf_eq, bd1_some, if_bI, if_neg h, bd1_some, if_neg (by decide)]
    exact ⟨_, rfl, rfl, hRR'⟩
theorem RR_put : LS_put RR := by
  rintro S V p1 p2 p3 hRR
  have hRR' := hRR
  obtain ⟨T, P, Q, F, c, a, B, hC, hR⟩ := hRR
  unfold Ch_put Mo_put
  rw [Sh_isShelf_eq, bd1_some, if_bI]
  by_cases h : wi p1.toInt 0 5 = true
  · rw [if_pos h]
    obtain ⟨d, hd, rfl⟩ := wi_nI5 h
    rcases refusal hC hR hd p2 with ⟨r, r0, r1, r2⟩ | ⟨s, n, j, j1, j2, j3, rfl, j5, j6, r1, r2⟩
    · rw [r1, r2, bd1_some, bd1_some, if_neg r0, if_neg r0]
      unfold Mo_put_b37
      rw [if_neg r0]; exact ⟨_, _, _, rfl, rfl, hRR'⟩
    · rw [r1, r2, bd1_some, bd1_some, if_pos rfl, if_pos rfl]
      unfold Sh_putAt Mo_put_b37
      obtain ⟨x, s1, s2, s3⟩ := sort_lt s j1 S V p3
      rw [(s60 d).1, (s60 d).2, nI_add, inb_nI (j := 60 * d + j) (n := 360) (by omega) (by omega), inb_nI hd (by omega), ck_true, ck_true, cl (60 * d + j) (by omega), cl d (by omega), hC.g 42 (fun _ => rfl), j5, j6, s1, s2, bd1_some, bd1_some, ck_true, ck_true, nm_eq, nm_eq, bd2_some, if_pos rfl]
      obtain ⟨hN, hPe, hPr, hP, hTa, hLw, hLd, hCh, hBo, hSh⟩ := hR
      refine ⟨_, _, _, rfl, rfl, sl T 43 (60 * d + j) x, P, Q, F, c, a, B, hC.sl _ _, by simpa only [iN, gi_si, gl_si, gi_sl, gl_sl, row_si, row_sl, Nat.reduceEqDiff, reduceIte] using hN, by simpa only [iPe, gi_si, gl_si, gi_sl, gl_sl, row_si, row_sl, Nat.reduceEqDiff, reduceIte] using hPe, by simpa only [iPr, gi_si, gl_si, gi_sl, gl_sl, row_si, row_sl, Nat.reduceEqDiff, reduceIte] using hPr, by simpa only [rP, gi_si, gl_si, gi_sl, gl_sl, row_si, row_sl, Nat.reduceEqDiff, reduceIte] using hP, by simpa only [rTa, gi_si, gl_si, gi_sl, gl_sl, row_si, row_sl, Nat.reduceEqDiff, reduceIte] using hTa, by simpa only [rLw, gi_si, gl_si, gi_sl, gl_sl, row_si, row_sl, Nat.reduceEqDiff, reduceIte] using hLw, by simpa only [rLd, gi_si, gl_si, gi_sl, gl_sl, row_si, row_sl, Nat.reduceEqDiff, reduceIte] using hLd, by simpa only [rCh, iCe, okv, gi_si, gl_si, gi_sl, gl_sl, row_si, row_sl, Nat.reduceEqDiff, reduceIte] using hCh, by simpa only [rBo, gi_si, gl_si, gi_sl, gl_sl, row_si, row_sl, Nat.reduceEqDiff, reduceIte] using hBo, fun d' hd' => ?_, fun k hk => ?_⟩
      · rcases hSh.1 d' hd' with y | ⟨y1, b, y2, y3, y4⟩ | ⟨s', n', y1, y2, y3, y4, y5, y6, y7⟩
        · exact .inl y
        · exact .inr (.inl ⟨y1, b, y2, y3, y4⟩)
        · refine .inr (.inr ⟨s', n', y1, y2, y3, y4, y5, y6, fun e k hk => ?_⟩)
          have := y7 e k hk
          simp only [gi_si, gl_si, gi_sl, gl_sl, row_si, row_sl, Nat.reduceEqDiff, reduceIte]
          by_cases e2 : 60 * d' + k = 60 * d + j
          · rw [if_pos e2]
            have ed : d' = d := by omega
            subst ed
            refine s3 ?_
            have := y3.symm.trans j5
            rw [eq_nI _ _ (by omega) (by omega)] at this; omega
          · rw [if_neg e2]; exact this
      · simp only [gi_si, gl_si, gi_sl, gl_sl, row_si, row_sl, Nat.reduceEqDiff, reduceIte]
        by_cases e : k = 60 * d + j
        · rw [if_pos e, if_pos e]
        · rw [if_neg e, if_neg e]; exact hSh.2 k hk
  · rw [if_neg h]
    unfold Mo_refusal
    rw [Mo_isShelf_eq, bd1_some, if_bI, if_neg h, bd1_some, if_neg (by decide)]
    exact ⟨_, _, _, rfl, rfl, hRR'⟩
