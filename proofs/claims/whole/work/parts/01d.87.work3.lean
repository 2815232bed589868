section
variable {bs : Int32} {cb n : Nat} {b : Nat → Int32}
theorem wrong_ok {V : St} {i r : Nat} (h : OkM V bs n i r) (hi : i ≤ n) : Mo_wrong V = some (0, si V 44 17 (nI i)) ∧ PM V (si V 44 17 (nI i)) ∧ FlM (si V 44 17 (nI i)) bs n i := by
  obtain ⟨h1, h2, h3, h4, h5⟩ := h
  refine ⟨?_, PM.si V (.inr (.inl rfl)) _, ?_⟩
  · unfold Mo_wrong
    rw [h4, if_neg (by decide), h2, nm_eq]
  · unfold FlM
    simp only [gi_si, gl_si, gi_sl, gl_sl, row_si, row_sl, Nat.reduceEqDiff, reduceIte]
    exact ⟨h1, ⟨i, hi, h2⟩, h3, trivial, hi⟩
theorem wrong_fl {V : St} {f : Nat} (h : FlM V bs n f) (hn : n ≤ 120) : ∃ V', Mo_wrong V = some (0, V') ∧ PM V V' ∧ FlM V' bs n f := by
  obtain ⟨h1, ⟨i, hi, h2⟩, h3, h4, h5⟩ := h
  refine ⟨si V 44 17 (nI f), ?_, PM.si V (.inr (.inl rfl)) _, ?_⟩
  · unfold Mo_wrong
    rw [h4, if_pos (nn17 (by omega)), nm_eq]
  · unfold FlM
    simp only [gi_si, gl_si, gi_sl, gl_sl, row_si, row_sl, Nat.reduceEqDiff, reduceIte]
    exact ⟨h1, ⟨i, hi, h2⟩, h3, trivial, h5⟩
theorem numM_lp {N r : Nat} (hB : Bs bs cb) (hn : n ≤ 120) (f_both f_compared f_either f_one f_product f_sums : St → Option (Int32 × St)) : ∀ k, k ≤ 3 → ∀ (i : Nat) (v : Int32) (V : St), OkM V bs n i r → (∀ j, j < n → gi V cb j = b j) → i ≤ n → ∀ n1, k < n1 → ∃ V', lp (fun kk (x : St × Int32 × Int32) => Mo_one_b176 N f_both f_compared f_either f_one f_product f_sums kk x.1 x.2.1 x.2.2) n1 (V, v, nI (4 - k)) = some ((sNum b n k i v).2, V') ∧ PM V V' ∧ OkM V' bs n (sNum b n k i v).1 r
  | 0, _, i, v, V, h, hb, hi, n1, h1 => by
    obtain ⟨n1, rfl⟩ : ∃ k, n1 = k + 1 := ⟨n1 - 1, by omega⟩
    refine ⟨V, ?_, PM.refl V, h⟩
    show Mo_one_b176 N f_both f_compared f_either f_one f_product f_sums (lp (fun kk (x : St × Int32 × Int32) => Mo_one_b176 N f_both f_compared f_either f_one f_product f_sums kk x.1 x.2.1 x.2.2) n1) V v (nI 4) = _
    generalize lp (fun kk (x : St × Int32 × Int32) => Mo_one_b176 N f_both f_compared f_either f_one f_product f_sums kk x.1 x.2.1 x.2.2) n1 = K
    unfold Mo_one_b176 Mo_one_b229
    rw [if_pos (by decide), if_neg (by decide)]; rfl
  | k + 1, hk, i, v, V, h, hb, hi, n1, h1 => by
    obtain ⟨n1, rfl⟩ : ∃ k, n1 = k + 1 := ⟨n1 - 1, by omega⟩
    show ∃ V', Mo_one_b176 N f_both f_compared f_either f_one f_product f_sums (lp (fun kk (x : St × Int32 × Int32) => Mo_one_b176 N f_both f_compared f_either f_one f_product f_sums kk x.1 x.2.1 x.2.2) n1) V v (nI (4 - (k + 1))) = _ ∧ _
    have n4 : ¬ (4 : Int32) ≤ nI (4 - (k + 1)) := by show ¬ nI 4 ≤ nI (4 - (k + 1)); rw [le_nI _ _ (by omega) (by omega)]; omega
    have n0 : ¬ nI (4 - (k + 1)) = 0 := by show ¬ nI (4 - (k + 1)) = nI 0; rw [eq_nI _ _ (by omega) (by omega)]; omega
    have byt := byte_ok hB h hb hi hn
    have hdg := ny_dg b n i
    unfold sNum
    by_cases hd : dgt (nx b n i) = true
    · rw [if_pos hd]
      have hlt := dgt_lt hd
      have r1 := dgt_rng hd
      have ev := ny_lt (b := b) hlt
      obtain ⟨V', s1, s2, s3⟩ := numM_lp (N := N) hB hn f_both f_compared f_either f_one f_product f_sums k (by omega) (i + 1) (v * 10 + nx b n i - 48) (si V 44 15 (nI (i + 1))) h.step ((PM.si V (.inl rfl) _).bb hB hb) (by omega) n1 (by omega)
      refine ⟨V', ?_, (PM.si V (.inl rfl) _).trans s2, s3⟩
      rw [← s1]
      generalize lp (fun kk (x : St × Int32 × Int32) => Mo_one_b176 N f_both f_compared f_either f_one f_product f_sums kk x.1 x.2.1 x.2.2) n1 = K
      unfold Mo_one_b176
      rw [if_neg n4, byt, ev, bd1_some, if_neg (by rw [Int32.lt_iff_toInt_lt, show (48 : Int32).toInt = 48 from rfl]; omega), bd1_some, if_neg (by rw [Int32.lt_iff_toInt_lt, show (57 : Int32).toInt = 57 from rfl]; omega), bd1_some, nm_eq, nI_1, nm_eq, h.2.1, nI_1, nm_eq, show 4 - (k + 1) + 1 = 4 - k from by omega, Int32.mul_comm 10 v]
    · rw [if_neg hd]
      refine ⟨V, ?_, PM.refl V, h⟩
      generalize lp (fun kk (x : St × Int32 × Int32) => Mo_one_b176 N f_both f_compared f_either f_one f_product f_sums kk x.1 x.2.1 x.2.2) n1 = K
      unfold Mo_one_b176 Mo_one_b229
      rw [if_neg n4, byt, bd1_some, bd1_some, if_neg n0]
      rw [← hdg] at hd
      unfold dgt at hd
      by_cases c1 : ny b n i < 48
      · rw [if_pos c1]
      · rw [if_neg c1]
        have c2 : 57 < ny b n i := by
          rw [Int32.lt_iff_toInt_lt, show (57 : Int32).toInt = 57 from rfl]
          rw [Int32.lt_iff_toInt_lt, show (48 : Int32).toInt = 48 from rfl] at c1
          rw [Bool.and_eq_true, decide_eq_true_eq, decide_eq_true_eq, Int32.le_iff_toInt_le, Int32.le_iff_toInt_le, show (48 : Int32).toInt = 48 from rfl, show (57 : Int32).toInt = 57 from rfl] at hd
          omega
        rw [if_pos c2]
theorem atomM {N r : Nat} {e : Nat → Int32} (hN : 5 < N) (hB : Bs bs cb) (hn : n ≤ 120) (f_both f_compared f_either f_one f_product f_sums : St → Option (Int32 × St)) {V : St} {i : Nat} (h : OkM V bs n i r) (hb : ∀ j, j < n → gi V cb j = b j) (he : ∀ k, k < 6 → gi V 53 k = e k) (hi : i ≤ n) (hx : ¬ nx b n i = 40 ∧ ¬ nx b n i = 33 ∧ ¬ nx b n i = 45) : ∃ v V', Mo_one_B N f_both f_compared f_either f_one f_product f_sums V = some (v, V') ∧ Rm V V' bs n r e v (sAtom b n i) := by
  have byt := byte_ok hB h hb hi hn
  unfold Mo_one_B sAtom
  rw [h.2.2.2.1, if_pos (by decide), byt, bd1_some]
  have y33 : ¬ ny b n i = 33 := by rw [ny_eq (by decide) (by decide)]; exact hx.2.1
  have y45 : ¬ ny b n i = 45 := by rw [ny_eq (by decide) (by decide)]; exact hx.2.2
  have y40 : ¬ ny b n i = 40 := by rw [ny_eq (by decide) (by decide)]; exact hx.1
  rw [if_neg y33, if_neg y45, if_neg y40, MonameOf_eq, bd1_some, ny_nm]
  have fail : ∃ v V', (bd2 (Mo_wrong V) fun r2 S1 => some (r2, S1)) = some (v, V') ∧ Rm V V' bs n r e v (.inl i) := by
    obtain ⟨w1, w2, w3⟩ := wrong_ok h hi
    rw [w1, bd2_some]
    exact ⟨_, _, rfl, w2, w3⟩
  by_cases hd : dgt (nx b n i) = true
  · have hlt := dgt_lt hd
    have r1 := dgt_rng hd
    have ev := ny_lt (b := b) hlt
    have hnm : ¬ nmI (nx b n i) < 6 := fun hh => by
      rcases nmI_cases (nx b n i) with (q | q | q | q | q | q) | q
      · rw [q] at r1; revert r1; decide
      · rw [q] at r1; revert r1; decide
      · rw [q] at r1; revert r1; decide
      · rw [q] at r1; revert r1; decide
      · rw [q] at r1; revert r1; decide
      · rw [q] at r1; revert r1; decide
      · omega
    rw [if_neg hnm, if_pos (by decide), if_pos hd]
    obtain ⟨N, rfl⟩ : ∃ k, N = k + 1 := ⟨N - 1, by omega⟩
    have e4 : sNum b n 4 i 0 = sNum b n 3 (i + 1) (0 * 10 + nx b n i - 48) := by
      show (if dgt (nx b n i) = true then _ else _) = _
      rw [if_pos hd]
    obtain ⟨V', s1, s2, s3⟩ := numM_lp (b := b) (N := N + 1) hB hn f_both f_compared f_either f_one f_product f_sums 3 (by omega) (i + 1) (0 * 10 + nx b n i - 48) (si V 44 15 (nI (i + 1))) h.step ((PM.si V (.inl rfl) _).bb hB hb) (by omega) N (by omega)
    rw [e4]
    refine ⟨_, V', ?_, (PM.si V (.inl rfl) _).trans s2, s3, rfl⟩
    unfold Mo_one_L176
    show Mo_one_b176 (N + 1) f_both f_compared f_either f_one f_product f_sums (lp (fun kk (x : St × Int32 × Int32) => Mo_one_b176 (N + 1) f_both f_compared f_either f_one f_product f_sums kk x.1 x.2.1 x.2.2) N) V 0 0 = _
    rw [← s1]
    generalize lp (fun kk (x : St × Int32 × Int32) => Mo_one_b176 (N + 1) f_both f_compared f_either f_one f_product f_sums kk x.1 x.2.1 x.2.2) N = K
    unfold Mo_one_b176
    rw [if_neg (by decide), byt, ev, bd1_some, if_neg (by rw [Int32.lt_iff_toInt_lt, show (48 : Int32).toInt = 48 from rfl]; omega), bd1_some, if_neg (by rw [Int32.lt_iff_toInt_lt, show (57 : Int32).toInt = 57 from rfl]; omega), bd1_some, nm_eq, nm_eq, h.2.1, nI_1, nm_eq, Int32.mul_comm 10 0]
    rfl
  · rw [if_neg hd]
    by_cases hnm : nmI (nx b n i) < 6
    · rw [if_pos hnm, if_neg (nb0 _ (by omega)), if_pos hnm, h.2.1, nI_1, nm_eq, inb_nI (j := nmI (nx b n i)) (n := 6) hnm (by omega), ck_true, cl _ (by omega), gi_si, if_neg (by decide)]
      exact ⟨_, _, rfl, PM.si V (.inl rfl) _, h.step, he _ hnm⟩
    · rw [if_neg hnm, if_pos (by decide), if_neg hnm]
      obtain ⟨N, rfl⟩ : ∃ k, N = k + 1 := ⟨N - 1, by omega⟩
      unfold Mo_one_L176
      show ∃ v V', Mo_one_b176 (N + 1) f_both f_compared f_either f_one f_product f_sums (lp (fun kk (x : St × Int32 × Int32) => Mo_one_b176 (N + 1) f_both f_compared f_either f_one f_product f_sums kk x.1 x.2.1 x.2.2) N) V 0 0 = some (v, V') ∧ _
      generalize lp (fun kk (x : St × Int32 × Int32) => Mo_one_b176 (N + 1) f_both f_compared f_either f_one f_product f_sums kk x.1 x.2.1 x.2.2) N = K
      unfold Mo_one_b176 Mo_one_b229
      rw [if_neg (by decide : ¬ (4 : Int32) ≤ 0), byt, bd1_some, bd1_some, if_pos rfl]
      rw [← ny_dg] at hd
      unfold dgt at hd
      by_cases c1 : ny b n i < 48
      · rw [if_pos c1]; exact fail
      · rw [if_neg c1]
        have c2 : 57 < ny b n i := by
          rw [Int32.lt_iff_toInt_lt, show (57 : Int32).toInt = 57 from rfl]
          rw [Int32.lt_iff_toInt_lt, show (48 : Int32).toInt = 48 from rfl] at c1
          rw [Bool.and_eq_true, decide_eq_true_eq, decide_eq_true_eq, Int32.le_iff_toInt_le, Int32.le_iff_toInt_le, show (48 : Int32).toInt = 48 from rfl, show (57 : Int32).toInt = 57 from rfl] at hd
          omega
        rw [if_pos c2]; exact fail
theorem one_0 {N : Nat} {e : Nat → Int32} (hN : 5 < N) (hB : Bs bs cb) (hn : n ≤ 120) (f_both f_compared f_either f_one f_product f_sums : St → Option (Int32 × St)) : Wk (Mo_one_B N f_both f_compared f_either f_one f_product f_sums) bs cb n 0 b e (sOp b n 0) := by
  intro V i h hb he hi
  by_cases hx : ¬ nx b n i = 40 ∧ ¬ nx b n i = 33 ∧ ¬ nx b n i = 45
  · exact atomM hN hB hn f_both f_compared f_either f_one f_product f_sums h hb he hi hx
  · have hq : nx b n i = 33 ∨ nx b n i = 45 ∨ nx b n i = 40 := by
      by_cases a1 : nx b n i = 33
      · exact .inl a1
      · by_cases a2 : nx b n i = 45
        · exact .inr (.inl a2)
        · by_cases a3 : nx b n i = 40
          · exact .inr (.inr a3)
          · exact absurd ⟨a3, a1, a2⟩ hx
    have ea : sOp b n 0 i = .inl i := by
      show sAtom b n i = _
      unfold sAtom
      rcases hq with hq | hq | hq <;> (rw [hq]; rfl)
    rw [ea]
    obtain ⟨w1, w2, w3⟩ := wrong_ok h hi
    have byt := byte_ok hB h hb hi hn
    refine ⟨0, _, ?_, w2, w3⟩
    unfold Mo_one_B Mo_one_b32
    rw [h.2.2.2.1, if_pos (by decide), byt, bd1_some, h.2.2.2.2, if_pos (show nI (6 - 0) = (6 : Int32) from rfl), w1, bd2_some]
    rcases hq with hq | hq | hq
    · rw [if_pos (by rw [ny_eq (by decide) (by decide)]; exact hq)]
    · rw [if_neg (by rw [ny_eq (by decide) (by decide), hq]; decide), if_pos (by rw [ny_eq (by decide) (by decide)]; exact hq)]
    · rw [if_neg (by rw [ny_eq (by decide) (by decide), hq]; decide), if_neg (by rw [ny_eq (by decide) (by decide), hq]; decide), if_pos (by rw [ny_eq (by decide) (by decide)]; exact hq)]
theorem one_s {N r : Nat} {e : Nat → Int32} (hr : r < 6) (hN : 5 < N) (hB : Bs bs cb) (hn : n ≤ 120) (f_both f_compared f_either f_one f_product f_sums : St → Option (Int32 × St)) (hei : Wk f_either bs cb n r b e (sL b n (sOp b n r) 5)) (hon : Wk f_one bs cb n r b e (sOp b n r)) : Wk (Mo_one_B N f_both f_compared f_either f_one f_product f_sums) bs cb n (r + 1) b e (sOp b n (r + 1)) := by
  intro V i h hb he hi
  by_cases hx : ¬ nx b n i = 40 ∧ ¬ nx b n i = 33 ∧ ¬ nx b n i = 45
  · have ea : sOp b n (r + 1) i = sAtom b n i := by
      unfold sOp
      rw [if_neg hx.1, if_neg (fun hh => by rcases hh with hh | hh; exact hx.2.1 hh; exact hx.2.2 hh)]
    rw [ea]; exact atomM hN hB hn f_both f_compared f_either f_one f_product f_sums h hb he hi hx
  · have hq : nx b n i = 33 ∨ nx b n i = 45 ∨ nx b n i = 40 := by
      by_cases a1 : nx b n i = 33
      · exact .inl a1
      · by_cases a2 : nx b n i = 45
        · exact .inr (.inl a2)
        · by_cases a3 : nx b n i = 40
          · exact .inr (.inr a3)
          · exact absurd ⟨a3, a1, a2⟩ hx
    have hlt : i < n := nx_lt (by rcases hq with hq | hq | hq <;> (rw [hq]; decide))
    have byt := byte_ok hB h hb hi hn
    have n6 : ¬ nI (6 - (r + 1)) = 6 := by show ¬ nI (6 - (r + 1)) = nI 6; rw [eq_nI _ _ (by omega) (by omega)]; omega
    have head : Mo_one_B N f_both f_compared f_either f_one f_product f_sums V = Mo_one_b32 N f_both f_compared f_either f_one f_product f_sums V (nx b n i) := by
      unfold Mo_one_B
      rw [h.2.2.2.1, if_pos (by decide), byt, bd1_some, ny_lt hlt]
      rcases hq with hq | hq | hq <;> (rw [hq]; rfl)
    rw [head]
    obtain ⟨V2, hV2⟩ : ∃ V2, V2 = si (si V 44 18 (nI (6 - r))) 44 15 (nI (i + 1)) := ⟨_, rfl⟩
    have o2 : OkM V2 bs n (i + 1) r := by
      obtain ⟨h1, h2, h3, h4, h5⟩ := h
      rw [hV2]; unfold OkM
      simp only [gi_si, gl_si, gi_sl, gl_sl, row_si, row_sl, Nat.reduceEqDiff, reduceIte]
      exact ⟨h1, trivial, h3, h4, trivial⟩
    have p2 : PM V V2 := by rw [hV2]; exact (PM.si V (.inr (.inr rfl)) _).trans (PM.si _ (.inl rfl) _)
    have b32 : ∀ c, Mo_one_b32 N f_both f_compared f_either f_one f_product f_sums V c = if c = 40 then (bd2 (f_either V2) fun r6 S5 => Mo_one_b83 N f_both f_compared f_either f_one f_product f_sums S5 c r6) else (bd2 (f_one V2) fun r4 S3 => Mo_one_b83 N f_both f_compared f_either f_one f_product f_sums S3 c r4) := fun c => by
      unfold Mo_one_b32
      rw [h.2.2.2.2, if_neg n6, nI_1, nm_eq, gi_si, if_pos rfl, if_neg (by decide), h.2.1, nI_1, nm_eq, show 6 - (r + 1) + 1 = 6 - r from by omega, ← hV2]
    rw [b32]
    -- what closes one of them
    have close : ∀ (Vk : St) (j : Nat), OkM Vk bs n j r → OkM (si Vk 44 18 (nI (6 - (r + 1)))) bs n j (r + 1) := fun Vk j hk => by
      obtain ⟨h1, h2, h3, h4, h5⟩ := hk
      unfold OkM
      simp only [gi_si, gl_si, gi_sl, gl_sl, row_si, row_sl, Nat.reduceEqDiff, reduceIte]
      exact ⟨h1, h2, h3, h4, trivial⟩
    have e18 : nI (6 - r) - 1 = nI (6 - (r + 1)) := by rw [show 6 - r = (6 - (r + 1)) + 1 from by omega, nI_1m]
    by_cases h40 : nx b n i = 40
    · obtain ⟨v, V5, s1, s2, s3⟩ := hei V2 (i + 1) o2 (p2.bb hB hb) (p2.ee he) (by omega)
      have p5 := p2.trans s2
      have hgi := (sL_gd (b := b) (sOp_gd b n r) 5 : Gd n _) (i + 1) (by omega)
      unfold sOp
      rw [if_pos h40, h40, if_pos rfl, s1, bd2_some]
      unfold Mo_one_b83 Mo_one_b104
      rw [if_pos rfl]
      cases hy : sL b n (sOp b n r) 5 (i + 1) with
      | inl f =>
        rw [hy] at s3
        dsimp only at s3 ⊢
        obtain ⟨V6, w1, w2, w3⟩ := wrong_fl s3 hn
        rw [takes_fl s3 hn, bd2_some, if_pos rfl, w1, bd2_some]
        exact ⟨_, _, rfl, p5.trans w2, w3⟩
      | inr x =>
        rw [hy] at s3 hgi
        dsimp only at s3 hgi ⊢
        obtain ⟨s3, s4⟩ := s3
        rw [takes_ok hB s3 (p5.bb hB hb) hgi.2.1 hn (by decide) (by decide)]
        by_cases h41 : nx b n x.1 = 41
        · rw [if_pos h41, if_pos h41, bd2_some, if_neg (by decide), gi_si, if_pos rfl, if_neg (by decide), s3.2.2.2.2, e18, nm_eq]
          exact ⟨_, _, rfl, (p5.trans (PM.si V5 (.inl rfl) _)).trans (PM.si _ (.inr (.inr rfl)) _), close _ _ s3.step, s4⟩
        · rw [if_neg h41, if_neg h41, bd2_some, if_pos rfl]
          obtain ⟨w1, w2, w3⟩ := wrong_ok s3 hgi.2.1
          rw [w1, bd2_some]
          exact ⟨_, _, rfl, p5.trans w2, w3⟩
    · have h2 : nx b n i = 33 ∨ nx b n i = 45 := by
        rcases hq with hq | hq | hq
        · exact .inl hq
        · exact .inr hq
        · exact absurd hq h40
      obtain ⟨v, V5, s1, s2, s3⟩ := hon V2 (i + 1) o2 (p2.bb hB hb) (p2.ee he) (by omega)
      have p5 := p2.trans s2
      have hgi := sOp_gd b n r (i + 1) (by omega)
      unfold sOp
      rw [if_neg h40, if_neg h40, if_pos h2, s1, bd2_some]
      unfold Mo_one_b83 Mo_one_b104
      simp only [h40, if_false]
      have p6 : PM V (si V5 44 18 (gi V5 44 18 - 1)) := p5.trans (PM.si V5 (.inr (.inr rfl)) _)
      have val : (nm (si V5 44 18 (gi V5 44 18 - 1)) fun S1 => if nx b n i = 45 then some (-v, S1) else if v = 0 then some (1, S1) else some (0, S1)) = some ((if nx b n i = 45 then -v else if v = 0 then 1 else 0), si V5 44 18 (gi V5 44 18 - 1)) := by
        rw [nm_eq]
        split
        · rfl
        · split <;> rfl
      rw [val]
      refine ⟨_, _, rfl, p6, ?_⟩
      cases hy : sOp b n r (i + 1) with
      | inl f =>
        rw [hy] at s3
        dsimp only at s3 ⊢
        obtain ⟨h1, ⟨j, hj, h2⟩, h3, h4, h5⟩ := s3
        unfold FlM
        simp only [gi_si, gl_si, gi_sl, gl_sl, row_si, row_sl, Nat.reduceEqDiff, reduceIte]
        exact ⟨h1, ⟨j, hj, h2⟩, h3, h4, h5⟩
      | inr x =>
        rw [hy] at s3
        dsimp only at s3 ⊢
        obtain ⟨s3, s4⟩ := s3
        rw [s3.2.2.2.2, e18]
        refine ⟨close _ _ s3, ?_⟩
        rw [s4]
theorem grp_ok {N : Nat} {e : Nat → Int32} (hN : 122 < N) (hB : Bs bs cb) (hn : n ≤ 120) : ∀ r, r ≤ 6 → ∀ D, 6 * r + 1 ≤ D → Wk (grp_Mo_both N D).2.2.2.1 bs cb n r b e (sOp b n r)
  | 0, _, D, hD => by
    obtain ⟨D, rfl⟩ : ∃ k, D = k + 1 := ⟨D - 1, by omega⟩
    exact one_0 (by omega) hB hn _ _ _ _ _ _
  | r + 1, hr, D, hD => by
    obtain ⟨D, rfl⟩ : ∃ k, D = k + 1 + 1 + 1 + 1 + 1 + 1 := ⟨D - 6, by omega⟩
    have h0 := grp_ok (e := e) hN hB hn r (by omega)
    have go := sOp_gd b n r
    have h1 : Wk (grp_Mo_both N (D + 1)).2.2.2.2.1 bs cb n r b e (sL b n (sOp b n r) 1) := product_lv hN hB hn _ _ _ _ _ _ go (h0 D (by omega))
    have h2 : Wk (grp_Mo_both N (D + 1 + 1)).2.2.2.2.2 bs cb n r b e (sL b n (sOp b n r) 2) := sums_lv hN hB hn _ _ _ _ _ _ (sL_gd go 1) h1
    have h3 : Wk (grp_Mo_both N (D + 1 + 1 + 1)).2.1 bs cb n r b e (sL b n (sOp b n r) 3) := compared_lv hB hn _ _ _ _ _ _ (sL_gd go 2) h2
    have h4 : Wk (grp_Mo_both N (D + 1 + 1 + 1 + 1)).1 bs cb n r b e (sL b n (sOp b n r) 4) := both_lv hN hB hn _ _ _ _ _ _ (sL_gd go 3) h3
    have h5 : Wk (grp_Mo_both N (D + 1 + 1 + 1 + 1 + 1)).2.2.1 bs cb n r b e (sL b n (sOp b n r) 5) := either_lv hN hB hn _ _ _ _ _ _ (sL_gd go 4) h4
    exact one_s (by omega) (by omega) hB hn _ _ _ _ _ _ h5 (h0 _ (by omega))
theorem either_ok {N : Nat} {e : Nat → Int32} (hN : 122 < N) (hB : Bs bs cb) (hn : n ≤ 120) : Wk (Mo_either N N) bs cb n 6 b e (sE b n) := by
  obtain ⟨D, hD⟩ : ∃ D, N = D + 1 + 1 + 1 + 1 + 1 := ⟨N - 5, by omega⟩
  have h0 := grp_ok (e := e) hN hB hn 6 (Nat.le_refl _) (b := b)
  have go := sOp_gd b n 6
  have h1 : Wk (grp_Mo_both N (D + 1)).2.2.2.2.1 bs cb n 6 b e (sL b n (sOp b n 6) 1) := product_lv hN hB hn _ _ _ _ _ _ go (h0 D (by omega))
  have h2 : Wk (grp_Mo_both N (D + 1 + 1)).2.2.2.2.2 bs cb n 6 b e (sL b n (sOp b n 6) 2) := sums_lv hN hB hn _ _ _ _ _ _ (sL_gd go 1) h1
  have h3 : Wk (grp_Mo_both N (D + 1 + 1 + 1)).2.1 bs cb n 6 b e (sL b n (sOp b n 6) 3) := compared_lv hB hn _ _ _ _ _ _ (sL_gd go 2) h2
  have h4 : Wk (grp_Mo_both N (D + 1 + 1 + 1 + 1)).1 bs cb n 6 b e (sL b n (sOp b n 6) 4) := both_lv hN hB hn _ _ _ _ _ _ (sL_gd go 3) h3
  have h5 : Wk (grp_Mo_both N (D + 1 + 1 + 1 + 1 + 1)).2.2.1 bs cb n 6 b e (sL b n (sOp b n 6) 5) := either_lv hN hB hn _ _ _ _ _ _ (sL_gd go 4) h4
  rw [← hD] at h5
  exact h5
end
