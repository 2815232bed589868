theorem RLk.core {S S' T : St} (hC : Core S T) {L : List Nat} (h : ∀ v i, v ∉ L → gi S' v i = gi S v i) (h2 : ∀ i, gl S' 43 i = gl S 43 i) : ∃ T', Core S' T' ∧ (∀ v i, v ∉ L → gi T' v i = gi T v i) ∧ (∀ v i, v ∈ L → gi T' v i = gi S' v i) ∧ ∀ i, gl T' 43 i = gl T 43 i := by
  refine ⟨(fun v i => if v ∈ L then gi S' v i else gi T v i, T.2), ⟨fun v i hs => ?_, fun i => (h2 i).trans (hC.2 i)⟩, fun v i hv => ?_, fun v i hv => ?_, fun i => rfl⟩
  · show gi S' v i = if v ∈ L then gi S' v i else gi T v i
    by_cases hv : v ∈ L
    · rw [if_pos hv]
    · rw [if_neg hv, h v i hv, hC.1 v i hs]
  · show (if v ∈ L then gi S' v i else gi T v i) = _
    rw [if_neg hv]
  · show (if v ∈ L then gi S' v i else gi T v i) = _
    rw [if_pos hv]
theorem drop_S {S T : St} (hC : Core S T) : ∃ S1 T1, Cg_dropOldest S = some (si S1 8 0 (gi S 8 0 - 1)) ∧ Core S1 T1 ∧ (∀ v i, v ≠ 34 → v ≠ 35 → v ≠ 36 → v ≠ 37 → gi T1 v i = gi T v i) ∧ (∀ i, gl T1 43 i = gl T 43 i) ∧ ∀ v, v = 34 ∨ v = 35 ∨ v = 36 ∨ v = 37 → ∀ j, j < 40 → gi T1 v j = if j < 39 then gi T v (j + 1) else gi T v j := by
  have e1 : (1 : Int32).toNatClampNeg = 1 := rfl
  have e0 : (0 : Int32).toNatClampNeg = 0 := rfl
  have e39 : (39 : Int32).toNatClampNeg = 39 := rfl
  obtain ⟨S1, hS1⟩ : ∃ S1, S1 = cpi (cpi (cpi (cpi S 34 34 1 0 39) 35 35 1 0 39) 36 36 1 0 39) 37 37 1 0 39 := ⟨_, rfl⟩
  have g : ∀ v i, v ∉ [34, 35, 36, 37] → gi S1 v i = gi S v i := fun v i hv => by
    simp only [List.mem_cons, List.not_mem_nil, or_false, not_or] at hv
    rw [hS1]; simp only [gi_cpi, hv, if_false]
  obtain ⟨T1, c1, c2, c3, c4⟩ := RLk.core hC (L := [34, 35, 36, 37]) (S' := S1) g (fun i => by rw [hS1]; rfl)
  refine ⟨S1, T1, ?_, c1, fun v i h1 h2 h3 h4 => c2 v i (by simp [h1, h2, h3, h4]), c4, fun v hv j hj => ?_⟩
  · unfold Cg_dropOldest
    rw [show cpok 1 0 39 40 40 = true from by decide]
    simp only [ck_true, nm_eq, e1, e0, e39]
    rw [← hS1, g 8 0 (by decide)]
  · rw [c3 v j (by simp; omega)]
    have q : ∀ i, gi T v i = gi S v i := fun i => (hC.1 v i (by rcases hv with rfl | rfl | rfl | rfl <;> rfl)).symm
    rw [q, q, hS1]
    rcases hv with rfl | rfl | rfl | rfl <;> simp only [gi_cpi, Nat.reduceEqDiff, reduceIte, Nat.zero_le, true_and, Nat.zero_add, Nat.sub_zero] <;> (rw [Nat.add_comm 1 j])
theorem drop_V {V : St} {l1 l2 l3 : Int32} {N : Nat} (hf : 40 < N) : ∃ V1, Mo_becomes_L26 N l1 l2 l3 (V, 1) = Mo_becomes_b97 N (si V1 44 5 (gi V 44 5 - 1)) l1 l2 l3 ∧ (∀ v i, v ≠ 46 → v ≠ 47 → v ≠ 48 → gi V1 v i = gi V v i) ∧ (∀ i, gl V1 63 i = gl V 63 i) ∧ ∀ v, v = 46 ∨ v = 47 ∨ v = 48 → ∀ j, j < 40 → gi V1 v j = if j < 39 then gi V v (j + 1) else gi V v j := by
  unfold Mo_becomes_L26
  have hs : ∀ j (x : St × Int32), j < 40 → (fun j x => ∃ Vj, x = (Vj, nI j) ∧ 1 ≤ j ∧ (∀ v i, v ≠ 46 → v ≠ 47 → v ≠ 48 → gi Vj v i = gi V v i) ∧ (∀ i, gl Vj 63 i = gl V 63 i) ∧ ∀ v, v = 46 ∨ v = 47 ∨ v = 48 → ∀ i, i < 40 → gi Vj v i = if i + 1 < j then gi V v (i + 1) else gi V v i) j x → ∃ x', (∀ k, (fun k (x : St × Int32) => Mo_becomes_b26 N k x.1 l1 l2 l3 x.2) k x = k x') ∧ (fun j x => ∃ Vj, x = (Vj, nI j) ∧ 1 ≤ j ∧ (∀ v i, v ≠ 46 → v ≠ 47 → v ≠ 48 → gi Vj v i = gi V v i) ∧ (∀ i, gl Vj 63 i = gl V 63 i) ∧ ∀ v, v = 46 ∨ v = 47 ∨ v = 48 → ∀ i, i < 40 → gi Vj v i = if i + 1 < j then gi V v (i + 1) else gi V v i) (j + 1) x' := by
    rintro j x hj ⟨Vj, rfl, h0, h1, h2, h3⟩
    refine ⟨(si (si (si Vj 46 (j - 1) (gi Vj 46 j)) 47 (j - 1) (gi Vj 47 j)) 48 (j - 1) (gi Vj 48 j), nI (j + 1)), fun k => ?_, _, rfl, by omega, ?_, ?_, ?_⟩
    · dsimp only
      unfold Mo_becomes_b26
      rw [if_neg (by show ¬ nI 40 ≤ nI j; rw [le_nI _ _ (by omega) (by omega)]; omega), show nI j - 1 = nI (j - 1) from pk_sub (a := j) (b := 1) h0, inb_nI (j := j) (n := 40) (by omega) (by omega), inb_nI (j := j - 1) (n := 40) (by omega) (by omega), cl j (by omega), cl (j - 1) (by omega)]
      simp only [ck_true, nm_eq, nI_1, gi_si, gl_si, gi_sl, gl_sl, row_si, row_sl, Nat.reduceEqDiff, reduceIte]
    · intro v i a1 a2 a3
      simp only [gi_si, if_neg a1, if_neg a2, if_neg a3]
      exact h1 v i a1 a2 a3
    · intro i; simp only [gl_si]; exact h2 i
    · intro v hv i hi
      have q1 := h3 v hv i hi
      have q2 := h3 v hv j hj
      rcases hv with rfl | rfl | rfl
      all_goals
        simp only [gi_si, gl_si, gi_sl, gl_sl, row_si, row_sl, Nat.reduceEqDiff, reduceIte]
        by_cases e : i = j - 1
        · rw [if_pos e, if_pos (by omega), q2, if_neg (by omega), e, show j - 1 + 1 = j from by omega]
        · rw [if_neg e, q1]
          by_cases e2 : i + 1 < j
          · rw [if_pos e2, if_pos (by omega)]
          · rw [if_neg e2, if_neg (by omega)]
  obtain ⟨x, k, e, Vj, rfl, h0, h1, h2, h3⟩ := lp_go _ 40 hs N 1 (V, 1) (by omega) (by omega) ⟨V, rfl, Nat.le_refl _, fun _ _ _ _ _ => rfl, fun _ => rfl, fun v hv i hi => by rw [if_neg (by omega)]⟩
  refine ⟨Vj, ?_, h1, h2, fun v hv j hj => ?_⟩
  · rw [e]
    dsimp only
    unfold Mo_becomes_b26
    rw [if_pos (by decide), nm_eq, h1 44 5 (by decide) (by decide) (by decide)]
  · rw [h3 v hv j hj]
    by_cases hh : j < 39
    · rw [if_pos hh, if_pos (by omega)]
    · rw [if_neg hh, if_neg (by omega)]
/-- a change is kept, and laid -/
theorem add_both {S V T : St} {P Q F c a B w n : Nat} {x y : Int32} (hC : Core S T) (h : RLk V T P Q F c a B) (hc : c < 40) (hw : w ≤ 6) (hx : okv T P Q w n x) (hy : okv T P Q w n y) (N : Nat) :
    ∃ S1 V1, Cg_add_b13 S (nI n) (nI w) x y = some S1 ∧ Mo_becomes_b97 N V (nI (plc w n)) y x = some (x, V1) ∧ ∃ S2, Sm_become S1 (nI n) (nI w) y = some S2 ∧ RR S2 V1 := by
  have h' := h
  obtain ⟨hN, hPe, hPr, hP, hTa, hLw, hLd, ⟨c1, c2, c3, c4, c5, c6, c7⟩, hBo, hSh⟩ := h'
  have g := RL_become (RL_add h hc hw hx hy) hw (n := n) (w := w) (x := y) (by simpa only [okv, gi_si, gl_si, gi_sl, gl_sl, row_si, row_sl, Nat.reduceEqDiff, reduceIte] using hy)
  have g2 := RL_add h hc hw hx hy
  refine ⟨_, _, ?_, ?_, _, Sm_become_eq _ hN hw hy, _, P, Q, F, c + 1, c + 1, B, ((((((hC.si 34 c (nI n)).si 35 c (nI w)).si 36 c x).si 37 c y).si 8 0 (nI (c + 1))).si 8 1 (nI (c + 1))).si _ _ _, g⟩
  · unfold Cg_add_b13
    simp only [gi_si, gl_si, gi_sl, gl_sl, row_si, row_sl, Nat.reduceEqDiff, reduceIte, (hC.1 8 0 rfl).trans c1, inb_nI (j := c) (n := 40) (by omega) (by omega), ck_true, nm_eq, cl c (by omega), nI_1]
  · unfold Mo_becomes_b97
    simp only [gi_si, gl_si, gi_sl, gl_sl, row_si, row_sl, Nat.reduceEqDiff, reduceIte, c5, inb_nI (j := c) (n := 40) (by omega) (by omega), ck_true, nm_eq, cl c (by omega), nI_1, inb_nI (plc_lt hy hw hN) (by omega), cl (plc w n) (by have := plc_lt hy hw hN; omega)]
theorem RR_mend : LS_mend RR := by
  rintro S V p1 p2 p3 hRR
  have hRR' := hRR
  obtain ⟨T, P, Q, F, c, a, B, hC, hR⟩ := hRR
  have hR' := hR
  obtain ⟨hN, hPe, hPr, hP, hTa, hLw, hLd, ⟨c1, c2, c3, c4, c5, c6, c7⟩, hBo, hSh⟩ := hR'
  have hP6 := hN.2.1
  have hQ10 := hN.2.2.2
  have big : ∃ (r : Int32) (S1 V1 : St), some ((-2000000000 : Int32), S) = some (r, S1) ∧ some ((-2000000000 : Int32), V) = some (r, V1) ∧ RR S1 V1 := ⟨_, _, _, rfl, rfl, hRR'⟩
  unfold Ch_mend Mo_mend
  by_cases h : 0 ≤ p2.toInt ∧ p2.toInt ≤ 8
  · obtain ⟨e, e2⟩ := i32_nI h.1
    generalize p2.toNatClampNeg = w at e e2
    subst e
    rw [Sm_has_eq hC hN (by omega), bd1_some, if_bI]
    by_cases hw : w ≤ 6
    · rw [Mo_placeOf_eq hP hN hw, bd1_some]
      by_cases hv : wi p1.toInt 0 ((if w < 3 then P else Q : Nat) - 1) = true
      · rw [if_pos hv, if_pos hv]
        obtain ⟨n, n1, rfl⟩ := wi_nI hv
        have n2 : n < if w < 3 then 6 else 10 := by split at n1 <;> (rename_i h3; simp only [h3, if_true, if_false]; omega)
        have n3 : plc w n < 58 := by unfold plc; split at n2 <;> (rename_i h3; simp only [h3, if_true, if_false]; omega)
        rw [place_nI hw, if_neg (by rw [Int32.lt_iff_toInt_lt, ti _ (by omega), ti0]; omega), Sm_canBecome_eq hC hN hw n1, bd1_some, if_bI, Mo_mayBecome_eq hP hN hw n1, bd1_some, if_bI]
        by_cases hb : okb T P w n p3 = true
        · have hk := okb_ok hb hw n1
          rw [if_pos hb, if_pos hb, Sm_numberOf_eq hC hw n2, bd1_some]
          unfold Mo_becomes
          rw [inb_nI n3 (by omega), ck_true, cl _ (by omega), hP.at hw n2, nm_eq]
          by_cases hs : gi T (rwN w) n = p3
          · rw [if_pos hs, if_pos hs]
            exact ⟨_, _, _, rfl, rfl, hRR'⟩
          · rw [if_neg hs, if_neg hs]
            have hx : okv T P Q w n (gi T (rwN w) n) := by
              rcases w7 hw with rfl | rfl | rfl | rfl | rfl | rfl | rfl
              · exact ⟨fun _ => ⟨n1, (hPe n n1).1⟩, by simp, by simp, by simp, by simp, by simp, by simp, by simp⟩
              · exact ⟨by simp, fun _ => ⟨n1, (hPe n n1).2.1⟩, by simp, by simp, by simp, by simp, by simp, by simp⟩
              · exact ⟨by simp, by simp, fun _ => ⟨n1, (hPe n n1).2.2⟩, by simp, by simp, by simp, by simp, by simp⟩
              · exact ⟨by simp, by simp, by simp, fun _ => n1, fun _ => (hPr n n1).2.1.2, by simp, by simp, by simp⟩
              · exact ⟨by simp, by simp, by simp, fun _ => n1, by simp, fun _ => (hPr n n1).2.2.1, by simp, by simp⟩
              · exact ⟨by simp, by simp, by simp, fun _ => n1, by simp, by simp, fun _ => (hPr n n1).2.2.2.1, by simp⟩
              · exact ⟨by simp, by simp, by simp, fun _ => n1, by simp, by simp, by simp, fun _ => (hPr n n1).2.2.2.2⟩
            unfold Cg_add
            rw [(hC.1 8 0 rfl).trans c1, c5]
            by_cases h40 : c = 40
            · subst h40
              rw [if_pos (show nI 40 = (40 : Int32) from rfl), if_pos (show nI 40 = (40 : Int32) from rfl)]
              obtain ⟨S1, T1, s1, s2, s3, s4, s5⟩ := drop_S hC
              obtain ⟨V1, v1, v2, v3, v4⟩ := drop_V (V := V) (l1 := nI (plc w n)) (l2 := p3) (l3 := gi T (rwN w) n) (N := fuel) (by decide)
              have g := RL_drop hR v2 v3 v4 s3 s4 s5
              have ht15 : gi T1 15 n = gi T 15 n := s3 15 n (by decide) (by decide) (by decide) (by decide)
              rw [s1, bd1_some, v1, (hC.1 8 0 rfl).trans c1, c5, show nI 40 - 1 = nI 39 from rfl]
              obtain ⟨S2, V2, a1, a2, S3, a3, a4⟩ := add_both (n := n) (x := gi T (rwN w) n) (s2.si 8 0 (nI 39)) g (by omega) hw (by simpa only [okv, gi_si, gl_si, gi_sl, gl_sl, row_si, row_sl, Nat.reduceEqDiff, reduceIte, ht15] using hx) (by simpa only [okv, gi_si, gl_si, gi_sl, gl_sl, row_si, row_sl, Nat.reduceEqDiff, reduceIte, ht15] using hk) fuel
              rw [a1, a2, bd1_some, bd2_some, a3]
              exact ⟨_, _, _, rfl, rfl, a4⟩
            · have h40' : ¬ nI c = 40 := by
                rw [show (40 : Int32) = nI 40 from rfl, eq_nI _ _ (by omega) (by omega)]; exact h40
              rw [if_neg h40', if_neg h40']
              obtain ⟨S2, V2, a1, a2, S3, a3, a4⟩ := add_both (x := gi T (rwN w) n) hC hR (by omega) hw hx hk fuel
              rw [a1, a2, bd1_some, bd2_some, a3]
              exact ⟨_, _, _, rfl, rfl, a4⟩
        · rw [if_neg hb, if_neg hb]; exact big
      · rw [if_neg hv, if_neg hv, if_pos (by decide)]; exact big
    · have hw2 : w = 7 ∨ w = 8 := by omega
      rw [Mo_placeOf_no hP hN _ (by rw [ti _ (by omega)]; omega), bd1_some, if_pos (by decide : (-1 : Int32) < 0)]
      have : Sm_canBecome S p1 (nI w) p3 = some 0 := by rcases hw2 with rfl | rfl <;> rfl
      rw [this, bd1_some, if_pos rfl]
      by_cases hq : wi p1.toInt 0 ((if w < 3 then P else Q : Nat) - 1) = true
      · rw [if_pos hq]; exact big
      · rw [if_neg hq]; exact big
  · rw [Sm_has_no S p1 h, bd1_some, if_pos rfl, Mo_placeOf_no hP hN _ (by omega), bd1_some, if_pos (by decide)]; exact big
