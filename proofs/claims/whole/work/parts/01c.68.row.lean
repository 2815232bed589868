def und (k t : Nat) : Bool := (k == t) || (t == 0) || (k == 3 && t == 2) || (k == 4 && t == 1) || (k == 5 && (t == 3 || t == 2)) || (k == 7 && (t == 4 || t == 1))
theorem und_S : ∀ k, k < 8 → ∀ t, t < 8 → Li_isUnder 1200 S0 (nI k) (nI t) = some (bI (und k t)) := by decide +kernel
theorem und_V (V : St) (l : Int32) : ∀ k, k < 8 → ∀ t, t < 8 → Mo_taken_L58 1200 V l (nI t) (nI k) = if und k t = true then (ck (inb l 6) (bd1 (Mo_kindOf V (gi V 61 l.toNatClampNeg)) fun r1 => some r1)) else some (-12) := by
  intro k hk t ht
  have h1 : k = 0 ∨ k = 1 ∨ k = 2 ∨ k = 3 ∨ k = 4 ∨ k = 5 ∨ k = 6 ∨ k = 7 := by omega
  have h2 : t = 0 ∨ t = 1 ∨ t = 2 ∨ t = 3 ∨ t = 4 ∨ t = 5 ∨ t = 6 ∨ t = 7 := by omega
  rcases h1 with rfl | rfl | rfl | rfl | rfl | rfl | rfl | rfl <;> rcases h2 with rfl | rfl | rfl | rfl | rfl | rfl | rfl | rfl <;> rfl
theorem RR_taken : LS_taken RR := by
  rintro S V p1 p2 hRR
  have hRR' := hRR
  obtain ⟨T, P, Q, F, c, a, B, hC, hN, hPe, hPr, hP, hTa, hLw, hLd, hCh, hBo, hSh⟩ := hRR
  obtain ⟨b1, b2, b3, b4, b5, b6⟩ := hBo
  unfold Ch_taken Mo_taken
  simp only [Sh_isShelf_eq, Mo_isShelf_eq, Ch_within_eq, Mo_within_eq, bd1_some, if_bI, Int32.toInt_toInt64, tI0, tI7, ti0, ti7]
  by_cases h : wi p1.toInt 0 5 = true
  · rw [if_pos h, if_pos h]
    obtain ⟨d, hd, rfl⟩ := wi_nI5 h
    have i6 : inb (nI d) 6 = true := inb_nI hd (by omega)
    by_cases h2 : wi p2.toInt 0 7 = true
    · rw [if_pos h2, if_pos h2]
      rw [wi_t] at h2
      obtain ⟨e, e2⟩ := i32_nI h2.1
      generalize p2.toNatClampNeg = t at e e2
      subst e
      unfold Sh_refusalOfLink Sh_refusalOfRow Mo_kindOf Li_kindOf
      simp only [i6, ck_true, cl d (show d < 5000 by omega), hC.g 42 (fun _ => rfl), hC.g 41 (fun _ => rfl), Li_isBody_eq hC b1 b2, bd1_some, if_bI]
      rcases hSh.1 d hd with ⟨x1, x2⟩ | ⟨x1, b, x2, x3, x4⟩ | ⟨s, n, x1, x2, x3, x4, x5, x6, x7⟩
      · rw [x1, x2, if_pos rfl, if_neg (by decide : ¬ (0 : Int32) ≤ -1)]
        exact ⟨_, rfl, rfl, hRR'⟩
      · obtain ⟨k, k1, k2, k3⟩ := b4 b x2
        rw [x1, x3, x4, if_neg (by decide : ¬ (5 : Int32) = -1), if_pos rfl, bd1_some, bd1_some, if_pos rfl, if_pos (by rw [wi_t, ti b (by omega)]; omega), inb_nI (j := b) (n := 50) (by omega) (by omega), ck_true, ck_true, cl b (by omega), hC.g 39 (fun _ => rfl), k2, k3, if_pos (by show nI 0 ≤ nI b; rw [le_nI _ _ (by omega) (by omega)]; omega), if_pos (by show nI b < nI 50; rw [lt_nI _ _ (by omega) (by omega)]; omega), bd1_some, bd1_some]
        rw [show fuel = 1200 from rfl, show Li_isUnder 1200 S (nI k) (nI t) = Li_isUnder 1200 S0 (nI k) (nI t) from rfl, und_S k k1 t (by omega), und_V V (nI d) k k1 t (by omega), bd1_some, if_bI, i6, ck_true, cl d (by omega), x4]
        unfold Mo_kindOf
        rw [inb_nI (j := b) (n := 50) (by omega) (by omega), ck_true, cl b (by omega), k3, bd1_some]
        refine ⟨if und k t = true then nI k else -12, ?_, ?_, hRR'⟩
        · split <;> rfl
        · split <;> rfl
      · have n1 : ¬ nI s = (-1 : Int32) := by
          intro e; have := congrArg Int32.toInt e; rw [ti s (by omega), tim1] at this; omega
        have n5 : ¬ nI s = (5 : Int32) := by
          show ¬ nI s = nI 5; rw [eq_nI _ _ (by omega) (by omega)]; omega
        rw [x3, x5, if_neg n1, if_neg n5, bd1_some, bd1_some, if_neg (by decide : ¬ (-12 : Int32) = 0), if_pos (by show nI 0 ≤ nI (50 + s); rw [le_nI _ _ (by omega) (by omega)]; omega), if_neg (by show ¬ nI (50 + s) < nI 50; rw [lt_nI _ _ (by omega) (by omega)]; omega)]
        exact ⟨_, rfl, rfl, hRR'⟩
    · rw [if_neg h2, if_neg h2]; exact ⟨_, rfl, rfl, hRR'⟩
  · rw [if_neg h, if_neg h]; exact ⟨_, rfl, rfl, hRR'⟩
theorem fill60 (S : St) {d N : Nat} (hd : d < 6) (hf : 61 < N) : ∃ S', Ar_fill_bad5a N S 43 (nI (60 * d)) (nI (60 * d + 60)) 0 = some S' ∧ (∀ v i, gi S' v i = gi S v i) ∧ ∀ i, gl S' 43 i = if 60 * d ≤ i ∧ i < 60 * d + 60 then 0 else gl S 43 i := by
  unfold Ar_fill_bad5a Ar_fill_bad5a_L10 Ar_rangeCheck
  have hs : ∀ j (x : St × Int32), j < 60 → (fun j (x : St × Int32) => ∃ Vj, x = (Vj, nI (60 * d + j)) ∧ (∀ v i, gi Vj v i = gi S v i) ∧ ∀ i, gl Vj 43 i = if 60 * d ≤ i ∧ i < 60 * d + j then 0 else gl S 43 i) j x → ∃ x', (∀ k, (fun k (x : St × Int32) => Ar_fill_bad5a_b10 N k x.1 43 (nI (60 * d + 60)) 0 x.2) k x = k x') ∧ (fun j (x : St × Int32) => ∃ Vj, x = (Vj, nI (60 * d + j)) ∧ (∀ v i, gi Vj v i = gi S v i) ∧ ∀ i, gl Vj 43 i = if 60 * d ≤ i ∧ i < 60 * d + j then 0 else gl S 43 i) (j + 1) x' := by
    rintro j x hj ⟨Vj, rfl, h1, h2⟩
    refine ⟨(sl Vj 43 (60 * d + j) 0, nI (60 * d + j + 1)), fun k => ?_, _, rfl, fun v i => h1 v i, fun i => ?_⟩
    · dsimp only
      unfold Ar_fill_bad5a_b10
      rw [if_neg (by rw [le_nI _ _ (by omega) (by omega)]; omega), show isL 43 = true from rfl, show lenL 43 = 360 from rfl, inb_nI (j := 60 * d + j) (n := 360) (by omega) (by omega), ck_true, ck_true, cl (60 * d + j) (by omega), nm_eq, nm_eq, nI_1]
    · rw [gl_sl, if_pos rfl, h2 i]
      by_cases e : i = 60 * d + j
      · rw [if_pos e, if_pos (by omega)]
      · rw [if_neg e]
        by_cases e2 : 60 * d ≤ i ∧ i < 60 * d + j
        · rw [if_pos e2, if_pos (by omega)]
        · rw [if_neg e2, if_neg (by omega)]
  obtain ⟨x, k, e, Vj, rfl, h1, h2⟩ := lp_go _ 60 hs N 0 (S, nI (60 * d)) (by omega) (by omega) ⟨S, rfl, fun _ _ => rfl, fun i => by rw [if_neg (by omega)]⟩
  refine ⟨Vj, ?_, h1, h2⟩
  rw [show isL 43 = true from rfl, ck_true, if_pos (by rw [le_nI _ _ (by omega) (by omega)]; omega), if_pos (by show nI 0 ≤ nI (60 * d); rw [le_nI _ _ (by omega) (by omega)]; omega), if_pos (by show nI (60 * d + 60) ≤ nI 360; rw [le_nI _ _ (by omega) (by omega)]; omega), bd1_some, e]
  dsimp only
  unfold Ar_fill_bad5a_b10
  rw [if_pos (Int32.le_refl _)]
theorem Mo_row_60 (S : St) {d N : Nat} (hd : d < 6) (hf : 61 < N) : ∃ S', Mo_row_L57 N (nI d) (S, nI (60 * d)) = some (1, S') ∧ (∀ v i, gi S' v i = gi S v i) ∧ ∀ i, gl S' 63 i = if 60 * d ≤ i ∧ i < 60 * d + 60 then 0 else gl S 63 i := by
  unfold Mo_row_L57
  have e60 : 60 * nI d + 60 = nI (60 * d + 60) := by rw [(s60 d).2]; exact nI_add _ 60
  have hs : ∀ j (x : St × Int32), j < 60 → (fun j (x : St × Int32) => ∃ Vj, x = (Vj, nI (60 * d + j)) ∧ (∀ v i, gi Vj v i = gi S v i) ∧ ∀ i, gl Vj 63 i = if 60 * d ≤ i ∧ i < 60 * d + j then 0 else gl S 63 i) j x → ∃ x', (∀ k, (fun k (x : St × Int32) => Mo_row_b57 N k x.1 (nI d) x.2) k x = k x') ∧ (fun j (x : St × Int32) => ∃ Vj, x = (Vj, nI (60 * d + j)) ∧ (∀ v i, gi Vj v i = gi S v i) ∧ ∀ i, gl Vj 63 i = if 60 * d ≤ i ∧ i < 60 * d + j then 0 else gl S 63 i) (j + 1) x' := by
    rintro j x hj ⟨Vj, rfl, h1, h2⟩
    refine ⟨(sl Vj 63 (60 * d + j) 0, nI (60 * d + j + 1)), fun k => ?_, _, rfl, fun v i => h1 v i, fun i => ?_⟩
    · dsimp only
      unfold Mo_row_b57
      rw [e60, if_neg (by rw [le_nI _ _ (by omega) (by omega)]; omega), inb_nI (j := 60 * d + j) (n := 360) (by omega) (by omega), ck_true, cl (60 * d + j) (by omega), nm_eq, nm_eq, nI_1]
    · rw [gl_sl, if_pos rfl, h2 i]
      by_cases e : i = 60 * d + j
      · rw [if_pos e, if_pos (by omega)]
      · rw [if_neg e]
        by_cases e2 : 60 * d ≤ i ∧ i < 60 * d + j
        · rw [if_pos e2, if_pos (by omega)]
        · rw [if_neg e2, if_neg (by omega)]
  obtain ⟨x, k, e, Vj, rfl, h1, h2⟩ := lp_go _ 60 hs N 0 (S, nI (60 * d)) (by omega) (by omega) ⟨S, rfl, fun _ _ => rfl, fun i => by rw [if_neg (by omega)]⟩
  refine ⟨Vj, ?_, h1, h2⟩
  rw [e]
  dsimp only
  unfold Mo_row_b57
  rw [e60, if_pos (Int32.le_refl _)]
/-- the state with other numbers in cell 43 -/
def setL (T : St) (f : Nat → Int64) : St := (T.1, fun w => if w = 43 then f else T.2 w)
theorem gi_setL (T : St) (f : Nat → Int64) (v i : Nat) : gi (setL T f) v i = gi T v i := rfl
theorem gl_setL (T : St) (f : Nat → Int64) (i : Nat) : gl (setL T f) 43 i = f i := rfl
theorem row_setL (T : St) (f : Nat → Int64) (v : Nat) : (setL T f).1 v = T.1 v := rfl
theorem Core.setL {S S' T : St} (h : Core S T) (h1 : ∀ v i, gi S' v i = gi S v i) : Core S' (setL T (S'.2 43)) := ⟨fun v i hv => (h1 v i).trans (h.1 v i hv), fun i => rfl⟩
theorem RR_row : LS_row RR := by
  rintro S V p1 p2 p3 hRR
  have hRR' := hRR
  obtain ⟨T, P, Q, F, c, a, B, hC, hN, hPe, hPr, hP, hTa, hLw, hLd, hCh, hBo, hSh⟩ := hRR
  unfold Ch_row Mo_row
  simp only [Sh_isShelf_eq, Mo_isShelf_eq, Ch_within_eq, Mo_within_eq, bd1_some, if_bI, Int32.toInt_toInt64, tI0, tI4, ti0, ti4]
  by_cases h : wi p1.toInt 0 5 = true
  · rw [if_pos h, if_pos h]
    obtain ⟨d, hd, rfl⟩ := wi_nI5 h
    have i6 : inb (nI d) 6 = true := inb_nI hd (by omega)
    by_cases h2 : wi p2.toInt 0 4 = true
    · rw [if_pos h2, if_pos h2]
      by_cases h3 : p3 ≤ 60
      · rw [if_pos h3, if_pos h3]
        by_cases h4 : 0 ≤ p3
        · rw [if_pos h4, if_pos h4]
          rw [wi_t] at h2
          obtain ⟨e, e2⟩ := i32_nI h2.1
          generalize p2.toNatClampNeg = s at e e2
          subst e
          rw [Int32.le_iff_toInt_le] at h3 h4
          obtain ⟨e, e3⟩ := i32_nI (x := p3) h4
          generalize p3.toNatClampNeg = n at e e3
          subst e
          have t60 : (60 : Int32).toInt = 60 := rfl
          unfold Sh_holdRow
          have x1 : (nI d + 1) * 60 = nI (60 * d + 60) := by rw [nI_1, (s60 _).1]; rfl
          obtain ⟨S', s1, s2, s3⟩ := fill60 (si (si S 42 d (nI s)) 40 d (nI n)) (N := fuel) hd (by decide)
          obtain ⟨V', v1, v2, v3⟩ := Mo_row_60 (si (si V 61 d (nI (50 + s))) 62 d (nI n)) (N := fuel) hd (by decide)
          simp only [show (50 : Int32) = nI 50 from rfl, nI_add, i6, ck_true, cl d (show d < 5000 by omega), nm_eq, x1, (s60 d).1, s1, (s60 d).2, v1, bd1_some, bd2_some]
          have hC2 := ((hC.si 42 d (nI s)).si 40 d (nI n)).setL s2
          refine ⟨_, _, _, rfl, rfl, _, P, Q, F, c, a, B, hC2, ?_⟩
          have vl : ∀ v, V'.1 v = (si (si V 61 d (nI (50 + s))) 62 d (nI n)).1 v := fun v => funext fun i => v2 v i
          refine ⟨by simpa only [iN, gi_setL, row_setL, v2, vl, gi_si, gl_si, gi_sl, gl_sl, row_si, row_sl, Nat.reduceEqDiff, reduceIte] using hN, by simpa only [iPe, gi_setL, row_setL, v2, vl, gi_si, gl_si, gi_sl, gl_sl, row_si, row_sl, Nat.reduceEqDiff, reduceIte] using hPe, by simpa only [iPr, gi_setL, row_setL, v2, vl, gi_si, gl_si, gi_sl, gl_sl, row_si, row_sl, Nat.reduceEqDiff, reduceIte] using hPr, by simpa only [rP, gi_setL, row_setL, v2, vl, gi_si, gl_si, gi_sl, gl_sl, row_si, row_sl, Nat.reduceEqDiff, reduceIte] using hP, by simpa only [rTa, gi_setL, row_setL, v2, vl, gi_si, gl_si, gi_sl, gl_sl, row_si, row_sl, Nat.reduceEqDiff, reduceIte] using hTa, by simpa only [rLw, gi_setL, row_setL, v2, vl, gi_si, gl_si, gi_sl, gl_sl, row_si, row_sl, Nat.reduceEqDiff, reduceIte] using hLw, by simpa only [rLd, gi_setL, row_setL, v2, vl, gi_si, gl_si, gi_sl, gl_sl, row_si, row_sl, Nat.reduceEqDiff, reduceIte] using hLd, by simpa only [rCh, iCe, okv, gi_setL, row_setL, v2, vl, gi_si, gl_si, gi_sl, gl_sl, row_si, row_sl, Nat.reduceEqDiff, reduceIte] using hCh, by simpa only [rBo, gi_setL, row_setL, v2, vl, gi_si, gl_si, gi_sl, gl_sl, row_si, row_sl, Nat.reduceEqDiff, reduceIte] using hBo, fun d' hd' => ?_, fun k hk => ?_⟩
          · by_cases e : d' = d
            · subst e
              refine .inr (.inr ⟨s, n, by omega, by omega, by simp only [gi_setL, gi_si, gl_si, gi_sl, gl_sl, row_si, row_sl, Nat.reduceEqDiff, reduceIte], by simp only [gi_setL, gi_si, gl_si, gi_sl, gl_sl, row_si, row_sl, Nat.reduceEqDiff, reduceIte], by rw [v2]; simp only [gi_si, gl_si, gi_sl, gl_sl, row_si, row_sl, Nat.reduceEqDiff, reduceIte], by rw [v2]; simp only [gi_si, gl_si, gi_sl, gl_sl, row_si, row_sl, Nat.reduceEqDiff, reduceIte], fun _ j hj => ?_⟩)
              rw [gl_setL]
              have := s3 (60 * d' + j)
              rw [if_pos (by omega)] at this
              have e0 : S'.2 43 (60 * d' + j) = 0 := this
              rw [e0]; exact ⟨by decide, by decide⟩
            · rcases hSh.1 d' hd' with ⟨y1, y2⟩ | ⟨y1, b, y2, y3, y4⟩ | ⟨s', n', y1, y2, y3, y4, y5, y6, y7⟩
              · exact .inl ⟨by simpa only [gi_setL, gi_si, gl_si, gi_sl, gl_sl, row_si, row_sl, Nat.reduceEqDiff, reduceIte, e] using y1, by rw [v2]; simpa only [gi_si, gl_si, gi_sl, gl_sl, row_si, row_sl, Nat.reduceEqDiff, reduceIte, e] using y2⟩
              · exact .inr (.inl ⟨by simpa only [gi_setL, gi_si, gl_si, gi_sl, gl_sl, row_si, row_sl, Nat.reduceEqDiff, reduceIte, e] using y1, b, y2, by simpa only [gi_setL, gi_si, gl_si, gi_sl, gl_sl, row_si, row_sl, Nat.reduceEqDiff, reduceIte, e] using y3, by rw [v2]; simpa only [gi_si, gl_si, gi_sl, gl_sl, row_si, row_sl, Nat.reduceEqDiff, reduceIte, e] using y4⟩)
              · refine .inr (.inr ⟨s', n', y1, y2, by simpa only [gi_setL, gi_si, gl_si, gi_sl, gl_sl, row_si, row_sl, Nat.reduceEqDiff, reduceIte, e] using y3, by simpa only [gi_setL, gi_si, gl_si, gi_sl, gl_sl, row_si, row_sl, Nat.reduceEqDiff, reduceIte, e] using y4, by rw [v2]; simpa only [gi_si, gl_si, gi_sl, gl_sl, row_si, row_sl, Nat.reduceEqDiff, reduceIte, e] using y5, by rw [v2]; simpa only [gi_si, gl_si, gi_sl, gl_sl, row_si, row_sl, Nat.reduceEqDiff, reduceIte, e] using y6, fun es j hj => ?_⟩)
                rw [gl_setL]
                have := s3 (60 * d' + j)
                rw [if_neg (by omega)] at this
                have e0 : S'.2 43 (60 * d' + j) = gl T 43 (60 * d' + j) := this.trans (hC.2 _)
                rw [e0]; exact y7 es j hj
          · rw [v3, gl_setL]
            show _ = gl S' 43 k
            rw [s3]
            by_cases e : 60 * d ≤ k ∧ k < 60 * d + 60
            · rw [if_pos e, if_pos e]
            · rw [if_neg e, if_neg e]
              exact (hSh.2 k hk).trans (hC.2 k).symm
        · rw [if_neg h4, if_neg h4]; exact ⟨_, _, _, rfl, rfl, hRR'⟩
      · rw [if_neg h3, if_neg h3]; exact ⟨_, _, _, rfl, rfl, hRR'⟩
    · rw [if_neg h2, if_neg h2]; exact ⟨_, _, _, rfl, rfl, hRR'⟩
  · rw [if_neg h, if_neg h]; exact ⟨_, _, _, rfl, rfl, hRR'⟩
